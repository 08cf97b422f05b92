/-! walks (by program) -/
theorem c_M_readsRule_0 {l : Launch} {f : Nat} {M : oM} {K : Int × oM → Prop} (H : okp (p_M_readsRule f M) K) : oKf l m_M_readsRule 9 [vr 57] M K := by
  refine oK_intro (lv := [vr 57, vu]) (by decide +kernel) (Nat.le_of_ble_eq_true rfl) rfl ?_
  have h116 : ∀ (M : oM), okp (p_M_readsRule_B116 f M) K → oJ l m_M_readsRule (oEf 9 K) 0 0 116 [vr 57, vu] [] WD M := by
    intro  M H
    refine oj_ald0 (pc := 116) (by decide +kernel) ?_
    refine oj_getR' (pc := 117) f_M_41 s_57_21 (by decide +kernel) ?_
    refine oj_ald0 (pc := 120) (by decide +kernel) ?_
    refine oj_getI' (pc := 121) (ki := 15) f_M_243 s_57_15 rfl (by decide +kernel) ?_
    refine oj_ald0 (pc := 124) (by decide +kernel) ?_
    refine oj_getI' (pc := 125) (ki := 13) f_M_189 s_57_13 rfl (by decide +kernel) ?_
    refine oj_iast (pc := 128) (NN := 16) a_68 rfl (by decide +kernel) H (fun H => ?_)
    have H := okp_lt H
    refine oj_ald0 (pc := 129) (by decide +kernel) ?_
    refine of_Vi (pc := 130) (as := []) v_M_246 o_57 rfl rfl (Nat.le_of_ble_eq_true rfl) (by decide +kernel) (by decide) rfl (c_M_readsCondition_0 (okp_bind H)) (fun r M H => ?_)
    refine oj_if_ne (pc := 133) (off := 5) (tgt := 138) (by decide +kernel) (by decide) H (fun _ H => ?_) (fun _ H => ?_)
    · refine oj_ald0 (pc := 138) (by decide +kernel) ?_
      refine oj_getR' (pc := 139) f_M_44 s_57_22 (by decide +kernel) ?_
      refine oj_ald0 (pc := 142) (by decide +kernel) ?_
      refine oj_getI' (pc := 143) (ki := 15) f_M_243 s_57_15 rfl (by decide +kernel) ?_
      refine oj_ald0 (pc := 146) (by decide +kernel) ?_
      refine oj_getI' (pc := 147) (ki := 13) f_M_189 s_57_13 rfl (by decide +kernel) ?_
      refine oj_iast (pc := 150) (NN := 16) a_69 rfl (by decide +kernel) H (fun H => ?_)
      have H := okp_lt H
      refine oj_ald0 (pc := 151) (by decide +kernel) ?_
      refine oj_ald0 (pc := 152) (by decide +kernel) ?_
      refine oj_getI' (pc := 153) (ki := 15) f_M_243 s_57_15 rfl (by decide +kernel) ?_
      refine oj_iconst (pc := 156) (v := 1) ⟨by decide, by decide⟩ (by decide +kernel) ?_
      refine oj_iadd (pc := 157) (by decide +kernel) ?_
      refine oj_putI' (pc := 158) (ki := 15) f_M_243 s_57_15 rfl (by decide +kernel) ?_
      have H := okp_lt H
      refine oj_iconst (pc := 161) (v := 1) ⟨by decide, by decide⟩ (by decide +kernel) ?_
      exact oj_iret (pc := 162) (by decide +kernel) rfl rfl (Nat.le_refl _) (Nat.le_refl _) ⟨rfl, H⟩
    · refine oj_iconst (pc := 136) (v := 0) ⟨by decide, by decide⟩ (by decide +kernel) ?_
      exact oj_iret (pc := 137) (by decide +kernel) rfl rfl (Nat.le_refl _) (Nat.le_refl _) ⟨rfl, H⟩
  have h39 : ∀ (l1 : Int) (M : oM), okp (p_M_readsRule_B39 f l1 M) K → oJ l m_M_readsRule (oEf 9 K) 0 0 39 [vr 57, vi l1] [] WD M := by
    intro l1 M H
    refine oj_ald0 (pc := 39) (by decide +kernel) ?_
    refine oj_getI' (pc := 40) (ki := 15) f_M_243 s_57_15 rfl (by decide +kernel) ?_
    refine oj_bipush (pc := 43) (v := 16) ⟨by decide, by decide⟩ (by decide +kernel) ?_
    refine oj_icmp_ne (pc := 45) (off := 13) (tgt := 58) (by decide +kernel) (by decide) H (fun _ H => ?_) (fun _ H => ?_)
    · refine oj_ald0 (pc := 58) (by decide +kernel) ?_
      refine oj_getR' (pc := 59) f_M_35 s_57_19 (by decide +kernel) ?_
      refine oj_ald0 (pc := 62) (by decide +kernel) ?_
      refine oj_getI' (pc := 63) (ki := 15) f_M_243 s_57_15 rfl (by decide +kernel) ?_
      refine oj_ld1 (pc := 66) (by decide +kernel) ?_
      refine oj_iast (pc := 67) (NN := 16) a_66 rfl (by decide +kernel) H (fun H => ?_)
      have H := okp_lt H
      refine oj_ald0 (pc := 68) (by decide +kernel) ?_
      refine oj_ald0 (pc := 69) (by decide +kernel) ?_
      refine oj_getI' (pc := 70) (ki := 8) f_M_166 s_57_8 rfl (by decide +kernel) ?_
      refine oj_iconst (pc := 73) (v := 1) ⟨by decide, by decide⟩ (by decide +kernel) ?_
      refine oj_iadd (pc := 74) (by decide +kernel) ?_
      refine oj_putI' (pc := 75) (ki := 8) f_M_166 s_57_8 rfl (by decide +kernel) ?_
      have H := okp_lt H
      refine oj_ald0 (pc := 78) (by decide +kernel) ?_
      refine oj_getR' (pc := 79) f_M_38 s_57_20 (by decide +kernel) ?_
      refine oj_ald0 (pc := 82) (by decide +kernel) ?_
      refine oj_getI' (pc := 83) (ki := 15) f_M_243 s_57_15 rfl (by decide +kernel) ?_
      refine oj_ald0 (pc := 86) (by decide +kernel) ?_
      refine oj_getI' (pc := 87) (ki := 13) f_M_189 s_57_13 rfl (by decide +kernel) ?_
      refine oj_iast (pc := 90) (NN := 16) a_67 rfl (by decide +kernel) H (fun H => ?_)
      have H := okp_lt H
      refine oj_ald0 (pc := 91) (by decide +kernel) ?_
      refine oj_iconst (pc := 92) (v := 0) ⟨by decide, by decide⟩ (by decide +kernel) ?_
      refine oj_putI' (pc := 93) (ki := 12) f_M_193 s_57_12 rfl (by decide +kernel) ?_
      have H := okp_lt H
      refine oj_ald0 (pc := 96) (by decide +kernel) ?_
      refine oj_iconst (pc := 97) (v := 0) ⟨by decide, by decide⟩ (by decide +kernel) ?_
      refine oj_putI' (pc := 98) (ki := 14) f_M_196 s_57_14 rfl (by decide +kernel) ?_
      have H := okp_lt H
      refine oj_ld1 (pc := 101) (by decide +kernel) ?_
      refine oj_bipush (pc := 102) (v := 115) ⟨by decide, by decide⟩ (by decide +kernel) ?_
      refine oj_icmp_eq (pc := 104) (off := 12) (tgt := 116) (by decide +kernel) (by decide) H (fun _ H => ?_) (fun _ H => ?_)
      · refine oj_le (lv' := [_, vu]) ⟨Or.inr rfl, Or.inl rfl, trivial⟩ ?_
        exact h116  _ H
      · refine oj_ald0 (pc := 107) (by decide +kernel) ?_
        refine of_Vi (pc := 108) (as := []) v_M_228 o_57 rfl rfl (Nat.le_of_ble_eq_true rfl) (by decide +kernel) (by decide) rfl (c_M_readsSum_0 (okp_bind H)) (fun r M H => ?_)
        refine oj_if_ne (pc := 111) (off := 5) (tgt := 116) (by decide +kernel) (by decide) H (fun _ H => ?_) (fun _ H => ?_)
        · refine oj_le (lv' := [_, vu]) ⟨Or.inr rfl, Or.inl rfl, trivial⟩ ?_
          exact h116  _ H
        · refine oj_iconst (pc := 114) (v := 0) ⟨by decide, by decide⟩ (by decide +kernel) ?_
          exact oj_iret (pc := 115) (by decide +kernel) rfl rfl (Nat.le_refl _) (Nat.le_refl _) ⟨rfl, H⟩
    · refine oj_ald0 (pc := 48) (by decide +kernel) ?_
      refine oj_iconst (pc := 49) (v := 4) ⟨by decide, by decide⟩ (by decide +kernel) ?_
      refine oj_ald0 (pc := 50) (by decide +kernel) ?_
      refine oj_getI' (pc := 51) (ki := 8) f_M_166 s_57_8 rfl (by decide +kernel) ?_
      refine of_Vi (pc := 54) (as := [_, _]) v_M_179 o_57 rfl rfl (Nat.le_of_ble_eq_true rfl) (by decide +kernel) (by decide) rfl (c_M_wrongAt_0 (okp_bind H)) (fun r M H => ?_)
      exact oj_zret (pc := 57) (by decide +kernel) rfl (Nat.le_refl _) (Nat.le_refl _) H (fun H => ⟨rfl, H⟩)
  refine oj_ald0 (pc := 0) (by decide +kernel) ?_
  refine of_Vi (pc := 1) (as := []) v_M_172 o_57 rfl rfl (Nat.le_of_ble_eq_true rfl) (by decide +kernel) (by decide) rfl (c_M_here_0 (okp_bind H)) (fun r M H => ?_)
  refine oj_st1 (pc := 4) (by decide +kernel) (by decide +kernel) ?_
  refine oj_ld1 (pc := 5) (by decide +kernel) ?_
  refine oj_bipush (pc := 6) (v := 101) ⟨by decide, by decide⟩ (by decide +kernel) ?_
  refine oj_icmp_eq (pc := 8) (off := 31) (tgt := 39) (by decide +kernel) (by decide) H (fun _ H => ?_) (fun _ H => ?_)
  · exact h39 _ _ H
  · refine oj_ld1 (pc := 11) (by decide +kernel) ?_
    refine oj_bipush (pc := 12) (v := 105) ⟨by decide, by decide⟩ (by decide +kernel) ?_
    refine oj_icmp_eq (pc := 14) (off := 25) (tgt := 39) (by decide +kernel) (by decide) H (fun _ H => ?_) (fun _ H => ?_)
    · exact h39 _ _ H
    · refine oj_ld1 (pc := 17) (by decide +kernel) ?_
      refine oj_bipush (pc := 18) (v := 114) ⟨by decide, by decide⟩ (by decide +kernel) ?_
      refine oj_icmp_eq (pc := 20) (off := 19) (tgt := 39) (by decide +kernel) (by decide) H (fun _ H => ?_) (fun _ H => ?_)
      · exact h39 _ _ H
      · refine oj_ld1 (pc := 23) (by decide +kernel) ?_
        refine oj_bipush (pc := 24) (v := 115) ⟨by decide, by decide⟩ (by decide +kernel) ?_
        refine oj_icmp_eq (pc := 26) (off := 13) (tgt := 39) (by decide +kernel) (by decide) H (fun _ H => ?_) (fun _ H => ?_)
        · exact h39 _ _ H
        · refine oj_ald0 (pc := 29) (by decide +kernel) ?_
          refine oj_iconst (pc := 30) (v := 1) ⟨by decide, by decide⟩ (by decide +kernel) ?_
          refine oj_ald0 (pc := 31) (by decide +kernel) ?_
          refine oj_getI' (pc := 32) (ki := 8) f_M_166 s_57_8 rfl (by decide +kernel) ?_
          refine of_Vi (pc := 35) (as := [_, _]) v_M_179 o_57 rfl rfl (Nat.le_of_ble_eq_true rfl) (by decide +kernel) (by decide) rfl (c_M_wrongAt_0 (okp_bind H)) (fun r M H => ?_)
          exact oj_zret (pc := 38) (by decide +kernel) rfl (Nat.le_refl _) (Nat.le_refl _) H (fun H => ⟨rfl, H⟩)
theorem c_M_takes_0 {l : Launch} {f : Nat} {l1 : Int} {M : oM} {K : Int × oM → Prop} (H : okp (p_M_takes f l1 M) K) : oKf l m_M_takes 3 [vr 57, vi l1] M K := by
  refine oK_intro (lv := [vr 57, vi l1]) (by decide +kernel) (Nat.le_of_ble_eq_true rfl) rfl ?_
  refine oj_ald0 (pc := 0) (by decide +kernel) ?_
  refine of_Vi (pc := 1) (as := []) v_M_172 o_57 rfl rfl (Nat.le_of_ble_eq_true rfl) (by decide +kernel) (by decide) rfl (c_M_here_0 (okp_bind H)) (fun r M H => ?_)
  refine oj_ld1 (pc := 4) (by decide +kernel) ?_
  refine oj_icmp_eq (pc := 5) (off := 13) (tgt := 18) (by decide +kernel) (by decide) H (fun _ H => ?_) (fun _ H => ?_)
  · refine oj_ald0 (pc := 18) (by decide +kernel) ?_
    refine oj_ald0 (pc := 19) (by decide +kernel) ?_
    refine oj_getI' (pc := 20) (ki := 8) f_M_166 s_57_8 rfl (by decide +kernel) ?_
    refine oj_iconst (pc := 23) (v := 1) ⟨by decide, by decide⟩ (by decide +kernel) ?_
    refine oj_iadd (pc := 24) (by decide +kernel) ?_
    refine oj_putI' (pc := 25) (ki := 8) f_M_166 s_57_8 rfl (by decide +kernel) ?_
    have H := okp_lt H
    refine oj_iconst (pc := 28) (v := 1) ⟨by decide, by decide⟩ (by decide +kernel) ?_
    exact oj_iret (pc := 29) (by decide +kernel) rfl rfl (Nat.le_refl _) (Nat.le_refl _) ⟨rfl, H⟩
  · refine oj_ald0 (pc := 8) (by decide +kernel) ?_
    refine oj_iconst (pc := 9) (v := 1) ⟨by decide, by decide⟩ (by decide +kernel) ?_
    refine oj_ald0 (pc := 10) (by decide +kernel) ?_
    refine oj_getI' (pc := 11) (ki := 8) f_M_166 s_57_8 rfl (by decide +kernel) ?_
    refine of_Vi (pc := 14) (as := [_, _]) v_M_179 o_57 rfl rfl (Nat.le_of_ble_eq_true rfl) (by decide +kernel) (by decide) rfl (c_M_wrongAt_0 (okp_bind H)) (fun r M H => ?_)
    exact oj_zret (pc := 17) (by decide +kernel) rfl (Nat.le_refl _) (Nat.le_refl _) H (fun H => ⟨rfl, H⟩)
theorem c_M_law_0 {l : Launch} {f : Nat} {l1 : Int} {M : oM} {K : Int × oM → Prop} (H : okp (p_M_law f l1 M) K) : oKf l m_M_law 10 [vr 57, vi l1] M K := by
  refine oK_intro (lv := [vr 57, vi l1, vu, vu]) (by decide +kernel) (Nat.le_of_ble_eq_true rfl) rfl ?_
  have h138 : ∀ (g : Nat) (l3 : Int) (M : oM), okp (iter (p_M_law_L138 f) g (l3, M)) K → oJ l m_M_law (oEf 10 K) 0 0 138 [vr 57, vu, vu, vi l3] [] WD M := by
    intro g l3 M H
    have HL := fun hs => iter_J' (Jh := fun s => oJ l m_M_law (oEf 10 K) 0 0 138 [vr 57, vu, vu, vi s.1] [] WD s.2) (G := K) hs g (l3, M) H
    refine HL ?_
    intro K138 s i138 e138 H
    obtain ⟨l3, M⟩ := s
    show oJ l m_M_law (oEf 10 K) 0 0 138 [vr 57, vu, vu, vi l3] [] WD M
    refine oj_ld3 (pc := 138) (by decide +kernel) ?_
    refine oj_ald0 (pc := 139) (by decide +kernel) ?_
    refine oj_getI' (pc := 140) (ki := 15) f_M_243 s_57_15 rfl (by decide +kernel) ?_
    refine oj_icmp_ge (pc := 143) (off := 57) (tgt := 200) (by decide +kernel) (by decide) H (fun _ H => ?_) (fun _ H => ?_)
    · refine oj_ald0 (pc := 200) (by decide +kernel) ?_
      refine oj_getI' (pc := 201) (ki := 15) f_M_243 s_57_15 rfl (by decide +kernel) ?_
      have H := e138 _ H
      exact oj_iret (pc := 204) (by decide +kernel) rfl rfl (Nat.le_refl _) (Nat.le_refl _) ⟨rfl, H⟩
    · refine oj_ald0 (pc := 146) (by decide +kernel) ?_
      refine oj_getR' (pc := 147) f_M_50 s_57_24 (by decide +kernel) ?_
      refine oj_ld3 (pc := 150) (by decide +kernel) ?_
      refine oj_ald0 (pc := 151) (by decide +kernel) ?_
      refine oj_getR' (pc := 152) f_M_35 s_57_19 (by decide +kernel) ?_
      refine oj_ld3 (pc := 155) (by decide +kernel) ?_
      refine oj_iald (pc := 156) (NN := 16) a_66 rfl (by decide +kernel) H (fun H => ?_)
      refine oj_iast (pc := 157) (NN := 16) a_71 rfl (by decide +kernel) H (fun H => ?_)
      have H := okp_lt H
      refine oj_ald0 (pc := 158) (by decide +kernel) ?_
      refine oj_getR' (pc := 159) f_M_53 s_57_25 (by decide +kernel) ?_
      refine oj_ld3 (pc := 162) (by decide +kernel) ?_
      refine oj_ald0 (pc := 163) (by decide +kernel) ?_
      refine oj_getR' (pc := 164) f_M_38 s_57_20 (by decide +kernel) ?_
      refine oj_ld3 (pc := 167) (by decide +kernel) ?_
      refine oj_iald (pc := 168) (NN := 16) a_67 rfl (by decide +kernel) H (fun H => ?_)
      refine oj_iast (pc := 169) (NN := 16) a_72 rfl (by decide +kernel) H (fun H => ?_)
      have H := okp_lt H
      refine oj_ald0 (pc := 170) (by decide +kernel) ?_
      refine oj_getR' (pc := 171) f_M_56 s_57_26 (by decide +kernel) ?_
      refine oj_ld3 (pc := 174) (by decide +kernel) ?_
      refine oj_ald0 (pc := 175) (by decide +kernel) ?_
      refine oj_getR' (pc := 176) f_M_41 s_57_21 (by decide +kernel) ?_
      refine oj_ld3 (pc := 179) (by decide +kernel) ?_
      refine oj_iald (pc := 180) (NN := 16) a_68 rfl (by decide +kernel) H (fun H => ?_)
      refine oj_iast (pc := 181) (NN := 16) a_73 rfl (by decide +kernel) H (fun H => ?_)
      have H := okp_lt H
      refine oj_ald0 (pc := 182) (by decide +kernel) ?_
      refine oj_getR' (pc := 183) f_M_59 s_57_27 (by decide +kernel) ?_
      refine oj_ld3 (pc := 186) (by decide +kernel) ?_
      refine oj_ald0 (pc := 187) (by decide +kernel) ?_
      refine oj_getR' (pc := 188) f_M_44 s_57_22 (by decide +kernel) ?_
      refine oj_ld3 (pc := 191) (by decide +kernel) ?_
      refine oj_iald (pc := 192) (NN := 16) a_69 rfl (by decide +kernel) H (fun H => ?_)
      refine oj_iast (pc := 193) (NN := 16) a_74 rfl (by decide +kernel) H (fun H => ?_)
      have H := okp_lt H
      refine oj_inc3 (pc := 194) (d := 1) (by decide +kernel) (by decide +kernel) ?_
      have H := okp_lt H
      refine oj_goto (pc := 197) (off := -59) (tgt := 138) (by decide +kernel) (by decide) ?_
      have H := i138 _ H
      exact H
  have x110 : ∀ (M : oM), okp (p_M_law_X110 f M) K → oJ l m_M_law (oEf 10 K) 0 0 136 [vr 57, vu, vu, vu] [] WD M := by
    intro  M H
    unfold p_M_law_X110 at H
    refine oj_iconst (pc := 136) (v := 0) ⟨by decide, by decide⟩ (by decide +kernel) ?_
    refine oj_st3 (pc := 137) (by decide +kernel) (by decide +kernel) ?_
    exact h138 _ _ _ H
  have h110 : ∀ (g : Nat) (l3 : Int) (M : oM), okp (iter (p_M_law_L110 f) g (l3, M)) (fun r => okp (p_M_law_X110 f r) K) → oJ l m_M_law (oEf 10 K) 0 0 110 [vr 57, vu, vu, vi l3] [] WD M := by
    intro g l3 M H
    have HL := fun hs => iter_J' (Jh := fun s => oJ l m_M_law (oEf 10 K) 0 0 110 [vr 57, vu, vu, vi s.1] [] WD s.2) (G := (fun r => okp (p_M_law_X110 f r) K)) hs g (l3, M) H
    refine HL ?_
    intro K110 s i110 e110 H
    obtain ⟨l3, M⟩ := s
    show oJ l m_M_law (oEf 10 K) 0 0 110 [vr 57, vu, vu, vi l3] [] WD M
    refine oj_ld3 (pc := 110) (by decide +kernel) ?_
    refine oj_ald0 (pc := 111) (by decide +kernel) ?_
    refine oj_getI' (pc := 112) (ki := 13) f_M_189 s_57_13 rfl (by decide +kernel) ?_
    refine oj_icmp_ge (pc := 115) (off := 21) (tgt := 136) (by decide +kernel) (by decide) H (fun _ H => ?_) (fun _ H => ?_)
    · refine oj_le (lv' := [_, vu, vu, vu]) ⟨Or.inr rfl, Or.inr rfl, Or.inr rfl, Or.inl rfl, trivial⟩ ?_
      have H := e110 _ H
      exact x110  _ H
    · refine oj_ald0 (pc := 118) (by decide +kernel) ?_
      refine oj_getR' (pc := 119) f_M_47 s_57_23 (by decide +kernel) ?_
      refine oj_ld3 (pc := 122) (by decide +kernel) ?_
      refine oj_ald0 (pc := 123) (by decide +kernel) ?_
      refine oj_getR' (pc := 124) f_M_29 s_57_17 (by decide +kernel) ?_
      refine oj_ld3 (pc := 127) (by decide +kernel) ?_
      refine oj_iald (pc := 128) (NN := 260) a_64 rfl (by decide +kernel) H (fun H => ?_)
      refine oj_iast (pc := 129) (NN := 260) a_70 rfl (by decide +kernel) H (fun H => ?_)
      have H := okp_lt H
      refine oj_inc3 (pc := 130) (d := 1) (by decide +kernel) (by decide +kernel) ?_
      have H := okp_lt H
      refine oj_goto (pc := 133) (off := -23) (tgt := 110) (by decide +kernel) (by decide) ?_
      have H := i110 _ H
      exact H
  have x46 : ∀ (l2 : Int) (M : oM), okp (p_M_law_X46 f (l2, M)) K → oJ l m_M_law (oEf 10 K) 0 0 86 [vr 57, vu, vi l2, vu] [] WD M := by
    intro l2 M H
    unfold p_M_law_X46 at H
    refine oj_ald0 (pc := 86) (by decide +kernel) ?_
    refine oj_iconst (pc := 87) (v := 0) ⟨by decide, by decide⟩ (by decide +kernel) ?_
    refine oj_putI' (pc := 88) (ki := 7) f_M_160 s_57_7 rfl (by decide +kernel) ?_
    have H := okp_lt H
    refine oj_ld2 (pc := 91) (by decide +kernel) ?_
    refine oj_if_ne (pc := 92) (off := 8) (tgt := 100) (by decide +kernel) (by decide) H (fun _ H => ?_) (fun _ H => ?_)
    · refine oj_ald0 (pc := 100) (by decide +kernel) ?_
      refine oj_ald0 (pc := 101) (by decide +kernel) ?_
      refine oj_getI' (pc := 102) (ki := 15) f_M_243 s_57_15 rfl (by decide +kernel) ?_
      refine oj_putI' (pc := 105) (ki := 16) f_M_255 s_57_16 rfl (by decide +kernel) ?_
      have H := okp_lt H
      refine oj_iconst (pc := 108) (v := 0) ⟨by decide, by decide⟩ (by decide +kernel) ?_
      refine oj_st3 (pc := 109) (by decide +kernel) (by decide +kernel) ?_
      refine oj_le (lv' := [_, vu, vu, _]) ⟨Or.inr rfl, Or.inr rfl, Or.inl rfl, Or.inr rfl, trivial⟩ ?_
      exact h110 _ _ _ (okp_bind H)
    · refine oj_ald0 (pc := 95) (by decide +kernel) ?_
      refine oj_getI' (pc := 96) (ki := 10) f_M_176 s_57_10 rfl (by decide +kernel) ?_
      exact oj_iret (pc := 99) (by decide +kernel) rfl rfl (Nat.le_refl _) (Nat.le_refl _) ⟨rfl, H⟩
  have h46 : ∀ (g : Nat) (l2 : Int) (M : oM), okp (iter (p_M_law_L46 f) g (l2, M)) (fun r => okp (p_M_law_X46 f r) K) → oJ l m_M_law (oEf 10 K) 0 0 46 [vr 57, vu, vi l2, vu] [] WD M := by
    intro g l2 M H
    have HL := fun hs => iter_J' (Jh := fun s => oJ l m_M_law (oEf 10 K) 0 0 46 [vr 57, vu, vi s.1, vu] [] WD s.2) (G := (fun r => okp (p_M_law_X46 f r) K)) hs g (l2, M) H
    refine HL ?_
    intro K46 s i46 e46 H
    obtain ⟨l2, M⟩ := s
    show oJ l m_M_law (oEf 10 K) 0 0 46 [vr 57, vu, vi l2, vu] [] WD M
    have h82 : ∀ (s0 : Int) (M : oM), okp (p_M_law_B82_46 f s0 M) K46 → oJ l m_M_law (oEf 10 K) 0 0 82 [vr 57, vu, vu, vu] [vi s0] WD M := by
      intro s0 M H
      refine oj_st2 (pc := 82) (by decide +kernel) (by decide +kernel) ?_
      refine oj_goto (pc := 83) (off := -37) (tgt := 46) (by decide +kernel) (by decide) ?_
      have H := i46 _ H
      exact H
    have h81 : ∀ (M : oM), okp (p_M_law_B81_46 f M) K46 → oJ l m_M_law (oEf 10 K) 0 0 81 [vr 57, vu, vu, vu] [] WD M := by
      intro  M H
      refine oj_iconst (pc := 81) (v := 0) ⟨by decide, by decide⟩ (by decide +kernel) ?_
      exact h82 _ _ H
    refine oj_ld2 (pc := 46) (by decide +kernel) ?_
    refine oj_if_eq (pc := 47) (off := 39) (tgt := 86) (by decide +kernel) (by decide) H (fun _ H => ?_) (fun _ H => ?_)
    · have H := e46 _ H
      exact x46 _ _ H
    · refine oj_ald0 (pc := 50) (by decide +kernel) ?_
      refine oj_getI' (pc := 51) (ki := 8) f_M_166 s_57_8 rfl (by decide +kernel) ?_
      refine oj_ald0 (pc := 54) (by decide +kernel) ?_
      refine oj_getI' (pc := 55) (ki := 9) f_M_169 s_57_9 rfl (by decide +kernel) ?_
      refine oj_icmp_ge (pc := 58) (off := 28) (tgt := 86) (by decide +kernel) (by decide) H (fun _ H => ?_) (fun _ H => ?_)
      · have H := e46 _ H
        exact x46 _ _ H
      · refine oj_ald0 (pc := 61) (by decide +kernel) ?_
        refine oj_bipush (pc := 62) (v := 59) ⟨by decide, by decide⟩ (by decide +kernel) ?_
        refine of_Vi (pc := 64) (as := [_]) v_M_252 o_57 rfl rfl (Nat.le_of_ble_eq_true rfl) (by decide +kernel) (by decide) rfl (c_M_takes_0 (okp_bind H)) (fun r M H => ?_)
        refine oj_if_eq (pc := 67) (off := 14) (tgt := 81) (by decide +kernel) (by decide) H (fun _ H => ?_) (fun _ H => ?_)
        · refine oj_le (lv' := [_, vu, vu, vu]) ⟨Or.inr rfl, Or.inr rfl, Or.inl rfl, Or.inr rfl, trivial⟩ ?_
          exact h81  _ H
        · refine oj_ald0 (pc := 70) (by decide +kernel) ?_
          refine of_Vi (pc := 71) (as := []) v_M_249 o_57 rfl rfl (Nat.le_of_ble_eq_true rfl) (by decide +kernel) (by decide) rfl (c_M_readsRule_0 (okp_bind H)) (fun r M H => ?_)
          refine oj_if_eq (pc := 74) (off := 7) (tgt := 81) (by decide +kernel) (by decide) H (fun _ H => ?_) (fun _ H => ?_)
          · refine oj_le (lv' := [_, vu, vu, vu]) ⟨Or.inr rfl, Or.inr rfl, Or.inl rfl, Or.inr rfl, trivial⟩ ?_
            exact h81  _ H
          · refine oj_iconst (pc := 77) (v := 1) ⟨by decide, by decide⟩ (by decide +kernel) ?_
            refine oj_goto (pc := 78) (off := 4) (tgt := 82) (by decide +kernel) (by decide) ?_
            refine oj_le (lv' := [_, vu, vu, vu]) ⟨Or.inr rfl, Or.inr rfl, Or.inl rfl, Or.inr rfl, trivial⟩ ?_
            exact h82 _ _ H
  refine oj_ld1 (pc := 0) (by decide +kernel) ?_
  refine oj_iconst (pc := 1) (v := 1) ⟨by decide, by decide⟩ (by decide +kernel) ?_
  refine oj_sipush (pc := 2) (v := 240) ⟨by decide, by decide⟩ (by decide +kernel) ?_
  refine of_Si (pc := 5) (as := [_, _, _]) v_M_123 rfl rfl (Nat.le_of_ble_eq_true rfl) (by decide +kernel) (by decide) rfl (c_M_in_0 (okp_bind H)) (fun r M H => ?_)
  refine oj_if_eq (pc := 8) (off := 11) (tgt := 19) (by decide +kernel) (by decide) H (fun _ H => ?_) (fun _ H => ?_)
  · refine oj_iconst (pc := 19) (v := -1) ⟨by decide, by decide⟩ (by decide +kernel) ?_
    exact oj_iret (pc := 20) (by decide +kernel) rfl rfl (Nat.le_refl _) (Nat.le_refl _) ⟨rfl, H⟩
  · refine oj_ld1 (pc := 11) (by decide +kernel) ?_
    refine oj_ald0 (pc := 12) (by decide +kernel) ?_
    refine oj_getI' (pc := 13) (ki := 7) f_M_160 s_57_7 rfl (by decide +kernel) ?_
    refine oj_icmp_le (pc := 16) (off := 5) (tgt := 21) (by decide +kernel) (by decide) H (fun _ H => ?_) (fun _ H => ?_)
    · refine oj_ald0 (pc := 21) (by decide +kernel) ?_
      refine oj_iconst (pc := 22) (v := 0) ⟨by decide, by decide⟩ (by decide +kernel) ?_
      refine oj_putI' (pc := 23) (ki := 8) f_M_166 s_57_8 rfl (by decide +kernel) ?_
      have H := okp_lt H
      refine oj_ald0 (pc := 26) (by decide +kernel) ?_
      refine oj_ld1 (pc := 27) (by decide +kernel) ?_
      refine oj_putI' (pc := 28) (ki := 9) f_M_169 s_57_9 rfl (by decide +kernel) ?_
      have H := okp_lt H
      refine oj_ald0 (pc := 31) (by decide +kernel) ?_
      refine oj_iconst (pc := 32) (v := 0) ⟨by decide, by decide⟩ (by decide +kernel) ?_
      refine oj_putI' (pc := 33) (ki := 13) f_M_189 s_57_13 rfl (by decide +kernel) ?_
      have H := okp_lt H
      refine oj_ald0 (pc := 36) (by decide +kernel) ?_
      refine oj_iconst (pc := 37) (v := 0) ⟨by decide, by decide⟩ (by decide +kernel) ?_
      refine oj_putI' (pc := 38) (ki := 15) f_M_243 s_57_15 rfl (by decide +kernel) ?_
      have H := okp_lt H
      refine oj_ald0 (pc := 41) (by decide +kernel) ?_
      refine of_Vi (pc := 42) (as := []) v_M_249 o_57 rfl rfl (Nat.le_of_ble_eq_true rfl) (by decide +kernel) (by decide) rfl (c_M_readsRule_0 (okp_bind H)) (fun r M H => ?_)
      refine oj_st2 (pc := 45) (by decide +kernel) (by decide +kernel) ?_
      refine oj_le (lv' := [_, vu, _, vu]) ⟨Or.inr rfl, Or.inl rfl, Or.inr rfl, Or.inr rfl, trivial⟩ ?_
      exact h46 _ _ _ (okp_bind H)
    · refine oj_iconst (pc := 19) (v := -1) ⟨by decide, by decide⟩ (by decide +kernel) ?_
      exact oj_iret (pc := 20) (by decide +kernel) rfl rfl (Nat.le_refl _) (Nat.le_refl _) ⟨rfl, H⟩
theorem c_M_debtOf_0 {l : Launch} {f : Nat} {l1 l2 : Int} {M : oM} {K : Int × oM → Prop} (H : okp (p_M_debtOf f l1 l2 M) K) : oKf l m_M_debtOf 2 [vr 57, vi l1, vi l2] M K := by
  refine oK_intro (lv := [vr 57, vi l1, vi l2]) (by decide +kernel) (Nat.le_of_ble_eq_true rfl) rfl ?_
  refine oj_ald0 (pc := 0) (by decide +kernel) ?_
  refine oj_getR' (pc := 1) f_M_7 s_57_0 (by decide +kernel) ?_
  refine oj_iconst (pc := 4) (v := 0) ⟨by decide, by decide⟩ (by decide +kernel) ?_
  refine oj_bipush (pc := 5) (v := 10) ⟨by decide, by decide⟩ (by decide +kernel) ?_
  refine oj_ld1 (pc := 7) (by decide +kernel) ?_
  refine oj_imul (pc := 8) (by decide +kernel) ?_
  refine oj_iadd (pc := 9) (by decide +kernel) ?_
  refine oj_ld2 (pc := 10) (by decide +kernel) ?_
  refine oj_iadd (pc := 11) (by decide +kernel) ?_
  refine oj_iald (pc := 12) (NN := 159) a_58 rfl (by decide +kernel) H (fun H => ?_)
  exact oj_iret (pc := 13) (by decide +kernel) rfl rfl (Nat.le_refl _) (Nat.le_refl _) ⟨rfl, H⟩
theorem c_M_owesAll_0 {l : Launch} {f : Nat} {l1 : Int} {M : oM} {K : Int × oM → Prop} (H : okp (p_M_owesAll f l1 M) K) : oKf l m_M_owesAll 3 [vr 57, vi l1] M K := by
  refine oK_intro (lv := [vr 57, vi l1, vu, vu]) (by decide +kernel) (Nat.le_of_ble_eq_true rfl) rfl ?_
  have h4 : ∀ (g : Nat) (l1 l2 l3 : Int) (M : oM), okp (iter (p_M_owesAll_L4 f l1) g (l2, l3, M)) K → oJ l m_M_owesAll (oEf 3 K) 0 0 4 [vr 57, vi l1, vi l2, vi l3] [] WD M := by
    intro g l1 l2 l3 M H
    have HL := fun hs => iter_J' (Jh := fun s => oJ l m_M_owesAll (oEf 3 K) 0 0 4 [vr 57, vi l1, vi s.1, vi s.2.1] [] WD s.2.2) (G := K) hs g (l2, l3, M) H
    refine HL ?_
    intro K4 s i4 e4 H
    obtain ⟨l2, l3, M⟩ := s
    show oJ l m_M_owesAll (oEf 3 K) 0 0 4 [vr 57, vi l1, vi l2, vi l3] [] WD M
    refine oj_ld3 (pc := 4) (by decide +kernel) ?_
    refine oj_bipush (pc := 5) (v := 10) ⟨by decide, by decide⟩ (by decide +kernel) ?_
    refine oj_icmp_ge (pc := 7) (off := 18) (tgt := 25) (by decide +kernel) (by decide) H (fun _ H => ?_) (fun _ H => ?_)
    · refine oj_ld2 (pc := 25) (by decide +kernel) ?_
      have H := e4 _ H
      exact oj_iret (pc := 26) (by decide +kernel) rfl rfl (Nat.le_refl _) (Nat.le_refl _) ⟨rfl, H⟩
    · refine oj_ld2 (pc := 10) (by decide +kernel) ?_
      refine oj_ald0 (pc := 11) (by decide +kernel) ?_
      refine oj_ld1 (pc := 12) (by decide +kernel) ?_
      refine oj_ld3 (pc := 13) (by decide +kernel) ?_
      refine of_Vi (pc := 14) (as := [_, _]) v_M_147 o_57 rfl rfl (Nat.le_of_ble_eq_true rfl) (by decide +kernel) (by decide) rfl (c_M_debtOf_0 (okp_bind H)) (fun r M H => ?_)
      refine oj_iadd (pc := 17) (by decide +kernel) ?_
      refine oj_st2 (pc := 18) (by decide +kernel) (by decide +kernel) ?_
      have H := okp_lt H
      refine oj_inc3 (pc := 19) (d := 1) (by decide +kernel) (by decide +kernel) ?_
      have H := okp_lt H
      refine oj_goto (pc := 22) (off := -18) (tgt := 4) (by decide +kernel) (by decide) ?_
      have H := i4 _ H
      exact H
  refine oj_iconst (pc := 0) (v := 0) ⟨by decide, by decide⟩ (by decide +kernel) ?_
  refine oj_st2 (pc := 1) (by decide +kernel) (by decide +kernel) ?_
  refine oj_iconst (pc := 2) (v := 0) ⟨by decide, by decide⟩ (by decide +kernel) ?_
  refine oj_st3 (pc := 3) (by decide +kernel) (by decide +kernel) ?_
  exact h4 _ _ _ _ _ H
theorem c_M_owedInAll_0 {l : Launch} {f : Nat} {M : oM} {K : Int × oM → Prop} (H : okp (p_M_owedInAll f M) K) : oKf l m_M_owedInAll 4 [vr 57] M K := by
  refine oK_intro (lv := [vr 57, vu, vu]) (by decide +kernel) (Nat.le_of_ble_eq_true rfl) rfl ?_
  have h4 : ∀ (g : Nat) (l1 l2 : Int) (M : oM), okp (iter (p_M_owedInAll_L4 f) g (l1, l2, M)) K → oJ l m_M_owedInAll (oEf 4 K) 0 0 4 [vr 57, vi l1, vi l2] [] WD M := by
    intro g l1 l2 M H
    have HL := fun hs => iter_J' (Jh := fun s => oJ l m_M_owedInAll (oEf 4 K) 0 0 4 [vr 57, vi s.1, vi s.2.1] [] WD s.2.2) (G := K) hs g (l1, l2, M) H
    refine HL ?_
    intro K4 s i4 e4 H
    obtain ⟨l1, l2, M⟩ := s
    show oJ l m_M_owedInAll (oEf 4 K) 0 0 4 [vr 57, vi l1, vi l2] [] WD M
    refine oj_ld2 (pc := 4) (by decide +kernel) ?_
    refine oj_bipush (pc := 5) (v := 10) ⟨by decide, by decide⟩ (by decide +kernel) ?_
    refine oj_icmp_ge (pc := 7) (off := 17) (tgt := 24) (by decide +kernel) (by decide) H (fun _ H => ?_) (fun _ H => ?_)
    · refine oj_ld1 (pc := 24) (by decide +kernel) ?_
      have H := e4 _ H
      exact oj_iret (pc := 25) (by decide +kernel) rfl rfl (Nat.le_refl _) (Nat.le_refl _) ⟨rfl, H⟩
    · refine oj_ld1 (pc := 10) (by decide +kernel) ?_
      refine oj_ald0 (pc := 11) (by decide +kernel) ?_
      refine oj_ld2 (pc := 12) (by decide +kernel) ?_
      refine of_Vi (pc := 13) (as := [_]) v_M_150 o_57 rfl rfl (Nat.le_of_ble_eq_true rfl) (by decide +kernel) (by decide) rfl (c_M_owesAll_0 (okp_bind H)) (fun r M H => ?_)
      refine oj_iadd (pc := 16) (by decide +kernel) ?_
      refine oj_st1 (pc := 17) (by decide +kernel) (by decide +kernel) ?_
      have H := okp_lt H
      refine oj_inc2 (pc := 18) (d := 1) (by decide +kernel) (by decide +kernel) ?_
      have H := okp_lt H
      refine oj_goto (pc := 21) (off := -17) (tgt := 4) (by decide +kernel) (by decide) ?_
      have H := i4 _ H
      exact H
  refine oj_iconst (pc := 0) (v := 0) ⟨by decide, by decide⟩ (by decide +kernel) ?_
  refine oj_st1 (pc := 1) (by decide +kernel) (by decide +kernel) ?_
  refine oj_iconst (pc := 2) (v := 0) ⟨by decide, by decide⟩ (by decide +kernel) ?_
  refine oj_st2 (pc := 3) (by decide +kernel) (by decide +kernel) ?_
  exact h4 _ _ _ _ H
theorem c_M_min_0 {l : Launch} {f : Nat} {l0 l1 : Int} {M : oM} {K : Int × oM → Prop} (H : okp (p_M_min f l0 l1 M) K) : oKf l m_M_min 2 [vi l0, vi l1] M K := by
  refine oK_intro (lv := [vi l0, vi l1]) (by decide +kernel) (Nat.le_of_ble_eq_true rfl) rfl ?_
  refine oj_ld0 (pc := 0) (by decide +kernel) ?_
  refine oj_ld1 (pc := 1) (by decide +kernel) ?_
  refine oj_icmp_ge (pc := 2) (off := 7) (tgt := 9) (by decide +kernel) (by decide) H (fun _ H => ?_) (fun _ H => ?_)
  · refine oj_ld1 (pc := 9) (by decide +kernel) ?_
    exact oj_iret (pc := 10) (by decide +kernel) rfl rfl (Nat.le_refl _) (Nat.le_refl _) ⟨rfl, H⟩
  · refine oj_ld0 (pc := 5) (by decide +kernel) ?_
    refine oj_goto (pc := 6) (off := 4) (tgt := 10) (by decide +kernel) (by decide) ?_
    exact oj_iret (pc := 10) (by decide +kernel) rfl rfl (Nat.le_refl _) (Nat.le_refl _) ⟨rfl, H⟩
theorem c_M_readsPerson_0 {l : Launch} {f : Nat} {l1 : Int} {M : oM} {K : Int × oM → Prop} (H : okp (p_M_readsPerson f l1 M) K) : oKf l m_M_readsPerson 4 [vr 57, vi l1] M K := by
  refine oK_intro (lv := [vr 57, vi l1]) (by decide +kernel) (Nat.le_of_ble_eq_true rfl) rfl ?_
  have h47 : ∀ (M : oM), okp (p_M_readsPerson_B47 f M) K → oJ l m_M_readsPerson (oEf 4 K) 0 0 47 [vr 57, vu] [] WD M := by
    intro  M H
    refine oj_ald0 (pc := 47) (by decide +kernel) ?_
    refine oj_ald0 (pc := 48) (by decide +kernel) ?_
    refine of_Vi (pc := 49) (as := []) v_M_172 o_57 rfl rfl (Nat.le_of_ble_eq_true rfl) (by decide +kernel) (by decide) rfl (c_M_here_0 (okp_bind H)) (fun r M H => ?_)
    refine oj_bipush (pc := 52) (v := 97) ⟨by decide, by decide⟩ (by decide +kernel) ?_
    refine oj_isub (pc := 54) (by decide +kernel) ?_
    refine oj_putI' (pc := 55) (ki := 11) f_M_182 s_57_11 rfl (by decide +kernel) ?_
    have H := okp_lt H
    refine oj_ald0 (pc := 58) (by decide +kernel) ?_
    refine oj_ald0 (pc := 59) (by decide +kernel) ?_
    refine oj_getI' (pc := 60) (ki := 11) f_M_182 s_57_11 rfl (by decide +kernel) ?_
    refine of_Vi (pc := 63) (as := [_]) v_M_135 o_57 rfl rfl (Nat.le_of_ble_eq_true rfl) (by decide +kernel) (by decide) rfl (c_M_isPerson_0 (okp_bind H)) (fun r M H => ?_)
    refine oj_if_ne (pc := 66) (off := 14) (tgt := 80) (by decide +kernel) (by decide) H (fun _ H => ?_) (fun _ H => ?_)
    · refine oj_ald0 (pc := 80) (by decide +kernel) ?_
      refine oj_ald0 (pc := 81) (by decide +kernel) ?_
      refine oj_getI' (pc := 82) (ki := 8) f_M_166 s_57_8 rfl (by decide +kernel) ?_
      refine oj_iconst (pc := 85) (v := 1) ⟨by decide, by decide⟩ (by decide +kernel) ?_
      refine oj_iadd (pc := 86) (by decide +kernel) ?_
      refine oj_putI' (pc := 87) (ki := 8) f_M_166 s_57_8 rfl (by decide +kernel) ?_
      have H := okp_lt H
      refine oj_iconst (pc := 90) (v := 1) ⟨by decide, by decide⟩ (by decide +kernel) ?_
      exact oj_iret (pc := 91) (by decide +kernel) rfl rfl (Nat.le_refl _) (Nat.le_refl _) ⟨rfl, H⟩
    · refine oj_ald0 (pc := 69) (by decide +kernel) ?_
      refine oj_bipush (pc := 70) (v := 7) ⟨by decide, by decide⟩ (by decide +kernel) ?_
      refine oj_ald0 (pc := 72) (by decide +kernel) ?_
      refine oj_getI' (pc := 73) (ki := 8) f_M_166 s_57_8 rfl (by decide +kernel) ?_
      refine of_Vi (pc := 76) (as := [_, _]) v_M_179 o_57 rfl rfl (Nat.le_of_ble_eq_true rfl) (by decide +kernel) (by decide) rfl (c_M_wrongAt_0 (okp_bind H)) (fun r M H => ?_)
      exact oj_zret (pc := 79) (by decide +kernel) rfl (Nat.le_refl _) (Nat.le_refl _) H (fun H => ⟨rfl, H⟩)
  refine oj_ald0 (pc := 0) (by decide +kernel) ?_
  refine of_Vi (pc := 1) (as := []) v_M_172 o_57 rfl rfl (Nat.le_of_ble_eq_true rfl) (by decide +kernel) (by decide) rfl (c_M_here_0 (okp_bind H)) (fun r M H => ?_)
  refine oj_bipush (pc := 4) (v := 97) ⟨by decide, by decide⟩ (by decide +kernel) ?_
  refine oj_bipush (pc := 6) (v := 106) ⟨by decide, by decide⟩ (by decide +kernel) ?_
  refine of_Si (pc := 8) (as := [_, _, _]) v_M_123 rfl rfl (Nat.le_of_ble_eq_true rfl) (by decide +kernel) (by decide) rfl (c_M_in_0 (okp_bind H)) (fun r M H => ?_)
  refine oj_if_ne (pc := 11) (off := 13) (tgt := 24) (by decide +kernel) (by decide) H (fun _ H => ?_) (fun _ H => ?_)
  · refine oj_ld1 (pc := 24) (by decide +kernel) ?_
    refine oj_if_eq (pc := 25) (off := 22) (tgt := 47) (by decide +kernel) (by decide) H (fun _ H => ?_) (fun _ H => ?_)
    · refine oj_le (lv' := [_, vu]) ⟨Or.inr rfl, Or.inl rfl, trivial⟩ ?_
      exact h47  _ H
    · refine oj_ald0 (pc := 28) (by decide +kernel) ?_
      refine oj_getI' (pc := 29) (ki := 31) f_M_283 s_57_31 rfl (by decide +kernel) ?_
      refine oj_bipush (pc := 32) (v := 30) ⟨by decide, by decide⟩ (by decide +kernel) ?_
      refine oj_icmp_ne (pc := 34) (off := 13) (tgt := 47) (by decide +kernel) (by decide) H (fun _ H => ?_) (fun _ H => ?_)
      · refine oj_le (lv' := [_, vu]) ⟨Or.inr rfl, Or.inl rfl, trivial⟩ ?_
        exact h47  _ H
      · refine oj_ald0 (pc := 37) (by decide +kernel) ?_
        refine oj_iconst (pc := 38) (v := 4) ⟨by decide, by decide⟩ (by decide +kernel) ?_
        refine oj_ald0 (pc := 39) (by decide +kernel) ?_
        refine oj_getI' (pc := 40) (ki := 8) f_M_166 s_57_8 rfl (by decide +kernel) ?_
        refine of_Vi (pc := 43) (as := [_, _]) v_M_179 o_57 rfl rfl (Nat.le_of_ble_eq_true rfl) (by decide +kernel) (by decide) rfl (c_M_wrongAt_0 (okp_bind H)) (fun r M H => ?_)
        exact oj_zret (pc := 46) (by decide +kernel) rfl (Nat.le_refl _) (Nat.le_refl _) H (fun H => ⟨rfl, H⟩)
  · refine oj_ald0 (pc := 14) (by decide +kernel) ?_
    refine oj_iconst (pc := 15) (v := 1) ⟨by decide, by decide⟩ (by decide +kernel) ?_
    refine oj_ald0 (pc := 16) (by decide +kernel) ?_
    refine oj_getI' (pc := 17) (ki := 8) f_M_166 s_57_8 rfl (by decide +kernel) ?_
    refine of_Vi (pc := 20) (as := [_, _]) v_M_179 o_57 rfl rfl (Nat.le_of_ble_eq_true rfl) (by decide +kernel) (by decide) rfl (c_M_wrongAt_0 (okp_bind H)) (fun r M H => ?_)
    exact oj_zret (pc := 23) (by decide +kernel) rfl (Nat.le_refl _) (Nat.le_refl _) H (fun H => ⟨rfl, H⟩)
theorem c_M_readsLine_0 {l : Launch} {f : Nat} {M : oM} {K : Int × oM → Prop} (H : okp (p_M_readsLine f M) K) : oKf l m_M_readsLine 5 [vr 57] M K := by
  refine oK_intro (lv := [vr 57, vu, vu, vu, vu]) (by decide +kernel) (Nat.le_of_ble_eq_true rfl) rfl ?_
  have h76 : ∀ (g : Nat) (l1 l2 l3 l4 : Int) (M : oM), okp (iter (p_M_readsLine_L76 f l1 l2 l3) g (l4, M)) K → oJ l m_M_readsLine (oEf 5 K) 0 0 76 [vr 57, vi l1, vi l2, vi l3, vi l4] [] WD M := by
    intro g l1 l2 l3 l4 M H
    have HL := fun hs => iter_J' (Jh := fun s => oJ l m_M_readsLine (oEf 5 K) 0 0 76 [vr 57, vi l1, vi l2, vi l3, vi s.1] [] WD s.2) (G := K) hs g (l4, M) H
    refine HL ?_
    intro K76 s i76 e76 H
    obtain ⟨l4, M⟩ := s
    show oJ l m_M_readsLine (oEf 5 K) 0 0 76 [vr 57, vi l1, vi l2, vi l3, vi l4] [] WD M
    unfold p_M_readsLine_L76 at H
    have h121 : ∀ (l4 : Int) (M : oM), okp (p_M_readsLine_B121_76 f l1 l2 l3 l4 M) K76 → oJ l m_M_readsLine (oEf 5 K) 0 0 121 [vr 57, vi l1, vi l2, vi l3, vi l4] [] WD M := by
      intro l4 M H
      refine oj_ld4 (pc := 121) (by decide +kernel) ?_
      refine oj_if_ne (pc := 123) (off := 10) (tgt := 133) (by decide +kernel) (by decide) H (fun _ H => ?_) (fun _ H => ?_)
      · refine oj_ald0 (pc := 133) (by decide +kernel) ?_
        refine oj_getR' (pc := 134) f_M_68 s_57_30 (by decide +kernel) ?_
        refine oj_bipush (pc := 137) (v := 10) ⟨by decide, by decide⟩ (by decide +kernel) ?_
        refine oj_ld1 (pc := 139) (by decide +kernel) ?_
        refine oj_imul (pc := 140) (by decide +kernel) ?_
        refine oj_ld2 (pc := 141) (by decide +kernel) ?_
        refine oj_iadd (pc := 142) (by decide +kernel) ?_
        refine oj_bipush (pc := 143) (v := 99) ⟨by decide, by decide⟩ (by decide +kernel) ?_
        refine oj_ald0 (pc := 145) (by decide +kernel) ?_
        refine oj_getR' (pc := 146) f_M_68 s_57_30 (by decide +kernel) ?_
        refine oj_bipush (pc := 149) (v := 10) ⟨by decide, by decide⟩ (by decide +kernel) ?_
        refine oj_ld1 (pc := 151) (by decide +kernel) ?_
        refine oj_imul (pc := 152) (by decide +kernel) ?_
        refine oj_ld2 (pc := 153) (by decide +kernel) ?_
        refine oj_iadd (pc := 154) (by decide +kernel) ?_
        refine oj_iald (pc := 155) (NN := 100) a_77 rfl (by decide +kernel) H (fun H => ?_)
        refine oj_ld4 (pc := 156) (by decide +kernel) ?_
        refine oj_iadd (pc := 158) (by decide +kernel) ?_
        refine of_Si (pc := 159) (as := [_, _]) v_M_290 rfl rfl (Nat.le_of_ble_eq_true rfl) (by decide +kernel) (by decide) rfl (c_M_min_0 (okp_bind H)) (fun r M H => ?_)
        refine oj_iast (pc := 162) (NN := 100) a_77 rfl (by decide +kernel) H (fun H => ?_)
        have H := okp_lt H
        refine oj_ald0 (pc := 163) (by decide +kernel) ?_
        refine oj_ald0 (pc := 164) (by decide +kernel) ?_
        refine oj_getI' (pc := 165) (ki := 31) f_M_283 s_57_31 rfl (by decide +kernel) ?_
        refine oj_iconst (pc := 168) (v := 1) ⟨by decide, by decide⟩ (by decide +kernel) ?_
        refine oj_iadd (pc := 169) (by decide +kernel) ?_
        refine oj_putI' (pc := 170) (ki := 31) f_M_283 s_57_31 rfl (by decide +kernel) ?_
        have H := okp_lt H
        refine oj_iconst (pc := 173) (v := 1) ⟨by decide, by decide⟩ (by decide +kernel) ?_
        have H := e76 _ H
        exact oj_iret (pc := 174) (by decide +kernel) rfl rfl (Nat.le_refl _) (Nat.le_refl _) ⟨rfl, H⟩
      · refine oj_ald0 (pc := 126) (by decide +kernel) ?_
        refine oj_iconst (pc := 127) (v := 3) ⟨by decide, by decide⟩ (by decide +kernel) ?_
        refine oj_ld3 (pc := 128) (by decide +kernel) ?_
        refine of_Vi (pc := 129) (as := [_, _]) v_M_179 o_57 rfl rfl (Nat.le_of_ble_eq_true rfl) (by decide +kernel) (by decide) rfl (c_M_wrongAt_0 (okp_bind H)) (fun r M H => ?_)
        refine oj_zret (pc := 132) (f := _) (K := _) (by decide +kernel) rfl (Nat.le_refl _) (Nat.le_refl _) H (fun H => ?_)
        have H := e76 _ H
        exact ⟨rfl, H⟩
    refine oj_ald0 (pc := 76) (by decide +kernel) ?_
    refine of_Vi (pc := 77) (as := []) v_M_185 o_57 rfl rfl (Nat.le_of_ble_eq_true rfl) (by decide +kernel) (by decide) rfl (c_M_isDigit_0 (okp_bind H)) (fun r M H => ?_)
    refine oj_if_eq (pc := 80) (off := 41) (tgt := 121) (by decide +kernel) (by decide) H (fun _ H => ?_) (fun _ H => ?_)
    · exact h121 _ _ H
    · refine oj_ald0 (pc := 83) (by decide +kernel) ?_
      refine oj_getI' (pc := 84) (ki := 8) f_M_166 s_57_8 rfl (by decide +kernel) ?_
      refine oj_ld3 (pc := 87) (by decide +kernel) ?_
      refine oj_iconst (pc := 88) (v := 2) ⟨by decide, by decide⟩ (by decide +kernel) ?_
      refine oj_iadd (pc := 89) (by decide +kernel) ?_
      refine oj_icmp_ge (pc := 90) (off := 31) (tgt := 121) (by decide +kernel) (by decide) H (fun _ H => ?_) (fun _ H => ?_)
      · exact h121 _ _ H
      · refine oj_bipush (pc := 93) (v := 10) ⟨by decide, by decide⟩ (by decide +kernel) ?_
        refine oj_ld4 (pc := 95) (by decide +kernel) ?_
        refine oj_imul (pc := 97) (by decide +kernel) ?_
        refine oj_ald0 (pc := 98) (by decide +kernel) ?_
        refine of_Vi (pc := 99) (as := []) v_M_172 o_57 rfl rfl (Nat.le_of_ble_eq_true rfl) (by decide +kernel) (by decide) rfl (c_M_here_0 (okp_bind H)) (fun r M H => ?_)
        refine oj_iadd (pc := 102) (by decide +kernel) ?_
        refine oj_bipush (pc := 103) (v := 48) ⟨by decide, by decide⟩ (by decide +kernel) ?_
        refine oj_isub (pc := 105) (by decide +kernel) ?_
        refine oj_st4 (pc := 106) (by decide +kernel) (by decide +kernel) ?_
        have H := okp_lt H
        refine oj_ald0 (pc := 108) (by decide +kernel) ?_
        refine oj_ald0 (pc := 109) (by decide +kernel) ?_
        refine oj_getI' (pc := 110) (ki := 8) f_M_166 s_57_8 rfl (by decide +kernel) ?_
        refine oj_iconst (pc := 113) (v := 1) ⟨by decide, by decide⟩ (by decide +kernel) ?_
        refine oj_iadd (pc := 114) (by decide +kernel) ?_
        refine oj_putI' (pc := 115) (ki := 8) f_M_166 s_57_8 rfl (by decide +kernel) ?_
        have H := okp_lt H
        refine oj_goto (pc := 118) (off := -42) (tgt := 76) (by decide +kernel) (by decide) ?_
        have H := i76 _ H
        exact H
  have h74 : ∀ (l1 l2 l3 s0 : Int) (M : oM), okp (p_M_readsLine_B74 f l1 l2 l3 s0 M) K → oJ l m_M_readsLine (oEf 5 K) 0 0 74 [vr 57, vi l1, vi l2, vi l3, vu] [vi s0] WD M := by
    intro l1 l2 l3 s0 M H
    refine oj_st4 (pc := 74) (by decide +kernel) (by decide +kernel) ?_
    exact h76 _ _ _ _ _ _ H
  refine oj_ald0 (pc := 0) (by decide +kernel) ?_
  refine oj_iconst (pc := 1) (v := 1) ⟨by decide, by decide⟩ (by decide +kernel) ?_
  refine of_Vi (pc := 2) (as := [_]) v_M_286 o_57 rfl rfl (Nat.le_of_ble_eq_true rfl) (by decide +kernel) (by decide) rfl (c_M_readsPerson_0 (okp_bind H)) (fun r M H => ?_)
  refine oj_if_ne (pc := 5) (off := 5) (tgt := 10) (by decide +kernel) (by decide) H (fun _ H => ?_) (fun _ H => ?_)
  · refine oj_ald0 (pc := 10) (by decide +kernel) ?_
    refine oj_getI' (pc := 11) (ki := 11) f_M_182 s_57_11 rfl (by decide +kernel) ?_
    refine oj_st1 (pc := 14) (by decide +kernel) (by decide +kernel) ?_
    have H := okp_lt H
    refine oj_ald0 (pc := 15) (by decide +kernel) ?_
    refine oj_bipush (pc := 16) (v := 62) ⟨by decide, by decide⟩ (by decide +kernel) ?_
    refine of_Vi (pc := 18) (as := [_]) v_M_252 o_57 rfl rfl (Nat.le_of_ble_eq_true rfl) (by decide +kernel) (by decide) rfl (c_M_takes_0 (okp_bind H)) (fun r M H => ?_)
    refine oj_if_eq (pc := 21) (off := 11) (tgt := 32) (by decide +kernel) (by decide) H (fun _ H => ?_) (fun _ H => ?_)
    · refine oj_iconst (pc := 32) (v := 0) ⟨by decide, by decide⟩ (by decide +kernel) ?_
      exact oj_iret (pc := 33) (by decide +kernel) rfl rfl (Nat.le_refl _) (Nat.le_refl _) ⟨rfl, H⟩
    · refine oj_ald0 (pc := 24) (by decide +kernel) ?_
      refine oj_iconst (pc := 25) (v := 0) ⟨by decide, by decide⟩ (by decide +kernel) ?_
      refine of_Vi (pc := 26) (as := [_]) v_M_286 o_57 rfl rfl (Nat.le_of_ble_eq_true rfl) (by decide +kernel) (by decide) rfl (c_M_readsPerson_0 (okp_bind H)) (fun r M H => ?_)
      refine oj_if_ne (pc := 29) (off := 5) (tgt := 34) (by decide +kernel) (by decide) H (fun _ H => ?_) (fun _ H => ?_)
      · refine oj_ald0 (pc := 34) (by decide +kernel) ?_
        refine oj_getI' (pc := 35) (ki := 11) f_M_182 s_57_11 rfl (by decide +kernel) ?_
        refine oj_st2 (pc := 38) (by decide +kernel) (by decide +kernel) ?_
        have H := okp_lt H
        refine oj_ld1 (pc := 39) (by decide +kernel) ?_
        refine oj_ld2 (pc := 40) (by decide +kernel) ?_
        refine oj_icmp_ne (pc := 41) (off := 16) (tgt := 57) (by decide +kernel) (by decide) H (fun _ H => ?_) (fun _ H => ?_)
        · refine oj_ald0 (pc := 57) (by decide +kernel) ?_
          refine oj_getI' (pc := 58) (ki := 8) f_M_166 s_57_8 rfl (by decide +kernel) ?_
          refine oj_st3 (pc := 61) (by decide +kernel) (by decide +kernel) ?_
          have H := okp_lt H
          refine oj_ald0 (pc := 62) (by decide +kernel) ?_
          refine of_Vi (pc := 63) (as := []) v_M_185 o_57 rfl rfl (Nat.le_of_ble_eq_true rfl) (by decide +kernel) (by decide) rfl (c_M_isDigit_0 (okp_bind H)) (fun r M H => ?_)
          refine oj_if_eq (pc := 66) (off := 7) (tgt := 73) (by decide +kernel) (by decide) H (fun _ H => ?_) (fun _ H => ?_)
          · refine oj_iconst (pc := 73) (v := 1) ⟨by decide, by decide⟩ (by decide +kernel) ?_
            exact h74 _ _ _ _ _ H
          · refine oj_iconst (pc := 69) (v := 0) ⟨by decide, by decide⟩ (by decide +kernel) ?_
            refine oj_goto (pc := 70) (off := 4) (tgt := 74) (by decide +kernel) (by decide) ?_
            exact h74 _ _ _ _ _ H
        · refine oj_ald0 (pc := 44) (by decide +kernel) ?_
          refine oj_bipush (pc := 45) (v := 6) ⟨by decide, by decide⟩ (by decide +kernel) ?_
          refine oj_ald0 (pc := 47) (by decide +kernel) ?_
          refine oj_getI' (pc := 48) (ki := 8) f_M_166 s_57_8 rfl (by decide +kernel) ?_
          refine oj_iconst (pc := 51) (v := 1) ⟨by decide, by decide⟩ (by decide +kernel) ?_
          refine oj_isub (pc := 52) (by decide +kernel) ?_
          refine of_Vi (pc := 53) (as := [_, _]) v_M_179 o_57 rfl rfl (Nat.le_of_ble_eq_true rfl) (by decide +kernel) (by decide) rfl (c_M_wrongAt_0 (okp_bind H)) (fun r M H => ?_)
          exact oj_zret (pc := 56) (by decide +kernel) rfl (Nat.le_refl _) (Nat.le_refl _) H (fun H => ⟨rfl, H⟩)
      · refine oj_iconst (pc := 32) (v := 0) ⟨by decide, by decide⟩ (by decide +kernel) ?_
        exact oj_iret (pc := 33) (by decide +kernel) rfl rfl (Nat.le_refl _) (Nat.le_refl _) ⟨rfl, H⟩
  · refine oj_iconst (pc := 8) (v := 0) ⟨by decide, by decide⟩ (by decide +kernel) ?_
    exact oj_iret (pc := 9) (by decide +kernel) rfl rfl (Nat.le_refl _) (Nat.le_refl _) ⟨rfl, H⟩
theorem c_M_debts_0 {l : Launch} {f : Nat} {l1 : Int} {M : oM} {K : Int × oM → Prop} (H : okp (p_M_debts f l1 M) K) : oKf l m_M_debts 6 [vr 57, vi l1] M K := by
  refine oK_intro (lv := [vr 57, vi l1, vu, vu]) (by decide +kernel) (Nat.le_of_ble_eq_true rfl) rfl ?_
  have h118 : ∀ (g : Nat) (l3 : Int) (M : oM), okp (iter (p_M_debts_L118 f) g (l3, M)) K → oJ l m_M_debts (oEf 6 K) 0 0 118 [vr 57, vu, vu, vi l3] [] WD M := by
    intro g l3 M H
    have HL := fun hs => iter_J' (Jh := fun s => oJ l m_M_debts (oEf 6 K) 0 0 118 [vr 57, vu, vu, vi s.1] [] WD s.2) (G := K) hs g (l3, M) H
    refine HL ?_
    intro K118 s i118 e118 H
    obtain ⟨l3, M⟩ := s
    show oJ l m_M_debts (oEf 6 K) 0 0 118 [vr 57, vu, vu, vi l3] [] WD M
    refine oj_ld3 (pc := 118) (by decide +kernel) ?_
    refine oj_bipush (pc := 119) (v := 100) ⟨by decide, by decide⟩ (by decide +kernel) ?_
    refine oj_icmp_ge (pc := 121) (off := 23) (tgt := 144) (by decide +kernel) (by decide) H (fun _ H => ?_) (fun _ H => ?_)
    · refine oj_ald0 (pc := 144) (by decide +kernel) ?_
      refine of_Vi (pc := 145) (as := []) v_M_296 o_57 rfl rfl (Nat.le_of_ble_eq_true rfl) (by decide +kernel) (by decide) rfl (c_M_owedInAll_0 (okp_bind H)) (fun r M H => ?_)
      have H := e118 _ H
      exact oj_iret (pc := 148) (by decide +kernel) rfl rfl (Nat.le_refl _) (Nat.le_refl _) ⟨rfl, H⟩
    · refine oj_ald0 (pc := 124) (by decide +kernel) ?_
      refine oj_getR' (pc := 125) f_M_7 s_57_0 (by decide +kernel) ?_
      refine oj_iconst (pc := 128) (v := 0) ⟨by decide, by decide⟩ (by decide +kernel) ?_
      refine oj_ld3 (pc := 129) (by decide +kernel) ?_
      refine oj_iadd (pc := 130) (by decide +kernel) ?_
      refine oj_ald0 (pc := 131) (by decide +kernel) ?_
      refine oj_getR' (pc := 132) f_M_68 s_57_30 (by decide +kernel) ?_
      refine oj_ld3 (pc := 135) (by decide +kernel) ?_
      refine oj_iald (pc := 136) (NN := 100) a_77 rfl (by decide +kernel) H (fun H => ?_)
      refine oj_iast (pc := 137) (NN := 159) a_58 rfl (by decide +kernel) H (fun H => ?_)
      have H := okp_lt H
      refine oj_inc3 (pc := 138) (d := 1) (by decide +kernel) (by decide +kernel) ?_
      have H := okp_lt H
      refine oj_goto (pc := 141) (off := -23) (tgt := 118) (by decide +kernel) (by decide) ?_
      have H := i118 _ H
      exact H
  have x62 : ∀ (l2 : Int) (M : oM), okp (p_M_debts_X62 f (l2, M)) K → oJ l m_M_debts (oEf 6 K) 0 0 102 [vr 57, vu, vi l2, vu] [] WD M := by
    intro l2 M H
    unfold p_M_debts_X62 at H
    refine oj_ald0 (pc := 102) (by decide +kernel) ?_
    refine oj_iconst (pc := 103) (v := 0) ⟨by decide, by decide⟩ (by decide +kernel) ?_
    refine oj_putI' (pc := 104) (ki := 7) f_M_160 s_57_7 rfl (by decide +kernel) ?_
    have H := okp_lt H
    refine oj_ld2 (pc := 107) (by decide +kernel) ?_
    refine oj_if_ne (pc := 108) (off := 8) (tgt := 116) (by decide +kernel) (by decide) H (fun _ H => ?_) (fun _ H => ?_)
    · refine oj_iconst (pc := 116) (v := 0) ⟨by decide, by decide⟩ (by decide +kernel) ?_
      refine oj_st3 (pc := 117) (by decide +kernel) (by decide +kernel) ?_
      refine oj_le (lv' := [_, vu, vu, _]) ⟨Or.inr rfl, Or.inr rfl, Or.inl rfl, Or.inr rfl, trivial⟩ ?_
      exact h118 _ _ _ H
    · refine oj_ald0 (pc := 111) (by decide +kernel) ?_
      refine oj_getI' (pc := 112) (ki := 10) f_M_176 s_57_10 rfl (by decide +kernel) ?_
      exact oj_iret (pc := 115) (by decide +kernel) rfl rfl (Nat.le_refl _) (Nat.le_refl _) ⟨rfl, H⟩
  have h62 : ∀ (g : Nat) (l2 : Int) (M : oM), okp (iter (p_M_debts_L62 f) g (l2, M)) (fun r => okp (p_M_debts_X62 f r) K) → oJ l m_M_debts (oEf 6 K) 0 0 62 [vr 57, vu, vi l2, vu] [] WD M := by
    intro g l2 M H
    have HL := fun hs => iter_J' (Jh := fun s => oJ l m_M_debts (oEf 6 K) 0 0 62 [vr 57, vu, vi s.1, vu] [] WD s.2) (G := (fun r => okp (p_M_debts_X62 f r) K)) hs g (l2, M) H
    refine HL ?_
    intro K62 s i62 e62 H
    obtain ⟨l2, M⟩ := s
    show oJ l m_M_debts (oEf 6 K) 0 0 62 [vr 57, vu, vi l2, vu] [] WD M
    have h98 : ∀ (s0 : Int) (M : oM), okp (p_M_debts_B98_62 f s0 M) K62 → oJ l m_M_debts (oEf 6 K) 0 0 98 [vr 57, vu, vu, vu] [vi s0] WD M := by
      intro s0 M H
      refine oj_st2 (pc := 98) (by decide +kernel) (by decide +kernel) ?_
      refine oj_goto (pc := 99) (off := -37) (tgt := 62) (by decide +kernel) (by decide) ?_
      have H := i62 _ H
      exact H
    have h97 : ∀ (M : oM), okp (p_M_debts_B97_62 f M) K62 → oJ l m_M_debts (oEf 6 K) 0 0 97 [vr 57, vu, vu, vu] [] WD M := by
      intro  M H
      refine oj_iconst (pc := 97) (v := 0) ⟨by decide, by decide⟩ (by decide +kernel) ?_
      exact h98 _ _ H
    refine oj_ld2 (pc := 62) (by decide +kernel) ?_
    refine oj_if_eq (pc := 63) (off := 39) (tgt := 102) (by decide +kernel) (by decide) H (fun _ H => ?_) (fun _ H => ?_)
    · have H := e62 _ H
      exact x62 _ _ H
    · refine oj_ald0 (pc := 66) (by decide +kernel) ?_
      refine oj_getI' (pc := 67) (ki := 8) f_M_166 s_57_8 rfl (by decide +kernel) ?_
      refine oj_ald0 (pc := 70) (by decide +kernel) ?_
      refine oj_getI' (pc := 71) (ki := 9) f_M_169 s_57_9 rfl (by decide +kernel) ?_
      refine oj_icmp_ge (pc := 74) (off := 28) (tgt := 102) (by decide +kernel) (by decide) H (fun _ H => ?_) (fun _ H => ?_)
      · have H := e62 _ H
        exact x62 _ _ H
      · refine oj_ald0 (pc := 77) (by decide +kernel) ?_
        refine oj_bipush (pc := 78) (v := 59) ⟨by decide, by decide⟩ (by decide +kernel) ?_
        refine of_Vi (pc := 80) (as := [_]) v_M_252 o_57 rfl rfl (Nat.le_of_ble_eq_true rfl) (by decide +kernel) (by decide) rfl (c_M_takes_0 (okp_bind H)) (fun r M H => ?_)
        refine oj_if_eq (pc := 83) (off := 14) (tgt := 97) (by decide +kernel) (by decide) H (fun _ H => ?_) (fun _ H => ?_)
        · refine oj_le (lv' := [_, vu, vu, vu]) ⟨Or.inr rfl, Or.inr rfl, Or.inl rfl, Or.inr rfl, trivial⟩ ?_
          exact h97  _ H
        · refine oj_ald0 (pc := 86) (by decide +kernel) ?_
          refine of_Vi (pc := 87) (as := []) v_M_293 o_57 rfl rfl (Nat.le_of_ble_eq_true rfl) (by decide +kernel) (by decide) rfl (c_M_readsLine_0 (okp_bind H)) (fun r M H => ?_)
          refine oj_if_eq (pc := 90) (off := 7) (tgt := 97) (by decide +kernel) (by decide) H (fun _ H => ?_) (fun _ H => ?_)
          · refine oj_le (lv' := [_, vu, vu, vu]) ⟨Or.inr rfl, Or.inr rfl, Or.inl rfl, Or.inr rfl, trivial⟩ ?_
            exact h97  _ H
          · refine oj_iconst (pc := 93) (v := 1) ⟨by decide, by decide⟩ (by decide +kernel) ?_
            refine oj_goto (pc := 94) (off := 4) (tgt := 98) (by decide +kernel) (by decide) ?_
            refine oj_le (lv' := [_, vu, vu, vu]) ⟨Or.inr rfl, Or.inr rfl, Or.inl rfl, Or.inr rfl, trivial⟩ ?_
            exact h98 _ _ H
  have x38 : ∀ (M : oM), okp (p_M_debts_X38 f M) K → oJ l m_M_debts (oEf 6 K) 0 0 57 [vr 57, vu, vu, vu] [] WD M := by
    intro  M H
    unfold p_M_debts_X38 at H
    refine oj_ald0 (pc := 57) (by decide +kernel) ?_
    refine of_Vi (pc := 58) (as := []) v_M_293 o_57 rfl rfl (Nat.le_of_ble_eq_true rfl) (by decide +kernel) (by decide) rfl (c_M_readsLine_0 (okp_bind H)) (fun r M H => ?_)
    refine oj_st2 (pc := 61) (by decide +kernel) (by decide +kernel) ?_
    exact h62 _ _ _ (okp_bind H)
  have h38 : ∀ (g : Nat) (l2 : Int) (M : oM), okp (iter (p_M_debts_L38 f) g (l2, M)) (fun r => okp (p_M_debts_X38 f r) K) → oJ l m_M_debts (oEf 6 K) 0 0 38 [vr 57, vu, vi l2, vu] [] WD M := by
    intro g l2 M H
    have HL := fun hs => iter_J' (Jh := fun s => oJ l m_M_debts (oEf 6 K) 0 0 38 [vr 57, vu, vi s.1, vu] [] WD s.2) (G := (fun r => okp (p_M_debts_X38 f r) K)) hs g (l2, M) H
    refine HL ?_
    intro K38 s i38 e38 H
    obtain ⟨l2, M⟩ := s
    show oJ l m_M_debts (oEf 6 K) 0 0 38 [vr 57, vu, vi l2, vu] [] WD M
    refine oj_ld2 (pc := 38) (by decide +kernel) ?_
    refine oj_bipush (pc := 39) (v := 100) ⟨by decide, by decide⟩ (by decide +kernel) ?_
    refine oj_icmp_ge (pc := 41) (off := 16) (tgt := 57) (by decide +kernel) (by decide) H (fun _ H => ?_) (fun _ H => ?_)
    · refine oj_le (lv' := [_, vu, vu, vu]) ⟨Or.inr rfl, Or.inr rfl, Or.inl rfl, Or.inr rfl, trivial⟩ ?_
      have H := e38 _ H
      exact x38  _ H
    · refine oj_ald0 (pc := 44) (by decide +kernel) ?_
      refine oj_getR' (pc := 45) f_M_68 s_57_30 (by decide +kernel) ?_
      refine oj_ld2 (pc := 48) (by decide +kernel) ?_
      refine oj_iconst (pc := 49) (v := 0) ⟨by decide, by decide⟩ (by decide +kernel) ?_
      refine oj_iast (pc := 50) (NN := 100) a_77 rfl (by decide +kernel) H (fun H => ?_)
      have H := okp_lt H
      refine oj_inc2 (pc := 51) (d := 1) (by decide +kernel) (by decide +kernel) ?_
      have H := okp_lt H
      refine oj_goto (pc := 54) (off := -16) (tgt := 38) (by decide +kernel) (by decide) ?_
      have H := i38 _ H
      exact H
  refine oj_ld1 (pc := 0) (by decide +kernel) ?_
  refine oj_iconst (pc := 1) (v := 1) ⟨by decide, by decide⟩ (by decide +kernel) ?_
  refine oj_sipush (pc := 2) (v := 160) ⟨by decide, by decide⟩ (by decide +kernel) ?_
  refine of_Si (pc := 5) (as := [_, _, _]) v_M_123 rfl rfl (Nat.le_of_ble_eq_true rfl) (by decide +kernel) (by decide) rfl (c_M_in_0 (okp_bind H)) (fun r M H => ?_)
  refine oj_if_eq (pc := 8) (off := 11) (tgt := 19) (by decide +kernel) (by decide) H (fun _ H => ?_) (fun _ H => ?_)
  · refine oj_iconst (pc := 19) (v := -1) ⟨by decide, by decide⟩ (by decide +kernel) ?_
    exact oj_iret (pc := 20) (by decide +kernel) rfl rfl (Nat.le_refl _) (Nat.le_refl _) ⟨rfl, H⟩
  · refine oj_ld1 (pc := 11) (by decide +kernel) ?_
    refine oj_ald0 (pc := 12) (by decide +kernel) ?_
    refine oj_getI' (pc := 13) (ki := 7) f_M_160 s_57_7 rfl (by decide +kernel) ?_
    refine oj_icmp_le (pc := 16) (off := 5) (tgt := 21) (by decide +kernel) (by decide) H (fun _ H => ?_) (fun _ H => ?_)
    · refine oj_ald0 (pc := 21) (by decide +kernel) ?_
      refine oj_iconst (pc := 22) (v := 0) ⟨by decide, by decide⟩ (by decide +kernel) ?_
      refine oj_putI' (pc := 23) (ki := 8) f_M_166 s_57_8 rfl (by decide +kernel) ?_
      have H := okp_lt H
      refine oj_ald0 (pc := 26) (by decide +kernel) ?_
      refine oj_ld1 (pc := 27) (by decide +kernel) ?_
      refine oj_putI' (pc := 28) (ki := 9) f_M_169 s_57_9 rfl (by decide +kernel) ?_
      have H := okp_lt H
      refine oj_ald0 (pc := 31) (by decide +kernel) ?_
      refine oj_iconst (pc := 32) (v := 0) ⟨by decide, by decide⟩ (by decide +kernel) ?_
      refine oj_putI' (pc := 33) (ki := 31) f_M_283 s_57_31 rfl (by decide +kernel) ?_
      have H := okp_lt H
      refine oj_iconst (pc := 36) (v := 0) ⟨by decide, by decide⟩ (by decide +kernel) ?_
      refine oj_st2 (pc := 37) (by decide +kernel) (by decide +kernel) ?_
      refine oj_le (lv' := [_, vu, _, vu]) ⟨Or.inr rfl, Or.inl rfl, Or.inr rfl, Or.inr rfl, trivial⟩ ?_
      exact h38 _ _ _ (okp_bind H)
    · refine oj_iconst (pc := 19) (v := -1) ⟨by decide, by decide⟩ (by decide +kernel) ?_
      exact oj_iret (pc := 20) (by decide +kernel) rfl rfl (Nat.le_refl _) (Nat.le_refl _) ⟨rfl, H⟩
theorem c_M_begins_0 {l : Launch} {f : Nat} {M : oM} {K : Int × oM → Prop} (H : okp (p_M_begins f M) K) : oKf l m_M_begins 2 [vr 57] M K := by
  refine oK_intro (lv := [vr 57]) (by decide +kernel) (Nat.le_of_ble_eq_true rfl) rfl ?_
  refine oj_ald0 (pc := 0) (by decide +kernel) ?_
  refine oj_iconst (pc := 1) (v := 0) ⟨by decide, by decide⟩ (by decide +kernel) ?_
  refine oj_putI' (pc := 2) (ki := 32) f_M_330 s_57_32 rfl (by decide +kernel) ?_
  have H := okp_lt H
  refine oj_ald0 (pc := 5) (by decide +kernel) ?_
  refine oj_iconst (pc := 6) (v := 0) ⟨by decide, by decide⟩ (by decide +kernel) ?_
  refine oj_putI' (pc := 7) (ki := 33) f_M_306 s_57_33 rfl (by decide +kernel) ?_
  have H := okp_lt H
  refine oj_ald0 (pc := 10) (by decide +kernel) ?_
  refine oj_iconst (pc := 11) (v := 0) ⟨by decide, by decide⟩ (by decide +kernel) ?_
  refine oj_putI' (pc := 12) (ki := 34) f_M_309 s_57_34 rfl (by decide +kernel) ?_
  have H := okp_lt H
  exact oj_vret (pc := 15) (by decide +kernel) rfl (Nat.le_refl _) (Nat.le_refl _) ⟨rfl, H⟩
theorem c_M_reckon_0 {l : Launch} {f : Nat} {l0 l1 l2 : Int} {M : oM} {K : Int × oM → Prop} (H : okp (p_M_reckon f l0 l1 l2 M) K) : oKf l m_M_reckon 2 [vi l0, vi l1, vi l2] M K := by
  refine oK_intro (lv := [vi l0, vi l1, vi l2]) (by decide +kernel) (Nat.le_of_ble_eq_true rfl) rfl ?_
  refine oj_ld0 (pc := 0) (by decide +kernel) ?_
  refine oj_case (c := _ = 2) H (fun c0 H => ?_) (fun c0 H => ?_)
  · refine oj_tin (pc := 1) (dflt := 85) (lo := 2) (hi := 8) (offs := #[43, 47, 51, 55, 59, 63, 74]) (len := 43) (off := 43) (tgt := 44) 2 c0 (by decide +kernel) ⟨by decide, by decide⟩ (by decide +kernel) (by decide) ?_
    refine oj_ld1 (pc := 44) (by decide +kernel) ?_
    refine oj_ld2 (pc := 45) (by decide +kernel) ?_
    refine oj_iadd (pc := 46) (by decide +kernel) ?_
    exact oj_iret (pc := 47) (by decide +kernel) rfl rfl (Nat.le_refl _) (Nat.le_refl _) ⟨rfl, H⟩
  refine oj_case (c := _ = 3) H (fun c1 H => ?_) (fun c1 H => ?_)
  · refine oj_tin (pc := 1) (dflt := 85) (lo := 2) (hi := 8) (offs := #[43, 47, 51, 55, 59, 63, 74]) (len := 43) (off := 47) (tgt := 48) 3 c1 (by decide +kernel) ⟨by decide, by decide⟩ (by decide +kernel) (by decide) ?_
    refine oj_ld1 (pc := 48) (by decide +kernel) ?_
    refine oj_ld2 (pc := 49) (by decide +kernel) ?_
    refine oj_isub (pc := 50) (by decide +kernel) ?_
    exact oj_iret (pc := 51) (by decide +kernel) rfl rfl (Nat.le_refl _) (Nat.le_refl _) ⟨rfl, H⟩
  refine oj_case (c := _ = 4) H (fun c2 H => ?_) (fun c2 H => ?_)
  · refine oj_tin (pc := 1) (dflt := 85) (lo := 2) (hi := 8) (offs := #[43, 47, 51, 55, 59, 63, 74]) (len := 43) (off := 51) (tgt := 52) 4 c2 (by decide +kernel) ⟨by decide, by decide⟩ (by decide +kernel) (by decide) ?_
    refine oj_ld1 (pc := 52) (by decide +kernel) ?_
    refine oj_ld2 (pc := 53) (by decide +kernel) ?_
    refine oj_imul (pc := 54) (by decide +kernel) ?_
    exact oj_iret (pc := 55) (by decide +kernel) rfl rfl (Nat.le_refl _) (Nat.le_refl _) ⟨rfl, H⟩
  refine oj_case (c := _ = 5) H (fun c3 H => ?_) (fun c3 H => ?_)
  · refine oj_tin (pc := 1) (dflt := 85) (lo := 2) (hi := 8) (offs := #[43, 47, 51, 55, 59, 63, 74]) (len := 43) (off := 55) (tgt := 56) 5 c3 (by decide +kernel) ⟨by decide, by decide⟩ (by decide +kernel) (by decide) ?_
    refine oj_ld1 (pc := 56) (by decide +kernel) ?_
    refine oj_ld2 (pc := 57) (by decide +kernel) ?_
    refine oj_idiv (pc := 58) (by decide +kernel) H (fun _ H => ?_)
    exact oj_iret (pc := 59) (by decide +kernel) rfl rfl (Nat.le_refl _) (Nat.le_refl _) ⟨rfl, H⟩
  refine oj_case (c := _ = 6) H (fun c4 H => ?_) (fun c4 H => ?_)
  · refine oj_tin (pc := 1) (dflt := 85) (lo := 2) (hi := 8) (offs := #[43, 47, 51, 55, 59, 63, 74]) (len := 43) (off := 59) (tgt := 60) 6 c4 (by decide +kernel) ⟨by decide, by decide⟩ (by decide +kernel) (by decide) ?_
    refine oj_ld1 (pc := 60) (by decide +kernel) ?_
    refine oj_ld2 (pc := 61) (by decide +kernel) ?_
    refine oj_irem (pc := 62) (by decide +kernel) H (fun _ H => ?_)
    exact oj_iret (pc := 63) (by decide +kernel) rfl rfl (Nat.le_refl _) (Nat.le_refl _) ⟨rfl, H⟩
  refine oj_case (c := _ = 7) H (fun c5 H => ?_) (fun c5 H => ?_)
  · refine oj_tin (pc := 1) (dflt := 85) (lo := 2) (hi := 8) (offs := #[43, 47, 51, 55, 59, 63, 74]) (len := 43) (off := 63) (tgt := 64) 7 c5 (by decide +kernel) ⟨by decide, by decide⟩ (by decide +kernel) (by decide) ?_
    refine oj_ld1 (pc := 64) (by decide +kernel) ?_
    refine oj_ld2 (pc := 65) (by decide +kernel) ?_
    refine oj_icmp_ge (pc := 66) (off := 7) (tgt := 73) (by decide +kernel) (by decide) H (fun _ H => ?_) (fun _ H => ?_)
    · refine oj_iconst (pc := 73) (v := 0) ⟨by decide, by decide⟩ (by decide +kernel) ?_
      exact oj_iret (pc := 74) (by decide +kernel) rfl rfl (Nat.le_refl _) (Nat.le_refl _) ⟨rfl, H⟩
    · refine oj_iconst (pc := 69) (v := 1) ⟨by decide, by decide⟩ (by decide +kernel) ?_
      refine oj_goto (pc := 70) (off := 4) (tgt := 74) (by decide +kernel) (by decide) ?_
      exact oj_iret (pc := 74) (by decide +kernel) rfl rfl (Nat.le_refl _) (Nat.le_refl _) ⟨rfl, H⟩
  refine oj_case (c := _ = 8) H (fun c6 H => ?_) (fun c6 H => ?_)
  · refine oj_tin (pc := 1) (dflt := 85) (lo := 2) (hi := 8) (offs := #[43, 47, 51, 55, 59, 63, 74]) (len := 43) (off := 74) (tgt := 75) 8 c6 (by decide +kernel) ⟨by decide, by decide⟩ (by decide +kernel) (by decide) ?_
    refine oj_ld1 (pc := 75) (by decide +kernel) ?_
    refine oj_ld2 (pc := 76) (by decide +kernel) ?_
    refine oj_icmp_le (pc := 77) (off := 7) (tgt := 84) (by decide +kernel) (by decide) H (fun _ H => ?_) (fun _ H => ?_)
    · refine oj_iconst (pc := 84) (v := 0) ⟨by decide, by decide⟩ (by decide +kernel) ?_
      exact oj_iret (pc := 85) (by decide +kernel) rfl rfl (Nat.le_refl _) (Nat.le_refl _) ⟨rfl, H⟩
    · refine oj_iconst (pc := 80) (v := 1) ⟨by decide, by decide⟩ (by decide +kernel) ?_
      refine oj_goto (pc := 81) (off := 4) (tgt := 85) (by decide +kernel) (by decide) ?_
      exact oj_iret (pc := 85) (by decide +kernel) rfl rfl (Nat.le_refl _) (Nat.le_refl _) ⟨rfl, H⟩
  refine oj_tout (pc := 1) (dflt := 85) (lo := 2) (hi := 8) (offs := #[43, 47, 51, 55, 59, 63, 74]) (len := 43) (tgt := 86) (by decide +kernel) (by omega) (by decide) ?_
  refine oj_ld1 (pc := 86) (by decide +kernel) ?_
  refine oj_ld2 (pc := 87) (by decide +kernel) ?_
  refine oj_icmp_ne (pc := 88) (off := 7) (tgt := 95) (by decide +kernel) (by decide) H (fun _ H => ?_) (fun _ H => ?_)
  · refine oj_iconst (pc := 95) (v := 0) ⟨by decide, by decide⟩ (by decide +kernel) ?_
    exact oj_iret (pc := 96) (by decide +kernel) rfl rfl (Nat.le_refl _) (Nat.le_refl _) ⟨rfl, H⟩
  · refine oj_iconst (pc := 91) (v := 1) ⟨by decide, by decide⟩ (by decide +kernel) ?_
    refine oj_goto (pc := 92) (off := 4) (tgt := 96) (by decide +kernel) (by decide) ?_
    exact oj_iret (pc := 96) (by decide +kernel) rfl rfl (Nat.le_refl _) (Nat.le_refl _) ⟨rfl, H⟩
theorem c_M_comesTo_0 {l : Launch} {f : Nat} {l1 l2 : Int} {M : oM} {K : Int × oM → Prop} (H : okp (p_M_comesTo f l1 l2 M) K) : oKf l m_M_comesTo 3 [vr 57, vi l1, vi l2] M K := by
  refine oK_intro (lv := [vr 57, vi l1, vi l2, vu, vu, vu, vu, vu]) (by decide +kernel) (Nat.le_of_ble_eq_true rfl) rfl ?_
  have h16 : ∀ (g : Nat) (l2 l3 l4 l5 : Int) (M : oM), okp (iter (p_M_comesTo_L16 f l2 l4) g (l3, l5, M)) K → oJ l m_M_comesTo (oEf 3 K) 0 0 16 [vr 57, vu, vi l2, vi l3, vi l4, vi l5, vu, vu] [] WD M := by
    intro g l2 l3 l4 l5 M H
    have HL := fun hs => iter_J' (Jh := fun s => oJ l m_M_comesTo (oEf 3 K) 0 0 16 [vr 57, vu, vi l2, vi s.1, vi l4, vi s.2.1, vu, vu] [] WD s.2.2) (G := K) hs g (l3, l5, M) H
    refine HL ?_
    intro K16 s i16 e16 H
    obtain ⟨l3, l5, M⟩ := s
    show oJ l m_M_comesTo (oEf 3 K) 0 0 16 [vr 57, vu, vi l2, vi l3, vi l4, vi l5, vu, vu] [] WD M
    have h230 : ∀ (l3 l5 : Int) (M : oM), okp (p_M_comesTo_B230_16 f l2 l3 l4 l5 M) K16 → oJ l m_M_comesTo (oEf 3 K) 0 0 230 [vr 57, vu, vi l2, vi l3, vi l4, vi l5, vu, vu] [] WD M := by
      intro l3 l5 M H
      refine oj_goto (pc := 230) (off := -214) (tgt := 16) (by decide +kernel) (by decide) ?_
      have H := i16 _ H
      exact H
    have h85 : ∀ (l3 l5 s1 s2 : Int) (M : oM), okp (p_M_comesTo_B85_16 f l2 l3 l4 l5 s1 s2 M) K16 → oJ l m_M_comesTo (oEf 3 K) 0 0 85 [vr 57, vu, vi l2, vi l3, vi l4, vi l5, vu, vu] [vi s2, vi s1, vr 75] WD M := by
      intro l3 l5 s1 s2 M H
      refine oj_iast (pc := 85) (NN := 260) a_75 rfl (by decide +kernel) H (fun H => ?_)
      have H := okp_lt H
      refine oj_ld3 (pc := 86) (by decide +kernel) ?_
      refine oj_iconst (pc := 87) (v := 1) ⟨by decide, by decide⟩ (by decide +kernel) ?_
      refine oj_iadd (pc := 88) (by decide +kernel) ?_
      refine oj_st3 (pc := 89) (by decide +kernel) (by decide +kernel) ?_
      have H := okp_lt H
      refine oj_goto (pc := 90) (off := 140) (tgt := 230) (by decide +kernel) (by decide) ?_
      exact h230 _ _ _ H
    have h63 : ∀ (l3 l5 l6 l7 : Int) (M : oM), okp (p_M_comesTo_B63_16 f l2 l3 l4 l5 l6 l7 M) K16 → oJ l m_M_comesTo (oEf 3 K) 0 0 63 [vr 57, vu, vi l2, vi l3, vi l4, vi l5, vi l6, vi l7] [] WD M := by
      intro l3 l5 l6 l7 M H
      refine oj_ald0 (pc := 63) (by decide +kernel) ?_
      refine oj_getR' (pc := 64) f_M_62 s_57_28 (by decide +kernel) ?_
      refine oj_ld3 (pc := 67) (by decide +kernel) ?_
      refine oj_ld6 (pc := 68) (by decide +kernel) ?_
      refine oj_if_ne (pc := 70) (off := 8) (tgt := 78) (by decide +kernel) (by decide) H (fun _ H => ?_) (fun _ H => ?_)
      · refine oj_ald0 (pc := 78) (by decide +kernel) ?_
        refine oj_getR' (pc := 79) f_M_65 s_57_29 (by decide +kernel) ?_
        refine oj_ld7 (pc := 82) (by decide +kernel) ?_
        refine oj_iald (pc := 84) (NN := 8) a_76 rfl (by decide +kernel) H (fun H => ?_)
        refine oj_le (lv' := [_, vu, _, _, _, _, vu, vu]) ⟨Or.inr rfl, Or.inr rfl, Or.inr rfl, Or.inr rfl, Or.inr rfl, Or.inr rfl, Or.inl rfl, Or.inl rfl, trivial⟩ ?_
        exact h85 _ _ _ _ _ H
      · refine oj_ld7 (pc := 73) (by decide +kernel) ?_
        refine oj_goto (pc := 75) (off := 10) (tgt := 85) (by decide +kernel) (by decide) ?_
        refine oj_le (lv' := [_, vu, _, _, _, _, vu, vu]) ⟨Or.inr rfl, Or.inr rfl, Or.inr rfl, Or.inr rfl, Or.inr rfl, Or.inr rfl, Or.inl rfl, Or.inl rfl, trivial⟩ ?_
        exact h85 _ _ _ _ _ H
    have h155 : ∀ (l3 l5 l7 s0 s1 : Int) (M : oM), okp (p_M_comesTo_B155_16 f l2 l3 l4 l5 l7 s0 s1 M) K16 → oJ l m_M_comesTo (oEf 3 K) 0 0 155 [vr 57, vu, vi l2, vi l3, vi l4, vi l5, vu, vi l7] [vi s1, vi s0] WD M := by
      intro l3 l5 l7 s0 s1 M H
      refine oj_icmp_ne (pc := 155) (off := 13) (tgt := 168) (by decide +kernel) (by decide) H (fun _ H => ?_) (fun _ H => ?_)
      · refine oj_ld3 (pc := 168) (by decide +kernel) ?_
        refine oj_iconst (pc := 169) (v := 1) ⟨by decide, by decide⟩ (by decide +kernel) ?_
        refine oj_isub (pc := 170) (by decide +kernel) ?_
        refine oj_st3 (pc := 171) (by decide +kernel) (by decide +kernel) ?_
        have H := okp_lt H
        refine oj_goto (pc := 172) (off := 58) (tgt := 230) (by decide +kernel) (by decide) ?_
        refine oj_le (lv' := [_, vu, _, _, _, _, vu, vu]) ⟨Or.inr rfl, Or.inr rfl, Or.inr rfl, Or.inr rfl, Or.inr rfl, Or.inr rfl, Or.inr rfl, Or.inl rfl, trivial⟩ ?_
        exact h230 _ _ _ H
      · refine oj_ld4 (pc := 158) (by decide +kernel) ?_
        refine oj_ld7 (pc := 160) (by decide +kernel) ?_
        refine oj_iadd (pc := 162) (by decide +kernel) ?_
        refine oj_st5 (pc := 163) (by decide +kernel) (by decide +kernel) ?_
        have H := okp_lt H
        refine oj_goto (pc := 165) (off := 65) (tgt := 230) (by decide +kernel) (by decide) ?_
        refine oj_le (lv' := [_, vu, _, _, _, _, vu, vu]) ⟨Or.inr rfl, Or.inr rfl, Or.inr rfl, Or.inr rfl, Or.inr rfl, Or.inr rfl, Or.inr rfl, Or.inl rfl, trivial⟩ ?_
        exact h230 _ _ _ H
    have h135 : ∀ (l3 l5 l6 l7 : Int) (M : oM), okp (p_M_comesTo_B135_16 f l2 l3 l4 l5 l6 l7 M) K16 → oJ l m_M_comesTo (oEf 3 K) 0 0 135 [vr 57, vu, vi l2, vi l3, vi l4, vi l5, vi l6, vi l7] [] WD M := by
      intro l3 l5 l6 l7 M H
      refine oj_ald0 (pc := 135) (by decide +kernel) ?_
      refine oj_getR' (pc := 136) f_M_62 s_57_28 (by decide +kernel) ?_
      refine oj_ld3 (pc := 139) (by decide +kernel) ?_
      refine oj_iconst (pc := 140) (v := 1) ⟨by decide, by decide⟩ (by decide +kernel) ?_
      refine oj_isub (pc := 141) (by decide +kernel) ?_
      refine oj_iald (pc := 142) (NN := 260) a_75 rfl (by decide +kernel) H (fun H => ?_)
      refine oj_ld6 (pc := 143) (by decide +kernel) ?_
      refine oj_bipush (pc := 145) (v := 12) ⟨by decide, by decide⟩ (by decide +kernel) ?_
      refine oj_icmp_ne (pc := 147) (off := 7) (tgt := 154) (by decide +kernel) (by decide) H (fun _ H => ?_) (fun _ H => ?_)
      · refine oj_iconst (pc := 154) (v := 0) ⟨by decide, by decide⟩ (by decide +kernel) ?_
        refine oj_le (lv' := [_, vu, _, _, _, _, vu, _]) ⟨Or.inr rfl, Or.inr rfl, Or.inr rfl, Or.inr rfl, Or.inr rfl, Or.inr rfl, Or.inl rfl, Or.inr rfl, trivial⟩ ?_
        exact h155 _ _ _ _ _ _ H
      · refine oj_iconst (pc := 150) (v := 1) ⟨by decide, by decide⟩ (by decide +kernel) ?_
        refine oj_goto (pc := 151) (off := 4) (tgt := 155) (by decide +kernel) (by decide) ?_
        refine oj_le (lv' := [_, vu, _, _, _, _, vu, _]) ⟨Or.inr rfl, Or.inr rfl, Or.inr rfl, Or.inr rfl, Or.inr rfl, Or.inr rfl, Or.inl rfl, Or.inr rfl, trivial⟩ ?_
        exact h155 _ _ _ _ _ _ H
    have h203 : ∀ (l3 l5 l6 : Int) (M : oM), okp (p_M_comesTo_B203_16 f l2 l3 l4 l5 l6 M) K16 → oJ l m_M_comesTo (oEf 3 K) 0 0 203 [vr 57, vu, vi l2, vi l3, vi l4, vi l5, vi l6, vu] [] WD M := by
      intro l3 l5 l6 M H
      refine oj_ald0 (pc := 203) (by decide +kernel) ?_
      refine oj_getR' (pc := 204) f_M_62 s_57_28 (by decide +kernel) ?_
      refine oj_ld3 (pc := 207) (by decide +kernel) ?_
      refine oj_iconst (pc := 208) (v := 1) ⟨by decide, by decide⟩ (by decide +kernel) ?_
      refine oj_isub (pc := 209) (by decide +kernel) ?_
      refine oj_ld6 (pc := 210) (by decide +kernel) ?_
      refine oj_ald0 (pc := 212) (by decide +kernel) ?_
      refine oj_getR' (pc := 213) f_M_62 s_57_28 (by decide +kernel) ?_
      refine oj_ld3 (pc := 216) (by decide +kernel) ?_
      refine oj_iconst (pc := 217) (v := 1) ⟨by decide, by decide⟩ (by decide +kernel) ?_
      refine oj_isub (pc := 218) (by decide +kernel) ?_
      refine oj_iald (pc := 219) (NN := 260) a_75 rfl (by decide +kernel) H (fun H => ?_)
      refine oj_ald0 (pc := 220) (by decide +kernel) ?_
      refine oj_getR' (pc := 221) f_M_62 s_57_28 (by decide +kernel) ?_
      refine oj_ld3 (pc := 224) (by decide +kernel) ?_
      refine oj_iald (pc := 225) (NN := 260) a_75 rfl (by decide +kernel) H (fun H => ?_)
      refine of_Si (pc := 226) (as := [_, _, _]) v_M_258 rfl rfl (Nat.le_of_ble_eq_true rfl) (by decide +kernel) (by decide) rfl (c_M_reckon_0 (okp_bind H)) (fun r M H => ?_)
      refine oj_iast (pc := 229) (NN := 260) a_75 rfl (by decide +kernel) H (fun H => ?_)
      have H := okp_lt H
      refine oj_le (lv' := [_, vu, _, _, _, _, vu, vu]) ⟨Or.inr rfl, Or.inr rfl, Or.inr rfl, Or.inr rfl, Or.inr rfl, Or.inr rfl, Or.inl rfl, Or.inr rfl, trivial⟩ ?_
      exact h230 _ _ _ H
    have h192 : ∀ (l3 l5 l6 : Int) (M : oM), okp (p_M_comesTo_B192_16 f l2 l3 l4 l5 l6 M) K16 → oJ l m_M_comesTo (oEf 3 K) 0 0 192 [vr 57, vu, vi l2, vi l3, vi l4, vi l5, vi l6, vu] [] WD M := by
      intro l3 l5 l6 M H
      refine oj_ald0 (pc := 192) (by decide +kernel) ?_
      refine oj_getR' (pc := 193) f_M_62 s_57_28 (by decide +kernel) ?_
      refine oj_ld3 (pc := 196) (by decide +kernel) ?_
      refine oj_iald (pc := 197) (NN := 260) a_75 rfl (by decide +kernel) H (fun H => ?_)
      refine oj_if_ne (pc := 198) (off := 5) (tgt := 203) (by decide +kernel) (by decide) H (fun _ H => ?_) (fun _ H => ?_)
      · exact h203 _ _ _ _ H
      · refine oj_iconst (pc := 201) (v := 0) ⟨by decide, by decide⟩ (by decide +kernel) ?_
        have H := e16 _ H
        exact oj_iret (pc := 202) (by decide +kernel) rfl rfl (Nat.le_refl _) (Nat.le_refl _) ⟨rfl, H⟩
    refine oj_ld5 (pc := 16) (by decide +kernel) ?_
    refine oj_ld2 (pc := 18) (by decide +kernel) ?_
    refine oj_icmp_ge (pc := 19) (off := 214) (tgt := 233) (by decide +kernel) (by decide) H (fun _ H => ?_) (fun _ H => ?_)
    · refine oj_ald0 (pc := 233) (by decide +kernel) ?_
      refine oj_getR' (pc := 234) f_M_62 s_57_28 (by decide +kernel) ?_
      refine oj_iconst (pc := 237) (v := 0) ⟨by decide, by decide⟩ (by decide +kernel) ?_
      refine oj_iald (pc := 238) (NN := 260) a_75 rfl (by decide +kernel) H (fun H => ?_)
      have H := e16 _ H
      exact oj_iret (pc := 239) (by decide +kernel) rfl rfl (Nat.le_refl _) (Nat.le_refl _) ⟨rfl, H⟩
    · refine oj_ald0 (pc := 22) (by decide +kernel) ?_
      refine oj_getR' (pc := 23) f_M_47 s_57_23 (by decide +kernel) ?_
      refine oj_ld5 (pc := 26) (by decide +kernel) ?_
      refine oj_iald (pc := 28) (NN := 260) a_70 rfl (by decide +kernel) H (fun H => ?_)
      refine oj_ldc (pc := 29) (v := 1048576) k_M_192 ⟨by decide, by decide⟩ (by decide +kernel) ?_
      refine oj_idiv (pc := 31) (by decide +kernel) H (fun _ H => ?_)
      refine oj_st6 (pc := 32) (by decide +kernel) (by decide +kernel) ?_
      have H := okp_lt H
      refine oj_ald0 (pc := 34) (by decide +kernel) ?_
      refine oj_getR' (pc := 35) f_M_47 s_57_23 (by decide +kernel) ?_
      refine oj_ld5 (pc := 38) (by decide +kernel) ?_
      refine oj_iald (pc := 40) (NN := 260) a_70 rfl (by decide +kernel) H (fun H => ?_)
      refine oj_ldc (pc := 41) (v := 1048576) k_M_192 ⟨by decide, by decide⟩ (by decide +kernel) ?_
      refine oj_irem (pc := 43) (by decide +kernel) H (fun _ H => ?_)
      refine oj_st7 (pc := 44) (by decide +kernel) (by decide +kernel) ?_
      have H := okp_lt H
      refine oj_ld5 (pc := 46) (by decide +kernel) ?_
      refine oj_iconst (pc := 48) (v := 1) ⟨by decide, by decide⟩ (by decide +kernel) ?_
      refine oj_iadd (pc := 49) (by decide +kernel) ?_
      refine oj_st5 (pc := 50) (by decide +kernel) (by decide +kernel) ?_
      have H := okp_lt H
      refine oj_ld6 (pc := 52) (by decide +kernel) ?_
      refine oj_if_eq (pc := 54) (off := 9) (tgt := 63) (by decide +kernel) (by decide) H (fun _ H => ?_) (fun _ H => ?_)
      · exact h63 _ _ _ _ _ H
      · refine oj_ld6 (pc := 57) (by decide +kernel) ?_
        refine oj_iconst (pc := 59) (v := 1) ⟨by decide, by decide⟩ (by decide +kernel) ?_
        refine oj_icmp_ne (pc := 60) (off := 33) (tgt := 93) (by decide +kernel) (by decide) H (fun _ H => ?_) (fun _ H => ?_)
        · refine oj_ld6 (pc := 93) (by decide +kernel) ?_
          refine oj_bipush (pc := 95) (v := 10) ⟨by decide, by decide⟩ (by decide +kernel) ?_
          refine oj_icmp_ne (pc := 97) (off := 24) (tgt := 121) (by decide +kernel) (by decide) H (fun _ H => ?_) (fun _ H => ?_)
          · refine oj_ld6 (pc := 121) (by decide +kernel) ?_
            refine oj_bipush (pc := 123) (v := 11) ⟨by decide, by decide⟩ (by decide +kernel) ?_
            refine oj_icmp_eq (pc := 125) (off := 10) (tgt := 135) (by decide +kernel) (by decide) H (fun _ H => ?_) (fun _ H => ?_)
            · exact h135 _ _ _ _ _ H
            · refine oj_ld6 (pc := 128) (by decide +kernel) ?_
              refine oj_bipush (pc := 130) (v := 12) ⟨by decide, by decide⟩ (by decide +kernel) ?_
              refine oj_icmp_ne (pc := 132) (off := 43) (tgt := 175) (by decide +kernel) (by decide) H (fun _ H => ?_) (fun _ H => ?_)
              · refine oj_ld3 (pc := 175) (by decide +kernel) ?_
                refine oj_iconst (pc := 176) (v := 1) ⟨by decide, by decide⟩ (by decide +kernel) ?_
                refine oj_isub (pc := 177) (by decide +kernel) ?_
                refine oj_st3 (pc := 178) (by decide +kernel) (by decide +kernel) ?_
                have H := okp_lt H
                refine oj_ld6 (pc := 179) (by decide +kernel) ?_
                refine oj_iconst (pc := 181) (v := 5) ⟨by decide, by decide⟩ (by decide +kernel) ?_
                refine oj_icmp_eq (pc := 182) (off := 10) (tgt := 192) (by decide +kernel) (by decide) H (fun _ H => ?_) (fun _ H => ?_)
                · refine oj_le (lv' := [_, vu, _, _, _, _, _, vu]) ⟨Or.inr rfl, Or.inr rfl, Or.inr rfl, Or.inr rfl, Or.inr rfl, Or.inr rfl, Or.inr rfl, Or.inl rfl, trivial⟩ ?_
                  exact h192 _ _ _ _ H
                · refine oj_ld6 (pc := 185) (by decide +kernel) ?_
                  refine oj_bipush (pc := 187) (v := 6) ⟨by decide, by decide⟩ (by decide +kernel) ?_
                  refine oj_icmp_ne (pc := 189) (off := 14) (tgt := 203) (by decide +kernel) (by decide) H (fun _ H => ?_) (fun _ H => ?_)
                  · refine oj_le (lv' := [_, vu, _, _, _, _, _, vu]) ⟨Or.inr rfl, Or.inr rfl, Or.inr rfl, Or.inr rfl, Or.inr rfl, Or.inr rfl, Or.inr rfl, Or.inl rfl, trivial⟩ ?_
                    exact h203 _ _ _ _ H
                  · refine oj_le (lv' := [_, vu, _, _, _, _, _, vu]) ⟨Or.inr rfl, Or.inr rfl, Or.inr rfl, Or.inr rfl, Or.inr rfl, Or.inr rfl, Or.inr rfl, Or.inl rfl, trivial⟩ ?_
                    exact h192 _ _ _ _ H
              · exact h135 _ _ _ _ _ H
          · refine oj_ald0 (pc := 100) (by decide +kernel) ?_
            refine oj_getR' (pc := 101) f_M_62 s_57_28 (by decide +kernel) ?_
            refine oj_ld3 (pc := 104) (by decide +kernel) ?_
            refine oj_iconst (pc := 105) (v := 1) ⟨by decide, by decide⟩ (by decide +kernel) ?_
            refine oj_isub (pc := 106) (by decide +kernel) ?_
            refine oj_iconst (pc := 107) (v := 1) ⟨by decide, by decide⟩ (by decide +kernel) ?_
            refine oj_ald0 (pc := 108) (by decide +kernel) ?_
            refine oj_getR' (pc := 109) f_M_62 s_57_28 (by decide +kernel) ?_
            refine oj_ld3 (pc := 112) (by decide +kernel) ?_
            refine oj_iconst (pc := 113) (v := 1) ⟨by decide, by decide⟩ (by decide +kernel) ?_
            refine oj_isub (pc := 114) (by decide +kernel) ?_
            refine oj_iald (pc := 115) (NN := 260) a_75 rfl (by decide +kernel) H (fun H => ?_)
            refine oj_isub (pc := 116) (by decide +kernel) ?_
            refine oj_iast (pc := 117) (NN := 260) a_75 rfl (by decide +kernel) H (fun H => ?_)
            have H := okp_lt H
            refine oj_goto (pc := 118) (off := 112) (tgt := 230) (by decide +kernel) (by decide) ?_
            refine oj_le (lv' := [_, vu, _, _, _, _, vu, vu]) ⟨Or.inr rfl, Or.inr rfl, Or.inr rfl, Or.inr rfl, Or.inr rfl, Or.inr rfl, Or.inl rfl, Or.inl rfl, trivial⟩ ?_
            exact h230 _ _ _ H
        · exact h63 _ _ _ _ _ H
  refine oj_iconst (pc := 0) (v := 0) ⟨by decide, by decide⟩ (by decide +kernel) ?_
  refine oj_st3 (pc := 1) (by decide +kernel) (by decide +kernel) ?_
  refine oj_sipush (pc := 2) (v := 260) ⟨by decide, by decide⟩ (by decide +kernel) ?_
  refine oj_ld1 (pc := 5) (by decide +kernel) ?_
  refine oj_sipush (pc := 6) (v := 260) ⟨by decide, by decide⟩ (by decide +kernel) ?_
  refine oj_idiv (pc := 9) (by decide +kernel) H (fun _ H => ?_)
  refine oj_imul (pc := 10) (by decide +kernel) ?_
  refine oj_st4 (pc := 11) (by decide +kernel) (by decide +kernel) ?_
  have H := okp_lt H
  refine oj_ld1 (pc := 13) (by decide +kernel) ?_
  refine oj_st5 (pc := 14) (by decide +kernel) (by decide +kernel) ?_
  refine oj_le (lv' := [_, vu, _, _, _, _, vu, vu]) ⟨Or.inr rfl, Or.inl rfl, Or.inr rfl, Or.inr rfl, Or.inr rfl, Or.inr rfl, Or.inr rfl, Or.inr rfl, trivial⟩ ?_
  exact h16 _ _ _ _ _ _ H
theorem c_M_byLaw_0 {l : Launch} {f : Nat} {l1 l2 : Int} {M : oM} {K : Int × oM → Prop} (H : okp (p_M_byLaw f l1 l2 M) K) : oKf l m_M_byLaw 4 [vr 57, vi l1, vi l2] M K := by
  refine oK_intro (lv := [vr 57, vi l1, vi l2, vu, vu]) (by decide +kernel) (Nat.le_of_ble_eq_true rfl) rfl ?_
  have h2 : ∀ (g : Nat) (l1 l2 l3 : Int) (M : oM), okp (iter (p_M_byLaw_L2 f l1 l2) g (l3, M)) K → oJ l m_M_byLaw (oEf 4 K) 0 0 2 [vr 57, vi l1, vi l2, vi l3, vu] [] WD M := by
    intro g l1 l2 l3 M H
    have HL := fun hs => iter_J' (Jh := fun s => oJ l m_M_byLaw (oEf 4 K) 0 0 2 [vr 57, vi l1, vi l2, vi s.1, vu] [] WD s.2) (G := K) hs g (l3, M) H
    refine HL ?_
    intro K2 s i2 e2 H
    obtain ⟨l3, M⟩ := s
    show oJ l m_M_byLaw (oEf 4 K) 0 0 2 [vr 57, vi l1, vi l2, vi l3, vu] [] WD M
    have h83 : ∀ (l3 : Int) (M : oM), okp (p_M_byLaw_B83_2 f l1 l2 l3 M) K2 → oJ l m_M_byLaw (oEf 4 K) 0 0 83 [vr 57, vi l1, vi l2, vi l3, vu] [] WD M := by
      intro l3 M H
      refine oj_inc3 (pc := 83) (d := 1) (by decide +kernel) (by decide +kernel) ?_
      have H := okp_lt H
      refine oj_goto (pc := 86) (off := -84) (tgt := 2) (by decide +kernel) (by decide) ?_
      have H := i2 _ H
      exact H
    refine oj_ld3 (pc := 2) (by decide +kernel) ?_
    refine oj_ald0 (pc := 3) (by decide +kernel) ?_
    refine oj_getI' (pc := 4) (ki := 16) f_M_255 s_57_16 rfl (by decide +kernel) ?_
    refine oj_icmp_ge (pc := 7) (off := 82) (tgt := 89) (by decide +kernel) (by decide) H (fun _ H => ?_) (fun _ H => ?_)
    · refine oj_iconst (pc := 89) (v := 0) ⟨by decide, by decide⟩ (by decide +kernel) ?_
      have H := e2 _ H
      exact oj_iret (pc := 90) (by decide +kernel) rfl rfl (Nat.le_refl _) (Nat.le_refl _) ⟨rfl, H⟩
    · refine oj_ald0 (pc := 10) (by decide +kernel) ?_
      refine oj_getR' (pc := 11) f_M_50 s_57_24 (by decide +kernel) ?_
      refine oj_ld3 (pc := 14) (by decide +kernel) ?_
      refine oj_iald (pc := 15) (NN := 16) a_71 rfl (by decide +kernel) H (fun H => ?_)
      refine oj_ld1 (pc := 16) (by decide +kernel) ?_
      refine oj_icmp_ne (pc := 17) (off := 66) (tgt := 83) (by decide +kernel) (by decide) H (fun _ H => ?_) (fun _ H => ?_)
      · exact h83 _ _ H
      · refine oj_ald0 (pc := 20) (by decide +kernel) ?_
        refine oj_ald0 (pc := 21) (by decide +kernel) ?_
        refine oj_getR' (pc := 22) f_M_56 s_57_26 (by decide +kernel) ?_
        refine oj_ld3 (pc := 25) (by decide +kernel) ?_
        refine oj_iald (pc := 26) (NN := 16) a_73 rfl (by decide +kernel) H (fun H => ?_)
        refine oj_ald0 (pc := 27) (by decide +kernel) ?_
        refine oj_getR' (pc := 28) f_M_59 s_57_27 (by decide +kernel) ?_
        refine oj_ld3 (pc := 31) (by decide +kernel) ?_
        refine oj_iald (pc := 32) (NN := 16) a_74 rfl (by decide +kernel) H (fun H => ?_)
        refine of_Vi (pc := 33) (as := [_, _]) v_M_262 o_57 rfl rfl (Nat.le_of_ble_eq_true rfl) (by decide +kernel) (by decide) rfl (c_M_comesTo_0 (okp_bind H)) (fun r M H => ?_)
        refine oj_iconst (pc := 36) (v := 1) ⟨by decide, by decide⟩ (by decide +kernel) ?_
        refine oj_icmp_eq (pc := 37) (off := 6) (tgt := 43) (by decide +kernel) (by decide) H (fun _ H => ?_) (fun _ H => ?_)
        · refine oj_ald0 (pc := 43) (by decide +kernel) ?_
          refine oj_ald0 (pc := 44) (by decide +kernel) ?_
          refine oj_getR' (pc := 45) f_M_53 s_57_25 (by decide +kernel) ?_
          refine oj_ld3 (pc := 48) (by decide +kernel) ?_
          refine oj_iald (pc := 49) (NN := 16) a_72 rfl (by decide +kernel) H (fun H => ?_)
          refine oj_ald0 (pc := 50) (by decide +kernel) ?_
          refine oj_getR' (pc := 51) f_M_56 s_57_26 (by decide +kernel) ?_
          refine oj_ld3 (pc := 54) (by decide +kernel) ?_
          refine oj_iald (pc := 55) (NN := 16) a_73 rfl (by decide +kernel) H (fun H => ?_)
          refine of_Vi (pc := 56) (as := [_, _]) v_M_262 o_57 rfl rfl (Nat.le_of_ble_eq_true rfl) (by decide +kernel) (by decide) rfl (c_M_comesTo_0 (okp_bind H)) (fun r M H => ?_)
          refine oj_st4 (pc := 59) (by decide +kernel) (by decide +kernel) ?_
          refine oj_ld4 (pc := 61) (by decide +kernel) ?_
          refine oj_if_ge (pc := 63) (off := 7) (tgt := 70) (by decide +kernel) (by decide) H (fun _ H => ?_) (fun _ H => ?_)
          · refine oj_ld4 (pc := 70) (by decide +kernel) ?_
            refine oj_ld2 (pc := 72) (by decide +kernel) ?_
            refine oj_icmp_le (pc := 73) (off := 7) (tgt := 80) (by decide +kernel) (by decide) H (fun _ H => ?_) (fun _ H => ?_)
            · refine oj_ld4 (pc := 80) (by decide +kernel) ?_
              have H := e2 _ H
              exact oj_iret (pc := 82) (by decide +kernel) rfl rfl (Nat.le_refl _) (Nat.le_refl _) ⟨rfl, H⟩
            · refine oj_ld2 (pc := 76) (by decide +kernel) ?_
              refine oj_goto (pc := 77) (off := 5) (tgt := 82) (by decide +kernel) (by decide) ?_
              have H := e2 _ H
              exact oj_iret (pc := 82) (by decide +kernel) rfl rfl (Nat.le_refl _) (Nat.le_refl _) ⟨rfl, H⟩
          · refine oj_iconst (pc := 66) (v := 0) ⟨by decide, by decide⟩ (by decide +kernel) ?_
            refine oj_goto (pc := 67) (off := 15) (tgt := 82) (by decide +kernel) (by decide) ?_
            have H := e2 _ H
            exact oj_iret (pc := 82) (by decide +kernel) rfl rfl (Nat.le_refl _) (Nat.le_refl _) ⟨rfl, H⟩
        · refine oj_goto (pc := 40) (off := 43) (tgt := 83) (by decide +kernel) (by decide) ?_
          exact h83 _ _ H
  refine oj_iconst (pc := 0) (v := 0) ⟨by decide, by decide⟩ (by decide +kernel) ?_
  refine oj_st3 (pc := 1) (by decide +kernel) (by decide +kernel) ?_
  exact h2 _ _ _ _ _ H
theorem c_M_chalksOf_0 {l : Launch} {f : Nat} {l1 : Int} {M : oM} {K : Int × oM → Prop} (H : okp (p_M_chalksOf f l1 M) K) : oKf l m_M_chalksOf 2 [vr 57, vi l1] M K := by
  refine oK_intro (lv := [vr 57, vi l1, vu, vu]) (by decide +kernel) (Nat.le_of_ble_eq_true rfl) rfl ?_
  have h4 : ∀ (g : Nat) (l1 l2 l3 : Int) (M : oM), okp (iter (p_M_chalksOf_L4 f l1) g (l2, l3, M)) K → oJ l m_M_chalksOf (oEf 2 K) 0 0 4 [vr 57, vi l1, vi l2, vi l3] [] WD M := by
    intro g l1 l2 l3 M H
    have HL := fun hs => iter_J' (Jh := fun s => oJ l m_M_chalksOf (oEf 2 K) 0 0 4 [vr 57, vi l1, vi s.1, vi s.2.1] [] WD s.2.2) (G := K) hs g (l2, l3, M) H
    refine HL ?_
    intro K4 s i4 e4 H
    obtain ⟨l2, l3, M⟩ := s
    show oJ l m_M_chalksOf (oEf 2 K) 0 0 4 [vr 57, vi l1, vi l2, vi l3] [] WD M
    unfold p_M_chalksOf_L4 at H
    have h35 : ∀ (l3 s0 s1 : Int) (M : oM), okp (p_M_chalksOf_B35_4 f l1 l3 s0 s1 M) K4 → oJ l m_M_chalksOf (oEf 2 K) 0 0 35 [vr 57, vi l1, vu, vi l3] [vi s1, vi s0] WD M := by
      intro l3 s0 s1 M H
      refine oj_iadd (pc := 35) (by decide +kernel) ?_
      refine oj_st2 (pc := 36) (by decide +kernel) (by decide +kernel) ?_
      have H := okp_lt H
      refine oj_inc3 (pc := 37) (d := 1) (by decide +kernel) (by decide +kernel) ?_
      have H := okp_lt H
      refine oj_goto (pc := 40) (off := -36) (tgt := 4) (by decide +kernel) (by decide) ?_
      have H := i4 _ H
      exact H
    refine oj_ld3 (pc := 4) (by decide +kernel) ?_
    refine oj_ald0 (pc := 5) (by decide +kernel) ?_
    refine oj_getR' (pc := 6) f_M_7 s_57_0 (by decide +kernel) ?_
    refine oj_sipush (pc := 9) (v := 150) ⟨by decide, by decide⟩ (by decide +kernel) ?_
    refine oj_iald (pc := 12) (NN := 159) a_58 rfl (by decide +kernel) H (fun H => ?_)
    refine oj_icmp_ge (pc := 13) (off := 30) (tgt := 43) (by decide +kernel) (by decide) H (fun _ H => ?_) (fun _ H => ?_)
    · refine oj_ld2 (pc := 43) (by decide +kernel) ?_
      have H := e4 _ H
      exact oj_iret (pc := 44) (by decide +kernel) rfl rfl (Nat.le_refl _) (Nat.le_refl _) ⟨rfl, H⟩
    · refine oj_ld2 (pc := 16) (by decide +kernel) ?_
      refine oj_ald0 (pc := 17) (by decide +kernel) ?_
      refine oj_getR' (pc := 18) f_M_7 s_57_0 (by decide +kernel) ?_
      refine oj_bipush (pc := 21) (v := 110) ⟨by decide, by decide⟩ (by decide +kernel) ?_
      refine oj_ld3 (pc := 23) (by decide +kernel) ?_
      refine oj_iadd (pc := 24) (by decide +kernel) ?_
      refine oj_iald (pc := 25) (NN := 159) a_58 rfl (by decide +kernel) H (fun H => ?_)
      refine oj_ld1 (pc := 26) (by decide +kernel) ?_
      refine oj_icmp_ne (pc := 27) (off := 7) (tgt := 34) (by decide +kernel) (by decide) H (fun _ H => ?_) (fun _ H => ?_)
      · refine oj_iconst (pc := 34) (v := 0) ⟨by decide, by decide⟩ (by decide +kernel) ?_
        refine oj_le (lv' := [_, _, vu, _]) ⟨Or.inr rfl, Or.inr rfl, Or.inl rfl, Or.inr rfl, trivial⟩ ?_
        exact h35 _ _ _ _ H
      · refine oj_iconst (pc := 30) (v := 1) ⟨by decide, by decide⟩ (by decide +kernel) ?_
        refine oj_goto (pc := 31) (off := 4) (tgt := 35) (by decide +kernel) (by decide) ?_
        refine oj_le (lv' := [_, _, vu, _]) ⟨Or.inr rfl, Or.inr rfl, Or.inl rfl, Or.inr rfl, trivial⟩ ?_
        exact h35 _ _ _ _ H
  refine oj_iconst (pc := 0) (v := 0) ⟨by decide, by decide⟩ (by decide +kernel) ?_
  refine oj_st2 (pc := 1) (by decide +kernel) (by decide +kernel) ?_
  refine oj_iconst (pc := 2) (v := 0) ⟨by decide, by decide⟩ (by decide +kernel) ?_
  refine oj_st3 (pc := 3) (by decide +kernel) (by decide +kernel) ?_
  exact h4 _ _ _ _ _ H
theorem c_M_feels_0 {l : Launch} {f : Nat} {l1 : Int} {M : oM} {K : Int × oM → Prop} (H : okp (p_M_feels f l1 M) K) : oKf l m_M_feels 2 [vr 57, vi l1] M K := by
  refine oK_intro (lv := [vr 57, vi l1, vu]) (by decide +kernel) (Nat.le_of_ble_eq_true rfl) rfl ?_
  have h2 : ∀ (g : Nat) (l1 l2 : Int) (M : oM), okp (iter (p_M_feels_L2 f l1) g (l2, M)) K → oJ l m_M_feels (oEf 2 K) 0 0 2 [vr 57, vi l1, vi l2] [] WD M := by
    intro g l1 l2 M H
    have HL := fun hs => iter_J' (Jh := fun s => oJ l m_M_feels (oEf 2 K) 0 0 2 [vr 57, vi l1, vi s.1] [] WD s.2) (G := K) hs g (l2, M) H
    refine HL ?_
    intro K2 s i2 e2 H
    obtain ⟨l2, M⟩ := s
    show oJ l m_M_feels (oEf 2 K) 0 0 2 [vr 57, vi l1, vi l2] [] WD M
    refine oj_ld2 (pc := 2) (by decide +kernel) ?_
    refine oj_bipush (pc := 3) (v := 8) ⟨by decide, by decide⟩ (by decide +kernel) ?_
    refine oj_icmp_ge (pc := 5) (off := 16) (tgt := 21) (by decide +kernel) (by decide) H (fun _ H => ?_) (fun _ H => ?_)
    · refine oj_ald0 (pc := 21) (by decide +kernel) ?_
      refine oj_getR' (pc := 22) f_M_65 s_57_29 (by decide +kernel) ?_
      refine oj_bipush (pc := 25) (v := 6) ⟨by decide, by decide⟩ (by decide +kernel) ?_
      refine oj_ld1 (pc := 27) (by decide +kernel) ?_
      refine oj_iast (pc := 28) (NN := 8) a_76 rfl (by decide +kernel) H (fun H => ?_)
      have H := okp_lt H
      refine oj_ald0 (pc := 29) (by decide +kernel) ?_
      refine oj_getR' (pc := 30) f_M_65 s_57_29 (by decide +kernel) ?_
      refine oj_bipush (pc := 33) (v := 7) ⟨by decide, by decide⟩ (by decide +kernel) ?_
      refine oj_ald0 (pc := 35) (by decide +kernel) ?_
      refine oj_getR' (pc := 36) f_M_7 s_57_0 (by decide +kernel) ?_
      refine oj_sipush (pc := 39) (v := 156) ⟨by decide, by decide⟩ (by decide +kernel) ?_
      refine oj_iald (pc := 42) (NN := 159) a_58 rfl (by decide +kernel) H (fun H => ?_)
      refine oj_iast (pc := 43) (NN := 8) a_76 rfl (by decide +kernel) H (fun H => ?_)
      have H := okp_lt H
      have H := e2 _ H
      exact oj_vret (pc := 44) (by decide +kernel) rfl (Nat.le_refl _) (Nat.le_refl _) ⟨rfl, H⟩
    · refine oj_ald0 (pc := 8) (by decide +kernel) ?_
      refine oj_getR' (pc := 9) f_M_65 s_57_29 (by decide +kernel) ?_
      refine oj_ld2 (pc := 12) (by decide +kernel) ?_
      refine oj_iconst (pc := 13) (v := 0) ⟨by decide, by decide⟩ (by decide +kernel) ?_
      refine oj_iast (pc := 14) (NN := 8) a_76 rfl (by decide +kernel) H (fun H => ?_)
      have H := okp_lt H
      refine oj_inc2 (pc := 15) (d := 1) (by decide +kernel) (by decide +kernel) ?_
      have H := okp_lt H
      refine oj_goto (pc := 18) (off := -16) (tgt := 2) (by decide +kernel) (by decide) ?_
      have H := i2 _ H
      exact H
  refine oj_iconst (pc := 0) (v := 0) ⟨by decide, by decide⟩ (by decide +kernel) ?_
  refine oj_st2 (pc := 1) (by decide +kernel) (by decide +kernel) ?_
  exact h2 _ _ _ _ H
theorem c_M_max_0 {l : Launch} {f : Nat} {l0 l1 : Int} {M : oM} {K : Int × oM → Prop} (H : okp (p_M_max f l0 l1 M) K) : oKf l m_M_max 2 [vi l0, vi l1] M K := by
  refine oK_intro (lv := [vi l0, vi l1]) (by decide +kernel) (Nat.le_of_ble_eq_true rfl) rfl ?_
  refine oj_ld0 (pc := 0) (by decide +kernel) ?_
  refine oj_ld1 (pc := 1) (by decide +kernel) ?_
  refine oj_icmp_le (pc := 2) (off := 7) (tgt := 9) (by decide +kernel) (by decide) H (fun _ H => ?_) (fun _ H => ?_)
  · refine oj_ld1 (pc := 9) (by decide +kernel) ?_
    exact oj_iret (pc := 10) (by decide +kernel) rfl rfl (Nat.le_refl _) (Nat.le_refl _) ⟨rfl, H⟩
  · refine oj_ld0 (pc := 5) (by decide +kernel) ?_
    refine oj_goto (pc := 6) (off := 4) (tgt := 10) (by decide +kernel) (by decide) ?_
    exact oj_iret (pc := 10) (by decide +kernel) rfl rfl (Nat.le_refl _) (Nat.le_refl _) ⟨rfl, H⟩
theorem c_M_size_0 {l : Launch} {f : Nat} {l0 : Int} {M : oM} {K : Int × oM → Prop} (H : okp (p_M_size f l0 M) K) : oKf l m_M_size 2 [vi l0] M K := by
  refine oK_intro (lv := [vi l0]) (by decide +kernel) (Nat.le_of_ble_eq_true rfl) rfl ?_
  refine oj_ld0 (pc := 0) (by decide +kernel) ?_
  refine oj_if_ge (pc := 1) (off := 8) (tgt := 9) (by decide +kernel) (by decide) H (fun _ H => ?_) (fun _ H => ?_)
  · refine oj_ld0 (pc := 9) (by decide +kernel) ?_
    exact oj_iret (pc := 10) (by decide +kernel) rfl rfl (Nat.le_refl _) (Nat.le_refl _) ⟨rfl, H⟩
  · refine oj_ld0 (pc := 4) (by decide +kernel) ?_
    refine oj_ineg (pc := 5) (by decide +kernel) ?_
    refine oj_goto (pc := 6) (off := 4) (tgt := 10) (by decide +kernel) (by decide) ?_
    exact oj_iret (pc := 10) (by decide +kernel) rfl rfl (Nat.le_refl _) (Nat.le_refl _) ⟨rfl, H⟩
theorem c_M_wayOf_0 {l : Launch} {f : Nat} {l1 l2 : Int} {M : oM} {K : Int × oM → Prop} (H : okp (p_M_wayOf f l1 l2 M) K) : oKf l m_M_wayOf 3 [vr 57, vi l1, vi l2] M K := by
  refine oK_intro (lv := [vr 57, vi l1, vi l2]) (by decide +kernel) (Nat.le_of_ble_eq_true rfl) rfl ?_
  refine oj_iconst (pc := 0) (v := 1) ⟨by decide, by decide⟩ (by decide +kernel) ?_
  refine oj_ald0 (pc := 1) (by decide +kernel) ?_
  refine oj_getR' (pc := 2) f_M_19 s_57_3 (by decide +kernel) ?_
  refine oj_ld1 (pc := 5) (by decide +kernel) ?_
  refine oj_iald (pc := 6) (NN := 10) a_61 rfl (by decide +kernel) H (fun H => ?_)
  refine oj_ald0 (pc := 7) (by decide +kernel) ?_
  refine oj_getR' (pc := 8) f_M_19 s_57_3 (by decide +kernel) ?_
  refine oj_ld2 (pc := 11) (by decide +kernel) ?_
  refine oj_iald (pc := 12) (NN := 10) a_61 rfl (by decide +kernel) H (fun H => ?_)
  refine oj_isub (pc := 13) (by decide +kernel) ?_
  refine of_Si (pc := 14) (as := [_]) v_M_139 rfl rfl (Nat.le_of_ble_eq_true rfl) (by decide +kernel) (by decide) rfl (c_M_size_0 (okp_bind H)) (fun r M H => ?_)
  refine oj_ald0 (pc := 17) (by decide +kernel) ?_
  refine oj_getR' (pc := 18) f_M_22 s_57_4 (by decide +kernel) ?_
  refine oj_ld1 (pc := 21) (by decide +kernel) ?_
  refine oj_iald (pc := 22) (NN := 10) a_62 rfl (by decide +kernel) H (fun H => ?_)
  refine oj_ald0 (pc := 23) (by decide +kernel) ?_
  refine oj_getR' (pc := 24) f_M_22 s_57_4 (by decide +kernel) ?_
  refine oj_ld2 (pc := 27) (by decide +kernel) ?_
  refine oj_iald (pc := 28) (NN := 10) a_62 rfl (by decide +kernel) H (fun H => ?_)
  refine oj_isub (pc := 29) (by decide +kernel) ?_
  refine of_Si (pc := 30) (as := [_]) v_M_139 rfl rfl (Nat.le_of_ble_eq_true rfl) (by decide +kernel) (by decide) rfl (c_M_size_0 (okp_bind H)) (fun r M H => ?_)
  refine oj_iadd (pc := 33) (by decide +kernel) ?_
  refine of_Si (pc := 34) (as := [_, _]) v_M_143 rfl rfl (Nat.le_of_ble_eq_true rfl) (by decide +kernel) (by decide) rfl (c_M_max_0 (okp_bind H)) (fun r M H => ?_)
  exact oj_iret (pc := 37) (by decide +kernel) rfl rfl (Nat.le_refl _) (Nat.le_refl _) ⟨rfl, H⟩
theorem c_M_feelsTwo_0 {l : Launch} {f : Nat} {l1 l2 : Int} {M : oM} {K : Int × oM → Prop} (H : okp (p_M_feelsTwo f l1 l2 M) K) : oKf l m_M_feelsTwo 4 [vr 57, vi l1, vi l2] M K := by
  refine oK_intro (lv := [vr 57, vi l1, vi l2]) (by decide +kernel) (Nat.le_of_ble_eq_true rfl) rfl ?_
  refine oj_ald0 (pc := 0) (by decide +kernel) ?_
  refine oj_ald0 (pc := 1) (by decide +kernel) ?_
  refine oj_getR' (pc := 2) f_M_7 s_57_0 (by decide +kernel) ?_
  refine oj_sipush (pc := 5) (v := 155) ⟨by decide, by decide⟩ (by decide +kernel) ?_
  refine oj_iald (pc := 8) (NN := 159) a_58 rfl (by decide +kernel) H (fun H => ?_)
  refine of_Vv (pc := 9) (as := [_]) v_M_265 o_57 rfl rfl (Nat.le_of_ble_eq_true rfl) (by decide +kernel) (by decide) rfl (c_M_feels_0 (okp_bind H)) (fun M H => ?_)
  refine oj_ald0 (pc := 12) (by decide +kernel) ?_
  refine oj_getR' (pc := 13) f_M_65 s_57_29 (by decide +kernel) ?_
  refine oj_iconst (pc := 16) (v := 0) ⟨by decide, by decide⟩ (by decide +kernel) ?_
  refine oj_ld1 (pc := 17) (by decide +kernel) ?_
  refine oj_iast (pc := 18) (NN := 8) a_76 rfl (by decide +kernel) H (fun H => ?_)
  have H := okp_lt H
  refine oj_ald0 (pc := 19) (by decide +kernel) ?_
  refine oj_getR' (pc := 20) f_M_65 s_57_29 (by decide +kernel) ?_
  refine oj_iconst (pc := 23) (v := 1) ⟨by decide, by decide⟩ (by decide +kernel) ?_
  refine oj_ld2 (pc := 24) (by decide +kernel) ?_
  refine oj_iast (pc := 25) (NN := 8) a_76 rfl (by decide +kernel) H (fun H => ?_)
  have H := okp_lt H
  refine oj_ald0 (pc := 26) (by decide +kernel) ?_
  refine oj_getR' (pc := 27) f_M_65 s_57_29 (by decide +kernel) ?_
  refine oj_iconst (pc := 30) (v := 2) ⟨by decide, by decide⟩ (by decide +kernel) ?_
  refine oj_ald0 (pc := 31) (by decide +kernel) ?_
  refine oj_ld1 (pc := 32) (by decide +kernel) ?_
  refine oj_ld2 (pc := 33) (by decide +kernel) ?_
  refine of_Vi (pc := 34) (as := [_, _]) v_M_147 o_57 rfl rfl (Nat.le_of_ble_eq_true rfl) (by decide +kernel) (by decide) rfl (c_M_debtOf_0 (okp_bind H)) (fun r M H => ?_)
  refine oj_iast (pc := 37) (NN := 8) a_76 rfl (by decide +kernel) H (fun H => ?_)
  have H := okp_lt H
  refine oj_ald0 (pc := 38) (by decide +kernel) ?_
  refine oj_getR' (pc := 39) f_M_65 s_57_29 (by decide +kernel) ?_
  refine oj_iconst (pc := 42) (v := 3) ⟨by decide, by decide⟩ (by decide +kernel) ?_
  refine oj_ald0 (pc := 43) (by decide +kernel) ?_
  refine oj_ld1 (pc := 44) (by decide +kernel) ?_
  refine of_Vi (pc := 45) (as := [_]) v_M_150 o_57 rfl rfl (Nat.le_of_ble_eq_true rfl) (by decide +kernel) (by decide) rfl (c_M_owesAll_0 (okp_bind H)) (fun r M H => ?_)
  refine oj_iast (pc := 48) (NN := 8) a_76 rfl (by decide +kernel) H (fun H => ?_)
  have H := okp_lt H
  refine oj_ald0 (pc := 49) (by decide +kernel) ?_
  refine oj_getR' (pc := 50) f_M_65 s_57_29 (by decide +kernel) ?_
  refine oj_iconst (pc := 53) (v := 4) ⟨by decide, by decide⟩ (by decide +kernel) ?_
  refine oj_ald0 (pc := 54) (by decide +kernel) ?_
  refine oj_ld1 (pc := 55) (by decide +kernel) ?_
  refine oj_ld2 (pc := 56) (by decide +kernel) ?_
  refine of_Vi (pc := 57) (as := [_, _]) v_M_268 o_57 rfl rfl (Nat.le_of_ble_eq_true rfl) (by decide +kernel) (by decide) rfl (c_M_wayOf_0 (okp_bind H)) (fun r M H => ?_)
  refine oj_iast (pc := 60) (NN := 8) a_76 rfl (by decide +kernel) H (fun H => ?_)
  have H := okp_lt H
  refine oj_ald0 (pc := 61) (by decide +kernel) ?_
  refine oj_getR' (pc := 62) f_M_65 s_57_29 (by decide +kernel) ?_
  refine oj_iconst (pc := 65) (v := 5) ⟨by decide, by decide⟩ (by decide +kernel) ?_
  refine oj_ald0 (pc := 66) (by decide +kernel) ?_
  refine oj_ld2 (pc := 67) (by decide +kernel) ?_
  refine of_Vi (pc := 68) (as := [_]) v_M_271 o_57 rfl rfl (Nat.le_of_ble_eq_true rfl) (by decide +kernel) (by decide) rfl (c_M_chalksOf_0 (okp_bind H)) (fun r M H => ?_)
  refine oj_iast (pc := 71) (NN := 8) a_76 rfl (by decide +kernel) H (fun H => ?_)
  have H := okp_lt H
  exact oj_vret (pc := 72) (by decide +kernel) rfl (Nat.le_refl _) (Nat.le_refl _) ⟨rfl, H⟩
theorem c_M_rainBy_0 {l : Launch} {f : Nat} {M : oM} {K : Int × oM → Prop} (H : okp (p_M_rainBy f M) K) : oKf l m_M_rainBy 5 [vr 57] M K := by
  refine oK_intro (lv := [vr 57]) (by decide +kernel) (Nat.le_of_ble_eq_true rfl) rfl ?_
  refine oj_ald0 (pc := 0) (by decide +kernel) ?_
  refine oj_iconst (pc := 1) (v := 0) ⟨by decide, by decide⟩ (by decide +kernel) ?_
  refine of_Vv (pc := 2) (as := [_]) v_M_265 o_57 rfl rfl (Nat.le_of_ble_eq_true rfl) (by decide +kernel) (by decide) rfl (c_M_feels_0 (okp_bind H)) (fun M H => ?_)
  refine oj_ald0 (pc := 5) (by decide +kernel) ?_
  refine oj_bipush (pc := 6) (v := 114) ⟨by decide, by decide⟩ (by decide +kernel) ?_
  refine oj_bipush (pc := 8) (v := 10) ⟨by decide, by decide⟩ (by decide +kernel) ?_
  refine of_Vi (pc := 10) (as := [_, _]) v_M_280 o_57 rfl rfl (Nat.le_of_ble_eq_true rfl) (by decide +kernel) (by decide) rfl (c_M_byLaw_0 (okp_bind H)) (fun r M H => ?_)
  exact oj_iret (pc := 13) (by decide +kernel) rfl rfl (Nat.le_refl _) (Nat.le_refl _) ⟨rfl, H⟩
theorem c_M_dayBegins_0 {l : Launch} {f : Nat} {M : oM} {K : Int × oM → Prop} (H : okp (p_M_dayBegins f M) K) : oKf l m_M_dayBegins 6 [vr 57] M K := by
  refine oK_intro (lv := [vr 57, vu, vu, vu]) (by decide +kernel) (Nat.le_of_ble_eq_true rfl) rfl ?_
  have h78 : ∀ (g : Nat) (l1 : Int) (M : oM), okp (iter (p_M_dayBegins_L78 f) g (l1, M)) K → oJ l m_M_dayBegins (oEf 6 K) 0 0 78 [vr 57, vi l1, vu, vu] [] WD M := by
    intro g l1 M H
    have HL := fun hs => iter_J' (Jh := fun s => oJ l m_M_dayBegins (oEf 6 K) 0 0 78 [vr 57, vi s.1, vu, vu] [] WD s.2) (G := K) hs g (l1, M) H
    refine HL ?_
    intro K78 s i78 e78 H
    obtain ⟨l1, M⟩ := s
    show oJ l m_M_dayBegins (oEf 6 K) 0 0 78 [vr 57, vi l1, vu, vu] [] WD M
    have x86 : ∀ (l1 : Int) (M : oM), okp (p_M_dayBegins_X86 f l1 M) K78 → oJ l m_M_dayBegins (oEf 6 K) 0 0 168 [vr 57, vi l1, vu, vu] [] WD M := by
      intro l1 M H
      unfold p_M_dayBegins_X86 at H
      refine oj_inc1 (pc := 168) (d := 1) (by decide +kernel) (by decide +kernel) ?_
      have H := okp_lt H
      refine oj_goto (pc := 171) (off := -93) (tgt := 78) (by decide +kernel) (by decide) ?_
      have H := i78 _ H
      exact H
    have h86 : ∀ (g : Nat) (l1 l2 : Int) (M : oM), okp (iter (p_M_dayBegins_L86 f l1) g (l2, M)) (fun r => okp (p_M_dayBegins_X86 f l1 r) K78) → oJ l m_M_dayBegins (oEf 6 K) 0 0 86 [vr 57, vi l1, vi l2, vu] [] WD M := by
      intro g l1 l2 M H
      have HL := fun hs => iter_J' (Jh := fun s => oJ l m_M_dayBegins (oEf 6 K) 0 0 86 [vr 57, vi l1, vi s.1, vu] [] WD s.2) (G := (fun r => okp (p_M_dayBegins_X86 f l1 r) K78)) hs g (l2, M) H
      refine HL ?_
      intro K86 s i86 e86 H
      obtain ⟨l2, M⟩ := s
      show oJ l m_M_dayBegins (oEf 6 K) 0 0 86 [vr 57, vi l1, vi l2, vu] [] WD M
      have h162 : ∀ (l2 : Int) (M : oM), okp (p_M_dayBegins_B162_86 f l1 l2 M) K86 → oJ l m_M_dayBegins (oEf 6 K) 0 0 162 [vr 57, vi l1, vi l2, vu] [] WD M := by
        intro l2 M H
        refine oj_inc2 (pc := 162) (d := 1) (by decide +kernel) (by decide +kernel) ?_
        have H := okp_lt H
        refine oj_goto (pc := 165) (off := -79) (tgt := 86) (by decide +kernel) (by decide) ?_
        have H := i86 _ H
        exact H
      refine oj_ld2 (pc := 86) (by decide +kernel) ?_
      refine oj_bipush (pc := 87) (v := 10) ⟨by decide, by decide⟩ (by decide +kernel) ?_
      refine oj_icmp_ge (pc := 89) (off := 79) (tgt := 168) (by decide +kernel) (by decide) H (fun _ H => ?_) (fun _ H => ?_)
      · refine oj_le (lv' := [_, _, vu, vu]) ⟨Or.inr rfl, Or.inr rfl, Or.inl rfl, Or.inr rfl, trivial⟩ ?_
        have H := e86 _ H
        exact x86 _ _ H
      · refine oj_ald0 (pc := 92) (by decide +kernel) ?_
        refine oj_ld1 (pc := 93) (by decide +kernel) ?_
        refine oj_ld2 (pc := 94) (by decide +kernel) ?_
        refine of_Vi (pc := 95) (as := [_, _]) v_M_147 o_57 rfl rfl (Nat.le_of_ble_eq_true rfl) (by decide +kernel) (by decide) rfl (c_M_debtOf_0 (okp_bind H)) (fun r M H => ?_)
        refine oj_if_ne (pc := 98) (off := 6) (tgt := 104) (by decide +kernel) (by decide) H (fun _ H => ?_) (fun _ H => ?_)
        · refine oj_ald0 (pc := 104) (by decide +kernel) ?_
          refine oj_ld1 (pc := 105) (by decide +kernel) ?_
          refine oj_ld2 (pc := 106) (by decide +kernel) ?_
          refine of_Vv (pc := 107) (as := [_, _]) v_M_274 o_57 rfl rfl (Nat.le_of_ble_eq_true rfl) (by decide +kernel) (by decide) rfl (c_M_feelsTwo_0 (okp_bind H)) (fun M H => ?_)
          refine oj_bipush (pc := 110) (v := 99) ⟨by decide, by decide⟩ (by decide +kernel) ?_
          refine oj_ald0 (pc := 112) (by decide +kernel) ?_
          refine oj_ld1 (pc := 113) (by decide +kernel) ?_
          refine oj_ld2 (pc := 114) (by decide +kernel) ?_
          refine of_Vi (pc := 115) (as := [_, _]) v_M_147 o_57 rfl rfl (Nat.le_of_ble_eq_true rfl) (by decide +kernel) (by decide) rfl (c_M_debtOf_0 (okp_bind H)) (fun r M H => ?_)
          refine oj_ald0 (pc := 118) (by decide +kernel) ?_
          refine oj_bipush (pc := 119) (v := 105) ⟨by decide, by decide⟩ (by decide +kernel) ?_
          refine oj_bipush (pc := 121) (v := 9) ⟨by decide, by decide⟩ (by decide +kernel) ?_
          refine of_Vi (pc := 123) (as := [_, _]) v_M_280 o_57 rfl rfl (Nat.le_of_ble_eq_true rfl) (by decide +kernel) (by decide) rfl (c_M_byLaw_0 (okp_bind H)) (fun r M H => ?_)
          refine oj_iadd (pc := 126) (by decide +kernel) ?_
          refine of_Si (pc := 127) (as := [_, _]) v_M_290 rfl rfl (Nat.le_of_ble_eq_true rfl) (by decide +kernel) (by decide) rfl (c_M_min_0 (okp_bind H)) (fun r M H => ?_)
          refine oj_st3 (pc := 130) (by decide +kernel) (by decide +kernel) ?_
          refine oj_ald0 (pc := 131) (by decide +kernel) ?_
          refine oj_ald0 (pc := 132) (by decide +kernel) ?_
          refine oj_getI' (pc := 133) (ki := 34) f_M_309 s_57_34 rfl (by decide +kernel) ?_
          refine oj_ld3 (pc := 136) (by decide +kernel) ?_
          refine oj_iadd (pc := 137) (by decide +kernel) ?_
          refine oj_ald0 (pc := 138) (by decide +kernel) ?_
          refine oj_ld1 (pc := 139) (by decide +kernel) ?_
          refine oj_ld2 (pc := 140) (by decide +kernel) ?_
          refine of_Vi (pc := 141) (as := [_, _]) v_M_147 o_57 rfl rfl (Nat.le_of_ble_eq_true rfl) (by decide +kernel) (by decide) rfl (c_M_debtOf_0 (okp_bind H)) (fun r M H => ?_)
          refine oj_isub (pc := 144) (by decide +kernel) ?_
          refine oj_putI' (pc := 145) (ki := 34) f_M_309 s_57_34 rfl (by decide +kernel) ?_
          have H := okp_lt H
          refine oj_ald0 (pc := 148) (by decide +kernel) ?_
          refine oj_getR' (pc := 149) f_M_7 s_57_0 (by decide +kernel) ?_
          refine oj_iconst (pc := 152) (v := 0) ⟨by decide, by decide⟩ (by decide +kernel) ?_
          refine oj_bipush (pc := 153) (v := 10) ⟨by decide, by decide⟩ (by decide +kernel) ?_
          refine oj_ld1 (pc := 155) (by decide +kernel) ?_
          refine oj_imul (pc := 156) (by decide +kernel) ?_
          refine oj_iadd (pc := 157) (by decide +kernel) ?_
          refine oj_ld2 (pc := 158) (by decide +kernel) ?_
          refine oj_iadd (pc := 159) (by decide +kernel) ?_
          refine oj_ld3 (pc := 160) (by decide +kernel) ?_
          refine oj_iast (pc := 161) (NN := 159) a_58 rfl (by decide +kernel) H (fun H => ?_)
          have H := okp_lt H
          refine oj_le (lv' := [_, _, _, vu]) ⟨Or.inr rfl, Or.inr rfl, Or.inr rfl, Or.inl rfl, trivial⟩ ?_
          exact h162 _ _ H
        · refine oj_goto (pc := 101) (off := 61) (tgt := 162) (by decide +kernel) (by decide) ?_
          exact h162 _ _ H
    refine oj_ld1 (pc := 78) (by decide +kernel) ?_
    refine oj_bipush (pc := 79) (v := 10) ⟨by decide, by decide⟩ (by decide +kernel) ?_
    refine oj_icmp_ge (pc := 81) (off := 93) (tgt := 174) (by decide +kernel) (by decide) H (fun _ H => ?_) (fun _ H => ?_)
    · have H := e78 _ H
      exact oj_vret (pc := 174) (by decide +kernel) rfl (Nat.le_refl _) (Nat.le_refl _) ⟨rfl, H⟩
    · refine oj_iconst (pc := 84) (v := 0) ⟨by decide, by decide⟩ (by decide +kernel) ?_
      refine oj_st2 (pc := 85) (by decide +kernel) (by decide +kernel) ?_
      exact h86 _ _ _ _ (okp_bind H)
  have h58 : ∀ (s1 s2 : Int) (M : oM), okp (p_M_dayBegins_B58 f s1 s2 M) K → oJ l m_M_dayBegins (oEf 6 K) 0 0 58 [vr 57, vu, vu, vu] [vi s2, vi s1, vr 58] WD M := by
    intro s1 s2 M H
    refine oj_iast (pc := 58) (NN := 159) a_58 rfl (by decide +kernel) H (fun H => ?_)
    have H := okp_lt H
    refine oj_ald0 (pc := 59) (by decide +kernel) ?_
    refine oj_ald0 (pc := 60) (by decide +kernel) ?_
    refine oj_getI' (pc := 61) (ki := 33) f_M_306 s_57_33 rfl (by decide +kernel) ?_
    refine oj_ald0 (pc := 64) (by decide +kernel) ?_
    refine oj_getR' (pc := 65) f_M_7 s_57_0 (by decide +kernel) ?_
    refine oj_sipush (pc := 68) (v := 157) ⟨by decide, by decide⟩ (by decide +kernel) ?_
    refine oj_iald (pc := 71) (NN := 159) a_58 rfl (by decide +kernel) H (fun H => ?_)
    refine oj_iadd (pc := 72) (by decide +kernel) ?_
    refine oj_putI' (pc := 73) (ki := 33) f_M_306 s_57_33 rfl (by decide +kernel) ?_
    have H := okp_lt H
    refine oj_iconst (pc := 76) (v := 0) ⟨by decide, by decide⟩ (by decide +kernel) ?_
    refine oj_st1 (pc := 77) (by decide +kernel) (by decide +kernel) ?_
    exact h78 _ _ _ H
  refine oj_ald0 (pc := 0) (by decide +kernel) ?_
  refine oj_getR' (pc := 1) f_M_7 s_57_0 (by decide +kernel) ?_
  refine oj_sipush (pc := 4) (v := 158) ⟨by decide, by decide⟩ (by decide +kernel) ?_
  refine oj_sipush (pc := 7) (v := 25173) ⟨by decide, by decide⟩ (by decide +kernel) ?_
  refine oj_ald0 (pc := 10) (by decide +kernel) ?_
  refine oj_getR' (pc := 11) f_M_7 s_57_0 (by decide +kernel) ?_
  refine oj_sipush (pc := 14) (v := 158) ⟨by decide, by decide⟩ (by decide +kernel) ?_
  refine oj_iald (pc := 17) (NN := 159) a_58 rfl (by decide +kernel) H (fun H => ?_)
  refine oj_imul (pc := 18) (by decide +kernel) ?_
  refine oj_sipush (pc := 19) (v := 13849) ⟨by decide, by decide⟩ (by decide +kernel) ?_
  refine oj_iadd (pc := 22) (by decide +kernel) ?_
  refine oj_ldcw (pc := 23) (v := 65536) k_M_302 ⟨by decide, by decide⟩ (by decide +kernel) ?_
  refine oj_irem (pc := 26) (by decide +kernel) H (fun _ H => ?_)
  refine oj_iast (pc := 27) (NN := 159) a_58 rfl (by decide +kernel) H (fun H => ?_)
  have H := okp_lt H
  refine oj_ald0 (pc := 28) (by decide +kernel) ?_
  refine oj_getR' (pc := 29) f_M_7 s_57_0 (by decide +kernel) ?_
  refine oj_sipush (pc := 32) (v := 157) ⟨by decide, by decide⟩ (by decide +kernel) ?_
  refine oj_ald0 (pc := 35) (by decide +kernel) ?_
  refine oj_getR' (pc := 36) f_M_7 s_57_0 (by decide +kernel) ?_
  refine oj_sipush (pc := 39) (v := 158) ⟨by decide, by decide⟩ (by decide +kernel) ?_
  refine oj_iald (pc := 42) (NN := 159) a_58 rfl (by decide +kernel) H (fun H => ?_)
  refine oj_bipush (pc := 43) (v := 10) ⟨by decide, by decide⟩ (by decide +kernel) ?_
  refine oj_irem (pc := 45) (by decide +kernel) H (fun _ H => ?_)
  refine oj_ald0 (pc := 46) (by decide +kernel) ?_
  refine of_Vi (pc := 47) (as := []) v_M_303 o_57 rfl rfl (Nat.le_of_ble_eq_true rfl) (by decide +kernel) (by decide) rfl (c_M_rainBy_0 (okp_bind H)) (fun r M H => ?_)
  refine oj_icmp_ge (pc := 50) (off := 7) (tgt := 57) (by decide +kernel) (by decide) H (fun _ H => ?_) (fun _ H => ?_)
  · refine oj_iconst (pc := 57) (v := 0) ⟨by decide, by decide⟩ (by decide +kernel) ?_
    exact h58 _ _ _ H
  · refine oj_iconst (pc := 53) (v := 1) ⟨by decide, by decide⟩ (by decide +kernel) ?_
    refine oj_goto (pc := 54) (off := 4) (tgt := 58) (by decide +kernel) (by decide) ?_
    exact h58 _ _ _ H
theorem c_M_holdsAny_0 {l : Launch} {f : Nat} {l1 : Int} {M : oM} {K : Int × oM → Prop} (H : okp (p_M_holdsAny f l1 M) K) : oKf l m_M_holdsAny 4 [vr 57, vi l1] M K := by
  refine oK_intro (lv := [vr 57, vi l1, vu]) (by decide +kernel) (Nat.le_of_ble_eq_true rfl) rfl ?_
  have h2 : ∀ (g : Nat) (l1 l2 : Int) (M : oM), okp (iter (p_M_holdsAny_L2 f l1) g (l2, M)) K → oJ l m_M_holdsAny (oEf 4 K) 0 0 2 [vr 57, vi l1, vi l2] [] WD M := by
    intro g l1 l2 M H
    have HL := fun hs => iter_J' (Jh := fun s => oJ l m_M_holdsAny (oEf 4 K) 0 0 2 [vr 57, vi l1, vi s.1] [] WD s.2) (G := K) hs g (l2, M) H
    refine HL ?_
    intro K2 s i2 e2 H
    obtain ⟨l2, M⟩ := s
    show oJ l m_M_holdsAny (oEf 4 K) 0 0 2 [vr 57, vi l1, vi l2] [] WD M
    have h42 : ∀ (l2 : Int) (M : oM), okp (p_M_holdsAny_B42_2 f l1 l2 M) K2 → oJ l m_M_holdsAny (oEf 4 K) 0 0 42 [vr 57, vi l1, vi l2] [] WD M := by
      intro l2 M H
      refine oj_inc2 (pc := 42) (d := 1) (by decide +kernel) (by decide +kernel) ?_
      have H := okp_lt H
      refine oj_goto (pc := 45) (off := -43) (tgt := 2) (by decide +kernel) (by decide) ?_
      have H := i2 _ H
      exact H
    refine oj_ld2 (pc := 2) (by decide +kernel) ?_
    refine oj_ald0 (pc := 3) (by decide +kernel) ?_
    refine oj_getI' (pc := 4) (ki := 16) f_M_255 s_57_16 rfl (by decide +kernel) ?_
    refine oj_icmp_ge (pc := 7) (off := 41) (tgt := 48) (by decide +kernel) (by decide) H (fun _ H => ?_) (fun _ H => ?_)
    · refine oj_iconst (pc := 48) (v := 0) ⟨by decide, by decide⟩ (by decide +kernel) ?_
      have H := e2 _ H
      exact oj_iret (pc := 49) (by decide +kernel) rfl rfl (Nat.le_refl _) (Nat.le_refl _) ⟨rfl, H⟩
    · refine oj_ald0 (pc := 10) (by decide +kernel) ?_
      refine oj_getR' (pc := 11) f_M_50 s_57_24 (by decide +kernel) ?_
      refine oj_ld2 (pc := 14) (by decide +kernel) ?_
      refine oj_iald (pc := 15) (NN := 16) a_71 rfl (by decide +kernel) H (fun H => ?_)
      refine oj_ld1 (pc := 16) (by decide +kernel) ?_
      refine oj_icmp_ne (pc := 17) (off := 25) (tgt := 42) (by decide +kernel) (by decide) H (fun _ H => ?_) (fun _ H => ?_)
      · exact h42 _ _ H
      · refine oj_ald0 (pc := 20) (by decide +kernel) ?_
        refine oj_ald0 (pc := 21) (by decide +kernel) ?_
        refine oj_getR' (pc := 22) f_M_56 s_57_26 (by decide +kernel) ?_
        refine oj_ld2 (pc := 25) (by decide +kernel) ?_
        refine oj_iald (pc := 26) (NN := 16) a_73 rfl (by decide +kernel) H (fun H => ?_)
        refine oj_ald0 (pc := 27) (by decide +kernel) ?_
        refine oj_getR' (pc := 28) f_M_59 s_57_27 (by decide +kernel) ?_
        refine oj_ld2 (pc := 31) (by decide +kernel) ?_
        refine oj_iald (pc := 32) (NN := 16) a_74 rfl (by decide +kernel) H (fun H => ?_)
        refine of_Vi (pc := 33) (as := [_, _]) v_M_262 o_57 rfl rfl (Nat.le_of_ble_eq_true rfl) (by decide +kernel) (by decide) rfl (c_M_comesTo_0 (okp_bind H)) (fun r M H => ?_)
        refine oj_iconst (pc := 36) (v := 1) ⟨by decide, by decide⟩ (by decide +kernel) ?_
        refine oj_icmp_ne (pc := 37) (off := 5) (tgt := 42) (by decide +kernel) (by decide) H (fun _ H => ?_) (fun _ H => ?_)
        · exact h42 _ _ H
        · refine oj_iconst (pc := 40) (v := 1) ⟨by decide, by decide⟩ (by decide +kernel) ?_
          have H := e2 _ H
          exact oj_iret (pc := 41) (by decide +kernel) rfl rfl (Nat.le_refl _) (Nat.le_refl _) ⟨rfl, H⟩
  refine oj_iconst (pc := 0) (v := 0) ⟨by decide, by decide⟩ (by decide +kernel) ?_
  refine oj_st2 (pc := 1) (by decide +kernel) (by decide +kernel) ?_
  exact h2 _ _ _ _ H
theorem c_M_likesBy_0 {l : Launch} {f : Nat} {l1 l2 : Int} {M : oM} {K : Int × oM → Prop} (H : okp (p_M_likesBy f l1 l2 M) K) : oKf l m_M_likesBy 5 [vr 57, vi l1, vi l2] M K := by
  refine oK_intro (lv := [vr 57, vi l1, vi l2]) (by decide +kernel) (Nat.le_of_ble_eq_true rfl) rfl ?_
  refine oj_ald0 (pc := 0) (by decide +kernel) ?_
  refine oj_ld1 (pc := 1) (by decide +kernel) ?_
  refine oj_ld2 (pc := 2) (by decide +kernel) ?_
  refine of_Vv (pc := 3) (as := [_, _]) v_M_274 o_57 rfl rfl (Nat.le_of_ble_eq_true rfl) (by decide +kernel) (by decide) rfl (c_M_feelsTwo_0 (okp_bind H)) (fun M H => ?_)
  refine oj_ald0 (pc := 6) (by decide +kernel) ?_
  refine oj_bipush (pc := 7) (v := 115) ⟨by decide, by decide⟩ (by decide +kernel) ?_
  refine of_Vi (pc := 9) (as := [_]) v_M_277 o_57 rfl rfl (Nat.le_of_ble_eq_true rfl) (by decide +kernel) (by decide) rfl (c_M_holdsAny_0 (okp_bind H)) (fun r M H => ?_)
  refine oj_if_eq (pc := 12) (off := 7) (tgt := 19) (by decide +kernel) (by decide) H (fun _ H => ?_) (fun _ H => ?_)
  · refine oj_ald0 (pc := 19) (by decide +kernel) ?_
    refine oj_bipush (pc := 20) (v := 101) ⟨by decide, by decide⟩ (by decide +kernel) ?_
    refine oj_sipush (pc := 22) (v := 9999) ⟨by decide, by decide⟩ (by decide +kernel) ?_
    refine of_Vi (pc := 25) (as := [_, _]) v_M_280 o_57 rfl rfl (Nat.le_of_ble_eq_true rfl) (by decide +kernel) (by decide) rfl (c_M_byLaw_0 (okp_bind H)) (fun r M H => ?_)
    exact oj_iret (pc := 28) (by decide +kernel) rfl rfl (Nat.le_refl _) (Nat.le_refl _) ⟨rfl, H⟩
  · refine oj_iconst (pc := 15) (v := 0) ⟨by decide, by decide⟩ (by decide +kernel) ?_
    refine oj_goto (pc := 16) (off := 12) (tgt := 28) (by decide +kernel) (by decide) ?_
    exact oj_iret (pc := 28) (by decide +kernel) rfl rfl (Nat.le_refl _) (Nat.le_refl _) ⟨rfl, H⟩
theorem c_M_nextPaid_0 {l : Launch} {f : Nat} {l1 : Int} {M : oM} {K : Int × oM → Prop} (H : okp (p_M_nextPaid f l1 M) K) : oKf l m_M_nextPaid 6 [vr 57, vi l1] M K := by
  refine oK_intro (lv := [vr 57, vi l1, vu, vu, vu, vu]) (by decide +kernel) (Nat.le_of_ble_eq_true rfl) rfl ?_
  have h8 : ∀ (g : Nat) (l1 l2 l3 l4 : Int) (M : oM), okp (iter (p_M_nextPaid_L8 f l1) g (l2, l3, l4, M)) K → oJ l m_M_nextPaid (oEf 6 K) 0 0 8 [vr 57, vi l1, vi l2, vi l3, vi l4, vu] [] WD M := by
    intro g l1 l2 l3 l4 M H
    have HL := fun hs => iter_J' (Jh := fun s => oJ l m_M_nextPaid (oEf 6 K) 0 0 8 [vr 57, vi l1, vi s.1, vi s.2.1, vi s.2.2.1, vu] [] WD s.2.2.2) (G := K) hs g (l2, l3, l4, M) H
    refine HL ?_
    intro K8 s i8 e8 H
    obtain ⟨l2, l3, l4, M⟩ := s
    show oJ l m_M_nextPaid (oEf 6 K) 0 0 8 [vr 57, vi l1, vi l2, vi l3, vi l4, vu] [] WD M
    have h61 : ∀ (l2 l3 l4 : Int) (M : oM), okp (p_M_nextPaid_B61_8 f l1 l2 l3 l4 M) K8 → oJ l m_M_nextPaid (oEf 6 K) 0 0 61 [vr 57, vi l1, vi l2, vi l3, vi l4, vu] [] WD M := by
      intro l2 l3 l4 M H
      refine oj_inc4 (pc := 61) (d := 1) (by decide +kernel) (by decide +kernel) ?_
      have H := okp_lt H
      refine oj_goto (pc := 64) (off := -56) (tgt := 8) (by decide +kernel) (by decide) ?_
      have H := i8 _ H
      exact H
    refine oj_ld4 (pc := 8) (by decide +kernel) ?_
    refine oj_bipush (pc := 10) (v := 10) ⟨by decide, by decide⟩ (by decide +kernel) ?_
    refine oj_icmp_ge (pc := 12) (off := 55) (tgt := 67) (by decide +kernel) (by decide) H (fun _ H => ?_) (fun _ H => ?_)
    · refine oj_ld2 (pc := 67) (by decide +kernel) ?_
      have H := e8 _ H
      exact oj_iret (pc := 68) (by decide +kernel) rfl rfl (Nat.le_refl _) (Nat.le_refl _) ⟨rfl, H⟩
    · refine oj_ald0 (pc := 15) (by decide +kernel) ?_
      refine oj_ld4 (pc := 16) (by decide +kernel) ?_
      refine of_Vi (pc := 18) (as := [_]) v_M_135 o_57 rfl rfl (Nat.le_of_ble_eq_true rfl) (by decide +kernel) (by decide) rfl (c_M_isPerson_0 (okp_bind H)) (fun r M H => ?_)
      refine oj_if_eq (pc := 21) (off := 40) (tgt := 61) (by decide +kernel) (by decide) H (fun _ H => ?_) (fun _ H => ?_)
      · exact h61 _ _ _ _ H
      · refine oj_ald0 (pc := 24) (by decide +kernel) ?_
        refine oj_ld1 (pc := 25) (by decide +kernel) ?_
        refine oj_ld4 (pc := 26) (by decide +kernel) ?_
        refine of_Vi (pc := 28) (as := [_, _]) v_M_147 o_57 rfl rfl (Nat.le_of_ble_eq_true rfl) (by decide +kernel) (by decide) rfl (c_M_debtOf_0 (okp_bind H)) (fun r M H => ?_)
        refine oj_if_ne (pc := 31) (off := 6) (tgt := 37) (by decide +kernel) (by decide) H (fun _ H => ?_) (fun _ H => ?_)
        · refine oj_ald0 (pc := 37) (by decide +kernel) ?_
          refine oj_ld1 (pc := 38) (by decide +kernel) ?_
          refine oj_ld4 (pc := 39) (by decide +kernel) ?_
          refine of_Vi (pc := 41) (as := [_, _]) v_M_312 o_57 rfl rfl (Nat.le_of_ble_eq_true rfl) (by decide +kernel) (by decide) rfl (c_M_likesBy_0 (okp_bind H)) (fun r M H => ?_)
          refine oj_st5 (pc := 44) (by decide +kernel) (by decide +kernel) ?_
          refine oj_ld5 (pc := 46) (by decide +kernel) ?_
          refine oj_ld3 (pc := 48) (by decide +kernel) ?_
          refine oj_icmp_gt (pc := 49) (off := 6) (tgt := 55) (by decide +kernel) (by decide) H (fun _ H => ?_) (fun _ H => ?_)
          · refine oj_ld5 (pc := 55) (by decide +kernel) ?_
            refine oj_st3 (pc := 57) (by decide +kernel) (by decide +kernel) ?_
            refine oj_ld4 (pc := 58) (by decide +kernel) ?_
            refine oj_st2 (pc := 60) (by decide +kernel) (by decide +kernel) ?_
            refine oj_le (lv' := [_, _, _, _, _, vu]) ⟨Or.inr rfl, Or.inr rfl, Or.inr rfl, Or.inr rfl, Or.inr rfl, Or.inl rfl, trivial⟩ ?_
            exact h61 _ _ _ _ H
          · refine oj_goto (pc := 52) (off := 9) (tgt := 61) (by decide +kernel) (by decide) ?_
            refine oj_le (lv' := [_, _, _, _, _, vu]) ⟨Or.inr rfl, Or.inr rfl, Or.inr rfl, Or.inr rfl, Or.inr rfl, Or.inl rfl, trivial⟩ ?_
            exact h61 _ _ _ _ H
        · refine oj_goto (pc := 34) (off := 27) (tgt := 61) (by decide +kernel) (by decide) ?_
          exact h61 _ _ _ _ H
  refine oj_bipush (pc := 0) (v := -2) ⟨by decide, by decide⟩ (by decide +kernel) ?_
  refine oj_st2 (pc := 2) (by decide +kernel) (by decide +kernel) ?_
  refine oj_iconst (pc := 3) (v := 0) ⟨by decide, by decide⟩ (by decide +kernel) ?_
  refine oj_st3 (pc := 4) (by decide +kernel) (by decide +kernel) ?_
  refine oj_iconst (pc := 5) (v := 0) ⟨by decide, by decide⟩ (by decide +kernel) ?_
  refine oj_st4 (pc := 6) (by decide +kernel) (by decide +kernel) ?_
  exact h8 _ _ _ _ _ _ H
theorem c_M_setsOut_0 {l : Launch} {f : Nat} {l1 l2 : Int} {M : oM} {K : Int × oM → Prop} (H : okp (p_M_setsOut f l1 l2 M) K) : oKf l m_M_setsOut 4 [vr 57, vi l1, vi l2] M K := by
  refine oK_intro (lv := [vr 57, vi l1, vi l2]) (by decide +kernel) (Nat.le_of_ble_eq_true rfl) rfl ?_
  refine oj_ald0 (pc := 0) (by decide +kernel) ?_
  refine oj_getR' (pc := 1) f_M_7 s_57_0 (by decide +kernel) ?_
  refine oj_sipush (pc := 4) (v := 151) ⟨by decide, by decide⟩ (by decide +kernel) ?_
  refine oj_bipush (pc := 7) (v := -2) ⟨by decide, by decide⟩ (by decide +kernel) ?_
  refine oj_iast (pc := 9) (NN := 159) a_58 rfl (by decide +kernel) H (fun H => ?_)
  have H := okp_lt H
  refine oj_ald0 (pc := 10) (by decide +kernel) ?_
  refine oj_getR' (pc := 11) f_M_7 s_57_0 (by decide +kernel) ?_
  refine oj_sipush (pc := 14) (v := 152) ⟨by decide, by decide⟩ (by decide +kernel) ?_
  refine oj_ld1 (pc := 17) (by decide +kernel) ?_
  refine oj_iast (pc := 18) (NN := 159) a_58 rfl (by decide +kernel) H (fun H => ?_)
  have H := okp_lt H
  refine oj_ald0 (pc := 19) (by decide +kernel) ?_
  refine oj_getR' (pc := 20) f_M_7 s_57_0 (by decide +kernel) ?_
  refine oj_sipush (pc := 23) (v := 153) ⟨by decide, by decide⟩ (by decide +kernel) ?_
  refine oj_ld2 (pc := 26) (by decide +kernel) ?_
  refine oj_iast (pc := 27) (NN := 159) a_58 rfl (by decide +kernel) H (fun H => ?_)
  have H := okp_lt H
  refine oj_ald0 (pc := 28) (by decide +kernel) ?_
  refine oj_getR' (pc := 29) f_M_7 s_57_0 (by decide +kernel) ?_
  refine oj_sipush (pc := 32) (v := 154) ⟨by decide, by decide⟩ (by decide +kernel) ?_
  refine oj_ald0 (pc := 35) (by decide +kernel) ?_
  refine oj_ld1 (pc := 36) (by decide +kernel) ?_
  refine oj_ld2 (pc := 37) (by decide +kernel) ?_
  refine of_Vi (pc := 38) (as := [_, _]) v_M_268 o_57 rfl rfl (Nat.le_of_ble_eq_true rfl) (by decide +kernel) (by decide) rfl (c_M_wayOf_0 (okp_bind H)) (fun r M H => ?_)
  refine oj_iast (pc := 41) (NN := 159) a_58 rfl (by decide +kernel) H (fun H => ?_)
  have H := okp_lt H
  exact oj_vret (pc := 42) (by decide +kernel) rfl (Nat.le_refl _) (Nat.le_refl _) ⟨rfl, H⟩
theorem c_M_holds_0 {l : Launch} {f : Nat} {l1 : Int} {M : oM} {K : Int × oM → Prop} (H : okp (p_M_holds f l1 M) K) : oKf l m_M_holds 7 [vr 57, vi l1] M K := by
  refine oK_intro (lv := [vr 57, vi l1, vu]) (by decide +kernel) (Nat.le_of_ble_eq_true rfl) rfl ?_
  refine oj_ald0 (pc := 0) (by decide +kernel) ?_
  refine oj_getR' (pc := 1) f_M_7 s_57_0 (by decide +kernel) ?_
  refine oj_bipush (pc := 4) (v := 100) ⟨by decide, by decide⟩ (by decide +kernel) ?_
  refine oj_ld1 (pc := 6) (by decide +kernel) ?_
  refine oj_iadd (pc := 7) (by decide +kernel) ?_
  refine oj_ald0 (pc := 8) (by decide +kernel) ?_
  refine oj_getR' (pc := 9) f_M_7 s_57_0 (by decide +kernel) ?_
  refine oj_bipush (pc := 12) (v := 100) ⟨by decide, by decide⟩ (by decide +kernel) ?_
  refine oj_ld1 (pc := 14) (by decide +kernel) ?_
  refine oj_iadd (pc := 15) (by decide +kernel) ?_
  refine oj_iald (pc := 16) (NN := 159) a_58 rfl (by decide +kernel) H (fun H => ?_)
  refine oj_iconst (pc := 17) (v := 1) ⟨by decide, by decide⟩ (by decide +kernel) ?_
  refine oj_iadd (pc := 18) (by decide +kernel) ?_
  refine oj_iast (pc := 19) (NN := 159) a_58 rfl (by decide +kernel) H (fun H => ?_)
  have H := okp_lt H
  refine oj_ald0 (pc := 20) (by decide +kernel) ?_
  refine oj_getR' (pc := 21) f_M_7 s_57_0 (by decide +kernel) ?_
  refine oj_sipush (pc := 24) (v := 155) ⟨by decide, by decide⟩ (by decide +kernel) ?_
  refine oj_iald (pc := 27) (NN := 159) a_58 rfl (by decide +kernel) H (fun H => ?_)
  refine oj_bipush (pc := 28) (v := 6) ⟨by decide, by decide⟩ (by decide +kernel) ?_
  refine oj_bipush (pc := 30) (v := 19) ⟨by decide, by decide⟩ (by decide +kernel) ?_
  refine of_Si (pc := 32) (as := [_, _, _]) v_M_123 rfl rfl (Nat.le_of_ble_eq_true rfl) (by decide +kernel) (by decide) rfl (c_M_in_0 (okp_bind H)) (fun r M H => ?_)
  refine oj_if_eq (pc := 35) (off := 15) (tgt := 50) (by decide +kernel) (by decide) H (fun _ H => ?_) (fun _ H => ?_)
  · exact oj_vret (pc := 50) (by decide +kernel) rfl (Nat.le_refl _) (Nat.le_refl _) ⟨rfl, H⟩
  · refine oj_ald0 (pc := 38) (by decide +kernel) ?_
    refine oj_getR' (pc := 39) f_M_7 s_57_0 (by decide +kernel) ?_
    refine oj_sipush (pc := 42) (v := 157) ⟨by decide, by decide⟩ (by decide +kernel) ?_
    refine oj_iald (pc := 45) (NN := 159) a_58 rfl (by decide +kernel) H (fun H => ?_)
    refine oj_iconst (pc := 46) (v := 1) ⟨by decide, by decide⟩ (by decide +kernel) ?_
    refine oj_icmp_ne (pc := 47) (off := 4) (tgt := 51) (by decide +kernel) (by decide) H (fun _ H => ?_) (fun _ H => ?_)
    · refine oj_ald0 (pc := 51) (by decide +kernel) ?_
      refine oj_ld1 (pc := 52) (by decide +kernel) ?_
      refine of_Vi (pc := 53) (as := [_]) v_M_315 o_57 rfl rfl (Nat.le_of_ble_eq_true rfl) (by decide +kernel) (by decide) rfl (c_M_nextPaid_0 (okp_bind H)) (fun r M H => ?_)
      refine oj_st2 (pc := 56) (by decide +kernel) (by decide +kernel) ?_
      refine oj_ld2 (pc := 57) (by decide +kernel) ?_
      refine oj_if_lt (pc := 58) (off := 9) (tgt := 67) (by decide +kernel) (by decide) H (fun _ H => ?_) (fun _ H => ?_)
      · exact oj_vret (pc := 67) (by decide +kernel) rfl (Nat.le_refl _) (Nat.le_refl _) ⟨rfl, H⟩
      · refine oj_ald0 (pc := 61) (by decide +kernel) ?_
        refine oj_ld1 (pc := 62) (by decide +kernel) ?_
        refine oj_ld2 (pc := 63) (by decide +kernel) ?_
        refine of_Vv (pc := 64) (as := [_, _]) v_M_318 o_57 rfl rfl (Nat.le_of_ble_eq_true rfl) (by decide +kernel) (by decide) rfl (c_M_setsOut_0 (okp_bind H)) (fun M H => ?_)
        exact oj_vret (pc := 67) (by decide +kernel) rfl (Nat.le_refl _) (Nat.le_refl _) ⟨rfl, H⟩
    · exact oj_vret (pc := 50) (by decide +kernel) rfl (Nat.le_refl _) (Nat.le_refl _) ⟨rfl, H⟩
theorem c_M_chalks_0 {l : Launch} {f : Nat} {l1 : Int} {M : oM} {K : Int × oM → Prop} (H : okp (p_M_chalks f l1 M) K) : oKf l m_M_chalks 2 [vr 57, vi l1] M K := by
  refine oK_intro (lv := [vr 57, vi l1, vu]) (by decide +kernel) (Nat.le_of_ble_eq_true rfl) rfl ?_
  have h15 : ∀ (g : Nat) (l1 l2 : Int) (M : oM), okp (iter (p_M_chalks_L15 f l1) g (l2, M)) K → oJ l m_M_chalks (oEf 2 K) 0 0 15 [vr 57, vi l1, vi l2] [] WD M := by
    intro g l1 l2 M H
    have HL := fun hs => iter_J' (Jh := fun s => oJ l m_M_chalks (oEf 2 K) 0 0 15 [vr 57, vi l1, vi s.1] [] WD s.2) (G := K) hs g (l2, M) H
    refine HL ?_
    intro K15 s i15 e15 H
    obtain ⟨l2, M⟩ := s
    show oJ l m_M_chalks (oEf 2 K) 0 0 15 [vr 57, vi l1, vi l2] [] WD M
    refine oj_ld2 (pc := 15) (by decide +kernel) ?_
    refine oj_bipush (pc := 16) (v := 40) ⟨by decide, by decide⟩ (by decide +kernel) ?_
    refine oj_icmp_ge (pc := 18) (off := 29) (tgt := 47) (by decide +kernel) (by decide) H (fun _ H => ?_) (fun _ H => ?_)
    · refine oj_ald0 (pc := 47) (by decide +kernel) ?_
      refine oj_getR' (pc := 48) f_M_7 s_57_0 (by decide +kernel) ?_
      refine oj_sipush (pc := 51) (v := 150) ⟨by decide, by decide⟩ (by decide +kernel) ?_
      refine oj_bipush (pc := 54) (v := 39) ⟨by decide, by decide⟩ (by decide +kernel) ?_
      refine oj_iast (pc := 56) (NN := 159) a_58 rfl (by decide +kernel) H (fun H => ?_)
      have H := okp_lt H
      refine oj_ald0 (pc := 57) (by decide +kernel) ?_
      refine oj_getR' (pc := 58) f_M_7 s_57_0 (by decide +kernel) ?_
      refine oj_bipush (pc := 61) (v := 110) ⟨by decide, by decide⟩ (by decide +kernel) ?_
      refine oj_ald0 (pc := 63) (by decide +kernel) ?_
      refine oj_getR' (pc := 64) f_M_7 s_57_0 (by decide +kernel) ?_
      refine oj_sipush (pc := 67) (v := 150) ⟨by decide, by decide⟩ (by decide +kernel) ?_
      refine oj_iald (pc := 70) (NN := 159) a_58 rfl (by decide +kernel) H (fun H => ?_)
      refine oj_iadd (pc := 71) (by decide +kernel) ?_
      refine oj_ld1 (pc := 72) (by decide +kernel) ?_
      refine oj_iast (pc := 73) (NN := 159) a_58 rfl (by decide +kernel) H (fun H => ?_)
      have H := okp_lt H
      refine oj_ald0 (pc := 74) (by decide +kernel) ?_
      refine oj_getR' (pc := 75) f_M_7 s_57_0 (by decide +kernel) ?_
      refine oj_sipush (pc := 78) (v := 150) ⟨by decide, by decide⟩ (by decide +kernel) ?_
      refine oj_ald0 (pc := 81) (by decide +kernel) ?_
      refine oj_getR' (pc := 82) f_M_7 s_57_0 (by decide +kernel) ?_
      refine oj_sipush (pc := 85) (v := 150) ⟨by decide, by decide⟩ (by decide +kernel) ?_
      refine oj_iald (pc := 88) (NN := 159) a_58 rfl (by decide +kernel) H (fun H => ?_)
      refine oj_iconst (pc := 89) (v := 1) ⟨by decide, by decide⟩ (by decide +kernel) ?_
      refine oj_iadd (pc := 90) (by decide +kernel) ?_
      refine oj_iast (pc := 91) (NN := 159) a_58 rfl (by decide +kernel) H (fun H => ?_)
      have H := okp_lt H
      have H := e15 _ H
      exact oj_vret (pc := 92) (by decide +kernel) rfl (Nat.le_refl _) (Nat.le_refl _) ⟨rfl, H⟩
    · refine oj_ald0 (pc := 21) (by decide +kernel) ?_
      refine oj_getR' (pc := 22) f_M_7 s_57_0 (by decide +kernel) ?_
      refine oj_bipush (pc := 25) (v := 110) ⟨by decide, by decide⟩ (by decide +kernel) ?_
      refine oj_ld2 (pc := 27) (by decide +kernel) ?_
      refine oj_iadd (pc := 28) (by decide +kernel) ?_
      refine oj_iconst (pc := 29) (v := 1) ⟨by decide, by decide⟩ (by decide +kernel) ?_
      refine oj_isub (pc := 30) (by decide +kernel) ?_
      refine oj_ald0 (pc := 31) (by decide +kernel) ?_
      refine oj_getR' (pc := 32) f_M_7 s_57_0 (by decide +kernel) ?_
      refine oj_bipush (pc := 35) (v := 110) ⟨by decide, by decide⟩ (by decide +kernel) ?_
      refine oj_ld2 (pc := 37) (by decide +kernel) ?_
      refine oj_iadd (pc := 38) (by decide +kernel) ?_
      refine oj_iald (pc := 39) (NN := 159) a_58 rfl (by decide +kernel) H (fun H => ?_)
      refine oj_iast (pc := 40) (NN := 159) a_58 rfl (by decide +kernel) H (fun H => ?_)
      have H := okp_lt H
      refine oj_inc2 (pc := 41) (d := 1) (by decide +kernel) (by decide +kernel) ?_
      have H := okp_lt H
      refine oj_goto (pc := 44) (off := -29) (tgt := 15) (by decide +kernel) (by decide) ?_
      have H := i15 _ H
      exact H
  refine oj_ald0 (pc := 0) (by decide +kernel) ?_
  refine oj_getR' (pc := 1) f_M_7 s_57_0 (by decide +kernel) ?_
  refine oj_sipush (pc := 4) (v := 150) ⟨by decide, by decide⟩ (by decide +kernel) ?_
  refine oj_iald (pc := 7) (NN := 159) a_58 rfl (by decide +kernel) H (fun H => ?_)
  refine oj_bipush (pc := 8) (v := 40) ⟨by decide, by decide⟩ (by decide +kernel) ?_
  refine oj_icmp_ne (pc := 10) (off := 47) (tgt := 57) (by decide +kernel) (by decide) H (fun _ H => ?_) (fun _ H => ?_)
  · refine oj_ald0 (pc := 57) (by decide +kernel) ?_
    refine oj_getR' (pc := 58) f_M_7 s_57_0 (by decide +kernel) ?_
    refine oj_bipush (pc := 61) (v := 110) ⟨by decide, by decide⟩ (by decide +kernel) ?_
    refine oj_ald0 (pc := 63) (by decide +kernel) ?_
    refine oj_getR' (pc := 64) f_M_7 s_57_0 (by decide +kernel) ?_
    refine oj_sipush (pc := 67) (v := 150) ⟨by decide, by decide⟩ (by decide +kernel) ?_
    refine oj_iald (pc := 70) (NN := 159) a_58 rfl (by decide +kernel) H (fun H => ?_)
    refine oj_iadd (pc := 71) (by decide +kernel) ?_
    refine oj_ld1 (pc := 72) (by decide +kernel) ?_
    refine oj_iast (pc := 73) (NN := 159) a_58 rfl (by decide +kernel) H (fun H => ?_)
    have H := okp_lt H
    refine oj_ald0 (pc := 74) (by decide +kernel) ?_
    refine oj_getR' (pc := 75) f_M_7 s_57_0 (by decide +kernel) ?_
    refine oj_sipush (pc := 78) (v := 150) ⟨by decide, by decide⟩ (by decide +kernel) ?_
    refine oj_ald0 (pc := 81) (by decide +kernel) ?_
    refine oj_getR' (pc := 82) f_M_7 s_57_0 (by decide +kernel) ?_
    refine oj_sipush (pc := 85) (v := 150) ⟨by decide, by decide⟩ (by decide +kernel) ?_
    refine oj_iald (pc := 88) (NN := 159) a_58 rfl (by decide +kernel) H (fun H => ?_)
    refine oj_iconst (pc := 89) (v := 1) ⟨by decide, by decide⟩ (by decide +kernel) ?_
    refine oj_iadd (pc := 90) (by decide +kernel) ?_
    refine oj_iast (pc := 91) (NN := 159) a_58 rfl (by decide +kernel) H (fun H => ?_)
    have H := okp_lt H
    exact oj_vret (pc := 92) (by decide +kernel) rfl (Nat.le_refl _) (Nat.le_refl _) ⟨rfl, H⟩
  · refine oj_iconst (pc := 13) (v := 1) ⟨by decide, by decide⟩ (by decide +kernel) ?_
    refine oj_st2 (pc := 14) (by decide +kernel) (by decide +kernel) ?_
    exact h15 _ _ _ _ H
theorem c_M_pays_0 {l : Launch} {f : Nat} {l1 l2 : Int} {M : oM} {K : Int × oM → Prop} (H : okp (p_M_pays f l1 l2 M) K) : oKf l m_M_pays 3 [vr 57, vi l1, vi l2] M K := by
  refine oK_intro (lv := [vr 57, vi l1, vi l2]) (by decide +kernel) (Nat.le_of_ble_eq_true rfl) rfl ?_
  refine oj_ald0 (pc := 0) (by decide +kernel) ?_
  refine oj_getR' (pc := 1) f_M_7 s_57_0 (by decide +kernel) ?_
  refine oj_iconst (pc := 4) (v := 0) ⟨by decide, by decide⟩ (by decide +kernel) ?_
  refine oj_bipush (pc := 5) (v := 10) ⟨by decide, by decide⟩ (by decide +kernel) ?_
  refine oj_ld1 (pc := 7) (by decide +kernel) ?_
  refine oj_imul (pc := 8) (by decide +kernel) ?_
  refine oj_iadd (pc := 9) (by decide +kernel) ?_
  refine oj_ld2 (pc := 10) (by decide +kernel) ?_
  refine oj_iadd (pc := 11) (by decide +kernel) ?_
  refine oj_iconst (pc := 12) (v := 0) ⟨by decide, by decide⟩ (by decide +kernel) ?_
  refine oj_ald0 (pc := 13) (by decide +kernel) ?_
  refine oj_ld1 (pc := 14) (by decide +kernel) ?_
  refine oj_ld2 (pc := 15) (by decide +kernel) ?_
  refine of_Vi (pc := 16) (as := [_, _]) v_M_147 o_57 rfl rfl (Nat.le_of_ble_eq_true rfl) (by decide +kernel) (by decide) rfl (c_M_debtOf_0 (okp_bind H)) (fun r M H => ?_)
  refine oj_iconst (pc := 19) (v := 1) ⟨by decide, by decide⟩ (by decide +kernel) ?_
  refine oj_isub (pc := 20) (by decide +kernel) ?_
  refine of_Si (pc := 21) (as := [_, _]) v_M_143 rfl rfl (Nat.le_of_ble_eq_true rfl) (by decide +kernel) (by decide) rfl (c_M_max_0 (okp_bind H)) (fun r M H => ?_)
  refine oj_iast (pc := 24) (NN := 159) a_58 rfl (by decide +kernel) H (fun H => ?_)
  have H := okp_lt H
  refine oj_ald0 (pc := 25) (by decide +kernel) ?_
  refine oj_ld2 (pc := 26) (by decide +kernel) ?_
  refine of_Vv (pc := 27) (as := [_]) v_M_156 o_57 rfl rfl (Nat.le_of_ble_eq_true rfl) (by decide +kernel) (by decide) rfl (c_M_rests_0 (okp_bind H)) (fun M H => ?_)
  refine oj_ald0 (pc := 30) (by decide +kernel) ?_
  refine oj_ld2 (pc := 31) (by decide +kernel) ?_
  refine of_Vv (pc := 32) (as := [_]) v_M_299 o_57 rfl rfl (Nat.le_of_ble_eq_true rfl) (by decide +kernel) (by decide) rfl (c_M_chalks_0 (okp_bind H)) (fun M H => ?_)
  exact oj_vret (pc := 35) (by decide +kernel) rfl (Nat.le_refl _) (Nat.le_refl _) ⟨rfl, H⟩
theorem c_M_hourGoes_0 {l : Launch} {f : Nat} {M : oM} {K : Int × oM → Prop} (H : okp (p_M_hourGoes f M) K) : oKf l m_M_hourGoes 8 [vr 57] M K := by
  refine oK_intro (lv := [vr 57]) (by decide +kernel) (Nat.le_of_ble_eq_true rfl) rfl ?_
  have h125 : ∀ (M : oM), okp (p_M_hourGoes_B125 f M) K → oJ l m_M_hourGoes (oEf 8 K) 0 0 125 [vr 57] [] WD M := by
    intro  M H
    refine oj_ald0 (pc := 125) (by decide +kernel) ?_
    refine oj_getR' (pc := 126) f_M_7 s_57_0 (by decide +kernel) ?_
    refine oj_sipush (pc := 129) (v := 155) ⟨by decide, by decide⟩ (by decide +kernel) ?_
    refine oj_ald0 (pc := 132) (by decide +kernel) ?_
    refine oj_getR' (pc := 133) f_M_7 s_57_0 (by decide +kernel) ?_
    refine oj_sipush (pc := 136) (v := 155) ⟨by decide, by decide⟩ (by decide +kernel) ?_
    refine oj_iald (pc := 139) (NN := 159) a_58 rfl (by decide +kernel) H (fun H => ?_)
    refine oj_iconst (pc := 140) (v := 1) ⟨by decide, by decide⟩ (by decide +kernel) ?_
    refine oj_iadd (pc := 141) (by decide +kernel) ?_
    refine oj_iast (pc := 142) (NN := 159) a_58 rfl (by decide +kernel) H (fun H => ?_)
    have H := okp_lt H
    refine oj_ald0 (pc := 143) (by decide +kernel) ?_
    refine oj_getR' (pc := 144) f_M_7 s_57_0 (by decide +kernel) ?_
    refine oj_sipush (pc := 147) (v := 155) ⟨by decide, by decide⟩ (by decide +kernel) ?_
    refine oj_iald (pc := 150) (NN := 159) a_58 rfl (by decide +kernel) H (fun H => ?_)
    refine oj_bipush (pc := 151) (v := 24) ⟨by decide, by decide⟩ (by decide +kernel) ?_
    refine oj_icmp_ge (pc := 153) (off := 4) (tgt := 157) (by decide +kernel) (by decide) H (fun _ H => ?_) (fun _ H => ?_)
    · refine oj_ald0 (pc := 157) (by decide +kernel) ?_
      refine oj_getR' (pc := 158) f_M_7 s_57_0 (by decide +kernel) ?_
      refine oj_sipush (pc := 161) (v := 155) ⟨by decide, by decide⟩ (by decide +kernel) ?_
      refine oj_iconst (pc := 164) (v := 0) ⟨by decide, by decide⟩ (by decide +kernel) ?_
      refine oj_iast (pc := 165) (NN := 159) a_58 rfl (by decide +kernel) H (fun H => ?_)
      have H := okp_lt H
      refine oj_ald0 (pc := 166) (by decide +kernel) ?_
      refine oj_getR' (pc := 167) f_M_7 s_57_0 (by decide +kernel) ?_
      refine oj_sipush (pc := 170) (v := 156) ⟨by decide, by decide⟩ (by decide +kernel) ?_
      refine oj_ald0 (pc := 173) (by decide +kernel) ?_
      refine oj_getR' (pc := 174) f_M_7 s_57_0 (by decide +kernel) ?_
      refine oj_sipush (pc := 177) (v := 156) ⟨by decide, by decide⟩ (by decide +kernel) ?_
      refine oj_iald (pc := 180) (NN := 159) a_58 rfl (by decide +kernel) H (fun H => ?_)
      refine oj_iconst (pc := 181) (v := 1) ⟨by decide, by decide⟩ (by decide +kernel) ?_
      refine oj_iadd (pc := 182) (by decide +kernel) ?_
      refine oj_iast (pc := 183) (NN := 159) a_58 rfl (by decide +kernel) H (fun H => ?_)
      have H := okp_lt H
      exact oj_vret (pc := 184) (by decide +kernel) rfl (Nat.le_refl _) (Nat.le_refl _) ⟨rfl, H⟩
    · exact oj_vret (pc := 156) (by decide +kernel) rfl (Nat.le_refl _) (Nat.le_refl _) ⟨rfl, H⟩
  have h21 : ∀ (M : oM), okp (p_M_hourGoes_B21 f M) K → oJ l m_M_hourGoes (oEf 8 K) 0 0 21 [vr 57] [] WD M := by
    intro  M H
    refine oj_ald0 (pc := 21) (by decide +kernel) ?_
    refine oj_getR' (pc := 22) f_M_7 s_57_0 (by decide +kernel) ?_
    refine oj_sipush (pc := 25) (v := 154) ⟨by decide, by decide⟩ (by decide +kernel) ?_
    refine oj_iald (pc := 28) (NN := 159) a_58 rfl (by decide +kernel) H (fun H => ?_)
    refine oj_if_le (pc := 29) (off := 73) (tgt := 102) (by decide +kernel) (by decide) H (fun _ H => ?_) (fun _ H => ?_)
    · refine oj_ald0 (pc := 102) (by decide +kernel) ?_
      refine oj_getR' (pc := 103) f_M_7 s_57_0 (by decide +kernel) ?_
      refine oj_sipush (pc := 106) (v := 151) ⟨by decide, by decide⟩ (by decide +kernel) ?_
      refine oj_iald (pc := 109) (NN := 159) a_58 rfl (by decide +kernel) H (fun H => ?_)
      refine oj_if_lt (pc := 110) (off := 15) (tgt := 125) (by decide +kernel) (by decide) H (fun _ H => ?_) (fun _ H => ?_)
      · exact h125  _ H
      · refine oj_ald0 (pc := 113) (by decide +kernel) ?_
        refine oj_ald0 (pc := 114) (by decide +kernel) ?_
        refine oj_getR' (pc := 115) f_M_7 s_57_0 (by decide +kernel) ?_
        refine oj_sipush (pc := 118) (v := 151) ⟨by decide, by decide⟩ (by decide +kernel) ?_
        refine oj_iald (pc := 121) (NN := 159) a_58 rfl (by decide +kernel) H (fun H => ?_)
        refine of_Vv (pc := 122) (as := [_]) v_M_333 o_57 rfl rfl (Nat.le_of_ble_eq_true rfl) (by decide +kernel) (by decide) rfl (c_M_holds_0 (okp_bind H)) (fun M H => ?_)
        exact h125  _ H
    · refine oj_ald0 (pc := 32) (by decide +kernel) ?_
      refine oj_getR' (pc := 33) f_M_7 s_57_0 (by decide +kernel) ?_
      refine oj_sipush (pc := 36) (v := 154) ⟨by decide, by decide⟩ (by decide +kernel) ?_
      refine oj_ald0 (pc := 39) (by decide +kernel) ?_
      refine oj_getR' (pc := 40) f_M_7 s_57_0 (by decide +kernel) ?_
      refine oj_sipush (pc := 43) (v := 154) ⟨by decide, by decide⟩ (by decide +kernel) ?_
      refine oj_iald (pc := 46) (NN := 159) a_58 rfl (by decide +kernel) H (fun H => ?_)
      refine oj_iconst (pc := 47) (v := 1) ⟨by decide, by decide⟩ (by decide +kernel) ?_
      refine oj_isub (pc := 48) (by decide +kernel) ?_
      refine oj_iast (pc := 49) (NN := 159) a_58 rfl (by decide +kernel) H (fun H => ?_)
      have H := okp_lt H
      refine oj_ald0 (pc := 50) (by decide +kernel) ?_
      refine oj_getR' (pc := 51) f_M_7 s_57_0 (by decide +kernel) ?_
      refine oj_sipush (pc := 54) (v := 154) ⟨by decide, by decide⟩ (by decide +kernel) ?_
      refine oj_iald (pc := 57) (NN := 159) a_58 rfl (by decide +kernel) H (fun H => ?_)
      refine oj_if_ne (pc := 58) (off := 67) (tgt := 125) (by decide +kernel) (by decide) H (fun _ H => ?_) (fun _ H => ?_)
      · exact h125  _ H
      · refine oj_ald0 (pc := 61) (by decide +kernel) ?_
        refine oj_ald0 (pc := 62) (by decide +kernel) ?_
        refine oj_getR' (pc := 63) f_M_7 s_57_0 (by decide +kernel) ?_
        refine oj_sipush (pc := 66) (v := 153) ⟨by decide, by decide⟩ (by decide +kernel) ?_
        refine oj_iald (pc := 69) (NN := 159) a_58 rfl (by decide +kernel) H (fun H => ?_)
        refine oj_putI' (pc := 70) (ki := 35) f_M_321 s_57_35 rfl (by decide +kernel) ?_
        have H := okp_lt H
        refine oj_ald0 (pc := 73) (by decide +kernel) ?_
        refine oj_ald0 (pc := 74) (by decide +kernel) ?_
        refine oj_getR' (pc := 75) f_M_7 s_57_0 (by decide +kernel) ?_
        refine oj_sipush (pc := 78) (v := 152) ⟨by decide, by decide⟩ (by decide +kernel) ?_
        refine oj_iald (pc := 81) (NN := 159) a_58 rfl (by decide +kernel) H (fun H => ?_)
        refine oj_ald0 (pc := 82) (by decide +kernel) ?_
        refine oj_getI' (pc := 83) (ki := 35) f_M_321 s_57_35 rfl (by decide +kernel) ?_
        refine of_Vv (pc := 86) (as := [_, _]) v_M_327 o_57 rfl rfl (Nat.le_of_ble_eq_true rfl) (by decide +kernel) (by decide) rfl (c_M_pays_0 (okp_bind H)) (fun M H => ?_)
        refine oj_ald0 (pc := 89) (by decide +kernel) ?_
        refine oj_ald0 (pc := 90) (by decide +kernel) ?_
        refine oj_getI' (pc := 91) (ki := 32) f_M_330 s_57_32 rfl (by decide +kernel) ?_
        refine oj_iconst (pc := 94) (v := 1) ⟨by decide, by decide⟩ (by decide +kernel) ?_
        refine oj_iadd (pc := 95) (by decide +kernel) ?_
        refine oj_putI' (pc := 96) (ki := 32) f_M_330 s_57_32 rfl (by decide +kernel) ?_
        have H := okp_lt H
        refine oj_goto (pc := 99) (off := 26) (tgt := 125) (by decide +kernel) (by decide) ?_
        exact h125  _ H
  refine oj_ald0 (pc := 0) (by decide +kernel) ?_
  refine oj_bipush (pc := 1) (v := -2) ⟨by decide, by decide⟩ (by decide +kernel) ?_
  refine oj_putI' (pc := 3) (ki := 35) f_M_321 s_57_35 rfl (by decide +kernel) ?_
  have H := okp_lt H
  refine oj_ald0 (pc := 6) (by decide +kernel) ?_
  refine oj_getR' (pc := 7) f_M_7 s_57_0 (by decide +kernel) ?_
  refine oj_sipush (pc := 10) (v := 155) ⟨by decide, by decide⟩ (by decide +kernel) ?_
  refine oj_iald (pc := 13) (NN := 159) a_58 rfl (by decide +kernel) H (fun H => ?_)
  refine oj_if_ne (pc := 14) (off := 7) (tgt := 21) (by decide +kernel) (by decide) H (fun _ H => ?_) (fun _ H => ?_)
  · exact h21  _ H
  · refine oj_ald0 (pc := 17) (by decide +kernel) ?_
    refine of_Vv (pc := 18) (as := []) v_M_324 o_57 rfl rfl (Nat.le_of_ble_eq_true rfl) (by decide +kernel) (by decide) rfl (c_M_dayBegins_0 (okp_bind H)) (fun M H => ?_)
    exact h21  _ H
