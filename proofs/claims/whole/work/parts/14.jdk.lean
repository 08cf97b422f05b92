/-! the JDK's members: Math, the text constant -/
section JDK
variable {l : Launch} {mt : oMI} {E : oE} {k n pc : Nat} {lv st st0 : List oV} {wd : oW} {M : oM} {d : Nat} {K : Int × oM → Prop}
theorem oj_mmax {idx : Nat} {a b : Int} (hlk : Cond.methodLink mt.1.cls idx Lib.Math.max.name ∈ oT) (hm : Cond.static Lib.Math.max.name ∈ oT ∧ Cond.initialized "java/lang/Math" ∈ oT ∧ Cond.code Lib.Math.max.name Lib.Math.max.code 2 (some .int) ∈ oT) (hsl : st.length ≤ 8) (hdep : 1 ≤ E.1) (hk : k ≤ E.2.1) (hn' : n ≤ E.2.2.1) (hd : decode mt.2.1 pc = .ok (.invokestatic idx, 3)) (h : oJ l mt E k n (pc + 3) lv (vi (imax a b) :: st) wd M) : oJ l mt E k n pc lv (vi b :: vi a :: st) wd M := by
  intro p e R s m args below meth c A D cI cB Z n0 ad0 ad H locs ls C hH hl hR hg hn
  have hts := C.2.2.2.2.1
  have ha := hR.2.1.2.1
  have hb := hR.2.1.1
  have hRm := C.2.2.2.2.2.1
  refine va_mmax (rest := st.map (rlv ad)) C.1 C.2.1 (by rw [C.2.2.1, hl.1]) C.2.2.2.1 (hts _ hlk) (hts _ hm.1) (hts _ hm.2.1) (hts _ hm.2.2) (by omega) (by rw [oSt_sum]; omega) (by omega) (by omega) hd ?_
  have e1 : (if Int32.ofInt a < Int32.ofInt b then Int32.ofInt b else Int32.ofInt a) = Int32.ofInt (imax a b) := by
    unfold imax
    by_cases q : a < b
    · rw [if_pos q, if_pos ((oc_lt ha hb).mpr q)]
    · rw [if_neg q, if_neg (fun z => q ((oc_lt ha hb).mp z))]
  have hok : inR (imax a b) := by unfold imax; split; exact hb; exact ha
  rw [e1]
  exact h p e R s m args below meth c A D cI cB Z n0 ad0 ad H locs ls C hH hl ⟨hR.1, ⟨hok, hR.2.1.2.2⟩, hR.2.2⟩ hg hn
theorem oj_mmin {idx : Nat} {a b : Int} (hlk : Cond.methodLink mt.1.cls idx Lib.Math.min.name ∈ oT) (hm : Cond.static Lib.Math.min.name ∈ oT ∧ Cond.initialized "java/lang/Math" ∈ oT ∧ Cond.code Lib.Math.min.name Lib.Math.min.code 2 (some .int) ∈ oT) (hsl : st.length ≤ 8) (hdep : 1 ≤ E.1) (hk : k ≤ E.2.1) (hn' : n ≤ E.2.2.1) (hd : decode mt.2.1 pc = .ok (.invokestatic idx, 3)) (h : oJ l mt E k n (pc + 3) lv (vi (imin a b) :: st) wd M) : oJ l mt E k n pc lv (vi b :: vi a :: st) wd M := by
  intro p e R s m args below meth c A D cI cB Z n0 ad0 ad H locs ls C hH hl hR hg hn
  have hts := C.2.2.2.2.1
  have ha := hR.2.1.2.1
  have hb := hR.2.1.1
  have hRm := C.2.2.2.2.2.1
  refine va_mmin (rest := st.map (rlv ad)) C.1 C.2.1 (by rw [C.2.2.1, hl.1]) C.2.2.2.1 (hts _ hlk) (hts _ hm.1) (hts _ hm.2.1) (hts _ hm.2.2) (by omega) (by rw [oSt_sum]; omega) (by omega) (by omega) hd ?_
  have e1 : (if Int32.ofInt b < Int32.ofInt a then Int32.ofInt b else Int32.ofInt a) = Int32.ofInt (imin a b) := by
    unfold imin
    by_cases q : b < a
    · rw [if_pos q, if_pos ((oc_lt hb ha).mpr q)]
    · rw [if_neg q, if_neg (fun z => q ((oc_lt hb ha).mp z))]
  have hok : inR (imin a b) := by unfold imin; split; exact hb; exact ha
  rw [e1]
  exact h p e R s m args below meth c A D cI cB Z n0 ad0 ad H locs ls C hH hl ⟨hR.1, ⟨hok, hR.2.1.2.2⟩, hR.2.2⟩ hg hn
theorem oj_mabs {idx : Nat} {a : Int} (hlk : Cond.methodLink mt.1.cls idx Lib.Math.abs.name ∈ oT) (hm : Cond.static Lib.Math.abs.name ∈ oT ∧ Cond.initialized "java/lang/Math" ∈ oT ∧ Cond.code Lib.Math.abs.name Lib.Math.abs.code 1 (some .int) ∈ oT) (hsl : st.length ≤ 8) (hdep : 1 ≤ E.1) (hk : k ≤ E.2.1) (hn' : n ≤ E.2.2.1) (hd : decode mt.2.1 pc = .ok (.invokestatic idx, 3)) (h : oJ l mt E k n (pc + 3) lv (vi (iabs a) :: st) wd M) : oJ l mt E k n pc lv (vi a :: st) wd M := by
  intro p e R s m args below meth c A D cI cB Z n0 ad0 ad H locs ls C hH hl hR hg hn
  have hts := C.2.2.2.2.1
  have ha := hR.2.1.1
  have hRm := C.2.2.2.2.2.1
  refine va_mabs (rest := st.map (rlv ad)) C.1 C.2.1 (by rw [C.2.2.1, hl.1]) C.2.2.2.1 (hts _ hlk) (hts _ hm.1) (hts _ hm.2.1) (hts _ hm.2.2) (by omega) (by rw [oSt_sum]; omega) (by omega) (by omega) hd ?_
  have e1 : (if 0 ≤ Int32.ofInt a then Int32.ofInt a else 0 - Int32.ofInt a) = Int32.ofInt (iabs a) := by
    unfold iabs
    rw [oc_zero]
    by_cases q : 0 ≤ a
    · rw [if_pos q, if_pos ((oc_le inR_0 ha).mpr q)]
    · rw [if_neg q, if_neg (fun z => q ((oc_le inR_0 ha).mp z)), oc_sub]
  have hok : inR (iabs a) := by unfold iabs; split; exact ha; exact inR_w32 _
  rw [e1]
  exact h p e R s m args below meth c A D cI cB Z n0 ad0 ad H locs ls C hH hl ⟨hR.1, ⟨hok, hR.2.1.2⟩, hR.2.2⟩ hg hn
theorem of_VOi {y : oMI} {d' np idx : Nat} {as : List oV} {K' : Int × oM → Prop} {ty : FieldType} (hv : oClO mt.1.cls idx y np) (hst : st0 = as.reverse ++ vr 1000 :: st) (has : as.length = np) (hsl : st.length ≤ 8) (hd : decode mt.2.1 pc = .ok (.invokevirtual idx, 3)) (hdep : d' + 1 ≤ d) (hty : y.2.2.2 = some ty) (hK : oKf l y d' (vr 1000 :: as) M K') (h : ∀ r M', K' (r, M') → oJ l mt (oEf d K) 0 0 (pc + 3) lv (vi r :: st) WD M') : oJ l mt (oEf d K) 0 0 pc lv st0 WD M := by
  obtain ⟨hlk, hin, hse, hc, hcls⟩ := hv
  subst hst
  have hos : ∀ len, oks len (as.reverse ++ vr 1000 :: st) → oks len st := fun len h => (oks_app2 h).2
  have hoa : ∀ len, oks len (as.reverse ++ vr 1000 :: st) → oks len (vr 1000 :: as) := fun len h => ⟨(oks_app2 h).1, oks_rev (oks_app1 h)⟩
  refine oj_runi (mc' := 0) (ms' := 0) (Qc := oQ K') hos (fun p e R s m args below meth c A D cI cB Z n0 ad0 ad H locs ls C hH hl hR hg => ⟨(Value.ref (ad 1000) :: as.map (rlv ad)).toArray, ?_⟩) (fun r wd' M' q => by obtain ⟨rfl, q⟩ := q; exact h r M' q)
  have hM := (hK D cI cB ad H.size ⟨trivial, hoa _ hR.2.1, hR.2.2⟩).2 ty hty
  have hts := C.2.2.2.2.1
  have hO := oOut_ag hg C.2.2.2.2.2.2.2.2.1
  have hpv : PreV s H y.1.cls (ad 1000) (va_Pc ((vr 1000 :: as).map (rlv ad)) (oPre D cI cB WD M ad H.size)) (as.map (rlv ad)) :=
    ⟨oPre_blind, by have h9 := vk_recv hO.1 (i := 0) (by decide) hH.2.2; rw [hcls]; exact h9, fun U hU hW => ⟨rfl, oPre_of hU hW hH C.2.2.2.2.2.2.1 C.2.2.2.2.2.2.2.1 hO⟩⟩
  have hsk : (F0 m pc ls ((as.reverse ++ vr 1000 :: st).map (rlv ad))).stack = (as.map (rlv ad)).reverse ++ .ref (ad 1000) :: st.map (rlv ad) := by
    show (as.reverse ++ vr 1000 :: st).map (rlv ad) = _
    rw [List.map_append, List.map_reverse]; rfl
  have hW8 : 2 * (F0 m pc ls ((as.reverse ++ vr 1000 :: st).map (rlv ad))).monitorRoom + ((st.map (rlv ad)).map fun v => v.category).sum ≤ 8 := by
    rw [oSt_sum]; show 2 * 0 + _ ≤ 8; omega
  have hRm := C.2.2.2.2.2.1
  rcases hlk with hlk | ⟨host, hlk⟩
  · exact va_runV (As := as.map (rlv ad)) ⟨C.1, C.2.1, C.2.2.1, C.2.2.2.1, hts⟩ hM ⟨callB_of np hts (oWs_good hc) rfl rfl rfl (hts _ hc.2.1) (hts _ hlk) hc.2.2.1 (oRm_fits ⟨hRm.1, hRm.2.1⟩ hdep hc.2.2.2), hts _ hin, hts _ hse⟩ hpv rfl (by rw [List.length_map, has]) hl.1 hsk hW8 hd ⟨Nat.zero_le _, Nat.zero_le _⟩
  · exact va_runVN (As := as.map (rlv ad)) ⟨C.1, C.2.1, C.2.2.1, C.2.2.2.1, hts⟩ hM ⟨va_cnB np hts (oWs_good hc) rfl rfl rfl (C.2.2.2.2.2.2.2.2.1.2.2.2 _ hlk) (hts _ hc.2.1) hc.2.2.1 (oRm_fits ⟨hRm.1, hRm.2.1⟩ hdep hc.2.2.2), hts _ hin, hts _ hse⟩ hpv rfl (by rw [List.length_map, has]) hl.1 hsk hW8 hd ⟨Nat.zero_le _, Nat.zero_le _⟩
theorem oj_ldcS (hmt : mt.1.cls = "OneCoin$LawReader") (hd : decode mt.2.1 pc = .ok (.ldc 90, 2)) (h : oJ l mt E k n (pc + 2) lv (vr 1000 :: st) wd M) : oJ l mt E k n pc lv st wd M := by
  intro p e R s m args below meth c A D cI cB Z n0 ad0 ad H locs ls C hH hl hR hg hn
  have hO := oOut_ag hg C.2.2.2.2.2.2.2.2.1
  exact va_ldcS C.1 C.2.1 (by have := C.2.2.2.1; rw [hmt] at this; exact this) hO.2.1 hd (h p e R s m args below meth c A D cI cB Z n0 ad0 ad H locs ls C hH hl ⟨hR.1, ⟨Or.inr (Nat.le_refl _), hR.2.1⟩, hR.2.2⟩ hg hn)
theorem oj_getOi {idx : Nat} (hlk : Cond.fieldLink mt.1.cls idx "java/lang/String" "coder" "B" ∈ oT) (hd : decode mt.2.1 pc = .ok (.getfield idx, 3)) (h : oJ l mt E k n (pc + 3) lv (vi 0 :: st) wd M) : oJ l mt E k n pc lv (vr 1000 :: st) wd M := by
  intro p e R s m args below meth c A D cI cB Z n0 ad0 ad H locs ls C hH hl hR hg hn
  have hO := oOut_ag hg C.2.2.2.2.2.2.2.2.1
  exact vk_getf C.1 C.2.1 (hO.1.1 0 (by decide)).2.1 hH.2.2 C.2.2.2.1 (C.2.2.2.2.1 _ hlk) (fun _ hx => hx) hd (h p e R s m args below meth c A D cI cB Z n0 ad0 ad H locs ls C hH hl ⟨hR.1, ⟨inR_0, hR.2.1.2⟩, hR.2.2⟩ hg hn)
theorem oj_getOr {idx : Nat} (hlk : Cond.fieldLink mt.1.cls idx "java/lang/String" "value" "[B" ∈ oT) (hd : decode mt.2.1 pc = .ok (.getfield idx, 3)) (h : oJ l mt E k n (pc + 3) lv (vr 1001 :: st) wd M) : oJ l mt E k n pc lv (vr 1000 :: st) wd M := by
  intro p e R s m args below meth c A D cI cB Z n0 ad0 ad H locs ls C hH hl hR hg hn
  have hO := oOut_ag hg C.2.2.2.2.2.2.2.2.1
  exact vk_getf C.1 C.2.1 (hO.1.1 0 (by decide)).2.2.1 hH.2.2 C.2.2.2.1 (C.2.2.2.2.1 _ hlk) (fun _ hx => hx) hd (h p e R s m args below meth c A D cI cB Z n0 ad0 ad H locs ls C hH hl ⟨hR.1, ⟨Or.inr (by decide), hR.2.1.2⟩, hR.2.2⟩ hg hn)
theorem oj_getS {idx : Nat} (hlk : Cond.fieldLink mt.1.cls idx "java/lang/String" "COMPACT_STRINGS" "Z" ∈ oT) (hd : decode mt.2.1 pc = .ok (.getstatic idx, 3)) (h : oJ l mt E k n (pc + 3) lv (vi 1 :: st) wd M) : oJ l mt E k n pc lv st wd M := by
  intro p e R s m args below meth c A D cI cB Z n0 ad0 ad H locs ls C hH hl hR hg hn
  have hO := oOut_ag hg C.2.2.2.2.2.2.2.2.1
  exact va_gets C.1 C.2.1 hO.2.2.1 hH.2.2 C.2.2.2.1 (C.2.2.2.2.1 _ hlk) (fun _ hx => hx) hd (h p e R s m args below meth c A D cI cB Z n0 ad0 ad H locs ls C hH hl ⟨hR.1, ⟨⟨by decide, by decide⟩, hR.2.1⟩, hR.2.2⟩ hg hn)
theorem oj_baldO {a : Int} (h0 : 0 ≤ a) (h1 : a < 8) (hd : decode mt.2.1 pc = .ok (.baload, 1)) (h : oJ l mt E k n (pc + 1) lv (vi (tx8 a) :: st) wd M) : oJ l mt E k n pc lv (vi a :: vr 1001 :: st) wd M := by
  intro p e R s m args below meth c A D cI cB Z n0 ad0 ad H locs ls C hH hl hR hg hn
  have hO := oOut_ag hg C.2.2.2.2.2.2.2.2.1
  have ha := hR.2.1.1
  have hT := (hO.1.1 0 (by decide)).2.2.2
  refine va_tb C.1 C.2.1 hT hH.2.2 (oc_in h0 h1 ha) (v := .int (Int32.ofInt (tx8 a))) ?_ hd (h p e R s m args below meth c A D cI cB Z n0 ad0 ad H locs ls C hH hl ⟨hR.1, ⟨?_, hR.2.1.2.2⟩, hR.2.2⟩ hg hn)
  · rw [oc_clamp h0 ha]
    rcases (show a = 0 ∨ a = 1 ∨ a = 2 ∨ a = 3 ∨ a = 4 ∨ a = 5 ∨ a = 6 ∨ a = 7 by omega) with rfl | rfl | rfl | rfl | rfl | rfl | rfl | rfl <;> rfl
  · rcases (show a = 0 ∨ a = 1 ∨ a = 2 ∨ a = 3 ∨ a = 4 ∨ a = 5 ∨ a = 6 ∨ a = 7 by omega) with rfl | rfl | rfl | rfl | rfl | rfl | rfl | rfl <;> exact ⟨by decide, by decide⟩
theorem oj_baldO' {α : Type} {K' : α → Prop} {f : Int → Option α} {a : Int} (hd : decode mt.2.1 pc = .ok (.baload, 1)) (hK : okp (bnd 8 a f) K') (h : okp (f a) K' → oJ l mt E k n (pc + 1) lv (vi (tx8 a) :: st) wd M) : oJ l mt E k n pc lv (vi a :: vr 1001 :: st) wd M := by
  obtain ⟨h0, h1, hK⟩ := okp_bnd hK
  exact oj_baldO h0 h1 hd (h hK)
theorem oj_alenO (hd : decode mt.2.1 pc = .ok (.arraylength, 1)) (h : oJ l mt E k n (pc + 1) lv (vi 8 :: st) wd M) : oJ l mt E k n pc lv (vr 1001 :: st) wd M := by
  intro p e R s m args below meth c A D cI cB Z n0 ad0 ad H locs ls C hH hl hR hg hn
  have hO := oOut_ag hg C.2.2.2.2.2.2.2.2.1
  have hT := (hO.1.1 0 (by decide)).2.2.2
  exact va_tlen C.1 C.2.1 hT hH.2.2 (v := Int32.ofInt 8) rfl hd (h p e R s m args below meth c A D cI cB Z n0 ad0 ad H locs ls C hH hl ⟨hR.1, ⟨⟨by decide, by decide⟩, hR.2.1.2⟩, hR.2.2⟩ hg hn)
end JDK
