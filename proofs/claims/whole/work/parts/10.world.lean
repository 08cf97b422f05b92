/-! the world: all objects, in the order in which they are made (0 to 56 the class, 57 on the reference) -/
def WD : oW := [
  .inr (10, [some (some 1), some (some 3), some (some 6), some (some 10), some (some 14), some (some 18), some (some 27), some (some 36), some (some 37), some (some 39), some (some 41), some (some 42), some (some 49), none]),
  .inr (9, [some (some 2), none, none, none, none]),
  .inl (false, 260),
  .inr (6, [some (some 4), some (some 5), none]),
  .inl (false, 10),
  .inl (false, 10),
  .inr (3, [some (some 7), some (some 8), some (some 9), none, none, none, none, none, none, none, none, none]),
  .inl (false, 100),
  .inl (false, 10),
  .inl (false, 40),
  .inr (3, [some (some 11), some (some 12), some (some 13), none, none, none, none, none, none, none, none, none]),
  .inl (false, 100),
  .inl (false, 10),
  .inl (false, 40),
  .inr (3, [some (some 15), some (some 16), some (some 17), none, none, none, none, none, none, none, none, none]),
  .inl (false, 100),
  .inl (false, 10),
  .inl (false, 40),
  .inr (4, [some (some 3), some (some 19), some (some 20), some (some 21), some (some 22), some (some 23), some (some 24), some (some 25), some (some 26), none, none]),
  .inl (false, 240),
  .inl (false, 240),
  .inl (false, 16),
  .inl (false, 16),
  .inl (false, 16),
  .inl (false, 16),
  .inl (false, 8),
  .inl (false, 64),
  .inr (4, [some (some 3), some (some 28), some (some 29), some (some 30), some (some 31), some (some 32), some (some 33), some (some 34), some (some 35), none, none]),
  .inl (false, 240),
  .inl (false, 240),
  .inl (false, 16),
  .inl (false, 16),
  .inl (false, 16),
  .inl (false, 16),
  .inl (false, 8),
  .inl (false, 64),
  .inr (5, [some (some 1), some (some 27)]),
  .inr (2, [some (some 1), some (some 3), some (some 38)]),
  .inl (false, 100),
  .inr (7, [some (some 1), some (some 40), none]),
  .inl (false, 60),
  .inr (1, [some (some 3), some (some 18), none, none, none, none]),
  .inr (8, [some (some 3), some (some 43), some (some 44), some (some 45), some (some 46), some (some 47), some (some 48), none]),
  .inl (false, 100),
  .inl (false, 100),
  .inl (false, 8),
  .inl (false, 10),
  .inl (false, 60),
  .inl (false, 12),
  .inr (0, [some (some 3), some (some 50), some (some 51), some (some 52), some (some 53), some (some 54), some (some 55), some (some 56), none]),
  .inl (false, 10),
  .inl (false, 10),
  .inl (false, 6),
  .inl (false, 6),
  .inl (false, 6),
  .inl (false, 12),
  .inl (false, 1024),
  .inr (11, [some (some 58), some (some 59), some (some 60), some (some 61), some (some 62), none, some (some 63), none, none, none, none, none, none, none, none, none, none, some (some 64), some (some 65), some (some 66), some (some 67), some (some 68), some (some 69), some (some 70), some (some 71), some (some 72), some (some 73), some (some 74), some (some 75), some (some 76), some (some 77), none, none, none, none, none, some (some 78), some (some 79), some (some 80), some (some 81), none, none, none, none, none, none, some (some 82), some (some 83), some (some 84), some (some 85), none, some (some 86), some (some 87), some (some 88), some (some 89), some (some 90), some (some 91), some (some 92), none, some (some 93), some (some 94), none]),
  .inl (false, 159),
  .inl (false, 159),
  .inl (false, 159),
  .inl (false, 10),
  .inl (false, 10),
  .inl (true, 260),
  .inl (false, 260),
  .inl (false, 260),
  .inl (false, 16),
  .inl (false, 16),
  .inl (false, 16),
  .inl (false, 16),
  .inl (false, 260),
  .inl (false, 16),
  .inl (false, 16),
  .inl (false, 16),
  .inl (false, 16),
  .inl (false, 260),
  .inl (false, 8),
  .inl (false, 100),
  .inl (false, 60),
  .inl (false, 2),
  .inl (false, 2),
  .inl (false, 2),
  .inl (false, 100),
  .inl (false, 60),
  .inl (false, 12),
  .inl (false, 12),
  .inl (true, 40960),
  .inl (false, 100),
  .inl (false, 100),
  .inl (false, 6),
  .inl (false, 6),
  .inl (false, 6),
  .inl (false, 6),
  .inl (false, 1024),
  .inl (false, 1024)]
def oSl (wd : oW) (o ci kf : Nat) (x : Option (Option Nat)) : Prop := ∃ fs, wd[o]? = some (.inr (ci, fs)) ∧ fs[kf]? = some x
abbrev oQ (K : Int × oM → Prop) : Int → oW → oM → Prop := fun r wd M => wd = WD ∧ K (r, M)
abbrev oEf (d : Nat) (K : Int × oM → Prop) : oE := (d, 0, 0, none, oQ K)
abbrev oKf (l : Launch) (mt : oMI) (d : Nat) (as : List oV) (M : oM) (K : Int × oM → Prop) : Prop := oK l mt d 0 0 as WD M (oQ K)
theorem iter_J' {S R : Type} {step : S → Option (S ⊕ R)} {Jh : S → Prop} {G : R → Prop} (hstep : ∀ (KK : S ⊕ R → Prop) (s : S), (∀ s', KK (.inl s') → Jh s') → (∀ r, KK (.inr r) → G r) → okp (step s) KK → Jh s) (f : Nat) (s : S) (h : okp (iter step f s) G) : Jh s :=
  iter_J (fun s hs => hstep _ s (fun _ h => h) (fun _ h => h) hs) f s h
theorem oc_nolook {ps : List (Int × Int)} {dflt a : Int} (h : Op.lookupswitch.offset ps dflt a = dflt) : Op.lookupswitch.offset ps dflt a = dflt := h
section FIX
variable {l : Launch} {mt : oMI} {E : oE} {k n pc : Nat} {lv st st0 : List oV} {wd : oW} {M : oM} {d : Nat} {K : Int × oM → Prop}
theorem oj_getI' {idx ci kf o : Nat} {ki : Int} {fin : Bool} {fty : FieldType} (hf : oFl mt.1.cls idx ci kf fin fty) (hs : oSl wd o ci kf none) (hki : ((kf : Nat) : Int) = ki) (hd : decode mt.2.1 pc = .ok (.getfield idx, 3)) (h : oJ l mt E k n (pc + 3) lv (vi (M o ki) :: st) wd M) : oJ l mt E k n pc lv (vr o :: st) wd M := by
  obtain ⟨fs, h1, h2⟩ := hs
  exact oj_getI hf h1 h2 hki hd h
theorem oj_getR' {idx ci kf o r : Nat} {fin : Bool} {fty : FieldType} (hf : oFl mt.1.cls idx ci kf fin fty) (hs : oSl wd o ci kf (some (some r))) (hd : decode mt.2.1 pc = .ok (.getfield idx, 3)) (h : oJ l mt E k n (pc + 3) lv (vr r :: st) wd M) : oJ l mt E k n pc lv (vr o :: st) wd M := by
  obtain ⟨fs, h1, h2⟩ := hs
  exact oj_getR hf h1 h2 hd h
theorem oj_putI' {idx ci kf o : Nat} {ki v : Int} (hf : oFl mt.1.cls idx ci kf false .int) (hs : oSl wd o ci kf none) (hki : ((kf : Nat) : Int) = ki) (hd : decode mt.2.1 pc = .ok (.putfield idx, 3)) (h : oJ l mt E k n (pc + 3) lv st wd (oU M o ki v)) : oJ l mt E k n pc lv (vi v :: vr o :: st) wd M := by
  obtain ⟨fs, h1, h2⟩ := hs
  exact oj_putI hf h1 h2 hki hd h
theorem oj_putC' {idx ci kf o : Nat} {ki v : Int} {fty : FieldType} (hf : oFl mt.1.cls idx ci kf false fty) (hs : oSl wd o ci kf none) (hki : ((kf : Nat) : Int) = ki) (hnr : narrow fty (.int (Int32.ofInt v)) = .int (Int32.ofInt v)) (hft : fits fty (.int (Int32.ofInt v)) = true) (hd : decode mt.2.1 pc = .ok (.putfield idx, 3)) (h : oJ l mt E k n (pc + 3) lv st wd (oU M o ki v)) : oJ l mt E k n pc lv (vi v :: vr o :: st) wd M := by
  obtain ⟨fs, h1, h2⟩ := hs
  exact oj_put hf h1 h2 hki hnr hft hd h
theorem oj_putZ' {α : Type} {K' : α → Prop} {f : Int → Option α} {idx ci kf o : Nat} {ki v : Int} (hf : oFl mt.1.cls idx ci kf false .boolean) (hs : oSl wd o ci kf none) (hki : ((kf : Nat) : Int) = ki) (hd : decode mt.2.1 pc = .ok (.putfield idx, 3)) (hK : okp (bnd 2 v f) K') (h : okp (f v) K' → oJ l mt E k n (pc + 3) lv st wd (oU M o ki v)) : oJ l mt E k n pc lv (vi v :: vr o :: st) wd M := by
  obtain ⟨fs, h1, h2⟩ := hs
  exact oj_putZ hf h1 h2 hki hd hK h
theorem of_Vi {y : oMI} {d' np idx ci o : Nat} {as : List oV} {K' : Int × oM → Prop} {ty : FieldType} (hv : oClV mt.1.cls idx y np ci) (hw : ∃ fs, WD[o]? = some (.inr (ci, fs))) (hst : st0 = as.reverse ++ vr o :: st) (has : as.length = np) (hsl : st.length ≤ 8) (hd : decode mt.2.1 pc = .ok (.invokevirtual idx, 3)) (hdep : d' + 1 ≤ d) (hty : y.2.2.2 = some ty) (hK : oKf l y d' (vr o :: as) M K') (h : ∀ r M', K' (r, M') → oJ l mt (oEf d K) 0 0 (pc + 3) lv (vi r :: st) WD M') : oJ l mt (oEf d K) 0 0 pc lv st0 WD M := by
  obtain ⟨fs, hw⟩ := hw
  exact (oj_V (E := oEf d K) (k := 0) (n := 0) (pc := pc) (lv := lv) hv hw hst has hsl hd hdep (Nat.le_refl _) (Nat.le_refl _) hK).1 ty hty (fun r wd' M' q => by obtain ⟨rfl, q⟩ := q; exact h r M' q)
theorem of_Vv {y : oMI} {d' np idx ci o : Nat} {as : List oV} {K' : Int × oM → Prop} (hv : oClV mt.1.cls idx y np ci) (hw : ∃ fs, WD[o]? = some (.inr (ci, fs))) (hst : st0 = as.reverse ++ vr o :: st) (has : as.length = np) (hsl : st.length ≤ 8) (hd : decode mt.2.1 pc = .ok (.invokevirtual idx, 3)) (hdep : d' + 1 ≤ d) (hty : y.2.2.2 = none) (hK : oKf l y d' (vr o :: as) M K') (h : ∀ M', K' (0, M') → oJ l mt (oEf d K) 0 0 (pc + 3) lv st WD M') : oJ l mt (oEf d K) 0 0 pc lv st0 WD M := by
  obtain ⟨fs, hw⟩ := hw
  exact (oj_V (E := oEf d K) (k := 0) (n := 0) (pc := pc) (lv := lv) hv hw hst has hsl hd hdep (Nat.le_refl _) (Nat.le_refl _) hK).2 hty (fun wd' M' q => by obtain ⟨rfl, q⟩ := q; exact h M' q)
theorem of_Si {y : oMI} {d' np idx : Nat} {as : List oV} {K' : Int × oM → Prop} {ty : FieldType} (hv : oClS mt.1.cls idx y np) (hst : st0 = as.reverse ++ st) (has : as.length = np) (hsl : st.length ≤ 8) (hd : decode mt.2.1 pc = .ok (.invokestatic idx, 3)) (hdep : d' + 1 ≤ d) (hty : y.2.2.2 = some ty) (hK : oKf l y d' as M K') (h : ∀ r M', K' (r, M') → oJ l mt (oEf d K) 0 0 (pc + 3) lv (vi r :: st) WD M') : oJ l mt (oEf d K) 0 0 pc lv st0 WD M :=
  (oj_S (E := oEf d K) (k := 0) (n := 0) (pc := pc) (lv := lv) hv hst has hsl hd hdep (Nat.le_refl _) (Nat.le_refl _) hK).1 ty hty (fun r wd' M' q => by obtain ⟨rfl, q⟩ := q; exact h r M' q)
theorem of_Sv {y : oMI} {d' np idx : Nat} {as : List oV} {K' : Int × oM → Prop} (hv : oClS mt.1.cls idx y np) (hst : st0 = as.reverse ++ st) (has : as.length = np) (hsl : st.length ≤ 8) (hd : decode mt.2.1 pc = .ok (.invokestatic idx, 3)) (hdep : d' + 1 ≤ d) (hty : y.2.2.2 = none) (hK : oKf l y d' as M K') (h : ∀ M', K' (0, M') → oJ l mt (oEf d K) 0 0 (pc + 3) lv st WD M') : oJ l mt (oEf d K) 0 0 pc lv st0 WD M :=
  (oj_S (E := oEf d K) (k := 0) (n := 0) (pc := pc) (lv := lv) hv hst has hsl hd hdep (Nat.le_refl _) (Nat.le_refl _) hK).2 hty (fun wd' M' q => by obtain ⟨rfl, q⟩ := q; exact h M' q)
theorem oj_ld0 {a : Int} {l' : List oV} (hd : decode mt.2.1 pc = .ok (.iload_n 0, 1)) (h : oJ l mt E k n (pc + 1) (vi a :: l') (vi a :: st) wd M) : oJ l mt E k n pc (vi a :: l') st wd M := oj_iloadn (i := 0) hd rfl h
theorem oj_ald0 {a : Nat} {l' : List oV} (hd : decode mt.2.1 pc = .ok (.aload_n 0, 1)) (h : oJ l mt E k n (pc + 1) (vr a :: l') (vr a :: st) wd M) : oJ l mt E k n pc (vr a :: l') st wd M := oj_aloadn (i := 0) hd rfl h
theorem oj_st0 {x : oV} {a : Int} {l' : List oV} (hd : decode mt.2.1 pc = .ok (.istore_n 0, 1)) (hn : 0 < mt.2.2.1) (h : oJ l mt E k n (pc + 1) (vi a :: l') st wd M) : oJ l mt E k n pc (x :: l') (vi a :: st) wd M := oj_istoren (i := 0) hd hn rfl h
theorem oj_ast0 {x : oV} {a : Nat} {l' : List oV} (hd : decode mt.2.1 pc = .ok (.astore_n 0, 1)) (hn : 0 < mt.2.2.1) (h : oJ l mt E k n (pc + 1) (vr a :: l') st wd M) : oJ l mt E k n pc (x :: l') (vr a :: st) wd M := oj_astoren (i := 0) hd hn rfl h
theorem oj_inc0 {d a : Int} {l' : List oV} (hd : decode mt.2.1 pc = .ok (.iinc 0 d, 3)) (hn : 0 < mt.2.2.1) (h : oJ l mt E k n (pc + 3) (vi (w32 (a + d)) :: l') st wd M) : oJ l mt E k n pc (vi a :: l') st wd M := oj_iinc hd hn rfl rfl h
theorem oj_ld1 {a0 : oV} {a : Int} {l' : List oV} (hd : decode mt.2.1 pc = .ok (.iload_n 1, 1)) (h : oJ l mt E k n (pc + 1) (a0 :: vi a :: l') (vi a :: st) wd M) : oJ l mt E k n pc (a0 :: vi a :: l') st wd M := oj_iloadn (i := 1) hd rfl h
theorem oj_ald1 {a0 : oV} {a : Nat} {l' : List oV} (hd : decode mt.2.1 pc = .ok (.aload_n 1, 1)) (h : oJ l mt E k n (pc + 1) (a0 :: vr a :: l') (vr a :: st) wd M) : oJ l mt E k n pc (a0 :: vr a :: l') st wd M := oj_aloadn (i := 1) hd rfl h
theorem oj_st1 {a0 : oV} {x : oV} {a : Int} {l' : List oV} (hd : decode mt.2.1 pc = .ok (.istore_n 1, 1)) (hn : 1 < mt.2.2.1) (h : oJ l mt E k n (pc + 1) (a0 :: vi a :: l') st wd M) : oJ l mt E k n pc (a0 :: x :: l') (vi a :: st) wd M := oj_istoren (i := 1) hd hn rfl h
theorem oj_ast1 {a0 : oV} {x : oV} {a : Nat} {l' : List oV} (hd : decode mt.2.1 pc = .ok (.astore_n 1, 1)) (hn : 1 < mt.2.2.1) (h : oJ l mt E k n (pc + 1) (a0 :: vr a :: l') st wd M) : oJ l mt E k n pc (a0 :: x :: l') (vr a :: st) wd M := oj_astoren (i := 1) hd hn rfl h
theorem oj_inc1 {a0 : oV} {d a : Int} {l' : List oV} (hd : decode mt.2.1 pc = .ok (.iinc 1 d, 3)) (hn : 1 < mt.2.2.1) (h : oJ l mt E k n (pc + 3) (a0 :: vi (w32 (a + d)) :: l') st wd M) : oJ l mt E k n pc (a0 :: vi a :: l') st wd M := oj_iinc hd hn rfl rfl h
theorem oj_ld2 {a0 a1 : oV} {a : Int} {l' : List oV} (hd : decode mt.2.1 pc = .ok (.iload_n 2, 1)) (h : oJ l mt E k n (pc + 1) (a0 :: a1 :: vi a :: l') (vi a :: st) wd M) : oJ l mt E k n pc (a0 :: a1 :: vi a :: l') st wd M := oj_iloadn (i := 2) hd rfl h
theorem oj_ald2 {a0 a1 : oV} {a : Nat} {l' : List oV} (hd : decode mt.2.1 pc = .ok (.aload_n 2, 1)) (h : oJ l mt E k n (pc + 1) (a0 :: a1 :: vr a :: l') (vr a :: st) wd M) : oJ l mt E k n pc (a0 :: a1 :: vr a :: l') st wd M := oj_aloadn (i := 2) hd rfl h
theorem oj_st2 {a0 a1 : oV} {x : oV} {a : Int} {l' : List oV} (hd : decode mt.2.1 pc = .ok (.istore_n 2, 1)) (hn : 2 < mt.2.2.1) (h : oJ l mt E k n (pc + 1) (a0 :: a1 :: vi a :: l') st wd M) : oJ l mt E k n pc (a0 :: a1 :: x :: l') (vi a :: st) wd M := oj_istoren (i := 2) hd hn rfl h
theorem oj_ast2 {a0 a1 : oV} {x : oV} {a : Nat} {l' : List oV} (hd : decode mt.2.1 pc = .ok (.astore_n 2, 1)) (hn : 2 < mt.2.2.1) (h : oJ l mt E k n (pc + 1) (a0 :: a1 :: vr a :: l') st wd M) : oJ l mt E k n pc (a0 :: a1 :: x :: l') (vr a :: st) wd M := oj_astoren (i := 2) hd hn rfl h
theorem oj_inc2 {a0 a1 : oV} {d a : Int} {l' : List oV} (hd : decode mt.2.1 pc = .ok (.iinc 2 d, 3)) (hn : 2 < mt.2.2.1) (h : oJ l mt E k n (pc + 3) (a0 :: a1 :: vi (w32 (a + d)) :: l') st wd M) : oJ l mt E k n pc (a0 :: a1 :: vi a :: l') st wd M := oj_iinc hd hn rfl rfl h
theorem oj_ld3 {a0 a1 a2 : oV} {a : Int} {l' : List oV} (hd : decode mt.2.1 pc = .ok (.iload_n 3, 1)) (h : oJ l mt E k n (pc + 1) (a0 :: a1 :: a2 :: vi a :: l') (vi a :: st) wd M) : oJ l mt E k n pc (a0 :: a1 :: a2 :: vi a :: l') st wd M := oj_iloadn (i := 3) hd rfl h
theorem oj_ald3 {a0 a1 a2 : oV} {a : Nat} {l' : List oV} (hd : decode mt.2.1 pc = .ok (.aload_n 3, 1)) (h : oJ l mt E k n (pc + 1) (a0 :: a1 :: a2 :: vr a :: l') (vr a :: st) wd M) : oJ l mt E k n pc (a0 :: a1 :: a2 :: vr a :: l') st wd M := oj_aloadn (i := 3) hd rfl h
theorem oj_st3 {a0 a1 a2 : oV} {x : oV} {a : Int} {l' : List oV} (hd : decode mt.2.1 pc = .ok (.istore_n 3, 1)) (hn : 3 < mt.2.2.1) (h : oJ l mt E k n (pc + 1) (a0 :: a1 :: a2 :: vi a :: l') st wd M) : oJ l mt E k n pc (a0 :: a1 :: a2 :: x :: l') (vi a :: st) wd M := oj_istoren (i := 3) hd hn rfl h
theorem oj_ast3 {a0 a1 a2 : oV} {x : oV} {a : Nat} {l' : List oV} (hd : decode mt.2.1 pc = .ok (.astore_n 3, 1)) (hn : 3 < mt.2.2.1) (h : oJ l mt E k n (pc + 1) (a0 :: a1 :: a2 :: vr a :: l') st wd M) : oJ l mt E k n pc (a0 :: a1 :: a2 :: x :: l') (vr a :: st) wd M := oj_astoren (i := 3) hd hn rfl h
theorem oj_inc3 {a0 a1 a2 : oV} {d a : Int} {l' : List oV} (hd : decode mt.2.1 pc = .ok (.iinc 3 d, 3)) (hn : 3 < mt.2.2.1) (h : oJ l mt E k n (pc + 3) (a0 :: a1 :: a2 :: vi (w32 (a + d)) :: l') st wd M) : oJ l mt E k n pc (a0 :: a1 :: a2 :: vi a :: l') st wd M := oj_iinc hd hn rfl rfl h
theorem oj_ld4 {a0 a1 a2 a3 : oV} {a : Int} {l' : List oV} (hd : decode mt.2.1 pc = .ok (.iload 4, 2)) (h : oJ l mt E k n (pc + 2) (a0 :: a1 :: a2 :: a3 :: vi a :: l') (vi a :: st) wd M) : oJ l mt E k n pc (a0 :: a1 :: a2 :: a3 :: vi a :: l') st wd M := oj_iload (i := 4) hd rfl h
theorem oj_st4 {a0 a1 a2 a3 : oV} {x : oV} {a : Int} {l' : List oV} (hd : decode mt.2.1 pc = .ok (.istore 4, 2)) (hn : 4 < mt.2.2.1) (h : oJ l mt E k n (pc + 2) (a0 :: a1 :: a2 :: a3 :: vi a :: l') st wd M) : oJ l mt E k n pc (a0 :: a1 :: a2 :: a3 :: x :: l') (vi a :: st) wd M := oj_istore (i := 4) hd hn rfl h
theorem oj_inc4 {a0 a1 a2 a3 : oV} {d a : Int} {l' : List oV} (hd : decode mt.2.1 pc = .ok (.iinc 4 d, 3)) (hn : 4 < mt.2.2.1) (h : oJ l mt E k n (pc + 3) (a0 :: a1 :: a2 :: a3 :: vi (w32 (a + d)) :: l') st wd M) : oJ l mt E k n pc (a0 :: a1 :: a2 :: a3 :: vi a :: l') st wd M := oj_iinc hd hn rfl rfl h
theorem oj_ld5 {a0 a1 a2 a3 a4 : oV} {a : Int} {l' : List oV} (hd : decode mt.2.1 pc = .ok (.iload 5, 2)) (h : oJ l mt E k n (pc + 2) (a0 :: a1 :: a2 :: a3 :: a4 :: vi a :: l') (vi a :: st) wd M) : oJ l mt E k n pc (a0 :: a1 :: a2 :: a3 :: a4 :: vi a :: l') st wd M := oj_iload (i := 5) hd rfl h
theorem oj_st5 {a0 a1 a2 a3 a4 : oV} {x : oV} {a : Int} {l' : List oV} (hd : decode mt.2.1 pc = .ok (.istore 5, 2)) (hn : 5 < mt.2.2.1) (h : oJ l mt E k n (pc + 2) (a0 :: a1 :: a2 :: a3 :: a4 :: vi a :: l') st wd M) : oJ l mt E k n pc (a0 :: a1 :: a2 :: a3 :: a4 :: x :: l') (vi a :: st) wd M := oj_istore (i := 5) hd hn rfl h
theorem oj_inc5 {a0 a1 a2 a3 a4 : oV} {d a : Int} {l' : List oV} (hd : decode mt.2.1 pc = .ok (.iinc 5 d, 3)) (hn : 5 < mt.2.2.1) (h : oJ l mt E k n (pc + 3) (a0 :: a1 :: a2 :: a3 :: a4 :: vi (w32 (a + d)) :: l') st wd M) : oJ l mt E k n pc (a0 :: a1 :: a2 :: a3 :: a4 :: vi a :: l') st wd M := oj_iinc hd hn rfl rfl h
theorem oj_ld6 {a0 a1 a2 a3 a4 a5 : oV} {a : Int} {l' : List oV} (hd : decode mt.2.1 pc = .ok (.iload 6, 2)) (h : oJ l mt E k n (pc + 2) (a0 :: a1 :: a2 :: a3 :: a4 :: a5 :: vi a :: l') (vi a :: st) wd M) : oJ l mt E k n pc (a0 :: a1 :: a2 :: a3 :: a4 :: a5 :: vi a :: l') st wd M := oj_iload (i := 6) hd rfl h
theorem oj_st6 {a0 a1 a2 a3 a4 a5 : oV} {x : oV} {a : Int} {l' : List oV} (hd : decode mt.2.1 pc = .ok (.istore 6, 2)) (hn : 6 < mt.2.2.1) (h : oJ l mt E k n (pc + 2) (a0 :: a1 :: a2 :: a3 :: a4 :: a5 :: vi a :: l') st wd M) : oJ l mt E k n pc (a0 :: a1 :: a2 :: a3 :: a4 :: a5 :: x :: l') (vi a :: st) wd M := oj_istore (i := 6) hd hn rfl h
theorem oj_inc6 {a0 a1 a2 a3 a4 a5 : oV} {d a : Int} {l' : List oV} (hd : decode mt.2.1 pc = .ok (.iinc 6 d, 3)) (hn : 6 < mt.2.2.1) (h : oJ l mt E k n (pc + 3) (a0 :: a1 :: a2 :: a3 :: a4 :: a5 :: vi (w32 (a + d)) :: l') st wd M) : oJ l mt E k n pc (a0 :: a1 :: a2 :: a3 :: a4 :: a5 :: vi a :: l') st wd M := oj_iinc hd hn rfl rfl h
theorem oj_ld7 {a0 a1 a2 a3 a4 a5 a6 : oV} {a : Int} {l' : List oV} (hd : decode mt.2.1 pc = .ok (.iload 7, 2)) (h : oJ l mt E k n (pc + 2) (a0 :: a1 :: a2 :: a3 :: a4 :: a5 :: a6 :: vi a :: l') (vi a :: st) wd M) : oJ l mt E k n pc (a0 :: a1 :: a2 :: a3 :: a4 :: a5 :: a6 :: vi a :: l') st wd M := oj_iload (i := 7) hd rfl h
theorem oj_st7 {a0 a1 a2 a3 a4 a5 a6 : oV} {x : oV} {a : Int} {l' : List oV} (hd : decode mt.2.1 pc = .ok (.istore 7, 2)) (hn : 7 < mt.2.2.1) (h : oJ l mt E k n (pc + 2) (a0 :: a1 :: a2 :: a3 :: a4 :: a5 :: a6 :: vi a :: l') st wd M) : oJ l mt E k n pc (a0 :: a1 :: a2 :: a3 :: a4 :: a5 :: a6 :: x :: l') (vi a :: st) wd M := oj_istore (i := 7) hd hn rfl h
theorem oj_inc7 {a0 a1 a2 a3 a4 a5 a6 : oV} {d a : Int} {l' : List oV} (hd : decode mt.2.1 pc = .ok (.iinc 7 d, 3)) (hn : 7 < mt.2.2.1) (h : oJ l mt E k n (pc + 3) (a0 :: a1 :: a2 :: a3 :: a4 :: a5 :: a6 :: vi (w32 (a + d)) :: l') st wd M) : oJ l mt E k n pc (a0 :: a1 :: a2 :: a3 :: a4 :: a5 :: a6 :: vi a :: l') st wd M := oj_iinc hd hn rfl rfl h
theorem oj_ld8 {a0 a1 a2 a3 a4 a5 a6 a7 : oV} {a : Int} {l' : List oV} (hd : decode mt.2.1 pc = .ok (.iload 8, 2)) (h : oJ l mt E k n (pc + 2) (a0 :: a1 :: a2 :: a3 :: a4 :: a5 :: a6 :: a7 :: vi a :: l') (vi a :: st) wd M) : oJ l mt E k n pc (a0 :: a1 :: a2 :: a3 :: a4 :: a5 :: a6 :: a7 :: vi a :: l') st wd M := oj_iload (i := 8) hd rfl h
theorem oj_st8 {a0 a1 a2 a3 a4 a5 a6 a7 : oV} {x : oV} {a : Int} {l' : List oV} (hd : decode mt.2.1 pc = .ok (.istore 8, 2)) (hn : 8 < mt.2.2.1) (h : oJ l mt E k n (pc + 2) (a0 :: a1 :: a2 :: a3 :: a4 :: a5 :: a6 :: a7 :: vi a :: l') st wd M) : oJ l mt E k n pc (a0 :: a1 :: a2 :: a3 :: a4 :: a5 :: a6 :: a7 :: x :: l') (vi a :: st) wd M := oj_istore (i := 8) hd hn rfl h
theorem oj_inc8 {a0 a1 a2 a3 a4 a5 a6 a7 : oV} {d a : Int} {l' : List oV} (hd : decode mt.2.1 pc = .ok (.iinc 8 d, 3)) (hn : 8 < mt.2.2.1) (h : oJ l mt E k n (pc + 3) (a0 :: a1 :: a2 :: a3 :: a4 :: a5 :: a6 :: a7 :: vi (w32 (a + d)) :: l') st wd M) : oJ l mt E k n pc (a0 :: a1 :: a2 :: a3 :: a4 :: a5 :: a6 :: a7 :: vi a :: l') st wd M := oj_iinc hd hn rfl rfl h
end FIX

theorem o_0 : ∃ fs, WD[0]? = some (.inr (10, fs)) := ⟨_, rfl⟩
theorem s_0_0 : oSl WD 0 10 0 (some (some 1)) := ⟨_, rfl, rfl⟩
theorem s_0_1 : oSl WD 0 10 1 (some (some 3)) := ⟨_, rfl, rfl⟩
theorem s_0_2 : oSl WD 0 10 2 (some (some 6)) := ⟨_, rfl, rfl⟩
theorem s_0_3 : oSl WD 0 10 3 (some (some 10)) := ⟨_, rfl, rfl⟩
theorem s_0_4 : oSl WD 0 10 4 (some (some 14)) := ⟨_, rfl, rfl⟩
theorem s_0_5 : oSl WD 0 10 5 (some (some 18)) := ⟨_, rfl, rfl⟩
theorem s_0_6 : oSl WD 0 10 6 (some (some 27)) := ⟨_, rfl, rfl⟩
theorem s_0_7 : oSl WD 0 10 7 (some (some 36)) := ⟨_, rfl, rfl⟩
theorem s_0_8 : oSl WD 0 10 8 (some (some 37)) := ⟨_, rfl, rfl⟩
theorem s_0_9 : oSl WD 0 10 9 (some (some 39)) := ⟨_, rfl, rfl⟩
theorem s_0_10 : oSl WD 0 10 10 (some (some 41)) := ⟨_, rfl, rfl⟩
theorem s_0_11 : oSl WD 0 10 11 (some (some 42)) := ⟨_, rfl, rfl⟩
theorem s_0_12 : oSl WD 0 10 12 (some (some 49)) := ⟨_, rfl, rfl⟩
theorem s_0_13 : oSl WD 0 10 13 (none) := ⟨_, rfl, rfl⟩
theorem o_1 : ∃ fs, WD[1]? = some (.inr (9, fs)) := ⟨_, rfl⟩
theorem s_1_0 : oSl WD 1 9 0 (some (some 2)) := ⟨_, rfl, rfl⟩
theorem s_1_1 : oSl WD 1 9 1 (none) := ⟨_, rfl, rfl⟩
theorem s_1_2 : oSl WD 1 9 2 (none) := ⟨_, rfl, rfl⟩
theorem s_1_3 : oSl WD 1 9 3 (none) := ⟨_, rfl, rfl⟩
theorem s_1_4 : oSl WD 1 9 4 (none) := ⟨_, rfl, rfl⟩
theorem o_3 : ∃ fs, WD[3]? = some (.inr (6, fs)) := ⟨_, rfl⟩
theorem s_3_0 : oSl WD 3 6 0 (some (some 4)) := ⟨_, rfl, rfl⟩
theorem s_3_1 : oSl WD 3 6 1 (some (some 5)) := ⟨_, rfl, rfl⟩
theorem s_3_2 : oSl WD 3 6 2 (none) := ⟨_, rfl, rfl⟩
theorem o_6 : ∃ fs, WD[6]? = some (.inr (3, fs)) := ⟨_, rfl⟩
theorem s_6_0 : oSl WD 6 3 0 (some (some 7)) := ⟨_, rfl, rfl⟩
theorem s_6_1 : oSl WD 6 3 1 (some (some 8)) := ⟨_, rfl, rfl⟩
theorem s_6_2 : oSl WD 6 3 2 (some (some 9)) := ⟨_, rfl, rfl⟩
theorem s_6_3 : oSl WD 6 3 3 (none) := ⟨_, rfl, rfl⟩
theorem s_6_4 : oSl WD 6 3 4 (none) := ⟨_, rfl, rfl⟩
theorem s_6_5 : oSl WD 6 3 5 (none) := ⟨_, rfl, rfl⟩
theorem s_6_6 : oSl WD 6 3 6 (none) := ⟨_, rfl, rfl⟩
theorem s_6_7 : oSl WD 6 3 7 (none) := ⟨_, rfl, rfl⟩
theorem s_6_8 : oSl WD 6 3 8 (none) := ⟨_, rfl, rfl⟩
theorem s_6_9 : oSl WD 6 3 9 (none) := ⟨_, rfl, rfl⟩
theorem s_6_10 : oSl WD 6 3 10 (none) := ⟨_, rfl, rfl⟩
theorem s_6_11 : oSl WD 6 3 11 (none) := ⟨_, rfl, rfl⟩
theorem o_10 : ∃ fs, WD[10]? = some (.inr (3, fs)) := ⟨_, rfl⟩
theorem s_10_0 : oSl WD 10 3 0 (some (some 11)) := ⟨_, rfl, rfl⟩
theorem s_10_1 : oSl WD 10 3 1 (some (some 12)) := ⟨_, rfl, rfl⟩
theorem s_10_2 : oSl WD 10 3 2 (some (some 13)) := ⟨_, rfl, rfl⟩
theorem s_10_3 : oSl WD 10 3 3 (none) := ⟨_, rfl, rfl⟩
theorem s_10_4 : oSl WD 10 3 4 (none) := ⟨_, rfl, rfl⟩
theorem s_10_5 : oSl WD 10 3 5 (none) := ⟨_, rfl, rfl⟩
theorem s_10_6 : oSl WD 10 3 6 (none) := ⟨_, rfl, rfl⟩
theorem s_10_7 : oSl WD 10 3 7 (none) := ⟨_, rfl, rfl⟩
theorem s_10_8 : oSl WD 10 3 8 (none) := ⟨_, rfl, rfl⟩
theorem s_10_9 : oSl WD 10 3 9 (none) := ⟨_, rfl, rfl⟩
theorem s_10_10 : oSl WD 10 3 10 (none) := ⟨_, rfl, rfl⟩
theorem s_10_11 : oSl WD 10 3 11 (none) := ⟨_, rfl, rfl⟩
theorem o_14 : ∃ fs, WD[14]? = some (.inr (3, fs)) := ⟨_, rfl⟩
theorem s_14_0 : oSl WD 14 3 0 (some (some 15)) := ⟨_, rfl, rfl⟩
theorem s_14_1 : oSl WD 14 3 1 (some (some 16)) := ⟨_, rfl, rfl⟩
theorem s_14_2 : oSl WD 14 3 2 (some (some 17)) := ⟨_, rfl, rfl⟩
theorem s_14_3 : oSl WD 14 3 3 (none) := ⟨_, rfl, rfl⟩
theorem s_14_4 : oSl WD 14 3 4 (none) := ⟨_, rfl, rfl⟩
theorem s_14_5 : oSl WD 14 3 5 (none) := ⟨_, rfl, rfl⟩
theorem s_14_6 : oSl WD 14 3 6 (none) := ⟨_, rfl, rfl⟩
theorem s_14_7 : oSl WD 14 3 7 (none) := ⟨_, rfl, rfl⟩
theorem s_14_8 : oSl WD 14 3 8 (none) := ⟨_, rfl, rfl⟩
theorem s_14_9 : oSl WD 14 3 9 (none) := ⟨_, rfl, rfl⟩
theorem s_14_10 : oSl WD 14 3 10 (none) := ⟨_, rfl, rfl⟩
theorem s_14_11 : oSl WD 14 3 11 (none) := ⟨_, rfl, rfl⟩
theorem o_18 : ∃ fs, WD[18]? = some (.inr (4, fs)) := ⟨_, rfl⟩
theorem s_18_0 : oSl WD 18 4 0 (some (some 3)) := ⟨_, rfl, rfl⟩
theorem s_18_1 : oSl WD 18 4 1 (some (some 19)) := ⟨_, rfl, rfl⟩
theorem s_18_2 : oSl WD 18 4 2 (some (some 20)) := ⟨_, rfl, rfl⟩
theorem s_18_3 : oSl WD 18 4 3 (some (some 21)) := ⟨_, rfl, rfl⟩
theorem s_18_4 : oSl WD 18 4 4 (some (some 22)) := ⟨_, rfl, rfl⟩
theorem s_18_5 : oSl WD 18 4 5 (some (some 23)) := ⟨_, rfl, rfl⟩
theorem s_18_6 : oSl WD 18 4 6 (some (some 24)) := ⟨_, rfl, rfl⟩
theorem s_18_7 : oSl WD 18 4 7 (some (some 25)) := ⟨_, rfl, rfl⟩
theorem s_18_8 : oSl WD 18 4 8 (some (some 26)) := ⟨_, rfl, rfl⟩
theorem s_18_9 : oSl WD 18 4 9 (none) := ⟨_, rfl, rfl⟩
theorem s_18_10 : oSl WD 18 4 10 (none) := ⟨_, rfl, rfl⟩
theorem o_27 : ∃ fs, WD[27]? = some (.inr (4, fs)) := ⟨_, rfl⟩
theorem s_27_1 : oSl WD 27 4 1 (some (some 28)) := ⟨_, rfl, rfl⟩
theorem s_27_2 : oSl WD 27 4 2 (some (some 29)) := ⟨_, rfl, rfl⟩
theorem s_27_3 : oSl WD 27 4 3 (some (some 30)) := ⟨_, rfl, rfl⟩
theorem s_27_4 : oSl WD 27 4 4 (some (some 31)) := ⟨_, rfl, rfl⟩
theorem s_27_5 : oSl WD 27 4 5 (some (some 32)) := ⟨_, rfl, rfl⟩
theorem s_27_6 : oSl WD 27 4 6 (some (some 33)) := ⟨_, rfl, rfl⟩
theorem s_27_9 : oSl WD 27 4 9 (none) := ⟨_, rfl, rfl⟩
theorem s_27_10 : oSl WD 27 4 10 (none) := ⟨_, rfl, rfl⟩
theorem o_36 : ∃ fs, WD[36]? = some (.inr (5, fs)) := ⟨_, rfl⟩
theorem s_36_0 : oSl WD 36 5 0 (some (some 1)) := ⟨_, rfl, rfl⟩
theorem s_36_1 : oSl WD 36 5 1 (some (some 27)) := ⟨_, rfl, rfl⟩
theorem o_37 : ∃ fs, WD[37]? = some (.inr (2, fs)) := ⟨_, rfl⟩
theorem s_37_0 : oSl WD 37 2 0 (some (some 1)) := ⟨_, rfl, rfl⟩
theorem s_37_1 : oSl WD 37 2 1 (some (some 3)) := ⟨_, rfl, rfl⟩
theorem s_37_2 : oSl WD 37 2 2 (some (some 38)) := ⟨_, rfl, rfl⟩
theorem o_39 : ∃ fs, WD[39]? = some (.inr (7, fs)) := ⟨_, rfl⟩
theorem s_39_0 : oSl WD 39 7 0 (some (some 1)) := ⟨_, rfl, rfl⟩
theorem s_39_1 : oSl WD 39 7 1 (some (some 40)) := ⟨_, rfl, rfl⟩
theorem s_39_2 : oSl WD 39 7 2 (none) := ⟨_, rfl, rfl⟩
theorem o_41 : ∃ fs, WD[41]? = some (.inr (1, fs)) := ⟨_, rfl⟩
theorem s_41_0 : oSl WD 41 1 0 (some (some 3)) := ⟨_, rfl, rfl⟩
theorem s_41_1 : oSl WD 41 1 1 (some (some 18)) := ⟨_, rfl, rfl⟩
theorem s_41_2 : oSl WD 41 1 2 (none) := ⟨_, rfl, rfl⟩
theorem s_41_3 : oSl WD 41 1 3 (none) := ⟨_, rfl, rfl⟩
theorem s_41_4 : oSl WD 41 1 4 (none) := ⟨_, rfl, rfl⟩
theorem s_41_5 : oSl WD 41 1 5 (none) := ⟨_, rfl, rfl⟩
theorem o_42 : ∃ fs, WD[42]? = some (.inr (8, fs)) := ⟨_, rfl⟩
theorem s_42_0 : oSl WD 42 8 0 (some (some 3)) := ⟨_, rfl, rfl⟩
theorem s_42_1 : oSl WD 42 8 1 (some (some 43)) := ⟨_, rfl, rfl⟩
theorem s_42_2 : oSl WD 42 8 2 (some (some 44)) := ⟨_, rfl, rfl⟩
theorem s_42_3 : oSl WD 42 8 3 (some (some 45)) := ⟨_, rfl, rfl⟩
theorem s_42_4 : oSl WD 42 8 4 (some (some 46)) := ⟨_, rfl, rfl⟩
theorem s_42_5 : oSl WD 42 8 5 (some (some 47)) := ⟨_, rfl, rfl⟩
theorem s_42_6 : oSl WD 42 8 6 (some (some 48)) := ⟨_, rfl, rfl⟩
theorem s_42_7 : oSl WD 42 8 7 (none) := ⟨_, rfl, rfl⟩
theorem o_49 : ∃ fs, WD[49]? = some (.inr (0, fs)) := ⟨_, rfl⟩
theorem s_49_0 : oSl WD 49 0 0 (some (some 3)) := ⟨_, rfl, rfl⟩
theorem s_49_1 : oSl WD 49 0 1 (some (some 50)) := ⟨_, rfl, rfl⟩
theorem s_49_2 : oSl WD 49 0 2 (some (some 51)) := ⟨_, rfl, rfl⟩
theorem s_49_3 : oSl WD 49 0 3 (some (some 52)) := ⟨_, rfl, rfl⟩
theorem s_49_4 : oSl WD 49 0 4 (some (some 53)) := ⟨_, rfl, rfl⟩
theorem s_49_5 : oSl WD 49 0 5 (some (some 54)) := ⟨_, rfl, rfl⟩
theorem s_49_6 : oSl WD 49 0 6 (some (some 55)) := ⟨_, rfl, rfl⟩
theorem s_49_7 : oSl WD 49 0 7 (some (some 56)) := ⟨_, rfl, rfl⟩
theorem s_49_8 : oSl WD 49 0 8 (none) := ⟨_, rfl, rfl⟩
theorem o_57 : ∃ fs, WD[57]? = some (.inr (11, fs)) := ⟨_, rfl⟩
theorem s_57_0 : oSl WD 57 11 0 (some (some 58)) := ⟨_, rfl, rfl⟩
theorem s_57_1 : oSl WD 57 11 1 (some (some 59)) := ⟨_, rfl, rfl⟩
theorem s_57_2 : oSl WD 57 11 2 (some (some 60)) := ⟨_, rfl, rfl⟩
theorem s_57_3 : oSl WD 57 11 3 (some (some 61)) := ⟨_, rfl, rfl⟩
theorem s_57_4 : oSl WD 57 11 4 (some (some 62)) := ⟨_, rfl, rfl⟩
theorem s_57_5 : oSl WD 57 11 5 (none) := ⟨_, rfl, rfl⟩
theorem s_57_6 : oSl WD 57 11 6 (some (some 63)) := ⟨_, rfl, rfl⟩
theorem s_57_7 : oSl WD 57 11 7 (none) := ⟨_, rfl, rfl⟩
theorem s_57_8 : oSl WD 57 11 8 (none) := ⟨_, rfl, rfl⟩
theorem s_57_9 : oSl WD 57 11 9 (none) := ⟨_, rfl, rfl⟩
theorem s_57_10 : oSl WD 57 11 10 (none) := ⟨_, rfl, rfl⟩
theorem s_57_11 : oSl WD 57 11 11 (none) := ⟨_, rfl, rfl⟩
theorem s_57_12 : oSl WD 57 11 12 (none) := ⟨_, rfl, rfl⟩
theorem s_57_13 : oSl WD 57 11 13 (none) := ⟨_, rfl, rfl⟩
theorem s_57_14 : oSl WD 57 11 14 (none) := ⟨_, rfl, rfl⟩
theorem s_57_15 : oSl WD 57 11 15 (none) := ⟨_, rfl, rfl⟩
theorem s_57_16 : oSl WD 57 11 16 (none) := ⟨_, rfl, rfl⟩
theorem s_57_17 : oSl WD 57 11 17 (some (some 64)) := ⟨_, rfl, rfl⟩
theorem s_57_18 : oSl WD 57 11 18 (some (some 65)) := ⟨_, rfl, rfl⟩
theorem s_57_19 : oSl WD 57 11 19 (some (some 66)) := ⟨_, rfl, rfl⟩
theorem s_57_20 : oSl WD 57 11 20 (some (some 67)) := ⟨_, rfl, rfl⟩
theorem s_57_21 : oSl WD 57 11 21 (some (some 68)) := ⟨_, rfl, rfl⟩
theorem s_57_22 : oSl WD 57 11 22 (some (some 69)) := ⟨_, rfl, rfl⟩
theorem s_57_23 : oSl WD 57 11 23 (some (some 70)) := ⟨_, rfl, rfl⟩
theorem s_57_24 : oSl WD 57 11 24 (some (some 71)) := ⟨_, rfl, rfl⟩
theorem s_57_25 : oSl WD 57 11 25 (some (some 72)) := ⟨_, rfl, rfl⟩
theorem s_57_26 : oSl WD 57 11 26 (some (some 73)) := ⟨_, rfl, rfl⟩
theorem s_57_27 : oSl WD 57 11 27 (some (some 74)) := ⟨_, rfl, rfl⟩
theorem s_57_28 : oSl WD 57 11 28 (some (some 75)) := ⟨_, rfl, rfl⟩
theorem s_57_29 : oSl WD 57 11 29 (some (some 76)) := ⟨_, rfl, rfl⟩
theorem s_57_30 : oSl WD 57 11 30 (some (some 77)) := ⟨_, rfl, rfl⟩
theorem s_57_31 : oSl WD 57 11 31 (none) := ⟨_, rfl, rfl⟩
theorem s_57_32 : oSl WD 57 11 32 (none) := ⟨_, rfl, rfl⟩
theorem s_57_33 : oSl WD 57 11 33 (none) := ⟨_, rfl, rfl⟩
theorem s_57_34 : oSl WD 57 11 34 (none) := ⟨_, rfl, rfl⟩
theorem s_57_35 : oSl WD 57 11 35 (none) := ⟨_, rfl, rfl⟩
theorem s_57_36 : oSl WD 57 11 36 (some (some 78)) := ⟨_, rfl, rfl⟩
theorem s_57_37 : oSl WD 57 11 37 (some (some 79)) := ⟨_, rfl, rfl⟩
theorem s_57_38 : oSl WD 57 11 38 (some (some 80)) := ⟨_, rfl, rfl⟩
theorem s_57_39 : oSl WD 57 11 39 (some (some 81)) := ⟨_, rfl, rfl⟩
theorem s_57_40 : oSl WD 57 11 40 (none) := ⟨_, rfl, rfl⟩
theorem s_57_41 : oSl WD 57 11 41 (none) := ⟨_, rfl, rfl⟩
theorem s_57_42 : oSl WD 57 11 42 (none) := ⟨_, rfl, rfl⟩
theorem s_57_43 : oSl WD 57 11 43 (none) := ⟨_, rfl, rfl⟩
theorem s_57_44 : oSl WD 57 11 44 (none) := ⟨_, rfl, rfl⟩
theorem s_57_45 : oSl WD 57 11 45 (none) := ⟨_, rfl, rfl⟩
theorem s_57_46 : oSl WD 57 11 46 (some (some 82)) := ⟨_, rfl, rfl⟩
theorem s_57_47 : oSl WD 57 11 47 (some (some 83)) := ⟨_, rfl, rfl⟩
theorem s_57_48 : oSl WD 57 11 48 (some (some 84)) := ⟨_, rfl, rfl⟩
theorem s_57_49 : oSl WD 57 11 49 (some (some 85)) := ⟨_, rfl, rfl⟩
theorem s_57_50 : oSl WD 57 11 50 (none) := ⟨_, rfl, rfl⟩
theorem s_57_51 : oSl WD 57 11 51 (some (some 86)) := ⟨_, rfl, rfl⟩
theorem s_57_52 : oSl WD 57 11 52 (some (some 87)) := ⟨_, rfl, rfl⟩
theorem s_57_53 : oSl WD 57 11 53 (some (some 88)) := ⟨_, rfl, rfl⟩
theorem s_57_54 : oSl WD 57 11 54 (some (some 89)) := ⟨_, rfl, rfl⟩
theorem s_57_55 : oSl WD 57 11 55 (some (some 90)) := ⟨_, rfl, rfl⟩
theorem s_57_56 : oSl WD 57 11 56 (some (some 91)) := ⟨_, rfl, rfl⟩
theorem s_57_57 : oSl WD 57 11 57 (some (some 92)) := ⟨_, rfl, rfl⟩
theorem s_57_58 : oSl WD 57 11 58 (none) := ⟨_, rfl, rfl⟩
theorem s_57_59 : oSl WD 57 11 59 (some (some 93)) := ⟨_, rfl, rfl⟩
theorem s_57_60 : oSl WD 57 11 60 (some (some 94)) := ⟨_, rfl, rfl⟩
theorem s_57_61 : oSl WD 57 11 61 (none) := ⟨_, rfl, rfl⟩
theorem a_2 : WD[2]? = some (.inl (false, 260)) := rfl
theorem a_4 : WD[4]? = some (.inl (false, 10)) := rfl
theorem a_5 : WD[5]? = some (.inl (false, 10)) := rfl
theorem a_7 : WD[7]? = some (.inl (false, 100)) := rfl
theorem a_8 : WD[8]? = some (.inl (false, 10)) := rfl
theorem a_9 : WD[9]? = some (.inl (false, 40)) := rfl
theorem a_11 : WD[11]? = some (.inl (false, 100)) := rfl
theorem a_12 : WD[12]? = some (.inl (false, 10)) := rfl
theorem a_13 : WD[13]? = some (.inl (false, 40)) := rfl
theorem a_15 : WD[15]? = some (.inl (false, 100)) := rfl
theorem a_16 : WD[16]? = some (.inl (false, 10)) := rfl
theorem a_17 : WD[17]? = some (.inl (false, 40)) := rfl
theorem a_19 : WD[19]? = some (.inl (false, 240)) := rfl
theorem a_20 : WD[20]? = some (.inl (false, 240)) := rfl
theorem a_21 : WD[21]? = some (.inl (false, 16)) := rfl
theorem a_22 : WD[22]? = some (.inl (false, 16)) := rfl
theorem a_23 : WD[23]? = some (.inl (false, 16)) := rfl
theorem a_24 : WD[24]? = some (.inl (false, 16)) := rfl
theorem a_25 : WD[25]? = some (.inl (false, 8)) := rfl
theorem a_26 : WD[26]? = some (.inl (false, 64)) := rfl
theorem a_28 : WD[28]? = some (.inl (false, 240)) := rfl
theorem a_29 : WD[29]? = some (.inl (false, 240)) := rfl
theorem a_30 : WD[30]? = some (.inl (false, 16)) := rfl
theorem a_31 : WD[31]? = some (.inl (false, 16)) := rfl
theorem a_32 : WD[32]? = some (.inl (false, 16)) := rfl
theorem a_33 : WD[33]? = some (.inl (false, 16)) := rfl
theorem a_38 : WD[38]? = some (.inl (false, 100)) := rfl
theorem a_40 : WD[40]? = some (.inl (false, 60)) := rfl
theorem a_43 : WD[43]? = some (.inl (false, 100)) := rfl
theorem a_44 : WD[44]? = some (.inl (false, 100)) := rfl
theorem a_45 : WD[45]? = some (.inl (false, 8)) := rfl
theorem a_46 : WD[46]? = some (.inl (false, 10)) := rfl
theorem a_47 : WD[47]? = some (.inl (false, 60)) := rfl
theorem a_48 : WD[48]? = some (.inl (false, 12)) := rfl
theorem a_50 : WD[50]? = some (.inl (false, 10)) := rfl
theorem a_51 : WD[51]? = some (.inl (false, 10)) := rfl
theorem a_52 : WD[52]? = some (.inl (false, 6)) := rfl
theorem a_53 : WD[53]? = some (.inl (false, 6)) := rfl
theorem a_54 : WD[54]? = some (.inl (false, 6)) := rfl
theorem a_55 : WD[55]? = some (.inl (false, 12)) := rfl
theorem a_56 : WD[56]? = some (.inl (false, 1024)) := rfl
theorem a_58 : WD[58]? = some (.inl (false, 159)) := rfl
theorem a_59 : WD[59]? = some (.inl (false, 159)) := rfl
theorem a_60 : WD[60]? = some (.inl (false, 159)) := rfl
theorem a_61 : WD[61]? = some (.inl (false, 10)) := rfl
theorem a_62 : WD[62]? = some (.inl (false, 10)) := rfl
theorem a_63 : WD[63]? = some (.inl (true, 260)) := rfl
theorem a_64 : WD[64]? = some (.inl (false, 260)) := rfl
theorem a_65 : WD[65]? = some (.inl (false, 260)) := rfl
theorem a_66 : WD[66]? = some (.inl (false, 16)) := rfl
theorem a_67 : WD[67]? = some (.inl (false, 16)) := rfl
theorem a_68 : WD[68]? = some (.inl (false, 16)) := rfl
theorem a_69 : WD[69]? = some (.inl (false, 16)) := rfl
theorem a_70 : WD[70]? = some (.inl (false, 260)) := rfl
theorem a_71 : WD[71]? = some (.inl (false, 16)) := rfl
theorem a_72 : WD[72]? = some (.inl (false, 16)) := rfl
theorem a_73 : WD[73]? = some (.inl (false, 16)) := rfl
theorem a_74 : WD[74]? = some (.inl (false, 16)) := rfl
theorem a_75 : WD[75]? = some (.inl (false, 260)) := rfl
theorem a_76 : WD[76]? = some (.inl (false, 8)) := rfl
theorem a_77 : WD[77]? = some (.inl (false, 100)) := rfl
theorem a_78 : WD[78]? = some (.inl (false, 60)) := rfl
theorem a_79 : WD[79]? = some (.inl (false, 2)) := rfl
theorem a_80 : WD[80]? = some (.inl (false, 2)) := rfl
theorem a_81 : WD[81]? = some (.inl (false, 2)) := rfl
theorem a_82 : WD[82]? = some (.inl (false, 100)) := rfl
theorem a_83 : WD[83]? = some (.inl (false, 60)) := rfl
theorem a_84 : WD[84]? = some (.inl (false, 12)) := rfl
theorem a_85 : WD[85]? = some (.inl (false, 12)) := rfl
theorem a_86 : WD[86]? = some (.inl (true, 40960)) := rfl
theorem a_87 : WD[87]? = some (.inl (false, 100)) := rfl
theorem a_88 : WD[88]? = some (.inl (false, 100)) := rfl
theorem a_89 : WD[89]? = some (.inl (false, 6)) := rfl
theorem a_90 : WD[90]? = some (.inl (false, 6)) := rfl
theorem a_91 : WD[91]? = some (.inl (false, 6)) := rfl
theorem a_92 : WD[92]? = some (.inl (false, 6)) := rfl
theorem a_93 : WD[93]? = some (.inl (false, 1024)) := rfl
theorem a_94 : WD[94]? = some (.inl (false, 1024)) := rfl
