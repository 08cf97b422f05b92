/-! rows: fields, arrays -/
theorem oc_clamp {a : Int} (h0 : 0 ≤ a) (h : inR a) : (Int32.ofInt a).toNatClampNeg = a.toNat := by
  show (Int32.ofInt a).toInt.toNat = a.toNat
  rw [oc_toInt h]
theorem oc_in {a : Int} {n : Nat} (h0 : 0 ≤ a) (h1 : a < n) (h : inR a) : vp_in (Int32.ofInt a) n := by
  intro q
  rcases q with q | q
  · have := (oc_lt h inR_0).mp q
    omega
  · rw [oc_clamp h0 h] at q
    omega
theorem oU_ne {M : oM} {o : Nat} {i v : Int} {o' : Nat} (h : o' ≠ o) : (oU M o i v) o' = M o' := by
  funext i'
  simp [oU, h]
theorem oU_in {M : oM} {o : Nat} {i v : Int} (hM : ∀ o i, inR (M o i)) (hv : inR v) : ∀ o' i', inR (oU M o i v o' i') := by
  intro o' i'
  unfold oU
  split
  · exact hv
  · exact hM o' i'
def oFl (own : String) (idx ci kf : Nat) (fin : Bool) (fty : FieldType) : Prop := ∃ (C : String) (T : u_T) (N : Nat) (ty : Nat → FieldType) (name desc : String), oCls ci C T N ty ∧ kf < N ∧ T kf = (C, name, desc, fin) ∧ parseFieldDescriptor desc = some fty ∧ (Cond.fieldLink own idx C name desc ∈ oT ∨ ∃ host, Cond.fieldLinkNest own idx C name desc host ∈ oTN)
theorem oCe_obj {ad : Nat → Nat} {cI cB : ClassId} {f : Int → Int} {ci : Nat} {fs : List (Option (Option Nat))} : oCe ad cI cB f (.inr (ci, fs)) = .inr (ci, fs.mapIdx (oFv ad f)) := rfl
theorem oFs_set {ad : Nat → Nat} {M : oM} {o kf : Nat} {ki v : Int} {fs : List (Option (Option Nat))} (hki : ((kf : Nat) : Int) = ki) (hk : fs[kf]? = some none) : (fs.mapIdx (oFv ad (M o))).set kf (.int (Int32.ofInt v)) = fs.mapIdx (oFv ad ((oU M o ki v) o)) := by
  apply List.ext_getElem?
  intro i
  by_cases hi : i = kf
  · subst hi
    rw [List.getElem?_set_self (by rw [List.length_mapIdx]; exact (List.getElem?_eq_some_iff.mp hk).1), List.getElem?_mapIdx, hk]
    simp [oFv, oU, hki]
  · rw [List.getElem?_set_ne (Ne.symm hi), List.getElem?_mapIdx, List.getElem?_mapIdx]
    cases hx : fs[i]? with
    | none => rfl
    | some x =>
      rcases x with _ | x
      · simp only [Option.map_some, oFv, oU]
        rw [if_neg (fun q => hi (by omega))]
      · rcases x with _ | x <;> rfl
section HEAP
variable {l : Launch} {mt : oMI} {E : oE} {k n pc : Nat} {lv st : List oV} {wd : oW} {M : oM}
theorem oj_getI {idx ci kf o : Nat} {ki : Int} {fin : Bool} {fty : FieldType} {fs : List (Option (Option Nat))} (hf : oFl mt.1.cls idx ci kf fin fty) (hw : wd[o]? = some (.inr (ci, fs))) (hk : fs[kf]? = some none) (hki : ((kf : Nat) : Int) = ki) (hd : decode mt.2.1 pc = .ok (.getfield idx, 3)) (h : oJ l mt E k n (pc + 3) lv (vi (M o ki) :: st) wd M) : oJ l mt E k n pc lv (vr o :: st) wd M := by
  intro p e R s m args below meth c A D cI cB Z n0 ad0 ad H locs ls C hH hl hR hg hn
  have hkk := h p e R s m args below meth c A D cI cB Z n0 ad0 ad H locs ls C hH hl ⟨hR.1, ⟨hR.2.2.1 _ _, hR.2.1.2⟩, hR.2.2⟩ hg hn
  obtain ⟨Cn, T, N, ty, name, desc, ⟨hc, hin, hty, hnm⟩, hkN, hT, hpd, hlk⟩ := hf
  have e1 : (T kf).2.1 = name := by rw [hT]
  have e2 : (T kf).2.2.1 = desc := by rw [hT]
  have e3 : (T kf).1 = Cn := by rw [hT]
  have hv : (fs.mapIdx (oFv ad (M o)))[kf]? = some (.int (Int32.ofInt (M o ki))) := by
    rw [List.getElem?_mapIdx, hk, ← hki]; rfl
  rcases hlk with hlk | ⟨host, hlk⟩
  · exact va_get (D := D) (C := Cn) (T := T) (N := N) (ref := Cn) (index := idx) C.1 C.2.1 C.2.2.2.2.1 hin C.2.2.2.1 C.2.2.2.2.2.2.1 hH.1 o (oCells_get hw) hc kf hkN (by rw [e1, e2]; exact C.2.2.2.2.1 _ hlk) (fun _ hx => by rw [e3] at hx; exact hx) hv hd hkk
  · exact va_getN (D := D) (C := Cn) (T := T) (N := N) (ref := Cn) (index := idx) (host := host) C.1 C.2.1 C.2.2.2.2.1 hin C.2.2.2.1 C.2.2.2.2.2.2.1 hH.1 o (oCells_get hw) hc kf hkN (by rw [e1, e2]; exact va_Nw.use rfl (C.2.2.2.2.2.2.2.2.1.2.2.2 _ hlk)) (fun _ hx => by rw [e3] at hx; exact hx) hv hd hkk
theorem oj_getR {idx ci kf o r : Nat} {fin : Bool} {fty : FieldType} {fs : List (Option (Option Nat))} (hf : oFl mt.1.cls idx ci kf fin fty) (hw : wd[o]? = some (.inr (ci, fs))) (hk : fs[kf]? = some (some (some r))) (hd : decode mt.2.1 pc = .ok (.getfield idx, 3)) (h : oJ l mt E k n (pc + 3) lv (vr r :: st) wd M) : oJ l mt E k n pc lv (vr o :: st) wd M := by
  intro p e R s m args below meth c A D cI cB Z n0 ad0 ad H locs ls C hH hl hR hg hn
  have hkk := h p e R s m args below meth c A D cI cB Z n0 ad0 ad H locs ls C hH hl ⟨hR.1, ⟨hR.2.2.2.2 o _ hw kf r hk, hR.2.1.2⟩, hR.2.2⟩ hg hn
  obtain ⟨Cn, T, N, ty, name, desc, ⟨hc, hin, hty, hnm⟩, hkN, hT, hpd, hlk⟩ := hf
  have e1 : (T kf).2.1 = name := by rw [hT]
  have e2 : (T kf).2.2.1 = desc := by rw [hT]
  have e3 : (T kf).1 = Cn := by rw [hT]
  have hv : (fs.mapIdx (oFv ad (M o)))[kf]? = some (.ref (ad r)) := by
    rw [List.getElem?_mapIdx, hk]; rfl
  rcases hlk with hlk | ⟨host, hlk⟩
  · exact va_get (D := D) (C := Cn) (T := T) (N := N) (ref := Cn) (index := idx) C.1 C.2.1 C.2.2.2.2.1 hin C.2.2.2.1 C.2.2.2.2.2.2.1 hH.1 o (oCells_get hw) hc kf hkN (by rw [e1, e2]; exact C.2.2.2.2.1 _ hlk) (fun _ hx => by rw [e3] at hx; exact hx) hv hd hkk
  · exact va_getN (D := D) (C := Cn) (T := T) (N := N) (ref := Cn) (index := idx) (host := host) C.1 C.2.1 C.2.2.2.2.1 hin C.2.2.2.1 C.2.2.2.2.2.2.1 hH.1 o (oCells_get hw) hc kf hkN (by rw [e1, e2]; exact va_Nw.use rfl (C.2.2.2.2.2.2.2.2.1.2.2.2 _ hlk)) (fun _ hx => by rw [e3] at hx; exact hx) hv hd hkk
theorem oj_put {idx ci kf o : Nat} {ki v : Int} {fty : FieldType} {fs : List (Option (Option Nat))} (hf : oFl mt.1.cls idx ci kf false fty) (hw : wd[o]? = some (.inr (ci, fs))) (hk : fs[kf]? = some none) (hki : ((kf : Nat) : Int) = ki) (hnr : narrow fty (.int (Int32.ofInt v)) = .int (Int32.ofInt v)) (hft : fits fty (.int (Int32.ofInt v)) = true) (hd : decode mt.2.1 pc = .ok (.putfield idx, 3)) (h : oJ l mt E k n (pc + 3) lv st wd (oU M o ki v)) : oJ l mt E k n pc lv (vi v :: vr o :: st) wd M := by
  intro p e R s m args below meth c A D cI cB Z n0 ad0 ad H locs ls C hH hl hR hg hn
  obtain ⟨Cn, T, N, ty, name, desc, ⟨hc, hin, hty, hnm⟩, hkN, hT, hpd, hlk⟩ := hf
  have e1 : (T kf).2.1 = name := by rw [hT]
  have e2 : (T kf).2.2.1 = desc := by rw [hT]
  have e3 : (T kf).1 = Cn := by rw [hT]
  have e4 : (T kf).2.2.2 = false := by rw [hT]
  have hset : (oCells ad cI cB wd M).set o (ad o, .inr (ci, (fs.mapIdx (oFv ad (M o))).set kf (.int (Int32.ofInt v)))) = oCells ad cI cB wd (oU M o ki v) :=
    oCells_set (M' := oU M o ki v) hw (by rw [oCe_obj, oFs_set hki hk]) (fun o' ho => oU_ne ho)
  have hlen : kf < (fs.mapIdx (oFv ad (M o))).length := by rw [List.length_mapIdx]; exact (List.getElem?_eq_some_iff.mp hk).1
  have hkk : ∀ (H1 : Heap) (locs1 : List Loc), va_P D vwCl ((oCells ad cI cB wd M).set o (ad o, .inr (ci, (fs.mapIdx (oFv ad (M o))).set kf (.int (Int32.ofInt v))))) H1 → va_D A ((oCells ad cI cB wd M).set o (ad o, .inr (ci, (fs.mapIdx (oFv ad (M o))).set kf (.int (Int32.ofInt v))))) → va_S A s.heap H1 locs1 → W p l e R s m args below meth c H1 locs1 k n Z (F0 m (pc + 3) ls (st.map (rlv ad))) := by
    intro H1 locs1 h1 h2 h3
    rw [hset] at h1 h2
    exact h p e R s m args below meth c A D cI cB Z n0 ad0 ad H1 locs1 ls C ⟨h1, h2, h3⟩ hl ⟨hR.1, hR.2.1.2.2, oU_in hR.2.2.1 hR.2.1.1, hR.2.2.2⟩ hg hn
  rcases hlk with hlk | ⟨host, hlk⟩
  · exact va_put (D := D) (C := Cn) (T := T) (N := N) (ref := Cn) (index := idx) (ty := fty) C.1 C.2.1 C.2.2.2.2.1 hin ty hty hnm C.2.2.2.1 C.2.2.2.2.2.2.1 hH.1 hH.2.1 hH.2.2 o (oCells_get hw) hc kf hkN (by rw [e1, e2]; exact C.2.2.2.2.1 _ hlk) (fun _ hx => by rw [e3] at hx; exact hx) e4 (by rw [e2]; exact hpd) hnr hft hlen hd hkk
  · exact va_putN (D := D) (C := Cn) (T := T) (N := N) (ref := Cn) (index := idx) (host := host) (ty := fty) C.1 C.2.1 C.2.2.2.2.1 hin ty hty hnm C.2.2.2.1 C.2.2.2.2.2.2.1 hH.1 hH.2.1 hH.2.2 o (oCells_get hw) hc kf hkN (by rw [e1, e2]; exact va_Nw.use rfl (C.2.2.2.2.2.2.2.2.1.2.2.2 _ hlk)) (fun _ hx => by rw [e3] at hx; exact hx) e4 (by rw [e2]; exact hpd) hnr hft hlen hd hkk
theorem oj_putI {idx ci kf o : Nat} {ki v : Int} {fs : List (Option (Option Nat))} (hf : oFl mt.1.cls idx ci kf false .int) (hw : wd[o]? = some (.inr (ci, fs))) (hk : fs[kf]? = some none) (hki : ((kf : Nat) : Int) = ki) (hd : decode mt.2.1 pc = .ok (.putfield idx, 3)) (h : oJ l mt E k n (pc + 3) lv st wd (oU M o ki v)) : oJ l mt E k n pc lv (vi v :: vr o :: st) wd M := oj_put hf hw hk hki rfl rfl hd h
theorem oc_nz {v : Int} (h0 : 0 ≤ v) (h1 : v < 2) : narrow .boolean (.int (Int32.ofInt v)) = .int (Int32.ofInt v) := by
  rcases (show v = 0 ∨ v = 1 by omega) with rfl | rfl <;> rfl
theorem oc_fz {v : Int} (h0 : 0 ≤ v) (h1 : v < 2) : fits .boolean (.int (Int32.ofInt v)) = true := by
  rcases (show v = 0 ∨ v = 1 by omega) with rfl | rfl <;> rfl
theorem oj_putZ {α : Type} {K : α → Prop} {f : Int → Option α} {idx ci kf o : Nat} {ki v : Int} {fs : List (Option (Option Nat))} (hf : oFl mt.1.cls idx ci kf false .boolean) (hw : wd[o]? = some (.inr (ci, fs))) (hk : fs[kf]? = some none) (hki : ((kf : Nat) : Int) = ki) (hd : decode mt.2.1 pc = .ok (.putfield idx, 3)) (hK : okp (bnd 2 v f) K) (h : okp (f v) K → oJ l mt E k n (pc + 3) lv st wd (oU M o ki v)) : oJ l mt E k n pc lv (vi v :: vr o :: st) wd M := by
  obtain ⟨h0, h1, hK⟩ := okp_bnd hK
  exact oj_put hf hw hk hki (oc_nz h0 h1) (oc_fz h0 h1) hd (h hK)
theorem oj_iald {α : Type} {K : α → Prop} {f : Int → Option α} {o N : Nat} {NN a : Int} (hw : wd[o]? = some (.inl (false, N))) (hNN : ((N : Nat) : Int) = NN) (hd : decode mt.2.1 pc = .ok (.iaload, 1)) (hK : okp (bnd NN a f) K) (h : okp (f a) K → oJ l mt E k n (pc + 1) lv (vi (M o a) :: st) wd M) : oJ l mt E k n pc lv (vi a :: vr o :: st) wd M := by
  obtain ⟨h0, h1, hK⟩ := okp_bnd hK
  intro p e R s m args below meth c A D cI cB Z n0 ad0 ad H locs ls C hH hl hR hg hn
  have ha := hR.2.1.1
  have hkk := h hK p e R s m args below meth c A D cI cB Z n0 ad0 ad H locs ls C hH hl ⟨hR.1, ⟨hR.2.2.1 _ _, hR.2.1.2.2⟩, hR.2.2⟩ hg hn
  refine va_iald C.1 C.2.1 C.2.2.2.2.2.2.1 hH.1 o 0 (oCells_get hw) rfl (oc_in h0 (by omega) ha) hd ?_
  rw [oc_clamp h0 ha, Int.toNat_of_nonneg h0]
  exact hkk
theorem oj_bald {α : Type} {K : α → Prop} {f : Int → Option α} {o N : Nat} {NN a : Int} (hw : wd[o]? = some (.inl (true, N))) (hNN : ((N : Nat) : Int) = NN) (hd : decode mt.2.1 pc = .ok (.baload, 1)) (hK : okp (bnd NN a f) K) (h : okp (f a) K → oJ l mt E k n (pc + 1) lv (vi (M o a) :: st) wd M) : oJ l mt E k n pc lv (vi a :: vr o :: st) wd M := by
  obtain ⟨h0, h1, hK⟩ := okp_bnd hK
  intro p e R s m args below meth c A D cI cB Z n0 ad0 ad H locs ls C hH hl hR hg hn
  have ha := hR.2.1.1
  have hkk := h hK p e R s m args below meth c A D cI cB Z n0 ad0 ad H locs ls C hH hl ⟨hR.1, ⟨hR.2.2.1 _ _, hR.2.1.2.2⟩, hR.2.2⟩ hg hn
  refine va_bald C.1 C.2.1 C.2.2.2.2.2.2.1 hH.1 o 1 (oCells_get hw) rfl (oc_in h0 (by omega) ha) hd ?_
  rw [oc_clamp h0 ha, Int.toNat_of_nonneg h0]
  exact hkk
theorem oA_set {M : oM} {o : Nat} {a v : Int} (h0 : 0 ≤ a) : upd (fun q : Nat => Int32.ofInt (M o q)) a.toNat (Int32.ofInt v) = fun q : Nat => Int32.ofInt ((oU M o a v) o q) := by
  funext q
  unfold upd oU
  by_cases hq : q = a.toNat
  · rw [if_pos hq, if_pos ⟨rfl, by omega⟩]
  · rw [if_neg hq, if_neg (fun z => hq (by omega))]
theorem oj_iast {α : Type} {K : α → Prop} {f : Int → Option α} {o N : Nat} {NN a v : Int} (hw : wd[o]? = some (.inl (false, N))) (hNN : ((N : Nat) : Int) = NN) (hd : decode mt.2.1 pc = .ok (.iastore, 1)) (hK : okp (bnd NN a f) K) (h : okp (f a) K → oJ l mt E k n (pc + 1) lv st wd (oU M o a v)) : oJ l mt E k n pc lv (vi v :: vi a :: vr o :: st) wd M := by
  obtain ⟨h0, h1, hK⟩ := okp_bnd hK
  intro p e R s m args below meth c A D cI cB Z n0 ad0 ad H locs ls C hH hl hR hg hn
  have ha := hR.2.1.2.1
  refine va_iast C.1 C.2.1 C.2.2.2.2.2.2.1 hH.1 hH.2.1 hH.2.2 o 0 (oCells_get hw) rfl (oc_in h0 (by omega) ha) hd (fun H1 locs1 h1 h2 h3 => ?_)
  have hset : (oCells ad cI cB wd M).set o (ad o, .inl (if false = true then cB else cI, N, .inl (upd (fun q : Nat => Int32.ofInt (M o q)) (Int32.ofInt a).toNatClampNeg (Int32.ofInt v)))) = oCells ad cI cB wd (oU M o a v) :=
    oCells_set (M' := oU M o a v) hw (by rw [oc_clamp h0 ha, oA_set h0]; rfl) (fun o' ho => oU_ne ho)
  have h1 := hset ▸ h1
  have h2 := hset ▸ h2
  exact h hK p e R s m args below meth c A D cI cB Z n0 ad0 ad H1 locs1 ls C ⟨h1, h2, h3⟩ hl ⟨hR.1, hR.2.1.2.2.2, oU_in hR.2.2.1 hR.2.1.1, hR.2.2.2⟩ hg hn
theorem oj_bast {α : Type} {K : α → Prop} {f : Int → Option α} {o N : Nat} {NN a v : Int} (hw : wd[o]? = some (.inl (true, N))) (hNN : ((N : Nat) : Int) = NN) (hd : decode mt.2.1 pc = .ok (.bastore, 1)) (hK : okp (bnd NN a f) K) (h : okp (f a) K → oJ l mt E k n (pc + 1) lv st wd (oU M o a (i2b v))) : oJ l mt E k n pc lv (vi v :: vi a :: vr o :: st) wd M := by
  obtain ⟨h0, h1, hK⟩ := okp_bnd hK
  intro p e R s m args below meth c A D cI cB Z n0 ad0 ad H locs ls C hH hl hR hg hn
  have ha := hR.2.1.2.1
  refine va_bast C.1 C.2.1 C.2.2.2.2.2.2.1 hH.1 hH.2.1 hH.2.2 o 1 (oCells_get hw) rfl (oc_in h0 (by omega) ha) hd (fun H1 locs1 h1 h2 h3 => ?_)
  have hset : (oCells ad cI cB wd M).set o (ad o, .inl (if true = true then cB else cI, N, .inl (upd (fun q : Nat => Int32.ofInt (M o q)) (Int32.ofInt a).toNatClampNeg (vp_nar .byte (Int32.ofInt v))))) = oCells ad cI cB wd (oU M o a (i2b v)) :=
    oCells_set (M' := oU M o a (i2b v)) hw (by rw [oc_clamp h0 ha, vp_nar_byte, show (Int32.ofInt v).toInt8.toInt32 = Int32.ofInt (i2b v) from by unfold i2b; rw [Int32.ofInt_toInt], oA_set h0]; rfl) (fun o' ho => oU_ne ho)
  have h1 := hset ▸ h1
  have h2 := hset ▸ h2
  exact h hK p e R s m args below meth c A D cI cB Z n0 ad0 ad H1 locs1 ls C ⟨h1, h2, h3⟩ hl ⟨hR.1, hR.2.1.2.2.2, oU_in hR.2.2.1 (inR_toInt _), hR.2.2.2⟩ hg hn
theorem oj_alen {o N : Nat} {b : Bool} {NN : Int} (hw : wd[o]? = some (.inl (b, N))) (hNN : ((N : Nat) : Int) = NN) (hN : NN < 2147483648) (hd : decode mt.2.1 pc = .ok (.arraylength, 1)) (h : oJ l mt E k n (pc + 1) lv (vi NN :: st) wd M) : oJ l mt E k n pc lv (vr o :: st) wd M := by
  intro p e R s m args below meth c A D cI cB Z n0 ad0 ad H locs ls C hH hl hR hg hn
  have hkk := h p e R s m args below meth c A D cI cB Z n0 ad0 ad H locs ls C hH hl ⟨hR.1, ⟨⟨by omega, hN⟩, hR.2.1.2⟩, hR.2.2⟩ hg hn
  cases b with
  | false => exact va_alen C.1 C.2.1 C.2.2.2.2.2.2.1 hH.1 o 0 (oCells_get hw) rfl (by show Int32.ofNat N = Int32.ofInt NN; rw [← hNN, Int32.ofInt_eq_ofNat]) hd hkk
  | true => exact va_alen C.1 C.2.1 C.2.2.2.2.2.2.1 hH.1 o 1 (oCells_get hw) rfl (by show Int32.ofNat N = Int32.ofInt NN; rw [← hNN, Int32.ofInt_eq_ofNat]) hd hkk
theorem oj_iret {r : Int} {ty : FieldType} (hd : decode mt.2.1 pc = .ok (.ireturn, 1)) (hr : mt.2.2.2 = some ty) (hn : narrow ty (.int (Int32.ofInt r)) = .int (Int32.ofInt r)) (hk : k ≤ E.2.1) (hn' : n ≤ E.2.2.1) (hq : E.2.2.2.2 r wd M) : oJ l mt E k n pc lv [vi r] wd M := by
  intro p e R s m args below meth c A D cI cB Z n0 ad0 ad H locs ls C hH hl hR hg hnn
  refine W.widen hk hn' ?_
  exact ((C.2.2.2.2.2.2.2.2.2.2.2) r wd M ad H locs pc ls hq hH ⟨trivial, trivial, hR.2.2⟩ hg hnn).2 ty hr hR.2.1.1 hn hd
theorem oj_zret {α : Type} {K : α → Prop} {f : Int → Option α} {r : Int} (hd : decode mt.2.1 pc = .ok (.ireturn, 1)) (hr : mt.2.2.2 = some .boolean) (hk : k ≤ E.2.1) (hn' : n ≤ E.2.2.1) (hK : okp (bnd 2 r f) K) (hq : okp (f r) K → E.2.2.2.2 r wd M) : oJ l mt E k n pc lv [vi r] wd M := by
  obtain ⟨h0, h1, hK⟩ := okp_bnd hK
  exact oj_iret hd hr (oc_nz h0 h1) hk hn' (hq hK)
theorem oj_vret (hd : decode mt.2.1 pc = .ok (.return_, 1)) (hr : mt.2.2.2 = none) (hk : k ≤ E.2.1) (hn' : n ≤ E.2.2.1) (hq : E.2.2.2.2 0 wd M) : oJ l mt E k n pc lv [] wd M := by
  intro p e R s m args below meth c A D cI cB Z n0 ad0 ad H locs ls C hH hl hR hg hnn
  refine W.widen hk hn' ?_
  exact ((C.2.2.2.2.2.2.2.2.2.2.2) 0 wd M ad H locs pc ls hq hH ⟨trivial, trivial, hR.2.2⟩ hg hnn).1 hr rfl hd
end HEAP
