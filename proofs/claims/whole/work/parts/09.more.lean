/-! rows: new cells, constructors, copies, constants, switches, the script, the text constant -/
def oZ (M : oM) (n : Nat) : oM := fun o i => if o = n then 0 else M o i
def acopy (M : oM) (src : Nat) (sp : Int) (dst : Nat) (dp n : Int) : oM := fun o i => if o = dst ∧ dp ≤ i ∧ i < dp + n then M src (sp + (i - dp)) else M o i
def cpg {α : Type} (n0 n1 sp dp n : Int) (k : Int → Option α) : Option α := if 0 ≤ sp ∧ 0 ≤ dp ∧ 0 ≤ n ∧ sp + n ≤ n0 ∧ dp + n ≤ n1 then k 0 else none
theorem okp_cpg {α : Type} {n0 n1 sp dp n : Int} {k : Int → Option α} {K : α → Prop} (h : okp (cpg n0 n1 sp dp n k) K) : (0 ≤ sp ∧ 0 ≤ dp ∧ 0 ≤ n ∧ sp + n ≤ n0 ∧ dp + n ≤ n1) ∧ okp (k 0) K := by
  unfold cpg at h
  split at h
  · rename_i c; exact ⟨c, h⟩
  · exact h.elim
def oAd (ad : Nat → Nat) (n q : Nat) : Nat → Nat := fun o => if o = n then q else ad o
theorem oAd_ag {ad : Nat → Nat} {n q : Nat} (hn : n < 1000) : ∀ o, o < n ∨ 1000 ≤ o → oAd ad n q o = ad o := by
  intro o ho
  unfold oAd
  rw [if_neg (by omega)]
theorem oFv_ag {ad ad' : Nat → Nat} {len : Nat} {f : Int → Int} {k : Nat} (hag : ∀ o, o < len ∨ 1000 ≤ o → ad' o = ad o) {x : Option (Option Nat)} (hx : ∀ r, x = some (some r) → r < len ∨ 1000 ≤ r) : oFv ad' f k x = oFv ad f k x := by
  rcases x with _ | x
  · rfl
  · rcases x with _ | r
    · rfl
    · show Value.ref _ = Value.ref _
      rw [hag r (hx r rfl)]
theorem oCe_ag {ad ad' : Nat → Nat} {cI cB : ClassId} {len : Nat} {f : Int → Int} (hag : ∀ o, o < len ∨ 1000 ≤ o → ad' o = ad o) {sh : oSh} (hs : okSh len sh) : oCe ad' cI cB f sh = oCe ad cI cB f sh := by
  rcases sh with ⟨b, n⟩ | ⟨ci, fs⟩
  · rfl
  · show Sum.inr _ = Sum.inr _
    congr 2
    apply List.ext_getElem?
    intro i
    rw [List.getElem?_mapIdx, List.getElem?_mapIdx]
    cases hx : fs[i]? with
    | none => rfl
    | some x => exact congrArg some (oFv_ag hag (fun r hr => hs i r (by rw [hx, hr])))
theorem oCells_app {ad : Nat → Nat} {cI cB : ClassId} {wd : oW} {M : oM} {sh : oSh} {q : Nat} (hlen : wd.length < 1000) (hwd : ∀ (k : Nat) (sh : oSh), wd[k]? = some sh → okSh wd.length sh) : oCells (oAd ad wd.length q) cI cB (wd ++ [sh]) (oZ M wd.length) = oCells ad cI cB wd M ++ [(q, oCe (oAd ad wd.length q) cI cB (fun _ => 0) sh)] := by
  apply List.ext_getElem?
  intro i
  unfold oCells
  rcases Nat.lt_or_ge i wd.length with hi | hi
  · rw [List.getElem?_mapIdx, List.getElem?_append_left hi, List.getElem?_append_left (by rw [List.length_mapIdx]; exact hi), List.getElem?_mapIdx]
    cases hx : wd[i]? with
    | none => rfl
    | some x =>
      simp only [Option.map_some]
      rw [oCe_ag (oAd_ag hlen) (hwd i x hx), oAd_ag hlen i (Or.inl hi)]
      congr 3
      funext j
      unfold oZ
      rw [if_neg (by omega)]
  · rw [List.getElem?_mapIdx, List.getElem?_append_right hi, List.getElem?_append_right (by rw [List.length_mapIdx]; exact hi), List.length_mapIdx]
    cases hj : i - wd.length with
    | zero =>
      have he : i = wd.length := by omega
      subst he
      simp only [List.getElem?_cons_zero, Option.map_some, oAd, if_true]
      congr 3
      funext j
      simp [oZ]
    | succ j => simp
def oDf : Option (Option (Option Nat)) → Value
  | some none => .int 0
  | _ => .null
def oFp (own : String) (idx ci kf : Nat) (fty : FieldType) : Prop := ∃ (C : String) (T : u_T) (N : Nat) (ty : Nat → FieldType) (name desc : String), oCls ci C T N ty ∧ kf < N ∧ T kf = (C, name, desc, true) ∧ parseFieldDescriptor desc = some fty ∧ Cond.fieldLink own idx C name desc ∈ oT
section MORE
variable {l : Launch} {mt : oMI} {E : oE} {k n pc : Nat} {lv st : List oV} {wd : oW} {M : oM}
theorem oj_new {idx ci N : Nat} {C : String} {T : u_T} {ty : Nat → FieldType} {fs : List (Option (Option Nat))} (hc : oCls ci C T N ty) (hcl : Cond.classLink mt.1.cls idx C ∈ oT) (hins : Cond.instantiable C N ∈ oT) (hini : Cond.initialized C ∈ oT) (hfs : ∀ j, j < N → defaultValue (ty j) = oDf fs[j]?) (hnr : ∀ x ∈ fs, x = none ∨ x = some none) (hlen : wd.length + 1 < 1000) (h1 : k + 1 ≤ E.2.1) (h2 : n + N ≤ E.2.2.1) (hd : decode mt.2.1 pc = .ok (.new idx, 3))
    (h : oJ l mt E (k + 1) (n + N) (pc + 3) lv (vr wd.length :: st) (wd ++ [.inr (ci, fs)]) (oZ M wd.length)) : oJ l mt E k n pc lv st wd M := by
  obtain ⟨hcc, hin, hty, hnm⟩ := hc
  intro p e R s m args below meth c A D cI cB Z n0 ad0 ad H locs ls Cx hH hl hR hg hn
  have hts := Cx.2.2.2.2.1
  have hag : ∀ q o, o < wd.length ∨ 1000 ≤ o → oAd ad wd.length q o = ad o := fun q => oAd_ag (by omega)
  have hfv : ∀ (ad' : Nat → Nat) (j : Nat), j < N → defaultValue (ty j) = vp_V (fs.mapIdx (oFv ad' (fun _ => 0))) j := by
    intro ad' j hj
    rw [hfs j hj]
    unfold vp_V
    rw [List.getD_eq_getElem?_getD, List.getElem?_mapIdx]
    cases hx : fs[j]? with
    | none => rfl
    | some x =>
      rcases hnr x (List.mem_of_getElem? hx) with rfl | rfl <;> rfl
  refine va_new (D := D) (ci := ci) (fs := fs.mapIdx (oFv ad (fun _ => 0))) (C := C) (T := T) (N := N) (index := idx) Cx.1 Cx.2.1 hts hin ty hty Cx.2.2.2.1 (hts _ hcl) (hts _ hins) (hts _ hini) Cx.2.2.2.2.2.2.1 hH.1 hH.2.1 hH.2.2 Cx.2.2.2.2.2.2.2.1 hcc (hfv ad) (by have := Cx.2.2.2.2.2.1; omega) (by have := Cx.2.2.2.2.2.1; omega) hd (fun q H1 hP1 hD1 hS1 => ?_)
  have e1 : fs.mapIdx (oFv ad (fun _ => 0)) = fs.mapIdx (oFv (oAd ad wd.length q) (fun _ => 0)) := by
    apply List.ext_getElem?
    intro i
    rw [List.getElem?_mapIdx, List.getElem?_mapIdx]
    cases hx : fs[i]? with
    | none => rfl
    | some x => rcases hnr x (List.mem_of_getElem? hx) with rfl | rfl <;> rfl
  have e2 := oCells_app (ad := ad) (cI := cI) (cB := cB) (M := M) (sh := .inr (ci, fs)) (q := q) hR.2.2.2.1 hR.2.2.2.2
  rw [oCe_obj, ← e1] at e2
  rw [← e2] at hP1 hD1
  have hwl : (wd ++ [(.inr (ci, fs) : oSh)]).length = wd.length + 1 := by simp
  have key := h p e R s m args below meth c A D cI cB Z n0 ad0 (oAd ad wd.length q) H1 locs ls Cx ⟨hP1, hD1, hS1⟩ (oLv_ag (hag q) hR.1 hl) ⟨by rw [hwl]; exact oks_mono (Nat.le_succ _) hR.1, ⟨by show wd.length < _ ∨ _; rw [hwl]; exact Or.inl (Nat.lt_succ_self _), by rw [hwl]; exact oks_mono (Nat.le_succ _) hR.2.1⟩, fun o i => by unfold oZ; split; exact inR_0; exact hR.2.2.1 o i, by rw [hwl]; exact hlen, fun i sh hi => by
    rw [hwl]
    rcases Nat.lt_or_ge i wd.length with q1 | q1
    · rw [List.getElem?_append_left q1] at hi
      have q2 := hR.2.2.2.2 i sh hi
      rcases sh with sh | ⟨ci', fs'⟩
      · trivial
      · exact fun k r hk => (q2 k r hk).elim (fun z => Or.inl (by omega)) Or.inr
    · rw [List.getElem?_append_right q1] at hi
      cases hz : i - wd.length with
      | zero =>
        rw [hz] at hi
        cases hi
        intro k r hk
        rcases hnr _ (List.mem_of_getElem? hk) with q3 | q3 <;> cases q3
      | succ z => rw [hz] at hi; simp at hi⟩ (fun o ho => by rw [hag q o (ho.elim (fun z => Or.inl (by omega)) Or.inr), hg o ho]) (by rw [hwl]; omega)
  rw [List.map_cons, rlv_agrees (hag q) hR.2.1] at key
  have e3 : rlv (oAd ad wd.length q) (vr wd.length) = .ref q := by
    show Value.ref _ = _
    unfold oAd
    rw [if_pos rfl]
  rw [e3] at key
  exact key
theorem oj_newa {b : Bool} {aty : ArrayType} {N : Nat} {NN : Int} (hb : (aty = .int ∧ b = false) ∨ (aty = .byte ∧ b = true)) (harr : Cond.arrayClass (newarray.typeOf aty) ∈ oT) (hNN : ((N : Nat) : Int) = NN) (hlen : wd.length + 1 < 1000) (hN : N ≤ 100000) (h1 : k + 1 ≤ E.2.1) (h2 : n + N ≤ E.2.2.1) (hd : decode mt.2.1 pc = .ok (.newarray aty, 2))
    (h : oJ l mt E (k + 1) (n + N) (pc + 2) lv (vr wd.length :: st) (wd ++ [.inl (b, N)]) (oZ M wd.length)) : oJ l mt E k n pc lv (vi NN :: st) wd M := by
  intro p e R s m args below meth c A D cI cB Z n0 ad0 ad H locs ls Cx hH hl hR hg hn
  have hts := Cx.2.2.2.2.1
  have hag : ∀ q o, o < wd.length ∨ 1000 ≤ o → oAd ad wd.length q o = ad o := fun q => oAd_ag (by omega)
  have hcl : (Int32.ofInt NN).toNatClampNeg = N := by rw [oc_clamp (by omega) hR.2.1.1]; omega
  have hneg : ¬ Int32.ofInt NN < 0 := fun z => by have := (oc_lt hR.2.1.1 inR_0).mp z; omega
  have hdef : ∀ cA : ClassId, vp_cell cA (N, .inl (fun _ => Int32.ofInt 0)) = arrV cA N (fun _ => defaultValue (newarray.typeOf aty)) := by
    intro cA
    rcases hb with ⟨rfl, rfl⟩ | ⟨rfl, rfl⟩ <;> rfl
  have hby : N * componentBytes (newarray.typeOf aty) ≤ 536870912 := by
    rcases hb with ⟨rfl, rfl⟩ | ⟨rfl, rfl⟩
    · show N * 4 ≤ _; omega
    · show N * 1 ≤ _; omega
  refine va_newa (D := D) (ty := newarray.typeOf aty) (N' := N) (a0 := (N, .inl (fun _ => Int32.ofInt 0))) Cx.1 Cx.2.1 (hts _ harr) rfl Cx.2.2.2.2.2.2.1 hH.1 hH.2.1 hH.2.2 Cx.2.2.2.2.2.2.2.1 hdef hneg hcl hby (by have := Cx.2.2.2.2.2.1; omega) (by have := Cx.2.2.2.2.2.1; omega) hd (fun q cA H1 hK1 hP1 hD1 hS1 => ?_)
  have hcA : cA = if b then cB else cI := by
    have q2 := (hK1.2 2 (cA, newarray.typeOf aty) rfl).2
    rcases hb with ⟨rfl, rfl⟩ | ⟨rfl, rfl⟩
    · have q1 := (Cx.2.2.2.2.2.2.1.2 0 (cI, .int) rfl).2
      exact Option.some.inj (q2.symm.trans q1)
    · have q1 := (Cx.2.2.2.2.2.2.1.2 1 (cB, .byte) rfl).2
      exact Option.some.inj (q2.symm.trans q1)
  have e2 := oCells_app (ad := ad) (cI := cI) (cB := cB) (M := M) (sh := .inl (b, N)) (q := q) hR.2.2.2.1 hR.2.2.2.2
  have e4 : oCe (oAd ad wd.length q) cI cB (fun _ => 0) (.inl (b, N)) = .inl (cA, N, .inl (fun _ => Int32.ofInt 0)) := by rw [hcA]; rfl
  rw [e4] at e2
  rw [← e2] at hP1 hD1
  have hwl : (wd ++ [(.inl (b, N) : oSh)]).length = wd.length + 1 := by simp
  have key := h p e R s m args below meth c A D cI cB Z n0 ad0 (oAd ad wd.length q) H1 locs ls Cx ⟨hP1, hD1, hS1⟩ (oLv_ag (hag q) hR.1 hl) ⟨by rw [hwl]; exact oks_mono (Nat.le_succ _) hR.1, ⟨by show wd.length < _ ∨ _; rw [hwl]; exact Or.inl (Nat.lt_succ_self _), by rw [hwl]; exact oks_mono (Nat.le_succ _) hR.2.1.2⟩, fun o i => by unfold oZ; split; exact inR_0; exact hR.2.2.1 o i, by rw [hwl]; exact hlen, fun i sh hi => by
    rw [hwl]
    rcases Nat.lt_or_ge i wd.length with q1 | q1
    · rw [List.getElem?_append_left q1] at hi
      have q2 := hR.2.2.2.2 i sh hi
      rcases sh with sh | ⟨ci', fs'⟩
      · trivial
      · exact fun k r hk => (q2 k r hk).elim (fun z => Or.inl (by omega)) Or.inr
    · rw [List.getElem?_append_right q1] at hi
      cases hz : i - wd.length with
      | zero =>
        rw [hz] at hi
        cases hi
        trivial
      | succ z => rw [hz] at hi; simp at hi⟩ (fun o ho => by rw [hag q o (ho.elim (fun z => Or.inl (by omega)) Or.inr), hg o ho]) (by rw [hwl]; omega)
  rw [List.map_cons, rlv_agrees (hag q) hR.2.1.2] at key
  have e3 : rlv (oAd ad wd.length q) (vr wd.length) = .ref q := by
    show Value.ref _ = _
    unfold oAd
    rw [if_pos rfl]
  rw [e3] at key
  exact key
theorem oj_objInit {idx o : Nat} (hl1 : Cond.methodLink mt.1.cls idx Lib.objectInit ∈ oT) (hin : Cond.instanceMethod Lib.objectInit ∈ oT) (hco : Cond.code Lib.objectInit ⟨#[0xb1]⟩ 1 none ∈ oT) (hsl : st.length ≤ 8) (hdep : 1 ≤ E.1) (hd : decode mt.2.1 pc = .ok (.invokespecial idx, 3)) (h : oJ l mt E k n (pc + 3) lv st wd M) : oJ l mt E k n pc lv (vr o :: st) wd M := by
  intro p e R s m args below meth c A D cI cB Z n0 ad0 ad H locs ls Cx hH hl hR hg hn
  have hts := Cx.2.2.2.2.1
  refine W.objInit (a := ad o) (rest := st.map (rlv ad)) Cx.1 Cx.2.1 Cx.2.2.2.1 (hts _ hl1) (hts _ hin) (hts _ hco) rfl (by rw [Cx.2.2.1]; exact hl.1) rfl hd (by have := Cx.2.2.2.2.2.1; omega) (by rw [oSt_sum]; show 2 * 0 + _ + 12 ≤ _; have := Cx.2.2.2.2.2.1; omega) ?_
  exact h p e R s m args below meth c A D cI cB Z n0 ad0 ad H locs ls Cx hH hl ⟨hR.1, hR.2.1.2, hR.2.2⟩ hg hn
theorem oj_putF {idx ci kf o r : Nat} {fty : FieldType} {fs : List (Option (Option Nat))} (hf : oFp mt.1.cls idx ci kf fty) (hdecl : ∃ q : vw_C, vwCl[ci]? = some q ∧ q.1 = mt.1.cls) (hinit : mt.1.name = "<init>") (hw : wd[o]? = some (.inr (ci, fs))) (hk : kf < fs.length) (hft : narrow fty (.ref 0) = .ref 0 ∧ ∀ a, narrow fty (.ref a) = .ref a ∧ fits fty (.ref a) = true) (hd : decode mt.2.1 pc = .ok (.putfield idx, 3)) (h : oJ l mt E k n (pc + 3) lv st (wd.set o (.inr (ci, fs.set kf (some (some r))))) M) : oJ l mt E k n pc lv (vr r :: vr o :: st) wd M := by
  intro p e R s m args below meth c A D cI cB Z n0 ad0 ad H locs ls C hH hl hR hg hn
  obtain ⟨Cn, T, N, ty, name, desc, ⟨hc, hin, hty, hnm⟩, hkN, hT, hpd, hlk⟩ := hf
  have e1 : (T kf).2.1 = name := by rw [hT]
  have e2 : (T kf).2.2.1 = desc := by rw [hT]
  have e3 : (T kf).1 = Cn := by rw [hT]
  have e4 : (T kf).2.2.2 = true := by rw [hT]
  obtain ⟨q, hq1, hq2⟩ := hdecl
  have e5 : Cn = mt.1.cls := by rw [hc] at hq1; cases hq1; exact hq2
  have hol : o < wd.length := (List.getElem?_eq_some_iff.mp hw).1
  have hx : (fs.mapIdx (oFv ad (M o))).set kf (.ref (ad r)) = (fs.set kf (some (some r))).mapIdx (oFv ad (M o)) := by
    apply List.ext_getElem?
    intro i
    by_cases hi : i = kf
    · subst hi
      rw [List.getElem?_set_self (by rw [List.length_mapIdx]; exact hk), List.getElem?_mapIdx, List.getElem?_set_self hk]; rfl
    · rw [List.getElem?_set_ne (Ne.symm hi), List.getElem?_mapIdx, List.getElem?_mapIdx, List.getElem?_set_ne (Ne.symm hi)]
  have hset : (oCells ad cI cB wd M).set o (ad o, .inr (ci, (fs.mapIdx (oFv ad (M o))).set kf (.ref (ad r)))) = oCells ad cI cB (wd.set o (.inr (ci, fs.set kf (some (some r))))) M :=
    oCells_sh hol (by rw [hx]; rfl)
  have hlen : kf < (fs.mapIdx (oFv ad (M o))).length := by rw [List.length_mapIdx]; exact hk
  have hrok := hR.2.1.1
  have hkk : ∀ (H1 : Heap) (locs1 : List Loc), va_P D vwCl ((oCells ad cI cB wd M).set o (ad o, .inr (ci, (fs.mapIdx (oFv ad (M o))).set kf (.ref (ad r))))) H1 → va_D A ((oCells ad cI cB wd M).set o (ad o, .inr (ci, (fs.mapIdx (oFv ad (M o))).set kf (.ref (ad r))))) → va_S A s.heap H1 locs1 → W p l e R s m args below meth c H1 locs1 k n Z (F0 m (pc + 3) ls (st.map (rlv ad))) := by
    intro H1 locs1 h1 h2 h3
    rw [hset] at h1 h2
    refine h p e R s m args below meth c A D cI cB Z n0 ad0 ad H1 locs1 ls C ⟨h1, h2, h3⟩ hl ⟨by rw [List.length_set]; exact hR.1, by rw [List.length_set]; exact hR.2.1.2.2, hR.2.2.1, by rw [List.length_set]; exact hR.2.2.2.1, fun i sh hi => ?_⟩ hg (by rw [List.length_set]; exact hn)
    rw [List.length_set]
    by_cases hio : i = o
    · subst hio
      rw [List.getElem?_set_self hol] at hi
      cases hi
      intro j r' hj
      by_cases hjk : j = kf
      · subst hjk
        rw [List.getElem?_set_self hk] at hj
        cases hj
        exact hrok
      · rw [List.getElem?_set_ne (Ne.symm hjk)] at hj
        exact hR.2.2.2.2 i _ hw j r' hj
    · rw [List.getElem?_set_ne (Ne.symm hio)] at hi
      exact hR.2.2.2.2 i sh hi
  exact va_putF (D := D) (C := Cn) (T := T) (N := N) (ref := Cn) (index := idx) (ty := fty) C.1 C.2.1 C.2.2.2.2.1 hin ty hty hnm C.2.2.2.1 C.2.2.2.2.2.2.1 hH.1 hH.2.1 hH.2.2 o (oCells_get hw) hc kf hkN (by rw [e1, e2]; exact C.2.2.2.2.1 _ hlk) (fun _ hx => by rw [e3] at hx; exact hx) e4 (C.2.2.2.2.2.2.2.2.2.2.1.trans hinit) (by rw [e3]; exact e5) (by rw [e2]; exact hpd) (hft.2 _).1 (hft.2 _).2 hlen hd hkk
theorem oj_copy {α : Type} {K : α → Prop} {f : Int → Option α} {idx src dst Ns Nd : Nat} {n0 n1 sp dp nn : Int} (hlk : Cond.methodLink mt.1.cls idx arraycopyName ∈ oT) (hnat : Cond.native arraycopyName ∈ oT) (hstt : Cond.static arraycopyName ∈ oT) (hini : Cond.initialized "java/lang/System" ∈ oT) (hs : wd[src]? = some (.inl (false, Ns))) (hdst : wd[dst]? = some (.inl (false, Nd))) (h0 : ((Ns : Nat) : Int) = n0) (h1 : ((Nd : Nat) : Int) = n1) (hsl : st.length ≤ 8) (hdep : 1 ≤ E.1) (hd : decode mt.2.1 pc = .ok (.invokestatic idx, 3)) (hK : okp (cpg n0 n1 sp dp nn f) K)
    (h : okp (f 0) K → oJ l mt E k n (pc + 3) lv st wd (acopy M src sp dst dp nn)) : oJ l mt E k n pc lv (vi nn :: vi dp :: vr dst :: vi sp :: vr src :: st) wd M := by
  obtain ⟨⟨g1, g2, g3, g4, g5⟩, hK⟩ := okp_cpg hK
  intro p e R s m args below meth c A D cI cB Z n0' ad0 ad H locs ls Cx hH hl hR hg hn
  have hts := Cx.2.2.2.2.1
  have rn := hR.2.1.1
  have rd := hR.2.1.2.1
  have rs := hR.2.1.2.2.2.1
  have cn := oc_clamp g3 rn
  have cd := oc_clamp g2 rd
  have cs := oc_clamp g1 rs
  have hw100 : 8 + (nativeFrameWords "java/lang/System" "arraycopy" 5 + 11) ≤ 100 := by decide +kernel
  refine va_copyi (D := D) (ty := .int) (rest := st.map (rlv ad)) (locs := locs) Cx.1 Cx.2.1 (by rw [Cx.2.2.1, hl.1]) Cx.2.2.2.1 (hts _ hlk) (hts _ hnat) (hts _ hstt) (hts _ hini) Cx.2.2.2.2.2.2.1 hH.1 hH.2.1 hH.2.2 src dst 0 0 (oCells_get hs) (oCells_get hdst) rfl rfl rfl (fun z => by have := (oc_lt rs inR_0).mp z; omega) (fun z => by have := (oc_lt rd inR_0).mp z; omega) (fun z => by have := (oc_lt rn inR_0).mp z; omega) (by rw [cs, cn]; omega) (by rw [cd, cn]; omega) (fun _ _ => rfl) (by have := Cx.2.2.2.2.2.1; omega) (by rw [oSt_sum]; have := Cx.2.2.2.2.2.1; omega) hd (fun H1 locs1 p1 p2 p3 => ?_)
  have hset : (oCells ad cI cB wd M).set dst (ad dst, .inl (if false = true then cB else cI, Nd, .inl (va_cpy (fun q : Nat => Int32.ofInt (M src q)) (fun q : Nat => Int32.ofInt (M dst q)) (Int32.ofInt sp).toNatClampNeg (Int32.ofInt dp).toNatClampNeg (Int32.ofInt nn).toNatClampNeg))) = oCells ad cI cB wd (acopy M src sp dst dp nn) := by
    refine oCells_set (M' := acopy M src sp dst dp nn) hdst ?_ (fun o' ho => by funext i; unfold acopy; rw [if_neg (fun z => ho z.1)])
    rw [cs, cd, cn]
    show Sum.inl _ = Sum.inl _
    congr 3
    congr 1
    funext q
    unfold va_cpy acopy
    by_cases hq : dp.toNat ≤ q ∧ q < dp.toNat + nn.toNat
    · rw [if_pos hq, if_pos ⟨rfl, by omega, by omega⟩]
      show Int32.ofInt (M src ((sp.toNat + (q - dp.toNat) : Nat) : Int)) = _
      rw [show ((sp.toNat + (q - dp.toNat) : Nat) : Int) = sp + ((q : Int) - dp) from by omega]
    · rw [if_neg hq, if_neg (fun z => hq (by omega))]
  have p1 := hset ▸ p1
  have p2 := hset ▸ p2
  exact h hK p e R s m args below meth c A D cI cB Z n0' ad0 ad H1 locs1 ls Cx ⟨p1, p2, p3⟩ hl ⟨hR.1, hR.2.1.2.2.2.2.2, fun o i => by unfold acopy; split; exact hR.2.2.1 _ _; exact hR.2.2.1 _ _, hR.2.2.2⟩ hg hn
theorem oj_ldc {idx : Nat} {v : Int} (hc : Cond.constant mt.1.cls idx (Int32.ofInt v) ∈ oT) (hv : inR v) (hd : decode mt.2.1 pc = .ok (.ldc idx, 2)) (h : oJ l mt E k n (pc + 2) lv (vi v :: st) wd M) : oJ l mt E k n pc lv st wd M := by
  intro p e R s m args below meth c A D cI cB Z n0 ad0 ad H locs ls Cx hH hl hR hg hn
  exact lv_ldc Cx.1 Cx.2.1 Cx.2.2.2.1 (Cx.2.2.2.2.1 _ hc) hd (h p e R s m args below meth c A D cI cB Z n0 ad0 ad H locs ls Cx hH hl ⟨hR.1, ⟨hv, hR.2.1⟩, hR.2.2⟩ hg hn)
theorem oj_ldcw {idx : Nat} {v : Int} (hc : Cond.constant mt.1.cls idx (Int32.ofInt v) ∈ oT) (hv : inR v) (hd : decode mt.2.1 pc = .ok (.ldc_w idx, 3)) (h : oJ l mt E k n (pc + 3) lv (vi v :: st) wd M) : oJ l mt E k n pc lv st wd M := by
  intro p e R s m args below meth c A D cI cB Z n0 ad0 ad H locs ls Cx hH hl hR hg hn
  exact lv_ldcw Cx.1 Cx.2.1 Cx.2.2.2.1 (Cx.2.2.2.2.1 _ hc) hd (h p e R s m args below meth c A D cI cB Z n0 ad0 ad H locs ls Cx hH hl ⟨hR.1, ⟨hv, hR.2.1⟩, hR.2.2⟩ hg hn)
theorem oj_tin {a dflt lo hi off : Int} {offs : Array Int} {len tgt : Nat} (x : Int) (ha : a = x) (hd : decode mt.2.1 pc = .ok (.tableswitch dflt lo hi offs, len)) (h1 : lo ≤ x ∧ x ≤ hi) (ho : offs[(x - lo).toNat]? = some off) (ht : (pc : Int) + off = (tgt : Int)) (h : oJ l mt E k n tgt lv st wd M) : oJ l mt E k n pc lv (vi a :: st) wd M := by
  subst ha
  intro p e R s m args below meth c A D cI cB Z n0 ad0 ad H locs ls Cx hH hl hR hg hn
  have e1 := oc_toInt hR.2.1.1
  exact lv_tableIn Cx.1 Cx.2.1 hd (by rw [e1]; omega) (by rw [e1]; omega) (by rw [e1]; exact ho) ht (h p e R s m args below meth c A D cI cB Z n0 ad0 ad H locs ls Cx hH hl ⟨hR.1, hR.2.1.2, hR.2.2⟩ hg hn)
theorem oj_tout {a dflt lo hi : Int} {offs : Array Int} {len tgt : Nat} (hd : decode mt.2.1 pc = .ok (.tableswitch dflt lo hi offs, len)) (h1 : a < lo ∨ hi < a) (ht : (pc : Int) + dflt = (tgt : Int)) (h : oJ l mt E k n tgt lv st wd M) : oJ l mt E k n pc lv (vi a :: st) wd M := by
  intro p e R s m args below meth c A D cI cB Z n0 ad0 ad H locs ls Cx hH hl hR hg hn
  have e1 := oc_toInt hR.2.1.1
  exact lv_tableOut Cx.1 Cx.2.1 hd (by rw [e1]; exact h1) ht (h p e R s m args below meth c A D cI cB Z n0 ad0 ad H locs ls Cx hH hl ⟨hR.1, hR.2.1.2, hR.2.2⟩ hg hn)
theorem oj_look {a dflt off : Int} {ps : Array (Int × Int)} {len tgt : Nat} (hd : decode mt.2.1 pc = .ok (.lookupswitch dflt ps, len)) (hp : (ps.toList.zip (ps.toList.drop 1)).all (fun (a, next) => a.1 < next.1) = true) (ho : Op.lookupswitch.offset ps.toList dflt a = off) (ht : (pc : Int) + off = (tgt : Int)) (h : oJ l mt E k n tgt lv st wd M) : oJ l mt E k n pc lv (vi a :: st) wd M := by
  intro p e R s m args below meth c A D cI cB Z n0 ad0 ad H locs ls Cx hH hl hR hg hn
  have e1 := oc_toInt hR.2.1.1
  exact lv_lookup Cx.1 Cx.2.1 hd hp (by rw [e1]; exact ho) ht (h p e R s m args below meth c A D cI cB Z n0 ad0 ad H locs ls Cx hH hl ⟨hR.1, hR.2.1.2, hR.2.2⟩ hg hn)
/-- less may be known of the locals -/
def oLe : List oV → List oV → Prop
  | [], _ => True
  | v :: l, [] => v = vu ∧ oLe l []
  | v :: l, w :: r => (v = vu ∨ v = w) ∧ oLe l r
theorem oN_nil {k : Nat} : oN [] k = vu := by cases k <;> rfl
theorem oLe_N : ∀ {a b : List oV} {k : Nat}, oLe a b → oN a k ≠ vu → oN b k = oN a k
  | [], _, k, _, h => absurd (oN_nil (k := k)) h
  | v :: l, [], 0, h, hk => absurd h.1 hk
  | v :: l, [], k + 1, h, hk => by
    have := oLe_N (k := k) h.2 hk
    rw [oN_nil] at this
    rw [oN_nil]; exact this
  | v :: l, w :: r, 0, h, hk => h.1.elim (fun z => absurd z hk) (fun z => z.symm)
  | v :: l, w :: r, k + 1, h, hk => oLe_N (k := k) (a := l) (b := r) h.2 hk
theorem oks_le {len : Nat} : ∀ {a b : List oV}, oLe a b → oks len b → oks len a
  | [], _, _, _ => trivial
  | v :: l, [], h, hb => ⟨by rw [h.1]; trivial, oks_le h.2 hb⟩
  | v :: l, w :: r, h, hb => ⟨h.1.elim (fun z => by rw [z]; trivial) (fun z => by rw [z]; exact hb.1), oks_le h.2 hb.2⟩
theorem oj_le {lv' : List oV} (hle : oLe lv' lv) (h : oJ l mt E k n pc lv' st wd M) : oJ l mt E k n pc lv st wd M := by
  intro p e R s m args below meth c A D cI cB Z n0 ad0 ad H locs ls Cx hH hl hR hg hn
  exact h p e R s m args below meth c A D cI cB Z n0 ad0 ad H locs ls Cx hH ⟨hl.1, hl.2.1, fun i hi => by rw [← oLe_N hle hi]; exact hl.2.2 i (by rw [oLe_N hle hi]; exact hi)⟩ ⟨oks_le hle hR.1, hR.2⟩ hg hn
/-- the law's script -/
theorem oj_slen {L : Nat} {xs : Nat → Int} (hsc : E.2.2.2.1 = some (L, xs)) (hd : decode mt.2.1 pc = .ok (.arraylength, 1)) (h : oJ l mt E k n (pc + 1) lv (vi (L : Int) :: st) wd M) : oJ l mt E k n pc lv (vr 1002 :: st) wd M := by
  intro p e R s m args below meth c A D cI cB Z n0 ad0 ad H locs ls Cx hH hl hR hg hn
  obtain ⟨hX, hb, hA, hL, hxs⟩ := Cx.2.2.2.2.2.2.2.2.2.1 L xs hsc
  have e1 : ad 1002 = ad0 1002 := hg 1002 (Or.inr (by omega))
  have key := h p e R s m args below meth c A D cI cB Z n0 ad0 ad H locs ls Cx hH hl ⟨hR.1, ⟨⟨by omega, by omega⟩, hR.2.1.2⟩, hR.2.2⟩ hg hn
  show W p l e R s m args below meth c H locs k n Z (F0 m pc ls (.ref (ad 1002) :: st.map (rlv ad)))
  rw [e1]
  refine va_slen Cx.1 Cx.2.1 hX hb hA hH.2.2 hd ?_
  rw [← Int32.ofInt_eq_ofNat]
  exact key
theorem oj_sld {α : Type} {K : α → Prop} {f : Int → Option α} {L : Nat} {xs : Nat → Int} {a : Int} (hsc : E.2.2.2.1 = some (L, xs)) (hd : decode mt.2.1 pc = .ok (.iaload, 1)) (h0 : 0 ≤ a) (h1 : a < L) (h : oJ l mt E k n (pc + 1) lv (vi (xs a.toNat) :: st) wd M) : oJ l mt E k n pc lv (vi a :: vr 1002 :: st) wd M := by
  intro p e R s m args below meth c A D cI cB Z n0 ad0 ad H locs ls Cx hH hl hR hg hn
  obtain ⟨hX, hb, hA, hL, hxs⟩ := Cx.2.2.2.2.2.2.2.2.2.1 L xs hsc
  have e1 : ad 1002 = ad0 1002 := hg 1002 (Or.inr (by omega))
  have ha := hR.2.1.1
  have key := h p e R s m args below meth c A D cI cB Z n0 ad0 ad H locs ls Cx hH hl ⟨hR.1, ⟨hxs _, hR.2.1.2.2⟩, hR.2.2⟩ hg hn
  show W p l e R s m args below meth c H locs k n Z (F0 m pc ls (.int (Int32.ofInt a) :: .ref (ad 1002) :: st.map (rlv ad)))
  rw [e1]
  refine va_sld Cx.1 Cx.2.1 hX hb hA hH.2.2 (oc_in h0 h1 ha) hd ?_
  rw [oc_clamp h0 ha]
  exact key
end MORE
