/-! the kinds of calls -/
theorem oks_rev {len : Nat} {l : List oV} (h : oks len l.reverse) : oks len l := by
  induction l with
  | nil => trivial
  | cons v l ih =>
    rw [List.reverse_cons] at h
    exact ⟨(oks_app2 h).1, ih (oks_app1 h)⟩
def oCo (y : oMI) (np : Nat) : Prop := Cond.code y.1 y.2.1 y.2.2.1 y.2.2.2 ∈ oT ∧ Cond.initialized y.1.cls ∈ oT ∧ (y.1.cls ≠ "java/lang/invoke/MethodHandle" ∧ y.1.cls ≠ "java/lang/invoke/VarHandle" ∧ (parseMethodDescriptor y.1.desc).map (fun d => d.parameters.length) = some np) ∧ y.2.2.1 ≤ 80
def oLk (own : String) (idx : Nat) (y : oMI) : Prop := Cond.methodLink own idx y.1 ∈ oT ∨ ∃ host, Cond.methodLinkNest own idx y.1 host ∈ oTN
def oClV (own : String) (idx : Nat) (y : oMI) (np ci : Nat) : Prop := oLk own idx y ∧ Cond.instanceMethod y.1 ∈ oT ∧ Cond.selects y.1.cls y.1 y.1 ∈ oT ∧ oCo y np ∧ ∃ q : vw_C, vwCl[ci]? = some q ∧ q.1 = y.1.cls
def oClS (own : String) (idx : Nat) (y : oMI) (np : Nat) : Prop := oLk own idx y ∧ Cond.static y.1 ∈ oT ∧ oCo y np
def oClI (own : String) (idx : Nat) (y : oMI) (np : Nat) : Prop := oLk own idx y ∧ Cond.instanceMethod y.1 ∈ oT ∧ oCo y np ∧ y.1.name = "<init>" ∧ y.2.2.2 = none
section KINDS
variable {l : Launch} {mt : oMI} {E : oE} {k n pc : Nat} {lv st st0 : List oV} {wd : oW} {M : oM}
theorem oWs_good {y : oMI} {np : Nat} (hc : oCo y np) : GoodIn oT (oWs y) := oT_good (fun w hw => by
  rcases List.mem_cons.mp hw with h | h
  · rw [h]; exact hc.1
  · exact h)
theorem oRm_fits {d' dE mc' ms' L : Nat} {R : Room} (hR : dE ≤ R.frames ∧ 100 * dE ≤ R.locals) (hd : d' + 1 ≤ dE) (hL : L ≤ 80) : (oRm d' mc' ms').frames + 1 ≤ R.frames ∧ 8 + (L + 11) + (oRm d' mc' ms').locals ≤ R.locals := by
  show d' + 1 ≤ R.frames ∧ 8 + (L + 11) + 100 * d' ≤ R.locals
  omega
theorem oCellsRoom {k n mc' ms' : Nat} {R : Room} {d mc ms : Nat} (hR : d ≤ R.frames ∧ 100 * d ≤ R.locals ∧ mc ≤ R.cells ∧ ms ≤ R.slots) (h1 : k + mc' ≤ mc) (h2 : n + ms' ≤ ms) : k + mc' ≤ R.cells ∧ n + ms' ≤ R.slots := by omega
theorem oj_V {y : oMI} {d' mc' ms' np idx ci o : Nat} {as : List oV} {fs : List (Option (Option Nat))} {Qc : Int → oW → oM → Prop} (hv : oClV mt.1.cls idx y np ci) (hw : wd[o]? = some (.inr (ci, fs))) (hst : st0 = as.reverse ++ vr o :: st) (has : as.length = np) (hsl : st.length ≤ 8) (hd : decode mt.2.1 pc = .ok (.invokevirtual idx, 3)) (hdep : d' + 1 ≤ E.1) (hk1 : k + mc' ≤ E.2.1) (hk2 : n + ms' ≤ E.2.2.1) (hK : oK l y d' mc' ms' (vr o :: as) wd M Qc) :
    (∀ ty, y.2.2.2 = some ty → (∀ r wd' M', Qc r wd' M' → oJ l mt E (k + mc') (n + ms') (pc + 3) lv (vi r :: st) wd' M') → oJ l mt E k n pc lv st0 wd M) ∧ (y.2.2.2 = none → (∀ wd' M', Qc 0 wd' M' → oJ l mt E (k + mc') (n + ms') (pc + 3) lv st wd' M') → oJ l mt E k n pc lv st0 wd M) := by
  obtain ⟨hlk, hin, hse, hc, q, hq, hqn⟩ := hv
  subst hst
  have hos : ∀ len, oks len (as.reverse ++ vr o :: st) → oks len st := fun len h => (oks_app2 h).2
  have hoa : ∀ len, oks len (as.reverse ++ vr o :: st) → oks len (vr o :: as) := fun len h => ⟨(oks_app2 h).1, oks_rev (oks_app1 h)⟩
  have run : ∀ (p : Program) (e : Env) (R : Room) (s : State) (m : MethodId) (args : Array Value) (below : List Frame) (meth : Method) (c : Code) (A : Nat → Prop) (D : va_G) (cI cB : ClassId) (Z : State → Prop) (n0 : Nat) (ad0 ad : Nat → Nat) (H : Heap) (locs : List Loc) (ls : Array Slot) (Qx : Array Value → State → Outcome → State → Prop),
      oCtx mt E p l e R s m args below meth c A D cI cB Z n0 ad0 → oHp A D ad cI cB wd M s H locs → oLv ad lv ls mt.2.2.1 → oAg n0 ad0 ad →
      Met l y.1 (oWs y) (oRm d' mc' ms') (va_Pc ((vr o :: as).map (rlv ad)) (oPre D cI cB wd M ad H.size)) Qx mc' ms' (va_A (oCells ad cI cB wd M) H.size) →
      va_Run p l e R s m args below meth c H locs k n mc' ms' (F0 m pc ls ((as.reverse ++ vr o :: st).map (rlv ad))) (st.map (rlv ad)) (Qx (Value.ref (ad o) :: as.map (rlv ad)).toArray) (va_A (oCells ad cI cB wd M) H.size) := by
    intro p e R s m args below meth c A D cI cB Z n0 ad0 ad H locs ls Qx C hH hl hg hM
    have hts := C.2.2.2.2.1
    have hpv : PreV s H y.1.cls (ad o) (va_Pc ((vr o :: as).map (rlv ad)) (oPre D cI cB wd M ad H.size)) (as.map (rlv ad)) :=
      ⟨oPre_blind, by have h9 := va_recv C.2.2.2.2.2.2.1 hH.1 hq (oCells_get hw); rw [hqn] at h9; exact h9, fun U hU hW => ⟨rfl, oPre_of hU hW hH C.2.2.2.2.2.2.1 C.2.2.2.2.2.2.2.1 (oOut_ag hg C.2.2.2.2.2.2.2.2.1)⟩⟩
    have hsk : (F0 m pc ls ((as.reverse ++ vr o :: st).map (rlv ad))).stack = (as.map (rlv ad)).reverse ++ .ref (ad o) :: st.map (rlv ad) := by
      show (as.reverse ++ vr o :: st).map (rlv ad) = _
      rw [List.map_append, List.map_reverse]; rfl
    have hW8 : 2 * (F0 m pc ls ((as.reverse ++ vr o :: st).map (rlv ad))).monitorRoom + ((st.map (rlv ad)).map fun v => v.category).sum ≤ 8 := by
      rw [oSt_sum]; show 2 * 0 + _ ≤ 8; omega
    rcases hlk with hlk | ⟨host, hlk⟩
    · exact va_runV (As := as.map (rlv ad)) ⟨C.1, C.2.1, C.2.2.1, C.2.2.2.1, hts⟩ hM ⟨callB_of np hts (oWs_good hc) rfl rfl rfl (hts _ hc.2.1) (hts _ hlk) hc.2.2.1 (oRm_fits ⟨C.2.2.2.2.2.1.1, C.2.2.2.2.2.1.2.1⟩ hdep hc.2.2.2), hts _ hin, hts _ hse⟩ hpv rfl (by rw [List.length_map, has]) hl.1 hsk hW8 hd (oCellsRoom C.2.2.2.2.2.1 hk1 hk2)
    · exact va_runVN (As := as.map (rlv ad)) ⟨C.1, C.2.1, C.2.2.1, C.2.2.2.1, hts⟩ hM ⟨va_cnB np hts (oWs_good hc) rfl rfl rfl (C.2.2.2.2.2.2.2.2.1.2.2.2 _ hlk) (hts _ hc.2.1) hc.2.2.1 (oRm_fits ⟨C.2.2.2.2.2.1.1, C.2.2.2.2.2.1.2.1⟩ hdep hc.2.2.2), hts _ hin, hts _ hse⟩ hpv rfl (by rw [List.length_map, has]) hl.1 hsk hW8 hd (oCellsRoom C.2.2.2.2.2.1 hk1 hk2)
  refine ⟨fun ty hty h => oj_runi hos (fun p e R s m args below meth c A D cI cB Z n0 ad0 ad H locs ls C hH hl hR hg => ?_) h, fun hty h => oj_runv hos (fun p e R s m args below meth c A D cI cB Z n0 ad0 ad H locs ls C hH hl hR hg => ?_) h⟩
  · exact ⟨_, run p e R s m args below meth c A D cI cB Z n0 ad0 ad H locs ls _ C hH hl hg ((hK D cI cB ad H.size ⟨trivial, hoa _ hR.2.1, hR.2.2⟩).2 ty hty)⟩
  · exact ⟨_, run p e R s m args below meth c A D cI cB Z n0 ad0 ad H locs ls _ C hH hl hg ((hK D cI cB ad H.size ⟨trivial, hoa _ hR.2.1, hR.2.2⟩).1 hty)⟩
theorem oj_S {y : oMI} {d' mc' ms' np idx : Nat} {as : List oV} {Qc : Int → oW → oM → Prop} (hv : oClS mt.1.cls idx y np) (hst : st0 = as.reverse ++ st) (has : as.length = np) (hsl : st.length ≤ 8) (hd : decode mt.2.1 pc = .ok (.invokestatic idx, 3)) (hdep : d' + 1 ≤ E.1) (hk1 : k + mc' ≤ E.2.1) (hk2 : n + ms' ≤ E.2.2.1) (hK : oK l y d' mc' ms' as wd M Qc) :
    (∀ ty, y.2.2.2 = some ty → (∀ r wd' M', Qc r wd' M' → oJ l mt E (k + mc') (n + ms') (pc + 3) lv (vi r :: st) wd' M') → oJ l mt E k n pc lv st0 wd M) ∧ (y.2.2.2 = none → (∀ wd' M', Qc 0 wd' M' → oJ l mt E (k + mc') (n + ms') (pc + 3) lv st wd' M') → oJ l mt E k n pc lv st0 wd M) := by
  obtain ⟨hlk, hstt, hc⟩ := hv
  subst hst
  have hos : ∀ len, oks len (as.reverse ++ st) → oks len st := fun len h => oks_app2 h
  have hoa : ∀ len, oks len (as.reverse ++ st) → oks len as := fun len h => oks_rev (oks_app1 h)
  have run : ∀ (p : Program) (e : Env) (R : Room) (s : State) (m : MethodId) (args : Array Value) (below : List Frame) (meth : Method) (c : Code) (A : Nat → Prop) (D : va_G) (cI cB : ClassId) (Z : State → Prop) (n0 : Nat) (ad0 ad : Nat → Nat) (H : Heap) (locs : List Loc) (ls : Array Slot) (Qx : Array Value → State → Outcome → State → Prop),
      oCtx mt E p l e R s m args below meth c A D cI cB Z n0 ad0 → oHp A D ad cI cB wd M s H locs → oLv ad lv ls mt.2.2.1 → oAg n0 ad0 ad →
      Met l y.1 (oWs y) (oRm d' mc' ms') (va_Pc (as.map (rlv ad)) (oPre D cI cB wd M ad H.size)) Qx mc' ms' (va_A (oCells ad cI cB wd M) H.size) →
      va_Run p l e R s m args below meth c H locs k n mc' ms' (F0 m pc ls ((as.reverse ++ st).map (rlv ad))) (st.map (rlv ad)) (Qx (as.map (rlv ad)).toArray) (va_A (oCells ad cI cB wd M) H.size) := by
    intro p e R s m args below meth c A D cI cB Z n0 ad0 ad H locs ls Qx C hH hl hg hM
    have hts := C.2.2.2.2.1
    have hpv : PreS s H (va_Pc (as.map (rlv ad)) (oPre D cI cB wd M ad H.size)) (as.map (rlv ad)) :=
      ⟨oPre_blind, fun U hU hW => ⟨rfl, oPre_of hU hW hH C.2.2.2.2.2.2.1 C.2.2.2.2.2.2.2.1 (oOut_ag hg C.2.2.2.2.2.2.2.2.1)⟩⟩
    have hsk : (F0 m pc ls ((as.reverse ++ st).map (rlv ad))).stack = (as.map (rlv ad)).reverse ++ st.map (rlv ad) := by
      show (as.reverse ++ st).map (rlv ad) = _
      rw [List.map_append, List.map_reverse]
    have hW8 : 2 * (F0 m pc ls ((as.reverse ++ st).map (rlv ad))).monitorRoom + ((st.map (rlv ad)).map fun v => v.category).sum ≤ 8 := by
      rw [oSt_sum]; show 2 * 0 + _ ≤ 8; omega
    rcases hlk with hlk | ⟨host, hlk⟩
    · exact va_runS (As := as.map (rlv ad)) ⟨C.1, C.2.1, C.2.2.1, C.2.2.2.1, hts⟩ hM ⟨callB_of np hts (oWs_good hc) rfl rfl rfl (hts _ hc.2.1) (hts _ hlk) hc.2.2.1 (oRm_fits ⟨C.2.2.2.2.2.1.1, C.2.2.2.2.2.1.2.1⟩ hdep hc.2.2.2), hts _ hstt⟩ hpv rfl (by rw [List.length_map, has]) hl.1 hsk hW8 hd (oCellsRoom C.2.2.2.2.2.1 hk1 hk2)
    · exact va_runSN (As := as.map (rlv ad)) ⟨C.1, C.2.1, C.2.2.1, C.2.2.2.1, hts⟩ hM ⟨va_cnB np hts (oWs_good hc) rfl rfl rfl (C.2.2.2.2.2.2.2.2.1.2.2.2 _ hlk) (hts _ hc.2.1) hc.2.2.1 (oRm_fits ⟨C.2.2.2.2.2.1.1, C.2.2.2.2.2.1.2.1⟩ hdep hc.2.2.2), hts _ hstt, trivial⟩ hpv rfl (by rw [List.length_map, has]) hl.1 hsk hW8 hd (oCellsRoom C.2.2.2.2.2.1 hk1 hk2)
  refine ⟨fun ty hty h => oj_runi hos (fun p e R s m args below meth c A D cI cB Z n0 ad0 ad H locs ls C hH hl hR hg => ?_) h, fun hty h => oj_runv hos (fun p e R s m args below meth c A D cI cB Z n0 ad0 ad H locs ls C hH hl hR hg => ?_) h⟩
  · exact ⟨_, run p e R s m args below meth c A D cI cB Z n0 ad0 ad H locs ls _ C hH hl hg ((hK D cI cB ad H.size ⟨trivial, hoa _ hR.2.1, hR.2.2⟩).2 ty hty)⟩
  · exact ⟨_, run p e R s m args below meth c A D cI cB Z n0 ad0 ad H locs ls _ C hH hl hg ((hK D cI cB ad H.size ⟨trivial, hoa _ hR.2.1, hR.2.2⟩).1 hty)⟩
theorem oj_I {y : oMI} {d' mc' ms' np idx o : Nat} {as : List oV} {Qc : Int → oW → oM → Prop} (hv : oClI mt.1.cls idx y np) (hst : st0 = as.reverse ++ vr o :: st) (has : as.length = np) (hsl : st.length ≤ 8) (hd : decode mt.2.1 pc = .ok (.invokespecial idx, 3)) (hdep : d' + 1 ≤ E.1) (hk1 : k + mc' ≤ E.2.1) (hk2 : n + ms' ≤ E.2.2.1) (hK : oK l y d' mc' ms' (vr o :: as) wd M Qc)
    (h : ∀ wd' M', Qc 0 wd' M' → oJ l mt E (k + mc') (n + ms') (pc + 3) lv st wd' M') : oJ l mt E k n pc lv st0 wd M := by
  obtain ⟨hlk, hin, hc, hini, hret⟩ := hv
  subst hst
  have hos : ∀ len, oks len (as.reverse ++ vr o :: st) → oks len st := fun len h => (oks_app2 h).2
  have hoa : ∀ len, oks len (as.reverse ++ vr o :: st) → oks len (vr o :: as) := fun len h => ⟨(oks_app2 h).1, oks_rev (oks_app1 h)⟩
  refine oj_runv hos (fun p e R s m args below meth c A D cI cB Z n0 ad0 ad H locs ls C hH hl hR hg => ⟨(Value.ref (ad o) :: as.map (rlv ad)).toArray, ?_⟩) h
  have hM := (hK D cI cB ad H.size ⟨trivial, hoa _ hR.2.1, hR.2.2⟩).1 hret
  have hts := C.2.2.2.2.1
  have hpv : PreS s H (va_Pc ((vr o :: as).map (rlv ad)) (oPre D cI cB wd M ad H.size)) (.ref (ad o) :: as.map (rlv ad)) :=
    ⟨oPre_blind, fun U hU hW => ⟨rfl, oPre_of hU hW hH C.2.2.2.2.2.2.1 C.2.2.2.2.2.2.2.1 (oOut_ag hg C.2.2.2.2.2.2.2.2.1)⟩⟩
  have hsk : (F0 m pc ls ((as.reverse ++ vr o :: st).map (rlv ad))).stack = (as.map (rlv ad)).reverse ++ .ref (ad o) :: st.map (rlv ad) := by
    show (as.reverse ++ vr o :: st).map (rlv ad) = _
    rw [List.map_append, List.map_reverse]; rfl
  have hW8 : 2 * (F0 m pc ls ((as.reverse ++ vr o :: st).map (rlv ad))).monitorRoom + ((st.map (rlv ad)).map fun v => v.category).sum ≤ 8 := by
    rw [oSt_sum]; show 2 * 0 + _ ≤ 8; omega
  rcases hlk with hlk | ⟨host, hlk⟩
  · exact va_runI (As := as.map (rlv ad)) ⟨C.1, C.2.1, C.2.2.1, C.2.2.2.1, hts⟩ hM ⟨callB_of np hts (oWs_good hc) (by rw [← hret]; rfl) rfl rfl (hts _ hc.2.1) (hts _ hlk) hc.2.2.1 (oRm_fits ⟨C.2.2.2.2.2.1.1, C.2.2.2.2.2.1.2.1⟩ hdep hc.2.2.2), hini, hts _ hin⟩ hpv rfl (by rw [List.length_map, has]) hl.1 hsk hW8 hd (oCellsRoom C.2.2.2.2.2.1 hk1 hk2)
  · exact va_runIN (As := as.map (rlv ad)) ⟨C.1, C.2.1, C.2.2.1, C.2.2.2.1, hts⟩ hM ⟨va_cnB np hts (oWs_good hc) (by rw [← hret]; rfl) rfl rfl (C.2.2.2.2.2.2.2.2.1.2.2.2 _ hlk) (hts _ hc.2.1) hc.2.2.1 (oRm_fits ⟨C.2.2.2.2.2.1.1, C.2.2.2.2.2.1.2.1⟩ hdep hc.2.2.2), hini, hts _ hin⟩ hpv rfl (by rw [List.length_map, has]) hl.1 hsk hW8 hd (oCellsRoom C.2.2.2.2.2.1 hk1 hk2)
end KINDS
