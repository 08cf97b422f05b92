/-! contracts over oJ, calls -/
def oWs (mt : oMI) : List Cond := Cond.code mt.1 mt.2.1 mt.2.2.1 mt.2.2.2 :: oT
def oRm (d mc ms : Nat) : Room := { frames := d, cells := mc, slots := ms, locals := 100 * d }
abbrev oS : Type := Int × oW × oM × (Nat → Nat)
def oBs (D : va_G) (cI cB : ClassId) (A1 : Nat → Prop) (u : oS) (t : State) : Prop := va_P D vwCl (oCells u.2.2.2 cI cB u.2.1 u.2.2.1) t.heap ∧ va_K D vwCl (oTy cI cB) t ∧ va_D A1 (oCells u.2.2.2 cI cB u.2.1 u.2.2.1)
def oPo (wd : oW) (ad : Nat → Nat) (Q : Int → oW → oM → Prop) (r : Int) (u : oS) : Prop := inR r ∧ Q r u.2.1 u.2.2.1 ∧ oRg u.2.1 [] [] u.2.2.1 ∧ oAg wd.length ad u.2.2.2 ∧ wd.length ≤ u.2.1.length
def oPre (D : va_G) (cI cB : ClassId) (wd : oW) (M : oM) (ad : Nat → Nat) (sz : Nat) (U : State) : Prop := U.heap.size = sz ∧ va_P D vwCl (oCells ad cI cB wd M) U.heap ∧ va_K D vwCl (oTy cI cB) U ∧ va_D (fun _ => True) (oCells ad cI cB wd M) ∧ oOut ad (va_A (oCells ad cI cB wd M) sz) U U.heap
/-- a method's contract: from these arguments and this memory it returns as Q says -/
def oK (l : Launch) (mt : oMI) (d mc ms : Nat) (as : List oV) (wd : oW) (M : oM) (Q : Int → oW → oM → Prop) : Prop :=
  ∀ (D : va_G) (cI cB : ClassId) (ad : Nat → Nat) (sz : Nat), oRg wd [] as M →
    (mt.2.2.2 = none → Met l mt.1 (oWs mt) (oRm d mc ms) (va_Pc (as.map (rlv ad)) (oPre D cI cB wd M ad sz)) (va_Qv (fun u : oS => oPo wd ad Q 0 u) (oBs D cI cB (va_A (oCells ad cI cB wd M) sz)) (va_A (oCells ad cI cB wd M) sz)) mc ms (va_A (oCells ad cI cB wd M) sz)) ∧
    (∀ ty, mt.2.2.2 = some ty → Met l mt.1 (oWs mt) (oRm d mc ms) (va_Pc (as.map (rlv ad)) (oPre D cI cB wd M ad sz)) (va_Qi (fun (r : Int32) (u : oS) => r = Int32.ofInt u.1 ∧ oPo wd ad Q u.1 u) (oBs D cI cB (va_A (oCells ad cI cB wd M) sz)) (va_A (oCells ad cI cB wd M) sz)) mc ms (va_A (oCells ad cI cB wd M) sz))
theorem oN_entry {as : List oV} {n k : Nat} (h : oN (as ++ List.replicate n vu) k ≠ vu) : ∃ v, as[k]? = some v ∧ oN (as ++ List.replicate n vu) k = v := by
  induction as generalizing k with
  | nil =>
    exfalso
    apply h
    induction n generalizing k with
    | zero => cases k <;> rfl
    | succ n ih =>
      cases k with
      | zero => rfl
      | succ k => exact Classical.byContradiction fun q => ih (k := k) (fun z => q z) |> fun z => q z
  | cons v l ih =>
    cases k with
    | zero => exact ⟨v, rfl, rfl⟩
    | succ k => exact ih h
theorem lg_sl_1 {vs : List Value} (h : ∀ v ∈ vs, v.category = 1) : lg_sl vs = vs.map Slot.val := by
  induction vs with
  | nil => rfl
  | cons v l ih =>
    have h1 := h v List.mem_cons_self
    unfold lg_sl at ih ⊢
    rw [List.flatMap_cons, ih (fun w hw => h w (List.mem_cons_of_mem _ hw)), if_neg (by omega)]
    rfl
theorem oLv_entry {ad : Nat → Nat} {as : List oV} {nL : Nat} (h : as.length ≤ nL) : oLv ad (as ++ List.replicate (nL - as.length) vu) ((lg_sl (as.map (rlv ad)) ++ List.replicate (nL - (lg_sl (as.map (rlv ad))).length) Slot.unset).toArray) nL := by
  have hs : lg_sl (as.map (rlv ad)) = (as.map (rlv ad)).map Slot.val := lg_sl_1 (fun v hv => by
    obtain ⟨w, -, rfl⟩ := List.mem_map.mp hv
    exact rlv_cat w)
  have hlen : (lg_sl (as.map (rlv ad))).length = as.length := by rw [hs]; simp
  obtain ⟨h1, h2, h3⟩ := lv_entry (as.map (rlv ad)) (n := nL) (by omega)
  refine ⟨h1, h2, fun k hk => ?_⟩
  obtain ⟨v, hv, he⟩ := oN_entry hk
  rw [he, hs, List.getElem?_toArray, List.getElem?_append_left (by simpa using (List.getElem?_eq_some_iff.mp hv).1), List.getElem?_map, List.getElem?_map, hv]
  rfl
theorem oOut_to {ad : Nat → Nat} {A A1 : Nat → Prop} {s U : State} {H : Heap} {locs : List Loc} (hW : s.WarmedH U.vm) (hU : U.heap = H) (h : oOut ad A s s.heap) (hS : va_S A s.heap H locs) (hAA : ∀ q, A1 q → A q) : oOut ad A1 U U.heap := by
  rw [hU]
  refine ⟨((h.1.kept hS.2.1).narrow hAA).moved hW.alike, vk_R.warm hW h.2.1, ((h.2.2.1.kept hS.2.1).narrow hAA).moved hW.alike, fun w hw => ?_⟩
  have h1 := h.2.2.2 w hw
  have h2 := (List.mem_filter.mp hw).2
  cases w <;> first | (exact absurd h2 (by decide)) | exact va_Nw.warmF hW h1 | exact va_Nw.warmM hW h1 | (simp [oIsN] at h2)
theorem oOut_calling {ad : Nat → Nat} {A : Nat → Prop} {U : State} {g : JFrame} {mk : MethodId} {a : Array Value} (h : oOut ad A U U.heap) : oOut ad A (U.calling g mk a) (U.calling g mk a).heap :=
  ⟨h.1.moved (u := U) (U := U.calling g mk a) (Vm.Alike.refl U.vm), vk_R.same (u := U) rfl h.2.1, h.2.2.1.moved (u := U) (U := U.calling g mk a) (Vm.Alike.refl U.vm), fun w hw => by
    have h1 := h.2.2.2 w hw
    have h2 := (List.mem_filter.mp hw).2
    refine va_Nw.same (u := U) ?_ rfl h1
    cases w <;> first | rfl | (simp [oIsN] at h2)⟩
theorem oPre_blind {D : va_G} {cI cB : ClassId} {wd : oW} {M : oM} {ad : Nat → Nat} {sz : Nat} {as : List Value} : FrameBlind (va_Pc as (oPre D cI cB wd M ad sz)) :=
  fun a U g mk q => ⟨q.1, q.2.1, q.2.2.1, va_K.moved (u := U) (U := U.calling g mk a) (Vm.Alike.refl U.vm) q.2.2.2.1, q.2.2.2.2.1, oOut_calling q.2.2.2.2.2⟩
theorem oK_intro {l : Launch} {mt : oMI} {d mc ms : Nat} {as lv : List oV} {wd : oW} {M : oM} {Q : Int → oW → oM → Prop} (hpl : plainName mt.1.cls = true) (hlen : as.length ≤ mt.2.2.1) (hlv : as ++ List.replicate (mt.2.2.1 - as.length) vu = lv) (h : oJ l mt (d, mc, ms, none, Q) 0 0 0 lv [] wd M) : oK l mt d mc ms as wd M Q := by
  subst hlv
  intro D cI cB ad sz hRg
  have hrg' : oRg wd (as ++ List.replicate (mt.2.2.1 - as.length) vu) [] M := ⟨oks_app hRg.2.1 oks_rep, trivial, hRg.2.2⟩
  have core : ∀ (Qc : Array Value → State → Outcome → State → Prop),
      (∀ (p : Program) (e : Env) (s : State) (m : MethodId) (below : List Frame) (meth : Method) (c : Code), p.tables.exec = Jvm.exec → c.code = mt.2.1 → meth.sig.returnType = mt.2.2.2 → meth.locks = false → s.heap.size = sz → va_K D vwCl (oTy cI cB) s →
        oRet mt (d, mc, ms, none, Q) p l e (oRm d mc ms) s m (as.map (rlv ad)).toArray below meth c (va_A (oCells ad cI cB wd M) sz) D cI cB (MQ below Qc (as.map (rlv ad)).toArray s mc ms (va_A (oCells ad cI cB wd M) sz)) wd.length ad) →
      Met l mt.1 (oWs mt) (oRm d mc ms) (va_Pc (as.map (rlv ad)) (oPre D cI cB wd M ad sz)) Qc mc ms (va_A (oCells ad cI cB wd M) sz) := by
    intro Qc hret
    refine Met.ofW (cc := mt.2.1) (maxL := mt.2.2.1) (ret := mt.2.2.2) hpl rfl ?_
    intro p e s m args below meth c s₁ B hml hv
    obtain ⟨rfl, hsz, hP, hK, hD0, hO⟩ := hv
    have hts0 := atoms_spec (ws := oWs mt) B.pre
    have hts : ∀ w ∈ oT, w.before (as.map (rlv ad)).toArray s = true := fun w hw => hts0 w (List.mem_cons_of_mem _ hw)
    have hown : s.vm.findClass mt.1.cls = some m.cls := findClass_of_methodNamed B.named
    have hnm : meth.name = mt.1.name := (name_of_methodNamed B.named B.method).1
    rw [lg_entry_eq]
    refine h p e (oRm d mc ms) s m _ below meth c (va_A (oCells ad cI cB wd M) sz) D cI cB _ wd.length ad ad s.heap [] _ ⟨B.exec, B.bytes, hml, hown, hts, ⟨Nat.le_refl _, Nat.le_refl _, Nat.le_refl _, Nat.le_refl _⟩, hK, fun q hq => Or.inr (by omega), hO, (fun L xs hx => by cases hx), hnm, hret p e s m below meth c B.exec B.bytes B.returns B.notSynchronized hsz hK⟩ ⟨hP, hD0.self (sz := sz), va_S.rf⟩ (oLv_entry hlen) hrg' (fun o _ => rfl) (Nat.le_refl _)
  refine ⟨fun hn => core _ ?_, fun ty hty => core _ ?_⟩
  · intro p e s m below meth c hx hb hr hlk hsz hKs r wd' M' ad' H locs pc ls hq hH hR hag hle
    refine ⟨fun _ hr0 hd => W.vret hx hb (hr.trans hn) (fun t ht hW => ⟨⟨(0, wd', M', ad'), rfl, ⟨inR_0, by rw [hr0] at hq; exact hq, hR, hag, hle⟩, by rw [ht]; exact hH.1, va_K.moved hW.alike hKs, hH.2.1⟩, hH.2.2.F ht⟩) hH.2.2.2.2 hd hlk, fun ty hty => ?_⟩
    rw [hn] at hty
    cases hty
  · intro p e s m below meth c hx hb hr hlk hsz hKs r wd' M' ad' H locs pc ls hq hH hR hag hle
    refine ⟨fun hn => ?_, fun ty' hty' hr0 hnr hd => W.zret hx hb (hr.trans hty') hnr (fun t ht hW => ⟨⟨Int32.ofInt r, (r, wd', M', ad'), rfl, ⟨rfl, hr0, hq, hR, hag, hle⟩, by rw [ht]; exact hH.1, va_K.moved hW.alike hKs, hH.2.1⟩, hH.2.2.F ht⟩) hH.2.2.2.2 hd hlk⟩
    rw [hn] at hty
    cases hty
/-- the callee's part lies in the caller's -/
theorem oA_in {A : Nat → Prop} {D : va_G} {ad : Nat → Nat} {cI cB : ClassId} {wd : oW} {M : oM} {s : State} {H : Heap} {locs : List Loc} (hH : oHp A D ad cI cB wd M s H locs) (hA : ∀ q, s.heap.size ≤ q → A q) : ∀ q, va_A (oCells ad cI cB wd M) H.size q → A q := by
  intro q hq
  rcases hq with ⟨k, e, hq⟩ | hq
  · exact hH.2.1.2 k (q, e) hq
  · exact hA q (Nat.le_trans hH.2.2.1 hq)
theorem oPre_of {U s : State} {A : Nat → Prop} {D : va_G} {ad : Nat → Nat} {cI cB : ClassId} {wd : oW} {M : oM} {H : Heap} {locs : List Loc} (hU : U.heap = H) (hW : s.WarmedH U.vm) (hH : oHp A D ad cI cB wd M s H locs) (hK : va_K D vwCl (oTy cI cB) s) (hA : ∀ q, s.heap.size ≤ q → A q) (hO : oOut ad A s s.heap) : oPre D cI cB wd M ad H.size U :=
  ⟨by rw [hU], by rw [hU]; exact hH.1, va_K.moved hW.alike hK, hH.2.1.weaken (fun _ _ _ _ => trivial), oOut_to hW hU hO hH.2.2 (oA_in hH hA)⟩
theorem oOut_ag {ad ad0 : Nat → Nat} {n0 : Nat} {A : Nat → Prop} {U : State} {H : Heap} (hg : oAg n0 ad0 ad) (h : oOut ad0 A U H) : oOut ad A U H := by
  unfold oOut at h ⊢
  rw [hg 1000 (Or.inr (Nat.le_refl _)), hg 1001 (Or.inr (by omega))]
  exact h
theorem oLv_ag {ad ad' : Nat → Nat} {len nL : Nat} {lv : List oV} {ls : Array Slot} (hag : ∀ o, o < len ∨ 1000 ≤ o → ad' o = ad o) (hv : oks len lv) (h : oLv ad lv ls nL) : oLv ad' lv ls nL :=
  ⟨h.1, h.2.1, fun k hk => by rw [rlv_agree hag (oks_N k hv)]; exact h.2.2 k hk⟩
theorem oSt_sum {ad : Nat → Nat} {st : List oV} : ((st.map (rlv ad)).map fun v => v.category).sum = st.length := by
  induction st with
  | nil => rfl
  | cons v l ih =>
    rw [List.map_cons, List.map_cons, List.sum_cons, ih, rlv_cat, List.length_cons]
    omega
section CALLS
variable {l : Launch} {mt : oMI} {E : oE} {k n pc : Nat} {lv st st0 : List oV} {wd : oW} {M : oM}
theorem oj_runi {mc' ms' : Nat} {Qc : Int → oW → oM → Prop} (hst : ∀ len, oks len st0 → oks len st)
    (hr : ∀ (p : Program) (e : Env) (R : Room) (s : State) (m : MethodId) (args : Array Value) (below : List Frame) (meth : Method) (c : Code) (A : Nat → Prop) (D : va_G) (cI cB : ClassId) (Z : State → Prop) (n0 : Nat) (ad0 ad : Nat → Nat) (H : Heap) (locs : List Loc) (ls : Array Slot),
      oCtx mt E p l e R s m args below meth c A D cI cB Z n0 ad0 → oHp A D ad cI cB wd M s H locs → oLv ad lv ls mt.2.2.1 → oRg wd lv st0 M → oAg n0 ad0 ad →
      ∃ a, va_Run p l e R s m args below meth c H locs k n mc' ms' (F0 m pc ls (st0.map (rlv ad))) (st.map (rlv ad)) (va_Qi (fun (r : Int32) (u : oS) => r = Int32.ofInt u.1 ∧ oPo wd ad Qc u.1 u) (oBs D cI cB (va_A (oCells ad cI cB wd M) H.size)) (va_A (oCells ad cI cB wd M) H.size) a) (va_A (oCells ad cI cB wd M) H.size))
    (h : ∀ r wd' M', Qc r wd' M' → oJ l mt E (k + mc') (n + ms') (pc + 3) lv (vi r :: st) wd' M') : oJ l mt E k n pc lv st0 wd M := by
  intro p e R s m args below meth c A D cI cB Z n0 ad0 ad H locs ls C hH hl hR hg hn
  obtain ⟨a, hrun⟩ := hr p e R s m args below meth c A D cI cB Z n0 ad0 ad H locs ls C hH hl hR hg
  have hAi := oA_in hH C.2.2.2.2.2.2.2.1
  refine va_calli hrun hH.2.2 (fun q _ hq => hAi q hq) hAi (fun r u t H1 locs1 ht hvm hw hB hz hk hS1 => ?_)
  obtain ⟨rfl, hr1, hq, hRg', hag', hle'⟩ := hw
  obtain ⟨hP1, hK1, hD1⟩ := hB
  rw [ht] at hP1
  have hs := hst _ hR.2.1
  have key := h u.1 u.2.1 u.2.2.1 hq p e R s m args below meth c A D cI cB Z n0 ad0 u.2.2.2 H1 locs1 ls C ⟨hP1, hD1.weaken (fun _ q _ hq => hAi q.1 hq), hS1⟩ (oLv_ag hag' hR.1 hl) ⟨oks_mono hle' hR.1, ⟨hr1, oks_mono hle' hs⟩, hRg'.2.2⟩ (fun o ho => by rw [hag' o (ho.elim (fun z => Or.inl (Nat.lt_of_lt_of_le z hn)) Or.inr), hg o ho]) (Nat.le_trans hn hle')
  rw [List.map_cons, rlv_agrees hag' hs] at key
  exact key
theorem oj_runv {mc' ms' : Nat} {Qc : Int → oW → oM → Prop} (hst : ∀ len, oks len st0 → oks len st)
    (hr : ∀ (p : Program) (e : Env) (R : Room) (s : State) (m : MethodId) (args : Array Value) (below : List Frame) (meth : Method) (c : Code) (A : Nat → Prop) (D : va_G) (cI cB : ClassId) (Z : State → Prop) (n0 : Nat) (ad0 ad : Nat → Nat) (H : Heap) (locs : List Loc) (ls : Array Slot),
      oCtx mt E p l e R s m args below meth c A D cI cB Z n0 ad0 → oHp A D ad cI cB wd M s H locs → oLv ad lv ls mt.2.2.1 → oRg wd lv st0 M → oAg n0 ad0 ad →
      ∃ a, va_Run p l e R s m args below meth c H locs k n mc' ms' (F0 m pc ls (st0.map (rlv ad))) (st.map (rlv ad)) (va_Qv (fun (u : oS) => oPo wd ad Qc 0 u) (oBs D cI cB (va_A (oCells ad cI cB wd M) H.size)) (va_A (oCells ad cI cB wd M) H.size) a) (va_A (oCells ad cI cB wd M) H.size))
    (h : ∀ wd' M', Qc 0 wd' M' → oJ l mt E (k + mc') (n + ms') (pc + 3) lv st wd' M') : oJ l mt E k n pc lv st0 wd M := by
  intro p e R s m args below meth c A D cI cB Z n0 ad0 ad H locs ls C hH hl hR hg hn
  obtain ⟨a, hrun⟩ := hr p e R s m args below meth c A D cI cB Z n0 ad0 ad H locs ls C hH hl hR hg
  have hAi := oA_in hH C.2.2.2.2.2.2.2.1
  refine va_callv hrun hH.2.2 (fun q _ hq => hAi q hq) hAi (fun u t H1 locs1 ht hvm hw hB hz hk hS1 => ?_)
  obtain ⟨hr1, hq, hRg', hag', hle'⟩ := hw
  obtain ⟨hP1, hK1, hD1⟩ := hB
  rw [ht] at hP1
  have hs := hst _ hR.2.1
  have key := h u.2.1 u.2.2.1 hq p e R s m args below meth c A D cI cB Z n0 ad0 u.2.2.2 H1 locs1 ls C ⟨hP1, hD1.weaken (fun _ q _ hq => hAi q.1 hq), hS1⟩ (oLv_ag hag' hR.1 hl) ⟨oks_mono hle' hR.1, oks_mono hle' hs, hRg'.2.2⟩ (fun o ho => by rw [hag' o (ho.elim (fun z => Or.inl (Nat.lt_of_lt_of_le z hn)) Or.inr), hg o ho]) (Nat.le_trans hn hle')
  rw [rlv_agrees hag' hs] at key
  exact key
end CALLS
