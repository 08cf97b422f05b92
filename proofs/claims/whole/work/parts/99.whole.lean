/-! THE CLAIM OUT OF ONE WALK OF THE LAW'S BODY. Your part is whole_start (and what it stands on); all else here is the same for every law, but numbers. -/
def lw_P (b : Addr) (xs : List Int32) (args : Array Value) (s : State) : Prop := args = #[.ref b] ∧ s.IntsAt b xs ∧ xs.length ≤ 3072 ∧ (Jvm.Cond.and given_1 narrow_1).before args s = true
def lw_Q (_ : Array Value) (s : State) (o : Outcome) (t : State) : Prop := o = .returned (some (.int 1)) ∧ Framed s o t [] 600000 7302250
def lw_Z (below : List Frame) (a : Array Value) (s : State) : State → Prop := fun t => ∃ o, t.status = .running ∧ Ended t below o ∧ lw_Q a s o t
/-- the law's own end, with 1 on the stack, nothing written that was there before, its room as the claim has it -/
theorem lw_ret {p : Program} {l : Launch} {e : Env} {s : State} {m : MethodId} {below : List Frame} {meth : Method} {c : Code} {b : Nat} (hx : p.tables.exec = Jvm.exec) (hb : c.code = code) (hr : meth.sig.returnType = ret) (hlocks : meth.locks = false) {pc : Nat} {H : Heap} {ls : Array Slot} (hdg : decode code pc = .ok (.ireturn, 1)) : W p l e room_1 s m #[Value.ref b] below meth c H [] 600000 7302250 (lw_Z below #[Value.ref b] s) (F0 m pc ls [.int 1]) := by
  intro T hT X
  obtain ⟨fs, hret, hrun, hended, hW, hframe⟩ := X.leave (v := some (.int 1)) (hlocks := hlocks) (fun h => by rw [hr] at h; cases h)
  have hmeth' : T.vm.method? m = some meth := X.method'
  refine ⟨T.setFrames fs, ?_, .returned (some (.int 1)), hrun, hended, rfl, ⟨_, rfl⟩, hW, hframe⟩
  jvm_step X.here [X.here.top, hx, hb, hdg, hmeth', hr, ret, narrow_b1]
  (try refine ⟨rfl, ?_⟩); (try refine ⟨rfl, ?_⟩)
  first | (intro acts; rw [hret _ acts rfl rfl rfl]) | rw [hret _ _ rfl rfl rfl]
  exact Steps.refl _
/-- what holds at the law's entry: the machine, the code, the tables' words (any of lw_tbl by 'hts w (by decide +kernel)'), the script of L ints xs at the cell b, what the Statement gives of the start (any of its parts by flat_of_before) -/
def lw_At (p : Program) (s : State) (m : MethodId) (meth : Method) (c : Code) (b L : Nat) (xs : Nat → Int32) : Prop :=
  p.tables.exec = Jvm.exec ∧ c.code = code ∧ meth.sig.returnType = ret ∧ c.maxLocals = 4 ∧ s.vm.findClass R_law = some m.cls ∧ (∀ w ∈ lw_tbl, w.before #[Value.ref b] s = true) ∧ va_X b L xs s s.heap ∧ b < s.heap.size ∧ meth.locks = false ∧ (Jvm.Cond.and given_1 narrow_1).before #[Value.ref b] s = true ∧ meth.name = "law"
-- ===== YOUR PART BEGINS =====
theorem oc_arr {args : Array Value} {s : State} {ty : FieldType} (h : (Cond.arrayClass ty).before args s = true) : ∃ cA : ClassId, ArrOfT s cA ty ∧ s.vm.findClass ("[" ++ ty.toString) = some cA := by
  obtain ⟨cA, kA, comp, h1, h2, h3⟩ := Cond.arrayClass_spec h
  exact ⟨cA, fun n z => ⟨fun k h => (by cases h), kA, h2, comp, h3⟩, h1⟩
theorem oc_known {args : Array Value} {s : State} (hts : ∀ w ∈ oT, w.before args s = true) {ci : Nat} {C : String} {T : u_T} {N n : Nat} {ty : Nat → FieldType} (hc : oCls ci C T N ty) (hi : Cond.instantiable C n ∈ oT) : ∃ (cC : ClassId) (iS : Nat → Nat), u_Kn s C T N cC iS := u_known hts hc.2.1 (hts _ hi)
theorem in_0 : Cond.instantiable "OneCoin$Balance" 9 ∈ oT := oT_mem 391 (by decide +kernel) rfl
theorem in_1 : Cond.instantiable "OneCoin$Clock" 6 ∈ oT := oT_mem 329 (by decide +kernel) rfl
theorem in_2 : Cond.instantiable "OneCoin$DebtsReader" 3 ∈ oT := oT_mem 295 (by decide +kernel) rfl
theorem in_3 : Cond.instantiable "OneCoin$Duchy" 12 ∈ oT := oT_mem 168 (by decide +kernel) rfl
theorem in_4 : Cond.instantiable "OneCoin$Law" 11 ∈ oT := oT_mem 235 (by decide +kernel) rfl
theorem in_5 : Cond.instantiable "OneCoin$LawReader" 2 ∈ oT := oT_mem 282 (by decide +kernel) rfl
theorem in_6 : Cond.instantiable "OneCoin$People" 3 ∈ oT := oT_mem 149 (by decide +kernel) rfl
theorem in_7 : Cond.instantiable "OneCoin$RouteReader" 3 ∈ oT := oT_mem 312 (by decide +kernel) rfl
theorem in_8 : Cond.instantiable "OneCoin$Rows" 8 ∈ oT := oT_mem 358 (by decide +kernel) rfl
theorem in_9 : Cond.instantiable "OneCoin$Tape" 5 ∈ oT := oT_mem 126 (by decide +kernel) rfl
theorem in_10 : Cond.instantiable "OneCoin" 14 ∈ oT := oT_mem 118 (by decide +kernel) rfl
theorem in_11 : Cond.instantiable "OneCoinModel" 62 ∈ oT := oT_mem 1092 (by decide +kernel) rfl
theorem oc_K {args : Array Value} {s : State} (hts : ∀ w ∈ oT, w.before args s = true) : ∃ (D : va_G) (cI cB : ClassId), va_K D vwCl (oTy cI cB) s := by
  have hk : ∀ k : Nat, ∃ q : ClassId × (Nat → Nat), ∀ r : vw_C, vwCl[k]? = some r → u_Kn s r.1 r.2.1 r.2.2 q.1 q.2 := by
    intro k
    rcases (show k = 0 ∨ k = 1 ∨ k = 2 ∨ k = 3 ∨ k = 4 ∨ k = 5 ∨ k = 6 ∨ k = 7 ∨ k = 8 ∨ k = 9 ∨ k = 10 ∨ k = 11 ∨ 12 ≤ k by omega) with rfl | rfl | rfl | rfl | rfl | rfl | rfl | rfl | rfl | rfl | rfl | rfl | hk
    · obtain ⟨cC, iS, h⟩ := oc_known hts oC0 in_0
      exact ⟨(cC, iS), fun r hr => by cases hr; exact h⟩
    · obtain ⟨cC, iS, h⟩ := oc_known hts oC1 in_1
      exact ⟨(cC, iS), fun r hr => by cases hr; exact h⟩
    · obtain ⟨cC, iS, h⟩ := oc_known hts oC2 in_2
      exact ⟨(cC, iS), fun r hr => by cases hr; exact h⟩
    · obtain ⟨cC, iS, h⟩ := oc_known hts oC3 in_3
      exact ⟨(cC, iS), fun r hr => by cases hr; exact h⟩
    · obtain ⟨cC, iS, h⟩ := oc_known hts oC4 in_4
      exact ⟨(cC, iS), fun r hr => by cases hr; exact h⟩
    · obtain ⟨cC, iS, h⟩ := oc_known hts oC5 in_5
      exact ⟨(cC, iS), fun r hr => by cases hr; exact h⟩
    · obtain ⟨cC, iS, h⟩ := oc_known hts oC6 in_6
      exact ⟨(cC, iS), fun r hr => by cases hr; exact h⟩
    · obtain ⟨cC, iS, h⟩ := oc_known hts oC7 in_7
      exact ⟨(cC, iS), fun r hr => by cases hr; exact h⟩
    · obtain ⟨cC, iS, h⟩ := oc_known hts oC8 in_8
      exact ⟨(cC, iS), fun r hr => by cases hr; exact h⟩
    · obtain ⟨cC, iS, h⟩ := oc_known hts oC9 in_9
      exact ⟨(cC, iS), fun r hr => by cases hr; exact h⟩
    · obtain ⟨cC, iS, h⟩ := oc_known hts oC10 in_10
      exact ⟨(cC, iS), fun r hr => by cases hr; exact h⟩
    · obtain ⟨cC, iS, h⟩ := oc_known hts oC11 in_11
      exact ⟨(cC, iS), fun r hr => by cases hr; exact h⟩
    · refine ⟨(0, fun _ => 0), fun r hr => ?_⟩
      have : vwCl[k]? = none := List.getElem?_eq_none (by show 12 ≤ k; omega)
      rw [this] at hr; cases hr
  obtain ⟨ad, had⟩ := Classical.axiomOfChoice hk
  obtain ⟨cI, h1, h2⟩ := oc_arr (hts _ ac_int)
  obtain ⟨cB, h3, h4⟩ := oc_arr (hts _ ac_byte)
  refine ⟨(fun k => (ad k).1, fun k => (ad k).2), cI, cB, fun k r hr => had k r hr, fun k q hq => ?_⟩
  match k, hq with
  | 0, hq => cases hq; exact ⟨h1, h2⟩
  | 1, hq => cases hq; exact ⟨h3, h4⟩
  | k + 2, hq => simp [oTy] at hq
theorem oc_out {args : Array Value} {s : State} {A : Nat → Prop} (hall : ∀ w ∈ lw_tbl, w.before args s = true) (hgv : (Jvm.Cond.and given_1 narrow_1).before args s = true) (hA : ∀ a : Nat, a < s.heap.size → ¬ A a) : ∃ a0 a1 : Nat, ∀ ad : Nat → Nat, ad 1000 = a0 → ad 1001 = a1 → oOut ad A s s.heap := by
  have hs := flat_of_before _ hgv
  obtain ⟨adK, adV, hS, hev⟩ := vk_Sof (s := s) (args := args) (N := 1) (tm := fun _ => Term.string "OneCoin$LawReader" 90) (len := [8]) (byt := [[104, 99, 110, 111, 119, 103, 116, 121]]) (A := A)
    (fun i hi => by obtain rfl : i = 0 := by omega
                    decide) (fun i hi => hs _ (by decide +kernel)) (fun i hi => hs _ (by decide +kernel)) (fun i hi => hs _ (by decide +kernel)) (fun i hi => by
      obtain rfl : i = 0 := by omega
      exact hs _ (by decide +kernel)) (fun i hi j hj => by
      obtain rfl : i = 0 := by omega
      have hj8 : j < 8 := hj
      rcases (show j = 0 ∨ j = 1 ∨ j = 2 ∨ j = 3 ∨ j = 4 ∨ j = 5 ∨ j = 6 ∨ j = 7 by omega) with rfl | rfl | rfl | rfl | rfl | rfl | rfl | rfl <;> exact hs _ (by decide +kernel)) (fun i j hi hj hij => by omega) hA
  have hR : vk_R "OneCoin$LawReader" 90 "hcnowgty" (adK 0) s := vk_R.of (hall _ (List.mem_of_getElem? (i := 567) (by decide +kernel))) (by
    have := hev 0 (by decide)
    exact this)
  have hZ : va_Z "java/lang/String" "COMPACT_STRINGS" "Z" (.int 1) A s s.heap := va_Zof (hall _ (List.mem_of_getElem? (i := 581) (by decide +kernel))) (hall _ (List.mem_of_getElem? (i := 108) (by decide +kernel))) (va_eqt (hs _ (by decide +kernel))) hA
  refine ⟨adK 0, adV 0, fun ad e0 e1 => ⟨?_, by rw [e0]; exact hR, hZ, fun w hw => ?_⟩⟩
  · rw [e0, e1]
    refine ⟨fun i hi => ?_, fun i j hi hj _ => by omega⟩
    obtain rfl : i = 0 := by omega
    exact hS.1 0 hi
  · have h1 := List.mem_filter.mp hw
    have h2 := hall w h1.1
    refine va_Nw.of ?_ h2
    have h3 := h1.2
    cases w <;> first | rfl | (simp [oIsN] at h3)
/-- THE LAW, from its entry -/
theorem whole_start {p : Program} {e : Env} {s : State} {m : MethodId} {below : List Frame} {meth : Method} {c : Code} (l : Launch) (hflags : l.flags = flags0) {b L : Nat} {xs : Nat → Int32} (hL : L ≤ 3072) (C0 : lw_At p s m meth c b L xs) : W p l e room_1 s m #[Value.ref b] below meth c s.heap [] 0 0 (lw_Z below #[Value.ref b] s) (entryFrame m ([Value.ref b] : List Value).toArray 4) := by
  obtain ⟨hx, hb, hr, hml, hown, hall, hX, hbl, hlocks, hgv, hnm⟩ := id C0
  have hts := oT_hts hall
  obtain ⟨D, cI, cB, hK⟩ := oc_K hts
  obtain ⟨a0, a1, hO⟩ := oc_out (A := fun q : Nat => s.heap.size ≤ q) hall hgv (fun a h => Nat.not_le.mpr h)
  have hl := oLv_entry (ad := fun o => if o = 1000 then a0 else if o = 1001 then a1 else b) (as := [vr 1002]) (nL := 4) (Nat.le_of_ble_eq_true rfl)
  rw [lg_entry_eq]
  obtain ⟨f, H⟩ := pure_law hL (fun k => (xs k).toInt) (fun k => inR_toInt (xs k))
  have hJ := c_W_law (l := l) H
  have hA : ∀ q : Nat, s.heap.size ≤ q → (fun q : Nat => s.heap.size ≤ q) q := fun q h => h
  have hScr : oScr (some (L, fun k => (xs k).toInt)) (fun o => if o = 1000 then a0 else if o = 1001 then a1 else b) (fun q : Nat => s.heap.size ≤ q) s := by
    intro L' xs' he
    cases he
    refine ⟨?_, hbl, Nat.not_le.mpr hbl, by omega, fun k => inR_toInt _⟩
    simp only [Int32.ofInt_toInt]
    exact hX
  have hRet : oRet m_W_law (oEL L fun k => (xs k).toInt) p l e room_1 s m #[Value.ref b] below meth c (fun q : Nat => s.heap.size ≤ q) D cI cB (lw_Z below #[Value.ref b] s) 0 (fun o => if o = 1000 then a0 else if o = 1001 then a1 else b) := by
    intro r wd M ad H1 locs pc ls hq hH hR hag hle
    have h1 : r = 1 := hq.2
    refine ⟨fun hn => ?_, fun ty hty hr1 hnr hd => ?_⟩
    · exact absurd (show ret = none from hn) (fun z => by cases z)
    · rw [h1]
      have hd' : decode code pc = .ok (.ireturn, 1) := hd
      have e1 : Int32.ofInt 1 = 1 := rfl
      rw [e1]
      show W p l e room_1 s m #[Value.ref b] below meth c H1 locs 600000 7302250 (lw_Z below #[Value.ref b] s) (F0 m pc ls [.int 1])
      refine va_forget (fun q hq => hH.2.2.2.2 q hq) ?_
      exact lw_ret hx hb hr hlocks hd'
  have hRoom : 800 ≤ room_1.frames ∧ 100 * 800 ≤ room_1.locals ∧ 600000 ≤ room_1.cells ∧ 7302250 ≤ room_1.slots := ⟨Nat.le_of_ble_eq_true rfl, Nat.le_of_ble_eq_true rfl, Nat.le_refl 600000, Nat.le_refl 7302250⟩
  exact hJ p e room_1 s m #[Value.ref b] below meth c (fun q : Nat => s.heap.size ≤ q) D cI cB (lw_Z below #[Value.ref b] s) 0 (fun o => if o = 1000 then a0 else if o = 1001 then a1 else b) (fun o => if o = 1000 then a0 else if o = 1001 then a1 else b) s.heap [] _ ⟨hx, hb, hml, hown, hts, hRoom, hK, hA, hO _ rfl rfl, hScr, hnm, hRet⟩ ⟨fun k q h => by simp [oCells] at h, ⟨fun i j p q h => by simp [oCells] at h, fun k q h => by simp [oCells] at h⟩, va_S.rf⟩ hl ⟨⟨Or.inr (by decide), trivial, trivial, trivial, trivial⟩, trivial, fun _ _ => inR_0, by decide, fun k sh h => by simp at h⟩ (fun _ _ => rfl) (Nat.zero_le _)
-- ===== YOUR PART ENDS =====
set_option maxHeartbeats 4000000 in
theorem lw_walk (l : Launch) (hflags : l.flags = flags0) (b : Addr) (xs : List Int32) : MetFree l x (headSpec (Jvm.Cond.code x code maxLocals ret :: tables_1) room_1) (lw_P b xs) (fun _ _ _ _ _ => True) lw_Q := by
  refine MetFree.of_bodyS (code := code) (maxLocals := maxLocals) (ret := ret) (by decide) ?_ ?_
  · intro args s m h hn
    obtain ⟨meth, c, h1, h2, h3, h4, h5, h6, -, -⟩ := Cond.code_spec hn (atoms_spec (ws := Jvm.Cond.code x code maxLocals ret :: tables_1) h _ List.mem_cons_self)
    exact ⟨meth, c, h1, h2, h3, h4, h5, h6⟩
  · intro p e s m args below meth c s₁ B hml0 hP _
    obtain ⟨rfl, hx, hbd, hgv⟩ := hP
    obtain ⟨scr, harrAt, hlist, hof, hsmall⟩ := hx
    obtain ⟨hcb, hkn, -, -⟩ := State.arrayAt?_spec harrAt
    have hown : s.vm.findClass R_law = some m.cls := findClass_of_methodNamed B.named
    have hts0 : ∀ c ∈ (Jvm.Cond.code x code maxLocals ret :: tables_1), c.before #[Value.ref b] s = true := atoms_spec (ws := Jvm.Cond.code x code maxLocals ret :: tables_1) B.pre
    have hts : ∀ w ∈ lw_tbl, w.before #[Value.ref b] s = true := k2_hts_sels lw_privs (fun w hw => hts0 w (List.mem_cons_of_mem _ hw)) lw_privs_ok
    have hml : c.maxLocals = 4 := B.maxLocals_eq (hts0 _ List.mem_cons_self)
    have X₀ : Stand p l e room_1 s m #[Value.ref b] below meth c s₁ [] 0 0 := Stand.of_body B
    have hh0 : s₁.heap = s.heap := by rw [B.state]; rfl
    have hsz : scr.slots.size = xs.length := by rw [← Array.length_toList, hlist, List.length_map]
    have hval : ∀ j : Nat, j < xs.length → scr.slots[j]? = some (.int (xs.getD j 0)) := fun j hj => by
      rw [← Array.getElem?_toList, hlist]
      simp [hj]
    have hbl : b < s.heap.size := (Array.getElem?_eq_some_iff.mp hcb).1
    have hX : va_X b xs.length (fun j => xs.getD j 0) s s.heap := ⟨scr, hcb, hof, hkn, hsz, hval⟩
    have K : W p l e room_1 s m #[Value.ref b] below meth c s₁.heap [] 0 0 (lw_Z below #[Value.ref b] s) (entryFrame m ([Value.ref b] : List Value).toArray 4) := by
      rw [hh0]
      exact whole_start l hflags hbd ⟨B.exec, B.bytes, B.returns, hml, hown, hts, hX, hbl, B.notSynchronized, hgv, (name_of_methodNamed B.named B.method).1⟩
    obtain ⟨t, a1, o, b1, b2, b3⟩ := K s₁ rfl X₀
    exact ⟨t, o, a1, b1, b2, b3⟩
theorem lw_pre_spec {args : Array Value} {s : State} (h : (Jvm.Cond.and given_1 narrow_1).before args s = true) (hr : rest_1_c.before args s = true) : ∃ (b : Addr) (xs : List Int32), lw_P b xs args s := by
  have hs := flat_of_before _ h
  have hq := flat_of_before _ hr
  have hc : (Cond.count 1).before args s = true := hs _ (by decide +kernel)
  have harr : (Cond.arrayOf (.arg 0) .int).before args s = true := hs _ (by decide +kernel)
  have hle : (Cond.le (.length (.arg 0)) (.int 3072)).before args s = true := hs _ (by decide +kernel)
  have hlen : (Cond.isInt (.length (.arg 0))).before args s = true := hq _ (by decide +kernel)
  have hall : (Cond.all (.arg 0) (.isInt (.elem (.arg 0) (.index 0)))).before args s = true := hq _ (by decide +kernel)
  obtain ⟨b, xs, hb, hx⟩ := State.ints_of_pre rfl harr hlen hall
  have hsm : xs.length < 2 ^ 31 := hx.choose_spec.2.2.2
  have hev : (Term.length (.arg 0)).eval args s none [] s = some (.int xs.length.toInt32) := hx.length_eval hb
  have hv := Cond.le_ints hev (show (Term.int 3072).eval args s none [] s = some (.int 3072) from rfl)
  have hd : xs.length.toInt32 ≤ 3072 := by
    simpa [Cond.before, Cond.holds, hv] using hle
  have hN : xs.length ≤ 3072 := (Int32.ofNat_le_ofNat hsm (by decide)).mp (show Int32.ofNat xs.length ≤ Int32.ofNat 3072 from hd)
  exact ⟨b, xs, Cond.one_arg hc (show args[0]? = some (.ref b) from hb), hx, hN, h⟩
theorem lw_comes (l : Launch) (hflags : l.flags = flags0) : Comes l x (Jvm.Cond.code x code maxLocals ret :: tables_1) room_1 (fun tb e args s => Calls_1 tb e args s ∧ rest_1 tb e args s ∧ Pre_1 tb e args s)
    (fun _ _ args s o t => lw_Q args s o t) := by
  intro p e ha hc hk s m args below hf hfit hheap happ hpre
  obtain ⟨b, xs, hP⟩ := lw_pre_spec hpre.2.2 hpre.2.1
  obtain ⟨k, o, h1, h2, h3, hQ⟩ := lw_walk l hflags b xs p e ha hc hk s m args below hf ((Spec.applies_iff_loose hf).mp happ).1 hP trivial
  exact ⟨k, o, h1, h2, h3, hQ⟩
theorem lw_frame {s t : State} {o : Outcome} {args : Array Value} (h : Framed s o t [] 600000 7302250) :
    Framed s o t (fieldLocs frame_1_writes args s ++ arrayLocs frame_1_arrays args s ++ staticLocs frame_1_statics s) 600000 7302250 := h
theorem lw_limb (L : Cond) (hL : ∀ (args : Array Value) (s t : State), L.after args s (.returned (some (.int 1))) t = true) :
    ArmFor flags0 classFile x code maxLocals ret World_1 tables_1 room_1 Calls_1 rest_1 Pre_1
      (fun tb e a s o t => postC L tb e a s o t ∧ Framed s o t (fieldLocs frame_1_writes a s ++ arrayLocs frame_1_arrays a s ++ staticLocs frame_1_statics s) 600000 7302250) := by
  intro l hflags _ _ p e ha hc hk s m args below hf hfit hheap happ hpre
  obtain ⟨k, o, h1, h2, h3, rfl, hF⟩ := lw_comes l hflags p e ha hc hk s m args below hf hfit hheap happ hpre
  exact ⟨k, _, h1, h2, h3, hL args s _, lw_frame hF⟩
theorem i_vc : Claimed_1_1 ∧ Claimed_1_2 := ⟨lw_limb limb_1_1 (fun args s t => by simp [limb_1_1, Cond.after, Cond.holds, Cond.value]), lw_limb limb_1_2 (fun args s t => Cond.after_iff.mpr (by
  first | (rw [show limb_1_2 = Cond.eq .result (.int 1) from rfl, Cond.eq_ints (x := 1) (y := 1) rfl rfl]; simp; done) | (simp [limb_1_2, Cond.value, Term.eval]; done)))⟩
