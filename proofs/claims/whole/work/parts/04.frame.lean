/-! the walked program's state: abstract values, memory, shapes; the judgement oJ over W, the contract oK over Met -/
abbrev oV : Type := Int ⊕ Option Nat
abbrev vi (a : Int) : oV := .inl a
abbrev vr (o : Nat) : oV := .inr (some o)
abbrev vu : oV := .inr none
abbrev oM : Type := Nat → Int → Int
abbrev oSh : Type := (Bool × Nat) ⊕ (Nat × List (Option (Option Nat)))
abbrev oW : Type := List oSh
abbrev oMI : Type := MethodName × ByteArray × Nat × Option FieldType
abbrev oE : Type := Nat × Nat × Nat × Option (Nat × (Nat → Int)) × (Int → oW → oM → Prop)
def oU (M : oM) (o : Nat) (i v : Int) : oM := fun o' i' => if o' = o ∧ i' = i then v else M o' i'
def rlv (ad : Nat → Nat) : oV → Value
  | .inl a => .int (Int32.ofInt a)
  | .inr none => .null
  | .inr (some o) => .ref (ad o)
def oFv (ad : Nat → Nat) (f : Int → Int) (k : Nat) : Option (Option Nat) → Value
  | none => .int (Int32.ofInt (f k))
  | some none => .null
  | some (some o) => .ref (ad o)
def oCe (ad : Nat → Nat) (cI cB : ClassId) (f : Int → Int) : oSh → va_E
  | .inl (b, n) => .inl (if b then cB else cI, n, .inl (fun k => Int32.ofInt (f k)))
  | .inr (ci, fs) => .inr (ci, fs.mapIdx (oFv ad f))
def oCells (ad : Nat → Nat) (cI cB : ClassId) (wd : oW) (M : oM) : va_W := wd.mapIdx (fun o sh => (ad o, oCe ad cI cB (M o) sh))
theorem oCells_get {ad : Nat → Nat} {cI cB : ClassId} {wd : oW} {M : oM} {o : Nat} {sh : oSh} (h : wd[o]? = some sh) : (oCells ad cI cB wd M)[o]? = some (ad o, oCe ad cI cB (M o) sh) := by
  unfold oCells
  rw [List.getElem?_mapIdx, h]; rfl
theorem oCells_inv {ad : Nat → Nat} {cI cB : ClassId} {wd : oW} {M : oM} {o : Nat} {q : Nat × va_E} (h : (oCells ad cI cB wd M)[o]? = some q) : o < wd.length ∧ q.1 = ad o := by
  unfold oCells at h
  rw [List.getElem?_mapIdx] at h
  cases hw : wd[o]? with
  | none => rw [hw] at h; cases h
  | some sh =>
    rw [hw] at h
    have h1 := Option.some.inj h
    exact ⟨(List.getElem?_eq_some_iff.mp hw).1, by rw [← h1]⟩
theorem oCells_set {ad : Nat → Nat} {cI cB : ClassId} {wd : oW} {M M' : oM} {o : Nat} {sh : oSh} {x : va_E} (h : wd[o]? = some sh) (hx : x = oCe ad cI cB (M' o) sh) (hM : ∀ o' : Nat, o' ≠ o → M' o' = M o') : (oCells ad cI cB wd M).set o (ad o, x) = oCells ad cI cB wd M' := by
  apply List.ext_getElem?
  intro i
  unfold oCells
  by_cases hi : i = o
  · subst hi
    rw [List.getElem?_set_self (by rw [List.length_mapIdx]; exact (List.getElem?_eq_some_iff.mp h).1), List.getElem?_mapIdx, h, hx]; rfl
  · rw [List.getElem?_set_ne (Ne.symm hi), List.getElem?_mapIdx, List.getElem?_mapIdx, hM i hi]
theorem oCells_sh {ad : Nat → Nat} {cI cB : ClassId} {wd : oW} {M : oM} {o : Nat} {sh : oSh} {x : va_E} (h : o < wd.length) (hx : x = oCe ad cI cB (M o) sh) : (oCells ad cI cB wd M).set o (ad o, x) = oCells ad cI cB (wd.set o sh) M := by
  apply List.ext_getElem?
  intro i
  unfold oCells
  by_cases hi : i = o
  · subst hi
    rw [List.getElem?_set_self (by rw [List.length_mapIdx]; exact h), List.getElem?_mapIdx, List.getElem?_set_self h, hx]; rfl
  · rw [List.getElem?_set_ne (Ne.symm hi), List.getElem?_mapIdx, List.getElem?_mapIdx, List.getElem?_set_ne (Ne.symm hi)]
def okv (len : Nat) : oV → Prop
  | .inl a => inR a
  | .inr none => True
  | .inr (some o) => o < len ∨ 1000 ≤ o
def oks (len : Nat) : List oV → Prop
  | [] => True
  | v :: l => okv len v ∧ oks len l
def okSh (len : Nat) : oSh → Prop
  | .inl _ => True
  | .inr (_, fs) => ∀ (k r : Nat), fs[k]? = some (some (some r)) → r < len ∨ 1000 ≤ r
def oRg (wd : oW) (lv st : List oV) (M : oM) : Prop := oks wd.length lv ∧ oks wd.length st ∧ (∀ o i, inR (M o i)) ∧ wd.length < 1000 ∧ ∀ (k : Nat) (sh : oSh), wd[k]? = some sh → okSh wd.length sh
def oN : List oV → Nat → oV
  | [], _ => vu
  | v :: _, 0 => v
  | _ :: l, k + 1 => oN l k
theorem oks_N {len : Nat} : ∀ {l : List oV} (k : Nat), oks len l → okv len (oN l k)
  | [], _, _ => trivial
  | _ :: _, 0, h => h.1
  | _ :: _, k + 1, h => oks_N k h.2
theorem oks_app {len : Nat} {a b : List oV} (ha : oks len a) (hb : oks len b) : oks len (a ++ b) := by
  induction a with
  | nil => exact hb
  | cons v l ih => exact ⟨ha.1, ih ha.2⟩
theorem oks_app1 {len : Nat} {a b : List oV} (h : oks len (a ++ b)) : oks len a := by
  induction a with
  | nil => trivial
  | cons v l ih => exact ⟨h.1, ih h.2⟩
theorem oks_app2 {len : Nat} {a b : List oV} (h : oks len (a ++ b)) : oks len b := by
  induction a with
  | nil => exact h
  | cons v l ih => exact ih h.2
theorem oks_rep {len n : Nat} : oks len (List.replicate n vu) := by
  induction n with
  | zero => trivial
  | succ n ih => exact ⟨trivial, ih⟩
theorem okv_mono {a b : Nat} (h : a ≤ b) {v : oV} (hv : okv a v) : okv b v := by
  rcases v with v | v | o
  · exact hv
  · trivial
  · exact hv.elim (fun q => Or.inl (Nat.lt_of_lt_of_le q h)) Or.inr
theorem oks_mono {a b : Nat} (h : a ≤ b) {l : List oV} (hv : oks a l) : oks b l := by
  induction l with
  | nil => trivial
  | cons v l ih => exact ⟨okv_mono h hv.1, ih hv.2⟩
theorem rlv_agree {ad ad' : Nat → Nat} {len : Nat} (h : ∀ o, o < len ∨ 1000 ≤ o → ad' o = ad o) {v : oV} (hv : okv len v) : rlv ad' v = rlv ad v := by
  rcases v with v | v | o
  · rfl
  · rfl
  · show Value.ref _ = Value.ref _
    rw [h o hv]
theorem rlv_agrees {ad ad' : Nat → Nat} {len : Nat} (h : ∀ o, o < len ∨ 1000 ≤ o → ad' o = ad o) {l : List oV} (hv : oks len l) : l.map (rlv ad') = l.map (rlv ad) := by
  induction l with
  | nil => rfl
  | cons v l ih => rw [List.map_cons, List.map_cons, rlv_agree h hv.1, ih hv.2]
/-- the frame's locals hold what is known -/
def oLv (ad : Nat → Nat) (lv : List oV) (ls : Array Slot) (nL : Nat) : Prop := ls.size = nL ∧ lv_wf ls ∧ ∀ k : Nat, oN lv k ≠ vu → ls[k]? = some (.val (rlv ad (oN lv k)))
def oIsN : Cond → Bool
  | .fieldLinkNest .. => true
  | .methodLinkNest .. => true
  | _ => false
/-- the words of nest mates -/
def oTN : List Cond := lw_tbl.filter oIsN
theorem oTN_mem {w : Cond} (i : Nat) (h : lw_tbl[i]? = some w) (g : oIsN w = true) : w ∈ oTN := List.mem_filter.mpr ⟨List.mem_of_getElem? h, g⟩
/-- what lies outside: the text constant, String's switch, the nest mates' words -/
def oOut (ad : Nat → Nat) (A : Nat → Prop) (U : State) (H : Heap) : Prop := vk_S 1 [8] [[104, 99, 110, 111, 119, 103, 116, 121]] (fun _ => ad 1000) (fun _ => ad 1001) A U H ∧ vk_R "OneCoin$LawReader" 90 "hcnowgty" (ad 1000) U ∧ va_Z "java/lang/String" "COMPACT_STRINGS" "Z" (.int 1) A U H ∧ ∀ w ∈ oTN, va_Nw w U
def oScr (sc : Option (Nat × (Nat → Int))) (ad : Nat → Nat) (A : Nat → Prop) (s : State) : Prop := ∀ (L : Nat) (xs : Nat → Int), sc = some (L, xs) → va_X (ad 1002) L (fun k => Int32.ofInt (xs k)) s s.heap ∧ ad 1002 < s.heap.size ∧ ¬ A (ad 1002) ∧ L < 2 ^ 31 ∧ ∀ k, inR (xs k)
def oTy (cI cB : ClassId) : List (ClassId × FieldType) := [(cI, .int), (cB, .byte)]
def oHp (A : Nat → Prop) (D : va_G) (ad : Nat → Nat) (cI cB : ClassId) (wd : oW) (M : oM) (s : State) (H : Heap) (locs : List Loc) : Prop := va_P D vwCl (oCells ad cI cB wd M) H ∧ va_D A (oCells ad cI cB wd M) ∧ va_S A s.heap H locs
def oAg (n0 : Nat) (ad0 ad : Nat → Nat) : Prop := ∀ o, o < n0 ∨ 1000 ≤ o → ad o = ad0 o
def oRet (mt : oMI) (E : oE) (p : Program) (l : Launch) (e : Env) (R : Room) (s : State) (m : MethodId) (args : Array Value) (below : List Frame) (meth : Method) (c : Code) (A : Nat → Prop) (D : va_G) (cI cB : ClassId) (Z : State → Prop) (n0 : Nat) (ad0 : Nat → Nat) : Prop :=
  ∀ (r : Int) (wd : oW) (M : oM) (ad : Nat → Nat) (H : Heap) (locs : List Loc) (pc : Nat) (ls : Array Slot), E.2.2.2.2 r wd M → oHp A D ad cI cB wd M s H locs → oRg wd [] [] M → oAg n0 ad0 ad → n0 ≤ wd.length →
    (mt.2.2.2 = none → r = 0 → decode mt.2.1 pc = .ok (.return_, 1) → W p l e R s m args below meth c H locs E.2.1 E.2.2.1 Z (F0 m pc ls [])) ∧
    (∀ ty, mt.2.2.2 = some ty → inR r → narrow ty (.int (Int32.ofInt r)) = .int (Int32.ofInt r) → decode mt.2.1 pc = .ok (.ireturn, 1) → W p l e R s m args below meth c H locs E.2.1 E.2.2.1 Z (F0 m pc ls [.int (Int32.ofInt r)]))
def oCtx (mt : oMI) (E : oE) (p : Program) (l : Launch) (e : Env) (R : Room) (s : State) (m : MethodId) (args : Array Value) (below : List Frame) (meth : Method) (c : Code) (A : Nat → Prop) (D : va_G) (cI cB : ClassId) (Z : State → Prop) (n0 : Nat) (ad0 : Nat → Nat) : Prop :=
  p.tables.exec = Jvm.exec ∧ c.code = mt.2.1 ∧ c.maxLocals = mt.2.2.1 ∧ s.vm.findClass mt.1.cls = some m.cls ∧ (∀ w ∈ oT, w.before args s = true) ∧ (E.1 ≤ R.frames ∧ 100 * E.1 ≤ R.locals ∧ E.2.1 ≤ R.cells ∧ E.2.2.1 ≤ R.slots) ∧ va_K D vwCl (oTy cI cB) s ∧ (∀ q, s.heap.size ≤ q → A q) ∧ oOut ad0 A s s.heap ∧ oScr E.2.2.2.1 ad0 A s ∧ meth.name = mt.1.name ∧ oRet mt E p l e R s m args below meth c A D cI cB Z n0 ad0
/-- from pc, with these locals, this stack, this memory, k cells and n slots made: the method goes on to a return that E allows -/
def oJ (l : Launch) (mt : oMI) (E : oE) (k n pc : Nat) (lv st : List oV) (wd : oW) (M : oM) : Prop :=
  ∀ (p : Program) (e : Env) (R : Room) (s : State) (m : MethodId) (args : Array Value) (below : List Frame) (meth : Method) (c : Code) (A : Nat → Prop) (D : va_G) (cI cB : ClassId) (Z : State → Prop) (n0 : Nat) (ad0 ad : Nat → Nat) (H : Heap) (locs : List Loc) (ls : Array Slot),
    oCtx mt E p l e R s m args below meth c A D cI cB Z n0 ad0 → oHp A D ad cI cB wd M s H locs → oLv ad lv ls mt.2.2.1 → oRg wd lv st M → oAg n0 ad0 ad → n0 ≤ wd.length →
    W p l e R s m args below meth c H locs k n Z (F0 m pc ls (st.map (rlv ad)))
/-- a row that moves pc and stack alone -/
theorem oJ_row {l : Launch} {mt : oMI} {E : oE} {k n pc pc' : Nat} {lv st st' : List oV} {wd : oW} {M : oM}
    (hst : ∀ len, oks len st → oks len st')
    (hr : ∀ (p : Program) (e : Env) (R : Room) (s : State) (m : MethodId) (args : Array Value) (below : List Frame) (meth : Method) (c : Code) (Z : State → Prop) (ad : Nat → Nat) (H : Heap) (locs : List Loc) (ls : Array Slot), p.tables.exec = Jvm.exec → c.code = mt.2.1 → oLv ad lv ls mt.2.2.1 → (∀ len, oks len st → True) → oks wd.length lv → oks wd.length st →
      W p l e R s m args below meth c H locs k n Z (F0 m pc' ls (st'.map (rlv ad))) → W p l e R s m args below meth c H locs k n Z (F0 m pc ls (st.map (rlv ad))))
    (h : oks wd.length lv → oJ l mt E k n pc' lv st' wd M) : oJ l mt E k n pc lv st wd M := by
  intro p e R s m args below meth c A D cI cB Z n0 ad0 ad H locs ls C hH hl hR hg hn
  exact hr p e R s m args below meth c Z ad H locs ls C.1 C.2.1 hl (fun _ _ => trivial) hR.1 hR.2.1 (h hR.1 p e R s m args below meth c A D cI cB Z n0 ad0 ad H locs ls C hH hl ⟨hR.1, hst _ hR.2.1, hR.2.2⟩ hg hn)
