/-! rows: an instruction each, over oJ; a pure program's run (okp) goes along where the machine asks something -/
def oSet : List oV → Nat → oV → List oV
  | [], _, _ => []
  | _ :: l, 0, v => v :: l
  | a :: l, k + 1, v => a :: oSet l k v
theorem oN_set_ne : ∀ {l : List oV} {i k : Nat} {v : oV}, k ≠ i → oN (oSet l i v) k = oN l k
  | [], _, _, _, _ => rfl
  | _ :: _, 0, 0, _, h => absurd rfl h
  | _ :: _, 0, _ + 1, _, _ => rfl
  | _ :: _, _ + 1, 0, _, _ => rfl
  | _ :: l, i + 1, k + 1, v, h => oN_set_ne (l := l) (fun e => h (by rw [e]))
theorem oN_set_eq : ∀ {l : List oV} {i : Nat} {v : oV}, oN (oSet l i v) i = v ∨ oN (oSet l i v) i = vu
  | [], _, _ => Or.inr rfl
  | _ :: _, 0, _ => Or.inl rfl
  | _ :: l, i + 1, v => oN_set_eq (l := l)
theorem oks_set {len : Nat} : ∀ {l : List oV} {i : Nat} {v : oV}, oks len l → okv len v → oks len (oSet l i v)
  | [], _, _, _, _ => trivial
  | _ :: _, 0, _, h, hv => ⟨hv, h.2⟩
  | _ :: l, i + 1, v, h, hv => ⟨h.1, oks_set h.2 hv⟩
theorem oN_lt : ∀ {l : List oV} {k : Nat}, oN l k ≠ vu → k < l.length
  | [], _, h => absurd rfl h
  | _ :: _, 0, _ => Nat.succ_pos _
  | _ :: l, k + 1, h => Nat.succ_lt_succ (oN_lt (l := l) h)
def oPr (ad : Nat → Nat) (lv : List oV) : List (Nat × Value) := (List.range lv.length).filterMap (fun k => if oN lv k = vu then none else some (k, rlv ad (oN lv k)))
theorem oPr_mem {ad : Nat → Nat} {lv : List oV} {q : Nat × Value} : q ∈ oPr ad lv ↔ oN lv q.1 ≠ vu ∧ q.2 = rlv ad (oN lv q.1) := by
  unfold oPr
  rw [List.mem_filterMap]
  constructor
  · rintro ⟨k, hk, h⟩
    split at h
    · cases h
    · rename_i c
      cases h
      exact ⟨c, rfl⟩
  · rintro ⟨h1, h2⟩
    refine ⟨q.1, List.mem_range.mpr (oN_lt h1), ?_⟩
    rw [if_neg h1, ← h2]
theorem oLv_has {ad : Nat → Nat} {lv : List oV} {ls : Array Slot} {nL : Nat} (h : oLv ad lv ls nL) : lv_has ls nL (oPr ad lv) := ⟨h.1, h.2.1, fun q hq => by
  obtain ⟨h1, h2⟩ := oPr_mem.mp hq
  rw [h2]; exact h.2.2 q.1 h1⟩
theorem rlv_cat {ad : Nat → Nat} (v : oV) : (rlv ad v).category = 1 := by rcases v with v | v | o <;> rfl
theorem oLv_set {ad : Nat → Nat} {lv : List oV} {ls' : Array Slot} {nL i : Nat} {v : oV} (h : lv_has ls' nL ((i, rlv ad v) :: (oPr ad lv).filter (fun q => !(q.1 == i) && !(q.1 + 1 == i && q.2.category == 2)))) : oLv ad (oSet lv i v) ls' nL := by
  refine ⟨h.1, h.2.1, fun k hk => ?_⟩
  by_cases e : k = i
  · subst e
    rcases oN_set_eq (l := lv) (i := k) (v := v) with q | q
    · rw [q]; exact h.2.2 (k, rlv ad v) List.mem_cons_self
    · exact absurd q hk
  · rw [oN_set_ne e] at hk ⊢
    refine h.2.2 (k, rlv ad (oN lv k)) (List.mem_cons_of_mem _ (List.mem_filter.mpr ⟨oPr_mem.mpr ⟨hk, rfl⟩, ?_⟩))
    simp [e, rlv_cat]
theorem oLv_int {ad : Nat → Nat} {lv : List oV} {ls : Array Slot} {nL i : Nat} {a : Int} (h : oLv ad lv ls nL) (hv : oN lv i = vi a) : ls[i]? = some (.val (.int (Int32.ofInt a))) := by
  have h1 := h.2.2 i (by rw [hv]; intro e; cases e)
  rw [hv] at h1; exact h1
theorem oLv_ref {ad : Nat → Nat} {lv : List oV} {ls : Array Slot} {nL i : Nat} {o : Nat} (h : oLv ad lv ls nL) (hv : oN lv i = vr o) : ls[i]? = some (.val (.ref (ad o))) := by
  have h1 := h.2.2 i (by rw [hv]; intro e; cases e)
  rw [hv] at h1; exact h1
section ROWS
variable {l : Launch} {mt : oMI} {E : oE} {k n pc : Nat} {lv st : List oV} {wd : oW} {M : oM}
theorem oj_iloadn {i : Fin 4} {a : Int} (hd : decode mt.2.1 pc = .ok (.iload_n i, 1)) (hv : oN lv i = vi a) (h : oJ l mt E k n (pc + 1) lv (vi a :: st) wd M) : oJ l mt E k n pc lv st wd M := by
  intro p e R s m args below meth c A D cI cB Z n0 ad0 ad H locs ls C hH hl hR hg hn
  have hok := oks_N (i : Nat) hR.1
  rw [hv] at hok
  exact lv_iload_n C.1 C.2.1 hd rfl (oLv_int hl hv) (h p e R s m args below meth c A D cI cB Z n0 ad0 ad H locs ls C hH hl ⟨hR.1, ⟨hok, hR.2.1⟩, hR.2.2⟩ hg hn)
theorem oj_iload {i : Nat} {a : Int} (hd : decode mt.2.1 pc = .ok (.iload i, 2)) (hv : oN lv i = vi a) (h : oJ l mt E k n (pc + 2) lv (vi a :: st) wd M) : oJ l mt E k n pc lv st wd M := by
  intro p e R s m args below meth c A D cI cB Z n0 ad0 ad H locs ls C hH hl hR hg hn
  have hok := oks_N i hR.1
  rw [hv] at hok
  exact lv_iload C.1 C.2.1 hd (oLv_int hl hv) (h p e R s m args below meth c A D cI cB Z n0 ad0 ad H locs ls C hH hl ⟨hR.1, ⟨hok, hR.2.1⟩, hR.2.2⟩ hg hn)
theorem oj_aloadn {i : Fin 4} {o : Nat} (hd : decode mt.2.1 pc = .ok (.aload_n i, 1)) (hv : oN lv i = vr o) (h : oJ l mt E k n (pc + 1) lv (vr o :: st) wd M) : oJ l mt E k n pc lv st wd M := by
  intro p e R s m args below meth c A D cI cB Z n0 ad0 ad H locs ls C hH hl hR hg hn
  have hok := oks_N (i : Nat) hR.1
  rw [hv] at hok
  exact lv_aload_n C.1 C.2.1 hd rfl (oLv_ref hl hv) (h p e R s m args below meth c A D cI cB Z n0 ad0 ad H locs ls C hH hl ⟨hR.1, ⟨hok, hR.2.1⟩, hR.2.2⟩ hg hn)
theorem oj_aload {i : Nat} {o : Nat} (hd : decode mt.2.1 pc = .ok (.aload i, 2)) (hv : oN lv i = vr o) (h : oJ l mt E k n (pc + 2) lv (vr o :: st) wd M) : oJ l mt E k n pc lv st wd M := by
  intro p e R s m args below meth c A D cI cB Z n0 ad0 ad H locs ls C hH hl hR hg hn
  have hok := oks_N i hR.1
  rw [hv] at hok
  exact lv_aload C.1 C.2.1 hd (oLv_ref hl hv) (h p e R s m args below meth c A D cI cB Z n0 ad0 ad H locs ls C hH hl ⟨hR.1, ⟨hok, hR.2.1⟩, hR.2.2⟩ hg hn)
theorem oj_istoren {i : Fin 4} {a : Int} {lv' : List oV} (hd : decode mt.2.1 pc = .ok (.istore_n i, 1)) (hn' : (i : Nat) < mt.2.2.1) (hv : oSet lv i (vi a) = lv') (h : oJ l mt E k n (pc + 1) lv' st wd M) : oJ l mt E k n pc lv (vi a :: st) wd M := by
  subst hv
  intro p e R s m args below meth c A D cI cB Z n0 ad0 ad H locs ls C hH hl hR hg hn
  exact lv_istore_n C.1 C.2.1 hd rfl (oLv_has hl) hn' rfl (fun ls' h' => h p e R s m args below meth c A D cI cB Z n0 ad0 ad H locs ls' C hH (oLv_set (v := vi a) h') ⟨oks_set hR.1 hR.2.1.1, hR.2.1.2, hR.2.2⟩ hg hn)
theorem oj_istore {i : Nat} {a : Int} {lv' : List oV} (hd : decode mt.2.1 pc = .ok (.istore i, 2)) (hn' : i < mt.2.2.1) (hv : oSet lv i (vi a) = lv') (h : oJ l mt E k n (pc + 2) lv' st wd M) : oJ l mt E k n pc lv (vi a :: st) wd M := by
  subst hv
  intro p e R s m args below meth c A D cI cB Z n0 ad0 ad H locs ls C hH hl hR hg hn
  exact lv_istore C.1 C.2.1 hd (oLv_has hl) hn' rfl (fun ls' h' => h p e R s m args below meth c A D cI cB Z n0 ad0 ad H locs ls' C hH (oLv_set (v := vi a) h') ⟨oks_set hR.1 hR.2.1.1, hR.2.1.2, hR.2.2⟩ hg hn)
theorem oj_astoren {i : Fin 4} {o : Nat} {lv' : List oV} (hd : decode mt.2.1 pc = .ok (.astore_n i, 1)) (hn' : (i : Nat) < mt.2.2.1) (hv : oSet lv i (vr o) = lv') (h : oJ l mt E k n (pc + 1) lv' st wd M) : oJ l mt E k n pc lv (vr o :: st) wd M := by
  subst hv
  intro p e R s m args below meth c A D cI cB Z n0 ad0 ad H locs ls C hH hl hR hg hn
  exact lv_astore_n C.1 C.2.1 hd rfl (oLv_has hl) hn' rfl (fun ls' h' => h p e R s m args below meth c A D cI cB Z n0 ad0 ad H locs ls' C hH (oLv_set (v := vr o) h') ⟨oks_set hR.1 hR.2.1.1, hR.2.1.2, hR.2.2⟩ hg hn)
theorem oj_iinc {i : Nat} {d a : Int} {lv' : List oV} (hd : decode mt.2.1 pc = .ok (.iinc i d, 3)) (hn' : i < mt.2.2.1) (hv0 : oN lv i = vi a) (hv : oSet lv i (vi (w32 (a + d))) = lv') (h : oJ l mt E k n (pc + 3) lv' st wd M) : oJ l mt E k n pc lv st wd M := by
  subst hv
  intro p e R s m args below meth c A D cI cB Z n0 ad0 ad H locs ls C hH hl hR hg hn
  obtain ⟨q, hq⟩ := List.getElem?_of_mem ((oPr_mem (ad := ad) (lv := lv) (q := (i, rlv ad (vi a)))).mpr ⟨fun z => (by rw [hv0] at z; cases z), (by rw [hv0])⟩)
  exact lv_iinc C.1 C.2.1 hd (oLv_has hl) hq (oc_add a d) hn' rfl (fun ls' h' => h p e R s m args below meth c A D cI cB Z n0 ad0 ad H locs ls' C hH (oLv_set (v := vi (w32 (a + d))) h') ⟨oks_set hR.1 (inR_w32 _), hR.2⟩ hg hn)
theorem oj_iconst {v : Int} (hv : inR v) (hd : decode mt.2.1 pc = .ok (.iconst v, 1)) (h : oJ l mt E k n (pc + 1) lv (vi v :: st) wd M) : oJ l mt E k n pc lv (st) wd M := by
  refine oJ_row (pc' := pc + 1) (st' := vi v :: st) (fun len hs => ⟨hv, hs⟩) ?_ (fun _ => h)
  intro p e R s m args below meth c Z ad H locs ls hx hb hl _ _ hs hk
  exact lv_iconst hx hb hd rfl hk
theorem oc_b8 {v : Int} (h1 : -128 ≤ v) (h2 : v < 128) : (Int8.ofInt v).toInt32 = Int32.ofInt v := by
  apply Int32.toInt_inj.1
  rw [oc_toInt ⟨by omega, by omega⟩, Int8.toInt_toInt32, Int8.toInt_ofInt_of_le (by omega) (by omega)]
theorem oc_b16 {v : Int} (h1 : -32768 ≤ v) (h2 : v < 32768) : (Int16.ofInt v).toInt32 = Int32.ofInt v := by
  apply Int32.toInt_inj.1
  rw [oc_toInt ⟨by omega, by omega⟩, Int16.toInt_toInt32, Int16.toInt_ofInt_of_le (by omega) (by omega)]
theorem oj_bipush {v : Int} (hv : -128 ≤ v ∧ v < 128) (hd : decode mt.2.1 pc = .ok (.bipush v, 2)) (h : oJ l mt E k n (pc + 2) lv (vi v :: st) wd M) : oJ l mt E k n pc lv (st) wd M := by
  refine oJ_row (pc' := pc + 2) (st' := vi v :: st) (fun len hs => ⟨⟨by omega, by omega⟩, hs⟩) ?_ (fun _ => h)
  intro p e R s m args below meth c Z ad H locs ls hx hb hl _ _ hs hk
  exact lv_bipush hx hb hd (oc_b8 hv.1 hv.2) hk
theorem oj_sipush {v : Int} (hv : -32768 ≤ v ∧ v < 32768) (hd : decode mt.2.1 pc = .ok (.sipush v, 3)) (h : oJ l mt E k n (pc + 3) lv (vi v :: st) wd M) : oJ l mt E k n pc lv (st) wd M := by
  refine oJ_row (pc' := pc + 3) (st' := vi v :: st) (fun len hs => ⟨⟨by omega, by omega⟩, hs⟩) ?_ (fun _ => h)
  intro p e R s m args below meth c Z ad H locs ls hx hb hl _ _ hs hk
  exact lv_sipush hx hb hd (oc_b16 hv.1 hv.2) hk
theorem oj_dup {v : oV} (hd : decode mt.2.1 pc = .ok (.dup, 1)) (h : oJ l mt E k n (pc + 1) lv (v :: v :: st) wd M) : oJ l mt E k n pc lv (v :: st) wd M := by
  refine oJ_row (pc' := pc + 1) (st' := v :: v :: st) (fun len hs => ⟨hs.1, hs⟩) ?_ (fun _ => h)
  intro p e R s m args below meth c Z ad H locs ls hx hb hl _ _ hs hk
  exact lv_dup hx hb hd (rlv_cat v) hk
theorem oj_pop {v : oV} (hd : decode mt.2.1 pc = .ok (.pop, 1)) (h : oJ l mt E k n (pc + 1) lv (st) wd M) : oJ l mt E k n pc lv (v :: st) wd M := by
  refine oJ_row (pc' := pc + 1) (st' := st) (fun len hs => hs.2) ?_ (fun _ => h)
  intro p e R s m args below meth c Z ad H locs ls hx hb hl _ _ hs hk
  exact lv_pop hx hb hd (rlv_cat v) hk
theorem oj_dup2 {v u : oV} (hd : decode mt.2.1 pc = .ok (.dup2, 1)) (h : oJ l mt E k n (pc + 1) lv (v :: u :: v :: u :: st) wd M) : oJ l mt E k n pc lv (v :: u :: st) wd M := by
  refine oJ_row (pc' := pc + 1) (st' := v :: u :: v :: u :: st) (fun len hs => ⟨hs.1, hs.2.1, hs⟩) ?_ (fun _ => h)
  intro p e R s m args below meth c Z ad H locs ls hx hb hl _ _ hs hk
  exact lv_dup2_11 hx hb hd (rlv_cat v) (rlv_cat u) hk
theorem oj_iadd {a b : Int} (hd : decode mt.2.1 pc = .ok (.iadd, 1)) (h : oJ l mt E k n (pc + 1) lv (vi (w32 (a + b)) :: st) wd M) : oJ l mt E k n pc lv (vi b :: vi a :: st) wd M := by
  refine oJ_row (pc' := pc + 1) (st' := vi (w32 (a + b)) :: st) (fun len hs => ⟨inR_w32 _, hs.2.2⟩) ?_ (fun _ => h)
  intro p e R s m args below meth c Z ad H locs ls hx hb hl _ _ hs hk
  exact lv_iadd hx hb hd (by rw [oc_add]; exact hk)
theorem oj_isub {a b : Int} (hd : decode mt.2.1 pc = .ok (.isub, 1)) (h : oJ l mt E k n (pc + 1) lv (vi (w32 (a - b)) :: st) wd M) : oJ l mt E k n pc lv (vi b :: vi a :: st) wd M := by
  refine oJ_row (pc' := pc + 1) (st' := vi (w32 (a - b)) :: st) (fun len hs => ⟨inR_w32 _, hs.2.2⟩) ?_ (fun _ => h)
  intro p e R s m args below meth c Z ad H locs ls hx hb hl _ _ hs hk
  exact lv_isub hx hb hd (by rw [oc_sub]; exact hk)
theorem oj_imul {a b : Int} (hd : decode mt.2.1 pc = .ok (.imul, 1)) (h : oJ l mt E k n (pc + 1) lv (vi (w32 (a * b)) :: st) wd M) : oJ l mt E k n pc lv (vi b :: vi a :: st) wd M := by
  refine oJ_row (pc' := pc + 1) (st' := vi (w32 (a * b)) :: st) (fun len hs => ⟨inR_w32 _, hs.2.2⟩) ?_ (fun _ => h)
  intro p e R s m args below meth c Z ad H locs ls hx hb hl _ _ hs hk
  exact lv_imul hx hb hd (by rw [oc_mul]; exact hk)
theorem oj_iand {a b : Int} (hd : decode mt.2.1 pc = .ok (.iand, 1)) (h : oJ l mt E k n (pc + 1) lv (vi (iand a b) :: st) wd M) : oJ l mt E k n pc lv (vi b :: vi a :: st) wd M := by
  refine oJ_row (pc' := pc + 1) (st' := vi (iand a b) :: st) (fun len hs => ⟨inR_toInt _, hs.2.2⟩) ?_ (fun _ => h)
  intro p e R s m args below meth c Z ad H locs ls hx hb hl _ _ hs hk
  exact lv_iand hx hb hd (by have h9 := hk; unfold iand at h9; simp only [List.map_cons, rlv, Int32.ofInt_toInt] at h9; exact h9)
theorem oj_ior {a b : Int} (hd : decode mt.2.1 pc = .ok (.ior, 1)) (h : oJ l mt E k n (pc + 1) lv (vi (ior a b) :: st) wd M) : oJ l mt E k n pc lv (vi b :: vi a :: st) wd M := by
  refine oJ_row (pc' := pc + 1) (st' := vi (ior a b) :: st) (fun len hs => ⟨inR_toInt _, hs.2.2⟩) ?_ (fun _ => h)
  intro p e R s m args below meth c Z ad H locs ls hx hb hl _ _ hs hk
  exact lv_ior hx hb hd (by have h9 := hk; unfold ior at h9; simp only [List.map_cons, rlv, Int32.ofInt_toInt] at h9; exact h9)
theorem oj_ixor {a b : Int} (hd : decode mt.2.1 pc = .ok (.ixor, 1)) (h : oJ l mt E k n (pc + 1) lv (vi (ixor a b) :: st) wd M) : oJ l mt E k n pc lv (vi b :: vi a :: st) wd M := by
  refine oJ_row (pc' := pc + 1) (st' := vi (ixor a b) :: st) (fun len hs => ⟨inR_toInt _, hs.2.2⟩) ?_ (fun _ => h)
  intro p e R s m args below meth c Z ad H locs ls hx hb hl _ _ hs hk
  exact lv_ixor hx hb hd (by have h9 := hk; unfold ixor at h9; simp only [List.map_cons, rlv, Int32.ofInt_toInt] at h9; exact h9)
theorem oj_ishl {a b : Int} (hd : decode mt.2.1 pc = .ok (.ishl, 1)) (h : oJ l mt E k n (pc + 1) lv (vi (ishl a b) :: st) wd M) : oJ l mt E k n pc lv (vi b :: vi a :: st) wd M := by
  refine oJ_row (pc' := pc + 1) (st' := vi (ishl a b) :: st) (fun len hs => ⟨inR_toInt _, hs.2.2⟩) ?_ (fun _ => h)
  intro p e R s m args below meth c Z ad H locs ls hx hb hl _ _ hs hk
  exact lv_ishl hx hb hd (by have h9 := hk; unfold ishl at h9; simp only [List.map_cons, rlv, Int32.ofInt_toInt] at h9; exact h9)
theorem oj_ishr {a b : Int} (hd : decode mt.2.1 pc = .ok (.ishr, 1)) (h : oJ l mt E k n (pc + 1) lv (vi (ishr a b) :: st) wd M) : oJ l mt E k n pc lv (vi b :: vi a :: st) wd M := by
  refine oJ_row (pc' := pc + 1) (st' := vi (ishr a b) :: st) (fun len hs => ⟨inR_toInt _, hs.2.2⟩) ?_ (fun _ => h)
  intro p e R s m args below meth c Z ad H locs ls hx hb hl _ _ hs hk
  exact lv_ishr hx hb hd (by have h9 := hk; unfold ishr at h9; simp only [List.map_cons, rlv, Int32.ofInt_toInt] at h9; exact h9)
theorem oj_iushr {a b : Int} (hd : decode mt.2.1 pc = .ok (.iushr, 1)) (h : oJ l mt E k n (pc + 1) lv (vi (iushr a b) :: st) wd M) : oJ l mt E k n pc lv (vi b :: vi a :: st) wd M := by
  refine oJ_row (pc' := pc + 1) (st' := vi (iushr a b) :: st) (fun len hs => ⟨inR_toInt _, hs.2.2⟩) ?_ (fun _ => h)
  intro p e R s m args below meth c Z ad H locs ls hx hb hl _ _ hs hk
  exact lv_iushr hx hb hd (v := Int32.ofInt (iushr a b)) (by unfold iushr; rw [Int32.ofInt_toInt]) hk
theorem oj_ineg {a : Int} (hd : decode mt.2.1 pc = .ok (.ineg, 1)) (h : oJ l mt E k n (pc + 1) lv (vi (w32 (-a)) :: st) wd M) : oJ l mt E k n pc lv (vi a :: st) wd M := by
  refine oJ_row (pc' := pc + 1) (st' := vi (w32 (-a)) :: st) (fun len hs => ⟨inR_w32 _, hs.2⟩) ?_ (fun _ => h)
  intro p e R s m args below meth c Z ad H locs ls hx hb hl _ _ hs hk
  exact lv_ineg hx hb hd (by rw [oc_neg]; exact hk)
theorem oj_i2b {a : Int} (hd : decode mt.2.1 pc = .ok (.i2b, 1)) (h : oJ l mt E k n (pc + 1) lv (vi (i2b a) :: st) wd M) : oJ l mt E k n pc lv (vi a :: st) wd M := by
  refine oJ_row (pc' := pc + 1) (st' := vi (i2b a) :: st) (fun len hs => ⟨inR_toInt _, hs.2⟩) ?_ (fun _ => h)
  intro p e R s m args below meth c Z ad H locs ls hx hb hl _ _ hs hk
  exact lv_i2b hx hb hd (v := Int32.ofInt (i2b a)) (by unfold i2b; rw [Int32.ofInt_toInt]) hk
theorem oj_i2c {a : Int} (hd : decode mt.2.1 pc = .ok (.i2c, 1)) (h : oJ l mt E k n (pc + 1) lv (vi (i2c a) :: st) wd M) : oJ l mt E k n pc lv (vi a :: st) wd M := by
  refine oJ_row (pc' := pc + 1) (st' := vi (i2c a) :: st) (fun len hs => ⟨inR_toInt _, hs.2⟩) ?_ (fun _ => h)
  intro p e R s m args below meth c Z ad H locs ls hx hb hl _ _ hs hk
  exact lv_i2c hx hb hd (v := Int32.ofInt (i2c a)) (by unfold i2c; rw [Int32.ofInt_toInt]) hk
theorem oj_goto {off : Int} {tgt : Nat} (hd : decode mt.2.1 pc = .ok (.goto off, 3)) (ht : (pc : Int) + off = (tgt : Int)) (h : oJ l mt E k n tgt lv st wd M) : oJ l mt E k n pc lv st wd M := by
  refine oJ_row (pc' := tgt) (st' := st) (fun len hs => hs) ?_ (fun _ => h)
  intro p e R s m args below meth c Z ad H locs ls hx hb hl _ _ hs hk
  exact lv_goto hx hb hd ht hk
theorem oj_idiv {α : Type} {K : α → Prop} {f : Int → Option α} {a b : Int} (hd : decode mt.2.1 pc = .ok (.idiv, 1)) (hk : okp (nz b f) K) (h : b ≠ 0 → okp (f b) K → oJ l mt E k n (pc + 1) lv (vi (w32 (a.tdiv b)) :: st) wd M) : oJ l mt E k n pc lv (vi b :: vi a :: st) wd M := by
  obtain ⟨h0, hk⟩ := okp_nz hk
  intro p e R s m args below meth c A D cI cB Z n0 ad0 ad H locs ls C hH hl hR hg hn
  refine lv_idiv C.1 C.2.1 hd (fun e => h0 ((oc_eq hR.2.1.1 inR_0).mp e)) ?_
  rw [oc_div hR.2.1.2.1 hR.2.1.1]
  exact h h0 hk p e R s m args below meth c A D cI cB Z n0 ad0 ad H locs ls C hH hl ⟨hR.1, ⟨inR_w32 _, hR.2.1.2.2⟩, hR.2.2⟩ hg hn
theorem oj_irem {α : Type} {K : α → Prop} {f : Int → Option α} {a b : Int} (hd : decode mt.2.1 pc = .ok (.irem, 1)) (hk : okp (nz b f) K) (h : b ≠ 0 → okp (f b) K → oJ l mt E k n (pc + 1) lv (vi (a.tmod b) :: st) wd M) : oJ l mt E k n pc lv (vi b :: vi a :: st) wd M := by
  obtain ⟨h0, hk⟩ := okp_nz hk
  intro p e R s m args below meth c A D cI cB Z n0 ad0 ad H locs ls C hH hl hR hg hn
  refine lv_irem C.1 C.2.1 hd (fun e => h0 ((oc_eq hR.2.1.1 inR_0).mp e)) ?_
  rw [oc_rem hR.2.1.2.1 hR.2.1.1]
  exact h h0 hk p e R s m args below meth c A D cI cB Z n0 ad0 ad H locs ls C hH hl ⟨hR.1, ⟨inR_tmod hR.2.1.2.1, hR.2.1.2.2⟩, hR.2.2⟩ hg hn
theorem oj_case {α : Type} {K : α → Prop} {c : Prop} [Decidable c] {x y : Option α} (hk : okp (if c then x else y) K) (ht : c → okp x K → oJ l mt E k n pc lv st wd M) (hf : ¬ c → okp y K → oJ l mt E k n pc lv st wd M) : oJ l mt E k n pc lv st wd M := by
  by_cases hc : c
  · exact ht hc (okp_t hc hk)
  · exact hf hc (okp_f hc hk)
theorem oj_icmp_eq {α : Type} {K : α → Prop} {x y : Option α} {a b : Int} {off : Int} {tgt : Nat} (hd : decode mt.2.1 pc = .ok (.if_icmp .eq off, 3)) (ht : (pc : Int) + off = (tgt : Int)) (hk : okp (if a = b then x else y) K) (h1 : a = b → okp x K → oJ l mt E k n tgt lv st wd M) (h2 : ¬ a = b → okp y K → oJ l mt E k n (pc + 3) lv st wd M) : oJ l mt E k n pc lv (vi b :: vi a :: st) wd M := by
  intro p e R s m args below meth c A D cI cB Z n0 ad0 ad H locs ls C hH hl hR hg hn
  have ha := hR.2.1.2.1; have hb := hR.2.1.1
  refine lv_icmp_eq C.1 C.2.1 hd ht (fun q => ?_) (fun q => ?_)
  · have q1 : a = b := (oc_eq ha hb).mp q
    exact h1 q1 (okp_t q1 hk) p e R s m args below meth c A D cI cB Z n0 ad0 ad H locs ls C hH hl ⟨hR.1, hR.2.1.2.2, hR.2.2⟩ hg hn
  · have q1 : ¬ a = b := fun z => q ((oc_eq ha hb).mpr z)
    exact h2 q1 (okp_f q1 hk) p e R s m args below meth c A D cI cB Z n0 ad0 ad H locs ls C hH hl ⟨hR.1, hR.2.1.2.2, hR.2.2⟩ hg hn
theorem oj_icmp_ne {α : Type} {K : α → Prop} {x y : Option α} {a b : Int} {off : Int} {tgt : Nat} (hd : decode mt.2.1 pc = .ok (.if_icmp .ne off, 3)) (ht : (pc : Int) + off = (tgt : Int)) (hk : okp (if a = b then y else x) K) (h1 : ¬ a = b → okp x K → oJ l mt E k n tgt lv st wd M) (h2 : a = b → okp y K → oJ l mt E k n (pc + 3) lv st wd M) : oJ l mt E k n pc lv (vi b :: vi a :: st) wd M := by
  intro p e R s m args below meth c A D cI cB Z n0 ad0 ad H locs ls C hH hl hR hg hn
  have ha := hR.2.1.2.1; have hb := hR.2.1.1
  refine lv_icmp_ne C.1 C.2.1 hd ht (fun q => ?_) (fun q => ?_)
  · have q1 : ¬ a = b := fun z => q ((oc_eq ha hb).mpr z)
    exact h1 q1 (okp_f q1 hk) p e R s m args below meth c A D cI cB Z n0 ad0 ad H locs ls C hH hl ⟨hR.1, hR.2.1.2.2, hR.2.2⟩ hg hn
  · have q1 : a = b := (oc_eq ha hb).mp q
    exact h2 q1 (okp_t q1 hk) p e R s m args below meth c A D cI cB Z n0 ad0 ad H locs ls C hH hl ⟨hR.1, hR.2.1.2.2, hR.2.2⟩ hg hn
theorem oj_icmp_lt {α : Type} {K : α → Prop} {x y : Option α} {a b : Int} {off : Int} {tgt : Nat} (hd : decode mt.2.1 pc = .ok (.if_icmp .lt off, 3)) (ht : (pc : Int) + off = (tgt : Int)) (hk : okp (if a < b then x else y) K) (h1 : a < b → okp x K → oJ l mt E k n tgt lv st wd M) (h2 : ¬ a < b → okp y K → oJ l mt E k n (pc + 3) lv st wd M) : oJ l mt E k n pc lv (vi b :: vi a :: st) wd M := by
  intro p e R s m args below meth c A D cI cB Z n0 ad0 ad H locs ls C hH hl hR hg hn
  have ha := hR.2.1.2.1; have hb := hR.2.1.1
  refine lv_icmp_lt C.1 C.2.1 hd ht (fun q => ?_) (fun q => ?_)
  · have q1 : a < b := (oc_lt ha hb).mp q
    exact h1 q1 (okp_t q1 hk) p e R s m args below meth c A D cI cB Z n0 ad0 ad H locs ls C hH hl ⟨hR.1, hR.2.1.2.2, hR.2.2⟩ hg hn
  · have q1 : ¬ a < b := fun z => q ((oc_lt ha hb).mpr z)
    exact h2 q1 (okp_f q1 hk) p e R s m args below meth c A D cI cB Z n0 ad0 ad H locs ls C hH hl ⟨hR.1, hR.2.1.2.2, hR.2.2⟩ hg hn
theorem oj_icmp_ge {α : Type} {K : α → Prop} {x y : Option α} {a b : Int} {off : Int} {tgt : Nat} (hd : decode mt.2.1 pc = .ok (.if_icmp .ge off, 3)) (ht : (pc : Int) + off = (tgt : Int)) (hk : okp (if a < b then y else x) K) (h1 : ¬ a < b → okp x K → oJ l mt E k n tgt lv st wd M) (h2 : a < b → okp y K → oJ l mt E k n (pc + 3) lv st wd M) : oJ l mt E k n pc lv (vi b :: vi a :: st) wd M := by
  intro p e R s m args below meth c A D cI cB Z n0 ad0 ad H locs ls C hH hl hR hg hn
  have ha := hR.2.1.2.1; have hb := hR.2.1.1
  refine lv_icmp_ge C.1 C.2.1 hd ht (fun q => ?_) (fun q => ?_)
  · have q1 : ¬ a < b := Int.not_lt.mpr ((oc_le hb ha).mp q)
    exact h1 q1 (okp_f q1 hk) p e R s m args below meth c A D cI cB Z n0 ad0 ad H locs ls C hH hl ⟨hR.1, hR.2.1.2.2, hR.2.2⟩ hg hn
  · have q1 : a < b := Int.not_le.mp (fun z => q ((oc_le hb ha).mpr z))
    exact h2 q1 (okp_t q1 hk) p e R s m args below meth c A D cI cB Z n0 ad0 ad H locs ls C hH hl ⟨hR.1, hR.2.1.2.2, hR.2.2⟩ hg hn
theorem oj_icmp_gt {α : Type} {K : α → Prop} {x y : Option α} {a b : Int} {off : Int} {tgt : Nat} (hd : decode mt.2.1 pc = .ok (.if_icmp .gt off, 3)) (ht : (pc : Int) + off = (tgt : Int)) (hk : okp (if b < a then x else y) K) (h1 : b < a → okp x K → oJ l mt E k n tgt lv st wd M) (h2 : ¬ b < a → okp y K → oJ l mt E k n (pc + 3) lv st wd M) : oJ l mt E k n pc lv (vi b :: vi a :: st) wd M := by
  intro p e R s m args below meth c A D cI cB Z n0 ad0 ad H locs ls C hH hl hR hg hn
  have ha := hR.2.1.2.1; have hb := hR.2.1.1
  refine lv_icmp_gt C.1 C.2.1 hd ht (fun q => ?_) (fun q => ?_)
  · have q1 : b < a := (oc_lt hb ha).mp q
    exact h1 q1 (okp_t q1 hk) p e R s m args below meth c A D cI cB Z n0 ad0 ad H locs ls C hH hl ⟨hR.1, hR.2.1.2.2, hR.2.2⟩ hg hn
  · have q1 : ¬ b < a := fun z => q ((oc_lt hb ha).mpr z)
    exact h2 q1 (okp_f q1 hk) p e R s m args below meth c A D cI cB Z n0 ad0 ad H locs ls C hH hl ⟨hR.1, hR.2.1.2.2, hR.2.2⟩ hg hn
theorem oj_icmp_le {α : Type} {K : α → Prop} {x y : Option α} {a b : Int} {off : Int} {tgt : Nat} (hd : decode mt.2.1 pc = .ok (.if_icmp .le off, 3)) (ht : (pc : Int) + off = (tgt : Int)) (hk : okp (if b < a then y else x) K) (h1 : ¬ b < a → okp x K → oJ l mt E k n tgt lv st wd M) (h2 : b < a → okp y K → oJ l mt E k n (pc + 3) lv st wd M) : oJ l mt E k n pc lv (vi b :: vi a :: st) wd M := by
  intro p e R s m args below meth c A D cI cB Z n0 ad0 ad H locs ls C hH hl hR hg hn
  have ha := hR.2.1.2.1; have hb := hR.2.1.1
  refine lv_icmp_le C.1 C.2.1 hd ht (fun q => ?_) (fun q => ?_)
  · have q1 : ¬ b < a := Int.not_lt.mpr ((oc_le ha hb).mp q)
    exact h1 q1 (okp_f q1 hk) p e R s m args below meth c A D cI cB Z n0 ad0 ad H locs ls C hH hl ⟨hR.1, hR.2.1.2.2, hR.2.2⟩ hg hn
  · have q1 : b < a := Int.not_le.mp (fun z => q ((oc_le ha hb).mpr z))
    exact h2 q1 (okp_t q1 hk) p e R s m args below meth c A D cI cB Z n0 ad0 ad H locs ls C hH hl ⟨hR.1, hR.2.1.2.2, hR.2.2⟩ hg hn
theorem oj_if_eq {α : Type} {K : α → Prop} {x y : Option α} {a : Int} {off : Int} {tgt : Nat} (hd : decode mt.2.1 pc = .ok (.ifCond .eq off, 3)) (ht : (pc : Int) + off = (tgt : Int)) (hk : okp (if a = 0 then x else y) K) (h1 : a = 0 → okp x K → oJ l mt E k n tgt lv st wd M) (h2 : ¬ a = 0 → okp y K → oJ l mt E k n (pc + 3) lv st wd M) : oJ l mt E k n pc lv (vi a :: st) wd M := by
  intro p e R s m args below meth c A D cI cB Z n0 ad0 ad H locs ls C hH hl hR hg hn
  have ha := hR.2.1.1
  refine lv_if_eq C.1 C.2.1 hd ht (fun q => ?_) (fun q => ?_)
  · have q1 : a = 0 := (oc_eq ha inR_0).mp q
    exact h1 q1 (okp_t q1 hk) p e R s m args below meth c A D cI cB Z n0 ad0 ad H locs ls C hH hl ⟨hR.1, hR.2.1.2, hR.2.2⟩ hg hn
  · have q1 : ¬ a = 0 := fun z => q ((oc_eq ha inR_0).mpr z)
    exact h2 q1 (okp_f q1 hk) p e R s m args below meth c A D cI cB Z n0 ad0 ad H locs ls C hH hl ⟨hR.1, hR.2.1.2, hR.2.2⟩ hg hn
theorem oj_if_ne {α : Type} {K : α → Prop} {x y : Option α} {a : Int} {off : Int} {tgt : Nat} (hd : decode mt.2.1 pc = .ok (.ifCond .ne off, 3)) (ht : (pc : Int) + off = (tgt : Int)) (hk : okp (if a = 0 then y else x) K) (h1 : ¬ a = 0 → okp x K → oJ l mt E k n tgt lv st wd M) (h2 : a = 0 → okp y K → oJ l mt E k n (pc + 3) lv st wd M) : oJ l mt E k n pc lv (vi a :: st) wd M := by
  intro p e R s m args below meth c A D cI cB Z n0 ad0 ad H locs ls C hH hl hR hg hn
  have ha := hR.2.1.1
  refine lv_if_ne C.1 C.2.1 hd ht (fun q => ?_) (fun q => ?_)
  · have q1 : ¬ a = 0 := fun z => q ((oc_eq ha inR_0).mpr z)
    exact h1 q1 (okp_f q1 hk) p e R s m args below meth c A D cI cB Z n0 ad0 ad H locs ls C hH hl ⟨hR.1, hR.2.1.2, hR.2.2⟩ hg hn
  · have q1 : a = 0 := (oc_eq ha inR_0).mp q
    exact h2 q1 (okp_t q1 hk) p e R s m args below meth c A D cI cB Z n0 ad0 ad H locs ls C hH hl ⟨hR.1, hR.2.1.2, hR.2.2⟩ hg hn
theorem oj_if_lt {α : Type} {K : α → Prop} {x y : Option α} {a : Int} {off : Int} {tgt : Nat} (hd : decode mt.2.1 pc = .ok (.ifCond .lt off, 3)) (ht : (pc : Int) + off = (tgt : Int)) (hk : okp (if a < 0 then x else y) K) (h1 : a < 0 → okp x K → oJ l mt E k n tgt lv st wd M) (h2 : ¬ a < 0 → okp y K → oJ l mt E k n (pc + 3) lv st wd M) : oJ l mt E k n pc lv (vi a :: st) wd M := by
  intro p e R s m args below meth c A D cI cB Z n0 ad0 ad H locs ls C hH hl hR hg hn
  have ha := hR.2.1.1
  refine lv_if_lt C.1 C.2.1 hd ht (fun q => ?_) (fun q => ?_)
  · have q1 : a < 0 := (oc_lt ha inR_0).mp q
    exact h1 q1 (okp_t q1 hk) p e R s m args below meth c A D cI cB Z n0 ad0 ad H locs ls C hH hl ⟨hR.1, hR.2.1.2, hR.2.2⟩ hg hn
  · have q1 : ¬ a < 0 := fun z => q ((oc_lt ha inR_0).mpr z)
    exact h2 q1 (okp_f q1 hk) p e R s m args below meth c A D cI cB Z n0 ad0 ad H locs ls C hH hl ⟨hR.1, hR.2.1.2, hR.2.2⟩ hg hn
theorem oj_if_ge {α : Type} {K : α → Prop} {x y : Option α} {a : Int} {off : Int} {tgt : Nat} (hd : decode mt.2.1 pc = .ok (.ifCond .ge off, 3)) (ht : (pc : Int) + off = (tgt : Int)) (hk : okp (if a < 0 then y else x) K) (h1 : ¬ a < 0 → okp x K → oJ l mt E k n tgt lv st wd M) (h2 : a < 0 → okp y K → oJ l mt E k n (pc + 3) lv st wd M) : oJ l mt E k n pc lv (vi a :: st) wd M := by
  intro p e R s m args below meth c A D cI cB Z n0 ad0 ad H locs ls C hH hl hR hg hn
  have ha := hR.2.1.1
  refine lv_if_ge C.1 C.2.1 hd ht (fun q => ?_) (fun q => ?_)
  · have q1 : ¬ a < 0 := Int.not_lt.mpr ((oc_le inR_0 ha).mp q)
    exact h1 q1 (okp_f q1 hk) p e R s m args below meth c A D cI cB Z n0 ad0 ad H locs ls C hH hl ⟨hR.1, hR.2.1.2, hR.2.2⟩ hg hn
  · have q1 : a < 0 := Int.not_le.mp (fun z => q ((oc_le inR_0 ha).mpr z))
    exact h2 q1 (okp_t q1 hk) p e R s m args below meth c A D cI cB Z n0 ad0 ad H locs ls C hH hl ⟨hR.1, hR.2.1.2, hR.2.2⟩ hg hn
theorem oj_if_gt {α : Type} {K : α → Prop} {x y : Option α} {a : Int} {off : Int} {tgt : Nat} (hd : decode mt.2.1 pc = .ok (.ifCond .gt off, 3)) (ht : (pc : Int) + off = (tgt : Int)) (hk : okp (if 0 < a then x else y) K) (h1 : 0 < a → okp x K → oJ l mt E k n tgt lv st wd M) (h2 : ¬ 0 < a → okp y K → oJ l mt E k n (pc + 3) lv st wd M) : oJ l mt E k n pc lv (vi a :: st) wd M := by
  intro p e R s m args below meth c A D cI cB Z n0 ad0 ad H locs ls C hH hl hR hg hn
  have ha := hR.2.1.1
  refine lv_if_gt C.1 C.2.1 hd ht (fun q => ?_) (fun q => ?_)
  · have q1 : 0 < a := (oc_lt inR_0 ha).mp q
    exact h1 q1 (okp_t q1 hk) p e R s m args below meth c A D cI cB Z n0 ad0 ad H locs ls C hH hl ⟨hR.1, hR.2.1.2, hR.2.2⟩ hg hn
  · have q1 : ¬ 0 < a := fun z => q ((oc_lt inR_0 ha).mpr z)
    exact h2 q1 (okp_f q1 hk) p e R s m args below meth c A D cI cB Z n0 ad0 ad H locs ls C hH hl ⟨hR.1, hR.2.1.2, hR.2.2⟩ hg hn
theorem oj_if_le {α : Type} {K : α → Prop} {x y : Option α} {a : Int} {off : Int} {tgt : Nat} (hd : decode mt.2.1 pc = .ok (.ifCond .le off, 3)) (ht : (pc : Int) + off = (tgt : Int)) (hk : okp (if 0 < a then y else x) K) (h1 : ¬ 0 < a → okp x K → oJ l mt E k n tgt lv st wd M) (h2 : 0 < a → okp y K → oJ l mt E k n (pc + 3) lv st wd M) : oJ l mt E k n pc lv (vi a :: st) wd M := by
  intro p e R s m args below meth c A D cI cB Z n0 ad0 ad H locs ls C hH hl hR hg hn
  have ha := hR.2.1.1
  refine lv_if_le C.1 C.2.1 hd ht (fun q => ?_) (fun q => ?_)
  · have q1 : ¬ 0 < a := Int.not_lt.mpr ((oc_le ha inR_0).mp q)
    exact h1 q1 (okp_f q1 hk) p e R s m args below meth c A D cI cB Z n0 ad0 ad H locs ls C hH hl ⟨hR.1, hR.2.1.2, hR.2.2⟩ hg hn
  · have q1 : 0 < a := Int.not_le.mp (fun z => q ((oc_le ha inR_0).mpr z))
    exact h2 q1 (okp_t q1 hk) p e R s m args below meth c A D cI cB Z n0 ad0 ad H locs ls C hH hl ⟨hR.1, hR.2.1.2, hR.2.2⟩ hg hn
end ROWS
