/-! texts: small steps of both readers -/
theorem e_T_nextOne {f : Nat} {c : Int} {N : oM} (h : N 1 4 = c) (hc : -1 ≤ c ∧ c ≤ 255) : p_T_nextOne f N = some (if 97 ≤ c ∧ c ≤ 106 then c - 97 else -1, N) := by
  unfold p_T_nextOne
  rw [h, w32_of (by omega) (by omega), lt_eq, e_O_isOne, Option.bind_some]
  by_cases q : 97 ≤ c ∧ c ≤ 106
  · rw [if_pos q, if_pos (show 0 ≤ c - 97 ∧ c - 97 < 10 by omega), if_neg (show ¬ ((1 : Int), N).fst = 0 from fun z => absurd (show (1 : Int) = 0 from z) (by decide))]
  · rw [if_neg q, if_neg (show ¬ (0 ≤ c - 97 ∧ c - 97 < 10) by omega), if_pos (show ((0 : Int), N).fst = 0 from rfl)]
theorem e_T_faultAt {f : Nat} {k p : Int} {N : oM} (hk : 0 ≤ k ∧ k ≤ 7) (hp : 0 ≤ p ∧ p ≤ 1000) : p_T_faultAt f k p N = some (-1000 * k - p, N) := by
  unfold p_T_faultAt
  rw [w32_of (a := -1000 * k) (by omega) (by omega), w32_of (by omega) (by omega)]
theorem e_T_fault {f : Nat} {k p : Int} {N : oM} (h : N 1 3 = p) (hk : 0 ≤ k ∧ k ≤ 7) (hp : 0 ≤ p ∧ p ≤ 1000) : p_T_fault f k N = some (-1000 * k - p, N) := by
  unfold p_T_fault
  rw [h, e_T_faultAt hk hp, Option.bind_some]
theorem e_M_wrongAt {f : Nat} {k p : Int} {M : oM} (hk : 0 ≤ k ∧ k ≤ 7) (hp : -1 ≤ p ∧ p ≤ 1000) : p_M_wrongAt f k p M = some (0, oU M 57 10 (-1000 * k - p)) := by
  unfold p_M_wrongAt
  rw [w32_of (a := -1000 * k) (by omega) (by omega), w32_of (by omega) (by omega), lt_eq]
theorem e_wrongB {f : Nat} {k p : Int} {M : oM} (hk : 0 ≤ k ∧ k ≤ 7) (hp : -1 ≤ p ∧ p ≤ 1000) : ((p_M_wrongAt f k p M).bind fun q => bnd 2 q.1 fun b => some (b, q.2)) = some (0, oU M 57 10 (-1000 * k - p)) := by
  rw [e_M_wrongAt hk hp, Option.bind_some]
  exact bnd_eq (Int.le_refl 0) (show (0 : Int) < 2 by decide)
theorem e_wrongR {S : Type} {f : Nat} {k p : Int} {M : oM} (hk : 0 ≤ k ∧ k ≤ 7) (hp : -1 ≤ p ∧ p ≤ 1000) : ((p_M_wrongAt f k p M).bind fun q => bnd 2 q.1 fun b => some (Sum.inr (α := S) (b, q.2))) = some (.inr (0, oU M 57 10 (-1000 * k - p))) := by
  rw [e_M_wrongAt hk hp, Option.bind_some]
  exact bnd_eq (Int.le_refl 0) (show (0 : Int) < 2 by decide)
theorem e_T_digit {f : Nat} {c : Int} {N : oM} (h : N 1 4 = c) : p_T_nextIsDigit f N = some (if 48 ≤ c ∧ c ≤ 57 then 1 else 0, N) := by
  unfold p_T_nextIsDigit
  rw [h]
  by_cases q : c < 48
  · rw [if_pos q, if_neg (show ¬ (48 ≤ c ∧ c ≤ 57) by omega)]
  · rw [if_neg q]
    by_cases q2 : 57 < c
    · rw [if_pos q2, if_neg (show ¬ (48 ≤ c ∧ c ≤ 57) by omega)]
    · rw [if_neg q2, if_pos (show 48 ≤ c ∧ c ≤ 57 by omega)]
theorem e_M_digit {f : Nat} {c : Int} {M : oM} (h : p_M_here f M = some (c, M)) : p_M_isDigit f M = some (if 48 ≤ c ∧ c ≤ 57 then 1 else 0, M) := by
  unfold p_M_isDigit
  rw [h, Option.bind_some]
  by_cases q : c < 48
  · rw [if_pos (show (c, M).fst < 48 from q), if_neg (show ¬ (48 ≤ c ∧ c ≤ 57) by omega)]
  · rw [if_neg (show ¬ (c, M).fst < 48 from q), show p_M_here f (c, M).snd = some (c, M) from h, Option.bind_some]
    by_cases q2 : 57 < c
    · rw [if_pos (show 57 < (c, M).fst from q2), if_neg (show ¬ (48 ≤ c ∧ c ≤ 57) by omega)]
    · rw [if_neg (show ¬ 57 < (c, M).fst from q2), if_pos (show 48 ≤ c ∧ c ≤ 57 by omega)]
theorem rdM_57 {b : Int → Int} {n p i v : Int} {M : oM} (h : rdM b n M p) (h8 : i ≠ 8) (h9 : i ≠ 9) : rdM b n (oU M 57 i v) p := by
  obtain ⟨h1, h2, h3, h4, h5⟩ := h
  exact ⟨h1, fun j j0 j1 => by rw [oU_o (by decide)]; exact h2 j j0 j1, by rw [oU_i (Ne.symm h9)]; exact h3, by rw [oU_i (Ne.symm h8)]; exact h4, h5⟩
theorem rdM_o {b : Int → Int} {n p i v : Int} {o : Nat} {M : oM} (h : rdM b n M p) (ho : (57 : Nat) ≠ o) (ho2 : (63 : Nat) ≠ o) : rdM b n (oU M o i v) p := by
  obtain ⟨h1, h2, h3, h4, h5⟩ := h
  exact ⟨h1, fun j j0 j1 => by rw [oU_o ho2]; exact h2 j j0 j1, by rw [oU_o ho]; exact h3, by rw [oU_o ho]; exact h4, h5⟩
theorem rdM_next {b : Int → Int} {n p : Int} {M : oM} (h : rdM b n M p) (hp : p < 1000) : rdM b n (oU M 57 8 (p + 1)) (p + 1) := by
  obtain ⟨h1, h2, h3, h4, h5, h6⟩ := h
  exact ⟨h1, fun j j0 j1 => by rw [oU_o (by decide)]; exact h2 j j0 j1, by rw [oU_i (by decide)]; exact h3, oU_at, by omega, by omega⟩
theorem rdC_o {b : Int → Int} {n p i v : Int} {o : Nat} {N : oM} (h : rdC b n N p) (ho : (1 : Nat) ≠ o) (ho2 : (2 : Nat) ≠ o) : rdC b n (oU N o i v) p := by
  obtain ⟨h1, h2, h3, h4, h5, h6⟩ := h
  exact ⟨h1, fun j j0 j1 => by rw [oU_o ho2]; exact h2 j j0 j1, by rw [oU_o ho]; exact h3, by rw [oU_o ho]; exact h4, by rw [oU_o ho]; exact h5, h6⟩
theorem chT_in {b : Int → Int} {n p : Int} (h : chT b n p ≠ -1) : p < n := by
  unfold chT at h
  by_cases q : p < n
  · exact q
  · rw [if_neg q] at h; exact absurd rfl h
theorem rdC_ch {b : Int → Int} {n p : Int} {N : oM} (h : rdC b n N p) : N 1 4 = chT b n p ∧ N 1 3 = p ∧ N 1 2 = n ∧ (0 ≤ p ∧ p ≤ 1000) ∧ (0 ≤ n ∧ n ≤ 260) := ⟨h.2.2.2.2.1, h.2.2.2.1, h.2.2.1, h.2.2.2.2.2, h.1⟩
theorem e_T_step1 {f : Nat} {b : Int → Int} {n p : Int} {N : oM} (h : rdC b n N p) (hp : p < n) : ∃ N', p_T_step f N = some (0, N') ∧ rdC b n N' (p + 1) ∧ eqo [(1, 3), (1, 4)] N N' := e_T_step h (by have := h.1; omega)
/-! DEBTS: a line by both -/
def wdC : List (Nat × Int) := [(1, 3), (1, 4), (38, (-1))]
def wdM : List (Nat × Int) := [(57, 8), (57, 10), (57, 11), (57, 31), (77, (-1))]
def dbT (T : Nat) (N M : oM) : Prop := (∀ i : Int, 0 ≤ i → i < 100 → N 38 i = M 77 i ∧ 0 ≤ N 38 i ∧ N 38 i ≤ 99) ∧ ∀ a b : Int, 0 ≤ a → a < 10 → 0 ≤ b → b < 10 → 0 < N 38 (10 * a + b) → tld T a ∧ tld T b ∧ a ≠ b
def dbR (T : Nat) (b : Int → Int) (n : Int) (N0 M0 : oM) (p line : Int) (N M : oM) : Prop := rdC b n N p ∧ rdM b n M p ∧ p ≤ n ∧ dbT T N M ∧ M 57 31 = line ∧ eqo wdC N0 N ∧ eqo wdM M0 M
/-- an answer of a reader of both: the same FAULT, or both go on -/
def ftQ (w w' : List (Nat × Int)) (N0 M0 : oM) (P : oM → oM → Prop) (q q' : Int × oM) : Prop := (q.1 ≠ 0 ∧ q'.1 = 0 ∧ q'.2 57 10 = q.1 ∧ eqo w N0 q.2 ∧ eqo w' M0 q'.2) ∨ (q.1 = 0 ∧ q'.1 = 1 ∧ P q.2 q'.2)
theorem dbT_put {T : Nat} {N M : oM} {a b v : Int} (h : dbT T N M) (ha : 0 ≤ a ∧ a < 10) (hb : 0 ≤ b ∧ b < 10) (hv : 0 ≤ v ∧ v ≤ 99) (ht : tld T a ∧ tld T b ∧ a ≠ b) : dbT T (oU N 38 (10 * a + b) v) (oU M 77 (10 * a + b) v) := by
  refine ⟨fun i i0 i1 => ?_, fun x y x0 x1 y0 y1 hp => ?_⟩
  · by_cases z : i = 10 * a + b
    · rw [z, oU_at, oU_at]; exact ⟨rfl, hv⟩
    · rw [oU_i z, oU_i z]; exact h.1 i i0 i1
  · by_cases z : 10 * x + y = 10 * a + b
    · have e1 : x = a := by omega
      have e2 : y = b := by omega
      rw [e1, e2]; exact ht
    · rw [oU_i z] at hp; exact h.2 x y x0 x1 y0 y1 hp
theorem e_readsPerson {f T : Nat} {b : Int → Int} {n p line first : Int} {M : oM} (h : rdM b n M p) (hT : M 57 5 = T) (hT' : T < 1024) (hl : M 57 31 = line) (hc : -1 ≤ chT b n p ∧ chT b n p ≤ 255) :
    p_M_readsPerson f first M = some (if 97 ≤ chT b n p ∧ chT b n p ≤ 106 then (if first ≠ 0 ∧ line = 30 then (0, oU M 57 10 (-4000 - p)) else (if tldb T (chT b n p - 97) = true then (1, oU (oU M 57 11 (chT b n p - 97)) 57 8 (p + 1)) else (0, oU (oU M 57 11 (chT b n p - 97)) 57 10 (-7000 - p)))) else (0, oU M 57 10 (-1000 - p))) := by
  have hh := e_M_here (f := f) h
  have hp := h.2.2.2
  generalize chT b n p = c at *
  have hB : 97 ≤ c ∧ c ≤ 106 → p_M_readsPerson_B47 f M = some (if tldb T (c - 97) = true then (1, oU (oU M 57 11 (c - 97)) 57 8 (p + 1)) else (0, oU (oU M 57 11 (c - 97)) 57 10 (-7000 - p))) := by
    intro hc97
    have e8 : oU M 57 11 (c - 97) 57 8 = p := (oU_i (by decide)).trans hp.1
    have e5 : oU M 57 11 (c - 97) 57 5 = T := (oU_i (by decide)).trans hT
    unfold p_M_readsPerson_B47
    rw [hh, Option.bind_some, show w32 ((c, M).fst - 97) = c - 97 from w32_of (by show -2147483648 ≤ c - 97; omega) (by show c - 97 < 2147483648; omega), lt_eq, oU_at, e_M_isPerson e5 hT', Option.bind_some]
    cases tldb T (c - 97)
    · rw [if_pos (show (b01 false, oU (c, M).snd 57 11 (c - 97)).fst = 0 from rfl), show (b01 false, oU (c, M).snd 57 11 (c - 97)).snd 57 8 = p from e8, e_wrongB (by decide) (by omega), if_neg (by decide)]
      rfl
    · rw [if_neg (show ¬ (b01 true, oU (c, M).snd 57 11 (c - 97)).fst = 0 from fun z => absurd (show (1 : Int) = 0 from z) (by decide)), show (b01 true, oU (c, M).snd 57 11 (c - 97)).snd 57 8 = p from e8, w32_of (by omega) (by omega), lt_eq, if_pos rfl]
  unfold p_M_readsPerson
  rw [hh, Option.bind_some, e_M_in, Option.bind_some]
  by_cases q : 97 ≤ c ∧ c ≤ 106
  · rw [show (decide (97 ≤ (c, M).fst) && decide ((c, M).fst ≤ 106)) = true from in_t q, if_neg (show ¬ (b01 true, (c, M).snd).fst = 0 from fun z => absurd (show (1 : Int) = 0 from z) (by decide)), if_pos q]
    by_cases q0 : first = 0
    · rw [if_pos q0, if_neg (show ¬ (first ≠ 0 ∧ line = 30) from fun z => z.1 q0)]
      exact hB q
    · rw [if_neg q0, show (b01 true, (c, M).snd).snd 57 31 = line from hl]
      by_cases q3 : line = 30
      · rw [if_pos q3, if_pos ⟨q0, q3⟩, show (b01 true, (c, M).snd).snd 57 8 = p from hp.1, e_wrongB (by decide) (by omega)]
        rfl
      · rw [if_neg q3, if_neg (show ¬ (first ≠ 0 ∧ line = 30) from fun z => q3 z.2)]
        exact hB q
  · rw [show (decide (97 ≤ (c, M).fst) && decide ((c, M).fst ≤ 106)) = false from in_f q, if_pos (show (b01 false, (c, M).snd).fst = 0 from rfl), if_neg q, show (b01 false, (c, M).snd).snd 57 8 = p from hp.1, e_wrongB (by decide) (by omega)]
    rfl
theorem e_takes {f : Nat} {b : Int → Int} {n p k : Int} {M : oM} (h : rdM b n M p) : p_M_takes f k M = some (if chT b n p = k then (1, oU M 57 8 (p + 1)) else (0, oU M 57 10 (-1000 - p))) := by
  have hh := e_M_here (f := f) h
  have hp := h.2.2.2
  unfold p_M_takes
  rw [hh, Option.bind_some]
  by_cases q : chT b n p = k
  · rw [if_pos (show (chT b n p, M).fst = k from q), if_pos q, show (chT b n p, M).snd 57 8 = p from hp.1, w32_of (by omega) (by omega), lt_eq]
  · rw [if_neg (show ¬ (chT b n p, M).fst = k from q), if_neg q, show (chT b n p, M).snd 57 8 = p from hp.1, e_wrongB (by decide) (by omega)]
    rfl
