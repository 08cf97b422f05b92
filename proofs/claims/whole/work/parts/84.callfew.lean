/-! call: fewest -/
theorem gG_congr {w w' : Nat → Int} (h : ∀ p, p < 10 → w p = w' p) (S : Nat) : gG w S = gG w' S := by
  induction S using Nat.strongRecOn with
  | ind S ih =>
    have e1 : smB w S 10 = smB w' S 10 := sumN_congr 10 fun p hp => by rw [h p hp]
    have e2 : mxN (fun p => if S.testBit p then gG w (S ^^^ 2 ^ p) else 0) 10 = mxN (fun p => if S.testBit p then gG w' (S ^^^ 2 ^ p) else 0) 10 := mxN_congr 10 fun p _ => by
      by_cases q : S.testBit p = true
      · rw [if_pos q, if_pos q, ih _ (xor_lt q)]
      · rw [if_neg q, if_neg q]
    rw [gG_eq, gG_eq]
    unfold gV
    rw [e1, e2]
def bcn (S : Nat) : Nat → Nat
  | 0 => 0
  | n + 1 => bcn S n + (if S.testBit n then 1 else 0)
theorem bcn_le (S n : Nat) : bcn S n ≤ n := by
  induction n with
  | zero => exact Nat.le_refl _
  | succ n ih => unfold bcn; split <;> omega
theorem bcn_nzs (w : Nat → Int) : bcn (nzs w 10) 12 = nzc w 10 := by
  have h : ∀ n, n ≤ 10 → bcn (nzs w 10) n = nzc w n := by
    intro n
    induction n with
    | zero => intro _; rfl
    | succ n ih =>
      intro hn
      show bcn (nzs w 10) n + (if (nzs w 10).testBit n then 1 else 0) = nzc w n + (if w n = 0 then 0 else 1)
      rw [ih (Nat.le_of_succ_le hn), nzs_bit, decide_eq_true (show n < 10 from hn)]
      by_cases q : w n = 0 <;> simp [q]
  show bcn (nzs w 10) 10 + (if (nzs w 10).testBit 10 then 1 else 0) + (if (nzs w 10).testBit 11 then 1 else 0) = _
  rw [h 10 (Nat.le_refl _), nzs_bit, nzs_bit]
  simp
theorem nzs_ltk (w : Nat → Int) : ∀ k : Nat, k ≤ 10 → nzs w k < 1024 := by
  intro k
  induction k with
  | zero => intro _; show (0 : Nat) < 1024; decide
  | succ n ih =>
    intro hn
    show (if w n = 0 then nzs w n else nzs w n ||| 2 ^ n) < 1024
    split
    · exact ih (Nat.le_of_succ_le hn)
    · exact or_lt10 (ih (Nat.le_of_succ_le hn)) (pow_lt10 hn)
theorem nzs_lt (w : Nat → Int) : nzs w 10 < 1024 := nzs_ltk w 10 (Nat.le_refl _)
theorem bits_step {f S k b : Nat} {M : oM} (hS : S < 1024) (hk : k < 12) (hb : b ≤ k) : p_M_bits_L4 f S ((b : Int), (k : Int), M) = some (.inl (((b + (if S.testBit k then 1 else 0) : Nat) : Int), ((k + 1 : Nat) : Int), M)) := by
  unfold p_M_bits_L4
  simp only []
  rw [if_pos (show (k : Int) < 12 by omega), bit_ask (lt31 hS) (Nat.lt_trans hk (by decide)), lt_eq, lt_eq, w32nat (Nat.lt_trans hk (by decide))]
  by_cases q : S.testBit k = true
  · rw [if_pos q, if_pos q, w32nat (Nat.lt_of_le_of_lt hb (Nat.lt_trans hk (by decide)))]
  · rw [if_neg q, if_neg q, Int.add_zero, Nat.add_zero b, w32_of (by omega) (by omega)]
theorem e_M_bits {f S : Nat} {M : oM} (hf : 2000 < f) (hS : S < 1024) : p_M_bits f S M = some (((bcn S 12 : Nat) : Int), M) := by
  have hr : okp (p_M_bits f S M) (fun q => q = (((bcn S 12 : Nat) : Int), M)) := by
    unfold p_M_bits
    refine for_ok 12 (fun k s => s = (((bcn S k : Nat) : Int), (k : Int), M)) (fun k s hk hI => ?_) (fun s hI => ?_) f (Nat.lt_trans (by decide) hf) rfl
    · rw [hI, bits_step hS hk (bcn_le S k)]
      rfl
    · rw [hI]
      unfold p_M_bits_L4
      simp only []
      rw [if_neg (show ¬ (((12 : Nat) : Int) < 12) by decide)]
      rfl
  obtain ⟨q, eq, h1⟩ := okp_ex hr
  rw [eq, h1]
theorem e_M_fewest {f : Nat} {M : oM} (hf : 2000 < f) (hd : dOk (M 58)) : ∃ N, p_M_fewest f M = some ((10 : Int) - (gG (wOf (M 58)) 1023 : Int), N) ∧ eqo [(93, (-1)), (94, (-1))] M N := by
  have hw : ∀ p, p < 10 → -990 ≤ wOf (M 58) p ∧ wOf (M 58) p ≤ 990 := fun p hp => wOf_bd hd hp
  obtain ⟨N, e1, h1, h2⟩ := e_M_laysGroups (f := f) (M := M) hf hd (fun p _ => rfl) hw
  rw [fewest_math]
  have hr : okp (p_M_fewest f M) (fun q => q = ((nzc (wOf (M 58)) 10 : Int) - (gG (wOf (M 58)) (nzs (wOf (M 58)) 10) : Int), N)) := by
    have hset : ∀ p : Nat, p < 10 → p_M_setOffOf f p M = some (wOf (M 58) p, M) := fun p hp => e_M_setOffOf hf hp hd
    generalize wOf (M 58) = w at *
    unfold p_M_fewest
    have hlt := nzs_ltk w
    refine for_ok 10 (fun k s => s = (((nzs w k : Nat) : Int), (k : Int), M)) (fun k s hk hI => ?_) (fun s hI => ?_) f (Nat.lt_trans (by decide) hf) rfl
    · have hA : ∀ a : Int, p_M_fewest_B24_4 f a k M = some (.inl (a, ((k + 1 : Nat) : Int), M)) := fun a => by
        unfold p_M_fewest_B24_4
        rw [lt_eq, w32nat (Nat.lt_trans hk (by decide))]
      rw [hI]
      unfold p_M_fewest_L4
      simp only []
      rw [if_pos (nat9 hk).2, hset k hk]
      simp only [Option.bind_some]
      by_cases q : w k = 0
      · rw [if_pos q, hA]
        show (_ : _ × _ × oM) = _
        rw [show nzs w (k + 1) = nzs w k from if_pos q]
      · rw [if_neg q, ishl1 (Nat.lt_trans hk (by decide)), ior_nat (lt31 (hlt k (Nat.le_of_lt hk))) (lt31 (pow_lt10 hk)), lt_eq, hA]
        show (_ : _ × _ × oM) = _
        rw [show nzs w (k + 1) = nzs w k ||| 2 ^ k from if_neg q]
    · rw [hI]
      unfold p_M_fewest_L4
      simp only []
      rw [if_neg (show ¬ (((10 : Nat) : Int) < 10) by decide), e1]
      simp only [Option.bind_some]
      rw [e_M_bits hf (nzs_lt w)]
      simp only [Option.bind_some]
      rw [bnd_eq (Int.natCast_nonneg _) (nat1024 (nzs_lt w)), h1 _ (nzs_lt w), bcn_nzs]
      have b1 : gG w (nzs w 10) < 1024 := Nat.lt_of_le_of_lt (gG_le _) (nzs_lt w)
      have b2 : nzc w 10 ≤ 12 := bcn_nzs w ▸ bcn_le _ 12
      generalize gG w (nzs w 10) = x at *
      generalize nzc w 10 = y at *
      rw [w32_of (by clear h1 hset hw hlt; omega) (by clear h1 hset hw hlt; omega)]
      rfl
  obtain ⟨q, eq, h⟩ := okp_ex hr
  rw [eq, h]
  exact ⟨N, rfl, h2⟩
theorem call_fewest {f T : Nat} {c : Int} {Mc Mr : oM} (hf : 2000 < f) (h : Rel T c Mc Mr) : Same f c (p_O_fewest f Mc) (p_M_fewest f Mr) := by
  obtain ⟨hp, hd, ho, -⟩ := id h
  obtain ⟨N, e1, h1, h2⟩ := e_fewestPayings (f := f) hf (dC_dOk hd ho) h.2.2.2.2.2.2
  obtain ⟨N', e2, h3⟩ := e_M_fewest (f := f) hf (rOk_dOk ho)
  have ew : wOf (Mc (6 + 1)) = wOf (Mc 7) := rfl
  have eg : gG (wOf (Mc 7)) 1023 = gG (wOf (Mr 58)) 1023 := gG_congr (fun p hp => wOf_congr hp hd.1) 1023
  have e0 : p_O_fewest f Mc = some ((10 : Int) - (gG (wOf (Mc 7)) 1023 : Int), N) := by
    unfold p_O_fewest
    rw [e1]; rfl
  rw [eg] at e0
  exact same_upd e0 e2 ⟨T, Rel_eqo h h2 h3 (by decide) (fun i _ _ => eqo_a h3 58 rfl ▸ rfl) h1⟩
