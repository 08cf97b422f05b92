/-! THE LAW: a rule by both -/
def flQ (w w' : List (Nat × Int)) (N0 M0 : oM) (P : oM → oM → Prop) (q q' : Int × oM) : Prop := (q.1 < 0 ∧ q'.1 = 0 ∧ q'.2 57 10 = q.1 ∧ eqo w N0 q.2 ∧ eqo w' M0 q'.2) ∨ (q.1 = 0 ∧ q'.1 = 1 ∧ P q.2 q'.2)
def lwC : List (Nat × Int) := [(1, 3), (1, 4), (27, 9), (27, 10), (28, (-1)), (29, (-1)), (30, (-1)), (31, (-1)), (32, (-1)), (33, (-1))]
def lwM : List (Nat × Int) := [(57, 8), (57, 10), (57, 11), (57, 12), (57, 13), (57, 14), (57, 15), (64, (-1)), (65, (-1)), (66, (-1)), (67, (-1)), (68, (-1)), (69, (-1))]
def rl1 (z : Int) (N M : oM) (q : Int) : Prop := M 66 q = N 30 q ∧ M 67 q = N 31 q ∧ M 68 q = N 32 q ∧ M 69 q = N 33 q ∧ (0 ≤ N 31 q ∧ N 31 q ≤ N 32 q ∧ N 32 q ≤ N 33 q ∧ N 33 q ≤ z) ∧ (N 30 q ≠ 115 → Sg (N 28) (N 29) (N 31 q) (N 32 q) [] [false]) ∧ Sg (N 28) (N 29) (N 32 q) (N 33 q) [] [true]
def lwR (b : Int → Int) (n : Int) (N0 M0 : oM) (p k z : Int) (N M : oM) : Prop := rdC b n N p ∧ rdM b n M p ∧ (p ≤ n ∧ n ≤ 240) ∧ (N 27 9 = z ∧ M 57 13 = z ∧ 0 ≤ z ∧ z ≤ p) ∧ (N 27 10 = k ∧ M 57 15 = k ∧ 0 ≤ k ∧ k ≤ 16) ∧ cdR 0 z N M ∧ (∀ q : Int, 0 ≤ q → q < k → rl1 z N M q) ∧ eqo lwC N0 N ∧ eqo lwM M0 M
def rlP (b : Int → Int) (n : Int) (N0 M0 : oM) (p k : Int) (N' M' : oM) : Prop := ∃ p' z', p < p' ∧ lwR b n N0 M0 p' (k + 1) z' N' M'
theorem lg_lwC {N0 N N' : oM} (h : eqo lwC N0 N) (h' : eqo lgC N N') : eqo lwC N0 N' := eqo_tr (subw_cons (.head _) (subw_cons (.tail _ (.head _)) (subw_cons (.tail _ (.tail _ (.head _))) (subw_cons (.tail _ (.tail _ (.tail _ (.tail _ (.head _))))) (subw_cons (.tail _ (.tail _ (.tail _ (.tail _ (.tail _ (.head _)))))) subw_nil))))) h h'
theorem lg_lwM {M0 M M' : oM} (h : eqo lwM M0 M) (h' : eqo lgM M M') : eqo lwM M0 M' := eqo_tr (subw_cons (.head _) (subw_cons (.tail _ (.head _)) (subw_cons (.tail _ (.tail _ (.head _))) (subw_cons (.tail _ (.tail _ (.tail _ (.head _)))) (subw_cons (.tail _ (.tail _ (.tail _ (.tail _ (.head _))))) (subw_cons (.tail _ (.tail _ (.tail _ (.tail _ (.tail _ (.head _)))))) (subw_cons (.tail _ (.tail _ (.tail _ (.tail _ (.tail _ (.tail _ (.tail _ (.head _)))))))) (subw_cons (.tail _ (.tail _ (.tail _ (.tail _ (.tail _ (.tail _ (.tail _ (.tail _ (.head _))))))))) subw_nil)))))))) h h'
theorem rule_cond {f : Nat} {b : Int → Int} {n p0 p1 z1 k : Int} {N0 M0 N4 M4 : oM} (hf : 2000 < f) (hp : p0 < p1) (hR : nuR b n N4 M4 p1 z1 0 0 0 N4 M4) (hk : N4 27 10 = k ∧ M4 57 15 = k ∧ 0 ≤ k ∧ k < 16) (h30 : M4 66 k = N4 30 k) (h31 : M4 67 k = N4 31 k ∧ 0 ≤ N4 31 k ∧ N4 31 k ≤ z1) (hS : N4 30 k ≠ 115 → Sg (N4 28) (N4 29) (N4 31 k) z1 [] [false]) (hc : cdR 0 z1 N4 M4) (hq : ∀ q : Int, 0 ≤ q → q < k → rl1 z1 N4 M4 q) (hN : eqo lwC N0 N4) (hM : eqo lwM M0 M4) :
    okp (p_LR_readRule_B104 f k 0 N4) (fun q => okp (p_M_readsRule_B116 f M4) (fun q' => flQ lwC lwM N0 M0 (rlP b n N0 M0 p0 k) q q')) := by
  obtain ⟨h1, h2, h3, h4, h5, h6, h7, h8⟩ := id hR
  have hch := rdC_ch h1
  obtain ⟨M5, hM5⟩ : ∃ M5, M5 = oU M4 68 k z1 := ⟨_, rfl⟩
  have hR5 : nuR b n N4 M5 p1 z1 0 0 0 N4 M5 := by
    rw [hM5]
    refine ⟨h1, rdM_o h2 (by decide) (by decide), h3, ⟨h4.1, ?_, h4.2.2⟩, ⟨?_, h5.2⟩, ⟨?_, h6.2⟩, h7, fun _ _ _ => rfl⟩
    · rw [oU_o (by decide)]; exact h4.2.1
    · rw [oU_o (by decide)]; exact h5.1
    · rw [oU_o (by decide)]; exact h6.1
  have hM5f : eqo lwM M0 M5 := by
    rw [hM5]
    exact eqo_oUa (.tail _ (.tail _ (.tail _ (.tail _ (.tail _ (.tail _ (.tail _ (.tail _ (.tail _ (.tail _ (.tail _ (.head _)))))))))))) hM
  have hB : p_M_readsRule_B116 f M4 = (p_M_readsCondition f M5).bind fun q3 => if q3.1 = 0 then (some (0, q3.2)) else (bnd 16 (q3.2 57 15) fun i4 => lt (oU q3.2 69 i4 (q3.2 57 13)) fun M5 => lt (oU M5 57 15 (w32 ((M5 57 15) + 1))) fun M6 => some (1, M6)) := by
    unfold p_M_readsRule_B116
    rw [hk.2.1, bnd_eq hk.2.2.1 hk.2.2.2, h4.2.1, lt_eq, ← hM5]
  unfold p_LR_readRule_B104
  rw [if_pos rfl, e_next h1, Option.bind_some]
  by_cases q40 : chT b n p1 = 40
  · obtain ⟨N1, a1, a2, a3, a4⟩ := cr_ok (f := f) hf hR5 q40
    have hN2 : eqo [(32, (-1))] N1 (oU N1 32 k z1) := eqo_oUa (.head _) (fun _ _ _ => rfl)
    rw [if_pos (show (chT b n p1, N4).fst = 40 from q40), show p_T_step f (chT b n p1, N4).snd = _ from a1, Option.bind_some, bnd_eq hk.2.2.1 hk.2.2.2, show ((0 : Int), N1).snd 27 9 = z1 from a2, lt_eq]
    have hN2f : eqo lwC N0 (oU N1 32 k z1) := eqo_oUa (.tail _ (.tail _ (.tail _ (.tail _ (.tail _ (.tail _ (.tail _ (.tail _ (.head _))))))))) (eqo_tr (subw_cons (.head _) (subw_cons (.tail _ (.head _)) subw_nil)) hN a3)
    refine okp_bind' (okp_mono (a4 (oU N1 32 k z1) hN2) fun q hq' => ?_)
    rw [hB]
    rcases hq' with ⟨g1, g2, M'', g3, g4, g5⟩ | ⟨g1, p', z', Mc, g2, g3, g4, g5⟩
    · rw [if_neg (Int.ne_of_lt g1), g3, Option.bind_some, if_pos (show ((0 : Int), M'').fst = 0 from rfl)]
      exact Or.inl ⟨g1, rfl, g4, lg_lwC hN2f g2.1, lg_lwM hM5f g5⟩
    · obtain ⟨c1, c2, c3, c4, c5, c6, c7, c8⟩ := id g4
      have e15 : Mc 57 15 = k := by rw [eqo_f c8 57 15 rfl, hM5, oU_o (by decide)]; exact hk.2.1
      have e15' : oU Mc 69 k z' 57 15 = k := (oU_o (by decide)).trans e15
      rw [if_pos g1, bnd_eq hk.2.2.1 hk.2.2.2, c4.1, lt_eq, w32_of (a := k + 1) (by omega) (by omega), lt_eq, g3, Option.bind_some, if_neg (show ¬ ((1 : Int), Mc).fst = 0 from n10), show ((1 : Int), Mc).snd 57 15 = k from e15, bnd_eq hk.2.2.1 hk.2.2.2, show ((1 : Int), Mc).snd 57 13 = z' from c4.2.1, lt_eq, show oU ((1 : Int), Mc).snd 69 k z' 57 15 = k from e15', w32_of (a := k + 1) (by omega) (by omega), lt_eq]
      obtain ⟨N6, hN6⟩ : ∃ N6, N6 = oU (oU q.2 33 k z') 27 10 (k + 1) := ⟨_, rfl⟩
      obtain ⟨M6, hM6⟩ : ∃ M6, M6 = oU (oU Mc 69 k z') 57 15 (k + 1) := ⟨_, rfl⟩
      have r28 : N6 28 = q.2 28 := by rw [hN6, oU_row (by decide), oU_row (by decide)]
      have r29 : N6 29 = q.2 29 := by rw [hN6, oU_row (by decide), oU_row (by decide)]
      have m64 : M6 64 = Mc 64 := by rw [hM6, oU_row (by decide), oU_row (by decide)]
      have r30 : N6 30 = N4 30 := by rw [hN6, oU_row (by decide), oU_row (by decide), eqo_a c7 30 rfl, oU_row (by decide), eqo_a a3 30 rfl]
      have r31 : N6 31 = N4 31 := by rw [hN6, oU_row (by decide), oU_row (by decide), eqo_a c7 31 rfl, oU_row (by decide), eqo_a a3 31 rfl]
      have r32k : N6 32 k = z1 := by rw [hN6, oU_o (by decide), oU_o (by decide), eqo_a c7 32 rfl, oU_at]
      have r32 : ∀ i : Int, i ≠ k → N6 32 i = N4 32 i := fun i hi => by rw [hN6, oU_o (by decide), oU_o (by decide), eqo_a c7 32 rfl, oU_i hi, eqo_a a3 32 rfl]
      have r33k : N6 33 k = z' := by rw [hN6, oU_o (by decide), oU_at]
      have r33 : ∀ i : Int, i ≠ k → N6 33 i = N4 33 i := fun i hi => by rw [hN6, oU_o (by decide), oU_i hi, eqo_a c7 33 rfl, oU_o (by decide), eqo_a a3 33 rfl]
      have m66 : M6 66 = M4 66 := by rw [hM6, oU_row (by decide), oU_row (by decide), eqo_a c8 66 rfl, hM5, oU_row (by decide)]
      have m67 : M6 67 = M4 67 := by rw [hM6, oU_row (by decide), oU_row (by decide), eqo_a c8 67 rfl, hM5, oU_row (by decide)]
      have m68k : M6 68 k = z1 := by rw [hM6, oU_o (by decide), oU_o (by decide), eqo_a c8 68 rfl, hM5, oU_at]
      have m68 : ∀ i : Int, i ≠ k → M6 68 i = M4 68 i := fun i hi => by rw [hM6, oU_o (by decide), oU_o (by decide), eqo_a c8 68 rfl, hM5, oU_i hi]
      have m69k : M6 69 k = z' := by rw [hM6, oU_o (by decide), oU_at]
      have m69 : ∀ i : Int, i ≠ k → M6 69 i = M4 69 i := fun i hi => by rw [hM6, oU_o (by decide), oU_i hi, eqo_a c8 69 rfl, hM5, oU_o (by decide)]
      have hz1 := g5.1
      have hold := g5.2.1
      have hSg : ∀ {a c : Int} {σ : List Bool}, Sg (N4 28) (N4 29) a c [] σ → c ≤ z1 → Sg (N6 28) (N6 29) a c [] σ := fun h hcz => Sg_congr h fun i i0 i1 => by
        have := hold i (by omega)
        rw [r28, r29]
        exact ⟨this.1, this.2.1⟩
      have e564 : M5 64 = M4 64 := by rw [hM5, oU_row (by decide)]
      rw [g1, ← hN6, show oU (oU ((1 : Int), Mc).snd 69 k z') 57 15 (k + 1) = M6 from hM6.symm]
      refine Or.inr ⟨rfl, rfl, p', z', by omega, ?_, ?_, c3, ⟨?_, ?_, by omega, by omega⟩, ⟨?_, ?_, by omega, by omega⟩, fun i i0 i1 => ?_, fun i i0 i1 => ?_, ?_, ?_⟩
      · show rdC b n N6 p'
        rw [hN6]; exact rdC_o (rdC_o c1 (by decide) (by decide)) (by decide) (by decide)
      · show rdM b n M6 p'
        rw [hM6]; exact rdM_57 (rdM_o c2 (by decide) (by decide)) (by decide) (by decide)
      · show N6 27 9 = z'
        rw [hN6, oU_i (by decide), oU_o (by decide)]; exact c4.1
      · show M6 57 13 = z'
        rw [hM6, oU_i (by decide), oU_o (by decide)]; exact c4.2.1
      · show N6 27 10 = k + 1
        rw [hN6, oU_at]
      · show M6 57 15 = k + 1
        rw [hM6, oU_at]
      · show (0 ≤ N6 29 i ∧ N6 29 i < 1048576) ∧ M6 64 i = 1048576 * opn (N6 28 i) + N6 29 i
        rw [r28, r29, m64]
        by_cases qz : i < z1
        · have e := hold i qz
          rw [e.1, e.2.1, e.2.2, e564]
          exact hc i i0 qz
        · exact g5.2.2.1 i (by omega) i1
      · show rl1 z' N6 M6 i
        by_cases qk : i = k
        · subst qk
          unfold rl1
          rw [m66, m67, m68k, m69k, r30, r31, r32k, r33k]
          refine ⟨h30, h31.1, rfl, rfl, by omega, fun h => hSg (hS h) (Int.le_refl z1), ?_⟩
          rw [r28, r29]
          exact g5.2.2.2
        · obtain ⟨k1, k2, k3, k4, k5, k6, k7⟩ := hq i i0 (by omega)
          unfold rl1
          rw [m66, m67, m68 i qk, m69 i qk, r30, r31, r32 i qk, r33 i qk]
          exact ⟨k1, k2, k3, k4, by omega, fun h => hSg (k6 h) (by omega), hSg k7 (by omega)⟩
      · show eqo lwC N0 N6
        rw [hN6]
        exact eqo_oU (.tail _ (.tail _ (.tail _ (.head _)))) (eqo_oUa (.tail _ (.tail _ (.tail _ (.tail _ (.tail _ (.tail _ (.tail _ (.tail _ (.tail _ (.head _)))))))))) (lg_lwC hN2f c7))
      · show eqo lwM M0 M6
        rw [hM6]
        exact eqo_oU (.tail _ (.tail _ (.tail _ (.tail _ (.tail _ (.tail _ (.head _))))))) (eqo_oUa (.tail _ (.tail _ (.tail _ (.tail _ (.tail _ (.tail _ (.tail _ (.tail _ (.tail _ (.tail _ (.tail _ (.tail _ (.head _))))))))))))) (lg_lwM hM5f c8))
  · rw [if_neg (show ¬ (chT b n p1, N4).fst = 40 from q40), show p_T_fault f 1 (chT b n p1, N4).snd = _ from e_T_fault hch.2.1 (by decide) hch.2.2.2.1, Option.bind_some, hB, e_crM0 hR5.2.1 q40, Option.bind_some, if_pos (show ((0 : Int), oU M5 57 10 (-1000 * 1 - p1)).fst = 0 from rfl)]
    exact Or.inl ⟨by show -1000 * 1 - p1 < 0; omega, rfl, at_snd (x := 0), hN, eqo_oU (.tail _ (.head _)) hM5f⟩
