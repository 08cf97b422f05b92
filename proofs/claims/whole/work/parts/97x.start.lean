/-! THE START: what the constructors leave -/
theorem m58 (i : Int) : oM0 58 i = oU (oU (oU (fun _ _ => 0) 58 158 1) 58 151 (-2)) 58 153 (-2) 58 i := rfl
theorem m58z {i : Int} (h1 : i ≠ 151) (h2 : i ≠ 153) (h3 : i ≠ 158) : oM0 58 i = 0 := by
  rw [m58, oU_i h2, oU_i h1, oU_i h3]
theorem Rel_start : Rel 0 ((0 : Nat) : Int) oM0 oM0 := by
  have e151 : oM0 58 151 = -2 := by rw [m58, oU_i (by decide), oU_at]
  have e153 : oM0 58 153 = -2 := by rw [m58, oU_at]
  have e158 : oM0 58 158 = 1 := by rw [m58, oU_i (by decide), oU_i (by decide), oU_at]
  have e150 : oM0 58 150 = 0 := m58z (by decide) (by decide) (by decide)
  have e152 : oM0 58 152 = 0 := m58z (by decide) (by decide) (by decide)
  have e154 : oM0 58 154 = 0 := m58z (by decide) (by decide) (by decide)
  have e155 : oM0 58 155 = 0 := m58z (by decide) (by decide) (by decide)
  have e156 : oM0 58 156 = 0 := m58z (by decide) (by decide) (by decide)
  have e157 : oM0 58 157 = 0 := m58z (by decide) (by decide) (by decide)
  refine ⟨⟨by decide, rfl, rfl, fun i i0 i1 => ?_, fun i i0 i1 => ?_, fun i i0 i1 => ⟨rfl, rfl⟩⟩, ?_, ?_, ⟨.inl rfl, rfl, fun h => absurd (show (0 : Int) = 1 from h) (by decide)⟩, ⟨⟨Int.le_refl 0, by decide⟩, rfl, fun i i0 i1 => ?_⟩, ⟨rfl, ⟨Int.le_refl 0, by decide⟩, 0, by decide, fun i i0 i1 => by omega, fun q q0 q1 => ?_⟩, rfl⟩
  · show 0 ≤ (0 : Int) ∧ (0 : Int) ≤ _
    decide
  · show 0 ≤ (0 : Int) ∧ (0 : Int) ≤ _
    decide
  · unfold dC
    rw [e150, e151, e152, e153, e154, e155, e156, e157, e158]
    refine ⟨fun i i0 i1 => ?_, fun i i0 i1 => ?_, fun i i0 i1 => by omega, rfl, rfl, fun h => by omega, rfl, rfl, rfl, rfl, rfl, rfl⟩
    · rw [m58z (by omega) (by omega) (by omega)]; rfl
    · rw [m58z (by omega) (by omega) (by omega)]; rfl
  · unfold rOk
    rw [e150, e151, e152, e153, e154, e155, e156, e157, e158]
    refine ⟨fun i i0 i1 => ?_, fun a b a0 a1 b0 b1 h => ?_, fun i i0 i1 => ?_, by decide, fun i i0 i1 => by omega, .inl rfl, by decide, fun h => by omega, fun _ => rfl, by decide, by decide, .inl rfl, by decide⟩
    · rw [m58z (by omega) (by omega) (by omega)]; decide
    · rw [m58z (by omega) (by omega) (by omega)] at h; omega
    · rw [m58z (by omega) (by omega) (by omega)]
      exact ⟨Int.le_refl 0, by decide, fun h => by omega⟩
  · have : oM0 1 1 = 0 := rfl
    omega
  · have : oM0 18 10 = 0 := rfl
    omega
