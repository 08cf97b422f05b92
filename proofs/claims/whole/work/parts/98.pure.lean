/-! THE WALKED PROGRAMS AS FUNCTIONS AGREE, on every script -/
theorem pure_law {L : Nat} (hL : L ≤ 3072) (xs : Nat → Int) (hxs : ∀ k, inR (xs k)) : ∃ f : Nat, okp (p_W_law f L xs 0 oM0) (fun q => q.1 = 1) := by
  refine ⟨100000, ?_⟩
  have hL' : (L : Int) ≤ 3072 := Int.ofNat_le.mpr hL
  obtain ⟨N, hN⟩ : ∃ N : Nat, N = L / 6 := ⟨_, rfl⟩
  unfold p_W_law
  generalize hF : (100000 : Nat) = F
  have hf : 50000 < F := by omega
  refine for_ok N (fun (k : Nat) (s : Int × oM) => s.1 = 6 * (k : Int) ∧ ∃ T, Rel T (k : Int) s.2 s.2) (fun k s hk hI => ?_) (fun s hI => ?_) F (by omega) ⟨rfl, 0, Rel_start⟩
  · obtain ⟨l3, M⟩ := s
    obtain ⟨h1, T, h2⟩ := hI
    refine okp_mono (W_step (T := T) hf hL hxs h1 (by have := h1; simp only at this; omega) h2) fun y hy => ?_
    obtain ⟨T', M', rfl, h3⟩ := hy
    exact ⟨by show 6 * (k : Int) + 6 = 6 * ((k + 1 : Nat) : Int); omega, T', h3⟩
  · obtain ⟨l3, M⟩ := s
    obtain ⟨h1, -⟩ := hI
    simp only at h1
    unfold p_W_law_L18
    simp only []
    rw [w32_of (a := (L : Int) - 6) (by omega) (by omega), if_pos (by omega)]
    exact rfl
