/-! the first memories -/
theorem hr_zero {f : mj_I} {a : Nat} {s : Nat → Int32} (hf : ∀ b j, a ≤ b → f b j = 0) (hs : ∀ j, s j = 0) : rl_hr f a s := by
  have e : ∀ b j q, a ≤ b → f b j = s q := fun b j q hb => by rw [hf b j hb, hs q]
  refine ⟨⟨e _ _ _ (by omega), e _ _ _ (by omega), e _ _ _ (by omega), e _ _ _ (by omega), e _ _ _ (by omega), e _ _ _ (by omega), e _ _ _ (by omega)⟩, fun j _ => e _ _ _ (by omega), fun j _ => e _ _ _ (by omega), fun k h1 h2 => ?_⟩
  rw [hs] at h1
  exact absurd h1 (nI_pos (by omega))
theorem hv_zero {N : Nat} {s : Nat → Int32} (hN : 0 < N) (hs : ∀ j, s j = 0) : rl_hv N s := by
  have e : ∀ q n, 0 < n → mj_in (s q) n = true := fun q n hn => by
    rw [hs q]
    rw [mj_in_iff]
    have : (0 : Int32).toInt = 0 := rfl
    omega
  refine ⟨e _ _ (by omega), e _ _ hN, fun j _ => e _ _ (by omega), fun j _ => e _ _ (by omega), fun k h1 h2 => ?_⟩
  rw [hs] at h1
  exact absurd h1 (nI_pos (by omega))
theorem my_f8 {b : Nat} (h : b ≠ 2) (j : Nat) : my_f 8 b j = 0 := by
  unfold my_f
  rw [if_neg (fun q => h q.1)]
theorem rel_first : rel mx_f0 (my_f 8) mj_zl := by
  have x0 : ∀ b j, b ≠ 2 → mx_f0 b j = 0 := fun b j h => mx_f0_z h j
  have m0 : ∀ b j, b ≠ 2 → my_f 8 b j = 0 := fun b j h => my_f8 h j
  have x2 : mx_f0 2 1 = nI 0 := by
    unfold mx_f0
    rw [wr_ne _ _ (by omega)]
    rfl
  have n0 : nI 0 = (0 : Int32) := rfl
  have b0 : mj_b 0 = true := by decide
  refine ⟨?_, ⟨?_, ?_⟩, ?_, ?_, ?_, ?_, ?_, ?_⟩
  · intro r hr
    refine Or.inl ⟨x0 _ _ (by omega), ?_⟩
    unfold my_f
    rw [if_pos ⟨rfl, hr⟩]
  · rw [x0 0 8 (by omega), m0 0 3 (by omega)]
  · rw [x0 0 9 (by omega), m0 0 9 (by omega)]
  · exact ⟨0, by omega, x2, by rw [m0 0 8 (by omega), n0], fun i hi => by omega⟩
  · refine ⟨by rw [x0 4 0 (by omega), m0 0 4 (by omega)], hr_zero (fun b j hb => x0 b j (by omega)) (fun j => m0 4 j (by omega)), hv_zero (by omega) (fun j => m0 4 j (by omega))⟩
  · exact ⟨0, 0, by omega, by omega, by rw [x0 24 2 (by omega), n0], by rw [m0 0 18 (by omega), n0], by rw [x0 24 1 (by omega), n0], fun i hi => by omega⟩
  · intro k hk
    exact ⟨by rw [x0 _ _ (by omega), m0 12 k (by omega)], fun z => absurd (m0 12 k (by omega)) z⟩
  · exact ⟨0, by omega, by rw [x0 26 1 (by omega), n0], by rw [m0 0 28 (by omega), n0], fun i hi => by omega⟩
  · intro a ha
    have hl := isH_lt ha
    exact ⟨by rw [x0 a 0 (by omega)]; exact b0, fun k hk => ⟨by rw [x0 _ _ (by omega)]; exact b0, by rw [x0 _ _ (by omega)]; exact b0⟩⟩
