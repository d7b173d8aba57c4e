/-! parts of the relation over the same cells -/
theorem hr_c {f f' : mj_I} {a : Nat} {s : Nat → Int32} (h : rl_hr f a s) (hx : ∀ b, a ≤ b → b < a + 9 → f' b = f b) : rl_hr f' a s := by
  obtain ⟨a1, a2, a3, a4⟩ := h
  refine ⟨by rw [hx a (by omega) (by omega)]; exact a1, fun j hj => by rw [hx (a + 1) (by omega) (by omega)]; exact a2 j hj, fun j hj => by rw [hx (a + 2) (by omega) (by omega)]; exact a3 j hj, fun k h1 h2 => by rw [hx (a + 4 + k) (by omega) (by omega)]; exact a4 k h1 h2⟩
theorem rows_c {f f' h h' : mj_I} (hR : rl_rows f h) (hx : ∀ b, 28 ≤ b → b < 44 → f' b = f b) (hm : ∀ b, 1 ≤ b → b < 4 → h' b = h b) : rl_rows f' h' := by
  intro r hr
  rw [hx (28 + 2 * r) (by omega) (by omega), hx (28 + 2 * r + 1) (by omega) (by omega), hm 1 (by omega) (by omega), hm 2 (by omega) (by omega), hm 3 (by omega) (by omega)]
  exact hR r hr
theorem tape_c {f f' h h' : mj_I} (hR : rl_tape f h) (hx : f' 2 1 = f 2 1) (hx3 : f' 3 = f 3) (hm : h' 0 8 = h 0 8) (hm6 : h' 6 = h 6) : rl_tape f' h' := by
  obtain ⟨n, q1, q2, q3, q4⟩ := hR
  exact ⟨n, q1, by rw [hx]; exact q2, by rw [hm]; exact q3, by rw [hx3, hm6]; exact q4⟩
theorem now_c {f f' h h' : mj_I} (hR : rl_now f h) (hx : ∀ b, 4 ≤ b → b < 13 → f' b = f b) (hm : h' 0 4 = h 0 4) (hm4 : h' 4 = h 4) : rl_now f' h' := by
  obtain ⟨q1, q2, q3⟩ := hR
  exact ⟨by rw [hx 4 (by omega) (by omega), hm]; exact q1, by rw [hm4]; exact hr_c q2 (fun b h1 h2 => hx b h1 h2), by rw [hm4]; exact q3⟩
theorem acts_c {f f' h h' : mj_I} (hR : rl_acts f h) (hx1 : f' 24 1 = f 24 1) (hx2 : f' 24 2 = f 24 2) (hx : f' 25 = f 25) (hm : h' 0 18 = h 0 18) (hm8 : h' 8 = h 8) (hm4 : ∀ j, j < 46 ∨ (49 ≤ j ∧ j < 56) → h' 4 j = h 4 j) : rl_acts f' h' := by
  obtain ⟨n, p, q1, q2, q3, q4, q5, q6⟩ := hR
  refine ⟨n, p, q1, q2, by rw [hx2]; exact q3, by rw [hm]; exact q4, by rw [hx1]; exact q5, fun i hi => ?_⟩
  obtain ⟨b1, b2, b3, b4, b5, b6⟩ := q6 i hi
  rw [hx, hm8]
  exact ⟨b1, fun j hj => by rw [hm4 j hj]; exact b2 j hj, b3, b4, b5, fun k h1 h2 => b6 k (by rw [hm4 50 (by omega)] at h1; exact h1) h2⟩
theorem imgs_c {f f' h h' : mj_I} (hR : rl_imgs f h) (hx : ∀ b, 44 ≤ b → b < 62 → f' b = f b) (hm12 : h' 12 = h 12) (hm13 : h' 13 = h 13) (hm4 : h 0 4 = 1 → h' 0 4 = 1) : rl_imgs f' h' := by
  intro k hk
  obtain ⟨q1, q2⟩ := hR k hk
  rw [hm12, hm13]
  exact ⟨by rw [hx _ (by omega) (by omega)]; exact q1, fun hz => ⟨hm4 (q2 hz).1, hr_c (q2 hz).2.1 (fun b h1 h2 => hx b (by omega) (by omega)), (q2 hz).2.2⟩⟩
theorem trace_c {f f' h h' : mj_I} (hR : rl_trace f h) (hx : f' 26 1 = f 26 1) (hx27 : f' 27 = f 27) (hm : h' 0 28 = h 0 28) (hm14 : h' 14 = h 14) : rl_trace f' h' := by
  obtain ⟨n, q1, q2, q3, q4⟩ := hR
  exact ⟨n, q1, by rw [hx]; exact q2, by rw [hm]; exact q3, by rw [hx27, hm14]; exact q4⟩
theorem isH_lt {a : Nat} (h : mx_isH a) : (4 ≤ a ∧ a + 9 ≤ 22) ∨ (44 ≤ a ∧ a + 9 ≤ 62) := by
  rcases h with rfl | rfl | rfl | rfl <;> omega
theorem bool_c {f f' : mj_I} (hR : rl_bool f) (hx : ∀ b, (4 ≤ b ∧ b < 22) ∨ (44 ≤ b ∧ b < 62) → f' b = f b) : rl_bool f' := by
  intro a ha
  have h1 := isH_lt ha
  obtain ⟨q1, q2⟩ := hR a ha
  exact ⟨by rw [hx a (by omega)]; exact q1, fun k hk => by rw [hx (a + 4 + k) (by omega)]; exact q2 k hk⟩
/-- the same memories but for scratch: the trial herd, the loner; status -/
theorem rel_scr {f f' h h' : mj_I} {g g' : mj_L} (hR : rel f h g) (hx : ∀ b, (1 ≤ b ∧ b < 13) ∨ (23 ≤ b ∧ b < 62) → f' b = f b) (hx0 : ∀ j, j ≠ 8 → f' 0 j = f 0 j) (hb : rl_bool f')
    (hm : ∀ b, (1 ≤ b ∧ b < 5) ∨ b = 6 ∨ b = 8 ∨ (12 ≤ b ∧ b < 15) → h' b = h b) (hm0 : ∀ j, j = 4 ∨ j = 8 ∨ j = 9 ∨ j = 18 ∨ j = 28 → h' 0 j = h 0 j) (hst : f' 0 8 = h' 0 3) : rel f' h' g' := by
  obtain ⟨h1, ⟨h2, h3⟩, h4, h5, h6, h7, h8, h9⟩ := hR
  exact ⟨rows_c h1 (fun b _ _ => hx b (by omega)) (fun b _ _ => hm b (by omega)), ⟨hst, by rw [hx0 9 (by omega), hm0 9 (by omega)]; exact h3⟩, tape_c h4 (by rw [hx 2 (by omega)]) (hx 3 (by omega)) (hm0 8 (by omega)) (hm 6 (by omega)), now_c h5 (fun b _ _ => hx b (by omega)) (hm0 4 (by omega)) (hm 4 (by omega)), acts_c h6 (by rw [hx 24 (by omega)]) (by rw [hx 24 (by omega)]) (hx 25 (by omega)) (hm0 18 (by omega)) (hm 8 (by omega)) (fun j _ => by rw [hm 4 (by omega)]), imgs_c h7 (fun b _ _ => hx b (by omega)) (hm 12 (by omega)) (hm 13 (by omega)) (fun z => by rw [hm0 4 (by omega)]; exact z), trace_c h8 (by rw [hx 26 (by omega)]) (hx 27 (by omega)) (hm0 28 (by omega)) (hm 14 (by omega)), hb⟩
