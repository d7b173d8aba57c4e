/-! a HERD copied; the trial herd of the first memory and the row put aside of the second -/
theorem cb_ok {b0 b1 : Nat} {f : mj_I} (hne : b1 ≠ b0) (h4 : mj_b (f b1 4) = true) (h5 : mj_b (f b1 5) = true) : ∃ f', g_X1_become b0 b1 f = some f' ∧ (∀ b, b ≠ b0 → f' b = f b) ∧ ∀ j, j < 7 → f' b0 j = f b1 j := by
  have W : ∀ (f : mj_I) (k : Nat) (x : Int32), mj_wr f b0 k x b1 = f b1 := fun f k x => wr_ne1 f x hne
  unfold g_X1_become
  simp only [mj_lt, W, h4, h5, ↓reduceIte]
  refine ⟨_, rfl, fun b hb => by rw [wr_ne1 _ _ hb, wr_ne1 _ _ hb, wr_ne1 _ _ hb, wr_ne1 _ _ hb, wr_ne1 _ _ hb, wr_ne1 _ _ hb, wr_ne1 _ _ hb], fun j hj => ?_⟩
  rcases (show j = 0 ∨ j = 1 ∨ j = 2 ∨ j = 3 ∨ j = 4 ∨ j = 5 ∨ j = 6 by omega) with rfl | rfl | rfl | rfl | rfl | rfl | rfl <;> simp [mj_wr]
theorem cbl_ok {a0 a1 : Nat} (hd : a0 + 9 ≤ a1 ∨ a1 + 9 ≤ a0) : ∀ n i f, i ≤ 5 → 5 < i + n → (∀ k, k < 5 → mj_b (f (a1 + 4 + k) 4) = true ∧ mj_b (f (a1 + 4 + k) 5) = true) → ∃ f', g_X2_become_96 n a0 a1 (nI i) f = some f' ∧ (∀ b, ¬ (a0 + 4 + i ≤ b ∧ b < a0 + 9) → f' b = f b) ∧ ∀ k, i ≤ k → k < 5 → ∀ j, j < 7 → f' (a0 + 4 + k) j = f (a1 + 4 + k) j := by
  intro n
  induction n with
  | zero => intro i f h1 h2; omega
  | succ n ih =>
    intro i f h1 h2 hb
    unfold g_X2_become_96
    by_cases hi : i = 5
    · subst hi
      rw [if_neg (by decide)]
      exact ⟨f, rfl, fun _ _ => rfl, fun k h1 h2 => by omega⟩
    have h5 : i < 5 := by omega
    rw [if_pos (show nI i < (5 : Int32) from nI_lt (b := 5) h5 (by decide))]
    simp only [in5 h5, ↓reduceIte]
    obtain ⟨f1, e1, e2, e3⟩ := cb_ok (b0 := a0 + 4 + i) (b1 := a1 + 4 + i) (f := f) (by omega) (hb i h5).1 (hb i h5).2
    rw [e1]
    simp only [Option.bind_some, nI_1]
    obtain ⟨f2, q1, q2, q3⟩ := ih (i + 1) f1 (by omega) (by omega) (fun k hk => by rw [e2 _ (by omega)]; exact hb k hk)
    refine ⟨f2, q1, fun b h => by rw [q2 b (by omega), e2 b (by omega)], fun k hk1 hk2 j hj => ?_⟩
    by_cases e : k = i
    · subst e
      rw [q2 _ (by omega)]
      exact e3 j hj
    · rw [q3 k (by omega) hk2 j hj, e2 _ (by omega)]
theorem become_ok {a0 a1 : Nat} {f : mj_I} (hd : a0 + 9 ≤ a1 ∨ a1 + 9 ≤ a0) (h0 : mj_b (f a1 0) = true) (hb : ∀ k, k < 5 → mj_b (f (a1 + 4 + k) 4) = true ∧ mj_b (f (a1 + 4 + k) 5) = true) :
    ∃ f', g_X2_become a0 a1 f = some f' ∧ (∀ b, b < a0 ∨ a0 + 9 ≤ b → f' b = f b) ∧ f' a0 0 = f a1 0 ∧ (∀ s, rl_hr f a1 s → rl_hr f' a0 s) ∧ ∀ k, k < 5 → mj_b (f' (a0 + 4 + k) 4) = true ∧ mj_b (f' (a0 + 4 + k) 5) = true := by
  have W : ∀ (f : mj_I) (k : Nat) (x : Int32), mj_wr f a0 k x a1 = f a1 := fun f k x => wr_ne1 f x (by omega)
  unfold g_X2_become
  simp only [mj_lt, W, h0, ↓reduceIte, show mj_cpok 0 0 12 12 12 = true by decide, show mj_cpok 0 0 32 32 32 = true by decide, show ix 0 = 0 by decide, show ix 12 = 12 by decide, show ix 32 = 32 by decide]
  obtain ⟨f8, e8⟩ : ∃ f8, f8 = mj_wr (mj_wr (mj_wr (mj_wr (mj_wr (mj_wr (mj_wr (mj_wr f a0 0 (f a1 0)) a0 1 (f a1 1)) a0 2 (f a1 2)) a0 3 (f a1 3)) a0 4 (f a1 4)) a0 5 (f a1 5)) a0 6 (f a1 6)) a0 7 (f a1 7) := ⟨_, rfl⟩
  rw [← e8]
  have r8 : ∀ b, b ≠ a0 → f8 b = f b := fun b hb => by rw [e8, wr_ne1 _ _ hb, wr_ne1 _ _ hb, wr_ne1 _ _ hb, wr_ne1 _ _ hb, wr_ne1 _ _ hb, wr_ne1 _ _ hb, wr_ne1 _ _ hb, wr_ne1 _ _ hb]
  have v8 : ∀ j, j < 8 → f8 a0 j = f a1 j := by
    intro j hj
    rw [e8]
    rcases (show j = 0 ∨ j = 1 ∨ j = 2 ∨ j = 3 ∨ j = 4 ∨ j = 5 ∨ j = 6 ∨ j = 7 by omega) with rfl | rfl | rfl | rfl | rfl | rfl | rfl | rfl <;> simp [mj_wr]
  obtain ⟨f10, e10⟩ : ∃ f10, f10 = mj_cp (mj_cp f8 (a1 + 1) 0 (a0 + 1) 0 12) (a1 + 2) 0 (a0 + 2) 0 32 := ⟨_, rfl⟩
  rw [← e10]
  have r10 : ∀ b, b ≠ a0 + 1 → b ≠ a0 + 2 → f10 b = f8 b := by
    intro b h1 h2
    rw [e10]
    funext j
    unfold mj_cp
    simp only [h1, h2, ↓reduceIte]
  have w10 : ∀ j, j < 12 → f10 (a0 + 1) j = f (a1 + 1) j := by
    intro j hj
    rw [e10]
    unfold mj_cp
    simp only [show ¬ a0 + 1 = a0 + 2 by omega, ↓reduceIte]
    rw [sb_cpy0 hj, r8 _ (by omega)]
  have p10 : ∀ j, j < 32 → f10 (a0 + 2) j = f (a1 + 2) j := by
    intro j hj
    rw [e10]
    unfold mj_cp
    simp only [show ¬ a1 + 2 = a0 + 1 by omega, ↓reduceIte]
    rw [sb_cpy0 hj, r8 _ (by omega)]
  obtain ⟨f', q1, q2, q3⟩ := cbl_ok hd mj_fuel 0 f10 (by omega) (by rw [fuel_eq]; omega) (fun k hk => by rw [r10 _ (by omega) (by omega), r8 _ (by omega)]; exact hb k hk)
  rw [show (0 : Int32) = nI 0 from rfl, q1]
  refine ⟨f', rfl, fun b h => by rw [q2 b (by omega), r10 b (by omega) (by omega), r8 b (by omega)], by rw [q2 _ (by omega), r10 _ (by omega) (by omega), v8 0 (by omega)], ?_, ?_⟩
  · rintro s ⟨⟨g0, g1, g2, g3, g4, g5, g6⟩, hw, hp, hc⟩
    rw [rl_hr, q2 a0 (by omega), r10 a0 (by omega) (by omega), v8 1 (by omega), v8 2 (by omega), v8 3 (by omega), v8 4 (by omega), v8 5 (by omega), v8 6 (by omega), v8 7 (by omega)]
    refine ⟨⟨g0, g1, g2, g3, g4, g5, g6⟩, fun j hj => by rw [q2 _ (by omega), w10 j hj]; exact hw j hj, fun j hj => by rw [q2 _ (by omega), p10 j hj]; exact hp j hj, fun k h1 h2 => ?_⟩
    rw [q3 k (by omega) h2 0 (by omega), q3 k (by omega) h2 1 (by omega), q3 k (by omega) h2 2 (by omega), q3 k (by omega) h2 3 (by omega), q3 k (by omega) h2 4 (by omega), q3 k (by omega) h2 5 (by omega), r10 _ (by omega) (by omega), r8 _ (by omega)]
    exact hc k h1 h2
  · intro k hk
    rw [q3 k (by omega) hk 4 (by omega), q3 k (by omega) hk 5 (by omega), r10 _ (by omega) (by omega), r8 _ (by omega)]
    exact hb k hk
/-- a row of 82 put aside and taken back -/
theorem aside_loop : ∀ n i h, i ≤ 82 → 82 < i + n → ∃ h', g_X7_putAside_2 n (nI i) h = some h' ∧ (∀ b, b ≠ 9 → h' b = h b) ∧ (∀ j, i ≤ j → j < 82 → h' 9 j = h 4 j) ∧ ∀ j, ¬ (i ≤ j ∧ j < 82) → h' 9 j = h 9 j := by
  intro n
  induction n with
  | zero => intro i h h1 h2; omega
  | succ n ih =>
    intro i h h1 h2
    unfold g_X7_putAside_2
    by_cases hi : i = 82
    · subst hi
      rw [if_neg (by decide)]
      exact ⟨h, rfl, fun _ _ => rfl, fun j _ _ => by omega, fun _ _ => rfl⟩
    have hin : mj_in (nI i) 82 = true := mj_in_nI (by omega) (by decide)
    rw [if_pos (show nI i < (82 : Int32) from nI_lt (a := i) (b := 82) (by omega) (by decide))]
    simp only [mj_lt, hin, ↓reduceIte, ix_nI (show i < 2 ^ 31 by omega), nI_1]
    obtain ⟨h', q1, q2, q3, q4⟩ := ih (i + 1) (mj_wr h 9 i (h 4 i)) (by omega) (by omega)
    refine ⟨h', q1, fun b hb => by rw [q2 b hb, wr_ne1 _ _ hb], fun j h1 h2 => ?_, fun j hj => by rw [q4 j (by omega), wr_ne _ _ (by omega)]⟩
    by_cases e : j = i
    · subst e; rw [q4 j (by omega), wr_eq]
    · rw [q3 j (by omega) h2, wr_ne _ _ (by omega)]
theorem back_loop : ∀ n i h, i ≤ 82 → 82 < i + n → ∃ h', g_X7_takeBack_2 n (nI i) h = some h' ∧ (∀ b, b ≠ 4 → h' b = h b) ∧ (∀ j, i ≤ j → j < 82 → h' 4 j = h 9 j) ∧ ∀ j, ¬ (i ≤ j ∧ j < 82) → h' 4 j = h 4 j := by
  intro n
  induction n with
  | zero => intro i h h1 h2; omega
  | succ n ih =>
    intro i h h1 h2
    unfold g_X7_takeBack_2
    by_cases hi : i = 82
    · subst hi
      rw [if_neg (by decide)]
      exact ⟨h, rfl, fun _ _ => rfl, fun j _ _ => by omega, fun _ _ => rfl⟩
    have hin : mj_in (nI i) 82 = true := mj_in_nI (by omega) (by decide)
    rw [if_pos (show nI i < (82 : Int32) from nI_lt (a := i) (b := 82) (by omega) (by decide))]
    simp only [mj_lt, hin, ↓reduceIte, ix_nI (show i < 2 ^ 31 by omega), nI_1]
    obtain ⟨h', q1, q2, q3, q4⟩ := ih (i + 1) (mj_wr h 4 i (h 9 i)) (by omega) (by omega)
    refine ⟨h', q1, fun b hb => by rw [q2 b hb, wr_ne1 _ _ hb], fun j h1 h2 => ?_, fun j hj => by rw [q4 j (by omega), wr_ne _ _ (by omega)]⟩
    by_cases e : j = i
    · subst e; rw [q4 j (by omega), wr_eq]
    · rw [q3 j (by omega) h2, wr_ne _ _ (by omega)]
def tr (f h f' h' : mj_I) (t : Nat) : Prop := hs 13 f' h' ∧ (∀ b, b < 13 ∨ 23 ≤ b → f' b = f b) ∧ mj_b (f' 13 0) = true ∧
  (∀ b, (1 ≤ b ∧ b < 4) ∨ b = 6 ∨ b = 8 ∨ (12 ≤ b ∧ b < 15) → h' b = h b) ∧ (∀ j, j = 3 ∨ j = 4 ∨ j = 8 ∨ j = 9 ∨ j = 18 ∨ j = 28 → h' 0 j = h 0 j) ∧
  (∀ j, j < 82 → h' 9 j = h 4 j) ∧ (∀ j, j < 46 ∨ (49 ≤ j ∧ j < 56) ∨ 82 ≤ j → h' 4 j = h 4 j) ∧ h' 4 46 = nI t
theorem hv_mono {N M : Nat} {s : Nat → Int32} (h : rl_hv N s) (hm : N ≤ M) : rl_hv M s := ⟨h.1, mj_in_mono h.2.1 hm, h.2.2⟩
theorem now_hs {f h : mj_I} {g : mj_L} (hR : rel f h g) : hs 4 f h := ⟨hR.2.2.2.1.2.1, hv_mono hR.2.2.2.1.2.2 (by omega), (hR.2.2.2.2.2.2.2 4 (Or.inl rfl)).2⟩
theorem tr_begin {f h : mj_I} {g : mj_L} (hR : rel f h g) : ∃ f1 h1 t, g_X2_become 13 4 f = some f1 ∧ g_X7_putAside h = some h1 ∧ t < 1000 ∧ tr f h f1 h1 t := by
  have hH := now_hs hR
  obtain ⟨t, ht, et⟩ := mj_in_ex hR.2.2.2.1.2.2.2.1 (by decide)
  have hb0 := (hR.2.2.2.2.2.2.2 4 (Or.inl rfl)).1
  obtain ⟨f1, q1, q2, q3, q4, q5⟩ := become_ok (a0 := 13) (a1 := 4) (by omega) hb0 hH.2.2
  obtain ⟨h1, p1, p2, p3, p4⟩ := aside_loop mj_fuel 0 h (by omega) (by rw [fuel_eq]; omega)
  refine ⟨f1, h1, t, q1, ?_, ht, ⟨?_, ?_, q5⟩, fun b hb => q2 b (by omega), by rw [q3]; exact hb0, fun b hb => p2 b (by omega), fun j _ => by rw [p2 0 (by omega)], fun j hj => p3 j (by omega) hj, fun j _ => by rw [p2 4 (by omega)], by rw [p2 4 (by omega)]; exact et⟩
  · unfold g_X7_putAside
    rw [show (0 : Int32) = nI 0 from rfl, p1]
    rfl
  · rw [p2 4 (by omega)]; exact q4 _ hH.1
  · rw [p2 4 (by omega)]; exact hH.2.1
theorem tr_hour {f h f' h' : mj_I} {t : Nat} (T : tr f h f' h' t) (ht : t < 1099) : ∃ f2 h2 s, g_X2_passHour 13 f' = some f2 ∧ g_X7_oneHour h' = some (s, h2) ∧ (f2 13 11 = s ∧ mj_in s 32 = true) ∧ f2 13 12 = h2 0 16 ∧ tr f h f2 h2 (t + 1) := by
  obtain ⟨T1, T2, T3, T4, T5, T6, T7, T8⟩ := T
  obtain ⟨f2, h2, s, q1, q2, q3, q4, q5, ⟨k1, k2, k3, k4, k5⟩, q7⟩ := hour_both T1 ⟨t, ht, T8⟩
  exact ⟨f2, h2, s, q1, q2, q3, q4, q5, fun b hb => by rw [k1 b (by omega)]; exact T2 b hb, by rw [k2]; exact T3, fun b hb => by rw [k3 b (by omega) (by omega)]; exact T4 b hb, fun j hj => by rw [k4 j (by omega)]; exact T5 j hj, fun j hj => by rw [k3 9 (by omega) (by omega)]; exact T6 j hj, fun j hj => by rw [k5 j hj]; exact T7 j hj, by rw [q7, T8, nI_1]⟩
theorem tr_hours {f h : mj_I} {x : Nat} (hx : x < 2 ^ 31) : ∀ n i f' h' t, tr f h f' h' t → i ≤ x → x < i + n → t + (x - i) < 1100 → ∃ f2 h2, g_X6_tryHours_13 n (nI x) (nI i) f' = some f2 ∧ g_X7_goOn_2 n (nI x) (nI i) h' = some h2 ∧ tr f h f2 h2 (t + (x - i)) := by
  intro n
  induction n with
  | zero => intro i f' h' t _ h1 h2; omega
  | succ n ih =>
    intro i f' h' t T h1 h2 h3
    unfold g_X6_tryHours_13 g_X7_goOn_2
    by_cases hi : i = x
    · have : ¬ nI i < nI x := nI_nlt (by omega) (by omega)
      rw [if_neg this, if_neg this]
      exact ⟨f', h', rfl, rfl, by rw [hi, Nat.sub_self]; exact T⟩
    have hlt : nI i < nI x := nI_lt (by omega) (by omega)
    rw [if_pos hlt, if_pos hlt]
    obtain ⟨f2, h2', s, q1, q2, _, _, q5⟩ := tr_hour T (by omega)
    rw [q1, q2]
    simp only [Option.bind_some, nI_1]
    obtain ⟨f3, h3', r1, r2, r3⟩ := ih (i + 1) f2 h2' (t + 1) q5 (by omega) (by omega) (by omega)
    exact ⟨f3, h3', r1, r2, by rw [show t + (x - i) = t + 1 + (x - (i + 1)) by omega]; exact r3⟩
theorem tr_back {f h f' h' : mj_I} {g : mj_L} {t : Nat} (hR : rel f h g) (T : tr f h f' h' t) : ∃ h2, g_X7_takeBack h' = some h2 ∧ rel f' h2 g := by
  obtain ⟨T1, T2, T3, T4, T5, T6, T7, T8⟩ := T
  obtain ⟨h2, p1, p2, p3, p4⟩ := back_loop mj_fuel 0 h' (by omega) (by rw [fuel_eq]; omega)
  refine ⟨h2, ?_, rel_scr hR (fun b hb => T2 b (by omega)) (fun j _ => by rw [T2 0 (by omega)]) ?_ ?_ (fun j hj => by rw [p2 0 (by omega)]; exact T5 j (by omega)) ?_⟩
  · unfold g_X7_takeBack
    rw [show (0 : Int32) = nI 0 from rfl, p1]
    rfl
  · intro a ha
    by_cases e : a = 13
    · subst e
      exact ⟨T3, T1.2.2⟩
    · obtain ⟨k1, k2⟩ := hR.2.2.2.2.2.2.2 a ha
      have hl := isH_lt ha
      have hne : a + 9 ≤ 13 ∨ 23 ≤ a := by
        rcases ha with rfl | rfl | rfl | rfl <;> omega
      exact ⟨by rw [T2 a (by omega)]; exact k1, fun k hk => by rw [T2 (a + 4 + k) (by omega)]; exact k2 k hk⟩
  · intro b hb
    by_cases e : b = 4
    · subst e
      funext j
      by_cases hj : j < 82
      · rw [p3 j (by omega) hj]; exact T6 j hj
      · rw [p4 j (by omega)]; exact T7 j (by omega)
    · rw [p2 b e]; exact T4 b (by omega)
  · rw [p2 0 (by omega), T5 3 (by omega), T2 0 (by omega)]
    exact hR.2.1.1
