/-! rows -/
theorem fuel_eq : mj_fuel = 4000 := rfl
/-- X: the loop that empties a row -/
theorem begin_loop {a n : Nat} (hn : n ≤ 40) : ∀ (m k : Nat) (f : mj_I), k ≤ n → n < k + m → ∃ f', g_X3_begin_17 m a (nI n) (nI k) f = some f' ∧ (∀ i, k ≤ i → i < n → f' (a + 1) i = 0) ∧ (∀ b i, ¬ (b = a + 1 ∧ k ≤ i ∧ i < n) → f' b i = f b i) := by
  intro m
  induction m with
  | zero => intro k f h1 h2; omega
  | succ m ih =>
    intro k f h1 h2
    unfold g_X3_begin_17
    rcases Nat.lt_or_ge k n with h | h
    · rw [if_pos (nI_lt h (by omega)), if_pos (mj_in_nI (by omega) (by decide))]
      obtain ⟨f', e1, e2, e3⟩ := ih (k + 1) (mj_wr f (a + 1) (ix (nI k)) 0) (by omega) (by omega)
      refine ⟨f', by show g_X3_begin_17 m a (nI n) (nI k + 1) _ = _; rw [nI_1]; exact e1, fun i hi1 hi2 => ?_, fun b i hb => ?_⟩
      · rcases Nat.lt_or_ge k i with q | q
        · exact e2 i (by omega) hi2
        · have : i = k := by omega
          subst this
          rw [e3 (a + 1) i (by omega), wr_ceq _ _ rfl (ix_nI (by omega)).symm]
      · rw [e3 b i (by omega), wr_ne]
        rw [ix_nI (by omega)]
        omega
    · rw [if_neg (nI_nlt h (by omega))]
      exact ⟨f, rfl, fun i _ _ => by omega, fun b i _ => rfl⟩
/-- M: the loop that empties a row's 40 places -/
theorem mrow_loop {r x3 : Nat} (hr : r < 8) : ∀ (m k : Nat) (f : mj_I), k ≤ 40 → 40 < k + m → ∃ f', g_X7_row_55 m (nI r) (nI x3) (nI k) f = some f' ∧ (∀ i, k ≤ i → i < 40 → f' 3 (40 * r + i) = 0) ∧ (∀ b i, ¬ (b = 3 ∧ 40 * r + k ≤ i ∧ i < 40 * r + 40) → f' b i = f b i) := by
  intro m
  induction m with
  | zero => intro k f h1 h2; omega
  | succ m ih =>
    intro k f h1 h2
    unfold g_X7_row_55
    have e40 : (40 : Int32) * nI r + nI k = nI (40 * r + k) := by
      rw [show (40 : Int32) = nI 40 from rfl, pk_mul, nI_add]
    rcases Nat.lt_or_ge k 40 with h | h
    · rw [if_pos (show nI k < 40 from nI_lt (b := 40) h (by decide)), e40, if_pos (mj_in_nI (by omega) (by decide))]
      obtain ⟨f', e1, e2, e3⟩ := ih (k + 1) (mj_wr f 3 (ix (nI (40 * r + k))) 0) (by omega) (by omega)
      refine ⟨f', by show g_X7_row_55 m (nI r) (nI x3) (nI k + 1) _ = _; rw [nI_1]; exact e1, fun i hi1 hi2 => ?_, fun b i hb => ?_⟩
      · rcases Nat.lt_or_ge k i with q | q
        · exact e2 i (by omega) hi2
        · have : i = k := by omega
          subst this
          rw [e3 3 (40 * r + i) (by omega), wr_ceq _ _ rfl (ix_nI (by omega)).symm]
      · rw [e3 b i (by omega), wr_ne]
        rw [ix_nI (by omega)]
        omega
    · rw [if_neg (show ¬ nI k < 40 from nI_nlt (b := 40) h (by omega))]
      exact ⟨f, rfl, fun i _ _ => by omega, fun b i _ => rfl⟩
/-- parts of the relation that stay: their cells are the same -/
theorem rel_keep {f f' h h' : mj_I} {g g' : mj_L} (hR : rel f h g) (hrows : rl_rows f' h') (hst : f' 0 8 = h' 0 3)
    (hx : ∀ b i, (b = 0 ∧ i = 9) ∨ (2 ≤ b ∧ b < 28) ∨ 44 ≤ b → f' b i = f b i)
    (hm : ∀ b i, (b = 0 ∧ i ≠ 3) ∨ 4 ≤ b → b ≠ 5 → h' b i = h b i) : rel f' h' g' := by
  obtain ⟨h1, ⟨h2, h3⟩, h4, h5, h6, h7, h8, h9⟩ := hR
  refine ⟨hrows, ⟨hst, by rw [hx 0 9 (by omega), hm 0 9 (by omega) (by omega)]; exact h3⟩, ?_, ?_, ?_, ?_, ?_, ?_⟩
  · obtain ⟨n, q1, q2, q3, q4⟩ := h4
    exact ⟨n, q1, by rw [hx 2 1 (by omega)]; exact q2, by rw [hm 0 8 (by omega) (by omega)]; exact q3, fun i hi => by rw [hx 3 i (by omega), hm 6 i (by omega) (by omega)]; exact q4 i hi⟩
  · obtain ⟨q1, ⟨⟨a1, a2, a3, a4, a5, a6, a7⟩, a8, a9, a10⟩, q3⟩ := h5
    have e4 : h' 4 = h 4 := funext fun i => hm 4 i (by omega) (by omega)
    refine ⟨by rw [hx 4 0 (by omega), hm 0 4 (by omega) (by omega)]; exact q1, ?_, by rw [e4]; exact q3⟩
    rw [e4]
    refine ⟨⟨?_, ?_, ?_, ?_, ?_, ?_, ?_⟩, fun j hj => ?_, fun j hj => ?_, fun k h1 h2 => ?_⟩
    all_goals first | (rw [hx _ _ (by omega)]; first | assumption | exact a8 _ ‹_› | exact a9 _ ‹_›) | skip
    have := a10 k h1 h2
    rw [hx _ _ (by omega), hx _ _ (by omega), hx _ _ (by omega), hx _ _ (by omega), hx _ _ (by omega), hx _ _ (by omega)]
    exact this
  · obtain ⟨n, p, q1, q2, q3, q4, q5, q6⟩ := h6
    have e4 : h' 4 = h 4 := funext fun i => hm 4 i (by omega) (by omega)
    have e8 : h' 8 = h 8 := funext fun i => hm 8 i (by omega) (by omega)
    have f25 : f' 25 = f 25 := funext fun i => hx 25 i (by omega)
    refine ⟨n, p, q1, q2, by rw [hx _ _ (by omega)]; exact q3, by rw [hm _ _ (by omega) (by omega)]; exact q4, by rw [hx _ _ (by omega)]; exact q5, ?_⟩
    rw [e4, e8, f25]
    exact q6
  · intro k hk
    have e12 : h' 12 = h 12 := funext fun i => hm 12 i (by omega) (by omega)
    have e13 : h' 13 = h 13 := funext fun i => hm 13 i (by omega) (by omega)
    have q := h7 k hk
    rw [e12, e13]
    refine ⟨by rw [hx _ _ (by omega)]; exact q.1, fun hz => ⟨by rw [hm 0 4 (by omega) (by omega)]; exact (q.2 hz).1, ?_, (q.2 hz).2.2⟩⟩
    obtain ⟨⟨a1, a2, a3, a4, a5, a6, a7⟩, a8, a9, a10⟩ := (q.2 hz).2.1
    refine ⟨⟨?_, ?_, ?_, ?_, ?_, ?_, ?_⟩, fun j hj => ?_, fun j hj => ?_, fun k h1 h2 => ?_⟩
    all_goals first | (rw [hx _ _ (by omega)]; first | assumption | exact a8 _ ‹_› | exact a9 _ ‹_›) | skip
    have := a10 k h1 h2
    rw [hx _ _ (by omega), hx _ _ (by omega), hx _ _ (by omega), hx _ _ (by omega), hx _ _ (by omega), hx _ _ (by omega)]
    exact this
  · obtain ⟨n, q1, q2, q3, q4⟩ := h8
    exact ⟨n, q1, by rw [hx 26 1 (by omega)]; exact q2, by rw [hm 0 28 (by omega) (by omega)]; exact q3, fun i hi => by rw [hx 27 i (by omega), hm 14 i (by omega) (by omega)]; exact q4 i hi⟩
  · intro a ha
    have q := h9 a ha
    have ha2 : (2 ≤ a ∧ a + 9 ≤ 28) ∨ 44 ≤ a := by
      rcases ha with rfl | rfl | rfl | rfl <;> omega
    exact ⟨by rw [hx _ _ (by omega)]; exact q.1, fun k hk => ⟨by rw [hx _ _ (by omega)]; exact (q.2 k hk).1, by rw [hx _ _ (by omega)]; exact (q.2 k hk).2⟩⟩
