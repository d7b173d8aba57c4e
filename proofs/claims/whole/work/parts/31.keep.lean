/-! an act kept: the ring of the first, the rows of the second -/
theorem r8 : ∀ p, p < 24 → nI p * 8 = nI (8 * p) ∧ (nI p + 1) - (nI p + 1) / 24 * 24 = nI ((p + 1) % 24) ∧ (nI p + 24 - 1) - (nI p + 24 - 1) / 24 * 24 = nI ((p + 23) % 24) := by decide +kernel
theorem r24 : ∀ n, n < 25 → (if nI n + 1 < 24 then nI n + 1 else 24) = nI (min (n + 1) 24) := by decide +kernel
theorem in192 {k : Nat} (h : k < 192) : mj_in (nI k) 192 = true ∧ ix (nI k) = k := ⟨mj_in_nI h (by decide), ix_nI (by omega)⟩
theorem keep_loop {p : Nat} (hp : p < 24) : ∀ n i f, i ≤ 5 → 5 < i + n → ∃ f', g_X0_keep_44 n 4 (nI (8 * p)) (nI i) f = some f' ∧ (∀ b, b ≠ 25 → f' b = f b) ∧ (∀ k, i ≤ k → k < 5 → f' 25 (8 * p + 3 + k) = g_X1_packed (4 + 4 + k) f) ∧ ∀ j, ¬ (8 * p + 3 + i ≤ j ∧ j < 8 * p + 8) → f' 25 j = f 25 j := by
  intro n
  induction n with
  | zero => intro i f h1 h2; omega
  | succ n ih =>
    intro i f h1 h2
    unfold g_X0_keep_44
    by_cases hi : i = 5
    · subst hi
      rw [if_neg (by decide)]
      exact ⟨f, rfl, fun _ _ => rfl, fun k h1 h2 => by omega, fun _ _ => rfl⟩
    have h5 : i < 5 := by omega
    rw [if_pos (show nI i < (5 : Int32) from nI_lt (b := 5) h5 (by decide))]
    have e : nI (8 * p) + 3 + nI i = nI (8 * p + 3 + i) := by rw [show nI (8 * p) + 3 = nI (8 * p + 3) from nI_add _ 3, nI_add]
    simp only [mj_lt, in5 h5, e, in192 (show 8 * p + 3 + i < 192 by omega), ↓reduceIte, nI_1]
    obtain ⟨f', q1, q2, q3, q4⟩ := ih (i + 1) (mj_wr f 25 (8 * p + 3 + i) (g_X1_packed (4 + 4 + i) f)) (by omega) (by omega)
    refine ⟨f', q1, fun b hb => by rw [q2 b hb, wr_ne1 _ _ hb], fun k h1 h2 => ?_, fun j hj => by rw [q4 j (by omega), wr_ne _ _ (by omega)]⟩
    by_cases ek : k = i
    · subst ek; rw [q4 _ (by omega), wr_eq]
    · rw [q3 k (by omega) h2]
      unfold g_X1_packed
      rw [wr_ne1 _ _ (by omega)]
theorem keep_ok {p n : Nat} {f : mj_I} (hp : p < 24) (hn : n ≤ 24) (e1 : f 24 1 = nI p) (e2 : f 24 2 = nI n) : ∃ f', g_X0_keep 4 f = some f' ∧ (∀ b, b ≠ 24 → b ≠ 25 → f' b = f b) ∧ f' 24 1 = nI ((p + 1) % 24) ∧ f' 24 2 = nI (min (n + 1) 24) ∧
    (f' 25 (8 * p) = f 4 5 ∧ f' 25 (8 * p + 1) = f 4 6 ∧ f' 25 (8 * p + 2) = f 4 7) ∧ (∀ k, k < 5 → f' 25 (8 * p + 3 + k) = g_X1_packed (4 + 4 + k) f) ∧ ∀ j, ¬ (8 * p ≤ j ∧ j < 8 * p + 8) → f' 25 j = f 25 j := by
  obtain ⟨a1, a2, _⟩ := r8 p hp
  have a3 := r24 n (by omega)
  have e3 : nI (8 * p) + 1 = nI (8 * p + 1) := nI_1 _
  have e4 : nI (8 * p) + 2 = nI (8 * p + 2) := nI_add _ 2
  unfold g_X0_keep
  simp only [mj_lt, e1, a1, e3, e4, in192 (show 8 * p < 192 by omega), in192 (show 8 * p + 1 < 192 by omega), in192 (show 8 * p + 2 < 192 by omega), ↓reduceIte]
  obtain ⟨f3, e5⟩ : ∃ f3, f3 = mj_wr (mj_wr (mj_wr f 25 (8 * p) (f 4 5)) 25 (8 * p + 1) (f 4 6)) 25 (8 * p + 2) (f 4 7) := ⟨_, rfl⟩
  rw [show mj_wr (mj_wr f 25 (8 * p) (f 4 5)) 25 (8 * p + 1) (mj_wr f 25 (8 * p) (f 4 5) 4 6) 4 7 = f 4 7 by rw [wr_ne1 _ _ (by omega), wr_ne1 _ _ (by omega)], show mj_wr f 25 (8 * p) (f 4 5) 4 6 = f 4 6 by rw [wr_ne1 _ _ (by omega)], ← e5]
  have b3 : ∀ b, b ≠ 25 → f3 b = f b := fun b hb => by rw [e5, wr_ne1 _ _ hb, wr_ne1 _ _ hb, wr_ne1 _ _ hb]
  obtain ⟨f4, q1, q2, q3, q4⟩ := keep_loop hp mj_fuel 0 f3 (by omega) (by rw [fuel_eq]; omega)
  rw [show (0 : Int32) = nI 0 from rfl, q1]
  have c1 : f4 24 1 = nI p := by rw [q2 24 (by omega), b3 24 (by omega), e1]
  have c2 : f4 24 2 = nI n := by rw [q2 24 (by omega), b3 24 (by omega), e2]
  simp only [Option.bind_some, c1, a2]
  rw [wr_ne (b := 24) (j := 2) _ _ (by omega), c2, a3]
  refine ⟨_, rfl, fun b h1 h2 => by rw [wr_ne1 _ _ h1, wr_ne1 _ _ h1, q2 b h2, b3 b h2], by rw [wr_ne _ _ (by omega), wr_eq], by rw [wr_eq], ⟨?_, ?_, ?_⟩, fun k hk => ?_, fun j hj => ?_⟩
  · rw [wr_ne1 _ _ (by omega), wr_ne1 _ _ (by omega), q4 _ (by omega), e5, wr_ne _ _ (by omega), wr_ne _ _ (by omega), wr_eq]
  · rw [wr_ne1 _ _ (by omega), wr_ne1 _ _ (by omega), q4 _ (by omega), e5, wr_ne _ _ (by omega), wr_eq]
  · rw [wr_ne1 _ _ (by omega), wr_ne1 _ _ (by omega), q4 _ (by omega), e5, wr_eq]
  · rw [wr_ne1 _ _ (by omega), wr_ne1 _ _ (by omega), q3 k (by omega) hk]
    unfold g_X1_packed
    rw [b3 _ (by omega)]
  · rw [wr_ne1 _ _ (by omega), wr_ne1 _ _ (by omega), q4 _ (by omega), e5, wr_ne _ _ (by omega), wr_ne _ _ (by omega), wr_ne _ _ (by omega)]
/-- the second: rows moved down, a row written -/
theorem down_loop : ∀ n i h, i ≤ 1886 → 1886 < i + n → ∃ h', g_X7_note_11 n (nI i) h = some h' ∧ (∀ b, b ≠ 8 → h' b = h b) ∧ (∀ j, i ≤ j → j < 1886 → h' 8 j = h 8 (j + 82)) ∧ ∀ j, j < i → h' 8 j = h 8 j := by
  intro n
  induction n with
  | zero => intro i h h1 h2; omega
  | succ n ih =>
    intro i h h1 h2
    unfold g_X7_note_11
    by_cases hi : i = 1886
    · subst hi
      rw [if_neg (by decide)]
      exact ⟨h, rfl, fun _ _ => rfl, fun j _ _ => by omega, fun _ _ => rfl⟩
    have h1' : mj_in (nI i) 1968 = true := mj_in_nI (by omega) (by decide)
    have h2' : mj_in (nI (i + 82)) 1968 = true := mj_in_nI (by omega) (by decide)
    rw [if_pos (show nI i < (1886 : Int32) from nI_lt (a := i) (b := 1886) (by omega) (by decide)), show nI i + 82 = nI (i + 82) from nI_add i 82]
    simp only [mj_lt, h1', h2', ↓reduceIte, ix_nI (show i < 2 ^ 31 by omega), ix_nI (show i + 82 < 2 ^ 31 by omega), nI_1]
    obtain ⟨h', q1, q2, q3, q4⟩ := ih (i + 1) (mj_wr h 8 i (h 8 (i + 82))) (by omega) (by omega)
    refine ⟨h', q1, fun b hb => by rw [q2 b hb, wr_ne1 _ _ hb], fun j k1 k2 => ?_, fun j hj => by rw [q4 j (by omega), wr_ne _ _ (by omega)]⟩
    by_cases e : j = i
    · subst e; rw [q4 j (by omega), wr_eq]
    · rw [q3 j (by omega) k2, wr_ne _ _ (by omega)]
theorem note_loop {m : Nat} (hm : m < 24) : ∀ n i h, h 0 18 = nI m → i ≤ 82 → 82 < i + n → ∃ h', g_X7_note_51 n (nI i) h = some h' ∧ (∀ b, b ≠ 8 → h' b = h b) ∧ (∀ j, i ≤ j → j < 82 → h' 8 (82 * m + j) = h 4 j) ∧ ∀ j, ¬ (82 * m + i ≤ j ∧ j < 82 * m + 82) → h' 8 j = h 8 j := by
  intro n
  induction n with
  | zero => intro i h _ h1 h2; omega
  | succ n ih =>
    intro i h hc h1 h2
    unfold g_X7_note_51
    by_cases hi : i = 82
    · subst hi
      rw [if_neg (by decide)]
      exact ⟨h, rfl, fun _ _ => rfl, fun j _ _ => by omega, fun _ _ => rfl⟩
    have h1' : mj_in (nI i) 82 = true := mj_in_nI (by omega) (by decide)
    have h2' : mj_in (nI (82 * m + i)) 1968 = true := mj_in_nI (by omega) (by decide)
    have e82 : (82 : Int32) * nI m = nI (82 * m) := (Int32.ofNat_mul 82 m).symm
    rw [if_pos (show nI i < (82 : Int32) from nI_lt (a := i) (b := 82) (by omega) (by decide)), hc, e82, nI_add]
    simp only [mj_lt, h1', h2', ↓reduceIte, ix_nI (show i < 2 ^ 31 by omega), ix_nI (show 82 * m + i < 2 ^ 31 by omega), nI_1]
    obtain ⟨h', q1, q2, q3, q4⟩ := ih (i + 1) (mj_wr h 8 (82 * m + i) (h 4 i)) (by rw [wr_ne1 _ _ (by omega)]; exact hc) (by omega) (by omega)
    refine ⟨h', q1, fun b hb => by rw [q2 b hb, wr_ne1 _ _ hb], fun j k1 k2 => ?_, fun j hj => by rw [q4 j (by omega), wr_ne _ _ (by omega)]⟩
    by_cases e : j = i
    · subst e; rw [q4 _ (by omega), wr_eq]
    · rw [q3 j (by omega) k2, wr_ne1 _ _ (by omega)]
theorem note_ok {n : Nat} {h : mj_I} (hn : n ≤ 24) (e : h 0 18 = nI n) : ∃ h', g_X7_note h = some h' ∧ (∀ b, b ≠ 0 → b ≠ 8 → h' b = h b) ∧ (∀ j, j ≠ 18 → h' 0 j = h 0 j) ∧ h' 0 18 = nI (min (n + 1) 24) ∧
    (∀ j, j < 82 → h' 8 (82 * min n 23 + j) = h 4 j) ∧ ∀ i, i < min n 23 → ∀ j, j < 82 → h' 8 (82 * i + j) = h 8 (82 * (if n = 24 then i + 1 else i) + j) := by
  unfold g_X7_note
  rw [e]
  by_cases c : n = 24
  · subst c
    rw [if_pos (show nI 24 = (24 : Int32) from rfl)]
    obtain ⟨h1, q1, q2, q3, q4⟩ := down_loop mj_fuel 0 h (by omega) (by rw [fuel_eq]; omega)
    rw [show (0 : Int32) = nI 0 from rfl, q1]
    simp only [Option.bind_some, mj_lt]
    rw [q2 0 (by omega), e, show nI 24 - 1 = nI 23 by decide]
    obtain ⟨h2, p1, p2, p3, p4⟩ := note_loop (m := 23) (by omega) mj_fuel 0 (mj_wr h1 0 18 (nI 23)) (wr_eq _ _ _ _) (by omega) (by rw [fuel_eq]; omega)
    rw [p1]
    simp only [Option.bind_some]
    rw [p2 0 (by omega), wr_eq]
    refine ⟨_, rfl, fun b k0 k8 => by rw [wr_ne1 _ _ k0, p2 b k8, wr_ne1 _ _ k0, q2 b k8], fun j hj => by rw [wr_ne _ _ (by omega), p2 0 (by omega), wr_ne _ _ (by omega), q2 0 (by omega)], by rw [wr_eq]; rfl, fun j hj => ?_, fun i hi j hj => ?_⟩
    · rw [wr_ne1 _ _ (by omega), show min 24 23 = 23 from rfl, p3 j (by omega) hj, wr_ne1 _ _ (by omega), q2 4 (by omega)]
    · rw [wr_ne1 _ _ (by omega), p4 _ (by omega), wr_ne1 _ _ (by omega), q3 _ (by omega) (by omega), if_pos trivial, show 82 * i + j + 82 = 82 * (i + 1) + j by omega]
  · have hne : ¬ nI n = (24 : Int32) := fun z => c (nI_inj (by omega) (by omega) (show nI n = nI 24 from z))
    rw [if_neg hne]
    obtain ⟨h2, p1, p2, p3, p4⟩ := note_loop (m := n) (by omega) mj_fuel 0 h e (by omega) (by rw [fuel_eq]; omega)
    rw [show (0 : Int32) = nI 0 from rfl, p1]
    simp only [Option.bind_some, mj_lt]
    rw [p2 0 (by omega), e, nI_1]
    have hmin : min n 23 = n := by omega
    rw [hmin]
    refine ⟨_, rfl, fun b k0 k8 => by rw [wr_ne1 _ _ k0, p2 b k8], fun j hj => by rw [wr_ne _ _ (by omega), p2 0 (by omega)], by rw [wr_eq, show min (n + 1) 24 = n + 1 by omega], fun j hj => ?_, fun i hi j hj => ?_⟩
    · rw [wr_ne1 _ _ (by omega), p3 j (by omega) hj]
    · rw [wr_ne1 _ _ (by omega), p4 _ (by omega), if_neg c]
theorem hv_c {N : Nat} {s s' : Nat → Int32} (h : rl_hv N s) (hj : ∀ j, j < 82 → s' j = s j) : rl_hv N s' := by
  obtain ⟨a1, a2, a3, a4, a5⟩ := h
  refine ⟨by rw [hj 50 (by omega)]; exact a1, by rw [hj 46 (by omega)]; exact a2, fun j h => by rw [hj j (by omega)]; exact a3 j h, fun j h => by rw [hj _ (by omega)]; exact a4 j h, fun k h1 h2 => ?_⟩
  rw [hj 50 (by omega)] at h1
  rw [hj (51 + k) (by omega), hj (56 + k) (by omega), hj (61 + k) (by omega), hj (66 + k) (by omega), hj (71 + k) (by omega), hj (76 + k) (by omega)]
  exact a5 k h1 h2
theorem hr_cs {f : mj_I} {a : Nat} {s s' : Nat → Int32} (h : rl_hr f a s) (hj : ∀ j, j < 82 → s' j = s j) : rl_hr f a s' := by
  obtain ⟨⟨g0, g1, g2, g3, g4, g5, g6⟩, a2, a3, a4⟩ := h
  refine ⟨⟨by rw [hj 44 (by omega)]; exact g0, by rw [hj 45 (by omega)]; exact g1, by rw [hj 49 (by omega)]; exact g2, by rw [hj 50 (by omega)]; exact g3, by rw [hj 46 (by omega)]; exact g4, by rw [hj 47 (by omega)]; exact g5, by rw [hj 48 (by omega)]; exact g6⟩, fun j h => by rw [hj j (by omega)]; exact a2 j h, fun j h => by rw [hj _ (by omega)]; exact a3 j h, fun k h1 h2 => ?_⟩
  rw [hj 50 (by omega)] at h1
  rw [hj (51 + k) (by omega), hj (56 + k) (by omega), hj (61 + k) (by omega), hj (66 + k) (by omega), hj (71 + k) (by omega), hj (76 + k) (by omega)]
  exact a4 k h1 h2
theorem pk_c {s s' : Nat → Int32} {k : Nat} (hk : k < 5) (hj : ∀ j, j < 82 → s' j = s j) : rl_pk s' k = rl_pk s k := by
  unfold rl_pk
  rw [hj (56 + k) (by omega), hj (61 + k) (by omega), hj (66 + k) (by omega), hj (71 + k) (by omega), hj (76 + k) (by omega)]
theorem packed_eq {a k : Nat} {f h : mj_I} (H : hs a f h) (hk : k < 5) (hm : nI k < h 4 50) : g_X1_packed (a + 4 + k) f = rl_pk (h 4) k := by
  obtain ⟨c0, c1, c2, c3, c4, c5⟩ := H.1.2.2.2 k hm hk
  obtain ⟨u0, u1, u2, u3, u4, u5, u6⟩ := H.2.1.2.2.2.2 k hm hk
  unfold g_X1_packed rl_pk
  rw [c1, c2, c3, c4, c5, bit_in u4, bit_in u5]
theorem keep_note {f h : mj_I} {g : mj_L} (hR : rel f h g) : ∃ f' h', g_X0_keep 4 f = some f' ∧ g_X7_note h = some h' ∧ rel f' h' g ∧ (∀ b, b ≠ 24 → b ≠ 25 → f' b = f b) ∧ (∀ b, b ≠ 0 → b ≠ 8 → h' b = h b) ∧ ∀ j, j ≠ 18 → h' 0 j = h 0 j := by
  have hH := now_hs hR
  obtain ⟨h1, ⟨h2, h3⟩, h4, h5, h6, h7, h8, h9⟩ := hR
  obtain ⟨n, p, hn, hp, e1, e2, e3, hA⟩ := h6
  obtain ⟨f', x1, x2, x3, x4, ⟨x5, x6, x7⟩, x8, x9⟩ := keep_ok hp hn e3 e1
  obtain ⟨h', m1, m2, m3, m4, m5, m6⟩ := note_ok hn e2
  refine ⟨f', h', x1, m1, ⟨rows_c h1 (fun b _ _ => x2 b (by omega) (by omega)) (fun b _ _ => m2 b (by omega) (by omega)), ⟨by rw [x2 0 (by omega) (by omega), m3 3 (by omega)]; exact h2, by rw [x2 0 (by omega) (by omega), m3 9 (by omega)]; exact h3⟩, tape_c h4 (by rw [x2 2 (by omega) (by omega)]) (x2 3 (by omega) (by omega)) (m3 8 (by omega)) (m2 6 (by omega) (by omega)), now_c h5 (fun b _ _ => x2 b (by omega) (by omega)) (m3 4 (by omega)) (m2 4 (by omega) (by omega)), ?_, imgs_c h7 (fun b _ _ => x2 b (by omega) (by omega)) (m2 12 (by omega) (by omega)) (m2 13 (by omega) (by omega)) (fun z => by rw [m3 4 (by omega)]; exact z), trace_c h8 (by rw [x2 26 (by omega) (by omega)]) (x2 27 (by omega) (by omega)) (m3 28 (by omega)) (m2 14 (by omega) (by omega)), bool_c h9 (fun b hb => x2 b (by omega) (by omega))⟩, x2, m2, m3⟩
  refine ⟨min (n + 1) 24, (p + 1) % 24, by omega, by omega, x4, m4, x3, fun i hi => ?_⟩
  rw [m2 4 (by omega) (by omega)]
  by_cases hnew : i = min n 23
  · have ep : ((p + 1) % 24 + 24 - min (n + 1) 24 + i) % 24 = p := by omega
    rw [ep, hnew]
    refine ⟨hv_c h5.2.2 (fun j hj => m5 j hj), fun j hj => m5 j (by omega), by rw [x5, m5 46 (by omega)]; exact hH.1.1.2.2.2.2.1, by rw [x6, m5 47 (by omega)]; exact hH.1.1.2.2.2.2.2.1, by rw [x7, m5 48 (by omega)]; exact hH.1.1.2.2.2.2.2.2, fun k k1 k2 => ?_⟩
    rw [x8 k k2, packed_eq hH k2 k1]
    exact (pk_c k2 (fun j hj => m5 j hj)).symm
  · obtain ⟨i', ei'⟩ : ∃ i', i' = if n = 24 then i + 1 else i := ⟨_, rfl⟩
    have hi' : i' < n ∧ (n = 24 ∧ i' = i + 1 ∨ n < 24 ∧ i' = i) := by
      rw [ei']
      by_cases c : n = 24
      · rw [if_pos c]; omega
      · rw [if_neg c]; omega
    have ep : ((p + 1) % 24 + 24 - min (n + 1) 24 + i) % 24 = (p + 24 - n + i') % 24 := by omega
    have epn : (p + 24 - n + i') % 24 ≠ p := by omega
    have hm : ∀ j, j < 82 → h' 8 (82 * i + j) = h 8 (82 * i' + j) := by
      intro j hj
      rw [m6 i (by omega) j hj, ← ei']
    obtain ⟨b1, b2, b3, b4, b5, b6⟩ := hA i' hi'.1
    rw [ep]
    refine ⟨hv_c b1 (fun j hj => hm j hj), fun j hj => by rw [hm j (by omega)]; exact b2 j hj, by rw [x9 _ (by omega), hm 46 (by omega)]; exact b3, by rw [x9 _ (by omega), hm 47 (by omega)]; exact b4, by rw [x9 _ (by omega), hm 48 (by omega)]; exact b5, fun k k1 k2 => ?_⟩
    rw [x9 _ (by omega), b6 k k1 k2]
    exact (pk_c k2 (fun j hj => hm j hj)).symm
