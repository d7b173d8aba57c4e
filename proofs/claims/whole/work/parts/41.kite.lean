/-! kite -/
theorem kite_ix : ∀ c, c < 12 → ∀ i, i < 13 → nI c / 6 = nI (c / 6) ∧ nI c - nI c / 6 * 6 = nI (c % 6) ∧ (nI c + nI i) - (nI c + nI i) / 6 * 6 = nI ((c + i) % 6) ∧ (nI (c % 6) + nI i) - (nI (c % 6) + nI i) / 6 * 6 = nI ((c + i) % 6) := by decide +kernel
theorem kite_dead {h : mj_I} {l : Nat} {x1 x2 x4 x6 x7 x8 : Int32} (hl : l < 2 ^ 31) : ∀ n i, i ≤ l → l < i + n → g_X7_kite_82 n x1 x2 (nI l) x4 x6 x7 x8 0 (nI i) h = some (0, h) := by
  intro n
  induction n with
  | zero => intro i h1 h2; omega
  | succ n ih =>
    intro i h1 h2
    unfold g_X7_kite_82
    by_cases hi : i = l
    · rw [if_neg (nI_nlt (by omega) (by omega))]
    rw [if_pos (nI_lt (by omega) (by omega)), if_pos rfl, nI_1]
    exact ih (i + 1) (by omega) (by omega)
theorem kite_in {f h : mj_I} {l r s m c : Nat} {x4 x6 x7 : Int32} (H : hs 4 f h) (hl : l ≤ 12) (hc : c < 12) (hr : r < 8) (hs : s + l ≤ m) (hm40 : m ≤ 40) (hrow : ∀ i, i < m → f (28 + 2 * r + 1) i = h 3 (40 * r + i)) :
    ∀ n i, i ≤ l → l < i + n → ∃ v, g_X6_flewSo_3 n (nI (c / 6)) (nI (c % 6)) (28 + 2 * r) (nI s) (nI l) (nI i) f = some v ∧ g_X7_kite_82 n (nI r) (nI s) (nI l) x4 x6 x7 (nI c) 1 (nI i) h = some (v, h) := by
  intro n
  induction n with
  | zero => intro i h1 h2; omega
  | succ n ih =>
    intro i h1 h2
    unfold g_X6_flewSo_3 g_X7_kite_82
    by_cases hi : i = l
    · have : ¬ nI i < nI l := nI_nlt (by omega) (by omega)
      rw [if_neg this, if_neg this]
      exact ⟨_, rfl, rfl⟩
    have hlt : nI i < nI l := nI_lt (by omega) (by omega)
    obtain ⟨z1, z2, z3, z4⟩ := kite_ix c hc i (by omega)
    obtain ⟨y1, y2⟩ := ht_ix (c / 6) (by omega) ((c + i) % 6) (by omega)
    have e40 : (40 : Int32) * nI r + nI s + nI i = nI (40 * r + s + i) := by
      rw [show (40 : Int32) = nI 40 from rfl, pk_mul, nI_add, nI_add]
    have k1 : mj_in (nI (s + i)) 40 = true := mj_in_nI (by omega) (by decide)
    have k2 : mj_in (nI (40 * r + s + i)) 320 = true := mj_in_nI (by omega) (by decide)
    have k3 : mj_in (nI (6 * (c / 6) + (c + i) % 6)) 12 = true := mj_in_nI (by omega) (by decide)
    have k4 : mj_in (nI (6 * (c / 6) + (c + i) % 6)) 82 = true := mj_in_nI (by omega) (by decide)
    have hw : f (4 + 1) (6 * (c / 6) + (c + i) % 6) = h 4 (6 * (c / 6) + (c + i) % 6) := H.1.2.1 _ (by omega)
    have hro : f (28 + 2 * r + 1) (s + i) = h 3 (40 * r + s + i) := by rw [hrow (s + i) (by omega), Nat.add_assoc]
    unfold g_X2_blowing
    rw [if_pos hlt, if_pos hlt, e40, z4, z3, z1, y1, y2, nI_add]
    simp only [↓reduceIte, nI_1, k1, k2, k3, k4, ix_nI (show s + i < 2 ^ 31 by omega), ix_nI (show 40 * r + s + i < 2 ^ 31 by omega), ix_nI (show 6 * (c / 6) + (c + i) % 6 < 2 ^ 31 by omega), hro, hw, show ¬ (1 : Int32) = 0 by decide, Option.bind_some]
    by_cases c1 : h 3 (40 * r + s + i) = h 4 (6 * (c / 6) + (c + i) % 6)
    · rw [if_pos c1, if_pos c1]
      exact ih (i + 1) (by omega) (by omega)
    · rw [if_neg c1, if_neg c1, kite_dead (by omega) n (i + 1) (by omega) (by omega)]
      exact ⟨_, rfl, rfl⟩
theorem kite_out {f h : mj_I} {l r s m : Nat} {x4 : Int32} (H : hs 4 f h) (hl : l ≤ 12) (hr : r < 8) (hs : s + l ≤ m) (hm40 : m ≤ 40) (hrow : ∀ i, i < m → f (28 + 2 * r + 1) i = h 3 (40 * r + i)) :
    ∀ n d x6 x7, d ≤ 12 → d < n → ∃ a b, g_X6_kite_79 n (nI r) (nI s) (nI l) x4 x6 x7 (nI d + -1) f = some (a, b, f) ∧ g_X7_kite_71 n (nI r) (nI s) (nI l) x4 x6 x7 (nI d + -1) h = some (a, b, h) := by
  intro n
  induction n with
  | zero => intro d x6 x7 h1 h2; omega
  | succ n ih =>
    intro d x6 x7 h1 h2
    unfold g_X6_kite_79 g_X7_kite_71
    cases d with
    | zero =>
      rw [if_pos (by decide), if_pos (by decide)]
      exact ⟨_, _, rfl, rfl⟩
    | succ d =>
      have kr : mj_in (nI r) 8 = true := mj_in_nI hr (by decide)
      have hp : ¬ nI d < 0 := nI_pos (by omega)
      rw [dn, if_neg hp, if_neg hp, if_pos kr]
      obtain ⟨v, q1, q2⟩ := kite_in (x4 := x4) (x6 := x6) (x7 := x7) (c := d) H hl (by omega) hr hs hm40 hrow mj_fuel 0 (by omega) (by rw [fuel_eq]; omega)
      obtain ⟨z1, z2, _⟩ := kite_ix d (by omega) 0 (by omega)
      rw [show nI 0 = (0 : Int32) from rfl] at q1 q2
      unfold g_X6_flewSo g_X7_kite_159
      rw [q2, z2, z1, ix_nI (by omega), q1, Option.bind_some, Option.bind_some]
      simp only [mj_lt]
      by_cases c : v = 0
      · rw [if_pos c, if_pos c, if_pos c, Int32.add_zero]
        exact ih d _ _ (by omega) (by omega)
      · rw [if_neg c, if_neg c, if_neg c]
        exact ih d _ _ (by omega) (by omega)
theorem sim_kite : ls_kite rel := by
  intro fX fM gM hR x1 x2 x3 x4
  unfold g_X6_kite g_X7_kite g_X6_isRow g_X7_isRow
  rw [stands_eq hR, in_0_7, in_1_12, in_0_1]
  by_cases c0 : fM 0 4 = 0
  · rw [if_pos c0, if_pos c0]
    exact ⟨_, _, rfl, rfl, rfl, hR⟩
  rw [if_neg c0, if_neg c0]
  by_cases c3 : g_X6_within x1 0 7 = 0
  · rw [if_pos c3, if_pos c3]
    exact ⟨_, _, rfl, rfl, rfl, hR⟩
  rw [if_neg c3, if_neg c3]
  by_cases c5 : g_X6_within x3 1 12 = 0
  · rw [if_pos c5, if_pos c5]
    exact ⟨_, _, rfl, rfl, rfl, hR⟩
  rw [if_neg c5, if_neg c5]
  by_cases c6 : g_X6_within x4 0 1 = 0
  · rw [if_pos c6, if_pos c6]
    exact ⟨_, _, rfl, rfl, rfl, hR⟩
  rw [if_neg c6, if_neg c6]
  obtain ⟨r, hr, rfl⟩ := mj_in_ex (wi_7.mp c3) (by decide)
  obtain ⟨l, _, hl, rfl⟩ := wi_ex (a := 1) (b := 12) rfl rfl (by decide) c5
  have kr : mj_in (nI r) 8 = true := mj_in_nI hr (by decide)
  rw [if_pos kr, ix_nI (show r < 2 ^ 31 by omega)]
  simp only [mj_lt]
  rcases lack_both (x := x2) hR hr hl with ⟨v, hv, e1, e2⟩ | ⟨e1, e2, s, m, rfl, hs, hm40, hrow⟩
  · obtain ⟨n1, n2⟩ := find_neg (h := fM) hv
    rw [e1, e2, if_neg n2, Option.bind_some, if_pos n1]
    exact ⟨_, _, rfl, rfl, (find_both hR v).1, (find_both hR v).2⟩
  · rw [e1, e2, if_pos rfl, Option.bind_some, if_neg (show ¬ (0 : Int32) < 0 by decide)]
    obtain ⟨a, b, q1, q2⟩ := kite_out (x4 := x4) (now_hs hR) hl hr hs hm40 hrow mj_fuel 12 0 (-1000000) (by omega) (by rw [fuel_eq]; omega)
    have e11 : nI 12 + -1 = (11 : Int32) := by decide
    rw [e11] at q1 q2
    rw [q1, q2, Option.bind_some, Option.bind_some]
    by_cases c : x4 = 0
    · rw [if_pos c, if_pos c]
      exact ⟨_, _, rfl, rfl, rfl, as_both hR a⟩
    · rw [if_neg c, if_neg c]
      exact ⟨_, _, rfl, rfl, rfl, as_both hR b⟩
