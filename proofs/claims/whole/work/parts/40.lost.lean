/-! a row that may lack; lost -/
theorem lack_both {f h : mj_I} {g : mj_L} {r l : Nat} {x : Int32} (hR : rel f h g) (hr : r < 8) (hl : l ≤ 12) :
    (∃ v, (v = 1 ∨ v = 2) ∧ g_X3_lack (28 + 2 * r) x (nI l) f = v ∧ g_X7_lacks (nI r) x (nI l) h = some (g_X7_find v h)) ∨
    (g_X3_lack (28 + 2 * r) x (nI l) f = 0 ∧ g_X7_lacks (nI r) x (nI l) h = some (0, h) ∧ ∃ s n, x = nI s ∧ s + l ≤ n ∧ n ≤ 40 ∧ ∀ i, i < n → f (28 + 2 * r + 1) i = h 3 (40 * r + i)) := by
  have kr : mj_in (nI r) 8 = true := mj_in_nI hr (by decide)
  unfold g_X3_lack g_X7_lacks
  simp only [kr, ↓reduceIte, ix_nI (show r < 2 ^ 31 by omega), mj_lt]
  rcases hR.1 r hr with ⟨a1, a2⟩ | ⟨a1, n, a2, a3, a4, a5, a6⟩
  · rw [a1, a2, if_pos rfl, if_pos (by decide)]
    exact Or.inl ⟨1, Or.inl rfl, rfl, rfl⟩
  rw [a1, a3, if_neg (by decide), if_neg (nI_pos (by omega)), in_0x]
  have hh := has_iff a2 a4 x (nI l)
  have hl' : (nI l).toInt = l := nI_toInt (by omega)
  have hs : (nI n - nI l).toInt = (n : Int) - l := pk_sub_toInt (by omega) (by omega)
  have h0 : (0 : Int32).toInt = 0 := rfl
  have hw : g_X6_within x 0 (nI n - nI l) = 0 ↔ ¬ (0 ≤ x.toInt ∧ x.toInt + l ≤ n) := by
    rw [wi_iff, hs, h0]
    omega
  by_cases c : 0 ≤ x.toInt ∧ x.toInt + l ≤ n
  · rw [if_neg (fun z => hh.mp z ⟨c.1, by omega, by omega⟩), if_neg (fun z => hw.mp z c)]
    obtain ⟨s, hs, rfl⟩ := mj_in_ex (x := x) (n := 41) (mj_in_iff.mpr ⟨by omega, by omega⟩) (by decide)
    rw [nI_toInt (by omega)] at c
    exact Or.inr ⟨rfl, rfl, s, n, rfl, by omega, a2, a6⟩
  · rw [if_pos (hh.mpr (fun z => c ⟨z.1, by omega⟩)), if_pos (hw.mpr c)]
    exact Or.inl ⟨2, Or.inr rfl, rfl, rfl⟩
theorem find_neg {v : Int32} {h : mj_I} (hv : v = 1 ∨ v = 2) : (g_X7_find v h).1 < 0 ∧ ¬ v = 0 := by
  rcases hv with rfl | rfl
  · exact ⟨show (-1000010 - 1 : Int32) < 0 by decide, by decide⟩
  · exact ⟨show (-1000010 - 2 : Int32) < 0 by decide, by decide⟩
theorem way_eq {f h : mj_I} {k ht y : Nat} {c : Int32} (H : hs 4 f h) (hk : k < 5) (hm : nI k < h 4 50) (hht : ht < 2) (hy : y < 1100) :
    ∃ o v, g_X2_blowing 4 (nI ht) (nI y) f = some o ∧ g_X1_driftedFrom (4 + 4 + k) c o f = v ∧ g_X7_drifts (h 4 (51 + k)) c (nI ht) (nI y) h = some v := by
  obtain ⟨⟨_, w, p, cc⟩, ⟨v1, v2, v3, v4, v5⟩, _⟩ := H
  obtain ⟨c0, _⟩ := cc k hm hk
  have hd := v3 (6 * ht + y % 6) (by omega)
  have i1 := hour_ix y hy
  have i2 := ht_ix ht hht (y % 6) (by omega)
  have j12 : mj_in (nI (6 * ht + y % 6)) 12 = true := mj_in_nI (by omega) (by decide)
  have j82 : mj_in (nI (6 * ht + y % 6)) 82 = true := mj_in_nI (by omega) (by decide)
  have jx : ix (nI (6 * ht + y % 6)) = 6 * ht + y % 6 := ix_nI (by omega)
  have hw : f (4 + 1) (6 * ht + y % 6) = h 4 (6 * ht + y % 6) := w (6 * ht + y % 6) (by omega)
  obtain ⟨d, hd5, ed⟩ := mj_in_ex hd (by decide)
  obtain ⟨o1, o2⟩ := op_ot d hd5
  unfold g_X2_blowing g_X7_drifts g_X1_driftedFrom
  simp only [mj_lt, c0, i1, i2, j12, j82, jx, hw, ed, ↓reduceIte]
  refine ⟨_, _, rfl, rfl, ?_⟩
  by_cases k4 : h 4 (51 + k) = 4
  · simp only [k4, ↓reduceIte]
  by_cases k5 : h 4 (51 + k) = 5
  · simp only [k5, show ¬ (5 : Int32) = 4 by decide, ↓reduceIte, o1]
    rfl
  simp only [k4, k5, ↓reduceIte]
  rfl
theorem lost_dead {f h : mj_I} {k ht t l : Nat} {x3 x4 x6 x8 x9 x10 : Int32} (H : hs 4 f h) (hk : k < 5) (hm : nI k < h 4 50) (hht : ht < 2) (et : h 4 46 = nI t) (htl : t + l < 1100) :
    ∀ n i c, i ≤ l → l < i + n → g_X7_lost_97 n (nI k) (nI ht) x3 x4 (nI l) x6 x8 x9 x10 c 0 (nI i) h = some (0, h) := by
  intro n
  induction n with
  | zero => intro i c h1 h2; omega
  | succ n ih =>
    intro i c h1 h2
    unfold g_X7_lost_97
    by_cases hi : i = l
    · rw [if_neg (nI_nlt (by omega) (by omega))]
    rw [if_pos (nI_lt (by omega) (by omega)), et, nI_add]
    obtain ⟨o, v, w1, w2, w3⟩ := way_eq (c := c) H hk hm hht (show t + i < 1100 by omega)
    simp only [ix51 hk, ↓reduceIte, w3, Option.bind_some, nI_1]
    exact ih (i + 1) v (by omega) (by omega)
theorem lost_in {f h : mj_I} {k ht t l r s m : Nat} {x6 x8 x9 x10 : Int32} (H : hs 4 f h) (hk : k < 5) (hm : nI k < h 4 50) (hht : ht < 2) (et : h 4 46 = nI t) (htl : t + l < 1100) (hr : r < 8) (hs : s + l ≤ m) (hm40 : m ≤ 40) (hrow : ∀ i, i < m → f (28 + 2 * r + 1) i = h 3 (40 * r + i)) :
    ∀ n i c, i ≤ l → l < i + n → ∃ v, g_X6_tookWay_6 n (nI k) (nI ht) (28 + 2 * r) (nI s) (nI l) c (nI i) f = some v ∧ g_X7_lost_97 n (nI k) (nI ht) (nI r) (nI s) (nI l) x6 x8 x9 x10 c 1 (nI i) h = some (v, h) := by
  intro n
  induction n with
  | zero => intro i c h1 h2; omega
  | succ n ih =>
    intro i c h1 h2
    unfold g_X6_tookWay_6 g_X7_lost_97
    by_cases hi : i = l
    · have : ¬ nI i < nI l := nI_nlt (by omega) (by omega)
      rw [if_neg this, if_neg this]
      exact ⟨_, rfl, rfl⟩
    have hlt : nI i < nI l := nI_lt (by omega) (by omega)
    have e5 : f 4 5 = nI t := by rw [H.1.1.2.2.2.2.1]; exact et
    have e40 : (40 : Int32) * nI r + nI s + nI i = nI (40 * r + s + i) := by
      rw [show (40 : Int32) = nI 40 from rfl, pk_mul, nI_add, nI_add]
    have k1 : mj_in (nI (s + i)) 40 = true := mj_in_nI (by omega) (by decide)
    have k2 : mj_in (nI (40 * r + s + i)) 320 = true := mj_in_nI (by omega) (by decide)
    rw [if_pos hlt, if_pos hlt, et, e5, nI_add, e40, nI_add]
    obtain ⟨o, v, w1, w2, w3⟩ := way_eq (c := c) H hk hm hht (show t + i < 1100 by omega)
    have hro : f (28 + 2 * r + 1) (s + i) = h 3 (40 * r + s + i) := by rw [hrow (s + i) (by omega), Nat.add_assoc]
    simp only [in5 hk, ix51 hk, ↓reduceIte, w1, w3, Option.bind_some, nI_1, mj_lt, w2, k1, k2, ix_nI (show s + i < 2 ^ 31 by omega), ix_nI (show 40 * r + s + i < 2 ^ 31 by omega), hro, show ¬ (1 : Int32) = 0 by decide]
    by_cases c1 : h 3 (40 * r + s + i) = v
    · rw [if_pos c1, if_pos c1]
      exact ih (i + 1) v (by omega) (by omega)
    · rw [if_neg c1, if_neg c1, lost_dead H hk hm hht et htl n (i + 1) v (by omega) (by omega)]
      exact ⟨_, rfl, rfl⟩
theorem dn (d : Nat) : nI (d + 1) + -1 = nI d := by
  rw [← nI_1, Int32.add_assoc, show (1 : Int32) + -1 = 0 by decide, Int32.add_zero]
theorem lost_out {f h : mj_I} {k ht t l r s m : Nat} {x6 : Int32} (H : hs 4 f h) (hk : k < 5) (hm : nI k < h 4 50) (hht : ht < 2) (et : h 4 46 = nI t) (htl : t + l < 1100) (hr : r < 8) (hs : s + l ≤ m) (hm40 : m ≤ 40) (hrow : ∀ i, i < m → f (28 + 2 * r + 1) i = h 3 (40 * r + i)) :
    ∀ n d x8 x9, d ≤ 32 → d < n → ∃ a b, g_X6_lost_86 n (nI k) (nI ht) (nI r) (nI s) (nI l) x6 x8 x9 (nI d + -1) f = some (a, b, f) ∧ g_X7_lost_82 n (nI k) (nI ht) (nI r) (nI s) (nI l) x6 x8 x9 (nI d + -1) h = some (a, b, h) := by
  intro n
  induction n with
  | zero => intro d x8 x9 h1 h2; omega
  | succ n ih =>
    intro d x8 x9 h1 h2
    unfold g_X6_lost_86 g_X7_lost_82
    cases d with
    | zero =>
      rw [if_pos (by decide), if_pos (by decide)]
      exact ⟨_, _, rfl, rfl⟩
    | succ d =>
      have kr : mj_in (nI r) 8 = true := mj_in_nI hr (by decide)
      have hp : ¬ nI d < 0 := nI_pos (by omega)
      rw [dn, if_neg hp, if_neg hp]
      obtain ⟨v, q1, q2⟩ := lost_in (x6 := x6) (x8 := x8) (x9 := x9) (x10 := nI d) H hk hm hht et htl hr hs hm40 hrow mj_fuel 0 (nI d) (by omega) (by rw [fuel_eq]; omega)
      rw [show nI 0 = (0 : Int32) from rfl] at q1 q2
      unfold g_X6_tookWay g_X7_lost_182
      rw [q2]
      simp only [kr, ↓reduceIte, ix_nI (show r < 2 ^ 31 by omega), q1, Option.bind_some, mj_lt]
      by_cases c : v = 0
      · rw [if_pos c, if_pos c, if_pos c, Int32.add_zero]
        exact ih d _ _ (by omega) (by omega)
      · rw [if_neg c, if_neg c, if_neg c]
        exact ih d _ _ (by omega) (by omega)
theorem sim_lost : ls_lost rel := by
  intro fX fM gM hR x1 x2 x3 x4 x5 x6
  unfold g_X6_lost g_X7_lost g_X6_isRow g_X7_isRow
  rw [iscl_eq hR, in_0_1, in_0_7, in_1_12, in_0_1]
  by_cases c1 : g_X6_isCloud x1 fX = 0
  · rw [if_pos c1, if_pos c1]
    exact ⟨_, _, rfl, rfl, rfl, hR⟩
  rw [if_neg c1, if_neg c1]
  by_cases c2 : g_X6_within x2 0 1 = 0
  · rw [if_pos c2, if_pos c2]
    exact ⟨_, _, rfl, rfl, rfl, hR⟩
  rw [if_neg c2, if_neg c2]
  by_cases c3 : g_X6_within x3 0 7 = 0
  · rw [if_pos c3, if_pos c3]
    exact ⟨_, _, rfl, rfl, rfl, hR⟩
  rw [if_neg c3, if_neg c3]
  by_cases c5 : g_X6_within x5 1 12 = 0
  · rw [if_pos c5, if_pos c5]
    exact ⟨_, _, rfl, rfl, rfl, hR⟩
  rw [if_neg c5, if_neg c5]
  by_cases c6 : g_X6_within x6 0 1 = 0
  · rw [if_pos c6, if_pos c6]
    exact ⟨_, _, rfl, rfl, rfl, hR⟩
  rw [if_neg c6, if_neg c6]
  obtain ⟨k, hk, rfl, hm⟩ := iscl_ex hR c1
  obtain ⟨ht, _, hht, rfl⟩ := wi_ex (a := 0) (b := 1) rfl rfl (by decide) c2
  obtain ⟨r, hr, rfl⟩ := mj_in_ex (wi_7.mp c3) (by decide)
  obtain ⟨l, _, hl, rfl⟩ := wi_ex (a := 1) (b := 12) rfl rfl (by decide) c5
  have kr : mj_in (nI r) 8 = true := mj_in_nI hr (by decide)
  simp only [kr, ↓reduceIte, ix_nI (show r < 2 ^ 31 by omega), mj_lt]
  rcases lack_both (x := x4) hR hr hl with ⟨v, hv, e1, e2⟩ | ⟨e1, e2, s, m, rfl, hs, hm40, hrow⟩
  · obtain ⟨n1, n2⟩ := find_neg (h := fM) hv
    rw [e1, e2, if_neg n2, Option.bind_some, if_pos n1]
    exact ⟨_, _, rfl, rfl, (find_both hR v).1, (find_both hR v).2⟩
  · rw [e1, e2, if_pos rfl, Option.bind_some, if_neg (show ¬ (0 : Int32) < 0 by decide)]
    obtain ⟨t, ht', et⟩ := mj_in_ex hR.2.2.2.1.2.2.2.1 (by decide)
    obtain ⟨a, b, q1, q2⟩ := lost_out (x6 := x6) (now_hs hR) hk hm (show ht < 2 by omega) et (by omega) hr hs hm40 hrow mj_fuel 32 0 (-1000000) (by omega) (by rw [fuel_eq]; omega)
    have e31 : nI 32 + -1 = (31 : Int32) := by decide
    rw [e31] at q1 q2
    rw [q1, q2, Option.bind_some, Option.bind_some]
    by_cases c : x6 = 0
    · rw [if_pos c, if_pos c]
      exact ⟨_, _, rfl, rfl, rfl, as_both hR a⟩
    · rw [if_neg c, if_neg c]
      exact ⟨_, _, rfl, rfl, rfl, as_both hR b⟩
