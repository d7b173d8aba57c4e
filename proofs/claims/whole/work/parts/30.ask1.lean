/-! cloud, cell, wind, ahead, earned, dues, shade, knot, wetHay -/
theorem stands_eq {f h : mj_I} {g : mj_L} (hR : rel f h g) : f 4 0 = h 0 4 := hR.2.2.2.1.1
theorem iscl_eq {f h : mj_I} {g : mj_L} (hR : rel f h g) (x : Int32) : g_X7_isCloud x h = g_X6_isCloud x f := by
  unfold g_X7_isCloud g_X6_isCloud
  rw [in_0x, (now_hs hR).1.1.2.2.2.1]
theorem iscl_ex {f h : mj_I} {g : mj_L} (hR : rel f h g) {x : Int32} (hc : ¬ g_X6_isCloud x f = 0) : ∃ k, k < 5 ∧ x = nI k ∧ nI k < h 4 50 := by
  unfold g_X6_isCloud at hc
  obtain ⟨m, hm, em⟩ := mj_in_ex (now_hs hR).2.1.1 (by decide)
  have e : f 4 4 = nI m := by rw [(now_hs hR).1.1.2.2.2.1, em]
  rw [e] at hc
  by_cases h0 : m = 0
  · subst h0
    exfalso
    apply hc
    rw [wi_iff]
    intro q
    have : (nI 0 - 1 : Int32).toInt = -1 := by decide
    have : (0 : Int32).toInt = 0 := rfl
    omega
  · rw [show nI m - 1 = nI (m - 1) by rw [show nI m = nI (m - 1) + 1 by rw [nI_1, show m - 1 + 1 = m by omega]]; exact Int32.add_sub_cancel _ _] at hc
    obtain ⟨k, _, h2, h3⟩ := wi_ex (a := 0) (b := m - 1) rfl (nI_toInt (by omega)) (by omega) hc
    exact ⟨k, by omega, h3, by rw [em]; exact nI_lt (by omega) (by omega)⟩
theorem bit_in {x : Int32} (h : mj_in x 2 = true) : g_X6_bit x = x := by
  obtain ⟨k, hk, rfl⟩ := mj_in_ex h (by decide)
  rcases (show k = 0 ∨ k = 1 by omega) with rfl | rfl <;> rfl
theorem told_eq {a k : Nat} {f h : mj_I} (H : hs a f h) (hk : k < 5) (hm : nI k < h 4 50) (x : Int32) : g_X7_toldOf (nI k) x h = some (g_X1_part (a + 4 + k) x f) := by
  obtain ⟨c0, c1, c2, c3, c4, c5⟩ := H.1.2.2.2 k hm hk
  obtain ⟨u0, u1, u2, u3, u4, u5, u6⟩ := H.2.1.2.2.2.2 k hm hk
  unfold g_X7_toldOf g_X1_part
  simp only [c1, c2, c3, c4, c5, ix56 hk, ix61 hk, ix66 hk, ix71 hk, ix76 hk, ↓reduceIte, bit_in u4, bit_in u5]
  by_cases k0 : x = 0
  · simp only [k0, ↓reduceIte]
  by_cases k1 : x = 1
  · simp only [k1, show ¬ (1 : Int32) = 0 by decide, ↓reduceIte]
  by_cases k2 : x = 2
  · simp only [k2, show ¬ (2 : Int32) = 0 by decide, show ¬ (2 : Int32) = 1 by decide, ↓reduceIte]
  by_cases k3 : x = 3
  · simp only [k3, show ¬ (3 : Int32) = 0 by decide, show ¬ (3 : Int32) = 1 by decide, show ¬ (3 : Int32) = 2 by decide, ↓reduceIte]
  simp only [k0, k1, k2, k3, ↓reduceIte]
theorem or0 (x : Int32) : x ||| 0 = x := Int32.or_zero
theorem over_loop {m a : Nat} {f h : mj_I} {x : Int32} (H : hs a f h) (hc : h 4 50 = nI m) (hm : m ≤ 5) : ∀ n i s, i ≤ m → m < i + n → ∃ v, g_X2_cloudsOver_4 n a x s (nI i) f = some v ∧ g_X7_over_4 n x s (nI i) h = some v := by
  have e4 : f a 4 = h 4 50 := H.1.1.2.2.2.1
  intro n
  induction n with
  | zero => intro i s h1 h2; omega
  | succ n ih =>
    intro i s h1 h2
    unfold g_X2_cloudsOver_4 g_X7_over_4
    rw [e4, hc]
    by_cases hi : i = m
    · have : ¬ nI i < nI m := nI_nlt (by omega) (by omega)
      rw [if_neg this, if_neg this]
      exact ⟨_, rfl, rfl⟩
    have hlt : nI i < nI m := nI_lt (by omega) (by omega)
    have h5 : i < 5 := by omega
    rw [if_pos hlt, if_pos hlt, there_step h5]
    obtain ⟨c0, c1, c2, c3, c4, c5⟩ := H.1.2.2.2 i (by rw [hc]; exact hlt) h5
    simp only [mj_lt, in5 h5, c4, c1, ↓reduceIte, Option.bind_some, or0, ix56 h5, nI_1]
    by_cases hg : h 4 (71 + i) = 0
    · simp only [hg, ↓reduceIte, show ¬ (1 : Int32) = 0 by decide]
      by_cases he : h 4 (56 + i) = x
      · simp only [he, ↓reduceIte]
        exact ih (i + 1) _ (by omega) (by omega)
      · simp only [he, ↓reduceIte]
        exact ih (i + 1) _ (by omega) (by omega)
    · simp only [hg, ↓reduceIte]
      exact ih (i + 1) _ (by omega) (by omega)
theorem over_eq {a : Nat} {f h : mj_I} (H : hs a f h) (x : Int32) : ∃ v, g_X2_cloudsOver a x f = some v ∧ g_X7_over x h = some v := by
  obtain ⟨m, hm, em⟩ := mj_in_ex H.2.1.1 (by decide)
  obtain ⟨v, q1, q2⟩ := over_loop (x := x) H em (by omega) mj_fuel 0 0 (by omega) (by rw [fuel_eq]; omega)
  unfold g_X2_cloudsOver g_X7_over
  rw [show nI 0 = (0 : Int32) from rfl] at q1 q2
  rw [q1, q2]
  exact ⟨v, rfl, rfl⟩
theorem sim_cloud : ls_cloud rel := by
  intro fX fM gM hR x1 x2
  unfold g_X6_cloud g_X7_cloud
  rw [iscl_eq hR, in_0_4]
  by_cases c1 : g_X6_isCloud x1 fX = 0
  · rw [if_pos c1, if_pos c1]
    exact ⟨_, _, rfl, rfl, rfl, hR⟩
  rw [if_neg c1, if_neg c1]
  by_cases c2 : g_X6_within x2 0 4 = 0
  · rw [if_pos c2, if_pos c2]
    exact ⟨_, _, rfl, rfl, rfl, hR⟩
  rw [if_neg c2, if_neg c2]
  obtain ⟨k, hk, rfl, hm⟩ := iscl_ex hR c1
  rw [told_eq (now_hs hR) hk hm x2]
  simp only [in5 hk, ↓reduceIte, Option.bind_some]
  exact ⟨_, _, rfl, rfl, rfl, hR⟩
theorem sim_cell : ls_cell rel := by
  intro fX fM gM hR x1 x2
  unfold g_X6_cell g_X7_cell g_X6_isCell g_X7_isCell
  rw [stands_eq hR, in_0_31, in_0_1]
  by_cases c0 : fM 0 4 = 0
  · rw [if_pos c0, if_pos c0]
    exact ⟨_, _, rfl, rfl, rfl, hR⟩
  rw [if_neg c0, if_neg c0]
  by_cases c1 : g_X6_within x1 0 31 = 0
  · rw [if_pos c1, if_pos c1]
    exact ⟨_, _, rfl, rfl, rfl, hR⟩
  rw [if_neg c1, if_neg c1]
  by_cases c2 : g_X6_within x2 0 1 = 0
  · rw [if_pos c2, if_pos c2]
    exact ⟨_, _, rfl, rfl, rfl, hR⟩
  rw [if_neg c2, if_neg c2]
  by_cases c3 : x2 = 0
  · rw [if_pos c3, if_pos c3]
    obtain ⟨k, _, hk, rfl⟩ := wi_ex (a := 0) (b := 31) rfl rfl (by decide) c1
    have hp := (now_hs hR).1.2.2.1 k (by omega)
    have k1 : mj_in (nI k) 32 = true := mj_in_nI (by omega) (by decide)
    simp only [k1, ix12 (show k < 32 by omega), ↓reduceIte, ix_nI (show k < 2 ^ 31 by omega)]
    exact ⟨_, _, rfl, rfl, hp, hR⟩
  · rw [if_neg c3, if_neg c3]
    obtain ⟨v, q1, q2⟩ := over_eq (now_hs hR) x1
    rw [q1, q2]
    exact ⟨_, _, rfl, rfl, rfl, hR⟩
theorem sim_wind : ls_wind rel := by
  intro fX fM gM hR x1 x2
  unfold g_X6_wind g_X7_wind g_X2_blowing
  rw [stands_eq hR, in_0_1, in_0_5]
  by_cases c0 : fM 0 4 = 0
  · rw [if_pos c0, if_pos c0]
    exact ⟨_, _, rfl, rfl, rfl, hR⟩
  rw [if_neg c0, if_neg c0]
  by_cases c1 : g_X6_within x1 0 1 = 0
  · rw [if_pos c1, if_pos c1]
    exact ⟨_, _, rfl, rfl, rfl, hR⟩
  rw [if_neg c1, if_neg c1]
  by_cases c2 : g_X6_within x2 0 5 = 0
  · rw [if_pos c2, if_pos c2]
    exact ⟨_, _, rfl, rfl, rfl, hR⟩
  rw [if_neg c2, if_neg c2]
  obtain ⟨a, _, ha, rfl⟩ := wi_ex (a := 0) (b := 1) rfl rfl (by decide) c1
  obtain ⟨b, _, hb, rfl⟩ := wi_ex (a := 0) (b := 5) rfl rfl (by decide) c2
  have hw := (now_hs hR).1.2.1 (6 * a + b) (by omega)
  have i1 := hour_ix b (by omega)
  rw [Nat.mod_eq_of_lt (by omega)] at i1
  have i2 := ht_ix a (by omega) b (by omega)
  have j12 : mj_in (nI (6 * a + b)) 12 = true := mj_in_nI (by omega) (by decide)
  have j82 : mj_in (nI (6 * a + b)) 82 = true := mj_in_nI (by omega) (by decide)
  simp only [i1, i2, j12, j82, ↓reduceIte, ix_nI (show 6 * a + b < 2 ^ 31 by omega), Option.bind_some]
  exact ⟨_, _, rfl, rfl, hw, hR⟩
theorem try_both {f h : mj_I} {g : mj_L} {x : Nat} (hR : rel f h g) (hx : x ≤ 60) : ∃ f2 h1 h2 t, g_X6_tryHours (nI x) f = some f2 ∧ g_X7_putAside h = some h1 ∧ g_X7_goOn (nI x) h1 = some h2 ∧ tr f h f2 h2 t := by
  obtain ⟨f1, h1, t, q1, q2, q3, T⟩ := tr_begin hR
  obtain ⟨f2, h2, r1, r2, r3⟩ := tr_hours (x := x) (by omega) mj_fuel 0 f1 h1 t T (by omega) (by rw [fuel_eq]; omega) (by omega)
  refine ⟨f2, h1, h2, t + (x - 0), ?_, q2, ?_, r3⟩
  · unfold g_X6_tryHours
    rw [q1, show (0 : Int32) = nI 0 from rfl]
    simp only [Option.bind_some]
    rw [r1]; rfl
  · unfold g_X7_goOn
    rw [show (0 : Int32) = nI 0 from rfl, r2]; rfl
theorem tr_50 {f h f' h' : mj_I} {t : Nat} (T : tr f h f' h' t) : h' 4 50 = h 4 50 := T.2.2.2.2.2.2.1 50 (by omega)
theorem sim_ahead : ls_ahead rel := by
  intro fX fM gM hR x1 x2 x3
  unfold g_X6_ahead g_X7_ahead
  rw [iscl_eq hR, in_0_60, in_0_3]
  by_cases c1 : g_X6_isCloud x1 fX = 0
  · rw [if_pos c1, if_pos c1]
    exact ⟨_, _, rfl, rfl, rfl, hR⟩
  rw [if_neg c1, if_neg c1]
  by_cases c2 : g_X6_within x2 0 60 = 0
  · rw [if_pos c2, if_pos c2]
    exact ⟨_, _, rfl, rfl, rfl, hR⟩
  rw [if_neg c2, if_neg c2]
  by_cases c3 : g_X6_within x3 0 3 = 0
  · rw [if_pos c3, if_pos c3]
    exact ⟨_, _, rfl, rfl, rfl, hR⟩
  rw [if_neg c3, if_neg c3]
  obtain ⟨k, hk, rfl, hm⟩ := iscl_ex hR c1
  obtain ⟨x, _, hx, rfl⟩ := wi_ex (a := 0) (b := 60) rfl rfl (by decide) c2
  obtain ⟨f2, h1, h2, t, q1, q2, q3, T⟩ := try_both hR hx
  obtain ⟨h3, b1, b2⟩ := tr_back hR T
  rw [q1, q2]
  simp only [Option.bind_some, q3, in5 hk, ↓reduceIte, told_eq T.1 hk (by rw [tr_50 T]; exact hm), b1]
  exact ⟨_, _, rfl, rfl, rfl, b2⟩
theorem sim_earned : ls_earned rel := by
  intro fX fM gM hR x1
  unfold g_X6_earned g_X7_earned
  rw [stands_eq hR, in_0_60]
  by_cases c1 : fM 0 4 = 0
  · rw [if_pos c1, if_pos c1]
    exact ⟨_, _, rfl, rfl, rfl, hR⟩
  rw [if_neg c1, if_neg c1]
  by_cases c2 : g_X6_within x1 0 60 = 0
  · rw [if_pos c2, if_pos c2]
    exact ⟨_, _, rfl, rfl, rfl, hR⟩
  rw [if_neg c2, if_neg c2]
  obtain ⟨x, _, hx, rfl⟩ := wi_ex (a := 0) (b := 60) rfl rfl (by decide) c2
  obtain ⟨f2, h1, h2, t, q1, q2, q3, T⟩ := try_both hR hx
  obtain ⟨h3, b1, b2⟩ := tr_back hR T
  rw [q1, q2]
  simp only [Option.bind_some, q3, mj_lt, b1]
  exact ⟨_, _, rfl, rfl, T.1.1.1.2.2.2.2.2.1, b2⟩
theorem sim_dues : ls_dues rel := by
  intro fX fM gM hR x1
  unfold g_X6_dues g_X7_dues
  rw [stands_eq hR, in_0_60]
  by_cases c1 : fM 0 4 = 0
  · rw [if_pos c1, if_pos c1]
    exact ⟨_, _, rfl, rfl, rfl, hR⟩
  rw [if_neg c1, if_neg c1]
  by_cases c2 : g_X6_within x1 0 60 = 0
  · rw [if_pos c2, if_pos c2]
    exact ⟨_, _, rfl, rfl, rfl, hR⟩
  rw [if_neg c2, if_neg c2]
  obtain ⟨x, _, hx, rfl⟩ := wi_ex (a := 0) (b := 60) rfl rfl (by decide) c2
  obtain ⟨f2, h1, h2, t, q1, q2, q3, T⟩ := try_both hR hx
  obtain ⟨h3, b1, b2⟩ := tr_back hR T
  rw [q1, q2]
  simp only [Option.bind_some, q3, mj_lt, b1]
  refine ⟨_, _, rfl, rfl, ?_, b2⟩
  show f2 13 7 - f2 4 7 = h2 4 48 - h2 9 48
  rw [T.1.1.1.2.2.2.2.2.2, T.2.2.2.2.2.1 48 (by omega), T.2.1 4 (by omega), (now_hs hR).1.1.2.2.2.2.2.2]
theorem shade_loop {f h : mj_I} {x : Nat} {y : Int32} (hx : x < 2 ^ 31) : ∀ n i f' h' t s, tr f h f' h' t → i ≤ x → x < i + n → t + (x - i) < 1100 → ∃ v f2 h2 t2, g_X6_shade_49 n y (nI x) s (nI i) f' = some (v, f2) ∧ g_X7_shade_41 n y (nI x) s (nI i) h' = some (v, h2) ∧ tr f h f2 h2 t2 := by
  intro n
  induction n with
  | zero => intro i f' h' t s _ h1 h2; omega
  | succ n ih =>
    intro i f' h' t s T h1 h2 h3
    unfold g_X6_shade_49 g_X7_shade_41
    by_cases hi : i = x
    · have : ¬ nI i < nI x := nI_nlt (by omega) (by omega)
      rw [if_neg this, if_neg this]
      exact ⟨_, _, _, _, rfl, rfl, T⟩
    have hlt : nI i < nI x := nI_lt (by omega) (by omega)
    rw [if_pos hlt, if_pos hlt]
    obtain ⟨f2, h2', s', q1, q2, _, _, q5⟩ := tr_hour T (by omega)
    obtain ⟨v, o1, o2⟩ := over_eq q5.1 y
    rw [q1, q2]
    simp only [Option.bind_some, o1, o2, mj_lt, or0, nI_1]
    by_cases c : v = 0
    · simp only [c, ↓reduceIte]
      exact ih (i + 1) f2 h2' (t + 1) _ q5 (by omega) (by omega) (by omega)
    · simp only [c, ↓reduceIte]
      exact ih (i + 1) f2 h2' (t + 1) _ q5 (by omega) (by omega) (by omega)
theorem sim_shade : ls_shade rel := by
  intro fX fM gM hR x1 x2
  unfold g_X6_shade g_X7_shade g_X6_isCell g_X7_isCell
  rw [stands_eq hR, in_0_31, in_1_24]
  by_cases c0 : fM 0 4 = 0
  · rw [if_pos c0, if_pos c0]
    exact ⟨_, _, rfl, rfl, rfl, hR⟩
  rw [if_neg c0, if_neg c0]
  by_cases c1 : g_X6_within x1 0 31 = 0
  · rw [if_pos c1, if_pos c1]
    exact ⟨_, _, rfl, rfl, rfl, hR⟩
  rw [if_neg c1, if_neg c1]
  by_cases c2 : g_X6_within x2 1 24 = 0
  · rw [if_pos c2, if_pos c2]
    exact ⟨_, _, rfl, rfl, rfl, hR⟩
  rw [if_neg c2, if_neg c2]
  obtain ⟨x, _, hx, rfl⟩ := wi_ex (a := 1) (b := 24) rfl rfl (by decide) c2
  obtain ⟨f1, h1, t, q1, q2, q3, T⟩ := tr_begin hR
  obtain ⟨v, f2, h2, t2, r1, r2, r3⟩ := shade_loop (x := x) (y := x1) (by omega) mj_fuel 0 f1 h1 t 0 T (by omega) (by rw [fuel_eq]; omega) (by omega)
  rw [show nI 0 = (0 : Int32) from rfl] at r1 r2
  obtain ⟨h3, b1, b2⟩ := tr_back hR r3
  rw [q1, q2]
  simp only [Option.bind_some, r1, r2, b1]
  exact ⟨_, _, rfl, rfl, rfl, b2⟩
theorem p32 : ∀ s, s < 32 → (0 < nI s ↔ ¬ nI s = 0) := by decide +kernel
theorem p32' {s : Int32} (h : mj_in s 32 = true) : 0 < s ↔ ¬ s = 0 := by
  obtain ⟨k, hk, rfl⟩ := mj_in_ex h (by decide)
  exact p32 k hk
theorem knot_loop {f h : mj_I} {x : Nat} {y : Int32} (hx : x < 2 ^ 31) : ∀ n i f' h' t, tr f h f' h' t → i ≤ x → x + 1 < i + n → t + (x - i) < 1100 → ∃ v f2 a b h2 t2, g_X6_knot_48 n (nI x) y (nI i) f' = some (v, f2) ∧ g_X7_knot_49 n (nI x) y (-1000000) (-1000000) (nI i) h' = some (a, b, h2) ∧ v = (if y = 0 then a else b) ∧ tr f h f2 h2 t2 := by
  intro n
  induction n with
  | zero => intro i f' h' t _ h1 h2; omega
  | succ n ih =>
    intro i f' h' t T h1 h2 h3
    unfold g_X6_knot_48 g_X7_knot_49
    by_cases hi : i = x
    · have : ¬ nI i < nI x := nI_nlt (by omega) (by omega)
      rw [if_neg this, if_neg this]
      exact ⟨_, _, _, _, _, _, rfl, rfl, by rw [ite_self], T⟩
    have hlt : nI i < nI x := nI_lt (by omega) (by omega)
    rw [if_pos hlt, if_pos hlt]
    obtain ⟨f2, h2', s', q1, q2, ⟨q3, q3'⟩, _, q5⟩ := tr_hour T (by omega)
    rw [q1, q2, if_pos (by decide)]
    unfold g_X7_knot_77
    simp only [Option.bind_some, q3, p32' q3', nI_1]
    by_cases c : s' = 0
    · simp only [c, ↓reduceIte, not_true_eq_false]
      exact ih (i + 1) f2 h2' (t + 1) q5 (by omega) (by omega) (by omega)
    · simp only [c, ↓reduceIte, not_false_eq_true]
      obtain ⟨n', rfl⟩ : ∃ n', n = n' + 1 := ⟨n - 1, by omega⟩
      have hM : g_X7_knot_49 (n' + 1) (nI x) y (nI i) s' (nI (i + 1)) h2' = some (nI i, s', h2') := by
        unfold g_X7_knot_49
        rw [if_neg (nI_pos (by omega)), ite_self]
      rw [hM]
      by_cases c2 : y = 0
      · simp only [c2, ↓reduceIte]
        exact ⟨_, _, _, _, _, _, rfl, rfl, rfl, q5⟩
      · simp only [c2, ↓reduceIte]
        exact ⟨_, _, _, _, _, _, rfl, rfl, rfl, q5⟩
theorem sim_knot : ls_knot rel := by
  intro fX fM gM hR x1 x2
  unfold g_X6_knot g_X7_knot
  rw [stands_eq hR, in_1_60, in_0_1]
  by_cases c0 : fM 0 4 = 0
  · rw [if_pos c0, if_pos c0]
    exact ⟨_, _, rfl, rfl, rfl, hR⟩
  rw [if_neg c0, if_neg c0]
  by_cases c1 : g_X6_within x1 1 60 = 0
  · rw [if_pos c1, if_pos c1]
    exact ⟨_, _, rfl, rfl, rfl, hR⟩
  rw [if_neg c1, if_neg c1]
  by_cases c2 : g_X6_within x2 0 1 = 0
  · rw [if_pos c2, if_pos c2]
    exact ⟨_, _, rfl, rfl, rfl, hR⟩
  rw [if_neg c2, if_neg c2]
  obtain ⟨x, _, hx, rfl⟩ := wi_ex (a := 1) (b := 60) rfl rfl (by decide) c1
  obtain ⟨f1, h1, t, q1, q2, q3, T⟩ := tr_begin hR
  obtain ⟨v, f2, a, b, h2, t2, r1, r2, r3, r4⟩ := knot_loop (x := x) (y := x2) (by omega) mj_fuel 0 f1 h1 t T (by omega) (by rw [fuel_eq]; omega) (by omega)
  rw [show nI 0 = (0 : Int32) from rfl] at r1 r2
  obtain ⟨h3, b1, b2⟩ := tr_back hR r4
  rw [q1, q2]
  simp only [Option.bind_some, r1, r2, b1]
  by_cases c3 : x2 = 0
  · rw [if_pos c3] at r3 ⊢
    exact ⟨_, _, rfl, rfl, r3, b2⟩
  · rw [if_neg c3] at r3 ⊢
    exact ⟨_, _, rfl, rfl, r3, b2⟩
theorem hay_loop {f h : mj_I} {x : Nat} {y : Int32} (hx : x < 2 ^ 31) : ∀ n i f' h' t u w, tr f h f' h' t → (u = -1000000 ∨ ¬ u < 0) → i ≤ x → x < i + n → t + (x - i) < 1100 → ∃ a b f2 h2 t2, g_X6_wetHay_55 n (nI x) y u w (nI i) f' = some (a, b, f2) ∧ g_X7_wetHay_48 n (nI x) y u (w * h 4 45) (nI i) h' = some (a, b * h 4 45, h2) ∧ tr f h f2 h2 t2 := by
  intro n
  induction n with
  | zero => intro i f' h' t u w _ _ h1 h2; omega
  | succ n ih =>
    intro i f' h' t u w T hu h1 h2 h3
    unfold g_X6_wetHay_55 g_X7_wetHay_48
    by_cases hi : i = x
    · have : ¬ nI i < nI x := nI_nlt (by omega) (by omega)
      rw [if_neg this, if_neg this]
      exact ⟨_, _, _, _, _, rfl, rfl, T⟩
    have hlt : nI i < nI x := nI_lt (by omega) (by omega)
    rw [if_pos hlt, if_pos hlt]
    obtain ⟨f2, h2', s', q1, q2, _, q4, q5⟩ := tr_hour T (by omega)
    have e45 : h2' 4 45 = h 4 45 := q5.2.2.2.2.2.2.1 45 (by omega)
    rw [q1, q2]
    unfold g_X7_wetHay_76
    simp only [Option.bind_some, q4, mj_lt, e45, nI_1, ← Int32.add_mul]
    rcases hu with rfl | hu
    · simp only [↓reduceIte, show (-1000000 : Int32) < 0 by decide]
      by_cases c : 0 < h2' 0 16
      · simp only [c, ↓reduceIte]
        exact ih (i + 1) f2 h2' (t + 1) _ _ q5 (Or.inr (nI_pos (by omega))) (by omega) (by omega) (by omega)
      · simp only [c, ↓reduceIte]
        exact ih (i + 1) f2 h2' (t + 1) _ _ q5 (Or.inl rfl) (by omega) (by omega) (by omega)
    · have hne : ¬ u = -1000000 := fun e => hu (by rw [e]; decide)
      simp only [hne, hu, ↓reduceIte, ite_self]
      exact ih (i + 1) f2 h2' (t + 1) _ _ q5 (Or.inr hu) (by omega) (by omega) (by omega)
theorem sim_wetHay : ls_wetHay rel := by
  intro fX fM gM hR x1 x2
  unfold g_X6_wetHay g_X7_wetHay
  rw [stands_eq hR, in_1_60, in_0_1]
  by_cases c0 : fM 0 4 = 0
  · rw [if_pos c0, if_pos c0]
    exact ⟨_, _, rfl, rfl, rfl, hR⟩
  rw [if_neg c0, if_neg c0]
  by_cases c1 : g_X6_within x1 1 60 = 0
  · rw [if_pos c1, if_pos c1]
    exact ⟨_, _, rfl, rfl, rfl, hR⟩
  rw [if_neg c1, if_neg c1]
  by_cases c2 : g_X6_within x2 0 1 = 0
  · rw [if_pos c2, if_pos c2]
    exact ⟨_, _, rfl, rfl, rfl, hR⟩
  rw [if_neg c2, if_neg c2]
  obtain ⟨x, _, hx, rfl⟩ := wi_ex (a := 1) (b := 60) rfl rfl (by decide) c1
  obtain ⟨f1, h1, t, q1, q2, q3, T⟩ := tr_begin hR
  obtain ⟨a, b, f2, h2, t2, r1, r2, r3⟩ := hay_loop (x := x) (y := x2) (by omega) mj_fuel 0 f1 h1 t (-1000000) 0 T (Or.inl rfl) (by omega) (by rw [fuel_eq]; omega) (by omega)
  rw [show nI 0 = (0 : Int32) from rfl] at r1 r2
  rw [Int32.zero_mul] at r2
  obtain ⟨h3, b1, b2⟩ := tr_back hR r3
  rw [q1, q2]
  simp only [Option.bind_some, r1, r2, b1]
  by_cases c3 : x2 = 0
  · rw [if_pos c3, if_pos c3]
    exact ⟨_, _, rfl, rfl, rfl, b2⟩
  · rw [if_neg c3, if_neg c3]
    refine ⟨_, _, rfl, rfl, ?_, b2⟩
    show b * f2 4 2 = b * fM 4 45
    rw [r3.2.1 4 (by omega), (now_hs hR).1.1.2.1]
