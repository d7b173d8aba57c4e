/-! the common measure; tuesday -/
theorem cmp_eq (x y : Int64) : lg_cmp x y = 0 ↔ x = y := by
  unfold lg_cmp
  by_cases h1 : x > y
  · rw [if_pos h1]
    constructor
    · intro h; exact absurd h (by decide)
    · intro h
      subst h
      have : x.toInt < x.toInt := Int64.lt_iff_toInt_lt.mp h1
      omega
  · rw [if_neg h1]
    by_cases h2 : x = y
    · rw [if_pos h2]; exact ⟨fun _ => h2, fun _ => rfl⟩
    · rw [if_neg h2]; exact ⟨fun h => absurd h (by decide), fun h => absurd h h2⟩
theorem lN_z {b : Nat} (h : b < 2 ^ 31) : lN b = 0 ↔ b = 0 := lN_eq (b := 0) h (by decide)
theorem nzl_ok {b : Nat} (h0 : 0 < b) (h : b < 2 ^ 31) : mj_nzl (lN b) = true := by
  unfold mj_nzl
  have : ¬ lN b = 0 := fun q => by have := (lN_z h).mp q; omega
  simp [this]
theorem nz_ok {b : Nat} (h0 : 0 < b) (h : b < 2 ^ 31) : mj_nz (nI b) = true := by
  unfold mj_nz
  have : ¬ nI b = 0 := nI_ne0 h0 h
  simp [this]
theorem eu_stopX {y0 y2 : Int64} {x4 : Int32} {a i n : Nat} (hi : i < 100) : g_X6_lowest_9 (n + 1) y0 y2 x4 (lN a) (lN 0) (nI i) = some (lN a) := by
  rw [g_X6_lowest_9, if_pos (show nI i < (100 : Int32) from nI_lt (b := 100) hi (by decide)), if_pos ((cmp_eq (lN 0) 0).mpr rfl)]
theorem eu_stopM {a n : Nat} : g_X7_common_6 (n + 1) (lN a) (lN 0) = some (lN a) := by
  rw [g_X7_common_6, if_pos ((cmp_eq (lN 0) 0).mpr rfl)]
theorem eu_stepX {y0 y2 : Int64} {x4 : Int32} {a b i n : Nat} (hi : i < 100) (ha : a < 2 ^ 31) (h0 : 0 < b) (hb : b < 2 ^ 31) : g_X6_lowest_9 (n + 1) y0 y2 x4 (lN a) (lN b) (nI i) = g_X6_lowest_9 n y0 y2 x4 (lN b) (lN (a % b)) (nI (i + 1)) := by
  have hz : ¬ lg_cmp (lN b) 0 = 0 := fun q => by have := (lN_z hb).mp ((cmp_eq _ _).mp q); omega
  rw [g_X6_lowest_9, if_pos (show nI i < (100 : Int32) from nI_lt (b := 100) hi (by decide)), if_neg hz, if_pos (nzl_ok h0 hb), pk_lRem (by omega) h0 (by omega), nI_1]
  rfl
theorem eu_stepM {a b n : Nat} (ha : a < 2 ^ 31) (h0 : 0 < b) (hb : b < 2 ^ 31) : g_X7_common_6 (n + 1) (lN a) (lN b) = g_X7_common_6 n (lN b) (lN (a % b)) := by
  have hz : ¬ lg_cmp (lN b) 0 = 0 := fun q => by have := (lN_z hb).mp ((cmp_eq _ _).mp q); omega
  rw [g_X7_common_6, if_neg hz, if_pos (nzl_ok h0 hb), pk_lRem (by omega) h0 (by omega)]
  rfl
theorem eu_gcd (a b : Nat) : Nat.gcd a b = Nat.gcd b (a % b) := by
  rw [Nat.gcd_comm a b, Nat.gcd_rec b a, Nat.gcd_comm]
theorem eu_half {a b m : Nat} (h : b < 2 ^ (m + 1)) (h0 : 0 < b) (hr : 0 < a % b) : b % (a % b) < 2 ^ m := by
  have h1 : a % b < b := Nat.mod_lt _ h0
  have h2 : b % (a % b) < a % b := Nat.mod_lt _ hr
  have h3 := Nat.mod_add_div b (a % b)
  have h4 : 1 ≤ b / (a % b) := Nat.div_pos (by omega) hr
  have h5 : a % b ≤ (a % b) * (b / (a % b)) := Nat.le_mul_of_pos_right _ h4
  have h6 : 2 ^ (m + 1) = 2 * 2 ^ m := by rw [Nat.pow_succ]; omega
  omega
theorem eu_both {y0 y2 : Int64} {x4 : Int32} : ∀ m n n' a b i, b < 2 ^ m → a < 2 ^ 31 → b < 2 ^ 31 → 2 * m + 2 ≤ n → 2 * m + 2 ≤ n' → i + 2 * m + 2 ≤ 100 → g_X6_lowest_9 n y0 y2 x4 (lN a) (lN b) (nI i) = some (lN (Nat.gcd a b)) ∧ g_X7_common_6 n' (lN a) (lN b) = some (lN (Nat.gcd a b)) := by
  intro m
  induction m with
  | zero =>
    intro n n' a b i h1 ha hb hn hn' hi
    have : b = 0 := by simpa using h1
    subst this
    obtain ⟨n, rfl⟩ : ∃ q, n = q + 1 := ⟨n - 1, by omega⟩
    obtain ⟨n', rfl⟩ : ∃ q, n' = q + 1 := ⟨n' - 1, by omega⟩
    rw [eu_stopX (by omega), eu_stopM, Nat.gcd_zero_right]
    exact ⟨rfl, rfl⟩
  | succ m ih =>
    intro n n' a b i h1 ha hb hn hn' hi
    obtain ⟨n, rfl⟩ : ∃ q, n = q + 1 + 1 := ⟨n - 2, by omega⟩
    obtain ⟨n', rfl⟩ : ∃ q, n' = q + 1 + 1 := ⟨n' - 2, by omega⟩
    by_cases b0 : b = 0
    · subst b0
      rw [eu_stopX (by omega), eu_stopM, Nat.gcd_zero_right]
      exact ⟨rfl, rfl⟩
    have h0 : 0 < b := by omega
    have hr : a % b < b := Nat.mod_lt _ h0
    rw [eu_stepX (by omega) ha h0 hb, eu_stepM ha h0 hb, eu_gcd a b]
    by_cases r0 : a % b = 0
    · rw [r0, eu_stopX (by omega), eu_stopM, Nat.gcd_zero_right]
      exact ⟨rfl, rfl⟩
    have hr0 : 0 < a % b := by omega
    rw [eu_stepX (by omega) hb hr0 (by omega), eu_stepM hb hr0 (by omega), eu_gcd b (a % b)]
    have h5 := eu_half h1 h0 hr0
    have h6 : b % (a % b) < a % b := Nat.mod_lt _ hr0
    exact ih n n' (a % b) (b % (a % b)) (i + 2) h5 (by omega) (by omega) (by omega) (by omega) (by omega)
theorem lowest_ok {a b : Nat} (x4 : Int32) (ha : a < 2 ^ 31) (h0 : 0 < b) (hb : b < 2 ^ 31) : g_X6_lowest (lN a) (lN b) x4 = some (if x4 = 0 then lN (a / Nat.gcd a b) else lN (b / Nat.gcd a b)) ∧ g_X7_common (lN a) (lN b) = some (lN (Nat.gcd a b)) := by
  have hF : mj_fuel = 4000 := fuel_eq
  obtain ⟨e1, e2⟩ := eu_both (y0 := lN a) (y2 := lN b) (x4 := x4) 31 mj_fuel mj_fuel a b 0 hb ha hb (by rw [hF]; omega) (by rw [hF]; omega) (by omega)
  have g0 : 0 < Nat.gcd a b := Nat.gcd_pos_of_pos_right _ h0
  have g1 : Nat.gcd a b ≤ b := Nat.gcd_le_right _ h0
  have g2 : Nat.gcd a b < 2 ^ 31 := Nat.lt_of_le_of_lt g1 hb
  have hz : ¬ lg_cmp (lN (Nat.gcd a b)) 0 = 0 := fun q => by have := (lN_z g2).mp ((cmp_eq _ _).mp q); omega
  rw [show nI 0 = (0 : Int32) from rfl] at e1
  unfold g_X6_lowest g_X7_common g_X6_lowest_54
  rw [e1, e2, Option.bind_some, Option.bind_some, if_neg hz, if_neg hz, if_pos (nzl_ok g0 g2), if_pos (nzl_ok g0 g2), pk_lDiv (by omega) g0 (by omega), pk_lDiv (by omega) g0 (by omega)]
  refine ⟨?_, rfl⟩
  by_cases c : x4 = 0
  · rw [if_pos c, if_pos c]
  · rw [if_neg c, if_neg c]
theorem tu_in {f h : mj_I} {k t ht i x : Nat} {x3 x4 x5 : Int32} (H : hs 4 f h) (hk : k < 5) (hm : nI k < h 4 50) (hht : ht < 2) (eht : h 4 (61 + k) = nI ht) (et : h 4 46 = nI t) (hb : t + i + x < 1100) :
    ∀ n j c, j ≤ x → x < j + n → ∃ v, g_X6_cellBehind_9 n (4 + 4 + k) (nI i) (nI x) c (nI j) f = some v ∧ g_X7_tuesday_79 n (nI k) (nI x) x3 x4 x5 (nI i) c (nI j) h = some v := by
  intro n
  induction n with
  | zero => intro j c h1 h2; omega
  | succ n ih =>
    intro j c h1 h2
    unfold g_X6_cellBehind_9 g_X7_tuesday_79
    by_cases hi : j = x
    · have : ¬ nI j < nI x := nI_nlt (by omega) (by omega)
      rw [if_neg this, if_neg this]
      exact ⟨_, rfl, rfl⟩
    have hlt : nI j < nI x := nI_lt (by omega) (by omega)
    have e5 : f 4 5 = nI t := by rw [H.1.1.2.2.2.2.1]; exact et
    have c2 := (H.1.2.2.2 k hm hk).2.2.1
    rw [if_pos hlt, if_pos hlt, c2, e5, et, eht, nI_add, nI_add]
    obtain ⟨o, v, w1, w2, w3⟩ := way_eq (c := c) H hk hm hht (show t + i + j < 1100 by omega)
    rw [w1, Option.bind_some, (ix51 hk).2, if_pos (ix51 hk).1, if_pos (ix61 hk).1, (ix61 hk).2, eht, w3, Option.bind_some, nI_1]
    dsimp only [mj_lt]
    rw [w2]
    exact ih (j + 1) v (by omega) (by omega)
theorem tu_out {f h : mj_I} {k t ht x : Nat} {x3 x4 : Int32} (H : hs 4 f h) (hk : k < 5) (hm : nI k < h 4 50) (hht : ht < 2) (eht : h 4 (61 + k) = nI ht) (et : h 4 46 = nI t) (hx : x ≤ 60) (htb : t < 1000) :
    ∀ n i s, s ≤ i → i ≤ 6 → 6 < i + n → ∃ v, v ≤ 6 ∧ g_X6_tuesday_62 n (nI k) (nI x) x3 x4 (nI s) (nI i) f = some (nI v) ∧ g_X7_tuesday_58 n (nI k) (nI x) x3 x4 (nI s) (nI i) h = some (nI v) := by
  intro n
  induction n with
  | zero => intro i s h0 h1 h2; omega
  | succ n ih =>
    intro i s h0 h1 h2
    unfold g_X6_tuesday_62 g_X7_tuesday_58
    by_cases hi : i = 6
    · subst hi
      rw [if_neg (by decide), if_neg (by decide)]
      exact ⟨s, h0, rfl, rfl⟩
    have hlt : nI i < (6 : Int32) := nI_lt (b := 6) (by omega) (by decide)
    obtain ⟨v, q1, q2⟩ := tu_in (x3 := x3) (x4 := x4) (x5 := nI s) (i := i) (x := x) H hk hm hht eht et (by omega) mj_fuel 0 (h 4 (56 + k)) (by omega) (by rw [fuel_eq]; omega)
    rw [show nI 0 = (0 : Int32) from rfl] at q1 q2
    have c1 := (H.1.2.2.2 k hm hk).2.1
    rw [if_pos hlt, if_pos hlt, if_pos (in5 hk).1, if_pos (ix56 hk).1, (in5 hk).2, (ix56 hk).2]
    unfold g_X6_cellBehind
    dsimp only [mj_lt]
    rw [c1, q1, q2, Option.bind_some, Option.bind_some, Option.bind_some, Int32.add_zero, nI_1, nI_1]
    by_cases c : v = x3
    · rw [if_pos c, if_pos c]
      exact ih (i + 1) (s + 1) (by omega) (by omega) (by omega)
    · rw [if_neg c, if_neg c]
      exact ih (i + 1) s (by omega) (by omega) (by omega)
theorem sim_tuesday : ls_tuesday rel := by
  intro fX fM gM hR x1 x2 x3 x4
  unfold g_X6_tuesday g_X7_tuesday g_X6_isCell g_X7_isCell
  rw [iscl_eq hR, in_0_60, in_0_31, in_0_1]
  by_cases c1 : g_X6_isCloud x1 fX = 0
  · rw [if_pos c1, if_pos c1]
    exact ⟨_, _, rfl, rfl, rfl, hR⟩
  rw [if_neg c1, if_neg c1]
  by_cases c2 : g_X6_within x2 0 60 = 0
  · rw [if_pos c2, if_pos c2]
    exact ⟨_, _, rfl, rfl, rfl, hR⟩
  rw [if_neg c2, if_neg c2]
  by_cases c3 : g_X6_within x3 0 31 = 0
  · rw [if_pos c3, if_pos c3]
    exact ⟨_, _, rfl, rfl, rfl, hR⟩
  rw [if_neg c3, if_neg c3]
  by_cases c4 : g_X6_within x4 0 1 = 0
  · rw [if_pos c4, if_pos c4]
    exact ⟨_, _, rfl, rfl, rfl, hR⟩
  rw [if_neg c4, if_neg c4]
  obtain ⟨k, hk, rfl, hm⟩ := iscl_ex hR c1
  obtain ⟨x, _, hx, rfl⟩ := wi_ex (a := 0) (b := 60) rfl rfl (by decide) c2
  have H := now_hs hR
  have c4' := (H.1.2.2.2 k hm hk).2.2.2.2.1
  obtain ⟨ht, hht, eht⟩ := mj_in_ex (H.2.1.2.2.2.2 k hm hk).2.2.1 (by decide)
  obtain ⟨t, htb, et⟩ := mj_in_ex hR.2.2.2.1.2.2.2.1 (by decide)
  rw [if_pos (in5 hk).1, (in5 hk).2, there_step hk, c4', Option.bind_some]
  by_cases g0 : fM 4 (71 + k) = 0
  · rw [if_pos g0, if_pos g0, if_neg (show ¬ (1 : Int32) = 0 by decide)]
    obtain ⟨v, hv, q1, q2⟩ := tu_out (x3 := x3) (x4 := x4) H hk hm hht eht et hx htb mj_fuel 0 0 (by omega) (by omega) (by rw [fuel_eq]; omega)
    rw [show nI 0 = (0 : Int32) from rfl] at q1 q2
    obtain ⟨l1, l2⟩ := lowest_ok (a := v) (b := 6) x4 (by omega) (by omega) (by omega)
    have gg0 : 0 < Nat.gcd v 6 := Nat.gcd_pos_of_pos_right _ (by omega)
    have gg1 : Nat.gcd v 6 ≤ 6 := Nat.gcd_le_right _ (by omega)
    have e6 : (6 : Int64) = lN 6 := rfl
    rw [q1, q2, Option.bind_some, Option.bind_some, nI_l (by omega), e6, l1, l2, Option.bind_some, Option.bind_some]
    dsimp only [mj_lt]
    rw [lN_i, if_pos (nz_ok gg0 (by omega)), if_pos (nz_ok gg0 (by omega)), pk_div (by omega) gg0 (by omega), show (6 : Int32) = nI 6 from rfl, pk_div (by omega) gg0 (by omega)]
    by_cases c : x4 = 0
    · rw [if_pos c, if_pos c, lN_i]
      exact ⟨_, _, rfl, rfl, rfl, hR⟩
    · rw [if_neg c, if_neg c, lN_i]
      exact ⟨_, _, rfl, rfl, rfl, hR⟩
  · rw [if_neg g0, if_neg g0, if_pos rfl]
    exact ⟨_, _, rfl, rfl, rfl, hR⟩
