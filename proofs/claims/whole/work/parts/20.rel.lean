/-! THE TWO MEMORIES SIDE BY SIDE: pure rows; no machine from here on. -/
theorem fa_lit0 (n : Nat) : (OfNat.ofNat n : Int32) = nI n := rfl
theorem ix_nI {k : Nat} (h : k < 2 ^ 31) : ix (nI k) = k := nI_clamp h
theorem mj_in_nI {k n : Nat} (h : k < n) (hn : n ≤ 2 ^ 31) : mj_in (nI k) n = true := by
  unfold mj_in
  rw [nI_clamp (by omega)]
  have := nI_pos (n := k) (by omega)
  simp [this, h]
theorem mj_in_iff {x : Int32} {n : Nat} : mj_in x n = true ↔ 0 ≤ x.toInt ∧ x.toInt < n := by
  constructor
  · intro h
    exact vp_in_iff.mp (mj_in_vp h)
  · intro h
    unfold mj_in
    have h1 := vp_in_iff.mpr h
    unfold vp_in at h1
    simp only [not_or, Nat.not_le] at h1
    simp [h1.1, h1.2]
theorem mj_in_ex {x : Int32} {n : Nat} (h : mj_in x n = true) (hn : n ≤ 2 ^ 31) : ∃ k, k < n ∧ x = nI k := by
  obtain ⟨h1, h2⟩ := mj_in_iff.mp h
  refine ⟨x.toInt.toNat, by omega, ?_⟩
  apply Int32.toInt_inj.mp
  rw [nI_toInt (by omega)]
  omega
theorem mj_in_of {x : Int32} {n k : Nat} (h : k < n) (hn : n ≤ 2 ^ 31) (e : x = nI k) : mj_in x n = true := by
  rw [e]; exact mj_in_nI h hn
theorem mj_in_mono {x : Int32} {n m : Nat} (h : mj_in x n = true) (hm : n ≤ m) : mj_in x m = true := by
  rw [mj_in_iff] at h ⊢
  omega
theorem nI_ti {k : Nat} (h : k < 2 ^ 31) : (nI k).toInt = k := nI_toInt h
theorem nI_inj {a b : Nat} (ha : a < 2 ^ 31) (hb : b < 2 ^ 31) (h : nI a = nI b) : a = b := (nI_eq ha hb).mp h
theorem mj_b_in {x : Int32} : mj_b x = true ↔ mj_in x 2 = true := by
  constructor
  · intro h
    rcases mj_b_or h with rfl | rfl <;> decide
  · intro h
    obtain ⟨k, hk, rfl⟩ := mj_in_ex h (by decide)
    rcases (show k = 0 ∨ k = 1 by omega) with rfl | rfl <;> decide
/-- memory -/
theorem wr_eq (f : mj_I) (a k : Nat) (x : Int32) : mj_wr f a k x a k = x := by simp [mj_wr]
theorem wr_ne (f : mj_I) {a k b j : Nat} (x : Int32) (h : ¬ (b = a ∧ j = k)) : mj_wr f a k x b j = f b j := by
  unfold mj_wr
  rw [if_neg h]
theorem wr_ceq (f : mj_I) {a k b j : Nat} (x : Int32) (h1 : b = a) (h2 : j = k) : mj_wr f a k x b j = x := by
  subst h1; subst h2; exact wr_eq f b j x
theorem wr_ne1 (f : mj_I) {a k b : Nat} (x : Int32) (h : b ≠ a) : mj_wr f a k x b = f b := mj_wr_ne f k x h
/-- the bounds that both sides ask -/
theorem wi_iff (x l h : Int32) : g_X6_within x l h = 0 ↔ ¬ (l.toInt ≤ x.toInt ∧ x.toInt ≤ h.toInt) := by
  unfold g_X6_within
  simp only [Int32.lt_iff_toInt_lt]
  split
  · simp; omega
  · split
    · simp; omega
    · simp; omega
theorem wi_ne (x l h : Int32) : ¬ g_X6_within x l h = 0 ↔ (l.toInt ≤ x.toInt ∧ x.toInt ≤ h.toInt) := by
  rw [wi_iff]
  constructor
  · intro q; exact Classical.not_not.mp q
  · intro q r; exact r q
theorem wi_01 (x l h : Int32) : g_X6_within x l h = 0 ∨ g_X6_within x l h = 1 := by
  unfold g_X6_within
  split
  · exact Or.inl rfl
  · split
    · exact Or.inl rfl
    · exact Or.inr rfl
theorem cmp_lt (x y : Int64) : lg_cmp x y < 0 ↔ x.toInt < y.toInt := by
  unfold lg_cmp
  by_cases h1 : x > y
  · rw [if_pos h1]
    have : y.toInt < x.toInt := Int64.lt_iff_toInt_lt.mp h1
    constructor
    · intro h; exact absurd h (by decide)
    · intro h; omega
  · rw [if_neg h1]
    have h1' : ¬ y.toInt < x.toInt := fun q => h1 (Int64.lt_iff_toInt_lt.mpr q)
    by_cases h2 : x = y
    · subst h2
      rw [if_pos rfl]
      constructor
      · intro h; exact absurd h (by decide)
      · intro h; omega
    · rw [if_neg h2]
      have h3 : x.toInt ≠ y.toInt := fun q => h2 (Int64.toInt_inj.mp q)
      constructor
      · intro _; omega
      · intro _; decide
theorem cmp_gt (x y : Int64) : 0 < lg_cmp x y ↔ y.toInt < x.toInt := by
  unfold lg_cmp
  by_cases h1 : x > y
  · rw [if_pos h1]
    have : y.toInt < x.toInt := Int64.lt_iff_toInt_lt.mp h1
    constructor
    · intro _; exact this
    · intro _; decide
  · rw [if_neg h1]
    have h1' : ¬ y.toInt < x.toInt := fun q => h1 (Int64.lt_iff_toInt_lt.mpr q)
    by_cases h2 : x = y
    · rw [if_pos h2]
      constructor
      · intro h; exact absurd h (by decide)
      · intro h; omega
    · rw [if_neg h2]
      constructor
      · intro h; exact absurd h (by decide)
      · intro h; omega
theorem in_w (x l h : Int32) : g_X7_in x.toInt64 l.toInt64 h.toInt64 = g_X6_within x l h := by
  unfold g_X7_in g_X6_within
  simp only [cmp_lt, cmp_gt, Int32.toInt_toInt64]
  simp only [Int32.lt_iff_toInt_lt]
theorem in_0_7 (x : Int32) : g_X7_in x.toInt64 0 7 = g_X6_within x 0 7 := in_w x 0 7
theorem in_0_2 (x : Int32) : g_X7_in x.toInt64 0 2 = g_X6_within x 0 2 := in_w x 0 2
theorem in_0_255 (x : Int32) : g_X7_in x.toInt64 0 255 = g_X6_within x 0 255 := in_w x 0 255
theorem in_0_31 (x : Int32) : g_X7_in x.toInt64 0 31 = g_X6_within x 0 31 := in_w x 0 31
theorem in_0_1 (x : Int32) : g_X7_in x.toInt64 0 1 = g_X6_within x 0 1 := in_w x 0 1
theorem in_0_3 (x : Int32) : g_X7_in x.toInt64 0 3 = g_X6_within x 0 3 := in_w x 0 3
theorem in_0_4 (x : Int32) : g_X7_in x.toInt64 0 4 = g_X6_within x 0 4 := in_w x 0 4
theorem in_0_5 (x : Int32) : g_X7_in x.toInt64 0 5 = g_X6_within x 0 5 := in_w x 0 5
theorem in_0_60 (x : Int32) : g_X7_in x.toInt64 0 60 = g_X6_within x 0 60 := in_w x 0 60
theorem in_1_60 (x : Int32) : g_X7_in x.toInt64 1 60 = g_X6_within x 1 60 := in_w x 1 60
theorem in_1_24 (x : Int32) : g_X7_in x.toInt64 1 24 = g_X6_within x 1 24 := in_w x 1 24
theorem in_1_8 (x : Int32) : g_X7_in x.toInt64 1 8 = g_X6_within x 1 8 := in_w x 1 8
theorem in_1_12 (x : Int32) : g_X7_in x.toInt64 1 12 = g_X6_within x 1 12 := in_w x 1 12
theorem in_1_20 (x : Int32) : g_X7_in x.toInt64 1 20 = g_X6_within x 1 20 := in_w x 1 20
theorem in_48_57 (x : Int32) : g_X7_in x.toInt64 48 57 = g_X6_within x 48 57 := in_w x 48 57
theorem in_97_122 (x : Int32) : g_X7_in x.toInt64 97 122 = g_X6_within x 97 122 := in_w x 97 122
theorem in_0x (x y : Int32) : g_X7_in x.toInt64 0 y.toInt64 = g_X6_within x 0 y := in_w x 0 y
/-- what has been asked: within 0 .. n - 1 -/
theorem wi_in {x h : Int32} {n : Nat} (hh : h.toInt + 1 = n) : ¬ g_X6_within x 0 h = 0 ↔ mj_in x n = true := by
  rw [wi_ne, mj_in_iff]
  have : (0 : Int32).toInt = 0 := rfl
  omega
theorem wi_ex {x l h : Int32} {a b : Nat} (hl : l.toInt = a) (hh : h.toInt = b) (hb : b < 2 ^ 31) (hw : ¬ g_X6_within x l h = 0) : ∃ k, a ≤ k ∧ k ≤ b ∧ x = nI k := by
  rw [wi_ne] at hw
  refine ⟨x.toInt.toNat, by omega, by omega, ?_⟩
  apply Int32.toInt_inj.mp
  rw [nI_toInt (by omega)]
  omega
/-! ===== the relation ===== -/
/-- a HERD at cell a of the first memory, and a row of 82 numbers -/
def rl_hr (f : mj_I) (a : Nat) (s : Nat → Int32) : Prop :=
  (f a 1 = s 44 ∧ f a 2 = s 45 ∧ f a 3 = s 49 ∧ f a 4 = s 50 ∧ f a 5 = s 46 ∧ f a 6 = s 47 ∧ f a 7 = s 48) ∧
  (∀ j, j < 12 → f (a + 1) j = s j) ∧ (∀ j, j < 32 → f (a + 2) j = s (12 + j)) ∧
  ∀ k, nI k < s 50 → k < 5 → f (a + 4 + k) 0 = s (51 + k) ∧ f (a + 4 + k) 1 = s (56 + k) ∧ f (a + 4 + k) 2 = s (61 + k) ∧ f (a + 4 + k) 3 = s (66 + k) ∧ f (a + 4 + k) 4 = s (71 + k) ∧ f (a + 4 + k) 5 = s (76 + k)
/-- the bounds of such a row -/
def rl_hv (N : Nat) (s : Nat → Int32) : Prop :=
  mj_in (s 50) 6 = true ∧ mj_in (s 46) N = true ∧ (∀ j, j < 12 → mj_in (s j) 5 = true) ∧ (∀ j, j < 32 → mj_in (s (12 + j)) 4 = true) ∧
  ∀ k, nI k < s 50 → k < 5 → (mj_in (s (51 + k)) 6 = true ∧ s (51 + k) ≠ 0) ∧ mj_in (s (56 + k)) 32 = true ∧ mj_in (s (61 + k)) 2 = true ∧ mj_in (s (66 + k)) 41 = true ∧ mj_in (s (71 + k)) 2 = true ∧ mj_in (s (76 + k)) 2 = true ∧ (s (71 + k) ≠ 0 → s (66 + k) = 0)
def rl_rows (f h : mj_I) : Prop := ∀ r, r < 8 → (f (28 + 2 * r) 0 = 0 ∧ h 2 r = -1) ∨ (f (28 + 2 * r) 0 = 1 ∧ ∃ n, n ≤ 40 ∧ h 2 r = nI n ∧ f (28 + 2 * r) 2 = nI n ∧ f (28 + 2 * r) 1 = h 1 r ∧ ∀ i, i < n → f (28 + 2 * r + 1) i = h 3 (40 * r + i))
def rl_tape (f h : mj_I) : Prop := ∃ n, n ≤ 120 ∧ f 2 1 = nI n ∧ h 0 8 = nI n ∧ ∀ i, i < n → f 3 i = h 6 i
def rl_now (f h : mj_I) : Prop := f 4 0 = h 0 4 ∧ rl_hr f 4 (h 4) ∧ rl_hv 1000 (h 4)
def rl_pk (s : Nat → Int32) (k : Nat) : Int32 := s (56 + k) ||| (s (61 + k) <<< ((5 : Int32) &&& 31)) ||| (s (71 + k) <<< ((6 : Int32) &&& 31)) ||| (s (76 + k) <<< ((7 : Int32) &&& 31)) ||| (s (66 + k) <<< ((8 : Int32) &&& 31))
def rl_acts (f h : mj_I) : Prop := ∃ n p, n ≤ 24 ∧ p < 24 ∧ f 24 2 = nI n ∧ h 0 18 = nI n ∧ f 24 1 = nI p ∧ ∀ i, i < n →
  rl_hv 1000 (fun j => h 8 (82 * i + j)) ∧ (∀ j, j < 46 ∨ (49 ≤ j ∧ j < 56) → h 8 (82 * i + j) = h 4 j) ∧
  f 25 (8 * ((p + 24 - n + i) % 24)) = h 8 (82 * i + 46) ∧ f 25 (8 * ((p + 24 - n + i) % 24) + 1) = h 8 (82 * i + 47) ∧ f 25 (8 * ((p + 24 - n + i) % 24) + 2) = h 8 (82 * i + 48) ∧
  ∀ k, nI k < h 4 50 → k < 5 → f 25 (8 * ((p + 24 - n + i) % 24) + 3 + k) = rl_pk (fun j => h 8 (82 * i + j)) k
def rl_imgs (f h : mj_I) : Prop := ∀ k, k < 2 → f (44 + 9 * k) 0 = h 12 k ∧ (h 12 k ≠ 0 → h 0 4 = 1 ∧ rl_hr f (44 + 9 * k) (fun j => h 13 (82 * k + j)) ∧ rl_hv 1000 (fun j => h 13 (82 * k + j)))
def rl_trace (f h : mj_I) : Prop := ∃ n, n ≤ 16 ∧ f 26 1 = nI n ∧ h 0 28 = nI n ∧ ∀ i, i < n → f 27 i = h 14 i
def rl_bool (f : mj_I) : Prop := ∀ a, mx_isH a → mj_b (f a 0) = true ∧ ∀ k, k < 5 → mj_b (f (a + 4 + k) 4) = true ∧ mj_b (f (a + 4 + k) 5) = true
def rel (f h : mj_I) (_ : mj_L) : Prop := rl_rows f h ∧ (f 0 8 = h 0 3 ∧ f 0 9 = h 0 9) ∧ rl_tape f h ∧ rl_now f h ∧ rl_acts f h ∧ rl_imgs f h ∧ rl_trace f h ∧ rl_bool f
