/-! guards, guardsValue -/
def gd_bt (m i : Nat) : Bool := decide ((nI m >>> (nI i &&& 31)) &&& 1 = 1)
def gd_c (m : Nat) : Nat → Nat
  | 0 => 0
  | i + 1 => if gd_bt m i = true then gd_c m i + 1 else gd_c m i
def gd_p (v : Nat → Nat) (m : Nat) : Nat → Nat
  | 0 => 1
  | i + 1 => if gd_bt m i = true then gd_p v m i * v i else gd_p v m i
def gd_s (v : Nat → Nat) (m : Nat) : Nat → Nat
  | 0 => 0
  | i + 1 => if gd_bt m i = true then gd_s v m i * v i + gd_p v m i else gd_s v m i
def gd_A (v : Nat → Nat) (m : Nat) : Nat := (gd_c m 5 - 1) * gd_p v m 5
theorem gd_bit : ∀ m, m < 32 → ∀ i, i < 5 → ((mj_ushr (nI m) (nI i)) &&& 1 = 0 ↔ ¬ gd_bt m i = true) := by decide +kernel
theorem gd_count : ∀ m, m < 32 → 1 ≤ m → g_J6_bitCount_0f7a4 (nI m) - 1 = nI (gd_c m 5 - 1) ∧ nI (gd_c m 5) - 1 = nI (gd_c m 5 - 1) ∧ 1 ≤ gd_c m 5 ∧ gd_c m 5 ≤ 5 := by decide +kernel
theorem gd_c1 {m i : Nat} (hb : gd_bt m i = true) : gd_c m (i + 1) = gd_c m i + 1 := if_pos hb
theorem gd_c0 {m i : Nat} (hb : ¬ gd_bt m i = true) : gd_c m (i + 1) = gd_c m i := if_neg hb
theorem gd_p1 {v : Nat → Nat} {m i : Nat} (hb : gd_bt m i = true) : gd_p v m (i + 1) = gd_p v m i * v i := if_pos hb
theorem gd_p0 {v : Nat → Nat} {m i : Nat} (hb : ¬ gd_bt m i = true) : gd_p v m (i + 1) = gd_p v m i := if_neg hb
theorem gd_s1 {v : Nat → Nat} {m i : Nat} (hb : gd_bt m i = true) : gd_s v m (i + 1) = gd_s v m i * v i + gd_p v m i := if_pos hb
theorem gd_s0 {v : Nat → Nat} {m i : Nat} (hb : ¬ gd_bt m i = true) : gd_s v m (i + 1) = gd_s v m i := if_neg hb
theorem gd_bd {v : Nat → Nat} {m : Nat} (hv : ∀ j, j < 5 → 1 ≤ v j ∧ v j ≤ 20) : ∀ i, i ≤ 5 → 1 ≤ gd_p v m i ∧ gd_p v m i ≤ 20 ^ i ∧ gd_s v m i ≤ i * 20 ^ i ∧ (1 ≤ gd_c m i → 1 ≤ gd_s v m i) := by
  intro i
  induction i with
  | zero => intro _; exact ⟨Nat.le_refl 1, Nat.le_refl 1, Nat.zero_le _, fun h => absurd h (by simp [gd_c])⟩
  | succ i ih =>
    intro hi
    obtain ⟨h1, h2, h3, h4⟩ := ih (by omega)
    obtain ⟨v1, v2⟩ := hv i (by omega)
    have e20 : 20 ^ (i + 1) = 20 ^ i * 20 := Nat.pow_succ ..
    have e21 : (i + 1) * (20 ^ i * 20) = i * 20 ^ i * 20 + 20 ^ i * 20 := by rw [Nat.add_mul, Nat.one_mul, Nat.mul_assoc]
    by_cases hb : gd_bt m i = true
    · rw [gd_p1 hb, gd_s1 hb, gd_c1 hb, e20, e21]
      have k1 : gd_p v m i * v i ≤ 20 ^ i * 20 := Nat.mul_le_mul h2 v2
      have k2 : gd_s v m i * v i ≤ i * 20 ^ i * 20 := Nat.mul_le_mul h3 v2
      have k3 : 1 * 1 ≤ gd_p v m i * v i := Nat.mul_le_mul h1 v1
      exact ⟨by omega, k1, by omega, fun _ => by omega⟩
    · rw [gd_p0 hb, gd_s0 hb, gd_c0 hb, e20, e21]
      generalize i * 20 ^ i = w at *
      exact ⟨h1, by omega, by omega, h4⟩
theorem gd_bds {v : Nat → Nat} {m : Nat} (hv : ∀ j, j < 5 → 1 ≤ v j ∧ v j ≤ 20) (hm : m < 32) (h1 : 1 ≤ m) : gd_A v m < 2 ^ 31 ∧ 0 < gd_s v m 5 ∧ gd_s v m 5 < 2 ^ 31 := by
  obtain ⟨b1, b2, b3, b4⟩ := gd_bd (m := m) hv 5 (by omega)
  obtain ⟨_, _, c1, c2⟩ := gd_count m hm h1
  have k : gd_A v m ≤ 4 * 20 ^ 5 := Nat.mul_le_mul (by omega) b2
  refine ⟨by omega, by have := b4 c1; omega, by omega⟩
theorem gd_100 {x4 m : Nat} {v : Nat → Nat} {h : mj_I} {g : mj_L} (hx : x4 + 5 ≤ 320) (hv : ∀ j, j < 5 → v j ≤ 20 ∧ h 3 (x4 + j) = nI (v j)) : ∀ n i, i ≤ 5 → 5 < i + n → g_X7_findGuards_100 n (nI x4) (nI m) (lN (gd_p v m i)) (lN (gd_s v m i)) (nI (gd_c m i)) (nI i) h g = some (lN (gd_p v m 5), lN (gd_s v m 5), nI (gd_c m 5), h, g) := by
  intro n
  induction n with
  | zero => intro i h1 h2; omega
  | succ n ih =>
    intro i h1 h2
    rw [g_X7_findGuards_100]
    by_cases hi : i = 5
    · subst hi
      rw [if_neg (by decide)]
    have k1 : mj_in (nI (x4 + i)) 320 = true := mj_in_nI (by omega) (by decide)
    obtain ⟨v1, v2⟩ := hv i (by omega)
    have ih' := ih (i + 1) (by omega) (by omega)
    rw [if_pos (show nI i < (5 : Int32) from nI_lt (b := 5) (by omega) (by decide)), nI_add, if_pos k1]
    dsimp only [mj_lt]
    rw [if_pos k1, ix_nI (show x4 + i < 2 ^ 31 by omega), v2, nI_l (show v i < 2 ^ 31 by omega), lN_mul, lN_mul, lN_add, nI_1, nI_1]
    by_cases hb : gd_bt m i = true
    · rw [gd_p1 hb, gd_s1 hb, gd_c1 hb] at ih'
      rw [if_pos (of_decide_eq_true hb)]
      exact ih'
    · rw [gd_p0 hb, gd_s0 hb, gd_c0 hb] at ih'
      rw [if_neg (fun q => hb (decide_eq_true q))]
      exact ih'
theorem gd_below {a s m : Nat} {v : Nat → Nat} {f : mj_I} (hm : m < 32) (hs : s + 5 ≤ 40) (hv : ∀ j, j < 5 → v j ≤ 20 ∧ f (a + 1) (s + j) = nI (v j)) : ∀ n i, i ≤ 5 → 5 < i + n → g_X6_valueBelow_8 n a (nI s) (nI m) (lN (gd_p v m i)) (lN (gd_s v m i)) (nI i) f = some (lN (gd_s v m 5)) := by
  intro n
  induction n with
  | zero => intro i h1 h2; omega
  | succ n ih =>
    intro i h1 h2
    rw [g_X6_valueBelow_8]
    by_cases hi : i = 5
    · subst hi
      rw [if_neg (by decide)]
    have k1 : mj_in (nI (s + i)) 40 = true := mj_in_nI (by omega) (by decide)
    obtain ⟨v1, v2⟩ := hv i (by omega)
    have gb := gd_bit m hm i (by omega)
    have ih' := ih (i + 1) (by omega) (by omega)
    rw [if_pos (show nI i < (5 : Int32) from nI_lt (b := 5) (by omega) (by decide)), nI_add, if_pos k1]
    dsimp only [mj_lt]
    rw [if_pos k1, ix_nI (show s + i < 2 ^ 31 by omega), v2, nI_l (show v i < 2 ^ 31 by omega), lN_mul, lN_mul, lN_add, nI_1]
    by_cases hb : gd_bt m i = true
    · rw [gd_p1 hb, gd_s1 hb] at ih'
      rw [if_neg (fun q => gb.mp q hb)]
      exact ih'
    · rw [gd_p0 hb, gd_s0 hb] at ih'
      rw [if_pos (gb.mpr hb)]
      exact ih'
theorem gd_above {a s m c : Nat} {v : Nat → Nat} {f : mj_I} (hm : m < 32) (hs : s + 5 ≤ 40) (hv : ∀ j, j < 5 → v j ≤ 20 ∧ f (a + 1) (s + j) = nI (v j)) : ∀ n i, i ≤ 5 → 5 < i + n → g_X6_valueAbove_11 n a (nI s) (nI m) (lN (c * gd_p v m i)) (nI i) f = some (lN (c * gd_p v m 5)) := by
  intro n
  induction n with
  | zero => intro i h1 h2; omega
  | succ n ih =>
    intro i h1 h2
    rw [g_X6_valueAbove_11]
    by_cases hi : i = 5
    · subst hi
      rw [if_neg (by decide)]
    have k1 : mj_in (nI (s + i)) 40 = true := mj_in_nI (by omega) (by decide)
    obtain ⟨v1, v2⟩ := hv i (by omega)
    have gb := gd_bit m hm i (by omega)
    have ih' := ih (i + 1) (by omega) (by omega)
    rw [if_pos (show nI i < (5 : Int32) from nI_lt (b := 5) (by omega) (by decide)), nI_add, if_pos k1, ix_nI (show s + i < 2 ^ 31 by omega), v2, nI_l (show v i < 2 ^ 31 by omega), lN_mul, nI_1, Nat.mul_assoc]
    by_cases hb : gd_bt m i = true
    · rw [gd_p1 hb] at ih'
      rw [if_neg (fun q => gb.mp q hb)]
      exact ih'
    · rw [gd_p0 hb] at ih'
      rw [if_pos (gb.mpr hb)]
      exact ih'
theorem gd_val {a s m : Nat} {v : Nat → Nat} {f : mj_I} (hm : m < 32) (h1 : 1 ≤ m) (hs : s + 5 ≤ 40) (hv : ∀ j, j < 5 → v j ≤ 20 ∧ f (a + 1) (s + j) = nI (v j)) : g_X6_valueAbove a (nI s) (nI m) f = some (lN (gd_A v m)) ∧ g_X6_valueBelow a (nI s) (nI m) f = some (lN (gd_s v m 5)) := by
  obtain ⟨c1, c2, c3, c4⟩ := gd_count m hm h1
  have q1 := gd_above (c := gd_c m 5 - 1) hm hs hv mj_fuel 0 (by omega) (by rw [fuel_eq]; omega)
  have q2 := gd_below hm hs hv mj_fuel 0 (by omega) (by rw [fuel_eq]; omega)
  rw [show gd_p v m 0 = 1 from rfl, Nat.mul_one, show nI 0 = (0 : Int32) from rfl] at q1
  rw [show gd_p v m 0 = 1 from rfl, show gd_s v m 0 = 0 from rfl, show nI 0 = (0 : Int32) from rfl, show lN 1 = (1 : Int64) from rfl, show lN 0 = (0 : Int64) from rfl] at q2
  unfold g_X6_valueAbove g_X6_valueBelow
  dsimp only [mj_lt]
  rw [c1, nI_l (by omega), q1, q2, Option.bind_some, Option.bind_some]
  exact ⟨rfl, rfl⟩
theorem wl_eq (g : mj_L) (a k : Nat) (x : Int64) : mj_wl g a k x a k = x := by simp [mj_wl]
theorem wl_ne (g : mj_L) {a k b j : Nat} (x : Int64) (h : ¬ (b = a ∧ j = k)) : mj_wl g a k x b j = g b j := by
  unfold mj_wl
  rw [if_neg h]
theorem gd_x {a s b i : Nat} {v : Nat → Nat} {f : mj_I} (n : Nat) (hb : b < 32) (b1 : 1 ≤ b) (hi : i < 32) (i1 : 1 ≤ i) (hs : s + 5 ≤ 40) (hv : ∀ j, j < 5 → v j ≤ 20 ∧ f (a + 1) (s + j) = nI (v j)) :
    g_X6_bestPlaces_4 (n + 1) a (nI s) (nI b) (nI i) f = if 0 < lg_cmp (lN (gd_A v i) * lN (gd_s v b 5)) (lN (gd_A v b) * lN (gd_s v i 5)) then g_X6_bestPlaces_4 n a (nI s) (nI i) (nI (i + 1)) f else g_X6_bestPlaces_4 n a (nI s) (nI b) (nI (i + 1)) f := by
  obtain ⟨q1, q2⟩ := gd_val hb b1 hs hv
  obtain ⟨p1, p2⟩ := gd_val hi i1 hs hv
  rw [g_X6_bestPlaces_4, if_pos (show nI i < (32 : Int32) from nI_lt (b := 32) hi (by decide)), p1, q2, q1, p2, nI_1]
  rfl
theorem gd_m {x4 i : Nat} {v : Nat → Nat} {h : mj_I} {g : mj_L} (n : Nat) (hi : i < 32) (i1 : 1 ≤ i) (hx : x4 + 5 ≤ 320) (hv : ∀ j, j < 5 → v j ≤ 20 ∧ h 3 (x4 + j) = nI (v j)) :
    g_X7_findGuards_81 (n + 1) (nI x4) (nI i) h g = if 0 < lg_cmp (lN (gd_A v i) * g 0 24) (g 0 23 * lN (gd_s v i 5)) then g_X7_findGuards_81 n (nI x4) (nI (i + 1)) (mj_wr h 0 22 (nI i)) (mj_wl (mj_wl g 0 23 (lN (gd_A v i))) 0 24 (lN (gd_s v i 5))) else g_X7_findGuards_81 n (nI x4) (nI (i + 1)) h g := by
  have q := gd_100 (m := i) (g := g) hx hv mj_fuel 0 (by omega) (by rw [fuel_eq]; omega)
  rw [show gd_p v i 0 = 1 from rfl, show gd_s v i 0 = 0 from rfl, show gd_c i 0 = 0 from rfl, show nI 0 = (0 : Int32) from rfl, show lN 1 = (1 : Int64) from rfl, show lN 0 = (0 : Int64) from rfl] at q
  obtain ⟨c1, c2, c3, c4⟩ := gd_count i hi i1
  rw [g_X7_findGuards_81, if_pos (show nI i < (32 : Int32) from nI_lt (b := 32) hi (by decide)), q, Option.bind_some]
  dsimp only [mj_lt]
  rw [c2, nI_l (by omega), lN_mul, show (gd_c i 5 - 1) * gd_p v i 5 = gd_A v i from rfl, nI_1]
theorem gd_loop {a s x4 : Nat} {v : Nat → Nat} {f : mj_I} (hs : s + 5 ≤ 40) (hx : x4 + 5 ≤ 320) (hv : ∀ j, j < 5 → v j ≤ 20 ∧ f (a + 1) (s + j) = nI (v j)) : ∀ n n' i b h g, 1 ≤ b → b < 32 → 1 ≤ i → i ≤ 32 → 32 < i + n → 32 < i + n' → (∀ j, j < 5 → v j ≤ 20 ∧ h 3 (x4 + j) = nI (v j)) → h 0 22 = nI b → g 0 23 = lN (gd_A v b) → g 0 24 = lN (gd_s v b 5) →
    ∃ b' h' g', 1 ≤ b' ∧ b' < 32 ∧ g_X6_bestPlaces_4 n a (nI s) (nI b) (nI i) f = some (nI b') ∧ g_X7_findGuards_81 n' (nI x4) (nI i) h g = some (h', g') ∧ h' 0 22 = nI b' ∧ g' 0 23 = lN (gd_A v b') ∧ g' 0 24 = lN (gd_s v b' 5) ∧ ∀ c j, ¬ (c = 0 ∧ j = 22) → h' c j = h c j := by
  intro n
  induction n with
  | zero => intro n' i b h g _ _ _ h1 h2; omega
  | succ n ih =>
    intro n' i b h g b1 b2 i1 i2 h1 h2 hh e22 e23 e24
    cases n' with
    | zero => omega
    | succ n' =>
      by_cases hi : i = 32
      · subst hi
        rw [g_X6_bestPlaces_4, g_X7_findGuards_81, if_neg (by decide), if_neg (by decide)]
        exact ⟨b, h, g, b1, b2, rfl, rfl, e22, e23, e24, fun _ _ _ => rfl⟩
      rw [gd_x n b2 b1 (by omega) i1 hs hv, gd_m n' (by omega) i1 hx hh, e23, e24]
      by_cases c : 0 < lg_cmp (lN (gd_A v i) * lN (gd_s v b 5)) (lN (gd_A v b) * lN (gd_s v i 5))
      · rw [if_pos c, if_pos c]
        obtain ⟨b', h', g', r1, r2, r3, r4, r5, r6, r7, r8⟩ := ih n' (i + 1) i (mj_wr h 0 22 (nI i)) (mj_wl (mj_wl g 0 23 (lN (gd_A v i))) 0 24 (lN (gd_s v i 5))) i1 (by omega) (by omega) (by omega) (by omega) (by omega) (fun j hj => by rw [wr_ne _ _ (by omega)]; exact hh j hj) (wr_eq _ _ _ _) (by rw [wl_ne _ _ (by omega), wl_eq]) (wl_eq _ _ _ _)
        exact ⟨b', h', g', r1, r2, r3, r4, r5, r6, r7, fun c j hc => by rw [r8 c j hc, wr_ne _ _ (by omega)]⟩
      · rw [if_neg c, if_neg c]
        exact ih n' (i + 1) b h g b1 b2 (by omega) (by omega) (by omega) (by omega) hh e22 e23 e24
def gd_tail (x4 : Int32) (f : mj_I) (g : mj_L) : Option (Int32 × mj_I × mj_L) :=
  (g_X7_findGuards_81 mj_fuel x4 1 (mj_wr f 0 22 0) (mj_wl (mj_wl g 0 23 (-1)) 0 24 1)).bind (fun q_8 =>
     (g_X7_common (q_8.2 0 23) (q_8.2 0 24)).bind (fun o_9 =>
     if mj_nzl o_9 = true then
     mj_lt (mj_wl q_8.2 0 23 ((q_8.2 0 23) / o_9)) (fun g_11 =>
      if mj_nzl o_9 = true then
      mj_lt (mj_wl g_11 0 24 ((g_11 0 24) / o_9)) (fun g_13 =>
       some (((0 : Int32), q_8.1, g_13)))
      else none)
     else none))
theorem gd_both {a s x4 : Nat} {v : Nat → Nat} {f h : mj_I} (g : mj_L) (hs : s + 5 ≤ 40) (hx : x4 + 5 ≤ 320) (h20 : ∀ j, j < 5 → 1 ≤ v j ∧ v j ≤ 20) (hf : ∀ j, j < 5 → f (a + 1) (s + j) = nI (v j)) (hh : ∀ j, j < 5 → h 3 (x4 + j) = nI (v j)) :
    ∃ b A B h' g', g_X6_bestPlaces a (nI s) f = some (nI b) ∧ g_X6_valueAbove a (nI s) (nI b) f = some (lN A) ∧ g_X6_valueBelow a (nI s) (nI b) f = some (lN B) ∧ A < 2 ^ 31 ∧ 0 < B ∧ B < 2 ^ 31 ∧ gd_tail (nI x4) h g = some (0, h', g') ∧ h' 0 22 = nI b ∧ g' 0 23 = lN (A / Nat.gcd A B) ∧ g' 0 24 = lN (B / Nat.gcd A B) ∧ ∀ c j, ¬ (c = 0 ∧ j = 22) → h' c j = h c j := by
  have hF : mj_fuel = 3999 + 1 := fuel_eq
  have hv : ∀ j, j < 5 → v j ≤ 20 ∧ f (a + 1) (s + j) = nI (v j) := fun j hj => ⟨(h20 j hj).2, hf j hj⟩
  have hv1 : ∀ j, j < 5 → v j ≤ 20 ∧ mj_wr h 0 22 0 3 (x4 + j) = nI (v j) := fun j hj => ⟨(h20 j hj).2, by rw [wr_ne _ _ (by omega)]; exact hh j hj⟩
  have hv2 : ∀ j, j < 5 → v j ≤ 20 ∧ mj_wr (mj_wr h 0 22 0) 0 22 (nI 1) 3 (x4 + j) = nI (v j) := fun j hj => ⟨(h20 j hj).2, by rw [wr_ne _ _ (by omega), wr_ne _ _ (by omega)]; exact hh j hj⟩
  have eA : gd_A v 1 = 0 := by
    unfold gd_A
    rw [show gd_c 1 5 - 1 = 0 by decide +kernel, Nat.zero_mul]
  have eB : gd_s v 1 5 = 1 := by
    rw [gd_s0 (show ¬ gd_bt 1 4 = true by decide +kernel), gd_s0 (show ¬ gd_bt 1 3 = true by decide +kernel), gd_s0 (show ¬ gd_bt 1 2 = true by decide +kernel), gd_s0 (show ¬ gd_bt 1 1 = true by decide +kernel), gd_s1 (show gd_bt 1 0 = true by decide +kernel)]
    show 0 * v 0 + 1 = 1
    rw [Nat.zero_mul]
  obtain ⟨b, h', g', r1, r2, r3, r4, r5, r6, r7, r8⟩ := gd_loop hs hx hv mj_fuel 3999 2 1 (mj_wr (mj_wr h 0 22 0) 0 22 (nI 1)) (mj_wl (mj_wl (mj_wl (mj_wl g 0 23 (-1)) 0 24 1) 0 23 (lN (gd_A v 1))) 0 24 (lN (gd_s v 1 5))) (by omega) (by omega) (by omega) (by omega) (by rw [hF]; omega) (by omega) hv2 (wr_eq _ _ _ _) (by rw [wl_ne _ _ (by omega), wl_eq]) (wl_eq _ _ _ _)
  have M : g_X7_findGuards_81 mj_fuel (nI x4) 1 (mj_wr h 0 22 0) (mj_wl (mj_wl g 0 23 (-1)) 0 24 1) = some (h', g') := by
    rw [hF, show (1 : Int32) = nI 1 from rfl, gd_m 3999 (by omega) (by omega) hx hv1, wl_eq, wl_ne _ _ (by omega), wl_eq, if_pos (by rw [eA, eB]; decide)]
    exact r4
  obtain ⟨q1, q2⟩ := gd_val r2 r1 hs hv
  obtain ⟨b1, b2, b3⟩ := gd_bds h20 r2 r1
  obtain ⟨l1, l2⟩ := lowest_ok 0 b1 b2 b3
  have g0 : 0 < Nat.gcd (gd_A v b) (gd_s v b 5) := Nat.gcd_pos_of_pos_right _ b2
  have g1 : Nat.gcd (gd_A v b) (gd_s v b 5) ≤ gd_s v b 5 := Nat.gcd_le_right _ b2
  have hz := nzl_ok g0 (show Nat.gcd (gd_A v b) (gd_s v b 5) < 2 ^ 31 by omega)
  refine ⟨b, gd_A v b, gd_s v b 5, h', mj_wl (mj_wl g' 0 23 (lN (gd_A v b / Nat.gcd (gd_A v b) (gd_s v b 5)))) 0 24 (lN (gd_s v b 5 / Nat.gcd (gd_A v b) (gd_s v b 5))), ?_, q1, q2, b1, b2, b3, ?_, r5, by rw [wl_ne _ _ (by omega), wl_eq], wl_eq _ _ _ _, fun c j hc => by rw [r8 c j hc, wr_ne _ _ hc, wr_ne _ _ hc]⟩
  · rw [show nI 1 = (1 : Int32) from rfl, show nI 2 = (2 : Int32) from rfl] at r3
    unfold g_X6_bestPlaces
    rw [r3, Option.bind_some]
  · unfold gd_tail
    rw [M, Option.bind_some]
    dsimp only [mj_lt]
    rw [r6, r7, l2, Option.bind_some]
    rw [if_pos hz, if_pos hz, wl_ne _ _ (by omega), r7, pk_lDiv (by omega) g0 (by omega), pk_lDiv (by omega) g0 (by omega)]
theorem gd_chk {f h : mj_I} (g : mj_L) {r s m : Nat} (hr : r < 8) (hs : s + 5 ≤ m) (hm40 : m ≤ 40) (hrow : ∀ i, i < m → f (28 + 2 * r + 1) i = h 3 (40 * r + i)) : ∀ n i, i ≤ 5 → 5 < i + n →
    (g_X6_lineRefusal_20 n (28 + 2 * r) (nI s) (nI i) f = some (-1000001, f) ∧ g_X7_findGuards_25 n (nI (40 * r + s)) (nI i) h g = some (-1000001, h, g)) ∨
    ((∀ j, i ≤ j → j < 5 → ∃ w, 1 ≤ w ∧ w ≤ 20 ∧ h 3 (40 * r + s + j) = nI w) ∧ g_X6_lineRefusal_20 n (28 + 2 * r) (nI s) (nI i) f = some (0, mj_wr f 0 8 0) ∧ g_X7_findGuards_25 n (nI (40 * r + s)) (nI i) h g = gd_tail (nI (40 * r + s)) h g) := by
  intro n
  induction n with
  | zero => intro i h1 h2; omega
  | succ n ih =>
    intro i h1 h2
    rw [g_X6_lineRefusal_20, g_X7_findGuards_25]
    by_cases hi : i = 5
    · subst hi
      rw [if_neg (by decide), if_neg (by decide)]
      exact Or.inr ⟨fun j _ _ => by omega, rfl, rfl⟩
    have hlt : nI i < (5 : Int32) := nI_lt (b := 5) (by omega) (by decide)
    have k1 : mj_in (nI (s + i)) 40 = true := mj_in_nI (by omega) (by decide)
    have k2 : mj_in (nI (40 * r + s + i)) 320 = true := mj_in_nI (by omega) (by decide)
    have hro : f (28 + 2 * r + 1) (s + i) = h 3 (40 * r + s + i) := by rw [hrow (s + i) (by omega), Nat.add_assoc]
    rw [if_pos hlt, if_pos hlt, nI_add, nI_add, if_pos k1, if_pos k2, ix_nI (show s + i < 2 ^ 31 by omega), ix_nI (show 40 * r + s + i < 2 ^ 31 by omega), hro, in_1_20, nI_1]
    by_cases c : g_X6_within (h 3 (40 * r + s + i)) 1 20 = 0
    · rw [if_pos c, if_pos c]
      exact Or.inl ⟨rfl, rfl⟩
    rw [if_neg c, if_neg c]
    rcases ih (i + 1) (by omega) (by omega) with q | ⟨q1, q2, q3⟩
    · exact Or.inl q
    · refine Or.inr ⟨fun j hj1 hj2 => ?_, q2, q3⟩
      by_cases e : j = i
      · subst e
        obtain ⟨w, w1, w2, w3⟩ := wi_ex (a := 1) (b := 20) rfl rfl (by decide) c
        exact ⟨w, w1, w2, w3⟩
      · exact q1 j (by omega) hj2
theorem gd_rel {f h h' : mj_I} {g g' : mj_L} (hR : rel f h g) (hc : ∀ c j, ¬ (c = 0 ∧ j = 22) → h' c j = h c j) : rel (mj_wr f 0 8 0) (mj_wr h' 0 3 0) g' := by
  refine rel_scr hR (fun b hb => wr_ne1 _ _ (by omega)) (fun j hj => wr_ne _ _ (by omega)) (bool_c hR.2.2.2.2.2.2.2 (fun b hb => wr_ne1 _ _ (by omega))) (fun b hb => ?_) (fun j hj => ?_) (by rw [wr_eq, wr_eq])
  · rw [wr_ne1 _ _ (by omega)]
    funext j
    exact hc b j (by omega)
  · rw [wr_ne _ _ (by omega)]
    exact hc 0 j (by omega)
/-- the line of five: refused alike, or looked through alike -/
theorem gd_line {f h : mj_I} {g : mj_L} {r : Nat} (x2 : Int32) (hR : rel f h g) (hr : r < 8) :
    (∃ v f' h' g', g_X6_lineRefusal (28 + 2 * r) x2 f = some (v, f') ∧ g_X7_findGuards (nI r) x2 h g = some (v, h', g') ∧ v < 0 ∧ ¬ v = 0 ∧ rel f' h' g') ∨
    (∃ b A B h' g', g_X6_lineRefusal (28 + 2 * r) x2 f = some (0, mj_wr f 0 8 0) ∧ g_X6_bestPlaces (28 + 2 * r) x2 (mj_wr f 0 8 0) = some (nI b) ∧ g_X6_valueAbove (28 + 2 * r) x2 (nI b) (mj_wr f 0 8 0) = some (lN A) ∧ g_X6_valueBelow (28 + 2 * r) x2 (nI b) (mj_wr f 0 8 0) = some (lN B) ∧ A < 2 ^ 31 ∧ 0 < B ∧ B < 2 ^ 31 ∧ g_X7_findGuards (nI r) x2 h g = some (0, h', g') ∧ h' 0 22 = nI b ∧ g' 0 23 = lN (A / Nat.gcd A B) ∧ g' 0 24 = lN (B / Nat.gcd A B) ∧ rel (mj_wr f 0 8 0) (mj_wr h' 0 3 0) g') := by
  unfold g_X6_lineRefusal g_X7_findGuards
  dsimp only [mj_lt]
  rcases lack_both (x := x2) (l := 5) hR hr (by omega) with ⟨v, hv, e1, e2⟩ | ⟨e1, e2, s, m, rfl, hs, hm40, hrow⟩
  · obtain ⟨n1, n2⟩ := find_neg (h := h) hv
    rw [show nI 5 = (5 : Int32) from rfl] at e1 e2
    rw [e1, e2, if_neg n2, Option.bind_some, if_pos n1]
    refine Or.inl ⟨_, _, _, _, rfl, rfl, n1, fun z => ?_, (find_both hR v).2⟩
    have n1' := n1
    rw [show (g_X7_find v h).1 = 0 from z] at n1'
    exact absurd n1' (by decide)
  · rw [show nI 5 = (5 : Int32) from rfl] at e1 e2
    have e40 : (40 : Int32) * nI r + nI s = nI (40 * r + s) := by
      rw [show (40 : Int32) = nI 40 from rfl, pk_mul, nI_add]
    rw [e1, e2, if_pos rfl, Option.bind_some, if_neg (show ¬ (0 : Int32) < 0 by decide), e40]
    rcases gd_chk g hr hs hm40 hrow mj_fuel 0 (by omega) (by rw [fuel_eq]; omega) with ⟨q1, q2⟩ | ⟨q1, q2, q3⟩
    · rw [show nI 0 = (0 : Int32) from rfl] at q1 q2
      exact Or.inl ⟨_, _, _, _, q1, q2, by decide, by decide, hR⟩
    · rw [show nI 0 = (0 : Int32) from rfl] at q2 q3
      have hv : ∀ j, j < 5 → (1 ≤ ix (h 3 (40 * r + s + j)) ∧ ix (h 3 (40 * r + s + j)) ≤ 20) ∧ h 3 (40 * r + s + j) = nI (ix (h 3 (40 * r + s + j))) := fun j hj => by
        obtain ⟨w, w1, w2, w3⟩ := q1 j (by omega) hj
        rw [w3, ix_nI (by omega)]
        exact ⟨⟨w1, w2⟩, rfl⟩
      obtain ⟨b, A, B, h', g', t1, t2, t3, t4, t5, t6, t7, t8, t9, t10, t11⟩ := gd_both (a := 28 + 2 * r) (f := mj_wr f 0 8 0) (h := h) (s := s) (x4 := 40 * r + s) (v := fun j => ix (h 3 (40 * r + s + j))) g (by omega) (by omega) (fun j hj => (hv j hj).1) (fun j hj => by rw [wr_ne _ _ (by omega), hrow (s + j) (by omega), ← Nat.add_assoc]; exact (hv j hj).2) (fun j hj => (hv j hj).2)
      rw [q2, q3]
      exact Or.inr ⟨b, A, B, h', g', rfl, t1, t2, t3, t4, t5, t6, t7, t8, t9, t10, gd_rel hR t11⟩
theorem sim_guards : ls_guards rel := by
  intro fX fM gM hR x1 x2
  unfold g_X6_guards g_X7_guards g_X6_isRow g_X7_isRow
  rw [in_0_7]
  by_cases c3 : g_X6_within x1 0 7 = 0
  · rw [if_pos c3, if_pos c3]
    exact ⟨_, _, rfl, rfl, rfl, hR⟩
  rw [if_neg c3, if_neg c3]
  obtain ⟨r, hr, rfl⟩ := mj_in_ex (wi_7.mp c3) (by decide)
  have kr : mj_in (nI r) 8 = true := mj_in_nI hr (by decide)
  simp only [kr, ↓reduceIte, ix_nI (show r < 2 ^ 31 by omega)]
  rcases gd_line x2 hR hr with ⟨v, f', h', g', q1, q2, q3, q4, q5⟩ | ⟨b, A, B, h', g', q1, q2, q3, q4, q5, q6, q7, q8, q9, q10, q11, q12⟩
  · rw [q1, q2, Option.bind_some, Option.bind_some, if_neg q4, if_pos q3]
    exact ⟨_, _, rfl, rfl, rfl, q5⟩
  · rw [q1, q8, Option.bind_some, Option.bind_some, if_pos rfl, if_neg (show ¬ (0 : Int32) < 0 by decide), q2, Option.bind_some]
    exact ⟨_, _, rfl, rfl, q9.symm, q12⟩
theorem sim_guardsValue : ls_guardsValue rel := by
  intro fX fM gM hR x1 x2 x3
  unfold g_X6_guardsValue g_X7_guardsValue g_X6_isRow g_X7_isRow
  rw [in_0_7, in_0_1]
  by_cases c3 : g_X6_within x1 0 7 = 0
  · rw [if_pos c3, if_pos c3]
    exact ⟨_, _, rfl, rfl, rfl, hR⟩
  rw [if_neg c3, if_neg c3]
  by_cases c4 : g_X6_within x3 0 1 = 0
  · rw [if_pos c4, if_pos c4]
    exact ⟨_, _, rfl, rfl, rfl, hR⟩
  rw [if_neg c4, if_neg c4]
  obtain ⟨r, hr, rfl⟩ := mj_in_ex (wi_7.mp c3) (by decide)
  have kr : mj_in (nI r) 8 = true := mj_in_nI hr (by decide)
  simp only [kr, ↓reduceIte, ix_nI (show r < 2 ^ 31 by omega)]
  rcases gd_line x2 hR hr with ⟨v, f', h', g', q1, q2, q3, q4, q5⟩ | ⟨b, A, B, h', g', q1, q2, q3, q4, q5, q6, q7, q8, q9, q10, q11, q12⟩
  · rw [q1, q2, Option.bind_some, Option.bind_some, if_neg q4, if_pos q3]
    exact ⟨_, _, rfl, rfl, rfl, q5⟩
  · obtain ⟨l1, l2⟩ := lowest_ok x3 q5 q6 q7
    rw [q1, q8, Option.bind_some, Option.bind_some, if_pos rfl, if_neg (show ¬ (0 : Int32) < 0 by decide), q2, Option.bind_some, q3, Option.bind_some, q4, Option.bind_some, l1, Option.bind_some]
    dsimp only [mj_lt]
    rw [q10, q11]
    by_cases c : x3 = 0
    · rw [if_pos c, if_pos c]
      exact ⟨_, _, rfl, rfl, rfl, q12⟩
    · rw [if_neg c, if_neg c]
      exact ⟨_, _, rfl, rfl, rfl, q12⟩
