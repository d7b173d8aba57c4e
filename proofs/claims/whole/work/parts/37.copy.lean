/-! copy -/
theorem in_dif {m : Nat} {x n : Int32} (hm : m ≤ 40) : g_X7_in x.toInt64 0 ((nI m).toInt64 - n.toInt64) = 0 ↔ ¬ (0 ≤ x.toInt ∧ x.toInt + n.toInt ≤ m) := by
  have e : ((nI m).toInt64 - n.toInt64).toInt = (m : Int) - n.toInt := by
    rw [Int64.toInt_sub, Int32.toInt_toInt64, Int32.toInt_toInt64, nI_toInt (by omega)]
    have h1 := Int32.toInt_lt n
    have h2 := Int32.le_toInt n
    rw [Int.bmod_def]
    split <;> omega
  have z : (0 : Int64).toInt = 0 := rfl
  unfold g_X7_in
  simp only [cmp_lt, cmp_gt, Int32.toInt_toInt64, e, z]
  split
  · simp; omega
  · split
    · simp; omega
    · simp; omega
theorem c117 {r s l : Nat} {y z : Int32} (hr : r < 8) (hs : s + l ≤ 40) : ∀ n i h, i ≤ l → l < i + n → ∃ h', g_X7_copy_117 n (nI r) (nI s) y z (nI l) (nI i) h = some h' ∧ (∀ b, b ≠ 5 → h' b = h b) ∧ (∀ j, i ≤ j → j < l → h' 5 j = h 3 (40 * r + s + j)) ∧ ∀ j, j < i → h' 5 j = h 5 j := by
  intro n
  induction n with
  | zero => intro i h h1 h2; omega
  | succ n ih =>
    intro i h h1 h2
    unfold g_X7_copy_117
    by_cases hi : i = l
    · rw [if_neg (nI_nlt (by omega) (by omega))]
      exact ⟨h, rfl, fun _ _ => rfl, fun j _ _ => by omega, fun _ _ => rfl⟩
    have e40 : (40 : Int32) * nI r + nI s + nI i = nI (40 * r + s + i) := by
      rw [show (40 : Int32) = nI 40 from rfl, pk_mul, nI_add, nI_add]
    have h1' : mj_in (nI (40 * r + s + i)) 320 = true := mj_in_nI (by omega) (by decide)
    have h2' : mj_in (nI i) 40 = true := mj_in_nI (by omega) (by decide)
    rw [if_pos (nI_lt (by omega) (by omega)), e40]
    simp only [mj_lt, h1', h2', ↓reduceIte, ix_nI (show i < 2 ^ 31 by omega), ix_nI (show 40 * r + s + i < 2 ^ 31 by omega), nI_1]
    obtain ⟨h', q1, q2, q3, q4⟩ := ih (i + 1) (mj_wr h 5 i (h 3 (40 * r + s + i))) (by omega) (by omega)
    refine ⟨h', q1, fun b hb => by rw [q2 b hb, wr_ne1 _ _ hb], fun j k1 k2 => ?_, fun j hj => by rw [q4 j (by omega), wr_ne _ _ (by omega)]⟩
    by_cases e : j = i
    · subst e; rw [q4 _ (by omega), wr_eq]
    · rw [q3 j (by omega) k2, wr_ne1 _ _ (by omega)]
theorem c154 {r d l : Nat} (hr : r < 8) (hd : d + l ≤ 40) : ∀ n i h, i ≤ l → l < i + n → ∃ h', g_X7_copy_154 n (nI r) (nI d) (nI l) (nI i) h = some h' ∧ (∀ b, b ≠ 3 → h' b = h b) ∧ (∀ j, i ≤ j → j < l → h' 3 (40 * r + d + j) = h 5 j) ∧ ∀ j, ¬ (40 * r + d + i ≤ j ∧ j < 40 * r + d + l) → h' 3 j = h 3 j := by
  intro n
  induction n with
  | zero => intro i h h1 h2; omega
  | succ n ih =>
    intro i h h1 h2
    unfold g_X7_copy_154
    by_cases hi : i = l
    · rw [if_neg (nI_nlt (by omega) (by omega))]
      exact ⟨h, rfl, fun _ _ => rfl, fun j _ _ => by omega, fun _ _ => rfl⟩
    have e40 : (40 : Int32) * nI r + nI d + nI i = nI (40 * r + d + i) := by
      rw [show (40 : Int32) = nI 40 from rfl, pk_mul, nI_add, nI_add]
    have h1' : mj_in (nI (40 * r + d + i)) 320 = true := mj_in_nI (by omega) (by decide)
    have h2' : mj_in (nI i) 40 = true := mj_in_nI (by omega) (by decide)
    rw [if_pos (nI_lt (by omega) (by omega)), e40]
    simp only [mj_lt, h1', h2', ↓reduceIte, ix_nI (show i < 2 ^ 31 by omega), ix_nI (show 40 * r + d + i < 2 ^ 31 by omega), nI_1]
    obtain ⟨h', q1, q2, q3, q4⟩ := ih (i + 1) (mj_wr h 3 (40 * r + d + i) (h 5 i)) (by omega) (by omega)
    refine ⟨h', q1, fun b hb => by rw [q2 b hb, wr_ne1 _ _ hb], fun j k1 k2 => ?_, fun j hj => by rw [q4 j (by omega), wr_ne _ _ (by omega)]⟩
    by_cases e : j = i
    · subst e; rw [q4 _ (by omega), wr_eq]
    · rw [q3 j (by omega) k2, wr_ne1 _ _ (by omega)]
theorem sim_copy : ls_copy rel := by
  intro fX fM gM hR x1 x2 x3 x4 x5
  unfold g_X6_copy g_X7_copy g_X6_isRow g_X7_isRow
  rw [in_0_7, in_0_7]
  by_cases c1 : g_X6_within x1 0 7 = 0
  · rw [if_pos c1, if_pos c1]
    exact ⟨_, _, rfl, rfl, rfl, hR⟩
  rw [if_neg c1, if_neg c1]
  by_cases c2 : g_X6_within x3 0 7 = 0
  · rw [if_pos c2, if_pos c2]
    exact ⟨_, _, rfl, rfl, rfl, hR⟩
  rw [if_neg c2, if_neg c2]
  obtain ⟨r, hr, rfl⟩ := mj_in_ex (wi_7.mp c1) (by decide)
  obtain ⟨q, hq, rfl⟩ := mj_in_ex (wi_7.mp c2) (by decide)
  have kr : mj_in (nI r) 8 = true := mj_in_nI hr (by decide)
  have kq : mj_in (nI q) 8 = true := mj_in_nI hq (by decide)
  simp only [kr, kq, ↓reduceIte, ix_nI (show r < 2 ^ 31 by omega), ix_nI (show q < 2 ^ 31 by omega), mj_lt]
  rcases hR.1 r hr with ⟨a1, a2⟩ | ⟨a1, n, a2, a3, a4, a5, a6⟩
  · rw [a1, a2, if_pos rfl, if_pos (by decide)]
    exact ⟨_, _, rfl, rfl, (find_both hR 1).1, (find_both hR 1).2⟩
  rw [a1, a3, if_neg (by decide), if_neg (nI_pos (by omega))]
  rcases hR.1 q hq with ⟨b1, b2⟩ | ⟨b1, m, b2, b3, b4, b5, b6⟩
  · rw [b1, b2, if_pos rfl, if_pos (by decide)]
    exact ⟨_, _, rfl, rfl, (find_both hR 1).1, (find_both hR 1).2⟩
  rw [b1, b3, if_neg (by decide), if_neg (nI_pos (by omega)), a5, b5]
  rcases Classical.em (¬ (fM 1 r = fM 1 q)) with c3 | c3
  · rw [if_neg c3, if_neg c3]
    exact ⟨_, _, rfl, rfl, (find_both hR 5).1, (find_both hR 5).2⟩
  replace c3 := Classical.not_not.mp c3
  rw [if_pos c3, if_pos c3]
  have h0 : (0 : Int32).toInt = 0 := rfl
  by_cases cl : x5 < 0
  · rw [if_pos cl]
    have : g_X3_has (28 + 2 * r) x2 x5 fX = 0 := (has_iff a2 a4 x2 x5).mpr (fun z => by rw [Int32.lt_iff_toInt_lt] at cl; omega)
    rw [if_pos this]
    exact ⟨_, _, rfl, rfl, (find_both hR 2).1, (find_both hR 2).2⟩
  rw [if_neg cl]
  rw [Int32.lt_iff_toInt_lt] at cl
  have i1 := in_dif (m := n) (x := x2) (n := x5) a2
  have i2 := in_dif (m := m) (x := x4) (n := x5) b2
  have k1 := has_iff a2 a4 x2 x5
  have k2 := has_iff b2 b4 x4 x5
  rcases Classical.em (¬ (0 ≤ x2.toInt ∧ x2.toInt + x5.toInt ≤ n)) with d1 | d1
  · rw [if_pos (k1.mpr (fun z => d1 ⟨z.1, z.2.2⟩)), if_pos (i1.mpr d1)]
    exact ⟨_, _, rfl, rfl, (find_both hR 2).1, (find_both hR 2).2⟩
  replace d1 := Classical.not_not.mp d1
  rw [if_neg (fun z => k1.mp z ⟨d1.1, by omega, d1.2⟩), if_neg (fun z => i1.mp z d1)]
  rcases Classical.em (¬ (0 ≤ x4.toInt ∧ x4.toInt + x5.toInt ≤ m)) with d2 | d2
  · rw [if_pos (k2.mpr (fun z => d2 ⟨z.1, z.2.2⟩)), if_pos (i2.mpr d2)]
    exact ⟨_, _, rfl, rfl, (find_both hR 2).1, (find_both hR 2).2⟩
  replace d2 := Classical.not_not.mp d2
  rw [if_neg (fun z => k2.mp z ⟨d2.1, by omega, d2.2⟩), if_neg (fun z => i2.mp z d2)]
  obtain ⟨s, hs, rfl⟩ := mj_in_ex (x := x2) (n := 41) (mj_in_iff.mpr ⟨by omega, by omega⟩) (by decide)
  obtain ⟨d, hd, rfl⟩ := mj_in_ex (x := x4) (n := 41) (mj_in_iff.mpr ⟨by omega, by omega⟩) (by decide)
  obtain ⟨l, hl, rfl⟩ := mj_in_ex (x := x5) (n := 41) (mj_in_iff.mpr ⟨by omega, by omega⟩) (by decide)
  rw [nI_toInt (by omega), nI_toInt (by omega)] at d1 d2
  have ok : mj_cpok (nI s) (nI d) (nI l) 40 40 = true := by
    unfold mj_cpok
    rw [nI_clamp (by omega), nI_clamp (by omega), nI_clamp (by omega)]
    simp [nI_pos (show s < 2 ^ 31 by omega), nI_pos (show d < 2 ^ 31 by omega), nI_pos (show l < 2 ^ 31 by omega)]
    omega
  rw [if_pos ok, ix_nI (by omega), ix_nI (by omega), ix_nI (by omega)]
  obtain ⟨m1, p1, p2, p3, p4⟩ := c117 (r := r) (s := s) (l := l) (y := nI q) (z := nI d) hr (by omega) mj_fuel 0 fM (by omega) (by rw [fuel_eq]; omega)
  obtain ⟨m2, s1, s2, s3, s4⟩ := c154 (r := q) (d := d) (l := l) hq (by omega) mj_fuel 0 m1 (by omega) (by rw [fuel_eq]; omega)
  rw [show (0 : Int32) = nI 0 from rfl, p1]
  simp only [Option.bind_some]
  rw [s1]
  simp only [Option.bind_some]
  have cpn : ∀ b i, b ≠ 28 + 2 * q + 1 → mj_cp fX (28 + 2 * r + 1) s (28 + 2 * q + 1) d l b i = fX b i := by
    intro b i hb
    unfold mj_cp
    rw [if_neg hb]
  have mn : ∀ b, b ≠ 3 → b ≠ 5 → m2 b = fM b := fun b h3 h5 => by rw [s2 b h3, p2 b h5]
  have m3 : ∀ j, ¬ (40 * q + d ≤ j ∧ j < 40 * q + d + l) → m2 3 j = fM 3 j := fun j hj => by rw [s4 j (by omega), p2 3 (by omega)]
  have hrows : rl_rows (mj_cp fX (28 + 2 * r + 1) s (28 + 2 * q + 1) d l) m2 := by
    refine rows_one hR.1 hq (fun b i _ _ _ h4 => cpn b i h4) (fun i _ => by rw [mn 1 (by omega) (by omega)]) (fun i _ => by rw [mn 2 (by omega) (by omega)]) (fun i hi => m3 i (by omega)) (Or.inr ⟨by rw [cpn _ _ (by omega)]; exact b1, m, b2, by rw [mn 2 (by omega) (by omega)]; exact b3, by rw [cpn _ _ (by omega)]; exact b4, by rw [cpn _ _ (by omega), mn 1 (by omega) (by omega)]; exact b5, fun i hi => ?_⟩)
    have ecp : mj_cp fX (28 + 2 * r + 1) s (28 + 2 * q + 1) d l (28 + 2 * q + 1) i = va_cpy (fX (28 + 2 * r + 1)) (fX (28 + 2 * q + 1)) s d l i := by
      unfold mj_cp
      rw [if_pos rfl]
    rw [ecp]
    by_cases w : d ≤ i ∧ i < d + l
    · rw [pk_cpy_in w.1 w.2, a6 _ (by omega)]
      have t := s3 (i - d) (by omega) (by omega)
      rw [show 40 * q + d + (i - d) = 40 * q + i by omega] at t
      rw [t, p3 (i - d) (by omega) (by omega), show 40 * r + s + (i - d) = 40 * r + (s + (i - d)) by omega]
    · rw [pk_cpy_out (by omega), b6 i hi, m3 _ (by omega)]
  exact ⟨_, _, rfl, rfl, rfl, clean_both hR hrows (fun b i hb => cpn b i (by omega)) (fun b i hb h5 => by rw [mn b (by omega) h5]) (nI l)⟩
