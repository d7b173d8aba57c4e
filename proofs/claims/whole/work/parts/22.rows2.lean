/-! row, set, drop -/
theorem wi_7 {x : Int32} : ¬ g_X6_within x 0 7 = 0 ↔ mj_in x 8 = true := wi_in (by decide)
/-- the rows but one stay -/
theorem rows_one {f f' h h' : mj_I} {r : Nat} (hR : rl_rows f h) (hr : r < 8)
    (hx : ∀ b i, 28 ≤ b → b < 44 → b ≠ 28 + 2 * r → b ≠ 28 + 2 * r + 1 → f' b i = f b i)
    (h1 : ∀ i, i ≠ r → h' 1 i = h 1 i) (h2 : ∀ i, i ≠ r → h' 2 i = h 2 i) (h3 : ∀ i, ¬ (40 * r ≤ i ∧ i < 40 * r + 40) → h' 3 i = h 3 i)
    (hn : (f' (28 + 2 * r) 0 = 0 ∧ h' 2 r = -1) ∨ (f' (28 + 2 * r) 0 = 1 ∧ ∃ n, n ≤ 40 ∧ h' 2 r = nI n ∧ f' (28 + 2 * r) 2 = nI n ∧ f' (28 + 2 * r) 1 = h' 1 r ∧ ∀ i, i < n → f' (28 + 2 * r + 1) i = h' 3 (40 * r + i))) : rl_rows f' h' := by
  intro q hq
  by_cases e : q = r
  · subst e; exact hn
  · rcases hR q hq with ⟨a1, a2⟩ | ⟨a1, n, a2, a3, a4, a5, a6⟩
    · exact Or.inl ⟨by rw [hx _ _ (by omega) (by omega) (by omega) (by omega)]; exact a1, by rw [h2 q e]; exact a2⟩
    · refine Or.inr ⟨by rw [hx _ _ (by omega) (by omega) (by omega) (by omega)]; exact a1, n, a2, by rw [h2 q e]; exact a3, by rw [hx _ _ (by omega) (by omega) (by omega) (by omega)]; exact a4, by rw [hx _ _ (by omega) (by omega) (by omega) (by omega), h1 q e]; exact a5, fun i hi => ?_⟩
      rw [hx _ _ (by omega) (by omega) (by omega) (by omega), h3 _ (by omega)]
      exact a6 i hi
/-- a finding on both sides -/
theorem find_both {f h : mj_I} {g : mj_L} (hR : rel f h g) (v : Int32) : (g_X6_found v f).1 = (g_X7_find v h).1 ∧ rel (g_X6_found v f).2 (g_X7_find v h).2 g := by
  refine ⟨rfl, rel_keep hR ?_ ?_ ?_ ?_⟩
  · show rl_rows (mj_wr f 0 8 v) (mj_wr h 0 3 v)
    intro r hr
    rw [wr_ne1 _ _ (by omega), wr_ne1 _ _ (by omega), wr_ne1 _ _ (by omega), wr_ne1 _ _ (by omega), wr_ne1 _ _ (by omega)]
    exact hR.1 r hr
  · show mj_wr f 0 8 v 0 8 = mj_wr h 0 3 v 0 3
    rw [wr_eq, wr_eq]
  · intro b i hb
    exact wr_ne _ _ (by omega)
  · intro b i hb _
    exact wr_ne _ _ (by omega)
/-- a clean answer on both sides, behind a change of the rows -/
theorem clean_both {f f' h h' : mj_I} {g : mj_L} (hR : rel f h g) (hrows : rl_rows f' h')
    (hx : ∀ b i, (b = 0 ∧ i = 9) ∨ (2 ≤ b ∧ b < 28) ∨ 44 ≤ b → f' b i = f b i)
    (hm : ∀ b i, (b = 0 ∧ i ≠ 3) ∨ 4 ≤ b → b ≠ 5 → h' b i = h b i) (v : Int32) : rel (g_X6_clean v f').2 (g_X7_well v h').2 g := by
  refine rel_keep hR ?_ ?_ ?_ ?_
  · show rl_rows (mj_wr f' 0 8 0) (mj_wr h' 0 3 0)
    intro r hr
    rw [wr_ne1 _ _ (by omega), wr_ne1 _ _ (by omega), wr_ne1 _ _ (by omega), wr_ne1 _ _ (by omega), wr_ne1 _ _ (by omega)]
    exact hrows r hr
  · show mj_wr f' 0 8 0 0 8 = mj_wr h' 0 3 0 0 3
    rw [wr_eq, wr_eq]
  · intro b i hb
    show mj_wr f' 0 8 0 b i = _
    rw [wr_ne _ _ (by omega)]
    exact hx b i hb
  · intro b i hb h5
    show mj_wr h' 0 3 0 b i = _
    rw [wr_ne _ _ (by omega)]
    exact hm b i hb h5
theorem sim_row : ls_row rel := by
  intro fX fM gM hR x1 x2 x3
  unfold g_X6_row g_X7_row g_X6_isRow g_X7_isRow
  rw [in_0_7, in_0_2]
  by_cases c1 : g_X6_within x1 0 7 = 0
  · rw [if_pos c1, if_pos c1]
    exact ⟨_, _, rfl, rfl, rfl, hR⟩
  rw [if_neg c1, if_neg c1]
  by_cases c2 : g_X6_within x2 0 2 = 0
  · rw [if_pos c2, if_pos c2]
    exact ⟨_, _, rfl, rfl, rfl, hR⟩
  rw [if_neg c2, if_neg c2]
  by_cases c3 : (40 : Int32) < x3
  · rw [if_pos c3, if_pos c3]
    exact ⟨_, _, rfl, rfl, rfl, hR⟩
  rw [if_neg c3, if_neg c3]
  by_cases c4 : x3 < 0
  · rw [if_pos c4, if_pos c4]
    obtain ⟨e1, e2⟩ := find_both hR 4
    exact ⟨_, _, rfl, rfl, e1, e2⟩
  rw [if_neg c4, if_neg c4]
  have hin := wi_7.mp c1
  rw [if_pos hin, if_pos hin]
  simp only [mj_lt]
  rw [if_pos hin]
  obtain ⟨r, hr, rfl⟩ := mj_in_ex hin (by decide)
  obtain ⟨n, hn, rfl⟩ := nI_of2 (M := 40) (n := 40) (by decide) c4 (Int32.not_lt.mp c3)
  unfold g_X3_begin
  simp only [mj_lt]
  rw [ix_nI (by omega)]
  obtain ⟨f', e1, e2, e3⟩ := begin_loop (a := 28 + 2 * r) hn mj_fuel 0 (mj_wr (mj_wr (mj_wr fX (28 + 2 * r) 0 1) (28 + 2 * r) 1 x2) (28 + 2 * r) 2 (nI n)) (by omega) (by rw [fuel_eq]; omega)
  obtain ⟨h', m1, m2, m3⟩ := mrow_loop (x3 := n) hr mj_fuel 0 (mj_wr (mj_wr fM 1 r x2) 2 r (nI n)) (by omega) (by rw [fuel_eq]; omega)
  rw [show (0 : Int32) = nI 0 from rfl, e1, m1]
  refine ⟨_, _, rfl, rfl, rfl, clean_both hR ?_ ?_ ?_ _⟩
  · refine rows_one hR.1 hr ?_ ?_ ?_ ?_ ?_
    · intro b i b1 b2 b3 b4
      rw [e3 b i (by omega), wr_ne _ _ (by omega), wr_ne _ _ (by omega), wr_ne _ _ (by omega)]
    · intro i hi
      rw [m3 1 i (by omega), wr_ne _ _ (by omega), wr_ne _ _ (by omega)]
    · intro i hi
      rw [m3 2 i (by omega), wr_ne _ _ (by omega), wr_ne _ _ (by omega)]
    · intro i hi
      rw [m3 3 i (by omega), wr_ne _ _ (by omega), wr_ne _ _ (by omega)]
    · refine Or.inr ⟨?_, n, hn, ?_, ?_, ?_, fun i hi => ?_⟩
      · rw [e3 _ _ (by omega), wr_ne _ _ (by omega), wr_ne _ _ (by omega), wr_eq]
      · rw [m3 2 r (by omega), wr_eq]
      · rw [e3 _ _ (by omega), wr_eq]
      · rw [e3 _ _ (by omega), wr_ne _ _ (by omega), wr_eq, m3 1 r (by omega), wr_ne _ _ (by omega), wr_eq]
      · rw [e2 i (by omega) hi, m2 i (by omega) (by omega)]
  · intro b i hb
    rw [e3 b i (by omega), wr_ne _ _ (by omega), wr_ne _ _ (by omega), wr_ne _ _ (by omega)]
  · intro b i hb h5
    rw [m3 b i (by omega), wr_ne _ _ (by omega), wr_ne _ _ (by omega)]
theorem neg1_lt : (-1 : Int32) < 0 := by decide
theorem sim_drop : ls_drop rel := by
  intro fX fM gM hR x1
  unfold g_X6_drop g_X7_drop g_X6_isRow g_X7_isRow
  rw [in_0_7]
  by_cases c1 : g_X6_within x1 0 7 = 0
  · rw [if_pos c1, if_pos c1]
    exact ⟨_, _, rfl, rfl, rfl, hR⟩
  rw [if_neg c1, if_neg c1]
  have hin := wi_7.mp c1
  simp only [mj_lt, hin, ↓reduceIte]
  obtain ⟨r, hr, rfl⟩ := mj_in_ex hin (by decide)
  rw [ix_nI (by omega)]
  rcases hR.1 r hr with ⟨a1, a2⟩ | ⟨a1, n, a2, a3, a4, a5, a6⟩
  · rw [if_pos a1, if_pos (by rw [a2]; exact neg1_lt)]
    obtain ⟨e1, e2⟩ := find_both hR 1
    exact ⟨_, _, rfl, rfl, e1, e2⟩
  · rw [if_neg (by rw [a1]; decide), if_neg (by rw [a3]; exact nI_pos (by omega))]
    refine ⟨_, _, rfl, rfl, ?_, clean_both hR ?_ ?_ ?_ _⟩
    · show mj_wr fX (28 + 2 * r) 0 0 (28 + 2 * r) 2 = fM 2 r
      rw [wr_ne _ _ (by omega), a4, a3]
    · refine rows_one hR.1 hr ?_ ?_ ?_ ?_ ?_
      · intro b i b1 b2 b3 b4
        exact wr_ne _ _ (by omega)
      · intro i hi
        exact wr_ne _ _ (by omega)
      · intro i hi
        exact wr_ne _ _ (by omega)
      · intro i hi
        exact wr_ne _ _ (by omega)
      · exact Or.inl ⟨wr_eq _ _ _ _, wr_eq _ _ _ _⟩
    · intro b i hb
      exact wr_ne _ _ (by omega)
    · intro b i hb h5
      exact wr_ne _ _ (by omega)
/-- the lanes -/
theorem lane_b (x : Int32) : (x <<< ((24 : Int32) &&& 31)) >>> ((24 : Int32) &&& 31) = x.toInt8.toInt32 := by
  apply Int32.toInt_inj.mp
  rw [pk_shr _ _ 24 (by decide), Int8.toInt_toInt32, Int32.toInt_toInt8, Int.bmod_def]
  have h1 := pk_shl x ((24 : Int32) &&& 31) 24 (by decide)
  have h2 : ∀ y : Int32, y.toInt = if 2 * y.toBitVec.toNat < 2 ^ 32 then (y.toBitVec.toNat : Int) else (y.toBitVec.toNat : Int) - 2 ^ 32 := fun y => BitVec.toInt_eq_toNat_cond y.toBitVec
  rw [h2 (x <<< ((24 : Int32) &&& 31)), h1, h2 x, Int.shiftRight_eq_div_pow]
  have := x.toBitVec.isLt
  generalize x.toBitVec.toNat = n at this ⊢
  split <;> split <;> split <;> omega
theorem lane_s (x : Int32) : (x <<< ((16 : Int32) &&& 31)) >>> ((16 : Int32) &&& 31) = x.toInt16.toInt32 := by
  apply Int32.toInt_inj.mp
  rw [pk_shr _ _ 16 (by decide), Int16.toInt_toInt32, Int32.toInt_toInt16, Int.bmod_def]
  have h1 := pk_shl x ((16 : Int32) &&& 31) 16 (by decide)
  have h2 : ∀ y : Int32, y.toInt = if 2 * y.toBitVec.toNat < 2 ^ 32 then (y.toBitVec.toNat : Int) else (y.toBitVec.toNat : Int) - 2 ^ 32 := fun y => BitVec.toInt_eq_toNat_cond y.toBitVec
  rw [h2 (x <<< ((16 : Int32) &&& 31)), h1, h2 x, Int.shiftRight_eq_div_pow]
  have := x.toBitVec.isLt
  generalize x.toBitVec.toNat = n at this ⊢
  split <;> split <;> split <;> omega
theorem has_iff {f : mj_I} {a m : Nat} (hm : m ≤ 40) (hs : f a 2 = nI m) (i n : Int32) : g_X3_has a i n f = 0 ↔ ¬ (0 ≤ i.toInt ∧ 0 ≤ n.toInt ∧ i.toInt + n.toInt ≤ m) := by
  unfold g_X3_has
  rw [hs]
  simp only [Int32.lt_iff_toInt_lt]
  have h0 : (0 : Int32).toInt = 0 := rfl
  have hmm : (nI m).toInt = m := nI_toInt (by omega)
  by_cases h1 : i.toInt < (0 : Int32).toInt
  · rw [if_pos h1]
    simp; omega
  rw [if_neg h1]
  by_cases h2 : n.toInt < (0 : Int32).toInt
  · rw [if_pos h2]
    simp; omega
  rw [if_neg h2]
  by_cases h3 : (nI m).toInt < n.toInt
  · rw [if_pos h3]
    simp; omega
  rw [if_neg h3]
  have hsub : (nI m - n).toInt = m - n.toInt := by
    obtain ⟨k, hk, rfl⟩ := nI_of (x := n) (by rw [Int32.lt_iff_toInt_lt]; exact h2)
    rw [nI_toInt hk] at h3 ⊢
    rw [pk_sub_toInt (by omega) (by omega)]
  rw [hsub]
  by_cases h4 : (m : Int) - n.toInt < i.toInt
  · rw [if_pos h4]
    simp; omega
  · rw [if_neg h4]
    simp; omega
theorem has_01 (f : mj_I) (a : Nat) (i n : Int32) : g_X3_has a i n f = 0 ∨ g_X3_has a i n f = 1 := by
  unfold g_X3_has
  split
  · exact Or.inl rfl
  · split
    · exact Or.inl rfl
    · split
      · exact Or.inl rfl
      · split
        · exact Or.inl rfl
        · exact Or.inr rfl
theorem sim_set : ls_set rel := by
  intro fX fM gM hR x1 x2 x3
  unfold g_X6_set g_X7_set g_X6_isRow g_X7_isRow
  rw [in_0_7, in_0x]
  by_cases c1 : g_X6_within x1 0 7 = 0
  · rw [if_pos c1, if_pos c1]
    exact ⟨_, _, rfl, rfl, rfl, hR⟩
  rw [if_neg c1, if_neg c1]
  have hin := wi_7.mp c1
  simp only [mj_lt, hin, ↓reduceIte]
  obtain ⟨r, hr, rfl⟩ := mj_in_ex hin (by decide)
  rw [ix_nI (by omega)]
  rcases hR.1 r hr with ⟨a1, a2⟩ | ⟨a1, n, a2, a3, a4, a5, a6⟩
  · have hl : g_X3_lack (28 + 2 * r) x2 1 fX = 1 := by unfold g_X3_lack; rw [if_pos a1]
    rw [hl, if_neg (show ¬ (1 : Int32) = 0 by decide), if_pos (show fM 2 r < 0 by rw [a2]; exact neg1_lt)]
    obtain ⟨e1, e2⟩ := find_both hR 1
    exact ⟨_, _, rfl, rfl, e1, e2⟩
  · have hl : g_X3_lack (28 + 2 * r) x2 1 fX = if g_X3_has (28 + 2 * r) x2 1 fX = 0 then 2 else 0 := by
      unfold g_X3_lack
      rw [if_neg (show ¬ fX (28 + 2 * r) 0 = 0 by rw [a1]; decide)]
    rw [hl, if_neg (show ¬ fM 2 r < 0 by rw [a3]; exact nI_pos (by omega))]
    have hh := has_iff a2 a4 x2 1
    have h1 : (1 : Int32).toInt = 1 := rfl
    have h0 : (0 : Int32).toInt = 0 := rfl
    have hw : g_X6_within x2 0 (fM 2 r - 1) = 0 ↔ ¬ (0 ≤ x2.toInt ∧ x2.toInt + 1 ≤ n) := by
      rw [wi_iff, a3]
      have e9 : (nI n - 1).toInt = (n : Int) - 1 := pk_sub_toInt (a := n) (b := 1) (by omega) (by omega)
      rw [e9, h0]
      omega
    by_cases c2 : 0 ≤ x2.toInt ∧ x2.toInt + 1 ≤ n
    · have c3 : ¬ g_X3_has (28 + 2 * r) x2 1 fX = 0 := fun q => (hh.mp q) ⟨c2.1, by rw [h1]; omega, by rw [h1]; omega⟩
      have c4 : ¬ g_X6_within x2 0 (fM 2 r - 1) = 0 := fun q => (hw.mp q) c2
      rw [if_neg c3, if_neg c4, if_pos rfl]
      have hi2 : mj_in x2 40 = true := mj_in_iff.mpr ⟨by omega, by omega⟩
      obtain ⟨i, hi, rfl⟩ := mj_in_ex hi2 (by decide)
      have hin2 : i < n := by
        have := c2.2
        rw [nI_toInt (by omega)] at this
        omega
      have e40 : (40 : Int32) * nI r + nI i = nI (40 * r + i) := by
        rw [show (40 : Int32) = nI 40 from rfl, pk_mul, nI_add]
      have hi3 : mj_in (nI (40 * r + i)) 320 = true := mj_in_nI (by omega) (by decide)
      rw [e40]
      unfold g_X3_put g_X7_asLane
      simp only [mj_lt, hi2, hi3, ↓reduceIte, ix_nI (show i < 2 ^ 31 by omega), ix_nI (show 40 * r + i < 2 ^ 31 by omega), a5, wr_eq]
      have fin : ∀ v : Int32, ∃ (oX oM : Int32 × mj_I), (some (v, mj_wr fX (28 + 2 * r + 1) i v)).bind (fun o_6 => some ((g_X6_clean o_6.1 o_6.2).1, (g_X6_clean o_6.1 o_6.2).2)) = some oX ∧ some ((g_X7_well v (mj_wr fM 3 (40 * r + i) v)).1, (g_X7_well v (mj_wr fM 3 (40 * r + i) v)).2) = some oM ∧ oX.1 = oM.1 ∧ rel oX.2 oM.2 gM := by
        intro v
        refine ⟨_, _, rfl, rfl, rfl, clean_both (f' := mj_wr fX (28 + 2 * r + 1) i v) (h' := mj_wr fM 3 (40 * r + i) v) hR ?_ ?_ ?_ _⟩
        · refine rows_one hR.1 hr ?_ ?_ ?_ ?_ ?_
          · intro b j b1 b2 b3 b4
            exact wr_ne _ _ (by omega)
          · intro j hj
            exact wr_ne _ _ (by omega)
          · intro j hj
            exact wr_ne _ _ (by omega)
          · intro j hj
            exact wr_ne _ _ (by omega)
          · refine Or.inr ⟨by rw [wr_ne _ _ (by omega)]; exact a1, n, a2, by rw [wr_ne _ _ (by omega)]; exact a3, by rw [wr_ne _ _ (by omega)]; exact a4, by rw [wr_ne _ _ (by omega), wr_ne _ _ (by omega)]; exact a5, fun j hj => ?_⟩
            by_cases e : j = i
            · subst e
              rw [wr_eq, wr_eq]
            · rw [wr_ne _ _ (by omega), wr_ne _ _ (by omega)]
              exact a6 j hj
        · intro b j hb
          exact wr_ne _ _ (by omega)
        · intro b j hb h5
          exact wr_ne _ _ (by omega)
      by_cases l0 : fM 1 r = 0
      · simp only [l0, ↓reduceIte, lane_b]
        exact fin _
      · simp only [l0, ↓reduceIte]
        by_cases l1 : fM 1 r = 1
        · simp only [l1, ↓reduceIte, lane_s]
          exact fin _
        · simp only [l1, ↓reduceIte]
          exact fin _
    · have c3 : g_X3_has (28 + 2 * r) x2 1 fX = 0 := hh.mpr (fun q => c2 ⟨q.1, by have := q.2.2; rw [h1] at this; omega⟩)
      have c4 : g_X6_within x2 0 (fM 2 r - 1) = 0 := hw.mpr c2
      rw [if_pos c3, if_pos c4, if_neg (show ¬ (2 : Int32) = 0 by decide)]
      obtain ⟨e1, e2⟩ := find_both hR 2
      exact ⟨_, _, rfl, rfl, e1, e2⟩
theorem sim_fault : ls_fault rel := by
  intro fX fM gM hR
  exact ⟨_, _, rfl, rfl, hR.2.1.2, hR⟩
theorem sim_status : ls_status rel := by
  intro fX fM gM hR
  exact ⟨_, _, rfl, rfl, hR.2.1.1, hR⟩
