/-! bits of a mask; soon -/
theorem bm_sh : ∀ l, l < 32 → ((1 : Int32) <<< (nI l &&& 31)).toBitVec = BitVec.twoPow 32 l := by decide +kernel
theorem bm_su : ∀ l, l < 32 → (((nI l).toUInt32 &&& Int32.toUInt32 31).toBitVec % 32).toNat = l := by decide +kernel
def bm (x : Int32) (i : Nat) : Bool := x.toBitVec.getLsbD i
theorem bm_or (x : Int32) {j i : Nat} (hj : j < 32) : bm (x ||| ((1 : Int32) <<< (nI j &&& 31))) i = (bm x i || decide (i = j)) := by
  unfold bm
  rw [Int32.toBitVec_or, bm_sh j hj, BitVec.getLsbD_or, BitVec.getLsbD_twoPow]
  simp [hj, eq_comm]
theorem bm_one {j i : Nat} (hj : j < 32) : bm ((1 : Int32) <<< (nI j &&& 31)) i = decide (i = j) := by
  unfold bm
  rw [bm_sh j hj, BitVec.getLsbD_twoPow]
  simp [hj, eq_comm]
theorem bm_zero (i : Nat) : bm 0 i = false := by
  show (0#32).getLsbD i = false
  simp
theorem bm_t (x : Int32) {i : Nat} (hi : i < 32) : (mj_ushr x (nI i)) &&& 1 = 0 ↔ bm x i = false := by
  unfold mj_ushr
  rw [pk_and _ 1 (by decide), pk_ushr x (nI i) i (bm_su i hi)]
  unfold bm
  rw [BitVec.getLsbD, Nat.testBit_eq_decide_div_mod_eq]
  have hlt := Nat.mod_lt (x.toBitVec.toNat / 2 ^ i) (show 0 < 2 by omega)
  rw [show (2 : Nat) ^ 1 = 2 from rfl]
  generalize x.toBitVec.toNat / 2 ^ i % 2 = z at *
  rcases (show z = 0 ∨ z = 1 by omega) with rfl | rfl <;> decide
def sm (c : Nat) (u : Int32) (h : mj_I) : Prop := ∀ j, j < 32 → (h c j = 0 ↔ bm u j = false) ∧ mj_b (h c j) = true
theorem sm_set {c z : Nat} {u : Int32} {h : mj_I} (hz : z < 32) (S : sm c u h) : sm c (u ||| ((1 : Int32) <<< (nI z &&& 31))) (mj_wr h c z 1) := by
  intro j hj
  rw [bm_or _ hz]
  by_cases e : j = z
  · subst e
    rw [wr_eq]
    simp
    decide
  · rw [wr_ne _ _ (by omega)]
    have := S j hj
    simp [e, this]
theorem sm_c {c : Nat} {u : Int32} {h h' : mj_I} (S : sm c u h) (e : h' c = h c) : sm c u h' := by
  intro j hj
  rw [e]
  exact S j hj
theorem in32 {k : Nat} (h : k < 32) : mj_in (nI k) 32 = true ∧ ix (nI k) = k := ⟨mj_in_nI h (by decide), ix_nI (by omega)⟩
theorem way_in {f h : mj_I} {k ht y z : Nat} (H : hs 4 f h) (hk : k < 5) (hm : nI k < h 4 50) (hht : ht < 2) (hy : y < 1100) (hz : z < 32) :
    ∃ o v, v < 32 ∧ g_X2_blowing 4 (nI ht) (nI y) f = some o ∧ g_X1_driftedFrom (4 + 4 + k) (nI z) o f = nI v ∧ g_X7_drifts (h 4 (51 + k)) (nI z) (nI ht) (nI y) h = some (nI v) := by
  obtain ⟨o, v, w1, w2, w3⟩ := way_eq (c := nI z) H hk hm hht hy
  have hin : mj_in v 32 = true := by
    obtain ⟨⟨_, w, p, cc⟩, ⟨v1, v2, v3, v4, v5⟩, _⟩ := H
    have hd := v3 (6 * ht + y % 6) (by omega)
    have i1 := hour_ix y hy
    have i2 := ht_ix ht hht (y % 6) (by omega)
    have j82 : mj_in (nI (6 * ht + y % 6)) 82 = true := mj_in_nI (by omega) (by decide)
    have jx : ix (nI (6 * ht + y % 6)) = 6 * ht + y % 6 := ix_nI (by omega)
    obtain ⟨d, hd5, ed⟩ := mj_in_ex hd (by decide)
    obtain ⟨o1, o2⟩ := op_ot d hd5
    unfold g_X7_drifts at w3
    simp only [mj_lt, i1, i2, j82, jx, ed, ↓reduceIte] at w3
    by_cases k4 : h 4 (51 + k) = 4
    · simp only [k4, ↓reduceIte, Option.some.injEq] at w3
      rw [← w3]; exact (in32 hz).1
    by_cases k5 : h 4 (51 + k) = 5
    · simp only [k5, show ¬ (5 : Int32) = 4 by decide, ↓reduceIte, Option.some.injEq] at w3
      rw [← w3]; exact bs_in' (in32 hz).1 o2
    simp only [k4, k5, ↓reduceIte, Option.some.injEq] at w3
    rw [← w3]; exact bs_in' (in32 hz).1 (by rw [← ed]; exact hd)
  obtain ⟨q, hq, rfl⟩ := mj_in_ex hin (by decide)
  exact ⟨o, q, hq, w1, w2, w3⟩
theorem wr_same (h : mj_I) (a k : Nat) (x : Int32) : mj_wr (mj_wr h a k x) a k x = mj_wr h a k x := by
  funext i j
  unfold mj_wr
  by_cases e : i = a ∧ j = k
  · rw [if_pos e, if_pos e]
  · rw [if_neg e, if_neg e]
theorem so_42 {k c0 : Nat} {x2 x3 : Int32} (hk : k < 5) (hc0 : c0 < 32) : ∀ n i h, h 4 (56 + k) = nI c0 → i ≤ 32 → 32 < i + n → ∃ h', g_X7_soon_42 n (nI k) x2 x3 (nI i) h = some h' ∧ (∀ b, b ≠ 10 → h' b = h b) ∧ (∀ j, i ≤ j → j < 32 → h' 10 j = if j = c0 then 1 else 0) ∧ ∀ j, j < i → h' 10 j = h 10 j := by
  intro n
  induction n with
  | zero => intro i h _ h1 h2; omega
  | succ n ih =>
    intro i h e h1 h2
    rw [g_X7_soon_42]
    by_cases hi : i = 32
    · subst hi
      rw [if_neg (by decide)]
      exact ⟨h, rfl, fun _ _ => rfl, fun j _ _ => by omega, fun _ _ => rfl⟩
    obtain ⟨k1, k2⟩ := in32 (show i < 32 by omega)
    rw [if_pos (show nI i < (32 : Int32) from nI_lt (b := 32) (by omega) (by decide)), if_pos (ix56 hk).1, (ix56 hk).2, if_pos k1, if_pos k1, k2, nI_1, e]
    dsimp only [mj_lt]
    have go : ∀ v : Int32, (v = if i = c0 then 1 else 0) → ∃ h', g_X7_soon_42 n (nI k) x2 x3 (nI (i + 1)) (mj_wr h 10 i v) = some h' ∧ (∀ b, b ≠ 10 → h' b = h b) ∧ (∀ j, i ≤ j → j < 32 → h' 10 j = if j = c0 then 1 else 0) ∧ ∀ j, j < i → h' 10 j = h 10 j := by
      intro v ev
      obtain ⟨h', q1, q2, q3, q4⟩ := ih (i + 1) (mj_wr h 10 i v) (by rw [wr_ne _ _ (by omega)]; exact e) (by omega) (by omega)
      refine ⟨h', q1, fun b hb => by rw [q2 b hb, wr_ne1 _ _ hb], fun j hj1 hj2 => ?_, fun j hj => by rw [q4 j (by omega), wr_ne _ _ (by omega)]⟩
      by_cases ej : j = i
      · subst ej
        rw [q4 j (by omega), wr_eq]; exact ev
      · exact q3 j (by omega) hj2
    by_cases c : i = c0
    · rw [if_pos (by rw [c])]
      exact go 1 (by rw [if_pos c])
    · rw [if_neg (fun z => c (nI_inj (by omega) (by omega) z))]
      exact go 0 (by rw [if_neg c])
theorem so_103 {x2 x3 x4 : Int32} : ∀ n i h, i ≤ 32 → 32 < i + n → ∃ h', g_X7_soon_103 n x2 x3 x4 (nI i) h = some h' ∧ (∀ b, b ≠ 11 → h' b = h b) ∧ (∀ j, i ≤ j → j < 32 → h' 11 j = 0) ∧ ∀ j, j < i → h' 11 j = h 11 j := by
  intro n
  induction n with
  | zero => intro i h h1 h2; omega
  | succ n ih =>
    intro i h h1 h2
    rw [g_X7_soon_103]
    by_cases hi : i = 32
    · subst hi
      rw [if_neg (by decide)]
      exact ⟨h, rfl, fun _ _ => rfl, fun j _ _ => by omega, fun _ _ => rfl⟩
    obtain ⟨k1, k2⟩ := in32 (show i < 32 by omega)
    rw [if_pos (show nI i < (32 : Int32) from nI_lt (b := 32) (by omega) (by decide)), if_pos k1, k2, nI_1]
    dsimp only [mj_lt]
    obtain ⟨h', q1, q2, q3, q4⟩ := ih (i + 1) (mj_wr h 11 i 0) (by omega) (by omega)
    refine ⟨h', q1, fun b hb => by rw [q2 b hb, wr_ne1 _ _ hb], fun j hj1 hj2 => ?_, fun j hj => by rw [q4 j (by omega), wr_ne _ _ (by omega)]⟩
    by_cases ej : j = i
    · subst ej
      rw [q4 j (by omega), wr_eq]
    · exact q3 j (by omega) hj2
theorem so_210 {x2 x3 x4 : Int32} : ∀ n i h, (∀ j, j < 32 → mj_b (h 11 j) = true) → i ≤ 32 → 32 < i + n → ∃ h', g_X7_soon_210 n x2 x3 x4 (nI i) h = some h' ∧ (∀ b, b ≠ 10 → h' b = h b) ∧ (∀ j, i ≤ j → j < 32 → h' 10 j = h 11 j) ∧ ∀ j, j < i → h' 10 j = h 10 j := by
  intro n
  induction n with
  | zero => intro i h _ h1 h2; omega
  | succ n ih =>
    intro i h hb h1 h2
    rw [g_X7_soon_210]
    by_cases hi : i = 32
    · subst hi
      rw [if_neg (by decide)]
      exact ⟨h, rfl, fun _ _ => rfl, fun j _ _ => by omega, fun _ _ => rfl⟩
    obtain ⟨k1, k2⟩ := in32 (show i < 32 by omega)
    rw [if_pos (show nI i < (32 : Int32) from nI_lt (b := 32) (by omega) (by decide)), if_pos k1, if_pos k1, k2, if_pos (hb i (by omega)), nI_1]
    dsimp only [mj_lt]
    obtain ⟨h', q1, q2, q3, q4⟩ := ih (i + 1) (mj_wr h 10 i (h 11 i)) (fun j hj => by rw [wr_ne _ _ (by omega)]; exact hb j hj) (by omega) (by omega)
    refine ⟨h', q1, fun b hb => by rw [q2 b hb, wr_ne1 _ _ hb], fun j hj1 hj2 => ?_, fun j hj => by rw [q4 j (by omega), wr_ne _ _ (by omega)]⟩
    by_cases ej : j = i
    · subst ej
      rw [q4 j (by omega), wr_eq]
    · rw [q3 j (by omega) hj2, wr_ne _ _ (by omega)]
theorem so_127 {f h0 : mj_I} {k t i kd : Nat} {x x2 : Int32} (H : hs 4 f h0) (hk : k < 5) (hm : nI k < h0 4 50) (et : h0 4 46 = nI t) (hti : t + i < 1100) (kd1 : 1 ≤ kd) (kd2 : kd ≤ 5) (ekd : h0 4 (51 + k) = nI kd) :
    ∀ n c u h, h 4 = h0 4 → sm 10 x h → sm 11 u h → c ≤ 32 → 32 < c + n → ∃ u' h', g_X6_spread_6 n (4 + 4 + k) x (nI (t + i)) u (nI c) f = some u' ∧ g_X7_soon_127 n x2 (nI kd) (nI i) (nI c) h = some h' ∧ sm 11 u' h' ∧ ∀ b, b ≠ 11 → h' b = h b := by
  intro n
  induction n with
  | zero => intro c u h _ _ _ h1 h2; omega
  | succ n ih =>
    intro c u h e4 S10 S11 h1 h2
    rw [g_X6_spread_6, g_X7_soon_127]
    by_cases hc : c = 32
    · subst hc
      rw [if_neg (by decide), if_neg (by decide)]
      exact ⟨u, h, rfl, rfl, S11, fun _ _ => rfl⟩
    have hc32 : c < 32 := by omega
    obtain ⟨k1, k2⟩ := in32 hc32
    have hlt : nI c < (32 : Int32) := nI_lt (b := 32) hc32 (by decide)
    rw [if_pos hlt, if_pos hlt, if_pos k1, k2]
    have hb := bm_t x hc32
    have hs10 := (S10 c hc32).1
    have et' : h 4 46 = nI t := by rw [e4]; exact et
    have ek' : h 4 (51 + k) = nI kd := by rw [e4]; exact ekd
    have hm' : nI k < h 4 50 := by rw [e4]; exact hm
    have H' : hs 4 f h := by
      unfold hs
      rw [e4]; exact H
    by_cases b0 : bm x c = false
    · rw [if_pos (hb.mpr b0), if_pos (hs10.mpr b0), nI_1]
      exact ih (c + 1) u h e4 S10 S11 (by omega) (by omega)
    · rw [if_neg (fun z => b0 (hb.mp z)), if_neg (fun z => b0 (hs10.mp z)), et', nI_add]
      obtain ⟨o, v, hv, w1, w2, w3⟩ := way_in (ht := 0) (z := c) H' hk hm' (by omega) hti hc32
      rw [ek'] at w3
      rw [show nI 0 = (0 : Int32) from rfl] at w1 w3
      obtain ⟨v1, v2⟩ := in32 hv
      rw [w1, w3, Option.bind_some, Option.bind_some, if_pos v1, v2]
      dsimp only [mj_lt]
      rw [w2]
      have S1 := sm_set hv S11
      have kr := (kd_rise kd (by omega) kd1).1
      have d0 : f (4 + 4 + k) 0 = nI kd := by rw [(H.1.2.2.2 k hm hk).1]; exact ekd
      unfold g_X1_canRise g_X7_soon_186
      have e46 : ∀ z : Nat, mj_wr h 11 z 1 4 46 = nI t := fun z => by rw [wr_ne _ _ (by omega)]; exact et'
      rw [d0, e46, nI_add]
      have H1 : hs 4 f (mj_wr h 11 v 1) := by
        unfold hs
        rw [wr_ne1 _ _ (by omega)]; exact H'
      have hm1 : nI k < mj_wr h 11 v 1 4 50 := by rw [wr_ne _ _ (by omega)]; exact hm'
      have ek1 : mj_wr h 11 v 1 4 (51 + k) = nI kd := by rw [wr_ne _ _ (by omega)]; exact ek'
      by_cases r : nI kd < 4
      · have r4 : ¬ nI kd = 4 := fun z => kr.mp (Or.inl z) r
        have r5 : ¬ nI kd = 5 := fun z => kr.mp (Or.inr z) r
        obtain ⟨p, v', hv', y1, y2, y3⟩ := way_in (ht := 1) (z := c) H1 hk hm1 (by omega) hti hc32
        rw [ek1] at y3
        rw [show nI 1 = (1 : Int32) from rfl] at y1 y3
        obtain ⟨v1', v2'⟩ := in32 hv'
        rw [if_neg r4, if_neg r5, if_neg (show ¬ (1 : Int32) = 0 by decide), if_pos r, y1, y3, Option.bind_some, Option.bind_some, if_pos v1', v2', nI_1]
        dsimp only [mj_lt]
        rw [y2]
        obtain ⟨u', h', q1, q2, q3, q4⟩ := ih (c + 1) _ (mj_wr (mj_wr h 11 v 1) 11 v' 1) (by rw [wr_ne1 _ _ (by omega), wr_ne1 _ _ (by omega)]; exact e4) (sm_c S10 (by rw [wr_ne1 _ _ (by omega), wr_ne1 _ _ (by omega)])) (sm_set hv' S1) (by omega) (by omega)
        exact ⟨u', h', q1, q2, q3, fun b hb => by rw [q4 b hb, wr_ne1 _ _ hb, wr_ne1 _ _ hb]⟩
      · obtain ⟨p, v', hv', y1, y2, y3⟩ := way_in (ht := 0) (z := c) H1 hk hm1 (by omega) hti hc32
        rw [ek1] at y3
        rw [show nI 0 = (0 : Int32) from rfl] at y1 y3
        have ep : o = p := Option.some.inj (w1.symm.trans y1)
        have ev : v' = v := nI_inj (by omega) (by omega) (by rw [← y2, ← ep, w2])
        subst ev
        have fin : ∃ u' h', g_X6_spread_6 n (4 + 4 + k) x (nI (t + i)) (u ||| ((1 : Int32) <<< (nI v' &&& 31))) (nI (c + 1)) f = some u' ∧ g_X7_soon_127 n x2 (nI kd) (nI i) (nI (c + 1)) (mj_wr (mj_wr h 11 v' 1) 11 v' 1) = some h' ∧ sm 11 u' h' ∧ ∀ b, b ≠ 11 → h' b = h b := by
          rw [wr_same]
          obtain ⟨u', h', q1, q2, q3, q4⟩ := ih (c + 1) _ (mj_wr h 11 v' 1) (by rw [wr_ne1 _ _ (by omega)]; exact e4) (sm_c S10 (by rw [wr_ne1 _ _ (by omega)])) S1 (by omega) (by omega)
          exact ⟨u', h', q1, q2, q3, fun b hb => by rw [q4 b hb, wr_ne1 _ _ hb]⟩
        rw [if_neg r, y3, Option.bind_some, if_pos v1, v2, nI_1]
        rcases kr.mpr r with r4 | r5
        · rw [if_pos r4, if_pos rfl]
          exact fin
        · rw [if_neg (show ¬ nI kd = 4 by rw [r5]; decide), if_pos r5, if_pos rfl]
          exact fin
theorem so_loop {f h0 : mj_I} {k t kd z : Nat} (H : hs 4 f h0) (hk : k < 5) (hm : nI k < h0 4 50) (et : h0 4 46 = nI t) (ht : t < 1000) (kd1 : 1 ≤ kd) (kd2 : kd ≤ 5) (ekd : h0 4 (51 + k) = nI kd) (hz : z < 32) :
    ∀ n n' i x h, h 4 = h0 4 → sm 10 x h → i ≤ 24 → 25 < i + n → 24 < i + n' → ∃ q h', g_X6_soon_49 n (nI z) (4 + 4 + k) x (nI i) f = some (if h' 10 z = 0 then -1000000 else q) ∧ g_X7_soon_84 n' (nI z) (nI kd) (nI i) h = some (q, h') ∧ ∀ b, b ≠ 10 → b ≠ 11 → h' b = h b := by
  intro n
  induction n with
  | zero => intro n' i x h _ _ h1 h2; omega
  | succ n ih =>
    intro n' i x h e4 S10 h1 h2 h3
    cases n' with
    | zero => omega
    | succ n' =>
      obtain ⟨k1, k2⟩ := in32 hz
      have e5 : f 4 5 = nI t := by rw [H.1.1.2.2.2.2.1]; exact et
      have hb := bm_t x hz
      have hs10 := (S10 z hz).1
      have hnl : ¬ (24 : Int32) < nI i := nI_nlt (a := 24) (b := i) h1 (by decide)
      rw [g_X6_soon_49, g_X7_soon_84, if_neg hnl, if_pos k1, k2, e5, nI_add, nI_1]
      have sp : ∃ u' h1' h2' h3', g_X6_spread (4 + 4 + k) x (nI (t + i)) f = some u' ∧ g_X7_soon_103 mj_fuel (nI z) (nI kd) (nI i) 0 h = some h1' ∧ g_X7_soon_127 mj_fuel (nI z) (nI kd) (nI i) 0 h1' = some h2' ∧ g_X7_soon_210 mj_fuel (nI z) (nI kd) (nI i) 0 h2' = some h3' ∧ sm 10 u' h3' ∧ ∀ b, b ≠ 10 → b ≠ 11 → h3' b = h b := by
        obtain ⟨a1, p1, p2, p3, p4⟩ := so_103 (x2 := nI z) (x3 := nI kd) (x4 := nI i) mj_fuel 0 h (by omega) (by rw [fuel_eq]; omega)
        obtain ⟨u', a2, r1, r2, r3, r4⟩ := so_127 (x := x) (x2 := nI z) H hk hm et (show t + i < 1100 by omega) kd1 kd2 ekd mj_fuel 0 0 a1 (by rw [p2 4 (by omega)]; exact e4) (sm_c S10 (p2 10 (by omega))) (fun j hj => by rw [p3 j (by omega) hj, bm_zero]; exact ⟨⟨fun _ => rfl, fun _ => rfl⟩, rfl⟩) (by omega) (by rw [fuel_eq]; omega)
        obtain ⟨a3, s1, s2, s3, s4⟩ := so_210 (x2 := nI z) (x3 := nI kd) (x4 := nI i) mj_fuel 0 a2 (fun j hj => (r3 j hj).2) (by omega) (by rw [fuel_eq]; omega)
        rw [show nI 0 = (0 : Int32) from rfl] at p1 r1 r2 s1
        refine ⟨u', a1, a2, a3, ?_, p1, r2, s1, fun j hj => by rw [s3 j (by omega) hj]; exact r3 j hj, fun b b10 b11 => by rw [s2 b b10, r4 b b11, p2 b b11]⟩
        unfold g_X6_spread
        rw [r1, Option.bind_some]
      by_cases i24 : i = 24
      · subst i24
        rw [if_neg (show ¬ nI 24 < (24 : Int32) by decide)]
        refine ⟨nI 24, h, ?_, rfl, fun _ _ _ => rfl⟩
        by_cases b0 : bm x z = false
        · obtain ⟨u', _, _, _, q1, _⟩ := sp
          rw [if_pos (hb.mpr b0), q1, Option.bind_some, if_pos (hs10.mpr b0)]
          cases n with
          | zero => omega
          | succ n =>
            rw [g_X6_soon_49, if_pos (show (24 : Int32) < nI (24 + 1) by decide)]
        · rw [if_neg (fun w => b0 (hb.mp w)), if_neg (fun w => b0 (hs10.mp w))]
      · rw [if_pos (show nI i < (24 : Int32) from nI_lt (b := 24) (by omega) (by decide))]
        by_cases b0 : bm x z = false
        · obtain ⟨u', a1, a2, a3, q1, q2, q3, q4, q5, q6⟩ := sp
          rw [if_pos (hb.mpr b0), if_pos (hs10.mpr b0), q1, q2, Option.bind_some, Option.bind_some, q3, Option.bind_some, q4, Option.bind_some]
          obtain ⟨q, h', t1, t2, t3⟩ := ih n' (i + 1) u' a3 (by rw [q6 4 (by omega) (by omega)]; exact e4) q5 (by omega) (by omega) (by omega)
          exact ⟨q, h', t1, t2, fun b b10 b11 => by rw [t3 b b10 b11, q6 b b10 b11]⟩
        · rw [if_neg (fun w => b0 (hb.mp w)), if_neg (fun w => b0 (hs10.mp w))]
          refine ⟨nI i, h, ?_, rfl, fun _ _ _ => rfl⟩
          rw [if_neg (fun w => b0 (hs10.mp w))]
theorem so_rel {f h h' : mj_I} {g : mj_L} (hR : rel f h g) (hb : ∀ b, b ≠ 10 → b ≠ 11 → h' b = h b) : rel f h' g :=
  rel_scr hR (fun _ _ => rfl) (fun _ _ => rfl) hR.2.2.2.2.2.2.2 (fun b k => hb b (by omega) (by omega)) (fun j _ => by rw [hb 0 (by omega) (by omega)]) (by rw [hb 0 (by omega) (by omega)]; exact hR.2.1.1)
theorem sim_soon : ls_soon rel := by
  intro fX fM gM hR x1 x2
  unfold g_X6_soon g_X7_soon g_X6_isCell g_X7_isCell
  rw [iscl_eq hR, in_0_31]
  by_cases c1 : g_X6_isCloud x1 fX = 0
  · rw [if_pos c1, if_pos c1]
    exact ⟨_, _, rfl, rfl, rfl, hR⟩
  rw [if_neg c1, if_neg c1]
  by_cases c3 : g_X6_within x2 0 31 = 0
  · rw [if_pos c3, if_pos c3]
    exact ⟨_, _, rfl, rfl, rfl, hR⟩
  rw [if_neg c3, if_neg c3]
  obtain ⟨k, hk, rfl, hm⟩ := iscl_ex hR c1
  obtain ⟨z, _, hz, rfl⟩ := wi_ex (a := 0) (b := 31) rfl rfl (by decide) c3
  have H := now_hs hR
  have c4' := (H.1.2.2.2 k hm hk).2.2.2.2.1
  have d1 := (H.1.2.2.2 k hm hk).2.1
  obtain ⟨kd, kd1, kd2, ekd⟩ := kd_ex H hk hm
  obtain ⟨c0, hc0, ec0⟩ := mj_in_ex (H.2.1.2.2.2.2 k hm hk).2.1 (by decide)
  obtain ⟨t, htb, et⟩ := mj_in_ex hR.2.2.2.1.2.2.2.1 (by decide)
  rw [if_pos (in5 hk).1, (in5 hk).2, there_step hk, c4', Option.bind_some]
  by_cases g0 : fM 4 (71 + k) = 0
  · rw [if_pos g0, if_pos g0, if_neg (show ¬ (1 : Int32) = 0 by decide), if_pos (ix51 hk).1, (ix51 hk).2]
    dsimp only [mj_lt]
    rw [ekd, d1, ec0]
    obtain ⟨h1, p1, p2, p3, p4⟩ := so_42 (x2 := nI z) (x3 := nI kd) hk hc0 mj_fuel 0 fM ec0 (by omega) (by rw [fuel_eq]; omega)
    rw [show nI 0 = (0 : Int32) from rfl] at p1
    have S : sm 10 ((1 : Int32) <<< (nI c0 &&& 31)) h1 := by
      intro j hj
      rw [p3 j (by omega) hj, bm_one hc0]
      by_cases e : j = c0
      · rw [if_pos e]
        simp [e]
        decide
      · rw [if_neg e]
        simp [e]
        decide
    obtain ⟨q, h2, q1, q2, q3⟩ := so_loop H hk hm et htb kd1 kd2 ekd (show z < 32 by omega) mj_fuel mj_fuel 0 _ h1 (p2 4 (by omega)) S (by omega) (by rw [fuel_eq]; omega) (by rw [fuel_eq]; omega)
    rw [show nI 0 = (0 : Int32) from rfl] at q1 q2
    obtain ⟨k1, k2⟩ := in32 (show z < 32 by omega)
    have R2 : rel fX h2 gM := so_rel hR (fun b b10 b11 => by rw [q3 b b10 b11, p2 b b10])
    rw [q1, p1, Option.bind_some, q2, Option.bind_some, if_pos k1, k2]
    by_cases c : h2 10 z = 0
    · rw [if_pos c, if_pos c]
      exact ⟨_, _, rfl, rfl, rfl, R2⟩
    · rw [if_neg c, if_neg c]
      exact ⟨_, _, rfl, rfl, rfl, R2⟩
  · rw [if_neg g0, if_neg g0, if_pos rfl]
    exact ⟨_, _, rfl, rfl, rfl, hR⟩
