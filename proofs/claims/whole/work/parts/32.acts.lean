/-! hours, lift, rains, undo -/
theorem rel_now {f f' h h' : mj_I} {g : mj_L} (hR : rel f h g) (H : hs 4 f' h') (F : fr 46 4 f f' h h') (hb : mj_in (h' 4 46) 1000 = true) : rel f' h' g := by
  obtain ⟨h1, ⟨h2, h3⟩, h4, h5, h6, h7, h8, h9⟩ := hR
  obtain ⟨k1, k2, k3, k4, k5⟩ := F
  refine ⟨rows_c h1 (fun b _ _ => k1 b (by omega)) (fun b _ _ => k3 b (by omega) (by omega)), ⟨by rw [k1 0 (by omega), k4 3 (by omega)]; exact h2, by rw [k1 0 (by omega), k4 9 (by omega)]; exact h3⟩, tape_c h4 (by rw [k1 2 (by omega)]) (k1 3 (by omega)) (k4 8 (by omega)) (k3 6 (by omega) (by omega)), ⟨by rw [k2, k4 4 (by omega)]; exact h5.1, H.1, H.2.1.1, hb, H.2.1.2.2⟩, acts_c h6 (by rw [k1 24 (by omega)]) (by rw [k1 24 (by omega)]) (k1 25 (by omega)) (k4 18 (by omega)) (k3 8 (by omega) (by omega)) (fun j hj => k5 j (by omega)), imgs_c h7 (fun b _ _ => k1 b (by omega)) (k3 12 (by omega) (by omega)) (k3 13 (by omega) (by omega)) (fun z => by rw [k4 4 (by omega)]; exact z), trace_c h8 (by rw [k1 26 (by omega)]) (k1 27 (by omega)) (k4 28 (by omega)) (k3 14 (by omega) (by omega)), ?_⟩
  intro a ha
  by_cases e : a = 4
  · subst e
    exact ⟨by rw [k2]; exact (h9 4 ha).1, H.2.2⟩
  · have hl : 13 ≤ a := by
      rcases ha with rfl | rfl | rfl | rfl <;> omega
    exact ⟨by rw [k1 a (by omega)]; exact (h9 a ha).1, fun k hk => by rw [k1 (a + 4 + k) (by omega)]; exact (h9 a ha).2 k hk⟩
theorem hours_loop {x : Nat} {g : mj_L} (hx : x < 2 ^ 31) : ∀ n i f h t, rel f h g → h 4 46 = nI t → i ≤ x → x < i + n → t + (x - i) < 1000 → ∃ f' h', g_X6_hours_46 n (nI x) (nI i) f = some f' ∧ g_X7_hours_45 n (nI x) (nI i) h = some h' ∧ rel f' h' g := by
  intro n
  induction n with
  | zero => intro i f h t _ _ h1 h2; omega
  | succ n ih =>
    intro i f h t hR et h1 h2 h3
    unfold g_X6_hours_46 g_X7_hours_45
    by_cases hi : i = x
    · have : ¬ nI i < nI x := nI_nlt (by omega) (by omega)
      rw [if_neg this, if_neg this]
      exact ⟨f, h, rfl, rfl, hR⟩
    have hlt : nI i < nI x := nI_lt (by omega) (by omega)
    rw [if_pos hlt, if_pos hlt]
    obtain ⟨f1, h1', q1, q2, q3, q4, q5, q6⟩ := keep_note hR
    have et1 : h1' 4 46 = nI t := by rw [q5 4 (by omega) (by omega)]; exact et
    obtain ⟨f2, h2', s, r1, r2, _, _, r3, r4, r5⟩ := hour_both (now_hs q3) ⟨t, by omega, et1⟩
    have et2 : h2' 4 46 = nI (t + 1) := by rw [r5, et1, nI_1]
    have hR2 := rel_now q3 r3 r4 (by rw [et2]; exact mj_in_nI (by omega) (by decide))
    rw [q1, q2]
    simp only [Option.bind_some, r1, r2, nI_1]
    exact ih (i + 1) f2 h2' (t + 1) hR2 et2 (by omega) (by omega) (by omega)
theorem sim_hours : ls_hours rel := by
  intro fX fM gM hR x1
  unfold g_X6_hours g_X7_hours
  have e5 : fX 4 5 = fM 4 46 := (now_hs hR).1.1.2.2.2.2.1
  rw [stands_eq hR, in_1_24, e5]
  by_cases c0 : fM 0 4 = 0
  · rw [if_pos c0, if_pos c0]
    exact ⟨_, _, rfl, rfl, rfl, hR⟩
  rw [if_neg c0, if_neg c0]
  by_cases c1 : g_X6_within x1 1 24 = 0
  · rw [if_pos c1, if_pos c1]
    exact ⟨_, _, rfl, rfl, rfl, hR⟩
  rw [if_neg c1, if_neg c1]
  by_cases c2 : (999 : Int32) < fM 4 46 + x1
  · rw [if_pos c2, if_pos c2]
    exact ⟨_, _, rfl, rfl, rfl, hR⟩
  rw [if_neg c2, if_neg c2]
  obtain ⟨x, _, hx, rfl⟩ := wi_ex (a := 1) (b := 24) rfl rfl (by decide) c1
  obtain ⟨t, ht, et⟩ := mj_in_ex hR.2.2.2.1.2.2.2.1 (by decide)
  have ht2 : t + x < 1000 := by
    rw [et, nI_add] at c2
    exact Classical.byContradiction (fun z => c2 (show nI 999 < nI (t + x) from nI_lt (by omega) (by omega)))
  obtain ⟨f', h', r1, r2, r3⟩ := hours_loop (x := x) (by omega) mj_fuel 0 fX fM t hR et (by omega) (by rw [fuel_eq]; omega) (by omega)
  rw [show nI 0 = (0 : Int32) from rfl] at r1 r2
  rw [r1, r2]
  exact ⟨_, _, rfl, rfl, (now_hs r3).1.1.2.2.2.2.2.1, r3⟩
theorem hs_height {a k : Nat} {f h : mj_I} {v : Int32} (hk : k < 5) (hv : mj_in v 2 = true) (H : hs a f h) : hs a (mj_wr f (a + 4 + k) 2 v) (mj_wr h 4 (61 + k) v) := by
  obtain ⟨H1, H2, H3⟩ := H
  refine ⟨by rw [wr_row]; exact hr_height hk H1 v, by rw [wr_row]; exact hv_height hk H2 hv, fun q hq => ?_⟩
  rw [wr_ne _ _ (by omega), wr_ne _ _ (by omega)]
  exact H3 q hq
theorem hs_told {a k : Nat} {f h : mj_I} {v : Int32} (hk : k < 5) (hv : mj_in v 2 = true) (H : hs a f h) : hs a (mj_wr f (a + 4 + k) 5 v) (mj_wr h 4 (76 + k) v) := by
  obtain ⟨H1, H2, H3⟩ := H
  refine ⟨by rw [wr_row]; exact hr_told hk H1 v, by rw [wr_row]; exact hv_told hk H2 hv, fun q hq => ?_⟩
  rw [wr_ne (j := 4) _ _ (by omega)]
  refine ⟨(H3 q hq).1, ?_⟩
  by_cases e : q = k
  · subst e; rw [wr_eq]; exact mj_b_in.mpr hv
  · rw [wr_ne _ _ (by omega)]; exact (H3 q hq).2
theorem wat_up : ∀ p, p < 41 → (if 0 < nI p - 2 then nI p - 2 else 0) = (if nI p - 2 < 0 then 0 else nI p - 2) ∧ mj_in (if nI p - 2 < 0 then 0 else nI p - 2) 41 = true := by decide +kernel
/-- a cloud moved on both sides -/
theorem move_both {a k : Nat} {f h : mj_I} {x : Int32} (hk : k < 5) (hm : nI k < h 4 50) (H : hs a f h) (hx : mj_in x 2 = true) (hg : h 4 (71 + k) = 0) :
    ∃ h', g_X7_setHeight (nI k) x h = some h' ∧ hs a (g_X1_moveTo (a + 4 + k) x f) h' ∧ fr 47 a f (g_X1_moveTo (a + 4 + k) x f) h h' ∧ h' 0 = h 0 := by
  obtain ⟨c0, c1, c2, c3, c4, c5⟩ := H.1.2.2.2 k hm hk
  obtain ⟨wn, hwn, ewn⟩ := mj_in_ex (H.2.1.2.2.2.2 k hm hk).2.2.2.1 (by decide)
  obtain ⟨w1, w2⟩ := wat_up wn hwn
  unfold g_X7_setHeight g_X1_moveTo
  simp only [mj_lt, c2, c3, ix61 hk, ix66 hk, ewn, ↓reduceIte]
  by_cases b : h 4 (61 + k) < x
  · simp only [b, ↓reduceIte]
    rw [w1]
    have A : ∀ v : Int32, mj_in v 41 = true → hs a (mj_wr (mj_wr f (a + 4 + k) 3 v) (a + 4 + k) 2 x) (mj_wr (mj_wr h 4 (66 + k) v) 4 (61 + k) x) ∧ fr 47 a f (mj_wr (mj_wr f (a + 4 + k) 3 v) (a + 4 + k) 2 x) h (mj_wr (mj_wr h 4 (66 + k) v) 4 (61 + k) x) ∧ mj_wr (mj_wr h 4 (66 + k) v) 4 (61 + k) x 0 = h 0 := fun v hv => ⟨hs_height hk hx (hs_water hk hv (fun z => absurd hg z) H), fr_trans (fr_x (by omega) (by omega) (by omega)) (fr_trans (fr_x (by omega) (by omega) (by omega)) (fr_trans (fr_m (by omega)) (fr_m (by omega)))), by rw [wr_ne1 _ _ (by omega), wr_ne1 _ _ (by omega)]⟩
    by_cases d : nI wn - 2 < 0
    · rw [if_pos d] at w2 ⊢
      rw [if_pos d]
      obtain ⟨A1, A2, A3⟩ := A 0 w2
      exact ⟨_, rfl, A1, A2, A3⟩
    · rw [if_neg d] at w2 ⊢
      rw [if_neg d]
      obtain ⟨A1, A2, A3⟩ := A _ w2
      exact ⟨_, rfl, A1, A2, A3⟩
  · simp only [b, ↓reduceIte]
    exact ⟨_, rfl, hs_height hk hx H, fr_trans (fr_x (by omega) (by omega) (by omega)) (fr_m (by omega)), by rw [wr_ne1 _ _ (by omega)]⟩
theorem kd_ex {a k : Nat} {f h : mj_I} (H : hs a f h) (hk : k < 5) (hm : nI k < h 4 50) : ∃ d, 1 ≤ d ∧ d ≤ 5 ∧ h 4 (51 + k) = nI d := by
  obtain ⟨u0, u0'⟩ := (H.2.1.2.2.2.2 k hm hk).1
  obtain ⟨d, hd, ed⟩ := mj_in_ex u0 (by decide)
  refine ⟨d, ?_, by omega, ed⟩
  rcases (show d = 0 ∨ 1 ≤ d by omega) with rfl | h1
  · exact absurd ed u0'
  · exact h1
theorem kd_rise : ∀ d, d < 6 → 1 ≤ d → ((nI d = 4 ∨ nI d = 5) ↔ ¬ nI d < 4) ∧ ((nI d = 1 ∨ nI d = 2) ↔ ¬ 2 < nI d) := by decide +kernel
theorem sim_lift : ls_lift rel := by
  intro fX fM gM hR x1 x2
  unfold g_X6_lift g_X7_lift
  rw [iscl_eq hR, in_0_1]
  by_cases c1 : g_X6_isCloud x1 fX = 0
  · rw [if_pos c1, if_pos c1]
    exact ⟨_, _, rfl, rfl, rfl, hR⟩
  rw [if_neg c1, if_neg c1]
  by_cases c2 : g_X6_within x2 0 1 = 0
  · rw [if_pos c2, if_pos c2]
    exact ⟨_, _, rfl, rfl, rfl, hR⟩
  rw [if_neg c2, if_neg c2]
  obtain ⟨k, hk, rfl, hm⟩ := iscl_ex hR c1
  have hx2 : mj_in x2 2 = true := (wi_in (n := 2) (by decide)).mp c2
  have H := now_hs hR
  obtain ⟨d0, d1, d2, d3, d4, d5⟩ := H.1.2.2.2 k hm hk
  obtain ⟨kd, kd1, kd2, ekd⟩ := kd_ex H hk hm
  have kr := (kd_rise kd (by omega) kd1).1
  unfold g_X1_canRise
  simp only [in5 hk, ix61 hk, ix51 hk, ix66 hk, there_step hk, d0, d2, d4, ↓reduceIte, Option.bind_some, ekd]
  by_cases e1 : fM 4 (61 + k) = x2
  · simp only [e1, ↓reduceIte]
    by_cases g0 : fM 4 (71 + k) = 0
    · rw [if_pos g0]
      simp only [ite_self]
      exact ⟨_, _, rfl, rfl, rfl, hR⟩
    · rw [if_neg g0]
      exact ⟨_, _, rfl, rfl, rfl, hR⟩
  simp only [e1, ↓reduceIte]
  by_cases g0 : fM 4 (71 + k) = 0
  · simp only [g0, ↓reduceIte, show ¬ (1 : Int32) = 0 by decide]
    by_cases r : nI kd < 4
    · have r4 : ¬ nI kd = 4 := fun z => kr.mp (Or.inl z) r
      have r5 : ¬ nI kd = 5 := fun z => kr.mp (Or.inr z) r
      simp only [r, r4, r5, ↓reduceIte, show ¬ (1 : Int32) = 0 by decide]
      obtain ⟨f1, h1, q1, q2, q3, q4, q5, q6⟩ := keep_note hR
      have e4 : h1 4 = fM 4 := q5 4 (by omega) (by omega)
      obtain ⟨h2, s1, s2, s3, s4⟩ := move_both (a := 4) hk (by rw [e4]; exact hm) (now_hs q3) hx2 (by rw [e4]; exact g0)
      have e46 : h2 4 46 = fM 4 46 := by rw [s3.2.2.2.2 46 (by omega), e4]
      have hR2 := rel_now q3 s2 (fr_mono s3 (by omega)) (by rw [e46]; exact hR.2.2.2.1.2.2.2.1)
      rw [q1, q2]
      simp only [Option.bind_some, s1, mj_lt]
      refine ⟨_, _, rfl, rfl, ?_, hR2⟩
      exact ((now_hs hR2).1.2.2.2 k (by rw [s3.2.2.2.2 50 (by omega), e4]; exact hm) hk).2.2.2.1
    · simp only [r, ↓reduceIte]
      rcases kr.mpr r with r4 | r5
      · simp only [r4, ↓reduceIte]
        exact ⟨_, _, rfl, rfl, rfl, hR⟩
      · simp only [r5, show ¬ (5 : Int32) = 4 by decide, ↓reduceIte]
        exact ⟨_, _, rfl, rfl, rfl, hR⟩
  · simp only [g0, ↓reduceIte]
    exact ⟨_, _, rfl, rfl, rfl, hR⟩
theorem sim_rains : ls_rains rel := by
  intro fX fM gM hR x1 x2
  unfold g_X6_rains g_X7_rains
  rw [iscl_eq hR, in_0_1]
  by_cases c1 : g_X6_isCloud x1 fX = 0
  · rw [if_pos c1, if_pos c1]
    exact ⟨_, _, rfl, rfl, rfl, hR⟩
  rw [if_neg c1, if_neg c1]
  by_cases c2 : g_X6_within x2 0 1 = 0
  · rw [if_pos c2, if_pos c2]
    exact ⟨_, _, rfl, rfl, rfl, hR⟩
  rw [if_neg c2, if_neg c2]
  obtain ⟨k, hk, rfl, hm⟩ := iscl_ex hR c1
  have hx2 : mj_in x2 2 = true := (wi_in (n := 2) (by decide)).mp c2
  have H := now_hs hR
  obtain ⟨d0, d1, d2, d3, d4, d5⟩ := H.1.2.2.2 k hm hk
  obtain ⟨kd, kd1, kd2, ekd⟩ := kd_ex H hk hm
  have kr := (kd_rise kd (by omega) kd1).2
  have u5 := (H.2.1.2.2.2.2 k hm hk).2.2.2.2.2.1
  obtain ⟨f1, h1, q1, q2, q3, q4, q5, q6⟩ := keep_note hR
  have e4 : h1 4 = fM 4 := q5 4 (by omega) (by omega)
  have X56 : g_X6_rains_56 x2 (4 + 4 + k) fX = some (fM 4 (76 + k), mj_wr f1 (4 + 4 + k) 5 x2) := by
    unfold g_X6_rains_56
    rw [q1, d5, bit_in u5]
    simp only [mj_lt, Option.bind_some]
    obtain ⟨y, hy, rfl⟩ := mj_in_ex hx2 (by decide)
    rcases (show y = 0 ∨ y = 1 by omega) with rfl | rfl
    · rw [if_neg (by decide)]; rfl
    · rw [if_pos (by decide)]; rfl
  simp only [in5 hk, ix76 hk, ix51 hk, there_step hk, d0, d4, ↓reduceIte, Option.bind_some, ekd, X56]
  by_cases g0 : fM 4 (71 + k) = 0
  · simp only [g0, ↓reduceIte, show ¬ (1 : Int32) = 0 by decide]
    by_cases r : 2 < nI kd
    · have r1 : ¬ nI kd = 1 := fun z => kr.mp (Or.inl z) r
      have r2 : ¬ nI kd = 2 := fun z => kr.mp (Or.inr z) r
      simp only [r, r1, r2, ↓reduceIte]
      exact ⟨_, _, rfl, rfl, rfl, hR⟩
    · simp only [r, ↓reduceIte]
      rw [q2]
      simp only [Option.bind_some, mj_lt]
      have S := hs_told (a := 4) hk hx2 (now_hs q3)
      have F : fr 46 4 f1 (mj_wr f1 (4 + 4 + k) 5 x2) h1 (mj_wr h1 4 (76 + k) x2) := fr_trans (fr_x (by omega) (by omega) (by omega)) (fr_m (by omega))
      have hR2 := rel_now q3 S F (by rw [wr_ne _ _ (by omega), e4]; exact hR.2.2.2.1.2.2.2.1)
      have key : fM 4 (76 + k) = h1 4 (76 + k) := by rw [e4]
      rcases kr.mpr r with r1 | r2
      · rw [if_pos r1]
        exact ⟨_, _, rfl, rfl, key, hR2⟩
      · by_cases r1 : nI kd = 1
        · rw [if_pos r1]
          exact ⟨_, _, rfl, rfl, key, hR2⟩
        · rw [if_neg r1, if_pos r2]
          exact ⟨_, _, rfl, rfl, key, hR2⟩
  · simp only [g0, ↓reduceIte]
    exact ⟨_, _, rfl, rfl, rfl, hR⟩
