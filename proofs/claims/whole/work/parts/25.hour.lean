/-! AN HOUR on both sides: the herd at cell a of the first memory and the row st of the second -/
theorem wr_row (f : mj_I) (a k : Nat) (v : Int32) : mj_wr f a k v a = upd (f a) k v := by
  funext j
  unfold mj_wr upd
  by_cases h : j = k
  · rw [if_pos h, if_pos ⟨rfl, h⟩]
  · rw [if_neg h, if_neg (fun z => h z.2)]
def hs (a : Nat) (f h : mj_I) : Prop := rl_hr f a (h 4) ∧ rl_hv 1100 (h 4) ∧ ∀ k, k < 5 → mj_b (f (a + 4 + k) 4) = true ∧ mj_b (f (a + 4 + k) 5) = true
def fr (n a : Nat) (f f' h h' : mj_I) : Prop := (∀ b, b < a ∨ a + 8 < b → f' b = f b) ∧ f' a 0 = f a 0 ∧ (∀ b, b ≠ 0 → b ≠ 4 → h' b = h b) ∧ (∀ j, j ≠ 16 → h' 0 j = h 0 j) ∧ ∀ j, j < n ∨ (49 ≤ j ∧ j < 56) ∨ 82 ≤ j → h' 4 j = h 4 j
theorem fr_refl (n a : Nat) (f h : mj_I) : fr n a f f h h := ⟨fun _ _ => rfl, rfl, fun _ _ _ => rfl, fun _ _ => rfl, fun _ _ => rfl⟩
theorem fr_trans {n a : Nat} {f f1 f2 h h1 h2 : mj_I} (p : fr n a f f1 h h1) (q : fr n a f1 f2 h1 h2) : fr n a f f2 h h2 := by
  obtain ⟨p1, p2, p3, p4, p5⟩ := p
  obtain ⟨q1, q2, q3, q4, q5⟩ := q
  exact ⟨fun b hb => (q1 b hb).trans (p1 b hb), q2.trans p2, fun b h0 h4 => (q3 b h0 h4).trans (p3 b h0 h4), fun j hj => (q4 j hj).trans (p4 j hj), fun j hj => (q5 j hj).trans (p5 j hj)⟩
theorem fr_mono {n a : Nat} {f f1 h h1 : mj_I} (p : fr n a f f1 h h1) {m : Nat} (hm : m ≤ n) : fr m a f f1 h h1 := by
  obtain ⟨p1, p2, p3, p4, p5⟩ := p
  exact ⟨p1, p2, p3, p4, fun j hj => p5 j (by omega)⟩
theorem fr_x {n a b j : Nat} {f h : mj_I} {v : Int32} (h1 : a ≤ b) (h2 : b ≤ a + 8) (h3 : ¬ (b = a ∧ j = 0)) : fr n a f (mj_wr f b j v) h h :=
  ⟨fun q hq => wr_ne1 _ _ (by omega), wr_ne _ _ (by omega), fun _ _ _ => rfl, fun _ _ => rfl, fun _ _ => rfl⟩
theorem fr_m {n a q : Nat} {f h : mj_I} {w : Int32} (hq : ¬ (q < n ∨ (49 ≤ q ∧ q < 56) ∨ 82 ≤ q)) : fr n a f f h (mj_wr h 4 q w) :=
  ⟨fun _ _ => rfl, rfl, fun b _ _ => wr_ne1 _ _ (by omega), fun j _ => by rw [wr_ne1 _ _ (by omega)], fun j _ => wr_ne _ _ (by omega)⟩
theorem fr_o {n a : Nat} {f h : mj_I} {w : Int32} : fr n a f f h (mj_wr h 0 16 w) :=
  ⟨fun _ _ => rfl, rfl, fun b _ _ => wr_ne1 _ _ (by omega), fun j _ => wr_ne _ _ (by omega), fun j _ => by rw [wr_ne1 _ _ (by omega)]⟩
theorem hs_o {a : Nat} {f h : mj_I} {w : Int32} (H : hs a f h) : hs a f (mj_wr h 0 16 w) := by
  unfold hs
  rw [wr_ne1 _ _ (by omega)]
  exact H
theorem hs_cell {a k : Nat} {f h : mj_I} {v : Int32} (hk : k < 5) (hv : mj_in v 32 = true) (H : hs a f h) : hs a (mj_wr f (a + 4 + k) 1 v) (mj_wr h 4 (56 + k) v) := by
  obtain ⟨H1, H2, H3⟩ := H
  refine ⟨by rw [wr_row]; exact hr_cell hk H1 v, by rw [wr_row]; exact hv_cell hk H2 hv, fun q hq => ?_⟩
  rw [wr_ne _ _ (by omega), wr_ne _ _ (by omega)]
  exact H3 q hq
theorem hs_water {a k : Nat} {f h : mj_I} {v : Int32} (hk : k < 5) (hv : mj_in v 41 = true) (hg : h 4 (71 + k) ≠ 0 → v = 0) (H : hs a f h) : hs a (mj_wr f (a + 4 + k) 3 v) (mj_wr h 4 (66 + k) v) := by
  obtain ⟨H1, H2, H3⟩ := H
  refine ⟨by rw [wr_row]; exact hr_water hk H1 v, by rw [wr_row]; exact hv_water hk H2 hv hg, fun q hq => ?_⟩
  rw [wr_ne _ _ (by omega), wr_ne _ _ (by omega)]
  exact H3 q hq
theorem hs_gone {a k : Nat} {f h : mj_I} (hk : k < 5) (hg : h 4 (66 + k) = 0) (H : hs a f h) : hs a (mj_wr f (a + 4 + k) 4 1) (mj_wr h 4 (71 + k) 1) := by
  obtain ⟨H1, H2, H3⟩ := H
  refine ⟨by rw [wr_row]; exact hr_gone hk H1 1, by rw [wr_row]; exact hv_gone hk H2 (by decide) (fun _ => hg), fun q hq => ?_⟩
  rw [wr_ne (j := 5) _ _ (by omega)]
  refine ⟨?_, (H3 q hq).2⟩
  by_cases e : q = k
  · subst e; rw [wr_eq]; rfl
  · rw [wr_ne _ _ (by omega)]; exact (H3 q hq).1
theorem hs_fallen {a k : Nat} {f h : mj_I} {v : Int32} (hk : k < 5) (H : hs a f h) : hs a (mj_wr f (a + 4 + k) 6 v) h := by
  obtain ⟨H1, H2, H3⟩ := H
  refine ⟨hr_fallen hk H1 v, H2, fun q hq => ?_⟩
  rw [wr_ne _ _ (by omega), wr_ne _ _ (by omega)]
  exact H3 q hq
theorem hs_run {a : Nat} {f h : mj_I} {v : Int32} (H : hs a f h) : hs a (mj_wr f a 11 v) h := by
  obtain ⟨H1, H2, H3⟩ := H
  refine ⟨hr_run H1 v, H2, fun q hq => ?_⟩
  rw [wr_ne _ _ (by omega), wr_ne _ _ (by omega)]
  exact H3 q hq
theorem hs_hay {a : Nat} {f h : mj_I} {v : Int32} (H : hs a f h) : hs a (mj_wr f a 12 v) h := by
  obtain ⟨H1, H2, H3⟩ := H
  refine ⟨hr_hay H1 v, H2, fun q hq => ?_⟩
  rw [wr_ne _ _ (by omega), wr_ne _ _ (by omega)]
  exact H3 q hq
theorem hs_hour {a : Nat} {f h : mj_I} {v : Int32} (hv : mj_in v 1100 = true) (H : hs a f h) : hs a (mj_wr f a 5 v) (mj_wr h 4 46 v) := by
  obtain ⟨H1, H2, H3⟩ := H
  refine ⟨by rw [wr_row]; exact hr_hour H1 v, by rw [wr_row]; exact hv_hour H2 hv, fun q hq => ?_⟩
  rw [wr_ne _ _ (by omega), wr_ne _ _ (by omega)]
  exact H3 q hq
theorem hs_earned {a : Nat} {f h : mj_I} {v : Int32} (H : hs a f h) : hs a (mj_wr f a 6 v) (mj_wr h 4 47 v) := by
  obtain ⟨H1, H2, H3⟩ := H
  refine ⟨by rw [wr_row]; exact hr_earned H1 v, by rw [wr_row]; exact hv_earned H2, fun q hq => ?_⟩
  rw [wr_ne _ _ (by omega), wr_ne _ _ (by omega)]
  exact H3 q hq
theorem hs_milk {a : Nat} {f h : mj_I} {v : Int32} (H : hs a f h) : hs a (mj_wr f a 7 v) (mj_wr h 4 48 v) := by
  obtain ⟨H1, H2, H3⟩ := H
  refine ⟨by rw [wr_row]; exact hr_milk H1 v, by rw [wr_row]; exact hv_milk H2, fun q hq => ?_⟩
  rw [wr_ne _ _ (by omega), wr_ne _ _ (by omega)]
  exact H3 q hq
/-- indices -/
theorem ix51 {k : Nat} (h : k < 5) : mj_in ((51 : Int32) + nI k) 82 = true ∧ ix ((51 : Int32) + nI k) = 51 + k := by
  rw [show (51 : Int32) + nI k = nI (51 + k) from nI_add 51 k]; exact ⟨mj_in_nI (by omega) (by decide), ix_nI (by omega)⟩
theorem ix56 {k : Nat} (h : k < 5) : mj_in ((56 : Int32) + nI k) 82 = true ∧ ix ((56 : Int32) + nI k) = 56 + k := by
  rw [show (56 : Int32) + nI k = nI (56 + k) from nI_add 56 k]; exact ⟨mj_in_nI (by omega) (by decide), ix_nI (by omega)⟩
theorem ix61 {k : Nat} (h : k < 5) : mj_in ((61 : Int32) + nI k) 82 = true ∧ ix ((61 : Int32) + nI k) = 61 + k := by
  rw [show (61 : Int32) + nI k = nI (61 + k) from nI_add 61 k]; exact ⟨mj_in_nI (by omega) (by decide), ix_nI (by omega)⟩
theorem ix66 {k : Nat} (h : k < 5) : mj_in ((66 : Int32) + nI k) 82 = true ∧ ix ((66 : Int32) + nI k) = 66 + k := by
  rw [show (66 : Int32) + nI k = nI (66 + k) from nI_add 66 k]; exact ⟨mj_in_nI (by omega) (by decide), ix_nI (by omega)⟩
theorem ix71 {k : Nat} (h : k < 5) : mj_in ((71 : Int32) + nI k) 82 = true ∧ ix ((71 : Int32) + nI k) = 71 + k := by
  rw [show (71 : Int32) + nI k = nI (71 + k) from nI_add 71 k]; exact ⟨mj_in_nI (by omega) (by decide), ix_nI (by omega)⟩
theorem ix76 {k : Nat} (h : k < 5) : mj_in ((76 : Int32) + nI k) 82 = true ∧ ix ((76 : Int32) + nI k) = 76 + k := by
  rw [show (76 : Int32) + nI k = nI (76 + k) from nI_add 76 k]; exact ⟨mj_in_nI (by omega) (by decide), ix_nI (by omega)⟩
theorem ix12 {k : Nat} (h : k < 32) : mj_in ((12 : Int32) + nI k) 82 = true ∧ ix ((12 : Int32) + nI k) = 12 + k := by
  rw [show (12 : Int32) + nI k = nI (12 + k) from nI_add 12 k]; exact ⟨mj_in_nI (by omega) (by decide), ix_nI (by omega)⟩
theorem in5 {k : Nat} (h : k < 5) : mj_in (nI k) 5 = true ∧ ix (nI k) = k := ⟨mj_in_nI h (by decide), ix_nI (by omega)⟩
theorem bs_in : ∀ k, k < 32 → ∀ d, d < 5 → mj_in (g_X1_beside (nI k) (nI d)) 32 = true := by decide +kernel
theorem op_ot : ∀ d, d < 5 → g_X1_opposite (nI d) = g_X7_other (nI d) ∧ mj_in (g_X7_other (nI d)) 5 = true := by decide +kernel
theorem hour_ix : ∀ n, n < 1100 → nI n - nI n / 6 * 6 = nI (n % 6) := by decide +kernel
theorem ht_ix : ∀ t, t < 2 → ∀ r, r < 6 → nI t * 6 + nI r = nI (6 * t + r) ∧ 0 + 6 * nI t + nI r = nI (6 * t + r) := by decide +kernel
theorem beside_eq (x y : Int32) : g_X7_beside x y = g_X1_beside x y := rfl
theorem bs_in' {x d : Int32} (h1 : mj_in x 32 = true) (h2 : mj_in d 5 = true) : mj_in (g_X1_beside x d) 32 = true := by
  obtain ⟨k, hk, rfl⟩ := mj_in_ex h1 (by decide)
  obtain ⟨d, hd, rfl⟩ := mj_in_ex h2 (by decide)
  exact bs_in k hk d hd
theorem drift_step {a k : Nat} {f h : mj_I} (hk : k < 5) (hm : nI k < h 4 50) (H : hs a f h) : ∃ v, mj_in v 32 = true ∧ g_X2_driftOne a (a + 4 + k) (f a 5) f = some (mj_wr f (a + 4 + k) 1 v) ∧ g_X7_drift (nI k) h = some (mj_wr h 4 (56 + k) v) := by
  obtain ⟨⟨⟨g0, g1, g2, g3, g4, g5, g6⟩, w, p, c⟩, ⟨v1, v2, v3, v4, v5⟩, _⟩ := H
  obtain ⟨c0, c1, c2, c3, c4, c5⟩ := c k hm hk
  obtain ⟨⟨u0, u0'⟩, u1, u2, u3, u4, u5, u6⟩ := v5 k hm hk
  obtain ⟨t, ht, et⟩ := mj_in_ex u2 (by decide)
  obtain ⟨n, hn, en⟩ := mj_in_ex v2 (by decide)
  have hd := v3 (6 * t + n % 6) (by omega)
  have i1 := hour_ix n hn
  have i2 := ht_ix t ht (n % 6) (by omega)
  have j12 : mj_in (nI (6 * t + n % 6)) 12 = true := mj_in_nI (by omega) (by decide)
  have j82 : mj_in (nI (6 * t + n % 6)) 82 = true := mj_in_nI (by omega) (by decide)
  have jx : ix (nI (6 * t + n % 6)) = 6 * t + n % 6 := ix_nI (by omega)
  have hw := w (6 * t + n % 6) (by omega)
  obtain ⟨d, hd5, ed⟩ := mj_in_ex hd (by decide)
  obtain ⟨o1, o2⟩ := op_ot d hd5
  unfold g_X2_driftOne g_X2_blowing g_X7_drift g_X7_drifts g_X1_driftedFrom
  simp only [mj_lt, c0, c1, c2, g4, et, en, i1, i2, j12, j82, jx, hw, ed, ix51 hk, ix56 hk, ix61 hk, ↓reduceIte, Option.bind_some]
  by_cases k4 : h 4 (51 + k) = 4
  · simp only [k4, ↓reduceIte, Option.bind_some]
    exact ⟨_, u1, rfl, rfl⟩
  by_cases k5 : h 4 (51 + k) = 5
  · simp only [k5, show ¬ (5 : Int32) = 4 by decide, ↓reduceIte, Option.bind_some, o1]
    exact ⟨_, bs_in' u1 o2, rfl, rfl⟩
  simp only [k4, k5, ↓reduceIte, Option.bind_some]
  exact ⟨_, bs_in' u1 (by rw [← ed]; exact hd), rfl, rfl⟩
theorem there_step {k : Nat} {h : mj_I} (hk : k < 5) : g_X7_isThere (nI k) h = some (if h 4 (71 + k) = 0 then 1 else 0) := by
  unfold g_X7_isThere
  simp only [ix71 hk, ↓reduceIte]
  split <;> rfl
theorem drift_loop {m a : Nat} (hm : m ≤ 5) : ∀ n i f h, hs a f h → h 4 50 = nI m → i ≤ m → m < i + n → ∃ f' h', g_X2_driftAll_2 n a (nI i) f = some f' ∧ g_X7_oneHour_7 n (nI i) h = some h' ∧ hs a f' h' ∧ fr 47 a f f' h h' ∧ h' 0 = h 0 := by
  intro n
  induction n with
  | zero => intro i f h _ _ h1 h2; omega
  | succ n ih =>
    intro i f h H hc h1 h2
    have e4 : f a 4 = h 4 50 := H.1.1.2.2.2.1
    unfold g_X2_driftAll_2 g_X7_oneHour_7
    rw [e4, hc]
    by_cases hi : i = m
    · have : ¬ nI i < nI m := nI_nlt (by omega) (by omega)
      rw [if_neg this, if_neg this]
      exact ⟨f, h, rfl, rfl, H, fr_refl _ _ _ _, rfl⟩
    have hlt : nI i < nI m := nI_lt (by omega) (by omega)
    have h5 : i < 5 := by omega
    rw [if_pos hlt, if_pos hlt, there_step h5]
    have c4 : f (a + 4 + i) 4 = h 4 (71 + i) := (H.1.2.2.2 i (by rw [hc]; exact hlt) h5).2.2.2.2.1
    simp only [in5 h5, ↓reduceIte, c4, Option.bind_some]
    by_cases hg : h 4 (71 + i) = 0
    · obtain ⟨v, hv, s1, s2⟩ := drift_step h5 (by rw [hc]; exact hlt) H
      simp only [hg, ↓reduceIte, show ¬ (1 : Int32) = 0 by decide, s1, s2, Option.bind_some, nI_1]
      have F : fr 47 a f (mj_wr f (a + 4 + i) 1 v) h (mj_wr h 4 (56 + i) v) := fr_trans (fr_x (by omega) (by omega) (by omega)) (fr_m (by omega))
      obtain ⟨f', h', r1, r2, r3, r4, r5⟩ := ih (i + 1) _ _ (hs_cell h5 hv H) (by rw [F.2.2.2.2 50 (by omega)]; exact hc) (by omega) (by omega)
      exact ⟨f', h', r1, r2, r3, fr_trans F r4, by rw [r5, wr_ne1 _ _ (by omega)]⟩
    · simp only [hg, ↓reduceIte, nI_1]
      exact ih (i + 1) f h H hc (by omega) (by omega)
