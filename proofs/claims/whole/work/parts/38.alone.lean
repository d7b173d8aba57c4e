/-! one cloud alone: the loner of the first memory (cell 22), the same cloud of st in the second -/
def tb (f h f' h' : mj_I) : Prop := (∀ b, b < 13 ∨ 23 ≤ b → f' b = f b) ∧ rl_bool f' ∧
  (∀ b, (1 ≤ b ∧ b < 4) ∨ b = 6 ∨ b = 8 ∨ (12 ≤ b ∧ b < 15) → h' b = h b) ∧ (∀ j, j = 3 ∨ j = 4 ∨ j = 8 ∨ j = 9 ∨ j = 18 ∨ j = 28 → h' 0 j = h 0 j) ∧
  (∀ j, j < 82 → h' 9 j = h 4 j) ∧ (∀ j, 82 ≤ j → h' 4 j = h 4 j)
theorem tb_back {f h f' h' : mj_I} {g : mj_L} (hR : rel f h g) (T : tb f h f' h') : ∃ h2, g_X7_takeBack h' = some h2 ∧ rel f' h2 g ∧ h2 4 = h 4 ∧ ∀ b, b ≠ 4 → h2 b = h' b := by
  obtain ⟨T2, T3, T4, T5, T6, T7⟩ := T
  obtain ⟨h2, p1, p2, p3, p4⟩ := back_loop mj_fuel 0 h' (by omega) (by rw [fuel_eq]; omega)
  have e4 : h2 4 = h 4 := by
    funext j
    by_cases hj : j < 82
    · rw [p3 j (by omega) hj]; exact T6 j hj
    · rw [p4 j (by omega)]; exact T7 j (by omega)
  refine ⟨h2, ?_, rel_scr hR (fun b hb => T2 b (by omega)) (fun j _ => by rw [T2 0 (by omega)]) T3 ?_ (fun j hj => by rw [p2 0 (by omega)]; exact T5 j (by omega)) ?_, e4, p2⟩
  · unfold g_X7_takeBack
    rw [show (0 : Int32) = nI 0 from rfl, p1]
    rfl
  · intro b hb
    by_cases e : b = 4
    · subst e; exact e4
    · rw [p2 b e]; exact T4 b (by omega)
  · rw [p2 0 (by omega), T5 3 (by omega), T2 0 (by omega)]
    exact hR.2.1.1
theorem aside_ok (h : mj_I) : ∃ h1, g_X7_putAside h = some h1 ∧ (∀ b, b ≠ 9 → h1 b = h b) ∧ ∀ j, j < 82 → h1 9 j = h 4 j := by
  obtain ⟨h1, p1, p2, p3, p4⟩ := aside_loop mj_fuel 0 h (by omega) (by rw [fuel_eq]; omega)
  refine ⟨h1, ?_, p2, fun j hj => p3 j (by omega) hj⟩
  unfold g_X7_putAside
  rw [show (0 : Int32) = nI 0 from rfl, p1]
  rfl
/-- the loner and its row -/
def lo (k : Nat) (f h : mj_I) : Prop := rl_hv 1100 (h 4) ∧ (nI k < h 4 50 ∧ h 4 (71 + k) = 0) ∧ ((∀ j, j < 12 → f 5 j = h 4 j) ∧ (∀ j, j < 32 → f 6 j = h 4 (12 + j)) ∧ f 4 1 = h 4 44 ∧ f 4 2 = h 4 45) ∧
  f 22 0 = h 4 (51 + k) ∧ f 22 1 = h 4 (56 + k) ∧ f 22 2 = h 4 (61 + k) ∧ f 22 3 = h 4 (66 + k) ∧ f 22 5 = h 4 (76 + k)
def lf (f f' h h' : mj_I) : Prop := (∀ b, b ≠ 22 → f' b = f b) ∧ (∀ b, b ≠ 0 → b ≠ 4 → h' b = h b) ∧ (∀ j, j ≠ 16 → h' 0 j = h 0 j) ∧ ∀ j, j < 47 ∨ (49 ≤ j ∧ j < 56) ∨ 82 ≤ j → h' 4 j = h 4 j
theorem lf_refl (f h : mj_I) : lf f f h h := ⟨fun _ _ => rfl, fun _ _ _ => rfl, fun _ _ => rfl, fun _ _ => rfl⟩
theorem lf_trans {f f1 f2 h h1 h2 : mj_I} (p : lf f f1 h h1) (q : lf f1 f2 h1 h2) : lf f f2 h h2 :=
  ⟨fun b hb => (q.1 b hb).trans (p.1 b hb), fun b h0 h4 => (q.2.1 b h0 h4).trans (p.2.1 b h0 h4), fun j hj => (q.2.2.1 j hj).trans (p.2.2.1 j hj), fun j hj => (q.2.2.2 j hj).trans (p.2.2.2 j hj)⟩
theorem lf_x {f h : mj_I} {j : Nat} {v : Int32} : lf f (mj_wr f 22 j v) h h := ⟨fun b hb => wr_ne1 _ _ hb, fun _ _ _ => rfl, fun _ _ => rfl, fun _ _ => rfl⟩
theorem lf_m {f h : mj_I} {q : Nat} {v : Int32} (hq : ¬ (q < 47 ∨ (49 ≤ q ∧ q < 56) ∨ 82 ≤ q)) : lf f f h (mj_wr h 4 q v) := ⟨fun _ _ => rfl, fun b _ _ => wr_ne1 _ _ (by omega), fun j _ => by rw [wr_ne1 _ _ (by omega)], fun j _ => wr_ne _ _ (by omega)⟩
theorem lf_o {f h : mj_I} {v : Int32} : lf f f h (mj_wr h 0 16 v) := ⟨fun _ _ => rfl, fun b _ _ => wr_ne1 _ _ (by omega), fun j _ => wr_ne _ _ (by omega), fun j _ => by rw [wr_ne1 _ _ (by omega)]⟩
theorem lo_o {k : Nat} {f h : mj_I} {v : Int32} (L : lo k f h) : lo k f (mj_wr h 0 16 v) := by
  unfold lo
  rw [wr_ne1 _ _ (by omega)]
  exact L
/-- a write of the second that the loner doesn't see -/
theorem lo_mf {k q : Nat} {f h : mj_I} {v : Int32} (hk : k < 5) (hq : q = 47 ∨ q = 48) (L : lo k f h) : lo k f (mj_wr h 4 q v) := by
  obtain ⟨v1, ⟨l1, l2⟩, ⟨l3, l4, l5, l6⟩, c0, c1, c2, c3, c5⟩ := L
  refine ⟨?_, ⟨by rw [wr_ne _ _ (by omega)]; exact l1, by rw [wr_ne _ _ (by omega)]; exact l2⟩, ⟨fun j hj => by rw [wr_ne _ _ (by omega)]; exact l3 j hj, fun j hj => by rw [wr_ne _ _ (by omega)]; exact l4 j hj, by rw [wr_ne _ _ (by omega)]; exact l5, by rw [wr_ne _ _ (by omega)]; exact l6⟩, by rw [wr_ne _ _ (by omega)]; exact c0, by rw [wr_ne _ _ (by omega)]; exact c1, by rw [wr_ne _ _ (by omega)]; exact c2, by rw [wr_ne _ _ (by omega)]; exact c3, by rw [wr_ne _ _ (by omega)]; exact c5⟩
  rw [wr_row]
  rcases hq with rfl | rfl
  · exact hv_earned v1
  · exact hv_milk v1
theorem lo_hour {k : Nat} {f h : mj_I} {v : Int32} (hk : k < 5) (hv : mj_in v 1100 = true) (L : lo k f h) : lo k f (mj_wr h 4 46 v) := by
  obtain ⟨v1, ⟨l1, l2⟩, ⟨l3, l4, l5, l6⟩, c0, c1, c2, c3, c5⟩ := L
  refine ⟨?_, ⟨by rw [wr_ne _ _ (by omega)]; exact l1, by rw [wr_ne _ _ (by omega)]; exact l2⟩, ⟨fun j hj => by rw [wr_ne _ _ (by omega)]; exact l3 j hj, fun j hj => by rw [wr_ne _ _ (by omega)]; exact l4 j hj, by rw [wr_ne _ _ (by omega)]; exact l5, by rw [wr_ne _ _ (by omega)]; exact l6⟩, by rw [wr_ne _ _ (by omega)]; exact c0, by rw [wr_ne _ _ (by omega)]; exact c1, by rw [wr_ne _ _ (by omega)]; exact c2, by rw [wr_ne _ _ (by omega)]; exact c3, by rw [wr_ne _ _ (by omega)]; exact c5⟩
  rw [wr_row]
  exact hv_hour v1 hv
theorem lo_xf {k : Nat} {f h : mj_I} {v : Int32} (L : lo k f h) : lo k (mj_wr f 22 6 v) h := by
  obtain ⟨v1, l1, ⟨l3, l4, l5, l6⟩, c0, c1, c2, c3, c5⟩ := L
  exact ⟨v1, l1, ⟨fun j hj => by rw [wr_ne _ _ (by omega)]; exact l3 j hj, fun j hj => by rw [wr_ne _ _ (by omega)]; exact l4 j hj, by rw [wr_ne _ _ (by omega)]; exact l5, by rw [wr_ne _ _ (by omega)]; exact l6⟩, by rw [wr_ne _ _ (by omega)]; exact c0, by rw [wr_ne _ _ (by omega)]; exact c1, by rw [wr_ne _ _ (by omega)]; exact c2, by rw [wr_ne _ _ (by omega)]; exact c3, by rw [wr_ne _ _ (by omega)]; exact c5⟩
theorem lo_cell {k : Nat} {f h : mj_I} {v : Int32} (hk : k < 5) (hv : mj_in v 32 = true) (L : lo k f h) : lo k (mj_wr f 22 1 v) (mj_wr h 4 (56 + k) v) := by
  obtain ⟨v1, ⟨l1, l2⟩, ⟨l3, l4, l5, l6⟩, c0, c1, c2, c3, c5⟩ := L
  refine ⟨by rw [wr_row]; exact hv_cell hk v1 hv, ⟨by rw [wr_ne _ _ (by omega)]; exact l1, by rw [wr_ne _ _ (by omega)]; exact l2⟩, ⟨fun j hj => by rw [wr_ne _ _ (by omega), wr_ne _ _ (by omega)]; exact l3 j hj, fun j hj => by rw [wr_ne _ _ (by omega), wr_ne _ _ (by omega)]; exact l4 j hj, by rw [wr_ne _ _ (by omega), wr_ne _ _ (by omega)]; exact l5, by rw [wr_ne _ _ (by omega), wr_ne _ _ (by omega)]; exact l6⟩, by rw [wr_ne _ _ (by omega), wr_ne _ _ (by omega)]; exact c0, by rw [wr_eq, wr_eq], by rw [wr_ne _ _ (by omega), wr_ne _ _ (by omega)]; exact c2, by rw [wr_ne _ _ (by omega), wr_ne _ _ (by omega)]; exact c3, by rw [wr_ne _ _ (by omega), wr_ne _ _ (by omega)]; exact c5⟩
theorem lo_height {k : Nat} {f h : mj_I} {v : Int32} (hk : k < 5) (hv : mj_in v 2 = true) (L : lo k f h) : lo k (mj_wr f 22 2 v) (mj_wr h 4 (61 + k) v) := by
  obtain ⟨v1, ⟨l1, l2⟩, ⟨l3, l4, l5, l6⟩, c0, c1, c2, c3, c5⟩ := L
  refine ⟨by rw [wr_row]; exact hv_height hk v1 hv, ⟨by rw [wr_ne _ _ (by omega)]; exact l1, by rw [wr_ne _ _ (by omega)]; exact l2⟩, ⟨fun j hj => by rw [wr_ne _ _ (by omega), wr_ne _ _ (by omega)]; exact l3 j hj, fun j hj => by rw [wr_ne _ _ (by omega), wr_ne _ _ (by omega)]; exact l4 j hj, by rw [wr_ne _ _ (by omega), wr_ne _ _ (by omega)]; exact l5, by rw [wr_ne _ _ (by omega), wr_ne _ _ (by omega)]; exact l6⟩, by rw [wr_ne _ _ (by omega), wr_ne _ _ (by omega)]; exact c0, by rw [wr_ne _ _ (by omega), wr_ne _ _ (by omega)]; exact c1, by rw [wr_eq, wr_eq], by rw [wr_ne _ _ (by omega), wr_ne _ _ (by omega)]; exact c3, by rw [wr_ne _ _ (by omega), wr_ne _ _ (by omega)]; exact c5⟩
theorem lo_water {k : Nat} {f h : mj_I} {v : Int32} (hk : k < 5) (hv : mj_in v 41 = true) (L : lo k f h) : lo k (mj_wr f 22 3 v) (mj_wr h 4 (66 + k) v) := by
  obtain ⟨v1, ⟨l1, l2⟩, ⟨l3, l4, l5, l6⟩, c0, c1, c2, c3, c5⟩ := L
  refine ⟨by rw [wr_row]; exact hv_water hk v1 hv (fun z => absurd l2 z), ⟨by rw [wr_ne _ _ (by omega)]; exact l1, by rw [wr_ne _ _ (by omega)]; exact l2⟩, ⟨fun j hj => by rw [wr_ne _ _ (by omega), wr_ne _ _ (by omega)]; exact l3 j hj, fun j hj => by rw [wr_ne _ _ (by omega), wr_ne _ _ (by omega)]; exact l4 j hj, by rw [wr_ne _ _ (by omega), wr_ne _ _ (by omega)]; exact l5, by rw [wr_ne _ _ (by omega), wr_ne _ _ (by omega)]; exact l6⟩, by rw [wr_ne _ _ (by omega), wr_ne _ _ (by omega)]; exact c0, by rw [wr_ne _ _ (by omega), wr_ne _ _ (by omega)]; exact c1, by rw [wr_ne _ _ (by omega), wr_ne _ _ (by omega)]; exact c2, by rw [wr_eq, wr_eq], by rw [wr_ne _ _ (by omega), wr_ne _ _ (by omega)]; exact c5⟩
theorem drift_lo {k : Nat} {f h : mj_I} (hk : k < 5) (L : lo k f h) : ∃ v, mj_in v 32 = true ∧ g_X2_driftOne 4 22 (h 4 46) f = some (mj_wr f 22 1 v) ∧ g_X7_drift (nI k) h = some (mj_wr h 4 (56 + k) v) := by
  obtain ⟨⟨v1, v2, v3, v4, v5⟩, ⟨hm, l2⟩, ⟨w, l4, l5, l6⟩, c0, c1, c2, c3, c5⟩ := L
  obtain ⟨⟨u0, u0'⟩, u1, u2, u3, u4, u5, u6⟩ := v5 k hm hk
  obtain ⟨t, ht, et⟩ := mj_in_ex u2 (by decide)
  obtain ⟨n, hn, en⟩ := mj_in_ex v2 (by decide)
  have hd := v3 (6 * t + n % 6) (by omega)
  have i1 := hour_ix n hn
  have i2 := ht_ix t ht (n % 6) (by omega)
  have j12 : mj_in (nI (6 * t + n % 6)) 12 = true := mj_in_nI (by omega) (by decide)
  have j82 : mj_in (nI (6 * t + n % 6)) 82 = true := mj_in_nI (by omega) (by decide)
  have jx : ix (nI (6 * t + n % 6)) = 6 * t + n % 6 := ix_nI (by omega)
  have hw : f (4 + 1) (6 * t + n % 6) = h 4 (6 * t + n % 6) := w (6 * t + n % 6) (by omega)
  obtain ⟨d, hd5, ed⟩ := mj_in_ex hd (by decide)
  obtain ⟨o1, o2⟩ := op_ot d hd5
  unfold g_X2_driftOne g_X2_blowing g_X7_drift g_X7_drifts g_X1_driftedFrom
  simp only [mj_lt, c0, c1, c2, et, en, i1, i2, j12, j82, jx, hw, ed, ix51 hk, ix56 hk, ix61 hk, ↓reduceIte, Option.bind_some]
  by_cases k4 : h 4 (51 + k) = 4
  · simp only [k4, ↓reduceIte, Option.bind_some]
    exact ⟨_, u1, rfl, rfl⟩
  by_cases k5 : h 4 (51 + k) = 5
  · simp only [k5, show ¬ (5 : Int32) = 4 by decide, ↓reduceIte, Option.bind_some, o1]
    exact ⟨_, bs_in' u1 o2, rfl, rfl⟩
  simp only [k4, k5, ↓reduceIte, Option.bind_some]
  exact ⟨_, bs_in' u1 (by rw [← ed]; exact hd), rfl, rfl⟩
theorem pour_lo {k : Nat} {f h : mj_I} (hk : k < 5) (L : lo k f h) {z : Nat} (hz : z < 32) (ez : h 4 (56 + k) = nI z) :
    g_X7_rainOf (nI k) h = some (if g_X1_pouring 22 (h 4 (12 + z)) f < h 4 (66 + k) then g_X1_pouring 22 (h 4 (12 + z)) f else h 4 (66 + k)) := by
  obtain ⟨⟨v1, v2, v3, v4, v5⟩, ⟨hm, l2⟩, ⟨w, l4, l5, l6⟩, c0, c1, c2, c3, c5⟩ := L
  obtain ⟨⟨u0, u0'⟩, u1, u2, u3, u4, u5, u6⟩ := v5 k hm hk
  unfold g_X7_rainOf g_X1_pouring
  simp only [mj_lt, c0, c2, c5, ez, ix51 hk, ix56 hk, ix61 hk, ix76 hk, ix12 hz, ↓reduceIte, rain_89 hk]
  obtain ⟨kd, hkd, ekd⟩ := mj_in_ex u0 (by decide)
  obtain ⟨td, htd, etd⟩ := mj_in_ex u5 (by decide)
  rw [ekd] at u0' ⊢
  rw [etd]
  rcases (show kd = 0 ∨ kd = 1 ∨ kd = 2 ∨ kd = 3 ∨ kd = 4 ∨ kd = 5 by omega) with rfl | rfl | rfl | rfl | rfl | rfl
  · exact absurd rfl u0'
  · simp only [show nI 1 = (1 : Int32) from rfl, ↓reduceIte]
    by_cases q1 : h 4 (12 + z) = 1
    · simp only [q1, ↓reduceIte]
      rcases (show td = 0 ∨ td = 1 by omega) with rfl | rfl
      · simp only [show nI 0 = (0 : Int32) from rfl, ↓reduceIte]
      · simp only [show nI 1 = (1 : Int32) from rfl, show ¬ (1 : Int32) = 0 by decide, ↓reduceIte]
    · simp only [q1, ↓reduceIte]
  · simp only [show ¬ nI 2 = (1 : Int32) by decide, show nI 2 = (2 : Int32) from rfl, show ¬ (2 : Int32) = 1 by decide, ↓reduceIte]
  · simp only [show nI 3 = (3 : Int32) from rfl, show ¬ (3 : Int32) = 1 by decide, show ¬ (3 : Int32) = 2 by decide, ↓reduceIte]
  · simp only [show nI 4 = (4 : Int32) from rfl, show ¬ (4 : Int32) = 1 by decide, show ¬ (4 : Int32) = 2 by decide, show ¬ (4 : Int32) = 3 by decide, ↓reduceIte]
    by_cases q1 : h 4 (61 + k) = 0
    · simp only [q1, ↓reduceIte]
    · simp only [q1, ↓reduceIte]
  · simp only [show nI 5 = (5 : Int32) from rfl, show ¬ (5 : Int32) = 1 by decide, show ¬ (5 : Int32) = 2 by decide, show ¬ (5 : Int32) = 3 by decide, show ¬ (5 : Int32) = 4 by decide, ↓reduceIte]
    by_cases q1 : h 4 (61 + k) = 0
    · simp only [q1, ↓reduceIte]
    · simp only [q1, ↓reduceIte]
theorem rain_lo {k : Nat} {f h : mj_I} (hk : k < 5) (L : lo k f h) : ∃ d x f1 h1, g_X2_rainOne 4 22 f = some (d, f1) ∧ g_X7_rain (nI k) h = some (x, h1) ∧ lo k f1 h1 ∧ lf f f1 h h1 ∧ h1 4 47 = h 4 47 + d ∧ f1 22 6 = x := by
  have L0 := L
  obtain ⟨⟨v1, v2, v3, v4, v5⟩, ⟨hm, l2⟩, ⟨w, p, l5, l6⟩, c0, c1, c2, c3, c5⟩ := L
  obtain ⟨⟨u0, u0'⟩, u1, u2, u3, u4, u5, u6⟩ := v5 k hm hk
  obtain ⟨z, hz, ez⟩ := mj_in_ex u1 (by decide)
  have ro := pour_lo hk L0 hz ez
  obtain ⟨q, hq, eq⟩ := pour_in 22 (h 4 (12 + z)) f
  obtain ⟨wn, hwn, ewn⟩ := mj_in_ex u3 (by decide)
  rw [eq] at ro
  have wd := wat_dif wn hwn q hq
  rw [← ewn] at wd
  have z32 : mj_in (nI z) 32 = true := mj_in_nI hz (by decide)
  have zx : ix (nI z) = z := ix_nI (by omega)
  have pz : f (4 + 2) z = h 4 (12 + z) := p z hz
  obtain ⟨am, eam⟩ : ∃ am, am = (if nI q < h 4 (66 + k) then nI q else h 4 (66 + k)) := ⟨_, rfl⟩
  rw [← eam] at ro wd
  have w1 : ∀ v v' : Int32, mj_wr (mj_wr f 22 6 v) 22 3 v' 4 = f 4 := fun v v' => by rw [wr_ne1 _ _ (by omega), wr_ne1 _ _ (by omega)]
  have w6 : ∀ v v' : Int32, mj_wr (mj_wr f 22 6 v) 22 3 v' 22 6 = v := fun v v' => by rw [wr_ne _ _ (by omega), wr_eq]
  have w7 : ∀ v : Int32, mj_wr f 22 6 v 22 3 = h 4 (66 + k) := fun v => by rw [wr_ne _ _ (by omega), c3]
  have w8 : ∀ v : Int32, mj_wr f 22 6 v 22 6 = v := fun v => by rw [wr_eq]
  have y1 : ∀ v : Int32, mj_wr h 4 (66 + k) v 4 47 = h 4 47 := fun v => wr_ne _ _ (by omega)
  have y2 : ∀ v : Int32, mj_wr h 4 (66 + k) v 4 44 = h 4 44 := fun v => wr_ne _ _ (by omega)
  have y3 : ∀ v : Int32, mj_wr h 4 (66 + k) v 4 45 = h 4 45 := fun v => wr_ne _ _ (by omega)
  have y4 : ∀ v : Int32, mj_wr h 4 (66 + k) v 0 16 = h 0 16 := fun v => wr_ne _ _ (by omega)
  unfold g_X2_rainOne g_X1_rainOver g_X7_rain
  simp only [mj_lt, c1, ez, z32, zx, pz, eq, c3, ← eam, w8, w7, w6, w1, l5, l6, ↓reduceIte, ro, Option.bind_some, ix56 hk, ix12 hz, ix66 hk, rain_81, y1, y2, y3, y4]
  have mk : ∀ d b : Int32, lo k (mj_wr (mj_wr f 22 6 am) 22 3 (h 4 (66 + k) - am)) (mj_wr (mj_wr (mj_wr h 4 (66 + k) (h 4 (66 + k) - am)) 4 47 (h 4 47 + d)) 0 16 (h 0 16 + b)) ∧ lf f (mj_wr (mj_wr f 22 6 am) 22 3 (h 4 (66 + k) - am)) h (mj_wr (mj_wr (mj_wr h 4 (66 + k) (h 4 (66 + k) - am)) 4 47 (h 4 47 + d)) 0 16 (h 0 16 + b)) ∧ mj_wr (mj_wr (mj_wr h 4 (66 + k) (h 4 (66 + k) - am)) 4 47 (h 4 47 + d)) 0 16 (h 0 16 + b) 4 47 = h 4 47 + d ∧ mj_wr (mj_wr f 22 6 am) 22 3 (h 4 (66 + k) - am) 22 6 = am := by
    intro d b
    exact ⟨lo_o (lo_mf hk (Or.inl rfl) (lo_water hk wd (lo_xf L0))), lf_trans lf_x (lf_trans lf_x (lf_trans (lf_m (by omega)) (lf_trans (lf_m (by omega)) lf_o))), by rw [wr_ne _ _ (by omega), wr_eq], w6 _ _⟩
  by_cases k1 : h 4 (12 + z) = 1
  · simp only [k1, show ¬ (1 : Int32) = 2 by decide, ↓reduceIte, Int32.mul_comm am]
    exact ⟨_, _, _, _, rfl, rfl, mk _ _⟩
  · by_cases k2 : h 4 (12 + z) = 2
    · simp only [k2, show ¬ (2 : Int32) = 1 by decide, ↓reduceIte, neg_mul2 am]
      exact ⟨_, _, _, _, rfl, rfl, mk _ _⟩
    · simp only [k1, k2, ↓reduceIte]
      exact ⟨_, _, _, _, rfl, rfl, mk _ _⟩
theorem milk_lo {k : Nat} {f h : mj_I} (hk : k < 5) (L : lo k f h) : ∃ d f1 h1, g_X2_milkOne 4 22 f = some (d, f1) ∧ g_X7_milk (nI k) h = some h1 ∧ lo k f1 h1 ∧ lf f f1 h h1 ∧ h1 4 47 = h 4 47 ∧ f1 22 6 = f 22 6 := by
  have L0 := L
  obtain ⟨⟨v1, v2, v3, v4, v5⟩, ⟨hm, l2⟩, ⟨w, p, l5, l6⟩, c0, c1, c2, c3, c5⟩ := L
  obtain ⟨⟨u0, u0'⟩, u1, u2, u3, u4, u5, u6⟩ := v5 k hm hk
  obtain ⟨z, hz, ez⟩ := mj_in_ex u1 (by decide)
  obtain ⟨wn, hwn, ewn⟩ := mj_in_ex u3 (by decide)
  obtain ⟨w1, w2⟩ := w41 wn hwn
  have z32 : mj_in (nI z) 32 = true := mj_in_nI hz (by decide)
  have zx : ix (nI z) = z := ix_nI (by omega)
  have pz : f (4 + 2) z = h 4 (12 + z) := p z hz
  have y1 : ∀ v : Int32, mj_wr h 4 (66 + k) v 4 48 = h 4 48 := fun v => wr_ne _ _ (by omega)
  unfold g_X2_milkOne g_X7_milk
  simp only [mj_lt, c2, c3, ewn, c1, ez, z32, zx, pz, ↓reduceIte, ix61 hk, ix56 hk, ix12 hz, ix66 hk, w1, y1]
  by_cases b1 : h 4 (61 + k) = 0
  · simp only [b1, ↓reduceIte]
    by_cases b2 : nI wn = 0
    · simp only [b2, ↓reduceIte, not_true_eq_false, ite_self]
      exact ⟨_, _, _, rfl, rfl, L0, lf_refl _ _, rfl, rfl⟩
    · simp only [b2, ↓reduceIte, not_false_eq_true]
      by_cases b3 : h 4 (12 + z) = 3
      · simp only [b3, ↓reduceIte]
        exact ⟨_, _, _, rfl, rfl, lo_mf hk (Or.inr rfl) (lo_water hk (w2 b2) L0), lf_trans lf_x (lf_trans (lf_m (by omega)) (lf_m (by omega))), by rw [wr_ne _ _ (by omega), wr_ne _ _ (by omega)], by rw [wr_ne _ _ (by omega)]⟩
      · simp only [b3, ↓reduceIte]
        exact ⟨_, _, _, rfl, rfl, L0, lf_refl _ _, rfl, rfl⟩
  · simp only [b1, ↓reduceIte]
    exact ⟨_, _, _, rfl, rfl, L0, lf_refl _ _, rfl, rfl⟩
theorem move_lo {k : Nat} {f h : mj_I} {x : Int32} (hk : k < 5) (hx : mj_in x 2 = true) (L : lo k f h) : ∃ h1, g_X7_setHeight (nI k) x h = some h1 ∧ lo k (g_X1_moveTo 22 x f) h1 ∧ lf f (g_X1_moveTo 22 x f) h h1 ∧ h1 4 47 = h 4 47 := by
  have L0 := L
  obtain ⟨⟨v1, v2, v3, v4, v5⟩, ⟨hm, l2⟩, ⟨w, p, l5, l6⟩, c0, c1, c2, c3, c5⟩ := L
  obtain ⟨wn, hwn, ewn⟩ := mj_in_ex (v5 k hm hk).2.2.2.1 (by decide)
  obtain ⟨w1, w2⟩ := wat_up wn hwn
  unfold g_X7_setHeight g_X1_moveTo
  simp only [mj_lt, c2, c3, ix61 hk, ix66 hk, ewn, ↓reduceIte]
  by_cases b : h 4 (61 + k) < x
  · simp only [b, ↓reduceIte]
    rw [w1]
    have A : ∀ v : Int32, mj_in v 41 = true → lo k (mj_wr (mj_wr f 22 3 v) 22 2 x) (mj_wr (mj_wr h 4 (66 + k) v) 4 (61 + k) x) ∧ lf f (mj_wr (mj_wr f 22 3 v) 22 2 x) h (mj_wr (mj_wr h 4 (66 + k) v) 4 (61 + k) x) ∧ mj_wr (mj_wr h 4 (66 + k) v) 4 (61 + k) x 4 47 = h 4 47 := fun v hv => ⟨lo_height hk hx (lo_water hk hv L0), lf_trans lf_x (lf_trans lf_x (lf_trans (lf_m (by omega)) (lf_m (by omega)))), by rw [wr_ne _ _ (by omega), wr_ne _ _ (by omega)]⟩
    by_cases d : nI wn - 2 < 0
    · rw [if_pos d] at w2 ⊢
      rw [if_pos d]
      exact ⟨_, rfl, A 0 w2⟩
    · rw [if_neg d] at w2 ⊢
      rw [if_neg d]
      exact ⟨_, rfl, A _ w2⟩
  · simp only [b, ↓reduceIte]
    exact ⟨_, rfl, lo_height hk hx L0, lf_trans lf_x (lf_m (by omega)), by rw [wr_ne _ _ (by omega)]⟩
theorem alone_lo {k t : Nat} {f h : mj_I} (hk : k < 5) (L : lo k f h) (ht : t < 1099) (et : h 4 46 = nI t) : ∃ d x f1 h1, g_X2_passAlone 4 22 (nI t) f = some (d, f1) ∧ g_X7_oneAlone (nI k) h = some (x, h1) ∧ lo k f1 h1 ∧ (∀ b, b ≠ 22 → f1 b = f b) ∧ (∀ b, b ≠ 0 → b ≠ 4 → h1 b = h b) ∧ (∀ j, j ≠ 16 → h1 0 j = h 0 j) ∧ (∀ j, j < 46 ∨ (49 ≤ j ∧ j < 56) ∨ 82 ≤ j → h1 4 j = h 4 j) ∧ h1 4 47 = h 4 47 + d ∧ h1 4 46 = nI (t + 1) ∧ f1 22 6 = x := by
  obtain ⟨v, hv, d1, d2⟩ := drift_lo hk L
  have L1 := lo_cell hk hv L
  have F1 : lf f (mj_wr f 22 1 v) h (mj_wr h 4 (56 + k) v) := lf_trans lf_x (lf_m (by omega))
  obtain ⟨d, x, f2, h2, r1, r2, r3, r4, r5, r6⟩ := rain_lo hk L1
  obtain ⟨e, f3, h3, m1, m2, m3, m4, m5, m6⟩ := milk_lo hk r3
  have F := lf_trans F1 (lf_trans r4 m4)
  have e46 : h3 4 46 = nI t := by rw [F.2.2.2 46 (by omega)]; exact et
  unfold g_X2_passAlone g_X7_oneAlone
  rw [et] at d1
  rw [d1, d2]
  simp only [Option.bind_some, r1, r2, m1, m2, mj_lt, e46, nI_1]
  refine ⟨_, _, _, _, rfl, rfl, lo_hour hk (mj_in_nI (by omega) (by decide)) m3, F.1, fun b k0 k4 => by rw [wr_ne1 _ _ k4]; exact F.2.1 b k0 k4, fun j hj => by rw [wr_ne1 _ _ (by omega)]; exact F.2.2.1 j hj, fun j hj => by rw [wr_ne _ _ (by omega)]; exact F.2.2.2 j (by omega), ?_, wr_eq _ _ _ _, by rw [m6]; exact r6⟩
  rw [wr_ne _ _ (by omega), m5, r5, wr_ne _ _ (by omega)]
