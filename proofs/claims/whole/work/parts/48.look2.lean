theorem dgt : ∀ v, v < 10 → ∀ d, d < 10 → ¬ (99 : Int32) < nI v ∧ 10 * nI v + nI (48 + d) - 48 = nI (10 * v + d) ∧ nI v * 10 + nI (48 + d) - 48 = nI (10 * v + d) := by decide +kernel
theorem two_lt {a b : Nat} (ha : a < 2 ^ 30) (hb : b < 2 ^ 30) : (2 : Int32) < nI a - nI b ↔ b + 2 < a := by
  rw [Int32.lt_iff_toInt_lt, pk_sub_toInt ha hb, show (2 : Int32).toInt = 2 by decide]
  omega
theorem nt_stepv {h : mj_I} {n q d v : Nat} (m : Nat) (hn : n ≤ 120) (e8 : h 0 8 = nI n) (e10 : h 0 10 = nI q) (e12 : h 0 12 = nI v) (hv : v ≤ 9) (hq : q < n) (hd : d ≤ 9) (eb : h 6 q = nI (48 + d)) :
    g_X7_nextToken_33 (m + 1) h = g_X7_nextToken_33 m (mj_wr (mj_wr h 0 12 (nI (10 * v + d))) 0 10 (nI (q + 1))) := by
  obtain ⟨k1, k2, _⟩ := dgt v (by omega) d (by omega)
  rw [nt_step m hn e8 e10 hq hd eb, e12, if_neg k1, k2]
theorem nt_tailN {h : mj_I} {a b : Nat} (e13 : h 0 13 = nI a) (e10 : h 0 10 = nI b) (hab : a < b) (hb : b ≤ 120) : nt_tail h = some (mj_wr h 0 11 (if a + 2 < b then 0 else 2)) := by
  unfold nt_tail
  rw [e13, e10, if_pos (nI_lt hab (by omega))]
  have k := two_lt (a := b) (b := a) (by omega) (by omega)
  by_cases c : a + 2 < b
  · rw [if_pos (k.mpr c), if_pos c]
  · rw [if_neg (fun z => c (k.mp z)), if_neg c]
theorem nt_num {h : mj_I} {n q d0 : Nat} (hn : n ≤ 120) (e8 : h 0 8 = nI n) (e10 : h 0 10 = nI q) (hq : q < n) (hd0 : d0 ≤ 9) (eb0 : h 6 q = nI (48 + d0)) : ∃ h', g_X7_nextToken h = some h' ∧ h' 0 13 = nI q ∧ lm h h' ∧
    ((¬ dgm h n (q + 1) ∧ h' 0 10 = nI (q + 1) ∧ h' 0 11 = 2 ∧ h' 0 12 = nI d0) ∨ (∃ d1, q + 1 < n ∧ d1 ≤ 9 ∧ h 6 (q + 1) = nI (48 + d1) ∧ ¬ dgm h n (q + 2) ∧ h' 0 10 = nI (q + 2) ∧ h' 0 11 = 2 ∧ h' 0 12 = nI (10 * d0 + d1)) ∨ (dgm h n (q + 1) ∧ dgm h n (q + 2) ∧ h' 0 11 = 0)) := by
  obtain ⟨w1, w2, w3, w4, w5⟩ := nt_wv h 0
  have f8 : nt_w h 0 0 8 = nI n := by rw [w5 8 (by omega) (by omega) (by omega)]; exact e8
  have f10 : nt_w h 0 0 10 = nI q := by rw [w5 10 (by omega) (by omega) (by omega)]; exact e10
  have f13 : nt_w h 0 0 13 = nI q := by rw [w1]; exact e10
  rw [nt_form, if_neg (by rw [e10, e8]; exact fun z => by have := nI_inj (by omega) (by omega) z; omega)]
  obtain ⟨v, ev⟩ : ∃ v, v = nt_w h 0 := ⟨_, rfl⟩
  rw [← ev] at w1 w2 w3 w4 w5 f8 f10 f13 ⊢
  obtain ⟨v1, ev1⟩ : ∃ v1, v1 = mj_wr (mj_wr v 0 12 (nI d0)) 0 10 (nI (q + 1)) := ⟨_, rfl⟩
  have s1 : g_X7_nextToken_33 mj_fuel v = g_X7_nextToken_33 3999 v1 := by
    rw [hF1, nt_stepv (v := 0) 3999 hn f8 f10 w3 (by omega) hq hd0 (by rw [w4 6 (by omega)]; exact eb0), ev1, show 10 * 0 + d0 = d0 by omega]
  have a8 : v1 0 8 = nI n := by rw [ev1, wr_ne _ _ (by omega), wr_ne _ _ (by omega)]; exact f8
  have a10 : v1 0 10 = nI (q + 1) := by rw [ev1, wr_eq]
  have a12 : v1 0 12 = nI d0 := by rw [ev1, wr_ne _ _ (by omega), wr_eq]
  have a13 : v1 0 13 = nI q := by rw [ev1, wr_ne _ _ (by omega), wr_ne _ _ (by omega)]; exact f13
  have ab : ∀ b, b ≠ 0 → v1 b = h b := fun b hb => by rw [ev1, wr_ne1 _ _ hb, wr_ne1 _ _ hb]; exact w4 b hb
  have aj : ∀ j, j < 10 ∨ 14 ≤ j → v1 0 j = h 0 j := fun j hj => by rw [ev1, wr_ne _ _ (by omega), wr_ne _ _ (by omega)]; exact w5 j (by omega) (by omega) (by omega)
  rw [s1]
  by_cases c1 : dgm h n (q + 1)
  · obtain ⟨hq1, d1, hd1, eb1⟩ := c1
    obtain ⟨v2, ev2⟩ : ∃ v2, v2 = mj_wr (mj_wr v1 0 12 (nI (10 * d0 + d1))) 0 10 (nI (q + 2)) := ⟨_, rfl⟩
    have s2 : g_X7_nextToken_33 3999 v1 = g_X7_nextToken_33 3998 v2 := by
      rw [show 3999 = 3998 + 1 from rfl, nt_stepv (v := d0) 3998 hn a8 a10 a12 hd0 hq1 hd1 (by rw [ab 6 (by omega)]; exact eb1), ev2]
    have b8 : v2 0 8 = nI n := by rw [ev2, wr_ne _ _ (by omega), wr_ne _ _ (by omega)]; exact a8
    have b10 : v2 0 10 = nI (q + 2) := by rw [ev2, wr_eq]
    have b12 : v2 0 12 = nI (10 * d0 + d1) := by rw [ev2, wr_ne _ _ (by omega), wr_eq]
    have b13 : v2 0 13 = nI q := by rw [ev2, wr_ne _ _ (by omega), wr_ne _ _ (by omega)]; exact a13
    have bb : ∀ b, b ≠ 0 → v2 b = h b := fun b hb => by rw [ev2, wr_ne1 _ _ hb, wr_ne1 _ _ hb]; exact ab b hb
    have bj : ∀ j, j < 10 ∨ 14 ≤ j → v2 0 j = h 0 j := fun j hj => by rw [ev2, wr_ne _ _ (by omega), wr_ne _ _ (by omega)]; exact aj j hj
    rw [s2]
    by_cases c2 : dgm h n (q + 2)
    · obtain ⟨hq2, d2, hd2, eb2⟩ := c2
      obtain ⟨v3, ev3⟩ : ∃ v3, v3 = mj_wr (mj_wr v2 0 12 (if 99 < v2 0 12 then v2 0 12 else 10 * v2 0 12 + nI (48 + d2) - 48)) 0 10 (nI (q + 3)) := ⟨_, rfl⟩
      have s3 : g_X7_nextToken_33 3998 v2 = g_X7_nextToken_33 3997 v3 := by
        rw [show 3998 = 3997 + 1 from rfl, nt_step 3997 hn b8 b10 hq2 hd2 (by rw [bb 6 (by omega)]; exact eb2), ev3]
      obtain ⟨q', v4, r1, r2, r3, r4, r5, r6⟩ := nt_run hn 3997 (q + 3) v3 (by rw [ev3, wr_ne _ _ (by omega), wr_ne _ _ (by omega)]; exact b8) (by rw [ev3, wr_eq]) (by omega) (by omega)
      have c13 : v4 0 13 = nI q := by rw [r6 13 (by omega) (by omega), ev3, wr_ne _ _ (by omega), wr_ne _ _ (by omega)]; exact b13
      rw [s3, r3, Option.bind_some, nt_tailN c13 r4 (by omega) (by omega), if_pos (by omega)]
      refine ⟨_, rfl, by rw [wr_ne _ _ (by omega)]; exact c13, ⟨fun b hb => by rw [wr_ne1 _ _ hb, r5 b hb, ev3, wr_ne1 _ _ hb, wr_ne1 _ _ hb]; exact bb b hb, fun j hj => by rw [wr_ne _ _ (by omega), r6 j (by omega) (by omega), ev3, wr_ne _ _ (by omega), wr_ne _ _ (by omega)]; exact bj j hj⟩, Or.inr (Or.inr ⟨⟨hq1, d1, hd1, eb1⟩, ⟨hq2, d2, hd2, eb2⟩, wr_eq _ _ _ _⟩)⟩
    · have s3 : g_X7_nextToken_33 3998 v2 = some v2 := by
        rw [show 3998 = 3997 + 1 from rfl]
        exact nt_stop 3997 hn b8 b10 (by omega) (fun z => c2 ((dgm_c (bb 6 (by omega))).mp z))
      rw [s3, Option.bind_some, nt_tailN b13 b10 (by omega) (by omega), if_neg (by omega)]
      exact ⟨_, rfl, by rw [wr_ne _ _ (by omega)]; exact b13, ⟨fun b hb => by rw [wr_ne1 _ _ hb]; exact bb b hb, fun j hj => by rw [wr_ne _ _ (by omega)]; exact bj j hj⟩, Or.inr (Or.inl ⟨d1, hq1, hd1, eb1, c2, by rw [wr_ne _ _ (by omega)]; exact b10, wr_eq _ _ _ _, by rw [wr_ne _ _ (by omega)]; exact b12⟩)⟩
  · have s2 : g_X7_nextToken_33 3999 v1 = some v1 := by
      rw [show 3999 = 3998 + 1 from rfl]
      exact nt_stop 3998 hn a8 a10 (by omega) (fun z => c1 ((dgm_c (ab 6 (by omega))).mp z))
    rw [s2, Option.bind_some, nt_tailN a13 a10 (by omega) (by omega), if_neg (by omega)]
    exact ⟨_, rfl, by rw [wr_ne _ _ (by omega)]; exact a13, ⟨fun b hb => by rw [wr_ne1 _ _ hb]; exact ab b hb, fun j hj => by rw [wr_ne _ _ (by omega)]; exact aj j hj⟩, Or.inl ⟨c1, by rw [wr_ne _ _ (by omega)]; exact a10, wr_eq _ _ _ _, by rw [wr_ne _ _ (by omega)]; exact a12⟩⟩
/-- the first memory's figures -/
theorem lf_step {f : mj_I} {n q d k : Nat} (m : Nat) (hn : n ≤ 120) (e1 : f 2 1 = nI n) (e3 : f 2 3 = nI q) (hq : q < n) (hd : d ≤ 9) (eb : f 3 q = nI (48 + d)) (hk : k < 3) :
    g_X4_lookAtFigures_15 (m + 1) (nI k) f = g_X4_lookAtFigures_15 m (nI (k + 1)) (mj_wr (mj_wr f 2 5 (f 2 5 * 10 + nI (48 + d) - 48)) 2 3 (nI (q + 1))) := by
  have k1 := in120 (show q < 120 by omega)
  rw [g_X4_lookAtFigures_15, if_pos (show nI k < (3 : Int32) from nI_lt (b := 3) hk (by decide)), e3, fig1 hn e1 hq hd eb, Option.bind_some, if_neg (show ¬ (1 : Int32) = 0 by decide), if_pos k1, ix_nI (by omega), eb, nI_1]
  dsimp only [mj_lt]
  rw [wr_ne _ _ (by omega), e3, nI_1]
theorem lf_stop {f : mj_I} {n q k : Nat} (m : Nat) (hn : n ≤ 120) (e1 : f 2 1 = nI n) (e3 : f 2 3 = nI q) (hq : q ≤ n) (hnd : ¬ dgx f n q) (hk : k ≤ 3) : g_X4_lookAtFigures_15 (m + 1) (nI k) f = some f := by
  rw [g_X4_lookAtFigures_15]
  by_cases c : k = 3
  · subst c
    rw [if_neg (by decide)]
  · rw [if_pos (show nI k < (3 : Int32) from nI_lt (b := 3) (by omega) (by decide)), e3, fig0 hn e1 hq hnd, Option.bind_some, if_pos rfl]
def lf_tail (q : mj_I) : Option mj_I := if (2 : Int32) < ((q 2 3) - (q 2 2)) then some (mj_wr q 2 4 (-2)) else some (mj_wr q 2 4 (-1))
theorem lf_tailN {f : mj_I} {a b : Nat} (e2 : f 2 2 = nI a) (e3 : f 2 3 = nI b) (ha : a ≤ 120) (hb : b ≤ 120) : lf_tail f = some (mj_wr f 2 4 (if a + 2 < b then -2 else -1)) := by
  unfold lf_tail
  rw [e2, e3]
  have k := two_lt (a := b) (b := a) (by omega) (by omega)
  by_cases c : a + 2 < b
  · rw [if_pos (k.mpr c), if_pos c]
  · rw [if_neg (fun z => c (k.mp z)), if_neg c]
theorem dgx_c {f f' : mj_I} {n q : Nat} (e : f' 3 = f 3) : dgx f' n q ↔ dgx f n q := by
  unfold dgx
  rw [e]
theorem lk_num {f : mj_I} {n q d0 : Nat} (hn : n ≤ 120) (e1 : f 2 1 = nI n) (e2 : f 2 2 = nI q) (hq : q < n) (hd0 : d0 ≤ 9) (eb0 : f 3 q = nI (48 + d0)) : ∃ f', g_X4_lookAtFigures f = some f' ∧ f' 2 2 = nI q ∧ lx f f' ∧
    ((¬ dgx f n (q + 1) ∧ f' 2 3 = nI (q + 1) ∧ f' 2 4 = -1 ∧ f' 2 5 = nI d0) ∨ (∃ d1, q + 1 < n ∧ d1 ≤ 9 ∧ f 3 (q + 1) = nI (48 + d1) ∧ ¬ dgx f n (q + 2) ∧ f' 2 3 = nI (q + 2) ∧ f' 2 4 = -1 ∧ f' 2 5 = nI (10 * d0 + d1)) ∨ (dgx f n (q + 1) ∧ dgx f n (q + 2) ∧ f' 2 4 = -2)) := by
  obtain ⟨v, ev⟩ : ∃ v, v = mj_wr (mj_wr f 2 5 0) 2 3 (nI q) := ⟨_, rfl⟩
  have st : g_X4_lookAtFigures f = (g_X4_lookAtFigures_15 mj_fuel (nI 0) v).bind lf_tail := by
    unfold g_X4_lookAtFigures
    dsimp only [mj_lt]
    rw [wr_ne _ _ (by omega), e2, ← ev]
    rfl
  have f1 : v 2 1 = nI n := by rw [ev, wr_ne _ _ (by omega), wr_ne _ _ (by omega)]; exact e1
  have f2 : v 2 2 = nI q := by rw [ev, wr_ne _ _ (by omega), wr_ne _ _ (by omega)]; exact e2
  have f3 : v 2 3 = nI q := by rw [ev, wr_eq]
  have f5 : v 2 5 = nI 0 := by rw [ev, wr_ne _ _ (by omega), wr_eq]; rfl
  have f6 : v 2 6 = f 2 6 := by rw [ev, wr_ne _ _ (by omega), wr_ne _ _ (by omega)]
  have fb : ∀ b, b ≠ 2 → v b = f b := fun b hb => by rw [ev, wr_ne1 _ _ hb, wr_ne1 _ _ hb]
  rw [st]
  obtain ⟨v1, ev1⟩ : ∃ v1, v1 = mj_wr (mj_wr v 2 5 (nI d0)) 2 3 (nI (q + 1)) := ⟨_, rfl⟩
  have s1 : g_X4_lookAtFigures_15 mj_fuel (nI 0) v = g_X4_lookAtFigures_15 3999 (nI 1) v1 := by
    obtain ⟨_, _, k3⟩ := dgt 0 (by omega) d0 (by omega)
    rw [hF1, lf_step (k := 0) 3999 hn f1 f3 hq hd0 (by rw [fb 3 (by omega)]; exact eb0) (by omega), f5, k3, ev1, show 10 * 0 + d0 = d0 by omega]
  have a1 : v1 2 1 = nI n := by rw [ev1, wr_ne _ _ (by omega), wr_ne _ _ (by omega)]; exact f1
  have a2 : v1 2 2 = nI q := by rw [ev1, wr_ne _ _ (by omega), wr_ne _ _ (by omega)]; exact f2
  have a3 : v1 2 3 = nI (q + 1) := by rw [ev1, wr_eq]
  have a5 : v1 2 5 = nI d0 := by rw [ev1, wr_ne _ _ (by omega), wr_eq]
  have a6 : v1 2 6 = f 2 6 := by rw [ev1, wr_ne _ _ (by omega), wr_ne _ _ (by omega)]; exact f6
  have ab : ∀ b, b ≠ 2 → v1 b = f b := fun b hb => by rw [ev1, wr_ne1 _ _ hb, wr_ne1 _ _ hb]; exact fb b hb
  rw [s1]
  have fin : ∀ w : mj_I, ∀ z : Int32, w 2 1 = nI n → w 2 6 = f 2 6 → (∀ b, b ≠ 2 → w b = f b) → lx f (mj_wr w 2 4 z) := fun w z k1 k6 kb => ⟨fun b hb => by rw [wr_ne1 _ _ hb]; exact kb b hb, by rw [wr_ne _ _ (by omega), k1, e1], by rw [wr_ne _ _ (by omega)]; exact k6⟩
  by_cases c1 : dgx f n (q + 1)
  · obtain ⟨hq1, d1, hd1, eb1⟩ := c1
    obtain ⟨v2, ev2⟩ : ∃ v2, v2 = mj_wr (mj_wr v1 2 5 (nI (10 * d0 + d1))) 2 3 (nI (q + 2)) := ⟨_, rfl⟩
    have s2 : g_X4_lookAtFigures_15 3999 (nI 1) v1 = g_X4_lookAtFigures_15 3998 (nI 2) v2 := by
      obtain ⟨_, _, k3⟩ := dgt d0 (by omega) d1 (by omega)
      rw [show 3999 = 3998 + 1 from rfl, lf_step (k := 1) 3998 hn a1 a3 hq1 hd1 (by rw [ab 3 (by omega)]; exact eb1) (by omega), a5, k3, ev2]
    have b1 : v2 2 1 = nI n := by rw [ev2, wr_ne _ _ (by omega), wr_ne _ _ (by omega)]; exact a1
    have b2 : v2 2 2 = nI q := by rw [ev2, wr_ne _ _ (by omega), wr_ne _ _ (by omega)]; exact a2
    have b3 : v2 2 3 = nI (q + 2) := by rw [ev2, wr_eq]
    have b5 : v2 2 5 = nI (10 * d0 + d1) := by rw [ev2, wr_ne _ _ (by omega), wr_eq]
    have b6 : v2 2 6 = f 2 6 := by rw [ev2, wr_ne _ _ (by omega), wr_ne _ _ (by omega)]; exact a6
    have bb : ∀ b, b ≠ 2 → v2 b = f b := fun b hb => by rw [ev2, wr_ne1 _ _ hb, wr_ne1 _ _ hb]; exact ab b hb
    rw [s2]
    by_cases c2 : dgx f n (q + 2)
    · obtain ⟨hq2, d2, hd2, eb2⟩ := c2
      obtain ⟨v3, ev3⟩ : ∃ v3, v3 = mj_wr (mj_wr v2 2 5 (v2 2 5 * 10 + nI (48 + d2) - 48)) 2 3 (nI (q + 3)) := ⟨_, rfl⟩
      have s3 : g_X4_lookAtFigures_15 3998 (nI 2) v2 = some v3 := by
        rw [show 3998 = 3997 + 1 from rfl, lf_step (k := 2) 3997 hn b1 b3 hq2 hd2 (by rw [bb 3 (by omega)]; exact eb2) (by omega), ev3, show 3997 = 3996 + 1 from rfl, g_X4_lookAtFigures_15, if_neg (by decide)]
      have c3 : v3 2 3 = nI (q + 3) := by rw [ev3, wr_eq]
      have c2' : v3 2 2 = nI q := by rw [ev3, wr_ne _ _ (by omega), wr_ne _ _ (by omega)]; exact b2
      rw [s3, Option.bind_some, lf_tailN c2' c3 (by omega) (by omega), if_pos (by omega)]
      exact ⟨_, rfl, by rw [wr_ne _ _ (by omega)]; exact c2', fin v3 _ (by rw [ev3, wr_ne _ _ (by omega), wr_ne _ _ (by omega)]; exact b1) (by rw [ev3, wr_ne _ _ (by omega), wr_ne _ _ (by omega)]; exact b6) (fun b hb => by rw [ev3, wr_ne1 _ _ hb, wr_ne1 _ _ hb]; exact bb b hb), Or.inr (Or.inr ⟨⟨hq1, d1, hd1, eb1⟩, ⟨hq2, d2, hd2, eb2⟩, wr_eq _ _ _ _⟩)⟩
    · have s3 : g_X4_lookAtFigures_15 3998 (nI 2) v2 = some v2 := by
        rw [show 3998 = 3997 + 1 from rfl]
        exact lf_stop (k := 2) 3997 hn b1 b3 (by omega) (fun z => c2 ((dgx_c (bb 3 (by omega))).mp z)) (by omega)
      rw [s3, Option.bind_some, lf_tailN b2 b3 (by omega) (by omega), if_neg (by omega)]
      exact ⟨_, rfl, by rw [wr_ne _ _ (by omega)]; exact b2, fin v2 _ b1 b6 bb, Or.inr (Or.inl ⟨d1, hq1, hd1, eb1, c2, by rw [wr_ne _ _ (by omega)]; exact b3, wr_eq _ _ _ _, by rw [wr_ne _ _ (by omega)]; exact b5⟩)⟩
  · have s2 : g_X4_lookAtFigures_15 3999 (nI 1) v1 = some v1 := by
      rw [show 3999 = 3998 + 1 from rfl]
      exact lf_stop (k := 1) 3998 hn a1 a3 (by omega) (fun z => c1 ((dgx_c (ab 3 (by omega))).mp z)) (by omega)
    rw [s2, Option.bind_some, lf_tailN a2 a3 (by omega) (by omega), if_neg (by omega)]
    exact ⟨_, rfl, by rw [wr_ne _ _ (by omega)]; exact a2, fin v1 _ a1 a6 ab, Or.inl ⟨c1, by rw [wr_ne _ _ (by omega)]; exact a3, wr_eq _ _ _ _, by rw [wr_ne _ _ (by omega)]; exact a5⟩⟩
/-- the token that is looked at, on both sides -/
def tk (n : Nat) (f h : mj_I) : Prop := (n ≤ 120 ∧ f 2 1 = nI n ∧ h 0 8 = nI n ∧ ∀ i, i < n → f 3 i = h 6 i) ∧ f 2 2 = h 0 13 ∧
  ((f 2 4 = -3 ∧ h 0 11 = 3) ∨ (f 2 4 = -2 ∧ h 0 11 = 0) ∨
   (f 2 4 = -1 ∧ h 0 11 = 2 ∧ (∃ v, v ≤ 99 ∧ f 2 5 = nI v ∧ h 0 12 = nI v) ∧ ∃ q, q ≤ n ∧ f 2 3 = nI q ∧ h 0 10 = nI q) ∨
   (h 0 11 = 1 ∧ f 2 4 = h 0 12 ∧ ¬ f 2 4 < 0 ∧ ∃ q, q ≤ n ∧ f 2 3 = nI q ∧ h 0 10 = nI q))
theorem look_both {n q : Nat} {f h : mj_I} (hn : n ≤ 120) (e1 : f 2 1 = nI n) (e8 : h 0 8 = nI n) (hb : ∀ i, i < n → f 3 i = h 6 i) (hq : q ≤ n) (e3 : f 2 3 = nI q) (e10 : h 0 10 = nI q) :
    ∃ f' h', g_X4_look f = some f' ∧ g_X7_nextToken h = some h' ∧ tk n f' h' ∧ lx f f' ∧ lm h h' := by
  have dg : ∀ i, dgx f n i ↔ dgm h n i := fun i => by
    unfold dgx dgm
    constructor
    · rintro ⟨h1, d, h2, h3⟩
      exact ⟨h1, d, h2, by rw [← hb i h1]; exact h3⟩
    · rintro ⟨h1, d, h2, h3⟩
      exact ⟨h1, d, h2, by rw [hb i h1]; exact h3⟩
  have base : ∀ f' h', lx f f' → lm h h' → (n ≤ 120 ∧ f' 2 1 = nI n ∧ h' 0 8 = nI n ∧ ∀ i, i < n → f' 3 i = h' 6 i) := fun f' h' L1 L2 => ⟨hn, by rw [L1.2.1]; exact e1, by rw [L2.2 8 (by omega)]; exact e8, fun i hi => by rw [L1.1 3 (by omega), L2.1 6 (by omega)]; exact hb i hi⟩
  obtain ⟨v, ev⟩ : ∃ v, v = mj_wr f 2 2 (nI q) := ⟨_, rfl⟩
  have f1 : v 2 1 = nI n := by rw [ev, wr_ne _ _ (by omega)]; exact e1
  have f2 : v 2 2 = nI q := by rw [ev, wr_eq]
  have f6 : v 2 6 = f 2 6 := by rw [ev, wr_ne _ _ (by omega)]
  have fb : ∀ b, b ≠ 2 → v b = f b := fun b hb => by rw [ev, wr_ne1 _ _ hb]
  unfold g_X4_look
  dsimp only [mj_lt]
  rw [e3, ← ev, f1, f2]
  by_cases c : q < n
  · rw [if_pos (nI_lt c (by omega))]
    by_cases cd : dgm h n q
    · obtain ⟨_, d0, hd0, eb0⟩ := cd
      have eb0' : v 3 q = nI (48 + d0) := by rw [fb 3 (by omega), hb q c]; exact eb0
      obtain ⟨f', p1, p2, p3, p4⟩ := lk_num hn f1 f2 c hd0 eb0'
      obtain ⟨h', r1, r2, r3, r4⟩ := nt_num hn e8 e10 c hd0 eb0
      rw [fig1 hn f1 c hd0 eb0', Option.bind_some, if_neg (show ¬ (1 : Int32) = 0 by decide), p1, r1, Option.bind_some]
      have L1 : lx f f' := ⟨fun b hb => by rw [p3.1 b hb]; exact fb b hb, by rw [p3.2.1, f1, e1], by rw [p3.2.2]; exact f6⟩
      have dgv : ∀ i, dgx v n i ↔ dgm h n i := fun i => (dgx_c (fb 3 (by omega))).trans (dg i)
      refine ⟨f', h', rfl, rfl, ⟨base f' h' L1 r3, by rw [p2, r2], ?_⟩, L1, r3⟩
      rcases p4 with ⟨a1, a2, a3, a4⟩ | ⟨d1, a1, a2, a3, a4, a5, a6, a7⟩ | ⟨a1, a2, a3⟩
      · rcases r4 with ⟨b1, b2, b3, b4⟩ | ⟨d1', b1, b2, b3, b4, b5, b6, b7⟩ | ⟨b1, b2, b3⟩
        · exact Or.inr (Or.inr (Or.inl ⟨a3, b3, ⟨d0, by omega, a4, b4⟩, q + 1, by omega, a2, b2⟩))
        · exact absurd ((dgv _).mpr ⟨b1, d1', b2, b3⟩) a1
        · exact absurd ((dgv _).mpr b1) a1
      · have a3' : h 6 (q + 1) = nI (48 + d1) := by rw [← hb (q + 1) a1, ← fb 3 (by omega)]; exact a3
        rcases r4 with ⟨b1, b2, b3, b4⟩ | ⟨d1', b1, b2, b3, b4, b5, b6, b7⟩ | ⟨b1, b2, b3⟩
        · exact absurd ⟨a1, d1, a2, a3'⟩ b1
        · have ed : 48 + d1 = 48 + d1' := nI_inj (by omega) (by omega) (by rw [← a3', ← b3])
          have ed' : d1' = d1 := by omega
          rw [ed'] at b7
          exact Or.inr (Or.inr (Or.inl ⟨a6, b6, ⟨10 * d0 + d1, by omega, a7, b7⟩, q + 2, by omega, a5, b5⟩))
        · exact absurd ((dgv _).mpr b2) a4
      · rcases r4 with ⟨b1, b2, b3, b4⟩ | ⟨d1', b1, b2, b3, b4, b5, b6, b7⟩ | ⟨b1, b2, b3⟩
        · exact absurd ((dgv _).mp a1) b1
        · exact absurd ((dgv _).mp a2) b4
        · exact Or.inr (Or.inl ⟨a3, b3⟩)
    · have k1 := in120 (show q < 120 by omega)
      have cd' : ¬ dgx v n q := fun z => cd ((dg q).mp ((dgx_c (fb 3 (by omega))).mp z))
      obtain ⟨h', r1, r2, r3, r4, r5⟩ := nt_sign hn e8 e10 c cd
      obtain ⟨u, eu⟩ : ∃ u, u = mj_wr v 2 3 (nI (q + 1)) := ⟨_, rfl⟩
      have u2 : u 2 2 = nI q := by rw [eu, wr_ne _ _ (by omega)]; exact f2
      have u3 : u 3 q = h 6 q := by rw [eu, wr_ne1 _ _ (by omega), fb 3 (by omega)]; exact hb q c
      rw [fig0 hn f1 (by omega) cd', Option.bind_some, if_pos rfl, nI_1, ← eu, u2, if_pos k1, if_pos k1, ix_nI (by omega), u3, r1]
      have L1 : ∀ z : Int32, lx f (mj_wr u 2 4 z) := fun z => ⟨fun b hb => by rw [wr_ne1 _ _ hb, eu, wr_ne1 _ _ hb]; exact fb b hb, by rw [wr_ne _ _ (by omega), eu, wr_ne _ _ (by omega), f1, e1], by rw [wr_ne _ _ (by omega), eu, wr_ne _ _ (by omega)]; exact f6⟩
      have e22 : ∀ z : Int32, mj_wr u 2 4 z 2 2 = h' 0 13 := fun z => by rw [wr_ne _ _ (by omega), u2, r2]
      rcases r5 with ⟨a1, a2⟩ | ⟨a1, a2, a3⟩
      · rw [if_pos a1]
        exact ⟨_, h', rfl, rfl, ⟨base _ h' (L1 _) r4, e22 _, Or.inr (Or.inl ⟨wr_eq _ _ _ _, a2⟩)⟩, L1 _, r4⟩
      · rw [if_neg a1]
        refine ⟨_, h', rfl, rfl, ⟨base _ h' (L1 _) r4, e22 _, Or.inr (Or.inr (Or.inr ⟨a2, by rw [wr_eq, a3], by rw [wr_eq]; exact sg_pos a1, q + 1, by omega, ?_, r3⟩))⟩, L1 _, r4⟩
        rw [wr_ne _ _ (by omega), eu, wr_eq]
  · have eq : q = n := by omega
    subst eq
    obtain ⟨h', r1, r2, r3, r4⟩ := nt_end hn e8 e10
    rw [if_neg (nI_nlt (Nat.le_refl q) (by omega)), r1]
    have L1 : lx f (mj_wr v 2 4 (-3)) := ⟨fun b hb => by rw [wr_ne1 _ _ hb]; exact fb b hb, by rw [wr_ne _ _ (by omega), f1, e1], by rw [wr_ne _ _ (by omega)]; exact f6⟩
    exact ⟨_, h', rfl, rfl, ⟨base _ h' L1 r4, by rw [wr_ne _ _ (by omega), f2, r3], Or.inl ⟨wr_eq _ _ _ _, r2⟩⟩, L1, r4⟩
