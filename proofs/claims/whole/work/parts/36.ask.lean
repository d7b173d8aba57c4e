/-! ask: the bodies, their order kept -/
def as_P (k d : Nat) (f h : mj_I) (g : mj_L) : Prop := rel f h g ∧ nI k < h 4 50 ∧ h 4 (51 + k) = nI d
theorem leave_both {k d : Nat} {f h : mj_I} {g : mj_L} (x : Int32) (P : as_P k d f h g) : ∃ f' h', g_X5_leave x f = some f' ∧ g_X7_begin x h = some h' ∧ as_P k d f' h' g := by
  obtain ⟨hR, P2, P3⟩ := P
  obtain ⟨h1, ⟨h2, h3⟩, h4, h5, h6, h7, ⟨n, hn, e1, e2, e3⟩, h9⟩ := hR
  unfold g_X5_leave g_X7_begin
  rw [e1, e2]
  by_cases c : n = 16
  · subst c
    rw [if_neg (by decide), if_neg (by decide)]
    exact ⟨_, _, rfl, rfl, ⟨h1, ⟨h2, h3⟩, h4, h5, h6, h7, ⟨_, hn, e1, e2, e3⟩, h9⟩, P2, P3⟩
  have c3 : nI n < (16 : Int32) := nI_lt (a := n) (b := 16) (by omega) (by decide)
  have k1 : mj_in (nI n) 16 = true := mj_in_nI (by omega) (by decide)
  have w1 : mj_wr f 27 n x 26 1 = nI n := by rw [wr_ne _ _ (by omega), e1]
  have w2 : mj_wr h 14 n x 0 28 = nI n := by rw [wr_ne _ _ (by omega), e2]
  rw [if_pos c3, if_pos c3]
  simp only [mj_lt, k1, ↓reduceIte, ix_nI (show n < 2 ^ 31 by omega), w1, w2]
  have xa : ∀ b, b ≠ 26 → b ≠ 27 → mj_wr (mj_wr f 27 n x) 26 1 (nI n + 1) b = f b := fun b k2 k3 => by rw [wr_ne1 _ _ k2, wr_ne1 _ _ k3]
  have ma : ∀ b, b ≠ 0 → b ≠ 14 → mj_wr (mj_wr h 14 n x) 0 28 (nI n + 1) b = h b := fun b k2 k3 => by rw [wr_ne1 _ _ k2, wr_ne1 _ _ k3]
  have mb : ∀ j, j ≠ 28 → mj_wr (mj_wr h 14 n x) 0 28 (nI n + 1) 0 j = h 0 j := fun j k2 => by rw [wr_ne _ _ (by omega), wr_ne _ _ (by omega)]
  refine ⟨_, _, rfl, rfl, ⟨rows_c h1 (fun b _ _ => xa b (by omega) (by omega)) (fun b _ _ => ma b (by omega) (by omega)), ⟨by rw [xa 0 (by omega) (by omega), mb 3 (by omega)]; exact h2, by rw [xa 0 (by omega) (by omega), mb 9 (by omega)]; exact h3⟩, tape_c h4 (by rw [xa 2 (by omega) (by omega)]) (xa 3 (by omega) (by omega)) (mb 8 (by omega)) (ma 6 (by omega) (by omega)), now_c h5 (fun b _ _ => xa b (by omega) (by omega)) (mb 4 (by omega)) (ma 4 (by omega) (by omega)), acts_c h6 (by rw [xa 24 (by omega) (by omega)]) (by rw [xa 24 (by omega) (by omega)]) (xa 25 (by omega) (by omega)) (mb 18 (by omega)) (ma 8 (by omega) (by omega)) (fun j _ => by rw [ma 4 (by omega) (by omega)]), imgs_c h7 (fun b _ _ => xa b (by omega) (by omega)) (ma 12 (by omega) (by omega)) (ma 13 (by omega) (by omega)) (fun z => by rw [mb 4 (by omega)]; exact z), ⟨n + 1, by omega, by rw [wr_eq, nI_1], by rw [wr_eq, nI_1], fun i hi => ?_⟩, bool_c h9 (fun b hb => xa b (by omega) (by omega))⟩, by rw [ma 4 (by omega) (by omega)]; exact P2, by rw [ma 4 (by omega) (by omega)]; exact P3⟩
  rw [wr_ne1 (b := 27) _ _ (by omega), wr_ne1 (b := 14) _ _ (by omega)]
  by_cases e : i = n
  · subst e; rw [wr_eq, wr_eq]
  · rw [wr_ne _ _ (by omega), wr_ne _ _ (by omega)]
    exact e3 i (by omega)
theorem as_cl {k d : Nat} {f h : mj_I} {g : mj_L} (hk : k < 5) (P : as_P k d f h g) : f (4 + 4 + k) 0 = nI d ∧ f (4 + 4 + k) 1 = h 4 (56 + k) ∧ f (4 + 4 + k) 3 = h 4 (66 + k) := by
  obtain ⟨c0, c1, c2, c3, c4, c5⟩ := (now_hs P.1).1.2.2.2 k P.2.1 hk
  exact ⟨c0.trans P.2.2, c1, c3⟩
theorem dep {dd : Nat} (h : dd ≤ 8) : ¬ (8 : Int32) < nI dd := nI_nlt (a := 8) (b := dd) h (by decide)
theorem B10 {k d dd n : Nat} {f h : mj_I} {g : mj_L} (hk : k < 5) (hd : dd ≤ 8) (P : as_P k d f h g) : ∃ v f' h', g_X5_bodyOf (n + 1) 10 (4 + 4 + k) (nI k) (nI dd) f = some (v, f') ∧ g_X7_lent (nI k) 10 h = some (v, h') ∧ as_P k d f' h' g := by
  obtain ⟨f', h', q1, q2, q3⟩ := leave_both 10 P
  rw [g_X5_bodyOf, if_neg (dep hd), q1]
  unfold g_X7_lent
  rw [q2]
  simp only [Option.bind_some, mj_lt, ↓reduceIte, ix66 hk, (as_cl hk q3).2.2]
  exact ⟨_, _, _, rfl, rfl, q3⟩
theorem B20 {k d dd n : Nat} {f h : mj_I} {g : mj_L} (hk : k < 5) (hd : dd ≤ 8) (P : as_P k d f h g) : ∃ f' h', g_X5_bodyOf (n + 1) 20 (4 + 4 + k) (nI k) (nI dd) f = some (nI k, f') ∧ g_X7_lent (nI k) 20 h = some (nI k, h') ∧ as_P k d f' h' g := by
  obtain ⟨f', h', q1, q2, q3⟩ := leave_both 20 P
  rw [g_X5_bodyOf, if_neg (dep hd), q1]
  unfold g_X7_lent
  rw [q2]
  simp only [Option.bind_some, mj_lt]
  rw [if_neg (by decide), if_neg (by decide), if_neg (by decide), if_neg (by decide), if_neg (by decide), if_neg (by decide), if_neg (by decide), if_neg (by decide), if_neg (by decide), if_neg (by decide), if_pos trivial, if_neg (by decide)]
  exact ⟨_, _, rfl, rfl, q3⟩
theorem B21 {k d dd n : Nat} {f h : mj_I} {g : mj_L} (hk : k < 5) (hd : dd ≤ 7) (P : as_P k d f h g) : ∃ v f' h', g_X5_bodyOf (n + 2) 21 (4 + 4 + k) (nI k) (nI dd) f = some (v, f') ∧ g_X7_whiteMark (nI k) h = some (v, h') ∧ as_P k d f' h' g := by
  obtain ⟨f1, h1, q1, q2, q3⟩ := leave_both 21 P
  obtain ⟨f2, h2, r1, r2, r3⟩ := B20 (n := n) (dd := dd + 1) hk (by omega) q3
  rw [g_X5_bodyOf, if_neg (dep (by omega)), q1]
  unfold g_X7_whiteMark
  rw [q2]
  simp only [Option.bind_some, mj_lt]
  rw [if_neg (by decide), if_neg (by decide), if_neg (by decide), if_neg (by decide), if_neg (by decide), if_neg (by decide), if_neg (by decide), if_neg (by decide), if_neg (by decide), if_neg (by decide), if_neg (by decide), if_pos trivial, nI_1, r1, r2]
  simp only [Option.bind_some, ix56 hk, ↓reduceIte, (as_cl hk r3).2.1]
  exact ⟨_, _, _, rfl, rfl, r3⟩
theorem B13 {k d dd n : Nat} {f h : mj_I} {g : mj_L} (hk : k < 5) (hd : dd ≤ 7) (P : as_P k d f h g) : ∃ v f' h', g_X5_bodyOf (n + 2) 13 (4 + 4 + k) (nI k) (nI dd) f = some (v, f') ∧ g_X7_fogSize (nI k) h = some (v, h') ∧ as_P k d f' h' g := by
  obtain ⟨f1, h1, q1, q2, q3⟩ := leave_both 13 P
  obtain ⟨v, f2, h2, r1, r2, r3⟩ := B10 (n := n) (dd := dd + 1) hk (by omega) q3
  rw [g_X5_bodyOf, if_neg (dep (by omega)), q1]
  unfold g_X7_fogSize
  rw [q2]
  simp only [Option.bind_some, mj_lt]
  rw [if_neg (by decide), if_neg (by decide), if_neg (by decide), if_pos trivial, nI_1, r1, r2]
  exact ⟨_, _, _, rfl, rfl, r3⟩
/-- the size of a fog: kinds 4 and 5 -/
theorem Bfog {k d dd n : Nat} {f h : mj_I} {g : mj_L} (hk : k < 5) (hd : dd ≤ 6) (h45 : d = 4 ∨ d = 5) (P : as_P k d f h g) : ∃ v f' h', g_X5_bodyOf (n + 3) ((mj_tab 1).getD d 0) (4 + 4 + k) (nI k) (nI dd) f = some (v, f') ∧ g_X7_sizeOfFog (nI k) h = some (v, h') ∧ as_P k d f' h' g := by
  unfold g_X7_sizeOfFog
  simp only [ix51 hk, ↓reduceIte, P.2.2]
  rcases h45 with rfl | rfl
  · rw [if_neg (by decide), show (mj_tab 1).getD 4 0 = 13 by decide]
    obtain ⟨v, f2, h2, r1, r2, r3⟩ := B13 (n := n + 1) (dd := dd) hk (by omega) P
    rw [r1, r2]
    exact ⟨_, _, _, rfl, rfl, r3⟩
  · rw [if_pos (by decide), show (mj_tab 1).getD 5 0 = 14 by decide]
    obtain ⟨f1, h1, q1, q2, q3⟩ := leave_both 14 P
    obtain ⟨v, f2, h2, r1, r2, r3⟩ := B13 (n := n) (dd := dd + 1) hk (by omega) q3
    rw [g_X5_bodyOf, if_neg (dep (by omega)), q1, q2]
    simp only [Option.bind_some, mj_lt]
    rw [if_neg (by decide), if_neg (by decide), if_neg (by decide), if_neg (by decide), if_pos trivial, nI_1, r1, r2]
    exact ⟨_, _, _, rfl, rfl, r3⟩
/-- a mark, by its kind -/
theorem Bmark {k d dd n : Nat} {f h : mj_I} {g : mj_L} (hk : k < 5) (hd : dd ≤ 5) (h1 : 1 ≤ d) (h5 : d ≤ 5) (P : as_P k d f h g) : ∃ v f' h', g_X5_bodyOf (n + 4) ((mj_tab 2).getD d 0) (4 + 4 + k) (nI k) (nI dd) f = some (v, f') ∧ g_X7_markOf (nI k) h = some (v, h') ∧ as_P k d f' h' g := by
  have fog : d = 4 ∨ d = 5 → ∃ v f' h', g_X5_bodyOf (n + 4) 23 (4 + 4 + k) (nI k) (nI dd) f = some (v, f') ∧ ((g_X7_begin 23 h).bind fun o_8 => (g_X7_lent (nI k) 20 o_8).bind fun o_9 => (g_X7_sizeOfFog (nI k) o_9.2).bind fun o_10 => some (o_9.1 - o_10.1, o_10.2)) = some (v, h') ∧ as_P k d f' h' g := by
    intro h45
    obtain ⟨f1, h1, q1, q2, q3⟩ := leave_both 23 P
    obtain ⟨f2, h2, r1, r2, r3⟩ := B20 (n := n + 2) (dd := dd + 1) hk (by omega) q3
    obtain ⟨v, f3, h3, s1, s2, s3⟩ := Bfog (n := n) (dd := dd + 1) hk (by omega) h45 r3
    have k6 : mj_in (nI d) 6 = true := mj_in_nI (by omega) (by decide)
    rw [g_X5_bodyOf, if_neg (dep (by omega)), q1, q2]
    simp only [Option.bind_some, mj_lt]
    rw [if_neg (by decide), if_neg (by decide), if_neg (by decide), if_neg (by decide), if_neg (by decide), if_neg (by decide), if_neg (by decide), if_neg (by decide), if_neg (by decide), if_neg (by decide), if_neg (by decide), if_neg (by decide), if_neg (by decide), if_pos trivial, nI_1, r1, r2]
    simp only [Option.bind_some, (as_cl hk r3).1, k6, ↓reduceIte, ix_nI (show d < 2 ^ 31 by omega), s1, s2]
    exact ⟨_, _, _, rfl, rfl, s3⟩
  unfold g_X7_markOf
  simp only [ix51 hk, ↓reduceIte, P.2.2, mj_lt]
  rcases (show d = 1 ∨ d = 2 ∨ d = 3 ∨ d = 4 ∨ d = 5 by omega) with rfl | rfl | rfl | rfl | rfl
  · rw [if_neg (by decide), if_neg (by decide), if_pos (by decide), show (mj_tab 2).getD 1 0 = 21 by decide]
    obtain ⟨v, f2, h2, r1, r2, r3⟩ := B21 (n := n + 2) (dd := dd) hk (by omega) P
    rw [r1, r2]
    exact ⟨_, _, _, rfl, rfl, r3⟩
  · rw [if_pos (by decide), show (mj_tab 2).getD 2 0 = 24 by decide]
    obtain ⟨f1, h1, q1, q2, q3⟩ := leave_both 24 P
    obtain ⟨v, f2, h2, r1, r2, r3⟩ := B21 (n := n + 1) (dd := dd + 1) hk (by omega) q3
    rw [g_X5_bodyOf, if_neg (dep (by omega)), q1, q2]
    simp only [Option.bind_some, mj_lt]
    rw [if_neg (by decide), if_neg (by decide), if_neg (by decide), if_neg (by decide), if_neg (by decide), if_neg (by decide), if_neg (by decide), if_neg (by decide), if_neg (by decide), if_neg (by decide), if_neg (by decide), if_neg (by decide), if_neg (by decide), if_neg (by decide), if_pos trivial, nI_1, r1, r2]
    exact ⟨_, _, _, rfl, rfl, r3⟩
  · rw [if_neg (by decide), if_pos (by decide), show (mj_tab 2).getD 3 0 = 22 by decide]
    obtain ⟨f1, h1, q1, q2, q3⟩ := leave_both 22 P
    obtain ⟨v, f2, h2, r1, r2, r3⟩ := B21 (n := n + 1) (dd := dd + 1) hk (by omega) q3
    rw [g_X5_bodyOf, if_neg (dep (by omega)), q1, q2]
    simp only [Option.bind_some, mj_lt]
    rw [if_neg (by decide), if_neg (by decide), if_neg (by decide), if_neg (by decide), if_neg (by decide), if_neg (by decide), if_neg (by decide), if_neg (by decide), if_neg (by decide), if_neg (by decide), if_neg (by decide), if_neg (by decide), if_pos trivial, nI_1, r1, r2]
    exact ⟨_, _, _, rfl, rfl, r3⟩
  · rw [if_neg (by decide), if_neg (by decide), if_neg (by decide), show (mj_tab 2).getD 4 0 = 23 by decide]
    exact fog (Or.inl rfl)
  · rw [if_neg (by decide), if_neg (by decide), if_neg (by decide), show (mj_tab 2).getD 5 0 = 23 by decide]
    exact fog (Or.inr rfl)
theorem B11 {k d dd n : Nat} {f h : mj_I} {g : mj_L} (hk : k < 5) (hd : dd ≤ 4) (h1 : 1 ≤ d) (h5 : d ≤ 5) (P : as_P k d f h g) : ∃ v f' h', g_X5_bodyOf (n + 5) 11 (4 + 4 + k) (nI k) (nI dd) f = some (v, f') ∧ g_X7_whiteSize (nI k) h = some (v, h') ∧ as_P k d f' h' g := by
  obtain ⟨f1, h1, q1, q2, q3⟩ := leave_both 11 P
  obtain ⟨v, f2, h2, r1, r2, r3⟩ := B10 (n := n + 3) (dd := dd + 1) hk (by omega) q3
  obtain ⟨w, f3, h3, s1, s2, s3⟩ := Bmark (n := n) (dd := dd + 1) hk (by omega) (by omega) h5 r3
  have k6 : mj_in (nI d) 6 = true := mj_in_nI (by omega) (by decide)
  rw [g_X5_bodyOf, if_neg (dep (by omega)), q1]
  unfold g_X7_whiteSize
  rw [q2]
  simp only [Option.bind_some, mj_lt]
  rw [if_neg (by decide), if_pos trivial, nI_1, r1, r2]
  simp only [Option.bind_some, (as_cl hk r3).1, k6, ↓reduceIte, ix_nI (show d < 2 ^ 31 by omega), s1, s2]
  exact ⟨_, _, _, rfl, rfl, s3⟩
theorem Bsize {k d dd n : Nat} {f h : mj_I} {g : mj_L} (hk : k < 5) (hd : dd ≤ 3) (h1 : 1 ≤ d) (h5 : d ≤ 5) (P : as_P k d f h g) : ∃ v f' h', g_X5_bodyOf (n + 6) ((mj_tab 1).getD d 0) (4 + 4 + k) (nI k) (nI dd) f = some (v, f') ∧ g_X7_sizeOf (nI k) h = some (v, h') ∧ as_P k d f' h' g := by
  unfold g_X7_sizeOf
  simp only [ix51 hk, ↓reduceIte, P.2.2, mj_lt]
  rcases (show d = 1 ∨ d = 2 ∨ d = 3 ∨ (d = 4 ∨ d = 5) by omega) with rfl | rfl | rfl | h45
  · rw [if_neg (by decide), if_pos (by decide), show (mj_tab 1).getD 1 0 = 11 by decide]
    obtain ⟨v, f2, h2, r1, r2, r3⟩ := B11 (n := n + 1) (dd := dd) hk (by omega) h1 h5 P
    rw [r1, r2]
    exact ⟨_, _, _, rfl, rfl, r3⟩
  · rw [if_pos (by decide), show (mj_tab 1).getD 2 0 = 12 by decide]
    obtain ⟨f1, h1', q1, q2, q3⟩ := leave_both 12 P
    obtain ⟨v, f2, h2, r1, r2, r3⟩ := B11 (n := n) (dd := dd + 1) hk (by omega) h1 h5 q3
    rw [g_X5_bodyOf, if_neg (dep (by omega)), q1, q2]
    simp only [Option.bind_some, mj_lt]
    rw [if_neg (by decide), if_neg (by decide), if_pos trivial, nI_1, r1, r2]
    exact ⟨_, _, _, rfl, rfl, r3⟩
  · rw [if_neg (by decide), if_pos (by decide), show (mj_tab 1).getD 3 0 = 11 by decide]
    obtain ⟨v, f2, h2, r1, r2, r3⟩ := B11 (n := n + 1) (dd := dd) hk (by omega) h1 h5 P
    rw [r1, r2]
    exact ⟨_, _, _, rfl, rfl, r3⟩
  · obtain ⟨v, f2, h2, r1, r2, r3⟩ := Bfog (n := n + 3) (dd := dd) hk (by omega) h45 P
    rw [if_neg (by rcases h45 with rfl | rfl <;> decide), if_neg (by rcases h45 with rfl | rfl <;> decide), r1, r2]
    exact ⟨_, _, _, rfl, rfl, r3⟩
theorem trace0 {f h : mj_I} {g : mj_L} (hR : rel f h g) : rel (mj_wr f 26 1 0) (mj_wr h 0 28 0) g := by
  obtain ⟨h1, ⟨h2, h3⟩, h4, h5, h6, h7, h8, h9⟩ := hR
  have xa : ∀ b, b ≠ 26 → mj_wr f 26 1 0 b = f b := fun b k2 => wr_ne1 _ _ k2
  have ma : ∀ b, b ≠ 0 → mj_wr h 0 28 0 b = h b := fun b k2 => wr_ne1 _ _ k2
  have mb : ∀ j, j ≠ 28 → mj_wr h 0 28 0 0 j = h 0 j := fun j k2 => wr_ne _ _ (by omega)
  exact ⟨rows_c h1 (fun b _ _ => xa b (by omega)) (fun b _ _ => ma b (by omega)), ⟨by rw [xa 0 (by omega), mb 3 (by omega)]; exact h2, by rw [xa 0 (by omega), mb 9 (by omega)]; exact h3⟩, tape_c h4 (by rw [xa 2 (by omega)]) (xa 3 (by omega)) (mb 8 (by omega)) (ma 6 (by omega)), now_c h5 (fun b _ _ => xa b (by omega)) (mb 4 (by omega)) (ma 4 (by omega)), acts_c h6 (by rw [xa 24 (by omega)]) (by rw [xa 24 (by omega)]) (xa 25 (by omega)) (mb 18 (by omega)) (ma 8 (by omega)) (fun j _ => by rw [ma 4 (by omega)]), imgs_c h7 (fun b _ _ => xa b (by omega)) (ma 12 (by omega)) (ma 13 (by omega)) (fun z => by rw [mb 4 (by omega)]; exact z), ⟨0, by omega, wr_eq _ _ _ _, wr_eq _ _ _ _, fun i hi => by omega⟩, bool_c h9 (fun b hb => xa b (by omega))⟩
theorem sim_ask : ls_ask rel := by
  intro fX fM gM hR x1 x2
  unfold g_X6_ask g_X7_ask g_X5_answer
  rw [iscl_eq hR, in_0_1]
  by_cases c1 : g_X6_isCloud x1 fX = 0
  · rw [if_pos c1, if_pos c1]
    exact ⟨_, _, rfl, rfl, rfl, hR⟩
  rw [if_neg c1, if_neg c1]
  by_cases c2 : g_X6_within x2 0 1 = 0
  · rw [if_pos c2, if_pos c2]
    exact ⟨_, _, rfl, rfl, rfl, hR⟩
  rw [if_neg c2, if_neg c2]
  obtain ⟨k, hk, rfl, hm⟩ := iscl_ex hR c1
  obtain ⟨d, d1, d2, ed⟩ := kd_ex (now_hs hR) hk hm
  have P : as_P k d (mj_wr fX 26 1 0) (mj_wr fM 0 28 0) gM := ⟨trace0 hR, by rw [wr_ne1 _ _ (by omega)]; exact hm, by rw [wr_ne1 _ _ (by omega)]; exact ed⟩
  have k6 : mj_in (nI d) 6 = true := mj_in_nI (by omega) (by decide)
  simp only [mj_lt, in5 hk, ↓reduceIte, (as_cl hk P).1, k6, ix_nI (show d < 2 ^ 31 by omega)]
  by_cases c3 : x2 = 0
  · rw [if_pos c3, if_pos c3]
    obtain ⟨v, f', h', r1, r2, r3⟩ := Bsize (n := 4) (dd := 1) hk (by omega) d1 d2 P
    have r1' : g_X5_bodyOf 10 ((mj_tab 1).getD d 0) (4 + 4 + k) (nI k) 1 (mj_wr fX 26 1 0) = some (v, f') := r1
    rw [r1', r2]
    exact ⟨_, _, rfl, rfl, rfl, r3.1⟩
  · rw [if_neg c3, if_neg c3]
    obtain ⟨v, f', h', r1, r2, r3⟩ := Bmark (n := 6) (dd := 1) hk (by omega) d1 d2 P
    have r1' : g_X5_bodyOf 10 ((mj_tab 2).getD d 0) (4 + 4 + k) (nI k) 1 (mj_wr fX 26 1 0) = some (v, f') := r1
    rw [r1', r2]
    exact ⟨_, _, rfl, rfl, rfl, r3.1⟩
