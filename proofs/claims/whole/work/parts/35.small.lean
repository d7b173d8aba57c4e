/-! feed, image, restore, kind, as, trace, count -/
theorem sim_feed : ls_feed rel := by
  intro fX fM gM hR x1
  unfold g_X6_feed g_X7_feed g_X4_add
  rw [in_0_255]
  by_cases c1 : g_X6_within x1 0 255 = 0
  · rw [if_pos c1, if_pos c1]
    exact ⟨_, _, rfl, rfl, rfl, hR⟩
  rw [if_neg c1, if_neg c1]
  obtain ⟨h1, ⟨h2, h3⟩, ⟨n, hn, e1, e2, e3⟩, h5, h6, h7, h8, h9⟩ := hR
  rw [e1, e2]
  by_cases c2 : n = 120
  · subst c2
    rw [if_neg (by decide), if_pos (by decide)]
    exact ⟨_, _, rfl, rfl, rfl, h1, ⟨h2, h3⟩, ⟨_, hn, e1, e2, e3⟩, h5, h6, h7, h8, h9⟩
  have c3 : nI n < (120 : Int32) := nI_lt (a := n) (b := 120) (by omega) (by decide)
  have c4 : ¬ nI n = (120 : Int32) := fun z => c2 (nI_inj (by omega) (by omega) (show nI n = nI 120 from z))
  have k1 : mj_in (nI n) 120 = true := mj_in_nI (by omega) (by decide)
  rw [if_pos c3, if_neg c4]
  have w1 : mj_wr fX 3 n x1 2 1 = nI n := by rw [wr_ne _ _ (by omega), e1]
  have w2 : mj_wr fM 6 n x1 0 8 = nI n := by rw [wr_ne _ _ (by omega), e2]
  simp only [mj_lt, k1, ↓reduceIte, ix_nI (show n < 2 ^ 31 by omega), w1, w2, Option.bind_some, show ¬ (1 : Int32) = 0 by decide]
  have r : rel (mj_wr (mj_wr fX 3 n x1) 2 1 (nI n + 1)) (mj_wr (mj_wr fM 6 n x1) 0 8 (nI n + 1)) gM := by
    have xa : ∀ b, b ≠ 2 → b ≠ 3 → mj_wr (mj_wr fX 3 n x1) 2 1 (nI n + 1) b = fX b := fun b k2 k3 => by rw [wr_ne1 _ _ k2, wr_ne1 _ _ k3]
    have ma : ∀ b, b ≠ 0 → b ≠ 6 → mj_wr (mj_wr fM 6 n x1) 0 8 (nI n + 1) b = fM b := fun b k2 k3 => by rw [wr_ne1 _ _ k2, wr_ne1 _ _ k3]
    have mb : ∀ j, j ≠ 8 → mj_wr (mj_wr fM 6 n x1) 0 8 (nI n + 1) 0 j = fM 0 j := fun j k2 => by rw [wr_ne _ _ (by omega), wr_ne _ _ (by omega)]
    refine ⟨rows_c h1 (fun b _ _ => xa b (by omega) (by omega)) (fun b _ _ => ma b (by omega) (by omega)), ⟨by rw [xa 0 (by omega) (by omega), mb 3 (by omega)]; exact h2, by rw [xa 0 (by omega) (by omega), mb 9 (by omega)]; exact h3⟩, ⟨n + 1, by omega, by rw [wr_eq, nI_1], by rw [wr_eq, nI_1], fun i hi => ?_⟩, now_c h5 (fun b _ _ => xa b (by omega) (by omega)) (mb 4 (by omega)) (ma 4 (by omega) (by omega)), acts_c h6 (by rw [xa 24 (by omega) (by omega)]) (by rw [xa 24 (by omega) (by omega)]) (xa 25 (by omega) (by omega)) (mb 18 (by omega)) (ma 8 (by omega) (by omega)) (fun j _ => by rw [ma 4 (by omega) (by omega)]), imgs_c h7 (fun b _ _ => xa b (by omega) (by omega)) (ma 12 (by omega) (by omega)) (ma 13 (by omega) (by omega)) (fun z => by rw [mb 4 (by omega)]; exact z), trace_c h8 (by rw [xa 26 (by omega) (by omega)]) (xa 27 (by omega) (by omega)) (mb 28 (by omega)) (ma 14 (by omega) (by omega)), bool_c h9 (fun b hb => xa b (by omega) (by omega))⟩
    rw [wr_ne1 (b := 3) _ _ (by omega), wr_ne1 (b := 6) _ _ (by omega)]
    by_cases e : i = n
    · subst e; rw [wr_eq, wr_eq]
    · rw [wr_ne _ _ (by omega), wr_ne _ _ (by omega)]
      exact e3 i (by omega)
  exact ⟨(nI n + 1, mj_wr (mj_wr fX 3 n x1) 2 1 (nI n + 1)), (nI n + 1, mj_wr (mj_wr fM 6 n x1) 0 8 (nI n + 1)), by rw [wr_eq], by rw [wr_eq], rfl, r⟩
theorem img_loop {k : Nat} (hk : k < 2) : ∀ n i h, i ≤ 82 → 82 < i + n → ∃ h', g_X7_image_25 n (nI k) (nI i) h = some h' ∧ (∀ b, b ≠ 13 → h' b = h b) ∧ (∀ j, i ≤ j → j < 82 → h' 13 (82 * k + j) = h 4 j) ∧ ∀ j, ¬ (82 * k + i ≤ j ∧ j < 82 * k + 82) → h' 13 j = h 13 j := by
  intro n
  induction n with
  | zero => intro i h h1 h2; omega
  | succ n ih =>
    intro i h h1 h2
    unfold g_X7_image_25
    by_cases hi : i = 82
    · subst hi
      rw [if_neg (by decide)]
      exact ⟨h, rfl, fun _ _ => rfl, fun j _ _ => by omega, fun _ _ => rfl⟩
    have h1' : mj_in (nI i) 82 = true := mj_in_nI (by omega) (by decide)
    have h2' : mj_in (nI (82 * k + i)) 164 = true := mj_in_nI (by omega) (by decide)
    have e82 : (82 : Int32) * nI k = nI (82 * k) := (Int32.ofNat_mul 82 k).symm
    rw [if_pos (show nI i < (82 : Int32) from nI_lt (a := i) (b := 82) (by omega) (by decide)), e82, nI_add]
    simp only [mj_lt, h1', h2', ↓reduceIte, ix_nI (show i < 2 ^ 31 by omega), ix_nI (show 82 * k + i < 2 ^ 31 by omega), nI_1]
    obtain ⟨h', q1, q2, q3, q4⟩ := ih (i + 1) (mj_wr h 13 (82 * k + i) (h 4 i)) (by omega) (by omega)
    refine ⟨h', q1, fun b hb => by rw [q2 b hb, wr_ne1 _ _ hb], fun j k1 k2 => ?_, fun j hj => by rw [q4 j (by omega), wr_ne _ _ (by omega)]⟩
    by_cases e : j = i
    · subst e; rw [q4 _ (by omega), wr_eq]
    · rw [q3 j (by omega) k2, wr_ne1 _ _ (by omega)]
theorem res_loop {k : Nat} (hk : k < 2) : ∀ n i h, i ≤ 82 → 82 < i + n → ∃ h', g_X7_restore_27 n (nI k) (nI i) h = some h' ∧ (∀ b, b ≠ 4 → h' b = h b) ∧ (∀ j, i ≤ j → j < 82 → h' 4 j = h 13 (82 * k + j)) ∧ ∀ j, j < i → h' 4 j = h 4 j := by
  intro n
  induction n with
  | zero => intro i h h1 h2; omega
  | succ n ih =>
    intro i h h1 h2
    unfold g_X7_restore_27
    by_cases hi : i = 82
    · subst hi
      rw [if_neg (by decide)]
      exact ⟨h, rfl, fun _ _ => rfl, fun j _ _ => by omega, fun _ _ => rfl⟩
    have h1' : mj_in (nI i) 82 = true := mj_in_nI (by omega) (by decide)
    have h2' : mj_in (nI (82 * k + i)) 164 = true := mj_in_nI (by omega) (by decide)
    have e82 : (82 : Int32) * nI k = nI (82 * k) := (Int32.ofNat_mul 82 k).symm
    rw [if_pos (show nI i < (82 : Int32) from nI_lt (a := i) (b := 82) (by omega) (by decide)), e82, nI_add]
    simp only [mj_lt, h1', h2', ↓reduceIte, ix_nI (show i < 2 ^ 31 by omega), ix_nI (show 82 * k + i < 2 ^ 31 by omega), nI_1]
    obtain ⟨h', q1, q2, q3, q4⟩ := ih (i + 1) (mj_wr h 4 i (h 13 (82 * k + i))) (by omega) (by omega)
    refine ⟨h', q1, fun b hb => by rw [q2 b hb, wr_ne1 _ _ hb], fun j k1 k2 => ?_, fun j hj => by rw [q4 j (by omega), wr_ne _ _ (by omega)]⟩
    by_cases e : j = i
    · subst e; rw [q4 _ (by omega), wr_eq]
    · rw [q3 j (by omega) k2, wr_ne1 _ _ (by omega)]
theorem b_one {x : Int32} (h : mj_b x = true) (hne : ¬ x = 0) : x = 1 := by
  rcases mj_b_or h with rfl | rfl
  · exact absurd rfl hne
  · rfl
theorem isH_img {k : Nat} (hk : k < 2) : mx_isH (44 + 9 * k) := by
  rcases (show k = 0 ∨ k = 1 by omega) with rfl | rfl
  · exact Or.inr (Or.inr (Or.inl rfl))
  · exact Or.inr (Or.inr (Or.inr rfl))
theorem sim_image : ls_image rel := by
  intro fX fM gM hR x1
  unfold g_X6_image g_X7_image
  rw [stands_eq hR, in_0_1]
  by_cases c1 : g_X6_within x1 0 1 = 0
  · rw [if_pos c1, if_pos c1]
    exact ⟨_, _, rfl, rfl, rfl, hR⟩
  rw [if_neg c1, if_neg c1]
  by_cases c2 : fM 0 4 = 0
  · rw [if_pos c2, if_pos c2]
    exact ⟨_, _, rfl, rfl, rfl, hR⟩
  rw [if_neg c2, if_neg c2]
  obtain ⟨k, _, hk, rfl⟩ := wi_ex (a := 0) (b := 1) rfl rfl (by decide) c1
  have k2 : mj_in (nI k) 2 = true := mj_in_nI (by omega) (by decide)
  have se := stands_eq hR
  have H := now_hs hR
  have hb0 := (hR.2.2.2.2.2.2.2 4 (Or.inl rfl)).1
  have one : fM 0 4 = 1 := b_one (by rw [← se]; exact hb0) c2
  obtain ⟨f1, q1, q2, q3, q4, q5⟩ := become_ok (a0 := 44 + 9 * k) (a1 := 4) (by omega) hb0 H.2.2
  obtain ⟨m1, p1, p2, p3, p4⟩ := img_loop (k := k) (by omega) mj_fuel 0 fM (by omega) (by rw [fuel_eq]; omega)
  rw [show nI 0 = (0 : Int32) from rfl] at p1
  simp only [k2, ↓reduceIte, ix_nI (show k < 2 ^ 31 by omega), q1, p1, Option.bind_some, mj_lt]
  obtain ⟨h1, ⟨h2, h3⟩, h4, h5, h6, h7, h8, h9⟩ := hR
  have mb : ∀ b, b ≠ 12 → b ≠ 13 → mj_wr m1 12 k 1 b = fM b := fun b k2 k3 => by rw [wr_ne1 _ _ k2, p2 b k3]
  have r : rel f1 (mj_wr m1 12 k 1) gM := by
    refine ⟨rows_c h1 (fun b _ _ => q2 b (by omega)) (fun b _ _ => mb b (by omega) (by omega)), ⟨by rw [q2 0 (by omega), mb 0 (by omega) (by omega)]; exact h2, by rw [q2 0 (by omega), mb 0 (by omega) (by omega)]; exact h3⟩, tape_c h4 (by rw [q2 2 (by omega)]) (q2 3 (by omega)) (by rw [mb 0 (by omega) (by omega)]) (mb 6 (by omega) (by omega)), now_c h5 (fun b _ _ => q2 b (by omega)) (by rw [mb 0 (by omega) (by omega)]) (mb 4 (by omega) (by omega)), acts_c h6 (by rw [q2 24 (by omega)]) (by rw [q2 24 (by omega)]) (q2 25 (by omega)) (by rw [mb 0 (by omega) (by omega)]) (mb 8 (by omega) (by omega)) (fun j _ => by rw [mb 4 (by omega) (by omega)]), ?_, trace_c h8 (by rw [q2 26 (by omega)]) (q2 27 (by omega)) (by rw [mb 0 (by omega) (by omega)]) (mb 14 (by omega) (by omega)), ?_⟩
    · intro i hi
      rw [mb 0 (by omega) (by omega), wr_ne1 (b := 13) _ _ (by omega)]
      by_cases e : i = k
      · subst e
        rw [wr_eq, q3, se]
        refine ⟨one, fun _ => ⟨one, hr_cs (q4 _ H.1) (fun j hj => p3 j (by omega) hj), hv_c h5.2.2 (fun j hj => p3 j (by omega) hj)⟩⟩
      · rw [wr_ne _ _ (by omega), p2 12 (by omega), q2 _ (by omega)]
        obtain ⟨a1, a2⟩ := h7 i hi
        refine ⟨a1, fun hz => ⟨one, hr_cs (hr_c (a2 hz).2.1 (fun b _ _ => q2 b (by omega))) (fun j hj => p4 _ (by omega)), hv_c (a2 hz).2.2 (fun j hj => p4 _ (by omega))⟩⟩
    · intro a ha
      by_cases e : a = 44 + 9 * k
      · subst e
        exact ⟨by rw [q3]; exact hb0, q5⟩
      · have hl : a + 9 ≤ 44 + 9 * k ∨ 44 + 9 * k + 9 ≤ a := by
          rcases ha with rfl | rfl | rfl | rfl <;> omega
        exact ⟨by rw [q2 a (by omega)]; exact (h9 a ha).1, fun j hj => by rw [q2 (a + 4 + j) (by omega)]; exact (h9 a ha).2 j hj⟩
  exact ⟨_, _, rfl, rfl, rfl, r⟩
theorem sim_restore : ls_restore rel := by
  intro fX fM gM hR x1
  unfold g_X6_restore g_X7_restore g_X0_forget
  rw [in_0_1]
  by_cases c1 : g_X6_within x1 0 1 = 0
  · rw [if_pos c1, if_pos c1]
    exact ⟨_, _, rfl, rfl, rfl, hR⟩
  rw [if_neg c1, if_neg c1]
  obtain ⟨k, _, hk, rfl⟩ := wi_ex (a := 0) (b := 1) rfl rfl (by decide) c1
  have k2 : mj_in (nI k) 2 = true := mj_in_nI (by omega) (by decide)
  have hI := hR.2.2.2.2.2.1 k (by omega)
  simp only [k2, ↓reduceIte, ix_nI (show k < 2 ^ 31 by omega), hI.1, mj_lt]
  by_cases c2 : fM 12 k = 0
  · rw [if_pos c2, if_pos c2]
    exact ⟨_, _, rfl, rfl, rfl, hR⟩
  rw [if_neg c2, if_neg c2]
  obtain ⟨one, hr, hv⟩ := hI.2 c2
  have hB := hR.2.2.2.2.2.2.2 (44 + 9 * k) (isH_img (by omega))
  have one' : fM 12 k = 1 := b_one (by rw [← hI.1]; exact hB.1) c2
  obtain ⟨f1, q1, q2, q3, q4, q5⟩ := become_ok (a0 := 4) (a1 := 44 + 9 * k) (by omega) hB.1 hB.2
  obtain ⟨m1, p1, p2, p3, p4⟩ := res_loop (k := k) (by omega) mj_fuel 0 fM (by omega) (by rw [fuel_eq]; omega)
  rw [show nI 0 = (0 : Int32) from rfl] at p1
  simp only [q1, p1, Option.bind_some]
  obtain ⟨h1, ⟨h2, h3⟩, h4, h5, ⟨n, p, hn, hp, e1, e2, e3, hA⟩, h7, h8, h9⟩ := hR
  have xb : ∀ b, ¬ (4 ≤ b ∧ b < 13) → b ≠ 24 → mj_wr f1 24 2 0 b = fX b := fun b k2 k3 => by rw [wr_ne1 _ _ k3, q2 b (by omega)]
  have xc : ∀ b, b ≠ 24 → mj_wr f1 24 2 0 b = f1 b := fun b k3 => wr_ne1 _ _ k3
  have mb : ∀ b, b ≠ 0 → b ≠ 4 → mj_wr m1 0 18 0 b = fM b := fun b k2 k3 => by rw [wr_ne1 _ _ k2, p2 b k3]
  have mc : ∀ j, j ≠ 18 → mj_wr m1 0 18 0 0 j = fM 0 j := fun j hj => by rw [wr_ne _ _ (by omega), p2 0 (by omega)]
  have r : rel (mj_wr f1 24 2 0) (mj_wr m1 0 18 0) gM := by
    refine ⟨rows_c h1 (fun b _ _ => xb b (by omega) (by omega)) (fun b _ _ => mb b (by omega) (by omega)), ⟨by rw [xb 0 (by omega) (by omega), mc 3 (by omega)]; exact h2, by rw [xb 0 (by omega) (by omega), mc 9 (by omega)]; exact h3⟩, tape_c h4 (by rw [xb 2 (by omega) (by omega)]) (xb 3 (by omega) (by omega)) (mc 8 (by omega)) (mb 6 (by omega) (by omega)), ⟨?_, ?_, ?_⟩, ⟨0, p, by omega, hp, by rw [wr_eq]; rfl, by rw [wr_eq]; rfl, by rw [wr_ne _ _ (by omega), q2 24 (by omega)]; exact e3, fun i hi => by omega⟩, imgs_c h7 (fun b _ _ => xb b (by omega) (by omega)) (mb 12 (by omega) (by omega)) (mb 13 (by omega) (by omega)) (fun z => by rw [mc 4 (by omega)]; exact z), trace_c h8 (by rw [xb 26 (by omega) (by omega)]) (xb 27 (by omega) (by omega)) (mc 28 (by omega)) (mb 14 (by omega) (by omega)), ?_⟩
    · rw [xc 4 (by omega), q3, hI.1, one', mc 4 (by omega), one]
    · rw [wr_ne1 (b := 4) _ _ (by omega)]
      exact hr_c (hr_cs (q4 _ hr) (fun j hj => p3 j (by omega) hj)) (fun b _ _ => xc b (by omega))
    · rw [wr_ne1 (b := 4) _ _ (by omega)]
      exact hv_c hv (fun j hj => p3 j (by omega) hj)
    · intro a ha
      by_cases e : a = 4
      · subst e
        exact ⟨by rw [xc 4 (by omega), q3]; exact hB.1, fun j hj => by rw [xc (4 + 4 + j) (by omega)]; exact q5 j hj⟩
      · have hl : 13 ≤ a ∧ (a + 9 ≤ 24 ∨ 25 ≤ a) := by
          rcases ha with rfl | rfl | rfl | rfl <;> omega
        exact ⟨by rw [xb a (by omega) (by omega)]; exact (h9 a ha).1, fun j hj => by rw [xb (a + 4 + j) (by omega) (by omega)]; exact (h9 a ha).2 j hj⟩
  exact ⟨_, _, rfl, rfl, rfl, r⟩
theorem sim_kind : ls_kind rel := by
  intro fX fM gM hR x1
  unfold g_X6_kind g_X7_kind
  rw [iscl_eq hR]
  by_cases c1 : g_X6_isCloud x1 fX = 0
  · rw [if_pos c1, if_pos c1]
    exact ⟨_, _, rfl, rfl, rfl, hR⟩
  rw [if_neg c1, if_neg c1]
  obtain ⟨k, hk, rfl, hm⟩ := iscl_ex hR c1
  simp only [in5 hk, ix51 hk, ↓reduceIte]
  exact ⟨_, _, rfl, rfl, ((now_hs hR).1.2.2.2 k hm hk).1, hR⟩
theorem as_tab : ∀ u, u < 6 → 1 ≤ u → ∀ x, x < 6 → ((nI x = nI u ∨ nI x = (mj_tab 0).getD u 0 ∨ nI x = 0) ↔ ¬ g_X7_isKind (nI u) (nI x) = 0) := by decide +kernel
theorem as_both {f h : mj_I} {g : mj_L} (hR : rel f h g) (v : Int32) : rel (g_X6_clean v f).2 (g_X7_well v h).2 g :=
  clean_both (f' := f) (h' := h) hR hR.1 (fun _ _ _ => rfl) (fun _ _ _ _ => rfl) v
theorem sim_as : ls_as rel := by
  intro fX fM gM hR x1 x2
  unfold g_X6_as g_X7_as g_X6_as_56
  rw [iscl_eq hR, in_0_5]
  by_cases c1 : g_X6_isCloud x1 fX = 0
  · rw [if_pos c1, if_pos c1]
    exact ⟨_, _, rfl, rfl, rfl, hR⟩
  rw [if_neg c1, if_neg c1]
  by_cases c2 : g_X6_within x2 0 5 = 0
  · rw [if_pos c2, if_pos c2]
    exact ⟨_, _, rfl, rfl, rfl, hR⟩
  rw [if_neg c2, if_neg c2]
  obtain ⟨k, hk, rfl, hm⟩ := iscl_ex hR c1
  obtain ⟨x, _, hx, rfl⟩ := wi_ex (a := 0) (b := 5) rfl rfl (by decide) c2
  obtain ⟨u, u1, u2, eu⟩ := kd_ex (now_hs hR) hk hm
  have d0 := ((now_hs hR).1.2.2.2 k hm hk).1
  have at' := as_tab u (by omega) u1 x (by omega)
  have u6 : mj_in (nI u) 6 = true := mj_in_nI (by omega) (by decide)
  simp only [in5 hk, ix51 hk, ↓reduceIte, mj_lt, d0, eu, u6, ix_nI (show u < 2 ^ 31 by omega), show ¬ (1 : Int32) = 0 by decide]
  by_cases c : g_X7_isKind (nI u) (nI x) = 0
  · have n1 : ¬ nI x = nI u := fun z => at'.mp (Or.inl z) c
    have n2 : ¬ nI x = (mj_tab 0).getD u 0 := fun z => at'.mp (Or.inr (Or.inl z)) c
    have n3 : ¬ nI x = 0 := fun z => at'.mp (Or.inr (Or.inr z)) c
    rw [if_pos c, if_neg n1, if_neg n2, if_neg n3]
    exact ⟨_, _, rfl, rfl, rfl, (find_both hR 3).2⟩
  · rw [if_neg c]
    have fin := as_both hR (nI k)
    rcases at'.mpr c with n1 | n2 | n3
    · rw [if_pos n1]
      exact ⟨_, _, rfl, rfl, rfl, fin⟩
    · rw [if_pos n2, ite_self]
      exact ⟨_, _, rfl, rfl, rfl, fin⟩
    · rw [if_pos n3, ite_self, ite_self]
      exact ⟨_, _, rfl, rfl, rfl, fin⟩
theorem sim_trace : ls_trace rel := by
  intro fX fM gM hR x1
  unfold g_X6_trace g_X7_trace
  obtain ⟨n, hn, e1, e2, e3⟩ := hR.2.2.2.2.2.2.1
  rw [in_0x, e1, e2]
  by_cases c1 : g_X6_within x1 0 (nI n - 1) = 0
  · rw [if_pos c1, if_pos c1]
    exact ⟨_, _, rfl, rfl, rfl, hR⟩
  rw [if_neg c1, if_neg c1]
  by_cases h0 : n = 0
  · subst h0
    exfalso
    apply c1
    rw [wi_iff]
    intro q
    have : (nI 0 - 1 : Int32).toInt = -1 := by decide
    have : (0 : Int32).toInt = 0 := rfl
    omega
  rw [show nI n - 1 = nI (n - 1) by rw [show nI n = nI (n - 1) + 1 by rw [nI_1, show n - 1 + 1 = n by omega]]; exact Int32.add_sub_cancel _ _] at c1
  obtain ⟨k, _, k2, rfl⟩ := wi_ex (a := 0) (b := n - 1) rfl (nI_toInt (by omega)) (by omega) c1
  have k3 : mj_in (nI k) 16 = true := mj_in_nI (by omega) (by decide)
  simp only [k3, ↓reduceIte, ix_nI (show k < 2 ^ 31 by omega)]
  exact ⟨_, _, rfl, rfl, e3 k (by omega), hR⟩
theorem cnt_rows {f h : mj_I} (hR : rl_rows f h) {x : Int32} : ∀ n i s, i ≤ 8 → 8 < i + n → ∃ v, g_X6_rowsThere_4 n s (nI i) f = some v ∧ g_X7_count_4 n x s (nI i) h = some v := by
  intro n
  induction n with
  | zero => intro i s h1 h2; omega
  | succ n ih =>
    intro i s h1 h2
    unfold g_X6_rowsThere_4 g_X7_count_4
    by_cases hi : i = 8
    · subst hi
      rw [if_neg (by decide), if_neg (by decide)]
      exact ⟨_, rfl, rfl⟩
    have hlt : nI i < (8 : Int32) := nI_lt (a := i) (b := 8) (by omega) (by decide)
    have k1 : mj_in (nI i) 8 = true := mj_in_nI (by omega) (by decide)
    rw [if_pos hlt, if_pos hlt]
    simp only [k1, ↓reduceIte, mj_lt, ix_nI (show i < 2 ^ 31 by omega), nI_1]
    rcases hR i (by omega) with ⟨a1, a2⟩ | ⟨a1, m, a2, a3, _⟩
    · rw [a1, a2, if_pos (by decide)]
      exact ih (i + 1) _ (by omega) (by omega)
    · rw [a1, a3, if_neg (nI_pos (by omega))]
      exact ih (i + 1) _ (by omega) (by omega)
theorem cnt_left {m a : Nat} {f h : mj_I} {x y : Int32} (H : hs a f h) (hc : h 4 50 = nI m) (hm : m ≤ 5) : ∀ n i s, i ≤ m → m < i + n → ∃ v, g_X2_cloudsLeft_4 n a s (nI i) f = some v ∧ g_X7_count_38 n x y s (nI i) h = some v := by
  have e4 : f a 4 = h 4 50 := H.1.1.2.2.2.1
  intro n
  induction n with
  | zero => intro i s h1 h2; omega
  | succ n ih =>
    intro i s h1 h2
    unfold g_X2_cloudsLeft_4 g_X7_count_38
    rw [e4, hc]
    by_cases hi : i = m
    · have : ¬ nI i < nI m := nI_nlt (by omega) (by omega)
      rw [if_neg this, if_neg this]
      exact ⟨_, rfl, rfl⟩
    have hlt : nI i < nI m := nI_lt (by omega) (by omega)
    have h5 : i < 5 := by omega
    rw [if_pos hlt, if_pos hlt, there_step h5]
    have c4 := (H.1.2.2.2 i (by rw [hc]; exact hlt) h5).2.2.2.2.1
    simp only [mj_lt, in5 h5, c4, ↓reduceIte, Option.bind_some, nI_1, show g_X6_bit 1 = 1 from rfl, show g_X6_bit 0 = 0 from rfl]
    by_cases hg : h 4 (71 + i) = 0
    · simp only [hg, ↓reduceIte, show ¬ (1 : Int32) = 0 by decide]
      exact ih (i + 1) _ (by omega) (by omega)
    · simp only [hg, ↓reduceIte]
      exact ih (i + 1) _ (by omega) (by omega)
theorem sim_count : ls_count rel := by
  intro fX fM gM hR x1
  have H := now_hs hR
  obtain ⟨m, hm, em⟩ := mj_in_ex H.2.1.1 (by decide)
  obtain ⟨v, q1, q2⟩ := cnt_rows (x := x1) hR.1 mj_fuel 0 0 (by omega) (by rw [fuel_eq]; omega)
  obtain ⟨w, q3, q4⟩ := cnt_left (x := x1) (y := v) H em (by omega) mj_fuel 0 0 (by omega) (by rw [fuel_eq]; omega)
  rw [show nI 0 = (0 : Int32) from rfl] at q1 q2 q3 q4
  obtain ⟨⟨⟨g0, g1, g2, g3, g4, g5, g6⟩, _, _, _⟩, _, _⟩ := H
  obtain ⟨n, p, hn, hp, e1, e2, e3, hA⟩ := hR.2.2.2.2.1
  obtain ⟨n', hn', e1', e2', _⟩ := hR.2.2.1
  unfold g_X6_count g_X7_count g_X6_rowsThere g_X2_cloudsLeft
  simp only [q1, q2, q3, q4, Option.bind_some, g2, g3, g4, g5, g6, e1, e2, e1', e2']
  repeat' split
  all_goals exact ⟨_, _, rfl, rfl, rfl, hR⟩
