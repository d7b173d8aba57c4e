theorem undo_loop {m : Nat} (hm : m < 24) : ∀ n i h, h 0 18 = nI m → i ≤ 82 → 82 < i + n → ∃ h', g_X7_undo_22 n (nI i) h = some h' ∧ (∀ b, b ≠ 4 → h' b = h b) ∧ (∀ j, i ≤ j → j < 82 → h' 4 j = h 8 (82 * m + j)) ∧ ∀ j, j < i → h' 4 j = h 4 j := by
  intro n
  induction n with
  | zero => intro i h _ h1 h2; omega
  | succ n ih =>
    intro i h hc h1 h2
    unfold g_X7_undo_22
    by_cases hi : i = 82
    · subst hi
      rw [if_neg (by decide)]
      exact ⟨h, rfl, fun _ _ => rfl, fun j _ _ => by omega, fun _ _ => rfl⟩
    have h1' : mj_in (nI i) 82 = true := mj_in_nI (by omega) (by decide)
    have h2' : mj_in (nI (82 * m + i)) 1968 = true := mj_in_nI (by omega) (by decide)
    have e82 : (82 : Int32) * nI m = nI (82 * m) := (Int32.ofNat_mul 82 m).symm
    rw [if_pos (show nI i < (82 : Int32) from nI_lt (a := i) (b := 82) (by omega) (by decide)), hc, e82, nI_add]
    simp only [mj_lt, h1', h2', ↓reduceIte, ix_nI (show i < 2 ^ 31 by omega), ix_nI (show 82 * m + i < 2 ^ 31 by omega), nI_1]
    obtain ⟨h', q1, q2, q3, q4⟩ := ih (i + 1) (mj_wr h 4 i (h 8 (82 * m + i))) (by rw [wr_ne1 _ _ (by omega)]; exact hc) (by omega) (by omega)
    refine ⟨h', q1, fun b hb => by rw [q2 b hb, wr_ne1 _ _ hb], fun j k1 k2 => ?_, fun j hj => by rw [q4 j (by omega), wr_ne _ _ (by omega)]⟩
    by_cases e : j = i
    · subst e; rw [q4 _ (by omega), wr_eq]
    · rw [q3 j (by omega) k2, wr_ne1 _ _ (by omega)]
theorem bit_ite {x : Int32} (h : mj_in x 2 = true) : (if x = 0 then (0 : Int32) else 1) = x := bit_in h
theorem b01 {p : Prop} [Decidable p] : mj_b (if p then (0 : Int32) else 1) = true := by split <;> rfl
theorem sim_undo : ls_undo rel := by
  intro fX fM gM hR
  have hH := now_hs hR
  obtain ⟨h1, ⟨h2, h3⟩, h4, h5, ⟨n, p, hn, hp, e1, e2, e3, hA⟩, h7, h8, h9⟩ := hR
  unfold g_X6_undo g_X7_undo
  rw [e1, e2]
  by_cases c0 : nI n = 0
  · rw [if_pos c0, if_pos c0]
    exact ⟨_, _, rfl, rfl, rfl, h1, ⟨h2, h3⟩, h4, h5, ⟨n, p, hn, hp, e1, e2, e3, hA⟩, h7, h8, h9⟩
  rw [if_neg c0, if_neg c0]
  have hn0 : 0 < n := Nat.pos_of_ne_zero (fun z => c0 (by rw [z]; rfl))
  obtain ⟨m, rfl⟩ : ∃ m, n = m + 1 := ⟨n - 1, by omega⟩
  have em : nI (m + 1) - 1 = nI m := by rw [← nI_1]; exact Int32.add_sub_cancel _ _
  obtain ⟨p', ep'⟩ : ∃ p', p' = (p + 23) % 24 := ⟨_, rfl⟩
  have hp' : p' < 24 := by omega
  have a1 := (r8 p hp).2.2
  have a2 := (r8 p' hp').1
  rw [← ep'] at a1
  obtain ⟨b1, b2, b3, b4, b5, b6⟩ := hA m (by omega)
  have epos : (p + 24 - (m + 1) + m) % 24 = p' := by omega
  rw [epos] at b3 b4 b5 b6
  -- the second
  obtain ⟨hM, m1, m2, m3, m4⟩ := undo_loop (m := m) (by omega) mj_fuel 0 (mj_wr fM 0 18 (nI m)) (wr_eq _ _ _ _) (by omega) (by rw [fuel_eq]; omega)
  -- the first
  have ex1 : nI (8 * p') + 1 = nI (8 * p' + 1) := nI_1 _
  have ex2 : nI (8 * p') + 2 = nI (8 * p' + 2) := nI_add _ 2
  obtain ⟨f5, e5⟩ : ∃ f5, f5 = mj_wr (mj_wr (mj_wr (mj_wr (mj_wr fX 24 1 (nI p')) 24 2 (nI m)) 4 5 (fX 25 (8 * p'))) 4 6 (fX 25 (8 * p' + 1))) 4 7 (fX 25 (8 * p' + 2)) := ⟨_, rfl⟩
  obtain ⟨fF, x1, x2, x3⟩ := unp_loop hp' mj_fuel 0 f5 (by omega) (by rw [fuel_eq]; omega)
  have s5 : ∀ b, b ≠ 4 → b ≠ 24 → f5 b = fX b := fun b k1 k2 => by rw [e5, wr_ne1 _ _ k1, wr_ne1 _ _ k1, wr_ne1 _ _ k1, wr_ne1 _ _ k2, wr_ne1 _ _ k2]
  have XX : g_X0_takeBack 4 fX = some fF := by
    unfold g_X0_takeBack
    have w1 : mj_wr fX 24 1 (nI p') 24 2 = nI (m + 1) := by rw [wr_ne _ _ (by omega), e1]
    have w2 : mj_wr (mj_wr fX 24 1 (nI p')) 24 2 (nI m) 24 1 = nI p' := by rw [wr_ne _ _ (by omega), wr_eq]
    have w3 : mj_wr (mj_wr fX 24 1 (nI p')) 24 2 (nI m) 25 = fX 25 := by rw [wr_ne1 _ _ (by omega), wr_ne1 _ _ (by omega)]
    have w4 : ∀ (f : mj_I) (k : Nat) (x : Int32), mj_wr f 4 k x 25 = f 25 := fun f k x => wr_ne1 _ _ (by omega)
    simp only [mj_lt, e3, a1, w1, em, w2, a2, ex1, ex2, in192 (show 8 * p' < 192 by omega), in192 (show 8 * p' + 1 < 192 by omega), in192 (show 8 * p' + 2 < 192 by omega), ↓reduceIte, w4, w3]
    rw [← e5, show (0 : Int32) = nI 0 from rfl, x1]
    rfl
  rw [XX, em]
  simp only [Option.bind_some, mj_lt]
  rw [show nI 0 = (0 : Int32) from rfl] at m1
  rw [m1]
  simp only [Option.bind_some]
  have y1 : fF 24 1 = nI p' := by rw [x2 24 (by omega), e5, wr_ne _ _ (by omega), wr_ne _ _ (by omega), wr_ne _ _ (by omega), wr_ne _ _ (by omega), wr_eq]
  have y2 : fF 24 2 = nI m := by rw [x2 24 (by omega), e5, wr_ne _ _ (by omega), wr_ne _ _ (by omega), wr_ne _ _ (by omega), wr_eq]
  have y3 : hM 0 18 = nI m := by rw [m2 0 (by omega), wr_eq]
  have y4 : ∀ j, j ≠ 18 → hM 0 j = fM 0 j := fun j hj => by rw [m2 0 (by omega), wr_ne _ _ (by omega)]
  have y5 : ∀ b, b ≠ 0 → b ≠ 4 → hM b = fM b := fun b k0 k4 => by rw [m2 b k4, wr_ne1 _ _ k0]
  have y6 : ∀ j, j < 82 → hM 4 j = fM 8 (82 * m + j) := fun j hj => by rw [m3 j (by omega) hj, wr_ne1 _ _ (by omega)]
  have y7 : ∀ b, ¬ (8 ≤ b ∧ b < 13) → b ≠ 4 → b ≠ 24 → fF b = fX b := fun b k1 k2 k3 => by rw [x2 b (by omega), s5 b k2 k3]
  have y8 : ∀ j, j < 46 ∨ (49 ≤ j ∧ j < 56) → hM 4 j = fM 4 j := fun j hj => by rw [y6 j (by omega)]; exact b2 j hj
  have y9 : ∀ j, j ≠ 5 → j ≠ 6 → j ≠ 7 → fF 4 j = fX 4 j := fun j k5 k6 k7 => by rw [x2 4 (by omega), e5, wr_ne _ _ (by omega), wr_ne _ _ (by omega), wr_ne _ _ (by omega), wr_ne _ _ (by omega), wr_ne _ _ (by omega)]
  have z5 : fF 4 5 = hM 4 46 := by rw [x2 4 (by omega), e5, wr_ne _ _ (by omega), wr_ne _ _ (by omega), wr_eq, y6 46 (by omega)]; exact b3
  have z6 : fF 4 6 = hM 4 47 := by rw [x2 4 (by omega), e5, wr_ne _ _ (by omega), wr_eq, y6 47 (by omega)]; exact b4
  have z7 : fF 4 7 = hM 4 48 := by rw [x2 4 (by omega), e5, wr_eq, y6 48 (by omega)]; exact b5
  obtain ⟨⟨⟨g0, g1, g2, g3, g4, g5, g6⟩, hw, hpar, hc⟩, _, _⟩ := hH
  have hv : rl_hv 1000 (hM 4) := hv_c b1 (fun j hj => y6 j hj)
  have hr : rl_hr fF 4 (hM 4) := by
    refine ⟨⟨by rw [y9 1 (by omega) (by omega) (by omega), y8 44 (by omega)]; exact g0, by rw [y9 2 (by omega) (by omega) (by omega), y8 45 (by omega)]; exact g1, by rw [y9 3 (by omega) (by omega) (by omega), y8 49 (by omega)]; exact g2, by rw [y9 4 (by omega) (by omega) (by omega), y8 50 (by omega)]; exact g3, z5, z6, z7⟩, fun j hj => by rw [y7 5 (by omega) (by omega) (by omega), y8 j (by omega)]; exact hw j hj, fun j hj => by rw [y7 6 (by omega) (by omega) (by omega), y8 _ (by omega)]; exact hpar j hj, fun k k1 k2 => ?_⟩
    have k1' : nI k < fM 4 50 := by rw [← y8 50 (by omega)]; exact k1
    obtain ⟨v0, v1, v2, v3, v4, v5⟩ := x3 k (by omega) k2
    have pk := b6 k k1' k2
    rw [s5 25 (by omega) (by omega), show 8 * p' + 3 + k = 8 * p' + 3 + k from rfl, pk] at v1 v2 v3 v4 v5
    have hS : rl_hv 1000 (fun j => fM 8 (82 * m + j)) := b1
    obtain ⟨t1, t2, t3, t4, t5⟩ := un_pk hS k2 (show nI k < fM 8 (82 * m + 50) by rw [b2 50 (by omega)]; exact k1')
    obtain ⟨_, _, _, _, u4, u5, _⟩ := hv.2.2.2.2 k k1 k2
    rw [t1] at v1
    rw [t2] at v2
    rw [t5] at v3
    rw [t3] at v4
    rw [t4] at v5
    show fF (8 + k) 0 = _ ∧ fF (8 + k) 1 = _ ∧ fF (8 + k) 2 = _ ∧ fF (8 + k) 3 = _ ∧ fF (8 + k) 4 = _ ∧ fF (8 + k) 5 = _
    rw [y6 (71 + k) (by omega)] at u4
    rw [y6 (76 + k) (by omega)] at u5
    refine ⟨?_, by rw [v1, y6 _ (by omega)], by rw [v2, y6 _ (by omega)], by rw [v3, y6 _ (by omega)], by rw [v4, y6 _ (by omega)]; exact bit_ite u4, by rw [v5, y6 _ (by omega)]; exact bit_ite u5⟩
    rw [v0, s5 (8 + k) (by omega) (by omega), y8 _ (by omega)]
    exact (hc k k1' k2).1
  have fin : rel fF hM gM → ∃ (oX : Int32 × mj_I) (oM : Int32 × mj_I), some (fF 24 2, fF) = some oX ∧ some (hM 0 18, hM) = some oM ∧ oX.1 = oM.1 ∧ rel oX.2 oM.2 gM := fun r => ⟨_, _, rfl, rfl, by show fF 24 2 = hM 0 18; rw [y2, y3], r⟩
  apply fin
  refine ⟨rows_c h1 (fun b _ _ => y7 b (by omega) (by omega) (by omega)) (fun b _ _ => y5 b (by omega) (by omega)), ⟨by rw [y7 0 (by omega) (by omega) (by omega), y4 3 (by omega)]; exact h2, by rw [y7 0 (by omega) (by omega) (by omega), y4 9 (by omega)]; exact h3⟩, tape_c h4 (by rw [y7 2 (by omega) (by omega) (by omega)]) (y7 3 (by omega) (by omega) (by omega)) (y4 8 (by omega)) (y5 6 (by omega) (by omega)), ⟨by rw [y9 0 (by omega) (by omega) (by omega), y4 4 (by omega)]; exact h5.1, hr, hv⟩, ⟨m, p', by omega, hp', y2, y3, y1, fun i hi => ?_⟩, imgs_c h7 (fun b _ _ => y7 b (by omega) (by omega) (by omega)) (y5 12 (by omega) (by omega)) (y5 13 (by omega) (by omega)) (fun z => by rw [y4 4 (by omega)]; exact z), trace_c h8 (by rw [y7 26 (by omega) (by omega) (by omega)]) (y7 27 (by omega) (by omega) (by omega)) (y4 28 (by omega)) (y5 14 (by omega) (by omega)), ?_⟩
  · obtain ⟨d1, d2, d3, d4, d5, d6⟩ := hA i (by omega)
    have ei : (p' + 24 - m + i) % 24 = (p + 24 - (m + 1) + i) % 24 := by omega
    rw [ei, y7 25 (by omega) (by omega) (by omega), y5 8 (by omega) (by omega)]
    exact ⟨d1, fun j hj => by rw [y8 j hj]; exact d2 j hj, d3, d4, d5, fun k k1 k2 => d6 k (by rw [← y8 50 (by omega)]; exact k1) k2⟩
  · intro a ha
    by_cases e : a = 4
    · subst e
      refine ⟨by rw [y9 0 (by omega) (by omega) (by omega)]; exact (h9 4 ha).1, fun k hk => ?_⟩
      obtain ⟨_, _, _, _, v4, v5⟩ := x3 k (by omega) hk
      show mj_b (fF (8 + k) 4) = true ∧ mj_b (fF (8 + k) 5) = true
      rw [v4, v5]
      exact ⟨b01, b01⟩
    · have hl : 13 ≤ a ∧ (a + 9 ≤ 24 ∨ 25 ≤ a) := by
        rcases ha with rfl | rfl | rfl | rfl <;> omega
      exact ⟨by rw [y7 a (by omega) (by omega) (by omega)]; exact (h9 a ha).1, fun k hk => by rw [y7 (a + 4 + k) (by omega) (by omega) (by omega)]; exact (h9 a ha).2 k hk⟩
