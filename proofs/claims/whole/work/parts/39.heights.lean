/-! heights -/
theorem ht_bit : ∀ y, y < 256 → ∀ i, i < 8 → (mj_ushr (nI y) (nI i)) &&& 1 = (nI y >>> (nI i &&& 31)) &&& 1 ∧ mj_in ((nI y >>> (nI i &&& 31)) &&& 1) 2 = true := by decide +kernel
theorem alone_loop {k t0 x y : Nat} {e0 c3 c4 c5 c6 : Int32} (hk : k < 5) (hx : x ≤ 8) (hy : y < 256) (ht : t0 + x < 1099) : ∀ n i f h s, lo k f h → f 4 5 = nI t0 → h 4 46 = nI (t0 + i) → h 4 47 = e0 + s → i ≤ x → x < i + n →
    ∃ v f' h', g_X6_earnedAt_22 n (nI x) (nI y) s (nI i) f = some (v, f') ∧ g_X7_heights_90 n (nI k) (nI x) c3 c4 c5 c6 (nI y) (nI i) h = some h' ∧ (∀ b, b ≠ 22 → f' b = f b) ∧ (∀ b, b ≠ 0 → b ≠ 4 → h' b = h b) ∧ (∀ j, j ≠ 16 → h' 0 j = h 0 j) ∧ (∀ j, j < 46 ∨ (49 ≤ j ∧ j < 56) ∨ 82 ≤ j → h' 4 j = h 4 j) ∧ h' 4 47 = e0 + v := by
  intro n
  induction n with
  | zero => intro i f h s _ _ _ _ h1 h2; omega
  | succ n ih =>
    intro i f h s L e5 e46 e47 h1 h2
    unfold g_X6_earnedAt_22 g_X7_heights_90
    by_cases hi : i = x
    · have : ¬ nI i < nI x := nI_nlt (by omega) (by omega)
      rw [if_neg this, if_neg this]
      exact ⟨_, _, _, rfl, rfl, fun _ _ => rfl, fun _ _ _ => rfl, fun _ _ => rfl, fun _ _ => rfl, e47⟩
    have hlt : nI i < nI x := nI_lt (by omega) (by omega)
    obtain ⟨b1, b2⟩ := ht_bit y hy i (by omega)
    rw [if_pos hlt, if_pos hlt, b1]
    obtain ⟨m1, q1, q2, q3, q4⟩ := move_lo hk b2 L
    rw [q1]
    have f45 : g_X1_moveTo 22 ((nI y >>> (nI i &&& 31)) &&& 1) f 4 5 = nI t0 := by rw [q3.1 4 (by omega)]; exact e5
    obtain ⟨d, w, f2, h2', r1, r2, r3, r4, r5, r6, r7, r8, r9, _⟩ := alone_lo hk q2 (show t0 + i < 1099 by omega) (by rw [q3.2.2.2 46 (by omega)]; exact e46)
    simp only [mj_lt, Option.bind_some, f45, nI_add, r1, r2, nI_1]
    obtain ⟨v, f', h', t1, t2, t3, t4, t5, t6, t7⟩ := ih (i + 1) f2 h2' (s + d) r3 (by rw [r4 4 (by omega)]; exact f45) r9 (by rw [r8, q4, e47, Int32.add_assoc]) (by omega) (by omega)
    exact ⟨v, f', h', t1, t2, fun b hb => by rw [t3 b hb, r4 b hb, q3.1 b hb], fun b k0 k4 => by rw [t4 b k0 k4, r5 b k0 k4, q3.2.1 b k0 k4], fun j hj => by rw [t5 j hj, r6 j hj, q3.2.2.1 j hj], fun j hj => by rw [t6 j hj, r7 j hj, q3.2.2.2 j (by omega)], t7⟩
theorem i32_cancel (a b : Int32) : a + b - a = b := by
  rw [Int32.add_comm]; exact Int32.add_sub_cancel _ _
theorem earned_both {f h : mj_I} {g : mj_L} {k x y : Nat} {c3 c4 c5 c6 : Int32} (hR : rel f h g) (hk : k < 5) (hm : nI k < h 4 50) (hg : h 4 (71 + k) = 0) (hx : x ≤ 8) (hy : y < 256) :
    ∃ v f' h1 h2 h3, g_X6_earnedAt (nI k) (nI x) (nI y) f = some (v, f') ∧ g_X7_putAside h = some h1 ∧ g_X7_heights_90 mj_fuel (nI k) (nI x) c3 c4 c5 c6 (nI y) 0 h1 = some h2 ∧ h2 4 47 - h2 9 47 = v ∧ g_X7_takeBack h2 = some h3 ∧ rel f' h3 g ∧ h3 4 = h 4 := by
  have H := now_hs hR
  obtain ⟨b4, b5⟩ := H.2.2 k hk
  obtain ⟨f1, q1, q2, q3⟩ := cb_ok (b0 := 22) (b1 := 4 + 4 + k) (f := f) (by omega) b4 b5
  obtain ⟨h1, p1, p2, p3⟩ := aside_ok h
  obtain ⟨c0, c1, c2, c3', c4', c5'⟩ := H.1.2.2.2 k hm hk
  obtain ⟨t, ht, et⟩ := mj_in_ex hR.2.2.2.1.2.2.2.1 (by decide)
  have e4 : h1 4 = h 4 := p2 4 (by omega)
  have L : lo k f1 h1 := by
    unfold lo
    rw [e4, q2 5 (by omega), q2 6 (by omega), q2 4 (by omega), q3 0 (by omega), q3 1 (by omega), q3 2 (by omega), q3 3 (by omega), q3 5 (by omega)]
    exact ⟨H.2.1, ⟨hm, hg⟩, ⟨H.1.2.1, H.1.2.2.1, H.1.1.1, H.1.1.2.1⟩, c0, c1, c2, c3', c5'⟩
  obtain ⟨v, f2, h2, r1, r2, r3, r4, r5, r6, r7⟩ := alone_loop (e0 := h 4 47) (c3 := c3) (c4 := c4) (c5 := c5) (c6 := c6) hk hx hy (show t + x < 1099 by omega) mj_fuel 0 f1 h1 0 L (by rw [q2 4 (by omega), H.1.1.2.2.2.2.1]; exact et) (by rw [e4]; exact et) (by rw [e4, Int32.add_zero]) (by omega) (by rw [fuel_eq]; omega)
  have T : tb f h f2 h2 := ⟨fun b hb => by rw [r3 b (by omega), q2 b (by omega)], bool_c hR.2.2.2.2.2.2.2 (fun b hb => by rw [r3 b (by omega), q2 b (by omega)]), fun b hb => by rw [r4 b (by omega) (by omega), p2 b (by omega)], fun j hj => by rw [r5 j (by omega), p2 0 (by omega)], fun j hj => by rw [r4 9 (by omega) (by omega)]; exact p3 j hj, fun j hj => by rw [r6 j (by omega), e4]⟩
  obtain ⟨h3, s1, s2, s3, s4⟩ := tb_back hR T
  refine ⟨v, f2, h1, h2, h3, ?_, p1, r2, ?_, s1, s2, s3⟩
  · unfold g_X6_earnedAt
    rw [show nI 0 = (0 : Int32) from rfl] at r1
    simp only [in5 hk, ↓reduceIte, q1, Option.bind_some, r1]
  · rw [r7, r4 9 (by omega) (by omega), p3 47 (by omega), i32_cancel]
theorem ht_x {k x m i : Nat} {z b w v : Int32} {f f' : mj_I} (n : Nat) (hlt : nI i < nI m) (q1 : g_X6_earnedAt (nI k) (nI x) (nI i) f = some (v, f')) :
    g_X6_heights_87 (n + 1) (nI k) (nI x) z (nI m) b w (nI i) f = if w < v then g_X6_heights_87 n (nI k) (nI x) z (nI m) (nI i) v (nI (i + 1)) f' else g_X6_heights_87 n (nI k) (nI x) z (nI m) b w (nI (i + 1)) f' := by
  rw [g_X6_heights_87, if_pos hlt, q1]
  simp only [Option.bind_some, nI_1]
theorem ht_m {k x m i : Nat} {z b w v : Int32} {h h1 h2 h3 : mj_I} (n : Nat) (hlt : nI i < nI m) (q2 : g_X7_putAside h = some h1) (q3 : g_X7_heights_90 mj_fuel (nI k) (nI x) z b w (nI m) (nI i) 0 h1 = some h2) (q4 : h2 4 47 - h2 9 47 = v) (q5 : g_X7_takeBack h2 = some h3) :
    g_X7_heights_76 (n + 1) (nI k) (nI x) z b w (nI m) (nI i) h = if b < 0 then g_X7_heights_160 (g_X7_heights_76 n) (nI k) (nI x) z w (nI m) (nI i) v (nI i) h3 else if w < v then g_X7_heights_160 (g_X7_heights_76 n) (nI k) (nI x) z w (nI m) (nI i) v (nI i) h3 else g_X7_heights_160 (g_X7_heights_76 n) (nI k) (nI x) z w (nI m) (nI i) v b h3 := by
  rw [g_X7_heights_76, if_pos hlt, q2, Option.bind_some, q3, Option.bind_some]
  unfold mj_lt
  rw [q4, q5]
  rfl
theorem ht_160a {k x m i : Nat} {z w v : Int32} {h3 : mj_I} (n : Nat) : g_X7_heights_160 (g_X7_heights_76 n) (nI k) (nI x) z w (nI m) (nI i) v (nI i) h3 = g_X7_heights_76 n (nI k) (nI x) z (nI i) v (nI m) (nI (i + 1)) h3 := by
  unfold g_X7_heights_160
  rw [if_pos rfl, nI_1]
theorem ht_160b {k x m i b : Nat} {z w v : Int32} {h3 : mj_I} (n : Nat) (hne : ¬ nI b = nI i) : g_X7_heights_160 (g_X7_heights_76 n) (nI k) (nI x) z w (nI m) (nI i) v (nI b) h3 = g_X7_heights_76 n (nI k) (nI x) z (nI b) w (nI m) (nI (i + 1)) h3 := by
  unfold g_X7_heights_160
  rw [if_neg hne, nI_1]
theorem ht_loop {g : mj_L} {k x m : Nat} {z : Int32} (hk : k < 5) (hx : x ≤ 8) (hm : m ≤ 256) : ∀ n n' i f h b w, rel f h g → nI k < h 4 50 → h 4 (71 + k) = 0 → b < i → i ≤ m → m < i + n → m < i + n' →
    ∃ b' w' f' h', g_X6_heights_87 n (nI k) (nI x) z (nI m) (nI b) w (nI i) f = some (b', w', f') ∧ g_X7_heights_76 n' (nI k) (nI x) z (nI b) w (nI m) (nI i) h = some (b', w', h') ∧ rel f' h' g := by
  intro n
  induction n with
  | zero => intro n' i f h b w _ _ _ _ h1 h2; omega
  | succ n ih =>
    intro n' i f h b w hR hc hg hb h1 h2 h2'
    cases n' with
    | zero => omega
    | succ n' =>
      by_cases hi : i = m
      · have hnl : ¬ nI i < nI m := nI_nlt (by omega) (by omega)
        rw [g_X6_heights_87, g_X7_heights_76, if_neg hnl, if_neg hnl]
        exact ⟨_, _, _, _, rfl, rfl, hR⟩
      have hlt : nI i < nI m := nI_lt (by omega) (by omega)
      obtain ⟨v, f', h1', h2', h3', q1, q2, q3, q4, q5, q6, q7⟩ := earned_both (c3 := z) (c4 := nI b) (c5 := w) (c6 := nI m) hR hk hc hg hx (show i < 256 by omega)
      have hb0 : ¬ nI b < 0 := nI_pos (by omega)
      rw [ht_x n hlt q1, ht_m n' hlt q2 q3 q4 q5, if_neg hb0]
      by_cases c : w < v
      · rw [if_pos c, if_pos c, ht_160a]
        exact ih n' (i + 1) f' h3' i v q6 (by rw [q7]; exact hc) (by rw [q7]; exact hg) (by omega) (by omega) (by omega) (by omega)
      · have hne : ¬ nI b = nI i := fun e => by have := nI_inj (by omega) (by omega) e; omega
        rw [if_neg c, if_neg c, ht_160b n' hne]
        exact ih n' (i + 1) f' h3' b w q6 (by rw [q7]; exact hc) (by rw [q7]; exact hg) (by omega) (by omega) (by omega) (by omega)
theorem p2x : ∀ x, x < 9 → (1 : Int32) <<< (nI x &&& 31) = nI (2 ^ x) ∧ 1 ≤ 2 ^ x ∧ 2 ^ x ≤ 256 := by decide +kernel
theorem ht_both {f h : mj_I} {g : mj_L} {k x m : Nat} {z : Int32} (hR : rel f h g) (hk : k < 5) (hc : nI k < h 4 50) (hg : h 4 (71 + k) = 0) (hx : x ≤ 8) (hm1 : 1 ≤ m) (hm : m ≤ 256) :
    ∃ (oX oM : Int32 × mj_I), g_X6_heights_70 (nI k) (nI x) z (nI m) f = some oX ∧ ((g_X7_heights_76 mj_fuel (nI k) (nI x) z (-1000000) 0 (nI m) 0 h).bind fun q => if z = 0 then some (q.1, q.2.2) else some (q.2.1, q.2.2)) = some oM ∧ oX.1 = oM.1 ∧ rel oX.2 oM.2 g := by
  obtain ⟨v, f', h1', h2', h3', q1, q2, q3, q4, q5, q6, q7⟩ := earned_both (c3 := z) (c4 := -1000000) (c5 := 0) (c6 := nI m) (y := 0) hR hk hc hg hx (by omega)
  have hF : mj_fuel = 3999 + 1 := fuel_eq
  obtain ⟨b', w', f2, h2, r1, r2, r3⟩ := ht_loop (z := z) hk hx hm mj_fuel 3999 1 f' h3' 0 v q6 (by rw [q7]; exact hc) (by rw [q7]; exact hg) (by omega) hm1 (by rw [hF]; omega) (by omega)
  have hlt : nI 0 < nI m := nI_lt (by omega) (by omega)
  have M : g_X7_heights_76 mj_fuel (nI k) (nI x) z (-1000000) 0 (nI m) (nI 0) h = some (b', w', h2) := by
    rw [hF, ht_m 3999 hlt q2 q3 q4 q5, if_pos (by decide), ht_160a]
    exact r2
  rw [show nI 0 = (0 : Int32) from rfl] at M q1 r1
  rw [show nI 1 = (1 : Int32) from rfl] at r1
  unfold g_X6_heights_70
  rw [M, q1]
  simp only [Option.bind_some]
  rw [r1]
  simp only [Option.bind_some]
  by_cases c : z = 0
  · rw [if_pos c, if_pos c]
    exact ⟨_, _, rfl, rfl, rfl, r3⟩
  · rw [if_neg c, if_neg c]
    exact ⟨_, _, rfl, rfl, rfl, r3⟩
theorem sim_heights : ls_heights rel := by
  intro fX fM gM hR x1 x2 x3
  unfold g_X6_heights g_X7_heights
  rw [iscl_eq hR, in_1_8, in_0_1]
  by_cases c1 : g_X6_isCloud x1 fX = 0
  · rw [if_pos c1, if_pos c1]
    exact ⟨_, _, rfl, rfl, rfl, hR⟩
  rw [if_neg c1, if_neg c1]
  by_cases c2 : g_X6_within x2 1 8 = 0
  · rw [if_pos c2, if_pos c2]
    exact ⟨_, _, rfl, rfl, rfl, hR⟩
  rw [if_neg c2, if_neg c2]
  by_cases c3 : g_X6_within x3 0 1 = 0
  · rw [if_pos c3, if_pos c3]
    exact ⟨_, _, rfl, rfl, rfl, hR⟩
  rw [if_neg c3, if_neg c3]
  obtain ⟨k, hk, rfl, hm⟩ := iscl_ex hR c1
  obtain ⟨x, _, hx, rfl⟩ := wi_ex (a := 1) (b := 8) rfl rfl (by decide) c2
  have H := now_hs hR
  obtain ⟨d0, d1, d2, d3, d4, d5⟩ := H.1.2.2.2 k hm hk
  obtain ⟨kd, kd1, kd2, ekd⟩ := kd_ex H hk hm
  have kr := (kd_rise kd (by omega) kd1).1
  obtain ⟨p1, p2, p3⟩ := p2x x (by omega)
  unfold g_X1_canRise
  simp only [in5 hk, ix51 hk, there_step hk, d0, d4, ↓reduceIte, Option.bind_some, ekd, p1, mj_lt]
  by_cases g0 : fM 4 (71 + k) = 0
  · simp only [g0, ↓reduceIte, show ¬ (1 : Int32) = 0 by decide]
    by_cases r : nI kd < 4
    · have r4 : ¬ nI kd = 4 := fun z => kr.mp (Or.inl z) r
      have r5 : ¬ nI kd = 5 := fun z => kr.mp (Or.inr z) r
      simp only [r, r4, r5, ↓reduceIte, show ¬ (1 : Int32) = 0 by decide]
      exact ht_both hR hk hm g0 hx p2 p3
    · have fin := ht_both (m := 1) (z := x3) hR hk hm g0 hx (by omega) (by omega)
      simp only [r, ↓reduceIte]
      rcases kr.mpr r with r4 | r5
      · simp only [r4, ↓reduceIte]
        exact fin
      · simp only [r5, show ¬ (5 : Int32) = 4 by decide, ↓reduceIte]
        exact fin
  · simp only [g0, ↓reduceIte]
    exact ⟨_, _, rfl, rfl, rfl, hR⟩
