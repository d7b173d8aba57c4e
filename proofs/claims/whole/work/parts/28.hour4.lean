/-! an hour: milk, the whole hour -/
theorem wr_self (f : mj_I) (a k : Nat) : mj_wr f a k (f a k + 0) = f := by
  funext b j
  unfold mj_wr
  split
  · next h => obtain ⟨rfl, rfl⟩ := h; exact Int32.add_zero _
  · rfl
theorem w41 : ∀ p, p < 41 → (0 < nI p ↔ ¬ nI p = 0) ∧ (¬ nI p = 0 → mj_in (nI p - 1) 41 = true) := by decide +kernel
theorem milk_step {a k : Nat} {f h : mj_I} {x : Int32} (hk : k < 5) (hm : nI k < h 4 50) (H : hs a f h) :
    ∃ f1 h1, (∀ n, g_X2_milkAll_2 (n + 1) a (nI k) f = g_X2_milkAll_2 n a (nI (k + 1)) f1) ∧ (∀ n, g_X7_oneHour_77 (n + 1) x (nI k) h = g_X7_oneHour_77 n x (nI (k + 1)) h1) ∧ hs a f1 h1 ∧ fr 47 a f f1 h h1 ∧ f1 a 11 = f a 11 ∧ f1 a 12 = f a 12 ∧ h1 0 = h 0 := by
  have H0 := H
  obtain ⟨⟨⟨g0, g1, g2, g3, g4, g5, g6⟩, w, p, c⟩, ⟨v1, v2, v3, v4, v5⟩, _⟩ := H
  obtain ⟨c0, c1, c2, c3, c4, c5⟩ := c k hm hk
  obtain ⟨⟨u0, u0'⟩, u1, u2, u3, u4, u5, u6⟩ := v5 k hm hk
  obtain ⟨z, hz, ez⟩ := mj_in_ex u1 (by decide)
  obtain ⟨wn, hwn, ewn⟩ := mj_in_ex u3 (by decide)
  obtain ⟨w1, w2⟩ := w41 wn hwn
  have z32 : mj_in (nI z) 32 = true := mj_in_nI hz (by decide)
  have zx : ix (nI z) = z := ix_nI (by omega)
  have pz := p z hz
  have stay : ∀ n, ((∃ o, g_X2_milkOne a (a + 4 + k) f = some o ∧ o = ((0 : Int32), f)) → g_X2_milkAll_2 (n + 1) a (nI k) f = g_X2_milkAll_2 n a (nI (k + 1)) f) := by
    rintro n ⟨o, ho, rfl⟩
    rw [g_X2_milkAll_2]
    simp only [mj_lt, g3, hm, in5 hk, ↓reduceIte, ho, Option.bind_some, nI_1, wr_self]
  by_cases hb : h 4 (61 + k) = 0 ∧ ¬ nI wn = 0 ∧ h 4 (12 + z) = 3
  · obtain ⟨b1, b2, b3⟩ := hb
    have hg : h 4 (71 + k) = 0 := Classical.byContradiction (fun y => b2 (by rw [← ewn]; exact u6 y))
    refine ⟨mj_wr (mj_wr f (a + 4 + k) 3 (nI wn - 1)) a 7 (h 4 48 + 1), mj_wr (mj_wr h 4 (66 + k) (nI wn - 1)) 4 48 (h 4 48 + 1), ?_, ?_, hs_milk (hs_water hk (w2 b2) (fun y => absurd hg y) H0), ?_, ?_, ?_, ?_⟩
    · intro n
      rw [g_X2_milkAll_2]
      unfold g_X2_milkOne
      simp only [mj_lt, g3, hm, in5 hk, c2, b1, c3, ewn, b2, c1, ez, z32, zx, pz, b3, ↓reduceIte, Option.bind_some, nI_1, g6]
    · intro n
      rw [g_X7_oneHour_77]
      unfold g_X7_milk
      have y1 : ∀ v : Int32, mj_wr h 4 (66 + k) v 4 48 = h 4 48 := fun v => wr_ne _ _ (by omega)
      simp only [mj_lt, hm, there_step hk, hg, Option.bind_some, show ¬ (1 : Int32) = 0 by decide, ix61 hk, b1, ix56 hk, ez, ix12 hz, b3, ix66 hk, ewn, w1.mpr b2, y1, ↓reduceIte, nI_1]
    · exact fr_trans (fr_x (by omega) (by omega) (by omega)) (fr_trans (fr_x (by omega) (by omega) (by omega)) (fr_trans (fr_m (by omega)) (fr_m (by omega))))
    · rw [wr_ne _ _ (by omega), wr_ne _ _ (by omega)]
    · rw [wr_ne _ _ (by omega), wr_ne _ _ (by omega)]
    · rw [wr_ne1 _ _ (by omega), wr_ne1 _ _ (by omega)]
  · refine ⟨f, h, fun n => stay n ?_, ?_, H0, fr_refl _ _ _ _, rfl, rfl, rfl⟩
    · unfold g_X2_milkOne
      simp only [mj_lt, c2, c3, ewn, c1, ez, z32, zx, pz, ↓reduceIte]
      by_cases b1 : h 4 (61 + k) = 0
      · rw [if_pos b1]
        by_cases b2 : nI wn = 0
        · rw [if_pos b2]
          exact ⟨_, rfl, rfl⟩
        · rw [if_neg b2, if_neg (fun b3 => hb ⟨b1, b2, b3⟩)]
          exact ⟨_, rfl, rfl⟩
      · rw [if_neg b1]
        exact ⟨_, rfl, rfl⟩
    · intro n
      rw [g_X7_oneHour_77]
      unfold g_X7_milk
      simp only [mj_lt, hm, there_step hk, Option.bind_some, ix61 hk, ix56 hk, ez, ix12 hz, ix66 hk, ewn, ↓reduceIte, nI_1]
      by_cases hg : h 4 (71 + k) = 0
      · simp only [hg, show ¬ (1 : Int32) = 0 by decide, ↓reduceIte]
        by_cases b1 : h 4 (61 + k) = 0
        · rw [if_pos b1]
          by_cases b3 : h 4 (12 + z) = 3
          · rw [if_pos b3, if_neg (fun y => hb ⟨b1, w1.mp y, b3⟩)]
            rfl
          · rw [if_neg b3]
            rfl
        · rw [if_neg b1]
          rfl
      · simp only [hg, ↓reduceIte]
theorem milk_loop {m a : Nat} {x : Int32} (hm : m ≤ 5) : ∀ n i f h, hs a f h → h 4 50 = nI m → i ≤ m → m < i + n → ∃ f' h', g_X2_milkAll_2 n a (nI i) f = some f' ∧ g_X7_oneHour_77 n x (nI i) h = some h' ∧ hs a f' h' ∧ fr 47 a f f' h h' ∧ f' a 11 = f a 11 ∧ f' a 12 = f a 12 ∧ h' 0 = h 0 := by
  intro n
  induction n with
  | zero => intro i f h _ _ h1 h2; omega
  | succ n ih =>
    intro i f h H hc h1 h2
    have e4 : f a 4 = h 4 50 := H.1.1.2.2.2.1
    by_cases hi : i = m
    · have : ¬ nI i < nI m := nI_nlt (by omega) (by omega)
      unfold g_X2_milkAll_2 g_X7_oneHour_77
      rw [e4, hc, if_neg this, if_neg this]
      exact ⟨f, h, rfl, rfl, H, fr_refl _ _ _ _, rfl, rfl, rfl⟩
    have hlt : nI i < nI m := nI_lt (by omega) (by omega)
    obtain ⟨f1, h1', s1, s2, s3, s4, s5, s6, s7⟩ := milk_step (x := x) (show i < 5 by omega) (by rw [hc]; exact hlt) H
    rw [s1, s2]
    obtain ⟨f', h', r1, r2, r3, r4, r5, r6, r7⟩ := ih (i + 1) f1 h1' s3 (by rw [s4.2.2.2.2 50 (by omega)]; exact hc) (by omega) (by omega)
    exact ⟨f', h', r1, r2, r3, fr_trans s4 r4, r5.trans s5, r6.trans s6, r7.trans s7⟩
theorem hour_both {a : Nat} {f h : mj_I} (H : hs a f h) (hh : ∃ t, t < 1099 ∧ h 4 46 = nI t) :
    ∃ f' h' s, g_X2_passHour a f = some f' ∧ g_X7_oneHour h = some (s, h') ∧ (f' a 11 = s ∧ mj_in s 32 = true) ∧ f' a 12 = h' 0 16 ∧ hs a f' h' ∧ fr 46 a f f' h h' ∧ h' 4 46 = h 4 46 + 1 := by
  obtain ⟨t, ht, et⟩ := hh
  obtain ⟨m, hm, em⟩ := mj_in_ex H.2.1.1 (by decide)
  have hF : mj_fuel = 4000 := fuel_eq
  have H0 := hs_o (w := 0) H
  have F0 : fr 47 a f f h (mj_wr h 0 16 0) := fr_o
  have e0 : (mj_wr h 0 16 0) 4 50 = nI m := by rw [wr_ne1 _ _ (by omega)]; exact em
  obtain ⟨f1, h1, r1, r2, r3, r4, r5⟩ := drift_loop (by omega : m ≤ 5) mj_fuel 0 f _ H0 e0 (by omega) (by omega)
  have F1 := fr_trans F0 r4
  have e1 : h1 4 50 = nI m := by rw [F1.2.2.2.2 50 (by omega)]; exact em
  have X1 : fr 47 a f1 (mj_wr f1 a 11 0) h1 h1 := fr_x (by omega) (by omega) (by omega)
  obtain ⟨f2, h2, s, q1, q2, q3, q4, q5, q6, q7⟩ := run_out (by omega : m ≤ 5) mj_fuel 1 _ h1 0 (hs_run (v := 0) r3) e1 (wr_eq _ _ _ _) (by decide) (by omega) (by omega)
  have F2 := fr_trans F1 (fr_trans X1 q5)
  have e2 : h2 4 50 = nI m := by rw [F2.2.2.2.2 50 (by omega)]; exact em
  have X2 : fr 47 a f2 (mj_wr f2 a 12 0) h2 h2 := fr_x (by omega) (by omega) (by omega)
  obtain ⟨f3, h3, p1, p2, p3, p4, p5, p6⟩ := rain_loop (x := s) (by omega : m ≤ 5) mj_fuel 0 _ h2 (hs_hay (v := 0) q4) e2 (by rw [wr_eq, q6, r5, wr_eq]) (by omega) (by omega)
  have F3 := fr_trans F2 (fr_trans X2 p5)
  have e3 : h3 4 50 = nI m := by rw [F3.2.2.2.2 50 (by omega)]; exact em
  obtain ⟨f4, h4, t1, t2, t3, t4, t5, t6, t7⟩ := milk_loop (x := s) (by omega : m ≤ 5) mj_fuel 0 f3 h3 p3 e3 (by omega) (by omega)
  have F4 := fr_trans F3 t4
  have e5 : f4 a 5 = h4 4 46 := t3.1.1.2.2.2.2.1
  have e6 : h4 4 46 = nI t := by rw [F4.2.2.2.2 46 (by omega)]; exact et
  refine ⟨mj_wr f4 a 5 (h4 4 46 + 1), mj_wr h4 4 46 (h4 4 46 + 1), s, ?_, ?_, ?_, ?_, ?_, ?_, ?_⟩
  · unfold g_X2_passHour g_X2_driftAll g_X2_runTogether g_X2_rainAll g_X2_milkAll
    simp only [mj_lt]
    rw [show (0 : Int32) = nI 0 from rfl, show (1 : Int32) = nI 1 from rfl, r1]
    simp only [Option.bind_some]
    rw [show nI 0 = (0 : Int32) from rfl, q1]
    simp only [Option.bind_some]
    rw [show (0 : Int32) = nI 0 from rfl] at p1 ⊢
    rw [p1]
    simp only [Option.bind_some]
    rw [t1]
    simp only [Option.bind_some]
    rw [e5]
  · unfold g_X7_oneHour g_X7_together
    simp only [mj_lt]
    rw [show (0 : Int32) = nI 0 from rfl, show (1 : Int32) = nI 1 from rfl] at *
    rw [r2]
    simp only [Option.bind_some]
    rw [q2]
    simp only [Option.bind_some]
    rw [p2]
    simp only [Option.bind_some]
    rw [t2]
    simp only [Option.bind_some]
  · exact ⟨by rw [wr_ne _ _ (by omega), t5, p6, wr_ne _ _ (by omega), q3], q7⟩
  · rw [wr_ne _ _ (by omega), wr_ne _ _ (by omega), t6, p4, t7]
  · exact hs_hour (by rw [e6, nI_1]; exact mj_in_nI (by omega) (by decide)) t3
  · exact fr_trans (fr_mono F4 (by omega)) (fr_trans (fr_x (by omega) (by omega) (by omega)) (fr_m (by omega)))
  · rw [wr_eq, e6, et]
