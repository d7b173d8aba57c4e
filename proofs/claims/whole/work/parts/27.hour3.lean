/-! an hour: rain, milk, the whole hour -/
theorem min_c (x y : Int32) : (if x < y then x else y) = (if y < x then y else x) := by
  simp only [Int32.lt_iff_toInt_lt]
  by_cases h1 : x.toInt < y.toInt
  · rw [if_pos h1, if_neg (by omega)]
  · rw [if_neg h1]
    by_cases h2 : y.toInt < x.toInt
    · rw [if_pos h2]
    · rw [if_neg h2]
      exact Int32.toInt_inj.mp (by omega)
theorem wat_dif : ∀ p, p < 41 → ∀ q, q < 3 → mj_in (nI p - (if nI q < nI p then nI q else nI p)) 41 = true := by decide +kernel
theorem rain_89 {k : Nat} {h : mj_I} (hk : k < 5) (p : Int32) : g_X7_rainOf_89 (nI k) p h = some (if p < h 4 (66 + k) then p else h 4 (66 + k)) := by
  unfold g_X7_rainOf_89
  simp only [ix66 hk, ↓reduceIte]
  rw [min_c]
  split <;> rfl
theorem pour_in (b : Nat) (u : Int32) (f : mj_I) : ∃ q, q < 3 ∧ g_X1_pouring b u f = nI q := by
  unfold g_X1_pouring
  repeat' split
  all_goals first | exact ⟨0, by decide, rfl⟩ | exact ⟨1, by decide, rfl⟩ | exact ⟨2, by decide, rfl⟩
theorem rain_of {a k z : Nat} {f h : mj_I} (hk : k < 5) (hm : nI k < h 4 50) (H : hs a f h) (hz : z < 32) (ez : h 4 (56 + k) = nI z) :
    g_X7_rainOf (nI k) h = some (if g_X1_pouring (a + 4 + k) (h 4 (12 + z)) f < h 4 (66 + k) then g_X1_pouring (a + 4 + k) (h 4 (12 + z)) f else h 4 (66 + k)) := by
  obtain ⟨⟨_, w, p, c⟩, ⟨v1, v2, v3, v4, v5⟩, _⟩ := H
  obtain ⟨c0, c1, c2, c3, c4, c5⟩ := c k hm hk
  obtain ⟨⟨u0, u0'⟩, u1, u2, u3, u4, u5, u6⟩ := v5 k hm hk
  unfold g_X7_rainOf g_X1_pouring
  simp only [mj_lt, c0, c2, c5, ez, ix51 hk, ix56 hk, ix61 hk, ix76 hk, ix12 hz, ↓reduceIte, rain_89 hk]
  obtain ⟨kd, hkd, ekd⟩ := mj_in_ex u0 (by decide)
  obtain ⟨td, htd, etd⟩ := mj_in_ex u5 (by decide)
  rw [ekd] at u0' ⊢
  rw [etd]
  rcases (show kd = 0 ∨ kd = 1 ∨ kd = 2 ∨ kd = 3 ∨ kd = 4 ∨ kd = 5 by omega) with rfl | rfl | rfl | rfl | rfl | rfl
  · exact absurd rfl u0'
  · simp only [show nI 1 = (1 : Int32) from rfl, ↓reduceIte]
    by_cases q1 : h 4 (12 + z) = 1
    · simp only [q1, ↓reduceIte]
      rcases (show td = 0 ∨ td = 1 by omega) with rfl | rfl
      · simp only [show nI 0 = (0 : Int32) from rfl, ↓reduceIte]
      · simp only [show nI 1 = (1 : Int32) from rfl, show ¬ (1 : Int32) = 0 by decide, ↓reduceIte]
    · simp only [q1, ↓reduceIte]
  · simp only [show ¬ nI 2 = (1 : Int32) by decide, show nI 2 = (2 : Int32) from rfl, show ¬ (2 : Int32) = 1 by decide, ↓reduceIte]
  · simp only [show nI 3 = (3 : Int32) from rfl, show ¬ (3 : Int32) = 1 by decide, show ¬ (3 : Int32) = 2 by decide, ↓reduceIte]
  · simp only [show nI 4 = (4 : Int32) from rfl, show ¬ (4 : Int32) = 1 by decide, show ¬ (4 : Int32) = 2 by decide, show ¬ (4 : Int32) = 3 by decide, ↓reduceIte]
    by_cases q1 : h 4 (61 + k) = 0
    · simp only [q1, ↓reduceIte]
    · simp only [q1, ↓reduceIte]
  · simp only [show nI 5 = (5 : Int32) from rfl, show ¬ (5 : Int32) = 1 by decide, show ¬ (5 : Int32) = 2 by decide, show ¬ (5 : Int32) = 3 by decide, show ¬ (5 : Int32) = 4 by decide, ↓reduceIte]
    by_cases q1 : h 4 (61 + k) = 0
    · simp only [q1, ↓reduceIte]
    · simp only [q1, ↓reduceIte]
theorem rain_81 {h : mj_I} (x u s d : Int32) : g_X7_rain_81 x u 47 s d h = some (x, mj_wr (mj_wr h 4 47 (s + d)) 0 16 (h 0 16 + if u = 2 then x else 0)) := by
  unfold g_X7_rain_81
  simp only [mj_lt, show mj_in 47 82 = true by decide, show ix 47 = 47 by decide, ↓reduceIte]
  rw [wr_ne1 _ _ (by omega)]
  split <;> rfl
theorem neg_mul2 (x y : Int32) : -x * y = -y * x := by
  rw [Int32.neg_mul, Int32.neg_mul, Int32.mul_comm]
/-- one cloud's rain in both loops -/
theorem rain_step {a k : Nat} {f h : mj_I} {x : Int32} (hk : k < 5) (hm : nI k < h 4 50) (H : hs a f h) (hh : f a 12 = h 0 16) (hg : h 4 (71 + k) = 0) :
    ∃ f1 h1, (∀ n, g_X2_rainAll_7 (n + 1) a (nI k) f = g_X2_rainAll_7 n a (nI (k + 1)) f1) ∧ (∀ n, g_X7_oneHour_44 (n + 1) x (nI k) h = g_X7_oneHour_44 n x (nI (k + 1)) h1) ∧ hs a f1 h1 ∧ f1 a 12 = h1 0 16 ∧ fr 47 a f f1 h h1 ∧ f1 a 11 = f a 11 := by
  have H0 := H
  obtain ⟨⟨⟨g0, g1, g2, g3, g4, g5, g6⟩, w, p, c⟩, ⟨v1, v2, v3, v4, v5⟩, _⟩ := H
  obtain ⟨c0, c1, c2, c3, c4, c5⟩ := c k hm hk
  obtain ⟨⟨u0, u0'⟩, u1, u2, u3, u4, u5, u6⟩ := v5 k hm hk
  obtain ⟨z, hz, ez⟩ := mj_in_ex u1 (by decide)
  have ro := rain_of hk hm H0 hz ez
  obtain ⟨q, hq, eq⟩ := pour_in (a + 4 + k) (h 4 (12 + z)) f
  obtain ⟨wn, hwn, ewn⟩ := mj_in_ex u3 (by decide)
  rw [eq] at ro
  have wd := wat_dif wn hwn q hq
  rw [← ewn] at wd
  have z32 : mj_in (nI z) 32 = true := mj_in_nI hz (by decide)
  have zx : ix (nI z) = z := ix_nI (by omega)
  have pz := p z hz
  obtain ⟨am, eam⟩ : ∃ am, am = (if nI q < h 4 (66 + k) then nI q else h 4 (66 + k)) := ⟨_, rfl⟩
  rw [← eam] at ro wd
  have mk : ∀ d b : Int32, hs a (mj_wr (mj_wr (mj_wr (mj_wr f (a + 4 + k) 6 am) (a + 4 + k) 3 (h 4 (66 + k) - am)) a 6 (h 4 47 + d)) a 12 (f a 12 + b)) (mj_wr (mj_wr (mj_wr h 4 (66 + k) (h 4 (66 + k) - am)) 4 47 (h 4 47 + d)) 0 16 (h 0 16 + b)) ∧
      (mj_wr (mj_wr (mj_wr (mj_wr f (a + 4 + k) 6 am) (a + 4 + k) 3 (h 4 (66 + k) - am)) a 6 (h 4 47 + d)) a 12 (f a 12 + b)) a 12 = (mj_wr (mj_wr (mj_wr h 4 (66 + k) (h 4 (66 + k) - am)) 4 47 (h 4 47 + d)) 0 16 (h 0 16 + b)) 0 16 ∧
      fr 47 a f (mj_wr (mj_wr (mj_wr (mj_wr f (a + 4 + k) 6 am) (a + 4 + k) 3 (h 4 (66 + k) - am)) a 6 (h 4 47 + d)) a 12 (f a 12 + b)) h (mj_wr (mj_wr (mj_wr h 4 (66 + k) (h 4 (66 + k) - am)) 4 47 (h 4 47 + d)) 0 16 (h 0 16 + b)) ∧
      (mj_wr (mj_wr (mj_wr (mj_wr f (a + 4 + k) 6 am) (a + 4 + k) 3 (h 4 (66 + k) - am)) a 6 (h 4 47 + d)) a 12 (f a 12 + b)) a 11 = f a 11 := by
    intro d b
    refine ⟨hs_o (hs_hay (hs_earned (hs_water hk wd (fun y => absurd hg y) (hs_fallen hk H0)))), by rw [wr_eq, wr_eq, hh], ?_, by rw [wr_ne _ _ (by omega), wr_ne _ _ (by omega), wr_ne _ _ (by omega), wr_ne _ _ (by omega)]⟩
    exact fr_trans (fr_x (by omega) (by omega) (by omega)) (fr_trans (fr_x (by omega) (by omega) (by omega)) (fr_trans (fr_x (by omega) (by omega) (by omega)) (fr_trans (fr_x (by omega) (by omega) (by omega)) (fr_trans (fr_m (by omega)) (fr_trans (fr_m (by omega)) fr_o)))))
  have xside : ∀ n d b, (if h 4 (12 + z) = 1 then h 4 44 * am else if h 4 (12 + z) = 2 then -(h 4 45) * am else 0) = d → (if h 4 (12 + z) = 2 then am else 0) = b → g_X2_rainAll_7 (n + 1) a (nI k) f = g_X2_rainAll_7 n a (nI (k + 1)) (mj_wr (mj_wr (mj_wr (mj_wr f (a + 4 + k) 6 am) (a + 4 + k) 3 (h 4 (66 + k) - am)) a 6 (h 4 47 + d)) a 12 (f a 12 + b)) := by
    intro n d b ed eb
    have w1 : ∀ v v' : Int32, mj_wr (mj_wr f (a + 4 + k) 6 v) (a + 4 + k) 3 v' a = f a := fun v v' => by rw [wr_ne1 _ _ (by omega), wr_ne1 _ _ (by omega)]
    have w2 : ∀ v v' v'' : Int32, mj_wr (mj_wr (mj_wr f (a + 4 + k) 6 v) (a + 4 + k) 3 v') a 6 v'' (a + 2) = f (a + 2) := fun v v' v'' => by rw [wr_ne1 _ _ (by omega), wr_ne1 _ _ (by omega), wr_ne1 _ _ (by omega)]
    have w3 : ∀ v v' v'' : Int32, mj_wr (mj_wr (mj_wr f (a + 4 + k) 6 v) (a + 4 + k) 3 v') a 6 v'' (a + 4 + k) 1 = nI z := fun v v' v'' => by rw [wr_ne _ _ (by omega), wr_ne _ _ (by omega), wr_ne _ _ (by omega), c1, ez]
    have w4 : ∀ v v' v'' : Int32, mj_wr (mj_wr (mj_wr f (a + 4 + k) 6 v) (a + 4 + k) 3 v') a 6 v'' (a + 4 + k) 6 = v := fun v v' v'' => by rw [wr_ne _ _ (by omega), wr_ne _ _ (by omega), wr_eq]
    have w5 : ∀ v v' v'' : Int32, mj_wr (mj_wr (mj_wr f (a + 4 + k) 6 v) (a + 4 + k) 3 v') a 6 v'' a 12 = f a 12 := fun v v' v'' => by rw [wr_ne _ _ (by omega), wr_ne _ _ (by omega), wr_ne _ _ (by omega)]
    have w6 : ∀ v v' : Int32, mj_wr (mj_wr f (a + 4 + k) 6 v) (a + 4 + k) 3 v' (a + 4 + k) 6 = v := fun v v' => by rw [wr_ne _ _ (by omega), wr_eq]
    have w7 : ∀ v : Int32, mj_wr f (a + 4 + k) 6 v (a + 4 + k) 3 = h 4 (66 + k) := fun v => by rw [wr_ne _ _ (by omega), c3]
    have w8 : ∀ v : Int32, mj_wr f (a + 4 + k) 6 v (a + 4 + k) 6 = v := fun v => by rw [wr_eq]
    rw [g_X2_rainAll_7]
    unfold g_X2_rainOne g_X1_rainOver
    simp only [mj_lt, g3, hm, in5 hk, c4, hg, c1, ez, z32, zx, pz, eq, c3, ← eam, w8, w7, w6, w1, g0, g1, g5, ↓reduceIte]
    subst ed eb
    by_cases k1 : h 4 (12 + z) = 1
    · simp only [k1, show ¬ (1 : Int32) = 2 by decide, ↓reduceIte, Option.bind_some, w3, w2, z32, zx, pz, w5, nI_1]
    · by_cases k2 : h 4 (12 + z) = 2
      · simp only [k2, show ¬ (2 : Int32) = 1 by decide, ↓reduceIte, Option.bind_some, w3, w2, z32, zx, pz, w4, w5, nI_1]
      · simp only [k1, k2, ↓reduceIte, Option.bind_some, w3, w2, z32, zx, pz, w5, nI_1]
  have mside : ∀ n d b, (if h 4 (12 + z) = 1 then h 4 44 * am else if h 4 (12 + z) = 2 then -(h 4 45) * am else 0) = d → (if h 4 (12 + z) = 2 then am else 0) = b → g_X7_oneHour_44 (n + 1) x (nI k) h = g_X7_oneHour_44 n x (nI (k + 1)) (mj_wr (mj_wr (mj_wr h 4 (66 + k) (h 4 (66 + k) - am)) 4 47 (h 4 47 + d)) 0 16 (h 0 16 + b)) := by
    intro n d b ed eb
    have y1 : ∀ v : Int32, mj_wr h 4 (66 + k) v 4 47 = h 4 47 := fun v => wr_ne _ _ (by omega)
    have y2 : ∀ v : Int32, mj_wr h 4 (66 + k) v 4 44 = h 4 44 := fun v => wr_ne _ _ (by omega)
    have y3 : ∀ v : Int32, mj_wr h 4 (66 + k) v 4 45 = h 4 45 := fun v => wr_ne _ _ (by omega)
    have y4 : ∀ v : Int32, mj_wr h 4 (66 + k) v 0 16 = h 0 16 := fun v => wr_ne _ _ (by omega)
    rw [g_X7_oneHour_44]
    unfold g_X7_rain
    simp only [mj_lt, hm, there_step hk, hg, ro, Option.bind_some, show ¬ (1 : Int32) = 0 by decide, ix56 hk, ez, ix12 hz, ix66 hk, ↓reduceIte, rain_81, y1, y2, y3, y4]
    subst ed eb
    by_cases k1 : h 4 (12 + z) = 1
    · simp only [k1, show ¬ (1 : Int32) = 2 by decide, ↓reduceIte, Option.bind_some, nI_1, Int32.mul_comm am]
    · by_cases k2 : h 4 (12 + z) = 2
      · simp only [k2, show ¬ (2 : Int32) = 1 by decide, ↓reduceIte, Option.bind_some, nI_1, neg_mul2 am]
      · simp only [k1, k2, ↓reduceIte, Option.bind_some, nI_1]
  obtain ⟨m1, m2, m3, m4⟩ := mk _ _
  exact ⟨_, _, fun n => xside n _ _ rfl rfl, fun n => mside n _ _ rfl rfl, m1, m2, m3, m4⟩
theorem rain_loop {m a : Nat} {x : Int32} (hm : m ≤ 5) : ∀ n i f h, hs a f h → h 4 50 = nI m → f a 12 = h 0 16 → i ≤ m → m < i + n → ∃ f' h', g_X2_rainAll_7 n a (nI i) f = some f' ∧ g_X7_oneHour_44 n x (nI i) h = some h' ∧ hs a f' h' ∧ f' a 12 = h' 0 16 ∧ fr 47 a f f' h h' ∧ f' a 11 = f a 11 := by
  intro n
  induction n with
  | zero => intro i f h _ _ _ h1 h2; omega
  | succ n ih =>
    intro i f h H hc hh h1 h2
    have e4 : f a 4 = h 4 50 := H.1.1.2.2.2.1
    by_cases hi : i = m
    · have : ¬ nI i < nI m := nI_nlt (by omega) (by omega)
      unfold g_X2_rainAll_7 g_X7_oneHour_44
      rw [e4, hc, if_neg this, if_neg this]
      exact ⟨f, h, rfl, rfl, H, hh, fr_refl _ _ _ _, rfl⟩
    have hlt : nI i < nI m := nI_lt (by omega) (by omega)
    have h5 : i < 5 := by omega
    have c4 : f (a + 4 + i) 4 = h 4 (71 + i) := (H.1.2.2.2 i (by rw [hc]; exact hlt) h5).2.2.2.2.1
    by_cases hg : h 4 (71 + i) = 0
    · obtain ⟨f1, h1', s1, s2, s3, s4, s5, s6⟩ := rain_step (x := x) h5 (by rw [hc]; exact hlt) H hh hg
      rw [s1, s2]
      obtain ⟨f', h', r1, r2, r3, r4, r5, r6⟩ := ih (i + 1) f1 h1' s3 (by rw [s5.2.2.2.2 50 (by omega)]; exact hc) s4 (by omega) (by omega)
      exact ⟨f', h', r1, r2, r3, r4, fr_trans s5 r5, r6.trans s6⟩
    · unfold g_X2_rainAll_7 g_X7_oneHour_44
      rw [e4, hc, if_pos hlt, if_pos hlt, there_step h5]
      simp only [in5 h5, ↓reduceIte, c4, Option.bind_some, hg, nI_1]
      exact ih (i + 1) f h H hc hh (by omega) (by omega)
