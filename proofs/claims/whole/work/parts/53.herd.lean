/-! herd -/
theorem beg_loop : ∀ n i f, i ≤ 32 → 32 < i + n → ∃ f', g_X2_begin_32 n 13 (nI i) f = some f' ∧ (∀ b, b ≠ 13 + 2 → f' b = f b) ∧ (∀ j, i ≤ j → j < 32 → f' (13 + 2) j = 0) ∧ ∀ j, j < i → f' (13 + 2) j = f (13 + 2) j := by
  intro n
  induction n with
  | zero => intro i f h1 h2; omega
  | succ n ih =>
    intro i f h1 h2
    rw [g_X2_begin_32]
    by_cases hi : i = 32
    · subst hi
      rw [if_neg (by decide)]
      exact ⟨f, rfl, fun _ _ => rfl, fun j _ _ => by omega, fun _ _ => rfl⟩
    obtain ⟨k1, k2⟩ := in32 (show i < 32 by omega)
    rw [if_pos (show nI i < (32 : Int32) from nI_lt (b := 32) (by omega) (by decide)), if_pos k1, k2, nI_1]
    dsimp only [mj_lt]
    obtain ⟨f', q1, q2, q3, q4⟩ := ih (i + 1) (mj_wr f (13 + 2) i 0) (by omega) (by omega)
    refine ⟨f', q1, fun b hb => by rw [q2 b hb, wr_ne1 _ _ hb], fun j hj1 hj2 => ?_, fun j hj => by rw [q4 j (by omega), wr_ne _ _ (by omega)]⟩
    by_cases ej : j = i
    · subst ej
      rw [q4 j (by omega), wr_eq]
    · exact q3 j (by omega) hj2
theorem beg_ok (f : mj_I) : ∃ f', g_X2_begin 13 f = some f' ∧ (∀ b, b ≠ 13 → b ≠ 13 + 2 → f' b = f b) ∧ f' 13 0 = 1 ∧ (∀ j, 3 ≤ j → j < 8 → f' 13 j = 0) ∧ ∀ j, j < 32 → f' (13 + 2) j = 0 := by
  unfold g_X2_begin
  dsimp only [mj_lt]
  obtain ⟨g, eg⟩ : ∃ g, g = mj_wr (mj_wr (mj_wr (mj_wr (mj_wr (mj_wr f 13 0 1) 13 3 0) 13 4 0) 13 5 0) 13 6 0) 13 7 0 := ⟨_, rfl⟩
  obtain ⟨f', q1, q2, q3, _⟩ := beg_loop mj_fuel 0 g (by omega) (by rw [fuel_eq]; omega)
  rw [show nI 0 = (0 : Int32) from rfl] at q1
  rw [← eg, q1, Option.bind_some]
  refine ⟨f', rfl, fun b h1 h2 => ?_, ?_, fun j h1 h2 => ?_, fun j hj => q3 j (by omega) hj⟩
  · rw [q2 b h2, eg, wr_ne1 _ _ h1, wr_ne1 _ _ h1, wr_ne1 _ _ h1, wr_ne1 _ _ h1, wr_ne1 _ _ h1, wr_ne1 _ _ h1]
  · rw [q2 13 (by omega), eg, wr_ne _ _ (by omega), wr_ne _ _ (by omega), wr_ne _ _ (by omega), wr_ne _ _ (by omega), wr_ne _ _ (by omega), wr_eq]
  · rw [q2 13 (by omega), eg]
    rcases (show j = 3 ∨ j = 4 ∨ j = 5 ∨ j = 6 ∨ j = 7 by omega) with rfl | rfl | rfl | rfl | rfl <;> simp [mj_wr]
theorem rz_loop : ∀ n i h, i ≤ 82 → 82 < i + n → ∃ h', g_X7_readHerd_7 n (nI i) h = some h' ∧ (∀ b, b ≠ 7 → h' b = h b) ∧ (∀ j, i ≤ j → j < 82 → h' 7 j = 0) ∧ ∀ j, j < i → h' 7 j = h 7 j := by
  intro n
  induction n with
  | zero => intro i h h1 h2; omega
  | succ n ih =>
    intro i h h1 h2
    rw [g_X7_readHerd_7]
    by_cases hi : i = 82
    · subst hi
      rw [if_neg (by decide)]
      exact ⟨h, rfl, fun _ _ => rfl, fun j _ _ => by omega, fun _ _ => rfl⟩
    have k1 : mj_in (nI i) 82 = true := mj_in_nI (by omega) (by decide)
    rw [if_pos (show nI i < (82 : Int32) from nI_lt (b := 82) (by omega) (by decide)), if_pos k1, ix_nI (by omega), nI_1]
    dsimp only [mj_lt]
    obtain ⟨h', q1, q2, q3, q4⟩ := ih (i + 1) (mj_wr h 7 i 0) (by omega) (by omega)
    refine ⟨h', q1, fun b hb => by rw [q2 b hb, wr_ne1 _ _ hb], fun j hj1 hj2 => ?_, fun j hj => by rw [q4 j (by omega), wr_ne _ _ (by omega)]⟩
    by_cases ej : j = i
    · subst ej
      rw [q4 j (by omega), wr_eq]
    · exact q3 j (by omega) hj2
theorem h32_loop : ∀ n i h, i ≤ 82 → 82 < i + n → ∃ h', g_X7_herd_32 n (nI i) h = some h' ∧ (∀ b, b ≠ 4 → h' b = h b) ∧ (∀ j, i ≤ j → j < 82 → h' 4 j = h 7 j) ∧ ∀ j, j < i → h' 4 j = h 4 j := by
  intro n
  induction n with
  | zero => intro i h h1 h2; omega
  | succ n ih =>
    intro i h h1 h2
    rw [g_X7_herd_32]
    by_cases hi : i = 82
    · subst hi
      rw [if_neg (by decide)]
      exact ⟨h, rfl, fun _ _ => rfl, fun j _ _ => by omega, fun _ _ => rfl⟩
    have k1 : mj_in (nI i) 82 = true := mj_in_nI (by omega) (by decide)
    rw [if_pos (show nI i < (82 : Int32) from nI_lt (b := 82) (by omega) (by decide)), if_pos k1, if_pos k1, ix_nI (by omega), nI_1]
    dsimp only [mj_lt]
    obtain ⟨h', q1, q2, q3, q4⟩ := ih (i + 1) (mj_wr h 4 i (h 7 i)) (by omega) (by omega)
    refine ⟨h', q1, fun b hb => by rw [q2 b hb, wr_ne1 _ _ hb], fun j hj1 hj2 => ?_, fun j hj => by rw [q4 j (by omega), wr_ne _ _ (by omega)]⟩
    by_cases ej : j = i
    · subst ej
      rw [q4 j (by omega), wr_eq]
    · rw [q3 j (by omega) hj2, wr_ne1 _ _ (by omega)]
/-- the whole reading: first its beginning -/
theorem read_start {f h : mj_I} {g : mj_L} (hR : rel f h g) : ∃ n f3 f4 h2 h3, g_X4_look (mj_wr (mj_wr f 2 6 0) 2 3 0) = some f3 ∧ g_X2_begin 13 f3 = some f4 ∧ g_X7_readHerd_7 mj_fuel 0 (mj_wr h 0 10 0) = some h2 ∧ g_X7_nextToken h2 = some h3 ∧ pg n 0 0 f h f4 h3 := by
  obtain ⟨n, hn, t1, t2, t3⟩ := hR.2.2.1
  obtain ⟨h2, z1, z2, z3, _⟩ := rz_loop mj_fuel 0 (mj_wr h 0 10 0) (by omega) (by rw [fuel_eq]; omega)
  rw [show nI 0 = (0 : Int32) from rfl] at z1
  have e0 : h2 0 = mj_wr h 0 10 0 0 := z2 0 (by omega)
  obtain ⟨f3, h3, l1, l2, l3, l4, l5⟩ := look_both (n := n) (q := 0) (f := mj_wr (mj_wr f 2 6 0) 2 3 0) (h := h2) hn (by rw [wr_ne _ _ (by omega), wr_ne _ _ (by omega)]; exact t1) (by rw [e0, wr_ne _ _ (by omega)]; exact t2) (fun i hi => by rw [wr_ne1 _ _ (by omega), wr_ne1 _ _ (by omega), z2 6 (by omega), wr_ne1 _ _ (by omega)]; exact t3 i hi) (by omega) (by rw [wr_eq]; rfl) (by rw [e0, wr_eq]; rfl)
  obtain ⟨f4, b1, b2, b3, b4, b5⟩ := beg_ok f3
  have fr1 : ∀ b, b ≠ 2 → b ≠ 13 → b ≠ 13 + 2 → f4 b = f b := fun b k1 k2 k3 => by rw [b2 b k2 k3, l4.1 b k1, wr_ne1 _ _ k1, wr_ne1 _ _ k1]
  have e7 : ∀ j, j < 82 → h3 7 j = 0 := fun j hj => by rw [l5.1 7 (by omega)]; exact z3 j (by omega) hj
  refine ⟨n, f3, f4, h2, h3, l1, b1, z1, l2, ?_, ?_, ⟨fun b k1 k2 => fr1 b k1 (by omega) (by omega), b3, fun k hk => ?_⟩, ⟨fun b k1 k2 => ?_, fun j hj => ?_⟩, ⟨⟨fun z => absurd z (by omega), fun z => absurd z (by omega), fun _ => ⟨e7 _ (by omega), e7 _ (by omega), fun j hj => e7 _ (by omega)⟩⟩, fun j hj => absurd hj (by omega), ⟨?_, ?_, ?_, ?_, ?_⟩, ⟨e7 _ (by omega), fun k hk => ⟨e7 _ (by omega), e7 _ (by omega)⟩⟩, fun j hj => ⟨?_, ?_⟩, fun k k1 k2 => ?_⟩⟩
  · unfold tk
    rw [b2 2 (by omega) (by omega), b2 3 (by omega) (by omega)]
    exact l3
  · rw [b2 2 (by omega) (by omega), l4.2.2, wr_ne _ _ (by omega), wr_eq]
  · rw [fr1 _ (by omega) (by omega) (by omega)]
    exact (hR.2.2.2.2.2.2.2 13 (Or.inr (Or.inl rfl))).2 k hk
  · rw [l5.1 b k1, z2 b k2, wr_ne1 _ _ k1]
  · rw [l5.2 j (by omega), e0, wr_ne _ _ (by omega)]
  · rw [b4 3 (by omega) (by omega), e7 _ (by omega)]
  · rw [b4 4 (by omega) (by omega), e7 _ (by omega)]
  · rw [b4 5 (by omega) (by omega), e7 _ (by omega)]
  · rw [b4 6 (by omega) (by omega), e7 _ (by omega)]
  · rw [b4 7 (by omega) (by omega), e7 _ (by omega)]
  · rw [b5 j hj, e7 _ (by omega)]
  · rw [e7 _ (by omega)]; decide
  · rw [e7 50 (by omega)] at k1
    exact absurd k1 (nI_pos (by omega))
def rdE (f : mj_I) : Option mj_I := (g_X4_readParishes 13 f).bind (fun o_8 => (g_X4_readClouds 13 o_8).bind xend)
def rdD (f : mj_I) : Option mj_I := (g_X4_readWind 13 117 1 f).bind rdE
def rdC (f : mj_I) : Option mj_I := (g_X4_readWind 13 108 0 f).bind rdD
theorem read_form (f : mj_I) : g_X4_read 13 f = (g_X4_look (mj_wr (mj_wr f 2 6 0) 2 3 0)).bind (fun o_3 => (g_X2_begin 13 o_3).bind (fun o_4 => (g_X4_readLaw 13 o_4).bind rdC)) := rfl
theorem rdE_bad {f0 h0 f h : mj_I} (P : pb f0 h0 f h) : rdE f = some f := by
  unfold rdE g_X4_readParishes g_X4_readClouds
  rw [hF1, par_bad P.1, Option.bind_some, cl_bad P.1, Option.bind_some, xend_bad P.1]
theorem rdD_bad {f0 h0 f h : mj_I} (P : pb f0 h0 f h) : ∃ f', rdD f = some f' ∧ pb f0 h0 f' h := by
  obtain ⟨f', q1, q2⟩ := wind_pb (t := 1) (c := 117) (by omega) P
  rw [show nI 1 = (1 : Int32) from rfl] at q1
  unfold rdD
  rw [q1, Option.bind_some]
  exact ⟨_, rdE_bad q2, q2⟩
theorem rdC_bad {f0 h0 f h : mj_I} (P : pb f0 h0 f h) : ∃ f', rdC f = some f' ∧ pb f0 h0 f' h := by
  obtain ⟨f', q1, q2⟩ := wind_pb (t := 0) (c := 108) (by omega) P
  rw [show nI 0 = (0 : Int32) from rfl] at q1
  unfold rdC
  rw [q1, Option.bind_some]
  exact rdD_bad q2
theorem rdE_ok {n : Nat} {f0 h0 f h : mj_I} (G : pg n 2 12 f0 h0 f h) : ∃ v f' h', rdE f = some f' ∧ g_X7_readHerd_62 mj_fuel 1 h = some (v, h') ∧ ((v = 1 ∧ pf n f0 h0 f' h') ∨ (v = 0 ∧ pb f0 h0 f' h')) := by
  obtain ⟨g1, g2, g3, g4, g5⟩ := G
  have Z := g5.1.2.2 (by omega)
  have G3 : pg n 3 12 f0 h0 f h := ⟨g1, g2, g3, g4, ⟨⟨fun _ => g5.1.1 (by omega), fun _ => g5.1.2.1 (by omega), fun z => absurd z (by omega)⟩, g5.2⟩⟩
  have hF := fuel_eq
  unfold rdE g_X4_readParishes g_X4_readClouds
  rcases par_loop mj_fuel 0 mj_fuel 0 f h G3 (by rw [Z.1]; rfl) Z.2.1 (fun v hv => by rw [bm_zero, Z.2.2 v hv]; exact ⟨fun _ => by decide, fun _ => rfl⟩) (by omega) (by omega) (by omega) with ⟨m', f1, h1, q1, q2, q3, q4, q5, q6⟩ | ⟨f1, h1, q1, q2, q3⟩
  · rw [show nI 0 = (0 : Int32) from rfl] at q1
    obtain ⟨v, f2, h2, r1, r2, r3⟩ := cl_loop mj_fuel 0 m' 0 f1 h1 q4 q5 (fun v hv => by rw [bm_zero]; exact ⟨fun _ j hj => by omega, fun _ => rfl⟩) (fun _ => q6) (by omega) (by omega) (by omega)
    rw [show nI 0 = (0 : Int32) from rfl] at r1
    rw [q1, Option.bind_some, r1, q2, r2]
    exact ⟨v, f2, h2, rfl, rfl, r3⟩
  · rw [show nI 0 = (0 : Int32) from rfl] at q1
    have e : g_X4_readClouds_4 mj_fuel 13 0 0 f1 = some f1 := by
      rw [hF1]
      exact cl_bad q3.1
    rw [q1, Option.bind_some, e, Option.bind_some, xend_bad q3.1, q2]
    exact ⟨_, _, _, rfl, rfl, Or.inr ⟨rfl, q3⟩⟩
theorem read_both {f h : mj_I} {g : mj_L} (hR : rel f h g) : ∃ n v f' h', g_X4_read 13 f = some f' ∧ g_X7_readHerd h = some (v, h') ∧ ((v = 1 ∧ pf n f h f' h') ∨ (v = 0 ∧ pb f h f' h')) := by
  obtain ⟨n, f3, f4, h2, h3, s1, s2, s3, s4, G⟩ := read_start hR
  have n10 : ¬ (1 : Int32) = 0 := by decide
  rw [read_form]
  unfold g_X7_readHerd
  dsimp only [mj_lt]
  rw [s1, Option.bind_some, s2, Option.bind_some, s3, Option.bind_some, s4, Option.bind_some]
  obtain ⟨v, f5, h5, a1, a2, a3⟩ := law_both G
  rw [a1, Option.bind_some, a2, Option.bind_some]
  rcases a3 with ⟨rfl, G5⟩ | ⟨rfl, P⟩
  rotate_left
  · obtain ⟨f', b1, b2⟩ := rdC_bad P
    rw [if_pos rfl, b1]
    exact ⟨n, _, _, _, rfl, rfl, Or.inr ⟨rfl, b2⟩⟩
  rw [if_neg n10]
  obtain ⟨v, f6, h6, a1, a2, a3⟩ := wind_both (t := 0) (c := 108) (by omega) (by decide) G5
  rw [show nI 0 = (0 : Int32) from rfl] at a1
  rw [show nI (6 * 0) = (0 : Int32) from rfl] at a2
  unfold rdC
  rw [a1, Option.bind_some, a2, Option.bind_some]
  rcases a3 with ⟨rfl, G6⟩ | ⟨rfl, P⟩
  rotate_left
  · obtain ⟨f', b1, b2⟩ := rdD_bad P
    rw [if_pos rfl, b1]
    exact ⟨n, _, _, _, rfl, rfl, Or.inr ⟨rfl, b2⟩⟩
  rw [if_neg n10]
  obtain ⟨v, f7, h7, a1, a2, a3⟩ := wind_both (t := 1) (c := 117) (by omega) (by decide) G6
  rw [show nI 1 = (1 : Int32) from rfl] at a1
  rw [show nI (6 * 1) = (6 : Int32) from rfl] at a2
  unfold rdD
  rw [a1, Option.bind_some, a2, Option.bind_some]
  rcases a3 with ⟨rfl, G7⟩ | ⟨rfl, P⟩
  rotate_left
  · rw [if_pos rfl, rdE_bad P]
    exact ⟨n, _, _, _, rfl, rfl, Or.inr ⟨rfl, P⟩⟩
  rw [if_neg n10]
  obtain ⟨v, f8, h8, a1, a2, a3⟩ := rdE_ok G7
  rw [a1, a2, Option.bind_some]
  refine ⟨n, v, f8, h8, rfl, ?_, a3⟩
  rcases a3 with ⟨rfl, _⟩ | ⟨rfl, _⟩
  · exact if_pos rfl
  · exact if_pos rfl
theorem hp_hr {f : mj_I} {s : Nat → Int32} {i : Nat} (hi : i ≤ 5) (e50 : s 50 = nI i) (H : hp 3 12 f s) : rl_hr f 13 s ∧ rl_hv 1000 s := by
  obtain ⟨⟨l1, l2, _⟩, wd, ⟨a1, a2, a3, a4, a5⟩, ⟨c0, c1⟩, d, e⟩ := H
  refine ⟨⟨⟨l1 (by omega), l2 (by omega), a1, a2, a3, a4, a5⟩, fun j hj => (wd j hj).1, fun j hj => (d j hj).1, fun k k1 k2 => (e k k1 k2).1⟩, ⟨by rw [e50]; exact mj_in_nI (by omega) (by decide), by rw [c0]; decide, fun j hj => (wd j hj).2, fun j hj => (d j hj).2, fun k k1 k2 => ?_⟩⟩
  obtain ⟨_, u0, u1, u3, u5⟩ := e k k1 k2
  obtain ⟨z1, z2⟩ := c1 k k2
  exact ⟨u0, u1, by rw [z1]; decide, u3, by rw [z2]; decide, u5, fun z => absurd z2 z⟩
theorem herd_bad {fX fM fb hb : mj_I} {g : mj_L} {e : Int32} (hR : rel fX fM g) (P : pb fX fM fb hb) : rel (mj_wr (mj_wr fb 2 1 0) 0 9 e) (mj_wr (mj_wr hb 0 8 0) 0 9 e) g := by
  obtain ⟨p1, p2, p3, ⟨x1, x2, x3⟩, ⟨m1, m2⟩⟩ := P
  obtain ⟨r1, ⟨r2, r3⟩, r4, r5, r6, r7, r8, r9⟩ := hR
  have xa : ∀ b, b ≠ 0 → b ≠ 2 → (b < 13 ∨ 22 ≤ b) → mj_wr (mj_wr fb 2 1 0) 0 9 e b = fX b := fun b k0 k2 k => by rw [wr_ne1 _ _ k0, wr_ne1 _ _ k2]; exact x1 b k2 k
  have xb : ∀ b, b ≠ 0 → b ≠ 2 → mj_wr (mj_wr fb 2 1 0) 0 9 e b = fb b := fun b k0 k2 => by rw [wr_ne1 _ _ k0, wr_ne1 _ _ k2]
  have ma : ∀ b, b ≠ 0 → b ≠ 7 → mj_wr (mj_wr hb 0 8 0) 0 9 e b = fM b := fun b k0 k7 => by rw [wr_ne1 _ _ k0, wr_ne1 _ _ k0]; exact m1 b k0 k7
  have mb : ∀ j, j ≠ 8 → j ≠ 9 → (j < 10 ∨ 15 ≤ j) → mj_wr (mj_wr hb 0 8 0) 0 9 e 0 j = fM 0 j := fun j k8 k9 k => by rw [wr_ne _ _ (by omega), wr_ne _ _ (by omega)]; exact m2 j k
  refine ⟨rows_c r1 (fun b _ _ => xa b (by omega) (by omega) (by omega)) (fun b _ _ => ma b (by omega) (by omega)), ⟨?_, by rw [wr_eq, wr_eq]⟩, ⟨0, by omega, ?_, ?_, fun i hi => by omega⟩, now_c r5 (fun b _ _ => xa b (by omega) (by omega) (by omega)) (mb 4 (by omega) (by omega) (by omega)) (ma 4 (by omega) (by omega)), acts_c r6 (by rw [xa 24 (by omega) (by omega) (by omega)]) (by rw [xa 24 (by omega) (by omega) (by omega)]) (xa 25 (by omega) (by omega) (by omega)) (mb 18 (by omega) (by omega) (by omega)) (ma 8 (by omega) (by omega)) (fun j _ => by rw [ma 4 (by omega) (by omega)]), imgs_c r7 (fun b _ _ => xa b (by omega) (by omega) (by omega)) (ma 12 (by omega) (by omega)) (ma 13 (by omega) (by omega)) (fun z => by rw [mb 4 (by omega) (by omega) (by omega)]; exact z), trace_c r8 (by rw [xa 26 (by omega) (by omega) (by omega)]) (xa 27 (by omega) (by omega) (by omega)) (mb 28 (by omega) (by omega) (by omega)) (ma 14 (by omega) (by omega)), ?_⟩
  · rw [wr_ne _ _ (by omega), wr_ne1 _ _ (by omega), x1 0 (by omega) (by omega), mb 3 (by omega) (by omega) (by omega)]
    exact r2
  · rw [wr_ne1 _ _ (by omega), wr_eq]
    rfl
  · rw [wr_ne _ _ (by omega), wr_eq]
    rfl
  · intro a ha
    by_cases e13 : a = 13
    · subst e13
      exact ⟨by rw [xb 13 (by omega) (by omega), x2]; rfl, fun k hk => by rw [xb _ (by omega) (by omega)]; exact x3 k hk⟩
    · obtain ⟨k1, k2⟩ := r9 a ha
      have hl := isH_lt ha
      have hne : a + 9 ≤ 13 ∨ 22 ≤ a := by
        rcases ha with rfl | rfl | rfl | rfl <;> omega
      exact ⟨by rw [xa a (by omega) (by omega) (by omega)]; exact k1, fun k hk => by rw [xa (a + 4 + k) (by omega) (by omega) (by omega)]; exact k2 k hk⟩
theorem sim_herd : ls_herd rel := by
  intro fX fM gM hR
  obtain ⟨n, v, f1, h1, q1, q2, q3⟩ := read_both hR
  unfold g_X6_herd g_X7_herd
  dsimp only [mj_lt]
  rw [q1, q2, Option.bind_some, Option.bind_some]
  rcases q3 with ⟨rfl, ⟨G, i, hi, e50⟩⟩ | ⟨rfl, P⟩
  · have h6 : mj_wr f1 2 1 0 2 6 = 0 := by rw [wr_ne _ _ (by omega)]; exact G.2.1
    obtain ⟨x1, x2, x3⟩ := G.2.2.1
    obtain ⟨m1, m2⟩ := G.2.2.2.1
    obtain ⟨H1, H2⟩ := hp_hr hi e50 G.2.2.2.2
    have e2 : ∀ b, b ≠ 2 → mj_wr f1 2 1 0 b = f1 b := fun b hb => wr_ne1 _ _ hb
    obtain ⟨f2, b1, b2, b3, b4, b5⟩ := become_ok (a0 := 4) (a1 := 13) (f := mj_wr f1 2 1 0) (by omega) (by rw [e2 13 (by omega), x2]; rfl) (fun k hk => by rw [e2 (13 + 4 + k) (by omega)]; exact x3 k hk)
    obtain ⟨h2, c1, c2, c3, _⟩ := h32_loop mj_fuel 0 (mj_wr h1 0 8 0) (by omega) (by rw [fuel_eq]; omega)
    rw [show nI 0 = (0 : Int32) from rfl] at c1
    have R4 : rl_hr f2 4 (h1 7) := b4 _ (hr_c H1 (fun b z1 z2 => e2 b (by omega)))
    have e4 : ∀ j, j < 82 → h2 4 j = h1 7 j := fun j hj => by rw [c3 j (by omega) hj, wr_ne1 _ _ (by omega)]
    rw [if_pos h6, if_neg (show ¬ (1 : Int32) = 0 by decide), b1, c1, Option.bind_some, Option.bind_some]
    unfold g_X0_forget
    dsimp only [mj_lt]
    obtain ⟨r1, ⟨r2, r3⟩, r4, r5, r6, r7, r8, r9⟩ := hR
    have xa : ∀ b, b ≠ 2 → b ≠ 24 → (b < 4 ∨ 22 ≤ b) → mj_wr f2 24 2 0 b = fX b := fun b k2 k24 k => by rw [wr_ne1 _ _ k24, b2 b (by omega), e2 b k2]; exact x1 b k2 (by omega)
    have xb : ∀ b, 4 ≤ b → b < 13 → mj_wr f2 24 2 0 b = f2 b := fun b _ _ => wr_ne1 _ _ (by omega)
    have xc : ∀ b, 13 ≤ b → b < 22 → mj_wr f2 24 2 0 b = f1 b := fun b _ _ => by rw [wr_ne1 _ _ (by omega), b2 b (by omega), e2 b (by omega)]
    have ma : ∀ b, b ≠ 0 → b ≠ 4 → b ≠ 7 → mj_wr (mj_wr h2 0 4 1) 0 18 0 b = fM b := fun b k0 k4 k7 => by rw [wr_ne1 _ _ k0, wr_ne1 _ _ k0, c2 b k4, wr_ne1 _ _ k0]; exact m1 b k0 k7
    have mb : ∀ j, j ≠ 4 → j ≠ 8 → j ≠ 18 → (j < 10 ∨ 15 ≤ j) → mj_wr (mj_wr h2 0 4 1) 0 18 0 0 j = fM 0 j := fun j k4 k8 k18 k => by rw [wr_ne _ _ (by omega), wr_ne _ _ (by omega), c2 0 (by omega), wr_ne _ _ (by omega)]; exact m2 j k
    have m4 : ∀ j, j < 82 → mj_wr (mj_wr h2 0 4 1) 0 18 0 4 j = h1 7 j := fun j hj => by rw [wr_ne1 _ _ (by omega), wr_ne1 _ _ (by omega)]; exact e4 j hj
    obtain ⟨an, ap, a1, a2, a3, a4, a5, a6⟩ := r6
    refine ⟨_, _, rfl, rfl, ?_, rows_c r1 (fun b _ _ => xa b (by omega) (by omega) (by omega)) (fun b _ _ => ma b (by omega) (by omega) (by omega)), ⟨?_, ?_⟩, ⟨0, by omega, ?_, ?_, fun i hi => by omega⟩, ⟨?_, ?_, hv_c H2 m4⟩, ⟨0, ap, by omega, a2, ?_, ?_, ?_, fun i hi => by omega⟩, imgs_c r7 (fun b _ _ => xa b (by omega) (by omega) (by omega)) (ma 12 (by omega) (by omega) (by omega)) (ma 13 (by omega) (by omega) (by omega)) (fun z => ?_), trace_c r8 (congrFun (xa 26 (by omega) (by omega) (by omega)) 1) (xa 27 (by omega) (by omega) (by omega)) (mb 28 (by omega) (by omega) (by omega) (by omega)) (ma 14 (by omega) (by omega) (by omega)), ?_⟩
    · show mj_wr f2 24 2 0 4 4 = mj_wr (mj_wr h2 0 4 1) 0 18 0 4 50
      rw [xb 4 (by omega) (by omega), m4 50 (by omega)]
      exact R4.1.2.2.2.1
    · show mj_wr f2 24 2 0 0 8 = mj_wr (mj_wr h2 0 4 1) 0 18 0 0 3
      rw [xa 0 (by omega) (by omega) (by omega), mb 3 (by omega) (by omega) (by omega) (by omega)]
      exact r2
    · show mj_wr f2 24 2 0 0 9 = mj_wr (mj_wr h2 0 4 1) 0 18 0 0 9
      rw [xa 0 (by omega) (by omega) (by omega), mb 9 (by omega) (by omega) (by omega) (by omega)]
      exact r3
    · show mj_wr f2 24 2 0 2 1 = nI 0
      rw [wr_ne1 _ _ (by omega), b2 2 (by omega), wr_eq]
      rfl
    · show mj_wr (mj_wr h2 0 4 1) 0 18 0 0 8 = nI 0
      rw [wr_ne _ _ (by omega), wr_ne _ _ (by omega), c2 0 (by omega), wr_eq]
      rfl
    · show mj_wr f2 24 2 0 4 0 = mj_wr (mj_wr h2 0 4 1) 0 18 0 0 4
      rw [xb 4 (by omega) (by omega), b3, e2 13 (by omega), x2, wr_ne _ _ (by omega), wr_eq]
    · exact hr_cs (hr_c R4 (fun b z1 z2 => xb b z1 z2)) m4
    · show mj_wr f2 24 2 0 24 2 = nI 0
      rw [wr_eq]
      rfl
    · show mj_wr (mj_wr h2 0 4 1) 0 18 0 0 18 = nI 0
      rw [wr_eq]
      rfl
    · show mj_wr f2 24 2 0 24 1 = nI ap
      rw [wr_ne _ _ (by omega), b2 24 (by omega), e2 24 (by omega), x1 24 (by omega) (by omega)]
      exact a5
    · show mj_wr (mj_wr h2 0 4 1) 0 18 0 0 4 = 1
      rw [wr_ne _ _ (by omega), wr_eq]
    · intro a ha
      show mj_b (mj_wr f2 24 2 0 a 0) = true ∧ _
      by_cases e13 : a = 13
      · subst e13
        exact ⟨by rw [xc 13 (by omega) (by omega), x2]; rfl, fun k hk => by show mj_b (mj_wr f2 24 2 0 _ 4) = true ∧ mj_b (mj_wr f2 24 2 0 _ 5) = true; rw [xc _ (by omega) (by omega)]; exact x3 k hk⟩
      · by_cases e4' : a = 4
        · subst e4'
          exact ⟨by rw [xb 4 (by omega) (by omega), b3, e2 13 (by omega), x2]; rfl, fun k hk => by show mj_b (mj_wr f2 24 2 0 _ 4) = true ∧ mj_b (mj_wr f2 24 2 0 _ 5) = true; rw [xb _ (by omega) (by omega)]; exact b5 k hk⟩
        · obtain ⟨k1, k2⟩ := r9 a ha
          have hne : 44 ≤ a := by
            rcases ha with rfl | rfl | rfl | rfl <;> omega
          exact ⟨by rw [xa a (by omega) (by omega) (by omega)]; exact k1, fun k hk => by show mj_b (mj_wr f2 24 2 0 _ 4) = true ∧ mj_b (mj_wr f2 24 2 0 _ 5) = true; rw [xa (a + 4 + k) (by omega) (by omega) (by omega)]; exact k2 k hk⟩
  · have h6 : ¬ mj_wr f1 2 1 0 2 6 = 0 := by rw [wr_ne _ _ (by omega)]; exact P.1
    have ee : mj_wr h1 0 8 0 0 14 = mj_wr f1 2 1 0 2 6 := by rw [wr_ne _ _ (by omega), wr_ne _ _ (by omega)]; exact P.2.1.symm
    rw [if_neg h6, if_pos rfl, ee]
    refine ⟨_, _, rfl, rfl, ?_, herd_bad hR P⟩
    show (-1000100 : Int32) - mj_wr (mj_wr f1 2 1 0) 0 9 (mj_wr f1 2 1 0 2 6) 2 2 = -1000100 - mj_wr (mj_wr h1 0 8 0) 0 9 (mj_wr f1 2 1 0 2 6) 0 13
    rw [wr_ne _ _ (by omega), wr_ne _ _ (by omega), wr_ne (a := 0) _ _ (by omega), wr_ne _ _ (by omega), P.2.2.1]
