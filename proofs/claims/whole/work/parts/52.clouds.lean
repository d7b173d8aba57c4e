/-! the clouds read -/
theorem bg_v (a : Nat) (x1 x2 x3 : Int32) (f : mj_I) : (∀ b, b ≠ a → g_X1_begin a x1 x2 x3 f b = f b) ∧ g_X1_begin a x1 x2 x3 f a 0 = x1 ∧ g_X1_begin a x1 x2 x3 f a 1 = x2 ∧ g_X1_begin a x1 x2 x3 f a 2 = 0 ∧ g_X1_begin a x1 x2 x3 f a 3 = x3 ∧ g_X1_begin a x1 x2 x3 f a 4 = 0 ∧ g_X1_begin a x1 x2 x3 f a 5 = 1 := by
  unfold g_X1_begin
  dsimp only [mj_lt]
  refine ⟨fun b hb => by rw [wr_ne1 _ _ hb, wr_ne1 _ _ hb, wr_ne1 _ _ hb, wr_ne1 _ _ hb, wr_ne1 _ _ hb, wr_ne1 _ _ hb, wr_ne1 _ _ hb], ?_, ?_, ?_, ?_, ?_, ?_⟩
  · rw [wr_ne _ _ (by omega), wr_ne _ _ (by omega), wr_ne _ _ (by omega), wr_ne _ _ (by omega), wr_ne _ _ (by omega), wr_ne _ _ (by omega), wr_eq]
  · rw [wr_ne _ _ (by omega), wr_ne _ _ (by omega), wr_ne _ _ (by omega), wr_ne _ _ (by omega), wr_ne _ _ (by omega), wr_eq]
  · rw [wr_ne _ _ (by omega), wr_ne _ _ (by omega), wr_ne _ _ (by omega), wr_ne _ _ (by omega), wr_eq]
  · rw [wr_ne _ _ (by omega), wr_ne _ _ (by omega), wr_ne _ _ (by omega), wr_eq]
  · rw [wr_ne _ _ (by omega), wr_ne _ _ (by omega), wr_eq]
  · rw [wr_ne _ _ (by omega), wr_eq]
theorem pxs_begin {f0 f : mj_I} {i : Nat} {x1 x2 x3 w : Int32} (hi : i < 5) (P : pxs f0 f) : pxs f0 (mj_wr (g_X1_begin (13 + 4 + i) x1 x2 x3 f) 13 4 w) := by
  obtain ⟨b0, b1, b2, b3, b4, b5, b6⟩ := bg_v (13 + 4 + i) x1 x2 x3 f
  refine pxs_wr ⟨fun b h1 h2 => by rw [b0 b (by omega)]; exact P.1 b h1 h2, by rw [b0 13 (by omega)]; exact P.2.1, fun k hk => ?_⟩ (by omega) (by omega) (by omega) (fun z => by omega)
  by_cases e : k = i
  · subst e
    rw [b5, b6]
    exact ⟨rfl, rfl⟩
  · rw [b0 _ (by omega)]; exact P.2.2 k hk
theorem pb_begin {f0 h0 f h : mj_I} {i : Nat} {x1 x2 x3 w : Int32} (hi : i < 5) (P : pb f0 h0 f h) : pb f0 h0 (mj_wr (g_X1_begin (13 + 4 + i) x1 x2 x3 f) 13 4 w) h := by
  have b0 := (bg_v (13 + 4 + i) x1 x2 x3 f).1
  have e2 : mj_wr (g_X1_begin (13 + 4 + i) x1 x2 x3 f) 13 4 w 2 = f 2 := by rw [wr_ne1 _ _ (by omega), b0 2 (by omega)]
  obtain ⟨p1, p2, p3, p4, p5⟩ := P
  exact ⟨by rw [e2]; exact p1, by rw [e2]; exact p2, by rw [e2]; exact p3, pxs_begin hi p4, p5⟩
def s5 (s : Nat → Int32) (i : Nat) (kd cl wt : Int32) : Nat → Int32 := upd (upd (upd (upd (upd s (51 + i) kd) (56 + i) cl) (66 + i) wt) (76 + i) 1) 50 (nI (i + 1))
theorem s5_ne {s : Nat → Int32} {i j : Nat} {kd cl wt : Int32} (h0 : j ≠ 50) (h1 : j ≠ 51 + i) (h2 : j ≠ 56 + i) (h3 : j ≠ 66 + i) (h4 : j ≠ 76 + i) : s5 s i kd cl wt j = s j := by
  unfold s5
  rw [upd_ne h0, upd_ne h4, upd_ne h3, upd_ne h2, upd_ne h1]
theorem s5_v {s : Nat → Int32} {i : Nat} {kd cl wt : Int32} (hi : i < 5) : s5 s i kd cl wt 50 = nI (i + 1) ∧ s5 s i kd cl wt (51 + i) = kd ∧ s5 s i kd cl wt (56 + i) = cl ∧ s5 s i kd cl wt (66 + i) = wt ∧ s5 s i kd cl wt (76 + i) = 1 := by
  unfold s5
  refine ⟨upd_eq, ?_, ?_, ?_, ?_⟩
  · rw [upd_ne (by omega), upd_ne (by omega), upd_ne (by omega), upd_ne (by omega), upd_eq]
  · rw [upd_ne (by omega), upd_ne (by omega), upd_ne (by omega), upd_eq]
  · rw [upd_ne (by omega), upd_ne (by omega), upd_eq]
  · rw [upd_ne (by omega), upd_eq]
theorem hp_cloud {f : mj_I} {s : Nat → Int32} {i : Nat} {kd cl wt : Int32} (hi : i < 5) (e50 : s 50 = nI i) (hk : mj_in kd 6 = true ∧ kd ≠ 0) (hc : mj_in cl 32 = true) (hw : mj_in wt 41 = true) (H : hp 3 12 f s) :
    hp 3 12 (mj_wr (g_X1_begin (13 + 4 + i) kd cl wt f) 13 4 (nI (i + 1))) (s5 s i kd cl wt) := by
  obtain ⟨⟨l1, l2, _⟩, wd, ⟨a1, a2, a3, a4, a5⟩, ⟨c0, c1⟩, d, e⟩ := H
  obtain ⟨b0, b1, b2, b3, b4, b5, b6⟩ := bg_v (13 + 4 + i) kd cl wt f
  obtain ⟨v0, v1, v2, v3, v4⟩ := s5_v (s := s) (kd := kd) (cl := cl) (wt := wt) hi
  have X : ∀ b j, ¬ (b = 13 ∧ j = 4) → b ≠ 13 + 4 + i → mj_wr (g_X1_begin (13 + 4 + i) kd cl wt f) 13 4 (nI (i + 1)) b j = f b j := fun b j h1 h2 => by rw [wr_ne _ _ h1, b0 b h2]
  refine ⟨⟨fun z => ?_, fun z => ?_, fun z => absurd z (by omega)⟩, fun j hj => ?_, ⟨?_, ?_, ?_, ?_, ?_⟩, ⟨?_, fun k hk => ?_⟩, fun j hj => ?_, fun k k1 k2 => ?_⟩
  · rw [X _ _ (by omega) (by omega), s5_ne (by omega) (by omega) (by omega) (by omega) (by omega)]; exact l1 z
  · rw [X _ _ (by omega) (by omega), s5_ne (by omega) (by omega) (by omega) (by omega) (by omega)]; exact l2 z
  · rw [X _ _ (by omega) (by omega), s5_ne (by omega) (by omega) (by omega) (by omega) (by omega)]; exact wd j hj
  · rw [X _ _ (by omega) (by omega), s5_ne (by omega) (by omega) (by omega) (by omega) (by omega)]; exact a1
  · rw [wr_eq, v0]
  · rw [X _ _ (by omega) (by omega), s5_ne (by omega) (by omega) (by omega) (by omega) (by omega)]; exact a3
  · rw [X _ _ (by omega) (by omega), s5_ne (by omega) (by omega) (by omega) (by omega) (by omega)]; exact a4
  · rw [X _ _ (by omega) (by omega), s5_ne (by omega) (by omega) (by omega) (by omega) (by omega)]; exact a5
  · rw [s5_ne (by omega) (by omega) (by omega) (by omega) (by omega)]; exact c0
  · rw [s5_ne (by omega) (by omega) (by omega) (by omega) (by omega), s5_ne (by omega) (by omega) (by omega) (by omega) (by omega)]; exact c1 k hk
  · rw [X _ _ (by omega) (by omega), s5_ne (by omega) (by omega) (by omega) (by omega) (by omega)]; exact d j hj
  · rw [v0] at k1
    unfold ck
    by_cases ek : k = i
    · subst ek
      rw [wr_ne1 (b := 13 + 4 + k) _ _ (by omega), b1, b2, b3, b4, b5, b6, v1, v2, v3, v4, s5_ne (by omega) (by omega) (by omega) (by omega) (by omega), s5_ne (by omega) (by omega) (by omega) (by omega) (by omega), (c1 k k2).1, (c1 k k2).2]
      exact ⟨⟨rfl, rfl, rfl, rfl, rfl, rfl⟩, hk, hc, hw, by decide⟩
    · have hlt : k < i := by
        have := (nI_ltI (a := k) (b := i + 1) (by omega) (by omega)).mp k1
        omega
      rw [wr_ne1 (b := 13 + 4 + k) _ _ (by omega), b0 (13 + 4 + k) (by omega), s5_ne (by omega) (by omega) (by omega) (by omega) (by omega), s5_ne (by omega) (by omega) (by omega) (by omega) (by omega), s5_ne (by omega) (by omega) (by omega) (by omega) (by omega), s5_ne (by omega) (by omega) (by omega) (by omega) (by omega), s5_ne (by omega) (by omega) (by omega) (by omega) (by omega), s5_ne (by omega) (by omega) (by omega) (by omega) (by omega)]
      exact e k (by rw [e50]; exact nI_lt hlt (by omega)) k2
/-- the cells that have a cloud -/
def cm (i : Nat) (x2 : Int32) (s : Nat → Int32) : Prop := ∀ v, v < 32 → (bm x2 v = false ↔ ∀ j, j < i → s (56 + j) ≠ nI v)
theorem cm_set {x2 kd wt : Int32} {s : Nat → Int32} {i v : Nat} (hi : i < 5) (hv : v < 32) (M : cm i x2 s) : cm (i + 1) (x2 ||| ((1 : Int32) <<< (nI v &&& 31))) (s5 s i kd (nI v) wt) := by
  intro u hu
  have vv := (s5_v (s := s) (kd := kd) (cl := nI v) (wt := wt) hi).2.2.1
  have keep : ∀ j, j < i → s5 s i kd (nI v) wt (56 + j) = s (56 + j) := fun j hj => s5_ne (by omega) (by omega) (by omega) (by omega) (by omega)
  rw [bm_or _ hv]
  by_cases e : u = v
  · subst e
    constructor
    · intro z
      simp at z
    · intro z
      exact absurd vv (z i (by omega))
  · have m := M u hu
    constructor
    · intro z j hj
      have z' : bm x2 u = false := by simpa [e] using z
      by_cases ej : j = i
      · subst ej
        rw [vv]
        exact fun q => e (nI_inj (by omega) (by omega) q).symm
      · rw [keep j (by omega)]
        exact m.mp z' j (by omega)
    · intro z
      have z' : bm x2 u = false := m.mpr (fun j hj => by rw [← keep j hj]; exact z j (by omega))
      simp [e, z']
theorem tkn_loop {i v : Nat} {h : mj_I} (e50 : h 7 50 = nI i) (hi : i ≤ 5) : ∀ n j z, (z = 0 ∨ z = 1) → j ≤ i → i < j + n → ∃ z', g_X7_isTaken_4 n (nI v) z (nI j) h = some z' ∧ mj_b z' = true ∧ (z' = 0 ↔ z = 0 ∧ ∀ k, j ≤ k → k < i → h 7 (56 + k) ≠ nI v) := by
  intro n
  induction n with
  | zero => intro j z _ h1 h2; omega
  | succ n ih =>
    intro j z hz h1 h2
    rw [g_X7_isTaken_4, e50]
    by_cases hj : j = i
    · rw [if_neg (nI_nlt (by omega) (by omega))]
      exact ⟨z, rfl, by rcases hz with rfl | rfl <;> rfl, fun q => ⟨q, fun k _ _ => by omega⟩, fun q => q.1⟩
    rw [if_pos (nI_lt (by omega) (by omega)), if_pos (ix56 (show j < 5 by omega)).1, (ix56 (show j < 5 by omega)).2, nI_1]
    rcases hz with rfl | rfl
    · rw [if_pos rfl]
      by_cases c : h 7 (56 + j) = nI v
      · rw [if_pos c]
        obtain ⟨z', q1, q2, q3⟩ := ih (j + 1) 1 (Or.inr rfl) (by omega) (by omega)
        refine ⟨z', q1, q2, fun q => absurd (q3.mp q).1 (by decide), fun q => absurd c (q.2 j (by omega) (by omega))⟩
      · rw [if_neg c]
        obtain ⟨z', q1, q2, q3⟩ := ih (j + 1) 0 (Or.inl rfl) (by omega) (by omega)
        refine ⟨z', q1, q2, fun q => ⟨rfl, fun k k1 k2 => ?_⟩, fun q => q3.mpr ⟨rfl, fun k k1 k2 => q.2 k (by omega) k2⟩⟩
        by_cases ek : k = j
        · subst ek; exact c
        · exact (q3.mp q).2 k (by omega) k2
    · rw [if_neg (by decide)]
      obtain ⟨z', q1, q2, q3⟩ := ih (j + 1) 1 (Or.inr rfl) (by omega) (by omega)
      exact ⟨z', q1, q2, fun q => absurd (q3.mp q).1 (by decide), fun q => absurd q.1 (by decide)⟩
theorem tkn_ok {i v : Nat} {h : mj_I} (e50 : h 7 50 = nI i) (hi : i ≤ 5) : ∃ z, g_X7_isTaken (nI v) h = some z ∧ (z = 0 ↔ ∀ k, k < i → h 7 (56 + k) ≠ nI v) := by
  obtain ⟨z, q1, q2, q3⟩ := tkn_loop (v := v) e50 hi mj_fuel 0 0 (Or.inl rfl) (by omega) (by rw [fuel_eq]; omega)
  rw [show nI 0 = (0 : Int32) from rfl] at q1
  refine ⟨z, ?_, fun q k hk => (q3.mp q).2 k (by omega) hk, fun q => q3.mpr ⟨rfl, fun k _ hk => q k hk⟩⟩
  unfold g_X7_isTaken
  rw [q1, Option.bind_some, if_pos q2]
theorem num7 {n a b v j : Nat} {f f' h : mj_I} {la lb mk w : Int32} (ea : la = nI a) (eb : lb = nI b) (ha : a < 32) (hb : b < 32) (T : tk n f h) (h6 : f 2 6 = 0) (c1 : g_X4_takeNumber la lb mk f = some (nI v, f')) (h6' : f' 2 6 = 0) (ev : h 0 12 = nI v) : ∃ h'', g_X7_taken (mj_wr h 7 j w) = some (nI v, h'') ∧ tk n f' h'' ∧ lx f f' ∧ lm (mj_wr h 7 j w) h'' := by
  rcases num_both mk ea eb ha hb (tk_7 (j := j) (v := w) T) h6 with ⟨v', f2, h2, v1, v2, vb, ev', d1, d2, d3, d4, d5, d6, d7⟩ | ⟨v', v1, v2, vb, ev', d1, d2⟩ | ⟨e, he, d1, d2⟩
  · rw [c1] at d1
    have d1' := Option.some.inj d1
    have e1 : nI v = nI v' := congrArg Prod.fst d1'
    have e2 : f' = f2 := congrArg Prod.snd d1'
    subst e2
    rw [← e1] at d3
    exact ⟨h2, d3, d4, d6, d7⟩
  · rw [c1] at d1
    have e2 : f' = mj_wr f 2 6 2 := congrArg Prod.snd (Option.some.inj d1)
    rw [e2, wr_eq] at h6'
    exact absurd h6' (by decide)
  · rw [c1] at d1
    have e2 : f' = mj_wr f 2 6 e := congrArg Prod.snd (Option.some.inj d1)
    rw [e2, wr_eq] at h6'
    exact absurd h6' he
def clD (m : Nat) (x2 x3 u4 c w : Int32) (f : mj_I) : Option mj_I :=
  if mj_in x3 5 = true then g_X4_readClouds_4 m 13 (x2 ||| ((1 : Int32) <<< (c &&& 31))) (x3 + 1) (mj_wr (g_X1_begin (13 + 4 + ix x3) u4 c w f) 13 4 (x3 + 1)) else none
def clC (m : Nat) (x2 x3 u4 c : Int32) (f : mj_I) : Option mj_I := (g_X4_takeNumber 0 20 0 f).bind (fun o => (g_X4_takeSign 59 o.2).bind (clD m x2 x3 u4 c o.1))
def clB (m : Nat) (x2 x3 u4 c : Int32) (f : mj_I) : Option mj_I := (g_X4_takeSign 44 f).bind (clC m x2 x3 u4 c)
def clA (m : Nat) (x2 x3 u4 : Int32) (f : mj_I) : Option mj_I := (g_X4_takeNumber 0 31 x2 f).bind (fun o => clB m x2 x3 u4 o.1 o.2)
theorem cl_form {m : Nat} {f : mj_I} {x2 x3 : Int32} (h8 : ¬ 5 < x3) (h6 : f 2 6 = 0) (hp : ¬ g_X4_sortOf (f 2 4) = 0) (hn : ¬ x3 = 5) : g_X4_readClouds_4 (m + 1) 13 x2 x3 f = (g_X4_look f).bind (clA m x2 x3 (g_X4_sortOf (f 2 4))) := by
  rw [g_X4_readClouds_4, if_neg h8, if_pos h6, if_neg hp, if_neg hn]
  rfl
theorem cl_bad {n : Nat} {f : mj_I} {x2 x3 : Int32} (h6 : ¬ f 2 6 = 0) : g_X4_readClouds_4 (n + 1) 13 x2 x3 f = some f := by
  rw [g_X4_readClouds_4]
  by_cases c : 5 < x3
  · rw [if_pos c]
  · rw [if_neg c, if_neg h6]
theorem clD_bad {m i : Nat} {x2 u4 c w : Int32} {f0 h0 f h : mj_I} (hi : i < 5) (P : pb f0 h0 f h) : ∃ f', clD (m + 1) x2 (nI i) u4 c w f = some f' ∧ pb f0 h0 f' h := by
  unfold clD
  rw [if_pos (in5 hi).1, (in5 hi).2]
  have P2 := pb_begin (x1 := u4) (x2 := c) (x3 := w) (w := nI i + 1) hi P
  exact ⟨_, cl_bad P2.1, P2⟩
theorem clC_bad {m i : Nat} {x2 u4 c : Int32} {f0 h0 f h : mj_I} (hi : i < 5) (P : pb f0 h0 f h) : ∃ f', clC (m + 1) x2 (nI i) u4 c f = some f' ∧ pb f0 h0 f' h := by
  unfold clC
  rw [num_bad P.1, Option.bind_some, sign_bad P.1, Option.bind_some]
  exact clD_bad hi P
theorem clB_bad {m i : Nat} {x2 u4 c : Int32} {f0 h0 f h : mj_I} (hi : i < 5) (P : pb f0 h0 f h) : ∃ f', clB (m + 1) x2 (nI i) u4 c f = some f' ∧ pb f0 h0 f' h := by
  unfold clB
  rw [sign_bad P.1, Option.bind_some]
  exact clC_bad hi P
theorem cl_M {x1 z : Int32} {h h1 : mj_I} (h5 : ¬ h 7 50 = 5) (q2 : g_X7_nextToken h = some h1) (c2 : g_X7_isNumber 0 31 h1 = (1, h1)) (tz : g_X7_isTaken (h1 0 12) h1 = some z) : g_X7_readCloud x1 h = if z = 0 then g_X7_readCloud_54 x1 (h 7 50) h1 else some (0, mj_wr h1 0 14 2) := by
  unfold g_X7_readCloud
  dsimp only [mj_lt]
  rw [if_neg h5, q2, Option.bind_some, c2]
  show (if (1 : Int32) = 0 then some (0, h1) else (g_X7_isTaken (h1 0 12) h1).bind (fun o_6 => if o_6 = 0 then g_X7_readCloud_54 x1 (h 7 50) h1 else (if (0 : Int32) = 0 then some (0, mj_wr h1 0 14 2) else g_X7_readCloud_54 x1 (h 7 50) (mj_wr h1 0 14 2)))) = _
  rw [if_neg (show ¬ (1 : Int32) = 0 by decide), tz, Option.bind_some, if_pos (show (0 : Int32) = 0 from rfl)]
theorem cl_M0 {x1 : Int32} {h h1 h2 : mj_I} (h5 : ¬ h 7 50 = 5) (q2 : g_X7_nextToken h = some h1) (c2 : g_X7_isNumber 0 31 h1 = (0, h2)) : g_X7_readCloud x1 h = some (0, h2) := by
  unfold g_X7_readCloud
  dsimp only [mj_lt]
  rw [if_neg h5, q2, Option.bind_some, c2]
  dsimp only
  rw [if_pos rfl]
theorem cl_step {n i kd m : Nat} {x2 : Int32} {f0 h0 f h : mj_I} (G : pg n 3 12 f0 h0 f h) (e50 : h 7 50 = nI i) (M : cm i x2 (h 7)) (hi : i < 5) (hk1 : 1 ≤ kd) (hk5 : kd ≤ 5) (ek : g_X4_sortOf (f 2 4) = nI kd) (ht : ¬ f 2 4 < 0) :
    (∃ x2' f' h', g_X4_readClouds_4 (m + 2) 13 x2 (nI i) f = g_X4_readClouds_4 (m + 1) 13 x2' (nI (i + 1)) f' ∧ g_X7_readCloud (nI kd) h = some (1, h') ∧ pg n 3 12 f0 h0 f' h' ∧ h' 7 50 = nI (i + 1) ∧ cm (i + 1) x2' (h' 7)) ∨
    (∃ f' h', g_X4_readClouds_4 (m + 2) 13 x2 (nI i) f = some f' ∧ g_X7_readCloud (nI kd) h = some (0, h') ∧ pb f0 h0 f' h') := by
  have n10 : ¬ (1 : Int32) = 0 := by decide
  have p0 : ¬ nI kd = 0 := nI_ne0 (by omega) (by omega)
  have n5 : ¬ nI i = 5 := fun z => by have := nI_inj (b := 5) (by omega) (by omega) z; omega
  have n5' : ¬ h 7 50 = 5 := by rw [e50]; exact n5
  rw [show m + 2 = (m + 1) + 1 from rfl, cl_form (show ¬ 5 < nI i from nI_nlt (a := 5) (by omega) (by decide)) G.2.1 (by rw [ek]; exact p0) n5, ek]
  obtain ⟨f1, h1, q1, q2, q3, q4, q5⟩ := tk_go G.1 (Or.inl ht)
  have G1 := pg_go G q3 (by rw [q4.2.2]; exact G.2.1) q4 q5
  have e7 : h1 7 = h 7 := q5.1 7 (by omega)
  have e50' : h1 7 50 = nI i := by rw [e7]; exact e50
  rw [q1, Option.bind_some]
  unfold clA
  rcases num_both (la := 0) (lb := 31) (a := 0) (b := 31) x2 rfl rfl (by omega) (by omega) G1.1 G1.2.1 with ⟨v, f2, _, v1, v2, vb, ev, c1, c2, _, _, c5, _, _⟩ | ⟨v, v1, v2, vb, ev, c1, c2⟩ | ⟨e, he, c1, c2⟩
  · have hv : v < 32 := by omega
    obtain ⟨z, z1, z2⟩ := tkn_ok (v := v) e50' (by omega)
    have z0 : z = 0 := z2.mpr (by rw [e7]; exact (M v hv).mp vb)
    rw [c1, Option.bind_some, cl_M n5' q2 c2 (by rw [ev]; exact z1), if_pos z0, e50]
    obtain ⟨h2, t1, t2, t3, t4⟩ := num7 (a := 0) (b := 31) (j := 51 + i) (w := nI kd) rfl rfl (by omega) (by omega) G1.1 G1.2.1 c1 c5 ev
    have e7b : h2 7 = upd (h 7) (51 + i) (nI kd) := by rw [t4.1 7 (by omega), wr_row, e7]
    unfold g_X7_readCloud_54
    rw [if_pos (ix51 hi).1, (ix51 hi).2]
    dsimp only [mj_lt]
    rw [t1, Option.bind_some]
    dsimp only
    rw [if_pos (ix56 hi).1, (ix56 hi).2]
    have X2 := pxs_lx G1.2.2.1 t3
    have M2 : pms h0 (mj_wr h2 7 (56 + i) (nI v)) := pms_7 (pms_lm (pms_7 G1.2.2.2.1) t4)
    have T2 : tk n f2 (mj_wr h2 7 (56 + i) (nI v)) := tk_7 t2
    unfold clB
    rcases take_both (c := 44) (by decide) T2 c5 with ⟨f3, h3, a1, a2, a3, a4, a5, a6⟩ | ⟨a1, a2⟩
    rotate_left
    · obtain ⟨f', b1, b2⟩ := clC_bad (m := m) (x2 := x2) (u4 := nI kd) (c := nI v) hi (pb_mk T2 X2 M2 n10)
      rw [a1, a2, Option.bind_some, Option.bind_some, b1]
      dsimp only
      rw [if_pos rfl]
      exact Or.inr ⟨_, _, rfl, rfl, b2⟩
    have X3 := pxs_lx X2 a5
    have M3 := pms_lm M2 a6
    have e7c : h3 7 = upd (upd (h 7) (51 + i) (nI kd)) (56 + i) (nI v) := by rw [a6.1 7 (by omega), wr_row, e7b]
    rw [a1, a2, Option.bind_some, Option.bind_some]
    dsimp only
    rw [if_neg n10]
    unfold clC
    rcases num_both (la := 0) (lb := 20) (a := 0) (b := 20) 0 rfl rfl (by omega) (by omega) a3 a4 with ⟨w, f4, h4, w1, w2, _, _, d1, d2, d3, d4, d5, d6, d7⟩ | ⟨w, _, _, wz, _⟩ | ⟨e, he, d1, d2⟩
    rotate_left
    · rw [bm_zero] at wz
      exact absurd wz (by decide)
    · obtain ⟨f', b1, b2⟩ := clD_bad (m := m) (x2 := x2) (u4 := nI kd) (c := nI v) (w := 0) hi (pb_mk a3 X3 M3 he)
      rw [d1, d2, Option.bind_some, sign_bad (pb_mk a3 X3 M3 he).1, Option.bind_some, b1]
      dsimp only
      rw [if_pos rfl]
      exact Or.inr ⟨_, _, rfl, rfl, b2⟩
    have X4 := pxs_lx X3 d6
    have M4 := pms_lm M3 d7
    have e7d : h4 7 = upd (upd (h 7) (51 + i) (nI kd)) (56 + i) (nI v) := by rw [d7.1 7 (by omega), e7c]
    have e50d : mj_wr (mj_wr h4 7 (66 + i) (nI w)) 7 (76 + i) 1 7 50 = nI i := by
      rw [wr_ne _ _ (by omega), wr_ne _ _ (by omega), e7d, upd_ne (by omega), upd_ne (by omega)]
      exact e50
    rw [d1, d2, Option.bind_some]
    dsimp only
    rw [if_neg n10, d3, Option.bind_some]
    dsimp only
    rw [if_pos (ix66 hi).1, (ix66 hi).2, if_pos (ix76 hi).1, (ix76 hi).2, e50d, nI_1]
    have T5 : tk n f4 (mj_wr (mj_wr (mj_wr h4 7 (66 + i) (nI w)) 7 (76 + i) 1) 7 50 (nI (i + 1))) := tk_7 (tk_7 (tk_7 d4))
    have M5 : pms h0 (mj_wr (mj_wr (mj_wr h4 7 (66 + i) (nI w)) 7 (76 + i) 1) 7 50 (nI (i + 1))) := pms_7 (pms_7 (pms_7 M4))
    rcases take_both (c := 59) (by decide) T5 d5 with ⟨f6, h6, a1, a2, a3', a4', a5', a6'⟩ | ⟨a1, a2⟩
    rotate_left
    · obtain ⟨f', b1, b2⟩ := clD_bad (m := m) (x2 := x2) (u4 := nI kd) (c := nI v) (w := nI w) hi (pb_mk T5 X4 M5 n10)
      rw [a1, a2, Option.bind_some, Option.bind_some, b1]
      exact Or.inr ⟨_, _, rfl, rfl, b2⟩
    have e7e : h6 7 = s5 (h 7) i (nI kd) (nI v) (nI w) := by
      rw [a6'.1 7 (by omega), wr_row, wr_row, wr_row, e7d]
      rfl
    rw [a1, a2, Option.bind_some, Option.bind_some]
    unfold clD
    rw [if_pos (in5 hi).1, (in5 hi).2, nI_1]
    have fc : ∀ b, 13 ≤ b → b < 22 → f6 b = f b := fun b z1 _ => by rw [a5'.1 b (by omega), d6.1 b (by omega), a5.1 b (by omega), t3.1 b (by omega), q4.1 b (by omega)]
    have b0 := (bg_v (13 + 4 + i) (nI kd) (nI v) (nI w) f6).1
    have g2 : mj_wr (g_X1_begin (13 + 4 + i) (nI kd) (nI v) (nI w) f6) 13 4 (nI (i + 1)) 2 = f6 2 := by rw [wr_ne1 _ _ (by omega), b0 2 (by omega)]
    have g3 : mj_wr (g_X1_begin (13 + 4 + i) (nI kd) (nI v) (nI w) f6) 13 4 (nI (i + 1)) 3 = f6 3 := by rw [wr_ne1 _ _ (by omega), b0 3 (by omega)]
    refine Or.inl ⟨_, _, h6, rfl, rfl, ⟨?_, by rw [g2]; exact a4', pxs_begin hi (pxs_lx X4 a5'), pms_lm M5 a6', ?_⟩, by rw [e7e]; exact (s5_v hi).1, by rw [e7e]; exact cm_set hi hv M⟩
    · unfold tk
      rw [g2, g3]
      exact a3'
    · rw [e7e]
      exact hp_cloud hi e50 ⟨mj_in_nI (by omega) (by decide), p0⟩ (mj_in_nI hv (by decide)) (mj_in_nI (by omega) (by decide)) (hp_c G.2.2.2.2 fc)
  · have hv : v < 32 := by omega
    obtain ⟨z, z1, z2⟩ := tkn_ok (v := v) e50' (by omega)
    have z0 : ¬ z = 0 := fun q => by
      have := z2.mp q
      rw [e7] at this
      rw [(M v hv).mpr this] at vb
      exact absurd vb (by decide)
    obtain ⟨f', b1, b2⟩ := clB_bad (m := m) (x2 := x2) (u4 := nI kd) (c := 0) hi (pg_bad G1 (show ¬ (2 : Int32) = 0 by decide))
    rw [c1, Option.bind_some, cl_M n5' q2 c2 (by rw [ev]; exact z1), if_neg z0, b1]
    exact Or.inr ⟨_, _, rfl, rfl, b2⟩
  · obtain ⟨f', b1, b2⟩ := clB_bad (m := m) (x2 := x2) (u4 := nI kd) (c := 0) hi (pg_bad G1 he)
    rw [c1, Option.bind_some, cl_M0 n5' q2 c2, b1]
    exact Or.inr ⟨_, _, rfl, rfl, b2⟩
/-- read to the end -/
def pf (n : Nat) (f0 h0 f h : mj_I) : Prop := pg n 3 12 f0 h0 f h ∧ ∃ i, i ≤ 5 ∧ h 7 50 = nI i
def xend (f : mj_I) : Option mj_I := if f 2 6 = 0 then (if f 2 4 = -3 then some f else some (mj_wr f 2 6 1)) else some f
theorem xend_bad {f : mj_I} (h6 : ¬ f 2 6 = 0) : xend f = some f := by
  unfold xend
  rw [if_neg h6]
theorem cl_loop {n : Nat} {f0 h0 : mj_I} : ∀ nX i m x2 f h, pg n 3 12 f0 h0 f h → h 7 50 = nI i → cm i x2 (h 7) → (i = 0 → g_X4_parishOf (f 2 4) = 0) → i ≤ 5 → 6 < i + nX → 6 < i + m →
    ∃ v f' h', (g_X4_readClouds_4 nX 13 x2 (nI i) f).bind xend = some f' ∧ g_X7_readHerd_62 m 1 h = some (v, h') ∧ ((v = 1 ∧ pf n f0 h0 f' h') ∨ (v = 0 ∧ pb f0 h0 f' h')) := by
  intro nX
  induction nX with
  | zero => intro i m x2 f h _ _ _ _ h1 h2; omega
  | succ nX ih =>
    intro i m x2 f h G e50 M hpar h1 h2 h3
    have n10 : ¬ (1 : Int32) = 0 := by decide
    have n5 : ¬ 5 < nI i := nI_nlt (a := 5) (by omega) (by decide)
    obtain ⟨m, rfl⟩ : ∃ q, m = q + 2 := ⟨m - 2, by omega⟩
    rcases sort_c (f 2 4) with c | ⟨kd, p1, p2, p3, p4, p5⟩
    · rw [g_X4_readClouds_4, if_neg n5, if_pos G.2.1, if_pos c, Option.bind_some]
      unfold xend
      rw [if_pos G.2.1]
      by_cases ce : f 2 4 = -3
      · rw [if_pos ce, show m + 2 = (m + 1) + 1 from rfl, hd_end G.1 ce]
        exact ⟨_, _, _, rfl, rfl, Or.inl ⟨rfl, G, i, h1, e50⟩⟩
      · have h204 : g_X7_readHerd_204 (g_X7_readHerd_62 (m + 1)) 0 h = some (0, mj_wr h 0 14 1) := by
          unfold g_X7_readHerd_204 g_X7_faults
          rw [if_neg (by decide)]
          exact hd_0
        rw [if_neg ce, show m + 2 = (m + 1) + 1 from rfl, hd_cas G.1 ce, c]
        have hm : g_X7_readHerd_181 (g_X7_readHerd_62 (m + 1)) (g_X4_parishOf (f 2 4)) 0 h = some (0, mj_wr h 0 14 1) := by
          unfold g_X7_readHerd_181
          rcases par_c (f 2 4) with z | ⟨p, r1, r2, r3, _, _⟩
          · rw [z, if_neg (by decide)]
            exact h204
          · have i0 : ¬ i = 0 := fun q => by
              rw [hpar q] at r3
              exact nI_ne0 (n := p) (by omega) (by omega) r3.symm
            rw [r3, if_pos (show (0 : Int32) < nI p from nI_lt (a := 0) (by omega) (by omega)), e50, if_neg (nI_ne0 (by omega) (by omega))]
            exact h204
        rw [hm]
        exact ⟨_, _, _, rfl, rfl, Or.inr ⟨rfl, pg_bad G n10⟩⟩
    have p0 : ¬ nI kd = 0 := nI_ne0 (by omega) (by omega)
    have hcs : g_X7_readHerd_62 (m + 2) 1 h = (g_X7_readCloud (nI kd) h).bind (fun o => g_X7_readHerd_62 (m + 1) o.1 o.2) := by
      rw [show m + 2 = (m + 1) + 1 from rfl, hd_cas G.1 (fun z => p4 (by rw [z]; decide)), p3, p5]
      unfold g_X7_readHerd_181 g_X7_readHerd_204
      rw [if_neg (by decide), if_pos (show (0 : Int32) < nI kd from nI_lt (a := 0) (by omega) (by omega))]
    by_cases c5 : i = 5
    · subst c5
      have hr : g_X7_readCloud (nI kd) h = some (0, mj_wr h 0 14 3) := by
        unfold g_X7_readCloud g_X7_faults
        dsimp only [mj_lt]
        rw [e50, if_pos (by decide)]
      rw [hcs, hr, Option.bind_some, hd_0, g_X4_readClouds_4, if_neg n5, if_pos G.2.1, p3, if_neg p0, if_pos (by decide)]
      dsimp only [mj_lt]
      have P := pg_bad G (show ¬ (3 : Int32) = 0 by decide)
      rw [Option.bind_some, xend_bad P.1]
      exact ⟨_, _, _, rfl, rfl, Or.inr ⟨rfl, P⟩⟩
    obtain ⟨nX, rfl⟩ : ∃ q, nX = q + 1 := ⟨nX - 1, by omega⟩
    rcases cl_step (m := nX) G e50 M (by omega) p1 p2 p3 p4 with ⟨x2', f', h', q1, q2, q3, q4, q5⟩ | ⟨f', h', q1, q2, q3⟩
    · rw [show nX + 1 + 1 = nX + 2 from rfl, q1, hcs, q2, Option.bind_some]
      exact ih (i + 1) (m + 1) x2' f' h' q3 q4 q5 (fun z => by omega) (by omega) (by omega) (by omega)
    · rw [show nX + 1 + 1 = nX + 2 from rfl, q1, hcs, q2, Option.bind_some, Option.bind_some, hd_0, xend_bad q3.1]
      exact ⟨_, _, _, rfl, rfl, Or.inr ⟨rfl, q3⟩⟩
