/-! signs, numbers, directions taken on both sides; what a fault leaves -/
def pxs (f0 f : mj_I) : Prop := (∀ b, b ≠ 2 → (b < 13 ∨ 22 ≤ b) → f b = f0 b) ∧ f 13 0 = 1 ∧ ∀ k, k < 5 → mj_b (f (13 + 4 + k) 4) = true ∧ mj_b (f (13 + 4 + k) 5) = true
def pms (h0 h : mj_I) : Prop := (∀ b, b ≠ 0 → b ≠ 7 → h b = h0 b) ∧ ∀ j, j < 10 ∨ 15 ≤ j → h 0 j = h0 0 j
def pb (f0 h0 f h : mj_I) : Prop := ¬ f 2 6 = 0 ∧ f 2 6 = h 0 14 ∧ f 2 2 = h 0 13 ∧ pxs f0 f ∧ pms h0 h
theorem pxs_lx {f0 f f' : mj_I} (P : pxs f0 f) (L : lx f f') : pxs f0 f' :=
  ⟨fun b h1 h2 => by rw [L.1 b h1]; exact P.1 b h1 h2, by rw [L.1 13 (by omega)]; exact P.2.1, fun k hk => by rw [L.1 _ (by omega)]; exact P.2.2 k hk⟩
theorem pms_lm {h0 h h' : mj_I} (P : pms h0 h) (L : lm h h') : pms h0 h' :=
  ⟨fun b h1 h2 => by rw [L.1 b h1]; exact P.1 b h1 h2, fun j hj => by rw [L.2 j (by omega)]; exact P.2 j hj⟩
theorem pxs_wr {f0 f : mj_I} {b j : Nat} {v : Int32} (P : pxs f0 f) (h1 : 13 ≤ b) (h2 : b < 22) (h3 : ¬ (b = 13 ∧ j = 0)) (h4 : 17 ≤ b → j = 4 ∨ j = 5 → mj_b v = true) : pxs f0 (mj_wr f b j v) := by
  refine ⟨fun c k1 k2 => by rw [wr_ne1 _ _ (by omega)]; exact P.1 c k1 k2, by rw [wr_ne _ _ (by omega)]; exact P.2.1, fun k hk => ⟨?_, ?_⟩⟩
  · by_cases e : 13 + 4 + k = b ∧ 4 = j
    · rw [wr_ceq _ _ e.1 e.2]; exact h4 (by omega) (by omega)
    · rw [wr_ne _ _ e]; exact (P.2.2 k hk).1
  · by_cases e : 13 + 4 + k = b ∧ 5 = j
    · rw [wr_ceq _ _ e.1 e.2]; exact h4 (by omega) (by omega)
    · rw [wr_ne _ _ e]; exact (P.2.2 k hk).2
theorem pxs_2 {f0 f : mj_I} {j : Nat} {v : Int32} (P : pxs f0 f) : pxs f0 (mj_wr f 2 j v) :=
  ⟨fun c k1 k2 => by rw [wr_ne1 _ _ k1]; exact P.1 c k1 k2, by rw [wr_ne1 _ _ (by omega)]; exact P.2.1, fun k hk => by rw [wr_ne1 _ _ (by omega)]; exact P.2.2 k hk⟩
theorem pms_7 {h0 h : mj_I} {j : Nat} {v : Int32} (P : pms h0 h) : pms h0 (mj_wr h 7 j v) :=
  ⟨fun c k1 k2 => by rw [wr_ne1 _ _ k2]; exact P.1 c k1 k2, fun i hi => by rw [wr_ne1 _ _ (by omega)]; exact P.2 i hi⟩
theorem pms_14 {h0 h : mj_I} {v : Int32} (P : pms h0 h) : pms h0 (mj_wr h 0 14 v) :=
  ⟨fun c k1 k2 => by rw [wr_ne1 _ _ k1]; exact P.1 c k1 k2, fun i hi => by rw [wr_ne _ _ (by omega)]; exact P.2 i hi⟩
theorem pb_wr {f0 h0 f h : mj_I} {b j : Nat} {v : Int32} (P : pb f0 h0 f h) (h1 : 13 ≤ b) (h2 : b < 22) (h3 : ¬ (b = 13 ∧ j = 0)) (h4 : 17 ≤ b → j = 4 ∨ j = 5 → mj_b v = true) : pb f0 h0 (mj_wr f b j v) h := by
  obtain ⟨p1, p2, p3, p4, p5⟩ := P
  exact ⟨by rw [wr_ne1 _ _ (by omega)]; exact p1, by rw [wr_ne1 _ _ (by omega)]; exact p2, by rw [wr_ne1 _ _ (by omega)]; exact p3, pxs_wr p4 h1 h2 h3 h4, p5⟩
theorem pb_mk {n : Nat} {f0 h0 f h : mj_I} {e : Int32} (T : tk n f h) (P : pxs f0 f) (M : pms h0 h) (he : ¬ e = 0) : pb f0 h0 (mj_wr f 2 6 e) (mj_wr h 0 14 e) :=
  ⟨by rw [wr_eq]; exact he, by rw [wr_eq, wr_eq], by rw [wr_ne _ _ (by omega), wr_ne _ _ (by omega)]; exact T.2.1, pxs_2 P, pms_14 M⟩
theorem sign_bad {f : mj_I} {c : Int32} (h6 : ¬ f 2 6 = 0) : g_X4_takeSign c f = some f := by
  unfold g_X4_takeSign
  rw [if_neg h6, if_neg h6]
theorem num_bad {f : mj_I} {a b c : Int32} (h6 : ¬ f 2 6 = 0) : g_X4_takeNumber a b c f = some (a, f) := by
  unfold g_X4_takeNumber g_X4_takeNumber_20 g_X4_takeNumber_55
  rw [if_neg h6, if_neg h6, if_neg h6]
theorem dir_bad {f : mj_I} (h6 : ¬ f 2 6 = 0) : g_X4_takeDirection f = some (0, f) := by
  unfold g_X4_takeDirection
  dsimp only [mj_lt]
  rw [if_neg h6, if_neg h6]
theorem tk_7 {n j : Nat} {f h : mj_I} {v : Int32} (T : tk n f h) : tk n f (mj_wr h 7 j v) := by
  unfold tk
  rw [wr_ne1 (b := 0) _ _ (by omega), wr_ne1 (b := 6) _ _ (by omega)]
  exact T
theorem tk_x {n b j : Nat} {f h : mj_I} {v : Int32} (hb : 13 ≤ b) (T : tk n f h) : tk n (mj_wr f b j v) h := by
  unfold tk
  rw [wr_ne1 (b := 2) _ _ (by omega), wr_ne1 (b := 3) _ _ (by omega)]
  exact T
theorem tk_go {n : Nat} {f h : mj_I} (T : tk n f h) (hp : ¬ f 2 4 < 0 ∨ f 2 4 = -1) : ∃ f' h', g_X4_look f = some f' ∧ g_X7_nextToken h = some h' ∧ tk n f' h' ∧ lx f f' ∧ lm h h' := by
  obtain ⟨⟨hn, e1, e8, hb⟩, e2, hc⟩ := T
  rcases hc with ⟨a1, a2⟩ | ⟨a1, a2⟩ | ⟨a1, a2, _, q, q1, q2, q3⟩ | ⟨a1, a2, a3, q, q1, q2, q3⟩
  · rw [a1] at hp
    exact absurd hp (by decide)
  · rw [a1] at hp
    exact absurd hp (by decide)
  · exact look_both hn e1 e8 hb q1 q2 q3
  · exact look_both hn e1 e8 hb q1 q2 q3
theorem isl {n : Nat} {f h : mj_I} {c : Int32} (T : tk n f h) (hc : ¬ c < 0) : g_X7_isLetter c h = 0 ↔ ¬ f 2 4 = c := by
  have no : ∀ z : Int32, z < 0 → f 2 4 = z → ¬ f 2 4 = c := fun z hz e q => hc (by rw [← q, e]; exact hz)
  unfold g_X7_isLetter
  rcases T.2.2 with ⟨a1, a2⟩ | ⟨a1, a2⟩ | ⟨a1, a2, _⟩ | ⟨a1, a2, _⟩
  · rw [a2, if_neg (by decide)]
    exact ⟨fun _ => no _ (by decide) a1, fun _ => rfl⟩
  · rw [a2, if_neg (by decide)]
    exact ⟨fun _ => no _ (by decide) a1, fun _ => rfl⟩
  · rw [a2, if_neg (by decide)]
    exact ⟨fun _ => no _ (by decide) a1, fun _ => rfl⟩
  · rw [a1, if_pos rfl, a2]
    by_cases e : h 0 12 = c
    · rw [if_pos e]
      exact ⟨fun z => absurd z (by decide), fun z => absurd e z⟩
    · rw [if_neg e]
      exact ⟨fun _ => e, fun _ => rfl⟩
theorem take_both {n : Nat} {f h : mj_I} {c : Int32} (hc : ¬ c < 0) (T : tk n f h) (h6 : f 2 6 = 0) :
    (∃ f' h', g_X4_takeSign c f = some f' ∧ g_X7_takes c h = some (1, h') ∧ tk n f' h' ∧ f' 2 6 = 0 ∧ lx f f' ∧ lm h h') ∨ (g_X4_takeSign c f = some (mj_wr f 2 6 1) ∧ g_X7_takes c h = some (0, mj_wr h 0 14 1)) := by
  have il := isl T hc
  unfold g_X4_takeSign g_X7_takes g_X7_faults
  dsimp only [mj_lt]
  rw [if_pos h6]
  by_cases e : f 2 4 = c
  · obtain ⟨f', h', p1, p2, p3, p4, p5⟩ := tk_go T (Or.inl (by rw [e]; exact hc))
    rw [if_pos e, if_pos h6, if_neg (fun z => il.mp z e), p1, p2, Option.bind_some, Option.bind_some]
    exact Or.inl ⟨f', h', rfl, rfl, p3, by rw [p4.2.2]; exact h6, p4, p5⟩
  · rw [if_neg e, if_pos (il.mpr e), wr_eq, if_neg (show ¬ (1 : Int32) = 0 by decide)]
    exact Or.inr ⟨rfl, rfl⟩
theorem num_both {n a b : Nat} {f h : mj_I} {la lb : Int32} (mk : Int32) (ea : la = nI a) (eb : lb = nI b) (ha : a < 32) (hb : b < 32) (T : tk n f h) (h6 : f 2 6 = 0) :
    (∃ v f' h', a ≤ v ∧ v ≤ b ∧ bm mk v = false ∧ h 0 12 = nI v ∧ g_X4_takeNumber la lb mk f = some (nI v, f') ∧ g_X7_isNumber la lb h = (1, h) ∧ g_X7_taken h = some (nI v, h') ∧ tk n f' h' ∧ f' 2 6 = 0 ∧ lx f f' ∧ lm h h') ∨
    (∃ v, a ≤ v ∧ v ≤ b ∧ bm mk v = true ∧ h 0 12 = nI v ∧ g_X4_takeNumber la lb mk f = some (la, mj_wr f 2 6 2) ∧ g_X7_isNumber la lb h = (1, h)) ∨
    (∃ e, ¬ e = 0 ∧ g_X4_takeNumber la lb mk f = some (la, mj_wr f 2 6 e) ∧ g_X7_isNumber la lb h = (0, mj_wr h 0 14 e)) := by
  have i1 : ¬ mj_wr f 2 6 1 2 6 = 0 := by rw [wr_eq]; decide
  have i2 : ¬ mj_wr f 2 6 2 2 6 = 0 := by rw [wr_eq]; decide
  have T0 := T
  unfold g_X4_takeNumber g_X4_takeNumber_20 g_X4_takeNumber_55 g_X7_isNumber g_X7_taken g_X7_faults
  dsimp only [mj_lt]
  rw [if_pos h6, if_pos h6, if_pos h6, if_neg i1, if_neg i1, if_neg i2, in_w, if_pos (show (0 : Int32) = 0 from rfl)]
  have bad : ¬ f 2 4 = -1 → ¬ h 0 11 = 2 → ∃ e, ¬ e = 0 ∧ (if f 2 4 = -1 then (if g_X6_within (f 2 5) la lb = 0 then some (la, mj_wr f 2 6 2) else if mj_ushr mk (f 2 5) &&& 1 = 0 then (g_X4_look f).bind fun o_6 => some (f 2 5, o_6) else some (la, mj_wr f 2 6 2)) else some (la, mj_wr f 2 6 1)) = some (la, mj_wr f 2 6 e) ∧ (if h 0 11 = 2 then (if g_X6_within (h 0 12) la lb = 0 then ((0 : Int32), mj_wr h 0 14 2) else (1, h)) else (0, mj_wr h 0 14 1)) = (0, mj_wr h 0 14 e) := fun z1 z2 => by
    rw [if_neg z1, if_neg z2]
    exact ⟨1, by decide, rfl, rfl⟩
  rcases T.2.2 with ⟨a1, a2⟩ | ⟨a1, a2⟩ | ⟨a1, a2, ⟨v, hv, v1, v2⟩, q, q1, q2, q3⟩ | ⟨a1, a2, a3, _⟩
  · exact Or.inr (Or.inr (bad (by rw [a1]; decide) (by rw [a2]; decide)))
  · exact Or.inr (Or.inr (bad (by rw [a1]; decide) (by rw [a2]; decide)))
  · rw [if_pos a1, if_pos a2, v1, v2]
    by_cases c : g_X6_within (nI v) la lb = 0
    · rw [if_pos c, if_pos c]
      exact Or.inr (Or.inr ⟨2, by decide, rfl, rfl⟩)
    rw [if_neg c, if_neg c]
    have hv2 : a ≤ v ∧ v ≤ b := by
      rw [ea, eb, wi_ne] at c
      rw [nI_toInt (show v < 2 ^ 31 by omega), nI_toInt (show a < 2 ^ 31 by omega), nI_toInt (show b < 2 ^ 31 by omega)] at c
      omega
    have bt := bm_t mk (i := v) (by omega)
    by_cases c2 : bm mk v = false
    · rw [if_pos (bt.mpr c2)]
      obtain ⟨f', h', p1, p2, p3, p4, p5⟩ := tk_go T0 (Or.inr a1)
      rw [p1, p2, Option.bind_some, Option.bind_some]
      exact Or.inl ⟨v, f', h', hv2.1, hv2.2, c2, rfl, rfl, rfl, rfl, p3, by rw [p4.2.2]; exact h6, p4, p5⟩
    · rw [if_neg (fun z => c2 (bt.mp z))]
      exact Or.inr (Or.inl ⟨v, hv2.1, hv2.2, by simpa using c2, rfl, rfl, rfl⟩)
  · exact Or.inr (Or.inr (bad (fun z => a3 (by rw [z]; decide)) (by rw [a1]; decide)))
theorem dir_c (t : Int32) : g_X4_directionOf t = -1 ∨ ∃ v, v < 5 ∧ g_X4_directionOf t = nI v ∧ ¬ t < 0 := by
  unfold g_X4_directionOf
  by_cases c1 : t = 101
  · rw [if_pos c1]; exact Or.inr ⟨1, by omega, rfl, by rw [c1]; decide⟩
  rw [if_neg c1]
  by_cases c2 : t = 110
  · rw [if_pos c2]; exact Or.inr ⟨4, by omega, rfl, by rw [c2]; decide⟩
  rw [if_neg c2]
  by_cases c3 : t = 111
  · rw [if_pos c3]; exact Or.inr ⟨0, by omega, rfl, by rw [c3]; decide⟩
  rw [if_neg c3]
  by_cases c4 : t = 115
  · rw [if_pos c4]; exact Or.inr ⟨3, by omega, rfl, by rw [c4]; decide⟩
  rw [if_neg c4]
  by_cases c5 : t = 119
  · rw [if_pos c5]; exact Or.inr ⟨2, by omega, rfl, by rw [c5]; decide⟩
  rw [if_neg c5]
  exact Or.inl rfl
theorem par_c (t : Int32) : g_X4_parishOf t = 0 ∨ ∃ v, 1 ≤ v ∧ v ≤ 3 ∧ g_X4_parishOf t = nI v ∧ ¬ t < 0 ∧ g_X4_sortOf t = 0 := by
  unfold g_X4_parishOf
  by_cases c1 : t = 102
  · rw [if_pos c1]; exact Or.inr ⟨1, by omega, by omega, rfl, by rw [c1]; decide, by rw [c1]; decide⟩
  rw [if_neg c1]
  by_cases c2 : t = 104
  · rw [if_pos c2]; exact Or.inr ⟨2, by omega, by omega, rfl, by rw [c2]; decide, by rw [c2]; decide⟩
  rw [if_neg c2]
  by_cases c3 : t = 109
  · rw [if_pos c3]; exact Or.inr ⟨3, by omega, by omega, rfl, by rw [c3]; decide, by rw [c3]; decide⟩
  rw [if_neg c3]
  exact Or.inl rfl
theorem sort_c (t : Int32) : g_X4_sortOf t = 0 ∨ ∃ v, 1 ≤ v ∧ v ≤ 5 ∧ g_X4_sortOf t = nI v ∧ ¬ t < 0 ∧ g_X4_parishOf t = 0 := by
  unfold g_X4_sortOf
  by_cases c1 : t = 97
  · rw [if_pos c1]; exact Or.inr ⟨1, by omega, by omega, rfl, by rw [c1]; decide, by rw [c1]; decide⟩
  rw [if_neg c1]
  by_cases c2 : t = 98
  · rw [if_pos c2]; exact Or.inr ⟨3, by omega, by omega, rfl, by rw [c2]; decide, by rw [c2]; decide⟩
  rw [if_neg c2]
  by_cases c3 : t = 103
  · rw [if_pos c3]; exact Or.inr ⟨4, by omega, by omega, rfl, by rw [c3]; decide, by rw [c3]; decide⟩
  rw [if_neg c3]
  by_cases c4 : t = 112
  · rw [if_pos c4]; exact Or.inr ⟨2, by omega, by omega, rfl, by rw [c4]; decide, by rw [c4]; decide⟩
  rw [if_neg c4]
  by_cases c5 : t = 121
  · rw [if_pos c5]; exact Or.inr ⟨5, by omega, by omega, rfl, by rw [c5]; decide, by rw [c5]; decide⟩
  rw [if_neg c5]
  exact Or.inl rfl
/-- the second memory's questions for letters, one behind the other -/
theorem wd_cas {rc : Int32 → Int32 → mj_I → Option (Int32 × mj_I)} {n : Nat} {f h : mj_I} {x2 x3 : Int32} (T : tk n f h) :
    (if (g_X7_isLetter 111 h) = 0 then
      if (g_X7_isLetter 101 h) = 0 then
       if (g_X7_isLetter 119 h) = 0 then
        if (g_X7_isLetter 115 h) = 0 then
         if (g_X7_isLetter 110 h) = 0 then g_X7_readWind_84 rc x2 x3 (-1) h
         else g_X7_readWind_84 rc x2 x3 4 h
        else g_X7_readWind_84 rc x2 x3 3 h
       else g_X7_readWind_84 rc x2 x3 2 h
      else g_X7_readWind_84 rc x2 x3 1 h
     else g_X7_readWind_84 rc x2 x3 0 h) = g_X7_readWind_84 rc x2 x3 (g_X4_directionOf (f 2 4)) h := by
  have I : ∀ c : Int32, ¬ c < 0 → (g_X7_isLetter c h = 0 ↔ ¬ f 2 4 = c) := fun c hc => isl T hc
  unfold g_X4_directionOf
  by_cases c1 : f 2 4 = 111
  · rw [if_neg (fun z => (I 111 (by decide)).mp z c1), c1]; rfl
  rw [if_pos ((I 111 (by decide)).mpr c1)]
  by_cases c2 : f 2 4 = 101
  · rw [if_neg (fun z => (I 101 (by decide)).mp z c2), if_pos c2]
  rw [if_pos ((I 101 (by decide)).mpr c2), if_neg c2]
  by_cases c3 : f 2 4 = 119
  · rw [if_neg (fun z => (I 119 (by decide)).mp z c3), c3]; rfl
  rw [if_pos ((I 119 (by decide)).mpr c3)]
  by_cases c4 : f 2 4 = 115
  · rw [if_neg (fun z => (I 115 (by decide)).mp z c4), c4]; rfl
  rw [if_pos ((I 115 (by decide)).mpr c4)]
  by_cases c5 : f 2 4 = 110
  · rw [if_neg (fun z => (I 110 (by decide)).mp z c5), if_pos c5]
  rw [if_pos ((I 110 (by decide)).mpr c5), if_neg c5, if_neg c1, if_neg c4, if_neg c3]
theorem hd_114 {rc : Int32 → mj_I → Option (Int32 × mj_I)} {n : Nat} {f h : mj_I} {s0 : Int32} (T : tk n f h) : g_X7_readHerd_114 rc s0 h = g_X7_readHerd_181 rc s0 (g_X4_sortOf (f 2 4)) h := by
  have I : ∀ c : Int32, ¬ c < 0 → (g_X7_isLetter c h = 0 ↔ ¬ f 2 4 = c) := fun c hc => isl T hc
  unfold g_X7_readHerd_114 g_X4_sortOf
  by_cases c1 : f 2 4 = 97
  · rw [if_neg (fun z => (I 97 (by decide)).mp z c1), if_pos c1]
  rw [if_pos ((I 97 (by decide)).mpr c1), if_neg c1]
  by_cases c2 : f 2 4 = 112
  · rw [if_neg (fun z => (I 112 (by decide)).mp z c2), c2]; rfl
  rw [if_pos ((I 112 (by decide)).mpr c2)]
  by_cases c3 : f 2 4 = 98
  · rw [if_neg (fun z => (I 98 (by decide)).mp z c3), if_pos c3]
  rw [if_pos ((I 98 (by decide)).mpr c3), if_neg c3]
  by_cases c4 : f 2 4 = 103
  · rw [if_neg (fun z => (I 103 (by decide)).mp z c4), if_pos c4]
  rw [if_pos ((I 103 (by decide)).mpr c4), if_neg c4, if_neg c2]
  by_cases c5 : f 2 4 = 121
  · rw [if_neg (fun z => (I 121 (by decide)).mp z c5), if_pos c5]
  rw [if_pos ((I 121 (by decide)).mpr c5), if_neg c5]
theorem hd_end {n m : Nat} {f h : mj_I} (T : tk n f h) (e : f 2 4 = -3) : g_X7_readHerd_62 (m + 1) 1 h = some (1, h) := by
  rw [g_X7_readHerd_62, if_neg (show ¬ (1 : Int32) = 0 by decide)]
  rcases T.2.2 with ⟨a1, a2⟩ | ⟨a1, a2⟩ | ⟨a1, a2, _⟩ | ⟨a1, a2, a3, _⟩
  · rw [if_pos a2]
  · rw [e] at a1; exact absurd a1 (by decide)
  · rw [e] at a1; exact absurd a1 (by decide)
  · rw [e] at a3; exact absurd a3 (by decide)
theorem hd_cas {n m : Nat} {f h : mj_I} (T : tk n f h) (e : ¬ f 2 4 = -3) : g_X7_readHerd_62 (m + 1) 1 h = g_X7_readHerd_181 (g_X7_readHerd_62 m) (g_X4_parishOf (f 2 4)) (g_X4_sortOf (f 2 4)) h := by
  have I : ∀ c : Int32, ¬ c < 0 → (g_X7_isLetter c h = 0 ↔ ¬ f 2 4 = c) := fun c hc => isl T hc
  have e11 : ¬ h 0 11 = 3 := by
    rcases T.2.2 with ⟨a1, a2⟩ | ⟨a1, a2⟩ | ⟨a1, a2, _⟩ | ⟨a1, a2, a3, _⟩
    · exact absurd a1 e
    · rw [a2]; decide
    · rw [a2]; decide
    · rw [a1]; decide
  rw [g_X7_readHerd_62, if_neg (show ¬ (1 : Int32) = 0 by decide), if_neg e11, hd_114 T, hd_114 T, hd_114 T, hd_114 T]
  unfold g_X4_parishOf
  by_cases c1 : f 2 4 = 102
  · rw [if_neg (fun z => (I 102 (by decide)).mp z c1), if_pos c1]
  rw [if_pos ((I 102 (by decide)).mpr c1), if_neg c1]
  by_cases c2 : f 2 4 = 104
  · rw [if_neg (fun z => (I 104 (by decide)).mp z c2), if_pos c2]
  rw [if_pos ((I 104 (by decide)).mpr c2), if_neg c2]
  by_cases c3 : f 2 4 = 109
  · rw [if_neg (fun z => (I 109 (by decide)).mp z c3), if_pos c3]
  rw [if_pos ((I 109 (by decide)).mpr c3), if_neg c3]
theorem hd_0 {m : Nat} {h : mj_I} : g_X7_readHerd_62 (m + 1) 0 h = some (0, h) := by
  rw [g_X7_readHerd_62, if_pos rfl]
