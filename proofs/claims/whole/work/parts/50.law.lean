/-! the herd that is read: law and winds -/
def ck (k : Nat) (f : mj_I) (s : Nat → Int32) : Prop := (f (13 + 4 + k) 0 = s (51 + k) ∧ f (13 + 4 + k) 1 = s (56 + k) ∧ f (13 + 4 + k) 2 = s (61 + k) ∧ f (13 + 4 + k) 3 = s (66 + k) ∧ f (13 + 4 + k) 4 = s (71 + k) ∧ f (13 + 4 + k) 5 = s (76 + k)) ∧
  (mj_in (s (51 + k)) 6 = true ∧ s (51 + k) ≠ 0) ∧ mj_in (s (56 + k)) 32 = true ∧ mj_in (s (66 + k)) 41 = true ∧ mj_in (s (76 + k)) 2 = true
def hq (f : mj_I) (s : Nat → Int32) : Prop := (f 13 3 = s 49 ∧ f 13 4 = s 50 ∧ f 13 5 = s 46 ∧ f 13 6 = s 47 ∧ f 13 7 = s 48) ∧ (s 46 = 0 ∧ ∀ k, k < 5 → s (61 + k) = 0 ∧ s (71 + k) = 0) ∧
  (∀ j, j < 32 → f (13 + 2) j = s (12 + j) ∧ mj_in (s (12 + j)) 4 = true) ∧ ∀ k, nI k < s 50 → k < 5 → ck k f s
/-- nothing read yet of parishes and clouds -/
def zs (s : Nat → Int32) : Prop := s 49 = 0 ∧ s 50 = 0 ∧ ∀ j, j < 32 → s (12 + j) = 0
theorem zs_upd {s : Nat → Int32} {q : Nat} {w : Int32} (Z : zs s) (hq : q < 12 ∨ q = 44 ∨ q = 45) : zs (upd s q w) :=
  ⟨by rw [upd_ne (by omega)]; exact Z.1, by rw [upd_ne (by omega)]; exact Z.2.1, fun j hj => by rw [upd_ne (by omega)]; exact Z.2.2 j hj⟩
def hp (L W : Nat) (f : mj_I) (s : Nat → Int32) : Prop := ((1 ≤ L → f 13 1 = s 44) ∧ (2 ≤ L → f 13 2 = s 45) ∧ (L ≤ 2 → zs s)) ∧ (∀ j, j < W → f (13 + 1) j = s j ∧ mj_in (s j) 5 = true) ∧ hq f s
theorem hp_c {L W : Nat} {f f' : mj_I} {s : Nat → Int32} (H : hp L W f s) (hf : ∀ b, 13 ≤ b → b < 22 → f' b = f b) : hp L W f' s := by
  obtain ⟨h1, h2, h3, h4, h5, h6⟩ := H
  refine ⟨by rw [hf 13 (by omega) (by omega)]; exact h1, by rw [hf (13 + 1) (by omega) (by omega)]; exact h2, by rw [hf 13 (by omega) (by omega)]; exact h3, h4, by rw [hf (13 + 2) (by omega) (by omega)]; exact h5, fun k k1 k2 => ?_⟩
  unfold ck
  rw [hf (13 + 4 + k) (by omega) (by omega)]
  exact h6 k k1 k2
def pg (n L W : Nat) (f0 h0 f h : mj_I) : Prop := tk n f h ∧ f 2 6 = 0 ∧ pxs f0 f ∧ pms h0 h ∧ hp L W f (h 7)
theorem pg_go {n L W : Nat} {f0 h0 f h f' h' : mj_I} (G : pg n L W f0 h0 f h) (T : tk n f' h') (h6 : f' 2 6 = 0) (L1 : lx f f') (L2 : lm h h') : pg n L W f0 h0 f' h' :=
  ⟨T, h6, pxs_lx G.2.2.1 L1, pms_lm G.2.2.2.1 L2, by rw [L2.1 7 (by omega)]; exact hp_c G.2.2.2.2 (fun b h1 _ => L1.1 b (by omega))⟩
theorem pg_bad {n L W : Nat} {f0 h0 f h : mj_I} {e : Int32} (G : pg n L W f0 h0 f h) (he : ¬ e = 0) : pb f0 h0 (mj_wr f 2 6 e) (mj_wr h 0 14 e) := pb_mk G.1 G.2.2.1 G.2.2.2.1 he
/-- a write to the herd that is read, on both sides -/
theorem pg_wr {n L W L' W' b j q : Nat} {f0 h0 f h : mj_I} {v w : Int32} (G : pg n L W f0 h0 f h) (h1 : 13 ≤ b) (h2 : b < 22) (h3 : ¬ (b = 13 ∧ j = 0)) (h4 : 17 ≤ b → j = 4 ∨ j = 5 → mj_b v = true) (H : hp L' W' (mj_wr f b j v) (upd (h 7) q w)) : pg n L' W' f0 h0 (mj_wr f b j v) (mj_wr h 7 q w) := by
  obtain ⟨g1, g2, g3, g4, g5⟩ := G
  exact ⟨tk_x h1 (tk_7 g1), by rw [wr_ne1 _ _ (by omega)]; exact g2, pxs_wr g3 h1 h2 h3 h4, pms_7 g4, by rw [wr_row]; exact H⟩
theorem hq_far {f : mj_I} {s : Nat → Int32} {b j q : Nat} {v w : Int32} (H : hq f s) (hb : (b = 13 ∧ (j = 1 ∨ j = 2)) ∨ b = 13 + 1) (hqq : q < 12 ∨ q = 44 ∨ q = 45) : hq (mj_wr f b j v) (upd s q w) := by
  obtain ⟨⟨a1, a2, a3, a4, a5⟩, ⟨c0, c1⟩, d, e⟩ := H
  have U : ∀ i, ¬ (i < 12 ∨ i = 44 ∨ i = 45) → upd s q w i = s i := fun i hi => upd_ne (by omega)
  refine ⟨⟨?_, ?_, ?_, ?_, ?_⟩, ⟨?_, fun k hk => ?_⟩, fun i hi => ?_, fun k k1 k2 => ?_⟩
  · rw [wr_ne _ _ (by omega), U _ (by omega)]; exact a1
  · rw [wr_ne _ _ (by omega), U _ (by omega)]; exact a2
  · rw [wr_ne _ _ (by omega), U _ (by omega)]; exact a3
  · rw [wr_ne _ _ (by omega), U _ (by omega)]; exact a4
  · rw [wr_ne _ _ (by omega), U _ (by omega)]; exact a5
  · rw [U _ (by omega)]; exact c0
  · rw [U _ (by omega), U _ (by omega)]; exact c1 k hk
  · rw [wr_ne1 _ _ (by omega), U _ (by omega)]; exact d i hi
  · rw [U _ (by omega)] at k1
    unfold ck
    rw [wr_ne1 _ _ (by omega), U _ (by omega), U _ (by omega), U _ (by omega), U _ (by omega), U _ (by omega), U _ (by omega)]
    exact e k k1 k2
theorem hp_pay {f : mj_I} {s : Nat → Int32} {v : Int32} (H : hp 0 0 f s) : hp 1 0 (mj_wr f 13 1 v) (upd s 44 v) :=
  ⟨⟨fun _ => by rw [wr_eq, upd_eq], fun z => absurd z (by omega), fun _ => zs_upd (H.1.2.2 (by omega)) (by omega)⟩, fun j hj => absurd hj (by omega), hq_far H.2.2 (by omega) (by omega)⟩
theorem hp_fine {f : mj_I} {s : Nat → Int32} {v : Int32} (H : hp 1 0 f s) : hp 2 0 (mj_wr f 13 2 v) (upd s 45 v) :=
  ⟨⟨fun _ => by rw [wr_ne _ _ (by omega), upd_ne (by omega)]; exact H.1.1 (by omega), fun _ => by rw [wr_eq, upd_eq], fun _ => zs_upd (H.1.2.2 (by omega)) (by omega)⟩, fun j hj => absurd hj (by omega), hq_far H.2.2 (by omega) (by omega)⟩
theorem hp_wind {f : mj_I} {s : Nat → Int32} {v : Int32} {i : Nat} (hi : i < 12) (hv : mj_in v 5 = true) (H : hp 2 i f s) : hp 2 (i + 1) (mj_wr f (13 + 1) i v) (upd s i v) := by
  refine ⟨⟨fun _ => by rw [wr_ne _ _ (by omega), upd_ne (by omega)]; exact H.1.1 (by omega), fun _ => by rw [wr_ne _ _ (by omega), upd_ne (by omega)]; exact H.1.2.1 (by omega), fun _ => zs_upd (H.1.2.2 (by omega)) (by omega)⟩, fun j hj => ?_, hq_far H.2.2 (by omega) (by omega)⟩
  by_cases e : j = i
  · subst e
    rw [wr_eq, upd_eq]
    exact ⟨rfl, hv⟩
  · rw [wr_ne _ _ (by omega), upd_ne e]
    exact H.2.1 j (by omega)
/-! the law -/
def lawT3 (f : mj_I) : Option mj_I := (g_X4_takeNumber 0 9 0 f).bind (fun o => (g_X4_takeSign 59 (mj_wr o.2 13 2 o.1)).bind (fun o_7 => some o_7))
def lawT2 (f : mj_I) : Option mj_I := (g_X4_takeSign 44 f).bind lawT3
def lawT1 (f : mj_I) : Option mj_I := (g_X4_takeNumber 1 9 0 f).bind (fun o => lawT2 (mj_wr o.2 13 1 o.1))
theorem law_form (f : mj_I) : g_X4_readLaw 13 f = (g_X4_takeSign 107 f).bind lawT1 := rfl
theorem lawB4 {f0 h0 f h : mj_I} (P : pb f0 h0 f h) : (g_X4_takeSign 59 f).bind (fun o_7 => some o_7) = some f := by
  rw [sign_bad P.1, Option.bind_some]
theorem lawB3 {f0 h0 f h : mj_I} (P : pb f0 h0 f h) : ∃ f', lawT3 f = some f' ∧ pb f0 h0 f' h := by
  unfold lawT3
  have P2 := pb_wr (b := 13) (j := 2) (v := 0) P (by omega) (by omega) (by omega) (fun z => by omega)
  rw [num_bad P.1, Option.bind_some]
  exact ⟨_, lawB4 P2, P2⟩
theorem lawB2 {f0 h0 f h : mj_I} (P : pb f0 h0 f h) : ∃ f', lawT2 f = some f' ∧ pb f0 h0 f' h := by
  unfold lawT2
  rw [sign_bad P.1, Option.bind_some]
  exact lawB3 P
theorem lawB1 {f0 h0 f h : mj_I} (P : pb f0 h0 f h) : ∃ f', lawT1 f = some f' ∧ pb f0 h0 f' h := by
  unfold lawT1
  have P2 := pb_wr (b := 13) (j := 1) (v := 1) P (by omega) (by omega) (by omega) (fun z => by omega)
  rw [num_bad P.1, Option.bind_some]
  exact lawB2 P2
theorem law_both {n : Nat} {f0 h0 f h : mj_I} (G : pg n 0 0 f0 h0 f h) : ∃ v f' h', g_X4_readLaw 13 f = some f' ∧ g_X7_readLaw h = some (v, h') ∧ ((v = 1 ∧ pg n 2 0 f0 h0 f' h') ∨ (v = 0 ∧ pb f0 h0 f' h')) := by
  rw [law_form]
  unfold g_X7_readLaw
  have n10 : ¬ (1 : Int32) = 0 := by decide
  rcases take_both (c := 107) (by decide) G.1 G.2.1 with ⟨f1, h1, a1, a2, a3, a4, a5, a6⟩ | ⟨a1, a2⟩
  rotate_left
  · obtain ⟨f', b1, b2⟩ := lawB1 (pg_bad G n10)
    rw [a1, a2, Option.bind_some, Option.bind_some, if_pos rfl, b1]
    exact ⟨_, _, _, rfl, rfl, Or.inr ⟨rfl, b2⟩⟩
  have G1 := pg_go G a3 a4 a5 a6
  rw [a1, a2, Option.bind_some, Option.bind_some, if_neg n10]
  unfold lawT1
  dsimp only [mj_lt]
  rcases num_both (la := 1) (lb := 9) (a := 1) (b := 9) 0 rfl rfl (by omega) (by omega) G1.1 G1.2.1 with ⟨v, f2, h2, v1, v2, _, _, c1, c2, c3, c4, c5, c6, c7⟩ | ⟨v, _, _, z, _⟩ | ⟨e, he, c1, c2⟩
  rotate_left
  · rw [bm_zero] at z
    exact absurd z (by decide)
  · have P := pg_bad G1 he
    obtain ⟨f', b1, b2⟩ := lawB2 (pb_wr (b := 13) (j := 1) (v := 1) P (by omega) (by omega) (by omega) (fun z => by omega))
    rw [c1, c2, Option.bind_some, if_pos rfl, b1]
    exact ⟨_, _, _, rfl, rfl, Or.inr ⟨rfl, b2⟩⟩
  have G2 := pg_go G1 c4 c5 c6 c7
  have G3 : pg n 1 0 f0 h0 (mj_wr f2 13 1 (nI v)) (mj_wr h2 7 44 (nI v)) := pg_wr G2 (by omega) (by omega) (by omega) (fun z => by omega) (hp_pay G2.2.2.2.2)
  rw [c1, c2, Option.bind_some, if_neg n10, c3, Option.bind_some]
  unfold lawT2
  dsimp only
  rcases take_both (c := 44) (by decide) G3.1 G3.2.1 with ⟨f4, h4, a1, a2, a3, a4, a5, a6⟩ | ⟨a1, a2⟩
  rotate_left
  · obtain ⟨f', b1, b2⟩ := lawB3 (pg_bad G3 n10)
    rw [a1, a2, Option.bind_some, Option.bind_some, if_pos rfl, b1]
    exact ⟨_, _, _, rfl, rfl, Or.inr ⟨rfl, b2⟩⟩
  have G4 := pg_go G3 a3 a4 a5 a6
  rw [a1, a2, Option.bind_some, Option.bind_some, if_neg n10]
  unfold lawT3
  dsimp only
  rcases num_both (la := 0) (lb := 9) (a := 0) (b := 9) 0 rfl rfl (by omega) (by omega) G4.1 G4.2.1 with ⟨v, f5, h5, v1, v2, _, _, c1, c2, c3, c4, c5, c6, c7⟩ | ⟨v, _, _, z, _⟩ | ⟨e, he, c1, c2⟩
  rotate_left
  · rw [bm_zero] at z
    exact absurd z (by decide)
  · have P := pb_wr (b := 13) (j := 2) (v := 0) (pg_bad G4 he) (by omega) (by omega) (by omega) (fun z => by omega)
    rw [c1, c2, Option.bind_some, if_pos rfl, lawB4 P]
    exact ⟨_, _, _, rfl, rfl, Or.inr ⟨rfl, P⟩⟩
  have G5 := pg_go G4 c4 c5 c6 c7
  have G6 : pg n 2 0 f0 h0 (mj_wr f5 13 2 (nI v)) (mj_wr h5 7 45 (nI v)) := pg_wr G5 (by omega) (by omega) (by omega) (fun z => by omega) (hp_fine G5.2.2.2.2)
  rw [c1, c2, Option.bind_some, if_neg n10, c3, Option.bind_some]
  dsimp only
  rcases take_both (c := 59) (by decide) G6.1 G6.2.1 with ⟨f7, h7, a1, a2, a3, a4, a5, a6⟩ | ⟨a1, a2⟩
  · rw [a1, a2, Option.bind_some, Option.bind_some]
    exact ⟨_, _, _, rfl, rfl, Or.inl ⟨rfl, pg_go G6 a3 a4 a5 a6⟩⟩
  · rw [a1, a2, Option.bind_some, Option.bind_some]
    exact ⟨_, _, _, rfl, rfl, Or.inr ⟨rfl, pg_bad G6 n10⟩⟩
/-! the winds -/
theorem wind_bad {t : Nat} {f0 h0 h : mj_I} (ht : t < 2) : ∀ n i f, pb f0 h0 f h → i ≤ 6 → 6 < i + n → ∃ f', g_X4_readWind_8 n 13 (nI t) (nI i) f = some f' ∧ pb f0 h0 f' h := by
  intro n
  induction n with
  | zero => intro i f _ h1 h2; omega
  | succ n ih =>
    intro i f P h1 h2
    rw [g_X4_readWind_8]
    by_cases hi : i = 6
    · subst hi
      rw [if_neg (by decide)]
      exact ⟨f, rfl, P⟩
    obtain ⟨y1, _⟩ := ht_ix t ht i (by omega)
    have k1 : mj_in (nI (6 * t + i)) 12 = true := mj_in_nI (by omega) (by decide)
    rw [if_pos (show nI i < (6 : Int32) from nI_lt (b := 6) (by omega) (by decide)), dir_bad P.1, Option.bind_some, y1, if_pos k1, ix_nI (by omega), nI_1]
    dsimp only [mj_lt]
    exact ih (i + 1) _ (pb_wr P (by omega) (by omega) (by omega) (fun z => by omega)) (by omega) (by omega)
theorem wind_loop {n t : Nat} {f0 h0 : mj_I} (ht : t < 2) : ∀ m m' i f h, pg n 2 (6 * t + i) f0 h0 f h → i ≤ 6 → 6 < i + m → 6 < i + m' →
    ∃ v f' h', (g_X4_readWind_8 m 13 (nI t) (nI i) f).bind (fun q => (g_X4_takeSign 59 q).bind (fun o => some o)) = some f' ∧ g_X7_readWind_12 m' (nI (6 * t)) (nI i) h = some (v, h') ∧ ((v = 1 ∧ pg n 2 (6 * t + 6) f0 h0 f' h') ∨ (v = 0 ∧ pb f0 h0 f' h')) := by
  intro m
  induction m with
  | zero => intro m' i f h _ h1 h2; omega
  | succ m ih =>
    intro m' i f h G h1 h2 h3
    cases m' with
    | zero => omega
    | succ m' =>
      have n10 : ¬ (1 : Int32) = 0 := by decide
      rw [g_X4_readWind_8, g_X7_readWind_12]
      by_cases hi : i = 6
      · subst hi
        rw [if_neg (by decide), if_neg (by decide), Option.bind_some]
        rcases take_both (c := 59) (by decide) G.1 G.2.1 with ⟨f7, h7, a1, a2, a3, a4, a5, a6⟩ | ⟨a1, a2⟩
        · rw [a1, a2, Option.bind_some, Option.bind_some]
          exact ⟨_, _, _, rfl, rfl, Or.inl ⟨rfl, pg_go G a3 a4 a5 a6⟩⟩
        · rw [a1, a2, Option.bind_some, Option.bind_some]
          exact ⟨_, _, _, rfl, rfl, Or.inr ⟨rfl, pg_bad G n10⟩⟩
      obtain ⟨y1, _⟩ := ht_ix t ht i (by omega)
      have k1 : mj_in (nI (6 * t + i)) 12 = true := mj_in_nI (by omega) (by decide)
      have k2 : mj_in (nI (6 * t + i)) 82 = true := mj_in_nI (by omega) (by decide)
      have hlt : nI i < (6 : Int32) := nI_lt (b := 6) (by omega) (by decide)
      rw [if_pos hlt, if_pos hlt, wd_cas G.1]
      unfold g_X4_takeDirection g_X7_readWind_84 g_X7_faults
      dsimp only [mj_lt]
      rw [if_pos G.2.1, if_pos G.2.1, nI_add, y1, if_pos k2, ix_nI (by omega), nI_1]
      rcases dir_c (f 2 4) with d1 | ⟨v, hv, d1, d2⟩
      · have i1 : ¬ mj_wr f 2 6 1 2 6 = 0 := by rw [wr_eq]; exact n10
        rw [d1, if_pos (show (-1 : Int32) < 0 by decide), if_pos (show (-1 : Int32) < 0 by decide), if_neg i1, Option.bind_some, if_pos k1]
        obtain ⟨f', b1, b2⟩ := wind_bad ht m (i + 1) _ (pb_wr (b := 13 + 1) (j := 6 * t + i) (v := 0) (pg_bad G n10) (by omega) (by omega) (by omega) (fun z => by omega)) (by omega) (by omega)
        rw [b1, Option.bind_some, lawB4 b2]
        exact ⟨_, _, _, rfl, rfl, Or.inr ⟨rfl, b2⟩⟩
      · obtain ⟨f1, h1', p1, p2, p3, p4, p5⟩ := tk_go (tk_7 (j := 6 * t + i) (v := nI v) G.1) (Or.inl d2)
        rw [d1, if_neg (nI_pos (by omega)), if_neg (nI_pos (by omega)), p1, p2, Option.bind_some, Option.bind_some, Option.bind_some, if_pos k1]
        have G' : pg n 2 (6 * t + (i + 1)) f0 h0 (mj_wr f1 (13 + 1) (6 * t + i) (nI v)) h1' := by
          refine ⟨tk_x (by omega) p3, by rw [wr_ne1 _ _ (by omega), p4.2.2]; exact G.2.1, pxs_wr (pxs_lx G.2.2.1 p4) (by omega) (by omega) (by omega) (fun z => by omega), pms_lm (pms_7 G.2.2.2.1) p5, ?_⟩
          rw [p5.1 7 (by omega), wr_row]
          exact hp_wind (i := 6 * t + i) (by omega) (mj_in_nI hv (by decide)) (hp_c G.2.2.2.2 (fun b q1 _ => p4.1 b (by omega)))
        exact ih m' (i + 1) _ _ G' (by omega) (by omega) (by omega)
theorem wind_both {n t : Nat} {c : Int32} {f0 h0 f h : mj_I} (ht : t < 2) (hc : ¬ c < 0) (G : pg n 2 (6 * t) f0 h0 f h) : ∃ v f' h', g_X4_readWind 13 c (nI t) f = some f' ∧ g_X7_readWind c (nI (6 * t)) h = some (v, h') ∧ ((v = 1 ∧ pg n 2 (6 * t + 6) f0 h0 f' h') ∨ (v = 0 ∧ pb f0 h0 f' h')) := by
  have n10 : ¬ (1 : Int32) = 0 := by decide
  unfold g_X4_readWind g_X7_readWind
  rcases take_both hc G.1 G.2.1 with ⟨f1, h1, a1, a2, a3, a4, a5, a6⟩ | ⟨a1, a2⟩
  · rw [a1, a2, Option.bind_some, Option.bind_some, if_neg n10]
    obtain ⟨v, f', h', q1, q2, q3⟩ := wind_loop ht mj_fuel mj_fuel 0 f1 h1 (pg_go G a3 a4 a5 a6) (by omega) (by rw [fuel_eq]; omega) (by rw [fuel_eq]; omega)
    exact ⟨v, f', h', q1, q2, q3⟩
  · rw [a1, a2, Option.bind_some, Option.bind_some, if_pos rfl]
    obtain ⟨f', b1, b2⟩ := wind_bad ht mj_fuel 0 _ (pg_bad G n10) (by omega) (by rw [fuel_eq]; omega)
    rw [show nI 0 = (0 : Int32) from rfl] at b1
    rw [b1, Option.bind_some, lawB4 b2]
    exact ⟨_, _, _, rfl, rfl, Or.inr ⟨rfl, b2⟩⟩
theorem wind_pb {t : Nat} {c : Int32} {f0 h0 f h : mj_I} (ht : t < 2) (P : pb f0 h0 f h) : ∃ f', g_X4_readWind 13 c (nI t) f = some f' ∧ pb f0 h0 f' h := by
  unfold g_X4_readWind
  obtain ⟨f', b1, b2⟩ := wind_bad ht mj_fuel 0 _ P (by omega) (by rw [fuel_eq]; omega)
  rw [show nI 0 = (0 : Int32) from rfl] at b1
  rw [sign_bad P.1, Option.bind_some, b1, Option.bind_some, lawB4 b2]
  exact ⟨_, rfl, b2⟩
