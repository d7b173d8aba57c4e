/-! the parishes read -/
theorem hp_par {f : mj_I} {s : Nat → Int32} {v : Nat} {p w : Int32} (hv : v < 32) (hpp : mj_in p 4 = true) (H : hp 3 12 f s) : hp 3 12 (mj_wr (mj_wr f (13 + 2) v p) 13 3 w) (upd (upd s (12 + v) p) 49 w) := by
  obtain ⟨⟨l1, l2, _⟩, wd, ⟨a1, a2, a3, a4, a5⟩, ⟨c0, c1⟩, d, e⟩ := H
  have U : ∀ i, i ≠ 49 → i ≠ 12 + v → upd (upd s (12 + v) p) 49 w i = s i := fun i h1 h2 => by rw [upd_ne h1, upd_ne h2]
  have X : ∀ b j, ¬ (b = 13 ∧ j = 3) → ¬ (b = 13 + 2 ∧ j = v) → mj_wr (mj_wr f (13 + 2) v p) 13 3 w b j = f b j := fun b j h1 h2 => by rw [wr_ne _ _ h1, wr_ne _ _ h2]
  refine ⟨⟨fun z => ?_, fun z => ?_, fun z => absurd z (by omega)⟩, fun j hj => ?_, ⟨?_, ?_, ?_, ?_, ?_⟩, ⟨?_, fun k hk => ?_⟩, fun i hi => ?_, fun k k1 k2 => ?_⟩
  · rw [X _ _ (by omega) (by omega), U _ (by omega) (by omega)]; exact l1 z
  · rw [X _ _ (by omega) (by omega), U _ (by omega) (by omega)]; exact l2 z
  · rw [X _ _ (by omega) (by omega), U _ (by omega) (by omega)]; exact wd j hj
  · rw [wr_eq, upd_eq]
  · rw [X _ _ (by omega) (by omega), U _ (by omega) (by omega)]; exact a2
  · rw [X _ _ (by omega) (by omega), U _ (by omega) (by omega)]; exact a3
  · rw [X _ _ (by omega) (by omega), U _ (by omega) (by omega)]; exact a4
  · rw [X _ _ (by omega) (by omega), U _ (by omega) (by omega)]; exact a5
  · rw [U _ (by omega) (by omega)]; exact c0
  · rw [U _ (by omega) (by omega), U _ (by omega) (by omega)]; exact c1 k hk
  · by_cases e2 : i = v
    · subst e2
      rw [wr_ne _ _ (by omega), wr_eq, upd_ne (by omega), upd_eq]
      exact ⟨rfl, hpp⟩
    · rw [X _ _ (by omega) (by omega), U _ (by omega) (by omega)]; exact d i hi
  · rw [U _ (by omega) (by omega)] at k1
    unfold ck
    rw [X _ _ (by omega) (by omega), X _ _ (by omega) (by omega), X _ _ (by omega) (by omega), X _ _ (by omega) (by omega), X _ _ (by omega) (by omega), X _ _ (by omega) (by omega), U _ (by omega) (by omega), U _ (by omega) (by omega), U _ (by omega) (by omega), U _ (by omega) (by omega), U _ (by omega) (by omega), U _ (by omega) (by omega)]
    exact e k k1 k2
theorem par_bad {n : Nat} {f : mj_I} {x2 x3 : Int32} (h6 : ¬ f 2 6 = 0) : g_X4_readParishes_4 (n + 1) 13 x2 x3 f = some f := by
  rw [g_X4_readParishes_4]
  by_cases c : 8 < x3
  · rw [if_pos c]
  · rw [if_neg c, if_neg h6]
def parY (m : Nat) (x2 x3 u4 o : Int32) (f : mj_I) : Option mj_I :=
  if mj_in o 32 = true then g_X4_readParishes_4 m 13 (x2 ||| ((1 : Int32) <<< (o &&& 31))) (x3 + 1) (mj_wr (mj_wr f (13 + 2) (ix o) u4) 13 3 (x3 + 1)) else none
def parX (m : Nat) (x2 x3 u4 : Int32) (f : mj_I) : Option mj_I := (g_X4_takeNumber 0 31 x2 f).bind (fun o => (g_X4_takeSign 59 o.2).bind (parY m x2 x3 u4 o.1))
theorem par_form {m : Nat} {f : mj_I} {x2 x3 : Int32} (h8 : ¬ 8 < x3) (h6 : f 2 6 = 0) (hp : ¬ g_X4_parishOf (f 2 4) = 0) (hn : ¬ x3 = 8) : g_X4_readParishes_4 (m + 1) 13 x2 x3 f = (g_X4_look f).bind (parX m x2 x3 (g_X4_parishOf (f 2 4))) := by
  rw [g_X4_readParishes_4, if_neg h8, if_pos h6, if_neg hp, if_neg hn]
  rfl
theorem parY_bad {m v : Nat} {x2 x3 u4 : Int32} {f0 h0 f h : mj_I} (hv : v < 32) (P : pb f0 h0 f h) : ∃ f', parY (m + 1) x2 x3 u4 (nI v) f = some f' ∧ pb f0 h0 f' h := by
  obtain ⟨k1, k2⟩ := in32 hv
  unfold parY
  rw [if_pos k1, k2]
  have P2 := pb_wr (b := 13) (j := 3) (v := x3 + 1) (pb_wr (b := 13 + 2) (j := v) (v := u4) P (by omega) (by omega) (by omega) (fun z => by omega)) (by omega) (by omega) (by omega) (fun z => by omega)
  exact ⟨_, par_bad P2.1, P2⟩
/-- the cells that have a parish -/
def pm (x2 : Int32) (s : Nat → Int32) : Prop := ∀ v, v < 32 → (bm x2 v = false ↔ ¬ 0 < s (12 + v))
theorem pm_set {x2 p w : Int32} {s : Nat → Int32} {v : Nat} (hv : v < 32) (hp : 0 < p) (M : pm x2 s) : pm (x2 ||| ((1 : Int32) <<< (nI v &&& 31))) (upd (upd s (12 + v) p) 49 w) := by
  intro i hi
  rw [bm_or _ hv, upd_ne (by omega)]
  by_cases e : i = v
  · subst e
    rw [upd_eq]
    simp [hp]
  · rw [upd_ne (by omega)]
    have := M i hi
    simp [e, this]
theorem par_M {x1 : Int32} {h h1 : mj_I} {v : Nat} (hv : v < 32) (h8 : ¬ h 7 49 = 8) (q2 : g_X7_nextToken h = some h1) (c2 : g_X7_isNumber 0 31 h1 = (1, h1)) (ev : h1 0 12 = nI v) : g_X7_readParish x1 h = if 0 < h1 7 (12 + v) then some (0, mj_wr h1 0 14 2) else g_X7_readParish_57 x1 h1 := by
  unfold g_X7_readParish
  rw [if_neg h8, q2, Option.bind_some, c2]
  show (if (1 : Int32) = 0 then some (0, h1) else if mj_in (12 + h1 0 12) 82 = true then if 0 < h1 7 (ix (12 + h1 0 12)) then (if (0 : Int32) = 0 then some (0, mj_wr h1 0 14 2) else g_X7_readParish_57 x1 (mj_wr h1 0 14 2)) else g_X7_readParish_57 x1 h1 else none) = _
  rw [if_neg (show ¬ (1 : Int32) = 0 by decide), ev, if_pos (ix12 hv).1, (ix12 hv).2, if_pos (show (0 : Int32) = 0 from rfl)]
theorem par_M0 {x1 : Int32} {h h1 h2 : mj_I} (h8 : ¬ h 7 49 = 8) (q2 : g_X7_nextToken h = some h1) (c2 : g_X7_isNumber 0 31 h1 = (0, h2)) : g_X7_readParish x1 h = some (0, h2) := by
  unfold g_X7_readParish
  rw [if_neg h8, q2, Option.bind_some, c2]
  dsimp only [mj_lt]
  rw [if_pos rfl]
theorem par_step {n i p m : Nat} {x2 : Int32} {f0 h0 f h : mj_I} (G : pg n 3 12 f0 h0 f h) (e49 : h 7 49 = nI i) (e50 : h 7 50 = 0) (M : pm x2 (h 7)) (hi : i < 8) (hp1 : 1 ≤ p) (hp3 : p ≤ 3) (ep : g_X4_parishOf (f 2 4) = nI p) (ht : ¬ f 2 4 < 0) :
    (∃ x2' f' h', g_X4_readParishes_4 (m + 2) 13 x2 (nI i) f = g_X4_readParishes_4 (m + 1) 13 x2' (nI (i + 1)) f' ∧ g_X7_readParish (nI p) h = some (1, h') ∧ pg n 3 12 f0 h0 f' h' ∧ h' 7 49 = nI (i + 1) ∧ h' 7 50 = 0 ∧ pm x2' (h' 7)) ∨
    (∃ f' h', g_X4_readParishes_4 (m + 2) 13 x2 (nI i) f = some f' ∧ g_X7_readParish (nI p) h = some (0, h') ∧ pb f0 h0 f' h') := by
  have n10 : ¬ (1 : Int32) = 0 := by decide
  have p0 : ¬ nI p = 0 := nI_ne0 (by omega) (by omega)
  have n8 : ¬ nI i = 8 := fun z => by have := nI_inj (b := 8) (by omega) (by omega) z; omega
  rw [show m + 2 = (m + 1) + 1 from rfl, par_form (show ¬ 8 < nI i from nI_nlt (a := 8) (by omega) (by decide)) G.2.1 (by rw [ep]; exact p0) n8, ep]
  obtain ⟨f1, h1, q1, q2, q3, q4, q5⟩ := tk_go G.1 (Or.inl ht)
  have G1 := pg_go G q3 (by rw [q4.2.2]; exact G.2.1) q4 q5
  have e7 : h1 7 = h 7 := q5.1 7 (by omega)
  have n8' : ¬ h 7 49 = 8 := by rw [e49]; exact n8
  rw [q1, Option.bind_some]
  unfold parX
  rcases num_both (la := 0) (lb := 31) (a := 0) (b := 31) x2 rfl rfl (by omega) (by omega) G1.1 G1.2.1 with ⟨v, f2, h2, v1, v2, vb, ev, c1, c2, c3, c4, c5, c6, c7⟩ | ⟨v, v1, v2, vb, ev, c1, c2⟩ | ⟨e, he, c1, c2⟩
  · have hv : v < 32 := by omega
    have G2 := pg_go G1 c4 c5 c6 c7
    have e7' : h2 7 = h 7 := by rw [c7.1 7 (by omega), e7]
    rw [c1, Option.bind_some, par_M hv n8' q2 c2 ev, e7, if_neg ((M v hv).mp vb)]
    unfold g_X7_readParish_57
    rw [c3, Option.bind_some]
    dsimp only [mj_lt]
    rw [if_pos (ix12 hv).1, (ix12 hv).2, wr_ne _ _ (show ¬ (7 = 7 ∧ 49 = 12 + v) by omega), e7', e49, nI_1]
    obtain ⟨k1, k2⟩ := in32 hv
    rcases take_both (c := 59) (by decide) (tk_7 (j := 49) (v := nI (i + 1)) (tk_7 (j := 12 + v) (v := nI p) G2.1)) G2.2.1 with ⟨f4, h4, a1, a2, a3, a4, a5, a6⟩ | ⟨a1, a2⟩
    · rw [a1, a2, Option.bind_some, Option.bind_some]
      unfold parY
      rw [if_pos k1, k2, nI_1]
      have e4 : h4 7 = upd (upd (h 7) (12 + v) (nI p)) 49 (nI (i + 1)) := by rw [a6.1 7 (by omega), wr_row, wr_row, e7']
      refine Or.inl ⟨_, _, h4, rfl, rfl, ⟨tk_x (by omega) (tk_x (by omega) a3), by rw [wr_ne1 _ _ (by omega), wr_ne1 _ _ (by omega)]; exact a4, pxs_wr (pxs_wr (pxs_lx G2.2.2.1 a5) (by omega) (by omega) (by omega) (fun z => by omega)) (by omega) (by omega) (by omega) (fun z => by omega), pms_lm (pms_7 (pms_7 G2.2.2.2.1)) a6, ?_⟩, by rw [e4, upd_eq], by rw [e4, upd_ne (by omega), upd_ne (by omega)]; exact e50, ?_⟩
      · rw [e4]
        have H2 := G2.2.2.2.2
        rw [e7'] at H2
        exact hp_par hv (mj_in_nI (by omega) (by decide)) (hp_c H2 (fun b z1 _ => a5.1 b (by omega)))
      · rw [e4]
        exact pm_set hv (show nI 0 < nI p from nI_lt (by omega) (by omega)) M
    · have P : pb f0 h0 (mj_wr f2 2 6 1) (mj_wr (mj_wr (mj_wr h2 7 (12 + v) (nI p)) 7 49 (nI (i + 1))) 0 14 1) := pb_mk (tk_7 (tk_7 G2.1)) G2.2.2.1 (pms_7 (pms_7 G2.2.2.2.1)) n10
      obtain ⟨f', b1, b2⟩ := parY_bad (m := m) (x2 := x2) (x3 := nI i) (u4 := nI p) hv P
      rw [a1, a2, Option.bind_some, Option.bind_some, b1]
      exact Or.inr ⟨_, _, rfl, rfl, b2⟩
  · have hv : v < 32 := by omega
    have ht2 : 0 < h 7 (12 + v) := by
      by_cases z : 0 < h 7 (12 + v)
      · exact z
      · rw [(M v hv).mpr z] at vb
        exact absurd vb (by decide)
    have P := pg_bad G1 (show ¬ (2 : Int32) = 0 by decide)
    obtain ⟨f', b1, b2⟩ := parY_bad (m := m) (v := 0) (x2 := x2) (x3 := nI i) (u4 := nI p) (by omega) P
    rw [show nI 0 = (0 : Int32) from rfl] at b1
    rw [c1, Option.bind_some, par_M hv n8' q2 c2 ev, e7, if_pos ht2, sign_bad P.1, Option.bind_some, b1]
    exact Or.inr ⟨_, _, rfl, rfl, b2⟩
  · have P := pg_bad G1 he
    obtain ⟨f', b1, b2⟩ := parY_bad (m := m) (v := 0) (x2 := x2) (x3 := nI i) (u4 := nI p) (by omega) P
    rw [show nI 0 = (0 : Int32) from rfl] at b1
    rw [c1, Option.bind_some, par_M0 n8' q2 c2, sign_bad P.1, Option.bind_some, b1]
    exact Or.inr ⟨_, _, rfl, rfl, b2⟩
theorem par_loop {n : Nat} {f0 h0 : mj_I} : ∀ nX i m x2 f h, pg n 3 12 f0 h0 f h → h 7 49 = nI i → h 7 50 = 0 → pm x2 (h 7) → i ≤ 8 → 9 < i + nX → 9 < i + m →
    (∃ m' f' h', g_X4_readParishes_4 nX 13 x2 (nI i) f = some f' ∧ g_X7_readHerd_62 m 1 h = g_X7_readHerd_62 m' 1 h' ∧ i + m ≤ 8 + m' ∧ pg n 3 12 f0 h0 f' h' ∧ h' 7 50 = 0 ∧ g_X4_parishOf (f' 2 4) = 0) ∨
    (∃ f' h', g_X4_readParishes_4 nX 13 x2 (nI i) f = some f' ∧ g_X7_readHerd_62 m 1 h = some (0, h') ∧ pb f0 h0 f' h') := by
  intro nX
  induction nX with
  | zero => intro i m x2 f h _ _ _ _ h1 h2; omega
  | succ nX ih =>
    intro i m x2 f h G e49 e50 M h1 h2 h3
    have n8 : ¬ 8 < nI i := nI_nlt (a := 8) (by omega) (by decide)
    rcases par_c (f 2 4) with c | ⟨p, p1, p2, p3, p4, p5⟩
    · rw [g_X4_readParishes_4, if_neg n8, if_pos G.2.1, if_pos c]
      exact Or.inl ⟨m, f, h, rfl, rfl, by omega, G, e50, c⟩
    obtain ⟨m, rfl⟩ : ∃ q, m = q + 2 := ⟨m - 2, by omega⟩
    have p0 : ¬ nI p = 0 := nI_ne0 (by omega) (by omega)
    have hcs : g_X7_readHerd_62 (m + 2) 1 h = (g_X7_readParish (nI p) h).bind (fun o => g_X7_readHerd_62 (m + 1) o.1 o.2) := by
      rw [show m + 2 = (m + 1) + 1 from rfl, hd_cas G.1 (fun z => p4 (by rw [z]; decide)), p3, p5]
      unfold g_X7_readHerd_181
      rw [if_pos (show (0 : Int32) < nI p from nI_lt (a := 0) (by omega) (by omega)), if_pos e50]
    by_cases c8 : i = 8
    · subst c8
      have hr : g_X7_readParish (nI p) h = some (0, mj_wr h 0 14 3) := by
        unfold g_X7_readParish g_X7_faults
        rw [e49, if_pos (by decide)]
        rfl
      rw [hcs, hr, Option.bind_some, hd_0, g_X4_readParishes_4, if_neg n8, if_pos G.2.1, p3, if_neg p0, if_pos (by decide)]
      exact Or.inr ⟨_, _, rfl, rfl, pg_bad G (by decide)⟩
    obtain ⟨nX, rfl⟩ : ∃ q, nX = q + 1 := ⟨nX - 1, by omega⟩
    rcases par_step (m := nX) G e49 e50 M (by omega) p1 p2 p3 p4 with ⟨x2', f', h', q1, q2, q3, q4, q5, q6⟩ | ⟨f', h', q1, q2, q3⟩
    · rw [show nX + 1 + 1 = nX + 2 from rfl, q1, hcs, q2, Option.bind_some]
      rcases ih (i + 1) (m + 1) x2' f' h' q3 q4 q5 q6 (by omega) (by omega) (by omega) with ⟨m', f2, h2, r1, r2, r3, r4⟩ | r
      · exact Or.inl ⟨m', f2, h2, r1, r2, by omega, r4⟩
      · exact Or.inr r
    · rw [show nX + 1 + 1 = nX + 2 from rfl, q1, hcs, q2, Option.bind_some, hd_0]
      exact Or.inr ⟨_, _, rfl, rfl, q3⟩
