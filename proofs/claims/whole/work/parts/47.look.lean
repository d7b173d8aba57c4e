/-! the tape read: one token on both sides -/
def dgx (f : mj_I) (n q : Nat) : Prop := q < n ∧ ∃ d, d ≤ 9 ∧ f 3 q = nI (48 + d)
def dgm (h : mj_I) (n q : Nat) : Prop := q < n ∧ ∃ d, d ≤ 9 ∧ h 6 q = nI (48 + d)
def lx (f f' : mj_I) : Prop := (∀ b, b ≠ 2 → f' b = f b) ∧ f' 2 1 = f 2 1 ∧ f' 2 6 = f 2 6
def lm (h h' : mj_I) : Prop := (∀ b, b ≠ 0 → h' b = h b) ∧ ∀ j, j < 10 ∨ 14 ≤ j → h' 0 j = h 0 j
theorem t48 : (48 : Int32).toInt = 48 := by decide
theorem t57 : (57 : Int32).toInt = 57 := by decide
theorem in120 {q : Nat} (h : q < 120) : mj_in (nI q) 120 = true := mj_in_nI h (by decide)
theorem fig1 {f : mj_I} {n q d : Nat} (hn : n ≤ 120) (e1 : f 2 1 = nI n) (hq : q < n) (hd : d ≤ 9) (eb : f 3 q = nI (48 + d)) : g_X4_isFigure (nI q) f = some 1 := by
  have k1 := in120 (show q < 120 by omega)
  unfold g_X4_isFigure
  rw [e1, if_pos (nI_lt hq (by omega)), if_pos k1, if_pos k1, ix_nI (by omega), eb, if_neg (show ¬ nI (48 + d) < (48 : Int32) from nI_nlt (b := 48) (by omega) (by omega)), if_neg (show ¬ (57 : Int32) < nI (48 + d) from nI_nlt (a := 57) (by omega) (by decide))]
theorem fig0 {f : mj_I} {n q : Nat} (hn : n ≤ 120) (e1 : f 2 1 = nI n) (hq : q ≤ n) (hnd : ¬ dgx f n q) : g_X4_isFigure (nI q) f = some 0 := by
  unfold g_X4_isFigure
  rw [e1]
  by_cases h : q < n
  · have k1 := in120 (show q < 120 by omega)
    rw [if_pos (nI_lt h (by omega)), if_pos k1, if_pos k1, ix_nI (by omega)]
    by_cases c1 : f 3 q < 48
    · rw [if_pos c1]
    · rw [if_neg c1]
      by_cases c2 : (57 : Int32) < f 3 q
      · rw [if_pos c2]
      · exfalso
        apply hnd
        rw [Int32.lt_iff_toInt_lt, t48] at c1
        rw [Int32.lt_iff_toInt_lt, t57] at c2
        refine ⟨h, (f 3 q).toInt.toNat - 48, by omega, ?_⟩
        apply Int32.toInt_inj.mp
        rw [nI_toInt (by omega)]
        omega
  · rw [if_neg (nI_nlt (by omega) (by omega))]
theorem in_dg (x : Int32) : g_X6_within x 48 57 = 0 ↔ ¬ ∃ d, d ≤ 9 ∧ x = nI (48 + d) := by
  rw [wi_iff, t48, t57]
  constructor
  · rintro h ⟨d, hd, rfl⟩
    apply h
    rw [nI_toInt (by omega)]
    omega
  · intro h q
    apply h
    refine ⟨x.toInt.toNat - 48, by omega, ?_⟩
    apply Int32.toInt_inj.mp
    rw [nI_toInt (by omega)]
    omega
theorem nt_stop {h : mj_I} {n q : Nat} (m : Nat) (hn : n ≤ 120) (e8 : h 0 8 = nI n) (e10 : h 0 10 = nI q) (hq : q ≤ n) (hnd : ¬ dgm h n q) : g_X7_nextToken_33 (m + 1) h = some h := by
  rw [g_X7_nextToken_33, e10, e8]
  by_cases c : q < n
  · have k1 := in120 (show q < 120 by omega)
    rw [if_pos (nI_lt c (by omega)), if_pos k1, ix_nI (by omega), in_48_57, if_pos ((in_dg _).mpr (fun z => hnd ⟨c, z⟩))]
  · rw [if_neg (nI_nlt (by omega) (by omega))]
theorem nt_step {h : mj_I} {n q d : Nat} (m : Nat) (hn : n ≤ 120) (e8 : h 0 8 = nI n) (e10 : h 0 10 = nI q) (hq : q < n) (hd : d ≤ 9) (eb : h 6 q = nI (48 + d)) :
    g_X7_nextToken_33 (m + 1) h = g_X7_nextToken_33 m (mj_wr (mj_wr h 0 12 (if 99 < h 0 12 then h 0 12 else 10 * h 0 12 + nI (48 + d) - 48)) 0 10 (nI (q + 1))) := by
  have k1 := in120 (show q < 120 by omega)
  rw [g_X7_nextToken_33, e10, e8, if_pos (nI_lt hq (by omega)), if_pos k1, if_pos k1, ix_nI (by omega), in_48_57, eb, if_neg (fun z => (in_dg _).mp z ⟨d, hd, rfl⟩)]
  dsimp only [mj_lt]
  rw [wr_ne _ _ (by omega), wr_ne _ _ (by omega), e10, nI_1]
  by_cases c : 99 < h 0 12
  · rw [if_pos c, if_pos c]
  · rw [if_neg c, if_neg c]
theorem nt_run {n : Nat} (hn : n ≤ 120) : ∀ m q h, h 0 8 = nI n → h 0 10 = nI q → q ≤ n → n < q + m → ∃ q' h', q ≤ q' ∧ q' ≤ n ∧ g_X7_nextToken_33 m h = some h' ∧ h' 0 10 = nI q' ∧ (∀ b, b ≠ 0 → h' b = h b) ∧ ∀ j, j ≠ 10 → j ≠ 12 → h' 0 j = h 0 j := by
  intro m
  induction m with
  | zero => intro q h _ _ h1 h2; omega
  | succ m ih =>
    intro q h e8 e10 h1 h2
    by_cases c : dgm h n q
    · obtain ⟨hq, d, hd, eb⟩ := c
      rw [nt_step m hn e8 e10 hq hd eb]
      obtain ⟨q', h', r1, r2, r3, r4, r5, r6⟩ := ih (q + 1) (mj_wr (mj_wr h 0 12 (if 99 < h 0 12 then h 0 12 else 10 * h 0 12 + nI (48 + d) - 48)) 0 10 (nI (q + 1))) (by rw [wr_ne _ _ (by omega), wr_ne _ _ (by omega)]; exact e8) (wr_eq _ _ _ _) (by omega) (by omega)
      exact ⟨q', h', by omega, r2, r3, r4, fun b hb => by rw [r5 b hb, wr_ne1 _ _ hb, wr_ne1 _ _ hb], fun j j10 j12 => by rw [r6 j j10 j12, wr_ne _ _ (by omega), wr_ne _ _ (by omega)]⟩
    · exact ⟨q, h, by omega, h1, nt_stop m hn e8 e10 h1 c, e10, fun _ _ => rfl, fun _ _ _ => rfl⟩
def nt_tail (q : mj_I) : Option mj_I :=
  if (q 0 13) < (q 0 10) then
    if (2 : Int32) < ((q 0 10) - (q 0 13)) then some (mj_wr q 0 11 (0 : Int32)) else some (mj_wr q 0 11 (2 : Int32))
  else
    if (q 0 11) = 0 then
      if mj_in (q 0 10) 120 = true then
        if (g_X7_in ((mj_wr q 0 12 (q 6 (ix (q 0 10))) 0 12)).toInt64 (97 : Int64) (122 : Int64)) = 0 then
          if (mj_wr q 0 12 (q 6 (ix (q 0 10))) 0 12) = (44 : Int32) then g_X7_nextToken_211 (mj_wr q 0 12 (q 6 (ix (q 0 10))))
          else
            if (mj_wr q 0 12 (q 6 (ix (q 0 10))) 0 12) = (59 : Int32) then g_X7_nextToken_211 (mj_wr q 0 12 (q 6 (ix (q 0 10))))
            else some (mj_wr (mj_wr (mj_wr q 0 12 (q 6 (ix (q 0 10)))) 0 11 (0 : Int32)) 0 10 ((mj_wr (mj_wr q 0 12 (q 6 (ix (q 0 10)))) 0 11 (0 : Int32) 0 10) + (1 : Int32)))
        else g_X7_nextToken_211 (mj_wr q 0 12 (q 6 (ix (q 0 10))))
      else none
    else some q
def nt_w (h : mj_I) (z : Int32) : mj_I := mj_wr (mj_wr (mj_wr h 0 13 (h 0 10)) 0 11 z) 0 12 0
theorem nt_form (h : mj_I) : g_X7_nextToken h = (g_X7_nextToken_33 mj_fuel (nt_w h (if h 0 10 = h 0 8 then 3 else 0))).bind nt_tail := by
  unfold g_X7_nextToken
  dsimp only [mj_lt]
  rw [wr_ne _ _ (by omega), wr_ne _ _ (by omega)]
  by_cases c : h 0 10 = h 0 8
  · rw [if_pos c, if_pos c]
    rfl
  · rw [if_neg c, if_neg c]
    rfl
theorem nt_wv (h : mj_I) (z : Int32) : nt_w h z 0 13 = h 0 10 ∧ nt_w h z 0 11 = z ∧ nt_w h z 0 12 = 0 ∧ (∀ b, b ≠ 0 → nt_w h z b = h b) ∧ ∀ j, j ≠ 11 → j ≠ 12 → j ≠ 13 → nt_w h z 0 j = h 0 j := by
  unfold nt_w
  refine ⟨?_, ?_, wr_eq _ _ _ _, fun b hb => by rw [wr_ne1 _ _ hb, wr_ne1 _ _ hb, wr_ne1 _ _ hb], fun j j1 j2 j3 => by rw [wr_ne _ _ (by omega), wr_ne _ _ (by omega), wr_ne _ _ (by omega)]⟩
  · rw [wr_ne _ _ (by omega), wr_ne _ _ (by omega), wr_eq]
  · rw [wr_ne _ _ (by omega), wr_eq]
theorem hF1 : mj_fuel = 3999 + 1 := rfl
theorem dgm_c {h h' : mj_I} {n q : Nat} (e : h' 6 = h 6) : dgm h' n q ↔ dgm h n q := by
  unfold dgm
  rw [e]
theorem nt_end {h : mj_I} {n : Nat} (hn : n ≤ 120) (e8 : h 0 8 = nI n) (e10 : h 0 10 = nI n) : ∃ h', g_X7_nextToken h = some h' ∧ h' 0 11 = 3 ∧ h' 0 13 = nI n ∧ lm h h' := by
  obtain ⟨w1, w2, w3, w4, w5⟩ := nt_wv h 3
  have q : g_X7_nextToken_33 mj_fuel (nt_w h 3) = some (nt_w h 3) := by
    rw [hF1]
    exact nt_stop 3999 hn (by rw [w5 8 (by omega) (by omega) (by omega)]; exact e8) (by rw [w5 10 (by omega) (by omega) (by omega)]; exact e10) (Nat.le_refl n) (fun z => Nat.lt_irrefl n z.1)
  refine ⟨nt_w h 3, ?_, w2, by rw [w1]; exact e10, w4, fun j hj => w5 j (by omega) (by omega) (by omega)⟩
  rw [nt_form, if_pos (by rw [e10, e8]), q, Option.bind_some]
  unfold nt_tail
  rw [w1, w2, w5 10 (by omega) (by omega) (by omega), e10, if_neg (nI_nlt (Nat.le_refl n) (by omega)), if_neg (by decide)]
theorem sg_pos {b : Int32} (h : ¬ g_X4_isSign b = 0) : ¬ b < 0 := by
  unfold g_X4_isSign at h
  by_cases c1 : g_X6_within b 97 122 = 0
  · rw [if_pos c1] at h
    by_cases c2 : b = 44
    · subst c2; decide
    · rw [if_neg c2] at h
      by_cases c3 : b = 59
      · subst c3; decide
      · rw [if_neg c3] at h
        exact absurd rfl h
  · rw [wi_ne] at c1
    have h1 : (97 : Int32).toInt = 97 := by decide
    have h0 : (0 : Int32).toInt = 0 := by decide
    rw [Int32.lt_iff_toInt_lt]
    omega
theorem nt_sign {h : mj_I} {n q : Nat} (hn : n ≤ 120) (e8 : h 0 8 = nI n) (e10 : h 0 10 = nI q) (hq : q < n) (hnd : ¬ dgm h n q) : ∃ h', g_X7_nextToken h = some h' ∧ h' 0 13 = nI q ∧ h' 0 10 = nI (q + 1) ∧ lm h h' ∧ ((g_X4_isSign (h 6 q) = 0 ∧ h' 0 11 = 0) ∨ (¬ g_X4_isSign (h 6 q) = 0 ∧ h' 0 11 = 1 ∧ h' 0 12 = h 6 q)) := by
  obtain ⟨w1, w2, w3, w4, w5⟩ := nt_wv h 0
  have f8 : nt_w h 0 0 8 = nI n := by rw [w5 8 (by omega) (by omega) (by omega)]; exact e8
  have f10 : nt_w h 0 0 10 = nI q := by rw [w5 10 (by omega) (by omega) (by omega)]; exact e10
  have st : g_X7_nextToken_33 mj_fuel (nt_w h 0) = some (nt_w h 0) := by
    rw [hF1]
    exact nt_stop 3999 hn f8 f10 (by omega) (fun z => hnd ((dgm_c (w4 6 (by omega))).mp z))
  have k1 := in120 (show q < 120 by omega)
  rw [nt_form, if_neg (by rw [e10, e8]; exact fun z => by have := nI_inj (by omega) (by omega) z; omega), st, Option.bind_some]
  unfold nt_tail g_X7_nextToken_211 g_X4_isSign
  dsimp only [mj_lt]
  rw [w1, e10, f10, if_neg (nI_nlt (Nat.le_refl q) (by omega)), w2, if_pos rfl, if_pos k1, ix_nI (by omega), w4 6 (by omega), wr_eq]
  have e97 : g_X7_in (h 6 q).toInt64 97 122 = g_X6_within (h 6 q) 97 122 := in_97_122 _
  rw [e97]
  have A : ∀ z : Int32, mj_wr (mj_wr (nt_w h 0) 0 12 (h 6 q)) 0 11 z 0 10 = nI q := fun z => by rw [wr_ne _ _ (by omega), wr_ne _ _ (by omega)]; exact f10
  rw [A, A, nI_1]
  have B : ∀ z : Int32, mj_wr (mj_wr (mj_wr (nt_w h 0) 0 12 (h 6 q)) 0 11 z) 0 10 (nI (q + 1)) 0 13 = nI q ∧ mj_wr (mj_wr (mj_wr (nt_w h 0) 0 12 (h 6 q)) 0 11 z) 0 10 (nI (q + 1)) 0 10 = nI (q + 1) ∧ lm h (mj_wr (mj_wr (mj_wr (nt_w h 0) 0 12 (h 6 q)) 0 11 z) 0 10 (nI (q + 1))) ∧ mj_wr (mj_wr (mj_wr (nt_w h 0) 0 12 (h 6 q)) 0 11 z) 0 10 (nI (q + 1)) 0 11 = z ∧ mj_wr (mj_wr (mj_wr (nt_w h 0) 0 12 (h 6 q)) 0 11 z) 0 10 (nI (q + 1)) 0 12 = h 6 q := by
    intro z
    refine ⟨by rw [wr_ne _ _ (by omega), wr_ne _ _ (by omega), wr_ne _ _ (by omega), w1]; exact e10, wr_eq _ _ _ _, ⟨fun b hb => by rw [wr_ne1 _ _ hb, wr_ne1 _ _ hb, wr_ne1 _ _ hb]; exact w4 b hb, fun j hj => by rw [wr_ne _ _ (by omega), wr_ne _ _ (by omega), wr_ne _ _ (by omega)]; exact w5 j (by omega) (by omega) (by omega)⟩, by rw [wr_ne _ _ (by omega), wr_eq], by rw [wr_ne _ _ (by omega), wr_ne _ _ (by omega), wr_eq]⟩
  obtain ⟨a1, a2, a3, a4, a5⟩ := B 1
  obtain ⟨b1, b2, b3, b4, b5⟩ := B 0
  have yes : ∀ z : Int32, ¬ z = 0 → ∃ h', some (mj_wr (mj_wr (mj_wr (nt_w h 0) 0 12 (h 6 q)) 0 11 1) 0 10 (nI (q + 1))) = some h' ∧ h' 0 13 = nI q ∧ h' 0 10 = nI (q + 1) ∧ lm h h' ∧ ((z = 0 ∧ h' 0 11 = 0) ∨ (¬ z = 0 ∧ h' 0 11 = 1 ∧ h' 0 12 = h 6 q)) := fun z hz => ⟨_, rfl, a1, a2, a3, Or.inr ⟨hz, a4, a5⟩⟩
  by_cases c1 : g_X6_within (h 6 q) 97 122 = 0
  · rw [if_pos c1, if_pos c1]
    by_cases c2 : h 6 q = 44
    · rw [if_pos c2, if_pos c2]
      exact yes 1 (by decide)
    · rw [if_neg c2, if_neg c2]
      by_cases c3 : h 6 q = 59
      · rw [if_pos c3, if_pos c3]
        exact yes 1 (by decide)
      · rw [if_neg c3, if_neg c3]
        exact ⟨_, rfl, b1, b2, b3, Or.inl ⟨rfl, b4⟩⟩
  · rw [if_neg c1, if_neg c1]
    exact yes 1 (by decide)
