/-! undo -/
def un_ok (c t g w : Nat) (d : Nat) : Bool :=
  let x : Int32 := nI c ||| (nI t <<< ((5 : Int32) &&& 31)) ||| (nI g <<< ((6 : Int32) &&& 31)) ||| (nI d <<< ((7 : Int32) &&& 31)) ||| (nI w <<< ((8 : Int32) &&& 31))
  x &&& 31 == nI c && (mj_ushr x 5) &&& 1 == nI t && (mj_ushr x 6) &&& 1 == nI g && (mj_ushr x 7) &&& 1 == nI d && mj_ushr x 8 == nI w
theorem un_all : ∀ c, c < 32 → ∀ t, t < 2 → ∀ g, g < 2 → ∀ w, w < 41 → ∀ d, d < 2 → un_ok c t g w d = true := by decide +kernel
theorem un_pk {N : Nat} {s : Nat → Int32} (H : rl_hv N s) {k : Nat} (hk : k < 5) (hm : nI k < s 50) :
    rl_pk s k &&& 31 = s (56 + k) ∧ (mj_ushr (rl_pk s k) 5) &&& 1 = s (61 + k) ∧ (mj_ushr (rl_pk s k) 6) &&& 1 = s (71 + k) ∧ (mj_ushr (rl_pk s k) 7) &&& 1 = s (76 + k) ∧ mj_ushr (rl_pk s k) 8 = s (66 + k) := by
  obtain ⟨u0, u1, u2, u3, u4, u5, u6⟩ := H.2.2.2.2 k hm hk
  obtain ⟨c, hc, ec⟩ := mj_in_ex u1 (by decide)
  obtain ⟨t, ht, et⟩ := mj_in_ex u2 (by decide)
  obtain ⟨w, hw, ew⟩ := mj_in_ex u3 (by decide)
  obtain ⟨g, hg, eg⟩ := mj_in_ex u4 (by decide)
  obtain ⟨d, hd, ed⟩ := mj_in_ex u5 (by decide)
  have h := un_all c hc t ht g hg w hw d hd
  unfold rl_pk
  rw [ec, et, ew, eg, ed]
  unfold un_ok at h
  simp only [Bool.and_eq_true, beq_iff_eq] at h
  exact ⟨h.1.1.1.1, h.1.1.1.2, h.1.1.2, h.1.2, h.2⟩
theorem unpack_ok (b : Nat) (x : Int32) (f : mj_I) : ∃ f', g_X1_unpack b x f = some f' ∧ (∀ c, c ≠ b → f' c = f c) ∧ f' b 0 = f b 0 ∧ f' b 1 = x &&& 31 ∧ f' b 2 = (mj_ushr x 5) &&& 1 ∧ f' b 3 = mj_ushr x 8 ∧
    f' b 4 = (if (mj_ushr x 6) &&& 1 = 0 then 0 else 1) ∧ f' b 5 = (if (mj_ushr x 7) &&& 1 = 0 then 0 else 1) := by
  have key : ∀ v w : Int32, ∃ f', f' = mj_wr (mj_wr (mj_wr (mj_wr (mj_wr f b 1 (x &&& 31)) b 2 ((mj_ushr x 5) &&& 1)) b 4 v) b 5 w) b 3 (mj_ushr x 8) ∧ (∀ c, c ≠ b → f' c = f c) ∧ f' b 0 = f b 0 ∧ f' b 1 = x &&& 31 ∧ f' b 2 = (mj_ushr x 5) &&& 1 ∧ f' b 3 = mj_ushr x 8 ∧ f' b 4 = v ∧ f' b 5 = w := by
    intro v w
    refine ⟨_, rfl, fun c hc => by rw [wr_ne1 _ _ hc, wr_ne1 _ _ hc, wr_ne1 _ _ hc, wr_ne1 _ _ hc, wr_ne1 _ _ hc], ?_, ?_, ?_, ?_, ?_, ?_⟩ <;> simp [mj_wr]
  unfold g_X1_unpack g_X1_unpack_32
  simp only [mj_lt, show mj_b 0 = true from rfl, show mj_b 1 = true from rfl, ↓reduceIte]
  by_cases c6 : (mj_ushr x 6) &&& 1 = 0
  · by_cases c7 : (mj_ushr x 7) &&& 1 = 0
    · obtain ⟨f', e, r⟩ := key 0 0
      simp only [c6, c7, ↓reduceIte]
      exact ⟨f', by rw [e], r⟩
    · obtain ⟨f', e, r⟩ := key 0 1
      simp only [c6, c7, ↓reduceIte]
      exact ⟨f', by rw [e], r⟩
  · by_cases c7 : (mj_ushr x 7) &&& 1 = 0
    · obtain ⟨f', e, r⟩ := key 1 0
      simp only [c6, c7, ↓reduceIte]
      exact ⟨f', by rw [e], r⟩
    · obtain ⟨f', e, r⟩ := key 1 1
      simp only [c6, c7, ↓reduceIte]
      exact ⟨f', by rw [e], r⟩
theorem unp_loop {p : Nat} (hp : p < 24) : ∀ n i f, i ≤ 5 → 5 < i + n → ∃ f', g_X0_takeBack_70 n 4 (nI (8 * p)) (nI i) f = some f' ∧ (∀ b, ¬ (8 + i ≤ b ∧ b < 13) → f' b = f b) ∧
    ∀ k, i ≤ k → k < 5 → f' (8 + k) 0 = f (8 + k) 0 ∧ f' (8 + k) 1 = f 25 (8 * p + 3 + k) &&& 31 ∧ f' (8 + k) 2 = (mj_ushr (f 25 (8 * p + 3 + k)) 5) &&& 1 ∧ f' (8 + k) 3 = mj_ushr (f 25 (8 * p + 3 + k)) 8 ∧
      f' (8 + k) 4 = (if (mj_ushr (f 25 (8 * p + 3 + k)) 6) &&& 1 = 0 then 0 else 1) ∧ f' (8 + k) 5 = (if (mj_ushr (f 25 (8 * p + 3 + k)) 7) &&& 1 = 0 then 0 else 1) := by
  intro n
  induction n with
  | zero => intro i f h1 h2; omega
  | succ n ih =>
    intro i f h1 h2
    unfold g_X0_takeBack_70
    by_cases hi : i = 5
    · subst hi
      rw [if_neg (by decide)]
      exact ⟨f, rfl, fun _ _ => rfl, fun k h1 h2 => by omega⟩
    have h5 : i < 5 := by omega
    rw [if_pos (show nI i < (5 : Int32) from nI_lt (b := 5) h5 (by decide))]
    have e : nI (8 * p) + 3 + nI i = nI (8 * p + 3 + i) := by rw [show nI (8 * p) + 3 = nI (8 * p + 3) from nI_add _ 3, nI_add]
    simp only [in5 h5, e, in192 (show 8 * p + 3 + i < 192 by omega), ↓reduceIte, nI_1]
    obtain ⟨f1, q1, q2, q3⟩ := unpack_ok (4 + 4 + i) (f 25 (8 * p + 3 + i)) f
    rw [q1]
    simp only [Option.bind_some]
    obtain ⟨f', r1, r2, r3⟩ := ih (i + 1) f1 (by omega) (by omega)
    refine ⟨f', r1, fun b hb => by rw [r2 b (by omega), q2 b (by omega)], fun k k1 k2 => ?_⟩
    by_cases ek : k = i
    · subst ek
      rw [r2 (8 + k) (by omega)]
      exact q3
    · have := r3 k (by omega) k2
      rw [q2 25 (by omega), q2 (8 + k) (by omega)] at this
      exact this
