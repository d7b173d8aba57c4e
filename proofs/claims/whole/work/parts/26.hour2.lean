/-! an hour: running together -/
theorem wat_sum : ∀ p, p < 41 → ∀ q, q < 41 → (if nI p + nI q < 40 then nI p + nI q else 40) = (if 40 < nI q + nI p then 40 else nI q + nI p) ∧ mj_in (if 40 < nI q + nI p then 40 else nI q + nI p) 41 = true := by decide +kernel
theorem set_in : ∀ s, s < 32 → ∀ i, i < 5 → mj_in (nI s ||| ((1 : Int32) <<< (nI i &&& 31))) 32 = true := by decide +kernel
theorem set_in' {s : Int32} {i : Nat} (h : mj_in s 32 = true) (hi : i < 5) : mj_in (s ||| ((1 : Int32) <<< (nI i &&& 31))) 32 = true := by
  obtain ⟨k, hk, rfl⟩ := mj_in_ex h (by decide)
  exact set_in k hk i hi
theorem tog_123 {i j : Nat} {h : mj_I} (r : Int32 → Int32 → Int32 → mj_I → Option (Int32 × mj_I)) (s v : Int32) (hi : i < 5) (hj : j < 5) :
    g_X7_together_123 r s (nI i) (nI j) ((66 : Int32) + nI j) v h = r (s ||| ((1 : Int32) <<< (nI i &&& 31))) (nI i) (nI j + 1) (mj_wr (mj_wr (mj_wr h 4 (66 + j) v) 4 (66 + i) 0) 4 (71 + i) 1) := by
  unfold g_X7_together_123
  simp only [mj_lt, ix66 hi, ix66 hj, ix71 hi, ↓reduceIte]
theorem run_in {m a i : Nat} (hm : m ≤ 5) (hi : i < m) : ∀ n j f h s, hs a f h → h 4 50 = nI m → f a 11 = s → mj_in s 32 = true → j ≤ i → i < j + n → ∃ f' h' s', g_X2_runTogether_17 n a (nI i) (nI j) f = some f' ∧ g_X7_together_17 n s (nI i) (nI j) h = some (s', h') ∧ f' a 11 = s' ∧ hs a f' h' ∧ fr 47 a f f' h h' ∧ h' 0 = h 0 ∧ mj_in s' 32 = true := by
  intro n
  induction n with
  | zero => intro j f h s _ _ _ _ h1 h2; omega
  | succ n ih =>
    intro j f h s H hc hs11 hsb h1 h2
    unfold g_X2_runTogether_17 g_X7_together_17
    by_cases hj : j = i
    · have : ¬ nI j < nI i := nI_nlt (by omega) (by omega)
      rw [if_neg this, if_neg this]
      exact ⟨f, h, s, rfl, rfl, hs11, H, fr_refl _ _ _ _, rfl, hsb⟩
    have hlt : nI j < nI i := nI_lt (by omega) (by omega)
    have i5 : i < 5 := by omega
    have j5 : j < 5 := by omega
    have im : nI i < h 4 50 := by rw [hc]; exact nI_lt (by omega) (by omega)
    have jm : nI j < h 4 50 := by rw [hc]; exact nI_lt (by omega) (by omega)
    rw [if_pos hlt, if_pos hlt, there_step i5, there_step j5]
    obtain ⟨ci0, ci1, ci2, ci3, ci4, ci5⟩ := H.1.2.2.2 i im i5
    obtain ⟨cj0, cj1, cj2, cj3, cj4, cj5⟩ := H.1.2.2.2 j jm j5
    unfold g_X1_meets g_X1_swallow
    simp only [mj_lt, in5 i5, in5 j5, ↓reduceIte, ci1, ci2, ci3, ci4, cj1, cj2, cj3, cj4, Option.bind_some, ix56 i5, ix56 j5, ix61 i5, ix61 j5, ix66 i5, ix66 j5]
    by_cases gi : h 4 (71 + i) = 0
    · simp only [gi, ↓reduceIte, show ¬ (1 : Int32) = 0 by decide]
      by_cases gj : h 4 (71 + j) = 0
      · simp only [gj, ↓reduceIte, show ¬ (1 : Int32) = 0 by decide]
        by_cases e1 : h 4 (56 + i) = h 4 (56 + j)
        · simp only [e1, ↓reduceIte]
          by_cases e2 : h 4 (61 + i) = h 4 (61 + j)
          · simp only [e2, ↓reduceIte, show ¬ (1 : Int32) = 0 by decide]
            obtain ⟨wi, hwi, ewi⟩ := mj_in_ex (H.2.1.2.2.2.2 i im i5).2.2.2.1 (by decide)
            obtain ⟨wj, hwj, ewj⟩ := mj_in_ex (H.2.1.2.2.2.2 j jm j5).2.2.2.1 (by decide)
            obtain ⟨w1, w2⟩ := wat_sum wj hwj wi hwi
            rw [tog_123 _ _ _ i5 j5, tog_123 _ _ _ i5 j5, ewi, ewj, w1]
            have F1 : ∀ v : Int32, fr 47 a f (mj_wr f (a + 4 + j) 3 v) h (mj_wr h 4 (66 + j) v) := fun v => fr_trans (fr_x (by omega) (by omega) (by omega)) (fr_m (by omega))
            have key : ∀ v : Int32, mj_in v 41 = true → ∃ f' h' s', g_X2_runTogether_17 n a (nI i) (nI j + 1) (mj_wr (mj_wr (mj_wr (mj_wr f (a + 4 + j) 3 v) (a + 4 + i) 3 0) (a + 4 + i) 4 1) a 11 ((mj_wr (mj_wr (mj_wr f (a + 4 + j) 3 v) (a + 4 + i) 3 0) (a + 4 + i) 4 1) a 11 ||| ((1 : Int32) <<< (nI i &&& 31)))) = some f' ∧ g_X7_together_17 n (s ||| ((1 : Int32) <<< (nI i &&& 31))) (nI i) (nI j + 1) (mj_wr (mj_wr (mj_wr h 4 (66 + j) v) 4 (66 + i) 0) 4 (71 + i) 1) = some (s', h') ∧ f' a 11 = s' ∧ hs a f' h' ∧ fr 47 a f f' h h' ∧ h' 0 = h 0 ∧ mj_in s' 32 = true := by
              intro v hv
              have A1 := hs_water (v := v) j5 hv (fun z => absurd gj z) H
              have A2 := hs_water (v := 0) i5 (by decide) (fun _ => rfl) A1
              have A3 := hs_gone i5 (by rw [wr_eq]) A2
              have A4 := hs_run (v := (mj_wr (mj_wr (mj_wr f (a + 4 + j) 3 v) (a + 4 + i) 3 0) (a + 4 + i) 4 1) a 11 ||| ((1 : Int32) <<< (nI i &&& 31))) A3
              have F : fr 47 a f (mj_wr (mj_wr (mj_wr (mj_wr f (a + 4 + j) 3 v) (a + 4 + i) 3 0) (a + 4 + i) 4 1) a 11 ((mj_wr (mj_wr (mj_wr f (a + 4 + j) 3 v) (a + 4 + i) 3 0) (a + 4 + i) 4 1) a 11 ||| ((1 : Int32) <<< (nI i &&& 31)))) h (mj_wr (mj_wr (mj_wr h 4 (66 + j) v) 4 (66 + i) 0) 4 (71 + i) 1) :=
                fr_trans (F1 v) (fr_trans (fr_x (by omega) (by omega) (by omega)) (fr_trans (fr_x (by omega) (by omega) (by omega)) (fr_trans (fr_x (by omega) (by omega) (by omega)) (fr_trans (fr_m (by omega)) (fr_m (by omega))))))
              rw [nI_1]
              obtain ⟨f', h', s', r1, r2, r3, r4, r5, r6, r7⟩ := ih (j + 1) _ _ (s ||| ((1 : Int32) <<< (nI i &&& 31))) A4 (by rw [F.2.2.2.2 50 (by omega)]; exact hc) (by rw [wr_eq, wr_ne _ _ (by omega), wr_ne _ _ (by omega), wr_ne _ _ (by omega), hs11]) (set_in' hsb i5) (by omega) (by omega)
              exact ⟨f', h', s', r1, r2, r3, r4, fr_trans F r5, by rw [r6, wr_ne1 _ _ (by omega), wr_ne1 _ _ (by omega), wr_ne1 _ _ (by omega)], r7⟩
            by_cases e3 : (40 : Int32) < nI wi + nI wj
            · rw [if_pos e3] at w2 ⊢
              rw [if_pos e3]
              exact key _ w2
            · rw [if_neg e3] at w2 ⊢
              rw [if_neg e3]
              exact key _ w2
          · have e' : ¬ h 4 (61 + j) = h 4 (61 + i) := fun z => e2 z.symm
            simp only [e2, e', ↓reduceIte, nI_1]
            exact ih (j + 1) f h s H hc hs11 hsb (by omega) (by omega)
        · have e' : ¬ h 4 (56 + j) = h 4 (56 + i) := fun z => e1 z.symm
          simp only [e1, e', ↓reduceIte, nI_1]
          exact ih (j + 1) f h s H hc hs11 hsb (by omega) (by omega)
      · simp only [gj, ↓reduceIte, nI_1]
        exact ih (j + 1) f h s H hc hs11 hsb (by omega) (by omega)
    · simp only [gi, ↓reduceIte]
      exact ⟨f, h, s, rfl, rfl, hs11, H, fr_refl _ _ _ _, rfl, hsb⟩
theorem run_out {m a : Nat} (hm : m ≤ 5) : ∀ n i f h s, hs a f h → h 4 50 = nI m → f a 11 = s → mj_in s 32 = true → i < 6 → 5 < i + n → ∃ f' h' s', g_X2_runTogether_7 n a (nI i) f = some f' ∧ g_X7_together_4 n s (nI i) h = some (s', h') ∧ f' a 11 = s' ∧ hs a f' h' ∧ fr 47 a f f' h h' ∧ h' 0 = h 0 ∧ mj_in s' 32 = true := by
  intro n
  induction n with
  | zero => intro i f h s _ _ _ _ h1 h2; omega
  | succ n ih =>
    intro i f h s H hc hs11 hsb h1 h2
    have e4 : f a 4 = h 4 50 := H.1.1.2.2.2.1
    unfold g_X2_runTogether_7 g_X7_together_4
    rw [e4, hc]
    by_cases hi : m ≤ i
    · have : ¬ nI i < nI m := nI_nlt (by omega) (by omega)
      rw [if_neg this, if_neg this]
      exact ⟨f, h, s, rfl, rfl, hs11, H, fr_refl _ _ _ _, rfl, hsb⟩
    have hlt : nI i < nI m := nI_lt (by omega) (by omega)
    rw [if_pos hlt, if_pos hlt]
    obtain ⟨f1, h1', s1, r1, r2, r3, r4, r5, r6, r7⟩ := run_in hm (by omega : i < m) mj_fuel 0 f h s H hc hs11 hsb (by omega) (by rw [fuel_eq]; omega)
    rw [show (0 : Int32) = nI 0 from rfl, r1, r2]
    simp only [Option.bind_some, nI_1]
    obtain ⟨f2, h2', s2, t1, t2, t3, t4, t5, t6, t7⟩ := ih (i + 1) f1 h1' s1 r4 (by rw [r5.2.2.2.2 50 (by omega)]; exact hc) r3 r7 (by omega) (by omega)
    exact ⟨f2, h2', s2, t1, t2, t3, t4, fr_trans r5 t5, by rw [t6, r6], t7⟩
