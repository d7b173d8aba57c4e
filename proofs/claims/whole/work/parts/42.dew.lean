/-! dew -/
def mf (h h' : mj_I) : Prop := (∀ b, b ≠ 0 → b ≠ 4 → h' b = h b) ∧ (∀ j, j ≠ 16 → h' 0 j = h 0 j) ∧ ∀ j, 82 ≤ j → h' 4 j = h 4 j
theorem mf_trans {h h1 h2 : mj_I} (p : mf h h1) (q : mf h1 h2) : mf h h2 := ⟨fun b k0 k4 => (q.1 b k0 k4).trans (p.1 b k0 k4), fun j hj => (q.2.1 j hj).trans (p.2.1 j hj), fun j hj => (q.2.2 j hj).trans (p.2.2 j hj)⟩
theorem mf_refl (h : mj_I) : mf h h := ⟨fun _ _ _ => rfl, fun _ _ => rfl, fun _ _ => rfl⟩
theorem dew_dead {k t l : Nat} {y : Int32} (hk : k < 5) (ht : t + l < 1099) : ∀ n i f h, lo k f h → h 4 46 = nI (t + i) → i ≤ l → l < i + n → ∃ h', g_X7_isDew_10 n (nI k) y (nI l) 0 (nI i) h = some (0, h') ∧ mf h h' := by
  intro n
  induction n with
  | zero => intro i f h _ _ h1 h2; omega
  | succ n ih =>
    intro i f h L e46 h1 h2
    unfold g_X7_isDew_10
    by_cases hi : i = l
    · rw [if_neg (nI_nlt (by omega) (by omega))]
      exact ⟨_, rfl, mf_refl h⟩
    obtain ⟨d, w, f2, h2', r1, r2, r3, r4, r5, r6, r7, r8, r9, r10⟩ := alone_lo hk L (show t + i < 1099 by omega) e46
    rw [if_pos (nI_lt (by omega) (by omega)), r2, Option.bind_some]
    unfold g_X7_isDew_41
    simp only [ix56 hk, ↓reduceIte, ite_self, nI_1]
    obtain ⟨h', q1, q2⟩ := ih (i + 1) f2 h2' r3 r9 (by omega) (by omega)
    exact ⟨h', q1, mf_trans ⟨r5, r6, fun j hj => r7 j (by omega)⟩ q2⟩
theorem dew_in {k t l r s m : Nat} (hk : k < 5) (ht : t + l < 1099) (hr : r < 8) (hs : s + l ≤ m) (hm40 : m ≤ 40) : ∀ n i f h, lo k f h → f 4 5 = nI t → h 4 46 = nI (t + i) → (∀ i, i < m → f (28 + 2 * r + 1) i = h 3 (40 * r + i)) → i ≤ l → l < i + n →
    ∃ v f' h', g_X6_leavesDew_19 n (28 + 2 * r) (nI s) (nI l) (nI i) f = some (v, f') ∧ g_X7_isDew_10 n (nI k) (nI (40 * r + s)) (nI l) 1 (nI i) h = some (v, h') ∧ mj_b v = true ∧ (∀ b, b ≠ 22 → f' b = f b) ∧ mf h h' := by
  intro n
  induction n with
  | zero => intro i f h _ _ _ _ h1 h2; omega
  | succ n ih =>
    intro i f h L e5 e46 hrow h1 h2
    unfold g_X6_leavesDew_19 g_X7_isDew_10
    by_cases hi : i = l
    · have : ¬ nI i < nI l := nI_nlt (by omega) (by omega)
      rw [if_neg this, if_neg this]
      exact ⟨_, _, _, rfl, rfl, rfl, fun _ _ => rfl, mf_refl h⟩
    have hlt : nI i < nI l := nI_lt (by omega) (by omega)
    obtain ⟨d, w, f2, h2', r1, r2, r3, r4, r5, r6, r7, r8, r9, r10⟩ := alone_lo hk L (show t + i < 1099 by omega) e46
    have k1 : mj_in (nI (s + i)) 40 = true := mj_in_nI (by omega) (by decide)
    have k2 : mj_in (nI (40 * r + s + i)) 320 = true := mj_in_nI (by omega) (by decide)
    have ec : f2 22 1 = h2' 4 (56 + k) := r3.2.2.2.2.1
    have hrow2 : ∀ i, i < m → f2 (28 + 2 * r + 1) i = h2' 3 (40 * r + i) := fun i hi => by rw [r4 _ (by omega), r5 3 (by omega) (by omega)]; exact hrow i hi
    have hro : f2 (28 + 2 * r + 1) (s + i) = h2' 3 (40 * r + s + i) := by rw [hrow2 (s + i) (by omega), Nat.add_assoc]
    have F : mf h h2' := ⟨r5, r6, fun j hj => r7 j (by omega)⟩
    have e5' : f2 4 5 = nI t := by rw [r4 4 (by omega)]; exact e5
    rw [if_pos hlt, if_pos hlt, e5, nI_add, r1, r2, Option.bind_some, Option.bind_some]
    unfold g_X7_isDew_41
    simp only [nI_add, nI_1, k1, k2, ↓reduceIte, r10, ix56 hk, ix_nI (show s + i < 2 ^ 31 by omega), ix_nI (show 40 * r + s + i < 2 ^ 31 by omega), hro, ec, show ¬ (1 : Int32) = 0 by decide]
    have go : ∃ v f' h', g_X6_leavesDew_19 n (28 + 2 * r) (nI s) (nI l) (nI (i + 1)) f2 = some (v, f') ∧ g_X7_isDew_10 n (nI k) (nI (40 * r + s)) (nI l) 1 (nI (i + 1)) h2' = some (v, h') ∧ mj_b v = true ∧ (∀ b, b ≠ 22 → f' b = f b) ∧ mf h h' := by
      obtain ⟨v, f', h', t1, t2, t3, t4, t5⟩ := ih (i + 1) f2 h2' r3 e5' r9 hrow2 (by omega) (by omega)
      exact ⟨v, f', h', t1, t2, t3, fun b hb => by rw [t4 b hb, r4 b hb], mf_trans F t5⟩
    obtain ⟨hd, s1, s2⟩ := dew_dead (y := nI (40 * r + s)) hk ht n (i + 1) f2 h2' r3 r9 (by omega) (by omega)
    by_cases c : 0 < w
    · rw [if_pos c, if_pos c]
      by_cases c1 : h2' 3 (40 * r + s + i) = h2' 4 (56 + k)
      · rw [if_pos c1, if_pos c1]
        exact go
      · rw [if_neg c1, if_neg c1]
        exact ⟨_, _, _, rfl, s1, rfl, r4, mf_trans F s2⟩
    · rw [if_neg c, if_neg c]
      by_cases c1 : h2' 3 (40 * r + s + i) = -1
      · rw [if_pos c1, if_pos c1]
        exact go
      · rw [if_neg c1, if_neg c1]
        exact ⟨_, _, _, rfl, s1, rfl, r4, mf_trans F s2⟩
theorem dew_one {f h : mj_I} {g : mj_L} {k l r s m : Nat} (hR : rel f h g) (hk : k < 5) (hm : nI k < h 4 50) (hg : h 4 (71 + k) = 0) (hl : l ≤ 12) (hr : r < 8) (hs : s + l ≤ m) (hm40 : m ≤ 40) (hrow : ∀ i, i < m → f (28 + 2 * r + 1) i = h 3 (40 * r + i)) :
    ∃ v f' h', g_X6_leavesDew (nI k) (28 + 2 * r) (nI s) (nI l) f = some (v, f') ∧ g_X7_isDew (nI k) (nI (40 * r + s)) (nI l) h = some (v, h') ∧ rel f' h' g ∧ h' 4 = h 4 ∧ (∀ b, b ≠ 22 → f' b = f b) ∧ h' 3 = h 3 := by
  have H := now_hs hR
  obtain ⟨b4, b5⟩ := H.2.2 k hk
  obtain ⟨f1, q1, q2, q3⟩ := cb_ok (b0 := 22) (b1 := 4 + 4 + k) (f := f) (by omega) b4 b5
  obtain ⟨h1, p1, p2, p3⟩ := aside_ok h
  obtain ⟨c0, c1, c2, c3', c4', c5'⟩ := H.1.2.2.2 k hm hk
  obtain ⟨t, ht, et⟩ := mj_in_ex hR.2.2.2.1.2.2.2.1 (by decide)
  have e4 : h1 4 = h 4 := p2 4 (by omega)
  have L : lo k f1 h1 := by
    unfold lo
    rw [e4, q2 5 (by omega), q2 6 (by omega), q2 4 (by omega), q3 0 (by omega), q3 1 (by omega), q3 2 (by omega), q3 3 (by omega), q3 5 (by omega)]
    exact ⟨H.2.1, ⟨hm, hg⟩, ⟨H.1.2.1, H.1.2.2.1, H.1.1.1, H.1.1.2.1⟩, c0, c1, c2, c3', c5'⟩
  obtain ⟨v, f2, h2, r1, r2, r3, r4, r5⟩ := dew_in hk (show t + l < 1099 by omega) hr hs hm40 mj_fuel 0 f1 h1 L (by rw [q2 4 (by omega), H.1.1.2.2.2.2.1]; exact et) (by rw [e4]; exact et) (fun i hi => by rw [q2 _ (by omega), p2 3 (by omega)]; exact hrow i hi) (by omega) (by rw [fuel_eq]; omega)
  have T : tb f h f2 h2 := ⟨fun b hb => by rw [r4 b (by omega), q2 b (by omega)], bool_c hR.2.2.2.2.2.2.2 (fun b hb => by rw [r4 b (by omega), q2 b (by omega)]), fun b hb => by rw [r5.1 b (by omega) (by omega), p2 b (by omega)], fun j hj => by rw [r5.2.1 j (by omega), p2 0 (by omega)], fun j hj => by rw [r5.1 9 (by omega) (by omega)]; exact p3 j hj, fun j hj => by rw [r5.2.2 j (by omega), e4]⟩
  obtain ⟨h3, s1, s2, s3, s4⟩ := tb_back hR T
  rw [show nI 0 = (0 : Int32) from rfl] at r1 r2
  refine ⟨v, f2, h3, ?_, ?_, s2, s3, fun b hb => by rw [r4 b hb, q2 b hb], by rw [s4 3 (by omega), r5.1 3 (by omega) (by omega), p2 3 (by omega)]⟩
  · unfold g_X6_leavesDew
    rw [if_pos (in5 hk).1, (in5 hk).2, q1, Option.bind_some, r1]
  · unfold g_X7_isDew
    rw [p1, Option.bind_some, r2, Option.bind_some, s1, Option.bind_some, if_pos r3]
theorem dew_out {g : mj_L} {l r s m mc : Nat} (hl : l ≤ 12) (hr : r < 8) (hs : s + l ≤ m) (hm40 : m ≤ 40) (hmc : mc ≤ 5) : ∀ n i f h x, rel f h g → h 4 50 = nI mc → (∀ i, i < m → f (28 + 2 * r + 1) i = h 3 (40 * r + i)) → i ≤ mc → mc < i + n →
    ∃ v f' h', g_X6_dew_64 n (nI r) (nI s) (nI l) x (nI i) f = some (v, f') ∧ g_X7_dew_55 n (nI r) (nI s) (nI l) x (nI i) h = some (v, h') ∧ rel f' h' g := by
  intro n
  induction n with
  | zero => intro i f h x _ _ _ h1 h2; omega
  | succ n ih =>
    intro i f h x hR hc hrow h1 h2
    have H := now_hs hR
    unfold g_X6_dew_64 g_X7_dew_55
    rw [H.1.1.2.2.2.1, hc]
    by_cases hi : i = mc
    · have : ¬ nI i < nI mc := nI_nlt (by omega) (by omega)
      rw [if_neg this, if_neg this]
      exact ⟨_, _, _, rfl, rfl, hR⟩
    have hlt : nI i < nI mc := nI_lt (by omega) (by omega)
    have h5 : i < 5 := by omega
    have kr : mj_in (nI r) 8 = true := mj_in_nI hr (by decide)
    have c4 := (H.1.2.2.2 i (by rw [hc]; exact hlt) h5).2.2.2.2.1
    have e40 : (40 : Int32) * nI r + nI s = nI (40 * r + s) := by
      rw [show (40 : Int32) = nI 40 from rfl, pk_mul, nI_add]
    rw [if_pos hlt, if_pos hlt, there_step h5, if_pos (in5 h5).1, (in5 h5).2, c4, Option.bind_some, if_pos kr, ix_nI (show r < 2 ^ 31 by omega), e40]
    simp only [mj_lt, or0, nI_1]
    by_cases hg : h 4 (71 + i) = 0
    · obtain ⟨v, f', h', q1, q2, q3, q4, q5, q6⟩ := dew_one hR h5 (by rw [hc]; exact hlt) hg hl hr hs hm40 hrow
      have hrow' : ∀ j, j < m → f' (28 + 2 * r + 1) j = h' 3 (40 * r + j) := fun j hj => by rw [q5 _ (by omega), q6]; exact hrow j hj
      rw [if_pos hg, if_pos hg, if_neg (show ¬ (1 : Int32) = 0 by decide), q1, q2, Option.bind_some, Option.bind_some]
      by_cases c : v = 0
      · rw [if_pos c, if_pos c]
        exact ih (i + 1) f' h' _ q3 (by rw [q4]; exact hc) hrow' (by omega) (by omega)
      · rw [if_neg c, if_neg c]
        exact ih (i + 1) f' h' _ q3 (by rw [q4]; exact hc) hrow' (by omega) (by omega)
    · rw [if_neg hg, if_neg hg, if_pos rfl]
      exact ih (i + 1) f h _ hR hc hrow (by omega) (by omega)
theorem sim_dew : ls_dew rel := by
  intro fX fM gM hR x1 x2 x3
  unfold g_X6_dew g_X7_dew g_X6_isRow g_X7_isRow
  rw [stands_eq hR, in_0_7, in_1_12]
  by_cases c0 : fM 0 4 = 0
  · rw [if_pos c0, if_pos c0]
    exact ⟨_, _, rfl, rfl, rfl, hR⟩
  rw [if_neg c0, if_neg c0]
  by_cases c3 : g_X6_within x1 0 7 = 0
  · rw [if_pos c3, if_pos c3]
    exact ⟨_, _, rfl, rfl, rfl, hR⟩
  rw [if_neg c3, if_neg c3]
  by_cases c5 : g_X6_within x3 1 12 = 0
  · rw [if_pos c5, if_pos c5]
    exact ⟨_, _, rfl, rfl, rfl, hR⟩
  rw [if_neg c5, if_neg c5]
  obtain ⟨r, hr, rfl⟩ := mj_in_ex (wi_7.mp c3) (by decide)
  obtain ⟨l, _, hl, rfl⟩ := wi_ex (a := 1) (b := 12) rfl rfl (by decide) c5
  have kr : mj_in (nI r) 8 = true := mj_in_nI hr (by decide)
  rw [if_pos kr, ix_nI (show r < 2 ^ 31 by omega)]
  simp only [mj_lt]
  rcases lack_both (x := x2) hR hr hl with ⟨v, hv, e1, e2⟩ | ⟨e1, e2, s, m, rfl, hs, hm40, hrow⟩
  · obtain ⟨n1, n2⟩ := find_neg (h := fM) hv
    rw [e1, e2, if_neg n2, Option.bind_some, if_pos n1]
    exact ⟨_, _, rfl, rfl, (find_both hR v).1, (find_both hR v).2⟩
  · rw [e1, e2, if_pos rfl, Option.bind_some, if_neg (show ¬ (0 : Int32) < 0 by decide)]
    obtain ⟨mc, hmc, emc⟩ := mj_in_ex (now_hs hR).2.1.1 (by decide)
    obtain ⟨v, f', h', q1, q2, q3⟩ := dew_out hl hr hs hm40 (show mc ≤ 5 by omega) mj_fuel 0 fX fM 0 hR emc hrow (by omega) (by rw [fuel_eq]; omega)
    rw [show nI 0 = (0 : Int32) from rfl] at q1 q2
    rw [q1, q2, Option.bind_some, Option.bind_some]
    exact ⟨_, _, rfl, rfl, rfl, as_both q3 v⟩
