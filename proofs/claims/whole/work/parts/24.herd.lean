/-! a HERD in both memories: single steps -/
theorem pt {f : mj_I} {s : Nat → Int32} {b0 j0 q0 b j q : Nat} {v : Int32} (e : f b j = s q) (hi : (b = b0 ∧ j = j0) ↔ q = q0) : mj_wr f b0 j0 v b j = upd s q0 v q := by
  unfold mj_wr upd
  by_cases h : q = q0
  · rw [if_pos h, if_pos (hi.mpr h)]
  · rw [if_neg h, if_neg (fun z => h (hi.mp z))]
    exact e
theorem pt0 {f : mj_I} {s : Nat → Int32} {b0 j0 b j q : Nat} {v : Int32} (e : f b j = s q) (hi : ¬ (b = b0 ∧ j = j0)) : mj_wr f b0 j0 v b j = s q := by
  unfold mj_wr
  rw [if_neg hi]
  exact e
theorem ptv {s : Nat → Int32} {q0 q n : Nat} {v : Int32} (e : mj_in (s q) n = true) (hv : q = q0 → mj_in v n = true) : mj_in (upd s q0 v q) n = true := by
  unfold upd
  by_cases h : q = q0
  · rw [if_pos h]; exact hv h
  · rw [if_neg h]; exact e
theorem upd_ne {s : Nat → Int32} {q0 q : Nat} {v : Int32} (h : q ≠ q0) : upd s q0 v q = s q := by
  unfold upd; rw [if_neg h]
theorem upd_eq {s : Nat → Int32} {q0 : Nat} {v : Int32} : upd s q0 v q0 = v := by
  unfold upd; rw [if_pos rfl]
theorem hr_cell {f : mj_I} {a : Nat} {s : Nat → Int32} {k : Nat} (hk : k < 5) (h : rl_hr f a s) (v : Int32) : rl_hr (mj_wr f (a + 4 + k) 1 v) a (upd s (56 + k) v) := by
  obtain ⟨⟨g0, g1, g2, g3, g4, g5, g6⟩, h2, h3, h4⟩ := h
  refine ⟨⟨pt g0 (by omega), pt g1 (by omega), pt g2 (by omega), pt g3 (by omega), pt g4 (by omega), pt g5 (by omega), pt g6 (by omega)⟩, fun j hj => pt (h2 j hj) (by omega), fun j hj => pt (h3 j hj) (by omega), fun i h5 h6 => ?_⟩
  rw [upd_ne (by omega)] at h5
  obtain ⟨c0, c1, c2, c3, c4, c5⟩ := h4 i h5 h6
  exact ⟨pt c0 (by omega), pt c1 (by omega), pt c2 (by omega), pt c3 (by omega), pt c4 (by omega), pt c5 (by omega)⟩
theorem hr_height {f : mj_I} {a : Nat} {s : Nat → Int32} {k : Nat} (hk : k < 5) (h : rl_hr f a s) (v : Int32) : rl_hr (mj_wr f (a + 4 + k) 2 v) a (upd s (61 + k) v) := by
  obtain ⟨⟨g0, g1, g2, g3, g4, g5, g6⟩, h2, h3, h4⟩ := h
  refine ⟨⟨pt g0 (by omega), pt g1 (by omega), pt g2 (by omega), pt g3 (by omega), pt g4 (by omega), pt g5 (by omega), pt g6 (by omega)⟩, fun j hj => pt (h2 j hj) (by omega), fun j hj => pt (h3 j hj) (by omega), fun i h5 h6 => ?_⟩
  rw [upd_ne (by omega)] at h5
  obtain ⟨c0, c1, c2, c3, c4, c5⟩ := h4 i h5 h6
  exact ⟨pt c0 (by omega), pt c1 (by omega), pt c2 (by omega), pt c3 (by omega), pt c4 (by omega), pt c5 (by omega)⟩
theorem hr_water {f : mj_I} {a : Nat} {s : Nat → Int32} {k : Nat} (hk : k < 5) (h : rl_hr f a s) (v : Int32) : rl_hr (mj_wr f (a + 4 + k) 3 v) a (upd s (66 + k) v) := by
  obtain ⟨⟨g0, g1, g2, g3, g4, g5, g6⟩, h2, h3, h4⟩ := h
  refine ⟨⟨pt g0 (by omega), pt g1 (by omega), pt g2 (by omega), pt g3 (by omega), pt g4 (by omega), pt g5 (by omega), pt g6 (by omega)⟩, fun j hj => pt (h2 j hj) (by omega), fun j hj => pt (h3 j hj) (by omega), fun i h5 h6 => ?_⟩
  rw [upd_ne (by omega)] at h5
  obtain ⟨c0, c1, c2, c3, c4, c5⟩ := h4 i h5 h6
  exact ⟨pt c0 (by omega), pt c1 (by omega), pt c2 (by omega), pt c3 (by omega), pt c4 (by omega), pt c5 (by omega)⟩
theorem hr_gone {f : mj_I} {a : Nat} {s : Nat → Int32} {k : Nat} (hk : k < 5) (h : rl_hr f a s) (v : Int32) : rl_hr (mj_wr f (a + 4 + k) 4 v) a (upd s (71 + k) v) := by
  obtain ⟨⟨g0, g1, g2, g3, g4, g5, g6⟩, h2, h3, h4⟩ := h
  refine ⟨⟨pt g0 (by omega), pt g1 (by omega), pt g2 (by omega), pt g3 (by omega), pt g4 (by omega), pt g5 (by omega), pt g6 (by omega)⟩, fun j hj => pt (h2 j hj) (by omega), fun j hj => pt (h3 j hj) (by omega), fun i h5 h6 => ?_⟩
  rw [upd_ne (by omega)] at h5
  obtain ⟨c0, c1, c2, c3, c4, c5⟩ := h4 i h5 h6
  exact ⟨pt c0 (by omega), pt c1 (by omega), pt c2 (by omega), pt c3 (by omega), pt c4 (by omega), pt c5 (by omega)⟩
theorem hr_told {f : mj_I} {a : Nat} {s : Nat → Int32} {k : Nat} (hk : k < 5) (h : rl_hr f a s) (v : Int32) : rl_hr (mj_wr f (a + 4 + k) 5 v) a (upd s (76 + k) v) := by
  obtain ⟨⟨g0, g1, g2, g3, g4, g5, g6⟩, h2, h3, h4⟩ := h
  refine ⟨⟨pt g0 (by omega), pt g1 (by omega), pt g2 (by omega), pt g3 (by omega), pt g4 (by omega), pt g5 (by omega), pt g6 (by omega)⟩, fun j hj => pt (h2 j hj) (by omega), fun j hj => pt (h3 j hj) (by omega), fun i h5 h6 => ?_⟩
  rw [upd_ne (by omega)] at h5
  obtain ⟨c0, c1, c2, c3, c4, c5⟩ := h4 i h5 h6
  exact ⟨pt c0 (by omega), pt c1 (by omega), pt c2 (by omega), pt c3 (by omega), pt c4 (by omega), pt c5 (by omega)⟩
theorem hr_hour {f : mj_I} {a : Nat} {s : Nat → Int32} (h : rl_hr f a s) (v : Int32) : rl_hr (mj_wr f a 5 v) a (upd s 46 v) := by
  obtain ⟨⟨g0, g1, g2, g3, g4, g5, g6⟩, h2, h3, h4⟩ := h
  refine ⟨⟨pt g0 (by omega), pt g1 (by omega), pt g2 (by omega), pt g3 (by omega), pt g4 (by omega), pt g5 (by omega), pt g6 (by omega)⟩, fun j hj => pt (h2 j hj) (by omega), fun j hj => pt (h3 j hj) (by omega), fun i h5 h6 => ?_⟩
  rw [upd_ne (by omega)] at h5
  obtain ⟨c0, c1, c2, c3, c4, c5⟩ := h4 i h5 h6
  exact ⟨pt c0 (by omega), pt c1 (by omega), pt c2 (by omega), pt c3 (by omega), pt c4 (by omega), pt c5 (by omega)⟩
theorem hr_earned {f : mj_I} {a : Nat} {s : Nat → Int32} (h : rl_hr f a s) (v : Int32) : rl_hr (mj_wr f a 6 v) a (upd s 47 v) := by
  obtain ⟨⟨g0, g1, g2, g3, g4, g5, g6⟩, h2, h3, h4⟩ := h
  refine ⟨⟨pt g0 (by omega), pt g1 (by omega), pt g2 (by omega), pt g3 (by omega), pt g4 (by omega), pt g5 (by omega), pt g6 (by omega)⟩, fun j hj => pt (h2 j hj) (by omega), fun j hj => pt (h3 j hj) (by omega), fun i h5 h6 => ?_⟩
  rw [upd_ne (by omega)] at h5
  obtain ⟨c0, c1, c2, c3, c4, c5⟩ := h4 i h5 h6
  exact ⟨pt c0 (by omega), pt c1 (by omega), pt c2 (by omega), pt c3 (by omega), pt c4 (by omega), pt c5 (by omega)⟩
theorem hr_milk {f : mj_I} {a : Nat} {s : Nat → Int32} (h : rl_hr f a s) (v : Int32) : rl_hr (mj_wr f a 7 v) a (upd s 48 v) := by
  obtain ⟨⟨g0, g1, g2, g3, g4, g5, g6⟩, h2, h3, h4⟩ := h
  refine ⟨⟨pt g0 (by omega), pt g1 (by omega), pt g2 (by omega), pt g3 (by omega), pt g4 (by omega), pt g5 (by omega), pt g6 (by omega)⟩, fun j hj => pt (h2 j hj) (by omega), fun j hj => pt (h3 j hj) (by omega), fun i h5 h6 => ?_⟩
  rw [upd_ne (by omega)] at h5
  obtain ⟨c0, c1, c2, c3, c4, c5⟩ := h4 i h5 h6
  exact ⟨pt c0 (by omega), pt c1 (by omega), pt c2 (by omega), pt c3 (by omega), pt c4 (by omega), pt c5 (by omega)⟩
theorem hr_fallen {f : mj_I} {a : Nat} {s : Nat → Int32} {k : Nat} (hk : k < 5) (h : rl_hr f a s) (v : Int32) : rl_hr (mj_wr f (a + 4 + k) 6 v) a s := by
  obtain ⟨⟨g0, g1, g2, g3, g4, g5, g6⟩, h2, h3, h4⟩ := h
  refine ⟨⟨pt0 g0 (by omega), pt0 g1 (by omega), pt0 g2 (by omega), pt0 g3 (by omega), pt0 g4 (by omega), pt0 g5 (by omega), pt0 g6 (by omega)⟩, fun j hj => pt0 (h2 j hj) (by omega), fun j hj => pt0 (h3 j hj) (by omega), fun i h5 h6 => ?_⟩
  obtain ⟨c0, c1, c2, c3, c4, c5⟩ := h4 i h5 h6
  exact ⟨pt0 c0 (by omega), pt0 c1 (by omega), pt0 c2 (by omega), pt0 c3 (by omega), pt0 c4 (by omega), pt0 c5 (by omega)⟩
theorem hr_run {f : mj_I} {a : Nat} {s : Nat → Int32} (h : rl_hr f a s) (v : Int32) : rl_hr (mj_wr f a 11 v) a s := by
  obtain ⟨⟨g0, g1, g2, g3, g4, g5, g6⟩, h2, h3, h4⟩ := h
  refine ⟨⟨pt0 g0 (by omega), pt0 g1 (by omega), pt0 g2 (by omega), pt0 g3 (by omega), pt0 g4 (by omega), pt0 g5 (by omega), pt0 g6 (by omega)⟩, fun j hj => pt0 (h2 j hj) (by omega), fun j hj => pt0 (h3 j hj) (by omega), fun i h5 h6 => ?_⟩
  obtain ⟨c0, c1, c2, c3, c4, c5⟩ := h4 i h5 h6
  exact ⟨pt0 c0 (by omega), pt0 c1 (by omega), pt0 c2 (by omega), pt0 c3 (by omega), pt0 c4 (by omega), pt0 c5 (by omega)⟩
theorem hr_hay {f : mj_I} {a : Nat} {s : Nat → Int32} (h : rl_hr f a s) (v : Int32) : rl_hr (mj_wr f a 12 v) a s := by
  obtain ⟨⟨g0, g1, g2, g3, g4, g5, g6⟩, h2, h3, h4⟩ := h
  refine ⟨⟨pt0 g0 (by omega), pt0 g1 (by omega), pt0 g2 (by omega), pt0 g3 (by omega), pt0 g4 (by omega), pt0 g5 (by omega), pt0 g6 (by omega)⟩, fun j hj => pt0 (h2 j hj) (by omega), fun j hj => pt0 (h3 j hj) (by omega), fun i h5 h6 => ?_⟩
  obtain ⟨c0, c1, c2, c3, c4, c5⟩ := h4 i h5 h6
  exact ⟨pt0 c0 (by omega), pt0 c1 (by omega), pt0 c2 (by omega), pt0 c3 (by omega), pt0 c4 (by omega), pt0 c5 (by omega)⟩
theorem hr_stands {f : mj_I} {a : Nat} {s : Nat → Int32} (h : rl_hr f a s) (v : Int32) : rl_hr (mj_wr f a 0 v) a s := by
  obtain ⟨⟨g0, g1, g2, g3, g4, g5, g6⟩, h2, h3, h4⟩ := h
  refine ⟨⟨pt0 g0 (by omega), pt0 g1 (by omega), pt0 g2 (by omega), pt0 g3 (by omega), pt0 g4 (by omega), pt0 g5 (by omega), pt0 g6 (by omega)⟩, fun j hj => pt0 (h2 j hj) (by omega), fun j hj => pt0 (h3 j hj) (by omega), fun i h5 h6 => ?_⟩
  obtain ⟨c0, c1, c2, c3, c4, c5⟩ := h4 i h5 h6
  exact ⟨pt0 c0 (by omega), pt0 c1 (by omega), pt0 c2 (by omega), pt0 c3 (by omega), pt0 c4 (by omega), pt0 c5 (by omega)⟩
theorem hv_cell {s : Nat → Int32} {k : Nat} (hk : k < 5) {N : Nat} (h : rl_hv N s) {v : Int32} (hv : mj_in v 32 = true) : rl_hv N (upd s (56 + k) v) := by
  obtain ⟨h1, h2, h3, h4, h5⟩ := h
  refine ⟨ptv h1 (fun z => by omega), ptv h2 (fun z => by first | omega | exact hv), fun j hj => ptv (h3 j hj) (fun z => by omega), fun j hj => ptv (h4 j hj) (fun z => by omega), fun i h6 h7 => ?_⟩
  rw [upd_ne (by omega)] at h6
  obtain ⟨⟨c0, c0z⟩, c1, c2, c3, c4, c5, c6⟩ := h5 i h6 h7
  refine ⟨⟨ptv c0 (fun z => by omega), by rw [upd_ne (by omega)]; exact c0z⟩, ptv c1 (fun z => by first | omega | exact hv), ptv c2 (fun z => by first | omega | exact hv), ptv c3 (fun z => by first | omega | exact hv), ptv c4 (fun z => by first | omega | exact hv), ptv c5 (fun z => by first | omega | exact hv), ?_⟩
  rw [upd_ne (by omega), upd_ne (by omega)]; exact c6
theorem hv_height {s : Nat → Int32} {k : Nat} (hk : k < 5) {N : Nat} (h : rl_hv N s) {v : Int32} (hv : mj_in v 2 = true) : rl_hv N (upd s (61 + k) v) := by
  obtain ⟨h1, h2, h3, h4, h5⟩ := h
  refine ⟨ptv h1 (fun z => by omega), ptv h2 (fun z => by first | omega | exact hv), fun j hj => ptv (h3 j hj) (fun z => by omega), fun j hj => ptv (h4 j hj) (fun z => by omega), fun i h6 h7 => ?_⟩
  rw [upd_ne (by omega)] at h6
  obtain ⟨⟨c0, c0z⟩, c1, c2, c3, c4, c5, c6⟩ := h5 i h6 h7
  refine ⟨⟨ptv c0 (fun z => by omega), by rw [upd_ne (by omega)]; exact c0z⟩, ptv c1 (fun z => by first | omega | exact hv), ptv c2 (fun z => by first | omega | exact hv), ptv c3 (fun z => by first | omega | exact hv), ptv c4 (fun z => by first | omega | exact hv), ptv c5 (fun z => by first | omega | exact hv), ?_⟩
  rw [upd_ne (by omega), upd_ne (by omega)]; exact c6
theorem hv_water {s : Nat → Int32} {k : Nat} (hk : k < 5) {N : Nat} (h : rl_hv N s) {v : Int32} (hv : mj_in v 41 = true) (hg : s (71 + k) ≠ 0 → v = 0) : rl_hv N (upd s (66 + k) v) := by
  obtain ⟨h1, h2, h3, h4, h5⟩ := h
  refine ⟨ptv h1 (fun z => by omega), ptv h2 (fun z => by first | omega | exact hv), fun j hj => ptv (h3 j hj) (fun z => by omega), fun j hj => ptv (h4 j hj) (fun z => by omega), fun i h6 h7 => ?_⟩
  rw [upd_ne (by omega)] at h6
  obtain ⟨⟨c0, c0z⟩, c1, c2, c3, c4, c5, c6⟩ := h5 i h6 h7
  refine ⟨⟨ptv c0 (fun z => by omega), by rw [upd_ne (by omega)]; exact c0z⟩, ptv c1 (fun z => by first | omega | exact hv), ptv c2 (fun z => by first | omega | exact hv), ptv c3 (fun z => by first | omega | exact hv), ptv c4 (fun z => by first | omega | exact hv), ptv c5 (fun z => by first | omega | exact hv), ?_⟩
  rw [upd_ne (by omega)]
  by_cases e : i = k
  · subst e; rw [upd_eq]; exact hg
  · rw [upd_ne (by omega)]; exact c6
theorem hv_gone {s : Nat → Int32} {k : Nat} (hk : k < 5) {N : Nat} (h : rl_hv N s) {v : Int32} (hv : mj_in v 2 = true) (hg : v ≠ 0 → s (66 + k) = 0) : rl_hv N (upd s (71 + k) v) := by
  obtain ⟨h1, h2, h3, h4, h5⟩ := h
  refine ⟨ptv h1 (fun z => by omega), ptv h2 (fun z => by first | omega | exact hv), fun j hj => ptv (h3 j hj) (fun z => by omega), fun j hj => ptv (h4 j hj) (fun z => by omega), fun i h6 h7 => ?_⟩
  rw [upd_ne (by omega)] at h6
  obtain ⟨⟨c0, c0z⟩, c1, c2, c3, c4, c5, c6⟩ := h5 i h6 h7
  refine ⟨⟨ptv c0 (fun z => by omega), by rw [upd_ne (by omega)]; exact c0z⟩, ptv c1 (fun z => by first | omega | exact hv), ptv c2 (fun z => by first | omega | exact hv), ptv c3 (fun z => by first | omega | exact hv), ptv c4 (fun z => by first | omega | exact hv), ptv c5 (fun z => by first | omega | exact hv), ?_⟩
  rw [upd_ne (q := 66 + i) (by omega)]
  by_cases e : i = k
  · subst e; rw [upd_eq]; exact hg
  · rw [upd_ne (by omega)]; exact c6
theorem hv_told {s : Nat → Int32} {k : Nat} (hk : k < 5) {N : Nat} (h : rl_hv N s) {v : Int32} (hv : mj_in v 2 = true) : rl_hv N (upd s (76 + k) v) := by
  obtain ⟨h1, h2, h3, h4, h5⟩ := h
  refine ⟨ptv h1 (fun z => by omega), ptv h2 (fun z => by first | omega | exact hv), fun j hj => ptv (h3 j hj) (fun z => by omega), fun j hj => ptv (h4 j hj) (fun z => by omega), fun i h6 h7 => ?_⟩
  rw [upd_ne (by omega)] at h6
  obtain ⟨⟨c0, c0z⟩, c1, c2, c3, c4, c5, c6⟩ := h5 i h6 h7
  refine ⟨⟨ptv c0 (fun z => by omega), by rw [upd_ne (by omega)]; exact c0z⟩, ptv c1 (fun z => by first | omega | exact hv), ptv c2 (fun z => by first | omega | exact hv), ptv c3 (fun z => by first | omega | exact hv), ptv c4 (fun z => by first | omega | exact hv), ptv c5 (fun z => by first | omega | exact hv), ?_⟩
  rw [upd_ne (by omega), upd_ne (by omega)]; exact c6
theorem hv_hour {s : Nat → Int32} {N : Nat} (h : rl_hv N s) {v : Int32} (hv : mj_in v N = true) : rl_hv N (upd s 46 v) := by
  obtain ⟨h1, h2, h3, h4, h5⟩ := h
  refine ⟨ptv h1 (fun z => by omega), ptv h2 (fun z => by first | omega | exact hv), fun j hj => ptv (h3 j hj) (fun z => by omega), fun j hj => ptv (h4 j hj) (fun z => by omega), fun i h6 h7 => ?_⟩
  rw [upd_ne (by omega)] at h6
  obtain ⟨⟨c0, c0z⟩, c1, c2, c3, c4, c5, c6⟩ := h5 i h6 h7
  refine ⟨⟨ptv c0 (fun z => by omega), by rw [upd_ne (by omega)]; exact c0z⟩, ptv c1 (fun z => by first | omega | exact hv), ptv c2 (fun z => by first | omega | exact hv), ptv c3 (fun z => by first | omega | exact hv), ptv c4 (fun z => by first | omega | exact hv), ptv c5 (fun z => by first | omega | exact hv), ?_⟩
  rw [upd_ne (by omega), upd_ne (by omega)]; exact c6
theorem hv_earned {s : Nat → Int32} {N : Nat} (h : rl_hv N s) {v : Int32} : rl_hv N (upd s 47 v) := by
  obtain ⟨h1, h2, h3, h4, h5⟩ := h
  refine ⟨ptv h1 (fun z => by omega), ptv h2 (fun z => by first | omega | exact hv), fun j hj => ptv (h3 j hj) (fun z => by omega), fun j hj => ptv (h4 j hj) (fun z => by omega), fun i h6 h7 => ?_⟩
  rw [upd_ne (by omega)] at h6
  obtain ⟨⟨c0, c0z⟩, c1, c2, c3, c4, c5, c6⟩ := h5 i h6 h7
  refine ⟨⟨ptv c0 (fun z => by omega), by rw [upd_ne (by omega)]; exact c0z⟩, ptv c1 (fun z => by first | omega | exact hv), ptv c2 (fun z => by first | omega | exact hv), ptv c3 (fun z => by first | omega | exact hv), ptv c4 (fun z => by first | omega | exact hv), ptv c5 (fun z => by first | omega | exact hv), ?_⟩
  rw [upd_ne (by omega), upd_ne (by omega)]; exact c6
theorem hv_milk {s : Nat → Int32} {N : Nat} (h : rl_hv N s) {v : Int32} : rl_hv N (upd s 48 v) := by
  obtain ⟨h1, h2, h3, h4, h5⟩ := h
  refine ⟨ptv h1 (fun z => by omega), ptv h2 (fun z => by first | omega | exact hv), fun j hj => ptv (h3 j hj) (fun z => by omega), fun j hj => ptv (h4 j hj) (fun z => by omega), fun i h6 h7 => ?_⟩
  rw [upd_ne (by omega)] at h6
  obtain ⟨⟨c0, c0z⟩, c1, c2, c3, c4, c5, c6⟩ := h5 i h6 h7
  refine ⟨⟨ptv c0 (fun z => by omega), by rw [upd_ne (by omega)]; exact c0z⟩, ptv c1 (fun z => by first | omega | exact hv), ptv c2 (fun z => by first | omega | exact hv), ptv c3 (fun z => by first | omega | exact hv), ptv c4 (fun z => by first | omega | exact hv), ptv c5 (fun z => by first | omega | exact hv), ?_⟩
  rw [upd_ne (by omega), upd_ne (by omega)]; exact c6
