abbrev ix (i : Int32) : Nat := i.toNatClampNeg
def mj_fuel : Nat := 4000
def mj_lt {α β : Type} (v : α) (k : α → β) : β := k v
theorem mj_lt_el {α β : Type} {v w : α} {k : α → β} {o : β} (h : w = v) (hg : mj_lt v k = o) : k w = o := by
  subst h; exact hg
theorem mj_lte {α β : Type} {v : α} {k : α → β} {o : β} (hg : mj_lt v k = o) : ∃ w, v = w ∧ k w = o := ⟨v, rfl, hg⟩
def mj_nz (y : Int32) : Bool := !(decide (y = 0))
def mj_nzl (y : Int64) : Bool := !(decide (y = 0))
theorem mj_nz_ne {y : Int32} (h : mj_nz y = true) : ¬ y = 0 := by
  unfold mj_nz at h
  simpa using h
theorem mj_nzl_ne {y : Int64} (h : mj_nzl y = true) : ¬ y = 0 := by
  unfold mj_nzl at h
  simpa using h
theorem ev_nmf {J : mj_J} {pc : Nat} {loc : List (Option Value)} {st : List Value} {S : mj_S} {f : mj_I} {g : mj_L} {post : Option Value → mj_I → mj_L → Prop} (k : ∀ f1 : mj_I, f1 = f → mj_Ev J pc loc st S f1 g post) : mj_Ev J pc loc st S f g post := k f rfl
theorem ev_nmg {J : mj_J} {pc : Nat} {loc : List (Option Value)} {st : List Value} {S : mj_S} {f : mj_I} {g : mj_L} {post : Option Value → mj_I → mj_L → Prop} (k : ∀ g1 : mj_L, g1 = g → mj_Ev J pc loc st S f g1 post) : mj_Ev J pc loc st S f g post := k g rfl
theorem ev_nmi {J : mj_J} {pc : Nat} {loc : List (Option Value)} {st : List Value} {S : mj_S} {f : mj_I} {g : mj_L} {post : Option Value → mj_I → mj_L → Prop} {x : Int32} (k : ∀ y : Int32, y = x → mj_Ev J pc loc (.int y :: st) S f g post) : mj_Ev J pc loc (.int x :: st) S f g post := k x rfl
theorem ev_nml {J : mj_J} {pc : Nat} {loc : List (Option Value)} {st : List Value} {S : mj_S} {f : mj_I} {g : mj_L} {post : Option Value → mj_I → mj_L → Prop} {x : Int64} (k : ∀ y : Int64, y = x → mj_Ev J pc loc (.long y :: st) S f g post) : mj_Ev J pc loc (.long x :: st) S f g post := k x rfl
def mj_le2 : List (Option Value) → List (Option Value) → Prop
  | [], _ => True
  | none :: t, _ :: u => mj_le2 t u
  | some a :: t, some b :: u => a = b ∧ mj_le2 t u
  | _, _ => False
theorem mj_le2_get : ∀ (t u : List (Option Value)), mj_le2 t u → ∀ (i : Nat) (v : Value), t[i]? = some (some v) → u[i]? = some (some v)
  | [], _, _, i, v, h => by simp at h
  | none :: t, b :: u, hl, i, v, h => by
    cases i with
    | zero => simp at h
    | succ i =>
      rw [List.getElem?_cons_succ] at h ⊢
      exact mj_le2_get t u hl i v h
  | none :: t, [], hl, i, v, h => hl.elim
  | some a :: t, [], hl, i, v, h => hl.elim
  | some a :: t, none :: u, hl, i, v, h => hl.elim
  | some a :: t, some b :: u, hl, i, v, h => by
    obtain ⟨h1, h2⟩ := hl
    subst h1
    cases i with
    | zero => exact h
    | succ i =>
      rw [List.getElem?_cons_succ] at h ⊢
      exact mj_le2_get t u h2 i v h

theorem ev_wk {J : mj_J} {pc : Nat} {loc : List (Option Value)} {st : List Value} {S : mj_S} {f : mj_I} {g : mj_L} {post : Option Value → mj_I → mj_L → Prop} {loc' : List (Option Value)} (h : mj_le2 loc' loc) (k : mj_Ev J pc loc' st S f g post) : mj_Ev J pc loc st S f g post := by
  intro p l e s m args below meth c D cA sp ad A cells slots R Q hC hR hk0 H locs ls hP hD hS hl
  exact k p l e s m args below meth c D cA sp ad A cells slots R Q hC hR hk0 H locs ls hP hD hS ⟨hl.1, hl.2.1, fun i v hi => hl.2.2 i v (mj_le2_get _ _ h i v hi)⟩
theorem ev_ialdk {J : mj_J} {pc q : Nat} {loc : List (Option Value)} {st : List Value} {S : mj_S} {f : mj_I} {g : mj_L} {post : Option Value → mj_I → mj_L → Prop} {a n k : Nat} {i : Int32} {rs : List (Option Nat)} (hs : S[a]? = some (.inr (0, n, rs))) (hin : mj_in i n = true) (hk : i.toNatClampNeg = k) (hd : decode (mj_cc J) pc = .ok (.iaload, 1)) (hq : pc + 1 = q) (kk : mj_Ev J q loc (.int (f a k) :: st) S f g post) : mj_Ev J pc loc (.int i :: .ref a :: st) S f g post := by
  subst hk
  exact ev_iald hs hin hd hq kk
theorem ev_zaldk {J : mj_J} {pc q : Nat} {loc : List (Option Value)} {st : List Value} {S : mj_S} {f : mj_I} {g : mj_L} {post : Option Value → mj_I → mj_L → Prop} {a n k : Nat} {i : Int32} {rs : List (Option Nat)} (hs : S[a]? = some (.inr (1, n, rs))) (hin : mj_in i n = true) (hk : i.toNatClampNeg = k) (hd : decode (mj_cc J) pc = .ok (.baload, 1)) (hq : pc + 1 = q) (kk : mj_Ev J q loc (.int (f a k) :: st) S f g post) : mj_Ev J pc loc (.int i :: .ref a :: st) S f g post := by
  subst hk
  exact ev_zald hs hin hd hq kk
theorem ev_iastk {J : mj_J} {pc q : Nat} {loc : List (Option Value)} {st : List Value} {S : mj_S} {f : mj_I} {g : mj_L} {post : Option Value → mj_I → mj_L → Prop} {a n k : Nat} {i x : Int32} {rs : List (Option Nat)} (hs : S[a]? = some (.inr (0, n, rs))) (hin : mj_in i n = true) (hk : i.toNatClampNeg = k) (hd : decode (mj_cc J) pc = .ok (.iastore, 1)) (hq : pc + 1 = q) (kk : mj_Ev J q loc st S (mj_wr f a k x) g post) : mj_Ev J pc loc (.int x :: .int i :: .ref a :: st) S f g post := by
  subst hk
  exact ev_iast hs hin hd hq kk
theorem ev_zastk {J : mj_J} {pc q : Nat} {loc : List (Option Value)} {st : List Value} {S : mj_S} {f : mj_I} {g : mj_L} {post : Option Value → mj_I → mj_L → Prop} {a n k : Nat} {i x : Int32} {rs : List (Option Nat)} (hs : S[a]? = some (.inr (1, n, rs))) (hin : mj_in i n = true) (hk : i.toNatClampNeg = k) (hbx : mj_b x = true) (hd : decode (mj_cc J) pc = .ok (.bastore, 1)) (hq : pc + 1 = q) (kk : mj_Ev J q loc st S (mj_wr f a k x) g post) : mj_Ev J pc loc (.int x :: .int i :: .ref a :: st) S f g post := by
  subst hk
  exact ev_zast hs hin hbx hd hq kk
/-- the world of a CloudHerd, cell by cell -/
def mx_S : mj_S := [.inl (6, [some 1, some 2, some 4, some 13, some 22, some 23, some 24, some 26, none, none]), .inr (4, 8, [some 28, some 30, some 32, some 34, some 36, some 38, some 40, some 42]), .inl (4, [some 3, none, none, none, none, none, none]), .inr (0, 120, []), .inl (2, [none, none, none, none, none, none, none, none, some 5, some 6, some 7, none, none]), .inr (0, 12, []), .inr (0, 32, []), .inr (2, 5, [some 8, some 9, some 10, some 11, some 12]), .inl (1, [none, none, none, none, none, none, none]), .inl (1, [none, none, none, none, none, none, none]), .inl (1, [none, none, none, none, none, none, none]), .inl (1, [none, none, none, none, none, none, none]), .inl (1, [none, none, none, none, none, none, none]), .inl (2, [none, none, none, none, none, none, none, none, some 14, some 15, some 16, none, none]), .inr (0, 12, []), .inr (0, 32, []), .inr (2, 5, [some 17, some 18, some 19, some 20, some 21]), .inl (1, [none, none, none, none, none, none, none]), .inl (1, [none, none, none, none, none, none, none]), .inl (1, [none, none, none, none, none, none, none]), .inl (1, [none, none, none, none, none, none, none]), .inl (1, [none, none, none, none, none, none, none]), .inl (1, [none, none, none, none, none, none, none]), .inr (3, 2, [some 44, some 53]), .inl (0, [some 25, none, none]), .inr (0, 192, []), .inl (5, [some 27, none]), .inr (0, 16, []), .inl (3, [none, none, none, some 29]), .inr (0, 40, []), .inl (3, [none, none, none, some 31]), .inr (0, 40, []), .inl (3, [none, none, none, some 33]), .inr (0, 40, []), .inl (3, [none, none, none, some 35]), .inr (0, 40, []), .inl (3, [none, none, none, some 37]), .inr (0, 40, []), .inl (3, [none, none, none, some 39]), .inr (0, 40, []), .inl (3, [none, none, none, some 41]), .inr (0, 40, []), .inl (3, [none, none, none, some 43]), .inr (0, 40, []), .inl (2, [none, none, none, none, none, none, none, none, some 45, some 46, some 47, none, none]), .inr (0, 12, []), .inr (0, 32, []), .inr (2, 5, [some 48, some 49, some 50, some 51, some 52]), .inl (1, [none, none, none, none, none, none, none]), .inl (1, [none, none, none, none, none, none, none]), .inl (1, [none, none, none, none, none, none, none]), .inl (1, [none, none, none, none, none, none, none]), .inl (1, [none, none, none, none, none, none, none]), .inl (2, [none, none, none, none, none, none, none, none, some 54, some 55, some 56, none, none]), .inr (0, 12, []), .inr (0, 32, []), .inr (2, 5, [some 57, some 58, some 59, some 60, some 61]), .inl (1, [none, none, none, none, none, none, none]), .inl (1, [none, none, none, none, none, none, none]), .inl (1, [none, none, none, none, none, none, none]), .inl (1, [none, none, none, none, none, none, none]), .inl (1, [none, none, none, none, none, none, none])]
/-- the world of a CloudHerdModel -/
def my_S : mj_S := [.inl (7, [some 1, some 2, some 3, none, none, some 4, some 5, some 6, none, none, none, none, none, none, none, some 7, none, some 8, none, some 9, some 10, some 11, none, none, none, some 12, some 13, some 14, none]), .inr (0, 8, []), .inr (0, 8, []), .inr (0, 320, []), .inr (0, 82, []), .inr (0, 40, []), .inr (0, 120, []), .inr (0, 82, []), .inr (0, 1968, []), .inr (0, 82, []), .inr (1, 32, []), .inr (1, 32, []), .inr (1, 2, []), .inr (0, 164, []), .inr (0, 16, [])]
def mx_isH (a : Nat) : Prop := a = 4 ∨ a = 13 ∨ a = 44 ∨ a = 53
def mx_isC (c : Nat) : Prop := c = 22 ∨ ∃ a k, mx_isH a ∧ k < 5 ∧ c = a + 4 + k
def mx_isR (r : Nat) : Prop := ∃ k, k < 8 ∧ r = 28 + 2 * k
theorem mx_isH_4 : mx_isH 4 := Or.inl rfl
theorem mx_isH_13 : mx_isH 13 := Or.inr (Or.inl rfl)
theorem mx_isC_22 : mx_isC 22 := Or.inl rfl
def mx_hr (a : Nat) : List (Option Nat) := [none, none, none, none, none, none, none, none, some (a + 1), some (a + 2), some (a + 3), none, none]
def mx_cr (a : Nat) : List (Option Nat) := [some (a + 4), some (a + 5), some (a + 6), some (a + 7), some (a + 8)]
theorem mx_H {a : Nat} (h : mx_isH a) : mx_S[a]? = some (.inl (2, mx_hr a)) := by
  rcases h with rfl | rfl | rfl | rfl <;> rfl
theorem mx_HW {a : Nat} (h : mx_isH a) : mx_S[a + 1]? = some (.inr (0, 12, [])) := by
  rcases h with rfl | rfl | rfl | rfl <;> rfl
theorem mx_HP {a : Nat} (h : mx_isH a) : mx_S[a + 2]? = some (.inr (0, 32, [])) := by
  rcases h with rfl | rfl | rfl | rfl <;> rfl
theorem mx_HC {a : Nat} (h : mx_isH a) : mx_S[a + 3]? = some (.inr (2, 5, mx_cr a)) := by
  rcases h with rfl | rfl | rfl | rfl <;> rfl
theorem mx_C {c : Nat} (h : mx_isC c) : mx_S[c]? = some (.inl (1, [none, none, none, none, none, none, none])) := by
  rcases h with rfl | ⟨a, k, ha, hk, rfl⟩
  · rfl
  · rcases ha with rfl | rfl | rfl | rfl <;> rcases (show k = 0 ∨ k = 1 ∨ k = 2 ∨ k = 3 ∨ k = 4 by omega) with rfl | rfl | rfl | rfl | rfl <;> rfl
theorem mx_R {r : Nat} (h : mx_isR r) : mx_S[r]? = some (.inl (3, [none, none, none, some (r + 1)])) := by
  obtain ⟨k, hk, rfl⟩ := h
  rcases (show k = 0 ∨ k = 1 ∨ k = 2 ∨ k = 3 ∨ k = 4 ∨ k = 5 ∨ k = 6 ∨ k = 7 by omega) with rfl | rfl | rfl | rfl | rfl | rfl | rfl | rfl <;> rfl
theorem mx_RI {r : Nat} (h : mx_isR r) : mx_S[r + 1]? = some (.inr (0, 40, [])) := by
  obtain ⟨k, hk, rfl⟩ := h
  rcases (show k = 0 ∨ k = 1 ∨ k = 2 ∨ k = 3 ∨ k = 4 ∨ k = 5 ∨ k = 6 ∨ k = 7 by omega) with rfl | rfl | rfl | rfl | rfl | rfl | rfl | rfl <;> rfl
theorem mj_in_lt {i : Int32} {n : Nat} (h : mj_in i n = true) : ix i < n := by
  unfold mj_in at h
  simp only [Bool.and_eq_true, Bool.not_eq_true', decide_eq_false_iff_not, decide_eq_true_eq] at h
  exact h.2
theorem mx_cr_get {a : Nat} {i : Int32} (h : mj_in i 5 = true) : (mx_cr a).getD i.toNatClampNeg none = some (a + 4 + ix i) := by
  have := mj_in_lt h
  show (mx_cr a).getD (ix i) none = some (a + 4 + ix i)
  generalize ix i = k at this ⊢
  rcases (show k = 0 ∨ k = 1 ∨ k = 2 ∨ k = 3 ∨ k = 4 by omega) with rfl | rfl | rfl | rfl | rfl <;> rfl
theorem mx_isC_of {a : Nat} {i : Int32} (ha : mx_isH a) (h : mj_in i 5 = true) : mx_isC (a + 4 + ix i) := Or.inr ⟨a, ix i, ha, mj_in_lt h, rfl⟩
theorem mx_rr_get {i : Int32} (h : mj_in i 8 = true) : List.getD [some 28, some 30, some 32, some 34, some 36, some 38, some 40, some 42] i.toNatClampNeg none = some (28 + 2 * ix i) := by
  have := mj_in_lt h
  show List.getD [some 28, some 30, some 32, some 34, some 36, some 38, some 40, some 42] (ix i) none = some (28 + 2 * ix i)
  generalize ix i = k at this ⊢
  rcases (show k = 0 ∨ k = 1 ∨ k = 2 ∨ k = 3 ∨ k = 4 ∨ k = 5 ∨ k = 6 ∨ k = 7 by omega) with rfl | rfl | rfl | rfl | rfl | rfl | rfl | rfl <;> rfl
theorem mx_isR_of {i : Int32} (h : mj_in i 8 = true) : mx_isR (28 + 2 * ix i) := ⟨ix i, mj_in_lt h, rfl⟩
theorem mx_ir_get {i : Int32} (h : mj_in i 2 = true) : List.getD [some 44, some 53] i.toNatClampNeg none = some (44 + 9 * ix i) := by
  have := mj_in_lt h
  show List.getD [some 44, some 53] (ix i) none = some (44 + 9 * ix i)
  generalize ix i = k at this ⊢
  rcases (show k = 0 ∨ k = 1 by omega) with rfl | rfl <;> rfl
theorem mx_isH_of {i : Int32} (h : mj_in i 2 = true) : mx_isH (44 + 9 * ix i) := by
  have := mj_in_lt h
  generalize ix i = k at this ⊢
  rcases (show k = 0 ∨ k = 1 by omega) with rfl | rfl
  · exact Or.inr (Or.inr (Or.inl rfl))
  · exact Or.inr (Or.inr (Or.inr rfl))
theorem mcb_m3 : (Int8.ofInt (-3)).toInt32 = (-3 : Int32) := by decide
theorem mcb_m2 : (Int8.ofInt (-2)).toInt32 = (-2 : Int32) := by decide
theorem mcb_6 : (Int8.ofInt (6)).toInt32 = (6 : Int32) := by decide
theorem mcb_7 : (Int8.ofInt (7)).toInt32 = (7 : Int32) := by decide
theorem mcb_8 : (Int8.ofInt (8)).toInt32 = (8 : Int32) := by decide
theorem mcb_9 : (Int8.ofInt (9)).toInt32 = (9 : Int32) := by decide
theorem mcb_10 : (Int8.ofInt (10)).toInt32 = (10 : Int32) := by decide
theorem mcb_11 : (Int8.ofInt (11)).toInt32 = (11 : Int32) := by decide
theorem mcb_12 : (Int8.ofInt (12)).toInt32 = (12 : Int32) := by decide
theorem mcb_13 : (Int8.ofInt (13)).toInt32 = (13 : Int32) := by decide
theorem mcb_14 : (Int8.ofInt (14)).toInt32 = (14 : Int32) := by decide
theorem mcb_16 : (Int8.ofInt (16)).toInt32 = (16 : Int32) := by decide
theorem mcb_20 : (Int8.ofInt (20)).toInt32 = (20 : Int32) := by decide
theorem mcb_21 : (Int8.ofInt (21)).toInt32 = (21 : Int32) := by decide
theorem mcb_22 : (Int8.ofInt (22)).toInt32 = (22 : Int32) := by decide
theorem mcb_23 : (Int8.ofInt (23)).toInt32 = (23 : Int32) := by decide
theorem mcb_24 : (Int8.ofInt (24)).toInt32 = (24 : Int32) := by decide
theorem mcb_31 : (Int8.ofInt (31)).toInt32 = (31 : Int32) := by decide
theorem mcb_32 : (Int8.ofInt (32)).toInt32 = (32 : Int32) := by decide
theorem mcb_40 : (Int8.ofInt (40)).toInt32 = (40 : Int32) := by decide
theorem mcb_44 : (Int8.ofInt (44)).toInt32 = (44 : Int32) := by decide
theorem mcb_45 : (Int8.ofInt (45)).toInt32 = (45 : Int32) := by decide
theorem mcb_46 : (Int8.ofInt (46)).toInt32 = (46 : Int32) := by decide
theorem mcb_47 : (Int8.ofInt (47)).toInt32 = (47 : Int32) := by decide
theorem mcb_48 : (Int8.ofInt (48)).toInt32 = (48 : Int32) := by decide
theorem mcb_49 : (Int8.ofInt (49)).toInt32 = (49 : Int32) := by decide
theorem mcb_50 : (Int8.ofInt (50)).toInt32 = (50 : Int32) := by decide
theorem mcb_51 : (Int8.ofInt (51)).toInt32 = (51 : Int32) := by decide
theorem mcb_56 : (Int8.ofInt (56)).toInt32 = (56 : Int32) := by decide
theorem mcb_57 : (Int8.ofInt (57)).toInt32 = (57 : Int32) := by decide
theorem mcb_59 : (Int8.ofInt (59)).toInt32 = (59 : Int32) := by decide
theorem mcb_60 : (Int8.ofInt (60)).toInt32 = (60 : Int32) := by decide
theorem mcb_61 : (Int8.ofInt (61)).toInt32 = (61 : Int32) := by decide
theorem mcb_63 : (Int8.ofInt (63)).toInt32 = (63 : Int32) := by decide
theorem mcb_66 : (Int8.ofInt (66)).toInt32 = (66 : Int32) := by decide
theorem mcb_71 : (Int8.ofInt (71)).toInt32 = (71 : Int32) := by decide
theorem mcb_76 : (Int8.ofInt (76)).toInt32 = (76 : Int32) := by decide
theorem mcb_82 : (Int8.ofInt (82)).toInt32 = (82 : Int32) := by decide
theorem mcb_97 : (Int8.ofInt (97)).toInt32 = (97 : Int32) := by decide
theorem mcb_98 : (Int8.ofInt (98)).toInt32 = (98 : Int32) := by decide
theorem mcb_99 : (Int8.ofInt (99)).toInt32 = (99 : Int32) := by decide
theorem mcb_100 : (Int8.ofInt (100)).toInt32 = (100 : Int32) := by decide
theorem mcb_101 : (Int8.ofInt (101)).toInt32 = (101 : Int32) := by decide
theorem mcb_102 : (Int8.ofInt (102)).toInt32 = (102 : Int32) := by decide
theorem mcb_103 : (Int8.ofInt (103)).toInt32 = (103 : Int32) := by decide
theorem mcb_104 : (Int8.ofInt (104)).toInt32 = (104 : Int32) := by decide
theorem mcb_107 : (Int8.ofInt (107)).toInt32 = (107 : Int32) := by decide
theorem mcb_108 : (Int8.ofInt (108)).toInt32 = (108 : Int32) := by decide
theorem mcb_109 : (Int8.ofInt (109)).toInt32 = (109 : Int32) := by decide
theorem mcb_110 : (Int8.ofInt (110)).toInt32 = (110 : Int32) := by decide
theorem mcb_111 : (Int8.ofInt (111)).toInt32 = (111 : Int32) := by decide
theorem mcb_112 : (Int8.ofInt (112)).toInt32 = (112 : Int32) := by decide
theorem mcb_115 : (Int8.ofInt (115)).toInt32 = (115 : Int32) := by decide
theorem mcb_117 : (Int8.ofInt (117)).toInt32 = (117 : Int32) := by decide
theorem mcb_119 : (Int8.ofInt (119)).toInt32 = (119 : Int32) := by decide
theorem mcb_120 : (Int8.ofInt (120)).toInt32 = (120 : Int32) := by decide
theorem mcb_121 : (Int8.ofInt (121)).toInt32 = (121 : Int32) := by decide
theorem mcb_122 : (Int8.ofInt (122)).toInt32 = (122 : Int32) := by decide
theorem mci_m1 : Int32.ofInt (-1) = (-1 : Int32) := by decide
theorem mci_0 : Int32.ofInt (0) = (0 : Int32) := by decide
theorem mci_1 : Int32.ofInt (1) = (1 : Int32) := by decide
theorem mci_2 : Int32.ofInt (2) = (2 : Int32) := by decide
theorem mci_3 : Int32.ofInt (3) = (3 : Int32) := by decide
theorem mci_4 : Int32.ofInt (4) = (4 : Int32) := by decide
theorem mci_5 : Int32.ofInt (5) = (5 : Int32) := by decide
theorem mcl_0 : Int64.ofNat ((0 : Fin 2) : Nat) = (0 : Int64) := by decide
theorem mcl_1 : Int64.ofNat ((1 : Fin 2) : Nat) = (1 : Int64) := by decide
theorem mcs_255 : (Int16.ofInt (255)).toInt32 = (255 : Int32) := by decide
theorem mcs_999 : (Int16.ofInt (999)).toInt32 = (999 : Int32) := by decide
theorem mcs_1000 : (Int16.ofInt (1000)).toInt32 = (1000 : Int32) := by decide
theorem mcs_1886 : (Int16.ofInt (1886)).toInt32 = (1886 : Int32) := by decide
theorem mcx_44 : (44 : Int32).toNatClampNeg = 44 := by decide
theorem mcx_45 : (45 : Int32).toNatClampNeg = 45 := by decide
theorem mcx_46 : (46 : Int32).toNatClampNeg = 46 := by decide
theorem mcx_47 : (47 : Int32).toNatClampNeg = 47 := by decide
theorem mcx_48 : (48 : Int32).toNatClampNeg = 48 := by decide
theorem mcx_49 : (49 : Int32).toNatClampNeg = 49 := by decide
theorem mcx_50 : (50 : Int32).toNatClampNeg = 50 := by decide
theorem mcz_0 : mj_b (0 : Int32) = true := by decide
theorem mcz_1 : mj_b (1 : Int32) = true := by decide
