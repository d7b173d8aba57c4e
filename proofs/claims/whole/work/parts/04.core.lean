/-! THE SMALL MACHINE. A world of cells by number: shapes S (an object: its class and, slot by slot, the cell that a reference slot names; an array: kind 0 int, 1 boolean, 2 .. 4 of references, its length, its cells), ints f (cell, slot), longs g. A Value .ref i names cell i of the world, .retAddr k the static array number k. -/
abbrev mj_S : Type := List ((Nat × List (Option Nat)) ⊕ (Nat × Nat × List (Option Nat)))
abbrev mj_I : Type := Nat → Nat → Int32
abbrev mj_L : Type := Nat → Nat → Int64
def mj_wr (f : mj_I) (a k : Nat) (x : Int32) : mj_I := fun i j => if i = a ∧ j = k then x else f i j
def mj_wl (f : mj_L) (a k : Nat) (x : Int64) : mj_L := fun i j => if i = a ∧ j = k then x else f i j
/-- System.arraycopy between two int arrays -/
def mj_cp (f : mj_I) (a sp b dp n : Nat) : mj_I := fun i j => if i = b then va_cpy (f a) (f b) sp dp n j else f i j
/-- the kinds of the fields, class by class: 0 int, 1 boolean, 2 long, 3 a reference -/
def mj_fk : List (List Nat) := [[3, 0, 0], [0, 0, 0, 0, 1, 1, 0], [1, 0, 0, 0, 0, 0, 0, 0, 3, 3, 3, 0, 0], [1, 0, 0, 3], [3, 0, 0, 0, 0, 0, 0], [3, 0], [3, 3, 3, 3, 3, 3, 3, 3, 0, 0], [3, 3, 3, 0, 1, 3, 3, 3, 0, 0, 0, 0, 0, 0, 0, 3, 0, 3, 0, 3, 3, 3, 0, 2, 2, 3, 3, 3, 0]]
def mj_sv (ad : Nat → Nat) (kd : Nat) (r : Option Nat) (x : Int32) (y : Int64) : Value := match kd with
  | 2 => .long y
  | 3 => va_rf (r.map ad)
  | _ => .int x
def mj_fs (ad : Nat → Nat) (ci : Nat) (rs : List (Option Nat)) (f : Nat → Int32) (g : Nat → Int64) : List Value := (mj_fk.getD ci []).mapIdx (fun k kd => mj_sv ad kd (rs.getD k none) (f k) (g k))
def mj_a (ad : Nat → Nat) (kd n : Nat) (rs : List (Option Nat)) (f : Nat → Int32) : vp_A := match kd with
  | 0 => (n, .inl f)
  | 1 => (n, .inl f)
  | _ => (n, .inr (.inr (.inr (.inr (fun k => (rs.getD k none).map ad)))))
def mj_e (ad : Nat → Nat) (cA : Nat → ClassId) (c : (Nat × List (Option Nat)) ⊕ (Nat × Nat × List (Option Nat))) (f : Nat → Int32) (g : Nat → Int64) : va_E := match c with
  | .inl (ci, rs) => .inr (ci, mj_fs ad ci rs f g)
  | .inr (kd, n, rs) => .inl (cA kd, mj_a ad kd n rs f)
def mj_w (ad : Nat → Nat) (cA : Nat → ClassId) (S : mj_S) (f : mj_I) (g : mj_L) : va_W := S.mapIdx (fun i c => (ad i, mj_e ad cA c (f i) (g i)))
theorem mj_w_get {ad : Nat → Nat} {cA : Nat → ClassId} {S : mj_S} {f : mj_I} {g : mj_L} {i : Nat} : (mj_w ad cA S f g)[i]? = (S[i]?).map (fun c => (ad i, mj_e ad cA c (f i) (g i))) := by
  simp [mj_w, List.getElem?_mapIdx]
theorem mj_w_at {ad : Nat → Nat} {cA : Nat → ClassId} {S : mj_S} {f : mj_I} {g : mj_L} {i : Nat} {c : (Nat × List (Option Nat)) ⊕ (Nat × Nat × List (Option Nat))} (h : S[i]? = some c) : (mj_w ad cA S f g)[i]? = some (ad i, mj_e ad cA c (f i) (g i)) := by
  rw [mj_w_get, h]; rfl
theorem mj_wr_self (f : mj_I) (a k : Nat) (x : Int32) : mj_wr f a k x a = upd (f a) k x := by
  funext j
  simp [mj_wr, upd]
theorem mj_wr_ne (f : mj_I) {a i : Nat} (k : Nat) (x : Int32) (h : i ≠ a) : mj_wr f a k x i = f i := by
  funext j
  simp [mj_wr, h]
theorem mj_wl_self (f : mj_L) (a k : Nat) (x : Int64) : mj_wl f a k x a = vp_updL (f a) k x := by
  funext j
  simp [mj_wl, vp_updL]
theorem mj_wl_ne (f : mj_L) {a i : Nat} (k : Nat) (x : Int64) (h : i ≠ a) : mj_wl f a k x i = f i := by
  funext j
  simp [mj_wl, h]
/-- one cell is written -/
theorem mj_w_set {ad : Nat → Nat} {cA : Nat → ClassId} {S : mj_S} {f f' : mj_I} {g g' : mj_L} {a : Nat} {c : (Nat × List (Option Nat)) ⊕ (Nat × Nat × List (Option Nat))} (h : S[a]? = some c) (hf : ∀ i, i ≠ a → f' i = f i) (hg : ∀ i, i ≠ a → g' i = g i) : (mj_w ad cA S f g).set a (ad a, mj_e ad cA c (f' a) (g' a)) = mj_w ad cA S f' g' := by
  apply List.ext_getElem?
  intro i
  by_cases hi : i = a
  · subst hi
    have hl : i < (mj_w ad cA S f g).length := by
      have := mj_w_at (ad := ad) (cA := cA) (f := f) (g := g) h
      exact (List.getElem?_eq_some_iff.mp this).1
    rw [List.getElem?_set_self hl, mj_w_at h]
  · rw [List.getElem?_set_ne (Ne.symm hi), mj_w_get, mj_w_get, hf i hi, hg i hi]
theorem mj_fs_get {ad : Nat → Nat} {ci k kd : Nat} {rs : List (Option Nat)} {f : Nat → Int32} {g : Nat → Int64} (h : (mj_fk.getD ci [])[k]? = some kd) : (mj_fs ad ci rs f g)[k]? = some (mj_sv ad kd (rs.getD k none) (f k) (g k)) := by
  simp only [mj_fs, List.getElem?_mapIdx, h, Option.map_some]
theorem mj_fs_len {ad : Nat → Nat} {ci k kd : Nat} {rs : List (Option Nat)} {f : Nat → Int32} {g : Nat → Int64} (h : (mj_fk.getD ci [])[k]? = some kd) : k < (mj_fs ad ci rs f g).length := (List.getElem?_eq_some_iff.mp (mj_fs_get (ad := ad) (rs := rs) (f := f) (g := g) h)).1
theorem mj_fs_setI {ad : Nat → Nat} {ci k kd : Nat} {rs : List (Option Nat)} {f : Nat → Int32} {g : Nat → Int64} {x : Int32} (h : (mj_fk.getD ci [])[k]? = some kd) (h2 : kd ≠ 2) (h3 : kd ≠ 3) : (mj_fs ad ci rs f g).set k (.int x) = mj_fs ad ci rs (upd f k x) g := by
  apply List.ext_getElem?
  intro i
  by_cases hi : i = k
  · subst hi
    rw [List.getElem?_set_self (mj_fs_len h), mj_fs_get h]
    have : mj_sv ad kd (rs.getD i none) (upd f i x i) (g i) = .int x := by
      unfold mj_sv
      split
      · exact absurd rfl h2
      · exact absurd rfl h3
      · rw [pk_us]
    rw [this]
  · rw [List.getElem?_set_ne (Ne.symm hi)]
    simp only [mj_fs, List.getElem?_mapIdx, pk_un hi]
theorem mj_fs_setL {ad : Nat → Nat} {ci k : Nat} {rs : List (Option Nat)} {f : Nat → Int32} {g : Nat → Int64} {x : Int64} (h : (mj_fk.getD ci [])[k]? = some 2) : (mj_fs ad ci rs f g).set k (.long x) = mj_fs ad ci rs f (vp_updL g k x) := by
  apply List.ext_getElem?
  intro i
  by_cases hi : i = k
  · subst hi
    rw [List.getElem?_set_self (mj_fs_len h), mj_fs_get h]
    simp only [mj_sv, pk_uLs]
  · rw [List.getElem?_set_ne (Ne.symm hi)]
    simp only [mj_fs, List.getElem?_mapIdx, pk_uLn hi]
/-- which cell a Value names -/
def mj_tv (ad sp : Nat → Nat) : Value → Value
  | .ref i => .ref (ad i)
  | .retAddr k => .ref (sp k)
  | v => v
theorem mj_tv_cat (ad sp : Nat → Nat) (v : Value) : (mj_tv ad sp v).category = v.category := by cases v <;> rfl
theorem mj_tv_sum (ad sp : Nat → Nat) (st : List Value) : ((st.map (mj_tv ad sp)).map fun v => v.category).sum = (st.map fun v => v.category).sum := by
  induction st with
  | nil => rfl
  | cons v t ih => simp only [List.map_cons, List.sum_cons, mj_tv_cat, ih]
/-- locals -/
def mj_lv (ls : Array Slot) (nL : Nat) (tv : Value → Value) (loc : List (Option Value)) : Prop := ls.size = nL ∧ lv_wf ls ∧ ∀ (i : Nat) (v : Value), loc[i]? = some (some v) → ls[i]? = some (.val (tv v))
def mj_al (tv : Value → Value) (loc : List (Option Value)) : List (Nat × Value) := loc.zipIdx.filterMap (fun q => q.1.map (fun v => (q.2, tv v)))
theorem mj_al_mem {tv : Value → Value} {loc : List (Option Value)} {q : Nat × Value} : q ∈ mj_al tv loc ↔ ∃ v, loc[q.1]? = some (some v) ∧ q.2 = tv v := by
  unfold mj_al
  rw [List.mem_filterMap]
  constructor
  · rintro ⟨⟨o, i⟩, hm, ho⟩
    have := List.mk_mem_zipIdx_iff_getElem?.mp hm
    cases o with
    | none => cases ho
    | some v =>
      cases ho
      exact ⟨v, this, rfl⟩
  · rintro ⟨v, h1, h2⟩
    refine ⟨(some v, q.1), List.mk_mem_zipIdx_iff_getElem?.mpr h1, ?_⟩
    obtain ⟨i, w⟩ := q
    dsimp only at h2
    rw [h2]
    rfl
theorem mj_lv_has {ls : Array Slot} {nL : Nat} {tv : Value → Value} {loc : List (Option Value)} (h : mj_lv ls nL tv loc) : lv_has ls nL (mj_al tv loc) := by
  refine ⟨h.1, h.2.1, fun q hq => ?_⟩
  obtain ⟨v, h1, h2⟩ := mj_al_mem.mp hq
  rw [h2]
  exact h.2.2 _ _ h1
def mj_cutj (loc : List (Option Value)) (j : Nat) : List (Option Value) := match loc[j]? with
  | some (some (.long _)) => loc.set j none
  | some (some (.double _)) => loc.set j none
  | _ => loc
def mj_cut (loc : List (Option Value)) : Nat → List (Option Value)
  | 0 => loc
  | j + 1 => mj_cutj loc j
def mj_set (loc : List (Option Value)) (i : Nat) (v : Value) : List (Option Value) := (mj_cut loc i).set i (some v)
def mj_set2 (loc : List (Option Value)) (i : Nat) (v : Value) : List (Option Value) := ((mj_cut loc i).set i (some v)).set (i + 1) none
theorem mj_cut_get {loc : List (Option Value)} {i j : Nat} {v : Value} (h : (mj_cut loc i)[j]? = some (some v)) : loc[j]? = some (some v) ∧ ¬ (j + 1 = i ∧ v.category = 2) := by
  cases i with
  | zero => exact ⟨h, fun q => by omega⟩
  | succ n =>
    change (mj_cutj loc n)[j]? = some (some v) at h
    unfold mj_cutj at h
    have cutset : (loc.set n none)[j]? = some (some v) → loc[j]? = some (some v) ∧ ¬ (j + 1 = n + 1 ∧ v.category = 2) := by
      intro h
      by_cases hj : j = n
      · subst hj
        rw [List.getElem?_set] at h
        simp at h
      · rw [List.getElem?_set_ne (Ne.symm hj)] at h
        exact ⟨h, fun q => hj (by omega)⟩
    split at h
    · exact cutset h
    · exact cutset h
    · rename_i n1 n2
      refine ⟨h, fun q => ?_⟩
      obtain ⟨q1, q2⟩ := q
      have : j = n := by omega
      subst this
      cases v with
      | long x => exact n1 x h
      | double x => exact n2 x h
      | _ => exact absurd q2 (by simp [Value.category])
theorem mj_lv_set {ls : Array Slot} {nL : Nat} {ad sp : Nat → Nat} {loc : List (Option Value)} {i : Nat} {v : Value} (h : lv_has ls nL ((i, mj_tv ad sp v) :: (mj_al (mj_tv ad sp) loc).filter (fun q => !(q.1 == i) && !(q.1 + 1 == i && q.2.category == 2)))) : mj_lv ls nL (mj_tv ad sp) (mj_set loc i v) := by
  refine ⟨h.1, h.2.1, fun j w hj => ?_⟩
  unfold mj_set at hj
  by_cases hji : j = i
  · subst hji
    rw [List.getElem?_set] at hj
    simp only [if_true] at hj
    split at hj
    · cases hj
      exact h.2.2 (j, _) List.mem_cons_self
    · cases hj
  · rw [List.getElem?_set_ne (Ne.symm hji)] at hj
    obtain ⟨h1, h2⟩ := mj_cut_get hj
    refine h.2.2 (j, mj_tv ad sp w) (List.mem_cons_of_mem _ (List.mem_filter.mpr ⟨mj_al_mem.mpr ⟨w, h1, rfl⟩, ?_⟩))
    simp only [Bool.and_eq_true, Bool.not_eq_true', beq_eq_false_iff_ne, ne_eq, Bool.and_eq_false_iff]
    refine ⟨hji, ?_⟩
    rw [mj_tv_cat]
    by_cases hz : j + 1 = i
    · exact Or.inr (fun q => h2 ⟨hz, q⟩)
    · exact Or.inl hz
theorem mj_lv_set2 {ls : Array Slot} {nL : Nat} {ad sp : Nat → Nat} {loc : List (Option Value)} {i : Nat} {v : Value} (h : lv_has ls nL ((i, mj_tv ad sp v) :: (mj_al (mj_tv ad sp) loc).filter (fun q => !(q.1 == i) && (!(q.1 == i + 1) && !(q.1 + 1 == i && q.2.category == 2))))) : mj_lv ls nL (mj_tv ad sp) (mj_set2 loc i v) := by
  refine ⟨h.1, h.2.1, fun j w hj => ?_⟩
  unfold mj_set2 at hj
  by_cases hj1 : j = i + 1
  · subst hj1
    rw [List.getElem?_set] at hj
    simp at hj
  rw [List.getElem?_set_ne (Ne.symm hj1)] at hj
  by_cases hji : j = i
  · subst hji
    rw [List.getElem?_set] at hj
    simp only [if_true] at hj
    split at hj
    · cases hj
      exact h.2.2 (j, _) List.mem_cons_self
    · cases hj
  · rw [List.getElem?_set_ne (Ne.symm hji)] at hj
    obtain ⟨h1, h2⟩ := mj_cut_get hj
    refine h.2.2 (j, mj_tv ad sp w) (List.mem_cons_of_mem _ (List.mem_filter.mpr ⟨mj_al_mem.mpr ⟨w, h1, rfl⟩, ?_⟩))
    simp only [Bool.and_eq_true, Bool.not_eq_true', beq_eq_false_iff_ne, ne_eq, Bool.and_eq_false_iff]
    refine ⟨hji, hj1, ?_⟩
    rw [mj_tv_cat]
    by_cases hz : j + 1 = i
    · exact Or.inr (fun q => h2 ⟨hz, q⟩)
    · exact Or.inl hz
/-- the locals at a method's start -/
def mj_l0 : List Value → List (Option Value)
  | [] => []
  | .long x :: vs => some (.long x) :: none :: mj_l0 vs
  | .double x :: vs => some (.double x) :: none :: mj_l0 vs
  | v :: vs => some v :: mj_l0 vs
theorem mj_l0_args (tv : Value → Value) (htv : ∀ v, (tv v).category = v.category) : ∀ (vs : List Value) (n i : Nat) (v : Value), (mj_l0 vs)[i]? = some (some v) → (n + i, tv v) ∈ lv_args n (vs.map tv) := by
  intro vs
  induction vs with
  | nil => intro n i v h; simp [mj_l0] at h
  | cons u vs ih =>
    intro n i v h
    have one : u.category = 1 → (mj_l0 (u :: vs)) = some u :: mj_l0 vs → (n + i, tv v) ∈ lv_args n ((u :: vs).map tv) := by
      intro hc he
      rw [he] at h
      simp only [List.map_cons, lv_args, htv, hc]
      cases i with
      | zero =>
        simp only [List.getElem?_cons_zero, Option.some.injEq] at h
        subst h
        exact List.mem_cons_self
      | succ j =>
        rw [List.getElem?_cons_succ] at h
        have := ih (n + 1) j v h
        rw [show n + 1 + j = n + (j + 1) by omega] at this
        exact List.mem_cons_of_mem _ (by simpa using this)
    have two : u.category = 2 → (mj_l0 (u :: vs)) = some u :: none :: mj_l0 vs → (n + i, tv v) ∈ lv_args n ((u :: vs).map tv) := by
      intro hc he
      rw [he] at h
      simp only [List.map_cons, lv_args, htv, hc]
      cases i with
      | zero =>
        simp only [List.getElem?_cons_zero, Option.some.injEq] at h
        subst h
        exact List.mem_cons_self
      | succ j =>
        rw [List.getElem?_cons_succ] at h
        cases j with
        | zero => simp at h
        | succ k =>
          rw [List.getElem?_cons_succ] at h
          have := ih (n + 2) k v h
          rw [show n + 2 + k = n + (k + 1 + 1) by omega] at this
          exact List.mem_cons_of_mem _ (by simpa using this)
    cases u with
    | long x => exact two rfl rfl
    | double x => exact two rfl rfl
    | int x => exact one rfl rfl
    | float x => exact one rfl rfl
    | null => exact one rfl rfl
    | ref x => exact one rfl rfl
    | retAddr x => exact one rfl rfl
/-- indices and truth values -/
def mj_in (i : Int32) (n : Nat) : Bool := !(decide (i < 0)) && decide (i.toNatClampNeg < n)
theorem mj_in_vp {i : Int32} {n : Nat} (h : mj_in i n = true) : vp_in i n := by
  unfold mj_in at h
  simp only [Bool.and_eq_true, Bool.not_eq_true', decide_eq_false_iff_not, decide_eq_true_eq] at h
  intro q
  rcases q with q | q
  · exact h.1 q
  · omega
def mj_b (x : Int32) : Bool := decide (x = 0) || decide (x = 1)
theorem mj_b_or {x : Int32} (h : mj_b x = true) : x = 0 ∨ x = 1 := by
  unfold mj_b at h
  simpa using h
theorem mj_b_nar {x : Int32} (h : mj_b x = true) : narrow .boolean (.int x) = .int x := by
  rcases mj_b_or h with rfl | rfl <;> rfl
theorem mj_b_fit {x : Int32} (h : mj_b x = true) : fits .boolean (.int x) = true := by
  rcases mj_b_or h with rfl | rfl <;> rfl
theorem mj_b_vp {x : Int32} (h : mj_b x = true) : vp_nar .boolean x = x := by
  rcases mj_b_or h with rfl | rfl <;> rfl
theorem mj_gd {α : Type} {b : Bool} {A : Option α} {o : α} (h : (if b = true then A else none) = some o) : b = true ∧ A = some o := by
  cases b with
  | true => exact ⟨rfl, by simpa using h⟩
  | false => simp at h
theorem mj_bd {α β : Type} {A : Option α} {F : α → Option β} {o : β} (h : A.bind F = some o) : ∃ q, A = some q ∧ F q = some o := Option.bind_eq_some_iff.mp h
/-- the words that stay true while a method runs, and those that go from call to call by hand -/
def mj_gw : List Cond := lw_tbl.filter goodWord
theorem mj_gw_in {w : Cond} (i : Nat) (h : tables_1[i]? = some w) (hg : goodWord w = true) : w ∈ mj_gw := List.mem_filter.mpr ⟨List.mem_append_right _ (List.mem_of_getElem? h), hg⟩
theorem mj_gw_sel {w : Cond} (i : Nat) (h : (k2_sels lw_privs)[i]? = some w) (hg : goodWord w = true) : w ∈ mj_gw := List.mem_filter.mpr ⟨List.mem_append_left _ (List.mem_of_getElem? h), hg⟩
theorem mj_gw_good {ws : List Cond} (h : ∀ w ∈ ws, w ∈ mj_gw) : GoodIn mj_gw ws := fun w hw => ⟨h w hw, good_of_word (List.mem_filter.mp (h w hw)).2⟩

