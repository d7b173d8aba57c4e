/-- what goes from call to call: nest mates' links, classes of arrays of references, the three static tables -/
def mj_t0 : List Int32 := [0, 0, 1, 1, 0, 4]
def mj_t1 : List Int32 := [10, 11, 12, 11, 13, 14]
def mj_t2 : List Int32 := [20, 21, 24, 22, 23, 23]
def mj_tab (k : Nat) : List Int32 := match k with
  | 0 => mj_t0
  | 1 => mj_t1
  | _ => mj_t2
def mj_nw : List Cond := tables_1.filter (fun w => match w with | .methodLinkNest _ _ _ _ => true | _ => false)
theorem mj_nw_in {a : String} {i : Nat} {x : MethodName} {h : String} (j : Nat) (hj : tables_1[j]? = some (.methodLinkNest a i x h)) : Cond.methodLinkNest a i x h ∈ mj_nw := List.mem_filter.mpr ⟨List.mem_of_getElem? hj, rfl⟩
def mj_X (sp : Nat → Nat) (A : Nat → Prop) (U : State) (H : Heap) : Prop :=
  (∀ w ∈ mj_nw, va_Nw w U) ∧ va_AO "CloudHerd$Cloud" U ∧ va_AO "CloudHerd$Herd" U ∧ va_AO "CloudHerd$Row" U ∧
  (va_Z "CloudHerd" "ABOVE" "[I" (.ref (sp 0)) A U H ∧ va_Z "CloudHerd$Trace" "SIZE_BODIES" "[I" (.ref (sp 1)) A U H ∧ va_Z "CloudHerd$Trace" "MARK_BODIES" "[I" (.ref (sp 2)) A U H) ∧
  ∀ k, k < 3 → va_T .int (sp k) 6 (fun j => .int ((mj_tab k).getD j 0)) A U H
theorem mj_X.moved {sp : Nat → Nat} {A : Nat → Prop} {u U : State} {H : Heap} (hW : u.WarmedH U.vm) (h : mj_X sp A u H) : mj_X sp A U H := by
  obtain ⟨h1, h2, h3, h4, ⟨h5, h6, h7⟩, h8⟩ := h
  refine ⟨fun w hw => ?_, h2.moved hW.alike, h3.moved hW.alike, h4.moved hW.alike, ⟨h5.moved hW.alike, h6.moved hW.alike, h7.moved hW.alike⟩, fun k hk => (h8 k hk).moved hW.alike⟩
  have h9 := h1 w hw
  have hf := (List.mem_filter.mp hw).2
  cases w with
  | methodLinkNest a i x hh => exact va_Nw.warmM hW h9
  | _ => exact absurd hf (by simp)
theorem mj_X.called {sp : Nat → Nat} {A : Nat → Prop} {u U : State} {H : Heap} (hvm : u.vm = U.vm) (h : mj_X sp A u H) : mj_X sp A U H := by
  have al : u.vm.Alike U.vm := by rw [← hvm]; exact Vm.Alike.refl u.vm
  obtain ⟨h1, h2, h3, h4, ⟨h5, h6, h7⟩, h8⟩ := h
  refine ⟨fun w hw => ?_, h2.moved al, h3.moved al, h4.moved al, ⟨h5.moved al, h6.moved al, h7.moved al⟩, fun k hk => (h8 k hk).moved al⟩
  have h9 := h1 w hw
  have hf := (List.mem_filter.mp hw).2
  cases w with
  | methodLinkNest a i x hh => exact va_Nw.same rfl hvm h9
  | _ => exact absurd hf (by simp)
theorem mj_X.kept {sp : Nat → Nat} {A : Nat → Prop} {U : State} {H H1 : Heap} (h : mj_X sp A U H) (hq : ∀ a : Nat, a < H.size → ¬ A a → H1[a]? = H[a]?) : mj_X sp A U H1 := by
  obtain ⟨h1, h2, h3, h4, ⟨h5, h6, h7⟩, h8⟩ := h
  exact ⟨h1, h2, h3, h4, ⟨h5.kept hq, h6.kept hq, h7.kept hq⟩, fun k hk => (h8 k hk).kept hq⟩
theorem mj_X.narrow {sp : Nat → Nat} {A B : Nat → Prop} {U : State} {H : Heap} (h : mj_X sp A U H) (hAB : ∀ q, B q → A q) : mj_X sp B U H := by
  obtain ⟨h1, h2, h3, h4, ⟨h5, h6, h7⟩, h8⟩ := h
  exact ⟨h1, h2, h3, h4, ⟨h5.narrow hAB, h6.narrow hAB, h7.narrow hAB⟩, fun k hk => (h8 k hk).narrow hAB⟩
def mj_tys (cA : Nat → ClassId) : List (ClassId × FieldType) := [(cA 0, .int), (cA 1, .boolean), (cA 2, .object "CloudHerd$Cloud"), (cA 3, .object "CloudHerd$Herd"), (cA 4, .object "CloudHerd$Row")]
/-- a method: its name, its code, its locals, what it returns, how deep calls go below it, the cells and slots that it makes -/
abbrev mj_J : Type := MethodName × ByteArray × Nat × Option FieldType × Nat × Nat × Nat
abbrev mj_y (J : mj_J) : MethodName := J.1
abbrev mj_cc (J : mj_J) : ByteArray := J.2.1
abbrev mj_nL (J : mj_J) : Nat := J.2.2.1
abbrev mj_rt (J : mj_J) : Option FieldType := J.2.2.2.1
abbrev mj_d (J : mj_J) : Nat := J.2.2.2.2.1
abbrev mj_mc (J : mj_J) : Nat := J.2.2.2.2.2.1
abbrev mj_ms (J : mj_J) : Nat := J.2.2.2.2.2.2
def mj_room (J : mj_J) : Room := { frames := mj_d J, cells := mj_mc J, slots := mj_ms J, locals := 64 * mj_d J }
/-- what holds all through a method -/
def mj_C (J : mj_J) (p : Program) (s : State) (m : MethodId) (args : Array Value) (meth : Method) (c : Code) (D : va_G) (cA : Nat → ClassId) (sp : Nat → Nat) (A : Nat → Prop) : Prop :=
  p.tables.exec = Jvm.exec ∧ c.code = mj_cc J ∧ c.maxLocals = mj_nL J ∧ s.vm.findClass (mj_y J).cls = some m.cls ∧ (∀ w ∈ mj_gw, w.before args s = true) ∧ va_K D vwCl (mj_tys cA) s ∧ (∀ q, s.heap.size ≤ q → A q) ∧ mj_X sp A s s.heap
def mj_ret (J : mj_J) (v : Option Value) (pc : Nat) : Prop := match v with
  | none => decode (mj_cc J) pc = .ok (.return_, 1) ∧ mj_rt J = none
  | some (.int x) => decode (mj_cc J) pc = .ok (.ireturn, 1) ∧ ∃ ty, mj_rt J = some ty ∧ narrow ty (.int x) = .int x
  | some (.long _) => decode (mj_cc J) pc = .ok (.lreturn, 1) ∧ mj_rt J = some .long
  | _ => False
/-- from pc on, with these locals, this stack and this memory, the method comes to its end, and post holds of its answer and its memory -/
def mj_Ev (J : mj_J) (pc : Nat) (loc : List (Option Value)) (st : List Value) (S : mj_S) (f : mj_I) (g : mj_L) (post : Option Value → mj_I → mj_L → Prop) : Prop :=
  ∀ (p : Program) (l : Launch) (e : Env) (s : State) (m : MethodId) (args : Array Value) (below : List Frame) (meth : Method) (c : Code) (D : va_G) (cA : Nat → ClassId) (sp ad : Nat → Nat) (A : Nat → Prop) (cells slots : Nat) (R : Room) (Q : State → Prop),
    mj_C J p s m args meth c D cA sp A →
    (mj_d J ≤ R.frames ∧ 64 * mj_d J ≤ R.locals ∧ cells ≤ R.cells ∧ slots ≤ R.slots) →
    (∀ (v : Option Value) (f' : mj_I) (g' : mj_L) (H : Heap) (locs : List Loc) (pc : Nat) (ls : Array Slot), post v f' g' → va_P D vwCl (mj_w ad cA S f' g') H → va_D A (mj_w ad cA S f' g') → va_S A s.heap H locs → mj_ret J v pc → W p l e R s m args below meth c H locs cells slots Q (F0 m pc ls v.toList)) →
    ∀ (H : Heap) (locs : List Loc) (ls : Array Slot), va_P D vwCl (mj_w ad cA S f g) H → va_D A (mj_w ad cA S f g) → va_S A s.heap H locs → mj_lv ls (mj_nL J) (mj_tv ad sp) loc →
    W p l e R s m args below meth c H locs cells slots Q (F0 m pc ls (st.map (mj_tv ad sp)))
/-- an answer is none, an int, a long -/
def mj_pv (v : Option Value) : Prop := v = none ∨ (∃ x, v = some (.int x)) ∨ ∃ x, v = some (.long x)
theorem mj_pv_tv {v : Option Value} (h : mj_pv v) (ad sp : Nat → Nat) : v.toList.map (mj_tv ad sp) = v.toList := by
  rcases h with rfl | ⟨x, rfl⟩ | ⟨x, rfl⟩ <;> rfl
/-- the world behind a call -/
def mj_Q (D : va_G) (cA : Nat → ClassId) (ad : Nat → Nat) (S : mj_S) (A : Nat → Prop) (post : Option Value → mj_I → mj_L → Prop) : Array Value → State → Outcome → State → Prop := fun _ st oc t =>
  (∃ (v : Option Value) (f' : mj_I) (g' : mj_L), oc = .returned v ∧ mj_pv v ∧ post v f' g' ∧ va_P D vwCl (mj_w ad cA S f' g') t.heap ∧ va_D A (mj_w ad cA S f' g')) ∧ va_F A st t
def mj_Pc (D : va_G) (cA : Nat → ClassId) (sp ad : Nat → Nat) (sz : Nat) (S : mj_S) (f : mj_I) (g : mj_L) : State → Prop := fun U =>
  U.heap.size = sz ∧ va_P D vwCl (mj_w ad cA S f g) U.heap ∧ va_K D vwCl (mj_tys cA) U ∧ va_D (fun _ => True) (mj_w ad cA S f g) ∧ mj_X sp (va_A (mj_w ad cA S f g) sz) U U.heap
/-- a method's contract: from this world it returns, and post holds -/
def mj_Sp (J : mj_J) (S : mj_S) (as : List Value) (f : mj_I) (g : mj_L) (post : Option Value → mj_I → mj_L → Prop) : Prop :=
  ∀ (l : Launch) (D : va_G) (cA : Nat → ClassId) (sp ad : Nat → Nat) (sz : Nat), Met l (mj_y J) (.code (mj_y J) (mj_cc J) (mj_nL J) (mj_rt J) :: mj_gw) (mj_room J) (va_Pc (as.map (mj_tv ad sp)) (mj_Pc D cA sp ad sz S f g)) (mj_Q D cA ad S (va_A (mj_w ad cA S f g) sz) post) 0 0 (va_A (mj_w ad cA S f g) sz)
theorem mj_same (ad : Nat → Nat) (cA : Nat → ClassId) (S : mj_S) (f f' : mj_I) (g g' : mj_L) (sz : Nat) : ∀ q, va_A (mj_w ad cA S f' g') sz q → va_A (mj_w ad cA S f g) sz q := by
  intro q h
  rcases h with ⟨k, e, h⟩ | h
  · rw [mj_w_get] at h
    cases hk : S[k]? with
    | none => rw [hk] at h; cases h
    | some c =>
      rw [hk] at h
      cases h
      exact Or.inl ⟨k, _, mj_w_at hk⟩
  · exact Or.inr h
/-- a method is proved from its entry -/
theorem mj_sp {J : mj_J} {S : mj_S} {as : List Value} {f : mj_I} {g : mj_L} {post : Option Value → mj_I → mj_L → Prop} (n : Nat) (hy : plainName (mj_y J).cls = true) (hmc : mj_mc J = 0) (hms : mj_ms J = 0) (hlen : ∀ ad sp : Nat → Nat, (lg_sl (as.map (mj_tv ad sp))).length ≤ mj_nL J) (k : mj_Ev J 0 (mj_l0 as ++ List.replicate n none) [] S f g post) : mj_Sp J S as f g post := by
  intro l D cA sp ad sz
  refine Met.ofW (cc := mj_cc J) (maxL := mj_nL J) (ret := mj_rt J) hy rfl ?_
  intro p e s m args below meth c s₁ B hml hv
  obtain ⟨rfl, hsz, hP, hK, hD0, hX⟩ := hv
  have hx := B.exec
  have hb := B.bytes
  have hr := B.returns
  have hts := atoms_spec (ws := .code (mj_y J) (mj_cc J) (mj_nL J) (mj_rt J) :: mj_gw) B.pre
  have hown : s.vm.findClass (mj_y J).cls = some m.cls := findClass_of_methodNamed B.named
  have hlocks := B.notSynchronized
  subst hsz
  have hD := hD0.self (sz := s.heap.size)
  have hA : ∀ q : Nat, s.heap.size ≤ q → va_A (mj_w ad cA S f g) s.heap.size q := fun q h => Or.inr h
  have hS : va_S (va_A (mj_w ad cA S f g) s.heap.size) s.heap s.heap [] := va_S.rf
  have hl := lv_entry (as.map (mj_tv ad sp)) (n := mj_nL J) (hlen ad sp)
  rw [lg_entry_eq]
  generalize (lg_sl (as.map (mj_tv ad sp)) ++ List.replicate (mj_nL J - (lg_sl (as.map (mj_tv ad sp))).length) Slot.unset).toArray = ls at hl ⊢
  have hl' : mj_lv ls (mj_nL J) (mj_tv ad sp) (mj_l0 as ++ List.replicate n none) := by
    refine ⟨hl.1, hl.2.1, fun i v hi => ?_⟩
    by_cases hlt : i < (mj_l0 as).length
    · rw [List.getElem?_append_left hlt] at hi
      have := mj_l0_args (mj_tv ad sp) (mj_tv_cat ad sp) as 0 i v hi
      rw [Nat.zero_add] at this
      exact hl.2.2 (i, _) this
    · rw [List.getElem?_append_right (by omega)] at hi
      have := List.mem_of_getElem? hi
      rw [List.mem_replicate] at this
      exact absurd this.2 (by simp)
  refine k p l e s m _ below meth c D cA sp ad _ 0 0 (mj_room J) _ ⟨hx, hb, hml, hown, fun w hw => hts w (List.mem_cons_of_mem _ hw), hK, hA, hX⟩ ⟨Nat.le_refl _, Nat.le_refl _, Nat.zero_le _, Nat.zero_le _⟩ ?_ s.heap [] ls hP hD hS hl'
  intro v f' g' H locs pc ls hpost hP hD hS hret
  have fin : mj_pv v → ∀ t : State, t.heap = H → s.WarmedH t.vm → mj_Q D cA ad S (va_A (mj_w ad cA S f g) s.heap.size) post (as.map (mj_tv ad sp)).toArray s (.returned v) t := fun hv t ht _ => ⟨⟨v, f', g', rfl, hv, hpost, by rw [ht]; exact hP, hD⟩, hS.F ht⟩
  cases v with
  | none =>
    obtain ⟨h1, h2⟩ := hret
    exact W.vret hx hb (hr.trans h2) (fin (Or.inl rfl)) hS.2.2 h1
  | some v =>
    cases v with
    | int x =>
      obtain ⟨h1, ty, h2, h3⟩ := hret
      exact W.zret hx hb (hr.trans h2) h3 (fin (Or.inr (Or.inl ⟨x, rfl⟩))) hS.2.2 h1
    | long x =>
      obtain ⟨h1, h2⟩ := hret
      exact W.lret hx hb (hr.trans h2) (fin (Or.inr (Or.inr ⟨x, rfl⟩))) hS.2.2 h1
    | _ => exact absurd hret (by simp [mj_ret])

theorem ev_iconst {J : mj_J} {pc q : Nat} {loc : List (Option Value)} {st : List Value} {S : mj_S} {f : mj_I} {g : mj_L} {post : Option Value → mj_I → mj_L → Prop} {n : Int} {v : Int32} (hd : decode (mj_cc J) pc = .ok (.iconst n, 1)) (hv : Int32.ofInt n = v) (hq : pc + 1 = q) (k : mj_Ev J q loc (.int v :: st) S f g post) : mj_Ev J pc loc (st) S f g post := by
  intro p l e s m args below meth c D cA sp ad A cells slots R Q hC hR hk0 H locs ls hP hD hS hl
  subst hq
  exact lv_iconst hC.1 hC.2.1 hd hv (k p l e s m args below meth c D cA sp ad A cells slots R Q hC hR hk0 H locs ls hP hD hS hl)
theorem ev_bipush {J : mj_J} {pc q : Nat} {loc : List (Option Value)} {st : List Value} {S : mj_S} {f : mj_I} {g : mj_L} {post : Option Value → mj_I → mj_L → Prop} {n : Int} {v : Int32} (hd : decode (mj_cc J) pc = .ok (.bipush n, 2)) (hv : (Int8.ofInt n).toInt32 = v) (hq : pc + 2 = q) (k : mj_Ev J q loc (.int v :: st) S f g post) : mj_Ev J pc loc (st) S f g post := by
  intro p l e s m args below meth c D cA sp ad A cells slots R Q hC hR hk0 H locs ls hP hD hS hl
  subst hq
  exact lv_bipush hC.1 hC.2.1 hd hv (k p l e s m args below meth c D cA sp ad A cells slots R Q hC hR hk0 H locs ls hP hD hS hl)
theorem ev_sipush {J : mj_J} {pc q : Nat} {loc : List (Option Value)} {st : List Value} {S : mj_S} {f : mj_I} {g : mj_L} {post : Option Value → mj_I → mj_L → Prop} {n : Int} {v : Int32} (hd : decode (mj_cc J) pc = .ok (.sipush n, 3)) (hv : (Int16.ofInt n).toInt32 = v) (hq : pc + 3 = q) (k : mj_Ev J q loc (.int v :: st) S f g post) : mj_Ev J pc loc (st) S f g post := by
  intro p l e s m args below meth c D cA sp ad A cells slots R Q hC hR hk0 H locs ls hP hD hS hl
  subst hq
  exact lv_sipush hC.1 hC.2.1 hd hv (k p l e s m args below meth c D cA sp ad A cells slots R Q hC hR hk0 H locs ls hP hD hS hl)
theorem ev_lconst {J : mj_J} {pc q : Nat} {loc : List (Option Value)} {st : List Value} {S : mj_S} {f : mj_I} {g : mj_L} {post : Option Value → mj_I → mj_L → Prop} {n : Fin 2} {v : Int64} (hd : decode (mj_cc J) pc = .ok (.lconst n, 1)) (hv : Int64.ofNat (n : Nat) = v) (hq : pc + 1 = q) (k : mj_Ev J q loc (.long v :: st) S f g post) : mj_Ev J pc loc (st) S f g post := by
  intro p l e s m args below meth c D cA sp ad A cells slots R Q hC hR hk0 H locs ls hP hD hS hl
  subst hq
  exact lv_lconst hC.1 hC.2.1 hd hv (k p l e s m args below meth c D cA sp ad A cells slots R Q hC hR hk0 H locs ls hP hD hS hl)
theorem ev_iadd {J : mj_J} {pc q : Nat} {loc : List (Option Value)} {st : List Value} {S : mj_S} {f : mj_I} {g : mj_L} {post : Option Value → mj_I → mj_L → Prop} {x y : Int32} (hd : decode (mj_cc J) pc = .ok (.iadd, 1)) (hq : pc + 1 = q) (k : mj_Ev J q loc (.int (x + y) :: st) S f g post) : mj_Ev J pc loc (.int y :: .int x :: st) S f g post := by
  intro p l e s m args below meth c D cA sp ad A cells slots R Q hC hR hk0 H locs ls hP hD hS hl
  subst hq
  exact lv_iadd hC.1 hC.2.1 hd  (k p l e s m args below meth c D cA sp ad A cells slots R Q hC hR hk0 H locs ls hP hD hS hl)
theorem ev_isub {J : mj_J} {pc q : Nat} {loc : List (Option Value)} {st : List Value} {S : mj_S} {f : mj_I} {g : mj_L} {post : Option Value → mj_I → mj_L → Prop} {x y : Int32} (hd : decode (mj_cc J) pc = .ok (.isub, 1)) (hq : pc + 1 = q) (k : mj_Ev J q loc (.int (x - y) :: st) S f g post) : mj_Ev J pc loc (.int y :: .int x :: st) S f g post := by
  intro p l e s m args below meth c D cA sp ad A cells slots R Q hC hR hk0 H locs ls hP hD hS hl
  subst hq
  exact lv_isub hC.1 hC.2.1 hd  (k p l e s m args below meth c D cA sp ad A cells slots R Q hC hR hk0 H locs ls hP hD hS hl)
theorem ev_imul {J : mj_J} {pc q : Nat} {loc : List (Option Value)} {st : List Value} {S : mj_S} {f : mj_I} {g : mj_L} {post : Option Value → mj_I → mj_L → Prop} {x y : Int32} (hd : decode (mj_cc J) pc = .ok (.imul, 1)) (hq : pc + 1 = q) (k : mj_Ev J q loc (.int (x * y) :: st) S f g post) : mj_Ev J pc loc (.int y :: .int x :: st) S f g post := by
  intro p l e s m args below meth c D cA sp ad A cells slots R Q hC hR hk0 H locs ls hP hD hS hl
  subst hq
  exact lv_imul hC.1 hC.2.1 hd  (k p l e s m args below meth c D cA sp ad A cells slots R Q hC hR hk0 H locs ls hP hD hS hl)
theorem ev_iand {J : mj_J} {pc q : Nat} {loc : List (Option Value)} {st : List Value} {S : mj_S} {f : mj_I} {g : mj_L} {post : Option Value → mj_I → mj_L → Prop} {x y : Int32} (hd : decode (mj_cc J) pc = .ok (.iand, 1)) (hq : pc + 1 = q) (k : mj_Ev J q loc (.int (x &&& y) :: st) S f g post) : mj_Ev J pc loc (.int y :: .int x :: st) S f g post := by
  intro p l e s m args below meth c D cA sp ad A cells slots R Q hC hR hk0 H locs ls hP hD hS hl
  subst hq
  exact lv_iand hC.1 hC.2.1 hd  (k p l e s m args below meth c D cA sp ad A cells slots R Q hC hR hk0 H locs ls hP hD hS hl)
theorem ev_ior {J : mj_J} {pc q : Nat} {loc : List (Option Value)} {st : List Value} {S : mj_S} {f : mj_I} {g : mj_L} {post : Option Value → mj_I → mj_L → Prop} {x y : Int32} (hd : decode (mj_cc J) pc = .ok (.ior, 1)) (hq : pc + 1 = q) (k : mj_Ev J q loc (.int (x ||| y) :: st) S f g post) : mj_Ev J pc loc (.int y :: .int x :: st) S f g post := by
  intro p l e s m args below meth c D cA sp ad A cells slots R Q hC hR hk0 H locs ls hP hD hS hl
  subst hq
  exact lv_ior hC.1 hC.2.1 hd  (k p l e s m args below meth c D cA sp ad A cells slots R Q hC hR hk0 H locs ls hP hD hS hl)
theorem ev_ixor {J : mj_J} {pc q : Nat} {loc : List (Option Value)} {st : List Value} {S : mj_S} {f : mj_I} {g : mj_L} {post : Option Value → mj_I → mj_L → Prop} {x y : Int32} (hd : decode (mj_cc J) pc = .ok (.ixor, 1)) (hq : pc + 1 = q) (k : mj_Ev J q loc (.int (x ^^^ y) :: st) S f g post) : mj_Ev J pc loc (.int y :: .int x :: st) S f g post := by
  intro p l e s m args below meth c D cA sp ad A cells slots R Q hC hR hk0 H locs ls hP hD hS hl
  subst hq
  exact lv_ixor hC.1 hC.2.1 hd  (k p l e s m args below meth c D cA sp ad A cells slots R Q hC hR hk0 H locs ls hP hD hS hl)
theorem ev_ishl {J : mj_J} {pc q : Nat} {loc : List (Option Value)} {st : List Value} {S : mj_S} {f : mj_I} {g : mj_L} {post : Option Value → mj_I → mj_L → Prop} {x y : Int32} (hd : decode (mj_cc J) pc = .ok (.ishl, 1)) (hq : pc + 1 = q) (k : mj_Ev J q loc (.int (x <<< (y &&& 31)) :: st) S f g post) : mj_Ev J pc loc (.int y :: .int x :: st) S f g post := by
  intro p l e s m args below meth c D cA sp ad A cells slots R Q hC hR hk0 H locs ls hP hD hS hl
  subst hq
  exact lv_ishl hC.1 hC.2.1 hd  (k p l e s m args below meth c D cA sp ad A cells slots R Q hC hR hk0 H locs ls hP hD hS hl)
theorem ev_ishr {J : mj_J} {pc q : Nat} {loc : List (Option Value)} {st : List Value} {S : mj_S} {f : mj_I} {g : mj_L} {post : Option Value → mj_I → mj_L → Prop} {x y : Int32} (hd : decode (mj_cc J) pc = .ok (.ishr, 1)) (hq : pc + 1 = q) (k : mj_Ev J q loc (.int (x >>> (y &&& 31)) :: st) S f g post) : mj_Ev J pc loc (.int y :: .int x :: st) S f g post := by
  intro p l e s m args below meth c D cA sp ad A cells slots R Q hC hR hk0 H locs ls hP hD hS hl
  subst hq
  exact lv_ishr hC.1 hC.2.1 hd  (k p l e s m args below meth c D cA sp ad A cells slots R Q hC hR hk0 H locs ls hP hD hS hl)
theorem ev_ladd {J : mj_J} {pc q : Nat} {loc : List (Option Value)} {st : List Value} {S : mj_S} {f : mj_I} {g : mj_L} {post : Option Value → mj_I → mj_L → Prop} {x y : Int64} (hd : decode (mj_cc J) pc = .ok (.ladd, 1)) (hq : pc + 1 = q) (k : mj_Ev J q loc (.long (x + y) :: st) S f g post) : mj_Ev J pc loc (.long y :: .long x :: st) S f g post := by
  intro p l e s m args below meth c D cA sp ad A cells slots R Q hC hR hk0 H locs ls hP hD hS hl
  subst hq
  exact lv_ladd hC.1 hC.2.1 hd  (k p l e s m args below meth c D cA sp ad A cells slots R Q hC hR hk0 H locs ls hP hD hS hl)
theorem ev_lsub {J : mj_J} {pc q : Nat} {loc : List (Option Value)} {st : List Value} {S : mj_S} {f : mj_I} {g : mj_L} {post : Option Value → mj_I → mj_L → Prop} {x y : Int64} (hd : decode (mj_cc J) pc = .ok (.lsub, 1)) (hq : pc + 1 = q) (k : mj_Ev J q loc (.long (x - y) :: st) S f g post) : mj_Ev J pc loc (.long y :: .long x :: st) S f g post := by
  intro p l e s m args below meth c D cA sp ad A cells slots R Q hC hR hk0 H locs ls hP hD hS hl
  subst hq
  exact lv_lsub hC.1 hC.2.1 hd  (k p l e s m args below meth c D cA sp ad A cells slots R Q hC hR hk0 H locs ls hP hD hS hl)
theorem ev_lmul {J : mj_J} {pc q : Nat} {loc : List (Option Value)} {st : List Value} {S : mj_S} {f : mj_I} {g : mj_L} {post : Option Value → mj_I → mj_L → Prop} {x y : Int64} (hd : decode (mj_cc J) pc = .ok (.lmul, 1)) (hq : pc + 1 = q) (k : mj_Ev J q loc (.long (x * y) :: st) S f g post) : mj_Ev J pc loc (.long y :: .long x :: st) S f g post := by
  intro p l e s m args below meth c D cA sp ad A cells slots R Q hC hR hk0 H locs ls hP hD hS hl
  subst hq
  exact lv_lmul hC.1 hC.2.1 hd  (k p l e s m args below meth c D cA sp ad A cells slots R Q hC hR hk0 H locs ls hP hD hS hl)
theorem ev_idiv {J : mj_J} {pc q : Nat} {loc : List (Option Value)} {st : List Value} {S : mj_S} {f : mj_I} {g : mj_L} {post : Option Value → mj_I → mj_L → Prop} {x y : Int32} (hd : decode (mj_cc J) pc = .ok (.idiv, 1)) (hne : ¬ y = 0) (hq : pc + 1 = q) (k : mj_Ev J q loc (.int (x / y) :: st) S f g post) : mj_Ev J pc loc (.int y :: .int x :: st) S f g post := by
  intro p l e s m args below meth c D cA sp ad A cells slots R Q hC hR hk0 H locs ls hP hD hS hl
  subst hq
  exact lv_idiv hC.1 hC.2.1 hd hne (k p l e s m args below meth c D cA sp ad A cells slots R Q hC hR hk0 H locs ls hP hD hS hl)
theorem ev_irem {J : mj_J} {pc q : Nat} {loc : List (Option Value)} {st : List Value} {S : mj_S} {f : mj_I} {g : mj_L} {post : Option Value → mj_I → mj_L → Prop} {x y : Int32} (hd : decode (mj_cc J) pc = .ok (.irem, 1)) (hne : ¬ y = 0) (hq : pc + 1 = q) (k : mj_Ev J q loc (.int (x - x / y * y) :: st) S f g post) : mj_Ev J pc loc (.int y :: .int x :: st) S f g post := by
  intro p l e s m args below meth c D cA sp ad A cells slots R Q hC hR hk0 H locs ls hP hD hS hl
  subst hq
  exact lv_irem hC.1 hC.2.1 hd hne (k p l e s m args below meth c D cA sp ad A cells slots R Q hC hR hk0 H locs ls hP hD hS hl)
theorem ev_ldiv {J : mj_J} {pc q : Nat} {loc : List (Option Value)} {st : List Value} {S : mj_S} {f : mj_I} {g : mj_L} {post : Option Value → mj_I → mj_L → Prop} {x y : Int64} (hd : decode (mj_cc J) pc = .ok (.ldiv, 1)) (hne : ¬ y = 0) (hq : pc + 1 = q) (k : mj_Ev J q loc (.long (x / y) :: st) S f g post) : mj_Ev J pc loc (.long y :: .long x :: st) S f g post := by
  intro p l e s m args below meth c D cA sp ad A cells slots R Q hC hR hk0 H locs ls hP hD hS hl
  subst hq
  exact lv_ldiv hC.1 hC.2.1 hd hne (k p l e s m args below meth c D cA sp ad A cells slots R Q hC hR hk0 H locs ls hP hD hS hl)
theorem ev_lrem {J : mj_J} {pc q : Nat} {loc : List (Option Value)} {st : List Value} {S : mj_S} {f : mj_I} {g : mj_L} {post : Option Value → mj_I → mj_L → Prop} {x y : Int64} (hd : decode (mj_cc J) pc = .ok (.lrem, 1)) (hne : ¬ y = 0) (hq : pc + 1 = q) (k : mj_Ev J q loc (.long (x - x / y * y) :: st) S f g post) : mj_Ev J pc loc (.long y :: .long x :: st) S f g post := by
  intro p l e s m args below meth c D cA sp ad A cells slots R Q hC hR hk0 H locs ls hP hD hS hl
  subst hq
  exact lv_lrem hC.1 hC.2.1 hd hne (k p l e s m args below meth c D cA sp ad A cells slots R Q hC hR hk0 H locs ls hP hD hS hl)
theorem ev_ineg {J : mj_J} {pc q : Nat} {loc : List (Option Value)} {st : List Value} {S : mj_S} {f : mj_I} {g : mj_L} {post : Option Value → mj_I → mj_L → Prop} {x : Int32} (hd : decode (mj_cc J) pc = .ok (.ineg, 1)) (hq : pc + 1 = q) (k : mj_Ev J q loc (.int (-x) :: st) S f g post) : mj_Ev J pc loc (.int x :: st) S f g post := by
  intro p l e s m args below meth c D cA sp ad A cells slots R Q hC hR hk0 H locs ls hP hD hS hl
  subst hq
  exact lv_ineg hC.1 hC.2.1 hd  (k p l e s m args below meth c D cA sp ad A cells slots R Q hC hR hk0 H locs ls hP hD hS hl)
theorem ev_i2l {J : mj_J} {pc q : Nat} {loc : List (Option Value)} {st : List Value} {S : mj_S} {f : mj_I} {g : mj_L} {post : Option Value → mj_I → mj_L → Prop} {x : Int32} (hd : decode (mj_cc J) pc = .ok (.i2l, 1)) (hq : pc + 1 = q) (k : mj_Ev J q loc (.long x.toInt64 :: st) S f g post) : mj_Ev J pc loc (.int x :: st) S f g post := by
  intro p l e s m args below meth c D cA sp ad A cells slots R Q hC hR hk0 H locs ls hP hD hS hl
  subst hq
  exact lv_i2l hC.1 hC.2.1 hd rfl (k p l e s m args below meth c D cA sp ad A cells slots R Q hC hR hk0 H locs ls hP hD hS hl)
theorem ev_l2i {J : mj_J} {pc q : Nat} {loc : List (Option Value)} {st : List Value} {S : mj_S} {f : mj_I} {g : mj_L} {post : Option Value → mj_I → mj_L → Prop} {x : Int64} (hd : decode (mj_cc J) pc = .ok (.l2i, 1)) (hq : pc + 1 = q) (k : mj_Ev J q loc (.int x.toInt32 :: st) S f g post) : mj_Ev J pc loc (.long x :: st) S f g post := by
  intro p l e s m args below meth c D cA sp ad A cells slots R Q hC hR hk0 H locs ls hP hD hS hl
  subst hq
  exact lv_l2i hC.1 hC.2.1 hd rfl (k p l e s m args below meth c D cA sp ad A cells slots R Q hC hR hk0 H locs ls hP hD hS hl)
theorem ev_i2b {J : mj_J} {pc q : Nat} {loc : List (Option Value)} {st : List Value} {S : mj_S} {f : mj_I} {g : mj_L} {post : Option Value → mj_I → mj_L → Prop} {x : Int32} (hd : decode (mj_cc J) pc = .ok (.i2b, 1)) (hq : pc + 1 = q) (k : mj_Ev J q loc (.int x.toInt8.toInt32 :: st) S f g post) : mj_Ev J pc loc (.int x :: st) S f g post := by
  intro p l e s m args below meth c D cA sp ad A cells slots R Q hC hR hk0 H locs ls hP hD hS hl
  subst hq
  exact lv_i2b hC.1 hC.2.1 hd rfl (k p l e s m args below meth c D cA sp ad A cells slots R Q hC hR hk0 H locs ls hP hD hS hl)
theorem ev_i2s {J : mj_J} {pc q : Nat} {loc : List (Option Value)} {st : List Value} {S : mj_S} {f : mj_I} {g : mj_L} {post : Option Value → mj_I → mj_L → Prop} {x : Int32} (hd : decode (mj_cc J) pc = .ok (.i2s, 1)) (hq : pc + 1 = q) (k : mj_Ev J q loc (.int x.toInt16.toInt32 :: st) S f g post) : mj_Ev J pc loc (.int x :: st) S f g post := by
  intro p l e s m args below meth c D cA sp ad A cells slots R Q hC hR hk0 H locs ls hP hD hS hl
  subst hq
  exact lv_i2s hC.1 hC.2.1 hd rfl (k p l e s m args below meth c D cA sp ad A cells slots R Q hC hR hk0 H locs ls hP hD hS hl)
def mj_ushr (x y : Int32) : Int32 := (x.toUInt32 >>> (y.toUInt32 &&& Int32.toUInt32 31)).toInt32
theorem ev_iushr {J : mj_J} {pc q : Nat} {loc : List (Option Value)} {st : List Value} {S : mj_S} {f : mj_I} {g : mj_L} {post : Option Value → mj_I → mj_L → Prop} {x y : Int32} (hd : decode (mj_cc J) pc = .ok (.iushr, 1)) (hq : pc + 1 = q) (k : mj_Ev J q loc (.int (mj_ushr x y) :: st) S f g post) : mj_Ev J pc loc (.int y :: .int x :: st) S f g post := by
  intro p l e s m args below meth c D cA sp ad A cells slots R Q hC hR hk0 H locs ls hP hD hS hl
  subst hq
  exact lv_iushr hC.1 hC.2.1 hd rfl (k p l e s m args below meth c D cA sp ad A cells slots R Q hC hR hk0 H locs ls hP hD hS hl)
theorem ev_lcmp {J : mj_J} {pc q : Nat} {loc : List (Option Value)} {st : List Value} {S : mj_S} {f : mj_I} {g : mj_L} {post : Option Value → mj_I → mj_L → Prop} {x y : Int64} (hd : decode (mj_cc J) pc = .ok (.lcmp, 1)) (hq : pc + 1 = q) (k : mj_Ev J q loc (.int (lg_cmp x y) :: st) S f g post) : mj_Ev J pc loc (.long y :: .long x :: st) S f g post := by
  intro p l e s m args below meth c D cA sp ad A cells slots R Q hC hR hk0 H locs ls hP hD hS hl
  subst hq
  exact W.lcmp hC.1 hC.2.1 hd  (k p l e s m args below meth c D cA sp ad A cells slots R Q hC hR hk0 H locs ls hP hD hS hl)
theorem ev_dup {J : mj_J} {pc q : Nat} {loc : List (Option Value)} {st : List Value} {S : mj_S} {f : mj_I} {g : mj_L} {post : Option Value → mj_I → mj_L → Prop} {v : Value} (hd : decode (mj_cc J) pc = .ok (.dup, 1)) (hc : v.category = 1) (hq : pc + 1 = q) (k : mj_Ev J q loc (v :: v :: st) S f g post) : mj_Ev J pc loc (v :: st) S f g post := by
  intro p l e s m args below meth c D cA sp ad A cells slots R Q hC hR hk0 H locs ls hP hD hS hl
  subst hq
  exact lv_dup hC.1 hC.2.1 hd ((mj_tv_cat ad sp v).trans hc) (k p l e s m args below meth c D cA sp ad A cells slots R Q hC hR hk0 H locs ls hP hD hS hl)
theorem ev_pop {J : mj_J} {pc q : Nat} {loc : List (Option Value)} {st : List Value} {S : mj_S} {f : mj_I} {g : mj_L} {post : Option Value → mj_I → mj_L → Prop} {v : Value} (hd : decode (mj_cc J) pc = .ok (.pop, 1)) (hc : v.category = 1) (hq : pc + 1 = q) (k : mj_Ev J q loc (st) S f g post) : mj_Ev J pc loc (v :: st) S f g post := by
  intro p l e s m args below meth c D cA sp ad A cells slots R Q hC hR hk0 H locs ls hP hD hS hl
  subst hq
  exact lv_pop hC.1 hC.2.1 hd ((mj_tv_cat ad sp v).trans hc) (k p l e s m args below meth c D cA sp ad A cells slots R Q hC hR hk0 H locs ls hP hD hS hl)
theorem ev_dup2 {J : mj_J} {pc q : Nat} {loc : List (Option Value)} {st : List Value} {S : mj_S} {f : mj_I} {g : mj_L} {post : Option Value → mj_I → mj_L → Prop} {u v : Value} (hd : decode (mj_cc J) pc = .ok (.dup2, 1)) (hc : v.category = 1) (hc2 : u.category = 1) (hq : pc + 1 = q) (k : mj_Ev J q loc (v :: u :: v :: u :: st) S f g post) : mj_Ev J pc loc (v :: u :: st) S f g post := by
  intro p l e s m args below meth c D cA sp ad A cells slots R Q hC hR hk0 H locs ls hP hD hS hl
  subst hq
  exact lv_dup2_11 hC.1 hC.2.1 hd ((mj_tv_cat ad sp v).trans hc) ((mj_tv_cat ad sp u).trans hc2) (k p l e s m args below meth c D cA sp ad A cells slots R Q hC hR hk0 H locs ls hP hD hS hl)
theorem ev_iload_n {J : mj_J} {pc q : Nat} {loc : List (Option Value)} {st : List Value} {S : mj_S} {f : mj_I} {g : mj_L} {post : Option Value → mj_I → mj_L → Prop} {n : Fin 4} {x : Int32} (hd : decode (mj_cc J) pc = .ok (.iload_n n, 1)) (hl0 : loc[(n : Nat)]? = some (some (.int x))) (hq : pc + 1 = q) (k : mj_Ev J q loc (.int x :: st) S f g post) : mj_Ev J pc loc st S f g post := by
  intro p l e s m args below meth c D cA sp ad A cells slots R Q hC hR hk0 H locs ls hP hD hS hl
  subst hq
  exact lv_iload_n hC.1 hC.2.1 hd rfl (hl.2.2 _ _ hl0) (k p l e s m args below meth c D cA sp ad A cells slots R Q hC hR hk0 H locs ls hP hD hS hl)
theorem ev_iload {J : mj_J} {pc q : Nat} {loc : List (Option Value)} {st : List Value} {S : mj_S} {f : mj_I} {g : mj_L} {post : Option Value → mj_I → mj_L → Prop} {n : Nat} {x : Int32} (hd : decode (mj_cc J) pc = .ok (.iload n, 2)) (hl0 : loc[n]? = some (some (.int x))) (hq : pc + 2 = q) (k : mj_Ev J q loc (.int x :: st) S f g post) : mj_Ev J pc loc st S f g post := by
  intro p l e s m args below meth c D cA sp ad A cells slots R Q hC hR hk0 H locs ls hP hD hS hl
  subst hq
  exact lv_iload hC.1 hC.2.1 hd (hl.2.2 _ _ hl0) (k p l e s m args below meth c D cA sp ad A cells slots R Q hC hR hk0 H locs ls hP hD hS hl)
theorem ev_lload_n {J : mj_J} {pc q : Nat} {loc : List (Option Value)} {st : List Value} {S : mj_S} {f : mj_I} {g : mj_L} {post : Option Value → mj_I → mj_L → Prop} {n : Fin 4} {x : Int64} (hd : decode (mj_cc J) pc = .ok (.lload_n n, 1)) (hl0 : loc[(n : Nat)]? = some (some (.long x))) (hq : pc + 1 = q) (k : mj_Ev J q loc (.long x :: st) S f g post) : mj_Ev J pc loc st S f g post := by
  intro p l e s m args below meth c D cA sp ad A cells slots R Q hC hR hk0 H locs ls hP hD hS hl
  subst hq
  exact lv_lload_n hC.1 hC.2.1 hd rfl (hl.2.2 _ _ hl0) (k p l e s m args below meth c D cA sp ad A cells slots R Q hC hR hk0 H locs ls hP hD hS hl)
theorem ev_lload {J : mj_J} {pc q : Nat} {loc : List (Option Value)} {st : List Value} {S : mj_S} {f : mj_I} {g : mj_L} {post : Option Value → mj_I → mj_L → Prop} {n : Nat} {x : Int64} (hd : decode (mj_cc J) pc = .ok (.lload n, 2)) (hl0 : loc[n]? = some (some (.long x))) (hq : pc + 2 = q) (k : mj_Ev J q loc (.long x :: st) S f g post) : mj_Ev J pc loc st S f g post := by
  intro p l e s m args below meth c D cA sp ad A cells slots R Q hC hR hk0 H locs ls hP hD hS hl
  subst hq
  exact lv_lload hC.1 hC.2.1 hd (hl.2.2 _ _ hl0) (k p l e s m args below meth c D cA sp ad A cells slots R Q hC hR hk0 H locs ls hP hD hS hl)
theorem ev_aload_n {J : mj_J} {pc q : Nat} {loc : List (Option Value)} {st : List Value} {S : mj_S} {f : mj_I} {g : mj_L} {post : Option Value → mj_I → mj_L → Prop} {n : Fin 4} {x : Nat} (hd : decode (mj_cc J) pc = .ok (.aload_n n, 1)) (hl0 : loc[(n : Nat)]? = some (some (.ref x))) (hq : pc + 1 = q) (k : mj_Ev J q loc (.ref x :: st) S f g post) : mj_Ev J pc loc st S f g post := by
  intro p l e s m args below meth c D cA sp ad A cells slots R Q hC hR hk0 H locs ls hP hD hS hl
  subst hq
  exact lv_aload_n hC.1 hC.2.1 hd rfl (hl.2.2 _ _ hl0) (k p l e s m args below meth c D cA sp ad A cells slots R Q hC hR hk0 H locs ls hP hD hS hl)
theorem ev_aload {J : mj_J} {pc q : Nat} {loc : List (Option Value)} {st : List Value} {S : mj_S} {f : mj_I} {g : mj_L} {post : Option Value → mj_I → mj_L → Prop} {n : Nat} {x : Nat} (hd : decode (mj_cc J) pc = .ok (.aload n, 2)) (hl0 : loc[n]? = some (some (.ref x))) (hq : pc + 2 = q) (k : mj_Ev J q loc (.ref x :: st) S f g post) : mj_Ev J pc loc st S f g post := by
  intro p l e s m args below meth c D cA sp ad A cells slots R Q hC hR hk0 H locs ls hP hD hS hl
  subst hq
  exact lv_aload hC.1 hC.2.1 hd (hl.2.2 _ _ hl0) (k p l e s m args below meth c D cA sp ad A cells slots R Q hC hR hk0 H locs ls hP hD hS hl)
theorem ev_istore_n {J : mj_J} {pc q : Nat} {loc : List (Option Value)} {st : List Value} {S : mj_S} {f : mj_I} {g : mj_L} {post : Option Value → mj_I → mj_L → Prop} {n : Fin 4} {x : Int32} {loc' : List (Option Value)} (hd : decode (mj_cc J) pc = .ok (.istore_n n, 1)) (hn : (n : Nat) < mj_nL J) (hs : mj_set loc (n : Nat) (.int x) = loc') (hq : pc + 1 = q) (k : mj_Ev J q loc' st S f g post) : mj_Ev J pc loc (.int x :: st) S f g post := by
  intro p l e s m args below meth c D cA sp ad A cells slots R Q hC hR hk0 H locs ls hP hD hS hl
  subst hq
  subst hs
  exact lv_istore_n hC.1 hC.2.1 hd rfl (mj_lv_has hl) hn rfl (fun ls hl => k p l e s m args below meth c D cA sp ad A cells slots R Q hC hR hk0 H locs ls hP hD hS (mj_lv_set (v := .int x) hl))
theorem ev_istore {J : mj_J} {pc q : Nat} {loc : List (Option Value)} {st : List Value} {S : mj_S} {f : mj_I} {g : mj_L} {post : Option Value → mj_I → mj_L → Prop} {n : Nat} {x : Int32} {loc' : List (Option Value)} (hd : decode (mj_cc J) pc = .ok (.istore n, 2)) (hn : n < mj_nL J) (hs : mj_set loc n (.int x) = loc') (hq : pc + 2 = q) (k : mj_Ev J q loc' st S f g post) : mj_Ev J pc loc (.int x :: st) S f g post := by
  intro p l e s m args below meth c D cA sp ad A cells slots R Q hC hR hk0 H locs ls hP hD hS hl
  subst hq
  subst hs
  exact lv_istore hC.1 hC.2.1 hd (mj_lv_has hl) hn rfl (fun ls hl => k p l e s m args below meth c D cA sp ad A cells slots R Q hC hR hk0 H locs ls hP hD hS (mj_lv_set (v := .int x) hl))
theorem ev_lstore_n {J : mj_J} {pc q : Nat} {loc : List (Option Value)} {st : List Value} {S : mj_S} {f : mj_I} {g : mj_L} {post : Option Value → mj_I → mj_L → Prop} {n : Fin 4} {x : Int64} {loc' : List (Option Value)} (hd : decode (mj_cc J) pc = .ok (.lstore_n n, 1)) (hn : (n : Nat) + 1 < mj_nL J) (hs : mj_set2 loc (n : Nat) (.long x) = loc') (hq : pc + 1 = q) (k : mj_Ev J q loc' st S f g post) : mj_Ev J pc loc (.long x :: st) S f g post := by
  intro p l e s m args below meth c D cA sp ad A cells slots R Q hC hR hk0 H locs ls hP hD hS hl
  subst hq
  subst hs
  exact lv_lstore_n hC.1 hC.2.1 hd rfl (mj_lv_has hl) hn rfl (fun ls hl => k p l e s m args below meth c D cA sp ad A cells slots R Q hC hR hk0 H locs ls hP hD hS (mj_lv_set2 (v := .long x) hl))
theorem ev_lstore {J : mj_J} {pc q : Nat} {loc : List (Option Value)} {st : List Value} {S : mj_S} {f : mj_I} {g : mj_L} {post : Option Value → mj_I → mj_L → Prop} {n : Nat} {x : Int64} {loc' : List (Option Value)} (hd : decode (mj_cc J) pc = .ok (.lstore n, 2)) (hn : n + 1 < mj_nL J) (hs : mj_set2 loc n (.long x) = loc') (hq : pc + 2 = q) (k : mj_Ev J q loc' st S f g post) : mj_Ev J pc loc (.long x :: st) S f g post := by
  intro p l e s m args below meth c D cA sp ad A cells slots R Q hC hR hk0 H locs ls hP hD hS hl
  subst hq
  subst hs
  exact lv_lstore hC.1 hC.2.1 hd (mj_lv_has hl) hn rfl (fun ls hl => k p l e s m args below meth c D cA sp ad A cells slots R Q hC hR hk0 H locs ls hP hD hS (mj_lv_set2 (v := .long x) hl))
theorem ev_astore_n {J : mj_J} {pc q : Nat} {loc : List (Option Value)} {st : List Value} {S : mj_S} {f : mj_I} {g : mj_L} {post : Option Value → mj_I → mj_L → Prop} {n : Fin 4} {x : Nat} {loc' : List (Option Value)} (hd : decode (mj_cc J) pc = .ok (.astore_n n, 1)) (hn : (n : Nat) < mj_nL J) (hs : mj_set loc (n : Nat) (.ref x) = loc') (hq : pc + 1 = q) (k : mj_Ev J q loc' st S f g post) : mj_Ev J pc loc (.ref x :: st) S f g post := by
  intro p l e s m args below meth c D cA sp ad A cells slots R Q hC hR hk0 H locs ls hP hD hS hl
  subst hq
  subst hs
  exact lv_astore_n hC.1 hC.2.1 hd rfl (mj_lv_has hl) hn rfl (fun ls hl => k p l e s m args below meth c D cA sp ad A cells slots R Q hC hR hk0 H locs ls hP hD hS (mj_lv_set (v := .ref x) hl))
theorem ev_astore {J : mj_J} {pc q : Nat} {loc : List (Option Value)} {st : List Value} {S : mj_S} {f : mj_I} {g : mj_L} {post : Option Value → mj_I → mj_L → Prop} {n : Nat} {x : Nat} {loc' : List (Option Value)} (hd : decode (mj_cc J) pc = .ok (.astore n, 2)) (hn : n < mj_nL J) (hs : mj_set loc n (.ref x) = loc') (hq : pc + 2 = q) (k : mj_Ev J q loc' st S f g post) : mj_Ev J pc loc (.ref x :: st) S f g post := by
  intro p l e s m args below meth c D cA sp ad A cells slots R Q hC hR hk0 H locs ls hP hD hS hl
  subst hq
  subst hs
  exact lv_astore hC.1 hC.2.1 hd (mj_lv_has hl) hn rfl (fun ls hl => k p l e s m args below meth c D cA sp ad A cells slots R Q hC hR hk0 H locs ls hP hD hS (mj_lv_set (v := .ref x) hl))
theorem ev_iinc {J : mj_J} {pc q : Nat} {loc : List (Option Value)} {st : List Value} {S : mj_S} {f : mj_I} {g : mj_L} {post : Option Value → mj_I → mj_L → Prop} {n : Nat} {z : Int} {x v : Int32} {loc' : List (Option Value)} (hd : decode (mj_cc J) pc = .ok (.iinc n z, 3)) (hl0 : loc[n]? = some (some (.int x))) (hn : n < mj_nL J) (hz : Int32.ofInt z = v) (hs : mj_set loc n (.int (x + v)) = loc') (hq : pc + 3 = q) (k : mj_Ev J q loc' st S f g post) : mj_Ev J pc loc st S f g post := by
  intro p l e s m args below meth c D cA sp ad A cells slots R Q hC hR hk0 H locs ls hP hD hS hl
  subst hq
  subst hs
  subst hz
  have hm : (n, Value.int x) ∈ mj_al (mj_tv ad sp) loc := mj_al_mem.mpr ⟨_, hl0, rfl⟩
  obtain ⟨j, hj⟩ := List.getElem?_of_mem hm
  exact lv_iinc hC.1 hC.2.1 hd (mj_lv_has hl) hj rfl hn rfl (fun ls hl => k p l e s m args below meth c D cA sp ad A cells slots R Q hC hR hk0 H locs ls hP hD hS (mj_lv_set (v := .int _) hl))
theorem ev_if_eq {J : mj_J} {pc q : Nat} {loc : List (Option Value)} {st : List Value} {S : mj_S} {f : mj_I} {g : mj_L} {post : Option Value → mj_I → mj_L → Prop} {α : Type} {A B O : α} {x : Int32} {off : Int} {t : Nat} (hd : decode (mj_cc J) pc = .ok (.ifCond .eq off, 3)) (ht : (pc : Int) + off = (t : Int)) (hq : pc + 3 = q) (hg : (if x = 0 then A else B) = O) (ka : A = O → mj_Ev J t loc st S f g post) (kb : B = O → mj_Ev J q loc st S f g post) : mj_Ev J pc loc (.int x :: st) S f g post := by
  intro p l e s m args below meth c D cA sp ad A cells slots R Q hC hR hk0 H locs ls hP hD hS hl
  subst hq
  by_cases hc : x = 0
  · rw [if_pos hc] at hg
    exact lv_if_eq hC.1 hC.2.1 hd ht (fun _ => ka hg p l e s m args below meth c D cA sp ad A cells slots R Q hC hR hk0 H locs ls hP hD hS hl) (fun h => absurd hc (h))
  · rw [if_neg hc] at hg
    exact lv_if_eq hC.1 hC.2.1 hd ht (fun h => absurd h (hc)) (fun _ => kb hg p l e s m args below meth c D cA sp ad A cells slots R Q hC hR hk0 H locs ls hP hD hS hl)
theorem ev_if_lt {J : mj_J} {pc q : Nat} {loc : List (Option Value)} {st : List Value} {S : mj_S} {f : mj_I} {g : mj_L} {post : Option Value → mj_I → mj_L → Prop} {α : Type} {A B O : α} {x : Int32} {off : Int} {t : Nat} (hd : decode (mj_cc J) pc = .ok (.ifCond .lt off, 3)) (ht : (pc : Int) + off = (t : Int)) (hq : pc + 3 = q) (hg : (if x < 0 then A else B) = O) (ka : A = O → mj_Ev J t loc st S f g post) (kb : B = O → mj_Ev J q loc st S f g post) : mj_Ev J pc loc (.int x :: st) S f g post := by
  intro p l e s m args below meth c D cA sp ad A cells slots R Q hC hR hk0 H locs ls hP hD hS hl
  subst hq
  by_cases hc : x < 0
  · rw [if_pos hc] at hg
    exact lv_if_lt hC.1 hC.2.1 hd ht (fun _ => ka hg p l e s m args below meth c D cA sp ad A cells slots R Q hC hR hk0 H locs ls hP hD hS hl) (fun h => absurd hc (h))
  · rw [if_neg hc] at hg
    exact lv_if_lt hC.1 hC.2.1 hd ht (fun h => absurd h (hc)) (fun _ => kb hg p l e s m args below meth c D cA sp ad A cells slots R Q hC hR hk0 H locs ls hP hD hS hl)
theorem ev_if_gt {J : mj_J} {pc q : Nat} {loc : List (Option Value)} {st : List Value} {S : mj_S} {f : mj_I} {g : mj_L} {post : Option Value → mj_I → mj_L → Prop} {α : Type} {A B O : α} {x : Int32} {off : Int} {t : Nat} (hd : decode (mj_cc J) pc = .ok (.ifCond .gt off, 3)) (ht : (pc : Int) + off = (t : Int)) (hq : pc + 3 = q) (hg : (if 0 < x then A else B) = O) (ka : A = O → mj_Ev J t loc st S f g post) (kb : B = O → mj_Ev J q loc st S f g post) : mj_Ev J pc loc (.int x :: st) S f g post := by
  intro p l e s m args below meth c D cA sp ad A cells slots R Q hC hR hk0 H locs ls hP hD hS hl
  subst hq
  by_cases hc : 0 < x
  · rw [if_pos hc] at hg
    exact lv_if_gt hC.1 hC.2.1 hd ht (fun _ => ka hg p l e s m args below meth c D cA sp ad A cells slots R Q hC hR hk0 H locs ls hP hD hS hl) (fun h => absurd hc (h))
  · rw [if_neg hc] at hg
    exact lv_if_gt hC.1 hC.2.1 hd ht (fun h => absurd h (hc)) (fun _ => kb hg p l e s m args below meth c D cA sp ad A cells slots R Q hC hR hk0 H locs ls hP hD hS hl)
theorem ev_if_ne {J : mj_J} {pc q : Nat} {loc : List (Option Value)} {st : List Value} {S : mj_S} {f : mj_I} {g : mj_L} {post : Option Value → mj_I → mj_L → Prop} {α : Type} {A B O : α} {x : Int32} {off : Int} {t : Nat} (hd : decode (mj_cc J) pc = .ok (.ifCond .ne off, 3)) (ht : (pc : Int) + off = (t : Int)) (hq : pc + 3 = q) (hg : (if x = 0 then A else B) = O) (ka : A = O → mj_Ev J q loc st S f g post) (kb : B = O → mj_Ev J t loc st S f g post) : mj_Ev J pc loc (.int x :: st) S f g post := by
  intro p l e s m args below meth c D cA sp ad A cells slots R Q hC hR hk0 H locs ls hP hD hS hl
  subst hq
  by_cases hc : x = 0
  · rw [if_pos hc] at hg
    exact lv_if_ne hC.1 hC.2.1 hd ht (fun h => absurd hc (h)) (fun _ => ka hg p l e s m args below meth c D cA sp ad A cells slots R Q hC hR hk0 H locs ls hP hD hS hl)
  · rw [if_neg hc] at hg
    exact lv_if_ne hC.1 hC.2.1 hd ht (fun _ => kb hg p l e s m args below meth c D cA sp ad A cells slots R Q hC hR hk0 H locs ls hP hD hS hl) (fun h => absurd (h) hc)
theorem ev_if_ge {J : mj_J} {pc q : Nat} {loc : List (Option Value)} {st : List Value} {S : mj_S} {f : mj_I} {g : mj_L} {post : Option Value → mj_I → mj_L → Prop} {α : Type} {A B O : α} {x : Int32} {off : Int} {t : Nat} (hd : decode (mj_cc J) pc = .ok (.ifCond .ge off, 3)) (ht : (pc : Int) + off = (t : Int)) (hq : pc + 3 = q) (hg : (if x < 0 then A else B) = O) (ka : A = O → mj_Ev J q loc st S f g post) (kb : B = O → mj_Ev J t loc st S f g post) : mj_Ev J pc loc (.int x :: st) S f g post := by
  intro p l e s m args below meth c D cA sp ad A cells slots R Q hC hR hk0 H locs ls hP hD hS hl
  subst hq
  by_cases hc : x < 0
  · rw [if_pos hc] at hg
    exact lv_if_ge hC.1 hC.2.1 hd ht (fun h => absurd hc (Int32.not_lt.mpr h)) (fun _ => ka hg p l e s m args below meth c D cA sp ad A cells slots R Q hC hR hk0 H locs ls hP hD hS hl)
  · rw [if_neg hc] at hg
    exact lv_if_ge hC.1 hC.2.1 hd ht (fun _ => kb hg p l e s m args below meth c D cA sp ad A cells slots R Q hC hR hk0 H locs ls hP hD hS hl) (fun h => absurd (Int32.not_le.mp h) hc)
theorem ev_if_le {J : mj_J} {pc q : Nat} {loc : List (Option Value)} {st : List Value} {S : mj_S} {f : mj_I} {g : mj_L} {post : Option Value → mj_I → mj_L → Prop} {α : Type} {A B O : α} {x : Int32} {off : Int} {t : Nat} (hd : decode (mj_cc J) pc = .ok (.ifCond .le off, 3)) (ht : (pc : Int) + off = (t : Int)) (hq : pc + 3 = q) (hg : (if 0 < x then A else B) = O) (ka : A = O → mj_Ev J q loc st S f g post) (kb : B = O → mj_Ev J t loc st S f g post) : mj_Ev J pc loc (.int x :: st) S f g post := by
  intro p l e s m args below meth c D cA sp ad A cells slots R Q hC hR hk0 H locs ls hP hD hS hl
  subst hq
  by_cases hc : 0 < x
  · rw [if_pos hc] at hg
    exact lv_if_le hC.1 hC.2.1 hd ht (fun h => absurd hc (Int32.not_lt.mpr h)) (fun _ => ka hg p l e s m args below meth c D cA sp ad A cells slots R Q hC hR hk0 H locs ls hP hD hS hl)
  · rw [if_neg hc] at hg
    exact lv_if_le hC.1 hC.2.1 hd ht (fun _ => kb hg p l e s m args below meth c D cA sp ad A cells slots R Q hC hR hk0 H locs ls hP hD hS hl) (fun h => absurd (Int32.not_le.mp h) hc)
theorem ev_icmp_eq {J : mj_J} {pc q : Nat} {loc : List (Option Value)} {st : List Value} {S : mj_S} {f : mj_I} {g : mj_L} {post : Option Value → mj_I → mj_L → Prop} {α : Type} {A B O : α} {x y : Int32} {off : Int} {t : Nat} (hd : decode (mj_cc J) pc = .ok (.if_icmp .eq off, 3)) (ht : (pc : Int) + off = (t : Int)) (hq : pc + 3 = q) (hg : (if x = y then A else B) = O) (ka : A = O → mj_Ev J t loc st S f g post) (kb : B = O → mj_Ev J q loc st S f g post) : mj_Ev J pc loc (.int y :: .int x :: st) S f g post := by
  intro p l e s m args below meth c D cA sp ad A cells slots R Q hC hR hk0 H locs ls hP hD hS hl
  subst hq
  by_cases hc : x = y
  · rw [if_pos hc] at hg
    exact lv_icmp_eq hC.1 hC.2.1 hd ht (fun _ => ka hg p l e s m args below meth c D cA sp ad A cells slots R Q hC hR hk0 H locs ls hP hD hS hl) (fun h => absurd hc (h))
  · rw [if_neg hc] at hg
    exact lv_icmp_eq hC.1 hC.2.1 hd ht (fun h => absurd h (hc)) (fun _ => kb hg p l e s m args below meth c D cA sp ad A cells slots R Q hC hR hk0 H locs ls hP hD hS hl)
theorem ev_icmp_lt {J : mj_J} {pc q : Nat} {loc : List (Option Value)} {st : List Value} {S : mj_S} {f : mj_I} {g : mj_L} {post : Option Value → mj_I → mj_L → Prop} {α : Type} {A B O : α} {x y : Int32} {off : Int} {t : Nat} (hd : decode (mj_cc J) pc = .ok (.if_icmp .lt off, 3)) (ht : (pc : Int) + off = (t : Int)) (hq : pc + 3 = q) (hg : (if x < y then A else B) = O) (ka : A = O → mj_Ev J t loc st S f g post) (kb : B = O → mj_Ev J q loc st S f g post) : mj_Ev J pc loc (.int y :: .int x :: st) S f g post := by
  intro p l e s m args below meth c D cA sp ad A cells slots R Q hC hR hk0 H locs ls hP hD hS hl
  subst hq
  by_cases hc : x < y
  · rw [if_pos hc] at hg
    exact lv_icmp_lt hC.1 hC.2.1 hd ht (fun _ => ka hg p l e s m args below meth c D cA sp ad A cells slots R Q hC hR hk0 H locs ls hP hD hS hl) (fun h => absurd hc (h))
  · rw [if_neg hc] at hg
    exact lv_icmp_lt hC.1 hC.2.1 hd ht (fun h => absurd h (hc)) (fun _ => kb hg p l e s m args below meth c D cA sp ad A cells slots R Q hC hR hk0 H locs ls hP hD hS hl)
theorem ev_icmp_gt {J : mj_J} {pc q : Nat} {loc : List (Option Value)} {st : List Value} {S : mj_S} {f : mj_I} {g : mj_L} {post : Option Value → mj_I → mj_L → Prop} {α : Type} {A B O : α} {x y : Int32} {off : Int} {t : Nat} (hd : decode (mj_cc J) pc = .ok (.if_icmp .gt off, 3)) (ht : (pc : Int) + off = (t : Int)) (hq : pc + 3 = q) (hg : (if y < x then A else B) = O) (ka : A = O → mj_Ev J t loc st S f g post) (kb : B = O → mj_Ev J q loc st S f g post) : mj_Ev J pc loc (.int y :: .int x :: st) S f g post := by
  intro p l e s m args below meth c D cA sp ad A cells slots R Q hC hR hk0 H locs ls hP hD hS hl
  subst hq
  by_cases hc : y < x
  · rw [if_pos hc] at hg
    exact lv_icmp_gt hC.1 hC.2.1 hd ht (fun _ => ka hg p l e s m args below meth c D cA sp ad A cells slots R Q hC hR hk0 H locs ls hP hD hS hl) (fun h => absurd hc (h))
  · rw [if_neg hc] at hg
    exact lv_icmp_gt hC.1 hC.2.1 hd ht (fun h => absurd h (hc)) (fun _ => kb hg p l e s m args below meth c D cA sp ad A cells slots R Q hC hR hk0 H locs ls hP hD hS hl)
theorem ev_icmp_ne {J : mj_J} {pc q : Nat} {loc : List (Option Value)} {st : List Value} {S : mj_S} {f : mj_I} {g : mj_L} {post : Option Value → mj_I → mj_L → Prop} {α : Type} {A B O : α} {x y : Int32} {off : Int} {t : Nat} (hd : decode (mj_cc J) pc = .ok (.if_icmp .ne off, 3)) (ht : (pc : Int) + off = (t : Int)) (hq : pc + 3 = q) (hg : (if x = y then A else B) = O) (ka : A = O → mj_Ev J q loc st S f g post) (kb : B = O → mj_Ev J t loc st S f g post) : mj_Ev J pc loc (.int y :: .int x :: st) S f g post := by
  intro p l e s m args below meth c D cA sp ad A cells slots R Q hC hR hk0 H locs ls hP hD hS hl
  subst hq
  by_cases hc : x = y
  · rw [if_pos hc] at hg
    exact lv_icmp_ne hC.1 hC.2.1 hd ht (fun h => absurd hc (h)) (fun _ => ka hg p l e s m args below meth c D cA sp ad A cells slots R Q hC hR hk0 H locs ls hP hD hS hl)
  · rw [if_neg hc] at hg
    exact lv_icmp_ne hC.1 hC.2.1 hd ht (fun _ => kb hg p l e s m args below meth c D cA sp ad A cells slots R Q hC hR hk0 H locs ls hP hD hS hl) (fun h => absurd (h) hc)
theorem ev_icmp_ge {J : mj_J} {pc q : Nat} {loc : List (Option Value)} {st : List Value} {S : mj_S} {f : mj_I} {g : mj_L} {post : Option Value → mj_I → mj_L → Prop} {α : Type} {A B O : α} {x y : Int32} {off : Int} {t : Nat} (hd : decode (mj_cc J) pc = .ok (.if_icmp .ge off, 3)) (ht : (pc : Int) + off = (t : Int)) (hq : pc + 3 = q) (hg : (if x < y then A else B) = O) (ka : A = O → mj_Ev J q loc st S f g post) (kb : B = O → mj_Ev J t loc st S f g post) : mj_Ev J pc loc (.int y :: .int x :: st) S f g post := by
  intro p l e s m args below meth c D cA sp ad A cells slots R Q hC hR hk0 H locs ls hP hD hS hl
  subst hq
  by_cases hc : x < y
  · rw [if_pos hc] at hg
    exact lv_icmp_ge hC.1 hC.2.1 hd ht (fun h => absurd hc (Int32.not_lt.mpr h)) (fun _ => ka hg p l e s m args below meth c D cA sp ad A cells slots R Q hC hR hk0 H locs ls hP hD hS hl)
  · rw [if_neg hc] at hg
    exact lv_icmp_ge hC.1 hC.2.1 hd ht (fun _ => kb hg p l e s m args below meth c D cA sp ad A cells slots R Q hC hR hk0 H locs ls hP hD hS hl) (fun h => absurd (Int32.not_le.mp h) hc)
theorem ev_icmp_le {J : mj_J} {pc q : Nat} {loc : List (Option Value)} {st : List Value} {S : mj_S} {f : mj_I} {g : mj_L} {post : Option Value → mj_I → mj_L → Prop} {α : Type} {A B O : α} {x y : Int32} {off : Int} {t : Nat} (hd : decode (mj_cc J) pc = .ok (.if_icmp .le off, 3)) (ht : (pc : Int) + off = (t : Int)) (hq : pc + 3 = q) (hg : (if y < x then A else B) = O) (ka : A = O → mj_Ev J q loc st S f g post) (kb : B = O → mj_Ev J t loc st S f g post) : mj_Ev J pc loc (.int y :: .int x :: st) S f g post := by
  intro p l e s m args below meth c D cA sp ad A cells slots R Q hC hR hk0 H locs ls hP hD hS hl
  subst hq
  by_cases hc : y < x
  · rw [if_pos hc] at hg
    exact lv_icmp_le hC.1 hC.2.1 hd ht (fun h => absurd hc (Int32.not_lt.mpr h)) (fun _ => ka hg p l e s m args below meth c D cA sp ad A cells slots R Q hC hR hk0 H locs ls hP hD hS hl)
  · rw [if_neg hc] at hg
    exact lv_icmp_le hC.1 hC.2.1 hd ht (fun _ => kb hg p l e s m args below meth c D cA sp ad A cells slots R Q hC hR hk0 H locs ls hP hD hS hl) (fun h => absurd (Int32.not_le.mp h) hc)
theorem ev_goto {J : mj_J} {pc q : Nat} {loc : List (Option Value)} {st : List Value} {S : mj_S} {f : mj_I} {g : mj_L} {post : Option Value → mj_I → mj_L → Prop} {off : Int} (hd : decode (mj_cc J) pc = .ok (.goto off, 3)) (ht : (pc : Int) + off = (q : Int)) (k : mj_Ev J q loc st S f g post) : mj_Ev J pc loc st S f g post := by
  intro p l e s m args below meth c D cA sp ad A cells slots R Q hC hR hk0 H locs ls hP hD hS hl
  exact lv_goto hC.1 hC.2.1 hd ht (k p l e s m args below meth c D cA sp ad A cells slots R Q hC hR hk0 H locs ls hP hD hS hl)
