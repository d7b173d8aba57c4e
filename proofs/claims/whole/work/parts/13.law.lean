/-! THE CLAIM OUT OF ONE WALK OF THE LAW'S BODY. Your part is whole_start (and what it stands on); all else here is the same for every law, but numbers. -/
def R_law : String := "CloudHerdLaw"
def lw_P (b : Addr) (xs : List Int32) (args : Array Value) (s : State) : Prop := args = #[.ref b] ∧ s.IntsAt b xs ∧ xs.length ≤ 448 ∧ (Jvm.Cond.and given_1 narrow_1).before args s = true
def lw_Q (_ : Array Value) (s : State) (o : Outcome) (t : State) : Prop := o = .returned (some (.int 1)) ∧ Framed s o t [] 600000 7302250
def lw_Z (below : List Frame) (a : Array Value) (s : State) : State → Prop := fun t => ∃ o, t.status = .running ∧ Ended t below o ∧ lw_Q a s o t
/-- the law's own end, with 1 on the stack, nothing written that was there before, its room as the claim has it -/
theorem lw_ret {p : Program} {l : Launch} {e : Env} {s : State} {m : MethodId} {below : List Frame} {meth : Method} {c : Code} {b : Nat} (hx : p.tables.exec = Jvm.exec) (hb : c.code = code) (hr : meth.sig.returnType = ret) (hlocks : meth.locks = false) {pc : Nat} {H : Heap} {ls : Array Slot} (hdg : decode code pc = .ok (.ireturn, 1)) : W p l e room_1 s m #[Value.ref b] below meth c H [] 600000 7302250 (lw_Z below #[Value.ref b] s) (F0 m pc ls [.int 1]) := by
  intro T hT X
  obtain ⟨fs, hret, hrun, hended, hW, hframe⟩ := X.leave (v := some (.int 1)) (hlocks := hlocks) (fun h => by rw [hr] at h; cases h)
  have hmeth' : T.vm.method? m = some meth := X.method'
  refine ⟨T.setFrames fs, ?_, .returned (some (.int 1)), hrun, hended, rfl, ⟨_, rfl⟩, hW, hframe⟩
  jvm_step X.here [X.here.top, hx, hb, hdg, hmeth', hr, ret, narrow_b1]
  (try refine ⟨rfl, ?_⟩); (try refine ⟨rfl, ?_⟩)
  first | (intro acts; rw [hret _ acts rfl rfl rfl]) | rw [hret _ _ rfl rfl rfl]
  exact Steps.refl _
/-- what holds at the law's entry: the machine, the code, the tables' words (any of lw_tbl by 'hts w (by decide +kernel)'), the script of L ints xs at the cell b, what the Statement gives of the start (any of its parts by flat_of_before) -/
def lw_At (p : Program) (s : State) (m : MethodId) (meth : Method) (c : Code) (b L : Nat) (xs : Nat → Int32) : Prop :=
  p.tables.exec = Jvm.exec ∧ c.code = code ∧ meth.sig.returnType = ret ∧ c.maxLocals = 4 ∧ s.vm.findClass R_law = some m.cls ∧ (∀ w ∈ lw_tbl, w.before #[Value.ref b] s = true) ∧ va_X b L xs s s.heap ∧ b < s.heap.size ∧ meth.locks = false ∧ (Jvm.Cond.and given_1 narrow_1).before #[Value.ref b] s = true

/-! THE LAW OVER TWO WORLDS -/
def lw_tv (a b c : Nat) (v : Value) : Value := match v with
  | .ref 0 => .ref a
  | .ref _ => .ref b
  | .retAddr _ => .ref c
  | v => v
theorem lw_tv_cat (a b c : Nat) (v : Value) : (lw_tv a b c v).category = v.category := by
  unfold lw_tv
  split <;> rfl
theorem lw_tv_sum (a b c : Nat) (st : List Value) : ((st.map (lw_tv a b c)).map fun v => v.category).sum = (st.map fun v => v.category).sum := by
  induction st with
  | nil => rfl
  | cons v t ih => simp only [List.map_cons, List.sum_cons, lw_tv_cat, ih]
theorem lw_pv_tv {v : Option Value} (h : mj_pv v) (a b c : Nat) : v.toList.map (lw_tv a b c) = v.toList := by
  rcases h with rfl | ⟨x, rfl⟩ | ⟨x, rfl⟩ <;> rfl
def lw_w (adX adM : Nat → Nat) (cA : Nat → ClassId) (fX fM : mj_I) (gM : mj_L) : va_W := mj_w adX cA mx_S fX mj_zl ++ mj_w adM cA my_S fM gM
def lw_C (p : Program) (s : State) (m : MethodId) (meth : Method) (c : Code) (b L : Nat) (xs : Nat → Int32) (D : va_G) (cA : Nat → ClassId) (sp : Nat → Nat) : Prop := lw_At p s m meth c b L xs ∧ va_K D vwCl (mj_tys cA) s ∧ mj_X sp (fun q : Nat => s.heap.size ≤ q) s s.heap
def lw_Ev (L : Nat) (xs : Nat → Int32) (pc : Nat) (i : Int32) (st : List Value) (fX fM : mj_I) (gM : mj_L) : Prop :=
  ∀ (p : Program) (l : Launch) (e : Env) (s : State) (m : MethodId) (below : List Frame) (meth : Method) (c : Code) (b : Nat) (D : va_G) (cA : Nat → ClassId) (sp : Nat → Nat), lw_C p s m meth c b L xs D cA sp →
    ∀ (adX adM : Nat → Nat) (H : Heap) (locs : List Loc) (ls : Array Slot), va_P D vwCl (lw_w adX adM cA fX fM gM) H → va_D (fun q : Nat => s.heap.size ≤ q) (lw_w adX adM cA fX fM gM) → va_S (fun q : Nat => s.heap.size ≤ q) s.heap H locs → lv_has ls 4 [(0, .ref b), (1, .ref (adX 0)), (2, .ref (adM 0)), (3, .int i)] →
    W p l e room_1 s m #[Value.ref b] below meth c H locs 600000 7302250 (lw_Z below #[Value.ref b] s) (F0 m pc ls (st.map (lw_tv (adX 0) (adM 0) b)))
theorem mj_w_adr {ad : Nat → Nat} {cA : Nat → ClassId} {S : mj_S} {f : mj_I} {g : mj_L} {i : Nat} {q : Nat × va_E} (h : (mj_w ad cA S f g)[i]? = some q) (f2 : mj_I) (g2 : mj_L) : ∃ e2, (mj_w ad cA S f2 g2)[i]? = some (q.1, e2) := by
  rw [mj_w_get] at h
  cases hc : S[i]? with
  | none => rw [hc] at h; cases h
  | some c =>
    rw [hc] at h
    cases h
    exact ⟨_, mj_w_at hc⟩
theorem mj_w_len (ad : Nat → Nat) (cA : Nat → ClassId) (S : mj_S) (f : mj_I) (g : mj_L) : (mj_w ad cA S f g).length = S.length := by simp [mj_w]
/-- parts of two worlds side by side -/
theorem lw_left {A0 : Nat → Prop} {D : va_G} {w1 w2 : va_W} {H : Heap} (hP : va_P D vwCl (w1 ++ w2) H) (hD : va_D A0 (w1 ++ w2)) : va_P D vwCl w1 H ∧ va_D A0 w1 := by
  have g1 : ∀ (k : Nat) (q : Nat × va_E), w1[k]? = some q → (w1 ++ w2)[k]? = some q := fun k q h => by
    rw [List.getElem?_append_left (List.getElem?_eq_some_iff.mp h).1]; exact h
  exact ⟨fun k q h => hP k q (g1 k q h), fun i j x y hi hj hxy => hD.1 i j x y (g1 i x hi) (g1 j y hj) hxy, fun k q h => hD.2 k q (g1 k q h)⟩
theorem lw_right {A0 : Nat → Prop} {D : va_G} {w1 w2 : va_W} {H : Heap} (hP : va_P D vwCl (w1 ++ w2) H) (hD : va_D A0 (w1 ++ w2)) : va_P D vwCl w2 H ∧ va_D A0 w2 := by
  have g1 : ∀ (k : Nat) (q : Nat × va_E), w2[k]? = some q → (w1 ++ w2)[w1.length + k]? = some q := fun k q h => by
    rw [List.getElem?_append_right (by omega), show w1.length + k - w1.length = k by omega]; exact h
  exact ⟨fun k q h => hP _ q (g1 k q h), fun i j x y hi hj hxy => by have := hD.1 _ _ x y (g1 i x hi) (g1 j y hj) hxy; omega, fun k q h => hD.2 _ q (g1 k q h)⟩
theorem lw_far {A0 : Nat → Prop} {w1 w2 : va_W} (hD : va_D A0 (w1 ++ w2)) {i j : Nat} {x y : Nat × va_E} (hi : w1[i]? = some x) (hj : w2[j]? = some y) : x.1 ≠ y.1 := by
  intro h
  have h1 : (w1 ++ w2)[i]? = some x := by rw [List.getElem?_append_left (List.getElem?_eq_some_iff.mp hi).1]; exact hi
  have h2 : (w1 ++ w2)[w1.length + j]? = some y := by rw [List.getElem?_append_right (by omega), show w1.length + j - w1.length = j by omega]; exact hj
  have := hD.1 _ _ x y h1 h2 h
  have := (List.getElem?_eq_some_iff.mp hi).1
  omega
theorem lw_joinX {A0 : Nat → Prop} {D : va_G} {adX : Nat → Nat} {cA : Nat → ClassId} {S : mj_S} {f f' : mj_I} {g g' : mj_L} {wM : va_W} {H H1 : Heap} (hP : va_P D vwCl (mj_w adX cA S f g ++ wM) H) (hD : va_D A0 (mj_w adX cA S f g ++ wM)) (hk : ∀ q : Nat, q < H.size → ¬ va_A (mj_w adX cA S f g) H.size q → H1[q]? = H[q]?) (hP1 : va_P D vwCl (mj_w adX cA S f' g') H1) (hD1 : va_D A0 (mj_w adX cA S f' g')) : va_P D vwCl (mj_w adX cA S f' g' ++ wM) H1 ∧ va_D A0 (mj_w adX cA S f' g' ++ wM) := by
  obtain ⟨hP2, hD2⟩ := lw_right hP hD
  refine ⟨va_P.app hP1 (fun k q hq => (hP2 k q hq).kept (hk q.1 (hP2 k q hq).lt ?_)), va_D.app hD1 hD2 (fun i j x y hx hy => ?_)⟩
  · rintro (⟨k2, e2, h⟩ | h)
    · exact lw_far hD h hq rfl
    · have := (hP2 k q hq).lt
      omega
  · obtain ⟨e2, h2⟩ := mj_w_adr hx f g
    exact fun h => lw_far hD h2 hy h
theorem lw_joinM {A0 : Nat → Prop} {D : va_G} {adM : Nat → Nat} {cA : Nat → ClassId} {S : mj_S} {f f' : mj_I} {g g' : mj_L} {wX : va_W} {H H1 : Heap} (hP : va_P D vwCl (wX ++ mj_w adM cA S f g) H) (hD : va_D A0 (wX ++ mj_w adM cA S f g)) (hk : ∀ q : Nat, q < H.size → ¬ va_A (mj_w adM cA S f g) H.size q → H1[q]? = H[q]?) (hP1 : va_P D vwCl (mj_w adM cA S f' g') H1) (hD1 : va_D A0 (mj_w adM cA S f' g')) : va_P D vwCl (wX ++ mj_w adM cA S f' g') H1 ∧ va_D A0 (wX ++ mj_w adM cA S f' g') := by
  obtain ⟨hP2, hD2⟩ := lw_left hP hD
  refine ⟨va_P.app (fun k q hq => (hP2 k q hq).kept (hk q.1 (hP2 k q hq).lt ?_)) hP1, va_D.app hD2 hD1 (fun i j x y hx hy => ?_)⟩
  · rintro (⟨k2, e2, h⟩ | h)
    · exact lw_far hD hq h rfl
    · have := (hP2 k q hq).lt
      omega
  · obtain ⟨e2, h2⟩ := mj_w_adr hy f g
    exact fun h => lw_far hD hx h2 h
theorem mj_callF {p : Program} {l : Launch} {e : Env} {R : Room} {s : State} {m : MethodId} {args : Array Value} {below : List Frame} {meth : Method} {c : Code} {H : Heap} {locs : List Loc} {cells slots : Nat} {Q : State → Prop} {pc : Nat} {ls : Array Slot} {rest st0 : List Value} {a : Array Value} {A0 : Nat → Prop} {H0 : Heap} {D : va_G} {cA : Nat → ClassId} {ad : Nat → Nat} {S : mj_S} {f : mj_I} {g : mj_L} {post1 : Option Value → mj_I → mj_L → Prop}
    (hr : va_Run p l e R s m args below meth c H locs cells slots 0 0 (F0 m pc ls st0) rest (mj_Q D cA ad S (va_A (mj_w ad cA S f g) H.size) post1 a) (va_A (mj_w ad cA S f g) H.size)) (hS : va_S A0 H0 H locs) (hA : ∀ q, va_A (mj_w ad cA S f g) H.size q → A0 q)
    (kk : ∀ (v : Option Value) (f' : mj_I) (g' : mj_L) (H1 : Heap) (locs1 : List Loc), mj_pv v → post1 v f' g' → va_P D vwCl (mj_w ad cA S f' g') H1 → va_D A0 (mj_w ad cA S f' g') → (∀ q : Nat, q < H.size → ¬ va_A (mj_w ad cA S f g) H.size q → H1[q]? = H[q]?) → va_S A0 H0 H1 locs1 → W p l e R s m args below meth c H1 locs1 cells slots Q (F0 m (pc + 3) ls (v.toList ++ rest))) : W p l e R s m args below meth c H locs cells slots Q (F0 m pc ls st0) := by
  intro T hT X
  obtain ⟨v, st₀, t, T', L, h0, X', hL, e1, e2, ⟨⟨v', f', g', hv, hpv, hp, hP1, hD1⟩, hz, hk⟩, st⟩ := hr T hT X
  cases hv
  rw [h0] at hz hk
  obtain ⟨t2, a1, b1⟩ := kk v f' g' T'.heap (locs ++ L) hpv hp (by rw [e1]; exact hP1) (hD1.weaken (fun _ q _ h => hA q.1 h)) (fun q h1 h2 => by rw [e1]; exact hk q h1 h2)
    ⟨Nat.le_trans hS.1 (by rw [e1]; exact hz), fun q h1 h2 => by rw [e1, hk q (Nat.lt_of_lt_of_le h1 hS.1) (fun z => h2 (hA q z))]; exact hS.2.1 q h1 h2, fun q hq => by
      rcases List.mem_append.mp hq with h | h
      · exact hS.2.2 q h
      · exact hA _ (hL q h)⟩ T' rfl X'
  exact ⟨t2, st t2 a1, b1⟩
theorem lw_room9 : room_1.frames = 2048 ∧ room_1.locals = 84000 ∧ room_1.cells = 600000 ∧ room_1.slots = 7302250 := ⟨rfl, rfl, rfl, rfl⟩
theorem lw_iconst {L : Nat} {xs : Nat → Int32} {pc q : Nat} {i : Int32} {st : List Value} {fX fM : mj_I} {gM : mj_L} {z : Int} {v : Int32} (hd : decode code pc = .ok (.iconst z, 1)) (hv : Int32.ofInt z = v) (hq : pc + 1 = q) (k : lw_Ev L xs q i (.int v :: st) fX fM gM) : lw_Ev L xs pc i (st) fX fM gM := by
  intro p l e s m below meth c b D cA sp hC adX adM H locs ls hP hD hS hl
  subst hq
  obtain ⟨⟨hx, hb, hr, hml, hown, hts, hX, hbl, hlocks, hgv⟩, hK, hXX⟩ := id hC
  exact lv_iconst hx hb hd hv (k p l e s m below meth c b D cA sp hC adX adM H locs ls hP hD hS hl)
theorem lw_bipush {L : Nat} {xs : Nat → Int32} {pc q : Nat} {i : Int32} {st : List Value} {fX fM : mj_I} {gM : mj_L} {z : Int} {v : Int32} (hd : decode code pc = .ok (.bipush z, 2)) (hv : (Int8.ofInt z).toInt32 = v) (hq : pc + 2 = q) (k : lw_Ev L xs q i (.int v :: st) fX fM gM) : lw_Ev L xs pc i (st) fX fM gM := by
  intro p l e s m below meth c b D cA sp hC adX adM H locs ls hP hD hS hl
  subst hq
  obtain ⟨⟨hx, hb, hr, hml, hown, hts, hX, hbl, hlocks, hgv⟩, hK, hXX⟩ := id hC
  exact lv_bipush hx hb hd hv (k p l e s m below meth c b D cA sp hC adX adM H locs ls hP hD hS hl)
theorem lw_iadd {L : Nat} {xs : Nat → Int32} {pc q : Nat} {i : Int32} {st : List Value} {fX fM : mj_I} {gM : mj_L} {x y : Int32} (hd : decode code pc = .ok (.iadd, 1)) (hq : pc + 1 = q) (k : lw_Ev L xs q i (.int (x + y) :: st) fX fM gM) : lw_Ev L xs pc i (.int y :: .int x :: st) fX fM gM := by
  intro p l e s m below meth c b D cA sp hC adX adM H locs ls hP hD hS hl
  subst hq
  obtain ⟨⟨hx, hb, hr, hml, hown, hts, hX, hbl, hlocks, hgv⟩, hK, hXX⟩ := id hC
  exact lv_iadd hx hb hd  (k p l e s m below meth c b D cA sp hC adX adM H locs ls hP hD hS hl)
theorem lw_isub {L : Nat} {xs : Nat → Int32} {pc q : Nat} {i : Int32} {st : List Value} {fX fM : mj_I} {gM : mj_L} {x y : Int32} (hd : decode code pc = .ok (.isub, 1)) (hq : pc + 1 = q) (k : lw_Ev L xs q i (.int (x - y) :: st) fX fM gM) : lw_Ev L xs pc i (.int y :: .int x :: st) fX fM gM := by
  intro p l e s m below meth c b D cA sp hC adX adM H locs ls hP hD hS hl
  subst hq
  obtain ⟨⟨hx, hb, hr, hml, hown, hts, hX, hbl, hlocks, hgv⟩, hK, hXX⟩ := id hC
  exact lv_isub hx hb hd  (k p l e s m below meth c b D cA sp hC adX adM H locs ls hP hD hS hl)
theorem lw_iand {L : Nat} {xs : Nat → Int32} {pc q : Nat} {i : Int32} {st : List Value} {fX fM : mj_I} {gM : mj_L} {x y : Int32} (hd : decode code pc = .ok (.iand, 1)) (hq : pc + 1 = q) (k : lw_Ev L xs q i (.int (x &&& y) :: st) fX fM gM) : lw_Ev L xs pc i (.int y :: .int x :: st) fX fM gM := by
  intro p l e s m below meth c b D cA sp hC adX adM H locs ls hP hD hS hl
  subst hq
  obtain ⟨⟨hx, hb, hr, hml, hown, hts, hX, hbl, hlocks, hgv⟩, hK, hXX⟩ := id hC
  exact lv_iand hx hb hd  (k p l e s m below meth c b D cA sp hC adX adM H locs ls hP hD hS hl)
theorem lw_lcmp {L : Nat} {xs : Nat → Int32} {pc q : Nat} {i : Int32} {st : List Value} {fX fM : mj_I} {gM : mj_L} {x y : Int64} (hd : decode code pc = .ok (.lcmp, 1)) (hq : pc + 1 = q) (k : lw_Ev L xs q i (.int (lg_cmp x y) :: st) fX fM gM) : lw_Ev L xs pc i (.long y :: .long x :: st) fX fM gM := by
  intro p l e s m below meth c b D cA sp hC adX adM H locs ls hP hD hS hl
  subst hq
  obtain ⟨⟨hx, hb, hr, hml, hown, hts, hX, hbl, hlocks, hgv⟩, hK, hXX⟩ := id hC
  exact W.lcmp hx hb hd  (k p l e s m below meth c b D cA sp hC adX adM H locs ls hP hD hS hl)
theorem lw_script {L : Nat} {xs : Nat → Int32} {pc q : Nat} {i : Int32} {st : List Value} {fX fM : mj_I} {gM : mj_L}  (hd : decode code pc = .ok (.aload_n 0, 1)) (hq : pc + 1 = q) (k : lw_Ev L xs q i (.retAddr 0 :: st) fX fM gM) : lw_Ev L xs pc i (st) fX fM gM := by
  intro p l e s m below meth c b D cA sp hC adX adM H locs ls hP hD hS hl
  subst hq
  obtain ⟨⟨hx, hb, hr, hml, hown, hts, hX, hbl, hlocks, hgv⟩, hK, hXX⟩ := id hC
  exact lv_aload_n hx hb hd rfl (lv_at hl 0 rfl) (k p l e s m below meth c b D cA sp hC adX adM H locs ls hP hD hS hl)
theorem lw_x {L : Nat} {xs : Nat → Int32} {pc q : Nat} {i : Int32} {st : List Value} {fX fM : mj_I} {gM : mj_L}  (hd : decode code pc = .ok (.aload_n 1, 1)) (hq : pc + 1 = q) (k : lw_Ev L xs q i (.ref 0 :: st) fX fM gM) : lw_Ev L xs pc i (st) fX fM gM := by
  intro p l e s m below meth c b D cA sp hC adX adM H locs ls hP hD hS hl
  subst hq
  obtain ⟨⟨hx, hb, hr, hml, hown, hts, hX, hbl, hlocks, hgv⟩, hK, hXX⟩ := id hC
  exact lv_aload_n hx hb hd rfl (lv_at hl 1 rfl) (k p l e s m below meth c b D cA sp hC adX adM H locs ls hP hD hS hl)
theorem lw_m {L : Nat} {xs : Nat → Int32} {pc q : Nat} {i : Int32} {st : List Value} {fX fM : mj_I} {gM : mj_L}  (hd : decode code pc = .ok (.aload_n 2, 1)) (hq : pc + 1 = q) (k : lw_Ev L xs q i (.ref 1 :: st) fX fM gM) : lw_Ev L xs pc i (st) fX fM gM := by
  intro p l e s m below meth c b D cA sp hC adX adM H locs ls hP hD hS hl
  subst hq
  obtain ⟨⟨hx, hb, hr, hml, hown, hts, hX, hbl, hlocks, hgv⟩, hK, hXX⟩ := id hC
  exact lv_aload_n hx hb hd rfl (lv_at hl 2 rfl) (k p l e s m below meth c b D cA sp hC adX adM H locs ls hP hD hS hl)
theorem lw_i {L : Nat} {xs : Nat → Int32} {pc q : Nat} {i : Int32} {st : List Value} {fX fM : mj_I} {gM : mj_L}  (hd : decode code pc = .ok (.iload_n 3, 1)) (hq : pc + 1 = q) (k : lw_Ev L xs q i (.int i :: st) fX fM gM) : lw_Ev L xs pc i (st) fX fM gM := by
  intro p l e s m below meth c b D cA sp hC adX adM H locs ls hP hD hS hl
  subst hq
  obtain ⟨⟨hx, hb, hr, hml, hown, hts, hX, hbl, hlocks, hgv⟩, hK, hXX⟩ := id hC
  exact lv_iload_n hx hb hd rfl (lv_at hl 3 rfl) (k p l e s m below meth c b D cA sp hC adX adM H locs ls hP hD hS hl)
theorem lw_len {L : Nat} {xs : Nat → Int32} {pc q : Nat} {i : Int32} {st : List Value} {fX fM : mj_I} {gM : mj_L} (hd : decode code pc = .ok (.arraylength, 1)) (hq : pc + 1 = q) (k : lw_Ev L xs q i (.int (nI L) :: st) fX fM gM) : lw_Ev L xs pc i (.retAddr 0 :: st) fX fM gM := by
  intro p l e s m below meth c b D cA sp hC adX adM H locs ls hP hD hS hl
  subst hq
  obtain ⟨⟨hx, hb, hr, hml, hown, hts, hX, hbl, hlocks, hgv⟩, hK, hXX⟩ := id hC
  exact va_slen hx hb hX hbl (Nat.not_le.mpr hbl) hS hd (k p l e s m below meth c b D cA sp hC adX adM H locs ls hP hD hS hl)
theorem lw_sld {L : Nat} {xs : Nat → Int32} {pc q : Nat} {i : Int32} {st : List Value} {fX fM : mj_I} {gM : mj_L} {x : Int32} {j : Nat} (hxj : x = nI j) (hj : j < L) (hL : L ≤ 448) (hd : decode code pc = .ok (.iaload, 1)) (hq : pc + 1 = q) (k : lw_Ev L xs q i (.int (xs j) :: st) fX fM gM) : lw_Ev L xs pc i (.int x :: .retAddr 0 :: st) fX fM gM := by
  intro p l e s m below meth c b D cA sp hC adX adM H locs ls hP hD hS hl
  subst hq
  subst hxj
  obtain ⟨⟨hx, hb, hr, hml, hown, hts, hX, hbl, hlocks, hgv⟩, hK, hXX⟩ := id hC
  have k9 := k p l e s m below meth c b D cA sp hC adX adM H locs ls hP hD hS hl
  have e9 : (nI j).toNatClampNeg = j := nI_clamp (by omega)
  refine va_sld hx hb hX hbl (Nat.not_le.mpr hbl) hS (vp_in_nI hj (by omega)) hd ?_
  rw [e9]
  exact k9
theorem lw_goto {L : Nat} {xs : Nat → Int32} {pc q : Nat} {i : Int32} {st : List Value} {fX fM : mj_I} {gM : mj_L} {off : Int} (hd : decode code pc = .ok (.goto off, 3)) (ht : (pc : Int) + off = (q : Int)) (k : lw_Ev L xs q i st fX fM gM) : lw_Ev L xs pc i st fX fM gM := by
  intro p l e s m below meth c b D cA sp hC adX adM H locs ls hP hD hS hl
  exact lv_goto hC.1.1 hC.1.2.1 hd ht (k p l e s m below meth c b D cA sp hC adX adM H locs ls hP hD hS hl)
theorem lw_eq {L : Nat} {xs : Nat → Int32} {pc q : Nat} {i : Int32} {st : List Value} {fX fM : mj_I} {gM : mj_L} {x y : Int32} {off : Int} (hxy : x = y) (hd : decode code pc = .ok (.if_icmp .eq off, 3)) (ht : (pc : Int) + off = (q : Int)) (k : lw_Ev L xs q i st fX fM gM) : lw_Ev L xs pc i (.int y :: .int x :: st) fX fM gM := by
  intro p l e s m below meth c b D cA sp hC adX adM H locs ls hP hD hS hl
  exact lv_icmp_eq hC.1.1 hC.1.2.1 hd ht (fun _ => k p l e s m below meth c b D cA sp hC adX adM H locs ls hP hD hS hl) (fun h => absurd hxy h)
theorem lw_eq0 {L : Nat} {xs : Nat → Int32} {pc q : Nat} {i : Int32} {st : List Value} {fX fM : mj_I} {gM : mj_L} {x : Int32} {off : Int} (hx0 : x = 0) (hd : decode code pc = .ok (.ifCond .eq off, 3)) (ht : (pc : Int) + off = (q : Int)) (k : lw_Ev L xs q i st fX fM gM) : lw_Ev L xs pc i (.int x :: st) fX fM gM := by
  intro p l e s m below meth c b D cA sp hC adX adM H locs ls hP hD hS hl
  exact lv_if_eq hC.1.1 hC.1.2.1 hd ht (fun _ => k p l e s m below meth c b D cA sp hC adX adM H locs ls hP hD hS hl) (fun h => absurd hx0 h)
theorem lw_gt {L : Nat} {xs : Nat → Int32} {pc q : Nat} {i : Int32} {st : List Value} {fX fM : mj_I} {gM : mj_L} {x y : Int32} {off : Int} {t : Nat} (hd : decode code pc = .ok (.if_icmp .gt off, 3)) (ht : (pc : Int) + off = (t : Int)) (hq : pc + 3 = q) (k1 : y < x → lw_Ev L xs t i st fX fM gM) (k2 : ¬ y < x → lw_Ev L xs q i st fX fM gM) : lw_Ev L xs pc i (.int y :: .int x :: st) fX fM gM := by
  intro p l e s m below meth c b D cA sp hC adX adM H locs ls hP hD hS hl
  subst hq
  exact lv_icmp_gt hC.1.1 hC.1.2.1 hd ht (fun h => k1 h p l e s m below meth c b D cA sp hC adX adM H locs ls hP hD hS hl) (fun h => k2 h p l e s m below meth c b D cA sp hC adX adM H locs ls hP hD hS hl)
theorem lw_inc {L : Nat} {xs : Nat → Int32} {pc q : Nat} {i : Int32} {st : List Value} {fX fM : mj_I} {gM : mj_L} {v : Int32} (hv : i + Int32.ofInt 7 = v) (hd : decode code pc = .ok (.iinc 3 7, 3)) (hq : pc + 3 = q) (k : lw_Ev L xs q v st fX fM gM) : lw_Ev L xs pc i st fX fM gM := by
  intro p l e s m below meth c b D cA sp hC adX adM H locs ls hP hD hS hl
  subst hq
  exact lv_iinc (lv' := [(3, .int v), (0, .ref b), (1, .ref (adX 0)), (2, .ref (adM 0))]) hC.1.1 hC.1.2.1 hd hl (k := 3) rfl hv (by decide) rfl (fun ls hl => k p l e s m below meth c b D cA sp hC adX adM H locs ls hP hD hS (lv_sub hl [1, 2, 3, 0] rfl))
theorem lw_end {L : Nat} {xs : Nat → Int32} {pc : Nat} {i : Int32} {fX fM : mj_I} {gM : mj_L} (hd : decode code pc = .ok (.ireturn, 1)) : lw_Ev L xs pc i [.int 1] fX fM gM := by
  intro p l e s m below meth c b D cA sp hC adX adM H locs ls hP hD hS hl
  refine va_forget (fun q hq => hS.2.2 q hq) ?_
  exact lw_ret hC.1.1 hC.1.2.1 hC.1.2.2.1 hC.1.2.2.2.2.2.2.2.2.1 hd
theorem lw_tabIn {L : Nat} {xs : Nat → Int32} {pc q : Nat} {i : Int32} {st : List Value} {fX fM : mj_I} {gM : mj_L} {dflt lo hi off : Int} {offs : Array Int} {len : Nat} {x v : Int32} (hxv : x = v) (hd : decode code pc = .ok (.tableswitch dflt lo hi offs, len)) (h1 : ¬ v.toInt < lo) (h2 : ¬ hi < v.toInt) (ho : offs[(v.toInt - lo).toNat]? = some off) (ht : (pc : Int) + off = (q : Int)) (k : lw_Ev L xs q i st fX fM gM) : lw_Ev L xs pc i (.int x :: st) fX fM gM := by
  intro p l e s m below meth c b D cA sp hC adX adM H locs ls hP hD hS hl
  subst hxv
  exact lv_tableIn hC.1.1 hC.1.2.1 hd h1 h2 ho ht (k p l e s m below meth c b D cA sp hC adX adM H locs ls hP hD hS hl)
theorem lw_tabOut {L : Nat} {xs : Nat → Int32} {pc q : Nat} {i : Int32} {st : List Value} {fX fM : mj_I} {gM : mj_L} {dflt lo hi : Int} {offs : Array Int} {len : Nat} {x : Int32} (hd : decode code pc = .ok (.tableswitch dflt lo hi offs, len)) (h : x.toInt < lo ∨ hi < x.toInt) (ht : (pc : Int) + dflt = (q : Int)) (k : lw_Ev L xs q i st fX fM gM) : lw_Ev L xs pc i (.int x :: st) fX fM gM := by
  intro p l e s m below meth c b D cA sp hC adX adM H locs ls hP hD hS hl
  exact lv_tableOut hC.1.1 hC.1.2.1 hd h ht (k p l e s m below meth c b D cA sp hC adX adM H locs ls hP hD hS hl)
theorem lw_callX {L : Nat} {xs : Nat → Int32} {pc q : Nat} {i : Int32} {st : List Value} {fX fM : mj_I} {gM : mj_L} {K : mj_J} {idx n : Nat} {as st0 : List Value} {post1 : Option Value → mj_I → mj_L → Prop} (hk : mj_K K n) (hi : Cond.instanceMethod (mj_y K) ∈ mj_gw) (hse : Cond.selects (mj_y K).cls (mj_y K) (mj_y K) ∈ mj_gw) (hlk : Cond.methodLink R_law idx (mj_y K) ∈ mj_gw) (hcl : (mj_y K).cls = RX6) (hsp : mj_Sp K mx_S (.ref 0 :: as) fX mj_zl post1) (hn : as.length = n) (hint : ∀ a b c : Nat, as.map (lw_tv a b c) = as) (hint2 : ∀ ad sp : Nat → Nat, as.map (mj_tv ad sp) = as) (hst : st0 = as.reverse ++ .ref 0 :: st) (hcat : (st.map fun v => v.category).sum ≤ 8) (hroom : mj_d K ≤ 100) (hd : decode code pc = .ok (.invokevirtual idx, 3)) (hq : pc + 3 = q) (kk : ∀ (v : Option Value) (f' : mj_I) (g' : mj_L), post1 v f' g' → g' = mj_zl ∧ lw_Ev L xs q i (v.toList ++ st) f' fM gM) : lw_Ev L xs pc i st0 fX fM gM := by
  intro p l e s m below meth c b D cA sp hC adX adM H locs ls hP hD hS hl
  subst hq
  subst hst
  obtain ⟨⟨hx, hb, hr, hml, hown, hts, hX, hbl, hlocks, hgv⟩, hK, hXX⟩ := id hC
  have hts9 : ∀ w ∈ mj_gw, w.before #[Value.ref b] s = true := fun w hw => hts w (List.mem_filter.mp hw).1
  obtain ⟨hPx, hDx⟩ := lw_left hP hD
  have h40 := hk.2.2.2.2.2
  have hA : ∀ q : Nat, s.heap.size ≤ q → (fun q : Nat => s.heap.size ≤ q) q := fun _ h => h
  have hF0 : (mj_room K).frames = mj_d K := rfl
  have hL0 : (mj_room K).locals = 64 * mj_d K := rfl
  have hF1 : room_1.frames = 2048 := rfl
  have hL1 : room_1.locals = 84000 := rfl
  have hrun : va_Run p l e room_1 s m #[Value.ref b] below meth c H locs 600000 7302250 0 0 (F0 m pc ls ((as.reverse ++ .ref 0 :: st).map (lw_tv (adX 0) (adM 0) b))) (st.map (lw_tv (adX 0) (adM 0) b)) (mj_Q D cA adX mx_S (va_A (mj_w adX cA mx_S fX mj_zl) H.size) post1 (Value.ref (adX 0) :: as).toArray) (va_A (mj_w adX cA mx_S fX mj_zl) H.size) := by
    refine va_runV (As := as) (b := adX 0) (C := (mj_y K).cls) (own := R_law) ⟨hx, hb, hml, hown, hts9⟩ (hsp l D cA sp adX H.size) ⟨callB_of n hts9 (mj_gw_code hk) rfl hk.2.2.2.1 hk.2.2.2.2.1 (hts9 _ hk.2.1) (hts9 _ hlk) hk.2.2.1 ⟨by rw [hF0, hF1]; omega, by rw [hL0, hL1]; omega⟩, hts9 _ hi, hts9 _ hse⟩ ⟨mj_blind D cA sp adX H.size mx_S fX mj_zl _, ?_, fun U hU hW => ⟨by rw [List.map_cons, hint2]; rfl, mj_pre hPx hDx hS hA hK hXX U hU hW⟩⟩ rfl hn hl.1 (by rw [List.map_append, List.map_cons, List.map_reverse, hint]; rfl) (lv_room (by rw [lw_tv_sum]; exact hcat)) hd ⟨Nat.le_of_ble_eq_true rfl, Nat.le_of_ble_eq_true rfl⟩
    rw [hcl]
    exact va_recv (ci := 6) (q0 := 0) (q := (RX6, TX6, 10)) hK hPx rfl (mj_w_at (c := .inl (6, [some 1, some 2, some 4, some 13, some 22, some 23, some 24, some 26, none, none])) rfl)
  refine mj_callF hrun hS (mj_sub hDx hS hA) (fun v f' g' H1 locs1 hpv hp1 hP1 hD1 hk1 hS1 => ?_)
  obtain ⟨hg0, k9⟩ := kk v f' g' hp1
  subst hg0
  obtain ⟨hP2, hD2⟩ := lw_joinX hP hD hk1 hP1 hD1
  have k8 := k9 p l e s m below meth c b D cA sp hC adX adM H1 locs1 ls hP2 hD2 hS1 hl
  rw [List.map_append, lw_pv_tv hpv] at k8
  exact k8
theorem lw_callM {L : Nat} {xs : Nat → Int32} {pc q : Nat} {i : Int32} {st : List Value} {fX fM : mj_I} {gM : mj_L} {K : mj_J} {idx n : Nat} {as st0 : List Value} {post1 : Option Value → mj_I → mj_L → Prop} (hk : mj_K K n) (hi : Cond.instanceMethod (mj_y K) ∈ mj_gw) (hse : Cond.selects (mj_y K).cls (mj_y K) (mj_y K) ∈ mj_gw) (hlk : Cond.methodLink R_law idx (mj_y K) ∈ mj_gw) (hcl : (mj_y K).cls = RX7) (hsp : mj_Sp K my_S (.ref 0 :: as) fM gM post1) (hn : as.length = n) (hint : ∀ a b c : Nat, as.map (lw_tv a b c) = as) (hint2 : ∀ ad sp : Nat → Nat, as.map (mj_tv ad sp) = as) (hst : st0 = as.reverse ++ .ref 1 :: st) (hcat : (st.map fun v => v.category).sum ≤ 8) (hroom : mj_d K ≤ 100) (hd : decode code pc = .ok (.invokevirtual idx, 3)) (hq : pc + 3 = q) (kk : ∀ (v : Option Value) (f' : mj_I) (g' : mj_L), post1 v f' g' → lw_Ev L xs q i (v.toList ++ st) fX f' g') : lw_Ev L xs pc i st0 fX fM gM := by
  intro p l e s m below meth c b D cA sp hC adX adM H locs ls hP hD hS hl
  subst hq
  subst hst
  obtain ⟨⟨hx, hb, hr, hml, hown, hts, hX, hbl, hlocks, hgv⟩, hK, hXX⟩ := id hC
  have hts9 : ∀ w ∈ mj_gw, w.before #[Value.ref b] s = true := fun w hw => hts w (List.mem_filter.mp hw).1
  obtain ⟨hPx, hDx⟩ := lw_right hP hD
  have h40 := hk.2.2.2.2.2
  have hA : ∀ q : Nat, s.heap.size ≤ q → (fun q : Nat => s.heap.size ≤ q) q := fun _ h => h
  have hF0 : (mj_room K).frames = mj_d K := rfl
  have hL0 : (mj_room K).locals = 64 * mj_d K := rfl
  have hF1 : room_1.frames = 2048 := rfl
  have hL1 : room_1.locals = 84000 := rfl
  have hrun : va_Run p l e room_1 s m #[Value.ref b] below meth c H locs 600000 7302250 0 0 (F0 m pc ls ((as.reverse ++ .ref 1 :: st).map (lw_tv (adX 0) (adM 0) b))) (st.map (lw_tv (adX 0) (adM 0) b)) (mj_Q D cA adM my_S (va_A (mj_w adM cA my_S fM gM) H.size) post1 (Value.ref (adM 0) :: as).toArray) (va_A (mj_w adM cA my_S fM gM) H.size) := by
    refine va_runV (As := as) (b := adM 0) (C := (mj_y K).cls) (own := R_law) ⟨hx, hb, hml, hown, hts9⟩ (hsp l D cA sp adM H.size) ⟨callB_of n hts9 (mj_gw_code hk) rfl hk.2.2.2.1 hk.2.2.2.2.1 (hts9 _ hk.2.1) (hts9 _ hlk) hk.2.2.1 ⟨by rw [hF0, hF1]; omega, by rw [hL0, hL1]; omega⟩, hts9 _ hi, hts9 _ hse⟩ ⟨mj_blind D cA sp adM H.size my_S fM gM _, ?_, fun U hU hW => ⟨by rw [List.map_cons, hint2]; rfl, mj_pre hPx hDx hS hA hK hXX U hU hW⟩⟩ rfl hn hl.1 (by rw [List.map_append, List.map_cons, List.map_reverse, hint]; rfl) (lv_room (by rw [lw_tv_sum]; exact hcat)) hd ⟨Nat.le_of_ble_eq_true rfl, Nat.le_of_ble_eq_true rfl⟩
    rw [hcl]
    exact va_recv (ci := 7) (q0 := 0) (q := (RX7, TX7, 29)) hK hPx rfl (mj_w_at (c := .inl (7, [some 1, some 2, some 3, none, none, some 4, some 5, some 6, none, none, none, none, none, none, none, some 7, none, some 8, none, some 9, some 10, some 11, none, none, none, some 12, some 13, some 14, none])) rfl)
  refine mj_callF hrun hS (mj_sub hDx hS hA) (fun v f' g' H1 locs1 hpv hp1 hP1 hD1 hk1 hS1 => ?_)
  obtain ⟨hP2, hD2⟩ := lw_joinM hP hD hk1 hP1 hD1
  have k8 := kk v f' g' hp1 p l e s m below meth c b D cA sp hC adX adM H1 locs1 ls hP2 hD2 hS1 hl
  rw [List.map_append, lw_pv_tv hpv] at k8
  exact k8
