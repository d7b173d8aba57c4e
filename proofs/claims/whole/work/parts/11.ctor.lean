/-! CONSTRUCTORS: the small machine with cells that are made. The world grows; the first cell's address stays; all references lie below the world's length. -/
def mj_z : mj_I := fun _ _ => 0
def mj_zl : mj_L := fun _ _ => 0
def mj_rb (n : Nat) (r : Option Nat) : Bool := match r with
  | none => true
  | some i => decide (i < n)
def mj_cb (n : Nat) (c : (Nat × List (Option Nat)) ⊕ (Nat × Nat × List (Option Nat))) : Bool := match c with
  | .inl (_, rs) => rs.all (mj_rb n)
  | .inr (_, _, rs) => rs.all (mj_rb n)
def mj_cl (n : Nat) (S : mj_S) : Bool := S.all (mj_cb n)
def mj_vr (n : Nat) (v : Value) : Bool := match v with
  | .ref i => decide (i < n)
  | _ => true
def mj_lr (n : Nat) (loc : List (Option Value)) : Bool := loc.all (fun o => match o with | none => true | some v => mj_vr n v)
theorem mj_rb_map {n : Nat} {rs : List (Option Nat)} {ad ad' : Nat → Nat} (h : rs.all (mj_rb n) = true) (ha : ∀ i, i < n → ad' i = ad i) (k : Nat) : (rs.getD k none).map ad' = (rs.getD k none).map ad := by
  rw [List.getD_eq_getElem?_getD]
  cases hk : rs[k]? with
  | none => rfl
  | some r =>
    cases r with
    | none => rfl
    | some i =>
      have := List.all_eq_true.mp h _ (List.mem_of_getElem? hk)
      simp only [mj_rb, decide_eq_true_eq] at this
      show some (ad' i) = some (ad i)
      rw [ha i this]
theorem mj_e_ad {n : Nat} {c : (Nat × List (Option Nat)) ⊕ (Nat × Nat × List (Option Nat))} {ad ad' : Nat → Nat} (cA : Nat → ClassId) (f : Nat → Int32) (g : Nat → Int64) (h : mj_cb n c = true) (ha : ∀ i, i < n → ad' i = ad i) : mj_e ad' cA c f g = mj_e ad cA c f g := by
  rcases c with ⟨ci, rs⟩ | ⟨kd, m, rs⟩
  · show Sum.inr (ci, mj_fs ad' ci rs f g) = Sum.inr (ci, mj_fs ad ci rs f g)
    have : mj_fs ad' ci rs f g = mj_fs ad ci rs f g := by
      unfold mj_fs
      congr 1
      funext k kd
      unfold mj_sv
      split
      · rfl
      · rw [mj_rb_map h ha]
      · rfl
    rw [this]
  · show Sum.inl (cA kd, mj_a ad' kd m rs f) = Sum.inl (cA kd, mj_a ad kd m rs f)
    have : mj_a ad' kd m rs f = mj_a ad kd m rs f := by
      unfold mj_a
      split
      · rfl
      · rfl
      · congr 5
        funext k
        exact mj_rb_map h ha k
    rw [this]
theorem mj_w_ad {n : Nat} {S : mj_S} {ad ad' : Nat → Nat} (cA : Nat → ClassId) (f : mj_I) (g : mj_L) (h : mj_cl n S = true) (hn : S.length ≤ n) (ha : ∀ i, i < n → ad' i = ad i) : mj_w ad' cA S f g = mj_w ad cA S f g := by
  apply List.ext_getElem?
  intro i
  rw [mj_w_get, mj_w_get]
  cases hc : S[i]? with
  | none => rfl
  | some c =>
    have hi : i < S.length := (List.getElem?_eq_some_iff.mp hc).1
    have := List.all_eq_true.mp h _ (List.mem_of_getElem? hc)
    show some (ad' i, mj_e ad' cA c (f i) (g i)) = some (ad i, mj_e ad cA c (f i) (g i))
    rw [ha i (by omega), mj_e_ad cA (f i) (g i) this ha]
theorem mj_w_push (ad : Nat → Nat) (cA : Nat → ClassId) (S : mj_S) (c : (Nat × List (Option Nat)) ⊕ (Nat × Nat × List (Option Nat))) (f : mj_I) (g : mj_L) : mj_w ad cA (S ++ [c]) f g = mj_w ad cA S f g ++ [(ad S.length, mj_e ad cA c (f S.length) (g S.length))] := by
  unfold mj_w
  rw [List.mapIdx_concat]
theorem mj_tv_ad {n : Nat} {v : Value} {ad ad' sp : Nat → Nat} (h : mj_vr n v = true) (ha : ∀ i, i < n → ad' i = ad i) : mj_tv ad' sp v = mj_tv ad sp v := by
  cases v with
  | ref i =>
    simp only [mj_vr, decide_eq_true_eq] at h
    show Value.ref (ad' i) = Value.ref (ad i)
    rw [ha i h]
  | _ => rfl
theorem mj_st_ad {n : Nat} {ad ad' sp : Nat → Nat} (ha : ∀ i, i < n → ad' i = ad i) : ∀ (st : List Value), st.all (mj_vr n) = true → st.map (mj_tv ad' sp) = st.map (mj_tv ad sp)
  | [], _ => rfl
  | v :: st, h => by
    simp only [List.all_cons, Bool.and_eq_true] at h
    rw [List.map_cons, List.map_cons, mj_tv_ad h.1 ha, mj_st_ad ha st h.2]
theorem mj_lv_ad {n nL : Nat} {ls : Array Slot} {loc : List (Option Value)} {ad ad' sp : Nat → Nat} (h : mj_lr n loc = true) (ha : ∀ i, i < n → ad' i = ad i) (hl : mj_lv ls nL (mj_tv ad sp) loc) : mj_lv ls nL (mj_tv ad' sp) loc := by
  refine ⟨hl.1, hl.2.1, fun i v hi => ?_⟩
  have := List.all_eq_true.mp h _ (List.mem_of_getElem? hi)
  rw [mj_tv_ad this ha]
  exact hl.2.2 i v hi
/-- from pc on a constructor comes to its end, and the world is S', f' then -/
def mj_EvA (J : mj_J) (pc : Nat) (loc : List (Option Value)) (st : List Value) (S : mj_S) (f : mj_I) (cs : Nat × Nat) (S' : mj_S) (f' : mj_I) : Prop :=
  ∀ (p : Program) (l : Launch) (e : Env) (s : State) (m : MethodId) (args : Array Value) (below : List Frame) (meth : Method) (c : Code) (D : va_G) (cA : Nat → ClassId) (sp : Nat → Nat) (a0 : Nat) (A : Nat → Prop) (Q : State → Prop),
    mj_C J p s m args meth c D cA sp A → meth.name = "<init>" →
    (∀ (ad : Nat → Nat) (H : Heap) (locs : List Loc) (pc : Nat) (ls : Array Slot), ad 0 = a0 → va_P D vwCl (mj_w ad cA S' f' mj_zl) H → va_D A (mj_w ad cA S' f' mj_zl) → va_S A s.heap H locs → decode (mj_cc J) pc = .ok (.return_, 1) → W p l e (mj_room J) s m args below meth c H locs (mj_mc J) (mj_ms J) Q (F0 m pc ls [])) →
    ∀ (ad : Nat → Nat) (H : Heap) (locs : List Loc) (ls : Array Slot), ad 0 = a0 → va_P D vwCl (mj_w ad cA S f mj_zl) H → va_D A (mj_w ad cA S f mj_zl) → va_S A s.heap H locs → mj_lv ls (mj_nL J) (mj_tv ad sp) loc →
    W p l e (mj_room J) s m args below meth c H locs cs.1 cs.2 Q (F0 m pc ls (st.map (mj_tv ad sp)))
/-- a constructor's contract: its object alone goes in, its whole world comes out -/
def mj_SpA (J : mj_J) (ci N : Nat) (S' : mj_S) (f' : mj_I) : Prop :=
  ∀ (l : Launch) (D : va_G) (cA : Nat → ClassId) (sp : Nat → Nat) (a sz : Nat), Met l (mj_y J) (.code (mj_y J) (mj_cc J) (mj_nL J) (mj_rt J) :: mj_gw) (mj_room J) (va_Pc [.ref a] (mj_Pc D cA sp (fun _ => a) sz [.inl (ci, List.replicate N none)] mj_z mj_zl))
    (fun _ st oc t => (oc = .returned none ∧ ∃ ad : Nat → Nat, ad 0 = a ∧ va_P D vwCl (mj_w ad cA S' f' mj_zl) t.heap ∧ va_D (va_A (mj_w (fun _ => a) cA [.inl (ci, List.replicate N none)] mj_z mj_zl) sz) (mj_w ad cA S' f' mj_zl)) ∧ va_F (va_A (mj_w (fun _ => a) cA [.inl (ci, List.replicate N none)] mj_z mj_zl) sz) st t)
    (mj_mc J) (mj_ms J) (va_A (mj_w (fun _ => a) cA [.inl (ci, List.replicate N none)] mj_z mj_zl) sz)
theorem mj_spA {J : mj_J} {ci N : Nat} {S' : mj_S} {f' : mj_I} (n : Nat) (hy : plainName (mj_y J).cls = true) (hi : (mj_y J).name = "<init>") (hr0 : mj_rt J = none) (hlen : 1 ≤ mj_nL J) (k : mj_EvA J 0 (some (.ref 0) :: List.replicate n none) [] [.inl (ci, List.replicate N none)] mj_z (0, 0) S' f') : mj_SpA J ci N S' f' := by
  intro l D cA sp a sz
  refine Met.ofW (cc := mj_cc J) (maxL := mj_nL J) (ret := mj_rt J) hy rfl ?_
  intro p e s m args below meth c s₁ B hml hv
  obtain ⟨rfl, hsz, hP, hK, hD0, hX⟩ := hv
  have hx := B.exec
  have hb := B.bytes
  have hr := B.returns
  have hts := atoms_spec (ws := .code (mj_y J) (mj_cc J) (mj_nL J) (mj_rt J) :: mj_gw) B.pre
  have hown : s.vm.findClass (mj_y J).cls = some m.cls := findClass_of_methodNamed B.named
  have hlocks := B.notSynchronized
  have hin : meth.name = "<init>" := (name_of_methodNamed B.named B.method).1.trans hi
  subst hsz
  have hD := hD0.self (sz := s.heap.size)
  have hA : ∀ q : Nat, s.heap.size ≤ q → va_A (mj_w (fun _ => a) cA [.inl (ci, List.replicate N none)] mj_z mj_zl) s.heap.size q := fun q h => Or.inr h
  have hS : va_S (va_A (mj_w (fun _ => a) cA [.inl (ci, List.replicate N none)] mj_z mj_zl) s.heap.size) s.heap s.heap [] := va_S.rf
  have hl := lv_entry ([.ref a]) (n := mj_nL J) (show 1 ≤ mj_nL J from hlen)
  rw [lg_entry_eq]
  generalize (lg_sl ([.ref a]) ++ List.replicate (mj_nL J - (lg_sl ([.ref a])).length) Slot.unset).toArray = ls at hl ⊢
  have hl' : mj_lv ls (mj_nL J) (mj_tv (fun _ => a) sp) (some (.ref 0) :: List.replicate n none) := by
    refine ⟨hl.1, hl.2.1, fun i v hi => ?_⟩
    cases i with
    | zero =>
      simp only [List.getElem?_cons_zero, Option.some.injEq] at hi
      subst hi
      exact hl.2.2 (0, .ref a) List.mem_cons_self
    | succ j =>
      rw [List.getElem?_cons_succ] at hi
      have := List.mem_of_getElem? hi
      rw [List.mem_replicate] at this
      exact absurd this.2 (by simp)
  refine k p l e s m _ below meth c D cA sp a _ _ ⟨hx, hb, hml, hown, fun w hw => hts w (List.mem_cons_of_mem _ hw), hK, hA, hX⟩ hin ?_ (fun _ => a) s.heap [] ls rfl hP hD hS hl'
  intro ad H locs pc ls had hP hD hS hret
  exact W.vret hx hb (hr.trans hr0) (fun t ht _ => ⟨⟨rfl, ad, had, by rw [ht]; exact hP, hD⟩, hS.F ht⟩) hS.2.2 hret
theorem ea_iconst {J : mj_J} {pc q : Nat} {loc : List (Option Value)} {st : List Value} {S : mj_S} {f : mj_I} {cs : Nat × Nat} {S' : mj_S} {f' : mj_I} {z : Int} {v : Int32} (hv : Int32.ofInt z = v) (hd : decode (mj_cc J) pc = .ok (.iconst z, 1)) (hq : pc + 1 = q) (kk : mj_EvA J q loc (.int v :: st) S f cs S' f') : mj_EvA J pc loc (st) S f cs S' f' := by
  intro p l e s m args below meth c D cA sp a0 A Q hC hin hk0 ad H locs ls had hP hD hS hl
  subst hq
  obtain ⟨hx, hb, hml, hown, hts, hK, hA, hX⟩ := id hC
  exact lv_iconst hx hb hd hv (kk p l e s m args below meth c D cA sp a0 A Q hC hin hk0 ad H locs ls had hP hD hS hl)
theorem ea_bipush {J : mj_J} {pc q : Nat} {loc : List (Option Value)} {st : List Value} {S : mj_S} {f : mj_I} {cs : Nat × Nat} {S' : mj_S} {f' : mj_I} {z : Int} {v : Int32} (hv : (Int8.ofInt z).toInt32 = v) (hd : decode (mj_cc J) pc = .ok (.bipush z, 2)) (hq : pc + 2 = q) (kk : mj_EvA J q loc (.int v :: st) S f cs S' f') : mj_EvA J pc loc (st) S f cs S' f' := by
  intro p l e s m args below meth c D cA sp a0 A Q hC hin hk0 ad H locs ls had hP hD hS hl
  subst hq
  obtain ⟨hx, hb, hml, hown, hts, hK, hA, hX⟩ := id hC
  exact lv_bipush hx hb hd hv (kk p l e s m args below meth c D cA sp a0 A Q hC hin hk0 ad H locs ls had hP hD hS hl)
theorem ea_sipush {J : mj_J} {pc q : Nat} {loc : List (Option Value)} {st : List Value} {S : mj_S} {f : mj_I} {cs : Nat × Nat} {S' : mj_S} {f' : mj_I} {z : Int} {v : Int32} (hv : (Int16.ofInt z).toInt32 = v) (hd : decode (mj_cc J) pc = .ok (.sipush z, 3)) (hq : pc + 3 = q) (kk : mj_EvA J q loc (.int v :: st) S f cs S' f') : mj_EvA J pc loc (st) S f cs S' f' := by
  intro p l e s m args below meth c D cA sp a0 A Q hC hin hk0 ad H locs ls had hP hD hS hl
  subst hq
  obtain ⟨hx, hb, hml, hown, hts, hK, hA, hX⟩ := id hC
  exact lv_sipush hx hb hd hv (kk p l e s m args below meth c D cA sp a0 A Q hC hin hk0 ad H locs ls had hP hD hS hl)
theorem ea_dup {J : mj_J} {pc q : Nat} {loc : List (Option Value)} {st : List Value} {S : mj_S} {f : mj_I} {cs : Nat × Nat} {S' : mj_S} {f' : mj_I} {v : Value} (hc : v.category = 1) (hd : decode (mj_cc J) pc = .ok (.dup, 1)) (hq : pc + 1 = q) (kk : mj_EvA J q loc (v :: v :: st) S f cs S' f') : mj_EvA J pc loc (v :: st) S f cs S' f' := by
  intro p l e s m args below meth c D cA sp a0 A Q hC hin hk0 ad H locs ls had hP hD hS hl
  subst hq
  obtain ⟨hx, hb, hml, hown, hts, hK, hA, hX⟩ := id hC
  exact lv_dup hx hb hd ((mj_tv_cat ad sp v).trans hc) (kk p l e s m args below meth c D cA sp a0 A Q hC hin hk0 ad H locs ls had hP hD hS hl)
theorem ea_aload_n {J : mj_J} {pc q : Nat} {loc : List (Option Value)} {st : List Value} {S : mj_S} {f : mj_I} {cs : Nat × Nat} {S' : mj_S} {f' : mj_I} {n : Fin 4} {x : Nat} (hl0 : loc[(n : Nat)]? = some (some (.ref x))) (hd : decode (mj_cc J) pc = .ok (.aload_n n, 1)) (hq : pc + 1 = q) (kk : mj_EvA J q loc (.ref x :: st) S f cs S' f') : mj_EvA J pc loc (st) S f cs S' f' := by
  intro p l e s m args below meth c D cA sp a0 A Q hC hin hk0 ad H locs ls had hP hD hS hl
  subst hq
  obtain ⟨hx, hb, hml, hown, hts, hK, hA, hX⟩ := id hC
  exact lv_aload_n hx hb hd rfl (hl.2.2 _ _ hl0) (kk p l e s m args below meth c D cA sp a0 A Q hC hin hk0 ad H locs ls had hP hD hS hl)
theorem ea_iload_n {J : mj_J} {pc q : Nat} {loc : List (Option Value)} {st : List Value} {S : mj_S} {f : mj_I} {cs : Nat × Nat} {S' : mj_S} {f' : mj_I} {n : Fin 4} {x : Int32} (hl0 : loc[(n : Nat)]? = some (some (.int x))) (hd : decode (mj_cc J) pc = .ok (.iload_n n, 1)) (hq : pc + 1 = q) (kk : mj_EvA J q loc (.int x :: st) S f cs S' f') : mj_EvA J pc loc (st) S f cs S' f' := by
  intro p l e s m args below meth c D cA sp a0 A Q hC hin hk0 ad H locs ls had hP hD hS hl
  subst hq
  obtain ⟨hx, hb, hml, hown, hts, hK, hA, hX⟩ := id hC
  exact lv_iload_n hx hb hd rfl (hl.2.2 _ _ hl0) (kk p l e s m args below meth c D cA sp a0 A Q hC hin hk0 ad H locs ls had hP hD hS hl)
theorem ea_istore_n {J : mj_J} {pc q : Nat} {loc : List (Option Value)} {st : List Value} {S : mj_S} {f : mj_I} {cs : Nat × Nat} {S' : mj_S} {f' : mj_I} {n : Fin 4} {x : Int32} {loc' : List (Option Value)} (hn : (n : Nat) < mj_nL J) (hs : mj_set loc (n : Nat) (.int x) = loc') (hd : decode (mj_cc J) pc = .ok (.istore_n n, 1)) (hq : pc + 1 = q) (kk : mj_EvA J q loc' st S f cs S' f') : mj_EvA J pc loc (.int x :: st) S f cs S' f' := by
  intro p l e s m args below meth c D cA sp a0 A Q hC hin hk0 ad H locs ls had hP hD hS hl
  subst hq
  obtain ⟨hx, hb, hml, hown, hts, hK, hA, hX⟩ := id hC
  subst hs
  exact lv_istore_n hx hb hd rfl (mj_lv_has hl) hn rfl (fun ls hl => kk p l e s m args below meth c D cA sp a0 A Q hC hin hk0 ad H locs ls had hP hD hS (mj_lv_set (v := .int x) hl))
theorem ea_iinc {J : mj_J} {pc q : Nat} {loc : List (Option Value)} {st : List Value} {S : mj_S} {f : mj_I} {cs : Nat × Nat} {S' : mj_S} {f' : mj_I} {n : Nat} {z : Int} {x v : Int32} {loc' : List (Option Value)} (hl0 : loc[n]? = some (some (.int x))) (hn : n < mj_nL J) (hz : x + Int32.ofInt z = v) (hs : mj_set loc n (.int v) = loc') (hd : decode (mj_cc J) pc = .ok (.iinc n z, 3)) (hq : pc + 3 = q) (kk : mj_EvA J q loc' st S f cs S' f') : mj_EvA J pc loc (st) S f cs S' f' := by
  intro p l e s m args below meth c D cA sp a0 A Q hC hin hk0 ad H locs ls had hP hD hS hl
  subst hq
  obtain ⟨hx, hb, hml, hown, hts, hK, hA, hX⟩ := id hC
  subst hs
  have hm : (n, Value.int x) ∈ mj_al (mj_tv ad sp) loc := mj_al_mem.mpr ⟨_, hl0, rfl⟩
  obtain ⟨j, hj⟩ := List.getElem?_of_mem hm
  exact lv_iinc hx hb hd (mj_lv_has hl) hj hz hn rfl (fun ls hl => kk p l e s m args below meth c D cA sp a0 A Q hC hin hk0 ad H locs ls had hP hD hS (mj_lv_set (v := .int _) hl))
theorem ea_icmp_geN {J : mj_J} {pc q : Nat} {loc : List (Option Value)} {st : List Value} {S : mj_S} {f : mj_I} {cs : Nat × Nat} {S' : mj_S} {f' : mj_I} {x y : Int32} {off : Int} {t : Nat} (hlt : ¬ y ≤ x) (ht : (pc : Int) + off = (t : Int)) (hd : decode (mj_cc J) pc = .ok (.if_icmp .ge off, 3)) (hq : pc + 3 = q) (kk : mj_EvA J q loc st S f cs S' f') : mj_EvA J pc loc (.int y :: .int x :: st) S f cs S' f' := by
  intro p l e s m args below meth c D cA sp a0 A Q hC hin hk0 ad H locs ls had hP hD hS hl
  subst hq
  obtain ⟨hx, hb, hml, hown, hts, hK, hA, hX⟩ := id hC
  exact lv_icmp_ge hx hb hd ht (fun h => absurd h hlt) (fun _ => kk p l e s m args below meth c D cA sp a0 A Q hC hin hk0 ad H locs ls had hP hD hS hl)
theorem ea_icmp_geY {J : mj_J} {pc q : Nat} {loc : List (Option Value)} {st : List Value} {S : mj_S} {f : mj_I} {cs : Nat × Nat} {S' : mj_S} {f' : mj_I} {x y : Int32} {off : Int} (hle : y ≤ x) (hd : decode (mj_cc J) pc = .ok (.if_icmp .ge off, 3)) (ht : (pc : Int) + off = (q : Int)) (kk : mj_EvA J q loc st S f cs S' f') : mj_EvA J pc loc (.int y :: .int x :: st) S f cs S' f' := by
  intro p l e s m args below meth c D cA sp a0 A Q hC hin hk0 ad H locs ls had hP hD hS hl
  exact lv_icmp_ge hC.1 hC.2.1 hd ht (fun _ => kk p l e s m args below meth c D cA sp a0 A Q hC hin hk0 ad H locs ls had hP hD hS hl) (fun h => absurd hle h)
theorem ea_goto {J : mj_J} {pc q : Nat} {loc : List (Option Value)} {st : List Value} {S : mj_S} {f : mj_I} {cs : Nat × Nat} {S' : mj_S} {f' : mj_I} {off : Int} (hd : decode (mj_cc J) pc = .ok (.goto off, 3)) (ht : (pc : Int) + off = (q : Int)) (kk : mj_EvA J q loc st S f cs S' f') : mj_EvA J pc loc st S f cs S' f' := by
  intro p l e s m args below meth c D cA sp a0 A Q hC hin hk0 ad H locs ls had hP hD hS hl
  exact lv_goto hC.1 hC.2.1 hd ht (kk p l e s m args below meth c D cA sp a0 A Q hC hin hk0 ad H locs ls had hP hD hS hl)
theorem ea_ret {J : mj_J} {pc : Nat} {loc : List (Option Value)} {S : mj_S} {f : mj_I} {cs : Nat × Nat} (hd : decode (mj_cc J) pc = .ok (.return_, 1)) (h1 : cs.1 ≤ mj_mc J) (h2 : cs.2 ≤ mj_ms J) : mj_EvA J pc loc [] S f cs S f := by
  intro p l e s m args below meth c D cA sp a0 A Q hC hin hk0 ad H locs ls had hP hD hS hl
  exact W.widen h1 h2 (hk0 ad H locs pc ls had hP hD hS hd)
theorem mw_oi : Cond.instanceMethod Lib.objectInit ∈ mj_gw := mj_gw_in 18 (by decide +kernel) (by decide +kernel)
theorem mw_oc : Cond.code Lib.objectInit ⟨#[0xb1]⟩ 1 none ∈ mj_gw := mj_gw_in 19 (by decide +kernel) (by decide +kernel)
theorem ea_obj {J : mj_J} {pc q : Nat} {loc : List (Option Value)} {st : List Value} {S : mj_S} {f : mj_I} {cs : Nat × Nat} {S' : mj_S} {f' : mj_I} {idx a : Nat} (hlk : Cond.methodLink (mj_y J).cls idx Lib.objectInit ∈ mj_gw) (hroom : 0 < mj_d J) (hcat : (st.map fun v => v.category).sum ≤ 8) (hd : decode (mj_cc J) pc = .ok (.invokespecial idx, 3)) (hq : pc + 3 = q) (kk : mj_EvA J q loc st S f cs S' f') : mj_EvA J pc loc (.ref a :: st) S f cs S' f' := by
  intro p l e s m args below meth c D cA sp a0 A Q hC hin hk0 ad H locs ls had hP hD hS hl
  subst hq
  obtain ⟨hx, hb, hml, hown, hts, hK, hA, hX⟩ := id hC
  refine W.objInit hx hb hown (hts _ hlk) (hts _ mw_oi) (hts _ mw_oc) rfl (by rw [hml]; exact hl.1) rfl hd (show 1 ≤ mj_d J from hroom) ?_ (kk p l e s m args below meth c D cA sp a0 A Q hC hin hk0 ad H locs ls had hP hD hS hl)
  show 2 * 0 + ((st.map (mj_tv ad sp)).map fun v => v.category).sum + 12 ≤ 64 * mj_d J
  rw [mj_tv_sum]
  omega
theorem ea_getfR {J : mj_J} {pc q : Nat} {loc : List (Option Value)} {st : List Value} {S : mj_S} {f : mj_I} {cs : Nat × Nat} {S' : mj_S} {f' : mj_I} {idx ci k a b : Nat} {fin : Bool} {rs : List (Option Nat)} (hlf : mj_LF (mj_y J).cls idx ci k 3 fin) (hs : S[a]? = some (.inl (ci, rs))) (hr : rs.getD k none = some b) (hd : decode (mj_cc J) pc = .ok (.getfield idx, 3)) (hq : pc + 3 = q) (kk : mj_EvA J q loc (.ref b :: st) S f cs S' f') : mj_EvA J pc loc (.ref a :: st) S f cs S' f' := by
  intro p l e s m args below meth c D cA sp a0 A Q hC hin hk0 ad H locs ls had hP hD hS hl
  subst hq
  obtain ⟨hx, hb, hml, hown, hts, hK, hA, hX⟩ := id hC
  obtain ⟨C, T, N, ty, e1, e2, e3, e4, e5, e6, e7, e8, -, -, -⟩ := hlf
  refine va_get hx hb hts e2 hown hK hP a (mj_w_at hs) e1 k e5 (hts _ e6) (fun _ h9 => h9) (v := .ref (ad b)) ?_ hd (kk p l e s m args below meth c D cA sp a0 A Q hC hin hk0 ad H locs ls had hP hD hS hl)
  rw [mj_fs_get e7, hr]
  rfl
theorem ea_putfI {J : mj_J} {pc q : Nat} {loc : List (Option Value)} {st : List Value} {S : mj_S} {f : mj_I} {cs : Nat × Nat} {S' : mj_S} {f' : mj_I} {idx ci k a : Nat} {x : Int32} {rs : List (Option Nat)} {f1 : mj_I} (hlf : mj_LF (mj_y J).cls idx ci k 0 false) (hs : S[a]? = some (.inl (ci, rs))) (hf1 : mj_wr f a k x = f1) (hd : decode (mj_cc J) pc = .ok (.putfield idx, 3)) (hq : pc + 3 = q) (kk : mj_EvA J q loc st S f1 cs S' f') : mj_EvA J pc loc (.int x :: .ref a :: st) S f cs S' f' := by
  intro p l e s m args below meth c D cA sp a0 A Q hC hin hk0 ad H locs ls had hP hD hS hl
  subst hq
  obtain ⟨hx, hb, hml, hown, hts, hK, hA, hX⟩ := id hC
  subst hf1
  obtain ⟨C, T, N, ty, e1, e2, e3, e4, e5, e6, e7, e8, e9, -, -⟩ := hlf
  have hw : (mj_w ad cA S f mj_zl).set a (ad a, .inr (ci, (mj_fs ad ci rs (f a) (mj_zl a)).set k (.int x))) = mj_w ad cA S (mj_wr f a k x) mj_zl := by
    rw [mj_fs_setI e7 (by decide) (by decide), ← mj_wr_self]
    exact mj_w_set hs (fun i hi => mj_wr_ne f k x hi) (fun _ _ => rfl)
  refine va_put hx hb hts e2 ty e3 e4 hown hK hP hD hS a (mj_w_at hs) e1 k e5 (hts _ e6) (fun _ h9 => h9) e8 (ty := .int) (v := .int x) ((e3 k e5).trans (by rw [e9 rfl])) rfl rfl (mj_fs_len e7) hd (fun H1 locs1 hP1 hD1 hS1 => ?_)
  rw [hw] at hP1 hD1
  exact kk p l e s m args below meth c D cA sp a0 A Q hC hin hk0 ad H1 locs1 ls had hP1 hD1 hS1 hl
theorem ea_putfZ {J : mj_J} {pc q : Nat} {loc : List (Option Value)} {st : List Value} {S : mj_S} {f : mj_I} {cs : Nat × Nat} {S' : mj_S} {f' : mj_I} {idx ci k a : Nat} {x : Int32} {rs : List (Option Nat)} {f1 : mj_I} (hlf : mj_LF (mj_y J).cls idx ci k 1 false) (hs : S[a]? = some (.inl (ci, rs))) (hf1 : mj_wr f a k x = f1) (hbx : mj_b x = true) (hd : decode (mj_cc J) pc = .ok (.putfield idx, 3)) (hq : pc + 3 = q) (kk : mj_EvA J q loc st S f1 cs S' f') : mj_EvA J pc loc (.int x :: .ref a :: st) S f cs S' f' := by
  intro p l e s m args below meth c D cA sp a0 A Q hC hin hk0 ad H locs ls had hP hD hS hl
  subst hq
  obtain ⟨hx, hb, hml, hown, hts, hK, hA, hX⟩ := id hC
  subst hf1
  obtain ⟨C, T, N, ty, e1, e2, e3, e4, e5, e6, e7, e8, -, e9, -⟩ := hlf
  have hw : (mj_w ad cA S f mj_zl).set a (ad a, .inr (ci, (mj_fs ad ci rs (f a) (mj_zl a)).set k (.int x))) = mj_w ad cA S (mj_wr f a k x) mj_zl := by
    rw [mj_fs_setI e7 (by decide) (by decide), ← mj_wr_self]
    exact mj_w_set hs (fun i hi => mj_wr_ne f k x hi) (fun _ _ => rfl)
  refine va_put hx hb hts e2 ty e3 e4 hown hK hP hD hS a (mj_w_at hs) e1 k e5 (hts _ e6) (fun _ h9 => h9) e8 (ty := .boolean) (v := .int x) ((e3 k e5).trans (by rw [e9 rfl])) (mj_b_nar hbx) (mj_b_fit hbx) (mj_fs_len e7) hd (fun H1 locs1 hP1 hD1 hS1 => ?_)
  rw [hw] at hP1 hD1
  exact kk p l e s m args below meth c D cA sp a0 A Q hC hin hk0 ad H1 locs1 ls had hP1 hD1 hS1 hl
theorem mj_fs_setR {ad : Nat → Nat} {ci k b : Nat} {rs : List (Option Nat)} {f : Nat → Int32} {g : Nat → Int64} (h : (mj_fk.getD ci [])[k]? = some 3) (hk : k < rs.length) : (mj_fs ad ci rs f g).set k (.ref (ad b)) = mj_fs ad ci (rs.set k (some b)) f g := by
  apply List.ext_getElem?
  intro i
  by_cases hi : i = k
  · subst hi
    rw [List.getElem?_set_self (mj_fs_len h), mj_fs_get h]
    simp [mj_sv, va_rf, List.getD_eq_getElem?_getD, hk]
  · rw [List.getElem?_set_ne (Ne.symm hi)]
    simp only [mj_fs, List.getElem?_mapIdx, List.getD_eq_getElem?_getD, List.getElem?_set_ne (Ne.symm hi)]
theorem mj_w_setS {ad : Nat → Nat} {cA : Nat → ClassId} {S : mj_S} {f : mj_I} {g : mj_L} {a : Nat} {c c' : (Nat × List (Option Nat)) ⊕ (Nat × Nat × List (Option Nat))} (h : S[a]? = some c) : (mj_w ad cA S f g).set a (ad a, mj_e ad cA c' (f a) (g a)) = mj_w ad cA (S.set a c') f g := by
  apply List.ext_getElem?
  intro i
  have hl : a < S.length := (List.getElem?_eq_some_iff.mp h).1
  by_cases hi : i = a
  · subst hi
    have hl2 : i < (mj_w ad cA S f g).length := by
      have := mj_w_at (ad := ad) (cA := cA) (f := f) (g := g) h
      exact (List.getElem?_eq_some_iff.mp this).1
    rw [List.getElem?_set_self hl2, mj_w_get, List.getElem?_set_self hl]
    rfl
  · rw [List.getElem?_set_ne (Ne.symm hi), mj_w_get, mj_w_get, List.getElem?_set_ne (Ne.symm hi)]
/-- a final field of a reference, put by its own class's constructor -/
def mj_LR (own : String) (idx ci k : Nat) : Prop := ∃ (C : String) (T : u_T) (N : Nat) (ty : Nat → FieldType), vwCl[ci]? = some (C, T, N) ∧ (∀ w ∈ u_ws C T N, w ∈ mj_gw) ∧ (∀ j, j < N → parseFieldDescriptor (T j).2.2.1 = some (ty j)) ∧ (∀ a, a < N → ∀ b, b < N → a ≠ b → (T a).2.1 ≠ (T b).2.1) ∧ k < N ∧ Cond.fieldLink own idx (T k).1 (T k).2.1 (T k).2.2.1 ∈ mj_gw ∧ (mj_fk.getD ci [])[k]? = some 3 ∧ (T k).2.2.2 = true ∧ (T k).1 = own ∧ ∀ x, narrow (ty k) (.ref x) = .ref x ∧ fits (ty k) (.ref x) = true
theorem ea_putfR {J : mj_J} {pc q : Nat} {loc : List (Option Value)} {st : List Value} {S : mj_S} {f : mj_I} {cs : Nat × Nat} {S' : mj_S} {f' : mj_I} {idx ci k a b : Nat} {rs : List (Option Nat)} {S1 : mj_S} (hlf : mj_LR (mj_y J).cls idx ci k) (hs : S[a]? = some (.inl (ci, rs))) (hk : k < rs.length) (hS1 : S.set a (.inl (ci, rs.set k (some b))) = S1) (hd : decode (mj_cc J) pc = .ok (.putfield idx, 3)) (hq : pc + 3 = q) (kk : mj_EvA J q loc st S1 f cs S' f') : mj_EvA J pc loc (.ref b :: .ref a :: st) S f cs S' f' := by
  intro p l e s m args below meth c D cA sp a0 A Q hC hin hk0 ad H locs ls had hP hD hS hl
  subst hq
  obtain ⟨hx, hb, hml, hown, hts, hK, hA, hX⟩ := id hC
  subst hS1
  obtain ⟨C, T, N, ty, e1, e2, e3, e4, e5, e6, e7, e8, e9, e10⟩ := hlf
  have hw : (mj_w ad cA S f mj_zl).set a (ad a, .inr (ci, (mj_fs ad ci rs (f a) (mj_zl a)).set k (.ref (ad b)))) = mj_w ad cA (S.set a (.inl (ci, rs.set k (some b)))) f mj_zl := by
    rw [mj_fs_setR e7 hk]
    exact mj_w_setS (c' := .inl (ci, rs.set k (some b))) hs
  refine va_putF hx hb hts e2 ty e3 e4 hown hK hP hD hS a (mj_w_at hs) e1 k e5 (hts _ e6) (fun _ h9 => h9) e8 hin e9 (ty := ty k) (v := .ref (ad b)) (e3 k e5) (e10 _).1 (e10 _).2 (mj_fs_len e7) hd (fun H1 locs1 hP1 hD1 hS1 => ?_)
  rw [hw] at hP1 hD1
  exact kk p l e s m args below meth c D cA sp a0 A Q hC hin hk0 ad H1 locs1 ls had hP1 hD1 hS1 hl
theorem ea_iast {J : mj_J} {pc q : Nat} {loc : List (Option Value)} {st : List Value} {S : mj_S} {f : mj_I} {cs : Nat × Nat} {S' : mj_S} {f' : mj_I} {a n k : Nat} {i x : Int32} {rs : List (Option Nat)} {f1 : mj_I} (hs : S[a]? = some (.inr (0, n, rs))) (hii : mj_in i n = true) (hk : i.toNatClampNeg = k) (hf1 : mj_wr f a k x = f1) (hd : decode (mj_cc J) pc = .ok (.iastore, 1)) (hq : pc + 1 = q) (kk : mj_EvA J q loc st S f1 cs S' f') : mj_EvA J pc loc (.int x :: .int i :: .ref a :: st) S f cs S' f' := by
  intro p l e s m args below meth c D cA sp a0 A Q hC hin hk0 ad H locs ls had hP hD hS hl
  subst hq
  obtain ⟨hx, hb, hml, hown, hts, hK, hA, hX⟩ := id hC
  subst hf1
  subst hk
  have hw : (mj_w ad cA S f mj_zl).set a (ad a, .inl (cA 0, n, .inl (upd (f a) i.toNatClampNeg x))) = mj_w ad cA S (mj_wr f a i.toNatClampNeg x) mj_zl := by
    rw [← mj_wr_self]
    exact mj_w_set hs (fun j hj => mj_wr_ne f _ x hj) (fun _ _ => rfl)
  refine va_iast hx hb hK hP hD hS a 0 (mj_w_at hs) rfl (mj_in_vp hii) hd (fun H1 locs1 hP1 hD1 hS1 => ?_)
  rw [hw] at hP1 hD1
  exact kk p l e s m args below meth c D cA sp a0 A Q hC hin hk0 ad H1 locs1 ls had hP1 hD1 hS1 hl
theorem mj_a_setR {ad : Nat → Nat} {kd n i b : Nat} {rs : List (Option Nat)} (hi : i < rs.length) : va_up (fun k => (rs.getD k none).map ad) i (some (ad b)) = fun k => ((rs.set i (some b)).getD k none).map ad := by
  funext k
  by_cases hk : k = i
  · subst hk
    simp [va_up, List.getD_eq_getElem?_getD, hi]
  · simp [va_up, hk, List.getD_eq_getElem?_getD, List.getElem?_set_ne (Ne.symm hk)]
theorem ea_aast2 {J : mj_J} {pc q : Nat} {loc : List (Option Value)} {st : List Value} {S : mj_S} {f : mj_I} {cs : Nat × Nat} {S' : mj_S} {f' : mj_I} {a n b k : Nat} {i : Int32} {rs r2 : List (Option Nat)} {S1 : mj_S} (hs : S[a]? = some (.inr (2, n, rs))) (hb2 : S[b]? = some (.inl (1, r2))) (hii : mj_in i n = true) (hk : i.toNatClampNeg = k) (hkl : k < rs.length) (hS1 : S.set a (.inr (2, n, rs.set k (some b))) = S1) (hd : decode (mj_cc J) pc = .ok (.aastore, 1)) (hq : pc + 1 = q) (kk : mj_EvA J q loc st S1 f cs S' f') : mj_EvA J pc loc (.ref b :: .int i :: .ref a :: st) S f cs S' f' := by
  intro p l e s m args below meth c D cA sp a0 A Q hC hin hk0 ad H locs ls had hP hD hS hl
  subst hq
  obtain ⟨hx, hb, hml, hown, hts, hK, hA, hX⟩ := id hC
  subst hS1
  subst hk
  have hw : (mj_w ad cA S f mj_zl).set a (ad a, .inl (cA 2, n, .inr (.inr (.inr (.inr (va_up (fun k => (rs.getD k none).map ad) i.toNatClampNeg (some (ad b)))))))) = mj_w ad cA (S.set a (.inr (2, n, rs.set i.toNatClampNeg (some b)))) f mj_zl := by
    rw [mj_a_setR (kd := 0) (n := 0) hkl]
    exact mj_w_setS (c' := .inr (2, n, rs.set i.toNatClampNeg (some b))) hs
  refine va_astq hx hb hK hP hD hS a 2 b 1 (mj_w_at hs) rfl (mj_w_at hb2) (r := (RX1, TX1, 7)) rfl (mj_in_vp hii) hd (fun H1 locs1 hP1 hD1 hS1 => ?_)
  rw [hw] at hP1 hD1
  exact kk p l e s m args below meth c D cA sp a0 A Q hC hin hk0 ad H1 locs1 ls had hP1 hD1 hS1 hl
theorem ea_aast3 {J : mj_J} {pc q : Nat} {loc : List (Option Value)} {st : List Value} {S : mj_S} {f : mj_I} {cs : Nat × Nat} {S' : mj_S} {f' : mj_I} {a n b k : Nat} {i : Int32} {rs r2 : List (Option Nat)} {S1 : mj_S} (hs : S[a]? = some (.inr (3, n, rs))) (hb2 : S[b]? = some (.inl (2, r2))) (hii : mj_in i n = true) (hk : i.toNatClampNeg = k) (hkl : k < rs.length) (hS1 : S.set a (.inr (3, n, rs.set k (some b))) = S1) (hd : decode (mj_cc J) pc = .ok (.aastore, 1)) (hq : pc + 1 = q) (kk : mj_EvA J q loc st S1 f cs S' f') : mj_EvA J pc loc (.ref b :: .int i :: .ref a :: st) S f cs S' f' := by
  intro p l e s m args below meth c D cA sp a0 A Q hC hin hk0 ad H locs ls had hP hD hS hl
  subst hq
  obtain ⟨hx, hb, hml, hown, hts, hK, hA, hX⟩ := id hC
  subst hS1
  subst hk
  have hw : (mj_w ad cA S f mj_zl).set a (ad a, .inl (cA 3, n, .inr (.inr (.inr (.inr (va_up (fun k => (rs.getD k none).map ad) i.toNatClampNeg (some (ad b)))))))) = mj_w ad cA (S.set a (.inr (3, n, rs.set i.toNatClampNeg (some b)))) f mj_zl := by
    rw [mj_a_setR (kd := 0) (n := 0) hkl]
    exact mj_w_setS (c' := .inr (3, n, rs.set i.toNatClampNeg (some b))) hs
  refine va_astq hx hb hK hP hD hS a 3 b 2 (mj_w_at hs) rfl (mj_w_at hb2) (r := (RX2, TX2, 13)) rfl (mj_in_vp hii) hd (fun H1 locs1 hP1 hD1 hS1 => ?_)
  rw [hw] at hP1 hD1
  exact kk p l e s m args below meth c D cA sp a0 A Q hC hin hk0 ad H1 locs1 ls had hP1 hD1 hS1 hl
theorem ea_aast4 {J : mj_J} {pc q : Nat} {loc : List (Option Value)} {st : List Value} {S : mj_S} {f : mj_I} {cs : Nat × Nat} {S' : mj_S} {f' : mj_I} {a n b k : Nat} {i : Int32} {rs r2 : List (Option Nat)} {S1 : mj_S} (hs : S[a]? = some (.inr (4, n, rs))) (hb2 : S[b]? = some (.inl (3, r2))) (hii : mj_in i n = true) (hk : i.toNatClampNeg = k) (hkl : k < rs.length) (hS1 : S.set a (.inr (4, n, rs.set k (some b))) = S1) (hd : decode (mj_cc J) pc = .ok (.aastore, 1)) (hq : pc + 1 = q) (kk : mj_EvA J q loc st S1 f cs S' f') : mj_EvA J pc loc (.ref b :: .int i :: .ref a :: st) S f cs S' f' := by
  intro p l e s m args below meth c D cA sp a0 A Q hC hin hk0 ad H locs ls had hP hD hS hl
  subst hq
  obtain ⟨hx, hb, hml, hown, hts, hK, hA, hX⟩ := id hC
  subst hS1
  subst hk
  have hw : (mj_w ad cA S f mj_zl).set a (ad a, .inl (cA 4, n, .inr (.inr (.inr (.inr (va_up (fun k => (rs.getD k none).map ad) i.toNatClampNeg (some (ad b)))))))) = mj_w ad cA (S.set a (.inr (4, n, rs.set i.toNatClampNeg (some b)))) f mj_zl := by
    rw [mj_a_setR (kd := 0) (n := 0) hkl]
    exact mj_w_setS (c' := .inr (4, n, rs.set i.toNatClampNeg (some b))) hs
  refine va_astq hx hb hK hP hD hS a 4 b 3 (mj_w_at hs) rfl (mj_w_at hb2) (r := (RX3, TX3, 4)) rfl (mj_in_vp hii) hd (fun H1 locs1 hP1 hD1 hS1 => ?_)
  rw [hw] at hP1 hD1
  exact kk p l e s m args below meth c D cA sp a0 A Q hC hin hk0 ad H1 locs1 ls had hP1 hD1 hS1 hl
theorem mj_adn (ad : Nat → Nat) (n q : Nat) : ∀ i, i < n → (fun i => if i = n then q else ad i) i = ad i := fun i h => if_neg (Nat.ne_of_lt h)
/-- the fields of a new object -/
def mj_LN (own : String) (idx ci N : Nat) : Prop := ∃ (C : String) (T : u_T) (ty : Nat → FieldType), vwCl[ci]? = some (C, T, N) ∧ (∀ w ∈ u_ws C T N, w ∈ mj_gw) ∧ (∀ j, j < N → parseFieldDescriptor (T j).2.2.1 = some (ty j)) ∧ Cond.classLink own idx C ∈ mj_gw ∧ Cond.instantiable C N ∈ mj_gw ∧ Cond.initialized C ∈ mj_gw ∧ ∀ (ad : Nat → Nat) (j : Nat), j < N → defaultValue (ty j) = vp_V (mj_fs ad ci (List.replicate N none) (fun _ => 0) (fun _ => 0)) j
theorem ea_new {J : mj_J} {pc q : Nat} {loc : List (Option Value)} {st : List Value} {S : mj_S} {f : mj_I} {cs : Nat × Nat} {S' : mj_S} {f' : mj_I} {idx ci N n : Nat} {cs' : Nat × Nat} {S1 : mj_S} (hln : mj_LN (mj_y J).cls idx ci N) (hn : S.length = n) (hn0 : 0 < n) (hcl : mj_cl n S = true) (hlr : mj_lr n loc = true) (hsr : st.all (mj_vr n) = true) (hf : ∀ k, f n k = 0) (hcs : (cs.1 + 1, cs.2 + N) = cs') (h1 : cs.1 + 1 ≤ mj_mc J) (h2 : cs.2 + N ≤ mj_ms J) (hS1 : S ++ [.inl (ci, List.replicate N none)] = S1) (hd : decode (mj_cc J) pc = .ok (.new idx, 3)) (hq : pc + 3 = q) (kk : mj_EvA J q loc (.ref n :: st) S1 f cs' S' f') : mj_EvA J pc loc st S f cs S' f' := by
  intro p l e s m args below meth c D cA sp a0 A Q hC hin hk0 ad H locs ls had hP hD hS hl
  subst hq
  subst hcs
  subst hS1
  subst hn
  obtain ⟨hx, hb, hml, hown, hts, hK, hA, hX⟩ := id hC
  obtain ⟨C, T, ty, e1, e2, e3, e4, e5, e6, e7⟩ := hln
  have hf9 : f S.length = fun _ => 0 := funext hf
  refine va_new (ci := ci) (fs := mj_fs ad ci (List.replicate N none) (fun _ => 0) (fun _ => 0)) hx hb hts e2 ty e3 hown (hts _ e4) (hts _ e5) (hts _ e6) hK hP hD hS hA e1 (e7 ad) h1 h2 hd (fun qa H1 hP1 hD1 hS1 => ?_)
  have had2 := mj_adn ad S.length qa
  have hcc : mj_cb S.length (.inl (ci, List.replicate N none)) = true := by
    show (List.replicate N none).all (mj_rb S.length) = true
    rw [List.all_eq_true]
    intro r hr
    rw [(List.mem_replicate.mp hr).2]
    rfl
  have hw : mj_w ad cA S f mj_zl ++ [(qa, .inr (ci, mj_fs ad ci (List.replicate N none) (fun _ => 0) (fun _ => 0)))] = mj_w (fun i => if i = S.length then qa else ad i) cA (S ++ [.inl (ci, List.replicate N none)]) f mj_zl := by
    rw [mj_w_push, mj_w_ad cA f mj_zl hcl (Nat.le_refl _) had2, mj_e_ad cA (f S.length) (mj_zl S.length) hcc had2, hf9]
    show _ = _ ++ [((if S.length = S.length then qa else ad S.length), _)]
    rw [if_pos rfl]
    rfl
  rw [hw] at hP1 hD1
  have k9 := kk p l e s m args below meth c D cA sp a0 A Q hC hin hk0 (fun i => if i = S.length then qa else ad i) H1 locs ls ((had2 0 hn0).trans had) hP1 hD1 hS1 (mj_lv_ad hlr had2 hl)
  rw [List.map_cons, mj_st_ad had2 st hsr] at k9
  have e9 : mj_tv (fun i => if i = S.length then qa else ad i) sp (.ref S.length) = .ref qa := by
    show Value.ref (if S.length = S.length then qa else ad S.length) = .ref qa
    rw [if_pos rfl]
  rw [e9] at k9
  exact k9
theorem ea_newi {J : mj_J} {pc q : Nat} {loc : List (Option Value)} {st : List Value} {S : mj_S} {f : mj_I} {cs : Nat × Nat} {S' : mj_S} {f' : mj_I} {N n : Nat} {i : Int32} {cs' : Nat × Nat} {S1 : mj_S} (hac : Cond.arrayClass (.int) ∈ mj_gw) (hi0 : ¬ i < 0) (hiN : i.toNatClampNeg = N) (hby : N * componentBytes (.int) ≤ 536870912) (hn : S.length = n) (hn0 : 0 < n) (hcl : mj_cl n S = true) (hlr : mj_lr n loc = true) (hsr : st.all (mj_vr n) = true) (hf : ∀ k, f n k = 0) (hcs : (cs.1 + 1, cs.2 + N) = cs') (h1 : cs.1 + 1 ≤ mj_mc J) (h2 : cs.2 + N ≤ mj_ms J) (hS1 : S ++ [.inr (0, N, [])] = S1) (hd : decode (mj_cc J) pc = .ok (.newarray .int, 2)) (hq : pc + 2 = q) (kk : mj_EvA J q loc (.ref n :: st) S1 f cs' S' f') : mj_EvA J pc loc (.int i :: st) S f cs S' f' := by
  intro p l e s m args below meth c D cA sp a0 A Q hC hin hk0 ad H locs ls had hP hD hS hl
  subst hq
  subst hcs
  subst hS1
  subst hn
  obtain ⟨hx, hb, hml, hown, hts, hK, hA, hX⟩ := id hC
  have hf9 : f S.length = fun _ => 0 := funext hf
  refine va_newa (atype := .int) (a0 := (N, .inl (fun _ => 0))) hx hb (hts _ hac) (ty := .int) rfl hK hP hD hS hA (fun _ => rfl) hi0 hiN hby h1 h2 hd (fun qa cX H1 hK1 hP1 hD1 hS1 => ?_)
  have hcX : cX = cA 0 := by
    have g1 := (hK1.2 5 (cX, .int) rfl).2
    have g2 := (hK.2 0 (cA 0, .int) rfl).2
    exact Option.some.inj ((show s.vm.findClass _ = some cX from g1).symm.trans (show s.vm.findClass _ = some (cA 0) from g2))
  subst hcX
  have had2 := mj_adn ad S.length qa
  have hw : mj_w ad cA S f mj_zl ++ [(qa, .inl (cA 0, N, .inl (fun _ => 0)))] = mj_w (fun i => if i = S.length then qa else ad i) cA (S ++ [.inr (0, N, [])]) f mj_zl := by
    rw [mj_w_push, mj_w_ad cA f mj_zl hcl (Nat.le_refl _) had2, hf9]
    show _ = _ ++ [((if S.length = S.length then qa else ad S.length), _)]
    rw [if_pos rfl]
    rfl
  rw [hw] at hP1 hD1
  have k9 := kk p l e s m args below meth c D cA sp a0 A Q hC hin hk0 (fun i => if i = S.length then qa else ad i) H1 locs ls ((had2 0 hn0).trans had) hP1 hD1 hS1 (mj_lv_ad hlr had2 hl)
  rw [List.map_cons, mj_st_ad had2 st hsr] at k9
  have e9 : mj_tv (fun i => if i = S.length then qa else ad i) sp (.ref S.length) = .ref qa := by
    show Value.ref (if S.length = S.length then qa else ad S.length) = .ref qa
    rw [if_pos rfl]
  rw [e9] at k9
  exact k9
theorem ea_newz {J : mj_J} {pc q : Nat} {loc : List (Option Value)} {st : List Value} {S : mj_S} {f : mj_I} {cs : Nat × Nat} {S' : mj_S} {f' : mj_I} {N n : Nat} {i : Int32} {cs' : Nat × Nat} {S1 : mj_S} (hac : Cond.arrayClass (.boolean) ∈ mj_gw) (hi0 : ¬ i < 0) (hiN : i.toNatClampNeg = N) (hby : N * componentBytes (.boolean) ≤ 536870912) (hn : S.length = n) (hn0 : 0 < n) (hcl : mj_cl n S = true) (hlr : mj_lr n loc = true) (hsr : st.all (mj_vr n) = true) (hf : ∀ k, f n k = 0) (hcs : (cs.1 + 1, cs.2 + N) = cs') (h1 : cs.1 + 1 ≤ mj_mc J) (h2 : cs.2 + N ≤ mj_ms J) (hS1 : S ++ [.inr (1, N, [])] = S1) (hd : decode (mj_cc J) pc = .ok (.newarray .boolean, 2)) (hq : pc + 2 = q) (kk : mj_EvA J q loc (.ref n :: st) S1 f cs' S' f') : mj_EvA J pc loc (.int i :: st) S f cs S' f' := by
  intro p l e s m args below meth c D cA sp a0 A Q hC hin hk0 ad H locs ls had hP hD hS hl
  subst hq
  subst hcs
  subst hS1
  subst hn
  obtain ⟨hx, hb, hml, hown, hts, hK, hA, hX⟩ := id hC
  have hf9 : f S.length = fun _ => 0 := funext hf
  refine va_newa (atype := .boolean) (a0 := (N, .inl (fun _ => 0))) hx hb (hts _ hac) (ty := .boolean) rfl hK hP hD hS hA (fun _ => rfl) hi0 hiN hby h1 h2 hd (fun qa cX H1 hK1 hP1 hD1 hS1 => ?_)
  have hcX : cX = cA 1 := by
    have g1 := (hK1.2 5 (cX, .boolean) rfl).2
    have g2 := (hK.2 1 (cA 1, .boolean) rfl).2
    exact Option.some.inj ((show s.vm.findClass _ = some cX from g1).symm.trans (show s.vm.findClass _ = some (cA 1) from g2))
  subst hcX
  have had2 := mj_adn ad S.length qa
  have hw : mj_w ad cA S f mj_zl ++ [(qa, .inl (cA 1, N, .inl (fun _ => 0)))] = mj_w (fun i => if i = S.length then qa else ad i) cA (S ++ [.inr (1, N, [])]) f mj_zl := by
    rw [mj_w_push, mj_w_ad cA f mj_zl hcl (Nat.le_refl _) had2, hf9]
    show _ = _ ++ [((if S.length = S.length then qa else ad S.length), _)]
    rw [if_pos rfl]
    rfl
  rw [hw] at hP1 hD1
  have k9 := kk p l e s m args below meth c D cA sp a0 A Q hC hin hk0 (fun i => if i = S.length then qa else ad i) H1 locs ls ((had2 0 hn0).trans had) hP1 hD1 hS1 (mj_lv_ad hlr had2 hl)
  rw [List.map_cons, mj_st_ad had2 st hsr] at k9
  have e9 : mj_tv (fun i => if i = S.length then qa else ad i) sp (.ref S.length) = .ref qa := by
    show Value.ref (if S.length = S.length then qa else ad S.length) = .ref qa
    rw [if_pos rfl]
  rw [e9] at k9
  exact k9
theorem ea_newq2 {J : mj_J} {pc q : Nat} {loc : List (Option Value)} {st : List Value} {S : mj_S} {f : mj_I} {cs : Nat × Nat} {S' : mj_S} {f' : mj_I} {N n idx : Nat} {i : Int32} {cs' : Nat × Nat} {S1 : mj_S} (hlk : Cond.classLink (mj_y J).cls idx "CloudHerd$Cloud" ∈ mj_gw) (hi0 : ¬ i < 0) (hiN : i.toNatClampNeg = N) (hby : N * 4 ≤ 536870912) (hn : S.length = n) (hn0 : 0 < n) (hcl : mj_cl n S = true) (hlr : mj_lr n loc = true) (hsr : st.all (mj_vr n) = true) (hcs : (cs.1 + 1, cs.2 + N) = cs') (h1 : cs.1 + 1 ≤ mj_mc J) (h2 : cs.2 + N ≤ mj_ms J) (hS1 : S ++ [.inr (2, N, List.replicate N none)] = S1) (hd : decode (mj_cc J) pc = .ok (.anewarray idx, 3)) (hq : pc + 3 = q) (kk : mj_EvA J q loc (.ref n :: st) S1 f cs' S' f') : mj_EvA J pc loc (.int i :: st) S f cs S' f' := by
  intro p l e s m args below meth c D cA sp a0 A Q hC hin hk0 ad H locs ls had hP hD hS hl
  subst hq
  subst hcs
  subst hS1
  subst hn
  obtain ⟨hx, hb, hml, hown, hts, hK, hA, hX⟩ := id hC
  refine va_newq hx hb hown (hts _ hlk) hX.2.1 hK hP hD hS hA hi0 hiN hby h1 h2 hd (fun qa cX H1 hK1 hP1 hD1 hS1 => ?_)
  have hcX : cX = cA 2 := by
    obtain ⟨_, _, _, _, _, g1⟩ := (hK1.2 5 (cX, .object "CloudHerd$Cloud") rfl).2
    obtain ⟨_, _, _, _, _, g2⟩ := (hK.2 2 (cA 2, .object "CloudHerd$Cloud") rfl).2
    exact Option.some.inj (g1.symm.trans g2)
  subst hcX
  have had2 := mj_adn ad S.length qa
  have hfn : ∀ ad2 : Nat → Nat, (fun k => ((List.replicate N none).getD k none).map ad2) = (fun _ => (none : Option Nat)) := by
    intro ad2
    funext k
    rw [List.getD_eq_getElem?_getD, List.getElem?_replicate]
    split <;> rfl
  have hw : mj_w ad cA S f mj_zl ++ [(qa, .inl (cA 2, N, .inr (.inr (.inr (.inr (fun _ => none))))))] = mj_w (fun i => if i = S.length then qa else ad i) cA (S ++ [.inr (2, N, List.replicate N none)]) f mj_zl := by
    rw [mj_w_push, mj_w_ad cA f mj_zl hcl (Nat.le_refl _) had2]
    show _ = _ ++ [((if S.length = S.length then qa else ad S.length), (Sum.inl (cA 2, ((N, Sum.inr (Sum.inr (Sum.inr (Sum.inr (fun k => ((List.replicate N none).getD k none).map (fun i => if i = S.length then qa else ad i)))))) : vp_A)) : va_E))]
    rw [if_pos rfl, hfn]
  rw [hw] at hP1 hD1
  have k9 := kk p l e s m args below meth c D cA sp a0 A Q hC hin hk0 (fun i => if i = S.length then qa else ad i) H1 locs ls ((had2 0 hn0).trans had) hP1 hD1 hS1 (mj_lv_ad hlr had2 hl)
  rw [List.map_cons, mj_st_ad had2 st hsr] at k9
  have e9 : mj_tv (fun i => if i = S.length then qa else ad i) sp (.ref S.length) = .ref qa := by
    show Value.ref (if S.length = S.length then qa else ad S.length) = .ref qa
    rw [if_pos rfl]
  rw [e9] at k9
  exact k9
theorem ea_newq3 {J : mj_J} {pc q : Nat} {loc : List (Option Value)} {st : List Value} {S : mj_S} {f : mj_I} {cs : Nat × Nat} {S' : mj_S} {f' : mj_I} {N n idx : Nat} {i : Int32} {cs' : Nat × Nat} {S1 : mj_S} (hlk : Cond.classLink (mj_y J).cls idx "CloudHerd$Herd" ∈ mj_gw) (hi0 : ¬ i < 0) (hiN : i.toNatClampNeg = N) (hby : N * 4 ≤ 536870912) (hn : S.length = n) (hn0 : 0 < n) (hcl : mj_cl n S = true) (hlr : mj_lr n loc = true) (hsr : st.all (mj_vr n) = true) (hcs : (cs.1 + 1, cs.2 + N) = cs') (h1 : cs.1 + 1 ≤ mj_mc J) (h2 : cs.2 + N ≤ mj_ms J) (hS1 : S ++ [.inr (3, N, List.replicate N none)] = S1) (hd : decode (mj_cc J) pc = .ok (.anewarray idx, 3)) (hq : pc + 3 = q) (kk : mj_EvA J q loc (.ref n :: st) S1 f cs' S' f') : mj_EvA J pc loc (.int i :: st) S f cs S' f' := by
  intro p l e s m args below meth c D cA sp a0 A Q hC hin hk0 ad H locs ls had hP hD hS hl
  subst hq
  subst hcs
  subst hS1
  subst hn
  obtain ⟨hx, hb, hml, hown, hts, hK, hA, hX⟩ := id hC
  refine va_newq hx hb hown (hts _ hlk) hX.2.2.1 hK hP hD hS hA hi0 hiN hby h1 h2 hd (fun qa cX H1 hK1 hP1 hD1 hS1 => ?_)
  have hcX : cX = cA 3 := by
    obtain ⟨_, _, _, _, _, g1⟩ := (hK1.2 5 (cX, .object "CloudHerd$Herd") rfl).2
    obtain ⟨_, _, _, _, _, g2⟩ := (hK.2 3 (cA 3, .object "CloudHerd$Herd") rfl).2
    exact Option.some.inj (g1.symm.trans g2)
  subst hcX
  have had2 := mj_adn ad S.length qa
  have hfn : ∀ ad2 : Nat → Nat, (fun k => ((List.replicate N none).getD k none).map ad2) = (fun _ => (none : Option Nat)) := by
    intro ad2
    funext k
    rw [List.getD_eq_getElem?_getD, List.getElem?_replicate]
    split <;> rfl
  have hw : mj_w ad cA S f mj_zl ++ [(qa, .inl (cA 3, N, .inr (.inr (.inr (.inr (fun _ => none))))))] = mj_w (fun i => if i = S.length then qa else ad i) cA (S ++ [.inr (3, N, List.replicate N none)]) f mj_zl := by
    rw [mj_w_push, mj_w_ad cA f mj_zl hcl (Nat.le_refl _) had2]
    show _ = _ ++ [((if S.length = S.length then qa else ad S.length), (Sum.inl (cA 3, ((N, Sum.inr (Sum.inr (Sum.inr (Sum.inr (fun k => ((List.replicate N none).getD k none).map (fun i => if i = S.length then qa else ad i)))))) : vp_A)) : va_E))]
    rw [if_pos rfl, hfn]
  rw [hw] at hP1 hD1
  have k9 := kk p l e s m args below meth c D cA sp a0 A Q hC hin hk0 (fun i => if i = S.length then qa else ad i) H1 locs ls ((had2 0 hn0).trans had) hP1 hD1 hS1 (mj_lv_ad hlr had2 hl)
  rw [List.map_cons, mj_st_ad had2 st hsr] at k9
  have e9 : mj_tv (fun i => if i = S.length then qa else ad i) sp (.ref S.length) = .ref qa := by
    show Value.ref (if S.length = S.length then qa else ad S.length) = .ref qa
    rw [if_pos rfl]
  rw [e9] at k9
  exact k9
theorem ea_newq4 {J : mj_J} {pc q : Nat} {loc : List (Option Value)} {st : List Value} {S : mj_S} {f : mj_I} {cs : Nat × Nat} {S' : mj_S} {f' : mj_I} {N n idx : Nat} {i : Int32} {cs' : Nat × Nat} {S1 : mj_S} (hlk : Cond.classLink (mj_y J).cls idx "CloudHerd$Row" ∈ mj_gw) (hi0 : ¬ i < 0) (hiN : i.toNatClampNeg = N) (hby : N * 4 ≤ 536870912) (hn : S.length = n) (hn0 : 0 < n) (hcl : mj_cl n S = true) (hlr : mj_lr n loc = true) (hsr : st.all (mj_vr n) = true) (hcs : (cs.1 + 1, cs.2 + N) = cs') (h1 : cs.1 + 1 ≤ mj_mc J) (h2 : cs.2 + N ≤ mj_ms J) (hS1 : S ++ [.inr (4, N, List.replicate N none)] = S1) (hd : decode (mj_cc J) pc = .ok (.anewarray idx, 3)) (hq : pc + 3 = q) (kk : mj_EvA J q loc (.ref n :: st) S1 f cs' S' f') : mj_EvA J pc loc (.int i :: st) S f cs S' f' := by
  intro p l e s m args below meth c D cA sp a0 A Q hC hin hk0 ad H locs ls had hP hD hS hl
  subst hq
  subst hcs
  subst hS1
  subst hn
  obtain ⟨hx, hb, hml, hown, hts, hK, hA, hX⟩ := id hC
  refine va_newq hx hb hown (hts _ hlk) hX.2.2.2.1 hK hP hD hS hA hi0 hiN hby h1 h2 hd (fun qa cX H1 hK1 hP1 hD1 hS1 => ?_)
  have hcX : cX = cA 4 := by
    obtain ⟨_, _, _, _, _, g1⟩ := (hK1.2 5 (cX, .object "CloudHerd$Row") rfl).2
    obtain ⟨_, _, _, _, _, g2⟩ := (hK.2 4 (cA 4, .object "CloudHerd$Row") rfl).2
    exact Option.some.inj (g1.symm.trans g2)
  subst hcX
  have had2 := mj_adn ad S.length qa
  have hfn : ∀ ad2 : Nat → Nat, (fun k => ((List.replicate N none).getD k none).map ad2) = (fun _ => (none : Option Nat)) := by
    intro ad2
    funext k
    rw [List.getD_eq_getElem?_getD, List.getElem?_replicate]
    split <;> rfl
  have hw : mj_w ad cA S f mj_zl ++ [(qa, .inl (cA 4, N, .inr (.inr (.inr (.inr (fun _ => none))))))] = mj_w (fun i => if i = S.length then qa else ad i) cA (S ++ [.inr (4, N, List.replicate N none)]) f mj_zl := by
    rw [mj_w_push, mj_w_ad cA f mj_zl hcl (Nat.le_refl _) had2]
    show _ = _ ++ [((if S.length = S.length then qa else ad S.length), (Sum.inl (cA 4, ((N, Sum.inr (Sum.inr (Sum.inr (Sum.inr (fun k => ((List.replicate N none).getD k none).map (fun i => if i = S.length then qa else ad i)))))) : vp_A)) : va_E))]
    rw [if_pos rfl, hfn]
  rw [hw] at hP1 hD1
  have k9 := kk p l e s m args below meth c D cA sp a0 A Q hC hin hk0 (fun i => if i = S.length then qa else ad i) H1 locs ls ((had2 0 hn0).trans had) hP1 hD1 hS1 (mj_lv_ad hlr had2 hl)
  rw [List.map_cons, mj_st_ad had2 st hsr] at k9
  have e9 : mj_tv (fun i => if i = S.length then qa else ad i) sp (.ref S.length) = .ref qa := by
    show Value.ref (if S.length = S.length then qa else ad S.length) = .ref qa
    rw [if_pos rfl]
  rw [e9] at k9
  exact k9
/-- a constructor's world, moved up by n -/
def mj_shc (n : Nat) (c : (Nat × List (Option Nat)) ⊕ (Nat × Nat × List (Option Nat))) : (Nat × List (Option Nat)) ⊕ (Nat × Nat × List (Option Nat)) := match c with
  | .inl (ci, rs) => .inl (ci, rs.map (fun r => r.map (fun i => n + i)))
  | .inr (kd, m, rs) => .inr (kd, m, rs.map (fun r => r.map (fun i => n + i)))
def mj_sh (n : Nat) (S : mj_S) : mj_S := S.map (mj_shc n)
theorem mj_sh_get (rs : List (Option Nat)) (n k : Nat) (ad : Nat → Nat) : ((rs.map (fun r => r.map (fun i => n + i))).getD k none).map ad = (rs.getD k none).map (fun i => ad (n + i)) := by
  rw [List.getD_eq_getElem?_getD, List.getD_eq_getElem?_getD, List.getElem?_map]
  cases rs[k]? with
  | none => rfl
  | some r => cases r <;> rfl
theorem mj_e_sh (n : Nat) (c : (Nat × List (Option Nat)) ⊕ (Nat × Nat × List (Option Nat))) (ad : Nat → Nat) (cA : Nat → ClassId) (f : Nat → Int32) (g : Nat → Int64) : mj_e ad cA (mj_shc n c) f g = mj_e (fun i => ad (n + i)) cA c f g := by
  rcases c with ⟨ci, rs⟩ | ⟨kd, m, rs⟩
  · show Sum.inr (ci, mj_fs ad ci _ f g) = Sum.inr (ci, mj_fs _ ci rs f g)
    have : mj_fs ad ci (rs.map (fun r => r.map (fun i => n + i))) f g = mj_fs (fun i => ad (n + i)) ci rs f g := by
      unfold mj_fs
      congr 1
      funext k kd
      unfold mj_sv
      split
      · rfl
      · rw [mj_sh_get]
      · rfl
    rw [this]
  · show Sum.inl (cA kd, mj_a ad kd m _ f) = Sum.inl (cA kd, mj_a _ kd m rs f)
    have : mj_a ad kd m (rs.map (fun r => r.map (fun i => n + i))) f = mj_a (fun i => ad (n + i)) kd m rs f := by
      unfold mj_a
      split
      · rfl
      · rfl
      · congr 5
        funext k
        exact mj_sh_get rs n k ad
    rw [this]
/-- two worlds side by side are one -/
theorem mj_w_app (S0 Sc : mj_S) (ad : Nat → Nat) (cA : Nat → ClassId) (f : mj_I) (g : mj_L) : mj_w ad cA (S0 ++ mj_sh S0.length Sc) f g = mj_w ad cA S0 f g ++ mj_w (fun i => ad (S0.length + i)) cA Sc (fun i => f (S0.length + i)) (fun i => g (S0.length + i)) := by
  apply List.ext_getElem?
  intro i
  rw [mj_w_get]
  have hlen : (mj_w ad cA S0 f g).length = S0.length := by simp [mj_w]
  by_cases hi : i < S0.length
  · rw [List.getElem?_append_left hi, List.getElem?_append_left (by rw [hlen]; exact hi), mj_w_get]
  · rw [List.getElem?_append_right (by omega), List.getElem?_append_right (by rw [hlen]; omega), mj_w_get, hlen]
    unfold mj_sh
    rw [List.getElem?_map]
    cases hc : Sc[i - S0.length]? with
    | none => rfl
    | some c =>
      show some (ad i, mj_e ad cA (mj_shc S0.length c) (f i) (g i)) = some (ad (S0.length + (i - S0.length)), mj_e _ cA c (f (S0.length + (i - S0.length))) (g (S0.length + (i - S0.length))))
      rw [mj_e_sh, show S0.length + (i - S0.length) = i by omega]
theorem mj_w_cong {ad : Nat → Nat} {cA : Nat → ClassId} {S : mj_S} {f f2 : mj_I} {g g2 : mj_L} (hf : ∀ i, i < S.length → f i = f2 i) (hg : ∀ i, i < S.length → g i = g2 i) : mj_w ad cA S f g = mj_w ad cA S f2 g2 := by
  apply List.ext_getElem?
  intro i
  rw [mj_w_get, mj_w_get]
  cases hc : S[i]? with
  | none => rfl
  | some c =>
    have hi : i < S.length := (List.getElem?_eq_some_iff.mp hc).1
    rw [hf i hi, hg i hi]
/-- behind a constructor's call: what stood before stays, the new object's world comes in its place -/
theorem mj_joinC {A0 : Nat → Prop} {D : va_G} {cl : List vw_C} {wr w1 : va_W} {a : Nat} {e : va_E} {H H1 : Heap} (hP : va_P D cl (wr ++ [(a, e)]) H) (hD : va_D A0 (wr ++ [(a, e)])) (hk : ∀ q : Nat, q < H.size → ¬ va_A [(a, e)] H.size q → H1[q]? = H[q]?) (hF : ∀ q, va_A [(a, e)] H.size q → A0 q) (hP1 : va_P D cl w1 H1) (hD1 : va_D (va_A [(a, e)] H.size) w1) : va_P D cl (wr ++ w1) H1 ∧ va_D A0 (wr ++ w1) := by
  have hg : ∀ (k : Nat) (q : Nat × va_E), wr[k]? = some q → (wr ++ [(a, e)])[k]? = some q := fun k q h => by
    rw [List.getElem?_append_left (List.getElem?_eq_some_iff.mp h).1]; exact h
  have apart : ∀ (k : Nat) (q : Nat × va_E), wr[k]? = some q → q.1 < H.size ∧ ¬ va_A [(a, e)] H.size q.1 := by
    intro k q hq
    have hl := (hP k q (hg k q hq)).lt
    refine ⟨hl, fun h => ?_⟩
    rcases h with ⟨k2, e2, h⟩ | h
    · cases k2 with
      | zero =>
        simp only [List.getElem?_cons_zero, Option.some.injEq] at h
        have hlast : (wr ++ [(a, e)])[wr.length]? = some (a, e) := by simp
        have := hD.1 k wr.length q (a, e) (hg k q hq) hlast (congrArg Prod.fst h).symm
        have hkl := (List.getElem?_eq_some_iff.mp hq).1
        omega
      | succ k2 => simp at h
    · omega
  refine ⟨va_P.app (fun k q hq => (hP k q (hg k q hq)).kept (hk q.1 (apart k q hq).1 (apart k q hq).2)) hP1, va_D.app ⟨fun i j x y hi hj hxy => hD.1 i j x y (hg i x hi) (hg j y hj) hxy, fun k q hq => hD.2 k q (hg k q hq)⟩ (hD1.weaken (fun k q _ h => hF q.1 h)) (fun i j x y hx hy hxy => (apart i x hx).2 (by rw [hxy]; exact hD1.2 j y hy))⟩
/-- a constructor as a callee -/
def mj_KA (K : mj_J) : Prop := Cond.code (mj_y K) (mj_cc K) (mj_nL K) (mj_rt K) ∈ mj_gw ∧ Cond.initialized (mj_y K).cls ∈ mj_gw ∧ ((mj_y K).cls ≠ "java/lang/invoke/MethodHandle" ∧ (mj_y K).cls ≠ "java/lang/invoke/VarHandle" ∧ (parseMethodDescriptor (mj_y K).desc).map (fun d => d.parameters.length) = some 0) ∧ mj_nL K ≤ 40 ∧ Cond.instanceMethod (mj_y K) ∈ mj_gw ∧ (mj_y K).name = "<init>" ∧ mj_rt K = none
theorem mj_gw_codeA {K : mj_J} (h : mj_KA K) : GoodIn mj_gw (.code (mj_y K) (mj_cc K) (mj_nL K) (mj_rt K) :: mj_gw) := mj_gw_good (fun w hw => by
  rcases List.mem_cons.mp hw with rfl | hw
  · exact h.1
  · exact hw)
theorem mj_callA {p : Program} {l : Launch} {e : Env} {R : Room} {s : State} {m : MethodId} {args : Array Value} {below : List Frame} {meth : Method} {c : Code} {H : Heap} {locs : List Loc} {cells slots mc ms : Nat} {Q : State → Prop} {pc : Nat} {ls : Array Slot} {rest st0 : List Value} {a : Array Value} {A0 A1 : Nat → Prop} {H0 : Heap} {B : State → Prop}
    (hr : va_Run p l e R s m args below meth c H locs cells slots mc ms (F0 m pc ls st0) rest ((fun _ st oc t => (oc = .returned none ∧ B t) ∧ va_F A1 st t : Array Value → State → Outcome → State → Prop) a) A1) (hS : va_S A0 H0 H locs) (hA : ∀ q, A1 q → A0 q)
    (kk : ∀ (t : State) (H1 : Heap) (locs1 : List Loc), t.heap = H1 → B t → (∀ q : Nat, q < H.size → ¬ A1 q → H1[q]? = H[q]?) → va_S A0 H0 H1 locs1 → W p l e R s m args below meth c H1 locs1 (cells + mc) (slots + ms) Q (F0 m (pc + 3) ls rest)) : W p l e R s m args below meth c H locs cells slots Q (F0 m pc ls st0) := by
  intro T hT X
  obtain ⟨v, st₀, t, T', L, h0, X', hL, e1, e2, ⟨⟨hv, hB⟩, hz, hk⟩, st⟩ := hr T hT X
  cases hv
  rw [h0] at hz hk
  obtain ⟨t2, a1, b1⟩ := kk t T'.heap (locs ++ L) e1.symm hB (fun q h1 h2 => by rw [e1]; exact hk q h1 h2)
    ⟨Nat.le_trans hS.1 (by rw [e1]; exact hz), fun q h1 h2 => by rw [e1, hk q (Nat.lt_of_lt_of_le h1 hS.1) (fun z => h2 (hA q z))]; exact hS.2.1 q h1 h2, fun q hq => by
      rcases List.mem_append.mp hq with h | h
      · exact hS.2.2 q h
      · exact hA _ (hL q h)⟩ T' rfl X'
  exact ⟨t2, st t2 a1, b1⟩
theorem mj_one (a : Nat) (cA : Nat → ClassId) (ci N : Nat) : mj_w (fun _ => a) cA [.inl (ci, List.replicate N none)] mj_z mj_zl = [(a, mj_e (fun _ => a) cA (.inl (ci, List.replicate N none)) (mj_z 0) (mj_zl 0))] := rfl
theorem ea_init {J : mj_J} {pc q : Nat} {loc : List (Option Value)} {st : List Value} {S : mj_S} {f : mj_I} {cs : Nat × Nat} {S' : mj_S} {f' : mj_I} {K : mj_J} {idx ci N n : Nat} {S0 Sc S1 : mj_S} {fc f1 : mj_I} {cs' : Nat × Nat} (hlk : Cond.methodLink (mj_y J).cls idx (mj_y K) ∈ mj_gw) (hk : mj_KA K) (hsp : mj_SpA K ci N Sc fc) (hS0 : S = S0 ++ [.inl (ci, List.replicate N none)]) (hn : S0.length = n) (hn0 : 0 < n) (hcl : mj_cl n S0 = true) (hlr : mj_lr n loc = true) (hsr : st.all (mj_vr n) = true) (hf : ∀ k, f n k = 0) (hf1 : ∀ i, (if i < n then f i else fc (i - n)) = f1 i) (hS1 : S0 ++ mj_sh n Sc = S1) (hcs : (cs.1 + mj_mc K, cs.2 + mj_ms K) = cs') (h1 : cs.1 + mj_mc K ≤ mj_mc J) (h2 : cs.2 + mj_ms K ≤ mj_ms J) (hroom : mj_d K < mj_d J) (hcat : (st.map fun v => v.category).sum ≤ 7) (hd : decode (mj_cc J) pc = .ok (.invokespecial idx, 3)) (hq : pc + 3 = q) (kk : mj_EvA J q loc (.ref n :: st) S1 f1 cs' S' f') : mj_EvA J pc loc (.ref n :: .ref n :: st) S f cs S' f' := by
  intro p l e s m args below meth c D cA sp a0 A Q hC hin hk0 ad H locs ls had hP hD hS hl
  subst hq
  subst hcs
  subst hS1
  subst hn
  subst hS0
  obtain ⟨hx, hb, hml, hown, hts, hK, hA, hX⟩ := id hC
  have h40 := hk.2.2.2.1
  have hsp9 := hsp l D cA sp (ad S0.length) H.size
  have hgc := mj_gw_codeA hk
  rw [hk.2.2.2.2.2.2] at hsp9 hgc
  have hf9 : (mj_room K).frames = mj_d K := rfl
  have hlo9 : (mj_room K).locals = 64 * mj_d K := rfl
  have hRf : (mj_room J).frames = mj_d J := rfl
  have hRl : (mj_room J).locals = 64 * mj_d J := rfl
  have hfz : f S0.length = fun _ => 0 := funext hf
  have hone : mj_e ad cA (.inl (ci, List.replicate N none)) (f S0.length) (mj_zl S0.length) = mj_e (fun _ => ad S0.length) cA (.inl (ci, List.replicate N none)) (mj_z 0) (mj_zl 0) := by
    rw [hfz]
    refine mj_e_ad (n := 0) cA _ _ ?_ (fun i h => absurd h (Nat.not_lt_zero i))
    show (List.replicate N none).all (mj_rb 0) = true
    rw [List.all_eq_true]
    intro r hr
    rw [(List.mem_replicate.mp hr).2]
    rfl
  rw [mj_w_push, hone] at hP hD
  have hFc : ∀ q, va_A [(ad S0.length, mj_e (fun _ => ad S0.length) cA (.inl (ci, List.replicate N none)) (mj_z 0) (mj_zl 0))] H.size q → A q := by
    intro q h
    rcases h with ⟨k, e2, h⟩ | h
    · cases k with
      | zero =>
        simp only [List.getElem?_cons_zero, Option.some.injEq] at h
        have hlast : (mj_w ad cA S0 f mj_zl ++ [(ad S0.length, mj_e (fun _ => ad S0.length) cA (.inl (ci, List.replicate N none)) (mj_z 0) (mj_zl 0))])[(mj_w ad cA S0 f mj_zl).length]? = some (ad S0.length, mj_e (fun _ => ad S0.length) cA (.inl (ci, List.replicate N none)) (mj_z 0) (mj_zl 0)) := by simp
        have := hD.2 _ _ hlast
        rw [h] at this
        exact this
      | succ k => simp at h
    · exact hA q (Nat.le_trans hS.1 h)
  have hPc : va_P D vwCl (mj_w (fun _ => ad S0.length) cA [.inl (ci, List.replicate N none)] mj_z mj_zl) H := by
    intro k q hk2
    have hlast : (mj_w ad cA S0 f mj_zl ++ [(ad S0.length, mj_e (fun _ => ad S0.length) cA (.inl (ci, List.replicate N none)) (mj_z 0) (mj_zl 0))])[(mj_w ad cA S0 f mj_zl).length + k]? = some q := by
      rw [List.getElem?_append_right (by omega), show (mj_w ad cA S0 f mj_zl).length + k - (mj_w ad cA S0 f mj_zl).length = k by omega]
      exact hk2
    exact hP _ q hlast
  have hDc : va_D (fun _ => True) (mj_w (fun _ => ad S0.length) cA [.inl (ci, List.replicate N none)] mj_z mj_zl) := by
    refine ⟨fun i j x y hi hj _ => ?_, fun _ _ _ => trivial⟩
    have h1 := (List.getElem?_eq_some_iff.mp hi).1
    have h2 := (List.getElem?_eq_some_iff.mp hj).1
    simp only [mj_one, List.length_singleton] at h1 h2
    omega
  refine mj_callA (rest := (.ref (ad S0.length) :: st.map (mj_tv ad sp))) (a := #[Value.ref (ad S0.length)]) (A1 := va_A (mj_w (fun _ => ad S0.length) cA [.inl (ci, List.replicate N none)] mj_z mj_zl) H.size) (va_runI (As := []) (b := ad S0.length) ⟨hx, hb, hml, hown, hts⟩ hsp9 ⟨callB_of (maxL := mj_nL K) 0 hts hgc rfl rfl rfl (hts _ hk.2.1) (hts _ hlk) hk.2.2.1 ⟨by rw [hf9]; omega, by rw [hlo9]; omega⟩, hk.2.2.2.2.2.1, hts _ hk.2.2.2.2.1⟩ ⟨mj_blind D cA sp (fun _ => ad S0.length) H.size _ mj_z mj_zl _, fun U hU hW => ⟨rfl, by rw [hU], by rw [hU]; exact hPc, va_K.moved hW.alike hK, hDc, by rw [hU]; exact ((hX.kept (H1 := H) (fun a h1 h2 => hS.2.1 a h1 h2)).moved hW).narrow hFc⟩⟩ rfl rfl hl.1 rfl (lv_room (by show 1 + ((st.map (mj_tv ad sp)).map fun v => v.category).sum ≤ 8; rw [mj_tv_sum]; omega)) hd ⟨h1, h2⟩) hS hFc (fun t H1 locs1 ht hB hk1 hS1 => ?_)
  obtain ⟨adc, hadc, hP1, hD1⟩ := hB
  rw [ht] at hP1
  obtain ⟨hP2, hD2⟩ := mj_joinC hP hD hk1 hFc hP1 hD1
  have had2 : ∀ i, i < S0.length → (fun i => if i < S0.length then ad i else adc (i - S0.length)) i = ad i := fun i h => if_pos h
  have hw : mj_w ad cA S0 f mj_zl ++ mj_w adc cA Sc fc mj_zl = mj_w (fun i => if i < S0.length then ad i else adc (i - S0.length)) cA (S0 ++ mj_sh S0.length Sc) f1 mj_zl := by
    rw [mj_w_app]
    congr 1
    · rw [mj_w_ad cA f1 mj_zl hcl (Nat.le_refl _) had2]
      exact mj_w_cong (fun i hi => by rw [← hf1 i, if_pos hi]) (fun _ _ => rfl)
    · have e1 : (fun i => (fun i => if i < S0.length then ad i else adc (i - S0.length)) (S0.length + i)) = adc := by
        funext i
        show (if S0.length + i < S0.length then ad (S0.length + i) else adc (S0.length + i - S0.length)) = adc i
        rw [if_neg (by omega), show S0.length + i - S0.length = i by omega]
      rw [e1]
      exact mj_w_cong (fun i _ => by rw [← hf1 (S0.length + i), if_neg (by omega), show S0.length + i - S0.length = i by omega]) (fun _ _ => rfl)
  rw [hw] at hP2 hD2
  have k9 := kk p l e s m args below meth c D cA sp a0 A Q hC hin hk0 (fun i => if i < S0.length then ad i else adc (i - S0.length)) H1 locs1 ls ((had2 0 hn0).trans had) hP2 hD2 hS1 (mj_lv_ad hlr had2 hl)
  rw [List.map_cons, mj_st_ad had2 st hsr] at k9
  have e9 : mj_tv (fun i => if i < S0.length then ad i else adc (i - S0.length)) sp (.ref S0.length) = .ref (ad S0.length) := by
    show Value.ref (if S0.length < S0.length then ad S0.length else adc (S0.length - S0.length)) = .ref (ad S0.length)
    rw [if_neg (Nat.lt_irrefl _), Nat.sub_self, hadc]
  rw [e9] at k9
  exact k9
theorem ea_initN {J : mj_J} {pc q : Nat} {loc : List (Option Value)} {st : List Value} {S : mj_S} {f : mj_I} {cs : Nat × Nat} {S' : mj_S} {f' : mj_I} {K : mj_J} {idx ci N n : Nat} {S0 Sc S1 : mj_S} {fc f1 : mj_I} {cs' : Nat × Nat} {host : String} (hlk : Cond.methodLinkNest (mj_y J).cls idx (mj_y K) host ∈ mj_nw) (hk : mj_KA K) (hsp : mj_SpA K ci N Sc fc) (hS0 : S = S0 ++ [.inl (ci, List.replicate N none)]) (hn : S0.length = n) (hn0 : 0 < n) (hcl : mj_cl n S0 = true) (hlr : mj_lr n loc = true) (hsr : st.all (mj_vr n) = true) (hf : ∀ k, f n k = 0) (hf1 : ∀ i, (if i < n then f i else fc (i - n)) = f1 i) (hS1 : S0 ++ mj_sh n Sc = S1) (hcs : (cs.1 + mj_mc K, cs.2 + mj_ms K) = cs') (h1 : cs.1 + mj_mc K ≤ mj_mc J) (h2 : cs.2 + mj_ms K ≤ mj_ms J) (hroom : mj_d K < mj_d J) (hcat : (st.map fun v => v.category).sum ≤ 7) (hd : decode (mj_cc J) pc = .ok (.invokespecial idx, 3)) (hq : pc + 3 = q) (kk : mj_EvA J q loc (.ref n :: st) S1 f1 cs' S' f') : mj_EvA J pc loc (.ref n :: .ref n :: st) S f cs S' f' := by
  intro p l e s m args below meth c D cA sp a0 A Q hC hin hk0 ad H locs ls had hP hD hS hl
  subst hq
  subst hcs
  subst hS1
  subst hn
  subst hS0
  obtain ⟨hx, hb, hml, hown, hts, hK, hA, hX⟩ := id hC
  have h40 := hk.2.2.2.1
  have hsp9 := hsp l D cA sp (ad S0.length) H.size
  have hgc := mj_gw_codeA hk
  rw [hk.2.2.2.2.2.2] at hsp9 hgc
  have hf9 : (mj_room K).frames = mj_d K := rfl
  have hlo9 : (mj_room K).locals = 64 * mj_d K := rfl
  have hRf : (mj_room J).frames = mj_d J := rfl
  have hRl : (mj_room J).locals = 64 * mj_d J := rfl
  have hfz : f S0.length = fun _ => 0 := funext hf
  have hone : mj_e ad cA (.inl (ci, List.replicate N none)) (f S0.length) (mj_zl S0.length) = mj_e (fun _ => ad S0.length) cA (.inl (ci, List.replicate N none)) (mj_z 0) (mj_zl 0) := by
    rw [hfz]
    refine mj_e_ad (n := 0) cA _ _ ?_ (fun i h => absurd h (Nat.not_lt_zero i))
    show (List.replicate N none).all (mj_rb 0) = true
    rw [List.all_eq_true]
    intro r hr
    rw [(List.mem_replicate.mp hr).2]
    rfl
  rw [mj_w_push, hone] at hP hD
  have hFc : ∀ q, va_A [(ad S0.length, mj_e (fun _ => ad S0.length) cA (.inl (ci, List.replicate N none)) (mj_z 0) (mj_zl 0))] H.size q → A q := by
    intro q h
    rcases h with ⟨k, e2, h⟩ | h
    · cases k with
      | zero =>
        simp only [List.getElem?_cons_zero, Option.some.injEq] at h
        have hlast : (mj_w ad cA S0 f mj_zl ++ [(ad S0.length, mj_e (fun _ => ad S0.length) cA (.inl (ci, List.replicate N none)) (mj_z 0) (mj_zl 0))])[(mj_w ad cA S0 f mj_zl).length]? = some (ad S0.length, mj_e (fun _ => ad S0.length) cA (.inl (ci, List.replicate N none)) (mj_z 0) (mj_zl 0)) := by simp
        have := hD.2 _ _ hlast
        rw [h] at this
        exact this
      | succ k => simp at h
    · exact hA q (Nat.le_trans hS.1 h)
  have hPc : va_P D vwCl (mj_w (fun _ => ad S0.length) cA [.inl (ci, List.replicate N none)] mj_z mj_zl) H := by
    intro k q hk2
    have hlast : (mj_w ad cA S0 f mj_zl ++ [(ad S0.length, mj_e (fun _ => ad S0.length) cA (.inl (ci, List.replicate N none)) (mj_z 0) (mj_zl 0))])[(mj_w ad cA S0 f mj_zl).length + k]? = some q := by
      rw [List.getElem?_append_right (by omega), show (mj_w ad cA S0 f mj_zl).length + k - (mj_w ad cA S0 f mj_zl).length = k by omega]
      exact hk2
    exact hP _ q hlast
  have hDc : va_D (fun _ => True) (mj_w (fun _ => ad S0.length) cA [.inl (ci, List.replicate N none)] mj_z mj_zl) := by
    refine ⟨fun i j x y hi hj _ => ?_, fun _ _ _ => trivial⟩
    have h1 := (List.getElem?_eq_some_iff.mp hi).1
    have h2 := (List.getElem?_eq_some_iff.mp hj).1
    simp only [mj_one, List.length_singleton] at h1 h2
    omega
  refine mj_callA (rest := (.ref (ad S0.length) :: st.map (mj_tv ad sp))) (a := #[Value.ref (ad S0.length)]) (A1 := va_A (mj_w (fun _ => ad S0.length) cA [.inl (ci, List.replicate N none)] mj_z mj_zl) H.size) (va_runIN (As := []) (b := ad S0.length) ⟨hx, hb, hml, hown, hts⟩ hsp9 ⟨va_cnB (maxL := mj_nL K) 0 hts hgc rfl rfl rfl (hX.1 _ hlk) (hts _ hk.2.1) hk.2.2.1 ⟨by rw [hf9]; omega, by rw [hlo9]; omega⟩, hk.2.2.2.2.2.1, hts _ hk.2.2.2.2.1⟩ ⟨mj_blind D cA sp (fun _ => ad S0.length) H.size _ mj_z mj_zl _, fun U hU hW => ⟨rfl, by rw [hU], by rw [hU]; exact hPc, va_K.moved hW.alike hK, hDc, by rw [hU]; exact ((hX.kept (H1 := H) (fun a h1 h2 => hS.2.1 a h1 h2)).moved hW).narrow hFc⟩⟩ rfl rfl hl.1 rfl (lv_room (by show 1 + ((st.map (mj_tv ad sp)).map fun v => v.category).sum ≤ 8; rw [mj_tv_sum]; omega)) hd ⟨h1, h2⟩) hS hFc (fun t H1 locs1 ht hB hk1 hS1 => ?_)
  obtain ⟨adc, hadc, hP1, hD1⟩ := hB
  rw [ht] at hP1
  obtain ⟨hP2, hD2⟩ := mj_joinC hP hD hk1 hFc hP1 hD1
  have had2 : ∀ i, i < S0.length → (fun i => if i < S0.length then ad i else adc (i - S0.length)) i = ad i := fun i h => if_pos h
  have hw : mj_w ad cA S0 f mj_zl ++ mj_w adc cA Sc fc mj_zl = mj_w (fun i => if i < S0.length then ad i else adc (i - S0.length)) cA (S0 ++ mj_sh S0.length Sc) f1 mj_zl := by
    rw [mj_w_app]
    congr 1
    · rw [mj_w_ad cA f1 mj_zl hcl (Nat.le_refl _) had2]
      exact mj_w_cong (fun i hi => by rw [← hf1 i, if_pos hi]) (fun _ _ => rfl)
    · have e1 : (fun i => (fun i => if i < S0.length then ad i else adc (i - S0.length)) (S0.length + i)) = adc := by
        funext i
        show (if S0.length + i < S0.length then ad (S0.length + i) else adc (S0.length + i - S0.length)) = adc i
        rw [if_neg (by omega), show S0.length + i - S0.length = i by omega]
      rw [e1]
      exact mj_w_cong (fun i _ => by rw [← hf1 (S0.length + i), if_neg (by omega), show S0.length + i - S0.length = i by omega]) (fun _ _ => rfl)
  rw [hw] at hP2 hD2
  have k9 := kk p l e s m args below meth c D cA sp a0 A Q hC hin hk0 (fun i => if i < S0.length then ad i else adc (i - S0.length)) H1 locs1 ls ((had2 0 hn0).trans had) hP2 hD2 hS1 (mj_lv_ad hlr had2 hl)
  rw [List.map_cons, mj_st_ad had2 st hsr] at k9
  have e9 : mj_tv (fun i => if i < S0.length then ad i else adc (i - S0.length)) sp (.ref S0.length) = .ref (ad S0.length) := by
    show Value.ref (if S0.length < S0.length then ad S0.length else adc (S0.length - S0.length)) = .ref (ad S0.length)
    rw [if_neg (Nat.lt_irrefl _), Nat.sub_self, hadc]
  rw [e9] at k9
  exact k9
