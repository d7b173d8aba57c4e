/-- a callee: its code and its class are in the tables, it takes n arguments, it makes nothing -/
def mj_K (K : mj_J) (n : Nat) : Prop := Cond.code (mj_y K) (mj_cc K) (mj_nL K) (mj_rt K) ∈ mj_gw ∧ Cond.initialized (mj_y K).cls ∈ mj_gw ∧ ((mj_y K).cls ≠ "java/lang/invoke/MethodHandle" ∧ (mj_y K).cls ≠ "java/lang/invoke/VarHandle" ∧ (parseMethodDescriptor (mj_y K).desc).map (fun d => d.parameters.length) = some n) ∧ mj_mc K = 0 ∧ mj_ms K = 0 ∧ mj_nL K ≤ 40
theorem mj_gw_code {K : mj_J} {n : Nat} (h : mj_K K n) : GoodIn mj_gw (.code (mj_y K) (mj_cc K) (mj_nL K) (mj_rt K) :: mj_gw) := mj_gw_good (fun w hw => by
  rcases List.mem_cons.mp hw with rfl | hw
  · exact h.1
  · exact hw)
theorem mj_callB {R : Room} {s : State} {args : Array Value} {own : String} {idx n : Nat} {J K : mj_J} (hts : ∀ w ∈ mj_gw, w.before args s = true) (hk : mj_K K n) (hlk : Cond.methodLink own idx (mj_y K) ∈ mj_gw) (hdJ : mj_d J ≤ R.frames ∧ 64 * mj_d J ≤ R.locals) (hroom : mj_d K < mj_d J) : CallB R s args own idx (mj_y K) (mj_cc K) (mj_nL K) (mj_rt K) (.code (mj_y K) (mj_cc K) (mj_nL K) (mj_rt K) :: mj_gw) (mj_room K) 0 0 n := by
  have h40 := hk.2.2.2.2.2
  have hf : (mj_room K).frames = mj_d K := rfl
  have hlo : (mj_room K).locals = 64 * mj_d K := rfl
  exact callB_of n hts (mj_gw_code hk) rfl hk.2.2.2.1 hk.2.2.2.2.1 (hts _ hk.2.1) (hts _ hlk) hk.2.2.1 ⟨by rw [hf]; omega, by rw [hlo]; omega⟩
theorem mj_blind (D : va_G) (cA : Nat → ClassId) (sp ad : Nat → Nat) (sz : Nat) (S : mj_S) (f : mj_I) (g : mj_L) (as : List Value) : FrameBlind (va_Pc as (mj_Pc D cA sp ad sz S f g)) := by
  intro a U fr mk h
  obtain ⟨h1, h2, h3, h4, h5, h6⟩ := h
  exact ⟨h1, h2, h3, va_K.moved (u := U) (U := U.calling fr mk a) (Vm.Alike.refl U.vm) h4, h5, (show mj_X sp _ (U.calling fr mk a) U.heap from mj_X.called (u := U) (U := U.calling fr mk a) rfl h6)⟩
theorem mj_sub {ad : Nat → Nat} {cA : Nat → ClassId} {S : mj_S} {f : mj_I} {g : mj_L} {A : Nat → Prop} {H0 H : Heap} {locs : List Loc} (hD : va_D A (mj_w ad cA S f g)) (hS : va_S A H0 H locs) (hA : ∀ q, H0.size ≤ q → A q) : ∀ q, va_A (mj_w ad cA S f g) H.size q → A q := by
  intro q h
  rcases h with ⟨k, e, h⟩ | h
  · exact hD.2 k _ h
  · exact hA q (Nat.le_trans hS.1 h)
theorem mj_pre {D : va_G} {cA : Nat → ClassId} {sp ad : Nat → Nat} {S : mj_S} {f : mj_I} {g : mj_L} {A : Nat → Prop} {s : State} {H : Heap} {locs : List Loc} (hP : va_P D vwCl (mj_w ad cA S f g) H) (hD : va_D A (mj_w ad cA S f g)) (hS : va_S A s.heap H locs) (hA : ∀ q, s.heap.size ≤ q → A q) (hK : va_K D vwCl (mj_tys cA) s) (hX : mj_X sp A s s.heap) : ∀ U : State, U.heap = H → s.WarmedH U.vm → mj_Pc D cA sp ad H.size S f g U := by
  intro U hU hW
  refine ⟨by rw [hU], by rw [hU]; exact hP, va_K.moved hW.alike hK, hD.weaken (fun _ _ _ _ => trivial), ?_⟩
  rw [hU]
  exact ((hX.kept (H1 := H) (fun a h1 h2 => hS.2.1 a h1 h2)).moved hW).narrow (mj_sub hD hS hA)
theorem mj_call {p : Program} {l : Launch} {e : Env} {R : Room} {s : State} {m : MethodId} {args : Array Value} {below : List Frame} {meth : Method} {c : Code} {H : Heap} {locs : List Loc} {cells slots : Nat} {Q : State → Prop} {pc : Nat} {ls : Array Slot} {rest st0 : List Value} {a : Array Value} {A0 : Nat → Prop} {H0 : Heap} {D : va_G} {cA : Nat → ClassId} {ad : Nat → Nat} {S : mj_S} {f : mj_I} {g : mj_L} {post1 : Option Value → mj_I → mj_L → Prop}
    (hr : va_Run p l e R s m args below meth c H locs cells slots 0 0 (F0 m pc ls st0) rest (mj_Q D cA ad S (va_A (mj_w ad cA S f g) H.size) post1 a) (va_A (mj_w ad cA S f g) H.size)) (hS : va_S A0 H0 H locs) (hA : ∀ q, va_A (mj_w ad cA S f g) H.size q → A0 q)
    (kk : ∀ (v : Option Value) (f' : mj_I) (g' : mj_L) (H1 : Heap) (locs1 : List Loc), mj_pv v → post1 v f' g' → va_P D vwCl (mj_w ad cA S f' g') H1 → va_D A0 (mj_w ad cA S f' g') → va_S A0 H0 H1 locs1 → W p l e R s m args below meth c H1 locs1 cells slots Q (F0 m (pc + 3) ls (v.toList ++ rest))) : W p l e R s m args below meth c H locs cells slots Q (F0 m pc ls st0) := by
  intro T hT X
  obtain ⟨v, st₀, t, T', L, h0, X', hL, e1, e2, ⟨⟨v', f', g', hv, hpv, hp, hP1, hD1⟩, hz, hk⟩, st⟩ := hr T hT X
  cases hv
  rw [h0] at hz hk
  obtain ⟨t2, a1, b1⟩ := kk v f' g' T'.heap (locs ++ L) hpv hp (by rw [e1]; exact hP1) (hD1.weaken (fun _ q _ h => hA q.1 h))
    ⟨Nat.le_trans hS.1 (by rw [e1]; exact hz), fun q h1 h2 => by rw [e1, hk q (Nat.lt_of_lt_of_le h1 hS.1) (fun z => h2 (hA q z))]; exact hS.2.1 q h1 h2, fun q hq => by
      rcases List.mem_append.mp hq with h | h
      · exact hS.2.2 q h
      · exact hA _ (hL q h)⟩ T' rfl X'
  exact ⟨t2, st t2 a1, b1⟩
theorem ev_callV {J : mj_J} {pc q : Nat} {loc : List (Option Value)} {st : List Value} {S : mj_S} {f : mj_I} {g : mj_L} {post : Option Value → mj_I → mj_L → Prop} {K : mj_J} {idx n : Nat} {as st0 : List Value} {post1 : Option Value → mj_I → mj_L → Prop} {b ci : Nat} {rs : List (Option Nat)} (hk : mj_K K n) (hi : Cond.instanceMethod (mj_y K) ∈ mj_gw) (hse : Cond.selects (mj_y K).cls (mj_y K) (mj_y K) ∈ mj_gw) (hlk : Cond.methodLink (mj_y J).cls idx (mj_y K) ∈ mj_gw) (hs : S[b]? = some (.inl (ci, rs))) (hcl : (vwCl[ci]?).map (·.1) = some (mj_y K).cls) (hsp : mj_Sp K S (.ref b :: as) f g post1) (hn : as.length = n) (hst : st0 = as.reverse ++ .ref b :: st) (hcat : (st.map fun v => v.category).sum ≤ 8) (hroom : mj_d K < mj_d J) (hd : decode (mj_cc J) pc = .ok (.invokevirtual idx, 3)) (hq : pc + 3 = q) (kk : ∀ (v : Option Value) (f' : mj_I) (g' : mj_L), post1 v f' g' → mj_Ev J q loc (v.toList ++ st) S f' g' post) : mj_Ev J pc loc st0 S f g post := by
  intro p l e s m args below meth c D cA sp ad A cells slots R Q hC hR hk0 H locs ls hP hD hS hl
  subst hq
  subst hst
  obtain ⟨hx, hb, hml, hown, hts, hK, hA, hX⟩ := id hC
  have hrun : va_Run p l e R s m args below meth c H locs cells slots 0 0 (F0 m pc ls ((as.reverse ++ .ref b :: st).map (mj_tv ad sp))) (st.map (mj_tv ad sp)) (mj_Q D cA ad S (va_A (mj_w ad cA S f g) H.size) post1 (Value.ref (ad b) :: as.map (mj_tv ad sp)).toArray) (va_A (mj_w ad cA S f g) H.size) := by
    refine va_runV (As := as.map (mj_tv ad sp)) (b := ad b) (C := (mj_y K).cls) ⟨hx, hb, hml, hown, hts⟩ (hsp l D cA sp ad H.size) ⟨mj_callB (J := J) hts hk hlk ⟨hR.1, hR.2.1⟩ hroom, hts _ hi, hts _ hse⟩ ⟨mj_blind D cA sp ad H.size S f g _, ?_, fun U hU hW => ⟨rfl, mj_pre hP hD hS hA hK hX U hU hW⟩⟩ rfl (by rw [List.length_map]; exact hn) hl.1 (by simp [mj_tv, List.map_append, List.map_reverse]) (lv_room (by rw [mj_tv_sum]; exact hcat)) hd ⟨by omega, by omega⟩
    cases hv : vwCl[ci]? with
    | none => rw [hv] at hcl; cases hcl
    | some r =>
      rw [hv] at hcl
      have e1 : r.1 = (mj_y K).cls := Option.some.inj hcl
      rw [← e1]
      exact va_recv hK hP hv (mj_w_at hs)
  refine mj_call hrun hS (mj_sub hD hS hA) (fun v f' g' H1 locs1 hpv hp1 hP1 hD1 hS1 => ?_)
  have k9 := kk v f' g' hp1 p l e s m args below meth c D cA sp ad A cells slots R Q hC hR hk0 H1 locs1 ls hP1 hD1 hS1 hl
  rw [List.map_append, mj_pv_tv hpv] at k9
  exact k9
theorem ev_callS {J : mj_J} {pc q : Nat} {loc : List (Option Value)} {st : List Value} {S : mj_S} {f : mj_I} {g : mj_L} {post : Option Value → mj_I → mj_L → Prop} {K : mj_J} {idx n : Nat} {as st0 : List Value} {post1 : Option Value → mj_I → mj_L → Prop} (hk : mj_K K n) (hi : Cond.static (mj_y K) ∈ mj_gw) (hlk : Cond.methodLink (mj_y J).cls idx (mj_y K) ∈ mj_gw) (hsp : mj_Sp K S as f g post1) (hn : as.length = n) (hst : st0 = as.reverse ++ st) (hcat : (st.map fun v => v.category).sum ≤ 8) (hroom : mj_d K < mj_d J) (hd : decode (mj_cc J) pc = .ok (.invokestatic idx, 3)) (hq : pc + 3 = q) (kk : ∀ (v : Option Value) (f' : mj_I) (g' : mj_L), post1 v f' g' → mj_Ev J q loc (v.toList ++ st) S f' g' post) : mj_Ev J pc loc st0 S f g post := by
  intro p l e s m args below meth c D cA sp ad A cells slots R Q hC hR hk0 H locs ls hP hD hS hl
  subst hq
  subst hst
  obtain ⟨hx, hb, hml, hown, hts, hK, hA, hX⟩ := id hC
  have hrun : va_Run p l e R s m args below meth c H locs cells slots 0 0 (F0 m pc ls ((as.reverse ++ st).map (mj_tv ad sp))) (st.map (mj_tv ad sp)) (mj_Q D cA ad S (va_A (mj_w ad cA S f g) H.size) post1 (as.map (mj_tv ad sp)).toArray) (va_A (mj_w ad cA S f g) H.size) := 
    va_runS (As := as.map (mj_tv ad sp)) ⟨hx, hb, hml, hown, hts⟩ (hsp l D cA sp ad H.size) ⟨mj_callB (J := J) hts hk hlk ⟨hR.1, hR.2.1⟩ hroom, hts _ hi⟩ ⟨mj_blind D cA sp ad H.size S f g _, fun U hU hW => ⟨rfl, mj_pre hP hD hS hA hK hX U hU hW⟩⟩ rfl (by rw [List.length_map]; exact hn) hl.1 (by simp [List.map_append, List.map_reverse]) (lv_room (by rw [mj_tv_sum]; exact hcat)) hd ⟨by omega, by omega⟩
  refine mj_call hrun hS (mj_sub hD hS hA) (fun v f' g' H1 locs1 hpv hp1 hP1 hD1 hS1 => ?_)
  have k9 := kk v f' g' hp1 p l e s m args below meth c D cA sp ad A cells slots R Q hC hR hk0 H1 locs1 ls hP1 hD1 hS1 hl
  rw [List.map_append, mj_pv_tv hpv] at k9
  exact k9
theorem ev_callN {J : mj_J} {pc q : Nat} {loc : List (Option Value)} {st : List Value} {S : mj_S} {f : mj_I} {g : mj_L} {post : Option Value → mj_I → mj_L → Prop} {K : mj_J} {idx n : Nat} {as st0 : List Value} {post1 : Option Value → mj_I → mj_L → Prop} {host : String} (hk : mj_K K n) (hi : Cond.static (mj_y K) ∈ mj_gw) (hlk : Cond.methodLinkNest (mj_y J).cls idx (mj_y K) host ∈ mj_nw) (hsp : mj_Sp K S as f g post1) (hn : as.length = n) (hst : st0 = as.reverse ++ st) (hcat : (st.map fun v => v.category).sum ≤ 8) (hroom : mj_d K < mj_d J) (hd : decode (mj_cc J) pc = .ok (.invokestatic idx, 3)) (hq : pc + 3 = q) (kk : ∀ (v : Option Value) (f' : mj_I) (g' : mj_L), post1 v f' g' → mj_Ev J q loc (v.toList ++ st) S f' g' post) : mj_Ev J pc loc st0 S f g post := by
  intro p l e s m args below meth c D cA sp ad A cells slots R Q hC hR hk0 H locs ls hP hD hS hl
  subst hq
  subst hst
  obtain ⟨hx, hb, hml, hown, hts, hK, hA, hX⟩ := id hC
  have h40 := hk.2.2.2.2.2
  have hf9 : (mj_room K).frames = mj_d K := rfl
  have hlo9 : (mj_room K).locals = 64 * mj_d K := rfl
  have hrun : va_Run p l e R s m args below meth c H locs cells slots 0 0 (F0 m pc ls ((as.reverse ++ st).map (mj_tv ad sp))) (st.map (mj_tv ad sp)) (mj_Q D cA ad S (va_A (mj_w ad cA S f g) H.size) post1 (as.map (mj_tv ad sp)).toArray) (va_A (mj_w ad cA S f g) H.size) := 
    va_runSN (As := as.map (mj_tv ad sp)) ⟨hx, hb, hml, hown, hts⟩ (hsp l D cA sp ad H.size) ⟨va_cnB n hts (mj_gw_code hk) rfl hk.2.2.2.1 hk.2.2.2.2.1 (hX.1 _ hlk) (hts _ hk.2.1) hk.2.2.1 ⟨by rw [hf9]; omega, by rw [hlo9]; omega⟩, hts _ hi, trivial⟩ ⟨mj_blind D cA sp ad H.size S f g _, fun U hU hW => ⟨rfl, mj_pre hP hD hS hA hK hX U hU hW⟩⟩ rfl (by rw [List.length_map]; exact hn) hl.1 (by simp [List.map_append, List.map_reverse]) (lv_room (by rw [mj_tv_sum]; exact hcat)) hd ⟨by omega, by omega⟩
  refine mj_call hrun hS (mj_sub hD hS hA) (fun v f' g' H1 locs1 hpv hp1 hP1 hD1 hS1 => ?_)
  have k9 := kk v f' g' hp1 p l e s m args below meth c D cA sp ad A cells slots R Q hC hR hk0 H1 locs1 ls hP1 hD1 hS1 hl
  rw [List.map_append, mj_pv_tv hpv] at k9
  exact k9
theorem ev_mmin {J : mj_J} {pc q : Nat} {loc : List (Option Value)} {st : List Value} {S : mj_S} {f : mj_I} {g : mj_L} {post : Option Value → mj_I → mj_L → Prop} {idx : Nat} {x y : Int32} (hlk : Cond.methodLink (mj_y J).cls idx Lib.Math.min.name ∈ mj_gw) (hst : Cond.static Lib.Math.min.name ∈ mj_gw) (hini : Cond.initialized "java/lang/Math" ∈ mj_gw) (hcode : Cond.code Lib.Math.min.name Lib.Math.min.code 2 (some .int) ∈ mj_gw) (hcat : (st.map fun v => v.category).sum ≤ 8) (hroom : 0 < mj_d J) (hd : decode (mj_cc J) pc = .ok (.invokestatic idx, 3)) (hq : pc + 3 = q) (kk : mj_Ev J q loc (.int (if y < x then y else x) :: st) S f g post) : mj_Ev J pc loc (.int y :: .int x :: st) S f g post := by
  intro p l e s m args below meth c D cA sp ad A cells slots R Q hC hR hk0 H locs ls hP hD hS hl
  subst hq
  obtain ⟨hx, hb, hml, hown, hts, hK, hA, hX⟩ := id hC
  exact va_mmin hx hb (hml.trans hl.1.symm) hown (hts _ hlk) (hts _ hst) (hts _ hini) (hts _ hcode) (by omega) (by rw [mj_tv_sum]; omega) hR.2.2.1 hR.2.2.2 hd (kk p l e s m args below meth c D cA sp ad A cells slots R Q hC hR hk0 H locs ls hP hD hS hl)
theorem ev_mmax {J : mj_J} {pc q : Nat} {loc : List (Option Value)} {st : List Value} {S : mj_S} {f : mj_I} {g : mj_L} {post : Option Value → mj_I → mj_L → Prop} {idx : Nat} {x y : Int32} (hlk : Cond.methodLink (mj_y J).cls idx Lib.Math.max.name ∈ mj_gw) (hst : Cond.static Lib.Math.max.name ∈ mj_gw) (hini : Cond.initialized "java/lang/Math" ∈ mj_gw) (hcode : Cond.code Lib.Math.max.name Lib.Math.max.code 2 (some .int) ∈ mj_gw) (hcat : (st.map fun v => v.category).sum ≤ 8) (hroom : 0 < mj_d J) (hd : decode (mj_cc J) pc = .ok (.invokestatic idx, 3)) (hq : pc + 3 = q) (kk : mj_Ev J q loc (.int (if x < y then y else x) :: st) S f g post) : mj_Ev J pc loc (.int y :: .int x :: st) S f g post := by
  intro p l e s m args below meth c D cA sp ad A cells slots R Q hC hR hk0 H locs ls hP hD hS hl
  subst hq
  obtain ⟨hx, hb, hml, hown, hts, hK, hA, hX⟩ := id hC
  exact va_mmax hx hb (hml.trans hl.1.symm) hown (hts _ hlk) (hts _ hst) (hts _ hini) (hts _ hcode) (by omega) (by rw [mj_tv_sum]; omega) hR.2.2.1 hR.2.2.2 hd (kk p l e s m args below meth c D cA sp ad A cells slots R Q hC hR hk0 H locs ls hP hD hS hl)
def mj_cpok (x y n : Int32) (n0 n1 : Nat) : Bool := !(decide (x < 0)) && !(decide (y < 0)) && !(decide (n < 0)) && decide (x.toNatClampNeg + n.toNatClampNeg ≤ n0) && decide (y.toNatClampNeg + n.toNatClampNeg ≤ n1)
theorem mj_nfw : nativeFrameWords "java/lang/System" "arraycopy" 5 + 11 + 8 ≤ 64 := by decide +kernel
theorem mj_cp_self (f : mj_I) (a sp b dp n : Nat) : mj_cp f a sp b dp n b = va_cpy (f a) (f b) sp dp n := by
  funext j
  simp [mj_cp]
theorem mj_cp_ne (f : mj_I) (a sp : Nat) {b i : Nat} (dp n : Nat) (h : i ≠ b) : mj_cp f a sp b dp n i = f i := by
  funext j
  simp [mj_cp, h]
theorem ev_acopy {J : mj_J} {pc q : Nat} {loc : List (Option Value)} {st : List Value} {S : mj_S} {f : mj_I} {g : mj_L} {post : Option Value → mj_I → mj_L → Prop} {idx a b n0 n1 : Nat} {x y n : Int32} {r0 r1 : List (Option Nat)} (hlk : Cond.methodLink (mj_y J).cls idx arraycopyName ∈ mj_gw) (hnat : Cond.native arraycopyName ∈ mj_gw) (hstat : Cond.static arraycopyName ∈ mj_gw) (hini : Cond.initialized "java/lang/System" ∈ mj_gw) (hs0 : S[a]? = some (.inr (0, n0, r0))) (hs1 : S[b]? = some (.inr (0, n1, r1))) (hok : mj_cpok x y n n0 n1 = true) (hcat : (st.map fun v => v.category).sum ≤ 8) (hroom : 0 < mj_d J) (hd : decode (mj_cc J) pc = .ok (.invokestatic idx, 3)) (hq : pc + 3 = q) (kk : mj_Ev J q loc st S (mj_cp f a x.toNatClampNeg b y.toNatClampNeg n.toNatClampNeg) g post) : mj_Ev J pc loc (.int n :: .int y :: .ref b :: .int x :: .ref a :: st) S f g post := by
  intro p l e s m args below meth c D cA sp ad A cells slots R Q hC hR hk0 H locs ls hP hD hS hl
  subst hq
  obtain ⟨hx, hb, hml, hown, hts, hK, hA, hX⟩ := id hC
  have hnf := mj_nfw
  unfold mj_cpok at hok
  simp only [Bool.and_eq_true, Bool.not_eq_true', decide_eq_false_iff_not, decide_eq_true_eq] at hok
  obtain ⟨⟨⟨⟨k1, k2⟩, k3⟩, k4⟩, k5⟩ := hok
  have hw : (mj_w ad cA S f g).set b (ad b, .inl (cA 0, n1, .inl (va_cpy (f a) (f b) x.toNatClampNeg y.toNatClampNeg n.toNatClampNeg))) = mj_w ad cA S (mj_cp f a x.toNatClampNeg b y.toNatClampNeg n.toNatClampNeg) g := by
    rw [← mj_cp_self]
    exact mj_w_set hs1 (fun j hj => mj_cp_ne f a _ _ _ hj) (fun _ _ => rfl)
  refine va_copyi hx hb (hml.trans hl.1.symm) hown (hts _ hlk) (hts _ hnat) (hts _ hstat) (hts _ hini) hK hP hD hS a b 0 0 (mj_w_at hs0) (mj_w_at hs1) rfl rfl rfl k1 k2 k3 k4 k5 (fun _ _ => rfl) (by omega) (by rw [mj_tv_sum]; omega) hd (fun H1 locs1 hP1 hD1 hS1 => ?_)
  rw [hw] at hP1 hD1
  exact kk p l e s m args below meth c D cA sp ad A cells slots R Q hC hR hk0 H1 locs1 ls hP1 hD1 hS1 hl
