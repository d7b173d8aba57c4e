/-- a field: its link, its place, its kind, whether it is final -/
def mj_LF (own : String) (idx ci k kd : Nat) (fin : Bool) : Prop := ∃ (C : String) (T : u_T) (N : Nat) (ty : Nat → FieldType), vwCl[ci]? = some (C, T, N) ∧ (∀ w ∈ u_ws C T N, w ∈ mj_gw) ∧ (∀ j, j < N → parseFieldDescriptor (T j).2.2.1 = some (ty j)) ∧ (∀ a, a < N → ∀ b, b < N → a ≠ b → (T a).2.1 ≠ (T b).2.1) ∧ k < N ∧ Cond.fieldLink own idx (T k).1 (T k).2.1 (T k).2.2.1 ∈ mj_gw ∧ (mj_fk.getD ci [])[k]? = some kd ∧ (T k).2.2.2 = fin ∧ (kd = 0 → ty k = .int) ∧ (kd = 1 → ty k = .boolean) ∧ (kd = 2 → ty k = .long)
theorem ev_getfI {J : mj_J} {pc q : Nat} {loc : List (Option Value)} {st : List Value} {S : mj_S} {f : mj_I} {g : mj_L} {post : Option Value → mj_I → mj_L → Prop} {idx ci k kd a : Nat} {fin : Bool} {rs : List (Option Nat)} (hlf : mj_LF (mj_y J).cls idx ci k kd fin) (h2 : kd ≠ 2) (h3 : kd ≠ 3) (hs : S[a]? = some (.inl (ci, rs))) (hd : decode (mj_cc J) pc = .ok (.getfield idx, 3)) (hq : pc + 3 = q) (kk : mj_Ev J q loc (.int (f a k) :: st) S f g post) : mj_Ev J pc loc (.ref a :: st) S f g post := by
  intro p l e s m args below meth c D cA sp ad A cells slots R Q hC hR hk0 H locs ls hP hD hS hl
  subst hq
  obtain ⟨hx, hb, hml, hown, hts, hK, hA, hX⟩ := id hC
  obtain ⟨C, T, N, ty, e1, e2, e3, e4, e5, e6, e7, e8, -, -, -⟩ := hlf
  refine va_get hx hb hts e2 hown hK hP a (mj_w_at hs) e1 k e5 (hts _ e6) (fun _ h9 => h9) (v := .int (f a k)) ?_ hd (kk p l e s m args below meth c D cA sp ad A cells slots R Q hC hR hk0 H locs ls hP hD hS hl)
  rw [mj_fs_get e7]
  unfold mj_sv
  split
  · exact absurd rfl h2
  · exact absurd rfl h3
  · rfl
theorem ev_getfL {J : mj_J} {pc q : Nat} {loc : List (Option Value)} {st : List Value} {S : mj_S} {f : mj_I} {g : mj_L} {post : Option Value → mj_I → mj_L → Prop} {idx ci k a : Nat} {fin : Bool} {rs : List (Option Nat)} (hlf : mj_LF (mj_y J).cls idx ci k 2 fin) (hs : S[a]? = some (.inl (ci, rs))) (hd : decode (mj_cc J) pc = .ok (.getfield idx, 3)) (hq : pc + 3 = q) (kk : mj_Ev J q loc (.long (g a k) :: st) S f g post) : mj_Ev J pc loc (.ref a :: st) S f g post := by
  intro p l e s m args below meth c D cA sp ad A cells slots R Q hC hR hk0 H locs ls hP hD hS hl
  subst hq
  obtain ⟨hx, hb, hml, hown, hts, hK, hA, hX⟩ := id hC
  obtain ⟨C, T, N, ty, e1, e2, e3, e4, e5, e6, e7, e8, -, -, -⟩ := hlf
  refine va_get hx hb hts e2 hown hK hP a (mj_w_at hs) e1 k e5 (hts _ e6) (fun _ h9 => h9) (v := .long (g a k)) ?_ hd (kk p l e s m args below meth c D cA sp ad A cells slots R Q hC hR hk0 H locs ls hP hD hS hl)
  rw [mj_fs_get e7]
  rfl
theorem ev_getfR {J : mj_J} {pc q : Nat} {loc : List (Option Value)} {st : List Value} {S : mj_S} {f : mj_I} {g : mj_L} {post : Option Value → mj_I → mj_L → Prop} {idx ci k a b : Nat} {fin : Bool} {rs : List (Option Nat)} (hlf : mj_LF (mj_y J).cls idx ci k 3 fin) (hs : S[a]? = some (.inl (ci, rs))) (hr : rs.getD k none = some b) (hd : decode (mj_cc J) pc = .ok (.getfield idx, 3)) (hq : pc + 3 = q) (kk : mj_Ev J q loc (.ref b :: st) S f g post) : mj_Ev J pc loc (.ref a :: st) S f g post := by
  intro p l e s m args below meth c D cA sp ad A cells slots R Q hC hR hk0 H locs ls hP hD hS hl
  subst hq
  obtain ⟨hx, hb, hml, hown, hts, hK, hA, hX⟩ := id hC
  obtain ⟨C, T, N, ty, e1, e2, e3, e4, e5, e6, e7, e8, -, -, -⟩ := hlf
  refine va_get hx hb hts e2 hown hK hP a (mj_w_at hs) e1 k e5 (hts _ e6) (fun _ h9 => h9) (v := .ref (ad b)) ?_ hd (kk p l e s m args below meth c D cA sp ad A cells slots R Q hC hR hk0 H locs ls hP hD hS hl)
  rw [mj_fs_get e7, hr]
  rfl
theorem ev_putfI {J : mj_J} {pc q : Nat} {loc : List (Option Value)} {st : List Value} {S : mj_S} {f : mj_I} {g : mj_L} {post : Option Value → mj_I → mj_L → Prop} {idx ci k a : Nat} {x : Int32} {rs : List (Option Nat)} (hlf : mj_LF (mj_y J).cls idx ci k 0 false) (hs : S[a]? = some (.inl (ci, rs))) (hd : decode (mj_cc J) pc = .ok (.putfield idx, 3)) (hq : pc + 3 = q) (kk : mj_Ev J q loc st S (mj_wr f a k x) g post) : mj_Ev J pc loc (.int x :: .ref a :: st) S f g post := by
  intro p l e s m args below meth c D cA sp ad A cells slots R Q hC hR hk0 H locs ls hP hD hS hl
  subst hq
  obtain ⟨hx, hb, hml, hown, hts, hK, hA, hX⟩ := id hC
  obtain ⟨C, T, N, ty, e1, e2, e3, e4, e5, e6, e7, e8, e9, -, -⟩ := hlf
  have hw : (mj_w ad cA S f g).set a (ad a, .inr (ci, (mj_fs ad ci rs (f a) (g a)).set k (.int x))) = mj_w ad cA S (mj_wr f a k x) g := by
    rw [mj_fs_setI e7 (by decide) (by decide), ← mj_wr_self]
    exact mj_w_set hs (fun i hi => mj_wr_ne f k x hi) (fun _ _ => rfl)
  refine va_put hx hb hts e2 ty e3 e4 hown hK hP hD hS a (mj_w_at hs) e1 k e5 (hts _ e6) (fun _ h9 => h9) e8 (ty := .int) (v := .int x) ((e3 k e5).trans (by rw [e9 rfl])) rfl rfl (mj_fs_len e7) hd (fun H1 locs1 hP1 hD1 hS1 => ?_)
  rw [hw] at hP1 hD1
  exact kk p l e s m args below meth c D cA sp ad A cells slots R Q hC hR hk0 H1 locs1 ls hP1 hD1 hS1 hl
theorem ev_putfZ {J : mj_J} {pc q : Nat} {loc : List (Option Value)} {st : List Value} {S : mj_S} {f : mj_I} {g : mj_L} {post : Option Value → mj_I → mj_L → Prop} {idx ci k a : Nat} {x : Int32} {rs : List (Option Nat)} (hlf : mj_LF (mj_y J).cls idx ci k 1 false) (hs : S[a]? = some (.inl (ci, rs))) (hbx : mj_b x = true) (hd : decode (mj_cc J) pc = .ok (.putfield idx, 3)) (hq : pc + 3 = q) (kk : mj_Ev J q loc st S (mj_wr f a k x) g post) : mj_Ev J pc loc (.int x :: .ref a :: st) S f g post := by
  intro p l e s m args below meth c D cA sp ad A cells slots R Q hC hR hk0 H locs ls hP hD hS hl
  subst hq
  obtain ⟨hx, hb, hml, hown, hts, hK, hA, hX⟩ := id hC
  obtain ⟨C, T, N, ty, e1, e2, e3, e4, e5, e6, e7, e8, -, e9, -⟩ := hlf
  have hw : (mj_w ad cA S f g).set a (ad a, .inr (ci, (mj_fs ad ci rs (f a) (g a)).set k (.int x))) = mj_w ad cA S (mj_wr f a k x) g := by
    rw [mj_fs_setI e7 (by decide) (by decide), ← mj_wr_self]
    exact mj_w_set hs (fun i hi => mj_wr_ne f k x hi) (fun _ _ => rfl)
  refine va_put hx hb hts e2 ty e3 e4 hown hK hP hD hS a (mj_w_at hs) e1 k e5 (hts _ e6) (fun _ h9 => h9) e8 (ty := .boolean) (v := .int x) ((e3 k e5).trans (by rw [e9 rfl])) (mj_b_nar hbx) (mj_b_fit hbx) (mj_fs_len e7) hd (fun H1 locs1 hP1 hD1 hS1 => ?_)
  rw [hw] at hP1 hD1
  exact kk p l e s m args below meth c D cA sp ad A cells slots R Q hC hR hk0 H1 locs1 ls hP1 hD1 hS1 hl
theorem ev_putfL {J : mj_J} {pc q : Nat} {loc : List (Option Value)} {st : List Value} {S : mj_S} {f : mj_I} {g : mj_L} {post : Option Value → mj_I → mj_L → Prop} {idx ci k a : Nat} {x : Int64} {rs : List (Option Nat)} (hlf : mj_LF (mj_y J).cls idx ci k 2 false) (hs : S[a]? = some (.inl (ci, rs))) (hd : decode (mj_cc J) pc = .ok (.putfield idx, 3)) (hq : pc + 3 = q) (kk : mj_Ev J q loc st S f (mj_wl g a k x) post) : mj_Ev J pc loc (.long x :: .ref a :: st) S f g post := by
  intro p l e s m args below meth c D cA sp ad A cells slots R Q hC hR hk0 H locs ls hP hD hS hl
  subst hq
  obtain ⟨hx, hb, hml, hown, hts, hK, hA, hX⟩ := id hC
  obtain ⟨C, T, N, ty, e1, e2, e3, e4, e5, e6, e7, e8, -, -, e9⟩ := hlf
  have hw : (mj_w ad cA S f g).set a (ad a, .inr (ci, (mj_fs ad ci rs (f a) (g a)).set k (.long x))) = mj_w ad cA S f (mj_wl g a k x) := by
    rw [mj_fs_setL e7, ← mj_wl_self]
    exact mj_w_set hs (fun _ _ => rfl) (fun i hi => mj_wl_ne g k x hi)
  refine va_put hx hb hts e2 ty e3 e4 hown hK hP hD hS a (mj_w_at hs) e1 k e5 (hts _ e6) (fun _ h9 => h9) e8 (ty := .long) (v := .long x) ((e3 k e5).trans (by rw [e9 rfl])) rfl rfl (mj_fs_len e7) hd (fun H1 locs1 hP1 hD1 hS1 => ?_)
  rw [hw] at hP1 hD1
  exact kk p l e s m args below meth c D cA sp ad A cells slots R Q hC hR hk0 H1 locs1 ls hP1 hD1 hS1 hl
theorem ev_iald {J : mj_J} {pc q : Nat} {loc : List (Option Value)} {st : List Value} {S : mj_S} {f : mj_I} {g : mj_L} {post : Option Value → mj_I → mj_L → Prop} {a n : Nat} {i : Int32} {rs : List (Option Nat)} (hs : S[a]? = some (.inr (0, n, rs))) (hin : mj_in i n = true) (hd : decode (mj_cc J) pc = .ok (.iaload, 1)) (hq : pc + 1 = q) (kk : mj_Ev J q loc (.int (f a i.toNatClampNeg) :: st) S f g post) : mj_Ev J pc loc (.int i :: .ref a :: st) S f g post := by
  intro p l e s m args below meth c D cA sp ad A cells slots R Q hC hR hk0 H locs ls hP hD hS hl
  subst hq
  obtain ⟨hx, hb, hml, hown, hts, hK, hA, hX⟩ := id hC
  exact va_iald hx hb hK hP a 0 (mj_w_at hs) rfl (mj_in_vp hin) hd (kk p l e s m args below meth c D cA sp ad A cells slots R Q hC hR hk0 H locs ls hP hD hS hl)
theorem ev_zald {J : mj_J} {pc q : Nat} {loc : List (Option Value)} {st : List Value} {S : mj_S} {f : mj_I} {g : mj_L} {post : Option Value → mj_I → mj_L → Prop} {a n : Nat} {i : Int32} {rs : List (Option Nat)} (hs : S[a]? = some (.inr (1, n, rs))) (hin : mj_in i n = true) (hd : decode (mj_cc J) pc = .ok (.baload, 1)) (hq : pc + 1 = q) (kk : mj_Ev J q loc (.int (f a i.toNatClampNeg) :: st) S f g post) : mj_Ev J pc loc (.int i :: .ref a :: st) S f g post := by
  intro p l e s m args below meth c D cA sp ad A cells slots R Q hC hR hk0 H locs ls hP hD hS hl
  subst hq
  obtain ⟨hx, hb, hml, hown, hts, hK, hA, hX⟩ := id hC
  exact va_zald hx hb hK hP a 1 (mj_w_at hs) rfl (mj_in_vp hin) hd (kk p l e s m args below meth c D cA sp ad A cells slots R Q hC hR hk0 H locs ls hP hD hS hl)
theorem ev_iast {J : mj_J} {pc q : Nat} {loc : List (Option Value)} {st : List Value} {S : mj_S} {f : mj_I} {g : mj_L} {post : Option Value → mj_I → mj_L → Prop} {a n : Nat} {i x : Int32} {rs : List (Option Nat)} (hs : S[a]? = some (.inr (0, n, rs))) (hin : mj_in i n = true) (hd : decode (mj_cc J) pc = .ok (.iastore, 1)) (hq : pc + 1 = q) (kk : mj_Ev J q loc st S (mj_wr f a i.toNatClampNeg x) g post) : mj_Ev J pc loc (.int x :: .int i :: .ref a :: st) S f g post := by
  intro p l e s m args below meth c D cA sp ad A cells slots R Q hC hR hk0 H locs ls hP hD hS hl
  subst hq
  obtain ⟨hx, hb, hml, hown, hts, hK, hA, hX⟩ := id hC
  have hw : (mj_w ad cA S f g).set a (ad a, .inl (cA 0, n, .inl (upd (f a) i.toNatClampNeg x))) = mj_w ad cA S (mj_wr f a i.toNatClampNeg x) g := by
    rw [← mj_wr_self]
    exact mj_w_set hs (fun j hj => mj_wr_ne f _ x hj) (fun _ _ => rfl)
  refine va_iast hx hb hK hP hD hS a 0 (mj_w_at hs) rfl (mj_in_vp hin) hd (fun H1 locs1 hP1 hD1 hS1 => ?_)
  rw [hw] at hP1 hD1
  exact kk p l e s m args below meth c D cA sp ad A cells slots R Q hC hR hk0 H1 locs1 ls hP1 hD1 hS1 hl
theorem ev_zast {J : mj_J} {pc q : Nat} {loc : List (Option Value)} {st : List Value} {S : mj_S} {f : mj_I} {g : mj_L} {post : Option Value → mj_I → mj_L → Prop} {a n : Nat} {i x : Int32} {rs : List (Option Nat)} (hs : S[a]? = some (.inr (1, n, rs))) (hin : mj_in i n = true) (hbx : mj_b x = true) (hd : decode (mj_cc J) pc = .ok (.bastore, 1)) (hq : pc + 1 = q) (kk : mj_Ev J q loc st S (mj_wr f a i.toNatClampNeg x) g post) : mj_Ev J pc loc (.int x :: .int i :: .ref a :: st) S f g post := by
  intro p l e s m args below meth c D cA sp ad A cells slots R Q hC hR hk0 H locs ls hP hD hS hl
  subst hq
  obtain ⟨hx, hb, hml, hown, hts, hK, hA, hX⟩ := id hC
  have hw : (mj_w ad cA S f g).set a (ad a, .inl (cA 1, n, .inl (upd (f a) i.toNatClampNeg (vp_nar .boolean x)))) = mj_w ad cA S (mj_wr f a i.toNatClampNeg x) g := by
    rw [mj_b_vp hbx, ← mj_wr_self]
    exact mj_w_set hs (fun j hj => mj_wr_ne f _ x hj) (fun _ _ => rfl)
  refine va_zast hx hb hK hP hD hS a 1 (mj_w_at hs) rfl (mj_in_vp hin) hd (fun H1 locs1 hP1 hD1 hS1 => ?_)
  rw [hw] at hP1 hD1
  exact kk p l e s m args below meth c D cA sp ad A cells slots R Q hC hR hk0 H1 locs1 ls hP1 hD1 hS1 hl
theorem ev_aald {J : mj_J} {pc q : Nat} {loc : List (Option Value)} {st : List Value} {S : mj_S} {f : mj_I} {g : mj_L} {post : Option Value → mj_I → mj_L → Prop} {a n b kd : Nat} {i : Int32} {rs : List (Option Nat)} (hs : S[a]? = some (.inr (kd + 2, n, rs))) (hkd : kd < 3) (hin : mj_in i n = true) (hr : rs.getD i.toNatClampNeg none = some b) (hd : decode (mj_cc J) pc = .ok (.aaload, 1)) (hq : pc + 1 = q) (kk : mj_Ev J q loc (.ref b :: st) S f g post) : mj_Ev J pc loc (.int i :: .ref a :: st) S f g post := by
  intro p l e s m args below meth c D cA sp ad A cells slots R Q hC hR hk0 H locs ls hP hD hS hl
  subst hq
  obtain ⟨hx, hb, hml, hown, hts, hK, hA, hX⟩ := id hC
  have erf : va_rf ((rs.getD i.toNatClampNeg none).map ad) = .ref (ad b) := by rw [hr]; rfl
  have k9 := kk p l e s m args below meth c D cA sp ad A cells slots R Q hC hR hk0 H locs ls hP hD hS hl
  match kd, hkd, hs with
  | 0, _, hs => exact va_aldq hx hb hK hP a 2 (mj_w_at hs) rfl (mj_in_vp hin) hd (by show W p l e R s m args below meth c H locs cells slots Q (F0 m _ ls (va_rf ((rs.getD i.toNatClampNeg none).map ad) :: _)); rw [erf]; exact k9)
  | 1, _, hs => exact va_aldq hx hb hK hP a 3 (mj_w_at hs) rfl (mj_in_vp hin) hd (by show W p l e R s m args below meth c H locs cells slots Q (F0 m _ ls (va_rf ((rs.getD i.toNatClampNeg none).map ad) :: _)); rw [erf]; exact k9)
  | 2, _, hs => exact va_aldq hx hb hK hP a 4 (mj_w_at hs) rfl (mj_in_vp hin) hd (by show W p l e R s m args below meth c H locs cells slots Q (F0 m _ ls (va_rf ((rs.getD i.toNatClampNeg none).map ad) :: _)); rw [erf]; exact k9)
theorem ev_ldc {J : mj_J} {pc q : Nat} {loc : List (Option Value)} {st : List Value} {S : mj_S} {f : mj_I} {g : mj_L} {post : Option Value → mj_I → mj_L → Prop} {idx : Nat} {v : Int32} (hc : Cond.constant (mj_y J).cls idx v ∈ mj_gw) (hd : decode (mj_cc J) pc = .ok (.ldc idx, 2)) (hq : pc + 2 = q) (kk : mj_Ev J q loc (.int v :: st) S f g post) : mj_Ev J pc loc st S f g post := by
  intro p l e s m args below meth c D cA sp ad A cells slots R Q hC hR hk0 H locs ls hP hD hS hl
  subst hq
  obtain ⟨hx, hb, hml, hown, hts, hK, hA, hX⟩ := id hC
  exact lv_ldc hx hb hown (hts _ hc) hd (kk p l e s m args below meth c D cA sp ad A cells slots R Q hC hR hk0 H locs ls hP hD hS hl)
theorem ev_ldcw {J : mj_J} {pc q : Nat} {loc : List (Option Value)} {st : List Value} {S : mj_S} {f : mj_I} {g : mj_L} {post : Option Value → mj_I → mj_L → Prop} {idx : Nat} {v : Int32} (hc : Cond.constant (mj_y J).cls idx v ∈ mj_gw) (hd : decode (mj_cc J) pc = .ok (.ldc_w idx, 3)) (hq : pc + 3 = q) (kk : mj_Ev J q loc (.int v :: st) S f g post) : mj_Ev J pc loc st S f g post := by
  intro p l e s m args below meth c D cA sp ad A cells slots R Q hC hR hk0 H locs ls hP hD hS hl
  subst hq
  obtain ⟨hx, hb, hml, hown, hts, hK, hA, hX⟩ := id hC
  exact lv_ldcw hx hb hown (hts _ hc) hd (kk p l e s m args below meth c D cA sp ad A cells slots R Q hC hR hk0 H locs ls hP hD hS hl)
theorem ev_ldc2 {J : mj_J} {pc q : Nat} {loc : List (Option Value)} {st : List Value} {S : mj_S} {f : mj_I} {g : mj_L} {post : Option Value → mj_I → mj_L → Prop} {idx : Nat} {v : Int64} (hc : Cond.constantLong (mj_y J).cls idx v ∈ mj_gw) (hd : decode (mj_cc J) pc = .ok (.ldc2_w idx, 3)) (hq : pc + 3 = q) (kk : mj_Ev J q loc (.long v :: st) S f g post) : mj_Ev J pc loc st S f g post := by
  intro p l e s m args below meth c D cA sp ad A cells slots R Q hC hR hk0 H locs ls hP hD hS hl
  subst hq
  obtain ⟨hx, hb, hml, hown, hts, hK, hA, hX⟩ := id hC
  exact lv_ldc2 hx hb hown (hts _ hc) hd (kk p l e s m args below meth c D cA sp ad A cells slots R Q hC hR hk0 H locs ls hP hD hS hl)
theorem ev_gets0 {J : mj_J} {pc q : Nat} {loc : List (Option Value)} {st : List Value} {S : mj_S} {f : mj_I} {g : mj_L} {post : Option Value → mj_I → mj_L → Prop} {idx : Nat} (hlk : Cond.fieldLink (mj_y J).cls idx "CloudHerd" "ABOVE" "[I" ∈ mj_gw) (hd : decode (mj_cc J) pc = .ok (.getstatic idx, 3)) (hq : pc + 3 = q) (kk : mj_Ev J q loc (.retAddr 0 :: st) S f g post) : mj_Ev J pc loc st S f g post := by
  intro p l e s m args below meth c D cA sp ad A cells slots R Q hC hR hk0 H locs ls hP hD hS hl
  subst hq
  obtain ⟨hx, hb, hml, hown, hts, hK, hA, hX⟩ := id hC
  exact va_gets hx hb hX.2.2.2.2.1.1 hS hown (hts _ hlk) (fun _ h9 => h9) hd (kk p l e s m args below meth c D cA sp ad A cells slots R Q hC hR hk0 H locs ls hP hD hS hl)
theorem ev_gets1 {J : mj_J} {pc q : Nat} {loc : List (Option Value)} {st : List Value} {S : mj_S} {f : mj_I} {g : mj_L} {post : Option Value → mj_I → mj_L → Prop} {idx : Nat} (hlk : Cond.fieldLink (mj_y J).cls idx "CloudHerd$Trace" "SIZE_BODIES" "[I" ∈ mj_gw) (hd : decode (mj_cc J) pc = .ok (.getstatic idx, 3)) (hq : pc + 3 = q) (kk : mj_Ev J q loc (.retAddr 1 :: st) S f g post) : mj_Ev J pc loc st S f g post := by
  intro p l e s m args below meth c D cA sp ad A cells slots R Q hC hR hk0 H locs ls hP hD hS hl
  subst hq
  obtain ⟨hx, hb, hml, hown, hts, hK, hA, hX⟩ := id hC
  exact va_gets hx hb hX.2.2.2.2.1.2.1 hS hown (hts _ hlk) (fun _ h9 => h9) hd (kk p l e s m args below meth c D cA sp ad A cells slots R Q hC hR hk0 H locs ls hP hD hS hl)
theorem ev_gets2 {J : mj_J} {pc q : Nat} {loc : List (Option Value)} {st : List Value} {S : mj_S} {f : mj_I} {g : mj_L} {post : Option Value → mj_I → mj_L → Prop} {idx : Nat} (hlk : Cond.fieldLink (mj_y J).cls idx "CloudHerd$Trace" "MARK_BODIES" "[I" ∈ mj_gw) (hd : decode (mj_cc J) pc = .ok (.getstatic idx, 3)) (hq : pc + 3 = q) (kk : mj_Ev J q loc (.retAddr 2 :: st) S f g post) : mj_Ev J pc loc st S f g post := by
  intro p l e s m args below meth c D cA sp ad A cells slots R Q hC hR hk0 H locs ls hP hD hS hl
  subst hq
  obtain ⟨hx, hb, hml, hown, hts, hK, hA, hX⟩ := id hC
  exact va_gets hx hb hX.2.2.2.2.1.2.2 hS hown (hts _ hlk) (fun _ h9 => h9) hd (kk p l e s m args below meth c D cA sp ad A cells slots R Q hC hR hk0 H locs ls hP hD hS hl)
theorem ev_sald {J : mj_J} {pc q : Nat} {loc : List (Option Value)} {st : List Value} {S : mj_S} {f : mj_I} {g : mj_L} {post : Option Value → mj_I → mj_L → Prop} {t : Nat} {i : Int32} (ht : t < 3) (hin : mj_in i 6 = true) (hd : decode (mj_cc J) pc = .ok (.iaload, 1)) (hq : pc + 1 = q) (kk : mj_Ev J q loc (.int ((mj_tab t).getD i.toNatClampNeg 0) :: st) S f g post) : mj_Ev J pc loc (.int i :: .retAddr t :: st) S f g post := by
  intro p l e s m args below meth c D cA sp ad A cells slots R Q hC hR hk0 H locs ls hP hD hS hl
  subst hq
  obtain ⟨hx, hb, hml, hown, hts, hK, hA, hX⟩ := id hC
  exact va_ti hx hb (hX.2.2.2.2.2 t ht) hS (mj_in_vp hin) rfl hd (kk p l e s m args below meth c D cA sp ad A cells slots R Q hC hR hk0 H locs ls hP hD hS hl)
theorem ev_iret {J : mj_J} {pc : Nat} {loc : List (Option Value)} {S : mj_S} {f : mj_I} {g : mj_L} {post : Option Value → mj_I → mj_L → Prop} {x : Int32} (hd : decode (mj_cc J) pc = .ok (.ireturn, 1)) (hr : mj_rt J = some .int) (h : post (some (.int x)) f g) : mj_Ev J pc loc [.int x] S f g post := by
  intro p l e s m args below meth c D cA sp ad A cells slots R Q hC hR hk0 H locs ls hP hD hS hl
  exact hk0 (some (.int x)) f g H locs pc ls h hP hD hS ⟨hd, .int, hr, rfl⟩
theorem ev_zret {J : mj_J} {pc : Nat} {loc : List (Option Value)} {S : mj_S} {f : mj_I} {g : mj_L} {post : Option Value → mj_I → mj_L → Prop} {x : Int32} (hd : decode (mj_cc J) pc = .ok (.ireturn, 1)) (hr : mj_rt J = some .boolean) (hbx : mj_b x = true) (h : post (some (.int x)) f g) : mj_Ev J pc loc [.int x] S f g post := by
  intro p l e s m args below meth c D cA sp ad A cells slots R Q hC hR hk0 H locs ls hP hD hS hl
  exact hk0 (some (.int x)) f g H locs pc ls h hP hD hS ⟨hd, .boolean, hr, mj_b_nar hbx⟩
theorem ev_lret {J : mj_J} {pc : Nat} {loc : List (Option Value)} {S : mj_S} {f : mj_I} {g : mj_L} {post : Option Value → mj_I → mj_L → Prop} {x : Int64} (hd : decode (mj_cc J) pc = .ok (.lreturn, 1)) (hr : mj_rt J = some .long) (h : post (some (.long x)) f g) : mj_Ev J pc loc [.long x] S f g post := by
  intro p l e s m args below meth c D cA sp ad A cells slots R Q hC hR hk0 H locs ls hP hD hS hl
  exact hk0 (some (.long x)) f g H locs pc ls h hP hD hS ⟨hd, hr⟩
theorem ev_vret {J : mj_J} {pc : Nat} {loc : List (Option Value)} {S : mj_S} {f : mj_I} {g : mj_L} {post : Option Value → mj_I → mj_L → Prop} (hd : decode (mj_cc J) pc = .ok (.return_, 1)) (hr : mj_rt J = none) (h : post none f g) : mj_Ev J pc loc [] S f g post := by
  intro p l e s m args below meth c D cA sp ad A cells slots R Q hC hR hk0 H locs ls hP hD hS hl
  exact hk0 none f g H locs pc ls h hP hD hS ⟨hd, hr⟩
theorem mj_ite {α : Type} {c : Prop} [Decidable c] {A B O : α} (h : (if c then A else B) = O) : (c ∧ A = O) ∨ (¬ c ∧ B = O) := by
  by_cases hc : c
  · exact Or.inl ⟨hc, by rwa [if_pos hc] at h⟩
  · exact Or.inr ⟨hc, by rwa [if_neg hc] at h⟩
theorem ev_tabIn {J : mj_J} {pc q : Nat} {loc : List (Option Value)} {st : List Value} {S : mj_S} {f : mj_I} {g : mj_L} {post : Option Value → mj_I → mj_L → Prop} {dflt lo hi off : Int} {offs : Array Int} {len : Nat} {x v : Int32} (hx : x = v) (hd : decode (mj_cc J) pc = .ok (.tableswitch dflt lo hi offs, len)) (h1 : ¬ v.toInt < lo) (h2 : ¬ hi < v.toInt) (ho : offs[(v.toInt - lo).toNat]? = some off) (ht : (pc : Int) + off = (q : Int)) (k : mj_Ev J q loc st S f g post) : mj_Ev J pc loc (.int x :: st) S f g post := by
  intro p l e s m args below meth c D cA sp ad A cells slots R Q hC hR hk0 H locs ls hP hD hS hl
  subst hx
  exact lv_tableIn hC.1 hC.2.1 hd h1 h2 ho ht (k p l e s m args below meth c D cA sp ad A cells slots R Q hC hR hk0 H locs ls hP hD hS hl)
theorem ev_tabOut {J : mj_J} {pc q : Nat} {loc : List (Option Value)} {st : List Value} {S : mj_S} {f : mj_I} {g : mj_L} {post : Option Value → mj_I → mj_L → Prop} {dflt lo hi : Int} {offs : Array Int} {len : Nat} {x : Int32} (hd : decode (mj_cc J) pc = .ok (.tableswitch dflt lo hi offs, len)) (h : x.toInt < lo ∨ hi < x.toInt) (ht : (pc : Int) + dflt = (q : Int)) (k : mj_Ev J q loc st S f g post) : mj_Ev J pc loc (.int x :: st) S f g post := by
  intro p l e s m args below meth c D cA sp ad A cells slots R Q hC hR hk0 H locs ls hP hD hS hl
  exact lv_tableOut hC.1 hC.2.1 hd h ht (k p l e s m args below meth c D cA sp ad A cells slots R Q hC hR hk0 H locs ls hP hD hS hl)
theorem ev_look {J : mj_J} {pc q : Nat} {loc : List (Option Value)} {st : List Value} {S : mj_S} {f : mj_I} {g : mj_L} {post : Option Value → mj_I → mj_L → Prop} {dflt off : Int} {ps : Array (Int × Int)} {len : Nat} {x : Int32} (hd : decode (mj_cc J) pc = .ok (.lookupswitch dflt ps, len)) (hp : (ps.toList.zip (ps.toList.drop 1)).all (fun (a, next) => a.1 < next.1) = true) (ho : Op.lookupswitch.offset ps.toList dflt x.toInt = off) (ht : (pc : Int) + off = (q : Int)) (k : mj_Ev J q loc st S f g post) : mj_Ev J pc loc (.int x :: st) S f g post := by
  intro p l e s m args below meth c D cA sp ad A cells slots R Q hC hR hk0 H locs ls hP hD hS hl
  exact lv_lookup hC.1 hC.2.1 hd hp ho ht (k p l e s m args below meth c D cA sp ad A cells slots R Q hC hR hk0 H locs ls hP hD hS hl)
