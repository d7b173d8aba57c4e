theorem mj_fs_none (ad ad2 : Nat → Nat) (ci N : Nat) (f : Nat → Int32) (g : Nat → Int64) : mj_fs ad ci (List.replicate N none) f g = mj_fs ad2 ci (List.replicate N none) f g := by
  unfold mj_fs
  congr 1
  funext k kd
  have : ((List.replicate N (none : Option Nat)).getD k none).map ad = ((List.replicate N (none : Option Nat)).getD k none).map ad2 := by
    rw [List.getD_eq_getElem?_getD, List.getElem?_replicate]
    split <;> rfl
  unfold mj_sv
  split
  · rfl
  · rw [this]
  · rfl
theorem lw_ctor {p : Program} {l : Launch} {e : Env} {s : State} {m : MethodId} {below : List Frame} {meth : Method} {c : Code} {b L : Nat} {xs : Nat → Int32} {D : va_G} {cA : Nat → ClassId} {sp : Nat → Nat} (hC : lw_C p s m meth c b L xs D cA sp) {K : mj_J} {ci N idx a pc cells slots : Nat} {Sc : mj_S} {fc : mj_I} (hk : mj_KA K) (hsp : mj_SpA K ci N Sc fc) (hlk : Cond.methodLink R_law idx (mj_y K) ∈ mj_gw) {wr : va_W} {H : Heap} {locs : List Loc} {ls : Array Slot} {Q : State → Prop}
    (hP : va_P D vwCl (wr ++ [(a, mj_e (fun _ => a) cA (.inl (ci, List.replicate N none)) (mj_z 0) (mj_zl 0))]) H) (hD : va_D (fun q : Nat => s.heap.size ≤ q) (wr ++ [(a, mj_e (fun _ => a) cA (.inl (ci, List.replicate N none)) (mj_z 0) (mj_zl 0))])) (hS : va_S (fun q : Nat => s.heap.size ≤ q) s.heap H locs) (hls : ls.size = 4) (hroom : mj_d K ≤ 100) (h1 : cells + mj_mc K ≤ 600000) (h2 : slots + mj_ms K ≤ 7302250) (hd : decode code pc = .ok (.invokespecial idx, 3))
    (kk : ∀ (ad : Nat → Nat) (H1 : Heap) (locs1 : List Loc), ad 0 = a → va_P D vwCl (wr ++ mj_w ad cA Sc fc mj_zl) H1 → va_D (fun q : Nat => s.heap.size ≤ q) (wr ++ mj_w ad cA Sc fc mj_zl) → va_S (fun q : Nat => s.heap.size ≤ q) s.heap H1 locs1 → W p l e room_1 s m #[Value.ref b] below meth c H1 locs1 (cells + mj_mc K) (slots + mj_ms K) Q (F0 m (pc + 3) ls [.ref a])) : W p l e room_1 s m #[Value.ref b] below meth c H locs cells slots Q (F0 m pc ls [.ref a, .ref a]) := by
  obtain ⟨⟨hx, hb, hr, hml, hown, hts, hX, hbl, hlocks, hgv⟩, hK, hXX⟩ := id hC
  have hts9 : ∀ w ∈ mj_gw, w.before #[Value.ref b] s = true := fun w hw => hts w (List.mem_filter.mp hw).1
  have h40 := hk.2.2.2.1
  have hsp9 := hsp l D cA sp a H.size
  have hgc := mj_gw_codeA hk
  rw [hk.2.2.2.2.2.2] at hsp9 hgc
  have hF0 : (mj_room K).frames = mj_d K := rfl
  have hL0 : (mj_room K).locals = 64 * mj_d K := rfl
  have hF1 : room_1.frames = 2048 := rfl
  have hL1 : room_1.locals = 84000 := rfl
  have hFc : ∀ q, va_A [(a, mj_e (fun _ => a) cA (.inl (ci, List.replicate N none)) (mj_z 0) (mj_zl 0))] H.size q → s.heap.size ≤ q := by
    intro q h
    rcases h with ⟨k, e2, h⟩ | h
    · cases k with
      | zero =>
        simp only [List.getElem?_cons_zero, Option.some.injEq] at h
        have hlast : (wr ++ [(a, mj_e (fun _ => a) cA (.inl (ci, List.replicate N none)) (mj_z 0) (mj_zl 0))])[wr.length]? = some (a, mj_e (fun _ => a) cA (.inl (ci, List.replicate N none)) (mj_z 0) (mj_zl 0)) := by simp
        have := hD.2 _ _ hlast
        rw [h] at this
        exact this
      | succ k => simp at h
    · exact Nat.le_trans hS.1 h
  obtain ⟨hPc, hDc⟩ := lw_right hP hD
  have hrun := va_runI (p := p) (l := l) (e := e) (R := room_1) (s := s) (m := m) (args := #[Value.ref b]) (below := below) (meth := meth) (c := c) (H := H) (locs := locs) (cells := cells) (slots := slots) (cc := code) (nL := 4) (Ts := mj_gw) (own := R_law) (As := []) (b := a) (rest := [.ref a]) (g := F0 m pc ls [.ref a, .ref a]) ⟨hx, hb, hml, hown, hts9⟩ hsp9 ⟨callB_of (maxL := mj_nL K) 0 hts9 hgc rfl rfl rfl (hts9 _ hk.2.1) (hts9 _ hlk) hk.2.2.1 ⟨by rw [hF0, hF1]; omega, by rw [hL0, hL1]; omega⟩, hk.2.2.2.2.2.1, hts9 _ hk.2.2.2.2.1⟩ ⟨mj_blind D cA sp (fun _ => a) H.size _ mj_z mj_zl _, fun U hU hW => ⟨rfl, by rw [hU], by rw [hU]; exact hPc, va_K.moved hW.alike hK, hDc.weaken (fun _ _ _ _ => trivial), by rw [hU]; exact ((hXX.kept (H1 := H) (fun a h1 h2 => hS.2.1 a h1 h2)).moved hW).narrow hFc⟩⟩ rfl rfl hls rfl (lv_room (Nat.le_of_ble_eq_true rfl)) hd ⟨h1, h2⟩
  refine mj_callA (a := #[Value.ref a]) hrun hS hFc (fun t H1 locs1 ht hB hk1 hS1 => ?_)
  obtain ⟨adc, hadc, hP1, hD1⟩ := hB
  rw [ht] at hP1
  obtain ⟨hP2, hD2⟩ := mj_joinC hP hD hk1 hFc hP1 hD1
  exact kk adc H1 locs1 hadc hP2 hD2 hS1
theorem mw_ls_0 : Cond.laysStatic "CloudHerd" "ABOVE" "[I" ∈ lw_tbl := List.mem_append_right _ (List.mem_of_getElem? (i := 676) (by decide +kernel))
theorem lw_stat0 {s : State} {b : Nat} (hts : ∀ w ∈ lw_tbl, w.before #[Value.ref b] s = true) (hgv : (Jvm.Cond.and given_1 narrow_1).before #[Value.ref b] s = true) : ∃ t : Nat, va_Z "CloudHerd" "ABOVE" "[I" (.ref t) (fun q : Nat => s.heap.size ≤ q) s s.heap ∧ va_T .int t 6 (fun j => .int ((mj_tab 0).getD j 0)) (fun q : Nat => s.heap.size ≤ q) s s.heap := by
  have hs := flat_of_before _ hgv
  have hA : ∀ a : Nat, a < s.heap.size → ¬ (fun q : Nat => s.heap.size ≤ q) a := fun a h => Nat.not_le.mpr h
  obtain ⟨t, ht, hT⟩ := va_Tof (args := #[Value.ref b]) (s := s) (tm := (.static "CloudHerd" "ABOVE" "[I")) (ty := .int) (N := 6) (f := fun j => .int ((mj_tab 0).getD j 0)) (by decide) (hs _ (by decide +kernel)) (va_eqt (hs (Cond.eq (.length (.static "CloudHerd" "ABOVE" "[I")) (.int 6)) (by decide +kernel))) (fun j hj => by
    match j, hj with
    | 0, _ => exact va_eqt (hs (Cond.eq (.elem (.static "CloudHerd" "ABOVE" "[I") (.int 0)) (.int 0)) (by decide +kernel))
    | 1, _ => exact va_eqt (hs (Cond.eq (.elem (.static "CloudHerd" "ABOVE" "[I") (.int 1)) (.int 0)) (by decide +kernel))
    | 2, _ => exact va_eqt (hs (Cond.eq (.elem (.static "CloudHerd" "ABOVE" "[I") (.int 2)) (.int 1)) (by decide +kernel))
    | 3, _ => exact va_eqt (hs (Cond.eq (.elem (.static "CloudHerd" "ABOVE" "[I") (.int 3)) (.int 1)) (by decide +kernel))
    | 4, _ => exact va_eqt (hs (Cond.eq (.elem (.static "CloudHerd" "ABOVE" "[I") (.int 4)) (.int 0)) (by decide +kernel))
    | 5, _ => exact va_eqt (hs (Cond.eq (.elem (.static "CloudHerd" "ABOVE" "[I") (.int 5)) (.int 4)) (by decide +kernel))
    | k + 6, h => exact absurd h (by omega)) hA
  exact ⟨t, va_Zref (hts _ mw_ls_0) (hts (.initialized "CloudHerd") (List.mem_filter.mp mw_ini_RX6).1) ht hA, hT⟩
theorem mw_ls_1 : Cond.laysStatic "CloudHerd$Trace" "SIZE_BODIES" "[I" ∈ lw_tbl := List.mem_append_right _ (List.mem_of_getElem? (i := 686) (by decide +kernel))
theorem lw_stat1 {s : State} {b : Nat} (hts : ∀ w ∈ lw_tbl, w.before #[Value.ref b] s = true) (hgv : (Jvm.Cond.and given_1 narrow_1).before #[Value.ref b] s = true) : ∃ t : Nat, va_Z "CloudHerd$Trace" "SIZE_BODIES" "[I" (.ref t) (fun q : Nat => s.heap.size ≤ q) s s.heap ∧ va_T .int t 6 (fun j => .int ((mj_tab 1).getD j 0)) (fun q : Nat => s.heap.size ≤ q) s s.heap := by
  have hs := flat_of_before _ hgv
  have hA : ∀ a : Nat, a < s.heap.size → ¬ (fun q : Nat => s.heap.size ≤ q) a := fun a h => Nat.not_le.mpr h
  obtain ⟨t, ht, hT⟩ := va_Tof (args := #[Value.ref b]) (s := s) (tm := (.static "CloudHerd$Trace" "SIZE_BODIES" "[I")) (ty := .int) (N := 6) (f := fun j => .int ((mj_tab 1).getD j 0)) (by decide) (hs _ (by decide +kernel)) (va_eqt (hs (Cond.eq (.length (.static "CloudHerd$Trace" "SIZE_BODIES" "[I")) (.int 6)) (by decide +kernel))) (fun j hj => by
    match j, hj with
    | 0, _ => exact va_eqt (hs (Cond.eq (.elem (.static "CloudHerd$Trace" "SIZE_BODIES" "[I") (.int 0)) (.int 10)) (by decide +kernel))
    | 1, _ => exact va_eqt (hs (Cond.eq (.elem (.static "CloudHerd$Trace" "SIZE_BODIES" "[I") (.int 1)) (.int 11)) (by decide +kernel))
    | 2, _ => exact va_eqt (hs (Cond.eq (.elem (.static "CloudHerd$Trace" "SIZE_BODIES" "[I") (.int 2)) (.int 12)) (by decide +kernel))
    | 3, _ => exact va_eqt (hs (Cond.eq (.elem (.static "CloudHerd$Trace" "SIZE_BODIES" "[I") (.int 3)) (.int 11)) (by decide +kernel))
    | 4, _ => exact va_eqt (hs (Cond.eq (.elem (.static "CloudHerd$Trace" "SIZE_BODIES" "[I") (.int 4)) (.int 13)) (by decide +kernel))
    | 5, _ => exact va_eqt (hs (Cond.eq (.elem (.static "CloudHerd$Trace" "SIZE_BODIES" "[I") (.int 5)) (.int 14)) (by decide +kernel))
    | k + 6, h => exact absurd h (by omega)) hA
  exact ⟨t, va_Zref (hts _ mw_ls_1) (hts (.initialized "CloudHerd$Trace") (List.mem_filter.mp mw_ini_RX5).1) ht hA, hT⟩
theorem mw_ls_2 : Cond.laysStatic "CloudHerd$Trace" "MARK_BODIES" "[I" ∈ lw_tbl := List.mem_append_right _ (List.mem_of_getElem? (i := 688) (by decide +kernel))
theorem lw_stat2 {s : State} {b : Nat} (hts : ∀ w ∈ lw_tbl, w.before #[Value.ref b] s = true) (hgv : (Jvm.Cond.and given_1 narrow_1).before #[Value.ref b] s = true) : ∃ t : Nat, va_Z "CloudHerd$Trace" "MARK_BODIES" "[I" (.ref t) (fun q : Nat => s.heap.size ≤ q) s s.heap ∧ va_T .int t 6 (fun j => .int ((mj_tab 2).getD j 0)) (fun q : Nat => s.heap.size ≤ q) s s.heap := by
  have hs := flat_of_before _ hgv
  have hA : ∀ a : Nat, a < s.heap.size → ¬ (fun q : Nat => s.heap.size ≤ q) a := fun a h => Nat.not_le.mpr h
  obtain ⟨t, ht, hT⟩ := va_Tof (args := #[Value.ref b]) (s := s) (tm := (.static "CloudHerd$Trace" "MARK_BODIES" "[I")) (ty := .int) (N := 6) (f := fun j => .int ((mj_tab 2).getD j 0)) (by decide) (hs _ (by decide +kernel)) (va_eqt (hs (Cond.eq (.length (.static "CloudHerd$Trace" "MARK_BODIES" "[I")) (.int 6)) (by decide +kernel))) (fun j hj => by
    match j, hj with
    | 0, _ => exact va_eqt (hs (Cond.eq (.elem (.static "CloudHerd$Trace" "MARK_BODIES" "[I") (.int 0)) (.int 20)) (by decide +kernel))
    | 1, _ => exact va_eqt (hs (Cond.eq (.elem (.static "CloudHerd$Trace" "MARK_BODIES" "[I") (.int 1)) (.int 21)) (by decide +kernel))
    | 2, _ => exact va_eqt (hs (Cond.eq (.elem (.static "CloudHerd$Trace" "MARK_BODIES" "[I") (.int 2)) (.int 24)) (by decide +kernel))
    | 3, _ => exact va_eqt (hs (Cond.eq (.elem (.static "CloudHerd$Trace" "MARK_BODIES" "[I") (.int 3)) (.int 22)) (by decide +kernel))
    | 4, _ => exact va_eqt (hs (Cond.eq (.elem (.static "CloudHerd$Trace" "MARK_BODIES" "[I") (.int 4)) (.int 23)) (by decide +kernel))
    | 5, _ => exact va_eqt (hs (Cond.eq (.elem (.static "CloudHerd$Trace" "MARK_BODIES" "[I") (.int 5)) (.int 23)) (by decide +kernel))
    | k + 6, h => exact absurd h (by omega)) hA
  exact ⟨t, va_Zref (hts _ mw_ls_2) (hts (.initialized "CloudHerd$Trace") (List.mem_filter.mp mw_ini_RX5).1) ht hA, hT⟩
theorem mw_ao_Cloud : Cond.arrayOver (.object "CloudHerd$Cloud") ∈ lw_tbl := List.mem_append_right _ (List.mem_of_getElem? (i := 61) (by decide +kernel))
theorem mw_ao_Herd : Cond.arrayOver (.object "CloudHerd$Herd") ∈ lw_tbl := List.mem_append_right _ (List.mem_of_getElem? (i := 168) (by decide +kernel))
theorem mw_ao_Row : Cond.arrayOver (.object "CloudHerd$Row") ∈ lw_tbl := List.mem_append_right _ (List.mem_of_getElem? (i := 21) (by decide +kernel))
theorem lw_arrP {args : Array Value} {s : State} {ty : FieldType} (h : (Cond.arrayClass ty).before args s = true) (hr : ∀ cA, va_RA s cA ty = (s.vm.findClass ("[" ++ ty.toString) = some cA)) : ∃ cA : ClassId, ArrOfT s cA ty ∧ va_RA s cA ty := by
  obtain ⟨cB, kB, comp, h1, h2, h3⟩ := Cond.arrayClass_spec h
  exact ⟨cB, fun n z => ⟨fun k h => (by cases h), kB, h2, comp, h3⟩, by rw [hr]; exact h1⟩
theorem lw_arrQ {args : Array Value} {s : State} {C : String} (h : (Cond.arrayOver (.object C)).before args s = true) : ∃ cA : ClassId, ArrOfT s cA (.object C) ∧ va_RA s cA (.object C) := by
  obtain ⟨comp, cB, kB, h1, h2, h3, h4, h5⟩ := Cond.arrayOver_spec h
  exact ⟨cB, fun n z => ⟨fun k h => (by cases h), kB, h3, comp, h4⟩, kB, comp, h3, h4, h1, h5⟩
theorem lw_nest {s : State} {b : Nat} (hts : ∀ w ∈ lw_tbl, w.before #[Value.ref b] s = true) : ∀ w ∈ mj_nw, va_Nw w s := by
  intro w hw
  obtain ⟨h1, h2⟩ := List.mem_filter.mp hw
  have h3 := hts w (List.mem_append_right _ h1)
  cases w with
  | methodLinkNest a i x hh => exact va_Nw.of rfl h3
  | _ => exact absurd h2 (by simp)
theorem lw_ctx {p : Program} {s : State} {m : MethodId} {meth : Method} {c : Code} {b L : Nat} {xs : Nat → Int32} (C0 : lw_At p s m meth c b L xs) : ∃ (D : va_G) (cA : Nat → ClassId) (sp : Nat → Nat), lw_C p s m meth c b L xs D cA sp := by
  obtain ⟨hx, hb, hr, hml, hown, hts, hX, hbl, hlocks, hgv⟩ := id C0
  have hts9 : ∀ w ∈ mj_gw, w.before #[Value.ref b] s = true := fun w hw => hts w (List.mem_filter.mp hw).1
  obtain ⟨c0, iS0, hKn0⟩ := u_known (C := RX0) (T := TX0) (N := 3) (n := 3) hts9 mw_in0 (hts9 _ mw_inst_0)
  obtain ⟨c1, iS1, hKn1⟩ := u_known (C := RX1) (T := TX1) (N := 7) (n := 7) hts9 mw_in1 (hts9 _ mw_inst_1)
  obtain ⟨c2, iS2, hKn2⟩ := u_known (C := RX2) (T := TX2) (N := 13) (n := 13) hts9 mw_in2 (hts9 _ mw_inst_2)
  obtain ⟨c3, iS3, hKn3⟩ := u_known (C := RX3) (T := TX3) (N := 4) (n := 4) hts9 mw_in3 (hts9 _ mw_inst_3)
  obtain ⟨c4, iS4, hKn4⟩ := u_known (C := RX4) (T := TX4) (N := 7) (n := 7) hts9 mw_in4 (hts9 _ mw_inst_4)
  obtain ⟨c5, iS5, hKn5⟩ := u_known (C := RX5) (T := TX5) (N := 2) (n := 2) hts9 mw_in5 (hts9 _ mw_inst_5)
  obtain ⟨c6, iS6, hKn6⟩ := u_known (C := RX6) (T := TX6) (N := 10) (n := 10) hts9 mw_in6 (hts9 _ mw_inst_6)
  obtain ⟨c7, iS7, hKn7⟩ := u_known (C := RX7) (T := TX7) (N := 29) (n := 29) hts9 mw_in7 (hts9 _ mw_inst_7)
  obtain ⟨dC, dI, hKc⟩ : ∃ (dC : Nat → ClassId) (dI : Nat → Nat → Nat), ∀ (k : Nat) (q : vw_C), vwCl[k]? = some q → u_Kn s q.1 q.2.1 q.2.2 (dC k) (dI k) := by
    refine ⟨fun k => [c0, c1, c2, c3, c4, c5, c6, c7].getD k c0, fun k => [iS0, iS1, iS2, iS3, iS4, iS5, iS6, iS7].getD k iS0, ?_⟩
    intro k q hq
    match k, hq with
    | 0, hq => cases hq; exact hKn0
    | 1, hq => cases hq; exact hKn1
    | 2, hq => cases hq; exact hKn2
    | 3, hq => cases hq; exact hKn3
    | 4, hq => cases hq; exact hKn4
    | 5, hq => cases hq; exact hKn5
    | 6, hq => cases hq; exact hKn6
    | 7, hq => cases hq; exact hKn7
    | k + 8, hq => simp [vwCl] at hq
  obtain ⟨a0, ha0⟩ := lw_arrP (ty := .int) (hts9 _ mw_ac_i) (fun _ => rfl)
  obtain ⟨a1, ha1⟩ := lw_arrP (ty := .boolean) (hts9 _ mw_ac_z) (fun _ => rfl)
  obtain ⟨a2, ha2⟩ := lw_arrQ (hts _ mw_ao_Cloud)
  obtain ⟨a3, ha3⟩ := lw_arrQ (hts _ mw_ao_Herd)
  obtain ⟨a4, ha4⟩ := lw_arrQ (hts _ mw_ao_Row)
  obtain ⟨t0, hZ0, hT0⟩ := lw_stat0 hts hgv
  obtain ⟨t1, hZ1, hT1⟩ := lw_stat1 hts hgv
  obtain ⟨t2, hZ2, hT2⟩ := lw_stat2 hts hgv
  obtain ⟨cA, e0, e1, e2, e3, e4⟩ : ∃ cA : Nat → ClassId, cA 0 = a0 ∧ cA 1 = a1 ∧ cA 2 = a2 ∧ cA 3 = a3 ∧ cA 4 = a4 := ⟨fun k => [a0, a1, a2, a3, a4].getD k a0, rfl, rfl, rfl, rfl, rfl⟩
  subst e0; subst e1; subst e2; subst e3; subst e4
  obtain ⟨sp, f0, f1, f2⟩ : ∃ sp : Nat → Nat, sp 0 = t0 ∧ sp 1 = t1 ∧ sp 2 = t2 := ⟨fun k => [t0, t1, t2].getD k t0, rfl, rfl, rfl⟩
  subst f0; subst f1; subst f2
  have hK : va_K (dC, dI) vwCl (mj_tys cA) s := by
    refine ⟨hKc, fun k q hq => ?_⟩
    match k, hq with
    | 0, hq => cases hq; exact ha0
    | 1, hq => cases hq; exact ha1
    | 2, hq => cases hq; exact ha2
    | 3, hq => cases hq; exact ha3
    | 4, hq => cases hq; exact ha4
    | k + 5, hq => simp [mj_tys] at hq
  have hXX : mj_X sp (fun q : Nat => s.heap.size ≤ q) s s.heap := by
    refine ⟨lw_nest hts, va_AO.of (hts _ mw_ao_Cloud), va_AO.of (hts _ mw_ao_Herd), va_AO.of (hts _ mw_ao_Row), ⟨hZ0, hZ1, hZ2⟩, fun k hk => ?_⟩
    match k, hk with
    | 0, _ => exact hT0
    | 1, _ => exact hT1
    | 2, _ => exact hT2
    | k + 3, h => exact absurd h (by omega)
  exact ⟨(dC, dI), cA, sp, C0, hK, hXX⟩
theorem lw_new1 (ci N q : Nat) (cA : Nat → ClassId) : (Sum.inr (ci, mj_fs (fun _ => 0) ci (List.replicate N none) (fun _ => 0) (fun _ => 0)) : va_E) = mj_e (fun _ => q) cA (.inl (ci, List.replicate N none)) (mj_z 0) (mj_zl 0) := by
  show (Sum.inr (ci, mj_fs (fun _ => 0) ci (List.replicate N none) (fun _ => 0) (fun _ => 0)) : va_E) = Sum.inr (ci, mj_fs (fun _ => q) ci (List.replicate N none) (mj_z 0) (mj_zl 0))
  rw [mj_fs_none (fun _ => 0) (fun _ => q)]
  rfl
theorem lw_go3 {R : mj_I → mj_I → mj_L → Prop} (hsim : lw_Sim R) {p : Program} {e : Env} {s : State} {m : MethodId} {below : List Frame} {meth : Method} {c : Code} (l : Launch) {b L : Nat} {xs : Nat → Int32} (hL : L ≤ 448) {D : va_G} {cA : Nat → ClassId} {sp : Nat → Nat} (hC : lw_C p s m meth c b L xs D cA sp) {adX adM : Nat → Nat} {H : Heap} {locs : List Loc} {ls : Array Slot} {cells slots : Nat} (hP : va_P D vwCl (mj_w adX cA mx_S mx_f0 mj_zl ++ mj_w adM cA my_S (my_f 8) mj_zl) H) (hD : va_D (fun q : Nat => s.heap.size ≤ q) (mj_w adX cA mx_S mx_f0 mj_zl ++ mj_w adM cA my_S (my_f 8) mj_zl)) (hS : va_S (fun q : Nat => s.heap.size ≤ q) s.heap H locs) (hl : lv_has ls 4 [(1, .ref (adX 0)), (0, .ref b)]) (h1 : cells ≤ 600000) (h2 : slots ≤ 7302250) {qm : Nat} (ham : adM 0 = qm) : W p l e room_1 s m #[Value.ref b] below meth c H locs cells slots (lw_Z below #[Value.ref b] s) (F0 m 15 ls [.ref qm]) := by
  subst ham
  obtain ⟨⟨hx, hb, hr, hml, hown, hts, hX, hbl, hlocks, hgv⟩, hK, hXX⟩ := id hC
  refine lv_astore_n (lv' := [(2, .ref (adM 0)), (1, .ref (adX 0)), (0, .ref b)]) hx hb dL_law_15 rfl hl (by decide) rfl (fun ls hl => ?_)
  refine lv_iconst (v := 0) hx hb dL_law_16 (by decide) ?_
  refine lv_istore_n (lv' := [(3, .int 0), (2, .ref (adM 0)), (1, .ref (adX 0)), (0, .ref b)]) hx hb dL_law_17 rfl hl (by decide) rfl (fun ls hl => ?_)
  refine W.widen (k := 600000) (n := 7302250) h1 h2 ?_
  have hP2 : va_P D vwCl (lw_w adX adM cA mx_f0 (my_f 8) mj_zl) H := by unfold lw_w; exact hP
  have hD2 : va_D (fun q : Nat => s.heap.size ≤ q) (lw_w adX adM cA mx_f0 (my_f 8) mj_zl) := by unfold lw_w; exact hD
  exact lw_loop hsim hL (L + 1) 0 (Nat.zero_le L) (by omega) mx_f0 (my_f 8) mj_zl hsim.1 p l e s m below meth c b D cA sp hC adX adM H locs ls hP2 hD2 hS (lv_sub hl [3, 2, 1, 0] rfl)
theorem lw_go2 {R : mj_I → mj_I → mj_L → Prop} (hsim : lw_Sim R) {p : Program} {e : Env} {s : State} {m : MethodId} {below : List Frame} {meth : Method} {c : Code} (l : Launch) {b L : Nat} {xs : Nat → Int32} (hL : L ≤ 448) {D : va_G} {cA : Nat → ClassId} {sp : Nat → Nat} (hC : lw_C p s m meth c b L xs D cA sp) {adX : Nat → Nat} {H : Heap} {locs : List Loc} {ls : Array Slot} {cells slots : Nat} (hP : va_P D vwCl (mj_w adX cA mx_S mx_f0 mj_zl) H) (hD : va_D (fun q : Nat => s.heap.size ≤ q) (mj_w adX cA mx_S mx_f0 mj_zl)) (hS : va_S (fun q : Nat => s.heap.size ≤ q) s.heap H locs) (hl : lv_has ls 4 [(0, .ref b)]) (h1 : cells ≤ 10000) (h2 : slots ≤ 10000) {qx : Nat} (hax : adX 0 = qx) : W p l e room_1 s m #[Value.ref b] below meth c H locs cells slots (lw_Z below #[Value.ref b] s) (F0 m 7 ls [.ref qx]) := by
  subst hax
  obtain ⟨⟨hx, hb, hr, hml, hown, hts, hX, hbl, hlocks, hgv⟩, hK, hXX⟩ := id hC
  have hts9 : ∀ w ∈ mj_gw, w.before #[Value.ref b] s = true := fun w hw => hts w (List.mem_filter.mp hw).1
  have hA : ∀ q : Nat, s.heap.size ≤ q → (fun q : Nat => s.heap.size ≤ q) q := fun _ h => h
  have hR1 : room_1.cells = 600000 := rfl
  have hR2 : room_1.slots = 7302250 := rfl
  have hm1 : mj_mc jX7_init = 14 := rfl
  have hm2 : mj_ms jX7_init = 2956 := rfl
  refine lv_astore_n (lv' := [(1, .ref (adX 0)), (0, .ref b)]) hx hb dL_law_7 rfl hl (by decide) rfl (fun ls hl => ?_)
  refine va_new (ci := 7) (fs := mj_fs (fun _ => 0) 7 (List.replicate 29 none) (fun _ => 0) (fun _ => 0)) (C := RX7) (T := TX7) (N := 29) hx hb hts9 mw_in7 tyX7 tyX7_ok hown (hts9 _ mw_cl_RL_10) (hts9 _ mw_inst_7) (hts9 _ mw_ini_RX7) hK hP hD hS hA rfl (mw_dv_7 (fun _ => 0)) (by omega) (by omega) dL_law_8 (fun qm H hP hD hS => ?_)
  refine lv_dup hx hb dL_law_11 rfl ?_
  rw [lw_new1 7 29 qm cA] at hP hD
  refine lw_ctor (wr := mj_w adX cA mx_S mx_f0 mj_zl) hC kaX7_init raX7_init mw_m_RL_12 hP hD hS hl.1 (by decide) (by omega) (by omega) dL_law_12 (fun adM H locs ham hP hD hS => ?_)
  exact lw_go3 (adX := adX) (adM := adM) hsim l hL hC hP hD hS hl (by omega) (by omega) ham
/-- THE LAW, from its entry, over any relation that all calls keep -/
theorem lw_begin {R : mj_I → mj_I → mj_L → Prop} (hsim : lw_Sim R) {p : Program} {e : Env} {s : State} {m : MethodId} {below : List Frame} {meth : Method} {c : Code} (l : Launch) {b L : Nat} {xs : Nat → Int32} (hL : L ≤ 448) (C0 : lw_At p s m meth c b L xs) : W p l e room_1 s m #[Value.ref b] below meth c s.heap [] 0 0 (lw_Z below #[Value.ref b] s) (entryFrame m ([Value.ref b] : List Value).toArray 4) := by
  obtain ⟨D, cA, sp, hC⟩ := lw_ctx C0
  obtain ⟨⟨hx, hb, hr, hml, hown, hts, hX, hbl, hlocks, hgv⟩, hK, hXX⟩ := id hC
  have hts9 : ∀ w ∈ mj_gw, w.before #[Value.ref b] s = true := fun w hw => hts w (List.mem_filter.mp hw).1
  have hA : ∀ q : Nat, s.heap.size ≤ q → (fun q : Nat => s.heap.size ≤ q) q := fun _ h => h
  have hR1 : room_1.cells = 600000 := rfl
  have hR2 : room_1.slots = 7302250 := rfl
  have hm1 : mj_mc jX6_init = 61 := rfl
  have hm2 : mj_ms jX6_init = 1097 := rfl
  have hS : va_S (fun q : Nat => s.heap.size ≤ q) s.heap s.heap [] := va_S.rf
  have hP : va_P D vwCl [] s.heap := fun k q h => by simp at h
  have hD : va_D (fun q : Nat => s.heap.size ≤ q) [] := ⟨fun i j p q h => by simp at h, fun k q h => by simp at h⟩
  have hl := lv_entry ([.ref b]) (n := 4) (Nat.le_of_ble_eq_true rfl)
  rw [lg_entry_eq]
  generalize (lg_sl ([.ref b]) ++ List.replicate (4 - (lg_sl ([.ref b])).length) Slot.unset).toArray = ls at hl ⊢
  have hl : lv_has ls 4 [(0, .ref b)] := hl
  refine va_new (ci := 6) (fs := mj_fs (fun _ => 0) 6 (List.replicate 10 none) (fun _ => 0) (fun _ => 0)) (C := RX6) (T := TX6) (N := 10) hx hb hts9 mw_in6 tyX6 tyX6_ok hown (hts9 _ mw_cl_RL_7) (hts9 _ mw_inst_6) (hts9 _ mw_ini_RX6) hK hP hD hS hA rfl (mw_dv_6 (fun _ => 0)) (by omega) (by omega) dL_law_0 (fun qx H hP hD hS => ?_)
  refine lv_dup hx hb dL_law_3 rfl ?_
  rw [lw_new1 6 10 qx cA] at hP hD
  rw [← List.nil_append [(qx, mj_e (fun _ => qx) cA (.inl (6, List.replicate 10 none)) (mj_z 0) (mj_zl 0))]] at hP hD
  refine lw_ctor (wr := []) hC kaX6_init raX6_init mw_m_RL_9 hP hD hS hl.1 (by decide) (by omega) (by omega) dL_law_4 (fun adX H locs hax hP hD hS => ?_)
  rw [List.nil_append] at hP hD
  exact lw_go2 (adX := adX) hsim l hL hC hP hD hS hl (by omega) (by omega) hax
