def g_X6_bit (x0 : Int32) : Int32 :=
  if x0 = 0 then
   (0 : Int32)
  else
   (1 : Int32)
theorem r_X6_bit {x0 : Int32} {f : mj_I} {g : mj_L} {o : Int32} (hg : g_X6_bit x0 = o) : mj_Sp jX6_bit mx_S [.int x0] f g (fun v f' g' => some (.int o) = v ∧ f = f' ∧ g = g') := by
  refine mj_sp 0 (by decide +kernel) rfl rfl (fun _ _ => Nat.le_of_ble_eq_true rfl) ?_
  show mj_Ev jX6_bit 0 [some (.int x0)] [] mx_S f g _
  unfold g_X6_bit at hg
  refine ev_iload_n (q := 1) dX6_bit_0 rfl rfl ?_
  refine ev_if_eq (t := 8) (q := 4) dX6_bit_1 rfl rfl hg (fun hg => ?_) (fun hg => ?_)
  · refine ev_iconst (v := 0) (q := 9) dX6_bit_8 mci_0 rfl ?_
    subst hg
    exact ev_iret dX6_bit_9 rfl ⟨rfl, rfl, rfl⟩
  · refine ev_iconst (v := 1) (q := 5) dX6_bit_4 mci_1 rfl ?_
    refine ev_goto (q := 9) dX6_bit_5 rfl ?_
    subst hg
    exact ev_iret dX6_bit_9 rfl ⟨rfl, rfl, rfl⟩
def g_X1_packed (a0 : Nat) (f : mj_I) : Int32 :=
  (((((f a0 1) ||| ((f a0 2) <<< ((5 : Int32) &&& 31))) ||| ((g_X6_bit (f a0 4)) <<< ((6 : Int32) &&& 31))) ||| ((g_X6_bit (f a0 5)) <<< ((7 : Int32) &&& 31))) ||| ((f a0 3) <<< ((8 : Int32) &&& 31)))
theorem r_X1_packed {a0 : Nat} {f : mj_I} {g : mj_L} {o : Int32} (h0 : mx_isC a0) (hg : g_X1_packed a0 f = o) : mj_Sp jX1_packed mx_S [.ref a0] f g (fun v f' g' => some (.int o) = v ∧ f = f' ∧ g = g') := by
  refine mj_sp 0 (by decide +kernel) rfl rfl (fun _ _ => Nat.le_of_ble_eq_true rfl) ?_
  show mj_Ev jX1_packed 0 [some (.ref a0)] [] mx_S f g _
  unfold g_X1_packed at hg
  refine ev_aload_n (q := 1) dX1_packed_0 rfl rfl ?_
  refine ev_getfI (q := 4) mw_f_RX1_15 (by decide) (by decide) (mx_C h0) dX1_packed_1 rfl ?_
  refine ev_aload_n (q := 5) dX1_packed_4 rfl rfl ?_
  refine ev_getfI (q := 8) mw_f_RX1_18 (by decide) (by decide) (mx_C h0) dX1_packed_5 rfl ?_
  refine ev_iconst (v := 5) (q := 9) dX1_packed_8 mci_5 rfl ?_
  refine ev_ishl (q := 10) dX1_packed_9 rfl ?_
  refine ev_ior (q := 11) dX1_packed_10 rfl ?_
  refine ev_aload_n (q := 12) dX1_packed_11 rfl rfl ?_
  refine ev_getfI (q := 15) mw_f_RX1_24 (by decide) (by decide) (mx_C h0) dX1_packed_12 rfl ?_
  refine ev_callN (q := 18) kX6_bit mw_t_X6_bit mw_n_RX1_34 (r_X6_bit rfl) rfl rfl (Nat.le_of_ble_eq_true rfl) (by decide) dX1_packed_15 rfl (fun v fv gv hp => ?_)
  obtain ⟨rfl, rfl, rfl⟩ := hp
  refine ev_bipush (v := 6) (q := 20) dX1_packed_18 mcb_6 rfl ?_
  refine ev_ishl (q := 21) dX1_packed_20 rfl ?_
  refine ev_ior (q := 22) dX1_packed_21 rfl ?_
  refine ev_aload_n (q := 23) dX1_packed_22 rfl rfl ?_
  refine ev_getfI (q := 26) mw_f_RX1_28 (by decide) (by decide) (mx_C h0) dX1_packed_23 rfl ?_
  refine ev_callN (q := 29) kX6_bit mw_t_X6_bit mw_n_RX1_34 (r_X6_bit rfl) rfl rfl (Nat.le_of_ble_eq_true rfl) (by decide) dX1_packed_26 rfl (fun v fv gv hp => ?_)
  obtain ⟨rfl, rfl, rfl⟩ := hp
  refine ev_bipush (v := 7) (q := 31) dX1_packed_29 mcb_7 rfl ?_
  refine ev_ishl (q := 32) dX1_packed_31 rfl ?_
  refine ev_ior (q := 33) dX1_packed_32 rfl ?_
  refine ev_aload_n (q := 34) dX1_packed_33 rfl rfl ?_
  refine ev_getfI (q := 37) mw_f_RX1_21 (by decide) (by decide) (mx_C h0) dX1_packed_34 rfl ?_
  refine ev_bipush (v := 8) (q := 39) dX1_packed_37 mcb_8 rfl ?_
  refine ev_ishl (q := 40) dX1_packed_39 rfl ?_
  refine ev_ior (q := 41) dX1_packed_40 rfl ?_
  subst hg
  exact ev_iret dX1_packed_41 rfl ⟨rfl, rfl, rfl⟩
def g_X0_keep_44 : Nat → Nat → Int32 → Int32 → mj_I → Option (mj_I)
  | 0, _, _, _, _ => none
  | n + 1, a1, x2, x3, f =>
    if x3 < (5 : Int32) then
     if mj_in x3 5 = true then
     if mj_in ((x2 + (3 : Int32)) + x3) 192 = true then
      mj_lt (mj_wr f 25 (ix ((x2 + (3 : Int32)) + x3)) (g_X1_packed (a1 + 4 + (ix x3)) f)) (fun f_10 =>
       g_X0_keep_44 n a1 x2 (x3 + (1 : Int32)) f_10)
      else none
     else none
    else
     some (f)
theorem r_X0_keep_44 {g : mj_L} {post : Option Value → mj_I → mj_L → Prop} : ∀ (n : Nat) (a1 : Nat) (x2 : Int32) (x3 : Int32) (f : mj_I) (o : mj_I), mx_isH a1 → g_X0_keep_44 n a1 x2 x3 f = some o → mj_Ev jX0_keep 74 [some (.ref 24), none, none, none] [] mx_S o g post → mj_Ev jX0_keep 44 [some (.ref 24), some (.ref a1), some (.int x2), some (.int x3)] [] mx_S f g post := by
  intro n
  induction n with
  | zero =>
    intro a1 x2 x3 f o h1 hg hk
    cases hg
  | succ n ih =>
    intro a1 x2 x3 f o h1 hg hk
    unfold g_X0_keep_44 at hg
    refine ev_iload_n (q := 45) dX0_keep_44 rfl rfl ?_
    refine ev_iconst (v := 5) (q := 46) dX0_keep_45 mci_5 rfl ?_
    refine ev_icmp_ge (t := 74) (q := 49) dX0_keep_46 rfl rfl hg (fun hg => ?_) (fun hg => ?_)
    · refine ev_aload_n (q := 50) dX0_keep_49 rfl rfl ?_
      refine ev_getfR (q := 53) mw_f_RX0_11 rfl rfl dX0_keep_50 rfl ?_
      refine ev_iload_n (q := 54) dX0_keep_53 rfl rfl ?_
      refine ev_iconst (v := 3) (q := 55) dX0_keep_54 mci_3 rfl ?_
      refine ev_iadd (q := 56) dX0_keep_55 rfl ?_
      refine ev_iload_n (q := 57) dX0_keep_56 rfl rfl ?_
      refine ev_iadd (q := 58) dX0_keep_57 rfl ?_
      refine ev_aload_n (q := 59) dX0_keep_58 rfl rfl ?_
      refine ev_getfR (q := 62) mw_f_RX0_33 (mx_H h1) rfl dX0_keep_59 rfl ?_
      refine ev_iload_n (q := 63) dX0_keep_62 rfl rfl ?_
      obtain ⟨hi_8, hg⟩ := mj_gd hg
      refine ev_aald (kd := 0) (q := 64) (mx_HC h1) (by decide) hi_8 (mx_cr_get hi_8) dX0_keep_63 rfl ?_
      refine ev_callV (q := 67) kX1_packed mw_i_X1_packed mw_s_X1_packed mw_m_RX0_37 (mx_C (mx_isC_of h1 hi_8)) rfl (r_X1_packed (mx_isC_of h1 hi_8) rfl) rfl rfl (Nat.le_of_ble_eq_true rfl) (by decide) dX0_keep_64 rfl (fun v fv gv hp => ?_)
      obtain ⟨rfl, rfl, rfl⟩ := hp
      obtain ⟨hi_10, hg⟩ := mj_gd hg
      refine ev_iastk (q := 68) rfl hi_10 rfl dX0_keep_67 rfl ?_
      refine ev_nmf (fun f_10 hf_10 => ?_)
      have hg := mj_lt_el hf_10 hg
      refine ev_iinc (v := 1) (q := 71) (loc' := [some (.ref _), some (.ref _), some (.int _), some (.int _)]) dX0_keep_68 rfl (by decide) mci_1 rfl rfl ?_
      refine ev_goto (q := 44) dX0_keep_71 rfl ?_
      exact ih _ _ _ _ _ h1 hg hk
    · obtain rfl := Option.some.inj hg
      refine ev_wk (loc' := [some (.ref _), none, none, none]) ⟨rfl, trivial⟩ ?_
      exact hk
def g_X0_keep (a1 : Nat) (f : mj_I) : Option (mj_I) :=
  mj_lt (((f 24 1) * (8 : Int32))) (fun u_1 =>
  if mj_in u_1 192 = true then
  mj_lt (mj_wr f 25 (ix u_1) (f a1 5)) (fun f_2 =>
   if mj_in (u_1 + (1 : Int32)) 192 = true then
   mj_lt (mj_wr f_2 25 (ix (u_1 + (1 : Int32))) (f_2 a1 6)) (fun f_3 =>
    if mj_in (u_1 + (2 : Int32)) 192 = true then
    mj_lt (mj_wr f_3 25 (ix (u_1 + (2 : Int32))) (f_3 a1 7)) (fun f_4 =>
     (g_X0_keep_44 mj_fuel a1 u_1 (0 : Int32) f_4).bind (fun q_5 =>
     mj_lt (mj_wr q_5 24 1 (((q_5 24 1) + (1 : Int32)) - ((q_5 24 1) + (1 : Int32)) / (24 : Int32) * (24 : Int32))) (fun f_6 =>
     mj_lt (mj_wr f_6 24 2 (if ((f_6 24 2) + (1 : Int32)) < (24 : Int32) then ((f_6 24 2) + (1 : Int32)) else (24 : Int32))) (fun f_7 =>
     some (f_7)))))
    else none)
   else none)
  else none)
theorem r_X0_keep {a1 : Nat} {f : mj_I} {g : mj_L} {o : mj_I} (h1 : mx_isH a1) (hg : g_X0_keep a1 f = some o) : mj_Sp jX0_keep mx_S [.ref 24, .ref a1] f g (fun v f' g' => none = v ∧ o = f' ∧ g = g') := by
  refine mj_sp 2 (by decide +kernel) rfl rfl (fun _ _ => Nat.le_of_ble_eq_true rfl) ?_
  show mj_Ev jX0_keep 0 [some (.ref 24), some (.ref a1), none, none] [] mx_S f g _
  unfold g_X0_keep at hg
  refine ev_aload_n (q := 1) dX0_keep_0 rfl rfl ?_
  refine ev_getfI (q := 4) mw_f_RX0_15 (by decide) (by decide) rfl dX0_keep_1 rfl ?_
  refine ev_bipush (v := 8) (q := 6) dX0_keep_4 mcb_8 rfl ?_
  refine ev_imul (q := 7) dX0_keep_6 rfl ?_
  refine ev_nmi (fun u_1 hu_1 => ?_)
  have hg := mj_lt_el hu_1 hg
  refine ev_istore_n (q := 8) (loc' := [some (.ref _), some (.ref _), some (.int _), none]) dX0_keep_7 (by decide) rfl rfl ?_
  refine ev_aload_n (q := 9) dX0_keep_8 rfl rfl ?_
  refine ev_getfR (q := 12) mw_f_RX0_11 rfl rfl dX0_keep_9 rfl ?_
  refine ev_iload_n (q := 13) dX0_keep_12 rfl rfl ?_
  refine ev_aload_n (q := 14) dX0_keep_13 rfl rfl ?_
  refine ev_getfI (q := 17) mw_f_RX0_22 (by decide) (by decide) (mx_H h1) dX0_keep_14 rfl ?_
  obtain ⟨hi_2, hg⟩ := mj_gd hg
  refine ev_iastk (q := 18) rfl hi_2 rfl dX0_keep_17 rfl ?_
  refine ev_nmf (fun f_2 hf_2 => ?_)
  have hg := mj_lt_el hf_2 hg
  refine ev_aload_n (q := 19) dX0_keep_18 rfl rfl ?_
  refine ev_getfR (q := 22) mw_f_RX0_11 rfl rfl dX0_keep_19 rfl ?_
  refine ev_iload_n (q := 23) dX0_keep_22 rfl rfl ?_
  refine ev_iconst (v := 1) (q := 24) dX0_keep_23 mci_1 rfl ?_
  refine ev_iadd (q := 25) dX0_keep_24 rfl ?_
  refine ev_aload_n (q := 26) dX0_keep_25 rfl rfl ?_
  refine ev_getfI (q := 29) mw_f_RX0_27 (by decide) (by decide) (mx_H h1) dX0_keep_26 rfl ?_
  obtain ⟨hi_3, hg⟩ := mj_gd hg
  refine ev_iastk (q := 30) rfl hi_3 rfl dX0_keep_29 rfl ?_
  refine ev_nmf (fun f_3 hf_3 => ?_)
  have hg := mj_lt_el hf_3 hg
  refine ev_aload_n (q := 31) dX0_keep_30 rfl rfl ?_
  refine ev_getfR (q := 34) mw_f_RX0_11 rfl rfl dX0_keep_31 rfl ?_
  refine ev_iload_n (q := 35) dX0_keep_34 rfl rfl ?_
  refine ev_iconst (v := 2) (q := 36) dX0_keep_35 mci_2 rfl ?_
  refine ev_iadd (q := 37) dX0_keep_36 rfl ?_
  refine ev_aload_n (q := 38) dX0_keep_37 rfl rfl ?_
  refine ev_getfI (q := 41) mw_f_RX0_30 (by decide) (by decide) (mx_H h1) dX0_keep_38 rfl ?_
  obtain ⟨hi_4, hg⟩ := mj_gd hg
  refine ev_iastk (q := 42) rfl hi_4 rfl dX0_keep_41 rfl ?_
  refine ev_nmf (fun f_4 hf_4 => ?_)
  have hg := mj_lt_el hf_4 hg
  refine ev_iconst (v := 0) (q := 43) dX0_keep_42 mci_0 rfl ?_
  refine ev_istore_n (q := 44) (loc' := [some (.ref _), some (.ref _), some (.int _), some (.int _)]) dX0_keep_43 (by decide) rfl rfl ?_
  obtain ⟨q_5, hq_5, hg⟩ := mj_bd hg
  refine r_X0_keep_44 mj_fuel _ _ _ _ _ h1 hq_5 ?_
  refine ev_aload_n (q := 75) dX0_keep_74 rfl rfl ?_
  refine ev_aload_n (q := 76) dX0_keep_75 rfl rfl ?_
  refine ev_getfI (q := 79) mw_f_RX0_15 (by decide) (by decide) rfl dX0_keep_76 rfl ?_
  refine ev_iconst (v := 1) (q := 80) dX0_keep_79 mci_1 rfl ?_
  refine ev_iadd (q := 81) dX0_keep_80 rfl ?_
  refine ev_bipush (v := 24) (q := 83) dX0_keep_81 mcb_24 rfl ?_
  refine ev_irem (q := 84) dX0_keep_83 (by decide) rfl ?_
  refine ev_putfI (q := 87) mw_f_RX0_15 rfl dX0_keep_84 rfl ?_
  refine ev_nmf (fun f_6 hf_6 => ?_)
  have hg := mj_lt_el hf_6 hg
  refine ev_aload_n (q := 88) dX0_keep_87 rfl rfl ?_
  refine ev_bipush (v := 24) (q := 90) dX0_keep_88 mcb_24 rfl ?_
  refine ev_aload_n (q := 91) dX0_keep_90 rfl rfl ?_
  refine ev_getfI (q := 94) mw_f_RX0_19 (by decide) (by decide) rfl dX0_keep_91 rfl ?_
  refine ev_iconst (v := 1) (q := 95) dX0_keep_94 mci_1 rfl ?_
  refine ev_iadd (q := 96) dX0_keep_95 rfl ?_
  refine ev_mmin (q := 99) mw_m_RX0_43 mw_t_min mw_ini_math mw_c_min (Nat.le_of_ble_eq_true rfl) (by decide) dX0_keep_96 rfl ?_
  refine ev_putfI (q := 102) mw_f_RX0_19 rfl dX0_keep_99 rfl ?_
  refine ev_nmf (fun f_7 hf_7 => ?_)
  have hg := mj_lt_el hf_7 hg
  obtain rfl := Option.some.inj hg
  exact ev_vret dX0_keep_102 rfl ⟨rfl, rfl, rfl⟩
def g_X1_unpack_32 (a0 : Nat) (x1 : Int32) (s0 : Nat) (s1 : Int32) (f : mj_I) : Option (mj_I) :=
  if mj_b s1 = true then
  mj_lt (mj_wr f s0 4 s1) (fun f_3 =>
   if ((mj_ushr x1 (7 : Int32)) &&& (1 : Int32)) = 0 then
    mj_lt (mj_wr f_3 a0 5 (0 : Int32)) (fun f_4 =>
    mj_lt (mj_wr f_4 a0 3 (mj_ushr x1 (8 : Int32))) (fun f_5 =>
    some (f_5)))
   else
    mj_lt (mj_wr f_3 a0 5 (1 : Int32)) (fun f_6 =>
    mj_lt (mj_wr f_6 a0 3 (mj_ushr x1 (8 : Int32))) (fun f_7 =>
    some (f_7))))
  else none
theorem r_X1_unpack_32 {g : mj_L} : ∀ (a0 : Nat) (x1 : Int32) (s0 : Nat) (s1 : Int32) (f : mj_I) (o : mj_I), mx_isC a0 → mx_isC s0 → g_X1_unpack_32 a0 x1 s0 s1 f = some o → mj_Ev jX1_unpack 32 [some (.ref a0), some (.int x1)] [.int s1, .ref s0] mx_S f g (fun v f' g' => none = v ∧ o = f' ∧ g = g') := by
  intro a0 x1 s0 s1 f o h0 t0 hg
  unfold g_X1_unpack_32 at hg
  obtain ⟨hb_3, hg⟩ := mj_gd hg
  refine ev_putfZ (q := 35) mw_f_RX1_24 (mx_C t0) hb_3 dX1_unpack_32 rfl ?_
  refine ev_nmf (fun f_3 hf_3 => ?_)
  have hg := mj_lt_el hf_3 hg
  refine ev_aload_n (q := 36) dX1_unpack_35 rfl rfl ?_
  refine ev_iload_n (q := 37) dX1_unpack_36 rfl rfl ?_
  refine ev_bipush (v := 7) (q := 39) dX1_unpack_37 mcb_7 rfl ?_
  refine ev_iushr (q := 40) dX1_unpack_39 rfl ?_
  refine ev_iconst (v := 1) (q := 41) dX1_unpack_40 mci_1 rfl ?_
  refine ev_iand (q := 42) dX1_unpack_41 rfl ?_
  refine ev_if_eq (t := 49) (q := 45) dX1_unpack_42 rfl rfl hg (fun hg => ?_) (fun hg => ?_)
  · refine ev_iconst (v := 0) (q := 50) dX1_unpack_49 mci_0 rfl ?_
    refine ev_putfZ (q := 53) mw_f_RX1_28 (mx_C h0) (mcz_0) dX1_unpack_50 rfl ?_
    refine ev_nmf (fun f_4 hf_4 => ?_)
    have hg := mj_lt_el hf_4 hg
    refine ev_aload_n (q := 54) dX1_unpack_53 rfl rfl ?_
    refine ev_iload_n (q := 55) dX1_unpack_54 rfl rfl ?_
    refine ev_bipush (v := 8) (q := 57) dX1_unpack_55 mcb_8 rfl ?_
    refine ev_iushr (q := 58) dX1_unpack_57 rfl ?_
    refine ev_putfI (q := 61) mw_f_RX1_21 (mx_C h0) dX1_unpack_58 rfl ?_
    refine ev_nmf (fun f_5 hf_5 => ?_)
    have hg := mj_lt_el hf_5 hg
    obtain rfl := Option.some.inj hg
    exact ev_vret dX1_unpack_61 rfl ⟨rfl, rfl, rfl⟩
  · refine ev_iconst (v := 1) (q := 46) dX1_unpack_45 mci_1 rfl ?_
    refine ev_goto (q := 50) dX1_unpack_46 rfl ?_
    refine ev_putfZ (q := 53) mw_f_RX1_28 (mx_C h0) (mcz_1) dX1_unpack_50 rfl ?_
    refine ev_nmf (fun f_6 hf_6 => ?_)
    have hg := mj_lt_el hf_6 hg
    refine ev_aload_n (q := 54) dX1_unpack_53 rfl rfl ?_
    refine ev_iload_n (q := 55) dX1_unpack_54 rfl rfl ?_
    refine ev_bipush (v := 8) (q := 57) dX1_unpack_55 mcb_8 rfl ?_
    refine ev_iushr (q := 58) dX1_unpack_57 rfl ?_
    refine ev_putfI (q := 61) mw_f_RX1_21 (mx_C h0) dX1_unpack_58 rfl ?_
    refine ev_nmf (fun f_7 hf_7 => ?_)
    have hg := mj_lt_el hf_7 hg
    obtain rfl := Option.some.inj hg
    exact ev_vret dX1_unpack_61 rfl ⟨rfl, rfl, rfl⟩
def g_X1_unpack (a0 : Nat) (x1 : Int32) (f : mj_I) : Option (mj_I) :=
  mj_lt (mj_wr f a0 1 (x1 &&& (31 : Int32))) (fun f_1 =>
  mj_lt (mj_wr f_1 a0 2 ((mj_ushr x1 (5 : Int32)) &&& (1 : Int32))) (fun f_2 =>
  if ((mj_ushr x1 (6 : Int32)) &&& (1 : Int32)) = 0 then
   g_X1_unpack_32 a0 x1 a0 (0 : Int32) f_2
  else
   g_X1_unpack_32 a0 x1 a0 (1 : Int32) f_2))
theorem r_X1_unpack {a0 : Nat} {x1 : Int32} {f : mj_I} {g : mj_L} {o : mj_I} (h0 : mx_isC a0) (hg : g_X1_unpack a0 x1 f = some o) : mj_Sp jX1_unpack mx_S [.ref a0, .int x1] f g (fun v f' g' => none = v ∧ o = f' ∧ g = g') := by
  refine mj_sp 0 (by decide +kernel) rfl rfl (fun _ _ => Nat.le_of_ble_eq_true rfl) ?_
  show mj_Ev jX1_unpack 0 [some (.ref a0), some (.int x1)] [] mx_S f g _
  unfold g_X1_unpack at hg
  refine ev_aload_n (q := 1) dX1_unpack_0 rfl rfl ?_
  refine ev_iload_n (q := 2) dX1_unpack_1 rfl rfl ?_
  refine ev_bipush (v := 31) (q := 4) dX1_unpack_2 mcb_31 rfl ?_
  refine ev_iand (q := 5) dX1_unpack_4 rfl ?_
  refine ev_putfI (q := 8) mw_f_RX1_15 (mx_C h0) dX1_unpack_5 rfl ?_
  refine ev_nmf (fun f_1 hf_1 => ?_)
  have hg := mj_lt_el hf_1 hg
  refine ev_aload_n (q := 9) dX1_unpack_8 rfl rfl ?_
  refine ev_iload_n (q := 10) dX1_unpack_9 rfl rfl ?_
  refine ev_iconst (v := 5) (q := 11) dX1_unpack_10 mci_5 rfl ?_
  refine ev_iushr (q := 12) dX1_unpack_11 rfl ?_
  refine ev_iconst (v := 1) (q := 13) dX1_unpack_12 mci_1 rfl ?_
  refine ev_iand (q := 14) dX1_unpack_13 rfl ?_
  refine ev_putfI (q := 17) mw_f_RX1_18 (mx_C h0) dX1_unpack_14 rfl ?_
  refine ev_nmf (fun f_2 hf_2 => ?_)
  have hg := mj_lt_el hf_2 hg
  refine ev_aload_n (q := 18) dX1_unpack_17 rfl rfl ?_
  refine ev_iload_n (q := 19) dX1_unpack_18 rfl rfl ?_
  refine ev_bipush (v := 6) (q := 21) dX1_unpack_19 mcb_6 rfl ?_
  refine ev_iushr (q := 22) dX1_unpack_21 rfl ?_
  refine ev_iconst (v := 1) (q := 23) dX1_unpack_22 mci_1 rfl ?_
  refine ev_iand (q := 24) dX1_unpack_23 rfl ?_
  refine ev_if_eq (t := 31) (q := 27) dX1_unpack_24 rfl rfl hg (fun hg => ?_) (fun hg => ?_)
  · refine ev_iconst (v := 0) (q := 32) dX1_unpack_31 mci_0 rfl ?_
    exact r_X1_unpack_32 _ _ _ _ _ _ h0 h0 hg
  · refine ev_iconst (v := 1) (q := 28) dX1_unpack_27 mci_1 rfl ?_
    refine ev_goto (q := 32) dX1_unpack_28 rfl ?_
    exact r_X1_unpack_32 _ _ _ _ _ _ h0 h0 hg
def g_X0_takeBack_70 : Nat → Nat → Int32 → Int32 → mj_I → Option (mj_I)
  | 0, _, _, _, _ => none
  | n + 1, a1, x2, x3, f =>
    if x3 < (5 : Int32) then
     if mj_in x3 5 = true then
     if mj_in ((x2 + (3 : Int32)) + x3) 192 = true then
      (g_X1_unpack (a1 + 4 + (ix x3)) (f 25 (ix ((x2 + (3 : Int32)) + x3))) f).bind (fun o_13 =>
       g_X0_takeBack_70 n a1 x2 (x3 + (1 : Int32)) o_13)
      else none
     else none
    else
     some (f)
theorem r_X0_takeBack_70 {g : mj_L} {post : Option Value → mj_I → mj_L → Prop} : ∀ (n : Nat) (a1 : Nat) (x2 : Int32) (x3 : Int32) (f : mj_I) (o : mj_I), mx_isH a1 → g_X0_takeBack_70 n a1 x2 x3 f = some o → mj_Ev jX0_takeBack 100 [none, none, none, none] [] mx_S o g post → mj_Ev jX0_takeBack 70 [some (.ref 24), some (.ref a1), some (.int x2), some (.int x3)] [] mx_S f g post := by
  intro n
  induction n with
  | zero =>
    intro a1 x2 x3 f o h1 hg hk
    cases hg
  | succ n ih =>
    intro a1 x2 x3 f o h1 hg hk
    unfold g_X0_takeBack_70 at hg
    refine ev_iload_n (q := 71) dX0_takeBack_70 rfl rfl ?_
    refine ev_iconst (v := 5) (q := 72) dX0_takeBack_71 mci_5 rfl ?_
    refine ev_icmp_ge (t := 100) (q := 75) dX0_takeBack_72 rfl rfl hg (fun hg => ?_) (fun hg => ?_)
    · refine ev_aload_n (q := 76) dX0_takeBack_75 rfl rfl ?_
      refine ev_getfR (q := 79) mw_f_RX0_33 (mx_H h1) rfl dX0_takeBack_76 rfl ?_
      refine ev_iload_n (q := 80) dX0_takeBack_79 rfl rfl ?_
      obtain ⟨hi_11, hg⟩ := mj_gd hg
      refine ev_aald (kd := 0) (q := 81) (mx_HC h1) (by decide) hi_11 (mx_cr_get hi_11) dX0_takeBack_80 rfl ?_
      refine ev_aload_n (q := 82) dX0_takeBack_81 rfl rfl ?_
      refine ev_getfR (q := 85) mw_f_RX0_11 rfl rfl dX0_takeBack_82 rfl ?_
      refine ev_iload_n (q := 86) dX0_takeBack_85 rfl rfl ?_
      refine ev_iconst (v := 3) (q := 87) dX0_takeBack_86 mci_3 rfl ?_
      refine ev_iadd (q := 88) dX0_takeBack_87 rfl ?_
      refine ev_iload_n (q := 89) dX0_takeBack_88 rfl rfl ?_
      refine ev_iadd (q := 90) dX0_takeBack_89 rfl ?_
      obtain ⟨hi_12, hg⟩ := mj_gd hg
      refine ev_ialdk (q := 91) rfl hi_12 rfl dX0_takeBack_90 rfl ?_
      obtain ⟨o_13, ho_13, hg⟩ := mj_bd hg
      refine ev_callV (q := 94) kX1_unpack mw_i_X1_unpack mw_s_X1_unpack mw_m_RX0_49 (mx_C (mx_isC_of h1 hi_11)) rfl (r_X1_unpack (mx_isC_of h1 hi_11) ho_13) rfl rfl (Nat.le_of_ble_eq_true rfl) (by decide) dX0_takeBack_91 rfl (fun v fv gv hp => ?_)
      obtain ⟨rfl, rfl, rfl⟩ := hp
      refine ev_iinc (v := 1) (q := 97) (loc' := [some (.ref _), some (.ref _), some (.int _), some (.int _)]) dX0_takeBack_94 rfl (by decide) mci_1 rfl rfl ?_
      refine ev_goto (q := 70) dX0_takeBack_97 rfl ?_
      exact ih _ _ _ _ _ h1 hg hk
    · obtain rfl := Option.some.inj hg
      refine ev_wk (loc' := [none, none, none, none]) trivial ?_
      exact hk
def g_X0_takeBack (a1 : Nat) (f : mj_I) : Option (mj_I) :=
  mj_lt (mj_wr f 24 1 ((((f 24 1) + (24 : Int32)) - (1 : Int32)) - (((f 24 1) + (24 : Int32)) - (1 : Int32)) / (24 : Int32) * (24 : Int32))) (fun f_1 =>
  mj_lt (mj_wr f_1 24 2 ((f_1 24 2) - (1 : Int32))) (fun f_2 =>
  mj_lt (((f_2 24 1) * (8 : Int32))) (fun u_3 =>
  if mj_in u_3 192 = true then
  mj_lt (mj_wr f_2 a1 5 (f_2 25 (ix u_3))) (fun f_5 =>
   if mj_in (u_3 + (1 : Int32)) 192 = true then
   mj_lt (mj_wr f_5 a1 6 (f_5 25 (ix (u_3 + (1 : Int32))))) (fun f_7 =>
    if mj_in (u_3 + (2 : Int32)) 192 = true then
    mj_lt (mj_wr f_7 a1 7 (f_7 25 (ix (u_3 + (2 : Int32))))) (fun f_9 =>
     (g_X0_takeBack_70 mj_fuel a1 u_3 (0 : Int32) f_9).bind (fun q_10 =>
     some (q_10)))
    else none)
   else none)
  else none)))
theorem r_X0_takeBack {a1 : Nat} {f : mj_I} {g : mj_L} {o : mj_I} (h1 : mx_isH a1) (hg : g_X0_takeBack a1 f = some o) : mj_Sp jX0_takeBack mx_S [.ref 24, .ref a1] f g (fun v f' g' => none = v ∧ o = f' ∧ g = g') := by
  refine mj_sp 2 (by decide +kernel) rfl rfl (fun _ _ => Nat.le_of_ble_eq_true rfl) ?_
  show mj_Ev jX0_takeBack 0 [some (.ref 24), some (.ref a1), none, none] [] mx_S f g _
  unfold g_X0_takeBack at hg
  refine ev_aload_n (q := 1) dX0_takeBack_0 rfl rfl ?_
  refine ev_aload_n (q := 2) dX0_takeBack_1 rfl rfl ?_
  refine ev_getfI (q := 5) mw_f_RX0_15 (by decide) (by decide) rfl dX0_takeBack_2 rfl ?_
  refine ev_bipush (v := 24) (q := 7) dX0_takeBack_5 mcb_24 rfl ?_
  refine ev_iadd (q := 8) dX0_takeBack_7 rfl ?_
  refine ev_iconst (v := 1) (q := 9) dX0_takeBack_8 mci_1 rfl ?_
  refine ev_isub (q := 10) dX0_takeBack_9 rfl ?_
  refine ev_bipush (v := 24) (q := 12) dX0_takeBack_10 mcb_24 rfl ?_
  refine ev_irem (q := 13) dX0_takeBack_12 (by decide) rfl ?_
  refine ev_putfI (q := 16) mw_f_RX0_15 rfl dX0_takeBack_13 rfl ?_
  refine ev_nmf (fun f_1 hf_1 => ?_)
  have hg := mj_lt_el hf_1 hg
  refine ev_aload_n (q := 17) dX0_takeBack_16 rfl rfl ?_
  refine ev_dup (q := 18) dX0_takeBack_17 rfl rfl ?_
  refine ev_getfI (q := 21) mw_f_RX0_19 (by decide) (by decide) rfl dX0_takeBack_18 rfl ?_
  refine ev_iconst (v := 1) (q := 22) dX0_takeBack_21 mci_1 rfl ?_
  refine ev_isub (q := 23) dX0_takeBack_22 rfl ?_
  refine ev_putfI (q := 26) mw_f_RX0_19 rfl dX0_takeBack_23 rfl ?_
  refine ev_nmf (fun f_2 hf_2 => ?_)
  have hg := mj_lt_el hf_2 hg
  refine ev_aload_n (q := 27) dX0_takeBack_26 rfl rfl ?_
  refine ev_getfI (q := 30) mw_f_RX0_15 (by decide) (by decide) rfl dX0_takeBack_27 rfl ?_
  refine ev_bipush (v := 8) (q := 32) dX0_takeBack_30 mcb_8 rfl ?_
  refine ev_imul (q := 33) dX0_takeBack_32 rfl ?_
  refine ev_nmi (fun u_3 hu_3 => ?_)
  have hg := mj_lt_el hu_3 hg
  refine ev_istore_n (q := 34) (loc' := [some (.ref _), some (.ref _), some (.int _), none]) dX0_takeBack_33 (by decide) rfl rfl ?_
  refine ev_aload_n (q := 35) dX0_takeBack_34 rfl rfl ?_
  refine ev_aload_n (q := 36) dX0_takeBack_35 rfl rfl ?_
  refine ev_getfR (q := 39) mw_f_RX0_11 rfl rfl dX0_takeBack_36 rfl ?_
  refine ev_iload_n (q := 40) dX0_takeBack_39 rfl rfl ?_
  obtain ⟨hi_4, hg⟩ := mj_gd hg
  refine ev_ialdk (q := 41) rfl hi_4 rfl dX0_takeBack_40 rfl ?_
  refine ev_putfI (q := 44) mw_f_RX0_22 (mx_H h1) dX0_takeBack_41 rfl ?_
  refine ev_nmf (fun f_5 hf_5 => ?_)
  have hg := mj_lt_el hf_5 hg
  refine ev_aload_n (q := 45) dX0_takeBack_44 rfl rfl ?_
  refine ev_aload_n (q := 46) dX0_takeBack_45 rfl rfl ?_
  refine ev_getfR (q := 49) mw_f_RX0_11 rfl rfl dX0_takeBack_46 rfl ?_
  refine ev_iload_n (q := 50) dX0_takeBack_49 rfl rfl ?_
  refine ev_iconst (v := 1) (q := 51) dX0_takeBack_50 mci_1 rfl ?_
  refine ev_iadd (q := 52) dX0_takeBack_51 rfl ?_
  obtain ⟨hi_6, hg⟩ := mj_gd hg
  refine ev_ialdk (q := 53) rfl hi_6 rfl dX0_takeBack_52 rfl ?_
  refine ev_putfI (q := 56) mw_f_RX0_27 (mx_H h1) dX0_takeBack_53 rfl ?_
  refine ev_nmf (fun f_7 hf_7 => ?_)
  have hg := mj_lt_el hf_7 hg
  refine ev_aload_n (q := 57) dX0_takeBack_56 rfl rfl ?_
  refine ev_aload_n (q := 58) dX0_takeBack_57 rfl rfl ?_
  refine ev_getfR (q := 61) mw_f_RX0_11 rfl rfl dX0_takeBack_58 rfl ?_
  refine ev_iload_n (q := 62) dX0_takeBack_61 rfl rfl ?_
  refine ev_iconst (v := 2) (q := 63) dX0_takeBack_62 mci_2 rfl ?_
  refine ev_iadd (q := 64) dX0_takeBack_63 rfl ?_
  obtain ⟨hi_8, hg⟩ := mj_gd hg
  refine ev_ialdk (q := 65) rfl hi_8 rfl dX0_takeBack_64 rfl ?_
  refine ev_putfI (q := 68) mw_f_RX0_30 (mx_H h1) dX0_takeBack_65 rfl ?_
  refine ev_nmf (fun f_9 hf_9 => ?_)
  have hg := mj_lt_el hf_9 hg
  refine ev_iconst (v := 0) (q := 69) dX0_takeBack_68 mci_0 rfl ?_
  refine ev_istore_n (q := 70) (loc' := [some (.ref _), some (.ref _), some (.int _), some (.int _)]) dX0_takeBack_69 (by decide) rfl rfl ?_
  obtain ⟨q_10, hq_10, hg⟩ := mj_bd hg
  refine r_X0_takeBack_70 mj_fuel _ _ _ _ _ h1 hq_10 ?_
  obtain rfl := Option.some.inj hg
  exact ev_vret dX0_takeBack_100 rfl ⟨rfl, rfl, rfl⟩
def g_X0_forget (f : mj_I) : mj_I :=
  mj_lt (mj_wr f 24 2 (0 : Int32)) (fun f_1 =>
  f_1)
theorem r_X0_forget {f : mj_I} {g : mj_L} {o : mj_I} (hg : g_X0_forget f = o) : mj_Sp jX0_forget mx_S [.ref 24] f g (fun v f' g' => none = v ∧ o = f' ∧ g = g') := by
  refine mj_sp 0 (by decide +kernel) rfl rfl (fun _ _ => Nat.le_of_ble_eq_true rfl) ?_
  show mj_Ev jX0_forget 0 [some (.ref 24)] [] mx_S f g _
  unfold g_X0_forget at hg
  refine ev_aload_n (q := 1) dX0_forget_0 rfl rfl ?_
  refine ev_iconst (v := 0) (q := 2) dX0_forget_1 mci_0 rfl ?_
  refine ev_putfI (q := 5) mw_f_RX0_19 rfl dX0_forget_2 rfl ?_
  refine ev_nmf (fun f_1 hf_1 => ?_)
  have hg := mj_lt_el hf_1 hg
  subst hg
  exact ev_vret dX0_forget_5 rfl ⟨rfl, rfl, rfl⟩
def g_X1_begin (a0 : Nat) (x1 : Int32) (x2 : Int32) (x3 : Int32) (f : mj_I) : mj_I :=
  mj_lt (mj_wr f a0 0 x1) (fun f_1 =>
  mj_lt (mj_wr f_1 a0 1 x2) (fun f_2 =>
  mj_lt (mj_wr f_2 a0 2 (0 : Int32)) (fun f_3 =>
  mj_lt (mj_wr f_3 a0 3 x3) (fun f_4 =>
  mj_lt (mj_wr f_4 a0 4 (0 : Int32)) (fun f_5 =>
  mj_lt (mj_wr f_5 a0 5 (1 : Int32)) (fun f_6 =>
  mj_lt (mj_wr f_6 a0 6 (0 : Int32)) (fun f_7 =>
  f_7)))))))
theorem r_X1_begin {a0 : Nat} {x1 : Int32} {x2 : Int32} {x3 : Int32} {f : mj_I} {g : mj_L} {o : mj_I} (h0 : mx_isC a0) (hg : g_X1_begin a0 x1 x2 x3 f = o) : mj_Sp jX1_begin mx_S [.ref a0, .int x1, .int x2, .int x3] f g (fun v f' g' => none = v ∧ o = f' ∧ g = g') := by
  refine mj_sp 0 (by decide +kernel) rfl rfl (fun _ _ => Nat.le_of_ble_eq_true rfl) ?_
  show mj_Ev jX1_begin 0 [some (.ref a0), some (.int x1), some (.int x2), some (.int x3)] [] mx_S f g _
  unfold g_X1_begin at hg
  refine ev_aload_n (q := 1) dX1_begin_0 rfl rfl ?_
  refine ev_iload_n (q := 2) dX1_begin_1 rfl rfl ?_
  refine ev_putfI (q := 5) mw_f_RX1_9 (mx_C h0) dX1_begin_2 rfl ?_
  refine ev_nmf (fun f_1 hf_1 => ?_)
  have hg := mj_lt_el hf_1 hg
  refine ev_aload_n (q := 6) dX1_begin_5 rfl rfl ?_
  refine ev_iload_n (q := 7) dX1_begin_6 rfl rfl ?_
  refine ev_putfI (q := 10) mw_f_RX1_15 (mx_C h0) dX1_begin_7 rfl ?_
  refine ev_nmf (fun f_2 hf_2 => ?_)
  have hg := mj_lt_el hf_2 hg
  refine ev_aload_n (q := 11) dX1_begin_10 rfl rfl ?_
  refine ev_iconst (v := 0) (q := 12) dX1_begin_11 mci_0 rfl ?_
  refine ev_putfI (q := 15) mw_f_RX1_18 (mx_C h0) dX1_begin_12 rfl ?_
  refine ev_nmf (fun f_3 hf_3 => ?_)
  have hg := mj_lt_el hf_3 hg
  refine ev_aload_n (q := 16) dX1_begin_15 rfl rfl ?_
  refine ev_iload_n (q := 17) dX1_begin_16 rfl rfl ?_
  refine ev_putfI (q := 20) mw_f_RX1_21 (mx_C h0) dX1_begin_17 rfl ?_
  refine ev_nmf (fun f_4 hf_4 => ?_)
  have hg := mj_lt_el hf_4 hg
  refine ev_aload_n (q := 21) dX1_begin_20 rfl rfl ?_
  refine ev_iconst (v := 0) (q := 22) dX1_begin_21 mci_0 rfl ?_
  refine ev_putfZ (q := 25) mw_f_RX1_24 (mx_C h0) (mcz_0) dX1_begin_22 rfl ?_
  refine ev_nmf (fun f_5 hf_5 => ?_)
  have hg := mj_lt_el hf_5 hg
  refine ev_aload_n (q := 26) dX1_begin_25 rfl rfl ?_
  refine ev_iconst (v := 1) (q := 27) dX1_begin_26 mci_1 rfl ?_
  refine ev_putfZ (q := 30) mw_f_RX1_28 (mx_C h0) (mcz_1) dX1_begin_27 rfl ?_
  refine ev_nmf (fun f_6 hf_6 => ?_)
  have hg := mj_lt_el hf_6 hg
  refine ev_aload_n (q := 31) dX1_begin_30 rfl rfl ?_
  refine ev_iconst (v := 0) (q := 32) dX1_begin_31 mci_0 rfl ?_
  refine ev_putfI (q := 35) mw_f_RX1_31 (mx_C h0) dX1_begin_32 rfl ?_
  refine ev_nmf (fun f_7 hf_7 => ?_)
  have hg := mj_lt_el hf_7 hg
  subst hg
  exact ev_vret dX1_begin_35 rfl ⟨rfl, rfl, rfl⟩
def g_X1_become (a0 : Nat) (a1 : Nat) (f : mj_I) : Option (mj_I) :=
  mj_lt (mj_wr f a0 0 (f a1 0)) (fun f_1 =>
  mj_lt (mj_wr f_1 a0 1 (f_1 a1 1)) (fun f_2 =>
  mj_lt (mj_wr f_2 a0 2 (f_2 a1 2)) (fun f_3 =>
  mj_lt (mj_wr f_3 a0 3 (f_3 a1 3)) (fun f_4 =>
  if mj_b (f_4 a1 4) = true then
  mj_lt (mj_wr f_4 a0 4 (f_4 a1 4)) (fun f_5 =>
   if mj_b (f_5 a1 5) = true then
   mj_lt (mj_wr f_5 a0 5 (f_5 a1 5)) (fun f_6 =>
    mj_lt (mj_wr f_6 a0 6 (f_6 a1 6)) (fun f_7 =>
    some (f_7)))
   else none)
  else none))))
theorem r_X1_become {a0 : Nat} {a1 : Nat} {f : mj_I} {g : mj_L} {o : mj_I} (h0 : mx_isC a0) (h1 : mx_isC a1) (hg : g_X1_become a0 a1 f = some o) : mj_Sp jX1_become mx_S [.ref a0, .ref a1] f g (fun v f' g' => none = v ∧ o = f' ∧ g = g') := by
  refine mj_sp 0 (by decide +kernel) rfl rfl (fun _ _ => Nat.le_of_ble_eq_true rfl) ?_
  show mj_Ev jX1_become 0 [some (.ref a0), some (.ref a1)] [] mx_S f g _
  unfold g_X1_become at hg
  refine ev_aload_n (q := 1) dX1_become_0 rfl rfl ?_
  refine ev_aload_n (q := 2) dX1_become_1 rfl rfl ?_
  refine ev_getfI (q := 5) mw_f_RX1_9 (by decide) (by decide) (mx_C h1) dX1_become_2 rfl ?_
  refine ev_putfI (q := 8) mw_f_RX1_9 (mx_C h0) dX1_become_5 rfl ?_
  refine ev_nmf (fun f_1 hf_1 => ?_)
  have hg := mj_lt_el hf_1 hg
  refine ev_aload_n (q := 9) dX1_become_8 rfl rfl ?_
  refine ev_aload_n (q := 10) dX1_become_9 rfl rfl ?_
  refine ev_getfI (q := 13) mw_f_RX1_15 (by decide) (by decide) (mx_C h1) dX1_become_10 rfl ?_
  refine ev_putfI (q := 16) mw_f_RX1_15 (mx_C h0) dX1_become_13 rfl ?_
  refine ev_nmf (fun f_2 hf_2 => ?_)
  have hg := mj_lt_el hf_2 hg
  refine ev_aload_n (q := 17) dX1_become_16 rfl rfl ?_
  refine ev_aload_n (q := 18) dX1_become_17 rfl rfl ?_
  refine ev_getfI (q := 21) mw_f_RX1_18 (by decide) (by decide) (mx_C h1) dX1_become_18 rfl ?_
  refine ev_putfI (q := 24) mw_f_RX1_18 (mx_C h0) dX1_become_21 rfl ?_
  refine ev_nmf (fun f_3 hf_3 => ?_)
  have hg := mj_lt_el hf_3 hg
  refine ev_aload_n (q := 25) dX1_become_24 rfl rfl ?_
  refine ev_aload_n (q := 26) dX1_become_25 rfl rfl ?_
  refine ev_getfI (q := 29) mw_f_RX1_21 (by decide) (by decide) (mx_C h1) dX1_become_26 rfl ?_
  refine ev_putfI (q := 32) mw_f_RX1_21 (mx_C h0) dX1_become_29 rfl ?_
  refine ev_nmf (fun f_4 hf_4 => ?_)
  have hg := mj_lt_el hf_4 hg
  refine ev_aload_n (q := 33) dX1_become_32 rfl rfl ?_
  refine ev_aload_n (q := 34) dX1_become_33 rfl rfl ?_
  refine ev_getfI (q := 37) mw_f_RX1_24 (by decide) (by decide) (mx_C h1) dX1_become_34 rfl ?_
  obtain ⟨hb_5, hg⟩ := mj_gd hg
  refine ev_putfZ (q := 40) mw_f_RX1_24 (mx_C h0) hb_5 dX1_become_37 rfl ?_
  refine ev_nmf (fun f_5 hf_5 => ?_)
  have hg := mj_lt_el hf_5 hg
  refine ev_aload_n (q := 41) dX1_become_40 rfl rfl ?_
  refine ev_aload_n (q := 42) dX1_become_41 rfl rfl ?_
  refine ev_getfI (q := 45) mw_f_RX1_28 (by decide) (by decide) (mx_C h1) dX1_become_42 rfl ?_
  obtain ⟨hb_6, hg⟩ := mj_gd hg
  refine ev_putfZ (q := 48) mw_f_RX1_28 (mx_C h0) hb_6 dX1_become_45 rfl ?_
  refine ev_nmf (fun f_6 hf_6 => ?_)
  have hg := mj_lt_el hf_6 hg
  refine ev_aload_n (q := 49) dX1_become_48 rfl rfl ?_
  refine ev_aload_n (q := 50) dX1_become_49 rfl rfl ?_
  refine ev_getfI (q := 53) mw_f_RX1_31 (by decide) (by decide) (mx_C h1) dX1_become_50 rfl ?_
  refine ev_putfI (q := 56) mw_f_RX1_31 (mx_C h0) dX1_become_53 rfl ?_
  refine ev_nmf (fun f_7 hf_7 => ?_)
  have hg := mj_lt_el hf_7 hg
  obtain rfl := Option.some.inj hg
  exact ev_vret dX1_become_56 rfl ⟨rfl, rfl, rfl⟩
def g_X1_part (a0 : Nat) (x1 : Int32) (f : mj_I) : Int32 :=
  if x1 = (0 : Int32) then
   (f a0 1)
  else
   if x1 = (1 : Int32) then
    (f a0 2)
   else
    if x1 = (2 : Int32) then
     (f a0 3)
    else
     if x1 = (3 : Int32) then
      (g_X6_bit (f a0 4))
     else
      (g_X6_bit (f a0 5))
theorem r_X1_part {a0 : Nat} {x1 : Int32} {f : mj_I} {g : mj_L} {o : Int32} (h0 : mx_isC a0) (hg : g_X1_part a0 x1 f = o) : mj_Sp jX1_part mx_S [.ref a0, .int x1] f g (fun v f' g' => some (.int o) = v ∧ f = f' ∧ g = g') := by
  refine mj_sp 0 (by decide +kernel) rfl rfl (fun _ _ => Nat.le_of_ble_eq_true rfl) ?_
  show mj_Ev jX1_part 0 [some (.ref a0), some (.int x1)] [] mx_S f g _
  unfold g_X1_part at hg
  refine ev_iload_n (q := 1) dX1_part_0 rfl rfl ?_
  rcases mj_ite hg with ⟨hx_1_0, hg⟩ | ⟨hx_1_0, hg⟩
  · refine ev_tabIn (v := 0) (off := 31) (q := 32) hx_1_0 dX1_part_1 (by decide) (by decide) rfl rfl ?_
    refine ev_aload_n (q := 33) dX1_part_32 rfl rfl ?_
    refine ev_getfI (q := 36) mw_f_RX1_15 (by decide) (by decide) (mx_C h0) dX1_part_33 rfl ?_
    subst hg
    exact ev_iret dX1_part_36 rfl ⟨rfl, rfl, rfl⟩
  · rcases mj_ite hg with ⟨hx_1_1, hg⟩ | ⟨hx_1_1, hg⟩
    · refine ev_tabIn (v := 1) (off := 36) (q := 37) hx_1_1 dX1_part_1 (by decide) (by decide) rfl rfl ?_
      refine ev_aload_n (q := 38) dX1_part_37 rfl rfl ?_
      refine ev_getfI (q := 41) mw_f_RX1_18 (by decide) (by decide) (mx_C h0) dX1_part_38 rfl ?_
      subst hg
      exact ev_iret dX1_part_41 rfl ⟨rfl, rfl, rfl⟩
    · rcases mj_ite hg with ⟨hx_1_2, hg⟩ | ⟨hx_1_2, hg⟩
      · refine ev_tabIn (v := 2) (off := 41) (q := 42) hx_1_2 dX1_part_1 (by decide) (by decide) rfl rfl ?_
        refine ev_aload_n (q := 43) dX1_part_42 rfl rfl ?_
        refine ev_getfI (q := 46) mw_f_RX1_21 (by decide) (by decide) (mx_C h0) dX1_part_43 rfl ?_
        subst hg
        exact ev_iret dX1_part_46 rfl ⟨rfl, rfl, rfl⟩
      · rcases mj_ite hg with ⟨hx_1_3, hg⟩ | ⟨hx_1_3, hg⟩
        · refine ev_tabIn (v := 3) (off := 46) (q := 47) hx_1_3 dX1_part_1 (by decide) (by decide) rfl rfl ?_
          refine ev_aload_n (q := 48) dX1_part_47 rfl rfl ?_
          refine ev_getfI (q := 51) mw_f_RX1_24 (by decide) (by decide) (mx_C h0) dX1_part_48 rfl ?_
          refine ev_callN (q := 54) kX6_bit mw_t_X6_bit mw_n_RX1_34 (r_X6_bit rfl) rfl rfl (Nat.le_of_ble_eq_true rfl) (by decide) dX1_part_51 rfl (fun v fv gv hp => ?_)
          obtain ⟨rfl, rfl, rfl⟩ := hp
          subst hg
          exact ev_iret dX1_part_54 rfl ⟨rfl, rfl, rfl⟩
        · refine ev_tabOut (q := 55) dX1_part_1 (by have e0 := lv_neT (a := 0) hx_1_0 (by decide); have e1 := lv_neT (a := 1) hx_1_1 (by decide); have e2 := lv_neT (a := 2) hx_1_2 (by decide); have e3 := lv_neT (a := 3) hx_1_3 (by decide); omega) rfl ?_
          refine ev_aload_n (q := 56) dX1_part_55 rfl rfl ?_
          refine ev_getfI (q := 59) mw_f_RX1_28 (by decide) (by decide) (mx_C h0) dX1_part_56 rfl ?_
          refine ev_callN (q := 62) kX6_bit mw_t_X6_bit mw_n_RX1_34 (r_X6_bit rfl) rfl rfl (Nat.le_of_ble_eq_true rfl) (by decide) dX1_part_59 rfl (fun v fv gv hp => ?_)
          obtain ⟨rfl, rfl, rfl⟩ := hp
          subst hg
          exact ev_iret dX1_part_62 rfl ⟨rfl, rfl, rfl⟩
def g_X1_canRise (a0 : Nat) (f : mj_I) : Int32 :=
  if (f a0 0) = (4 : Int32) then
   (0 : Int32)
  else
   if (f a0 0) = (5 : Int32) then
    (0 : Int32)
   else
    (1 : Int32)
theorem r_X1_canRise {a0 : Nat} {f : mj_I} {g : mj_L} {o : Int32} (h0 : mx_isC a0) (hg : g_X1_canRise a0 f = o) : mj_Sp jX1_canRise mx_S [.ref a0] f g (fun v f' g' => some (.int o) = v ∧ f = f' ∧ g = g' ∧ mj_b (o) = true) := by
  refine mj_sp 0 (by decide +kernel) rfl rfl (fun _ _ => Nat.le_of_ble_eq_true rfl) ?_
  show mj_Ev jX1_canRise 0 [some (.ref a0)] [] mx_S f g _
  unfold g_X1_canRise at hg
  refine ev_aload_n (q := 1) dX1_canRise_0 rfl rfl ?_
  refine ev_getfI (q := 4) mw_f_RX1_9 (by decide) (by decide) (mx_C h0) dX1_canRise_1 rfl ?_
  refine ev_iconst (v := 4) (q := 5) dX1_canRise_4 mci_4 rfl ?_
  refine ev_icmp_eq (t := 20) (q := 8) dX1_canRise_5 rfl rfl hg (fun hg => ?_) (fun hg => ?_)
  · refine ev_iconst (v := 0) (q := 21) dX1_canRise_20 mci_0 rfl ?_
    subst hg
    exact ev_zret dX1_canRise_21 rfl (mcz_0) ⟨rfl, rfl, rfl, (mcz_0)⟩
  · refine ev_aload_n (q := 9) dX1_canRise_8 rfl rfl ?_
    refine ev_getfI (q := 12) mw_f_RX1_9 (by decide) (by decide) (mx_C h0) dX1_canRise_9 rfl ?_
    refine ev_iconst (v := 5) (q := 13) dX1_canRise_12 mci_5 rfl ?_
    refine ev_icmp_eq (t := 20) (q := 16) dX1_canRise_13 rfl rfl hg (fun hg => ?_) (fun hg => ?_)
    · refine ev_iconst (v := 0) (q := 21) dX1_canRise_20 mci_0 rfl ?_
      subst hg
      exact ev_zret dX1_canRise_21 rfl (mcz_0) ⟨rfl, rfl, rfl, (mcz_0)⟩
    · refine ev_iconst (v := 1) (q := 17) dX1_canRise_16 mci_1 rfl ?_
      refine ev_goto (q := 21) dX1_canRise_17 rfl ?_
      subst hg
      exact ev_zret dX1_canRise_21 rfl (mcz_1) ⟨rfl, rfl, rfl, (mcz_1)⟩
def g_X1_moveTo (a0 : Nat) (x1 : Int32) (f : mj_I) : mj_I :=
  if (f a0 2) < x1 then
   mj_lt (mj_wr f a0 3 (if (0 : Int32) < ((f a0 3) - (2 : Int32)) then ((f a0 3) - (2 : Int32)) else (0 : Int32))) (fun f_1 =>
   mj_lt (mj_wr f_1 a0 2 x1) (fun f_2 =>
   f_2))
  else
   mj_lt (mj_wr f a0 2 x1) (fun f_3 =>
   f_3)
theorem r_X1_moveTo {a0 : Nat} {x1 : Int32} {f : mj_I} {g : mj_L} {o : mj_I} (h0 : mx_isC a0) (hg : g_X1_moveTo a0 x1 f = o) : mj_Sp jX1_moveTo mx_S [.ref a0, .int x1] f g (fun v f' g' => none = v ∧ o = f' ∧ g = g') := by
  refine mj_sp 0 (by decide +kernel) rfl rfl (fun _ _ => Nat.le_of_ble_eq_true rfl) ?_
  show mj_Ev jX1_moveTo 0 [some (.ref a0), some (.int x1)] [] mx_S f g _
  unfold g_X1_moveTo at hg
  refine ev_iload_n (q := 1) dX1_moveTo_0 rfl rfl ?_
  refine ev_aload_n (q := 2) dX1_moveTo_1 rfl rfl ?_
  refine ev_getfI (q := 5) mw_f_RX1_18 (by decide) (by decide) (mx_C h0) dX1_moveTo_2 rfl ?_
  refine ev_icmp_le (t := 22) (q := 8) dX1_moveTo_5 rfl rfl hg (fun hg => ?_) (fun hg => ?_)
  · refine ev_aload_n (q := 9) dX1_moveTo_8 rfl rfl ?_
    refine ev_iconst (v := 0) (q := 10) dX1_moveTo_9 mci_0 rfl ?_
    refine ev_aload_n (q := 11) dX1_moveTo_10 rfl rfl ?_
    refine ev_getfI (q := 14) mw_f_RX1_21 (by decide) (by decide) (mx_C h0) dX1_moveTo_11 rfl ?_
    refine ev_iconst (v := 2) (q := 15) dX1_moveTo_14 mci_2 rfl ?_
    refine ev_isub (q := 16) dX1_moveTo_15 rfl ?_
    refine ev_mmax (q := 19) mw_m_RX1_38 mw_t_max mw_ini_math mw_c_max (Nat.le_of_ble_eq_true rfl) (by decide) dX1_moveTo_16 rfl ?_
    refine ev_putfI (q := 22) mw_f_RX1_21 (mx_C h0) dX1_moveTo_19 rfl ?_
    refine ev_nmf (fun f_1 hf_1 => ?_)
    have hg := mj_lt_el hf_1 hg
    refine ev_aload_n (q := 23) dX1_moveTo_22 rfl rfl ?_
    refine ev_iload_n (q := 24) dX1_moveTo_23 rfl rfl ?_
    refine ev_putfI (q := 27) mw_f_RX1_18 (mx_C h0) dX1_moveTo_24 rfl ?_
    refine ev_nmf (fun f_2 hf_2 => ?_)
    have hg := mj_lt_el hf_2 hg
    subst hg
    exact ev_vret dX1_moveTo_27 rfl ⟨rfl, rfl, rfl⟩
  · refine ev_aload_n (q := 23) dX1_moveTo_22 rfl rfl ?_
    refine ev_iload_n (q := 24) dX1_moveTo_23 rfl rfl ?_
    refine ev_putfI (q := 27) mw_f_RX1_18 (mx_C h0) dX1_moveTo_24 rfl ?_
    refine ev_nmf (fun f_3 hf_3 => ?_)
    have hg := mj_lt_el hf_3 hg
    subst hg
    exact ev_vret dX1_moveTo_27 rfl ⟨rfl, rfl, rfl⟩
def g_X1_opposite (x0 : Int32) : Int32 :=
  if x0 = (1 : Int32) then
   (2 : Int32)
  else
   if x0 = (2 : Int32) then
    (1 : Int32)
   else
    if x0 = (3 : Int32) then
     (4 : Int32)
    else
     if x0 = (4 : Int32) then
      (3 : Int32)
     else
      x0
theorem r_X1_opposite {x0 : Int32} {f : mj_I} {g : mj_L} {o : Int32} (hg : g_X1_opposite x0 = o) : mj_Sp jX1_opposite mx_S [.int x0] f g (fun v f' g' => some (.int o) = v ∧ f = f' ∧ g = g') := by
  refine mj_sp 0 (by decide +kernel) rfl rfl (fun _ _ => Nat.le_of_ble_eq_true rfl) ?_
  show mj_Ev jX1_opposite 0 [some (.int x0)] [] mx_S f g _
  unfold g_X1_opposite at hg
  refine ev_iload_n (q := 1) dX1_opposite_0 rfl rfl ?_
  rcases mj_ite hg with ⟨hx_1_0, hg⟩ | ⟨hx_1_0, hg⟩
  · refine ev_tabIn (v := 1) (off := 31) (q := 32) hx_1_0 dX1_opposite_1 (by decide) (by decide) rfl rfl ?_
    refine ev_iconst (v := 2) (q := 33) dX1_opposite_32 mci_2 rfl ?_
    subst hg
    exact ev_iret dX1_opposite_33 rfl ⟨rfl, rfl, rfl⟩
  · rcases mj_ite hg with ⟨hx_1_1, hg⟩ | ⟨hx_1_1, hg⟩
    · refine ev_tabIn (v := 2) (off := 33) (q := 34) hx_1_1 dX1_opposite_1 (by decide) (by decide) rfl rfl ?_
      refine ev_iconst (v := 1) (q := 35) dX1_opposite_34 mci_1 rfl ?_
      subst hg
      exact ev_iret dX1_opposite_35 rfl ⟨rfl, rfl, rfl⟩
    · rcases mj_ite hg with ⟨hx_1_2, hg⟩ | ⟨hx_1_2, hg⟩
      · refine ev_tabIn (v := 3) (off := 35) (q := 36) hx_1_2 dX1_opposite_1 (by decide) (by decide) rfl rfl ?_
        refine ev_iconst (v := 4) (q := 37) dX1_opposite_36 mci_4 rfl ?_
        subst hg
        exact ev_iret dX1_opposite_37 rfl ⟨rfl, rfl, rfl⟩
      · rcases mj_ite hg with ⟨hx_1_3, hg⟩ | ⟨hx_1_3, hg⟩
        · refine ev_tabIn (v := 4) (off := 37) (q := 38) hx_1_3 dX1_opposite_1 (by decide) (by decide) rfl rfl ?_
          refine ev_iconst (v := 3) (q := 39) dX1_opposite_38 mci_3 rfl ?_
          subst hg
          exact ev_iret dX1_opposite_39 rfl ⟨rfl, rfl, rfl⟩
        · refine ev_tabOut (q := 40) dX1_opposite_1 (by have e0 := lv_neT (a := 1) hx_1_0 (by decide); have e1 := lv_neT (a := 2) hx_1_1 (by decide); have e2 := lv_neT (a := 3) hx_1_2 (by decide); have e3 := lv_neT (a := 4) hx_1_3 (by decide); omega) rfl ?_
          refine ev_iload_n (q := 41) dX1_opposite_40 rfl rfl ?_
          subst hg
          exact ev_iret dX1_opposite_41 rfl ⟨rfl, rfl, rfl⟩
def g_X1_beside (x0 : Int32) (x1 : Int32) : Int32 :=
  mj_lt ((x0 - x0 / (8 : Int32) * (8 : Int32))) (fun u_1 =>
  mj_lt ((x0 / (8 : Int32))) (fun u_2 =>
  if x1 = (1 : Int32) then
   if u_1 < (7 : Int32) then
    (x0 + (1 : Int32))
   else
    x0
  else
   if x1 = (2 : Int32) then
    if 0 < u_1 then
     (x0 - (1 : Int32))
    else
     x0
   else
    if x1 = (3 : Int32) then
     if u_2 < (3 : Int32) then
      (x0 + (8 : Int32))
     else
      x0
    else
     if x1 = (4 : Int32) then
      if 0 < u_2 then
       (x0 - (8 : Int32))
      else
       x0
     else
      x0))
theorem r_X1_beside {x0 : Int32} {x1 : Int32} {f : mj_I} {g : mj_L} {o : Int32} (hg : g_X1_beside x0 x1 = o) : mj_Sp jX1_beside mx_S [.int x0, .int x1] f g (fun v f' g' => some (.int o) = v ∧ f = f' ∧ g = g') := by
  refine mj_sp 2 (by decide +kernel) rfl rfl (fun _ _ => Nat.le_of_ble_eq_true rfl) ?_
  show mj_Ev jX1_beside 0 [some (.int x0), some (.int x1), none, none] [] mx_S f g _
  unfold g_X1_beside at hg
  refine ev_iload_n (q := 1) dX1_beside_0 rfl rfl ?_
  refine ev_bipush (v := 8) (q := 3) dX1_beside_1 mcb_8 rfl ?_
  refine ev_irem (q := 4) dX1_beside_3 (by decide) rfl ?_
  refine ev_nmi (fun u_1 hu_1 => ?_)
  have hg := mj_lt_el hu_1 hg
  refine ev_istore_n (q := 5) (loc' := [some (.int _), some (.int _), some (.int _), none]) dX1_beside_4 (by decide) rfl rfl ?_
  refine ev_iload_n (q := 6) dX1_beside_5 rfl rfl ?_
  refine ev_bipush (v := 8) (q := 8) dX1_beside_6 mcb_8 rfl ?_
  refine ev_idiv (q := 9) dX1_beside_8 (by decide) rfl ?_
  refine ev_nmi (fun u_2 hu_2 => ?_)
  have hg := mj_lt_el hu_2 hg
  refine ev_istore_n (q := 10) (loc' := [some (.int _), some (.int _), some (.int _), some (.int _)]) dX1_beside_9 (by decide) rfl rfl ?_
  refine ev_iload_n (q := 11) dX1_beside_10 rfl rfl ?_
  rcases mj_ite hg with ⟨hx_3_0, hg⟩ | ⟨hx_3_0, hg⟩
  · refine ev_tabIn (v := 1) (off := 29) (q := 40) hx_3_0 dX1_beside_11 (by decide) (by decide) rfl rfl ?_
    refine ev_iload_n (q := 41) dX1_beside_40 rfl rfl ?_
    refine ev_bipush (v := 7) (q := 43) dX1_beside_41 mcb_7 rfl ?_
    refine ev_icmp_ge (t := 52) (q := 46) dX1_beside_43 rfl rfl hg (fun hg => ?_) (fun hg => ?_)
    · refine ev_iload_n (q := 47) dX1_beside_46 rfl rfl ?_
      refine ev_iconst (v := 1) (q := 48) dX1_beside_47 mci_1 rfl ?_
      refine ev_iadd (q := 49) dX1_beside_48 rfl ?_
      refine ev_goto (q := 53) dX1_beside_49 rfl ?_
      subst hg
      exact ev_iret dX1_beside_53 rfl ⟨rfl, rfl, rfl⟩
    · refine ev_iload_n (q := 53) dX1_beside_52 rfl rfl ?_
      subst hg
      exact ev_iret dX1_beside_53 rfl ⟨rfl, rfl, rfl⟩
  · rcases mj_ite hg with ⟨hx_3_1, hg⟩ | ⟨hx_3_1, hg⟩
    · refine ev_tabIn (v := 2) (off := 43) (q := 54) hx_3_1 dX1_beside_11 (by decide) (by decide) rfl rfl ?_
      refine ev_iload_n (q := 55) dX1_beside_54 rfl rfl ?_
      refine ev_if_le (t := 64) (q := 58) dX1_beside_55 rfl rfl hg (fun hg => ?_) (fun hg => ?_)
      · refine ev_iload_n (q := 59) dX1_beside_58 rfl rfl ?_
        refine ev_iconst (v := 1) (q := 60) dX1_beside_59 mci_1 rfl ?_
        refine ev_isub (q := 61) dX1_beside_60 rfl ?_
        refine ev_goto (q := 65) dX1_beside_61 rfl ?_
        subst hg
        exact ev_iret dX1_beside_65 rfl ⟨rfl, rfl, rfl⟩
      · refine ev_iload_n (q := 65) dX1_beside_64 rfl rfl ?_
        subst hg
        exact ev_iret dX1_beside_65 rfl ⟨rfl, rfl, rfl⟩
    · rcases mj_ite hg with ⟨hx_3_2, hg⟩ | ⟨hx_3_2, hg⟩
      · refine ev_tabIn (v := 3) (off := 55) (q := 66) hx_3_2 dX1_beside_11 (by decide) (by decide) rfl rfl ?_
        refine ev_iload_n (q := 67) dX1_beside_66 rfl rfl ?_
        refine ev_iconst (v := 3) (q := 68) dX1_beside_67 mci_3 rfl ?_
        refine ev_icmp_ge (t := 78) (q := 71) dX1_beside_68 rfl rfl hg (fun hg => ?_) (fun hg => ?_)
        · refine ev_iload_n (q := 72) dX1_beside_71 rfl rfl ?_
          refine ev_bipush (v := 8) (q := 74) dX1_beside_72 mcb_8 rfl ?_
          refine ev_iadd (q := 75) dX1_beside_74 rfl ?_
          refine ev_goto (q := 79) dX1_beside_75 rfl ?_
          subst hg
          exact ev_iret dX1_beside_79 rfl ⟨rfl, rfl, rfl⟩
        · refine ev_iload_n (q := 79) dX1_beside_78 rfl rfl ?_
          subst hg
          exact ev_iret dX1_beside_79 rfl ⟨rfl, rfl, rfl⟩
      · rcases mj_ite hg with ⟨hx_3_3, hg⟩ | ⟨hx_3_3, hg⟩
        · refine ev_tabIn (v := 4) (off := 69) (q := 80) hx_3_3 dX1_beside_11 (by decide) (by decide) rfl rfl ?_
          refine ev_iload_n (q := 81) dX1_beside_80 rfl rfl ?_
          refine ev_if_le (t := 91) (q := 84) dX1_beside_81 rfl rfl hg (fun hg => ?_) (fun hg => ?_)
          · refine ev_iload_n (q := 85) dX1_beside_84 rfl rfl ?_
            refine ev_bipush (v := 8) (q := 87) dX1_beside_85 mcb_8 rfl ?_
            refine ev_isub (q := 88) dX1_beside_87 rfl ?_
            refine ev_goto (q := 92) dX1_beside_88 rfl ?_
            subst hg
            exact ev_iret dX1_beside_92 rfl ⟨rfl, rfl, rfl⟩
          · refine ev_iload_n (q := 92) dX1_beside_91 rfl rfl ?_
            subst hg
            exact ev_iret dX1_beside_92 rfl ⟨rfl, rfl, rfl⟩
        · refine ev_tabOut (q := 93) dX1_beside_11 (by have e0 := lv_neT (a := 1) hx_3_0 (by decide); have e1 := lv_neT (a := 2) hx_3_1 (by decide); have e2 := lv_neT (a := 3) hx_3_2 (by decide); have e3 := lv_neT (a := 4) hx_3_3 (by decide); omega) rfl ?_
          refine ev_iload_n (q := 94) dX1_beside_93 rfl rfl ?_
          subst hg
          exact ev_iret dX1_beside_94 rfl ⟨rfl, rfl, rfl⟩
def g_X1_driftedFrom (a0 : Nat) (x1 : Int32) (x2 : Int32) (f : mj_I) : Int32 :=
  if (f a0 0) = (4 : Int32) then
   x1
  else
   if (f a0 0) = (5 : Int32) then
    (g_X1_beside x1 (g_X1_opposite x2))
   else
    (g_X1_beside x1 x2)
theorem r_X1_driftedFrom {a0 : Nat} {x1 : Int32} {x2 : Int32} {f : mj_I} {g : mj_L} {o : Int32} (h0 : mx_isC a0) (hg : g_X1_driftedFrom a0 x1 x2 f = o) : mj_Sp jX1_driftedFrom mx_S [.ref a0, .int x1, .int x2] f g (fun v f' g' => some (.int o) = v ∧ f = f' ∧ g = g') := by
  refine mj_sp 0 (by decide +kernel) rfl rfl (fun _ _ => Nat.le_of_ble_eq_true rfl) ?_
  show mj_Ev jX1_driftedFrom 0 [some (.ref a0), some (.int x1), some (.int x2)] [] mx_S f g _
  unfold g_X1_driftedFrom at hg
  refine ev_aload_n (q := 1) dX1_driftedFrom_0 rfl rfl ?_
  refine ev_getfI (q := 4) mw_f_RX1_9 (by decide) (by decide) (mx_C h0) dX1_driftedFrom_1 rfl ?_
  refine ev_iconst (v := 4) (q := 5) dX1_driftedFrom_4 mci_4 rfl ?_
  refine ev_icmp_ne (t := 10) (q := 8) dX1_driftedFrom_5 rfl rfl hg (fun hg => ?_) (fun hg => ?_)
  · refine ev_iload_n (q := 9) dX1_driftedFrom_8 rfl rfl ?_
    subst hg
    exact ev_iret dX1_driftedFrom_9 rfl ⟨rfl, rfl, rfl⟩
  · refine ev_iload_n (q := 11) dX1_driftedFrom_10 rfl rfl ?_
    refine ev_aload_n (q := 12) dX1_driftedFrom_11 rfl rfl ?_
    refine ev_getfI (q := 15) mw_f_RX1_9 (by decide) (by decide) (mx_C h0) dX1_driftedFrom_12 rfl ?_
    refine ev_iconst (v := 5) (q := 16) dX1_driftedFrom_15 mci_5 rfl ?_
    refine ev_icmp_ne (t := 26) (q := 19) dX1_driftedFrom_16 rfl rfl hg (fun hg => ?_) (fun hg => ?_)
    · refine ev_iload_n (q := 20) dX1_driftedFrom_19 rfl rfl ?_
      refine ev_callS (q := 23) kX1_opposite mw_t_X1_opposite mw_m_RX1_44 (r_X1_opposite rfl) rfl rfl (Nat.le_of_ble_eq_true rfl) (by decide) dX1_driftedFrom_20 rfl (fun v fv gv hp => ?_)
      obtain ⟨rfl, rfl, rfl⟩ := hp
      refine ev_goto (q := 27) dX1_driftedFrom_23 rfl ?_
      refine ev_callS (q := 30) kX1_beside mw_t_X1_beside mw_m_RX1_48 (r_X1_beside rfl) rfl rfl (Nat.le_of_ble_eq_true rfl) (by decide) dX1_driftedFrom_27 rfl (fun v fv gv hp => ?_)
      obtain ⟨rfl, rfl, rfl⟩ := hp
      subst hg
      exact ev_iret dX1_driftedFrom_30 rfl ⟨rfl, rfl, rfl⟩
    · refine ev_iload_n (q := 27) dX1_driftedFrom_26 rfl rfl ?_
      refine ev_callS (q := 30) kX1_beside mw_t_X1_beside mw_m_RX1_48 (r_X1_beside rfl) rfl rfl (Nat.le_of_ble_eq_true rfl) (by decide) dX1_driftedFrom_27 rfl (fun v fv gv hp => ?_)
      obtain ⟨rfl, rfl, rfl⟩ := hp
      subst hg
      exact ev_iret dX1_driftedFrom_30 rfl ⟨rfl, rfl, rfl⟩
def g_X1_meets (a0 : Nat) (a1 : Nat) (f : mj_I) : Int32 :=
  if (f a0 4) = 0 then
   if (f a0 1) = (f a1 1) then
    if (f a0 2) = (f a1 2) then
     (1 : Int32)
    else
     (0 : Int32)
   else
    (0 : Int32)
  else
   (0 : Int32)
theorem r_X1_meets {a0 : Nat} {a1 : Nat} {f : mj_I} {g : mj_L} {o : Int32} (h0 : mx_isC a0) (h1 : mx_isC a1) (hg : g_X1_meets a0 a1 f = o) : mj_Sp jX1_meets mx_S [.ref a0, .ref a1] f g (fun v f' g' => some (.int o) = v ∧ f = f' ∧ g = g' ∧ mj_b (o) = true) := by
  refine mj_sp 0 (by decide +kernel) rfl rfl (fun _ _ => Nat.le_of_ble_eq_true rfl) ?_
  show mj_Ev jX1_meets 0 [some (.ref a0), some (.ref a1)] [] mx_S f g _
  unfold g_X1_meets at hg
  refine ev_aload_n (q := 1) dX1_meets_0 rfl rfl ?_
  refine ev_getfI (q := 4) mw_f_RX1_24 (by decide) (by decide) (mx_C h0) dX1_meets_1 rfl ?_
  refine ev_if_ne (t := 33) (q := 7) dX1_meets_4 rfl rfl hg (fun hg => ?_) (fun hg => ?_)
  · refine ev_aload_n (q := 8) dX1_meets_7 rfl rfl ?_
    refine ev_getfI (q := 11) mw_f_RX1_15 (by decide) (by decide) (mx_C h0) dX1_meets_8 rfl ?_
    refine ev_aload_n (q := 12) dX1_meets_11 rfl rfl ?_
    refine ev_getfI (q := 15) mw_f_RX1_15 (by decide) (by decide) (mx_C h1) dX1_meets_12 rfl ?_
    refine ev_icmp_ne (t := 33) (q := 18) dX1_meets_15 rfl rfl hg (fun hg => ?_) (fun hg => ?_)
    · refine ev_aload_n (q := 19) dX1_meets_18 rfl rfl ?_
      refine ev_getfI (q := 22) mw_f_RX1_18 (by decide) (by decide) (mx_C h0) dX1_meets_19 rfl ?_
      refine ev_aload_n (q := 23) dX1_meets_22 rfl rfl ?_
      refine ev_getfI (q := 26) mw_f_RX1_18 (by decide) (by decide) (mx_C h1) dX1_meets_23 rfl ?_
      refine ev_icmp_ne (t := 33) (q := 29) dX1_meets_26 rfl rfl hg (fun hg => ?_) (fun hg => ?_)
      · refine ev_iconst (v := 1) (q := 30) dX1_meets_29 mci_1 rfl ?_
        refine ev_goto (q := 34) dX1_meets_30 rfl ?_
        subst hg
        exact ev_zret dX1_meets_34 rfl (mcz_1) ⟨rfl, rfl, rfl, (mcz_1)⟩
      · refine ev_iconst (v := 0) (q := 34) dX1_meets_33 mci_0 rfl ?_
        subst hg
        exact ev_zret dX1_meets_34 rfl (mcz_0) ⟨rfl, rfl, rfl, (mcz_0)⟩
    · refine ev_iconst (v := 0) (q := 34) dX1_meets_33 mci_0 rfl ?_
      subst hg
      exact ev_zret dX1_meets_34 rfl (mcz_0) ⟨rfl, rfl, rfl, (mcz_0)⟩
  · refine ev_iconst (v := 0) (q := 34) dX1_meets_33 mci_0 rfl ?_
    subst hg
    exact ev_zret dX1_meets_34 rfl (mcz_0) ⟨rfl, rfl, rfl, (mcz_0)⟩
def g_X1_swallow (a0 : Nat) (a1 : Nat) (f : mj_I) : mj_I :=
  mj_lt (mj_wr f a0 3 (if ((f a0 3) + (f a1 3)) < (40 : Int32) then ((f a0 3) + (f a1 3)) else (40 : Int32))) (fun f_1 =>
  mj_lt (mj_wr f_1 a1 3 (0 : Int32)) (fun f_2 =>
  mj_lt (mj_wr f_2 a1 4 (1 : Int32)) (fun f_3 =>
  f_3)))
theorem r_X1_swallow {a0 : Nat} {a1 : Nat} {f : mj_I} {g : mj_L} {o : mj_I} (h0 : mx_isC a0) (h1 : mx_isC a1) (hg : g_X1_swallow a0 a1 f = o) : mj_Sp jX1_swallow mx_S [.ref a0, .ref a1] f g (fun v f' g' => none = v ∧ o = f' ∧ g = g') := by
  refine mj_sp 0 (by decide +kernel) rfl rfl (fun _ _ => Nat.le_of_ble_eq_true rfl) ?_
  show mj_Ev jX1_swallow 0 [some (.ref a0), some (.ref a1)] [] mx_S f g _
  unfold g_X1_swallow at hg
  refine ev_aload_n (q := 1) dX1_swallow_0 rfl rfl ?_
  refine ev_bipush (v := 40) (q := 3) dX1_swallow_1 mcb_40 rfl ?_
  refine ev_aload_n (q := 4) dX1_swallow_3 rfl rfl ?_
  refine ev_getfI (q := 7) mw_f_RX1_21 (by decide) (by decide) (mx_C h0) dX1_swallow_4 rfl ?_
  refine ev_aload_n (q := 8) dX1_swallow_7 rfl rfl ?_
  refine ev_getfI (q := 11) mw_f_RX1_21 (by decide) (by decide) (mx_C h1) dX1_swallow_8 rfl ?_
  refine ev_iadd (q := 12) dX1_swallow_11 rfl ?_
  refine ev_mmin (q := 15) mw_m_RX1_51 mw_t_min mw_ini_math mw_c_min (Nat.le_of_ble_eq_true rfl) (by decide) dX1_swallow_12 rfl ?_
  refine ev_putfI (q := 18) mw_f_RX1_21 (mx_C h0) dX1_swallow_15 rfl ?_
  refine ev_nmf (fun f_1 hf_1 => ?_)
  have hg := mj_lt_el hf_1 hg
  refine ev_aload_n (q := 19) dX1_swallow_18 rfl rfl ?_
  refine ev_iconst (v := 0) (q := 20) dX1_swallow_19 mci_0 rfl ?_
  refine ev_putfI (q := 23) mw_f_RX1_21 (mx_C h1) dX1_swallow_20 rfl ?_
  refine ev_nmf (fun f_2 hf_2 => ?_)
  have hg := mj_lt_el hf_2 hg
  refine ev_aload_n (q := 24) dX1_swallow_23 rfl rfl ?_
  refine ev_iconst (v := 1) (q := 25) dX1_swallow_24 mci_1 rfl ?_
  refine ev_putfZ (q := 28) mw_f_RX1_24 (mx_C h1) (mcz_1) dX1_swallow_25 rfl ?_
  refine ev_nmf (fun f_3 hf_3 => ?_)
  have hg := mj_lt_el hf_3 hg
  subst hg
  exact ev_vret dX1_swallow_28 rfl ⟨rfl, rfl, rfl⟩
def g_X1_pouring (a0 : Nat) (x1 : Int32) (f : mj_I) : Int32 :=
  if (f a0 0) = (1 : Int32) then
   if x1 = (1 : Int32) then
    if (f a0 5) = 0 then
     (0 : Int32)
    else
     (1 : Int32)
   else
    (0 : Int32)
  else
   if (f a0 0) = (2 : Int32) then
    (0 : Int32)
   else
    if (f a0 0) = (3 : Int32) then
     (2 : Int32)
    else
     if (f a0 0) = (4 : Int32) then
      if (f a0 2) = 0 then
       (1 : Int32)
      else
       (0 : Int32)
     else
      if (f a0 0) = (5 : Int32) then
       if (f a0 2) = 0 then
        (1 : Int32)
       else
        (0 : Int32)
      else
       (0 : Int32)
theorem r_X1_pouring {a0 : Nat} {x1 : Int32} {f : mj_I} {g : mj_L} {o : Int32} (h0 : mx_isC a0) (hg : g_X1_pouring a0 x1 f = o) : mj_Sp jX1_pouring mx_S [.ref a0, .int x1] f g (fun v f' g' => some (.int o) = v ∧ f = f' ∧ g = g') := by
  refine mj_sp 0 (by decide +kernel) rfl rfl (fun _ _ => Nat.le_of_ble_eq_true rfl) ?_
  show mj_Ev jX1_pouring 0 [some (.ref a0), some (.int x1)] [] mx_S f g _
  unfold g_X1_pouring at hg
  refine ev_aload_n (q := 1) dX1_pouring_0 rfl rfl ?_
  refine ev_getfI (q := 4) mw_f_RX1_9 (by decide) (by decide) (mx_C h0) dX1_pouring_1 rfl ?_
  rcases mj_ite hg with ⟨hx_1_0, hg⟩ | ⟨hx_1_0, hg⟩
  · refine ev_tabIn (v := 1) (off := 36) (q := 40) hx_1_0 dX1_pouring_4 (by decide) (by decide) rfl rfl ?_
    refine ev_iload_n (q := 41) dX1_pouring_40 rfl rfl ?_
    refine ev_iconst (v := 1) (q := 42) dX1_pouring_41 mci_1 rfl ?_
    refine ev_icmp_ne (t := 56) (q := 45) dX1_pouring_42 rfl rfl hg (fun hg => ?_) (fun hg => ?_)
    · refine ev_aload_n (q := 46) dX1_pouring_45 rfl rfl ?_
      refine ev_getfI (q := 49) mw_f_RX1_28 (by decide) (by decide) (mx_C h0) dX1_pouring_46 rfl ?_
      refine ev_if_eq (t := 56) (q := 52) dX1_pouring_49 rfl rfl hg (fun hg => ?_) (fun hg => ?_)
      · refine ev_iconst (v := 0) (q := 57) dX1_pouring_56 mci_0 rfl ?_
        subst hg
        exact ev_iret dX1_pouring_57 rfl ⟨rfl, rfl, rfl⟩
      · refine ev_iconst (v := 1) (q := 53) dX1_pouring_52 mci_1 rfl ?_
        refine ev_goto (q := 57) dX1_pouring_53 rfl ?_
        subst hg
        exact ev_iret dX1_pouring_57 rfl ⟨rfl, rfl, rfl⟩
    · refine ev_iconst (v := 0) (q := 57) dX1_pouring_56 mci_0 rfl ?_
      subst hg
      exact ev_iret dX1_pouring_57 rfl ⟨rfl, rfl, rfl⟩
  · rcases mj_ite hg with ⟨hx_1_1, hg⟩ | ⟨hx_1_1, hg⟩
    · refine ev_tabIn (v := 2) (off := 69) (q := 73) hx_1_1 dX1_pouring_4 (by decide) (by decide) rfl rfl ?_
      refine ev_iconst (v := 0) (q := 74) dX1_pouring_73 mci_0 rfl ?_
      subst hg
      exact ev_iret dX1_pouring_74 rfl ⟨rfl, rfl, rfl⟩
    · rcases mj_ite hg with ⟨hx_1_2, hg⟩ | ⟨hx_1_2, hg⟩
      · refine ev_tabIn (v := 3) (off := 54) (q := 58) hx_1_2 dX1_pouring_4 (by decide) (by decide) rfl rfl ?_
        refine ev_iconst (v := 2) (q := 59) dX1_pouring_58 mci_2 rfl ?_
        subst hg
        exact ev_iret dX1_pouring_59 rfl ⟨rfl, rfl, rfl⟩
      · rcases mj_ite hg with ⟨hx_1_3, hg⟩ | ⟨hx_1_3, hg⟩
        · refine ev_tabIn (v := 4) (off := 56) (q := 60) hx_1_3 dX1_pouring_4 (by decide) (by decide) rfl rfl ?_
          refine ev_aload_n (q := 61) dX1_pouring_60 rfl rfl ?_
          refine ev_getfI (q := 64) mw_f_RX1_18 (by decide) (by decide) (mx_C h0) dX1_pouring_61 rfl ?_
          refine ev_if_ne (t := 71) (q := 67) dX1_pouring_64 rfl rfl hg (fun hg => ?_) (fun hg => ?_)
          · refine ev_iconst (v := 1) (q := 68) dX1_pouring_67 mci_1 rfl ?_
            refine ev_goto (q := 72) dX1_pouring_68 rfl ?_
            subst hg
            exact ev_iret dX1_pouring_72 rfl ⟨rfl, rfl, rfl⟩
          · refine ev_iconst (v := 0) (q := 72) dX1_pouring_71 mci_0 rfl ?_
            subst hg
            exact ev_iret dX1_pouring_72 rfl ⟨rfl, rfl, rfl⟩
        · rcases mj_ite hg with ⟨hx_1_4, hg⟩ | ⟨hx_1_4, hg⟩
          · refine ev_tabIn (v := 5) (off := 56) (q := 60) hx_1_4 dX1_pouring_4 (by decide) (by decide) rfl rfl ?_
            refine ev_aload_n (q := 61) dX1_pouring_60 rfl rfl ?_
            refine ev_getfI (q := 64) mw_f_RX1_18 (by decide) (by decide) (mx_C h0) dX1_pouring_61 rfl ?_
            refine ev_if_ne (t := 71) (q := 67) dX1_pouring_64 rfl rfl hg (fun hg => ?_) (fun hg => ?_)
            · refine ev_iconst (v := 1) (q := 68) dX1_pouring_67 mci_1 rfl ?_
              refine ev_goto (q := 72) dX1_pouring_68 rfl ?_
              subst hg
              exact ev_iret dX1_pouring_72 rfl ⟨rfl, rfl, rfl⟩
            · refine ev_iconst (v := 0) (q := 72) dX1_pouring_71 mci_0 rfl ?_
              subst hg
              exact ev_iret dX1_pouring_72 rfl ⟨rfl, rfl, rfl⟩
          · refine ev_tabOut (q := 73) dX1_pouring_4 (by have e0 := lv_neT (a := 1) hx_1_0 (by decide); have e1 := lv_neT (a := 2) hx_1_1 (by decide); have e2 := lv_neT (a := 3) hx_1_2 (by decide); have e3 := lv_neT (a := 4) hx_1_3 (by decide); have e4 := lv_neT (a := 5) hx_1_4 (by decide); omega) rfl ?_
            refine ev_iconst (v := 0) (q := 74) dX1_pouring_73 mci_0 rfl ?_
            subst hg
            exact ev_iret dX1_pouring_74 rfl ⟨rfl, rfl, rfl⟩
def g_X1_rainOver (a0 : Nat) (x1 : Int32) (f : mj_I) : mj_I :=
  mj_lt (mj_wr f a0 6 (if (g_X1_pouring a0 x1 f) < (f a0 3) then (g_X1_pouring a0 x1 f) else (f a0 3))) (fun f_2 =>
  mj_lt (mj_wr f_2 a0 3 ((f_2 a0 3) - (f_2 a0 6))) (fun f_3 =>
  f_3))
theorem r_X1_rainOver {a0 : Nat} {x1 : Int32} {f : mj_I} {g : mj_L} {o : mj_I} (h0 : mx_isC a0) (hg : g_X1_rainOver a0 x1 f = o) : mj_Sp jX1_rainOver mx_S [.ref a0, .int x1] f g (fun v f' g' => none = v ∧ o = f' ∧ g = g') := by
  refine mj_sp 0 (by decide +kernel) rfl rfl (fun _ _ => Nat.le_of_ble_eq_true rfl) ?_
  show mj_Ev jX1_rainOver 0 [some (.ref a0), some (.int x1)] [] mx_S f g _
  unfold g_X1_rainOver at hg
  refine ev_aload_n (q := 1) dX1_rainOver_0 rfl rfl ?_
  refine ev_aload_n (q := 2) dX1_rainOver_1 rfl rfl ?_
  refine ev_getfI (q := 5) mw_f_RX1_21 (by decide) (by decide) (mx_C h0) dX1_rainOver_2 rfl ?_
  refine ev_aload_n (q := 6) dX1_rainOver_5 rfl rfl ?_
  refine ev_iload_n (q := 7) dX1_rainOver_6 rfl rfl ?_
  refine ev_callV (q := 10) kX1_pouring mw_i_X1_pouring mw_s_X1_pouring mw_m_RX1_54 (mx_C h0) rfl (r_X1_pouring h0 rfl) rfl rfl (Nat.le_of_ble_eq_true rfl) (by decide) dX1_rainOver_7 rfl (fun v fv gv hp => ?_)
  obtain ⟨rfl, rfl, rfl⟩ := hp
  refine ev_mmin (q := 13) mw_m_RX1_51 mw_t_min mw_ini_math mw_c_min (Nat.le_of_ble_eq_true rfl) (by decide) dX1_rainOver_10 rfl ?_
  refine ev_putfI (q := 16) mw_f_RX1_31 (mx_C h0) dX1_rainOver_13 rfl ?_
  refine ev_nmf (fun f_2 hf_2 => ?_)
  have hg := mj_lt_el hf_2 hg
  refine ev_aload_n (q := 17) dX1_rainOver_16 rfl rfl ?_
  refine ev_dup (q := 18) dX1_rainOver_17 rfl rfl ?_
  refine ev_getfI (q := 21) mw_f_RX1_21 (by decide) (by decide) (mx_C h0) dX1_rainOver_18 rfl ?_
  refine ev_aload_n (q := 22) dX1_rainOver_21 rfl rfl ?_
  refine ev_getfI (q := 25) mw_f_RX1_31 (by decide) (by decide) (mx_C h0) dX1_rainOver_22 rfl ?_
  refine ev_isub (q := 26) dX1_rainOver_25 rfl ?_
  refine ev_putfI (q := 29) mw_f_RX1_21 (mx_C h0) dX1_rainOver_26 rfl ?_
  refine ev_nmf (fun f_3 hf_3 => ?_)
  have hg := mj_lt_el hf_3 hg
  subst hg
  exact ev_vret dX1_rainOver_29 rfl ⟨rfl, rfl, rfl⟩
def g_X2_begin_32 : Nat → Nat → Int32 → mj_I → Option (mj_I)
  | 0, _, _, _ => none
  | n + 1, a0, x1, f =>
    if x1 < (32 : Int32) then
     if mj_in x1 32 = true then
     mj_lt (mj_wr f (a0 + 2) (ix x1) (0 : Int32)) (fun f_8 =>
      g_X2_begin_32 n a0 (x1 + (1 : Int32)) f_8)
     else none
    else
     some (f)
theorem r_X2_begin_32 {g : mj_L} {post : Option Value → mj_I → mj_L → Prop} : ∀ (n : Nat) (a0 : Nat) (x1 : Int32) (f : mj_I) (o : mj_I), mx_isH a0 → g_X2_begin_32 n a0 x1 f = some o → mj_Ev jX2_begin 51 [none, none] [] mx_S o g post → mj_Ev jX2_begin 32 [some (.ref a0), some (.int x1)] [] mx_S f g post := by
  intro n
  induction n with
  | zero =>
    intro a0 x1 f o h0 hg hk
    cases hg
  | succ n ih =>
    intro a0 x1 f o h0 hg hk
    unfold g_X2_begin_32 at hg
    refine ev_iload_n (q := 33) dX2_begin_32 rfl rfl ?_
    refine ev_bipush (v := 32) (q := 35) dX2_begin_33 mcb_32 rfl ?_
    refine ev_icmp_ge (t := 51) (q := 38) dX2_begin_35 rfl rfl hg (fun hg => ?_) (fun hg => ?_)
    · refine ev_aload_n (q := 39) dX2_begin_38 rfl rfl ?_
      refine ev_getfR (q := 42) mw_f_RX2_41 (mx_H h0) rfl dX2_begin_39 rfl ?_
      refine ev_iload_n (q := 43) dX2_begin_42 rfl rfl ?_
      refine ev_iconst (v := 0) (q := 44) dX2_begin_43 mci_0 rfl ?_
      obtain ⟨hi_8, hg⟩ := mj_gd hg
      refine ev_iastk (q := 45) (mx_HP h0) hi_8 rfl dX2_begin_44 rfl ?_
      refine ev_nmf (fun f_8 hf_8 => ?_)
      have hg := mj_lt_el hf_8 hg
      refine ev_iinc (v := 1) (q := 48) (loc' := [some (.ref _), some (.int _)]) dX2_begin_45 rfl (by decide) mci_1 rfl rfl ?_
      refine ev_goto (q := 32) dX2_begin_48 rfl ?_
      exact ih _ _ _ _ h0 hg hk
    · obtain rfl := Option.some.inj hg
      refine ev_wk (loc' := [none, none]) trivial ?_
      exact hk
def g_X2_begin (a0 : Nat) (f : mj_I) : Option (mj_I) :=
  mj_lt (mj_wr f a0 0 (1 : Int32)) (fun f_1 =>
  mj_lt (mj_wr f_1 a0 3 (0 : Int32)) (fun f_2 =>
  mj_lt (mj_wr f_2 a0 4 (0 : Int32)) (fun f_3 =>
  mj_lt (mj_wr f_3 a0 5 (0 : Int32)) (fun f_4 =>
  mj_lt (mj_wr f_4 a0 6 (0 : Int32)) (fun f_5 =>
  mj_lt (mj_wr f_5 a0 7 (0 : Int32)) (fun f_6 =>
  (g_X2_begin_32 mj_fuel a0 (0 : Int32) f_6).bind (fun q_7 =>
  some (q_7))))))))
theorem r_X2_begin {a0 : Nat} {f : mj_I} {g : mj_L} {o : mj_I} (h0 : mx_isH a0) (hg : g_X2_begin a0 f = some o) : mj_Sp jX2_begin mx_S [.ref a0] f g (fun v f' g' => none = v ∧ o = f' ∧ g = g') := by
  refine mj_sp 1 (by decide +kernel) rfl rfl (fun _ _ => Nat.le_of_ble_eq_true rfl) ?_
  show mj_Ev jX2_begin 0 [some (.ref a0), none] [] mx_S f g _
  unfold g_X2_begin at hg
  refine ev_aload_n (q := 1) dX2_begin_0 rfl rfl ?_
  refine ev_iconst (v := 1) (q := 2) dX2_begin_1 mci_1 rfl ?_
  refine ev_putfZ (q := 5) mw_f_RX2_9 (mx_H h0) (mcz_1) dX2_begin_2 rfl ?_
  refine ev_nmf (fun f_1 hf_1 => ?_)
  have hg := mj_lt_el hf_1 hg
  refine ev_aload_n (q := 6) dX2_begin_5 rfl rfl ?_
  refine ev_iconst (v := 0) (q := 7) dX2_begin_6 mci_0 rfl ?_
  refine ev_putfI (q := 10) mw_f_RX2_22 (mx_H h0) dX2_begin_7 rfl ?_
  refine ev_nmf (fun f_2 hf_2 => ?_)
  have hg := mj_lt_el hf_2 hg
  refine ev_aload_n (q := 11) dX2_begin_10 rfl rfl ?_
  refine ev_iconst (v := 0) (q := 12) dX2_begin_11 mci_0 rfl ?_
  refine ev_putfI (q := 15) mw_f_RX2_25 (mx_H h0) dX2_begin_12 rfl ?_
  refine ev_nmf (fun f_3 hf_3 => ?_)
  have hg := mj_lt_el hf_3 hg
  refine ev_aload_n (q := 16) dX2_begin_15 rfl rfl ?_
  refine ev_iconst (v := 0) (q := 17) dX2_begin_16 mci_0 rfl ?_
  refine ev_putfI (q := 20) mw_f_RX2_28 (mx_H h0) dX2_begin_17 rfl ?_
  refine ev_nmf (fun f_4 hf_4 => ?_)
  have hg := mj_lt_el hf_4 hg
  refine ev_aload_n (q := 21) dX2_begin_20 rfl rfl ?_
  refine ev_iconst (v := 0) (q := 22) dX2_begin_21 mci_0 rfl ?_
  refine ev_putfI (q := 25) mw_f_RX2_31 (mx_H h0) dX2_begin_22 rfl ?_
  refine ev_nmf (fun f_5 hf_5 => ?_)
  have hg := mj_lt_el hf_5 hg
  refine ev_aload_n (q := 26) dX2_begin_25 rfl rfl ?_
  refine ev_iconst (v := 0) (q := 27) dX2_begin_26 mci_0 rfl ?_
  refine ev_putfI (q := 30) mw_f_RX2_34 (mx_H h0) dX2_begin_27 rfl ?_
  refine ev_nmf (fun f_6 hf_6 => ?_)
  have hg := mj_lt_el hf_6 hg
  refine ev_iconst (v := 0) (q := 31) dX2_begin_30 mci_0 rfl ?_
  refine ev_istore_n (q := 32) (loc' := [some (.ref _), some (.int _)]) dX2_begin_31 (by decide) rfl rfl ?_
  obtain ⟨q_7, hq_7, hg⟩ := mj_bd hg
  refine r_X2_begin_32 mj_fuel _ _ _ _ h0 hq_7 ?_
  obtain rfl := Option.some.inj hg
  exact ev_vret dX2_begin_51 rfl ⟨rfl, rfl, rfl⟩
def g_X2_become_96 : Nat → Nat → Nat → Int32 → mj_I → Option (mj_I)
  | 0, _, _, _, _ => none
  | n + 1, a0, a1, x2, f =>
    if x2 < (5 : Int32) then
     if mj_in x2 5 = true then
     if mj_in x2 5 = true then
      (g_X1_become (a0 + 4 + (ix x2)) (a1 + 4 + (ix x2)) f).bind (fun o_14 =>
       g_X2_become_96 n a0 a1 (x2 + (1 : Int32)) o_14)
      else none
     else none
    else
     some (f)
theorem r_X2_become_96 {g : mj_L} {post : Option Value → mj_I → mj_L → Prop} : ∀ (n : Nat) (a0 : Nat) (a1 : Nat) (x2 : Int32) (f : mj_I) (o : mj_I), mx_isH a0 → mx_isH a1 → g_X2_become_96 n a0 a1 x2 f = some o → mj_Ev jX2_become 122 [none, none, none] [] mx_S o g post → mj_Ev jX2_become 96 [some (.ref a0), some (.ref a1), some (.int x2)] [] mx_S f g post := by
  intro n
  induction n with
  | zero =>
    intro a0 a1 x2 f o h0 h1 hg hk
    cases hg
  | succ n ih =>
    intro a0 a1 x2 f o h0 h1 hg hk
    unfold g_X2_become_96 at hg
    refine ev_iload_n (q := 97) dX2_become_96 rfl rfl ?_
    refine ev_iconst (v := 5) (q := 98) dX2_become_97 mci_5 rfl ?_
    refine ev_icmp_ge (t := 122) (q := 101) dX2_become_98 rfl rfl hg (fun hg => ?_) (fun hg => ?_)
    · refine ev_aload_n (q := 102) dX2_become_101 rfl rfl ?_
      refine ev_getfR (q := 105) mw_f_RX2_46 (mx_H h0) rfl dX2_become_102 rfl ?_
      refine ev_iload_n (q := 106) dX2_become_105 rfl rfl ?_
      obtain ⟨hi_12, hg⟩ := mj_gd hg
      refine ev_aald (kd := 0) (q := 107) (mx_HC h0) (by decide) hi_12 (mx_cr_get hi_12) dX2_become_106 rfl ?_
      refine ev_aload_n (q := 108) dX2_become_107 rfl rfl ?_
      refine ev_getfR (q := 111) mw_f_RX2_46 (mx_H h1) rfl dX2_become_108 rfl ?_
      refine ev_iload_n (q := 112) dX2_become_111 rfl rfl ?_
      obtain ⟨hi_13, hg⟩ := mj_gd hg
      refine ev_aald (kd := 0) (q := 113) (mx_HC h1) (by decide) hi_13 (mx_cr_get hi_13) dX2_become_112 rfl ?_
      obtain ⟨o_14, ho_14, hg⟩ := mj_bd hg
      refine ev_callV (q := 116) kX1_become mw_i_X1_become mw_s_X1_become mw_m_RX2_63 (mx_C (mx_isC_of h0 hi_12)) rfl (r_X1_become (mx_isC_of h0 hi_12) (mx_isC_of h1 hi_13) ho_14) rfl rfl (Nat.le_of_ble_eq_true rfl) (by decide) dX2_become_113 rfl (fun v fv gv hp => ?_)
      obtain ⟨rfl, rfl, rfl⟩ := hp
      refine ev_iinc (v := 1) (q := 119) (loc' := [some (.ref _), some (.ref _), some (.int _)]) dX2_become_116 rfl (by decide) mci_1 rfl rfl ?_
      refine ev_goto (q := 96) dX2_become_119 rfl ?_
      exact ih _ _ _ _ _ h0 h1 hg hk
    · obtain rfl := Option.some.inj hg
      refine ev_wk (loc' := [none, none, none]) trivial ?_
      exact hk
def g_X2_become (a0 : Nat) (a1 : Nat) (f : mj_I) : Option (mj_I) :=
  if mj_b (f a1 0) = true then
  mj_lt (mj_wr f a0 0 (f a1 0)) (fun f_1 =>
   mj_lt (mj_wr f_1 a0 1 (f_1 a1 1)) (fun f_2 =>
   mj_lt (mj_wr f_2 a0 2 (f_2 a1 2)) (fun f_3 =>
   mj_lt (mj_wr f_3 a0 3 (f_3 a1 3)) (fun f_4 =>
   mj_lt (mj_wr f_4 a0 4 (f_4 a1 4)) (fun f_5 =>
   mj_lt (mj_wr f_5 a0 5 (f_5 a1 5)) (fun f_6 =>
   mj_lt (mj_wr f_6 a0 6 (f_6 a1 6)) (fun f_7 =>
   mj_lt (mj_wr f_7 a0 7 (f_7 a1 7)) (fun f_8 =>
   if mj_cpok (0 : Int32) (0 : Int32) (12 : Int32) 12 12 = true then
   mj_lt (mj_cp f_8 (a1 + 1) (ix (0 : Int32)) (a0 + 1) (ix (0 : Int32)) (ix (12 : Int32))) (fun f_9 =>
    if mj_cpok (0 : Int32) (0 : Int32) (32 : Int32) 32 32 = true then
    mj_lt (mj_cp f_9 (a1 + 2) (ix (0 : Int32)) (a0 + 2) (ix (0 : Int32)) (ix (32 : Int32))) (fun f_10 =>
     (g_X2_become_96 mj_fuel a0 a1 (0 : Int32) f_10).bind (fun q_11 =>
     some (q_11)))
    else none)
   else none))))))))
  else none
theorem r_X2_become {a0 : Nat} {a1 : Nat} {f : mj_I} {g : mj_L} {o : mj_I} (h0 : mx_isH a0) (h1 : mx_isH a1) (hg : g_X2_become a0 a1 f = some o) : mj_Sp jX2_become mx_S [.ref a0, .ref a1] f g (fun v f' g' => none = v ∧ o = f' ∧ g = g') := by
  refine mj_sp 1 (by decide +kernel) rfl rfl (fun _ _ => Nat.le_of_ble_eq_true rfl) ?_
  show mj_Ev jX2_become 0 [some (.ref a0), some (.ref a1), none] [] mx_S f g _
  unfold g_X2_become at hg
  refine ev_aload_n (q := 1) dX2_become_0 rfl rfl ?_
  refine ev_aload_n (q := 2) dX2_become_1 rfl rfl ?_
  refine ev_getfI (q := 5) mw_f_RX2_9 (by decide) (by decide) (mx_H h1) dX2_become_2 rfl ?_
  obtain ⟨hb_1, hg⟩ := mj_gd hg
  refine ev_putfZ (q := 8) mw_f_RX2_9 (mx_H h0) hb_1 dX2_become_5 rfl ?_
  refine ev_nmf (fun f_1 hf_1 => ?_)
  have hg := mj_lt_el hf_1 hg
  refine ev_aload_n (q := 9) dX2_become_8 rfl rfl ?_
  refine ev_aload_n (q := 10) dX2_become_9 rfl rfl ?_
  refine ev_getfI (q := 13) mw_f_RX2_15 (by decide) (by decide) (mx_H h1) dX2_become_10 rfl ?_
  refine ev_putfI (q := 16) mw_f_RX2_15 (mx_H h0) dX2_become_13 rfl ?_
  refine ev_nmf (fun f_2 hf_2 => ?_)
  have hg := mj_lt_el hf_2 hg
  refine ev_aload_n (q := 17) dX2_become_16 rfl rfl ?_
  refine ev_aload_n (q := 18) dX2_become_17 rfl rfl ?_
  refine ev_getfI (q := 21) mw_f_RX2_19 (by decide) (by decide) (mx_H h1) dX2_become_18 rfl ?_
  refine ev_putfI (q := 24) mw_f_RX2_19 (mx_H h0) dX2_become_21 rfl ?_
  refine ev_nmf (fun f_3 hf_3 => ?_)
  have hg := mj_lt_el hf_3 hg
  refine ev_aload_n (q := 25) dX2_become_24 rfl rfl ?_
  refine ev_aload_n (q := 26) dX2_become_25 rfl rfl ?_
  refine ev_getfI (q := 29) mw_f_RX2_22 (by decide) (by decide) (mx_H h1) dX2_become_26 rfl ?_
  refine ev_putfI (q := 32) mw_f_RX2_22 (mx_H h0) dX2_become_29 rfl ?_
  refine ev_nmf (fun f_4 hf_4 => ?_)
  have hg := mj_lt_el hf_4 hg
  refine ev_aload_n (q := 33) dX2_become_32 rfl rfl ?_
  refine ev_aload_n (q := 34) dX2_become_33 rfl rfl ?_
  refine ev_getfI (q := 37) mw_f_RX2_25 (by decide) (by decide) (mx_H h1) dX2_become_34 rfl ?_
  refine ev_putfI (q := 40) mw_f_RX2_25 (mx_H h0) dX2_become_37 rfl ?_
  refine ev_nmf (fun f_5 hf_5 => ?_)
  have hg := mj_lt_el hf_5 hg
  refine ev_aload_n (q := 41) dX2_become_40 rfl rfl ?_
  refine ev_aload_n (q := 42) dX2_become_41 rfl rfl ?_
  refine ev_getfI (q := 45) mw_f_RX2_28 (by decide) (by decide) (mx_H h1) dX2_become_42 rfl ?_
  refine ev_putfI (q := 48) mw_f_RX2_28 (mx_H h0) dX2_become_45 rfl ?_
  refine ev_nmf (fun f_6 hf_6 => ?_)
  have hg := mj_lt_el hf_6 hg
  refine ev_aload_n (q := 49) dX2_become_48 rfl rfl ?_
  refine ev_aload_n (q := 50) dX2_become_49 rfl rfl ?_
  refine ev_getfI (q := 53) mw_f_RX2_31 (by decide) (by decide) (mx_H h1) dX2_become_50 rfl ?_
  refine ev_putfI (q := 56) mw_f_RX2_31 (mx_H h0) dX2_become_53 rfl ?_
  refine ev_nmf (fun f_7 hf_7 => ?_)
  have hg := mj_lt_el hf_7 hg
  refine ev_aload_n (q := 57) dX2_become_56 rfl rfl ?_
  refine ev_aload_n (q := 58) dX2_become_57 rfl rfl ?_
  refine ev_getfI (q := 61) mw_f_RX2_34 (by decide) (by decide) (mx_H h1) dX2_become_58 rfl ?_
  refine ev_putfI (q := 64) mw_f_RX2_34 (mx_H h0) dX2_become_61 rfl ?_
  refine ev_nmf (fun f_8 hf_8 => ?_)
  have hg := mj_lt_el hf_8 hg
  refine ev_aload_n (q := 65) dX2_become_64 rfl rfl ?_
  refine ev_getfR (q := 68) mw_f_RX2_37 (mx_H h1) rfl dX2_become_65 rfl ?_
  refine ev_iconst (v := 0) (q := 69) dX2_become_68 mci_0 rfl ?_
  refine ev_aload_n (q := 70) dX2_become_69 rfl rfl ?_
  refine ev_getfR (q := 73) mw_f_RX2_37 (mx_H h0) rfl dX2_become_70 rfl ?_
  refine ev_iconst (v := 0) (q := 74) dX2_become_73 mci_0 rfl ?_
  refine ev_bipush (v := 12) (q := 76) dX2_become_74 mcb_12 rfl ?_
  obtain ⟨hc_9, hg⟩ := mj_gd hg
  refine ev_acopy (q := 79) mw_m_RX2_57 mw_nat mw_nat_t mw_ini_sys (mx_HW h1) (mx_HW h0) hc_9 (Nat.le_of_ble_eq_true rfl) (by decide) dX2_become_76 rfl ?_
  refine ev_nmf (fun f_9 hf_9 => ?_)
  have hg := mj_lt_el hf_9 hg
  refine ev_aload_n (q := 80) dX2_become_79 rfl rfl ?_
  refine ev_getfR (q := 83) mw_f_RX2_41 (mx_H h1) rfl dX2_become_80 rfl ?_
  refine ev_iconst (v := 0) (q := 84) dX2_become_83 mci_0 rfl ?_
  refine ev_aload_n (q := 85) dX2_become_84 rfl rfl ?_
  refine ev_getfR (q := 88) mw_f_RX2_41 (mx_H h0) rfl dX2_become_85 rfl ?_
  refine ev_iconst (v := 0) (q := 89) dX2_become_88 mci_0 rfl ?_
  refine ev_bipush (v := 32) (q := 91) dX2_become_89 mcb_32 rfl ?_
  obtain ⟨hc_10, hg⟩ := mj_gd hg
  refine ev_acopy (q := 94) mw_m_RX2_57 mw_nat mw_nat_t mw_ini_sys (mx_HP h1) (mx_HP h0) hc_10 (Nat.le_of_ble_eq_true rfl) (by decide) dX2_become_91 rfl ?_
  refine ev_nmf (fun f_10 hf_10 => ?_)
  have hg := mj_lt_el hf_10 hg
  refine ev_iconst (v := 0) (q := 95) dX2_become_94 mci_0 rfl ?_
  refine ev_istore_n (q := 96) (loc' := [some (.ref _), some (.ref _), some (.int _)]) dX2_become_95 (by decide) rfl rfl ?_
  obtain ⟨q_11, hq_11, hg⟩ := mj_bd hg
  refine r_X2_become_96 mj_fuel _ _ _ _ _ h0 h1 hq_11 ?_
  obtain rfl := Option.some.inj hg
  exact ev_vret dX2_become_122 rfl ⟨rfl, rfl, rfl⟩
def g_X2_blowing (a0 : Nat) (x1 : Int32) (x2 : Int32) (f : mj_I) : Option (Int32) :=
  if mj_in ((x1 * (6 : Int32)) + (x2 - x2 / (6 : Int32) * (6 : Int32))) 12 = true then
  some ((f (a0 + 1) (ix ((x1 * (6 : Int32)) + (x2 - x2 / (6 : Int32) * (6 : Int32))))))
  else none
theorem r_X2_blowing {a0 : Nat} {x1 : Int32} {x2 : Int32} {f : mj_I} {g : mj_L} {o : Int32} (h0 : mx_isH a0) (hg : g_X2_blowing a0 x1 x2 f = some o) : mj_Sp jX2_blowing mx_S [.ref a0, .int x1, .int x2] f g (fun v f' g' => some (.int o) = v ∧ f = f' ∧ g = g') := by
  refine mj_sp 0 (by decide +kernel) rfl rfl (fun _ _ => Nat.le_of_ble_eq_true rfl) ?_
  show mj_Ev jX2_blowing 0 [some (.ref a0), some (.int x1), some (.int x2)] [] mx_S f g _
  unfold g_X2_blowing at hg
  refine ev_aload_n (q := 1) dX2_blowing_0 rfl rfl ?_
  refine ev_getfR (q := 4) mw_f_RX2_37 (mx_H h0) rfl dX2_blowing_1 rfl ?_
  refine ev_iload_n (q := 5) dX2_blowing_4 rfl rfl ?_
  refine ev_bipush (v := 6) (q := 7) dX2_blowing_5 mcb_6 rfl ?_
  refine ev_imul (q := 8) dX2_blowing_7 rfl ?_
  refine ev_iload_n (q := 9) dX2_blowing_8 rfl rfl ?_
  refine ev_bipush (v := 6) (q := 11) dX2_blowing_9 mcb_6 rfl ?_
  refine ev_irem (q := 12) dX2_blowing_11 (by decide) rfl ?_
  refine ev_iadd (q := 13) dX2_blowing_12 rfl ?_
  obtain ⟨hi_1, hg⟩ := mj_gd hg
  refine ev_ialdk (q := 14) (mx_HW h0) hi_1 rfl dX2_blowing_13 rfl ?_
  obtain rfl := Option.some.inj hg
  exact ev_iret dX2_blowing_14 rfl ⟨rfl, rfl, rfl⟩
def g_X2_cloudsOver_4 : Nat → Nat → Int32 → Int32 → Int32 → mj_I → Option (Int32)
  | 0, _, _, _, _, _ => none
  | n + 1, a0, x1, x2, x3, f =>
    if x3 < (f a0 4) then
     if mj_in x3 5 = true then
     if (f (a0 + 4 + (ix x3)) 4) = 0 then
       if mj_in x3 5 = true then
       if (f (a0 + 4 + (ix x3)) 1) = x1 then
         mj_lt ((x2 ||| ((1 : Int32) <<< (x3 &&& 31)))) (fun u_4 =>
         g_X2_cloudsOver_4 n a0 x1 u_4 (x3 + (1 : Int32)) f)
        else
         g_X2_cloudsOver_4 n a0 x1 x2 (x3 + (1 : Int32)) f
       else none
      else
       g_X2_cloudsOver_4 n a0 x1 x2 (x3 + (1 : Int32)) f
     else none
    else
     some (x2)
theorem r_X2_cloudsOver_4 {f : mj_I} {g : mj_L} {post : Option Value → mj_I → mj_L → Prop} : ∀ (n : Nat) (a0 : Nat) (x1 : Int32) (x2 : Int32) (x3 : Int32) (o : Int32), mx_isH a0 → g_X2_cloudsOver_4 n a0 x1 x2 x3 f = some o → mj_Ev jX2_cloudsOver 49 [none, none, some (.int o), none] [] mx_S f g post → mj_Ev jX2_cloudsOver 4 [some (.ref a0), some (.int x1), some (.int x2), some (.int x3)] [] mx_S f g post := by
  intro n
  induction n with
  | zero =>
    intro a0 x1 x2 x3 o h0 hg hk
    cases hg
  | succ n ih =>
    intro a0 x1 x2 x3 o h0 hg hk
    unfold g_X2_cloudsOver_4 at hg
    refine ev_iload_n (q := 5) dX2_cloudsOver_4 rfl rfl ?_
    refine ev_aload_n (q := 6) dX2_cloudsOver_5 rfl rfl ?_
    refine ev_getfI (q := 9) mw_f_RX2_25 (by decide) (by decide) (mx_H h0) dX2_cloudsOver_6 rfl ?_
    refine ev_icmp_ge (t := 49) (q := 12) dX2_cloudsOver_9 rfl rfl hg (fun hg => ?_) (fun hg => ?_)
    · refine ev_aload_n (q := 13) dX2_cloudsOver_12 rfl rfl ?_
      refine ev_getfR (q := 16) mw_f_RX2_46 (mx_H h0) rfl dX2_cloudsOver_13 rfl ?_
      refine ev_iload_n (q := 17) dX2_cloudsOver_16 rfl rfl ?_
      obtain ⟨hi_2, hg⟩ := mj_gd hg
      refine ev_aald (kd := 0) (q := 18) (mx_HC h0) (by decide) hi_2 (mx_cr_get hi_2) dX2_cloudsOver_17 rfl ?_
      refine ev_getfI (q := 21) mw_f_RX2_67 (by decide) (by decide) (mx_C (mx_isC_of h0 hi_2)) dX2_cloudsOver_18 rfl ?_
      refine ev_if_ne (t := 43) (q := 24) dX2_cloudsOver_21 rfl rfl hg (fun hg => ?_) (fun hg => ?_)
      · refine ev_aload_n (q := 25) dX2_cloudsOver_24 rfl rfl ?_
        refine ev_getfR (q := 28) mw_f_RX2_46 (mx_H h0) rfl dX2_cloudsOver_25 rfl ?_
        refine ev_iload_n (q := 29) dX2_cloudsOver_28 rfl rfl ?_
        obtain ⟨hi_3, hg⟩ := mj_gd hg
        refine ev_aald (kd := 0) (q := 30) (mx_HC h0) (by decide) hi_3 (mx_cr_get hi_3) dX2_cloudsOver_29 rfl ?_
        refine ev_getfI (q := 33) mw_f_RX2_70 (by decide) (by decide) (mx_C (mx_isC_of h0 hi_3)) dX2_cloudsOver_30 rfl ?_
        refine ev_iload_n (q := 34) dX2_cloudsOver_33 rfl rfl ?_
        refine ev_icmp_ne (t := 43) (q := 37) dX2_cloudsOver_34 rfl rfl hg (fun hg => ?_) (fun hg => ?_)
        · refine ev_iload_n (q := 38) dX2_cloudsOver_37 rfl rfl ?_
          refine ev_iconst (v := 1) (q := 39) dX2_cloudsOver_38 mci_1 rfl ?_
          refine ev_iload_n (q := 40) dX2_cloudsOver_39 rfl rfl ?_
          refine ev_ishl (q := 41) dX2_cloudsOver_40 rfl ?_
          refine ev_ior (q := 42) dX2_cloudsOver_41 rfl ?_
          refine ev_nmi (fun u_4 hu_4 => ?_)
          have hg := mj_lt_el hu_4 hg
          refine ev_istore_n (q := 43) (loc' := [some (.ref _), some (.int _), some (.int _), some (.int _)]) dX2_cloudsOver_42 (by decide) rfl rfl ?_
          refine ev_iinc (v := 1) (q := 46) (loc' := [some (.ref _), some (.int _), some (.int _), some (.int _)]) dX2_cloudsOver_43 rfl (by decide) mci_1 rfl rfl ?_
          refine ev_goto (q := 4) dX2_cloudsOver_46 rfl ?_
          exact ih _ _ _ _ _ h0 hg hk
        · refine ev_iinc (v := 1) (q := 46) (loc' := [some (.ref _), some (.int _), some (.int _), some (.int _)]) dX2_cloudsOver_43 rfl (by decide) mci_1 rfl rfl ?_
          refine ev_goto (q := 4) dX2_cloudsOver_46 rfl ?_
          exact ih _ _ _ _ _ h0 hg hk
      · refine ev_iinc (v := 1) (q := 46) (loc' := [some (.ref _), some (.int _), some (.int _), some (.int _)]) dX2_cloudsOver_43 rfl (by decide) mci_1 rfl rfl ?_
        refine ev_goto (q := 4) dX2_cloudsOver_46 rfl ?_
        exact ih _ _ _ _ _ h0 hg hk
    · obtain rfl := Option.some.inj hg
      refine ev_wk (loc' := [none, none, some (.int _), none]) ⟨rfl, trivial⟩ ?_
      exact hk
def g_X2_cloudsOver (a0 : Nat) (x1 : Int32) (f : mj_I) : Option (Int32) :=
  (g_X2_cloudsOver_4 mj_fuel a0 x1 (0 : Int32) (0 : Int32) f).bind (fun q_1 =>
  some (q_1))
theorem r_X2_cloudsOver {a0 : Nat} {x1 : Int32} {f : mj_I} {g : mj_L} {o : Int32} (h0 : mx_isH a0) (hg : g_X2_cloudsOver a0 x1 f = some o) : mj_Sp jX2_cloudsOver mx_S [.ref a0, .int x1] f g (fun v f' g' => some (.int o) = v ∧ f = f' ∧ g = g') := by
  refine mj_sp 2 (by decide +kernel) rfl rfl (fun _ _ => Nat.le_of_ble_eq_true rfl) ?_
  show mj_Ev jX2_cloudsOver 0 [some (.ref a0), some (.int x1), none, none] [] mx_S f g _
  unfold g_X2_cloudsOver at hg
  refine ev_iconst (v := 0) (q := 1) dX2_cloudsOver_0 mci_0 rfl ?_
  refine ev_istore_n (q := 2) (loc' := [some (.ref _), some (.int _), some (.int _), none]) dX2_cloudsOver_1 (by decide) rfl rfl ?_
  refine ev_iconst (v := 0) (q := 3) dX2_cloudsOver_2 mci_0 rfl ?_
  refine ev_istore_n (q := 4) (loc' := [some (.ref _), some (.int _), some (.int _), some (.int _)]) dX2_cloudsOver_3 (by decide) rfl rfl ?_
  obtain ⟨q_1, hq_1, hg⟩ := mj_bd hg
  refine r_X2_cloudsOver_4 mj_fuel _ _ _ _ _ h0 hq_1 ?_
  refine ev_iload_n (q := 50) dX2_cloudsOver_49 rfl rfl ?_
  obtain rfl := Option.some.inj hg
  exact ev_iret dX2_cloudsOver_50 rfl ⟨rfl, rfl, rfl⟩
