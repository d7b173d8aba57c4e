def g_X6_soon_49 : Nat → Int32 → Nat → Int32 → Int32 → mj_I → Option (Int32)
  | 0, _, _, _, _, _ => none
  | n + 1, x2, a3, x4, x5, f =>
    if (24 : Int32) < x5 then
     some ((-1000000 : Int32))
    else
     if ((mj_ushr x4 x2) &&& (1 : Int32)) = 0 then
      (g_X6_spread a3 x4 ((f 4 5) + x5) f).bind (fun o_5 =>
      g_X6_soon_49 n x2 a3 o_5 (x5 + (1 : Int32)) f)
     else
      some (x5)
theorem r_X6_soon_49 {f : mj_I} {g : mj_L} : ∀ (n : Nat) (x2 : Int32) (a3 : Nat) (x4 : Int32) (x5 : Int32) (o : Int32), mx_isC a3 → g_X6_soon_49 n x2 a3 x4 x5 f = some o → mj_Ev jX6_soon 49 [some (.ref 0), none, some (.int x2), some (.ref a3), some (.int x4), some (.int x5)] [] mx_S f g (fun v f' g' => some (.int o) = v ∧ f = f' ∧ g = g') := by
  intro n
  induction n with
  | zero =>
    intro x2 a3 x4 x5 o h3 hg
    cases hg
  | succ n ih =>
    intro x2 a3 x4 x5 o h3 hg
    unfold g_X6_soon_49 at hg
    refine ev_iload (q := 51) dX6_soon_49 rfl rfl ?_
    refine ev_bipush (v := 24) (q := 53) dX6_soon_51 mcb_24 rfl ?_
    refine ev_icmp_gt (t := 93) (q := 56) dX6_soon_53 rfl rfl hg (fun hg => ?_) (fun hg => ?_)
    · refine ev_ldc (q := 95) mw_c_RX6_216 dX6_soon_93 rfl ?_
      obtain rfl := Option.some.inj hg
      exact ev_iret dX6_soon_95 rfl ⟨rfl, rfl, rfl⟩
    · refine ev_iload (q := 58) dX6_soon_56 rfl rfl ?_
      refine ev_iload_n (q := 59) dX6_soon_58 rfl rfl ?_
      refine ev_iushr (q := 60) dX6_soon_59 rfl ?_
      refine ev_iconst (v := 1) (q := 61) dX6_soon_60 mci_1 rfl ?_
      refine ev_iand (q := 62) dX6_soon_61 rfl ?_
      refine ev_if_eq (t := 68) (q := 65) dX6_soon_62 rfl rfl hg (fun hg => ?_) (fun hg => ?_)
      · refine ev_aload_n (q := 69) dX6_soon_68 rfl rfl ?_
        refine ev_aload_n (q := 70) dX6_soon_69 rfl rfl ?_
        refine ev_iload (q := 72) dX6_soon_70 rfl rfl ?_
        refine ev_aload_n (q := 73) dX6_soon_72 rfl rfl ?_
        refine ev_getfR (q := 76) mw_f_RX6_25 rfl rfl dX6_soon_73 rfl ?_
        refine ev_getfI (q := 79) mw_f_RX6_149 (by decide) (by decide) (mx_H mx_isH_4) dX6_soon_76 rfl ?_
        refine ev_iload (q := 81) dX6_soon_79 rfl rfl ?_
        refine ev_iadd (q := 82) dX6_soon_81 rfl ?_
        obtain ⟨o_5, ho_5, hg⟩ := mj_bd hg
        refine ev_callV (q := 85) kX6_spread mw_i_X6_spread mw_s_X6_spread mw_m_RX6_226 rfl rfl (r_X6_spread h3 ho_5) rfl rfl (Nat.le_of_ble_eq_true rfl) (by decide) dX6_soon_82 rfl (fun v fv gv hp => ?_)
        obtain ⟨rfl, rfl, rfl⟩ := hp
        refine ev_istore (q := 87) (loc' := [some (.ref _), none, some (.int _), some (.ref _), some (.int _), some (.int _)]) dX6_soon_85 (by decide) rfl rfl ?_
        refine ev_iinc (v := 1) (q := 90) (loc' := [some (.ref _), none, some (.int _), some (.ref _), some (.int _), some (.int _)]) dX6_soon_87 rfl (by decide) mci_1 rfl rfl ?_
        refine ev_goto (q := 49) dX6_soon_90 rfl ?_
        exact ih _ _ _ _ _ h3 hg
      · refine ev_iload (q := 67) dX6_soon_65 rfl rfl ?_
        obtain rfl := Option.some.inj hg
        exact ev_iret dX6_soon_67 rfl ⟨rfl, rfl, rfl⟩
def g_X6_soon (x1 : Int32) (x2 : Int32) (f : mj_I) : Option (Int32) :=
  if (g_X6_isCloud x1 f) = 0 then
   some ((-1000001 : Int32))
  else
   if (g_X6_isCell x2) = 0 then
    some ((-1000001 : Int32))
   else
    if mj_in x1 5 = true then
    if (f (4 + 4 + (ix x1)) 4) = 0 then
      mj_lt (((1 : Int32) <<< ((f (4 + 4 + (ix x1)) 1) &&& 31))) (fun u_4 =>
      g_X6_soon_49 mj_fuel x2 (4 + 4 + (ix x1)) u_4 (0 : Int32) f)
     else
      some ((-1000002 : Int32))
    else none
theorem r_X6_soon {x1 : Int32} {x2 : Int32} {f : mj_I} {g : mj_L} {o : Int32} (hg : g_X6_soon x1 x2 f = some o) : mj_Sp jX6_soon mx_S [.ref 0, .int x1, .int x2] f g (fun v f' g' => some (.int o) = v ∧ f = f' ∧ g = g') := by
  refine mj_sp 3 (by decide +kernel) rfl rfl (fun _ _ => Nat.le_of_ble_eq_true rfl) ?_
  show mj_Ev jX6_soon 0 [some (.ref 0), some (.int x1), some (.int x2), none, none, none] [] mx_S f g _
  unfold g_X6_soon at hg
  refine ev_aload_n (q := 1) dX6_soon_0 rfl rfl ?_
  refine ev_iload_n (q := 2) dX6_soon_1 rfl rfl ?_
  refine ev_callV (q := 5) kX6_isCloud mw_i_X6_isCloud mw_s_X6_isCloud mw_m_RX6_161 rfl rfl (r_X6_isCloud rfl) rfl rfl (Nat.le_of_ble_eq_true rfl) (by decide) dX6_soon_2 rfl (fun v fv gv hp => ?_)
  obtain ⟨rfl, rfl, rfl, hr_1⟩ := hp
  refine ev_if_eq (t := 15) (q := 8) dX6_soon_5 rfl rfl hg (fun hg => ?_) (fun hg => ?_)
  · refine ev_ldc (q := 17) mw_c_RX6_73 dX6_soon_15 rfl ?_
    obtain rfl := Option.some.inj hg
    exact ev_iret dX6_soon_17 rfl ⟨rfl, rfl, rfl⟩
  · refine ev_iload_n (q := 9) dX6_soon_8 rfl rfl ?_
    refine ev_callS (q := 12) kX6_isCell mw_t_X6_isCell mw_m_RX6_198 (r_X6_isCell rfl) rfl rfl (Nat.le_of_ble_eq_true rfl) (by decide) dX6_soon_9 rfl (fun v fv gv hp => ?_)
    obtain ⟨rfl, rfl, rfl, hr_2⟩ := hp
    refine ev_if_ne (t := 18) (q := 15) dX6_soon_12 rfl rfl hg (fun hg => ?_) (fun hg => ?_)
    · refine ev_ldc (q := 17) mw_c_RX6_73 dX6_soon_15 rfl ?_
      obtain rfl := Option.some.inj hg
      exact ev_iret dX6_soon_17 rfl ⟨rfl, rfl, rfl⟩
    · refine ev_aload_n (q := 19) dX6_soon_18 rfl rfl ?_
      refine ev_getfR (q := 22) mw_f_RX6_25 rfl rfl dX6_soon_19 rfl ?_
      refine ev_getfR (q := 25) mw_f_RX6_164 (mx_H mx_isH_4) rfl dX6_soon_22 rfl ?_
      refine ev_iload_n (q := 26) dX6_soon_25 rfl rfl ?_
      obtain ⟨hi_3, hg⟩ := mj_gd hg
      refine ev_aald (kd := 0) (q := 27) (mx_HC mx_isH_4) (by decide) hi_3 (mx_cr_get hi_3) dX6_soon_26 rfl ?_
      refine ev_astore_n (q := 28) (loc' := [some (.ref _), some (.int _), some (.int _), some (.ref _), none, none]) dX6_soon_27 (by decide) rfl rfl ?_
      refine ev_aload_n (q := 29) dX6_soon_28 rfl rfl ?_
      refine ev_getfI (q := 32) mw_f_RX6_168 (by decide) (by decide) (mx_C (mx_isC_of mx_isH_4 hi_3)) dX6_soon_29 rfl ?_
      refine ev_if_eq (t := 38) (q := 35) dX6_soon_32 rfl rfl hg (fun hg => ?_) (fun hg => ?_)
      · refine ev_iconst (v := 1) (q := 39) dX6_soon_38 mci_1 rfl ?_
        refine ev_aload_n (q := 40) dX6_soon_39 rfl rfl ?_
        refine ev_getfI (q := 43) mw_f_RX6_223 (by decide) (by decide) (mx_C (mx_isC_of mx_isH_4 hi_3)) dX6_soon_40 rfl ?_
        refine ev_ishl (q := 44) dX6_soon_43 rfl ?_
        refine ev_nmi (fun u_4 hu_4 => ?_)
        have hg := mj_lt_el hu_4 hg
        refine ev_istore (q := 46) (loc' := [some (.ref _), some (.int _), some (.int _), some (.ref _), some (.int _), none]) dX6_soon_44 (by decide) rfl rfl ?_
        refine ev_iconst (v := 0) (q := 47) dX6_soon_46 mci_0 rfl ?_
        refine ev_istore (q := 49) (loc' := [some (.ref _), some (.int _), some (.int _), some (.ref _), some (.int _), some (.int _)]) dX6_soon_47 (by decide) rfl rfl ?_
        refine ev_wk (loc' := [some (.ref _), none, some (.int _), some (.ref _), some (.int _), some (.int _)]) ⟨rfl, rfl, rfl, rfl, rfl, trivial⟩ ?_
        exact r_X6_soon_49 mj_fuel _ _ _ _ _ (mx_isC_of mx_isH_4 hi_3) hg
      · refine ev_ldc (q := 37) mw_c_RX6_142 dX6_soon_35 rfl ?_
        obtain rfl := Option.some.inj hg
        exact ev_iret dX6_soon_37 rfl ⟨rfl, rfl, rfl⟩
def g_X6_earnedAt_22 : Nat → Int32 → Int32 → Int32 → Int32 → mj_I → Option (Int32 × mj_I)
  | 0, _, _, _, _, _ => none
  | n + 1, x2, x3, x4, x5, f =>
    if x5 < x2 then
     mj_lt (g_X1_moveTo 22 ((mj_ushr x3 x5) &&& (1 : Int32)) f) (fun o_4 =>
     (g_X2_passAlone 4 22 ((o_4 4 5) + x5) o_4).bind (fun o_5 =>
     mj_lt ((x4 + o_5.1)) (fun u_6 =>
     g_X6_earnedAt_22 n x2 x3 u_6 (x5 + (1 : Int32)) o_5.2)))
    else
     some ((x4, f))
theorem r_X6_earnedAt_22 {g : mj_L} {post : Option Value → mj_I → mj_L → Prop} : ∀ (n : Nat) (x2 : Int32) (x3 : Int32) (x4 : Int32) (x5 : Int32) (f : mj_I) (o : Int32 × mj_I), g_X6_earnedAt_22 n x2 x3 x4 x5 f = some o → mj_Ev jX6_earnedAt 73 [none, none, none, none, some (.int o.1), none] [] mx_S o.2 g post → mj_Ev jX6_earnedAt 22 [some (.ref 0), none, some (.int x2), some (.int x3), some (.int x4), some (.int x5)] [] mx_S f g post := by
  intro n
  induction n with
  | zero =>
    intro x2 x3 x4 x5 f o hg hk
    cases hg
  | succ n ih =>
    intro x2 x3 x4 x5 f o hg hk
    unfold g_X6_earnedAt_22 at hg
    refine ev_iload (q := 24) dX6_earnedAt_22 rfl rfl ?_
    refine ev_iload_n (q := 25) dX6_earnedAt_24 rfl rfl ?_
    refine ev_icmp_ge (t := 73) (q := 28) dX6_earnedAt_25 rfl rfl hg (fun hg => ?_) (fun hg => ?_)
    · refine ev_aload_n (q := 29) dX6_earnedAt_28 rfl rfl ?_
      refine ev_getfR (q := 32) mw_f_RX6_35 rfl rfl dX6_earnedAt_29 rfl ?_
      refine ev_iload_n (q := 33) dX6_earnedAt_32 rfl rfl ?_
      refine ev_iload (q := 35) dX6_earnedAt_33 rfl rfl ?_
      refine ev_iushr (q := 36) dX6_earnedAt_35 rfl ?_
      refine ev_iconst (v := 1) (q := 37) dX6_earnedAt_36 mci_1 rfl ?_
      refine ev_iand (q := 38) dX6_earnedAt_37 rfl ?_
      obtain ⟨o_4, ho_4, hg⟩ := mj_lte hg
      refine ev_callV (q := 41) kX1_moveTo mw_i_X1_moveTo mw_s_X1_moveTo mw_m_RX6_178 (mx_C mx_isC_22) rfl (r_X1_moveTo mx_isC_22 ho_4) rfl rfl (Nat.le_of_ble_eq_true rfl) (by decide) dX6_earnedAt_38 rfl (fun v fv gv hp => ?_)
      obtain ⟨rfl, rfl, rfl⟩ := hp
      refine ev_iload (q := 43) dX6_earnedAt_41 rfl rfl ?_
      refine ev_aload_n (q := 44) dX6_earnedAt_43 rfl rfl ?_
      refine ev_getfR (q := 47) mw_f_RX6_25 rfl rfl dX6_earnedAt_44 rfl ?_
      refine ev_aload_n (q := 48) dX6_earnedAt_47 rfl rfl ?_
      refine ev_getfR (q := 51) mw_f_RX6_35 rfl rfl dX6_earnedAt_48 rfl ?_
      refine ev_aload_n (q := 52) dX6_earnedAt_51 rfl rfl ?_
      refine ev_getfR (q := 55) mw_f_RX6_25 rfl rfl dX6_earnedAt_52 rfl ?_
      refine ev_getfI (q := 58) mw_f_RX6_149 (by decide) (by decide) (mx_H mx_isH_4) dX6_earnedAt_55 rfl ?_
      refine ev_iload (q := 60) dX6_earnedAt_58 rfl rfl ?_
      refine ev_iadd (q := 61) dX6_earnedAt_60 rfl ?_
      obtain ⟨o_5, ho_5, hg⟩ := mj_bd hg
      refine ev_callV (q := 64) kX2_passAlone mw_i_X2_passAlone mw_s_X2_passAlone mw_m_RX6_301 (mx_H mx_isH_4) rfl (r_X2_passAlone mx_isH_4 mx_isC_22 ho_5) rfl rfl (Nat.le_of_ble_eq_true rfl) (by decide) dX6_earnedAt_61 rfl (fun v fv gv hp => ?_)
      obtain ⟨rfl, rfl, rfl⟩ := hp
      refine ev_iadd (q := 65) dX6_earnedAt_64 rfl ?_
      refine ev_nmi (fun u_6 hu_6 => ?_)
      have hg := mj_lt_el hu_6 hg
      refine ev_istore (q := 67) (loc' := [some (.ref _), none, some (.int _), some (.int _), some (.int _), some (.int _)]) dX6_earnedAt_65 (by decide) rfl rfl ?_
      refine ev_iinc (v := 1) (q := 70) (loc' := [some (.ref _), none, some (.int _), some (.int _), some (.int _), some (.int _)]) dX6_earnedAt_67 rfl (by decide) mci_1 rfl rfl ?_
      refine ev_goto (q := 22) dX6_earnedAt_70 rfl ?_
      exact ih _ _ _ _ _ _ hg hk
    · obtain rfl := Option.some.inj hg
      refine ev_wk (loc' := [none, none, none, none, some (.int _), none]) ⟨rfl, trivial⟩ ?_
      exact hk
def g_X6_earnedAt (x1 : Int32) (x2 : Int32) (x3 : Int32) (f : mj_I) : Option (Int32 × mj_I) :=
  if mj_in x1 5 = true then
  (g_X1_become 22 (4 + 4 + (ix x1)) f).bind (fun o_2 =>
   (g_X6_earnedAt_22 mj_fuel x2 x3 (0 : Int32) (0 : Int32) o_2).bind (fun q_3 =>
   some ((q_3.1, q_3.2))))
  else none
theorem r_X6_earnedAt {x1 : Int32} {x2 : Int32} {x3 : Int32} {f : mj_I} {g : mj_L} {o : Int32 × mj_I} (hg : g_X6_earnedAt x1 x2 x3 f = some o) : mj_Sp jX6_earnedAt mx_S [.ref 0, .int x1, .int x2, .int x3] f g (fun v f' g' => some (.int o.1) = v ∧ o.2 = f' ∧ g = g') := by
  refine mj_sp 2 (by decide +kernel) rfl rfl (fun _ _ => Nat.le_of_ble_eq_true rfl) ?_
  show mj_Ev jX6_earnedAt 0 [some (.ref 0), some (.int x1), some (.int x2), some (.int x3), none, none] [] mx_S f g _
  unfold g_X6_earnedAt at hg
  refine ev_iconst (v := 0) (q := 1) dX6_earnedAt_0 mci_0 rfl ?_
  refine ev_istore (q := 3) (loc' := [some (.ref _), some (.int _), some (.int _), some (.int _), some (.int _), none]) dX6_earnedAt_1 (by decide) rfl rfl ?_
  refine ev_aload_n (q := 4) dX6_earnedAt_3 rfl rfl ?_
  refine ev_getfR (q := 7) mw_f_RX6_35 rfl rfl dX6_earnedAt_4 rfl ?_
  refine ev_aload_n (q := 8) dX6_earnedAt_7 rfl rfl ?_
  refine ev_getfR (q := 11) mw_f_RX6_25 rfl rfl dX6_earnedAt_8 rfl ?_
  refine ev_getfR (q := 14) mw_f_RX6_164 (mx_H mx_isH_4) rfl dX6_earnedAt_11 rfl ?_
  refine ev_iload_n (q := 15) dX6_earnedAt_14 rfl rfl ?_
  obtain ⟨hi_1, hg⟩ := mj_gd hg
  refine ev_aald (kd := 0) (q := 16) (mx_HC mx_isH_4) (by decide) hi_1 (mx_cr_get hi_1) dX6_earnedAt_15 rfl ?_
  obtain ⟨o_2, ho_2, hg⟩ := mj_bd hg
  refine ev_callV (q := 19) kX1_become mw_i_X1_become mw_s_X1_become mw_m_RX6_298 (mx_C mx_isC_22) rfl (r_X1_become mx_isC_22 (mx_isC_of mx_isH_4 hi_1) ho_2) rfl rfl (Nat.le_of_ble_eq_true rfl) (by decide) dX6_earnedAt_16 rfl (fun v fv gv hp => ?_)
  obtain ⟨rfl, rfl, rfl⟩ := hp
  refine ev_iconst (v := 0) (q := 20) dX6_earnedAt_19 mci_0 rfl ?_
  refine ev_istore (q := 22) (loc' := [some (.ref _), some (.int _), some (.int _), some (.int _), some (.int _), some (.int _)]) dX6_earnedAt_20 (by decide) rfl rfl ?_
  obtain ⟨q_3, hq_3, hg⟩ := mj_bd hg
  refine ev_wk (loc' := [some (.ref _), none, some (.int _), some (.int _), some (.int _), some (.int _)]) ⟨rfl, rfl, rfl, rfl, rfl, trivial⟩ ?_
  refine r_X6_earnedAt_22 mj_fuel _ _ _ _ _ _ hq_3 ?_
  refine ev_iload (q := 75) dX6_earnedAt_73 rfl rfl ?_
  obtain rfl := Option.some.inj hg
  exact ev_iret dX6_earnedAt_75 rfl ⟨rfl, rfl, rfl⟩
def g_X6_heights_87 : Nat → Int32 → Int32 → Int32 → Int32 → Int32 → Int32 → Int32 → mj_I → Option (Int32 × Int32 × mj_I)
  | 0, _, _, _, _, _, _, _, _ => none
  | n + 1, x1, x2, x3, x4, x5, x6, x7, f =>
    if x7 < x4 then
     (g_X6_earnedAt x1 x2 x7 f).bind (fun o_9 =>
     if x6 < o_9.1 then
      g_X6_heights_87 n x1 x2 x3 x4 x7 o_9.1 (x7 + (1 : Int32)) o_9.2
     else
      g_X6_heights_87 n x1 x2 x3 x4 x5 x6 (x7 + (1 : Int32)) o_9.2)
    else
     some ((x5, x6, f))
theorem r_X6_heights_87 {g : mj_L} {post : Option Value → mj_I → mj_L → Prop} : ∀ (n : Nat) (x1 : Int32) (x2 : Int32) (x3 : Int32) (x4 : Int32) (x5 : Int32) (x6 : Int32) (x7 : Int32) (f : mj_I) (o : Int32 × Int32 × mj_I), g_X6_heights_87 n x1 x2 x3 x4 x5 x6 x7 f = some o → mj_Ev jX6_heights 125 [none, none, none, some (.int x3), none, some (.int o.1), some (.int o.2.1), none, none] [] mx_S o.2.2 g post → mj_Ev jX6_heights 87 [some (.ref 0), some (.int x1), some (.int x2), some (.int x3), some (.int x4), some (.int x5), some (.int x6), some (.int x7), none] [] mx_S f g post := by
  intro n
  induction n with
  | zero =>
    intro x1 x2 x3 x4 x5 x6 x7 f o hg hk
    cases hg
  | succ n ih =>
    intro x1 x2 x3 x4 x5 x6 x7 f o hg hk
    unfold g_X6_heights_87 at hg
    refine ev_iload (q := 89) dX6_heights_87 rfl rfl ?_
    refine ev_iload (q := 91) dX6_heights_89 rfl rfl ?_
    refine ev_icmp_ge (t := 125) (q := 94) dX6_heights_91 rfl rfl hg (fun hg => ?_) (fun hg => ?_)
    · refine ev_aload_n (q := 95) dX6_heights_94 rfl rfl ?_
      refine ev_iload_n (q := 96) dX6_heights_95 rfl rfl ?_
      refine ev_iload_n (q := 97) dX6_heights_96 rfl rfl ?_
      refine ev_iload (q := 99) dX6_heights_97 rfl rfl ?_
      obtain ⟨o_9, ho_9, hg⟩ := mj_bd hg
      refine ev_callV (q := 102) kX6_earnedAt mw_i_X6_earnedAt mw_s_X6_earnedAt mw_m_RX6_230 rfl rfl (r_X6_earnedAt ho_9) rfl rfl (Nat.le_of_ble_eq_true rfl) (by decide) dX6_heights_99 rfl (fun v fv gv hp => ?_)
      obtain ⟨rfl, rfl, rfl⟩ := hp
      refine ev_istore (q := 104) (loc' := [some (.ref _), some (.int _), some (.int _), some (.int _), some (.int _), some (.int _), some (.int _), some (.int _), some (.int _)]) dX6_heights_102 (by decide) rfl rfl ?_
      refine ev_iload (q := 106) dX6_heights_104 rfl rfl ?_
      refine ev_iload (q := 108) dX6_heights_106 rfl rfl ?_
      refine ev_icmp_le (t := 119) (q := 111) dX6_heights_108 rfl rfl hg (fun hg => ?_) (fun hg => ?_)
      · refine ev_iload (q := 113) dX6_heights_111 rfl rfl ?_
        refine ev_istore (q := 115) (loc' := [some (.ref _), some (.int _), some (.int _), some (.int _), some (.int _), some (.int _), some (.int _), some (.int _), some (.int _)]) dX6_heights_113 (by decide) rfl rfl ?_
        refine ev_iload (q := 117) dX6_heights_115 rfl rfl ?_
        refine ev_istore (q := 119) (loc' := [some (.ref _), some (.int _), some (.int _), some (.int _), some (.int _), some (.int _), some (.int _), some (.int _), some (.int _)]) dX6_heights_117 (by decide) rfl rfl ?_
        refine ev_iinc (v := 1) (q := 122) (loc' := [some (.ref _), some (.int _), some (.int _), some (.int _), some (.int _), some (.int _), some (.int _), some (.int _), some (.int _)]) dX6_heights_119 rfl (by decide) mci_1 rfl rfl ?_
        refine ev_goto (q := 87) dX6_heights_122 rfl ?_
        refine ev_wk (loc' := [some (.ref _), some (.int _), some (.int _), some (.int _), some (.int _), some (.int _), some (.int _), some (.int _), none]) ⟨rfl, rfl, rfl, rfl, rfl, rfl, rfl, rfl, trivial⟩ ?_
        exact ih _ _ _ _ _ _ _ _ _ hg hk
      · refine ev_iinc (v := 1) (q := 122) (loc' := [some (.ref _), some (.int _), some (.int _), some (.int _), some (.int _), some (.int _), some (.int _), some (.int _), some (.int _)]) dX6_heights_119 rfl (by decide) mci_1 rfl rfl ?_
        refine ev_goto (q := 87) dX6_heights_122 rfl ?_
        refine ev_wk (loc' := [some (.ref _), some (.int _), some (.int _), some (.int _), some (.int _), some (.int _), some (.int _), some (.int _), none]) ⟨rfl, rfl, rfl, rfl, rfl, rfl, rfl, rfl, trivial⟩ ?_
        exact ih _ _ _ _ _ _ _ _ _ hg hk
    · obtain rfl := Option.some.inj hg
      refine ev_wk (loc' := [none, none, none, some (.int _), none, some (.int _), some (.int _), none, none]) ⟨rfl, rfl, rfl, trivial⟩ ?_
      exact hk
def g_X6_heights_70 (x1 : Int32) (x2 : Int32) (x3 : Int32) (s0 : Int32) (f : mj_I) : Option (Int32 × mj_I) :=
  (g_X6_earnedAt x1 x2 (0 : Int32) f).bind (fun o_7 =>
  (g_X6_heights_87 mj_fuel x1 x2 x3 s0 (0 : Int32) o_7.1 (1 : Int32) o_7.2).bind (fun q_8 =>
  if x3 = 0 then
   some ((q_8.1, q_8.2.2))
  else
   some ((q_8.2.1, q_8.2.2))))
theorem r_X6_heights_70 {g : mj_L} : ∀ (x1 : Int32) (x2 : Int32) (x3 : Int32) (s0 : Int32) (f : mj_I) (o : Int32 × mj_I), g_X6_heights_70 x1 x2 x3 s0 f = some o → mj_Ev jX6_heights 70 [some (.ref 0), some (.int x1), some (.int x2), some (.int x3), none, none, none, none, none] [.int s0] mx_S f g (fun v f' g' => some (.int o.1) = v ∧ o.2 = f' ∧ g = g') := by
  intro x1 x2 x3 s0 f o hg
  unfold g_X6_heights_70 at hg
  refine ev_istore (q := 72) (loc' := [some (.ref _), some (.int _), some (.int _), some (.int _), some (.int _), none, none, none, none]) dX6_heights_70 (by decide) rfl rfl ?_
  refine ev_iconst (v := 0) (q := 73) dX6_heights_72 mci_0 rfl ?_
  refine ev_istore (q := 75) (loc' := [some (.ref _), some (.int _), some (.int _), some (.int _), some (.int _), some (.int _), none, none, none]) dX6_heights_73 (by decide) rfl rfl ?_
  refine ev_aload_n (q := 76) dX6_heights_75 rfl rfl ?_
  refine ev_iload_n (q := 77) dX6_heights_76 rfl rfl ?_
  refine ev_iload_n (q := 78) dX6_heights_77 rfl rfl ?_
  refine ev_iconst (v := 0) (q := 79) dX6_heights_78 mci_0 rfl ?_
  obtain ⟨o_7, ho_7, hg⟩ := mj_bd hg
  refine ev_callV (q := 82) kX6_earnedAt mw_i_X6_earnedAt mw_s_X6_earnedAt mw_m_RX6_230 rfl rfl (r_X6_earnedAt ho_7) rfl rfl (Nat.le_of_ble_eq_true rfl) (by decide) dX6_heights_79 rfl (fun v fv gv hp => ?_)
  obtain ⟨rfl, rfl, rfl⟩ := hp
  refine ev_istore (q := 84) (loc' := [some (.ref _), some (.int _), some (.int _), some (.int _), some (.int _), some (.int _), some (.int _), none, none]) dX6_heights_82 (by decide) rfl rfl ?_
  refine ev_iconst (v := 1) (q := 85) dX6_heights_84 mci_1 rfl ?_
  refine ev_istore (q := 87) (loc' := [some (.ref _), some (.int _), some (.int _), some (.int _), some (.int _), some (.int _), some (.int _), some (.int _), none]) dX6_heights_85 (by decide) rfl rfl ?_
  obtain ⟨q_8, hq_8, hg⟩ := mj_bd hg
  refine r_X6_heights_87 mj_fuel _ _ _ _ _ _ _ _ _ hq_8 ?_
  refine ev_iload_n (q := 126) dX6_heights_125 rfl rfl ?_
  refine ev_if_ne (t := 134) (q := 129) dX6_heights_126 rfl rfl hg (fun hg => ?_) (fun hg => ?_)
  · refine ev_iload (q := 131) dX6_heights_129 rfl rfl ?_
    refine ev_goto (q := 136) dX6_heights_131 rfl ?_
    obtain rfl := Option.some.inj hg
    exact ev_iret dX6_heights_136 rfl ⟨rfl, rfl, rfl⟩
  · refine ev_iload (q := 136) dX6_heights_134 rfl rfl ?_
    obtain rfl := Option.some.inj hg
    exact ev_iret dX6_heights_136 rfl ⟨rfl, rfl, rfl⟩
def g_X6_heights (x1 : Int32) (x2 : Int32) (x3 : Int32) (f : mj_I) : Option (Int32 × mj_I) :=
  if (g_X6_isCloud x1 f) = 0 then
   some (((-1000001 : Int32), f))
  else
   if (g_X6_within x2 (1 : Int32) (8 : Int32)) = 0 then
    some (((-1000001 : Int32), f))
   else
    if (g_X6_within x3 (0 : Int32) (1 : Int32)) = 0 then
     some (((-1000001 : Int32), f))
    else
     if mj_in x1 5 = true then
     if (f (4 + 4 + (ix x1)) 4) = 0 then
       if mj_in x1 5 = true then
       if (g_X1_canRise (4 + 4 + (ix x1)) f) = 0 then
         g_X6_heights_70 x1 x2 x3 (1 : Int32) f
        else
         g_X6_heights_70 x1 x2 x3 ((1 : Int32) <<< (x2 &&& 31)) f
       else none
      else
       some (((-1000002 : Int32), f))
     else none
theorem r_X6_heights {x1 : Int32} {x2 : Int32} {x3 : Int32} {f : mj_I} {g : mj_L} {o : Int32 × mj_I} (hg : g_X6_heights x1 x2 x3 f = some o) : mj_Sp jX6_heights mx_S [.ref 0, .int x1, .int x2, .int x3] f g (fun v f' g' => some (.int o.1) = v ∧ o.2 = f' ∧ g = g') := by
  refine mj_sp 5 (by decide +kernel) rfl rfl (fun _ _ => Nat.le_of_ble_eq_true rfl) ?_
  show mj_Ev jX6_heights 0 [some (.ref 0), some (.int x1), some (.int x2), some (.int x3), none, none, none, none, none] [] mx_S f g _
  unfold g_X6_heights at hg
  refine ev_aload_n (q := 1) dX6_heights_0 rfl rfl ?_
  refine ev_iload_n (q := 2) dX6_heights_1 rfl rfl ?_
  refine ev_callV (q := 5) kX6_isCloud mw_i_X6_isCloud mw_s_X6_isCloud mw_m_RX6_161 rfl rfl (r_X6_isCloud rfl) rfl rfl (Nat.le_of_ble_eq_true rfl) (by decide) dX6_heights_2 rfl (fun v fv gv hp => ?_)
  obtain ⟨rfl, rfl, rfl, hr_1⟩ := hp
  refine ev_if_eq (t := 27) (q := 8) dX6_heights_5 rfl rfl hg (fun hg => ?_) (fun hg => ?_)
  · refine ev_ldc (q := 29) mw_c_RX6_73 dX6_heights_27 rfl ?_
    obtain rfl := Option.some.inj hg
    exact ev_iret dX6_heights_29 rfl ⟨rfl, rfl, rfl⟩
  · refine ev_iload_n (q := 9) dX6_heights_8 rfl rfl ?_
    refine ev_iconst (v := 1) (q := 10) dX6_heights_9 mci_1 rfl ?_
    refine ev_bipush (v := 8) (q := 12) dX6_heights_10 mcb_8 rfl ?_
    refine ev_callS (q := 15) kX6_within mw_t_X6_within mw_m_RX6_69 (r_X6_within rfl) rfl rfl (Nat.le_of_ble_eq_true rfl) (by decide) dX6_heights_12 rfl (fun v fv gv hp => ?_)
    obtain ⟨rfl, rfl, rfl, hr_2⟩ := hp
    refine ev_if_eq (t := 27) (q := 18) dX6_heights_15 rfl rfl hg (fun hg => ?_) (fun hg => ?_)
    · refine ev_ldc (q := 29) mw_c_RX6_73 dX6_heights_27 rfl ?_
      obtain rfl := Option.some.inj hg
      exact ev_iret dX6_heights_29 rfl ⟨rfl, rfl, rfl⟩
    · refine ev_iload_n (q := 19) dX6_heights_18 rfl rfl ?_
      refine ev_iconst (v := 0) (q := 20) dX6_heights_19 mci_0 rfl ?_
      refine ev_iconst (v := 1) (q := 21) dX6_heights_20 mci_1 rfl ?_
      refine ev_callS (q := 24) kX6_within mw_t_X6_within mw_m_RX6_69 (r_X6_within rfl) rfl rfl (Nat.le_of_ble_eq_true rfl) (by decide) dX6_heights_21 rfl (fun v fv gv hp => ?_)
      obtain ⟨rfl, rfl, rfl, hr_3⟩ := hp
      refine ev_if_ne (t := 30) (q := 27) dX6_heights_24 rfl rfl hg (fun hg => ?_) (fun hg => ?_)
      · refine ev_ldc (q := 29) mw_c_RX6_73 dX6_heights_27 rfl ?_
        obtain rfl := Option.some.inj hg
        exact ev_iret dX6_heights_29 rfl ⟨rfl, rfl, rfl⟩
      · refine ev_aload_n (q := 31) dX6_heights_30 rfl rfl ?_
        refine ev_getfR (q := 34) mw_f_RX6_25 rfl rfl dX6_heights_31 rfl ?_
        refine ev_getfR (q := 37) mw_f_RX6_164 (mx_H mx_isH_4) rfl dX6_heights_34 rfl ?_
        refine ev_iload_n (q := 38) dX6_heights_37 rfl rfl ?_
        obtain ⟨hi_4, hg⟩ := mj_gd hg
        refine ev_aald (kd := 0) (q := 39) (mx_HC mx_isH_4) (by decide) hi_4 (mx_cr_get hi_4) dX6_heights_38 rfl ?_
        refine ev_getfI (q := 42) mw_f_RX6_168 (by decide) (by decide) (mx_C (mx_isC_of mx_isH_4 hi_4)) dX6_heights_39 rfl ?_
        refine ev_if_eq (t := 48) (q := 45) dX6_heights_42 rfl rfl hg (fun hg => ?_) (fun hg => ?_)
        · refine ev_aload_n (q := 49) dX6_heights_48 rfl rfl ?_
          refine ev_getfR (q := 52) mw_f_RX6_25 rfl rfl dX6_heights_49 rfl ?_
          refine ev_getfR (q := 55) mw_f_RX6_164 (mx_H mx_isH_4) rfl dX6_heights_52 rfl ?_
          refine ev_iload_n (q := 56) dX6_heights_55 rfl rfl ?_
          obtain ⟨hi_5, hg⟩ := mj_gd hg
          refine ev_aald (kd := 0) (q := 57) (mx_HC mx_isH_4) (by decide) hi_5 (mx_cr_get hi_5) dX6_heights_56 rfl ?_
          refine ev_callV (q := 60) kX1_canRise mw_i_X1_canRise mw_s_X1_canRise mw_m_RX6_171 (mx_C (mx_isC_of mx_isH_4 hi_5)) rfl (r_X1_canRise (mx_isC_of mx_isH_4 hi_5) rfl) rfl rfl (Nat.le_of_ble_eq_true rfl) (by decide) dX6_heights_57 rfl (fun v fv gv hp => ?_)
          obtain ⟨rfl, rfl, rfl, hr_6⟩ := hp
          refine ev_if_eq (t := 69) (q := 63) dX6_heights_60 rfl rfl hg (fun hg => ?_) (fun hg => ?_)
          · refine ev_iconst (v := 1) (q := 70) dX6_heights_69 mci_1 rfl ?_
            exact r_X6_heights_70 _ _ _ _ _ _ hg
          · refine ev_iconst (v := 1) (q := 64) dX6_heights_63 mci_1 rfl ?_
            refine ev_iload_n (q := 65) dX6_heights_64 rfl rfl ?_
            refine ev_ishl (q := 66) dX6_heights_65 rfl ?_
            refine ev_goto (q := 70) dX6_heights_66 rfl ?_
            exact r_X6_heights_70 _ _ _ _ _ _ hg
        · refine ev_ldc (q := 47) mw_c_RX6_142 dX6_heights_45 rfl ?_
          obtain rfl := Option.some.inj hg
          exact ev_iret dX6_heights_47 rfl ⟨rfl, rfl, rfl⟩
def g_X6_shade_49 : Nat → Int32 → Int32 → Int32 → Int32 → mj_I → Option (Int32 × mj_I)
  | 0, _, _, _, _, _ => none
  | n + 1, x1, x2, x3, x4, f =>
    if x4 < x2 then
     (g_X2_passHour 13 f).bind (fun o_5 =>
     (g_X2_cloudsOver 13 x1 o_5).bind (fun o_6 =>
     if o_6 = 0 then
      g_X6_shade_49 n x1 x2 x3 (x4 + (1 : Int32)) o_5
     else
      mj_lt ((x3 ||| ((1 : Int32) <<< (x4 &&& 31)))) (fun u_7 =>
      g_X6_shade_49 n x1 x2 u_7 (x4 + (1 : Int32)) o_5)))
    else
     some ((x3, f))
theorem r_X6_shade_49 {g : mj_L} {post : Option Value → mj_I → mj_L → Prop} : ∀ (n : Nat) (x1 : Int32) (x2 : Int32) (x3 : Int32) (x4 : Int32) (f : mj_I) (o : Int32 × mj_I), g_X6_shade_49 n x1 x2 x3 x4 f = some o → mj_Ev jX6_shade 86 [none, none, none, some (.int o.1), none] [] mx_S o.2 g post → mj_Ev jX6_shade 49 [some (.ref 0), some (.int x1), some (.int x2), some (.int x3), some (.int x4)] [] mx_S f g post := by
  intro n
  induction n with
  | zero =>
    intro x1 x2 x3 x4 f o hg hk
    cases hg
  | succ n ih =>
    intro x1 x2 x3 x4 f o hg hk
    unfold g_X6_shade_49 at hg
    refine ev_iload (q := 51) dX6_shade_49 rfl rfl ?_
    refine ev_iload_n (q := 52) dX6_shade_51 rfl rfl ?_
    refine ev_icmp_ge (t := 86) (q := 55) dX6_shade_52 rfl rfl hg (fun hg => ?_) (fun hg => ?_)
    · refine ev_aload_n (q := 56) dX6_shade_55 rfl rfl ?_
      refine ev_getfR (q := 59) mw_f_RX6_29 rfl rfl dX6_shade_56 rfl ?_
      obtain ⟨o_5, ho_5, hg⟩ := mj_bd hg
      refine ev_callV (q := 62) kX2_passHour mw_i_X2_passHour mw_s_X2_passHour mw_m_RX6_155 (mx_H mx_isH_13) rfl (r_X2_passHour mx_isH_13 ho_5) rfl rfl (Nat.le_of_ble_eq_true rfl) (by decide) dX6_shade_59 rfl (fun v fv gv hp => ?_)
      obtain ⟨rfl, rfl, rfl⟩ := hp
      refine ev_aload_n (q := 63) dX6_shade_62 rfl rfl ?_
      refine ev_getfR (q := 66) mw_f_RX6_29 rfl rfl dX6_shade_63 rfl ?_
      refine ev_iload_n (q := 67) dX6_shade_66 rfl rfl ?_
      obtain ⟨o_6, ho_6, hg⟩ := mj_bd hg
      refine ev_callV (q := 70) kX2_cloudsOver mw_i_X2_cloudsOver mw_s_X2_cloudsOver mw_m_RX6_204 (mx_H mx_isH_13) rfl (r_X2_cloudsOver mx_isH_13 ho_6) rfl rfl (Nat.le_of_ble_eq_true rfl) (by decide) dX6_shade_67 rfl (fun v fv gv hp => ?_)
      obtain ⟨rfl, rfl, rfl⟩ := hp
      refine ev_if_eq (t := 80) (q := 73) dX6_shade_70 rfl rfl hg (fun hg => ?_) (fun hg => ?_)
      · refine ev_iinc (v := 1) (q := 83) (loc' := [some (.ref _), some (.int _), some (.int _), some (.int _), some (.int _)]) dX6_shade_80 rfl (by decide) mci_1 rfl rfl ?_
        refine ev_goto (q := 49) dX6_shade_83 rfl ?_
        exact ih _ _ _ _ _ _ hg hk
      · refine ev_iload_n (q := 74) dX6_shade_73 rfl rfl ?_
        refine ev_iconst (v := 1) (q := 75) dX6_shade_74 mci_1 rfl ?_
        refine ev_iload (q := 77) dX6_shade_75 rfl rfl ?_
        refine ev_ishl (q := 78) dX6_shade_77 rfl ?_
        refine ev_ior (q := 79) dX6_shade_78 rfl ?_
        refine ev_nmi (fun u_7 hu_7 => ?_)
        have hg := mj_lt_el hu_7 hg
        refine ev_istore_n (q := 80) (loc' := [some (.ref _), some (.int _), some (.int _), some (.int _), some (.int _)]) dX6_shade_79 (by decide) rfl rfl ?_
        refine ev_iinc (v := 1) (q := 83) (loc' := [some (.ref _), some (.int _), some (.int _), some (.int _), some (.int _)]) dX6_shade_80 rfl (by decide) mci_1 rfl rfl ?_
        refine ev_goto (q := 49) dX6_shade_83 rfl ?_
        exact ih _ _ _ _ _ _ hg hk
    · obtain rfl := Option.some.inj hg
      refine ev_wk (loc' := [none, none, none, some (.int _), none]) ⟨rfl, trivial⟩ ?_
      exact hk
def g_X6_shade (x1 : Int32) (x2 : Int32) (f : mj_I) : Option (Int32 × mj_I) :=
  if (f 4 0) = 0 then
   some (((-1000002 : Int32), f))
  else
   if (g_X6_isCell x1) = 0 then
    some (((-1000001 : Int32), f))
   else
    if (g_X6_within x2 (1 : Int32) (24 : Int32)) = 0 then
     some (((-1000001 : Int32), f))
    else
     (g_X2_become 13 4 f).bind (fun o_3 =>
     (g_X6_shade_49 mj_fuel x1 x2 (0 : Int32) (0 : Int32) o_3).bind (fun q_4 =>
     some ((q_4.1, q_4.2))))
theorem r_X6_shade {x1 : Int32} {x2 : Int32} {f : mj_I} {g : mj_L} {o : Int32 × mj_I} (hg : g_X6_shade x1 x2 f = some o) : mj_Sp jX6_shade mx_S [.ref 0, .int x1, .int x2] f g (fun v f' g' => some (.int o.1) = v ∧ o.2 = f' ∧ g = g') := by
  refine mj_sp 2 (by decide +kernel) rfl rfl (fun _ _ => Nat.le_of_ble_eq_true rfl) ?_
  show mj_Ev jX6_shade 0 [some (.ref 0), some (.int x1), some (.int x2), none, none] [] mx_S f g _
  unfold g_X6_shade at hg
  refine ev_aload_n (q := 1) dX6_shade_0 rfl rfl ?_
  refine ev_getfR (q := 4) mw_f_RX6_25 rfl rfl dX6_shade_1 rfl ?_
  refine ev_getfI (q := 7) mw_f_RX6_146 (by decide) (by decide) (mx_H mx_isH_4) dX6_shade_4 rfl ?_
  refine ev_if_ne (t := 13) (q := 10) dX6_shade_7 rfl rfl hg (fun hg => ?_) (fun hg => ?_)
  · refine ev_ldc (q := 12) mw_c_RX6_142 dX6_shade_10 rfl ?_
    obtain rfl := Option.some.inj hg
    exact ev_iret dX6_shade_12 rfl ⟨rfl, rfl, rfl⟩
  · refine ev_iload_n (q := 14) dX6_shade_13 rfl rfl ?_
    refine ev_callS (q := 17) kX6_isCell mw_t_X6_isCell mw_m_RX6_198 (r_X6_isCell rfl) rfl rfl (Nat.le_of_ble_eq_true rfl) (by decide) dX6_shade_14 rfl (fun v fv gv hp => ?_)
    obtain ⟨rfl, rfl, rfl, hr_1⟩ := hp
    refine ev_if_eq (t := 30) (q := 20) dX6_shade_17 rfl rfl hg (fun hg => ?_) (fun hg => ?_)
    · refine ev_ldc (q := 32) mw_c_RX6_73 dX6_shade_30 rfl ?_
      obtain rfl := Option.some.inj hg
      exact ev_iret dX6_shade_32 rfl ⟨rfl, rfl, rfl⟩
    · refine ev_iload_n (q := 21) dX6_shade_20 rfl rfl ?_
      refine ev_iconst (v := 1) (q := 22) dX6_shade_21 mci_1 rfl ?_
      refine ev_bipush (v := 24) (q := 24) dX6_shade_22 mcb_24 rfl ?_
      refine ev_callS (q := 27) kX6_within mw_t_X6_within mw_m_RX6_69 (r_X6_within rfl) rfl rfl (Nat.le_of_ble_eq_true rfl) (by decide) dX6_shade_24 rfl (fun v fv gv hp => ?_)
      obtain ⟨rfl, rfl, rfl, hr_2⟩ := hp
      refine ev_if_ne (t := 33) (q := 30) dX6_shade_27 rfl rfl hg (fun hg => ?_) (fun hg => ?_)
      · refine ev_ldc (q := 32) mw_c_RX6_73 dX6_shade_30 rfl ?_
        obtain rfl := Option.some.inj hg
        exact ev_iret dX6_shade_32 rfl ⟨rfl, rfl, rfl⟩
      · refine ev_iconst (v := 0) (q := 34) dX6_shade_33 mci_0 rfl ?_
        refine ev_istore_n (q := 35) (loc' := [some (.ref _), some (.int _), some (.int _), some (.int _), none]) dX6_shade_34 (by decide) rfl rfl ?_
        refine ev_aload_n (q := 36) dX6_shade_35 rfl rfl ?_
        refine ev_getfR (q := 39) mw_f_RX6_29 rfl rfl dX6_shade_36 rfl ?_
        refine ev_aload_n (q := 40) dX6_shade_39 rfl rfl ?_
        refine ev_getfR (q := 43) mw_f_RX6_25 rfl rfl dX6_shade_40 rfl ?_
        obtain ⟨o_3, ho_3, hg⟩ := mj_bd hg
        refine ev_callV (q := 46) kX2_become mw_i_X2_become mw_s_X2_become mw_m_RX6_132 (mx_H mx_isH_13) rfl (r_X2_become mx_isH_13 mx_isH_4 ho_3) rfl rfl (Nat.le_of_ble_eq_true rfl) (by decide) dX6_shade_43 rfl (fun v fv gv hp => ?_)
        obtain ⟨rfl, rfl, rfl⟩ := hp
        refine ev_iconst (v := 0) (q := 47) dX6_shade_46 mci_0 rfl ?_
        refine ev_istore (q := 49) (loc' := [some (.ref _), some (.int _), some (.int _), some (.int _), some (.int _)]) dX6_shade_47 (by decide) rfl rfl ?_
        obtain ⟨q_4, hq_4, hg⟩ := mj_bd hg
        refine r_X6_shade_49 mj_fuel _ _ _ _ _ _ hq_4 ?_
        refine ev_iload_n (q := 87) dX6_shade_86 rfl rfl ?_
        obtain rfl := Option.some.inj hg
        exact ev_iret dX6_shade_87 rfl ⟨rfl, rfl, rfl⟩
def g_X6_leavesDew_19 : Nat → Nat → Int32 → Int32 → Int32 → mj_I → Option (Int32 × mj_I)
  | 0, _, _, _, _, _ => none
  | n + 1, a2, x3, x4, x5, f =>
    if x5 < x4 then
     (g_X2_passAlone 4 22 ((f 4 5) + x5) f).bind (fun o_3 =>
     if mj_in (x3 + x5) 40 = true then
     if 0 < (o_3.2 22 6) then
       if (o_3.2 (a2 + 1) (ix (x3 + x5))) = (o_3.2 22 1) then
        g_X6_leavesDew_19 n a2 x3 x4 (x5 + (1 : Int32)) o_3.2
       else
        some (((0 : Int32), o_3.2))
      else
       if (o_3.2 (a2 + 1) (ix (x3 + x5))) = (-1 : Int32) then
        g_X6_leavesDew_19 n a2 x3 x4 (x5 + (1 : Int32)) o_3.2
       else
        some (((0 : Int32), o_3.2))
     else none)
    else
     some (((1 : Int32), f))
theorem r_X6_leavesDew_19 {g : mj_L} : ∀ (n : Nat) (a2 : Nat) (x3 : Int32) (x4 : Int32) (x5 : Int32) (f : mj_I) (o : Int32 × mj_I), mx_isR a2 → g_X6_leavesDew_19 n a2 x3 x4 x5 f = some o → mj_Ev jX6_leavesDew 19 [some (.ref 0), none, some (.ref a2), some (.int x3), some (.int x4), some (.int x5)] [] mx_S f g (fun v f' g' => some (.int o.1) = v ∧ o.2 = f' ∧ g = g' ∧ mj_b (o.1) = true) := by
  intro n
  induction n with
  | zero =>
    intro a2 x3 x4 x5 f o h2 hg
    cases hg
  | succ n ih =>
    intro a2 x3 x4 x5 f o h2 hg
    unfold g_X6_leavesDew_19 at hg
    refine ev_iload (q := 21) dX6_leavesDew_19 rfl rfl ?_
    refine ev_iload (q := 23) dX6_leavesDew_21 rfl rfl ?_
    refine ev_icmp_ge (t := 89) (q := 26) dX6_leavesDew_23 rfl rfl hg (fun hg => ?_) (fun hg => ?_)
    · refine ev_aload_n (q := 27) dX6_leavesDew_26 rfl rfl ?_
      refine ev_getfR (q := 30) mw_f_RX6_25 rfl rfl dX6_leavesDew_27 rfl ?_
      refine ev_aload_n (q := 31) dX6_leavesDew_30 rfl rfl ?_
      refine ev_getfR (q := 34) mw_f_RX6_35 rfl rfl dX6_leavesDew_31 rfl ?_
      refine ev_aload_n (q := 35) dX6_leavesDew_34 rfl rfl ?_
      refine ev_getfR (q := 38) mw_f_RX6_25 rfl rfl dX6_leavesDew_35 rfl ?_
      refine ev_getfI (q := 41) mw_f_RX6_149 (by decide) (by decide) (mx_H mx_isH_4) dX6_leavesDew_38 rfl ?_
      refine ev_iload (q := 43) dX6_leavesDew_41 rfl rfl ?_
      refine ev_iadd (q := 44) dX6_leavesDew_43 rfl ?_
      obtain ⟨o_3, ho_3, hg⟩ := mj_bd hg
      refine ev_callV (q := 47) kX2_passAlone mw_i_X2_passAlone mw_s_X2_passAlone mw_m_RX6_301 (mx_H mx_isH_4) rfl (r_X2_passAlone mx_isH_4 mx_isC_22 ho_3) rfl rfl (Nat.le_of_ble_eq_true rfl) (by decide) dX6_leavesDew_44 rfl (fun v fv gv hp => ?_)
      obtain ⟨rfl, rfl, rfl⟩ := hp
      refine ev_pop (q := 48) dX6_leavesDew_47 rfl rfl ?_
      refine ev_aload_n (q := 49) dX6_leavesDew_48 rfl rfl ?_
      refine ev_getfR (q := 52) mw_f_RX6_103 (mx_R h2) rfl dX6_leavesDew_49 rfl ?_
      refine ev_iload_n (q := 53) dX6_leavesDew_52 rfl rfl ?_
      refine ev_iload (q := 55) dX6_leavesDew_53 rfl rfl ?_
      refine ev_iadd (q := 56) dX6_leavesDew_55 rfl ?_
      obtain ⟨hi_4, hg⟩ := mj_gd hg
      refine ev_ialdk (q := 57) (mx_RI h2) hi_4 rfl dX6_leavesDew_56 rfl ?_
      refine ev_aload_n (q := 58) dX6_leavesDew_57 rfl rfl ?_
      refine ev_getfR (q := 61) mw_f_RX6_35 rfl rfl dX6_leavesDew_58 rfl ?_
      refine ev_getfI (q := 64) mw_f_RX6_305 (by decide) (by decide) (mx_C mx_isC_22) dX6_leavesDew_61 rfl ?_
      refine ev_if_le (t := 77) (q := 67) dX6_leavesDew_64 rfl rfl hg (fun hg => ?_) (fun hg => ?_)
      · refine ev_aload_n (q := 68) dX6_leavesDew_67 rfl rfl ?_
        refine ev_getfR (q := 71) mw_f_RX6_35 rfl rfl dX6_leavesDew_68 rfl ?_
        refine ev_getfI (q := 74) mw_f_RX6_223 (by decide) (by decide) (mx_C mx_isC_22) dX6_leavesDew_71 rfl ?_
        refine ev_goto (q := 78) dX6_leavesDew_74 rfl ?_
        refine ev_icmp_eq (t := 83) (q := 81) dX6_leavesDew_78 rfl rfl hg (fun hg => ?_) (fun hg => ?_)
        · refine ev_iinc (v := 1) (q := 86) (loc' := [some (.ref _), none, some (.ref _), some (.int _), some (.int _), some (.int _)]) dX6_leavesDew_83 rfl (by decide) mci_1 rfl rfl ?_
          refine ev_goto (q := 19) dX6_leavesDew_86 rfl ?_
          exact ih _ _ _ _ _ _ h2 hg
        · refine ev_iconst (v := 0) (q := 82) dX6_leavesDew_81 mci_0 rfl ?_
          obtain rfl := Option.some.inj hg
          exact ev_zret dX6_leavesDew_82 rfl (mcz_0) ⟨rfl, rfl, rfl, (mcz_0)⟩
      · refine ev_iconst (v := -1) (q := 78) dX6_leavesDew_77 mci_m1 rfl ?_
        refine ev_icmp_eq (t := 83) (q := 81) dX6_leavesDew_78 rfl rfl hg (fun hg => ?_) (fun hg => ?_)
        · refine ev_iinc (v := 1) (q := 86) (loc' := [some (.ref _), none, some (.ref _), some (.int _), some (.int _), some (.int _)]) dX6_leavesDew_83 rfl (by decide) mci_1 rfl rfl ?_
          refine ev_goto (q := 19) dX6_leavesDew_86 rfl ?_
          exact ih _ _ _ _ _ _ h2 hg
        · refine ev_iconst (v := 0) (q := 82) dX6_leavesDew_81 mci_0 rfl ?_
          obtain rfl := Option.some.inj hg
          exact ev_zret dX6_leavesDew_82 rfl (mcz_0) ⟨rfl, rfl, rfl, (mcz_0)⟩
    · refine ev_iconst (v := 1) (q := 90) dX6_leavesDew_89 mci_1 rfl ?_
      obtain rfl := Option.some.inj hg
      exact ev_zret dX6_leavesDew_90 rfl (mcz_1) ⟨rfl, rfl, rfl, (mcz_1)⟩
def g_X6_leavesDew (x1 : Int32) (a2 : Nat) (x3 : Int32) (x4 : Int32) (f : mj_I) : Option (Int32 × mj_I) :=
  if mj_in x1 5 = true then
  (g_X1_become 22 (4 + 4 + (ix x1)) f).bind (fun o_2 =>
   g_X6_leavesDew_19 mj_fuel a2 x3 x4 (0 : Int32) o_2)
  else none
theorem r_X6_leavesDew {x1 : Int32} {a2 : Nat} {x3 : Int32} {x4 : Int32} {f : mj_I} {g : mj_L} {o : Int32 × mj_I} (h2 : mx_isR a2) (hg : g_X6_leavesDew x1 a2 x3 x4 f = some o) : mj_Sp jX6_leavesDew mx_S [.ref 0, .int x1, .ref a2, .int x3, .int x4] f g (fun v f' g' => some (.int o.1) = v ∧ o.2 = f' ∧ g = g' ∧ mj_b (o.1) = true) := by
  refine mj_sp 1 (by decide +kernel) rfl rfl (fun _ _ => Nat.le_of_ble_eq_true rfl) ?_
  show mj_Ev jX6_leavesDew 0 [some (.ref 0), some (.int x1), some (.ref a2), some (.int x3), some (.int x4), none] [] mx_S f g _
  unfold g_X6_leavesDew at hg
  refine ev_aload_n (q := 1) dX6_leavesDew_0 rfl rfl ?_
  refine ev_getfR (q := 4) mw_f_RX6_35 rfl rfl dX6_leavesDew_1 rfl ?_
  refine ev_aload_n (q := 5) dX6_leavesDew_4 rfl rfl ?_
  refine ev_getfR (q := 8) mw_f_RX6_25 rfl rfl dX6_leavesDew_5 rfl ?_
  refine ev_getfR (q := 11) mw_f_RX6_164 (mx_H mx_isH_4) rfl dX6_leavesDew_8 rfl ?_
  refine ev_iload_n (q := 12) dX6_leavesDew_11 rfl rfl ?_
  obtain ⟨hi_1, hg⟩ := mj_gd hg
  refine ev_aald (kd := 0) (q := 13) (mx_HC mx_isH_4) (by decide) hi_1 (mx_cr_get hi_1) dX6_leavesDew_12 rfl ?_
  obtain ⟨o_2, ho_2, hg⟩ := mj_bd hg
  refine ev_callV (q := 16) kX1_become mw_i_X1_become mw_s_X1_become mw_m_RX6_298 (mx_C mx_isC_22) rfl (r_X1_become mx_isC_22 (mx_isC_of mx_isH_4 hi_1) ho_2) rfl rfl (Nat.le_of_ble_eq_true rfl) (by decide) dX6_leavesDew_13 rfl (fun v fv gv hp => ?_)
  obtain ⟨rfl, rfl, rfl⟩ := hp
  refine ev_iconst (v := 0) (q := 17) dX6_leavesDew_16 mci_0 rfl ?_
  refine ev_istore (q := 19) (loc' := [some (.ref _), some (.int _), some (.ref _), some (.int _), some (.int _), some (.int _)]) dX6_leavesDew_17 (by decide) rfl rfl ?_
  refine ev_wk (loc' := [some (.ref _), none, some (.ref _), some (.int _), some (.int _), some (.int _)]) ⟨rfl, rfl, rfl, rfl, rfl, trivial⟩ ?_
  exact r_X6_leavesDew_19 mj_fuel _ _ _ _ _ _ h2 hg
def g_X6_dew_64 : Nat → Int32 → Int32 → Int32 → Int32 → Int32 → mj_I → Option (Int32 × mj_I)
  | 0, _, _, _, _, _, _ => none
  | n + 1, x1, x2, x3, x5, x6, f =>
    if x6 < (f 4 4) then
     if mj_in x6 5 = true then
     if (f (4 + 4 + (ix x6)) 4) = 0 then
       if mj_in x1 8 = true then
       (g_X6_leavesDew x6 (28 + 2 * (ix x1)) x2 x3 f).bind (fun o_11 =>
        if o_11.1 = 0 then
         g_X6_dew_64 n x1 x2 x3 x5 (x6 + (1 : Int32)) o_11.2
        else
         mj_lt ((x5 ||| ((1 : Int32) <<< (x6 &&& 31)))) (fun u_12 =>
         g_X6_dew_64 n x1 x2 x3 u_12 (x6 + (1 : Int32)) o_11.2))
       else none
      else
       g_X6_dew_64 n x1 x2 x3 x5 (x6 + (1 : Int32)) f
     else none
    else
     some ((x5, f))
theorem r_X6_dew_64 {g : mj_L} {post : Option Value → mj_I → mj_L → Prop} : ∀ (n : Nat) (x1 : Int32) (x2 : Int32) (x3 : Int32) (x5 : Int32) (x6 : Int32) (f : mj_I) (o : Int32 × mj_I), g_X6_dew_64 n x1 x2 x3 x5 x6 f = some o → mj_Ev jX6_dew 124 [some (.ref 0), none, none, none, none, some (.int o.1), none] [] mx_S o.2 g post → mj_Ev jX6_dew 64 [some (.ref 0), some (.int x1), some (.int x2), some (.int x3), none, some (.int x5), some (.int x6)] [] mx_S f g post := by
  intro n
  induction n with
  | zero =>
    intro x1 x2 x3 x5 x6 f o hg hk
    cases hg
  | succ n ih =>
    intro x1 x2 x3 x5 x6 f o hg hk
    unfold g_X6_dew_64 at hg
    refine ev_iload (q := 66) dX6_dew_64 rfl rfl ?_
    refine ev_aload_n (q := 67) dX6_dew_66 rfl rfl ?_
    refine ev_getfR (q := 70) mw_f_RX6_25 rfl rfl dX6_dew_67 rfl ?_
    refine ev_getfI (q := 73) mw_f_RX6_138 (by decide) (by decide) (mx_H mx_isH_4) dX6_dew_70 rfl ?_
    refine ev_icmp_ge (t := 124) (q := 76) dX6_dew_73 rfl rfl hg (fun hg => ?_) (fun hg => ?_)
    · refine ev_aload_n (q := 77) dX6_dew_76 rfl rfl ?_
      refine ev_getfR (q := 80) mw_f_RX6_25 rfl rfl dX6_dew_77 rfl ?_
      refine ev_getfR (q := 83) mw_f_RX6_164 (mx_H mx_isH_4) rfl dX6_dew_80 rfl ?_
      refine ev_iload (q := 85) dX6_dew_83 rfl rfl ?_
      obtain ⟨hi_9, hg⟩ := mj_gd hg
      refine ev_aald (kd := 0) (q := 86) (mx_HC mx_isH_4) (by decide) hi_9 (mx_cr_get hi_9) dX6_dew_85 rfl ?_
      refine ev_getfI (q := 89) mw_f_RX6_168 (by decide) (by decide) (mx_C (mx_isC_of mx_isH_4 hi_9)) dX6_dew_86 rfl ?_
      refine ev_if_ne (t := 118) (q := 92) dX6_dew_89 rfl rfl hg (fun hg => ?_) (fun hg => ?_)
      · refine ev_aload_n (q := 93) dX6_dew_92 rfl rfl ?_
        refine ev_iload (q := 95) dX6_dew_93 rfl rfl ?_
        refine ev_aload_n (q := 96) dX6_dew_95 rfl rfl ?_
        refine ev_getfR (q := 99) mw_f_RX6_11 rfl rfl dX6_dew_96 rfl ?_
        refine ev_iload_n (q := 100) dX6_dew_99 rfl rfl ?_
        obtain ⟨hi_10, hg⟩ := mj_gd hg
        refine ev_aald (kd := 2) (q := 101) rfl (by decide) hi_10 (mx_rr_get hi_10) dX6_dew_100 rfl ?_
        refine ev_iload_n (q := 102) dX6_dew_101 rfl rfl ?_
        refine ev_iload_n (q := 103) dX6_dew_102 rfl rfl ?_
        obtain ⟨o_11, ho_11, hg⟩ := mj_bd hg
        refine ev_callV (q := 106) kX6_leavesDew mw_i_X6_leavesDew mw_s_X6_leavesDew mw_m_RX6_234 rfl rfl (r_X6_leavesDew (mx_isR_of hi_10) ho_11) rfl rfl (Nat.le_of_ble_eq_true rfl) (by decide) dX6_dew_103 rfl (fun v fv gv hp => ?_)
        obtain ⟨rfl, rfl, rfl, hr_11⟩ := hp
        refine ev_if_eq (t := 118) (q := 109) dX6_dew_106 rfl rfl hg (fun hg => ?_) (fun hg => ?_)
        · refine ev_iinc (v := 1) (q := 121) (loc' := [some (.ref _), some (.int _), some (.int _), some (.int _), none, some (.int _), some (.int _)]) dX6_dew_118 rfl (by decide) mci_1 rfl rfl ?_
          refine ev_goto (q := 64) dX6_dew_121 rfl ?_
          exact ih _ _ _ _ _ _ _ hg hk
        · refine ev_iload (q := 111) dX6_dew_109 rfl rfl ?_
          refine ev_iconst (v := 1) (q := 112) dX6_dew_111 mci_1 rfl ?_
          refine ev_iload (q := 114) dX6_dew_112 rfl rfl ?_
          refine ev_ishl (q := 115) dX6_dew_114 rfl ?_
          refine ev_ior (q := 116) dX6_dew_115 rfl ?_
          refine ev_nmi (fun u_12 hu_12 => ?_)
          have hg := mj_lt_el hu_12 hg
          refine ev_istore (q := 118) (loc' := [some (.ref _), some (.int _), some (.int _), some (.int _), none, some (.int _), some (.int _)]) dX6_dew_116 (by decide) rfl rfl ?_
          refine ev_iinc (v := 1) (q := 121) (loc' := [some (.ref _), some (.int _), some (.int _), some (.int _), none, some (.int _), some (.int _)]) dX6_dew_118 rfl (by decide) mci_1 rfl rfl ?_
          refine ev_goto (q := 64) dX6_dew_121 rfl ?_
          exact ih _ _ _ _ _ _ _ hg hk
      · refine ev_iinc (v := 1) (q := 121) (loc' := [some (.ref _), some (.int _), some (.int _), some (.int _), none, some (.int _), some (.int _)]) dX6_dew_118 rfl (by decide) mci_1 rfl rfl ?_
        refine ev_goto (q := 64) dX6_dew_121 rfl ?_
        exact ih _ _ _ _ _ _ _ hg hk
    · obtain rfl := Option.some.inj hg
      refine ev_wk (loc' := [some (.ref _), none, none, none, none, some (.int _), none]) ⟨rfl, rfl, trivial⟩ ?_
      exact hk
def g_X6_dew (x1 : Int32) (x2 : Int32) (x3 : Int32) (f : mj_I) : Option (Int32 × mj_I) :=
  if (f 4 0) = 0 then
   some (((-1000002 : Int32), f))
  else
   if (g_X6_isRow x1) = 0 then
    some (((-1000001 : Int32), f))
   else
    if (g_X6_within x3 (1 : Int32) (12 : Int32)) = 0 then
     some (((-1000001 : Int32), f))
    else
     if mj_in x1 8 = true then
     mj_lt ((g_X3_lack (28 + 2 * (ix x1)) x2 x3 f)) (fun u_5 =>
      if u_5 = 0 then
       (g_X6_dew_64 mj_fuel x1 x2 x3 (0 : Int32) (0 : Int32) f).bind (fun q_6 =>
       mj_lt (g_X6_clean q_6.1 q_6.2) (fun o_7 =>
       some ((o_7.1, o_7.2))))
      else
       mj_lt (g_X6_found u_5 f) (fun o_8 =>
       some ((o_8.1, o_8.2))))
     else none
theorem r_X6_dew {x1 : Int32} {x2 : Int32} {x3 : Int32} {f : mj_I} {g : mj_L} {o : Int32 × mj_I} (hg : g_X6_dew x1 x2 x3 f = some o) : mj_Sp jX6_dew mx_S [.ref 0, .int x1, .int x2, .int x3] f g (fun v f' g' => some (.int o.1) = v ∧ o.2 = f' ∧ g = g') := by
  refine mj_sp 3 (by decide +kernel) rfl rfl (fun _ _ => Nat.le_of_ble_eq_true rfl) ?_
  show mj_Ev jX6_dew 0 [some (.ref 0), some (.int x1), some (.int x2), some (.int x3), none, none, none] [] mx_S f g _
  unfold g_X6_dew at hg
  refine ev_aload_n (q := 1) dX6_dew_0 rfl rfl ?_
  refine ev_getfR (q := 4) mw_f_RX6_25 rfl rfl dX6_dew_1 rfl ?_
  refine ev_getfI (q := 7) mw_f_RX6_146 (by decide) (by decide) (mx_H mx_isH_4) dX6_dew_4 rfl ?_
  refine ev_if_ne (t := 13) (q := 10) dX6_dew_7 rfl rfl hg (fun hg => ?_) (fun hg => ?_)
  · refine ev_ldc (q := 12) mw_c_RX6_142 dX6_dew_10 rfl ?_
    obtain rfl := Option.some.inj hg
    exact ev_iret dX6_dew_12 rfl ⟨rfl, rfl, rfl⟩
  · refine ev_iload_n (q := 14) dX6_dew_13 rfl rfl ?_
    refine ev_callS (q := 17) kX6_isRow mw_t_X6_isRow mw_m_RX6_65 (r_X6_isRow rfl) rfl rfl (Nat.le_of_ble_eq_true rfl) (by decide) dX6_dew_14 rfl (fun v fv gv hp => ?_)
    obtain ⟨rfl, rfl, rfl, hr_1⟩ := hp
    refine ev_if_eq (t := 30) (q := 20) dX6_dew_17 rfl rfl hg (fun hg => ?_) (fun hg => ?_)
    · refine ev_ldc (q := 32) mw_c_RX6_73 dX6_dew_30 rfl ?_
      obtain rfl := Option.some.inj hg
      exact ev_iret dX6_dew_32 rfl ⟨rfl, rfl, rfl⟩
    · refine ev_iload_n (q := 21) dX6_dew_20 rfl rfl ?_
      refine ev_iconst (v := 1) (q := 22) dX6_dew_21 mci_1 rfl ?_
      refine ev_bipush (v := 12) (q := 24) dX6_dew_22 mcb_12 rfl ?_
      refine ev_callS (q := 27) kX6_within mw_t_X6_within mw_m_RX6_69 (r_X6_within rfl) rfl rfl (Nat.le_of_ble_eq_true rfl) (by decide) dX6_dew_24 rfl (fun v fv gv hp => ?_)
      obtain ⟨rfl, rfl, rfl, hr_2⟩ := hp
      refine ev_if_ne (t := 33) (q := 30) dX6_dew_27 rfl rfl hg (fun hg => ?_) (fun hg => ?_)
      · refine ev_ldc (q := 32) mw_c_RX6_73 dX6_dew_30 rfl ?_
        obtain rfl := Option.some.inj hg
        exact ev_iret dX6_dew_32 rfl ⟨rfl, rfl, rfl⟩
      · refine ev_aload_n (q := 34) dX6_dew_33 rfl rfl ?_
        refine ev_getfR (q := 37) mw_f_RX6_11 rfl rfl dX6_dew_34 rfl ?_
        refine ev_iload_n (q := 38) dX6_dew_37 rfl rfl ?_
        obtain ⟨hi_3, hg⟩ := mj_gd hg
        refine ev_aald (kd := 2) (q := 39) rfl (by decide) hi_3 (mx_rr_get hi_3) dX6_dew_38 rfl ?_
        refine ev_iload_n (q := 40) dX6_dew_39 rfl rfl ?_
        refine ev_iload_n (q := 41) dX6_dew_40 rfl rfl ?_
        refine ev_callV (q := 44) kX3_lack mw_i_X3_lack mw_s_X3_lack mw_m_RX6_85 (mx_R (mx_isR_of hi_3)) rfl (r_X3_lack (mx_isR_of hi_3) rfl) rfl rfl (Nat.le_of_ble_eq_true rfl) (by decide) dX6_dew_41 rfl (fun v fv gv hp => ?_)
        obtain ⟨rfl, rfl, rfl⟩ := hp
        refine ev_nmi (fun u_5 hu_5 => ?_)
        have hg := mj_lt_el hu_5 hg
        refine ev_istore (q := 46) (loc' := [some (.ref _), some (.int _), some (.int _), some (.int _), some (.int _), none, none]) dX6_dew_44 (by decide) rfl rfl ?_
        refine ev_iload (q := 48) dX6_dew_46 rfl rfl ?_
        refine ev_if_eq (t := 58) (q := 51) dX6_dew_48 rfl rfl hg (fun hg => ?_) (fun hg => ?_)
        · refine ev_iconst (v := 0) (q := 59) dX6_dew_58 mci_0 rfl ?_
          refine ev_istore (q := 61) (loc' := [some (.ref _), some (.int _), some (.int _), some (.int _), some (.int _), some (.int _), none]) dX6_dew_59 (by decide) rfl rfl ?_
          refine ev_iconst (v := 0) (q := 62) dX6_dew_61 mci_0 rfl ?_
          refine ev_istore (q := 64) (loc' := [some (.ref _), some (.int _), some (.int _), some (.int _), some (.int _), some (.int _), some (.int _)]) dX6_dew_62 (by decide) rfl rfl ?_
          obtain ⟨q_6, hq_6, hg⟩ := mj_bd hg
          refine ev_wk (loc' := [some (.ref _), some (.int _), some (.int _), some (.int _), none, some (.int _), some (.int _)]) ⟨rfl, rfl, rfl, rfl, rfl, rfl, trivial⟩ ?_
          refine r_X6_dew_64 mj_fuel _ _ _ _ _ _ _ hq_6 ?_
          refine ev_aload_n (q := 125) dX6_dew_124 rfl rfl ?_
          refine ev_iload (q := 127) dX6_dew_125 rfl rfl ?_
          obtain ⟨o_7, ho_7, hg⟩ := mj_lte hg
          refine ev_callV (q := 130) kX6_clean mw_i_X6_clean mw_s_X6_clean mw_m_RX6_82 rfl rfl (r_X6_clean ho_7) rfl rfl (Nat.le_of_ble_eq_true rfl) (by decide) dX6_dew_127 rfl (fun v fv gv hp => ?_)
          obtain ⟨rfl, rfl, rfl⟩ := hp
          obtain rfl := Option.some.inj hg
          exact ev_iret dX6_dew_130 rfl ⟨rfl, rfl, rfl⟩
        · refine ev_aload_n (q := 52) dX6_dew_51 rfl rfl ?_
          refine ev_iload (q := 54) dX6_dew_52 rfl rfl ?_
          obtain ⟨o_8, ho_8, hg⟩ := mj_lte hg
          refine ev_callV (q := 57) kX6_found mw_i_X6_found mw_s_X6_found mw_m_RX6_74 rfl rfl (r_X6_found ho_8) rfl rfl (Nat.le_of_ble_eq_true rfl) (by decide) dX6_dew_54 rfl (fun v fv gv hp => ?_)
          obtain ⟨rfl, rfl, rfl⟩ := hp
          obtain rfl := Option.some.inj hg
          exact ev_iret dX6_dew_57 rfl ⟨rfl, rfl, rfl⟩
def g_X6_tookWay_6 : Nat → Int32 → Int32 → Nat → Int32 → Int32 → Int32 → Int32 → mj_I → Option (Int32)
  | 0, _, _, _, _, _, _, _, _ => none
  | n + 1, x1, x3, a4, x5, x6, x7, x8, f =>
    if x8 < x6 then
     if mj_in x1 5 = true then
     (g_X2_blowing 4 x3 ((f 4 5) + x8) f).bind (fun o_2 =>
      mj_lt ((g_X1_driftedFrom (4 + 4 + (ix x1)) x7 o_2 f)) (fun u_4 =>
      if mj_in (x5 + x8) 40 = true then
      if (f (a4 + 1) (ix (x5 + x8))) = u_4 then
        g_X6_tookWay_6 n x1 x3 a4 x5 x6 u_4 (x8 + (1 : Int32)) f
       else
        some ((0 : Int32))
      else none))
     else none
    else
     some ((1 : Int32))
theorem r_X6_tookWay_6 {f : mj_I} {g : mj_L} : ∀ (n : Nat) (x1 : Int32) (x3 : Int32) (a4 : Nat) (x5 : Int32) (x6 : Int32) (x7 : Int32) (x8 : Int32) (o : Int32), mx_isR a4 → g_X6_tookWay_6 n x1 x3 a4 x5 x6 x7 x8 f = some o → mj_Ev jX6_tookWay 6 [some (.ref 0), some (.int x1), none, some (.int x3), some (.ref a4), some (.int x5), some (.int x6), some (.int x7), some (.int x8)] [] mx_S f g (fun v f' g' => some (.int o) = v ∧ f = f' ∧ g = g' ∧ mj_b (o) = true) := by
  intro n
  induction n with
  | zero =>
    intro x1 x3 a4 x5 x6 x7 x8 o h4 hg
    cases hg
  | succ n ih =>
    intro x1 x3 a4 x5 x6 x7 x8 o h4 hg
    unfold g_X6_tookWay_6 at hg
    refine ev_iload (q := 8) dX6_tookWay_6 rfl rfl ?_
    refine ev_iload (q := 10) dX6_tookWay_8 rfl rfl ?_
    refine ev_icmp_ge (t := 71) (q := 13) dX6_tookWay_10 rfl rfl hg (fun hg => ?_) (fun hg => ?_)
    · refine ev_aload_n (q := 14) dX6_tookWay_13 rfl rfl ?_
      refine ev_getfR (q := 17) mw_f_RX6_25 rfl rfl dX6_tookWay_14 rfl ?_
      refine ev_getfR (q := 20) mw_f_RX6_164 (mx_H mx_isH_4) rfl dX6_tookWay_17 rfl ?_
      refine ev_iload_n (q := 21) dX6_tookWay_20 rfl rfl ?_
      obtain ⟨hi_1, hg⟩ := mj_gd hg
      refine ev_aald (kd := 0) (q := 22) (mx_HC mx_isH_4) (by decide) hi_1 (mx_cr_get hi_1) dX6_tookWay_21 rfl ?_
      refine ev_iload (q := 24) dX6_tookWay_22 rfl rfl ?_
      refine ev_aload_n (q := 25) dX6_tookWay_24 rfl rfl ?_
      refine ev_getfR (q := 28) mw_f_RX6_25 rfl rfl dX6_tookWay_25 rfl ?_
      refine ev_iload_n (q := 29) dX6_tookWay_28 rfl rfl ?_
      refine ev_aload_n (q := 30) dX6_tookWay_29 rfl rfl ?_
      refine ev_getfR (q := 33) mw_f_RX6_25 rfl rfl dX6_tookWay_30 rfl ?_
      refine ev_getfI (q := 36) mw_f_RX6_149 (by decide) (by decide) (mx_H mx_isH_4) dX6_tookWay_33 rfl ?_
      refine ev_iload (q := 38) dX6_tookWay_36 rfl rfl ?_
      refine ev_iadd (q := 39) dX6_tookWay_38 rfl ?_
      obtain ⟨o_2, ho_2, hg⟩ := mj_bd hg
      refine ev_callV (q := 42) kX2_blowing mw_i_X2_blowing mw_s_X2_blowing mw_m_RX6_207 (mx_H mx_isH_4) rfl (r_X2_blowing mx_isH_4 ho_2) rfl rfl (Nat.le_of_ble_eq_true rfl) (by decide) dX6_tookWay_39 rfl (fun v fv gv hp => ?_)
      obtain ⟨rfl, rfl, rfl⟩ := hp
      refine ev_callV (q := 45) kX1_driftedFrom mw_i_X1_driftedFrom mw_s_X1_driftedFrom mw_m_RX6_295 (mx_C (mx_isC_of mx_isH_4 hi_1)) rfl (r_X1_driftedFrom (mx_isC_of mx_isH_4 hi_1) rfl) rfl rfl (Nat.le_of_ble_eq_true rfl) (by decide) dX6_tookWay_42 rfl (fun v fv gv hp => ?_)
      obtain ⟨rfl, rfl, rfl⟩ := hp
      refine ev_nmi (fun u_4 hu_4 => ?_)
      have hg := mj_lt_el hu_4 hg
      refine ev_istore (q := 47) (loc' := [some (.ref _), some (.int _), none, some (.int _), some (.ref _), some (.int _), some (.int _), some (.int _), some (.int _)]) dX6_tookWay_45 (by decide) rfl rfl ?_
      refine ev_aload (q := 49) dX6_tookWay_47 rfl rfl ?_
      refine ev_getfR (q := 52) mw_f_RX6_103 (mx_R h4) rfl dX6_tookWay_49 rfl ?_
      refine ev_iload (q := 54) dX6_tookWay_52 rfl rfl ?_
      refine ev_iload (q := 56) dX6_tookWay_54 rfl rfl ?_
      refine ev_iadd (q := 57) dX6_tookWay_56 rfl ?_
      obtain ⟨hi_5, hg⟩ := mj_gd hg
      refine ev_ialdk (q := 58) (mx_RI h4) hi_5 rfl dX6_tookWay_57 rfl ?_
      refine ev_iload (q := 60) dX6_tookWay_58 rfl rfl ?_
      refine ev_icmp_eq (t := 65) (q := 63) dX6_tookWay_60 rfl rfl hg (fun hg => ?_) (fun hg => ?_)
      · refine ev_iinc (v := 1) (q := 68) (loc' := [some (.ref _), some (.int _), none, some (.int _), some (.ref _), some (.int _), some (.int _), some (.int _), some (.int _)]) dX6_tookWay_65 rfl (by decide) mci_1 rfl rfl ?_
        refine ev_goto (q := 6) dX6_tookWay_68 rfl ?_
        exact ih _ _ _ _ _ _ _ _ h4 hg
      · refine ev_iconst (v := 0) (q := 64) dX6_tookWay_63 mci_0 rfl ?_
        obtain rfl := Option.some.inj hg
        exact ev_zret dX6_tookWay_64 rfl (mcz_0) ⟨rfl, rfl, rfl, (mcz_0)⟩
    · refine ev_iconst (v := 1) (q := 72) dX6_tookWay_71 mci_1 rfl ?_
      obtain rfl := Option.some.inj hg
      exact ev_zret dX6_tookWay_72 rfl (mcz_1) ⟨rfl, rfl, rfl, (mcz_1)⟩
def g_X6_tookWay (x1 : Int32) (x2 : Int32) (x3 : Int32) (a4 : Nat) (x5 : Int32) (x6 : Int32) (f : mj_I) : Option (Int32) :=
  g_X6_tookWay_6 mj_fuel x1 x3 a4 x5 x6 x2 (0 : Int32) f
theorem r_X6_tookWay {x1 : Int32} {x2 : Int32} {x3 : Int32} {a4 : Nat} {x5 : Int32} {x6 : Int32} {f : mj_I} {g : mj_L} {o : Int32} (h4 : mx_isR a4) (hg : g_X6_tookWay x1 x2 x3 a4 x5 x6 f = some o) : mj_Sp jX6_tookWay mx_S [.ref 0, .int x1, .int x2, .int x3, .ref a4, .int x5, .int x6] f g (fun v f' g' => some (.int o) = v ∧ f = f' ∧ g = g' ∧ mj_b (o) = true) := by
  refine mj_sp 2 (by decide +kernel) rfl rfl (fun _ _ => Nat.le_of_ble_eq_true rfl) ?_
  show mj_Ev jX6_tookWay 0 [some (.ref 0), some (.int x1), some (.int x2), some (.int x3), some (.ref a4), some (.int x5), some (.int x6), none, none] [] mx_S f g _
  unfold g_X6_tookWay at hg
  refine ev_iload_n (q := 1) dX6_tookWay_0 rfl rfl ?_
  refine ev_istore (q := 3) (loc' := [some (.ref _), some (.int _), some (.int _), some (.int _), some (.ref _), some (.int _), some (.int _), some (.int _), none]) dX6_tookWay_1 (by decide) rfl rfl ?_
  refine ev_iconst (v := 0) (q := 4) dX6_tookWay_3 mci_0 rfl ?_
  refine ev_istore (q := 6) (loc' := [some (.ref _), some (.int _), some (.int _), some (.int _), some (.ref _), some (.int _), some (.int _), some (.int _), some (.int _)]) dX6_tookWay_4 (by decide) rfl rfl ?_
  refine ev_wk (loc' := [some (.ref _), some (.int _), none, some (.int _), some (.ref _), some (.int _), some (.int _), some (.int _), some (.int _)]) ⟨rfl, rfl, rfl, rfl, rfl, rfl, rfl, rfl, trivial⟩ ?_
  exact r_X6_tookWay_6 mj_fuel _ _ _ _ _ _ _ _ h4 hg
def g_X6_lost_86 : Nat → Int32 → Int32 → Int32 → Int32 → Int32 → Int32 → Int32 → Int32 → Int32 → mj_I → Option (Int32 × Int32 × mj_I)
  | 0, _, _, _, _, _, _, _, _, _, _ => none
  | n + 1, x1, x2, x3, x4, x5, x6, x8, x9, x10, f =>
    if x10 < 0 then
     some ((x8, x9, f))
    else
     if mj_in x3 8 = true then
     (g_X6_tookWay x1 x10 x2 (28 + 2 * (ix x3)) x4 x5 f).bind (fun o_14 =>
      if o_14 = 0 then
       g_X6_lost_86 n x1 x2 x3 x4 x5 x6 x8 x9 (x10 + (-1 : Int32)) f
      else
       g_X6_lost_86 n x1 x2 x3 x4 x5 x6 (x8 + (1 : Int32)) x10 (x10 + (-1 : Int32)) f)
     else none
theorem r_X6_lost_86 {g : mj_L} {post : Option Value → mj_I → mj_L → Prop} : ∀ (n : Nat) (x1 : Int32) (x2 : Int32) (x3 : Int32) (x4 : Int32) (x5 : Int32) (x6 : Int32) (x8 : Int32) (x9 : Int32) (x10 : Int32) (f : mj_I) (o : Int32 × Int32 × mj_I), g_X6_lost_86 n x1 x2 x3 x4 x5 x6 x8 x9 x10 f = some o → mj_Ev jX6_lost 125 [some (.ref 0), none, none, none, none, none, some (.int x6), none, some (.int o.1), some (.int o.2.1), none] [] mx_S o.2.2 g post → mj_Ev jX6_lost 86 [some (.ref 0), some (.int x1), some (.int x2), some (.int x3), some (.int x4), some (.int x5), some (.int x6), none, some (.int x8), some (.int x9), some (.int x10)] [] mx_S f g post := by
  intro n
  induction n with
  | zero =>
    intro x1 x2 x3 x4 x5 x6 x8 x9 x10 f o hg hk
    cases hg
  | succ n ih =>
    intro x1 x2 x3 x4 x5 x6 x8 x9 x10 f o hg hk
    unfold g_X6_lost_86 at hg
    refine ev_iload (q := 88) dX6_lost_86 rfl rfl ?_
    refine ev_if_lt (t := 125) (q := 91) dX6_lost_88 rfl rfl hg (fun hg => ?_) (fun hg => ?_)
    · obtain rfl := Option.some.inj hg
      refine ev_wk (loc' := [some (.ref _), none, none, none, none, none, some (.int _), none, some (.int _), some (.int _), none]) ⟨rfl, rfl, rfl, rfl, trivial⟩ ?_
      exact hk
    · refine ev_aload_n (q := 92) dX6_lost_91 rfl rfl ?_
      refine ev_iload_n (q := 93) dX6_lost_92 rfl rfl ?_
      refine ev_iload (q := 95) dX6_lost_93 rfl rfl ?_
      refine ev_iload_n (q := 96) dX6_lost_95 rfl rfl ?_
      refine ev_aload_n (q := 97) dX6_lost_96 rfl rfl ?_
      refine ev_getfR (q := 100) mw_f_RX6_11 rfl rfl dX6_lost_97 rfl ?_
      refine ev_iload_n (q := 101) dX6_lost_100 rfl rfl ?_
      obtain ⟨hi_13, hg⟩ := mj_gd hg
      refine ev_aald (kd := 2) (q := 102) rfl (by decide) hi_13 (mx_rr_get hi_13) dX6_lost_101 rfl ?_
      refine ev_iload (q := 104) dX6_lost_102 rfl rfl ?_
      refine ev_iload (q := 106) dX6_lost_104 rfl rfl ?_
      obtain ⟨o_14, ho_14, hg⟩ := mj_bd hg
      refine ev_callV (q := 109) kX6_tookWay mw_i_X6_tookWay mw_s_X6_tookWay mw_m_RX6_238 rfl rfl (r_X6_tookWay (mx_isR_of hi_13) ho_14) rfl rfl (Nat.le_of_ble_eq_true rfl) (by decide) dX6_lost_106 rfl (fun v fv gv hp => ?_)
      obtain ⟨rfl, rfl, rfl, hr_14⟩ := hp
      refine ev_if_eq (t := 119) (q := 112) dX6_lost_109 rfl rfl hg (fun hg => ?_) (fun hg => ?_)
      · refine ev_iinc (v := -1) (q := 122) (loc' := [some (.ref _), some (.int _), some (.int _), some (.int _), some (.int _), some (.int _), some (.int _), none, some (.int _), some (.int _), some (.int _)]) dX6_lost_119 rfl (by decide) mci_m1 rfl rfl ?_
        refine ev_goto (q := 86) dX6_lost_122 rfl ?_
        exact ih _ _ _ _ _ _ _ _ _ _ _ hg hk
      · refine ev_iinc (v := 1) (q := 115) (loc' := [some (.ref _), some (.int _), some (.int _), some (.int _), some (.int _), some (.int _), some (.int _), none, some (.int _), some (.int _), some (.int _)]) dX6_lost_112 rfl (by decide) mci_1 rfl rfl ?_
        refine ev_iload (q := 117) dX6_lost_115 rfl rfl ?_
        refine ev_istore (q := 119) (loc' := [some (.ref _), some (.int _), some (.int _), some (.int _), some (.int _), some (.int _), some (.int _), none, some (.int _), some (.int _), some (.int _)]) dX6_lost_117 (by decide) rfl rfl ?_
        refine ev_iinc (v := -1) (q := 122) (loc' := [some (.ref _), some (.int _), some (.int _), some (.int _), some (.int _), some (.int _), some (.int _), none, some (.int _), some (.int _), some (.int _)]) dX6_lost_119 rfl (by decide) mci_m1 rfl rfl ?_
        refine ev_goto (q := 86) dX6_lost_122 rfl ?_
        exact ih _ _ _ _ _ _ _ _ _ _ _ hg hk
def g_X6_lost (x1 : Int32) (x2 : Int32) (x3 : Int32) (x4 : Int32) (x5 : Int32) (x6 : Int32) (f : mj_I) : Option (Int32 × mj_I) :=
  if (g_X6_isCloud x1 f) = 0 then
   some (((-1000001 : Int32), f))
  else
   if (g_X6_within x2 (0 : Int32) (1 : Int32)) = 0 then
    some (((-1000001 : Int32), f))
   else
    if (g_X6_isRow x3) = 0 then
     some (((-1000001 : Int32), f))
    else
     if (g_X6_within x5 (1 : Int32) (12 : Int32)) = 0 then
      some (((-1000001 : Int32), f))
     else
      if (g_X6_within x6 (0 : Int32) (1 : Int32)) = 0 then
       some (((-1000001 : Int32), f))
      else
       if mj_in x3 8 = true then
       mj_lt ((g_X3_lack (28 + 2 * (ix x3)) x4 x5 f)) (fun u_8 =>
        if u_8 = 0 then
         (g_X6_lost_86 mj_fuel x1 x2 x3 x4 x5 x6 (0 : Int32) (-1000000 : Int32) (31 : Int32) f).bind (fun q_9 =>
         if x6 = 0 then
          mj_lt (g_X6_clean q_9.1 q_9.2.2) (fun o_10 =>
          some ((o_10.1, o_10.2)))
         else
          mj_lt (g_X6_clean q_9.2.1 q_9.2.2) (fun o_11 =>
          some ((o_11.1, o_11.2))))
        else
         mj_lt (g_X6_found u_8 f) (fun o_12 =>
         some ((o_12.1, o_12.2))))
       else none
theorem r_X6_lost {x1 : Int32} {x2 : Int32} {x3 : Int32} {x4 : Int32} {x5 : Int32} {x6 : Int32} {f : mj_I} {g : mj_L} {o : Int32 × mj_I} (hg : g_X6_lost x1 x2 x3 x4 x5 x6 f = some o) : mj_Sp jX6_lost mx_S [.ref 0, .int x1, .int x2, .int x3, .int x4, .int x5, .int x6] f g (fun v f' g' => some (.int o.1) = v ∧ o.2 = f' ∧ g = g') := by
  refine mj_sp 4 (by decide +kernel) rfl rfl (fun _ _ => Nat.le_of_ble_eq_true rfl) ?_
  show mj_Ev jX6_lost 0 [some (.ref 0), some (.int x1), some (.int x2), some (.int x3), some (.int x4), some (.int x5), some (.int x6), none, none, none, none] [] mx_S f g _
  unfold g_X6_lost at hg
  refine ev_aload_n (q := 1) dX6_lost_0 rfl rfl ?_
  refine ev_iload_n (q := 2) dX6_lost_1 rfl rfl ?_
  refine ev_callV (q := 5) kX6_isCloud mw_i_X6_isCloud mw_s_X6_isCloud mw_m_RX6_161 rfl rfl (r_X6_isCloud rfl) rfl rfl (Nat.le_of_ble_eq_true rfl) (by decide) dX6_lost_2 rfl (fun v fv gv hp => ?_)
  obtain ⟨rfl, rfl, rfl, hr_1⟩ := hp
  refine ev_if_eq (t := 45) (q := 8) dX6_lost_5 rfl rfl hg (fun hg => ?_) (fun hg => ?_)
  · refine ev_ldc (q := 47) mw_c_RX6_73 dX6_lost_45 rfl ?_
    obtain rfl := Option.some.inj hg
    exact ev_iret dX6_lost_47 rfl ⟨rfl, rfl, rfl⟩
  · refine ev_iload_n (q := 9) dX6_lost_8 rfl rfl ?_
    refine ev_iconst (v := 0) (q := 10) dX6_lost_9 mci_0 rfl ?_
    refine ev_iconst (v := 1) (q := 11) dX6_lost_10 mci_1 rfl ?_
    refine ev_callS (q := 14) kX6_within mw_t_X6_within mw_m_RX6_69 (r_X6_within rfl) rfl rfl (Nat.le_of_ble_eq_true rfl) (by decide) dX6_lost_11 rfl (fun v fv gv hp => ?_)
    obtain ⟨rfl, rfl, rfl, hr_2⟩ := hp
    refine ev_if_eq (t := 45) (q := 17) dX6_lost_14 rfl rfl hg (fun hg => ?_) (fun hg => ?_)
    · refine ev_ldc (q := 47) mw_c_RX6_73 dX6_lost_45 rfl ?_
      obtain rfl := Option.some.inj hg
      exact ev_iret dX6_lost_47 rfl ⟨rfl, rfl, rfl⟩
    · refine ev_iload_n (q := 18) dX6_lost_17 rfl rfl ?_
      refine ev_callS (q := 21) kX6_isRow mw_t_X6_isRow mw_m_RX6_65 (r_X6_isRow rfl) rfl rfl (Nat.le_of_ble_eq_true rfl) (by decide) dX6_lost_18 rfl (fun v fv gv hp => ?_)
      obtain ⟨rfl, rfl, rfl, hr_3⟩ := hp
      refine ev_if_eq (t := 45) (q := 24) dX6_lost_21 rfl rfl hg (fun hg => ?_) (fun hg => ?_)
      · refine ev_ldc (q := 47) mw_c_RX6_73 dX6_lost_45 rfl ?_
        obtain rfl := Option.some.inj hg
        exact ev_iret dX6_lost_47 rfl ⟨rfl, rfl, rfl⟩
      · refine ev_iload (q := 26) dX6_lost_24 rfl rfl ?_
        refine ev_iconst (v := 1) (q := 27) dX6_lost_26 mci_1 rfl ?_
        refine ev_bipush (v := 12) (q := 29) dX6_lost_27 mcb_12 rfl ?_
        refine ev_callS (q := 32) kX6_within mw_t_X6_within mw_m_RX6_69 (r_X6_within rfl) rfl rfl (Nat.le_of_ble_eq_true rfl) (by decide) dX6_lost_29 rfl (fun v fv gv hp => ?_)
        obtain ⟨rfl, rfl, rfl, hr_4⟩ := hp
        refine ev_if_eq (t := 45) (q := 35) dX6_lost_32 rfl rfl hg (fun hg => ?_) (fun hg => ?_)
        · refine ev_ldc (q := 47) mw_c_RX6_73 dX6_lost_45 rfl ?_
          obtain rfl := Option.some.inj hg
          exact ev_iret dX6_lost_47 rfl ⟨rfl, rfl, rfl⟩
        · refine ev_iload (q := 37) dX6_lost_35 rfl rfl ?_
          refine ev_iconst (v := 0) (q := 38) dX6_lost_37 mci_0 rfl ?_
          refine ev_iconst (v := 1) (q := 39) dX6_lost_38 mci_1 rfl ?_
          refine ev_callS (q := 42) kX6_within mw_t_X6_within mw_m_RX6_69 (r_X6_within rfl) rfl rfl (Nat.le_of_ble_eq_true rfl) (by decide) dX6_lost_39 rfl (fun v fv gv hp => ?_)
          obtain ⟨rfl, rfl, rfl, hr_5⟩ := hp
          refine ev_if_ne (t := 48) (q := 45) dX6_lost_42 rfl rfl hg (fun hg => ?_) (fun hg => ?_)
          · refine ev_ldc (q := 47) mw_c_RX6_73 dX6_lost_45 rfl ?_
            obtain rfl := Option.some.inj hg
            exact ev_iret dX6_lost_47 rfl ⟨rfl, rfl, rfl⟩
          · refine ev_aload_n (q := 49) dX6_lost_48 rfl rfl ?_
            refine ev_getfR (q := 52) mw_f_RX6_11 rfl rfl dX6_lost_49 rfl ?_
            refine ev_iload_n (q := 53) dX6_lost_52 rfl rfl ?_
            obtain ⟨hi_6, hg⟩ := mj_gd hg
            refine ev_aald (kd := 2) (q := 54) rfl (by decide) hi_6 (mx_rr_get hi_6) dX6_lost_53 rfl ?_
            refine ev_iload (q := 56) dX6_lost_54 rfl rfl ?_
            refine ev_iload (q := 58) dX6_lost_56 rfl rfl ?_
            refine ev_callV (q := 61) kX3_lack mw_i_X3_lack mw_s_X3_lack mw_m_RX6_85 (mx_R (mx_isR_of hi_6)) rfl (r_X3_lack (mx_isR_of hi_6) rfl) rfl rfl (Nat.le_of_ble_eq_true rfl) (by decide) dX6_lost_58 rfl (fun v fv gv hp => ?_)
            obtain ⟨rfl, rfl, rfl⟩ := hp
            refine ev_nmi (fun u_8 hu_8 => ?_)
            have hg := mj_lt_el hu_8 hg
            refine ev_istore (q := 63) (loc' := [some (.ref _), some (.int _), some (.int _), some (.int _), some (.int _), some (.int _), some (.int _), some (.int _), none, none, none]) dX6_lost_61 (by decide) rfl rfl ?_
            refine ev_iload (q := 65) dX6_lost_63 rfl rfl ?_
            refine ev_if_eq (t := 75) (q := 68) dX6_lost_65 rfl rfl hg (fun hg => ?_) (fun hg => ?_)
            · refine ev_iconst (v := 0) (q := 76) dX6_lost_75 mci_0 rfl ?_
              refine ev_istore (q := 78) (loc' := [some (.ref _), some (.int _), some (.int _), some (.int _), some (.int _), some (.int _), some (.int _), some (.int _), some (.int _), none, none]) dX6_lost_76 (by decide) rfl rfl ?_
              refine ev_ldc (q := 80) mw_c_RX6_216 dX6_lost_78 rfl ?_
              refine ev_istore (q := 82) (loc' := [some (.ref _), some (.int _), some (.int _), some (.int _), some (.int _), some (.int _), some (.int _), some (.int _), some (.int _), some (.int _), none]) dX6_lost_80 (by decide) rfl rfl ?_
              refine ev_bipush (v := 31) (q := 84) dX6_lost_82 mcb_31 rfl ?_
              refine ev_istore (q := 86) (loc' := [some (.ref _), some (.int _), some (.int _), some (.int _), some (.int _), some (.int _), some (.int _), some (.int _), some (.int _), some (.int _), some (.int _)]) dX6_lost_84 (by decide) rfl rfl ?_
              obtain ⟨q_9, hq_9, hg⟩ := mj_bd hg
              refine ev_wk (loc' := [some (.ref _), some (.int _), some (.int _), some (.int _), some (.int _), some (.int _), some (.int _), none, some (.int _), some (.int _), some (.int _)]) ⟨rfl, rfl, rfl, rfl, rfl, rfl, rfl, rfl, rfl, rfl, trivial⟩ ?_
              refine r_X6_lost_86 mj_fuel _ _ _ _ _ _ _ _ _ _ _ hq_9 ?_
              refine ev_aload_n (q := 126) dX6_lost_125 rfl rfl ?_
              refine ev_iload (q := 128) dX6_lost_126 rfl rfl ?_
              refine ev_if_ne (t := 136) (q := 131) dX6_lost_128 rfl rfl hg (fun hg => ?_) (fun hg => ?_)
              · refine ev_iload (q := 133) dX6_lost_131 rfl rfl ?_
                refine ev_goto (q := 138) dX6_lost_133 rfl ?_
                obtain ⟨o_10, ho_10, hg⟩ := mj_lte hg
                refine ev_callV (q := 141) kX6_clean mw_i_X6_clean mw_s_X6_clean mw_m_RX6_82 rfl rfl (r_X6_clean ho_10) rfl rfl (Nat.le_of_ble_eq_true rfl) (by decide) dX6_lost_138 rfl (fun v fv gv hp => ?_)
                obtain ⟨rfl, rfl, rfl⟩ := hp
                obtain rfl := Option.some.inj hg
                exact ev_iret dX6_lost_141 rfl ⟨rfl, rfl, rfl⟩
              · refine ev_iload (q := 138) dX6_lost_136 rfl rfl ?_
                obtain ⟨o_11, ho_11, hg⟩ := mj_lte hg
                refine ev_callV (q := 141) kX6_clean mw_i_X6_clean mw_s_X6_clean mw_m_RX6_82 rfl rfl (r_X6_clean ho_11) rfl rfl (Nat.le_of_ble_eq_true rfl) (by decide) dX6_lost_138 rfl (fun v fv gv hp => ?_)
                obtain ⟨rfl, rfl, rfl⟩ := hp
                obtain rfl := Option.some.inj hg
                exact ev_iret dX6_lost_141 rfl ⟨rfl, rfl, rfl⟩
            · refine ev_aload_n (q := 69) dX6_lost_68 rfl rfl ?_
              refine ev_iload (q := 71) dX6_lost_69 rfl rfl ?_
              obtain ⟨o_12, ho_12, hg⟩ := mj_lte hg
              refine ev_callV (q := 74) kX6_found mw_i_X6_found mw_s_X6_found mw_m_RX6_74 rfl rfl (r_X6_found ho_12) rfl rfl (Nat.le_of_ble_eq_true rfl) (by decide) dX6_lost_71 rfl (fun v fv gv hp => ?_)
              obtain ⟨rfl, rfl, rfl⟩ := hp
              obtain rfl := Option.some.inj hg
              exact ev_iret dX6_lost_74 rfl ⟨rfl, rfl, rfl⟩
def g_X6_flewSo_3 : Nat → Int32 → Int32 → Nat → Int32 → Int32 → Int32 → mj_I → Option (Int32)
  | 0, _, _, _, _, _, _, _ => none
  | n + 1, x1, x2, a3, x4, x5, x6, f =>
    if x6 < x5 then
     if mj_in (x4 + x6) 40 = true then
     (g_X2_blowing 4 x1 (x2 + x6) f).bind (fun o_2 =>
      if (f (a3 + 1) (ix (x4 + x6))) = o_2 then
       g_X6_flewSo_3 n x1 x2 a3 x4 x5 (x6 + (1 : Int32)) f
      else
       some ((0 : Int32)))
     else none
    else
     some ((1 : Int32))
theorem r_X6_flewSo_3 {f : mj_I} {g : mj_L} : ∀ (n : Nat) (x1 : Int32) (x2 : Int32) (a3 : Nat) (x4 : Int32) (x5 : Int32) (x6 : Int32) (o : Int32), mx_isR a3 → g_X6_flewSo_3 n x1 x2 a3 x4 x5 x6 f = some o → mj_Ev jX6_flewSo 3 [some (.ref 0), some (.int x1), some (.int x2), some (.ref a3), some (.int x4), some (.int x5), some (.int x6)] [] mx_S f g (fun v f' g' => some (.int o) = v ∧ f = f' ∧ g = g' ∧ mj_b (o) = true) := by
  intro n
  induction n with
  | zero =>
    intro x1 x2 a3 x4 x5 x6 o h3 hg
    cases hg
  | succ n ih =>
    intro x1 x2 a3 x4 x5 x6 o h3 hg
    unfold g_X6_flewSo_3 at hg
    refine ev_iload (q := 5) dX6_flewSo_3 rfl rfl ?_
    refine ev_iload (q := 7) dX6_flewSo_5 rfl rfl ?_
    refine ev_icmp_ge (t := 43) (q := 10) dX6_flewSo_7 rfl rfl hg (fun hg => ?_) (fun hg => ?_)
    · refine ev_aload_n (q := 11) dX6_flewSo_10 rfl rfl ?_
      refine ev_getfR (q := 14) mw_f_RX6_103 (mx_R h3) rfl dX6_flewSo_11 rfl ?_
      refine ev_iload (q := 16) dX6_flewSo_14 rfl rfl ?_
      refine ev_iload (q := 18) dX6_flewSo_16 rfl rfl ?_
      refine ev_iadd (q := 19) dX6_flewSo_18 rfl ?_
      obtain ⟨hi_1, hg⟩ := mj_gd hg
      refine ev_ialdk (q := 20) (mx_RI h3) hi_1 rfl dX6_flewSo_19 rfl ?_
      refine ev_aload_n (q := 21) dX6_flewSo_20 rfl rfl ?_
      refine ev_getfR (q := 24) mw_f_RX6_25 rfl rfl dX6_flewSo_21 rfl ?_
      refine ev_iload_n (q := 25) dX6_flewSo_24 rfl rfl ?_
      refine ev_iload_n (q := 26) dX6_flewSo_25 rfl rfl ?_
      refine ev_iload (q := 28) dX6_flewSo_26 rfl rfl ?_
      refine ev_iadd (q := 29) dX6_flewSo_28 rfl ?_
      obtain ⟨o_2, ho_2, hg⟩ := mj_bd hg
      refine ev_callV (q := 32) kX2_blowing mw_i_X2_blowing mw_s_X2_blowing mw_m_RX6_207 (mx_H mx_isH_4) rfl (r_X2_blowing mx_isH_4 ho_2) rfl rfl (Nat.le_of_ble_eq_true rfl) (by decide) dX6_flewSo_29 rfl (fun v fv gv hp => ?_)
      obtain ⟨rfl, rfl, rfl⟩ := hp
      refine ev_icmp_eq (t := 37) (q := 35) dX6_flewSo_32 rfl rfl hg (fun hg => ?_) (fun hg => ?_)
      · refine ev_iinc (v := 1) (q := 40) (loc' := [some (.ref _), some (.int _), some (.int _), some (.ref _), some (.int _), some (.int _), some (.int _)]) dX6_flewSo_37 rfl (by decide) mci_1 rfl rfl ?_
        refine ev_goto (q := 3) dX6_flewSo_40 rfl ?_
        exact ih _ _ _ _ _ _ _ h3 hg
      · refine ev_iconst (v := 0) (q := 36) dX6_flewSo_35 mci_0 rfl ?_
        obtain rfl := Option.some.inj hg
        exact ev_zret dX6_flewSo_36 rfl (mcz_0) ⟨rfl, rfl, rfl, (mcz_0)⟩
    · refine ev_iconst (v := 1) (q := 44) dX6_flewSo_43 mci_1 rfl ?_
      obtain rfl := Option.some.inj hg
      exact ev_zret dX6_flewSo_44 rfl (mcz_1) ⟨rfl, rfl, rfl, (mcz_1)⟩
def g_X6_flewSo (x1 : Int32) (x2 : Int32) (a3 : Nat) (x4 : Int32) (x5 : Int32) (f : mj_I) : Option (Int32) :=
  g_X6_flewSo_3 mj_fuel x1 x2 a3 x4 x5 (0 : Int32) f
theorem r_X6_flewSo {x1 : Int32} {x2 : Int32} {a3 : Nat} {x4 : Int32} {x5 : Int32} {f : mj_I} {g : mj_L} {o : Int32} (h3 : mx_isR a3) (hg : g_X6_flewSo x1 x2 a3 x4 x5 f = some o) : mj_Sp jX6_flewSo mx_S [.ref 0, .int x1, .int x2, .ref a3, .int x4, .int x5] f g (fun v f' g' => some (.int o) = v ∧ f = f' ∧ g = g' ∧ mj_b (o) = true) := by
  refine mj_sp 1 (by decide +kernel) rfl rfl (fun _ _ => Nat.le_of_ble_eq_true rfl) ?_
  show mj_Ev jX6_flewSo 0 [some (.ref 0), some (.int x1), some (.int x2), some (.ref a3), some (.int x4), some (.int x5), none] [] mx_S f g _
  unfold g_X6_flewSo at hg
  refine ev_iconst (v := 0) (q := 1) dX6_flewSo_0 mci_0 rfl ?_
  refine ev_istore (q := 3) (loc' := [some (.ref _), some (.int _), some (.int _), some (.ref _), some (.int _), some (.int _), some (.int _)]) dX6_flewSo_1 (by decide) rfl rfl ?_
  exact r_X6_flewSo_3 mj_fuel _ _ _ _ _ _ _ h3 hg
def g_X6_kite_79 : Nat → Int32 → Int32 → Int32 → Int32 → Int32 → Int32 → Int32 → mj_I → Option (Int32 × Int32 × mj_I)
  | 0, _, _, _, _, _, _, _, _ => none
  | n + 1, x1, x2, x3, x4, x6, x7, x8, f =>
    if x8 < 0 then
     some ((x6, x7, f))
    else
     if mj_in x1 8 = true then
     (g_X6_flewSo (x8 / (6 : Int32)) (x8 - x8 / (6 : Int32) * (6 : Int32)) (28 + 2 * (ix x1)) x2 x3 f).bind (fun o_12 =>
      if o_12 = 0 then
       g_X6_kite_79 n x1 x2 x3 x4 x6 x7 (x8 + (-1 : Int32)) f
      else
       g_X6_kite_79 n x1 x2 x3 x4 (x6 + (1 : Int32)) x8 (x8 + (-1 : Int32)) f)
     else none
theorem r_X6_kite_79 {g : mj_L} {post : Option Value → mj_I → mj_L → Prop} : ∀ (n : Nat) (x1 : Int32) (x2 : Int32) (x3 : Int32) (x4 : Int32) (x6 : Int32) (x7 : Int32) (x8 : Int32) (f : mj_I) (o : Int32 × Int32 × mj_I), g_X6_kite_79 n x1 x2 x3 x4 x6 x7 x8 f = some o → mj_Ev jX6_kite 122 [some (.ref 0), none, none, none, some (.int x4), none, some (.int o.1), some (.int o.2.1), none] [] mx_S o.2.2 g post → mj_Ev jX6_kite 79 [some (.ref 0), some (.int x1), some (.int x2), some (.int x3), some (.int x4), none, some (.int x6), some (.int x7), some (.int x8)] [] mx_S f g post := by
  intro n
  induction n with
  | zero =>
    intro x1 x2 x3 x4 x6 x7 x8 f o hg hk
    cases hg
  | succ n ih =>
    intro x1 x2 x3 x4 x6 x7 x8 f o hg hk
    unfold g_X6_kite_79 at hg
    refine ev_iload (q := 81) dX6_kite_79 rfl rfl ?_
    refine ev_if_lt (t := 122) (q := 84) dX6_kite_81 rfl rfl hg (fun hg => ?_) (fun hg => ?_)
    · obtain rfl := Option.some.inj hg
      refine ev_wk (loc' := [some (.ref _), none, none, none, some (.int _), none, some (.int _), some (.int _), none]) ⟨rfl, rfl, rfl, rfl, trivial⟩ ?_
      exact hk
    · refine ev_aload_n (q := 85) dX6_kite_84 rfl rfl ?_
      refine ev_iload (q := 87) dX6_kite_85 rfl rfl ?_
      refine ev_bipush (v := 6) (q := 89) dX6_kite_87 mcb_6 rfl ?_
      refine ev_idiv (q := 90) dX6_kite_89 (by decide) rfl ?_
      refine ev_iload (q := 92) dX6_kite_90 rfl rfl ?_
      refine ev_bipush (v := 6) (q := 94) dX6_kite_92 mcb_6 rfl ?_
      refine ev_irem (q := 95) dX6_kite_94 (by decide) rfl ?_
      refine ev_aload_n (q := 96) dX6_kite_95 rfl rfl ?_
      refine ev_getfR (q := 99) mw_f_RX6_11 rfl rfl dX6_kite_96 rfl ?_
      refine ev_iload_n (q := 100) dX6_kite_99 rfl rfl ?_
      obtain ⟨hi_11, hg⟩ := mj_gd hg
      refine ev_aald (kd := 2) (q := 101) rfl (by decide) hi_11 (mx_rr_get hi_11) dX6_kite_100 rfl ?_
      refine ev_iload_n (q := 102) dX6_kite_101 rfl rfl ?_
      refine ev_iload_n (q := 103) dX6_kite_102 rfl rfl ?_
      obtain ⟨o_12, ho_12, hg⟩ := mj_bd hg
      refine ev_callV (q := 106) kX6_flewSo mw_i_X6_flewSo mw_s_X6_flewSo mw_m_RX6_242 rfl rfl (r_X6_flewSo (mx_isR_of hi_11) ho_12) rfl rfl (Nat.le_of_ble_eq_true rfl) (by decide) dX6_kite_103 rfl (fun v fv gv hp => ?_)
      obtain ⟨rfl, rfl, rfl, hr_12⟩ := hp
      refine ev_if_eq (t := 116) (q := 109) dX6_kite_106 rfl rfl hg (fun hg => ?_) (fun hg => ?_)
      · refine ev_iinc (v := -1) (q := 119) (loc' := [some (.ref _), some (.int _), some (.int _), some (.int _), some (.int _), none, some (.int _), some (.int _), some (.int _)]) dX6_kite_116 rfl (by decide) mci_m1 rfl rfl ?_
        refine ev_goto (q := 79) dX6_kite_119 rfl ?_
        exact ih _ _ _ _ _ _ _ _ _ hg hk
      · refine ev_iinc (v := 1) (q := 112) (loc' := [some (.ref _), some (.int _), some (.int _), some (.int _), some (.int _), none, some (.int _), some (.int _), some (.int _)]) dX6_kite_109 rfl (by decide) mci_1 rfl rfl ?_
        refine ev_iload (q := 114) dX6_kite_112 rfl rfl ?_
        refine ev_istore (q := 116) (loc' := [some (.ref _), some (.int _), some (.int _), some (.int _), some (.int _), none, some (.int _), some (.int _), some (.int _)]) dX6_kite_114 (by decide) rfl rfl ?_
        refine ev_iinc (v := -1) (q := 119) (loc' := [some (.ref _), some (.int _), some (.int _), some (.int _), some (.int _), none, some (.int _), some (.int _), some (.int _)]) dX6_kite_116 rfl (by decide) mci_m1 rfl rfl ?_
        refine ev_goto (q := 79) dX6_kite_119 rfl ?_
        exact ih _ _ _ _ _ _ _ _ _ hg hk
def g_X6_kite (x1 : Int32) (x2 : Int32) (x3 : Int32) (x4 : Int32) (f : mj_I) : Option (Int32 × mj_I) :=
  if (f 4 0) = 0 then
   some (((-1000002 : Int32), f))
  else
   if (g_X6_isRow x1) = 0 then
    some (((-1000001 : Int32), f))
   else
    if (g_X6_within x3 (1 : Int32) (12 : Int32)) = 0 then
     some (((-1000001 : Int32), f))
    else
     if (g_X6_within x4 (0 : Int32) (1 : Int32)) = 0 then
      some (((-1000001 : Int32), f))
     else
      if mj_in x1 8 = true then
      mj_lt ((g_X3_lack (28 + 2 * (ix x1)) x2 x3 f)) (fun u_6 =>
       if u_6 = 0 then
        (g_X6_kite_79 mj_fuel x1 x2 x3 x4 (0 : Int32) (-1000000 : Int32) (11 : Int32) f).bind (fun q_7 =>
        if x4 = 0 then
         mj_lt (g_X6_clean q_7.1 q_7.2.2) (fun o_8 =>
         some ((o_8.1, o_8.2)))
        else
         mj_lt (g_X6_clean q_7.2.1 q_7.2.2) (fun o_9 =>
         some ((o_9.1, o_9.2))))
       else
        mj_lt (g_X6_found u_6 f) (fun o_10 =>
        some ((o_10.1, o_10.2))))
      else none
theorem r_X6_kite {x1 : Int32} {x2 : Int32} {x3 : Int32} {x4 : Int32} {f : mj_I} {g : mj_L} {o : Int32 × mj_I} (hg : g_X6_kite x1 x2 x3 x4 f = some o) : mj_Sp jX6_kite mx_S [.ref 0, .int x1, .int x2, .int x3, .int x4] f g (fun v f' g' => some (.int o.1) = v ∧ o.2 = f' ∧ g = g') := by
  refine mj_sp 4 (by decide +kernel) rfl rfl (fun _ _ => Nat.le_of_ble_eq_true rfl) ?_
  show mj_Ev jX6_kite 0 [some (.ref 0), some (.int x1), some (.int x2), some (.int x3), some (.int x4), none, none, none, none] [] mx_S f g _
  unfold g_X6_kite at hg
  refine ev_aload_n (q := 1) dX6_kite_0 rfl rfl ?_
  refine ev_getfR (q := 4) mw_f_RX6_25 rfl rfl dX6_kite_1 rfl ?_
  refine ev_getfI (q := 7) mw_f_RX6_146 (by decide) (by decide) (mx_H mx_isH_4) dX6_kite_4 rfl ?_
  refine ev_if_ne (t := 13) (q := 10) dX6_kite_7 rfl rfl hg (fun hg => ?_) (fun hg => ?_)
  · refine ev_ldc (q := 12) mw_c_RX6_142 dX6_kite_10 rfl ?_
    obtain rfl := Option.some.inj hg
    exact ev_iret dX6_kite_12 rfl ⟨rfl, rfl, rfl⟩
  · refine ev_iload_n (q := 14) dX6_kite_13 rfl rfl ?_
    refine ev_callS (q := 17) kX6_isRow mw_t_X6_isRow mw_m_RX6_65 (r_X6_isRow rfl) rfl rfl (Nat.le_of_ble_eq_true rfl) (by decide) dX6_kite_14 rfl (fun v fv gv hp => ?_)
    obtain ⟨rfl, rfl, rfl, hr_1⟩ := hp
    refine ev_if_eq (t := 40) (q := 20) dX6_kite_17 rfl rfl hg (fun hg => ?_) (fun hg => ?_)
    · refine ev_ldc (q := 42) mw_c_RX6_73 dX6_kite_40 rfl ?_
      obtain rfl := Option.some.inj hg
      exact ev_iret dX6_kite_42 rfl ⟨rfl, rfl, rfl⟩
    · refine ev_iload_n (q := 21) dX6_kite_20 rfl rfl ?_
      refine ev_iconst (v := 1) (q := 22) dX6_kite_21 mci_1 rfl ?_
      refine ev_bipush (v := 12) (q := 24) dX6_kite_22 mcb_12 rfl ?_
      refine ev_callS (q := 27) kX6_within mw_t_X6_within mw_m_RX6_69 (r_X6_within rfl) rfl rfl (Nat.le_of_ble_eq_true rfl) (by decide) dX6_kite_24 rfl (fun v fv gv hp => ?_)
      obtain ⟨rfl, rfl, rfl, hr_2⟩ := hp
      refine ev_if_eq (t := 40) (q := 30) dX6_kite_27 rfl rfl hg (fun hg => ?_) (fun hg => ?_)
      · refine ev_ldc (q := 42) mw_c_RX6_73 dX6_kite_40 rfl ?_
        obtain rfl := Option.some.inj hg
        exact ev_iret dX6_kite_42 rfl ⟨rfl, rfl, rfl⟩
      · refine ev_iload (q := 32) dX6_kite_30 rfl rfl ?_
        refine ev_iconst (v := 0) (q := 33) dX6_kite_32 mci_0 rfl ?_
        refine ev_iconst (v := 1) (q := 34) dX6_kite_33 mci_1 rfl ?_
        refine ev_callS (q := 37) kX6_within mw_t_X6_within mw_m_RX6_69 (r_X6_within rfl) rfl rfl (Nat.le_of_ble_eq_true rfl) (by decide) dX6_kite_34 rfl (fun v fv gv hp => ?_)
        obtain ⟨rfl, rfl, rfl, hr_3⟩ := hp
        refine ev_if_ne (t := 43) (q := 40) dX6_kite_37 rfl rfl hg (fun hg => ?_) (fun hg => ?_)
        · refine ev_ldc (q := 42) mw_c_RX6_73 dX6_kite_40 rfl ?_
          obtain rfl := Option.some.inj hg
          exact ev_iret dX6_kite_42 rfl ⟨rfl, rfl, rfl⟩
        · refine ev_aload_n (q := 44) dX6_kite_43 rfl rfl ?_
          refine ev_getfR (q := 47) mw_f_RX6_11 rfl rfl dX6_kite_44 rfl ?_
          refine ev_iload_n (q := 48) dX6_kite_47 rfl rfl ?_
          obtain ⟨hi_4, hg⟩ := mj_gd hg
          refine ev_aald (kd := 2) (q := 49) rfl (by decide) hi_4 (mx_rr_get hi_4) dX6_kite_48 rfl ?_
          refine ev_iload_n (q := 50) dX6_kite_49 rfl rfl ?_
          refine ev_iload_n (q := 51) dX6_kite_50 rfl rfl ?_
          refine ev_callV (q := 54) kX3_lack mw_i_X3_lack mw_s_X3_lack mw_m_RX6_85 (mx_R (mx_isR_of hi_4)) rfl (r_X3_lack (mx_isR_of hi_4) rfl) rfl rfl (Nat.le_of_ble_eq_true rfl) (by decide) dX6_kite_51 rfl (fun v fv gv hp => ?_)
          obtain ⟨rfl, rfl, rfl⟩ := hp
          refine ev_nmi (fun u_6 hu_6 => ?_)
          have hg := mj_lt_el hu_6 hg
          refine ev_istore (q := 56) (loc' := [some (.ref _), some (.int _), some (.int _), some (.int _), some (.int _), some (.int _), none, none, none]) dX6_kite_54 (by decide) rfl rfl ?_
          refine ev_iload (q := 58) dX6_kite_56 rfl rfl ?_
          refine ev_if_eq (t := 68) (q := 61) dX6_kite_58 rfl rfl hg (fun hg => ?_) (fun hg => ?_)
          · refine ev_iconst (v := 0) (q := 69) dX6_kite_68 mci_0 rfl ?_
            refine ev_istore (q := 71) (loc' := [some (.ref _), some (.int _), some (.int _), some (.int _), some (.int _), some (.int _), some (.int _), none, none]) dX6_kite_69 (by decide) rfl rfl ?_
            refine ev_ldc (q := 73) mw_c_RX6_216 dX6_kite_71 rfl ?_
            refine ev_istore (q := 75) (loc' := [some (.ref _), some (.int _), some (.int _), some (.int _), some (.int _), some (.int _), some (.int _), some (.int _), none]) dX6_kite_73 (by decide) rfl rfl ?_
            refine ev_bipush (v := 11) (q := 77) dX6_kite_75 mcb_11 rfl ?_
            refine ev_istore (q := 79) (loc' := [some (.ref _), some (.int _), some (.int _), some (.int _), some (.int _), some (.int _), some (.int _), some (.int _), some (.int _)]) dX6_kite_77 (by decide) rfl rfl ?_
            obtain ⟨q_7, hq_7, hg⟩ := mj_bd hg
            refine ev_wk (loc' := [some (.ref _), some (.int _), some (.int _), some (.int _), some (.int _), none, some (.int _), some (.int _), some (.int _)]) ⟨rfl, rfl, rfl, rfl, rfl, rfl, rfl, rfl, trivial⟩ ?_
            refine r_X6_kite_79 mj_fuel _ _ _ _ _ _ _ _ _ hq_7 ?_
            refine ev_aload_n (q := 123) dX6_kite_122 rfl rfl ?_
            refine ev_iload (q := 125) dX6_kite_123 rfl rfl ?_
            refine ev_if_ne (t := 133) (q := 128) dX6_kite_125 rfl rfl hg (fun hg => ?_) (fun hg => ?_)
            · refine ev_iload (q := 130) dX6_kite_128 rfl rfl ?_
              refine ev_goto (q := 135) dX6_kite_130 rfl ?_
              obtain ⟨o_8, ho_8, hg⟩ := mj_lte hg
              refine ev_callV (q := 138) kX6_clean mw_i_X6_clean mw_s_X6_clean mw_m_RX6_82 rfl rfl (r_X6_clean ho_8) rfl rfl (Nat.le_of_ble_eq_true rfl) (by decide) dX6_kite_135 rfl (fun v fv gv hp => ?_)
              obtain ⟨rfl, rfl, rfl⟩ := hp
              obtain rfl := Option.some.inj hg
              exact ev_iret dX6_kite_138 rfl ⟨rfl, rfl, rfl⟩
            · refine ev_iload (q := 135) dX6_kite_133 rfl rfl ?_
              obtain ⟨o_9, ho_9, hg⟩ := mj_lte hg
              refine ev_callV (q := 138) kX6_clean mw_i_X6_clean mw_s_X6_clean mw_m_RX6_82 rfl rfl (r_X6_clean ho_9) rfl rfl (Nat.le_of_ble_eq_true rfl) (by decide) dX6_kite_135 rfl (fun v fv gv hp => ?_)
              obtain ⟨rfl, rfl, rfl⟩ := hp
              obtain rfl := Option.some.inj hg
              exact ev_iret dX6_kite_138 rfl ⟨rfl, rfl, rfl⟩
          · refine ev_aload_n (q := 62) dX6_kite_61 rfl rfl ?_
            refine ev_iload (q := 64) dX6_kite_62 rfl rfl ?_
            obtain ⟨o_10, ho_10, hg⟩ := mj_lte hg
            refine ev_callV (q := 67) kX6_found mw_i_X6_found mw_s_X6_found mw_m_RX6_74 rfl rfl (r_X6_found ho_10) rfl rfl (Nat.le_of_ble_eq_true rfl) (by decide) dX6_kite_64 rfl (fun v fv gv hp => ?_)
            obtain ⟨rfl, rfl, rfl⟩ := hp
            obtain rfl := Option.some.inj hg
            exact ev_iret dX6_kite_67 rfl ⟨rfl, rfl, rfl⟩
def g_X6_cellBehind_9 : Nat → Nat → Int32 → Int32 → Int32 → Int32 → mj_I → Option (Int32)
  | 0, _, _, _, _, _, _ => none
  | n + 1, a1, x2, x3, x4, x5, f =>
    if x5 < x3 then
     (g_X2_blowing 4 (f a1 2) (((f 4 5) + x2) + x5) f).bind (fun o_3 =>
     mj_lt ((g_X1_driftedFrom a1 x4 o_3 f)) (fun u_5 =>
     g_X6_cellBehind_9 n a1 x2 x3 u_5 (x5 + (1 : Int32)) f))
    else
     some (x4)
theorem r_X6_cellBehind_9 {f : mj_I} {g : mj_L} {post : Option Value → mj_I → mj_L → Prop} : ∀ (n : Nat) (a1 : Nat) (x2 : Int32) (x3 : Int32) (x4 : Int32) (x5 : Int32) (o : Int32), mx_isC a1 → g_X6_cellBehind_9 n a1 x2 x3 x4 x5 f = some o → mj_Ev jX6_cellBehind 52 [none, none, none, none, some (.int o), none] [] mx_S f g post → mj_Ev jX6_cellBehind 9 [some (.ref 0), some (.ref a1), some (.int x2), some (.int x3), some (.int x4), some (.int x5)] [] mx_S f g post := by
  intro n
  induction n with
  | zero =>
    intro a1 x2 x3 x4 x5 o h1 hg hk
    cases hg
  | succ n ih =>
    intro a1 x2 x3 x4 x5 o h1 hg hk
    unfold g_X6_cellBehind_9 at hg
    refine ev_iload (q := 11) dX6_cellBehind_9 rfl rfl ?_
    refine ev_iload_n (q := 12) dX6_cellBehind_11 rfl rfl ?_
    refine ev_icmp_ge (t := 52) (q := 15) dX6_cellBehind_12 rfl rfl hg (fun hg => ?_) (fun hg => ?_)
    · refine ev_aload_n (q := 16) dX6_cellBehind_15 rfl rfl ?_
      refine ev_iload (q := 18) dX6_cellBehind_16 rfl rfl ?_
      refine ev_aload_n (q := 19) dX6_cellBehind_18 rfl rfl ?_
      refine ev_getfR (q := 22) mw_f_RX6_25 rfl rfl dX6_cellBehind_19 rfl ?_
      refine ev_aload_n (q := 23) dX6_cellBehind_22 rfl rfl ?_
      refine ev_getfI (q := 26) mw_f_RX6_175 (by decide) (by decide) (mx_C h1) dX6_cellBehind_23 rfl ?_
      refine ev_aload_n (q := 27) dX6_cellBehind_26 rfl rfl ?_
      refine ev_getfR (q := 30) mw_f_RX6_25 rfl rfl dX6_cellBehind_27 rfl ?_
      refine ev_getfI (q := 33) mw_f_RX6_149 (by decide) (by decide) (mx_H mx_isH_4) dX6_cellBehind_30 rfl ?_
      refine ev_iload_n (q := 34) dX6_cellBehind_33 rfl rfl ?_
      refine ev_iadd (q := 35) dX6_cellBehind_34 rfl ?_
      refine ev_iload (q := 37) dX6_cellBehind_35 rfl rfl ?_
      refine ev_iadd (q := 38) dX6_cellBehind_37 rfl ?_
      obtain ⟨o_3, ho_3, hg⟩ := mj_bd hg
      refine ev_callV (q := 41) kX2_blowing mw_i_X2_blowing mw_s_X2_blowing mw_m_RX6_207 (mx_H mx_isH_4) rfl (r_X2_blowing mx_isH_4 ho_3) rfl rfl (Nat.le_of_ble_eq_true rfl) (by decide) dX6_cellBehind_38 rfl (fun v fv gv hp => ?_)
      obtain ⟨rfl, rfl, rfl⟩ := hp
      refine ev_callV (q := 44) kX1_driftedFrom mw_i_X1_driftedFrom mw_s_X1_driftedFrom mw_m_RX6_295 (mx_C h1) rfl (r_X1_driftedFrom h1 rfl) rfl rfl (Nat.le_of_ble_eq_true rfl) (by decide) dX6_cellBehind_41 rfl (fun v fv gv hp => ?_)
      obtain ⟨rfl, rfl, rfl⟩ := hp
      refine ev_nmi (fun u_5 hu_5 => ?_)
      have hg := mj_lt_el hu_5 hg
      refine ev_istore (q := 46) (loc' := [some (.ref _), some (.ref _), some (.int _), some (.int _), some (.int _), some (.int _)]) dX6_cellBehind_44 (by decide) rfl rfl ?_
      refine ev_iinc (v := 1) (q := 49) (loc' := [some (.ref _), some (.ref _), some (.int _), some (.int _), some (.int _), some (.int _)]) dX6_cellBehind_46 rfl (by decide) mci_1 rfl rfl ?_
      refine ev_goto (q := 9) dX6_cellBehind_49 rfl ?_
      exact ih _ _ _ _ _ _ h1 hg hk
    · obtain rfl := Option.some.inj hg
      refine ev_wk (loc' := [none, none, none, none, some (.int _), none]) ⟨rfl, trivial⟩ ?_
      exact hk
def g_X6_cellBehind (a1 : Nat) (x2 : Int32) (x3 : Int32) (f : mj_I) : Option (Int32) :=
  mj_lt ((f a1 1)) (fun u_1 =>
  (g_X6_cellBehind_9 mj_fuel a1 x2 x3 u_1 (0 : Int32) f).bind (fun q_2 =>
  some (q_2)))
theorem r_X6_cellBehind {a1 : Nat} {x2 : Int32} {x3 : Int32} {f : mj_I} {g : mj_L} {o : Int32} (h1 : mx_isC a1) (hg : g_X6_cellBehind a1 x2 x3 f = some o) : mj_Sp jX6_cellBehind mx_S [.ref 0, .ref a1, .int x2, .int x3] f g (fun v f' g' => some (.int o) = v ∧ f = f' ∧ g = g') := by
  refine mj_sp 2 (by decide +kernel) rfl rfl (fun _ _ => Nat.le_of_ble_eq_true rfl) ?_
  show mj_Ev jX6_cellBehind 0 [some (.ref 0), some (.ref a1), some (.int x2), some (.int x3), none, none] [] mx_S f g _
  unfold g_X6_cellBehind at hg
  refine ev_aload_n (q := 1) dX6_cellBehind_0 rfl rfl ?_
  refine ev_getfI (q := 4) mw_f_RX6_223 (by decide) (by decide) (mx_C h1) dX6_cellBehind_1 rfl ?_
  refine ev_nmi (fun u_1 hu_1 => ?_)
  have hg := mj_lt_el hu_1 hg
  refine ev_istore (q := 6) (loc' := [some (.ref _), some (.ref _), some (.int _), some (.int _), some (.int _), none]) dX6_cellBehind_4 (by decide) rfl rfl ?_
  refine ev_iconst (v := 0) (q := 7) dX6_cellBehind_6 mci_0 rfl ?_
  refine ev_istore (q := 9) (loc' := [some (.ref _), some (.ref _), some (.int _), some (.int _), some (.int _), some (.int _)]) dX6_cellBehind_7 (by decide) rfl rfl ?_
  obtain ⟨q_2, hq_2, hg⟩ := mj_bd hg
  refine r_X6_cellBehind_9 mj_fuel _ _ _ _ _ _ h1 hq_2 ?_
  refine ev_iload (q := 54) dX6_cellBehind_52 rfl rfl ?_
  obtain rfl := Option.some.inj hg
  exact ev_iret dX6_cellBehind_54 rfl ⟨rfl, rfl, rfl⟩
def g_X6_lowest_9 : Nat → Int64 → Int64 → Int32 → Int64 → Int64 → Int32 → Option (Int64)
  | 0, _, _, _, _, _, _ => none
  | n + 1, y0, y2, x4, y5, y7, x9 =>
    if x9 < (100 : Int32) then
     if (lg_cmp y7 (0 : Int64)) = 0 then
      some (y5)
     else
      if mj_nzl y7 = true then
      mj_lt ((y5 - y5 / y7 * y7)) (fun w_3 =>
       g_X6_lowest_9 n y0 y2 x4 y7 w_3 (x9 + (1 : Int32)))
      else none
    else
     some (y5)
theorem r_X6_lowest_9 {f : mj_I} {g : mj_L} {post : Option Value → mj_I → mj_L → Prop} : ∀ (n : Nat) (y0 : Int64) (y2 : Int64) (x4 : Int32) (y5 : Int64) (y7 : Int64) (x9 : Int32) (o : Int64), g_X6_lowest_9 n y0 y2 x4 y5 y7 x9 = some o → mj_Ev jX6_lowest 44 [some (.long y0), none, some (.long y2), none, some (.int x4), some (.long o), none, none, none, none, none, none] [] mx_S f g post → mj_Ev jX6_lowest 9 [some (.long y0), none, some (.long y2), none, some (.int x4), some (.long y5), none, some (.long y7), none, some (.int x9), none, none] [] mx_S f g post := by
  intro n
  induction n with
  | zero =>
    intro y0 y2 x4 y5 y7 x9 o hg hk
    cases hg
  | succ n ih =>
    intro y0 y2 x4 y5 y7 x9 o hg hk
    unfold g_X6_lowest_9 at hg
    refine ev_iload (q := 11) dX6_lowest_9 rfl rfl ?_
    refine ev_bipush (v := 100) (q := 13) dX6_lowest_11 mcb_100 rfl ?_
    refine ev_icmp_ge (t := 44) (q := 16) dX6_lowest_13 rfl rfl hg (fun hg => ?_) (fun hg => ?_)
    · refine ev_lload (q := 18) dX6_lowest_16 rfl rfl ?_
      refine ev_lconst (v := 0) (q := 19) dX6_lowest_18 mcl_0 rfl ?_
      refine ev_lcmp (q := 20) dX6_lowest_19 rfl ?_
      refine ev_if_eq (t := 44) (q := 23) dX6_lowest_20 rfl rfl hg (fun hg => ?_) (fun hg => ?_)
      · obtain rfl := Option.some.inj hg
        refine ev_wk (loc' := [some (.long _), none, some (.long _), none, some (.int _), some (.long _), none, none, none, none, none, none]) ⟨rfl, rfl, rfl, rfl, trivial⟩ ?_
        exact hk
      · refine ev_lload (q := 25) dX6_lowest_23 rfl rfl ?_
        refine ev_lload (q := 27) dX6_lowest_25 rfl rfl ?_
        obtain ⟨hn_2, hg⟩ := mj_gd hg
        refine ev_lrem (q := 28) dX6_lowest_27 (mj_nzl_ne hn_2) rfl ?_
        refine ev_nml (fun w_3 hw_3 => ?_)
        have hg := mj_lt_el hw_3 hg
        refine ev_lstore (q := 30) (loc' := [some (.long _), none, some (.long _), none, some (.int _), some (.long _), none, some (.long _), none, some (.int _), some (.long _), none]) dX6_lowest_28 (by decide) rfl rfl ?_
        refine ev_lload (q := 32) dX6_lowest_30 rfl rfl ?_
        refine ev_lstore (q := 34) (loc' := [some (.long _), none, some (.long _), none, some (.int _), some (.long _), none, some (.long _), none, some (.int _), some (.long _), none]) dX6_lowest_32 (by decide) rfl rfl ?_
        refine ev_lload (q := 36) dX6_lowest_34 rfl rfl ?_
        refine ev_lstore (q := 38) (loc' := [some (.long _), none, some (.long _), none, some (.int _), some (.long _), none, some (.long _), none, some (.int _), some (.long _), none]) dX6_lowest_36 (by decide) rfl rfl ?_
        refine ev_iinc (v := 1) (q := 41) (loc' := [some (.long _), none, some (.long _), none, some (.int _), some (.long _), none, some (.long _), none, some (.int _), some (.long _), none]) dX6_lowest_38 rfl (by decide) mci_1 rfl rfl ?_
        refine ev_goto (q := 9) dX6_lowest_41 rfl ?_
        refine ev_wk (loc' := [some (.long _), none, some (.long _), none, some (.int _), some (.long _), none, some (.long _), none, some (.int _), none, none]) ⟨rfl, rfl, rfl, rfl, rfl, rfl, trivial⟩ ?_
        exact ih _ _ _ _ _ _ _ hg hk
    · obtain rfl := Option.some.inj hg
      refine ev_wk (loc' := [some (.long _), none, some (.long _), none, some (.int _), some (.long _), none, none, none, none, none, none]) ⟨rfl, rfl, rfl, rfl, trivial⟩ ?_
      exact hk
def g_X6_lowest_54 (y5 : Int64) (s0 : Int64) : Option (Int64) :=
  if (lg_cmp y5 (0 : Int64)) = 0 then
   some (s0)
  else
   if mj_nzl y5 = true then
   some ((s0 / y5))
   else none
theorem r_X6_lowest_54 {f : mj_I} {g : mj_L} : ∀ (y5 : Int64) (s0 : Int64) (o : Int64), g_X6_lowest_54 y5 s0 = some o → mj_Ev jX6_lowest 54 [none, none, none, none, none, some (.long y5), none, none, none, none, none, none] [.long s0] mx_S f g (fun v f' g' => some (.long o) = v ∧ f = f' ∧ g = g') := by
  intro y5 s0 o hg
  unfold g_X6_lowest_54 at hg
  refine ev_lstore (q := 56) (loc' := [none, none, none, none, none, some (.long _), none, none, none, some (.long _), none, none]) dX6_lowest_54 (by decide) rfl rfl ?_
  refine ev_lload (q := 58) dX6_lowest_56 rfl rfl ?_
  refine ev_lconst (v := 0) (q := 59) dX6_lowest_58 mcl_0 rfl ?_
  refine ev_lcmp (q := 60) dX6_lowest_59 rfl ?_
  refine ev_if_ne (t := 68) (q := 63) dX6_lowest_60 rfl rfl hg (fun hg => ?_) (fun hg => ?_)
  · refine ev_lload (q := 65) dX6_lowest_63 rfl rfl ?_
    refine ev_goto (q := 73) dX6_lowest_65 rfl ?_
    obtain rfl := Option.some.inj hg
    exact ev_lret dX6_lowest_73 rfl ⟨rfl, rfl, rfl⟩
  · refine ev_lload (q := 70) dX6_lowest_68 rfl rfl ?_
    refine ev_lload (q := 72) dX6_lowest_70 rfl rfl ?_
    obtain ⟨hn_4, hg⟩ := mj_gd hg
    refine ev_ldiv (q := 73) dX6_lowest_72 (mj_nzl_ne hn_4) rfl ?_
    obtain rfl := Option.some.inj hg
    exact ev_lret dX6_lowest_73 rfl ⟨rfl, rfl, rfl⟩
def g_X6_lowest (y0 : Int64) (y2 : Int64) (x4 : Int32) : Option (Int64) :=
  (g_X6_lowest_9 mj_fuel y0 y2 x4 y0 y2 (0 : Int32)).bind (fun q_1 =>
  if x4 = 0 then
   g_X6_lowest_54 q_1 y0
  else
   g_X6_lowest_54 q_1 y2)
theorem r_X6_lowest {y0 : Int64} {y2 : Int64} {x4 : Int32} {f : mj_I} {g : mj_L} {o : Int64} (hg : g_X6_lowest y0 y2 x4 = some o) : mj_Sp jX6_lowest mx_S [.long y0, .long y2, .int x4] f g (fun v f' g' => some (.long o) = v ∧ f = f' ∧ g = g') := by
  refine mj_sp 7 (by decide +kernel) rfl rfl (fun _ _ => Nat.le_of_ble_eq_true rfl) ?_
  show mj_Ev jX6_lowest 0 [some (.long y0), none, some (.long y2), none, some (.int x4), none, none, none, none, none, none, none] [] mx_S f g _
  unfold g_X6_lowest at hg
  refine ev_lload_n (q := 1) dX6_lowest_0 rfl rfl ?_
  refine ev_lstore (q := 3) (loc' := [some (.long _), none, some (.long _), none, some (.int _), some (.long _), none, none, none, none, none, none]) dX6_lowest_1 (by decide) rfl rfl ?_
  refine ev_lload_n (q := 4) dX6_lowest_3 rfl rfl ?_
  refine ev_lstore (q := 6) (loc' := [some (.long _), none, some (.long _), none, some (.int _), some (.long _), none, some (.long _), none, none, none, none]) dX6_lowest_4 (by decide) rfl rfl ?_
  refine ev_iconst (v := 0) (q := 7) dX6_lowest_6 mci_0 rfl ?_
  refine ev_istore (q := 9) (loc' := [some (.long _), none, some (.long _), none, some (.int _), some (.long _), none, some (.long _), none, some (.int _), none, none]) dX6_lowest_7 (by decide) rfl rfl ?_
  obtain ⟨q_1, hq_1, hg⟩ := mj_bd hg
  refine r_X6_lowest_9 mj_fuel _ _ _ _ _ _ _ hq_1 ?_
  refine ev_iload (q := 46) dX6_lowest_44 rfl rfl ?_
  refine ev_if_ne (t := 53) (q := 49) dX6_lowest_46 rfl rfl hg (fun hg => ?_) (fun hg => ?_)
  · refine ev_lload_n (q := 50) dX6_lowest_49 rfl rfl ?_
    refine ev_goto (q := 54) dX6_lowest_50 rfl ?_
    refine ev_wk (loc' := [none, none, none, none, none, some (.long _), none, none, none, none, none, none]) ⟨rfl, trivial⟩ ?_
    exact r_X6_lowest_54 _ _ _ hg
  · refine ev_lload_n (q := 54) dX6_lowest_53 rfl rfl ?_
    refine ev_wk (loc' := [none, none, none, none, none, some (.long _), none, none, none, none, none, none]) ⟨rfl, trivial⟩ ?_
    exact r_X6_lowest_54 _ _ _ hg
