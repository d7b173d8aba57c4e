def g_X6_tuesday_62 : Nat → Int32 → Int32 → Int32 → Int32 → Int32 → Int32 → mj_I → Option (Int32)
  | 0, _, _, _, _, _, _, _ => none
  | n + 1, x1, x2, x3, x4, x5, x6, f =>
    if x6 < (6 : Int32) then
     if mj_in x1 5 = true then
     (g_X6_cellBehind (4 + 4 + (ix x1)) x6 x2 f).bind (fun o_9 =>
      if o_9 = x3 then
       g_X6_tuesday_62 n x1 x2 x3 x4 (x5 + (1 : Int32)) (x6 + (1 : Int32)) f
      else
       g_X6_tuesday_62 n x1 x2 x3 x4 x5 (x6 + (1 : Int32)) f)
     else none
    else
     some (x5)
theorem r_X6_tuesday_62 {f : mj_I} {g : mj_L} {post : Option Value → mj_I → mj_L → Prop} : ∀ (n : Nat) (x1 : Int32) (x2 : Int32) (x3 : Int32) (x4 : Int32) (x5 : Int32) (x6 : Int32) (o : Int32), g_X6_tuesday_62 n x1 x2 x3 x4 x5 x6 f = some o → mj_Ev jX6_tuesday 98 [none, none, none, none, some (.int x4), some (.int o), none] [] mx_S f g post → mj_Ev jX6_tuesday 62 [some (.ref 0), some (.int x1), some (.int x2), some (.int x3), some (.int x4), some (.int x5), some (.int x6)] [] mx_S f g post := by
  intro n
  induction n with
  | zero =>
    intro x1 x2 x3 x4 x5 x6 o hg hk
    cases hg
  | succ n ih =>
    intro x1 x2 x3 x4 x5 x6 o hg hk
    unfold g_X6_tuesday_62 at hg
    refine ev_iload (q := 64) dX6_tuesday_62 rfl rfl ?_
    refine ev_bipush (v := 6) (q := 66) dX6_tuesday_64 mcb_6 rfl ?_
    refine ev_icmp_ge (t := 98) (q := 69) dX6_tuesday_66 rfl rfl hg (fun hg => ?_) (fun hg => ?_)
    · refine ev_aload_n (q := 70) dX6_tuesday_69 rfl rfl ?_
      refine ev_aload_n (q := 71) dX6_tuesday_70 rfl rfl ?_
      refine ev_getfR (q := 74) mw_f_RX6_25 rfl rfl dX6_tuesday_71 rfl ?_
      refine ev_getfR (q := 77) mw_f_RX6_164 (mx_H mx_isH_4) rfl dX6_tuesday_74 rfl ?_
      refine ev_iload_n (q := 78) dX6_tuesday_77 rfl rfl ?_
      obtain ⟨hi_8, hg⟩ := mj_gd hg
      refine ev_aald (kd := 0) (q := 79) (mx_HC mx_isH_4) (by decide) hi_8 (mx_cr_get hi_8) dX6_tuesday_78 rfl ?_
      refine ev_iload (q := 81) dX6_tuesday_79 rfl rfl ?_
      refine ev_iload_n (q := 82) dX6_tuesday_81 rfl rfl ?_
      obtain ⟨o_9, ho_9, hg⟩ := mj_bd hg
      refine ev_callV (q := 85) kX6_cellBehind mw_i_X6_cellBehind mw_s_X6_cellBehind mw_m_RX6_246 rfl rfl (r_X6_cellBehind (mx_isC_of mx_isH_4 hi_8) ho_9) rfl rfl (Nat.le_of_ble_eq_true rfl) (by decide) dX6_tuesday_82 rfl (fun v fv gv hp => ?_)
      obtain ⟨rfl, rfl, rfl⟩ := hp
      refine ev_iload_n (q := 86) dX6_tuesday_85 rfl rfl ?_
      refine ev_icmp_ne (t := 92) (q := 89) dX6_tuesday_86 rfl rfl hg (fun hg => ?_) (fun hg => ?_)
      · refine ev_iinc (v := 1) (q := 92) (loc' := [some (.ref _), some (.int _), some (.int _), some (.int _), some (.int _), some (.int _), some (.int _)]) dX6_tuesday_89 rfl (by decide) mci_1 rfl rfl ?_
        refine ev_iinc (v := 1) (q := 95) (loc' := [some (.ref _), some (.int _), some (.int _), some (.int _), some (.int _), some (.int _), some (.int _)]) dX6_tuesday_92 rfl (by decide) mci_1 rfl rfl ?_
        refine ev_goto (q := 62) dX6_tuesday_95 rfl ?_
        exact ih _ _ _ _ _ _ _ hg hk
      · refine ev_iinc (v := 1) (q := 95) (loc' := [some (.ref _), some (.int _), some (.int _), some (.int _), some (.int _), some (.int _), some (.int _)]) dX6_tuesday_92 rfl (by decide) mci_1 rfl rfl ?_
        refine ev_goto (q := 62) dX6_tuesday_95 rfl ?_
        exact ih _ _ _ _ _ _ _ hg hk
    · obtain rfl := Option.some.inj hg
      refine ev_wk (loc' := [none, none, none, none, some (.int _), some (.int _), none]) ⟨rfl, rfl, trivial⟩ ?_
      exact hk
def g_X6_tuesday (x1 : Int32) (x2 : Int32) (x3 : Int32) (x4 : Int32) (f : mj_I) : Option (Int32) :=
  if (g_X6_isCloud x1 f) = 0 then
   some ((-1000001 : Int32))
  else
   if (g_X6_within x2 (0 : Int32) (60 : Int32)) = 0 then
    some ((-1000001 : Int32))
   else
    if (g_X6_isCell x3) = 0 then
     some ((-1000001 : Int32))
    else
     if (g_X6_within x4 (0 : Int32) (1 : Int32)) = 0 then
      some ((-1000001 : Int32))
     else
      if mj_in x1 5 = true then
      if (f (4 + 4 + (ix x1)) 4) = 0 then
        (g_X6_tuesday_62 mj_fuel x1 x2 x3 x4 (0 : Int32) (0 : Int32) f).bind (fun q_6 =>
        (g_X6_lowest (q_6).toInt64 (6 : Int64) x4).bind (fun o_7 =>
        some ((o_7).toInt32)))
       else
        some ((-1000002 : Int32))
      else none
theorem r_X6_tuesday {x1 : Int32} {x2 : Int32} {x3 : Int32} {x4 : Int32} {f : mj_I} {g : mj_L} {o : Int32} (hg : g_X6_tuesday x1 x2 x3 x4 f = some o) : mj_Sp jX6_tuesday mx_S [.ref 0, .int x1, .int x2, .int x3, .int x4] f g (fun v f' g' => some (.int o) = v ∧ f = f' ∧ g = g') := by
  refine mj_sp 2 (by decide +kernel) rfl rfl (fun _ _ => Nat.le_of_ble_eq_true rfl) ?_
  show mj_Ev jX6_tuesday 0 [some (.ref 0), some (.int x1), some (.int x2), some (.int x3), some (.int x4), none, none] [] mx_S f g _
  unfold g_X6_tuesday at hg
  refine ev_aload_n (q := 1) dX6_tuesday_0 rfl rfl ?_
  refine ev_iload_n (q := 2) dX6_tuesday_1 rfl rfl ?_
  refine ev_callV (q := 5) kX6_isCloud mw_i_X6_isCloud mw_s_X6_isCloud mw_m_RX6_161 rfl rfl (r_X6_isCloud rfl) rfl rfl (Nat.le_of_ble_eq_true rfl) (by decide) dX6_tuesday_2 rfl (fun v fv gv hp => ?_)
  obtain ⟨rfl, rfl, rfl, hr_1⟩ := hp
  refine ev_if_eq (t := 35) (q := 8) dX6_tuesday_5 rfl rfl hg (fun hg => ?_) (fun hg => ?_)
  · refine ev_ldc (q := 37) mw_c_RX6_73 dX6_tuesday_35 rfl ?_
    obtain rfl := Option.some.inj hg
    exact ev_iret dX6_tuesday_37 rfl ⟨rfl, rfl, rfl⟩
  · refine ev_iload_n (q := 9) dX6_tuesday_8 rfl rfl ?_
    refine ev_iconst (v := 0) (q := 10) dX6_tuesday_9 mci_0 rfl ?_
    refine ev_bipush (v := 60) (q := 12) dX6_tuesday_10 mcb_60 rfl ?_
    refine ev_callS (q := 15) kX6_within mw_t_X6_within mw_m_RX6_69 (r_X6_within rfl) rfl rfl (Nat.le_of_ble_eq_true rfl) (by decide) dX6_tuesday_12 rfl (fun v fv gv hp => ?_)
    obtain ⟨rfl, rfl, rfl, hr_2⟩ := hp
    refine ev_if_eq (t := 35) (q := 18) dX6_tuesday_15 rfl rfl hg (fun hg => ?_) (fun hg => ?_)
    · refine ev_ldc (q := 37) mw_c_RX6_73 dX6_tuesday_35 rfl ?_
      obtain rfl := Option.some.inj hg
      exact ev_iret dX6_tuesday_37 rfl ⟨rfl, rfl, rfl⟩
    · refine ev_iload_n (q := 19) dX6_tuesday_18 rfl rfl ?_
      refine ev_callS (q := 22) kX6_isCell mw_t_X6_isCell mw_m_RX6_198 (r_X6_isCell rfl) rfl rfl (Nat.le_of_ble_eq_true rfl) (by decide) dX6_tuesday_19 rfl (fun v fv gv hp => ?_)
      obtain ⟨rfl, rfl, rfl, hr_3⟩ := hp
      refine ev_if_eq (t := 35) (q := 25) dX6_tuesday_22 rfl rfl hg (fun hg => ?_) (fun hg => ?_)
      · refine ev_ldc (q := 37) mw_c_RX6_73 dX6_tuesday_35 rfl ?_
        obtain rfl := Option.some.inj hg
        exact ev_iret dX6_tuesday_37 rfl ⟨rfl, rfl, rfl⟩
      · refine ev_iload (q := 27) dX6_tuesday_25 rfl rfl ?_
        refine ev_iconst (v := 0) (q := 28) dX6_tuesday_27 mci_0 rfl ?_
        refine ev_iconst (v := 1) (q := 29) dX6_tuesday_28 mci_1 rfl ?_
        refine ev_callS (q := 32) kX6_within mw_t_X6_within mw_m_RX6_69 (r_X6_within rfl) rfl rfl (Nat.le_of_ble_eq_true rfl) (by decide) dX6_tuesday_29 rfl (fun v fv gv hp => ?_)
        obtain ⟨rfl, rfl, rfl, hr_4⟩ := hp
        refine ev_if_ne (t := 38) (q := 35) dX6_tuesday_32 rfl rfl hg (fun hg => ?_) (fun hg => ?_)
        · refine ev_ldc (q := 37) mw_c_RX6_73 dX6_tuesday_35 rfl ?_
          obtain rfl := Option.some.inj hg
          exact ev_iret dX6_tuesday_37 rfl ⟨rfl, rfl, rfl⟩
        · refine ev_aload_n (q := 39) dX6_tuesday_38 rfl rfl ?_
          refine ev_getfR (q := 42) mw_f_RX6_25 rfl rfl dX6_tuesday_39 rfl ?_
          refine ev_getfR (q := 45) mw_f_RX6_164 (mx_H mx_isH_4) rfl dX6_tuesday_42 rfl ?_
          refine ev_iload_n (q := 46) dX6_tuesday_45 rfl rfl ?_
          obtain ⟨hi_5, hg⟩ := mj_gd hg
          refine ev_aald (kd := 0) (q := 47) (mx_HC mx_isH_4) (by decide) hi_5 (mx_cr_get hi_5) dX6_tuesday_46 rfl ?_
          refine ev_getfI (q := 50) mw_f_RX6_168 (by decide) (by decide) (mx_C (mx_isC_of mx_isH_4 hi_5)) dX6_tuesday_47 rfl ?_
          refine ev_if_eq (t := 56) (q := 53) dX6_tuesday_50 rfl rfl hg (fun hg => ?_) (fun hg => ?_)
          · refine ev_iconst (v := 0) (q := 57) dX6_tuesday_56 mci_0 rfl ?_
            refine ev_istore (q := 59) (loc' := [some (.ref _), some (.int _), some (.int _), some (.int _), some (.int _), some (.int _), none]) dX6_tuesday_57 (by decide) rfl rfl ?_
            refine ev_iconst (v := 0) (q := 60) dX6_tuesday_59 mci_0 rfl ?_
            refine ev_istore (q := 62) (loc' := [some (.ref _), some (.int _), some (.int _), some (.int _), some (.int _), some (.int _), some (.int _)]) dX6_tuesday_60 (by decide) rfl rfl ?_
            obtain ⟨q_6, hq_6, hg⟩ := mj_bd hg
            refine r_X6_tuesday_62 mj_fuel _ _ _ _ _ _ _ hq_6 ?_
            refine ev_iload (q := 100) dX6_tuesday_98 rfl rfl ?_
            refine ev_i2l (q := 101) dX6_tuesday_100 rfl ?_
            refine ev_ldc2 (q := 104) mw_c_RX6_249 dX6_tuesday_101 rfl ?_
            refine ev_iload (q := 106) dX6_tuesday_104 rfl rfl ?_
            obtain ⟨o_7, ho_7, hg⟩ := mj_bd hg
            refine ev_callS (q := 109) kX6_lowest mw_t_X6_lowest mw_m_RX6_251 (r_X6_lowest ho_7) rfl rfl (Nat.le_of_ble_eq_true rfl) (by decide) dX6_tuesday_106 rfl (fun v fv gv hp => ?_)
            obtain ⟨rfl, rfl, rfl⟩ := hp
            refine ev_l2i (q := 110) dX6_tuesday_109 rfl ?_
            obtain rfl := Option.some.inj hg
            exact ev_iret dX6_tuesday_110 rfl ⟨rfl, rfl, rfl⟩
          · refine ev_ldc (q := 55) mw_c_RX6_142 dX6_tuesday_53 rfl ?_
            obtain rfl := Option.some.inj hg
            exact ev_iret dX6_tuesday_55 rfl ⟨rfl, rfl, rfl⟩
def g_X6_lineRefusal_20 : Nat → Nat → Int32 → Int32 → mj_I → Option (Int32 × mj_I)
  | 0, _, _, _, _ => none
  | n + 1, a1, x2, x4, f =>
    if x4 < (5 : Int32) then
     if mj_in (x2 + x4) 40 = true then
     if (g_X6_within (f (a1 + 1) (ix (x2 + x4))) (1 : Int32) (20 : Int32)) = 0 then
       some (((-1000001 : Int32), f))
      else
       g_X6_lineRefusal_20 n a1 x2 (x4 + (1 : Int32)) f
     else none
    else
     mj_lt (g_X6_clean (0 : Int32) f) (fun o_6 =>
     some ((o_6.1, o_6.2)))
theorem r_X6_lineRefusal_20 {g : mj_L} : ∀ (n : Nat) (a1 : Nat) (x2 : Int32) (x4 : Int32) (f : mj_I) (o : Int32 × mj_I), mx_isR a1 → g_X6_lineRefusal_20 n a1 x2 x4 f = some o → mj_Ev jX6_lineRefusal 20 [some (.ref 0), some (.ref a1), some (.int x2), none, some (.int x4)] [] mx_S f g (fun v f' g' => some (.int o.1) = v ∧ o.2 = f' ∧ g = g') := by
  intro n
  induction n with
  | zero =>
    intro a1 x2 x4 f o h1 hg
    cases hg
  | succ n ih =>
    intro a1 x2 x4 f o h1 hg
    unfold g_X6_lineRefusal_20 at hg
    refine ev_iload (q := 22) dX6_lineRefusal_20 rfl rfl ?_
    refine ev_iconst (v := 5) (q := 23) dX6_lineRefusal_22 mci_5 rfl ?_
    refine ev_icmp_ge (t := 53) (q := 26) dX6_lineRefusal_23 rfl rfl hg (fun hg => ?_) (fun hg => ?_)
    · refine ev_aload_n (q := 27) dX6_lineRefusal_26 rfl rfl ?_
      refine ev_getfR (q := 30) mw_f_RX6_103 (mx_R h1) rfl dX6_lineRefusal_27 rfl ?_
      refine ev_iload_n (q := 31) dX6_lineRefusal_30 rfl rfl ?_
      refine ev_iload (q := 33) dX6_lineRefusal_31 rfl rfl ?_
      refine ev_iadd (q := 34) dX6_lineRefusal_33 rfl ?_
      obtain ⟨hi_4, hg⟩ := mj_gd hg
      refine ev_ialdk (q := 35) (mx_RI h1) hi_4 rfl dX6_lineRefusal_34 rfl ?_
      refine ev_iconst (v := 1) (q := 36) dX6_lineRefusal_35 mci_1 rfl ?_
      refine ev_bipush (v := 20) (q := 38) dX6_lineRefusal_36 mcb_20 rfl ?_
      refine ev_callS (q := 41) kX6_within mw_t_X6_within mw_m_RX6_69 (r_X6_within rfl) rfl rfl (Nat.le_of_ble_eq_true rfl) (by decide) dX6_lineRefusal_38 rfl (fun v fv gv hp => ?_)
      obtain ⟨rfl, rfl, rfl, hr_5⟩ := hp
      refine ev_if_ne (t := 47) (q := 44) dX6_lineRefusal_41 rfl rfl hg (fun hg => ?_) (fun hg => ?_)
      · refine ev_ldc (q := 46) mw_c_RX6_73 dX6_lineRefusal_44 rfl ?_
        obtain rfl := Option.some.inj hg
        exact ev_iret dX6_lineRefusal_46 rfl ⟨rfl, rfl, rfl⟩
      · refine ev_iinc (v := 1) (q := 50) (loc' := [some (.ref _), some (.ref _), some (.int _), none, some (.int _)]) dX6_lineRefusal_47 rfl (by decide) mci_1 rfl rfl ?_
        refine ev_goto (q := 20) dX6_lineRefusal_50 rfl ?_
        exact ih _ _ _ _ _ h1 hg
    · refine ev_aload_n (q := 54) dX6_lineRefusal_53 rfl rfl ?_
      refine ev_iconst (v := 0) (q := 55) dX6_lineRefusal_54 mci_0 rfl ?_
      obtain ⟨o_6, ho_6, hg⟩ := mj_lte hg
      refine ev_callV (q := 58) kX6_clean mw_i_X6_clean mw_s_X6_clean mw_m_RX6_82 rfl rfl (r_X6_clean ho_6) rfl rfl (Nat.le_of_ble_eq_true rfl) (by decide) dX6_lineRefusal_55 rfl (fun v fv gv hp => ?_)
      obtain ⟨rfl, rfl, rfl⟩ := hp
      obtain rfl := Option.some.inj hg
      exact ev_iret dX6_lineRefusal_58 rfl ⟨rfl, rfl, rfl⟩
def g_X6_lineRefusal (a1 : Nat) (x2 : Int32) (f : mj_I) : Option (Int32 × mj_I) :=
  mj_lt ((g_X3_lack a1 x2 (5 : Int32) f)) (fun u_2 =>
  if u_2 = 0 then
   g_X6_lineRefusal_20 mj_fuel a1 x2 (0 : Int32) f
  else
   mj_lt (g_X6_found u_2 f) (fun o_3 =>
   some ((o_3.1, o_3.2))))
theorem r_X6_lineRefusal {a1 : Nat} {x2 : Int32} {f : mj_I} {g : mj_L} {o : Int32 × mj_I} (h1 : mx_isR a1) (hg : g_X6_lineRefusal a1 x2 f = some o) : mj_Sp jX6_lineRefusal mx_S [.ref 0, .ref a1, .int x2] f g (fun v f' g' => some (.int o.1) = v ∧ o.2 = f' ∧ g = g') := by
  refine mj_sp 2 (by decide +kernel) rfl rfl (fun _ _ => Nat.le_of_ble_eq_true rfl) ?_
  show mj_Ev jX6_lineRefusal 0 [some (.ref 0), some (.ref a1), some (.int x2), none, none] [] mx_S f g _
  unfold g_X6_lineRefusal at hg
  refine ev_aload_n (q := 1) dX6_lineRefusal_0 rfl rfl ?_
  refine ev_iload_n (q := 2) dX6_lineRefusal_1 rfl rfl ?_
  refine ev_iconst (v := 5) (q := 3) dX6_lineRefusal_2 mci_5 rfl ?_
  refine ev_callV (q := 6) kX3_lack mw_i_X3_lack mw_s_X3_lack mw_m_RX6_85 (mx_R h1) rfl (r_X3_lack h1 rfl) rfl rfl (Nat.le_of_ble_eq_true rfl) (by decide) dX6_lineRefusal_3 rfl (fun v fv gv hp => ?_)
  obtain ⟨rfl, rfl, rfl⟩ := hp
  refine ev_nmi (fun u_2 hu_2 => ?_)
  have hg := mj_lt_el hu_2 hg
  refine ev_istore_n (q := 7) (loc' := [some (.ref _), some (.ref _), some (.int _), some (.int _), none]) dX6_lineRefusal_6 (by decide) rfl rfl ?_
  refine ev_iload_n (q := 8) dX6_lineRefusal_7 rfl rfl ?_
  refine ev_if_eq (t := 17) (q := 11) dX6_lineRefusal_8 rfl rfl hg (fun hg => ?_) (fun hg => ?_)
  · refine ev_iconst (v := 0) (q := 18) dX6_lineRefusal_17 mci_0 rfl ?_
    refine ev_istore (q := 20) (loc' := [some (.ref _), some (.ref _), some (.int _), some (.int _), some (.int _)]) dX6_lineRefusal_18 (by decide) rfl rfl ?_
    refine ev_wk (loc' := [some (.ref _), some (.ref _), some (.int _), none, some (.int _)]) ⟨rfl, rfl, rfl, rfl, trivial⟩ ?_
    exact r_X6_lineRefusal_20 mj_fuel _ _ _ _ _ h1 hg
  · refine ev_aload_n (q := 12) dX6_lineRefusal_11 rfl rfl ?_
    refine ev_iload_n (q := 13) dX6_lineRefusal_12 rfl rfl ?_
    obtain ⟨o_3, ho_3, hg⟩ := mj_lte hg
    refine ev_callV (q := 16) kX6_found mw_i_X6_found mw_s_X6_found mw_m_RX6_74 rfl rfl (r_X6_found ho_3) rfl rfl (Nat.le_of_ble_eq_true rfl) (by decide) dX6_lineRefusal_13 rfl (fun v fv gv hp => ?_)
    obtain ⟨rfl, rfl, rfl⟩ := hp
    obtain rfl := Option.some.inj hg
    exact ev_iret dX6_lineRefusal_16 rfl ⟨rfl, rfl, rfl⟩
def g_J6_bitCount_0f7a4 (x0 : Int32) : Int32 :=
  mj_lt ((x0 - ((mj_ushr x0 (1 : Int32)) &&& (1431655765 : Int32)))) (fun u_1 =>
  mj_lt (((u_1 &&& (858993459 : Int32)) + ((mj_ushr u_1 (2 : Int32)) &&& (858993459 : Int32)))) (fun u_2 =>
  mj_lt (((u_2 + (mj_ushr u_2 (4 : Int32))) &&& (252645135 : Int32))) (fun u_3 =>
  mj_lt ((u_3 + (mj_ushr u_3 (8 : Int32)))) (fun u_4 =>
  mj_lt ((u_4 + (mj_ushr u_4 (16 : Int32)))) (fun u_5 =>
  (u_5 &&& (63 : Int32)))))))
theorem r_J6_bitCount_0f7a4 {x0 : Int32} {f : mj_I} {g : mj_L} {o : Int32} (hg : g_J6_bitCount_0f7a4 x0 = o) : mj_Sp jJ6_bitCount_0f7a4 mx_S [.int x0] f g (fun v f' g' => some (.int o) = v ∧ f = f' ∧ g = g') := by
  refine mj_sp 0 (by decide +kernel) rfl rfl (fun _ _ => Nat.le_of_ble_eq_true rfl) ?_
  show mj_Ev jJ6_bitCount_0f7a4 0 [some (.int x0)] [] mx_S f g _
  unfold g_J6_bitCount_0f7a4 at hg
  refine ev_iload_n (q := 1) dJ6_bitCount_0f7a4_0 rfl rfl ?_
  refine ev_iload_n (q := 2) dJ6_bitCount_0f7a4_1 rfl rfl ?_
  refine ev_iconst (v := 1) (q := 3) dJ6_bitCount_0f7a4_2 mci_1 rfl ?_
  refine ev_iushr (q := 4) dJ6_bitCount_0f7a4_3 rfl ?_
  refine ev_ldcw (q := 7) mw_c_RJ6_265 dJ6_bitCount_0f7a4_4 rfl ?_
  refine ev_iand (q := 8) dJ6_bitCount_0f7a4_7 rfl ?_
  refine ev_isub (q := 9) dJ6_bitCount_0f7a4_8 rfl ?_
  refine ev_nmi (fun u_1 hu_1 => ?_)
  have hg := mj_lt_el hu_1 hg
  refine ev_istore_n (q := 10) (loc' := [some (.int _)]) dJ6_bitCount_0f7a4_9 (by decide) rfl rfl ?_
  refine ev_iload_n (q := 11) dJ6_bitCount_0f7a4_10 rfl rfl ?_
  refine ev_ldcw (q := 14) mw_c_RJ6_266 dJ6_bitCount_0f7a4_11 rfl ?_
  refine ev_iand (q := 15) dJ6_bitCount_0f7a4_14 rfl ?_
  refine ev_iload_n (q := 16) dJ6_bitCount_0f7a4_15 rfl rfl ?_
  refine ev_iconst (v := 2) (q := 17) dJ6_bitCount_0f7a4_16 mci_2 rfl ?_
  refine ev_iushr (q := 18) dJ6_bitCount_0f7a4_17 rfl ?_
  refine ev_ldcw (q := 21) mw_c_RJ6_266 dJ6_bitCount_0f7a4_18 rfl ?_
  refine ev_iand (q := 22) dJ6_bitCount_0f7a4_21 rfl ?_
  refine ev_iadd (q := 23) dJ6_bitCount_0f7a4_22 rfl ?_
  refine ev_nmi (fun u_2 hu_2 => ?_)
  have hg := mj_lt_el hu_2 hg
  refine ev_istore_n (q := 24) (loc' := [some (.int _)]) dJ6_bitCount_0f7a4_23 (by decide) rfl rfl ?_
  refine ev_iload_n (q := 25) dJ6_bitCount_0f7a4_24 rfl rfl ?_
  refine ev_iload_n (q := 26) dJ6_bitCount_0f7a4_25 rfl rfl ?_
  refine ev_iconst (v := 4) (q := 27) dJ6_bitCount_0f7a4_26 mci_4 rfl ?_
  refine ev_iushr (q := 28) dJ6_bitCount_0f7a4_27 rfl ?_
  refine ev_iadd (q := 29) dJ6_bitCount_0f7a4_28 rfl ?_
  refine ev_ldcw (q := 32) mw_c_RJ6_267 dJ6_bitCount_0f7a4_29 rfl ?_
  refine ev_iand (q := 33) dJ6_bitCount_0f7a4_32 rfl ?_
  refine ev_nmi (fun u_3 hu_3 => ?_)
  have hg := mj_lt_el hu_3 hg
  refine ev_istore_n (q := 34) (loc' := [some (.int _)]) dJ6_bitCount_0f7a4_33 (by decide) rfl rfl ?_
  refine ev_iload_n (q := 35) dJ6_bitCount_0f7a4_34 rfl rfl ?_
  refine ev_iload_n (q := 36) dJ6_bitCount_0f7a4_35 rfl rfl ?_
  refine ev_bipush (v := 8) (q := 38) dJ6_bitCount_0f7a4_36 mcb_8 rfl ?_
  refine ev_iushr (q := 39) dJ6_bitCount_0f7a4_38 rfl ?_
  refine ev_iadd (q := 40) dJ6_bitCount_0f7a4_39 rfl ?_
  refine ev_nmi (fun u_4 hu_4 => ?_)
  have hg := mj_lt_el hu_4 hg
  refine ev_istore_n (q := 41) (loc' := [some (.int _)]) dJ6_bitCount_0f7a4_40 (by decide) rfl rfl ?_
  refine ev_iload_n (q := 42) dJ6_bitCount_0f7a4_41 rfl rfl ?_
  refine ev_iload_n (q := 43) dJ6_bitCount_0f7a4_42 rfl rfl ?_
  refine ev_bipush (v := 16) (q := 45) dJ6_bitCount_0f7a4_43 mcb_16 rfl ?_
  refine ev_iushr (q := 46) dJ6_bitCount_0f7a4_45 rfl ?_
  refine ev_iadd (q := 47) dJ6_bitCount_0f7a4_46 rfl ?_
  refine ev_nmi (fun u_5 hu_5 => ?_)
  have hg := mj_lt_el hu_5 hg
  refine ev_istore_n (q := 48) (loc' := [some (.int _)]) dJ6_bitCount_0f7a4_47 (by decide) rfl rfl ?_
  refine ev_iload_n (q := 49) dJ6_bitCount_0f7a4_48 rfl rfl ?_
  refine ev_bipush (v := 63) (q := 51) dJ6_bitCount_0f7a4_49 mcb_63 rfl ?_
  refine ev_iand (q := 52) dJ6_bitCount_0f7a4_51 rfl ?_
  subst hg
  exact ev_iret dJ6_bitCount_0f7a4_52 rfl ⟨rfl, rfl, rfl⟩
def g_X6_valueAbove_11 : Nat → Nat → Int32 → Int32 → Int64 → Int32 → mj_I → Option (Int64)
  | 0, _, _, _, _, _, _ => none
  | n + 1, a0, x1, x2, y3, x5, f =>
    if x5 < (5 : Int32) then
     if ((mj_ushr x2 x5) &&& (1 : Int32)) = 0 then
      g_X6_valueAbove_11 n a0 x1 x2 y3 (x5 + (1 : Int32)) f
     else
      if mj_in (x1 + x5) 40 = true then
      mj_lt ((y3 * ((f (a0 + 1) (ix (x1 + x5)))).toInt64)) (fun w_5 =>
       g_X6_valueAbove_11 n a0 x1 x2 w_5 (x5 + (1 : Int32)) f)
      else none
    else
     some (y3)
theorem r_X6_valueAbove_11 {f : mj_I} {g : mj_L} {post : Option Value → mj_I → mj_L → Prop} : ∀ (n : Nat) (a0 : Nat) (x1 : Int32) (x2 : Int32) (y3 : Int64) (x5 : Int32) (o : Int64), mx_isR a0 → g_X6_valueAbove_11 n a0 x1 x2 y3 x5 f = some o → mj_Ev jX6_valueAbove 45 [none, none, none, some (.long o), none, none] [] mx_S f g post → mj_Ev jX6_valueAbove 11 [some (.ref a0), some (.int x1), some (.int x2), some (.long y3), none, some (.int x5)] [] mx_S f g post := by
  intro n
  induction n with
  | zero =>
    intro a0 x1 x2 y3 x5 o h0 hg hk
    cases hg
  | succ n ih =>
    intro a0 x1 x2 y3 x5 o h0 hg hk
    unfold g_X6_valueAbove_11 at hg
    refine ev_iload (q := 13) dX6_valueAbove_11 rfl rfl ?_
    refine ev_iconst (v := 5) (q := 14) dX6_valueAbove_13 mci_5 rfl ?_
    refine ev_icmp_ge (t := 45) (q := 17) dX6_valueAbove_14 rfl rfl hg (fun hg => ?_) (fun hg => ?_)
    · refine ev_iload_n (q := 18) dX6_valueAbove_17 rfl rfl ?_
      refine ev_iload (q := 20) dX6_valueAbove_18 rfl rfl ?_
      refine ev_iushr (q := 21) dX6_valueAbove_20 rfl ?_
      refine ev_iconst (v := 1) (q := 22) dX6_valueAbove_21 mci_1 rfl ?_
      refine ev_iand (q := 23) dX6_valueAbove_22 rfl ?_
      refine ev_if_eq (t := 39) (q := 26) dX6_valueAbove_23 rfl rfl hg (fun hg => ?_) (fun hg => ?_)
      · refine ev_iinc (v := 1) (q := 42) (loc' := [some (.ref _), some (.int _), some (.int _), some (.long _), none, some (.int _)]) dX6_valueAbove_39 rfl (by decide) mci_1 rfl rfl ?_
        refine ev_goto (q := 11) dX6_valueAbove_42 rfl ?_
        exact ih _ _ _ _ _ _ h0 hg hk
      · refine ev_lload_n (q := 27) dX6_valueAbove_26 rfl rfl ?_
        refine ev_aload_n (q := 28) dX6_valueAbove_27 rfl rfl ?_
        refine ev_getfR (q := 31) mw_f_RX6_103 (mx_R h0) rfl dX6_valueAbove_28 rfl ?_
        refine ev_iload_n (q := 32) dX6_valueAbove_31 rfl rfl ?_
        refine ev_iload (q := 34) dX6_valueAbove_32 rfl rfl ?_
        refine ev_iadd (q := 35) dX6_valueAbove_34 rfl ?_
        obtain ⟨hi_4, hg⟩ := mj_gd hg
        refine ev_ialdk (q := 36) (mx_RI h0) hi_4 rfl dX6_valueAbove_35 rfl ?_
        refine ev_i2l (q := 37) dX6_valueAbove_36 rfl ?_
        refine ev_lmul (q := 38) dX6_valueAbove_37 rfl ?_
        refine ev_nml (fun w_5 hw_5 => ?_)
        have hg := mj_lt_el hw_5 hg
        refine ev_lstore_n (q := 39) (loc' := [some (.ref _), some (.int _), some (.int _), some (.long _), none, some (.int _)]) dX6_valueAbove_38 (by decide) rfl rfl ?_
        refine ev_iinc (v := 1) (q := 42) (loc' := [some (.ref _), some (.int _), some (.int _), some (.long _), none, some (.int _)]) dX6_valueAbove_39 rfl (by decide) mci_1 rfl rfl ?_
        refine ev_goto (q := 11) dX6_valueAbove_42 rfl ?_
        exact ih _ _ _ _ _ _ h0 hg hk
    · obtain rfl := Option.some.inj hg
      refine ev_wk (loc' := [none, none, none, some (.long _), none, none]) ⟨rfl, trivial⟩ ?_
      exact hk
def g_X6_valueAbove (a0 : Nat) (x1 : Int32) (x2 : Int32) (f : mj_I) : Option (Int64) :=
  mj_lt ((((g_J6_bitCount_0f7a4 x2) - (1 : Int32))).toInt64) (fun w_2 =>
  (g_X6_valueAbove_11 mj_fuel a0 x1 x2 w_2 (0 : Int32) f).bind (fun q_3 =>
  some (q_3)))
theorem r_X6_valueAbove {a0 : Nat} {x1 : Int32} {x2 : Int32} {f : mj_I} {g : mj_L} {o : Int64} (h0 : mx_isR a0) (hg : g_X6_valueAbove a0 x1 x2 f = some o) : mj_Sp jX6_valueAbove mx_S [.ref a0, .int x1, .int x2] f g (fun v f' g' => some (.long o) = v ∧ f = f' ∧ g = g') := by
  refine mj_sp 3 (by decide +kernel) rfl rfl (fun _ _ => Nat.le_of_ble_eq_true rfl) ?_
  show mj_Ev jX6_valueAbove 0 [some (.ref a0), some (.int x1), some (.int x2), none, none, none] [] mx_S f g _
  unfold g_X6_valueAbove at hg
  refine ev_iload_n (q := 1) dX6_valueAbove_0 rfl rfl ?_
  refine ev_callS (q := 4) kJ6_bitCount_0f7a4 mw_t_J6_bitCount_0f7a4 mw_m_RX6_308 (r_J6_bitCount_0f7a4 rfl) rfl rfl (Nat.le_of_ble_eq_true rfl) (by decide) dX6_valueAbove_1 rfl (fun v fv gv hp => ?_)
  obtain ⟨rfl, rfl, rfl⟩ := hp
  refine ev_iconst (v := 1) (q := 5) dX6_valueAbove_4 mci_1 rfl ?_
  refine ev_isub (q := 6) dX6_valueAbove_5 rfl ?_
  refine ev_i2l (q := 7) dX6_valueAbove_6 rfl ?_
  refine ev_nml (fun w_2 hw_2 => ?_)
  have hg := mj_lt_el hw_2 hg
  refine ev_lstore_n (q := 8) (loc' := [some (.ref _), some (.int _), some (.int _), some (.long _), none, none]) dX6_valueAbove_7 (by decide) rfl rfl ?_
  refine ev_iconst (v := 0) (q := 9) dX6_valueAbove_8 mci_0 rfl ?_
  refine ev_istore (q := 11) (loc' := [some (.ref _), some (.int _), some (.int _), some (.long _), none, some (.int _)]) dX6_valueAbove_9 (by decide) rfl rfl ?_
  obtain ⟨q_3, hq_3, hg⟩ := mj_bd hg
  refine r_X6_valueAbove_11 mj_fuel _ _ _ _ _ _ h0 hq_3 ?_
  refine ev_lload_n (q := 46) dX6_valueAbove_45 rfl rfl ?_
  obtain rfl := Option.some.inj hg
  exact ev_lret dX6_valueAbove_46 rfl ⟨rfl, rfl, rfl⟩
def g_X6_valueBelow_8 : Nat → Nat → Int32 → Int32 → Int64 → Int64 → Int32 → mj_I → Option (Int64)
  | 0, _, _, _, _, _, _, _ => none
  | n + 1, a0, x1, x2, y3, y5, x7, f =>
    if x7 < (5 : Int32) then
     if ((mj_ushr x2 x7) &&& (1 : Int32)) = 0 then
      g_X6_valueBelow_8 n a0 x1 x2 y3 y5 (x7 + (1 : Int32)) f
     else
      if mj_in (x1 + x7) 40 = true then
      mj_lt (((y5 * ((f (a0 + 1) (ix (x1 + x7)))).toInt64) + y3)) (fun w_3 =>
       if mj_in (x1 + x7) 40 = true then
       mj_lt ((y3 * ((f (a0 + 1) (ix (x1 + x7)))).toInt64)) (fun w_5 =>
        g_X6_valueBelow_8 n a0 x1 x2 w_5 w_3 (x7 + (1 : Int32)) f)
       else none)
      else none
    else
     some (y5)
theorem r_X6_valueBelow_8 {f : mj_I} {g : mj_L} {post : Option Value → mj_I → mj_L → Prop} : ∀ (n : Nat) (a0 : Nat) (x1 : Int32) (x2 : Int32) (y3 : Int64) (y5 : Int64) (x7 : Int32) (o : Int64), mx_isR a0 → g_X6_valueBelow_8 n a0 x1 x2 y3 y5 x7 f = some o → mj_Ev jX6_valueBelow 59 [none, none, none, none, none, some (.long o), none, none] [] mx_S f g post → mj_Ev jX6_valueBelow 8 [some (.ref a0), some (.int x1), some (.int x2), some (.long y3), none, some (.long y5), none, some (.int x7)] [] mx_S f g post := by
  intro n
  induction n with
  | zero =>
    intro a0 x1 x2 y3 y5 x7 o h0 hg hk
    cases hg
  | succ n ih =>
    intro a0 x1 x2 y3 y5 x7 o h0 hg hk
    unfold g_X6_valueBelow_8 at hg
    refine ev_iload (q := 10) dX6_valueBelow_8 rfl rfl ?_
    refine ev_iconst (v := 5) (q := 11) dX6_valueBelow_10 mci_5 rfl ?_
    refine ev_icmp_ge (t := 59) (q := 14) dX6_valueBelow_11 rfl rfl hg (fun hg => ?_) (fun hg => ?_)
    · refine ev_iload_n (q := 15) dX6_valueBelow_14 rfl rfl ?_
      refine ev_iload (q := 17) dX6_valueBelow_15 rfl rfl ?_
      refine ev_iushr (q := 18) dX6_valueBelow_17 rfl ?_
      refine ev_iconst (v := 1) (q := 19) dX6_valueBelow_18 mci_1 rfl ?_
      refine ev_iand (q := 20) dX6_valueBelow_19 rfl ?_
      refine ev_if_eq (t := 53) (q := 23) dX6_valueBelow_20 rfl rfl hg (fun hg => ?_) (fun hg => ?_)
      · refine ev_iinc (v := 1) (q := 56) (loc' := [some (.ref _), some (.int _), some (.int _), some (.long _), none, some (.long _), none, some (.int _)]) dX6_valueBelow_53 rfl (by decide) mci_1 rfl rfl ?_
        refine ev_goto (q := 8) dX6_valueBelow_56 rfl ?_
        exact ih _ _ _ _ _ _ _ h0 hg hk
      · refine ev_lload (q := 25) dX6_valueBelow_23 rfl rfl ?_
        refine ev_aload_n (q := 26) dX6_valueBelow_25 rfl rfl ?_
        refine ev_getfR (q := 29) mw_f_RX6_103 (mx_R h0) rfl dX6_valueBelow_26 rfl ?_
        refine ev_iload_n (q := 30) dX6_valueBelow_29 rfl rfl ?_
        refine ev_iload (q := 32) dX6_valueBelow_30 rfl rfl ?_
        refine ev_iadd (q := 33) dX6_valueBelow_32 rfl ?_
        obtain ⟨hi_2, hg⟩ := mj_gd hg
        refine ev_ialdk (q := 34) (mx_RI h0) hi_2 rfl dX6_valueBelow_33 rfl ?_
        refine ev_i2l (q := 35) dX6_valueBelow_34 rfl ?_
        refine ev_lmul (q := 36) dX6_valueBelow_35 rfl ?_
        refine ev_lload_n (q := 37) dX6_valueBelow_36 rfl rfl ?_
        refine ev_ladd (q := 38) dX6_valueBelow_37 rfl ?_
        refine ev_nml (fun w_3 hw_3 => ?_)
        have hg := mj_lt_el hw_3 hg
        refine ev_lstore (q := 40) (loc' := [some (.ref _), some (.int _), some (.int _), some (.long _), none, some (.long _), none, some (.int _)]) dX6_valueBelow_38 (by decide) rfl rfl ?_
        refine ev_lload_n (q := 41) dX6_valueBelow_40 rfl rfl ?_
        refine ev_aload_n (q := 42) dX6_valueBelow_41 rfl rfl ?_
        refine ev_getfR (q := 45) mw_f_RX6_103 (mx_R h0) rfl dX6_valueBelow_42 rfl ?_
        refine ev_iload_n (q := 46) dX6_valueBelow_45 rfl rfl ?_
        refine ev_iload (q := 48) dX6_valueBelow_46 rfl rfl ?_
        refine ev_iadd (q := 49) dX6_valueBelow_48 rfl ?_
        obtain ⟨hi_4, hg⟩ := mj_gd hg
        refine ev_ialdk (q := 50) (mx_RI h0) hi_4 rfl dX6_valueBelow_49 rfl ?_
        refine ev_i2l (q := 51) dX6_valueBelow_50 rfl ?_
        refine ev_lmul (q := 52) dX6_valueBelow_51 rfl ?_
        refine ev_nml (fun w_5 hw_5 => ?_)
        have hg := mj_lt_el hw_5 hg
        refine ev_lstore_n (q := 53) (loc' := [some (.ref _), some (.int _), some (.int _), some (.long _), none, some (.long _), none, some (.int _)]) dX6_valueBelow_52 (by decide) rfl rfl ?_
        refine ev_iinc (v := 1) (q := 56) (loc' := [some (.ref _), some (.int _), some (.int _), some (.long _), none, some (.long _), none, some (.int _)]) dX6_valueBelow_53 rfl (by decide) mci_1 rfl rfl ?_
        refine ev_goto (q := 8) dX6_valueBelow_56 rfl ?_
        exact ih _ _ _ _ _ _ _ h0 hg hk
    · obtain rfl := Option.some.inj hg
      refine ev_wk (loc' := [none, none, none, none, none, some (.long _), none, none]) ⟨rfl, trivial⟩ ?_
      exact hk
def g_X6_valueBelow (a0 : Nat) (x1 : Int32) (x2 : Int32) (f : mj_I) : Option (Int64) :=
  (g_X6_valueBelow_8 mj_fuel a0 x1 x2 (1 : Int64) (0 : Int64) (0 : Int32) f).bind (fun q_1 =>
  some (q_1))
theorem r_X6_valueBelow {a0 : Nat} {x1 : Int32} {x2 : Int32} {f : mj_I} {g : mj_L} {o : Int64} (h0 : mx_isR a0) (hg : g_X6_valueBelow a0 x1 x2 f = some o) : mj_Sp jX6_valueBelow mx_S [.ref a0, .int x1, .int x2] f g (fun v f' g' => some (.long o) = v ∧ f = f' ∧ g = g') := by
  refine mj_sp 5 (by decide +kernel) rfl rfl (fun _ _ => Nat.le_of_ble_eq_true rfl) ?_
  show mj_Ev jX6_valueBelow 0 [some (.ref a0), some (.int x1), some (.int x2), none, none, none, none, none] [] mx_S f g _
  unfold g_X6_valueBelow at hg
  refine ev_lconst (v := 1) (q := 1) dX6_valueBelow_0 mcl_1 rfl ?_
  refine ev_lstore_n (q := 2) (loc' := [some (.ref _), some (.int _), some (.int _), some (.long _), none, none, none, none]) dX6_valueBelow_1 (by decide) rfl rfl ?_
  refine ev_lconst (v := 0) (q := 3) dX6_valueBelow_2 mcl_0 rfl ?_
  refine ev_lstore (q := 5) (loc' := [some (.ref _), some (.int _), some (.int _), some (.long _), none, some (.long _), none, none]) dX6_valueBelow_3 (by decide) rfl rfl ?_
  refine ev_iconst (v := 0) (q := 6) dX6_valueBelow_5 mci_0 rfl ?_
  refine ev_istore (q := 8) (loc' := [some (.ref _), some (.int _), some (.int _), some (.long _), none, some (.long _), none, some (.int _)]) dX6_valueBelow_6 (by decide) rfl rfl ?_
  obtain ⟨q_1, hq_1, hg⟩ := mj_bd hg
  refine r_X6_valueBelow_8 mj_fuel _ _ _ _ _ _ _ h0 hq_1 ?_
  refine ev_lload (q := 61) dX6_valueBelow_59 rfl rfl ?_
  obtain rfl := Option.some.inj hg
  exact ev_lret dX6_valueBelow_61 rfl ⟨rfl, rfl, rfl⟩
def g_X6_bestPlaces_4 : Nat → Nat → Int32 → Int32 → Int32 → mj_I → Option (Int32)
  | 0, _, _, _, _, _ => none
  | n + 1, a0, x1, x2, x3, f =>
    if x3 < (32 : Int32) then
     (g_X6_valueAbove a0 x1 x3 f).bind (fun o_2 =>
     (g_X6_valueBelow a0 x1 x2 f).bind (fun o_3 =>
     mj_lt ((o_2 * o_3)) (fun w_4 =>
     (g_X6_valueAbove a0 x1 x2 f).bind (fun o_5 =>
     (g_X6_valueBelow a0 x1 x3 f).bind (fun o_6 =>
     mj_lt ((o_5 * o_6)) (fun w_7 =>
     if 0 < (lg_cmp w_4 w_7) then
      g_X6_bestPlaces_4 n a0 x1 x3 (x3 + (1 : Int32)) f
     else
      g_X6_bestPlaces_4 n a0 x1 x2 (x3 + (1 : Int32)) f))))))
    else
     some (x2)
theorem r_X6_bestPlaces_4 {f : mj_I} {g : mj_L} {post : Option Value → mj_I → mj_L → Prop} : ∀ (n : Nat) (a0 : Nat) (x1 : Int32) (x2 : Int32) (x3 : Int32) (o : Int32), mx_isR a0 → g_X6_bestPlaces_4 n a0 x1 x2 x3 f = some o → mj_Ev jX6_bestPlaces 56 [none, none, some (.int o), none, none, none, none, none] [] mx_S f g post → mj_Ev jX6_bestPlaces 4 [some (.ref a0), some (.int x1), some (.int x2), some (.int x3), none, none, none, none] [] mx_S f g post := by
  intro n
  induction n with
  | zero =>
    intro a0 x1 x2 x3 o h0 hg hk
    cases hg
  | succ n ih =>
    intro a0 x1 x2 x3 o h0 hg hk
    unfold g_X6_bestPlaces_4 at hg
    refine ev_iload_n (q := 5) dX6_bestPlaces_4 rfl rfl ?_
    refine ev_bipush (v := 32) (q := 7) dX6_bestPlaces_5 mcb_32 rfl ?_
    refine ev_icmp_ge (t := 56) (q := 10) dX6_bestPlaces_7 rfl rfl hg (fun hg => ?_) (fun hg => ?_)
    · refine ev_aload_n (q := 11) dX6_bestPlaces_10 rfl rfl ?_
      refine ev_iload_n (q := 12) dX6_bestPlaces_11 rfl rfl ?_
      refine ev_iload_n (q := 13) dX6_bestPlaces_12 rfl rfl ?_
      obtain ⟨o_2, ho_2, hg⟩ := mj_bd hg
      refine ev_callS (q := 16) kX6_valueAbove mw_t_X6_valueAbove mw_m_RX6_264 (r_X6_valueAbove h0 ho_2) rfl rfl (Nat.le_of_ble_eq_true rfl) (by decide) dX6_bestPlaces_13 rfl (fun v fv gv hp => ?_)
      obtain ⟨rfl, rfl, rfl⟩ := hp
      refine ev_aload_n (q := 17) dX6_bestPlaces_16 rfl rfl ?_
      refine ev_iload_n (q := 18) dX6_bestPlaces_17 rfl rfl ?_
      refine ev_iload_n (q := 19) dX6_bestPlaces_18 rfl rfl ?_
      obtain ⟨o_3, ho_3, hg⟩ := mj_bd hg
      refine ev_callS (q := 22) kX6_valueBelow mw_t_X6_valueBelow mw_m_RX6_268 (r_X6_valueBelow h0 ho_3) rfl rfl (Nat.le_of_ble_eq_true rfl) (by decide) dX6_bestPlaces_19 rfl (fun v fv gv hp => ?_)
      obtain ⟨rfl, rfl, rfl⟩ := hp
      refine ev_lmul (q := 23) dX6_bestPlaces_22 rfl ?_
      refine ev_nml (fun w_4 hw_4 => ?_)
      have hg := mj_lt_el hw_4 hg
      refine ev_lstore (q := 25) (loc' := [some (.ref _), some (.int _), some (.int _), some (.int _), some (.long _), none, none, none]) dX6_bestPlaces_23 (by decide) rfl rfl ?_
      refine ev_aload_n (q := 26) dX6_bestPlaces_25 rfl rfl ?_
      refine ev_iload_n (q := 27) dX6_bestPlaces_26 rfl rfl ?_
      refine ev_iload_n (q := 28) dX6_bestPlaces_27 rfl rfl ?_
      obtain ⟨o_5, ho_5, hg⟩ := mj_bd hg
      refine ev_callS (q := 31) kX6_valueAbove mw_t_X6_valueAbove mw_m_RX6_264 (r_X6_valueAbove h0 ho_5) rfl rfl (Nat.le_of_ble_eq_true rfl) (by decide) dX6_bestPlaces_28 rfl (fun v fv gv hp => ?_)
      obtain ⟨rfl, rfl, rfl⟩ := hp
      refine ev_aload_n (q := 32) dX6_bestPlaces_31 rfl rfl ?_
      refine ev_iload_n (q := 33) dX6_bestPlaces_32 rfl rfl ?_
      refine ev_iload_n (q := 34) dX6_bestPlaces_33 rfl rfl ?_
      obtain ⟨o_6, ho_6, hg⟩ := mj_bd hg
      refine ev_callS (q := 37) kX6_valueBelow mw_t_X6_valueBelow mw_m_RX6_268 (r_X6_valueBelow h0 ho_6) rfl rfl (Nat.le_of_ble_eq_true rfl) (by decide) dX6_bestPlaces_34 rfl (fun v fv gv hp => ?_)
      obtain ⟨rfl, rfl, rfl⟩ := hp
      refine ev_lmul (q := 38) dX6_bestPlaces_37 rfl ?_
      refine ev_nml (fun w_7 hw_7 => ?_)
      have hg := mj_lt_el hw_7 hg
      refine ev_lstore (q := 40) (loc' := [some (.ref _), some (.int _), some (.int _), some (.int _), some (.long _), none, some (.long _), none]) dX6_bestPlaces_38 (by decide) rfl rfl ?_
      refine ev_lload (q := 42) dX6_bestPlaces_40 rfl rfl ?_
      refine ev_lload (q := 44) dX6_bestPlaces_42 rfl rfl ?_
      refine ev_lcmp (q := 45) dX6_bestPlaces_44 rfl ?_
      refine ev_if_le (t := 50) (q := 48) dX6_bestPlaces_45 rfl rfl hg (fun hg => ?_) (fun hg => ?_)
      · refine ev_iload_n (q := 49) dX6_bestPlaces_48 rfl rfl ?_
        refine ev_istore_n (q := 50) (loc' := [some (.ref _), some (.int _), some (.int _), some (.int _), some (.long _), none, some (.long _), none]) dX6_bestPlaces_49 (by decide) rfl rfl ?_
        refine ev_iinc (v := 1) (q := 53) (loc' := [some (.ref _), some (.int _), some (.int _), some (.int _), some (.long _), none, some (.long _), none]) dX6_bestPlaces_50 rfl (by decide) mci_1 rfl rfl ?_
        refine ev_goto (q := 4) dX6_bestPlaces_53 rfl ?_
        refine ev_wk (loc' := [some (.ref _), some (.int _), some (.int _), some (.int _), none, none, none, none]) ⟨rfl, rfl, rfl, rfl, trivial⟩ ?_
        exact ih _ _ _ _ _ h0 hg hk
      · refine ev_iinc (v := 1) (q := 53) (loc' := [some (.ref _), some (.int _), some (.int _), some (.int _), some (.long _), none, some (.long _), none]) dX6_bestPlaces_50 rfl (by decide) mci_1 rfl rfl ?_
        refine ev_goto (q := 4) dX6_bestPlaces_53 rfl ?_
        refine ev_wk (loc' := [some (.ref _), some (.int _), some (.int _), some (.int _), none, none, none, none]) ⟨rfl, rfl, rfl, rfl, trivial⟩ ?_
        exact ih _ _ _ _ _ h0 hg hk
    · obtain rfl := Option.some.inj hg
      refine ev_wk (loc' := [none, none, some (.int _), none, none, none, none, none]) ⟨rfl, trivial⟩ ?_
      exact hk
def g_X6_bestPlaces (a0 : Nat) (x1 : Int32) (f : mj_I) : Option (Int32) :=
  (g_X6_bestPlaces_4 mj_fuel a0 x1 (1 : Int32) (2 : Int32) f).bind (fun q_1 =>
  some (q_1))
theorem r_X6_bestPlaces {a0 : Nat} {x1 : Int32} {f : mj_I} {g : mj_L} {o : Int32} (h0 : mx_isR a0) (hg : g_X6_bestPlaces a0 x1 f = some o) : mj_Sp jX6_bestPlaces mx_S [.ref a0, .int x1] f g (fun v f' g' => some (.int o) = v ∧ f = f' ∧ g = g') := by
  refine mj_sp 6 (by decide +kernel) rfl rfl (fun _ _ => Nat.le_of_ble_eq_true rfl) ?_
  show mj_Ev jX6_bestPlaces 0 [some (.ref a0), some (.int x1), none, none, none, none, none, none] [] mx_S f g _
  unfold g_X6_bestPlaces at hg
  refine ev_iconst (v := 1) (q := 1) dX6_bestPlaces_0 mci_1 rfl ?_
  refine ev_istore_n (q := 2) (loc' := [some (.ref _), some (.int _), some (.int _), none, none, none, none, none]) dX6_bestPlaces_1 (by decide) rfl rfl ?_
  refine ev_iconst (v := 2) (q := 3) dX6_bestPlaces_2 mci_2 rfl ?_
  refine ev_istore_n (q := 4) (loc' := [some (.ref _), some (.int _), some (.int _), some (.int _), none, none, none, none]) dX6_bestPlaces_3 (by decide) rfl rfl ?_
  obtain ⟨q_1, hq_1, hg⟩ := mj_bd hg
  refine r_X6_bestPlaces_4 mj_fuel _ _ _ _ _ h0 hq_1 ?_
  refine ev_iload_n (q := 57) dX6_bestPlaces_56 rfl rfl ?_
  obtain rfl := Option.some.inj hg
  exact ev_iret dX6_bestPlaces_57 rfl ⟨rfl, rfl, rfl⟩
def g_X6_guards (x1 : Int32) (x2 : Int32) (f : mj_I) : Option (Int32 × mj_I) :=
  if (g_X6_isRow x1) = 0 then
   some (((-1000001 : Int32), f))
  else
   if mj_in x1 8 = true then
   (g_X6_lineRefusal (28 + 2 * (ix x1)) x2 f).bind (fun o_3 =>
    if o_3.1 = 0 then
     if mj_in x1 8 = true then
     (g_X6_bestPlaces (28 + 2 * (ix x1)) x2 o_3.2).bind (fun o_5 =>
      some ((o_5, o_3.2)))
     else none
    else
     some ((o_3.1, o_3.2)))
   else none
theorem r_X6_guards {x1 : Int32} {x2 : Int32} {f : mj_I} {g : mj_L} {o : Int32 × mj_I} (hg : g_X6_guards x1 x2 f = some o) : mj_Sp jX6_guards mx_S [.ref 0, .int x1, .int x2] f g (fun v f' g' => some (.int o.1) = v ∧ o.2 = f' ∧ g = g') := by
  refine mj_sp 1 (by decide +kernel) rfl rfl (fun _ _ => Nat.le_of_ble_eq_true rfl) ?_
  show mj_Ev jX6_guards 0 [some (.ref 0), some (.int x1), some (.int x2), none] [] mx_S f g _
  unfold g_X6_guards at hg
  refine ev_iload_n (q := 1) dX6_guards_0 rfl rfl ?_
  refine ev_callS (q := 4) kX6_isRow mw_t_X6_isRow mw_m_RX6_65 (r_X6_isRow rfl) rfl rfl (Nat.le_of_ble_eq_true rfl) (by decide) dX6_guards_1 rfl (fun v fv gv hp => ?_)
  obtain ⟨rfl, rfl, rfl, hr_1⟩ := hp
  refine ev_if_ne (t := 10) (q := 7) dX6_guards_4 rfl rfl hg (fun hg => ?_) (fun hg => ?_)
  · refine ev_ldc (q := 9) mw_c_RX6_73 dX6_guards_7 rfl ?_
    obtain rfl := Option.some.inj hg
    exact ev_iret dX6_guards_9 rfl ⟨rfl, rfl, rfl⟩
  · refine ev_aload_n (q := 11) dX6_guards_10 rfl rfl ?_
    refine ev_aload_n (q := 12) dX6_guards_11 rfl rfl ?_
    refine ev_getfR (q := 15) mw_f_RX6_11 rfl rfl dX6_guards_12 rfl ?_
    refine ev_iload_n (q := 16) dX6_guards_15 rfl rfl ?_
    obtain ⟨hi_2, hg⟩ := mj_gd hg
    refine ev_aald (kd := 2) (q := 17) rfl (by decide) hi_2 (mx_rr_get hi_2) dX6_guards_16 rfl ?_
    refine ev_iload_n (q := 18) dX6_guards_17 rfl rfl ?_
    obtain ⟨o_3, ho_3, hg⟩ := mj_bd hg
    refine ev_callV (q := 21) kX6_lineRefusal mw_i_X6_lineRefusal mw_s_X6_lineRefusal mw_m_RX6_255 rfl rfl (r_X6_lineRefusal (mx_isR_of hi_2) ho_3) rfl rfl (Nat.le_of_ble_eq_true rfl) (by decide) dX6_guards_18 rfl (fun v fv gv hp => ?_)
    obtain ⟨rfl, rfl, rfl⟩ := hp
    refine ev_istore_n (q := 22) (loc' := [some (.ref _), some (.int _), some (.int _), some (.int _)]) dX6_guards_21 (by decide) rfl rfl ?_
    refine ev_iload_n (q := 23) dX6_guards_22 rfl rfl ?_
    refine ev_if_eq (t := 30) (q := 26) dX6_guards_23 rfl rfl hg (fun hg => ?_) (fun hg => ?_)
    · refine ev_aload_n (q := 31) dX6_guards_30 rfl rfl ?_
      refine ev_getfR (q := 34) mw_f_RX6_11 rfl rfl dX6_guards_31 rfl ?_
      refine ev_iload_n (q := 35) dX6_guards_34 rfl rfl ?_
      obtain ⟨hi_4, hg⟩ := mj_gd hg
      refine ev_aald (kd := 2) (q := 36) rfl (by decide) hi_4 (mx_rr_get hi_4) dX6_guards_35 rfl ?_
      refine ev_iload_n (q := 37) dX6_guards_36 rfl rfl ?_
      obtain ⟨o_5, ho_5, hg⟩ := mj_bd hg
      refine ev_callS (q := 40) kX6_bestPlaces mw_t_X6_bestPlaces mw_m_RX6_259 (r_X6_bestPlaces (mx_isR_of hi_4) ho_5) rfl rfl (Nat.le_of_ble_eq_true rfl) (by decide) dX6_guards_37 rfl (fun v fv gv hp => ?_)
      obtain ⟨rfl, rfl, rfl⟩ := hp
      obtain rfl := Option.some.inj hg
      exact ev_iret dX6_guards_40 rfl ⟨rfl, rfl, rfl⟩
    · refine ev_iload_n (q := 27) dX6_guards_26 rfl rfl ?_
      refine ev_goto (q := 40) dX6_guards_27 rfl ?_
      obtain rfl := Option.some.inj hg
      exact ev_iret dX6_guards_40 rfl ⟨rfl, rfl, rfl⟩
def g_X6_guardsValue (x1 : Int32) (x2 : Int32) (x3 : Int32) (f : mj_I) : Option (Int64 × mj_I) :=
  if (g_X6_isRow x1) = 0 then
   some (((-1000001 : Int64), f))
  else
   if (g_X6_within x3 (0 : Int32) (1 : Int32)) = 0 then
    some (((-1000001 : Int64), f))
   else
    if mj_in x1 8 = true then
    (g_X6_lineRefusal (28 + 2 * (ix x1)) x2 f).bind (fun o_4 =>
     if o_4.1 = 0 then
      if mj_in x1 8 = true then
      (g_X6_bestPlaces (28 + 2 * (ix x1)) x2 o_4.2).bind (fun o_6 =>
       if mj_in x1 8 = true then
       (g_X6_valueAbove (28 + 2 * (ix x1)) x2 o_6 o_4.2).bind (fun o_8 =>
        if mj_in x1 8 = true then
        (g_X6_valueBelow (28 + 2 * (ix x1)) x2 o_6 o_4.2).bind (fun o_10 =>
         (g_X6_lowest o_8 o_10 x3).bind (fun o_11 =>
         some ((o_11, o_4.2))))
        else none)
       else none)
      else none
     else
      some (((o_4.1).toInt64, o_4.2)))
    else none
theorem r_X6_guardsValue {x1 : Int32} {x2 : Int32} {x3 : Int32} {f : mj_I} {g : mj_L} {o : Int64 × mj_I} (hg : g_X6_guardsValue x1 x2 x3 f = some o) : mj_Sp jX6_guardsValue mx_S [.ref 0, .int x1, .int x2, .int x3] f g (fun v f' g' => some (.long o.1) = v ∧ o.2 = f' ∧ g = g') := by
  refine mj_sp 2 (by decide +kernel) rfl rfl (fun _ _ => Nat.le_of_ble_eq_true rfl) ?_
  show mj_Ev jX6_guardsValue 0 [some (.ref 0), some (.int x1), some (.int x2), some (.int x3), none, none] [] mx_S f g _
  unfold g_X6_guardsValue at hg
  refine ev_iload_n (q := 1) dX6_guardsValue_0 rfl rfl ?_
  refine ev_callS (q := 4) kX6_isRow mw_t_X6_isRow mw_m_RX6_65 (r_X6_isRow rfl) rfl rfl (Nat.le_of_ble_eq_true rfl) (by decide) dX6_guardsValue_1 rfl (fun v fv gv hp => ?_)
  obtain ⟨rfl, rfl, rfl, hr_1⟩ := hp
  refine ev_if_eq (t := 16) (q := 7) dX6_guardsValue_4 rfl rfl hg (fun hg => ?_) (fun hg => ?_)
  · refine ev_ldc2 (q := 19) mw_c_RX6_262 dX6_guardsValue_16 rfl ?_
    obtain rfl := Option.some.inj hg
    exact ev_lret dX6_guardsValue_19 rfl ⟨rfl, rfl, rfl⟩
  · refine ev_iload_n (q := 8) dX6_guardsValue_7 rfl rfl ?_
    refine ev_iconst (v := 0) (q := 9) dX6_guardsValue_8 mci_0 rfl ?_
    refine ev_iconst (v := 1) (q := 10) dX6_guardsValue_9 mci_1 rfl ?_
    refine ev_callS (q := 13) kX6_within mw_t_X6_within mw_m_RX6_69 (r_X6_within rfl) rfl rfl (Nat.le_of_ble_eq_true rfl) (by decide) dX6_guardsValue_10 rfl (fun v fv gv hp => ?_)
    obtain ⟨rfl, rfl, rfl, hr_2⟩ := hp
    refine ev_if_ne (t := 20) (q := 16) dX6_guardsValue_13 rfl rfl hg (fun hg => ?_) (fun hg => ?_)
    · refine ev_ldc2 (q := 19) mw_c_RX6_262 dX6_guardsValue_16 rfl ?_
      obtain rfl := Option.some.inj hg
      exact ev_lret dX6_guardsValue_19 rfl ⟨rfl, rfl, rfl⟩
    · refine ev_aload_n (q := 21) dX6_guardsValue_20 rfl rfl ?_
      refine ev_aload_n (q := 22) dX6_guardsValue_21 rfl rfl ?_
      refine ev_getfR (q := 25) mw_f_RX6_11 rfl rfl dX6_guardsValue_22 rfl ?_
      refine ev_iload_n (q := 26) dX6_guardsValue_25 rfl rfl ?_
      obtain ⟨hi_3, hg⟩ := mj_gd hg
      refine ev_aald (kd := 2) (q := 27) rfl (by decide) hi_3 (mx_rr_get hi_3) dX6_guardsValue_26 rfl ?_
      refine ev_iload_n (q := 28) dX6_guardsValue_27 rfl rfl ?_
      obtain ⟨o_4, ho_4, hg⟩ := mj_bd hg
      refine ev_callV (q := 31) kX6_lineRefusal mw_i_X6_lineRefusal mw_s_X6_lineRefusal mw_m_RX6_255 rfl rfl (r_X6_lineRefusal (mx_isR_of hi_3) ho_4) rfl rfl (Nat.le_of_ble_eq_true rfl) (by decide) dX6_guardsValue_28 rfl (fun v fv gv hp => ?_)
      obtain ⟨rfl, rfl, rfl⟩ := hp
      refine ev_istore (q := 33) (loc' := [some (.ref _), some (.int _), some (.int _), some (.int _), some (.int _), none]) dX6_guardsValue_31 (by decide) rfl rfl ?_
      refine ev_iload (q := 35) dX6_guardsValue_33 rfl rfl ?_
      refine ev_if_eq (t := 42) (q := 38) dX6_guardsValue_35 rfl rfl hg (fun hg => ?_) (fun hg => ?_)
      · refine ev_aload_n (q := 43) dX6_guardsValue_42 rfl rfl ?_
        refine ev_getfR (q := 46) mw_f_RX6_11 rfl rfl dX6_guardsValue_43 rfl ?_
        refine ev_iload_n (q := 47) dX6_guardsValue_46 rfl rfl ?_
        obtain ⟨hi_5, hg⟩ := mj_gd hg
        refine ev_aald (kd := 2) (q := 48) rfl (by decide) hi_5 (mx_rr_get hi_5) dX6_guardsValue_47 rfl ?_
        refine ev_iload_n (q := 49) dX6_guardsValue_48 rfl rfl ?_
        obtain ⟨o_6, ho_6, hg⟩ := mj_bd hg
        refine ev_callS (q := 52) kX6_bestPlaces mw_t_X6_bestPlaces mw_m_RX6_259 (r_X6_bestPlaces (mx_isR_of hi_5) ho_6) rfl rfl (Nat.le_of_ble_eq_true rfl) (by decide) dX6_guardsValue_49 rfl (fun v fv gv hp => ?_)
        obtain ⟨rfl, rfl, rfl⟩ := hp
        refine ev_istore (q := 54) (loc' := [some (.ref _), some (.int _), some (.int _), some (.int _), some (.int _), some (.int _)]) dX6_guardsValue_52 (by decide) rfl rfl ?_
        refine ev_aload_n (q := 55) dX6_guardsValue_54 rfl rfl ?_
        refine ev_getfR (q := 58) mw_f_RX6_11 rfl rfl dX6_guardsValue_55 rfl ?_
        refine ev_iload_n (q := 59) dX6_guardsValue_58 rfl rfl ?_
        obtain ⟨hi_7, hg⟩ := mj_gd hg
        refine ev_aald (kd := 2) (q := 60) rfl (by decide) hi_7 (mx_rr_get hi_7) dX6_guardsValue_59 rfl ?_
        refine ev_iload_n (q := 61) dX6_guardsValue_60 rfl rfl ?_
        refine ev_iload (q := 63) dX6_guardsValue_61 rfl rfl ?_
        obtain ⟨o_8, ho_8, hg⟩ := mj_bd hg
        refine ev_callS (q := 66) kX6_valueAbove mw_t_X6_valueAbove mw_m_RX6_264 (r_X6_valueAbove (mx_isR_of hi_7) ho_8) rfl rfl (Nat.le_of_ble_eq_true rfl) (by decide) dX6_guardsValue_63 rfl (fun v fv gv hp => ?_)
        obtain ⟨rfl, rfl, rfl⟩ := hp
        refine ev_aload_n (q := 67) dX6_guardsValue_66 rfl rfl ?_
        refine ev_getfR (q := 70) mw_f_RX6_11 rfl rfl dX6_guardsValue_67 rfl ?_
        refine ev_iload_n (q := 71) dX6_guardsValue_70 rfl rfl ?_
        obtain ⟨hi_9, hg⟩ := mj_gd hg
        refine ev_aald (kd := 2) (q := 72) rfl (by decide) hi_9 (mx_rr_get hi_9) dX6_guardsValue_71 rfl ?_
        refine ev_iload_n (q := 73) dX6_guardsValue_72 rfl rfl ?_
        refine ev_iload (q := 75) dX6_guardsValue_73 rfl rfl ?_
        obtain ⟨o_10, ho_10, hg⟩ := mj_bd hg
        refine ev_callS (q := 78) kX6_valueBelow mw_t_X6_valueBelow mw_m_RX6_268 (r_X6_valueBelow (mx_isR_of hi_9) ho_10) rfl rfl (Nat.le_of_ble_eq_true rfl) (by decide) dX6_guardsValue_75 rfl (fun v fv gv hp => ?_)
        obtain ⟨rfl, rfl, rfl⟩ := hp
        refine ev_iload_n (q := 79) dX6_guardsValue_78 rfl rfl ?_
        obtain ⟨o_11, ho_11, hg⟩ := mj_bd hg
        refine ev_callS (q := 82) kX6_lowest mw_t_X6_lowest mw_m_RX6_251 (r_X6_lowest ho_11) rfl rfl (Nat.le_of_ble_eq_true rfl) (by decide) dX6_guardsValue_79 rfl (fun v fv gv hp => ?_)
        obtain ⟨rfl, rfl, rfl⟩ := hp
        obtain rfl := Option.some.inj hg
        exact ev_lret dX6_guardsValue_82 rfl ⟨rfl, rfl, rfl⟩
      · refine ev_iload (q := 40) dX6_guardsValue_38 rfl rfl ?_
        refine ev_i2l (q := 41) dX6_guardsValue_40 rfl ?_
        obtain rfl := Option.some.inj hg
        exact ev_lret dX6_guardsValue_41 rfl ⟨rfl, rfl, rfl⟩
def g_X6_dues (x1 : Int32) (f : mj_I) : Option (Int32 × mj_I) :=
  if (f 4 0) = 0 then
   some (((-1000002 : Int32), f))
  else
   if (g_X6_within x1 (0 : Int32) (60 : Int32)) = 0 then
    some (((-1000001 : Int32), f))
   else
    (g_X6_tryHours x1 f).bind (fun o_2 =>
    some ((((o_2 13 7) - (o_2 4 7)), o_2)))
theorem r_X6_dues {x1 : Int32} {f : mj_I} {g : mj_L} {o : Int32 × mj_I} (hg : g_X6_dues x1 f = some o) : mj_Sp jX6_dues mx_S [.ref 0, .int x1] f g (fun v f' g' => some (.int o.1) = v ∧ o.2 = f' ∧ g = g') := by
  refine mj_sp 0 (by decide +kernel) rfl rfl (fun _ _ => Nat.le_of_ble_eq_true rfl) ?_
  show mj_Ev jX6_dues 0 [some (.ref 0), some (.int x1)] [] mx_S f g _
  unfold g_X6_dues at hg
  refine ev_aload_n (q := 1) dX6_dues_0 rfl rfl ?_
  refine ev_getfR (q := 4) mw_f_RX6_25 rfl rfl dX6_dues_1 rfl ?_
  refine ev_getfI (q := 7) mw_f_RX6_146 (by decide) (by decide) (mx_H mx_isH_4) dX6_dues_4 rfl ?_
  refine ev_if_ne (t := 13) (q := 10) dX6_dues_7 rfl rfl hg (fun hg => ?_) (fun hg => ?_)
  · refine ev_ldc (q := 12) mw_c_RX6_142 dX6_dues_10 rfl ?_
    obtain rfl := Option.some.inj hg
    exact ev_iret dX6_dues_12 rfl ⟨rfl, rfl, rfl⟩
  · refine ev_iload_n (q := 14) dX6_dues_13 rfl rfl ?_
    refine ev_iconst (v := 0) (q := 15) dX6_dues_14 mci_0 rfl ?_
    refine ev_bipush (v := 60) (q := 17) dX6_dues_15 mcb_60 rfl ?_
    refine ev_callS (q := 20) kX6_within mw_t_X6_within mw_m_RX6_69 (r_X6_within rfl) rfl rfl (Nat.le_of_ble_eq_true rfl) (by decide) dX6_dues_17 rfl (fun v fv gv hp => ?_)
    obtain ⟨rfl, rfl, rfl, hr_1⟩ := hp
    refine ev_if_ne (t := 26) (q := 23) dX6_dues_20 rfl rfl hg (fun hg => ?_) (fun hg => ?_)
    · refine ev_ldc (q := 25) mw_c_RX6_73 dX6_dues_23 rfl ?_
      obtain rfl := Option.some.inj hg
      exact ev_iret dX6_dues_25 rfl ⟨rfl, rfl, rfl⟩
    · refine ev_aload_n (q := 27) dX6_dues_26 rfl rfl ?_
      refine ev_iload_n (q := 28) dX6_dues_27 rfl rfl ?_
      obtain ⟨o_2, ho_2, hg⟩ := mj_bd hg
      refine ev_callV (q := 31) kX6_tryHours mw_i_X6_tryHours mw_s_X6_tryHours mw_m_RX6_210 rfl rfl (r_X6_tryHours ho_2) rfl rfl (Nat.le_of_ble_eq_true rfl) (by decide) dX6_dues_28 rfl (fun v fv gv hp => ?_)
      obtain ⟨rfl, rfl, rfl⟩ := hp
      refine ev_aload_n (q := 32) dX6_dues_31 rfl rfl ?_
      refine ev_getfR (q := 35) mw_f_RX6_29 rfl rfl dX6_dues_32 rfl ?_
      refine ev_getfI (q := 38) mw_f_RX6_271 (by decide) (by decide) (mx_H mx_isH_13) dX6_dues_35 rfl ?_
      refine ev_aload_n (q := 39) dX6_dues_38 rfl rfl ?_
      refine ev_getfR (q := 42) mw_f_RX6_25 rfl rfl dX6_dues_39 rfl ?_
      refine ev_getfI (q := 45) mw_f_RX6_271 (by decide) (by decide) (mx_H mx_isH_4) dX6_dues_42 rfl ?_
      refine ev_isub (q := 46) dX6_dues_45 rfl ?_
      obtain rfl := Option.some.inj hg
      exact ev_iret dX6_dues_46 rfl ⟨rfl, rfl, rfl⟩
def g_X6_image (x1 : Int32) (f : mj_I) : Option (Int32 × mj_I) :=
  if (g_X6_within x1 (0 : Int32) (1 : Int32)) = 0 then
   some (((-1000001 : Int32), f))
  else
   if (f 4 0) = 0 then
    some (((-1000002 : Int32), f))
   else
    if mj_in x1 2 = true then
    (g_X2_become (44 + 9 * (ix x1)) 4 f).bind (fun o_3 =>
     some (((1 : Int32), o_3)))
    else none
theorem r_X6_image {x1 : Int32} {f : mj_I} {g : mj_L} {o : Int32 × mj_I} (hg : g_X6_image x1 f = some o) : mj_Sp jX6_image mx_S [.ref 0, .int x1] f g (fun v f' g' => some (.int o.1) = v ∧ o.2 = f' ∧ g = g') := by
  refine mj_sp 0 (by decide +kernel) rfl rfl (fun _ _ => Nat.le_of_ble_eq_true rfl) ?_
  show mj_Ev jX6_image 0 [some (.ref 0), some (.int x1)] [] mx_S f g _
  unfold g_X6_image at hg
  refine ev_iload_n (q := 1) dX6_image_0 rfl rfl ?_
  refine ev_iconst (v := 0) (q := 2) dX6_image_1 mci_0 rfl ?_
  refine ev_iconst (v := 1) (q := 3) dX6_image_2 mci_1 rfl ?_
  refine ev_callS (q := 6) kX6_within mw_t_X6_within mw_m_RX6_69 (r_X6_within rfl) rfl rfl (Nat.le_of_ble_eq_true rfl) (by decide) dX6_image_3 rfl (fun v fv gv hp => ?_)
  obtain ⟨rfl, rfl, rfl, hr_1⟩ := hp
  refine ev_if_ne (t := 12) (q := 9) dX6_image_6 rfl rfl hg (fun hg => ?_) (fun hg => ?_)
  · refine ev_ldc (q := 11) mw_c_RX6_73 dX6_image_9 rfl ?_
    obtain rfl := Option.some.inj hg
    exact ev_iret dX6_image_11 rfl ⟨rfl, rfl, rfl⟩
  · refine ev_aload_n (q := 13) dX6_image_12 rfl rfl ?_
    refine ev_getfR (q := 16) mw_f_RX6_25 rfl rfl dX6_image_13 rfl ?_
    refine ev_getfI (q := 19) mw_f_RX6_146 (by decide) (by decide) (mx_H mx_isH_4) dX6_image_16 rfl ?_
    refine ev_if_ne (t := 25) (q := 22) dX6_image_19 rfl rfl hg (fun hg => ?_) (fun hg => ?_)
    · refine ev_ldc (q := 24) mw_c_RX6_142 dX6_image_22 rfl ?_
      obtain rfl := Option.some.inj hg
      exact ev_iret dX6_image_24 rfl ⟨rfl, rfl, rfl⟩
    · refine ev_aload_n (q := 26) dX6_image_25 rfl rfl ?_
      refine ev_getfR (q := 29) mw_f_RX6_39 rfl rfl dX6_image_26 rfl ?_
      refine ev_iload_n (q := 30) dX6_image_29 rfl rfl ?_
      obtain ⟨hi_2, hg⟩ := mj_gd hg
      refine ev_aald (kd := 1) (q := 31) rfl (by decide) hi_2 (mx_ir_get hi_2) dX6_image_30 rfl ?_
      refine ev_aload_n (q := 32) dX6_image_31 rfl rfl ?_
      refine ev_getfR (q := 35) mw_f_RX6_25 rfl rfl dX6_image_32 rfl ?_
      obtain ⟨o_3, ho_3, hg⟩ := mj_bd hg
      refine ev_callV (q := 38) kX2_become mw_i_X2_become mw_s_X2_become mw_m_RX6_132 (mx_H (mx_isH_of hi_2)) rfl (r_X2_become (mx_isH_of hi_2) mx_isH_4 ho_3) rfl rfl (Nat.le_of_ble_eq_true rfl) (by decide) dX6_image_35 rfl (fun v fv gv hp => ?_)
      obtain ⟨rfl, rfl, rfl⟩ := hp
      refine ev_iconst (v := 1) (q := 39) dX6_image_38 mci_1 rfl ?_
      obtain rfl := Option.some.inj hg
      exact ev_iret dX6_image_39 rfl ⟨rfl, rfl, rfl⟩
def g_X6_restore (x1 : Int32) (f : mj_I) : Option (Int32 × mj_I) :=
  if (g_X6_within x1 (0 : Int32) (1 : Int32)) = 0 then
   some (((-1000001 : Int32), f))
  else
   if mj_in x1 2 = true then
   if (f (44 + 9 * (ix x1)) 0) = 0 then
     some (((-1000002 : Int32), f))
    else
     if mj_in x1 2 = true then
     (g_X2_become 4 (44 + 9 * (ix x1)) f).bind (fun o_4 =>
      mj_lt (g_X0_forget o_4) (fun o_5 =>
      some (((1 : Int32), o_5))))
     else none
   else none
theorem r_X6_restore {x1 : Int32} {f : mj_I} {g : mj_L} {o : Int32 × mj_I} (hg : g_X6_restore x1 f = some o) : mj_Sp jX6_restore mx_S [.ref 0, .int x1] f g (fun v f' g' => some (.int o.1) = v ∧ o.2 = f' ∧ g = g') := by
  refine mj_sp 0 (by decide +kernel) rfl rfl (fun _ _ => Nat.le_of_ble_eq_true rfl) ?_
  show mj_Ev jX6_restore 0 [some (.ref 0), some (.int x1)] [] mx_S f g _
  unfold g_X6_restore at hg
  refine ev_iload_n (q := 1) dX6_restore_0 rfl rfl ?_
  refine ev_iconst (v := 0) (q := 2) dX6_restore_1 mci_0 rfl ?_
  refine ev_iconst (v := 1) (q := 3) dX6_restore_2 mci_1 rfl ?_
  refine ev_callS (q := 6) kX6_within mw_t_X6_within mw_m_RX6_69 (r_X6_within rfl) rfl rfl (Nat.le_of_ble_eq_true rfl) (by decide) dX6_restore_3 rfl (fun v fv gv hp => ?_)
  obtain ⟨rfl, rfl, rfl, hr_1⟩ := hp
  refine ev_if_ne (t := 12) (q := 9) dX6_restore_6 rfl rfl hg (fun hg => ?_) (fun hg => ?_)
  · refine ev_ldc (q := 11) mw_c_RX6_73 dX6_restore_9 rfl ?_
    obtain rfl := Option.some.inj hg
    exact ev_iret dX6_restore_11 rfl ⟨rfl, rfl, rfl⟩
  · refine ev_aload_n (q := 13) dX6_restore_12 rfl rfl ?_
    refine ev_getfR (q := 16) mw_f_RX6_39 rfl rfl dX6_restore_13 rfl ?_
    refine ev_iload_n (q := 17) dX6_restore_16 rfl rfl ?_
    obtain ⟨hi_2, hg⟩ := mj_gd hg
    refine ev_aald (kd := 1) (q := 18) rfl (by decide) hi_2 (mx_ir_get hi_2) dX6_restore_17 rfl ?_
    refine ev_getfI (q := 21) mw_f_RX6_146 (by decide) (by decide) (mx_H (mx_isH_of hi_2)) dX6_restore_18 rfl ?_
    refine ev_if_ne (t := 27) (q := 24) dX6_restore_21 rfl rfl hg (fun hg => ?_) (fun hg => ?_)
    · refine ev_ldc (q := 26) mw_c_RX6_142 dX6_restore_24 rfl ?_
      obtain rfl := Option.some.inj hg
      exact ev_iret dX6_restore_26 rfl ⟨rfl, rfl, rfl⟩
    · refine ev_aload_n (q := 28) dX6_restore_27 rfl rfl ?_
      refine ev_getfR (q := 31) mw_f_RX6_25 rfl rfl dX6_restore_28 rfl ?_
      refine ev_aload_n (q := 32) dX6_restore_31 rfl rfl ?_
      refine ev_getfR (q := 35) mw_f_RX6_39 rfl rfl dX6_restore_32 rfl ?_
      refine ev_iload_n (q := 36) dX6_restore_35 rfl rfl ?_
      obtain ⟨hi_3, hg⟩ := mj_gd hg
      refine ev_aald (kd := 1) (q := 37) rfl (by decide) hi_3 (mx_ir_get hi_3) dX6_restore_36 rfl ?_
      obtain ⟨o_4, ho_4, hg⟩ := mj_bd hg
      refine ev_callV (q := 40) kX2_become mw_i_X2_become mw_s_X2_become mw_m_RX6_132 (mx_H mx_isH_4) rfl (r_X2_become mx_isH_4 (mx_isH_of hi_3) ho_4) rfl rfl (Nat.le_of_ble_eq_true rfl) (by decide) dX6_restore_37 rfl (fun v fv gv hp => ?_)
      obtain ⟨rfl, rfl, rfl⟩ := hp
      refine ev_aload_n (q := 41) dX6_restore_40 rfl rfl ?_
      refine ev_getfR (q := 44) mw_f_RX6_46 rfl rfl dX6_restore_41 rfl ?_
      obtain ⟨o_5, ho_5, hg⟩ := mj_lte hg
      refine ev_callV (q := 47) kX0_forget mw_i_X0_forget mw_s_X0_forget mw_m_RX6_135 rfl rfl (r_X0_forget ho_5) rfl rfl (Nat.le_of_ble_eq_true rfl) (by decide) dX6_restore_44 rfl (fun v fv gv hp => ?_)
      obtain ⟨rfl, rfl, rfl⟩ := hp
      refine ev_iconst (v := 1) (q := 48) dX6_restore_47 mci_1 rfl ?_
      obtain rfl := Option.some.inj hg
      exact ev_iret dX6_restore_48 rfl ⟨rfl, rfl, rfl⟩
def g_X6_kind (x1 : Int32) (f : mj_I) : Option (Int32) :=
  if (g_X6_isCloud x1 f) = 0 then
   some ((-1000001 : Int32))
  else
   if mj_in x1 5 = true then
   some ((f (4 + 4 + (ix x1)) 0))
   else none
theorem r_X6_kind {x1 : Int32} {f : mj_I} {g : mj_L} {o : Int32} (hg : g_X6_kind x1 f = some o) : mj_Sp jX6_kind mx_S [.ref 0, .int x1] f g (fun v f' g' => some (.int o) = v ∧ f = f' ∧ g = g') := by
  refine mj_sp 0 (by decide +kernel) rfl rfl (fun _ _ => Nat.le_of_ble_eq_true rfl) ?_
  show mj_Ev jX6_kind 0 [some (.ref 0), some (.int x1)] [] mx_S f g _
  unfold g_X6_kind at hg
  refine ev_aload_n (q := 1) dX6_kind_0 rfl rfl ?_
  refine ev_iload_n (q := 2) dX6_kind_1 rfl rfl ?_
  refine ev_callV (q := 5) kX6_isCloud mw_i_X6_isCloud mw_s_X6_isCloud mw_m_RX6_161 rfl rfl (r_X6_isCloud rfl) rfl rfl (Nat.le_of_ble_eq_true rfl) (by decide) dX6_kind_2 rfl (fun v fv gv hp => ?_)
  obtain ⟨rfl, rfl, rfl, hr_1⟩ := hp
  refine ev_if_eq (t := 23) (q := 8) dX6_kind_5 rfl rfl hg (fun hg => ?_) (fun hg => ?_)
  · refine ev_ldc (q := 25) mw_c_RX6_73 dX6_kind_23 rfl ?_
    obtain rfl := Option.some.inj hg
    exact ev_iret dX6_kind_25 rfl ⟨rfl, rfl, rfl⟩
  · refine ev_aload_n (q := 9) dX6_kind_8 rfl rfl ?_
    refine ev_getfR (q := 12) mw_f_RX6_25 rfl rfl dX6_kind_9 rfl ?_
    refine ev_getfR (q := 15) mw_f_RX6_164 (mx_H mx_isH_4) rfl dX6_kind_12 rfl ?_
    refine ev_iload_n (q := 16) dX6_kind_15 rfl rfl ?_
    obtain ⟨hi_2, hg⟩ := mj_gd hg
    refine ev_aald (kd := 0) (q := 17) (mx_HC mx_isH_4) (by decide) hi_2 (mx_cr_get hi_2) dX6_kind_16 rfl ?_
    refine ev_getfI (q := 20) mw_f_RX6_185 (by decide) (by decide) (mx_C (mx_isC_of mx_isH_4 hi_2)) dX6_kind_17 rfl ?_
    refine ev_goto (q := 25) dX6_kind_20 rfl ?_
    obtain rfl := Option.some.inj hg
    exact ev_iret dX6_kind_25 rfl ⟨rfl, rfl, rfl⟩
def g_X6_as_56 (x1 : Int32) (s0 : Int32) (f : mj_I) : Option (Int32 × mj_I) :=
  if s0 = 0 then
   mj_lt (g_X6_found (3 : Int32) f) (fun o_6 =>
   some ((o_6.1, o_6.2)))
  else
   mj_lt (g_X6_clean x1 f) (fun o_7 =>
   some ((o_7.1, o_7.2)))
theorem r_X6_as_56 {g : mj_L} : ∀ (x1 : Int32) (s0 : Int32) (f : mj_I) (o : Int32 × mj_I), g_X6_as_56 x1 s0 f = some o → mj_Ev jX6_as 56 [some (.ref 0), some (.int x1), none, none, none] [.int s0] mx_S f g (fun v f' g' => some (.int o.1) = v ∧ o.2 = f' ∧ g = g') := by
  intro x1 s0 f o hg
  unfold g_X6_as_56 at hg
  refine ev_istore (q := 58) (loc' := [some (.ref _), some (.int _), none, none, some (.int _)]) dX6_as_56 (by decide) rfl rfl ?_
  refine ev_iload (q := 60) dX6_as_58 rfl rfl ?_
  refine ev_if_eq (t := 71) (q := 63) dX6_as_60 rfl rfl hg (fun hg => ?_) (fun hg => ?_)
  · refine ev_aload_n (q := 72) dX6_as_71 rfl rfl ?_
    refine ev_iconst (v := 3) (q := 73) dX6_as_72 mci_3 rfl ?_
    obtain ⟨o_6, ho_6, hg⟩ := mj_lte hg
    refine ev_callV (q := 76) kX6_found mw_i_X6_found mw_s_X6_found mw_m_RX6_74 rfl rfl (r_X6_found ho_6) rfl rfl (Nat.le_of_ble_eq_true rfl) (by decide) dX6_as_73 rfl (fun v fv gv hp => ?_)
    obtain ⟨rfl, rfl, rfl⟩ := hp
    obtain rfl := Option.some.inj hg
    exact ev_iret dX6_as_76 rfl ⟨rfl, rfl, rfl⟩
  · refine ev_aload_n (q := 64) dX6_as_63 rfl rfl ?_
    refine ev_iload_n (q := 65) dX6_as_64 rfl rfl ?_
    obtain ⟨o_7, ho_7, hg⟩ := mj_lte hg
    refine ev_callV (q := 68) kX6_clean mw_i_X6_clean mw_s_X6_clean mw_m_RX6_82 rfl rfl (r_X6_clean ho_7) rfl rfl (Nat.le_of_ble_eq_true rfl) (by decide) dX6_as_65 rfl (fun v fv gv hp => ?_)
    obtain ⟨rfl, rfl, rfl⟩ := hp
    refine ev_goto (q := 76) dX6_as_68 rfl ?_
    obtain rfl := Option.some.inj hg
    exact ev_iret dX6_as_76 rfl ⟨rfl, rfl, rfl⟩
def g_X6_as (x1 : Int32) (x2 : Int32) (f : mj_I) : Option (Int32 × mj_I) :=
  if (g_X6_isCloud x1 f) = 0 then
   some (((-1000001 : Int32), f))
  else
   if (g_X6_within x2 (0 : Int32) (5 : Int32)) = 0 then
    some (((-1000001 : Int32), f))
   else
    if mj_in x1 5 = true then
    mj_lt ((f (4 + 4 + (ix x1)) 0)) (fun u_4 =>
     if x2 = u_4 then
      g_X6_as_56 x1 (1 : Int32) f
     else
      if mj_in u_4 6 = true then
      if x2 = ((mj_tab 0).getD (ix u_4) 0) then
        g_X6_as_56 x1 (1 : Int32) f
       else
        if x2 = 0 then
         g_X6_as_56 x1 (1 : Int32) f
        else
         g_X6_as_56 x1 (0 : Int32) f
      else none)
    else none
theorem r_X6_as {x1 : Int32} {x2 : Int32} {f : mj_I} {g : mj_L} {o : Int32 × mj_I} (hg : g_X6_as x1 x2 f = some o) : mj_Sp jX6_as mx_S [.ref 0, .int x1, .int x2] f g (fun v f' g' => some (.int o.1) = v ∧ o.2 = f' ∧ g = g') := by
  refine mj_sp 2 (by decide +kernel) rfl rfl (fun _ _ => Nat.le_of_ble_eq_true rfl) ?_
  show mj_Ev jX6_as 0 [some (.ref 0), some (.int x1), some (.int x2), none, none] [] mx_S f g _
  unfold g_X6_as at hg
  refine ev_aload_n (q := 1) dX6_as_0 rfl rfl ?_
  refine ev_iload_n (q := 2) dX6_as_1 rfl rfl ?_
  refine ev_callV (q := 5) kX6_isCloud mw_i_X6_isCloud mw_s_X6_isCloud mw_m_RX6_161 rfl rfl (r_X6_isCloud rfl) rfl rfl (Nat.le_of_ble_eq_true rfl) (by decide) dX6_as_2 rfl (fun v fv gv hp => ?_)
  obtain ⟨rfl, rfl, rfl, hr_1⟩ := hp
  refine ev_if_eq (t := 17) (q := 8) dX6_as_5 rfl rfl hg (fun hg => ?_) (fun hg => ?_)
  · refine ev_ldc (q := 19) mw_c_RX6_73 dX6_as_17 rfl ?_
    obtain rfl := Option.some.inj hg
    exact ev_iret dX6_as_19 rfl ⟨rfl, rfl, rfl⟩
  · refine ev_iload_n (q := 9) dX6_as_8 rfl rfl ?_
    refine ev_iconst (v := 0) (q := 10) dX6_as_9 mci_0 rfl ?_
    refine ev_iconst (v := 5) (q := 11) dX6_as_10 mci_5 rfl ?_
    refine ev_callS (q := 14) kX6_within mw_t_X6_within mw_m_RX6_69 (r_X6_within rfl) rfl rfl (Nat.le_of_ble_eq_true rfl) (by decide) dX6_as_11 rfl (fun v fv gv hp => ?_)
    obtain ⟨rfl, rfl, rfl, hr_2⟩ := hp
    refine ev_if_ne (t := 20) (q := 17) dX6_as_14 rfl rfl hg (fun hg => ?_) (fun hg => ?_)
    · refine ev_ldc (q := 19) mw_c_RX6_73 dX6_as_17 rfl ?_
      obtain rfl := Option.some.inj hg
      exact ev_iret dX6_as_19 rfl ⟨rfl, rfl, rfl⟩
    · refine ev_aload_n (q := 21) dX6_as_20 rfl rfl ?_
      refine ev_getfR (q := 24) mw_f_RX6_25 rfl rfl dX6_as_21 rfl ?_
      refine ev_getfR (q := 27) mw_f_RX6_164 (mx_H mx_isH_4) rfl dX6_as_24 rfl ?_
      refine ev_iload_n (q := 28) dX6_as_27 rfl rfl ?_
      obtain ⟨hi_3, hg⟩ := mj_gd hg
      refine ev_aald (kd := 0) (q := 29) (mx_HC mx_isH_4) (by decide) hi_3 (mx_cr_get hi_3) dX6_as_28 rfl ?_
      refine ev_getfI (q := 32) mw_f_RX6_185 (by decide) (by decide) (mx_C (mx_isC_of mx_isH_4 hi_3)) dX6_as_29 rfl ?_
      refine ev_nmi (fun u_4 hu_4 => ?_)
      have hg := mj_lt_el hu_4 hg
      refine ev_istore_n (q := 33) (loc' := [some (.ref _), some (.int _), some (.int _), some (.int _), none]) dX6_as_32 (by decide) rfl rfl ?_
      refine ev_iload_n (q := 34) dX6_as_33 rfl rfl ?_
      refine ev_iload_n (q := 35) dX6_as_34 rfl rfl ?_
      refine ev_icmp_eq (t := 51) (q := 38) dX6_as_35 rfl rfl hg (fun hg => ?_) (fun hg => ?_)
      · refine ev_iconst (v := 1) (q := 52) dX6_as_51 mci_1 rfl ?_
        refine ev_goto (q := 56) dX6_as_52 rfl ?_
        refine ev_wk (loc' := [some (.ref _), some (.int _), none, none, none]) ⟨rfl, rfl, trivial⟩ ?_
        exact r_X6_as_56 _ _ _ _ hg
      · refine ev_iload_n (q := 39) dX6_as_38 rfl rfl ?_
        refine ev_gets0 (q := 42) mw_st_RX6_274 dX6_as_39 rfl ?_
        refine ev_iload_n (q := 43) dX6_as_42 rfl rfl ?_
        obtain ⟨hi_5, hg⟩ := mj_gd hg
        refine ev_sald (q := 44) (by decide) hi_5 dX6_as_43 rfl ?_
        refine ev_icmp_eq (t := 51) (q := 47) dX6_as_44 rfl rfl hg (fun hg => ?_) (fun hg => ?_)
        · refine ev_iconst (v := 1) (q := 52) dX6_as_51 mci_1 rfl ?_
          refine ev_goto (q := 56) dX6_as_52 rfl ?_
          refine ev_wk (loc' := [some (.ref _), some (.int _), none, none, none]) ⟨rfl, rfl, trivial⟩ ?_
          exact r_X6_as_56 _ _ _ _ hg
        · refine ev_iload_n (q := 48) dX6_as_47 rfl rfl ?_
          refine ev_if_ne (t := 55) (q := 51) dX6_as_48 rfl rfl hg (fun hg => ?_) (fun hg => ?_)
          · refine ev_iconst (v := 1) (q := 52) dX6_as_51 mci_1 rfl ?_
            refine ev_goto (q := 56) dX6_as_52 rfl ?_
            refine ev_wk (loc' := [some (.ref _), some (.int _), none, none, none]) ⟨rfl, rfl, trivial⟩ ?_
            exact r_X6_as_56 _ _ _ _ hg
          · refine ev_iconst (v := 0) (q := 56) dX6_as_55 mci_0 rfl ?_
            refine ev_wk (loc' := [some (.ref _), some (.int _), none, none, none]) ⟨rfl, rfl, trivial⟩ ?_
            exact r_X6_as_56 _ _ _ _ hg
def g_X6_ask (x1 : Int32) (x2 : Int32) (f : mj_I) : Option (Int32 × mj_I) :=
  if (g_X6_isCloud x1 f) = 0 then
   some (((-1000001 : Int32), f))
  else
   if (g_X6_within x2 (0 : Int32) (1 : Int32)) = 0 then
    some (((-1000001 : Int32), f))
   else
    if mj_in x1 5 = true then
    (g_X5_answer (4 + 4 + (ix x1)) x1 x2 f).bind (fun o_4 =>
     some ((o_4.1, o_4.2)))
    else none
theorem r_X6_ask {x1 : Int32} {x2 : Int32} {f : mj_I} {g : mj_L} {o : Int32 × mj_I} (hg : g_X6_ask x1 x2 f = some o) : mj_Sp jX6_ask mx_S [.ref 0, .int x1, .int x2] f g (fun v f' g' => some (.int o.1) = v ∧ o.2 = f' ∧ g = g') := by
  refine mj_sp 0 (by decide +kernel) rfl rfl (fun _ _ => Nat.le_of_ble_eq_true rfl) ?_
  show mj_Ev jX6_ask 0 [some (.ref 0), some (.int x1), some (.int x2)] [] mx_S f g _
  unfold g_X6_ask at hg
  refine ev_aload_n (q := 1) dX6_ask_0 rfl rfl ?_
  refine ev_iload_n (q := 2) dX6_ask_1 rfl rfl ?_
  refine ev_callV (q := 5) kX6_isCloud mw_i_X6_isCloud mw_s_X6_isCloud mw_m_RX6_161 rfl rfl (r_X6_isCloud rfl) rfl rfl (Nat.le_of_ble_eq_true rfl) (by decide) dX6_ask_2 rfl (fun v fv gv hp => ?_)
  obtain ⟨rfl, rfl, rfl, hr_1⟩ := hp
  refine ev_if_eq (t := 17) (q := 8) dX6_ask_5 rfl rfl hg (fun hg => ?_) (fun hg => ?_)
  · refine ev_ldc (q := 19) mw_c_RX6_73 dX6_ask_17 rfl ?_
    obtain rfl := Option.some.inj hg
    exact ev_iret dX6_ask_19 rfl ⟨rfl, rfl, rfl⟩
  · refine ev_iload_n (q := 9) dX6_ask_8 rfl rfl ?_
    refine ev_iconst (v := 0) (q := 10) dX6_ask_9 mci_0 rfl ?_
    refine ev_iconst (v := 1) (q := 11) dX6_ask_10 mci_1 rfl ?_
    refine ev_callS (q := 14) kX6_within mw_t_X6_within mw_m_RX6_69 (r_X6_within rfl) rfl rfl (Nat.le_of_ble_eq_true rfl) (by decide) dX6_ask_11 rfl (fun v fv gv hp => ?_)
    obtain ⟨rfl, rfl, rfl, hr_2⟩ := hp
    refine ev_if_ne (t := 20) (q := 17) dX6_ask_14 rfl rfl hg (fun hg => ?_) (fun hg => ?_)
    · refine ev_ldc (q := 19) mw_c_RX6_73 dX6_ask_17 rfl ?_
      obtain rfl := Option.some.inj hg
      exact ev_iret dX6_ask_19 rfl ⟨rfl, rfl, rfl⟩
    · refine ev_aload_n (q := 21) dX6_ask_20 rfl rfl ?_
      refine ev_getfR (q := 24) mw_f_RX6_53 rfl rfl dX6_ask_21 rfl ?_
      refine ev_aload_n (q := 25) dX6_ask_24 rfl rfl ?_
      refine ev_getfR (q := 28) mw_f_RX6_25 rfl rfl dX6_ask_25 rfl ?_
      refine ev_getfR (q := 31) mw_f_RX6_164 (mx_H mx_isH_4) rfl dX6_ask_28 rfl ?_
      refine ev_iload_n (q := 32) dX6_ask_31 rfl rfl ?_
      obtain ⟨hi_3, hg⟩ := mj_gd hg
      refine ev_aald (kd := 0) (q := 33) (mx_HC mx_isH_4) (by decide) hi_3 (mx_cr_get hi_3) dX6_ask_32 rfl ?_
      refine ev_iload_n (q := 34) dX6_ask_33 rfl rfl ?_
      refine ev_iload_n (q := 35) dX6_ask_34 rfl rfl ?_
      obtain ⟨o_4, ho_4, hg⟩ := mj_bd hg
      refine ev_callV (q := 38) kX5_answer mw_i_X5_answer mw_s_X5_answer mw_m_RX6_277 rfl rfl (r_X5_answer (mx_isC_of mx_isH_4 hi_3) ho_4) rfl rfl (Nat.le_of_ble_eq_true rfl) (by decide) dX6_ask_35 rfl (fun v fv gv hp => ?_)
      obtain ⟨rfl, rfl, rfl⟩ := hp
      obtain rfl := Option.some.inj hg
      exact ev_iret dX6_ask_38 rfl ⟨rfl, rfl, rfl⟩
def g_X6_trace (x1 : Int32) (f : mj_I) : Option (Int32) :=
  if (g_X6_within x1 (0 : Int32) ((f 26 1) - (1 : Int32))) = 0 then
   some ((-1000000 : Int32))
  else
   if mj_in x1 16 = true then
   some ((f 27 (ix x1)))
   else none
theorem r_X6_trace {x1 : Int32} {f : mj_I} {g : mj_L} {o : Int32} (hg : g_X6_trace x1 f = some o) : mj_Sp jX6_trace mx_S [.ref 0, .int x1] f g (fun v f' g' => some (.int o) = v ∧ f = f' ∧ g = g') := by
  refine mj_sp 0 (by decide +kernel) rfl rfl (fun _ _ => Nat.le_of_ble_eq_true rfl) ?_
  show mj_Ev jX6_trace 0 [some (.ref 0), some (.int x1)] [] mx_S f g _
  unfold g_X6_trace at hg
  refine ev_iload_n (q := 1) dX6_trace_0 rfl rfl ?_
  refine ev_iconst (v := 0) (q := 2) dX6_trace_1 mci_0 rfl ?_
  refine ev_aload_n (q := 3) dX6_trace_2 rfl rfl ?_
  refine ev_getfR (q := 6) mw_f_RX6_53 rfl rfl dX6_trace_3 rfl ?_
  refine ev_getfI (q := 9) mw_f_RX6_280 (by decide) (by decide) rfl dX6_trace_6 rfl ?_
  refine ev_iconst (v := 1) (q := 10) dX6_trace_9 mci_1 rfl ?_
  refine ev_isub (q := 11) dX6_trace_10 rfl ?_
  refine ev_callS (q := 14) kX6_within mw_t_X6_within mw_m_RX6_69 (r_X6_within rfl) rfl rfl (Nat.le_of_ble_eq_true rfl) (by decide) dX6_trace_11 rfl (fun v fv gv hp => ?_)
  obtain ⟨rfl, rfl, rfl, hr_1⟩ := hp
  refine ev_if_eq (t := 29) (q := 17) dX6_trace_14 rfl rfl hg (fun hg => ?_) (fun hg => ?_)
  · refine ev_ldc (q := 31) mw_c_RX6_216 dX6_trace_29 rfl ?_
    obtain rfl := Option.some.inj hg
    exact ev_iret dX6_trace_31 rfl ⟨rfl, rfl, rfl⟩
  · refine ev_aload_n (q := 18) dX6_trace_17 rfl rfl ?_
    refine ev_getfR (q := 21) mw_f_RX6_53 rfl rfl dX6_trace_18 rfl ?_
    refine ev_getfR (q := 24) mw_f_RX6_281 rfl rfl dX6_trace_21 rfl ?_
    refine ev_iload_n (q := 25) dX6_trace_24 rfl rfl ?_
    obtain ⟨hi_2, hg⟩ := mj_gd hg
    refine ev_ialdk (q := 26) rfl hi_2 rfl dX6_trace_25 rfl ?_
    refine ev_goto (q := 31) dX6_trace_26 rfl ?_
    obtain rfl := Option.some.inj hg
    exact ev_iret dX6_trace_31 rfl ⟨rfl, rfl, rfl⟩
def g_X6_rowsThere_4 : Nat → Int32 → Int32 → mj_I → Option (Int32)
  | 0, _, _, _ => none
  | n + 1, x1, x2, f =>
    if x2 < (8 : Int32) then
     if mj_in x2 8 = true then
     mj_lt ((x1 + (g_X6_bit (f (28 + 2 * (ix x2)) 0)))) (fun u_4 =>
      g_X6_rowsThere_4 n u_4 (x2 + (1 : Int32)) f)
     else none
    else
     some (x1)
theorem r_X6_rowsThere_4 {f : mj_I} {g : mj_L} {post : Option Value → mj_I → mj_L → Prop} : ∀ (n : Nat) (x1 : Int32) (x2 : Int32) (o : Int32), g_X6_rowsThere_4 n x1 x2 f = some o → mj_Ev jX6_rowsThere 31 [none, some (.int o), none] [] mx_S f g post → mj_Ev jX6_rowsThere 4 [some (.ref 0), some (.int x1), some (.int x2)] [] mx_S f g post := by
  intro n
  induction n with
  | zero =>
    intro x1 x2 o hg hk
    cases hg
  | succ n ih =>
    intro x1 x2 o hg hk
    unfold g_X6_rowsThere_4 at hg
    refine ev_iload_n (q := 5) dX6_rowsThere_4 rfl rfl ?_
    refine ev_bipush (v := 8) (q := 7) dX6_rowsThere_5 mcb_8 rfl ?_
    refine ev_icmp_ge (t := 31) (q := 10) dX6_rowsThere_7 rfl rfl hg (fun hg => ?_) (fun hg => ?_)
    · refine ev_iload_n (q := 11) dX6_rowsThere_10 rfl rfl ?_
      refine ev_aload_n (q := 12) dX6_rowsThere_11 rfl rfl ?_
      refine ev_getfR (q := 15) mw_f_RX6_11 rfl rfl dX6_rowsThere_12 rfl ?_
      refine ev_iload_n (q := 16) dX6_rowsThere_15 rfl rfl ?_
      obtain ⟨hi_2, hg⟩ := mj_gd hg
      refine ev_aald (kd := 2) (q := 17) rfl (by decide) hi_2 (mx_rr_get hi_2) dX6_rowsThere_16 rfl ?_
      refine ev_getfI (q := 20) mw_f_RX6_92 (by decide) (by decide) (mx_R (mx_isR_of hi_2)) dX6_rowsThere_17 rfl ?_
      refine ev_callS (q := 23) kX6_bit mw_t_X6_bit mw_m_RX6_191 (r_X6_bit rfl) rfl rfl (Nat.le_of_ble_eq_true rfl) (by decide) dX6_rowsThere_20 rfl (fun v fv gv hp => ?_)
      obtain ⟨rfl, rfl, rfl⟩ := hp
      refine ev_iadd (q := 24) dX6_rowsThere_23 rfl ?_
      refine ev_nmi (fun u_4 hu_4 => ?_)
      have hg := mj_lt_el hu_4 hg
      refine ev_istore_n (q := 25) (loc' := [some (.ref _), some (.int _), some (.int _)]) dX6_rowsThere_24 (by decide) rfl rfl ?_
      refine ev_iinc (v := 1) (q := 28) (loc' := [some (.ref _), some (.int _), some (.int _)]) dX6_rowsThere_25 rfl (by decide) mci_1 rfl rfl ?_
      refine ev_goto (q := 4) dX6_rowsThere_28 rfl ?_
      exact ih _ _ _ hg hk
    · obtain rfl := Option.some.inj hg
      refine ev_wk (loc' := [none, some (.int _), none]) ⟨rfl, trivial⟩ ?_
      exact hk
def g_X6_rowsThere (f : mj_I) : Option (Int32) :=
  (g_X6_rowsThere_4 mj_fuel (0 : Int32) (0 : Int32) f).bind (fun q_1 =>
  some (q_1))
theorem r_X6_rowsThere {f : mj_I} {g : mj_L} {o : Int32} (hg : g_X6_rowsThere f = some o) : mj_Sp jX6_rowsThere mx_S [.ref 0] f g (fun v f' g' => some (.int o) = v ∧ f = f' ∧ g = g') := by
  refine mj_sp 2 (by decide +kernel) rfl rfl (fun _ _ => Nat.le_of_ble_eq_true rfl) ?_
  show mj_Ev jX6_rowsThere 0 [some (.ref 0), none, none] [] mx_S f g _
  unfold g_X6_rowsThere at hg
  refine ev_iconst (v := 0) (q := 1) dX6_rowsThere_0 mci_0 rfl ?_
  refine ev_istore_n (q := 2) (loc' := [some (.ref _), some (.int _), none]) dX6_rowsThere_1 (by decide) rfl rfl ?_
  refine ev_iconst (v := 0) (q := 3) dX6_rowsThere_2 mci_0 rfl ?_
  refine ev_istore_n (q := 4) (loc' := [some (.ref _), some (.int _), some (.int _)]) dX6_rowsThere_3 (by decide) rfl rfl ?_
  obtain ⟨q_1, hq_1, hg⟩ := mj_bd hg
  refine r_X6_rowsThere_4 mj_fuel _ _ _ hq_1 ?_
  refine ev_iload_n (q := 32) dX6_rowsThere_31 rfl rfl ?_
  obtain rfl := Option.some.inj hg
  exact ev_iret dX6_rowsThere_32 rfl ⟨rfl, rfl, rfl⟩
def g_X6_count (x1 : Int32) (f : mj_I) : Option (Int32) :=
  if x1 = (0 : Int32) then
   (g_X6_rowsThere f).bind (fun o_3 =>
   some (o_3))
  else
   if x1 = (1 : Int32) then
    some ((f 4 4))
   else
    if x1 = (2 : Int32) then
     some ((f 4 3))
    else
     if x1 = (3 : Int32) then
      some ((f 4 5))
     else
      if x1 = (4 : Int32) then
       some ((f 4 6))
      else
       if x1 = (5 : Int32) then
        some ((f 4 7))
       else
        if x1 = (6 : Int32) then
         (g_X2_cloudsLeft 4 f).bind (fun o_2 =>
         some (o_2))
        else
         if x1 = (7 : Int32) then
          some ((f 24 2))
         else
          if x1 = (8 : Int32) then
           some ((f 2 1))
          else
           some ((-1000001 : Int32))
theorem r_X6_count {x1 : Int32} {f : mj_I} {g : mj_L} {o : Int32} (hg : g_X6_count x1 f = some o) : mj_Sp jX6_count mx_S [.ref 0, .int x1] f g (fun v f' g' => some (.int o) = v ∧ f = f' ∧ g = g') := by
  refine mj_sp 0 (by decide +kernel) rfl rfl (fun _ _ => Nat.le_of_ble_eq_true rfl) ?_
  show mj_Ev jX6_count 0 [some (.ref 0), some (.int x1)] [] mx_S f g _
  unfold g_X6_count at hg
  refine ev_iload_n (q := 1) dX6_count_0 rfl rfl ?_
  rcases mj_ite hg with ⟨hx_1_0, hg⟩ | ⟨hx_1_0, hg⟩
  · refine ev_tabIn (v := 0) (off := 51) (q := 52) hx_1_0 dX6_count_1 (by decide) (by decide) rfl rfl ?_
    refine ev_aload_n (q := 53) dX6_count_52 rfl rfl ?_
    obtain ⟨o_3, ho_3, hg⟩ := mj_bd hg
    refine ev_callV (q := 56) kX6_rowsThere mw_i_X6_rowsThere mw_s_X6_rowsThere mw_m_RX6_284 rfl rfl (r_X6_rowsThere ho_3) rfl rfl (Nat.le_of_ble_eq_true rfl) (by decide) dX6_count_53 rfl (fun v fv gv hp => ?_)
    obtain ⟨rfl, rfl, rfl⟩ := hp
    obtain rfl := Option.some.inj hg
    exact ev_iret dX6_count_56 rfl ⟨rfl, rfl, rfl⟩
  · rcases mj_ite hg with ⟨hx_1_1, hg⟩ | ⟨hx_1_1, hg⟩
    · refine ev_tabIn (v := 1) (off := 56) (q := 57) hx_1_1 dX6_count_1 (by decide) (by decide) rfl rfl ?_
      refine ev_aload_n (q := 58) dX6_count_57 rfl rfl ?_
      refine ev_getfR (q := 61) mw_f_RX6_25 rfl rfl dX6_count_58 rfl ?_
      refine ev_getfI (q := 64) mw_f_RX6_138 (by decide) (by decide) (mx_H mx_isH_4) dX6_count_61 rfl ?_
      obtain rfl := Option.some.inj hg
      exact ev_iret dX6_count_64 rfl ⟨rfl, rfl, rfl⟩
    · rcases mj_ite hg with ⟨hx_1_2, hg⟩ | ⟨hx_1_2, hg⟩
      · refine ev_tabIn (v := 2) (off := 64) (q := 65) hx_1_2 dX6_count_1 (by decide) (by decide) rfl rfl ?_
        refine ev_aload_n (q := 66) dX6_count_65 rfl rfl ?_
        refine ev_getfR (q := 69) mw_f_RX6_25 rfl rfl dX6_count_66 rfl ?_
        refine ev_getfI (q := 72) mw_f_RX6_288 (by decide) (by decide) (mx_H mx_isH_4) dX6_count_69 rfl ?_
        obtain rfl := Option.some.inj hg
        exact ev_iret dX6_count_72 rfl ⟨rfl, rfl, rfl⟩
      · rcases mj_ite hg with ⟨hx_1_3, hg⟩ | ⟨hx_1_3, hg⟩
        · refine ev_tabIn (v := 3) (off := 72) (q := 73) hx_1_3 dX6_count_1 (by decide) (by decide) rfl rfl ?_
          refine ev_aload_n (q := 74) dX6_count_73 rfl rfl ?_
          refine ev_getfR (q := 77) mw_f_RX6_25 rfl rfl dX6_count_74 rfl ?_
          refine ev_getfI (q := 80) mw_f_RX6_149 (by decide) (by decide) (mx_H mx_isH_4) dX6_count_77 rfl ?_
          obtain rfl := Option.some.inj hg
          exact ev_iret dX6_count_80 rfl ⟨rfl, rfl, rfl⟩
        · rcases mj_ite hg with ⟨hx_1_4, hg⟩ | ⟨hx_1_4, hg⟩
          · refine ev_tabIn (v := 4) (off := 80) (q := 81) hx_1_4 dX6_count_1 (by decide) (by decide) rfl rfl ?_
            refine ev_aload_n (q := 82) dX6_count_81 rfl rfl ?_
            refine ev_getfR (q := 85) mw_f_RX6_25 rfl rfl dX6_count_82 rfl ?_
            refine ev_getfI (q := 88) mw_f_RX6_158 (by decide) (by decide) (mx_H mx_isH_4) dX6_count_85 rfl ?_
            obtain rfl := Option.some.inj hg
            exact ev_iret dX6_count_88 rfl ⟨rfl, rfl, rfl⟩
          · rcases mj_ite hg with ⟨hx_1_5, hg⟩ | ⟨hx_1_5, hg⟩
            · refine ev_tabIn (v := 5) (off := 88) (q := 89) hx_1_5 dX6_count_1 (by decide) (by decide) rfl rfl ?_
              refine ev_aload_n (q := 90) dX6_count_89 rfl rfl ?_
              refine ev_getfR (q := 93) mw_f_RX6_25 rfl rfl dX6_count_90 rfl ?_
              refine ev_getfI (q := 96) mw_f_RX6_271 (by decide) (by decide) (mx_H mx_isH_4) dX6_count_93 rfl ?_
              obtain rfl := Option.some.inj hg
              exact ev_iret dX6_count_96 rfl ⟨rfl, rfl, rfl⟩
            · rcases mj_ite hg with ⟨hx_1_6, hg⟩ | ⟨hx_1_6, hg⟩
              · refine ev_tabIn (v := 6) (off := 96) (q := 97) hx_1_6 dX6_count_1 (by decide) (by decide) rfl rfl ?_
                refine ev_aload_n (q := 98) dX6_count_97 rfl rfl ?_
                refine ev_getfR (q := 101) mw_f_RX6_25 rfl rfl dX6_count_98 rfl ?_
                obtain ⟨o_2, ho_2, hg⟩ := mj_bd hg
                refine ev_callV (q := 104) kX2_cloudsLeft mw_i_X2_cloudsLeft mw_s_X2_cloudsLeft mw_m_RX6_291 (mx_H mx_isH_4) rfl (r_X2_cloudsLeft mx_isH_4 ho_2) rfl rfl (Nat.le_of_ble_eq_true rfl) (by decide) dX6_count_101 rfl (fun v fv gv hp => ?_)
                obtain ⟨rfl, rfl, rfl⟩ := hp
                obtain rfl := Option.some.inj hg
                exact ev_iret dX6_count_104 rfl ⟨rfl, rfl, rfl⟩
              · rcases mj_ite hg with ⟨hx_1_7, hg⟩ | ⟨hx_1_7, hg⟩
                · refine ev_tabIn (v := 7) (off := 104) (q := 105) hx_1_7 dX6_count_1 (by decide) (by decide) rfl rfl ?_
                  refine ev_aload_n (q := 106) dX6_count_105 rfl rfl ?_
                  refine ev_getfR (q := 109) mw_f_RX6_46 rfl rfl dX6_count_106 rfl ?_
                  refine ev_getfI (q := 112) mw_f_RX6_141 (by decide) (by decide) rfl dX6_count_109 rfl ?_
                  obtain rfl := Option.some.inj hg
                  exact ev_iret dX6_count_112 rfl ⟨rfl, rfl, rfl⟩
                · rcases mj_ite hg with ⟨hx_1_8, hg⟩ | ⟨hx_1_8, hg⟩
                  · refine ev_tabIn (v := 8) (off := 112) (q := 113) hx_1_8 dX6_count_1 (by decide) (by decide) rfl rfl ?_
                    refine ev_aload_n (q := 114) dX6_count_113 rfl rfl ?_
                    refine ev_getfR (q := 117) mw_f_RX6_18 rfl rfl dX6_count_114 rfl ?_
                    refine ev_getfI (q := 120) mw_f_RX6_119 (by decide) (by decide) rfl dX6_count_117 rfl ?_
                    obtain rfl := Option.some.inj hg
                    exact ev_iret dX6_count_120 rfl ⟨rfl, rfl, rfl⟩
                  · refine ev_tabOut (q := 121) dX6_count_1 (by have e0 := lv_neT (a := 0) hx_1_0 (by decide); have e1 := lv_neT (a := 1) hx_1_1 (by decide); have e2 := lv_neT (a := 2) hx_1_2 (by decide); have e3 := lv_neT (a := 3) hx_1_3 (by decide); have e4 := lv_neT (a := 4) hx_1_4 (by decide); have e5 := lv_neT (a := 5) hx_1_5 (by decide); have e6 := lv_neT (a := 6) hx_1_6 (by decide); have e7 := lv_neT (a := 7) hx_1_7 (by decide); have e8 := lv_neT (a := 8) hx_1_8 (by decide); omega) rfl ?_
                    refine ev_ldc (q := 123) mw_c_RX6_73 dX6_count_121 rfl ?_
                    obtain rfl := Option.some.inj hg
                    exact ev_iret dX6_count_123 rfl ⟨rfl, rfl, rfl⟩
def g_X6_status (f : mj_I) : Int32 :=
  (f 0 8)
theorem r_X6_status {f : mj_I} {g : mj_L} {o : Int32} (hg : g_X6_status f = o) : mj_Sp jX6_status mx_S [.ref 0] f g (fun v f' g' => some (.int o) = v ∧ f = f' ∧ g = g') := by
  refine mj_sp 0 (by decide +kernel) rfl rfl (fun _ _ => Nat.le_of_ble_eq_true rfl) ?_
  show mj_Ev jX6_status 0 [some (.ref 0)] [] mx_S f g _
  unfold g_X6_status at hg
  refine ev_aload_n (q := 1) dX6_status_0 rfl rfl ?_
  refine ev_getfI (q := 4) mw_f_RX6_57 (by decide) (by decide) rfl dX6_status_1 rfl ?_
  subst hg
  exact ev_iret dX6_status_4 rfl ⟨rfl, rfl, rfl⟩
def g_X7_in (y0 : Int64) (y2 : Int64) (y4 : Int64) : Int32 :=
  if (lg_cmp y0 y2) < 0 then
   (0 : Int32)
  else
   if 0 < (lg_cmp y0 y4) then
    (0 : Int32)
   else
    (1 : Int32)
theorem r_X7_in {y0 : Int64} {y2 : Int64} {y4 : Int64} {f : mj_I} {g : mj_L} {o : Int32} (hg : g_X7_in y0 y2 y4 = o) : mj_Sp jX7_in my_S [.long y0, .long y2, .long y4] f g (fun v f' g' => some (.int o) = v ∧ f = f' ∧ g = g' ∧ mj_b (o) = true) := by
  refine mj_sp 0 (by decide +kernel) rfl rfl (fun _ _ => Nat.le_of_ble_eq_true rfl) ?_
  show mj_Ev jX7_in 0 [some (.long y0), none, some (.long y2), none, some (.long y4), none] [] my_S f g _
  unfold g_X7_in at hg
  refine ev_lload_n (q := 1) dX7_in_0 rfl rfl ?_
  refine ev_lload_n (q := 2) dX7_in_1 rfl rfl ?_
  refine ev_lcmp (q := 3) dX7_in_2 rfl ?_
  refine ev_if_lt (t := 17) (q := 6) dX7_in_3 rfl rfl hg (fun hg => ?_) (fun hg => ?_)
  · refine ev_iconst (v := 0) (q := 18) dX7_in_17 mci_0 rfl ?_
    subst hg
    exact ev_zret dX7_in_18 rfl (mcz_0) ⟨rfl, rfl, rfl, (mcz_0)⟩
  · refine ev_lload_n (q := 7) dX7_in_6 rfl rfl ?_
    refine ev_lload (q := 9) dX7_in_7 rfl rfl ?_
    refine ev_lcmp (q := 10) dX7_in_9 rfl ?_
    refine ev_if_gt (t := 17) (q := 13) dX7_in_10 rfl rfl hg (fun hg => ?_) (fun hg => ?_)
    · refine ev_iconst (v := 0) (q := 18) dX7_in_17 mci_0 rfl ?_
      subst hg
      exact ev_zret dX7_in_18 rfl (mcz_0) ⟨rfl, rfl, rfl, (mcz_0)⟩
    · refine ev_iconst (v := 1) (q := 14) dX7_in_13 mci_1 rfl ?_
      refine ev_goto (q := 18) dX7_in_14 rfl ?_
      subst hg
      exact ev_zret dX7_in_18 rfl (mcz_1) ⟨rfl, rfl, rfl, (mcz_1)⟩
def g_X7_find (x1 : Int32) (f : mj_I) : Int32 × mj_I :=
  mj_lt (mj_wr f 0 3 x1) (fun f_1 =>
  (((-1000010 : Int32) - x1), f_1))
theorem r_X7_find {x1 : Int32} {f : mj_I} {g : mj_L} {o : Int32 × mj_I} (hg : g_X7_find x1 f = o) : mj_Sp jX7_find my_S [.ref 0, .int x1] f g (fun v f' g' => some (.int o.1) = v ∧ o.2 = f' ∧ g = g') := by
  refine mj_sp 0 (by decide +kernel) rfl rfl (fun _ _ => Nat.le_of_ble_eq_true rfl) ?_
  show mj_Ev jX7_find 0 [some (.ref 0), some (.int x1)] [] my_S f g _
  unfold g_X7_find at hg
  refine ev_aload_n (q := 1) dX7_find_0 rfl rfl ?_
  refine ev_iload_n (q := 2) dX7_find_1 rfl rfl ?_
  refine ev_putfI (q := 5) mw_f_RX7_53 rfl dX7_find_2 rfl ?_
  refine ev_nmf (fun f_1 hf_1 => ?_)
  have hg := mj_lt_el hf_1 hg
  refine ev_ldc (q := 7) mw_c_RX7_57 dX7_find_5 rfl ?_
  refine ev_iload_n (q := 8) dX7_find_7 rfl rfl ?_
  refine ev_isub (q := 9) dX7_find_8 rfl ?_
  subst hg
  exact ev_iret dX7_find_9 rfl ⟨rfl, rfl, rfl⟩
def g_X7_well (x1 : Int32) (f : mj_I) : Int32 × mj_I :=
  mj_lt (mj_wr f 0 3 (0 : Int32)) (fun f_1 =>
  (x1, f_1))
theorem r_X7_well {x1 : Int32} {f : mj_I} {g : mj_L} {o : Int32 × mj_I} (hg : g_X7_well x1 f = o) : mj_Sp jX7_well my_S [.ref 0, .int x1] f g (fun v f' g' => some (.int o.1) = v ∧ o.2 = f' ∧ g = g') := by
  refine mj_sp 0 (by decide +kernel) rfl rfl (fun _ _ => Nat.le_of_ble_eq_true rfl) ?_
  show mj_Ev jX7_well 0 [some (.ref 0), some (.int x1)] [] my_S f g _
  unfold g_X7_well at hg
  refine ev_aload_n (q := 1) dX7_well_0 rfl rfl ?_
  refine ev_iconst (v := 0) (q := 2) dX7_well_1 mci_0 rfl ?_
  refine ev_putfI (q := 5) mw_f_RX7_53 rfl dX7_well_2 rfl ?_
  refine ev_nmf (fun f_1 hf_1 => ?_)
  have hg := mj_lt_el hf_1 hg
  refine ev_iload_n (q := 6) dX7_well_5 rfl rfl ?_
  subst hg
  exact ev_iret dX7_well_6 rfl ⟨rfl, rfl, rfl⟩
def g_X7_isRow (x0 : Int32) : Int32 :=
  (g_X7_in (x0).toInt64 (0 : Int64) (7 : Int64))
theorem r_X7_isRow {x0 : Int32} {f : mj_I} {g : mj_L} {o : Int32} (hg : g_X7_isRow x0 = o) : mj_Sp jX7_isRow my_S [.int x0] f g (fun v f' g' => some (.int o) = v ∧ f = f' ∧ g = g' ∧ mj_b (o) = true) := by
  refine mj_sp 0 (by decide +kernel) rfl rfl (fun _ _ => Nat.le_of_ble_eq_true rfl) ?_
  show mj_Ev jX7_isRow 0 [some (.int x0)] [] my_S f g _
  unfold g_X7_isRow at hg
  refine ev_iload_n (q := 1) dX7_isRow_0 rfl rfl ?_
  refine ev_i2l (q := 2) dX7_isRow_1 rfl ?_
  refine ev_lconst (v := 0) (q := 3) dX7_isRow_2 mcl_0 rfl ?_
  refine ev_ldc2 (q := 6) mw_c_RX7_58 dX7_isRow_3 rfl ?_
  refine ev_callS (q := 9) kX7_in mw_t_X7_in mw_m_RX7_60 (r_X7_in rfl) rfl rfl (Nat.le_of_ble_eq_true rfl) (by decide) dX7_isRow_6 rfl (fun v fv gv hp => ?_)
  obtain ⟨rfl, rfl, rfl, hr_1⟩ := hp
  subst hg
  exact ev_zret dX7_isRow_9 rfl (hr_1) ⟨rfl, rfl, rfl, (hr_1)⟩
def g_X7_row_55 : Nat → Int32 → Int32 → Int32 → mj_I → Option (mj_I)
  | 0, _, _, _, _ => none
  | n + 1, x1, x3, x4, f =>
    if x4 < (40 : Int32) then
     if mj_in (((40 : Int32) * x1) + x4) 320 = true then
     mj_lt (mj_wr f 3 (ix (((40 : Int32) * x1) + x4)) (0 : Int32)) (fun f_8 =>
      g_X7_row_55 n x1 x3 (x4 + (1 : Int32)) f_8)
     else none
    else
     some (f)
theorem r_X7_row_55 {g : mj_L} {post : Option Value → mj_I → mj_L → Prop} : ∀ (n : Nat) (x1 : Int32) (x3 : Int32) (x4 : Int32) (f : mj_I) (o : mj_I), g_X7_row_55 n x1 x3 x4 f = some o → mj_Ev jX7_row 81 [some (.ref 0), none, none, some (.int x3), none] [] my_S o g post → mj_Ev jX7_row 55 [some (.ref 0), some (.int x1), none, some (.int x3), some (.int x4)] [] my_S f g post := by
  intro n
  induction n with
  | zero =>
    intro x1 x3 x4 f o hg hk
    cases hg
  | succ n ih =>
    intro x1 x3 x4 f o hg hk
    unfold g_X7_row_55 at hg
    refine ev_iload (q := 57) dX7_row_55 rfl rfl ?_
    refine ev_bipush (v := 40) (q := 59) dX7_row_57 mcb_40 rfl ?_
    refine ev_icmp_ge (t := 81) (q := 62) dX7_row_59 rfl rfl hg (fun hg => ?_) (fun hg => ?_)
    · refine ev_aload_n (q := 63) dX7_row_62 rfl rfl ?_
      refine ev_getfR (q := 66) mw_f_RX7_16 rfl rfl dX7_row_63 rfl ?_
      refine ev_bipush (v := 40) (q := 68) dX7_row_66 mcb_40 rfl ?_
      refine ev_iload_n (q := 69) dX7_row_68 rfl rfl ?_
      refine ev_imul (q := 70) dX7_row_69 rfl ?_
      refine ev_iload (q := 72) dX7_row_70 rfl rfl ?_
      refine ev_iadd (q := 73) dX7_row_72 rfl ?_
      refine ev_iconst (v := 0) (q := 74) dX7_row_73 mci_0 rfl ?_
      obtain ⟨hi_8, hg⟩ := mj_gd hg
      refine ev_iastk (q := 75) rfl hi_8 rfl dX7_row_74 rfl ?_
      refine ev_nmf (fun f_8 hf_8 => ?_)
      have hg := mj_lt_el hf_8 hg
      refine ev_iinc (v := 1) (q := 78) (loc' := [some (.ref _), some (.int _), none, some (.int _), some (.int _)]) dX7_row_75 rfl (by decide) mci_1 rfl rfl ?_
      refine ev_goto (q := 55) dX7_row_78 rfl ?_
      exact ih _ _ _ _ _ hg hk
    · obtain rfl := Option.some.inj hg
      refine ev_wk (loc' := [some (.ref _), none, none, some (.int _), none]) ⟨rfl, rfl, trivial⟩ ?_
      exact hk
def g_X7_row (x1 : Int32) (x2 : Int32) (x3 : Int32) (f : mj_I) : Option (Int32 × mj_I) :=
  if (g_X7_isRow x1) = 0 then
   some (((-1000001 : Int32), f))
  else
   if (g_X7_in (x2).toInt64 (0 : Int64) (2 : Int64)) = 0 then
    some (((-1000001 : Int32), f))
   else
    if (40 : Int32) < x3 then
     some (((-1000001 : Int32), f))
    else
     if x3 < 0 then
      mj_lt (g_X7_find (4 : Int32) f) (fun o_3 =>
      some ((o_3.1, o_3.2)))
     else
      if mj_in x1 8 = true then
      mj_lt (mj_wr f 1 (ix x1) x2) (fun f_4 =>
       if mj_in x1 8 = true then
       mj_lt (mj_wr f_4 2 (ix x1) x3) (fun f_5 =>
        (g_X7_row_55 mj_fuel x1 x3 (0 : Int32) f_5).bind (fun q_6 =>
        mj_lt (g_X7_well x3 q_6) (fun o_7 =>
        some ((o_7.1, o_7.2)))))
       else none)
      else none
theorem r_X7_row {x1 : Int32} {x2 : Int32} {x3 : Int32} {f : mj_I} {g : mj_L} {o : Int32 × mj_I} (hg : g_X7_row x1 x2 x3 f = some o) : mj_Sp jX7_row my_S [.ref 0, .int x1, .int x2, .int x3] f g (fun v f' g' => some (.int o.1) = v ∧ o.2 = f' ∧ g = g') := by
  refine mj_sp 1 (by decide +kernel) rfl rfl (fun _ _ => Nat.le_of_ble_eq_true rfl) ?_
  show mj_Ev jX7_row 0 [some (.ref 0), some (.int x1), some (.int x2), some (.int x3), none] [] my_S f g _
  unfold g_X7_row at hg
  refine ev_iload_n (q := 1) dX7_row_0 rfl rfl ?_
  refine ev_callS (q := 4) kX7_isRow mw_t_X7_isRow mw_m_RX7_64 (r_X7_isRow rfl) rfl rfl (Nat.le_of_ble_eq_true rfl) (by decide) dX7_row_1 rfl (fun v fv gv hp => ?_)
  obtain ⟨rfl, rfl, rfl, hr_1⟩ := hp
  refine ev_if_eq (t := 25) (q := 7) dX7_row_4 rfl rfl hg (fun hg => ?_) (fun hg => ?_)
  · refine ev_ldc (q := 27) mw_c_RX7_70 dX7_row_25 rfl ?_
    obtain rfl := Option.some.inj hg
    exact ev_iret dX7_row_27 rfl ⟨rfl, rfl, rfl⟩
  · refine ev_iload_n (q := 8) dX7_row_7 rfl rfl ?_
    refine ev_i2l (q := 9) dX7_row_8 rfl ?_
    refine ev_lconst (v := 0) (q := 10) dX7_row_9 mcl_0 rfl ?_
    refine ev_ldc2 (q := 13) mw_c_RX7_68 dX7_row_10 rfl ?_
    refine ev_callS (q := 16) kX7_in mw_t_X7_in mw_m_RX7_60 (r_X7_in rfl) rfl rfl (Nat.le_of_ble_eq_true rfl) (by decide) dX7_row_13 rfl (fun v fv gv hp => ?_)
    obtain ⟨rfl, rfl, rfl, hr_2⟩ := hp
    refine ev_if_eq (t := 25) (q := 19) dX7_row_16 rfl rfl hg (fun hg => ?_) (fun hg => ?_)
    · refine ev_ldc (q := 27) mw_c_RX7_70 dX7_row_25 rfl ?_
      obtain rfl := Option.some.inj hg
      exact ev_iret dX7_row_27 rfl ⟨rfl, rfl, rfl⟩
    · refine ev_iload_n (q := 20) dX7_row_19 rfl rfl ?_
      refine ev_bipush (v := 40) (q := 22) dX7_row_20 mcb_40 rfl ?_
      refine ev_icmp_le (t := 28) (q := 25) dX7_row_22 rfl rfl hg (fun hg => ?_) (fun hg => ?_)
      · refine ev_ldc (q := 27) mw_c_RX7_70 dX7_row_25 rfl ?_
        obtain rfl := Option.some.inj hg
        exact ev_iret dX7_row_27 rfl ⟨rfl, rfl, rfl⟩
      · refine ev_iload_n (q := 29) dX7_row_28 rfl rfl ?_
        refine ev_if_ge (t := 38) (q := 32) dX7_row_29 rfl rfl hg (fun hg => ?_) (fun hg => ?_)
        · refine ev_aload_n (q := 33) dX7_row_32 rfl rfl ?_
          refine ev_iconst (v := 4) (q := 34) dX7_row_33 mci_4 rfl ?_
          obtain ⟨o_3, ho_3, hg⟩ := mj_lte hg
          refine ev_callV (q := 37) kX7_find mw_i_X7_find mw_s_X7_find mw_m_RX7_71 rfl rfl (r_X7_find ho_3) rfl rfl (Nat.le_of_ble_eq_true rfl) (by decide) dX7_row_34 rfl (fun v fv gv hp => ?_)
          obtain ⟨rfl, rfl, rfl⟩ := hp
          obtain rfl := Option.some.inj hg
          exact ev_iret dX7_row_37 rfl ⟨rfl, rfl, rfl⟩
        · refine ev_aload_n (q := 39) dX7_row_38 rfl rfl ?_
          refine ev_getfR (q := 42) mw_f_RX7_7 rfl rfl dX7_row_39 rfl ?_
          refine ev_iload_n (q := 43) dX7_row_42 rfl rfl ?_
          refine ev_iload_n (q := 44) dX7_row_43 rfl rfl ?_
          obtain ⟨hi_4, hg⟩ := mj_gd hg
          refine ev_iastk (q := 45) rfl hi_4 rfl dX7_row_44 rfl ?_
          refine ev_nmf (fun f_4 hf_4 => ?_)
          have hg := mj_lt_el hf_4 hg
          refine ev_aload_n (q := 46) dX7_row_45 rfl rfl ?_
          refine ev_getfR (q := 49) mw_f_RX7_13 rfl rfl dX7_row_46 rfl ?_
          refine ev_iload_n (q := 50) dX7_row_49 rfl rfl ?_
          refine ev_iload_n (q := 51) dX7_row_50 rfl rfl ?_
          obtain ⟨hi_5, hg⟩ := mj_gd hg
          refine ev_iastk (q := 52) rfl hi_5 rfl dX7_row_51 rfl ?_
          refine ev_nmf (fun f_5 hf_5 => ?_)
          have hg := mj_lt_el hf_5 hg
          refine ev_iconst (v := 0) (q := 53) dX7_row_52 mci_0 rfl ?_
          refine ev_istore (q := 55) (loc' := [some (.ref _), some (.int _), some (.int _), some (.int _), some (.int _)]) dX7_row_53 (by decide) rfl rfl ?_
          obtain ⟨q_6, hq_6, hg⟩ := mj_bd hg
          refine ev_wk (loc' := [some (.ref _), some (.int _), none, some (.int _), some (.int _)]) ⟨rfl, rfl, rfl, rfl, trivial⟩ ?_
          refine r_X7_row_55 mj_fuel _ _ _ _ _ hq_6 ?_
          refine ev_aload_n (q := 82) dX7_row_81 rfl rfl ?_
          refine ev_iload_n (q := 83) dX7_row_82 rfl rfl ?_
          obtain ⟨o_7, ho_7, hg⟩ := mj_lte hg
          refine ev_callV (q := 86) kX7_well mw_i_X7_well mw_s_X7_well mw_m_RX7_75 rfl rfl (r_X7_well ho_7) rfl rfl (Nat.le_of_ble_eq_true rfl) (by decide) dX7_row_83 rfl (fun v fv gv hp => ?_)
          obtain ⟨rfl, rfl, rfl⟩ := hp
          obtain rfl := Option.some.inj hg
          exact ev_iret dX7_row_86 rfl ⟨rfl, rfl, rfl⟩
