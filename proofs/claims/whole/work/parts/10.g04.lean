def g_X6_copy (x1 : Int32) (x2 : Int32) (x3 : Int32) (x4 : Int32) (x5 : Int32) (f : mj_I) : Option (Int32 × mj_I) :=
  if (g_X6_isRow x1) = 0 then
   some (((-1000001 : Int32), f))
  else
   if (g_X6_isRow x3) = 0 then
    some (((-1000001 : Int32), f))
   else
    if mj_in x1 8 = true then
    if mj_in x3 8 = true then
     if (f (28 + 2 * (ix x1)) 0) = 0 then
       mj_lt (g_X6_found (1 : Int32) f) (fun o_5 =>
       some ((o_5.1, o_5.2)))
      else
       if (f (28 + 2 * (ix x3)) 0) = 0 then
        mj_lt (g_X6_found (1 : Int32) f) (fun o_6 =>
        some ((o_6.1, o_6.2)))
       else
        if (f (28 + 2 * (ix x1)) 1) = (f (28 + 2 * (ix x3)) 1) then
         if (g_X3_has (28 + 2 * (ix x1)) x2 x5 f) = 0 then
          mj_lt (g_X6_found (2 : Int32) f) (fun o_8 =>
          some ((o_8.1, o_8.2)))
         else
          if (g_X3_has (28 + 2 * (ix x3)) x4 x5 f) = 0 then
           mj_lt (g_X6_found (2 : Int32) f) (fun o_10 =>
           some ((o_10.1, o_10.2)))
          else
           if mj_cpok x2 x4 x5 40 40 = true then
           mj_lt (mj_cp f ((28 + 2 * (ix x1)) + 1) (ix x2) ((28 + 2 * (ix x3)) + 1) (ix x4) (ix x5)) (fun f_11 =>
            mj_lt (g_X6_clean x5 f_11) (fun o_12 =>
            some ((o_12.1, o_12.2))))
           else none
        else
         mj_lt (g_X6_found (5 : Int32) f) (fun o_13 =>
         some ((o_13.1, o_13.2)))
     else none
    else none
theorem r_X6_copy {x1 : Int32} {x2 : Int32} {x3 : Int32} {x4 : Int32} {x5 : Int32} {f : mj_I} {g : mj_L} {o : Int32 × mj_I} (hg : g_X6_copy x1 x2 x3 x4 x5 f = some o) : mj_Sp jX6_copy mx_S [.ref 0, .int x1, .int x2, .int x3, .int x4, .int x5] f g (fun v f' g' => some (.int o.1) = v ∧ o.2 = f' ∧ g = g') := by
  refine mj_sp 2 (by decide +kernel) rfl rfl (fun _ _ => Nat.le_of_ble_eq_true rfl) ?_
  show mj_Ev jX6_copy 0 [some (.ref 0), some (.int x1), some (.int x2), some (.int x3), some (.int x4), some (.int x5), none, none] [] mx_S f g _
  unfold g_X6_copy at hg
  refine ev_iload_n (q := 1) dX6_copy_0 rfl rfl ?_
  refine ev_callS (q := 4) kX6_isRow mw_t_X6_isRow mw_m_RX6_65 (r_X6_isRow rfl) rfl rfl (Nat.le_of_ble_eq_true rfl) (by decide) dX6_copy_1 rfl (fun v fv gv hp => ?_)
  obtain ⟨rfl, rfl, rfl, hr_1⟩ := hp
  refine ev_if_eq (t := 14) (q := 7) dX6_copy_4 rfl rfl hg (fun hg => ?_) (fun hg => ?_)
  · refine ev_ldc (q := 16) mw_c_RX6_73 dX6_copy_14 rfl ?_
    obtain rfl := Option.some.inj hg
    exact ev_iret dX6_copy_16 rfl ⟨rfl, rfl, rfl⟩
  · refine ev_iload_n (q := 8) dX6_copy_7 rfl rfl ?_
    refine ev_callS (q := 11) kX6_isRow mw_t_X6_isRow mw_m_RX6_65 (r_X6_isRow rfl) rfl rfl (Nat.le_of_ble_eq_true rfl) (by decide) dX6_copy_8 rfl (fun v fv gv hp => ?_)
    obtain ⟨rfl, rfl, rfl, hr_2⟩ := hp
    refine ev_if_ne (t := 17) (q := 14) dX6_copy_11 rfl rfl hg (fun hg => ?_) (fun hg => ?_)
    · refine ev_ldc (q := 16) mw_c_RX6_73 dX6_copy_14 rfl ?_
      obtain rfl := Option.some.inj hg
      exact ev_iret dX6_copy_16 rfl ⟨rfl, rfl, rfl⟩
    · refine ev_aload_n (q := 18) dX6_copy_17 rfl rfl ?_
      refine ev_getfR (q := 21) mw_f_RX6_11 rfl rfl dX6_copy_18 rfl ?_
      refine ev_iload_n (q := 22) dX6_copy_21 rfl rfl ?_
      obtain ⟨hi_3, hg⟩ := mj_gd hg
      refine ev_aald (kd := 2) (q := 23) rfl (by decide) hi_3 (mx_rr_get hi_3) dX6_copy_22 rfl ?_
      refine ev_astore (q := 25) (loc' := [some (.ref _), some (.int _), some (.int _), some (.int _), some (.int _), some (.int _), some (.ref _), none]) dX6_copy_23 (by decide) rfl rfl ?_
      refine ev_aload_n (q := 26) dX6_copy_25 rfl rfl ?_
      refine ev_getfR (q := 29) mw_f_RX6_11 rfl rfl dX6_copy_26 rfl ?_
      refine ev_iload_n (q := 30) dX6_copy_29 rfl rfl ?_
      obtain ⟨hi_4, hg⟩ := mj_gd hg
      refine ev_aald (kd := 2) (q := 31) rfl (by decide) hi_4 (mx_rr_get hi_4) dX6_copy_30 rfl ?_
      refine ev_astore (q := 33) (loc' := [some (.ref _), some (.int _), some (.int _), some (.int _), some (.int _), some (.int _), some (.ref _), some (.ref _)]) dX6_copy_31 (by decide) rfl rfl ?_
      refine ev_aload (q := 35) dX6_copy_33 rfl rfl ?_
      refine ev_getfI (q := 38) mw_f_RX6_92 (by decide) (by decide) (mx_R (mx_isR_of hi_3)) dX6_copy_35 rfl ?_
      refine ev_if_eq (t := 49) (q := 41) dX6_copy_38 rfl rfl hg (fun hg => ?_) (fun hg => ?_)
      · refine ev_aload_n (q := 50) dX6_copy_49 rfl rfl ?_
        refine ev_iconst (v := 1) (q := 51) dX6_copy_50 mci_1 rfl ?_
        obtain ⟨o_5, ho_5, hg⟩ := mj_lte hg
        refine ev_callV (q := 54) kX6_found mw_i_X6_found mw_s_X6_found mw_m_RX6_74 rfl rfl (r_X6_found ho_5) rfl rfl (Nat.le_of_ble_eq_true rfl) (by decide) dX6_copy_51 rfl (fun v fv gv hp => ?_)
        obtain ⟨rfl, rfl, rfl⟩ := hp
        obtain rfl := Option.some.inj hg
        exact ev_iret dX6_copy_54 rfl ⟨rfl, rfl, rfl⟩
      · refine ev_aload (q := 43) dX6_copy_41 rfl rfl ?_
        refine ev_getfI (q := 46) mw_f_RX6_92 (by decide) (by decide) (mx_R (mx_isR_of hi_4)) dX6_copy_43 rfl ?_
        refine ev_if_ne (t := 55) (q := 49) dX6_copy_46 rfl rfl hg (fun hg => ?_) (fun hg => ?_)
        · refine ev_aload_n (q := 50) dX6_copy_49 rfl rfl ?_
          refine ev_iconst (v := 1) (q := 51) dX6_copy_50 mci_1 rfl ?_
          obtain ⟨o_6, ho_6, hg⟩ := mj_lte hg
          refine ev_callV (q := 54) kX6_found mw_i_X6_found mw_s_X6_found mw_m_RX6_74 rfl rfl (r_X6_found ho_6) rfl rfl (Nat.le_of_ble_eq_true rfl) (by decide) dX6_copy_51 rfl (fun v fv gv hp => ?_)
          obtain ⟨rfl, rfl, rfl⟩ := hp
          obtain rfl := Option.some.inj hg
          exact ev_iret dX6_copy_54 rfl ⟨rfl, rfl, rfl⟩
        · refine ev_aload (q := 57) dX6_copy_55 rfl rfl ?_
          refine ev_getfI (q := 60) mw_f_RX6_96 (by decide) (by decide) (mx_R (mx_isR_of hi_3)) dX6_copy_57 rfl ?_
          refine ev_aload (q := 62) dX6_copy_60 rfl rfl ?_
          refine ev_getfI (q := 65) mw_f_RX6_96 (by decide) (by decide) (mx_R (mx_isR_of hi_4)) dX6_copy_62 rfl ?_
          refine ev_icmp_eq (t := 74) (q := 68) dX6_copy_65 rfl rfl hg (fun hg => ?_) (fun hg => ?_)
          · refine ev_aload (q := 76) dX6_copy_74 rfl rfl ?_
            refine ev_iload_n (q := 77) dX6_copy_76 rfl rfl ?_
            refine ev_iload (q := 79) dX6_copy_77 rfl rfl ?_
            refine ev_callV (q := 82) kX3_has mw_i_X3_has mw_s_X3_has mw_m_RX6_99 (mx_R (mx_isR_of hi_3)) rfl (r_X3_has (mx_isR_of hi_3) rfl) rfl rfl (Nat.le_of_ble_eq_true rfl) (by decide) dX6_copy_79 rfl (fun v fv gv hp => ?_)
            obtain ⟨rfl, rfl, rfl, hr_7⟩ := hp
            refine ev_if_eq (t := 97) (q := 85) dX6_copy_82 rfl rfl hg (fun hg => ?_) (fun hg => ?_)
            · refine ev_aload_n (q := 98) dX6_copy_97 rfl rfl ?_
              refine ev_iconst (v := 2) (q := 99) dX6_copy_98 mci_2 rfl ?_
              obtain ⟨o_8, ho_8, hg⟩ := mj_lte hg
              refine ev_callV (q := 102) kX6_found mw_i_X6_found mw_s_X6_found mw_m_RX6_74 rfl rfl (r_X6_found ho_8) rfl rfl (Nat.le_of_ble_eq_true rfl) (by decide) dX6_copy_99 rfl (fun v fv gv hp => ?_)
              obtain ⟨rfl, rfl, rfl⟩ := hp
              obtain rfl := Option.some.inj hg
              exact ev_iret dX6_copy_102 rfl ⟨rfl, rfl, rfl⟩
            · refine ev_aload (q := 87) dX6_copy_85 rfl rfl ?_
              refine ev_iload (q := 89) dX6_copy_87 rfl rfl ?_
              refine ev_iload (q := 91) dX6_copy_89 rfl rfl ?_
              refine ev_callV (q := 94) kX3_has mw_i_X3_has mw_s_X3_has mw_m_RX6_99 (mx_R (mx_isR_of hi_4)) rfl (r_X3_has (mx_isR_of hi_4) rfl) rfl rfl (Nat.le_of_ble_eq_true rfl) (by decide) dX6_copy_91 rfl (fun v fv gv hp => ?_)
              obtain ⟨rfl, rfl, rfl, hr_9⟩ := hp
              refine ev_if_ne (t := 103) (q := 97) dX6_copy_94 rfl rfl hg (fun hg => ?_) (fun hg => ?_)
              · refine ev_aload_n (q := 98) dX6_copy_97 rfl rfl ?_
                refine ev_iconst (v := 2) (q := 99) dX6_copy_98 mci_2 rfl ?_
                obtain ⟨o_10, ho_10, hg⟩ := mj_lte hg
                refine ev_callV (q := 102) kX6_found mw_i_X6_found mw_s_X6_found mw_m_RX6_74 rfl rfl (r_X6_found ho_10) rfl rfl (Nat.le_of_ble_eq_true rfl) (by decide) dX6_copy_99 rfl (fun v fv gv hp => ?_)
                obtain ⟨rfl, rfl, rfl⟩ := hp
                obtain rfl := Option.some.inj hg
                exact ev_iret dX6_copy_102 rfl ⟨rfl, rfl, rfl⟩
              · refine ev_aload (q := 105) dX6_copy_103 rfl rfl ?_
                refine ev_getfR (q := 108) mw_f_RX6_103 (mx_R (mx_isR_of hi_3)) rfl dX6_copy_105 rfl ?_
                refine ev_iload_n (q := 109) dX6_copy_108 rfl rfl ?_
                refine ev_aload (q := 111) dX6_copy_109 rfl rfl ?_
                refine ev_getfR (q := 114) mw_f_RX6_103 (mx_R (mx_isR_of hi_4)) rfl dX6_copy_111 rfl ?_
                refine ev_iload (q := 116) dX6_copy_114 rfl rfl ?_
                refine ev_iload (q := 118) dX6_copy_116 rfl rfl ?_
                obtain ⟨hc_11, hg⟩ := mj_gd hg
                refine ev_acopy (q := 121) mw_m_RX6_107 mw_nat mw_nat_t mw_ini_sys (mx_RI (mx_isR_of hi_3)) (mx_RI (mx_isR_of hi_4)) hc_11 (Nat.le_of_ble_eq_true rfl) (by decide) dX6_copy_118 rfl ?_
                refine ev_nmf (fun f_11 hf_11 => ?_)
                have hg := mj_lt_el hf_11 hg
                refine ev_aload_n (q := 122) dX6_copy_121 rfl rfl ?_
                refine ev_iload (q := 124) dX6_copy_122 rfl rfl ?_
                obtain ⟨o_12, ho_12, hg⟩ := mj_lte hg
                refine ev_callV (q := 127) kX6_clean mw_i_X6_clean mw_s_X6_clean mw_m_RX6_82 rfl rfl (r_X6_clean ho_12) rfl rfl (Nat.le_of_ble_eq_true rfl) (by decide) dX6_copy_124 rfl (fun v fv gv hp => ?_)
                obtain ⟨rfl, rfl, rfl⟩ := hp
                obtain rfl := Option.some.inj hg
                exact ev_iret dX6_copy_127 rfl ⟨rfl, rfl, rfl⟩
          · refine ev_aload_n (q := 69) dX6_copy_68 rfl rfl ?_
            refine ev_iconst (v := 5) (q := 70) dX6_copy_69 mci_5 rfl ?_
            obtain ⟨o_13, ho_13, hg⟩ := mj_lte hg
            refine ev_callV (q := 73) kX6_found mw_i_X6_found mw_s_X6_found mw_m_RX6_74 rfl rfl (r_X6_found ho_13) rfl rfl (Nat.le_of_ble_eq_true rfl) (by decide) dX6_copy_70 rfl (fun v fv gv hp => ?_)
            obtain ⟨rfl, rfl, rfl⟩ := hp
            obtain rfl := Option.some.inj hg
            exact ev_iret dX6_copy_73 rfl ⟨rfl, rfl, rfl⟩
def g_X6_drop (x1 : Int32) (f : mj_I) : Option (Int32 × mj_I) :=
  if (g_X6_isRow x1) = 0 then
   some (((-1000001 : Int32), f))
  else
   if mj_in x1 8 = true then
   if (f (28 + 2 * (ix x1)) 0) = 0 then
     mj_lt (g_X6_found (1 : Int32) f) (fun o_3 =>
     some ((o_3.1, o_3.2)))
    else
     if mj_in x1 8 = true then
     mj_lt (mj_wr f (28 + 2 * (ix x1)) 0 (0 : Int32)) (fun f_5 =>
      if mj_in x1 8 = true then
      mj_lt (g_X6_clean (f_5 (28 + 2 * (ix x1)) 2) f_5) (fun o_7 =>
       some ((o_7.1, o_7.2)))
      else none)
     else none
   else none
theorem r_X6_drop {x1 : Int32} {f : mj_I} {g : mj_L} {o : Int32 × mj_I} (hg : g_X6_drop x1 f = some o) : mj_Sp jX6_drop mx_S [.ref 0, .int x1] f g (fun v f' g' => some (.int o.1) = v ∧ o.2 = f' ∧ g = g') := by
  refine mj_sp 0 (by decide +kernel) rfl rfl (fun _ _ => Nat.le_of_ble_eq_true rfl) ?_
  show mj_Ev jX6_drop 0 [some (.ref 0), some (.int x1)] [] mx_S f g _
  unfold g_X6_drop at hg
  refine ev_iload_n (q := 1) dX6_drop_0 rfl rfl ?_
  refine ev_callS (q := 4) kX6_isRow mw_t_X6_isRow mw_m_RX6_65 (r_X6_isRow rfl) rfl rfl (Nat.le_of_ble_eq_true rfl) (by decide) dX6_drop_1 rfl (fun v fv gv hp => ?_)
  obtain ⟨rfl, rfl, rfl, hr_1⟩ := hp
  refine ev_if_ne (t := 10) (q := 7) dX6_drop_4 rfl rfl hg (fun hg => ?_) (fun hg => ?_)
  · refine ev_ldc (q := 9) mw_c_RX6_73 dX6_drop_7 rfl ?_
    obtain rfl := Option.some.inj hg
    exact ev_iret dX6_drop_9 rfl ⟨rfl, rfl, rfl⟩
  · refine ev_aload_n (q := 11) dX6_drop_10 rfl rfl ?_
    refine ev_getfR (q := 14) mw_f_RX6_11 rfl rfl dX6_drop_11 rfl ?_
    refine ev_iload_n (q := 15) dX6_drop_14 rfl rfl ?_
    obtain ⟨hi_2, hg⟩ := mj_gd hg
    refine ev_aald (kd := 2) (q := 16) rfl (by decide) hi_2 (mx_rr_get hi_2) dX6_drop_15 rfl ?_
    refine ev_getfI (q := 19) mw_f_RX6_92 (by decide) (by decide) (mx_R (mx_isR_of hi_2)) dX6_drop_16 rfl ?_
    refine ev_if_ne (t := 28) (q := 22) dX6_drop_19 rfl rfl hg (fun hg => ?_) (fun hg => ?_)
    · refine ev_aload_n (q := 23) dX6_drop_22 rfl rfl ?_
      refine ev_iconst (v := 1) (q := 24) dX6_drop_23 mci_1 rfl ?_
      obtain ⟨o_3, ho_3, hg⟩ := mj_lte hg
      refine ev_callV (q := 27) kX6_found mw_i_X6_found mw_s_X6_found mw_m_RX6_74 rfl rfl (r_X6_found ho_3) rfl rfl (Nat.le_of_ble_eq_true rfl) (by decide) dX6_drop_24 rfl (fun v fv gv hp => ?_)
      obtain ⟨rfl, rfl, rfl⟩ := hp
      obtain rfl := Option.some.inj hg
      exact ev_iret dX6_drop_27 rfl ⟨rfl, rfl, rfl⟩
    · refine ev_aload_n (q := 29) dX6_drop_28 rfl rfl ?_
      refine ev_getfR (q := 32) mw_f_RX6_11 rfl rfl dX6_drop_29 rfl ?_
      refine ev_iload_n (q := 33) dX6_drop_32 rfl rfl ?_
      obtain ⟨hi_4, hg⟩ := mj_gd hg
      refine ev_aald (kd := 2) (q := 34) rfl (by decide) hi_4 (mx_rr_get hi_4) dX6_drop_33 rfl ?_
      refine ev_iconst (v := 0) (q := 35) dX6_drop_34 mci_0 rfl ?_
      refine ev_putfZ (q := 38) mw_f_RX6_92 (mx_R (mx_isR_of hi_4)) (mcz_0) dX6_drop_35 rfl ?_
      refine ev_nmf (fun f_5 hf_5 => ?_)
      have hg := mj_lt_el hf_5 hg
      refine ev_aload_n (q := 39) dX6_drop_38 rfl rfl ?_
      refine ev_aload_n (q := 40) dX6_drop_39 rfl rfl ?_
      refine ev_getfR (q := 43) mw_f_RX6_11 rfl rfl dX6_drop_40 rfl ?_
      refine ev_iload_n (q := 44) dX6_drop_43 rfl rfl ?_
      obtain ⟨hi_6, hg⟩ := mj_gd hg
      refine ev_aald (kd := 2) (q := 45) rfl (by decide) hi_6 (mx_rr_get hi_6) dX6_drop_44 rfl ?_
      refine ev_getfI (q := 48) mw_f_RX6_113 (by decide) (by decide) (mx_R (mx_isR_of hi_6)) dX6_drop_45 rfl ?_
      obtain ⟨o_7, ho_7, hg⟩ := mj_lte hg
      refine ev_callV (q := 51) kX6_clean mw_i_X6_clean mw_s_X6_clean mw_m_RX6_82 rfl rfl (r_X6_clean ho_7) rfl rfl (Nat.le_of_ble_eq_true rfl) (by decide) dX6_drop_48 rfl (fun v fv gv hp => ?_)
      obtain ⟨rfl, rfl, rfl⟩ := hp
      obtain rfl := Option.some.inj hg
      exact ev_iret dX6_drop_51 rfl ⟨rfl, rfl, rfl⟩
def g_X6_feed (x1 : Int32) (f : mj_I) : Option (Int32 × mj_I) :=
  if (g_X6_within x1 (0 : Int32) (255 : Int32)) = 0 then
   some (((-1000001 : Int32), f))
  else
   (g_X4_add x1 f).bind (fun o_2 =>
   if o_2.1 = 0 then
    some (((-1000003 : Int32), o_2.2))
   else
    some (((o_2.2 2 1), o_2.2)))
theorem r_X6_feed {x1 : Int32} {f : mj_I} {g : mj_L} {o : Int32 × mj_I} (hg : g_X6_feed x1 f = some o) : mj_Sp jX6_feed mx_S [.ref 0, .int x1] f g (fun v f' g' => some (.int o.1) = v ∧ o.2 = f' ∧ g = g') := by
  refine mj_sp 0 (by decide +kernel) rfl rfl (fun _ _ => Nat.le_of_ble_eq_true rfl) ?_
  show mj_Ev jX6_feed 0 [some (.ref 0), some (.int x1)] [] mx_S f g _
  unfold g_X6_feed at hg
  refine ev_iload_n (q := 1) dX6_feed_0 rfl rfl ?_
  refine ev_iconst (v := 0) (q := 2) dX6_feed_1 mci_0 rfl ?_
  refine ev_sipush (v := 255) (q := 5) dX6_feed_2 mcs_255 rfl ?_
  refine ev_callS (q := 8) kX6_within mw_t_X6_within mw_m_RX6_69 (r_X6_within rfl) rfl rfl (Nat.le_of_ble_eq_true rfl) (by decide) dX6_feed_5 rfl (fun v fv gv hp => ?_)
  obtain ⟨rfl, rfl, rfl, hr_1⟩ := hp
  refine ev_if_ne (t := 14) (q := 11) dX6_feed_8 rfl rfl hg (fun hg => ?_) (fun hg => ?_)
  · refine ev_ldc (q := 13) mw_c_RX6_73 dX6_feed_11 rfl ?_
    obtain rfl := Option.some.inj hg
    exact ev_iret dX6_feed_13 rfl ⟨rfl, rfl, rfl⟩
  · refine ev_aload_n (q := 15) dX6_feed_14 rfl rfl ?_
    refine ev_getfR (q := 18) mw_f_RX6_18 rfl rfl dX6_feed_15 rfl ?_
    refine ev_iload_n (q := 19) dX6_feed_18 rfl rfl ?_
    obtain ⟨o_2, ho_2, hg⟩ := mj_bd hg
    refine ev_callV (q := 22) kX4_add mw_i_X4_add mw_s_X4_add mw_m_RX6_116 rfl rfl (r_X4_add ho_2) rfl rfl (Nat.le_of_ble_eq_true rfl) (by decide) dX6_feed_19 rfl (fun v fv gv hp => ?_)
    obtain ⟨rfl, rfl, rfl, hr_2⟩ := hp
    refine ev_if_eq (t := 35) (q := 25) dX6_feed_22 rfl rfl hg (fun hg => ?_) (fun hg => ?_)
    · refine ev_ldc (q := 37) mw_c_RX6_120 dX6_feed_35 rfl ?_
      obtain rfl := Option.some.inj hg
      exact ev_iret dX6_feed_37 rfl ⟨rfl, rfl, rfl⟩
    · refine ev_aload_n (q := 26) dX6_feed_25 rfl rfl ?_
      refine ev_getfR (q := 29) mw_f_RX6_18 rfl rfl dX6_feed_26 rfl ?_
      refine ev_getfI (q := 32) mw_f_RX6_119 (by decide) (by decide) rfl dX6_feed_29 rfl ?_
      refine ev_goto (q := 37) dX6_feed_32 rfl ?_
      obtain rfl := Option.some.inj hg
      exact ev_iret dX6_feed_37 rfl ⟨rfl, rfl, rfl⟩
def g_X6_herd (f : mj_I) : Option (Int32 × mj_I) :=
  (g_X4_read 13 f).bind (fun o_1 =>
  mj_lt (mj_wr o_1 2 1 (0 : Int32)) (fun f_2 =>
  if (f_2 2 6) = 0 then
   (g_X2_become 4 13 f_2).bind (fun o_3 =>
   mj_lt (g_X0_forget o_3) (fun o_4 =>
   some (((o_4 4 4), o_4))))
  else
   mj_lt (mj_wr f_2 0 9 (f_2 2 6)) (fun f_5 =>
   some ((((-1000100 : Int32) - (f_5 2 2)), f_5)))))
theorem r_X6_herd {f : mj_I} {g : mj_L} {o : Int32 × mj_I} (hg : g_X6_herd f = some o) : mj_Sp jX6_herd mx_S [.ref 0] f g (fun v f' g' => some (.int o.1) = v ∧ o.2 = f' ∧ g = g') := by
  refine mj_sp 0 (by decide +kernel) rfl rfl (fun _ _ => Nat.le_of_ble_eq_true rfl) ?_
  show mj_Ev jX6_herd 0 [some (.ref 0)] [] mx_S f g _
  unfold g_X6_herd at hg
  refine ev_aload_n (q := 1) dX6_herd_0 rfl rfl ?_
  refine ev_getfR (q := 4) mw_f_RX6_18 rfl rfl dX6_herd_1 rfl ?_
  refine ev_aload_n (q := 5) dX6_herd_4 rfl rfl ?_
  refine ev_getfR (q := 8) mw_f_RX6_29 rfl rfl dX6_herd_5 rfl ?_
  obtain ⟨o_1, ho_1, hg⟩ := mj_bd hg
  refine ev_callV (q := 11) kX4_read mw_i_X4_read mw_s_X4_read mw_m_RX6_121 rfl rfl (r_X4_read mx_isH_13 ho_1) rfl rfl (Nat.le_of_ble_eq_true rfl) (by decide) dX6_herd_8 rfl (fun v fv gv hp => ?_)
  obtain ⟨rfl, rfl, rfl⟩ := hp
  refine ev_aload_n (q := 12) dX6_herd_11 rfl rfl ?_
  refine ev_getfR (q := 15) mw_f_RX6_18 rfl rfl dX6_herd_12 rfl ?_
  refine ev_iconst (v := 0) (q := 16) dX6_herd_15 mci_0 rfl ?_
  refine ev_putfI (q := 19) mw_f_RX6_119 rfl dX6_herd_16 rfl ?_
  refine ev_nmf (fun f_2 hf_2 => ?_)
  have hg := mj_lt_el hf_2 hg
  refine ev_aload_n (q := 20) dX6_herd_19 rfl rfl ?_
  refine ev_getfR (q := 23) mw_f_RX6_18 rfl rfl dX6_herd_20 rfl ?_
  refine ev_getfI (q := 26) mw_f_RX6_125 (by decide) (by decide) rfl dX6_herd_23 rfl ?_
  refine ev_if_eq (t := 51) (q := 29) dX6_herd_26 rfl rfl hg (fun hg => ?_) (fun hg => ?_)
  · refine ev_aload_n (q := 52) dX6_herd_51 rfl rfl ?_
    refine ev_getfR (q := 55) mw_f_RX6_25 rfl rfl dX6_herd_52 rfl ?_
    refine ev_aload_n (q := 56) dX6_herd_55 rfl rfl ?_
    refine ev_getfR (q := 59) mw_f_RX6_29 rfl rfl dX6_herd_56 rfl ?_
    obtain ⟨o_3, ho_3, hg⟩ := mj_bd hg
    refine ev_callV (q := 62) kX2_become mw_i_X2_become mw_s_X2_become mw_m_RX6_132 (mx_H mx_isH_4) rfl (r_X2_become mx_isH_4 mx_isH_13 ho_3) rfl rfl (Nat.le_of_ble_eq_true rfl) (by decide) dX6_herd_59 rfl (fun v fv gv hp => ?_)
    obtain ⟨rfl, rfl, rfl⟩ := hp
    refine ev_aload_n (q := 63) dX6_herd_62 rfl rfl ?_
    refine ev_getfR (q := 66) mw_f_RX6_46 rfl rfl dX6_herd_63 rfl ?_
    obtain ⟨o_4, ho_4, hg⟩ := mj_lte hg
    refine ev_callV (q := 69) kX0_forget mw_i_X0_forget mw_s_X0_forget mw_m_RX6_135 rfl rfl (r_X0_forget ho_4) rfl rfl (Nat.le_of_ble_eq_true rfl) (by decide) dX6_herd_66 rfl (fun v fv gv hp => ?_)
    obtain ⟨rfl, rfl, rfl⟩ := hp
    refine ev_aload_n (q := 70) dX6_herd_69 rfl rfl ?_
    refine ev_getfR (q := 73) mw_f_RX6_25 rfl rfl dX6_herd_70 rfl ?_
    refine ev_getfI (q := 76) mw_f_RX6_138 (by decide) (by decide) (mx_H mx_isH_4) dX6_herd_73 rfl ?_
    obtain rfl := Option.some.inj hg
    exact ev_iret dX6_herd_76 rfl ⟨rfl, rfl, rfl⟩
  · refine ev_aload_n (q := 30) dX6_herd_29 rfl rfl ?_
    refine ev_aload_n (q := 31) dX6_herd_30 rfl rfl ?_
    refine ev_getfR (q := 34) mw_f_RX6_18 rfl rfl dX6_herd_31 rfl ?_
    refine ev_getfI (q := 37) mw_f_RX6_125 (by decide) (by decide) rfl dX6_herd_34 rfl ?_
    refine ev_putfI (q := 40) mw_f_RX6_61 rfl dX6_herd_37 rfl ?_
    refine ev_nmf (fun f_5 hf_5 => ?_)
    have hg := mj_lt_el hf_5 hg
    refine ev_ldc (q := 42) mw_c_RX6_128 dX6_herd_40 rfl ?_
    refine ev_aload_n (q := 43) dX6_herd_42 rfl rfl ?_
    refine ev_getfR (q := 46) mw_f_RX6_18 rfl rfl dX6_herd_43 rfl ?_
    refine ev_getfI (q := 49) mw_f_RX6_129 (by decide) (by decide) rfl dX6_herd_46 rfl ?_
    refine ev_isub (q := 50) dX6_herd_49 rfl ?_
    obtain rfl := Option.some.inj hg
    exact ev_iret dX6_herd_50 rfl ⟨rfl, rfl, rfl⟩
def g_X6_fault (f : mj_I) : Int32 :=
  (f 0 9)
theorem r_X6_fault {f : mj_I} {g : mj_L} {o : Int32} (hg : g_X6_fault f = o) : mj_Sp jX6_fault mx_S [.ref 0] f g (fun v f' g' => some (.int o) = v ∧ f = f' ∧ g = g') := by
  refine mj_sp 0 (by decide +kernel) rfl rfl (fun _ _ => Nat.le_of_ble_eq_true rfl) ?_
  show mj_Ev jX6_fault 0 [some (.ref 0)] [] mx_S f g _
  unfold g_X6_fault at hg
  refine ev_aload_n (q := 1) dX6_fault_0 rfl rfl ?_
  refine ev_getfI (q := 4) mw_f_RX6_61 (by decide) (by decide) rfl dX6_fault_1 rfl ?_
  subst hg
  exact ev_iret dX6_fault_4 rfl ⟨rfl, rfl, rfl⟩
def g_X6_undo (f : mj_I) : Option (Int32 × mj_I) :=
  if (f 24 2) = 0 then
   some (((-1000002 : Int32), f))
  else
   (g_X0_takeBack 4 f).bind (fun o_1 =>
   some (((o_1 24 2), o_1)))
theorem r_X6_undo {f : mj_I} {g : mj_L} {o : Int32 × mj_I} (hg : g_X6_undo f = some o) : mj_Sp jX6_undo mx_S [.ref 0] f g (fun v f' g' => some (.int o.1) = v ∧ o.2 = f' ∧ g = g') := by
  refine mj_sp 0 (by decide +kernel) rfl rfl (fun _ _ => Nat.le_of_ble_eq_true rfl) ?_
  show mj_Ev jX6_undo 0 [some (.ref 0)] [] mx_S f g _
  unfold g_X6_undo at hg
  refine ev_aload_n (q := 1) dX6_undo_0 rfl rfl ?_
  refine ev_getfR (q := 4) mw_f_RX6_46 rfl rfl dX6_undo_1 rfl ?_
  refine ev_getfI (q := 7) mw_f_RX6_141 (by decide) (by decide) rfl dX6_undo_4 rfl ?_
  refine ev_if_ne (t := 13) (q := 10) dX6_undo_7 rfl rfl hg (fun hg => ?_) (fun hg => ?_)
  · refine ev_ldc (q := 12) mw_c_RX6_142 dX6_undo_10 rfl ?_
    obtain rfl := Option.some.inj hg
    exact ev_iret dX6_undo_12 rfl ⟨rfl, rfl, rfl⟩
  · refine ev_aload_n (q := 14) dX6_undo_13 rfl rfl ?_
    refine ev_getfR (q := 17) mw_f_RX6_46 rfl rfl dX6_undo_14 rfl ?_
    refine ev_aload_n (q := 18) dX6_undo_17 rfl rfl ?_
    refine ev_getfR (q := 21) mw_f_RX6_25 rfl rfl dX6_undo_18 rfl ?_
    obtain ⟨o_1, ho_1, hg⟩ := mj_bd hg
    refine ev_callV (q := 24) kX0_takeBack mw_i_X0_takeBack mw_s_X0_takeBack mw_m_RX6_143 rfl rfl (r_X0_takeBack mx_isH_4 ho_1) rfl rfl (Nat.le_of_ble_eq_true rfl) (by decide) dX6_undo_21 rfl (fun v fv gv hp => ?_)
    obtain ⟨rfl, rfl, rfl⟩ := hp
    refine ev_aload_n (q := 25) dX6_undo_24 rfl rfl ?_
    refine ev_getfR (q := 28) mw_f_RX6_46 rfl rfl dX6_undo_25 rfl ?_
    refine ev_getfI (q := 31) mw_f_RX6_141 (by decide) (by decide) rfl dX6_undo_28 rfl ?_
    obtain rfl := Option.some.inj hg
    exact ev_iret dX6_undo_31 rfl ⟨rfl, rfl, rfl⟩
def g_X6_hours_46 : Nat → Int32 → Int32 → mj_I → Option (mj_I)
  | 0, _, _, _ => none
  | n + 1, x1, x2, f =>
    if x2 < x1 then
     (g_X0_keep 4 f).bind (fun o_3 =>
     (g_X2_passHour 4 o_3).bind (fun o_4 =>
     g_X6_hours_46 n x1 (x2 + (1 : Int32)) o_4))
    else
     some (f)
theorem r_X6_hours_46 {g : mj_L} {post : Option Value → mj_I → mj_L → Prop} : ∀ (n : Nat) (x1 : Int32) (x2 : Int32) (f : mj_I) (o : mj_I), g_X6_hours_46 n x1 x2 f = some o → mj_Ev jX6_hours 75 [some (.ref 0), none, none] [] mx_S o g post → mj_Ev jX6_hours 46 [some (.ref 0), some (.int x1), some (.int x2)] [] mx_S f g post := by
  intro n
  induction n with
  | zero =>
    intro x1 x2 f o hg hk
    cases hg
  | succ n ih =>
    intro x1 x2 f o hg hk
    unfold g_X6_hours_46 at hg
    refine ev_iload_n (q := 47) dX6_hours_46 rfl rfl ?_
    refine ev_iload_n (q := 48) dX6_hours_47 rfl rfl ?_
    refine ev_icmp_ge (t := 75) (q := 51) dX6_hours_48 rfl rfl hg (fun hg => ?_) (fun hg => ?_)
    · refine ev_aload_n (q := 52) dX6_hours_51 rfl rfl ?_
      refine ev_getfR (q := 55) mw_f_RX6_46 rfl rfl dX6_hours_52 rfl ?_
      refine ev_aload_n (q := 56) dX6_hours_55 rfl rfl ?_
      refine ev_getfR (q := 59) mw_f_RX6_25 rfl rfl dX6_hours_56 rfl ?_
      obtain ⟨o_3, ho_3, hg⟩ := mj_bd hg
      refine ev_callV (q := 62) kX0_keep mw_i_X0_keep mw_s_X0_keep mw_m_RX6_152 rfl rfl (r_X0_keep mx_isH_4 ho_3) rfl rfl (Nat.le_of_ble_eq_true rfl) (by decide) dX6_hours_59 rfl (fun v fv gv hp => ?_)
      obtain ⟨rfl, rfl, rfl⟩ := hp
      refine ev_aload_n (q := 63) dX6_hours_62 rfl rfl ?_
      refine ev_getfR (q := 66) mw_f_RX6_25 rfl rfl dX6_hours_63 rfl ?_
      obtain ⟨o_4, ho_4, hg⟩ := mj_bd hg
      refine ev_callV (q := 69) kX2_passHour mw_i_X2_passHour mw_s_X2_passHour mw_m_RX6_155 (mx_H mx_isH_4) rfl (r_X2_passHour mx_isH_4 ho_4) rfl rfl (Nat.le_of_ble_eq_true rfl) (by decide) dX6_hours_66 rfl (fun v fv gv hp => ?_)
      obtain ⟨rfl, rfl, rfl⟩ := hp
      refine ev_iinc (v := 1) (q := 72) (loc' := [some (.ref _), some (.int _), some (.int _)]) dX6_hours_69 rfl (by decide) mci_1 rfl rfl ?_
      refine ev_goto (q := 46) dX6_hours_72 rfl ?_
      exact ih _ _ _ _ hg hk
    · obtain rfl := Option.some.inj hg
      refine ev_wk (loc' := [some (.ref _), none, none]) ⟨rfl, trivial⟩ ?_
      exact hk
def g_X6_hours (x1 : Int32) (f : mj_I) : Option (Int32 × mj_I) :=
  if (f 4 0) = 0 then
   some (((-1000002 : Int32), f))
  else
   if (g_X6_within x1 (1 : Int32) (24 : Int32)) = 0 then
    some (((-1000001 : Int32), f))
   else
    if (999 : Int32) < ((f 4 5) + x1) then
     some (((-1000003 : Int32), f))
    else
     (g_X6_hours_46 mj_fuel x1 (0 : Int32) f).bind (fun q_2 =>
     some (((q_2 4 6), q_2)))
theorem r_X6_hours {x1 : Int32} {f : mj_I} {g : mj_L} {o : Int32 × mj_I} (hg : g_X6_hours x1 f = some o) : mj_Sp jX6_hours mx_S [.ref 0, .int x1] f g (fun v f' g' => some (.int o.1) = v ∧ o.2 = f' ∧ g = g') := by
  refine mj_sp 1 (by decide +kernel) rfl rfl (fun _ _ => Nat.le_of_ble_eq_true rfl) ?_
  show mj_Ev jX6_hours 0 [some (.ref 0), some (.int x1), none] [] mx_S f g _
  unfold g_X6_hours at hg
  refine ev_aload_n (q := 1) dX6_hours_0 rfl rfl ?_
  refine ev_getfR (q := 4) mw_f_RX6_25 rfl rfl dX6_hours_1 rfl ?_
  refine ev_getfI (q := 7) mw_f_RX6_146 (by decide) (by decide) (mx_H mx_isH_4) dX6_hours_4 rfl ?_
  refine ev_if_ne (t := 13) (q := 10) dX6_hours_7 rfl rfl hg (fun hg => ?_) (fun hg => ?_)
  · refine ev_ldc (q := 12) mw_c_RX6_142 dX6_hours_10 rfl ?_
    obtain rfl := Option.some.inj hg
    exact ev_iret dX6_hours_12 rfl ⟨rfl, rfl, rfl⟩
  · refine ev_iload_n (q := 14) dX6_hours_13 rfl rfl ?_
    refine ev_iconst (v := 1) (q := 15) dX6_hours_14 mci_1 rfl ?_
    refine ev_bipush (v := 24) (q := 17) dX6_hours_15 mcb_24 rfl ?_
    refine ev_callS (q := 20) kX6_within mw_t_X6_within mw_m_RX6_69 (r_X6_within rfl) rfl rfl (Nat.le_of_ble_eq_true rfl) (by decide) dX6_hours_17 rfl (fun v fv gv hp => ?_)
    obtain ⟨rfl, rfl, rfl, hr_1⟩ := hp
    refine ev_if_ne (t := 26) (q := 23) dX6_hours_20 rfl rfl hg (fun hg => ?_) (fun hg => ?_)
    · refine ev_ldc (q := 25) mw_c_RX6_73 dX6_hours_23 rfl ?_
      obtain rfl := Option.some.inj hg
      exact ev_iret dX6_hours_25 rfl ⟨rfl, rfl, rfl⟩
    · refine ev_aload_n (q := 27) dX6_hours_26 rfl rfl ?_
      refine ev_getfR (q := 30) mw_f_RX6_25 rfl rfl dX6_hours_27 rfl ?_
      refine ev_getfI (q := 33) mw_f_RX6_149 (by decide) (by decide) (mx_H mx_isH_4) dX6_hours_30 rfl ?_
      refine ev_iload_n (q := 34) dX6_hours_33 rfl rfl ?_
      refine ev_iadd (q := 35) dX6_hours_34 rfl ?_
      refine ev_sipush (v := 999) (q := 38) dX6_hours_35 mcs_999 rfl ?_
      refine ev_icmp_le (t := 44) (q := 41) dX6_hours_38 rfl rfl hg (fun hg => ?_) (fun hg => ?_)
      · refine ev_ldc (q := 43) mw_c_RX6_120 dX6_hours_41 rfl ?_
        obtain rfl := Option.some.inj hg
        exact ev_iret dX6_hours_43 rfl ⟨rfl, rfl, rfl⟩
      · refine ev_iconst (v := 0) (q := 45) dX6_hours_44 mci_0 rfl ?_
        refine ev_istore_n (q := 46) (loc' := [some (.ref _), some (.int _), some (.int _)]) dX6_hours_45 (by decide) rfl rfl ?_
        obtain ⟨q_2, hq_2, hg⟩ := mj_bd hg
        refine r_X6_hours_46 mj_fuel _ _ _ _ hq_2 ?_
        refine ev_aload_n (q := 76) dX6_hours_75 rfl rfl ?_
        refine ev_getfR (q := 79) mw_f_RX6_25 rfl rfl dX6_hours_76 rfl ?_
        refine ev_getfI (q := 82) mw_f_RX6_158 (by decide) (by decide) (mx_H mx_isH_4) dX6_hours_79 rfl ?_
        obtain rfl := Option.some.inj hg
        exact ev_iret dX6_hours_82 rfl ⟨rfl, rfl, rfl⟩
def g_X6_isCloud (x1 : Int32) (f : mj_I) : Int32 :=
  (g_X6_within x1 (0 : Int32) ((f 4 4) - (1 : Int32)))
theorem r_X6_isCloud {x1 : Int32} {f : mj_I} {g : mj_L} {o : Int32} (hg : g_X6_isCloud x1 f = o) : mj_Sp jX6_isCloud mx_S [.ref 0, .int x1] f g (fun v f' g' => some (.int o) = v ∧ f = f' ∧ g = g' ∧ mj_b (o) = true) := by
  refine mj_sp 0 (by decide +kernel) rfl rfl (fun _ _ => Nat.le_of_ble_eq_true rfl) ?_
  show mj_Ev jX6_isCloud 0 [some (.ref 0), some (.int x1)] [] mx_S f g _
  unfold g_X6_isCloud at hg
  refine ev_iload_n (q := 1) dX6_isCloud_0 rfl rfl ?_
  refine ev_iconst (v := 0) (q := 2) dX6_isCloud_1 mci_0 rfl ?_
  refine ev_aload_n (q := 3) dX6_isCloud_2 rfl rfl ?_
  refine ev_getfR (q := 6) mw_f_RX6_25 rfl rfl dX6_isCloud_3 rfl ?_
  refine ev_getfI (q := 9) mw_f_RX6_138 (by decide) (by decide) (mx_H mx_isH_4) dX6_isCloud_6 rfl ?_
  refine ev_iconst (v := 1) (q := 10) dX6_isCloud_9 mci_1 rfl ?_
  refine ev_isub (q := 11) dX6_isCloud_10 rfl ?_
  refine ev_callS (q := 14) kX6_within mw_t_X6_within mw_m_RX6_69 (r_X6_within rfl) rfl rfl (Nat.le_of_ble_eq_true rfl) (by decide) dX6_isCloud_11 rfl (fun v fv gv hp => ?_)
  obtain ⟨rfl, rfl, rfl, hr_1⟩ := hp
  subst hg
  exact ev_zret dX6_isCloud_14 rfl (hr_1) ⟨rfl, rfl, rfl, (hr_1)⟩
def g_X6_lift (x1 : Int32) (x2 : Int32) (f : mj_I) : Option (Int32 × mj_I) :=
  if (g_X6_isCloud x1 f) = 0 then
   some (((-1000001 : Int32), f))
  else
   if (g_X6_within x2 (0 : Int32) (1 : Int32)) = 0 then
    some (((-1000001 : Int32), f))
   else
    if mj_in x1 5 = true then
    if (f (4 + 4 + (ix x1)) 4) = 0 then
      if (g_X1_canRise (4 + 4 + (ix x1)) f) = 0 then
       some (((-1000002 : Int32), f))
      else
       if (f (4 + 4 + (ix x1)) 2) = x2 then
        some (((-1000002 : Int32), f))
       else
        (g_X0_keep 4 f).bind (fun o_5 =>
        mj_lt (g_X1_moveTo (4 + 4 + (ix x1)) x2 o_5) (fun o_6 =>
        some (((o_6 (4 + 4 + (ix x1)) 3), o_6))))
     else
      some (((-1000002 : Int32), f))
    else none
theorem r_X6_lift {x1 : Int32} {x2 : Int32} {f : mj_I} {g : mj_L} {o : Int32 × mj_I} (hg : g_X6_lift x1 x2 f = some o) : mj_Sp jX6_lift mx_S [.ref 0, .int x1, .int x2] f g (fun v f' g' => some (.int o.1) = v ∧ o.2 = f' ∧ g = g') := by
  refine mj_sp 1 (by decide +kernel) rfl rfl (fun _ _ => Nat.le_of_ble_eq_true rfl) ?_
  show mj_Ev jX6_lift 0 [some (.ref 0), some (.int x1), some (.int x2), none] [] mx_S f g _
  unfold g_X6_lift at hg
  refine ev_aload_n (q := 1) dX6_lift_0 rfl rfl ?_
  refine ev_iload_n (q := 2) dX6_lift_1 rfl rfl ?_
  refine ev_callV (q := 5) kX6_isCloud mw_i_X6_isCloud mw_s_X6_isCloud mw_m_RX6_161 rfl rfl (r_X6_isCloud rfl) rfl rfl (Nat.le_of_ble_eq_true rfl) (by decide) dX6_lift_2 rfl (fun v fv gv hp => ?_)
  obtain ⟨rfl, rfl, rfl, hr_1⟩ := hp
  refine ev_if_eq (t := 17) (q := 8) dX6_lift_5 rfl rfl hg (fun hg => ?_) (fun hg => ?_)
  · refine ev_ldc (q := 19) mw_c_RX6_73 dX6_lift_17 rfl ?_
    obtain rfl := Option.some.inj hg
    exact ev_iret dX6_lift_19 rfl ⟨rfl, rfl, rfl⟩
  · refine ev_iload_n (q := 9) dX6_lift_8 rfl rfl ?_
    refine ev_iconst (v := 0) (q := 10) dX6_lift_9 mci_0 rfl ?_
    refine ev_iconst (v := 1) (q := 11) dX6_lift_10 mci_1 rfl ?_
    refine ev_callS (q := 14) kX6_within mw_t_X6_within mw_m_RX6_69 (r_X6_within rfl) rfl rfl (Nat.le_of_ble_eq_true rfl) (by decide) dX6_lift_11 rfl (fun v fv gv hp => ?_)
    obtain ⟨rfl, rfl, rfl, hr_2⟩ := hp
    refine ev_if_ne (t := 20) (q := 17) dX6_lift_14 rfl rfl hg (fun hg => ?_) (fun hg => ?_)
    · refine ev_ldc (q := 19) mw_c_RX6_73 dX6_lift_17 rfl ?_
      obtain rfl := Option.some.inj hg
      exact ev_iret dX6_lift_19 rfl ⟨rfl, rfl, rfl⟩
    · refine ev_aload_n (q := 21) dX6_lift_20 rfl rfl ?_
      refine ev_getfR (q := 24) mw_f_RX6_25 rfl rfl dX6_lift_21 rfl ?_
      refine ev_getfR (q := 27) mw_f_RX6_164 (mx_H mx_isH_4) rfl dX6_lift_24 rfl ?_
      refine ev_iload_n (q := 28) dX6_lift_27 rfl rfl ?_
      obtain ⟨hi_3, hg⟩ := mj_gd hg
      refine ev_aald (kd := 0) (q := 29) (mx_HC mx_isH_4) (by decide) hi_3 (mx_cr_get hi_3) dX6_lift_28 rfl ?_
      refine ev_astore_n (q := 30) (loc' := [some (.ref _), some (.int _), some (.int _), some (.ref _)]) dX6_lift_29 (by decide) rfl rfl ?_
      refine ev_aload_n (q := 31) dX6_lift_30 rfl rfl ?_
      refine ev_getfI (q := 34) mw_f_RX6_168 (by decide) (by decide) (mx_C (mx_isC_of mx_isH_4 hi_3)) dX6_lift_31 rfl ?_
      refine ev_if_ne (t := 52) (q := 37) dX6_lift_34 rfl rfl hg (fun hg => ?_) (fun hg => ?_)
      · refine ev_aload_n (q := 38) dX6_lift_37 rfl rfl ?_
        refine ev_callV (q := 41) kX1_canRise mw_i_X1_canRise mw_s_X1_canRise mw_m_RX6_171 (mx_C (mx_isC_of mx_isH_4 hi_3)) rfl (r_X1_canRise (mx_isC_of mx_isH_4 hi_3) rfl) rfl rfl (Nat.le_of_ble_eq_true rfl) (by decide) dX6_lift_38 rfl (fun v fv gv hp => ?_)
        obtain ⟨rfl, rfl, rfl, hr_4⟩ := hp
        refine ev_if_eq (t := 52) (q := 44) dX6_lift_41 rfl rfl hg (fun hg => ?_) (fun hg => ?_)
        · refine ev_ldc (q := 54) mw_c_RX6_142 dX6_lift_52 rfl ?_
          obtain rfl := Option.some.inj hg
          exact ev_iret dX6_lift_54 rfl ⟨rfl, rfl, rfl⟩
        · refine ev_aload_n (q := 45) dX6_lift_44 rfl rfl ?_
          refine ev_getfI (q := 48) mw_f_RX6_175 (by decide) (by decide) (mx_C (mx_isC_of mx_isH_4 hi_3)) dX6_lift_45 rfl ?_
          refine ev_iload_n (q := 49) dX6_lift_48 rfl rfl ?_
          refine ev_icmp_ne (t := 55) (q := 52) dX6_lift_49 rfl rfl hg (fun hg => ?_) (fun hg => ?_)
          · refine ev_ldc (q := 54) mw_c_RX6_142 dX6_lift_52 rfl ?_
            obtain rfl := Option.some.inj hg
            exact ev_iret dX6_lift_54 rfl ⟨rfl, rfl, rfl⟩
          · refine ev_aload_n (q := 56) dX6_lift_55 rfl rfl ?_
            refine ev_getfR (q := 59) mw_f_RX6_46 rfl rfl dX6_lift_56 rfl ?_
            refine ev_aload_n (q := 60) dX6_lift_59 rfl rfl ?_
            refine ev_getfR (q := 63) mw_f_RX6_25 rfl rfl dX6_lift_60 rfl ?_
            obtain ⟨o_5, ho_5, hg⟩ := mj_bd hg
            refine ev_callV (q := 66) kX0_keep mw_i_X0_keep mw_s_X0_keep mw_m_RX6_152 rfl rfl (r_X0_keep mx_isH_4 ho_5) rfl rfl (Nat.le_of_ble_eq_true rfl) (by decide) dX6_lift_63 rfl (fun v fv gv hp => ?_)
            obtain ⟨rfl, rfl, rfl⟩ := hp
            refine ev_aload_n (q := 67) dX6_lift_66 rfl rfl ?_
            refine ev_iload_n (q := 68) dX6_lift_67 rfl rfl ?_
            obtain ⟨o_6, ho_6, hg⟩ := mj_lte hg
            refine ev_callV (q := 71) kX1_moveTo mw_i_X1_moveTo mw_s_X1_moveTo mw_m_RX6_178 (mx_C (mx_isC_of mx_isH_4 hi_3)) rfl (r_X1_moveTo (mx_isC_of mx_isH_4 hi_3) ho_6) rfl rfl (Nat.le_of_ble_eq_true rfl) (by decide) dX6_lift_68 rfl (fun v fv gv hp => ?_)
            obtain ⟨rfl, rfl, rfl⟩ := hp
            refine ev_aload_n (q := 72) dX6_lift_71 rfl rfl ?_
            refine ev_getfI (q := 75) mw_f_RX6_182 (by decide) (by decide) (mx_C (mx_isC_of mx_isH_4 hi_3)) dX6_lift_72 rfl ?_
            obtain rfl := Option.some.inj hg
            exact ev_iret dX6_lift_75 rfl ⟨rfl, rfl, rfl⟩
      · refine ev_ldc (q := 54) mw_c_RX6_142 dX6_lift_52 rfl ?_
        obtain rfl := Option.some.inj hg
        exact ev_iret dX6_lift_54 rfl ⟨rfl, rfl, rfl⟩
def g_X6_rains_56 (x2 : Int32) (a3 : Nat) (f : mj_I) : Option (Int32 × mj_I) :=
  mj_lt ((g_X6_bit (f a3 5))) (fun u_5 =>
  (g_X0_keep 4 f).bind (fun o_6 =>
  if x2 = (1 : Int32) then
   mj_lt (mj_wr o_6 a3 5 (1 : Int32)) (fun f_7 =>
   some ((u_5, f_7)))
  else
   mj_lt (mj_wr o_6 a3 5 (0 : Int32)) (fun f_8 =>
   some ((u_5, f_8)))))
theorem r_X6_rains_56 {g : mj_L} : ∀ (x2 : Int32) (a3 : Nat) (f : mj_I) (o : Int32 × mj_I), mx_isC a3 → g_X6_rains_56 x2 a3 f = some o → mj_Ev jX6_rains 56 [some (.ref 0), none, some (.int x2), some (.ref a3), none] [] mx_S f g (fun v f' g' => some (.int o.1) = v ∧ o.2 = f' ∧ g = g') := by
  intro x2 a3 f o h3 hg
  unfold g_X6_rains_56 at hg
  refine ev_aload_n (q := 57) dX6_rains_56 rfl rfl ?_
  refine ev_getfI (q := 60) mw_f_RX6_188 (by decide) (by decide) (mx_C h3) dX6_rains_57 rfl ?_
  refine ev_callS (q := 63) kX6_bit mw_t_X6_bit mw_m_RX6_191 (r_X6_bit rfl) rfl rfl (Nat.le_of_ble_eq_true rfl) (by decide) dX6_rains_60 rfl (fun v fv gv hp => ?_)
  obtain ⟨rfl, rfl, rfl⟩ := hp
  refine ev_nmi (fun u_5 hu_5 => ?_)
  have hg := mj_lt_el hu_5 hg
  refine ev_istore (q := 65) (loc' := [some (.ref _), none, some (.int _), some (.ref _), some (.int _)]) dX6_rains_63 (by decide) rfl rfl ?_
  refine ev_aload_n (q := 66) dX6_rains_65 rfl rfl ?_
  refine ev_getfR (q := 69) mw_f_RX6_46 rfl rfl dX6_rains_66 rfl ?_
  refine ev_aload_n (q := 70) dX6_rains_69 rfl rfl ?_
  refine ev_getfR (q := 73) mw_f_RX6_25 rfl rfl dX6_rains_70 rfl ?_
  obtain ⟨o_6, ho_6, hg⟩ := mj_bd hg
  refine ev_callV (q := 76) kX0_keep mw_i_X0_keep mw_s_X0_keep mw_m_RX6_152 rfl rfl (r_X0_keep mx_isH_4 ho_6) rfl rfl (Nat.le_of_ble_eq_true rfl) (by decide) dX6_rains_73 rfl (fun v fv gv hp => ?_)
  obtain ⟨rfl, rfl, rfl⟩ := hp
  refine ev_aload_n (q := 77) dX6_rains_76 rfl rfl ?_
  refine ev_iload_n (q := 78) dX6_rains_77 rfl rfl ?_
  refine ev_iconst (v := 1) (q := 79) dX6_rains_78 mci_1 rfl ?_
  refine ev_icmp_ne (t := 86) (q := 82) dX6_rains_79 rfl rfl hg (fun hg => ?_) (fun hg => ?_)
  · refine ev_iconst (v := 1) (q := 83) dX6_rains_82 mci_1 rfl ?_
    refine ev_goto (q := 87) dX6_rains_83 rfl ?_
    refine ev_putfZ (q := 90) mw_f_RX6_188 (mx_C h3) (mcz_1) dX6_rains_87 rfl ?_
    refine ev_nmf (fun f_7 hf_7 => ?_)
    have hg := mj_lt_el hf_7 hg
    refine ev_iload (q := 92) dX6_rains_90 rfl rfl ?_
    obtain rfl := Option.some.inj hg
    exact ev_iret dX6_rains_92 rfl ⟨rfl, rfl, rfl⟩
  · refine ev_iconst (v := 0) (q := 87) dX6_rains_86 mci_0 rfl ?_
    refine ev_putfZ (q := 90) mw_f_RX6_188 (mx_C h3) (mcz_0) dX6_rains_87 rfl ?_
    refine ev_nmf (fun f_8 hf_8 => ?_)
    have hg := mj_lt_el hf_8 hg
    refine ev_iload (q := 92) dX6_rains_90 rfl rfl ?_
    obtain rfl := Option.some.inj hg
    exact ev_iret dX6_rains_92 rfl ⟨rfl, rfl, rfl⟩
def g_X6_rains (x1 : Int32) (x2 : Int32) (f : mj_I) : Option (Int32 × mj_I) :=
  if (g_X6_isCloud x1 f) = 0 then
   some (((-1000001 : Int32), f))
  else
   if (g_X6_within x2 (0 : Int32) (1 : Int32)) = 0 then
    some (((-1000001 : Int32), f))
   else
    if mj_in x1 5 = true then
    if (f (4 + 4 + (ix x1)) 4) = 0 then
      if (f (4 + 4 + (ix x1)) 0) = (1 : Int32) then
       g_X6_rains_56 x2 (4 + 4 + (ix x1)) f
      else
       if (f (4 + 4 + (ix x1)) 0) = (2 : Int32) then
        g_X6_rains_56 x2 (4 + 4 + (ix x1)) f
       else
        some (((-1000002 : Int32), f))
     else
      some (((-1000002 : Int32), f))
    else none
theorem r_X6_rains {x1 : Int32} {x2 : Int32} {f : mj_I} {g : mj_L} {o : Int32 × mj_I} (hg : g_X6_rains x1 x2 f = some o) : mj_Sp jX6_rains mx_S [.ref 0, .int x1, .int x2] f g (fun v f' g' => some (.int o.1) = v ∧ o.2 = f' ∧ g = g') := by
  refine mj_sp 2 (by decide +kernel) rfl rfl (fun _ _ => Nat.le_of_ble_eq_true rfl) ?_
  show mj_Ev jX6_rains 0 [some (.ref 0), some (.int x1), some (.int x2), none, none] [] mx_S f g _
  unfold g_X6_rains at hg
  refine ev_aload_n (q := 1) dX6_rains_0 rfl rfl ?_
  refine ev_iload_n (q := 2) dX6_rains_1 rfl rfl ?_
  refine ev_callV (q := 5) kX6_isCloud mw_i_X6_isCloud mw_s_X6_isCloud mw_m_RX6_161 rfl rfl (r_X6_isCloud rfl) rfl rfl (Nat.le_of_ble_eq_true rfl) (by decide) dX6_rains_2 rfl (fun v fv gv hp => ?_)
  obtain ⟨rfl, rfl, rfl, hr_1⟩ := hp
  refine ev_if_eq (t := 17) (q := 8) dX6_rains_5 rfl rfl hg (fun hg => ?_) (fun hg => ?_)
  · refine ev_ldc (q := 19) mw_c_RX6_73 dX6_rains_17 rfl ?_
    obtain rfl := Option.some.inj hg
    exact ev_iret dX6_rains_19 rfl ⟨rfl, rfl, rfl⟩
  · refine ev_iload_n (q := 9) dX6_rains_8 rfl rfl ?_
    refine ev_iconst (v := 0) (q := 10) dX6_rains_9 mci_0 rfl ?_
    refine ev_iconst (v := 1) (q := 11) dX6_rains_10 mci_1 rfl ?_
    refine ev_callS (q := 14) kX6_within mw_t_X6_within mw_m_RX6_69 (r_X6_within rfl) rfl rfl (Nat.le_of_ble_eq_true rfl) (by decide) dX6_rains_11 rfl (fun v fv gv hp => ?_)
    obtain ⟨rfl, rfl, rfl, hr_2⟩ := hp
    refine ev_if_ne (t := 20) (q := 17) dX6_rains_14 rfl rfl hg (fun hg => ?_) (fun hg => ?_)
    · refine ev_ldc (q := 19) mw_c_RX6_73 dX6_rains_17 rfl ?_
      obtain rfl := Option.some.inj hg
      exact ev_iret dX6_rains_19 rfl ⟨rfl, rfl, rfl⟩
    · refine ev_aload_n (q := 21) dX6_rains_20 rfl rfl ?_
      refine ev_getfR (q := 24) mw_f_RX6_25 rfl rfl dX6_rains_21 rfl ?_
      refine ev_getfR (q := 27) mw_f_RX6_164 (mx_H mx_isH_4) rfl dX6_rains_24 rfl ?_
      refine ev_iload_n (q := 28) dX6_rains_27 rfl rfl ?_
      obtain ⟨hi_3, hg⟩ := mj_gd hg
      refine ev_aald (kd := 0) (q := 29) (mx_HC mx_isH_4) (by decide) hi_3 (mx_cr_get hi_3) dX6_rains_28 rfl ?_
      refine ev_astore_n (q := 30) (loc' := [some (.ref _), some (.int _), some (.int _), some (.ref _), none]) dX6_rains_29 (by decide) rfl rfl ?_
      refine ev_aload_n (q := 31) dX6_rains_30 rfl rfl ?_
      refine ev_getfI (q := 34) mw_f_RX6_168 (by decide) (by decide) (mx_C (mx_isC_of mx_isH_4 hi_3)) dX6_rains_31 rfl ?_
      refine ev_if_ne (t := 53) (q := 37) dX6_rains_34 rfl rfl hg (fun hg => ?_) (fun hg => ?_)
      · refine ev_aload_n (q := 38) dX6_rains_37 rfl rfl ?_
        refine ev_getfI (q := 41) mw_f_RX6_185 (by decide) (by decide) (mx_C (mx_isC_of mx_isH_4 hi_3)) dX6_rains_38 rfl ?_
        refine ev_iconst (v := 1) (q := 42) dX6_rains_41 mci_1 rfl ?_
        refine ev_icmp_eq (t := 56) (q := 45) dX6_rains_42 rfl rfl hg (fun hg => ?_) (fun hg => ?_)
        · refine ev_wk (loc' := [some (.ref _), none, some (.int _), some (.ref _), none]) ⟨rfl, rfl, rfl, trivial⟩ ?_
          exact r_X6_rains_56 _ _ _ _ (mx_isC_of mx_isH_4 hi_3) hg
        · refine ev_aload_n (q := 46) dX6_rains_45 rfl rfl ?_
          refine ev_getfI (q := 49) mw_f_RX6_185 (by decide) (by decide) (mx_C (mx_isC_of mx_isH_4 hi_3)) dX6_rains_46 rfl ?_
          refine ev_iconst (v := 2) (q := 50) dX6_rains_49 mci_2 rfl ?_
          refine ev_icmp_eq (t := 56) (q := 53) dX6_rains_50 rfl rfl hg (fun hg => ?_) (fun hg => ?_)
          · refine ev_wk (loc' := [some (.ref _), none, some (.int _), some (.ref _), none]) ⟨rfl, rfl, rfl, trivial⟩ ?_
            exact r_X6_rains_56 _ _ _ _ (mx_isC_of mx_isH_4 hi_3) hg
          · refine ev_ldc (q := 55) mw_c_RX6_142 dX6_rains_53 rfl ?_
            obtain rfl := Option.some.inj hg
            exact ev_iret dX6_rains_55 rfl ⟨rfl, rfl, rfl⟩
      · refine ev_ldc (q := 55) mw_c_RX6_142 dX6_rains_53 rfl ?_
        obtain rfl := Option.some.inj hg
        exact ev_iret dX6_rains_55 rfl ⟨rfl, rfl, rfl⟩
def g_X6_cloud (x1 : Int32) (x2 : Int32) (f : mj_I) : Option (Int32) :=
  if (g_X6_isCloud x1 f) = 0 then
   some ((-1000001 : Int32))
  else
   if (g_X6_within x2 (0 : Int32) (4 : Int32)) = 0 then
    some ((-1000001 : Int32))
   else
    if mj_in x1 5 = true then
    some ((g_X1_part (4 + 4 + (ix x1)) x2 f))
    else none
theorem r_X6_cloud {x1 : Int32} {x2 : Int32} {f : mj_I} {g : mj_L} {o : Int32} (hg : g_X6_cloud x1 x2 f = some o) : mj_Sp jX6_cloud mx_S [.ref 0, .int x1, .int x2] f g (fun v f' g' => some (.int o) = v ∧ f = f' ∧ g = g') := by
  refine mj_sp 0 (by decide +kernel) rfl rfl (fun _ _ => Nat.le_of_ble_eq_true rfl) ?_
  show mj_Ev jX6_cloud 0 [some (.ref 0), some (.int x1), some (.int x2)] [] mx_S f g _
  unfold g_X6_cloud at hg
  refine ev_aload_n (q := 1) dX6_cloud_0 rfl rfl ?_
  refine ev_iload_n (q := 2) dX6_cloud_1 rfl rfl ?_
  refine ev_callV (q := 5) kX6_isCloud mw_i_X6_isCloud mw_s_X6_isCloud mw_m_RX6_161 rfl rfl (r_X6_isCloud rfl) rfl rfl (Nat.le_of_ble_eq_true rfl) (by decide) dX6_cloud_2 rfl (fun v fv gv hp => ?_)
  obtain ⟨rfl, rfl, rfl, hr_1⟩ := hp
  refine ev_if_eq (t := 17) (q := 8) dX6_cloud_5 rfl rfl hg (fun hg => ?_) (fun hg => ?_)
  · refine ev_ldc (q := 19) mw_c_RX6_73 dX6_cloud_17 rfl ?_
    obtain rfl := Option.some.inj hg
    exact ev_iret dX6_cloud_19 rfl ⟨rfl, rfl, rfl⟩
  · refine ev_iload_n (q := 9) dX6_cloud_8 rfl rfl ?_
    refine ev_iconst (v := 0) (q := 10) dX6_cloud_9 mci_0 rfl ?_
    refine ev_iconst (v := 4) (q := 11) dX6_cloud_10 mci_4 rfl ?_
    refine ev_callS (q := 14) kX6_within mw_t_X6_within mw_m_RX6_69 (r_X6_within rfl) rfl rfl (Nat.le_of_ble_eq_true rfl) (by decide) dX6_cloud_11 rfl (fun v fv gv hp => ?_)
    obtain ⟨rfl, rfl, rfl, hr_2⟩ := hp
    refine ev_if_ne (t := 20) (q := 17) dX6_cloud_14 rfl rfl hg (fun hg => ?_) (fun hg => ?_)
    · refine ev_ldc (q := 19) mw_c_RX6_73 dX6_cloud_17 rfl ?_
      obtain rfl := Option.some.inj hg
      exact ev_iret dX6_cloud_19 rfl ⟨rfl, rfl, rfl⟩
    · refine ev_aload_n (q := 21) dX6_cloud_20 rfl rfl ?_
      refine ev_getfR (q := 24) mw_f_RX6_25 rfl rfl dX6_cloud_21 rfl ?_
      refine ev_getfR (q := 27) mw_f_RX6_164 (mx_H mx_isH_4) rfl dX6_cloud_24 rfl ?_
      refine ev_iload_n (q := 28) dX6_cloud_27 rfl rfl ?_
      obtain ⟨hi_3, hg⟩ := mj_gd hg
      refine ev_aald (kd := 0) (q := 29) (mx_HC mx_isH_4) (by decide) hi_3 (mx_cr_get hi_3) dX6_cloud_28 rfl ?_
      refine ev_iload_n (q := 30) dX6_cloud_29 rfl rfl ?_
      refine ev_callV (q := 33) kX1_part mw_i_X1_part mw_s_X1_part mw_m_RX6_195 (mx_C (mx_isC_of mx_isH_4 hi_3)) rfl (r_X1_part (mx_isC_of mx_isH_4 hi_3) rfl) rfl rfl (Nat.le_of_ble_eq_true rfl) (by decide) dX6_cloud_30 rfl (fun v fv gv hp => ?_)
      obtain ⟨rfl, rfl, rfl⟩ := hp
      obtain rfl := Option.some.inj hg
      exact ev_iret dX6_cloud_33 rfl ⟨rfl, rfl, rfl⟩
def g_X6_isCell (x0 : Int32) : Int32 :=
  (g_X6_within x0 (0 : Int32) (31 : Int32))
theorem r_X6_isCell {x0 : Int32} {f : mj_I} {g : mj_L} {o : Int32} (hg : g_X6_isCell x0 = o) : mj_Sp jX6_isCell mx_S [.int x0] f g (fun v f' g' => some (.int o) = v ∧ f = f' ∧ g = g' ∧ mj_b (o) = true) := by
  refine mj_sp 0 (by decide +kernel) rfl rfl (fun _ _ => Nat.le_of_ble_eq_true rfl) ?_
  show mj_Ev jX6_isCell 0 [some (.int x0)] [] mx_S f g _
  unfold g_X6_isCell at hg
  refine ev_iload_n (q := 1) dX6_isCell_0 rfl rfl ?_
  refine ev_iconst (v := 0) (q := 2) dX6_isCell_1 mci_0 rfl ?_
  refine ev_bipush (v := 31) (q := 4) dX6_isCell_2 mcb_31 rfl ?_
  refine ev_callS (q := 7) kX6_within mw_t_X6_within mw_m_RX6_69 (r_X6_within rfl) rfl rfl (Nat.le_of_ble_eq_true rfl) (by decide) dX6_isCell_4 rfl (fun v fv gv hp => ?_)
  obtain ⟨rfl, rfl, rfl, hr_1⟩ := hp
  subst hg
  exact ev_zret dX6_isCell_7 rfl (hr_1) ⟨rfl, rfl, rfl, (hr_1)⟩
def g_X6_cell (x1 : Int32) (x2 : Int32) (f : mj_I) : Option (Int32) :=
  if (f 4 0) = 0 then
   some ((-1000002 : Int32))
  else
   if (g_X6_isCell x1) = 0 then
    some ((-1000001 : Int32))
   else
    if (g_X6_within x2 (0 : Int32) (1 : Int32)) = 0 then
     some ((-1000001 : Int32))
    else
     if x2 = 0 then
      if mj_in x1 32 = true then
      some ((f 6 (ix x1)))
      else none
     else
      (g_X2_cloudsOver 4 x1 f).bind (fun o_4 =>
      some (o_4))
theorem r_X6_cell {x1 : Int32} {x2 : Int32} {f : mj_I} {g : mj_L} {o : Int32} (hg : g_X6_cell x1 x2 f = some o) : mj_Sp jX6_cell mx_S [.ref 0, .int x1, .int x2] f g (fun v f' g' => some (.int o) = v ∧ f = f' ∧ g = g') := by
  refine mj_sp 0 (by decide +kernel) rfl rfl (fun _ _ => Nat.le_of_ble_eq_true rfl) ?_
  show mj_Ev jX6_cell 0 [some (.ref 0), some (.int x1), some (.int x2)] [] mx_S f g _
  unfold g_X6_cell at hg
  refine ev_aload_n (q := 1) dX6_cell_0 rfl rfl ?_
  refine ev_getfR (q := 4) mw_f_RX6_25 rfl rfl dX6_cell_1 rfl ?_
  refine ev_getfI (q := 7) mw_f_RX6_146 (by decide) (by decide) (mx_H mx_isH_4) dX6_cell_4 rfl ?_
  refine ev_if_ne (t := 13) (q := 10) dX6_cell_7 rfl rfl hg (fun hg => ?_) (fun hg => ?_)
  · refine ev_ldc (q := 12) mw_c_RX6_142 dX6_cell_10 rfl ?_
    obtain rfl := Option.some.inj hg
    exact ev_iret dX6_cell_12 rfl ⟨rfl, rfl, rfl⟩
  · refine ev_iload_n (q := 14) dX6_cell_13 rfl rfl ?_
    refine ev_callS (q := 17) kX6_isCell mw_t_X6_isCell mw_m_RX6_198 (r_X6_isCell rfl) rfl rfl (Nat.le_of_ble_eq_true rfl) (by decide) dX6_cell_14 rfl (fun v fv gv hp => ?_)
    obtain ⟨rfl, rfl, rfl, hr_1⟩ := hp
    refine ev_if_eq (t := 29) (q := 20) dX6_cell_17 rfl rfl hg (fun hg => ?_) (fun hg => ?_)
    · refine ev_ldc (q := 31) mw_c_RX6_73 dX6_cell_29 rfl ?_
      obtain rfl := Option.some.inj hg
      exact ev_iret dX6_cell_31 rfl ⟨rfl, rfl, rfl⟩
    · refine ev_iload_n (q := 21) dX6_cell_20 rfl rfl ?_
      refine ev_iconst (v := 0) (q := 22) dX6_cell_21 mci_0 rfl ?_
      refine ev_iconst (v := 1) (q := 23) dX6_cell_22 mci_1 rfl ?_
      refine ev_callS (q := 26) kX6_within mw_t_X6_within mw_m_RX6_69 (r_X6_within rfl) rfl rfl (Nat.le_of_ble_eq_true rfl) (by decide) dX6_cell_23 rfl (fun v fv gv hp => ?_)
      obtain ⟨rfl, rfl, rfl, hr_2⟩ := hp
      refine ev_if_ne (t := 32) (q := 29) dX6_cell_26 rfl rfl hg (fun hg => ?_) (fun hg => ?_)
      · refine ev_ldc (q := 31) mw_c_RX6_73 dX6_cell_29 rfl ?_
        obtain rfl := Option.some.inj hg
        exact ev_iret dX6_cell_31 rfl ⟨rfl, rfl, rfl⟩
      · refine ev_iload_n (q := 33) dX6_cell_32 rfl rfl ?_
        refine ev_if_ne (t := 48) (q := 36) dX6_cell_33 rfl rfl hg (fun hg => ?_) (fun hg => ?_)
        · refine ev_aload_n (q := 37) dX6_cell_36 rfl rfl ?_
          refine ev_getfR (q := 40) mw_f_RX6_25 rfl rfl dX6_cell_37 rfl ?_
          refine ev_getfR (q := 43) mw_f_RX6_201 (mx_H mx_isH_4) rfl dX6_cell_40 rfl ?_
          refine ev_iload_n (q := 44) dX6_cell_43 rfl rfl ?_
          obtain ⟨hi_3, hg⟩ := mj_gd hg
          refine ev_ialdk (q := 45) (mx_HP mx_isH_4) hi_3 rfl dX6_cell_44 rfl ?_
          refine ev_goto (q := 56) dX6_cell_45 rfl ?_
          obtain rfl := Option.some.inj hg
          exact ev_iret dX6_cell_56 rfl ⟨rfl, rfl, rfl⟩
        · refine ev_aload_n (q := 49) dX6_cell_48 rfl rfl ?_
          refine ev_getfR (q := 52) mw_f_RX6_25 rfl rfl dX6_cell_49 rfl ?_
          refine ev_iload_n (q := 53) dX6_cell_52 rfl rfl ?_
          obtain ⟨o_4, ho_4, hg⟩ := mj_bd hg
          refine ev_callV (q := 56) kX2_cloudsOver mw_i_X2_cloudsOver mw_s_X2_cloudsOver mw_m_RX6_204 (mx_H mx_isH_4) rfl (r_X2_cloudsOver mx_isH_4 ho_4) rfl rfl (Nat.le_of_ble_eq_true rfl) (by decide) dX6_cell_53 rfl (fun v fv gv hp => ?_)
          obtain ⟨rfl, rfl, rfl⟩ := hp
          obtain rfl := Option.some.inj hg
          exact ev_iret dX6_cell_56 rfl ⟨rfl, rfl, rfl⟩
def g_X6_wind (x1 : Int32) (x2 : Int32) (f : mj_I) : Option (Int32) :=
  if (f 4 0) = 0 then
   some ((-1000002 : Int32))
  else
   if (g_X6_within x1 (0 : Int32) (1 : Int32)) = 0 then
    some ((-1000001 : Int32))
   else
    if (g_X6_within x2 (0 : Int32) (5 : Int32)) = 0 then
     some ((-1000001 : Int32))
    else
     (g_X2_blowing 4 x1 x2 f).bind (fun o_3 =>
     some (o_3))
theorem r_X6_wind {x1 : Int32} {x2 : Int32} {f : mj_I} {g : mj_L} {o : Int32} (hg : g_X6_wind x1 x2 f = some o) : mj_Sp jX6_wind mx_S [.ref 0, .int x1, .int x2] f g (fun v f' g' => some (.int o) = v ∧ f = f' ∧ g = g') := by
  refine mj_sp 0 (by decide +kernel) rfl rfl (fun _ _ => Nat.le_of_ble_eq_true rfl) ?_
  show mj_Ev jX6_wind 0 [some (.ref 0), some (.int x1), some (.int x2)] [] mx_S f g _
  unfold g_X6_wind at hg
  refine ev_aload_n (q := 1) dX6_wind_0 rfl rfl ?_
  refine ev_getfR (q := 4) mw_f_RX6_25 rfl rfl dX6_wind_1 rfl ?_
  refine ev_getfI (q := 7) mw_f_RX6_146 (by decide) (by decide) (mx_H mx_isH_4) dX6_wind_4 rfl ?_
  refine ev_if_ne (t := 13) (q := 10) dX6_wind_7 rfl rfl hg (fun hg => ?_) (fun hg => ?_)
  · refine ev_ldc (q := 12) mw_c_RX6_142 dX6_wind_10 rfl ?_
    obtain rfl := Option.some.inj hg
    exact ev_iret dX6_wind_12 rfl ⟨rfl, rfl, rfl⟩
  · refine ev_iload_n (q := 14) dX6_wind_13 rfl rfl ?_
    refine ev_iconst (v := 0) (q := 15) dX6_wind_14 mci_0 rfl ?_
    refine ev_iconst (v := 1) (q := 16) dX6_wind_15 mci_1 rfl ?_
    refine ev_callS (q := 19) kX6_within mw_t_X6_within mw_m_RX6_69 (r_X6_within rfl) rfl rfl (Nat.le_of_ble_eq_true rfl) (by decide) dX6_wind_16 rfl (fun v fv gv hp => ?_)
    obtain ⟨rfl, rfl, rfl, hr_1⟩ := hp
    refine ev_if_eq (t := 31) (q := 22) dX6_wind_19 rfl rfl hg (fun hg => ?_) (fun hg => ?_)
    · refine ev_ldc (q := 33) mw_c_RX6_73 dX6_wind_31 rfl ?_
      obtain rfl := Option.some.inj hg
      exact ev_iret dX6_wind_33 rfl ⟨rfl, rfl, rfl⟩
    · refine ev_iload_n (q := 23) dX6_wind_22 rfl rfl ?_
      refine ev_iconst (v := 0) (q := 24) dX6_wind_23 mci_0 rfl ?_
      refine ev_iconst (v := 5) (q := 25) dX6_wind_24 mci_5 rfl ?_
      refine ev_callS (q := 28) kX6_within mw_t_X6_within mw_m_RX6_69 (r_X6_within rfl) rfl rfl (Nat.le_of_ble_eq_true rfl) (by decide) dX6_wind_25 rfl (fun v fv gv hp => ?_)
      obtain ⟨rfl, rfl, rfl, hr_2⟩ := hp
      refine ev_if_ne (t := 34) (q := 31) dX6_wind_28 rfl rfl hg (fun hg => ?_) (fun hg => ?_)
      · refine ev_ldc (q := 33) mw_c_RX6_73 dX6_wind_31 rfl ?_
        obtain rfl := Option.some.inj hg
        exact ev_iret dX6_wind_33 rfl ⟨rfl, rfl, rfl⟩
      · refine ev_aload_n (q := 35) dX6_wind_34 rfl rfl ?_
        refine ev_getfR (q := 38) mw_f_RX6_25 rfl rfl dX6_wind_35 rfl ?_
        refine ev_iload_n (q := 39) dX6_wind_38 rfl rfl ?_
        refine ev_iload_n (q := 40) dX6_wind_39 rfl rfl ?_
        obtain ⟨o_3, ho_3, hg⟩ := mj_bd hg
        refine ev_callV (q := 43) kX2_blowing mw_i_X2_blowing mw_s_X2_blowing mw_m_RX6_207 (mx_H mx_isH_4) rfl (r_X2_blowing mx_isH_4 ho_3) rfl rfl (Nat.le_of_ble_eq_true rfl) (by decide) dX6_wind_40 rfl (fun v fv gv hp => ?_)
        obtain ⟨rfl, rfl, rfl⟩ := hp
        obtain rfl := Option.some.inj hg
        exact ev_iret dX6_wind_43 rfl ⟨rfl, rfl, rfl⟩
def g_X6_tryHours_13 : Nat → Int32 → Int32 → mj_I → Option (mj_I)
  | 0, _, _, _ => none
  | n + 1, x1, x2, f =>
    if x2 < x1 then
     (g_X2_passHour 13 f).bind (fun o_3 =>
     g_X6_tryHours_13 n x1 (x2 + (1 : Int32)) o_3)
    else
     some (f)
theorem r_X6_tryHours_13 {g : mj_L} {post : Option Value → mj_I → mj_L → Prop} : ∀ (n : Nat) (x1 : Int32) (x2 : Int32) (f : mj_I) (o : mj_I), g_X6_tryHours_13 n x1 x2 f = some o → mj_Ev jX6_tryHours 31 [none, none, none] [] mx_S o g post → mj_Ev jX6_tryHours 13 [some (.ref 0), some (.int x1), some (.int x2)] [] mx_S f g post := by
  intro n
  induction n with
  | zero =>
    intro x1 x2 f o hg hk
    cases hg
  | succ n ih =>
    intro x1 x2 f o hg hk
    unfold g_X6_tryHours_13 at hg
    refine ev_iload_n (q := 14) dX6_tryHours_13 rfl rfl ?_
    refine ev_iload_n (q := 15) dX6_tryHours_14 rfl rfl ?_
    refine ev_icmp_ge (t := 31) (q := 18) dX6_tryHours_15 rfl rfl hg (fun hg => ?_) (fun hg => ?_)
    · refine ev_aload_n (q := 19) dX6_tryHours_18 rfl rfl ?_
      refine ev_getfR (q := 22) mw_f_RX6_29 rfl rfl dX6_tryHours_19 rfl ?_
      obtain ⟨o_3, ho_3, hg⟩ := mj_bd hg
      refine ev_callV (q := 25) kX2_passHour mw_i_X2_passHour mw_s_X2_passHour mw_m_RX6_155 (mx_H mx_isH_13) rfl (r_X2_passHour mx_isH_13 ho_3) rfl rfl (Nat.le_of_ble_eq_true rfl) (by decide) dX6_tryHours_22 rfl (fun v fv gv hp => ?_)
      obtain ⟨rfl, rfl, rfl⟩ := hp
      refine ev_iinc (v := 1) (q := 28) (loc' := [some (.ref _), some (.int _), some (.int _)]) dX6_tryHours_25 rfl (by decide) mci_1 rfl rfl ?_
      refine ev_goto (q := 13) dX6_tryHours_28 rfl ?_
      exact ih _ _ _ _ hg hk
    · obtain rfl := Option.some.inj hg
      refine ev_wk (loc' := [none, none, none]) trivial ?_
      exact hk
def g_X6_tryHours (x1 : Int32) (f : mj_I) : Option (mj_I) :=
  (g_X2_become 13 4 f).bind (fun o_1 =>
  (g_X6_tryHours_13 mj_fuel x1 (0 : Int32) o_1).bind (fun q_2 =>
  some (q_2)))
theorem r_X6_tryHours {x1 : Int32} {f : mj_I} {g : mj_L} {o : mj_I} (hg : g_X6_tryHours x1 f = some o) : mj_Sp jX6_tryHours mx_S [.ref 0, .int x1] f g (fun v f' g' => none = v ∧ o = f' ∧ g = g') := by
  refine mj_sp 1 (by decide +kernel) rfl rfl (fun _ _ => Nat.le_of_ble_eq_true rfl) ?_
  show mj_Ev jX6_tryHours 0 [some (.ref 0), some (.int x1), none] [] mx_S f g _
  unfold g_X6_tryHours at hg
  refine ev_aload_n (q := 1) dX6_tryHours_0 rfl rfl ?_
  refine ev_getfR (q := 4) mw_f_RX6_29 rfl rfl dX6_tryHours_1 rfl ?_
  refine ev_aload_n (q := 5) dX6_tryHours_4 rfl rfl ?_
  refine ev_getfR (q := 8) mw_f_RX6_25 rfl rfl dX6_tryHours_5 rfl ?_
  obtain ⟨o_1, ho_1, hg⟩ := mj_bd hg
  refine ev_callV (q := 11) kX2_become mw_i_X2_become mw_s_X2_become mw_m_RX6_132 (mx_H mx_isH_13) rfl (r_X2_become mx_isH_13 mx_isH_4 ho_1) rfl rfl (Nat.le_of_ble_eq_true rfl) (by decide) dX6_tryHours_8 rfl (fun v fv gv hp => ?_)
  obtain ⟨rfl, rfl, rfl⟩ := hp
  refine ev_iconst (v := 0) (q := 12) dX6_tryHours_11 mci_0 rfl ?_
  refine ev_istore_n (q := 13) (loc' := [some (.ref _), some (.int _), some (.int _)]) dX6_tryHours_12 (by decide) rfl rfl ?_
  obtain ⟨q_2, hq_2, hg⟩ := mj_bd hg
  refine r_X6_tryHours_13 mj_fuel _ _ _ _ hq_2 ?_
  obtain rfl := Option.some.inj hg
  exact ev_vret dX6_tryHours_31 rfl ⟨rfl, rfl, rfl⟩
def g_X6_ahead (x1 : Int32) (x2 : Int32) (x3 : Int32) (f : mj_I) : Option (Int32 × mj_I) :=
  if (g_X6_isCloud x1 f) = 0 then
   some (((-1000001 : Int32), f))
  else
   if (g_X6_within x2 (0 : Int32) (60 : Int32)) = 0 then
    some (((-1000001 : Int32), f))
   else
    if (g_X6_within x3 (0 : Int32) (3 : Int32)) = 0 then
     some (((-1000001 : Int32), f))
    else
     (g_X6_tryHours x2 f).bind (fun o_4 =>
     if mj_in x1 5 = true then
     some (((g_X1_part (13 + 4 + (ix x1)) x3 o_4), o_4))
     else none)
theorem r_X6_ahead {x1 : Int32} {x2 : Int32} {x3 : Int32} {f : mj_I} {g : mj_L} {o : Int32 × mj_I} (hg : g_X6_ahead x1 x2 x3 f = some o) : mj_Sp jX6_ahead mx_S [.ref 0, .int x1, .int x2, .int x3] f g (fun v f' g' => some (.int o.1) = v ∧ o.2 = f' ∧ g = g') := by
  refine mj_sp 0 (by decide +kernel) rfl rfl (fun _ _ => Nat.le_of_ble_eq_true rfl) ?_
  show mj_Ev jX6_ahead 0 [some (.ref 0), some (.int x1), some (.int x2), some (.int x3)] [] mx_S f g _
  unfold g_X6_ahead at hg
  refine ev_aload_n (q := 1) dX6_ahead_0 rfl rfl ?_
  refine ev_iload_n (q := 2) dX6_ahead_1 rfl rfl ?_
  refine ev_callV (q := 5) kX6_isCloud mw_i_X6_isCloud mw_s_X6_isCloud mw_m_RX6_161 rfl rfl (r_X6_isCloud rfl) rfl rfl (Nat.le_of_ble_eq_true rfl) (by decide) dX6_ahead_2 rfl (fun v fv gv hp => ?_)
  obtain ⟨rfl, rfl, rfl, hr_1⟩ := hp
  refine ev_if_eq (t := 27) (q := 8) dX6_ahead_5 rfl rfl hg (fun hg => ?_) (fun hg => ?_)
  · refine ev_ldc (q := 29) mw_c_RX6_73 dX6_ahead_27 rfl ?_
    obtain rfl := Option.some.inj hg
    exact ev_iret dX6_ahead_29 rfl ⟨rfl, rfl, rfl⟩
  · refine ev_iload_n (q := 9) dX6_ahead_8 rfl rfl ?_
    refine ev_iconst (v := 0) (q := 10) dX6_ahead_9 mci_0 rfl ?_
    refine ev_bipush (v := 60) (q := 12) dX6_ahead_10 mcb_60 rfl ?_
    refine ev_callS (q := 15) kX6_within mw_t_X6_within mw_m_RX6_69 (r_X6_within rfl) rfl rfl (Nat.le_of_ble_eq_true rfl) (by decide) dX6_ahead_12 rfl (fun v fv gv hp => ?_)
    obtain ⟨rfl, rfl, rfl, hr_2⟩ := hp
    refine ev_if_eq (t := 27) (q := 18) dX6_ahead_15 rfl rfl hg (fun hg => ?_) (fun hg => ?_)
    · refine ev_ldc (q := 29) mw_c_RX6_73 dX6_ahead_27 rfl ?_
      obtain rfl := Option.some.inj hg
      exact ev_iret dX6_ahead_29 rfl ⟨rfl, rfl, rfl⟩
    · refine ev_iload_n (q := 19) dX6_ahead_18 rfl rfl ?_
      refine ev_iconst (v := 0) (q := 20) dX6_ahead_19 mci_0 rfl ?_
      refine ev_iconst (v := 3) (q := 21) dX6_ahead_20 mci_3 rfl ?_
      refine ev_callS (q := 24) kX6_within mw_t_X6_within mw_m_RX6_69 (r_X6_within rfl) rfl rfl (Nat.le_of_ble_eq_true rfl) (by decide) dX6_ahead_21 rfl (fun v fv gv hp => ?_)
      obtain ⟨rfl, rfl, rfl, hr_3⟩ := hp
      refine ev_if_ne (t := 30) (q := 27) dX6_ahead_24 rfl rfl hg (fun hg => ?_) (fun hg => ?_)
      · refine ev_ldc (q := 29) mw_c_RX6_73 dX6_ahead_27 rfl ?_
        obtain rfl := Option.some.inj hg
        exact ev_iret dX6_ahead_29 rfl ⟨rfl, rfl, rfl⟩
      · refine ev_aload_n (q := 31) dX6_ahead_30 rfl rfl ?_
        refine ev_iload_n (q := 32) dX6_ahead_31 rfl rfl ?_
        obtain ⟨o_4, ho_4, hg⟩ := mj_bd hg
        refine ev_callV (q := 35) kX6_tryHours mw_i_X6_tryHours mw_s_X6_tryHours mw_m_RX6_210 rfl rfl (r_X6_tryHours ho_4) rfl rfl (Nat.le_of_ble_eq_true rfl) (by decide) dX6_ahead_32 rfl (fun v fv gv hp => ?_)
        obtain ⟨rfl, rfl, rfl⟩ := hp
        refine ev_aload_n (q := 36) dX6_ahead_35 rfl rfl ?_
        refine ev_getfR (q := 39) mw_f_RX6_29 rfl rfl dX6_ahead_36 rfl ?_
        refine ev_getfR (q := 42) mw_f_RX6_164 (mx_H mx_isH_13) rfl dX6_ahead_39 rfl ?_
        refine ev_iload_n (q := 43) dX6_ahead_42 rfl rfl ?_
        obtain ⟨hi_5, hg⟩ := mj_gd hg
        refine ev_aald (kd := 0) (q := 44) (mx_HC mx_isH_13) (by decide) hi_5 (mx_cr_get hi_5) dX6_ahead_43 rfl ?_
        refine ev_iload_n (q := 45) dX6_ahead_44 rfl rfl ?_
        refine ev_callV (q := 48) kX1_part mw_i_X1_part mw_s_X1_part mw_m_RX6_195 (mx_C (mx_isC_of mx_isH_13 hi_5)) rfl (r_X1_part (mx_isC_of mx_isH_13 hi_5) rfl) rfl rfl (Nat.le_of_ble_eq_true rfl) (by decide) dX6_ahead_45 rfl (fun v fv gv hp => ?_)
        obtain ⟨rfl, rfl, rfl⟩ := hp
        obtain rfl := Option.some.inj hg
        exact ev_iret dX6_ahead_48 rfl ⟨rfl, rfl, rfl⟩
def g_X6_earned (x1 : Int32) (f : mj_I) : Option (Int32 × mj_I) :=
  if (f 4 0) = 0 then
   some (((-1000002 : Int32), f))
  else
   if (g_X6_within x1 (0 : Int32) (60 : Int32)) = 0 then
    some (((-1000001 : Int32), f))
   else
    (g_X6_tryHours x1 f).bind (fun o_2 =>
    some (((o_2 13 6), o_2)))
theorem r_X6_earned {x1 : Int32} {f : mj_I} {g : mj_L} {o : Int32 × mj_I} (hg : g_X6_earned x1 f = some o) : mj_Sp jX6_earned mx_S [.ref 0, .int x1] f g (fun v f' g' => some (.int o.1) = v ∧ o.2 = f' ∧ g = g') := by
  refine mj_sp 0 (by decide +kernel) rfl rfl (fun _ _ => Nat.le_of_ble_eq_true rfl) ?_
  show mj_Ev jX6_earned 0 [some (.ref 0), some (.int x1)] [] mx_S f g _
  unfold g_X6_earned at hg
  refine ev_aload_n (q := 1) dX6_earned_0 rfl rfl ?_
  refine ev_getfR (q := 4) mw_f_RX6_25 rfl rfl dX6_earned_1 rfl ?_
  refine ev_getfI (q := 7) mw_f_RX6_146 (by decide) (by decide) (mx_H mx_isH_4) dX6_earned_4 rfl ?_
  refine ev_if_ne (t := 13) (q := 10) dX6_earned_7 rfl rfl hg (fun hg => ?_) (fun hg => ?_)
  · refine ev_ldc (q := 12) mw_c_RX6_142 dX6_earned_10 rfl ?_
    obtain rfl := Option.some.inj hg
    exact ev_iret dX6_earned_12 rfl ⟨rfl, rfl, rfl⟩
  · refine ev_iload_n (q := 14) dX6_earned_13 rfl rfl ?_
    refine ev_iconst (v := 0) (q := 15) dX6_earned_14 mci_0 rfl ?_
    refine ev_bipush (v := 60) (q := 17) dX6_earned_15 mcb_60 rfl ?_
    refine ev_callS (q := 20) kX6_within mw_t_X6_within mw_m_RX6_69 (r_X6_within rfl) rfl rfl (Nat.le_of_ble_eq_true rfl) (by decide) dX6_earned_17 rfl (fun v fv gv hp => ?_)
    obtain ⟨rfl, rfl, rfl, hr_1⟩ := hp
    refine ev_if_ne (t := 26) (q := 23) dX6_earned_20 rfl rfl hg (fun hg => ?_) (fun hg => ?_)
    · refine ev_ldc (q := 25) mw_c_RX6_73 dX6_earned_23 rfl ?_
      obtain rfl := Option.some.inj hg
      exact ev_iret dX6_earned_25 rfl ⟨rfl, rfl, rfl⟩
    · refine ev_aload_n (q := 27) dX6_earned_26 rfl rfl ?_
      refine ev_iload_n (q := 28) dX6_earned_27 rfl rfl ?_
      obtain ⟨o_2, ho_2, hg⟩ := mj_bd hg
      refine ev_callV (q := 31) kX6_tryHours mw_i_X6_tryHours mw_s_X6_tryHours mw_m_RX6_210 rfl rfl (r_X6_tryHours ho_2) rfl rfl (Nat.le_of_ble_eq_true rfl) (by decide) dX6_earned_28 rfl (fun v fv gv hp => ?_)
      obtain ⟨rfl, rfl, rfl⟩ := hp
      refine ev_aload_n (q := 32) dX6_earned_31 rfl rfl ?_
      refine ev_getfR (q := 35) mw_f_RX6_29 rfl rfl dX6_earned_32 rfl ?_
      refine ev_getfI (q := 38) mw_f_RX6_158 (by decide) (by decide) (mx_H mx_isH_13) dX6_earned_35 rfl ?_
      obtain rfl := Option.some.inj hg
      exact ev_iret dX6_earned_38 rfl ⟨rfl, rfl, rfl⟩
def g_X6_knot_48 : Nat → Int32 → Int32 → Int32 → mj_I → Option (Int32 × mj_I)
  | 0, _, _, _, _ => none
  | n + 1, x1, x2, x3, f =>
    if x3 < x1 then
     (g_X2_passHour 13 f).bind (fun o_4 =>
     if (o_4 13 11) = 0 then
      g_X6_knot_48 n x1 x2 (x3 + (1 : Int32)) o_4
     else
      if x2 = 0 then
       some ((x3, o_4))
      else
       some (((o_4 13 11), o_4)))
    else
     some (((-1000000 : Int32), f))
theorem r_X6_knot_48 {g : mj_L} : ∀ (n : Nat) (x1 : Int32) (x2 : Int32) (x3 : Int32) (f : mj_I) (o : Int32 × mj_I), g_X6_knot_48 n x1 x2 x3 f = some o → mj_Ev jX6_knot 48 [some (.ref 0), some (.int x1), some (.int x2), some (.int x3)] [] mx_S f g (fun v f' g' => some (.int o.1) = v ∧ o.2 = f' ∧ g = g') := by
  intro n
  induction n with
  | zero =>
    intro x1 x2 x3 f o hg
    cases hg
  | succ n ih =>
    intro x1 x2 x3 f o hg
    unfold g_X6_knot_48 at hg
    refine ev_iload_n (q := 49) dX6_knot_48 rfl rfl ?_
    refine ev_iload_n (q := 50) dX6_knot_49 rfl rfl ?_
    refine ev_icmp_ge (t := 92) (q := 53) dX6_knot_50 rfl rfl hg (fun hg => ?_) (fun hg => ?_)
    · refine ev_aload_n (q := 54) dX6_knot_53 rfl rfl ?_
      refine ev_getfR (q := 57) mw_f_RX6_29 rfl rfl dX6_knot_54 rfl ?_
      obtain ⟨o_4, ho_4, hg⟩ := mj_bd hg
      refine ev_callV (q := 60) kX2_passHour mw_i_X2_passHour mw_s_X2_passHour mw_m_RX6_155 (mx_H mx_isH_13) rfl (r_X2_passHour mx_isH_13 ho_4) rfl rfl (Nat.le_of_ble_eq_true rfl) (by decide) dX6_knot_57 rfl (fun v fv gv hp => ?_)
      obtain ⟨rfl, rfl, rfl⟩ := hp
      refine ev_aload_n (q := 61) dX6_knot_60 rfl rfl ?_
      refine ev_getfR (q := 64) mw_f_RX6_29 rfl rfl dX6_knot_61 rfl ?_
      refine ev_getfI (q := 67) mw_f_RX6_213 (by decide) (by decide) (mx_H mx_isH_13) dX6_knot_64 rfl ?_
      refine ev_if_eq (t := 86) (q := 70) dX6_knot_67 rfl rfl hg (fun hg => ?_) (fun hg => ?_)
      · refine ev_iinc (v := 1) (q := 89) (loc' := [some (.ref _), some (.int _), some (.int _), some (.int _)]) dX6_knot_86 rfl (by decide) mci_1 rfl rfl ?_
        refine ev_goto (q := 48) dX6_knot_89 rfl ?_
        exact ih _ _ _ _ _ hg
      · refine ev_iload_n (q := 71) dX6_knot_70 rfl rfl ?_
        refine ev_if_ne (t := 78) (q := 74) dX6_knot_71 rfl rfl hg (fun hg => ?_) (fun hg => ?_)
        · refine ev_iload_n (q := 75) dX6_knot_74 rfl rfl ?_
          refine ev_goto (q := 85) dX6_knot_75 rfl ?_
          obtain rfl := Option.some.inj hg
          exact ev_iret dX6_knot_85 rfl ⟨rfl, rfl, rfl⟩
        · refine ev_aload_n (q := 79) dX6_knot_78 rfl rfl ?_
          refine ev_getfR (q := 82) mw_f_RX6_29 rfl rfl dX6_knot_79 rfl ?_
          refine ev_getfI (q := 85) mw_f_RX6_213 (by decide) (by decide) (mx_H mx_isH_13) dX6_knot_82 rfl ?_
          obtain rfl := Option.some.inj hg
          exact ev_iret dX6_knot_85 rfl ⟨rfl, rfl, rfl⟩
    · refine ev_ldc (q := 94) mw_c_RX6_216 dX6_knot_92 rfl ?_
      obtain rfl := Option.some.inj hg
      exact ev_iret dX6_knot_94 rfl ⟨rfl, rfl, rfl⟩
def g_X6_knot (x1 : Int32) (x2 : Int32) (f : mj_I) : Option (Int32 × mj_I) :=
  if (f 4 0) = 0 then
   some (((-1000002 : Int32), f))
  else
   if (g_X6_within x1 (1 : Int32) (60 : Int32)) = 0 then
    some (((-1000001 : Int32), f))
   else
    if (g_X6_within x2 (0 : Int32) (1 : Int32)) = 0 then
     some (((-1000001 : Int32), f))
    else
     (g_X2_become 13 4 f).bind (fun o_3 =>
     g_X6_knot_48 mj_fuel x1 x2 (0 : Int32) o_3)
theorem r_X6_knot {x1 : Int32} {x2 : Int32} {f : mj_I} {g : mj_L} {o : Int32 × mj_I} (hg : g_X6_knot x1 x2 f = some o) : mj_Sp jX6_knot mx_S [.ref 0, .int x1, .int x2] f g (fun v f' g' => some (.int o.1) = v ∧ o.2 = f' ∧ g = g') := by
  refine mj_sp 1 (by decide +kernel) rfl rfl (fun _ _ => Nat.le_of_ble_eq_true rfl) ?_
  show mj_Ev jX6_knot 0 [some (.ref 0), some (.int x1), some (.int x2), none] [] mx_S f g _
  unfold g_X6_knot at hg
  refine ev_aload_n (q := 1) dX6_knot_0 rfl rfl ?_
  refine ev_getfR (q := 4) mw_f_RX6_25 rfl rfl dX6_knot_1 rfl ?_
  refine ev_getfI (q := 7) mw_f_RX6_146 (by decide) (by decide) (mx_H mx_isH_4) dX6_knot_4 rfl ?_
  refine ev_if_ne (t := 13) (q := 10) dX6_knot_7 rfl rfl hg (fun hg => ?_) (fun hg => ?_)
  · refine ev_ldc (q := 12) mw_c_RX6_142 dX6_knot_10 rfl ?_
    obtain rfl := Option.some.inj hg
    exact ev_iret dX6_knot_12 rfl ⟨rfl, rfl, rfl⟩
  · refine ev_iload_n (q := 14) dX6_knot_13 rfl rfl ?_
    refine ev_iconst (v := 1) (q := 15) dX6_knot_14 mci_1 rfl ?_
    refine ev_bipush (v := 60) (q := 17) dX6_knot_15 mcb_60 rfl ?_
    refine ev_callS (q := 20) kX6_within mw_t_X6_within mw_m_RX6_69 (r_X6_within rfl) rfl rfl (Nat.le_of_ble_eq_true rfl) (by decide) dX6_knot_17 rfl (fun v fv gv hp => ?_)
    obtain ⟨rfl, rfl, rfl, hr_1⟩ := hp
    refine ev_if_eq (t := 32) (q := 23) dX6_knot_20 rfl rfl hg (fun hg => ?_) (fun hg => ?_)
    · refine ev_ldc (q := 34) mw_c_RX6_73 dX6_knot_32 rfl ?_
      obtain rfl := Option.some.inj hg
      exact ev_iret dX6_knot_34 rfl ⟨rfl, rfl, rfl⟩
    · refine ev_iload_n (q := 24) dX6_knot_23 rfl rfl ?_
      refine ev_iconst (v := 0) (q := 25) dX6_knot_24 mci_0 rfl ?_
      refine ev_iconst (v := 1) (q := 26) dX6_knot_25 mci_1 rfl ?_
      refine ev_callS (q := 29) kX6_within mw_t_X6_within mw_m_RX6_69 (r_X6_within rfl) rfl rfl (Nat.le_of_ble_eq_true rfl) (by decide) dX6_knot_26 rfl (fun v fv gv hp => ?_)
      obtain ⟨rfl, rfl, rfl, hr_2⟩ := hp
      refine ev_if_ne (t := 35) (q := 32) dX6_knot_29 rfl rfl hg (fun hg => ?_) (fun hg => ?_)
      · refine ev_ldc (q := 34) mw_c_RX6_73 dX6_knot_32 rfl ?_
        obtain rfl := Option.some.inj hg
        exact ev_iret dX6_knot_34 rfl ⟨rfl, rfl, rfl⟩
      · refine ev_aload_n (q := 36) dX6_knot_35 rfl rfl ?_
        refine ev_getfR (q := 39) mw_f_RX6_29 rfl rfl dX6_knot_36 rfl ?_
        refine ev_aload_n (q := 40) dX6_knot_39 rfl rfl ?_
        refine ev_getfR (q := 43) mw_f_RX6_25 rfl rfl dX6_knot_40 rfl ?_
        obtain ⟨o_3, ho_3, hg⟩ := mj_bd hg
        refine ev_callV (q := 46) kX2_become mw_i_X2_become mw_s_X2_become mw_m_RX6_132 (mx_H mx_isH_13) rfl (r_X2_become mx_isH_13 mx_isH_4 ho_3) rfl rfl (Nat.le_of_ble_eq_true rfl) (by decide) dX6_knot_43 rfl (fun v fv gv hp => ?_)
        obtain ⟨rfl, rfl, rfl⟩ := hp
        refine ev_iconst (v := 0) (q := 47) dX6_knot_46 mci_0 rfl ?_
        refine ev_istore_n (q := 48) (loc' := [some (.ref _), some (.int _), some (.int _), some (.int _)]) dX6_knot_47 (by decide) rfl rfl ?_
        exact r_X6_knot_48 mj_fuel _ _ _ _ _ hg
def g_X6_wetHay_55 : Nat → Int32 → Int32 → Int32 → Int32 → Int32 → mj_I → Option (Int32 × Int32 × mj_I)
  | 0, _, _, _, _, _, _ => none
  | n + 1, x1, x2, x3, x4, x5, f =>
    if x5 < x1 then
     (g_X2_passHour 13 f).bind (fun o_5 =>
     if x3 = (-1000000 : Int32) then
      if 0 < (o_5 13 12) then
       mj_lt ((x4 + (o_5 13 12))) (fun u_6 =>
       g_X6_wetHay_55 n x1 x2 x5 u_6 (x5 + (1 : Int32)) o_5)
      else
       mj_lt ((x4 + (o_5 13 12))) (fun u_7 =>
       g_X6_wetHay_55 n x1 x2 x3 u_7 (x5 + (1 : Int32)) o_5)
     else
      mj_lt ((x4 + (o_5 13 12))) (fun u_8 =>
      g_X6_wetHay_55 n x1 x2 x3 u_8 (x5 + (1 : Int32)) o_5))
    else
     some ((x3, x4, f))
theorem r_X6_wetHay_55 {g : mj_L} {post : Option Value → mj_I → mj_L → Prop} : ∀ (n : Nat) (x1 : Int32) (x2 : Int32) (x3 : Int32) (x4 : Int32) (x5 : Int32) (f : mj_I) (o : Int32 × Int32 × mj_I), g_X6_wetHay_55 n x1 x2 x3 x4 x5 f = some o → mj_Ev jX6_wetHay 105 [some (.ref 0), none, some (.int x2), some (.int o.1), some (.int o.2.1), none] [] mx_S o.2.2 g post → mj_Ev jX6_wetHay 55 [some (.ref 0), some (.int x1), some (.int x2), some (.int x3), some (.int x4), some (.int x5)] [] mx_S f g post := by
  intro n
  induction n with
  | zero =>
    intro x1 x2 x3 x4 x5 f o hg hk
    cases hg
  | succ n ih =>
    intro x1 x2 x3 x4 x5 f o hg hk
    unfold g_X6_wetHay_55 at hg
    refine ev_iload (q := 57) dX6_wetHay_55 rfl rfl ?_
    refine ev_iload_n (q := 58) dX6_wetHay_57 rfl rfl ?_
    refine ev_icmp_ge (t := 105) (q := 61) dX6_wetHay_58 rfl rfl hg (fun hg => ?_) (fun hg => ?_)
    · refine ev_aload_n (q := 62) dX6_wetHay_61 rfl rfl ?_
      refine ev_getfR (q := 65) mw_f_RX6_29 rfl rfl dX6_wetHay_62 rfl ?_
      obtain ⟨o_5, ho_5, hg⟩ := mj_bd hg
      refine ev_callV (q := 68) kX2_passHour mw_i_X2_passHour mw_s_X2_passHour mw_m_RX6_155 (mx_H mx_isH_13) rfl (r_X2_passHour mx_isH_13 ho_5) rfl rfl (Nat.le_of_ble_eq_true rfl) (by decide) dX6_wetHay_65 rfl (fun v fv gv hp => ?_)
      obtain ⟨rfl, rfl, rfl⟩ := hp
      refine ev_iload_n (q := 69) dX6_wetHay_68 rfl rfl ?_
      refine ev_ldc (q := 71) mw_c_RX6_216 dX6_wetHay_69 rfl ?_
      refine ev_icmp_ne (t := 87) (q := 74) dX6_wetHay_71 rfl rfl hg (fun hg => ?_) (fun hg => ?_)
      · refine ev_aload_n (q := 75) dX6_wetHay_74 rfl rfl ?_
        refine ev_getfR (q := 78) mw_f_RX6_29 rfl rfl dX6_wetHay_75 rfl ?_
        refine ev_getfI (q := 81) mw_f_RX6_217 (by decide) (by decide) (mx_H mx_isH_13) dX6_wetHay_78 rfl ?_
        refine ev_if_le (t := 87) (q := 84) dX6_wetHay_81 rfl rfl hg (fun hg => ?_) (fun hg => ?_)
        · refine ev_iload (q := 86) dX6_wetHay_84 rfl rfl ?_
          refine ev_istore_n (q := 87) (loc' := [some (.ref _), some (.int _), some (.int _), some (.int _), some (.int _), some (.int _)]) dX6_wetHay_86 (by decide) rfl rfl ?_
          refine ev_iload (q := 89) dX6_wetHay_87 rfl rfl ?_
          refine ev_aload_n (q := 90) dX6_wetHay_89 rfl rfl ?_
          refine ev_getfR (q := 93) mw_f_RX6_29 rfl rfl dX6_wetHay_90 rfl ?_
          refine ev_getfI (q := 96) mw_f_RX6_217 (by decide) (by decide) (mx_H mx_isH_13) dX6_wetHay_93 rfl ?_
          refine ev_iadd (q := 97) dX6_wetHay_96 rfl ?_
          refine ev_nmi (fun u_6 hu_6 => ?_)
          have hg := mj_lt_el hu_6 hg
          refine ev_istore (q := 99) (loc' := [some (.ref _), some (.int _), some (.int _), some (.int _), some (.int _), some (.int _)]) dX6_wetHay_97 (by decide) rfl rfl ?_
          refine ev_iinc (v := 1) (q := 102) (loc' := [some (.ref _), some (.int _), some (.int _), some (.int _), some (.int _), some (.int _)]) dX6_wetHay_99 rfl (by decide) mci_1 rfl rfl ?_
          refine ev_goto (q := 55) dX6_wetHay_102 rfl ?_
          exact ih _ _ _ _ _ _ _ hg hk
        · refine ev_iload (q := 89) dX6_wetHay_87 rfl rfl ?_
          refine ev_aload_n (q := 90) dX6_wetHay_89 rfl rfl ?_
          refine ev_getfR (q := 93) mw_f_RX6_29 rfl rfl dX6_wetHay_90 rfl ?_
          refine ev_getfI (q := 96) mw_f_RX6_217 (by decide) (by decide) (mx_H mx_isH_13) dX6_wetHay_93 rfl ?_
          refine ev_iadd (q := 97) dX6_wetHay_96 rfl ?_
          refine ev_nmi (fun u_7 hu_7 => ?_)
          have hg := mj_lt_el hu_7 hg
          refine ev_istore (q := 99) (loc' := [some (.ref _), some (.int _), some (.int _), some (.int _), some (.int _), some (.int _)]) dX6_wetHay_97 (by decide) rfl rfl ?_
          refine ev_iinc (v := 1) (q := 102) (loc' := [some (.ref _), some (.int _), some (.int _), some (.int _), some (.int _), some (.int _)]) dX6_wetHay_99 rfl (by decide) mci_1 rfl rfl ?_
          refine ev_goto (q := 55) dX6_wetHay_102 rfl ?_
          exact ih _ _ _ _ _ _ _ hg hk
      · refine ev_iload (q := 89) dX6_wetHay_87 rfl rfl ?_
        refine ev_aload_n (q := 90) dX6_wetHay_89 rfl rfl ?_
        refine ev_getfR (q := 93) mw_f_RX6_29 rfl rfl dX6_wetHay_90 rfl ?_
        refine ev_getfI (q := 96) mw_f_RX6_217 (by decide) (by decide) (mx_H mx_isH_13) dX6_wetHay_93 rfl ?_
        refine ev_iadd (q := 97) dX6_wetHay_96 rfl ?_
        refine ev_nmi (fun u_8 hu_8 => ?_)
        have hg := mj_lt_el hu_8 hg
        refine ev_istore (q := 99) (loc' := [some (.ref _), some (.int _), some (.int _), some (.int _), some (.int _), some (.int _)]) dX6_wetHay_97 (by decide) rfl rfl ?_
        refine ev_iinc (v := 1) (q := 102) (loc' := [some (.ref _), some (.int _), some (.int _), some (.int _), some (.int _), some (.int _)]) dX6_wetHay_99 rfl (by decide) mci_1 rfl rfl ?_
        refine ev_goto (q := 55) dX6_wetHay_102 rfl ?_
        exact ih _ _ _ _ _ _ _ hg hk
    · obtain rfl := Option.some.inj hg
      refine ev_wk (loc' := [some (.ref _), none, some (.int _), some (.int _), some (.int _), none]) ⟨rfl, rfl, rfl, rfl, trivial⟩ ?_
      exact hk
def g_X6_wetHay (x1 : Int32) (x2 : Int32) (f : mj_I) : Option (Int32 × mj_I) :=
  if (f 4 0) = 0 then
   some (((-1000002 : Int32), f))
  else
   if (g_X6_within x1 (1 : Int32) (60 : Int32)) = 0 then
    some (((-1000001 : Int32), f))
   else
    if (g_X6_within x2 (0 : Int32) (1 : Int32)) = 0 then
     some (((-1000001 : Int32), f))
    else
     (g_X2_become 13 4 f).bind (fun o_3 =>
     (g_X6_wetHay_55 mj_fuel x1 x2 (-1000000 : Int32) (0 : Int32) (0 : Int32) o_3).bind (fun q_4 =>
     if x2 = 0 then
      some ((q_4.1, q_4.2.2))
     else
      some (((q_4.2.1 * (q_4.2.2 4 2)), q_4.2.2))))
theorem r_X6_wetHay {x1 : Int32} {x2 : Int32} {f : mj_I} {g : mj_L} {o : Int32 × mj_I} (hg : g_X6_wetHay x1 x2 f = some o) : mj_Sp jX6_wetHay mx_S [.ref 0, .int x1, .int x2] f g (fun v f' g' => some (.int o.1) = v ∧ o.2 = f' ∧ g = g') := by
  refine mj_sp 3 (by decide +kernel) rfl rfl (fun _ _ => Nat.le_of_ble_eq_true rfl) ?_
  show mj_Ev jX6_wetHay 0 [some (.ref 0), some (.int x1), some (.int x2), none, none, none] [] mx_S f g _
  unfold g_X6_wetHay at hg
  refine ev_aload_n (q := 1) dX6_wetHay_0 rfl rfl ?_
  refine ev_getfR (q := 4) mw_f_RX6_25 rfl rfl dX6_wetHay_1 rfl ?_
  refine ev_getfI (q := 7) mw_f_RX6_146 (by decide) (by decide) (mx_H mx_isH_4) dX6_wetHay_4 rfl ?_
  refine ev_if_ne (t := 13) (q := 10) dX6_wetHay_7 rfl rfl hg (fun hg => ?_) (fun hg => ?_)
  · refine ev_ldc (q := 12) mw_c_RX6_142 dX6_wetHay_10 rfl ?_
    obtain rfl := Option.some.inj hg
    exact ev_iret dX6_wetHay_12 rfl ⟨rfl, rfl, rfl⟩
  · refine ev_iload_n (q := 14) dX6_wetHay_13 rfl rfl ?_
    refine ev_iconst (v := 1) (q := 15) dX6_wetHay_14 mci_1 rfl ?_
    refine ev_bipush (v := 60) (q := 17) dX6_wetHay_15 mcb_60 rfl ?_
    refine ev_callS (q := 20) kX6_within mw_t_X6_within mw_m_RX6_69 (r_X6_within rfl) rfl rfl (Nat.le_of_ble_eq_true rfl) (by decide) dX6_wetHay_17 rfl (fun v fv gv hp => ?_)
    obtain ⟨rfl, rfl, rfl, hr_1⟩ := hp
    refine ev_if_eq (t := 32) (q := 23) dX6_wetHay_20 rfl rfl hg (fun hg => ?_) (fun hg => ?_)
    · refine ev_ldc (q := 34) mw_c_RX6_73 dX6_wetHay_32 rfl ?_
      obtain rfl := Option.some.inj hg
      exact ev_iret dX6_wetHay_34 rfl ⟨rfl, rfl, rfl⟩
    · refine ev_iload_n (q := 24) dX6_wetHay_23 rfl rfl ?_
      refine ev_iconst (v := 0) (q := 25) dX6_wetHay_24 mci_0 rfl ?_
      refine ev_iconst (v := 1) (q := 26) dX6_wetHay_25 mci_1 rfl ?_
      refine ev_callS (q := 29) kX6_within mw_t_X6_within mw_m_RX6_69 (r_X6_within rfl) rfl rfl (Nat.le_of_ble_eq_true rfl) (by decide) dX6_wetHay_26 rfl (fun v fv gv hp => ?_)
      obtain ⟨rfl, rfl, rfl, hr_2⟩ := hp
      refine ev_if_ne (t := 35) (q := 32) dX6_wetHay_29 rfl rfl hg (fun hg => ?_) (fun hg => ?_)
      · refine ev_ldc (q := 34) mw_c_RX6_73 dX6_wetHay_32 rfl ?_
        obtain rfl := Option.some.inj hg
        exact ev_iret dX6_wetHay_34 rfl ⟨rfl, rfl, rfl⟩
      · refine ev_ldc (q := 37) mw_c_RX6_216 dX6_wetHay_35 rfl ?_
        refine ev_istore_n (q := 38) (loc' := [some (.ref _), some (.int _), some (.int _), some (.int _), none, none]) dX6_wetHay_37 (by decide) rfl rfl ?_
        refine ev_iconst (v := 0) (q := 39) dX6_wetHay_38 mci_0 rfl ?_
        refine ev_istore (q := 41) (loc' := [some (.ref _), some (.int _), some (.int _), some (.int _), some (.int _), none]) dX6_wetHay_39 (by decide) rfl rfl ?_
        refine ev_aload_n (q := 42) dX6_wetHay_41 rfl rfl ?_
        refine ev_getfR (q := 45) mw_f_RX6_29 rfl rfl dX6_wetHay_42 rfl ?_
        refine ev_aload_n (q := 46) dX6_wetHay_45 rfl rfl ?_
        refine ev_getfR (q := 49) mw_f_RX6_25 rfl rfl dX6_wetHay_46 rfl ?_
        obtain ⟨o_3, ho_3, hg⟩ := mj_bd hg
        refine ev_callV (q := 52) kX2_become mw_i_X2_become mw_s_X2_become mw_m_RX6_132 (mx_H mx_isH_13) rfl (r_X2_become mx_isH_13 mx_isH_4 ho_3) rfl rfl (Nat.le_of_ble_eq_true rfl) (by decide) dX6_wetHay_49 rfl (fun v fv gv hp => ?_)
        obtain ⟨rfl, rfl, rfl⟩ := hp
        refine ev_iconst (v := 0) (q := 53) dX6_wetHay_52 mci_0 rfl ?_
        refine ev_istore (q := 55) (loc' := [some (.ref _), some (.int _), some (.int _), some (.int _), some (.int _), some (.int _)]) dX6_wetHay_53 (by decide) rfl rfl ?_
        obtain ⟨q_4, hq_4, hg⟩ := mj_bd hg
        refine r_X6_wetHay_55 mj_fuel _ _ _ _ _ _ _ hq_4 ?_
        refine ev_iload_n (q := 106) dX6_wetHay_105 rfl rfl ?_
        refine ev_if_ne (t := 113) (q := 109) dX6_wetHay_106 rfl rfl hg (fun hg => ?_) (fun hg => ?_)
        · refine ev_iload_n (q := 110) dX6_wetHay_109 rfl rfl ?_
          refine ev_goto (q := 123) dX6_wetHay_110 rfl ?_
          obtain rfl := Option.some.inj hg
          exact ev_iret dX6_wetHay_123 rfl ⟨rfl, rfl, rfl⟩
        · refine ev_iload (q := 115) dX6_wetHay_113 rfl rfl ?_
          refine ev_aload_n (q := 116) dX6_wetHay_115 rfl rfl ?_
          refine ev_getfR (q := 119) mw_f_RX6_25 rfl rfl dX6_wetHay_116 rfl ?_
          refine ev_getfI (q := 122) mw_f_RX6_220 (by decide) (by decide) (mx_H mx_isH_4) dX6_wetHay_119 rfl ?_
          refine ev_imul (q := 123) dX6_wetHay_122 rfl ?_
          obtain rfl := Option.some.inj hg
          exact ev_iret dX6_wetHay_123 rfl ⟨rfl, rfl, rfl⟩
def g_X6_spread_6 : Nat → Nat → Int32 → Int32 → Int32 → Int32 → mj_I → Option (Int32)
  | 0, _, _, _, _, _, _ => none
  | n + 1, a1, x2, x3, x4, x5, f =>
    if x5 < (32 : Int32) then
     if ((mj_ushr x2 x5) &&& (1 : Int32)) = 0 then
      g_X6_spread_6 n a1 x2 x3 x4 (x5 + (1 : Int32)) f
     else
      (g_X2_blowing 4 (0 : Int32) x3 f).bind (fun o_2 =>
      mj_lt ((x4 ||| ((1 : Int32) <<< ((g_X1_driftedFrom a1 x5 o_2 f) &&& 31)))) (fun u_4 =>
      if (g_X1_canRise a1 f) = 0 then
       g_X6_spread_6 n a1 x2 x3 u_4 (x5 + (1 : Int32)) f
      else
       (g_X2_blowing 4 (1 : Int32) x3 f).bind (fun o_6 =>
       mj_lt ((u_4 ||| ((1 : Int32) <<< ((g_X1_driftedFrom a1 x5 o_6 f) &&& 31)))) (fun u_8 =>
       g_X6_spread_6 n a1 x2 x3 u_8 (x5 + (1 : Int32)) f))))
    else
     some (x4)
theorem r_X6_spread_6 {f : mj_I} {g : mj_L} {post : Option Value → mj_I → mj_L → Prop} : ∀ (n : Nat) (a1 : Nat) (x2 : Int32) (x3 : Int32) (x4 : Int32) (x5 : Int32) (o : Int32), mx_isC a1 → g_X6_spread_6 n a1 x2 x3 x4 x5 f = some o → mj_Ev jX6_spread 79 [none, none, none, none, some (.int o), none] [] mx_S f g post → mj_Ev jX6_spread 6 [some (.ref 0), some (.ref a1), some (.int x2), some (.int x3), some (.int x4), some (.int x5)] [] mx_S f g post := by
  intro n
  induction n with
  | zero =>
    intro a1 x2 x3 x4 x5 o h1 hg hk
    cases hg
  | succ n ih =>
    intro a1 x2 x3 x4 x5 o h1 hg hk
    unfold g_X6_spread_6 at hg
    refine ev_iload (q := 8) dX6_spread_6 rfl rfl ?_
    refine ev_bipush (v := 32) (q := 10) dX6_spread_8 mcb_32 rfl ?_
    refine ev_icmp_ge (t := 79) (q := 13) dX6_spread_10 rfl rfl hg (fun hg => ?_) (fun hg => ?_)
    · refine ev_iload_n (q := 14) dX6_spread_13 rfl rfl ?_
      refine ev_iload (q := 16) dX6_spread_14 rfl rfl ?_
      refine ev_iushr (q := 17) dX6_spread_16 rfl ?_
      refine ev_iconst (v := 1) (q := 18) dX6_spread_17 mci_1 rfl ?_
      refine ev_iand (q := 19) dX6_spread_18 rfl ?_
      refine ev_if_eq (t := 73) (q := 22) dX6_spread_19 rfl rfl hg (fun hg => ?_) (fun hg => ?_)
      · refine ev_iinc (v := 1) (q := 76) (loc' := [some (.ref _), some (.ref _), some (.int _), some (.int _), some (.int _), some (.int _)]) dX6_spread_73 rfl (by decide) mci_1 rfl rfl ?_
        refine ev_goto (q := 6) dX6_spread_76 rfl ?_
        exact ih _ _ _ _ _ _ h1 hg hk
      · refine ev_iload (q := 24) dX6_spread_22 rfl rfl ?_
        refine ev_iconst (v := 1) (q := 25) dX6_spread_24 mci_1 rfl ?_
        refine ev_aload_n (q := 26) dX6_spread_25 rfl rfl ?_
        refine ev_iload (q := 28) dX6_spread_26 rfl rfl ?_
        refine ev_aload_n (q := 29) dX6_spread_28 rfl rfl ?_
        refine ev_getfR (q := 32) mw_f_RX6_25 rfl rfl dX6_spread_29 rfl ?_
        refine ev_iconst (v := 0) (q := 33) dX6_spread_32 mci_0 rfl ?_
        refine ev_iload_n (q := 34) dX6_spread_33 rfl rfl ?_
        obtain ⟨o_2, ho_2, hg⟩ := mj_bd hg
        refine ev_callV (q := 37) kX2_blowing mw_i_X2_blowing mw_s_X2_blowing mw_m_RX6_207 (mx_H mx_isH_4) rfl (r_X2_blowing mx_isH_4 ho_2) rfl rfl (Nat.le_of_ble_eq_true rfl) (by decide) dX6_spread_34 rfl (fun v fv gv hp => ?_)
        obtain ⟨rfl, rfl, rfl⟩ := hp
        refine ev_callV (q := 40) kX1_driftedFrom mw_i_X1_driftedFrom mw_s_X1_driftedFrom mw_m_RX6_295 (mx_C h1) rfl (r_X1_driftedFrom h1 rfl) rfl rfl (Nat.le_of_ble_eq_true rfl) (by decide) dX6_spread_37 rfl (fun v fv gv hp => ?_)
        obtain ⟨rfl, rfl, rfl⟩ := hp
        refine ev_ishl (q := 41) dX6_spread_40 rfl ?_
        refine ev_ior (q := 42) dX6_spread_41 rfl ?_
        refine ev_nmi (fun u_4 hu_4 => ?_)
        have hg := mj_lt_el hu_4 hg
        refine ev_istore (q := 44) (loc' := [some (.ref _), some (.ref _), some (.int _), some (.int _), some (.int _), some (.int _)]) dX6_spread_42 (by decide) rfl rfl ?_
        refine ev_aload_n (q := 45) dX6_spread_44 rfl rfl ?_
        refine ev_callV (q := 48) kX1_canRise mw_i_X1_canRise mw_s_X1_canRise mw_m_RX6_171 (mx_C h1) rfl (r_X1_canRise h1 rfl) rfl rfl (Nat.le_of_ble_eq_true rfl) (by decide) dX6_spread_45 rfl (fun v fv gv hp => ?_)
        obtain ⟨rfl, rfl, rfl, hr_5⟩ := hp
        refine ev_if_eq (t := 73) (q := 51) dX6_spread_48 rfl rfl hg (fun hg => ?_) (fun hg => ?_)
        · refine ev_iinc (v := 1) (q := 76) (loc' := [some (.ref _), some (.ref _), some (.int _), some (.int _), some (.int _), some (.int _)]) dX6_spread_73 rfl (by decide) mci_1 rfl rfl ?_
          refine ev_goto (q := 6) dX6_spread_76 rfl ?_
          exact ih _ _ _ _ _ _ h1 hg hk
        · refine ev_iload (q := 53) dX6_spread_51 rfl rfl ?_
          refine ev_iconst (v := 1) (q := 54) dX6_spread_53 mci_1 rfl ?_
          refine ev_aload_n (q := 55) dX6_spread_54 rfl rfl ?_
          refine ev_iload (q := 57) dX6_spread_55 rfl rfl ?_
          refine ev_aload_n (q := 58) dX6_spread_57 rfl rfl ?_
          refine ev_getfR (q := 61) mw_f_RX6_25 rfl rfl dX6_spread_58 rfl ?_
          refine ev_iconst (v := 1) (q := 62) dX6_spread_61 mci_1 rfl ?_
          refine ev_iload_n (q := 63) dX6_spread_62 rfl rfl ?_
          obtain ⟨o_6, ho_6, hg⟩ := mj_bd hg
          refine ev_callV (q := 66) kX2_blowing mw_i_X2_blowing mw_s_X2_blowing mw_m_RX6_207 (mx_H mx_isH_4) rfl (r_X2_blowing mx_isH_4 ho_6) rfl rfl (Nat.le_of_ble_eq_true rfl) (by decide) dX6_spread_63 rfl (fun v fv gv hp => ?_)
          obtain ⟨rfl, rfl, rfl⟩ := hp
          refine ev_callV (q := 69) kX1_driftedFrom mw_i_X1_driftedFrom mw_s_X1_driftedFrom mw_m_RX6_295 (mx_C h1) rfl (r_X1_driftedFrom h1 rfl) rfl rfl (Nat.le_of_ble_eq_true rfl) (by decide) dX6_spread_66 rfl (fun v fv gv hp => ?_)
          obtain ⟨rfl, rfl, rfl⟩ := hp
          refine ev_ishl (q := 70) dX6_spread_69 rfl ?_
          refine ev_ior (q := 71) dX6_spread_70 rfl ?_
          refine ev_nmi (fun u_8 hu_8 => ?_)
          have hg := mj_lt_el hu_8 hg
          refine ev_istore (q := 73) (loc' := [some (.ref _), some (.ref _), some (.int _), some (.int _), some (.int _), some (.int _)]) dX6_spread_71 (by decide) rfl rfl ?_
          refine ev_iinc (v := 1) (q := 76) (loc' := [some (.ref _), some (.ref _), some (.int _), some (.int _), some (.int _), some (.int _)]) dX6_spread_73 rfl (by decide) mci_1 rfl rfl ?_
          refine ev_goto (q := 6) dX6_spread_76 rfl ?_
          exact ih _ _ _ _ _ _ h1 hg hk
    · obtain rfl := Option.some.inj hg
      refine ev_wk (loc' := [none, none, none, none, some (.int _), none]) ⟨rfl, trivial⟩ ?_
      exact hk
def g_X6_spread (a1 : Nat) (x2 : Int32) (x3 : Int32) (f : mj_I) : Option (Int32) :=
  (g_X6_spread_6 mj_fuel a1 x2 x3 (0 : Int32) (0 : Int32) f).bind (fun q_1 =>
  some (q_1))
theorem r_X6_spread {a1 : Nat} {x2 : Int32} {x3 : Int32} {f : mj_I} {g : mj_L} {o : Int32} (h1 : mx_isC a1) (hg : g_X6_spread a1 x2 x3 f = some o) : mj_Sp jX6_spread mx_S [.ref 0, .ref a1, .int x2, .int x3] f g (fun v f' g' => some (.int o) = v ∧ f = f' ∧ g = g') := by
  refine mj_sp 2 (by decide +kernel) rfl rfl (fun _ _ => Nat.le_of_ble_eq_true rfl) ?_
  show mj_Ev jX6_spread 0 [some (.ref 0), some (.ref a1), some (.int x2), some (.int x3), none, none] [] mx_S f g _
  unfold g_X6_spread at hg
  refine ev_iconst (v := 0) (q := 1) dX6_spread_0 mci_0 rfl ?_
  refine ev_istore (q := 3) (loc' := [some (.ref _), some (.ref _), some (.int _), some (.int _), some (.int _), none]) dX6_spread_1 (by decide) rfl rfl ?_
  refine ev_iconst (v := 0) (q := 4) dX6_spread_3 mci_0 rfl ?_
  refine ev_istore (q := 6) (loc' := [some (.ref _), some (.ref _), some (.int _), some (.int _), some (.int _), some (.int _)]) dX6_spread_4 (by decide) rfl rfl ?_
  obtain ⟨q_1, hq_1, hg⟩ := mj_bd hg
  refine r_X6_spread_6 mj_fuel _ _ _ _ _ _ h1 hq_1 ?_
  refine ev_iload (q := 81) dX6_spread_79 rfl rfl ?_
  obtain rfl := Option.some.inj hg
  exact ev_iret dX6_spread_81 rfl ⟨rfl, rfl, rfl⟩
