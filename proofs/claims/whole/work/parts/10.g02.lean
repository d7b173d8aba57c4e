def g_X2_cloudsLeft_4 : Nat → Nat → Int32 → Int32 → mj_I → Option (Int32)
  | 0, _, _, _, _ => none
  | n + 1, a0, x1, x2, f =>
    if x2 < (f a0 4) then
     if mj_in x2 5 = true then
     if (f (a0 + 4 + (ix x2)) 4) = 0 then
       mj_lt ((x1 + (g_X6_bit (1 : Int32)))) (fun u_4 =>
       g_X2_cloudsLeft_4 n a0 u_4 (x2 + (1 : Int32)) f)
      else
       mj_lt ((x1 + (g_X6_bit (0 : Int32)))) (fun u_6 =>
       g_X2_cloudsLeft_4 n a0 u_6 (x2 + (1 : Int32)) f)
     else none
    else
     some (x1)
theorem r_X2_cloudsLeft_4 {f : mj_I} {g : mj_L} {post : Option Value → mj_I → mj_L → Prop} : ∀ (n : Nat) (a0 : Nat) (x1 : Int32) (x2 : Int32) (o : Int32), mx_isH a0 → g_X2_cloudsLeft_4 n a0 x1 x2 f = some o → mj_Ev jX2_cloudsLeft 41 [none, some (.int o), none] [] mx_S f g post → mj_Ev jX2_cloudsLeft 4 [some (.ref a0), some (.int x1), some (.int x2)] [] mx_S f g post := by
  intro n
  induction n with
  | zero =>
    intro a0 x1 x2 o h0 hg hk
    cases hg
  | succ n ih =>
    intro a0 x1 x2 o h0 hg hk
    unfold g_X2_cloudsLeft_4 at hg
    refine ev_iload_n (q := 5) dX2_cloudsLeft_4 rfl rfl ?_
    refine ev_aload_n (q := 6) dX2_cloudsLeft_5 rfl rfl ?_
    refine ev_getfI (q := 9) mw_f_RX2_25 (by decide) (by decide) (mx_H h0) dX2_cloudsLeft_6 rfl ?_
    refine ev_icmp_ge (t := 41) (q := 12) dX2_cloudsLeft_9 rfl rfl hg (fun hg => ?_) (fun hg => ?_)
    · refine ev_iload_n (q := 13) dX2_cloudsLeft_12 rfl rfl ?_
      refine ev_aload_n (q := 14) dX2_cloudsLeft_13 rfl rfl ?_
      refine ev_getfR (q := 17) mw_f_RX2_46 (mx_H h0) rfl dX2_cloudsLeft_14 rfl ?_
      refine ev_iload_n (q := 18) dX2_cloudsLeft_17 rfl rfl ?_
      obtain ⟨hi_2, hg⟩ := mj_gd hg
      refine ev_aald (kd := 0) (q := 19) (mx_HC h0) (by decide) hi_2 (mx_cr_get hi_2) dX2_cloudsLeft_18 rfl ?_
      refine ev_getfI (q := 22) mw_f_RX2_67 (by decide) (by decide) (mx_C (mx_isC_of h0 hi_2)) dX2_cloudsLeft_19 rfl ?_
      refine ev_if_ne (t := 29) (q := 25) dX2_cloudsLeft_22 rfl rfl hg (fun hg => ?_) (fun hg => ?_)
      · refine ev_iconst (v := 1) (q := 26) dX2_cloudsLeft_25 mci_1 rfl ?_
        refine ev_goto (q := 30) dX2_cloudsLeft_26 rfl ?_
        refine ev_callN (q := 33) kX6_bit mw_t_X6_bit mw_n_RX2_73 (r_X6_bit rfl) rfl rfl (Nat.le_of_ble_eq_true rfl) (by decide) dX2_cloudsLeft_30 rfl (fun v fv gv hp => ?_)
        obtain ⟨rfl, rfl, rfl⟩ := hp
        refine ev_iadd (q := 34) dX2_cloudsLeft_33 rfl ?_
        refine ev_nmi (fun u_4 hu_4 => ?_)
        have hg := mj_lt_el hu_4 hg
        refine ev_istore_n (q := 35) (loc' := [some (.ref _), some (.int _), some (.int _)]) dX2_cloudsLeft_34 (by decide) rfl rfl ?_
        refine ev_iinc (v := 1) (q := 38) (loc' := [some (.ref _), some (.int _), some (.int _)]) dX2_cloudsLeft_35 rfl (by decide) mci_1 rfl rfl ?_
        refine ev_goto (q := 4) dX2_cloudsLeft_38 rfl ?_
        exact ih _ _ _ _ h0 hg hk
      · refine ev_iconst (v := 0) (q := 30) dX2_cloudsLeft_29 mci_0 rfl ?_
        refine ev_callN (q := 33) kX6_bit mw_t_X6_bit mw_n_RX2_73 (r_X6_bit rfl) rfl rfl (Nat.le_of_ble_eq_true rfl) (by decide) dX2_cloudsLeft_30 rfl (fun v fv gv hp => ?_)
        obtain ⟨rfl, rfl, rfl⟩ := hp
        refine ev_iadd (q := 34) dX2_cloudsLeft_33 rfl ?_
        refine ev_nmi (fun u_6 hu_6 => ?_)
        have hg := mj_lt_el hu_6 hg
        refine ev_istore_n (q := 35) (loc' := [some (.ref _), some (.int _), some (.int _)]) dX2_cloudsLeft_34 (by decide) rfl rfl ?_
        refine ev_iinc (v := 1) (q := 38) (loc' := [some (.ref _), some (.int _), some (.int _)]) dX2_cloudsLeft_35 rfl (by decide) mci_1 rfl rfl ?_
        refine ev_goto (q := 4) dX2_cloudsLeft_38 rfl ?_
        exact ih _ _ _ _ h0 hg hk
    · obtain rfl := Option.some.inj hg
      refine ev_wk (loc' := [none, some (.int _), none]) ⟨rfl, trivial⟩ ?_
      exact hk
def g_X2_cloudsLeft (a0 : Nat) (f : mj_I) : Option (Int32) :=
  (g_X2_cloudsLeft_4 mj_fuel a0 (0 : Int32) (0 : Int32) f).bind (fun q_1 =>
  some (q_1))
theorem r_X2_cloudsLeft {a0 : Nat} {f : mj_I} {g : mj_L} {o : Int32} (h0 : mx_isH a0) (hg : g_X2_cloudsLeft a0 f = some o) : mj_Sp jX2_cloudsLeft mx_S [.ref a0] f g (fun v f' g' => some (.int o) = v ∧ f = f' ∧ g = g') := by
  refine mj_sp 2 (by decide +kernel) rfl rfl (fun _ _ => Nat.le_of_ble_eq_true rfl) ?_
  show mj_Ev jX2_cloudsLeft 0 [some (.ref a0), none, none] [] mx_S f g _
  unfold g_X2_cloudsLeft at hg
  refine ev_iconst (v := 0) (q := 1) dX2_cloudsLeft_0 mci_0 rfl ?_
  refine ev_istore_n (q := 2) (loc' := [some (.ref _), some (.int _), none]) dX2_cloudsLeft_1 (by decide) rfl rfl ?_
  refine ev_iconst (v := 0) (q := 3) dX2_cloudsLeft_2 mci_0 rfl ?_
  refine ev_istore_n (q := 4) (loc' := [some (.ref _), some (.int _), some (.int _)]) dX2_cloudsLeft_3 (by decide) rfl rfl ?_
  obtain ⟨q_1, hq_1, hg⟩ := mj_bd hg
  refine r_X2_cloudsLeft_4 mj_fuel _ _ _ _ h0 hq_1 ?_
  refine ev_iload_n (q := 42) dX2_cloudsLeft_41 rfl rfl ?_
  obtain rfl := Option.some.inj hg
  exact ev_iret dX2_cloudsLeft_42 rfl ⟨rfl, rfl, rfl⟩
def g_X2_driftOne (a0 : Nat) (a1 : Nat) (x2 : Int32) (f : mj_I) : Option (mj_I) :=
  (g_X2_blowing a0 (f a1 2) x2 f).bind (fun o_1 =>
  mj_lt (mj_wr f a1 1 (g_X1_driftedFrom a1 (f a1 1) o_1 f)) (fun f_3 =>
  some (f_3)))
theorem r_X2_driftOne {a0 : Nat} {a1 : Nat} {x2 : Int32} {f : mj_I} {g : mj_L} {o : mj_I} (h0 : mx_isH a0) (h1 : mx_isC a1) (hg : g_X2_driftOne a0 a1 x2 f = some o) : mj_Sp jX2_driftOne mx_S [.ref a0, .ref a1, .int x2] f g (fun v f' g' => none = v ∧ o = f' ∧ g = g') := by
  refine mj_sp 0 (by decide +kernel) rfl rfl (fun _ _ => Nat.le_of_ble_eq_true rfl) ?_
  show mj_Ev jX2_driftOne 0 [some (.ref a0), some (.ref a1), some (.int x2)] [] mx_S f g _
  unfold g_X2_driftOne at hg
  refine ev_aload_n (q := 1) dX2_driftOne_0 rfl rfl ?_
  refine ev_aload_n (q := 2) dX2_driftOne_1 rfl rfl ?_
  refine ev_aload_n (q := 3) dX2_driftOne_2 rfl rfl ?_
  refine ev_getfI (q := 6) mw_f_RX2_70 (by decide) (by decide) (mx_C h1) dX2_driftOne_3 rfl ?_
  refine ev_aload_n (q := 7) dX2_driftOne_6 rfl rfl ?_
  refine ev_aload_n (q := 8) dX2_driftOne_7 rfl rfl ?_
  refine ev_getfI (q := 11) mw_f_RX2_100 (by decide) (by decide) (mx_C h1) dX2_driftOne_8 rfl ?_
  refine ev_iload_n (q := 12) dX2_driftOne_11 rfl rfl ?_
  obtain ⟨o_1, ho_1, hg⟩ := mj_bd hg
  refine ev_callV (q := 15) kX2_blowing mw_i_X2_blowing mw_s_X2_blowing mw_m_RX2_103 (mx_H h0) rfl (r_X2_blowing h0 ho_1) rfl rfl (Nat.le_of_ble_eq_true rfl) (by decide) dX2_driftOne_12 rfl (fun v fv gv hp => ?_)
  obtain ⟨rfl, rfl, rfl⟩ := hp
  refine ev_callV (q := 18) kX1_driftedFrom mw_i_X1_driftedFrom mw_s_X1_driftedFrom mw_m_RX2_107 (mx_C h1) rfl (r_X1_driftedFrom h1 rfl) rfl rfl (Nat.le_of_ble_eq_true rfl) (by decide) dX2_driftOne_15 rfl (fun v fv gv hp => ?_)
  obtain ⟨rfl, rfl, rfl⟩ := hp
  refine ev_putfI (q := 21) mw_f_RX2_70 (mx_C h1) dX2_driftOne_18 rfl ?_
  refine ev_nmf (fun f_3 hf_3 => ?_)
  have hg := mj_lt_el hf_3 hg
  obtain rfl := Option.some.inj hg
  exact ev_vret dX2_driftOne_21 rfl ⟨rfl, rfl, rfl⟩
def g_X2_driftAll_2 : Nat → Nat → Int32 → mj_I → Option (mj_I)
  | 0, _, _, _ => none
  | n + 1, a0, x1, f =>
    if x1 < (f a0 4) then
     if mj_in x1 5 = true then
     if (f (a0 + 4 + (ix x1)) 4) = 0 then
       if mj_in x1 5 = true then
       (g_X2_driftOne a0 (a0 + 4 + (ix x1)) (f a0 5) f).bind (fun o_4 =>
        g_X2_driftAll_2 n a0 (x1 + (1 : Int32)) o_4)
       else none
      else
       g_X2_driftAll_2 n a0 (x1 + (1 : Int32)) f
     else none
    else
     some (f)
theorem r_X2_driftAll_2 {g : mj_L} {post : Option Value → mj_I → mj_L → Prop} : ∀ (n : Nat) (a0 : Nat) (x1 : Int32) (f : mj_I) (o : mj_I), mx_isH a0 → g_X2_driftAll_2 n a0 x1 f = some o → mj_Ev jX2_driftAll 42 [none, none] [] mx_S o g post → mj_Ev jX2_driftAll 2 [some (.ref a0), some (.int x1)] [] mx_S f g post := by
  intro n
  induction n with
  | zero =>
    intro a0 x1 f o h0 hg hk
    cases hg
  | succ n ih =>
    intro a0 x1 f o h0 hg hk
    unfold g_X2_driftAll_2 at hg
    refine ev_iload_n (q := 3) dX2_driftAll_2 rfl rfl ?_
    refine ev_aload_n (q := 4) dX2_driftAll_3 rfl rfl ?_
    refine ev_getfI (q := 7) mw_f_RX2_25 (by decide) (by decide) (mx_H h0) dX2_driftAll_4 rfl ?_
    refine ev_icmp_ge (t := 42) (q := 10) dX2_driftAll_7 rfl rfl hg (fun hg => ?_) (fun hg => ?_)
    · refine ev_aload_n (q := 11) dX2_driftAll_10 rfl rfl ?_
      refine ev_getfR (q := 14) mw_f_RX2_46 (mx_H h0) rfl dX2_driftAll_11 rfl ?_
      refine ev_iload_n (q := 15) dX2_driftAll_14 rfl rfl ?_
      obtain ⟨hi_2, hg⟩ := mj_gd hg
      refine ev_aald (kd := 0) (q := 16) (mx_HC h0) (by decide) hi_2 (mx_cr_get hi_2) dX2_driftAll_15 rfl ?_
      refine ev_getfI (q := 19) mw_f_RX2_67 (by decide) (by decide) (mx_C (mx_isC_of h0 hi_2)) dX2_driftAll_16 rfl ?_
      refine ev_if_ne (t := 36) (q := 22) dX2_driftAll_19 rfl rfl hg (fun hg => ?_) (fun hg => ?_)
      · refine ev_aload_n (q := 23) dX2_driftAll_22 rfl rfl ?_
        refine ev_aload_n (q := 24) dX2_driftAll_23 rfl rfl ?_
        refine ev_getfR (q := 27) mw_f_RX2_46 (mx_H h0) rfl dX2_driftAll_24 rfl ?_
        refine ev_iload_n (q := 28) dX2_driftAll_27 rfl rfl ?_
        obtain ⟨hi_3, hg⟩ := mj_gd hg
        refine ev_aald (kd := 0) (q := 29) (mx_HC h0) (by decide) hi_3 (mx_cr_get hi_3) dX2_driftAll_28 rfl ?_
        refine ev_aload_n (q := 30) dX2_driftAll_29 rfl rfl ?_
        refine ev_getfI (q := 33) mw_f_RX2_28 (by decide) (by decide) (mx_H h0) dX2_driftAll_30 rfl ?_
        obtain ⟨o_4, ho_4, hg⟩ := mj_bd hg
        refine ev_callV (q := 36) kX2_driftOne mw_i_X2_driftOne mw_s_X2_driftOne mw_m_RX2_89 (mx_H h0) rfl (r_X2_driftOne h0 (mx_isC_of h0 hi_3) ho_4) rfl rfl (Nat.le_of_ble_eq_true rfl) (by decide) dX2_driftAll_33 rfl (fun v fv gv hp => ?_)
        obtain ⟨rfl, rfl, rfl⟩ := hp
        refine ev_iinc (v := 1) (q := 39) (loc' := [some (.ref _), some (.int _)]) dX2_driftAll_36 rfl (by decide) mci_1 rfl rfl ?_
        refine ev_goto (q := 2) dX2_driftAll_39 rfl ?_
        exact ih _ _ _ _ h0 hg hk
      · refine ev_iinc (v := 1) (q := 39) (loc' := [some (.ref _), some (.int _)]) dX2_driftAll_36 rfl (by decide) mci_1 rfl rfl ?_
        refine ev_goto (q := 2) dX2_driftAll_39 rfl ?_
        exact ih _ _ _ _ h0 hg hk
    · obtain rfl := Option.some.inj hg
      refine ev_wk (loc' := [none, none]) trivial ?_
      exact hk
def g_X2_driftAll (a0 : Nat) (f : mj_I) : Option (mj_I) :=
  (g_X2_driftAll_2 mj_fuel a0 (0 : Int32) f).bind (fun q_1 =>
  some (q_1))
theorem r_X2_driftAll {a0 : Nat} {f : mj_I} {g : mj_L} {o : mj_I} (h0 : mx_isH a0) (hg : g_X2_driftAll a0 f = some o) : mj_Sp jX2_driftAll mx_S [.ref a0] f g (fun v f' g' => none = v ∧ o = f' ∧ g = g') := by
  refine mj_sp 1 (by decide +kernel) rfl rfl (fun _ _ => Nat.le_of_ble_eq_true rfl) ?_
  show mj_Ev jX2_driftAll 0 [some (.ref a0), none] [] mx_S f g _
  unfold g_X2_driftAll at hg
  refine ev_iconst (v := 0) (q := 1) dX2_driftAll_0 mci_0 rfl ?_
  refine ev_istore_n (q := 2) (loc' := [some (.ref _), some (.int _)]) dX2_driftAll_1 (by decide) rfl rfl ?_
  obtain ⟨q_1, hq_1, hg⟩ := mj_bd hg
  refine r_X2_driftAll_2 mj_fuel _ _ _ _ h0 hq_1 ?_
  obtain rfl := Option.some.inj hg
  exact ev_vret dX2_driftAll_42 rfl ⟨rfl, rfl, rfl⟩
def g_X2_runTogether_17 : Nat → Nat → Int32 → Int32 → mj_I → Option (mj_I)
  | 0, _, _, _, _ => none
  | n + 1, a0, x1, x2, f =>
    if x2 < x1 then
     if mj_in x1 5 = true then
     if (f (a0 + 4 + (ix x1)) 4) = 0 then
       if mj_in x2 5 = true then
       if mj_in x1 5 = true then
        if (g_X1_meets (a0 + 4 + (ix x2)) (a0 + 4 + (ix x1)) f) = 0 then
          g_X2_runTogether_17 n a0 x1 (x2 + (1 : Int32)) f
         else
          if mj_in x2 5 = true then
          if mj_in x1 5 = true then
           mj_lt (g_X1_swallow (a0 + 4 + (ix x2)) (a0 + 4 + (ix x1)) f) (fun o_10 =>
            mj_lt (mj_wr o_10 a0 11 ((o_10 a0 11) ||| ((1 : Int32) <<< (x1 &&& 31)))) (fun f_11 =>
            g_X2_runTogether_17 n a0 x1 (x2 + (1 : Int32)) f_11))
           else none
          else none
        else none
       else none
      else
       some (f)
     else none
    else
     some (f)
theorem r_X2_runTogether_17 {g : mj_L} {post : Option Value → mj_I → mj_L → Prop} : ∀ (n : Nat) (a0 : Nat) (x1 : Int32) (x2 : Int32) (f : mj_I) (o : mj_I), mx_isH a0 → g_X2_runTogether_17 n a0 x1 x2 f = some o → mj_Ev jX2_runTogether 85 [some (.ref a0), some (.int x1), none] [] mx_S o g post → mj_Ev jX2_runTogether 17 [some (.ref a0), some (.int x1), some (.int x2)] [] mx_S f g post := by
  intro n
  induction n with
  | zero =>
    intro a0 x1 x2 f o h0 hg hk
    cases hg
  | succ n ih =>
    intro a0 x1 x2 f o h0 hg hk
    unfold g_X2_runTogether_17 at hg
    refine ev_iload_n (q := 18) dX2_runTogether_17 rfl rfl ?_
    refine ev_iload_n (q := 19) dX2_runTogether_18 rfl rfl ?_
    refine ev_icmp_ge (t := 85) (q := 22) dX2_runTogether_19 rfl rfl hg (fun hg => ?_) (fun hg => ?_)
    · refine ev_aload_n (q := 23) dX2_runTogether_22 rfl rfl ?_
      refine ev_getfR (q := 26) mw_f_RX2_46 (mx_H h0) rfl dX2_runTogether_23 rfl ?_
      refine ev_iload_n (q := 27) dX2_runTogether_26 rfl rfl ?_
      obtain ⟨hi_4, hg⟩ := mj_gd hg
      refine ev_aald (kd := 0) (q := 28) (mx_HC h0) (by decide) hi_4 (mx_cr_get hi_4) dX2_runTogether_27 rfl ?_
      refine ev_getfI (q := 31) mw_f_RX2_67 (by decide) (by decide) (mx_C (mx_isC_of h0 hi_4)) dX2_runTogether_28 rfl ?_
      refine ev_if_ne (t := 85) (q := 34) dX2_runTogether_31 rfl rfl hg (fun hg => ?_) (fun hg => ?_)
      · refine ev_aload_n (q := 35) dX2_runTogether_34 rfl rfl ?_
        refine ev_getfR (q := 38) mw_f_RX2_46 (mx_H h0) rfl dX2_runTogether_35 rfl ?_
        refine ev_iload_n (q := 39) dX2_runTogether_38 rfl rfl ?_
        obtain ⟨hi_5, hg⟩ := mj_gd hg
        refine ev_aald (kd := 0) (q := 40) (mx_HC h0) (by decide) hi_5 (mx_cr_get hi_5) dX2_runTogether_39 rfl ?_
        refine ev_aload_n (q := 41) dX2_runTogether_40 rfl rfl ?_
        refine ev_getfR (q := 44) mw_f_RX2_46 (mx_H h0) rfl dX2_runTogether_41 rfl ?_
        refine ev_iload_n (q := 45) dX2_runTogether_44 rfl rfl ?_
        obtain ⟨hi_6, hg⟩ := mj_gd hg
        refine ev_aald (kd := 0) (q := 46) (mx_HC h0) (by decide) hi_6 (mx_cr_get hi_6) dX2_runTogether_45 rfl ?_
        refine ev_callV (q := 49) kX1_meets mw_i_X1_meets mw_s_X1_meets mw_m_RX2_110 (mx_C (mx_isC_of h0 hi_5)) rfl (r_X1_meets (mx_isC_of h0 hi_5) (mx_isC_of h0 hi_6) rfl) rfl rfl (Nat.le_of_ble_eq_true rfl) (by decide) dX2_runTogether_46 rfl (fun v fv gv hp => ?_)
        obtain ⟨rfl, rfl, rfl, hr_7⟩ := hp
        refine ev_if_eq (t := 79) (q := 52) dX2_runTogether_49 rfl rfl hg (fun hg => ?_) (fun hg => ?_)
        · refine ev_iinc (v := 1) (q := 82) (loc' := [some (.ref _), some (.int _), some (.int _)]) dX2_runTogether_79 rfl (by decide) mci_1 rfl rfl ?_
          refine ev_goto (q := 17) dX2_runTogether_82 rfl ?_
          exact ih _ _ _ _ _ h0 hg hk
        · refine ev_aload_n (q := 53) dX2_runTogether_52 rfl rfl ?_
          refine ev_getfR (q := 56) mw_f_RX2_46 (mx_H h0) rfl dX2_runTogether_53 rfl ?_
          refine ev_iload_n (q := 57) dX2_runTogether_56 rfl rfl ?_
          obtain ⟨hi_8, hg⟩ := mj_gd hg
          refine ev_aald (kd := 0) (q := 58) (mx_HC h0) (by decide) hi_8 (mx_cr_get hi_8) dX2_runTogether_57 rfl ?_
          refine ev_aload_n (q := 59) dX2_runTogether_58 rfl rfl ?_
          refine ev_getfR (q := 62) mw_f_RX2_46 (mx_H h0) rfl dX2_runTogether_59 rfl ?_
          refine ev_iload_n (q := 63) dX2_runTogether_62 rfl rfl ?_
          obtain ⟨hi_9, hg⟩ := mj_gd hg
          refine ev_aald (kd := 0) (q := 64) (mx_HC h0) (by decide) hi_9 (mx_cr_get hi_9) dX2_runTogether_63 rfl ?_
          obtain ⟨o_10, ho_10, hg⟩ := mj_lte hg
          refine ev_callV (q := 67) kX1_swallow mw_i_X1_swallow mw_s_X1_swallow mw_m_RX2_114 (mx_C (mx_isC_of h0 hi_8)) rfl (r_X1_swallow (mx_isC_of h0 hi_8) (mx_isC_of h0 hi_9) ho_10) rfl rfl (Nat.le_of_ble_eq_true rfl) (by decide) dX2_runTogether_64 rfl (fun v fv gv hp => ?_)
          obtain ⟨rfl, rfl, rfl⟩ := hp
          refine ev_aload_n (q := 68) dX2_runTogether_67 rfl rfl ?_
          refine ev_dup (q := 69) dX2_runTogether_68 rfl rfl ?_
          refine ev_getfI (q := 72) mw_f_RX2_50 (by decide) (by decide) (mx_H h0) dX2_runTogether_69 rfl ?_
          refine ev_iconst (v := 1) (q := 73) dX2_runTogether_72 mci_1 rfl ?_
          refine ev_iload_n (q := 74) dX2_runTogether_73 rfl rfl ?_
          refine ev_ishl (q := 75) dX2_runTogether_74 rfl ?_
          refine ev_ior (q := 76) dX2_runTogether_75 rfl ?_
          refine ev_putfI (q := 79) mw_f_RX2_50 (mx_H h0) dX2_runTogether_76 rfl ?_
          refine ev_nmf (fun f_11 hf_11 => ?_)
          have hg := mj_lt_el hf_11 hg
          refine ev_iinc (v := 1) (q := 82) (loc' := [some (.ref _), some (.int _), some (.int _)]) dX2_runTogether_79 rfl (by decide) mci_1 rfl rfl ?_
          refine ev_goto (q := 17) dX2_runTogether_82 rfl ?_
          exact ih _ _ _ _ _ h0 hg hk
      · obtain rfl := Option.some.inj hg
        refine ev_wk (loc' := [some (.ref _), some (.int _), none]) ⟨rfl, rfl, trivial⟩ ?_
        exact hk
    · obtain rfl := Option.some.inj hg
      refine ev_wk (loc' := [some (.ref _), some (.int _), none]) ⟨rfl, rfl, trivial⟩ ?_
      exact hk
def g_X2_runTogether_7 : Nat → Nat → Int32 → mj_I → Option (mj_I)
  | 0, _, _, _ => none
  | n + 1, a0, x1, f =>
    if x1 < (f a0 4) then
     (g_X2_runTogether_17 mj_fuel a0 x1 (0 : Int32) f).bind (fun q_3 =>
     g_X2_runTogether_7 n a0 (x1 + (1 : Int32)) q_3)
    else
     some (f)
theorem r_X2_runTogether_7 {g : mj_L} {post : Option Value → mj_I → mj_L → Prop} : ∀ (n : Nat) (a0 : Nat) (x1 : Int32) (f : mj_I) (o : mj_I), mx_isH a0 → g_X2_runTogether_7 n a0 x1 f = some o → mj_Ev jX2_runTogether 91 [none, none, none] [] mx_S o g post → mj_Ev jX2_runTogether 7 [some (.ref a0), some (.int x1), none] [] mx_S f g post := by
  intro n
  induction n with
  | zero =>
    intro a0 x1 f o h0 hg hk
    cases hg
  | succ n ih =>
    intro a0 x1 f o h0 hg hk
    unfold g_X2_runTogether_7 at hg
    refine ev_iload_n (q := 8) dX2_runTogether_7 rfl rfl ?_
    refine ev_aload_n (q := 9) dX2_runTogether_8 rfl rfl ?_
    refine ev_getfI (q := 12) mw_f_RX2_25 (by decide) (by decide) (mx_H h0) dX2_runTogether_9 rfl ?_
    refine ev_icmp_ge (t := 91) (q := 15) dX2_runTogether_12 rfl rfl hg (fun hg => ?_) (fun hg => ?_)
    · refine ev_iconst (v := 0) (q := 16) dX2_runTogether_15 mci_0 rfl ?_
      refine ev_istore_n (q := 17) (loc' := [some (.ref _), some (.int _), some (.int _)]) dX2_runTogether_16 (by decide) rfl rfl ?_
      obtain ⟨q_3, hq_3, hg⟩ := mj_bd hg
      refine r_X2_runTogether_17 mj_fuel _ _ _ _ _ h0 hq_3 ?_
      refine ev_iinc (v := 1) (q := 88) (loc' := [some (.ref _), some (.int _), none]) dX2_runTogether_85 rfl (by decide) mci_1 rfl rfl ?_
      refine ev_goto (q := 7) dX2_runTogether_88 rfl ?_
      exact ih _ _ _ _ h0 hg hk
    · obtain rfl := Option.some.inj hg
      refine ev_wk (loc' := [none, none, none]) trivial ?_
      exact hk
def g_X2_runTogether (a0 : Nat) (f : mj_I) : Option (mj_I) :=
  mj_lt (mj_wr f a0 11 (0 : Int32)) (fun f_1 =>
  (g_X2_runTogether_7 mj_fuel a0 (1 : Int32) f_1).bind (fun q_2 =>
  some (q_2)))
theorem r_X2_runTogether {a0 : Nat} {f : mj_I} {g : mj_L} {o : mj_I} (h0 : mx_isH a0) (hg : g_X2_runTogether a0 f = some o) : mj_Sp jX2_runTogether mx_S [.ref a0] f g (fun v f' g' => none = v ∧ o = f' ∧ g = g') := by
  refine mj_sp 2 (by decide +kernel) rfl rfl (fun _ _ => Nat.le_of_ble_eq_true rfl) ?_
  show mj_Ev jX2_runTogether 0 [some (.ref a0), none, none] [] mx_S f g _
  unfold g_X2_runTogether at hg
  refine ev_aload_n (q := 1) dX2_runTogether_0 rfl rfl ?_
  refine ev_iconst (v := 0) (q := 2) dX2_runTogether_1 mci_0 rfl ?_
  refine ev_putfI (q := 5) mw_f_RX2_50 (mx_H h0) dX2_runTogether_2 rfl ?_
  refine ev_nmf (fun f_1 hf_1 => ?_)
  have hg := mj_lt_el hf_1 hg
  refine ev_iconst (v := 1) (q := 6) dX2_runTogether_5 mci_1 rfl ?_
  refine ev_istore_n (q := 7) (loc' := [some (.ref _), some (.int _), none]) dX2_runTogether_6 (by decide) rfl rfl ?_
  obtain ⟨q_2, hq_2, hg⟩ := mj_bd hg
  refine r_X2_runTogether_7 mj_fuel _ _ _ _ h0 hq_2 ?_
  obtain rfl := Option.some.inj hg
  exact ev_vret dX2_runTogether_91 rfl ⟨rfl, rfl, rfl⟩
def g_X2_rainOne (a0 : Nat) (a1 : Nat) (f : mj_I) : Option (Int32 × mj_I) :=
  if mj_in (f a1 1) 32 = true then
  mj_lt ((f (a0 + 2) (ix (f a1 1)))) (fun u_2 =>
   mj_lt (g_X1_rainOver a1 u_2 f) (fun o_3 =>
   if u_2 = (1 : Int32) then
    some ((((o_3 a0 1) * (o_3 a1 6)), o_3))
   else
    if u_2 = (2 : Int32) then
     some ((((-(o_3 a0 2)) * (o_3 a1 6)), o_3))
    else
     some (((0 : Int32), o_3))))
  else none
theorem r_X2_rainOne {a0 : Nat} {a1 : Nat} {f : mj_I} {g : mj_L} {o : Int32 × mj_I} (h0 : mx_isH a0) (h1 : mx_isC a1) (hg : g_X2_rainOne a0 a1 f = some o) : mj_Sp jX2_rainOne mx_S [.ref a0, .ref a1] f g (fun v f' g' => some (.int o.1) = v ∧ o.2 = f' ∧ g = g') := by
  refine mj_sp 1 (by decide +kernel) rfl rfl (fun _ _ => Nat.le_of_ble_eq_true rfl) ?_
  show mj_Ev jX2_rainOne 0 [some (.ref a0), some (.ref a1), none] [] mx_S f g _
  unfold g_X2_rainOne at hg
  refine ev_aload_n (q := 1) dX2_rainOne_0 rfl rfl ?_
  refine ev_getfR (q := 4) mw_f_RX2_41 (mx_H h0) rfl dX2_rainOne_1 rfl ?_
  refine ev_aload_n (q := 5) dX2_rainOne_4 rfl rfl ?_
  refine ev_getfI (q := 8) mw_f_RX2_70 (by decide) (by decide) (mx_C h1) dX2_rainOne_5 rfl ?_
  obtain ⟨hi_1, hg⟩ := mj_gd hg
  refine ev_ialdk (q := 9) (mx_HP h0) hi_1 rfl dX2_rainOne_8 rfl ?_
  refine ev_nmi (fun u_2 hu_2 => ?_)
  have hg := mj_lt_el hu_2 hg
  refine ev_istore_n (q := 10) (loc' := [some (.ref _), some (.ref _), some (.int _)]) dX2_rainOne_9 (by decide) rfl rfl ?_
  refine ev_aload_n (q := 11) dX2_rainOne_10 rfl rfl ?_
  refine ev_iload_n (q := 12) dX2_rainOne_11 rfl rfl ?_
  obtain ⟨o_3, ho_3, hg⟩ := mj_lte hg
  refine ev_callV (q := 15) kX1_rainOver mw_i_X1_rainOver mw_s_X1_rainOver mw_m_RX2_120 (mx_C h1) rfl (r_X1_rainOver h1 ho_3) rfl rfl (Nat.le_of_ble_eq_true rfl) (by decide) dX2_rainOne_12 rfl (fun v fv gv hp => ?_)
  obtain ⟨rfl, rfl, rfl⟩ := hp
  refine ev_iload_n (q := 16) dX2_rainOne_15 rfl rfl ?_
  refine ev_iconst (v := 1) (q := 17) dX2_rainOne_16 mci_1 rfl ?_
  refine ev_icmp_ne (t := 30) (q := 20) dX2_rainOne_17 rfl rfl hg (fun hg => ?_) (fun hg => ?_)
  · refine ev_aload_n (q := 21) dX2_rainOne_20 rfl rfl ?_
    refine ev_getfI (q := 24) mw_f_RX2_15 (by decide) (by decide) (mx_H h0) dX2_rainOne_21 rfl ?_
    refine ev_aload_n (q := 25) dX2_rainOne_24 rfl rfl ?_
    refine ev_getfI (q := 28) mw_f_RX2_117 (by decide) (by decide) (mx_C h1) dX2_rainOne_25 rfl ?_
    refine ev_imul (q := 29) dX2_rainOne_28 rfl ?_
    obtain rfl := Option.some.inj hg
    exact ev_iret dX2_rainOne_29 rfl ⟨rfl, rfl, rfl⟩
  · refine ev_iload_n (q := 31) dX2_rainOne_30 rfl rfl ?_
    refine ev_iconst (v := 2) (q := 32) dX2_rainOne_31 mci_2 rfl ?_
    refine ev_icmp_ne (t := 48) (q := 35) dX2_rainOne_32 rfl rfl hg (fun hg => ?_) (fun hg => ?_)
    · refine ev_aload_n (q := 36) dX2_rainOne_35 rfl rfl ?_
      refine ev_getfI (q := 39) mw_f_RX2_19 (by decide) (by decide) (mx_H h0) dX2_rainOne_36 rfl ?_
      refine ev_ineg (q := 40) dX2_rainOne_39 rfl ?_
      refine ev_aload_n (q := 41) dX2_rainOne_40 rfl rfl ?_
      refine ev_getfI (q := 44) mw_f_RX2_117 (by decide) (by decide) (mx_C h1) dX2_rainOne_41 rfl ?_
      refine ev_imul (q := 45) dX2_rainOne_44 rfl ?_
      refine ev_goto (q := 49) dX2_rainOne_45 rfl ?_
      obtain rfl := Option.some.inj hg
      exact ev_iret dX2_rainOne_49 rfl ⟨rfl, rfl, rfl⟩
    · refine ev_iconst (v := 0) (q := 49) dX2_rainOne_48 mci_0 rfl ?_
      obtain rfl := Option.some.inj hg
      exact ev_iret dX2_rainOne_49 rfl ⟨rfl, rfl, rfl⟩
def g_X2_rainAll_7 : Nat → Nat → Int32 → mj_I → Option (mj_I)
  | 0, _, _, _ => none
  | n + 1, a0, x1, f =>
    if x1 < (f a0 4) then
     if mj_in x1 5 = true then
     if (f (a0 + 4 + (ix x1)) 4) = 0 then
       if mj_in x1 5 = true then
       (g_X2_rainOne a0 (a0 + 4 + (ix x1)) f).bind (fun o_5 =>
        mj_lt (mj_wr o_5.2 a0 6 ((f a0 6) + o_5.1)) (fun f_6 =>
        if mj_in x1 5 = true then
        if mj_in (f_6 (a0 + 4 + (ix x1)) 1) 32 = true then
         if (f_6 (a0 + 2) (ix (f_6 (a0 + 4 + (ix x1)) 1))) = (2 : Int32) then
           if mj_in x1 5 = true then
           mj_lt (mj_wr f_6 a0 12 ((f_6 a0 12) + (f_6 (a0 + 4 + (ix x1)) 6))) (fun f_10 =>
            g_X2_rainAll_7 n a0 (x1 + (1 : Int32)) f_10)
           else none
          else
           mj_lt (mj_wr f_6 a0 12 ((f_6 a0 12) + (0 : Int32))) (fun f_11 =>
           g_X2_rainAll_7 n a0 (x1 + (1 : Int32)) f_11)
         else none
        else none))
       else none
      else
       g_X2_rainAll_7 n a0 (x1 + (1 : Int32)) f
     else none
    else
     some (f)
theorem r_X2_rainAll_7 {g : mj_L} {post : Option Value → mj_I → mj_L → Prop} : ∀ (n : Nat) (a0 : Nat) (x1 : Int32) (f : mj_I) (o : mj_I), mx_isH a0 → g_X2_rainAll_7 n a0 x1 f = some o → mj_Ev jX2_rainAll 92 [none, none] [] mx_S o g post → mj_Ev jX2_rainAll 7 [some (.ref a0), some (.int x1)] [] mx_S f g post := by
  intro n
  induction n with
  | zero =>
    intro a0 x1 f o h0 hg hk
    cases hg
  | succ n ih =>
    intro a0 x1 f o h0 hg hk
    unfold g_X2_rainAll_7 at hg
    refine ev_iload_n (q := 8) dX2_rainAll_7 rfl rfl ?_
    refine ev_aload_n (q := 9) dX2_rainAll_8 rfl rfl ?_
    refine ev_getfI (q := 12) mw_f_RX2_25 (by decide) (by decide) (mx_H h0) dX2_rainAll_9 rfl ?_
    refine ev_icmp_ge (t := 92) (q := 15) dX2_rainAll_12 rfl rfl hg (fun hg => ?_) (fun hg => ?_)
    · refine ev_aload_n (q := 16) dX2_rainAll_15 rfl rfl ?_
      refine ev_getfR (q := 19) mw_f_RX2_46 (mx_H h0) rfl dX2_rainAll_16 rfl ?_
      refine ev_iload_n (q := 20) dX2_rainAll_19 rfl rfl ?_
      obtain ⟨hi_3, hg⟩ := mj_gd hg
      refine ev_aald (kd := 0) (q := 21) (mx_HC h0) (by decide) hi_3 (mx_cr_get hi_3) dX2_rainAll_20 rfl ?_
      refine ev_getfI (q := 24) mw_f_RX2_67 (by decide) (by decide) (mx_C (mx_isC_of h0 hi_3)) dX2_rainAll_21 rfl ?_
      refine ev_if_ne (t := 86) (q := 27) dX2_rainAll_24 rfl rfl hg (fun hg => ?_) (fun hg => ?_)
      · refine ev_aload_n (q := 28) dX2_rainAll_27 rfl rfl ?_
        refine ev_dup (q := 29) dX2_rainAll_28 rfl rfl ?_
        refine ev_getfI (q := 32) mw_f_RX2_31 (by decide) (by decide) (mx_H h0) dX2_rainAll_29 rfl ?_
        refine ev_aload_n (q := 33) dX2_rainAll_32 rfl rfl ?_
        refine ev_aload_n (q := 34) dX2_rainAll_33 rfl rfl ?_
        refine ev_getfR (q := 37) mw_f_RX2_46 (mx_H h0) rfl dX2_rainAll_34 rfl ?_
        refine ev_iload_n (q := 38) dX2_rainAll_37 rfl rfl ?_
        obtain ⟨hi_4, hg⟩ := mj_gd hg
        refine ev_aald (kd := 0) (q := 39) (mx_HC h0) (by decide) hi_4 (mx_cr_get hi_4) dX2_rainAll_38 rfl ?_
        obtain ⟨o_5, ho_5, hg⟩ := mj_bd hg
        refine ev_callV (q := 42) kX2_rainOne mw_i_X2_rainOne mw_s_X2_rainOne mw_m_RX2_93 (mx_H h0) rfl (r_X2_rainOne h0 (mx_isC_of h0 hi_4) ho_5) rfl rfl (Nat.le_of_ble_eq_true rfl) (by decide) dX2_rainAll_39 rfl (fun v fv gv hp => ?_)
        obtain ⟨rfl, rfl, rfl⟩ := hp
        refine ev_iadd (q := 43) dX2_rainAll_42 rfl ?_
        refine ev_putfI (q := 46) mw_f_RX2_31 (mx_H h0) dX2_rainAll_43 rfl ?_
        refine ev_nmf (fun f_6 hf_6 => ?_)
        have hg := mj_lt_el hf_6 hg
        refine ev_aload_n (q := 47) dX2_rainAll_46 rfl rfl ?_
        refine ev_dup (q := 48) dX2_rainAll_47 rfl rfl ?_
        refine ev_getfI (q := 51) mw_f_RX2_53 (by decide) (by decide) (mx_H h0) dX2_rainAll_48 rfl ?_
        refine ev_aload_n (q := 52) dX2_rainAll_51 rfl rfl ?_
        refine ev_getfR (q := 55) mw_f_RX2_41 (mx_H h0) rfl dX2_rainAll_52 rfl ?_
        refine ev_aload_n (q := 56) dX2_rainAll_55 rfl rfl ?_
        refine ev_getfR (q := 59) mw_f_RX2_46 (mx_H h0) rfl dX2_rainAll_56 rfl ?_
        refine ev_iload_n (q := 60) dX2_rainAll_59 rfl rfl ?_
        obtain ⟨hi_7, hg⟩ := mj_gd hg
        refine ev_aald (kd := 0) (q := 61) (mx_HC h0) (by decide) hi_7 (mx_cr_get hi_7) dX2_rainAll_60 rfl ?_
        refine ev_getfI (q := 64) mw_f_RX2_70 (by decide) (by decide) (mx_C (mx_isC_of h0 hi_7)) dX2_rainAll_61 rfl ?_
        obtain ⟨hi_8, hg⟩ := mj_gd hg
        refine ev_ialdk (q := 65) (mx_HP h0) hi_8 rfl dX2_rainAll_64 rfl ?_
        refine ev_iconst (v := 2) (q := 66) dX2_rainAll_65 mci_2 rfl ?_
        refine ev_icmp_ne (t := 81) (q := 69) dX2_rainAll_66 rfl rfl hg (fun hg => ?_) (fun hg => ?_)
        · refine ev_aload_n (q := 70) dX2_rainAll_69 rfl rfl ?_
          refine ev_getfR (q := 73) mw_f_RX2_46 (mx_H h0) rfl dX2_rainAll_70 rfl ?_
          refine ev_iload_n (q := 74) dX2_rainAll_73 rfl rfl ?_
          obtain ⟨hi_9, hg⟩ := mj_gd hg
          refine ev_aald (kd := 0) (q := 75) (mx_HC h0) (by decide) hi_9 (mx_cr_get hi_9) dX2_rainAll_74 rfl ?_
          refine ev_getfI (q := 78) mw_f_RX2_117 (by decide) (by decide) (mx_C (mx_isC_of h0 hi_9)) dX2_rainAll_75 rfl ?_
          refine ev_goto (q := 82) dX2_rainAll_78 rfl ?_
          refine ev_iadd (q := 83) dX2_rainAll_82 rfl ?_
          refine ev_putfI (q := 86) mw_f_RX2_53 (mx_H h0) dX2_rainAll_83 rfl ?_
          refine ev_nmf (fun f_10 hf_10 => ?_)
          have hg := mj_lt_el hf_10 hg
          refine ev_iinc (v := 1) (q := 89) (loc' := [some (.ref _), some (.int _)]) dX2_rainAll_86 rfl (by decide) mci_1 rfl rfl ?_
          refine ev_goto (q := 7) dX2_rainAll_89 rfl ?_
          exact ih _ _ _ _ h0 hg hk
        · refine ev_iconst (v := 0) (q := 82) dX2_rainAll_81 mci_0 rfl ?_
          refine ev_iadd (q := 83) dX2_rainAll_82 rfl ?_
          refine ev_putfI (q := 86) mw_f_RX2_53 (mx_H h0) dX2_rainAll_83 rfl ?_
          refine ev_nmf (fun f_11 hf_11 => ?_)
          have hg := mj_lt_el hf_11 hg
          refine ev_iinc (v := 1) (q := 89) (loc' := [some (.ref _), some (.int _)]) dX2_rainAll_86 rfl (by decide) mci_1 rfl rfl ?_
          refine ev_goto (q := 7) dX2_rainAll_89 rfl ?_
          exact ih _ _ _ _ h0 hg hk
      · refine ev_iinc (v := 1) (q := 89) (loc' := [some (.ref _), some (.int _)]) dX2_rainAll_86 rfl (by decide) mci_1 rfl rfl ?_
        refine ev_goto (q := 7) dX2_rainAll_89 rfl ?_
        exact ih _ _ _ _ h0 hg hk
    · obtain rfl := Option.some.inj hg
      refine ev_wk (loc' := [none, none]) trivial ?_
      exact hk
def g_X2_rainAll (a0 : Nat) (f : mj_I) : Option (mj_I) :=
  mj_lt (mj_wr f a0 12 (0 : Int32)) (fun f_1 =>
  (g_X2_rainAll_7 mj_fuel a0 (0 : Int32) f_1).bind (fun q_2 =>
  some (q_2)))
theorem r_X2_rainAll {a0 : Nat} {f : mj_I} {g : mj_L} {o : mj_I} (h0 : mx_isH a0) (hg : g_X2_rainAll a0 f = some o) : mj_Sp jX2_rainAll mx_S [.ref a0] f g (fun v f' g' => none = v ∧ o = f' ∧ g = g') := by
  refine mj_sp 1 (by decide +kernel) rfl rfl (fun _ _ => Nat.le_of_ble_eq_true rfl) ?_
  show mj_Ev jX2_rainAll 0 [some (.ref a0), none] [] mx_S f g _
  unfold g_X2_rainAll at hg
  refine ev_aload_n (q := 1) dX2_rainAll_0 rfl rfl ?_
  refine ev_iconst (v := 0) (q := 2) dX2_rainAll_1 mci_0 rfl ?_
  refine ev_putfI (q := 5) mw_f_RX2_53 (mx_H h0) dX2_rainAll_2 rfl ?_
  refine ev_nmf (fun f_1 hf_1 => ?_)
  have hg := mj_lt_el hf_1 hg
  refine ev_iconst (v := 0) (q := 6) dX2_rainAll_5 mci_0 rfl ?_
  refine ev_istore_n (q := 7) (loc' := [some (.ref _), some (.int _)]) dX2_rainAll_6 (by decide) rfl rfl ?_
  obtain ⟨q_2, hq_2, hg⟩ := mj_bd hg
  refine r_X2_rainAll_7 mj_fuel _ _ _ _ h0 hq_2 ?_
  obtain rfl := Option.some.inj hg
  exact ev_vret dX2_rainAll_92 rfl ⟨rfl, rfl, rfl⟩
def g_X2_milkOne (a0 : Nat) (a1 : Nat) (f : mj_I) : Option (Int32 × mj_I) :=
  if (f a1 2) = 0 then
   if (f a1 3) = 0 then
    some (((0 : Int32), f))
   else
    if mj_in (f a1 1) 32 = true then
    if (f (a0 + 2) (ix (f a1 1))) = (3 : Int32) then
      mj_lt (mj_wr f a1 3 ((f a1 3) - (1 : Int32))) (fun f_2 =>
      some (((1 : Int32), f_2)))
     else
      some (((0 : Int32), f))
    else none
  else
   some (((0 : Int32), f))
theorem r_X2_milkOne {a0 : Nat} {a1 : Nat} {f : mj_I} {g : mj_L} {o : Int32 × mj_I} (h0 : mx_isH a0) (h1 : mx_isC a1) (hg : g_X2_milkOne a0 a1 f = some o) : mj_Sp jX2_milkOne mx_S [.ref a0, .ref a1] f g (fun v f' g' => some (.int o.1) = v ∧ o.2 = f' ∧ g = g') := by
  refine mj_sp 0 (by decide +kernel) rfl rfl (fun _ _ => Nat.le_of_ble_eq_true rfl) ?_
  show mj_Ev jX2_milkOne 0 [some (.ref a0), some (.ref a1)] [] mx_S f g _
  unfold g_X2_milkOne at hg
  refine ev_aload_n (q := 1) dX2_milkOne_0 rfl rfl ?_
  refine ev_getfI (q := 4) mw_f_RX2_100 (by decide) (by decide) (mx_C h1) dX2_milkOne_1 rfl ?_
  refine ev_if_ne (t := 27) (q := 7) dX2_milkOne_4 rfl rfl hg (fun hg => ?_) (fun hg => ?_)
  · refine ev_aload_n (q := 8) dX2_milkOne_7 rfl rfl ?_
    refine ev_getfI (q := 11) mw_f_RX2_124 (by decide) (by decide) (mx_C h1) dX2_milkOne_8 rfl ?_
    refine ev_if_eq (t := 27) (q := 14) dX2_milkOne_11 rfl rfl hg (fun hg => ?_) (fun hg => ?_)
    · refine ev_iconst (v := 0) (q := 28) dX2_milkOne_27 mci_0 rfl ?_
      obtain rfl := Option.some.inj hg
      exact ev_iret dX2_milkOne_28 rfl ⟨rfl, rfl, rfl⟩
    · refine ev_aload_n (q := 15) dX2_milkOne_14 rfl rfl ?_
      refine ev_getfR (q := 18) mw_f_RX2_41 (mx_H h0) rfl dX2_milkOne_15 rfl ?_
      refine ev_aload_n (q := 19) dX2_milkOne_18 rfl rfl ?_
      refine ev_getfI (q := 22) mw_f_RX2_70 (by decide) (by decide) (mx_C h1) dX2_milkOne_19 rfl ?_
      obtain ⟨hi_1, hg⟩ := mj_gd hg
      refine ev_ialdk (q := 23) (mx_HP h0) hi_1 rfl dX2_milkOne_22 rfl ?_
      refine ev_iconst (v := 3) (q := 24) dX2_milkOne_23 mci_3 rfl ?_
      refine ev_icmp_eq (t := 29) (q := 27) dX2_milkOne_24 rfl rfl hg (fun hg => ?_) (fun hg => ?_)
      · refine ev_aload_n (q := 30) dX2_milkOne_29 rfl rfl ?_
        refine ev_dup (q := 31) dX2_milkOne_30 rfl rfl ?_
        refine ev_getfI (q := 34) mw_f_RX2_124 (by decide) (by decide) (mx_C h1) dX2_milkOne_31 rfl ?_
        refine ev_iconst (v := 1) (q := 35) dX2_milkOne_34 mci_1 rfl ?_
        refine ev_isub (q := 36) dX2_milkOne_35 rfl ?_
        refine ev_putfI (q := 39) mw_f_RX2_124 (mx_C h1) dX2_milkOne_36 rfl ?_
        refine ev_nmf (fun f_2 hf_2 => ?_)
        have hg := mj_lt_el hf_2 hg
        refine ev_iconst (v := 1) (q := 40) dX2_milkOne_39 mci_1 rfl ?_
        obtain rfl := Option.some.inj hg
        exact ev_iret dX2_milkOne_40 rfl ⟨rfl, rfl, rfl⟩
      · refine ev_iconst (v := 0) (q := 28) dX2_milkOne_27 mci_0 rfl ?_
        obtain rfl := Option.some.inj hg
        exact ev_iret dX2_milkOne_28 rfl ⟨rfl, rfl, rfl⟩
  · refine ev_iconst (v := 0) (q := 28) dX2_milkOne_27 mci_0 rfl ?_
    obtain rfl := Option.some.inj hg
    exact ev_iret dX2_milkOne_28 rfl ⟨rfl, rfl, rfl⟩
def g_X2_milkAll_2 : Nat → Nat → Int32 → mj_I → Option (mj_I)
  | 0, _, _, _ => none
  | n + 1, a0, x1, f =>
    if x1 < (f a0 4) then
     if mj_in x1 5 = true then
     (g_X2_milkOne a0 (a0 + 4 + (ix x1)) f).bind (fun o_3 =>
      mj_lt (mj_wr o_3.2 a0 7 ((f a0 7) + o_3.1)) (fun f_4 =>
      g_X2_milkAll_2 n a0 (x1 + (1 : Int32)) f_4))
     else none
    else
     some (f)
theorem r_X2_milkAll_2 {g : mj_L} {post : Option Value → mj_I → mj_L → Prop} : ∀ (n : Nat) (a0 : Nat) (x1 : Int32) (f : mj_I) (o : mj_I), mx_isH a0 → g_X2_milkAll_2 n a0 x1 f = some o → mj_Ev jX2_milkAll 35 [none, none] [] mx_S o g post → mj_Ev jX2_milkAll 2 [some (.ref a0), some (.int x1)] [] mx_S f g post := by
  intro n
  induction n with
  | zero =>
    intro a0 x1 f o h0 hg hk
    cases hg
  | succ n ih =>
    intro a0 x1 f o h0 hg hk
    unfold g_X2_milkAll_2 at hg
    refine ev_iload_n (q := 3) dX2_milkAll_2 rfl rfl ?_
    refine ev_aload_n (q := 4) dX2_milkAll_3 rfl rfl ?_
    refine ev_getfI (q := 7) mw_f_RX2_25 (by decide) (by decide) (mx_H h0) dX2_milkAll_4 rfl ?_
    refine ev_icmp_ge (t := 35) (q := 10) dX2_milkAll_7 rfl rfl hg (fun hg => ?_) (fun hg => ?_)
    · refine ev_aload_n (q := 11) dX2_milkAll_10 rfl rfl ?_
      refine ev_dup (q := 12) dX2_milkAll_11 rfl rfl ?_
      refine ev_getfI (q := 15) mw_f_RX2_34 (by decide) (by decide) (mx_H h0) dX2_milkAll_12 rfl ?_
      refine ev_aload_n (q := 16) dX2_milkAll_15 rfl rfl ?_
      refine ev_aload_n (q := 17) dX2_milkAll_16 rfl rfl ?_
      refine ev_getfR (q := 20) mw_f_RX2_46 (mx_H h0) rfl dX2_milkAll_17 rfl ?_
      refine ev_iload_n (q := 21) dX2_milkAll_20 rfl rfl ?_
      obtain ⟨hi_2, hg⟩ := mj_gd hg
      refine ev_aald (kd := 0) (q := 22) (mx_HC h0) (by decide) hi_2 (mx_cr_get hi_2) dX2_milkAll_21 rfl ?_
      obtain ⟨o_3, ho_3, hg⟩ := mj_bd hg
      refine ev_callV (q := 25) kX2_milkOne mw_i_X2_milkOne mw_s_X2_milkOne mw_m_RX2_97 (mx_H h0) rfl (r_X2_milkOne h0 (mx_isC_of h0 hi_2) ho_3) rfl rfl (Nat.le_of_ble_eq_true rfl) (by decide) dX2_milkAll_22 rfl (fun v fv gv hp => ?_)
      obtain ⟨rfl, rfl, rfl⟩ := hp
      refine ev_iadd (q := 26) dX2_milkAll_25 rfl ?_
      refine ev_putfI (q := 29) mw_f_RX2_34 (mx_H h0) dX2_milkAll_26 rfl ?_
      refine ev_nmf (fun f_4 hf_4 => ?_)
      have hg := mj_lt_el hf_4 hg
      refine ev_iinc (v := 1) (q := 32) (loc' := [some (.ref _), some (.int _)]) dX2_milkAll_29 rfl (by decide) mci_1 rfl rfl ?_
      refine ev_goto (q := 2) dX2_milkAll_32 rfl ?_
      exact ih _ _ _ _ h0 hg hk
    · obtain rfl := Option.some.inj hg
      refine ev_wk (loc' := [none, none]) trivial ?_
      exact hk
def g_X2_milkAll (a0 : Nat) (f : mj_I) : Option (mj_I) :=
  (g_X2_milkAll_2 mj_fuel a0 (0 : Int32) f).bind (fun q_1 =>
  some (q_1))
theorem r_X2_milkAll {a0 : Nat} {f : mj_I} {g : mj_L} {o : mj_I} (h0 : mx_isH a0) (hg : g_X2_milkAll a0 f = some o) : mj_Sp jX2_milkAll mx_S [.ref a0] f g (fun v f' g' => none = v ∧ o = f' ∧ g = g') := by
  refine mj_sp 1 (by decide +kernel) rfl rfl (fun _ _ => Nat.le_of_ble_eq_true rfl) ?_
  show mj_Ev jX2_milkAll 0 [some (.ref a0), none] [] mx_S f g _
  unfold g_X2_milkAll at hg
  refine ev_iconst (v := 0) (q := 1) dX2_milkAll_0 mci_0 rfl ?_
  refine ev_istore_n (q := 2) (loc' := [some (.ref _), some (.int _)]) dX2_milkAll_1 (by decide) rfl rfl ?_
  obtain ⟨q_1, hq_1, hg⟩ := mj_bd hg
  refine r_X2_milkAll_2 mj_fuel _ _ _ _ h0 hq_1 ?_
  obtain rfl := Option.some.inj hg
  exact ev_vret dX2_milkAll_35 rfl ⟨rfl, rfl, rfl⟩
def g_X2_passHour (a0 : Nat) (f : mj_I) : Option (mj_I) :=
  (g_X2_driftAll a0 f).bind (fun o_1 =>
  (g_X2_runTogether a0 o_1).bind (fun o_2 =>
  (g_X2_rainAll a0 o_2).bind (fun o_3 =>
  (g_X2_milkAll a0 o_3).bind (fun o_4 =>
  mj_lt (mj_wr o_4 a0 5 ((o_4 a0 5) + (1 : Int32))) (fun f_5 =>
  some (f_5))))))
theorem r_X2_passHour {a0 : Nat} {f : mj_I} {g : mj_L} {o : mj_I} (h0 : mx_isH a0) (hg : g_X2_passHour a0 f = some o) : mj_Sp jX2_passHour mx_S [.ref a0] f g (fun v f' g' => none = v ∧ o = f' ∧ g = g') := by
  refine mj_sp 0 (by decide +kernel) rfl rfl (fun _ _ => Nat.le_of_ble_eq_true rfl) ?_
  show mj_Ev jX2_passHour 0 [some (.ref a0)] [] mx_S f g _
  unfold g_X2_passHour at hg
  refine ev_aload_n (q := 1) dX2_passHour_0 rfl rfl ?_
  obtain ⟨o_1, ho_1, hg⟩ := mj_bd hg
  refine ev_callV (q := 4) kX2_driftAll mw_i_X2_driftAll mw_s_X2_driftAll mw_m_RX2_77 (mx_H h0) rfl (r_X2_driftAll h0 ho_1) rfl rfl (Nat.le_of_ble_eq_true rfl) (by decide) dX2_passHour_1 rfl (fun v fv gv hp => ?_)
  obtain ⟨rfl, rfl, rfl⟩ := hp
  refine ev_aload_n (q := 5) dX2_passHour_4 rfl rfl ?_
  obtain ⟨o_2, ho_2, hg⟩ := mj_bd hg
  refine ev_callV (q := 8) kX2_runTogether mw_i_X2_runTogether mw_s_X2_runTogether mw_m_RX2_80 (mx_H h0) rfl (r_X2_runTogether h0 ho_2) rfl rfl (Nat.le_of_ble_eq_true rfl) (by decide) dX2_passHour_5 rfl (fun v fv gv hp => ?_)
  obtain ⟨rfl, rfl, rfl⟩ := hp
  refine ev_aload_n (q := 9) dX2_passHour_8 rfl rfl ?_
  obtain ⟨o_3, ho_3, hg⟩ := mj_bd hg
  refine ev_callV (q := 12) kX2_rainAll mw_i_X2_rainAll mw_s_X2_rainAll mw_m_RX2_83 (mx_H h0) rfl (r_X2_rainAll h0 ho_3) rfl rfl (Nat.le_of_ble_eq_true rfl) (by decide) dX2_passHour_9 rfl (fun v fv gv hp => ?_)
  obtain ⟨rfl, rfl, rfl⟩ := hp
  refine ev_aload_n (q := 13) dX2_passHour_12 rfl rfl ?_
  obtain ⟨o_4, ho_4, hg⟩ := mj_bd hg
  refine ev_callV (q := 16) kX2_milkAll mw_i_X2_milkAll mw_s_X2_milkAll mw_m_RX2_86 (mx_H h0) rfl (r_X2_milkAll h0 ho_4) rfl rfl (Nat.le_of_ble_eq_true rfl) (by decide) dX2_passHour_13 rfl (fun v fv gv hp => ?_)
  obtain ⟨rfl, rfl, rfl⟩ := hp
  refine ev_aload_n (q := 17) dX2_passHour_16 rfl rfl ?_
  refine ev_dup (q := 18) dX2_passHour_17 rfl rfl ?_
  refine ev_getfI (q := 21) mw_f_RX2_28 (by decide) (by decide) (mx_H h0) dX2_passHour_18 rfl ?_
  refine ev_iconst (v := 1) (q := 22) dX2_passHour_21 mci_1 rfl ?_
  refine ev_iadd (q := 23) dX2_passHour_22 rfl ?_
  refine ev_putfI (q := 26) mw_f_RX2_28 (mx_H h0) dX2_passHour_23 rfl ?_
  refine ev_nmf (fun f_5 hf_5 => ?_)
  have hg := mj_lt_el hf_5 hg
  obtain rfl := Option.some.inj hg
  exact ev_vret dX2_passHour_26 rfl ⟨rfl, rfl, rfl⟩
def g_X2_passAlone (a0 : Nat) (a1 : Nat) (x2 : Int32) (f : mj_I) : Option (Int32 × mj_I) :=
  (g_X2_driftOne a0 a1 x2 f).bind (fun o_1 =>
  (g_X2_rainOne a0 a1 o_1).bind (fun o_2 =>
  (g_X2_milkOne a0 a1 o_2.2).bind (fun o_3 =>
  some ((o_2.1, o_3.2)))))
theorem r_X2_passAlone {a0 : Nat} {a1 : Nat} {x2 : Int32} {f : mj_I} {g : mj_L} {o : Int32 × mj_I} (h0 : mx_isH a0) (h1 : mx_isC a1) (hg : g_X2_passAlone a0 a1 x2 f = some o) : mj_Sp jX2_passAlone mx_S [.ref a0, .ref a1, .int x2] f g (fun v f' g' => some (.int o.1) = v ∧ o.2 = f' ∧ g = g') := by
  refine mj_sp 1 (by decide +kernel) rfl rfl (fun _ _ => Nat.le_of_ble_eq_true rfl) ?_
  show mj_Ev jX2_passAlone 0 [some (.ref a0), some (.ref a1), some (.int x2), none] [] mx_S f g _
  unfold g_X2_passAlone at hg
  refine ev_aload_n (q := 1) dX2_passAlone_0 rfl rfl ?_
  refine ev_aload_n (q := 2) dX2_passAlone_1 rfl rfl ?_
  refine ev_iload_n (q := 3) dX2_passAlone_2 rfl rfl ?_
  obtain ⟨o_1, ho_1, hg⟩ := mj_bd hg
  refine ev_callV (q := 6) kX2_driftOne mw_i_X2_driftOne mw_s_X2_driftOne mw_m_RX2_89 (mx_H h0) rfl (r_X2_driftOne h0 h1 ho_1) rfl rfl (Nat.le_of_ble_eq_true rfl) (by decide) dX2_passAlone_3 rfl (fun v fv gv hp => ?_)
  obtain ⟨rfl, rfl, rfl⟩ := hp
  refine ev_aload_n (q := 7) dX2_passAlone_6 rfl rfl ?_
  refine ev_aload_n (q := 8) dX2_passAlone_7 rfl rfl ?_
  obtain ⟨o_2, ho_2, hg⟩ := mj_bd hg
  refine ev_callV (q := 11) kX2_rainOne mw_i_X2_rainOne mw_s_X2_rainOne mw_m_RX2_93 (mx_H h0) rfl (r_X2_rainOne h0 h1 ho_2) rfl rfl (Nat.le_of_ble_eq_true rfl) (by decide) dX2_passAlone_8 rfl (fun v fv gv hp => ?_)
  obtain ⟨rfl, rfl, rfl⟩ := hp
  refine ev_istore_n (q := 12) (loc' := [some (.ref _), some (.ref _), some (.int _), some (.int _)]) dX2_passAlone_11 (by decide) rfl rfl ?_
  refine ev_aload_n (q := 13) dX2_passAlone_12 rfl rfl ?_
  refine ev_aload_n (q := 14) dX2_passAlone_13 rfl rfl ?_
  obtain ⟨o_3, ho_3, hg⟩ := mj_bd hg
  refine ev_callV (q := 17) kX2_milkOne mw_i_X2_milkOne mw_s_X2_milkOne mw_m_RX2_97 (mx_H h0) rfl (r_X2_milkOne h0 h1 ho_3) rfl rfl (Nat.le_of_ble_eq_true rfl) (by decide) dX2_passAlone_14 rfl (fun v fv gv hp => ?_)
  obtain ⟨rfl, rfl, rfl⟩ := hp
  refine ev_pop (q := 18) dX2_passAlone_17 rfl rfl ?_
  refine ev_iload_n (q := 19) dX2_passAlone_18 rfl rfl ?_
  obtain rfl := Option.some.inj hg
  exact ev_iret dX2_passAlone_19 rfl ⟨rfl, rfl, rfl⟩
def g_X3_begin_17 : Nat → Nat → Int32 → Int32 → mj_I → Option (mj_I)
  | 0, _, _, _, _ => none
  | n + 1, a0, x2, x3, f =>
    if x3 < x2 then
     if mj_in x3 40 = true then
     mj_lt (mj_wr f (a0 + 1) (ix x3) (0 : Int32)) (fun f_5 =>
      g_X3_begin_17 n a0 x2 (x3 + (1 : Int32)) f_5)
     else none
    else
     some (f)
theorem r_X3_begin_17 {g : mj_L} {post : Option Value → mj_I → mj_L → Prop} : ∀ (n : Nat) (a0 : Nat) (x2 : Int32) (x3 : Int32) (f : mj_I) (o : mj_I), mx_isR a0 → g_X3_begin_17 n a0 x2 x3 f = some o → mj_Ev jX3_begin 35 [none, none, none, none] [] mx_S o g post → mj_Ev jX3_begin 17 [some (.ref a0), none, some (.int x2), some (.int x3)] [] mx_S f g post := by
  intro n
  induction n with
  | zero =>
    intro a0 x2 x3 f o h0 hg hk
    cases hg
  | succ n ih =>
    intro a0 x2 x3 f o h0 hg hk
    unfold g_X3_begin_17 at hg
    refine ev_iload_n (q := 18) dX3_begin_17 rfl rfl ?_
    refine ev_iload_n (q := 19) dX3_begin_18 rfl rfl ?_
    refine ev_icmp_ge (t := 35) (q := 22) dX3_begin_19 rfl rfl hg (fun hg => ?_) (fun hg => ?_)
    · refine ev_aload_n (q := 23) dX3_begin_22 rfl rfl ?_
      refine ev_getfR (q := 26) mw_f_RX3_22 (mx_R h0) rfl dX3_begin_23 rfl ?_
      refine ev_iload_n (q := 27) dX3_begin_26 rfl rfl ?_
      refine ev_iconst (v := 0) (q := 28) dX3_begin_27 mci_0 rfl ?_
      obtain ⟨hi_5, hg⟩ := mj_gd hg
      refine ev_iastk (q := 29) (mx_RI h0) hi_5 rfl dX3_begin_28 rfl ?_
      refine ev_nmf (fun f_5 hf_5 => ?_)
      have hg := mj_lt_el hf_5 hg
      refine ev_iinc (v := 1) (q := 32) (loc' := [some (.ref _), none, some (.int _), some (.int _)]) dX3_begin_29 rfl (by decide) mci_1 rfl rfl ?_
      refine ev_goto (q := 17) dX3_begin_32 rfl ?_
      exact ih _ _ _ _ _ h0 hg hk
    · obtain rfl := Option.some.inj hg
      refine ev_wk (loc' := [none, none, none, none]) trivial ?_
      exact hk
def g_X3_begin (a0 : Nat) (x1 : Int32) (x2 : Int32) (f : mj_I) : Option (mj_I) :=
  mj_lt (mj_wr f a0 0 (1 : Int32)) (fun f_1 =>
  mj_lt (mj_wr f_1 a0 1 x1) (fun f_2 =>
  mj_lt (mj_wr f_2 a0 2 x2) (fun f_3 =>
  (g_X3_begin_17 mj_fuel a0 x2 (0 : Int32) f_3).bind (fun q_4 =>
  some (q_4)))))
theorem r_X3_begin {a0 : Nat} {x1 : Int32} {x2 : Int32} {f : mj_I} {g : mj_L} {o : mj_I} (h0 : mx_isR a0) (hg : g_X3_begin a0 x1 x2 f = some o) : mj_Sp jX3_begin mx_S [.ref a0, .int x1, .int x2] f g (fun v f' g' => none = v ∧ o = f' ∧ g = g') := by
  refine mj_sp 1 (by decide +kernel) rfl rfl (fun _ _ => Nat.le_of_ble_eq_true rfl) ?_
  show mj_Ev jX3_begin 0 [some (.ref a0), some (.int x1), some (.int x2), none] [] mx_S f g _
  unfold g_X3_begin at hg
  refine ev_aload_n (q := 1) dX3_begin_0 rfl rfl ?_
  refine ev_iconst (v := 1) (q := 2) dX3_begin_1 mci_1 rfl ?_
  refine ev_putfZ (q := 5) mw_f_RX3_9 (mx_R h0) (mcz_1) dX3_begin_2 rfl ?_
  refine ev_nmf (fun f_1 hf_1 => ?_)
  have hg := mj_lt_el hf_1 hg
  refine ev_aload_n (q := 6) dX3_begin_5 rfl rfl ?_
  refine ev_iload_n (q := 7) dX3_begin_6 rfl rfl ?_
  refine ev_putfI (q := 10) mw_f_RX3_15 (mx_R h0) dX3_begin_7 rfl ?_
  refine ev_nmf (fun f_2 hf_2 => ?_)
  have hg := mj_lt_el hf_2 hg
  refine ev_aload_n (q := 11) dX3_begin_10 rfl rfl ?_
  refine ev_iload_n (q := 12) dX3_begin_11 rfl rfl ?_
  refine ev_putfI (q := 15) mw_f_RX3_19 (mx_R h0) dX3_begin_12 rfl ?_
  refine ev_nmf (fun f_3 hf_3 => ?_)
  have hg := mj_lt_el hf_3 hg
  refine ev_iconst (v := 0) (q := 16) dX3_begin_15 mci_0 rfl ?_
  refine ev_istore_n (q := 17) (loc' := [some (.ref _), some (.int _), some (.int _), some (.int _)]) dX3_begin_16 (by decide) rfl rfl ?_
  obtain ⟨q_4, hq_4, hg⟩ := mj_bd hg
  refine ev_wk (loc' := [some (.ref _), none, some (.int _), some (.int _)]) ⟨rfl, rfl, rfl, trivial⟩ ?_
  refine r_X3_begin_17 mj_fuel _ _ _ _ _ h0 hq_4 ?_
  obtain rfl := Option.some.inj hg
  exact ev_vret dX3_begin_35 rfl ⟨rfl, rfl, rfl⟩
def g_X3_has (a0 : Nat) (x1 : Int32) (x2 : Int32) (f : mj_I) : Int32 :=
  if x1 < 0 then
   (0 : Int32)
  else
   if x2 < 0 then
    (0 : Int32)
   else
    if (f a0 2) < x2 then
     (0 : Int32)
    else
     if ((f a0 2) - x2) < x1 then
      (0 : Int32)
     else
      (1 : Int32)
theorem r_X3_has {a0 : Nat} {x1 : Int32} {x2 : Int32} {f : mj_I} {g : mj_L} {o : Int32} (h0 : mx_isR a0) (hg : g_X3_has a0 x1 x2 f = o) : mj_Sp jX3_has mx_S [.ref a0, .int x1, .int x2] f g (fun v f' g' => some (.int o) = v ∧ f = f' ∧ g = g' ∧ mj_b (o) = true) := by
  refine mj_sp 0 (by decide +kernel) rfl rfl (fun _ _ => Nat.le_of_ble_eq_true rfl) ?_
  show mj_Ev jX3_has 0 [some (.ref a0), some (.int x1), some (.int x2)] [] mx_S f g _
  unfold g_X3_has at hg
  refine ev_iload_n (q := 1) dX3_has_0 rfl rfl ?_
  refine ev_if_lt (t := 30) (q := 4) dX3_has_1 rfl rfl hg (fun hg => ?_) (fun hg => ?_)
  · refine ev_iconst (v := 0) (q := 31) dX3_has_30 mci_0 rfl ?_
    subst hg
    exact ev_zret dX3_has_31 rfl (mcz_0) ⟨rfl, rfl, rfl, (mcz_0)⟩
  · refine ev_iload_n (q := 5) dX3_has_4 rfl rfl ?_
    refine ev_if_lt (t := 30) (q := 8) dX3_has_5 rfl rfl hg (fun hg => ?_) (fun hg => ?_)
    · refine ev_iconst (v := 0) (q := 31) dX3_has_30 mci_0 rfl ?_
      subst hg
      exact ev_zret dX3_has_31 rfl (mcz_0) ⟨rfl, rfl, rfl, (mcz_0)⟩
    · refine ev_iload_n (q := 9) dX3_has_8 rfl rfl ?_
      refine ev_aload_n (q := 10) dX3_has_9 rfl rfl ?_
      refine ev_getfI (q := 13) mw_f_RX3_19 (by decide) (by decide) (mx_R h0) dX3_has_10 rfl ?_
      refine ev_icmp_gt (t := 30) (q := 16) dX3_has_13 rfl rfl hg (fun hg => ?_) (fun hg => ?_)
      · refine ev_iconst (v := 0) (q := 31) dX3_has_30 mci_0 rfl ?_
        subst hg
        exact ev_zret dX3_has_31 rfl (mcz_0) ⟨rfl, rfl, rfl, (mcz_0)⟩
      · refine ev_iload_n (q := 17) dX3_has_16 rfl rfl ?_
        refine ev_aload_n (q := 18) dX3_has_17 rfl rfl ?_
        refine ev_getfI (q := 21) mw_f_RX3_19 (by decide) (by decide) (mx_R h0) dX3_has_18 rfl ?_
        refine ev_iload_n (q := 22) dX3_has_21 rfl rfl ?_
        refine ev_isub (q := 23) dX3_has_22 rfl ?_
        refine ev_icmp_gt (t := 30) (q := 26) dX3_has_23 rfl rfl hg (fun hg => ?_) (fun hg => ?_)
        · refine ev_iconst (v := 0) (q := 31) dX3_has_30 mci_0 rfl ?_
          subst hg
          exact ev_zret dX3_has_31 rfl (mcz_0) ⟨rfl, rfl, rfl, (mcz_0)⟩
        · refine ev_iconst (v := 1) (q := 27) dX3_has_26 mci_1 rfl ?_
          refine ev_goto (q := 31) dX3_has_27 rfl ?_
          subst hg
          exact ev_zret dX3_has_31 rfl (mcz_1) ⟨rfl, rfl, rfl, (mcz_1)⟩
def g_X3_lack (a0 : Nat) (x1 : Int32) (x2 : Int32) (f : mj_I) : Int32 :=
  if (f a0 0) = 0 then
   (1 : Int32)
  else
   if (g_X3_has a0 x1 x2 f) = 0 then
    (2 : Int32)
   else
    (0 : Int32)
theorem r_X3_lack {a0 : Nat} {x1 : Int32} {x2 : Int32} {f : mj_I} {g : mj_L} {o : Int32} (h0 : mx_isR a0) (hg : g_X3_lack a0 x1 x2 f = o) : mj_Sp jX3_lack mx_S [.ref a0, .int x1, .int x2] f g (fun v f' g' => some (.int o) = v ∧ f = f' ∧ g = g') := by
  refine mj_sp 0 (by decide +kernel) rfl rfl (fun _ _ => Nat.le_of_ble_eq_true rfl) ?_
  show mj_Ev jX3_lack 0 [some (.ref a0), some (.int x1), some (.int x2)] [] mx_S f g _
  unfold g_X3_lack at hg
  refine ev_aload_n (q := 1) dX3_lack_0 rfl rfl ?_
  refine ev_getfI (q := 4) mw_f_RX3_9 (by decide) (by decide) (mx_R h0) dX3_lack_1 rfl ?_
  refine ev_if_ne (t := 9) (q := 7) dX3_lack_4 rfl rfl hg (fun hg => ?_) (fun hg => ?_)
  · refine ev_iconst (v := 1) (q := 8) dX3_lack_7 mci_1 rfl ?_
    subst hg
    exact ev_iret dX3_lack_8 rfl ⟨rfl, rfl, rfl⟩
  · refine ev_aload_n (q := 10) dX3_lack_9 rfl rfl ?_
    refine ev_iload_n (q := 11) dX3_lack_10 rfl rfl ?_
    refine ev_iload_n (q := 12) dX3_lack_11 rfl rfl ?_
    refine ev_callV (q := 15) kX3_has mw_i_X3_has mw_s_X3_has mw_m_RX3_26 (mx_R h0) rfl (r_X3_has h0 rfl) rfl rfl (Nat.le_of_ble_eq_true rfl) (by decide) dX3_lack_12 rfl (fun v fv gv hp => ?_)
    obtain ⟨rfl, rfl, rfl, hr_1⟩ := hp
    refine ev_if_eq (t := 22) (q := 18) dX3_lack_15 rfl rfl hg (fun hg => ?_) (fun hg => ?_)
    · refine ev_iconst (v := 2) (q := 23) dX3_lack_22 mci_2 rfl ?_
      subst hg
      exact ev_iret dX3_lack_23 rfl ⟨rfl, rfl, rfl⟩
    · refine ev_iconst (v := 0) (q := 19) dX3_lack_18 mci_0 rfl ?_
      refine ev_goto (q := 23) dX3_lack_19 rfl ?_
      subst hg
      exact ev_iret dX3_lack_23 rfl ⟨rfl, rfl, rfl⟩
def g_X3_put (a0 : Nat) (x1 : Int32) (x2 : Int32) (f : mj_I) : Option (Int32 × mj_I) :=
  if (f a0 1) = 0 then
   if mj_in x1 40 = true then
   mj_lt (mj_wr f (a0 + 1) (ix x1) (x2).toInt8.toInt32) (fun f_1 =>
    if mj_in x1 40 = true then
    some (((f_1 (a0 + 1) (ix x1)), f_1))
    else none)
   else none
  else
   if (f a0 1) = (1 : Int32) then
    if mj_in x1 40 = true then
    mj_lt (mj_wr f (a0 + 1) (ix x1) (x2).toInt16.toInt32) (fun f_3 =>
     if mj_in x1 40 = true then
     some (((f_3 (a0 + 1) (ix x1)), f_3))
     else none)
    else none
   else
    if mj_in x1 40 = true then
    mj_lt (mj_wr f (a0 + 1) (ix x1) x2) (fun f_5 =>
     if mj_in x1 40 = true then
     some (((f_5 (a0 + 1) (ix x1)), f_5))
     else none)
    else none
theorem r_X3_put {a0 : Nat} {x1 : Int32} {x2 : Int32} {f : mj_I} {g : mj_L} {o : Int32 × mj_I} (h0 : mx_isR a0) (hg : g_X3_put a0 x1 x2 f = some o) : mj_Sp jX3_put mx_S [.ref a0, .int x1, .int x2] f g (fun v f' g' => some (.int o.1) = v ∧ o.2 = f' ∧ g = g') := by
  refine mj_sp 0 (by decide +kernel) rfl rfl (fun _ _ => Nat.le_of_ble_eq_true rfl) ?_
  show mj_Ev jX3_put 0 [some (.ref a0), some (.int x1), some (.int x2)] [] mx_S f g _
  unfold g_X3_put at hg
  refine ev_aload_n (q := 1) dX3_put_0 rfl rfl ?_
  refine ev_getfR (q := 4) mw_f_RX3_22 (mx_R h0) rfl dX3_put_1 rfl ?_
  refine ev_iload_n (q := 5) dX3_put_4 rfl rfl ?_
  refine ev_aload_n (q := 6) dX3_put_5 rfl rfl ?_
  refine ev_getfI (q := 9) mw_f_RX3_15 (by decide) (by decide) (mx_R h0) dX3_put_6 rfl ?_
  refine ev_if_ne (t := 17) (q := 12) dX3_put_9 rfl rfl hg (fun hg => ?_) (fun hg => ?_)
  · refine ev_iload_n (q := 13) dX3_put_12 rfl rfl ?_
    refine ev_i2b (q := 14) dX3_put_13 rfl ?_
    refine ev_goto (q := 31) dX3_put_14 rfl ?_
    obtain ⟨hi_1, hg⟩ := mj_gd hg
    refine ev_iastk (q := 32) (mx_RI h0) hi_1 rfl dX3_put_31 rfl ?_
    refine ev_nmf (fun f_1 hf_1 => ?_)
    have hg := mj_lt_el hf_1 hg
    refine ev_aload_n (q := 33) dX3_put_32 rfl rfl ?_
    refine ev_getfR (q := 36) mw_f_RX3_22 (mx_R h0) rfl dX3_put_33 rfl ?_
    refine ev_iload_n (q := 37) dX3_put_36 rfl rfl ?_
    obtain ⟨hi_2, hg⟩ := mj_gd hg
    refine ev_ialdk (q := 38) (mx_RI h0) hi_2 rfl dX3_put_37 rfl ?_
    obtain rfl := Option.some.inj hg
    exact ev_iret dX3_put_38 rfl ⟨rfl, rfl, rfl⟩
  · refine ev_aload_n (q := 18) dX3_put_17 rfl rfl ?_
    refine ev_getfI (q := 21) mw_f_RX3_15 (by decide) (by decide) (mx_R h0) dX3_put_18 rfl ?_
    refine ev_iconst (v := 1) (q := 22) dX3_put_21 mci_1 rfl ?_
    refine ev_icmp_ne (t := 30) (q := 25) dX3_put_22 rfl rfl hg (fun hg => ?_) (fun hg => ?_)
    · refine ev_iload_n (q := 26) dX3_put_25 rfl rfl ?_
      refine ev_i2s (q := 27) dX3_put_26 rfl ?_
      refine ev_goto (q := 31) dX3_put_27 rfl ?_
      obtain ⟨hi_3, hg⟩ := mj_gd hg
      refine ev_iastk (q := 32) (mx_RI h0) hi_3 rfl dX3_put_31 rfl ?_
      refine ev_nmf (fun f_3 hf_3 => ?_)
      have hg := mj_lt_el hf_3 hg
      refine ev_aload_n (q := 33) dX3_put_32 rfl rfl ?_
      refine ev_getfR (q := 36) mw_f_RX3_22 (mx_R h0) rfl dX3_put_33 rfl ?_
      refine ev_iload_n (q := 37) dX3_put_36 rfl rfl ?_
      obtain ⟨hi_4, hg⟩ := mj_gd hg
      refine ev_ialdk (q := 38) (mx_RI h0) hi_4 rfl dX3_put_37 rfl ?_
      obtain rfl := Option.some.inj hg
      exact ev_iret dX3_put_38 rfl ⟨rfl, rfl, rfl⟩
    · refine ev_iload_n (q := 31) dX3_put_30 rfl rfl ?_
      obtain ⟨hi_5, hg⟩ := mj_gd hg
      refine ev_iastk (q := 32) (mx_RI h0) hi_5 rfl dX3_put_31 rfl ?_
      refine ev_nmf (fun f_5 hf_5 => ?_)
      have hg := mj_lt_el hf_5 hg
      refine ev_aload_n (q := 33) dX3_put_32 rfl rfl ?_
      refine ev_getfR (q := 36) mw_f_RX3_22 (mx_R h0) rfl dX3_put_33 rfl ?_
      refine ev_iload_n (q := 37) dX3_put_36 rfl rfl ?_
      obtain ⟨hi_6, hg⟩ := mj_gd hg
      refine ev_ialdk (q := 38) (mx_RI h0) hi_6 rfl dX3_put_37 rfl ?_
      obtain rfl := Option.some.inj hg
      exact ev_iret dX3_put_38 rfl ⟨rfl, rfl, rfl⟩
def g_X4_add (x1 : Int32) (f : mj_I) : Option (Int32 × mj_I) :=
  if (f 2 1) < (120 : Int32) then
   if mj_in (f 2 1) 120 = true then
   mj_lt (mj_wr f 3 (ix (f 2 1)) x1) (fun f_1 =>
    mj_lt (mj_wr f_1 2 1 ((f_1 2 1) + (1 : Int32))) (fun f_2 =>
    some (((1 : Int32), f_2))))
   else none
  else
   some (((0 : Int32), f))
theorem r_X4_add {x1 : Int32} {f : mj_I} {g : mj_L} {o : Int32 × mj_I} (hg : g_X4_add x1 f = some o) : mj_Sp jX4_add mx_S [.ref 2, .int x1] f g (fun v f' g' => some (.int o.1) = v ∧ o.2 = f' ∧ g = g' ∧ mj_b (o.1) = true) := by
  refine mj_sp 0 (by decide +kernel) rfl rfl (fun _ _ => Nat.le_of_ble_eq_true rfl) ?_
  show mj_Ev jX4_add 0 [some (.ref 2), some (.int x1)] [] mx_S f g _
  unfold g_X4_add at hg
  refine ev_aload_n (q := 1) dX4_add_0 rfl rfl ?_
  refine ev_getfI (q := 4) mw_f_RX4_15 (by decide) (by decide) rfl dX4_add_1 rfl ?_
  refine ev_bipush (v := 120) (q := 6) dX4_add_4 mcb_120 rfl ?_
  refine ev_icmp_lt (t := 11) (q := 9) dX4_add_6 rfl rfl hg (fun hg => ?_) (fun hg => ?_)
  · refine ev_aload_n (q := 12) dX4_add_11 rfl rfl ?_
    refine ev_getfR (q := 15) mw_f_RX4_9 rfl rfl dX4_add_12 rfl ?_
    refine ev_aload_n (q := 16) dX4_add_15 rfl rfl ?_
    refine ev_getfI (q := 19) mw_f_RX4_15 (by decide) (by decide) rfl dX4_add_16 rfl ?_
    refine ev_iload_n (q := 20) dX4_add_19 rfl rfl ?_
    obtain ⟨hi_1, hg⟩ := mj_gd hg
    refine ev_iastk (q := 21) rfl hi_1 rfl dX4_add_20 rfl ?_
    refine ev_nmf (fun f_1 hf_1 => ?_)
    have hg := mj_lt_el hf_1 hg
    refine ev_aload_n (q := 22) dX4_add_21 rfl rfl ?_
    refine ev_dup (q := 23) dX4_add_22 rfl rfl ?_
    refine ev_getfI (q := 26) mw_f_RX4_15 (by decide) (by decide) rfl dX4_add_23 rfl ?_
    refine ev_iconst (v := 1) (q := 27) dX4_add_26 mci_1 rfl ?_
    refine ev_iadd (q := 28) dX4_add_27 rfl ?_
    refine ev_putfI (q := 31) mw_f_RX4_15 rfl dX4_add_28 rfl ?_
    refine ev_nmf (fun f_2 hf_2 => ?_)
    have hg := mj_lt_el hf_2 hg
    refine ev_iconst (v := 1) (q := 32) dX4_add_31 mci_1 rfl ?_
    obtain rfl := Option.some.inj hg
    exact ev_zret dX4_add_32 rfl (mcz_1) ⟨rfl, rfl, rfl, (mcz_1)⟩
  · refine ev_iconst (v := 0) (q := 10) dX4_add_9 mci_0 rfl ?_
    obtain rfl := Option.some.inj hg
    exact ev_zret dX4_add_10 rfl (mcz_0) ⟨rfl, rfl, rfl, (mcz_0)⟩
def g_X4_isFigure (x1 : Int32) (f : mj_I) : Option (Int32) :=
  if x1 < (f 2 1) then
   if mj_in x1 120 = true then
   if (f 3 (ix x1)) < (48 : Int32) then
     some ((0 : Int32))
    else
     if mj_in x1 120 = true then
     if (57 : Int32) < (f 3 (ix x1)) then
       some ((0 : Int32))
      else
       some ((1 : Int32))
     else none
   else none
  else
   some ((0 : Int32))
theorem r_X4_isFigure {x1 : Int32} {f : mj_I} {g : mj_L} {o : Int32} (hg : g_X4_isFigure x1 f = some o) : mj_Sp jX4_isFigure mx_S [.ref 2, .int x1] f g (fun v f' g' => some (.int o) = v ∧ f = f' ∧ g = g' ∧ mj_b (o) = true) := by
  refine mj_sp 0 (by decide +kernel) rfl rfl (fun _ _ => Nat.le_of_ble_eq_true rfl) ?_
  show mj_Ev jX4_isFigure 0 [some (.ref 2), some (.int x1)] [] mx_S f g _
  unfold g_X4_isFigure at hg
  refine ev_iload_n (q := 1) dX4_isFigure_0 rfl rfl ?_
  refine ev_aload_n (q := 2) dX4_isFigure_1 rfl rfl ?_
  refine ev_getfI (q := 5) mw_f_RX4_15 (by decide) (by decide) rfl dX4_isFigure_2 rfl ?_
  refine ev_icmp_ge (t := 34) (q := 8) dX4_isFigure_5 rfl rfl hg (fun hg => ?_) (fun hg => ?_)
  · refine ev_aload_n (q := 9) dX4_isFigure_8 rfl rfl ?_
    refine ev_getfR (q := 12) mw_f_RX4_9 rfl rfl dX4_isFigure_9 rfl ?_
    refine ev_iload_n (q := 13) dX4_isFigure_12 rfl rfl ?_
    obtain ⟨hi_1, hg⟩ := mj_gd hg
    refine ev_ialdk (q := 14) rfl hi_1 rfl dX4_isFigure_13 rfl ?_
    refine ev_bipush (v := 48) (q := 16) dX4_isFigure_14 mcb_48 rfl ?_
    refine ev_icmp_lt (t := 34) (q := 19) dX4_isFigure_16 rfl rfl hg (fun hg => ?_) (fun hg => ?_)
    · refine ev_iconst (v := 0) (q := 35) dX4_isFigure_34 mci_0 rfl ?_
      obtain rfl := Option.some.inj hg
      exact ev_zret dX4_isFigure_35 rfl (mcz_0) ⟨rfl, rfl, rfl, (mcz_0)⟩
    · refine ev_aload_n (q := 20) dX4_isFigure_19 rfl rfl ?_
      refine ev_getfR (q := 23) mw_f_RX4_9 rfl rfl dX4_isFigure_20 rfl ?_
      refine ev_iload_n (q := 24) dX4_isFigure_23 rfl rfl ?_
      obtain ⟨hi_2, hg⟩ := mj_gd hg
      refine ev_ialdk (q := 25) rfl hi_2 rfl dX4_isFigure_24 rfl ?_
      refine ev_bipush (v := 57) (q := 27) dX4_isFigure_25 mcb_57 rfl ?_
      refine ev_icmp_gt (t := 34) (q := 30) dX4_isFigure_27 rfl rfl hg (fun hg => ?_) (fun hg => ?_)
      · refine ev_iconst (v := 0) (q := 35) dX4_isFigure_34 mci_0 rfl ?_
        obtain rfl := Option.some.inj hg
        exact ev_zret dX4_isFigure_35 rfl (mcz_0) ⟨rfl, rfl, rfl, (mcz_0)⟩
      · refine ev_iconst (v := 1) (q := 31) dX4_isFigure_30 mci_1 rfl ?_
        refine ev_goto (q := 35) dX4_isFigure_31 rfl ?_
        obtain rfl := Option.some.inj hg
        exact ev_zret dX4_isFigure_35 rfl (mcz_1) ⟨rfl, rfl, rfl, (mcz_1)⟩
  · refine ev_iconst (v := 0) (q := 35) dX4_isFigure_34 mci_0 rfl ?_
    obtain rfl := Option.some.inj hg
    exact ev_zret dX4_isFigure_35 rfl (mcz_0) ⟨rfl, rfl, rfl, (mcz_0)⟩
def g_X4_lookAtFigures_15 : Nat → Int32 → mj_I → Option (mj_I)
  | 0, _, _ => none
  | n + 1, x1, f =>
    if x1 < (3 : Int32) then
     (g_X4_isFigure (f 2 3) f).bind (fun o_6 =>
     if o_6 = 0 then
      some (f)
     else
      if mj_in (f 2 3) 120 = true then
      mj_lt (mj_wr f 2 5 ((((f 2 5) * (10 : Int32)) + (f 3 (ix (f 2 3)))) - (48 : Int32))) (fun f_8 =>
       mj_lt (mj_wr f_8 2 3 ((f_8 2 3) + (1 : Int32))) (fun f_9 =>
       g_X4_lookAtFigures_15 n (x1 + (1 : Int32)) f_9))
      else none)
    else
     some (f)
theorem r_X4_lookAtFigures_15 {g : mj_L} {post : Option Value → mj_I → mj_L → Prop} : ∀ (n : Nat) (x1 : Int32) (f : mj_I) (o : mj_I), g_X4_lookAtFigures_15 n x1 f = some o → mj_Ev jX4_lookAtFigures 71 [some (.ref 2), none] [] mx_S o g post → mj_Ev jX4_lookAtFigures 15 [some (.ref 2), some (.int x1)] [] mx_S f g post := by
  intro n
  induction n with
  | zero =>
    intro x1 f o hg hk
    cases hg
  | succ n ih =>
    intro x1 f o hg hk
    unfold g_X4_lookAtFigures_15 at hg
    refine ev_iload_n (q := 16) dX4_lookAtFigures_15 rfl rfl ?_
    refine ev_iconst (v := 3) (q := 17) dX4_lookAtFigures_16 mci_3 rfl ?_
    refine ev_icmp_ge (t := 71) (q := 20) dX4_lookAtFigures_17 rfl rfl hg (fun hg => ?_) (fun hg => ?_)
    · refine ev_aload_n (q := 21) dX4_lookAtFigures_20 rfl rfl ?_
      refine ev_aload_n (q := 22) dX4_lookAtFigures_21 rfl rfl ?_
      refine ev_getfI (q := 25) mw_f_RX4_22 (by decide) (by decide) rfl dX4_lookAtFigures_22 rfl ?_
      obtain ⟨o_6, ho_6, hg⟩ := mj_bd hg
      refine ev_callV (q := 28) kX4_isFigure mw_i_X4_isFigure mw_s_X4_isFigure mw_m_RX4_109 rfl rfl (r_X4_isFigure ho_6) rfl rfl (Nat.le_of_ble_eq_true rfl) (by decide) dX4_lookAtFigures_25 rfl (fun v fv gv hp => ?_)
      obtain ⟨rfl, rfl, rfl, hr_6⟩ := hp
      refine ev_if_eq (t := 71) (q := 31) dX4_lookAtFigures_28 rfl rfl hg (fun hg => ?_) (fun hg => ?_)
      · obtain rfl := Option.some.inj hg
        refine ev_wk (loc' := [some (.ref _), none]) ⟨rfl, trivial⟩ ?_
        exact hk
      · refine ev_aload_n (q := 32) dX4_lookAtFigures_31 rfl rfl ?_
        refine ev_aload_n (q := 33) dX4_lookAtFigures_32 rfl rfl ?_
        refine ev_getfI (q := 36) mw_f_RX4_28 (by decide) (by decide) rfl dX4_lookAtFigures_33 rfl ?_
        refine ev_bipush (v := 10) (q := 38) dX4_lookAtFigures_36 mcb_10 rfl ?_
        refine ev_imul (q := 39) dX4_lookAtFigures_38 rfl ?_
        refine ev_aload_n (q := 40) dX4_lookAtFigures_39 rfl rfl ?_
        refine ev_getfR (q := 43) mw_f_RX4_9 rfl rfl dX4_lookAtFigures_40 rfl ?_
        refine ev_aload_n (q := 44) dX4_lookAtFigures_43 rfl rfl ?_
        refine ev_getfI (q := 47) mw_f_RX4_22 (by decide) (by decide) rfl dX4_lookAtFigures_44 rfl ?_
        obtain ⟨hi_7, hg⟩ := mj_gd hg
        refine ev_ialdk (q := 48) rfl hi_7 rfl dX4_lookAtFigures_47 rfl ?_
        refine ev_iadd (q := 49) dX4_lookAtFigures_48 rfl ?_
        refine ev_bipush (v := 48) (q := 51) dX4_lookAtFigures_49 mcb_48 rfl ?_
        refine ev_isub (q := 52) dX4_lookAtFigures_51 rfl ?_
        refine ev_putfI (q := 55) mw_f_RX4_28 rfl dX4_lookAtFigures_52 rfl ?_
        refine ev_nmf (fun f_8 hf_8 => ?_)
        have hg := mj_lt_el hf_8 hg
        refine ev_aload_n (q := 56) dX4_lookAtFigures_55 rfl rfl ?_
        refine ev_dup (q := 57) dX4_lookAtFigures_56 rfl rfl ?_
        refine ev_getfI (q := 60) mw_f_RX4_22 (by decide) (by decide) rfl dX4_lookAtFigures_57 rfl ?_
        refine ev_iconst (v := 1) (q := 61) dX4_lookAtFigures_60 mci_1 rfl ?_
        refine ev_iadd (q := 62) dX4_lookAtFigures_61 rfl ?_
        refine ev_putfI (q := 65) mw_f_RX4_22 rfl dX4_lookAtFigures_62 rfl ?_
        refine ev_nmf (fun f_9 hf_9 => ?_)
        have hg := mj_lt_el hf_9 hg
        refine ev_iinc (v := 1) (q := 68) (loc' := [some (.ref _), some (.int _)]) dX4_lookAtFigures_65 rfl (by decide) mci_1 rfl rfl ?_
        refine ev_goto (q := 15) dX4_lookAtFigures_68 rfl ?_
        exact ih _ _ _ hg hk
    · obtain rfl := Option.some.inj hg
      refine ev_wk (loc' := [some (.ref _), none]) ⟨rfl, trivial⟩ ?_
      exact hk
def g_X4_lookAtFigures (f : mj_I) : Option (mj_I) :=
  mj_lt (mj_wr f 2 5 (0 : Int32)) (fun f_1 =>
  mj_lt (mj_wr f_1 2 3 (f_1 2 2)) (fun f_2 =>
  (g_X4_lookAtFigures_15 mj_fuel (0 : Int32) f_2).bind (fun q_3 =>
  if (2 : Int32) < ((q_3 2 3) - (q_3 2 2)) then
   mj_lt (mj_wr q_3 2 4 (-2 : Int32)) (fun f_4 =>
   some (f_4))
  else
   mj_lt (mj_wr q_3 2 4 (-1 : Int32)) (fun f_5 =>
   some (f_5)))))
theorem r_X4_lookAtFigures {f : mj_I} {g : mj_L} {o : mj_I} (hg : g_X4_lookAtFigures f = some o) : mj_Sp jX4_lookAtFigures mx_S [.ref 2] f g (fun v f' g' => none = v ∧ o = f' ∧ g = g') := by
  refine mj_sp 1 (by decide +kernel) rfl rfl (fun _ _ => Nat.le_of_ble_eq_true rfl) ?_
  show mj_Ev jX4_lookAtFigures 0 [some (.ref 2), none] [] mx_S f g _
  unfold g_X4_lookAtFigures at hg
  refine ev_aload_n (q := 1) dX4_lookAtFigures_0 rfl rfl ?_
  refine ev_iconst (v := 0) (q := 2) dX4_lookAtFigures_1 mci_0 rfl ?_
  refine ev_putfI (q := 5) mw_f_RX4_28 rfl dX4_lookAtFigures_2 rfl ?_
  refine ev_nmf (fun f_1 hf_1 => ?_)
  have hg := mj_lt_el hf_1 hg
  refine ev_aload_n (q := 6) dX4_lookAtFigures_5 rfl rfl ?_
  refine ev_aload_n (q := 7) dX4_lookAtFigures_6 rfl rfl ?_
  refine ev_getfI (q := 10) mw_f_RX4_19 (by decide) (by decide) rfl dX4_lookAtFigures_7 rfl ?_
  refine ev_putfI (q := 13) mw_f_RX4_22 rfl dX4_lookAtFigures_10 rfl ?_
  refine ev_nmf (fun f_2 hf_2 => ?_)
  have hg := mj_lt_el hf_2 hg
  refine ev_iconst (v := 0) (q := 14) dX4_lookAtFigures_13 mci_0 rfl ?_
  refine ev_istore_n (q := 15) (loc' := [some (.ref _), some (.int _)]) dX4_lookAtFigures_14 (by decide) rfl rfl ?_
  obtain ⟨q_3, hq_3, hg⟩ := mj_bd hg
  refine r_X4_lookAtFigures_15 mj_fuel _ _ _ hq_3 ?_
  refine ev_aload_n (q := 72) dX4_lookAtFigures_71 rfl rfl ?_
  refine ev_aload_n (q := 73) dX4_lookAtFigures_72 rfl rfl ?_
  refine ev_getfI (q := 76) mw_f_RX4_22 (by decide) (by decide) rfl dX4_lookAtFigures_73 rfl ?_
  refine ev_aload_n (q := 77) dX4_lookAtFigures_76 rfl rfl ?_
  refine ev_getfI (q := 80) mw_f_RX4_19 (by decide) (by decide) rfl dX4_lookAtFigures_77 rfl ?_
  refine ev_isub (q := 81) dX4_lookAtFigures_80 rfl ?_
  refine ev_iconst (v := 2) (q := 82) dX4_lookAtFigures_81 mci_2 rfl ?_
  refine ev_icmp_gt (t := 89) (q := 85) dX4_lookAtFigures_82 rfl rfl hg (fun hg => ?_) (fun hg => ?_)
  · refine ev_bipush (v := -2) (q := 91) dX4_lookAtFigures_89 mcb_m2 rfl ?_
    refine ev_putfI (q := 94) mw_f_RX4_25 rfl dX4_lookAtFigures_91 rfl ?_
    refine ev_nmf (fun f_4 hf_4 => ?_)
    have hg := mj_lt_el hf_4 hg
    obtain rfl := Option.some.inj hg
    exact ev_vret dX4_lookAtFigures_94 rfl ⟨rfl, rfl, rfl⟩
  · refine ev_iconst (v := -1) (q := 86) dX4_lookAtFigures_85 mci_m1 rfl ?_
    refine ev_goto (q := 91) dX4_lookAtFigures_86 rfl ?_
    refine ev_putfI (q := 94) mw_f_RX4_25 rfl dX4_lookAtFigures_91 rfl ?_
    refine ev_nmf (fun f_5 hf_5 => ?_)
    have hg := mj_lt_el hf_5 hg
    obtain rfl := Option.some.inj hg
    exact ev_vret dX4_lookAtFigures_94 rfl ⟨rfl, rfl, rfl⟩
def g_X6_within (x0 : Int32) (x1 : Int32) (x2 : Int32) : Int32 :=
  if x0 < x1 then
   (0 : Int32)
  else
   if x2 < x0 then
    (0 : Int32)
   else
    (1 : Int32)
theorem r_X6_within {x0 : Int32} {x1 : Int32} {x2 : Int32} {f : mj_I} {g : mj_L} {o : Int32} (hg : g_X6_within x0 x1 x2 = o) : mj_Sp jX6_within mx_S [.int x0, .int x1, .int x2] f g (fun v f' g' => some (.int o) = v ∧ f = f' ∧ g = g' ∧ mj_b (o) = true) := by
  refine mj_sp 0 (by decide +kernel) rfl rfl (fun _ _ => Nat.le_of_ble_eq_true rfl) ?_
  show mj_Ev jX6_within 0 [some (.int x0), some (.int x1), some (.int x2)] [] mx_S f g _
  unfold g_X6_within at hg
  refine ev_iload_n (q := 1) dX6_within_0 rfl rfl ?_
  refine ev_iload_n (q := 2) dX6_within_1 rfl rfl ?_
  refine ev_icmp_lt (t := 14) (q := 5) dX6_within_2 rfl rfl hg (fun hg => ?_) (fun hg => ?_)
  · refine ev_iconst (v := 0) (q := 15) dX6_within_14 mci_0 rfl ?_
    subst hg
    exact ev_zret dX6_within_15 rfl (mcz_0) ⟨rfl, rfl, rfl, (mcz_0)⟩
  · refine ev_iload_n (q := 6) dX6_within_5 rfl rfl ?_
    refine ev_iload_n (q := 7) dX6_within_6 rfl rfl ?_
    refine ev_icmp_gt (t := 14) (q := 10) dX6_within_7 rfl rfl hg (fun hg => ?_) (fun hg => ?_)
    · refine ev_iconst (v := 0) (q := 15) dX6_within_14 mci_0 rfl ?_
      subst hg
      exact ev_zret dX6_within_15 rfl (mcz_0) ⟨rfl, rfl, rfl, (mcz_0)⟩
    · refine ev_iconst (v := 1) (q := 11) dX6_within_10 mci_1 rfl ?_
      refine ev_goto (q := 15) dX6_within_11 rfl ?_
      subst hg
      exact ev_zret dX6_within_15 rfl (mcz_1) ⟨rfl, rfl, rfl, (mcz_1)⟩
def g_X4_isSign (x0 : Int32) : Int32 :=
  if (g_X6_within x0 (97 : Int32) (122 : Int32)) = 0 then
   if x0 = (44 : Int32) then
    (1 : Int32)
   else
    if x0 = (59 : Int32) then
     (1 : Int32)
    else
     (0 : Int32)
  else
   (1 : Int32)
theorem r_X4_isSign {x0 : Int32} {f : mj_I} {g : mj_L} {o : Int32} (hg : g_X4_isSign x0 = o) : mj_Sp jX4_isSign mx_S [.int x0] f g (fun v f' g' => some (.int o) = v ∧ f = f' ∧ g = g' ∧ mj_b (o) = true) := by
  refine mj_sp 0 (by decide +kernel) rfl rfl (fun _ _ => Nat.le_of_ble_eq_true rfl) ?_
  show mj_Ev jX4_isSign 0 [some (.int x0)] [] mx_S f g _
  unfold g_X4_isSign at hg
  refine ev_iload_n (q := 1) dX4_isSign_0 rfl rfl ?_
  refine ev_bipush (v := 97) (q := 3) dX4_isSign_1 mcb_97 rfl ?_
  refine ev_bipush (v := 122) (q := 5) dX4_isSign_3 mcb_122 rfl ?_
  refine ev_callN (q := 8) kX6_within mw_t_X6_within mw_n_RX4_105 (r_X6_within rfl) rfl rfl (Nat.le_of_ble_eq_true rfl) (by decide) dX4_isSign_5 rfl (fun v fv gv hp => ?_)
  obtain ⟨rfl, rfl, rfl, hr_1⟩ := hp
  refine ev_if_ne (t := 23) (q := 11) dX4_isSign_8 rfl rfl hg (fun hg => ?_) (fun hg => ?_)
  · refine ev_iload_n (q := 12) dX4_isSign_11 rfl rfl ?_
    refine ev_bipush (v := 44) (q := 14) dX4_isSign_12 mcb_44 rfl ?_
    refine ev_icmp_eq (t := 23) (q := 17) dX4_isSign_14 rfl rfl hg (fun hg => ?_) (fun hg => ?_)
    · refine ev_iconst (v := 1) (q := 24) dX4_isSign_23 mci_1 rfl ?_
      refine ev_goto (q := 28) dX4_isSign_24 rfl ?_
      subst hg
      exact ev_zret dX4_isSign_28 rfl (mcz_1) ⟨rfl, rfl, rfl, (mcz_1)⟩
    · refine ev_iload_n (q := 18) dX4_isSign_17 rfl rfl ?_
      refine ev_bipush (v := 59) (q := 20) dX4_isSign_18 mcb_59 rfl ?_
      refine ev_icmp_ne (t := 27) (q := 23) dX4_isSign_20 rfl rfl hg (fun hg => ?_) (fun hg => ?_)
      · refine ev_iconst (v := 1) (q := 24) dX4_isSign_23 mci_1 rfl ?_
        refine ev_goto (q := 28) dX4_isSign_24 rfl ?_
        subst hg
        exact ev_zret dX4_isSign_28 rfl (mcz_1) ⟨rfl, rfl, rfl, (mcz_1)⟩
      · refine ev_iconst (v := 0) (q := 28) dX4_isSign_27 mci_0 rfl ?_
        subst hg
        exact ev_zret dX4_isSign_28 rfl (mcz_0) ⟨rfl, rfl, rfl, (mcz_0)⟩
  · refine ev_iconst (v := 1) (q := 24) dX4_isSign_23 mci_1 rfl ?_
    refine ev_goto (q := 28) dX4_isSign_24 rfl ?_
    subst hg
    exact ev_zret dX4_isSign_28 rfl (mcz_1) ⟨rfl, rfl, rfl, (mcz_1)⟩
def g_X4_look (f : mj_I) : Option (mj_I) :=
  mj_lt (mj_wr f 2 2 (f 2 3)) (fun f_1 =>
  if (f_1 2 2) < (f_1 2 1) then
   (g_X4_isFigure (f_1 2 2) f_1).bind (fun o_2 =>
   if o_2 = 0 then
    mj_lt (mj_wr f_1 2 3 ((f_1 2 2) + (1 : Int32))) (fun f_3 =>
    if mj_in (f_3 2 2) 120 = true then
    if (g_X4_isSign (f_3 3 (ix (f_3 2 2)))) = 0 then
      mj_lt (mj_wr f_3 2 4 (-2 : Int32)) (fun f_6 =>
      some (f_6))
     else
      if mj_in (f_3 2 2) 120 = true then
      mj_lt (mj_wr f_3 2 4 (f_3 3 (ix (f_3 2 2)))) (fun f_8 =>
       some (f_8))
      else none
    else none)
   else
    (g_X4_lookAtFigures f_1).bind (fun o_9 =>
    some (o_9)))
  else
   mj_lt (mj_wr f_1 2 4 (-3 : Int32)) (fun f_10 =>
   some (f_10)))
theorem r_X4_look {f : mj_I} {g : mj_L} {o : mj_I} (hg : g_X4_look f = some o) : mj_Sp jX4_look mx_S [.ref 2] f g (fun v f' g' => none = v ∧ o = f' ∧ g = g') := by
  refine mj_sp 0 (by decide +kernel) rfl rfl (fun _ _ => Nat.le_of_ble_eq_true rfl) ?_
  show mj_Ev jX4_look 0 [some (.ref 2)] [] mx_S f g _
  unfold g_X4_look at hg
  refine ev_aload_n (q := 1) dX4_look_0 rfl rfl ?_
  refine ev_aload_n (q := 2) dX4_look_1 rfl rfl ?_
  refine ev_getfI (q := 5) mw_f_RX4_22 (by decide) (by decide) rfl dX4_look_2 rfl ?_
  refine ev_putfI (q := 8) mw_f_RX4_19 rfl dX4_look_5 rfl ?_
  refine ev_nmf (fun f_1 hf_1 => ?_)
  have hg := mj_lt_el hf_1 hg
  refine ev_aload_n (q := 9) dX4_look_8 rfl rfl ?_
  refine ev_getfI (q := 12) mw_f_RX4_19 (by decide) (by decide) rfl dX4_look_9 rfl ?_
  refine ev_aload_n (q := 13) dX4_look_12 rfl rfl ?_
  refine ev_getfI (q := 16) mw_f_RX4_15 (by decide) (by decide) rfl dX4_look_13 rfl ?_
  refine ev_icmp_lt (t := 28) (q := 19) dX4_look_16 rfl rfl hg (fun hg => ?_) (fun hg => ?_)
  · refine ev_aload_n (q := 29) dX4_look_28 rfl rfl ?_
    refine ev_aload_n (q := 30) dX4_look_29 rfl rfl ?_
    refine ev_getfI (q := 33) mw_f_RX4_19 (by decide) (by decide) rfl dX4_look_30 rfl ?_
    obtain ⟨o_2, ho_2, hg⟩ := mj_bd hg
    refine ev_callV (q := 36) kX4_isFigure mw_i_X4_isFigure mw_s_X4_isFigure mw_m_RX4_109 rfl rfl (r_X4_isFigure ho_2) rfl rfl (Nat.le_of_ble_eq_true rfl) (by decide) dX4_look_33 rfl (fun v fv gv hp => ?_)
    obtain ⟨rfl, rfl, rfl, hr_2⟩ := hp
    refine ev_if_eq (t := 46) (q := 39) dX4_look_36 rfl rfl hg (fun hg => ?_) (fun hg => ?_)
    · refine ev_aload_n (q := 47) dX4_look_46 rfl rfl ?_
      refine ev_aload_n (q := 48) dX4_look_47 rfl rfl ?_
      refine ev_getfI (q := 51) mw_f_RX4_19 (by decide) (by decide) rfl dX4_look_48 rfl ?_
      refine ev_iconst (v := 1) (q := 52) dX4_look_51 mci_1 rfl ?_
      refine ev_iadd (q := 53) dX4_look_52 rfl ?_
      refine ev_putfI (q := 56) mw_f_RX4_22 rfl dX4_look_53 rfl ?_
      refine ev_nmf (fun f_3 hf_3 => ?_)
      have hg := mj_lt_el hf_3 hg
      refine ev_aload_n (q := 57) dX4_look_56 rfl rfl ?_
      refine ev_aload_n (q := 58) dX4_look_57 rfl rfl ?_
      refine ev_getfR (q := 61) mw_f_RX4_9 rfl rfl dX4_look_58 rfl ?_
      refine ev_aload_n (q := 62) dX4_look_61 rfl rfl ?_
      refine ev_getfI (q := 65) mw_f_RX4_19 (by decide) (by decide) rfl dX4_look_62 rfl ?_
      obtain ⟨hi_4, hg⟩ := mj_gd hg
      refine ev_ialdk (q := 66) rfl hi_4 rfl dX4_look_65 rfl ?_
      refine ev_callS (q := 69) kX4_isSign mw_t_X4_isSign mw_m_RX4_116 (r_X4_isSign rfl) rfl rfl (Nat.le_of_ble_eq_true rfl) (by decide) dX4_look_66 rfl (fun v fv gv hp => ?_)
      obtain ⟨rfl, rfl, rfl, hr_5⟩ := hp
      refine ev_if_eq (t := 84) (q := 72) dX4_look_69 rfl rfl hg (fun hg => ?_) (fun hg => ?_)
      · refine ev_bipush (v := -2) (q := 86) dX4_look_84 mcb_m2 rfl ?_
        refine ev_putfI (q := 89) mw_f_RX4_25 rfl dX4_look_86 rfl ?_
        refine ev_nmf (fun f_6 hf_6 => ?_)
        have hg := mj_lt_el hf_6 hg
        obtain rfl := Option.some.inj hg
        exact ev_vret dX4_look_89 rfl ⟨rfl, rfl, rfl⟩
      · refine ev_aload_n (q := 73) dX4_look_72 rfl rfl ?_
        refine ev_getfR (q := 76) mw_f_RX4_9 rfl rfl dX4_look_73 rfl ?_
        refine ev_aload_n (q := 77) dX4_look_76 rfl rfl ?_
        refine ev_getfI (q := 80) mw_f_RX4_19 (by decide) (by decide) rfl dX4_look_77 rfl ?_
        obtain ⟨hi_7, hg⟩ := mj_gd hg
        refine ev_ialdk (q := 81) rfl hi_7 rfl dX4_look_80 rfl ?_
        refine ev_goto (q := 86) dX4_look_81 rfl ?_
        refine ev_putfI (q := 89) mw_f_RX4_25 rfl dX4_look_86 rfl ?_
        refine ev_nmf (fun f_8 hf_8 => ?_)
        have hg := mj_lt_el hf_8 hg
        obtain rfl := Option.some.inj hg
        exact ev_vret dX4_look_89 rfl ⟨rfl, rfl, rfl⟩
    · refine ev_aload_n (q := 40) dX4_look_39 rfl rfl ?_
      obtain ⟨o_9, ho_9, hg⟩ := mj_bd hg
      refine ev_callV (q := 43) kX4_lookAtFigures mw_i_X4_lookAtFigures mw_s_X4_lookAtFigures mw_m_RX4_113 rfl rfl (r_X4_lookAtFigures ho_9) rfl rfl (Nat.le_of_ble_eq_true rfl) (by decide) dX4_look_40 rfl (fun v fv gv hp => ?_)
      obtain ⟨rfl, rfl, rfl⟩ := hp
      refine ev_goto (q := 89) dX4_look_43 rfl ?_
      obtain rfl := Option.some.inj hg
      exact ev_vret dX4_look_89 rfl ⟨rfl, rfl, rfl⟩
  · refine ev_aload_n (q := 20) dX4_look_19 rfl rfl ?_
    refine ev_bipush (v := -3) (q := 22) dX4_look_20 mcb_m3 rfl ?_
    refine ev_putfI (q := 25) mw_f_RX4_25 rfl dX4_look_22 rfl ?_
    refine ev_nmf (fun f_10 hf_10 => ?_)
    have hg := mj_lt_el hf_10 hg
    refine ev_goto (q := 89) dX4_look_25 rfl ?_
    obtain rfl := Option.some.inj hg
    exact ev_vret dX4_look_89 rfl ⟨rfl, rfl, rfl⟩
def g_X4_takeSign (x1 : Int32) (f : mj_I) : Option (mj_I) :=
  if (f 2 6) = 0 then
   if (f 2 4) = x1 then
    if (f 2 6) = 0 then
     (g_X4_look f).bind (fun o_1 =>
     some (o_1))
    else
     some (f)
   else
    mj_lt (mj_wr f 2 6 (1 : Int32)) (fun f_2 =>
    if (f_2 2 6) = 0 then
     (g_X4_look f_2).bind (fun o_3 =>
     some (o_3))
    else
     some (f_2))
  else
   if (f 2 6) = 0 then
    (g_X4_look f).bind (fun o_4 =>
    some (o_4))
   else
    some (f)
theorem r_X4_takeSign {x1 : Int32} {f : mj_I} {g : mj_L} {o : mj_I} (hg : g_X4_takeSign x1 f = some o) : mj_Sp jX4_takeSign mx_S [.ref 2, .int x1] f g (fun v f' g' => none = v ∧ o = f' ∧ g = g') := by
  refine mj_sp 0 (by decide +kernel) rfl rfl (fun _ _ => Nat.le_of_ble_eq_true rfl) ?_
  show mj_Ev jX4_takeSign 0 [some (.ref 2), some (.int x1)] [] mx_S f g _
  unfold g_X4_takeSign at hg
  refine ev_aload_n (q := 1) dX4_takeSign_0 rfl rfl ?_
  refine ev_getfI (q := 4) mw_f_RX4_31 (by decide) (by decide) rfl dX4_takeSign_1 rfl ?_
  refine ev_if_ne (t := 20) (q := 7) dX4_takeSign_4 rfl rfl hg (fun hg => ?_) (fun hg => ?_)
  · refine ev_aload_n (q := 8) dX4_takeSign_7 rfl rfl ?_
    refine ev_getfI (q := 11) mw_f_RX4_25 (by decide) (by decide) rfl dX4_takeSign_8 rfl ?_
    refine ev_iload_n (q := 12) dX4_takeSign_11 rfl rfl ?_
    refine ev_icmp_eq (t := 20) (q := 15) dX4_takeSign_12 rfl rfl hg (fun hg => ?_) (fun hg => ?_)
    · refine ev_aload_n (q := 21) dX4_takeSign_20 rfl rfl ?_
      refine ev_getfI (q := 24) mw_f_RX4_31 (by decide) (by decide) rfl dX4_takeSign_21 rfl ?_
      refine ev_if_ne (t := 31) (q := 27) dX4_takeSign_24 rfl rfl hg (fun hg => ?_) (fun hg => ?_)
      · refine ev_aload_n (q := 28) dX4_takeSign_27 rfl rfl ?_
        obtain ⟨o_1, ho_1, hg⟩ := mj_bd hg
        refine ev_callV (q := 31) kX4_look mw_i_X4_look mw_s_X4_look mw_m_RX4_34 rfl rfl (r_X4_look ho_1) rfl rfl (Nat.le_of_ble_eq_true rfl) (by decide) dX4_takeSign_28 rfl (fun v fv gv hp => ?_)
        obtain ⟨rfl, rfl, rfl⟩ := hp
        obtain rfl := Option.some.inj hg
        exact ev_vret dX4_takeSign_31 rfl ⟨rfl, rfl, rfl⟩
      · obtain rfl := Option.some.inj hg
        exact ev_vret dX4_takeSign_31 rfl ⟨rfl, rfl, rfl⟩
    · refine ev_aload_n (q := 16) dX4_takeSign_15 rfl rfl ?_
      refine ev_iconst (v := 1) (q := 17) dX4_takeSign_16 mci_1 rfl ?_
      refine ev_putfI (q := 20) mw_f_RX4_31 rfl dX4_takeSign_17 rfl ?_
      refine ev_nmf (fun f_2 hf_2 => ?_)
      have hg := mj_lt_el hf_2 hg
      refine ev_aload_n (q := 21) dX4_takeSign_20 rfl rfl ?_
      refine ev_getfI (q := 24) mw_f_RX4_31 (by decide) (by decide) rfl dX4_takeSign_21 rfl ?_
      refine ev_if_ne (t := 31) (q := 27) dX4_takeSign_24 rfl rfl hg (fun hg => ?_) (fun hg => ?_)
      · refine ev_aload_n (q := 28) dX4_takeSign_27 rfl rfl ?_
        obtain ⟨o_3, ho_3, hg⟩ := mj_bd hg
        refine ev_callV (q := 31) kX4_look mw_i_X4_look mw_s_X4_look mw_m_RX4_34 rfl rfl (r_X4_look ho_3) rfl rfl (Nat.le_of_ble_eq_true rfl) (by decide) dX4_takeSign_28 rfl (fun v fv gv hp => ?_)
        obtain ⟨rfl, rfl, rfl⟩ := hp
        obtain rfl := Option.some.inj hg
        exact ev_vret dX4_takeSign_31 rfl ⟨rfl, rfl, rfl⟩
      · obtain rfl := Option.some.inj hg
        exact ev_vret dX4_takeSign_31 rfl ⟨rfl, rfl, rfl⟩
  · refine ev_aload_n (q := 21) dX4_takeSign_20 rfl rfl ?_
    refine ev_getfI (q := 24) mw_f_RX4_31 (by decide) (by decide) rfl dX4_takeSign_21 rfl ?_
    refine ev_if_ne (t := 31) (q := 27) dX4_takeSign_24 rfl rfl hg (fun hg => ?_) (fun hg => ?_)
    · refine ev_aload_n (q := 28) dX4_takeSign_27 rfl rfl ?_
      obtain ⟨o_4, ho_4, hg⟩ := mj_bd hg
      refine ev_callV (q := 31) kX4_look mw_i_X4_look mw_s_X4_look mw_m_RX4_34 rfl rfl (r_X4_look ho_4) rfl rfl (Nat.le_of_ble_eq_true rfl) (by decide) dX4_takeSign_28 rfl (fun v fv gv hp => ?_)
      obtain ⟨rfl, rfl, rfl⟩ := hp
      obtain rfl := Option.some.inj hg
      exact ev_vret dX4_takeSign_31 rfl ⟨rfl, rfl, rfl⟩
    · obtain rfl := Option.some.inj hg
      exact ev_vret dX4_takeSign_31 rfl ⟨rfl, rfl, rfl⟩
