def g_X7_cell (x1 : Int32) (x2 : Int32) (f : mj_I) : Option (Int32) :=
  if (f 0 4) = 0 then
   some ((-1000002 : Int32))
  else
   if (g_X7_isCell x1) = 0 then
    some ((-1000001 : Int32))
   else
    if (g_X7_in (x2).toInt64 (0 : Int64) (1 : Int64)) = 0 then
     some ((-1000001 : Int32))
    else
     if x2 = 0 then
      if mj_in ((12 : Int32) + x1) 82 = true then
      some ((f 4 (ix ((12 : Int32) + x1))))
      else none
     else
      (g_X7_over x1 f).bind (fun o_4 =>
      some (o_4))
theorem r_X7_cell {x1 : Int32} {x2 : Int32} {f : mj_I} {g : mj_L} {o : Int32} (hg : g_X7_cell x1 x2 f = some o) : mj_Sp jX7_cell my_S [.ref 0, .int x1, .int x2] f g (fun v f' g' => some (.int o) = v ∧ f = f' ∧ g = g') := by
  refine mj_sp 0 (by decide +kernel) rfl rfl (fun _ _ => Nat.le_of_ble_eq_true rfl) ?_
  show mj_Ev jX7_cell 0 [some (.ref 0), some (.int x1), some (.int x2)] [] my_S f g _
  unfold g_X7_cell at hg
  refine ev_aload_n (q := 1) dX7_cell_0 rfl rfl ?_
  refine ev_getfI (q := 4) mw_f_RX7_154 (by decide) (by decide) rfl dX7_cell_1 rfl ?_
  refine ev_if_ne (t := 10) (q := 7) dX7_cell_4 rfl rfl hg (fun hg => ?_) (fun hg => ?_)
  · refine ev_ldc (q := 9) mw_c_RX7_193 dX7_cell_7 rfl ?_
    obtain rfl := Option.some.inj hg
    exact ev_iret dX7_cell_9 rfl ⟨rfl, rfl, rfl⟩
  · refine ev_iload_n (q := 11) dX7_cell_10 rfl rfl ?_
    refine ev_callS (q := 14) kX7_isCell mw_t_X7_isCell mw_m_RX7_216 (r_X7_isCell rfl) rfl rfl (Nat.le_of_ble_eq_true rfl) (by decide) dX7_cell_11 rfl (fun v fv gv hp => ?_)
    obtain ⟨rfl, rfl, rfl, hr_1⟩ := hp
    refine ev_if_eq (t := 27) (q := 17) dX7_cell_14 rfl rfl hg (fun hg => ?_) (fun hg => ?_)
    · refine ev_ldc (q := 29) mw_c_RX7_70 dX7_cell_27 rfl ?_
      obtain rfl := Option.some.inj hg
      exact ev_iret dX7_cell_29 rfl ⟨rfl, rfl, rfl⟩
    · refine ev_iload_n (q := 18) dX7_cell_17 rfl rfl ?_
      refine ev_i2l (q := 19) dX7_cell_18 rfl ?_
      refine ev_lconst (v := 0) (q := 20) dX7_cell_19 mcl_0 rfl ?_
      refine ev_lconst (v := 1) (q := 21) dX7_cell_20 mcl_1 rfl ?_
      refine ev_callS (q := 24) kX7_in mw_t_X7_in mw_m_RX7_60 (r_X7_in rfl) rfl rfl (Nat.le_of_ble_eq_true rfl) (by decide) dX7_cell_21 rfl (fun v fv gv hp => ?_)
      obtain ⟨rfl, rfl, rfl, hr_2⟩ := hp
      refine ev_if_ne (t := 30) (q := 27) dX7_cell_24 rfl rfl hg (fun hg => ?_) (fun hg => ?_)
      · refine ev_ldc (q := 29) mw_c_RX7_70 dX7_cell_27 rfl ?_
        obtain rfl := Option.some.inj hg
        exact ev_iret dX7_cell_29 rfl ⟨rfl, rfl, rfl⟩
      · refine ev_iload_n (q := 31) dX7_cell_30 rfl rfl ?_
        refine ev_if_ne (t := 46) (q := 34) dX7_cell_31 rfl rfl hg (fun hg => ?_) (fun hg => ?_)
        · refine ev_aload_n (q := 35) dX7_cell_34 rfl rfl ?_
          refine ev_getfR (q := 38) mw_f_RX7_19 rfl rfl dX7_cell_35 rfl ?_
          refine ev_bipush (v := 12) (q := 40) dX7_cell_38 mcb_12 rfl ?_
          refine ev_iload_n (q := 41) dX7_cell_40 rfl rfl ?_
          refine ev_iadd (q := 42) dX7_cell_41 rfl ?_
          obtain ⟨hi_3, hg⟩ := mj_gd hg
          refine ev_ialdk (q := 43) rfl hi_3 rfl dX7_cell_42 rfl ?_
          refine ev_goto (q := 51) dX7_cell_43 rfl ?_
          obtain rfl := Option.some.inj hg
          exact ev_iret dX7_cell_51 rfl ⟨rfl, rfl, rfl⟩
        · refine ev_aload_n (q := 47) dX7_cell_46 rfl rfl ?_
          refine ev_iload_n (q := 48) dX7_cell_47 rfl rfl ?_
          obtain ⟨o_4, ho_4, hg⟩ := mj_bd hg
          refine ev_callV (q := 51) kX7_over mw_i_X7_over mw_s_X7_over mw_m_RX7_219 rfl rfl (r_X7_over ho_4) rfl rfl (Nat.le_of_ble_eq_true rfl) (by decide) dX7_cell_48 rfl (fun v fv gv hp => ?_)
          obtain ⟨rfl, rfl, rfl⟩ := hp
          obtain rfl := Option.some.inj hg
          exact ev_iret dX7_cell_51 rfl ⟨rfl, rfl, rfl⟩
def g_X7_wind (x1 : Int32) (x2 : Int32) (f : mj_I) : Option (Int32) :=
  if (f 0 4) = 0 then
   some ((-1000002 : Int32))
  else
   if (g_X7_in (x1).toInt64 (0 : Int64) (1 : Int64)) = 0 then
    some ((-1000001 : Int32))
   else
    if (g_X7_in (x2).toInt64 (0 : Int64) (5 : Int64)) = 0 then
     some ((-1000001 : Int32))
    else
     if mj_in (((0 : Int32) + ((6 : Int32) * x1)) + x2) 82 = true then
     some ((f 4 (ix (((0 : Int32) + ((6 : Int32) * x1)) + x2))))
     else none
theorem r_X7_wind {x1 : Int32} {x2 : Int32} {f : mj_I} {g : mj_L} {o : Int32} (hg : g_X7_wind x1 x2 f = some o) : mj_Sp jX7_wind my_S [.ref 0, .int x1, .int x2] f g (fun v f' g' => some (.int o) = v ∧ f = f' ∧ g = g') := by
  refine mj_sp 0 (by decide +kernel) rfl rfl (fun _ _ => Nat.le_of_ble_eq_true rfl) ?_
  show mj_Ev jX7_wind 0 [some (.ref 0), some (.int x1), some (.int x2)] [] my_S f g _
  unfold g_X7_wind at hg
  refine ev_aload_n (q := 1) dX7_wind_0 rfl rfl ?_
  refine ev_getfI (q := 4) mw_f_RX7_154 (by decide) (by decide) rfl dX7_wind_1 rfl ?_
  refine ev_if_ne (t := 10) (q := 7) dX7_wind_4 rfl rfl hg (fun hg => ?_) (fun hg => ?_)
  · refine ev_ldc (q := 9) mw_c_RX7_193 dX7_wind_7 rfl ?_
    obtain rfl := Option.some.inj hg
    exact ev_iret dX7_wind_9 rfl ⟨rfl, rfl, rfl⟩
  · refine ev_iload_n (q := 11) dX7_wind_10 rfl rfl ?_
    refine ev_i2l (q := 12) dX7_wind_11 rfl ?_
    refine ev_lconst (v := 0) (q := 13) dX7_wind_12 mcl_0 rfl ?_
    refine ev_lconst (v := 1) (q := 14) dX7_wind_13 mcl_1 rfl ?_
    refine ev_callS (q := 17) kX7_in mw_t_X7_in mw_m_RX7_60 (r_X7_in rfl) rfl rfl (Nat.le_of_ble_eq_true rfl) (by decide) dX7_wind_14 rfl (fun v fv gv hp => ?_)
    obtain ⟨rfl, rfl, rfl, hr_1⟩ := hp
    refine ev_if_eq (t := 48) (q := 20) dX7_wind_17 rfl rfl hg (fun hg => ?_) (fun hg => ?_)
    · refine ev_ldc (q := 50) mw_c_RX7_70 dX7_wind_48 rfl ?_
      obtain rfl := Option.some.inj hg
      exact ev_iret dX7_wind_50 rfl ⟨rfl, rfl, rfl⟩
    · refine ev_iload_n (q := 21) dX7_wind_20 rfl rfl ?_
      refine ev_i2l (q := 22) dX7_wind_21 rfl ?_
      refine ev_lconst (v := 0) (q := 23) dX7_wind_22 mcl_0 rfl ?_
      refine ev_ldc2 (q := 26) mw_c_RX7_222 dX7_wind_23 rfl ?_
      refine ev_callS (q := 29) kX7_in mw_t_X7_in mw_m_RX7_60 (r_X7_in rfl) rfl rfl (Nat.le_of_ble_eq_true rfl) (by decide) dX7_wind_26 rfl (fun v fv gv hp => ?_)
      obtain ⟨rfl, rfl, rfl, hr_2⟩ := hp
      refine ev_if_eq (t := 48) (q := 32) dX7_wind_29 rfl rfl hg (fun hg => ?_) (fun hg => ?_)
      · refine ev_ldc (q := 50) mw_c_RX7_70 dX7_wind_48 rfl ?_
        obtain rfl := Option.some.inj hg
        exact ev_iret dX7_wind_50 rfl ⟨rfl, rfl, rfl⟩
      · refine ev_aload_n (q := 33) dX7_wind_32 rfl rfl ?_
        refine ev_getfR (q := 36) mw_f_RX7_19 rfl rfl dX7_wind_33 rfl ?_
        refine ev_iconst (v := 0) (q := 37) dX7_wind_36 mci_0 rfl ?_
        refine ev_bipush (v := 6) (q := 39) dX7_wind_37 mcb_6 rfl ?_
        refine ev_iload_n (q := 40) dX7_wind_39 rfl rfl ?_
        refine ev_imul (q := 41) dX7_wind_40 rfl ?_
        refine ev_iadd (q := 42) dX7_wind_41 rfl ?_
        refine ev_iload_n (q := 43) dX7_wind_42 rfl rfl ?_
        refine ev_iadd (q := 44) dX7_wind_43 rfl ?_
        obtain ⟨hi_3, hg⟩ := mj_gd hg
        refine ev_ialdk (q := 45) rfl hi_3 rfl dX7_wind_44 rfl ?_
        refine ev_goto (q := 50) dX7_wind_45 rfl ?_
        obtain rfl := Option.some.inj hg
        exact ev_iret dX7_wind_50 rfl ⟨rfl, rfl, rfl⟩
def g_X7_putAside_2 : Nat → Int32 → mj_I → Option (mj_I)
  | 0, _, _ => none
  | n + 1, x1, f =>
    if x1 < (82 : Int32) then
     if mj_in x1 82 = true then
     if mj_in x1 82 = true then
      mj_lt (mj_wr f 9 (ix x1) (f 4 (ix x1))) (fun f_3 =>
       g_X7_putAside_2 n (x1 + (1 : Int32)) f_3)
      else none
     else none
    else
     some (f)
theorem r_X7_putAside_2 {g : mj_L} {post : Option Value → mj_I → mj_L → Prop} : ∀ (n : Nat) (x1 : Int32) (f : mj_I) (o : mj_I), g_X7_putAside_2 n x1 f = some o → mj_Ev jX7_putAside 26 [none, none] [] my_S o g post → mj_Ev jX7_putAside 2 [some (.ref 0), some (.int x1)] [] my_S f g post := by
  intro n
  induction n with
  | zero =>
    intro x1 f o hg hk
    cases hg
  | succ n ih =>
    intro x1 f o hg hk
    unfold g_X7_putAside_2 at hg
    refine ev_iload_n (q := 3) dX7_putAside_2 rfl rfl ?_
    refine ev_bipush (v := 82) (q := 5) dX7_putAside_3 mcb_82 rfl ?_
    refine ev_icmp_ge (t := 26) (q := 8) dX7_putAside_5 rfl rfl hg (fun hg => ?_) (fun hg => ?_)
    · refine ev_aload_n (q := 9) dX7_putAside_8 rfl rfl ?_
      refine ev_getfR (q := 12) mw_f_RX7_34 rfl rfl dX7_putAside_9 rfl ?_
      refine ev_iload_n (q := 13) dX7_putAside_12 rfl rfl ?_
      refine ev_aload_n (q := 14) dX7_putAside_13 rfl rfl ?_
      refine ev_getfR (q := 17) mw_f_RX7_19 rfl rfl dX7_putAside_14 rfl ?_
      refine ev_iload_n (q := 18) dX7_putAside_17 rfl rfl ?_
      obtain ⟨hi_2, hg⟩ := mj_gd hg
      refine ev_ialdk (q := 19) rfl hi_2 rfl dX7_putAside_18 rfl ?_
      obtain ⟨hi_3, hg⟩ := mj_gd hg
      refine ev_iastk (q := 20) rfl hi_3 rfl dX7_putAside_19 rfl ?_
      refine ev_nmf (fun f_3 hf_3 => ?_)
      have hg := mj_lt_el hf_3 hg
      refine ev_iinc (v := 1) (q := 23) (loc' := [some (.ref _), some (.int _)]) dX7_putAside_20 rfl (by decide) mci_1 rfl rfl ?_
      refine ev_goto (q := 2) dX7_putAside_23 rfl ?_
      exact ih _ _ _ hg hk
    · obtain rfl := Option.some.inj hg
      refine ev_wk (loc' := [none, none]) trivial ?_
      exact hk
def g_X7_putAside (f : mj_I) : Option (mj_I) :=
  (g_X7_putAside_2 mj_fuel (0 : Int32) f).bind (fun q_1 =>
  some (q_1))
theorem r_X7_putAside {f : mj_I} {g : mj_L} {o : mj_I} (hg : g_X7_putAside f = some o) : mj_Sp jX7_putAside my_S [.ref 0] f g (fun v f' g' => none = v ∧ o = f' ∧ g = g') := by
  refine mj_sp 1 (by decide +kernel) rfl rfl (fun _ _ => Nat.le_of_ble_eq_true rfl) ?_
  show mj_Ev jX7_putAside 0 [some (.ref 0), none] [] my_S f g _
  unfold g_X7_putAside at hg
  refine ev_iconst (v := 0) (q := 1) dX7_putAside_0 mci_0 rfl ?_
  refine ev_istore_n (q := 2) (loc' := [some (.ref _), some (.int _)]) dX7_putAside_1 (by decide) rfl rfl ?_
  obtain ⟨q_1, hq_1, hg⟩ := mj_bd hg
  refine r_X7_putAside_2 mj_fuel _ _ _ hq_1 ?_
  obtain rfl := Option.some.inj hg
  exact ev_vret dX7_putAside_26 rfl ⟨rfl, rfl, rfl⟩
def g_X7_takeBack_2 : Nat → Int32 → mj_I → Option (mj_I)
  | 0, _, _ => none
  | n + 1, x1, f =>
    if x1 < (82 : Int32) then
     if mj_in x1 82 = true then
     if mj_in x1 82 = true then
      mj_lt (mj_wr f 4 (ix x1) (f 9 (ix x1))) (fun f_3 =>
       g_X7_takeBack_2 n (x1 + (1 : Int32)) f_3)
      else none
     else none
    else
     some (f)
theorem r_X7_takeBack_2 {g : mj_L} {post : Option Value → mj_I → mj_L → Prop} : ∀ (n : Nat) (x1 : Int32) (f : mj_I) (o : mj_I), g_X7_takeBack_2 n x1 f = some o → mj_Ev jX7_takeBack 26 [none, none] [] my_S o g post → mj_Ev jX7_takeBack 2 [some (.ref 0), some (.int x1)] [] my_S f g post := by
  intro n
  induction n with
  | zero =>
    intro x1 f o hg hk
    cases hg
  | succ n ih =>
    intro x1 f o hg hk
    unfold g_X7_takeBack_2 at hg
    refine ev_iload_n (q := 3) dX7_takeBack_2 rfl rfl ?_
    refine ev_bipush (v := 82) (q := 5) dX7_takeBack_3 mcb_82 rfl ?_
    refine ev_icmp_ge (t := 26) (q := 8) dX7_takeBack_5 rfl rfl hg (fun hg => ?_) (fun hg => ?_)
    · refine ev_aload_n (q := 9) dX7_takeBack_8 rfl rfl ?_
      refine ev_getfR (q := 12) mw_f_RX7_19 rfl rfl dX7_takeBack_9 rfl ?_
      refine ev_iload_n (q := 13) dX7_takeBack_12 rfl rfl ?_
      refine ev_aload_n (q := 14) dX7_takeBack_13 rfl rfl ?_
      refine ev_getfR (q := 17) mw_f_RX7_34 rfl rfl dX7_takeBack_14 rfl ?_
      refine ev_iload_n (q := 18) dX7_takeBack_17 rfl rfl ?_
      obtain ⟨hi_2, hg⟩ := mj_gd hg
      refine ev_ialdk (q := 19) rfl hi_2 rfl dX7_takeBack_18 rfl ?_
      obtain ⟨hi_3, hg⟩ := mj_gd hg
      refine ev_iastk (q := 20) rfl hi_3 rfl dX7_takeBack_19 rfl ?_
      refine ev_nmf (fun f_3 hf_3 => ?_)
      have hg := mj_lt_el hf_3 hg
      refine ev_iinc (v := 1) (q := 23) (loc' := [some (.ref _), some (.int _)]) dX7_takeBack_20 rfl (by decide) mci_1 rfl rfl ?_
      refine ev_goto (q := 2) dX7_takeBack_23 rfl ?_
      exact ih _ _ _ hg hk
    · obtain rfl := Option.some.inj hg
      refine ev_wk (loc' := [none, none]) trivial ?_
      exact hk
def g_X7_takeBack (f : mj_I) : Option (mj_I) :=
  (g_X7_takeBack_2 mj_fuel (0 : Int32) f).bind (fun q_1 =>
  some (q_1))
theorem r_X7_takeBack {f : mj_I} {g : mj_L} {o : mj_I} (hg : g_X7_takeBack f = some o) : mj_Sp jX7_takeBack my_S [.ref 0] f g (fun v f' g' => none = v ∧ o = f' ∧ g = g') := by
  refine mj_sp 1 (by decide +kernel) rfl rfl (fun _ _ => Nat.le_of_ble_eq_true rfl) ?_
  show mj_Ev jX7_takeBack 0 [some (.ref 0), none] [] my_S f g _
  unfold g_X7_takeBack at hg
  refine ev_iconst (v := 0) (q := 1) dX7_takeBack_0 mci_0 rfl ?_
  refine ev_istore_n (q := 2) (loc' := [some (.ref _), some (.int _)]) dX7_takeBack_1 (by decide) rfl rfl ?_
  obtain ⟨q_1, hq_1, hg⟩ := mj_bd hg
  refine r_X7_takeBack_2 mj_fuel _ _ _ hq_1 ?_
  obtain rfl := Option.some.inj hg
  exact ev_vret dX7_takeBack_26 rfl ⟨rfl, rfl, rfl⟩
def g_X7_goOn_2 : Nat → Int32 → Int32 → mj_I → Option (mj_I)
  | 0, _, _, _ => none
  | n + 1, x1, x2, f =>
    if x2 < x1 then
     (g_X7_oneHour f).bind (fun o_2 =>
     g_X7_goOn_2 n x1 (x2 + (1 : Int32)) o_2.2)
    else
     some (f)
theorem r_X7_goOn_2 {g : mj_L} {post : Option Value → mj_I → mj_L → Prop} : ∀ (n : Nat) (x1 : Int32) (x2 : Int32) (f : mj_I) (o : mj_I), g_X7_goOn_2 n x1 x2 f = some o → mj_Ev jX7_goOn 18 [none, none, none] [] my_S o g post → mj_Ev jX7_goOn 2 [some (.ref 0), some (.int x1), some (.int x2)] [] my_S f g post := by
  intro n
  induction n with
  | zero =>
    intro x1 x2 f o hg hk
    cases hg
  | succ n ih =>
    intro x1 x2 f o hg hk
    unfold g_X7_goOn_2 at hg
    refine ev_iload_n (q := 3) dX7_goOn_2 rfl rfl ?_
    refine ev_iload_n (q := 4) dX7_goOn_3 rfl rfl ?_
    refine ev_icmp_ge (t := 18) (q := 7) dX7_goOn_4 rfl rfl hg (fun hg => ?_) (fun hg => ?_)
    · refine ev_aload_n (q := 8) dX7_goOn_7 rfl rfl ?_
      obtain ⟨o_2, ho_2, hg⟩ := mj_bd hg
      refine ev_callV (q := 11) kX7_oneHour mw_i_X7_oneHour mw_s_X7_oneHour mw_m_RX7_199 rfl rfl (r_X7_oneHour ho_2) rfl rfl (Nat.le_of_ble_eq_true rfl) (by decide) dX7_goOn_8 rfl (fun v fv gv hp => ?_)
      obtain ⟨rfl, rfl, rfl⟩ := hp
      refine ev_pop (q := 12) dX7_goOn_11 rfl rfl ?_
      refine ev_iinc (v := 1) (q := 15) (loc' := [some (.ref _), some (.int _), some (.int _)]) dX7_goOn_12 rfl (by decide) mci_1 rfl rfl ?_
      refine ev_goto (q := 2) dX7_goOn_15 rfl ?_
      exact ih _ _ _ _ hg hk
    · obtain rfl := Option.some.inj hg
      refine ev_wk (loc' := [none, none, none]) trivial ?_
      exact hk
def g_X7_goOn (x1 : Int32) (f : mj_I) : Option (mj_I) :=
  (g_X7_goOn_2 mj_fuel x1 (0 : Int32) f).bind (fun q_1 =>
  some (q_1))
theorem r_X7_goOn {x1 : Int32} {f : mj_I} {g : mj_L} {o : mj_I} (hg : g_X7_goOn x1 f = some o) : mj_Sp jX7_goOn my_S [.ref 0, .int x1] f g (fun v f' g' => none = v ∧ o = f' ∧ g = g') := by
  refine mj_sp 1 (by decide +kernel) rfl rfl (fun _ _ => Nat.le_of_ble_eq_true rfl) ?_
  show mj_Ev jX7_goOn 0 [some (.ref 0), some (.int x1), none] [] my_S f g _
  unfold g_X7_goOn at hg
  refine ev_iconst (v := 0) (q := 1) dX7_goOn_0 mci_0 rfl ?_
  refine ev_istore_n (q := 2) (loc' := [some (.ref _), some (.int _), some (.int _)]) dX7_goOn_1 (by decide) rfl rfl ?_
  obtain ⟨q_1, hq_1, hg⟩ := mj_bd hg
  refine r_X7_goOn_2 mj_fuel _ _ _ _ hq_1 ?_
  obtain rfl := Option.some.inj hg
  exact ev_vret dX7_goOn_18 rfl ⟨rfl, rfl, rfl⟩
def g_X7_ahead (x1 : Int32) (x2 : Int32) (x3 : Int32) (f : mj_I) : Option (Int32 × mj_I) :=
  if (g_X7_isCloud x1 f) = 0 then
   some (((-1000001 : Int32), f))
  else
   if (g_X7_in (x2).toInt64 (0 : Int64) (60 : Int64)) = 0 then
    some (((-1000001 : Int32), f))
   else
    if (g_X7_in (x3).toInt64 (0 : Int64) (3 : Int64)) = 0 then
     some (((-1000001 : Int32), f))
    else
     (g_X7_putAside f).bind (fun o_4 =>
     (g_X7_goOn x2 o_4).bind (fun o_5 =>
     (g_X7_toldOf x1 x3 o_5).bind (fun o_6 =>
     (g_X7_takeBack o_5).bind (fun o_7 =>
     some ((o_6, o_7))))))
theorem r_X7_ahead {x1 : Int32} {x2 : Int32} {x3 : Int32} {f : mj_I} {g : mj_L} {o : Int32 × mj_I} (hg : g_X7_ahead x1 x2 x3 f = some o) : mj_Sp jX7_ahead my_S [.ref 0, .int x1, .int x2, .int x3] f g (fun v f' g' => some (.int o.1) = v ∧ o.2 = f' ∧ g = g') := by
  refine mj_sp 1 (by decide +kernel) rfl rfl (fun _ _ => Nat.le_of_ble_eq_true rfl) ?_
  show mj_Ev jX7_ahead 0 [some (.ref 0), some (.int x1), some (.int x2), some (.int x3), none] [] my_S f g _
  unfold g_X7_ahead at hg
  refine ev_aload_n (q := 1) dX7_ahead_0 rfl rfl ?_
  refine ev_iload_n (q := 2) dX7_ahead_1 rfl rfl ?_
  refine ev_callV (q := 5) kX7_isCloud mw_i_X7_isCloud mw_s_X7_isCloud mw_m_RX7_202 rfl rfl (r_X7_isCloud rfl) rfl rfl (Nat.le_of_ble_eq_true rfl) (by decide) dX7_ahead_2 rfl (fun v fv gv hp => ?_)
  obtain ⟨rfl, rfl, rfl, hr_1⟩ := hp
  refine ev_if_eq (t := 32) (q := 8) dX7_ahead_5 rfl rfl hg (fun hg => ?_) (fun hg => ?_)
  · refine ev_ldc (q := 34) mw_c_RX7_70 dX7_ahead_32 rfl ?_
    obtain rfl := Option.some.inj hg
    exact ev_iret dX7_ahead_34 rfl ⟨rfl, rfl, rfl⟩
  · refine ev_iload_n (q := 9) dX7_ahead_8 rfl rfl ?_
    refine ev_i2l (q := 10) dX7_ahead_9 rfl ?_
    refine ev_lconst (v := 0) (q := 11) dX7_ahead_10 mcl_0 rfl ?_
    refine ev_ldc2 (q := 14) mw_c_RX7_224 dX7_ahead_11 rfl ?_
    refine ev_callS (q := 17) kX7_in mw_t_X7_in mw_m_RX7_60 (r_X7_in rfl) rfl rfl (Nat.le_of_ble_eq_true rfl) (by decide) dX7_ahead_14 rfl (fun v fv gv hp => ?_)
    obtain ⟨rfl, rfl, rfl, hr_2⟩ := hp
    refine ev_if_eq (t := 32) (q := 20) dX7_ahead_17 rfl rfl hg (fun hg => ?_) (fun hg => ?_)
    · refine ev_ldc (q := 34) mw_c_RX7_70 dX7_ahead_32 rfl ?_
      obtain rfl := Option.some.inj hg
      exact ev_iret dX7_ahead_34 rfl ⟨rfl, rfl, rfl⟩
    · refine ev_iload_n (q := 21) dX7_ahead_20 rfl rfl ?_
      refine ev_i2l (q := 22) dX7_ahead_21 rfl ?_
      refine ev_lconst (v := 0) (q := 23) dX7_ahead_22 mcl_0 rfl ?_
      refine ev_ldc2 (q := 26) mw_c_RX7_226 dX7_ahead_23 rfl ?_
      refine ev_callS (q := 29) kX7_in mw_t_X7_in mw_m_RX7_60 (r_X7_in rfl) rfl rfl (Nat.le_of_ble_eq_true rfl) (by decide) dX7_ahead_26 rfl (fun v fv gv hp => ?_)
      obtain ⟨rfl, rfl, rfl, hr_3⟩ := hp
      refine ev_if_ne (t := 35) (q := 32) dX7_ahead_29 rfl rfl hg (fun hg => ?_) (fun hg => ?_)
      · refine ev_ldc (q := 34) mw_c_RX7_70 dX7_ahead_32 rfl ?_
        obtain rfl := Option.some.inj hg
        exact ev_iret dX7_ahead_34 rfl ⟨rfl, rfl, rfl⟩
      · refine ev_aload_n (q := 36) dX7_ahead_35 rfl rfl ?_
        obtain ⟨o_4, ho_4, hg⟩ := mj_bd hg
        refine ev_callV (q := 39) kX7_putAside mw_i_X7_putAside mw_s_X7_putAside mw_m_RX7_228 rfl rfl (r_X7_putAside ho_4) rfl rfl (Nat.le_of_ble_eq_true rfl) (by decide) dX7_ahead_36 rfl (fun v fv gv hp => ?_)
        obtain ⟨rfl, rfl, rfl⟩ := hp
        refine ev_aload_n (q := 40) dX7_ahead_39 rfl rfl ?_
        refine ev_iload_n (q := 41) dX7_ahead_40 rfl rfl ?_
        obtain ⟨o_5, ho_5, hg⟩ := mj_bd hg
        refine ev_callV (q := 44) kX7_goOn mw_i_X7_goOn mw_s_X7_goOn mw_m_RX7_231 rfl rfl (r_X7_goOn ho_5) rfl rfl (Nat.le_of_ble_eq_true rfl) (by decide) dX7_ahead_41 rfl (fun v fv gv hp => ?_)
        obtain ⟨rfl, rfl, rfl⟩ := hp
        refine ev_aload_n (q := 45) dX7_ahead_44 rfl rfl ?_
        refine ev_iload_n (q := 46) dX7_ahead_45 rfl rfl ?_
        refine ev_iload_n (q := 47) dX7_ahead_46 rfl rfl ?_
        obtain ⟨o_6, ho_6, hg⟩ := mj_bd hg
        refine ev_callV (q := 50) kX7_toldOf mw_i_X7_toldOf mw_s_X7_toldOf mw_m_RX7_211 rfl rfl (r_X7_toldOf ho_6) rfl rfl (Nat.le_of_ble_eq_true rfl) (by decide) dX7_ahead_47 rfl (fun v fv gv hp => ?_)
        obtain ⟨rfl, rfl, rfl⟩ := hp
        refine ev_istore (q := 52) (loc' := [some (.ref _), some (.int _), some (.int _), some (.int _), some (.int _)]) dX7_ahead_50 (by decide) rfl rfl ?_
        refine ev_aload_n (q := 53) dX7_ahead_52 rfl rfl ?_
        obtain ⟨o_7, ho_7, hg⟩ := mj_bd hg
        refine ev_callV (q := 56) kX7_takeBack mw_i_X7_takeBack mw_s_X7_takeBack mw_m_RX7_234 rfl rfl (r_X7_takeBack ho_7) rfl rfl (Nat.le_of_ble_eq_true rfl) (by decide) dX7_ahead_53 rfl (fun v fv gv hp => ?_)
        obtain ⟨rfl, rfl, rfl⟩ := hp
        refine ev_iload (q := 58) dX7_ahead_56 rfl rfl ?_
        obtain rfl := Option.some.inj hg
        exact ev_iret dX7_ahead_58 rfl ⟨rfl, rfl, rfl⟩
def g_X7_earned (x1 : Int32) (f : mj_I) : Option (Int32 × mj_I) :=
  if (f 0 4) = 0 then
   some (((-1000002 : Int32), f))
  else
   if (g_X7_in (x1).toInt64 (0 : Int64) (60 : Int64)) = 0 then
    some (((-1000001 : Int32), f))
   else
    (g_X7_putAside f).bind (fun o_2 =>
    (g_X7_goOn x1 o_2).bind (fun o_3 =>
    mj_lt ((o_3 4 47)) (fun u_5 =>
    (g_X7_takeBack o_3).bind (fun o_6 =>
    some ((u_5, o_6))))))
theorem r_X7_earned {x1 : Int32} {f : mj_I} {g : mj_L} {o : Int32 × mj_I} (hg : g_X7_earned x1 f = some o) : mj_Sp jX7_earned my_S [.ref 0, .int x1] f g (fun v f' g' => some (.int o.1) = v ∧ o.2 = f' ∧ g = g') := by
  refine mj_sp 1 (by decide +kernel) rfl rfl (fun _ _ => Nat.le_of_ble_eq_true rfl) ?_
  show mj_Ev jX7_earned 0 [some (.ref 0), some (.int x1), none] [] my_S f g _
  unfold g_X7_earned at hg
  refine ev_aload_n (q := 1) dX7_earned_0 rfl rfl ?_
  refine ev_getfI (q := 4) mw_f_RX7_154 (by decide) (by decide) rfl dX7_earned_1 rfl ?_
  refine ev_if_ne (t := 10) (q := 7) dX7_earned_4 rfl rfl hg (fun hg => ?_) (fun hg => ?_)
  · refine ev_ldc (q := 9) mw_c_RX7_193 dX7_earned_7 rfl ?_
    obtain rfl := Option.some.inj hg
    exact ev_iret dX7_earned_9 rfl ⟨rfl, rfl, rfl⟩
  · refine ev_iload_n (q := 11) dX7_earned_10 rfl rfl ?_
    refine ev_i2l (q := 12) dX7_earned_11 rfl ?_
    refine ev_lconst (v := 0) (q := 13) dX7_earned_12 mcl_0 rfl ?_
    refine ev_ldc2 (q := 16) mw_c_RX7_224 dX7_earned_13 rfl ?_
    refine ev_callS (q := 19) kX7_in mw_t_X7_in mw_m_RX7_60 (r_X7_in rfl) rfl rfl (Nat.le_of_ble_eq_true rfl) (by decide) dX7_earned_16 rfl (fun v fv gv hp => ?_)
    obtain ⟨rfl, rfl, rfl, hr_1⟩ := hp
    refine ev_if_ne (t := 25) (q := 22) dX7_earned_19 rfl rfl hg (fun hg => ?_) (fun hg => ?_)
    · refine ev_ldc (q := 24) mw_c_RX7_70 dX7_earned_22 rfl ?_
      obtain rfl := Option.some.inj hg
      exact ev_iret dX7_earned_24 rfl ⟨rfl, rfl, rfl⟩
    · refine ev_aload_n (q := 26) dX7_earned_25 rfl rfl ?_
      obtain ⟨o_2, ho_2, hg⟩ := mj_bd hg
      refine ev_callV (q := 29) kX7_putAside mw_i_X7_putAside mw_s_X7_putAside mw_m_RX7_228 rfl rfl (r_X7_putAside ho_2) rfl rfl (Nat.le_of_ble_eq_true rfl) (by decide) dX7_earned_26 rfl (fun v fv gv hp => ?_)
      obtain ⟨rfl, rfl, rfl⟩ := hp
      refine ev_aload_n (q := 30) dX7_earned_29 rfl rfl ?_
      refine ev_iload_n (q := 31) dX7_earned_30 rfl rfl ?_
      obtain ⟨o_3, ho_3, hg⟩ := mj_bd hg
      refine ev_callV (q := 34) kX7_goOn mw_i_X7_goOn mw_s_X7_goOn mw_m_RX7_231 rfl rfl (r_X7_goOn ho_3) rfl rfl (Nat.le_of_ble_eq_true rfl) (by decide) dX7_earned_31 rfl (fun v fv gv hp => ?_)
      obtain ⟨rfl, rfl, rfl⟩ := hp
      refine ev_aload_n (q := 35) dX7_earned_34 rfl rfl ?_
      refine ev_getfR (q := 38) mw_f_RX7_19 rfl rfl dX7_earned_35 rfl ?_
      refine ev_bipush (v := 47) (q := 40) dX7_earned_38 mcb_47 rfl ?_
      refine ev_ialdk (k := 47) (q := 41) rfl (by decide) mcx_47 dX7_earned_40 rfl ?_
      refine ev_nmi (fun u_5 hu_5 => ?_)
      have hg := mj_lt_el hu_5 hg
      refine ev_istore_n (q := 42) (loc' := [some (.ref _), some (.int _), some (.int _)]) dX7_earned_41 (by decide) rfl rfl ?_
      refine ev_aload_n (q := 43) dX7_earned_42 rfl rfl ?_
      obtain ⟨o_6, ho_6, hg⟩ := mj_bd hg
      refine ev_callV (q := 46) kX7_takeBack mw_i_X7_takeBack mw_s_X7_takeBack mw_m_RX7_234 rfl rfl (r_X7_takeBack ho_6) rfl rfl (Nat.le_of_ble_eq_true rfl) (by decide) dX7_earned_43 rfl (fun v fv gv hp => ?_)
      obtain ⟨rfl, rfl, rfl⟩ := hp
      refine ev_iload_n (q := 47) dX7_earned_46 rfl rfl ?_
      obtain rfl := Option.some.inj hg
      exact ev_iret dX7_earned_47 rfl ⟨rfl, rfl, rfl⟩
def g_X7_knot_77 (rec : Int32 → Int32 → Int32 → Int32 → Int32 → mj_I → Option (Int32 × Int32 × mj_I)) (x1 : Int32) (x2 : Int32) (x5 : Int32) (x6 : Int32) (s0 : Int32) (f : mj_I) : Option (Int32 × Int32 × mj_I) :=
  if 0 < x6 then
   rec x1 x2 s0 x6 (x5 + (1 : Int32)) f
  else
   rec x1 x2 s0 (-1000000 : Int32) (x5 + (1 : Int32)) f
theorem r_X7_knot_77 {g : mj_L} {post : Option Value → mj_I → mj_L → Prop} {rec : Int32 → Int32 → Int32 → Int32 → Int32 → mj_I → Option (Int32 × Int32 × mj_I)} (hrec : ∀ (x1 : Int32) (x2 : Int32) (x3 : Int32) (x4 : Int32) (x5 : Int32) (f : mj_I) (o : Int32 × Int32 × mj_I), rec x1 x2 x3 x4 x5 f = some o → mj_Ev jX7_knot 98 [some (.ref 0), none, some (.int x2), some (.int o.1), some (.int o.2.1), none, none] [] my_S o.2.2 g post → mj_Ev jX7_knot 49 [some (.ref 0), some (.int x1), some (.int x2), some (.int x3), some (.int x4), some (.int x5), none] [] my_S f g post) : ∀ (x1 : Int32) (x2 : Int32) (x5 : Int32) (x6 : Int32) (s0 : Int32) (f : mj_I) (o : Int32 × Int32 × mj_I), g_X7_knot_77 rec x1 x2 x5 x6 s0 f = some o → mj_Ev jX7_knot 98 [some (.ref 0), none, some (.int x2), some (.int o.1), some (.int o.2.1), none, none] [] my_S o.2.2 g post → mj_Ev jX7_knot 77 [some (.ref 0), some (.int x1), some (.int x2), none, none, some (.int x5), some (.int x6)] [.int s0] my_S f g post := by
  intro x1 x2 x5 x6 s0 f o hg hk
  unfold g_X7_knot_77 at hg
  refine ev_istore_n (q := 78) (loc' := [some (.ref _), some (.int _), some (.int _), some (.int _), none, some (.int _), some (.int _)]) dX7_knot_77 (by decide) rfl rfl ?_
  refine ev_iload (q := 80) dX7_knot_78 rfl rfl ?_
  refine ev_if_le (t := 88) (q := 83) dX7_knot_80 rfl rfl hg (fun hg => ?_) (fun hg => ?_)
  · refine ev_iload (q := 85) dX7_knot_83 rfl rfl ?_
    refine ev_goto (q := 90) dX7_knot_85 rfl ?_
    refine ev_istore (q := 92) (loc' := [some (.ref _), some (.int _), some (.int _), some (.int _), some (.int _), some (.int _), some (.int _)]) dX7_knot_90 (by decide) rfl rfl ?_
    refine ev_iinc (v := 1) (q := 95) (loc' := [some (.ref _), some (.int _), some (.int _), some (.int _), some (.int _), some (.int _), some (.int _)]) dX7_knot_92 rfl (by decide) mci_1 rfl rfl ?_
    refine ev_goto (q := 49) dX7_knot_95 rfl ?_
    refine ev_wk (loc' := [some (.ref _), some (.int _), some (.int _), some (.int _), some (.int _), some (.int _), none]) ⟨rfl, rfl, rfl, rfl, rfl, rfl, trivial⟩ ?_
    exact hrec _ _ _ _ _ _ _ hg hk
  · refine ev_ldc (q := 90) mw_c_RX7_237 dX7_knot_88 rfl ?_
    refine ev_istore (q := 92) (loc' := [some (.ref _), some (.int _), some (.int _), some (.int _), some (.int _), some (.int _), some (.int _)]) dX7_knot_90 (by decide) rfl rfl ?_
    refine ev_iinc (v := 1) (q := 95) (loc' := [some (.ref _), some (.int _), some (.int _), some (.int _), some (.int _), some (.int _), some (.int _)]) dX7_knot_92 rfl (by decide) mci_1 rfl rfl ?_
    refine ev_goto (q := 49) dX7_knot_95 rfl ?_
    refine ev_wk (loc' := [some (.ref _), some (.int _), some (.int _), some (.int _), some (.int _), some (.int _), none]) ⟨rfl, rfl, rfl, rfl, rfl, rfl, trivial⟩ ?_
    exact hrec _ _ _ _ _ _ _ hg hk
def g_X7_knot_49 : Nat → Int32 → Int32 → Int32 → Int32 → Int32 → mj_I → Option (Int32 × Int32 × mj_I)
  | 0, _, _, _, _, _, _ => none
  | n + 1, x1, x2, x3, x4, x5, f =>
    if x5 < x1 then
     if x3 < 0 then
      (g_X7_oneHour f).bind (fun o_6 =>
      if 0 < o_6.1 then
       g_X7_knot_77 (g_X7_knot_49 n) x1 x2 x5 o_6.1 x5 o_6.2
      else
       g_X7_knot_77 (g_X7_knot_49 n) x1 x2 x5 o_6.1 (-1000000 : Int32) o_6.2)
     else
      some ((x3, x4, f))
    else
     some ((x3, x4, f))
theorem r_X7_knot_49 {g : mj_L} {post : Option Value → mj_I → mj_L → Prop} : ∀ (n : Nat) (x1 : Int32) (x2 : Int32) (x3 : Int32) (x4 : Int32) (x5 : Int32) (f : mj_I) (o : Int32 × Int32 × mj_I), g_X7_knot_49 n x1 x2 x3 x4 x5 f = some o → mj_Ev jX7_knot 98 [some (.ref 0), none, some (.int x2), some (.int o.1), some (.int o.2.1), none, none] [] my_S o.2.2 g post → mj_Ev jX7_knot 49 [some (.ref 0), some (.int x1), some (.int x2), some (.int x3), some (.int x4), some (.int x5), none] [] my_S f g post := by
  intro n
  induction n with
  | zero =>
    intro x1 x2 x3 x4 x5 f o hg hk
    cases hg
  | succ n ih =>
    intro x1 x2 x3 x4 x5 f o hg hk
    unfold g_X7_knot_49 at hg
    refine ev_iload (q := 51) dX7_knot_49 rfl rfl ?_
    refine ev_iload_n (q := 52) dX7_knot_51 rfl rfl ?_
    refine ev_icmp_ge (t := 98) (q := 55) dX7_knot_52 rfl rfl hg (fun hg => ?_) (fun hg => ?_)
    · refine ev_iload_n (q := 56) dX7_knot_55 rfl rfl ?_
      refine ev_if_ge (t := 98) (q := 59) dX7_knot_56 rfl rfl hg (fun hg => ?_) (fun hg => ?_)
      · refine ev_aload_n (q := 60) dX7_knot_59 rfl rfl ?_
        obtain ⟨o_6, ho_6, hg⟩ := mj_bd hg
        refine ev_callV (q := 63) kX7_oneHour mw_i_X7_oneHour mw_s_X7_oneHour mw_m_RX7_199 rfl rfl (r_X7_oneHour ho_6) rfl rfl (Nat.le_of_ble_eq_true rfl) (by decide) dX7_knot_60 rfl (fun v fv gv hp => ?_)
        obtain ⟨rfl, rfl, rfl⟩ := hp
        refine ev_istore (q := 65) (loc' := [some (.ref _), some (.int _), some (.int _), some (.int _), some (.int _), some (.int _), some (.int _)]) dX7_knot_63 (by decide) rfl rfl ?_
        refine ev_iload (q := 67) dX7_knot_65 rfl rfl ?_
        refine ev_if_le (t := 75) (q := 70) dX7_knot_67 rfl rfl hg (fun hg => ?_) (fun hg => ?_)
        · refine ev_iload (q := 72) dX7_knot_70 rfl rfl ?_
          refine ev_goto (q := 77) dX7_knot_72 rfl ?_
          refine ev_wk (loc' := [some (.ref _), some (.int _), some (.int _), none, none, some (.int _), some (.int _)]) ⟨rfl, rfl, rfl, rfl, rfl, trivial⟩ ?_
          exact r_X7_knot_77 ih _ _ _ _ _ _ _ hg hk
        · refine ev_ldc (q := 77) mw_c_RX7_237 dX7_knot_75 rfl ?_
          refine ev_wk (loc' := [some (.ref _), some (.int _), some (.int _), none, none, some (.int _), some (.int _)]) ⟨rfl, rfl, rfl, rfl, rfl, trivial⟩ ?_
          exact r_X7_knot_77 ih _ _ _ _ _ _ _ hg hk
      · obtain rfl := Option.some.inj hg
        refine ev_wk (loc' := [some (.ref _), none, some (.int _), some (.int _), some (.int _), none, none]) ⟨rfl, rfl, rfl, rfl, trivial⟩ ?_
        exact hk
    · obtain rfl := Option.some.inj hg
      refine ev_wk (loc' := [some (.ref _), none, some (.int _), some (.int _), some (.int _), none, none]) ⟨rfl, rfl, rfl, rfl, trivial⟩ ?_
      exact hk
def g_X7_knot (x1 : Int32) (x2 : Int32) (f : mj_I) : Option (Int32 × mj_I) :=
  if (f 0 4) = 0 then
   some (((-1000002 : Int32), f))
  else
   if (g_X7_in (x1).toInt64 (1 : Int64) (60 : Int64)) = 0 then
    some (((-1000001 : Int32), f))
   else
    if (g_X7_in (x2).toInt64 (0 : Int64) (1 : Int64)) = 0 then
     some (((-1000001 : Int32), f))
    else
     (g_X7_putAside f).bind (fun o_3 =>
     (g_X7_knot_49 mj_fuel x1 x2 (-1000000 : Int32) (-1000000 : Int32) (0 : Int32) o_3).bind (fun q_4 =>
     (g_X7_takeBack q_4.2.2).bind (fun o_5 =>
     if x2 = 0 then
      some ((q_4.1, o_5))
     else
      some ((q_4.2.1, o_5)))))
theorem r_X7_knot {x1 : Int32} {x2 : Int32} {f : mj_I} {g : mj_L} {o : Int32 × mj_I} (hg : g_X7_knot x1 x2 f = some o) : mj_Sp jX7_knot my_S [.ref 0, .int x1, .int x2] f g (fun v f' g' => some (.int o.1) = v ∧ o.2 = f' ∧ g = g') := by
  refine mj_sp 4 (by decide +kernel) rfl rfl (fun _ _ => Nat.le_of_ble_eq_true rfl) ?_
  show mj_Ev jX7_knot 0 [some (.ref 0), some (.int x1), some (.int x2), none, none, none, none] [] my_S f g _
  unfold g_X7_knot at hg
  refine ev_aload_n (q := 1) dX7_knot_0 rfl rfl ?_
  refine ev_getfI (q := 4) mw_f_RX7_154 (by decide) (by decide) rfl dX7_knot_1 rfl ?_
  refine ev_if_ne (t := 10) (q := 7) dX7_knot_4 rfl rfl hg (fun hg => ?_) (fun hg => ?_)
  · refine ev_ldc (q := 9) mw_c_RX7_193 dX7_knot_7 rfl ?_
    obtain rfl := Option.some.inj hg
    exact ev_iret dX7_knot_9 rfl ⟨rfl, rfl, rfl⟩
  · refine ev_iload_n (q := 11) dX7_knot_10 rfl rfl ?_
    refine ev_i2l (q := 12) dX7_knot_11 rfl ?_
    refine ev_lconst (v := 1) (q := 13) dX7_knot_12 mcl_1 rfl ?_
    refine ev_ldc2 (q := 16) mw_c_RX7_224 dX7_knot_13 rfl ?_
    refine ev_callS (q := 19) kX7_in mw_t_X7_in mw_m_RX7_60 (r_X7_in rfl) rfl rfl (Nat.le_of_ble_eq_true rfl) (by decide) dX7_knot_16 rfl (fun v fv gv hp => ?_)
    obtain ⟨rfl, rfl, rfl, hr_1⟩ := hp
    refine ev_if_eq (t := 32) (q := 22) dX7_knot_19 rfl rfl hg (fun hg => ?_) (fun hg => ?_)
    · refine ev_ldc (q := 34) mw_c_RX7_70 dX7_knot_32 rfl ?_
      obtain rfl := Option.some.inj hg
      exact ev_iret dX7_knot_34 rfl ⟨rfl, rfl, rfl⟩
    · refine ev_iload_n (q := 23) dX7_knot_22 rfl rfl ?_
      refine ev_i2l (q := 24) dX7_knot_23 rfl ?_
      refine ev_lconst (v := 0) (q := 25) dX7_knot_24 mcl_0 rfl ?_
      refine ev_lconst (v := 1) (q := 26) dX7_knot_25 mcl_1 rfl ?_
      refine ev_callS (q := 29) kX7_in mw_t_X7_in mw_m_RX7_60 (r_X7_in rfl) rfl rfl (Nat.le_of_ble_eq_true rfl) (by decide) dX7_knot_26 rfl (fun v fv gv hp => ?_)
      obtain ⟨rfl, rfl, rfl, hr_2⟩ := hp
      refine ev_if_ne (t := 35) (q := 32) dX7_knot_29 rfl rfl hg (fun hg => ?_) (fun hg => ?_)
      · refine ev_ldc (q := 34) mw_c_RX7_70 dX7_knot_32 rfl ?_
        obtain rfl := Option.some.inj hg
        exact ev_iret dX7_knot_34 rfl ⟨rfl, rfl, rfl⟩
      · refine ev_aload_n (q := 36) dX7_knot_35 rfl rfl ?_
        obtain ⟨o_3, ho_3, hg⟩ := mj_bd hg
        refine ev_callV (q := 39) kX7_putAside mw_i_X7_putAside mw_s_X7_putAside mw_m_RX7_228 rfl rfl (r_X7_putAside ho_3) rfl rfl (Nat.le_of_ble_eq_true rfl) (by decide) dX7_knot_36 rfl (fun v fv gv hp => ?_)
        obtain ⟨rfl, rfl, rfl⟩ := hp
        refine ev_ldc (q := 41) mw_c_RX7_237 dX7_knot_39 rfl ?_
        refine ev_istore_n (q := 42) (loc' := [some (.ref _), some (.int _), some (.int _), some (.int _), none, none, none]) dX7_knot_41 (by decide) rfl rfl ?_
        refine ev_ldc (q := 44) mw_c_RX7_237 dX7_knot_42 rfl ?_
        refine ev_istore (q := 46) (loc' := [some (.ref _), some (.int _), some (.int _), some (.int _), some (.int _), none, none]) dX7_knot_44 (by decide) rfl rfl ?_
        refine ev_iconst (v := 0) (q := 47) dX7_knot_46 mci_0 rfl ?_
        refine ev_istore (q := 49) (loc' := [some (.ref _), some (.int _), some (.int _), some (.int _), some (.int _), some (.int _), none]) dX7_knot_47 (by decide) rfl rfl ?_
        obtain ⟨q_4, hq_4, hg⟩ := mj_bd hg
        refine r_X7_knot_49 mj_fuel _ _ _ _ _ _ _ hq_4 ?_
        refine ev_aload_n (q := 99) dX7_knot_98 rfl rfl ?_
        obtain ⟨o_5, ho_5, hg⟩ := mj_bd hg
        refine ev_callV (q := 102) kX7_takeBack mw_i_X7_takeBack mw_s_X7_takeBack mw_m_RX7_234 rfl rfl (r_X7_takeBack ho_5) rfl rfl (Nat.le_of_ble_eq_true rfl) (by decide) dX7_knot_99 rfl (fun v fv gv hp => ?_)
        obtain ⟨rfl, rfl, rfl⟩ := hp
        refine ev_iload_n (q := 103) dX7_knot_102 rfl rfl ?_
        refine ev_if_ne (t := 110) (q := 106) dX7_knot_103 rfl rfl hg (fun hg => ?_) (fun hg => ?_)
        · refine ev_iload_n (q := 107) dX7_knot_106 rfl rfl ?_
          refine ev_goto (q := 112) dX7_knot_107 rfl ?_
          obtain rfl := Option.some.inj hg
          exact ev_iret dX7_knot_112 rfl ⟨rfl, rfl, rfl⟩
        · refine ev_iload (q := 112) dX7_knot_110 rfl rfl ?_
          obtain rfl := Option.some.inj hg
          exact ev_iret dX7_knot_112 rfl ⟨rfl, rfl, rfl⟩
def g_X7_wetHay_76 (rec : Int32 → Int32 → Int32 → Int32 → Int32 → mj_I → Option (Int32 × Int32 × mj_I)) (x1 : Int32) (x2 : Int32) (x4 : Int32) (x5 : Int32) (s0 : Int32) (f : mj_I) : Option (Int32 × Int32 × mj_I) :=
  mj_lt ((x4 + ((f 0 16) * (f 4 45)))) (fun u_8 =>
  rec x1 x2 s0 u_8 (x5 + (1 : Int32)) f)
theorem r_X7_wetHay_76 {g : mj_L} {post : Option Value → mj_I → mj_L → Prop} {rec : Int32 → Int32 → Int32 → Int32 → Int32 → mj_I → Option (Int32 × Int32 × mj_I)} (hrec : ∀ (x1 : Int32) (x2 : Int32) (x3 : Int32) (x4 : Int32) (x5 : Int32) (f : mj_I) (o : Int32 × Int32 × mj_I), rec x1 x2 x3 x4 x5 f = some o → mj_Ev jX7_wetHay 100 [some (.ref 0), none, some (.int x2), some (.int o.1), some (.int o.2.1), none] [] my_S o.2.2 g post → mj_Ev jX7_wetHay 48 [some (.ref 0), some (.int x1), some (.int x2), some (.int x3), some (.int x4), some (.int x5)] [] my_S f g post) : ∀ (x1 : Int32) (x2 : Int32) (x4 : Int32) (x5 : Int32) (s0 : Int32) (f : mj_I) (o : Int32 × Int32 × mj_I), g_X7_wetHay_76 rec x1 x2 x4 x5 s0 f = some o → mj_Ev jX7_wetHay 100 [some (.ref 0), none, some (.int x2), some (.int o.1), some (.int o.2.1), none] [] my_S o.2.2 g post → mj_Ev jX7_wetHay 76 [some (.ref 0), some (.int x1), some (.int x2), none, some (.int x4), some (.int x5)] [.int s0] my_S f g post := by
  intro x1 x2 x4 x5 s0 f o hg hk
  unfold g_X7_wetHay_76 at hg
  refine ev_istore_n (q := 77) (loc' := [some (.ref _), some (.int _), some (.int _), some (.int _), some (.int _), some (.int _)]) dX7_wetHay_76 (by decide) rfl rfl ?_
  refine ev_iload (q := 79) dX7_wetHay_77 rfl rfl ?_
  refine ev_aload_n (q := 80) dX7_wetHay_79 rfl rfl ?_
  refine ev_getfI (q := 83) mw_f_RX7_174 (by decide) (by decide) rfl dX7_wetHay_80 rfl ?_
  refine ev_aload_n (q := 84) dX7_wetHay_83 rfl rfl ?_
  refine ev_getfR (q := 87) mw_f_RX7_19 rfl rfl dX7_wetHay_84 rfl ?_
  refine ev_bipush (v := 45) (q := 89) dX7_wetHay_87 mcb_45 rfl ?_
  refine ev_ialdk (k := 45) (q := 90) rfl (by decide) mcx_45 dX7_wetHay_89 rfl ?_
  refine ev_imul (q := 91) dX7_wetHay_90 rfl ?_
  refine ev_iadd (q := 92) dX7_wetHay_91 rfl ?_
  refine ev_nmi (fun u_8 hu_8 => ?_)
  have hg := mj_lt_el hu_8 hg
  refine ev_istore (q := 94) (loc' := [some (.ref _), some (.int _), some (.int _), some (.int _), some (.int _), some (.int _)]) dX7_wetHay_92 (by decide) rfl rfl ?_
  refine ev_iinc (v := 1) (q := 97) (loc' := [some (.ref _), some (.int _), some (.int _), some (.int _), some (.int _), some (.int _)]) dX7_wetHay_94 rfl (by decide) mci_1 rfl rfl ?_
  refine ev_goto (q := 48) dX7_wetHay_97 rfl ?_
  exact hrec _ _ _ _ _ _ _ hg hk
def g_X7_wetHay_48 : Nat → Int32 → Int32 → Int32 → Int32 → Int32 → mj_I → Option (Int32 × Int32 × mj_I)
  | 0, _, _, _, _, _, _ => none
  | n + 1, x1, x2, x3, x4, x5, f =>
    if x5 < x1 then
     (g_X7_oneHour f).bind (fun o_6 =>
     if 0 < (o_6.2 0 16) then
      if x3 < 0 then
       g_X7_wetHay_76 (g_X7_wetHay_48 n) x1 x2 x4 x5 x5 o_6.2
      else
       g_X7_wetHay_76 (g_X7_wetHay_48 n) x1 x2 x4 x5 x3 o_6.2
     else
      g_X7_wetHay_76 (g_X7_wetHay_48 n) x1 x2 x4 x5 x3 o_6.2)
    else
     some ((x3, x4, f))
theorem r_X7_wetHay_48 {g : mj_L} {post : Option Value → mj_I → mj_L → Prop} : ∀ (n : Nat) (x1 : Int32) (x2 : Int32) (x3 : Int32) (x4 : Int32) (x5 : Int32) (f : mj_I) (o : Int32 × Int32 × mj_I), g_X7_wetHay_48 n x1 x2 x3 x4 x5 f = some o → mj_Ev jX7_wetHay 100 [some (.ref 0), none, some (.int x2), some (.int o.1), some (.int o.2.1), none] [] my_S o.2.2 g post → mj_Ev jX7_wetHay 48 [some (.ref 0), some (.int x1), some (.int x2), some (.int x3), some (.int x4), some (.int x5)] [] my_S f g post := by
  intro n
  induction n with
  | zero =>
    intro x1 x2 x3 x4 x5 f o hg hk
    cases hg
  | succ n ih =>
    intro x1 x2 x3 x4 x5 f o hg hk
    unfold g_X7_wetHay_48 at hg
    refine ev_iload (q := 50) dX7_wetHay_48 rfl rfl ?_
    refine ev_iload_n (q := 51) dX7_wetHay_50 rfl rfl ?_
    refine ev_icmp_ge (t := 100) (q := 54) dX7_wetHay_51 rfl rfl hg (fun hg => ?_) (fun hg => ?_)
    · refine ev_aload_n (q := 55) dX7_wetHay_54 rfl rfl ?_
      obtain ⟨o_6, ho_6, hg⟩ := mj_bd hg
      refine ev_callV (q := 58) kX7_oneHour mw_i_X7_oneHour mw_s_X7_oneHour mw_m_RX7_199 rfl rfl (r_X7_oneHour ho_6) rfl rfl (Nat.le_of_ble_eq_true rfl) (by decide) dX7_wetHay_55 rfl (fun v fv gv hp => ?_)
      obtain ⟨rfl, rfl, rfl⟩ := hp
      refine ev_pop (q := 59) dX7_wetHay_58 rfl rfl ?_
      refine ev_aload_n (q := 60) dX7_wetHay_59 rfl rfl ?_
      refine ev_getfI (q := 63) mw_f_RX7_174 (by decide) (by decide) rfl dX7_wetHay_60 rfl ?_
      refine ev_if_le (t := 75) (q := 66) dX7_wetHay_63 rfl rfl hg (fun hg => ?_) (fun hg => ?_)
      · refine ev_iload_n (q := 67) dX7_wetHay_66 rfl rfl ?_
        refine ev_if_ge (t := 75) (q := 70) dX7_wetHay_67 rfl rfl hg (fun hg => ?_) (fun hg => ?_)
        · refine ev_iload (q := 72) dX7_wetHay_70 rfl rfl ?_
          refine ev_goto (q := 76) dX7_wetHay_72 rfl ?_
          refine ev_wk (loc' := [some (.ref _), some (.int _), some (.int _), none, some (.int _), some (.int _)]) ⟨rfl, rfl, rfl, rfl, rfl, trivial⟩ ?_
          exact r_X7_wetHay_76 ih _ _ _ _ _ _ _ hg hk
        · refine ev_iload_n (q := 76) dX7_wetHay_75 rfl rfl ?_
          refine ev_wk (loc' := [some (.ref _), some (.int _), some (.int _), none, some (.int _), some (.int _)]) ⟨rfl, rfl, rfl, rfl, rfl, trivial⟩ ?_
          exact r_X7_wetHay_76 ih _ _ _ _ _ _ _ hg hk
      · refine ev_iload_n (q := 76) dX7_wetHay_75 rfl rfl ?_
        refine ev_wk (loc' := [some (.ref _), some (.int _), some (.int _), none, some (.int _), some (.int _)]) ⟨rfl, rfl, rfl, rfl, rfl, trivial⟩ ?_
        exact r_X7_wetHay_76 ih _ _ _ _ _ _ _ hg hk
    · obtain rfl := Option.some.inj hg
      refine ev_wk (loc' := [some (.ref _), none, some (.int _), some (.int _), some (.int _), none]) ⟨rfl, rfl, rfl, rfl, trivial⟩ ?_
      exact hk
def g_X7_wetHay (x1 : Int32) (x2 : Int32) (f : mj_I) : Option (Int32 × mj_I) :=
  if (f 0 4) = 0 then
   some (((-1000002 : Int32), f))
  else
   if (g_X7_in (x1).toInt64 (1 : Int64) (60 : Int64)) = 0 then
    some (((-1000001 : Int32), f))
   else
    if (g_X7_in (x2).toInt64 (0 : Int64) (1 : Int64)) = 0 then
     some (((-1000001 : Int32), f))
    else
     (g_X7_putAside f).bind (fun o_3 =>
     (g_X7_wetHay_48 mj_fuel x1 x2 (-1000000 : Int32) (0 : Int32) (0 : Int32) o_3).bind (fun q_4 =>
     (g_X7_takeBack q_4.2.2).bind (fun o_5 =>
     if x2 = 0 then
      some ((q_4.1, o_5))
     else
      some ((q_4.2.1, o_5)))))
theorem r_X7_wetHay {x1 : Int32} {x2 : Int32} {f : mj_I} {g : mj_L} {o : Int32 × mj_I} (hg : g_X7_wetHay x1 x2 f = some o) : mj_Sp jX7_wetHay my_S [.ref 0, .int x1, .int x2] f g (fun v f' g' => some (.int o.1) = v ∧ o.2 = f' ∧ g = g') := by
  refine mj_sp 3 (by decide +kernel) rfl rfl (fun _ _ => Nat.le_of_ble_eq_true rfl) ?_
  show mj_Ev jX7_wetHay 0 [some (.ref 0), some (.int x1), some (.int x2), none, none, none] [] my_S f g _
  unfold g_X7_wetHay at hg
  refine ev_aload_n (q := 1) dX7_wetHay_0 rfl rfl ?_
  refine ev_getfI (q := 4) mw_f_RX7_154 (by decide) (by decide) rfl dX7_wetHay_1 rfl ?_
  refine ev_if_ne (t := 10) (q := 7) dX7_wetHay_4 rfl rfl hg (fun hg => ?_) (fun hg => ?_)
  · refine ev_ldc (q := 9) mw_c_RX7_193 dX7_wetHay_7 rfl ?_
    obtain rfl := Option.some.inj hg
    exact ev_iret dX7_wetHay_9 rfl ⟨rfl, rfl, rfl⟩
  · refine ev_iload_n (q := 11) dX7_wetHay_10 rfl rfl ?_
    refine ev_i2l (q := 12) dX7_wetHay_11 rfl ?_
    refine ev_lconst (v := 1) (q := 13) dX7_wetHay_12 mcl_1 rfl ?_
    refine ev_ldc2 (q := 16) mw_c_RX7_224 dX7_wetHay_13 rfl ?_
    refine ev_callS (q := 19) kX7_in mw_t_X7_in mw_m_RX7_60 (r_X7_in rfl) rfl rfl (Nat.le_of_ble_eq_true rfl) (by decide) dX7_wetHay_16 rfl (fun v fv gv hp => ?_)
    obtain ⟨rfl, rfl, rfl, hr_1⟩ := hp
    refine ev_if_eq (t := 32) (q := 22) dX7_wetHay_19 rfl rfl hg (fun hg => ?_) (fun hg => ?_)
    · refine ev_ldc (q := 34) mw_c_RX7_70 dX7_wetHay_32 rfl ?_
      obtain rfl := Option.some.inj hg
      exact ev_iret dX7_wetHay_34 rfl ⟨rfl, rfl, rfl⟩
    · refine ev_iload_n (q := 23) dX7_wetHay_22 rfl rfl ?_
      refine ev_i2l (q := 24) dX7_wetHay_23 rfl ?_
      refine ev_lconst (v := 0) (q := 25) dX7_wetHay_24 mcl_0 rfl ?_
      refine ev_lconst (v := 1) (q := 26) dX7_wetHay_25 mcl_1 rfl ?_
      refine ev_callS (q := 29) kX7_in mw_t_X7_in mw_m_RX7_60 (r_X7_in rfl) rfl rfl (Nat.le_of_ble_eq_true rfl) (by decide) dX7_wetHay_26 rfl (fun v fv gv hp => ?_)
      obtain ⟨rfl, rfl, rfl, hr_2⟩ := hp
      refine ev_if_ne (t := 35) (q := 32) dX7_wetHay_29 rfl rfl hg (fun hg => ?_) (fun hg => ?_)
      · refine ev_ldc (q := 34) mw_c_RX7_70 dX7_wetHay_32 rfl ?_
        obtain rfl := Option.some.inj hg
        exact ev_iret dX7_wetHay_34 rfl ⟨rfl, rfl, rfl⟩
      · refine ev_aload_n (q := 36) dX7_wetHay_35 rfl rfl ?_
        obtain ⟨o_3, ho_3, hg⟩ := mj_bd hg
        refine ev_callV (q := 39) kX7_putAside mw_i_X7_putAside mw_s_X7_putAside mw_m_RX7_228 rfl rfl (r_X7_putAside ho_3) rfl rfl (Nat.le_of_ble_eq_true rfl) (by decide) dX7_wetHay_36 rfl (fun v fv gv hp => ?_)
        obtain ⟨rfl, rfl, rfl⟩ := hp
        refine ev_ldc (q := 41) mw_c_RX7_237 dX7_wetHay_39 rfl ?_
        refine ev_istore_n (q := 42) (loc' := [some (.ref _), some (.int _), some (.int _), some (.int _), none, none]) dX7_wetHay_41 (by decide) rfl rfl ?_
        refine ev_iconst (v := 0) (q := 43) dX7_wetHay_42 mci_0 rfl ?_
        refine ev_istore (q := 45) (loc' := [some (.ref _), some (.int _), some (.int _), some (.int _), some (.int _), none]) dX7_wetHay_43 (by decide) rfl rfl ?_
        refine ev_iconst (v := 0) (q := 46) dX7_wetHay_45 mci_0 rfl ?_
        refine ev_istore (q := 48) (loc' := [some (.ref _), some (.int _), some (.int _), some (.int _), some (.int _), some (.int _)]) dX7_wetHay_46 (by decide) rfl rfl ?_
        obtain ⟨q_4, hq_4, hg⟩ := mj_bd hg
        refine r_X7_wetHay_48 mj_fuel _ _ _ _ _ _ _ hq_4 ?_
        refine ev_aload_n (q := 101) dX7_wetHay_100 rfl rfl ?_
        obtain ⟨o_5, ho_5, hg⟩ := mj_bd hg
        refine ev_callV (q := 104) kX7_takeBack mw_i_X7_takeBack mw_s_X7_takeBack mw_m_RX7_234 rfl rfl (r_X7_takeBack ho_5) rfl rfl (Nat.le_of_ble_eq_true rfl) (by decide) dX7_wetHay_101 rfl (fun v fv gv hp => ?_)
        obtain ⟨rfl, rfl, rfl⟩ := hp
        refine ev_iload_n (q := 105) dX7_wetHay_104 rfl rfl ?_
        refine ev_if_ne (t := 112) (q := 108) dX7_wetHay_105 rfl rfl hg (fun hg => ?_) (fun hg => ?_)
        · refine ev_iload_n (q := 109) dX7_wetHay_108 rfl rfl ?_
          refine ev_goto (q := 114) dX7_wetHay_109 rfl ?_
          obtain rfl := Option.some.inj hg
          exact ev_iret dX7_wetHay_114 rfl ⟨rfl, rfl, rfl⟩
        · refine ev_iload (q := 114) dX7_wetHay_112 rfl rfl ?_
          obtain rfl := Option.some.inj hg
          exact ev_iret dX7_wetHay_114 rfl ⟨rfl, rfl, rfl⟩
def g_X7_soon_42 : Nat → Int32 → Int32 → Int32 → Int32 → mj_I → Option (mj_I)
  | 0, _, _, _, _, _ => none
  | n + 1, x1, x2, x3, x4, f =>
    if x4 < (32 : Int32) then
     if mj_in ((56 : Int32) + x1) 82 = true then
     if x4 = (f 4 (ix ((56 : Int32) + x1))) then
       if mj_in x4 32 = true then
       mj_lt (mj_wr f 10 (ix x4) (1 : Int32)) (fun f_10 =>
        g_X7_soon_42 n x1 x2 x3 (x4 + (1 : Int32)) f_10)
       else none
      else
       if mj_in x4 32 = true then
       mj_lt (mj_wr f 10 (ix x4) (0 : Int32)) (fun f_11 =>
        g_X7_soon_42 n x1 x2 x3 (x4 + (1 : Int32)) f_11)
       else none
     else none
    else
     some (f)
theorem r_X7_soon_42 {g : mj_L} {post : Option Value → mj_I → mj_L → Prop} : ∀ (n : Nat) (x1 : Int32) (x2 : Int32) (x3 : Int32) (x4 : Int32) (f : mj_I) (o : mj_I), g_X7_soon_42 n x1 x2 x3 x4 f = some o → mj_Ev jX7_soon 81 [some (.ref 0), none, some (.int x2), some (.int x3), none, none] [] my_S o g post → mj_Ev jX7_soon 42 [some (.ref 0), some (.int x1), some (.int x2), some (.int x3), some (.int x4), none] [] my_S f g post := by
  intro n
  induction n with
  | zero =>
    intro x1 x2 x3 x4 f o hg hk
    cases hg
  | succ n ih =>
    intro x1 x2 x3 x4 f o hg hk
    unfold g_X7_soon_42 at hg
    refine ev_iload (q := 44) dX7_soon_42 rfl rfl ?_
    refine ev_bipush (v := 32) (q := 46) dX7_soon_44 mcb_32 rfl ?_
    refine ev_icmp_ge (t := 81) (q := 49) dX7_soon_46 rfl rfl hg (fun hg => ?_) (fun hg => ?_)
    · refine ev_aload_n (q := 50) dX7_soon_49 rfl rfl ?_
      refine ev_getfR (q := 53) mw_f_RX7_37 rfl rfl dX7_soon_50 rfl ?_
      refine ev_iload (q := 55) dX7_soon_53 rfl rfl ?_
      refine ev_iload (q := 57) dX7_soon_55 rfl rfl ?_
      refine ev_aload_n (q := 58) dX7_soon_57 rfl rfl ?_
      refine ev_getfR (q := 61) mw_f_RX7_19 rfl rfl dX7_soon_58 rfl ?_
      refine ev_bipush (v := 56) (q := 63) dX7_soon_61 mcb_56 rfl ?_
      refine ev_iload_n (q := 64) dX7_soon_63 rfl rfl ?_
      refine ev_iadd (q := 65) dX7_soon_64 rfl ?_
      obtain ⟨hi_9, hg⟩ := mj_gd hg
      refine ev_ialdk (q := 66) rfl hi_9 rfl dX7_soon_65 rfl ?_
      refine ev_icmp_ne (t := 73) (q := 69) dX7_soon_66 rfl rfl hg (fun hg => ?_) (fun hg => ?_)
      · refine ev_iconst (v := 1) (q := 70) dX7_soon_69 mci_1 rfl ?_
        refine ev_goto (q := 74) dX7_soon_70 rfl ?_
        obtain ⟨hi_10, hg⟩ := mj_gd hg
        refine ev_zastk (q := 75) rfl hi_10 rfl (mcz_1) dX7_soon_74 rfl ?_
        refine ev_nmf (fun f_10 hf_10 => ?_)
        have hg := mj_lt_el hf_10 hg
        refine ev_iinc (v := 1) (q := 78) (loc' := [some (.ref _), some (.int _), some (.int _), some (.int _), some (.int _), none]) dX7_soon_75 rfl (by decide) mci_1 rfl rfl ?_
        refine ev_goto (q := 42) dX7_soon_78 rfl ?_
        exact ih _ _ _ _ _ _ hg hk
      · refine ev_iconst (v := 0) (q := 74) dX7_soon_73 mci_0 rfl ?_
        obtain ⟨hi_11, hg⟩ := mj_gd hg
        refine ev_zastk (q := 75) rfl hi_11 rfl (mcz_0) dX7_soon_74 rfl ?_
        refine ev_nmf (fun f_11 hf_11 => ?_)
        have hg := mj_lt_el hf_11 hg
        refine ev_iinc (v := 1) (q := 78) (loc' := [some (.ref _), some (.int _), some (.int _), some (.int _), some (.int _), none]) dX7_soon_75 rfl (by decide) mci_1 rfl rfl ?_
        refine ev_goto (q := 42) dX7_soon_78 rfl ?_
        exact ih _ _ _ _ _ _ hg hk
    · obtain rfl := Option.some.inj hg
      refine ev_wk (loc' := [some (.ref _), none, some (.int _), some (.int _), none, none]) ⟨rfl, rfl, rfl, trivial⟩ ?_
      exact hk
def g_X7_soon_103 : Nat → Int32 → Int32 → Int32 → Int32 → mj_I → Option (mj_I)
  | 0, _, _, _, _, _ => none
  | n + 1, x2, x3, x4, x5, f =>
    if x5 < (32 : Int32) then
     if mj_in x5 32 = true then
     mj_lt (mj_wr f 11 (ix x5) (0 : Int32)) (fun f_16 =>
      g_X7_soon_103 n x2 x3 x4 (x5 + (1 : Int32)) f_16)
     else none
    else
     some (f)
theorem r_X7_soon_103 {g : mj_L} {post : Option Value → mj_I → mj_L → Prop} : ∀ (n : Nat) (x2 : Int32) (x3 : Int32) (x4 : Int32) (x5 : Int32) (f : mj_I) (o : mj_I), g_X7_soon_103 n x2 x3 x4 x5 f = some o → mj_Ev jX7_soon 124 [some (.ref 0), none, some (.int x2), some (.int x3), some (.int x4), none] [] my_S o g post → mj_Ev jX7_soon 103 [some (.ref 0), none, some (.int x2), some (.int x3), some (.int x4), some (.int x5)] [] my_S f g post := by
  intro n
  induction n with
  | zero =>
    intro x2 x3 x4 x5 f o hg hk
    cases hg
  | succ n ih =>
    intro x2 x3 x4 x5 f o hg hk
    unfold g_X7_soon_103 at hg
    refine ev_iload (q := 105) dX7_soon_103 rfl rfl ?_
    refine ev_bipush (v := 32) (q := 107) dX7_soon_105 mcb_32 rfl ?_
    refine ev_icmp_ge (t := 124) (q := 110) dX7_soon_107 rfl rfl hg (fun hg => ?_) (fun hg => ?_)
    · refine ev_aload_n (q := 111) dX7_soon_110 rfl rfl ?_
      refine ev_getfR (q := 114) mw_f_RX7_41 rfl rfl dX7_soon_111 rfl ?_
      refine ev_iload (q := 116) dX7_soon_114 rfl rfl ?_
      refine ev_iconst (v := 0) (q := 117) dX7_soon_116 mci_0 rfl ?_
      obtain ⟨hi_16, hg⟩ := mj_gd hg
      refine ev_zastk (q := 118) rfl hi_16 rfl (mcz_0) dX7_soon_117 rfl ?_
      refine ev_nmf (fun f_16 hf_16 => ?_)
      have hg := mj_lt_el hf_16 hg
      refine ev_iinc (v := 1) (q := 121) (loc' := [some (.ref _), none, some (.int _), some (.int _), some (.int _), some (.int _)]) dX7_soon_118 rfl (by decide) mci_1 rfl rfl ?_
      refine ev_goto (q := 103) dX7_soon_121 rfl ?_
      exact ih _ _ _ _ _ _ hg hk
    · obtain rfl := Option.some.inj hg
      refine ev_wk (loc' := [some (.ref _), none, some (.int _), some (.int _), some (.int _), none]) ⟨rfl, rfl, rfl, rfl, trivial⟩ ?_
      exact hk
def g_X7_soon_186 (rec : Int32 → Int32 → Int32 → Int32 → mj_I → Option (mj_I)) (x2 : Int32) (x3 : Int32) (x4 : Int32) (x5 : Int32) (s2 : Int32) (s3 : Int32) (s4 : Int32) (f : mj_I) : Option (mj_I) :=
  (g_X7_drifts s2 s3 s4 ((f 4 46) + x4) f).bind (fun o_24 =>
  if mj_in o_24 32 = true then
  mj_lt (mj_wr f 11 (ix o_24) (1 : Int32)) (fun f_25 =>
   rec x2 x3 x4 (x5 + (1 : Int32)) f_25)
  else none)
theorem r_X7_soon_186 {g : mj_L} {post : Option Value → mj_I → mj_L → Prop} {rec : Int32 → Int32 → Int32 → Int32 → mj_I → Option (mj_I)} (hrec : ∀ (x2 : Int32) (x3 : Int32) (x4 : Int32) (x5 : Int32) (f : mj_I) (o : mj_I), rec x2 x3 x4 x5 f = some o → mj_Ev jX7_soon 207 [some (.ref 0), none, some (.int x2), some (.int x3), some (.int x4), none] [] my_S o g post → mj_Ev jX7_soon 127 [some (.ref 0), none, some (.int x2), some (.int x3), some (.int x4), some (.int x5)] [] my_S f g post) : ∀ (x2 : Int32) (x3 : Int32) (x4 : Int32) (x5 : Int32) (s2 : Int32) (s3 : Int32) (s4 : Int32) (f : mj_I) (o : mj_I), g_X7_soon_186 rec x2 x3 x4 x5 s2 s3 s4 f = some o → mj_Ev jX7_soon 207 [some (.ref 0), none, some (.int x2), some (.int x3), some (.int x4), none] [] my_S o g post → mj_Ev jX7_soon 186 [some (.ref 0), none, some (.int x2), some (.int x3), some (.int x4), some (.int x5)] [.int s4, .int s3, .int s2, .ref 0, .ref 11] my_S f g post := by
  intro x2 x3 x4 x5 s2 s3 s4 f o hg hk
  unfold g_X7_soon_186 at hg
  refine ev_aload_n (q := 187) dX7_soon_186 rfl rfl ?_
  refine ev_getfR (q := 190) mw_f_RX7_19 rfl rfl dX7_soon_187 rfl ?_
  refine ev_bipush (v := 46) (q := 192) dX7_soon_190 mcb_46 rfl ?_
  refine ev_ialdk (k := 46) (q := 193) rfl (by decide) mcx_46 dX7_soon_192 rfl ?_
  refine ev_iload (q := 195) dX7_soon_193 rfl rfl ?_
  refine ev_iadd (q := 196) dX7_soon_195 rfl ?_
  obtain ⟨o_24, ho_24, hg⟩ := mj_bd hg
  refine ev_callV (q := 199) kX7_drifts mw_i_X7_drifts mw_s_X7_drifts mw_m_RX7_167 rfl rfl (r_X7_drifts ho_24) rfl rfl (Nat.le_of_ble_eq_true rfl) (by decide) dX7_soon_196 rfl (fun v fv gv hp => ?_)
  obtain ⟨rfl, rfl, rfl⟩ := hp
  refine ev_iconst (v := 1) (q := 200) dX7_soon_199 mci_1 rfl ?_
  obtain ⟨hi_25, hg⟩ := mj_gd hg
  refine ev_zastk (q := 201) rfl hi_25 rfl (mcz_1) dX7_soon_200 rfl ?_
  refine ev_nmf (fun f_25 hf_25 => ?_)
  have hg := mj_lt_el hf_25 hg
  refine ev_iinc (v := 1) (q := 204) (loc' := [some (.ref _), none, some (.int _), some (.int _), some (.int _), some (.int _)]) dX7_soon_201 rfl (by decide) mci_1 rfl rfl ?_
  refine ev_goto (q := 127) dX7_soon_204 rfl ?_
  exact hrec _ _ _ _ _ _ hg hk
def g_X7_soon_127 : Nat → Int32 → Int32 → Int32 → Int32 → mj_I → Option (mj_I)
  | 0, _, _, _, _, _ => none
  | n + 1, x2, x3, x4, x5, f =>
    if x5 < (32 : Int32) then
     if mj_in x5 32 = true then
     if (f 10 (ix x5)) = 0 then
       g_X7_soon_127 n x2 x3 x4 (x5 + (1 : Int32)) f
      else
       (g_X7_drifts x3 x5 (0 : Int32) ((f 4 46) + x4) f).bind (fun o_19 =>
       if mj_in o_19 32 = true then
       mj_lt (mj_wr f 11 (ix o_19) (1 : Int32)) (fun f_20 =>
        if x3 < (4 : Int32) then
         g_X7_soon_186 (g_X7_soon_127 n) x2 x3 x4 x5 x3 x5 (1 : Int32) f_20
        else
         g_X7_soon_186 (g_X7_soon_127 n) x2 x3 x4 x5 x3 x5 (0 : Int32) f_20)
       else none)
     else none
    else
     some (f)
theorem r_X7_soon_127 {g : mj_L} {post : Option Value → mj_I → mj_L → Prop} : ∀ (n : Nat) (x2 : Int32) (x3 : Int32) (x4 : Int32) (x5 : Int32) (f : mj_I) (o : mj_I), g_X7_soon_127 n x2 x3 x4 x5 f = some o → mj_Ev jX7_soon 207 [some (.ref 0), none, some (.int x2), some (.int x3), some (.int x4), none] [] my_S o g post → mj_Ev jX7_soon 127 [some (.ref 0), none, some (.int x2), some (.int x3), some (.int x4), some (.int x5)] [] my_S f g post := by
  intro n
  induction n with
  | zero =>
    intro x2 x3 x4 x5 f o hg hk
    cases hg
  | succ n ih =>
    intro x2 x3 x4 x5 f o hg hk
    unfold g_X7_soon_127 at hg
    refine ev_iload (q := 129) dX7_soon_127 rfl rfl ?_
    refine ev_bipush (v := 32) (q := 131) dX7_soon_129 mcb_32 rfl ?_
    refine ev_icmp_ge (t := 207) (q := 134) dX7_soon_131 rfl rfl hg (fun hg => ?_) (fun hg => ?_)
    · refine ev_aload_n (q := 135) dX7_soon_134 rfl rfl ?_
      refine ev_getfR (q := 138) mw_f_RX7_37 rfl rfl dX7_soon_135 rfl ?_
      refine ev_iload (q := 140) dX7_soon_138 rfl rfl ?_
      obtain ⟨hi_17, hg⟩ := mj_gd hg
      refine ev_zaldk (q := 141) rfl hi_17 rfl dX7_soon_140 rfl ?_
      refine ev_if_eq (t := 201) (q := 144) dX7_soon_141 rfl rfl hg (fun hg => ?_) (fun hg => ?_)
      · refine ev_iinc (v := 1) (q := 204) (loc' := [some (.ref _), none, some (.int _), some (.int _), some (.int _), some (.int _)]) dX7_soon_201 rfl (by decide) mci_1 rfl rfl ?_
        refine ev_goto (q := 127) dX7_soon_204 rfl ?_
        exact ih _ _ _ _ _ _ hg hk
      · refine ev_aload_n (q := 145) dX7_soon_144 rfl rfl ?_
        refine ev_getfR (q := 148) mw_f_RX7_41 rfl rfl dX7_soon_145 rfl ?_
        refine ev_aload_n (q := 149) dX7_soon_148 rfl rfl ?_
        refine ev_iload_n (q := 150) dX7_soon_149 rfl rfl ?_
        refine ev_iload (q := 152) dX7_soon_150 rfl rfl ?_
        refine ev_iconst (v := 0) (q := 153) dX7_soon_152 mci_0 rfl ?_
        refine ev_aload_n (q := 154) dX7_soon_153 rfl rfl ?_
        refine ev_getfR (q := 157) mw_f_RX7_19 rfl rfl dX7_soon_154 rfl ?_
        refine ev_bipush (v := 46) (q := 159) dX7_soon_157 mcb_46 rfl ?_
        refine ev_ialdk (k := 46) (q := 160) rfl (by decide) mcx_46 dX7_soon_159 rfl ?_
        refine ev_iload (q := 162) dX7_soon_160 rfl rfl ?_
        refine ev_iadd (q := 163) dX7_soon_162 rfl ?_
        obtain ⟨o_19, ho_19, hg⟩ := mj_bd hg
        refine ev_callV (q := 166) kX7_drifts mw_i_X7_drifts mw_s_X7_drifts mw_m_RX7_167 rfl rfl (r_X7_drifts ho_19) rfl rfl (Nat.le_of_ble_eq_true rfl) (by decide) dX7_soon_163 rfl (fun v fv gv hp => ?_)
        obtain ⟨rfl, rfl, rfl⟩ := hp
        refine ev_iconst (v := 1) (q := 167) dX7_soon_166 mci_1 rfl ?_
        obtain ⟨hi_20, hg⟩ := mj_gd hg
        refine ev_zastk (q := 168) rfl hi_20 rfl (mcz_1) dX7_soon_167 rfl ?_
        refine ev_nmf (fun f_20 hf_20 => ?_)
        have hg := mj_lt_el hf_20 hg
        refine ev_aload_n (q := 169) dX7_soon_168 rfl rfl ?_
        refine ev_getfR (q := 172) mw_f_RX7_41 rfl rfl dX7_soon_169 rfl ?_
        refine ev_aload_n (q := 173) dX7_soon_172 rfl rfl ?_
        refine ev_iload_n (q := 174) dX7_soon_173 rfl rfl ?_
        refine ev_iload (q := 176) dX7_soon_174 rfl rfl ?_
        refine ev_iload_n (q := 177) dX7_soon_176 rfl rfl ?_
        refine ev_iconst (v := 4) (q := 178) dX7_soon_177 mci_4 rfl ?_
        refine ev_icmp_lt (t := 185) (q := 181) dX7_soon_178 rfl rfl hg (fun hg => ?_) (fun hg => ?_)
        · refine ev_iconst (v := 1) (q := 186) dX7_soon_185 mci_1 rfl ?_
          exact r_X7_soon_186 ih _ _ _ _ _ _ _ _ _ hg hk
        · refine ev_iconst (v := 0) (q := 182) dX7_soon_181 mci_0 rfl ?_
          refine ev_goto (q := 186) dX7_soon_182 rfl ?_
          exact r_X7_soon_186 ih _ _ _ _ _ _ _ _ _ hg hk
    · obtain rfl := Option.some.inj hg
      refine ev_wk (loc' := [some (.ref _), none, some (.int _), some (.int _), some (.int _), none]) ⟨rfl, rfl, rfl, rfl, trivial⟩ ?_
      exact hk
def g_X7_soon_210 : Nat → Int32 → Int32 → Int32 → Int32 → mj_I → Option (mj_I)
  | 0, _, _, _, _, _ => none
  | n + 1, x2, x3, x4, x5, f =>
    if x5 < (32 : Int32) then
     if mj_in x5 32 = true then
     if mj_in x5 32 = true then
      if mj_b (f 11 (ix x5)) = true then
       mj_lt (mj_wr f 10 (ix x5) (f 11 (ix x5))) (fun f_22 =>
        g_X7_soon_210 n x2 x3 x4 (x5 + (1 : Int32)) f_22)
       else none
      else none
     else none
    else
     some (f)
theorem r_X7_soon_210 {g : mj_L} {post : Option Value → mj_I → mj_L → Prop} : ∀ (n : Nat) (x2 : Int32) (x3 : Int32) (x4 : Int32) (x5 : Int32) (f : mj_I) (o : mj_I), g_X7_soon_210 n x2 x3 x4 x5 f = some o → mj_Ev jX7_soon 237 [some (.ref 0), none, some (.int x2), some (.int x3), some (.int x4), none] [] my_S o g post → mj_Ev jX7_soon 210 [some (.ref 0), none, some (.int x2), some (.int x3), some (.int x4), some (.int x5)] [] my_S f g post := by
  intro n
  induction n with
  | zero =>
    intro x2 x3 x4 x5 f o hg hk
    cases hg
  | succ n ih =>
    intro x2 x3 x4 x5 f o hg hk
    unfold g_X7_soon_210 at hg
    refine ev_iload (q := 212) dX7_soon_210 rfl rfl ?_
    refine ev_bipush (v := 32) (q := 214) dX7_soon_212 mcb_32 rfl ?_
    refine ev_icmp_ge (t := 237) (q := 217) dX7_soon_214 rfl rfl hg (fun hg => ?_) (fun hg => ?_)
    · refine ev_aload_n (q := 218) dX7_soon_217 rfl rfl ?_
      refine ev_getfR (q := 221) mw_f_RX7_37 rfl rfl dX7_soon_218 rfl ?_
      refine ev_iload (q := 223) dX7_soon_221 rfl rfl ?_
      refine ev_aload_n (q := 224) dX7_soon_223 rfl rfl ?_
      refine ev_getfR (q := 227) mw_f_RX7_41 rfl rfl dX7_soon_224 rfl ?_
      refine ev_iload (q := 229) dX7_soon_227 rfl rfl ?_
      obtain ⟨hi_21, hg⟩ := mj_gd hg
      refine ev_zaldk (q := 230) rfl hi_21 rfl dX7_soon_229 rfl ?_
      obtain ⟨hi_22, hg⟩ := mj_gd hg
      obtain ⟨hb_22, hg⟩ := mj_gd hg
      refine ev_zastk (q := 231) rfl hi_22 rfl (hb_22) dX7_soon_230 rfl ?_
      refine ev_nmf (fun f_22 hf_22 => ?_)
      have hg := mj_lt_el hf_22 hg
      refine ev_iinc (v := 1) (q := 234) (loc' := [some (.ref _), none, some (.int _), some (.int _), some (.int _), some (.int _)]) dX7_soon_231 rfl (by decide) mci_1 rfl rfl ?_
      refine ev_goto (q := 210) dX7_soon_234 rfl ?_
      exact ih _ _ _ _ _ _ hg hk
    · obtain rfl := Option.some.inj hg
      refine ev_wk (loc' := [some (.ref _), none, some (.int _), some (.int _), some (.int _), none]) ⟨rfl, rfl, rfl, rfl, trivial⟩ ?_
      exact hk
def g_X7_soon_84 : Nat → Int32 → Int32 → Int32 → mj_I → Option (Int32 × mj_I)
  | 0, _, _, _, _ => none
  | n + 1, x2, x3, x4, f =>
    if x4 < (24 : Int32) then
     if mj_in x2 32 = true then
     if (f 10 (ix x2)) = 0 then
       (g_X7_soon_103 mj_fuel x2 x3 x4 (0 : Int32) f).bind (fun q_13 =>
       (g_X7_soon_127 mj_fuel x2 x3 x4 (0 : Int32) q_13).bind (fun q_14 =>
       (g_X7_soon_210 mj_fuel x2 x3 x4 (0 : Int32) q_14).bind (fun q_15 =>
       g_X7_soon_84 n x2 x3 (x4 + (1 : Int32)) q_15)))
      else
       some ((x4, f))
     else none
    else
     some ((x4, f))
theorem r_X7_soon_84 {g : mj_L} {post : Option Value → mj_I → mj_L → Prop} : ∀ (n : Nat) (x2 : Int32) (x3 : Int32) (x4 : Int32) (f : mj_I) (o : Int32 × mj_I), g_X7_soon_84 n x2 x3 x4 f = some o → mj_Ev jX7_soon 243 [some (.ref 0), none, some (.int x2), none, some (.int o.1), none] [] my_S o.2 g post → mj_Ev jX7_soon 84 [some (.ref 0), none, some (.int x2), some (.int x3), some (.int x4), none] [] my_S f g post := by
  intro n
  induction n with
  | zero =>
    intro x2 x3 x4 f o hg hk
    cases hg
  | succ n ih =>
    intro x2 x3 x4 f o hg hk
    unfold g_X7_soon_84 at hg
    refine ev_iload (q := 86) dX7_soon_84 rfl rfl ?_
    refine ev_bipush (v := 24) (q := 88) dX7_soon_86 mcb_24 rfl ?_
    refine ev_icmp_ge (t := 243) (q := 91) dX7_soon_88 rfl rfl hg (fun hg => ?_) (fun hg => ?_)
    · refine ev_aload_n (q := 92) dX7_soon_91 rfl rfl ?_
      refine ev_getfR (q := 95) mw_f_RX7_37 rfl rfl dX7_soon_92 rfl ?_
      refine ev_iload_n (q := 96) dX7_soon_95 rfl rfl ?_
      obtain ⟨hi_12, hg⟩ := mj_gd hg
      refine ev_zaldk (q := 97) rfl hi_12 rfl dX7_soon_96 rfl ?_
      refine ev_if_ne (t := 243) (q := 100) dX7_soon_97 rfl rfl hg (fun hg => ?_) (fun hg => ?_)
      · refine ev_iconst (v := 0) (q := 101) dX7_soon_100 mci_0 rfl ?_
        refine ev_istore (q := 103) (loc' := [some (.ref _), none, some (.int _), some (.int _), some (.int _), some (.int _)]) dX7_soon_101 (by decide) rfl rfl ?_
        obtain ⟨q_13, hq_13, hg⟩ := mj_bd hg
        refine r_X7_soon_103 mj_fuel _ _ _ _ _ _ hq_13 ?_
        refine ev_iconst (v := 0) (q := 125) dX7_soon_124 mci_0 rfl ?_
        refine ev_istore (q := 127) (loc' := [some (.ref _), none, some (.int _), some (.int _), some (.int _), some (.int _)]) dX7_soon_125 (by decide) rfl rfl ?_
        obtain ⟨q_14, hq_14, hg⟩ := mj_bd hg
        refine r_X7_soon_127 mj_fuel _ _ _ _ _ _ hq_14 ?_
        refine ev_iconst (v := 0) (q := 208) dX7_soon_207 mci_0 rfl ?_
        refine ev_istore (q := 210) (loc' := [some (.ref _), none, some (.int _), some (.int _), some (.int _), some (.int _)]) dX7_soon_208 (by decide) rfl rfl ?_
        obtain ⟨q_15, hq_15, hg⟩ := mj_bd hg
        refine r_X7_soon_210 mj_fuel _ _ _ _ _ _ hq_15 ?_
        refine ev_iinc (v := 1) (q := 240) (loc' := [some (.ref _), none, some (.int _), some (.int _), some (.int _), none]) dX7_soon_237 rfl (by decide) mci_1 rfl rfl ?_
        refine ev_goto (q := 84) dX7_soon_240 rfl ?_
        exact ih _ _ _ _ _ hg hk
      · obtain rfl := Option.some.inj hg
        refine ev_wk (loc' := [some (.ref _), none, some (.int _), none, some (.int _), none]) ⟨rfl, rfl, rfl, trivial⟩ ?_
        exact hk
    · obtain rfl := Option.some.inj hg
      refine ev_wk (loc' := [some (.ref _), none, some (.int _), none, some (.int _), none]) ⟨rfl, rfl, rfl, trivial⟩ ?_
      exact hk
def g_X7_soon (x1 : Int32) (x2 : Int32) (f : mj_I) : Option (Int32 × mj_I) :=
  if (g_X7_isCloud x1 f) = 0 then
   some (((-1000001 : Int32), f))
  else
   if (g_X7_isCell x2) = 0 then
    some (((-1000001 : Int32), f))
   else
    (g_X7_isThere x1 f).bind (fun o_3 =>
    if o_3 = 0 then
     some (((-1000002 : Int32), f))
    else
     if mj_in ((51 : Int32) + x1) 82 = true then
     mj_lt ((f 4 (ix ((51 : Int32) + x1)))) (fun u_5 =>
      (g_X7_soon_42 mj_fuel x1 x2 u_5 (0 : Int32) f).bind (fun q_6 =>
      (g_X7_soon_84 mj_fuel x2 u_5 (0 : Int32) q_6).bind (fun q_7 =>
      if mj_in x2 32 = true then
      if (q_7.2 10 (ix x2)) = 0 then
        some (((-1000000 : Int32), q_7.2))
       else
        some ((q_7.1, q_7.2))
      else none)))
     else none)
theorem r_X7_soon {x1 : Int32} {x2 : Int32} {f : mj_I} {g : mj_L} {o : Int32 × mj_I} (hg : g_X7_soon x1 x2 f = some o) : mj_Sp jX7_soon my_S [.ref 0, .int x1, .int x2] f g (fun v f' g' => some (.int o.1) = v ∧ o.2 = f' ∧ g = g') := by
  refine mj_sp 3 (by decide +kernel) rfl rfl (fun _ _ => Nat.le_of_ble_eq_true rfl) ?_
  show mj_Ev jX7_soon 0 [some (.ref 0), some (.int x1), some (.int x2), none, none, none] [] my_S f g _
  unfold g_X7_soon at hg
  refine ev_aload_n (q := 1) dX7_soon_0 rfl rfl ?_
  refine ev_iload_n (q := 2) dX7_soon_1 rfl rfl ?_
  refine ev_callV (q := 5) kX7_isCloud mw_i_X7_isCloud mw_s_X7_isCloud mw_m_RX7_202 rfl rfl (r_X7_isCloud rfl) rfl rfl (Nat.le_of_ble_eq_true rfl) (by decide) dX7_soon_2 rfl (fun v fv gv hp => ?_)
  obtain ⟨rfl, rfl, rfl, hr_1⟩ := hp
  refine ev_if_eq (t := 15) (q := 8) dX7_soon_5 rfl rfl hg (fun hg => ?_) (fun hg => ?_)
  · refine ev_ldc (q := 17) mw_c_RX7_70 dX7_soon_15 rfl ?_
    obtain rfl := Option.some.inj hg
    exact ev_iret dX7_soon_17 rfl ⟨rfl, rfl, rfl⟩
  · refine ev_iload_n (q := 9) dX7_soon_8 rfl rfl ?_
    refine ev_callS (q := 12) kX7_isCell mw_t_X7_isCell mw_m_RX7_216 (r_X7_isCell rfl) rfl rfl (Nat.le_of_ble_eq_true rfl) (by decide) dX7_soon_9 rfl (fun v fv gv hp => ?_)
    obtain ⟨rfl, rfl, rfl, hr_2⟩ := hp
    refine ev_if_ne (t := 18) (q := 15) dX7_soon_12 rfl rfl hg (fun hg => ?_) (fun hg => ?_)
    · refine ev_ldc (q := 17) mw_c_RX7_70 dX7_soon_15 rfl ?_
      obtain rfl := Option.some.inj hg
      exact ev_iret dX7_soon_17 rfl ⟨rfl, rfl, rfl⟩
    · refine ev_aload_n (q := 19) dX7_soon_18 rfl rfl ?_
      refine ev_iload_n (q := 20) dX7_soon_19 rfl rfl ?_
      obtain ⟨o_3, ho_3, hg⟩ := mj_bd hg
      refine ev_callV (q := 23) kX7_isThere mw_i_X7_isThere mw_s_X7_isThere mw_m_RX7_177 rfl rfl (r_X7_isThere ho_3) rfl rfl (Nat.le_of_ble_eq_true rfl) (by decide) dX7_soon_20 rfl (fun v fv gv hp => ?_)
      obtain ⟨rfl, rfl, rfl, hr_3⟩ := hp
      refine ev_if_ne (t := 29) (q := 26) dX7_soon_23 rfl rfl hg (fun hg => ?_) (fun hg => ?_)
      · refine ev_ldc (q := 28) mw_c_RX7_193 dX7_soon_26 rfl ?_
        obtain rfl := Option.some.inj hg
        exact ev_iret dX7_soon_28 rfl ⟨rfl, rfl, rfl⟩
      · refine ev_aload_n (q := 30) dX7_soon_29 rfl rfl ?_
        refine ev_getfR (q := 33) mw_f_RX7_19 rfl rfl dX7_soon_30 rfl ?_
        refine ev_bipush (v := 51) (q := 35) dX7_soon_33 mcb_51 rfl ?_
        refine ev_iload_n (q := 36) dX7_soon_35 rfl rfl ?_
        refine ev_iadd (q := 37) dX7_soon_36 rfl ?_
        obtain ⟨hi_4, hg⟩ := mj_gd hg
        refine ev_ialdk (q := 38) rfl hi_4 rfl dX7_soon_37 rfl ?_
        refine ev_nmi (fun u_5 hu_5 => ?_)
        have hg := mj_lt_el hu_5 hg
        refine ev_istore_n (q := 39) (loc' := [some (.ref _), some (.int _), some (.int _), some (.int _), none, none]) dX7_soon_38 (by decide) rfl rfl ?_
        refine ev_iconst (v := 0) (q := 40) dX7_soon_39 mci_0 rfl ?_
        refine ev_istore (q := 42) (loc' := [some (.ref _), some (.int _), some (.int _), some (.int _), some (.int _), none]) dX7_soon_40 (by decide) rfl rfl ?_
        obtain ⟨q_6, hq_6, hg⟩ := mj_bd hg
        refine r_X7_soon_42 mj_fuel _ _ _ _ _ _ hq_6 ?_
        refine ev_iconst (v := 0) (q := 82) dX7_soon_81 mci_0 rfl ?_
        refine ev_istore (q := 84) (loc' := [some (.ref _), none, some (.int _), some (.int _), some (.int _), none]) dX7_soon_82 (by decide) rfl rfl ?_
        obtain ⟨q_7, hq_7, hg⟩ := mj_bd hg
        refine r_X7_soon_84 mj_fuel _ _ _ _ _ hq_7 ?_
        refine ev_aload_n (q := 244) dX7_soon_243 rfl rfl ?_
        refine ev_getfR (q := 247) mw_f_RX7_37 rfl rfl dX7_soon_244 rfl ?_
        refine ev_iload_n (q := 248) dX7_soon_247 rfl rfl ?_
        obtain ⟨hi_8, hg⟩ := mj_gd hg
        refine ev_zaldk (q := 249) rfl hi_8 rfl dX7_soon_248 rfl ?_
        refine ev_if_eq (t := 257) (q := 252) dX7_soon_249 rfl rfl hg (fun hg => ?_) (fun hg => ?_)
        · refine ev_ldc (q := 259) mw_c_RX7_237 dX7_soon_257 rfl ?_
          obtain rfl := Option.some.inj hg
          exact ev_iret dX7_soon_259 rfl ⟨rfl, rfl, rfl⟩
        · refine ev_iload (q := 254) dX7_soon_252 rfl rfl ?_
          refine ev_goto (q := 259) dX7_soon_254 rfl ?_
          obtain rfl := Option.some.inj hg
          exact ev_iret dX7_soon_259 rfl ⟨rfl, rfl, rfl⟩
def g_X7_heights_90 : Nat → Int32 → Int32 → Int32 → Int32 → Int32 → Int32 → Int32 → Int32 → mj_I → Option (mj_I)
  | 0, _, _, _, _, _, _, _, _, _ => none
  | n + 1, x1, x2, x3, x4, x5, x6, x7, x8, f =>
    if x8 < x2 then
     (g_X7_setHeight x1 ((x7 >>> (x8 &&& 31)) &&& (1 : Int32)) f).bind (fun o_15 =>
     (g_X7_oneAlone x1 o_15).bind (fun o_16 =>
     g_X7_heights_90 n x1 x2 x3 x4 x5 x6 x7 (x8 + (1 : Int32)) o_16.2))
    else
     some (f)
theorem r_X7_heights_90 {g : mj_L} {post : Option Value → mj_I → mj_L → Prop} : ∀ (n : Nat) (x1 : Int32) (x2 : Int32) (x3 : Int32) (x4 : Int32) (x5 : Int32) (x6 : Int32) (x7 : Int32) (x8 : Int32) (f : mj_I) (o : mj_I), g_X7_heights_90 n x1 x2 x3 x4 x5 x6 x7 x8 f = some o → mj_Ev jX7_heights 120 [some (.ref 0), some (.int x1), some (.int x2), some (.int x3), some (.int x4), some (.int x5), some (.int x6), some (.int x7), none] [] my_S o g post → mj_Ev jX7_heights 90 [some (.ref 0), some (.int x1), some (.int x2), some (.int x3), some (.int x4), some (.int x5), some (.int x6), some (.int x7), some (.int x8)] [] my_S f g post := by
  intro n
  induction n with
  | zero =>
    intro x1 x2 x3 x4 x5 x6 x7 x8 f o hg hk
    cases hg
  | succ n ih =>
    intro x1 x2 x3 x4 x5 x6 x7 x8 f o hg hk
    unfold g_X7_heights_90 at hg
    refine ev_iload (q := 92) dX7_heights_90 rfl rfl ?_
    refine ev_iload_n (q := 93) dX7_heights_92 rfl rfl ?_
    refine ev_icmp_ge (t := 120) (q := 96) dX7_heights_93 rfl rfl hg (fun hg => ?_) (fun hg => ?_)
    · refine ev_aload_n (q := 97) dX7_heights_96 rfl rfl ?_
      refine ev_iload_n (q := 98) dX7_heights_97 rfl rfl ?_
      refine ev_iload (q := 100) dX7_heights_98 rfl rfl ?_
      refine ev_iload (q := 102) dX7_heights_100 rfl rfl ?_
      refine ev_ishr (q := 103) dX7_heights_102 rfl ?_
      refine ev_iconst (v := 1) (q := 104) dX7_heights_103 mci_1 rfl ?_
      refine ev_iand (q := 105) dX7_heights_104 rfl ?_
      obtain ⟨o_15, ho_15, hg⟩ := mj_bd hg
      refine ev_callV (q := 108) kX7_setHeight mw_i_X7_setHeight mw_s_X7_setHeight mw_m_RX7_205 rfl rfl (r_X7_setHeight ho_15) rfl rfl (Nat.le_of_ble_eq_true rfl) (by decide) dX7_heights_105 rfl (fun v fv gv hp => ?_)
      obtain ⟨rfl, rfl, rfl⟩ := hp
      refine ev_aload_n (q := 109) dX7_heights_108 rfl rfl ?_
      refine ev_iload_n (q := 110) dX7_heights_109 rfl rfl ?_
      obtain ⟨o_16, ho_16, hg⟩ := mj_bd hg
      refine ev_callV (q := 113) kX7_oneAlone mw_i_X7_oneAlone mw_s_X7_oneAlone mw_m_RX7_240 rfl rfl (r_X7_oneAlone ho_16) rfl rfl (Nat.le_of_ble_eq_true rfl) (by decide) dX7_heights_110 rfl (fun v fv gv hp => ?_)
      obtain ⟨rfl, rfl, rfl⟩ := hp
      refine ev_pop (q := 114) dX7_heights_113 rfl rfl ?_
      refine ev_iinc (v := 1) (q := 117) (loc' := [some (.ref _), some (.int _), some (.int _), some (.int _), some (.int _), some (.int _), some (.int _), some (.int _), some (.int _)]) dX7_heights_114 rfl (by decide) mci_1 rfl rfl ?_
      refine ev_goto (q := 90) dX7_heights_117 rfl ?_
      exact ih _ _ _ _ _ _ _ _ _ _ hg hk
    · obtain rfl := Option.some.inj hg
      refine ev_wk (loc' := [some (.ref _), some (.int _), some (.int _), some (.int _), some (.int _), some (.int _), some (.int _), some (.int _), none]) ⟨rfl, rfl, rfl, rfl, rfl, rfl, rfl, rfl, trivial⟩ ?_
      exact hk
def g_X7_heights_160 (rec : Int32 → Int32 → Int32 → Int32 → Int32 → Int32 → Int32 → mj_I → Option (Int32 × Int32 × mj_I)) (x1 : Int32) (x2 : Int32) (x3 : Int32) (x5 : Int32) (x6 : Int32) (x7 : Int32) (x8 : Int32) (s0 : Int32) (f : mj_I) : Option (Int32 × Int32 × mj_I) :=
  if s0 = x7 then
   rec x1 x2 x3 s0 x8 x6 (x7 + (1 : Int32)) f
  else
   rec x1 x2 x3 s0 x5 x6 (x7 + (1 : Int32)) f
theorem r_X7_heights_160 {g : mj_L} {post : Option Value → mj_I → mj_L → Prop} {rec : Int32 → Int32 → Int32 → Int32 → Int32 → Int32 → Int32 → mj_I → Option (Int32 × Int32 × mj_I)} (hrec : ∀ (x1 : Int32) (x2 : Int32) (x3 : Int32) (x4 : Int32) (x5 : Int32) (x6 : Int32) (x7 : Int32) (f : mj_I) (o : Int32 × Int32 × mj_I), rec x1 x2 x3 x4 x5 x6 x7 f = some o → mj_Ev jX7_heights 184 [none, none, none, some (.int x3), some (.int o.1), some (.int o.2.1), none, none, none] [] my_S o.2.2 g post → mj_Ev jX7_heights 76 [some (.ref 0), some (.int x1), some (.int x2), some (.int x3), some (.int x4), some (.int x5), some (.int x6), some (.int x7), none] [] my_S f g post) : ∀ (x1 : Int32) (x2 : Int32) (x3 : Int32) (x5 : Int32) (x6 : Int32) (x7 : Int32) (x8 : Int32) (s0 : Int32) (f : mj_I) (o : Int32 × Int32 × mj_I), g_X7_heights_160 rec x1 x2 x3 x5 x6 x7 x8 s0 f = some o → mj_Ev jX7_heights 184 [none, none, none, some (.int x3), some (.int o.1), some (.int o.2.1), none, none, none] [] my_S o.2.2 g post → mj_Ev jX7_heights 160 [some (.ref 0), some (.int x1), some (.int x2), some (.int x3), none, some (.int x5), some (.int x6), some (.int x7), some (.int x8)] [.int s0] my_S f g post := by
  intro x1 x2 x3 x5 x6 x7 x8 s0 f o hg hk
  unfold g_X7_heights_160 at hg
  refine ev_istore (q := 162) (loc' := [some (.ref _), some (.int _), some (.int _), some (.int _), some (.int _), some (.int _), some (.int _), some (.int _), some (.int _)]) dX7_heights_160 (by decide) rfl rfl ?_
  refine ev_iload (q := 164) dX7_heights_162 rfl rfl ?_
  refine ev_iload (q := 166) dX7_heights_164 rfl rfl ?_
  refine ev_icmp_ne (t := 174) (q := 169) dX7_heights_166 rfl rfl hg (fun hg => ?_) (fun hg => ?_)
  · refine ev_iload (q := 171) dX7_heights_169 rfl rfl ?_
    refine ev_goto (q := 176) dX7_heights_171 rfl ?_
    refine ev_istore (q := 178) (loc' := [some (.ref _), some (.int _), some (.int _), some (.int _), some (.int _), some (.int _), some (.int _), some (.int _), some (.int _)]) dX7_heights_176 (by decide) rfl rfl ?_
    refine ev_iinc (v := 1) (q := 181) (loc' := [some (.ref _), some (.int _), some (.int _), some (.int _), some (.int _), some (.int _), some (.int _), some (.int _), some (.int _)]) dX7_heights_178 rfl (by decide) mci_1 rfl rfl ?_
    refine ev_goto (q := 76) dX7_heights_181 rfl ?_
    refine ev_wk (loc' := [some (.ref _), some (.int _), some (.int _), some (.int _), some (.int _), some (.int _), some (.int _), some (.int _), none]) ⟨rfl, rfl, rfl, rfl, rfl, rfl, rfl, rfl, trivial⟩ ?_
    exact hrec _ _ _ _ _ _ _ _ _ hg hk
  · refine ev_iload (q := 176) dX7_heights_174 rfl rfl ?_
    refine ev_istore (q := 178) (loc' := [some (.ref _), some (.int _), some (.int _), some (.int _), some (.int _), some (.int _), some (.int _), some (.int _), some (.int _)]) dX7_heights_176 (by decide) rfl rfl ?_
    refine ev_iinc (v := 1) (q := 181) (loc' := [some (.ref _), some (.int _), some (.int _), some (.int _), some (.int _), some (.int _), some (.int _), some (.int _), some (.int _)]) dX7_heights_178 rfl (by decide) mci_1 rfl rfl ?_
    refine ev_goto (q := 76) dX7_heights_181 rfl ?_
    refine ev_wk (loc' := [some (.ref _), some (.int _), some (.int _), some (.int _), some (.int _), some (.int _), some (.int _), some (.int _), none]) ⟨rfl, rfl, rfl, rfl, rfl, rfl, rfl, rfl, trivial⟩ ?_
    exact hrec _ _ _ _ _ _ _ _ _ hg hk
def g_X7_heights_76 : Nat → Int32 → Int32 → Int32 → Int32 → Int32 → Int32 → Int32 → mj_I → Option (Int32 × Int32 × mj_I)
  | 0, _, _, _, _, _, _, _, _ => none
  | n + 1, x1, x2, x3, x4, x5, x6, x7, f =>
    if x7 < x6 then
     (g_X7_putAside f).bind (fun o_9 =>
     (g_X7_heights_90 mj_fuel x1 x2 x3 x4 x5 x6 x7 (0 : Int32) o_9).bind (fun q_10 =>
     mj_lt (((q_10 4 47) - (q_10 9 47))) (fun u_13 =>
     (g_X7_takeBack q_10).bind (fun o_14 =>
     if x4 < 0 then
      g_X7_heights_160 (g_X7_heights_76 n) x1 x2 x3 x5 x6 x7 u_13 x7 o_14
     else
      if x5 < u_13 then
       g_X7_heights_160 (g_X7_heights_76 n) x1 x2 x3 x5 x6 x7 u_13 x7 o_14
      else
       g_X7_heights_160 (g_X7_heights_76 n) x1 x2 x3 x5 x6 x7 u_13 x4 o_14))))
    else
     some ((x4, x5, f))
theorem r_X7_heights_76 {g : mj_L} {post : Option Value → mj_I → mj_L → Prop} : ∀ (n : Nat) (x1 : Int32) (x2 : Int32) (x3 : Int32) (x4 : Int32) (x5 : Int32) (x6 : Int32) (x7 : Int32) (f : mj_I) (o : Int32 × Int32 × mj_I), g_X7_heights_76 n x1 x2 x3 x4 x5 x6 x7 f = some o → mj_Ev jX7_heights 184 [none, none, none, some (.int x3), some (.int o.1), some (.int o.2.1), none, none, none] [] my_S o.2.2 g post → mj_Ev jX7_heights 76 [some (.ref 0), some (.int x1), some (.int x2), some (.int x3), some (.int x4), some (.int x5), some (.int x6), some (.int x7), none] [] my_S f g post := by
  intro n
  induction n with
  | zero =>
    intro x1 x2 x3 x4 x5 x6 x7 f o hg hk
    cases hg
  | succ n ih =>
    intro x1 x2 x3 x4 x5 x6 x7 f o hg hk
    unfold g_X7_heights_76 at hg
    refine ev_iload (q := 78) dX7_heights_76 rfl rfl ?_
    refine ev_iload (q := 80) dX7_heights_78 rfl rfl ?_
    refine ev_icmp_ge (t := 184) (q := 83) dX7_heights_80 rfl rfl hg (fun hg => ?_) (fun hg => ?_)
    · refine ev_aload_n (q := 84) dX7_heights_83 rfl rfl ?_
      obtain ⟨o_9, ho_9, hg⟩ := mj_bd hg
      refine ev_callV (q := 87) kX7_putAside mw_i_X7_putAside mw_s_X7_putAside mw_m_RX7_228 rfl rfl (r_X7_putAside ho_9) rfl rfl (Nat.le_of_ble_eq_true rfl) (by decide) dX7_heights_84 rfl (fun v fv gv hp => ?_)
      obtain ⟨rfl, rfl, rfl⟩ := hp
      refine ev_iconst (v := 0) (q := 88) dX7_heights_87 mci_0 rfl ?_
      refine ev_istore (q := 90) (loc' := [some (.ref _), some (.int _), some (.int _), some (.int _), some (.int _), some (.int _), some (.int _), some (.int _), some (.int _)]) dX7_heights_88 (by decide) rfl rfl ?_
      obtain ⟨q_10, hq_10, hg⟩ := mj_bd hg
      refine r_X7_heights_90 mj_fuel _ _ _ _ _ _ _ _ _ _ hq_10 ?_
      refine ev_aload_n (q := 121) dX7_heights_120 rfl rfl ?_
      refine ev_getfR (q := 124) mw_f_RX7_19 rfl rfl dX7_heights_121 rfl ?_
      refine ev_bipush (v := 47) (q := 126) dX7_heights_124 mcb_47 rfl ?_
      refine ev_ialdk (k := 47) (q := 127) rfl (by decide) mcx_47 dX7_heights_126 rfl ?_
      refine ev_aload_n (q := 128) dX7_heights_127 rfl rfl ?_
      refine ev_getfR (q := 131) mw_f_RX7_34 rfl rfl dX7_heights_128 rfl ?_
      refine ev_bipush (v := 47) (q := 133) dX7_heights_131 mcb_47 rfl ?_
      refine ev_ialdk (k := 47) (q := 134) rfl (by decide) mcx_47 dX7_heights_133 rfl ?_
      refine ev_isub (q := 135) dX7_heights_134 rfl ?_
      refine ev_nmi (fun u_13 hu_13 => ?_)
      have hg := mj_lt_el hu_13 hg
      refine ev_istore (q := 137) (loc' := [some (.ref _), some (.int _), some (.int _), some (.int _), some (.int _), some (.int _), some (.int _), some (.int _), some (.int _)]) dX7_heights_135 (by decide) rfl rfl ?_
      refine ev_aload_n (q := 138) dX7_heights_137 rfl rfl ?_
      obtain ⟨o_14, ho_14, hg⟩ := mj_bd hg
      refine ev_callV (q := 141) kX7_takeBack mw_i_X7_takeBack mw_s_X7_takeBack mw_m_RX7_234 rfl rfl (r_X7_takeBack ho_14) rfl rfl (Nat.le_of_ble_eq_true rfl) (by decide) dX7_heights_138 rfl (fun v fv gv hp => ?_)
      obtain ⟨rfl, rfl, rfl⟩ := hp
      refine ev_iload (q := 143) dX7_heights_141 rfl rfl ?_
      refine ev_if_lt (t := 153) (q := 146) dX7_heights_143 rfl rfl hg (fun hg => ?_) (fun hg => ?_)
      · refine ev_iload (q := 155) dX7_heights_153 rfl rfl ?_
        refine ev_goto (q := 160) dX7_heights_155 rfl ?_
        refine ev_wk (loc' := [some (.ref _), some (.int _), some (.int _), some (.int _), none, some (.int _), some (.int _), some (.int _), some (.int _)]) ⟨rfl, rfl, rfl, rfl, rfl, rfl, rfl, rfl, trivial⟩ ?_
        exact r_X7_heights_160 ih _ _ _ _ _ _ _ _ _ _ hg hk
      · refine ev_iload (q := 148) dX7_heights_146 rfl rfl ?_
        refine ev_iload (q := 150) dX7_heights_148 rfl rfl ?_
        refine ev_icmp_le (t := 158) (q := 153) dX7_heights_150 rfl rfl hg (fun hg => ?_) (fun hg => ?_)
        · refine ev_iload (q := 155) dX7_heights_153 rfl rfl ?_
          refine ev_goto (q := 160) dX7_heights_155 rfl ?_
          refine ev_wk (loc' := [some (.ref _), some (.int _), some (.int _), some (.int _), none, some (.int _), some (.int _), some (.int _), some (.int _)]) ⟨rfl, rfl, rfl, rfl, rfl, rfl, rfl, rfl, trivial⟩ ?_
          exact r_X7_heights_160 ih _ _ _ _ _ _ _ _ _ _ hg hk
        · refine ev_iload (q := 160) dX7_heights_158 rfl rfl ?_
          refine ev_wk (loc' := [some (.ref _), some (.int _), some (.int _), some (.int _), none, some (.int _), some (.int _), some (.int _), some (.int _)]) ⟨rfl, rfl, rfl, rfl, rfl, rfl, rfl, rfl, trivial⟩ ?_
          exact r_X7_heights_160 ih _ _ _ _ _ _ _ _ _ _ hg hk
    · obtain rfl := Option.some.inj hg
      refine ev_wk (loc' := [none, none, none, some (.int _), some (.int _), some (.int _), none, none, none]) ⟨rfl, rfl, rfl, trivial⟩ ?_
      exact hk
def g_X7_heights (x1 : Int32) (x2 : Int32) (x3 : Int32) (f : mj_I) : Option (Int32 × mj_I) :=
  if (g_X7_isCloud x1 f) = 0 then
   some (((-1000001 : Int32), f))
  else
   if (g_X7_in (x2).toInt64 (1 : Int64) (8 : Int64)) = 0 then
    some (((-1000001 : Int32), f))
   else
    if (g_X7_in (x3).toInt64 (0 : Int64) (1 : Int64)) = 0 then
     some (((-1000001 : Int32), f))
    else
     (g_X7_isThere x1 f).bind (fun o_4 =>
     if o_4 = 0 then
      some (((-1000002 : Int32), f))
     else
      if mj_in ((51 : Int32) + x1) 82 = true then
      if (f 4 (ix ((51 : Int32) + x1))) < (4 : Int32) then
        mj_lt (((1 : Int32) <<< (x2 &&& 31))) (fun u_6 =>
        (g_X7_heights_76 mj_fuel x1 x2 x3 (-1000000 : Int32) (0 : Int32) u_6 (0 : Int32) f).bind (fun q_7 =>
        if x3 = 0 then
         some ((q_7.1, q_7.2.2))
        else
         some ((q_7.2.1, q_7.2.2))))
       else
        (g_X7_heights_76 mj_fuel x1 x2 x3 (-1000000 : Int32) (0 : Int32) (1 : Int32) (0 : Int32) f).bind (fun q_8 =>
        if x3 = 0 then
         some ((q_8.1, q_8.2.2))
        else
         some ((q_8.2.1, q_8.2.2)))
      else none)
theorem r_X7_heights {x1 : Int32} {x2 : Int32} {x3 : Int32} {f : mj_I} {g : mj_L} {o : Int32 × mj_I} (hg : g_X7_heights x1 x2 x3 f = some o) : mj_Sp jX7_heights my_S [.ref 0, .int x1, .int x2, .int x3] f g (fun v f' g' => some (.int o.1) = v ∧ o.2 = f' ∧ g = g') := by
  refine mj_sp 5 (by decide +kernel) rfl rfl (fun _ _ => Nat.le_of_ble_eq_true rfl) ?_
  show mj_Ev jX7_heights 0 [some (.ref 0), some (.int x1), some (.int x2), some (.int x3), none, none, none, none, none] [] my_S f g _
  unfold g_X7_heights at hg
  refine ev_aload_n (q := 1) dX7_heights_0 rfl rfl ?_
  refine ev_iload_n (q := 2) dX7_heights_1 rfl rfl ?_
  refine ev_callV (q := 5) kX7_isCloud mw_i_X7_isCloud mw_s_X7_isCloud mw_m_RX7_202 rfl rfl (r_X7_isCloud rfl) rfl rfl (Nat.le_of_ble_eq_true rfl) (by decide) dX7_heights_2 rfl (fun v fv gv hp => ?_)
  obtain ⟨rfl, rfl, rfl, hr_1⟩ := hp
  refine ev_if_eq (t := 30) (q := 8) dX7_heights_5 rfl rfl hg (fun hg => ?_) (fun hg => ?_)
  · refine ev_ldc (q := 32) mw_c_RX7_70 dX7_heights_30 rfl ?_
    obtain rfl := Option.some.inj hg
    exact ev_iret dX7_heights_32 rfl ⟨rfl, rfl, rfl⟩
  · refine ev_iload_n (q := 9) dX7_heights_8 rfl rfl ?_
    refine ev_i2l (q := 10) dX7_heights_9 rfl ?_
    refine ev_lconst (v := 1) (q := 11) dX7_heights_10 mcl_1 rfl ?_
    refine ev_ldc2 (q := 14) mw_c_RX7_238 dX7_heights_11 rfl ?_
    refine ev_callS (q := 17) kX7_in mw_t_X7_in mw_m_RX7_60 (r_X7_in rfl) rfl rfl (Nat.le_of_ble_eq_true rfl) (by decide) dX7_heights_14 rfl (fun v fv gv hp => ?_)
    obtain ⟨rfl, rfl, rfl, hr_2⟩ := hp
    refine ev_if_eq (t := 30) (q := 20) dX7_heights_17 rfl rfl hg (fun hg => ?_) (fun hg => ?_)
    · refine ev_ldc (q := 32) mw_c_RX7_70 dX7_heights_30 rfl ?_
      obtain rfl := Option.some.inj hg
      exact ev_iret dX7_heights_32 rfl ⟨rfl, rfl, rfl⟩
    · refine ev_iload_n (q := 21) dX7_heights_20 rfl rfl ?_
      refine ev_i2l (q := 22) dX7_heights_21 rfl ?_
      refine ev_lconst (v := 0) (q := 23) dX7_heights_22 mcl_0 rfl ?_
      refine ev_lconst (v := 1) (q := 24) dX7_heights_23 mcl_1 rfl ?_
      refine ev_callS (q := 27) kX7_in mw_t_X7_in mw_m_RX7_60 (r_X7_in rfl) rfl rfl (Nat.le_of_ble_eq_true rfl) (by decide) dX7_heights_24 rfl (fun v fv gv hp => ?_)
      obtain ⟨rfl, rfl, rfl, hr_3⟩ := hp
      refine ev_if_ne (t := 33) (q := 30) dX7_heights_27 rfl rfl hg (fun hg => ?_) (fun hg => ?_)
      · refine ev_ldc (q := 32) mw_c_RX7_70 dX7_heights_30 rfl ?_
        obtain rfl := Option.some.inj hg
        exact ev_iret dX7_heights_32 rfl ⟨rfl, rfl, rfl⟩
      · refine ev_aload_n (q := 34) dX7_heights_33 rfl rfl ?_
        refine ev_iload_n (q := 35) dX7_heights_34 rfl rfl ?_
        obtain ⟨o_4, ho_4, hg⟩ := mj_bd hg
        refine ev_callV (q := 38) kX7_isThere mw_i_X7_isThere mw_s_X7_isThere mw_m_RX7_177 rfl rfl (r_X7_isThere ho_4) rfl rfl (Nat.le_of_ble_eq_true rfl) (by decide) dX7_heights_35 rfl (fun v fv gv hp => ?_)
        obtain ⟨rfl, rfl, rfl, hr_4⟩ := hp
        refine ev_if_ne (t := 44) (q := 41) dX7_heights_38 rfl rfl hg (fun hg => ?_) (fun hg => ?_)
        · refine ev_ldc (q := 43) mw_c_RX7_193 dX7_heights_41 rfl ?_
          obtain rfl := Option.some.inj hg
          exact ev_iret dX7_heights_43 rfl ⟨rfl, rfl, rfl⟩
        · refine ev_ldc (q := 46) mw_c_RX7_237 dX7_heights_44 rfl ?_
          refine ev_istore (q := 48) (loc' := [some (.ref _), some (.int _), some (.int _), some (.int _), some (.int _), none, none, none, none]) dX7_heights_46 (by decide) rfl rfl ?_
          refine ev_iconst (v := 0) (q := 49) dX7_heights_48 mci_0 rfl ?_
          refine ev_istore (q := 51) (loc' := [some (.ref _), some (.int _), some (.int _), some (.int _), some (.int _), some (.int _), none, none, none]) dX7_heights_49 (by decide) rfl rfl ?_
          refine ev_aload_n (q := 52) dX7_heights_51 rfl rfl ?_
          refine ev_getfR (q := 55) mw_f_RX7_19 rfl rfl dX7_heights_52 rfl ?_
          refine ev_bipush (v := 51) (q := 57) dX7_heights_55 mcb_51 rfl ?_
          refine ev_iload_n (q := 58) dX7_heights_57 rfl rfl ?_
          refine ev_iadd (q := 59) dX7_heights_58 rfl ?_
          obtain ⟨hi_5, hg⟩ := mj_gd hg
          refine ev_ialdk (q := 60) rfl hi_5 rfl dX7_heights_59 rfl ?_
          refine ev_iconst (v := 4) (q := 61) dX7_heights_60 mci_4 rfl ?_
          refine ev_icmp_lt (t := 68) (q := 64) dX7_heights_61 rfl rfl hg (fun hg => ?_) (fun hg => ?_)
          · refine ev_iconst (v := 1) (q := 69) dX7_heights_68 mci_1 rfl ?_
            refine ev_iload_n (q := 70) dX7_heights_69 rfl rfl ?_
            refine ev_ishl (q := 71) dX7_heights_70 rfl ?_
            refine ev_nmi (fun u_6 hu_6 => ?_)
            have hg := mj_lt_el hu_6 hg
            refine ev_istore (q := 73) (loc' := [some (.ref _), some (.int _), some (.int _), some (.int _), some (.int _), some (.int _), some (.int _), none, none]) dX7_heights_71 (by decide) rfl rfl ?_
            refine ev_iconst (v := 0) (q := 74) dX7_heights_73 mci_0 rfl ?_
            refine ev_istore (q := 76) (loc' := [some (.ref _), some (.int _), some (.int _), some (.int _), some (.int _), some (.int _), some (.int _), some (.int _), none]) dX7_heights_74 (by decide) rfl rfl ?_
            obtain ⟨q_7, hq_7, hg⟩ := mj_bd hg
            refine r_X7_heights_76 mj_fuel _ _ _ _ _ _ _ _ _ hq_7 ?_
            refine ev_iload_n (q := 185) dX7_heights_184 rfl rfl ?_
            refine ev_if_ne (t := 193) (q := 188) dX7_heights_185 rfl rfl hg (fun hg => ?_) (fun hg => ?_)
            · refine ev_iload (q := 190) dX7_heights_188 rfl rfl ?_
              refine ev_goto (q := 195) dX7_heights_190 rfl ?_
              obtain rfl := Option.some.inj hg
              exact ev_iret dX7_heights_195 rfl ⟨rfl, rfl, rfl⟩
            · refine ev_iload (q := 195) dX7_heights_193 rfl rfl ?_
              obtain rfl := Option.some.inj hg
              exact ev_iret dX7_heights_195 rfl ⟨rfl, rfl, rfl⟩
          · refine ev_iconst (v := 1) (q := 65) dX7_heights_64 mci_1 rfl ?_
            refine ev_goto (q := 71) dX7_heights_65 rfl ?_
            refine ev_istore (q := 73) (loc' := [some (.ref _), some (.int _), some (.int _), some (.int _), some (.int _), some (.int _), some (.int _), none, none]) dX7_heights_71 (by decide) rfl rfl ?_
            refine ev_iconst (v := 0) (q := 74) dX7_heights_73 mci_0 rfl ?_
            refine ev_istore (q := 76) (loc' := [some (.ref _), some (.int _), some (.int _), some (.int _), some (.int _), some (.int _), some (.int _), some (.int _), none]) dX7_heights_74 (by decide) rfl rfl ?_
            obtain ⟨q_8, hq_8, hg⟩ := mj_bd hg
            refine r_X7_heights_76 mj_fuel _ _ _ _ _ _ _ _ _ hq_8 ?_
            refine ev_iload_n (q := 185) dX7_heights_184 rfl rfl ?_
            refine ev_if_ne (t := 193) (q := 188) dX7_heights_185 rfl rfl hg (fun hg => ?_) (fun hg => ?_)
            · refine ev_iload (q := 190) dX7_heights_188 rfl rfl ?_
              refine ev_goto (q := 195) dX7_heights_190 rfl ?_
              obtain rfl := Option.some.inj hg
              exact ev_iret dX7_heights_195 rfl ⟨rfl, rfl, rfl⟩
            · refine ev_iload (q := 195) dX7_heights_193 rfl rfl ?_
              obtain rfl := Option.some.inj hg
              exact ev_iret dX7_heights_195 rfl ⟨rfl, rfl, rfl⟩
