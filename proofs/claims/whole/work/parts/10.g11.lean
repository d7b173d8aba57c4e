def g_X7_shade_41 : Nat → Int32 → Int32 → Int32 → Int32 → mj_I → Option (Int32 × mj_I)
  | 0, _, _, _, _, _ => none
  | n + 1, x1, x2, x3, x4, f =>
    if x4 < x2 then
     (g_X7_oneHour f).bind (fun o_6 =>
     (g_X7_over x1 o_6.2).bind (fun o_7 =>
     if o_7 = 0 then
      mj_lt ((x3 ||| (0 : Int32))) (fun u_8 =>
      g_X7_shade_41 n x1 x2 u_8 (x4 + (1 : Int32)) o_6.2)
     else
      mj_lt ((x3 ||| ((1 : Int32) <<< (x4 &&& 31)))) (fun u_9 =>
      g_X7_shade_41 n x1 x2 u_9 (x4 + (1 : Int32)) o_6.2)))
    else
     some ((x3, f))
theorem r_X7_shade_41 {g : mj_L} {post : Option Value → mj_I → mj_L → Prop} : ∀ (n : Nat) (x1 : Int32) (x2 : Int32) (x3 : Int32) (x4 : Int32) (f : mj_I) (o : Int32 × mj_I), g_X7_shade_41 n x1 x2 x3 x4 f = some o → mj_Ev jX7_shade 77 [some (.ref 0), none, none, some (.int o.1), none] [] my_S o.2 g post → mj_Ev jX7_shade 41 [some (.ref 0), some (.int x1), some (.int x2), some (.int x3), some (.int x4)] [] my_S f g post := by
  intro n
  induction n with
  | zero =>
    intro x1 x2 x3 x4 f o hg hk
    cases hg
  | succ n ih =>
    intro x1 x2 x3 x4 f o hg hk
    unfold g_X7_shade_41 at hg
    refine ev_iload (q := 43) dX7_shade_41 rfl rfl ?_
    refine ev_iload_n (q := 44) dX7_shade_43 rfl rfl ?_
    refine ev_icmp_ge (t := 77) (q := 47) dX7_shade_44 rfl rfl hg (fun hg => ?_) (fun hg => ?_)
    · refine ev_aload_n (q := 48) dX7_shade_47 rfl rfl ?_
      obtain ⟨o_6, ho_6, hg⟩ := mj_bd hg
      refine ev_callV (q := 51) kX7_oneHour mw_i_X7_oneHour mw_s_X7_oneHour mw_m_RX7_199 rfl rfl (r_X7_oneHour ho_6) rfl rfl (Nat.le_of_ble_eq_true rfl) (by decide) dX7_shade_48 rfl (fun v fv gv hp => ?_)
      obtain ⟨rfl, rfl, rfl⟩ := hp
      refine ev_pop (q := 52) dX7_shade_51 rfl rfl ?_
      refine ev_iload_n (q := 53) dX7_shade_52 rfl rfl ?_
      refine ev_aload_n (q := 54) dX7_shade_53 rfl rfl ?_
      refine ev_iload_n (q := 55) dX7_shade_54 rfl rfl ?_
      obtain ⟨o_7, ho_7, hg⟩ := mj_bd hg
      refine ev_callV (q := 58) kX7_over mw_i_X7_over mw_s_X7_over mw_m_RX7_219 rfl rfl (r_X7_over ho_7) rfl rfl (Nat.le_of_ble_eq_true rfl) (by decide) dX7_shade_55 rfl (fun v fv gv hp => ?_)
      obtain ⟨rfl, rfl, rfl⟩ := hp
      refine ev_if_eq (t := 68) (q := 61) dX7_shade_58 rfl rfl hg (fun hg => ?_) (fun hg => ?_)
      · refine ev_iconst (v := 0) (q := 69) dX7_shade_68 mci_0 rfl ?_
        refine ev_ior (q := 70) dX7_shade_69 rfl ?_
        refine ev_nmi (fun u_8 hu_8 => ?_)
        have hg := mj_lt_el hu_8 hg
        refine ev_istore_n (q := 71) (loc' := [some (.ref _), some (.int _), some (.int _), some (.int _), some (.int _)]) dX7_shade_70 (by decide) rfl rfl ?_
        refine ev_iinc (v := 1) (q := 74) (loc' := [some (.ref _), some (.int _), some (.int _), some (.int _), some (.int _)]) dX7_shade_71 rfl (by decide) mci_1 rfl rfl ?_
        refine ev_goto (q := 41) dX7_shade_74 rfl ?_
        exact ih _ _ _ _ _ _ hg hk
      · refine ev_iconst (v := 1) (q := 62) dX7_shade_61 mci_1 rfl ?_
        refine ev_iload (q := 64) dX7_shade_62 rfl rfl ?_
        refine ev_ishl (q := 65) dX7_shade_64 rfl ?_
        refine ev_goto (q := 69) dX7_shade_65 rfl ?_
        refine ev_ior (q := 70) dX7_shade_69 rfl ?_
        refine ev_nmi (fun u_9 hu_9 => ?_)
        have hg := mj_lt_el hu_9 hg
        refine ev_istore_n (q := 71) (loc' := [some (.ref _), some (.int _), some (.int _), some (.int _), some (.int _)]) dX7_shade_70 (by decide) rfl rfl ?_
        refine ev_iinc (v := 1) (q := 74) (loc' := [some (.ref _), some (.int _), some (.int _), some (.int _), some (.int _)]) dX7_shade_71 rfl (by decide) mci_1 rfl rfl ?_
        refine ev_goto (q := 41) dX7_shade_74 rfl ?_
        exact ih _ _ _ _ _ _ hg hk
    · obtain rfl := Option.some.inj hg
      refine ev_wk (loc' := [some (.ref _), none, none, some (.int _), none]) ⟨rfl, rfl, trivial⟩ ?_
      exact hk
def g_X7_shade (x1 : Int32) (x2 : Int32) (f : mj_I) : Option (Int32 × mj_I) :=
  if (f 0 4) = 0 then
   some (((-1000002 : Int32), f))
  else
   if (g_X7_isCell x1) = 0 then
    some (((-1000001 : Int32), f))
   else
    if (g_X7_in (x2).toInt64 (1 : Int64) (24 : Int64)) = 0 then
     some (((-1000001 : Int32), f))
    else
     (g_X7_putAside f).bind (fun o_3 =>
     (g_X7_shade_41 mj_fuel x1 x2 (0 : Int32) (0 : Int32) o_3).bind (fun q_4 =>
     (g_X7_takeBack q_4.2).bind (fun o_5 =>
     some ((q_4.1, o_5)))))
theorem r_X7_shade {x1 : Int32} {x2 : Int32} {f : mj_I} {g : mj_L} {o : Int32 × mj_I} (hg : g_X7_shade x1 x2 f = some o) : mj_Sp jX7_shade my_S [.ref 0, .int x1, .int x2] f g (fun v f' g' => some (.int o.1) = v ∧ o.2 = f' ∧ g = g') := by
  refine mj_sp 2 (by decide +kernel) rfl rfl (fun _ _ => Nat.le_of_ble_eq_true rfl) ?_
  show mj_Ev jX7_shade 0 [some (.ref 0), some (.int x1), some (.int x2), none, none] [] my_S f g _
  unfold g_X7_shade at hg
  refine ev_aload_n (q := 1) dX7_shade_0 rfl rfl ?_
  refine ev_getfI (q := 4) mw_f_RX7_154 (by decide) (by decide) rfl dX7_shade_1 rfl ?_
  refine ev_if_ne (t := 10) (q := 7) dX7_shade_4 rfl rfl hg (fun hg => ?_) (fun hg => ?_)
  · refine ev_ldc (q := 9) mw_c_RX7_193 dX7_shade_7 rfl ?_
    obtain rfl := Option.some.inj hg
    exact ev_iret dX7_shade_9 rfl ⟨rfl, rfl, rfl⟩
  · refine ev_iload_n (q := 11) dX7_shade_10 rfl rfl ?_
    refine ev_callS (q := 14) kX7_isCell mw_t_X7_isCell mw_m_RX7_216 (r_X7_isCell rfl) rfl rfl (Nat.le_of_ble_eq_true rfl) (by decide) dX7_shade_11 rfl (fun v fv gv hp => ?_)
    obtain ⟨rfl, rfl, rfl, hr_1⟩ := hp
    refine ev_if_eq (t := 29) (q := 17) dX7_shade_14 rfl rfl hg (fun hg => ?_) (fun hg => ?_)
    · refine ev_ldc (q := 31) mw_c_RX7_70 dX7_shade_29 rfl ?_
      obtain rfl := Option.some.inj hg
      exact ev_iret dX7_shade_31 rfl ⟨rfl, rfl, rfl⟩
    · refine ev_iload_n (q := 18) dX7_shade_17 rfl rfl ?_
      refine ev_i2l (q := 19) dX7_shade_18 rfl ?_
      refine ev_lconst (v := 1) (q := 20) dX7_shade_19 mcl_1 rfl ?_
      refine ev_ldc2 (q := 23) mw_c_RX7_194 dX7_shade_20 rfl ?_
      refine ev_callS (q := 26) kX7_in mw_t_X7_in mw_m_RX7_60 (r_X7_in rfl) rfl rfl (Nat.le_of_ble_eq_true rfl) (by decide) dX7_shade_23 rfl (fun v fv gv hp => ?_)
      obtain ⟨rfl, rfl, rfl, hr_2⟩ := hp
      refine ev_if_ne (t := 32) (q := 29) dX7_shade_26 rfl rfl hg (fun hg => ?_) (fun hg => ?_)
      · refine ev_ldc (q := 31) mw_c_RX7_70 dX7_shade_29 rfl ?_
        obtain rfl := Option.some.inj hg
        exact ev_iret dX7_shade_31 rfl ⟨rfl, rfl, rfl⟩
      · refine ev_aload_n (q := 33) dX7_shade_32 rfl rfl ?_
        obtain ⟨o_3, ho_3, hg⟩ := mj_bd hg
        refine ev_callV (q := 36) kX7_putAside mw_i_X7_putAside mw_s_X7_putAside mw_m_RX7_228 rfl rfl (r_X7_putAside ho_3) rfl rfl (Nat.le_of_ble_eq_true rfl) (by decide) dX7_shade_33 rfl (fun v fv gv hp => ?_)
        obtain ⟨rfl, rfl, rfl⟩ := hp
        refine ev_iconst (v := 0) (q := 37) dX7_shade_36 mci_0 rfl ?_
        refine ev_istore_n (q := 38) (loc' := [some (.ref _), some (.int _), some (.int _), some (.int _), none]) dX7_shade_37 (by decide) rfl rfl ?_
        refine ev_iconst (v := 0) (q := 39) dX7_shade_38 mci_0 rfl ?_
        refine ev_istore (q := 41) (loc' := [some (.ref _), some (.int _), some (.int _), some (.int _), some (.int _)]) dX7_shade_39 (by decide) rfl rfl ?_
        obtain ⟨q_4, hq_4, hg⟩ := mj_bd hg
        refine r_X7_shade_41 mj_fuel _ _ _ _ _ _ hq_4 ?_
        refine ev_aload_n (q := 78) dX7_shade_77 rfl rfl ?_
        obtain ⟨o_5, ho_5, hg⟩ := mj_bd hg
        refine ev_callV (q := 81) kX7_takeBack mw_i_X7_takeBack mw_s_X7_takeBack mw_m_RX7_234 rfl rfl (r_X7_takeBack ho_5) rfl rfl (Nat.le_of_ble_eq_true rfl) (by decide) dX7_shade_78 rfl (fun v fv gv hp => ?_)
        obtain ⟨rfl, rfl, rfl⟩ := hp
        refine ev_iload_n (q := 82) dX7_shade_81 rfl rfl ?_
        obtain rfl := Option.some.inj hg
        exact ev_iret dX7_shade_82 rfl ⟨rfl, rfl, rfl⟩
def g_X7_lacks (x1 : Int32) (x2 : Int32) (x3 : Int32) (f : mj_I) : Option (Int32 × mj_I) :=
  if mj_in x1 8 = true then
  if (f 2 (ix x1)) < 0 then
    mj_lt (g_X7_find (1 : Int32) f) (fun o_2 =>
    some ((o_2.1, o_2.2)))
   else
    if mj_in x1 8 = true then
    if (g_X7_in (x2).toInt64 (0 : Int64) (((f 2 (ix x1)) - x3)).toInt64) = 0 then
      mj_lt (g_X7_find (2 : Int32) f) (fun o_5 =>
      some ((o_5.1, o_5.2)))
     else
      some (((0 : Int32), f))
    else none
  else none
theorem r_X7_lacks {x1 : Int32} {x2 : Int32} {x3 : Int32} {f : mj_I} {g : mj_L} {o : Int32 × mj_I} (hg : g_X7_lacks x1 x2 x3 f = some o) : mj_Sp jX7_lacks my_S [.ref 0, .int x1, .int x2, .int x3] f g (fun v f' g' => some (.int o.1) = v ∧ o.2 = f' ∧ g = g') := by
  refine mj_sp 0 (by decide +kernel) rfl rfl (fun _ _ => Nat.le_of_ble_eq_true rfl) ?_
  show mj_Ev jX7_lacks 0 [some (.ref 0), some (.int x1), some (.int x2), some (.int x3)] [] my_S f g _
  unfold g_X7_lacks at hg
  refine ev_aload_n (q := 1) dX7_lacks_0 rfl rfl ?_
  refine ev_getfR (q := 4) mw_f_RX7_13 rfl rfl dX7_lacks_1 rfl ?_
  refine ev_iload_n (q := 5) dX7_lacks_4 rfl rfl ?_
  obtain ⟨hi_1, hg⟩ := mj_gd hg
  refine ev_ialdk (q := 6) rfl hi_1 rfl dX7_lacks_5 rfl ?_
  refine ev_if_ge (t := 15) (q := 9) dX7_lacks_6 rfl rfl hg (fun hg => ?_) (fun hg => ?_)
  · refine ev_aload_n (q := 10) dX7_lacks_9 rfl rfl ?_
    refine ev_iconst (v := 1) (q := 11) dX7_lacks_10 mci_1 rfl ?_
    obtain ⟨o_2, ho_2, hg⟩ := mj_lte hg
    refine ev_callV (q := 14) kX7_find mw_i_X7_find mw_s_X7_find mw_m_RX7_71 rfl rfl (r_X7_find ho_2) rfl rfl (Nat.le_of_ble_eq_true rfl) (by decide) dX7_lacks_11 rfl (fun v fv gv hp => ?_)
    obtain ⟨rfl, rfl, rfl⟩ := hp
    obtain rfl := Option.some.inj hg
    exact ev_iret dX7_lacks_14 rfl ⟨rfl, rfl, rfl⟩
  · refine ev_iload_n (q := 16) dX7_lacks_15 rfl rfl ?_
    refine ev_i2l (q := 17) dX7_lacks_16 rfl ?_
    refine ev_lconst (v := 0) (q := 18) dX7_lacks_17 mcl_0 rfl ?_
    refine ev_aload_n (q := 19) dX7_lacks_18 rfl rfl ?_
    refine ev_getfR (q := 22) mw_f_RX7_13 rfl rfl dX7_lacks_19 rfl ?_
    refine ev_iload_n (q := 23) dX7_lacks_22 rfl rfl ?_
    obtain ⟨hi_3, hg⟩ := mj_gd hg
    refine ev_ialdk (q := 24) rfl hi_3 rfl dX7_lacks_23 rfl ?_
    refine ev_iload_n (q := 25) dX7_lacks_24 rfl rfl ?_
    refine ev_isub (q := 26) dX7_lacks_25 rfl ?_
    refine ev_i2l (q := 27) dX7_lacks_26 rfl ?_
    refine ev_callS (q := 30) kX7_in mw_t_X7_in mw_m_RX7_60 (r_X7_in rfl) rfl rfl (Nat.le_of_ble_eq_true rfl) (by decide) dX7_lacks_27 rfl (fun v fv gv hp => ?_)
    obtain ⟨rfl, rfl, rfl, hr_4⟩ := hp
    refine ev_if_eq (t := 37) (q := 33) dX7_lacks_30 rfl rfl hg (fun hg => ?_) (fun hg => ?_)
    · refine ev_aload_n (q := 38) dX7_lacks_37 rfl rfl ?_
      refine ev_iconst (v := 2) (q := 39) dX7_lacks_38 mci_2 rfl ?_
      obtain ⟨o_5, ho_5, hg⟩ := mj_lte hg
      refine ev_callV (q := 42) kX7_find mw_i_X7_find mw_s_X7_find mw_m_RX7_71 rfl rfl (r_X7_find ho_5) rfl rfl (Nat.le_of_ble_eq_true rfl) (by decide) dX7_lacks_39 rfl (fun v fv gv hp => ?_)
      obtain ⟨rfl, rfl, rfl⟩ := hp
      obtain rfl := Option.some.inj hg
      exact ev_iret dX7_lacks_42 rfl ⟨rfl, rfl, rfl⟩
    · refine ev_iconst (v := 0) (q := 34) dX7_lacks_33 mci_0 rfl ?_
      refine ev_goto (q := 42) dX7_lacks_34 rfl ?_
      obtain rfl := Option.some.inj hg
      exact ev_iret dX7_lacks_42 rfl ⟨rfl, rfl, rfl⟩
def g_X7_isDew_41 (rec : Int32 → Int32 → Int32 → Int32 → Int32 → mj_I → Option (Int32 × mj_I)) (x1 : Int32) (x2 : Int32) (x3 : Int32) (x4 : Int32) (x5 : Int32) (s0 : Int32) (f : mj_I) : Option (Int32 × mj_I) :=
  if x4 = 0 then
   rec x1 x2 x3 (0 : Int32) (x5 + (1 : Int32)) f
  else
   if mj_in (x2 + x5) 320 = true then
   if (f 3 (ix (x2 + x5))) = s0 then
     rec x1 x2 x3 (1 : Int32) (x5 + (1 : Int32)) f
    else
     rec x1 x2 x3 (0 : Int32) (x5 + (1 : Int32)) f
   else none
theorem r_X7_isDew_41 {g : mj_L} {post : Option Value → mj_I → mj_L → Prop} {rec : Int32 → Int32 → Int32 → Int32 → Int32 → mj_I → Option (Int32 × mj_I)} (hrec : ∀ (x1 : Int32) (x2 : Int32) (x3 : Int32) (x4 : Int32) (x5 : Int32) (f : mj_I) (o : Int32 × mj_I), rec x1 x2 x3 x4 x5 f = some o → mj_Ev jX7_isDew 75 [some (.ref 0), none, none, none, some (.int o.1), none, none, none] [] my_S o.2 g post → mj_Ev jX7_isDew 10 [some (.ref 0), some (.int x1), some (.int x2), some (.int x3), some (.int x4), some (.int x5), none, none] [] my_S f g post) : ∀ (x1 : Int32) (x2 : Int32) (x3 : Int32) (x4 : Int32) (x5 : Int32) (s0 : Int32) (f : mj_I) (o : Int32 × mj_I), g_X7_isDew_41 rec x1 x2 x3 x4 x5 s0 f = some o → mj_Ev jX7_isDew 75 [some (.ref 0), none, none, none, some (.int o.1), none, none, none] [] my_S o.2 g post → mj_Ev jX7_isDew 41 [some (.ref 0), some (.int x1), some (.int x2), some (.int x3), some (.int x4), some (.int x5), none, none] [.int s0] my_S f g post := by
  intro x1 x2 x3 x4 x5 s0 f o hg hk
  unfold g_X7_isDew_41 at hg
  refine ev_istore (q := 43) (loc' := [some (.ref _), some (.int _), some (.int _), some (.int _), some (.int _), some (.int _), none, some (.int _)]) dX7_isDew_41 (by decide) rfl rfl ?_
  refine ev_iload (q := 45) dX7_isDew_43 rfl rfl ?_
  refine ev_if_eq (t := 66) (q := 48) dX7_isDew_45 rfl rfl hg (fun hg => ?_) (fun hg => ?_)
  · refine ev_iconst (v := 0) (q := 67) dX7_isDew_66 mci_0 rfl ?_
    refine ev_istore (q := 69) (loc' := [some (.ref _), some (.int _), some (.int _), some (.int _), some (.int _), some (.int _), none, some (.int _)]) dX7_isDew_67 (by decide) rfl rfl ?_
    refine ev_iinc (v := 1) (q := 72) (loc' := [some (.ref _), some (.int _), some (.int _), some (.int _), some (.int _), some (.int _), none, some (.int _)]) dX7_isDew_69 rfl (by decide) mci_1 rfl rfl ?_
    refine ev_goto (q := 10) dX7_isDew_72 rfl ?_
    refine ev_wk (loc' := [some (.ref _), some (.int _), some (.int _), some (.int _), some (.int _), some (.int _), none, none]) ⟨rfl, rfl, rfl, rfl, rfl, rfl, trivial⟩ ?_
    exact hrec _ _ _ _ _ _ _ hg hk
  · refine ev_aload_n (q := 49) dX7_isDew_48 rfl rfl ?_
    refine ev_getfR (q := 52) mw_f_RX7_16 rfl rfl dX7_isDew_49 rfl ?_
    refine ev_iload_n (q := 53) dX7_isDew_52 rfl rfl ?_
    refine ev_iload (q := 55) dX7_isDew_53 rfl rfl ?_
    refine ev_iadd (q := 56) dX7_isDew_55 rfl ?_
    obtain ⟨hi_7, hg⟩ := mj_gd hg
    refine ev_ialdk (q := 57) rfl hi_7 rfl dX7_isDew_56 rfl ?_
    refine ev_iload (q := 59) dX7_isDew_57 rfl rfl ?_
    refine ev_icmp_ne (t := 66) (q := 62) dX7_isDew_59 rfl rfl hg (fun hg => ?_) (fun hg => ?_)
    · refine ev_iconst (v := 1) (q := 63) dX7_isDew_62 mci_1 rfl ?_
      refine ev_goto (q := 67) dX7_isDew_63 rfl ?_
      refine ev_istore (q := 69) (loc' := [some (.ref _), some (.int _), some (.int _), some (.int _), some (.int _), some (.int _), none, some (.int _)]) dX7_isDew_67 (by decide) rfl rfl ?_
      refine ev_iinc (v := 1) (q := 72) (loc' := [some (.ref _), some (.int _), some (.int _), some (.int _), some (.int _), some (.int _), none, some (.int _)]) dX7_isDew_69 rfl (by decide) mci_1 rfl rfl ?_
      refine ev_goto (q := 10) dX7_isDew_72 rfl ?_
      refine ev_wk (loc' := [some (.ref _), some (.int _), some (.int _), some (.int _), some (.int _), some (.int _), none, none]) ⟨rfl, rfl, rfl, rfl, rfl, rfl, trivial⟩ ?_
      exact hrec _ _ _ _ _ _ _ hg hk
    · refine ev_iconst (v := 0) (q := 67) dX7_isDew_66 mci_0 rfl ?_
      refine ev_istore (q := 69) (loc' := [some (.ref _), some (.int _), some (.int _), some (.int _), some (.int _), some (.int _), none, some (.int _)]) dX7_isDew_67 (by decide) rfl rfl ?_
      refine ev_iinc (v := 1) (q := 72) (loc' := [some (.ref _), some (.int _), some (.int _), some (.int _), some (.int _), some (.int _), none, some (.int _)]) dX7_isDew_69 rfl (by decide) mci_1 rfl rfl ?_
      refine ev_goto (q := 10) dX7_isDew_72 rfl ?_
      refine ev_wk (loc' := [some (.ref _), some (.int _), some (.int _), some (.int _), some (.int _), some (.int _), none, none]) ⟨rfl, rfl, rfl, rfl, rfl, rfl, trivial⟩ ?_
      exact hrec _ _ _ _ _ _ _ hg hk
def g_X7_isDew_10 : Nat → Int32 → Int32 → Int32 → Int32 → Int32 → mj_I → Option (Int32 × mj_I)
  | 0, _, _, _, _, _, _ => none
  | n + 1, x1, x2, x3, x4, x5, f =>
    if x5 < x3 then
     (g_X7_oneAlone x1 f).bind (fun o_5 =>
     if 0 < o_5.1 then
      if mj_in ((56 : Int32) + x1) 82 = true then
      g_X7_isDew_41 (g_X7_isDew_10 n) x1 x2 x3 x4 x5 (o_5.2 4 (ix ((56 : Int32) + x1))) o_5.2
      else none
     else
      g_X7_isDew_41 (g_X7_isDew_10 n) x1 x2 x3 x4 x5 (-1 : Int32) o_5.2)
    else
     some ((x4, f))
theorem r_X7_isDew_10 {g : mj_L} {post : Option Value → mj_I → mj_L → Prop} : ∀ (n : Nat) (x1 : Int32) (x2 : Int32) (x3 : Int32) (x4 : Int32) (x5 : Int32) (f : mj_I) (o : Int32 × mj_I), g_X7_isDew_10 n x1 x2 x3 x4 x5 f = some o → mj_Ev jX7_isDew 75 [some (.ref 0), none, none, none, some (.int o.1), none, none, none] [] my_S o.2 g post → mj_Ev jX7_isDew 10 [some (.ref 0), some (.int x1), some (.int x2), some (.int x3), some (.int x4), some (.int x5), none, none] [] my_S f g post := by
  intro n
  induction n with
  | zero =>
    intro x1 x2 x3 x4 x5 f o hg hk
    cases hg
  | succ n ih =>
    intro x1 x2 x3 x4 x5 f o hg hk
    unfold g_X7_isDew_10 at hg
    refine ev_iload (q := 12) dX7_isDew_10 rfl rfl ?_
    refine ev_iload_n (q := 13) dX7_isDew_12 rfl rfl ?_
    refine ev_icmp_ge (t := 75) (q := 16) dX7_isDew_13 rfl rfl hg (fun hg => ?_) (fun hg => ?_)
    · refine ev_aload_n (q := 17) dX7_isDew_16 rfl rfl ?_
      refine ev_iload_n (q := 18) dX7_isDew_17 rfl rfl ?_
      obtain ⟨o_5, ho_5, hg⟩ := mj_bd hg
      refine ev_callV (q := 21) kX7_oneAlone mw_i_X7_oneAlone mw_s_X7_oneAlone mw_m_RX7_240 rfl rfl (r_X7_oneAlone ho_5) rfl rfl (Nat.le_of_ble_eq_true rfl) (by decide) dX7_isDew_18 rfl (fun v fv gv hp => ?_)
      obtain ⟨rfl, rfl, rfl⟩ := hp
      refine ev_istore (q := 23) (loc' := [some (.ref _), some (.int _), some (.int _), some (.int _), some (.int _), some (.int _), some (.int _), none]) dX7_isDew_21 (by decide) rfl rfl ?_
      refine ev_iload (q := 25) dX7_isDew_23 rfl rfl ?_
      refine ev_if_le (t := 40) (q := 28) dX7_isDew_25 rfl rfl hg (fun hg => ?_) (fun hg => ?_)
      · refine ev_aload_n (q := 29) dX7_isDew_28 rfl rfl ?_
        refine ev_getfR (q := 32) mw_f_RX7_19 rfl rfl dX7_isDew_29 rfl ?_
        refine ev_bipush (v := 56) (q := 34) dX7_isDew_32 mcb_56 rfl ?_
        refine ev_iload_n (q := 35) dX7_isDew_34 rfl rfl ?_
        refine ev_iadd (q := 36) dX7_isDew_35 rfl ?_
        obtain ⟨hi_6, hg⟩ := mj_gd hg
        refine ev_ialdk (q := 37) rfl hi_6 rfl dX7_isDew_36 rfl ?_
        refine ev_goto (q := 41) dX7_isDew_37 rfl ?_
        refine ev_wk (loc' := [some (.ref _), some (.int _), some (.int _), some (.int _), some (.int _), some (.int _), none, none]) ⟨rfl, rfl, rfl, rfl, rfl, rfl, trivial⟩ ?_
        exact r_X7_isDew_41 ih _ _ _ _ _ _ _ _ hg hk
      · refine ev_iconst (v := -1) (q := 41) dX7_isDew_40 mci_m1 rfl ?_
        refine ev_wk (loc' := [some (.ref _), some (.int _), some (.int _), some (.int _), some (.int _), some (.int _), none, none]) ⟨rfl, rfl, rfl, rfl, rfl, rfl, trivial⟩ ?_
        exact r_X7_isDew_41 ih _ _ _ _ _ _ _ _ hg hk
    · obtain rfl := Option.some.inj hg
      refine ev_wk (loc' := [some (.ref _), none, none, none, some (.int _), none, none, none]) ⟨rfl, rfl, trivial⟩ ?_
      exact hk
def g_X7_isDew (x1 : Int32) (x2 : Int32) (x3 : Int32) (f : mj_I) : Option (Int32 × mj_I) :=
  (g_X7_putAside f).bind (fun o_1 =>
  (g_X7_isDew_10 mj_fuel x1 x2 x3 (1 : Int32) (0 : Int32) o_1).bind (fun q_2 =>
  (g_X7_takeBack q_2.2).bind (fun o_3 =>
  if mj_b q_2.1 = true then
  some ((q_2.1, o_3))
  else none)))
theorem r_X7_isDew {x1 : Int32} {x2 : Int32} {x3 : Int32} {f : mj_I} {g : mj_L} {o : Int32 × mj_I} (hg : g_X7_isDew x1 x2 x3 f = some o) : mj_Sp jX7_isDew my_S [.ref 0, .int x1, .int x2, .int x3] f g (fun v f' g' => some (.int o.1) = v ∧ o.2 = f' ∧ g = g' ∧ mj_b (o.1) = true) := by
  refine mj_sp 4 (by decide +kernel) rfl rfl (fun _ _ => Nat.le_of_ble_eq_true rfl) ?_
  show mj_Ev jX7_isDew 0 [some (.ref 0), some (.int x1), some (.int x2), some (.int x3), none, none, none, none] [] my_S f g _
  unfold g_X7_isDew at hg
  refine ev_aload_n (q := 1) dX7_isDew_0 rfl rfl ?_
  obtain ⟨o_1, ho_1, hg⟩ := mj_bd hg
  refine ev_callV (q := 4) kX7_putAside mw_i_X7_putAside mw_s_X7_putAside mw_m_RX7_228 rfl rfl (r_X7_putAside ho_1) rfl rfl (Nat.le_of_ble_eq_true rfl) (by decide) dX7_isDew_1 rfl (fun v fv gv hp => ?_)
  obtain ⟨rfl, rfl, rfl⟩ := hp
  refine ev_iconst (v := 1) (q := 5) dX7_isDew_4 mci_1 rfl ?_
  refine ev_istore (q := 7) (loc' := [some (.ref _), some (.int _), some (.int _), some (.int _), some (.int _), none, none, none]) dX7_isDew_5 (by decide) rfl rfl ?_
  refine ev_iconst (v := 0) (q := 8) dX7_isDew_7 mci_0 rfl ?_
  refine ev_istore (q := 10) (loc' := [some (.ref _), some (.int _), some (.int _), some (.int _), some (.int _), some (.int _), none, none]) dX7_isDew_8 (by decide) rfl rfl ?_
  obtain ⟨q_2, hq_2, hg⟩ := mj_bd hg
  refine r_X7_isDew_10 mj_fuel _ _ _ _ _ _ _ hq_2 ?_
  refine ev_aload_n (q := 76) dX7_isDew_75 rfl rfl ?_
  obtain ⟨o_3, ho_3, hg⟩ := mj_bd hg
  refine ev_callV (q := 79) kX7_takeBack mw_i_X7_takeBack mw_s_X7_takeBack mw_m_RX7_234 rfl rfl (r_X7_takeBack ho_3) rfl rfl (Nat.le_of_ble_eq_true rfl) (by decide) dX7_isDew_76 rfl (fun v fv gv hp => ?_)
  obtain ⟨rfl, rfl, rfl⟩ := hp
  refine ev_iload (q := 81) dX7_isDew_79 rfl rfl ?_
  obtain ⟨hb_4, hg⟩ := mj_gd hg
  obtain rfl := Option.some.inj hg
  exact ev_zret dX7_isDew_81 rfl hb_4 ⟨rfl, rfl, rfl, (hb_4)⟩
def g_X7_dew_55 : Nat → Int32 → Int32 → Int32 → Int32 → Int32 → mj_I → Option (Int32 × mj_I)
  | 0, _, _, _, _, _, _ => none
  | n + 1, x1, x2, x3, x5, x6, f =>
    if x6 < (f 4 50) then
     (g_X7_isThere x6 f).bind (fun o_7 =>
     if o_7 = 0 then
      mj_lt ((x5 ||| (0 : Int32))) (fun u_8 =>
      g_X7_dew_55 n x1 x2 x3 u_8 (x6 + (1 : Int32)) f)
     else
      (g_X7_isDew x6 (((40 : Int32) * x1) + x2) x3 f).bind (fun o_9 =>
      if o_9.1 = 0 then
       mj_lt ((x5 ||| (0 : Int32))) (fun u_10 =>
       g_X7_dew_55 n x1 x2 x3 u_10 (x6 + (1 : Int32)) o_9.2)
      else
       mj_lt ((x5 ||| ((1 : Int32) <<< (x6 &&& 31)))) (fun u_11 =>
       g_X7_dew_55 n x1 x2 x3 u_11 (x6 + (1 : Int32)) o_9.2)))
    else
     some ((x5, f))
theorem r_X7_dew_55 {g : mj_L} {post : Option Value → mj_I → mj_L → Prop} : ∀ (n : Nat) (x1 : Int32) (x2 : Int32) (x3 : Int32) (x5 : Int32) (x6 : Int32) (f : mj_I) (o : Int32 × mj_I), g_X7_dew_55 n x1 x2 x3 x5 x6 f = some o → mj_Ev jX7_dew 111 [some (.ref 0), none, none, none, none, some (.int o.1), none] [] my_S o.2 g post → mj_Ev jX7_dew 55 [some (.ref 0), some (.int x1), some (.int x2), some (.int x3), none, some (.int x5), some (.int x6)] [] my_S f g post := by
  intro n
  induction n with
  | zero =>
    intro x1 x2 x3 x5 x6 f o hg hk
    cases hg
  | succ n ih =>
    intro x1 x2 x3 x5 x6 f o hg hk
    unfold g_X7_dew_55 at hg
    refine ev_iload (q := 57) dX7_dew_55 rfl rfl ?_
    refine ev_aload_n (q := 58) dX7_dew_57 rfl rfl ?_
    refine ev_getfR (q := 61) mw_f_RX7_19 rfl rfl dX7_dew_58 rfl ?_
    refine ev_bipush (v := 50) (q := 63) dX7_dew_61 mcb_50 rfl ?_
    refine ev_ialdk (k := 50) (q := 64) rfl (by decide) mcx_50 dX7_dew_63 rfl ?_
    refine ev_icmp_ge (t := 111) (q := 67) dX7_dew_64 rfl rfl hg (fun hg => ?_) (fun hg => ?_)
    · refine ev_iload (q := 69) dX7_dew_67 rfl rfl ?_
      refine ev_aload_n (q := 70) dX7_dew_69 rfl rfl ?_
      refine ev_iload (q := 72) dX7_dew_70 rfl rfl ?_
      obtain ⟨o_7, ho_7, hg⟩ := mj_bd hg
      refine ev_callV (q := 75) kX7_isThere mw_i_X7_isThere mw_s_X7_isThere mw_m_RX7_177 rfl rfl (r_X7_isThere ho_7) rfl rfl (Nat.le_of_ble_eq_true rfl) (by decide) dX7_dew_72 rfl (fun v fv gv hp => ?_)
      obtain ⟨rfl, rfl, rfl, hr_7⟩ := hp
      refine ev_if_eq (t := 101) (q := 78) dX7_dew_75 rfl rfl hg (fun hg => ?_) (fun hg => ?_)
      · refine ev_iconst (v := 0) (q := 102) dX7_dew_101 mci_0 rfl ?_
        refine ev_ior (q := 103) dX7_dew_102 rfl ?_
        refine ev_nmi (fun u_8 hu_8 => ?_)
        have hg := mj_lt_el hu_8 hg
        refine ev_istore (q := 105) (loc' := [some (.ref _), some (.int _), some (.int _), some (.int _), none, some (.int _), some (.int _)]) dX7_dew_103 (by decide) rfl rfl ?_
        refine ev_iinc (v := 1) (q := 108) (loc' := [some (.ref _), some (.int _), some (.int _), some (.int _), none, some (.int _), some (.int _)]) dX7_dew_105 rfl (by decide) mci_1 rfl rfl ?_
        refine ev_goto (q := 55) dX7_dew_108 rfl ?_
        exact ih _ _ _ _ _ _ _ hg hk
      · refine ev_aload_n (q := 79) dX7_dew_78 rfl rfl ?_
        refine ev_iload (q := 81) dX7_dew_79 rfl rfl ?_
        refine ev_bipush (v := 40) (q := 83) dX7_dew_81 mcb_40 rfl ?_
        refine ev_iload_n (q := 84) dX7_dew_83 rfl rfl ?_
        refine ev_imul (q := 85) dX7_dew_84 rfl ?_
        refine ev_iload_n (q := 86) dX7_dew_85 rfl rfl ?_
        refine ev_iadd (q := 87) dX7_dew_86 rfl ?_
        refine ev_iload_n (q := 88) dX7_dew_87 rfl rfl ?_
        obtain ⟨o_9, ho_9, hg⟩ := mj_bd hg
        refine ev_callV (q := 91) kX7_isDew mw_i_X7_isDew mw_s_X7_isDew mw_m_RX7_249 rfl rfl (r_X7_isDew ho_9) rfl rfl (Nat.le_of_ble_eq_true rfl) (by decide) dX7_dew_88 rfl (fun v fv gv hp => ?_)
        obtain ⟨rfl, rfl, rfl, hr_9⟩ := hp
        refine ev_if_eq (t := 101) (q := 94) dX7_dew_91 rfl rfl hg (fun hg => ?_) (fun hg => ?_)
        · refine ev_iconst (v := 0) (q := 102) dX7_dew_101 mci_0 rfl ?_
          refine ev_ior (q := 103) dX7_dew_102 rfl ?_
          refine ev_nmi (fun u_10 hu_10 => ?_)
          have hg := mj_lt_el hu_10 hg
          refine ev_istore (q := 105) (loc' := [some (.ref _), some (.int _), some (.int _), some (.int _), none, some (.int _), some (.int _)]) dX7_dew_103 (by decide) rfl rfl ?_
          refine ev_iinc (v := 1) (q := 108) (loc' := [some (.ref _), some (.int _), some (.int _), some (.int _), none, some (.int _), some (.int _)]) dX7_dew_105 rfl (by decide) mci_1 rfl rfl ?_
          refine ev_goto (q := 55) dX7_dew_108 rfl ?_
          exact ih _ _ _ _ _ _ _ hg hk
        · refine ev_iconst (v := 1) (q := 95) dX7_dew_94 mci_1 rfl ?_
          refine ev_iload (q := 97) dX7_dew_95 rfl rfl ?_
          refine ev_ishl (q := 98) dX7_dew_97 rfl ?_
          refine ev_goto (q := 102) dX7_dew_98 rfl ?_
          refine ev_ior (q := 103) dX7_dew_102 rfl ?_
          refine ev_nmi (fun u_11 hu_11 => ?_)
          have hg := mj_lt_el hu_11 hg
          refine ev_istore (q := 105) (loc' := [some (.ref _), some (.int _), some (.int _), some (.int _), none, some (.int _), some (.int _)]) dX7_dew_103 (by decide) rfl rfl ?_
          refine ev_iinc (v := 1) (q := 108) (loc' := [some (.ref _), some (.int _), some (.int _), some (.int _), none, some (.int _), some (.int _)]) dX7_dew_105 rfl (by decide) mci_1 rfl rfl ?_
          refine ev_goto (q := 55) dX7_dew_108 rfl ?_
          exact ih _ _ _ _ _ _ _ hg hk
    · obtain rfl := Option.some.inj hg
      refine ev_wk (loc' := [some (.ref _), none, none, none, none, some (.int _), none]) ⟨rfl, rfl, trivial⟩ ?_
      exact hk
def g_X7_dew (x1 : Int32) (x2 : Int32) (x3 : Int32) (f : mj_I) : Option (Int32 × mj_I) :=
  if (f 0 4) = 0 then
   some (((-1000002 : Int32), f))
  else
   if (g_X7_isRow x1) = 0 then
    some (((-1000001 : Int32), f))
   else
    if (g_X7_in (x3).toInt64 (1 : Int64) (12 : Int64)) = 0 then
     some (((-1000001 : Int32), f))
    else
     (g_X7_lacks x1 x2 x3 f).bind (fun o_3 =>
     if o_3.1 < 0 then
      some ((o_3.1, o_3.2))
     else
      (g_X7_dew_55 mj_fuel x1 x2 x3 (0 : Int32) (0 : Int32) o_3.2).bind (fun q_4 =>
      mj_lt (g_X7_well q_4.1 q_4.2) (fun o_5 =>
      some ((o_5.1, o_5.2)))))
theorem r_X7_dew {x1 : Int32} {x2 : Int32} {x3 : Int32} {f : mj_I} {g : mj_L} {o : Int32 × mj_I} (hg : g_X7_dew x1 x2 x3 f = some o) : mj_Sp jX7_dew my_S [.ref 0, .int x1, .int x2, .int x3] f g (fun v f' g' => some (.int o.1) = v ∧ o.2 = f' ∧ g = g') := by
  refine mj_sp 3 (by decide +kernel) rfl rfl (fun _ _ => Nat.le_of_ble_eq_true rfl) ?_
  show mj_Ev jX7_dew 0 [some (.ref 0), some (.int x1), some (.int x2), some (.int x3), none, none, none] [] my_S f g _
  unfold g_X7_dew at hg
  refine ev_aload_n (q := 1) dX7_dew_0 rfl rfl ?_
  refine ev_getfI (q := 4) mw_f_RX7_154 (by decide) (by decide) rfl dX7_dew_1 rfl ?_
  refine ev_if_ne (t := 10) (q := 7) dX7_dew_4 rfl rfl hg (fun hg => ?_) (fun hg => ?_)
  · refine ev_ldc (q := 9) mw_c_RX7_193 dX7_dew_7 rfl ?_
    obtain rfl := Option.some.inj hg
    exact ev_iret dX7_dew_9 rfl ⟨rfl, rfl, rfl⟩
  · refine ev_iload_n (q := 11) dX7_dew_10 rfl rfl ?_
    refine ev_callS (q := 14) kX7_isRow mw_t_X7_isRow mw_m_RX7_64 (r_X7_isRow rfl) rfl rfl (Nat.le_of_ble_eq_true rfl) (by decide) dX7_dew_11 rfl (fun v fv gv hp => ?_)
    obtain ⟨rfl, rfl, rfl, hr_1⟩ := hp
    refine ev_if_eq (t := 29) (q := 17) dX7_dew_14 rfl rfl hg (fun hg => ?_) (fun hg => ?_)
    · refine ev_ldc (q := 31) mw_c_RX7_70 dX7_dew_29 rfl ?_
      obtain rfl := Option.some.inj hg
      exact ev_iret dX7_dew_31 rfl ⟨rfl, rfl, rfl⟩
    · refine ev_iload_n (q := 18) dX7_dew_17 rfl rfl ?_
      refine ev_i2l (q := 19) dX7_dew_18 rfl ?_
      refine ev_lconst (v := 1) (q := 20) dX7_dew_19 mcl_1 rfl ?_
      refine ev_ldc2 (q := 23) mw_c_RX7_243 dX7_dew_20 rfl ?_
      refine ev_callS (q := 26) kX7_in mw_t_X7_in mw_m_RX7_60 (r_X7_in rfl) rfl rfl (Nat.le_of_ble_eq_true rfl) (by decide) dX7_dew_23 rfl (fun v fv gv hp => ?_)
      obtain ⟨rfl, rfl, rfl, hr_2⟩ := hp
      refine ev_if_ne (t := 32) (q := 29) dX7_dew_26 rfl rfl hg (fun hg => ?_) (fun hg => ?_)
      · refine ev_ldc (q := 31) mw_c_RX7_70 dX7_dew_29 rfl ?_
        obtain rfl := Option.some.inj hg
        exact ev_iret dX7_dew_31 rfl ⟨rfl, rfl, rfl⟩
      · refine ev_aload_n (q := 33) dX7_dew_32 rfl rfl ?_
        refine ev_iload_n (q := 34) dX7_dew_33 rfl rfl ?_
        refine ev_iload_n (q := 35) dX7_dew_34 rfl rfl ?_
        refine ev_iload_n (q := 36) dX7_dew_35 rfl rfl ?_
        obtain ⟨o_3, ho_3, hg⟩ := mj_bd hg
        refine ev_callV (q := 39) kX7_lacks mw_i_X7_lacks mw_s_X7_lacks mw_m_RX7_245 rfl rfl (r_X7_lacks ho_3) rfl rfl (Nat.le_of_ble_eq_true rfl) (by decide) dX7_dew_36 rfl (fun v fv gv hp => ?_)
        obtain ⟨rfl, rfl, rfl⟩ := hp
        refine ev_istore (q := 41) (loc' := [some (.ref _), some (.int _), some (.int _), some (.int _), some (.int _), none, none]) dX7_dew_39 (by decide) rfl rfl ?_
        refine ev_iload (q := 43) dX7_dew_41 rfl rfl ?_
        refine ev_if_ge (t := 49) (q := 46) dX7_dew_43 rfl rfl hg (fun hg => ?_) (fun hg => ?_)
        · refine ev_iload (q := 48) dX7_dew_46 rfl rfl ?_
          obtain rfl := Option.some.inj hg
          exact ev_iret dX7_dew_48 rfl ⟨rfl, rfl, rfl⟩
        · refine ev_iconst (v := 0) (q := 50) dX7_dew_49 mci_0 rfl ?_
          refine ev_istore (q := 52) (loc' := [some (.ref _), some (.int _), some (.int _), some (.int _), some (.int _), some (.int _), none]) dX7_dew_50 (by decide) rfl rfl ?_
          refine ev_iconst (v := 0) (q := 53) dX7_dew_52 mci_0 rfl ?_
          refine ev_istore (q := 55) (loc' := [some (.ref _), some (.int _), some (.int _), some (.int _), some (.int _), some (.int _), some (.int _)]) dX7_dew_53 (by decide) rfl rfl ?_
          obtain ⟨q_4, hq_4, hg⟩ := mj_bd hg
          refine ev_wk (loc' := [some (.ref _), some (.int _), some (.int _), some (.int _), none, some (.int _), some (.int _)]) ⟨rfl, rfl, rfl, rfl, rfl, rfl, trivial⟩ ?_
          refine r_X7_dew_55 mj_fuel _ _ _ _ _ _ _ hq_4 ?_
          refine ev_aload_n (q := 112) dX7_dew_111 rfl rfl ?_
          refine ev_iload (q := 114) dX7_dew_112 rfl rfl ?_
          obtain ⟨o_5, ho_5, hg⟩ := mj_lte hg
          refine ev_callV (q := 117) kX7_well mw_i_X7_well mw_s_X7_well mw_m_RX7_75 rfl rfl (r_X7_well ho_5) rfl rfl (Nat.le_of_ble_eq_true rfl) (by decide) dX7_dew_114 rfl (fun v fv gv hp => ?_)
          obtain ⟨rfl, rfl, rfl⟩ := hp
          obtain rfl := Option.some.inj hg
          exact ev_iret dX7_dew_117 rfl ⟨rfl, rfl, rfl⟩
def g_X7_lost_97 : Nat → Int32 → Int32 → Int32 → Int32 → Int32 → Int32 → Int32 → Int32 → Int32 → Int32 → Int32 → Int32 → mj_I → Option (Int32 × mj_I)
  | 0, _, _, _, _, _, _, _, _, _, _, _, _, _ => none
  | n + 1, x1, x2, x3, x4, x5, x6, x8, x9, x10, x11, x12, x13, f =>
    if x13 < x5 then
     if mj_in ((51 : Int32) + x1) 82 = true then
     (g_X7_drifts (f 4 (ix ((51 : Int32) + x1))) x11 x2 ((f 4 46) + x13) f).bind (fun o_13 =>
      if x12 = 0 then
       g_X7_lost_97 n x1 x2 x3 x4 x5 x6 x8 x9 x10 o_13 (0 : Int32) (x13 + (1 : Int32)) f
      else
       if mj_in ((((40 : Int32) * x3) + x4) + x13) 320 = true then
       if (f 3 (ix ((((40 : Int32) * x3) + x4) + x13))) = o_13 then
         g_X7_lost_97 n x1 x2 x3 x4 x5 x6 x8 x9 x10 o_13 (1 : Int32) (x13 + (1 : Int32)) f
        else
         g_X7_lost_97 n x1 x2 x3 x4 x5 x6 x8 x9 x10 o_13 (0 : Int32) (x13 + (1 : Int32)) f
       else none)
     else none
    else
     some ((x12, f))
theorem r_X7_lost_97 {g : mj_L} {post : Option Value → mj_I → mj_L → Prop} : ∀ (n : Nat) (x1 : Int32) (x2 : Int32) (x3 : Int32) (x4 : Int32) (x5 : Int32) (x6 : Int32) (x8 : Int32) (x9 : Int32) (x10 : Int32) (x11 : Int32) (x12 : Int32) (x13 : Int32) (f : mj_I) (o : Int32 × mj_I), g_X7_lost_97 n x1 x2 x3 x4 x5 x6 x8 x9 x10 x11 x12 x13 f = some o → mj_Ev jX7_lost 170 [some (.ref 0), some (.int x1), some (.int x2), some (.int x3), some (.int x4), some (.int x5), some (.int x6), none, some (.int x8), some (.int x9), some (.int x10), none, some (.int o.1), none] [] my_S o.2 g post → mj_Ev jX7_lost 97 [some (.ref 0), some (.int x1), some (.int x2), some (.int x3), some (.int x4), some (.int x5), some (.int x6), none, some (.int x8), some (.int x9), some (.int x10), some (.int x11), some (.int x12), some (.int x13)] [] my_S f g post := by
  intro n
  induction n with
  | zero =>
    intro x1 x2 x3 x4 x5 x6 x8 x9 x10 x11 x12 x13 f o hg hk
    cases hg
  | succ n ih =>
    intro x1 x2 x3 x4 x5 x6 x8 x9 x10 x11 x12 x13 f o hg hk
    unfold g_X7_lost_97 at hg
    refine ev_iload (q := 99) dX7_lost_97 rfl rfl ?_
    refine ev_iload (q := 101) dX7_lost_99 rfl rfl ?_
    refine ev_icmp_ge (t := 170) (q := 104) dX7_lost_101 rfl rfl hg (fun hg => ?_) (fun hg => ?_)
    · refine ev_aload_n (q := 105) dX7_lost_104 rfl rfl ?_
      refine ev_aload_n (q := 106) dX7_lost_105 rfl rfl ?_
      refine ev_getfR (q := 109) mw_f_RX7_19 rfl rfl dX7_lost_106 rfl ?_
      refine ev_bipush (v := 51) (q := 111) dX7_lost_109 mcb_51 rfl ?_
      refine ev_iload_n (q := 112) dX7_lost_111 rfl rfl ?_
      refine ev_iadd (q := 113) dX7_lost_112 rfl ?_
      obtain ⟨hi_11, hg⟩ := mj_gd hg
      refine ev_ialdk (q := 114) rfl hi_11 rfl dX7_lost_113 rfl ?_
      refine ev_iload (q := 116) dX7_lost_114 rfl rfl ?_
      refine ev_iload_n (q := 117) dX7_lost_116 rfl rfl ?_
      refine ev_aload_n (q := 118) dX7_lost_117 rfl rfl ?_
      refine ev_getfR (q := 121) mw_f_RX7_19 rfl rfl dX7_lost_118 rfl ?_
      refine ev_bipush (v := 46) (q := 123) dX7_lost_121 mcb_46 rfl ?_
      refine ev_ialdk (k := 46) (q := 124) rfl (by decide) mcx_46 dX7_lost_123 rfl ?_
      refine ev_iload (q := 126) dX7_lost_124 rfl rfl ?_
      refine ev_iadd (q := 127) dX7_lost_126 rfl ?_
      obtain ⟨o_13, ho_13, hg⟩ := mj_bd hg
      refine ev_callV (q := 130) kX7_drifts mw_i_X7_drifts mw_s_X7_drifts mw_m_RX7_167 rfl rfl (r_X7_drifts ho_13) rfl rfl (Nat.le_of_ble_eq_true rfl) (by decide) dX7_lost_127 rfl (fun v fv gv hp => ?_)
      obtain ⟨rfl, rfl, rfl⟩ := hp
      refine ev_istore (q := 132) (loc' := [some (.ref _), some (.int _), some (.int _), some (.int _), some (.int _), some (.int _), some (.int _), none, some (.int _), some (.int _), some (.int _), some (.int _), some (.int _), some (.int _)]) dX7_lost_130 (by decide) rfl rfl ?_
      refine ev_iload (q := 134) dX7_lost_132 rfl rfl ?_
      refine ev_if_eq (t := 161) (q := 137) dX7_lost_134 rfl rfl hg (fun hg => ?_) (fun hg => ?_)
      · refine ev_iconst (v := 0) (q := 162) dX7_lost_161 mci_0 rfl ?_
        refine ev_istore (q := 164) (loc' := [some (.ref _), some (.int _), some (.int _), some (.int _), some (.int _), some (.int _), some (.int _), none, some (.int _), some (.int _), some (.int _), some (.int _), some (.int _), some (.int _)]) dX7_lost_162 (by decide) rfl rfl ?_
        refine ev_iinc (v := 1) (q := 167) (loc' := [some (.ref _), some (.int _), some (.int _), some (.int _), some (.int _), some (.int _), some (.int _), none, some (.int _), some (.int _), some (.int _), some (.int _), some (.int _), some (.int _)]) dX7_lost_164 rfl (by decide) mci_1 rfl rfl ?_
        refine ev_goto (q := 97) dX7_lost_167 rfl ?_
        exact ih _ _ _ _ _ _ _ _ _ _ _ _ _ _ hg hk
      · refine ev_aload_n (q := 138) dX7_lost_137 rfl rfl ?_
        refine ev_getfR (q := 141) mw_f_RX7_16 rfl rfl dX7_lost_138 rfl ?_
        refine ev_bipush (v := 40) (q := 143) dX7_lost_141 mcb_40 rfl ?_
        refine ev_iload_n (q := 144) dX7_lost_143 rfl rfl ?_
        refine ev_imul (q := 145) dX7_lost_144 rfl ?_
        refine ev_iload (q := 147) dX7_lost_145 rfl rfl ?_
        refine ev_iadd (q := 148) dX7_lost_147 rfl ?_
        refine ev_iload (q := 150) dX7_lost_148 rfl rfl ?_
        refine ev_iadd (q := 151) dX7_lost_150 rfl ?_
        obtain ⟨hi_14, hg⟩ := mj_gd hg
        refine ev_ialdk (q := 152) rfl hi_14 rfl dX7_lost_151 rfl ?_
        refine ev_iload (q := 154) dX7_lost_152 rfl rfl ?_
        refine ev_icmp_ne (t := 161) (q := 157) dX7_lost_154 rfl rfl hg (fun hg => ?_) (fun hg => ?_)
        · refine ev_iconst (v := 1) (q := 158) dX7_lost_157 mci_1 rfl ?_
          refine ev_goto (q := 162) dX7_lost_158 rfl ?_
          refine ev_istore (q := 164) (loc' := [some (.ref _), some (.int _), some (.int _), some (.int _), some (.int _), some (.int _), some (.int _), none, some (.int _), some (.int _), some (.int _), some (.int _), some (.int _), some (.int _)]) dX7_lost_162 (by decide) rfl rfl ?_
          refine ev_iinc (v := 1) (q := 167) (loc' := [some (.ref _), some (.int _), some (.int _), some (.int _), some (.int _), some (.int _), some (.int _), none, some (.int _), some (.int _), some (.int _), some (.int _), some (.int _), some (.int _)]) dX7_lost_164 rfl (by decide) mci_1 rfl rfl ?_
          refine ev_goto (q := 97) dX7_lost_167 rfl ?_
          exact ih _ _ _ _ _ _ _ _ _ _ _ _ _ _ hg hk
        · refine ev_iconst (v := 0) (q := 162) dX7_lost_161 mci_0 rfl ?_
          refine ev_istore (q := 164) (loc' := [some (.ref _), some (.int _), some (.int _), some (.int _), some (.int _), some (.int _), some (.int _), none, some (.int _), some (.int _), some (.int _), some (.int _), some (.int _), some (.int _)]) dX7_lost_162 (by decide) rfl rfl ?_
          refine ev_iinc (v := 1) (q := 167) (loc' := [some (.ref _), some (.int _), some (.int _), some (.int _), some (.int _), some (.int _), some (.int _), none, some (.int _), some (.int _), some (.int _), some (.int _), some (.int _), some (.int _)]) dX7_lost_164 rfl (by decide) mci_1 rfl rfl ?_
          refine ev_goto (q := 97) dX7_lost_167 rfl ?_
          exact ih _ _ _ _ _ _ _ _ _ _ _ _ _ _ hg hk
    · obtain rfl := Option.some.inj hg
      refine ev_wk (loc' := [some (.ref _), some (.int _), some (.int _), some (.int _), some (.int _), some (.int _), some (.int _), none, some (.int _), some (.int _), some (.int _), none, some (.int _), none]) ⟨rfl, rfl, rfl, rfl, rfl, rfl, rfl, rfl, rfl, rfl, rfl, trivial⟩ ?_
      exact hk
def g_X7_lost_182 (rec : Int32 → Int32 → Int32 → Int32 → Int32 → Int32 → Int32 → Int32 → Int32 → mj_I → Option (Int32 × Int32 × mj_I)) (x1 : Int32) (x2 : Int32) (x3 : Int32) (x4 : Int32) (x5 : Int32) (x6 : Int32) (x9 : Int32) (x10 : Int32) (x12 : Int32) (s0 : Int32) (s1 : Int32) (f : mj_I) : Option (Int32 × Int32 × mj_I) :=
  mj_lt ((s0 + s1)) (fun u_15 =>
  if x12 = 0 then
   rec x1 x2 x3 x4 x5 x6 u_15 x9 (x10 + (-1 : Int32)) f
  else
   rec x1 x2 x3 x4 x5 x6 u_15 x10 (x10 + (-1 : Int32)) f)
theorem r_X7_lost_182 {g : mj_L} {post : Option Value → mj_I → mj_L → Prop} {rec : Int32 → Int32 → Int32 → Int32 → Int32 → Int32 → Int32 → Int32 → Int32 → mj_I → Option (Int32 × Int32 × mj_I)} (hrec : ∀ (x1 : Int32) (x2 : Int32) (x3 : Int32) (x4 : Int32) (x5 : Int32) (x6 : Int32) (x8 : Int32) (x9 : Int32) (x10 : Int32) (f : mj_I) (o : Int32 × Int32 × mj_I), rec x1 x2 x3 x4 x5 x6 x8 x9 x10 f = some o → mj_Ev jX7_lost 205 [some (.ref 0), none, none, none, none, none, some (.int x6), none, some (.int o.1), some (.int o.2.1), none, none, none, none] [] my_S o.2.2 g post → mj_Ev jX7_lost 82 [some (.ref 0), some (.int x1), some (.int x2), some (.int x3), some (.int x4), some (.int x5), some (.int x6), none, some (.int x8), some (.int x9), some (.int x10), none, none, none] [] my_S f g post) : ∀ (x1 : Int32) (x2 : Int32) (x3 : Int32) (x4 : Int32) (x5 : Int32) (x6 : Int32) (x9 : Int32) (x10 : Int32) (x12 : Int32) (s0 : Int32) (s1 : Int32) (f : mj_I) (o : Int32 × Int32 × mj_I), g_X7_lost_182 rec x1 x2 x3 x4 x5 x6 x9 x10 x12 s0 s1 f = some o → mj_Ev jX7_lost 205 [some (.ref 0), none, none, none, none, none, some (.int x6), none, some (.int o.1), some (.int o.2.1), none, none, none, none] [] my_S o.2.2 g post → mj_Ev jX7_lost 182 [some (.ref 0), some (.int x1), some (.int x2), some (.int x3), some (.int x4), some (.int x5), some (.int x6), none, none, some (.int x9), some (.int x10), none, some (.int x12), none] [.int s1, .int s0] my_S f g post := by
  intro x1 x2 x3 x4 x5 x6 x9 x10 x12 s0 s1 f o hg hk
  unfold g_X7_lost_182 at hg
  refine ev_iadd (q := 183) dX7_lost_182 rfl ?_
  refine ev_nmi (fun u_15 hu_15 => ?_)
  have hg := mj_lt_el hu_15 hg
  refine ev_istore (q := 185) (loc' := [some (.ref _), some (.int _), some (.int _), some (.int _), some (.int _), some (.int _), some (.int _), none, some (.int _), some (.int _), some (.int _), none, some (.int _), none]) dX7_lost_183 (by decide) rfl rfl ?_
  refine ev_iload (q := 187) dX7_lost_185 rfl rfl ?_
  refine ev_if_eq (t := 195) (q := 190) dX7_lost_187 rfl rfl hg (fun hg => ?_) (fun hg => ?_)
  · refine ev_iload (q := 197) dX7_lost_195 rfl rfl ?_
    refine ev_istore (q := 199) (loc' := [some (.ref _), some (.int _), some (.int _), some (.int _), some (.int _), some (.int _), some (.int _), none, some (.int _), some (.int _), some (.int _), none, some (.int _), none]) dX7_lost_197 (by decide) rfl rfl ?_
    refine ev_iinc (v := -1) (q := 202) (loc' := [some (.ref _), some (.int _), some (.int _), some (.int _), some (.int _), some (.int _), some (.int _), none, some (.int _), some (.int _), some (.int _), none, some (.int _), none]) dX7_lost_199 rfl (by decide) mci_m1 rfl rfl ?_
    refine ev_goto (q := 82) dX7_lost_202 rfl ?_
    refine ev_wk (loc' := [some (.ref _), some (.int _), some (.int _), some (.int _), some (.int _), some (.int _), some (.int _), none, some (.int _), some (.int _), some (.int _), none, none, none]) ⟨rfl, rfl, rfl, rfl, rfl, rfl, rfl, rfl, rfl, rfl, trivial⟩ ?_
    exact hrec _ _ _ _ _ _ _ _ _ _ _ hg hk
  · refine ev_iload (q := 192) dX7_lost_190 rfl rfl ?_
    refine ev_goto (q := 197) dX7_lost_192 rfl ?_
    refine ev_istore (q := 199) (loc' := [some (.ref _), some (.int _), some (.int _), some (.int _), some (.int _), some (.int _), some (.int _), none, some (.int _), some (.int _), some (.int _), none, some (.int _), none]) dX7_lost_197 (by decide) rfl rfl ?_
    refine ev_iinc (v := -1) (q := 202) (loc' := [some (.ref _), some (.int _), some (.int _), some (.int _), some (.int _), some (.int _), some (.int _), none, some (.int _), some (.int _), some (.int _), none, some (.int _), none]) dX7_lost_199 rfl (by decide) mci_m1 rfl rfl ?_
    refine ev_goto (q := 82) dX7_lost_202 rfl ?_
    refine ev_wk (loc' := [some (.ref _), some (.int _), some (.int _), some (.int _), some (.int _), some (.int _), some (.int _), none, some (.int _), some (.int _), some (.int _), none, none, none]) ⟨rfl, rfl, rfl, rfl, rfl, rfl, rfl, rfl, rfl, rfl, trivial⟩ ?_
    exact hrec _ _ _ _ _ _ _ _ _ _ _ hg hk
def g_X7_lost_82 : Nat → Int32 → Int32 → Int32 → Int32 → Int32 → Int32 → Int32 → Int32 → Int32 → mj_I → Option (Int32 × Int32 × mj_I)
  | 0, _, _, _, _, _, _, _, _, _, _ => none
  | n + 1, x1, x2, x3, x4, x5, x6, x8, x9, x10, f =>
    if x10 < 0 then
     some ((x8, x9, f))
    else
     (g_X7_lost_97 mj_fuel x1 x2 x3 x4 x5 x6 x8 x9 x10 x10 (1 : Int32) (0 : Int32) f).bind (fun q_10 =>
     if q_10.1 = 0 then
      g_X7_lost_182 (g_X7_lost_82 n) x1 x2 x3 x4 x5 x6 x9 x10 q_10.1 x8 (0 : Int32) q_10.2
     else
      g_X7_lost_182 (g_X7_lost_82 n) x1 x2 x3 x4 x5 x6 x9 x10 q_10.1 x8 (1 : Int32) q_10.2)
theorem r_X7_lost_82 {g : mj_L} {post : Option Value → mj_I → mj_L → Prop} : ∀ (n : Nat) (x1 : Int32) (x2 : Int32) (x3 : Int32) (x4 : Int32) (x5 : Int32) (x6 : Int32) (x8 : Int32) (x9 : Int32) (x10 : Int32) (f : mj_I) (o : Int32 × Int32 × mj_I), g_X7_lost_82 n x1 x2 x3 x4 x5 x6 x8 x9 x10 f = some o → mj_Ev jX7_lost 205 [some (.ref 0), none, none, none, none, none, some (.int x6), none, some (.int o.1), some (.int o.2.1), none, none, none, none] [] my_S o.2.2 g post → mj_Ev jX7_lost 82 [some (.ref 0), some (.int x1), some (.int x2), some (.int x3), some (.int x4), some (.int x5), some (.int x6), none, some (.int x8), some (.int x9), some (.int x10), none, none, none] [] my_S f g post := by
  intro n
  induction n with
  | zero =>
    intro x1 x2 x3 x4 x5 x6 x8 x9 x10 f o hg hk
    cases hg
  | succ n ih =>
    intro x1 x2 x3 x4 x5 x6 x8 x9 x10 f o hg hk
    unfold g_X7_lost_82 at hg
    refine ev_iload (q := 84) dX7_lost_82 rfl rfl ?_
    refine ev_if_lt (t := 205) (q := 87) dX7_lost_84 rfl rfl hg (fun hg => ?_) (fun hg => ?_)
    · obtain rfl := Option.some.inj hg
      refine ev_wk (loc' := [some (.ref _), none, none, none, none, none, some (.int _), none, some (.int _), some (.int _), none, none, none, none]) ⟨rfl, rfl, rfl, rfl, trivial⟩ ?_
      exact hk
    · refine ev_iload (q := 89) dX7_lost_87 rfl rfl ?_
      refine ev_istore (q := 91) (loc' := [some (.ref _), some (.int _), some (.int _), some (.int _), some (.int _), some (.int _), some (.int _), none, some (.int _), some (.int _), some (.int _), some (.int _), none, none]) dX7_lost_89 (by decide) rfl rfl ?_
      refine ev_iconst (v := 1) (q := 92) dX7_lost_91 mci_1 rfl ?_
      refine ev_istore (q := 94) (loc' := [some (.ref _), some (.int _), some (.int _), some (.int _), some (.int _), some (.int _), some (.int _), none, some (.int _), some (.int _), some (.int _), some (.int _), some (.int _), none]) dX7_lost_92 (by decide) rfl rfl ?_
      refine ev_iconst (v := 0) (q := 95) dX7_lost_94 mci_0 rfl ?_
      refine ev_istore (q := 97) (loc' := [some (.ref _), some (.int _), some (.int _), some (.int _), some (.int _), some (.int _), some (.int _), none, some (.int _), some (.int _), some (.int _), some (.int _), some (.int _), some (.int _)]) dX7_lost_95 (by decide) rfl rfl ?_
      obtain ⟨q_10, hq_10, hg⟩ := mj_bd hg
      refine r_X7_lost_97 mj_fuel _ _ _ _ _ _ _ _ _ _ _ _ _ _ hq_10 ?_
      refine ev_iload (q := 172) dX7_lost_170 rfl rfl ?_
      refine ev_iload (q := 174) dX7_lost_172 rfl rfl ?_
      refine ev_if_eq (t := 181) (q := 177) dX7_lost_174 rfl rfl hg (fun hg => ?_) (fun hg => ?_)
      · refine ev_iconst (v := 0) (q := 182) dX7_lost_181 mci_0 rfl ?_
        refine ev_wk (loc' := [some (.ref _), some (.int _), some (.int _), some (.int _), some (.int _), some (.int _), some (.int _), none, none, some (.int _), some (.int _), none, some (.int _), none]) ⟨rfl, rfl, rfl, rfl, rfl, rfl, rfl, rfl, rfl, rfl, trivial⟩ ?_
        exact r_X7_lost_182 ih _ _ _ _ _ _ _ _ _ _ _ _ _ hg hk
      · refine ev_iconst (v := 1) (q := 178) dX7_lost_177 mci_1 rfl ?_
        refine ev_goto (q := 182) dX7_lost_178 rfl ?_
        refine ev_wk (loc' := [some (.ref _), some (.int _), some (.int _), some (.int _), some (.int _), some (.int _), some (.int _), none, none, some (.int _), some (.int _), none, some (.int _), none]) ⟨rfl, rfl, rfl, rfl, rfl, rfl, rfl, rfl, rfl, rfl, trivial⟩ ?_
        exact r_X7_lost_182 ih _ _ _ _ _ _ _ _ _ _ _ _ _ hg hk
def g_X7_lost (x1 : Int32) (x2 : Int32) (x3 : Int32) (x4 : Int32) (x5 : Int32) (x6 : Int32) (f : mj_I) : Option (Int32 × mj_I) :=
  if (g_X7_isCloud x1 f) = 0 then
   some (((-1000001 : Int32), f))
  else
   if (g_X7_in (x2).toInt64 (0 : Int64) (1 : Int64)) = 0 then
    some (((-1000001 : Int32), f))
   else
    if (g_X7_isRow x3) = 0 then
     some (((-1000001 : Int32), f))
    else
     if (g_X7_in (x5).toInt64 (1 : Int64) (12 : Int64)) = 0 then
      some (((-1000001 : Int32), f))
     else
      if (g_X7_in (x6).toInt64 (0 : Int64) (1 : Int64)) = 0 then
       some (((-1000001 : Int32), f))
      else
       (g_X7_lacks x3 x4 x5 f).bind (fun o_6 =>
       if o_6.1 < 0 then
        some ((o_6.1, o_6.2))
       else
        (g_X7_lost_82 mj_fuel x1 x2 x3 x4 x5 x6 (0 : Int32) (-1000000 : Int32) (31 : Int32) o_6.2).bind (fun q_7 =>
        if x6 = 0 then
         mj_lt (g_X7_well q_7.1 q_7.2.2) (fun o_8 =>
         some ((o_8.1, o_8.2)))
        else
         mj_lt (g_X7_well q_7.2.1 q_7.2.2) (fun o_9 =>
         some ((o_9.1, o_9.2)))))
theorem r_X7_lost {x1 : Int32} {x2 : Int32} {x3 : Int32} {x4 : Int32} {x5 : Int32} {x6 : Int32} {f : mj_I} {g : mj_L} {o : Int32 × mj_I} (hg : g_X7_lost x1 x2 x3 x4 x5 x6 f = some o) : mj_Sp jX7_lost my_S [.ref 0, .int x1, .int x2, .int x3, .int x4, .int x5, .int x6] f g (fun v f' g' => some (.int o.1) = v ∧ o.2 = f' ∧ g = g') := by
  refine mj_sp 7 (by decide +kernel) rfl rfl (fun _ _ => Nat.le_of_ble_eq_true rfl) ?_
  show mj_Ev jX7_lost 0 [some (.ref 0), some (.int x1), some (.int x2), some (.int x3), some (.int x4), some (.int x5), some (.int x6), none, none, none, none, none, none, none] [] my_S f g _
  unfold g_X7_lost at hg
  refine ev_aload_n (q := 1) dX7_lost_0 rfl rfl ?_
  refine ev_iload_n (q := 2) dX7_lost_1 rfl rfl ?_
  refine ev_callV (q := 5) kX7_isCloud mw_i_X7_isCloud mw_s_X7_isCloud mw_m_RX7_202 rfl rfl (r_X7_isCloud rfl) rfl rfl (Nat.le_of_ble_eq_true rfl) (by decide) dX7_lost_2 rfl (fun v fv gv hp => ?_)
  obtain ⟨rfl, rfl, rfl, hr_1⟩ := hp
  refine ev_if_eq (t := 49) (q := 8) dX7_lost_5 rfl rfl hg (fun hg => ?_) (fun hg => ?_)
  · refine ev_ldc (q := 51) mw_c_RX7_70 dX7_lost_49 rfl ?_
    obtain rfl := Option.some.inj hg
    exact ev_iret dX7_lost_51 rfl ⟨rfl, rfl, rfl⟩
  · refine ev_iload_n (q := 9) dX7_lost_8 rfl rfl ?_
    refine ev_i2l (q := 10) dX7_lost_9 rfl ?_
    refine ev_lconst (v := 0) (q := 11) dX7_lost_10 mcl_0 rfl ?_
    refine ev_lconst (v := 1) (q := 12) dX7_lost_11 mcl_1 rfl ?_
    refine ev_callS (q := 15) kX7_in mw_t_X7_in mw_m_RX7_60 (r_X7_in rfl) rfl rfl (Nat.le_of_ble_eq_true rfl) (by decide) dX7_lost_12 rfl (fun v fv gv hp => ?_)
    obtain ⟨rfl, rfl, rfl, hr_2⟩ := hp
    refine ev_if_eq (t := 49) (q := 18) dX7_lost_15 rfl rfl hg (fun hg => ?_) (fun hg => ?_)
    · refine ev_ldc (q := 51) mw_c_RX7_70 dX7_lost_49 rfl ?_
      obtain rfl := Option.some.inj hg
      exact ev_iret dX7_lost_51 rfl ⟨rfl, rfl, rfl⟩
    · refine ev_iload_n (q := 19) dX7_lost_18 rfl rfl ?_
      refine ev_callS (q := 22) kX7_isRow mw_t_X7_isRow mw_m_RX7_64 (r_X7_isRow rfl) rfl rfl (Nat.le_of_ble_eq_true rfl) (by decide) dX7_lost_19 rfl (fun v fv gv hp => ?_)
      obtain ⟨rfl, rfl, rfl, hr_3⟩ := hp
      refine ev_if_eq (t := 49) (q := 25) dX7_lost_22 rfl rfl hg (fun hg => ?_) (fun hg => ?_)
      · refine ev_ldc (q := 51) mw_c_RX7_70 dX7_lost_49 rfl ?_
        obtain rfl := Option.some.inj hg
        exact ev_iret dX7_lost_51 rfl ⟨rfl, rfl, rfl⟩
      · refine ev_iload (q := 27) dX7_lost_25 rfl rfl ?_
        refine ev_i2l (q := 28) dX7_lost_27 rfl ?_
        refine ev_lconst (v := 1) (q := 29) dX7_lost_28 mcl_1 rfl ?_
        refine ev_ldc2 (q := 32) mw_c_RX7_243 dX7_lost_29 rfl ?_
        refine ev_callS (q := 35) kX7_in mw_t_X7_in mw_m_RX7_60 (r_X7_in rfl) rfl rfl (Nat.le_of_ble_eq_true rfl) (by decide) dX7_lost_32 rfl (fun v fv gv hp => ?_)
        obtain ⟨rfl, rfl, rfl, hr_4⟩ := hp
        refine ev_if_eq (t := 49) (q := 38) dX7_lost_35 rfl rfl hg (fun hg => ?_) (fun hg => ?_)
        · refine ev_ldc (q := 51) mw_c_RX7_70 dX7_lost_49 rfl ?_
          obtain rfl := Option.some.inj hg
          exact ev_iret dX7_lost_51 rfl ⟨rfl, rfl, rfl⟩
        · refine ev_iload (q := 40) dX7_lost_38 rfl rfl ?_
          refine ev_i2l (q := 41) dX7_lost_40 rfl ?_
          refine ev_lconst (v := 0) (q := 42) dX7_lost_41 mcl_0 rfl ?_
          refine ev_lconst (v := 1) (q := 43) dX7_lost_42 mcl_1 rfl ?_
          refine ev_callS (q := 46) kX7_in mw_t_X7_in mw_m_RX7_60 (r_X7_in rfl) rfl rfl (Nat.le_of_ble_eq_true rfl) (by decide) dX7_lost_43 rfl (fun v fv gv hp => ?_)
          obtain ⟨rfl, rfl, rfl, hr_5⟩ := hp
          refine ev_if_ne (t := 52) (q := 49) dX7_lost_46 rfl rfl hg (fun hg => ?_) (fun hg => ?_)
          · refine ev_ldc (q := 51) mw_c_RX7_70 dX7_lost_49 rfl ?_
            obtain rfl := Option.some.inj hg
            exact ev_iret dX7_lost_51 rfl ⟨rfl, rfl, rfl⟩
          · refine ev_aload_n (q := 53) dX7_lost_52 rfl rfl ?_
            refine ev_iload_n (q := 54) dX7_lost_53 rfl rfl ?_
            refine ev_iload (q := 56) dX7_lost_54 rfl rfl ?_
            refine ev_iload (q := 58) dX7_lost_56 rfl rfl ?_
            obtain ⟨o_6, ho_6, hg⟩ := mj_bd hg
            refine ev_callV (q := 61) kX7_lacks mw_i_X7_lacks mw_s_X7_lacks mw_m_RX7_245 rfl rfl (r_X7_lacks ho_6) rfl rfl (Nat.le_of_ble_eq_true rfl) (by decide) dX7_lost_58 rfl (fun v fv gv hp => ?_)
            obtain ⟨rfl, rfl, rfl⟩ := hp
            refine ev_istore (q := 63) (loc' := [some (.ref _), some (.int _), some (.int _), some (.int _), some (.int _), some (.int _), some (.int _), some (.int _), none, none, none, none, none, none]) dX7_lost_61 (by decide) rfl rfl ?_
            refine ev_iload (q := 65) dX7_lost_63 rfl rfl ?_
            refine ev_if_ge (t := 71) (q := 68) dX7_lost_65 rfl rfl hg (fun hg => ?_) (fun hg => ?_)
            · refine ev_iload (q := 70) dX7_lost_68 rfl rfl ?_
              obtain rfl := Option.some.inj hg
              exact ev_iret dX7_lost_70 rfl ⟨rfl, rfl, rfl⟩
            · refine ev_iconst (v := 0) (q := 72) dX7_lost_71 mci_0 rfl ?_
              refine ev_istore (q := 74) (loc' := [some (.ref _), some (.int _), some (.int _), some (.int _), some (.int _), some (.int _), some (.int _), some (.int _), some (.int _), none, none, none, none, none]) dX7_lost_72 (by decide) rfl rfl ?_
              refine ev_ldc (q := 76) mw_c_RX7_237 dX7_lost_74 rfl ?_
              refine ev_istore (q := 78) (loc' := [some (.ref _), some (.int _), some (.int _), some (.int _), some (.int _), some (.int _), some (.int _), some (.int _), some (.int _), some (.int _), none, none, none, none]) dX7_lost_76 (by decide) rfl rfl ?_
              refine ev_bipush (v := 31) (q := 80) dX7_lost_78 mcb_31 rfl ?_
              refine ev_istore (q := 82) (loc' := [some (.ref _), some (.int _), some (.int _), some (.int _), some (.int _), some (.int _), some (.int _), some (.int _), some (.int _), some (.int _), some (.int _), none, none, none]) dX7_lost_80 (by decide) rfl rfl ?_
              obtain ⟨q_7, hq_7, hg⟩ := mj_bd hg
              refine ev_wk (loc' := [some (.ref _), some (.int _), some (.int _), some (.int _), some (.int _), some (.int _), some (.int _), none, some (.int _), some (.int _), some (.int _), none, none, none]) ⟨rfl, rfl, rfl, rfl, rfl, rfl, rfl, rfl, rfl, rfl, trivial⟩ ?_
              refine r_X7_lost_82 mj_fuel _ _ _ _ _ _ _ _ _ _ _ hq_7 ?_
              refine ev_aload_n (q := 206) dX7_lost_205 rfl rfl ?_
              refine ev_iload (q := 208) dX7_lost_206 rfl rfl ?_
              refine ev_if_ne (t := 216) (q := 211) dX7_lost_208 rfl rfl hg (fun hg => ?_) (fun hg => ?_)
              · refine ev_iload (q := 213) dX7_lost_211 rfl rfl ?_
                refine ev_goto (q := 218) dX7_lost_213 rfl ?_
                obtain ⟨o_8, ho_8, hg⟩ := mj_lte hg
                refine ev_callV (q := 221) kX7_well mw_i_X7_well mw_s_X7_well mw_m_RX7_75 rfl rfl (r_X7_well ho_8) rfl rfl (Nat.le_of_ble_eq_true rfl) (by decide) dX7_lost_218 rfl (fun v fv gv hp => ?_)
                obtain ⟨rfl, rfl, rfl⟩ := hp
                obtain rfl := Option.some.inj hg
                exact ev_iret dX7_lost_221 rfl ⟨rfl, rfl, rfl⟩
              · refine ev_iload (q := 218) dX7_lost_216 rfl rfl ?_
                obtain ⟨o_9, ho_9, hg⟩ := mj_lte hg
                refine ev_callV (q := 221) kX7_well mw_i_X7_well mw_s_X7_well mw_m_RX7_75 rfl rfl (r_X7_well ho_9) rfl rfl (Nat.le_of_ble_eq_true rfl) (by decide) dX7_lost_218 rfl (fun v fv gv hp => ?_)
                obtain ⟨rfl, rfl, rfl⟩ := hp
                obtain rfl := Option.some.inj hg
                exact ev_iret dX7_lost_221 rfl ⟨rfl, rfl, rfl⟩
def g_X7_kite_82 : Nat → Int32 → Int32 → Int32 → Int32 → Int32 → Int32 → Int32 → Int32 → Int32 → mj_I → Option (Int32 × mj_I)
  | 0, _, _, _, _, _, _, _, _, _, _ => none
  | n + 1, x1, x2, x3, x4, x6, x7, x8, x9, x10, f =>
    if x10 < x3 then
     if x9 = 0 then
      g_X7_kite_82 n x1 x2 x3 x4 x6 x7 x8 (0 : Int32) (x10 + (1 : Int32)) f
     else
      if mj_in ((((40 : Int32) * x1) + x2) + x10) 320 = true then
      if mj_in (((0 : Int32) + ((6 : Int32) * (x8 / (6 : Int32)))) + ((x8 + x10) - (x8 + x10) / (6 : Int32) * (6 : Int32))) 82 = true then
       if (f 3 (ix ((((40 : Int32) * x1) + x2) + x10))) = (f 4 (ix (((0 : Int32) + ((6 : Int32) * (x8 / (6 : Int32)))) + ((x8 + x10) - (x8 + x10) / (6 : Int32) * (6 : Int32))))) then
         g_X7_kite_82 n x1 x2 x3 x4 x6 x7 x8 (1 : Int32) (x10 + (1 : Int32)) f
        else
         g_X7_kite_82 n x1 x2 x3 x4 x6 x7 x8 (0 : Int32) (x10 + (1 : Int32)) f
       else none
      else none
    else
     some ((x9, f))
theorem r_X7_kite_82 {g : mj_L} {post : Option Value → mj_I → mj_L → Prop} : ∀ (n : Nat) (x1 : Int32) (x2 : Int32) (x3 : Int32) (x4 : Int32) (x6 : Int32) (x7 : Int32) (x8 : Int32) (x9 : Int32) (x10 : Int32) (f : mj_I) (o : Int32 × mj_I), g_X7_kite_82 n x1 x2 x3 x4 x6 x7 x8 x9 x10 f = some o → mj_Ev jX7_kite 147 [some (.ref 0), some (.int x1), some (.int x2), some (.int x3), some (.int x4), none, some (.int x6), some (.int x7), some (.int x8), some (.int o.1), none] [] my_S o.2 g post → mj_Ev jX7_kite 82 [some (.ref 0), some (.int x1), some (.int x2), some (.int x3), some (.int x4), none, some (.int x6), some (.int x7), some (.int x8), some (.int x9), some (.int x10)] [] my_S f g post := by
  intro n
  induction n with
  | zero =>
    intro x1 x2 x3 x4 x6 x7 x8 x9 x10 f o hg hk
    cases hg
  | succ n ih =>
    intro x1 x2 x3 x4 x6 x7 x8 x9 x10 f o hg hk
    unfold g_X7_kite_82 at hg
    refine ev_iload (q := 84) dX7_kite_82 rfl rfl ?_
    refine ev_iload_n (q := 85) dX7_kite_84 rfl rfl ?_
    refine ev_icmp_ge (t := 147) (q := 88) dX7_kite_85 rfl rfl hg (fun hg => ?_) (fun hg => ?_)
    · refine ev_iload (q := 90) dX7_kite_88 rfl rfl ?_
      refine ev_if_eq (t := 138) (q := 93) dX7_kite_90 rfl rfl hg (fun hg => ?_) (fun hg => ?_)
      · refine ev_iconst (v := 0) (q := 139) dX7_kite_138 mci_0 rfl ?_
        refine ev_istore (q := 141) (loc' := [some (.ref _), some (.int _), some (.int _), some (.int _), some (.int _), none, some (.int _), some (.int _), some (.int _), some (.int _), some (.int _)]) dX7_kite_139 (by decide) rfl rfl ?_
        refine ev_iinc (v := 1) (q := 144) (loc' := [some (.ref _), some (.int _), some (.int _), some (.int _), some (.int _), none, some (.int _), some (.int _), some (.int _), some (.int _), some (.int _)]) dX7_kite_141 rfl (by decide) mci_1 rfl rfl ?_
        refine ev_goto (q := 82) dX7_kite_144 rfl ?_
        exact ih _ _ _ _ _ _ _ _ _ _ _ hg hk
      · refine ev_aload_n (q := 94) dX7_kite_93 rfl rfl ?_
        refine ev_getfR (q := 97) mw_f_RX7_16 rfl rfl dX7_kite_94 rfl ?_
        refine ev_bipush (v := 40) (q := 99) dX7_kite_97 mcb_40 rfl ?_
        refine ev_iload_n (q := 100) dX7_kite_99 rfl rfl ?_
        refine ev_imul (q := 101) dX7_kite_100 rfl ?_
        refine ev_iload_n (q := 102) dX7_kite_101 rfl rfl ?_
        refine ev_iadd (q := 103) dX7_kite_102 rfl ?_
        refine ev_iload (q := 105) dX7_kite_103 rfl rfl ?_
        refine ev_iadd (q := 106) dX7_kite_105 rfl ?_
        obtain ⟨hi_9, hg⟩ := mj_gd hg
        refine ev_ialdk (q := 107) rfl hi_9 rfl dX7_kite_106 rfl ?_
        refine ev_aload_n (q := 108) dX7_kite_107 rfl rfl ?_
        refine ev_getfR (q := 111) mw_f_RX7_19 rfl rfl dX7_kite_108 rfl ?_
        refine ev_iconst (v := 0) (q := 112) dX7_kite_111 mci_0 rfl ?_
        refine ev_bipush (v := 6) (q := 114) dX7_kite_112 mcb_6 rfl ?_
        refine ev_iload (q := 116) dX7_kite_114 rfl rfl ?_
        refine ev_bipush (v := 6) (q := 118) dX7_kite_116 mcb_6 rfl ?_
        refine ev_idiv (q := 119) dX7_kite_118 (by decide) rfl ?_
        refine ev_imul (q := 120) dX7_kite_119 rfl ?_
        refine ev_iadd (q := 121) dX7_kite_120 rfl ?_
        refine ev_iload (q := 123) dX7_kite_121 rfl rfl ?_
        refine ev_iload (q := 125) dX7_kite_123 rfl rfl ?_
        refine ev_iadd (q := 126) dX7_kite_125 rfl ?_
        refine ev_bipush (v := 6) (q := 128) dX7_kite_126 mcb_6 rfl ?_
        refine ev_irem (q := 129) dX7_kite_128 (by decide) rfl ?_
        refine ev_iadd (q := 130) dX7_kite_129 rfl ?_
        obtain ⟨hi_10, hg⟩ := mj_gd hg
        refine ev_ialdk (q := 131) rfl hi_10 rfl dX7_kite_130 rfl ?_
        refine ev_icmp_ne (t := 138) (q := 134) dX7_kite_131 rfl rfl hg (fun hg => ?_) (fun hg => ?_)
        · refine ev_iconst (v := 1) (q := 135) dX7_kite_134 mci_1 rfl ?_
          refine ev_goto (q := 139) dX7_kite_135 rfl ?_
          refine ev_istore (q := 141) (loc' := [some (.ref _), some (.int _), some (.int _), some (.int _), some (.int _), none, some (.int _), some (.int _), some (.int _), some (.int _), some (.int _)]) dX7_kite_139 (by decide) rfl rfl ?_
          refine ev_iinc (v := 1) (q := 144) (loc' := [some (.ref _), some (.int _), some (.int _), some (.int _), some (.int _), none, some (.int _), some (.int _), some (.int _), some (.int _), some (.int _)]) dX7_kite_141 rfl (by decide) mci_1 rfl rfl ?_
          refine ev_goto (q := 82) dX7_kite_144 rfl ?_
          exact ih _ _ _ _ _ _ _ _ _ _ _ hg hk
        · refine ev_iconst (v := 0) (q := 139) dX7_kite_138 mci_0 rfl ?_
          refine ev_istore (q := 141) (loc' := [some (.ref _), some (.int _), some (.int _), some (.int _), some (.int _), none, some (.int _), some (.int _), some (.int _), some (.int _), some (.int _)]) dX7_kite_139 (by decide) rfl rfl ?_
          refine ev_iinc (v := 1) (q := 144) (loc' := [some (.ref _), some (.int _), some (.int _), some (.int _), some (.int _), none, some (.int _), some (.int _), some (.int _), some (.int _), some (.int _)]) dX7_kite_141 rfl (by decide) mci_1 rfl rfl ?_
          refine ev_goto (q := 82) dX7_kite_144 rfl ?_
          exact ih _ _ _ _ _ _ _ _ _ _ _ hg hk
    · obtain rfl := Option.some.inj hg
      refine ev_wk (loc' := [some (.ref _), some (.int _), some (.int _), some (.int _), some (.int _), none, some (.int _), some (.int _), some (.int _), some (.int _), none]) ⟨rfl, rfl, rfl, rfl, rfl, rfl, rfl, rfl, rfl, trivial⟩ ?_
      exact hk
def g_X7_kite_159 (rec : Int32 → Int32 → Int32 → Int32 → Int32 → Int32 → Int32 → mj_I → Option (Int32 × Int32 × mj_I)) (x1 : Int32) (x2 : Int32) (x3 : Int32) (x4 : Int32) (x7 : Int32) (x8 : Int32) (x9 : Int32) (s0 : Int32) (s1 : Int32) (f : mj_I) : Option (Int32 × Int32 × mj_I) :=
  mj_lt ((s0 + s1)) (fun u_11 =>
  if x9 = 0 then
   rec x1 x2 x3 x4 u_11 x7 (x8 + (-1 : Int32)) f
  else
   rec x1 x2 x3 x4 u_11 x8 (x8 + (-1 : Int32)) f)
theorem r_X7_kite_159 {g : mj_L} {post : Option Value → mj_I → mj_L → Prop} {rec : Int32 → Int32 → Int32 → Int32 → Int32 → Int32 → Int32 → mj_I → Option (Int32 × Int32 × mj_I)} (hrec : ∀ (x1 : Int32) (x2 : Int32) (x3 : Int32) (x4 : Int32) (x6 : Int32) (x7 : Int32) (x8 : Int32) (f : mj_I) (o : Int32 × Int32 × mj_I), rec x1 x2 x3 x4 x6 x7 x8 f = some o → mj_Ev jX7_kite 182 [some (.ref 0), none, none, none, some (.int x4), none, some (.int o.1), some (.int o.2.1), none, none, none] [] my_S o.2.2 g post → mj_Ev jX7_kite 71 [some (.ref 0), some (.int x1), some (.int x2), some (.int x3), some (.int x4), none, some (.int x6), some (.int x7), some (.int x8), none, none] [] my_S f g post) : ∀ (x1 : Int32) (x2 : Int32) (x3 : Int32) (x4 : Int32) (x7 : Int32) (x8 : Int32) (x9 : Int32) (s0 : Int32) (s1 : Int32) (f : mj_I) (o : Int32 × Int32 × mj_I), g_X7_kite_159 rec x1 x2 x3 x4 x7 x8 x9 s0 s1 f = some o → mj_Ev jX7_kite 182 [some (.ref 0), none, none, none, some (.int x4), none, some (.int o.1), some (.int o.2.1), none, none, none] [] my_S o.2.2 g post → mj_Ev jX7_kite 159 [some (.ref 0), some (.int x1), some (.int x2), some (.int x3), some (.int x4), none, none, some (.int x7), some (.int x8), some (.int x9), none] [.int s1, .int s0] my_S f g post := by
  intro x1 x2 x3 x4 x7 x8 x9 s0 s1 f o hg hk
  unfold g_X7_kite_159 at hg
  refine ev_iadd (q := 160) dX7_kite_159 rfl ?_
  refine ev_nmi (fun u_11 hu_11 => ?_)
  have hg := mj_lt_el hu_11 hg
  refine ev_istore (q := 162) (loc' := [some (.ref _), some (.int _), some (.int _), some (.int _), some (.int _), none, some (.int _), some (.int _), some (.int _), some (.int _), none]) dX7_kite_160 (by decide) rfl rfl ?_
  refine ev_iload (q := 164) dX7_kite_162 rfl rfl ?_
  refine ev_if_eq (t := 172) (q := 167) dX7_kite_164 rfl rfl hg (fun hg => ?_) (fun hg => ?_)
  · refine ev_iload (q := 174) dX7_kite_172 rfl rfl ?_
    refine ev_istore (q := 176) (loc' := [some (.ref _), some (.int _), some (.int _), some (.int _), some (.int _), none, some (.int _), some (.int _), some (.int _), some (.int _), none]) dX7_kite_174 (by decide) rfl rfl ?_
    refine ev_iinc (v := -1) (q := 179) (loc' := [some (.ref _), some (.int _), some (.int _), some (.int _), some (.int _), none, some (.int _), some (.int _), some (.int _), some (.int _), none]) dX7_kite_176 rfl (by decide) mci_m1 rfl rfl ?_
    refine ev_goto (q := 71) dX7_kite_179 rfl ?_
    refine ev_wk (loc' := [some (.ref _), some (.int _), some (.int _), some (.int _), some (.int _), none, some (.int _), some (.int _), some (.int _), none, none]) ⟨rfl, rfl, rfl, rfl, rfl, rfl, rfl, rfl, trivial⟩ ?_
    exact hrec _ _ _ _ _ _ _ _ _ hg hk
  · refine ev_iload (q := 169) dX7_kite_167 rfl rfl ?_
    refine ev_goto (q := 174) dX7_kite_169 rfl ?_
    refine ev_istore (q := 176) (loc' := [some (.ref _), some (.int _), some (.int _), some (.int _), some (.int _), none, some (.int _), some (.int _), some (.int _), some (.int _), none]) dX7_kite_174 (by decide) rfl rfl ?_
    refine ev_iinc (v := -1) (q := 179) (loc' := [some (.ref _), some (.int _), some (.int _), some (.int _), some (.int _), none, some (.int _), some (.int _), some (.int _), some (.int _), none]) dX7_kite_176 rfl (by decide) mci_m1 rfl rfl ?_
    refine ev_goto (q := 71) dX7_kite_179 rfl ?_
    refine ev_wk (loc' := [some (.ref _), some (.int _), some (.int _), some (.int _), some (.int _), none, some (.int _), some (.int _), some (.int _), none, none]) ⟨rfl, rfl, rfl, rfl, rfl, rfl, rfl, rfl, trivial⟩ ?_
    exact hrec _ _ _ _ _ _ _ _ _ hg hk
def g_X7_kite_71 : Nat → Int32 → Int32 → Int32 → Int32 → Int32 → Int32 → Int32 → mj_I → Option (Int32 × Int32 × mj_I)
  | 0, _, _, _, _, _, _, _, _ => none
  | n + 1, x1, x2, x3, x4, x6, x7, x8, f =>
    if x8 < 0 then
     some ((x6, x7, f))
    else
     (g_X7_kite_82 mj_fuel x1 x2 x3 x4 x6 x7 x8 (1 : Int32) (0 : Int32) f).bind (fun q_8 =>
     if q_8.1 = 0 then
      g_X7_kite_159 (g_X7_kite_71 n) x1 x2 x3 x4 x7 x8 q_8.1 x6 (0 : Int32) q_8.2
     else
      g_X7_kite_159 (g_X7_kite_71 n) x1 x2 x3 x4 x7 x8 q_8.1 x6 (1 : Int32) q_8.2)
theorem r_X7_kite_71 {g : mj_L} {post : Option Value → mj_I → mj_L → Prop} : ∀ (n : Nat) (x1 : Int32) (x2 : Int32) (x3 : Int32) (x4 : Int32) (x6 : Int32) (x7 : Int32) (x8 : Int32) (f : mj_I) (o : Int32 × Int32 × mj_I), g_X7_kite_71 n x1 x2 x3 x4 x6 x7 x8 f = some o → mj_Ev jX7_kite 182 [some (.ref 0), none, none, none, some (.int x4), none, some (.int o.1), some (.int o.2.1), none, none, none] [] my_S o.2.2 g post → mj_Ev jX7_kite 71 [some (.ref 0), some (.int x1), some (.int x2), some (.int x3), some (.int x4), none, some (.int x6), some (.int x7), some (.int x8), none, none] [] my_S f g post := by
  intro n
  induction n with
  | zero =>
    intro x1 x2 x3 x4 x6 x7 x8 f o hg hk
    cases hg
  | succ n ih =>
    intro x1 x2 x3 x4 x6 x7 x8 f o hg hk
    unfold g_X7_kite_71 at hg
    refine ev_iload (q := 73) dX7_kite_71 rfl rfl ?_
    refine ev_if_lt (t := 182) (q := 76) dX7_kite_73 rfl rfl hg (fun hg => ?_) (fun hg => ?_)
    · obtain rfl := Option.some.inj hg
      refine ev_wk (loc' := [some (.ref _), none, none, none, some (.int _), none, some (.int _), some (.int _), none, none, none]) ⟨rfl, rfl, rfl, rfl, trivial⟩ ?_
      exact hk
    · refine ev_iconst (v := 1) (q := 77) dX7_kite_76 mci_1 rfl ?_
      refine ev_istore (q := 79) (loc' := [some (.ref _), some (.int _), some (.int _), some (.int _), some (.int _), none, some (.int _), some (.int _), some (.int _), some (.int _), none]) dX7_kite_77 (by decide) rfl rfl ?_
      refine ev_iconst (v := 0) (q := 80) dX7_kite_79 mci_0 rfl ?_
      refine ev_istore (q := 82) (loc' := [some (.ref _), some (.int _), some (.int _), some (.int _), some (.int _), none, some (.int _), some (.int _), some (.int _), some (.int _), some (.int _)]) dX7_kite_80 (by decide) rfl rfl ?_
      obtain ⟨q_8, hq_8, hg⟩ := mj_bd hg
      refine r_X7_kite_82 mj_fuel _ _ _ _ _ _ _ _ _ _ _ hq_8 ?_
      refine ev_iload (q := 149) dX7_kite_147 rfl rfl ?_
      refine ev_iload (q := 151) dX7_kite_149 rfl rfl ?_
      refine ev_if_eq (t := 158) (q := 154) dX7_kite_151 rfl rfl hg (fun hg => ?_) (fun hg => ?_)
      · refine ev_iconst (v := 0) (q := 159) dX7_kite_158 mci_0 rfl ?_
        refine ev_wk (loc' := [some (.ref _), some (.int _), some (.int _), some (.int _), some (.int _), none, none, some (.int _), some (.int _), some (.int _), none]) ⟨rfl, rfl, rfl, rfl, rfl, rfl, rfl, rfl, trivial⟩ ?_
        exact r_X7_kite_159 ih _ _ _ _ _ _ _ _ _ _ _ hg hk
      · refine ev_iconst (v := 1) (q := 155) dX7_kite_154 mci_1 rfl ?_
        refine ev_goto (q := 159) dX7_kite_155 rfl ?_
        refine ev_wk (loc' := [some (.ref _), some (.int _), some (.int _), some (.int _), some (.int _), none, none, some (.int _), some (.int _), some (.int _), none]) ⟨rfl, rfl, rfl, rfl, rfl, rfl, rfl, rfl, trivial⟩ ?_
        exact r_X7_kite_159 ih _ _ _ _ _ _ _ _ _ _ _ hg hk
def g_X7_kite (x1 : Int32) (x2 : Int32) (x3 : Int32) (x4 : Int32) (f : mj_I) : Option (Int32 × mj_I) :=
  if (f 0 4) = 0 then
   some (((-1000002 : Int32), f))
  else
   if (g_X7_isRow x1) = 0 then
    some (((-1000001 : Int32), f))
   else
    if (g_X7_in (x3).toInt64 (1 : Int64) (12 : Int64)) = 0 then
     some (((-1000001 : Int32), f))
    else
     if (g_X7_in (x4).toInt64 (0 : Int64) (1 : Int64)) = 0 then
      some (((-1000001 : Int32), f))
     else
      (g_X7_lacks x1 x2 x3 f).bind (fun o_4 =>
      if o_4.1 < 0 then
       some ((o_4.1, o_4.2))
      else
       (g_X7_kite_71 mj_fuel x1 x2 x3 x4 (0 : Int32) (-1000000 : Int32) (11 : Int32) o_4.2).bind (fun q_5 =>
       if x4 = 0 then
        mj_lt (g_X7_well q_5.1 q_5.2.2) (fun o_6 =>
        some ((o_6.1, o_6.2)))
       else
        mj_lt (g_X7_well q_5.2.1 q_5.2.2) (fun o_7 =>
        some ((o_7.1, o_7.2)))))
theorem r_X7_kite {x1 : Int32} {x2 : Int32} {x3 : Int32} {x4 : Int32} {f : mj_I} {g : mj_L} {o : Int32 × mj_I} (hg : g_X7_kite x1 x2 x3 x4 f = some o) : mj_Sp jX7_kite my_S [.ref 0, .int x1, .int x2, .int x3, .int x4] f g (fun v f' g' => some (.int o.1) = v ∧ o.2 = f' ∧ g = g') := by
  refine mj_sp 6 (by decide +kernel) rfl rfl (fun _ _ => Nat.le_of_ble_eq_true rfl) ?_
  show mj_Ev jX7_kite 0 [some (.ref 0), some (.int x1), some (.int x2), some (.int x3), some (.int x4), none, none, none, none, none, none] [] my_S f g _
  unfold g_X7_kite at hg
  refine ev_aload_n (q := 1) dX7_kite_0 rfl rfl ?_
  refine ev_getfI (q := 4) mw_f_RX7_154 (by decide) (by decide) rfl dX7_kite_1 rfl ?_
  refine ev_if_ne (t := 10) (q := 7) dX7_kite_4 rfl rfl hg (fun hg => ?_) (fun hg => ?_)
  · refine ev_ldc (q := 9) mw_c_RX7_193 dX7_kite_7 rfl ?_
    obtain rfl := Option.some.inj hg
    exact ev_iret dX7_kite_9 rfl ⟨rfl, rfl, rfl⟩
  · refine ev_iload_n (q := 11) dX7_kite_10 rfl rfl ?_
    refine ev_callS (q := 14) kX7_isRow mw_t_X7_isRow mw_m_RX7_64 (r_X7_isRow rfl) rfl rfl (Nat.le_of_ble_eq_true rfl) (by decide) dX7_kite_11 rfl (fun v fv gv hp => ?_)
    obtain ⟨rfl, rfl, rfl, hr_1⟩ := hp
    refine ev_if_eq (t := 40) (q := 17) dX7_kite_14 rfl rfl hg (fun hg => ?_) (fun hg => ?_)
    · refine ev_ldc (q := 42) mw_c_RX7_70 dX7_kite_40 rfl ?_
      obtain rfl := Option.some.inj hg
      exact ev_iret dX7_kite_42 rfl ⟨rfl, rfl, rfl⟩
    · refine ev_iload_n (q := 18) dX7_kite_17 rfl rfl ?_
      refine ev_i2l (q := 19) dX7_kite_18 rfl ?_
      refine ev_lconst (v := 1) (q := 20) dX7_kite_19 mcl_1 rfl ?_
      refine ev_ldc2 (q := 23) mw_c_RX7_243 dX7_kite_20 rfl ?_
      refine ev_callS (q := 26) kX7_in mw_t_X7_in mw_m_RX7_60 (r_X7_in rfl) rfl rfl (Nat.le_of_ble_eq_true rfl) (by decide) dX7_kite_23 rfl (fun v fv gv hp => ?_)
      obtain ⟨rfl, rfl, rfl, hr_2⟩ := hp
      refine ev_if_eq (t := 40) (q := 29) dX7_kite_26 rfl rfl hg (fun hg => ?_) (fun hg => ?_)
      · refine ev_ldc (q := 42) mw_c_RX7_70 dX7_kite_40 rfl ?_
        obtain rfl := Option.some.inj hg
        exact ev_iret dX7_kite_42 rfl ⟨rfl, rfl, rfl⟩
      · refine ev_iload (q := 31) dX7_kite_29 rfl rfl ?_
        refine ev_i2l (q := 32) dX7_kite_31 rfl ?_
        refine ev_lconst (v := 0) (q := 33) dX7_kite_32 mcl_0 rfl ?_
        refine ev_lconst (v := 1) (q := 34) dX7_kite_33 mcl_1 rfl ?_
        refine ev_callS (q := 37) kX7_in mw_t_X7_in mw_m_RX7_60 (r_X7_in rfl) rfl rfl (Nat.le_of_ble_eq_true rfl) (by decide) dX7_kite_34 rfl (fun v fv gv hp => ?_)
        obtain ⟨rfl, rfl, rfl, hr_3⟩ := hp
        refine ev_if_ne (t := 43) (q := 40) dX7_kite_37 rfl rfl hg (fun hg => ?_) (fun hg => ?_)
        · refine ev_ldc (q := 42) mw_c_RX7_70 dX7_kite_40 rfl ?_
          obtain rfl := Option.some.inj hg
          exact ev_iret dX7_kite_42 rfl ⟨rfl, rfl, rfl⟩
        · refine ev_aload_n (q := 44) dX7_kite_43 rfl rfl ?_
          refine ev_iload_n (q := 45) dX7_kite_44 rfl rfl ?_
          refine ev_iload_n (q := 46) dX7_kite_45 rfl rfl ?_
          refine ev_iload_n (q := 47) dX7_kite_46 rfl rfl ?_
          obtain ⟨o_4, ho_4, hg⟩ := mj_bd hg
          refine ev_callV (q := 50) kX7_lacks mw_i_X7_lacks mw_s_X7_lacks mw_m_RX7_245 rfl rfl (r_X7_lacks ho_4) rfl rfl (Nat.le_of_ble_eq_true rfl) (by decide) dX7_kite_47 rfl (fun v fv gv hp => ?_)
          obtain ⟨rfl, rfl, rfl⟩ := hp
          refine ev_istore (q := 52) (loc' := [some (.ref _), some (.int _), some (.int _), some (.int _), some (.int _), some (.int _), none, none, none, none, none]) dX7_kite_50 (by decide) rfl rfl ?_
          refine ev_iload (q := 54) dX7_kite_52 rfl rfl ?_
          refine ev_if_ge (t := 60) (q := 57) dX7_kite_54 rfl rfl hg (fun hg => ?_) (fun hg => ?_)
          · refine ev_iload (q := 59) dX7_kite_57 rfl rfl ?_
            obtain rfl := Option.some.inj hg
            exact ev_iret dX7_kite_59 rfl ⟨rfl, rfl, rfl⟩
          · refine ev_iconst (v := 0) (q := 61) dX7_kite_60 mci_0 rfl ?_
            refine ev_istore (q := 63) (loc' := [some (.ref _), some (.int _), some (.int _), some (.int _), some (.int _), some (.int _), some (.int _), none, none, none, none]) dX7_kite_61 (by decide) rfl rfl ?_
            refine ev_ldc (q := 65) mw_c_RX7_237 dX7_kite_63 rfl ?_
            refine ev_istore (q := 67) (loc' := [some (.ref _), some (.int _), some (.int _), some (.int _), some (.int _), some (.int _), some (.int _), some (.int _), none, none, none]) dX7_kite_65 (by decide) rfl rfl ?_
            refine ev_bipush (v := 11) (q := 69) dX7_kite_67 mcb_11 rfl ?_
            refine ev_istore (q := 71) (loc' := [some (.ref _), some (.int _), some (.int _), some (.int _), some (.int _), some (.int _), some (.int _), some (.int _), some (.int _), none, none]) dX7_kite_69 (by decide) rfl rfl ?_
            obtain ⟨q_5, hq_5, hg⟩ := mj_bd hg
            refine ev_wk (loc' := [some (.ref _), some (.int _), some (.int _), some (.int _), some (.int _), none, some (.int _), some (.int _), some (.int _), none, none]) ⟨rfl, rfl, rfl, rfl, rfl, rfl, rfl, rfl, trivial⟩ ?_
            refine r_X7_kite_71 mj_fuel _ _ _ _ _ _ _ _ _ hq_5 ?_
            refine ev_aload_n (q := 183) dX7_kite_182 rfl rfl ?_
            refine ev_iload (q := 185) dX7_kite_183 rfl rfl ?_
            refine ev_if_ne (t := 193) (q := 188) dX7_kite_185 rfl rfl hg (fun hg => ?_) (fun hg => ?_)
            · refine ev_iload (q := 190) dX7_kite_188 rfl rfl ?_
              refine ev_goto (q := 195) dX7_kite_190 rfl ?_
              obtain ⟨o_6, ho_6, hg⟩ := mj_lte hg
              refine ev_callV (q := 198) kX7_well mw_i_X7_well mw_s_X7_well mw_m_RX7_75 rfl rfl (r_X7_well ho_6) rfl rfl (Nat.le_of_ble_eq_true rfl) (by decide) dX7_kite_195 rfl (fun v fv gv hp => ?_)
              obtain ⟨rfl, rfl, rfl⟩ := hp
              obtain rfl := Option.some.inj hg
              exact ev_iret dX7_kite_198 rfl ⟨rfl, rfl, rfl⟩
            · refine ev_iload (q := 195) dX7_kite_193 rfl rfl ?_
              obtain ⟨o_7, ho_7, hg⟩ := mj_lte hg
              refine ev_callV (q := 198) kX7_well mw_i_X7_well mw_s_X7_well mw_m_RX7_75 rfl rfl (r_X7_well ho_7) rfl rfl (Nat.le_of_ble_eq_true rfl) (by decide) dX7_kite_195 rfl (fun v fv gv hp => ?_)
              obtain ⟨rfl, rfl, rfl⟩ := hp
              obtain rfl := Option.some.inj hg
              exact ev_iret dX7_kite_198 rfl ⟨rfl, rfl, rfl⟩
def g_X7_common_6 : Nat → Int64 → Int64 → Option (Int64)
  | 0, _, _ => none
  | n + 1, y4, y6 =>
    if (lg_cmp y6 (0 : Int64)) = 0 then
     some (y4)
    else
     if mj_nzl y6 = true then
     mj_lt ((y4 - y4 / y6 * y6)) (fun w_3 =>
      g_X7_common_6 n y6 w_3)
     else none
theorem r_X7_common_6 {f : mj_I} {g : mj_L} {post : Option Value → mj_I → mj_L → Prop} : ∀ (n : Nat) (y4 : Int64) (y6 : Int64) (o : Int64), g_X7_common_6 n y4 y6 = some o → mj_Ev jX7_common 31 [none, none, none, none, some (.long o), none, none, none, none, none] [] my_S f g post → mj_Ev jX7_common 6 [none, none, none, none, some (.long y4), none, some (.long y6), none, none, none] [] my_S f g post := by
  intro n
  induction n with
  | zero =>
    intro y4 y6 o hg hk
    cases hg
  | succ n ih =>
    intro y4 y6 o hg hk
    unfold g_X7_common_6 at hg
    refine ev_lload (q := 8) dX7_common_6 rfl rfl ?_
    refine ev_lconst (v := 0) (q := 9) dX7_common_8 mcl_0 rfl ?_
    refine ev_lcmp (q := 10) dX7_common_9 rfl ?_
    refine ev_if_eq (t := 31) (q := 13) dX7_common_10 rfl rfl hg (fun hg => ?_) (fun hg => ?_)
    · obtain rfl := Option.some.inj hg
      refine ev_wk (loc' := [none, none, none, none, some (.long _), none, none, none, none, none]) ⟨rfl, trivial⟩ ?_
      exact hk
    · refine ev_lload (q := 15) dX7_common_13 rfl rfl ?_
      refine ev_lload (q := 17) dX7_common_15 rfl rfl ?_
      obtain ⟨hn_2, hg⟩ := mj_gd hg
      refine ev_lrem (q := 18) dX7_common_17 (mj_nzl_ne hn_2) rfl ?_
      refine ev_nml (fun w_3 hw_3 => ?_)
      have hg := mj_lt_el hw_3 hg
      refine ev_lstore (q := 20) (loc' := [none, none, none, none, some (.long _), none, some (.long _), none, some (.long _), none]) dX7_common_18 (by decide) rfl rfl ?_
      refine ev_lload (q := 22) dX7_common_20 rfl rfl ?_
      refine ev_lstore (q := 24) (loc' := [none, none, none, none, some (.long _), none, some (.long _), none, some (.long _), none]) dX7_common_22 (by decide) rfl rfl ?_
      refine ev_lload (q := 26) dX7_common_24 rfl rfl ?_
      refine ev_lstore (q := 28) (loc' := [none, none, none, none, some (.long _), none, some (.long _), none, some (.long _), none]) dX7_common_26 (by decide) rfl rfl ?_
      refine ev_goto (q := 6) dX7_common_28 rfl ?_
      refine ev_wk (loc' := [none, none, none, none, some (.long _), none, some (.long _), none, none, none]) ⟨rfl, rfl, trivial⟩ ?_
      exact ih _ _ _ hg hk
def g_X7_common (y0 : Int64) (y2 : Int64) : Option (Int64) :=
  (g_X7_common_6 mj_fuel y0 y2).bind (fun q_1 =>
  some (q_1))
theorem r_X7_common {y0 : Int64} {y2 : Int64} {f : mj_I} {g : mj_L} {o : Int64} (hg : g_X7_common y0 y2 = some o) : mj_Sp jX7_common my_S [.long y0, .long y2] f g (fun v f' g' => some (.long o) = v ∧ f = f' ∧ g = g') := by
  refine mj_sp 6 (by decide +kernel) rfl rfl (fun _ _ => Nat.le_of_ble_eq_true rfl) ?_
  show mj_Ev jX7_common 0 [some (.long y0), none, some (.long y2), none, none, none, none, none, none, none] [] my_S f g _
  unfold g_X7_common at hg
  refine ev_lload_n (q := 1) dX7_common_0 rfl rfl ?_
  refine ev_lstore (q := 3) (loc' := [some (.long _), none, some (.long _), none, some (.long _), none, none, none, none, none]) dX7_common_1 (by decide) rfl rfl ?_
  refine ev_lload_n (q := 4) dX7_common_3 rfl rfl ?_
  refine ev_lstore (q := 6) (loc' := [some (.long _), none, some (.long _), none, some (.long _), none, some (.long _), none, none, none]) dX7_common_4 (by decide) rfl rfl ?_
  obtain ⟨q_1, hq_1, hg⟩ := mj_bd hg
  refine ev_wk (loc' := [none, none, none, none, some (.long _), none, some (.long _), none, none, none]) ⟨rfl, rfl, trivial⟩ ?_
  refine r_X7_common_6 mj_fuel _ _ _ hq_1 ?_
  refine ev_lload (q := 33) dX7_common_31 rfl rfl ?_
  obtain rfl := Option.some.inj hg
  exact ev_lret dX7_common_33 rfl ⟨rfl, rfl, rfl⟩
def g_X7_tuesday_79 : Nat → Int32 → Int32 → Int32 → Int32 → Int32 → Int32 → Int32 → Int32 → mj_I → Option (Int32)
  | 0, _, _, _, _, _, _, _, _, _ => none
  | n + 1, x1, x2, x3, x4, x5, x6, x7, x8, f =>
    if x8 < x2 then
     if mj_in ((51 : Int32) + x1) 82 = true then
     if mj_in ((61 : Int32) + x1) 82 = true then
      (g_X7_drifts (f 4 (ix ((51 : Int32) + x1))) x7 (f 4 (ix ((61 : Int32) + x1))) (((f 4 46) + x6) + x8) f).bind (fun o_19 =>
       g_X7_tuesday_79 n x1 x2 x3 x4 x5 x6 o_19 (x8 + (1 : Int32)) f)
      else none
     else none
    else
     some (x7)
theorem r_X7_tuesday_79 {f : mj_I} {g : mj_L} {post : Option Value → mj_I → mj_L → Prop} : ∀ (n : Nat) (x1 : Int32) (x2 : Int32) (x3 : Int32) (x4 : Int32) (x5 : Int32) (x6 : Int32) (x7 : Int32) (x8 : Int32) (o : Int32), g_X7_tuesday_79 n x1 x2 x3 x4 x5 x6 x7 x8 f = some o → mj_Ev jX7_tuesday 130 [some (.ref 0), some (.int x1), some (.int x2), some (.int x3), some (.int x4), some (.int x5), some (.int x6), some (.int o), none] [] my_S f g post → mj_Ev jX7_tuesday 79 [some (.ref 0), some (.int x1), some (.int x2), some (.int x3), some (.int x4), some (.int x5), some (.int x6), some (.int x7), some (.int x8)] [] my_S f g post := by
  intro n
  induction n with
  | zero =>
    intro x1 x2 x3 x4 x5 x6 x7 x8 o hg hk
    cases hg
  | succ n ih =>
    intro x1 x2 x3 x4 x5 x6 x7 x8 o hg hk
    unfold g_X7_tuesday_79 at hg
    refine ev_iload (q := 81) dX7_tuesday_79 rfl rfl ?_
    refine ev_iload_n (q := 82) dX7_tuesday_81 rfl rfl ?_
    refine ev_icmp_ge (t := 130) (q := 85) dX7_tuesday_82 rfl rfl hg (fun hg => ?_) (fun hg => ?_)
    · refine ev_aload_n (q := 86) dX7_tuesday_85 rfl rfl ?_
      refine ev_aload_n (q := 87) dX7_tuesday_86 rfl rfl ?_
      refine ev_getfR (q := 90) mw_f_RX7_19 rfl rfl dX7_tuesday_87 rfl ?_
      refine ev_bipush (v := 51) (q := 92) dX7_tuesday_90 mcb_51 rfl ?_
      refine ev_iload_n (q := 93) dX7_tuesday_92 rfl rfl ?_
      refine ev_iadd (q := 94) dX7_tuesday_93 rfl ?_
      obtain ⟨hi_16, hg⟩ := mj_gd hg
      refine ev_ialdk (q := 95) rfl hi_16 rfl dX7_tuesday_94 rfl ?_
      refine ev_iload (q := 97) dX7_tuesday_95 rfl rfl ?_
      refine ev_aload_n (q := 98) dX7_tuesday_97 rfl rfl ?_
      refine ev_getfR (q := 101) mw_f_RX7_19 rfl rfl dX7_tuesday_98 rfl ?_
      refine ev_bipush (v := 61) (q := 103) dX7_tuesday_101 mcb_61 rfl ?_
      refine ev_iload_n (q := 104) dX7_tuesday_103 rfl rfl ?_
      refine ev_iadd (q := 105) dX7_tuesday_104 rfl ?_
      obtain ⟨hi_17, hg⟩ := mj_gd hg
      refine ev_ialdk (q := 106) rfl hi_17 rfl dX7_tuesday_105 rfl ?_
      refine ev_aload_n (q := 107) dX7_tuesday_106 rfl rfl ?_
      refine ev_getfR (q := 110) mw_f_RX7_19 rfl rfl dX7_tuesday_107 rfl ?_
      refine ev_bipush (v := 46) (q := 112) dX7_tuesday_110 mcb_46 rfl ?_
      refine ev_ialdk (k := 46) (q := 113) rfl (by decide) mcx_46 dX7_tuesday_112 rfl ?_
      refine ev_iload (q := 115) dX7_tuesday_113 rfl rfl ?_
      refine ev_iadd (q := 116) dX7_tuesday_115 rfl ?_
      refine ev_iload (q := 118) dX7_tuesday_116 rfl rfl ?_
      refine ev_iadd (q := 119) dX7_tuesday_118 rfl ?_
      obtain ⟨o_19, ho_19, hg⟩ := mj_bd hg
      refine ev_callV (q := 122) kX7_drifts mw_i_X7_drifts mw_s_X7_drifts mw_m_RX7_167 rfl rfl (r_X7_drifts ho_19) rfl rfl (Nat.le_of_ble_eq_true rfl) (by decide) dX7_tuesday_119 rfl (fun v fv gv hp => ?_)
      obtain ⟨rfl, rfl, rfl⟩ := hp
      refine ev_istore (q := 124) (loc' := [some (.ref _), some (.int _), some (.int _), some (.int _), some (.int _), some (.int _), some (.int _), some (.int _), some (.int _)]) dX7_tuesday_122 (by decide) rfl rfl ?_
      refine ev_iinc (v := 1) (q := 127) (loc' := [some (.ref _), some (.int _), some (.int _), some (.int _), some (.int _), some (.int _), some (.int _), some (.int _), some (.int _)]) dX7_tuesday_124 rfl (by decide) mci_1 rfl rfl ?_
      refine ev_goto (q := 79) dX7_tuesday_127 rfl ?_
      exact ih _ _ _ _ _ _ _ _ _ hg hk
    · obtain rfl := Option.some.inj hg
      refine ev_wk (loc' := [some (.ref _), some (.int _), some (.int _), some (.int _), some (.int _), some (.int _), some (.int _), some (.int _), none]) ⟨rfl, rfl, rfl, rfl, rfl, rfl, rfl, rfl, trivial⟩ ?_
      exact hk
def g_X7_tuesday_58 : Nat → Int32 → Int32 → Int32 → Int32 → Int32 → Int32 → mj_I → Option (Int32)
  | 0, _, _, _, _, _, _, _ => none
  | n + 1, x1, x2, x3, x4, x5, x6, f =>
    if x6 < (6 : Int32) then
     if mj_in ((56 : Int32) + x1) 82 = true then
     mj_lt ((f 4 (ix ((56 : Int32) + x1)))) (fun u_12 =>
      (g_X7_tuesday_79 mj_fuel x1 x2 x3 x4 x5 x6 u_12 (0 : Int32) f).bind (fun q_13 =>
      if q_13 = x3 then
       mj_lt ((x5 + (1 : Int32))) (fun u_14 =>
       g_X7_tuesday_58 n x1 x2 x3 x4 u_14 (x6 + (1 : Int32)) f)
      else
       mj_lt ((x5 + (0 : Int32))) (fun u_15 =>
       g_X7_tuesday_58 n x1 x2 x3 x4 u_15 (x6 + (1 : Int32)) f)))
     else none
    else
     some (x5)
theorem r_X7_tuesday_58 {f : mj_I} {g : mj_L} {post : Option Value → mj_I → mj_L → Prop} : ∀ (n : Nat) (x1 : Int32) (x2 : Int32) (x3 : Int32) (x4 : Int32) (x5 : Int32) (x6 : Int32) (o : Int32), g_X7_tuesday_58 n x1 x2 x3 x4 x5 x6 f = some o → mj_Ev jX7_tuesday 152 [none, none, none, none, some (.int x4), some (.int o), none, none, none] [] my_S f g post → mj_Ev jX7_tuesday 58 [some (.ref 0), some (.int x1), some (.int x2), some (.int x3), some (.int x4), some (.int x5), some (.int x6), none, none] [] my_S f g post := by
  intro n
  induction n with
  | zero =>
    intro x1 x2 x3 x4 x5 x6 o hg hk
    cases hg
  | succ n ih =>
    intro x1 x2 x3 x4 x5 x6 o hg hk
    unfold g_X7_tuesday_58 at hg
    refine ev_iload (q := 60) dX7_tuesday_58 rfl rfl ?_
    refine ev_bipush (v := 6) (q := 62) dX7_tuesday_60 mcb_6 rfl ?_
    refine ev_icmp_ge (t := 152) (q := 65) dX7_tuesday_62 rfl rfl hg (fun hg => ?_) (fun hg => ?_)
    · refine ev_aload_n (q := 66) dX7_tuesday_65 rfl rfl ?_
      refine ev_getfR (q := 69) mw_f_RX7_19 rfl rfl dX7_tuesday_66 rfl ?_
      refine ev_bipush (v := 56) (q := 71) dX7_tuesday_69 mcb_56 rfl ?_
      refine ev_iload_n (q := 72) dX7_tuesday_71 rfl rfl ?_
      refine ev_iadd (q := 73) dX7_tuesday_72 rfl ?_
      obtain ⟨hi_11, hg⟩ := mj_gd hg
      refine ev_ialdk (q := 74) rfl hi_11 rfl dX7_tuesday_73 rfl ?_
      refine ev_nmi (fun u_12 hu_12 => ?_)
      have hg := mj_lt_el hu_12 hg
      refine ev_istore (q := 76) (loc' := [some (.ref _), some (.int _), some (.int _), some (.int _), some (.int _), some (.int _), some (.int _), some (.int _), none]) dX7_tuesday_74 (by decide) rfl rfl ?_
      refine ev_iconst (v := 0) (q := 77) dX7_tuesday_76 mci_0 rfl ?_
      refine ev_istore (q := 79) (loc' := [some (.ref _), some (.int _), some (.int _), some (.int _), some (.int _), some (.int _), some (.int _), some (.int _), some (.int _)]) dX7_tuesday_77 (by decide) rfl rfl ?_
      obtain ⟨q_13, hq_13, hg⟩ := mj_bd hg
      refine r_X7_tuesday_79 mj_fuel _ _ _ _ _ _ _ _ _ hq_13 ?_
      refine ev_iload (q := 132) dX7_tuesday_130 rfl rfl ?_
      refine ev_iload (q := 134) dX7_tuesday_132 rfl rfl ?_
      refine ev_iload_n (q := 135) dX7_tuesday_134 rfl rfl ?_
      refine ev_icmp_ne (t := 142) (q := 138) dX7_tuesday_135 rfl rfl hg (fun hg => ?_) (fun hg => ?_)
      · refine ev_iconst (v := 1) (q := 139) dX7_tuesday_138 mci_1 rfl ?_
        refine ev_goto (q := 143) dX7_tuesday_139 rfl ?_
        refine ev_iadd (q := 144) dX7_tuesday_143 rfl ?_
        refine ev_nmi (fun u_14 hu_14 => ?_)
        have hg := mj_lt_el hu_14 hg
        refine ev_istore (q := 146) (loc' := [some (.ref _), some (.int _), some (.int _), some (.int _), some (.int _), some (.int _), some (.int _), some (.int _), none]) dX7_tuesday_144 (by decide) rfl rfl ?_
        refine ev_iinc (v := 1) (q := 149) (loc' := [some (.ref _), some (.int _), some (.int _), some (.int _), some (.int _), some (.int _), some (.int _), some (.int _), none]) dX7_tuesday_146 rfl (by decide) mci_1 rfl rfl ?_
        refine ev_goto (q := 58) dX7_tuesday_149 rfl ?_
        refine ev_wk (loc' := [some (.ref _), some (.int _), some (.int _), some (.int _), some (.int _), some (.int _), some (.int _), none, none]) ⟨rfl, rfl, rfl, rfl, rfl, rfl, rfl, trivial⟩ ?_
        exact ih _ _ _ _ _ _ _ hg hk
      · refine ev_iconst (v := 0) (q := 143) dX7_tuesday_142 mci_0 rfl ?_
        refine ev_iadd (q := 144) dX7_tuesday_143 rfl ?_
        refine ev_nmi (fun u_15 hu_15 => ?_)
        have hg := mj_lt_el hu_15 hg
        refine ev_istore (q := 146) (loc' := [some (.ref _), some (.int _), some (.int _), some (.int _), some (.int _), some (.int _), some (.int _), some (.int _), none]) dX7_tuesday_144 (by decide) rfl rfl ?_
        refine ev_iinc (v := 1) (q := 149) (loc' := [some (.ref _), some (.int _), some (.int _), some (.int _), some (.int _), some (.int _), some (.int _), some (.int _), none]) dX7_tuesday_146 rfl (by decide) mci_1 rfl rfl ?_
        refine ev_goto (q := 58) dX7_tuesday_149 rfl ?_
        refine ev_wk (loc' := [some (.ref _), some (.int _), some (.int _), some (.int _), some (.int _), some (.int _), some (.int _), none, none]) ⟨rfl, rfl, rfl, rfl, rfl, rfl, rfl, trivial⟩ ?_
        exact ih _ _ _ _ _ _ _ hg hk
    · obtain rfl := Option.some.inj hg
      refine ev_wk (loc' := [none, none, none, none, some (.int _), some (.int _), none, none, none]) ⟨rfl, rfl, trivial⟩ ?_
      exact hk
def g_X7_tuesday (x1 : Int32) (x2 : Int32) (x3 : Int32) (x4 : Int32) (f : mj_I) : Option (Int32) :=
  if (g_X7_isCloud x1 f) = 0 then
   some ((-1000001 : Int32))
  else
   if (g_X7_in (x2).toInt64 (0 : Int64) (60 : Int64)) = 0 then
    some ((-1000001 : Int32))
   else
    if (g_X7_isCell x3) = 0 then
     some ((-1000001 : Int32))
    else
     if (g_X7_in (x4).toInt64 (0 : Int64) (1 : Int64)) = 0 then
      some ((-1000001 : Int32))
     else
      (g_X7_isThere x1 f).bind (fun o_5 =>
      if o_5 = 0 then
       some ((-1000002 : Int32))
      else
       (g_X7_tuesday_58 mj_fuel x1 x2 x3 x4 (0 : Int32) (0 : Int32) f).bind (fun q_6 =>
       (g_X7_common (q_6).toInt64 (6 : Int64)).bind (fun o_7 =>
       mj_lt ((o_7).toInt32) (fun u_8 =>
       if x4 = 0 then
        if mj_nz u_8 = true then
        some ((q_6 / u_8))
        else none
       else
        if mj_nz u_8 = true then
        some (((6 : Int32) / u_8))
        else none))))
theorem r_X7_tuesday {x1 : Int32} {x2 : Int32} {x3 : Int32} {x4 : Int32} {f : mj_I} {g : mj_L} {o : Int32} (hg : g_X7_tuesday x1 x2 x3 x4 f = some o) : mj_Sp jX7_tuesday my_S [.ref 0, .int x1, .int x2, .int x3, .int x4] f g (fun v f' g' => some (.int o) = v ∧ f = f' ∧ g = g') := by
  refine mj_sp 4 (by decide +kernel) rfl rfl (fun _ _ => Nat.le_of_ble_eq_true rfl) ?_
  show mj_Ev jX7_tuesday 0 [some (.ref 0), some (.int x1), some (.int x2), some (.int x3), some (.int x4), none, none, none, none] [] my_S f g _
  unfold g_X7_tuesday at hg
  refine ev_aload_n (q := 1) dX7_tuesday_0 rfl rfl ?_
  refine ev_iload_n (q := 2) dX7_tuesday_1 rfl rfl ?_
  refine ev_callV (q := 5) kX7_isCloud mw_i_X7_isCloud mw_s_X7_isCloud mw_m_RX7_202 rfl rfl (r_X7_isCloud rfl) rfl rfl (Nat.le_of_ble_eq_true rfl) (by decide) dX7_tuesday_2 rfl (fun v fv gv hp => ?_)
  obtain ⟨rfl, rfl, rfl, hr_1⟩ := hp
  refine ev_if_eq (t := 38) (q := 8) dX7_tuesday_5 rfl rfl hg (fun hg => ?_) (fun hg => ?_)
  · refine ev_ldc (q := 40) mw_c_RX7_70 dX7_tuesday_38 rfl ?_
    obtain rfl := Option.some.inj hg
    exact ev_iret dX7_tuesday_40 rfl ⟨rfl, rfl, rfl⟩
  · refine ev_iload_n (q := 9) dX7_tuesday_8 rfl rfl ?_
    refine ev_i2l (q := 10) dX7_tuesday_9 rfl ?_
    refine ev_lconst (v := 0) (q := 11) dX7_tuesday_10 mcl_0 rfl ?_
    refine ev_ldc2 (q := 14) mw_c_RX7_224 dX7_tuesday_11 rfl ?_
    refine ev_callS (q := 17) kX7_in mw_t_X7_in mw_m_RX7_60 (r_X7_in rfl) rfl rfl (Nat.le_of_ble_eq_true rfl) (by decide) dX7_tuesday_14 rfl (fun v fv gv hp => ?_)
    obtain ⟨rfl, rfl, rfl, hr_2⟩ := hp
    refine ev_if_eq (t := 38) (q := 20) dX7_tuesday_17 rfl rfl hg (fun hg => ?_) (fun hg => ?_)
    · refine ev_ldc (q := 40) mw_c_RX7_70 dX7_tuesday_38 rfl ?_
      obtain rfl := Option.some.inj hg
      exact ev_iret dX7_tuesday_40 rfl ⟨rfl, rfl, rfl⟩
    · refine ev_iload_n (q := 21) dX7_tuesday_20 rfl rfl ?_
      refine ev_callS (q := 24) kX7_isCell mw_t_X7_isCell mw_m_RX7_216 (r_X7_isCell rfl) rfl rfl (Nat.le_of_ble_eq_true rfl) (by decide) dX7_tuesday_21 rfl (fun v fv gv hp => ?_)
      obtain ⟨rfl, rfl, rfl, hr_3⟩ := hp
      refine ev_if_eq (t := 38) (q := 27) dX7_tuesday_24 rfl rfl hg (fun hg => ?_) (fun hg => ?_)
      · refine ev_ldc (q := 40) mw_c_RX7_70 dX7_tuesday_38 rfl ?_
        obtain rfl := Option.some.inj hg
        exact ev_iret dX7_tuesday_40 rfl ⟨rfl, rfl, rfl⟩
      · refine ev_iload (q := 29) dX7_tuesday_27 rfl rfl ?_
        refine ev_i2l (q := 30) dX7_tuesday_29 rfl ?_
        refine ev_lconst (v := 0) (q := 31) dX7_tuesday_30 mcl_0 rfl ?_
        refine ev_lconst (v := 1) (q := 32) dX7_tuesday_31 mcl_1 rfl ?_
        refine ev_callS (q := 35) kX7_in mw_t_X7_in mw_m_RX7_60 (r_X7_in rfl) rfl rfl (Nat.le_of_ble_eq_true rfl) (by decide) dX7_tuesday_32 rfl (fun v fv gv hp => ?_)
        obtain ⟨rfl, rfl, rfl, hr_4⟩ := hp
        refine ev_if_ne (t := 41) (q := 38) dX7_tuesday_35 rfl rfl hg (fun hg => ?_) (fun hg => ?_)
        · refine ev_ldc (q := 40) mw_c_RX7_70 dX7_tuesday_38 rfl ?_
          obtain rfl := Option.some.inj hg
          exact ev_iret dX7_tuesday_40 rfl ⟨rfl, rfl, rfl⟩
        · refine ev_aload_n (q := 42) dX7_tuesday_41 rfl rfl ?_
          refine ev_iload_n (q := 43) dX7_tuesday_42 rfl rfl ?_
          obtain ⟨o_5, ho_5, hg⟩ := mj_bd hg
          refine ev_callV (q := 46) kX7_isThere mw_i_X7_isThere mw_s_X7_isThere mw_m_RX7_177 rfl rfl (r_X7_isThere ho_5) rfl rfl (Nat.le_of_ble_eq_true rfl) (by decide) dX7_tuesday_43 rfl (fun v fv gv hp => ?_)
          obtain ⟨rfl, rfl, rfl, hr_5⟩ := hp
          refine ev_if_ne (t := 52) (q := 49) dX7_tuesday_46 rfl rfl hg (fun hg => ?_) (fun hg => ?_)
          · refine ev_ldc (q := 51) mw_c_RX7_193 dX7_tuesday_49 rfl ?_
            obtain rfl := Option.some.inj hg
            exact ev_iret dX7_tuesday_51 rfl ⟨rfl, rfl, rfl⟩
          · refine ev_iconst (v := 0) (q := 53) dX7_tuesday_52 mci_0 rfl ?_
            refine ev_istore (q := 55) (loc' := [some (.ref _), some (.int _), some (.int _), some (.int _), some (.int _), some (.int _), none, none, none]) dX7_tuesday_53 (by decide) rfl rfl ?_
            refine ev_iconst (v := 0) (q := 56) dX7_tuesday_55 mci_0 rfl ?_
            refine ev_istore (q := 58) (loc' := [some (.ref _), some (.int _), some (.int _), some (.int _), some (.int _), some (.int _), some (.int _), none, none]) dX7_tuesday_56 (by decide) rfl rfl ?_
            obtain ⟨q_6, hq_6, hg⟩ := mj_bd hg
            refine r_X7_tuesday_58 mj_fuel _ _ _ _ _ _ _ hq_6 ?_
            refine ev_iload (q := 154) dX7_tuesday_152 rfl rfl ?_
            refine ev_i2l (q := 155) dX7_tuesday_154 rfl ?_
            refine ev_ldc2 (q := 158) mw_c_RX7_253 dX7_tuesday_155 rfl ?_
            obtain ⟨o_7, ho_7, hg⟩ := mj_bd hg
            refine ev_callS (q := 161) kX7_common mw_t_X7_common mw_m_RX7_255 (r_X7_common ho_7) rfl rfl (Nat.le_of_ble_eq_true rfl) (by decide) dX7_tuesday_158 rfl (fun v fv gv hp => ?_)
            obtain ⟨rfl, rfl, rfl⟩ := hp
            refine ev_l2i (q := 162) dX7_tuesday_161 rfl ?_
            refine ev_nmi (fun u_8 hu_8 => ?_)
            have hg := mj_lt_el hu_8 hg
            refine ev_istore (q := 164) (loc' := [none, none, none, none, some (.int _), some (.int _), some (.int _), none, none]) dX7_tuesday_162 (by decide) rfl rfl ?_
            refine ev_iload (q := 166) dX7_tuesday_164 rfl rfl ?_
            refine ev_if_ne (t := 177) (q := 169) dX7_tuesday_166 rfl rfl hg (fun hg => ?_) (fun hg => ?_)
            · refine ev_iload (q := 171) dX7_tuesday_169 rfl rfl ?_
              refine ev_iload (q := 173) dX7_tuesday_171 rfl rfl ?_
              obtain ⟨hn_9, hg⟩ := mj_gd hg
              refine ev_idiv (q := 174) dX7_tuesday_173 (mj_nz_ne hn_9) rfl ?_
              refine ev_goto (q := 182) dX7_tuesday_174 rfl ?_
              obtain rfl := Option.some.inj hg
              exact ev_iret dX7_tuesday_182 rfl ⟨rfl, rfl, rfl⟩
            · refine ev_bipush (v := 6) (q := 179) dX7_tuesday_177 mcb_6 rfl ?_
              refine ev_iload (q := 181) dX7_tuesday_179 rfl rfl ?_
              obtain ⟨hn_10, hg⟩ := mj_gd hg
              refine ev_idiv (q := 182) dX7_tuesday_181 (mj_nz_ne hn_10) rfl ?_
              obtain rfl := Option.some.inj hg
              exact ev_iret dX7_tuesday_182 rfl ⟨rfl, rfl, rfl⟩
def g_X7_findGuards_100 : Nat → Int32 → Int32 → Int64 → Int64 → Int32 → Int32 → mj_I → mj_L → Option (Int64 × Int64 × Int32 × mj_I × mj_L)
  | 0, _, _, _, _, _, _, _, _ => none
  | n + 1, x4, x5, y6, y8, x10, x11, f, g =>
    if x11 < (5 : Int32) then
     if ((x5 >>> (x11 &&& 31)) &&& (1 : Int32)) = (1 : Int32) then
      if mj_in (x4 + x11) 320 = true then
      mj_lt (((y8 * ((f 3 (ix (x4 + x11)))).toInt64) + y6)) (fun w_20 =>
       if mj_in (x4 + x11) 320 = true then
       mj_lt ((y6 * ((f 3 (ix (x4 + x11)))).toInt64)) (fun w_22 =>
        g_X7_findGuards_100 n x4 x5 w_22 w_20 (x10 + (1 : Int32)) (x11 + (1 : Int32)) f g)
       else none)
      else none
     else
      g_X7_findGuards_100 n x4 x5 y6 y8 x10 (x11 + (1 : Int32)) f g
    else
     some ((y6, y8, x10, f, g))
theorem r_X7_findGuards_100 {post : Option Value → mj_I → mj_L → Prop} : ∀ (n : Nat) (x4 : Int32) (x5 : Int32) (y6 : Int64) (y8 : Int64) (x10 : Int32) (x11 : Int32) (f : mj_I) (g : mj_L) (o : Int64 × Int64 × Int32 × mj_I × mj_L), g_X7_findGuards_100 n x4 x5 y6 y8 x10 x11 f g = some o → mj_Ev jX7_findGuards 161 [some (.ref 0), none, none, none, some (.int x4), some (.int x5), some (.long o.1), none, some (.long o.2.1), none, some (.int o.2.2.1), none, none] [] my_S o.2.2.2.1 o.2.2.2.2 post → mj_Ev jX7_findGuards 100 [some (.ref 0), none, none, none, some (.int x4), some (.int x5), some (.long y6), none, some (.long y8), none, some (.int x10), some (.int x11), none] [] my_S f g post := by
  intro n
  induction n with
  | zero =>
    intro x4 x5 y6 y8 x10 x11 f g o hg hk
    cases hg
  | succ n ih =>
    intro x4 x5 y6 y8 x10 x11 f g o hg hk
    unfold g_X7_findGuards_100 at hg
    refine ev_iload (q := 102) dX7_findGuards_100 rfl rfl ?_
    refine ev_iconst (v := 5) (q := 103) dX7_findGuards_102 mci_5 rfl ?_
    refine ev_icmp_ge (t := 161) (q := 106) dX7_findGuards_103 rfl rfl hg (fun hg => ?_) (fun hg => ?_)
    · refine ev_iload (q := 108) dX7_findGuards_106 rfl rfl ?_
      refine ev_iload (q := 110) dX7_findGuards_108 rfl rfl ?_
      refine ev_ishr (q := 111) dX7_findGuards_110 rfl ?_
      refine ev_iconst (v := 1) (q := 112) dX7_findGuards_111 mci_1 rfl ?_
      refine ev_iand (q := 113) dX7_findGuards_112 rfl ?_
      refine ev_iconst (v := 1) (q := 114) dX7_findGuards_113 mci_1 rfl ?_
      refine ev_icmp_ne (t := 155) (q := 117) dX7_findGuards_114 rfl rfl hg (fun hg => ?_) (fun hg => ?_)
      · refine ev_lload (q := 119) dX7_findGuards_117 rfl rfl ?_
        refine ev_aload_n (q := 120) dX7_findGuards_119 rfl rfl ?_
        refine ev_getfR (q := 123) mw_f_RX7_16 rfl rfl dX7_findGuards_120 rfl ?_
        refine ev_iload (q := 125) dX7_findGuards_123 rfl rfl ?_
        refine ev_iload (q := 127) dX7_findGuards_125 rfl rfl ?_
        refine ev_iadd (q := 128) dX7_findGuards_127 rfl ?_
        obtain ⟨hi_19, hg⟩ := mj_gd hg
        refine ev_ialdk (q := 129) rfl hi_19 rfl dX7_findGuards_128 rfl ?_
        refine ev_i2l (q := 130) dX7_findGuards_129 rfl ?_
        refine ev_lmul (q := 131) dX7_findGuards_130 rfl ?_
        refine ev_lload (q := 133) dX7_findGuards_131 rfl rfl ?_
        refine ev_ladd (q := 134) dX7_findGuards_133 rfl ?_
        refine ev_nml (fun w_20 hw_20 => ?_)
        have hg := mj_lt_el hw_20 hg
        refine ev_lstore (q := 136) (loc' := [some (.ref _), none, none, none, some (.int _), some (.int _), some (.long _), none, some (.long _), none, some (.int _), some (.int _), none]) dX7_findGuards_134 (by decide) rfl rfl ?_
        refine ev_lload (q := 138) dX7_findGuards_136 rfl rfl ?_
        refine ev_aload_n (q := 139) dX7_findGuards_138 rfl rfl ?_
        refine ev_getfR (q := 142) mw_f_RX7_16 rfl rfl dX7_findGuards_139 rfl ?_
        refine ev_iload (q := 144) dX7_findGuards_142 rfl rfl ?_
        refine ev_iload (q := 146) dX7_findGuards_144 rfl rfl ?_
        refine ev_iadd (q := 147) dX7_findGuards_146 rfl ?_
        obtain ⟨hi_21, hg⟩ := mj_gd hg
        refine ev_ialdk (q := 148) rfl hi_21 rfl dX7_findGuards_147 rfl ?_
        refine ev_i2l (q := 149) dX7_findGuards_148 rfl ?_
        refine ev_lmul (q := 150) dX7_findGuards_149 rfl ?_
        refine ev_nml (fun w_22 hw_22 => ?_)
        have hg := mj_lt_el hw_22 hg
        refine ev_lstore (q := 152) (loc' := [some (.ref _), none, none, none, some (.int _), some (.int _), some (.long _), none, some (.long _), none, some (.int _), some (.int _), none]) dX7_findGuards_150 (by decide) rfl rfl ?_
        refine ev_iinc (v := 1) (q := 155) (loc' := [some (.ref _), none, none, none, some (.int _), some (.int _), some (.long _), none, some (.long _), none, some (.int _), some (.int _), none]) dX7_findGuards_152 rfl (by decide) mci_1 rfl rfl ?_
        refine ev_iinc (v := 1) (q := 158) (loc' := [some (.ref _), none, none, none, some (.int _), some (.int _), some (.long _), none, some (.long _), none, some (.int _), some (.int _), none]) dX7_findGuards_155 rfl (by decide) mci_1 rfl rfl ?_
        refine ev_goto (q := 100) dX7_findGuards_158 rfl ?_
        exact ih _ _ _ _ _ _ _ _ _ hg hk
      · refine ev_iinc (v := 1) (q := 158) (loc' := [some (.ref _), none, none, none, some (.int _), some (.int _), some (.long _), none, some (.long _), none, some (.int _), some (.int _), none]) dX7_findGuards_155 rfl (by decide) mci_1 rfl rfl ?_
        refine ev_goto (q := 100) dX7_findGuards_158 rfl ?_
        exact ih _ _ _ _ _ _ _ _ _ hg hk
    · obtain rfl := Option.some.inj hg
      refine ev_wk (loc' := [some (.ref _), none, none, none, some (.int _), some (.int _), some (.long _), none, some (.long _), none, some (.int _), none, none]) ⟨rfl, rfl, rfl, rfl, rfl, rfl, trivial⟩ ?_
      exact hk
def g_X7_findGuards_81 : Nat → Int32 → Int32 → mj_I → mj_L → Option (mj_I × mj_L)
  | 0, _, _, _, _ => none
  | n + 1, x4, x5, f, g =>
    if x5 < (32 : Int32) then
     (g_X7_findGuards_100 mj_fuel x4 x5 (1 : Int64) (0 : Int64) (0 : Int32) (0 : Int32) f g).bind (fun q_14 =>
     mj_lt ((((q_14.2.2.1 - (1 : Int32))).toInt64 * q_14.1)) (fun w_15 =>
     if 0 < (lg_cmp (w_15 * (q_14.2.2.2.2 0 24)) ((q_14.2.2.2.2 0 23) * q_14.2.1)) then
      mj_lt (mj_wr q_14.2.2.2.1 0 22 x5) (fun f_16 =>
      mj_lt (mj_wl q_14.2.2.2.2 0 23 w_15) (fun g_17 =>
      mj_lt (mj_wl g_17 0 24 q_14.2.1) (fun g_18 =>
      g_X7_findGuards_81 n x4 (x5 + (1 : Int32)) f_16 g_18)))
     else
      g_X7_findGuards_81 n x4 (x5 + (1 : Int32)) q_14.2.2.2.1 q_14.2.2.2.2))
    else
     some ((f, g))
theorem r_X7_findGuards_81 {post : Option Value → mj_I → mj_L → Prop} : ∀ (n : Nat) (x4 : Int32) (x5 : Int32) (f : mj_I) (g : mj_L) (o : mj_I × mj_L), g_X7_findGuards_81 n x4 x5 f g = some o → mj_Ev jX7_findGuards 213 [some (.ref 0), none, none, none, none, none, none, none, none, none, none, none, none] [] my_S o.1 o.2 post → mj_Ev jX7_findGuards 81 [some (.ref 0), none, none, none, some (.int x4), some (.int x5), none, none, none, none, none, none, none] [] my_S f g post := by
  intro n
  induction n with
  | zero =>
    intro x4 x5 f g o hg hk
    cases hg
  | succ n ih =>
    intro x4 x5 f g o hg hk
    unfold g_X7_findGuards_81 at hg
    refine ev_iload (q := 83) dX7_findGuards_81 rfl rfl ?_
    refine ev_bipush (v := 32) (q := 85) dX7_findGuards_83 mcb_32 rfl ?_
    refine ev_icmp_ge (t := 213) (q := 88) dX7_findGuards_85 rfl rfl hg (fun hg => ?_) (fun hg => ?_)
    · refine ev_lconst (v := 1) (q := 89) dX7_findGuards_88 mcl_1 rfl ?_
      refine ev_lstore (q := 91) (loc' := [some (.ref _), none, none, none, some (.int _), some (.int _), some (.long _), none, none, none, none, none, none]) dX7_findGuards_89 (by decide) rfl rfl ?_
      refine ev_lconst (v := 0) (q := 92) dX7_findGuards_91 mcl_0 rfl ?_
      refine ev_lstore (q := 94) (loc' := [some (.ref _), none, none, none, some (.int _), some (.int _), some (.long _), none, some (.long _), none, none, none, none]) dX7_findGuards_92 (by decide) rfl rfl ?_
      refine ev_iconst (v := 0) (q := 95) dX7_findGuards_94 mci_0 rfl ?_
      refine ev_istore (q := 97) (loc' := [some (.ref _), none, none, none, some (.int _), some (.int _), some (.long _), none, some (.long _), none, some (.int _), none, none]) dX7_findGuards_95 (by decide) rfl rfl ?_
      refine ev_iconst (v := 0) (q := 98) dX7_findGuards_97 mci_0 rfl ?_
      refine ev_istore (q := 100) (loc' := [some (.ref _), none, none, none, some (.int _), some (.int _), some (.long _), none, some (.long _), none, some (.int _), some (.int _), none]) dX7_findGuards_98 (by decide) rfl rfl ?_
      obtain ⟨q_14, hq_14, hg⟩ := mj_bd hg
      refine r_X7_findGuards_100 mj_fuel _ _ _ _ _ _ _ _ _ hq_14 ?_
      refine ev_iload (q := 163) dX7_findGuards_161 rfl rfl ?_
      refine ev_iconst (v := 1) (q := 164) dX7_findGuards_163 mci_1 rfl ?_
      refine ev_isub (q := 165) dX7_findGuards_164 rfl ?_
      refine ev_i2l (q := 166) dX7_findGuards_165 rfl ?_
      refine ev_lload (q := 168) dX7_findGuards_166 rfl rfl ?_
      refine ev_lmul (q := 169) dX7_findGuards_168 rfl ?_
      refine ev_nml (fun w_15 hw_15 => ?_)
      have hg := mj_lt_el hw_15 hg
      refine ev_lstore (q := 171) (loc' := [some (.ref _), none, none, none, some (.int _), some (.int _), some (.long _), none, some (.long _), none, some (.int _), some (.long _), none]) dX7_findGuards_169 (by decide) rfl rfl ?_
      refine ev_lload (q := 173) dX7_findGuards_171 rfl rfl ?_
      refine ev_aload_n (q := 174) dX7_findGuards_173 rfl rfl ?_
      refine ev_getfL (q := 177) mw_f_RX7_270 rfl dX7_findGuards_174 rfl ?_
      refine ev_lmul (q := 178) dX7_findGuards_177 rfl ?_
      refine ev_aload_n (q := 179) dX7_findGuards_178 rfl rfl ?_
      refine ev_getfL (q := 182) mw_f_RX7_266 rfl dX7_findGuards_179 rfl ?_
      refine ev_lload (q := 184) dX7_findGuards_182 rfl rfl ?_
      refine ev_lmul (q := 185) dX7_findGuards_184 rfl ?_
      refine ev_lcmp (q := 186) dX7_findGuards_185 rfl ?_
      refine ev_if_le (t := 207) (q := 189) dX7_findGuards_186 rfl rfl hg (fun hg => ?_) (fun hg => ?_)
      · refine ev_aload_n (q := 190) dX7_findGuards_189 rfl rfl ?_
        refine ev_iload (q := 192) dX7_findGuards_190 rfl rfl ?_
        refine ev_putfI (q := 195) mw_f_RX7_261 rfl dX7_findGuards_192 rfl ?_
        refine ev_nmf (fun f_16 hf_16 => ?_)
        have hg := mj_lt_el hf_16 hg
        refine ev_aload_n (q := 196) dX7_findGuards_195 rfl rfl ?_
        refine ev_lload (q := 198) dX7_findGuards_196 rfl rfl ?_
        refine ev_putfL (q := 201) mw_f_RX7_266 rfl dX7_findGuards_198 rfl ?_
        refine ev_nmg (fun g_17 hg_17 => ?_)
        have hg := mj_lt_el hg_17 hg
        refine ev_aload_n (q := 202) dX7_findGuards_201 rfl rfl ?_
        refine ev_lload (q := 204) dX7_findGuards_202 rfl rfl ?_
        refine ev_putfL (q := 207) mw_f_RX7_270 rfl dX7_findGuards_204 rfl ?_
        refine ev_nmg (fun g_18 hg_18 => ?_)
        have hg := mj_lt_el hg_18 hg
        refine ev_iinc (v := 1) (q := 210) (loc' := [some (.ref _), none, none, none, some (.int _), some (.int _), some (.long _), none, some (.long _), none, some (.int _), some (.long _), none]) dX7_findGuards_207 rfl (by decide) mci_1 rfl rfl ?_
        refine ev_goto (q := 81) dX7_findGuards_210 rfl ?_
        refine ev_wk (loc' := [some (.ref _), none, none, none, some (.int _), some (.int _), none, none, none, none, none, none, none]) ⟨rfl, rfl, rfl, trivial⟩ ?_
        exact ih _ _ _ _ _ hg hk
      · refine ev_iinc (v := 1) (q := 210) (loc' := [some (.ref _), none, none, none, some (.int _), some (.int _), some (.long _), none, some (.long _), none, some (.int _), some (.long _), none]) dX7_findGuards_207 rfl (by decide) mci_1 rfl rfl ?_
        refine ev_goto (q := 81) dX7_findGuards_210 rfl ?_
        refine ev_wk (loc' := [some (.ref _), none, none, none, some (.int _), some (.int _), none, none, none, none, none, none, none]) ⟨rfl, rfl, rfl, trivial⟩ ?_
        exact ih _ _ _ _ _ hg hk
    · obtain rfl := Option.some.inj hg
      refine ev_wk (loc' := [some (.ref _), none, none, none, none, none, none, none, none, none, none, none, none]) ⟨rfl, trivial⟩ ?_
      exact hk
def g_X7_findGuards_25 : Nat → Int32 → Int32 → mj_I → mj_L → Option (Int32 × mj_I × mj_L)
  | 0, _, _, _, _ => none
  | n + 1, x4, x5, f, g =>
    if x5 < (5 : Int32) then
     if mj_in (x4 + x5) 320 = true then
     if (g_X7_in ((f 3 (ix (x4 + x5)))).toInt64 (1 : Int64) (20 : Int64)) = 0 then
       some (((-1000001 : Int32), f, g))
      else
       g_X7_findGuards_25 n x4 (x5 + (1 : Int32)) f g
     else none
    else
     mj_lt (mj_wr f 0 22 (0 : Int32)) (fun f_5 =>
     mj_lt (mj_wl g 0 23 (-1 : Int64)) (fun g_6 =>
     mj_lt (mj_wl g_6 0 24 (1 : Int64)) (fun g_7 =>
     (g_X7_findGuards_81 mj_fuel x4 (1 : Int32) f_5 g_7).bind (fun q_8 =>
     (g_X7_common (q_8.2 0 23) (q_8.2 0 24)).bind (fun o_9 =>
     if mj_nzl o_9 = true then
     mj_lt (mj_wl q_8.2 0 23 ((q_8.2 0 23) / o_9)) (fun g_11 =>
      if mj_nzl o_9 = true then
      mj_lt (mj_wl g_11 0 24 ((g_11 0 24) / o_9)) (fun g_13 =>
       some (((0 : Int32), q_8.1, g_13)))
      else none)
     else none)))))
theorem r_X7_findGuards_25 : ∀ (n : Nat) (x4 : Int32) (x5 : Int32) (f : mj_I) (g : mj_L) (o : Int32 × mj_I × mj_L), g_X7_findGuards_25 n x4 x5 f g = some o → mj_Ev jX7_findGuards 25 [some (.ref 0), none, none, none, some (.int x4), some (.int x5), none, none, none, none, none, none, none] [] my_S f g (fun v f' g' => some (.int o.1) = v ∧ o.2.1 = f' ∧ o.2.2 = g') := by
  intro n
  induction n with
  | zero =>
    intro x4 x5 f g o hg
    cases hg
  | succ n ih =>
    intro x4 x5 f g o hg
    unfold g_X7_findGuards_25 at hg
    refine ev_iload (q := 27) dX7_findGuards_25 rfl rfl ?_
    refine ev_iconst (v := 5) (q := 28) dX7_findGuards_27 mci_5 rfl ?_
    refine ev_icmp_ge (t := 61) (q := 31) dX7_findGuards_28 rfl rfl hg (fun hg => ?_) (fun hg => ?_)
    · refine ev_aload_n (q := 32) dX7_findGuards_31 rfl rfl ?_
      refine ev_getfR (q := 35) mw_f_RX7_16 rfl rfl dX7_findGuards_32 rfl ?_
      refine ev_iload (q := 37) dX7_findGuards_35 rfl rfl ?_
      refine ev_iload (q := 39) dX7_findGuards_37 rfl rfl ?_
      refine ev_iadd (q := 40) dX7_findGuards_39 rfl ?_
      obtain ⟨hi_3, hg⟩ := mj_gd hg
      refine ev_ialdk (q := 41) rfl hi_3 rfl dX7_findGuards_40 rfl ?_
      refine ev_i2l (q := 42) dX7_findGuards_41 rfl ?_
      refine ev_lconst (v := 1) (q := 43) dX7_findGuards_42 mcl_1 rfl ?_
      refine ev_ldc2 (q := 46) mw_c_RX7_259 dX7_findGuards_43 rfl ?_
      refine ev_callS (q := 49) kX7_in mw_t_X7_in mw_m_RX7_60 (r_X7_in rfl) rfl rfl (Nat.le_of_ble_eq_true rfl) (by decide) dX7_findGuards_46 rfl (fun v fv gv hp => ?_)
      obtain ⟨rfl, rfl, rfl, hr_4⟩ := hp
      refine ev_if_ne (t := 55) (q := 52) dX7_findGuards_49 rfl rfl hg (fun hg => ?_) (fun hg => ?_)
      · refine ev_ldc (q := 54) mw_c_RX7_70 dX7_findGuards_52 rfl ?_
        obtain rfl := Option.some.inj hg
        exact ev_iret dX7_findGuards_54 rfl ⟨rfl, rfl, rfl⟩
      · refine ev_iinc (v := 1) (q := 58) (loc' := [some (.ref _), none, none, none, some (.int _), some (.int _), none, none, none, none, none, none, none]) dX7_findGuards_55 rfl (by decide) mci_1 rfl rfl ?_
        refine ev_goto (q := 25) dX7_findGuards_58 rfl ?_
        exact ih _ _ _ _ _ hg
    · refine ev_aload_n (q := 62) dX7_findGuards_61 rfl rfl ?_
      refine ev_iconst (v := 0) (q := 63) dX7_findGuards_62 mci_0 rfl ?_
      refine ev_putfI (q := 66) mw_f_RX7_261 rfl dX7_findGuards_63 rfl ?_
      refine ev_nmf (fun f_5 hf_5 => ?_)
      have hg := mj_lt_el hf_5 hg
      refine ev_aload_n (q := 67) dX7_findGuards_66 rfl rfl ?_
      refine ev_ldc2 (q := 70) mw_c_RX7_264 dX7_findGuards_67 rfl ?_
      refine ev_putfL (q := 73) mw_f_RX7_266 rfl dX7_findGuards_70 rfl ?_
      refine ev_nmg (fun g_6 hg_6 => ?_)
      have hg := mj_lt_el hg_6 hg
      refine ev_aload_n (q := 74) dX7_findGuards_73 rfl rfl ?_
      refine ev_lconst (v := 1) (q := 75) dX7_findGuards_74 mcl_1 rfl ?_
      refine ev_putfL (q := 78) mw_f_RX7_270 rfl dX7_findGuards_75 rfl ?_
      refine ev_nmg (fun g_7 hg_7 => ?_)
      have hg := mj_lt_el hg_7 hg
      refine ev_iconst (v := 1) (q := 79) dX7_findGuards_78 mci_1 rfl ?_
      refine ev_istore (q := 81) (loc' := [some (.ref _), none, none, none, some (.int _), some (.int _), none, none, none, none, none, none, none]) dX7_findGuards_79 (by decide) rfl rfl ?_
      obtain ⟨q_8, hq_8, hg⟩ := mj_bd hg
      refine r_X7_findGuards_81 mj_fuel _ _ _ _ _ hq_8 ?_
      refine ev_aload_n (q := 214) dX7_findGuards_213 rfl rfl ?_
      refine ev_getfL (q := 217) mw_f_RX7_266 rfl dX7_findGuards_214 rfl ?_
      refine ev_aload_n (q := 218) dX7_findGuards_217 rfl rfl ?_
      refine ev_getfL (q := 221) mw_f_RX7_270 rfl dX7_findGuards_218 rfl ?_
      obtain ⟨o_9, ho_9, hg⟩ := mj_bd hg
      refine ev_callS (q := 224) kX7_common mw_t_X7_common mw_m_RX7_255 (r_X7_common ho_9) rfl rfl (Nat.le_of_ble_eq_true rfl) (by decide) dX7_findGuards_221 rfl (fun v fv gv hp => ?_)
      obtain ⟨rfl, rfl, rfl⟩ := hp
      refine ev_lstore (q := 226) (loc' := [some (.ref _), none, none, none, none, some (.long _), none, none, none, none, none, none, none]) dX7_findGuards_224 (by decide) rfl rfl ?_
      refine ev_aload_n (q := 227) dX7_findGuards_226 rfl rfl ?_
      refine ev_dup (q := 228) dX7_findGuards_227 rfl rfl ?_
      refine ev_getfL (q := 231) mw_f_RX7_266 rfl dX7_findGuards_228 rfl ?_
      refine ev_lload (q := 233) dX7_findGuards_231 rfl rfl ?_
      obtain ⟨hn_10, hg⟩ := mj_gd hg
      refine ev_ldiv (q := 234) dX7_findGuards_233 (mj_nzl_ne hn_10) rfl ?_
      refine ev_putfL (q := 237) mw_f_RX7_266 rfl dX7_findGuards_234 rfl ?_
      refine ev_nmg (fun g_11 hg_11 => ?_)
      have hg := mj_lt_el hg_11 hg
      refine ev_aload_n (q := 238) dX7_findGuards_237 rfl rfl ?_
      refine ev_dup (q := 239) dX7_findGuards_238 rfl rfl ?_
      refine ev_getfL (q := 242) mw_f_RX7_270 rfl dX7_findGuards_239 rfl ?_
      refine ev_lload (q := 244) dX7_findGuards_242 rfl rfl ?_
      obtain ⟨hn_12, hg⟩ := mj_gd hg
      refine ev_ldiv (q := 245) dX7_findGuards_244 (mj_nzl_ne hn_12) rfl ?_
      refine ev_putfL (q := 248) mw_f_RX7_270 rfl dX7_findGuards_245 rfl ?_
      refine ev_nmg (fun g_13 hg_13 => ?_)
      have hg := mj_lt_el hg_13 hg
      refine ev_iconst (v := 0) (q := 249) dX7_findGuards_248 mci_0 rfl ?_
      obtain rfl := Option.some.inj hg
      exact ev_iret dX7_findGuards_249 rfl ⟨rfl, rfl, rfl⟩
def g_X7_findGuards (x1 : Int32) (x2 : Int32) (f : mj_I) (g : mj_L) : Option (Int32 × mj_I × mj_L) :=
  (g_X7_lacks x1 x2 (5 : Int32) f).bind (fun o_1 =>
  if o_1.1 < 0 then
   some ((o_1.1, o_1.2, g))
  else
   mj_lt ((((40 : Int32) * x1) + x2)) (fun u_2 =>
   g_X7_findGuards_25 mj_fuel u_2 (0 : Int32) o_1.2 g))
theorem r_X7_findGuards {x1 : Int32} {x2 : Int32} {f : mj_I} {g : mj_L} {o : Int32 × mj_I × mj_L} (hg : g_X7_findGuards x1 x2 f g = some o) : mj_Sp jX7_findGuards my_S [.ref 0, .int x1, .int x2] f g (fun v f' g' => some (.int o.1) = v ∧ o.2.1 = f' ∧ o.2.2 = g') := by
  refine mj_sp 10 (by decide +kernel) rfl rfl (fun _ _ => Nat.le_of_ble_eq_true rfl) ?_
  show mj_Ev jX7_findGuards 0 [some (.ref 0), some (.int x1), some (.int x2), none, none, none, none, none, none, none, none, none, none] [] my_S f g _
  unfold g_X7_findGuards at hg
  refine ev_aload_n (q := 1) dX7_findGuards_0 rfl rfl ?_
  refine ev_iload_n (q := 2) dX7_findGuards_1 rfl rfl ?_
  refine ev_iload_n (q := 3) dX7_findGuards_2 rfl rfl ?_
  refine ev_iconst (v := 5) (q := 4) dX7_findGuards_3 mci_5 rfl ?_
  obtain ⟨o_1, ho_1, hg⟩ := mj_bd hg
  refine ev_callV (q := 7) kX7_lacks mw_i_X7_lacks mw_s_X7_lacks mw_m_RX7_245 rfl rfl (r_X7_lacks ho_1) rfl rfl (Nat.le_of_ble_eq_true rfl) (by decide) dX7_findGuards_4 rfl (fun v fv gv hp => ?_)
  obtain ⟨rfl, rfl, rfl⟩ := hp
  refine ev_istore_n (q := 8) (loc' := [some (.ref _), some (.int _), some (.int _), some (.int _), none, none, none, none, none, none, none, none, none]) dX7_findGuards_7 (by decide) rfl rfl ?_
  refine ev_iload_n (q := 9) dX7_findGuards_8 rfl rfl ?_
  refine ev_if_ge (t := 14) (q := 12) dX7_findGuards_9 rfl rfl hg (fun hg => ?_) (fun hg => ?_)
  · refine ev_iload_n (q := 13) dX7_findGuards_12 rfl rfl ?_
    obtain rfl := Option.some.inj hg
    exact ev_iret dX7_findGuards_13 rfl ⟨rfl, rfl, rfl⟩
  · refine ev_bipush (v := 40) (q := 16) dX7_findGuards_14 mcb_40 rfl ?_
    refine ev_iload_n (q := 17) dX7_findGuards_16 rfl rfl ?_
    refine ev_imul (q := 18) dX7_findGuards_17 rfl ?_
    refine ev_iload_n (q := 19) dX7_findGuards_18 rfl rfl ?_
    refine ev_iadd (q := 20) dX7_findGuards_19 rfl ?_
    refine ev_nmi (fun u_2 hu_2 => ?_)
    have hg := mj_lt_el hu_2 hg
    refine ev_istore (q := 22) (loc' := [some (.ref _), some (.int _), some (.int _), some (.int _), some (.int _), none, none, none, none, none, none, none, none]) dX7_findGuards_20 (by decide) rfl rfl ?_
    refine ev_iconst (v := 0) (q := 23) dX7_findGuards_22 mci_0 rfl ?_
    refine ev_istore (q := 25) (loc' := [some (.ref _), some (.int _), some (.int _), some (.int _), some (.int _), some (.int _), none, none, none, none, none, none, none]) dX7_findGuards_23 (by decide) rfl rfl ?_
    refine ev_wk (loc' := [some (.ref _), none, none, none, some (.int _), some (.int _), none, none, none, none, none, none, none]) ⟨rfl, rfl, rfl, trivial⟩ ?_
    exact r_X7_findGuards_25 mj_fuel _ _ _ _ _ hg
