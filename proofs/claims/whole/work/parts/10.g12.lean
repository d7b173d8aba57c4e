def g_X7_guards (x1 : Int32) (x2 : Int32) (f : mj_I) (g : mj_L) : Option (Int32 × mj_I × mj_L) :=
  if (g_X7_isRow x1) = 0 then
   some (((-1000001 : Int32), f, g))
  else
   (g_X7_findGuards x1 x2 f g).bind (fun o_2 =>
   if o_2.1 < 0 then
    some ((o_2.1, o_2.2.1, o_2.2.2))
   else
    mj_lt (g_X7_well (o_2.2.1 0 22) o_2.2.1) (fun o_3 =>
    some ((o_3.1, o_3.2, o_2.2.2))))
theorem r_X7_guards {x1 : Int32} {x2 : Int32} {f : mj_I} {g : mj_L} {o : Int32 × mj_I × mj_L} (hg : g_X7_guards x1 x2 f g = some o) : mj_Sp jX7_guards my_S [.ref 0, .int x1, .int x2] f g (fun v f' g' => some (.int o.1) = v ∧ o.2.1 = f' ∧ o.2.2 = g') := by
  refine mj_sp 1 (by decide +kernel) rfl rfl (fun _ _ => Nat.le_of_ble_eq_true rfl) ?_
  show mj_Ev jX7_guards 0 [some (.ref 0), some (.int x1), some (.int x2), none] [] my_S f g _
  unfold g_X7_guards at hg
  refine ev_iload_n (q := 1) dX7_guards_0 rfl rfl ?_
  refine ev_callS (q := 4) kX7_isRow mw_t_X7_isRow mw_m_RX7_64 (r_X7_isRow rfl) rfl rfl (Nat.le_of_ble_eq_true rfl) (by decide) dX7_guards_1 rfl (fun v fv gv hp => ?_)
  obtain ⟨rfl, rfl, rfl, hr_1⟩ := hp
  refine ev_if_ne (t := 10) (q := 7) dX7_guards_4 rfl rfl hg (fun hg => ?_) (fun hg => ?_)
  · refine ev_ldc (q := 9) mw_c_RX7_70 dX7_guards_7 rfl ?_
    obtain rfl := Option.some.inj hg
    exact ev_iret dX7_guards_9 rfl ⟨rfl, rfl, rfl⟩
  · refine ev_aload_n (q := 11) dX7_guards_10 rfl rfl ?_
    refine ev_iload_n (q := 12) dX7_guards_11 rfl rfl ?_
    refine ev_iload_n (q := 13) dX7_guards_12 rfl rfl ?_
    obtain ⟨o_2, ho_2, hg⟩ := mj_bd hg
    refine ev_callV (q := 16) kX7_findGuards mw_i_X7_findGuards mw_s_X7_findGuards mw_m_RX7_273 rfl rfl (r_X7_findGuards ho_2) rfl rfl (Nat.le_of_ble_eq_true rfl) (by decide) dX7_guards_13 rfl (fun v fv gv hp => ?_)
    obtain ⟨rfl, rfl, rfl⟩ := hp
    refine ev_istore_n (q := 17) (loc' := [some (.ref _), some (.int _), some (.int _), some (.int _)]) dX7_guards_16 (by decide) rfl rfl ?_
    refine ev_iload_n (q := 18) dX7_guards_17 rfl rfl ?_
    refine ev_if_ge (t := 25) (q := 21) dX7_guards_18 rfl rfl hg (fun hg => ?_) (fun hg => ?_)
    · refine ev_iload_n (q := 22) dX7_guards_21 rfl rfl ?_
      refine ev_goto (q := 33) dX7_guards_22 rfl ?_
      obtain rfl := Option.some.inj hg
      exact ev_iret dX7_guards_33 rfl ⟨rfl, rfl, rfl⟩
    · refine ev_aload_n (q := 26) dX7_guards_25 rfl rfl ?_
      refine ev_aload_n (q := 27) dX7_guards_26 rfl rfl ?_
      refine ev_getfI (q := 30) mw_f_RX7_261 (by decide) (by decide) rfl dX7_guards_27 rfl ?_
      obtain ⟨o_3, ho_3, hg⟩ := mj_lte hg
      refine ev_callV (q := 33) kX7_well mw_i_X7_well mw_s_X7_well mw_m_RX7_75 rfl rfl (r_X7_well ho_3) rfl rfl (Nat.le_of_ble_eq_true rfl) (by decide) dX7_guards_30 rfl (fun v fv gv hp => ?_)
      obtain ⟨rfl, rfl, rfl⟩ := hp
      obtain rfl := Option.some.inj hg
      exact ev_iret dX7_guards_33 rfl ⟨rfl, rfl, rfl⟩
def g_X7_guardsValue (x1 : Int32) (x2 : Int32) (x3 : Int32) (f : mj_I) (g : mj_L) : Option (Int64 × mj_I × mj_L) :=
  if (g_X7_isRow x1) = 0 then
   some (((-1000001 : Int64), f, g))
  else
   if (g_X7_in (x3).toInt64 (0 : Int64) (1 : Int64)) = 0 then
    some (((-1000001 : Int64), f, g))
   else
    (g_X7_findGuards x1 x2 f g).bind (fun o_3 =>
    if o_3.1 < 0 then
     some (((o_3.1).toInt64, o_3.2.1, o_3.2.2))
    else
     mj_lt (mj_wr o_3.2.1 0 3 (0 : Int32)) (fun f_4 =>
     if x3 = 0 then
      some (((o_3.2.2 0 23), f_4, o_3.2.2))
     else
      some (((o_3.2.2 0 24), f_4, o_3.2.2))))
theorem r_X7_guardsValue {x1 : Int32} {x2 : Int32} {x3 : Int32} {f : mj_I} {g : mj_L} {o : Int64 × mj_I × mj_L} (hg : g_X7_guardsValue x1 x2 x3 f g = some o) : mj_Sp jX7_guardsValue my_S [.ref 0, .int x1, .int x2, .int x3] f g (fun v f' g' => some (.long o.1) = v ∧ o.2.1 = f' ∧ o.2.2 = g') := by
  refine mj_sp 1 (by decide +kernel) rfl rfl (fun _ _ => Nat.le_of_ble_eq_true rfl) ?_
  show mj_Ev jX7_guardsValue 0 [some (.ref 0), some (.int x1), some (.int x2), some (.int x3), none] [] my_S f g _
  unfold g_X7_guardsValue at hg
  refine ev_iload_n (q := 1) dX7_guardsValue_0 rfl rfl ?_
  refine ev_callS (q := 4) kX7_isRow mw_t_X7_isRow mw_m_RX7_64 (r_X7_isRow rfl) rfl rfl (Nat.le_of_ble_eq_true rfl) (by decide) dX7_guardsValue_1 rfl (fun v fv gv hp => ?_)
  obtain ⟨rfl, rfl, rfl, hr_1⟩ := hp
  refine ev_if_eq (t := 17) (q := 7) dX7_guardsValue_4 rfl rfl hg (fun hg => ?_) (fun hg => ?_)
  · refine ev_ldc2 (q := 20) mw_c_RX7_276 dX7_guardsValue_17 rfl ?_
    obtain rfl := Option.some.inj hg
    exact ev_lret dX7_guardsValue_20 rfl ⟨rfl, rfl, rfl⟩
  · refine ev_iload_n (q := 8) dX7_guardsValue_7 rfl rfl ?_
    refine ev_i2l (q := 9) dX7_guardsValue_8 rfl ?_
    refine ev_lconst (v := 0) (q := 10) dX7_guardsValue_9 mcl_0 rfl ?_
    refine ev_lconst (v := 1) (q := 11) dX7_guardsValue_10 mcl_1 rfl ?_
    refine ev_callS (q := 14) kX7_in mw_t_X7_in mw_m_RX7_60 (r_X7_in rfl) rfl rfl (Nat.le_of_ble_eq_true rfl) (by decide) dX7_guardsValue_11 rfl (fun v fv gv hp => ?_)
    obtain ⟨rfl, rfl, rfl, hr_2⟩ := hp
    refine ev_if_ne (t := 21) (q := 17) dX7_guardsValue_14 rfl rfl hg (fun hg => ?_) (fun hg => ?_)
    · refine ev_ldc2 (q := 20) mw_c_RX7_276 dX7_guardsValue_17 rfl ?_
      obtain rfl := Option.some.inj hg
      exact ev_lret dX7_guardsValue_20 rfl ⟨rfl, rfl, rfl⟩
    · refine ev_aload_n (q := 22) dX7_guardsValue_21 rfl rfl ?_
      refine ev_iload_n (q := 23) dX7_guardsValue_22 rfl rfl ?_
      refine ev_iload_n (q := 24) dX7_guardsValue_23 rfl rfl ?_
      obtain ⟨o_3, ho_3, hg⟩ := mj_bd hg
      refine ev_callV (q := 27) kX7_findGuards mw_i_X7_findGuards mw_s_X7_findGuards mw_m_RX7_273 rfl rfl (r_X7_findGuards ho_3) rfl rfl (Nat.le_of_ble_eq_true rfl) (by decide) dX7_guardsValue_24 rfl (fun v fv gv hp => ?_)
      obtain ⟨rfl, rfl, rfl⟩ := hp
      refine ev_istore (q := 29) (loc' := [some (.ref _), some (.int _), some (.int _), some (.int _), some (.int _)]) dX7_guardsValue_27 (by decide) rfl rfl ?_
      refine ev_iload (q := 31) dX7_guardsValue_29 rfl rfl ?_
      refine ev_if_ge (t := 38) (q := 34) dX7_guardsValue_31 rfl rfl hg (fun hg => ?_) (fun hg => ?_)
      · refine ev_iload (q := 36) dX7_guardsValue_34 rfl rfl ?_
        refine ev_i2l (q := 37) dX7_guardsValue_36 rfl ?_
        obtain rfl := Option.some.inj hg
        exact ev_lret dX7_guardsValue_37 rfl ⟨rfl, rfl, rfl⟩
      · refine ev_aload_n (q := 39) dX7_guardsValue_38 rfl rfl ?_
        refine ev_iconst (v := 0) (q := 40) dX7_guardsValue_39 mci_0 rfl ?_
        refine ev_putfI (q := 43) mw_f_RX7_53 rfl dX7_guardsValue_40 rfl ?_
        refine ev_nmf (fun f_4 hf_4 => ?_)
        have hg := mj_lt_el hf_4 hg
        refine ev_iload_n (q := 44) dX7_guardsValue_43 rfl rfl ?_
        refine ev_if_ne (t := 54) (q := 47) dX7_guardsValue_44 rfl rfl hg (fun hg => ?_) (fun hg => ?_)
        · refine ev_aload_n (q := 48) dX7_guardsValue_47 rfl rfl ?_
          refine ev_getfL (q := 51) mw_f_RX7_266 rfl dX7_guardsValue_48 rfl ?_
          refine ev_goto (q := 58) dX7_guardsValue_51 rfl ?_
          obtain rfl := Option.some.inj hg
          exact ev_lret dX7_guardsValue_58 rfl ⟨rfl, rfl, rfl⟩
        · refine ev_aload_n (q := 55) dX7_guardsValue_54 rfl rfl ?_
          refine ev_getfL (q := 58) mw_f_RX7_270 rfl dX7_guardsValue_55 rfl ?_
          obtain rfl := Option.some.inj hg
          exact ev_lret dX7_guardsValue_58 rfl ⟨rfl, rfl, rfl⟩
def g_X7_dues (x1 : Int32) (f : mj_I) : Option (Int32 × mj_I) :=
  if (f 0 4) = 0 then
   some (((-1000002 : Int32), f))
  else
   if (g_X7_in (x1).toInt64 (0 : Int64) (60 : Int64)) = 0 then
    some (((-1000001 : Int32), f))
   else
    (g_X7_putAside f).bind (fun o_2 =>
    (g_X7_goOn x1 o_2).bind (fun o_3 =>
    mj_lt (((o_3 4 48) - (o_3 9 48))) (fun u_6 =>
    (g_X7_takeBack o_3).bind (fun o_7 =>
    some ((u_6, o_7))))))
theorem r_X7_dues {x1 : Int32} {f : mj_I} {g : mj_L} {o : Int32 × mj_I} (hg : g_X7_dues x1 f = some o) : mj_Sp jX7_dues my_S [.ref 0, .int x1] f g (fun v f' g' => some (.int o.1) = v ∧ o.2 = f' ∧ g = g') := by
  refine mj_sp 1 (by decide +kernel) rfl rfl (fun _ _ => Nat.le_of_ble_eq_true rfl) ?_
  show mj_Ev jX7_dues 0 [some (.ref 0), some (.int x1), none] [] my_S f g _
  unfold g_X7_dues at hg
  refine ev_aload_n (q := 1) dX7_dues_0 rfl rfl ?_
  refine ev_getfI (q := 4) mw_f_RX7_154 (by decide) (by decide) rfl dX7_dues_1 rfl ?_
  refine ev_if_ne (t := 10) (q := 7) dX7_dues_4 rfl rfl hg (fun hg => ?_) (fun hg => ?_)
  · refine ev_ldc (q := 9) mw_c_RX7_193 dX7_dues_7 rfl ?_
    obtain rfl := Option.some.inj hg
    exact ev_iret dX7_dues_9 rfl ⟨rfl, rfl, rfl⟩
  · refine ev_iload_n (q := 11) dX7_dues_10 rfl rfl ?_
    refine ev_i2l (q := 12) dX7_dues_11 rfl ?_
    refine ev_lconst (v := 0) (q := 13) dX7_dues_12 mcl_0 rfl ?_
    refine ev_ldc2 (q := 16) mw_c_RX7_224 dX7_dues_13 rfl ?_
    refine ev_callS (q := 19) kX7_in mw_t_X7_in mw_m_RX7_60 (r_X7_in rfl) rfl rfl (Nat.le_of_ble_eq_true rfl) (by decide) dX7_dues_16 rfl (fun v fv gv hp => ?_)
    obtain ⟨rfl, rfl, rfl, hr_1⟩ := hp
    refine ev_if_ne (t := 25) (q := 22) dX7_dues_19 rfl rfl hg (fun hg => ?_) (fun hg => ?_)
    · refine ev_ldc (q := 24) mw_c_RX7_70 dX7_dues_22 rfl ?_
      obtain rfl := Option.some.inj hg
      exact ev_iret dX7_dues_24 rfl ⟨rfl, rfl, rfl⟩
    · refine ev_aload_n (q := 26) dX7_dues_25 rfl rfl ?_
      obtain ⟨o_2, ho_2, hg⟩ := mj_bd hg
      refine ev_callV (q := 29) kX7_putAside mw_i_X7_putAside mw_s_X7_putAside mw_m_RX7_228 rfl rfl (r_X7_putAside ho_2) rfl rfl (Nat.le_of_ble_eq_true rfl) (by decide) dX7_dues_26 rfl (fun v fv gv hp => ?_)
      obtain ⟨rfl, rfl, rfl⟩ := hp
      refine ev_aload_n (q := 30) dX7_dues_29 rfl rfl ?_
      refine ev_iload_n (q := 31) dX7_dues_30 rfl rfl ?_
      obtain ⟨o_3, ho_3, hg⟩ := mj_bd hg
      refine ev_callV (q := 34) kX7_goOn mw_i_X7_goOn mw_s_X7_goOn mw_m_RX7_231 rfl rfl (r_X7_goOn ho_3) rfl rfl (Nat.le_of_ble_eq_true rfl) (by decide) dX7_dues_31 rfl (fun v fv gv hp => ?_)
      obtain ⟨rfl, rfl, rfl⟩ := hp
      refine ev_aload_n (q := 35) dX7_dues_34 rfl rfl ?_
      refine ev_getfR (q := 38) mw_f_RX7_19 rfl rfl dX7_dues_35 rfl ?_
      refine ev_bipush (v := 48) (q := 40) dX7_dues_38 mcb_48 rfl ?_
      refine ev_ialdk (k := 48) (q := 41) rfl (by decide) mcx_48 dX7_dues_40 rfl ?_
      refine ev_aload_n (q := 42) dX7_dues_41 rfl rfl ?_
      refine ev_getfR (q := 45) mw_f_RX7_34 rfl rfl dX7_dues_42 rfl ?_
      refine ev_bipush (v := 48) (q := 47) dX7_dues_45 mcb_48 rfl ?_
      refine ev_ialdk (k := 48) (q := 48) rfl (by decide) mcx_48 dX7_dues_47 rfl ?_
      refine ev_isub (q := 49) dX7_dues_48 rfl ?_
      refine ev_nmi (fun u_6 hu_6 => ?_)
      have hg := mj_lt_el hu_6 hg
      refine ev_istore_n (q := 50) (loc' := [some (.ref _), some (.int _), some (.int _)]) dX7_dues_49 (by decide) rfl rfl ?_
      refine ev_aload_n (q := 51) dX7_dues_50 rfl rfl ?_
      obtain ⟨o_7, ho_7, hg⟩ := mj_bd hg
      refine ev_callV (q := 54) kX7_takeBack mw_i_X7_takeBack mw_s_X7_takeBack mw_m_RX7_234 rfl rfl (r_X7_takeBack ho_7) rfl rfl (Nat.le_of_ble_eq_true rfl) (by decide) dX7_dues_51 rfl (fun v fv gv hp => ?_)
      obtain ⟨rfl, rfl, rfl⟩ := hp
      refine ev_iload_n (q := 55) dX7_dues_54 rfl rfl ?_
      obtain rfl := Option.some.inj hg
      exact ev_iret dX7_dues_55 rfl ⟨rfl, rfl, rfl⟩
def g_X7_image_25 : Nat → Int32 → Int32 → mj_I → Option (mj_I)
  | 0, _, _, _ => none
  | n + 1, x1, x2, f =>
    if x2 < (82 : Int32) then
     if mj_in x2 82 = true then
     if mj_in (((82 : Int32) * x1) + x2) 164 = true then
      mj_lt (mj_wr f 13 (ix (((82 : Int32) * x1) + x2)) (f 4 (ix x2))) (fun f_5 =>
       g_X7_image_25 n x1 (x2 + (1 : Int32)) f_5)
      else none
     else none
    else
     some (f)
theorem r_X7_image_25 {g : mj_L} {post : Option Value → mj_I → mj_L → Prop} : ∀ (n : Nat) (x1 : Int32) (x2 : Int32) (f : mj_I) (o : mj_I), g_X7_image_25 n x1 x2 f = some o → mj_Ev jX7_image 54 [some (.ref 0), some (.int x1), none] [] my_S o g post → mj_Ev jX7_image 25 [some (.ref 0), some (.int x1), some (.int x2)] [] my_S f g post := by
  intro n
  induction n with
  | zero =>
    intro x1 x2 f o hg hk
    cases hg
  | succ n ih =>
    intro x1 x2 f o hg hk
    unfold g_X7_image_25 at hg
    refine ev_iload_n (q := 26) dX7_image_25 rfl rfl ?_
    refine ev_bipush (v := 82) (q := 28) dX7_image_26 mcb_82 rfl ?_
    refine ev_icmp_ge (t := 54) (q := 31) dX7_image_28 rfl rfl hg (fun hg => ?_) (fun hg => ?_)
    · refine ev_aload_n (q := 32) dX7_image_31 rfl rfl ?_
      refine ev_getfR (q := 35) mw_f_RX7_47 rfl rfl dX7_image_32 rfl ?_
      refine ev_bipush (v := 82) (q := 37) dX7_image_35 mcb_82 rfl ?_
      refine ev_iload_n (q := 38) dX7_image_37 rfl rfl ?_
      refine ev_imul (q := 39) dX7_image_38 rfl ?_
      refine ev_iload_n (q := 40) dX7_image_39 rfl rfl ?_
      refine ev_iadd (q := 41) dX7_image_40 rfl ?_
      refine ev_aload_n (q := 42) dX7_image_41 rfl rfl ?_
      refine ev_getfR (q := 45) mw_f_RX7_19 rfl rfl dX7_image_42 rfl ?_
      refine ev_iload_n (q := 46) dX7_image_45 rfl rfl ?_
      obtain ⟨hi_4, hg⟩ := mj_gd hg
      refine ev_ialdk (q := 47) rfl hi_4 rfl dX7_image_46 rfl ?_
      obtain ⟨hi_5, hg⟩ := mj_gd hg
      refine ev_iastk (q := 48) rfl hi_5 rfl dX7_image_47 rfl ?_
      refine ev_nmf (fun f_5 hf_5 => ?_)
      have hg := mj_lt_el hf_5 hg
      refine ev_iinc (v := 1) (q := 51) (loc' := [some (.ref _), some (.int _), some (.int _)]) dX7_image_48 rfl (by decide) mci_1 rfl rfl ?_
      refine ev_goto (q := 25) dX7_image_51 rfl ?_
      exact ih _ _ _ _ hg hk
    · obtain rfl := Option.some.inj hg
      refine ev_wk (loc' := [some (.ref _), some (.int _), none]) ⟨rfl, rfl, trivial⟩ ?_
      exact hk
def g_X7_image (x1 : Int32) (f : mj_I) : Option (Int32 × mj_I) :=
  if (g_X7_in (x1).toInt64 (0 : Int64) (1 : Int64)) = 0 then
   some (((-1000001 : Int32), f))
  else
   if (f 0 4) = 0 then
    some (((-1000002 : Int32), f))
   else
    (g_X7_image_25 mj_fuel x1 (0 : Int32) f).bind (fun q_2 =>
    if mj_in x1 2 = true then
    mj_lt (mj_wr q_2 12 (ix x1) (1 : Int32)) (fun f_3 =>
     some (((1 : Int32), f_3)))
    else none)
theorem r_X7_image {x1 : Int32} {f : mj_I} {g : mj_L} {o : Int32 × mj_I} (hg : g_X7_image x1 f = some o) : mj_Sp jX7_image my_S [.ref 0, .int x1] f g (fun v f' g' => some (.int o.1) = v ∧ o.2 = f' ∧ g = g') := by
  refine mj_sp 1 (by decide +kernel) rfl rfl (fun _ _ => Nat.le_of_ble_eq_true rfl) ?_
  show mj_Ev jX7_image 0 [some (.ref 0), some (.int x1), none] [] my_S f g _
  unfold g_X7_image at hg
  refine ev_iload_n (q := 1) dX7_image_0 rfl rfl ?_
  refine ev_i2l (q := 2) dX7_image_1 rfl ?_
  refine ev_lconst (v := 0) (q := 3) dX7_image_2 mcl_0 rfl ?_
  refine ev_lconst (v := 1) (q := 4) dX7_image_3 mcl_1 rfl ?_
  refine ev_callS (q := 7) kX7_in mw_t_X7_in mw_m_RX7_60 (r_X7_in rfl) rfl rfl (Nat.le_of_ble_eq_true rfl) (by decide) dX7_image_4 rfl (fun v fv gv hp => ?_)
  obtain ⟨rfl, rfl, rfl, hr_1⟩ := hp
  refine ev_if_ne (t := 13) (q := 10) dX7_image_7 rfl rfl hg (fun hg => ?_) (fun hg => ?_)
  · refine ev_ldc (q := 12) mw_c_RX7_70 dX7_image_10 rfl ?_
    obtain rfl := Option.some.inj hg
    exact ev_iret dX7_image_12 rfl ⟨rfl, rfl, rfl⟩
  · refine ev_aload_n (q := 14) dX7_image_13 rfl rfl ?_
    refine ev_getfI (q := 17) mw_f_RX7_154 (by decide) (by decide) rfl dX7_image_14 rfl ?_
    refine ev_if_ne (t := 23) (q := 20) dX7_image_17 rfl rfl hg (fun hg => ?_) (fun hg => ?_)
    · refine ev_ldc (q := 22) mw_c_RX7_193 dX7_image_20 rfl ?_
      obtain rfl := Option.some.inj hg
      exact ev_iret dX7_image_22 rfl ⟨rfl, rfl, rfl⟩
    · refine ev_iconst (v := 0) (q := 24) dX7_image_23 mci_0 rfl ?_
      refine ev_istore_n (q := 25) (loc' := [some (.ref _), some (.int _), some (.int _)]) dX7_image_24 (by decide) rfl rfl ?_
      obtain ⟨q_2, hq_2, hg⟩ := mj_bd hg
      refine r_X7_image_25 mj_fuel _ _ _ _ hq_2 ?_
      refine ev_aload_n (q := 55) dX7_image_54 rfl rfl ?_
      refine ev_getfR (q := 58) mw_f_RX7_44 rfl rfl dX7_image_55 rfl ?_
      refine ev_iload_n (q := 59) dX7_image_58 rfl rfl ?_
      refine ev_iconst (v := 1) (q := 60) dX7_image_59 mci_1 rfl ?_
      obtain ⟨hi_3, hg⟩ := mj_gd hg
      refine ev_zastk (q := 61) rfl hi_3 rfl (mcz_1) dX7_image_60 rfl ?_
      refine ev_nmf (fun f_3 hf_3 => ?_)
      have hg := mj_lt_el hf_3 hg
      refine ev_iconst (v := 1) (q := 62) dX7_image_61 mci_1 rfl ?_
      obtain rfl := Option.some.inj hg
      exact ev_iret dX7_image_62 rfl ⟨rfl, rfl, rfl⟩
def g_X7_restore_27 : Nat → Int32 → Int32 → mj_I → Option (mj_I)
  | 0, _, _, _ => none
  | n + 1, x1, x2, f =>
    if x2 < (82 : Int32) then
     if mj_in (((82 : Int32) * x1) + x2) 164 = true then
     if mj_in x2 82 = true then
      mj_lt (mj_wr f 4 (ix x2) (f 13 (ix (((82 : Int32) * x1) + x2)))) (fun f_6 =>
       g_X7_restore_27 n x1 (x2 + (1 : Int32)) f_6)
      else none
     else none
    else
     some (f)
theorem r_X7_restore_27 {g : mj_L} {post : Option Value → mj_I → mj_L → Prop} : ∀ (n : Nat) (x1 : Int32) (x2 : Int32) (f : mj_I) (o : mj_I), g_X7_restore_27 n x1 x2 f = some o → mj_Ev jX7_restore 56 [some (.ref 0), none, none] [] my_S o g post → mj_Ev jX7_restore 27 [some (.ref 0), some (.int x1), some (.int x2)] [] my_S f g post := by
  intro n
  induction n with
  | zero =>
    intro x1 x2 f o hg hk
    cases hg
  | succ n ih =>
    intro x1 x2 f o hg hk
    unfold g_X7_restore_27 at hg
    refine ev_iload_n (q := 28) dX7_restore_27 rfl rfl ?_
    refine ev_bipush (v := 82) (q := 30) dX7_restore_28 mcb_82 rfl ?_
    refine ev_icmp_ge (t := 56) (q := 33) dX7_restore_30 rfl rfl hg (fun hg => ?_) (fun hg => ?_)
    · refine ev_aload_n (q := 34) dX7_restore_33 rfl rfl ?_
      refine ev_getfR (q := 37) mw_f_RX7_19 rfl rfl dX7_restore_34 rfl ?_
      refine ev_iload_n (q := 38) dX7_restore_37 rfl rfl ?_
      refine ev_aload_n (q := 39) dX7_restore_38 rfl rfl ?_
      refine ev_getfR (q := 42) mw_f_RX7_47 rfl rfl dX7_restore_39 rfl ?_
      refine ev_bipush (v := 82) (q := 44) dX7_restore_42 mcb_82 rfl ?_
      refine ev_iload_n (q := 45) dX7_restore_44 rfl rfl ?_
      refine ev_imul (q := 46) dX7_restore_45 rfl ?_
      refine ev_iload_n (q := 47) dX7_restore_46 rfl rfl ?_
      refine ev_iadd (q := 48) dX7_restore_47 rfl ?_
      obtain ⟨hi_5, hg⟩ := mj_gd hg
      refine ev_ialdk (q := 49) rfl hi_5 rfl dX7_restore_48 rfl ?_
      obtain ⟨hi_6, hg⟩ := mj_gd hg
      refine ev_iastk (q := 50) rfl hi_6 rfl dX7_restore_49 rfl ?_
      refine ev_nmf (fun f_6 hf_6 => ?_)
      have hg := mj_lt_el hf_6 hg
      refine ev_iinc (v := 1) (q := 53) (loc' := [some (.ref _), some (.int _), some (.int _)]) dX7_restore_50 rfl (by decide) mci_1 rfl rfl ?_
      refine ev_goto (q := 27) dX7_restore_53 rfl ?_
      exact ih _ _ _ _ hg hk
    · obtain rfl := Option.some.inj hg
      refine ev_wk (loc' := [some (.ref _), none, none]) ⟨rfl, trivial⟩ ?_
      exact hk
def g_X7_restore (x1 : Int32) (f : mj_I) : Option (Int32 × mj_I) :=
  if (g_X7_in (x1).toInt64 (0 : Int64) (1 : Int64)) = 0 then
   some (((-1000001 : Int32), f))
  else
   if mj_in x1 2 = true then
   if (f 12 (ix x1)) = 0 then
     some (((-1000002 : Int32), f))
    else
     (g_X7_restore_27 mj_fuel x1 (0 : Int32) f).bind (fun q_3 =>
     mj_lt (mj_wr q_3 0 18 (0 : Int32)) (fun f_4 =>
     some (((1 : Int32), f_4))))
   else none
theorem r_X7_restore {x1 : Int32} {f : mj_I} {g : mj_L} {o : Int32 × mj_I} (hg : g_X7_restore x1 f = some o) : mj_Sp jX7_restore my_S [.ref 0, .int x1] f g (fun v f' g' => some (.int o.1) = v ∧ o.2 = f' ∧ g = g') := by
  refine mj_sp 1 (by decide +kernel) rfl rfl (fun _ _ => Nat.le_of_ble_eq_true rfl) ?_
  show mj_Ev jX7_restore 0 [some (.ref 0), some (.int x1), none] [] my_S f g _
  unfold g_X7_restore at hg
  refine ev_iload_n (q := 1) dX7_restore_0 rfl rfl ?_
  refine ev_i2l (q := 2) dX7_restore_1 rfl ?_
  refine ev_lconst (v := 0) (q := 3) dX7_restore_2 mcl_0 rfl ?_
  refine ev_lconst (v := 1) (q := 4) dX7_restore_3 mcl_1 rfl ?_
  refine ev_callS (q := 7) kX7_in mw_t_X7_in mw_m_RX7_60 (r_X7_in rfl) rfl rfl (Nat.le_of_ble_eq_true rfl) (by decide) dX7_restore_4 rfl (fun v fv gv hp => ?_)
  obtain ⟨rfl, rfl, rfl, hr_1⟩ := hp
  refine ev_if_ne (t := 13) (q := 10) dX7_restore_7 rfl rfl hg (fun hg => ?_) (fun hg => ?_)
  · refine ev_ldc (q := 12) mw_c_RX7_70 dX7_restore_10 rfl ?_
    obtain rfl := Option.some.inj hg
    exact ev_iret dX7_restore_12 rfl ⟨rfl, rfl, rfl⟩
  · refine ev_aload_n (q := 14) dX7_restore_13 rfl rfl ?_
    refine ev_getfR (q := 17) mw_f_RX7_44 rfl rfl dX7_restore_14 rfl ?_
    refine ev_iload_n (q := 18) dX7_restore_17 rfl rfl ?_
    obtain ⟨hi_2, hg⟩ := mj_gd hg
    refine ev_zaldk (q := 19) rfl hi_2 rfl dX7_restore_18 rfl ?_
    refine ev_if_ne (t := 25) (q := 22) dX7_restore_19 rfl rfl hg (fun hg => ?_) (fun hg => ?_)
    · refine ev_ldc (q := 24) mw_c_RX7_193 dX7_restore_22 rfl ?_
      obtain rfl := Option.some.inj hg
      exact ev_iret dX7_restore_24 rfl ⟨rfl, rfl, rfl⟩
    · refine ev_iconst (v := 0) (q := 26) dX7_restore_25 mci_0 rfl ?_
      refine ev_istore_n (q := 27) (loc' := [some (.ref _), some (.int _), some (.int _)]) dX7_restore_26 (by decide) rfl rfl ?_
      obtain ⟨q_3, hq_3, hg⟩ := mj_bd hg
      refine r_X7_restore_27 mj_fuel _ _ _ _ hq_3 ?_
      refine ev_aload_n (q := 57) dX7_restore_56 rfl rfl ?_
      refine ev_iconst (v := 0) (q := 58) dX7_restore_57 mci_0 rfl ?_
      refine ev_putfI (q := 61) mw_f_RX7_158 rfl dX7_restore_58 rfl ?_
      refine ev_nmf (fun f_4 hf_4 => ?_)
      have hg := mj_lt_el hf_4 hg
      refine ev_iconst (v := 1) (q := 62) dX7_restore_61 mci_1 rfl ?_
      obtain rfl := Option.some.inj hg
      exact ev_iret dX7_restore_62 rfl ⟨rfl, rfl, rfl⟩
def g_X7_kind (x1 : Int32) (f : mj_I) : Option (Int32) :=
  if (g_X7_isCloud x1 f) = 0 then
   some ((-1000001 : Int32))
  else
   if mj_in ((51 : Int32) + x1) 82 = true then
   some ((f 4 (ix ((51 : Int32) + x1))))
   else none
theorem r_X7_kind {x1 : Int32} {f : mj_I} {g : mj_L} {o : Int32} (hg : g_X7_kind x1 f = some o) : mj_Sp jX7_kind my_S [.ref 0, .int x1] f g (fun v f' g' => some (.int o) = v ∧ f = f' ∧ g = g') := by
  refine mj_sp 0 (by decide +kernel) rfl rfl (fun _ _ => Nat.le_of_ble_eq_true rfl) ?_
  show mj_Ev jX7_kind 0 [some (.ref 0), some (.int x1)] [] my_S f g _
  unfold g_X7_kind at hg
  refine ev_aload_n (q := 1) dX7_kind_0 rfl rfl ?_
  refine ev_iload_n (q := 2) dX7_kind_1 rfl rfl ?_
  refine ev_callV (q := 5) kX7_isCloud mw_i_X7_isCloud mw_s_X7_isCloud mw_m_RX7_202 rfl rfl (r_X7_isCloud rfl) rfl rfl (Nat.le_of_ble_eq_true rfl) (by decide) dX7_kind_2 rfl (fun v fv gv hp => ?_)
  obtain ⟨rfl, rfl, rfl, hr_1⟩ := hp
  refine ev_if_eq (t := 20) (q := 8) dX7_kind_5 rfl rfl hg (fun hg => ?_) (fun hg => ?_)
  · refine ev_ldc (q := 22) mw_c_RX7_70 dX7_kind_20 rfl ?_
    obtain rfl := Option.some.inj hg
    exact ev_iret dX7_kind_22 rfl ⟨rfl, rfl, rfl⟩
  · refine ev_aload_n (q := 9) dX7_kind_8 rfl rfl ?_
    refine ev_getfR (q := 12) mw_f_RX7_19 rfl rfl dX7_kind_9 rfl ?_
    refine ev_bipush (v := 51) (q := 14) dX7_kind_12 mcb_51 rfl ?_
    refine ev_iload_n (q := 15) dX7_kind_14 rfl rfl ?_
    refine ev_iadd (q := 16) dX7_kind_15 rfl ?_
    obtain ⟨hi_2, hg⟩ := mj_gd hg
    refine ev_ialdk (q := 17) rfl hi_2 rfl dX7_kind_16 rfl ?_
    refine ev_goto (q := 22) dX7_kind_17 rfl ?_
    obtain rfl := Option.some.inj hg
    exact ev_iret dX7_kind_22 rfl ⟨rfl, rfl, rfl⟩
def g_X7_isKind_19 (x0 : Int32) (x1 : Int32) : Int32 :=
  if x1 = (4 : Int32) then
   if x0 = (5 : Int32) then
    (1 : Int32)
   else
    (0 : Int32)
  else
   (0 : Int32)
theorem r_X7_isKind_19 {f : mj_I} {g : mj_L} : ∀ (x0 : Int32) (x1 : Int32) (o : Int32), g_X7_isKind_19 x0 x1 = o → mj_Ev jX7_isKind 19 [some (.int x0), some (.int x1)] [] my_S f g (fun v f' g' => some (.int o) = v ∧ f = f' ∧ g = g' ∧ mj_b (o) = true) := by
  intro x0 x1 o hg
  unfold g_X7_isKind_19 at hg
  refine ev_iload_n (q := 20) dX7_isKind_19 rfl rfl ?_
  refine ev_iconst (v := 4) (q := 21) dX7_isKind_20 mci_4 rfl ?_
  refine ev_icmp_ne (t := 33) (q := 24) dX7_isKind_21 rfl rfl hg (fun hg => ?_) (fun hg => ?_)
  · refine ev_iload_n (q := 25) dX7_isKind_24 rfl rfl ?_
    refine ev_iconst (v := 5) (q := 26) dX7_isKind_25 mci_5 rfl ?_
    refine ev_icmp_ne (t := 33) (q := 29) dX7_isKind_26 rfl rfl hg (fun hg => ?_) (fun hg => ?_)
    · refine ev_iconst (v := 1) (q := 30) dX7_isKind_29 mci_1 rfl ?_
      refine ev_goto (q := 34) dX7_isKind_30 rfl ?_
      subst hg
      exact ev_zret dX7_isKind_34 rfl (mcz_1) ⟨rfl, rfl, rfl, (mcz_1)⟩
    · refine ev_iconst (v := 0) (q := 34) dX7_isKind_33 mci_0 rfl ?_
      subst hg
      exact ev_zret dX7_isKind_34 rfl (mcz_0) ⟨rfl, rfl, rfl, (mcz_0)⟩
  · refine ev_iconst (v := 0) (q := 34) dX7_isKind_33 mci_0 rfl ?_
    subst hg
    exact ev_zret dX7_isKind_34 rfl (mcz_0) ⟨rfl, rfl, rfl, (mcz_0)⟩
def g_X7_isKind (x0 : Int32) (x1 : Int32) : Int32 :=
  if x1 = 0 then
   (1 : Int32)
  else
   if x0 = x1 then
    (1 : Int32)
   else
    if x1 = (1 : Int32) then
     if x0 < (4 : Int32) then
      (1 : Int32)
     else
      g_X7_isKind_19 x0 x1
    else
     g_X7_isKind_19 x0 x1
theorem r_X7_isKind {x0 : Int32} {x1 : Int32} {f : mj_I} {g : mj_L} {o : Int32} (hg : g_X7_isKind x0 x1 = o) : mj_Sp jX7_isKind my_S [.int x0, .int x1] f g (fun v f' g' => some (.int o) = v ∧ f = f' ∧ g = g' ∧ mj_b (o) = true) := by
  refine mj_sp 0 (by decide +kernel) rfl rfl (fun _ _ => Nat.le_of_ble_eq_true rfl) ?_
  show mj_Ev jX7_isKind 0 [some (.int x0), some (.int x1)] [] my_S f g _
  unfold g_X7_isKind at hg
  refine ev_iload_n (q := 1) dX7_isKind_0 rfl rfl ?_
  refine ev_if_eq (t := 29) (q := 4) dX7_isKind_1 rfl rfl hg (fun hg => ?_) (fun hg => ?_)
  · refine ev_iconst (v := 1) (q := 30) dX7_isKind_29 mci_1 rfl ?_
    refine ev_goto (q := 34) dX7_isKind_30 rfl ?_
    subst hg
    exact ev_zret dX7_isKind_34 rfl (mcz_1) ⟨rfl, rfl, rfl, (mcz_1)⟩
  · refine ev_iload_n (q := 5) dX7_isKind_4 rfl rfl ?_
    refine ev_iload_n (q := 6) dX7_isKind_5 rfl rfl ?_
    refine ev_icmp_eq (t := 29) (q := 9) dX7_isKind_6 rfl rfl hg (fun hg => ?_) (fun hg => ?_)
    · refine ev_iconst (v := 1) (q := 30) dX7_isKind_29 mci_1 rfl ?_
      refine ev_goto (q := 34) dX7_isKind_30 rfl ?_
      subst hg
      exact ev_zret dX7_isKind_34 rfl (mcz_1) ⟨rfl, rfl, rfl, (mcz_1)⟩
    · refine ev_iload_n (q := 10) dX7_isKind_9 rfl rfl ?_
      refine ev_iconst (v := 1) (q := 11) dX7_isKind_10 mci_1 rfl ?_
      refine ev_icmp_ne (t := 19) (q := 14) dX7_isKind_11 rfl rfl hg (fun hg => ?_) (fun hg => ?_)
      · refine ev_iload_n (q := 15) dX7_isKind_14 rfl rfl ?_
        refine ev_iconst (v := 4) (q := 16) dX7_isKind_15 mci_4 rfl ?_
        refine ev_icmp_lt (t := 29) (q := 19) dX7_isKind_16 rfl rfl hg (fun hg => ?_) (fun hg => ?_)
        · refine ev_iconst (v := 1) (q := 30) dX7_isKind_29 mci_1 rfl ?_
          refine ev_goto (q := 34) dX7_isKind_30 rfl ?_
          subst hg
          exact ev_zret dX7_isKind_34 rfl (mcz_1) ⟨rfl, rfl, rfl, (mcz_1)⟩
        · exact r_X7_isKind_19 _ _ _ hg
      · exact r_X7_isKind_19 _ _ _ hg
def g_X7_as (x1 : Int32) (x2 : Int32) (f : mj_I) : Option (Int32 × mj_I) :=
  if (g_X7_isCloud x1 f) = 0 then
   some (((-1000001 : Int32), f))
  else
   if (g_X7_in (x2).toInt64 (0 : Int64) (5 : Int64)) = 0 then
    some (((-1000001 : Int32), f))
   else
    if mj_in ((51 : Int32) + x1) 82 = true then
    if (g_X7_isKind (f 4 (ix ((51 : Int32) + x1))) x2) = 0 then
      mj_lt (g_X7_find (3 : Int32) f) (fun o_5 =>
      some ((o_5.1, o_5.2)))
     else
      mj_lt (g_X7_well x1 f) (fun o_6 =>
      some ((o_6.1, o_6.2)))
    else none
theorem r_X7_as {x1 : Int32} {x2 : Int32} {f : mj_I} {g : mj_L} {o : Int32 × mj_I} (hg : g_X7_as x1 x2 f = some o) : mj_Sp jX7_as my_S [.ref 0, .int x1, .int x2] f g (fun v f' g' => some (.int o.1) = v ∧ o.2 = f' ∧ g = g') := by
  refine mj_sp 0 (by decide +kernel) rfl rfl (fun _ _ => Nat.le_of_ble_eq_true rfl) ?_
  show mj_Ev jX7_as 0 [some (.ref 0), some (.int x1), some (.int x2)] [] my_S f g _
  unfold g_X7_as at hg
  refine ev_aload_n (q := 1) dX7_as_0 rfl rfl ?_
  refine ev_iload_n (q := 2) dX7_as_1 rfl rfl ?_
  refine ev_callV (q := 5) kX7_isCloud mw_i_X7_isCloud mw_s_X7_isCloud mw_m_RX7_202 rfl rfl (r_X7_isCloud rfl) rfl rfl (Nat.le_of_ble_eq_true rfl) (by decide) dX7_as_2 rfl (fun v fv gv hp => ?_)
  obtain ⟨rfl, rfl, rfl, hr_1⟩ := hp
  refine ev_if_eq (t := 20) (q := 8) dX7_as_5 rfl rfl hg (fun hg => ?_) (fun hg => ?_)
  · refine ev_ldc (q := 22) mw_c_RX7_70 dX7_as_20 rfl ?_
    obtain rfl := Option.some.inj hg
    exact ev_iret dX7_as_22 rfl ⟨rfl, rfl, rfl⟩
  · refine ev_iload_n (q := 9) dX7_as_8 rfl rfl ?_
    refine ev_i2l (q := 10) dX7_as_9 rfl ?_
    refine ev_lconst (v := 0) (q := 11) dX7_as_10 mcl_0 rfl ?_
    refine ev_ldc2 (q := 14) mw_c_RX7_222 dX7_as_11 rfl ?_
    refine ev_callS (q := 17) kX7_in mw_t_X7_in mw_m_RX7_60 (r_X7_in rfl) rfl rfl (Nat.le_of_ble_eq_true rfl) (by decide) dX7_as_14 rfl (fun v fv gv hp => ?_)
    obtain ⟨rfl, rfl, rfl, hr_2⟩ := hp
    refine ev_if_ne (t := 23) (q := 20) dX7_as_17 rfl rfl hg (fun hg => ?_) (fun hg => ?_)
    · refine ev_ldc (q := 22) mw_c_RX7_70 dX7_as_20 rfl ?_
      obtain rfl := Option.some.inj hg
      exact ev_iret dX7_as_22 rfl ⟨rfl, rfl, rfl⟩
    · refine ev_aload_n (q := 24) dX7_as_23 rfl rfl ?_
      refine ev_getfR (q := 27) mw_f_RX7_19 rfl rfl dX7_as_24 rfl ?_
      refine ev_bipush (v := 51) (q := 29) dX7_as_27 mcb_51 rfl ?_
      refine ev_iload_n (q := 30) dX7_as_29 rfl rfl ?_
      refine ev_iadd (q := 31) dX7_as_30 rfl ?_
      obtain ⟨hi_3, hg⟩ := mj_gd hg
      refine ev_ialdk (q := 32) rfl hi_3 rfl dX7_as_31 rfl ?_
      refine ev_iload_n (q := 33) dX7_as_32 rfl rfl ?_
      refine ev_callS (q := 36) kX7_isKind mw_t_X7_isKind mw_m_RX7_278 (r_X7_isKind rfl) rfl rfl (Nat.le_of_ble_eq_true rfl) (by decide) dX7_as_33 rfl (fun v fv gv hp => ?_)
      obtain ⟨rfl, rfl, rfl, hr_4⟩ := hp
      refine ev_if_eq (t := 47) (q := 39) dX7_as_36 rfl rfl hg (fun hg => ?_) (fun hg => ?_)
      · refine ev_aload_n (q := 48) dX7_as_47 rfl rfl ?_
        refine ev_iconst (v := 3) (q := 49) dX7_as_48 mci_3 rfl ?_
        obtain ⟨o_5, ho_5, hg⟩ := mj_lte hg
        refine ev_callV (q := 52) kX7_find mw_i_X7_find mw_s_X7_find mw_m_RX7_71 rfl rfl (r_X7_find ho_5) rfl rfl (Nat.le_of_ble_eq_true rfl) (by decide) dX7_as_49 rfl (fun v fv gv hp => ?_)
        obtain ⟨rfl, rfl, rfl⟩ := hp
        obtain rfl := Option.some.inj hg
        exact ev_iret dX7_as_52 rfl ⟨rfl, rfl, rfl⟩
      · refine ev_aload_n (q := 40) dX7_as_39 rfl rfl ?_
        refine ev_iload_n (q := 41) dX7_as_40 rfl rfl ?_
        obtain ⟨o_6, ho_6, hg⟩ := mj_lte hg
        refine ev_callV (q := 44) kX7_well mw_i_X7_well mw_s_X7_well mw_m_RX7_75 rfl rfl (r_X7_well ho_6) rfl rfl (Nat.le_of_ble_eq_true rfl) (by decide) dX7_as_41 rfl (fun v fv gv hp => ?_)
        obtain ⟨rfl, rfl, rfl⟩ := hp
        refine ev_goto (q := 52) dX7_as_44 rfl ?_
        obtain rfl := Option.some.inj hg
        exact ev_iret dX7_as_52 rfl ⟨rfl, rfl, rfl⟩
def g_X7_begin (x1 : Int32) (f : mj_I) : Option (mj_I) :=
  if (f 0 28) < (16 : Int32) then
   if mj_in (f 0 28) 16 = true then
   mj_lt (mj_wr f 14 (ix (f 0 28)) x1) (fun f_1 =>
    mj_lt (mj_wr f_1 0 28 ((f_1 0 28) + (1 : Int32))) (fun f_2 =>
    some (f_2)))
   else none
  else
   some (f)
theorem r_X7_begin {x1 : Int32} {f : mj_I} {g : mj_L} {o : mj_I} (hg : g_X7_begin x1 f = some o) : mj_Sp jX7_begin my_S [.ref 0, .int x1] f g (fun v f' g' => none = v ∧ o = f' ∧ g = g') := by
  refine mj_sp 0 (by decide +kernel) rfl rfl (fun _ _ => Nat.le_of_ble_eq_true rfl) ?_
  show mj_Ev jX7_begin 0 [some (.ref 0), some (.int x1)] [] my_S f g _
  unfold g_X7_begin at hg
  refine ev_aload_n (q := 1) dX7_begin_0 rfl rfl ?_
  refine ev_getfI (q := 4) mw_f_RX7_281 (by decide) (by decide) rfl dX7_begin_1 rfl ?_
  refine ev_bipush (v := 16) (q := 6) dX7_begin_4 mcb_16 rfl ?_
  refine ev_icmp_ge (t := 29) (q := 9) dX7_begin_6 rfl rfl hg (fun hg => ?_) (fun hg => ?_)
  · refine ev_aload_n (q := 10) dX7_begin_9 rfl rfl ?_
    refine ev_getfR (q := 13) mw_f_RX7_50 rfl rfl dX7_begin_10 rfl ?_
    refine ev_aload_n (q := 14) dX7_begin_13 rfl rfl ?_
    refine ev_getfI (q := 17) mw_f_RX7_281 (by decide) (by decide) rfl dX7_begin_14 rfl ?_
    refine ev_iload_n (q := 18) dX7_begin_17 rfl rfl ?_
    obtain ⟨hi_1, hg⟩ := mj_gd hg
    refine ev_iastk (q := 19) rfl hi_1 rfl dX7_begin_18 rfl ?_
    refine ev_nmf (fun f_1 hf_1 => ?_)
    have hg := mj_lt_el hf_1 hg
    refine ev_aload_n (q := 20) dX7_begin_19 rfl rfl ?_
    refine ev_dup (q := 21) dX7_begin_20 rfl rfl ?_
    refine ev_getfI (q := 24) mw_f_RX7_281 (by decide) (by decide) rfl dX7_begin_21 rfl ?_
    refine ev_iconst (v := 1) (q := 25) dX7_begin_24 mci_1 rfl ?_
    refine ev_iadd (q := 26) dX7_begin_25 rfl ?_
    refine ev_putfI (q := 29) mw_f_RX7_281 rfl dX7_begin_26 rfl ?_
    refine ev_nmf (fun f_2 hf_2 => ?_)
    have hg := mj_lt_el hf_2 hg
    obtain rfl := Option.some.inj hg
    exact ev_vret dX7_begin_29 rfl ⟨rfl, rfl, rfl⟩
  · obtain rfl := Option.some.inj hg
    exact ev_vret dX7_begin_29 rfl ⟨rfl, rfl, rfl⟩
def g_X7_lent (x1 : Int32) (x2 : Int32) (f : mj_I) : Option (Int32 × mj_I) :=
  (g_X7_begin x2 f).bind (fun o_1 =>
  if x2 = (10 : Int32) then
   if mj_in ((66 : Int32) + x1) 82 = true then
   some (((o_1 4 (ix ((66 : Int32) + x1))), o_1))
   else none
  else
   some ((x1, o_1)))
theorem r_X7_lent {x1 : Int32} {x2 : Int32} {f : mj_I} {g : mj_L} {o : Int32 × mj_I} (hg : g_X7_lent x1 x2 f = some o) : mj_Sp jX7_lent my_S [.ref 0, .int x1, .int x2] f g (fun v f' g' => some (.int o.1) = v ∧ o.2 = f' ∧ g = g') := by
  refine mj_sp 0 (by decide +kernel) rfl rfl (fun _ _ => Nat.le_of_ble_eq_true rfl) ?_
  show mj_Ev jX7_lent 0 [some (.ref 0), some (.int x1), some (.int x2)] [] my_S f g _
  unfold g_X7_lent at hg
  refine ev_aload_n (q := 1) dX7_lent_0 rfl rfl ?_
  refine ev_iload_n (q := 2) dX7_lent_1 rfl rfl ?_
  obtain ⟨o_1, ho_1, hg⟩ := mj_bd hg
  refine ev_callV (q := 5) kX7_begin mw_i_X7_begin mw_s_X7_begin mw_m_RX7_284 rfl rfl (r_X7_begin ho_1) rfl rfl (Nat.le_of_ble_eq_true rfl) (by decide) dX7_lent_2 rfl (fun v fv gv hp => ?_)
  obtain ⟨rfl, rfl, rfl⟩ := hp
  refine ev_iload_n (q := 6) dX7_lent_5 rfl rfl ?_
  refine ev_bipush (v := 10) (q := 8) dX7_lent_6 mcb_10 rfl ?_
  refine ev_icmp_ne (t := 23) (q := 11) dX7_lent_8 rfl rfl hg (fun hg => ?_) (fun hg => ?_)
  · refine ev_aload_n (q := 12) dX7_lent_11 rfl rfl ?_
    refine ev_getfR (q := 15) mw_f_RX7_19 rfl rfl dX7_lent_12 rfl ?_
    refine ev_bipush (v := 66) (q := 17) dX7_lent_15 mcb_66 rfl ?_
    refine ev_iload_n (q := 18) dX7_lent_17 rfl rfl ?_
    refine ev_iadd (q := 19) dX7_lent_18 rfl ?_
    obtain ⟨hi_2, hg⟩ := mj_gd hg
    refine ev_ialdk (q := 20) rfl hi_2 rfl dX7_lent_19 rfl ?_
    refine ev_goto (q := 24) dX7_lent_20 rfl ?_
    obtain rfl := Option.some.inj hg
    exact ev_iret dX7_lent_24 rfl ⟨rfl, rfl, rfl⟩
  · refine ev_iload_n (q := 24) dX7_lent_23 rfl rfl ?_
    obtain rfl := Option.some.inj hg
    exact ev_iret dX7_lent_24 rfl ⟨rfl, rfl, rfl⟩
def g_X7_whiteMark (x1 : Int32) (f : mj_I) : Option (Int32 × mj_I) :=
  (g_X7_begin (21 : Int32) f).bind (fun o_1 =>
  (g_X7_lent x1 (20 : Int32) o_1).bind (fun o_2 =>
  if mj_in ((56 : Int32) + x1) 82 = true then
  some (((o_2.1 + (o_2.2 4 (ix ((56 : Int32) + x1)))), o_2.2))
  else none))
theorem r_X7_whiteMark {x1 : Int32} {f : mj_I} {g : mj_L} {o : Int32 × mj_I} (hg : g_X7_whiteMark x1 f = some o) : mj_Sp jX7_whiteMark my_S [.ref 0, .int x1] f g (fun v f' g' => some (.int o.1) = v ∧ o.2 = f' ∧ g = g') := by
  refine mj_sp 0 (by decide +kernel) rfl rfl (fun _ _ => Nat.le_of_ble_eq_true rfl) ?_
  show mj_Ev jX7_whiteMark 0 [some (.ref 0), some (.int x1)] [] my_S f g _
  unfold g_X7_whiteMark at hg
  refine ev_aload_n (q := 1) dX7_whiteMark_0 rfl rfl ?_
  refine ev_bipush (v := 21) (q := 3) dX7_whiteMark_1 mcb_21 rfl ?_
  obtain ⟨o_1, ho_1, hg⟩ := mj_bd hg
  refine ev_callV (q := 6) kX7_begin mw_i_X7_begin mw_s_X7_begin mw_m_RX7_284 rfl rfl (r_X7_begin ho_1) rfl rfl (Nat.le_of_ble_eq_true rfl) (by decide) dX7_whiteMark_3 rfl (fun v fv gv hp => ?_)
  obtain ⟨rfl, rfl, rfl⟩ := hp
  refine ev_aload_n (q := 7) dX7_whiteMark_6 rfl rfl ?_
  refine ev_iload_n (q := 8) dX7_whiteMark_7 rfl rfl ?_
  refine ev_bipush (v := 20) (q := 10) dX7_whiteMark_8 mcb_20 rfl ?_
  obtain ⟨o_2, ho_2, hg⟩ := mj_bd hg
  refine ev_callV (q := 13) kX7_lent mw_i_X7_lent mw_s_X7_lent mw_m_RX7_287 rfl rfl (r_X7_lent ho_2) rfl rfl (Nat.le_of_ble_eq_true rfl) (by decide) dX7_whiteMark_10 rfl (fun v fv gv hp => ?_)
  obtain ⟨rfl, rfl, rfl⟩ := hp
  refine ev_aload_n (q := 14) dX7_whiteMark_13 rfl rfl ?_
  refine ev_getfR (q := 17) mw_f_RX7_19 rfl rfl dX7_whiteMark_14 rfl ?_
  refine ev_bipush (v := 56) (q := 19) dX7_whiteMark_17 mcb_56 rfl ?_
  refine ev_iload_n (q := 20) dX7_whiteMark_19 rfl rfl ?_
  refine ev_iadd (q := 21) dX7_whiteMark_20 rfl ?_
  obtain ⟨hi_3, hg⟩ := mj_gd hg
  refine ev_ialdk (q := 22) rfl hi_3 rfl dX7_whiteMark_21 rfl ?_
  refine ev_iadd (q := 23) dX7_whiteMark_22 rfl ?_
  obtain rfl := Option.some.inj hg
  exact ev_iret dX7_whiteMark_23 rfl ⟨rfl, rfl, rfl⟩
def g_X7_fogSize (x1 : Int32) (f : mj_I) : Option (Int32 × mj_I) :=
  (g_X7_begin (13 : Int32) f).bind (fun o_1 =>
  (g_X7_lent x1 (10 : Int32) o_1).bind (fun o_2 =>
  some (((o_2.1 - (100 : Int32)), o_2.2))))
theorem r_X7_fogSize {x1 : Int32} {f : mj_I} {g : mj_L} {o : Int32 × mj_I} (hg : g_X7_fogSize x1 f = some o) : mj_Sp jX7_fogSize my_S [.ref 0, .int x1] f g (fun v f' g' => some (.int o.1) = v ∧ o.2 = f' ∧ g = g') := by
  refine mj_sp 0 (by decide +kernel) rfl rfl (fun _ _ => Nat.le_of_ble_eq_true rfl) ?_
  show mj_Ev jX7_fogSize 0 [some (.ref 0), some (.int x1)] [] my_S f g _
  unfold g_X7_fogSize at hg
  refine ev_aload_n (q := 1) dX7_fogSize_0 rfl rfl ?_
  refine ev_bipush (v := 13) (q := 3) dX7_fogSize_1 mcb_13 rfl ?_
  obtain ⟨o_1, ho_1, hg⟩ := mj_bd hg
  refine ev_callV (q := 6) kX7_begin mw_i_X7_begin mw_s_X7_begin mw_m_RX7_284 rfl rfl (r_X7_begin ho_1) rfl rfl (Nat.le_of_ble_eq_true rfl) (by decide) dX7_fogSize_3 rfl (fun v fv gv hp => ?_)
  obtain ⟨rfl, rfl, rfl⟩ := hp
  refine ev_aload_n (q := 7) dX7_fogSize_6 rfl rfl ?_
  refine ev_iload_n (q := 8) dX7_fogSize_7 rfl rfl ?_
  refine ev_bipush (v := 10) (q := 10) dX7_fogSize_8 mcb_10 rfl ?_
  obtain ⟨o_2, ho_2, hg⟩ := mj_bd hg
  refine ev_callV (q := 13) kX7_lent mw_i_X7_lent mw_s_X7_lent mw_m_RX7_287 rfl rfl (r_X7_lent ho_2) rfl rfl (Nat.le_of_ble_eq_true rfl) (by decide) dX7_fogSize_10 rfl (fun v fv gv hp => ?_)
  obtain ⟨rfl, rfl, rfl⟩ := hp
  refine ev_bipush (v := 100) (q := 15) dX7_fogSize_13 mcb_100 rfl ?_
  refine ev_isub (q := 16) dX7_fogSize_15 rfl ?_
  obtain rfl := Option.some.inj hg
  exact ev_iret dX7_fogSize_16 rfl ⟨rfl, rfl, rfl⟩
def g_X7_sizeOfFog (x1 : Int32) (f : mj_I) : Option (Int32 × mj_I) :=
  if mj_in ((51 : Int32) + x1) 82 = true then
  if (f 4 (ix ((51 : Int32) + x1))) = (5 : Int32) then
    (g_X7_begin (14 : Int32) f).bind (fun o_2 =>
    (g_X7_fogSize x1 o_2).bind (fun o_3 =>
    some ((((2 : Int32) * o_3.1), o_3.2))))
   else
    (g_X7_fogSize x1 f).bind (fun o_4 =>
    some ((o_4.1, o_4.2)))
  else none
theorem r_X7_sizeOfFog {x1 : Int32} {f : mj_I} {g : mj_L} {o : Int32 × mj_I} (hg : g_X7_sizeOfFog x1 f = some o) : mj_Sp jX7_sizeOfFog my_S [.ref 0, .int x1] f g (fun v f' g' => some (.int o.1) = v ∧ o.2 = f' ∧ g = g') := by
  refine mj_sp 0 (by decide +kernel) rfl rfl (fun _ _ => Nat.le_of_ble_eq_true rfl) ?_
  show mj_Ev jX7_sizeOfFog 0 [some (.ref 0), some (.int x1)] [] my_S f g _
  unfold g_X7_sizeOfFog at hg
  refine ev_aload_n (q := 1) dX7_sizeOfFog_0 rfl rfl ?_
  refine ev_getfR (q := 4) mw_f_RX7_19 rfl rfl dX7_sizeOfFog_1 rfl ?_
  refine ev_bipush (v := 51) (q := 6) dX7_sizeOfFog_4 mcb_51 rfl ?_
  refine ev_iload_n (q := 7) dX7_sizeOfFog_6 rfl rfl ?_
  refine ev_iadd (q := 8) dX7_sizeOfFog_7 rfl ?_
  obtain ⟨hi_1, hg⟩ := mj_gd hg
  refine ev_ialdk (q := 9) rfl hi_1 rfl dX7_sizeOfFog_8 rfl ?_
  refine ev_iconst (v := 5) (q := 10) dX7_sizeOfFog_9 mci_5 rfl ?_
  refine ev_icmp_ne (t := 27) (q := 13) dX7_sizeOfFog_10 rfl rfl hg (fun hg => ?_) (fun hg => ?_)
  · refine ev_aload_n (q := 14) dX7_sizeOfFog_13 rfl rfl ?_
    refine ev_bipush (v := 14) (q := 16) dX7_sizeOfFog_14 mcb_14 rfl ?_
    obtain ⟨o_2, ho_2, hg⟩ := mj_bd hg
    refine ev_callV (q := 19) kX7_begin mw_i_X7_begin mw_s_X7_begin mw_m_RX7_284 rfl rfl (r_X7_begin ho_2) rfl rfl (Nat.le_of_ble_eq_true rfl) (by decide) dX7_sizeOfFog_16 rfl (fun v fv gv hp => ?_)
    obtain ⟨rfl, rfl, rfl⟩ := hp
    refine ev_iconst (v := 2) (q := 20) dX7_sizeOfFog_19 mci_2 rfl ?_
    refine ev_aload_n (q := 21) dX7_sizeOfFog_20 rfl rfl ?_
    refine ev_iload_n (q := 22) dX7_sizeOfFog_21 rfl rfl ?_
    obtain ⟨o_3, ho_3, hg⟩ := mj_bd hg
    refine ev_callV (q := 25) kX7_fogSize mw_i_X7_fogSize mw_s_X7_fogSize mw_m_RX7_290 rfl rfl (r_X7_fogSize ho_3) rfl rfl (Nat.le_of_ble_eq_true rfl) (by decide) dX7_sizeOfFog_22 rfl (fun v fv gv hp => ?_)
    obtain ⟨rfl, rfl, rfl⟩ := hp
    refine ev_imul (q := 26) dX7_sizeOfFog_25 rfl ?_
    obtain rfl := Option.some.inj hg
    exact ev_iret dX7_sizeOfFog_26 rfl ⟨rfl, rfl, rfl⟩
  · refine ev_aload_n (q := 28) dX7_sizeOfFog_27 rfl rfl ?_
    refine ev_iload_n (q := 29) dX7_sizeOfFog_28 rfl rfl ?_
    obtain ⟨o_4, ho_4, hg⟩ := mj_bd hg
    refine ev_callV (q := 32) kX7_fogSize mw_i_X7_fogSize mw_s_X7_fogSize mw_m_RX7_290 rfl rfl (r_X7_fogSize ho_4) rfl rfl (Nat.le_of_ble_eq_true rfl) (by decide) dX7_sizeOfFog_29 rfl (fun v fv gv hp => ?_)
    obtain ⟨rfl, rfl, rfl⟩ := hp
    obtain rfl := Option.some.inj hg
    exact ev_iret dX7_sizeOfFog_32 rfl ⟨rfl, rfl, rfl⟩
def g_X7_markOf (x1 : Int32) (f : mj_I) : Option (Int32 × mj_I) :=
  if mj_in ((51 : Int32) + x1) 82 = true then
  mj_lt ((f 4 (ix ((51 : Int32) + x1)))) (fun u_2 =>
   if u_2 = (2 : Int32) then
    (g_X7_begin (24 : Int32) f).bind (fun o_3 =>
    (g_X7_whiteMark x1 o_3).bind (fun o_4 =>
    some ((((2 : Int32) * o_4.1), o_4.2))))
   else
    if u_2 = (3 : Int32) then
     (g_X7_begin (22 : Int32) f).bind (fun o_5 =>
     (g_X7_whiteMark x1 o_5).bind (fun o_6 =>
     some (((o_6.1 - (1000 : Int32)), o_6.2))))
    else
     if u_2 = (1 : Int32) then
      (g_X7_whiteMark x1 f).bind (fun o_7 =>
      some ((o_7.1, o_7.2)))
     else
      (g_X7_begin (23 : Int32) f).bind (fun o_8 =>
      (g_X7_lent x1 (20 : Int32) o_8).bind (fun o_9 =>
      (g_X7_sizeOfFog x1 o_9.2).bind (fun o_10 =>
      some (((o_9.1 - o_10.1), o_10.2))))))
  else none
theorem r_X7_markOf {x1 : Int32} {f : mj_I} {g : mj_L} {o : Int32 × mj_I} (hg : g_X7_markOf x1 f = some o) : mj_Sp jX7_markOf my_S [.ref 0, .int x1] f g (fun v f' g' => some (.int o.1) = v ∧ o.2 = f' ∧ g = g') := by
  refine mj_sp 2 (by decide +kernel) rfl rfl (fun _ _ => Nat.le_of_ble_eq_true rfl) ?_
  show mj_Ev jX7_markOf 0 [some (.ref 0), some (.int x1), none, none] [] my_S f g _
  unfold g_X7_markOf at hg
  refine ev_aload_n (q := 1) dX7_markOf_0 rfl rfl ?_
  refine ev_getfR (q := 4) mw_f_RX7_19 rfl rfl dX7_markOf_1 rfl ?_
  refine ev_bipush (v := 51) (q := 6) dX7_markOf_4 mcb_51 rfl ?_
  refine ev_iload_n (q := 7) dX7_markOf_6 rfl rfl ?_
  refine ev_iadd (q := 8) dX7_markOf_7 rfl ?_
  obtain ⟨hi_1, hg⟩ := mj_gd hg
  refine ev_ialdk (q := 9) rfl hi_1 rfl dX7_markOf_8 rfl ?_
  refine ev_nmi (fun u_2 hu_2 => ?_)
  have hg := mj_lt_el hu_2 hg
  refine ev_istore_n (q := 10) (loc' := [some (.ref _), some (.int _), some (.int _), none]) dX7_markOf_9 (by decide) rfl rfl ?_
  refine ev_iload_n (q := 11) dX7_markOf_10 rfl rfl ?_
  refine ev_iconst (v := 2) (q := 12) dX7_markOf_11 mci_2 rfl ?_
  refine ev_icmp_ne (t := 29) (q := 15) dX7_markOf_12 rfl rfl hg (fun hg => ?_) (fun hg => ?_)
  · refine ev_aload_n (q := 16) dX7_markOf_15 rfl rfl ?_
    refine ev_bipush (v := 24) (q := 18) dX7_markOf_16 mcb_24 rfl ?_
    obtain ⟨o_3, ho_3, hg⟩ := mj_bd hg
    refine ev_callV (q := 21) kX7_begin mw_i_X7_begin mw_s_X7_begin mw_m_RX7_284 rfl rfl (r_X7_begin ho_3) rfl rfl (Nat.le_of_ble_eq_true rfl) (by decide) dX7_markOf_18 rfl (fun v fv gv hp => ?_)
    obtain ⟨rfl, rfl, rfl⟩ := hp
    refine ev_iconst (v := 2) (q := 22) dX7_markOf_21 mci_2 rfl ?_
    refine ev_aload_n (q := 23) dX7_markOf_22 rfl rfl ?_
    refine ev_iload_n (q := 24) dX7_markOf_23 rfl rfl ?_
    obtain ⟨o_4, ho_4, hg⟩ := mj_bd hg
    refine ev_callV (q := 27) kX7_whiteMark mw_i_X7_whiteMark mw_s_X7_whiteMark mw_m_RX7_293 rfl rfl (r_X7_whiteMark ho_4) rfl rfl (Nat.le_of_ble_eq_true rfl) (by decide) dX7_markOf_24 rfl (fun v fv gv hp => ?_)
    obtain ⟨rfl, rfl, rfl⟩ := hp
    refine ev_imul (q := 28) dX7_markOf_27 rfl ?_
    obtain rfl := Option.some.inj hg
    exact ev_iret dX7_markOf_28 rfl ⟨rfl, rfl, rfl⟩
  · refine ev_iload_n (q := 30) dX7_markOf_29 rfl rfl ?_
    refine ev_iconst (v := 3) (q := 31) dX7_markOf_30 mci_3 rfl ?_
    refine ev_icmp_ne (t := 50) (q := 34) dX7_markOf_31 rfl rfl hg (fun hg => ?_) (fun hg => ?_)
    · refine ev_aload_n (q := 35) dX7_markOf_34 rfl rfl ?_
      refine ev_bipush (v := 22) (q := 37) dX7_markOf_35 mcb_22 rfl ?_
      obtain ⟨o_5, ho_5, hg⟩ := mj_bd hg
      refine ev_callV (q := 40) kX7_begin mw_i_X7_begin mw_s_X7_begin mw_m_RX7_284 rfl rfl (r_X7_begin ho_5) rfl rfl (Nat.le_of_ble_eq_true rfl) (by decide) dX7_markOf_37 rfl (fun v fv gv hp => ?_)
      obtain ⟨rfl, rfl, rfl⟩ := hp
      refine ev_aload_n (q := 41) dX7_markOf_40 rfl rfl ?_
      refine ev_iload_n (q := 42) dX7_markOf_41 rfl rfl ?_
      obtain ⟨o_6, ho_6, hg⟩ := mj_bd hg
      refine ev_callV (q := 45) kX7_whiteMark mw_i_X7_whiteMark mw_s_X7_whiteMark mw_m_RX7_293 rfl rfl (r_X7_whiteMark ho_6) rfl rfl (Nat.le_of_ble_eq_true rfl) (by decide) dX7_markOf_42 rfl (fun v fv gv hp => ?_)
      obtain ⟨rfl, rfl, rfl⟩ := hp
      refine ev_sipush (v := 1000) (q := 48) dX7_markOf_45 mcs_1000 rfl ?_
      refine ev_isub (q := 49) dX7_markOf_48 rfl ?_
      obtain rfl := Option.some.inj hg
      exact ev_iret dX7_markOf_49 rfl ⟨rfl, rfl, rfl⟩
    · refine ev_iload_n (q := 51) dX7_markOf_50 rfl rfl ?_
      refine ev_iconst (v := 1) (q := 52) dX7_markOf_51 mci_1 rfl ?_
      refine ev_icmp_ne (t := 61) (q := 55) dX7_markOf_52 rfl rfl hg (fun hg => ?_) (fun hg => ?_)
      · refine ev_aload_n (q := 56) dX7_markOf_55 rfl rfl ?_
        refine ev_iload_n (q := 57) dX7_markOf_56 rfl rfl ?_
        obtain ⟨o_7, ho_7, hg⟩ := mj_bd hg
        refine ev_callV (q := 60) kX7_whiteMark mw_i_X7_whiteMark mw_s_X7_whiteMark mw_m_RX7_293 rfl rfl (r_X7_whiteMark ho_7) rfl rfl (Nat.le_of_ble_eq_true rfl) (by decide) dX7_markOf_57 rfl (fun v fv gv hp => ?_)
        obtain ⟨rfl, rfl, rfl⟩ := hp
        obtain rfl := Option.some.inj hg
        exact ev_iret dX7_markOf_60 rfl ⟨rfl, rfl, rfl⟩
      · refine ev_aload_n (q := 62) dX7_markOf_61 rfl rfl ?_
        refine ev_bipush (v := 23) (q := 64) dX7_markOf_62 mcb_23 rfl ?_
        obtain ⟨o_8, ho_8, hg⟩ := mj_bd hg
        refine ev_callV (q := 67) kX7_begin mw_i_X7_begin mw_s_X7_begin mw_m_RX7_284 rfl rfl (r_X7_begin ho_8) rfl rfl (Nat.le_of_ble_eq_true rfl) (by decide) dX7_markOf_64 rfl (fun v fv gv hp => ?_)
        obtain ⟨rfl, rfl, rfl⟩ := hp
        refine ev_aload_n (q := 68) dX7_markOf_67 rfl rfl ?_
        refine ev_iload_n (q := 69) dX7_markOf_68 rfl rfl ?_
        refine ev_bipush (v := 20) (q := 71) dX7_markOf_69 mcb_20 rfl ?_
        obtain ⟨o_9, ho_9, hg⟩ := mj_bd hg
        refine ev_callV (q := 74) kX7_lent mw_i_X7_lent mw_s_X7_lent mw_m_RX7_287 rfl rfl (r_X7_lent ho_9) rfl rfl (Nat.le_of_ble_eq_true rfl) (by decide) dX7_markOf_71 rfl (fun v fv gv hp => ?_)
        obtain ⟨rfl, rfl, rfl⟩ := hp
        refine ev_istore_n (q := 75) (loc' := [some (.ref _), some (.int _), some (.int _), some (.int _)]) dX7_markOf_74 (by decide) rfl rfl ?_
        refine ev_iload_n (q := 76) dX7_markOf_75 rfl rfl ?_
        refine ev_aload_n (q := 77) dX7_markOf_76 rfl rfl ?_
        refine ev_iload_n (q := 78) dX7_markOf_77 rfl rfl ?_
        obtain ⟨o_10, ho_10, hg⟩ := mj_bd hg
        refine ev_callV (q := 81) kX7_sizeOfFog mw_i_X7_sizeOfFog mw_s_X7_sizeOfFog mw_m_RX7_296 rfl rfl (r_X7_sizeOfFog ho_10) rfl rfl (Nat.le_of_ble_eq_true rfl) (by decide) dX7_markOf_78 rfl (fun v fv gv hp => ?_)
        obtain ⟨rfl, rfl, rfl⟩ := hp
        refine ev_isub (q := 82) dX7_markOf_81 rfl ?_
        obtain rfl := Option.some.inj hg
        exact ev_iret dX7_markOf_82 rfl ⟨rfl, rfl, rfl⟩
def g_X7_whiteSize (x1 : Int32) (f : mj_I) : Option (Int32 × mj_I) :=
  (g_X7_begin (11 : Int32) f).bind (fun o_1 =>
  (g_X7_lent x1 (10 : Int32) o_1).bind (fun o_2 =>
  (g_X7_markOf x1 o_2.2).bind (fun o_3 =>
  some (((o_2.1 + o_3.1), o_3.2)))))
theorem r_X7_whiteSize {x1 : Int32} {f : mj_I} {g : mj_L} {o : Int32 × mj_I} (hg : g_X7_whiteSize x1 f = some o) : mj_Sp jX7_whiteSize my_S [.ref 0, .int x1] f g (fun v f' g' => some (.int o.1) = v ∧ o.2 = f' ∧ g = g') := by
  refine mj_sp 1 (by decide +kernel) rfl rfl (fun _ _ => Nat.le_of_ble_eq_true rfl) ?_
  show mj_Ev jX7_whiteSize 0 [some (.ref 0), some (.int x1), none] [] my_S f g _
  unfold g_X7_whiteSize at hg
  refine ev_aload_n (q := 1) dX7_whiteSize_0 rfl rfl ?_
  refine ev_bipush (v := 11) (q := 3) dX7_whiteSize_1 mcb_11 rfl ?_
  obtain ⟨o_1, ho_1, hg⟩ := mj_bd hg
  refine ev_callV (q := 6) kX7_begin mw_i_X7_begin mw_s_X7_begin mw_m_RX7_284 rfl rfl (r_X7_begin ho_1) rfl rfl (Nat.le_of_ble_eq_true rfl) (by decide) dX7_whiteSize_3 rfl (fun v fv gv hp => ?_)
  obtain ⟨rfl, rfl, rfl⟩ := hp
  refine ev_aload_n (q := 7) dX7_whiteSize_6 rfl rfl ?_
  refine ev_iload_n (q := 8) dX7_whiteSize_7 rfl rfl ?_
  refine ev_bipush (v := 10) (q := 10) dX7_whiteSize_8 mcb_10 rfl ?_
  obtain ⟨o_2, ho_2, hg⟩ := mj_bd hg
  refine ev_callV (q := 13) kX7_lent mw_i_X7_lent mw_s_X7_lent mw_m_RX7_287 rfl rfl (r_X7_lent ho_2) rfl rfl (Nat.le_of_ble_eq_true rfl) (by decide) dX7_whiteSize_10 rfl (fun v fv gv hp => ?_)
  obtain ⟨rfl, rfl, rfl⟩ := hp
  refine ev_istore_n (q := 14) (loc' := [some (.ref _), some (.int _), some (.int _)]) dX7_whiteSize_13 (by decide) rfl rfl ?_
  refine ev_iload_n (q := 15) dX7_whiteSize_14 rfl rfl ?_
  refine ev_aload_n (q := 16) dX7_whiteSize_15 rfl rfl ?_
  refine ev_iload_n (q := 17) dX7_whiteSize_16 rfl rfl ?_
  obtain ⟨o_3, ho_3, hg⟩ := mj_bd hg
  refine ev_callV (q := 20) kX7_markOf mw_i_X7_markOf mw_s_X7_markOf mw_m_RX7_299 rfl rfl (r_X7_markOf ho_3) rfl rfl (Nat.le_of_ble_eq_true rfl) (by decide) dX7_whiteSize_17 rfl (fun v fv gv hp => ?_)
  obtain ⟨rfl, rfl, rfl⟩ := hp
  refine ev_iadd (q := 21) dX7_whiteSize_20 rfl ?_
  obtain rfl := Option.some.inj hg
  exact ev_iret dX7_whiteSize_21 rfl ⟨rfl, rfl, rfl⟩
def g_X7_sizeOf (x1 : Int32) (f : mj_I) : Option (Int32 × mj_I) :=
  if mj_in ((51 : Int32) + x1) 82 = true then
  mj_lt ((f 4 (ix ((51 : Int32) + x1)))) (fun u_2 =>
   if u_2 = (2 : Int32) then
    (g_X7_begin (12 : Int32) f).bind (fun o_3 =>
    (g_X7_whiteSize x1 o_3).bind (fun o_4 =>
    some (((-o_4.1), o_4.2))))
   else
    if u_2 < (4 : Int32) then
     (g_X7_whiteSize x1 f).bind (fun o_5 =>
     some ((o_5.1, o_5.2)))
    else
     (g_X7_sizeOfFog x1 f).bind (fun o_6 =>
     some ((o_6.1, o_6.2))))
  else none
theorem r_X7_sizeOf {x1 : Int32} {f : mj_I} {g : mj_L} {o : Int32 × mj_I} (hg : g_X7_sizeOf x1 f = some o) : mj_Sp jX7_sizeOf my_S [.ref 0, .int x1] f g (fun v f' g' => some (.int o.1) = v ∧ o.2 = f' ∧ g = g') := by
  refine mj_sp 1 (by decide +kernel) rfl rfl (fun _ _ => Nat.le_of_ble_eq_true rfl) ?_
  show mj_Ev jX7_sizeOf 0 [some (.ref 0), some (.int x1), none] [] my_S f g _
  unfold g_X7_sizeOf at hg
  refine ev_aload_n (q := 1) dX7_sizeOf_0 rfl rfl ?_
  refine ev_getfR (q := 4) mw_f_RX7_19 rfl rfl dX7_sizeOf_1 rfl ?_
  refine ev_bipush (v := 51) (q := 6) dX7_sizeOf_4 mcb_51 rfl ?_
  refine ev_iload_n (q := 7) dX7_sizeOf_6 rfl rfl ?_
  refine ev_iadd (q := 8) dX7_sizeOf_7 rfl ?_
  obtain ⟨hi_1, hg⟩ := mj_gd hg
  refine ev_ialdk (q := 9) rfl hi_1 rfl dX7_sizeOf_8 rfl ?_
  refine ev_nmi (fun u_2 hu_2 => ?_)
  have hg := mj_lt_el hu_2 hg
  refine ev_istore_n (q := 10) (loc' := [some (.ref _), some (.int _), some (.int _)]) dX7_sizeOf_9 (by decide) rfl rfl ?_
  refine ev_iload_n (q := 11) dX7_sizeOf_10 rfl rfl ?_
  refine ev_iconst (v := 2) (q := 12) dX7_sizeOf_11 mci_2 rfl ?_
  refine ev_icmp_ne (t := 28) (q := 15) dX7_sizeOf_12 rfl rfl hg (fun hg => ?_) (fun hg => ?_)
  · refine ev_aload_n (q := 16) dX7_sizeOf_15 rfl rfl ?_
    refine ev_bipush (v := 12) (q := 18) dX7_sizeOf_16 mcb_12 rfl ?_
    obtain ⟨o_3, ho_3, hg⟩ := mj_bd hg
    refine ev_callV (q := 21) kX7_begin mw_i_X7_begin mw_s_X7_begin mw_m_RX7_284 rfl rfl (r_X7_begin ho_3) rfl rfl (Nat.le_of_ble_eq_true rfl) (by decide) dX7_sizeOf_18 rfl (fun v fv gv hp => ?_)
    obtain ⟨rfl, rfl, rfl⟩ := hp
    refine ev_aload_n (q := 22) dX7_sizeOf_21 rfl rfl ?_
    refine ev_iload_n (q := 23) dX7_sizeOf_22 rfl rfl ?_
    obtain ⟨o_4, ho_4, hg⟩ := mj_bd hg
    refine ev_callV (q := 26) kX7_whiteSize mw_i_X7_whiteSize mw_s_X7_whiteSize mw_m_RX7_302 rfl rfl (r_X7_whiteSize ho_4) rfl rfl (Nat.le_of_ble_eq_true rfl) (by decide) dX7_sizeOf_23 rfl (fun v fv gv hp => ?_)
    obtain ⟨rfl, rfl, rfl⟩ := hp
    refine ev_ineg (q := 27) dX7_sizeOf_26 rfl ?_
    obtain rfl := Option.some.inj hg
    exact ev_iret dX7_sizeOf_27 rfl ⟨rfl, rfl, rfl⟩
  · refine ev_iload_n (q := 29) dX7_sizeOf_28 rfl rfl ?_
    refine ev_iconst (v := 4) (q := 30) dX7_sizeOf_29 mci_4 rfl ?_
    refine ev_icmp_lt (t := 41) (q := 33) dX7_sizeOf_30 rfl rfl hg (fun hg => ?_) (fun hg => ?_)
    · refine ev_aload_n (q := 42) dX7_sizeOf_41 rfl rfl ?_
      refine ev_iload_n (q := 43) dX7_sizeOf_42 rfl rfl ?_
      obtain ⟨o_5, ho_5, hg⟩ := mj_bd hg
      refine ev_callV (q := 46) kX7_whiteSize mw_i_X7_whiteSize mw_s_X7_whiteSize mw_m_RX7_302 rfl rfl (r_X7_whiteSize ho_5) rfl rfl (Nat.le_of_ble_eq_true rfl) (by decide) dX7_sizeOf_43 rfl (fun v fv gv hp => ?_)
      obtain ⟨rfl, rfl, rfl⟩ := hp
      obtain rfl := Option.some.inj hg
      exact ev_iret dX7_sizeOf_46 rfl ⟨rfl, rfl, rfl⟩
    · refine ev_aload_n (q := 34) dX7_sizeOf_33 rfl rfl ?_
      refine ev_iload_n (q := 35) dX7_sizeOf_34 rfl rfl ?_
      obtain ⟨o_6, ho_6, hg⟩ := mj_bd hg
      refine ev_callV (q := 38) kX7_sizeOfFog mw_i_X7_sizeOfFog mw_s_X7_sizeOfFog mw_m_RX7_296 rfl rfl (r_X7_sizeOfFog ho_6) rfl rfl (Nat.le_of_ble_eq_true rfl) (by decide) dX7_sizeOf_35 rfl (fun v fv gv hp => ?_)
      obtain ⟨rfl, rfl, rfl⟩ := hp
      refine ev_goto (q := 46) dX7_sizeOf_38 rfl ?_
      obtain rfl := Option.some.inj hg
      exact ev_iret dX7_sizeOf_46 rfl ⟨rfl, rfl, rfl⟩
def g_X7_ask (x1 : Int32) (x2 : Int32) (f : mj_I) : Option (Int32 × mj_I) :=
  if (g_X7_isCloud x1 f) = 0 then
   some (((-1000001 : Int32), f))
  else
   if (g_X7_in (x2).toInt64 (0 : Int64) (1 : Int64)) = 0 then
    some (((-1000001 : Int32), f))
   else
    mj_lt (mj_wr f 0 28 (0 : Int32)) (fun f_3 =>
    if x2 = 0 then
     (g_X7_sizeOf x1 f_3).bind (fun o_4 =>
     some ((o_4.1, o_4.2)))
    else
     (g_X7_markOf x1 f_3).bind (fun o_5 =>
     some ((o_5.1, o_5.2))))
theorem r_X7_ask {x1 : Int32} {x2 : Int32} {f : mj_I} {g : mj_L} {o : Int32 × mj_I} (hg : g_X7_ask x1 x2 f = some o) : mj_Sp jX7_ask my_S [.ref 0, .int x1, .int x2] f g (fun v f' g' => some (.int o.1) = v ∧ o.2 = f' ∧ g = g') := by
  refine mj_sp 0 (by decide +kernel) rfl rfl (fun _ _ => Nat.le_of_ble_eq_true rfl) ?_
  show mj_Ev jX7_ask 0 [some (.ref 0), some (.int x1), some (.int x2)] [] my_S f g _
  unfold g_X7_ask at hg
  refine ev_aload_n (q := 1) dX7_ask_0 rfl rfl ?_
  refine ev_iload_n (q := 2) dX7_ask_1 rfl rfl ?_
  refine ev_callV (q := 5) kX7_isCloud mw_i_X7_isCloud mw_s_X7_isCloud mw_m_RX7_202 rfl rfl (r_X7_isCloud rfl) rfl rfl (Nat.le_of_ble_eq_true rfl) (by decide) dX7_ask_2 rfl (fun v fv gv hp => ?_)
  obtain ⟨rfl, rfl, rfl, hr_1⟩ := hp
  refine ev_if_eq (t := 18) (q := 8) dX7_ask_5 rfl rfl hg (fun hg => ?_) (fun hg => ?_)
  · refine ev_ldc (q := 20) mw_c_RX7_70 dX7_ask_18 rfl ?_
    obtain rfl := Option.some.inj hg
    exact ev_iret dX7_ask_20 rfl ⟨rfl, rfl, rfl⟩
  · refine ev_iload_n (q := 9) dX7_ask_8 rfl rfl ?_
    refine ev_i2l (q := 10) dX7_ask_9 rfl ?_
    refine ev_lconst (v := 0) (q := 11) dX7_ask_10 mcl_0 rfl ?_
    refine ev_lconst (v := 1) (q := 12) dX7_ask_11 mcl_1 rfl ?_
    refine ev_callS (q := 15) kX7_in mw_t_X7_in mw_m_RX7_60 (r_X7_in rfl) rfl rfl (Nat.le_of_ble_eq_true rfl) (by decide) dX7_ask_12 rfl (fun v fv gv hp => ?_)
    obtain ⟨rfl, rfl, rfl, hr_2⟩ := hp
    refine ev_if_ne (t := 21) (q := 18) dX7_ask_15 rfl rfl hg (fun hg => ?_) (fun hg => ?_)
    · refine ev_ldc (q := 20) mw_c_RX7_70 dX7_ask_18 rfl ?_
      obtain rfl := Option.some.inj hg
      exact ev_iret dX7_ask_20 rfl ⟨rfl, rfl, rfl⟩
    · refine ev_aload_n (q := 22) dX7_ask_21 rfl rfl ?_
      refine ev_iconst (v := 0) (q := 23) dX7_ask_22 mci_0 rfl ?_
      refine ev_putfI (q := 26) mw_f_RX7_281 rfl dX7_ask_23 rfl ?_
      refine ev_nmf (fun f_3 hf_3 => ?_)
      have hg := mj_lt_el hf_3 hg
      refine ev_iload_n (q := 27) dX7_ask_26 rfl rfl ?_
      refine ev_if_ne (t := 38) (q := 30) dX7_ask_27 rfl rfl hg (fun hg => ?_) (fun hg => ?_)
      · refine ev_aload_n (q := 31) dX7_ask_30 rfl rfl ?_
        refine ev_iload_n (q := 32) dX7_ask_31 rfl rfl ?_
        obtain ⟨o_4, ho_4, hg⟩ := mj_bd hg
        refine ev_callV (q := 35) kX7_sizeOf mw_i_X7_sizeOf mw_s_X7_sizeOf mw_m_RX7_305 rfl rfl (r_X7_sizeOf ho_4) rfl rfl (Nat.le_of_ble_eq_true rfl) (by decide) dX7_ask_32 rfl (fun v fv gv hp => ?_)
        obtain ⟨rfl, rfl, rfl⟩ := hp
        refine ev_goto (q := 43) dX7_ask_35 rfl ?_
        obtain rfl := Option.some.inj hg
        exact ev_iret dX7_ask_43 rfl ⟨rfl, rfl, rfl⟩
      · refine ev_aload_n (q := 39) dX7_ask_38 rfl rfl ?_
        refine ev_iload_n (q := 40) dX7_ask_39 rfl rfl ?_
        obtain ⟨o_5, ho_5, hg⟩ := mj_bd hg
        refine ev_callV (q := 43) kX7_markOf mw_i_X7_markOf mw_s_X7_markOf mw_m_RX7_299 rfl rfl (r_X7_markOf ho_5) rfl rfl (Nat.le_of_ble_eq_true rfl) (by decide) dX7_ask_40 rfl (fun v fv gv hp => ?_)
        obtain ⟨rfl, rfl, rfl⟩ := hp
        obtain rfl := Option.some.inj hg
        exact ev_iret dX7_ask_43 rfl ⟨rfl, rfl, rfl⟩
def g_X7_trace (x1 : Int32) (f : mj_I) : Option (Int32) :=
  if (g_X7_in (x1).toInt64 (0 : Int64) (((f 0 28) - (1 : Int32))).toInt64) = 0 then
   some ((-1000000 : Int32))
  else
   if mj_in x1 16 = true then
   some ((f 14 (ix x1)))
   else none
theorem r_X7_trace {x1 : Int32} {f : mj_I} {g : mj_L} {o : Int32} (hg : g_X7_trace x1 f = some o) : mj_Sp jX7_trace my_S [.ref 0, .int x1] f g (fun v f' g' => some (.int o) = v ∧ f = f' ∧ g = g') := by
  refine mj_sp 0 (by decide +kernel) rfl rfl (fun _ _ => Nat.le_of_ble_eq_true rfl) ?_
  show mj_Ev jX7_trace 0 [some (.ref 0), some (.int x1)] [] my_S f g _
  unfold g_X7_trace at hg
  refine ev_iload_n (q := 1) dX7_trace_0 rfl rfl ?_
  refine ev_i2l (q := 2) dX7_trace_1 rfl ?_
  refine ev_lconst (v := 0) (q := 3) dX7_trace_2 mcl_0 rfl ?_
  refine ev_aload_n (q := 4) dX7_trace_3 rfl rfl ?_
  refine ev_getfI (q := 7) mw_f_RX7_281 (by decide) (by decide) rfl dX7_trace_4 rfl ?_
  refine ev_iconst (v := 1) (q := 8) dX7_trace_7 mci_1 rfl ?_
  refine ev_isub (q := 9) dX7_trace_8 rfl ?_
  refine ev_i2l (q := 10) dX7_trace_9 rfl ?_
  refine ev_callS (q := 13) kX7_in mw_t_X7_in mw_m_RX7_60 (r_X7_in rfl) rfl rfl (Nat.le_of_ble_eq_true rfl) (by decide) dX7_trace_10 rfl (fun v fv gv hp => ?_)
  obtain ⟨rfl, rfl, rfl, hr_1⟩ := hp
  refine ev_if_eq (t := 25) (q := 16) dX7_trace_13 rfl rfl hg (fun hg => ?_) (fun hg => ?_)
  · refine ev_ldc (q := 27) mw_c_RX7_237 dX7_trace_25 rfl ?_
    obtain rfl := Option.some.inj hg
    exact ev_iret dX7_trace_27 rfl ⟨rfl, rfl, rfl⟩
  · refine ev_aload_n (q := 17) dX7_trace_16 rfl rfl ?_
    refine ev_getfR (q := 20) mw_f_RX7_50 rfl rfl dX7_trace_17 rfl ?_
    refine ev_iload_n (q := 21) dX7_trace_20 rfl rfl ?_
    obtain ⟨hi_2, hg⟩ := mj_gd hg
    refine ev_ialdk (q := 22) rfl hi_2 rfl dX7_trace_21 rfl ?_
    refine ev_goto (q := 27) dX7_trace_22 rfl ?_
    obtain rfl := Option.some.inj hg
    exact ev_iret dX7_trace_27 rfl ⟨rfl, rfl, rfl⟩
def g_X7_count_4 : Nat → Int32 → Int32 → Int32 → mj_I → Option (Int32)
  | 0, _, _, _, _ => none
  | n + 1, x1, x2, x3, f =>
    if x3 < (8 : Int32) then
     if mj_in x3 8 = true then
     if (f 2 (ix x3)) < 0 then
       mj_lt ((x2 + (0 : Int32))) (fun u_10 =>
       g_X7_count_4 n x1 u_10 (x3 + (1 : Int32)) f)
      else
       mj_lt ((x2 + (1 : Int32))) (fun u_11 =>
       g_X7_count_4 n x1 u_11 (x3 + (1 : Int32)) f)
     else none
    else
     some (x2)
theorem r_X7_count_4 {f : mj_I} {g : mj_L} {post : Option Value → mj_I → mj_L → Prop} : ∀ (n : Nat) (x1 : Int32) (x2 : Int32) (x3 : Int32) (o : Int32), g_X7_count_4 n x1 x2 x3 f = some o → mj_Ev jX7_count 33 [some (.ref 0), some (.int x1), some (.int o), none, none] [] my_S f g post → mj_Ev jX7_count 4 [some (.ref 0), some (.int x1), some (.int x2), some (.int x3), none] [] my_S f g post := by
  intro n
  induction n with
  | zero =>
    intro x1 x2 x3 o hg hk
    cases hg
  | succ n ih =>
    intro x1 x2 x3 o hg hk
    unfold g_X7_count_4 at hg
    refine ev_iload_n (q := 5) dX7_count_4 rfl rfl ?_
    refine ev_bipush (v := 8) (q := 7) dX7_count_5 mcb_8 rfl ?_
    refine ev_icmp_ge (t := 33) (q := 10) dX7_count_7 rfl rfl hg (fun hg => ?_) (fun hg => ?_)
    · refine ev_iload_n (q := 11) dX7_count_10 rfl rfl ?_
      refine ev_aload_n (q := 12) dX7_count_11 rfl rfl ?_
      refine ev_getfR (q := 15) mw_f_RX7_13 rfl rfl dX7_count_12 rfl ?_
      refine ev_iload_n (q := 16) dX7_count_15 rfl rfl ?_
      obtain ⟨hi_9, hg⟩ := mj_gd hg
      refine ev_ialdk (q := 17) rfl hi_9 rfl dX7_count_16 rfl ?_
      refine ev_if_lt (t := 24) (q := 20) dX7_count_17 rfl rfl hg (fun hg => ?_) (fun hg => ?_)
      · refine ev_iconst (v := 0) (q := 25) dX7_count_24 mci_0 rfl ?_
        refine ev_iadd (q := 26) dX7_count_25 rfl ?_
        refine ev_nmi (fun u_10 hu_10 => ?_)
        have hg := mj_lt_el hu_10 hg
        refine ev_istore_n (q := 27) (loc' := [some (.ref _), some (.int _), some (.int _), some (.int _), none]) dX7_count_26 (by decide) rfl rfl ?_
        refine ev_iinc (v := 1) (q := 30) (loc' := [some (.ref _), some (.int _), some (.int _), some (.int _), none]) dX7_count_27 rfl (by decide) mci_1 rfl rfl ?_
        refine ev_goto (q := 4) dX7_count_30 rfl ?_
        exact ih _ _ _ _ hg hk
      · refine ev_iconst (v := 1) (q := 21) dX7_count_20 mci_1 rfl ?_
        refine ev_goto (q := 25) dX7_count_21 rfl ?_
        refine ev_iadd (q := 26) dX7_count_25 rfl ?_
        refine ev_nmi (fun u_11 hu_11 => ?_)
        have hg := mj_lt_el hu_11 hg
        refine ev_istore_n (q := 27) (loc' := [some (.ref _), some (.int _), some (.int _), some (.int _), none]) dX7_count_26 (by decide) rfl rfl ?_
        refine ev_iinc (v := 1) (q := 30) (loc' := [some (.ref _), some (.int _), some (.int _), some (.int _), none]) dX7_count_27 rfl (by decide) mci_1 rfl rfl ?_
        refine ev_goto (q := 4) dX7_count_30 rfl ?_
        exact ih _ _ _ _ hg hk
    · obtain rfl := Option.some.inj hg
      refine ev_wk (loc' := [some (.ref _), some (.int _), some (.int _), none, none]) ⟨rfl, rfl, rfl, trivial⟩ ?_
      exact hk
def g_X7_count_38 : Nat → Int32 → Int32 → Int32 → Int32 → mj_I → Option (Int32)
  | 0, _, _, _, _, _ => none
  | n + 1, x1, x2, x3, x4, f =>
    if x4 < (f 4 50) then
     (g_X7_isThere x4 f).bind (fun o_13 =>
     if o_13 = 0 then
      mj_lt ((x3 + (0 : Int32))) (fun u_14 =>
      g_X7_count_38 n x1 x2 u_14 (x4 + (1 : Int32)) f)
     else
      mj_lt ((x3 + (1 : Int32))) (fun u_15 =>
      g_X7_count_38 n x1 x2 u_15 (x4 + (1 : Int32)) f))
    else
     some (x3)
theorem r_X7_count_38 {f : mj_I} {g : mj_L} {post : Option Value → mj_I → mj_L → Prop} : ∀ (n : Nat) (x1 : Int32) (x2 : Int32) (x3 : Int32) (x4 : Int32) (o : Int32), g_X7_count_38 n x1 x2 x3 x4 f = some o → mj_Ev jX7_count 73 [some (.ref 0), some (.int x1), some (.int x2), some (.int o), none] [] my_S f g post → mj_Ev jX7_count 38 [some (.ref 0), some (.int x1), some (.int x2), some (.int x3), some (.int x4)] [] my_S f g post := by
  intro n
  induction n with
  | zero =>
    intro x1 x2 x3 x4 o hg hk
    cases hg
  | succ n ih =>
    intro x1 x2 x3 x4 o hg hk
    unfold g_X7_count_38 at hg
    refine ev_iload (q := 40) dX7_count_38 rfl rfl ?_
    refine ev_aload_n (q := 41) dX7_count_40 rfl rfl ?_
    refine ev_getfR (q := 44) mw_f_RX7_19 rfl rfl dX7_count_41 rfl ?_
    refine ev_bipush (v := 50) (q := 46) dX7_count_44 mcb_50 rfl ?_
    refine ev_ialdk (k := 50) (q := 47) rfl (by decide) mcx_50 dX7_count_46 rfl ?_
    refine ev_icmp_ge (t := 73) (q := 50) dX7_count_47 rfl rfl hg (fun hg => ?_) (fun hg => ?_)
    · refine ev_iload_n (q := 51) dX7_count_50 rfl rfl ?_
      refine ev_aload_n (q := 52) dX7_count_51 rfl rfl ?_
      refine ev_iload (q := 54) dX7_count_52 rfl rfl ?_
      obtain ⟨o_13, ho_13, hg⟩ := mj_bd hg
      refine ev_callV (q := 57) kX7_isThere mw_i_X7_isThere mw_s_X7_isThere mw_m_RX7_177 rfl rfl (r_X7_isThere ho_13) rfl rfl (Nat.le_of_ble_eq_true rfl) (by decide) dX7_count_54 rfl (fun v fv gv hp => ?_)
      obtain ⟨rfl, rfl, rfl, hr_13⟩ := hp
      refine ev_if_eq (t := 64) (q := 60) dX7_count_57 rfl rfl hg (fun hg => ?_) (fun hg => ?_)
      · refine ev_iconst (v := 0) (q := 65) dX7_count_64 mci_0 rfl ?_
        refine ev_iadd (q := 66) dX7_count_65 rfl ?_
        refine ev_nmi (fun u_14 hu_14 => ?_)
        have hg := mj_lt_el hu_14 hg
        refine ev_istore_n (q := 67) (loc' := [some (.ref _), some (.int _), some (.int _), some (.int _), some (.int _)]) dX7_count_66 (by decide) rfl rfl ?_
        refine ev_iinc (v := 1) (q := 70) (loc' := [some (.ref _), some (.int _), some (.int _), some (.int _), some (.int _)]) dX7_count_67 rfl (by decide) mci_1 rfl rfl ?_
        refine ev_goto (q := 38) dX7_count_70 rfl ?_
        exact ih _ _ _ _ _ hg hk
      · refine ev_iconst (v := 1) (q := 61) dX7_count_60 mci_1 rfl ?_
        refine ev_goto (q := 65) dX7_count_61 rfl ?_
        refine ev_iadd (q := 66) dX7_count_65 rfl ?_
        refine ev_nmi (fun u_15 hu_15 => ?_)
        have hg := mj_lt_el hu_15 hg
        refine ev_istore_n (q := 67) (loc' := [some (.ref _), some (.int _), some (.int _), some (.int _), some (.int _)]) dX7_count_66 (by decide) rfl rfl ?_
        refine ev_iinc (v := 1) (q := 70) (loc' := [some (.ref _), some (.int _), some (.int _), some (.int _), some (.int _)]) dX7_count_67 rfl (by decide) mci_1 rfl rfl ?_
        refine ev_goto (q := 38) dX7_count_70 rfl ?_
        exact ih _ _ _ _ _ hg hk
    · obtain rfl := Option.some.inj hg
      refine ev_wk (loc' := [some (.ref _), some (.int _), some (.int _), some (.int _), none]) ⟨rfl, rfl, rfl, rfl, trivial⟩ ?_
      exact hk
def g_X7_count (x1 : Int32) (f : mj_I) : Option (Int32) :=
  (g_X7_count_4 mj_fuel x1 (0 : Int32) (0 : Int32) f).bind (fun q_1 =>
  (g_X7_count_38 mj_fuel x1 q_1 (0 : Int32) (0 : Int32) f).bind (fun q_2 =>
  if x1 = (0 : Int32) then
   some (q_1)
  else
   if x1 = (1 : Int32) then
    some ((f 4 50))
   else
    if x1 = (2 : Int32) then
     some ((f 4 49))
    else
     if x1 = (3 : Int32) then
      some ((f 4 46))
     else
      if x1 = (4 : Int32) then
       some ((f 4 47))
      else
       if x1 = (5 : Int32) then
        some ((f 4 48))
       else
        if x1 = (6 : Int32) then
         some (q_2)
        else
         if x1 = (7 : Int32) then
          some ((f 0 18))
         else
          if x1 = (8 : Int32) then
           some ((f 0 8))
          else
           some ((-1000001 : Int32))))
theorem r_X7_count {x1 : Int32} {f : mj_I} {g : mj_L} {o : Int32} (hg : g_X7_count x1 f = some o) : mj_Sp jX7_count my_S [.ref 0, .int x1] f g (fun v f' g' => some (.int o) = v ∧ f = f' ∧ g = g') := by
  refine mj_sp 3 (by decide +kernel) rfl rfl (fun _ _ => Nat.le_of_ble_eq_true rfl) ?_
  show mj_Ev jX7_count 0 [some (.ref 0), some (.int x1), none, none, none] [] my_S f g _
  unfold g_X7_count at hg
  refine ev_iconst (v := 0) (q := 1) dX7_count_0 mci_0 rfl ?_
  refine ev_istore_n (q := 2) (loc' := [some (.ref _), some (.int _), some (.int _), none, none]) dX7_count_1 (by decide) rfl rfl ?_
  refine ev_iconst (v := 0) (q := 3) dX7_count_2 mci_0 rfl ?_
  refine ev_istore_n (q := 4) (loc' := [some (.ref _), some (.int _), some (.int _), some (.int _), none]) dX7_count_3 (by decide) rfl rfl ?_
  obtain ⟨q_1, hq_1, hg⟩ := mj_bd hg
  refine r_X7_count_4 mj_fuel _ _ _ _ hq_1 ?_
  refine ev_iconst (v := 0) (q := 34) dX7_count_33 mci_0 rfl ?_
  refine ev_istore_n (q := 35) (loc' := [some (.ref _), some (.int _), some (.int _), some (.int _), none]) dX7_count_34 (by decide) rfl rfl ?_
  refine ev_iconst (v := 0) (q := 36) dX7_count_35 mci_0 rfl ?_
  refine ev_istore (q := 38) (loc' := [some (.ref _), some (.int _), some (.int _), some (.int _), some (.int _)]) dX7_count_36 (by decide) rfl rfl ?_
  obtain ⟨q_2, hq_2, hg⟩ := mj_bd hg
  refine r_X7_count_38 mj_fuel _ _ _ _ _ hq_2 ?_
  refine ev_iload_n (q := 74) dX7_count_73 rfl rfl ?_
  rcases mj_ite hg with ⟨hx_3_0, hg⟩ | ⟨hx_3_0, hg⟩
  · refine ev_tabIn (v := 0) (off := 50) (q := 124) hx_3_0 dX7_count_74 (by decide) (by decide) rfl rfl ?_
    refine ev_iload_n (q := 125) dX7_count_124 rfl rfl ?_
    obtain rfl := Option.some.inj hg
    exact ev_iret dX7_count_125 rfl ⟨rfl, rfl, rfl⟩
  · rcases mj_ite hg with ⟨hx_3_1, hg⟩ | ⟨hx_3_1, hg⟩
    · refine ev_tabIn (v := 1) (off := 52) (q := 126) hx_3_1 dX7_count_74 (by decide) (by decide) rfl rfl ?_
      refine ev_aload_n (q := 127) dX7_count_126 rfl rfl ?_
      refine ev_getfR (q := 130) mw_f_RX7_19 rfl rfl dX7_count_127 rfl ?_
      refine ev_bipush (v := 50) (q := 132) dX7_count_130 mcb_50 rfl ?_
      refine ev_ialdk (k := 50) (q := 133) rfl (by decide) mcx_50 dX7_count_132 rfl ?_
      obtain rfl := Option.some.inj hg
      exact ev_iret dX7_count_133 rfl ⟨rfl, rfl, rfl⟩
    · rcases mj_ite hg with ⟨hx_3_2, hg⟩ | ⟨hx_3_2, hg⟩
      · refine ev_tabIn (v := 2) (off := 60) (q := 134) hx_3_2 dX7_count_74 (by decide) (by decide) rfl rfl ?_
        refine ev_aload_n (q := 135) dX7_count_134 rfl rfl ?_
        refine ev_getfR (q := 138) mw_f_RX7_19 rfl rfl dX7_count_135 rfl ?_
        refine ev_bipush (v := 49) (q := 140) dX7_count_138 mcb_49 rfl ?_
        refine ev_ialdk (k := 49) (q := 141) rfl (by decide) mcx_49 dX7_count_140 rfl ?_
        obtain rfl := Option.some.inj hg
        exact ev_iret dX7_count_141 rfl ⟨rfl, rfl, rfl⟩
      · rcases mj_ite hg with ⟨hx_3_3, hg⟩ | ⟨hx_3_3, hg⟩
        · refine ev_tabIn (v := 3) (off := 68) (q := 142) hx_3_3 dX7_count_74 (by decide) (by decide) rfl rfl ?_
          refine ev_aload_n (q := 143) dX7_count_142 rfl rfl ?_
          refine ev_getfR (q := 146) mw_f_RX7_19 rfl rfl dX7_count_143 rfl ?_
          refine ev_bipush (v := 46) (q := 148) dX7_count_146 mcb_46 rfl ?_
          refine ev_ialdk (k := 46) (q := 149) rfl (by decide) mcx_46 dX7_count_148 rfl ?_
          obtain rfl := Option.some.inj hg
          exact ev_iret dX7_count_149 rfl ⟨rfl, rfl, rfl⟩
        · rcases mj_ite hg with ⟨hx_3_4, hg⟩ | ⟨hx_3_4, hg⟩
          · refine ev_tabIn (v := 4) (off := 76) (q := 150) hx_3_4 dX7_count_74 (by decide) (by decide) rfl rfl ?_
            refine ev_aload_n (q := 151) dX7_count_150 rfl rfl ?_
            refine ev_getfR (q := 154) mw_f_RX7_19 rfl rfl dX7_count_151 rfl ?_
            refine ev_bipush (v := 47) (q := 156) dX7_count_154 mcb_47 rfl ?_
            refine ev_ialdk (k := 47) (q := 157) rfl (by decide) mcx_47 dX7_count_156 rfl ?_
            obtain rfl := Option.some.inj hg
            exact ev_iret dX7_count_157 rfl ⟨rfl, rfl, rfl⟩
          · rcases mj_ite hg with ⟨hx_3_5, hg⟩ | ⟨hx_3_5, hg⟩
            · refine ev_tabIn (v := 5) (off := 84) (q := 158) hx_3_5 dX7_count_74 (by decide) (by decide) rfl rfl ?_
              refine ev_aload_n (q := 159) dX7_count_158 rfl rfl ?_
              refine ev_getfR (q := 162) mw_f_RX7_19 rfl rfl dX7_count_159 rfl ?_
              refine ev_bipush (v := 48) (q := 164) dX7_count_162 mcb_48 rfl ?_
              refine ev_ialdk (k := 48) (q := 165) rfl (by decide) mcx_48 dX7_count_164 rfl ?_
              obtain rfl := Option.some.inj hg
              exact ev_iret dX7_count_165 rfl ⟨rfl, rfl, rfl⟩
            · rcases mj_ite hg with ⟨hx_3_6, hg⟩ | ⟨hx_3_6, hg⟩
              · refine ev_tabIn (v := 6) (off := 92) (q := 166) hx_3_6 dX7_count_74 (by decide) (by decide) rfl rfl ?_
                refine ev_iload_n (q := 167) dX7_count_166 rfl rfl ?_
                obtain rfl := Option.some.inj hg
                exact ev_iret dX7_count_167 rfl ⟨rfl, rfl, rfl⟩
              · rcases mj_ite hg with ⟨hx_3_7, hg⟩ | ⟨hx_3_7, hg⟩
                · refine ev_tabIn (v := 7) (off := 94) (q := 168) hx_3_7 dX7_count_74 (by decide) (by decide) rfl rfl ?_
                  refine ev_aload_n (q := 169) dX7_count_168 rfl rfl ?_
                  refine ev_getfI (q := 172) mw_f_RX7_158 (by decide) (by decide) rfl dX7_count_169 rfl ?_
                  obtain rfl := Option.some.inj hg
                  exact ev_iret dX7_count_172 rfl ⟨rfl, rfl, rfl⟩
                · rcases mj_ite hg with ⟨hx_3_8, hg⟩ | ⟨hx_3_8, hg⟩
                  · refine ev_tabIn (v := 8) (off := 99) (q := 173) hx_3_8 dX7_count_74 (by decide) (by decide) rfl rfl ?_
                    refine ev_aload_n (q := 174) dX7_count_173 rfl rfl ?_
                    refine ev_getfI (q := 177) mw_f_RX7_84 (by decide) (by decide) rfl dX7_count_174 rfl ?_
                    obtain rfl := Option.some.inj hg
                    exact ev_iret dX7_count_177 rfl ⟨rfl, rfl, rfl⟩
                  · refine ev_tabOut (q := 178) dX7_count_74 (by have e0 := lv_neT (a := 0) hx_3_0 (by decide); have e1 := lv_neT (a := 1) hx_3_1 (by decide); have e2 := lv_neT (a := 2) hx_3_2 (by decide); have e3 := lv_neT (a := 3) hx_3_3 (by decide); have e4 := lv_neT (a := 4) hx_3_4 (by decide); have e5 := lv_neT (a := 5) hx_3_5 (by decide); have e6 := lv_neT (a := 6) hx_3_6 (by decide); have e7 := lv_neT (a := 7) hx_3_7 (by decide); have e8 := lv_neT (a := 8) hx_3_8 (by decide); omega) rfl ?_
                    refine ev_ldc (q := 180) mw_c_RX7_70 dX7_count_178 rfl ?_
                    obtain rfl := Option.some.inj hg
                    exact ev_iret dX7_count_180 rfl ⟨rfl, rfl, rfl⟩
def g_X7_status (f : mj_I) : Int32 :=
  (f 0 3)
theorem r_X7_status {f : mj_I} {g : mj_L} {o : Int32} (hg : g_X7_status f = o) : mj_Sp jX7_status my_S [.ref 0] f g (fun v f' g' => some (.int o) = v ∧ f = f' ∧ g = g') := by
  refine mj_sp 0 (by decide +kernel) rfl rfl (fun _ _ => Nat.le_of_ble_eq_true rfl) ?_
  show mj_Ev jX7_status 0 [some (.ref 0)] [] my_S f g _
  unfold g_X7_status at hg
  refine ev_aload_n (q := 1) dX7_status_0 rfl rfl ?_
  refine ev_getfI (q := 4) mw_f_RX7_53 (by decide) (by decide) rfl dX7_status_1 rfl ?_
  subst hg
  exact ev_iret dX7_status_4 rfl ⟨rfl, rfl, rfl⟩
