def g_X4_takeNumber_55 (x1 : Int32) (f : mj_I) : Option (Int32 × mj_I) :=
  if (f 2 6) = 0 then
   mj_lt ((f 2 5)) (fun u_5 =>
   (g_X4_look f).bind (fun o_6 =>
   some ((u_5, o_6))))
  else
   some ((x1, f))
theorem r_X4_takeNumber_55 {g : mj_L} : ∀ (x1 : Int32) (f : mj_I) (o : Int32 × mj_I), g_X4_takeNumber_55 x1 f = some o → mj_Ev jX4_takeNumber 55 [some (.ref 2), some (.int x1), none, none, none] [] mx_S f g (fun v f' g' => some (.int o.1) = v ∧ o.2 = f' ∧ g = g') := by
  intro x1 f o hg
  unfold g_X4_takeNumber_55 at hg
  refine ev_aload_n (q := 56) dX4_takeNumber_55 rfl rfl ?_
  refine ev_getfI (q := 59) mw_f_RX4_31 (by decide) (by decide) rfl dX4_takeNumber_56 rfl ?_
  refine ev_if_eq (t := 64) (q := 62) dX4_takeNumber_59 rfl rfl hg (fun hg => ?_) (fun hg => ?_)
  · refine ev_aload_n (q := 65) dX4_takeNumber_64 rfl rfl ?_
    refine ev_getfI (q := 68) mw_f_RX4_28 (by decide) (by decide) rfl dX4_takeNumber_65 rfl ?_
    refine ev_nmi (fun u_5 hu_5 => ?_)
    have hg := mj_lt_el hu_5 hg
    refine ev_istore (q := 70) (loc' := [some (.ref _), some (.int _), none, none, some (.int _)]) dX4_takeNumber_68 (by decide) rfl rfl ?_
    refine ev_aload_n (q := 71) dX4_takeNumber_70 rfl rfl ?_
    obtain ⟨o_6, ho_6, hg⟩ := mj_bd hg
    refine ev_callV (q := 74) kX4_look mw_i_X4_look mw_s_X4_look mw_m_RX4_34 rfl rfl (r_X4_look ho_6) rfl rfl (Nat.le_of_ble_eq_true rfl) (by decide) dX4_takeNumber_71 rfl (fun v fv gv hp => ?_)
    obtain ⟨rfl, rfl, rfl⟩ := hp
    refine ev_iload (q := 76) dX4_takeNumber_74 rfl rfl ?_
    obtain rfl := Option.some.inj hg
    exact ev_iret dX4_takeNumber_76 rfl ⟨rfl, rfl, rfl⟩
  · refine ev_iload_n (q := 63) dX4_takeNumber_62 rfl rfl ?_
    obtain rfl := Option.some.inj hg
    exact ev_iret dX4_takeNumber_63 rfl ⟨rfl, rfl, rfl⟩
def g_X4_takeNumber_20 (x1 : Int32) (x2 : Int32) (x3 : Int32) (f : mj_I) : Option (Int32 × mj_I) :=
  if (f 2 6) = 0 then
   if (g_X6_within (f 2 5) x1 x2) = 0 then
    mj_lt (mj_wr f 2 6 (2 : Int32)) (fun f_3 =>
    g_X4_takeNumber_55 x1 f_3)
   else
    if ((mj_ushr x3 (f 2 5)) &&& (1 : Int32)) = 0 then
     g_X4_takeNumber_55 x1 f
    else
     mj_lt (mj_wr f 2 6 (2 : Int32)) (fun f_4 =>
     g_X4_takeNumber_55 x1 f_4)
  else
   g_X4_takeNumber_55 x1 f
theorem r_X4_takeNumber_20 {g : mj_L} : ∀ (x1 : Int32) (x2 : Int32) (x3 : Int32) (f : mj_I) (o : Int32 × mj_I), g_X4_takeNumber_20 x1 x2 x3 f = some o → mj_Ev jX4_takeNumber 20 [some (.ref 2), some (.int x1), some (.int x2), some (.int x3), none] [] mx_S f g (fun v f' g' => some (.int o.1) = v ∧ o.2 = f' ∧ g = g') := by
  intro x1 x2 x3 f o hg
  unfold g_X4_takeNumber_20 at hg
  refine ev_aload_n (q := 21) dX4_takeNumber_20 rfl rfl ?_
  refine ev_getfI (q := 24) mw_f_RX4_31 (by decide) (by decide) rfl dX4_takeNumber_21 rfl ?_
  refine ev_if_ne (t := 55) (q := 27) dX4_takeNumber_24 rfl rfl hg (fun hg => ?_) (fun hg => ?_)
  · refine ev_aload_n (q := 28) dX4_takeNumber_27 rfl rfl ?_
    refine ev_getfI (q := 31) mw_f_RX4_28 (by decide) (by decide) rfl dX4_takeNumber_28 rfl ?_
    refine ev_iload_n (q := 32) dX4_takeNumber_31 rfl rfl ?_
    refine ev_iload_n (q := 33) dX4_takeNumber_32 rfl rfl ?_
    refine ev_callN (q := 36) kX6_within mw_t_X6_within mw_n_RX4_105 (r_X6_within rfl) rfl rfl (Nat.le_of_ble_eq_true rfl) (by decide) dX4_takeNumber_33 rfl (fun v fv gv hp => ?_)
    obtain ⟨rfl, rfl, rfl, hr_2⟩ := hp
    refine ev_if_eq (t := 50) (q := 39) dX4_takeNumber_36 rfl rfl hg (fun hg => ?_) (fun hg => ?_)
    · refine ev_aload_n (q := 51) dX4_takeNumber_50 rfl rfl ?_
      refine ev_iconst (v := 2) (q := 52) dX4_takeNumber_51 mci_2 rfl ?_
      refine ev_putfI (q := 55) mw_f_RX4_31 rfl dX4_takeNumber_52 rfl ?_
      refine ev_nmf (fun f_3 hf_3 => ?_)
      have hg := mj_lt_el hf_3 hg
      refine ev_wk (loc' := [some (.ref _), some (.int _), none, none, none]) ⟨rfl, rfl, trivial⟩ ?_
      exact r_X4_takeNumber_55 _ _ _ hg
    · refine ev_iload_n (q := 40) dX4_takeNumber_39 rfl rfl ?_
      refine ev_aload_n (q := 41) dX4_takeNumber_40 rfl rfl ?_
      refine ev_getfI (q := 44) mw_f_RX4_28 (by decide) (by decide) rfl dX4_takeNumber_41 rfl ?_
      refine ev_iushr (q := 45) dX4_takeNumber_44 rfl ?_
      refine ev_iconst (v := 1) (q := 46) dX4_takeNumber_45 mci_1 rfl ?_
      refine ev_iand (q := 47) dX4_takeNumber_46 rfl ?_
      refine ev_if_eq (t := 55) (q := 50) dX4_takeNumber_47 rfl rfl hg (fun hg => ?_) (fun hg => ?_)
      · refine ev_wk (loc' := [some (.ref _), some (.int _), none, none, none]) ⟨rfl, rfl, trivial⟩ ?_
        exact r_X4_takeNumber_55 _ _ _ hg
      · refine ev_aload_n (q := 51) dX4_takeNumber_50 rfl rfl ?_
        refine ev_iconst (v := 2) (q := 52) dX4_takeNumber_51 mci_2 rfl ?_
        refine ev_putfI (q := 55) mw_f_RX4_31 rfl dX4_takeNumber_52 rfl ?_
        refine ev_nmf (fun f_4 hf_4 => ?_)
        have hg := mj_lt_el hf_4 hg
        refine ev_wk (loc' := [some (.ref _), some (.int _), none, none, none]) ⟨rfl, rfl, trivial⟩ ?_
        exact r_X4_takeNumber_55 _ _ _ hg
  · refine ev_wk (loc' := [some (.ref _), some (.int _), none, none, none]) ⟨rfl, rfl, trivial⟩ ?_
    exact r_X4_takeNumber_55 _ _ _ hg
def g_X4_takeNumber (x1 : Int32) (x2 : Int32) (x3 : Int32) (f : mj_I) : Option (Int32 × mj_I) :=
  if (f 2 6) = 0 then
   if (f 2 4) = (-1 : Int32) then
    g_X4_takeNumber_20 x1 x2 x3 f
   else
    mj_lt (mj_wr f 2 6 (1 : Int32)) (fun f_1 =>
    g_X4_takeNumber_20 x1 x2 x3 f_1)
  else
   g_X4_takeNumber_20 x1 x2 x3 f
theorem r_X4_takeNumber {x1 : Int32} {x2 : Int32} {x3 : Int32} {f : mj_I} {g : mj_L} {o : Int32 × mj_I} (hg : g_X4_takeNumber x1 x2 x3 f = some o) : mj_Sp jX4_takeNumber mx_S [.ref 2, .int x1, .int x2, .int x3] f g (fun v f' g' => some (.int o.1) = v ∧ o.2 = f' ∧ g = g') := by
  refine mj_sp 1 (by decide +kernel) rfl rfl (fun _ _ => Nat.le_of_ble_eq_true rfl) ?_
  show mj_Ev jX4_takeNumber 0 [some (.ref 2), some (.int x1), some (.int x2), some (.int x3), none] [] mx_S f g _
  unfold g_X4_takeNumber at hg
  refine ev_aload_n (q := 1) dX4_takeNumber_0 rfl rfl ?_
  refine ev_getfI (q := 4) mw_f_RX4_31 (by decide) (by decide) rfl dX4_takeNumber_1 rfl ?_
  refine ev_if_ne (t := 20) (q := 7) dX4_takeNumber_4 rfl rfl hg (fun hg => ?_) (fun hg => ?_)
  · refine ev_aload_n (q := 8) dX4_takeNumber_7 rfl rfl ?_
    refine ev_getfI (q := 11) mw_f_RX4_25 (by decide) (by decide) rfl dX4_takeNumber_8 rfl ?_
    refine ev_iconst (v := -1) (q := 12) dX4_takeNumber_11 mci_m1 rfl ?_
    refine ev_icmp_eq (t := 20) (q := 15) dX4_takeNumber_12 rfl rfl hg (fun hg => ?_) (fun hg => ?_)
    · exact r_X4_takeNumber_20 _ _ _ _ _ hg
    · refine ev_aload_n (q := 16) dX4_takeNumber_15 rfl rfl ?_
      refine ev_iconst (v := 1) (q := 17) dX4_takeNumber_16 mci_1 rfl ?_
      refine ev_putfI (q := 20) mw_f_RX4_31 rfl dX4_takeNumber_17 rfl ?_
      refine ev_nmf (fun f_1 hf_1 => ?_)
      have hg := mj_lt_el hf_1 hg
      exact r_X4_takeNumber_20 _ _ _ _ _ hg
  · exact r_X4_takeNumber_20 _ _ _ _ _ hg
def g_X4_readLaw (a1 : Nat) (f : mj_I) : Option (mj_I) :=
  (g_X4_takeSign (107 : Int32) f).bind (fun o_1 =>
  (g_X4_takeNumber (1 : Int32) (9 : Int32) (0 : Int32) o_1).bind (fun o_2 =>
  mj_lt (mj_wr o_2.2 a1 1 o_2.1) (fun f_3 =>
  (g_X4_takeSign (44 : Int32) f_3).bind (fun o_4 =>
  (g_X4_takeNumber (0 : Int32) (9 : Int32) (0 : Int32) o_4).bind (fun o_5 =>
  mj_lt (mj_wr o_5.2 a1 2 o_5.1) (fun f_6 =>
  (g_X4_takeSign (59 : Int32) f_6).bind (fun o_7 =>
  some (o_7))))))))
theorem r_X4_readLaw {a1 : Nat} {f : mj_I} {g : mj_L} {o : mj_I} (h1 : mx_isH a1) (hg : g_X4_readLaw a1 f = some o) : mj_Sp jX4_readLaw mx_S [.ref 2, .ref a1] f g (fun v f' g' => none = v ∧ o = f' ∧ g = g') := by
  refine mj_sp 0 (by decide +kernel) rfl rfl (fun _ _ => Nat.le_of_ble_eq_true rfl) ?_
  show mj_Ev jX4_readLaw 0 [some (.ref 2), some (.ref a1)] [] mx_S f g _
  unfold g_X4_readLaw at hg
  refine ev_aload_n (q := 1) dX4_readLaw_0 rfl rfl ?_
  refine ev_bipush (v := 107) (q := 3) dX4_readLaw_1 mcb_107 rfl ?_
  obtain ⟨o_1, ho_1, hg⟩ := mj_bd hg
  refine ev_callV (q := 6) kX4_takeSign mw_i_X4_takeSign mw_s_X4_takeSign mw_m_RX4_56 rfl rfl (r_X4_takeSign ho_1) rfl rfl (Nat.le_of_ble_eq_true rfl) (by decide) dX4_readLaw_3 rfl (fun v fv gv hp => ?_)
  obtain ⟨rfl, rfl, rfl⟩ := hp
  refine ev_aload_n (q := 7) dX4_readLaw_6 rfl rfl ?_
  refine ev_aload_n (q := 8) dX4_readLaw_7 rfl rfl ?_
  refine ev_iconst (v := 1) (q := 9) dX4_readLaw_8 mci_1 rfl ?_
  refine ev_bipush (v := 9) (q := 11) dX4_readLaw_9 mcb_9 rfl ?_
  refine ev_iconst (v := 0) (q := 12) dX4_readLaw_11 mci_0 rfl ?_
  obtain ⟨o_2, ho_2, hg⟩ := mj_bd hg
  refine ev_callV (q := 15) kX4_takeNumber mw_i_X4_takeNumber mw_s_X4_takeNumber mw_m_RX4_60 rfl rfl (r_X4_takeNumber ho_2) rfl rfl (Nat.le_of_ble_eq_true rfl) (by decide) dX4_readLaw_12 rfl (fun v fv gv hp => ?_)
  obtain ⟨rfl, rfl, rfl⟩ := hp
  refine ev_putfI (q := 18) mw_f_RX4_64 (mx_H h1) dX4_readLaw_15 rfl ?_
  refine ev_nmf (fun f_3 hf_3 => ?_)
  have hg := mj_lt_el hf_3 hg
  refine ev_aload_n (q := 19) dX4_readLaw_18 rfl rfl ?_
  refine ev_bipush (v := 44) (q := 21) dX4_readLaw_19 mcb_44 rfl ?_
  obtain ⟨o_4, ho_4, hg⟩ := mj_bd hg
  refine ev_callV (q := 24) kX4_takeSign mw_i_X4_takeSign mw_s_X4_takeSign mw_m_RX4_56 rfl rfl (r_X4_takeSign ho_4) rfl rfl (Nat.le_of_ble_eq_true rfl) (by decide) dX4_readLaw_21 rfl (fun v fv gv hp => ?_)
  obtain ⟨rfl, rfl, rfl⟩ := hp
  refine ev_aload_n (q := 25) dX4_readLaw_24 rfl rfl ?_
  refine ev_aload_n (q := 26) dX4_readLaw_25 rfl rfl ?_
  refine ev_iconst (v := 0) (q := 27) dX4_readLaw_26 mci_0 rfl ?_
  refine ev_bipush (v := 9) (q := 29) dX4_readLaw_27 mcb_9 rfl ?_
  refine ev_iconst (v := 0) (q := 30) dX4_readLaw_29 mci_0 rfl ?_
  obtain ⟨o_5, ho_5, hg⟩ := mj_bd hg
  refine ev_callV (q := 33) kX4_takeNumber mw_i_X4_takeNumber mw_s_X4_takeNumber mw_m_RX4_60 rfl rfl (r_X4_takeNumber ho_5) rfl rfl (Nat.le_of_ble_eq_true rfl) (by decide) dX4_readLaw_30 rfl (fun v fv gv hp => ?_)
  obtain ⟨rfl, rfl, rfl⟩ := hp
  refine ev_putfI (q := 36) mw_f_RX4_67 (mx_H h1) dX4_readLaw_33 rfl ?_
  refine ev_nmf (fun f_6 hf_6 => ?_)
  have hg := mj_lt_el hf_6 hg
  refine ev_aload_n (q := 37) dX4_readLaw_36 rfl rfl ?_
  refine ev_bipush (v := 59) (q := 39) dX4_readLaw_37 mcb_59 rfl ?_
  obtain ⟨o_7, ho_7, hg⟩ := mj_bd hg
  refine ev_callV (q := 42) kX4_takeSign mw_i_X4_takeSign mw_s_X4_takeSign mw_m_RX4_56 rfl rfl (r_X4_takeSign ho_7) rfl rfl (Nat.le_of_ble_eq_true rfl) (by decide) dX4_readLaw_39 rfl (fun v fv gv hp => ?_)
  obtain ⟨rfl, rfl, rfl⟩ := hp
  obtain rfl := Option.some.inj hg
  exact ev_vret dX4_readLaw_42 rfl ⟨rfl, rfl, rfl⟩
def g_X4_directionOf (x0 : Int32) : Int32 :=
  if x0 = (101 : Int32) then
   (1 : Int32)
  else
   if x0 = (110 : Int32) then
    (4 : Int32)
   else
    if x0 = (111 : Int32) then
     (0 : Int32)
    else
     if x0 = (115 : Int32) then
      (3 : Int32)
     else
      if x0 = (119 : Int32) then
       (2 : Int32)
      else
       (-1 : Int32)
theorem r_X4_directionOf {x0 : Int32} {f : mj_I} {g : mj_L} {o : Int32} (hg : g_X4_directionOf x0 = o) : mj_Sp jX4_directionOf mx_S [.int x0] f g (fun v f' g' => some (.int o) = v ∧ f = f' ∧ g = g') := by
  refine mj_sp 0 (by decide +kernel) rfl rfl (fun _ _ => Nat.le_of_ble_eq_true rfl) ?_
  show mj_Ev jX4_directionOf 0 [some (.int x0)] [] mx_S f g _
  unfold g_X4_directionOf at hg
  refine ev_iload_n (q := 1) dX4_directionOf_0 rfl rfl ?_
  rcases mj_ite hg with ⟨hx_1_0, hg⟩ | ⟨hx_1_0, hg⟩
  · refine ev_look (off := 53) (q := 54) dX4_directionOf_1 (by decide) (by rw [hx_1_0]; rfl) rfl ?_
    refine ev_iconst (v := 1) (q := 55) dX4_directionOf_54 mci_1 rfl ?_
    subst hg
    exact ev_iret dX4_directionOf_55 rfl ⟨rfl, rfl, rfl⟩
  · rcases mj_ite hg with ⟨hx_1_1, hg⟩ | ⟨hx_1_1, hg⟩
    · refine ev_look (off := 59) (q := 60) dX4_directionOf_1 (by decide) (by rw [hx_1_1]; rfl) rfl ?_
      refine ev_iconst (v := 4) (q := 61) dX4_directionOf_60 mci_4 rfl ?_
      subst hg
      exact ev_iret dX4_directionOf_61 rfl ⟨rfl, rfl, rfl⟩
    · rcases mj_ite hg with ⟨hx_1_2, hg⟩ | ⟨hx_1_2, hg⟩
      · refine ev_look (off := 51) (q := 52) dX4_directionOf_1 (by decide) (by rw [hx_1_2]; rfl) rfl ?_
        refine ev_iconst (v := 0) (q := 53) dX4_directionOf_52 mci_0 rfl ?_
        subst hg
        exact ev_iret dX4_directionOf_53 rfl ⟨rfl, rfl, rfl⟩
      · rcases mj_ite hg with ⟨hx_1_3, hg⟩ | ⟨hx_1_3, hg⟩
        · refine ev_look (off := 57) (q := 58) dX4_directionOf_1 (by decide) (by rw [hx_1_3]; rfl) rfl ?_
          refine ev_iconst (v := 3) (q := 59) dX4_directionOf_58 mci_3 rfl ?_
          subst hg
          exact ev_iret dX4_directionOf_59 rfl ⟨rfl, rfl, rfl⟩
        · rcases mj_ite hg with ⟨hx_1_4, hg⟩ | ⟨hx_1_4, hg⟩
          · refine ev_look (off := 55) (q := 56) dX4_directionOf_1 (by decide) (by rw [hx_1_4]; rfl) rfl ?_
            refine ev_iconst (v := 2) (q := 57) dX4_directionOf_56 mci_2 rfl ?_
            subst hg
            exact ev_iret dX4_directionOf_57 rfl ⟨rfl, rfl, rfl⟩
          · refine ev_look (off := 61) (q := 62) dX4_directionOf_1 (by decide) (by show Op.lookupswitch.offset [(101, 53), (110, 59), (111, 51), (115, 57), (119, 55)] 61 _ = _; rw [lv_osw (k := 101) hx_1_0 (by decide), lv_osw (k := 110) hx_1_1 (by decide), lv_osw (k := 111) hx_1_2 (by decide), lv_osw (k := 115) hx_1_3 (by decide), lv_osw (k := 119) hx_1_4 (by decide)]; rfl) rfl ?_
            refine ev_iconst (v := -1) (q := 63) dX4_directionOf_62 mci_m1 rfl ?_
            subst hg
            exact ev_iret dX4_directionOf_63 rfl ⟨rfl, rfl, rfl⟩
def g_X4_takeDirection (f : mj_I) : Option (Int32 × mj_I) :=
  mj_lt ((g_X4_directionOf (f 2 4))) (fun u_2 =>
  if (f 2 6) = 0 then
   if u_2 < 0 then
    mj_lt (mj_wr f 2 6 (1 : Int32)) (fun f_3 =>
    if (f_3 2 6) = 0 then
     (g_X4_look f_3).bind (fun o_4 =>
     some ((u_2, o_4)))
    else
     some (((0 : Int32), f_3)))
   else
    if (f 2 6) = 0 then
     (g_X4_look f).bind (fun o_5 =>
     some ((u_2, o_5)))
    else
     some (((0 : Int32), f))
  else
   if (f 2 6) = 0 then
    (g_X4_look f).bind (fun o_6 =>
    some ((u_2, o_6)))
   else
    some (((0 : Int32), f)))
theorem r_X4_takeDirection {f : mj_I} {g : mj_L} {o : Int32 × mj_I} (hg : g_X4_takeDirection f = some o) : mj_Sp jX4_takeDirection mx_S [.ref 2] f g (fun v f' g' => some (.int o.1) = v ∧ o.2 = f' ∧ g = g') := by
  refine mj_sp 1 (by decide +kernel) rfl rfl (fun _ _ => Nat.le_of_ble_eq_true rfl) ?_
  show mj_Ev jX4_takeDirection 0 [some (.ref 2), none] [] mx_S f g _
  unfold g_X4_takeDirection at hg
  refine ev_aload_n (q := 1) dX4_takeDirection_0 rfl rfl ?_
  refine ev_getfI (q := 4) mw_f_RX4_25 (by decide) (by decide) rfl dX4_takeDirection_1 rfl ?_
  refine ev_callS (q := 7) kX4_directionOf mw_t_X4_directionOf mw_m_RX4_102 (r_X4_directionOf rfl) rfl rfl (Nat.le_of_ble_eq_true rfl) (by decide) dX4_takeDirection_4 rfl (fun v fv gv hp => ?_)
  obtain ⟨rfl, rfl, rfl⟩ := hp
  refine ev_nmi (fun u_2 hu_2 => ?_)
  have hg := mj_lt_el hu_2 hg
  refine ev_istore_n (q := 8) (loc' := [some (.ref _), some (.int _)]) dX4_takeDirection_7 (by decide) rfl rfl ?_
  refine ev_aload_n (q := 9) dX4_takeDirection_8 rfl rfl ?_
  refine ev_getfI (q := 12) mw_f_RX4_31 (by decide) (by decide) rfl dX4_takeDirection_9 rfl ?_
  refine ev_if_ne (t := 24) (q := 15) dX4_takeDirection_12 rfl rfl hg (fun hg => ?_) (fun hg => ?_)
  · refine ev_iload_n (q := 16) dX4_takeDirection_15 rfl rfl ?_
    refine ev_if_ge (t := 24) (q := 19) dX4_takeDirection_16 rfl rfl hg (fun hg => ?_) (fun hg => ?_)
    · refine ev_aload_n (q := 20) dX4_takeDirection_19 rfl rfl ?_
      refine ev_iconst (v := 1) (q := 21) dX4_takeDirection_20 mci_1 rfl ?_
      refine ev_putfI (q := 24) mw_f_RX4_31 rfl dX4_takeDirection_21 rfl ?_
      refine ev_nmf (fun f_3 hf_3 => ?_)
      have hg := mj_lt_el hf_3 hg
      refine ev_aload_n (q := 25) dX4_takeDirection_24 rfl rfl ?_
      refine ev_getfI (q := 28) mw_f_RX4_31 (by decide) (by decide) rfl dX4_takeDirection_25 rfl ?_
      refine ev_if_eq (t := 33) (q := 31) dX4_takeDirection_28 rfl rfl hg (fun hg => ?_) (fun hg => ?_)
      · refine ev_aload_n (q := 34) dX4_takeDirection_33 rfl rfl ?_
        obtain ⟨o_4, ho_4, hg⟩ := mj_bd hg
        refine ev_callV (q := 37) kX4_look mw_i_X4_look mw_s_X4_look mw_m_RX4_34 rfl rfl (r_X4_look ho_4) rfl rfl (Nat.le_of_ble_eq_true rfl) (by decide) dX4_takeDirection_34 rfl (fun v fv gv hp => ?_)
        obtain ⟨rfl, rfl, rfl⟩ := hp
        refine ev_iload_n (q := 38) dX4_takeDirection_37 rfl rfl ?_
        obtain rfl := Option.some.inj hg
        exact ev_iret dX4_takeDirection_38 rfl ⟨rfl, rfl, rfl⟩
      · refine ev_iconst (v := 0) (q := 32) dX4_takeDirection_31 mci_0 rfl ?_
        obtain rfl := Option.some.inj hg
        exact ev_iret dX4_takeDirection_32 rfl ⟨rfl, rfl, rfl⟩
    · refine ev_aload_n (q := 25) dX4_takeDirection_24 rfl rfl ?_
      refine ev_getfI (q := 28) mw_f_RX4_31 (by decide) (by decide) rfl dX4_takeDirection_25 rfl ?_
      refine ev_if_eq (t := 33) (q := 31) dX4_takeDirection_28 rfl rfl hg (fun hg => ?_) (fun hg => ?_)
      · refine ev_aload_n (q := 34) dX4_takeDirection_33 rfl rfl ?_
        obtain ⟨o_5, ho_5, hg⟩ := mj_bd hg
        refine ev_callV (q := 37) kX4_look mw_i_X4_look mw_s_X4_look mw_m_RX4_34 rfl rfl (r_X4_look ho_5) rfl rfl (Nat.le_of_ble_eq_true rfl) (by decide) dX4_takeDirection_34 rfl (fun v fv gv hp => ?_)
        obtain ⟨rfl, rfl, rfl⟩ := hp
        refine ev_iload_n (q := 38) dX4_takeDirection_37 rfl rfl ?_
        obtain rfl := Option.some.inj hg
        exact ev_iret dX4_takeDirection_38 rfl ⟨rfl, rfl, rfl⟩
      · refine ev_iconst (v := 0) (q := 32) dX4_takeDirection_31 mci_0 rfl ?_
        obtain rfl := Option.some.inj hg
        exact ev_iret dX4_takeDirection_32 rfl ⟨rfl, rfl, rfl⟩
  · refine ev_aload_n (q := 25) dX4_takeDirection_24 rfl rfl ?_
    refine ev_getfI (q := 28) mw_f_RX4_31 (by decide) (by decide) rfl dX4_takeDirection_25 rfl ?_
    refine ev_if_eq (t := 33) (q := 31) dX4_takeDirection_28 rfl rfl hg (fun hg => ?_) (fun hg => ?_)
    · refine ev_aload_n (q := 34) dX4_takeDirection_33 rfl rfl ?_
      obtain ⟨o_6, ho_6, hg⟩ := mj_bd hg
      refine ev_callV (q := 37) kX4_look mw_i_X4_look mw_s_X4_look mw_m_RX4_34 rfl rfl (r_X4_look ho_6) rfl rfl (Nat.le_of_ble_eq_true rfl) (by decide) dX4_takeDirection_34 rfl (fun v fv gv hp => ?_)
      obtain ⟨rfl, rfl, rfl⟩ := hp
      refine ev_iload_n (q := 38) dX4_takeDirection_37 rfl rfl ?_
      obtain rfl := Option.some.inj hg
      exact ev_iret dX4_takeDirection_38 rfl ⟨rfl, rfl, rfl⟩
    · refine ev_iconst (v := 0) (q := 32) dX4_takeDirection_31 mci_0 rfl ?_
      obtain rfl := Option.some.inj hg
      exact ev_iret dX4_takeDirection_32 rfl ⟨rfl, rfl, rfl⟩
def g_X4_readWind_8 : Nat → Nat → Int32 → Int32 → mj_I → Option (mj_I)
  | 0, _, _, _, _ => none
  | n + 1, a1, x3, x4, f =>
    if x4 < (6 : Int32) then
     (g_X4_takeDirection f).bind (fun o_4 =>
     if mj_in ((x3 * (6 : Int32)) + x4) 12 = true then
     mj_lt (mj_wr o_4.2 (a1 + 1) (ix ((x3 * (6 : Int32)) + x4)) o_4.1) (fun f_5 =>
      g_X4_readWind_8 n a1 x3 (x4 + (1 : Int32)) f_5)
     else none)
    else
     some (f)
theorem r_X4_readWind_8 {g : mj_L} {post : Option Value → mj_I → mj_L → Prop} : ∀ (n : Nat) (a1 : Nat) (x3 : Int32) (x4 : Int32) (f : mj_I) (o : mj_I), mx_isH a1 → g_X4_readWind_8 n a1 x3 x4 f = some o → mj_Ev jX4_readWind 37 [some (.ref 2), none, none, none, none] [] mx_S o g post → mj_Ev jX4_readWind 8 [some (.ref 2), some (.ref a1), none, some (.int x3), some (.int x4)] [] mx_S f g post := by
  intro n
  induction n with
  | zero =>
    intro a1 x3 x4 f o h1 hg hk
    cases hg
  | succ n ih =>
    intro a1 x3 x4 f o h1 hg hk
    unfold g_X4_readWind_8 at hg
    refine ev_iload (q := 10) dX4_readWind_8 rfl rfl ?_
    refine ev_bipush (v := 6) (q := 12) dX4_readWind_10 mcb_6 rfl ?_
    refine ev_icmp_ge (t := 37) (q := 15) dX4_readWind_12 rfl rfl hg (fun hg => ?_) (fun hg => ?_)
    · refine ev_aload_n (q := 16) dX4_readWind_15 rfl rfl ?_
      refine ev_getfR (q := 19) mw_f_RX4_70 (mx_H h1) rfl dX4_readWind_16 rfl ?_
      refine ev_iload_n (q := 20) dX4_readWind_19 rfl rfl ?_
      refine ev_bipush (v := 6) (q := 22) dX4_readWind_20 mcb_6 rfl ?_
      refine ev_imul (q := 23) dX4_readWind_22 rfl ?_
      refine ev_iload (q := 25) dX4_readWind_23 rfl rfl ?_
      refine ev_iadd (q := 26) dX4_readWind_25 rfl ?_
      refine ev_aload_n (q := 27) dX4_readWind_26 rfl rfl ?_
      obtain ⟨o_4, ho_4, hg⟩ := mj_bd hg
      refine ev_callV (q := 30) kX4_takeDirection mw_i_X4_takeDirection mw_s_X4_takeDirection mw_m_RX4_73 rfl rfl (r_X4_takeDirection ho_4) rfl rfl (Nat.le_of_ble_eq_true rfl) (by decide) dX4_readWind_27 rfl (fun v fv gv hp => ?_)
      obtain ⟨rfl, rfl, rfl⟩ := hp
      obtain ⟨hi_5, hg⟩ := mj_gd hg
      refine ev_iastk (q := 31) (mx_HW h1) hi_5 rfl dX4_readWind_30 rfl ?_
      refine ev_nmf (fun f_5 hf_5 => ?_)
      have hg := mj_lt_el hf_5 hg
      refine ev_iinc (v := 1) (q := 34) (loc' := [some (.ref _), some (.ref _), none, some (.int _), some (.int _)]) dX4_readWind_31 rfl (by decide) mci_1 rfl rfl ?_
      refine ev_goto (q := 8) dX4_readWind_34 rfl ?_
      exact ih _ _ _ _ _ h1 hg hk
    · obtain rfl := Option.some.inj hg
      refine ev_wk (loc' := [some (.ref _), none, none, none, none]) ⟨rfl, trivial⟩ ?_
      exact hk
def g_X4_readWind (a1 : Nat) (x2 : Int32) (x3 : Int32) (f : mj_I) : Option (mj_I) :=
  (g_X4_takeSign x2 f).bind (fun o_1 =>
  (g_X4_readWind_8 mj_fuel a1 x3 (0 : Int32) o_1).bind (fun q_2 =>
  (g_X4_takeSign (59 : Int32) q_2).bind (fun o_3 =>
  some (o_3))))
theorem r_X4_readWind {a1 : Nat} {x2 : Int32} {x3 : Int32} {f : mj_I} {g : mj_L} {o : mj_I} (h1 : mx_isH a1) (hg : g_X4_readWind a1 x2 x3 f = some o) : mj_Sp jX4_readWind mx_S [.ref 2, .ref a1, .int x2, .int x3] f g (fun v f' g' => none = v ∧ o = f' ∧ g = g') := by
  refine mj_sp 1 (by decide +kernel) rfl rfl (fun _ _ => Nat.le_of_ble_eq_true rfl) ?_
  show mj_Ev jX4_readWind 0 [some (.ref 2), some (.ref a1), some (.int x2), some (.int x3), none] [] mx_S f g _
  unfold g_X4_readWind at hg
  refine ev_aload_n (q := 1) dX4_readWind_0 rfl rfl ?_
  refine ev_iload_n (q := 2) dX4_readWind_1 rfl rfl ?_
  obtain ⟨o_1, ho_1, hg⟩ := mj_bd hg
  refine ev_callV (q := 5) kX4_takeSign mw_i_X4_takeSign mw_s_X4_takeSign mw_m_RX4_56 rfl rfl (r_X4_takeSign ho_1) rfl rfl (Nat.le_of_ble_eq_true rfl) (by decide) dX4_readWind_2 rfl (fun v fv gv hp => ?_)
  obtain ⟨rfl, rfl, rfl⟩ := hp
  refine ev_iconst (v := 0) (q := 6) dX4_readWind_5 mci_0 rfl ?_
  refine ev_istore (q := 8) (loc' := [some (.ref _), some (.ref _), some (.int _), some (.int _), some (.int _)]) dX4_readWind_6 (by decide) rfl rfl ?_
  obtain ⟨q_2, hq_2, hg⟩ := mj_bd hg
  refine ev_wk (loc' := [some (.ref _), some (.ref _), none, some (.int _), some (.int _)]) ⟨rfl, rfl, rfl, rfl, trivial⟩ ?_
  refine r_X4_readWind_8 mj_fuel _ _ _ _ _ h1 hq_2 ?_
  refine ev_aload_n (q := 38) dX4_readWind_37 rfl rfl ?_
  refine ev_bipush (v := 59) (q := 40) dX4_readWind_38 mcb_59 rfl ?_
  obtain ⟨o_3, ho_3, hg⟩ := mj_bd hg
  refine ev_callV (q := 43) kX4_takeSign mw_i_X4_takeSign mw_s_X4_takeSign mw_m_RX4_56 rfl rfl (r_X4_takeSign ho_3) rfl rfl (Nat.le_of_ble_eq_true rfl) (by decide) dX4_readWind_40 rfl (fun v fv gv hp => ?_)
  obtain ⟨rfl, rfl, rfl⟩ := hp
  obtain rfl := Option.some.inj hg
  exact ev_vret dX4_readWind_43 rfl ⟨rfl, rfl, rfl⟩
def g_X4_parishOf (x0 : Int32) : Int32 :=
  if x0 = (102 : Int32) then
   (1 : Int32)
  else
   if x0 = (104 : Int32) then
    (2 : Int32)
   else
    if x0 = (109 : Int32) then
     (3 : Int32)
    else
     (0 : Int32)
theorem r_X4_parishOf {x0 : Int32} {f : mj_I} {g : mj_L} {o : Int32} (hg : g_X4_parishOf x0 = o) : mj_Sp jX4_parishOf mx_S [.int x0] f g (fun v f' g' => some (.int o) = v ∧ f = f' ∧ g = g') := by
  refine mj_sp 0 (by decide +kernel) rfl rfl (fun _ _ => Nat.le_of_ble_eq_true rfl) ?_
  show mj_Ev jX4_parishOf 0 [some (.int x0)] [] mx_S f g _
  unfold g_X4_parishOf at hg
  refine ev_iload_n (q := 1) dX4_parishOf_0 rfl rfl ?_
  rcases mj_ite hg with ⟨hx_1_0, hg⟩ | ⟨hx_1_0, hg⟩
  · refine ev_look (off := 35) (q := 36) dX4_parishOf_1 (by decide) (by rw [hx_1_0]; rfl) rfl ?_
    refine ev_iconst (v := 1) (q := 37) dX4_parishOf_36 mci_1 rfl ?_
    subst hg
    exact ev_iret dX4_parishOf_37 rfl ⟨rfl, rfl, rfl⟩
  · rcases mj_ite hg with ⟨hx_1_1, hg⟩ | ⟨hx_1_1, hg⟩
    · refine ev_look (off := 37) (q := 38) dX4_parishOf_1 (by decide) (by rw [hx_1_1]; rfl) rfl ?_
      refine ev_iconst (v := 2) (q := 39) dX4_parishOf_38 mci_2 rfl ?_
      subst hg
      exact ev_iret dX4_parishOf_39 rfl ⟨rfl, rfl, rfl⟩
    · rcases mj_ite hg with ⟨hx_1_2, hg⟩ | ⟨hx_1_2, hg⟩
      · refine ev_look (off := 39) (q := 40) dX4_parishOf_1 (by decide) (by rw [hx_1_2]; rfl) rfl ?_
        refine ev_iconst (v := 3) (q := 41) dX4_parishOf_40 mci_3 rfl ?_
        subst hg
        exact ev_iret dX4_parishOf_41 rfl ⟨rfl, rfl, rfl⟩
      · refine ev_look (off := 41) (q := 42) dX4_parishOf_1 (by decide) (by show Op.lookupswitch.offset [(102, 35), (104, 37), (109, 39)] 41 _ = _; rw [lv_osw (k := 102) hx_1_0 (by decide), lv_osw (k := 104) hx_1_1 (by decide), lv_osw (k := 109) hx_1_2 (by decide)]; rfl) rfl ?_
        refine ev_iconst (v := 0) (q := 43) dX4_parishOf_42 mci_0 rfl ?_
        subst hg
        exact ev_iret dX4_parishOf_43 rfl ⟨rfl, rfl, rfl⟩
def g_X4_readParishes_4 : Nat → Nat → Int32 → Int32 → mj_I → Option (mj_I)
  | 0, _, _, _, _ => none
  | n + 1, a1, x2, x3, f =>
    if (8 : Int32) < x3 then
     some (f)
    else
     if (f 2 6) = 0 then
      if (g_X4_parishOf (f 2 4)) = 0 then
       some (f)
      else
       if x3 = (8 : Int32) then
        mj_lt (mj_wr f 2 6 (3 : Int32)) (fun f_2 =>
        some (f_2))
       else
        mj_lt ((g_X4_parishOf (f 2 4))) (fun u_4 =>
        (g_X4_look f).bind (fun o_5 =>
        (g_X4_takeNumber (0 : Int32) (31 : Int32) x2 o_5).bind (fun o_6 =>
        (g_X4_takeSign (59 : Int32) o_6.2).bind (fun o_7 =>
        if mj_in o_6.1 32 = true then
        mj_lt (mj_wr o_7 (a1 + 2) (ix o_6.1) u_4) (fun f_8 =>
         mj_lt (mj_wr f_8 a1 3 (x3 + (1 : Int32))) (fun f_9 =>
         mj_lt ((x2 ||| ((1 : Int32) <<< (o_6.1 &&& 31)))) (fun u_10 =>
         g_X4_readParishes_4 n a1 u_10 (x3 + (1 : Int32)) f_9)))
        else none))))
     else
      some (f)
theorem r_X4_readParishes_4 {g : mj_L} : ∀ (n : Nat) (a1 : Nat) (x2 : Int32) (x3 : Int32) (f : mj_I) (o : mj_I), mx_isH a1 → g_X4_readParishes_4 n a1 x2 x3 f = some o → mj_Ev jX4_readParishes 4 [some (.ref 2), some (.ref a1), some (.int x2), some (.int x3), none, none] [] mx_S f g (fun v f' g' => none = v ∧ o = f' ∧ g = g') := by
  intro n
  induction n with
  | zero =>
    intro a1 x2 x3 f o h1 hg
    cases hg
  | succ n ih =>
    intro a1 x2 x3 f o h1 hg
    unfold g_X4_readParishes_4 at hg
    refine ev_iload_n (q := 5) dX4_readParishes_4 rfl rfl ?_
    refine ev_bipush (v := 8) (q := 7) dX4_readParishes_5 mcb_8 rfl ?_
    refine ev_icmp_gt (t := 97) (q := 10) dX4_readParishes_7 rfl rfl hg (fun hg => ?_) (fun hg => ?_)
    · obtain rfl := Option.some.inj hg
      exact ev_vret dX4_readParishes_97 rfl ⟨rfl, rfl, rfl⟩
    · refine ev_aload_n (q := 11) dX4_readParishes_10 rfl rfl ?_
      refine ev_getfI (q := 14) mw_f_RX4_31 (by decide) (by decide) rfl dX4_readParishes_11 rfl ?_
      refine ev_if_ne (t := 97) (q := 17) dX4_readParishes_14 rfl rfl hg (fun hg => ?_) (fun hg => ?_)
      · refine ev_aload_n (q := 18) dX4_readParishes_17 rfl rfl ?_
        refine ev_getfI (q := 21) mw_f_RX4_25 (by decide) (by decide) rfl dX4_readParishes_18 rfl ?_
        refine ev_callS (q := 24) kX4_parishOf mw_t_X4_parishOf mw_m_RX4_77 (r_X4_parishOf rfl) rfl rfl (Nat.le_of_ble_eq_true rfl) (by decide) dX4_readParishes_21 rfl (fun v fv gv hp => ?_)
        obtain ⟨rfl, rfl, rfl⟩ := hp
        refine ev_if_eq (t := 97) (q := 27) dX4_readParishes_24 rfl rfl hg (fun hg => ?_) (fun hg => ?_)
        · obtain rfl := Option.some.inj hg
          exact ev_vret dX4_readParishes_97 rfl ⟨rfl, rfl, rfl⟩
        · refine ev_iload_n (q := 28) dX4_readParishes_27 rfl rfl ?_
          refine ev_bipush (v := 8) (q := 30) dX4_readParishes_28 mcb_8 rfl ?_
          refine ev_icmp_ne (t := 39) (q := 33) dX4_readParishes_30 rfl rfl hg (fun hg => ?_) (fun hg => ?_)
          · refine ev_aload_n (q := 34) dX4_readParishes_33 rfl rfl ?_
            refine ev_iconst (v := 3) (q := 35) dX4_readParishes_34 mci_3 rfl ?_
            refine ev_putfI (q := 38) mw_f_RX4_31 rfl dX4_readParishes_35 rfl ?_
            refine ev_nmf (fun f_2 hf_2 => ?_)
            have hg := mj_lt_el hf_2 hg
            obtain rfl := Option.some.inj hg
            exact ev_vret dX4_readParishes_38 rfl ⟨rfl, rfl, rfl⟩
          · refine ev_aload_n (q := 40) dX4_readParishes_39 rfl rfl ?_
            refine ev_getfI (q := 43) mw_f_RX4_25 (by decide) (by decide) rfl dX4_readParishes_40 rfl ?_
            refine ev_callS (q := 46) kX4_parishOf mw_t_X4_parishOf mw_m_RX4_77 (r_X4_parishOf rfl) rfl rfl (Nat.le_of_ble_eq_true rfl) (by decide) dX4_readParishes_43 rfl (fun v fv gv hp => ?_)
            obtain ⟨rfl, rfl, rfl⟩ := hp
            refine ev_nmi (fun u_4 hu_4 => ?_)
            have hg := mj_lt_el hu_4 hg
            refine ev_istore (q := 48) (loc' := [some (.ref _), some (.ref _), some (.int _), some (.int _), some (.int _), none]) dX4_readParishes_46 (by decide) rfl rfl ?_
            refine ev_aload_n (q := 49) dX4_readParishes_48 rfl rfl ?_
            obtain ⟨o_5, ho_5, hg⟩ := mj_bd hg
            refine ev_callV (q := 52) kX4_look mw_i_X4_look mw_s_X4_look mw_m_RX4_34 rfl rfl (r_X4_look ho_5) rfl rfl (Nat.le_of_ble_eq_true rfl) (by decide) dX4_readParishes_49 rfl (fun v fv gv hp => ?_)
            obtain ⟨rfl, rfl, rfl⟩ := hp
            refine ev_aload_n (q := 53) dX4_readParishes_52 rfl rfl ?_
            refine ev_iconst (v := 0) (q := 54) dX4_readParishes_53 mci_0 rfl ?_
            refine ev_bipush (v := 31) (q := 56) dX4_readParishes_54 mcb_31 rfl ?_
            refine ev_iload_n (q := 57) dX4_readParishes_56 rfl rfl ?_
            obtain ⟨o_6, ho_6, hg⟩ := mj_bd hg
            refine ev_callV (q := 60) kX4_takeNumber mw_i_X4_takeNumber mw_s_X4_takeNumber mw_m_RX4_60 rfl rfl (r_X4_takeNumber ho_6) rfl rfl (Nat.le_of_ble_eq_true rfl) (by decide) dX4_readParishes_57 rfl (fun v fv gv hp => ?_)
            obtain ⟨rfl, rfl, rfl⟩ := hp
            refine ev_istore (q := 62) (loc' := [some (.ref _), some (.ref _), some (.int _), some (.int _), some (.int _), some (.int _)]) dX4_readParishes_60 (by decide) rfl rfl ?_
            refine ev_aload_n (q := 63) dX4_readParishes_62 rfl rfl ?_
            refine ev_bipush (v := 59) (q := 65) dX4_readParishes_63 mcb_59 rfl ?_
            obtain ⟨o_7, ho_7, hg⟩ := mj_bd hg
            refine ev_callV (q := 68) kX4_takeSign mw_i_X4_takeSign mw_s_X4_takeSign mw_m_RX4_56 rfl rfl (r_X4_takeSign ho_7) rfl rfl (Nat.le_of_ble_eq_true rfl) (by decide) dX4_readParishes_65 rfl (fun v fv gv hp => ?_)
            obtain ⟨rfl, rfl, rfl⟩ := hp
            refine ev_aload_n (q := 69) dX4_readParishes_68 rfl rfl ?_
            refine ev_getfR (q := 72) mw_f_RX4_81 (mx_H h1) rfl dX4_readParishes_69 rfl ?_
            refine ev_iload (q := 74) dX4_readParishes_72 rfl rfl ?_
            refine ev_iload (q := 76) dX4_readParishes_74 rfl rfl ?_
            obtain ⟨hi_8, hg⟩ := mj_gd hg
            refine ev_iastk (q := 77) (mx_HP h1) hi_8 rfl dX4_readParishes_76 rfl ?_
            refine ev_nmf (fun f_8 hf_8 => ?_)
            have hg := mj_lt_el hf_8 hg
            refine ev_aload_n (q := 78) dX4_readParishes_77 rfl rfl ?_
            refine ev_iload_n (q := 79) dX4_readParishes_78 rfl rfl ?_
            refine ev_iconst (v := 1) (q := 80) dX4_readParishes_79 mci_1 rfl ?_
            refine ev_iadd (q := 81) dX4_readParishes_80 rfl ?_
            refine ev_putfI (q := 84) mw_f_RX4_84 (mx_H h1) dX4_readParishes_81 rfl ?_
            refine ev_nmf (fun f_9 hf_9 => ?_)
            have hg := mj_lt_el hf_9 hg
            refine ev_iload_n (q := 85) dX4_readParishes_84 rfl rfl ?_
            refine ev_iconst (v := 1) (q := 86) dX4_readParishes_85 mci_1 rfl ?_
            refine ev_iload (q := 88) dX4_readParishes_86 rfl rfl ?_
            refine ev_ishl (q := 89) dX4_readParishes_88 rfl ?_
            refine ev_ior (q := 90) dX4_readParishes_89 rfl ?_
            refine ev_nmi (fun u_10 hu_10 => ?_)
            have hg := mj_lt_el hu_10 hg
            refine ev_istore_n (q := 91) (loc' := [some (.ref _), some (.ref _), some (.int _), some (.int _), some (.int _), some (.int _)]) dX4_readParishes_90 (by decide) rfl rfl ?_
            refine ev_iinc (v := 1) (q := 94) (loc' := [some (.ref _), some (.ref _), some (.int _), some (.int _), some (.int _), some (.int _)]) dX4_readParishes_91 rfl (by decide) mci_1 rfl rfl ?_
            refine ev_goto (q := 4) dX4_readParishes_94 rfl ?_
            refine ev_wk (loc' := [some (.ref _), some (.ref _), some (.int _), some (.int _), none, none]) ⟨rfl, rfl, rfl, rfl, trivial⟩ ?_
            exact ih _ _ _ _ _ h1 hg
      · obtain rfl := Option.some.inj hg
        exact ev_vret dX4_readParishes_97 rfl ⟨rfl, rfl, rfl⟩
def g_X4_readParishes (a1 : Nat) (f : mj_I) : Option (mj_I) :=
  g_X4_readParishes_4 mj_fuel a1 (0 : Int32) (0 : Int32) f
theorem r_X4_readParishes {a1 : Nat} {f : mj_I} {g : mj_L} {o : mj_I} (h1 : mx_isH a1) (hg : g_X4_readParishes a1 f = some o) : mj_Sp jX4_readParishes mx_S [.ref 2, .ref a1] f g (fun v f' g' => none = v ∧ o = f' ∧ g = g') := by
  refine mj_sp 4 (by decide +kernel) rfl rfl (fun _ _ => Nat.le_of_ble_eq_true rfl) ?_
  show mj_Ev jX4_readParishes 0 [some (.ref 2), some (.ref a1), none, none, none, none] [] mx_S f g _
  unfold g_X4_readParishes at hg
  refine ev_iconst (v := 0) (q := 1) dX4_readParishes_0 mci_0 rfl ?_
  refine ev_istore_n (q := 2) (loc' := [some (.ref _), some (.ref _), some (.int _), none, none, none]) dX4_readParishes_1 (by decide) rfl rfl ?_
  refine ev_iconst (v := 0) (q := 3) dX4_readParishes_2 mci_0 rfl ?_
  refine ev_istore_n (q := 4) (loc' := [some (.ref _), some (.ref _), some (.int _), some (.int _), none, none]) dX4_readParishes_3 (by decide) rfl rfl ?_
  exact r_X4_readParishes_4 mj_fuel _ _ _ _ _ h1 hg
def g_X4_sortOf (x0 : Int32) : Int32 :=
  if x0 = (97 : Int32) then
   (1 : Int32)
  else
   if x0 = (98 : Int32) then
    (3 : Int32)
   else
    if x0 = (103 : Int32) then
     (4 : Int32)
    else
     if x0 = (112 : Int32) then
      (2 : Int32)
     else
      if x0 = (121 : Int32) then
       (5 : Int32)
      else
       (0 : Int32)
theorem r_X4_sortOf {x0 : Int32} {f : mj_I} {g : mj_L} {o : Int32} (hg : g_X4_sortOf x0 = o) : mj_Sp jX4_sortOf mx_S [.int x0] f g (fun v f' g' => some (.int o) = v ∧ f = f' ∧ g = g') := by
  refine mj_sp 0 (by decide +kernel) rfl rfl (fun _ _ => Nat.le_of_ble_eq_true rfl) ?_
  show mj_Ev jX4_sortOf 0 [some (.int x0)] [] mx_S f g _
  unfold g_X4_sortOf at hg
  refine ev_iload_n (q := 1) dX4_sortOf_0 rfl rfl ?_
  rcases mj_ite hg with ⟨hx_1_0, hg⟩ | ⟨hx_1_0, hg⟩
  · refine ev_look (off := 51) (q := 52) dX4_sortOf_1 (by decide) (by rw [hx_1_0]; rfl) rfl ?_
    refine ev_iconst (v := 1) (q := 53) dX4_sortOf_52 mci_1 rfl ?_
    subst hg
    exact ev_iret dX4_sortOf_53 rfl ⟨rfl, rfl, rfl⟩
  · rcases mj_ite hg with ⟨hx_1_1, hg⟩ | ⟨hx_1_1, hg⟩
    · refine ev_look (off := 55) (q := 56) dX4_sortOf_1 (by decide) (by rw [hx_1_1]; rfl) rfl ?_
      refine ev_iconst (v := 3) (q := 57) dX4_sortOf_56 mci_3 rfl ?_
      subst hg
      exact ev_iret dX4_sortOf_57 rfl ⟨rfl, rfl, rfl⟩
    · rcases mj_ite hg with ⟨hx_1_2, hg⟩ | ⟨hx_1_2, hg⟩
      · refine ev_look (off := 57) (q := 58) dX4_sortOf_1 (by decide) (by rw [hx_1_2]; rfl) rfl ?_
        refine ev_iconst (v := 4) (q := 59) dX4_sortOf_58 mci_4 rfl ?_
        subst hg
        exact ev_iret dX4_sortOf_59 rfl ⟨rfl, rfl, rfl⟩
      · rcases mj_ite hg with ⟨hx_1_3, hg⟩ | ⟨hx_1_3, hg⟩
        · refine ev_look (off := 53) (q := 54) dX4_sortOf_1 (by decide) (by rw [hx_1_3]; rfl) rfl ?_
          refine ev_iconst (v := 2) (q := 55) dX4_sortOf_54 mci_2 rfl ?_
          subst hg
          exact ev_iret dX4_sortOf_55 rfl ⟨rfl, rfl, rfl⟩
        · rcases mj_ite hg with ⟨hx_1_4, hg⟩ | ⟨hx_1_4, hg⟩
          · refine ev_look (off := 59) (q := 60) dX4_sortOf_1 (by decide) (by rw [hx_1_4]; rfl) rfl ?_
            refine ev_iconst (v := 5) (q := 61) dX4_sortOf_60 mci_5 rfl ?_
            subst hg
            exact ev_iret dX4_sortOf_61 rfl ⟨rfl, rfl, rfl⟩
          · refine ev_look (off := 61) (q := 62) dX4_sortOf_1 (by decide) (by show Op.lookupswitch.offset [(97, 51), (98, 55), (103, 57), (112, 53), (121, 59)] 61 _ = _; rw [lv_osw (k := 97) hx_1_0 (by decide), lv_osw (k := 98) hx_1_1 (by decide), lv_osw (k := 103) hx_1_2 (by decide), lv_osw (k := 112) hx_1_3 (by decide), lv_osw (k := 121) hx_1_4 (by decide)]; rfl) rfl ?_
            refine ev_iconst (v := 0) (q := 63) dX4_sortOf_62 mci_0 rfl ?_
            subst hg
            exact ev_iret dX4_sortOf_63 rfl ⟨rfl, rfl, rfl⟩
def g_X4_readClouds_4 : Nat → Nat → Int32 → Int32 → mj_I → Option (mj_I)
  | 0, _, _, _, _ => none
  | n + 1, a1, x2, x3, f =>
    if (5 : Int32) < x3 then
     some (f)
    else
     if (f 2 6) = 0 then
      if (g_X4_sortOf (f 2 4)) = 0 then
       some (f)
      else
       if x3 = (5 : Int32) then
        mj_lt (mj_wr f 2 6 (3 : Int32)) (fun f_2 =>
        some (f_2))
       else
        mj_lt ((g_X4_sortOf (f 2 4))) (fun u_4 =>
        (g_X4_look f).bind (fun o_5 =>
        (g_X4_takeNumber (0 : Int32) (31 : Int32) x2 o_5).bind (fun o_6 =>
        (g_X4_takeSign (44 : Int32) o_6.2).bind (fun o_7 =>
        (g_X4_takeNumber (0 : Int32) (20 : Int32) (0 : Int32) o_7).bind (fun o_8 =>
        (g_X4_takeSign (59 : Int32) o_8.2).bind (fun o_9 =>
        if mj_in x3 5 = true then
        mj_lt (g_X1_begin (a1 + 4 + (ix x3)) u_4 o_6.1 o_8.1 o_9) (fun o_11 =>
         mj_lt (mj_wr o_11 a1 4 (x3 + (1 : Int32))) (fun f_12 =>
         mj_lt ((x2 ||| ((1 : Int32) <<< (o_6.1 &&& 31)))) (fun u_13 =>
         g_X4_readClouds_4 n a1 u_13 (x3 + (1 : Int32)) f_12)))
        else none))))))
     else
      some (f)
theorem r_X4_readClouds_4 {g : mj_L} : ∀ (n : Nat) (a1 : Nat) (x2 : Int32) (x3 : Int32) (f : mj_I) (o : mj_I), mx_isH a1 → g_X4_readClouds_4 n a1 x2 x3 f = some o → mj_Ev jX4_readClouds 4 [some (.ref 2), some (.ref a1), some (.int x2), some (.int x3), none, none, none] [] mx_S f g (fun v f' g' => none = v ∧ o = f' ∧ g = g') := by
  intro n
  induction n with
  | zero =>
    intro a1 x2 x3 f o h1 hg
    cases hg
  | succ n ih =>
    intro a1 x2 x3 f o h1 hg
    unfold g_X4_readClouds_4 at hg
    refine ev_iload_n (q := 5) dX4_readClouds_4 rfl rfl ?_
    refine ev_iconst (v := 5) (q := 6) dX4_readClouds_5 mci_5 rfl ?_
    refine ev_icmp_gt (t := 117) (q := 9) dX4_readClouds_6 rfl rfl hg (fun hg => ?_) (fun hg => ?_)
    · obtain rfl := Option.some.inj hg
      exact ev_vret dX4_readClouds_117 rfl ⟨rfl, rfl, rfl⟩
    · refine ev_aload_n (q := 10) dX4_readClouds_9 rfl rfl ?_
      refine ev_getfI (q := 13) mw_f_RX4_31 (by decide) (by decide) rfl dX4_readClouds_10 rfl ?_
      refine ev_if_ne (t := 117) (q := 16) dX4_readClouds_13 rfl rfl hg (fun hg => ?_) (fun hg => ?_)
      · refine ev_aload_n (q := 17) dX4_readClouds_16 rfl rfl ?_
        refine ev_getfI (q := 20) mw_f_RX4_25 (by decide) (by decide) rfl dX4_readClouds_17 rfl ?_
        refine ev_callS (q := 23) kX4_sortOf mw_t_X4_sortOf mw_m_RX4_87 (r_X4_sortOf rfl) rfl rfl (Nat.le_of_ble_eq_true rfl) (by decide) dX4_readClouds_20 rfl (fun v fv gv hp => ?_)
        obtain ⟨rfl, rfl, rfl⟩ := hp
        refine ev_if_eq (t := 117) (q := 26) dX4_readClouds_23 rfl rfl hg (fun hg => ?_) (fun hg => ?_)
        · obtain rfl := Option.some.inj hg
          exact ev_vret dX4_readClouds_117 rfl ⟨rfl, rfl, rfl⟩
        · refine ev_iload_n (q := 27) dX4_readClouds_26 rfl rfl ?_
          refine ev_iconst (v := 5) (q := 28) dX4_readClouds_27 mci_5 rfl ?_
          refine ev_icmp_ne (t := 37) (q := 31) dX4_readClouds_28 rfl rfl hg (fun hg => ?_) (fun hg => ?_)
          · refine ev_aload_n (q := 32) dX4_readClouds_31 rfl rfl ?_
            refine ev_iconst (v := 3) (q := 33) dX4_readClouds_32 mci_3 rfl ?_
            refine ev_putfI (q := 36) mw_f_RX4_31 rfl dX4_readClouds_33 rfl ?_
            refine ev_nmf (fun f_2 hf_2 => ?_)
            have hg := mj_lt_el hf_2 hg
            obtain rfl := Option.some.inj hg
            exact ev_vret dX4_readClouds_36 rfl ⟨rfl, rfl, rfl⟩
          · refine ev_aload_n (q := 38) dX4_readClouds_37 rfl rfl ?_
            refine ev_getfI (q := 41) mw_f_RX4_25 (by decide) (by decide) rfl dX4_readClouds_38 rfl ?_
            refine ev_callS (q := 44) kX4_sortOf mw_t_X4_sortOf mw_m_RX4_87 (r_X4_sortOf rfl) rfl rfl (Nat.le_of_ble_eq_true rfl) (by decide) dX4_readClouds_41 rfl (fun v fv gv hp => ?_)
            obtain ⟨rfl, rfl, rfl⟩ := hp
            refine ev_nmi (fun u_4 hu_4 => ?_)
            have hg := mj_lt_el hu_4 hg
            refine ev_istore (q := 46) (loc' := [some (.ref _), some (.ref _), some (.int _), some (.int _), some (.int _), none, none]) dX4_readClouds_44 (by decide) rfl rfl ?_
            refine ev_aload_n (q := 47) dX4_readClouds_46 rfl rfl ?_
            obtain ⟨o_5, ho_5, hg⟩ := mj_bd hg
            refine ev_callV (q := 50) kX4_look mw_i_X4_look mw_s_X4_look mw_m_RX4_34 rfl rfl (r_X4_look ho_5) rfl rfl (Nat.le_of_ble_eq_true rfl) (by decide) dX4_readClouds_47 rfl (fun v fv gv hp => ?_)
            obtain ⟨rfl, rfl, rfl⟩ := hp
            refine ev_aload_n (q := 51) dX4_readClouds_50 rfl rfl ?_
            refine ev_iconst (v := 0) (q := 52) dX4_readClouds_51 mci_0 rfl ?_
            refine ev_bipush (v := 31) (q := 54) dX4_readClouds_52 mcb_31 rfl ?_
            refine ev_iload_n (q := 55) dX4_readClouds_54 rfl rfl ?_
            obtain ⟨o_6, ho_6, hg⟩ := mj_bd hg
            refine ev_callV (q := 58) kX4_takeNumber mw_i_X4_takeNumber mw_s_X4_takeNumber mw_m_RX4_60 rfl rfl (r_X4_takeNumber ho_6) rfl rfl (Nat.le_of_ble_eq_true rfl) (by decide) dX4_readClouds_55 rfl (fun v fv gv hp => ?_)
            obtain ⟨rfl, rfl, rfl⟩ := hp
            refine ev_istore (q := 60) (loc' := [some (.ref _), some (.ref _), some (.int _), some (.int _), some (.int _), some (.int _), none]) dX4_readClouds_58 (by decide) rfl rfl ?_
            refine ev_aload_n (q := 61) dX4_readClouds_60 rfl rfl ?_
            refine ev_bipush (v := 44) (q := 63) dX4_readClouds_61 mcb_44 rfl ?_
            obtain ⟨o_7, ho_7, hg⟩ := mj_bd hg
            refine ev_callV (q := 66) kX4_takeSign mw_i_X4_takeSign mw_s_X4_takeSign mw_m_RX4_56 rfl rfl (r_X4_takeSign ho_7) rfl rfl (Nat.le_of_ble_eq_true rfl) (by decide) dX4_readClouds_63 rfl (fun v fv gv hp => ?_)
            obtain ⟨rfl, rfl, rfl⟩ := hp
            refine ev_aload_n (q := 67) dX4_readClouds_66 rfl rfl ?_
            refine ev_iconst (v := 0) (q := 68) dX4_readClouds_67 mci_0 rfl ?_
            refine ev_bipush (v := 20) (q := 70) dX4_readClouds_68 mcb_20 rfl ?_
            refine ev_iconst (v := 0) (q := 71) dX4_readClouds_70 mci_0 rfl ?_
            obtain ⟨o_8, ho_8, hg⟩ := mj_bd hg
            refine ev_callV (q := 74) kX4_takeNumber mw_i_X4_takeNumber mw_s_X4_takeNumber mw_m_RX4_60 rfl rfl (r_X4_takeNumber ho_8) rfl rfl (Nat.le_of_ble_eq_true rfl) (by decide) dX4_readClouds_71 rfl (fun v fv gv hp => ?_)
            obtain ⟨rfl, rfl, rfl⟩ := hp
            refine ev_istore (q := 76) (loc' := [some (.ref _), some (.ref _), some (.int _), some (.int _), some (.int _), some (.int _), some (.int _)]) dX4_readClouds_74 (by decide) rfl rfl ?_
            refine ev_aload_n (q := 77) dX4_readClouds_76 rfl rfl ?_
            refine ev_bipush (v := 59) (q := 79) dX4_readClouds_77 mcb_59 rfl ?_
            obtain ⟨o_9, ho_9, hg⟩ := mj_bd hg
            refine ev_callV (q := 82) kX4_takeSign mw_i_X4_takeSign mw_s_X4_takeSign mw_m_RX4_56 rfl rfl (r_X4_takeSign ho_9) rfl rfl (Nat.le_of_ble_eq_true rfl) (by decide) dX4_readClouds_79 rfl (fun v fv gv hp => ?_)
            obtain ⟨rfl, rfl, rfl⟩ := hp
            refine ev_aload_n (q := 83) dX4_readClouds_82 rfl rfl ?_
            refine ev_getfR (q := 86) mw_f_RX4_90 (mx_H h1) rfl dX4_readClouds_83 rfl ?_
            refine ev_iload_n (q := 87) dX4_readClouds_86 rfl rfl ?_
            obtain ⟨hi_10, hg⟩ := mj_gd hg
            refine ev_aald (kd := 0) (q := 88) (mx_HC h1) (by decide) hi_10 (mx_cr_get hi_10) dX4_readClouds_87 rfl ?_
            refine ev_iload (q := 90) dX4_readClouds_88 rfl rfl ?_
            refine ev_iload (q := 92) dX4_readClouds_90 rfl rfl ?_
            refine ev_iload (q := 94) dX4_readClouds_92 rfl rfl ?_
            obtain ⟨o_11, ho_11, hg⟩ := mj_lte hg
            refine ev_callV (q := 97) kX1_begin mw_i_X1_begin mw_s_X1_begin mw_m_RX4_94 (mx_C (mx_isC_of h1 hi_10)) rfl (r_X1_begin (mx_isC_of h1 hi_10) ho_11) rfl rfl (Nat.le_of_ble_eq_true rfl) (by decide) dX4_readClouds_94 rfl (fun v fv gv hp => ?_)
            obtain ⟨rfl, rfl, rfl⟩ := hp
            refine ev_aload_n (q := 98) dX4_readClouds_97 rfl rfl ?_
            refine ev_iload_n (q := 99) dX4_readClouds_98 rfl rfl ?_
            refine ev_iconst (v := 1) (q := 100) dX4_readClouds_99 mci_1 rfl ?_
            refine ev_iadd (q := 101) dX4_readClouds_100 rfl ?_
            refine ev_putfI (q := 104) mw_f_RX4_99 (mx_H h1) dX4_readClouds_101 rfl ?_
            refine ev_nmf (fun f_12 hf_12 => ?_)
            have hg := mj_lt_el hf_12 hg
            refine ev_iload_n (q := 105) dX4_readClouds_104 rfl rfl ?_
            refine ev_iconst (v := 1) (q := 106) dX4_readClouds_105 mci_1 rfl ?_
            refine ev_iload (q := 108) dX4_readClouds_106 rfl rfl ?_
            refine ev_ishl (q := 109) dX4_readClouds_108 rfl ?_
            refine ev_ior (q := 110) dX4_readClouds_109 rfl ?_
            refine ev_nmi (fun u_13 hu_13 => ?_)
            have hg := mj_lt_el hu_13 hg
            refine ev_istore_n (q := 111) (loc' := [some (.ref _), some (.ref _), some (.int _), some (.int _), some (.int _), some (.int _), some (.int _)]) dX4_readClouds_110 (by decide) rfl rfl ?_
            refine ev_iinc (v := 1) (q := 114) (loc' := [some (.ref _), some (.ref _), some (.int _), some (.int _), some (.int _), some (.int _), some (.int _)]) dX4_readClouds_111 rfl (by decide) mci_1 rfl rfl ?_
            refine ev_goto (q := 4) dX4_readClouds_114 rfl ?_
            refine ev_wk (loc' := [some (.ref _), some (.ref _), some (.int _), some (.int _), none, none, none]) ⟨rfl, rfl, rfl, rfl, trivial⟩ ?_
            exact ih _ _ _ _ _ h1 hg
      · obtain rfl := Option.some.inj hg
        exact ev_vret dX4_readClouds_117 rfl ⟨rfl, rfl, rfl⟩
def g_X4_readClouds (a1 : Nat) (f : mj_I) : Option (mj_I) :=
  g_X4_readClouds_4 mj_fuel a1 (0 : Int32) (0 : Int32) f
theorem r_X4_readClouds {a1 : Nat} {f : mj_I} {g : mj_L} {o : mj_I} (h1 : mx_isH a1) (hg : g_X4_readClouds a1 f = some o) : mj_Sp jX4_readClouds mx_S [.ref 2, .ref a1] f g (fun v f' g' => none = v ∧ o = f' ∧ g = g') := by
  refine mj_sp 5 (by decide +kernel) rfl rfl (fun _ _ => Nat.le_of_ble_eq_true rfl) ?_
  show mj_Ev jX4_readClouds 0 [some (.ref 2), some (.ref a1), none, none, none, none, none] [] mx_S f g _
  unfold g_X4_readClouds at hg
  refine ev_iconst (v := 0) (q := 1) dX4_readClouds_0 mci_0 rfl ?_
  refine ev_istore_n (q := 2) (loc' := [some (.ref _), some (.ref _), some (.int _), none, none, none, none]) dX4_readClouds_1 (by decide) rfl rfl ?_
  refine ev_iconst (v := 0) (q := 3) dX4_readClouds_2 mci_0 rfl ?_
  refine ev_istore_n (q := 4) (loc' := [some (.ref _), some (.ref _), some (.int _), some (.int _), none, none, none]) dX4_readClouds_3 (by decide) rfl rfl ?_
  exact r_X4_readClouds_4 mj_fuel _ _ _ _ _ h1 hg
def g_X4_read (a1 : Nat) (f : mj_I) : Option (mj_I) :=
  mj_lt (mj_wr f 2 6 (0 : Int32)) (fun f_1 =>
  mj_lt (mj_wr f_1 2 3 (0 : Int32)) (fun f_2 =>
  (g_X4_look f_2).bind (fun o_3 =>
  (g_X2_begin a1 o_3).bind (fun o_4 =>
  (g_X4_readLaw a1 o_4).bind (fun o_5 =>
  (g_X4_readWind a1 (108 : Int32) (0 : Int32) o_5).bind (fun o_6 =>
  (g_X4_readWind a1 (117 : Int32) (1 : Int32) o_6).bind (fun o_7 =>
  (g_X4_readParishes a1 o_7).bind (fun o_8 =>
  (g_X4_readClouds a1 o_8).bind (fun o_9 =>
  if (o_9 2 6) = 0 then
   if (o_9 2 4) = (-3 : Int32) then
    some (o_9)
   else
    mj_lt (mj_wr o_9 2 6 (1 : Int32)) (fun f_10 =>
    some (f_10))
  else
   some (o_9))))))))))
theorem r_X4_read {a1 : Nat} {f : mj_I} {g : mj_L} {o : mj_I} (h1 : mx_isH a1) (hg : g_X4_read a1 f = some o) : mj_Sp jX4_read mx_S [.ref 2, .ref a1] f g (fun v f' g' => none = v ∧ o = f' ∧ g = g') := by
  refine mj_sp 0 (by decide +kernel) rfl rfl (fun _ _ => Nat.le_of_ble_eq_true rfl) ?_
  show mj_Ev jX4_read 0 [some (.ref 2), some (.ref a1)] [] mx_S f g _
  unfold g_X4_read at hg
  refine ev_aload_n (q := 1) dX4_read_0 rfl rfl ?_
  refine ev_iconst (v := 0) (q := 2) dX4_read_1 mci_0 rfl ?_
  refine ev_putfI (q := 5) mw_f_RX4_31 rfl dX4_read_2 rfl ?_
  refine ev_nmf (fun f_1 hf_1 => ?_)
  have hg := mj_lt_el hf_1 hg
  refine ev_aload_n (q := 6) dX4_read_5 rfl rfl ?_
  refine ev_iconst (v := 0) (q := 7) dX4_read_6 mci_0 rfl ?_
  refine ev_putfI (q := 10) mw_f_RX4_22 rfl dX4_read_7 rfl ?_
  refine ev_nmf (fun f_2 hf_2 => ?_)
  have hg := mj_lt_el hf_2 hg
  refine ev_aload_n (q := 11) dX4_read_10 rfl rfl ?_
  obtain ⟨o_3, ho_3, hg⟩ := mj_bd hg
  refine ev_callV (q := 14) kX4_look mw_i_X4_look mw_s_X4_look mw_m_RX4_34 rfl rfl (r_X4_look ho_3) rfl rfl (Nat.le_of_ble_eq_true rfl) (by decide) dX4_read_11 rfl (fun v fv gv hp => ?_)
  obtain ⟨rfl, rfl, rfl⟩ := hp
  refine ev_aload_n (q := 15) dX4_read_14 rfl rfl ?_
  obtain ⟨o_4, ho_4, hg⟩ := mj_bd hg
  refine ev_callV (q := 18) kX2_begin mw_i_X2_begin mw_s_X2_begin mw_m_RX4_37 (mx_H h1) rfl (r_X2_begin h1 ho_4) rfl rfl (Nat.le_of_ble_eq_true rfl) (by decide) dX4_read_15 rfl (fun v fv gv hp => ?_)
  obtain ⟨rfl, rfl, rfl⟩ := hp
  refine ev_aload_n (q := 19) dX4_read_18 rfl rfl ?_
  refine ev_aload_n (q := 20) dX4_read_19 rfl rfl ?_
  obtain ⟨o_5, ho_5, hg⟩ := mj_bd hg
  refine ev_callV (q := 23) kX4_readLaw mw_i_X4_readLaw mw_s_X4_readLaw mw_m_RX4_42 rfl rfl (r_X4_readLaw h1 ho_5) rfl rfl (Nat.le_of_ble_eq_true rfl) (by decide) dX4_read_20 rfl (fun v fv gv hp => ?_)
  obtain ⟨rfl, rfl, rfl⟩ := hp
  refine ev_aload_n (q := 24) dX4_read_23 rfl rfl ?_
  refine ev_aload_n (q := 25) dX4_read_24 rfl rfl ?_
  refine ev_bipush (v := 108) (q := 27) dX4_read_25 mcb_108 rfl ?_
  refine ev_iconst (v := 0) (q := 28) dX4_read_27 mci_0 rfl ?_
  obtain ⟨o_6, ho_6, hg⟩ := mj_bd hg
  refine ev_callV (q := 31) kX4_readWind mw_i_X4_readWind mw_s_X4_readWind mw_m_RX4_46 rfl rfl (r_X4_readWind h1 ho_6) rfl rfl (Nat.le_of_ble_eq_true rfl) (by decide) dX4_read_28 rfl (fun v fv gv hp => ?_)
  obtain ⟨rfl, rfl, rfl⟩ := hp
  refine ev_aload_n (q := 32) dX4_read_31 rfl rfl ?_
  refine ev_aload_n (q := 33) dX4_read_32 rfl rfl ?_
  refine ev_bipush (v := 117) (q := 35) dX4_read_33 mcb_117 rfl ?_
  refine ev_iconst (v := 1) (q := 36) dX4_read_35 mci_1 rfl ?_
  obtain ⟨o_7, ho_7, hg⟩ := mj_bd hg
  refine ev_callV (q := 39) kX4_readWind mw_i_X4_readWind mw_s_X4_readWind mw_m_RX4_46 rfl rfl (r_X4_readWind h1 ho_7) rfl rfl (Nat.le_of_ble_eq_true rfl) (by decide) dX4_read_36 rfl (fun v fv gv hp => ?_)
  obtain ⟨rfl, rfl, rfl⟩ := hp
  refine ev_aload_n (q := 40) dX4_read_39 rfl rfl ?_
  refine ev_aload_n (q := 41) dX4_read_40 rfl rfl ?_
  obtain ⟨o_8, ho_8, hg⟩ := mj_bd hg
  refine ev_callV (q := 44) kX4_readParishes mw_i_X4_readParishes mw_s_X4_readParishes mw_m_RX4_50 rfl rfl (r_X4_readParishes h1 ho_8) rfl rfl (Nat.le_of_ble_eq_true rfl) (by decide) dX4_read_41 rfl (fun v fv gv hp => ?_)
  obtain ⟨rfl, rfl, rfl⟩ := hp
  refine ev_aload_n (q := 45) dX4_read_44 rfl rfl ?_
  refine ev_aload_n (q := 46) dX4_read_45 rfl rfl ?_
  obtain ⟨o_9, ho_9, hg⟩ := mj_bd hg
  refine ev_callV (q := 49) kX4_readClouds mw_i_X4_readClouds mw_s_X4_readClouds mw_m_RX4_53 rfl rfl (r_X4_readClouds h1 ho_9) rfl rfl (Nat.le_of_ble_eq_true rfl) (by decide) dX4_read_46 rfl (fun v fv gv hp => ?_)
  obtain ⟨rfl, rfl, rfl⟩ := hp
  refine ev_aload_n (q := 50) dX4_read_49 rfl rfl ?_
  refine ev_getfI (q := 53) mw_f_RX4_31 (by decide) (by decide) rfl dX4_read_50 rfl ?_
  refine ev_if_ne (t := 70) (q := 56) dX4_read_53 rfl rfl hg (fun hg => ?_) (fun hg => ?_)
  · refine ev_aload_n (q := 57) dX4_read_56 rfl rfl ?_
    refine ev_getfI (q := 60) mw_f_RX4_25 (by decide) (by decide) rfl dX4_read_57 rfl ?_
    refine ev_bipush (v := -3) (q := 62) dX4_read_60 mcb_m3 rfl ?_
    refine ev_icmp_eq (t := 70) (q := 65) dX4_read_62 rfl rfl hg (fun hg => ?_) (fun hg => ?_)
    · obtain rfl := Option.some.inj hg
      exact ev_vret dX4_read_70 rfl ⟨rfl, rfl, rfl⟩
    · refine ev_aload_n (q := 66) dX4_read_65 rfl rfl ?_
      refine ev_iconst (v := 1) (q := 67) dX4_read_66 mci_1 rfl ?_
      refine ev_putfI (q := 70) mw_f_RX4_31 rfl dX4_read_67 rfl ?_
      refine ev_nmf (fun f_10 hf_10 => ?_)
      have hg := mj_lt_el hf_10 hg
      obtain rfl := Option.some.inj hg
      exact ev_vret dX4_read_70 rfl ⟨rfl, rfl, rfl⟩
  · obtain rfl := Option.some.inj hg
    exact ev_vret dX4_read_70 rfl ⟨rfl, rfl, rfl⟩
def g_X5_leave (x1 : Int32) (f : mj_I) : Option (mj_I) :=
  if (f 26 1) < (16 : Int32) then
   if mj_in (f 26 1) 16 = true then
   mj_lt (mj_wr f 27 (ix (f 26 1)) x1) (fun f_1 =>
    mj_lt (mj_wr f_1 26 1 ((f_1 26 1) + (1 : Int32))) (fun f_2 =>
    some (f_2)))
   else none
  else
   some (f)
theorem r_X5_leave {x1 : Int32} {f : mj_I} {g : mj_L} {o : mj_I} (hg : g_X5_leave x1 f = some o) : mj_Sp jX5_leave mx_S [.ref 26, .int x1] f g (fun v f' g' => none = v ∧ o = f' ∧ g = g') := by
  refine mj_sp 0 (by decide +kernel) rfl rfl (fun _ _ => Nat.le_of_ble_eq_true rfl) ?_
  show mj_Ev jX5_leave 0 [some (.ref 26), some (.int x1)] [] mx_S f g _
  unfold g_X5_leave at hg
  refine ev_aload_n (q := 1) dX5_leave_0 rfl rfl ?_
  refine ev_getfI (q := 4) mw_f_RX5_13 (by decide) (by decide) rfl dX5_leave_1 rfl ?_
  refine ev_bipush (v := 16) (q := 6) dX5_leave_4 mcb_16 rfl ?_
  refine ev_icmp_ge (t := 29) (q := 9) dX5_leave_6 rfl rfl hg (fun hg => ?_) (fun hg => ?_)
  · refine ev_aload_n (q := 10) dX5_leave_9 rfl rfl ?_
    refine ev_getfR (q := 13) mw_f_RX5_9 rfl rfl dX5_leave_10 rfl ?_
    refine ev_aload_n (q := 14) dX5_leave_13 rfl rfl ?_
    refine ev_getfI (q := 17) mw_f_RX5_13 (by decide) (by decide) rfl dX5_leave_14 rfl ?_
    refine ev_iload_n (q := 18) dX5_leave_17 rfl rfl ?_
    obtain ⟨hi_1, hg⟩ := mj_gd hg
    refine ev_iastk (q := 19) rfl hi_1 rfl dX5_leave_18 rfl ?_
    refine ev_nmf (fun f_1 hf_1 => ?_)
    have hg := mj_lt_el hf_1 hg
    refine ev_aload_n (q := 20) dX5_leave_19 rfl rfl ?_
    refine ev_dup (q := 21) dX5_leave_20 rfl rfl ?_
    refine ev_getfI (q := 24) mw_f_RX5_13 (by decide) (by decide) rfl dX5_leave_21 rfl ?_
    refine ev_iconst (v := 1) (q := 25) dX5_leave_24 mci_1 rfl ?_
    refine ev_iadd (q := 26) dX5_leave_25 rfl ?_
    refine ev_putfI (q := 29) mw_f_RX5_13 rfl dX5_leave_26 rfl ?_
    refine ev_nmf (fun f_2 hf_2 => ?_)
    have hg := mj_lt_el hf_2 hg
    obtain rfl := Option.some.inj hg
    exact ev_vret dX5_leave_29 rfl ⟨rfl, rfl, rfl⟩
  · obtain rfl := Option.some.inj hg
    exact ev_vret dX5_leave_29 rfl ⟨rfl, rfl, rfl⟩
def g_X5_bodyOf : Nat → Int32 → Nat → Int32 → Int32 → mj_I → Option (Int32 × mj_I)
  | 0, _, _, _, _, _ => none
  | n + 1, x1, a2, x3, x4, f =>
    if (8 : Int32) < x4 then
     some (((0 : Int32), f))
    else
     (g_X5_leave x1 f).bind (fun o_1 =>
     mj_lt ((x4 + (1 : Int32))) (fun u_2 =>
     if x1 = (10 : Int32) then
      some (((o_1 a2 3), o_1))
     else
      if x1 = (11 : Int32) then
       (g_X5_bodyOf n (10 : Int32) a2 x3 u_2 o_1).bind (fun o_13 =>
       if mj_in (o_13.2 a2 0) 6 = true then
       (g_X5_bodyOf n ((mj_tab 2).getD (ix (o_13.2 a2 0)) 0) a2 x3 u_2 o_13.2).bind (fun o_15 =>
        some (((o_13.1 + o_15.1), o_15.2)))
       else none)
      else
       if x1 = (12 : Int32) then
        (g_X5_bodyOf n (11 : Int32) a2 x3 u_2 o_1).bind (fun o_12 =>
        some (((-o_12.1), o_12.2)))
       else
        if x1 = (13 : Int32) then
         (g_X5_bodyOf n (10 : Int32) a2 x3 u_2 o_1).bind (fun o_11 =>
         some (((o_11.1 - (100 : Int32)), o_11.2)))
        else
         if x1 = (14 : Int32) then
          (g_X5_bodyOf n (13 : Int32) a2 x3 u_2 o_1).bind (fun o_10 =>
          some ((((2 : Int32) * o_10.1), o_10.2)))
         else
          if x1 = (15 : Int32) then
           some (((0 : Int32), o_1))
          else
           if x1 = (16 : Int32) then
            some (((0 : Int32), o_1))
           else
            if x1 = (17 : Int32) then
             some (((0 : Int32), o_1))
            else
             if x1 = (18 : Int32) then
              some (((0 : Int32), o_1))
             else
              if x1 = (19 : Int32) then
               some (((0 : Int32), o_1))
              else
               if x1 = (20 : Int32) then
                some ((x3, o_1))
               else
                if x1 = (21 : Int32) then
                 (g_X5_bodyOf n (20 : Int32) a2 x3 u_2 o_1).bind (fun o_9 =>
                 some (((o_9.1 + (o_9.2 a2 1)), o_9.2)))
                else
                 if x1 = (22 : Int32) then
                  (g_X5_bodyOf n (21 : Int32) a2 x3 u_2 o_1).bind (fun o_8 =>
                  some (((o_8.1 - (1000 : Int32)), o_8.2)))
                 else
                  if x1 = (23 : Int32) then
                   (g_X5_bodyOf n (20 : Int32) a2 x3 u_2 o_1).bind (fun o_5 =>
                   if mj_in (o_5.2 a2 0) 6 = true then
                   (g_X5_bodyOf n ((mj_tab 1).getD (ix (o_5.2 a2 0)) 0) a2 x3 u_2 o_5.2).bind (fun o_7 =>
                    some (((o_5.1 - o_7.1), o_7.2)))
                   else none)
                  else
                   if x1 = (24 : Int32) then
                    (g_X5_bodyOf n (21 : Int32) a2 x3 u_2 o_1).bind (fun o_4 =>
                    some ((((2 : Int32) * o_4.1), o_4.2)))
                   else
                    some (((0 : Int32), o_1))))
theorem r_X5_bodyOf : ∀ (n : Nat) (x1 : Int32) (a2 : Nat) (x3 : Int32) (x4 : Int32) (f : mj_I) (g : mj_L) (o : Int32 × mj_I), mx_isC a2 → g_X5_bodyOf n x1 a2 x3 x4 f = some o → mj_Sp (jX5_bodyOf n) mx_S [.ref 26, .int x1, .ref a2, .int x3, .int x4] f g (fun v f' g' => some (.int o.1) = v ∧ o.2 = f' ∧ g = g') := by
  intro n
  induction n with
  | zero =>
    intro x1 a2 x3 x4 f g o h2 hg
    cases hg
  | succ n ih =>
    intro x1 a2 x3 x4 f g o h2 hg
    refine mj_sp 1 (show plainName RX5 = true by decide +kernel) rfl rfl (fun _ _ => Nat.le_of_ble_eq_true rfl) ?_
    show mj_Ev (jX5_bodyOf (n + 1)) 0 [some (.ref 26), some (.int x1), some (.ref a2), some (.int x3), some (.int x4), none] [] mx_S f g _
    unfold g_X5_bodyOf at hg
    refine ev_iload (q := 2) dX5_bodyOf_0 rfl rfl ?_
    refine ev_bipush (v := 8) (q := 4) dX5_bodyOf_2 mcb_8 rfl ?_
    refine ev_icmp_le (t := 9) (q := 7) dX5_bodyOf_4 rfl rfl hg (fun hg => ?_) (fun hg => ?_)
    · refine ev_iconst (v := 0) (q := 8) dX5_bodyOf_7 mci_0 rfl ?_
      obtain rfl := Option.some.inj hg
      exact ev_iret dX5_bodyOf_8 rfl ⟨rfl, rfl, rfl⟩
    · refine ev_aload_n (q := 10) dX5_bodyOf_9 rfl rfl ?_
      refine ev_iload_n (q := 11) dX5_bodyOf_10 rfl rfl ?_
      obtain ⟨o_1, ho_1, hg⟩ := mj_bd hg
      refine ev_callV (q := 14) kX5_leave mw_i_X5_leave mw_s_X5_leave mw_m_RX5_32 rfl rfl (r_X5_leave ho_1) rfl rfl (Nat.le_of_ble_eq_true rfl) (Nat.succ_pos _) dX5_bodyOf_11 rfl (fun v fv gv hp => ?_)
      obtain ⟨rfl, rfl, rfl⟩ := hp
      refine ev_iload (q := 16) dX5_bodyOf_14 rfl rfl ?_
      refine ev_iconst (v := 1) (q := 17) dX5_bodyOf_16 mci_1 rfl ?_
      refine ev_iadd (q := 18) dX5_bodyOf_17 rfl ?_
      refine ev_nmi (fun u_2 hu_2 => ?_)
      have hg := mj_lt_el hu_2 hg
      refine ev_istore (q := 20) (loc' := [some (.ref _), some (.int _), some (.ref _), some (.int _), some (.int _), some (.int _)]) dX5_bodyOf_18 (show 5 < 6 by decide) rfl rfl ?_
      refine ev_iload_n (q := 21) dX5_bodyOf_20 rfl rfl ?_
      rcases mj_ite hg with ⟨hx_3_0, hg⟩ | ⟨hx_3_0, hg⟩
      · refine ev_tabIn (v := 10) (off := 75) (q := 96) hx_3_0 dX5_bodyOf_21 (by decide) (by decide) rfl rfl ?_
        refine ev_aload_n (q := 97) dX5_bodyOf_96 rfl rfl ?_
        refine ev_getfI (q := 100) mw_f_RX5_36 (by decide) (by decide) (mx_C h2) dX5_bodyOf_97 rfl ?_
        obtain rfl := Option.some.inj hg
        exact ev_iret dX5_bodyOf_100 rfl ⟨rfl, rfl, rfl⟩
      · rcases mj_ite hg with ⟨hx_3_1, hg⟩ | ⟨hx_3_1, hg⟩
        · refine ev_tabIn (v := 11) (off := 80) (q := 101) hx_3_1 dX5_bodyOf_21 (by decide) (by decide) rfl rfl ?_
          refine ev_aload_n (q := 102) dX5_bodyOf_101 rfl rfl ?_
          refine ev_bipush (v := 10) (q := 104) dX5_bodyOf_102 mcb_10 rfl ?_
          refine ev_aload_n (q := 105) dX5_bodyOf_104 rfl rfl ?_
          refine ev_iload_n (q := 106) dX5_bodyOf_105 rfl rfl ?_
          refine ev_iload (q := 108) dX5_bodyOf_106 rfl rfl ?_
          obtain ⟨o_13, ho_13, hg⟩ := mj_bd hg
          refine ev_callS (q := 111) (kX5_bodyOf n) mw_t_X5_bodyOf mw_m_RX5_28 (ih _ _ _ _ _ _ _ h2 ho_13) rfl rfl (Nat.le_of_ble_eq_true rfl) (Nat.lt_succ_self _) dX5_bodyOf_108 rfl (fun v fv gv hp => ?_)
          obtain ⟨rfl, rfl, rfl⟩ := hp
          refine ev_aload_n (q := 112) dX5_bodyOf_111 rfl rfl ?_
          refine ev_gets2 (q := 115) mw_st_RX5_25 dX5_bodyOf_112 rfl ?_
          refine ev_aload_n (q := 116) dX5_bodyOf_115 rfl rfl ?_
          refine ev_getfI (q := 119) mw_f_RX5_20 (by decide) (by decide) (mx_C h2) dX5_bodyOf_116 rfl ?_
          obtain ⟨hi_14, hg⟩ := mj_gd hg
          refine ev_sald (q := 120) (by decide) hi_14 dX5_bodyOf_119 rfl ?_
          refine ev_aload_n (q := 121) dX5_bodyOf_120 rfl rfl ?_
          refine ev_iload_n (q := 122) dX5_bodyOf_121 rfl rfl ?_
          refine ev_iload (q := 124) dX5_bodyOf_122 rfl rfl ?_
          obtain ⟨o_15, ho_15, hg⟩ := mj_bd hg
          refine ev_callS (q := 127) (kX5_bodyOf n) mw_t_X5_bodyOf mw_m_RX5_28 (ih _ _ _ _ _ _ _ h2 ho_15) rfl rfl (Nat.le_of_ble_eq_true rfl) (Nat.lt_succ_self _) dX5_bodyOf_124 rfl (fun v fv gv hp => ?_)
          obtain ⟨rfl, rfl, rfl⟩ := hp
          refine ev_iadd (q := 128) dX5_bodyOf_127 rfl ?_
          obtain rfl := Option.some.inj hg
          exact ev_iret dX5_bodyOf_128 rfl ⟨rfl, rfl, rfl⟩
        · rcases mj_ite hg with ⟨hx_3_2, hg⟩ | ⟨hx_3_2, hg⟩
          · refine ev_tabIn (v := 12) (off := 108) (q := 129) hx_3_2 dX5_bodyOf_21 (by decide) (by decide) rfl rfl ?_
            refine ev_aload_n (q := 130) dX5_bodyOf_129 rfl rfl ?_
            refine ev_bipush (v := 11) (q := 132) dX5_bodyOf_130 mcb_11 rfl ?_
            refine ev_aload_n (q := 133) dX5_bodyOf_132 rfl rfl ?_
            refine ev_iload_n (q := 134) dX5_bodyOf_133 rfl rfl ?_
            refine ev_iload (q := 136) dX5_bodyOf_134 rfl rfl ?_
            obtain ⟨o_12, ho_12, hg⟩ := mj_bd hg
            refine ev_callS (q := 139) (kX5_bodyOf n) mw_t_X5_bodyOf mw_m_RX5_28 (ih _ _ _ _ _ _ _ h2 ho_12) rfl rfl (Nat.le_of_ble_eq_true rfl) (Nat.lt_succ_self _) dX5_bodyOf_136 rfl (fun v fv gv hp => ?_)
            obtain ⟨rfl, rfl, rfl⟩ := hp
            refine ev_ineg (q := 140) dX5_bodyOf_139 rfl ?_
            obtain rfl := Option.some.inj hg
            exact ev_iret dX5_bodyOf_140 rfl ⟨rfl, rfl, rfl⟩
          · rcases mj_ite hg with ⟨hx_3_3, hg⟩ | ⟨hx_3_3, hg⟩
            · refine ev_tabIn (v := 13) (off := 120) (q := 141) hx_3_3 dX5_bodyOf_21 (by decide) (by decide) rfl rfl ?_
              refine ev_aload_n (q := 142) dX5_bodyOf_141 rfl rfl ?_
              refine ev_bipush (v := 10) (q := 144) dX5_bodyOf_142 mcb_10 rfl ?_
              refine ev_aload_n (q := 145) dX5_bodyOf_144 rfl rfl ?_
              refine ev_iload_n (q := 146) dX5_bodyOf_145 rfl rfl ?_
              refine ev_iload (q := 148) dX5_bodyOf_146 rfl rfl ?_
              obtain ⟨o_11, ho_11, hg⟩ := mj_bd hg
              refine ev_callS (q := 151) (kX5_bodyOf n) mw_t_X5_bodyOf mw_m_RX5_28 (ih _ _ _ _ _ _ _ h2 ho_11) rfl rfl (Nat.le_of_ble_eq_true rfl) (Nat.lt_succ_self _) dX5_bodyOf_148 rfl (fun v fv gv hp => ?_)
              obtain ⟨rfl, rfl, rfl⟩ := hp
              refine ev_bipush (v := 100) (q := 153) dX5_bodyOf_151 mcb_100 rfl ?_
              refine ev_isub (q := 154) dX5_bodyOf_153 rfl ?_
              obtain rfl := Option.some.inj hg
              exact ev_iret dX5_bodyOf_154 rfl ⟨rfl, rfl, rfl⟩
            · rcases mj_ite hg with ⟨hx_3_4, hg⟩ | ⟨hx_3_4, hg⟩
              · refine ev_tabIn (v := 14) (off := 134) (q := 155) hx_3_4 dX5_bodyOf_21 (by decide) (by decide) rfl rfl ?_
                refine ev_iconst (v := 2) (q := 156) dX5_bodyOf_155 mci_2 rfl ?_
                refine ev_aload_n (q := 157) dX5_bodyOf_156 rfl rfl ?_
                refine ev_bipush (v := 13) (q := 159) dX5_bodyOf_157 mcb_13 rfl ?_
                refine ev_aload_n (q := 160) dX5_bodyOf_159 rfl rfl ?_
                refine ev_iload_n (q := 161) dX5_bodyOf_160 rfl rfl ?_
                refine ev_iload (q := 163) dX5_bodyOf_161 rfl rfl ?_
                obtain ⟨o_10, ho_10, hg⟩ := mj_bd hg
                refine ev_callS (q := 166) (kX5_bodyOf n) mw_t_X5_bodyOf mw_m_RX5_28 (ih _ _ _ _ _ _ _ h2 ho_10) rfl rfl (Nat.le_of_ble_eq_true rfl) (Nat.lt_succ_self _) dX5_bodyOf_163 rfl (fun v fv gv hp => ?_)
                obtain ⟨rfl, rfl, rfl⟩ := hp
                refine ev_imul (q := 167) dX5_bodyOf_166 rfl ?_
                obtain rfl := Option.some.inj hg
                exact ev_iret dX5_bodyOf_167 rfl ⟨rfl, rfl, rfl⟩
              · rcases mj_ite hg with ⟨hx_3_5, hg⟩ | ⟨hx_3_5, hg⟩
                · refine ev_tabIn (v := 15) (off := 221) (q := 242) hx_3_5 dX5_bodyOf_21 (by decide) (by decide) rfl rfl ?_
                  refine ev_iconst (v := 0) (q := 243) dX5_bodyOf_242 mci_0 rfl ?_
                  obtain rfl := Option.some.inj hg
                  exact ev_iret dX5_bodyOf_243 rfl ⟨rfl, rfl, rfl⟩
                · rcases mj_ite hg with ⟨hx_3_6, hg⟩ | ⟨hx_3_6, hg⟩
                  · refine ev_tabIn (v := 16) (off := 221) (q := 242) hx_3_6 dX5_bodyOf_21 (by decide) (by decide) rfl rfl ?_
                    refine ev_iconst (v := 0) (q := 243) dX5_bodyOf_242 mci_0 rfl ?_
                    obtain rfl := Option.some.inj hg
                    exact ev_iret dX5_bodyOf_243 rfl ⟨rfl, rfl, rfl⟩
                  · rcases mj_ite hg with ⟨hx_3_7, hg⟩ | ⟨hx_3_7, hg⟩
                    · refine ev_tabIn (v := 17) (off := 221) (q := 242) hx_3_7 dX5_bodyOf_21 (by decide) (by decide) rfl rfl ?_
                      refine ev_iconst (v := 0) (q := 243) dX5_bodyOf_242 mci_0 rfl ?_
                      obtain rfl := Option.some.inj hg
                      exact ev_iret dX5_bodyOf_243 rfl ⟨rfl, rfl, rfl⟩
                    · rcases mj_ite hg with ⟨hx_3_8, hg⟩ | ⟨hx_3_8, hg⟩
                      · refine ev_tabIn (v := 18) (off := 221) (q := 242) hx_3_8 dX5_bodyOf_21 (by decide) (by decide) rfl rfl ?_
                        refine ev_iconst (v := 0) (q := 243) dX5_bodyOf_242 mci_0 rfl ?_
                        obtain rfl := Option.some.inj hg
                        exact ev_iret dX5_bodyOf_243 rfl ⟨rfl, rfl, rfl⟩
                      · rcases mj_ite hg with ⟨hx_3_9, hg⟩ | ⟨hx_3_9, hg⟩
                        · refine ev_tabIn (v := 19) (off := 221) (q := 242) hx_3_9 dX5_bodyOf_21 (by decide) (by decide) rfl rfl ?_
                          refine ev_iconst (v := 0) (q := 243) dX5_bodyOf_242 mci_0 rfl ?_
                          obtain rfl := Option.some.inj hg
                          exact ev_iret dX5_bodyOf_243 rfl ⟨rfl, rfl, rfl⟩
                        · rcases mj_ite hg with ⟨hx_3_10, hg⟩ | ⟨hx_3_10, hg⟩
                          · refine ev_tabIn (v := 20) (off := 147) (q := 168) hx_3_10 dX5_bodyOf_21 (by decide) (by decide) rfl rfl ?_
                            refine ev_iload_n (q := 169) dX5_bodyOf_168 rfl rfl ?_
                            obtain rfl := Option.some.inj hg
                            exact ev_iret dX5_bodyOf_169 rfl ⟨rfl, rfl, rfl⟩
                          · rcases mj_ite hg with ⟨hx_3_11, hg⟩ | ⟨hx_3_11, hg⟩
                            · refine ev_tabIn (v := 21) (off := 149) (q := 170) hx_3_11 dX5_bodyOf_21 (by decide) (by decide) rfl rfl ?_
                              refine ev_aload_n (q := 171) dX5_bodyOf_170 rfl rfl ?_
                              refine ev_bipush (v := 20) (q := 173) dX5_bodyOf_171 mcb_20 rfl ?_
                              refine ev_aload_n (q := 174) dX5_bodyOf_173 rfl rfl ?_
                              refine ev_iload_n (q := 175) dX5_bodyOf_174 rfl rfl ?_
                              refine ev_iload (q := 177) dX5_bodyOf_175 rfl rfl ?_
                              obtain ⟨o_9, ho_9, hg⟩ := mj_bd hg
                              refine ev_callS (q := 180) (kX5_bodyOf n) mw_t_X5_bodyOf mw_m_RX5_28 (ih _ _ _ _ _ _ _ h2 ho_9) rfl rfl (Nat.le_of_ble_eq_true rfl) (Nat.lt_succ_self _) dX5_bodyOf_177 rfl (fun v fv gv hp => ?_)
                              obtain ⟨rfl, rfl, rfl⟩ := hp
                              refine ev_aload_n (q := 181) dX5_bodyOf_180 rfl rfl ?_
                              refine ev_getfI (q := 184) mw_f_RX5_39 (by decide) (by decide) (mx_C h2) dX5_bodyOf_181 rfl ?_
                              refine ev_iadd (q := 185) dX5_bodyOf_184 rfl ?_
                              obtain rfl := Option.some.inj hg
                              exact ev_iret dX5_bodyOf_185 rfl ⟨rfl, rfl, rfl⟩
                            · rcases mj_ite hg with ⟨hx_3_12, hg⟩ | ⟨hx_3_12, hg⟩
                              · refine ev_tabIn (v := 22) (off := 165) (q := 186) hx_3_12 dX5_bodyOf_21 (by decide) (by decide) rfl rfl ?_
                                refine ev_aload_n (q := 187) dX5_bodyOf_186 rfl rfl ?_
                                refine ev_bipush (v := 21) (q := 189) dX5_bodyOf_187 mcb_21 rfl ?_
                                refine ev_aload_n (q := 190) dX5_bodyOf_189 rfl rfl ?_
                                refine ev_iload_n (q := 191) dX5_bodyOf_190 rfl rfl ?_
                                refine ev_iload (q := 193) dX5_bodyOf_191 rfl rfl ?_
                                obtain ⟨o_8, ho_8, hg⟩ := mj_bd hg
                                refine ev_callS (q := 196) (kX5_bodyOf n) mw_t_X5_bodyOf mw_m_RX5_28 (ih _ _ _ _ _ _ _ h2 ho_8) rfl rfl (Nat.le_of_ble_eq_true rfl) (Nat.lt_succ_self _) dX5_bodyOf_193 rfl (fun v fv gv hp => ?_)
                                obtain ⟨rfl, rfl, rfl⟩ := hp
                                refine ev_sipush (v := 1000) (q := 199) dX5_bodyOf_196 mcs_1000 rfl ?_
                                refine ev_isub (q := 200) dX5_bodyOf_199 rfl ?_
                                obtain rfl := Option.some.inj hg
                                exact ev_iret dX5_bodyOf_200 rfl ⟨rfl, rfl, rfl⟩
                              · rcases mj_ite hg with ⟨hx_3_13, hg⟩ | ⟨hx_3_13, hg⟩
                                · refine ev_tabIn (v := 23) (off := 180) (q := 201) hx_3_13 dX5_bodyOf_21 (by decide) (by decide) rfl rfl ?_
                                  refine ev_aload_n (q := 202) dX5_bodyOf_201 rfl rfl ?_
                                  refine ev_bipush (v := 20) (q := 204) dX5_bodyOf_202 mcb_20 rfl ?_
                                  refine ev_aload_n (q := 205) dX5_bodyOf_204 rfl rfl ?_
                                  refine ev_iload_n (q := 206) dX5_bodyOf_205 rfl rfl ?_
                                  refine ev_iload (q := 208) dX5_bodyOf_206 rfl rfl ?_
                                  obtain ⟨o_5, ho_5, hg⟩ := mj_bd hg
                                  refine ev_callS (q := 211) (kX5_bodyOf n) mw_t_X5_bodyOf mw_m_RX5_28 (ih _ _ _ _ _ _ _ h2 ho_5) rfl rfl (Nat.le_of_ble_eq_true rfl) (Nat.lt_succ_self _) dX5_bodyOf_208 rfl (fun v fv gv hp => ?_)
                                  obtain ⟨rfl, rfl, rfl⟩ := hp
                                  refine ev_aload_n (q := 212) dX5_bodyOf_211 rfl rfl ?_
                                  refine ev_gets1 (q := 215) mw_st_RX5_17 dX5_bodyOf_212 rfl ?_
                                  refine ev_aload_n (q := 216) dX5_bodyOf_215 rfl rfl ?_
                                  refine ev_getfI (q := 219) mw_f_RX5_20 (by decide) (by decide) (mx_C h2) dX5_bodyOf_216 rfl ?_
                                  obtain ⟨hi_6, hg⟩ := mj_gd hg
                                  refine ev_sald (q := 220) (by decide) hi_6 dX5_bodyOf_219 rfl ?_
                                  refine ev_aload_n (q := 221) dX5_bodyOf_220 rfl rfl ?_
                                  refine ev_iload_n (q := 222) dX5_bodyOf_221 rfl rfl ?_
                                  refine ev_iload (q := 224) dX5_bodyOf_222 rfl rfl ?_
                                  obtain ⟨o_7, ho_7, hg⟩ := mj_bd hg
                                  refine ev_callS (q := 227) (kX5_bodyOf n) mw_t_X5_bodyOf mw_m_RX5_28 (ih _ _ _ _ _ _ _ h2 ho_7) rfl rfl (Nat.le_of_ble_eq_true rfl) (Nat.lt_succ_self _) dX5_bodyOf_224 rfl (fun v fv gv hp => ?_)
                                  obtain ⟨rfl, rfl, rfl⟩ := hp
                                  refine ev_isub (q := 228) dX5_bodyOf_227 rfl ?_
                                  obtain rfl := Option.some.inj hg
                                  exact ev_iret dX5_bodyOf_228 rfl ⟨rfl, rfl, rfl⟩
                                · rcases mj_ite hg with ⟨hx_3_14, hg⟩ | ⟨hx_3_14, hg⟩
                                  · refine ev_tabIn (v := 24) (off := 208) (q := 229) hx_3_14 dX5_bodyOf_21 (by decide) (by decide) rfl rfl ?_
                                    refine ev_iconst (v := 2) (q := 230) dX5_bodyOf_229 mci_2 rfl ?_
                                    refine ev_aload_n (q := 231) dX5_bodyOf_230 rfl rfl ?_
                                    refine ev_bipush (v := 21) (q := 233) dX5_bodyOf_231 mcb_21 rfl ?_
                                    refine ev_aload_n (q := 234) dX5_bodyOf_233 rfl rfl ?_
                                    refine ev_iload_n (q := 235) dX5_bodyOf_234 rfl rfl ?_
                                    refine ev_iload (q := 237) dX5_bodyOf_235 rfl rfl ?_
                                    obtain ⟨o_4, ho_4, hg⟩ := mj_bd hg
                                    refine ev_callS (q := 240) (kX5_bodyOf n) mw_t_X5_bodyOf mw_m_RX5_28 (ih _ _ _ _ _ _ _ h2 ho_4) rfl rfl (Nat.le_of_ble_eq_true rfl) (Nat.lt_succ_self _) dX5_bodyOf_237 rfl (fun v fv gv hp => ?_)
                                    obtain ⟨rfl, rfl, rfl⟩ := hp
                                    refine ev_imul (q := 241) dX5_bodyOf_240 rfl ?_
                                    obtain rfl := Option.some.inj hg
                                    exact ev_iret dX5_bodyOf_241 rfl ⟨rfl, rfl, rfl⟩
                                  · refine ev_tabOut (q := 242) dX5_bodyOf_21 (by have e0 := lv_neT (a := 10) hx_3_0 (by decide); have e1 := lv_neT (a := 11) hx_3_1 (by decide); have e2 := lv_neT (a := 12) hx_3_2 (by decide); have e3 := lv_neT (a := 13) hx_3_3 (by decide); have e4 := lv_neT (a := 14) hx_3_4 (by decide); have e5 := lv_neT (a := 15) hx_3_5 (by decide); have e6 := lv_neT (a := 16) hx_3_6 (by decide); have e7 := lv_neT (a := 17) hx_3_7 (by decide); have e8 := lv_neT (a := 18) hx_3_8 (by decide); have e9 := lv_neT (a := 19) hx_3_9 (by decide); have e10 := lv_neT (a := 20) hx_3_10 (by decide); have e11 := lv_neT (a := 21) hx_3_11 (by decide); have e12 := lv_neT (a := 22) hx_3_12 (by decide); have e13 := lv_neT (a := 23) hx_3_13 (by decide); have e14 := lv_neT (a := 24) hx_3_14 (by decide); omega) rfl ?_
                                    refine ev_iconst (v := 0) (q := 243) dX5_bodyOf_242 mci_0 rfl ?_
                                    obtain rfl := Option.some.inj hg
                                    exact ev_iret dX5_bodyOf_243 rfl ⟨rfl, rfl, rfl⟩
def g_X5_answer (a1 : Nat) (x2 : Int32) (x3 : Int32) (f : mj_I) : Option (Int32 × mj_I) :=
  mj_lt (mj_wr f 26 1 (0 : Int32)) (fun f_1 =>
  if x3 = 0 then
   if mj_in (f_1 a1 0) 6 = true then
   mj_lt (((mj_tab 1).getD (ix (f_1 a1 0)) 0)) (fun u_3 =>
    (g_X5_bodyOf 10 u_3 a1 x2 (1 : Int32) f_1).bind (fun o_4 =>
    some ((o_4.1, o_4.2))))
   else none
  else
   if mj_in (f_1 a1 0) 6 = true then
   mj_lt (((mj_tab 2).getD (ix (f_1 a1 0)) 0)) (fun u_6 =>
    (g_X5_bodyOf 10 u_6 a1 x2 (1 : Int32) f_1).bind (fun o_7 =>
    some ((o_7.1, o_7.2))))
   else none)
theorem r_X5_answer {a1 : Nat} {x2 : Int32} {x3 : Int32} {f : mj_I} {g : mj_L} {o : Int32 × mj_I} (h1 : mx_isC a1) (hg : g_X5_answer a1 x2 x3 f = some o) : mj_Sp jX5_answer mx_S [.ref 26, .ref a1, .int x2, .int x3] f g (fun v f' g' => some (.int o.1) = v ∧ o.2 = f' ∧ g = g') := by
  refine mj_sp 1 (by decide +kernel) rfl rfl (fun _ _ => Nat.le_of_ble_eq_true rfl) ?_
  show mj_Ev jX5_answer 0 [some (.ref 26), some (.ref a1), some (.int x2), some (.int x3), none] [] mx_S f g _
  unfold g_X5_answer at hg
  refine ev_aload_n (q := 1) dX5_answer_0 rfl rfl ?_
  refine ev_iconst (v := 0) (q := 2) dX5_answer_1 mci_0 rfl ?_
  refine ev_putfI (q := 5) mw_f_RX5_13 rfl dX5_answer_2 rfl ?_
  refine ev_nmf (fun f_1 hf_1 => ?_)
  have hg := mj_lt_el hf_1 hg
  refine ev_iload_n (q := 6) dX5_answer_5 rfl rfl ?_
  refine ev_if_ne (t := 20) (q := 9) dX5_answer_6 rfl rfl hg (fun hg => ?_) (fun hg => ?_)
  · refine ev_gets1 (q := 12) mw_st_RX5_17 dX5_answer_9 rfl ?_
    refine ev_aload_n (q := 13) dX5_answer_12 rfl rfl ?_
    refine ev_getfI (q := 16) mw_f_RX5_20 (by decide) (by decide) (mx_C h1) dX5_answer_13 rfl ?_
    obtain ⟨hi_2, hg⟩ := mj_gd hg
    refine ev_sald (q := 17) (by decide) hi_2 dX5_answer_16 rfl ?_
    refine ev_goto (q := 28) dX5_answer_17 rfl ?_
    refine ev_nmi (fun u_3 hu_3 => ?_)
    have hg := mj_lt_el hu_3 hg
    refine ev_istore (q := 30) (loc' := [some (.ref _), some (.ref _), some (.int _), some (.int _), some (.int _)]) dX5_answer_28 (by decide) rfl rfl ?_
    refine ev_aload_n (q := 31) dX5_answer_30 rfl rfl ?_
    refine ev_iload (q := 33) dX5_answer_31 rfl rfl ?_
    refine ev_aload_n (q := 34) dX5_answer_33 rfl rfl ?_
    refine ev_iload_n (q := 35) dX5_answer_34 rfl rfl ?_
    refine ev_iconst (v := 1) (q := 36) dX5_answer_35 mci_1 rfl ?_
    obtain ⟨o_4, ho_4, hg⟩ := mj_bd hg
    refine ev_callS (q := 39) (kX5_bodyOf 10) mw_t_X5_bodyOf mw_m_RX5_28 (r_X5_bodyOf 10 _ _ _ _ _ _ _ h1 ho_4) rfl rfl (Nat.le_of_ble_eq_true rfl) (by decide) dX5_answer_36 rfl (fun v fv gv hp => ?_)
    obtain ⟨rfl, rfl, rfl⟩ := hp
    obtain rfl := Option.some.inj hg
    exact ev_iret dX5_answer_39 rfl ⟨rfl, rfl, rfl⟩
  · refine ev_gets2 (q := 23) mw_st_RX5_25 dX5_answer_20 rfl ?_
    refine ev_aload_n (q := 24) dX5_answer_23 rfl rfl ?_
    refine ev_getfI (q := 27) mw_f_RX5_20 (by decide) (by decide) (mx_C h1) dX5_answer_24 rfl ?_
    obtain ⟨hi_5, hg⟩ := mj_gd hg
    refine ev_sald (q := 28) (by decide) hi_5 dX5_answer_27 rfl ?_
    refine ev_nmi (fun u_6 hu_6 => ?_)
    have hg := mj_lt_el hu_6 hg
    refine ev_istore (q := 30) (loc' := [some (.ref _), some (.ref _), some (.int _), some (.int _), some (.int _)]) dX5_answer_28 (by decide) rfl rfl ?_
    refine ev_aload_n (q := 31) dX5_answer_30 rfl rfl ?_
    refine ev_iload (q := 33) dX5_answer_31 rfl rfl ?_
    refine ev_aload_n (q := 34) dX5_answer_33 rfl rfl ?_
    refine ev_iload_n (q := 35) dX5_answer_34 rfl rfl ?_
    refine ev_iconst (v := 1) (q := 36) dX5_answer_35 mci_1 rfl ?_
    obtain ⟨o_7, ho_7, hg⟩ := mj_bd hg
    refine ev_callS (q := 39) (kX5_bodyOf 10) mw_t_X5_bodyOf mw_m_RX5_28 (r_X5_bodyOf 10 _ _ _ _ _ _ _ h1 ho_7) rfl rfl (Nat.le_of_ble_eq_true rfl) (by decide) dX5_answer_36 rfl (fun v fv gv hp => ?_)
    obtain ⟨rfl, rfl, rfl⟩ := hp
    obtain rfl := Option.some.inj hg
    exact ev_iret dX5_answer_39 rfl ⟨rfl, rfl, rfl⟩
def g_X6_isRow (x0 : Int32) : Int32 :=
  (g_X6_within x0 (0 : Int32) (7 : Int32))
theorem r_X6_isRow {x0 : Int32} {f : mj_I} {g : mj_L} {o : Int32} (hg : g_X6_isRow x0 = o) : mj_Sp jX6_isRow mx_S [.int x0] f g (fun v f' g' => some (.int o) = v ∧ f = f' ∧ g = g' ∧ mj_b (o) = true) := by
  refine mj_sp 0 (by decide +kernel) rfl rfl (fun _ _ => Nat.le_of_ble_eq_true rfl) ?_
  show mj_Ev jX6_isRow 0 [some (.int x0)] [] mx_S f g _
  unfold g_X6_isRow at hg
  refine ev_iload_n (q := 1) dX6_isRow_0 rfl rfl ?_
  refine ev_iconst (v := 0) (q := 2) dX6_isRow_1 mci_0 rfl ?_
  refine ev_bipush (v := 7) (q := 4) dX6_isRow_2 mcb_7 rfl ?_
  refine ev_callS (q := 7) kX6_within mw_t_X6_within mw_m_RX6_69 (r_X6_within rfl) rfl rfl (Nat.le_of_ble_eq_true rfl) (by decide) dX6_isRow_4 rfl (fun v fv gv hp => ?_)
  obtain ⟨rfl, rfl, rfl, hr_1⟩ := hp
  subst hg
  exact ev_zret dX6_isRow_7 rfl (hr_1) ⟨rfl, rfl, rfl, (hr_1)⟩
def g_X6_found (x1 : Int32) (f : mj_I) : Int32 × mj_I :=
  mj_lt (mj_wr f 0 8 x1) (fun f_1 =>
  (((-1000010 : Int32) - x1), f_1))
theorem r_X6_found {x1 : Int32} {f : mj_I} {g : mj_L} {o : Int32 × mj_I} (hg : g_X6_found x1 f = o) : mj_Sp jX6_found mx_S [.ref 0, .int x1] f g (fun v f' g' => some (.int o.1) = v ∧ o.2 = f' ∧ g = g') := by
  refine mj_sp 0 (by decide +kernel) rfl rfl (fun _ _ => Nat.le_of_ble_eq_true rfl) ?_
  show mj_Ev jX6_found 0 [some (.ref 0), some (.int x1)] [] mx_S f g _
  unfold g_X6_found at hg
  refine ev_aload_n (q := 1) dX6_found_0 rfl rfl ?_
  refine ev_iload_n (q := 2) dX6_found_1 rfl rfl ?_
  refine ev_putfI (q := 5) mw_f_RX6_57 rfl dX6_found_2 rfl ?_
  refine ev_nmf (fun f_1 hf_1 => ?_)
  have hg := mj_lt_el hf_1 hg
  refine ev_ldcw (q := 8) mw_c_RX6_294 dX6_found_5 rfl ?_
  refine ev_iload_n (q := 9) dX6_found_8 rfl rfl ?_
  refine ev_isub (q := 10) dX6_found_9 rfl ?_
  subst hg
  exact ev_iret dX6_found_10 rfl ⟨rfl, rfl, rfl⟩
def g_X6_clean (x1 : Int32) (f : mj_I) : Int32 × mj_I :=
  mj_lt (mj_wr f 0 8 (0 : Int32)) (fun f_1 =>
  (x1, f_1))
theorem r_X6_clean {x1 : Int32} {f : mj_I} {g : mj_L} {o : Int32 × mj_I} (hg : g_X6_clean x1 f = o) : mj_Sp jX6_clean mx_S [.ref 0, .int x1] f g (fun v f' g' => some (.int o.1) = v ∧ o.2 = f' ∧ g = g') := by
  refine mj_sp 0 (by decide +kernel) rfl rfl (fun _ _ => Nat.le_of_ble_eq_true rfl) ?_
  show mj_Ev jX6_clean 0 [some (.ref 0), some (.int x1)] [] mx_S f g _
  unfold g_X6_clean at hg
  refine ev_aload_n (q := 1) dX6_clean_0 rfl rfl ?_
  refine ev_iconst (v := 0) (q := 2) dX6_clean_1 mci_0 rfl ?_
  refine ev_putfI (q := 5) mw_f_RX6_57 rfl dX6_clean_2 rfl ?_
  refine ev_nmf (fun f_1 hf_1 => ?_)
  have hg := mj_lt_el hf_1 hg
  refine ev_iload_n (q := 6) dX6_clean_5 rfl rfl ?_
  subst hg
  exact ev_iret dX6_clean_6 rfl ⟨rfl, rfl, rfl⟩
def g_X6_row (x1 : Int32) (x2 : Int32) (x3 : Int32) (f : mj_I) : Option (Int32 × mj_I) :=
  if (g_X6_isRow x1) = 0 then
   some (((-1000001 : Int32), f))
  else
   if (g_X6_within x2 (0 : Int32) (2 : Int32)) = 0 then
    some (((-1000001 : Int32), f))
   else
    if (40 : Int32) < x3 then
     some (((-1000001 : Int32), f))
    else
     if x3 < 0 then
      mj_lt (g_X6_found (4 : Int32) f) (fun o_3 =>
      some ((o_3.1, o_3.2)))
     else
      if mj_in x1 8 = true then
      (g_X3_begin (28 + 2 * (ix x1)) x2 x3 f).bind (fun o_5 =>
       mj_lt (g_X6_clean x3 o_5) (fun o_6 =>
       some ((o_6.1, o_6.2))))
      else none
theorem r_X6_row {x1 : Int32} {x2 : Int32} {x3 : Int32} {f : mj_I} {g : mj_L} {o : Int32 × mj_I} (hg : g_X6_row x1 x2 x3 f = some o) : mj_Sp jX6_row mx_S [.ref 0, .int x1, .int x2, .int x3] f g (fun v f' g' => some (.int o.1) = v ∧ o.2 = f' ∧ g = g') := by
  refine mj_sp 0 (by decide +kernel) rfl rfl (fun _ _ => Nat.le_of_ble_eq_true rfl) ?_
  show mj_Ev jX6_row 0 [some (.ref 0), some (.int x1), some (.int x2), some (.int x3)] [] mx_S f g _
  unfold g_X6_row at hg
  refine ev_iload_n (q := 1) dX6_row_0 rfl rfl ?_
  refine ev_callS (q := 4) kX6_isRow mw_t_X6_isRow mw_m_RX6_65 (r_X6_isRow rfl) rfl rfl (Nat.le_of_ble_eq_true rfl) (by decide) dX6_row_1 rfl (fun v fv gv hp => ?_)
  obtain ⟨rfl, rfl, rfl, hr_1⟩ := hp
  refine ev_if_eq (t := 22) (q := 7) dX6_row_4 rfl rfl hg (fun hg => ?_) (fun hg => ?_)
  · refine ev_ldc (q := 24) mw_c_RX6_73 dX6_row_22 rfl ?_
    obtain rfl := Option.some.inj hg
    exact ev_iret dX6_row_24 rfl ⟨rfl, rfl, rfl⟩
  · refine ev_iload_n (q := 8) dX6_row_7 rfl rfl ?_
    refine ev_iconst (v := 0) (q := 9) dX6_row_8 mci_0 rfl ?_
    refine ev_iconst (v := 2) (q := 10) dX6_row_9 mci_2 rfl ?_
    refine ev_callS (q := 13) kX6_within mw_t_X6_within mw_m_RX6_69 (r_X6_within rfl) rfl rfl (Nat.le_of_ble_eq_true rfl) (by decide) dX6_row_10 rfl (fun v fv gv hp => ?_)
    obtain ⟨rfl, rfl, rfl, hr_2⟩ := hp
    refine ev_if_eq (t := 22) (q := 16) dX6_row_13 rfl rfl hg (fun hg => ?_) (fun hg => ?_)
    · refine ev_ldc (q := 24) mw_c_RX6_73 dX6_row_22 rfl ?_
      obtain rfl := Option.some.inj hg
      exact ev_iret dX6_row_24 rfl ⟨rfl, rfl, rfl⟩
    · refine ev_iload_n (q := 17) dX6_row_16 rfl rfl ?_
      refine ev_bipush (v := 40) (q := 19) dX6_row_17 mcb_40 rfl ?_
      refine ev_icmp_le (t := 25) (q := 22) dX6_row_19 rfl rfl hg (fun hg => ?_) (fun hg => ?_)
      · refine ev_ldc (q := 24) mw_c_RX6_73 dX6_row_22 rfl ?_
        obtain rfl := Option.some.inj hg
        exact ev_iret dX6_row_24 rfl ⟨rfl, rfl, rfl⟩
      · refine ev_iload_n (q := 26) dX6_row_25 rfl rfl ?_
        refine ev_if_ge (t := 35) (q := 29) dX6_row_26 rfl rfl hg (fun hg => ?_) (fun hg => ?_)
        · refine ev_aload_n (q := 30) dX6_row_29 rfl rfl ?_
          refine ev_iconst (v := 4) (q := 31) dX6_row_30 mci_4 rfl ?_
          obtain ⟨o_3, ho_3, hg⟩ := mj_lte hg
          refine ev_callV (q := 34) kX6_found mw_i_X6_found mw_s_X6_found mw_m_RX6_74 rfl rfl (r_X6_found ho_3) rfl rfl (Nat.le_of_ble_eq_true rfl) (by decide) dX6_row_31 rfl (fun v fv gv hp => ?_)
          obtain ⟨rfl, rfl, rfl⟩ := hp
          obtain rfl := Option.some.inj hg
          exact ev_iret dX6_row_34 rfl ⟨rfl, rfl, rfl⟩
        · refine ev_aload_n (q := 36) dX6_row_35 rfl rfl ?_
          refine ev_getfR (q := 39) mw_f_RX6_11 rfl rfl dX6_row_36 rfl ?_
          refine ev_iload_n (q := 40) dX6_row_39 rfl rfl ?_
          obtain ⟨hi_4, hg⟩ := mj_gd hg
          refine ev_aald (kd := 2) (q := 41) rfl (by decide) hi_4 (mx_rr_get hi_4) dX6_row_40 rfl ?_
          refine ev_iload_n (q := 42) dX6_row_41 rfl rfl ?_
          refine ev_iload_n (q := 43) dX6_row_42 rfl rfl ?_
          obtain ⟨o_5, ho_5, hg⟩ := mj_bd hg
          refine ev_callV (q := 46) kX3_begin mw_i_X3_begin mw_s_X3_begin mw_m_RX6_78 (mx_R (mx_isR_of hi_4)) rfl (r_X3_begin (mx_isR_of hi_4) ho_5) rfl rfl (Nat.le_of_ble_eq_true rfl) (by decide) dX6_row_43 rfl (fun v fv gv hp => ?_)
          obtain ⟨rfl, rfl, rfl⟩ := hp
          refine ev_aload_n (q := 47) dX6_row_46 rfl rfl ?_
          refine ev_iload_n (q := 48) dX6_row_47 rfl rfl ?_
          obtain ⟨o_6, ho_6, hg⟩ := mj_lte hg
          refine ev_callV (q := 51) kX6_clean mw_i_X6_clean mw_s_X6_clean mw_m_RX6_82 rfl rfl (r_X6_clean ho_6) rfl rfl (Nat.le_of_ble_eq_true rfl) (by decide) dX6_row_48 rfl (fun v fv gv hp => ?_)
          obtain ⟨rfl, rfl, rfl⟩ := hp
          obtain rfl := Option.some.inj hg
          exact ev_iret dX6_row_51 rfl ⟨rfl, rfl, rfl⟩
def g_X6_set (x1 : Int32) (x2 : Int32) (x3 : Int32) (f : mj_I) : Option (Int32 × mj_I) :=
  if (g_X6_isRow x1) = 0 then
   some (((-1000001 : Int32), f))
  else
   if mj_in x1 8 = true then
   mj_lt ((g_X3_lack (28 + 2 * (ix x1)) x2 (1 : Int32) f)) (fun u_4 =>
    if u_4 = 0 then
     if mj_in x1 8 = true then
     (g_X3_put (28 + 2 * (ix x1)) x2 x3 f).bind (fun o_6 =>
      mj_lt (g_X6_clean o_6.1 o_6.2) (fun o_7 =>
      some ((o_7.1, o_7.2))))
     else none
    else
     mj_lt (g_X6_found u_4 f) (fun o_8 =>
     some ((o_8.1, o_8.2))))
   else none
theorem r_X6_set {x1 : Int32} {x2 : Int32} {x3 : Int32} {f : mj_I} {g : mj_L} {o : Int32 × mj_I} (hg : g_X6_set x1 x2 x3 f = some o) : mj_Sp jX6_set mx_S [.ref 0, .int x1, .int x2, .int x3] f g (fun v f' g' => some (.int o.1) = v ∧ o.2 = f' ∧ g = g') := by
  refine mj_sp 1 (by decide +kernel) rfl rfl (fun _ _ => Nat.le_of_ble_eq_true rfl) ?_
  show mj_Ev jX6_set 0 [some (.ref 0), some (.int x1), some (.int x2), some (.int x3), none] [] mx_S f g _
  unfold g_X6_set at hg
  refine ev_iload_n (q := 1) dX6_set_0 rfl rfl ?_
  refine ev_callS (q := 4) kX6_isRow mw_t_X6_isRow mw_m_RX6_65 (r_X6_isRow rfl) rfl rfl (Nat.le_of_ble_eq_true rfl) (by decide) dX6_set_1 rfl (fun v fv gv hp => ?_)
  obtain ⟨rfl, rfl, rfl, hr_1⟩ := hp
  refine ev_if_ne (t := 10) (q := 7) dX6_set_4 rfl rfl hg (fun hg => ?_) (fun hg => ?_)
  · refine ev_ldc (q := 9) mw_c_RX6_73 dX6_set_7 rfl ?_
    obtain rfl := Option.some.inj hg
    exact ev_iret dX6_set_9 rfl ⟨rfl, rfl, rfl⟩
  · refine ev_aload_n (q := 11) dX6_set_10 rfl rfl ?_
    refine ev_getfR (q := 14) mw_f_RX6_11 rfl rfl dX6_set_11 rfl ?_
    refine ev_iload_n (q := 15) dX6_set_14 rfl rfl ?_
    obtain ⟨hi_2, hg⟩ := mj_gd hg
    refine ev_aald (kd := 2) (q := 16) rfl (by decide) hi_2 (mx_rr_get hi_2) dX6_set_15 rfl ?_
    refine ev_iload_n (q := 17) dX6_set_16 rfl rfl ?_
    refine ev_iconst (v := 1) (q := 18) dX6_set_17 mci_1 rfl ?_
    refine ev_callV (q := 21) kX3_lack mw_i_X3_lack mw_s_X3_lack mw_m_RX6_85 (mx_R (mx_isR_of hi_2)) rfl (r_X3_lack (mx_isR_of hi_2) rfl) rfl rfl (Nat.le_of_ble_eq_true rfl) (by decide) dX6_set_18 rfl (fun v fv gv hp => ?_)
    obtain ⟨rfl, rfl, rfl⟩ := hp
    refine ev_nmi (fun u_4 hu_4 => ?_)
    have hg := mj_lt_el hu_4 hg
    refine ev_istore (q := 23) (loc' := [some (.ref _), some (.int _), some (.int _), some (.int _), some (.int _)]) dX6_set_21 (by decide) rfl rfl ?_
    refine ev_iload (q := 25) dX6_set_23 rfl rfl ?_
    refine ev_if_eq (t := 37) (q := 28) dX6_set_25 rfl rfl hg (fun hg => ?_) (fun hg => ?_)
    · refine ev_aload_n (q := 38) dX6_set_37 rfl rfl ?_
      refine ev_aload_n (q := 39) dX6_set_38 rfl rfl ?_
      refine ev_getfR (q := 42) mw_f_RX6_11 rfl rfl dX6_set_39 rfl ?_
      refine ev_iload_n (q := 43) dX6_set_42 rfl rfl ?_
      obtain ⟨hi_5, hg⟩ := mj_gd hg
      refine ev_aald (kd := 2) (q := 44) rfl (by decide) hi_5 (mx_rr_get hi_5) dX6_set_43 rfl ?_
      refine ev_iload_n (q := 45) dX6_set_44 rfl rfl ?_
      refine ev_iload_n (q := 46) dX6_set_45 rfl rfl ?_
      obtain ⟨o_6, ho_6, hg⟩ := mj_bd hg
      refine ev_callV (q := 49) kX3_put mw_i_X3_put mw_s_X3_put mw_m_RX6_89 (mx_R (mx_isR_of hi_5)) rfl (r_X3_put (mx_isR_of hi_5) ho_6) rfl rfl (Nat.le_of_ble_eq_true rfl) (by decide) dX6_set_46 rfl (fun v fv gv hp => ?_)
      obtain ⟨rfl, rfl, rfl⟩ := hp
      obtain ⟨o_7, ho_7, hg⟩ := mj_lte hg
      refine ev_callV (q := 52) kX6_clean mw_i_X6_clean mw_s_X6_clean mw_m_RX6_82 rfl rfl (r_X6_clean ho_7) rfl rfl (Nat.le_of_ble_eq_true rfl) (by decide) dX6_set_49 rfl (fun v fv gv hp => ?_)
      obtain ⟨rfl, rfl, rfl⟩ := hp
      obtain rfl := Option.some.inj hg
      exact ev_iret dX6_set_52 rfl ⟨rfl, rfl, rfl⟩
    · refine ev_aload_n (q := 29) dX6_set_28 rfl rfl ?_
      refine ev_iload (q := 31) dX6_set_29 rfl rfl ?_
      obtain ⟨o_8, ho_8, hg⟩ := mj_lte hg
      refine ev_callV (q := 34) kX6_found mw_i_X6_found mw_s_X6_found mw_m_RX6_74 rfl rfl (r_X6_found ho_8) rfl rfl (Nat.le_of_ble_eq_true rfl) (by decide) dX6_set_31 rfl (fun v fv gv hp => ?_)
      obtain ⟨rfl, rfl, rfl⟩ := hp
      refine ev_goto (q := 52) dX6_set_34 rfl ?_
      obtain rfl := Option.some.inj hg
      exact ev_iret dX6_set_52 rfl ⟨rfl, rfl, rfl⟩
