def g_X7_isTaken_4 : Nat → Int32 → Int32 → Int32 → mj_I → Option (Int32)
  | 0, _, _, _, _ => none
  | n + 1, x1, x2, x3, f =>
    if x3 < (f 7 50) then
     if x2 = 0 then
      if mj_in ((56 : Int32) + x3) 82 = true then
      if (f 7 (ix ((56 : Int32) + x3))) = x1 then
        g_X7_isTaken_4 n x1 (1 : Int32) (x3 + (1 : Int32)) f
       else
        g_X7_isTaken_4 n x1 (0 : Int32) (x3 + (1 : Int32)) f
      else none
     else
      g_X7_isTaken_4 n x1 (1 : Int32) (x3 + (1 : Int32)) f
    else
     some (x2)
theorem r_X7_isTaken_4 {f : mj_I} {g : mj_L} {post : Option Value → mj_I → mj_L → Prop} : ∀ (n : Nat) (x1 : Int32) (x2 : Int32) (x3 : Int32) (o : Int32), g_X7_isTaken_4 n x1 x2 x3 f = some o → mj_Ev jX7_isTaken 44 [none, none, some (.int o), none] [] my_S f g post → mj_Ev jX7_isTaken 4 [some (.ref 0), some (.int x1), some (.int x2), some (.int x3)] [] my_S f g post := by
  intro n
  induction n with
  | zero =>
    intro x1 x2 x3 o hg hk
    cases hg
  | succ n ih =>
    intro x1 x2 x3 o hg hk
    unfold g_X7_isTaken_4 at hg
    refine ev_iload_n (q := 5) dX7_isTaken_4 rfl rfl ?_
    refine ev_aload_n (q := 6) dX7_isTaken_5 rfl rfl ?_
    refine ev_getfR (q := 9) mw_f_RX7_28 rfl rfl dX7_isTaken_6 rfl ?_
    refine ev_bipush (v := 50) (q := 11) dX7_isTaken_9 mcb_50 rfl ?_
    refine ev_ialdk (k := 50) (q := 12) rfl (by decide) mcx_50 dX7_isTaken_11 rfl ?_
    refine ev_icmp_ge (t := 44) (q := 15) dX7_isTaken_12 rfl rfl hg (fun hg => ?_) (fun hg => ?_)
    · refine ev_iload_n (q := 16) dX7_isTaken_15 rfl rfl ?_
      refine ev_if_ne (t := 32) (q := 19) dX7_isTaken_16 rfl rfl hg (fun hg => ?_) (fun hg => ?_)
      · refine ev_aload_n (q := 20) dX7_isTaken_19 rfl rfl ?_
        refine ev_getfR (q := 23) mw_f_RX7_28 rfl rfl dX7_isTaken_20 rfl ?_
        refine ev_bipush (v := 56) (q := 25) dX7_isTaken_23 mcb_56 rfl ?_
        refine ev_iload_n (q := 26) dX7_isTaken_25 rfl rfl ?_
        refine ev_iadd (q := 27) dX7_isTaken_26 rfl ?_
        obtain ⟨hi_4, hg⟩ := mj_gd hg
        refine ev_ialdk (q := 28) rfl hi_4 rfl dX7_isTaken_27 rfl ?_
        refine ev_iload_n (q := 29) dX7_isTaken_28 rfl rfl ?_
        refine ev_icmp_ne (t := 36) (q := 32) dX7_isTaken_29 rfl rfl hg (fun hg => ?_) (fun hg => ?_)
        · refine ev_iconst (v := 1) (q := 33) dX7_isTaken_32 mci_1 rfl ?_
          refine ev_goto (q := 37) dX7_isTaken_33 rfl ?_
          refine ev_istore_n (q := 38) (loc' := [some (.ref _), some (.int _), some (.int _), some (.int _)]) dX7_isTaken_37 (by decide) rfl rfl ?_
          refine ev_iinc (v := 1) (q := 41) (loc' := [some (.ref _), some (.int _), some (.int _), some (.int _)]) dX7_isTaken_38 rfl (by decide) mci_1 rfl rfl ?_
          refine ev_goto (q := 4) dX7_isTaken_41 rfl ?_
          exact ih _ _ _ _ hg hk
        · refine ev_iconst (v := 0) (q := 37) dX7_isTaken_36 mci_0 rfl ?_
          refine ev_istore_n (q := 38) (loc' := [some (.ref _), some (.int _), some (.int _), some (.int _)]) dX7_isTaken_37 (by decide) rfl rfl ?_
          refine ev_iinc (v := 1) (q := 41) (loc' := [some (.ref _), some (.int _), some (.int _), some (.int _)]) dX7_isTaken_38 rfl (by decide) mci_1 rfl rfl ?_
          refine ev_goto (q := 4) dX7_isTaken_41 rfl ?_
          exact ih _ _ _ _ hg hk
      · refine ev_iconst (v := 1) (q := 33) dX7_isTaken_32 mci_1 rfl ?_
        refine ev_goto (q := 37) dX7_isTaken_33 rfl ?_
        refine ev_istore_n (q := 38) (loc' := [some (.ref _), some (.int _), some (.int _), some (.int _)]) dX7_isTaken_37 (by decide) rfl rfl ?_
        refine ev_iinc (v := 1) (q := 41) (loc' := [some (.ref _), some (.int _), some (.int _), some (.int _)]) dX7_isTaken_38 rfl (by decide) mci_1 rfl rfl ?_
        refine ev_goto (q := 4) dX7_isTaken_41 rfl ?_
        exact ih _ _ _ _ hg hk
    · obtain rfl := Option.some.inj hg
      refine ev_wk (loc' := [none, none, some (.int _), none]) ⟨rfl, trivial⟩ ?_
      exact hk
def g_X7_isTaken (x1 : Int32) (f : mj_I) : Option (Int32) :=
  (g_X7_isTaken_4 mj_fuel x1 (0 : Int32) (0 : Int32) f).bind (fun q_1 =>
  if mj_b q_1 = true then
  some (q_1)
  else none)
theorem r_X7_isTaken {x1 : Int32} {f : mj_I} {g : mj_L} {o : Int32} (hg : g_X7_isTaken x1 f = some o) : mj_Sp jX7_isTaken my_S [.ref 0, .int x1] f g (fun v f' g' => some (.int o) = v ∧ f = f' ∧ g = g' ∧ mj_b (o) = true) := by
  refine mj_sp 2 (by decide +kernel) rfl rfl (fun _ _ => Nat.le_of_ble_eq_true rfl) ?_
  show mj_Ev jX7_isTaken 0 [some (.ref 0), some (.int x1), none, none] [] my_S f g _
  unfold g_X7_isTaken at hg
  refine ev_iconst (v := 0) (q := 1) dX7_isTaken_0 mci_0 rfl ?_
  refine ev_istore_n (q := 2) (loc' := [some (.ref _), some (.int _), some (.int _), none]) dX7_isTaken_1 (by decide) rfl rfl ?_
  refine ev_iconst (v := 0) (q := 3) dX7_isTaken_2 mci_0 rfl ?_
  refine ev_istore_n (q := 4) (loc' := [some (.ref _), some (.int _), some (.int _), some (.int _)]) dX7_isTaken_3 (by decide) rfl rfl ?_
  obtain ⟨q_1, hq_1, hg⟩ := mj_bd hg
  refine r_X7_isTaken_4 mj_fuel _ _ _ _ hq_1 ?_
  refine ev_iload_n (q := 45) dX7_isTaken_44 rfl rfl ?_
  obtain ⟨hb_2, hg⟩ := mj_gd hg
  obtain rfl := Option.some.inj hg
  exact ev_zret dX7_isTaken_45 rfl hb_2 ⟨rfl, rfl, rfl, (hb_2)⟩
def g_X7_readCloud_54 (x1 : Int32) (x2 : Int32) (f : mj_I) : Option (Int32 × mj_I) :=
  if mj_in ((51 : Int32) + x2) 82 = true then
  mj_lt (mj_wr f 7 (ix ((51 : Int32) + x2)) x1) (fun f_8 =>
   (g_X7_taken f_8).bind (fun o_9 =>
   if mj_in ((56 : Int32) + x2) 82 = true then
   mj_lt (mj_wr o_9.2 7 (ix ((56 : Int32) + x2)) o_9.1) (fun f_10 =>
    (g_X7_takes (44 : Int32) f_10).bind (fun o_11 =>
    if o_11.1 = 0 then
     some (((0 : Int32), o_11.2))
    else
     mj_lt (g_X7_isNumber (0 : Int32) (20 : Int32) o_11.2) (fun o_12 =>
     if o_12.1 = 0 then
      some (((0 : Int32), o_12.2))
     else
      (g_X7_taken o_12.2).bind (fun o_13 =>
      if mj_in ((66 : Int32) + x2) 82 = true then
      mj_lt (mj_wr o_13.2 7 (ix ((66 : Int32) + x2)) o_13.1) (fun f_14 =>
       if mj_in ((76 : Int32) + x2) 82 = true then
       mj_lt (mj_wr f_14 7 (ix ((76 : Int32) + x2)) (1 : Int32)) (fun f_15 =>
        mj_lt (mj_wr f_15 7 50 ((f_15 7 50) + (1 : Int32))) (fun f_17 =>
        (g_X7_takes (59 : Int32) f_17).bind (fun o_18 =>
        some ((o_18.1, o_18.2)))))
       else none)
      else none))))
   else none))
  else none
theorem r_X7_readCloud_54 {g : mj_L} : ∀ (x1 : Int32) (x2 : Int32) (f : mj_I) (o : Int32 × mj_I), g_X7_readCloud_54 x1 x2 f = some o → mj_Ev jX7_readCloud 54 [some (.ref 0), some (.int x1), some (.int x2)] [] my_S f g (fun v f' g' => some (.int o.1) = v ∧ o.2 = f' ∧ g = g' ∧ mj_b (o.1) = true) := by
  intro x1 x2 f o hg
  unfold g_X7_readCloud_54 at hg
  refine ev_aload_n (q := 55) dX7_readCloud_54 rfl rfl ?_
  refine ev_getfR (q := 58) mw_f_RX7_28 rfl rfl dX7_readCloud_55 rfl ?_
  refine ev_bipush (v := 51) (q := 60) dX7_readCloud_58 mcb_51 rfl ?_
  refine ev_iload_n (q := 61) dX7_readCloud_60 rfl rfl ?_
  refine ev_iadd (q := 62) dX7_readCloud_61 rfl ?_
  refine ev_iload_n (q := 63) dX7_readCloud_62 rfl rfl ?_
  obtain ⟨hi_8, hg⟩ := mj_gd hg
  refine ev_iastk (q := 64) rfl hi_8 rfl dX7_readCloud_63 rfl ?_
  refine ev_nmf (fun f_8 hf_8 => ?_)
  have hg := mj_lt_el hf_8 hg
  refine ev_aload_n (q := 65) dX7_readCloud_64 rfl rfl ?_
  refine ev_getfR (q := 68) mw_f_RX7_28 rfl rfl dX7_readCloud_65 rfl ?_
  refine ev_bipush (v := 56) (q := 70) dX7_readCloud_68 mcb_56 rfl ?_
  refine ev_iload_n (q := 71) dX7_readCloud_70 rfl rfl ?_
  refine ev_iadd (q := 72) dX7_readCloud_71 rfl ?_
  refine ev_aload_n (q := 73) dX7_readCloud_72 rfl rfl ?_
  obtain ⟨o_9, ho_9, hg⟩ := mj_bd hg
  refine ev_callV (q := 76) kX7_taken mw_i_X7_taken mw_s_X7_taken mw_m_RX7_127 rfl rfl (r_X7_taken ho_9) rfl rfl (Nat.le_of_ble_eq_true rfl) (by decide) dX7_readCloud_73 rfl (fun v fv gv hp => ?_)
  obtain ⟨rfl, rfl, rfl⟩ := hp
  obtain ⟨hi_10, hg⟩ := mj_gd hg
  refine ev_iastk (q := 77) rfl hi_10 rfl dX7_readCloud_76 rfl ?_
  refine ev_nmf (fun f_10 hf_10 => ?_)
  have hg := mj_lt_el hf_10 hg
  refine ev_aload_n (q := 78) dX7_readCloud_77 rfl rfl ?_
  refine ev_bipush (v := 44) (q := 80) dX7_readCloud_78 mcb_44 rfl ?_
  obtain ⟨o_11, ho_11, hg⟩ := mj_bd hg
  refine ev_callV (q := 83) kX7_takes mw_i_X7_takes mw_s_X7_takes mw_m_RX7_120 rfl rfl (r_X7_takes ho_11) rfl rfl (Nat.le_of_ble_eq_true rfl) (by decide) dX7_readCloud_80 rfl (fun v fv gv hp => ?_)
  obtain ⟨rfl, rfl, rfl, hr_11⟩ := hp
  refine ev_if_eq (t := 96) (q := 86) dX7_readCloud_83 rfl rfl hg (fun hg => ?_) (fun hg => ?_)
  · refine ev_iconst (v := 0) (q := 97) dX7_readCloud_96 mci_0 rfl ?_
    obtain rfl := Option.some.inj hg
    exact ev_zret dX7_readCloud_97 rfl (mcz_0) ⟨rfl, rfl, rfl, (mcz_0)⟩
  · refine ev_aload_n (q := 87) dX7_readCloud_86 rfl rfl ?_
    refine ev_iconst (v := 0) (q := 88) dX7_readCloud_87 mci_0 rfl ?_
    refine ev_bipush (v := 20) (q := 90) dX7_readCloud_88 mcb_20 rfl ?_
    obtain ⟨o_12, ho_12, hg⟩ := mj_lte hg
    refine ev_callV (q := 93) kX7_isNumber mw_i_X7_isNumber mw_s_X7_isNumber mw_m_RX7_123 rfl rfl (r_X7_isNumber ho_12) rfl rfl (Nat.le_of_ble_eq_true rfl) (by decide) dX7_readCloud_90 rfl (fun v fv gv hp => ?_)
    obtain ⟨rfl, rfl, rfl, hr_12⟩ := hp
    refine ev_if_ne (t := 98) (q := 96) dX7_readCloud_93 rfl rfl hg (fun hg => ?_) (fun hg => ?_)
    · refine ev_iconst (v := 0) (q := 97) dX7_readCloud_96 mci_0 rfl ?_
      obtain rfl := Option.some.inj hg
      exact ev_zret dX7_readCloud_97 rfl (mcz_0) ⟨rfl, rfl, rfl, (mcz_0)⟩
    · refine ev_aload_n (q := 99) dX7_readCloud_98 rfl rfl ?_
      refine ev_getfR (q := 102) mw_f_RX7_28 rfl rfl dX7_readCloud_99 rfl ?_
      refine ev_bipush (v := 66) (q := 104) dX7_readCloud_102 mcb_66 rfl ?_
      refine ev_iload_n (q := 105) dX7_readCloud_104 rfl rfl ?_
      refine ev_iadd (q := 106) dX7_readCloud_105 rfl ?_
      refine ev_aload_n (q := 107) dX7_readCloud_106 rfl rfl ?_
      obtain ⟨o_13, ho_13, hg⟩ := mj_bd hg
      refine ev_callV (q := 110) kX7_taken mw_i_X7_taken mw_s_X7_taken mw_m_RX7_127 rfl rfl (r_X7_taken ho_13) rfl rfl (Nat.le_of_ble_eq_true rfl) (by decide) dX7_readCloud_107 rfl (fun v fv gv hp => ?_)
      obtain ⟨rfl, rfl, rfl⟩ := hp
      obtain ⟨hi_14, hg⟩ := mj_gd hg
      refine ev_iastk (q := 111) rfl hi_14 rfl dX7_readCloud_110 rfl ?_
      refine ev_nmf (fun f_14 hf_14 => ?_)
      have hg := mj_lt_el hf_14 hg
      refine ev_aload_n (q := 112) dX7_readCloud_111 rfl rfl ?_
      refine ev_getfR (q := 115) mw_f_RX7_28 rfl rfl dX7_readCloud_112 rfl ?_
      refine ev_bipush (v := 76) (q := 117) dX7_readCloud_115 mcb_76 rfl ?_
      refine ev_iload_n (q := 118) dX7_readCloud_117 rfl rfl ?_
      refine ev_iadd (q := 119) dX7_readCloud_118 rfl ?_
      refine ev_iconst (v := 1) (q := 120) dX7_readCloud_119 mci_1 rfl ?_
      obtain ⟨hi_15, hg⟩ := mj_gd hg
      refine ev_iastk (q := 121) rfl hi_15 rfl dX7_readCloud_120 rfl ?_
      refine ev_nmf (fun f_15 hf_15 => ?_)
      have hg := mj_lt_el hf_15 hg
      refine ev_aload_n (q := 122) dX7_readCloud_121 rfl rfl ?_
      refine ev_getfR (q := 125) mw_f_RX7_28 rfl rfl dX7_readCloud_122 rfl ?_
      refine ev_bipush (v := 50) (q := 127) dX7_readCloud_125 mcb_50 rfl ?_
      refine ev_dup2 (q := 128) dX7_readCloud_127 rfl rfl rfl ?_
      refine ev_ialdk (k := 50) (q := 129) rfl (by decide) mcx_50 dX7_readCloud_128 rfl ?_
      refine ev_iconst (v := 1) (q := 130) dX7_readCloud_129 mci_1 rfl ?_
      refine ev_iadd (q := 131) dX7_readCloud_130 rfl ?_
      refine ev_iastk (k := 50) (q := 132) rfl (by decide) mcx_50 dX7_readCloud_131 rfl ?_
      refine ev_nmf (fun f_17 hf_17 => ?_)
      have hg := mj_lt_el hf_17 hg
      refine ev_aload_n (q := 133) dX7_readCloud_132 rfl rfl ?_
      refine ev_bipush (v := 59) (q := 135) dX7_readCloud_133 mcb_59 rfl ?_
      obtain ⟨o_18, ho_18, hg⟩ := mj_bd hg
      refine ev_callV (q := 138) kX7_takes mw_i_X7_takes mw_s_X7_takes mw_m_RX7_120 rfl rfl (r_X7_takes ho_18) rfl rfl (Nat.le_of_ble_eq_true rfl) (by decide) dX7_readCloud_135 rfl (fun v fv gv hp => ?_)
      obtain ⟨rfl, rfl, rfl, hr_18⟩ := hp
      obtain rfl := Option.some.inj hg
      exact ev_zret dX7_readCloud_138 rfl (hr_18) ⟨rfl, rfl, rfl, (hr_18)⟩
def g_X7_readCloud (x1 : Int32) (f : mj_I) : Option (Int32 × mj_I) :=
  mj_lt ((f 7 50)) (fun u_2 =>
  if u_2 = (5 : Int32) then
   mj_lt (g_X7_faults (3 : Int32) f) (fun o_3 =>
   some ((o_3.1, o_3.2)))
  else
   (g_X7_nextToken f).bind (fun o_4 =>
   mj_lt (g_X7_isNumber (0 : Int32) (31 : Int32) o_4) (fun o_5 =>
   if o_5.1 = 0 then
    some (((0 : Int32), o_5.2))
   else
    (g_X7_isTaken (o_5.2 0 12) o_5.2).bind (fun o_6 =>
    if o_6 = 0 then
     g_X7_readCloud_54 x1 u_2 o_5.2
    else
     mj_lt (g_X7_faults (2 : Int32) o_5.2) (fun o_7 =>
     if o_7.1 = 0 then
      some (((0 : Int32), o_7.2))
     else
      g_X7_readCloud_54 x1 u_2 o_7.2)))))
theorem r_X7_readCloud {x1 : Int32} {f : mj_I} {g : mj_L} {o : Int32 × mj_I} (hg : g_X7_readCloud x1 f = some o) : mj_Sp jX7_readCloud my_S [.ref 0, .int x1] f g (fun v f' g' => some (.int o.1) = v ∧ o.2 = f' ∧ g = g' ∧ mj_b (o.1) = true) := by
  refine mj_sp 1 (by decide +kernel) rfl rfl (fun _ _ => Nat.le_of_ble_eq_true rfl) ?_
  show mj_Ev jX7_readCloud 0 [some (.ref 0), some (.int x1), none] [] my_S f g _
  unfold g_X7_readCloud at hg
  refine ev_aload_n (q := 1) dX7_readCloud_0 rfl rfl ?_
  refine ev_getfR (q := 4) mw_f_RX7_28 rfl rfl dX7_readCloud_1 rfl ?_
  refine ev_bipush (v := 50) (q := 6) dX7_readCloud_4 mcb_50 rfl ?_
  refine ev_ialdk (k := 50) (q := 7) rfl (by decide) mcx_50 dX7_readCloud_6 rfl ?_
  refine ev_nmi (fun u_2 hu_2 => ?_)
  have hg := mj_lt_el hu_2 hg
  refine ev_istore_n (q := 8) (loc' := [some (.ref _), some (.int _), some (.int _)]) dX7_readCloud_7 (by decide) rfl rfl ?_
  refine ev_iload_n (q := 9) dX7_readCloud_8 rfl rfl ?_
  refine ev_iconst (v := 5) (q := 10) dX7_readCloud_9 mci_5 rfl ?_
  refine ev_icmp_ne (t := 19) (q := 13) dX7_readCloud_10 rfl rfl hg (fun hg => ?_) (fun hg => ?_)
  · refine ev_aload_n (q := 14) dX7_readCloud_13 rfl rfl ?_
    refine ev_iconst (v := 3) (q := 15) dX7_readCloud_14 mci_3 rfl ?_
    obtain ⟨o_3, ho_3, hg⟩ := mj_lte hg
    refine ev_callV (q := 18) kX7_faults mw_i_X7_faults mw_s_X7_faults mw_m_RX7_114 rfl rfl (r_X7_faults ho_3) rfl rfl (Nat.le_of_ble_eq_true rfl) (by decide) dX7_readCloud_15 rfl (fun v fv gv hp => ?_)
    obtain ⟨rfl, rfl, rfl, hr_3⟩ := hp
    obtain rfl := Option.some.inj hg
    exact ev_zret dX7_readCloud_18 rfl (hr_3) ⟨rfl, rfl, rfl, (hr_3)⟩
  · refine ev_aload_n (q := 20) dX7_readCloud_19 rfl rfl ?_
    obtain ⟨o_4, ho_4, hg⟩ := mj_bd hg
    refine ev_callV (q := 23) kX7_nextToken mw_i_X7_nextToken mw_s_X7_nextToken mw_m_RX7_117 rfl rfl (r_X7_nextToken ho_4) rfl rfl (Nat.le_of_ble_eq_true rfl) (by decide) dX7_readCloud_20 rfl (fun v fv gv hp => ?_)
    obtain ⟨rfl, rfl, rfl⟩ := hp
    refine ev_aload_n (q := 24) dX7_readCloud_23 rfl rfl ?_
    refine ev_iconst (v := 0) (q := 25) dX7_readCloud_24 mci_0 rfl ?_
    refine ev_bipush (v := 31) (q := 27) dX7_readCloud_25 mcb_31 rfl ?_
    obtain ⟨o_5, ho_5, hg⟩ := mj_lte hg
    refine ev_callV (q := 30) kX7_isNumber mw_i_X7_isNumber mw_s_X7_isNumber mw_m_RX7_123 rfl rfl (r_X7_isNumber ho_5) rfl rfl (Nat.le_of_ble_eq_true rfl) (by decide) dX7_readCloud_27 rfl (fun v fv gv hp => ?_)
    obtain ⟨rfl, rfl, rfl, hr_5⟩ := hp
    refine ev_if_eq (t := 52) (q := 33) dX7_readCloud_30 rfl rfl hg (fun hg => ?_) (fun hg => ?_)
    · refine ev_iconst (v := 0) (q := 53) dX7_readCloud_52 mci_0 rfl ?_
      obtain rfl := Option.some.inj hg
      exact ev_zret dX7_readCloud_53 rfl (mcz_0) ⟨rfl, rfl, rfl, (mcz_0)⟩
    · refine ev_aload_n (q := 34) dX7_readCloud_33 rfl rfl ?_
      refine ev_aload_n (q := 35) dX7_readCloud_34 rfl rfl ?_
      refine ev_getfI (q := 38) mw_f_RX7_97 (by decide) (by decide) rfl dX7_readCloud_35 rfl ?_
      obtain ⟨o_6, ho_6, hg⟩ := mj_bd hg
      refine ev_callV (q := 41) kX7_isTaken mw_i_X7_isTaken mw_s_X7_isTaken mw_m_RX7_131 rfl rfl (r_X7_isTaken ho_6) rfl rfl (Nat.le_of_ble_eq_true rfl) (by decide) dX7_readCloud_38 rfl (fun v fv gv hp => ?_)
      obtain ⟨rfl, rfl, rfl, hr_6⟩ := hp
      refine ev_if_eq (t := 54) (q := 44) dX7_readCloud_41 rfl rfl hg (fun hg => ?_) (fun hg => ?_)
      · exact r_X7_readCloud_54 _ _ _ _ hg
      · refine ev_aload_n (q := 45) dX7_readCloud_44 rfl rfl ?_
        refine ev_iconst (v := 2) (q := 46) dX7_readCloud_45 mci_2 rfl ?_
        obtain ⟨o_7, ho_7, hg⟩ := mj_lte hg
        refine ev_callV (q := 49) kX7_faults mw_i_X7_faults mw_s_X7_faults mw_m_RX7_114 rfl rfl (r_X7_faults ho_7) rfl rfl (Nat.le_of_ble_eq_true rfl) (by decide) dX7_readCloud_46 rfl (fun v fv gv hp => ?_)
        obtain ⟨rfl, rfl, rfl, hr_7⟩ := hp
        refine ev_if_ne (t := 54) (q := 52) dX7_readCloud_49 rfl rfl hg (fun hg => ?_) (fun hg => ?_)
        · refine ev_iconst (v := 0) (q := 53) dX7_readCloud_52 mci_0 rfl ?_
          obtain rfl := Option.some.inj hg
          exact ev_zret dX7_readCloud_53 rfl (mcz_0) ⟨rfl, rfl, rfl, (mcz_0)⟩
        · exact r_X7_readCloud_54 _ _ _ _ hg
def g_X7_readHerd_7 : Nat → Int32 → mj_I → Option (mj_I)
  | 0, _, _ => none
  | n + 1, x1, f =>
    if x1 < (82 : Int32) then
     if mj_in x1 82 = true then
     mj_lt (mj_wr f 7 (ix x1) (0 : Int32)) (fun f_9 =>
      g_X7_readHerd_7 n (x1 + (1 : Int32)) f_9)
     else none
    else
     some (f)
theorem r_X7_readHerd_7 {g : mj_L} {post : Option Value → mj_I → mj_L → Prop} : ∀ (n : Nat) (x1 : Int32) (f : mj_I) (o : mj_I), g_X7_readHerd_7 n x1 f = some o → mj_Ev jX7_readHerd 26 [some (.ref 0), none, none, none] [] my_S o g post → mj_Ev jX7_readHerd 7 [some (.ref 0), some (.int x1), none, none] [] my_S f g post := by
  intro n
  induction n with
  | zero =>
    intro x1 f o hg hk
    cases hg
  | succ n ih =>
    intro x1 f o hg hk
    unfold g_X7_readHerd_7 at hg
    refine ev_iload_n (q := 8) dX7_readHerd_7 rfl rfl ?_
    refine ev_bipush (v := 82) (q := 10) dX7_readHerd_8 mcb_82 rfl ?_
    refine ev_icmp_ge (t := 26) (q := 13) dX7_readHerd_10 rfl rfl hg (fun hg => ?_) (fun hg => ?_)
    · refine ev_aload_n (q := 14) dX7_readHerd_13 rfl rfl ?_
      refine ev_getfR (q := 17) mw_f_RX7_28 rfl rfl dX7_readHerd_14 rfl ?_
      refine ev_iload_n (q := 18) dX7_readHerd_17 rfl rfl ?_
      refine ev_iconst (v := 0) (q := 19) dX7_readHerd_18 mci_0 rfl ?_
      obtain ⟨hi_9, hg⟩ := mj_gd hg
      refine ev_iastk (q := 20) rfl hi_9 rfl dX7_readHerd_19 rfl ?_
      refine ev_nmf (fun f_9 hf_9 => ?_)
      have hg := mj_lt_el hf_9 hg
      refine ev_iinc (v := 1) (q := 23) (loc' := [some (.ref _), some (.int _), none, none]) dX7_readHerd_20 rfl (by decide) mci_1 rfl rfl ?_
      refine ev_goto (q := 7) dX7_readHerd_23 rfl ?_
      exact ih _ _ _ hg hk
    · obtain rfl := Option.some.inj hg
      refine ev_wk (loc' := [some (.ref _), none, none, none]) ⟨rfl, trivial⟩ ?_
      exact hk
def g_X7_readHerd_204 (rec : Int32 → mj_I → Option (Int32 × mj_I)) (x3 : Int32) (f : mj_I) : Option (Int32 × mj_I) :=
  if 0 < x3 then
   (g_X7_readCloud x3 f).bind (fun o_20 =>
   rec o_20.1 o_20.2)
  else
   mj_lt (g_X7_faults (1 : Int32) f) (fun o_21 =>
   rec o_21.1 o_21.2)
theorem r_X7_readHerd_204 {g : mj_L} {post : Option Value → mj_I → mj_L → Prop} {rec : Int32 → mj_I → Option (Int32 × mj_I)} (hrec : ∀ (x1 : Int32) (f : mj_I) (o : Int32 × mj_I), rec x1 f = some o → mj_Ev jX7_readHerd 225 [none, some (.int o.1), none, none] [] my_S o.2 g post → mj_Ev jX7_readHerd 62 [some (.ref 0), some (.int x1), none, none] [] my_S f g post) : ∀ (x3 : Int32) (f : mj_I) (o : Int32 × mj_I), g_X7_readHerd_204 rec x3 f = some o → mj_Ev jX7_readHerd 225 [none, some (.int o.1), none, none] [] my_S o.2 g post → mj_Ev jX7_readHerd 204 [some (.ref 0), none, none, some (.int x3)] [] my_S f g post := by
  intro x3 f o hg hk
  unfold g_X7_readHerd_204 at hg
  refine ev_iload_n (q := 205) dX7_readHerd_204 rfl rfl ?_
  refine ev_if_le (t := 216) (q := 208) dX7_readHerd_205 rfl rfl hg (fun hg => ?_) (fun hg => ?_)
  · refine ev_aload_n (q := 209) dX7_readHerd_208 rfl rfl ?_
    refine ev_iload_n (q := 210) dX7_readHerd_209 rfl rfl ?_
    obtain ⟨o_20, ho_20, hg⟩ := mj_bd hg
    refine ev_callV (q := 213) kX7_readCloud mw_i_X7_readCloud mw_s_X7_readCloud mw_m_RX7_144 rfl rfl (r_X7_readCloud ho_20) rfl rfl (Nat.le_of_ble_eq_true rfl) (by decide) dX7_readHerd_210 rfl (fun v fv gv hp => ?_)
    obtain ⟨rfl, rfl, rfl, hr_20⟩ := hp
    refine ev_goto (q := 221) dX7_readHerd_213 rfl ?_
    refine ev_istore_n (q := 222) (loc' := [some (.ref _), some (.int _), none, some (.int _)]) dX7_readHerd_221 (by decide) rfl rfl ?_
    refine ev_goto (q := 62) dX7_readHerd_222 rfl ?_
    refine ev_wk (loc' := [some (.ref _), some (.int _), none, none]) ⟨rfl, rfl, trivial⟩ ?_
    exact hrec _ _ _ hg hk
  · refine ev_aload_n (q := 217) dX7_readHerd_216 rfl rfl ?_
    refine ev_iconst (v := 1) (q := 218) dX7_readHerd_217 mci_1 rfl ?_
    obtain ⟨o_21, ho_21, hg⟩ := mj_lte hg
    refine ev_callV (q := 221) kX7_faults mw_i_X7_faults mw_s_X7_faults mw_m_RX7_114 rfl rfl (r_X7_faults ho_21) rfl rfl (Nat.le_of_ble_eq_true rfl) (by decide) dX7_readHerd_218 rfl (fun v fv gv hp => ?_)
    obtain ⟨rfl, rfl, rfl, hr_21⟩ := hp
    refine ev_istore_n (q := 222) (loc' := [some (.ref _), some (.int _), none, some (.int _)]) dX7_readHerd_221 (by decide) rfl rfl ?_
    refine ev_goto (q := 62) dX7_readHerd_222 rfl ?_
    refine ev_wk (loc' := [some (.ref _), some (.int _), none, none]) ⟨rfl, rfl, trivial⟩ ?_
    exact hrec _ _ _ hg hk
def g_X7_readHerd_181 (rec : Int32 → mj_I → Option (Int32 × mj_I)) (x2 : Int32) (s0 : Int32) (f : mj_I) : Option (Int32 × mj_I) :=
  if 0 < x2 then
   if (f 7 50) = 0 then
    (g_X7_readParish x2 f).bind (fun o_19 =>
    rec o_19.1 o_19.2)
   else
    g_X7_readHerd_204 (rec) s0 f
  else
   g_X7_readHerd_204 (rec) s0 f
theorem r_X7_readHerd_181 {g : mj_L} {post : Option Value → mj_I → mj_L → Prop} {rec : Int32 → mj_I → Option (Int32 × mj_I)} (hrec : ∀ (x1 : Int32) (f : mj_I) (o : Int32 × mj_I), rec x1 f = some o → mj_Ev jX7_readHerd 225 [none, some (.int o.1), none, none] [] my_S o.2 g post → mj_Ev jX7_readHerd 62 [some (.ref 0), some (.int x1), none, none] [] my_S f g post) : ∀ (x2 : Int32) (s0 : Int32) (f : mj_I) (o : Int32 × mj_I), g_X7_readHerd_181 rec x2 s0 f = some o → mj_Ev jX7_readHerd 225 [none, some (.int o.1), none, none] [] my_S o.2 g post → mj_Ev jX7_readHerd 181 [some (.ref 0), none, some (.int x2), none] [.int s0] my_S f g post := by
  intro x2 s0 f o hg hk
  unfold g_X7_readHerd_181 at hg
  refine ev_istore_n (q := 182) (loc' := [some (.ref _), none, some (.int _), some (.int _)]) dX7_readHerd_181 (by decide) rfl rfl ?_
  refine ev_iload_n (q := 183) dX7_readHerd_182 rfl rfl ?_
  refine ev_if_le (t := 204) (q := 186) dX7_readHerd_183 rfl rfl hg (fun hg => ?_) (fun hg => ?_)
  · refine ev_aload_n (q := 187) dX7_readHerd_186 rfl rfl ?_
    refine ev_getfR (q := 190) mw_f_RX7_28 rfl rfl dX7_readHerd_187 rfl ?_
    refine ev_bipush (v := 50) (q := 192) dX7_readHerd_190 mcb_50 rfl ?_
    refine ev_ialdk (k := 50) (q := 193) rfl (by decide) mcx_50 dX7_readHerd_192 rfl ?_
    refine ev_if_ne (t := 204) (q := 196) dX7_readHerd_193 rfl rfl hg (fun hg => ?_) (fun hg => ?_)
    · refine ev_aload_n (q := 197) dX7_readHerd_196 rfl rfl ?_
      refine ev_iload_n (q := 198) dX7_readHerd_197 rfl rfl ?_
      obtain ⟨o_19, ho_19, hg⟩ := mj_bd hg
      refine ev_callV (q := 201) kX7_readParish mw_i_X7_readParish mw_s_X7_readParish mw_m_RX7_141 rfl rfl (r_X7_readParish ho_19) rfl rfl (Nat.le_of_ble_eq_true rfl) (by decide) dX7_readHerd_198 rfl (fun v fv gv hp => ?_)
      obtain ⟨rfl, rfl, rfl, hr_19⟩ := hp
      refine ev_goto (q := 221) dX7_readHerd_201 rfl ?_
      refine ev_istore_n (q := 222) (loc' := [some (.ref _), some (.int _), some (.int _), some (.int _)]) dX7_readHerd_221 (by decide) rfl rfl ?_
      refine ev_goto (q := 62) dX7_readHerd_222 rfl ?_
      refine ev_wk (loc' := [some (.ref _), some (.int _), none, none]) ⟨rfl, rfl, trivial⟩ ?_
      exact hrec _ _ _ hg hk
    · refine ev_wk (loc' := [some (.ref _), none, none, some (.int _)]) ⟨rfl, rfl, trivial⟩ ?_
      exact r_X7_readHerd_204 hrec _ _ _ hg hk
  · refine ev_wk (loc' := [some (.ref _), none, none, some (.int _)]) ⟨rfl, rfl, trivial⟩ ?_
    exact r_X7_readHerd_204 hrec _ _ _ hg hk
def g_X7_readHerd_114 (rec : Int32 → mj_I → Option (Int32 × mj_I)) (s0 : Int32) (f : mj_I) : Option (Int32 × mj_I) :=
  if (g_X7_isLetter (97 : Int32) f) = 0 then
   if (g_X7_isLetter (112 : Int32) f) = 0 then
    if (g_X7_isLetter (98 : Int32) f) = 0 then
     if (g_X7_isLetter (103 : Int32) f) = 0 then
      if (g_X7_isLetter (121 : Int32) f) = 0 then
       g_X7_readHerd_181 (rec) s0 (0 : Int32) f
      else
       g_X7_readHerd_181 (rec) s0 (5 : Int32) f
     else
      g_X7_readHerd_181 (rec) s0 (4 : Int32) f
    else
     g_X7_readHerd_181 (rec) s0 (3 : Int32) f
   else
    g_X7_readHerd_181 (rec) s0 (2 : Int32) f
  else
   g_X7_readHerd_181 (rec) s0 (1 : Int32) f
theorem r_X7_readHerd_114 {g : mj_L} {post : Option Value → mj_I → mj_L → Prop} {rec : Int32 → mj_I → Option (Int32 × mj_I)} (hrec : ∀ (x1 : Int32) (f : mj_I) (o : Int32 × mj_I), rec x1 f = some o → mj_Ev jX7_readHerd 225 [none, some (.int o.1), none, none] [] my_S o.2 g post → mj_Ev jX7_readHerd 62 [some (.ref 0), some (.int x1), none, none] [] my_S f g post) : ∀ (s0 : Int32) (f : mj_I) (o : Int32 × mj_I), g_X7_readHerd_114 rec s0 f = some o → mj_Ev jX7_readHerd 225 [none, some (.int o.1), none, none] [] my_S o.2 g post → mj_Ev jX7_readHerd 114 [some (.ref 0), none, none, none] [.int s0] my_S f g post := by
  intro s0 f o hg hk
  unfold g_X7_readHerd_114 at hg
  refine ev_istore_n (q := 115) (loc' := [some (.ref _), none, some (.int _), none]) dX7_readHerd_114 (by decide) rfl rfl ?_
  refine ev_aload_n (q := 116) dX7_readHerd_115 rfl rfl ?_
  refine ev_bipush (v := 97) (q := 118) dX7_readHerd_116 mcb_97 rfl ?_
  refine ev_callV (q := 121) kX7_isLetter mw_i_X7_isLetter mw_s_X7_isLetter mw_m_RX7_111 rfl rfl (r_X7_isLetter rfl) rfl rfl (Nat.le_of_ble_eq_true rfl) (by decide) dX7_readHerd_118 rfl (fun v fv gv hp => ?_)
  obtain ⟨rfl, rfl, rfl, hr_13⟩ := hp
  refine ev_if_eq (t := 128) (q := 124) dX7_readHerd_121 rfl rfl hg (fun hg => ?_) (fun hg => ?_)
  · refine ev_aload_n (q := 129) dX7_readHerd_128 rfl rfl ?_
    refine ev_bipush (v := 112) (q := 131) dX7_readHerd_129 mcb_112 rfl ?_
    refine ev_callV (q := 134) kX7_isLetter mw_i_X7_isLetter mw_s_X7_isLetter mw_m_RX7_111 rfl rfl (r_X7_isLetter rfl) rfl rfl (Nat.le_of_ble_eq_true rfl) (by decide) dX7_readHerd_131 rfl (fun v fv gv hp => ?_)
    obtain ⟨rfl, rfl, rfl, hr_14⟩ := hp
    refine ev_if_eq (t := 141) (q := 137) dX7_readHerd_134 rfl rfl hg (fun hg => ?_) (fun hg => ?_)
    · refine ev_aload_n (q := 142) dX7_readHerd_141 rfl rfl ?_
      refine ev_bipush (v := 98) (q := 144) dX7_readHerd_142 mcb_98 rfl ?_
      refine ev_callV (q := 147) kX7_isLetter mw_i_X7_isLetter mw_s_X7_isLetter mw_m_RX7_111 rfl rfl (r_X7_isLetter rfl) rfl rfl (Nat.le_of_ble_eq_true rfl) (by decide) dX7_readHerd_144 rfl (fun v fv gv hp => ?_)
      obtain ⟨rfl, rfl, rfl, hr_15⟩ := hp
      refine ev_if_eq (t := 154) (q := 150) dX7_readHerd_147 rfl rfl hg (fun hg => ?_) (fun hg => ?_)
      · refine ev_aload_n (q := 155) dX7_readHerd_154 rfl rfl ?_
        refine ev_bipush (v := 103) (q := 157) dX7_readHerd_155 mcb_103 rfl ?_
        refine ev_callV (q := 160) kX7_isLetter mw_i_X7_isLetter mw_s_X7_isLetter mw_m_RX7_111 rfl rfl (r_X7_isLetter rfl) rfl rfl (Nat.le_of_ble_eq_true rfl) (by decide) dX7_readHerd_157 rfl (fun v fv gv hp => ?_)
        obtain ⟨rfl, rfl, rfl, hr_16⟩ := hp
        refine ev_if_eq (t := 167) (q := 163) dX7_readHerd_160 rfl rfl hg (fun hg => ?_) (fun hg => ?_)
        · refine ev_aload_n (q := 168) dX7_readHerd_167 rfl rfl ?_
          refine ev_bipush (v := 121) (q := 170) dX7_readHerd_168 mcb_121 rfl ?_
          refine ev_callV (q := 173) kX7_isLetter mw_i_X7_isLetter mw_s_X7_isLetter mw_m_RX7_111 rfl rfl (r_X7_isLetter rfl) rfl rfl (Nat.le_of_ble_eq_true rfl) (by decide) dX7_readHerd_170 rfl (fun v fv gv hp => ?_)
          obtain ⟨rfl, rfl, rfl, hr_17⟩ := hp
          refine ev_if_eq (t := 180) (q := 176) dX7_readHerd_173 rfl rfl hg (fun hg => ?_) (fun hg => ?_)
          · refine ev_iconst (v := 0) (q := 181) dX7_readHerd_180 mci_0 rfl ?_
            exact r_X7_readHerd_181 hrec _ _ _ _ hg hk
          · refine ev_iconst (v := 5) (q := 177) dX7_readHerd_176 mci_5 rfl ?_
            refine ev_goto (q := 181) dX7_readHerd_177 rfl ?_
            exact r_X7_readHerd_181 hrec _ _ _ _ hg hk
        · refine ev_iconst (v := 4) (q := 164) dX7_readHerd_163 mci_4 rfl ?_
          refine ev_goto (q := 181) dX7_readHerd_164 rfl ?_
          exact r_X7_readHerd_181 hrec _ _ _ _ hg hk
      · refine ev_iconst (v := 3) (q := 151) dX7_readHerd_150 mci_3 rfl ?_
        refine ev_goto (q := 181) dX7_readHerd_151 rfl ?_
        exact r_X7_readHerd_181 hrec _ _ _ _ hg hk
    · refine ev_iconst (v := 2) (q := 138) dX7_readHerd_137 mci_2 rfl ?_
      refine ev_goto (q := 181) dX7_readHerd_138 rfl ?_
      exact r_X7_readHerd_181 hrec _ _ _ _ hg hk
  · refine ev_iconst (v := 1) (q := 125) dX7_readHerd_124 mci_1 rfl ?_
    refine ev_goto (q := 181) dX7_readHerd_125 rfl ?_
    exact r_X7_readHerd_181 hrec _ _ _ _ hg hk
def g_X7_readHerd_62 : Nat → Int32 → mj_I → Option (Int32 × mj_I)
  | 0, _, _ => none
  | n + 1, x1, f =>
    if x1 = 0 then
     some ((x1, f))
    else
     if (f 0 11) = (3 : Int32) then
      some ((x1, f))
     else
      if (g_X7_isLetter (102 : Int32) f) = 0 then
       if (g_X7_isLetter (104 : Int32) f) = 0 then
        if (g_X7_isLetter (109 : Int32) f) = 0 then
         g_X7_readHerd_114 (g_X7_readHerd_62 n) (0 : Int32) f
        else
         g_X7_readHerd_114 (g_X7_readHerd_62 n) (3 : Int32) f
       else
        g_X7_readHerd_114 (g_X7_readHerd_62 n) (2 : Int32) f
      else
       g_X7_readHerd_114 (g_X7_readHerd_62 n) (1 : Int32) f
theorem r_X7_readHerd_62 {g : mj_L} {post : Option Value → mj_I → mj_L → Prop} : ∀ (n : Nat) (x1 : Int32) (f : mj_I) (o : Int32 × mj_I), g_X7_readHerd_62 n x1 f = some o → mj_Ev jX7_readHerd 225 [none, some (.int o.1), none, none] [] my_S o.2 g post → mj_Ev jX7_readHerd 62 [some (.ref 0), some (.int x1), none, none] [] my_S f g post := by
  intro n
  induction n with
  | zero =>
    intro x1 f o hg hk
    cases hg
  | succ n ih =>
    intro x1 f o hg hk
    unfold g_X7_readHerd_62 at hg
    refine ev_iload_n (q := 63) dX7_readHerd_62 rfl rfl ?_
    refine ev_if_eq (t := 225) (q := 66) dX7_readHerd_63 rfl rfl hg (fun hg => ?_) (fun hg => ?_)
    · obtain rfl := Option.some.inj hg
      refine ev_wk (loc' := [none, some (.int _), none, none]) ⟨rfl, trivial⟩ ?_
      exact hk
    · refine ev_aload_n (q := 67) dX7_readHerd_66 rfl rfl ?_
      refine ev_getfI (q := 70) mw_f_RX7_94 (by decide) (by decide) rfl dX7_readHerd_67 rfl ?_
      refine ev_iconst (v := 3) (q := 71) dX7_readHerd_70 mci_3 rfl ?_
      refine ev_icmp_eq (t := 225) (q := 74) dX7_readHerd_71 rfl rfl hg (fun hg => ?_) (fun hg => ?_)
      · obtain rfl := Option.some.inj hg
        refine ev_wk (loc' := [none, some (.int _), none, none]) ⟨rfl, trivial⟩ ?_
        exact hk
      · refine ev_aload_n (q := 75) dX7_readHerd_74 rfl rfl ?_
        refine ev_bipush (v := 102) (q := 77) dX7_readHerd_75 mcb_102 rfl ?_
        refine ev_callV (q := 80) kX7_isLetter mw_i_X7_isLetter mw_s_X7_isLetter mw_m_RX7_111 rfl rfl (r_X7_isLetter rfl) rfl rfl (Nat.le_of_ble_eq_true rfl) (by decide) dX7_readHerd_77 rfl (fun v fv gv hp => ?_)
        obtain ⟨rfl, rfl, rfl, hr_10⟩ := hp
        refine ev_if_eq (t := 87) (q := 83) dX7_readHerd_80 rfl rfl hg (fun hg => ?_) (fun hg => ?_)
        · refine ev_aload_n (q := 88) dX7_readHerd_87 rfl rfl ?_
          refine ev_bipush (v := 104) (q := 90) dX7_readHerd_88 mcb_104 rfl ?_
          refine ev_callV (q := 93) kX7_isLetter mw_i_X7_isLetter mw_s_X7_isLetter mw_m_RX7_111 rfl rfl (r_X7_isLetter rfl) rfl rfl (Nat.le_of_ble_eq_true rfl) (by decide) dX7_readHerd_90 rfl (fun v fv gv hp => ?_)
          obtain ⟨rfl, rfl, rfl, hr_11⟩ := hp
          refine ev_if_eq (t := 100) (q := 96) dX7_readHerd_93 rfl rfl hg (fun hg => ?_) (fun hg => ?_)
          · refine ev_aload_n (q := 101) dX7_readHerd_100 rfl rfl ?_
            refine ev_bipush (v := 109) (q := 103) dX7_readHerd_101 mcb_109 rfl ?_
            refine ev_callV (q := 106) kX7_isLetter mw_i_X7_isLetter mw_s_X7_isLetter mw_m_RX7_111 rfl rfl (r_X7_isLetter rfl) rfl rfl (Nat.le_of_ble_eq_true rfl) (by decide) dX7_readHerd_103 rfl (fun v fv gv hp => ?_)
            obtain ⟨rfl, rfl, rfl, hr_12⟩ := hp
            refine ev_if_eq (t := 113) (q := 109) dX7_readHerd_106 rfl rfl hg (fun hg => ?_) (fun hg => ?_)
            · refine ev_iconst (v := 0) (q := 114) dX7_readHerd_113 mci_0 rfl ?_
              refine ev_wk (loc' := [some (.ref _), none, none, none]) ⟨rfl, trivial⟩ ?_
              exact r_X7_readHerd_114 ih _ _ _ hg hk
            · refine ev_iconst (v := 3) (q := 110) dX7_readHerd_109 mci_3 rfl ?_
              refine ev_goto (q := 114) dX7_readHerd_110 rfl ?_
              refine ev_wk (loc' := [some (.ref _), none, none, none]) ⟨rfl, trivial⟩ ?_
              exact r_X7_readHerd_114 ih _ _ _ hg hk
          · refine ev_iconst (v := 2) (q := 97) dX7_readHerd_96 mci_2 rfl ?_
            refine ev_goto (q := 114) dX7_readHerd_97 rfl ?_
            refine ev_wk (loc' := [some (.ref _), none, none, none]) ⟨rfl, trivial⟩ ?_
            exact r_X7_readHerd_114 ih _ _ _ hg hk
        · refine ev_iconst (v := 1) (q := 84) dX7_readHerd_83 mci_1 rfl ?_
          refine ev_goto (q := 114) dX7_readHerd_84 rfl ?_
          refine ev_wk (loc' := [some (.ref _), none, none, none]) ⟨rfl, trivial⟩ ?_
          exact r_X7_readHerd_114 ih _ _ _ hg hk
def g_X7_readHerd (f : mj_I) : Option (Int32 × mj_I) :=
  mj_lt (mj_wr f 0 10 (0 : Int32)) (fun f_1 =>
  (g_X7_readHerd_7 mj_fuel (0 : Int32) f_1).bind (fun q_2 =>
  (g_X7_nextToken q_2).bind (fun o_3 =>
  (g_X7_readLaw o_3).bind (fun o_4 =>
  if o_4.1 = 0 then
   some (((0 : Int32), o_4.2))
  else
   (g_X7_readWind (108 : Int32) (0 : Int32) o_4.2).bind (fun o_5 =>
   if o_5.1 = 0 then
    some (((0 : Int32), o_5.2))
   else
    (g_X7_readWind (117 : Int32) (6 : Int32) o_5.2).bind (fun o_6 =>
    if o_6.1 = 0 then
     some (((0 : Int32), o_6.2))
    else
     (g_X7_readHerd_62 mj_fuel (1 : Int32) o_6.2).bind (fun q_7 =>
     if mj_b q_7.1 = true then
     some ((q_7.1, q_7.2))
     else none)))))))
theorem r_X7_readHerd {f : mj_I} {g : mj_L} {o : Int32 × mj_I} (hg : g_X7_readHerd f = some o) : mj_Sp jX7_readHerd my_S [.ref 0] f g (fun v f' g' => some (.int o.1) = v ∧ o.2 = f' ∧ g = g' ∧ mj_b (o.1) = true) := by
  refine mj_sp 3 (by decide +kernel) rfl rfl (fun _ _ => Nat.le_of_ble_eq_true rfl) ?_
  show mj_Ev jX7_readHerd 0 [some (.ref 0), none, none, none] [] my_S f g _
  unfold g_X7_readHerd at hg
  refine ev_aload_n (q := 1) dX7_readHerd_0 rfl rfl ?_
  refine ev_iconst (v := 0) (q := 2) dX7_readHerd_1 mci_0 rfl ?_
  refine ev_putfI (q := 5) mw_f_RX7_88 rfl dX7_readHerd_2 rfl ?_
  refine ev_nmf (fun f_1 hf_1 => ?_)
  have hg := mj_lt_el hf_1 hg
  refine ev_iconst (v := 0) (q := 6) dX7_readHerd_5 mci_0 rfl ?_
  refine ev_istore_n (q := 7) (loc' := [some (.ref _), some (.int _), none, none]) dX7_readHerd_6 (by decide) rfl rfl ?_
  obtain ⟨q_2, hq_2, hg⟩ := mj_bd hg
  refine r_X7_readHerd_7 mj_fuel _ _ _ hq_2 ?_
  refine ev_aload_n (q := 27) dX7_readHerd_26 rfl rfl ?_
  obtain ⟨o_3, ho_3, hg⟩ := mj_bd hg
  refine ev_callV (q := 30) kX7_nextToken mw_i_X7_nextToken mw_s_X7_nextToken mw_m_RX7_117 rfl rfl (r_X7_nextToken ho_3) rfl rfl (Nat.le_of_ble_eq_true rfl) (by decide) dX7_readHerd_27 rfl (fun v fv gv hp => ?_)
  obtain ⟨rfl, rfl, rfl⟩ := hp
  refine ev_aload_n (q := 31) dX7_readHerd_30 rfl rfl ?_
  obtain ⟨o_4, ho_4, hg⟩ := mj_bd hg
  refine ev_callV (q := 34) kX7_readLaw mw_i_X7_readLaw mw_s_X7_readLaw mw_m_RX7_134 rfl rfl (r_X7_readLaw ho_4) rfl rfl (Nat.le_of_ble_eq_true rfl) (by decide) dX7_readHerd_31 rfl (fun v fv gv hp => ?_)
  obtain ⟨rfl, rfl, rfl, hr_4⟩ := hp
  refine ev_if_eq (t := 58) (q := 37) dX7_readHerd_34 rfl rfl hg (fun hg => ?_) (fun hg => ?_)
  · refine ev_iconst (v := 0) (q := 59) dX7_readHerd_58 mci_0 rfl ?_
    obtain rfl := Option.some.inj hg
    exact ev_zret dX7_readHerd_59 rfl (mcz_0) ⟨rfl, rfl, rfl, (mcz_0)⟩
  · refine ev_aload_n (q := 38) dX7_readHerd_37 rfl rfl ?_
    refine ev_bipush (v := 108) (q := 40) dX7_readHerd_38 mcb_108 rfl ?_
    refine ev_iconst (v := 0) (q := 41) dX7_readHerd_40 mci_0 rfl ?_
    obtain ⟨o_5, ho_5, hg⟩ := mj_bd hg
    refine ev_callV (q := 44) kX7_readWind mw_i_X7_readWind mw_s_X7_readWind mw_m_RX7_138 rfl rfl (r_X7_readWind ho_5) rfl rfl (Nat.le_of_ble_eq_true rfl) (by decide) dX7_readHerd_41 rfl (fun v fv gv hp => ?_)
    obtain ⟨rfl, rfl, rfl, hr_5⟩ := hp
    refine ev_if_eq (t := 58) (q := 47) dX7_readHerd_44 rfl rfl hg (fun hg => ?_) (fun hg => ?_)
    · refine ev_iconst (v := 0) (q := 59) dX7_readHerd_58 mci_0 rfl ?_
      obtain rfl := Option.some.inj hg
      exact ev_zret dX7_readHerd_59 rfl (mcz_0) ⟨rfl, rfl, rfl, (mcz_0)⟩
    · refine ev_aload_n (q := 48) dX7_readHerd_47 rfl rfl ?_
      refine ev_bipush (v := 117) (q := 50) dX7_readHerd_48 mcb_117 rfl ?_
      refine ev_bipush (v := 6) (q := 52) dX7_readHerd_50 mcb_6 rfl ?_
      obtain ⟨o_6, ho_6, hg⟩ := mj_bd hg
      refine ev_callV (q := 55) kX7_readWind mw_i_X7_readWind mw_s_X7_readWind mw_m_RX7_138 rfl rfl (r_X7_readWind ho_6) rfl rfl (Nat.le_of_ble_eq_true rfl) (by decide) dX7_readHerd_52 rfl (fun v fv gv hp => ?_)
      obtain ⟨rfl, rfl, rfl, hr_6⟩ := hp
      refine ev_if_ne (t := 60) (q := 58) dX7_readHerd_55 rfl rfl hg (fun hg => ?_) (fun hg => ?_)
      · refine ev_iconst (v := 0) (q := 59) dX7_readHerd_58 mci_0 rfl ?_
        obtain rfl := Option.some.inj hg
        exact ev_zret dX7_readHerd_59 rfl (mcz_0) ⟨rfl, rfl, rfl, (mcz_0)⟩
      · refine ev_iconst (v := 1) (q := 61) dX7_readHerd_60 mci_1 rfl ?_
        refine ev_istore_n (q := 62) (loc' := [some (.ref _), some (.int _), none, none]) dX7_readHerd_61 (by decide) rfl rfl ?_
        obtain ⟨q_7, hq_7, hg⟩ := mj_bd hg
        refine r_X7_readHerd_62 mj_fuel _ _ _ hq_7 ?_
        refine ev_iload_n (q := 226) dX7_readHerd_225 rfl rfl ?_
        obtain ⟨hb_8, hg⟩ := mj_gd hg
        obtain rfl := Option.some.inj hg
        exact ev_zret dX7_readHerd_226 rfl hb_8 ⟨rfl, rfl, rfl, (hb_8)⟩
def g_X7_herd_32 : Nat → Int32 → mj_I → Option (mj_I)
  | 0, _, _ => none
  | n + 1, x2, f =>
    if x2 < (82 : Int32) then
     if mj_in x2 82 = true then
     if mj_in x2 82 = true then
      mj_lt (mj_wr f 4 (ix x2) (f 7 (ix x2))) (fun f_9 =>
       g_X7_herd_32 n (x2 + (1 : Int32)) f_9)
      else none
     else none
    else
     some (f)
theorem r_X7_herd_32 {g : mj_L} {post : Option Value → mj_I → mj_L → Prop} : ∀ (n : Nat) (x2 : Int32) (f : mj_I) (o : mj_I), g_X7_herd_32 n x2 f = some o → mj_Ev jX7_herd 56 [some (.ref 0), none, none] [] my_S o g post → mj_Ev jX7_herd 32 [some (.ref 0), none, some (.int x2)] [] my_S f g post := by
  intro n
  induction n with
  | zero =>
    intro x2 f o hg hk
    cases hg
  | succ n ih =>
    intro x2 f o hg hk
    unfold g_X7_herd_32 at hg
    refine ev_iload_n (q := 33) dX7_herd_32 rfl rfl ?_
    refine ev_bipush (v := 82) (q := 35) dX7_herd_33 mcb_82 rfl ?_
    refine ev_icmp_ge (t := 56) (q := 38) dX7_herd_35 rfl rfl hg (fun hg => ?_) (fun hg => ?_)
    · refine ev_aload_n (q := 39) dX7_herd_38 rfl rfl ?_
      refine ev_getfR (q := 42) mw_f_RX7_19 rfl rfl dX7_herd_39 rfl ?_
      refine ev_iload_n (q := 43) dX7_herd_42 rfl rfl ?_
      refine ev_aload_n (q := 44) dX7_herd_43 rfl rfl ?_
      refine ev_getfR (q := 47) mw_f_RX7_28 rfl rfl dX7_herd_44 rfl ?_
      refine ev_iload_n (q := 48) dX7_herd_47 rfl rfl ?_
      obtain ⟨hi_8, hg⟩ := mj_gd hg
      refine ev_ialdk (q := 49) rfl hi_8 rfl dX7_herd_48 rfl ?_
      obtain ⟨hi_9, hg⟩ := mj_gd hg
      refine ev_iastk (q := 50) rfl hi_9 rfl dX7_herd_49 rfl ?_
      refine ev_nmf (fun f_9 hf_9 => ?_)
      have hg := mj_lt_el hf_9 hg
      refine ev_iinc (v := 1) (q := 53) (loc' := [some (.ref _), none, some (.int _)]) dX7_herd_50 rfl (by decide) mci_1 rfl rfl ?_
      refine ev_goto (q := 32) dX7_herd_53 rfl ?_
      exact ih _ _ _ hg hk
    · obtain rfl := Option.some.inj hg
      refine ev_wk (loc' := [some (.ref _), none, none]) ⟨rfl, trivial⟩ ?_
      exact hk
def g_X7_herd (f : mj_I) : Option (Int32 × mj_I) :=
  (g_X7_readHerd f).bind (fun o_1 =>
  mj_lt (mj_wr o_1.2 0 8 (0 : Int32)) (fun f_2 =>
  if o_1.1 = 0 then
   mj_lt (mj_wr f_2 0 9 (f_2 0 14)) (fun f_3 =>
   some ((((-1000100 : Int32) - (f_3 0 13)), f_3)))
  else
   (g_X7_herd_32 mj_fuel (0 : Int32) f_2).bind (fun q_4 =>
   mj_lt (mj_wr q_4 0 4 (1 : Int32)) (fun f_5 =>
   mj_lt (mj_wr f_5 0 18 (0 : Int32)) (fun f_6 =>
   some (((f_6 4 50), f_6)))))))
theorem r_X7_herd {f : mj_I} {g : mj_L} {o : Int32 × mj_I} (hg : g_X7_herd f = some o) : mj_Sp jX7_herd my_S [.ref 0] f g (fun v f' g' => some (.int o.1) = v ∧ o.2 = f' ∧ g = g') := by
  refine mj_sp 2 (by decide +kernel) rfl rfl (fun _ _ => Nat.le_of_ble_eq_true rfl) ?_
  show mj_Ev jX7_herd 0 [some (.ref 0), none, none] [] my_S f g _
  unfold g_X7_herd at hg
  refine ev_aload_n (q := 1) dX7_herd_0 rfl rfl ?_
  obtain ⟨o_1, ho_1, hg⟩ := mj_bd hg
  refine ev_callV (q := 4) kX7_readHerd mw_i_X7_readHerd mw_s_X7_readHerd mw_m_RX7_147 rfl rfl (r_X7_readHerd ho_1) rfl rfl (Nat.le_of_ble_eq_true rfl) (by decide) dX7_herd_1 rfl (fun v fv gv hp => ?_)
  obtain ⟨rfl, rfl, rfl, hr_1⟩ := hp
  refine ev_istore_n (q := 5) (loc' := [some (.ref _), some (.int _), none]) dX7_herd_4 (by decide) rfl rfl ?_
  refine ev_aload_n (q := 6) dX7_herd_5 rfl rfl ?_
  refine ev_iconst (v := 0) (q := 7) dX7_herd_6 mci_0 rfl ?_
  refine ev_putfI (q := 10) mw_f_RX7_84 rfl dX7_herd_7 rfl ?_
  refine ev_nmf (fun f_2 hf_2 => ?_)
  have hg := mj_lt_el hf_2 hg
  refine ev_iload_n (q := 11) dX7_herd_10 rfl rfl ?_
  refine ev_if_ne (t := 30) (q := 14) dX7_herd_11 rfl rfl hg (fun hg => ?_) (fun hg => ?_)
  · refine ev_aload_n (q := 15) dX7_herd_14 rfl rfl ?_
    refine ev_aload_n (q := 16) dX7_herd_15 rfl rfl ?_
    refine ev_getfI (q := 19) mw_f_RX7_108 (by decide) (by decide) rfl dX7_herd_16 rfl ?_
    refine ev_putfI (q := 22) mw_f_RX7_150 rfl dX7_herd_19 rfl ?_
    refine ev_nmf (fun f_3 hf_3 => ?_)
    have hg := mj_lt_el hf_3 hg
    refine ev_ldc (q := 24) mw_c_RX7_153 dX7_herd_22 rfl ?_
    refine ev_aload_n (q := 25) dX7_herd_24 rfl rfl ?_
    refine ev_getfI (q := 28) mw_f_RX7_91 (by decide) (by decide) rfl dX7_herd_25 rfl ?_
    refine ev_isub (q := 29) dX7_herd_28 rfl ?_
    obtain rfl := Option.some.inj hg
    exact ev_iret dX7_herd_29 rfl ⟨rfl, rfl, rfl⟩
  · refine ev_iconst (v := 0) (q := 31) dX7_herd_30 mci_0 rfl ?_
    refine ev_istore_n (q := 32) (loc' := [some (.ref _), some (.int _), some (.int _)]) dX7_herd_31 (by decide) rfl rfl ?_
    obtain ⟨q_4, hq_4, hg⟩ := mj_bd hg
    refine ev_wk (loc' := [some (.ref _), none, some (.int _)]) ⟨rfl, rfl, trivial⟩ ?_
    refine r_X7_herd_32 mj_fuel _ _ _ hq_4 ?_
    refine ev_aload_n (q := 57) dX7_herd_56 rfl rfl ?_
    refine ev_iconst (v := 1) (q := 58) dX7_herd_57 mci_1 rfl ?_
    refine ev_putfZ (q := 61) mw_f_RX7_154 rfl (mcz_1) dX7_herd_58 rfl ?_
    refine ev_nmf (fun f_5 hf_5 => ?_)
    have hg := mj_lt_el hf_5 hg
    refine ev_aload_n (q := 62) dX7_herd_61 rfl rfl ?_
    refine ev_iconst (v := 0) (q := 63) dX7_herd_62 mci_0 rfl ?_
    refine ev_putfI (q := 66) mw_f_RX7_158 rfl dX7_herd_63 rfl ?_
    refine ev_nmf (fun f_6 hf_6 => ?_)
    have hg := mj_lt_el hf_6 hg
    refine ev_aload_n (q := 67) dX7_herd_66 rfl rfl ?_
    refine ev_getfR (q := 70) mw_f_RX7_19 rfl rfl dX7_herd_67 rfl ?_
    refine ev_bipush (v := 50) (q := 72) dX7_herd_70 mcb_50 rfl ?_
    refine ev_ialdk (k := 50) (q := 73) rfl (by decide) mcx_50 dX7_herd_72 rfl ?_
    obtain rfl := Option.some.inj hg
    exact ev_iret dX7_herd_73 rfl ⟨rfl, rfl, rfl⟩
def g_X7_fault (f : mj_I) : Int32 :=
  (f 0 9)
theorem r_X7_fault {f : mj_I} {g : mj_L} {o : Int32} (hg : g_X7_fault f = o) : mj_Sp jX7_fault my_S [.ref 0] f g (fun v f' g' => some (.int o) = v ∧ f = f' ∧ g = g') := by
  refine mj_sp 0 (by decide +kernel) rfl rfl (fun _ _ => Nat.le_of_ble_eq_true rfl) ?_
  show mj_Ev jX7_fault 0 [some (.ref 0)] [] my_S f g _
  unfold g_X7_fault at hg
  refine ev_aload_n (q := 1) dX7_fault_0 rfl rfl ?_
  refine ev_getfI (q := 4) mw_f_RX7_150 (by decide) (by decide) rfl dX7_fault_1 rfl ?_
  subst hg
  exact ev_iret dX7_fault_4 rfl ⟨rfl, rfl, rfl⟩
def g_X7_beside (x0 : Int32) (x1 : Int32) : Int32 :=
  mj_lt ((x0 - x0 / (8 : Int32) * (8 : Int32))) (fun u_1 =>
  mj_lt ((x0 / (8 : Int32))) (fun u_2 =>
  if x1 = (1 : Int32) then
   if u_1 < (7 : Int32) then
    (x0 + (1 : Int32))
   else
    x0
  else
   if x1 = (2 : Int32) then
    if 0 < u_1 then
     (x0 - (1 : Int32))
    else
     x0
   else
    if x1 = (3 : Int32) then
     if u_2 < (3 : Int32) then
      (x0 + (8 : Int32))
     else
      x0
    else
     if x1 = (4 : Int32) then
      if 0 < u_2 then
       (x0 - (8 : Int32))
      else
       x0
     else
      x0))
theorem r_X7_beside {x0 : Int32} {x1 : Int32} {f : mj_I} {g : mj_L} {o : Int32} (hg : g_X7_beside x0 x1 = o) : mj_Sp jX7_beside my_S [.int x0, .int x1] f g (fun v f' g' => some (.int o) = v ∧ f = f' ∧ g = g') := by
  refine mj_sp 2 (by decide +kernel) rfl rfl (fun _ _ => Nat.le_of_ble_eq_true rfl) ?_
  show mj_Ev jX7_beside 0 [some (.int x0), some (.int x1), none, none] [] my_S f g _
  unfold g_X7_beside at hg
  refine ev_iload_n (q := 1) dX7_beside_0 rfl rfl ?_
  refine ev_bipush (v := 8) (q := 3) dX7_beside_1 mcb_8 rfl ?_
  refine ev_irem (q := 4) dX7_beside_3 (by decide) rfl ?_
  refine ev_nmi (fun u_1 hu_1 => ?_)
  have hg := mj_lt_el hu_1 hg
  refine ev_istore_n (q := 5) (loc' := [some (.int _), some (.int _), some (.int _), none]) dX7_beside_4 (by decide) rfl rfl ?_
  refine ev_iload_n (q := 6) dX7_beside_5 rfl rfl ?_
  refine ev_bipush (v := 8) (q := 8) dX7_beside_6 mcb_8 rfl ?_
  refine ev_idiv (q := 9) dX7_beside_8 (by decide) rfl ?_
  refine ev_nmi (fun u_2 hu_2 => ?_)
  have hg := mj_lt_el hu_2 hg
  refine ev_istore_n (q := 10) (loc' := [some (.int _), some (.int _), some (.int _), some (.int _)]) dX7_beside_9 (by decide) rfl rfl ?_
  refine ev_iload_n (q := 11) dX7_beside_10 rfl rfl ?_
  refine ev_iconst (v := 1) (q := 12) dX7_beside_11 mci_1 rfl ?_
  refine ev_icmp_ne (t := 29) (q := 15) dX7_beside_12 rfl rfl hg (fun hg => ?_) (fun hg => ?_)
  · refine ev_iload_n (q := 16) dX7_beside_15 rfl rfl ?_
    refine ev_bipush (v := 7) (q := 18) dX7_beside_16 mcb_7 rfl ?_
    refine ev_icmp_ge (t := 27) (q := 21) dX7_beside_18 rfl rfl hg (fun hg => ?_) (fun hg => ?_)
    · refine ev_iload_n (q := 22) dX7_beside_21 rfl rfl ?_
      refine ev_iconst (v := 1) (q := 23) dX7_beside_22 mci_1 rfl ?_
      refine ev_iadd (q := 24) dX7_beside_23 rfl ?_
      refine ev_goto (q := 28) dX7_beside_24 rfl ?_
      subst hg
      exact ev_iret dX7_beside_28 rfl ⟨rfl, rfl, rfl⟩
    · refine ev_iload_n (q := 28) dX7_beside_27 rfl rfl ?_
      subst hg
      exact ev_iret dX7_beside_28 rfl ⟨rfl, rfl, rfl⟩
  · refine ev_iload_n (q := 30) dX7_beside_29 rfl rfl ?_
    refine ev_iconst (v := 2) (q := 31) dX7_beside_30 mci_2 rfl ?_
    refine ev_icmp_ne (t := 46) (q := 34) dX7_beside_31 rfl rfl hg (fun hg => ?_) (fun hg => ?_)
    · refine ev_iload_n (q := 35) dX7_beside_34 rfl rfl ?_
      refine ev_if_le (t := 44) (q := 38) dX7_beside_35 rfl rfl hg (fun hg => ?_) (fun hg => ?_)
      · refine ev_iload_n (q := 39) dX7_beside_38 rfl rfl ?_
        refine ev_iconst (v := 1) (q := 40) dX7_beside_39 mci_1 rfl ?_
        refine ev_isub (q := 41) dX7_beside_40 rfl ?_
        refine ev_goto (q := 45) dX7_beside_41 rfl ?_
        subst hg
        exact ev_iret dX7_beside_45 rfl ⟨rfl, rfl, rfl⟩
      · refine ev_iload_n (q := 45) dX7_beside_44 rfl rfl ?_
        subst hg
        exact ev_iret dX7_beside_45 rfl ⟨rfl, rfl, rfl⟩
    · refine ev_iload_n (q := 47) dX7_beside_46 rfl rfl ?_
      refine ev_iconst (v := 3) (q := 48) dX7_beside_47 mci_3 rfl ?_
      refine ev_icmp_ne (t := 65) (q := 51) dX7_beside_48 rfl rfl hg (fun hg => ?_) (fun hg => ?_)
      · refine ev_iload_n (q := 52) dX7_beside_51 rfl rfl ?_
        refine ev_iconst (v := 3) (q := 53) dX7_beside_52 mci_3 rfl ?_
        refine ev_icmp_ge (t := 63) (q := 56) dX7_beside_53 rfl rfl hg (fun hg => ?_) (fun hg => ?_)
        · refine ev_iload_n (q := 57) dX7_beside_56 rfl rfl ?_
          refine ev_bipush (v := 8) (q := 59) dX7_beside_57 mcb_8 rfl ?_
          refine ev_iadd (q := 60) dX7_beside_59 rfl ?_
          refine ev_goto (q := 64) dX7_beside_60 rfl ?_
          subst hg
          exact ev_iret dX7_beside_64 rfl ⟨rfl, rfl, rfl⟩
        · refine ev_iload_n (q := 64) dX7_beside_63 rfl rfl ?_
          subst hg
          exact ev_iret dX7_beside_64 rfl ⟨rfl, rfl, rfl⟩
      · refine ev_iload_n (q := 66) dX7_beside_65 rfl rfl ?_
        refine ev_iconst (v := 4) (q := 67) dX7_beside_66 mci_4 rfl ?_
        refine ev_icmp_ne (t := 81) (q := 70) dX7_beside_67 rfl rfl hg (fun hg => ?_) (fun hg => ?_)
        · refine ev_iload_n (q := 71) dX7_beside_70 rfl rfl ?_
          refine ev_if_le (t := 81) (q := 74) dX7_beside_71 rfl rfl hg (fun hg => ?_) (fun hg => ?_)
          · refine ev_iload_n (q := 75) dX7_beside_74 rfl rfl ?_
            refine ev_bipush (v := 8) (q := 77) dX7_beside_75 mcb_8 rfl ?_
            refine ev_isub (q := 78) dX7_beside_77 rfl ?_
            refine ev_goto (q := 82) dX7_beside_78 rfl ?_
            subst hg
            exact ev_iret dX7_beside_82 rfl ⟨rfl, rfl, rfl⟩
          · refine ev_iload_n (q := 82) dX7_beside_81 rfl rfl ?_
            subst hg
            exact ev_iret dX7_beside_82 rfl ⟨rfl, rfl, rfl⟩
        · refine ev_iload_n (q := 82) dX7_beside_81 rfl rfl ?_
          subst hg
          exact ev_iret dX7_beside_82 rfl ⟨rfl, rfl, rfl⟩
def g_X7_other (x0 : Int32) : Int32 :=
  if x0 = 0 then
   (0 : Int32)
  else
   if x0 = (1 : Int32) then
    (2 : Int32)
   else
    if x0 = (2 : Int32) then
     (1 : Int32)
    else
     if x0 = (3 : Int32) then
      (4 : Int32)
     else
      (3 : Int32)
theorem r_X7_other {x0 : Int32} {f : mj_I} {g : mj_L} {o : Int32} (hg : g_X7_other x0 = o) : mj_Sp jX7_other my_S [.int x0] f g (fun v f' g' => some (.int o) = v ∧ f = f' ∧ g = g') := by
  refine mj_sp 0 (by decide +kernel) rfl rfl (fun _ _ => Nat.le_of_ble_eq_true rfl) ?_
  show mj_Ev jX7_other 0 [some (.int x0)] [] my_S f g _
  unfold g_X7_other at hg
  refine ev_iload_n (q := 1) dX7_other_0 rfl rfl ?_
  refine ev_if_ne (t := 8) (q := 4) dX7_other_1 rfl rfl hg (fun hg => ?_) (fun hg => ?_)
  · refine ev_iconst (v := 0) (q := 5) dX7_other_4 mci_0 rfl ?_
    refine ev_goto (q := 36) dX7_other_5 rfl ?_
    subst hg
    exact ev_iret dX7_other_36 rfl ⟨rfl, rfl, rfl⟩
  · refine ev_iload_n (q := 9) dX7_other_8 rfl rfl ?_
    refine ev_iconst (v := 1) (q := 10) dX7_other_9 mci_1 rfl ?_
    refine ev_icmp_ne (t := 17) (q := 13) dX7_other_10 rfl rfl hg (fun hg => ?_) (fun hg => ?_)
    · refine ev_iconst (v := 2) (q := 14) dX7_other_13 mci_2 rfl ?_
      refine ev_goto (q := 36) dX7_other_14 rfl ?_
      subst hg
      exact ev_iret dX7_other_36 rfl ⟨rfl, rfl, rfl⟩
    · refine ev_iload_n (q := 18) dX7_other_17 rfl rfl ?_
      refine ev_iconst (v := 2) (q := 19) dX7_other_18 mci_2 rfl ?_
      refine ev_icmp_ne (t := 26) (q := 22) dX7_other_19 rfl rfl hg (fun hg => ?_) (fun hg => ?_)
      · refine ev_iconst (v := 1) (q := 23) dX7_other_22 mci_1 rfl ?_
        refine ev_goto (q := 36) dX7_other_23 rfl ?_
        subst hg
        exact ev_iret dX7_other_36 rfl ⟨rfl, rfl, rfl⟩
      · refine ev_iload_n (q := 27) dX7_other_26 rfl rfl ?_
        refine ev_iconst (v := 3) (q := 28) dX7_other_27 mci_3 rfl ?_
        refine ev_icmp_ne (t := 35) (q := 31) dX7_other_28 rfl rfl hg (fun hg => ?_) (fun hg => ?_)
        · refine ev_iconst (v := 4) (q := 32) dX7_other_31 mci_4 rfl ?_
          refine ev_goto (q := 36) dX7_other_32 rfl ?_
          subst hg
          exact ev_iret dX7_other_36 rfl ⟨rfl, rfl, rfl⟩
        · refine ev_iconst (v := 3) (q := 36) dX7_other_35 mci_3 rfl ?_
          subst hg
          exact ev_iret dX7_other_36 rfl ⟨rfl, rfl, rfl⟩
def g_X7_drifts (x1 : Int32) (x2 : Int32) (x3 : Int32) (x4 : Int32) (f : mj_I) : Option (Int32) :=
  if mj_in (((0 : Int32) + ((6 : Int32) * x3)) + (x4 - x4 / (6 : Int32) * (6 : Int32))) 82 = true then
  mj_lt ((f 4 (ix (((0 : Int32) + ((6 : Int32) * x3)) + (x4 - x4 / (6 : Int32) * (6 : Int32)))))) (fun u_2 =>
   if x1 = (4 : Int32) then
    some (x2)
   else
    if x1 = (5 : Int32) then
     some ((g_X7_beside x2 (g_X7_other u_2)))
    else
     some ((g_X7_beside x2 u_2)))
  else none
theorem r_X7_drifts {x1 : Int32} {x2 : Int32} {x3 : Int32} {x4 : Int32} {f : mj_I} {g : mj_L} {o : Int32} (hg : g_X7_drifts x1 x2 x3 x4 f = some o) : mj_Sp jX7_drifts my_S [.ref 0, .int x1, .int x2, .int x3, .int x4] f g (fun v f' g' => some (.int o) = v ∧ f = f' ∧ g = g') := by
  refine mj_sp 1 (by decide +kernel) rfl rfl (fun _ _ => Nat.le_of_ble_eq_true rfl) ?_
  show mj_Ev jX7_drifts 0 [some (.ref 0), some (.int x1), some (.int x2), some (.int x3), some (.int x4), none] [] my_S f g _
  unfold g_X7_drifts at hg
  refine ev_aload_n (q := 1) dX7_drifts_0 rfl rfl ?_
  refine ev_getfR (q := 4) mw_f_RX7_19 rfl rfl dX7_drifts_1 rfl ?_
  refine ev_iconst (v := 0) (q := 5) dX7_drifts_4 mci_0 rfl ?_
  refine ev_bipush (v := 6) (q := 7) dX7_drifts_5 mcb_6 rfl ?_
  refine ev_iload_n (q := 8) dX7_drifts_7 rfl rfl ?_
  refine ev_imul (q := 9) dX7_drifts_8 rfl ?_
  refine ev_iadd (q := 10) dX7_drifts_9 rfl ?_
  refine ev_iload (q := 12) dX7_drifts_10 rfl rfl ?_
  refine ev_bipush (v := 6) (q := 14) dX7_drifts_12 mcb_6 rfl ?_
  refine ev_irem (q := 15) dX7_drifts_14 (by decide) rfl ?_
  refine ev_iadd (q := 16) dX7_drifts_15 rfl ?_
  obtain ⟨hi_1, hg⟩ := mj_gd hg
  refine ev_ialdk (q := 17) rfl hi_1 rfl dX7_drifts_16 rfl ?_
  refine ev_nmi (fun u_2 hu_2 => ?_)
  have hg := mj_lt_el hu_2 hg
  refine ev_istore (q := 19) (loc' := [some (.ref _), some (.int _), some (.int _), some (.int _), some (.int _), some (.int _)]) dX7_drifts_17 (by decide) rfl rfl ?_
  refine ev_iload_n (q := 20) dX7_drifts_19 rfl rfl ?_
  refine ev_iconst (v := 4) (q := 21) dX7_drifts_20 mci_4 rfl ?_
  refine ev_icmp_ne (t := 28) (q := 24) dX7_drifts_21 rfl rfl hg (fun hg => ?_) (fun hg => ?_)
  · refine ev_iload_n (q := 25) dX7_drifts_24 rfl rfl ?_
    refine ev_goto (q := 47) dX7_drifts_25 rfl ?_
    obtain rfl := Option.some.inj hg
    exact ev_iret dX7_drifts_47 rfl ⟨rfl, rfl, rfl⟩
  · refine ev_iload_n (q := 29) dX7_drifts_28 rfl rfl ?_
    refine ev_iload_n (q := 30) dX7_drifts_29 rfl rfl ?_
    refine ev_iconst (v := 5) (q := 31) dX7_drifts_30 mci_5 rfl ?_
    refine ev_icmp_ne (t := 42) (q := 34) dX7_drifts_31 rfl rfl hg (fun hg => ?_) (fun hg => ?_)
    · refine ev_iload (q := 36) dX7_drifts_34 rfl rfl ?_
      refine ev_callS (q := 39) kX7_other mw_t_X7_other mw_m_RX7_161 (r_X7_other rfl) rfl rfl (Nat.le_of_ble_eq_true rfl) (by decide) dX7_drifts_36 rfl (fun v fv gv hp => ?_)
      obtain ⟨rfl, rfl, rfl⟩ := hp
      refine ev_goto (q := 44) dX7_drifts_39 rfl ?_
      refine ev_callS (q := 47) kX7_beside mw_t_X7_beside mw_m_RX7_164 (r_X7_beside rfl) rfl rfl (Nat.le_of_ble_eq_true rfl) (by decide) dX7_drifts_44 rfl (fun v fv gv hp => ?_)
      obtain ⟨rfl, rfl, rfl⟩ := hp
      obtain rfl := Option.some.inj hg
      exact ev_iret dX7_drifts_47 rfl ⟨rfl, rfl, rfl⟩
    · refine ev_iload (q := 44) dX7_drifts_42 rfl rfl ?_
      refine ev_callS (q := 47) kX7_beside mw_t_X7_beside mw_m_RX7_164 (r_X7_beside rfl) rfl rfl (Nat.le_of_ble_eq_true rfl) (by decide) dX7_drifts_44 rfl (fun v fv gv hp => ?_)
      obtain ⟨rfl, rfl, rfl⟩ := hp
      obtain rfl := Option.some.inj hg
      exact ev_iret dX7_drifts_47 rfl ⟨rfl, rfl, rfl⟩
def g_X7_drift (x1 : Int32) (f : mj_I) : Option (mj_I) :=
  if mj_in ((51 : Int32) + x1) 82 = true then
  if mj_in ((56 : Int32) + x1) 82 = true then
   if mj_in ((61 : Int32) + x1) 82 = true then
    (g_X7_drifts (f 4 (ix ((51 : Int32) + x1))) (f 4 (ix ((56 : Int32) + x1))) (f 4 (ix ((61 : Int32) + x1))) (f 4 46) f).bind (fun o_5 =>
     if mj_in ((56 : Int32) + x1) 82 = true then
     mj_lt (mj_wr f 4 (ix ((56 : Int32) + x1)) o_5) (fun f_6 =>
      some (f_6))
     else none)
    else none
   else none
  else none
theorem r_X7_drift {x1 : Int32} {f : mj_I} {g : mj_L} {o : mj_I} (hg : g_X7_drift x1 f = some o) : mj_Sp jX7_drift my_S [.ref 0, .int x1] f g (fun v f' g' => none = v ∧ o = f' ∧ g = g') := by
  refine mj_sp 0 (by decide +kernel) rfl rfl (fun _ _ => Nat.le_of_ble_eq_true rfl) ?_
  show mj_Ev jX7_drift 0 [some (.ref 0), some (.int x1)] [] my_S f g _
  unfold g_X7_drift at hg
  refine ev_aload_n (q := 1) dX7_drift_0 rfl rfl ?_
  refine ev_getfR (q := 4) mw_f_RX7_19 rfl rfl dX7_drift_1 rfl ?_
  refine ev_bipush (v := 56) (q := 6) dX7_drift_4 mcb_56 rfl ?_
  refine ev_iload_n (q := 7) dX7_drift_6 rfl rfl ?_
  refine ev_iadd (q := 8) dX7_drift_7 rfl ?_
  refine ev_aload_n (q := 9) dX7_drift_8 rfl rfl ?_
  refine ev_aload_n (q := 10) dX7_drift_9 rfl rfl ?_
  refine ev_getfR (q := 13) mw_f_RX7_19 rfl rfl dX7_drift_10 rfl ?_
  refine ev_bipush (v := 51) (q := 15) dX7_drift_13 mcb_51 rfl ?_
  refine ev_iload_n (q := 16) dX7_drift_15 rfl rfl ?_
  refine ev_iadd (q := 17) dX7_drift_16 rfl ?_
  obtain ⟨hi_1, hg⟩ := mj_gd hg
  refine ev_ialdk (q := 18) rfl hi_1 rfl dX7_drift_17 rfl ?_
  refine ev_aload_n (q := 19) dX7_drift_18 rfl rfl ?_
  refine ev_getfR (q := 22) mw_f_RX7_19 rfl rfl dX7_drift_19 rfl ?_
  refine ev_bipush (v := 56) (q := 24) dX7_drift_22 mcb_56 rfl ?_
  refine ev_iload_n (q := 25) dX7_drift_24 rfl rfl ?_
  refine ev_iadd (q := 26) dX7_drift_25 rfl ?_
  obtain ⟨hi_2, hg⟩ := mj_gd hg
  refine ev_ialdk (q := 27) rfl hi_2 rfl dX7_drift_26 rfl ?_
  refine ev_aload_n (q := 28) dX7_drift_27 rfl rfl ?_
  refine ev_getfR (q := 31) mw_f_RX7_19 rfl rfl dX7_drift_28 rfl ?_
  refine ev_bipush (v := 61) (q := 33) dX7_drift_31 mcb_61 rfl ?_
  refine ev_iload_n (q := 34) dX7_drift_33 rfl rfl ?_
  refine ev_iadd (q := 35) dX7_drift_34 rfl ?_
  obtain ⟨hi_3, hg⟩ := mj_gd hg
  refine ev_ialdk (q := 36) rfl hi_3 rfl dX7_drift_35 rfl ?_
  refine ev_aload_n (q := 37) dX7_drift_36 rfl rfl ?_
  refine ev_getfR (q := 40) mw_f_RX7_19 rfl rfl dX7_drift_37 rfl ?_
  refine ev_bipush (v := 46) (q := 42) dX7_drift_40 mcb_46 rfl ?_
  refine ev_ialdk (k := 46) (q := 43) rfl (by decide) mcx_46 dX7_drift_42 rfl ?_
  obtain ⟨o_5, ho_5, hg⟩ := mj_bd hg
  refine ev_callV (q := 46) kX7_drifts mw_i_X7_drifts mw_s_X7_drifts mw_m_RX7_167 rfl rfl (r_X7_drifts ho_5) rfl rfl (Nat.le_of_ble_eq_true rfl) (by decide) dX7_drift_43 rfl (fun v fv gv hp => ?_)
  obtain ⟨rfl, rfl, rfl⟩ := hp
  obtain ⟨hi_6, hg⟩ := mj_gd hg
  refine ev_iastk (q := 47) rfl hi_6 rfl dX7_drift_46 rfl ?_
  refine ev_nmf (fun f_6 hf_6 => ?_)
  have hg := mj_lt_el hf_6 hg
  obtain rfl := Option.some.inj hg
  exact ev_vret dX7_drift_47 rfl ⟨rfl, rfl, rfl⟩
def g_X7_rainOf_89 (x1 : Int32) (s0 : Int32) (f : mj_I) : Option (Int32) :=
  if mj_in ((66 : Int32) + x1) 82 = true then
  if (f 4 (ix ((66 : Int32) + x1))) < s0 then
    if mj_in ((66 : Int32) + x1) 82 = true then
    some ((f 4 (ix ((66 : Int32) + x1))))
    else none
   else
    some (s0)
  else none
theorem r_X7_rainOf_89 {f : mj_I} {g : mj_L} : ∀ (x1 : Int32) (s0 : Int32) (o : Int32), g_X7_rainOf_89 x1 s0 f = some o → mj_Ev jX7_rainOf 89 [some (.ref 0), some (.int x1), none, none, none] [.int s0] my_S f g (fun v f' g' => some (.int o) = v ∧ f = f' ∧ g = g') := by
  intro x1 s0 o hg
  unfold g_X7_rainOf_89 at hg
  refine ev_istore (q := 91) (loc' := [some (.ref _), some (.int _), none, none, some (.int _)]) dX7_rainOf_89 (by decide) rfl rfl ?_
  refine ev_aload_n (q := 92) dX7_rainOf_91 rfl rfl ?_
  refine ev_getfR (q := 95) mw_f_RX7_19 rfl rfl dX7_rainOf_92 rfl ?_
  refine ev_bipush (v := 66) (q := 97) dX7_rainOf_95 mcb_66 rfl ?_
  refine ev_iload_n (q := 98) dX7_rainOf_97 rfl rfl ?_
  refine ev_iadd (q := 99) dX7_rainOf_98 rfl ?_
  obtain ⟨hi_8, hg⟩ := mj_gd hg
  refine ev_ialdk (q := 100) rfl hi_8 rfl dX7_rainOf_99 rfl ?_
  refine ev_iload (q := 102) dX7_rainOf_100 rfl rfl ?_
  refine ev_icmp_ge (t := 117) (q := 105) dX7_rainOf_102 rfl rfl hg (fun hg => ?_) (fun hg => ?_)
  · refine ev_aload_n (q := 106) dX7_rainOf_105 rfl rfl ?_
    refine ev_getfR (q := 109) mw_f_RX7_19 rfl rfl dX7_rainOf_106 rfl ?_
    refine ev_bipush (v := 66) (q := 111) dX7_rainOf_109 mcb_66 rfl ?_
    refine ev_iload_n (q := 112) dX7_rainOf_111 rfl rfl ?_
    refine ev_iadd (q := 113) dX7_rainOf_112 rfl ?_
    obtain ⟨hi_9, hg⟩ := mj_gd hg
    refine ev_ialdk (q := 114) rfl hi_9 rfl dX7_rainOf_113 rfl ?_
    refine ev_goto (q := 119) dX7_rainOf_114 rfl ?_
    obtain rfl := Option.some.inj hg
    exact ev_iret dX7_rainOf_119 rfl ⟨rfl, rfl, rfl⟩
  · refine ev_iload (q := 119) dX7_rainOf_117 rfl rfl ?_
    obtain rfl := Option.some.inj hg
    exact ev_iret dX7_rainOf_119 rfl ⟨rfl, rfl, rfl⟩
def g_X7_rainOf (x1 : Int32) (f : mj_I) : Option (Int32) :=
  if mj_in ((51 : Int32) + x1) 82 = true then
  mj_lt ((f 4 (ix ((51 : Int32) + x1)))) (fun u_2 =>
   if mj_in ((56 : Int32) + x1) 82 = true then
   if mj_in ((12 : Int32) + (f 4 (ix ((56 : Int32) + x1)))) 82 = true then
    mj_lt ((f 4 (ix ((12 : Int32) + (f 4 (ix ((56 : Int32) + x1))))))) (fun u_5 =>
     if u_2 = (1 : Int32) then
      if u_5 = (1 : Int32) then
       if mj_in ((76 : Int32) + x1) 82 = true then
       g_X7_rainOf_89 x1 (f 4 (ix ((76 : Int32) + x1))) f
       else none
      else
       g_X7_rainOf_89 x1 (0 : Int32) f
     else
      if u_2 = (2 : Int32) then
       g_X7_rainOf_89 x1 (0 : Int32) f
      else
       if u_2 = (3 : Int32) then
        g_X7_rainOf_89 x1 (2 : Int32) f
       else
        if mj_in ((61 : Int32) + x1) 82 = true then
        if (f 4 (ix ((61 : Int32) + x1))) = 0 then
          g_X7_rainOf_89 x1 (1 : Int32) f
         else
          g_X7_rainOf_89 x1 (0 : Int32) f
        else none)
    else none
   else none)
  else none
theorem r_X7_rainOf {x1 : Int32} {f : mj_I} {g : mj_L} {o : Int32} (hg : g_X7_rainOf x1 f = some o) : mj_Sp jX7_rainOf my_S [.ref 0, .int x1] f g (fun v f' g' => some (.int o) = v ∧ f = f' ∧ g = g') := by
  refine mj_sp 3 (by decide +kernel) rfl rfl (fun _ _ => Nat.le_of_ble_eq_true rfl) ?_
  show mj_Ev jX7_rainOf 0 [some (.ref 0), some (.int x1), none, none, none] [] my_S f g _
  unfold g_X7_rainOf at hg
  refine ev_aload_n (q := 1) dX7_rainOf_0 rfl rfl ?_
  refine ev_getfR (q := 4) mw_f_RX7_19 rfl rfl dX7_rainOf_1 rfl ?_
  refine ev_bipush (v := 51) (q := 6) dX7_rainOf_4 mcb_51 rfl ?_
  refine ev_iload_n (q := 7) dX7_rainOf_6 rfl rfl ?_
  refine ev_iadd (q := 8) dX7_rainOf_7 rfl ?_
  obtain ⟨hi_1, hg⟩ := mj_gd hg
  refine ev_ialdk (q := 9) rfl hi_1 rfl dX7_rainOf_8 rfl ?_
  refine ev_nmi (fun u_2 hu_2 => ?_)
  have hg := mj_lt_el hu_2 hg
  refine ev_istore_n (q := 10) (loc' := [some (.ref _), some (.int _), some (.int _), none, none]) dX7_rainOf_9 (by decide) rfl rfl ?_
  refine ev_aload_n (q := 11) dX7_rainOf_10 rfl rfl ?_
  refine ev_getfR (q := 14) mw_f_RX7_19 rfl rfl dX7_rainOf_11 rfl ?_
  refine ev_bipush (v := 12) (q := 16) dX7_rainOf_14 mcb_12 rfl ?_
  refine ev_aload_n (q := 17) dX7_rainOf_16 rfl rfl ?_
  refine ev_getfR (q := 20) mw_f_RX7_19 rfl rfl dX7_rainOf_17 rfl ?_
  refine ev_bipush (v := 56) (q := 22) dX7_rainOf_20 mcb_56 rfl ?_
  refine ev_iload_n (q := 23) dX7_rainOf_22 rfl rfl ?_
  refine ev_iadd (q := 24) dX7_rainOf_23 rfl ?_
  obtain ⟨hi_3, hg⟩ := mj_gd hg
  refine ev_ialdk (q := 25) rfl hi_3 rfl dX7_rainOf_24 rfl ?_
  refine ev_iadd (q := 26) dX7_rainOf_25 rfl ?_
  obtain ⟨hi_4, hg⟩ := mj_gd hg
  refine ev_ialdk (q := 27) rfl hi_4 rfl dX7_rainOf_26 rfl ?_
  refine ev_nmi (fun u_5 hu_5 => ?_)
  have hg := mj_lt_el hu_5 hg
  refine ev_istore_n (q := 28) (loc' := [some (.ref _), some (.int _), some (.int _), some (.int _), none]) dX7_rainOf_27 (by decide) rfl rfl ?_
  refine ev_iload_n (q := 29) dX7_rainOf_28 rfl rfl ?_
  refine ev_iconst (v := 1) (q := 30) dX7_rainOf_29 mci_1 rfl ?_
  refine ev_icmp_ne (t := 54) (q := 33) dX7_rainOf_30 rfl rfl hg (fun hg => ?_) (fun hg => ?_)
  · refine ev_iload_n (q := 34) dX7_rainOf_33 rfl rfl ?_
    refine ev_iconst (v := 1) (q := 35) dX7_rainOf_34 mci_1 rfl ?_
    refine ev_icmp_ne (t := 50) (q := 38) dX7_rainOf_35 rfl rfl hg (fun hg => ?_) (fun hg => ?_)
    · refine ev_aload_n (q := 39) dX7_rainOf_38 rfl rfl ?_
      refine ev_getfR (q := 42) mw_f_RX7_19 rfl rfl dX7_rainOf_39 rfl ?_
      refine ev_bipush (v := 76) (q := 44) dX7_rainOf_42 mcb_76 rfl ?_
      refine ev_iload_n (q := 45) dX7_rainOf_44 rfl rfl ?_
      refine ev_iadd (q := 46) dX7_rainOf_45 rfl ?_
      obtain ⟨hi_6, hg⟩ := mj_gd hg
      refine ev_ialdk (q := 47) rfl hi_6 rfl dX7_rainOf_46 rfl ?_
      refine ev_goto (q := 89) dX7_rainOf_47 rfl ?_
      refine ev_wk (loc' := [some (.ref _), some (.int _), none, none, none]) ⟨rfl, rfl, trivial⟩ ?_
      exact r_X7_rainOf_89 _ _ _ hg
    · refine ev_iconst (v := 0) (q := 51) dX7_rainOf_50 mci_0 rfl ?_
      refine ev_goto (q := 89) dX7_rainOf_51 rfl ?_
      refine ev_wk (loc' := [some (.ref _), some (.int _), none, none, none]) ⟨rfl, rfl, trivial⟩ ?_
      exact r_X7_rainOf_89 _ _ _ hg
  · refine ev_iload_n (q := 55) dX7_rainOf_54 rfl rfl ?_
    refine ev_iconst (v := 2) (q := 56) dX7_rainOf_55 mci_2 rfl ?_
    refine ev_icmp_ne (t := 63) (q := 59) dX7_rainOf_56 rfl rfl hg (fun hg => ?_) (fun hg => ?_)
    · refine ev_iconst (v := 0) (q := 60) dX7_rainOf_59 mci_0 rfl ?_
      refine ev_goto (q := 89) dX7_rainOf_60 rfl ?_
      refine ev_wk (loc' := [some (.ref _), some (.int _), none, none, none]) ⟨rfl, rfl, trivial⟩ ?_
      exact r_X7_rainOf_89 _ _ _ hg
    · refine ev_iload_n (q := 64) dX7_rainOf_63 rfl rfl ?_
      refine ev_iconst (v := 3) (q := 65) dX7_rainOf_64 mci_3 rfl ?_
      refine ev_icmp_ne (t := 72) (q := 68) dX7_rainOf_65 rfl rfl hg (fun hg => ?_) (fun hg => ?_)
      · refine ev_iconst (v := 2) (q := 69) dX7_rainOf_68 mci_2 rfl ?_
        refine ev_goto (q := 89) dX7_rainOf_69 rfl ?_
        refine ev_wk (loc' := [some (.ref _), some (.int _), none, none, none]) ⟨rfl, rfl, trivial⟩ ?_
        exact r_X7_rainOf_89 _ _ _ hg
      · refine ev_aload_n (q := 73) dX7_rainOf_72 rfl rfl ?_
        refine ev_getfR (q := 76) mw_f_RX7_19 rfl rfl dX7_rainOf_73 rfl ?_
        refine ev_bipush (v := 61) (q := 78) dX7_rainOf_76 mcb_61 rfl ?_
        refine ev_iload_n (q := 79) dX7_rainOf_78 rfl rfl ?_
        refine ev_iadd (q := 80) dX7_rainOf_79 rfl ?_
        obtain ⟨hi_7, hg⟩ := mj_gd hg
        refine ev_ialdk (q := 81) rfl hi_7 rfl dX7_rainOf_80 rfl ?_
        refine ev_if_ne (t := 88) (q := 84) dX7_rainOf_81 rfl rfl hg (fun hg => ?_) (fun hg => ?_)
        · refine ev_iconst (v := 1) (q := 85) dX7_rainOf_84 mci_1 rfl ?_
          refine ev_goto (q := 89) dX7_rainOf_85 rfl ?_
          refine ev_wk (loc' := [some (.ref _), some (.int _), none, none, none]) ⟨rfl, rfl, trivial⟩ ?_
          exact r_X7_rainOf_89 _ _ _ hg
        · refine ev_iconst (v := 0) (q := 89) dX7_rainOf_88 mci_0 rfl ?_
          refine ev_wk (loc' := [some (.ref _), some (.int _), none, none, none]) ⟨rfl, rfl, trivial⟩ ?_
          exact r_X7_rainOf_89 _ _ _ hg
def g_X7_rain_81 (x2 : Int32) (x3 : Int32) (s1 : Int32) (s2 : Int32) (s3 : Int32) (f : mj_I) : Option (Int32 × mj_I) :=
  if mj_in s1 82 = true then
  mj_lt (mj_wr f 4 (ix s1) (s2 + s3)) (fun f_10 =>
   if x3 = (2 : Int32) then
    mj_lt (mj_wr f_10 0 16 ((f_10 0 16) + x2)) (fun f_11 =>
    some ((x2, f_11)))
   else
    mj_lt (mj_wr f_10 0 16 ((f_10 0 16) + (0 : Int32))) (fun f_12 =>
    some ((x2, f_12))))
  else none
theorem r_X7_rain_81 {g : mj_L} : ∀ (x2 : Int32) (x3 : Int32) (s1 : Int32) (s2 : Int32) (s3 : Int32) (f : mj_I) (o : Int32 × mj_I), g_X7_rain_81 x2 x3 s1 s2 s3 f = some o → mj_Ev jX7_rain 81 [some (.ref 0), none, some (.int x2), some (.int x3)] [.int s3, .int s2, .int s1, .ref 4] my_S f g (fun v f' g' => some (.int o.1) = v ∧ o.2 = f' ∧ g = g') := by
  intro x2 x3 s1 s2 s3 f o hg
  unfold g_X7_rain_81 at hg
  refine ev_iadd (q := 82) dX7_rain_81 rfl ?_
  obtain ⟨hi_10, hg⟩ := mj_gd hg
  refine ev_iastk (q := 83) rfl hi_10 rfl dX7_rain_82 rfl ?_
  refine ev_nmf (fun f_10 hf_10 => ?_)
  have hg := mj_lt_el hf_10 hg
  refine ev_aload_n (q := 84) dX7_rain_83 rfl rfl ?_
  refine ev_dup (q := 85) dX7_rain_84 rfl rfl ?_
  refine ev_getfI (q := 88) mw_f_RX7_174 (by decide) (by decide) rfl dX7_rain_85 rfl ?_
  refine ev_iload_n (q := 89) dX7_rain_88 rfl rfl ?_
  refine ev_iconst (v := 2) (q := 90) dX7_rain_89 mci_2 rfl ?_
  refine ev_icmp_ne (t := 97) (q := 93) dX7_rain_90 rfl rfl hg (fun hg => ?_) (fun hg => ?_)
  · refine ev_iload_n (q := 94) dX7_rain_93 rfl rfl ?_
    refine ev_goto (q := 98) dX7_rain_94 rfl ?_
    refine ev_iadd (q := 99) dX7_rain_98 rfl ?_
    refine ev_putfI (q := 102) mw_f_RX7_174 rfl dX7_rain_99 rfl ?_
    refine ev_nmf (fun f_11 hf_11 => ?_)
    have hg := mj_lt_el hf_11 hg
    refine ev_iload_n (q := 103) dX7_rain_102 rfl rfl ?_
    obtain rfl := Option.some.inj hg
    exact ev_iret dX7_rain_103 rfl ⟨rfl, rfl, rfl⟩
  · refine ev_iconst (v := 0) (q := 98) dX7_rain_97 mci_0 rfl ?_
    refine ev_iadd (q := 99) dX7_rain_98 rfl ?_
    refine ev_putfI (q := 102) mw_f_RX7_174 rfl dX7_rain_99 rfl ?_
    refine ev_nmf (fun f_12 hf_12 => ?_)
    have hg := mj_lt_el hf_12 hg
    refine ev_iload_n (q := 103) dX7_rain_102 rfl rfl ?_
    obtain rfl := Option.some.inj hg
    exact ev_iret dX7_rain_103 rfl ⟨rfl, rfl, rfl⟩
def g_X7_rain (x1 : Int32) (f : mj_I) : Option (Int32 × mj_I) :=
  (g_X7_rainOf x1 f).bind (fun o_1 =>
  if mj_in ((56 : Int32) + x1) 82 = true then
  if mj_in ((12 : Int32) + (f 4 (ix ((56 : Int32) + x1)))) 82 = true then
   mj_lt ((f 4 (ix ((12 : Int32) + (f 4 (ix ((56 : Int32) + x1))))))) (fun u_4 =>
    if mj_in ((66 : Int32) + x1) 82 = true then
    if mj_in ((66 : Int32) + x1) 82 = true then
     mj_lt (mj_wr f 4 (ix ((66 : Int32) + x1)) ((f 4 (ix ((66 : Int32) + x1))) - o_1)) (fun f_6 =>
      if u_4 = (1 : Int32) then
       g_X7_rain_81 o_1 u_4 (47 : Int32) (f_6 4 47) (o_1 * (f_6 4 44)) f_6
      else
       if u_4 = (2 : Int32) then
        g_X7_rain_81 o_1 u_4 (47 : Int32) (f_6 4 47) ((-o_1) * (f_6 4 45)) f_6
       else
        g_X7_rain_81 o_1 u_4 (47 : Int32) (f_6 4 47) (0 : Int32) f_6)
     else none
    else none)
   else none
  else none)
theorem r_X7_rain {x1 : Int32} {f : mj_I} {g : mj_L} {o : Int32 × mj_I} (hg : g_X7_rain x1 f = some o) : mj_Sp jX7_rain my_S [.ref 0, .int x1] f g (fun v f' g' => some (.int o.1) = v ∧ o.2 = f' ∧ g = g') := by
  refine mj_sp 2 (by decide +kernel) rfl rfl (fun _ _ => Nat.le_of_ble_eq_true rfl) ?_
  show mj_Ev jX7_rain 0 [some (.ref 0), some (.int x1), none, none] [] my_S f g _
  unfold g_X7_rain at hg
  refine ev_aload_n (q := 1) dX7_rain_0 rfl rfl ?_
  refine ev_iload_n (q := 2) dX7_rain_1 rfl rfl ?_
  obtain ⟨o_1, ho_1, hg⟩ := mj_bd hg
  refine ev_callV (q := 5) kX7_rainOf mw_i_X7_rainOf mw_s_X7_rainOf mw_m_RX7_171 rfl rfl (r_X7_rainOf ho_1) rfl rfl (Nat.le_of_ble_eq_true rfl) (by decide) dX7_rain_2 rfl (fun v fv gv hp => ?_)
  obtain ⟨rfl, rfl, rfl⟩ := hp
  refine ev_istore_n (q := 6) (loc' := [some (.ref _), some (.int _), some (.int _), none]) dX7_rain_5 (by decide) rfl rfl ?_
  refine ev_aload_n (q := 7) dX7_rain_6 rfl rfl ?_
  refine ev_getfR (q := 10) mw_f_RX7_19 rfl rfl dX7_rain_7 rfl ?_
  refine ev_bipush (v := 12) (q := 12) dX7_rain_10 mcb_12 rfl ?_
  refine ev_aload_n (q := 13) dX7_rain_12 rfl rfl ?_
  refine ev_getfR (q := 16) mw_f_RX7_19 rfl rfl dX7_rain_13 rfl ?_
  refine ev_bipush (v := 56) (q := 18) dX7_rain_16 mcb_56 rfl ?_
  refine ev_iload_n (q := 19) dX7_rain_18 rfl rfl ?_
  refine ev_iadd (q := 20) dX7_rain_19 rfl ?_
  obtain ⟨hi_2, hg⟩ := mj_gd hg
  refine ev_ialdk (q := 21) rfl hi_2 rfl dX7_rain_20 rfl ?_
  refine ev_iadd (q := 22) dX7_rain_21 rfl ?_
  obtain ⟨hi_3, hg⟩ := mj_gd hg
  refine ev_ialdk (q := 23) rfl hi_3 rfl dX7_rain_22 rfl ?_
  refine ev_nmi (fun u_4 hu_4 => ?_)
  have hg := mj_lt_el hu_4 hg
  refine ev_istore_n (q := 24) (loc' := [some (.ref _), some (.int _), some (.int _), some (.int _)]) dX7_rain_23 (by decide) rfl rfl ?_
  refine ev_aload_n (q := 25) dX7_rain_24 rfl rfl ?_
  refine ev_getfR (q := 28) mw_f_RX7_19 rfl rfl dX7_rain_25 rfl ?_
  refine ev_bipush (v := 66) (q := 30) dX7_rain_28 mcb_66 rfl ?_
  refine ev_iload_n (q := 31) dX7_rain_30 rfl rfl ?_
  refine ev_iadd (q := 32) dX7_rain_31 rfl ?_
  refine ev_dup2 (q := 33) dX7_rain_32 rfl rfl rfl ?_
  obtain ⟨hi_5, hg⟩ := mj_gd hg
  refine ev_ialdk (q := 34) rfl hi_5 rfl dX7_rain_33 rfl ?_
  refine ev_iload_n (q := 35) dX7_rain_34 rfl rfl ?_
  refine ev_isub (q := 36) dX7_rain_35 rfl ?_
  obtain ⟨hi_6, hg⟩ := mj_gd hg
  refine ev_iastk (q := 37) rfl hi_6 rfl dX7_rain_36 rfl ?_
  refine ev_nmf (fun f_6 hf_6 => ?_)
  have hg := mj_lt_el hf_6 hg
  refine ev_aload_n (q := 38) dX7_rain_37 rfl rfl ?_
  refine ev_getfR (q := 41) mw_f_RX7_19 rfl rfl dX7_rain_38 rfl ?_
  refine ev_bipush (v := 47) (q := 43) dX7_rain_41 mcb_47 rfl ?_
  refine ev_dup2 (q := 44) dX7_rain_43 rfl rfl rfl ?_
  refine ev_ialdk (k := 47) (q := 45) rfl (by decide) mcx_47 dX7_rain_44 rfl ?_
  refine ev_iload_n (q := 46) dX7_rain_45 rfl rfl ?_
  refine ev_iconst (v := 1) (q := 47) dX7_rain_46 mci_1 rfl ?_
  refine ev_icmp_ne (t := 62) (q := 50) dX7_rain_47 rfl rfl hg (fun hg => ?_) (fun hg => ?_)
  · refine ev_iload_n (q := 51) dX7_rain_50 rfl rfl ?_
    refine ev_aload_n (q := 52) dX7_rain_51 rfl rfl ?_
    refine ev_getfR (q := 55) mw_f_RX7_19 rfl rfl dX7_rain_52 rfl ?_
    refine ev_bipush (v := 44) (q := 57) dX7_rain_55 mcb_44 rfl ?_
    refine ev_ialdk (k := 44) (q := 58) rfl (by decide) mcx_44 dX7_rain_57 rfl ?_
    refine ev_imul (q := 59) dX7_rain_58 rfl ?_
    refine ev_goto (q := 81) dX7_rain_59 rfl ?_
    refine ev_wk (loc' := [some (.ref _), none, some (.int _), some (.int _)]) ⟨rfl, rfl, rfl, trivial⟩ ?_
    exact r_X7_rain_81 _ _ _ _ _ _ _ hg
  · refine ev_iload_n (q := 63) dX7_rain_62 rfl rfl ?_
    refine ev_iconst (v := 2) (q := 64) dX7_rain_63 mci_2 rfl ?_
    refine ev_icmp_ne (t := 80) (q := 67) dX7_rain_64 rfl rfl hg (fun hg => ?_) (fun hg => ?_)
    · refine ev_iload_n (q := 68) dX7_rain_67 rfl rfl ?_
      refine ev_ineg (q := 69) dX7_rain_68 rfl ?_
      refine ev_aload_n (q := 70) dX7_rain_69 rfl rfl ?_
      refine ev_getfR (q := 73) mw_f_RX7_19 rfl rfl dX7_rain_70 rfl ?_
      refine ev_bipush (v := 45) (q := 75) dX7_rain_73 mcb_45 rfl ?_
      refine ev_ialdk (k := 45) (q := 76) rfl (by decide) mcx_45 dX7_rain_75 rfl ?_
      refine ev_imul (q := 77) dX7_rain_76 rfl ?_
      refine ev_goto (q := 81) dX7_rain_77 rfl ?_
      refine ev_wk (loc' := [some (.ref _), none, some (.int _), some (.int _)]) ⟨rfl, rfl, rfl, trivial⟩ ?_
      exact r_X7_rain_81 _ _ _ _ _ _ _ hg
    · refine ev_iconst (v := 0) (q := 81) dX7_rain_80 mci_0 rfl ?_
      refine ev_wk (loc' := [some (.ref _), none, some (.int _), some (.int _)]) ⟨rfl, rfl, rfl, trivial⟩ ?_
      exact r_X7_rain_81 _ _ _ _ _ _ _ hg
def g_X7_milk (x1 : Int32) (f : mj_I) : Option (mj_I) :=
  if mj_in ((61 : Int32) + x1) 82 = true then
  if (f 4 (ix ((61 : Int32) + x1))) = 0 then
    if mj_in ((56 : Int32) + x1) 82 = true then
    if mj_in ((12 : Int32) + (f 4 (ix ((56 : Int32) + x1)))) 82 = true then
     if (f 4 (ix ((12 : Int32) + (f 4 (ix ((56 : Int32) + x1)))))) = (3 : Int32) then
       if mj_in ((66 : Int32) + x1) 82 = true then
       if 0 < (f 4 (ix ((66 : Int32) + x1))) then
         if mj_in ((66 : Int32) + x1) 82 = true then
         if mj_in ((66 : Int32) + x1) 82 = true then
          mj_lt (mj_wr f 4 (ix ((66 : Int32) + x1)) ((f 4 (ix ((66 : Int32) + x1))) - (1 : Int32))) (fun f_6 =>
           mj_lt (mj_wr f_6 4 48 ((f_6 4 48) + (1 : Int32))) (fun f_8 =>
           some (f_8)))
          else none
         else none
        else
         some (f)
       else none
      else
       some (f)
     else none
    else none
   else
    some (f)
  else none
theorem r_X7_milk {x1 : Int32} {f : mj_I} {g : mj_L} {o : mj_I} (hg : g_X7_milk x1 f = some o) : mj_Sp jX7_milk my_S [.ref 0, .int x1] f g (fun v f' g' => none = v ∧ o = f' ∧ g = g') := by
  refine mj_sp 0 (by decide +kernel) rfl rfl (fun _ _ => Nat.le_of_ble_eq_true rfl) ?_
  show mj_Ev jX7_milk 0 [some (.ref 0), some (.int x1)] [] my_S f g _
  unfold g_X7_milk at hg
  refine ev_aload_n (q := 1) dX7_milk_0 rfl rfl ?_
  refine ev_getfR (q := 4) mw_f_RX7_19 rfl rfl dX7_milk_1 rfl ?_
  refine ev_bipush (v := 61) (q := 6) dX7_milk_4 mcb_61 rfl ?_
  refine ev_iload_n (q := 7) dX7_milk_6 rfl rfl ?_
  refine ev_iadd (q := 8) dX7_milk_7 rfl ?_
  obtain ⟨hi_1, hg⟩ := mj_gd hg
  refine ev_ialdk (q := 9) rfl hi_1 rfl dX7_milk_8 rfl ?_
  refine ev_if_ne (t := 69) (q := 12) dX7_milk_9 rfl rfl hg (fun hg => ?_) (fun hg => ?_)
  · refine ev_aload_n (q := 13) dX7_milk_12 rfl rfl ?_
    refine ev_getfR (q := 16) mw_f_RX7_19 rfl rfl dX7_milk_13 rfl ?_
    refine ev_bipush (v := 12) (q := 18) dX7_milk_16 mcb_12 rfl ?_
    refine ev_aload_n (q := 19) dX7_milk_18 rfl rfl ?_
    refine ev_getfR (q := 22) mw_f_RX7_19 rfl rfl dX7_milk_19 rfl ?_
    refine ev_bipush (v := 56) (q := 24) dX7_milk_22 mcb_56 rfl ?_
    refine ev_iload_n (q := 25) dX7_milk_24 rfl rfl ?_
    refine ev_iadd (q := 26) dX7_milk_25 rfl ?_
    obtain ⟨hi_2, hg⟩ := mj_gd hg
    refine ev_ialdk (q := 27) rfl hi_2 rfl dX7_milk_26 rfl ?_
    refine ev_iadd (q := 28) dX7_milk_27 rfl ?_
    obtain ⟨hi_3, hg⟩ := mj_gd hg
    refine ev_ialdk (q := 29) rfl hi_3 rfl dX7_milk_28 rfl ?_
    refine ev_iconst (v := 3) (q := 30) dX7_milk_29 mci_3 rfl ?_
    refine ev_icmp_ne (t := 69) (q := 33) dX7_milk_30 rfl rfl hg (fun hg => ?_) (fun hg => ?_)
    · refine ev_aload_n (q := 34) dX7_milk_33 rfl rfl ?_
      refine ev_getfR (q := 37) mw_f_RX7_19 rfl rfl dX7_milk_34 rfl ?_
      refine ev_bipush (v := 66) (q := 39) dX7_milk_37 mcb_66 rfl ?_
      refine ev_iload_n (q := 40) dX7_milk_39 rfl rfl ?_
      refine ev_iadd (q := 41) dX7_milk_40 rfl ?_
      obtain ⟨hi_4, hg⟩ := mj_gd hg
      refine ev_ialdk (q := 42) rfl hi_4 rfl dX7_milk_41 rfl ?_
      refine ev_if_le (t := 69) (q := 45) dX7_milk_42 rfl rfl hg (fun hg => ?_) (fun hg => ?_)
      · refine ev_aload_n (q := 46) dX7_milk_45 rfl rfl ?_
        refine ev_getfR (q := 49) mw_f_RX7_19 rfl rfl dX7_milk_46 rfl ?_
        refine ev_bipush (v := 66) (q := 51) dX7_milk_49 mcb_66 rfl ?_
        refine ev_iload_n (q := 52) dX7_milk_51 rfl rfl ?_
        refine ev_iadd (q := 53) dX7_milk_52 rfl ?_
        refine ev_dup2 (q := 54) dX7_milk_53 rfl rfl rfl ?_
        obtain ⟨hi_5, hg⟩ := mj_gd hg
        refine ev_ialdk (q := 55) rfl hi_5 rfl dX7_milk_54 rfl ?_
        refine ev_iconst (v := 1) (q := 56) dX7_milk_55 mci_1 rfl ?_
        refine ev_isub (q := 57) dX7_milk_56 rfl ?_
        obtain ⟨hi_6, hg⟩ := mj_gd hg
        refine ev_iastk (q := 58) rfl hi_6 rfl dX7_milk_57 rfl ?_
        refine ev_nmf (fun f_6 hf_6 => ?_)
        have hg := mj_lt_el hf_6 hg
        refine ev_aload_n (q := 59) dX7_milk_58 rfl rfl ?_
        refine ev_getfR (q := 62) mw_f_RX7_19 rfl rfl dX7_milk_59 rfl ?_
        refine ev_bipush (v := 48) (q := 64) dX7_milk_62 mcb_48 rfl ?_
        refine ev_dup2 (q := 65) dX7_milk_64 rfl rfl rfl ?_
        refine ev_ialdk (k := 48) (q := 66) rfl (by decide) mcx_48 dX7_milk_65 rfl ?_
        refine ev_iconst (v := 1) (q := 67) dX7_milk_66 mci_1 rfl ?_
        refine ev_iadd (q := 68) dX7_milk_67 rfl ?_
        refine ev_iastk (k := 48) (q := 69) rfl (by decide) mcx_48 dX7_milk_68 rfl ?_
        refine ev_nmf (fun f_8 hf_8 => ?_)
        have hg := mj_lt_el hf_8 hg
        obtain rfl := Option.some.inj hg
        exact ev_vret dX7_milk_69 rfl ⟨rfl, rfl, rfl⟩
      · obtain rfl := Option.some.inj hg
        exact ev_vret dX7_milk_69 rfl ⟨rfl, rfl, rfl⟩
    · obtain rfl := Option.some.inj hg
      exact ev_vret dX7_milk_69 rfl ⟨rfl, rfl, rfl⟩
  · obtain rfl := Option.some.inj hg
    exact ev_vret dX7_milk_69 rfl ⟨rfl, rfl, rfl⟩
