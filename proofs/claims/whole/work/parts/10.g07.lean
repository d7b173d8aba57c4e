def g_X7_asLane (x0 : Int32) (x1 : Int32) : Int32 :=
  if x0 = 0 then
   ((x1 <<< ((24 : Int32) &&& 31)) >>> ((24 : Int32) &&& 31))
  else
   if x0 = (1 : Int32) then
    ((x1 <<< ((16 : Int32) &&& 31)) >>> ((16 : Int32) &&& 31))
   else
    x1
theorem r_X7_asLane {x0 : Int32} {x1 : Int32} {f : mj_I} {g : mj_L} {o : Int32} (hg : g_X7_asLane x0 x1 = o) : mj_Sp jX7_asLane my_S [.int x0, .int x1] f g (fun v f' g' => some (.int o) = v ∧ f = f' ∧ g = g') := by
  refine mj_sp 0 (by decide +kernel) rfl rfl (fun _ _ => Nat.le_of_ble_eq_true rfl) ?_
  show mj_Ev jX7_asLane 0 [some (.int x0), some (.int x1)] [] my_S f g _
  unfold g_X7_asLane at hg
  refine ev_iload_n (q := 1) dX7_asLane_0 rfl rfl ?_
  refine ev_if_ne (t := 14) (q := 4) dX7_asLane_1 rfl rfl hg (fun hg => ?_) (fun hg => ?_)
  · refine ev_iload_n (q := 5) dX7_asLane_4 rfl rfl ?_
    refine ev_bipush (v := 24) (q := 7) dX7_asLane_5 mcb_24 rfl ?_
    refine ev_ishl (q := 8) dX7_asLane_7 rfl ?_
    refine ev_bipush (v := 24) (q := 10) dX7_asLane_8 mcb_24 rfl ?_
    refine ev_ishr (q := 11) dX7_asLane_10 rfl ?_
    refine ev_goto (q := 30) dX7_asLane_11 rfl ?_
    subst hg
    exact ev_iret dX7_asLane_30 rfl ⟨rfl, rfl, rfl⟩
  · refine ev_iload_n (q := 15) dX7_asLane_14 rfl rfl ?_
    refine ev_iconst (v := 1) (q := 16) dX7_asLane_15 mci_1 rfl ?_
    refine ev_icmp_ne (t := 29) (q := 19) dX7_asLane_16 rfl rfl hg (fun hg => ?_) (fun hg => ?_)
    · refine ev_iload_n (q := 20) dX7_asLane_19 rfl rfl ?_
      refine ev_bipush (v := 16) (q := 22) dX7_asLane_20 mcb_16 rfl ?_
      refine ev_ishl (q := 23) dX7_asLane_22 rfl ?_
      refine ev_bipush (v := 16) (q := 25) dX7_asLane_23 mcb_16 rfl ?_
      refine ev_ishr (q := 26) dX7_asLane_25 rfl ?_
      refine ev_goto (q := 30) dX7_asLane_26 rfl ?_
      subst hg
      exact ev_iret dX7_asLane_30 rfl ⟨rfl, rfl, rfl⟩
    · refine ev_iload_n (q := 30) dX7_asLane_29 rfl rfl ?_
      subst hg
      exact ev_iret dX7_asLane_30 rfl ⟨rfl, rfl, rfl⟩
def g_X7_set (x1 : Int32) (x2 : Int32) (x3 : Int32) (f : mj_I) : Option (Int32 × mj_I) :=
  if (g_X7_isRow x1) = 0 then
   some (((-1000001 : Int32), f))
  else
   if mj_in x1 8 = true then
   if (f 2 (ix x1)) < 0 then
     mj_lt (g_X7_find (1 : Int32) f) (fun o_3 =>
     some ((o_3.1, o_3.2)))
    else
     if mj_in x1 8 = true then
     if (g_X7_in (x2).toInt64 (0 : Int64) (((f 2 (ix x1)) - (1 : Int32))).toInt64) = 0 then
       mj_lt (g_X7_find (2 : Int32) f) (fun o_6 =>
       some ((o_6.1, o_6.2)))
      else
       if mj_in x1 8 = true then
       if mj_in (((40 : Int32) * x1) + x2) 320 = true then
        mj_lt (mj_wr f 3 (ix (((40 : Int32) * x1) + x2)) (g_X7_asLane (f 1 (ix x1)) x3)) (fun f_9 =>
         if mj_in (((40 : Int32) * x1) + x2) 320 = true then
         mj_lt (g_X7_well (f_9 3 (ix (((40 : Int32) * x1) + x2))) f_9) (fun o_11 =>
          some ((o_11.1, o_11.2)))
         else none)
        else none
       else none
     else none
   else none
theorem r_X7_set {x1 : Int32} {x2 : Int32} {x3 : Int32} {f : mj_I} {g : mj_L} {o : Int32 × mj_I} (hg : g_X7_set x1 x2 x3 f = some o) : mj_Sp jX7_set my_S [.ref 0, .int x1, .int x2, .int x3] f g (fun v f' g' => some (.int o.1) = v ∧ o.2 = f' ∧ g = g') := by
  refine mj_sp 0 (by decide +kernel) rfl rfl (fun _ _ => Nat.le_of_ble_eq_true rfl) ?_
  show mj_Ev jX7_set 0 [some (.ref 0), some (.int x1), some (.int x2), some (.int x3)] [] my_S f g _
  unfold g_X7_set at hg
  refine ev_iload_n (q := 1) dX7_set_0 rfl rfl ?_
  refine ev_callS (q := 4) kX7_isRow mw_t_X7_isRow mw_m_RX7_64 (r_X7_isRow rfl) rfl rfl (Nat.le_of_ble_eq_true rfl) (by decide) dX7_set_1 rfl (fun v fv gv hp => ?_)
  obtain ⟨rfl, rfl, rfl, hr_1⟩ := hp
  refine ev_if_ne (t := 10) (q := 7) dX7_set_4 rfl rfl hg (fun hg => ?_) (fun hg => ?_)
  · refine ev_ldc (q := 9) mw_c_RX7_70 dX7_set_7 rfl ?_
    obtain rfl := Option.some.inj hg
    exact ev_iret dX7_set_9 rfl ⟨rfl, rfl, rfl⟩
  · refine ev_aload_n (q := 11) dX7_set_10 rfl rfl ?_
    refine ev_getfR (q := 14) mw_f_RX7_13 rfl rfl dX7_set_11 rfl ?_
    refine ev_iload_n (q := 15) dX7_set_14 rfl rfl ?_
    obtain ⟨hi_2, hg⟩ := mj_gd hg
    refine ev_ialdk (q := 16) rfl hi_2 rfl dX7_set_15 rfl ?_
    refine ev_if_ge (t := 25) (q := 19) dX7_set_16 rfl rfl hg (fun hg => ?_) (fun hg => ?_)
    · refine ev_aload_n (q := 20) dX7_set_19 rfl rfl ?_
      refine ev_iconst (v := 1) (q := 21) dX7_set_20 mci_1 rfl ?_
      obtain ⟨o_3, ho_3, hg⟩ := mj_lte hg
      refine ev_callV (q := 24) kX7_find mw_i_X7_find mw_s_X7_find mw_m_RX7_71 rfl rfl (r_X7_find ho_3) rfl rfl (Nat.le_of_ble_eq_true rfl) (by decide) dX7_set_21 rfl (fun v fv gv hp => ?_)
      obtain ⟨rfl, rfl, rfl⟩ := hp
      obtain rfl := Option.some.inj hg
      exact ev_iret dX7_set_24 rfl ⟨rfl, rfl, rfl⟩
    · refine ev_iload_n (q := 26) dX7_set_25 rfl rfl ?_
      refine ev_i2l (q := 27) dX7_set_26 rfl ?_
      refine ev_lconst (v := 0) (q := 28) dX7_set_27 mcl_0 rfl ?_
      refine ev_aload_n (q := 29) dX7_set_28 rfl rfl ?_
      refine ev_getfR (q := 32) mw_f_RX7_13 rfl rfl dX7_set_29 rfl ?_
      refine ev_iload_n (q := 33) dX7_set_32 rfl rfl ?_
      obtain ⟨hi_4, hg⟩ := mj_gd hg
      refine ev_ialdk (q := 34) rfl hi_4 rfl dX7_set_33 rfl ?_
      refine ev_iconst (v := 1) (q := 35) dX7_set_34 mci_1 rfl ?_
      refine ev_isub (q := 36) dX7_set_35 rfl ?_
      refine ev_i2l (q := 37) dX7_set_36 rfl ?_
      refine ev_callS (q := 40) kX7_in mw_t_X7_in mw_m_RX7_60 (r_X7_in rfl) rfl rfl (Nat.le_of_ble_eq_true rfl) (by decide) dX7_set_37 rfl (fun v fv gv hp => ?_)
      obtain ⟨rfl, rfl, rfl, hr_5⟩ := hp
      refine ev_if_ne (t := 49) (q := 43) dX7_set_40 rfl rfl hg (fun hg => ?_) (fun hg => ?_)
      · refine ev_aload_n (q := 44) dX7_set_43 rfl rfl ?_
        refine ev_iconst (v := 2) (q := 45) dX7_set_44 mci_2 rfl ?_
        obtain ⟨o_6, ho_6, hg⟩ := mj_lte hg
        refine ev_callV (q := 48) kX7_find mw_i_X7_find mw_s_X7_find mw_m_RX7_71 rfl rfl (r_X7_find ho_6) rfl rfl (Nat.le_of_ble_eq_true rfl) (by decide) dX7_set_45 rfl (fun v fv gv hp => ?_)
        obtain ⟨rfl, rfl, rfl⟩ := hp
        obtain rfl := Option.some.inj hg
        exact ev_iret dX7_set_48 rfl ⟨rfl, rfl, rfl⟩
      · refine ev_aload_n (q := 50) dX7_set_49 rfl rfl ?_
        refine ev_getfR (q := 53) mw_f_RX7_16 rfl rfl dX7_set_50 rfl ?_
        refine ev_bipush (v := 40) (q := 55) dX7_set_53 mcb_40 rfl ?_
        refine ev_iload_n (q := 56) dX7_set_55 rfl rfl ?_
        refine ev_imul (q := 57) dX7_set_56 rfl ?_
        refine ev_iload_n (q := 58) dX7_set_57 rfl rfl ?_
        refine ev_iadd (q := 59) dX7_set_58 rfl ?_
        refine ev_aload_n (q := 60) dX7_set_59 rfl rfl ?_
        refine ev_getfR (q := 63) mw_f_RX7_7 rfl rfl dX7_set_60 rfl ?_
        refine ev_iload_n (q := 64) dX7_set_63 rfl rfl ?_
        obtain ⟨hi_7, hg⟩ := mj_gd hg
        refine ev_ialdk (q := 65) rfl hi_7 rfl dX7_set_64 rfl ?_
        refine ev_iload_n (q := 66) dX7_set_65 rfl rfl ?_
        refine ev_callS (q := 69) kX7_asLane mw_t_X7_asLane mw_m_RX7_78 (r_X7_asLane rfl) rfl rfl (Nat.le_of_ble_eq_true rfl) (by decide) dX7_set_66 rfl (fun v fv gv hp => ?_)
        obtain ⟨rfl, rfl, rfl⟩ := hp
        obtain ⟨hi_9, hg⟩ := mj_gd hg
        refine ev_iastk (q := 70) rfl hi_9 rfl dX7_set_69 rfl ?_
        refine ev_nmf (fun f_9 hf_9 => ?_)
        have hg := mj_lt_el hf_9 hg
        refine ev_aload_n (q := 71) dX7_set_70 rfl rfl ?_
        refine ev_aload_n (q := 72) dX7_set_71 rfl rfl ?_
        refine ev_getfR (q := 75) mw_f_RX7_16 rfl rfl dX7_set_72 rfl ?_
        refine ev_bipush (v := 40) (q := 77) dX7_set_75 mcb_40 rfl ?_
        refine ev_iload_n (q := 78) dX7_set_77 rfl rfl ?_
        refine ev_imul (q := 79) dX7_set_78 rfl ?_
        refine ev_iload_n (q := 80) dX7_set_79 rfl rfl ?_
        refine ev_iadd (q := 81) dX7_set_80 rfl ?_
        obtain ⟨hi_10, hg⟩ := mj_gd hg
        refine ev_ialdk (q := 82) rfl hi_10 rfl dX7_set_81 rfl ?_
        obtain ⟨o_11, ho_11, hg⟩ := mj_lte hg
        refine ev_callV (q := 85) kX7_well mw_i_X7_well mw_s_X7_well mw_m_RX7_75 rfl rfl (r_X7_well ho_11) rfl rfl (Nat.le_of_ble_eq_true rfl) (by decide) dX7_set_82 rfl (fun v fv gv hp => ?_)
        obtain ⟨rfl, rfl, rfl⟩ := hp
        obtain rfl := Option.some.inj hg
        exact ev_iret dX7_set_85 rfl ⟨rfl, rfl, rfl⟩
def g_X7_copy_117 : Nat → Int32 → Int32 → Int32 → Int32 → Int32 → Int32 → mj_I → Option (mj_I)
  | 0, _, _, _, _, _, _, _ => none
  | n + 1, x1, x2, x3, x4, x5, x6, f =>
    if x6 < x5 then
     if mj_in ((((40 : Int32) * x1) + x2) + x6) 320 = true then
     if mj_in x6 40 = true then
      mj_lt (mj_wr f 5 (ix x6) (f 3 (ix ((((40 : Int32) * x1) + x2) + x6)))) (fun f_21 =>
       g_X7_copy_117 n x1 x2 x3 x4 x5 (x6 + (1 : Int32)) f_21)
      else none
     else none
    else
     some (f)
theorem r_X7_copy_117 {g : mj_L} {post : Option Value → mj_I → mj_L → Prop} : ∀ (n : Nat) (x1 : Int32) (x2 : Int32) (x3 : Int32) (x4 : Int32) (x5 : Int32) (x6 : Int32) (f : mj_I) (o : mj_I), g_X7_copy_117 n x1 x2 x3 x4 x5 x6 f = some o → mj_Ev jX7_copy 151 [some (.ref 0), none, none, some (.int x3), some (.int x4), some (.int x5), none] [] my_S o g post → mj_Ev jX7_copy 117 [some (.ref 0), some (.int x1), some (.int x2), some (.int x3), some (.int x4), some (.int x5), some (.int x6)] [] my_S f g post := by
  intro n
  induction n with
  | zero =>
    intro x1 x2 x3 x4 x5 x6 f o hg hk
    cases hg
  | succ n ih =>
    intro x1 x2 x3 x4 x5 x6 f o hg hk
    unfold g_X7_copy_117 at hg
    refine ev_iload (q := 119) dX7_copy_117 rfl rfl ?_
    refine ev_iload (q := 121) dX7_copy_119 rfl rfl ?_
    refine ev_icmp_ge (t := 151) (q := 124) dX7_copy_121 rfl rfl hg (fun hg => ?_) (fun hg => ?_)
    · refine ev_aload_n (q := 125) dX7_copy_124 rfl rfl ?_
      refine ev_getfR (q := 128) mw_f_RX7_22 rfl rfl dX7_copy_125 rfl ?_
      refine ev_iload (q := 130) dX7_copy_128 rfl rfl ?_
      refine ev_aload_n (q := 131) dX7_copy_130 rfl rfl ?_
      refine ev_getfR (q := 134) mw_f_RX7_16 rfl rfl dX7_copy_131 rfl ?_
      refine ev_bipush (v := 40) (q := 136) dX7_copy_134 mcb_40 rfl ?_
      refine ev_iload_n (q := 137) dX7_copy_136 rfl rfl ?_
      refine ev_imul (q := 138) dX7_copy_137 rfl ?_
      refine ev_iload_n (q := 139) dX7_copy_138 rfl rfl ?_
      refine ev_iadd (q := 140) dX7_copy_139 rfl ?_
      refine ev_iload (q := 142) dX7_copy_140 rfl rfl ?_
      refine ev_iadd (q := 143) dX7_copy_142 rfl ?_
      obtain ⟨hi_20, hg⟩ := mj_gd hg
      refine ev_ialdk (q := 144) rfl hi_20 rfl dX7_copy_143 rfl ?_
      obtain ⟨hi_21, hg⟩ := mj_gd hg
      refine ev_iastk (q := 145) rfl hi_21 rfl dX7_copy_144 rfl ?_
      refine ev_nmf (fun f_21 hf_21 => ?_)
      have hg := mj_lt_el hf_21 hg
      refine ev_iinc (v := 1) (q := 148) (loc' := [some (.ref _), some (.int _), some (.int _), some (.int _), some (.int _), some (.int _), some (.int _)]) dX7_copy_145 rfl (by decide) mci_1 rfl rfl ?_
      refine ev_goto (q := 117) dX7_copy_148 rfl ?_
      exact ih _ _ _ _ _ _ _ _ hg hk
    · obtain rfl := Option.some.inj hg
      refine ev_wk (loc' := [some (.ref _), none, none, some (.int _), some (.int _), some (.int _), none]) ⟨rfl, rfl, rfl, rfl, trivial⟩ ?_
      exact hk
def g_X7_copy_154 : Nat → Int32 → Int32 → Int32 → Int32 → mj_I → Option (mj_I)
  | 0, _, _, _, _, _ => none
  | n + 1, x3, x4, x5, x6, f =>
    if x6 < x5 then
     if mj_in x6 40 = true then
     if mj_in ((((40 : Int32) * x3) + x4) + x6) 320 = true then
      mj_lt (mj_wr f 3 (ix ((((40 : Int32) * x3) + x4) + x6)) (f 5 (ix x6))) (fun f_23 =>
       g_X7_copy_154 n x3 x4 x5 (x6 + (1 : Int32)) f_23)
      else none
     else none
    else
     some (f)
theorem r_X7_copy_154 {g : mj_L} {post : Option Value → mj_I → mj_L → Prop} : ∀ (n : Nat) (x3 : Int32) (x4 : Int32) (x5 : Int32) (x6 : Int32) (f : mj_I) (o : mj_I), g_X7_copy_154 n x3 x4 x5 x6 f = some o → mj_Ev jX7_copy 189 [some (.ref 0), none, none, none, none, some (.int x5), none] [] my_S o g post → mj_Ev jX7_copy 154 [some (.ref 0), none, none, some (.int x3), some (.int x4), some (.int x5), some (.int x6)] [] my_S f g post := by
  intro n
  induction n with
  | zero =>
    intro x3 x4 x5 x6 f o hg hk
    cases hg
  | succ n ih =>
    intro x3 x4 x5 x6 f o hg hk
    unfold g_X7_copy_154 at hg
    refine ev_iload (q := 156) dX7_copy_154 rfl rfl ?_
    refine ev_iload (q := 158) dX7_copy_156 rfl rfl ?_
    refine ev_icmp_ge (t := 189) (q := 161) dX7_copy_158 rfl rfl hg (fun hg => ?_) (fun hg => ?_)
    · refine ev_aload_n (q := 162) dX7_copy_161 rfl rfl ?_
      refine ev_getfR (q := 165) mw_f_RX7_16 rfl rfl dX7_copy_162 rfl ?_
      refine ev_bipush (v := 40) (q := 167) dX7_copy_165 mcb_40 rfl ?_
      refine ev_iload_n (q := 168) dX7_copy_167 rfl rfl ?_
      refine ev_imul (q := 169) dX7_copy_168 rfl ?_
      refine ev_iload (q := 171) dX7_copy_169 rfl rfl ?_
      refine ev_iadd (q := 172) dX7_copy_171 rfl ?_
      refine ev_iload (q := 174) dX7_copy_172 rfl rfl ?_
      refine ev_iadd (q := 175) dX7_copy_174 rfl ?_
      refine ev_aload_n (q := 176) dX7_copy_175 rfl rfl ?_
      refine ev_getfR (q := 179) mw_f_RX7_22 rfl rfl dX7_copy_176 rfl ?_
      refine ev_iload (q := 181) dX7_copy_179 rfl rfl ?_
      obtain ⟨hi_22, hg⟩ := mj_gd hg
      refine ev_ialdk (q := 182) rfl hi_22 rfl dX7_copy_181 rfl ?_
      obtain ⟨hi_23, hg⟩ := mj_gd hg
      refine ev_iastk (q := 183) rfl hi_23 rfl dX7_copy_182 rfl ?_
      refine ev_nmf (fun f_23 hf_23 => ?_)
      have hg := mj_lt_el hf_23 hg
      refine ev_iinc (v := 1) (q := 186) (loc' := [some (.ref _), none, none, some (.int _), some (.int _), some (.int _), some (.int _)]) dX7_copy_183 rfl (by decide) mci_1 rfl rfl ?_
      refine ev_goto (q := 154) dX7_copy_186 rfl ?_
      exact ih _ _ _ _ _ _ hg hk
    · obtain rfl := Option.some.inj hg
      refine ev_wk (loc' := [some (.ref _), none, none, none, none, some (.int _), none]) ⟨rfl, rfl, trivial⟩ ?_
      exact hk
def g_X7_copy (x1 : Int32) (x2 : Int32) (x3 : Int32) (x4 : Int32) (x5 : Int32) (f : mj_I) : Option (Int32 × mj_I) :=
  if (g_X7_isRow x1) = 0 then
   some (((-1000001 : Int32), f))
  else
   if (g_X7_isRow x3) = 0 then
    some (((-1000001 : Int32), f))
   else
    if mj_in x1 8 = true then
    if (f 2 (ix x1)) < 0 then
      mj_lt (g_X7_find (1 : Int32) f) (fun o_4 =>
      some ((o_4.1, o_4.2)))
     else
      if mj_in x3 8 = true then
      if (f 2 (ix x3)) < 0 then
        mj_lt (g_X7_find (1 : Int32) f) (fun o_6 =>
        some ((o_6.1, o_6.2)))
       else
        if mj_in x1 8 = true then
        if mj_in x3 8 = true then
         if (f 1 (ix x1)) = (f 1 (ix x3)) then
           if x5 < 0 then
            mj_lt (g_X7_find (2 : Int32) f) (fun o_9 =>
            some ((o_9.1, o_9.2)))
           else
            if mj_in x1 8 = true then
            if (g_X7_in (x2).toInt64 (0 : Int64) (((f 2 (ix x1))).toInt64 - (x5).toInt64)) = 0 then
              mj_lt (g_X7_find (2 : Int32) f) (fun o_12 =>
              some ((o_12.1, o_12.2)))
             else
              if mj_in x3 8 = true then
              if (g_X7_in (x4).toInt64 (0 : Int64) (((f 2 (ix x3))).toInt64 - (x5).toInt64)) = 0 then
                mj_lt (g_X7_find (2 : Int32) f) (fun o_15 =>
                some ((o_15.1, o_15.2)))
               else
                (g_X7_copy_117 mj_fuel x1 x2 x3 x4 x5 (0 : Int32) f).bind (fun q_16 =>
                (g_X7_copy_154 mj_fuel x3 x4 x5 (0 : Int32) q_16).bind (fun q_17 =>
                mj_lt (g_X7_well x5 q_17) (fun o_18 =>
                some ((o_18.1, o_18.2)))))
              else none
            else none
          else
           mj_lt (g_X7_find (5 : Int32) f) (fun o_19 =>
           some ((o_19.1, o_19.2)))
         else none
        else none
      else none
    else none
theorem r_X7_copy {x1 : Int32} {x2 : Int32} {x3 : Int32} {x4 : Int32} {x5 : Int32} {f : mj_I} {g : mj_L} {o : Int32 × mj_I} (hg : g_X7_copy x1 x2 x3 x4 x5 f = some o) : mj_Sp jX7_copy my_S [.ref 0, .int x1, .int x2, .int x3, .int x4, .int x5] f g (fun v f' g' => some (.int o.1) = v ∧ o.2 = f' ∧ g = g') := by
  refine mj_sp 1 (by decide +kernel) rfl rfl (fun _ _ => Nat.le_of_ble_eq_true rfl) ?_
  show mj_Ev jX7_copy 0 [some (.ref 0), some (.int x1), some (.int x2), some (.int x3), some (.int x4), some (.int x5), none] [] my_S f g _
  unfold g_X7_copy at hg
  refine ev_iload_n (q := 1) dX7_copy_0 rfl rfl ?_
  refine ev_callS (q := 4) kX7_isRow mw_t_X7_isRow mw_m_RX7_64 (r_X7_isRow rfl) rfl rfl (Nat.le_of_ble_eq_true rfl) (by decide) dX7_copy_1 rfl (fun v fv gv hp => ?_)
  obtain ⟨rfl, rfl, rfl, hr_1⟩ := hp
  refine ev_if_eq (t := 14) (q := 7) dX7_copy_4 rfl rfl hg (fun hg => ?_) (fun hg => ?_)
  · refine ev_ldc (q := 16) mw_c_RX7_70 dX7_copy_14 rfl ?_
    obtain rfl := Option.some.inj hg
    exact ev_iret dX7_copy_16 rfl ⟨rfl, rfl, rfl⟩
  · refine ev_iload_n (q := 8) dX7_copy_7 rfl rfl ?_
    refine ev_callS (q := 11) kX7_isRow mw_t_X7_isRow mw_m_RX7_64 (r_X7_isRow rfl) rfl rfl (Nat.le_of_ble_eq_true rfl) (by decide) dX7_copy_8 rfl (fun v fv gv hp => ?_)
    obtain ⟨rfl, rfl, rfl, hr_2⟩ := hp
    refine ev_if_ne (t := 17) (q := 14) dX7_copy_11 rfl rfl hg (fun hg => ?_) (fun hg => ?_)
    · refine ev_ldc (q := 16) mw_c_RX7_70 dX7_copy_14 rfl ?_
      obtain rfl := Option.some.inj hg
      exact ev_iret dX7_copy_16 rfl ⟨rfl, rfl, rfl⟩
    · refine ev_aload_n (q := 18) dX7_copy_17 rfl rfl ?_
      refine ev_getfR (q := 21) mw_f_RX7_13 rfl rfl dX7_copy_18 rfl ?_
      refine ev_iload_n (q := 22) dX7_copy_21 rfl rfl ?_
      obtain ⟨hi_3, hg⟩ := mj_gd hg
      refine ev_ialdk (q := 23) rfl hi_3 rfl dX7_copy_22 rfl ?_
      refine ev_if_lt (t := 35) (q := 26) dX7_copy_23 rfl rfl hg (fun hg => ?_) (fun hg => ?_)
      · refine ev_aload_n (q := 36) dX7_copy_35 rfl rfl ?_
        refine ev_iconst (v := 1) (q := 37) dX7_copy_36 mci_1 rfl ?_
        obtain ⟨o_4, ho_4, hg⟩ := mj_lte hg
        refine ev_callV (q := 40) kX7_find mw_i_X7_find mw_s_X7_find mw_m_RX7_71 rfl rfl (r_X7_find ho_4) rfl rfl (Nat.le_of_ble_eq_true rfl) (by decide) dX7_copy_37 rfl (fun v fv gv hp => ?_)
        obtain ⟨rfl, rfl, rfl⟩ := hp
        obtain rfl := Option.some.inj hg
        exact ev_iret dX7_copy_40 rfl ⟨rfl, rfl, rfl⟩
      · refine ev_aload_n (q := 27) dX7_copy_26 rfl rfl ?_
        refine ev_getfR (q := 30) mw_f_RX7_13 rfl rfl dX7_copy_27 rfl ?_
        refine ev_iload_n (q := 31) dX7_copy_30 rfl rfl ?_
        obtain ⟨hi_5, hg⟩ := mj_gd hg
        refine ev_ialdk (q := 32) rfl hi_5 rfl dX7_copy_31 rfl ?_
        refine ev_if_ge (t := 41) (q := 35) dX7_copy_32 rfl rfl hg (fun hg => ?_) (fun hg => ?_)
        · refine ev_aload_n (q := 36) dX7_copy_35 rfl rfl ?_
          refine ev_iconst (v := 1) (q := 37) dX7_copy_36 mci_1 rfl ?_
          obtain ⟨o_6, ho_6, hg⟩ := mj_lte hg
          refine ev_callV (q := 40) kX7_find mw_i_X7_find mw_s_X7_find mw_m_RX7_71 rfl rfl (r_X7_find ho_6) rfl rfl (Nat.le_of_ble_eq_true rfl) (by decide) dX7_copy_37 rfl (fun v fv gv hp => ?_)
          obtain ⟨rfl, rfl, rfl⟩ := hp
          obtain rfl := Option.some.inj hg
          exact ev_iret dX7_copy_40 rfl ⟨rfl, rfl, rfl⟩
        · refine ev_aload_n (q := 42) dX7_copy_41 rfl rfl ?_
          refine ev_getfR (q := 45) mw_f_RX7_7 rfl rfl dX7_copy_42 rfl ?_
          refine ev_iload_n (q := 46) dX7_copy_45 rfl rfl ?_
          obtain ⟨hi_7, hg⟩ := mj_gd hg
          refine ev_ialdk (q := 47) rfl hi_7 rfl dX7_copy_46 rfl ?_
          refine ev_aload_n (q := 48) dX7_copy_47 rfl rfl ?_
          refine ev_getfR (q := 51) mw_f_RX7_7 rfl rfl dX7_copy_48 rfl ?_
          refine ev_iload_n (q := 52) dX7_copy_51 rfl rfl ?_
          obtain ⟨hi_8, hg⟩ := mj_gd hg
          refine ev_ialdk (q := 53) rfl hi_8 rfl dX7_copy_52 rfl ?_
          refine ev_icmp_eq (t := 62) (q := 56) dX7_copy_53 rfl rfl hg (fun hg => ?_) (fun hg => ?_)
          · refine ev_iload (q := 64) dX7_copy_62 rfl rfl ?_
            refine ev_if_lt (t := 108) (q := 67) dX7_copy_64 rfl rfl hg (fun hg => ?_) (fun hg => ?_)
            · refine ev_aload_n (q := 109) dX7_copy_108 rfl rfl ?_
              refine ev_iconst (v := 2) (q := 110) dX7_copy_109 mci_2 rfl ?_
              obtain ⟨o_9, ho_9, hg⟩ := mj_lte hg
              refine ev_callV (q := 113) kX7_find mw_i_X7_find mw_s_X7_find mw_m_RX7_71 rfl rfl (r_X7_find ho_9) rfl rfl (Nat.le_of_ble_eq_true rfl) (by decide) dX7_copy_110 rfl (fun v fv gv hp => ?_)
              obtain ⟨rfl, rfl, rfl⟩ := hp
              obtain rfl := Option.some.inj hg
              exact ev_iret dX7_copy_113 rfl ⟨rfl, rfl, rfl⟩
            · refine ev_iload_n (q := 68) dX7_copy_67 rfl rfl ?_
              refine ev_i2l (q := 69) dX7_copy_68 rfl ?_
              refine ev_lconst (v := 0) (q := 70) dX7_copy_69 mcl_0 rfl ?_
              refine ev_aload_n (q := 71) dX7_copy_70 rfl rfl ?_
              refine ev_getfR (q := 74) mw_f_RX7_13 rfl rfl dX7_copy_71 rfl ?_
              refine ev_iload_n (q := 75) dX7_copy_74 rfl rfl ?_
              obtain ⟨hi_10, hg⟩ := mj_gd hg
              refine ev_ialdk (q := 76) rfl hi_10 rfl dX7_copy_75 rfl ?_
              refine ev_i2l (q := 77) dX7_copy_76 rfl ?_
              refine ev_iload (q := 79) dX7_copy_77 rfl rfl ?_
              refine ev_i2l (q := 80) dX7_copy_79 rfl ?_
              refine ev_lsub (q := 81) dX7_copy_80 rfl ?_
              refine ev_callS (q := 84) kX7_in mw_t_X7_in mw_m_RX7_60 (r_X7_in rfl) rfl rfl (Nat.le_of_ble_eq_true rfl) (by decide) dX7_copy_81 rfl (fun v fv gv hp => ?_)
              obtain ⟨rfl, rfl, rfl, hr_11⟩ := hp
              refine ev_if_eq (t := 108) (q := 87) dX7_copy_84 rfl rfl hg (fun hg => ?_) (fun hg => ?_)
              · refine ev_aload_n (q := 109) dX7_copy_108 rfl rfl ?_
                refine ev_iconst (v := 2) (q := 110) dX7_copy_109 mci_2 rfl ?_
                obtain ⟨o_12, ho_12, hg⟩ := mj_lte hg
                refine ev_callV (q := 113) kX7_find mw_i_X7_find mw_s_X7_find mw_m_RX7_71 rfl rfl (r_X7_find ho_12) rfl rfl (Nat.le_of_ble_eq_true rfl) (by decide) dX7_copy_110 rfl (fun v fv gv hp => ?_)
                obtain ⟨rfl, rfl, rfl⟩ := hp
                obtain rfl := Option.some.inj hg
                exact ev_iret dX7_copy_113 rfl ⟨rfl, rfl, rfl⟩
              · refine ev_iload (q := 89) dX7_copy_87 rfl rfl ?_
                refine ev_i2l (q := 90) dX7_copy_89 rfl ?_
                refine ev_lconst (v := 0) (q := 91) dX7_copy_90 mcl_0 rfl ?_
                refine ev_aload_n (q := 92) dX7_copy_91 rfl rfl ?_
                refine ev_getfR (q := 95) mw_f_RX7_13 rfl rfl dX7_copy_92 rfl ?_
                refine ev_iload_n (q := 96) dX7_copy_95 rfl rfl ?_
                obtain ⟨hi_13, hg⟩ := mj_gd hg
                refine ev_ialdk (q := 97) rfl hi_13 rfl dX7_copy_96 rfl ?_
                refine ev_i2l (q := 98) dX7_copy_97 rfl ?_
                refine ev_iload (q := 100) dX7_copy_98 rfl rfl ?_
                refine ev_i2l (q := 101) dX7_copy_100 rfl ?_
                refine ev_lsub (q := 102) dX7_copy_101 rfl ?_
                refine ev_callS (q := 105) kX7_in mw_t_X7_in mw_m_RX7_60 (r_X7_in rfl) rfl rfl (Nat.le_of_ble_eq_true rfl) (by decide) dX7_copy_102 rfl (fun v fv gv hp => ?_)
                obtain ⟨rfl, rfl, rfl, hr_14⟩ := hp
                refine ev_if_ne (t := 114) (q := 108) dX7_copy_105 rfl rfl hg (fun hg => ?_) (fun hg => ?_)
                · refine ev_aload_n (q := 109) dX7_copy_108 rfl rfl ?_
                  refine ev_iconst (v := 2) (q := 110) dX7_copy_109 mci_2 rfl ?_
                  obtain ⟨o_15, ho_15, hg⟩ := mj_lte hg
                  refine ev_callV (q := 113) kX7_find mw_i_X7_find mw_s_X7_find mw_m_RX7_71 rfl rfl (r_X7_find ho_15) rfl rfl (Nat.le_of_ble_eq_true rfl) (by decide) dX7_copy_110 rfl (fun v fv gv hp => ?_)
                  obtain ⟨rfl, rfl, rfl⟩ := hp
                  obtain rfl := Option.some.inj hg
                  exact ev_iret dX7_copy_113 rfl ⟨rfl, rfl, rfl⟩
                · refine ev_iconst (v := 0) (q := 115) dX7_copy_114 mci_0 rfl ?_
                  refine ev_istore (q := 117) (loc' := [some (.ref _), some (.int _), some (.int _), some (.int _), some (.int _), some (.int _), some (.int _)]) dX7_copy_115 (by decide) rfl rfl ?_
                  obtain ⟨q_16, hq_16, hg⟩ := mj_bd hg
                  refine r_X7_copy_117 mj_fuel _ _ _ _ _ _ _ _ hq_16 ?_
                  refine ev_iconst (v := 0) (q := 152) dX7_copy_151 mci_0 rfl ?_
                  refine ev_istore (q := 154) (loc' := [some (.ref _), none, none, some (.int _), some (.int _), some (.int _), some (.int _)]) dX7_copy_152 (by decide) rfl rfl ?_
                  obtain ⟨q_17, hq_17, hg⟩ := mj_bd hg
                  refine r_X7_copy_154 mj_fuel _ _ _ _ _ _ hq_17 ?_
                  refine ev_aload_n (q := 190) dX7_copy_189 rfl rfl ?_
                  refine ev_iload (q := 192) dX7_copy_190 rfl rfl ?_
                  obtain ⟨o_18, ho_18, hg⟩ := mj_lte hg
                  refine ev_callV (q := 195) kX7_well mw_i_X7_well mw_s_X7_well mw_m_RX7_75 rfl rfl (r_X7_well ho_18) rfl rfl (Nat.le_of_ble_eq_true rfl) (by decide) dX7_copy_192 rfl (fun v fv gv hp => ?_)
                  obtain ⟨rfl, rfl, rfl⟩ := hp
                  obtain rfl := Option.some.inj hg
                  exact ev_iret dX7_copy_195 rfl ⟨rfl, rfl, rfl⟩
          · refine ev_aload_n (q := 57) dX7_copy_56 rfl rfl ?_
            refine ev_iconst (v := 5) (q := 58) dX7_copy_57 mci_5 rfl ?_
            obtain ⟨o_19, ho_19, hg⟩ := mj_lte hg
            refine ev_callV (q := 61) kX7_find mw_i_X7_find mw_s_X7_find mw_m_RX7_71 rfl rfl (r_X7_find ho_19) rfl rfl (Nat.le_of_ble_eq_true rfl) (by decide) dX7_copy_58 rfl (fun v fv gv hp => ?_)
            obtain ⟨rfl, rfl, rfl⟩ := hp
            obtain rfl := Option.some.inj hg
            exact ev_iret dX7_copy_61 rfl ⟨rfl, rfl, rfl⟩
def g_X7_drop (x1 : Int32) (f : mj_I) : Option (Int32 × mj_I) :=
  if (g_X7_isRow x1) = 0 then
   some (((-1000001 : Int32), f))
  else
   if mj_in x1 8 = true then
   if (f 2 (ix x1)) < 0 then
     mj_lt (g_X7_find (1 : Int32) f) (fun o_3 =>
     some ((o_3.1, o_3.2)))
    else
     if mj_in x1 8 = true then
     mj_lt ((f 2 (ix x1))) (fun u_5 =>
      if mj_in x1 8 = true then
      mj_lt (mj_wr f 2 (ix x1) (-1 : Int32)) (fun f_6 =>
       mj_lt (g_X7_well u_5 f_6) (fun o_7 =>
       some ((o_7.1, o_7.2))))
      else none)
     else none
   else none
theorem r_X7_drop {x1 : Int32} {f : mj_I} {g : mj_L} {o : Int32 × mj_I} (hg : g_X7_drop x1 f = some o) : mj_Sp jX7_drop my_S [.ref 0, .int x1] f g (fun v f' g' => some (.int o.1) = v ∧ o.2 = f' ∧ g = g') := by
  refine mj_sp 1 (by decide +kernel) rfl rfl (fun _ _ => Nat.le_of_ble_eq_true rfl) ?_
  show mj_Ev jX7_drop 0 [some (.ref 0), some (.int x1), none] [] my_S f g _
  unfold g_X7_drop at hg
  refine ev_iload_n (q := 1) dX7_drop_0 rfl rfl ?_
  refine ev_callS (q := 4) kX7_isRow mw_t_X7_isRow mw_m_RX7_64 (r_X7_isRow rfl) rfl rfl (Nat.le_of_ble_eq_true rfl) (by decide) dX7_drop_1 rfl (fun v fv gv hp => ?_)
  obtain ⟨rfl, rfl, rfl, hr_1⟩ := hp
  refine ev_if_ne (t := 10) (q := 7) dX7_drop_4 rfl rfl hg (fun hg => ?_) (fun hg => ?_)
  · refine ev_ldc (q := 9) mw_c_RX7_70 dX7_drop_7 rfl ?_
    obtain rfl := Option.some.inj hg
    exact ev_iret dX7_drop_9 rfl ⟨rfl, rfl, rfl⟩
  · refine ev_aload_n (q := 11) dX7_drop_10 rfl rfl ?_
    refine ev_getfR (q := 14) mw_f_RX7_13 rfl rfl dX7_drop_11 rfl ?_
    refine ev_iload_n (q := 15) dX7_drop_14 rfl rfl ?_
    obtain ⟨hi_2, hg⟩ := mj_gd hg
    refine ev_ialdk (q := 16) rfl hi_2 rfl dX7_drop_15 rfl ?_
    refine ev_if_ge (t := 25) (q := 19) dX7_drop_16 rfl rfl hg (fun hg => ?_) (fun hg => ?_)
    · refine ev_aload_n (q := 20) dX7_drop_19 rfl rfl ?_
      refine ev_iconst (v := 1) (q := 21) dX7_drop_20 mci_1 rfl ?_
      obtain ⟨o_3, ho_3, hg⟩ := mj_lte hg
      refine ev_callV (q := 24) kX7_find mw_i_X7_find mw_s_X7_find mw_m_RX7_71 rfl rfl (r_X7_find ho_3) rfl rfl (Nat.le_of_ble_eq_true rfl) (by decide) dX7_drop_21 rfl (fun v fv gv hp => ?_)
      obtain ⟨rfl, rfl, rfl⟩ := hp
      obtain rfl := Option.some.inj hg
      exact ev_iret dX7_drop_24 rfl ⟨rfl, rfl, rfl⟩
    · refine ev_aload_n (q := 26) dX7_drop_25 rfl rfl ?_
      refine ev_getfR (q := 29) mw_f_RX7_13 rfl rfl dX7_drop_26 rfl ?_
      refine ev_iload_n (q := 30) dX7_drop_29 rfl rfl ?_
      obtain ⟨hi_4, hg⟩ := mj_gd hg
      refine ev_ialdk (q := 31) rfl hi_4 rfl dX7_drop_30 rfl ?_
      refine ev_nmi (fun u_5 hu_5 => ?_)
      have hg := mj_lt_el hu_5 hg
      refine ev_istore_n (q := 32) (loc' := [some (.ref _), some (.int _), some (.int _)]) dX7_drop_31 (by decide) rfl rfl ?_
      refine ev_aload_n (q := 33) dX7_drop_32 rfl rfl ?_
      refine ev_getfR (q := 36) mw_f_RX7_13 rfl rfl dX7_drop_33 rfl ?_
      refine ev_iload_n (q := 37) dX7_drop_36 rfl rfl ?_
      refine ev_iconst (v := -1) (q := 38) dX7_drop_37 mci_m1 rfl ?_
      obtain ⟨hi_6, hg⟩ := mj_gd hg
      refine ev_iastk (q := 39) rfl hi_6 rfl dX7_drop_38 rfl ?_
      refine ev_nmf (fun f_6 hf_6 => ?_)
      have hg := mj_lt_el hf_6 hg
      refine ev_aload_n (q := 40) dX7_drop_39 rfl rfl ?_
      refine ev_iload_n (q := 41) dX7_drop_40 rfl rfl ?_
      obtain ⟨o_7, ho_7, hg⟩ := mj_lte hg
      refine ev_callV (q := 44) kX7_well mw_i_X7_well mw_s_X7_well mw_m_RX7_75 rfl rfl (r_X7_well ho_7) rfl rfl (Nat.le_of_ble_eq_true rfl) (by decide) dX7_drop_41 rfl (fun v fv gv hp => ?_)
      obtain ⟨rfl, rfl, rfl⟩ := hp
      obtain rfl := Option.some.inj hg
      exact ev_iret dX7_drop_44 rfl ⟨rfl, rfl, rfl⟩
def g_X7_feed (x1 : Int32) (f : mj_I) : Option (Int32 × mj_I) :=
  if (g_X7_in (x1).toInt64 (0 : Int64) (255 : Int64)) = 0 then
   some (((-1000001 : Int32), f))
  else
   if (f 0 8) = (120 : Int32) then
    some (((-1000003 : Int32), f))
   else
    if mj_in (f 0 8) 120 = true then
    mj_lt (mj_wr f 6 (ix (f 0 8)) x1) (fun f_2 =>
     mj_lt (mj_wr f_2 0 8 ((f_2 0 8) + (1 : Int32))) (fun f_3 =>
     some (((f_3 0 8), f_3))))
    else none
theorem r_X7_feed {x1 : Int32} {f : mj_I} {g : mj_L} {o : Int32 × mj_I} (hg : g_X7_feed x1 f = some o) : mj_Sp jX7_feed my_S [.ref 0, .int x1] f g (fun v f' g' => some (.int o.1) = v ∧ o.2 = f' ∧ g = g') := by
  refine mj_sp 0 (by decide +kernel) rfl rfl (fun _ _ => Nat.le_of_ble_eq_true rfl) ?_
  show mj_Ev jX7_feed 0 [some (.ref 0), some (.int x1)] [] my_S f g _
  unfold g_X7_feed at hg
  refine ev_iload_n (q := 1) dX7_feed_0 rfl rfl ?_
  refine ev_i2l (q := 2) dX7_feed_1 rfl ?_
  refine ev_lconst (v := 0) (q := 3) dX7_feed_2 mcl_0 rfl ?_
  refine ev_ldc2 (q := 6) mw_c_RX7_82 dX7_feed_3 rfl ?_
  refine ev_callS (q := 9) kX7_in mw_t_X7_in mw_m_RX7_60 (r_X7_in rfl) rfl rfl (Nat.le_of_ble_eq_true rfl) (by decide) dX7_feed_6 rfl (fun v fv gv hp => ?_)
  obtain ⟨rfl, rfl, rfl, hr_1⟩ := hp
  refine ev_if_ne (t := 15) (q := 12) dX7_feed_9 rfl rfl hg (fun hg => ?_) (fun hg => ?_)
  · refine ev_ldc (q := 14) mw_c_RX7_70 dX7_feed_12 rfl ?_
    obtain rfl := Option.some.inj hg
    exact ev_iret dX7_feed_14 rfl ⟨rfl, rfl, rfl⟩
  · refine ev_aload_n (q := 16) dX7_feed_15 rfl rfl ?_
    refine ev_getfI (q := 19) mw_f_RX7_84 (by decide) (by decide) rfl dX7_feed_16 rfl ?_
    refine ev_bipush (v := 120) (q := 21) dX7_feed_19 mcb_120 rfl ?_
    refine ev_icmp_ne (t := 27) (q := 24) dX7_feed_21 rfl rfl hg (fun hg => ?_) (fun hg => ?_)
    · refine ev_ldc (q := 26) mw_c_RX7_87 dX7_feed_24 rfl ?_
      obtain rfl := Option.some.inj hg
      exact ev_iret dX7_feed_26 rfl ⟨rfl, rfl, rfl⟩
    · refine ev_aload_n (q := 28) dX7_feed_27 rfl rfl ?_
      refine ev_getfR (q := 31) mw_f_RX7_25 rfl rfl dX7_feed_28 rfl ?_
      refine ev_aload_n (q := 32) dX7_feed_31 rfl rfl ?_
      refine ev_getfI (q := 35) mw_f_RX7_84 (by decide) (by decide) rfl dX7_feed_32 rfl ?_
      refine ev_iload_n (q := 36) dX7_feed_35 rfl rfl ?_
      obtain ⟨hi_2, hg⟩ := mj_gd hg
      refine ev_iastk (q := 37) rfl hi_2 rfl dX7_feed_36 rfl ?_
      refine ev_nmf (fun f_2 hf_2 => ?_)
      have hg := mj_lt_el hf_2 hg
      refine ev_aload_n (q := 38) dX7_feed_37 rfl rfl ?_
      refine ev_dup (q := 39) dX7_feed_38 rfl rfl ?_
      refine ev_getfI (q := 42) mw_f_RX7_84 (by decide) (by decide) rfl dX7_feed_39 rfl ?_
      refine ev_iconst (v := 1) (q := 43) dX7_feed_42 mci_1 rfl ?_
      refine ev_iadd (q := 44) dX7_feed_43 rfl ?_
      refine ev_putfI (q := 47) mw_f_RX7_84 rfl dX7_feed_44 rfl ?_
      refine ev_nmf (fun f_3 hf_3 => ?_)
      have hg := mj_lt_el hf_3 hg
      refine ev_aload_n (q := 48) dX7_feed_47 rfl rfl ?_
      refine ev_getfI (q := 51) mw_f_RX7_84 (by decide) (by decide) rfl dX7_feed_48 rfl ?_
      obtain rfl := Option.some.inj hg
      exact ev_iret dX7_feed_51 rfl ⟨rfl, rfl, rfl⟩
def g_X7_nextToken_33 : Nat → mj_I → Option (mj_I)
  | 0, _ => none
  | n + 1, f =>
    if (f 0 10) < (f 0 8) then
     if mj_in (f 0 10) 120 = true then
     if (g_X7_in ((f 6 (ix (f 0 10)))).toInt64 (48 : Int64) (57 : Int64)) = 0 then
       some (f)
      else
       if (99 : Int32) < (f 0 12) then
        mj_lt (mj_wr f 0 12 (f 0 12)) (fun f_24 =>
        mj_lt (mj_wr f_24 0 10 ((f_24 0 10) + (1 : Int32))) (fun f_25 =>
        g_X7_nextToken_33 n f_25))
       else
        if mj_in (f 0 10) 120 = true then
        mj_lt (mj_wr f 0 12 ((((10 : Int32) * (f 0 12)) + (f 6 (ix (f 0 10)))) - (48 : Int32))) (fun f_27 =>
         mj_lt (mj_wr f_27 0 10 ((f_27 0 10) + (1 : Int32))) (fun f_28 =>
         g_X7_nextToken_33 n f_28))
        else none
     else none
    else
     some (f)
theorem r_X7_nextToken_33 {g : mj_L} {post : Option Value → mj_I → mj_L → Prop} : ∀ (n : Nat) (f : mj_I) (o : mj_I), g_X7_nextToken_33 n f = some o → mj_Ev jX7_nextToken 119 [some (.ref 0)] [] my_S o g post → mj_Ev jX7_nextToken 33 [some (.ref 0)] [] my_S f g post := by
  intro n
  induction n with
  | zero =>
    intro f o hg hk
    cases hg
  | succ n ih =>
    intro f o hg hk
    unfold g_X7_nextToken_33 at hg
    refine ev_aload_n (q := 34) dX7_nextToken_33 rfl rfl ?_
    refine ev_getfI (q := 37) mw_f_RX7_88 (by decide) (by decide) rfl dX7_nextToken_34 rfl ?_
    refine ev_aload_n (q := 38) dX7_nextToken_37 rfl rfl ?_
    refine ev_getfI (q := 41) mw_f_RX7_84 (by decide) (by decide) rfl dX7_nextToken_38 rfl ?_
    refine ev_icmp_ge (t := 119) (q := 44) dX7_nextToken_41 rfl rfl hg (fun hg => ?_) (fun hg => ?_)
    · refine ev_aload_n (q := 45) dX7_nextToken_44 rfl rfl ?_
      refine ev_getfR (q := 48) mw_f_RX7_25 rfl rfl dX7_nextToken_45 rfl ?_
      refine ev_aload_n (q := 49) dX7_nextToken_48 rfl rfl ?_
      refine ev_getfI (q := 52) mw_f_RX7_88 (by decide) (by decide) rfl dX7_nextToken_49 rfl ?_
      obtain ⟨hi_22, hg⟩ := mj_gd hg
      refine ev_ialdk (q := 53) rfl hi_22 rfl dX7_nextToken_52 rfl ?_
      refine ev_i2l (q := 54) dX7_nextToken_53 rfl ?_
      refine ev_ldc2 (q := 57) mw_c_RX7_100 dX7_nextToken_54 rfl ?_
      refine ev_ldc2 (q := 60) mw_c_RX7_102 dX7_nextToken_57 rfl ?_
      refine ev_callS (q := 63) kX7_in mw_t_X7_in mw_m_RX7_60 (r_X7_in rfl) rfl rfl (Nat.le_of_ble_eq_true rfl) (by decide) dX7_nextToken_60 rfl (fun v fv gv hp => ?_)
      obtain ⟨rfl, rfl, rfl, hr_23⟩ := hp
      refine ev_if_eq (t := 119) (q := 66) dX7_nextToken_63 rfl rfl hg (fun hg => ?_) (fun hg => ?_)
      · obtain rfl := Option.some.inj hg
        exact hk
      · refine ev_aload_n (q := 67) dX7_nextToken_66 rfl rfl ?_
        refine ev_aload_n (q := 68) dX7_nextToken_67 rfl rfl ?_
        refine ev_getfI (q := 71) mw_f_RX7_97 (by decide) (by decide) rfl dX7_nextToken_68 rfl ?_
        refine ev_bipush (v := 99) (q := 73) dX7_nextToken_71 mcb_99 rfl ?_
        refine ev_icmp_le (t := 83) (q := 76) dX7_nextToken_73 rfl rfl hg (fun hg => ?_) (fun hg => ?_)
        · refine ev_aload_n (q := 77) dX7_nextToken_76 rfl rfl ?_
          refine ev_getfI (q := 80) mw_f_RX7_97 (by decide) (by decide) rfl dX7_nextToken_77 rfl ?_
          refine ev_goto (q := 103) dX7_nextToken_80 rfl ?_
          refine ev_putfI (q := 106) mw_f_RX7_97 rfl dX7_nextToken_103 rfl ?_
          refine ev_nmf (fun f_24 hf_24 => ?_)
          have hg := mj_lt_el hf_24 hg
          refine ev_aload_n (q := 107) dX7_nextToken_106 rfl rfl ?_
          refine ev_dup (q := 108) dX7_nextToken_107 rfl rfl ?_
          refine ev_getfI (q := 111) mw_f_RX7_88 (by decide) (by decide) rfl dX7_nextToken_108 rfl ?_
          refine ev_iconst (v := 1) (q := 112) dX7_nextToken_111 mci_1 rfl ?_
          refine ev_iadd (q := 113) dX7_nextToken_112 rfl ?_
          refine ev_putfI (q := 116) mw_f_RX7_88 rfl dX7_nextToken_113 rfl ?_
          refine ev_nmf (fun f_25 hf_25 => ?_)
          have hg := mj_lt_el hf_25 hg
          refine ev_goto (q := 33) dX7_nextToken_116 rfl ?_
          exact ih _ _ hg hk
        · refine ev_bipush (v := 10) (q := 85) dX7_nextToken_83 mcb_10 rfl ?_
          refine ev_aload_n (q := 86) dX7_nextToken_85 rfl rfl ?_
          refine ev_getfI (q := 89) mw_f_RX7_97 (by decide) (by decide) rfl dX7_nextToken_86 rfl ?_
          refine ev_imul (q := 90) dX7_nextToken_89 rfl ?_
          refine ev_aload_n (q := 91) dX7_nextToken_90 rfl rfl ?_
          refine ev_getfR (q := 94) mw_f_RX7_25 rfl rfl dX7_nextToken_91 rfl ?_
          refine ev_aload_n (q := 95) dX7_nextToken_94 rfl rfl ?_
          refine ev_getfI (q := 98) mw_f_RX7_88 (by decide) (by decide) rfl dX7_nextToken_95 rfl ?_
          obtain ⟨hi_26, hg⟩ := mj_gd hg
          refine ev_ialdk (q := 99) rfl hi_26 rfl dX7_nextToken_98 rfl ?_
          refine ev_iadd (q := 100) dX7_nextToken_99 rfl ?_
          refine ev_bipush (v := 48) (q := 102) dX7_nextToken_100 mcb_48 rfl ?_
          refine ev_isub (q := 103) dX7_nextToken_102 rfl ?_
          refine ev_putfI (q := 106) mw_f_RX7_97 rfl dX7_nextToken_103 rfl ?_
          refine ev_nmf (fun f_27 hf_27 => ?_)
          have hg := mj_lt_el hf_27 hg
          refine ev_aload_n (q := 107) dX7_nextToken_106 rfl rfl ?_
          refine ev_dup (q := 108) dX7_nextToken_107 rfl rfl ?_
          refine ev_getfI (q := 111) mw_f_RX7_88 (by decide) (by decide) rfl dX7_nextToken_108 rfl ?_
          refine ev_iconst (v := 1) (q := 112) dX7_nextToken_111 mci_1 rfl ?_
          refine ev_iadd (q := 113) dX7_nextToken_112 rfl ?_
          refine ev_putfI (q := 116) mw_f_RX7_88 rfl dX7_nextToken_113 rfl ?_
          refine ev_nmf (fun f_28 hf_28 => ?_)
          have hg := mj_lt_el hf_28 hg
          refine ev_goto (q := 33) dX7_nextToken_116 rfl ?_
          exact ih _ _ hg hk
    · obtain rfl := Option.some.inj hg
      exact hk
def g_X7_nextToken_211 (f : mj_I) : Option (mj_I) :=
  mj_lt (mj_wr f 0 11 (1 : Int32)) (fun f_29 =>
  mj_lt (mj_wr f_29 0 10 ((f_29 0 10) + (1 : Int32))) (fun f_30 =>
  some (f_30)))
theorem r_X7_nextToken_211 {g : mj_L} : ∀ (f : mj_I) (o : mj_I), g_X7_nextToken_211 f = some o → mj_Ev jX7_nextToken 211 [some (.ref 0)] [.ref 0] my_S f g (fun v f' g' => none = v ∧ o = f' ∧ g = g') := by
  intro f o hg
  unfold g_X7_nextToken_211 at hg
  refine ev_iconst (v := 1) (q := 212) dX7_nextToken_211 mci_1 rfl ?_
  refine ev_goto (q := 216) dX7_nextToken_212 rfl ?_
  refine ev_putfI (q := 219) mw_f_RX7_94 rfl dX7_nextToken_216 rfl ?_
  refine ev_nmf (fun f_29 hf_29 => ?_)
  have hg := mj_lt_el hf_29 hg
  refine ev_aload_n (q := 220) dX7_nextToken_219 rfl rfl ?_
  refine ev_dup (q := 221) dX7_nextToken_220 rfl rfl ?_
  refine ev_getfI (q := 224) mw_f_RX7_88 (by decide) (by decide) rfl dX7_nextToken_221 rfl ?_
  refine ev_iconst (v := 1) (q := 225) dX7_nextToken_224 mci_1 rfl ?_
  refine ev_iadd (q := 226) dX7_nextToken_225 rfl ?_
  refine ev_putfI (q := 229) mw_f_RX7_88 rfl dX7_nextToken_226 rfl ?_
  refine ev_nmf (fun f_30 hf_30 => ?_)
  have hg := mj_lt_el hf_30 hg
  obtain rfl := Option.some.inj hg
  exact ev_vret dX7_nextToken_229 rfl ⟨rfl, rfl, rfl⟩
def g_X7_nextToken (f : mj_I) : Option (mj_I) :=
  mj_lt (mj_wr f 0 13 (f 0 10)) (fun f_1 =>
  if (f_1 0 10) = (f_1 0 8) then
   mj_lt (mj_wr f_1 0 11 (3 : Int32)) (fun f_2 =>
   mj_lt (mj_wr f_2 0 12 (0 : Int32)) (fun f_3 =>
   (g_X7_nextToken_33 mj_fuel f_3).bind (fun q_4 =>
   if (q_4 0 13) < (q_4 0 10) then
    if (2 : Int32) < ((q_4 0 10) - (q_4 0 13)) then
     mj_lt (mj_wr q_4 0 11 (0 : Int32)) (fun f_5 =>
     some (f_5))
    else
     mj_lt (mj_wr q_4 0 11 (2 : Int32)) (fun f_6 =>
     some (f_6))
   else
    if (q_4 0 11) = 0 then
     if mj_in (q_4 0 10) 120 = true then
     mj_lt (mj_wr q_4 0 12 (q_4 6 (ix (q_4 0 10)))) (fun f_8 =>
      if (g_X7_in ((f_8 0 12)).toInt64 (97 : Int64) (122 : Int64)) = 0 then
       if (f_8 0 12) = (44 : Int32) then
        g_X7_nextToken_211 f_8
       else
        if (f_8 0 12) = (59 : Int32) then
         g_X7_nextToken_211 f_8
        else
         mj_lt (mj_wr f_8 0 11 (0 : Int32)) (fun f_10 =>
         mj_lt (mj_wr f_10 0 10 ((f_10 0 10) + (1 : Int32))) (fun f_11 =>
         some (f_11)))
      else
       g_X7_nextToken_211 f_8)
     else none
    else
     some (q_4))))
  else
   mj_lt (mj_wr f_1 0 11 (0 : Int32)) (fun f_12 =>
   mj_lt (mj_wr f_12 0 12 (0 : Int32)) (fun f_13 =>
   (g_X7_nextToken_33 mj_fuel f_13).bind (fun q_14 =>
   if (q_14 0 13) < (q_14 0 10) then
    if (2 : Int32) < ((q_14 0 10) - (q_14 0 13)) then
     mj_lt (mj_wr q_14 0 11 (0 : Int32)) (fun f_15 =>
     some (f_15))
    else
     mj_lt (mj_wr q_14 0 11 (2 : Int32)) (fun f_16 =>
     some (f_16))
   else
    if (q_14 0 11) = 0 then
     if mj_in (q_14 0 10) 120 = true then
     mj_lt (mj_wr q_14 0 12 (q_14 6 (ix (q_14 0 10)))) (fun f_18 =>
      if (g_X7_in ((f_18 0 12)).toInt64 (97 : Int64) (122 : Int64)) = 0 then
       if (f_18 0 12) = (44 : Int32) then
        g_X7_nextToken_211 f_18
       else
        if (f_18 0 12) = (59 : Int32) then
         g_X7_nextToken_211 f_18
        else
         mj_lt (mj_wr f_18 0 11 (0 : Int32)) (fun f_20 =>
         mj_lt (mj_wr f_20 0 10 ((f_20 0 10) + (1 : Int32))) (fun f_21 =>
         some (f_21)))
      else
       g_X7_nextToken_211 f_18)
     else none
    else
     some (q_14)))))
theorem r_X7_nextToken {f : mj_I} {g : mj_L} {o : mj_I} (hg : g_X7_nextToken f = some o) : mj_Sp jX7_nextToken my_S [.ref 0] f g (fun v f' g' => none = v ∧ o = f' ∧ g = g') := by
  refine mj_sp 0 (by decide +kernel) rfl rfl (fun _ _ => Nat.le_of_ble_eq_true rfl) ?_
  show mj_Ev jX7_nextToken 0 [some (.ref 0)] [] my_S f g _
  unfold g_X7_nextToken at hg
  refine ev_aload_n (q := 1) dX7_nextToken_0 rfl rfl ?_
  refine ev_aload_n (q := 2) dX7_nextToken_1 rfl rfl ?_
  refine ev_getfI (q := 5) mw_f_RX7_88 (by decide) (by decide) rfl dX7_nextToken_2 rfl ?_
  refine ev_putfI (q := 8) mw_f_RX7_91 rfl dX7_nextToken_5 rfl ?_
  refine ev_nmf (fun f_1 hf_1 => ?_)
  have hg := mj_lt_el hf_1 hg
  refine ev_aload_n (q := 9) dX7_nextToken_8 rfl rfl ?_
  refine ev_aload_n (q := 10) dX7_nextToken_9 rfl rfl ?_
  refine ev_getfI (q := 13) mw_f_RX7_88 (by decide) (by decide) rfl dX7_nextToken_10 rfl ?_
  refine ev_aload_n (q := 14) dX7_nextToken_13 rfl rfl ?_
  refine ev_getfI (q := 17) mw_f_RX7_84 (by decide) (by decide) rfl dX7_nextToken_14 rfl ?_
  refine ev_icmp_ne (t := 24) (q := 20) dX7_nextToken_17 rfl rfl hg (fun hg => ?_) (fun hg => ?_)
  · refine ev_iconst (v := 3) (q := 21) dX7_nextToken_20 mci_3 rfl ?_
    refine ev_goto (q := 25) dX7_nextToken_21 rfl ?_
    refine ev_putfI (q := 28) mw_f_RX7_94 rfl dX7_nextToken_25 rfl ?_
    refine ev_nmf (fun f_2 hf_2 => ?_)
    have hg := mj_lt_el hf_2 hg
    refine ev_aload_n (q := 29) dX7_nextToken_28 rfl rfl ?_
    refine ev_iconst (v := 0) (q := 30) dX7_nextToken_29 mci_0 rfl ?_
    refine ev_putfI (q := 33) mw_f_RX7_97 rfl dX7_nextToken_30 rfl ?_
    refine ev_nmf (fun f_3 hf_3 => ?_)
    have hg := mj_lt_el hf_3 hg
    obtain ⟨q_4, hq_4, hg⟩ := mj_bd hg
    refine r_X7_nextToken_33 mj_fuel _ _ hq_4 ?_
    refine ev_aload_n (q := 120) dX7_nextToken_119 rfl rfl ?_
    refine ev_getfI (q := 123) mw_f_RX7_88 (by decide) (by decide) rfl dX7_nextToken_120 rfl ?_
    refine ev_aload_n (q := 124) dX7_nextToken_123 rfl rfl ?_
    refine ev_getfI (q := 127) mw_f_RX7_91 (by decide) (by decide) rfl dX7_nextToken_124 rfl ?_
    refine ev_icmp_le (t := 155) (q := 130) dX7_nextToken_127 rfl rfl hg (fun hg => ?_) (fun hg => ?_)
    · refine ev_aload_n (q := 131) dX7_nextToken_130 rfl rfl ?_
      refine ev_aload_n (q := 132) dX7_nextToken_131 rfl rfl ?_
      refine ev_getfI (q := 135) mw_f_RX7_88 (by decide) (by decide) rfl dX7_nextToken_132 rfl ?_
      refine ev_aload_n (q := 136) dX7_nextToken_135 rfl rfl ?_
      refine ev_getfI (q := 139) mw_f_RX7_91 (by decide) (by decide) rfl dX7_nextToken_136 rfl ?_
      refine ev_isub (q := 140) dX7_nextToken_139 rfl ?_
      refine ev_iconst (v := 2) (q := 141) dX7_nextToken_140 mci_2 rfl ?_
      refine ev_icmp_le (t := 148) (q := 144) dX7_nextToken_141 rfl rfl hg (fun hg => ?_) (fun hg => ?_)
      · refine ev_iconst (v := 0) (q := 145) dX7_nextToken_144 mci_0 rfl ?_
        refine ev_goto (q := 149) dX7_nextToken_145 rfl ?_
        refine ev_putfI (q := 152) mw_f_RX7_94 rfl dX7_nextToken_149 rfl ?_
        refine ev_nmf (fun f_5 hf_5 => ?_)
        have hg := mj_lt_el hf_5 hg
        refine ev_goto (q := 229) dX7_nextToken_152 rfl ?_
        obtain rfl := Option.some.inj hg
        exact ev_vret dX7_nextToken_229 rfl ⟨rfl, rfl, rfl⟩
      · refine ev_iconst (v := 2) (q := 149) dX7_nextToken_148 mci_2 rfl ?_
        refine ev_putfI (q := 152) mw_f_RX7_94 rfl dX7_nextToken_149 rfl ?_
        refine ev_nmf (fun f_6 hf_6 => ?_)
        have hg := mj_lt_el hf_6 hg
        refine ev_goto (q := 229) dX7_nextToken_152 rfl ?_
        obtain rfl := Option.some.inj hg
        exact ev_vret dX7_nextToken_229 rfl ⟨rfl, rfl, rfl⟩
    · refine ev_aload_n (q := 156) dX7_nextToken_155 rfl rfl ?_
      refine ev_getfI (q := 159) mw_f_RX7_94 (by decide) (by decide) rfl dX7_nextToken_156 rfl ?_
      refine ev_if_ne (t := 229) (q := 162) dX7_nextToken_159 rfl rfl hg (fun hg => ?_) (fun hg => ?_)
      · refine ev_aload_n (q := 163) dX7_nextToken_162 rfl rfl ?_
        refine ev_aload_n (q := 164) dX7_nextToken_163 rfl rfl ?_
        refine ev_getfR (q := 167) mw_f_RX7_25 rfl rfl dX7_nextToken_164 rfl ?_
        refine ev_aload_n (q := 168) dX7_nextToken_167 rfl rfl ?_
        refine ev_getfI (q := 171) mw_f_RX7_88 (by decide) (by decide) rfl dX7_nextToken_168 rfl ?_
        obtain ⟨hi_7, hg⟩ := mj_gd hg
        refine ev_ialdk (q := 172) rfl hi_7 rfl dX7_nextToken_171 rfl ?_
        refine ev_putfI (q := 175) mw_f_RX7_97 rfl dX7_nextToken_172 rfl ?_
        refine ev_nmf (fun f_8 hf_8 => ?_)
        have hg := mj_lt_el hf_8 hg
        refine ev_aload_n (q := 176) dX7_nextToken_175 rfl rfl ?_
        refine ev_aload_n (q := 177) dX7_nextToken_176 rfl rfl ?_
        refine ev_getfI (q := 180) mw_f_RX7_97 (by decide) (by decide) rfl dX7_nextToken_177 rfl ?_
        refine ev_i2l (q := 181) dX7_nextToken_180 rfl ?_
        refine ev_ldc2 (q := 184) mw_c_RX7_104 dX7_nextToken_181 rfl ?_
        refine ev_ldc2 (q := 187) mw_c_RX7_106 dX7_nextToken_184 rfl ?_
        refine ev_callS (q := 190) kX7_in mw_t_X7_in mw_m_RX7_60 (r_X7_in rfl) rfl rfl (Nat.le_of_ble_eq_true rfl) (by decide) dX7_nextToken_187 rfl (fun v fv gv hp => ?_)
        obtain ⟨rfl, rfl, rfl, hr_9⟩ := hp
        refine ev_if_ne (t := 211) (q := 193) dX7_nextToken_190 rfl rfl hg (fun hg => ?_) (fun hg => ?_)
        · refine ev_aload_n (q := 194) dX7_nextToken_193 rfl rfl ?_
          refine ev_getfI (q := 197) mw_f_RX7_97 (by decide) (by decide) rfl dX7_nextToken_194 rfl ?_
          refine ev_bipush (v := 44) (q := 199) dX7_nextToken_197 mcb_44 rfl ?_
          refine ev_icmp_eq (t := 211) (q := 202) dX7_nextToken_199 rfl rfl hg (fun hg => ?_) (fun hg => ?_)
          · exact r_X7_nextToken_211 _ _ hg
          · refine ev_aload_n (q := 203) dX7_nextToken_202 rfl rfl ?_
            refine ev_getfI (q := 206) mw_f_RX7_97 (by decide) (by decide) rfl dX7_nextToken_203 rfl ?_
            refine ev_bipush (v := 59) (q := 208) dX7_nextToken_206 mcb_59 rfl ?_
            refine ev_icmp_ne (t := 215) (q := 211) dX7_nextToken_208 rfl rfl hg (fun hg => ?_) (fun hg => ?_)
            · exact r_X7_nextToken_211 _ _ hg
            · refine ev_iconst (v := 0) (q := 216) dX7_nextToken_215 mci_0 rfl ?_
              refine ev_putfI (q := 219) mw_f_RX7_94 rfl dX7_nextToken_216 rfl ?_
              refine ev_nmf (fun f_10 hf_10 => ?_)
              have hg := mj_lt_el hf_10 hg
              refine ev_aload_n (q := 220) dX7_nextToken_219 rfl rfl ?_
              refine ev_dup (q := 221) dX7_nextToken_220 rfl rfl ?_
              refine ev_getfI (q := 224) mw_f_RX7_88 (by decide) (by decide) rfl dX7_nextToken_221 rfl ?_
              refine ev_iconst (v := 1) (q := 225) dX7_nextToken_224 mci_1 rfl ?_
              refine ev_iadd (q := 226) dX7_nextToken_225 rfl ?_
              refine ev_putfI (q := 229) mw_f_RX7_88 rfl dX7_nextToken_226 rfl ?_
              refine ev_nmf (fun f_11 hf_11 => ?_)
              have hg := mj_lt_el hf_11 hg
              obtain rfl := Option.some.inj hg
              exact ev_vret dX7_nextToken_229 rfl ⟨rfl, rfl, rfl⟩
        · exact r_X7_nextToken_211 _ _ hg
      · obtain rfl := Option.some.inj hg
        exact ev_vret dX7_nextToken_229 rfl ⟨rfl, rfl, rfl⟩
  · refine ev_iconst (v := 0) (q := 25) dX7_nextToken_24 mci_0 rfl ?_
    refine ev_putfI (q := 28) mw_f_RX7_94 rfl dX7_nextToken_25 rfl ?_
    refine ev_nmf (fun f_12 hf_12 => ?_)
    have hg := mj_lt_el hf_12 hg
    refine ev_aload_n (q := 29) dX7_nextToken_28 rfl rfl ?_
    refine ev_iconst (v := 0) (q := 30) dX7_nextToken_29 mci_0 rfl ?_
    refine ev_putfI (q := 33) mw_f_RX7_97 rfl dX7_nextToken_30 rfl ?_
    refine ev_nmf (fun f_13 hf_13 => ?_)
    have hg := mj_lt_el hf_13 hg
    obtain ⟨q_14, hq_14, hg⟩ := mj_bd hg
    refine r_X7_nextToken_33 mj_fuel _ _ hq_14 ?_
    refine ev_aload_n (q := 120) dX7_nextToken_119 rfl rfl ?_
    refine ev_getfI (q := 123) mw_f_RX7_88 (by decide) (by decide) rfl dX7_nextToken_120 rfl ?_
    refine ev_aload_n (q := 124) dX7_nextToken_123 rfl rfl ?_
    refine ev_getfI (q := 127) mw_f_RX7_91 (by decide) (by decide) rfl dX7_nextToken_124 rfl ?_
    refine ev_icmp_le (t := 155) (q := 130) dX7_nextToken_127 rfl rfl hg (fun hg => ?_) (fun hg => ?_)
    · refine ev_aload_n (q := 131) dX7_nextToken_130 rfl rfl ?_
      refine ev_aload_n (q := 132) dX7_nextToken_131 rfl rfl ?_
      refine ev_getfI (q := 135) mw_f_RX7_88 (by decide) (by decide) rfl dX7_nextToken_132 rfl ?_
      refine ev_aload_n (q := 136) dX7_nextToken_135 rfl rfl ?_
      refine ev_getfI (q := 139) mw_f_RX7_91 (by decide) (by decide) rfl dX7_nextToken_136 rfl ?_
      refine ev_isub (q := 140) dX7_nextToken_139 rfl ?_
      refine ev_iconst (v := 2) (q := 141) dX7_nextToken_140 mci_2 rfl ?_
      refine ev_icmp_le (t := 148) (q := 144) dX7_nextToken_141 rfl rfl hg (fun hg => ?_) (fun hg => ?_)
      · refine ev_iconst (v := 0) (q := 145) dX7_nextToken_144 mci_0 rfl ?_
        refine ev_goto (q := 149) dX7_nextToken_145 rfl ?_
        refine ev_putfI (q := 152) mw_f_RX7_94 rfl dX7_nextToken_149 rfl ?_
        refine ev_nmf (fun f_15 hf_15 => ?_)
        have hg := mj_lt_el hf_15 hg
        refine ev_goto (q := 229) dX7_nextToken_152 rfl ?_
        obtain rfl := Option.some.inj hg
        exact ev_vret dX7_nextToken_229 rfl ⟨rfl, rfl, rfl⟩
      · refine ev_iconst (v := 2) (q := 149) dX7_nextToken_148 mci_2 rfl ?_
        refine ev_putfI (q := 152) mw_f_RX7_94 rfl dX7_nextToken_149 rfl ?_
        refine ev_nmf (fun f_16 hf_16 => ?_)
        have hg := mj_lt_el hf_16 hg
        refine ev_goto (q := 229) dX7_nextToken_152 rfl ?_
        obtain rfl := Option.some.inj hg
        exact ev_vret dX7_nextToken_229 rfl ⟨rfl, rfl, rfl⟩
    · refine ev_aload_n (q := 156) dX7_nextToken_155 rfl rfl ?_
      refine ev_getfI (q := 159) mw_f_RX7_94 (by decide) (by decide) rfl dX7_nextToken_156 rfl ?_
      refine ev_if_ne (t := 229) (q := 162) dX7_nextToken_159 rfl rfl hg (fun hg => ?_) (fun hg => ?_)
      · refine ev_aload_n (q := 163) dX7_nextToken_162 rfl rfl ?_
        refine ev_aload_n (q := 164) dX7_nextToken_163 rfl rfl ?_
        refine ev_getfR (q := 167) mw_f_RX7_25 rfl rfl dX7_nextToken_164 rfl ?_
        refine ev_aload_n (q := 168) dX7_nextToken_167 rfl rfl ?_
        refine ev_getfI (q := 171) mw_f_RX7_88 (by decide) (by decide) rfl dX7_nextToken_168 rfl ?_
        obtain ⟨hi_17, hg⟩ := mj_gd hg
        refine ev_ialdk (q := 172) rfl hi_17 rfl dX7_nextToken_171 rfl ?_
        refine ev_putfI (q := 175) mw_f_RX7_97 rfl dX7_nextToken_172 rfl ?_
        refine ev_nmf (fun f_18 hf_18 => ?_)
        have hg := mj_lt_el hf_18 hg
        refine ev_aload_n (q := 176) dX7_nextToken_175 rfl rfl ?_
        refine ev_aload_n (q := 177) dX7_nextToken_176 rfl rfl ?_
        refine ev_getfI (q := 180) mw_f_RX7_97 (by decide) (by decide) rfl dX7_nextToken_177 rfl ?_
        refine ev_i2l (q := 181) dX7_nextToken_180 rfl ?_
        refine ev_ldc2 (q := 184) mw_c_RX7_104 dX7_nextToken_181 rfl ?_
        refine ev_ldc2 (q := 187) mw_c_RX7_106 dX7_nextToken_184 rfl ?_
        refine ev_callS (q := 190) kX7_in mw_t_X7_in mw_m_RX7_60 (r_X7_in rfl) rfl rfl (Nat.le_of_ble_eq_true rfl) (by decide) dX7_nextToken_187 rfl (fun v fv gv hp => ?_)
        obtain ⟨rfl, rfl, rfl, hr_19⟩ := hp
        refine ev_if_ne (t := 211) (q := 193) dX7_nextToken_190 rfl rfl hg (fun hg => ?_) (fun hg => ?_)
        · refine ev_aload_n (q := 194) dX7_nextToken_193 rfl rfl ?_
          refine ev_getfI (q := 197) mw_f_RX7_97 (by decide) (by decide) rfl dX7_nextToken_194 rfl ?_
          refine ev_bipush (v := 44) (q := 199) dX7_nextToken_197 mcb_44 rfl ?_
          refine ev_icmp_eq (t := 211) (q := 202) dX7_nextToken_199 rfl rfl hg (fun hg => ?_) (fun hg => ?_)
          · exact r_X7_nextToken_211 _ _ hg
          · refine ev_aload_n (q := 203) dX7_nextToken_202 rfl rfl ?_
            refine ev_getfI (q := 206) mw_f_RX7_97 (by decide) (by decide) rfl dX7_nextToken_203 rfl ?_
            refine ev_bipush (v := 59) (q := 208) dX7_nextToken_206 mcb_59 rfl ?_
            refine ev_icmp_ne (t := 215) (q := 211) dX7_nextToken_208 rfl rfl hg (fun hg => ?_) (fun hg => ?_)
            · exact r_X7_nextToken_211 _ _ hg
            · refine ev_iconst (v := 0) (q := 216) dX7_nextToken_215 mci_0 rfl ?_
              refine ev_putfI (q := 219) mw_f_RX7_94 rfl dX7_nextToken_216 rfl ?_
              refine ev_nmf (fun f_20 hf_20 => ?_)
              have hg := mj_lt_el hf_20 hg
              refine ev_aload_n (q := 220) dX7_nextToken_219 rfl rfl ?_
              refine ev_dup (q := 221) dX7_nextToken_220 rfl rfl ?_
              refine ev_getfI (q := 224) mw_f_RX7_88 (by decide) (by decide) rfl dX7_nextToken_221 rfl ?_
              refine ev_iconst (v := 1) (q := 225) dX7_nextToken_224 mci_1 rfl ?_
              refine ev_iadd (q := 226) dX7_nextToken_225 rfl ?_
              refine ev_putfI (q := 229) mw_f_RX7_88 rfl dX7_nextToken_226 rfl ?_
              refine ev_nmf (fun f_21 hf_21 => ?_)
              have hg := mj_lt_el hf_21 hg
              obtain rfl := Option.some.inj hg
              exact ev_vret dX7_nextToken_229 rfl ⟨rfl, rfl, rfl⟩
        · exact r_X7_nextToken_211 _ _ hg
      · obtain rfl := Option.some.inj hg
        exact ev_vret dX7_nextToken_229 rfl ⟨rfl, rfl, rfl⟩
def g_X7_faults (x1 : Int32) (f : mj_I) : Int32 × mj_I :=
  mj_lt (mj_wr f 0 14 x1) (fun f_1 =>
  ((0 : Int32), f_1))
theorem r_X7_faults {x1 : Int32} {f : mj_I} {g : mj_L} {o : Int32 × mj_I} (hg : g_X7_faults x1 f = o) : mj_Sp jX7_faults my_S [.ref 0, .int x1] f g (fun v f' g' => some (.int o.1) = v ∧ o.2 = f' ∧ g = g' ∧ mj_b (o.1) = true) := by
  refine mj_sp 0 (by decide +kernel) rfl rfl (fun _ _ => Nat.le_of_ble_eq_true rfl) ?_
  show mj_Ev jX7_faults 0 [some (.ref 0), some (.int x1)] [] my_S f g _
  unfold g_X7_faults at hg
  refine ev_aload_n (q := 1) dX7_faults_0 rfl rfl ?_
  refine ev_iload_n (q := 2) dX7_faults_1 rfl rfl ?_
  refine ev_putfI (q := 5) mw_f_RX7_108 rfl dX7_faults_2 rfl ?_
  refine ev_nmf (fun f_1 hf_1 => ?_)
  have hg := mj_lt_el hf_1 hg
  refine ev_iconst (v := 0) (q := 6) dX7_faults_5 mci_0 rfl ?_
  subst hg
  exact ev_zret dX7_faults_6 rfl (mcz_0) ⟨rfl, rfl, rfl, (mcz_0)⟩
def g_X7_isLetter (x1 : Int32) (f : mj_I) : Int32 :=
  if (f 0 11) = (1 : Int32) then
   if (f 0 12) = x1 then
    (1 : Int32)
   else
    (0 : Int32)
  else
   (0 : Int32)
theorem r_X7_isLetter {x1 : Int32} {f : mj_I} {g : mj_L} {o : Int32} (hg : g_X7_isLetter x1 f = o) : mj_Sp jX7_isLetter my_S [.ref 0, .int x1] f g (fun v f' g' => some (.int o) = v ∧ f = f' ∧ g = g' ∧ mj_b (o) = true) := by
  refine mj_sp 0 (by decide +kernel) rfl rfl (fun _ _ => Nat.le_of_ble_eq_true rfl) ?_
  show mj_Ev jX7_isLetter 0 [some (.ref 0), some (.int x1)] [] my_S f g _
  unfold g_X7_isLetter at hg
  refine ev_aload_n (q := 1) dX7_isLetter_0 rfl rfl ?_
  refine ev_getfI (q := 4) mw_f_RX7_94 (by decide) (by decide) rfl dX7_isLetter_1 rfl ?_
  refine ev_iconst (v := 1) (q := 5) dX7_isLetter_4 mci_1 rfl ?_
  refine ev_icmp_ne (t := 20) (q := 8) dX7_isLetter_5 rfl rfl hg (fun hg => ?_) (fun hg => ?_)
  · refine ev_aload_n (q := 9) dX7_isLetter_8 rfl rfl ?_
    refine ev_getfI (q := 12) mw_f_RX7_97 (by decide) (by decide) rfl dX7_isLetter_9 rfl ?_
    refine ev_iload_n (q := 13) dX7_isLetter_12 rfl rfl ?_
    refine ev_icmp_ne (t := 20) (q := 16) dX7_isLetter_13 rfl rfl hg (fun hg => ?_) (fun hg => ?_)
    · refine ev_iconst (v := 1) (q := 17) dX7_isLetter_16 mci_1 rfl ?_
      refine ev_goto (q := 21) dX7_isLetter_17 rfl ?_
      subst hg
      exact ev_zret dX7_isLetter_21 rfl (mcz_1) ⟨rfl, rfl, rfl, (mcz_1)⟩
    · refine ev_iconst (v := 0) (q := 21) dX7_isLetter_20 mci_0 rfl ?_
      subst hg
      exact ev_zret dX7_isLetter_21 rfl (mcz_0) ⟨rfl, rfl, rfl, (mcz_0)⟩
  · refine ev_iconst (v := 0) (q := 21) dX7_isLetter_20 mci_0 rfl ?_
    subst hg
    exact ev_zret dX7_isLetter_21 rfl (mcz_0) ⟨rfl, rfl, rfl, (mcz_0)⟩
def g_X7_takes (x1 : Int32) (f : mj_I) : Option (Int32 × mj_I) :=
  if (g_X7_isLetter x1 f) = 0 then
   mj_lt (g_X7_faults (1 : Int32) f) (fun o_2 =>
   some ((o_2.1, o_2.2)))
  else
   (g_X7_nextToken f).bind (fun o_3 =>
   some (((1 : Int32), o_3)))
theorem r_X7_takes {x1 : Int32} {f : mj_I} {g : mj_L} {o : Int32 × mj_I} (hg : g_X7_takes x1 f = some o) : mj_Sp jX7_takes my_S [.ref 0, .int x1] f g (fun v f' g' => some (.int o.1) = v ∧ o.2 = f' ∧ g = g' ∧ mj_b (o.1) = true) := by
  refine mj_sp 0 (by decide +kernel) rfl rfl (fun _ _ => Nat.le_of_ble_eq_true rfl) ?_
  show mj_Ev jX7_takes 0 [some (.ref 0), some (.int x1)] [] my_S f g _
  unfold g_X7_takes at hg
  refine ev_aload_n (q := 1) dX7_takes_0 rfl rfl ?_
  refine ev_iload_n (q := 2) dX7_takes_1 rfl rfl ?_
  refine ev_callV (q := 5) kX7_isLetter mw_i_X7_isLetter mw_s_X7_isLetter mw_m_RX7_111 rfl rfl (r_X7_isLetter rfl) rfl rfl (Nat.le_of_ble_eq_true rfl) (by decide) dX7_takes_2 rfl (fun v fv gv hp => ?_)
  obtain ⟨rfl, rfl, rfl, hr_1⟩ := hp
  refine ev_if_ne (t := 14) (q := 8) dX7_takes_5 rfl rfl hg (fun hg => ?_) (fun hg => ?_)
  · refine ev_aload_n (q := 9) dX7_takes_8 rfl rfl ?_
    refine ev_iconst (v := 1) (q := 10) dX7_takes_9 mci_1 rfl ?_
    obtain ⟨o_2, ho_2, hg⟩ := mj_lte hg
    refine ev_callV (q := 13) kX7_faults mw_i_X7_faults mw_s_X7_faults mw_m_RX7_114 rfl rfl (r_X7_faults ho_2) rfl rfl (Nat.le_of_ble_eq_true rfl) (by decide) dX7_takes_10 rfl (fun v fv gv hp => ?_)
    obtain ⟨rfl, rfl, rfl, hr_2⟩ := hp
    obtain rfl := Option.some.inj hg
    exact ev_zret dX7_takes_13 rfl (hr_2) ⟨rfl, rfl, rfl, (hr_2)⟩
  · refine ev_aload_n (q := 15) dX7_takes_14 rfl rfl ?_
    obtain ⟨o_3, ho_3, hg⟩ := mj_bd hg
    refine ev_callV (q := 18) kX7_nextToken mw_i_X7_nextToken mw_s_X7_nextToken mw_m_RX7_117 rfl rfl (r_X7_nextToken ho_3) rfl rfl (Nat.le_of_ble_eq_true rfl) (by decide) dX7_takes_15 rfl (fun v fv gv hp => ?_)
    obtain ⟨rfl, rfl, rfl⟩ := hp
    refine ev_iconst (v := 1) (q := 19) dX7_takes_18 mci_1 rfl ?_
    obtain rfl := Option.some.inj hg
    exact ev_zret dX7_takes_19 rfl (mcz_1) ⟨rfl, rfl, rfl, (mcz_1)⟩
def g_X7_isNumber (x1 : Int32) (x2 : Int32) (f : mj_I) : Int32 × mj_I :=
  if (f 0 11) = (2 : Int32) then
   if (g_X7_in ((f 0 12)).toInt64 (x1).toInt64 (x2).toInt64) = 0 then
    mj_lt (g_X7_faults (2 : Int32) f) (fun o_2 =>
    if o_2.1 = 0 then
     ((0 : Int32), o_2.2)
    else
     ((1 : Int32), o_2.2))
   else
    ((1 : Int32), f)
  else
   mj_lt (g_X7_faults (1 : Int32) f) (fun o_3 =>
   (o_3.1, o_3.2))
theorem r_X7_isNumber {x1 : Int32} {x2 : Int32} {f : mj_I} {g : mj_L} {o : Int32 × mj_I} (hg : g_X7_isNumber x1 x2 f = o) : mj_Sp jX7_isNumber my_S [.ref 0, .int x1, .int x2] f g (fun v f' g' => some (.int o.1) = v ∧ o.2 = f' ∧ g = g' ∧ mj_b (o.1) = true) := by
  refine mj_sp 0 (by decide +kernel) rfl rfl (fun _ _ => Nat.le_of_ble_eq_true rfl) ?_
  show mj_Ev jX7_isNumber 0 [some (.ref 0), some (.int x1), some (.int x2)] [] my_S f g _
  unfold g_X7_isNumber at hg
  refine ev_aload_n (q := 1) dX7_isNumber_0 rfl rfl ?_
  refine ev_getfI (q := 4) mw_f_RX7_94 (by decide) (by decide) rfl dX7_isNumber_1 rfl ?_
  refine ev_iconst (v := 2) (q := 5) dX7_isNumber_4 mci_2 rfl ?_
  refine ev_icmp_ne (t := 39) (q := 8) dX7_isNumber_5 rfl rfl hg (fun hg => ?_) (fun hg => ?_)
  · refine ev_aload_n (q := 9) dX7_isNumber_8 rfl rfl ?_
    refine ev_getfI (q := 12) mw_f_RX7_97 (by decide) (by decide) rfl dX7_isNumber_9 rfl ?_
    refine ev_i2l (q := 13) dX7_isNumber_12 rfl ?_
    refine ev_iload_n (q := 14) dX7_isNumber_13 rfl rfl ?_
    refine ev_i2l (q := 15) dX7_isNumber_14 rfl ?_
    refine ev_iload_n (q := 16) dX7_isNumber_15 rfl rfl ?_
    refine ev_i2l (q := 17) dX7_isNumber_16 rfl ?_
    refine ev_callS (q := 20) kX7_in mw_t_X7_in mw_m_RX7_60 (r_X7_in rfl) rfl rfl (Nat.le_of_ble_eq_true rfl) (by decide) dX7_isNumber_17 rfl (fun v fv gv hp => ?_)
    obtain ⟨rfl, rfl, rfl, hr_1⟩ := hp
    refine ev_if_ne (t := 31) (q := 23) dX7_isNumber_20 rfl rfl hg (fun hg => ?_) (fun hg => ?_)
    · refine ev_aload_n (q := 24) dX7_isNumber_23 rfl rfl ?_
      refine ev_iconst (v := 2) (q := 25) dX7_isNumber_24 mci_2 rfl ?_
      obtain ⟨o_2, ho_2, hg⟩ := mj_lte hg
      refine ev_callV (q := 28) kX7_faults mw_i_X7_faults mw_s_X7_faults mw_m_RX7_114 rfl rfl (r_X7_faults ho_2) rfl rfl (Nat.le_of_ble_eq_true rfl) (by decide) dX7_isNumber_25 rfl (fun v fv gv hp => ?_)
      obtain ⟨rfl, rfl, rfl, hr_2⟩ := hp
      refine ev_if_eq (t := 35) (q := 31) dX7_isNumber_28 rfl rfl hg (fun hg => ?_) (fun hg => ?_)
      · refine ev_iconst (v := 0) (q := 36) dX7_isNumber_35 mci_0 rfl ?_
        refine ev_goto (q := 44) dX7_isNumber_36 rfl ?_
        subst hg
        exact ev_zret dX7_isNumber_44 rfl (mcz_0) ⟨rfl, rfl, rfl, (mcz_0)⟩
      · refine ev_iconst (v := 1) (q := 32) dX7_isNumber_31 mci_1 rfl ?_
        refine ev_goto (q := 44) dX7_isNumber_32 rfl ?_
        subst hg
        exact ev_zret dX7_isNumber_44 rfl (mcz_1) ⟨rfl, rfl, rfl, (mcz_1)⟩
    · refine ev_iconst (v := 1) (q := 32) dX7_isNumber_31 mci_1 rfl ?_
      refine ev_goto (q := 44) dX7_isNumber_32 rfl ?_
      subst hg
      exact ev_zret dX7_isNumber_44 rfl (mcz_1) ⟨rfl, rfl, rfl, (mcz_1)⟩
  · refine ev_aload_n (q := 40) dX7_isNumber_39 rfl rfl ?_
    refine ev_iconst (v := 1) (q := 41) dX7_isNumber_40 mci_1 rfl ?_
    obtain ⟨o_3, ho_3, hg⟩ := mj_lte hg
    refine ev_callV (q := 44) kX7_faults mw_i_X7_faults mw_s_X7_faults mw_m_RX7_114 rfl rfl (r_X7_faults ho_3) rfl rfl (Nat.le_of_ble_eq_true rfl) (by decide) dX7_isNumber_41 rfl (fun v fv gv hp => ?_)
    obtain ⟨rfl, rfl, rfl, hr_3⟩ := hp
    subst hg
    exact ev_zret dX7_isNumber_44 rfl (hr_3) ⟨rfl, rfl, rfl, (hr_3)⟩
def g_X7_taken (f : mj_I) : Option (Int32 × mj_I) :=
  mj_lt ((f 0 12)) (fun u_1 =>
  (g_X7_nextToken f).bind (fun o_2 =>
  some ((u_1, o_2))))
theorem r_X7_taken {f : mj_I} {g : mj_L} {o : Int32 × mj_I} (hg : g_X7_taken f = some o) : mj_Sp jX7_taken my_S [.ref 0] f g (fun v f' g' => some (.int o.1) = v ∧ o.2 = f' ∧ g = g') := by
  refine mj_sp 1 (by decide +kernel) rfl rfl (fun _ _ => Nat.le_of_ble_eq_true rfl) ?_
  show mj_Ev jX7_taken 0 [some (.ref 0), none] [] my_S f g _
  unfold g_X7_taken at hg
  refine ev_aload_n (q := 1) dX7_taken_0 rfl rfl ?_
  refine ev_getfI (q := 4) mw_f_RX7_97 (by decide) (by decide) rfl dX7_taken_1 rfl ?_
  refine ev_nmi (fun u_1 hu_1 => ?_)
  have hg := mj_lt_el hu_1 hg
  refine ev_istore_n (q := 5) (loc' := [some (.ref _), some (.int _)]) dX7_taken_4 (by decide) rfl rfl ?_
  refine ev_aload_n (q := 6) dX7_taken_5 rfl rfl ?_
  obtain ⟨o_2, ho_2, hg⟩ := mj_bd hg
  refine ev_callV (q := 9) kX7_nextToken mw_i_X7_nextToken mw_s_X7_nextToken mw_m_RX7_117 rfl rfl (r_X7_nextToken ho_2) rfl rfl (Nat.le_of_ble_eq_true rfl) (by decide) dX7_taken_6 rfl (fun v fv gv hp => ?_)
  obtain ⟨rfl, rfl, rfl⟩ := hp
  refine ev_iload_n (q := 10) dX7_taken_9 rfl rfl ?_
  obtain rfl := Option.some.inj hg
  exact ev_iret dX7_taken_10 rfl ⟨rfl, rfl, rfl⟩
def g_X7_readWind_84 (rec : Int32 → Int32 → mj_I → Option (Int32 × mj_I)) (x2 : Int32) (x3 : Int32) (s0 : Int32) (f : mj_I) : Option (Int32 × mj_I) :=
  if s0 < 0 then
   mj_lt (g_X7_faults (1 : Int32) f) (fun o_8 =>
   some ((o_8.1, o_8.2)))
  else
   if mj_in (x2 + x3) 82 = true then
   mj_lt (mj_wr f 7 (ix (x2 + x3)) s0) (fun f_9 =>
    (g_X7_nextToken f_9).bind (fun o_10 =>
    rec x2 (x3 + (1 : Int32)) o_10))
   else none
theorem r_X7_readWind_84 {g : mj_L} {rec : Int32 → Int32 → mj_I → Option (Int32 × mj_I)} (hrec : ∀ (x2 : Int32) (x3 : Int32) (f : mj_I) (o : Int32 × mj_I), rec x2 x3 f = some o → mj_Ev jX7_readWind 12 [some (.ref 0), none, some (.int x2), some (.int x3), none] [] my_S f g (fun v f' g' => some (.int o.1) = v ∧ o.2 = f' ∧ g = g' ∧ mj_b (o.1) = true)) : ∀ (x2 : Int32) (x3 : Int32) (s0 : Int32) (f : mj_I) (o : Int32 × mj_I), g_X7_readWind_84 rec x2 x3 s0 f = some o → mj_Ev jX7_readWind 84 [some (.ref 0), none, some (.int x2), some (.int x3), none] [.int s0] my_S f g (fun v f' g' => some (.int o.1) = v ∧ o.2 = f' ∧ g = g' ∧ mj_b (o.1) = true) := by
  intro x2 x3 s0 f o hg
  unfold g_X7_readWind_84 at hg
  refine ev_istore (q := 86) (loc' := [some (.ref _), none, some (.int _), some (.int _), some (.int _)]) dX7_readWind_84 (by decide) rfl rfl ?_
  refine ev_iload (q := 88) dX7_readWind_86 rfl rfl ?_
  refine ev_if_ge (t := 97) (q := 91) dX7_readWind_88 rfl rfl hg (fun hg => ?_) (fun hg => ?_)
  · refine ev_aload_n (q := 92) dX7_readWind_91 rfl rfl ?_
    refine ev_iconst (v := 1) (q := 93) dX7_readWind_92 mci_1 rfl ?_
    obtain ⟨o_8, ho_8, hg⟩ := mj_lte hg
    refine ev_callV (q := 96) kX7_faults mw_i_X7_faults mw_s_X7_faults mw_m_RX7_114 rfl rfl (r_X7_faults ho_8) rfl rfl (Nat.le_of_ble_eq_true rfl) (by decide) dX7_readWind_93 rfl (fun v fv gv hp => ?_)
    obtain ⟨rfl, rfl, rfl, hr_8⟩ := hp
    obtain rfl := Option.some.inj hg
    exact ev_zret dX7_readWind_96 rfl (hr_8) ⟨rfl, rfl, rfl, (hr_8)⟩
  · refine ev_aload_n (q := 98) dX7_readWind_97 rfl rfl ?_
    refine ev_getfR (q := 101) mw_f_RX7_28 rfl rfl dX7_readWind_98 rfl ?_
    refine ev_iload_n (q := 102) dX7_readWind_101 rfl rfl ?_
    refine ev_iload_n (q := 103) dX7_readWind_102 rfl rfl ?_
    refine ev_iadd (q := 104) dX7_readWind_103 rfl ?_
    refine ev_iload (q := 106) dX7_readWind_104 rfl rfl ?_
    obtain ⟨hi_9, hg⟩ := mj_gd hg
    refine ev_iastk (q := 107) rfl hi_9 rfl dX7_readWind_106 rfl ?_
    refine ev_nmf (fun f_9 hf_9 => ?_)
    have hg := mj_lt_el hf_9 hg
    refine ev_aload_n (q := 108) dX7_readWind_107 rfl rfl ?_
    obtain ⟨o_10, ho_10, hg⟩ := mj_bd hg
    refine ev_callV (q := 111) kX7_nextToken mw_i_X7_nextToken mw_s_X7_nextToken mw_m_RX7_117 rfl rfl (r_X7_nextToken ho_10) rfl rfl (Nat.le_of_ble_eq_true rfl) (by decide) dX7_readWind_108 rfl (fun v fv gv hp => ?_)
    obtain ⟨rfl, rfl, rfl⟩ := hp
    refine ev_iinc (v := 1) (q := 114) (loc' := [some (.ref _), none, some (.int _), some (.int _), some (.int _)]) dX7_readWind_111 rfl (by decide) mci_1 rfl rfl ?_
    refine ev_goto (q := 12) dX7_readWind_114 rfl ?_
    refine ev_wk (loc' := [some (.ref _), none, some (.int _), some (.int _), none]) ⟨rfl, rfl, rfl, trivial⟩ ?_
    exact hrec _ _ _ _ hg
def g_X7_readWind_12 : Nat → Int32 → Int32 → mj_I → Option (Int32 × mj_I)
  | 0, _, _, _ => none
  | n + 1, x2, x3, f =>
    if x3 < (6 : Int32) then
     if (g_X7_isLetter (111 : Int32) f) = 0 then
      if (g_X7_isLetter (101 : Int32) f) = 0 then
       if (g_X7_isLetter (119 : Int32) f) = 0 then
        if (g_X7_isLetter (115 : Int32) f) = 0 then
         if (g_X7_isLetter (110 : Int32) f) = 0 then
          g_X7_readWind_84 (g_X7_readWind_12 n) x2 x3 (-1 : Int32) f
         else
          g_X7_readWind_84 (g_X7_readWind_12 n) x2 x3 (4 : Int32) f
        else
         g_X7_readWind_84 (g_X7_readWind_12 n) x2 x3 (3 : Int32) f
       else
        g_X7_readWind_84 (g_X7_readWind_12 n) x2 x3 (2 : Int32) f
      else
       g_X7_readWind_84 (g_X7_readWind_12 n) x2 x3 (1 : Int32) f
     else
      g_X7_readWind_84 (g_X7_readWind_12 n) x2 x3 (0 : Int32) f
    else
     (g_X7_takes (59 : Int32) f).bind (fun o_7 =>
     some ((o_7.1, o_7.2)))
theorem r_X7_readWind_12 {g : mj_L} : ∀ (n : Nat) (x2 : Int32) (x3 : Int32) (f : mj_I) (o : Int32 × mj_I), g_X7_readWind_12 n x2 x3 f = some o → mj_Ev jX7_readWind 12 [some (.ref 0), none, some (.int x2), some (.int x3), none] [] my_S f g (fun v f' g' => some (.int o.1) = v ∧ o.2 = f' ∧ g = g' ∧ mj_b (o.1) = true) := by
  intro n
  induction n with
  | zero =>
    intro x2 x3 f o hg
    cases hg
  | succ n ih =>
    intro x2 x3 f o hg
    unfold g_X7_readWind_12 at hg
    refine ev_iload_n (q := 13) dX7_readWind_12 rfl rfl ?_
    refine ev_bipush (v := 6) (q := 15) dX7_readWind_13 mcb_6 rfl ?_
    refine ev_icmp_ge (t := 117) (q := 18) dX7_readWind_15 rfl rfl hg (fun hg => ?_) (fun hg => ?_)
    · refine ev_aload_n (q := 19) dX7_readWind_18 rfl rfl ?_
      refine ev_bipush (v := 111) (q := 21) dX7_readWind_19 mcb_111 rfl ?_
      refine ev_callV (q := 24) kX7_isLetter mw_i_X7_isLetter mw_s_X7_isLetter mw_m_RX7_111 rfl rfl (r_X7_isLetter rfl) rfl rfl (Nat.le_of_ble_eq_true rfl) (by decide) dX7_readWind_21 rfl (fun v fv gv hp => ?_)
      obtain ⟨rfl, rfl, rfl, hr_2⟩ := hp
      refine ev_if_eq (t := 31) (q := 27) dX7_readWind_24 rfl rfl hg (fun hg => ?_) (fun hg => ?_)
      · refine ev_aload_n (q := 32) dX7_readWind_31 rfl rfl ?_
        refine ev_bipush (v := 101) (q := 34) dX7_readWind_32 mcb_101 rfl ?_
        refine ev_callV (q := 37) kX7_isLetter mw_i_X7_isLetter mw_s_X7_isLetter mw_m_RX7_111 rfl rfl (r_X7_isLetter rfl) rfl rfl (Nat.le_of_ble_eq_true rfl) (by decide) dX7_readWind_34 rfl (fun v fv gv hp => ?_)
        obtain ⟨rfl, rfl, rfl, hr_3⟩ := hp
        refine ev_if_eq (t := 44) (q := 40) dX7_readWind_37 rfl rfl hg (fun hg => ?_) (fun hg => ?_)
        · refine ev_aload_n (q := 45) dX7_readWind_44 rfl rfl ?_
          refine ev_bipush (v := 119) (q := 47) dX7_readWind_45 mcb_119 rfl ?_
          refine ev_callV (q := 50) kX7_isLetter mw_i_X7_isLetter mw_s_X7_isLetter mw_m_RX7_111 rfl rfl (r_X7_isLetter rfl) rfl rfl (Nat.le_of_ble_eq_true rfl) (by decide) dX7_readWind_47 rfl (fun v fv gv hp => ?_)
          obtain ⟨rfl, rfl, rfl, hr_4⟩ := hp
          refine ev_if_eq (t := 57) (q := 53) dX7_readWind_50 rfl rfl hg (fun hg => ?_) (fun hg => ?_)
          · refine ev_aload_n (q := 58) dX7_readWind_57 rfl rfl ?_
            refine ev_bipush (v := 115) (q := 60) dX7_readWind_58 mcb_115 rfl ?_
            refine ev_callV (q := 63) kX7_isLetter mw_i_X7_isLetter mw_s_X7_isLetter mw_m_RX7_111 rfl rfl (r_X7_isLetter rfl) rfl rfl (Nat.le_of_ble_eq_true rfl) (by decide) dX7_readWind_60 rfl (fun v fv gv hp => ?_)
            obtain ⟨rfl, rfl, rfl, hr_5⟩ := hp
            refine ev_if_eq (t := 70) (q := 66) dX7_readWind_63 rfl rfl hg (fun hg => ?_) (fun hg => ?_)
            · refine ev_aload_n (q := 71) dX7_readWind_70 rfl rfl ?_
              refine ev_bipush (v := 110) (q := 73) dX7_readWind_71 mcb_110 rfl ?_
              refine ev_callV (q := 76) kX7_isLetter mw_i_X7_isLetter mw_s_X7_isLetter mw_m_RX7_111 rfl rfl (r_X7_isLetter rfl) rfl rfl (Nat.le_of_ble_eq_true rfl) (by decide) dX7_readWind_73 rfl (fun v fv gv hp => ?_)
              obtain ⟨rfl, rfl, rfl, hr_6⟩ := hp
              refine ev_if_eq (t := 83) (q := 79) dX7_readWind_76 rfl rfl hg (fun hg => ?_) (fun hg => ?_)
              · refine ev_iconst (v := -1) (q := 84) dX7_readWind_83 mci_m1 rfl ?_
                exact r_X7_readWind_84 ih _ _ _ _ _ hg
              · refine ev_iconst (v := 4) (q := 80) dX7_readWind_79 mci_4 rfl ?_
                refine ev_goto (q := 84) dX7_readWind_80 rfl ?_
                exact r_X7_readWind_84 ih _ _ _ _ _ hg
            · refine ev_iconst (v := 3) (q := 67) dX7_readWind_66 mci_3 rfl ?_
              refine ev_goto (q := 84) dX7_readWind_67 rfl ?_
              exact r_X7_readWind_84 ih _ _ _ _ _ hg
          · refine ev_iconst (v := 2) (q := 54) dX7_readWind_53 mci_2 rfl ?_
            refine ev_goto (q := 84) dX7_readWind_54 rfl ?_
            exact r_X7_readWind_84 ih _ _ _ _ _ hg
        · refine ev_iconst (v := 1) (q := 41) dX7_readWind_40 mci_1 rfl ?_
          refine ev_goto (q := 84) dX7_readWind_41 rfl ?_
          exact r_X7_readWind_84 ih _ _ _ _ _ hg
      · refine ev_iconst (v := 0) (q := 28) dX7_readWind_27 mci_0 rfl ?_
        refine ev_goto (q := 84) dX7_readWind_28 rfl ?_
        exact r_X7_readWind_84 ih _ _ _ _ _ hg
    · refine ev_aload_n (q := 118) dX7_readWind_117 rfl rfl ?_
      refine ev_bipush (v := 59) (q := 120) dX7_readWind_118 mcb_59 rfl ?_
      obtain ⟨o_7, ho_7, hg⟩ := mj_bd hg
      refine ev_callV (q := 123) kX7_takes mw_i_X7_takes mw_s_X7_takes mw_m_RX7_120 rfl rfl (r_X7_takes ho_7) rfl rfl (Nat.le_of_ble_eq_true rfl) (by decide) dX7_readWind_120 rfl (fun v fv gv hp => ?_)
      obtain ⟨rfl, rfl, rfl, hr_7⟩ := hp
      obtain rfl := Option.some.inj hg
      exact ev_zret dX7_readWind_123 rfl (hr_7) ⟨rfl, rfl, rfl, (hr_7)⟩
def g_X7_readWind (x1 : Int32) (x2 : Int32) (f : mj_I) : Option (Int32 × mj_I) :=
  (g_X7_takes x1 f).bind (fun o_1 =>
  if o_1.1 = 0 then
   some (((0 : Int32), o_1.2))
  else
   g_X7_readWind_12 mj_fuel x2 (0 : Int32) o_1.2)
theorem r_X7_readWind {x1 : Int32} {x2 : Int32} {f : mj_I} {g : mj_L} {o : Int32 × mj_I} (hg : g_X7_readWind x1 x2 f = some o) : mj_Sp jX7_readWind my_S [.ref 0, .int x1, .int x2] f g (fun v f' g' => some (.int o.1) = v ∧ o.2 = f' ∧ g = g' ∧ mj_b (o.1) = true) := by
  refine mj_sp 2 (by decide +kernel) rfl rfl (fun _ _ => Nat.le_of_ble_eq_true rfl) ?_
  show mj_Ev jX7_readWind 0 [some (.ref 0), some (.int x1), some (.int x2), none, none] [] my_S f g _
  unfold g_X7_readWind at hg
  refine ev_aload_n (q := 1) dX7_readWind_0 rfl rfl ?_
  refine ev_iload_n (q := 2) dX7_readWind_1 rfl rfl ?_
  obtain ⟨o_1, ho_1, hg⟩ := mj_bd hg
  refine ev_callV (q := 5) kX7_takes mw_i_X7_takes mw_s_X7_takes mw_m_RX7_120 rfl rfl (r_X7_takes ho_1) rfl rfl (Nat.le_of_ble_eq_true rfl) (by decide) dX7_readWind_2 rfl (fun v fv gv hp => ?_)
  obtain ⟨rfl, rfl, rfl, hr_1⟩ := hp
  refine ev_if_ne (t := 10) (q := 8) dX7_readWind_5 rfl rfl hg (fun hg => ?_) (fun hg => ?_)
  · refine ev_iconst (v := 0) (q := 9) dX7_readWind_8 mci_0 rfl ?_
    obtain rfl := Option.some.inj hg
    exact ev_zret dX7_readWind_9 rfl (mcz_0) ⟨rfl, rfl, rfl, (mcz_0)⟩
  · refine ev_iconst (v := 0) (q := 11) dX7_readWind_10 mci_0 rfl ?_
    refine ev_istore_n (q := 12) (loc' := [some (.ref _), some (.int _), some (.int _), some (.int _), none]) dX7_readWind_11 (by decide) rfl rfl ?_
    refine ev_wk (loc' := [some (.ref _), none, some (.int _), some (.int _), none]) ⟨rfl, rfl, rfl, trivial⟩ ?_
    exact r_X7_readWind_12 mj_fuel _ _ _ _ hg
def g_X7_readLaw (f : mj_I) : Option (Int32 × mj_I) :=
  (g_X7_takes (107 : Int32) f).bind (fun o_1 =>
  if o_1.1 = 0 then
   some (((0 : Int32), o_1.2))
  else
   mj_lt (g_X7_isNumber (1 : Int32) (9 : Int32) o_1.2) (fun o_2 =>
   if o_2.1 = 0 then
    some (((0 : Int32), o_2.2))
   else
    (g_X7_taken o_2.2).bind (fun o_3 =>
    mj_lt (mj_wr o_3.2 7 44 o_3.1) (fun f_4 =>
    (g_X7_takes (44 : Int32) f_4).bind (fun o_5 =>
    if o_5.1 = 0 then
     some (((0 : Int32), o_5.2))
    else
     mj_lt (g_X7_isNumber (0 : Int32) (9 : Int32) o_5.2) (fun o_6 =>
     if o_6.1 = 0 then
      some (((0 : Int32), o_6.2))
     else
      (g_X7_taken o_6.2).bind (fun o_7 =>
      mj_lt (mj_wr o_7.2 7 45 o_7.1) (fun f_8 =>
      (g_X7_takes (59 : Int32) f_8).bind (fun o_9 =>
      some ((o_9.1, o_9.2)))))))))))
theorem r_X7_readLaw {f : mj_I} {g : mj_L} {o : Int32 × mj_I} (hg : g_X7_readLaw f = some o) : mj_Sp jX7_readLaw my_S [.ref 0] f g (fun v f' g' => some (.int o.1) = v ∧ o.2 = f' ∧ g = g' ∧ mj_b (o.1) = true) := by
  refine mj_sp 0 (by decide +kernel) rfl rfl (fun _ _ => Nat.le_of_ble_eq_true rfl) ?_
  show mj_Ev jX7_readLaw 0 [some (.ref 0)] [] my_S f g _
  unfold g_X7_readLaw at hg
  refine ev_aload_n (q := 1) dX7_readLaw_0 rfl rfl ?_
  refine ev_bipush (v := 107) (q := 3) dX7_readLaw_1 mcb_107 rfl ?_
  obtain ⟨o_1, ho_1, hg⟩ := mj_bd hg
  refine ev_callV (q := 6) kX7_takes mw_i_X7_takes mw_s_X7_takes mw_m_RX7_120 rfl rfl (r_X7_takes ho_1) rfl rfl (Nat.le_of_ble_eq_true rfl) (by decide) dX7_readLaw_3 rfl (fun v fv gv hp => ?_)
  obtain ⟨rfl, rfl, rfl, hr_1⟩ := hp
  refine ev_if_eq (t := 19) (q := 9) dX7_readLaw_6 rfl rfl hg (fun hg => ?_) (fun hg => ?_)
  · refine ev_iconst (v := 0) (q := 20) dX7_readLaw_19 mci_0 rfl ?_
    obtain rfl := Option.some.inj hg
    exact ev_zret dX7_readLaw_20 rfl (mcz_0) ⟨rfl, rfl, rfl, (mcz_0)⟩
  · refine ev_aload_n (q := 10) dX7_readLaw_9 rfl rfl ?_
    refine ev_iconst (v := 1) (q := 11) dX7_readLaw_10 mci_1 rfl ?_
    refine ev_bipush (v := 9) (q := 13) dX7_readLaw_11 mcb_9 rfl ?_
    obtain ⟨o_2, ho_2, hg⟩ := mj_lte hg
    refine ev_callV (q := 16) kX7_isNumber mw_i_X7_isNumber mw_s_X7_isNumber mw_m_RX7_123 rfl rfl (r_X7_isNumber ho_2) rfl rfl (Nat.le_of_ble_eq_true rfl) (by decide) dX7_readLaw_13 rfl (fun v fv gv hp => ?_)
    obtain ⟨rfl, rfl, rfl, hr_2⟩ := hp
    refine ev_if_ne (t := 21) (q := 19) dX7_readLaw_16 rfl rfl hg (fun hg => ?_) (fun hg => ?_)
    · refine ev_iconst (v := 0) (q := 20) dX7_readLaw_19 mci_0 rfl ?_
      obtain rfl := Option.some.inj hg
      exact ev_zret dX7_readLaw_20 rfl (mcz_0) ⟨rfl, rfl, rfl, (mcz_0)⟩
    · refine ev_aload_n (q := 22) dX7_readLaw_21 rfl rfl ?_
      refine ev_getfR (q := 25) mw_f_RX7_28 rfl rfl dX7_readLaw_22 rfl ?_
      refine ev_bipush (v := 44) (q := 27) dX7_readLaw_25 mcb_44 rfl ?_
      refine ev_aload_n (q := 28) dX7_readLaw_27 rfl rfl ?_
      obtain ⟨o_3, ho_3, hg⟩ := mj_bd hg
      refine ev_callV (q := 31) kX7_taken mw_i_X7_taken mw_s_X7_taken mw_m_RX7_127 rfl rfl (r_X7_taken ho_3) rfl rfl (Nat.le_of_ble_eq_true rfl) (by decide) dX7_readLaw_28 rfl (fun v fv gv hp => ?_)
      obtain ⟨rfl, rfl, rfl⟩ := hp
      refine ev_iastk (k := 44) (q := 32) rfl (by decide) mcx_44 dX7_readLaw_31 rfl ?_
      refine ev_nmf (fun f_4 hf_4 => ?_)
      have hg := mj_lt_el hf_4 hg
      refine ev_aload_n (q := 33) dX7_readLaw_32 rfl rfl ?_
      refine ev_bipush (v := 44) (q := 35) dX7_readLaw_33 mcb_44 rfl ?_
      obtain ⟨o_5, ho_5, hg⟩ := mj_bd hg
      refine ev_callV (q := 38) kX7_takes mw_i_X7_takes mw_s_X7_takes mw_m_RX7_120 rfl rfl (r_X7_takes ho_5) rfl rfl (Nat.le_of_ble_eq_true rfl) (by decide) dX7_readLaw_35 rfl (fun v fv gv hp => ?_)
      obtain ⟨rfl, rfl, rfl, hr_5⟩ := hp
      refine ev_if_eq (t := 51) (q := 41) dX7_readLaw_38 rfl rfl hg (fun hg => ?_) (fun hg => ?_)
      · refine ev_iconst (v := 0) (q := 52) dX7_readLaw_51 mci_0 rfl ?_
        obtain rfl := Option.some.inj hg
        exact ev_zret dX7_readLaw_52 rfl (mcz_0) ⟨rfl, rfl, rfl, (mcz_0)⟩
      · refine ev_aload_n (q := 42) dX7_readLaw_41 rfl rfl ?_
        refine ev_iconst (v := 0) (q := 43) dX7_readLaw_42 mci_0 rfl ?_
        refine ev_bipush (v := 9) (q := 45) dX7_readLaw_43 mcb_9 rfl ?_
        obtain ⟨o_6, ho_6, hg⟩ := mj_lte hg
        refine ev_callV (q := 48) kX7_isNumber mw_i_X7_isNumber mw_s_X7_isNumber mw_m_RX7_123 rfl rfl (r_X7_isNumber ho_6) rfl rfl (Nat.le_of_ble_eq_true rfl) (by decide) dX7_readLaw_45 rfl (fun v fv gv hp => ?_)
        obtain ⟨rfl, rfl, rfl, hr_6⟩ := hp
        refine ev_if_ne (t := 53) (q := 51) dX7_readLaw_48 rfl rfl hg (fun hg => ?_) (fun hg => ?_)
        · refine ev_iconst (v := 0) (q := 52) dX7_readLaw_51 mci_0 rfl ?_
          obtain rfl := Option.some.inj hg
          exact ev_zret dX7_readLaw_52 rfl (mcz_0) ⟨rfl, rfl, rfl, (mcz_0)⟩
        · refine ev_aload_n (q := 54) dX7_readLaw_53 rfl rfl ?_
          refine ev_getfR (q := 57) mw_f_RX7_28 rfl rfl dX7_readLaw_54 rfl ?_
          refine ev_bipush (v := 45) (q := 59) dX7_readLaw_57 mcb_45 rfl ?_
          refine ev_aload_n (q := 60) dX7_readLaw_59 rfl rfl ?_
          obtain ⟨o_7, ho_7, hg⟩ := mj_bd hg
          refine ev_callV (q := 63) kX7_taken mw_i_X7_taken mw_s_X7_taken mw_m_RX7_127 rfl rfl (r_X7_taken ho_7) rfl rfl (Nat.le_of_ble_eq_true rfl) (by decide) dX7_readLaw_60 rfl (fun v fv gv hp => ?_)
          obtain ⟨rfl, rfl, rfl⟩ := hp
          refine ev_iastk (k := 45) (q := 64) rfl (by decide) mcx_45 dX7_readLaw_63 rfl ?_
          refine ev_nmf (fun f_8 hf_8 => ?_)
          have hg := mj_lt_el hf_8 hg
          refine ev_aload_n (q := 65) dX7_readLaw_64 rfl rfl ?_
          refine ev_bipush (v := 59) (q := 67) dX7_readLaw_65 mcb_59 rfl ?_
          obtain ⟨o_9, ho_9, hg⟩ := mj_bd hg
          refine ev_callV (q := 70) kX7_takes mw_i_X7_takes mw_s_X7_takes mw_m_RX7_120 rfl rfl (r_X7_takes ho_9) rfl rfl (Nat.le_of_ble_eq_true rfl) (by decide) dX7_readLaw_67 rfl (fun v fv gv hp => ?_)
          obtain ⟨rfl, rfl, rfl, hr_9⟩ := hp
          obtain rfl := Option.some.inj hg
          exact ev_zret dX7_readLaw_70 rfl (hr_9) ⟨rfl, rfl, rfl, (hr_9)⟩
def g_X7_readParish_57 (x1 : Int32) (f : mj_I) : Option (Int32 × mj_I) :=
  (g_X7_taken f).bind (fun o_7 =>
  if mj_in ((12 : Int32) + o_7.1) 82 = true then
  mj_lt (mj_wr o_7.2 7 (ix ((12 : Int32) + o_7.1)) x1) (fun f_8 =>
   mj_lt (mj_wr f_8 7 49 ((f_8 7 49) + (1 : Int32))) (fun f_10 =>
   (g_X7_takes (59 : Int32) f_10).bind (fun o_11 =>
   some ((o_11.1, o_11.2)))))
  else none)
theorem r_X7_readParish_57 {g : mj_L} : ∀ (x1 : Int32) (f : mj_I) (o : Int32 × mj_I), g_X7_readParish_57 x1 f = some o → mj_Ev jX7_readParish 57 [some (.ref 0), some (.int x1)] [] my_S f g (fun v f' g' => some (.int o.1) = v ∧ o.2 = f' ∧ g = g' ∧ mj_b (o.1) = true) := by
  intro x1 f o hg
  unfold g_X7_readParish_57 at hg
  refine ev_aload_n (q := 58) dX7_readParish_57 rfl rfl ?_
  refine ev_getfR (q := 61) mw_f_RX7_28 rfl rfl dX7_readParish_58 rfl ?_
  refine ev_bipush (v := 12) (q := 63) dX7_readParish_61 mcb_12 rfl ?_
  refine ev_aload_n (q := 64) dX7_readParish_63 rfl rfl ?_
  obtain ⟨o_7, ho_7, hg⟩ := mj_bd hg
  refine ev_callV (q := 67) kX7_taken mw_i_X7_taken mw_s_X7_taken mw_m_RX7_127 rfl rfl (r_X7_taken ho_7) rfl rfl (Nat.le_of_ble_eq_true rfl) (by decide) dX7_readParish_64 rfl (fun v fv gv hp => ?_)
  obtain ⟨rfl, rfl, rfl⟩ := hp
  refine ev_iadd (q := 68) dX7_readParish_67 rfl ?_
  refine ev_iload_n (q := 69) dX7_readParish_68 rfl rfl ?_
  obtain ⟨hi_8, hg⟩ := mj_gd hg
  refine ev_iastk (q := 70) rfl hi_8 rfl dX7_readParish_69 rfl ?_
  refine ev_nmf (fun f_8 hf_8 => ?_)
  have hg := mj_lt_el hf_8 hg
  refine ev_aload_n (q := 71) dX7_readParish_70 rfl rfl ?_
  refine ev_getfR (q := 74) mw_f_RX7_28 rfl rfl dX7_readParish_71 rfl ?_
  refine ev_bipush (v := 49) (q := 76) dX7_readParish_74 mcb_49 rfl ?_
  refine ev_dup2 (q := 77) dX7_readParish_76 rfl rfl rfl ?_
  refine ev_ialdk (k := 49) (q := 78) rfl (by decide) mcx_49 dX7_readParish_77 rfl ?_
  refine ev_iconst (v := 1) (q := 79) dX7_readParish_78 mci_1 rfl ?_
  refine ev_iadd (q := 80) dX7_readParish_79 rfl ?_
  refine ev_iastk (k := 49) (q := 81) rfl (by decide) mcx_49 dX7_readParish_80 rfl ?_
  refine ev_nmf (fun f_10 hf_10 => ?_)
  have hg := mj_lt_el hf_10 hg
  refine ev_aload_n (q := 82) dX7_readParish_81 rfl rfl ?_
  refine ev_bipush (v := 59) (q := 84) dX7_readParish_82 mcb_59 rfl ?_
  obtain ⟨o_11, ho_11, hg⟩ := mj_bd hg
  refine ev_callV (q := 87) kX7_takes mw_i_X7_takes mw_s_X7_takes mw_m_RX7_120 rfl rfl (r_X7_takes ho_11) rfl rfl (Nat.le_of_ble_eq_true rfl) (by decide) dX7_readParish_84 rfl (fun v fv gv hp => ?_)
  obtain ⟨rfl, rfl, rfl, hr_11⟩ := hp
  obtain rfl := Option.some.inj hg
  exact ev_zret dX7_readParish_87 rfl (hr_11) ⟨rfl, rfl, rfl, (hr_11)⟩
def g_X7_readParish (x1 : Int32) (f : mj_I) : Option (Int32 × mj_I) :=
  if (f 7 49) = (8 : Int32) then
   mj_lt (g_X7_faults (3 : Int32) f) (fun o_2 =>
   some ((o_2.1, o_2.2)))
  else
   (g_X7_nextToken f).bind (fun o_3 =>
   mj_lt (g_X7_isNumber (0 : Int32) (31 : Int32) o_3) (fun o_4 =>
   if o_4.1 = 0 then
    some (((0 : Int32), o_4.2))
   else
    if mj_in ((12 : Int32) + (o_4.2 0 12)) 82 = true then
    if 0 < (o_4.2 7 (ix ((12 : Int32) + (o_4.2 0 12)))) then
      mj_lt (g_X7_faults (2 : Int32) o_4.2) (fun o_6 =>
      if o_6.1 = 0 then
       some (((0 : Int32), o_6.2))
      else
       g_X7_readParish_57 x1 o_6.2)
     else
      g_X7_readParish_57 x1 o_4.2
    else none))
theorem r_X7_readParish {x1 : Int32} {f : mj_I} {g : mj_L} {o : Int32 × mj_I} (hg : g_X7_readParish x1 f = some o) : mj_Sp jX7_readParish my_S [.ref 0, .int x1] f g (fun v f' g' => some (.int o.1) = v ∧ o.2 = f' ∧ g = g' ∧ mj_b (o.1) = true) := by
  refine mj_sp 0 (by decide +kernel) rfl rfl (fun _ _ => Nat.le_of_ble_eq_true rfl) ?_
  show mj_Ev jX7_readParish 0 [some (.ref 0), some (.int x1)] [] my_S f g _
  unfold g_X7_readParish at hg
  refine ev_aload_n (q := 1) dX7_readParish_0 rfl rfl ?_
  refine ev_getfR (q := 4) mw_f_RX7_28 rfl rfl dX7_readParish_1 rfl ?_
  refine ev_bipush (v := 49) (q := 6) dX7_readParish_4 mcb_49 rfl ?_
  refine ev_ialdk (k := 49) (q := 7) rfl (by decide) mcx_49 dX7_readParish_6 rfl ?_
  refine ev_bipush (v := 8) (q := 9) dX7_readParish_7 mcb_8 rfl ?_
  refine ev_icmp_ne (t := 18) (q := 12) dX7_readParish_9 rfl rfl hg (fun hg => ?_) (fun hg => ?_)
  · refine ev_aload_n (q := 13) dX7_readParish_12 rfl rfl ?_
    refine ev_iconst (v := 3) (q := 14) dX7_readParish_13 mci_3 rfl ?_
    obtain ⟨o_2, ho_2, hg⟩ := mj_lte hg
    refine ev_callV (q := 17) kX7_faults mw_i_X7_faults mw_s_X7_faults mw_m_RX7_114 rfl rfl (r_X7_faults ho_2) rfl rfl (Nat.le_of_ble_eq_true rfl) (by decide) dX7_readParish_14 rfl (fun v fv gv hp => ?_)
    obtain ⟨rfl, rfl, rfl, hr_2⟩ := hp
    obtain rfl := Option.some.inj hg
    exact ev_zret dX7_readParish_17 rfl (hr_2) ⟨rfl, rfl, rfl, (hr_2)⟩
  · refine ev_aload_n (q := 19) dX7_readParish_18 rfl rfl ?_
    obtain ⟨o_3, ho_3, hg⟩ := mj_bd hg
    refine ev_callV (q := 22) kX7_nextToken mw_i_X7_nextToken mw_s_X7_nextToken mw_m_RX7_117 rfl rfl (r_X7_nextToken ho_3) rfl rfl (Nat.le_of_ble_eq_true rfl) (by decide) dX7_readParish_19 rfl (fun v fv gv hp => ?_)
    obtain ⟨rfl, rfl, rfl⟩ := hp
    refine ev_aload_n (q := 23) dX7_readParish_22 rfl rfl ?_
    refine ev_iconst (v := 0) (q := 24) dX7_readParish_23 mci_0 rfl ?_
    refine ev_bipush (v := 31) (q := 26) dX7_readParish_24 mcb_31 rfl ?_
    obtain ⟨o_4, ho_4, hg⟩ := mj_lte hg
    refine ev_callV (q := 29) kX7_isNumber mw_i_X7_isNumber mw_s_X7_isNumber mw_m_RX7_123 rfl rfl (r_X7_isNumber ho_4) rfl rfl (Nat.le_of_ble_eq_true rfl) (by decide) dX7_readParish_26 rfl (fun v fv gv hp => ?_)
    obtain ⟨rfl, rfl, rfl, hr_4⟩ := hp
    refine ev_if_eq (t := 55) (q := 32) dX7_readParish_29 rfl rfl hg (fun hg => ?_) (fun hg => ?_)
    · refine ev_iconst (v := 0) (q := 56) dX7_readParish_55 mci_0 rfl ?_
      obtain rfl := Option.some.inj hg
      exact ev_zret dX7_readParish_56 rfl (mcz_0) ⟨rfl, rfl, rfl, (mcz_0)⟩
    · refine ev_aload_n (q := 33) dX7_readParish_32 rfl rfl ?_
      refine ev_getfR (q := 36) mw_f_RX7_28 rfl rfl dX7_readParish_33 rfl ?_
      refine ev_bipush (v := 12) (q := 38) dX7_readParish_36 mcb_12 rfl ?_
      refine ev_aload_n (q := 39) dX7_readParish_38 rfl rfl ?_
      refine ev_getfI (q := 42) mw_f_RX7_97 (by decide) (by decide) rfl dX7_readParish_39 rfl ?_
      refine ev_iadd (q := 43) dX7_readParish_42 rfl ?_
      obtain ⟨hi_5, hg⟩ := mj_gd hg
      refine ev_ialdk (q := 44) rfl hi_5 rfl dX7_readParish_43 rfl ?_
      refine ev_if_le (t := 57) (q := 47) dX7_readParish_44 rfl rfl hg (fun hg => ?_) (fun hg => ?_)
      · refine ev_aload_n (q := 48) dX7_readParish_47 rfl rfl ?_
        refine ev_iconst (v := 2) (q := 49) dX7_readParish_48 mci_2 rfl ?_
        obtain ⟨o_6, ho_6, hg⟩ := mj_lte hg
        refine ev_callV (q := 52) kX7_faults mw_i_X7_faults mw_s_X7_faults mw_m_RX7_114 rfl rfl (r_X7_faults ho_6) rfl rfl (Nat.le_of_ble_eq_true rfl) (by decide) dX7_readParish_49 rfl (fun v fv gv hp => ?_)
        obtain ⟨rfl, rfl, rfl, hr_6⟩ := hp
        refine ev_if_ne (t := 57) (q := 55) dX7_readParish_52 rfl rfl hg (fun hg => ?_) (fun hg => ?_)
        · refine ev_iconst (v := 0) (q := 56) dX7_readParish_55 mci_0 rfl ?_
          obtain rfl := Option.some.inj hg
          exact ev_zret dX7_readParish_56 rfl (mcz_0) ⟨rfl, rfl, rfl, (mcz_0)⟩
        · exact r_X7_readParish_57 _ _ _ hg
      · exact r_X7_readParish_57 _ _ _ hg
