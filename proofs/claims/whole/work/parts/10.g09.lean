def g_X7_isThere (x1 : Int32) (f : mj_I) : Option (Int32) :=
  if mj_in ((71 : Int32) + x1) 82 = true then
  if (f 4 (ix ((71 : Int32) + x1))) = 0 then
    some ((1 : Int32))
   else
    some ((0 : Int32))
  else none
theorem r_X7_isThere {x1 : Int32} {f : mj_I} {g : mj_L} {o : Int32} (hg : g_X7_isThere x1 f = some o) : mj_Sp jX7_isThere my_S [.ref 0, .int x1] f g (fun v f' g' => some (.int o) = v ∧ f = f' ∧ g = g' ∧ mj_b (o) = true) := by
  refine mj_sp 0 (by decide +kernel) rfl rfl (fun _ _ => Nat.le_of_ble_eq_true rfl) ?_
  show mj_Ev jX7_isThere 0 [some (.ref 0), some (.int x1)] [] my_S f g _
  unfold g_X7_isThere at hg
  refine ev_aload_n (q := 1) dX7_isThere_0 rfl rfl ?_
  refine ev_getfR (q := 4) mw_f_RX7_19 rfl rfl dX7_isThere_1 rfl ?_
  refine ev_bipush (v := 71) (q := 6) dX7_isThere_4 mcb_71 rfl ?_
  refine ev_iload_n (q := 7) dX7_isThere_6 rfl rfl ?_
  refine ev_iadd (q := 8) dX7_isThere_7 rfl ?_
  obtain ⟨hi_1, hg⟩ := mj_gd hg
  refine ev_ialdk (q := 9) rfl hi_1 rfl dX7_isThere_8 rfl ?_
  refine ev_if_ne (t := 16) (q := 12) dX7_isThere_9 rfl rfl hg (fun hg => ?_) (fun hg => ?_)
  · refine ev_iconst (v := 1) (q := 13) dX7_isThere_12 mci_1 rfl ?_
    refine ev_goto (q := 17) dX7_isThere_13 rfl ?_
    obtain rfl := Option.some.inj hg
    exact ev_zret dX7_isThere_17 rfl (mcz_1) ⟨rfl, rfl, rfl, (mcz_1)⟩
  · refine ev_iconst (v := 0) (q := 17) dX7_isThere_16 mci_0 rfl ?_
    obtain rfl := Option.some.inj hg
    exact ev_zret dX7_isThere_17 rfl (mcz_0) ⟨rfl, rfl, rfl, (mcz_0)⟩
def g_X7_together_123 (rec : Int32 → Int32 → Int32 → mj_I → Option (Int32 × mj_I)) (x1 : Int32) (x2 : Int32) (x3 : Int32) (s1 : Int32) (s2 : Int32) (f : mj_I) : Option (Int32 × mj_I) :=
  if mj_in s1 82 = true then
  mj_lt (mj_wr f 4 (ix s1) s2) (fun f_13 =>
   if mj_in ((66 : Int32) + x2) 82 = true then
   mj_lt (mj_wr f_13 4 (ix ((66 : Int32) + x2)) (0 : Int32)) (fun f_14 =>
    if mj_in ((71 : Int32) + x2) 82 = true then
    mj_lt (mj_wr f_14 4 (ix ((71 : Int32) + x2)) (1 : Int32)) (fun f_15 =>
     mj_lt ((x1 ||| ((1 : Int32) <<< (x2 &&& 31)))) (fun u_16 =>
     rec u_16 x2 (x3 + (1 : Int32)) f_15))
    else none)
   else none)
  else none
theorem r_X7_together_123 {g : mj_L} {post : Option Value → mj_I → mj_L → Prop} {rec : Int32 → Int32 → Int32 → mj_I → Option (Int32 × mj_I)} (hrec : ∀ (x1 : Int32) (x2 : Int32) (x3 : Int32) (f : mj_I) (o : Int32 × mj_I), rec x1 x2 x3 f = some o → mj_Ev jX7_together 156 [some (.ref 0), some (.int o.1), some (.int x2), none, none] [] my_S o.2 g post → mj_Ev jX7_together 17 [some (.ref 0), some (.int x1), some (.int x2), some (.int x3), none] [] my_S f g post) : ∀ (x1 : Int32) (x2 : Int32) (x3 : Int32) (s1 : Int32) (s2 : Int32) (f : mj_I) (o : Int32 × mj_I), g_X7_together_123 rec x1 x2 x3 s1 s2 f = some o → mj_Ev jX7_together 156 [some (.ref 0), some (.int o.1), some (.int x2), none, none] [] my_S o.2 g post → mj_Ev jX7_together 123 [some (.ref 0), some (.int x1), some (.int x2), some (.int x3), none] [.int s2, .int s1, .ref 4] my_S f g post := by
  intro x1 x2 x3 s1 s2 f o hg hk
  unfold g_X7_together_123 at hg
  obtain ⟨hi_13, hg⟩ := mj_gd hg
  refine ev_iastk (q := 124) rfl hi_13 rfl dX7_together_123 rfl ?_
  refine ev_nmf (fun f_13 hf_13 => ?_)
  have hg := mj_lt_el hf_13 hg
  refine ev_aload_n (q := 125) dX7_together_124 rfl rfl ?_
  refine ev_getfR (q := 128) mw_f_RX7_19 rfl rfl dX7_together_125 rfl ?_
  refine ev_bipush (v := 66) (q := 130) dX7_together_128 mcb_66 rfl ?_
  refine ev_iload_n (q := 131) dX7_together_130 rfl rfl ?_
  refine ev_iadd (q := 132) dX7_together_131 rfl ?_
  refine ev_iconst (v := 0) (q := 133) dX7_together_132 mci_0 rfl ?_
  obtain ⟨hi_14, hg⟩ := mj_gd hg
  refine ev_iastk (q := 134) rfl hi_14 rfl dX7_together_133 rfl ?_
  refine ev_nmf (fun f_14 hf_14 => ?_)
  have hg := mj_lt_el hf_14 hg
  refine ev_aload_n (q := 135) dX7_together_134 rfl rfl ?_
  refine ev_getfR (q := 138) mw_f_RX7_19 rfl rfl dX7_together_135 rfl ?_
  refine ev_bipush (v := 71) (q := 140) dX7_together_138 mcb_71 rfl ?_
  refine ev_iload_n (q := 141) dX7_together_140 rfl rfl ?_
  refine ev_iadd (q := 142) dX7_together_141 rfl ?_
  refine ev_iconst (v := 1) (q := 143) dX7_together_142 mci_1 rfl ?_
  obtain ⟨hi_15, hg⟩ := mj_gd hg
  refine ev_iastk (q := 144) rfl hi_15 rfl dX7_together_143 rfl ?_
  refine ev_nmf (fun f_15 hf_15 => ?_)
  have hg := mj_lt_el hf_15 hg
  refine ev_iload_n (q := 145) dX7_together_144 rfl rfl ?_
  refine ev_iconst (v := 1) (q := 146) dX7_together_145 mci_1 rfl ?_
  refine ev_iload_n (q := 147) dX7_together_146 rfl rfl ?_
  refine ev_ishl (q := 148) dX7_together_147 rfl ?_
  refine ev_ior (q := 149) dX7_together_148 rfl ?_
  refine ev_nmi (fun u_16 hu_16 => ?_)
  have hg := mj_lt_el hu_16 hg
  refine ev_istore_n (q := 150) (loc' := [some (.ref _), some (.int _), some (.int _), some (.int _), none]) dX7_together_149 (by decide) rfl rfl ?_
  refine ev_iinc (v := 1) (q := 153) (loc' := [some (.ref _), some (.int _), some (.int _), some (.int _), none]) dX7_together_150 rfl (by decide) mci_1 rfl rfl ?_
  refine ev_goto (q := 17) dX7_together_153 rfl ?_
  exact hrec _ _ _ _ _ hg hk
def g_X7_together_17 : Nat → Int32 → Int32 → Int32 → mj_I → Option (Int32 × mj_I)
  | 0, _, _, _, _ => none
  | n + 1, x1, x2, x3, f =>
    if x3 < x2 then
     (g_X7_isThere x2 f).bind (fun o_4 =>
     if o_4 = 0 then
      some ((x1, f))
     else
      (g_X7_isThere x3 f).bind (fun o_5 =>
      if o_5 = 0 then
       g_X7_together_17 n x1 x2 (x3 + (1 : Int32)) f
      else
       if mj_in ((56 : Int32) + x2) 82 = true then
       if mj_in ((56 : Int32) + x3) 82 = true then
        if (f 4 (ix ((56 : Int32) + x2))) = (f 4 (ix ((56 : Int32) + x3))) then
          if mj_in ((61 : Int32) + x2) 82 = true then
          if mj_in ((61 : Int32) + x3) 82 = true then
           if (f 4 (ix ((61 : Int32) + x2))) = (f 4 (ix ((61 : Int32) + x3))) then
             if mj_in ((66 : Int32) + x2) 82 = true then
             if mj_in ((66 : Int32) + x3) 82 = true then
              mj_lt (((f 4 (ix ((66 : Int32) + x2))) + (f 4 (ix ((66 : Int32) + x3))))) (fun u_12 =>
               if (40 : Int32) < u_12 then
                g_X7_together_123 (g_X7_together_17 n) x1 x2 x3 ((66 : Int32) + x3) (40 : Int32) f
               else
                g_X7_together_123 (g_X7_together_17 n) x1 x2 x3 ((66 : Int32) + x3) u_12 f)
              else none
             else none
            else
             g_X7_together_17 n x1 x2 (x3 + (1 : Int32)) f
           else none
          else none
         else
          g_X7_together_17 n x1 x2 (x3 + (1 : Int32)) f
        else none
       else none))
    else
     some ((x1, f))
theorem r_X7_together_17 {g : mj_L} {post : Option Value → mj_I → mj_L → Prop} : ∀ (n : Nat) (x1 : Int32) (x2 : Int32) (x3 : Int32) (f : mj_I) (o : Int32 × mj_I), g_X7_together_17 n x1 x2 x3 f = some o → mj_Ev jX7_together 156 [some (.ref 0), some (.int o.1), some (.int x2), none, none] [] my_S o.2 g post → mj_Ev jX7_together 17 [some (.ref 0), some (.int x1), some (.int x2), some (.int x3), none] [] my_S f g post := by
  intro n
  induction n with
  | zero =>
    intro x1 x2 x3 f o hg hk
    cases hg
  | succ n ih =>
    intro x1 x2 x3 f o hg hk
    unfold g_X7_together_17 at hg
    refine ev_iload_n (q := 18) dX7_together_17 rfl rfl ?_
    refine ev_iload_n (q := 19) dX7_together_18 rfl rfl ?_
    refine ev_icmp_ge (t := 156) (q := 22) dX7_together_19 rfl rfl hg (fun hg => ?_) (fun hg => ?_)
    · refine ev_aload_n (q := 23) dX7_together_22 rfl rfl ?_
      refine ev_iload_n (q := 24) dX7_together_23 rfl rfl ?_
      obtain ⟨o_4, ho_4, hg⟩ := mj_bd hg
      refine ev_callV (q := 27) kX7_isThere mw_i_X7_isThere mw_s_X7_isThere mw_m_RX7_177 rfl rfl (r_X7_isThere ho_4) rfl rfl (Nat.le_of_ble_eq_true rfl) (by decide) dX7_together_24 rfl (fun v fv gv hp => ?_)
      obtain ⟨rfl, rfl, rfl, hr_4⟩ := hp
      refine ev_if_eq (t := 156) (q := 30) dX7_together_27 rfl rfl hg (fun hg => ?_) (fun hg => ?_)
      · obtain rfl := Option.some.inj hg
        refine ev_wk (loc' := [some (.ref _), some (.int _), some (.int _), none, none]) ⟨rfl, rfl, rfl, trivial⟩ ?_
        exact hk
      · refine ev_aload_n (q := 31) dX7_together_30 rfl rfl ?_
        refine ev_iload_n (q := 32) dX7_together_31 rfl rfl ?_
        obtain ⟨o_5, ho_5, hg⟩ := mj_bd hg
        refine ev_callV (q := 35) kX7_isThere mw_i_X7_isThere mw_s_X7_isThere mw_m_RX7_177 rfl rfl (r_X7_isThere ho_5) rfl rfl (Nat.le_of_ble_eq_true rfl) (by decide) dX7_together_32 rfl (fun v fv gv hp => ?_)
        obtain ⟨rfl, rfl, rfl, hr_5⟩ := hp
        refine ev_if_eq (t := 150) (q := 38) dX7_together_35 rfl rfl hg (fun hg => ?_) (fun hg => ?_)
        · refine ev_iinc (v := 1) (q := 153) (loc' := [some (.ref _), some (.int _), some (.int _), some (.int _), none]) dX7_together_150 rfl (by decide) mci_1 rfl rfl ?_
          refine ev_goto (q := 17) dX7_together_153 rfl ?_
          exact ih _ _ _ _ _ hg hk
        · refine ev_aload_n (q := 39) dX7_together_38 rfl rfl ?_
          refine ev_getfR (q := 42) mw_f_RX7_19 rfl rfl dX7_together_39 rfl ?_
          refine ev_bipush (v := 56) (q := 44) dX7_together_42 mcb_56 rfl ?_
          refine ev_iload_n (q := 45) dX7_together_44 rfl rfl ?_
          refine ev_iadd (q := 46) dX7_together_45 rfl ?_
          obtain ⟨hi_6, hg⟩ := mj_gd hg
          refine ev_ialdk (q := 47) rfl hi_6 rfl dX7_together_46 rfl ?_
          refine ev_aload_n (q := 48) dX7_together_47 rfl rfl ?_
          refine ev_getfR (q := 51) mw_f_RX7_19 rfl rfl dX7_together_48 rfl ?_
          refine ev_bipush (v := 56) (q := 53) dX7_together_51 mcb_56 rfl ?_
          refine ev_iload_n (q := 54) dX7_together_53 rfl rfl ?_
          refine ev_iadd (q := 55) dX7_together_54 rfl ?_
          obtain ⟨hi_7, hg⟩ := mj_gd hg
          refine ev_ialdk (q := 56) rfl hi_7 rfl dX7_together_55 rfl ?_
          refine ev_icmp_ne (t := 150) (q := 59) dX7_together_56 rfl rfl hg (fun hg => ?_) (fun hg => ?_)
          · refine ev_aload_n (q := 60) dX7_together_59 rfl rfl ?_
            refine ev_getfR (q := 63) mw_f_RX7_19 rfl rfl dX7_together_60 rfl ?_
            refine ev_bipush (v := 61) (q := 65) dX7_together_63 mcb_61 rfl ?_
            refine ev_iload_n (q := 66) dX7_together_65 rfl rfl ?_
            refine ev_iadd (q := 67) dX7_together_66 rfl ?_
            obtain ⟨hi_8, hg⟩ := mj_gd hg
            refine ev_ialdk (q := 68) rfl hi_8 rfl dX7_together_67 rfl ?_
            refine ev_aload_n (q := 69) dX7_together_68 rfl rfl ?_
            refine ev_getfR (q := 72) mw_f_RX7_19 rfl rfl dX7_together_69 rfl ?_
            refine ev_bipush (v := 61) (q := 74) dX7_together_72 mcb_61 rfl ?_
            refine ev_iload_n (q := 75) dX7_together_74 rfl rfl ?_
            refine ev_iadd (q := 76) dX7_together_75 rfl ?_
            obtain ⟨hi_9, hg⟩ := mj_gd hg
            refine ev_ialdk (q := 77) rfl hi_9 rfl dX7_together_76 rfl ?_
            refine ev_icmp_ne (t := 150) (q := 80) dX7_together_77 rfl rfl hg (fun hg => ?_) (fun hg => ?_)
            · refine ev_aload_n (q := 81) dX7_together_80 rfl rfl ?_
              refine ev_getfR (q := 84) mw_f_RX7_19 rfl rfl dX7_together_81 rfl ?_
              refine ev_bipush (v := 66) (q := 86) dX7_together_84 mcb_66 rfl ?_
              refine ev_iload_n (q := 87) dX7_together_86 rfl rfl ?_
              refine ev_iadd (q := 88) dX7_together_87 rfl ?_
              obtain ⟨hi_10, hg⟩ := mj_gd hg
              refine ev_ialdk (q := 89) rfl hi_10 rfl dX7_together_88 rfl ?_
              refine ev_aload_n (q := 90) dX7_together_89 rfl rfl ?_
              refine ev_getfR (q := 93) mw_f_RX7_19 rfl rfl dX7_together_90 rfl ?_
              refine ev_bipush (v := 66) (q := 95) dX7_together_93 mcb_66 rfl ?_
              refine ev_iload_n (q := 96) dX7_together_95 rfl rfl ?_
              refine ev_iadd (q := 97) dX7_together_96 rfl ?_
              obtain ⟨hi_11, hg⟩ := mj_gd hg
              refine ev_ialdk (q := 98) rfl hi_11 rfl dX7_together_97 rfl ?_
              refine ev_iadd (q := 99) dX7_together_98 rfl ?_
              refine ev_nmi (fun u_12 hu_12 => ?_)
              have hg := mj_lt_el hu_12 hg
              refine ev_istore (q := 101) (loc' := [some (.ref _), some (.int _), some (.int _), some (.int _), some (.int _)]) dX7_together_99 (by decide) rfl rfl ?_
              refine ev_aload_n (q := 102) dX7_together_101 rfl rfl ?_
              refine ev_getfR (q := 105) mw_f_RX7_19 rfl rfl dX7_together_102 rfl ?_
              refine ev_bipush (v := 66) (q := 107) dX7_together_105 mcb_66 rfl ?_
              refine ev_iload_n (q := 108) dX7_together_107 rfl rfl ?_
              refine ev_iadd (q := 109) dX7_together_108 rfl ?_
              refine ev_iload (q := 111) dX7_together_109 rfl rfl ?_
              refine ev_bipush (v := 40) (q := 113) dX7_together_111 mcb_40 rfl ?_
              refine ev_icmp_le (t := 121) (q := 116) dX7_together_113 rfl rfl hg (fun hg => ?_) (fun hg => ?_)
              · refine ev_bipush (v := 40) (q := 118) dX7_together_116 mcb_40 rfl ?_
                refine ev_goto (q := 123) dX7_together_118 rfl ?_
                refine ev_wk (loc' := [some (.ref _), some (.int _), some (.int _), some (.int _), none]) ⟨rfl, rfl, rfl, rfl, trivial⟩ ?_
                exact r_X7_together_123 ih _ _ _ _ _ _ _ hg hk
              · refine ev_iload (q := 123) dX7_together_121 rfl rfl ?_
                refine ev_wk (loc' := [some (.ref _), some (.int _), some (.int _), some (.int _), none]) ⟨rfl, rfl, rfl, rfl, trivial⟩ ?_
                exact r_X7_together_123 ih _ _ _ _ _ _ _ hg hk
            · refine ev_iinc (v := 1) (q := 153) (loc' := [some (.ref _), some (.int _), some (.int _), some (.int _), none]) dX7_together_150 rfl (by decide) mci_1 rfl rfl ?_
              refine ev_goto (q := 17) dX7_together_153 rfl ?_
              exact ih _ _ _ _ _ hg hk
          · refine ev_iinc (v := 1) (q := 153) (loc' := [some (.ref _), some (.int _), some (.int _), some (.int _), none]) dX7_together_150 rfl (by decide) mci_1 rfl rfl ?_
            refine ev_goto (q := 17) dX7_together_153 rfl ?_
            exact ih _ _ _ _ _ hg hk
    · obtain rfl := Option.some.inj hg
      refine ev_wk (loc' := [some (.ref _), some (.int _), some (.int _), none, none]) ⟨rfl, rfl, rfl, trivial⟩ ?_
      exact hk
def g_X7_together_4 : Nat → Int32 → Int32 → mj_I → Option (Int32 × mj_I)
  | 0, _, _, _ => none
  | n + 1, x1, x2, f =>
    if x2 < (f 4 50) then
     (g_X7_together_17 mj_fuel x1 x2 (0 : Int32) f).bind (fun q_3 =>
     g_X7_together_4 n q_3.1 (x2 + (1 : Int32)) q_3.2)
    else
     some ((x1, f))
theorem r_X7_together_4 {g : mj_L} {post : Option Value → mj_I → mj_L → Prop} : ∀ (n : Nat) (x1 : Int32) (x2 : Int32) (f : mj_I) (o : Int32 × mj_I), g_X7_together_4 n x1 x2 f = some o → mj_Ev jX7_together 162 [none, some (.int o.1), none, none, none] [] my_S o.2 g post → mj_Ev jX7_together 4 [some (.ref 0), some (.int x1), some (.int x2), none, none] [] my_S f g post := by
  intro n
  induction n with
  | zero =>
    intro x1 x2 f o hg hk
    cases hg
  | succ n ih =>
    intro x1 x2 f o hg hk
    unfold g_X7_together_4 at hg
    refine ev_iload_n (q := 5) dX7_together_4 rfl rfl ?_
    refine ev_aload_n (q := 6) dX7_together_5 rfl rfl ?_
    refine ev_getfR (q := 9) mw_f_RX7_19 rfl rfl dX7_together_6 rfl ?_
    refine ev_bipush (v := 50) (q := 11) dX7_together_9 mcb_50 rfl ?_
    refine ev_ialdk (k := 50) (q := 12) rfl (by decide) mcx_50 dX7_together_11 rfl ?_
    refine ev_icmp_ge (t := 162) (q := 15) dX7_together_12 rfl rfl hg (fun hg => ?_) (fun hg => ?_)
    · refine ev_iconst (v := 0) (q := 16) dX7_together_15 mci_0 rfl ?_
      refine ev_istore_n (q := 17) (loc' := [some (.ref _), some (.int _), some (.int _), some (.int _), none]) dX7_together_16 (by decide) rfl rfl ?_
      obtain ⟨q_3, hq_3, hg⟩ := mj_bd hg
      refine r_X7_together_17 mj_fuel _ _ _ _ _ hq_3 ?_
      refine ev_iinc (v := 1) (q := 159) (loc' := [some (.ref _), some (.int _), some (.int _), none, none]) dX7_together_156 rfl (by decide) mci_1 rfl rfl ?_
      refine ev_goto (q := 4) dX7_together_159 rfl ?_
      exact ih _ _ _ _ hg hk
    · obtain rfl := Option.some.inj hg
      refine ev_wk (loc' := [none, some (.int _), none, none, none]) ⟨rfl, trivial⟩ ?_
      exact hk
def g_X7_together (f : mj_I) : Option (Int32 × mj_I) :=
  (g_X7_together_4 mj_fuel (0 : Int32) (1 : Int32) f).bind (fun q_1 =>
  some ((q_1.1, q_1.2)))
theorem r_X7_together {f : mj_I} {g : mj_L} {o : Int32 × mj_I} (hg : g_X7_together f = some o) : mj_Sp jX7_together my_S [.ref 0] f g (fun v f' g' => some (.int o.1) = v ∧ o.2 = f' ∧ g = g') := by
  refine mj_sp 4 (by decide +kernel) rfl rfl (fun _ _ => Nat.le_of_ble_eq_true rfl) ?_
  show mj_Ev jX7_together 0 [some (.ref 0), none, none, none, none] [] my_S f g _
  unfold g_X7_together at hg
  refine ev_iconst (v := 0) (q := 1) dX7_together_0 mci_0 rfl ?_
  refine ev_istore_n (q := 2) (loc' := [some (.ref _), some (.int _), none, none, none]) dX7_together_1 (by decide) rfl rfl ?_
  refine ev_iconst (v := 1) (q := 3) dX7_together_2 mci_1 rfl ?_
  refine ev_istore_n (q := 4) (loc' := [some (.ref _), some (.int _), some (.int _), none, none]) dX7_together_3 (by decide) rfl rfl ?_
  obtain ⟨q_1, hq_1, hg⟩ := mj_bd hg
  refine r_X7_together_4 mj_fuel _ _ _ _ hq_1 ?_
  refine ev_iload_n (q := 163) dX7_together_162 rfl rfl ?_
  obtain rfl := Option.some.inj hg
  exact ev_iret dX7_together_163 rfl ⟨rfl, rfl, rfl⟩
def g_X7_oneHour_7 : Nat → Int32 → mj_I → Option (mj_I)
  | 0, _, _ => none
  | n + 1, x1, f =>
    if x1 < (f 4 50) then
     (g_X7_isThere x1 f).bind (fun o_9 =>
     if o_9 = 0 then
      g_X7_oneHour_7 n (x1 + (1 : Int32)) f
     else
      (g_X7_drift x1 f).bind (fun o_10 =>
      g_X7_oneHour_7 n (x1 + (1 : Int32)) o_10))
    else
     some (f)
theorem r_X7_oneHour_7 {g : mj_L} {post : Option Value → mj_I → mj_L → Prop} : ∀ (n : Nat) (x1 : Int32) (f : mj_I) (o : mj_I), g_X7_oneHour_7 n x1 f = some o → mj_Ev jX7_oneHour 37 [some (.ref 0), none, none] [] my_S o g post → mj_Ev jX7_oneHour 7 [some (.ref 0), some (.int x1), none] [] my_S f g post := by
  intro n
  induction n with
  | zero =>
    intro x1 f o hg hk
    cases hg
  | succ n ih =>
    intro x1 f o hg hk
    unfold g_X7_oneHour_7 at hg
    refine ev_iload_n (q := 8) dX7_oneHour_7 rfl rfl ?_
    refine ev_aload_n (q := 9) dX7_oneHour_8 rfl rfl ?_
    refine ev_getfR (q := 12) mw_f_RX7_19 rfl rfl dX7_oneHour_9 rfl ?_
    refine ev_bipush (v := 50) (q := 14) dX7_oneHour_12 mcb_50 rfl ?_
    refine ev_ialdk (k := 50) (q := 15) rfl (by decide) mcx_50 dX7_oneHour_14 rfl ?_
    refine ev_icmp_ge (t := 37) (q := 18) dX7_oneHour_15 rfl rfl hg (fun hg => ?_) (fun hg => ?_)
    · refine ev_aload_n (q := 19) dX7_oneHour_18 rfl rfl ?_
      refine ev_iload_n (q := 20) dX7_oneHour_19 rfl rfl ?_
      obtain ⟨o_9, ho_9, hg⟩ := mj_bd hg
      refine ev_callV (q := 23) kX7_isThere mw_i_X7_isThere mw_s_X7_isThere mw_m_RX7_177 rfl rfl (r_X7_isThere ho_9) rfl rfl (Nat.le_of_ble_eq_true rfl) (by decide) dX7_oneHour_20 rfl (fun v fv gv hp => ?_)
      obtain ⟨rfl, rfl, rfl, hr_9⟩ := hp
      refine ev_if_eq (t := 31) (q := 26) dX7_oneHour_23 rfl rfl hg (fun hg => ?_) (fun hg => ?_)
      · refine ev_iinc (v := 1) (q := 34) (loc' := [some (.ref _), some (.int _), none]) dX7_oneHour_31 rfl (by decide) mci_1 rfl rfl ?_
        refine ev_goto (q := 7) dX7_oneHour_34 rfl ?_
        exact ih _ _ _ hg hk
      · refine ev_aload_n (q := 27) dX7_oneHour_26 rfl rfl ?_
        refine ev_iload_n (q := 28) dX7_oneHour_27 rfl rfl ?_
        obtain ⟨o_10, ho_10, hg⟩ := mj_bd hg
        refine ev_callV (q := 31) kX7_drift mw_i_X7_drift mw_s_X7_drift mw_m_RX7_180 rfl rfl (r_X7_drift ho_10) rfl rfl (Nat.le_of_ble_eq_true rfl) (by decide) dX7_oneHour_28 rfl (fun v fv gv hp => ?_)
        obtain ⟨rfl, rfl, rfl⟩ := hp
        refine ev_iinc (v := 1) (q := 34) (loc' := [some (.ref _), some (.int _), none]) dX7_oneHour_31 rfl (by decide) mci_1 rfl rfl ?_
        refine ev_goto (q := 7) dX7_oneHour_34 rfl ?_
        exact ih _ _ _ hg hk
    · obtain rfl := Option.some.inj hg
      refine ev_wk (loc' := [some (.ref _), none, none]) ⟨rfl, trivial⟩ ?_
      exact hk
def g_X7_oneHour_44 : Nat → Int32 → Int32 → mj_I → Option (mj_I)
  | 0, _, _, _ => none
  | n + 1, x1, x2, f =>
    if x2 < (f 4 50) then
     (g_X7_isThere x2 f).bind (fun o_12 =>
     if o_12 = 0 then
      g_X7_oneHour_44 n x1 (x2 + (1 : Int32)) f
     else
      (g_X7_rain x2 f).bind (fun o_13 =>
      g_X7_oneHour_44 n x1 (x2 + (1 : Int32)) o_13.2))
    else
     some (f)
theorem r_X7_oneHour_44 {g : mj_L} {post : Option Value → mj_I → mj_L → Prop} : ∀ (n : Nat) (x1 : Int32) (x2 : Int32) (f : mj_I) (o : mj_I), g_X7_oneHour_44 n x1 x2 f = some o → mj_Ev jX7_oneHour 75 [some (.ref 0), some (.int x1), none] [] my_S o g post → mj_Ev jX7_oneHour 44 [some (.ref 0), some (.int x1), some (.int x2)] [] my_S f g post := by
  intro n
  induction n with
  | zero =>
    intro x1 x2 f o hg hk
    cases hg
  | succ n ih =>
    intro x1 x2 f o hg hk
    unfold g_X7_oneHour_44 at hg
    refine ev_iload_n (q := 45) dX7_oneHour_44 rfl rfl ?_
    refine ev_aload_n (q := 46) dX7_oneHour_45 rfl rfl ?_
    refine ev_getfR (q := 49) mw_f_RX7_19 rfl rfl dX7_oneHour_46 rfl ?_
    refine ev_bipush (v := 50) (q := 51) dX7_oneHour_49 mcb_50 rfl ?_
    refine ev_ialdk (k := 50) (q := 52) rfl (by decide) mcx_50 dX7_oneHour_51 rfl ?_
    refine ev_icmp_ge (t := 75) (q := 55) dX7_oneHour_52 rfl rfl hg (fun hg => ?_) (fun hg => ?_)
    · refine ev_aload_n (q := 56) dX7_oneHour_55 rfl rfl ?_
      refine ev_iload_n (q := 57) dX7_oneHour_56 rfl rfl ?_
      obtain ⟨o_12, ho_12, hg⟩ := mj_bd hg
      refine ev_callV (q := 60) kX7_isThere mw_i_X7_isThere mw_s_X7_isThere mw_m_RX7_177 rfl rfl (r_X7_isThere ho_12) rfl rfl (Nat.le_of_ble_eq_true rfl) (by decide) dX7_oneHour_57 rfl (fun v fv gv hp => ?_)
      obtain ⟨rfl, rfl, rfl, hr_12⟩ := hp
      refine ev_if_eq (t := 69) (q := 63) dX7_oneHour_60 rfl rfl hg (fun hg => ?_) (fun hg => ?_)
      · refine ev_iinc (v := 1) (q := 72) (loc' := [some (.ref _), some (.int _), some (.int _)]) dX7_oneHour_69 rfl (by decide) mci_1 rfl rfl ?_
        refine ev_goto (q := 44) dX7_oneHour_72 rfl ?_
        exact ih _ _ _ _ hg hk
      · refine ev_aload_n (q := 64) dX7_oneHour_63 rfl rfl ?_
        refine ev_iload_n (q := 65) dX7_oneHour_64 rfl rfl ?_
        obtain ⟨o_13, ho_13, hg⟩ := mj_bd hg
        refine ev_callV (q := 68) kX7_rain mw_i_X7_rain mw_s_X7_rain mw_m_RX7_187 rfl rfl (r_X7_rain ho_13) rfl rfl (Nat.le_of_ble_eq_true rfl) (by decide) dX7_oneHour_65 rfl (fun v fv gv hp => ?_)
        obtain ⟨rfl, rfl, rfl⟩ := hp
        refine ev_pop (q := 69) dX7_oneHour_68 rfl rfl ?_
        refine ev_iinc (v := 1) (q := 72) (loc' := [some (.ref _), some (.int _), some (.int _)]) dX7_oneHour_69 rfl (by decide) mci_1 rfl rfl ?_
        refine ev_goto (q := 44) dX7_oneHour_72 rfl ?_
        exact ih _ _ _ _ hg hk
    · obtain rfl := Option.some.inj hg
      refine ev_wk (loc' := [some (.ref _), some (.int _), none]) ⟨rfl, rfl, trivial⟩ ?_
      exact hk
def g_X7_oneHour_77 : Nat → Int32 → Int32 → mj_I → Option (mj_I)
  | 0, _, _, _ => none
  | n + 1, x1, x2, f =>
    if x2 < (f 4 50) then
     (g_X7_isThere x2 f).bind (fun o_15 =>
     if o_15 = 0 then
      g_X7_oneHour_77 n x1 (x2 + (1 : Int32)) f
     else
      (g_X7_milk x2 f).bind (fun o_16 =>
      g_X7_oneHour_77 n x1 (x2 + (1 : Int32)) o_16))
    else
     some (f)
theorem r_X7_oneHour_77 {g : mj_L} {post : Option Value → mj_I → mj_L → Prop} : ∀ (n : Nat) (x1 : Int32) (x2 : Int32) (f : mj_I) (o : mj_I), g_X7_oneHour_77 n x1 x2 f = some o → mj_Ev jX7_oneHour 107 [some (.ref 0), some (.int x1), none] [] my_S o g post → mj_Ev jX7_oneHour 77 [some (.ref 0), some (.int x1), some (.int x2)] [] my_S f g post := by
  intro n
  induction n with
  | zero =>
    intro x1 x2 f o hg hk
    cases hg
  | succ n ih =>
    intro x1 x2 f o hg hk
    unfold g_X7_oneHour_77 at hg
    refine ev_iload_n (q := 78) dX7_oneHour_77 rfl rfl ?_
    refine ev_aload_n (q := 79) dX7_oneHour_78 rfl rfl ?_
    refine ev_getfR (q := 82) mw_f_RX7_19 rfl rfl dX7_oneHour_79 rfl ?_
    refine ev_bipush (v := 50) (q := 84) dX7_oneHour_82 mcb_50 rfl ?_
    refine ev_ialdk (k := 50) (q := 85) rfl (by decide) mcx_50 dX7_oneHour_84 rfl ?_
    refine ev_icmp_ge (t := 107) (q := 88) dX7_oneHour_85 rfl rfl hg (fun hg => ?_) (fun hg => ?_)
    · refine ev_aload_n (q := 89) dX7_oneHour_88 rfl rfl ?_
      refine ev_iload_n (q := 90) dX7_oneHour_89 rfl rfl ?_
      obtain ⟨o_15, ho_15, hg⟩ := mj_bd hg
      refine ev_callV (q := 93) kX7_isThere mw_i_X7_isThere mw_s_X7_isThere mw_m_RX7_177 rfl rfl (r_X7_isThere ho_15) rfl rfl (Nat.le_of_ble_eq_true rfl) (by decide) dX7_oneHour_90 rfl (fun v fv gv hp => ?_)
      obtain ⟨rfl, rfl, rfl, hr_15⟩ := hp
      refine ev_if_eq (t := 101) (q := 96) dX7_oneHour_93 rfl rfl hg (fun hg => ?_) (fun hg => ?_)
      · refine ev_iinc (v := 1) (q := 104) (loc' := [some (.ref _), some (.int _), some (.int _)]) dX7_oneHour_101 rfl (by decide) mci_1 rfl rfl ?_
        refine ev_goto (q := 77) dX7_oneHour_104 rfl ?_
        exact ih _ _ _ _ hg hk
      · refine ev_aload_n (q := 97) dX7_oneHour_96 rfl rfl ?_
        refine ev_iload_n (q := 98) dX7_oneHour_97 rfl rfl ?_
        obtain ⟨o_16, ho_16, hg⟩ := mj_bd hg
        refine ev_callV (q := 101) kX7_milk mw_i_X7_milk mw_s_X7_milk mw_m_RX7_190 rfl rfl (r_X7_milk ho_16) rfl rfl (Nat.le_of_ble_eq_true rfl) (by decide) dX7_oneHour_98 rfl (fun v fv gv hp => ?_)
        obtain ⟨rfl, rfl, rfl⟩ := hp
        refine ev_iinc (v := 1) (q := 104) (loc' := [some (.ref _), some (.int _), some (.int _)]) dX7_oneHour_101 rfl (by decide) mci_1 rfl rfl ?_
        refine ev_goto (q := 77) dX7_oneHour_104 rfl ?_
        exact ih _ _ _ _ hg hk
    · obtain rfl := Option.some.inj hg
      refine ev_wk (loc' := [some (.ref _), some (.int _), none]) ⟨rfl, rfl, trivial⟩ ?_
      exact hk
def g_X7_oneHour (f : mj_I) : Option (Int32 × mj_I) :=
  mj_lt (mj_wr f 0 16 (0 : Int32)) (fun f_1 =>
  (g_X7_oneHour_7 mj_fuel (0 : Int32) f_1).bind (fun q_2 =>
  (g_X7_together q_2).bind (fun o_3 =>
  (g_X7_oneHour_44 mj_fuel o_3.1 (0 : Int32) o_3.2).bind (fun q_4 =>
  (g_X7_oneHour_77 mj_fuel o_3.1 (0 : Int32) q_4).bind (fun q_5 =>
  mj_lt (mj_wr q_5 4 46 ((q_5 4 46) + (1 : Int32))) (fun f_7 =>
  some ((o_3.1, f_7))))))))
theorem r_X7_oneHour {f : mj_I} {g : mj_L} {o : Int32 × mj_I} (hg : g_X7_oneHour f = some o) : mj_Sp jX7_oneHour my_S [.ref 0] f g (fun v f' g' => some (.int o.1) = v ∧ o.2 = f' ∧ g = g') := by
  refine mj_sp 2 (by decide +kernel) rfl rfl (fun _ _ => Nat.le_of_ble_eq_true rfl) ?_
  show mj_Ev jX7_oneHour 0 [some (.ref 0), none, none] [] my_S f g _
  unfold g_X7_oneHour at hg
  refine ev_aload_n (q := 1) dX7_oneHour_0 rfl rfl ?_
  refine ev_iconst (v := 0) (q := 2) dX7_oneHour_1 mci_0 rfl ?_
  refine ev_putfI (q := 5) mw_f_RX7_174 rfl dX7_oneHour_2 rfl ?_
  refine ev_nmf (fun f_1 hf_1 => ?_)
  have hg := mj_lt_el hf_1 hg
  refine ev_iconst (v := 0) (q := 6) dX7_oneHour_5 mci_0 rfl ?_
  refine ev_istore_n (q := 7) (loc' := [some (.ref _), some (.int _), none]) dX7_oneHour_6 (by decide) rfl rfl ?_
  obtain ⟨q_2, hq_2, hg⟩ := mj_bd hg
  refine r_X7_oneHour_7 mj_fuel _ _ _ hq_2 ?_
  refine ev_aload_n (q := 38) dX7_oneHour_37 rfl rfl ?_
  obtain ⟨o_3, ho_3, hg⟩ := mj_bd hg
  refine ev_callV (q := 41) kX7_together mw_i_X7_together mw_s_X7_together mw_m_RX7_184 rfl rfl (r_X7_together ho_3) rfl rfl (Nat.le_of_ble_eq_true rfl) (by decide) dX7_oneHour_38 rfl (fun v fv gv hp => ?_)
  obtain ⟨rfl, rfl, rfl⟩ := hp
  refine ev_istore_n (q := 42) (loc' := [some (.ref _), some (.int _), none]) dX7_oneHour_41 (by decide) rfl rfl ?_
  refine ev_iconst (v := 0) (q := 43) dX7_oneHour_42 mci_0 rfl ?_
  refine ev_istore_n (q := 44) (loc' := [some (.ref _), some (.int _), some (.int _)]) dX7_oneHour_43 (by decide) rfl rfl ?_
  obtain ⟨q_4, hq_4, hg⟩ := mj_bd hg
  refine r_X7_oneHour_44 mj_fuel _ _ _ _ hq_4 ?_
  refine ev_iconst (v := 0) (q := 76) dX7_oneHour_75 mci_0 rfl ?_
  refine ev_istore_n (q := 77) (loc' := [some (.ref _), some (.int _), some (.int _)]) dX7_oneHour_76 (by decide) rfl rfl ?_
  obtain ⟨q_5, hq_5, hg⟩ := mj_bd hg
  refine r_X7_oneHour_77 mj_fuel _ _ _ _ hq_5 ?_
  refine ev_aload_n (q := 108) dX7_oneHour_107 rfl rfl ?_
  refine ev_getfR (q := 111) mw_f_RX7_19 rfl rfl dX7_oneHour_108 rfl ?_
  refine ev_bipush (v := 46) (q := 113) dX7_oneHour_111 mcb_46 rfl ?_
  refine ev_dup2 (q := 114) dX7_oneHour_113 rfl rfl rfl ?_
  refine ev_ialdk (k := 46) (q := 115) rfl (by decide) mcx_46 dX7_oneHour_114 rfl ?_
  refine ev_iconst (v := 1) (q := 116) dX7_oneHour_115 mci_1 rfl ?_
  refine ev_iadd (q := 117) dX7_oneHour_116 rfl ?_
  refine ev_iastk (k := 46) (q := 118) rfl (by decide) mcx_46 dX7_oneHour_117 rfl ?_
  refine ev_nmf (fun f_7 hf_7 => ?_)
  have hg := mj_lt_el hf_7 hg
  refine ev_iload_n (q := 119) dX7_oneHour_118 rfl rfl ?_
  obtain rfl := Option.some.inj hg
  exact ev_iret dX7_oneHour_119 rfl ⟨rfl, rfl, rfl⟩
def g_X7_oneAlone (x1 : Int32) (f : mj_I) : Option (Int32 × mj_I) :=
  (g_X7_drift x1 f).bind (fun o_1 =>
  (g_X7_rain x1 o_1).bind (fun o_2 =>
  (g_X7_milk x1 o_2.2).bind (fun o_3 =>
  mj_lt (mj_wr o_3 4 46 ((o_3 4 46) + (1 : Int32))) (fun f_5 =>
  some ((o_2.1, f_5))))))
theorem r_X7_oneAlone {x1 : Int32} {f : mj_I} {g : mj_L} {o : Int32 × mj_I} (hg : g_X7_oneAlone x1 f = some o) : mj_Sp jX7_oneAlone my_S [.ref 0, .int x1] f g (fun v f' g' => some (.int o.1) = v ∧ o.2 = f' ∧ g = g') := by
  refine mj_sp 1 (by decide +kernel) rfl rfl (fun _ _ => Nat.le_of_ble_eq_true rfl) ?_
  show mj_Ev jX7_oneAlone 0 [some (.ref 0), some (.int x1), none] [] my_S f g _
  unfold g_X7_oneAlone at hg
  refine ev_aload_n (q := 1) dX7_oneAlone_0 rfl rfl ?_
  refine ev_iload_n (q := 2) dX7_oneAlone_1 rfl rfl ?_
  obtain ⟨o_1, ho_1, hg⟩ := mj_bd hg
  refine ev_callV (q := 5) kX7_drift mw_i_X7_drift mw_s_X7_drift mw_m_RX7_180 rfl rfl (r_X7_drift ho_1) rfl rfl (Nat.le_of_ble_eq_true rfl) (by decide) dX7_oneAlone_2 rfl (fun v fv gv hp => ?_)
  obtain ⟨rfl, rfl, rfl⟩ := hp
  refine ev_aload_n (q := 6) dX7_oneAlone_5 rfl rfl ?_
  refine ev_iload_n (q := 7) dX7_oneAlone_6 rfl rfl ?_
  obtain ⟨o_2, ho_2, hg⟩ := mj_bd hg
  refine ev_callV (q := 10) kX7_rain mw_i_X7_rain mw_s_X7_rain mw_m_RX7_187 rfl rfl (r_X7_rain ho_2) rfl rfl (Nat.le_of_ble_eq_true rfl) (by decide) dX7_oneAlone_7 rfl (fun v fv gv hp => ?_)
  obtain ⟨rfl, rfl, rfl⟩ := hp
  refine ev_istore_n (q := 11) (loc' := [some (.ref _), some (.int _), some (.int _)]) dX7_oneAlone_10 (by decide) rfl rfl ?_
  refine ev_aload_n (q := 12) dX7_oneAlone_11 rfl rfl ?_
  refine ev_iload_n (q := 13) dX7_oneAlone_12 rfl rfl ?_
  obtain ⟨o_3, ho_3, hg⟩ := mj_bd hg
  refine ev_callV (q := 16) kX7_milk mw_i_X7_milk mw_s_X7_milk mw_m_RX7_190 rfl rfl (r_X7_milk ho_3) rfl rfl (Nat.le_of_ble_eq_true rfl) (by decide) dX7_oneAlone_13 rfl (fun v fv gv hp => ?_)
  obtain ⟨rfl, rfl, rfl⟩ := hp
  refine ev_aload_n (q := 17) dX7_oneAlone_16 rfl rfl ?_
  refine ev_getfR (q := 20) mw_f_RX7_19 rfl rfl dX7_oneAlone_17 rfl ?_
  refine ev_bipush (v := 46) (q := 22) dX7_oneAlone_20 mcb_46 rfl ?_
  refine ev_dup2 (q := 23) dX7_oneAlone_22 rfl rfl rfl ?_
  refine ev_ialdk (k := 46) (q := 24) rfl (by decide) mcx_46 dX7_oneAlone_23 rfl ?_
  refine ev_iconst (v := 1) (q := 25) dX7_oneAlone_24 mci_1 rfl ?_
  refine ev_iadd (q := 26) dX7_oneAlone_25 rfl ?_
  refine ev_iastk (k := 46) (q := 27) rfl (by decide) mcx_46 dX7_oneAlone_26 rfl ?_
  refine ev_nmf (fun f_5 hf_5 => ?_)
  have hg := mj_lt_el hf_5 hg
  refine ev_iload_n (q := 28) dX7_oneAlone_27 rfl rfl ?_
  obtain rfl := Option.some.inj hg
  exact ev_iret dX7_oneAlone_28 rfl ⟨rfl, rfl, rfl⟩
def g_X7_note_11 : Nat → Int32 → mj_I → Option (mj_I)
  | 0, _, _ => none
  | n + 1, x1, f =>
    if x1 < (1886 : Int32) then
     if mj_in (x1 + (82 : Int32)) 1968 = true then
     if mj_in x1 1968 = true then
      mj_lt (mj_wr f 8 (ix x1) (f 8 (ix (x1 + (82 : Int32))))) (fun f_8 =>
       g_X7_note_11 n (x1 + (1 : Int32)) f_8)
      else none
     else none
    else
     some (f)
theorem r_X7_note_11 {g : mj_L} {post : Option Value → mj_I → mj_L → Prop} : ∀ (n : Nat) (x1 : Int32) (f : mj_I) (o : mj_I), g_X7_note_11 n x1 f = some o → mj_Ev jX7_note 39 [some (.ref 0), none] [] my_S o g post → mj_Ev jX7_note 11 [some (.ref 0), some (.int x1)] [] my_S f g post := by
  intro n
  induction n with
  | zero =>
    intro x1 f o hg hk
    cases hg
  | succ n ih =>
    intro x1 f o hg hk
    unfold g_X7_note_11 at hg
    refine ev_iload_n (q := 12) dX7_note_11 rfl rfl ?_
    refine ev_sipush (v := 1886) (q := 15) dX7_note_12 mcs_1886 rfl ?_
    refine ev_icmp_ge (t := 39) (q := 18) dX7_note_15 rfl rfl hg (fun hg => ?_) (fun hg => ?_)
    · refine ev_aload_n (q := 19) dX7_note_18 rfl rfl ?_
      refine ev_getfR (q := 22) mw_f_RX7_31 rfl rfl dX7_note_19 rfl ?_
      refine ev_iload_n (q := 23) dX7_note_22 rfl rfl ?_
      refine ev_aload_n (q := 24) dX7_note_23 rfl rfl ?_
      refine ev_getfR (q := 27) mw_f_RX7_31 rfl rfl dX7_note_24 rfl ?_
      refine ev_iload_n (q := 28) dX7_note_27 rfl rfl ?_
      refine ev_bipush (v := 82) (q := 30) dX7_note_28 mcb_82 rfl ?_
      refine ev_iadd (q := 31) dX7_note_30 rfl ?_
      obtain ⟨hi_7, hg⟩ := mj_gd hg
      refine ev_ialdk (q := 32) rfl hi_7 rfl dX7_note_31 rfl ?_
      obtain ⟨hi_8, hg⟩ := mj_gd hg
      refine ev_iastk (q := 33) rfl hi_8 rfl dX7_note_32 rfl ?_
      refine ev_nmf (fun f_8 hf_8 => ?_)
      have hg := mj_lt_el hf_8 hg
      refine ev_iinc (v := 1) (q := 36) (loc' := [some (.ref _), some (.int _)]) dX7_note_33 rfl (by decide) mci_1 rfl rfl ?_
      refine ev_goto (q := 11) dX7_note_36 rfl ?_
      exact ih _ _ _ hg hk
    · obtain rfl := Option.some.inj hg
      refine ev_wk (loc' := [some (.ref _), none]) ⟨rfl, trivial⟩ ?_
      exact hk
def g_X7_note_51 : Nat → Int32 → mj_I → Option (mj_I)
  | 0, _, _ => none
  | n + 1, x1, f =>
    if x1 < (82 : Int32) then
     if mj_in x1 82 = true then
     if mj_in (((82 : Int32) * (f 0 18)) + x1) 1968 = true then
      mj_lt (mj_wr f 8 (ix (((82 : Int32) * (f 0 18)) + x1)) (f 4 (ix x1))) (fun f_10 =>
       g_X7_note_51 n (x1 + (1 : Int32)) f_10)
      else none
     else none
    else
     some (f)
theorem r_X7_note_51 {g : mj_L} {post : Option Value → mj_I → mj_L → Prop} : ∀ (n : Nat) (x1 : Int32) (f : mj_I) (o : mj_I), g_X7_note_51 n x1 f = some o → mj_Ev jX7_note 83 [some (.ref 0), none] [] my_S o g post → mj_Ev jX7_note 51 [some (.ref 0), some (.int x1)] [] my_S f g post := by
  intro n
  induction n with
  | zero =>
    intro x1 f o hg hk
    cases hg
  | succ n ih =>
    intro x1 f o hg hk
    unfold g_X7_note_51 at hg
    refine ev_iload_n (q := 52) dX7_note_51 rfl rfl ?_
    refine ev_bipush (v := 82) (q := 54) dX7_note_52 mcb_82 rfl ?_
    refine ev_icmp_ge (t := 83) (q := 57) dX7_note_54 rfl rfl hg (fun hg => ?_) (fun hg => ?_)
    · refine ev_aload_n (q := 58) dX7_note_57 rfl rfl ?_
      refine ev_getfR (q := 61) mw_f_RX7_31 rfl rfl dX7_note_58 rfl ?_
      refine ev_bipush (v := 82) (q := 63) dX7_note_61 mcb_82 rfl ?_
      refine ev_aload_n (q := 64) dX7_note_63 rfl rfl ?_
      refine ev_getfI (q := 67) mw_f_RX7_158 (by decide) (by decide) rfl dX7_note_64 rfl ?_
      refine ev_imul (q := 68) dX7_note_67 rfl ?_
      refine ev_iload_n (q := 69) dX7_note_68 rfl rfl ?_
      refine ev_iadd (q := 70) dX7_note_69 rfl ?_
      refine ev_aload_n (q := 71) dX7_note_70 rfl rfl ?_
      refine ev_getfR (q := 74) mw_f_RX7_19 rfl rfl dX7_note_71 rfl ?_
      refine ev_iload_n (q := 75) dX7_note_74 rfl rfl ?_
      obtain ⟨hi_9, hg⟩ := mj_gd hg
      refine ev_ialdk (q := 76) rfl hi_9 rfl dX7_note_75 rfl ?_
      obtain ⟨hi_10, hg⟩ := mj_gd hg
      refine ev_iastk (q := 77) rfl hi_10 rfl dX7_note_76 rfl ?_
      refine ev_nmf (fun f_10 hf_10 => ?_)
      have hg := mj_lt_el hf_10 hg
      refine ev_iinc (v := 1) (q := 80) (loc' := [some (.ref _), some (.int _)]) dX7_note_77 rfl (by decide) mci_1 rfl rfl ?_
      refine ev_goto (q := 51) dX7_note_80 rfl ?_
      exact ih _ _ _ hg hk
    · obtain rfl := Option.some.inj hg
      refine ev_wk (loc' := [some (.ref _), none]) ⟨rfl, trivial⟩ ?_
      exact hk
def g_X7_note (f : mj_I) : Option (mj_I) :=
  if (f 0 18) = (24 : Int32) then
   (g_X7_note_11 mj_fuel (0 : Int32) f).bind (fun q_1 =>
   mj_lt (mj_wr q_1 0 18 ((q_1 0 18) - (1 : Int32))) (fun f_2 =>
   (g_X7_note_51 mj_fuel (0 : Int32) f_2).bind (fun q_3 =>
   mj_lt (mj_wr q_3 0 18 ((q_3 0 18) + (1 : Int32))) (fun f_4 =>
   some (f_4)))))
  else
   (g_X7_note_51 mj_fuel (0 : Int32) f).bind (fun q_5 =>
   mj_lt (mj_wr q_5 0 18 ((q_5 0 18) + (1 : Int32))) (fun f_6 =>
   some (f_6)))
theorem r_X7_note {f : mj_I} {g : mj_L} {o : mj_I} (hg : g_X7_note f = some o) : mj_Sp jX7_note my_S [.ref 0] f g (fun v f' g' => none = v ∧ o = f' ∧ g = g') := by
  refine mj_sp 1 (by decide +kernel) rfl rfl (fun _ _ => Nat.le_of_ble_eq_true rfl) ?_
  show mj_Ev jX7_note 0 [some (.ref 0), none] [] my_S f g _
  unfold g_X7_note at hg
  refine ev_aload_n (q := 1) dX7_note_0 rfl rfl ?_
  refine ev_getfI (q := 4) mw_f_RX7_158 (by decide) (by decide) rfl dX7_note_1 rfl ?_
  refine ev_bipush (v := 24) (q := 6) dX7_note_4 mcb_24 rfl ?_
  refine ev_icmp_ne (t := 49) (q := 9) dX7_note_6 rfl rfl hg (fun hg => ?_) (fun hg => ?_)
  · refine ev_iconst (v := 0) (q := 10) dX7_note_9 mci_0 rfl ?_
    refine ev_istore_n (q := 11) (loc' := [some (.ref _), some (.int _)]) dX7_note_10 (by decide) rfl rfl ?_
    obtain ⟨q_1, hq_1, hg⟩ := mj_bd hg
    refine r_X7_note_11 mj_fuel _ _ _ hq_1 ?_
    refine ev_aload_n (q := 40) dX7_note_39 rfl rfl ?_
    refine ev_dup (q := 41) dX7_note_40 rfl rfl ?_
    refine ev_getfI (q := 44) mw_f_RX7_158 (by decide) (by decide) rfl dX7_note_41 rfl ?_
    refine ev_iconst (v := 1) (q := 45) dX7_note_44 mci_1 rfl ?_
    refine ev_isub (q := 46) dX7_note_45 rfl ?_
    refine ev_putfI (q := 49) mw_f_RX7_158 rfl dX7_note_46 rfl ?_
    refine ev_nmf (fun f_2 hf_2 => ?_)
    have hg := mj_lt_el hf_2 hg
    refine ev_iconst (v := 0) (q := 50) dX7_note_49 mci_0 rfl ?_
    refine ev_istore_n (q := 51) (loc' := [some (.ref _), some (.int _)]) dX7_note_50 (by decide) rfl rfl ?_
    obtain ⟨q_3, hq_3, hg⟩ := mj_bd hg
    refine r_X7_note_51 mj_fuel _ _ _ hq_3 ?_
    refine ev_aload_n (q := 84) dX7_note_83 rfl rfl ?_
    refine ev_dup (q := 85) dX7_note_84 rfl rfl ?_
    refine ev_getfI (q := 88) mw_f_RX7_158 (by decide) (by decide) rfl dX7_note_85 rfl ?_
    refine ev_iconst (v := 1) (q := 89) dX7_note_88 mci_1 rfl ?_
    refine ev_iadd (q := 90) dX7_note_89 rfl ?_
    refine ev_putfI (q := 93) mw_f_RX7_158 rfl dX7_note_90 rfl ?_
    refine ev_nmf (fun f_4 hf_4 => ?_)
    have hg := mj_lt_el hf_4 hg
    obtain rfl := Option.some.inj hg
    exact ev_vret dX7_note_93 rfl ⟨rfl, rfl, rfl⟩
  · refine ev_iconst (v := 0) (q := 50) dX7_note_49 mci_0 rfl ?_
    refine ev_istore_n (q := 51) (loc' := [some (.ref _), some (.int _)]) dX7_note_50 (by decide) rfl rfl ?_
    obtain ⟨q_5, hq_5, hg⟩ := mj_bd hg
    refine r_X7_note_51 mj_fuel _ _ _ hq_5 ?_
    refine ev_aload_n (q := 84) dX7_note_83 rfl rfl ?_
    refine ev_dup (q := 85) dX7_note_84 rfl rfl ?_
    refine ev_getfI (q := 88) mw_f_RX7_158 (by decide) (by decide) rfl dX7_note_85 rfl ?_
    refine ev_iconst (v := 1) (q := 89) dX7_note_88 mci_1 rfl ?_
    refine ev_iadd (q := 90) dX7_note_89 rfl ?_
    refine ev_putfI (q := 93) mw_f_RX7_158 rfl dX7_note_90 rfl ?_
    refine ev_nmf (fun f_6 hf_6 => ?_)
    have hg := mj_lt_el hf_6 hg
    obtain rfl := Option.some.inj hg
    exact ev_vret dX7_note_93 rfl ⟨rfl, rfl, rfl⟩
def g_X7_undo_22 : Nat → Int32 → mj_I → Option (mj_I)
  | 0, _, _ => none
  | n + 1, x1, f =>
    if x1 < (82 : Int32) then
     if mj_in (((82 : Int32) * (f 0 18)) + x1) 1968 = true then
     if mj_in x1 82 = true then
      mj_lt (mj_wr f 4 (ix x1) (f 8 (ix (((82 : Int32) * (f 0 18)) + x1)))) (fun f_4 =>
       g_X7_undo_22 n (x1 + (1 : Int32)) f_4)
      else none
     else none
    else
     some (f)
theorem r_X7_undo_22 {g : mj_L} {post : Option Value → mj_I → mj_L → Prop} : ∀ (n : Nat) (x1 : Int32) (f : mj_I) (o : mj_I), g_X7_undo_22 n x1 f = some o → mj_Ev jX7_undo 54 [some (.ref 0), none] [] my_S o g post → mj_Ev jX7_undo 22 [some (.ref 0), some (.int x1)] [] my_S f g post := by
  intro n
  induction n with
  | zero =>
    intro x1 f o hg hk
    cases hg
  | succ n ih =>
    intro x1 f o hg hk
    unfold g_X7_undo_22 at hg
    refine ev_iload_n (q := 23) dX7_undo_22 rfl rfl ?_
    refine ev_bipush (v := 82) (q := 25) dX7_undo_23 mcb_82 rfl ?_
    refine ev_icmp_ge (t := 54) (q := 28) dX7_undo_25 rfl rfl hg (fun hg => ?_) (fun hg => ?_)
    · refine ev_aload_n (q := 29) dX7_undo_28 rfl rfl ?_
      refine ev_getfR (q := 32) mw_f_RX7_19 rfl rfl dX7_undo_29 rfl ?_
      refine ev_iload_n (q := 33) dX7_undo_32 rfl rfl ?_
      refine ev_aload_n (q := 34) dX7_undo_33 rfl rfl ?_
      refine ev_getfR (q := 37) mw_f_RX7_31 rfl rfl dX7_undo_34 rfl ?_
      refine ev_bipush (v := 82) (q := 39) dX7_undo_37 mcb_82 rfl ?_
      refine ev_aload_n (q := 40) dX7_undo_39 rfl rfl ?_
      refine ev_getfI (q := 43) mw_f_RX7_158 (by decide) (by decide) rfl dX7_undo_40 rfl ?_
      refine ev_imul (q := 44) dX7_undo_43 rfl ?_
      refine ev_iload_n (q := 45) dX7_undo_44 rfl rfl ?_
      refine ev_iadd (q := 46) dX7_undo_45 rfl ?_
      obtain ⟨hi_3, hg⟩ := mj_gd hg
      refine ev_ialdk (q := 47) rfl hi_3 rfl dX7_undo_46 rfl ?_
      obtain ⟨hi_4, hg⟩ := mj_gd hg
      refine ev_iastk (q := 48) rfl hi_4 rfl dX7_undo_47 rfl ?_
      refine ev_nmf (fun f_4 hf_4 => ?_)
      have hg := mj_lt_el hf_4 hg
      refine ev_iinc (v := 1) (q := 51) (loc' := [some (.ref _), some (.int _)]) dX7_undo_48 rfl (by decide) mci_1 rfl rfl ?_
      refine ev_goto (q := 22) dX7_undo_51 rfl ?_
      exact ih _ _ _ hg hk
    · obtain rfl := Option.some.inj hg
      refine ev_wk (loc' := [some (.ref _), none]) ⟨rfl, trivial⟩ ?_
      exact hk
def g_X7_undo (f : mj_I) : Option (Int32 × mj_I) :=
  if (f 0 18) = 0 then
   some (((-1000002 : Int32), f))
  else
   mj_lt (mj_wr f 0 18 ((f 0 18) - (1 : Int32))) (fun f_1 =>
   (g_X7_undo_22 mj_fuel (0 : Int32) f_1).bind (fun q_2 =>
   some (((q_2 0 18), q_2))))
theorem r_X7_undo {f : mj_I} {g : mj_L} {o : Int32 × mj_I} (hg : g_X7_undo f = some o) : mj_Sp jX7_undo my_S [.ref 0] f g (fun v f' g' => some (.int o.1) = v ∧ o.2 = f' ∧ g = g') := by
  refine mj_sp 1 (by decide +kernel) rfl rfl (fun _ _ => Nat.le_of_ble_eq_true rfl) ?_
  show mj_Ev jX7_undo 0 [some (.ref 0), none] [] my_S f g _
  unfold g_X7_undo at hg
  refine ev_aload_n (q := 1) dX7_undo_0 rfl rfl ?_
  refine ev_getfI (q := 4) mw_f_RX7_158 (by decide) (by decide) rfl dX7_undo_1 rfl ?_
  refine ev_if_ne (t := 10) (q := 7) dX7_undo_4 rfl rfl hg (fun hg => ?_) (fun hg => ?_)
  · refine ev_ldc (q := 9) mw_c_RX7_193 dX7_undo_7 rfl ?_
    obtain rfl := Option.some.inj hg
    exact ev_iret dX7_undo_9 rfl ⟨rfl, rfl, rfl⟩
  · refine ev_aload_n (q := 11) dX7_undo_10 rfl rfl ?_
    refine ev_dup (q := 12) dX7_undo_11 rfl rfl ?_
    refine ev_getfI (q := 15) mw_f_RX7_158 (by decide) (by decide) rfl dX7_undo_12 rfl ?_
    refine ev_iconst (v := 1) (q := 16) dX7_undo_15 mci_1 rfl ?_
    refine ev_isub (q := 17) dX7_undo_16 rfl ?_
    refine ev_putfI (q := 20) mw_f_RX7_158 rfl dX7_undo_17 rfl ?_
    refine ev_nmf (fun f_1 hf_1 => ?_)
    have hg := mj_lt_el hf_1 hg
    refine ev_iconst (v := 0) (q := 21) dX7_undo_20 mci_0 rfl ?_
    refine ev_istore_n (q := 22) (loc' := [some (.ref _), some (.int _)]) dX7_undo_21 (by decide) rfl rfl ?_
    obtain ⟨q_2, hq_2, hg⟩ := mj_bd hg
    refine r_X7_undo_22 mj_fuel _ _ _ hq_2 ?_
    refine ev_aload_n (q := 55) dX7_undo_54 rfl rfl ?_
    refine ev_getfI (q := 58) mw_f_RX7_158 (by decide) (by decide) rfl dX7_undo_55 rfl ?_
    obtain rfl := Option.some.inj hg
    exact ev_iret dX7_undo_58 rfl ⟨rfl, rfl, rfl⟩
def g_X7_hours_45 : Nat → Int32 → Int32 → mj_I → Option (mj_I)
  | 0, _, _, _ => none
  | n + 1, x1, x2, f =>
    if x2 < x1 then
     (g_X7_note f).bind (fun o_5 =>
     (g_X7_oneHour o_5).bind (fun o_6 =>
     g_X7_hours_45 n x1 (x2 + (1 : Int32)) o_6.2))
    else
     some (f)
theorem r_X7_hours_45 {g : mj_L} {post : Option Value → mj_I → mj_L → Prop} : ∀ (n : Nat) (x1 : Int32) (x2 : Int32) (f : mj_I) (o : mj_I), g_X7_hours_45 n x1 x2 f = some o → mj_Ev jX7_hours 65 [some (.ref 0), none, none] [] my_S o g post → mj_Ev jX7_hours 45 [some (.ref 0), some (.int x1), some (.int x2)] [] my_S f g post := by
  intro n
  induction n with
  | zero =>
    intro x1 x2 f o hg hk
    cases hg
  | succ n ih =>
    intro x1 x2 f o hg hk
    unfold g_X7_hours_45 at hg
    refine ev_iload_n (q := 46) dX7_hours_45 rfl rfl ?_
    refine ev_iload_n (q := 47) dX7_hours_46 rfl rfl ?_
    refine ev_icmp_ge (t := 65) (q := 50) dX7_hours_47 rfl rfl hg (fun hg => ?_) (fun hg => ?_)
    · refine ev_aload_n (q := 51) dX7_hours_50 rfl rfl ?_
      obtain ⟨o_5, ho_5, hg⟩ := mj_bd hg
      refine ev_callV (q := 54) kX7_note mw_i_X7_note mw_s_X7_note mw_m_RX7_196 rfl rfl (r_X7_note ho_5) rfl rfl (Nat.le_of_ble_eq_true rfl) (by decide) dX7_hours_51 rfl (fun v fv gv hp => ?_)
      obtain ⟨rfl, rfl, rfl⟩ := hp
      refine ev_aload_n (q := 55) dX7_hours_54 rfl rfl ?_
      obtain ⟨o_6, ho_6, hg⟩ := mj_bd hg
      refine ev_callV (q := 58) kX7_oneHour mw_i_X7_oneHour mw_s_X7_oneHour mw_m_RX7_199 rfl rfl (r_X7_oneHour ho_6) rfl rfl (Nat.le_of_ble_eq_true rfl) (by decide) dX7_hours_55 rfl (fun v fv gv hp => ?_)
      obtain ⟨rfl, rfl, rfl⟩ := hp
      refine ev_pop (q := 59) dX7_hours_58 rfl rfl ?_
      refine ev_iinc (v := 1) (q := 62) (loc' := [some (.ref _), some (.int _), some (.int _)]) dX7_hours_59 rfl (by decide) mci_1 rfl rfl ?_
      refine ev_goto (q := 45) dX7_hours_62 rfl ?_
      exact ih _ _ _ _ hg hk
    · obtain rfl := Option.some.inj hg
      refine ev_wk (loc' := [some (.ref _), none, none]) ⟨rfl, trivial⟩ ?_
      exact hk
def g_X7_hours (x1 : Int32) (f : mj_I) : Option (Int32 × mj_I) :=
  if (f 0 4) = 0 then
   some (((-1000002 : Int32), f))
  else
   if (g_X7_in (x1).toInt64 (1 : Int64) (24 : Int64)) = 0 then
    some (((-1000001 : Int32), f))
   else
    if (999 : Int32) < ((f 4 46) + x1) then
     some (((-1000003 : Int32), f))
    else
     (g_X7_hours_45 mj_fuel x1 (0 : Int32) f).bind (fun q_3 =>
     some (((q_3 4 47), q_3)))
theorem r_X7_hours {x1 : Int32} {f : mj_I} {g : mj_L} {o : Int32 × mj_I} (hg : g_X7_hours x1 f = some o) : mj_Sp jX7_hours my_S [.ref 0, .int x1] f g (fun v f' g' => some (.int o.1) = v ∧ o.2 = f' ∧ g = g') := by
  refine mj_sp 1 (by decide +kernel) rfl rfl (fun _ _ => Nat.le_of_ble_eq_true rfl) ?_
  show mj_Ev jX7_hours 0 [some (.ref 0), some (.int x1), none] [] my_S f g _
  unfold g_X7_hours at hg
  refine ev_aload_n (q := 1) dX7_hours_0 rfl rfl ?_
  refine ev_getfI (q := 4) mw_f_RX7_154 (by decide) (by decide) rfl dX7_hours_1 rfl ?_
  refine ev_if_ne (t := 10) (q := 7) dX7_hours_4 rfl rfl hg (fun hg => ?_) (fun hg => ?_)
  · refine ev_ldc (q := 9) mw_c_RX7_193 dX7_hours_7 rfl ?_
    obtain rfl := Option.some.inj hg
    exact ev_iret dX7_hours_9 rfl ⟨rfl, rfl, rfl⟩
  · refine ev_iload_n (q := 11) dX7_hours_10 rfl rfl ?_
    refine ev_i2l (q := 12) dX7_hours_11 rfl ?_
    refine ev_lconst (v := 1) (q := 13) dX7_hours_12 mcl_1 rfl ?_
    refine ev_ldc2 (q := 16) mw_c_RX7_194 dX7_hours_13 rfl ?_
    refine ev_callS (q := 19) kX7_in mw_t_X7_in mw_m_RX7_60 (r_X7_in rfl) rfl rfl (Nat.le_of_ble_eq_true rfl) (by decide) dX7_hours_16 rfl (fun v fv gv hp => ?_)
    obtain ⟨rfl, rfl, rfl, hr_1⟩ := hp
    refine ev_if_ne (t := 25) (q := 22) dX7_hours_19 rfl rfl hg (fun hg => ?_) (fun hg => ?_)
    · refine ev_ldc (q := 24) mw_c_RX7_70 dX7_hours_22 rfl ?_
      obtain rfl := Option.some.inj hg
      exact ev_iret dX7_hours_24 rfl ⟨rfl, rfl, rfl⟩
    · refine ev_aload_n (q := 26) dX7_hours_25 rfl rfl ?_
      refine ev_getfR (q := 29) mw_f_RX7_19 rfl rfl dX7_hours_26 rfl ?_
      refine ev_bipush (v := 46) (q := 31) dX7_hours_29 mcb_46 rfl ?_
      refine ev_ialdk (k := 46) (q := 32) rfl (by decide) mcx_46 dX7_hours_31 rfl ?_
      refine ev_iload_n (q := 33) dX7_hours_32 rfl rfl ?_
      refine ev_iadd (q := 34) dX7_hours_33 rfl ?_
      refine ev_sipush (v := 999) (q := 37) dX7_hours_34 mcs_999 rfl ?_
      refine ev_icmp_le (t := 43) (q := 40) dX7_hours_37 rfl rfl hg (fun hg => ?_) (fun hg => ?_)
      · refine ev_ldc (q := 42) mw_c_RX7_87 dX7_hours_40 rfl ?_
        obtain rfl := Option.some.inj hg
        exact ev_iret dX7_hours_42 rfl ⟨rfl, rfl, rfl⟩
      · refine ev_iconst (v := 0) (q := 44) dX7_hours_43 mci_0 rfl ?_
        refine ev_istore_n (q := 45) (loc' := [some (.ref _), some (.int _), some (.int _)]) dX7_hours_44 (by decide) rfl rfl ?_
        obtain ⟨q_3, hq_3, hg⟩ := mj_bd hg
        refine r_X7_hours_45 mj_fuel _ _ _ _ hq_3 ?_
        refine ev_aload_n (q := 66) dX7_hours_65 rfl rfl ?_
        refine ev_getfR (q := 69) mw_f_RX7_19 rfl rfl dX7_hours_66 rfl ?_
        refine ev_bipush (v := 47) (q := 71) dX7_hours_69 mcb_47 rfl ?_
        refine ev_ialdk (k := 47) (q := 72) rfl (by decide) mcx_47 dX7_hours_71 rfl ?_
        obtain rfl := Option.some.inj hg
        exact ev_iret dX7_hours_72 rfl ⟨rfl, rfl, rfl⟩
def g_X7_isCloud (x1 : Int32) (f : mj_I) : Int32 :=
  (g_X7_in (x1).toInt64 (0 : Int64) (((f 4 50) - (1 : Int32))).toInt64)
theorem r_X7_isCloud {x1 : Int32} {f : mj_I} {g : mj_L} {o : Int32} (hg : g_X7_isCloud x1 f = o) : mj_Sp jX7_isCloud my_S [.ref 0, .int x1] f g (fun v f' g' => some (.int o) = v ∧ f = f' ∧ g = g' ∧ mj_b (o) = true) := by
  refine mj_sp 0 (by decide +kernel) rfl rfl (fun _ _ => Nat.le_of_ble_eq_true rfl) ?_
  show mj_Ev jX7_isCloud 0 [some (.ref 0), some (.int x1)] [] my_S f g _
  unfold g_X7_isCloud at hg
  refine ev_iload_n (q := 1) dX7_isCloud_0 rfl rfl ?_
  refine ev_i2l (q := 2) dX7_isCloud_1 rfl ?_
  refine ev_lconst (v := 0) (q := 3) dX7_isCloud_2 mcl_0 rfl ?_
  refine ev_aload_n (q := 4) dX7_isCloud_3 rfl rfl ?_
  refine ev_getfR (q := 7) mw_f_RX7_19 rfl rfl dX7_isCloud_4 rfl ?_
  refine ev_bipush (v := 50) (q := 9) dX7_isCloud_7 mcb_50 rfl ?_
  refine ev_ialdk (k := 50) (q := 10) rfl (by decide) mcx_50 dX7_isCloud_9 rfl ?_
  refine ev_iconst (v := 1) (q := 11) dX7_isCloud_10 mci_1 rfl ?_
  refine ev_isub (q := 12) dX7_isCloud_11 rfl ?_
  refine ev_i2l (q := 13) dX7_isCloud_12 rfl ?_
  refine ev_callS (q := 16) kX7_in mw_t_X7_in mw_m_RX7_60 (r_X7_in rfl) rfl rfl (Nat.le_of_ble_eq_true rfl) (by decide) dX7_isCloud_13 rfl (fun v fv gv hp => ?_)
  obtain ⟨rfl, rfl, rfl, hr_2⟩ := hp
  subst hg
  exact ev_zret dX7_isCloud_16 rfl (hr_2) ⟨rfl, rfl, rfl, (hr_2)⟩
def g_X7_setHeight (x1 : Int32) (x2 : Int32) (f : mj_I) : Option (mj_I) :=
  if mj_in ((61 : Int32) + x1) 82 = true then
  if (f 4 (ix ((61 : Int32) + x1))) < x2 then
    if mj_in ((66 : Int32) + x1) 82 = true then
    mj_lt (((f 4 (ix ((66 : Int32) + x1))) - (2 : Int32))) (fun u_3 =>
     if u_3 < 0 then
      if mj_in ((66 : Int32) + x1) 82 = true then
      mj_lt (mj_wr f 4 (ix ((66 : Int32) + x1)) (0 : Int32)) (fun f_4 =>
       if mj_in ((61 : Int32) + x1) 82 = true then
       mj_lt (mj_wr f_4 4 (ix ((61 : Int32) + x1)) x2) (fun f_5 =>
        some (f_5))
       else none)
      else none
     else
      if mj_in ((66 : Int32) + x1) 82 = true then
      mj_lt (mj_wr f 4 (ix ((66 : Int32) + x1)) u_3) (fun f_6 =>
       if mj_in ((61 : Int32) + x1) 82 = true then
       mj_lt (mj_wr f_6 4 (ix ((61 : Int32) + x1)) x2) (fun f_7 =>
        some (f_7))
       else none)
      else none)
    else none
   else
    if mj_in ((61 : Int32) + x1) 82 = true then
    mj_lt (mj_wr f 4 (ix ((61 : Int32) + x1)) x2) (fun f_8 =>
     some (f_8))
    else none
  else none
theorem r_X7_setHeight {x1 : Int32} {x2 : Int32} {f : mj_I} {g : mj_L} {o : mj_I} (hg : g_X7_setHeight x1 x2 f = some o) : mj_Sp jX7_setHeight my_S [.ref 0, .int x1, .int x2] f g (fun v f' g' => none = v ∧ o = f' ∧ g = g') := by
  refine mj_sp 1 (by decide +kernel) rfl rfl (fun _ _ => Nat.le_of_ble_eq_true rfl) ?_
  show mj_Ev jX7_setHeight 0 [some (.ref 0), some (.int x1), some (.int x2), none] [] my_S f g _
  unfold g_X7_setHeight at hg
  refine ev_iload_n (q := 1) dX7_setHeight_0 rfl rfl ?_
  refine ev_aload_n (q := 2) dX7_setHeight_1 rfl rfl ?_
  refine ev_getfR (q := 5) mw_f_RX7_19 rfl rfl dX7_setHeight_2 rfl ?_
  refine ev_bipush (v := 61) (q := 7) dX7_setHeight_5 mcb_61 rfl ?_
  refine ev_iload_n (q := 8) dX7_setHeight_7 rfl rfl ?_
  refine ev_iadd (q := 9) dX7_setHeight_8 rfl ?_
  obtain ⟨hi_1, hg⟩ := mj_gd hg
  refine ev_ialdk (q := 10) rfl hi_1 rfl dX7_setHeight_9 rfl ?_
  refine ev_icmp_le (t := 43) (q := 13) dX7_setHeight_10 rfl rfl hg (fun hg => ?_) (fun hg => ?_)
  · refine ev_aload_n (q := 14) dX7_setHeight_13 rfl rfl ?_
    refine ev_getfR (q := 17) mw_f_RX7_19 rfl rfl dX7_setHeight_14 rfl ?_
    refine ev_bipush (v := 66) (q := 19) dX7_setHeight_17 mcb_66 rfl ?_
    refine ev_iload_n (q := 20) dX7_setHeight_19 rfl rfl ?_
    refine ev_iadd (q := 21) dX7_setHeight_20 rfl ?_
    obtain ⟨hi_2, hg⟩ := mj_gd hg
    refine ev_ialdk (q := 22) rfl hi_2 rfl dX7_setHeight_21 rfl ?_
    refine ev_iconst (v := 2) (q := 23) dX7_setHeight_22 mci_2 rfl ?_
    refine ev_isub (q := 24) dX7_setHeight_23 rfl ?_
    refine ev_nmi (fun u_3 hu_3 => ?_)
    have hg := mj_lt_el hu_3 hg
    refine ev_istore_n (q := 25) (loc' := [some (.ref _), some (.int _), some (.int _), some (.int _)]) dX7_setHeight_24 (by decide) rfl rfl ?_
    refine ev_aload_n (q := 26) dX7_setHeight_25 rfl rfl ?_
    refine ev_getfR (q := 29) mw_f_RX7_19 rfl rfl dX7_setHeight_26 rfl ?_
    refine ev_bipush (v := 66) (q := 31) dX7_setHeight_29 mcb_66 rfl ?_
    refine ev_iload_n (q := 32) dX7_setHeight_31 rfl rfl ?_
    refine ev_iadd (q := 33) dX7_setHeight_32 rfl ?_
    refine ev_iload_n (q := 34) dX7_setHeight_33 rfl rfl ?_
    refine ev_if_ge (t := 41) (q := 37) dX7_setHeight_34 rfl rfl hg (fun hg => ?_) (fun hg => ?_)
    · refine ev_iconst (v := 0) (q := 38) dX7_setHeight_37 mci_0 rfl ?_
      refine ev_goto (q := 42) dX7_setHeight_38 rfl ?_
      obtain ⟨hi_4, hg⟩ := mj_gd hg
      refine ev_iastk (q := 43) rfl hi_4 rfl dX7_setHeight_42 rfl ?_
      refine ev_nmf (fun f_4 hf_4 => ?_)
      have hg := mj_lt_el hf_4 hg
      refine ev_aload_n (q := 44) dX7_setHeight_43 rfl rfl ?_
      refine ev_getfR (q := 47) mw_f_RX7_19 rfl rfl dX7_setHeight_44 rfl ?_
      refine ev_bipush (v := 61) (q := 49) dX7_setHeight_47 mcb_61 rfl ?_
      refine ev_iload_n (q := 50) dX7_setHeight_49 rfl rfl ?_
      refine ev_iadd (q := 51) dX7_setHeight_50 rfl ?_
      refine ev_iload_n (q := 52) dX7_setHeight_51 rfl rfl ?_
      obtain ⟨hi_5, hg⟩ := mj_gd hg
      refine ev_iastk (q := 53) rfl hi_5 rfl dX7_setHeight_52 rfl ?_
      refine ev_nmf (fun f_5 hf_5 => ?_)
      have hg := mj_lt_el hf_5 hg
      obtain rfl := Option.some.inj hg
      exact ev_vret dX7_setHeight_53 rfl ⟨rfl, rfl, rfl⟩
    · refine ev_iload_n (q := 42) dX7_setHeight_41 rfl rfl ?_
      obtain ⟨hi_6, hg⟩ := mj_gd hg
      refine ev_iastk (q := 43) rfl hi_6 rfl dX7_setHeight_42 rfl ?_
      refine ev_nmf (fun f_6 hf_6 => ?_)
      have hg := mj_lt_el hf_6 hg
      refine ev_aload_n (q := 44) dX7_setHeight_43 rfl rfl ?_
      refine ev_getfR (q := 47) mw_f_RX7_19 rfl rfl dX7_setHeight_44 rfl ?_
      refine ev_bipush (v := 61) (q := 49) dX7_setHeight_47 mcb_61 rfl ?_
      refine ev_iload_n (q := 50) dX7_setHeight_49 rfl rfl ?_
      refine ev_iadd (q := 51) dX7_setHeight_50 rfl ?_
      refine ev_iload_n (q := 52) dX7_setHeight_51 rfl rfl ?_
      obtain ⟨hi_7, hg⟩ := mj_gd hg
      refine ev_iastk (q := 53) rfl hi_7 rfl dX7_setHeight_52 rfl ?_
      refine ev_nmf (fun f_7 hf_7 => ?_)
      have hg := mj_lt_el hf_7 hg
      obtain rfl := Option.some.inj hg
      exact ev_vret dX7_setHeight_53 rfl ⟨rfl, rfl, rfl⟩
  · refine ev_aload_n (q := 44) dX7_setHeight_43 rfl rfl ?_
    refine ev_getfR (q := 47) mw_f_RX7_19 rfl rfl dX7_setHeight_44 rfl ?_
    refine ev_bipush (v := 61) (q := 49) dX7_setHeight_47 mcb_61 rfl ?_
    refine ev_iload_n (q := 50) dX7_setHeight_49 rfl rfl ?_
    refine ev_iadd (q := 51) dX7_setHeight_50 rfl ?_
    refine ev_iload_n (q := 52) dX7_setHeight_51 rfl rfl ?_
    obtain ⟨hi_8, hg⟩ := mj_gd hg
    refine ev_iastk (q := 53) rfl hi_8 rfl dX7_setHeight_52 rfl ?_
    refine ev_nmf (fun f_8 hf_8 => ?_)
    have hg := mj_lt_el hf_8 hg
    obtain rfl := Option.some.inj hg
    exact ev_vret dX7_setHeight_53 rfl ⟨rfl, rfl, rfl⟩
def g_X7_lift (x1 : Int32) (x2 : Int32) (f : mj_I) : Option (Int32 × mj_I) :=
  if (g_X7_isCloud x1 f) = 0 then
   some (((-1000001 : Int32), f))
  else
   if (g_X7_in (x2).toInt64 (0 : Int64) (1 : Int64)) = 0 then
    some (((-1000001 : Int32), f))
   else
    if mj_in ((61 : Int32) + x1) 82 = true then
    if (f 4 (ix ((61 : Int32) + x1))) = x2 then
      some (((-1000002 : Int32), f))
     else
      (g_X7_isThere x1 f).bind (fun o_4 =>
      if o_4 = 0 then
       some (((-1000002 : Int32), f))
      else
       if mj_in ((51 : Int32) + x1) 82 = true then
       if (f 4 (ix ((51 : Int32) + x1))) < (4 : Int32) then
         (g_X7_note f).bind (fun o_6 =>
         (g_X7_setHeight x1 x2 o_6).bind (fun o_7 =>
         if mj_in ((66 : Int32) + x1) 82 = true then
         some (((o_7 4 (ix ((66 : Int32) + x1))), o_7))
         else none))
        else
         some (((-1000002 : Int32), f))
       else none)
    else none
theorem r_X7_lift {x1 : Int32} {x2 : Int32} {f : mj_I} {g : mj_L} {o : Int32 × mj_I} (hg : g_X7_lift x1 x2 f = some o) : mj_Sp jX7_lift my_S [.ref 0, .int x1, .int x2] f g (fun v f' g' => some (.int o.1) = v ∧ o.2 = f' ∧ g = g') := by
  refine mj_sp 0 (by decide +kernel) rfl rfl (fun _ _ => Nat.le_of_ble_eq_true rfl) ?_
  show mj_Ev jX7_lift 0 [some (.ref 0), some (.int x1), some (.int x2)] [] my_S f g _
  unfold g_X7_lift at hg
  refine ev_aload_n (q := 1) dX7_lift_0 rfl rfl ?_
  refine ev_iload_n (q := 2) dX7_lift_1 rfl rfl ?_
  refine ev_callV (q := 5) kX7_isCloud mw_i_X7_isCloud mw_s_X7_isCloud mw_m_RX7_202 rfl rfl (r_X7_isCloud rfl) rfl rfl (Nat.le_of_ble_eq_true rfl) (by decide) dX7_lift_2 rfl (fun v fv gv hp => ?_)
  obtain ⟨rfl, rfl, rfl, hr_1⟩ := hp
  refine ev_if_eq (t := 18) (q := 8) dX7_lift_5 rfl rfl hg (fun hg => ?_) (fun hg => ?_)
  · refine ev_ldc (q := 20) mw_c_RX7_70 dX7_lift_18 rfl ?_
    obtain rfl := Option.some.inj hg
    exact ev_iret dX7_lift_20 rfl ⟨rfl, rfl, rfl⟩
  · refine ev_iload_n (q := 9) dX7_lift_8 rfl rfl ?_
    refine ev_i2l (q := 10) dX7_lift_9 rfl ?_
    refine ev_lconst (v := 0) (q := 11) dX7_lift_10 mcl_0 rfl ?_
    refine ev_lconst (v := 1) (q := 12) dX7_lift_11 mcl_1 rfl ?_
    refine ev_callS (q := 15) kX7_in mw_t_X7_in mw_m_RX7_60 (r_X7_in rfl) rfl rfl (Nat.le_of_ble_eq_true rfl) (by decide) dX7_lift_12 rfl (fun v fv gv hp => ?_)
    obtain ⟨rfl, rfl, rfl, hr_2⟩ := hp
    refine ev_if_ne (t := 21) (q := 18) dX7_lift_15 rfl rfl hg (fun hg => ?_) (fun hg => ?_)
    · refine ev_ldc (q := 20) mw_c_RX7_70 dX7_lift_18 rfl ?_
      obtain rfl := Option.some.inj hg
      exact ev_iret dX7_lift_20 rfl ⟨rfl, rfl, rfl⟩
    · refine ev_aload_n (q := 22) dX7_lift_21 rfl rfl ?_
      refine ev_getfR (q := 25) mw_f_RX7_19 rfl rfl dX7_lift_22 rfl ?_
      refine ev_bipush (v := 61) (q := 27) dX7_lift_25 mcb_61 rfl ?_
      refine ev_iload_n (q := 28) dX7_lift_27 rfl rfl ?_
      refine ev_iadd (q := 29) dX7_lift_28 rfl ?_
      obtain ⟨hi_3, hg⟩ := mj_gd hg
      refine ev_ialdk (q := 30) rfl hi_3 rfl dX7_lift_29 rfl ?_
      refine ev_iload_n (q := 31) dX7_lift_30 rfl rfl ?_
      refine ev_icmp_eq (t := 55) (q := 34) dX7_lift_31 rfl rfl hg (fun hg => ?_) (fun hg => ?_)
      · refine ev_ldc (q := 57) mw_c_RX7_193 dX7_lift_55 rfl ?_
        obtain rfl := Option.some.inj hg
        exact ev_iret dX7_lift_57 rfl ⟨rfl, rfl, rfl⟩
      · refine ev_aload_n (q := 35) dX7_lift_34 rfl rfl ?_
        refine ev_iload_n (q := 36) dX7_lift_35 rfl rfl ?_
        obtain ⟨o_4, ho_4, hg⟩ := mj_bd hg
        refine ev_callV (q := 39) kX7_isThere mw_i_X7_isThere mw_s_X7_isThere mw_m_RX7_177 rfl rfl (r_X7_isThere ho_4) rfl rfl (Nat.le_of_ble_eq_true rfl) (by decide) dX7_lift_36 rfl (fun v fv gv hp => ?_)
        obtain ⟨rfl, rfl, rfl, hr_4⟩ := hp
        refine ev_if_eq (t := 55) (q := 42) dX7_lift_39 rfl rfl hg (fun hg => ?_) (fun hg => ?_)
        · refine ev_ldc (q := 57) mw_c_RX7_193 dX7_lift_55 rfl ?_
          obtain rfl := Option.some.inj hg
          exact ev_iret dX7_lift_57 rfl ⟨rfl, rfl, rfl⟩
        · refine ev_aload_n (q := 43) dX7_lift_42 rfl rfl ?_
          refine ev_getfR (q := 46) mw_f_RX7_19 rfl rfl dX7_lift_43 rfl ?_
          refine ev_bipush (v := 51) (q := 48) dX7_lift_46 mcb_51 rfl ?_
          refine ev_iload_n (q := 49) dX7_lift_48 rfl rfl ?_
          refine ev_iadd (q := 50) dX7_lift_49 rfl ?_
          obtain ⟨hi_5, hg⟩ := mj_gd hg
          refine ev_ialdk (q := 51) rfl hi_5 rfl dX7_lift_50 rfl ?_
          refine ev_iconst (v := 4) (q := 52) dX7_lift_51 mci_4 rfl ?_
          refine ev_icmp_lt (t := 58) (q := 55) dX7_lift_52 rfl rfl hg (fun hg => ?_) (fun hg => ?_)
          · refine ev_aload_n (q := 59) dX7_lift_58 rfl rfl ?_
            obtain ⟨o_6, ho_6, hg⟩ := mj_bd hg
            refine ev_callV (q := 62) kX7_note mw_i_X7_note mw_s_X7_note mw_m_RX7_196 rfl rfl (r_X7_note ho_6) rfl rfl (Nat.le_of_ble_eq_true rfl) (by decide) dX7_lift_59 rfl (fun v fv gv hp => ?_)
            obtain ⟨rfl, rfl, rfl⟩ := hp
            refine ev_aload_n (q := 63) dX7_lift_62 rfl rfl ?_
            refine ev_iload_n (q := 64) dX7_lift_63 rfl rfl ?_
            refine ev_iload_n (q := 65) dX7_lift_64 rfl rfl ?_
            obtain ⟨o_7, ho_7, hg⟩ := mj_bd hg
            refine ev_callV (q := 68) kX7_setHeight mw_i_X7_setHeight mw_s_X7_setHeight mw_m_RX7_205 rfl rfl (r_X7_setHeight ho_7) rfl rfl (Nat.le_of_ble_eq_true rfl) (by decide) dX7_lift_65 rfl (fun v fv gv hp => ?_)
            obtain ⟨rfl, rfl, rfl⟩ := hp
            refine ev_aload_n (q := 69) dX7_lift_68 rfl rfl ?_
            refine ev_getfR (q := 72) mw_f_RX7_19 rfl rfl dX7_lift_69 rfl ?_
            refine ev_bipush (v := 66) (q := 74) dX7_lift_72 mcb_66 rfl ?_
            refine ev_iload_n (q := 75) dX7_lift_74 rfl rfl ?_
            refine ev_iadd (q := 76) dX7_lift_75 rfl ?_
            obtain ⟨hi_8, hg⟩ := mj_gd hg
            refine ev_ialdk (q := 77) rfl hi_8 rfl dX7_lift_76 rfl ?_
            obtain rfl := Option.some.inj hg
            exact ev_iret dX7_lift_77 rfl ⟨rfl, rfl, rfl⟩
          · refine ev_ldc (q := 57) mw_c_RX7_193 dX7_lift_55 rfl ?_
            obtain rfl := Option.some.inj hg
            exact ev_iret dX7_lift_57 rfl ⟨rfl, rfl, rfl⟩
def g_X7_rains (x1 : Int32) (x2 : Int32) (f : mj_I) : Option (Int32 × mj_I) :=
  if (g_X7_isCloud x1 f) = 0 then
   some (((-1000001 : Int32), f))
  else
   if (g_X7_in (x2).toInt64 (0 : Int64) (1 : Int64)) = 0 then
    some (((-1000001 : Int32), f))
   else
    (g_X7_isThere x1 f).bind (fun o_3 =>
    if o_3 = 0 then
     some (((-1000002 : Int32), f))
    else
     if mj_in ((51 : Int32) + x1) 82 = true then
     if (2 : Int32) < (f 4 (ix ((51 : Int32) + x1))) then
       some (((-1000002 : Int32), f))
      else
       (g_X7_note f).bind (fun o_5 =>
       if mj_in ((76 : Int32) + x1) 82 = true then
       mj_lt ((o_5 4 (ix ((76 : Int32) + x1)))) (fun u_7 =>
        if mj_in ((76 : Int32) + x1) 82 = true then
        mj_lt (mj_wr o_5 4 (ix ((76 : Int32) + x1)) x2) (fun f_8 =>
         some ((u_7, f_8)))
        else none)
       else none)
     else none)
theorem r_X7_rains {x1 : Int32} {x2 : Int32} {f : mj_I} {g : mj_L} {o : Int32 × mj_I} (hg : g_X7_rains x1 x2 f = some o) : mj_Sp jX7_rains my_S [.ref 0, .int x1, .int x2] f g (fun v f' g' => some (.int o.1) = v ∧ o.2 = f' ∧ g = g') := by
  refine mj_sp 1 (by decide +kernel) rfl rfl (fun _ _ => Nat.le_of_ble_eq_true rfl) ?_
  show mj_Ev jX7_rains 0 [some (.ref 0), some (.int x1), some (.int x2), none] [] my_S f g _
  unfold g_X7_rains at hg
  refine ev_aload_n (q := 1) dX7_rains_0 rfl rfl ?_
  refine ev_iload_n (q := 2) dX7_rains_1 rfl rfl ?_
  refine ev_callV (q := 5) kX7_isCloud mw_i_X7_isCloud mw_s_X7_isCloud mw_m_RX7_202 rfl rfl (r_X7_isCloud rfl) rfl rfl (Nat.le_of_ble_eq_true rfl) (by decide) dX7_rains_2 rfl (fun v fv gv hp => ?_)
  obtain ⟨rfl, rfl, rfl, hr_1⟩ := hp
  refine ev_if_eq (t := 18) (q := 8) dX7_rains_5 rfl rfl hg (fun hg => ?_) (fun hg => ?_)
  · refine ev_ldc (q := 20) mw_c_RX7_70 dX7_rains_18 rfl ?_
    obtain rfl := Option.some.inj hg
    exact ev_iret dX7_rains_20 rfl ⟨rfl, rfl, rfl⟩
  · refine ev_iload_n (q := 9) dX7_rains_8 rfl rfl ?_
    refine ev_i2l (q := 10) dX7_rains_9 rfl ?_
    refine ev_lconst (v := 0) (q := 11) dX7_rains_10 mcl_0 rfl ?_
    refine ev_lconst (v := 1) (q := 12) dX7_rains_11 mcl_1 rfl ?_
    refine ev_callS (q := 15) kX7_in mw_t_X7_in mw_m_RX7_60 (r_X7_in rfl) rfl rfl (Nat.le_of_ble_eq_true rfl) (by decide) dX7_rains_12 rfl (fun v fv gv hp => ?_)
    obtain ⟨rfl, rfl, rfl, hr_2⟩ := hp
    refine ev_if_ne (t := 21) (q := 18) dX7_rains_15 rfl rfl hg (fun hg => ?_) (fun hg => ?_)
    · refine ev_ldc (q := 20) mw_c_RX7_70 dX7_rains_18 rfl ?_
      obtain rfl := Option.some.inj hg
      exact ev_iret dX7_rains_20 rfl ⟨rfl, rfl, rfl⟩
    · refine ev_aload_n (q := 22) dX7_rains_21 rfl rfl ?_
      refine ev_iload_n (q := 23) dX7_rains_22 rfl rfl ?_
      obtain ⟨o_3, ho_3, hg⟩ := mj_bd hg
      refine ev_callV (q := 26) kX7_isThere mw_i_X7_isThere mw_s_X7_isThere mw_m_RX7_177 rfl rfl (r_X7_isThere ho_3) rfl rfl (Nat.le_of_ble_eq_true rfl) (by decide) dX7_rains_23 rfl (fun v fv gv hp => ?_)
      obtain ⟨rfl, rfl, rfl, hr_3⟩ := hp
      refine ev_if_eq (t := 42) (q := 29) dX7_rains_26 rfl rfl hg (fun hg => ?_) (fun hg => ?_)
      · refine ev_ldc (q := 44) mw_c_RX7_193 dX7_rains_42 rfl ?_
        obtain rfl := Option.some.inj hg
        exact ev_iret dX7_rains_44 rfl ⟨rfl, rfl, rfl⟩
      · refine ev_aload_n (q := 30) dX7_rains_29 rfl rfl ?_
        refine ev_getfR (q := 33) mw_f_RX7_19 rfl rfl dX7_rains_30 rfl ?_
        refine ev_bipush (v := 51) (q := 35) dX7_rains_33 mcb_51 rfl ?_
        refine ev_iload_n (q := 36) dX7_rains_35 rfl rfl ?_
        refine ev_iadd (q := 37) dX7_rains_36 rfl ?_
        obtain ⟨hi_4, hg⟩ := mj_gd hg
        refine ev_ialdk (q := 38) rfl hi_4 rfl dX7_rains_37 rfl ?_
        refine ev_iconst (v := 2) (q := 39) dX7_rains_38 mci_2 rfl ?_
        refine ev_icmp_le (t := 45) (q := 42) dX7_rains_39 rfl rfl hg (fun hg => ?_) (fun hg => ?_)
        · refine ev_ldc (q := 44) mw_c_RX7_193 dX7_rains_42 rfl ?_
          obtain rfl := Option.some.inj hg
          exact ev_iret dX7_rains_44 rfl ⟨rfl, rfl, rfl⟩
        · refine ev_aload_n (q := 46) dX7_rains_45 rfl rfl ?_
          obtain ⟨o_5, ho_5, hg⟩ := mj_bd hg
          refine ev_callV (q := 49) kX7_note mw_i_X7_note mw_s_X7_note mw_m_RX7_196 rfl rfl (r_X7_note ho_5) rfl rfl (Nat.le_of_ble_eq_true rfl) (by decide) dX7_rains_46 rfl (fun v fv gv hp => ?_)
          obtain ⟨rfl, rfl, rfl⟩ := hp
          refine ev_aload_n (q := 50) dX7_rains_49 rfl rfl ?_
          refine ev_getfR (q := 53) mw_f_RX7_19 rfl rfl dX7_rains_50 rfl ?_
          refine ev_bipush (v := 76) (q := 55) dX7_rains_53 mcb_76 rfl ?_
          refine ev_iload_n (q := 56) dX7_rains_55 rfl rfl ?_
          refine ev_iadd (q := 57) dX7_rains_56 rfl ?_
          obtain ⟨hi_6, hg⟩ := mj_gd hg
          refine ev_ialdk (q := 58) rfl hi_6 rfl dX7_rains_57 rfl ?_
          refine ev_nmi (fun u_7 hu_7 => ?_)
          have hg := mj_lt_el hu_7 hg
          refine ev_istore_n (q := 59) (loc' := [some (.ref _), some (.int _), some (.int _), some (.int _)]) dX7_rains_58 (by decide) rfl rfl ?_
          refine ev_aload_n (q := 60) dX7_rains_59 rfl rfl ?_
          refine ev_getfR (q := 63) mw_f_RX7_19 rfl rfl dX7_rains_60 rfl ?_
          refine ev_bipush (v := 76) (q := 65) dX7_rains_63 mcb_76 rfl ?_
          refine ev_iload_n (q := 66) dX7_rains_65 rfl rfl ?_
          refine ev_iadd (q := 67) dX7_rains_66 rfl ?_
          refine ev_iload_n (q := 68) dX7_rains_67 rfl rfl ?_
          obtain ⟨hi_8, hg⟩ := mj_gd hg
          refine ev_iastk (q := 69) rfl hi_8 rfl dX7_rains_68 rfl ?_
          refine ev_nmf (fun f_8 hf_8 => ?_)
          have hg := mj_lt_el hf_8 hg
          refine ev_iload_n (q := 70) dX7_rains_69 rfl rfl ?_
          obtain rfl := Option.some.inj hg
          exact ev_iret dX7_rains_70 rfl ⟨rfl, rfl, rfl⟩
def g_X7_toldOf (x1 : Int32) (x2 : Int32) (f : mj_I) : Option (Int32) :=
  if x2 = 0 then
   if mj_in ((56 : Int32) + x1) 82 = true then
   some ((f 4 (ix ((56 : Int32) + x1))))
   else none
  else
   if x2 = (1 : Int32) then
    if mj_in ((61 : Int32) + x1) 82 = true then
    some ((f 4 (ix ((61 : Int32) + x1))))
    else none
   else
    if x2 = (2 : Int32) then
     if mj_in ((66 : Int32) + x1) 82 = true then
     some ((f 4 (ix ((66 : Int32) + x1))))
     else none
    else
     if x2 = (3 : Int32) then
      if mj_in ((71 : Int32) + x1) 82 = true then
      some ((f 4 (ix ((71 : Int32) + x1))))
      else none
     else
      if mj_in ((76 : Int32) + x1) 82 = true then
      some ((f 4 (ix ((76 : Int32) + x1))))
      else none
theorem r_X7_toldOf {x1 : Int32} {x2 : Int32} {f : mj_I} {g : mj_L} {o : Int32} (hg : g_X7_toldOf x1 x2 f = some o) : mj_Sp jX7_toldOf my_S [.ref 0, .int x1, .int x2] f g (fun v f' g' => some (.int o) = v ∧ f = f' ∧ g = g') := by
  refine mj_sp 0 (by decide +kernel) rfl rfl (fun _ _ => Nat.le_of_ble_eq_true rfl) ?_
  show mj_Ev jX7_toldOf 0 [some (.ref 0), some (.int x1), some (.int x2)] [] my_S f g _
  unfold g_X7_toldOf at hg
  refine ev_iload_n (q := 1) dX7_toldOf_0 rfl rfl ?_
  refine ev_if_ne (t := 16) (q := 4) dX7_toldOf_1 rfl rfl hg (fun hg => ?_) (fun hg => ?_)
  · refine ev_aload_n (q := 5) dX7_toldOf_4 rfl rfl ?_
    refine ev_getfR (q := 8) mw_f_RX7_19 rfl rfl dX7_toldOf_5 rfl ?_
    refine ev_bipush (v := 56) (q := 10) dX7_toldOf_8 mcb_56 rfl ?_
    refine ev_iload_n (q := 11) dX7_toldOf_10 rfl rfl ?_
    refine ev_iadd (q := 12) dX7_toldOf_11 rfl ?_
    obtain ⟨hi_1, hg⟩ := mj_gd hg
    refine ev_ialdk (q := 13) rfl hi_1 rfl dX7_toldOf_12 rfl ?_
    refine ev_goto (q := 76) dX7_toldOf_13 rfl ?_
    obtain rfl := Option.some.inj hg
    exact ev_iret dX7_toldOf_76 rfl ⟨rfl, rfl, rfl⟩
  · refine ev_iload_n (q := 17) dX7_toldOf_16 rfl rfl ?_
    refine ev_iconst (v := 1) (q := 18) dX7_toldOf_17 mci_1 rfl ?_
    refine ev_icmp_ne (t := 33) (q := 21) dX7_toldOf_18 rfl rfl hg (fun hg => ?_) (fun hg => ?_)
    · refine ev_aload_n (q := 22) dX7_toldOf_21 rfl rfl ?_
      refine ev_getfR (q := 25) mw_f_RX7_19 rfl rfl dX7_toldOf_22 rfl ?_
      refine ev_bipush (v := 61) (q := 27) dX7_toldOf_25 mcb_61 rfl ?_
      refine ev_iload_n (q := 28) dX7_toldOf_27 rfl rfl ?_
      refine ev_iadd (q := 29) dX7_toldOf_28 rfl ?_
      obtain ⟨hi_2, hg⟩ := mj_gd hg
      refine ev_ialdk (q := 30) rfl hi_2 rfl dX7_toldOf_29 rfl ?_
      refine ev_goto (q := 76) dX7_toldOf_30 rfl ?_
      obtain rfl := Option.some.inj hg
      exact ev_iret dX7_toldOf_76 rfl ⟨rfl, rfl, rfl⟩
    · refine ev_iload_n (q := 34) dX7_toldOf_33 rfl rfl ?_
      refine ev_iconst (v := 2) (q := 35) dX7_toldOf_34 mci_2 rfl ?_
      refine ev_icmp_ne (t := 50) (q := 38) dX7_toldOf_35 rfl rfl hg (fun hg => ?_) (fun hg => ?_)
      · refine ev_aload_n (q := 39) dX7_toldOf_38 rfl rfl ?_
        refine ev_getfR (q := 42) mw_f_RX7_19 rfl rfl dX7_toldOf_39 rfl ?_
        refine ev_bipush (v := 66) (q := 44) dX7_toldOf_42 mcb_66 rfl ?_
        refine ev_iload_n (q := 45) dX7_toldOf_44 rfl rfl ?_
        refine ev_iadd (q := 46) dX7_toldOf_45 rfl ?_
        obtain ⟨hi_3, hg⟩ := mj_gd hg
        refine ev_ialdk (q := 47) rfl hi_3 rfl dX7_toldOf_46 rfl ?_
        refine ev_goto (q := 76) dX7_toldOf_47 rfl ?_
        obtain rfl := Option.some.inj hg
        exact ev_iret dX7_toldOf_76 rfl ⟨rfl, rfl, rfl⟩
      · refine ev_iload_n (q := 51) dX7_toldOf_50 rfl rfl ?_
        refine ev_iconst (v := 3) (q := 52) dX7_toldOf_51 mci_3 rfl ?_
        refine ev_icmp_ne (t := 67) (q := 55) dX7_toldOf_52 rfl rfl hg (fun hg => ?_) (fun hg => ?_)
        · refine ev_aload_n (q := 56) dX7_toldOf_55 rfl rfl ?_
          refine ev_getfR (q := 59) mw_f_RX7_19 rfl rfl dX7_toldOf_56 rfl ?_
          refine ev_bipush (v := 71) (q := 61) dX7_toldOf_59 mcb_71 rfl ?_
          refine ev_iload_n (q := 62) dX7_toldOf_61 rfl rfl ?_
          refine ev_iadd (q := 63) dX7_toldOf_62 rfl ?_
          obtain ⟨hi_4, hg⟩ := mj_gd hg
          refine ev_ialdk (q := 64) rfl hi_4 rfl dX7_toldOf_63 rfl ?_
          refine ev_goto (q := 76) dX7_toldOf_64 rfl ?_
          obtain rfl := Option.some.inj hg
          exact ev_iret dX7_toldOf_76 rfl ⟨rfl, rfl, rfl⟩
        · refine ev_aload_n (q := 68) dX7_toldOf_67 rfl rfl ?_
          refine ev_getfR (q := 71) mw_f_RX7_19 rfl rfl dX7_toldOf_68 rfl ?_
          refine ev_bipush (v := 76) (q := 73) dX7_toldOf_71 mcb_76 rfl ?_
          refine ev_iload_n (q := 74) dX7_toldOf_73 rfl rfl ?_
          refine ev_iadd (q := 75) dX7_toldOf_74 rfl ?_
          obtain ⟨hi_5, hg⟩ := mj_gd hg
          refine ev_ialdk (q := 76) rfl hi_5 rfl dX7_toldOf_75 rfl ?_
          obtain rfl := Option.some.inj hg
          exact ev_iret dX7_toldOf_76 rfl ⟨rfl, rfl, rfl⟩
def g_X7_cloud (x1 : Int32) (x2 : Int32) (f : mj_I) : Option (Int32) :=
  if (g_X7_isCloud x1 f) = 0 then
   some ((-1000001 : Int32))
  else
   if (g_X7_in (x2).toInt64 (0 : Int64) (4 : Int64)) = 0 then
    some ((-1000001 : Int32))
   else
    (g_X7_toldOf x1 x2 f).bind (fun o_3 =>
    some (o_3))
theorem r_X7_cloud {x1 : Int32} {x2 : Int32} {f : mj_I} {g : mj_L} {o : Int32} (hg : g_X7_cloud x1 x2 f = some o) : mj_Sp jX7_cloud my_S [.ref 0, .int x1, .int x2] f g (fun v f' g' => some (.int o) = v ∧ f = f' ∧ g = g') := by
  refine mj_sp 0 (by decide +kernel) rfl rfl (fun _ _ => Nat.le_of_ble_eq_true rfl) ?_
  show mj_Ev jX7_cloud 0 [some (.ref 0), some (.int x1), some (.int x2)] [] my_S f g _
  unfold g_X7_cloud at hg
  refine ev_aload_n (q := 1) dX7_cloud_0 rfl rfl ?_
  refine ev_iload_n (q := 2) dX7_cloud_1 rfl rfl ?_
  refine ev_callV (q := 5) kX7_isCloud mw_i_X7_isCloud mw_s_X7_isCloud mw_m_RX7_202 rfl rfl (r_X7_isCloud rfl) rfl rfl (Nat.le_of_ble_eq_true rfl) (by decide) dX7_cloud_2 rfl (fun v fv gv hp => ?_)
  obtain ⟨rfl, rfl, rfl, hr_1⟩ := hp
  refine ev_if_eq (t := 29) (q := 8) dX7_cloud_5 rfl rfl hg (fun hg => ?_) (fun hg => ?_)
  · refine ev_ldc (q := 31) mw_c_RX7_70 dX7_cloud_29 rfl ?_
    obtain rfl := Option.some.inj hg
    exact ev_iret dX7_cloud_31 rfl ⟨rfl, rfl, rfl⟩
  · refine ev_iload_n (q := 9) dX7_cloud_8 rfl rfl ?_
    refine ev_i2l (q := 10) dX7_cloud_9 rfl ?_
    refine ev_lconst (v := 0) (q := 11) dX7_cloud_10 mcl_0 rfl ?_
    refine ev_ldc2 (q := 14) mw_c_RX7_209 dX7_cloud_11 rfl ?_
    refine ev_callS (q := 17) kX7_in mw_t_X7_in mw_m_RX7_60 (r_X7_in rfl) rfl rfl (Nat.le_of_ble_eq_true rfl) (by decide) dX7_cloud_14 rfl (fun v fv gv hp => ?_)
    obtain ⟨rfl, rfl, rfl, hr_2⟩ := hp
    refine ev_if_eq (t := 29) (q := 20) dX7_cloud_17 rfl rfl hg (fun hg => ?_) (fun hg => ?_)
    · refine ev_ldc (q := 31) mw_c_RX7_70 dX7_cloud_29 rfl ?_
      obtain rfl := Option.some.inj hg
      exact ev_iret dX7_cloud_31 rfl ⟨rfl, rfl, rfl⟩
    · refine ev_aload_n (q := 21) dX7_cloud_20 rfl rfl ?_
      refine ev_iload_n (q := 22) dX7_cloud_21 rfl rfl ?_
      refine ev_iload_n (q := 23) dX7_cloud_22 rfl rfl ?_
      obtain ⟨o_3, ho_3, hg⟩ := mj_bd hg
      refine ev_callV (q := 26) kX7_toldOf mw_i_X7_toldOf mw_s_X7_toldOf mw_m_RX7_211 rfl rfl (r_X7_toldOf ho_3) rfl rfl (Nat.le_of_ble_eq_true rfl) (by decide) dX7_cloud_23 rfl (fun v fv gv hp => ?_)
      obtain ⟨rfl, rfl, rfl⟩ := hp
      refine ev_goto (q := 31) dX7_cloud_26 rfl ?_
      obtain rfl := Option.some.inj hg
      exact ev_iret dX7_cloud_31 rfl ⟨rfl, rfl, rfl⟩
def g_X7_isCell (x0 : Int32) : Int32 :=
  (g_X7_in (x0).toInt64 (0 : Int64) (31 : Int64))
theorem r_X7_isCell {x0 : Int32} {f : mj_I} {g : mj_L} {o : Int32} (hg : g_X7_isCell x0 = o) : mj_Sp jX7_isCell my_S [.int x0] f g (fun v f' g' => some (.int o) = v ∧ f = f' ∧ g = g' ∧ mj_b (o) = true) := by
  refine mj_sp 0 (by decide +kernel) rfl rfl (fun _ _ => Nat.le_of_ble_eq_true rfl) ?_
  show mj_Ev jX7_isCell 0 [some (.int x0)] [] my_S f g _
  unfold g_X7_isCell at hg
  refine ev_iload_n (q := 1) dX7_isCell_0 rfl rfl ?_
  refine ev_i2l (q := 2) dX7_isCell_1 rfl ?_
  refine ev_lconst (v := 0) (q := 3) dX7_isCell_2 mcl_0 rfl ?_
  refine ev_ldc2 (q := 6) mw_c_RX7_214 dX7_isCell_3 rfl ?_
  refine ev_callS (q := 9) kX7_in mw_t_X7_in mw_m_RX7_60 (r_X7_in rfl) rfl rfl (Nat.le_of_ble_eq_true rfl) (by decide) dX7_isCell_6 rfl (fun v fv gv hp => ?_)
  obtain ⟨rfl, rfl, rfl, hr_1⟩ := hp
  subst hg
  exact ev_zret dX7_isCell_9 rfl (hr_1) ⟨rfl, rfl, rfl, (hr_1)⟩
def g_X7_over_4 : Nat → Int32 → Int32 → Int32 → mj_I → Option (Int32)
  | 0, _, _, _, _ => none
  | n + 1, x1, x2, x3, f =>
    if x3 < (f 4 50) then
     (g_X7_isThere x3 f).bind (fun o_3 =>
     if o_3 = 0 then
      mj_lt ((x2 ||| (0 : Int32))) (fun u_4 =>
      g_X7_over_4 n x1 u_4 (x3 + (1 : Int32)) f)
     else
      if mj_in ((56 : Int32) + x3) 82 = true then
      if (f 4 (ix ((56 : Int32) + x3))) = x1 then
        mj_lt ((x2 ||| ((1 : Int32) <<< (x3 &&& 31)))) (fun u_6 =>
        g_X7_over_4 n x1 u_6 (x3 + (1 : Int32)) f)
       else
        mj_lt ((x2 ||| (0 : Int32))) (fun u_7 =>
        g_X7_over_4 n x1 u_7 (x3 + (1 : Int32)) f)
      else none)
    else
     some (x2)
theorem r_X7_over_4 {f : mj_I} {g : mj_L} {post : Option Value → mj_I → mj_L → Prop} : ∀ (n : Nat) (x1 : Int32) (x2 : Int32) (x3 : Int32) (o : Int32), g_X7_over_4 n x1 x2 x3 f = some o → mj_Ev jX7_over 52 [none, none, some (.int o), none] [] my_S f g post → mj_Ev jX7_over 4 [some (.ref 0), some (.int x1), some (.int x2), some (.int x3)] [] my_S f g post := by
  intro n
  induction n with
  | zero =>
    intro x1 x2 x3 o hg hk
    cases hg
  | succ n ih =>
    intro x1 x2 x3 o hg hk
    unfold g_X7_over_4 at hg
    refine ev_iload_n (q := 5) dX7_over_4 rfl rfl ?_
    refine ev_aload_n (q := 6) dX7_over_5 rfl rfl ?_
    refine ev_getfR (q := 9) mw_f_RX7_19 rfl rfl dX7_over_6 rfl ?_
    refine ev_bipush (v := 50) (q := 11) dX7_over_9 mcb_50 rfl ?_
    refine ev_ialdk (k := 50) (q := 12) rfl (by decide) mcx_50 dX7_over_11 rfl ?_
    refine ev_icmp_ge (t := 52) (q := 15) dX7_over_12 rfl rfl hg (fun hg => ?_) (fun hg => ?_)
    · refine ev_iload_n (q := 16) dX7_over_15 rfl rfl ?_
      refine ev_aload_n (q := 17) dX7_over_16 rfl rfl ?_
      refine ev_iload_n (q := 18) dX7_over_17 rfl rfl ?_
      obtain ⟨o_3, ho_3, hg⟩ := mj_bd hg
      refine ev_callV (q := 21) kX7_isThere mw_i_X7_isThere mw_s_X7_isThere mw_m_RX7_177 rfl rfl (r_X7_isThere ho_3) rfl rfl (Nat.le_of_ble_eq_true rfl) (by decide) dX7_over_18 rfl (fun v fv gv hp => ?_)
      obtain ⟨rfl, rfl, rfl, hr_3⟩ := hp
      refine ev_if_eq (t := 43) (q := 24) dX7_over_21 rfl rfl hg (fun hg => ?_) (fun hg => ?_)
      · refine ev_iconst (v := 0) (q := 44) dX7_over_43 mci_0 rfl ?_
        refine ev_ior (q := 45) dX7_over_44 rfl ?_
        refine ev_nmi (fun u_4 hu_4 => ?_)
        have hg := mj_lt_el hu_4 hg
        refine ev_istore_n (q := 46) (loc' := [some (.ref _), some (.int _), some (.int _), some (.int _)]) dX7_over_45 (by decide) rfl rfl ?_
        refine ev_iinc (v := 1) (q := 49) (loc' := [some (.ref _), some (.int _), some (.int _), some (.int _)]) dX7_over_46 rfl (by decide) mci_1 rfl rfl ?_
        refine ev_goto (q := 4) dX7_over_49 rfl ?_
        exact ih _ _ _ _ hg hk
      · refine ev_aload_n (q := 25) dX7_over_24 rfl rfl ?_
        refine ev_getfR (q := 28) mw_f_RX7_19 rfl rfl dX7_over_25 rfl ?_
        refine ev_bipush (v := 56) (q := 30) dX7_over_28 mcb_56 rfl ?_
        refine ev_iload_n (q := 31) dX7_over_30 rfl rfl ?_
        refine ev_iadd (q := 32) dX7_over_31 rfl ?_
        obtain ⟨hi_5, hg⟩ := mj_gd hg
        refine ev_ialdk (q := 33) rfl hi_5 rfl dX7_over_32 rfl ?_
        refine ev_iload_n (q := 34) dX7_over_33 rfl rfl ?_
        refine ev_icmp_ne (t := 43) (q := 37) dX7_over_34 rfl rfl hg (fun hg => ?_) (fun hg => ?_)
        · refine ev_iconst (v := 1) (q := 38) dX7_over_37 mci_1 rfl ?_
          refine ev_iload_n (q := 39) dX7_over_38 rfl rfl ?_
          refine ev_ishl (q := 40) dX7_over_39 rfl ?_
          refine ev_goto (q := 44) dX7_over_40 rfl ?_
          refine ev_ior (q := 45) dX7_over_44 rfl ?_
          refine ev_nmi (fun u_6 hu_6 => ?_)
          have hg := mj_lt_el hu_6 hg
          refine ev_istore_n (q := 46) (loc' := [some (.ref _), some (.int _), some (.int _), some (.int _)]) dX7_over_45 (by decide) rfl rfl ?_
          refine ev_iinc (v := 1) (q := 49) (loc' := [some (.ref _), some (.int _), some (.int _), some (.int _)]) dX7_over_46 rfl (by decide) mci_1 rfl rfl ?_
          refine ev_goto (q := 4) dX7_over_49 rfl ?_
          exact ih _ _ _ _ hg hk
        · refine ev_iconst (v := 0) (q := 44) dX7_over_43 mci_0 rfl ?_
          refine ev_ior (q := 45) dX7_over_44 rfl ?_
          refine ev_nmi (fun u_7 hu_7 => ?_)
          have hg := mj_lt_el hu_7 hg
          refine ev_istore_n (q := 46) (loc' := [some (.ref _), some (.int _), some (.int _), some (.int _)]) dX7_over_45 (by decide) rfl rfl ?_
          refine ev_iinc (v := 1) (q := 49) (loc' := [some (.ref _), some (.int _), some (.int _), some (.int _)]) dX7_over_46 rfl (by decide) mci_1 rfl rfl ?_
          refine ev_goto (q := 4) dX7_over_49 rfl ?_
          exact ih _ _ _ _ hg hk
    · obtain rfl := Option.some.inj hg
      refine ev_wk (loc' := [none, none, some (.int _), none]) ⟨rfl, trivial⟩ ?_
      exact hk
def g_X7_over (x1 : Int32) (f : mj_I) : Option (Int32) :=
  (g_X7_over_4 mj_fuel x1 (0 : Int32) (0 : Int32) f).bind (fun q_1 =>
  some (q_1))
theorem r_X7_over {x1 : Int32} {f : mj_I} {g : mj_L} {o : Int32} (hg : g_X7_over x1 f = some o) : mj_Sp jX7_over my_S [.ref 0, .int x1] f g (fun v f' g' => some (.int o) = v ∧ f = f' ∧ g = g') := by
  refine mj_sp 2 (by decide +kernel) rfl rfl (fun _ _ => Nat.le_of_ble_eq_true rfl) ?_
  show mj_Ev jX7_over 0 [some (.ref 0), some (.int x1), none, none] [] my_S f g _
  unfold g_X7_over at hg
  refine ev_iconst (v := 0) (q := 1) dX7_over_0 mci_0 rfl ?_
  refine ev_istore_n (q := 2) (loc' := [some (.ref _), some (.int _), some (.int _), none]) dX7_over_1 (by decide) rfl rfl ?_
  refine ev_iconst (v := 0) (q := 3) dX7_over_2 mci_0 rfl ?_
  refine ev_istore_n (q := 4) (loc' := [some (.ref _), some (.int _), some (.int _), some (.int _)]) dX7_over_3 (by decide) rfl rfl ?_
  obtain ⟨q_1, hq_1, hg⟩ := mj_bd hg
  refine r_X7_over_4 mj_fuel _ _ _ _ hq_1 ?_
  refine ev_iload_n (q := 53) dX7_over_52 rfl rfl ?_
  obtain rfl := Option.some.inj hg
  exact ev_iret dX7_over_53 rfl ⟨rfl, rfl, rfl⟩
