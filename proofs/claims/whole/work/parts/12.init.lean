theorem mcs_164 : (Int16.ofInt (164)).toInt32 = (164 : Int32) := by decide
theorem mcs_192 : (Int16.ofInt (192)).toInt32 = (192 : Int32) := by decide
theorem mcs_320 : (Int16.ofInt (320)).toInt32 = (320 : Int32) := by decide
theorem mcs_1968 : (Int16.ofInt (1968)).toInt32 = (1968 : Int32) := by decide
theorem mcx_0 : (0 : Int32).toNatClampNeg = 0 := by decide
theorem mcx_1 : (1 : Int32).toNatClampNeg = 1 := by decide
theorem mcx_2 : (2 : Int32).toNatClampNeg = 2 := by decide
theorem mcx_3 : (3 : Int32).toNatClampNeg = 3 := by decide
theorem mcx_4 : (4 : Int32).toNatClampNeg = 4 := by decide
theorem mcx_5 : (5 : Int32).toNatClampNeg = 5 := by decide
theorem mcx_6 : (6 : Int32).toNatClampNeg = 6 := by decide
theorem mcx_7 : (7 : Int32).toNatClampNeg = 7 := by decide
theorem mw_cl_RL_7 : Cond.classLink RL 7 "CloudHerd" ∈ mj_gw := mj_gw_in 12 (by decide +kernel) (by decide +kernel)
theorem mw_cl_RX6_9 : Cond.classLink RX6 9 "CloudHerd$Row" ∈ mj_gw := mj_gw_in 20 (by decide +kernel) (by decide +kernel)
theorem mw_cl_RX6_15 : Cond.classLink RX6 15 "CloudHerd$Tape" ∈ mj_gw := mj_gw_in 22 (by decide +kernel) (by decide +kernel)
theorem mw_cl_RX6_22 : Cond.classLink RX6 22 "CloudHerd$Herd" ∈ mj_gw := mj_gw_in 54 (by decide +kernel) (by decide +kernel)
theorem mw_cl_RX2_44 : Cond.classLink RX2 44 "CloudHerd$Cloud" ∈ mj_gw := mj_gw_in 60 (by decide +kernel) (by decide +kernel)
theorem mw_cl_RX6_32 : Cond.classLink RX6 32 "CloudHerd$Cloud" ∈ mj_gw := mj_gw_in 166 (by decide +kernel) (by decide +kernel)
theorem mw_cl_RX6_43 : Cond.classLink RX6 43 "CloudHerd$Acts" ∈ mj_gw := mj_gw_in 169 (by decide +kernel) (by decide +kernel)
theorem mw_cl_RX6_50 : Cond.classLink RX6 50 "CloudHerd$Trace" ∈ mj_gw := mj_gw_in 186 (by decide +kernel) (by decide +kernel)
theorem mw_cl_RL_10 : Cond.classLink RL 10 "CloudHerdModel" ∈ mj_gw := mj_gw_in 717 (by decide +kernel) (by decide +kernel)
theorem mw_inst_0 : Cond.instantiable RX0 3 ∈ mj_gw := mj_gw_in 170 (by decide +kernel) (by decide +kernel)
theorem mw_dv_0 (ad : Nat → Nat) (j : Nat) (hj : j < 3) : defaultValue (tyX0 j) = vp_V (mj_fs ad 0 (List.replicate 3 none) (fun _ => 0) (fun _ => 0)) j := match j, hj with
  | 0, _ => by show _ = List.getD _ _ _; rw [List.getD_eq_getElem?_getD, mj_fs_get (kd := 3) rfl]; rfl
  | 1, _ => by show _ = List.getD _ _ _; rw [List.getD_eq_getElem?_getD, mj_fs_get (kd := 0) rfl]; rfl
  | 2, _ => by show _ = List.getD _ _ _; rw [List.getD_eq_getElem?_getD, mj_fs_get (kd := 0) rfl]; rfl
  | k + 3, h => absurd h (by omega)
theorem mw_inst_1 : Cond.instantiable RX1 7 ∈ mj_gw := mj_gw_in 62 (by decide +kernel) (by decide +kernel)
theorem mw_dv_1 (ad : Nat → Nat) (j : Nat) (hj : j < 7) : defaultValue (tyX1 j) = vp_V (mj_fs ad 1 (List.replicate 7 none) (fun _ => 0) (fun _ => 0)) j := match j, hj with
  | 0, _ => by show _ = List.getD _ _ _; rw [List.getD_eq_getElem?_getD, mj_fs_get (kd := 0) rfl]; rfl
  | 1, _ => by show _ = List.getD _ _ _; rw [List.getD_eq_getElem?_getD, mj_fs_get (kd := 0) rfl]; rfl
  | 2, _ => by show _ = List.getD _ _ _; rw [List.getD_eq_getElem?_getD, mj_fs_get (kd := 0) rfl]; rfl
  | 3, _ => by show _ = List.getD _ _ _; rw [List.getD_eq_getElem?_getD, mj_fs_get (kd := 0) rfl]; rfl
  | 4, _ => by show _ = List.getD _ _ _; rw [List.getD_eq_getElem?_getD, mj_fs_get (kd := 1) rfl]; rfl
  | 5, _ => by show _ = List.getD _ _ _; rw [List.getD_eq_getElem?_getD, mj_fs_get (kd := 1) rfl]; rfl
  | 6, _ => by show _ = List.getD _ _ _; rw [List.getD_eq_getElem?_getD, mj_fs_get (kd := 0) rfl]; rfl
  | k + 7, h => absurd h (by omega)
theorem mw_inst_2 : Cond.instantiable RX2 13 ∈ mj_gw := mj_gw_in 55 (by decide +kernel) (by decide +kernel)
theorem mw_dv_2 (ad : Nat → Nat) (j : Nat) (hj : j < 13) : defaultValue (tyX2 j) = vp_V (mj_fs ad 2 (List.replicate 13 none) (fun _ => 0) (fun _ => 0)) j := match j, hj with
  | 0, _ => by show _ = List.getD _ _ _; rw [List.getD_eq_getElem?_getD, mj_fs_get (kd := 1) rfl]; rfl
  | 1, _ => by show _ = List.getD _ _ _; rw [List.getD_eq_getElem?_getD, mj_fs_get (kd := 0) rfl]; rfl
  | 2, _ => by show _ = List.getD _ _ _; rw [List.getD_eq_getElem?_getD, mj_fs_get (kd := 0) rfl]; rfl
  | 3, _ => by show _ = List.getD _ _ _; rw [List.getD_eq_getElem?_getD, mj_fs_get (kd := 0) rfl]; rfl
  | 4, _ => by show _ = List.getD _ _ _; rw [List.getD_eq_getElem?_getD, mj_fs_get (kd := 0) rfl]; rfl
  | 5, _ => by show _ = List.getD _ _ _; rw [List.getD_eq_getElem?_getD, mj_fs_get (kd := 0) rfl]; rfl
  | 6, _ => by show _ = List.getD _ _ _; rw [List.getD_eq_getElem?_getD, mj_fs_get (kd := 0) rfl]; rfl
  | 7, _ => by show _ = List.getD _ _ _; rw [List.getD_eq_getElem?_getD, mj_fs_get (kd := 0) rfl]; rfl
  | 8, _ => by show _ = List.getD _ _ _; rw [List.getD_eq_getElem?_getD, mj_fs_get (kd := 3) rfl]; rfl
  | 9, _ => by show _ = List.getD _ _ _; rw [List.getD_eq_getElem?_getD, mj_fs_get (kd := 3) rfl]; rfl
  | 10, _ => by show _ = List.getD _ _ _; rw [List.getD_eq_getElem?_getD, mj_fs_get (kd := 3) rfl]; rfl
  | 11, _ => by show _ = List.getD _ _ _; rw [List.getD_eq_getElem?_getD, mj_fs_get (kd := 0) rfl]; rfl
  | 12, _ => by show _ = List.getD _ _ _; rw [List.getD_eq_getElem?_getD, mj_fs_get (kd := 0) rfl]; rfl
  | k + 13, h => absurd h (by omega)
theorem mw_inst_3 : Cond.instantiable RX3 4 ∈ mj_gw := mj_gw_in 201 (by decide +kernel) (by decide +kernel)
theorem mw_dv_3 (ad : Nat → Nat) (j : Nat) (hj : j < 4) : defaultValue (tyX3 j) = vp_V (mj_fs ad 3 (List.replicate 4 none) (fun _ => 0) (fun _ => 0)) j := match j, hj with
  | 0, _ => by show _ = List.getD _ _ _; rw [List.getD_eq_getElem?_getD, mj_fs_get (kd := 1) rfl]; rfl
  | 1, _ => by show _ = List.getD _ _ _; rw [List.getD_eq_getElem?_getD, mj_fs_get (kd := 0) rfl]; rfl
  | 2, _ => by show _ = List.getD _ _ _; rw [List.getD_eq_getElem?_getD, mj_fs_get (kd := 0) rfl]; rfl
  | 3, _ => by show _ = List.getD _ _ _; rw [List.getD_eq_getElem?_getD, mj_fs_get (kd := 3) rfl]; rfl
  | k + 4, h => absurd h (by omega)
theorem mw_inst_4 : Cond.instantiable RX4 7 ∈ mj_gw := mj_gw_in 23 (by decide +kernel) (by decide +kernel)
theorem mw_dv_4 (ad : Nat → Nat) (j : Nat) (hj : j < 7) : defaultValue (tyX4 j) = vp_V (mj_fs ad 4 (List.replicate 7 none) (fun _ => 0) (fun _ => 0)) j := match j, hj with
  | 0, _ => by show _ = List.getD _ _ _; rw [List.getD_eq_getElem?_getD, mj_fs_get (kd := 3) rfl]; rfl
  | 1, _ => by show _ = List.getD _ _ _; rw [List.getD_eq_getElem?_getD, mj_fs_get (kd := 0) rfl]; rfl
  | 2, _ => by show _ = List.getD _ _ _; rw [List.getD_eq_getElem?_getD, mj_fs_get (kd := 0) rfl]; rfl
  | 3, _ => by show _ = List.getD _ _ _; rw [List.getD_eq_getElem?_getD, mj_fs_get (kd := 0) rfl]; rfl
  | 4, _ => by show _ = List.getD _ _ _; rw [List.getD_eq_getElem?_getD, mj_fs_get (kd := 0) rfl]; rfl
  | 5, _ => by show _ = List.getD _ _ _; rw [List.getD_eq_getElem?_getD, mj_fs_get (kd := 0) rfl]; rfl
  | 6, _ => by show _ = List.getD _ _ _; rw [List.getD_eq_getElem?_getD, mj_fs_get (kd := 0) rfl]; rfl
  | k + 7, h => absurd h (by omega)
theorem mw_inst_5 : Cond.instantiable RX5 2 ∈ mj_gw := mj_gw_in 187 (by decide +kernel) (by decide +kernel)
theorem mw_dv_5 (ad : Nat → Nat) (j : Nat) (hj : j < 2) : defaultValue (tyX5 j) = vp_V (mj_fs ad 5 (List.replicate 2 none) (fun _ => 0) (fun _ => 0)) j := match j, hj with
  | 0, _ => by show _ = List.getD _ _ _; rw [List.getD_eq_getElem?_getD, mj_fs_get (kd := 3) rfl]; rfl
  | 1, _ => by show _ = List.getD _ _ _; rw [List.getD_eq_getElem?_getD, mj_fs_get (kd := 0) rfl]; rfl
  | k + 2, h => absurd h (by omega)
theorem mw_inst_6 : Cond.instantiable RX6 10 ∈ mj_gw := mj_gw_in 13 (by decide +kernel) (by decide +kernel)
theorem mw_dv_6 (ad : Nat → Nat) (j : Nat) (hj : j < 10) : defaultValue (tyX6 j) = vp_V (mj_fs ad 6 (List.replicate 10 none) (fun _ => 0) (fun _ => 0)) j := match j, hj with
  | 0, _ => by show _ = List.getD _ _ _; rw [List.getD_eq_getElem?_getD, mj_fs_get (kd := 3) rfl]; rfl
  | 1, _ => by show _ = List.getD _ _ _; rw [List.getD_eq_getElem?_getD, mj_fs_get (kd := 3) rfl]; rfl
  | 2, _ => by show _ = List.getD _ _ _; rw [List.getD_eq_getElem?_getD, mj_fs_get (kd := 3) rfl]; rfl
  | 3, _ => by show _ = List.getD _ _ _; rw [List.getD_eq_getElem?_getD, mj_fs_get (kd := 3) rfl]; rfl
  | 4, _ => by show _ = List.getD _ _ _; rw [List.getD_eq_getElem?_getD, mj_fs_get (kd := 3) rfl]; rfl
  | 5, _ => by show _ = List.getD _ _ _; rw [List.getD_eq_getElem?_getD, mj_fs_get (kd := 3) rfl]; rfl
  | 6, _ => by show _ = List.getD _ _ _; rw [List.getD_eq_getElem?_getD, mj_fs_get (kd := 3) rfl]; rfl
  | 7, _ => by show _ = List.getD _ _ _; rw [List.getD_eq_getElem?_getD, mj_fs_get (kd := 3) rfl]; rfl
  | 8, _ => by show _ = List.getD _ _ _; rw [List.getD_eq_getElem?_getD, mj_fs_get (kd := 0) rfl]; rfl
  | 9, _ => by show _ = List.getD _ _ _; rw [List.getD_eq_getElem?_getD, mj_fs_get (kd := 0) rfl]; rfl
  | k + 10, h => absurd h (by omega)
theorem mw_inst_7 : Cond.instantiable RX7 29 ∈ mj_gw := mj_gw_in 718 (by decide +kernel) (by decide +kernel)
theorem mw_dv_7 (ad : Nat → Nat) (j : Nat) (hj : j < 29) : defaultValue (tyX7 j) = vp_V (mj_fs ad 7 (List.replicate 29 none) (fun _ => 0) (fun _ => 0)) j := match j, hj with
  | 0, _ => by show _ = List.getD _ _ _; rw [List.getD_eq_getElem?_getD, mj_fs_get (kd := 3) rfl]; rfl
  | 1, _ => by show _ = List.getD _ _ _; rw [List.getD_eq_getElem?_getD, mj_fs_get (kd := 3) rfl]; rfl
  | 2, _ => by show _ = List.getD _ _ _; rw [List.getD_eq_getElem?_getD, mj_fs_get (kd := 3) rfl]; rfl
  | 3, _ => by show _ = List.getD _ _ _; rw [List.getD_eq_getElem?_getD, mj_fs_get (kd := 0) rfl]; rfl
  | 4, _ => by show _ = List.getD _ _ _; rw [List.getD_eq_getElem?_getD, mj_fs_get (kd := 1) rfl]; rfl
  | 5, _ => by show _ = List.getD _ _ _; rw [List.getD_eq_getElem?_getD, mj_fs_get (kd := 3) rfl]; rfl
  | 6, _ => by show _ = List.getD _ _ _; rw [List.getD_eq_getElem?_getD, mj_fs_get (kd := 3) rfl]; rfl
  | 7, _ => by show _ = List.getD _ _ _; rw [List.getD_eq_getElem?_getD, mj_fs_get (kd := 3) rfl]; rfl
  | 8, _ => by show _ = List.getD _ _ _; rw [List.getD_eq_getElem?_getD, mj_fs_get (kd := 0) rfl]; rfl
  | 9, _ => by show _ = List.getD _ _ _; rw [List.getD_eq_getElem?_getD, mj_fs_get (kd := 0) rfl]; rfl
  | 10, _ => by show _ = List.getD _ _ _; rw [List.getD_eq_getElem?_getD, mj_fs_get (kd := 0) rfl]; rfl
  | 11, _ => by show _ = List.getD _ _ _; rw [List.getD_eq_getElem?_getD, mj_fs_get (kd := 0) rfl]; rfl
  | 12, _ => by show _ = List.getD _ _ _; rw [List.getD_eq_getElem?_getD, mj_fs_get (kd := 0) rfl]; rfl
  | 13, _ => by show _ = List.getD _ _ _; rw [List.getD_eq_getElem?_getD, mj_fs_get (kd := 0) rfl]; rfl
  | 14, _ => by show _ = List.getD _ _ _; rw [List.getD_eq_getElem?_getD, mj_fs_get (kd := 0) rfl]; rfl
  | 15, _ => by show _ = List.getD _ _ _; rw [List.getD_eq_getElem?_getD, mj_fs_get (kd := 3) rfl]; rfl
  | 16, _ => by show _ = List.getD _ _ _; rw [List.getD_eq_getElem?_getD, mj_fs_get (kd := 0) rfl]; rfl
  | 17, _ => by show _ = List.getD _ _ _; rw [List.getD_eq_getElem?_getD, mj_fs_get (kd := 3) rfl]; rfl
  | 18, _ => by show _ = List.getD _ _ _; rw [List.getD_eq_getElem?_getD, mj_fs_get (kd := 0) rfl]; rfl
  | 19, _ => by show _ = List.getD _ _ _; rw [List.getD_eq_getElem?_getD, mj_fs_get (kd := 3) rfl]; rfl
  | 20, _ => by show _ = List.getD _ _ _; rw [List.getD_eq_getElem?_getD, mj_fs_get (kd := 3) rfl]; rfl
  | 21, _ => by show _ = List.getD _ _ _; rw [List.getD_eq_getElem?_getD, mj_fs_get (kd := 3) rfl]; rfl
  | 22, _ => by show _ = List.getD _ _ _; rw [List.getD_eq_getElem?_getD, mj_fs_get (kd := 0) rfl]; rfl
  | 23, _ => by show _ = List.getD _ _ _; rw [List.getD_eq_getElem?_getD, mj_fs_get (kd := 2) rfl]; rfl
  | 24, _ => by show _ = List.getD _ _ _; rw [List.getD_eq_getElem?_getD, mj_fs_get (kd := 2) rfl]; rfl
  | 25, _ => by show _ = List.getD _ _ _; rw [List.getD_eq_getElem?_getD, mj_fs_get (kd := 3) rfl]; rfl
  | 26, _ => by show _ = List.getD _ _ _; rw [List.getD_eq_getElem?_getD, mj_fs_get (kd := 3) rfl]; rfl
  | 27, _ => by show _ = List.getD _ _ _; rw [List.getD_eq_getElem?_getD, mj_fs_get (kd := 3) rfl]; rfl
  | 28, _ => by show _ = List.getD _ _ _; rw [List.getD_eq_getElem?_getD, mj_fs_get (kd := 0) rfl]; rfl
  | k + 29, h => absurd h (by omega)
theorem mw_ln_RL_7 : mj_LN RL 7 6 10 := ⟨RX6, TX6, tyX6, rfl, mw_in6, tyX6_ok, mw_cl_RL_7, mw_inst_6, mw_ini_RX6, mw_dv_6⟩
theorem mw_ln_RX6_9 : mj_LN RX6 9 3 4 := ⟨RX3, TX3, tyX3, rfl, mw_in3, tyX3_ok, mw_cl_RX6_9, mw_inst_3, mw_ini_RX3, mw_dv_3⟩
theorem mw_ln_RX6_15 : mj_LN RX6 15 4 7 := ⟨RX4, TX4, tyX4, rfl, mw_in4, tyX4_ok, mw_cl_RX6_15, mw_inst_4, mw_ini_RX4, mw_dv_4⟩
theorem mw_ln_RX6_22 : mj_LN RX6 22 2 13 := ⟨RX2, TX2, tyX2, rfl, mw_in2, tyX2_ok, mw_cl_RX6_22, mw_inst_2, mw_ini_RX2, mw_dv_2⟩
theorem mw_ln_RX2_44 : mj_LN RX2 44 1 7 := ⟨RX1, TX1, tyX1, rfl, mw_in1, tyX1_ok, mw_cl_RX2_44, mw_inst_1, mw_ini_RX1, mw_dv_1⟩
theorem mw_ln_RX6_32 : mj_LN RX6 32 1 7 := ⟨RX1, TX1, tyX1, rfl, mw_in1, tyX1_ok, mw_cl_RX6_32, mw_inst_1, mw_ini_RX1, mw_dv_1⟩
theorem mw_ln_RX6_43 : mj_LN RX6 43 0 3 := ⟨RX0, TX0, tyX0, rfl, mw_in0, tyX0_ok, mw_cl_RX6_43, mw_inst_0, mw_ini_RX0, mw_dv_0⟩
theorem mw_ln_RX6_50 : mj_LN RX6 50 5 2 := ⟨RX5, TX5, tyX5, rfl, mw_in5, tyX5_ok, mw_cl_RX6_50, mw_inst_5, mw_ini_RX5, mw_dv_5⟩
theorem mw_ln_RL_10 : mj_LN RL 10 7 29 := ⟨RX7, TX7, tyX7, rfl, mw_in7, tyX7_ok, mw_cl_RL_10, mw_inst_7, mw_ini_RX7, mw_dv_7⟩
theorem mw_m_RL_9 : Cond.methodLink RL 9 yX6_init ∈ mj_gw := mj_gw_in 14 (by decide +kernel) (by decide +kernel)
theorem mw_o_RX6_3 : Cond.methodLink RX6 3 Lib.objectInit ∈ mj_gw := mj_gw_in 17 (by decide +kernel) (by decide +kernel)
theorem mw_n_RX6_17 : Cond.methodLinkNest RX6 17 yX4_init "CloudHerd" ∈ mj_nw := mj_nw_in 24 (by decide +kernel)
theorem mw_o_RX4_3 : Cond.methodLink RX4 3 Lib.objectInit ∈ mj_gw := mj_gw_in 27 (by decide +kernel) (by decide +kernel)
theorem mw_m_RX6_24 : Cond.methodLink RX6 24 yX2_init ∈ mj_gw := mj_gw_in 56 (by decide +kernel) (by decide +kernel)
theorem mw_o_RX2_3 : Cond.methodLink RX2 3 Lib.objectInit ∈ mj_gw := mj_gw_in 59 (by decide +kernel) (by decide +kernel)
theorem mw_n_RX2_56 : Cond.methodLinkNest RX2 56 yX1_init "CloudHerd" ∈ mj_nw := mj_nw_in 63 (by decide +kernel)
theorem mw_o_RX1_3 : Cond.methodLink RX1 3 Lib.objectInit ∈ mj_gw := mj_gw_in 66 (by decide +kernel) (by decide +kernel)
theorem mw_n_RX6_34 : Cond.methodLinkNest RX6 34 yX1_init "CloudHerd" ∈ mj_nw := mj_nw_in 167 (by decide +kernel)
theorem mw_n_RX6_45 : Cond.methodLinkNest RX6 45 yX0_init "CloudHerd" ∈ mj_nw := mj_nw_in 171 (by decide +kernel)
theorem mw_o_RX0_3 : Cond.methodLink RX0 3 Lib.objectInit ∈ mj_gw := mj_gw_in 174 (by decide +kernel) (by decide +kernel)
theorem mw_n_RX6_52 : Cond.methodLinkNest RX6 52 yX5_init "CloudHerd" ∈ mj_nw := mj_nw_in 188 (by decide +kernel)
theorem mw_o_RX5_1 : Cond.methodLink RX5 1 Lib.objectInit ∈ mj_gw := mj_gw_in 191 (by decide +kernel) (by decide +kernel)
theorem mw_n_RX6_64 : Cond.methodLinkNest RX6 64 yX3_init "CloudHerd" ∈ mj_nw := mj_nw_in 202 (by decide +kernel)
theorem mw_o_RX3_3 : Cond.methodLink RX3 3 Lib.objectInit ∈ mj_gw := mj_gw_in 205 (by decide +kernel) (by decide +kernel)
theorem mw_m_RL_12 : Cond.methodLink RL 12 yX7_init ∈ mj_gw := mj_gw_in 719 (by decide +kernel) (by decide +kernel)
theorem mw_o_RX7_1 : Cond.methodLink RX7 1 Lib.objectInit ∈ mj_gw := mj_gw_in 722 (by decide +kernel) (by decide +kernel)
theorem mw_r_RX4_9 : mj_LR RX4 9 4 0 := ⟨RX4, TX4, 7, tyX4, rfl, mw_in4, tyX4_ok, nmX4, by decide, mj_gw_in 28 (by decide +kernel) (by decide +kernel), rfl, rfl, rfl, fun _ => ⟨rfl, rfl⟩⟩
theorem mw_r_RX2_37 : mj_LR RX2 37 2 8 := ⟨RX2, TX2, 13, tyX2, rfl, mw_in2, tyX2_ok, nmX2, by decide, mj_gw_in 126 (by decide +kernel) (by decide +kernel), rfl, rfl, rfl, fun _ => ⟨rfl, rfl⟩⟩
theorem mw_r_RX2_41 : mj_LR RX2 41 2 9 := ⟨RX2, TX2, 13, tyX2, rfl, mw_in2, tyX2_ok, nmX2, by decide, mj_gw_in 128 (by decide +kernel) (by decide +kernel), rfl, rfl, rfl, fun _ => ⟨rfl, rfl⟩⟩
theorem mw_r_RX2_46 : mj_LR RX2 46 2 10 := ⟨RX2, TX2, 13, tyX2, rfl, mw_in2, tyX2_ok, nmX2, by decide, mj_gw_in 131 (by decide +kernel) (by decide +kernel), rfl, rfl, rfl, fun _ => ⟨rfl, rfl⟩⟩
theorem mw_r_RX0_11 : mj_LR RX0 11 0 0 := ⟨RX0, TX0, 3, tyX0, rfl, mw_in0, tyX0_ok, nmX0, by decide, mj_gw_in 175 (by decide +kernel) (by decide +kernel), rfl, rfl, rfl, fun _ => ⟨rfl, rfl⟩⟩
theorem mw_r_RX5_9 : mj_LR RX5 9 5 0 := ⟨RX5, TX5, 2, tyX5, rfl, mw_in5, tyX5_ok, nmX5, by decide, mj_gw_in 192 (by decide +kernel) (by decide +kernel), rfl, rfl, rfl, fun _ => ⟨rfl, rfl⟩⟩
theorem mw_r_RX3_22 : mj_LR RX3 22 3 3 := ⟨RX3, TX3, 4, tyX3, rfl, mw_in3, tyX3_ok, nmX3, by decide, mj_gw_in 212 (by decide +kernel) (by decide +kernel), rfl, rfl, rfl, fun _ => ⟨rfl, rfl⟩⟩
theorem mw_r_RX6_11 : mj_LR RX6 11 6 0 := ⟨RX6, TX6, 10, tyX6, rfl, mw_in6, tyX6_ok, nmX6, by decide, mj_gw_in 223 (by decide +kernel) (by decide +kernel), rfl, rfl, rfl, fun _ => ⟨rfl, rfl⟩⟩
theorem mw_r_RX6_18 : mj_LR RX6 18 6 1 := ⟨RX6, TX6, 10, tyX6, rfl, mw_in6, tyX6_ok, nmX6, by decide, mj_gw_in 224 (by decide +kernel) (by decide +kernel), rfl, rfl, rfl, fun _ => ⟨rfl, rfl⟩⟩
theorem mw_r_RX6_25 : mj_LR RX6 25 6 2 := ⟨RX6, TX6, 10, tyX6, rfl, mw_in6, tyX6_ok, nmX6, by decide, mj_gw_in 225 (by decide +kernel) (by decide +kernel), rfl, rfl, rfl, fun _ => ⟨rfl, rfl⟩⟩
theorem mw_r_RX6_29 : mj_LR RX6 29 6 3 := ⟨RX6, TX6, 10, tyX6, rfl, mw_in6, tyX6_ok, nmX6, by decide, mj_gw_in 226 (by decide +kernel) (by decide +kernel), rfl, rfl, rfl, fun _ => ⟨rfl, rfl⟩⟩
theorem mw_r_RX6_35 : mj_LR RX6 35 6 4 := ⟨RX6, TX6, 10, tyX6, rfl, mw_in6, tyX6_ok, nmX6, by decide, mj_gw_in 227 (by decide +kernel) (by decide +kernel), rfl, rfl, rfl, fun _ => ⟨rfl, rfl⟩⟩
theorem mw_r_RX6_39 : mj_LR RX6 39 6 5 := ⟨RX6, TX6, 10, tyX6, rfl, mw_in6, tyX6_ok, nmX6, by decide, mj_gw_in 228 (by decide +kernel) (by decide +kernel), rfl, rfl, rfl, fun _ => ⟨rfl, rfl⟩⟩
theorem mw_r_RX6_46 : mj_LR RX6 46 6 6 := ⟨RX6, TX6, 10, tyX6, rfl, mw_in6, tyX6_ok, nmX6, by decide, mj_gw_in 229 (by decide +kernel) (by decide +kernel), rfl, rfl, rfl, fun _ => ⟨rfl, rfl⟩⟩
theorem mw_r_RX6_53 : mj_LR RX6 53 6 7 := ⟨RX6, TX6, 10, tyX6, rfl, mw_in6, tyX6_ok, nmX6, by decide, mj_gw_in 230 (by decide +kernel) (by decide +kernel), rfl, rfl, rfl, fun _ => ⟨rfl, rfl⟩⟩
theorem mw_r_RX7_7 : mj_LR RX7 7 7 0 := ⟨RX7, TX7, 29, tyX7, rfl, mw_in7, tyX7_ok, nmX7, by decide, mj_gw_in 723 (by decide +kernel) (by decide +kernel), rfl, rfl, rfl, fun _ => ⟨rfl, rfl⟩⟩
theorem mw_r_RX7_13 : mj_LR RX7 13 7 1 := ⟨RX7, TX7, 29, tyX7, rfl, mw_in7, tyX7_ok, nmX7, by decide, mj_gw_in 724 (by decide +kernel) (by decide +kernel), rfl, rfl, rfl, fun _ => ⟨rfl, rfl⟩⟩
theorem mw_r_RX7_16 : mj_LR RX7 16 7 2 := ⟨RX7, TX7, 29, tyX7, rfl, mw_in7, tyX7_ok, nmX7, by decide, mj_gw_in 725 (by decide +kernel) (by decide +kernel), rfl, rfl, rfl, fun _ => ⟨rfl, rfl⟩⟩
theorem mw_r_RX7_19 : mj_LR RX7 19 7 5 := ⟨RX7, TX7, 29, tyX7, rfl, mw_in7, tyX7_ok, nmX7, by decide, mj_gw_in 728 (by decide +kernel) (by decide +kernel), rfl, rfl, rfl, fun _ => ⟨rfl, rfl⟩⟩
theorem mw_r_RX7_22 : mj_LR RX7 22 7 6 := ⟨RX7, TX7, 29, tyX7, rfl, mw_in7, tyX7_ok, nmX7, by decide, mj_gw_in 729 (by decide +kernel) (by decide +kernel), rfl, rfl, rfl, fun _ => ⟨rfl, rfl⟩⟩
theorem mw_r_RX7_25 : mj_LR RX7 25 7 7 := ⟨RX7, TX7, 29, tyX7, rfl, mw_in7, tyX7_ok, nmX7, by decide, mj_gw_in 730 (by decide +kernel) (by decide +kernel), rfl, rfl, rfl, fun _ => ⟨rfl, rfl⟩⟩
theorem mw_r_RX7_28 : mj_LR RX7 28 7 15 := ⟨RX7, TX7, 29, tyX7, rfl, mw_in7, tyX7_ok, nmX7, by decide, mj_gw_in 738 (by decide +kernel) (by decide +kernel), rfl, rfl, rfl, fun _ => ⟨rfl, rfl⟩⟩
theorem mw_r_RX7_31 : mj_LR RX7 31 7 17 := ⟨RX7, TX7, 29, tyX7, rfl, mw_in7, tyX7_ok, nmX7, by decide, mj_gw_in 740 (by decide +kernel) (by decide +kernel), rfl, rfl, rfl, fun _ => ⟨rfl, rfl⟩⟩
theorem mw_r_RX7_34 : mj_LR RX7 34 7 19 := ⟨RX7, TX7, 29, tyX7, rfl, mw_in7, tyX7_ok, nmX7, by decide, mj_gw_in 742 (by decide +kernel) (by decide +kernel), rfl, rfl, rfl, fun _ => ⟨rfl, rfl⟩⟩
theorem mw_r_RX7_37 : mj_LR RX7 37 7 20 := ⟨RX7, TX7, 29, tyX7, rfl, mw_in7, tyX7_ok, nmX7, by decide, mj_gw_in 743 (by decide +kernel) (by decide +kernel), rfl, rfl, rfl, fun _ => ⟨rfl, rfl⟩⟩
theorem mw_r_RX7_41 : mj_LR RX7 41 7 21 := ⟨RX7, TX7, 29, tyX7, rfl, mw_in7, tyX7_ok, nmX7, by decide, mj_gw_in 744 (by decide +kernel) (by decide +kernel), rfl, rfl, rfl, fun _ => ⟨rfl, rfl⟩⟩
theorem mw_r_RX7_44 : mj_LR RX7 44 7 25 := ⟨RX7, TX7, 29, tyX7, rfl, mw_in7, tyX7_ok, nmX7, by decide, mj_gw_in 748 (by decide +kernel) (by decide +kernel), rfl, rfl, rfl, fun _ => ⟨rfl, rfl⟩⟩
theorem mw_r_RX7_47 : mj_LR RX7 47 7 26 := ⟨RX7, TX7, 29, tyX7, rfl, mw_in7, tyX7_ok, nmX7, by decide, mj_gw_in 749 (by decide +kernel) (by decide +kernel), rfl, rfl, rfl, fun _ => ⟨rfl, rfl⟩⟩
theorem mw_r_RX7_50 : mj_LR RX7 50 7 27 := ⟨RX7, TX7, 29, tyX7, rfl, mw_in7, tyX7_ok, nmX7, by decide, mj_gw_in 750 (by decide +kernel) (by decide +kernel), rfl, rfl, rfl, fun _ => ⟨rfl, rfl⟩⟩
theorem mw_ac_i : Cond.arrayClass .int ∈ mj_gw := mj_gw_in 53 (by decide +kernel) (by decide +kernel)
theorem mw_ac_z : Cond.arrayClass .boolean ∈ mj_gw := mj_gw_in 811 (by decide +kernel) (by decide +kernel)
theorem mj_wr_same {f : mj_I} {a k : Nat} {x : Int32} (h : f a k = x) : mj_wr f a k x = f := by
  funext i j
  unfold mj_wr
  split
  · rename_i hc; rw [hc.1, hc.2, h]
  · rfl
def mx_ft : mj_I := mj_wr mj_z 0 4 (-3)
def mx_f0 : mj_I := mj_wr mj_z 2 4 (-3)
theorem mx_f0_z {n : Nat} (h : n ≠ 2) (k : Nat) : mx_f0 n k = 0 := by
  unfold mx_f0 mj_wr
  rw [if_neg (fun q => h q.1)]
  rfl
theorem mx_f0_t : ∀ i, (if i < 2 then mj_z i else mx_ft (i - 2)) = mx_f0 i := by
  intro i
  funext k
  by_cases h : i < 2
  · rw [if_pos h, mx_f0_z (by omega)]; rfl
  · rw [if_neg h]
    unfold mx_ft mx_f0 mj_wr
    by_cases h2 : i = 2
    · subst h2; simp [mj_z]
    · rw [if_neg (fun q => h2 (by omega)), if_neg (fun q => h2 q.1)]; rfl
theorem mx_f0_k {n : Nat} (hn : 2 < n) : ∀ i, (if i < n then mx_f0 i else mj_z (i - n)) = mx_f0 i := by
  intro i
  by_cases h : i < n
  · rw [if_pos h]
  · rw [if_neg h]
    funext k
    rw [mx_f0_z (by omega)]; rfl
theorem mj_z_k {n : Nat} : ∀ i, (if i < n then mj_z i else mj_z (i - n)) = mj_z i := by
  intro i
  split <;> rfl
def my_f (k : Nat) : mj_I := fun i j => if i = 2 ∧ j < k then -1 else 0
theorem my_f_z : mj_z = my_f 0 := by
  funext i j
  unfold my_f
  rw [if_neg (fun q => by omega)]; rfl
theorem my_f_s (k : Nat) : mj_wr (my_f k) 2 k (-1) = my_f (k + 1) := by
  funext i j
  unfold my_f mj_wr
  dsimp only
  by_cases h : i = 2 ∧ j = k
  · rw [if_pos h, if_pos ⟨h.1, by omega⟩]
  · rw [if_neg h]
    by_cases h2 : i = 2 ∧ j < k
    · rw [if_pos h2, if_pos ⟨h2.1, by omega⟩]
    · rw [if_neg h2, if_neg (fun q => by omega)]
def ms_0 : mj_S := [.inl (1, [none, none, none, none, none, none, none])]
def jX1_init : mj_J := (yX1_init, cX1_init, 1, none, 1, 0, 0)
theorem kaX1_init : mj_KA jX1_init := ⟨mj_gw_in 65 (by decide +kernel) (by decide +kernel), mw_ini_RX1, ⟨by decide +kernel, by decide +kernel, by decide +kernel⟩, by decide, mj_gw_in 64 (by decide +kernel) (by decide +kernel), rfl, rfl⟩
theorem raX1_init : mj_SpA jX1_init 1 7 ms_0 mj_z := by
  refine mj_spA 0 (by decide +kernel) rfl rfl (by decide) ?_
  show mj_EvA jX1_init 0 [some (.ref 0)] [] [.inl (1, [none, none, none, none, none, none, none])] mj_z (0, 0) ms_0 mj_z
  refine ea_aload_n (q := 1) rfl dX1_init_0 rfl ?_
  refine ea_obj (q := 4) mw_o_RX1_3 (by decide) (Nat.le_of_ble_eq_true rfl) dX1_init_1 rfl ?_
  refine ea_aload_n (q := 5) rfl dX1_init_4 rfl ?_
  refine ea_iconst (v := 0) (q := 6) mci_0 dX1_init_5 rfl ?_
  refine ea_putfI (q := 9) (f1 := mj_z) mw_f_RX1_9 rfl (mj_wr_same rfl) dX1_init_6 rfl ?_
  refine ea_aload_n (q := 10) rfl dX1_init_9 rfl ?_
  refine ea_iconst (v := 0) (q := 11) mci_0 dX1_init_10 rfl ?_
  refine ea_putfI (q := 14) (f1 := mj_z) mw_f_RX1_15 rfl (mj_wr_same rfl) dX1_init_11 rfl ?_
  refine ea_aload_n (q := 15) rfl dX1_init_14 rfl ?_
  refine ea_iconst (v := 0) (q := 16) mci_0 dX1_init_15 rfl ?_
  refine ea_putfI (q := 19) (f1 := mj_z) mw_f_RX1_18 rfl (mj_wr_same rfl) dX1_init_16 rfl ?_
  refine ea_aload_n (q := 20) rfl dX1_init_19 rfl ?_
  refine ea_iconst (v := 0) (q := 21) mci_0 dX1_init_20 rfl ?_
  refine ea_putfI (q := 24) (f1 := mj_z) mw_f_RX1_21 rfl (mj_wr_same rfl) dX1_init_21 rfl ?_
  refine ea_aload_n (q := 25) rfl dX1_init_24 rfl ?_
  refine ea_iconst (v := 0) (q := 26) mci_0 dX1_init_25 rfl ?_
  refine ea_putfZ (q := 29) (f1 := mj_z) mw_f_RX1_24 rfl (mj_wr_same rfl) (by decide) dX1_init_26 rfl ?_
  refine ea_aload_n (q := 30) rfl dX1_init_29 rfl ?_
  refine ea_iconst (v := 0) (q := 31) mci_0 dX1_init_30 rfl ?_
  refine ea_putfZ (q := 34) (f1 := mj_z) mw_f_RX1_28 rfl (mj_wr_same rfl) (by decide) dX1_init_31 rfl ?_
  refine ea_aload_n (q := 35) rfl dX1_init_34 rfl ?_
  refine ea_iconst (v := 0) (q := 36) mci_0 dX1_init_35 rfl ?_
  refine ea_putfI (q := 39) (f1 := mj_z) mw_f_RX1_31 rfl (mj_wr_same rfl) dX1_init_36 rfl ?_
  exact ea_ret dX1_init_39 (by decide) (by decide)
def ms_1 : mj_S := [.inl (3, [none, none, none, none]), .inr (0, 40, [])]
def ms_2 : mj_S := [.inl (3, [none, none, none, some 1]), .inr (0, 40, [])]
def jX3_init : mj_J := (yX3_init, cX3_init, 1, none, 1, 1, 40)
theorem kaX3_init : mj_KA jX3_init := ⟨mj_gw_in 204 (by decide +kernel) (by decide +kernel), mw_ini_RX3, ⟨by decide +kernel, by decide +kernel, by decide +kernel⟩, by decide, mj_gw_in 203 (by decide +kernel) (by decide +kernel), rfl, rfl⟩
theorem raX3_init : mj_SpA jX3_init 3 4 ms_2 mj_z := by
  refine mj_spA 0 (by decide +kernel) rfl rfl (by decide) ?_
  show mj_EvA jX3_init 0 [some (.ref 0)] [] [.inl (3, [none, none, none, none])] mj_z (0, 0) ms_2 mj_z
  refine ea_aload_n (q := 1) rfl dX3_init_0 rfl ?_
  refine ea_obj (q := 4) mw_o_RX3_3 (by decide) (Nat.le_of_ble_eq_true rfl) dX3_init_1 rfl ?_
  refine ea_aload_n (q := 5) rfl dX3_init_4 rfl ?_
  refine ea_iconst (v := 0) (q := 6) mci_0 dX3_init_5 rfl ?_
  refine ea_putfZ (q := 9) (f1 := mj_z) mw_f_RX3_9 rfl (mj_wr_same rfl) (by decide) dX3_init_6 rfl ?_
  refine ea_aload_n (q := 10) rfl dX3_init_9 rfl ?_
  refine ea_iconst (v := 0) (q := 11) mci_0 dX3_init_10 rfl ?_
  refine ea_putfI (q := 14) (f1 := mj_z) mw_f_RX3_15 rfl (mj_wr_same rfl) dX3_init_11 rfl ?_
  refine ea_aload_n (q := 15) rfl dX3_init_14 rfl ?_
  refine ea_iconst (v := 0) (q := 16) mci_0 dX3_init_15 rfl ?_
  refine ea_putfI (q := 19) (f1 := mj_z) mw_f_RX3_19 rfl (mj_wr_same rfl) dX3_init_16 rfl ?_
  refine ea_aload_n (q := 20) rfl dX3_init_19 rfl ?_
  refine ea_bipush (v := 40) (q := 22) mcb_40 dX3_init_20 rfl ?_
  refine ea_newi (N := 40) (n := 1) (S1 := ms_1) (cs' := (1, 40)) (q := 24) mw_ac_i (by decide) (by decide) (by decide) rfl (by decide) rfl rfl rfl (fun _ => rfl) rfl (by decide) (by decide) rfl dX3_init_22 rfl ?_
  refine ea_putfR (q := 27) (S1 := ms_2) mw_r_RX3_22 rfl (by decide) rfl dX3_init_24 rfl ?_
  exact ea_ret dX3_init_27 (by decide) (by decide)
def ms_3 : mj_S := [.inl (5, [none, none]), .inr (0, 16, [])]
def ms_4 : mj_S := [.inl (5, [some 1, none]), .inr (0, 16, [])]
def jX5_init : mj_J := (yX5_init, cX5_init, 1, none, 1, 1, 16)
theorem kaX5_init : mj_KA jX5_init := ⟨mj_gw_in 190 (by decide +kernel) (by decide +kernel), mw_ini_RX5, ⟨by decide +kernel, by decide +kernel, by decide +kernel⟩, by decide, mj_gw_in 189 (by decide +kernel) (by decide +kernel), rfl, rfl⟩
theorem raX5_init : mj_SpA jX5_init 5 2 ms_4 mj_z := by
  refine mj_spA 0 (by decide +kernel) rfl rfl (by decide) ?_
  show mj_EvA jX5_init 0 [some (.ref 0)] [] [.inl (5, [none, none])] mj_z (0, 0) ms_4 mj_z
  refine ea_aload_n (q := 1) rfl dX5_init_0 rfl ?_
  refine ea_obj (q := 4) mw_o_RX5_1 (by decide) (Nat.le_of_ble_eq_true rfl) dX5_init_1 rfl ?_
  refine ea_aload_n (q := 5) rfl dX5_init_4 rfl ?_
  refine ea_bipush (v := 16) (q := 7) mcb_16 dX5_init_5 rfl ?_
  refine ea_newi (N := 16) (n := 1) (S1 := ms_3) (cs' := (1, 16)) (q := 9) mw_ac_i (by decide) (by decide) (by decide) rfl (by decide) rfl rfl rfl (fun _ => rfl) rfl (by decide) (by decide) rfl dX5_init_7 rfl ?_
  refine ea_putfR (q := 12) (S1 := ms_4) mw_r_RX5_9 rfl (by decide) rfl dX5_init_9 rfl ?_
  refine ea_aload_n (q := 13) rfl dX5_init_12 rfl ?_
  refine ea_iconst (v := 0) (q := 14) mci_0 dX5_init_13 rfl ?_
  refine ea_putfI (q := 17) (f1 := mj_z) mw_f_RX5_13 rfl (mj_wr_same rfl) dX5_init_14 rfl ?_
  exact ea_ret dX5_init_17 (by decide) (by decide)
def ms_5 : mj_S := [.inl (0, [none, none, none]), .inr (0, 192, [])]
def ms_6 : mj_S := [.inl (0, [some 1, none, none]), .inr (0, 192, [])]
def jX0_init : mj_J := (yX0_init, cX0_init, 1, none, 1, 1, 192)
theorem kaX0_init : mj_KA jX0_init := ⟨mj_gw_in 173 (by decide +kernel) (by decide +kernel), mw_ini_RX0, ⟨by decide +kernel, by decide +kernel, by decide +kernel⟩, by decide, mj_gw_in 172 (by decide +kernel) (by decide +kernel), rfl, rfl⟩
theorem raX0_init : mj_SpA jX0_init 0 3 ms_6 mj_z := by
  refine mj_spA 0 (by decide +kernel) rfl rfl (by decide) ?_
  show mj_EvA jX0_init 0 [some (.ref 0)] [] [.inl (0, [none, none, none])] mj_z (0, 0) ms_6 mj_z
  refine ea_aload_n (q := 1) rfl dX0_init_0 rfl ?_
  refine ea_obj (q := 4) mw_o_RX0_3 (by decide) (Nat.le_of_ble_eq_true rfl) dX0_init_1 rfl ?_
  refine ea_aload_n (q := 5) rfl dX0_init_4 rfl ?_
  refine ea_sipush (v := 192) (q := 8) mcs_192 dX0_init_5 rfl ?_
  refine ea_newi (N := 192) (n := 1) (S1 := ms_5) (cs' := (1, 192)) (q := 10) mw_ac_i (by decide) (by decide) (by decide) rfl (by decide) rfl rfl rfl (fun _ => rfl) rfl (by decide) (by decide) rfl dX0_init_8 rfl ?_
  refine ea_putfR (q := 13) (S1 := ms_6) mw_r_RX0_11 rfl (by decide) rfl dX0_init_10 rfl ?_
  refine ea_aload_n (q := 14) rfl dX0_init_13 rfl ?_
  refine ea_iconst (v := 0) (q := 15) mci_0 dX0_init_14 rfl ?_
  refine ea_putfI (q := 18) (f1 := mj_z) mw_f_RX0_15 rfl (mj_wr_same rfl) dX0_init_15 rfl ?_
  refine ea_aload_n (q := 19) rfl dX0_init_18 rfl ?_
  refine ea_iconst (v := 0) (q := 20) mci_0 dX0_init_19 rfl ?_
  refine ea_putfI (q := 23) (f1 := mj_z) mw_f_RX0_19 rfl (mj_wr_same rfl) dX0_init_20 rfl ?_
  exact ea_ret dX0_init_23 (by decide) (by decide)
def ms_7 : mj_S := [.inl (4, [none, none, none, none, none, none, none]), .inr (0, 120, [])]
def ms_8 : mj_S := [.inl (4, [some 1, none, none, none, none, none, none]), .inr (0, 120, [])]
def jX4_init : mj_J := (yX4_init, cX4_init, 1, none, 1, 1, 120)
theorem kaX4_init : mj_KA jX4_init := ⟨mj_gw_in 26 (by decide +kernel) (by decide +kernel), mw_ini_RX4, ⟨by decide +kernel, by decide +kernel, by decide +kernel⟩, by decide, mj_gw_in 25 (by decide +kernel) (by decide +kernel), rfl, rfl⟩
theorem raX4_init : mj_SpA jX4_init 4 7 ms_8 mx_ft := by
  refine mj_spA 0 (by decide +kernel) rfl rfl (by decide) ?_
  show mj_EvA jX4_init 0 [some (.ref 0)] [] [.inl (4, [none, none, none, none, none, none, none])] mj_z (0, 0) ms_8 mx_ft
  refine ea_aload_n (q := 1) rfl dX4_init_0 rfl ?_
  refine ea_obj (q := 4) mw_o_RX4_3 (by decide) (Nat.le_of_ble_eq_true rfl) dX4_init_1 rfl ?_
  refine ea_aload_n (q := 5) rfl dX4_init_4 rfl ?_
  refine ea_bipush (v := 120) (q := 7) mcb_120 dX4_init_5 rfl ?_
  refine ea_newi (N := 120) (n := 1) (S1 := ms_7) (cs' := (1, 120)) (q := 9) mw_ac_i (by decide) (by decide) (by decide) rfl (by decide) rfl rfl rfl (fun _ => rfl) rfl (by decide) (by decide) rfl dX4_init_7 rfl ?_
  refine ea_putfR (q := 12) (S1 := ms_8) mw_r_RX4_9 rfl (by decide) rfl dX4_init_9 rfl ?_
  refine ea_aload_n (q := 13) rfl dX4_init_12 rfl ?_
  refine ea_iconst (v := 0) (q := 14) mci_0 dX4_init_13 rfl ?_
  refine ea_putfI (q := 17) (f1 := mj_z) mw_f_RX4_15 rfl (mj_wr_same rfl) dX4_init_14 rfl ?_
  refine ea_aload_n (q := 18) rfl dX4_init_17 rfl ?_
  refine ea_iconst (v := 0) (q := 19) mci_0 dX4_init_18 rfl ?_
  refine ea_putfI (q := 22) (f1 := mj_z) mw_f_RX4_19 rfl (mj_wr_same rfl) dX4_init_19 rfl ?_
  refine ea_aload_n (q := 23) rfl dX4_init_22 rfl ?_
  refine ea_iconst (v := 0) (q := 24) mci_0 dX4_init_23 rfl ?_
  refine ea_putfI (q := 27) (f1 := mj_z) mw_f_RX4_22 rfl (mj_wr_same rfl) dX4_init_24 rfl ?_
  refine ea_aload_n (q := 28) rfl dX4_init_27 rfl ?_
  refine ea_bipush (v := -3) (q := 30) mcb_m3 dX4_init_28 rfl ?_
  refine ea_putfI (q := 33) (f1 := mx_ft) mw_f_RX4_25 rfl rfl dX4_init_30 rfl ?_
  refine ea_aload_n (q := 34) rfl dX4_init_33 rfl ?_
  refine ea_iconst (v := 0) (q := 35) mci_0 dX4_init_34 rfl ?_
  refine ea_putfI (q := 38) (f1 := mx_ft) mw_f_RX4_28 rfl (mj_wr_same rfl) dX4_init_35 rfl ?_
  refine ea_aload_n (q := 39) rfl dX4_init_38 rfl ?_
  refine ea_iconst (v := 0) (q := 40) mci_0 dX4_init_39 rfl ?_
  refine ea_putfI (q := 43) (f1 := mx_ft) mw_f_RX4_31 rfl (mj_wr_same rfl) dX4_init_40 rfl ?_
  exact ea_ret dX4_init_43 (by decide) (by decide)
def ms_9 : mj_S := [.inl (2, [none, none, none, none, none, none, none, none, none, none, none, none, none]), .inr (0, 12, [])]
def ms_10 : mj_S := [.inl (2, [none, none, none, none, none, none, none, none, some 1, none, none, none, none]), .inr (0, 12, [])]
def ms_11 : mj_S := [.inl (2, [none, none, none, none, none, none, none, none, some 1, none, none, none, none]), .inr (0, 12, []), .inr (0, 32, [])]
def ms_12 : mj_S := [.inl (2, [none, none, none, none, none, none, none, none, some 1, some 2, none, none, none]), .inr (0, 12, []), .inr (0, 32, [])]
def ms_13 : mj_S := [.inl (2, [none, none, none, none, none, none, none, none, some 1, some 2, none, none, none]), .inr (0, 12, []), .inr (0, 32, []), .inr (2, 5, [none, none, none, none, none])]
def ms_14 : mj_S := [.inl (2, [none, none, none, none, none, none, none, none, some 1, some 2, some 3, none, none]), .inr (0, 12, []), .inr (0, 32, []), .inr (2, 5, [none, none, none, none, none])]
def ms_15 : mj_S := [.inl (2, [none, none, none, none, none, none, none, none, some 1, some 2, some 3, none, none]), .inr (0, 12, []), .inr (0, 32, []), .inr (2, 5, [none, none, none, none, none]), .inl (1, [none, none, none, none, none, none, none])]
def ms_16 : mj_S := [.inl (2, [none, none, none, none, none, none, none, none, some 1, some 2, some 3, none, none]), .inr (0, 12, []), .inr (0, 32, []), .inr (2, 5, [some 4, none, none, none, none]), .inl (1, [none, none, none, none, none, none, none])]
def ms_17 : mj_S := [.inl (2, [none, none, none, none, none, none, none, none, some 1, some 2, some 3, none, none]), .inr (0, 12, []), .inr (0, 32, []), .inr (2, 5, [some 4, none, none, none, none]), .inl (1, [none, none, none, none, none, none, none]), .inl (1, [none, none, none, none, none, none, none])]
def ms_18 : mj_S := [.inl (2, [none, none, none, none, none, none, none, none, some 1, some 2, some 3, none, none]), .inr (0, 12, []), .inr (0, 32, []), .inr (2, 5, [some 4, some 5, none, none, none]), .inl (1, [none, none, none, none, none, none, none]), .inl (1, [none, none, none, none, none, none, none])]
def ms_19 : mj_S := [.inl (2, [none, none, none, none, none, none, none, none, some 1, some 2, some 3, none, none]), .inr (0, 12, []), .inr (0, 32, []), .inr (2, 5, [some 4, some 5, none, none, none]), .inl (1, [none, none, none, none, none, none, none]), .inl (1, [none, none, none, none, none, none, none]), .inl (1, [none, none, none, none, none, none, none])]
def ms_20 : mj_S := [.inl (2, [none, none, none, none, none, none, none, none, some 1, some 2, some 3, none, none]), .inr (0, 12, []), .inr (0, 32, []), .inr (2, 5, [some 4, some 5, some 6, none, none]), .inl (1, [none, none, none, none, none, none, none]), .inl (1, [none, none, none, none, none, none, none]), .inl (1, [none, none, none, none, none, none, none])]
def ms_21 : mj_S := [.inl (2, [none, none, none, none, none, none, none, none, some 1, some 2, some 3, none, none]), .inr (0, 12, []), .inr (0, 32, []), .inr (2, 5, [some 4, some 5, some 6, none, none]), .inl (1, [none, none, none, none, none, none, none]), .inl (1, [none, none, none, none, none, none, none]), .inl (1, [none, none, none, none, none, none, none]), .inl (1, [none, none, none, none, none, none, none])]
def ms_22 : mj_S := [.inl (2, [none, none, none, none, none, none, none, none, some 1, some 2, some 3, none, none]), .inr (0, 12, []), .inr (0, 32, []), .inr (2, 5, [some 4, some 5, some 6, some 7, none]), .inl (1, [none, none, none, none, none, none, none]), .inl (1, [none, none, none, none, none, none, none]), .inl (1, [none, none, none, none, none, none, none]), .inl (1, [none, none, none, none, none, none, none])]
def ms_23 : mj_S := [.inl (2, [none, none, none, none, none, none, none, none, some 1, some 2, some 3, none, none]), .inr (0, 12, []), .inr (0, 32, []), .inr (2, 5, [some 4, some 5, some 6, some 7, none]), .inl (1, [none, none, none, none, none, none, none]), .inl (1, [none, none, none, none, none, none, none]), .inl (1, [none, none, none, none, none, none, none]), .inl (1, [none, none, none, none, none, none, none]), .inl (1, [none, none, none, none, none, none, none])]
def ms_24 : mj_S := [.inl (2, [none, none, none, none, none, none, none, none, some 1, some 2, some 3, none, none]), .inr (0, 12, []), .inr (0, 32, []), .inr (2, 5, [some 4, some 5, some 6, some 7, some 8]), .inl (1, [none, none, none, none, none, none, none]), .inl (1, [none, none, none, none, none, none, none]), .inl (1, [none, none, none, none, none, none, none]), .inl (1, [none, none, none, none, none, none, none]), .inl (1, [none, none, none, none, none, none, none])]
def jX2_init : mj_J := (yX2_init, cX2_init, 2, none, 2, 8, 84)
theorem kaX2_init : mj_KA jX2_init := ⟨mj_gw_in 58 (by decide +kernel) (by decide +kernel), mw_ini_RX2, ⟨by decide +kernel, by decide +kernel, by decide +kernel⟩, by decide, mj_gw_in 57 (by decide +kernel) (by decide +kernel), rfl, rfl⟩
theorem raX2_init : mj_SpA jX2_init 2 13 ms_24 mj_z := by
  refine mj_spA 1 (by decide +kernel) rfl rfl (by decide) ?_
  show mj_EvA jX2_init 0 [some (.ref 0), none] [] [.inl (2, [none, none, none, none, none, none, none, none, none, none, none, none, none])] mj_z (0, 0) ms_24 mj_z
  refine ea_aload_n (q := 1) rfl dX2_init_0 rfl ?_
  refine ea_obj (q := 4) mw_o_RX2_3 (by decide) (Nat.le_of_ble_eq_true rfl) dX2_init_1 rfl ?_
  refine ea_aload_n (q := 5) rfl dX2_init_4 rfl ?_
  refine ea_iconst (v := 0) (q := 6) mci_0 dX2_init_5 rfl ?_
  refine ea_putfZ (q := 9) (f1 := mj_z) mw_f_RX2_9 rfl (mj_wr_same rfl) (by decide) dX2_init_6 rfl ?_
  refine ea_aload_n (q := 10) rfl dX2_init_9 rfl ?_
  refine ea_iconst (v := 0) (q := 11) mci_0 dX2_init_10 rfl ?_
  refine ea_putfI (q := 14) (f1 := mj_z) mw_f_RX2_15 rfl (mj_wr_same rfl) dX2_init_11 rfl ?_
  refine ea_aload_n (q := 15) rfl dX2_init_14 rfl ?_
  refine ea_iconst (v := 0) (q := 16) mci_0 dX2_init_15 rfl ?_
  refine ea_putfI (q := 19) (f1 := mj_z) mw_f_RX2_19 rfl (mj_wr_same rfl) dX2_init_16 rfl ?_
  refine ea_aload_n (q := 20) rfl dX2_init_19 rfl ?_
  refine ea_iconst (v := 0) (q := 21) mci_0 dX2_init_20 rfl ?_
  refine ea_putfI (q := 24) (f1 := mj_z) mw_f_RX2_22 rfl (mj_wr_same rfl) dX2_init_21 rfl ?_
  refine ea_aload_n (q := 25) rfl dX2_init_24 rfl ?_
  refine ea_iconst (v := 0) (q := 26) mci_0 dX2_init_25 rfl ?_
  refine ea_putfI (q := 29) (f1 := mj_z) mw_f_RX2_25 rfl (mj_wr_same rfl) dX2_init_26 rfl ?_
  refine ea_aload_n (q := 30) rfl dX2_init_29 rfl ?_
  refine ea_iconst (v := 0) (q := 31) mci_0 dX2_init_30 rfl ?_
  refine ea_putfI (q := 34) (f1 := mj_z) mw_f_RX2_28 rfl (mj_wr_same rfl) dX2_init_31 rfl ?_
  refine ea_aload_n (q := 35) rfl dX2_init_34 rfl ?_
  refine ea_iconst (v := 0) (q := 36) mci_0 dX2_init_35 rfl ?_
  refine ea_putfI (q := 39) (f1 := mj_z) mw_f_RX2_31 rfl (mj_wr_same rfl) dX2_init_36 rfl ?_
  refine ea_aload_n (q := 40) rfl dX2_init_39 rfl ?_
  refine ea_iconst (v := 0) (q := 41) mci_0 dX2_init_40 rfl ?_
  refine ea_putfI (q := 44) (f1 := mj_z) mw_f_RX2_34 rfl (mj_wr_same rfl) dX2_init_41 rfl ?_
  refine ea_aload_n (q := 45) rfl dX2_init_44 rfl ?_
  refine ea_bipush (v := 12) (q := 47) mcb_12 dX2_init_45 rfl ?_
  refine ea_newi (N := 12) (n := 1) (S1 := ms_9) (cs' := (1, 12)) (q := 49) mw_ac_i (by decide) (by decide) (by decide) rfl (by decide) rfl rfl rfl (fun _ => rfl) rfl (by decide) (by decide) rfl dX2_init_47 rfl ?_
  refine ea_putfR (q := 52) (S1 := ms_10) mw_r_RX2_37 rfl (by decide) rfl dX2_init_49 rfl ?_
  refine ea_aload_n (q := 53) rfl dX2_init_52 rfl ?_
  refine ea_bipush (v := 32) (q := 55) mcb_32 dX2_init_53 rfl ?_
  refine ea_newi (N := 32) (n := 2) (S1 := ms_11) (cs' := (2, 44)) (q := 57) mw_ac_i (by decide) (by decide) (by decide) rfl (by decide) rfl rfl rfl (fun _ => rfl) rfl (by decide) (by decide) rfl dX2_init_55 rfl ?_
  refine ea_putfR (q := 60) (S1 := ms_12) mw_r_RX2_41 rfl (by decide) rfl dX2_init_57 rfl ?_
  refine ea_aload_n (q := 61) rfl dX2_init_60 rfl ?_
  refine ea_iconst (v := 5) (q := 62) mci_5 dX2_init_61 rfl ?_
  refine ea_newq2 (N := 5) (n := 3) (S1 := ms_13) (cs' := (3, 49)) (q := 65) mw_cl_RX2_44 (by decide) (by decide) (by decide) rfl (by decide) rfl rfl rfl rfl (by decide) (by decide) rfl dX2_init_62 rfl ?_
  refine ea_putfR (q := 68) (S1 := ms_14) mw_r_RX2_46 rfl (by decide) rfl dX2_init_65 rfl ?_
  refine ea_aload_n (q := 69) rfl dX2_init_68 rfl ?_
  refine ea_iconst (v := 0) (q := 70) mci_0 dX2_init_69 rfl ?_
  refine ea_putfI (q := 73) (f1 := mj_z) mw_f_RX2_50 rfl (mj_wr_same rfl) dX2_init_70 rfl ?_
  refine ea_aload_n (q := 74) rfl dX2_init_73 rfl ?_
  refine ea_iconst (v := 0) (q := 75) mci_0 dX2_init_74 rfl ?_
  refine ea_putfI (q := 78) (f1 := mj_z) mw_f_RX2_53 rfl (mj_wr_same rfl) dX2_init_75 rfl ?_
  refine ea_iconst (v := 0) (q := 79) mci_0 dX2_init_78 rfl ?_
  refine ea_istore_n (q := 80) (loc' := [some (.ref _), some (.int _)]) (by decide) rfl dX2_init_79 rfl ?_
  refine ea_iload_n (q := 81) rfl dX2_init_80 rfl ?_
  refine ea_iconst (v := 5) (q := 82) mci_5 dX2_init_81 rfl ?_
  refine ea_icmp_geN (t := 104) (q := 85) (by decide) rfl dX2_init_82 rfl ?_
  refine ea_aload_n (q := 86) rfl dX2_init_85 rfl ?_
  refine ea_getfR (q := 89) mw_f_RX2_46 rfl rfl dX2_init_86 rfl ?_
  refine ea_iload_n (q := 90) rfl dX2_init_89 rfl ?_
  refine ea_new (n := 4) (S1 := ms_15) (cs' := (4, 56)) (q := 93) mw_ln_RX2_44 rfl (by decide) rfl rfl rfl (fun _ => rfl) rfl (by decide) (by decide) rfl dX2_init_90 rfl ?_
  refine ea_dup (q := 94) rfl dX2_init_93 rfl ?_
  refine ea_initN (K := jX1_init) (n := 4) (S0 := ms_14) (S1 := ms_15) (f1 := mj_z) (cs' := (4, 56)) (q := 97) mw_n_RX2_56 kaX1_init raX1_init rfl rfl (by decide) rfl rfl rfl (fun _ => rfl) mj_z_k rfl rfl (by decide) (by decide) (by decide) (Nat.le_of_ble_eq_true rfl) dX2_init_94 rfl ?_
  refine ea_aast2 (k := 0) (S1 := ms_16) (q := 98) rfl rfl (by decide) mcx_0 (by decide) rfl dX2_init_97 rfl ?_
  refine ea_iinc (v := 1) (q := 101) (loc' := [some (.ref _), some (.int _)]) rfl (by decide) (by decide) rfl dX2_init_98 rfl ?_
  refine ea_goto (q := 80) dX2_init_101 rfl ?_
  refine ea_iload_n (q := 81) rfl dX2_init_80 rfl ?_
  refine ea_iconst (v := 5) (q := 82) mci_5 dX2_init_81 rfl ?_
  refine ea_icmp_geN (t := 104) (q := 85) (by decide) rfl dX2_init_82 rfl ?_
  refine ea_aload_n (q := 86) rfl dX2_init_85 rfl ?_
  refine ea_getfR (q := 89) mw_f_RX2_46 rfl rfl dX2_init_86 rfl ?_
  refine ea_iload_n (q := 90) rfl dX2_init_89 rfl ?_
  refine ea_new (n := 5) (S1 := ms_17) (cs' := (5, 63)) (q := 93) mw_ln_RX2_44 rfl (by decide) rfl rfl rfl (fun _ => rfl) rfl (by decide) (by decide) rfl dX2_init_90 rfl ?_
  refine ea_dup (q := 94) rfl dX2_init_93 rfl ?_
  refine ea_initN (K := jX1_init) (n := 5) (S0 := ms_16) (S1 := ms_17) (f1 := mj_z) (cs' := (5, 63)) (q := 97) mw_n_RX2_56 kaX1_init raX1_init rfl rfl (by decide) rfl rfl rfl (fun _ => rfl) mj_z_k rfl rfl (by decide) (by decide) (by decide) (Nat.le_of_ble_eq_true rfl) dX2_init_94 rfl ?_
  refine ea_aast2 (k := 1) (S1 := ms_18) (q := 98) rfl rfl (by decide) mcx_1 (by decide) rfl dX2_init_97 rfl ?_
  refine ea_iinc (v := 2) (q := 101) (loc' := [some (.ref _), some (.int _)]) rfl (by decide) (by decide) rfl dX2_init_98 rfl ?_
  refine ea_goto (q := 80) dX2_init_101 rfl ?_
  refine ea_iload_n (q := 81) rfl dX2_init_80 rfl ?_
  refine ea_iconst (v := 5) (q := 82) mci_5 dX2_init_81 rfl ?_
  refine ea_icmp_geN (t := 104) (q := 85) (by decide) rfl dX2_init_82 rfl ?_
  refine ea_aload_n (q := 86) rfl dX2_init_85 rfl ?_
  refine ea_getfR (q := 89) mw_f_RX2_46 rfl rfl dX2_init_86 rfl ?_
  refine ea_iload_n (q := 90) rfl dX2_init_89 rfl ?_
  refine ea_new (n := 6) (S1 := ms_19) (cs' := (6, 70)) (q := 93) mw_ln_RX2_44 rfl (by decide) rfl rfl rfl (fun _ => rfl) rfl (by decide) (by decide) rfl dX2_init_90 rfl ?_
  refine ea_dup (q := 94) rfl dX2_init_93 rfl ?_
  refine ea_initN (K := jX1_init) (n := 6) (S0 := ms_18) (S1 := ms_19) (f1 := mj_z) (cs' := (6, 70)) (q := 97) mw_n_RX2_56 kaX1_init raX1_init rfl rfl (by decide) rfl rfl rfl (fun _ => rfl) mj_z_k rfl rfl (by decide) (by decide) (by decide) (Nat.le_of_ble_eq_true rfl) dX2_init_94 rfl ?_
  refine ea_aast2 (k := 2) (S1 := ms_20) (q := 98) rfl rfl (by decide) mcx_2 (by decide) rfl dX2_init_97 rfl ?_
  refine ea_iinc (v := 3) (q := 101) (loc' := [some (.ref _), some (.int _)]) rfl (by decide) (by decide) rfl dX2_init_98 rfl ?_
  refine ea_goto (q := 80) dX2_init_101 rfl ?_
  refine ea_iload_n (q := 81) rfl dX2_init_80 rfl ?_
  refine ea_iconst (v := 5) (q := 82) mci_5 dX2_init_81 rfl ?_
  refine ea_icmp_geN (t := 104) (q := 85) (by decide) rfl dX2_init_82 rfl ?_
  refine ea_aload_n (q := 86) rfl dX2_init_85 rfl ?_
  refine ea_getfR (q := 89) mw_f_RX2_46 rfl rfl dX2_init_86 rfl ?_
  refine ea_iload_n (q := 90) rfl dX2_init_89 rfl ?_
  refine ea_new (n := 7) (S1 := ms_21) (cs' := (7, 77)) (q := 93) mw_ln_RX2_44 rfl (by decide) rfl rfl rfl (fun _ => rfl) rfl (by decide) (by decide) rfl dX2_init_90 rfl ?_
  refine ea_dup (q := 94) rfl dX2_init_93 rfl ?_
  refine ea_initN (K := jX1_init) (n := 7) (S0 := ms_20) (S1 := ms_21) (f1 := mj_z) (cs' := (7, 77)) (q := 97) mw_n_RX2_56 kaX1_init raX1_init rfl rfl (by decide) rfl rfl rfl (fun _ => rfl) mj_z_k rfl rfl (by decide) (by decide) (by decide) (Nat.le_of_ble_eq_true rfl) dX2_init_94 rfl ?_
  refine ea_aast2 (k := 3) (S1 := ms_22) (q := 98) rfl rfl (by decide) mcx_3 (by decide) rfl dX2_init_97 rfl ?_
  refine ea_iinc (v := 4) (q := 101) (loc' := [some (.ref _), some (.int _)]) rfl (by decide) (by decide) rfl dX2_init_98 rfl ?_
  refine ea_goto (q := 80) dX2_init_101 rfl ?_
  refine ea_iload_n (q := 81) rfl dX2_init_80 rfl ?_
  refine ea_iconst (v := 5) (q := 82) mci_5 dX2_init_81 rfl ?_
  refine ea_icmp_geN (t := 104) (q := 85) (by decide) rfl dX2_init_82 rfl ?_
  refine ea_aload_n (q := 86) rfl dX2_init_85 rfl ?_
  refine ea_getfR (q := 89) mw_f_RX2_46 rfl rfl dX2_init_86 rfl ?_
  refine ea_iload_n (q := 90) rfl dX2_init_89 rfl ?_
  refine ea_new (n := 8) (S1 := ms_23) (cs' := (8, 84)) (q := 93) mw_ln_RX2_44 rfl (by decide) rfl rfl rfl (fun _ => rfl) rfl (by decide) (by decide) rfl dX2_init_90 rfl ?_
  refine ea_dup (q := 94) rfl dX2_init_93 rfl ?_
  refine ea_initN (K := jX1_init) (n := 8) (S0 := ms_22) (S1 := ms_23) (f1 := mj_z) (cs' := (8, 84)) (q := 97) mw_n_RX2_56 kaX1_init raX1_init rfl rfl (by decide) rfl rfl rfl (fun _ => rfl) mj_z_k rfl rfl (by decide) (by decide) (by decide) (Nat.le_of_ble_eq_true rfl) dX2_init_94 rfl ?_
  refine ea_aast2 (k := 4) (S1 := ms_24) (q := 98) rfl rfl (by decide) mcx_4 (by decide) rfl dX2_init_97 rfl ?_
  refine ea_iinc (v := 5) (q := 101) (loc' := [some (.ref _), some (.int _)]) rfl (by decide) (by decide) rfl dX2_init_98 rfl ?_
  refine ea_goto (q := 80) dX2_init_101 rfl ?_
  refine ea_iload_n (q := 81) rfl dX2_init_80 rfl ?_
  refine ea_iconst (v := 5) (q := 82) mci_5 dX2_init_81 rfl ?_
  refine ea_icmp_geY (q := 104) (by decide) dX2_init_82 rfl ?_
  exact ea_ret dX2_init_104 (by decide) (by decide)
def ms_25 : mj_S := [.inl (6, [none, none, none, none, none, none, none, none, none, none]), .inr (4, 8, [none, none, none, none, none, none, none, none])]
def ms_26 : mj_S := [.inl (6, [some 1, none, none, none, none, none, none, none, none, none]), .inr (4, 8, [none, none, none, none, none, none, none, none])]
def ms_27 : mj_S := [.inl (6, [some 1, none, none, none, none, none, none, none, none, none]), .inr (4, 8, [none, none, none, none, none, none, none, none]), .inl (4, [none, none, none, none, none, none, none])]
def ms_28 : mj_S := [.inl (6, [some 1, none, none, none, none, none, none, none, none, none]), .inr (4, 8, [none, none, none, none, none, none, none, none]), .inl (4, [some 3, none, none, none, none, none, none]), .inr (0, 120, [])]
def ms_29 : mj_S := [.inl (6, [some 1, some 2, none, none, none, none, none, none, none, none]), .inr (4, 8, [none, none, none, none, none, none, none, none]), .inl (4, [some 3, none, none, none, none, none, none]), .inr (0, 120, [])]
def ms_30 : mj_S := [.inl (6, [some 1, some 2, none, none, none, none, none, none, none, none]), .inr (4, 8, [none, none, none, none, none, none, none, none]), .inl (4, [some 3, none, none, none, none, none, none]), .inr (0, 120, []), .inl (2, [none, none, none, none, none, none, none, none, none, none, none, none, none])]
def ms_31 : mj_S := [.inl (6, [some 1, some 2, none, none, none, none, none, none, none, none]), .inr (4, 8, [none, none, none, none, none, none, none, none]), .inl (4, [some 3, none, none, none, none, none, none]), .inr (0, 120, []), .inl (2, [none, none, none, none, none, none, none, none, some 5, some 6, some 7, none, none]), .inr (0, 12, []), .inr (0, 32, []), .inr (2, 5, [some 8, some 9, some 10, some 11, some 12]), .inl (1, [none, none, none, none, none, none, none]), .inl (1, [none, none, none, none, none, none, none]), .inl (1, [none, none, none, none, none, none, none]), .inl (1, [none, none, none, none, none, none, none]), .inl (1, [none, none, none, none, none, none, none])]
def ms_32 : mj_S := [.inl (6, [some 1, some 2, some 4, none, none, none, none, none, none, none]), .inr (4, 8, [none, none, none, none, none, none, none, none]), .inl (4, [some 3, none, none, none, none, none, none]), .inr (0, 120, []), .inl (2, [none, none, none, none, none, none, none, none, some 5, some 6, some 7, none, none]), .inr (0, 12, []), .inr (0, 32, []), .inr (2, 5, [some 8, some 9, some 10, some 11, some 12]), .inl (1, [none, none, none, none, none, none, none]), .inl (1, [none, none, none, none, none, none, none]), .inl (1, [none, none, none, none, none, none, none]), .inl (1, [none, none, none, none, none, none, none]), .inl (1, [none, none, none, none, none, none, none])]
def ms_33 : mj_S := [.inl (6, [some 1, some 2, some 4, none, none, none, none, none, none, none]), .inr (4, 8, [none, none, none, none, none, none, none, none]), .inl (4, [some 3, none, none, none, none, none, none]), .inr (0, 120, []), .inl (2, [none, none, none, none, none, none, none, none, some 5, some 6, some 7, none, none]), .inr (0, 12, []), .inr (0, 32, []), .inr (2, 5, [some 8, some 9, some 10, some 11, some 12]), .inl (1, [none, none, none, none, none, none, none]), .inl (1, [none, none, none, none, none, none, none]), .inl (1, [none, none, none, none, none, none, none]), .inl (1, [none, none, none, none, none, none, none]), .inl (1, [none, none, none, none, none, none, none]), .inl (2, [none, none, none, none, none, none, none, none, none, none, none, none, none])]
def ms_34 : mj_S := [.inl (6, [some 1, some 2, some 4, none, none, none, none, none, none, none]), .inr (4, 8, [none, none, none, none, none, none, none, none]), .inl (4, [some 3, none, none, none, none, none, none]), .inr (0, 120, []), .inl (2, [none, none, none, none, none, none, none, none, some 5, some 6, some 7, none, none]), .inr (0, 12, []), .inr (0, 32, []), .inr (2, 5, [some 8, some 9, some 10, some 11, some 12]), .inl (1, [none, none, none, none, none, none, none]), .inl (1, [none, none, none, none, none, none, none]), .inl (1, [none, none, none, none, none, none, none]), .inl (1, [none, none, none, none, none, none, none]), .inl (1, [none, none, none, none, none, none, none]), .inl (2, [none, none, none, none, none, none, none, none, some 14, some 15, some 16, none, none]), .inr (0, 12, []), .inr (0, 32, []), .inr (2, 5, [some 17, some 18, some 19, some 20, some 21]), .inl (1, [none, none, none, none, none, none, none]), .inl (1, [none, none, none, none, none, none, none]), .inl (1, [none, none, none, none, none, none, none]), .inl (1, [none, none, none, none, none, none, none]), .inl (1, [none, none, none, none, none, none, none])]
def ms_35 : mj_S := [.inl (6, [some 1, some 2, some 4, some 13, none, none, none, none, none, none]), .inr (4, 8, [none, none, none, none, none, none, none, none]), .inl (4, [some 3, none, none, none, none, none, none]), .inr (0, 120, []), .inl (2, [none, none, none, none, none, none, none, none, some 5, some 6, some 7, none, none]), .inr (0, 12, []), .inr (0, 32, []), .inr (2, 5, [some 8, some 9, some 10, some 11, some 12]), .inl (1, [none, none, none, none, none, none, none]), .inl (1, [none, none, none, none, none, none, none]), .inl (1, [none, none, none, none, none, none, none]), .inl (1, [none, none, none, none, none, none, none]), .inl (1, [none, none, none, none, none, none, none]), .inl (2, [none, none, none, none, none, none, none, none, some 14, some 15, some 16, none, none]), .inr (0, 12, []), .inr (0, 32, []), .inr (2, 5, [some 17, some 18, some 19, some 20, some 21]), .inl (1, [none, none, none, none, none, none, none]), .inl (1, [none, none, none, none, none, none, none]), .inl (1, [none, none, none, none, none, none, none]), .inl (1, [none, none, none, none, none, none, none]), .inl (1, [none, none, none, none, none, none, none])]
def ms_36 : mj_S := [.inl (6, [some 1, some 2, some 4, some 13, none, none, none, none, none, none]), .inr (4, 8, [none, none, none, none, none, none, none, none]), .inl (4, [some 3, none, none, none, none, none, none]), .inr (0, 120, []), .inl (2, [none, none, none, none, none, none, none, none, some 5, some 6, some 7, none, none]), .inr (0, 12, []), .inr (0, 32, []), .inr (2, 5, [some 8, some 9, some 10, some 11, some 12]), .inl (1, [none, none, none, none, none, none, none]), .inl (1, [none, none, none, none, none, none, none]), .inl (1, [none, none, none, none, none, none, none]), .inl (1, [none, none, none, none, none, none, none]), .inl (1, [none, none, none, none, none, none, none]), .inl (2, [none, none, none, none, none, none, none, none, some 14, some 15, some 16, none, none]), .inr (0, 12, []), .inr (0, 32, []), .inr (2, 5, [some 17, some 18, some 19, some 20, some 21]), .inl (1, [none, none, none, none, none, none, none]), .inl (1, [none, none, none, none, none, none, none]), .inl (1, [none, none, none, none, none, none, none]), .inl (1, [none, none, none, none, none, none, none]), .inl (1, [none, none, none, none, none, none, none]), .inl (1, [none, none, none, none, none, none, none])]
def ms_37 : mj_S := [.inl (6, [some 1, some 2, some 4, some 13, some 22, none, none, none, none, none]), .inr (4, 8, [none, none, none, none, none, none, none, none]), .inl (4, [some 3, none, none, none, none, none, none]), .inr (0, 120, []), .inl (2, [none, none, none, none, none, none, none, none, some 5, some 6, some 7, none, none]), .inr (0, 12, []), .inr (0, 32, []), .inr (2, 5, [some 8, some 9, some 10, some 11, some 12]), .inl (1, [none, none, none, none, none, none, none]), .inl (1, [none, none, none, none, none, none, none]), .inl (1, [none, none, none, none, none, none, none]), .inl (1, [none, none, none, none, none, none, none]), .inl (1, [none, none, none, none, none, none, none]), .inl (2, [none, none, none, none, none, none, none, none, some 14, some 15, some 16, none, none]), .inr (0, 12, []), .inr (0, 32, []), .inr (2, 5, [some 17, some 18, some 19, some 20, some 21]), .inl (1, [none, none, none, none, none, none, none]), .inl (1, [none, none, none, none, none, none, none]), .inl (1, [none, none, none, none, none, none, none]), .inl (1, [none, none, none, none, none, none, none]), .inl (1, [none, none, none, none, none, none, none]), .inl (1, [none, none, none, none, none, none, none])]
def ms_38 : mj_S := [.inl (6, [some 1, some 2, some 4, some 13, some 22, none, none, none, none, none]), .inr (4, 8, [none, none, none, none, none, none, none, none]), .inl (4, [some 3, none, none, none, none, none, none]), .inr (0, 120, []), .inl (2, [none, none, none, none, none, none, none, none, some 5, some 6, some 7, none, none]), .inr (0, 12, []), .inr (0, 32, []), .inr (2, 5, [some 8, some 9, some 10, some 11, some 12]), .inl (1, [none, none, none, none, none, none, none]), .inl (1, [none, none, none, none, none, none, none]), .inl (1, [none, none, none, none, none, none, none]), .inl (1, [none, none, none, none, none, none, none]), .inl (1, [none, none, none, none, none, none, none]), .inl (2, [none, none, none, none, none, none, none, none, some 14, some 15, some 16, none, none]), .inr (0, 12, []), .inr (0, 32, []), .inr (2, 5, [some 17, some 18, some 19, some 20, some 21]), .inl (1, [none, none, none, none, none, none, none]), .inl (1, [none, none, none, none, none, none, none]), .inl (1, [none, none, none, none, none, none, none]), .inl (1, [none, none, none, none, none, none, none]), .inl (1, [none, none, none, none, none, none, none]), .inl (1, [none, none, none, none, none, none, none]), .inr (3, 2, [none, none])]
def ms_39 : mj_S := [.inl (6, [some 1, some 2, some 4, some 13, some 22, some 23, none, none, none, none]), .inr (4, 8, [none, none, none, none, none, none, none, none]), .inl (4, [some 3, none, none, none, none, none, none]), .inr (0, 120, []), .inl (2, [none, none, none, none, none, none, none, none, some 5, some 6, some 7, none, none]), .inr (0, 12, []), .inr (0, 32, []), .inr (2, 5, [some 8, some 9, some 10, some 11, some 12]), .inl (1, [none, none, none, none, none, none, none]), .inl (1, [none, none, none, none, none, none, none]), .inl (1, [none, none, none, none, none, none, none]), .inl (1, [none, none, none, none, none, none, none]), .inl (1, [none, none, none, none, none, none, none]), .inl (2, [none, none, none, none, none, none, none, none, some 14, some 15, some 16, none, none]), .inr (0, 12, []), .inr (0, 32, []), .inr (2, 5, [some 17, some 18, some 19, some 20, some 21]), .inl (1, [none, none, none, none, none, none, none]), .inl (1, [none, none, none, none, none, none, none]), .inl (1, [none, none, none, none, none, none, none]), .inl (1, [none, none, none, none, none, none, none]), .inl (1, [none, none, none, none, none, none, none]), .inl (1, [none, none, none, none, none, none, none]), .inr (3, 2, [none, none])]
def ms_40 : mj_S := [.inl (6, [some 1, some 2, some 4, some 13, some 22, some 23, none, none, none, none]), .inr (4, 8, [none, none, none, none, none, none, none, none]), .inl (4, [some 3, none, none, none, none, none, none]), .inr (0, 120, []), .inl (2, [none, none, none, none, none, none, none, none, some 5, some 6, some 7, none, none]), .inr (0, 12, []), .inr (0, 32, []), .inr (2, 5, [some 8, some 9, some 10, some 11, some 12]), .inl (1, [none, none, none, none, none, none, none]), .inl (1, [none, none, none, none, none, none, none]), .inl (1, [none, none, none, none, none, none, none]), .inl (1, [none, none, none, none, none, none, none]), .inl (1, [none, none, none, none, none, none, none]), .inl (2, [none, none, none, none, none, none, none, none, some 14, some 15, some 16, none, none]), .inr (0, 12, []), .inr (0, 32, []), .inr (2, 5, [some 17, some 18, some 19, some 20, some 21]), .inl (1, [none, none, none, none, none, none, none]), .inl (1, [none, none, none, none, none, none, none]), .inl (1, [none, none, none, none, none, none, none]), .inl (1, [none, none, none, none, none, none, none]), .inl (1, [none, none, none, none, none, none, none]), .inl (1, [none, none, none, none, none, none, none]), .inr (3, 2, [none, none]), .inl (0, [none, none, none])]
def ms_41 : mj_S := [.inl (6, [some 1, some 2, some 4, some 13, some 22, some 23, none, none, none, none]), .inr (4, 8, [none, none, none, none, none, none, none, none]), .inl (4, [some 3, none, none, none, none, none, none]), .inr (0, 120, []), .inl (2, [none, none, none, none, none, none, none, none, some 5, some 6, some 7, none, none]), .inr (0, 12, []), .inr (0, 32, []), .inr (2, 5, [some 8, some 9, some 10, some 11, some 12]), .inl (1, [none, none, none, none, none, none, none]), .inl (1, [none, none, none, none, none, none, none]), .inl (1, [none, none, none, none, none, none, none]), .inl (1, [none, none, none, none, none, none, none]), .inl (1, [none, none, none, none, none, none, none]), .inl (2, [none, none, none, none, none, none, none, none, some 14, some 15, some 16, none, none]), .inr (0, 12, []), .inr (0, 32, []), .inr (2, 5, [some 17, some 18, some 19, some 20, some 21]), .inl (1, [none, none, none, none, none, none, none]), .inl (1, [none, none, none, none, none, none, none]), .inl (1, [none, none, none, none, none, none, none]), .inl (1, [none, none, none, none, none, none, none]), .inl (1, [none, none, none, none, none, none, none]), .inl (1, [none, none, none, none, none, none, none]), .inr (3, 2, [none, none]), .inl (0, [some 25, none, none]), .inr (0, 192, [])]
def ms_42 : mj_S := [.inl (6, [some 1, some 2, some 4, some 13, some 22, some 23, some 24, none, none, none]), .inr (4, 8, [none, none, none, none, none, none, none, none]), .inl (4, [some 3, none, none, none, none, none, none]), .inr (0, 120, []), .inl (2, [none, none, none, none, none, none, none, none, some 5, some 6, some 7, none, none]), .inr (0, 12, []), .inr (0, 32, []), .inr (2, 5, [some 8, some 9, some 10, some 11, some 12]), .inl (1, [none, none, none, none, none, none, none]), .inl (1, [none, none, none, none, none, none, none]), .inl (1, [none, none, none, none, none, none, none]), .inl (1, [none, none, none, none, none, none, none]), .inl (1, [none, none, none, none, none, none, none]), .inl (2, [none, none, none, none, none, none, none, none, some 14, some 15, some 16, none, none]), .inr (0, 12, []), .inr (0, 32, []), .inr (2, 5, [some 17, some 18, some 19, some 20, some 21]), .inl (1, [none, none, none, none, none, none, none]), .inl (1, [none, none, none, none, none, none, none]), .inl (1, [none, none, none, none, none, none, none]), .inl (1, [none, none, none, none, none, none, none]), .inl (1, [none, none, none, none, none, none, none]), .inl (1, [none, none, none, none, none, none, none]), .inr (3, 2, [none, none]), .inl (0, [some 25, none, none]), .inr (0, 192, [])]
def ms_43 : mj_S := [.inl (6, [some 1, some 2, some 4, some 13, some 22, some 23, some 24, none, none, none]), .inr (4, 8, [none, none, none, none, none, none, none, none]), .inl (4, [some 3, none, none, none, none, none, none]), .inr (0, 120, []), .inl (2, [none, none, none, none, none, none, none, none, some 5, some 6, some 7, none, none]), .inr (0, 12, []), .inr (0, 32, []), .inr (2, 5, [some 8, some 9, some 10, some 11, some 12]), .inl (1, [none, none, none, none, none, none, none]), .inl (1, [none, none, none, none, none, none, none]), .inl (1, [none, none, none, none, none, none, none]), .inl (1, [none, none, none, none, none, none, none]), .inl (1, [none, none, none, none, none, none, none]), .inl (2, [none, none, none, none, none, none, none, none, some 14, some 15, some 16, none, none]), .inr (0, 12, []), .inr (0, 32, []), .inr (2, 5, [some 17, some 18, some 19, some 20, some 21]), .inl (1, [none, none, none, none, none, none, none]), .inl (1, [none, none, none, none, none, none, none]), .inl (1, [none, none, none, none, none, none, none]), .inl (1, [none, none, none, none, none, none, none]), .inl (1, [none, none, none, none, none, none, none]), .inl (1, [none, none, none, none, none, none, none]), .inr (3, 2, [none, none]), .inl (0, [some 25, none, none]), .inr (0, 192, []), .inl (5, [none, none])]
def ms_44 : mj_S := [.inl (6, [some 1, some 2, some 4, some 13, some 22, some 23, some 24, none, none, none]), .inr (4, 8, [none, none, none, none, none, none, none, none]), .inl (4, [some 3, none, none, none, none, none, none]), .inr (0, 120, []), .inl (2, [none, none, none, none, none, none, none, none, some 5, some 6, some 7, none, none]), .inr (0, 12, []), .inr (0, 32, []), .inr (2, 5, [some 8, some 9, some 10, some 11, some 12]), .inl (1, [none, none, none, none, none, none, none]), .inl (1, [none, none, none, none, none, none, none]), .inl (1, [none, none, none, none, none, none, none]), .inl (1, [none, none, none, none, none, none, none]), .inl (1, [none, none, none, none, none, none, none]), .inl (2, [none, none, none, none, none, none, none, none, some 14, some 15, some 16, none, none]), .inr (0, 12, []), .inr (0, 32, []), .inr (2, 5, [some 17, some 18, some 19, some 20, some 21]), .inl (1, [none, none, none, none, none, none, none]), .inl (1, [none, none, none, none, none, none, none]), .inl (1, [none, none, none, none, none, none, none]), .inl (1, [none, none, none, none, none, none, none]), .inl (1, [none, none, none, none, none, none, none]), .inl (1, [none, none, none, none, none, none, none]), .inr (3, 2, [none, none]), .inl (0, [some 25, none, none]), .inr (0, 192, []), .inl (5, [some 27, none]), .inr (0, 16, [])]
def ms_45 : mj_S := [.inl (6, [some 1, some 2, some 4, some 13, some 22, some 23, some 24, some 26, none, none]), .inr (4, 8, [none, none, none, none, none, none, none, none]), .inl (4, [some 3, none, none, none, none, none, none]), .inr (0, 120, []), .inl (2, [none, none, none, none, none, none, none, none, some 5, some 6, some 7, none, none]), .inr (0, 12, []), .inr (0, 32, []), .inr (2, 5, [some 8, some 9, some 10, some 11, some 12]), .inl (1, [none, none, none, none, none, none, none]), .inl (1, [none, none, none, none, none, none, none]), .inl (1, [none, none, none, none, none, none, none]), .inl (1, [none, none, none, none, none, none, none]), .inl (1, [none, none, none, none, none, none, none]), .inl (2, [none, none, none, none, none, none, none, none, some 14, some 15, some 16, none, none]), .inr (0, 12, []), .inr (0, 32, []), .inr (2, 5, [some 17, some 18, some 19, some 20, some 21]), .inl (1, [none, none, none, none, none, none, none]), .inl (1, [none, none, none, none, none, none, none]), .inl (1, [none, none, none, none, none, none, none]), .inl (1, [none, none, none, none, none, none, none]), .inl (1, [none, none, none, none, none, none, none]), .inl (1, [none, none, none, none, none, none, none]), .inr (3, 2, [none, none]), .inl (0, [some 25, none, none]), .inr (0, 192, []), .inl (5, [some 27, none]), .inr (0, 16, [])]
def ms_46 : mj_S := [.inl (6, [some 1, some 2, some 4, some 13, some 22, some 23, some 24, some 26, none, none]), .inr (4, 8, [none, none, none, none, none, none, none, none]), .inl (4, [some 3, none, none, none, none, none, none]), .inr (0, 120, []), .inl (2, [none, none, none, none, none, none, none, none, some 5, some 6, some 7, none, none]), .inr (0, 12, []), .inr (0, 32, []), .inr (2, 5, [some 8, some 9, some 10, some 11, some 12]), .inl (1, [none, none, none, none, none, none, none]), .inl (1, [none, none, none, none, none, none, none]), .inl (1, [none, none, none, none, none, none, none]), .inl (1, [none, none, none, none, none, none, none]), .inl (1, [none, none, none, none, none, none, none]), .inl (2, [none, none, none, none, none, none, none, none, some 14, some 15, some 16, none, none]), .inr (0, 12, []), .inr (0, 32, []), .inr (2, 5, [some 17, some 18, some 19, some 20, some 21]), .inl (1, [none, none, none, none, none, none, none]), .inl (1, [none, none, none, none, none, none, none]), .inl (1, [none, none, none, none, none, none, none]), .inl (1, [none, none, none, none, none, none, none]), .inl (1, [none, none, none, none, none, none, none]), .inl (1, [none, none, none, none, none, none, none]), .inr (3, 2, [none, none]), .inl (0, [some 25, none, none]), .inr (0, 192, []), .inl (5, [some 27, none]), .inr (0, 16, []), .inl (3, [none, none, none, none])]
def ms_47 : mj_S := [.inl (6, [some 1, some 2, some 4, some 13, some 22, some 23, some 24, some 26, none, none]), .inr (4, 8, [none, none, none, none, none, none, none, none]), .inl (4, [some 3, none, none, none, none, none, none]), .inr (0, 120, []), .inl (2, [none, none, none, none, none, none, none, none, some 5, some 6, some 7, none, none]), .inr (0, 12, []), .inr (0, 32, []), .inr (2, 5, [some 8, some 9, some 10, some 11, some 12]), .inl (1, [none, none, none, none, none, none, none]), .inl (1, [none, none, none, none, none, none, none]), .inl (1, [none, none, none, none, none, none, none]), .inl (1, [none, none, none, none, none, none, none]), .inl (1, [none, none, none, none, none, none, none]), .inl (2, [none, none, none, none, none, none, none, none, some 14, some 15, some 16, none, none]), .inr (0, 12, []), .inr (0, 32, []), .inr (2, 5, [some 17, some 18, some 19, some 20, some 21]), .inl (1, [none, none, none, none, none, none, none]), .inl (1, [none, none, none, none, none, none, none]), .inl (1, [none, none, none, none, none, none, none]), .inl (1, [none, none, none, none, none, none, none]), .inl (1, [none, none, none, none, none, none, none]), .inl (1, [none, none, none, none, none, none, none]), .inr (3, 2, [none, none]), .inl (0, [some 25, none, none]), .inr (0, 192, []), .inl (5, [some 27, none]), .inr (0, 16, []), .inl (3, [none, none, none, some 29]), .inr (0, 40, [])]
def ms_48 : mj_S := [.inl (6, [some 1, some 2, some 4, some 13, some 22, some 23, some 24, some 26, none, none]), .inr (4, 8, [some 28, none, none, none, none, none, none, none]), .inl (4, [some 3, none, none, none, none, none, none]), .inr (0, 120, []), .inl (2, [none, none, none, none, none, none, none, none, some 5, some 6, some 7, none, none]), .inr (0, 12, []), .inr (0, 32, []), .inr (2, 5, [some 8, some 9, some 10, some 11, some 12]), .inl (1, [none, none, none, none, none, none, none]), .inl (1, [none, none, none, none, none, none, none]), .inl (1, [none, none, none, none, none, none, none]), .inl (1, [none, none, none, none, none, none, none]), .inl (1, [none, none, none, none, none, none, none]), .inl (2, [none, none, none, none, none, none, none, none, some 14, some 15, some 16, none, none]), .inr (0, 12, []), .inr (0, 32, []), .inr (2, 5, [some 17, some 18, some 19, some 20, some 21]), .inl (1, [none, none, none, none, none, none, none]), .inl (1, [none, none, none, none, none, none, none]), .inl (1, [none, none, none, none, none, none, none]), .inl (1, [none, none, none, none, none, none, none]), .inl (1, [none, none, none, none, none, none, none]), .inl (1, [none, none, none, none, none, none, none]), .inr (3, 2, [none, none]), .inl (0, [some 25, none, none]), .inr (0, 192, []), .inl (5, [some 27, none]), .inr (0, 16, []), .inl (3, [none, none, none, some 29]), .inr (0, 40, [])]
def ms_49 : mj_S := [.inl (6, [some 1, some 2, some 4, some 13, some 22, some 23, some 24, some 26, none, none]), .inr (4, 8, [some 28, none, none, none, none, none, none, none]), .inl (4, [some 3, none, none, none, none, none, none]), .inr (0, 120, []), .inl (2, [none, none, none, none, none, none, none, none, some 5, some 6, some 7, none, none]), .inr (0, 12, []), .inr (0, 32, []), .inr (2, 5, [some 8, some 9, some 10, some 11, some 12]), .inl (1, [none, none, none, none, none, none, none]), .inl (1, [none, none, none, none, none, none, none]), .inl (1, [none, none, none, none, none, none, none]), .inl (1, [none, none, none, none, none, none, none]), .inl (1, [none, none, none, none, none, none, none]), .inl (2, [none, none, none, none, none, none, none, none, some 14, some 15, some 16, none, none]), .inr (0, 12, []), .inr (0, 32, []), .inr (2, 5, [some 17, some 18, some 19, some 20, some 21]), .inl (1, [none, none, none, none, none, none, none]), .inl (1, [none, none, none, none, none, none, none]), .inl (1, [none, none, none, none, none, none, none]), .inl (1, [none, none, none, none, none, none, none]), .inl (1, [none, none, none, none, none, none, none]), .inl (1, [none, none, none, none, none, none, none]), .inr (3, 2, [none, none]), .inl (0, [some 25, none, none]), .inr (0, 192, []), .inl (5, [some 27, none]), .inr (0, 16, []), .inl (3, [none, none, none, some 29]), .inr (0, 40, []), .inl (3, [none, none, none, none])]
def ms_50 : mj_S := [.inl (6, [some 1, some 2, some 4, some 13, some 22, some 23, some 24, some 26, none, none]), .inr (4, 8, [some 28, none, none, none, none, none, none, none]), .inl (4, [some 3, none, none, none, none, none, none]), .inr (0, 120, []), .inl (2, [none, none, none, none, none, none, none, none, some 5, some 6, some 7, none, none]), .inr (0, 12, []), .inr (0, 32, []), .inr (2, 5, [some 8, some 9, some 10, some 11, some 12]), .inl (1, [none, none, none, none, none, none, none]), .inl (1, [none, none, none, none, none, none, none]), .inl (1, [none, none, none, none, none, none, none]), .inl (1, [none, none, none, none, none, none, none]), .inl (1, [none, none, none, none, none, none, none]), .inl (2, [none, none, none, none, none, none, none, none, some 14, some 15, some 16, none, none]), .inr (0, 12, []), .inr (0, 32, []), .inr (2, 5, [some 17, some 18, some 19, some 20, some 21]), .inl (1, [none, none, none, none, none, none, none]), .inl (1, [none, none, none, none, none, none, none]), .inl (1, [none, none, none, none, none, none, none]), .inl (1, [none, none, none, none, none, none, none]), .inl (1, [none, none, none, none, none, none, none]), .inl (1, [none, none, none, none, none, none, none]), .inr (3, 2, [none, none]), .inl (0, [some 25, none, none]), .inr (0, 192, []), .inl (5, [some 27, none]), .inr (0, 16, []), .inl (3, [none, none, none, some 29]), .inr (0, 40, []), .inl (3, [none, none, none, some 31]), .inr (0, 40, [])]
def ms_51 : mj_S := [.inl (6, [some 1, some 2, some 4, some 13, some 22, some 23, some 24, some 26, none, none]), .inr (4, 8, [some 28, some 30, none, none, none, none, none, none]), .inl (4, [some 3, none, none, none, none, none, none]), .inr (0, 120, []), .inl (2, [none, none, none, none, none, none, none, none, some 5, some 6, some 7, none, none]), .inr (0, 12, []), .inr (0, 32, []), .inr (2, 5, [some 8, some 9, some 10, some 11, some 12]), .inl (1, [none, none, none, none, none, none, none]), .inl (1, [none, none, none, none, none, none, none]), .inl (1, [none, none, none, none, none, none, none]), .inl (1, [none, none, none, none, none, none, none]), .inl (1, [none, none, none, none, none, none, none]), .inl (2, [none, none, none, none, none, none, none, none, some 14, some 15, some 16, none, none]), .inr (0, 12, []), .inr (0, 32, []), .inr (2, 5, [some 17, some 18, some 19, some 20, some 21]), .inl (1, [none, none, none, none, none, none, none]), .inl (1, [none, none, none, none, none, none, none]), .inl (1, [none, none, none, none, none, none, none]), .inl (1, [none, none, none, none, none, none, none]), .inl (1, [none, none, none, none, none, none, none]), .inl (1, [none, none, none, none, none, none, none]), .inr (3, 2, [none, none]), .inl (0, [some 25, none, none]), .inr (0, 192, []), .inl (5, [some 27, none]), .inr (0, 16, []), .inl (3, [none, none, none, some 29]), .inr (0, 40, []), .inl (3, [none, none, none, some 31]), .inr (0, 40, [])]
def ms_52 : mj_S := [.inl (6, [some 1, some 2, some 4, some 13, some 22, some 23, some 24, some 26, none, none]), .inr (4, 8, [some 28, some 30, none, none, none, none, none, none]), .inl (4, [some 3, none, none, none, none, none, none]), .inr (0, 120, []), .inl (2, [none, none, none, none, none, none, none, none, some 5, some 6, some 7, none, none]), .inr (0, 12, []), .inr (0, 32, []), .inr (2, 5, [some 8, some 9, some 10, some 11, some 12]), .inl (1, [none, none, none, none, none, none, none]), .inl (1, [none, none, none, none, none, none, none]), .inl (1, [none, none, none, none, none, none, none]), .inl (1, [none, none, none, none, none, none, none]), .inl (1, [none, none, none, none, none, none, none]), .inl (2, [none, none, none, none, none, none, none, none, some 14, some 15, some 16, none, none]), .inr (0, 12, []), .inr (0, 32, []), .inr (2, 5, [some 17, some 18, some 19, some 20, some 21]), .inl (1, [none, none, none, none, none, none, none]), .inl (1, [none, none, none, none, none, none, none]), .inl (1, [none, none, none, none, none, none, none]), .inl (1, [none, none, none, none, none, none, none]), .inl (1, [none, none, none, none, none, none, none]), .inl (1, [none, none, none, none, none, none, none]), .inr (3, 2, [none, none]), .inl (0, [some 25, none, none]), .inr (0, 192, []), .inl (5, [some 27, none]), .inr (0, 16, []), .inl (3, [none, none, none, some 29]), .inr (0, 40, []), .inl (3, [none, none, none, some 31]), .inr (0, 40, []), .inl (3, [none, none, none, none])]
def ms_53 : mj_S := [.inl (6, [some 1, some 2, some 4, some 13, some 22, some 23, some 24, some 26, none, none]), .inr (4, 8, [some 28, some 30, none, none, none, none, none, none]), .inl (4, [some 3, none, none, none, none, none, none]), .inr (0, 120, []), .inl (2, [none, none, none, none, none, none, none, none, some 5, some 6, some 7, none, none]), .inr (0, 12, []), .inr (0, 32, []), .inr (2, 5, [some 8, some 9, some 10, some 11, some 12]), .inl (1, [none, none, none, none, none, none, none]), .inl (1, [none, none, none, none, none, none, none]), .inl (1, [none, none, none, none, none, none, none]), .inl (1, [none, none, none, none, none, none, none]), .inl (1, [none, none, none, none, none, none, none]), .inl (2, [none, none, none, none, none, none, none, none, some 14, some 15, some 16, none, none]), .inr (0, 12, []), .inr (0, 32, []), .inr (2, 5, [some 17, some 18, some 19, some 20, some 21]), .inl (1, [none, none, none, none, none, none, none]), .inl (1, [none, none, none, none, none, none, none]), .inl (1, [none, none, none, none, none, none, none]), .inl (1, [none, none, none, none, none, none, none]), .inl (1, [none, none, none, none, none, none, none]), .inl (1, [none, none, none, none, none, none, none]), .inr (3, 2, [none, none]), .inl (0, [some 25, none, none]), .inr (0, 192, []), .inl (5, [some 27, none]), .inr (0, 16, []), .inl (3, [none, none, none, some 29]), .inr (0, 40, []), .inl (3, [none, none, none, some 31]), .inr (0, 40, []), .inl (3, [none, none, none, some 33]), .inr (0, 40, [])]
def ms_54 : mj_S := [.inl (6, [some 1, some 2, some 4, some 13, some 22, some 23, some 24, some 26, none, none]), .inr (4, 8, [some 28, some 30, some 32, none, none, none, none, none]), .inl (4, [some 3, none, none, none, none, none, none]), .inr (0, 120, []), .inl (2, [none, none, none, none, none, none, none, none, some 5, some 6, some 7, none, none]), .inr (0, 12, []), .inr (0, 32, []), .inr (2, 5, [some 8, some 9, some 10, some 11, some 12]), .inl (1, [none, none, none, none, none, none, none]), .inl (1, [none, none, none, none, none, none, none]), .inl (1, [none, none, none, none, none, none, none]), .inl (1, [none, none, none, none, none, none, none]), .inl (1, [none, none, none, none, none, none, none]), .inl (2, [none, none, none, none, none, none, none, none, some 14, some 15, some 16, none, none]), .inr (0, 12, []), .inr (0, 32, []), .inr (2, 5, [some 17, some 18, some 19, some 20, some 21]), .inl (1, [none, none, none, none, none, none, none]), .inl (1, [none, none, none, none, none, none, none]), .inl (1, [none, none, none, none, none, none, none]), .inl (1, [none, none, none, none, none, none, none]), .inl (1, [none, none, none, none, none, none, none]), .inl (1, [none, none, none, none, none, none, none]), .inr (3, 2, [none, none]), .inl (0, [some 25, none, none]), .inr (0, 192, []), .inl (5, [some 27, none]), .inr (0, 16, []), .inl (3, [none, none, none, some 29]), .inr (0, 40, []), .inl (3, [none, none, none, some 31]), .inr (0, 40, []), .inl (3, [none, none, none, some 33]), .inr (0, 40, [])]
def ms_55 : mj_S := [.inl (6, [some 1, some 2, some 4, some 13, some 22, some 23, some 24, some 26, none, none]), .inr (4, 8, [some 28, some 30, some 32, none, none, none, none, none]), .inl (4, [some 3, none, none, none, none, none, none]), .inr (0, 120, []), .inl (2, [none, none, none, none, none, none, none, none, some 5, some 6, some 7, none, none]), .inr (0, 12, []), .inr (0, 32, []), .inr (2, 5, [some 8, some 9, some 10, some 11, some 12]), .inl (1, [none, none, none, none, none, none, none]), .inl (1, [none, none, none, none, none, none, none]), .inl (1, [none, none, none, none, none, none, none]), .inl (1, [none, none, none, none, none, none, none]), .inl (1, [none, none, none, none, none, none, none]), .inl (2, [none, none, none, none, none, none, none, none, some 14, some 15, some 16, none, none]), .inr (0, 12, []), .inr (0, 32, []), .inr (2, 5, [some 17, some 18, some 19, some 20, some 21]), .inl (1, [none, none, none, none, none, none, none]), .inl (1, [none, none, none, none, none, none, none]), .inl (1, [none, none, none, none, none, none, none]), .inl (1, [none, none, none, none, none, none, none]), .inl (1, [none, none, none, none, none, none, none]), .inl (1, [none, none, none, none, none, none, none]), .inr (3, 2, [none, none]), .inl (0, [some 25, none, none]), .inr (0, 192, []), .inl (5, [some 27, none]), .inr (0, 16, []), .inl (3, [none, none, none, some 29]), .inr (0, 40, []), .inl (3, [none, none, none, some 31]), .inr (0, 40, []), .inl (3, [none, none, none, some 33]), .inr (0, 40, []), .inl (3, [none, none, none, none])]
def ms_56 : mj_S := [.inl (6, [some 1, some 2, some 4, some 13, some 22, some 23, some 24, some 26, none, none]), .inr (4, 8, [some 28, some 30, some 32, none, none, none, none, none]), .inl (4, [some 3, none, none, none, none, none, none]), .inr (0, 120, []), .inl (2, [none, none, none, none, none, none, none, none, some 5, some 6, some 7, none, none]), .inr (0, 12, []), .inr (0, 32, []), .inr (2, 5, [some 8, some 9, some 10, some 11, some 12]), .inl (1, [none, none, none, none, none, none, none]), .inl (1, [none, none, none, none, none, none, none]), .inl (1, [none, none, none, none, none, none, none]), .inl (1, [none, none, none, none, none, none, none]), .inl (1, [none, none, none, none, none, none, none]), .inl (2, [none, none, none, none, none, none, none, none, some 14, some 15, some 16, none, none]), .inr (0, 12, []), .inr (0, 32, []), .inr (2, 5, [some 17, some 18, some 19, some 20, some 21]), .inl (1, [none, none, none, none, none, none, none]), .inl (1, [none, none, none, none, none, none, none]), .inl (1, [none, none, none, none, none, none, none]), .inl (1, [none, none, none, none, none, none, none]), .inl (1, [none, none, none, none, none, none, none]), .inl (1, [none, none, none, none, none, none, none]), .inr (3, 2, [none, none]), .inl (0, [some 25, none, none]), .inr (0, 192, []), .inl (5, [some 27, none]), .inr (0, 16, []), .inl (3, [none, none, none, some 29]), .inr (0, 40, []), .inl (3, [none, none, none, some 31]), .inr (0, 40, []), .inl (3, [none, none, none, some 33]), .inr (0, 40, []), .inl (3, [none, none, none, some 35]), .inr (0, 40, [])]
def ms_57 : mj_S := [.inl (6, [some 1, some 2, some 4, some 13, some 22, some 23, some 24, some 26, none, none]), .inr (4, 8, [some 28, some 30, some 32, some 34, none, none, none, none]), .inl (4, [some 3, none, none, none, none, none, none]), .inr (0, 120, []), .inl (2, [none, none, none, none, none, none, none, none, some 5, some 6, some 7, none, none]), .inr (0, 12, []), .inr (0, 32, []), .inr (2, 5, [some 8, some 9, some 10, some 11, some 12]), .inl (1, [none, none, none, none, none, none, none]), .inl (1, [none, none, none, none, none, none, none]), .inl (1, [none, none, none, none, none, none, none]), .inl (1, [none, none, none, none, none, none, none]), .inl (1, [none, none, none, none, none, none, none]), .inl (2, [none, none, none, none, none, none, none, none, some 14, some 15, some 16, none, none]), .inr (0, 12, []), .inr (0, 32, []), .inr (2, 5, [some 17, some 18, some 19, some 20, some 21]), .inl (1, [none, none, none, none, none, none, none]), .inl (1, [none, none, none, none, none, none, none]), .inl (1, [none, none, none, none, none, none, none]), .inl (1, [none, none, none, none, none, none, none]), .inl (1, [none, none, none, none, none, none, none]), .inl (1, [none, none, none, none, none, none, none]), .inr (3, 2, [none, none]), .inl (0, [some 25, none, none]), .inr (0, 192, []), .inl (5, [some 27, none]), .inr (0, 16, []), .inl (3, [none, none, none, some 29]), .inr (0, 40, []), .inl (3, [none, none, none, some 31]), .inr (0, 40, []), .inl (3, [none, none, none, some 33]), .inr (0, 40, []), .inl (3, [none, none, none, some 35]), .inr (0, 40, [])]
def ms_58 : mj_S := [.inl (6, [some 1, some 2, some 4, some 13, some 22, some 23, some 24, some 26, none, none]), .inr (4, 8, [some 28, some 30, some 32, some 34, none, none, none, none]), .inl (4, [some 3, none, none, none, none, none, none]), .inr (0, 120, []), .inl (2, [none, none, none, none, none, none, none, none, some 5, some 6, some 7, none, none]), .inr (0, 12, []), .inr (0, 32, []), .inr (2, 5, [some 8, some 9, some 10, some 11, some 12]), .inl (1, [none, none, none, none, none, none, none]), .inl (1, [none, none, none, none, none, none, none]), .inl (1, [none, none, none, none, none, none, none]), .inl (1, [none, none, none, none, none, none, none]), .inl (1, [none, none, none, none, none, none, none]), .inl (2, [none, none, none, none, none, none, none, none, some 14, some 15, some 16, none, none]), .inr (0, 12, []), .inr (0, 32, []), .inr (2, 5, [some 17, some 18, some 19, some 20, some 21]), .inl (1, [none, none, none, none, none, none, none]), .inl (1, [none, none, none, none, none, none, none]), .inl (1, [none, none, none, none, none, none, none]), .inl (1, [none, none, none, none, none, none, none]), .inl (1, [none, none, none, none, none, none, none]), .inl (1, [none, none, none, none, none, none, none]), .inr (3, 2, [none, none]), .inl (0, [some 25, none, none]), .inr (0, 192, []), .inl (5, [some 27, none]), .inr (0, 16, []), .inl (3, [none, none, none, some 29]), .inr (0, 40, []), .inl (3, [none, none, none, some 31]), .inr (0, 40, []), .inl (3, [none, none, none, some 33]), .inr (0, 40, []), .inl (3, [none, none, none, some 35]), .inr (0, 40, []), .inl (3, [none, none, none, none])]
def ms_59 : mj_S := [.inl (6, [some 1, some 2, some 4, some 13, some 22, some 23, some 24, some 26, none, none]), .inr (4, 8, [some 28, some 30, some 32, some 34, none, none, none, none]), .inl (4, [some 3, none, none, none, none, none, none]), .inr (0, 120, []), .inl (2, [none, none, none, none, none, none, none, none, some 5, some 6, some 7, none, none]), .inr (0, 12, []), .inr (0, 32, []), .inr (2, 5, [some 8, some 9, some 10, some 11, some 12]), .inl (1, [none, none, none, none, none, none, none]), .inl (1, [none, none, none, none, none, none, none]), .inl (1, [none, none, none, none, none, none, none]), .inl (1, [none, none, none, none, none, none, none]), .inl (1, [none, none, none, none, none, none, none]), .inl (2, [none, none, none, none, none, none, none, none, some 14, some 15, some 16, none, none]), .inr (0, 12, []), .inr (0, 32, []), .inr (2, 5, [some 17, some 18, some 19, some 20, some 21]), .inl (1, [none, none, none, none, none, none, none]), .inl (1, [none, none, none, none, none, none, none]), .inl (1, [none, none, none, none, none, none, none]), .inl (1, [none, none, none, none, none, none, none]), .inl (1, [none, none, none, none, none, none, none]), .inl (1, [none, none, none, none, none, none, none]), .inr (3, 2, [none, none]), .inl (0, [some 25, none, none]), .inr (0, 192, []), .inl (5, [some 27, none]), .inr (0, 16, []), .inl (3, [none, none, none, some 29]), .inr (0, 40, []), .inl (3, [none, none, none, some 31]), .inr (0, 40, []), .inl (3, [none, none, none, some 33]), .inr (0, 40, []), .inl (3, [none, none, none, some 35]), .inr (0, 40, []), .inl (3, [none, none, none, some 37]), .inr (0, 40, [])]
def ms_60 : mj_S := [.inl (6, [some 1, some 2, some 4, some 13, some 22, some 23, some 24, some 26, none, none]), .inr (4, 8, [some 28, some 30, some 32, some 34, some 36, none, none, none]), .inl (4, [some 3, none, none, none, none, none, none]), .inr (0, 120, []), .inl (2, [none, none, none, none, none, none, none, none, some 5, some 6, some 7, none, none]), .inr (0, 12, []), .inr (0, 32, []), .inr (2, 5, [some 8, some 9, some 10, some 11, some 12]), .inl (1, [none, none, none, none, none, none, none]), .inl (1, [none, none, none, none, none, none, none]), .inl (1, [none, none, none, none, none, none, none]), .inl (1, [none, none, none, none, none, none, none]), .inl (1, [none, none, none, none, none, none, none]), .inl (2, [none, none, none, none, none, none, none, none, some 14, some 15, some 16, none, none]), .inr (0, 12, []), .inr (0, 32, []), .inr (2, 5, [some 17, some 18, some 19, some 20, some 21]), .inl (1, [none, none, none, none, none, none, none]), .inl (1, [none, none, none, none, none, none, none]), .inl (1, [none, none, none, none, none, none, none]), .inl (1, [none, none, none, none, none, none, none]), .inl (1, [none, none, none, none, none, none, none]), .inl (1, [none, none, none, none, none, none, none]), .inr (3, 2, [none, none]), .inl (0, [some 25, none, none]), .inr (0, 192, []), .inl (5, [some 27, none]), .inr (0, 16, []), .inl (3, [none, none, none, some 29]), .inr (0, 40, []), .inl (3, [none, none, none, some 31]), .inr (0, 40, []), .inl (3, [none, none, none, some 33]), .inr (0, 40, []), .inl (3, [none, none, none, some 35]), .inr (0, 40, []), .inl (3, [none, none, none, some 37]), .inr (0, 40, [])]
def ms_61 : mj_S := [.inl (6, [some 1, some 2, some 4, some 13, some 22, some 23, some 24, some 26, none, none]), .inr (4, 8, [some 28, some 30, some 32, some 34, some 36, none, none, none]), .inl (4, [some 3, none, none, none, none, none, none]), .inr (0, 120, []), .inl (2, [none, none, none, none, none, none, none, none, some 5, some 6, some 7, none, none]), .inr (0, 12, []), .inr (0, 32, []), .inr (2, 5, [some 8, some 9, some 10, some 11, some 12]), .inl (1, [none, none, none, none, none, none, none]), .inl (1, [none, none, none, none, none, none, none]), .inl (1, [none, none, none, none, none, none, none]), .inl (1, [none, none, none, none, none, none, none]), .inl (1, [none, none, none, none, none, none, none]), .inl (2, [none, none, none, none, none, none, none, none, some 14, some 15, some 16, none, none]), .inr (0, 12, []), .inr (0, 32, []), .inr (2, 5, [some 17, some 18, some 19, some 20, some 21]), .inl (1, [none, none, none, none, none, none, none]), .inl (1, [none, none, none, none, none, none, none]), .inl (1, [none, none, none, none, none, none, none]), .inl (1, [none, none, none, none, none, none, none]), .inl (1, [none, none, none, none, none, none, none]), .inl (1, [none, none, none, none, none, none, none]), .inr (3, 2, [none, none]), .inl (0, [some 25, none, none]), .inr (0, 192, []), .inl (5, [some 27, none]), .inr (0, 16, []), .inl (3, [none, none, none, some 29]), .inr (0, 40, []), .inl (3, [none, none, none, some 31]), .inr (0, 40, []), .inl (3, [none, none, none, some 33]), .inr (0, 40, []), .inl (3, [none, none, none, some 35]), .inr (0, 40, []), .inl (3, [none, none, none, some 37]), .inr (0, 40, []), .inl (3, [none, none, none, none])]
def ms_62 : mj_S := [.inl (6, [some 1, some 2, some 4, some 13, some 22, some 23, some 24, some 26, none, none]), .inr (4, 8, [some 28, some 30, some 32, some 34, some 36, none, none, none]), .inl (4, [some 3, none, none, none, none, none, none]), .inr (0, 120, []), .inl (2, [none, none, none, none, none, none, none, none, some 5, some 6, some 7, none, none]), .inr (0, 12, []), .inr (0, 32, []), .inr (2, 5, [some 8, some 9, some 10, some 11, some 12]), .inl (1, [none, none, none, none, none, none, none]), .inl (1, [none, none, none, none, none, none, none]), .inl (1, [none, none, none, none, none, none, none]), .inl (1, [none, none, none, none, none, none, none]), .inl (1, [none, none, none, none, none, none, none]), .inl (2, [none, none, none, none, none, none, none, none, some 14, some 15, some 16, none, none]), .inr (0, 12, []), .inr (0, 32, []), .inr (2, 5, [some 17, some 18, some 19, some 20, some 21]), .inl (1, [none, none, none, none, none, none, none]), .inl (1, [none, none, none, none, none, none, none]), .inl (1, [none, none, none, none, none, none, none]), .inl (1, [none, none, none, none, none, none, none]), .inl (1, [none, none, none, none, none, none, none]), .inl (1, [none, none, none, none, none, none, none]), .inr (3, 2, [none, none]), .inl (0, [some 25, none, none]), .inr (0, 192, []), .inl (5, [some 27, none]), .inr (0, 16, []), .inl (3, [none, none, none, some 29]), .inr (0, 40, []), .inl (3, [none, none, none, some 31]), .inr (0, 40, []), .inl (3, [none, none, none, some 33]), .inr (0, 40, []), .inl (3, [none, none, none, some 35]), .inr (0, 40, []), .inl (3, [none, none, none, some 37]), .inr (0, 40, []), .inl (3, [none, none, none, some 39]), .inr (0, 40, [])]
def ms_63 : mj_S := [.inl (6, [some 1, some 2, some 4, some 13, some 22, some 23, some 24, some 26, none, none]), .inr (4, 8, [some 28, some 30, some 32, some 34, some 36, some 38, none, none]), .inl (4, [some 3, none, none, none, none, none, none]), .inr (0, 120, []), .inl (2, [none, none, none, none, none, none, none, none, some 5, some 6, some 7, none, none]), .inr (0, 12, []), .inr (0, 32, []), .inr (2, 5, [some 8, some 9, some 10, some 11, some 12]), .inl (1, [none, none, none, none, none, none, none]), .inl (1, [none, none, none, none, none, none, none]), .inl (1, [none, none, none, none, none, none, none]), .inl (1, [none, none, none, none, none, none, none]), .inl (1, [none, none, none, none, none, none, none]), .inl (2, [none, none, none, none, none, none, none, none, some 14, some 15, some 16, none, none]), .inr (0, 12, []), .inr (0, 32, []), .inr (2, 5, [some 17, some 18, some 19, some 20, some 21]), .inl (1, [none, none, none, none, none, none, none]), .inl (1, [none, none, none, none, none, none, none]), .inl (1, [none, none, none, none, none, none, none]), .inl (1, [none, none, none, none, none, none, none]), .inl (1, [none, none, none, none, none, none, none]), .inl (1, [none, none, none, none, none, none, none]), .inr (3, 2, [none, none]), .inl (0, [some 25, none, none]), .inr (0, 192, []), .inl (5, [some 27, none]), .inr (0, 16, []), .inl (3, [none, none, none, some 29]), .inr (0, 40, []), .inl (3, [none, none, none, some 31]), .inr (0, 40, []), .inl (3, [none, none, none, some 33]), .inr (0, 40, []), .inl (3, [none, none, none, some 35]), .inr (0, 40, []), .inl (3, [none, none, none, some 37]), .inr (0, 40, []), .inl (3, [none, none, none, some 39]), .inr (0, 40, [])]
def ms_64 : mj_S := [.inl (6, [some 1, some 2, some 4, some 13, some 22, some 23, some 24, some 26, none, none]), .inr (4, 8, [some 28, some 30, some 32, some 34, some 36, some 38, none, none]), .inl (4, [some 3, none, none, none, none, none, none]), .inr (0, 120, []), .inl (2, [none, none, none, none, none, none, none, none, some 5, some 6, some 7, none, none]), .inr (0, 12, []), .inr (0, 32, []), .inr (2, 5, [some 8, some 9, some 10, some 11, some 12]), .inl (1, [none, none, none, none, none, none, none]), .inl (1, [none, none, none, none, none, none, none]), .inl (1, [none, none, none, none, none, none, none]), .inl (1, [none, none, none, none, none, none, none]), .inl (1, [none, none, none, none, none, none, none]), .inl (2, [none, none, none, none, none, none, none, none, some 14, some 15, some 16, none, none]), .inr (0, 12, []), .inr (0, 32, []), .inr (2, 5, [some 17, some 18, some 19, some 20, some 21]), .inl (1, [none, none, none, none, none, none, none]), .inl (1, [none, none, none, none, none, none, none]), .inl (1, [none, none, none, none, none, none, none]), .inl (1, [none, none, none, none, none, none, none]), .inl (1, [none, none, none, none, none, none, none]), .inl (1, [none, none, none, none, none, none, none]), .inr (3, 2, [none, none]), .inl (0, [some 25, none, none]), .inr (0, 192, []), .inl (5, [some 27, none]), .inr (0, 16, []), .inl (3, [none, none, none, some 29]), .inr (0, 40, []), .inl (3, [none, none, none, some 31]), .inr (0, 40, []), .inl (3, [none, none, none, some 33]), .inr (0, 40, []), .inl (3, [none, none, none, some 35]), .inr (0, 40, []), .inl (3, [none, none, none, some 37]), .inr (0, 40, []), .inl (3, [none, none, none, some 39]), .inr (0, 40, []), .inl (3, [none, none, none, none])]
def ms_65 : mj_S := [.inl (6, [some 1, some 2, some 4, some 13, some 22, some 23, some 24, some 26, none, none]), .inr (4, 8, [some 28, some 30, some 32, some 34, some 36, some 38, none, none]), .inl (4, [some 3, none, none, none, none, none, none]), .inr (0, 120, []), .inl (2, [none, none, none, none, none, none, none, none, some 5, some 6, some 7, none, none]), .inr (0, 12, []), .inr (0, 32, []), .inr (2, 5, [some 8, some 9, some 10, some 11, some 12]), .inl (1, [none, none, none, none, none, none, none]), .inl (1, [none, none, none, none, none, none, none]), .inl (1, [none, none, none, none, none, none, none]), .inl (1, [none, none, none, none, none, none, none]), .inl (1, [none, none, none, none, none, none, none]), .inl (2, [none, none, none, none, none, none, none, none, some 14, some 15, some 16, none, none]), .inr (0, 12, []), .inr (0, 32, []), .inr (2, 5, [some 17, some 18, some 19, some 20, some 21]), .inl (1, [none, none, none, none, none, none, none]), .inl (1, [none, none, none, none, none, none, none]), .inl (1, [none, none, none, none, none, none, none]), .inl (1, [none, none, none, none, none, none, none]), .inl (1, [none, none, none, none, none, none, none]), .inl (1, [none, none, none, none, none, none, none]), .inr (3, 2, [none, none]), .inl (0, [some 25, none, none]), .inr (0, 192, []), .inl (5, [some 27, none]), .inr (0, 16, []), .inl (3, [none, none, none, some 29]), .inr (0, 40, []), .inl (3, [none, none, none, some 31]), .inr (0, 40, []), .inl (3, [none, none, none, some 33]), .inr (0, 40, []), .inl (3, [none, none, none, some 35]), .inr (0, 40, []), .inl (3, [none, none, none, some 37]), .inr (0, 40, []), .inl (3, [none, none, none, some 39]), .inr (0, 40, []), .inl (3, [none, none, none, some 41]), .inr (0, 40, [])]
def ms_66 : mj_S := [.inl (6, [some 1, some 2, some 4, some 13, some 22, some 23, some 24, some 26, none, none]), .inr (4, 8, [some 28, some 30, some 32, some 34, some 36, some 38, some 40, none]), .inl (4, [some 3, none, none, none, none, none, none]), .inr (0, 120, []), .inl (2, [none, none, none, none, none, none, none, none, some 5, some 6, some 7, none, none]), .inr (0, 12, []), .inr (0, 32, []), .inr (2, 5, [some 8, some 9, some 10, some 11, some 12]), .inl (1, [none, none, none, none, none, none, none]), .inl (1, [none, none, none, none, none, none, none]), .inl (1, [none, none, none, none, none, none, none]), .inl (1, [none, none, none, none, none, none, none]), .inl (1, [none, none, none, none, none, none, none]), .inl (2, [none, none, none, none, none, none, none, none, some 14, some 15, some 16, none, none]), .inr (0, 12, []), .inr (0, 32, []), .inr (2, 5, [some 17, some 18, some 19, some 20, some 21]), .inl (1, [none, none, none, none, none, none, none]), .inl (1, [none, none, none, none, none, none, none]), .inl (1, [none, none, none, none, none, none, none]), .inl (1, [none, none, none, none, none, none, none]), .inl (1, [none, none, none, none, none, none, none]), .inl (1, [none, none, none, none, none, none, none]), .inr (3, 2, [none, none]), .inl (0, [some 25, none, none]), .inr (0, 192, []), .inl (5, [some 27, none]), .inr (0, 16, []), .inl (3, [none, none, none, some 29]), .inr (0, 40, []), .inl (3, [none, none, none, some 31]), .inr (0, 40, []), .inl (3, [none, none, none, some 33]), .inr (0, 40, []), .inl (3, [none, none, none, some 35]), .inr (0, 40, []), .inl (3, [none, none, none, some 37]), .inr (0, 40, []), .inl (3, [none, none, none, some 39]), .inr (0, 40, []), .inl (3, [none, none, none, some 41]), .inr (0, 40, [])]
def ms_67 : mj_S := [.inl (6, [some 1, some 2, some 4, some 13, some 22, some 23, some 24, some 26, none, none]), .inr (4, 8, [some 28, some 30, some 32, some 34, some 36, some 38, some 40, none]), .inl (4, [some 3, none, none, none, none, none, none]), .inr (0, 120, []), .inl (2, [none, none, none, none, none, none, none, none, some 5, some 6, some 7, none, none]), .inr (0, 12, []), .inr (0, 32, []), .inr (2, 5, [some 8, some 9, some 10, some 11, some 12]), .inl (1, [none, none, none, none, none, none, none]), .inl (1, [none, none, none, none, none, none, none]), .inl (1, [none, none, none, none, none, none, none]), .inl (1, [none, none, none, none, none, none, none]), .inl (1, [none, none, none, none, none, none, none]), .inl (2, [none, none, none, none, none, none, none, none, some 14, some 15, some 16, none, none]), .inr (0, 12, []), .inr (0, 32, []), .inr (2, 5, [some 17, some 18, some 19, some 20, some 21]), .inl (1, [none, none, none, none, none, none, none]), .inl (1, [none, none, none, none, none, none, none]), .inl (1, [none, none, none, none, none, none, none]), .inl (1, [none, none, none, none, none, none, none]), .inl (1, [none, none, none, none, none, none, none]), .inl (1, [none, none, none, none, none, none, none]), .inr (3, 2, [none, none]), .inl (0, [some 25, none, none]), .inr (0, 192, []), .inl (5, [some 27, none]), .inr (0, 16, []), .inl (3, [none, none, none, some 29]), .inr (0, 40, []), .inl (3, [none, none, none, some 31]), .inr (0, 40, []), .inl (3, [none, none, none, some 33]), .inr (0, 40, []), .inl (3, [none, none, none, some 35]), .inr (0, 40, []), .inl (3, [none, none, none, some 37]), .inr (0, 40, []), .inl (3, [none, none, none, some 39]), .inr (0, 40, []), .inl (3, [none, none, none, some 41]), .inr (0, 40, []), .inl (3, [none, none, none, none])]
def ms_68 : mj_S := [.inl (6, [some 1, some 2, some 4, some 13, some 22, some 23, some 24, some 26, none, none]), .inr (4, 8, [some 28, some 30, some 32, some 34, some 36, some 38, some 40, none]), .inl (4, [some 3, none, none, none, none, none, none]), .inr (0, 120, []), .inl (2, [none, none, none, none, none, none, none, none, some 5, some 6, some 7, none, none]), .inr (0, 12, []), .inr (0, 32, []), .inr (2, 5, [some 8, some 9, some 10, some 11, some 12]), .inl (1, [none, none, none, none, none, none, none]), .inl (1, [none, none, none, none, none, none, none]), .inl (1, [none, none, none, none, none, none, none]), .inl (1, [none, none, none, none, none, none, none]), .inl (1, [none, none, none, none, none, none, none]), .inl (2, [none, none, none, none, none, none, none, none, some 14, some 15, some 16, none, none]), .inr (0, 12, []), .inr (0, 32, []), .inr (2, 5, [some 17, some 18, some 19, some 20, some 21]), .inl (1, [none, none, none, none, none, none, none]), .inl (1, [none, none, none, none, none, none, none]), .inl (1, [none, none, none, none, none, none, none]), .inl (1, [none, none, none, none, none, none, none]), .inl (1, [none, none, none, none, none, none, none]), .inl (1, [none, none, none, none, none, none, none]), .inr (3, 2, [none, none]), .inl (0, [some 25, none, none]), .inr (0, 192, []), .inl (5, [some 27, none]), .inr (0, 16, []), .inl (3, [none, none, none, some 29]), .inr (0, 40, []), .inl (3, [none, none, none, some 31]), .inr (0, 40, []), .inl (3, [none, none, none, some 33]), .inr (0, 40, []), .inl (3, [none, none, none, some 35]), .inr (0, 40, []), .inl (3, [none, none, none, some 37]), .inr (0, 40, []), .inl (3, [none, none, none, some 39]), .inr (0, 40, []), .inl (3, [none, none, none, some 41]), .inr (0, 40, []), .inl (3, [none, none, none, some 43]), .inr (0, 40, [])]
def ms_69 : mj_S := [.inl (6, [some 1, some 2, some 4, some 13, some 22, some 23, some 24, some 26, none, none]), .inr (4, 8, [some 28, some 30, some 32, some 34, some 36, some 38, some 40, some 42]), .inl (4, [some 3, none, none, none, none, none, none]), .inr (0, 120, []), .inl (2, [none, none, none, none, none, none, none, none, some 5, some 6, some 7, none, none]), .inr (0, 12, []), .inr (0, 32, []), .inr (2, 5, [some 8, some 9, some 10, some 11, some 12]), .inl (1, [none, none, none, none, none, none, none]), .inl (1, [none, none, none, none, none, none, none]), .inl (1, [none, none, none, none, none, none, none]), .inl (1, [none, none, none, none, none, none, none]), .inl (1, [none, none, none, none, none, none, none]), .inl (2, [none, none, none, none, none, none, none, none, some 14, some 15, some 16, none, none]), .inr (0, 12, []), .inr (0, 32, []), .inr (2, 5, [some 17, some 18, some 19, some 20, some 21]), .inl (1, [none, none, none, none, none, none, none]), .inl (1, [none, none, none, none, none, none, none]), .inl (1, [none, none, none, none, none, none, none]), .inl (1, [none, none, none, none, none, none, none]), .inl (1, [none, none, none, none, none, none, none]), .inl (1, [none, none, none, none, none, none, none]), .inr (3, 2, [none, none]), .inl (0, [some 25, none, none]), .inr (0, 192, []), .inl (5, [some 27, none]), .inr (0, 16, []), .inl (3, [none, none, none, some 29]), .inr (0, 40, []), .inl (3, [none, none, none, some 31]), .inr (0, 40, []), .inl (3, [none, none, none, some 33]), .inr (0, 40, []), .inl (3, [none, none, none, some 35]), .inr (0, 40, []), .inl (3, [none, none, none, some 37]), .inr (0, 40, []), .inl (3, [none, none, none, some 39]), .inr (0, 40, []), .inl (3, [none, none, none, some 41]), .inr (0, 40, []), .inl (3, [none, none, none, some 43]), .inr (0, 40, [])]
def ms_70 : mj_S := [.inl (6, [some 1, some 2, some 4, some 13, some 22, some 23, some 24, some 26, none, none]), .inr (4, 8, [some 28, some 30, some 32, some 34, some 36, some 38, some 40, some 42]), .inl (4, [some 3, none, none, none, none, none, none]), .inr (0, 120, []), .inl (2, [none, none, none, none, none, none, none, none, some 5, some 6, some 7, none, none]), .inr (0, 12, []), .inr (0, 32, []), .inr (2, 5, [some 8, some 9, some 10, some 11, some 12]), .inl (1, [none, none, none, none, none, none, none]), .inl (1, [none, none, none, none, none, none, none]), .inl (1, [none, none, none, none, none, none, none]), .inl (1, [none, none, none, none, none, none, none]), .inl (1, [none, none, none, none, none, none, none]), .inl (2, [none, none, none, none, none, none, none, none, some 14, some 15, some 16, none, none]), .inr (0, 12, []), .inr (0, 32, []), .inr (2, 5, [some 17, some 18, some 19, some 20, some 21]), .inl (1, [none, none, none, none, none, none, none]), .inl (1, [none, none, none, none, none, none, none]), .inl (1, [none, none, none, none, none, none, none]), .inl (1, [none, none, none, none, none, none, none]), .inl (1, [none, none, none, none, none, none, none]), .inl (1, [none, none, none, none, none, none, none]), .inr (3, 2, [none, none]), .inl (0, [some 25, none, none]), .inr (0, 192, []), .inl (5, [some 27, none]), .inr (0, 16, []), .inl (3, [none, none, none, some 29]), .inr (0, 40, []), .inl (3, [none, none, none, some 31]), .inr (0, 40, []), .inl (3, [none, none, none, some 33]), .inr (0, 40, []), .inl (3, [none, none, none, some 35]), .inr (0, 40, []), .inl (3, [none, none, none, some 37]), .inr (0, 40, []), .inl (3, [none, none, none, some 39]), .inr (0, 40, []), .inl (3, [none, none, none, some 41]), .inr (0, 40, []), .inl (3, [none, none, none, some 43]), .inr (0, 40, []), .inl (2, [none, none, none, none, none, none, none, none, none, none, none, none, none])]
def ms_71 : mj_S := [.inl (6, [some 1, some 2, some 4, some 13, some 22, some 23, some 24, some 26, none, none]), .inr (4, 8, [some 28, some 30, some 32, some 34, some 36, some 38, some 40, some 42]), .inl (4, [some 3, none, none, none, none, none, none]), .inr (0, 120, []), .inl (2, [none, none, none, none, none, none, none, none, some 5, some 6, some 7, none, none]), .inr (0, 12, []), .inr (0, 32, []), .inr (2, 5, [some 8, some 9, some 10, some 11, some 12]), .inl (1, [none, none, none, none, none, none, none]), .inl (1, [none, none, none, none, none, none, none]), .inl (1, [none, none, none, none, none, none, none]), .inl (1, [none, none, none, none, none, none, none]), .inl (1, [none, none, none, none, none, none, none]), .inl (2, [none, none, none, none, none, none, none, none, some 14, some 15, some 16, none, none]), .inr (0, 12, []), .inr (0, 32, []), .inr (2, 5, [some 17, some 18, some 19, some 20, some 21]), .inl (1, [none, none, none, none, none, none, none]), .inl (1, [none, none, none, none, none, none, none]), .inl (1, [none, none, none, none, none, none, none]), .inl (1, [none, none, none, none, none, none, none]), .inl (1, [none, none, none, none, none, none, none]), .inl (1, [none, none, none, none, none, none, none]), .inr (3, 2, [none, none]), .inl (0, [some 25, none, none]), .inr (0, 192, []), .inl (5, [some 27, none]), .inr (0, 16, []), .inl (3, [none, none, none, some 29]), .inr (0, 40, []), .inl (3, [none, none, none, some 31]), .inr (0, 40, []), .inl (3, [none, none, none, some 33]), .inr (0, 40, []), .inl (3, [none, none, none, some 35]), .inr (0, 40, []), .inl (3, [none, none, none, some 37]), .inr (0, 40, []), .inl (3, [none, none, none, some 39]), .inr (0, 40, []), .inl (3, [none, none, none, some 41]), .inr (0, 40, []), .inl (3, [none, none, none, some 43]), .inr (0, 40, []), .inl (2, [none, none, none, none, none, none, none, none, some 45, some 46, some 47, none, none]), .inr (0, 12, []), .inr (0, 32, []), .inr (2, 5, [some 48, some 49, some 50, some 51, some 52]), .inl (1, [none, none, none, none, none, none, none]), .inl (1, [none, none, none, none, none, none, none]), .inl (1, [none, none, none, none, none, none, none]), .inl (1, [none, none, none, none, none, none, none]), .inl (1, [none, none, none, none, none, none, none])]
def ms_72 : mj_S := [.inl (6, [some 1, some 2, some 4, some 13, some 22, some 23, some 24, some 26, none, none]), .inr (4, 8, [some 28, some 30, some 32, some 34, some 36, some 38, some 40, some 42]), .inl (4, [some 3, none, none, none, none, none, none]), .inr (0, 120, []), .inl (2, [none, none, none, none, none, none, none, none, some 5, some 6, some 7, none, none]), .inr (0, 12, []), .inr (0, 32, []), .inr (2, 5, [some 8, some 9, some 10, some 11, some 12]), .inl (1, [none, none, none, none, none, none, none]), .inl (1, [none, none, none, none, none, none, none]), .inl (1, [none, none, none, none, none, none, none]), .inl (1, [none, none, none, none, none, none, none]), .inl (1, [none, none, none, none, none, none, none]), .inl (2, [none, none, none, none, none, none, none, none, some 14, some 15, some 16, none, none]), .inr (0, 12, []), .inr (0, 32, []), .inr (2, 5, [some 17, some 18, some 19, some 20, some 21]), .inl (1, [none, none, none, none, none, none, none]), .inl (1, [none, none, none, none, none, none, none]), .inl (1, [none, none, none, none, none, none, none]), .inl (1, [none, none, none, none, none, none, none]), .inl (1, [none, none, none, none, none, none, none]), .inl (1, [none, none, none, none, none, none, none]), .inr (3, 2, [some 44, none]), .inl (0, [some 25, none, none]), .inr (0, 192, []), .inl (5, [some 27, none]), .inr (0, 16, []), .inl (3, [none, none, none, some 29]), .inr (0, 40, []), .inl (3, [none, none, none, some 31]), .inr (0, 40, []), .inl (3, [none, none, none, some 33]), .inr (0, 40, []), .inl (3, [none, none, none, some 35]), .inr (0, 40, []), .inl (3, [none, none, none, some 37]), .inr (0, 40, []), .inl (3, [none, none, none, some 39]), .inr (0, 40, []), .inl (3, [none, none, none, some 41]), .inr (0, 40, []), .inl (3, [none, none, none, some 43]), .inr (0, 40, []), .inl (2, [none, none, none, none, none, none, none, none, some 45, some 46, some 47, none, none]), .inr (0, 12, []), .inr (0, 32, []), .inr (2, 5, [some 48, some 49, some 50, some 51, some 52]), .inl (1, [none, none, none, none, none, none, none]), .inl (1, [none, none, none, none, none, none, none]), .inl (1, [none, none, none, none, none, none, none]), .inl (1, [none, none, none, none, none, none, none]), .inl (1, [none, none, none, none, none, none, none])]
def ms_73 : mj_S := [.inl (6, [some 1, some 2, some 4, some 13, some 22, some 23, some 24, some 26, none, none]), .inr (4, 8, [some 28, some 30, some 32, some 34, some 36, some 38, some 40, some 42]), .inl (4, [some 3, none, none, none, none, none, none]), .inr (0, 120, []), .inl (2, [none, none, none, none, none, none, none, none, some 5, some 6, some 7, none, none]), .inr (0, 12, []), .inr (0, 32, []), .inr (2, 5, [some 8, some 9, some 10, some 11, some 12]), .inl (1, [none, none, none, none, none, none, none]), .inl (1, [none, none, none, none, none, none, none]), .inl (1, [none, none, none, none, none, none, none]), .inl (1, [none, none, none, none, none, none, none]), .inl (1, [none, none, none, none, none, none, none]), .inl (2, [none, none, none, none, none, none, none, none, some 14, some 15, some 16, none, none]), .inr (0, 12, []), .inr (0, 32, []), .inr (2, 5, [some 17, some 18, some 19, some 20, some 21]), .inl (1, [none, none, none, none, none, none, none]), .inl (1, [none, none, none, none, none, none, none]), .inl (1, [none, none, none, none, none, none, none]), .inl (1, [none, none, none, none, none, none, none]), .inl (1, [none, none, none, none, none, none, none]), .inl (1, [none, none, none, none, none, none, none]), .inr (3, 2, [some 44, none]), .inl (0, [some 25, none, none]), .inr (0, 192, []), .inl (5, [some 27, none]), .inr (0, 16, []), .inl (3, [none, none, none, some 29]), .inr (0, 40, []), .inl (3, [none, none, none, some 31]), .inr (0, 40, []), .inl (3, [none, none, none, some 33]), .inr (0, 40, []), .inl (3, [none, none, none, some 35]), .inr (0, 40, []), .inl (3, [none, none, none, some 37]), .inr (0, 40, []), .inl (3, [none, none, none, some 39]), .inr (0, 40, []), .inl (3, [none, none, none, some 41]), .inr (0, 40, []), .inl (3, [none, none, none, some 43]), .inr (0, 40, []), .inl (2, [none, none, none, none, none, none, none, none, some 45, some 46, some 47, none, none]), .inr (0, 12, []), .inr (0, 32, []), .inr (2, 5, [some 48, some 49, some 50, some 51, some 52]), .inl (1, [none, none, none, none, none, none, none]), .inl (1, [none, none, none, none, none, none, none]), .inl (1, [none, none, none, none, none, none, none]), .inl (1, [none, none, none, none, none, none, none]), .inl (1, [none, none, none, none, none, none, none]), .inl (2, [none, none, none, none, none, none, none, none, none, none, none, none, none])]
def ms_74 : mj_S := [.inl (6, [some 1, some 2, some 4, some 13, some 22, some 23, some 24, some 26, none, none]), .inr (4, 8, [some 28, some 30, some 32, some 34, some 36, some 38, some 40, some 42]), .inl (4, [some 3, none, none, none, none, none, none]), .inr (0, 120, []), .inl (2, [none, none, none, none, none, none, none, none, some 5, some 6, some 7, none, none]), .inr (0, 12, []), .inr (0, 32, []), .inr (2, 5, [some 8, some 9, some 10, some 11, some 12]), .inl (1, [none, none, none, none, none, none, none]), .inl (1, [none, none, none, none, none, none, none]), .inl (1, [none, none, none, none, none, none, none]), .inl (1, [none, none, none, none, none, none, none]), .inl (1, [none, none, none, none, none, none, none]), .inl (2, [none, none, none, none, none, none, none, none, some 14, some 15, some 16, none, none]), .inr (0, 12, []), .inr (0, 32, []), .inr (2, 5, [some 17, some 18, some 19, some 20, some 21]), .inl (1, [none, none, none, none, none, none, none]), .inl (1, [none, none, none, none, none, none, none]), .inl (1, [none, none, none, none, none, none, none]), .inl (1, [none, none, none, none, none, none, none]), .inl (1, [none, none, none, none, none, none, none]), .inl (1, [none, none, none, none, none, none, none]), .inr (3, 2, [some 44, none]), .inl (0, [some 25, none, none]), .inr (0, 192, []), .inl (5, [some 27, none]), .inr (0, 16, []), .inl (3, [none, none, none, some 29]), .inr (0, 40, []), .inl (3, [none, none, none, some 31]), .inr (0, 40, []), .inl (3, [none, none, none, some 33]), .inr (0, 40, []), .inl (3, [none, none, none, some 35]), .inr (0, 40, []), .inl (3, [none, none, none, some 37]), .inr (0, 40, []), .inl (3, [none, none, none, some 39]), .inr (0, 40, []), .inl (3, [none, none, none, some 41]), .inr (0, 40, []), .inl (3, [none, none, none, some 43]), .inr (0, 40, []), .inl (2, [none, none, none, none, none, none, none, none, some 45, some 46, some 47, none, none]), .inr (0, 12, []), .inr (0, 32, []), .inr (2, 5, [some 48, some 49, some 50, some 51, some 52]), .inl (1, [none, none, none, none, none, none, none]), .inl (1, [none, none, none, none, none, none, none]), .inl (1, [none, none, none, none, none, none, none]), .inl (1, [none, none, none, none, none, none, none]), .inl (1, [none, none, none, none, none, none, none]), .inl (2, [none, none, none, none, none, none, none, none, some 54, some 55, some 56, none, none]), .inr (0, 12, []), .inr (0, 32, []), .inr (2, 5, [some 57, some 58, some 59, some 60, some 61]), .inl (1, [none, none, none, none, none, none, none]), .inl (1, [none, none, none, none, none, none, none]), .inl (1, [none, none, none, none, none, none, none]), .inl (1, [none, none, none, none, none, none, none]), .inl (1, [none, none, none, none, none, none, none])]
def ms_75 : mj_S := [.inl (6, [some 1, some 2, some 4, some 13, some 22, some 23, some 24, some 26, none, none]), .inr (4, 8, [some 28, some 30, some 32, some 34, some 36, some 38, some 40, some 42]), .inl (4, [some 3, none, none, none, none, none, none]), .inr (0, 120, []), .inl (2, [none, none, none, none, none, none, none, none, some 5, some 6, some 7, none, none]), .inr (0, 12, []), .inr (0, 32, []), .inr (2, 5, [some 8, some 9, some 10, some 11, some 12]), .inl (1, [none, none, none, none, none, none, none]), .inl (1, [none, none, none, none, none, none, none]), .inl (1, [none, none, none, none, none, none, none]), .inl (1, [none, none, none, none, none, none, none]), .inl (1, [none, none, none, none, none, none, none]), .inl (2, [none, none, none, none, none, none, none, none, some 14, some 15, some 16, none, none]), .inr (0, 12, []), .inr (0, 32, []), .inr (2, 5, [some 17, some 18, some 19, some 20, some 21]), .inl (1, [none, none, none, none, none, none, none]), .inl (1, [none, none, none, none, none, none, none]), .inl (1, [none, none, none, none, none, none, none]), .inl (1, [none, none, none, none, none, none, none]), .inl (1, [none, none, none, none, none, none, none]), .inl (1, [none, none, none, none, none, none, none]), .inr (3, 2, [some 44, some 53]), .inl (0, [some 25, none, none]), .inr (0, 192, []), .inl (5, [some 27, none]), .inr (0, 16, []), .inl (3, [none, none, none, some 29]), .inr (0, 40, []), .inl (3, [none, none, none, some 31]), .inr (0, 40, []), .inl (3, [none, none, none, some 33]), .inr (0, 40, []), .inl (3, [none, none, none, some 35]), .inr (0, 40, []), .inl (3, [none, none, none, some 37]), .inr (0, 40, []), .inl (3, [none, none, none, some 39]), .inr (0, 40, []), .inl (3, [none, none, none, some 41]), .inr (0, 40, []), .inl (3, [none, none, none, some 43]), .inr (0, 40, []), .inl (2, [none, none, none, none, none, none, none, none, some 45, some 46, some 47, none, none]), .inr (0, 12, []), .inr (0, 32, []), .inr (2, 5, [some 48, some 49, some 50, some 51, some 52]), .inl (1, [none, none, none, none, none, none, none]), .inl (1, [none, none, none, none, none, none, none]), .inl (1, [none, none, none, none, none, none, none]), .inl (1, [none, none, none, none, none, none, none]), .inl (1, [none, none, none, none, none, none, none]), .inl (2, [none, none, none, none, none, none, none, none, some 54, some 55, some 56, none, none]), .inr (0, 12, []), .inr (0, 32, []), .inr (2, 5, [some 57, some 58, some 59, some 60, some 61]), .inl (1, [none, none, none, none, none, none, none]), .inl (1, [none, none, none, none, none, none, none]), .inl (1, [none, none, none, none, none, none, none]), .inl (1, [none, none, none, none, none, none, none]), .inl (1, [none, none, none, none, none, none, none])]
def jX6_init : mj_J := (yX6_init, cX6_init, 2, none, 3, 61, 1097)
theorem kaX6_init : mj_KA jX6_init := ⟨mj_gw_in 16 (by decide +kernel) (by decide +kernel), mw_ini_RX6, ⟨by decide +kernel, by decide +kernel, by decide +kernel⟩, by decide, mj_gw_in 15 (by decide +kernel) (by decide +kernel), rfl, rfl⟩
theorem raX6_init : mj_SpA jX6_init 6 10 mx_S mx_f0 := by
  refine mj_spA 1 (by decide +kernel) rfl rfl (by decide) ?_
  show mj_EvA jX6_init 0 [some (.ref 0), none] [] [.inl (6, [none, none, none, none, none, none, none, none, none, none])] mj_z (0, 0) mx_S mx_f0
  refine ea_aload_n (q := 1) rfl dX6_init_0 rfl ?_
  refine ea_obj (q := 4) mw_o_RX6_3 (by decide) (Nat.le_of_ble_eq_true rfl) dX6_init_1 rfl ?_
  refine ea_aload_n (q := 5) rfl dX6_init_4 rfl ?_
  refine ea_bipush (v := 8) (q := 7) mcb_8 dX6_init_5 rfl ?_
  refine ea_newq4 (N := 8) (n := 1) (S1 := ms_25) (cs' := (1, 8)) (q := 10) mw_cl_RX6_9 (by decide) (by decide) (by decide) rfl (by decide) rfl rfl rfl rfl (by decide) (by decide) rfl dX6_init_7 rfl ?_
  refine ea_putfR (q := 13) (S1 := ms_26) mw_r_RX6_11 rfl (by decide) rfl dX6_init_10 rfl ?_
  refine ea_aload_n (q := 14) rfl dX6_init_13 rfl ?_
  refine ea_new (n := 2) (S1 := ms_27) (cs' := (2, 15)) (q := 17) mw_ln_RX6_15 rfl (by decide) rfl rfl rfl (fun _ => rfl) rfl (by decide) (by decide) rfl dX6_init_14 rfl ?_
  refine ea_dup (q := 18) rfl dX6_init_17 rfl ?_
  refine ea_initN (K := jX4_init) (n := 2) (S0 := ms_26) (S1 := ms_28) (f1 := mx_f0) (cs' := (3, 135)) (q := 21) mw_n_RX6_17 kaX4_init raX4_init rfl rfl (by decide) rfl rfl rfl (fun _ => rfl) mx_f0_t rfl rfl (by decide) (by decide) (by decide) (Nat.le_of_ble_eq_true rfl) dX6_init_18 rfl ?_
  refine ea_putfR (q := 24) (S1 := ms_29) mw_r_RX6_18 rfl (by decide) rfl dX6_init_21 rfl ?_
  refine ea_aload_n (q := 25) rfl dX6_init_24 rfl ?_
  refine ea_new (n := 4) (S1 := ms_30) (cs' := (4, 148)) (q := 28) mw_ln_RX6_22 rfl (by decide) rfl rfl rfl (fun k => mx_f0_z (by decide) k) rfl (by decide) (by decide) rfl dX6_init_25 rfl ?_
  refine ea_dup (q := 29) rfl dX6_init_28 rfl ?_
  refine ea_init (K := jX2_init) (n := 4) (S0 := ms_29) (S1 := ms_31) (f1 := mx_f0) (cs' := (12, 232)) (q := 32) mw_m_RX6_24 kaX2_init raX2_init rfl rfl (by decide) rfl rfl rfl (fun k => mx_f0_z (by decide) k) (mx_f0_k (by decide)) rfl rfl (by decide) (by decide) (by decide) (Nat.le_of_ble_eq_true rfl) dX6_init_29 rfl ?_
  refine ea_putfR (q := 35) (S1 := ms_32) mw_r_RX6_25 rfl (by decide) rfl dX6_init_32 rfl ?_
  refine ea_aload_n (q := 36) rfl dX6_init_35 rfl ?_
  refine ea_new (n := 13) (S1 := ms_33) (cs' := (13, 245)) (q := 39) mw_ln_RX6_22 rfl (by decide) rfl rfl rfl (fun k => mx_f0_z (by decide) k) rfl (by decide) (by decide) rfl dX6_init_36 rfl ?_
  refine ea_dup (q := 40) rfl dX6_init_39 rfl ?_
  refine ea_init (K := jX2_init) (n := 13) (S0 := ms_32) (S1 := ms_34) (f1 := mx_f0) (cs' := (21, 329)) (q := 43) mw_m_RX6_24 kaX2_init raX2_init rfl rfl (by decide) rfl rfl rfl (fun k => mx_f0_z (by decide) k) (mx_f0_k (by decide)) rfl rfl (by decide) (by decide) (by decide) (Nat.le_of_ble_eq_true rfl) dX6_init_40 rfl ?_
  refine ea_putfR (q := 46) (S1 := ms_35) mw_r_RX6_29 rfl (by decide) rfl dX6_init_43 rfl ?_
  refine ea_aload_n (q := 47) rfl dX6_init_46 rfl ?_
  refine ea_new (n := 22) (S1 := ms_36) (cs' := (22, 336)) (q := 50) mw_ln_RX6_32 rfl (by decide) rfl rfl rfl (fun k => mx_f0_z (by decide) k) rfl (by decide) (by decide) rfl dX6_init_47 rfl ?_
  refine ea_dup (q := 51) rfl dX6_init_50 rfl ?_
  refine ea_initN (K := jX1_init) (n := 22) (S0 := ms_35) (S1 := ms_36) (f1 := mx_f0) (cs' := (22, 336)) (q := 54) mw_n_RX6_34 kaX1_init raX1_init rfl rfl (by decide) rfl rfl rfl (fun k => mx_f0_z (by decide) k) (mx_f0_k (by decide)) rfl rfl (by decide) (by decide) (by decide) (Nat.le_of_ble_eq_true rfl) dX6_init_51 rfl ?_
  refine ea_putfR (q := 57) (S1 := ms_37) mw_r_RX6_35 rfl (by decide) rfl dX6_init_54 rfl ?_
  refine ea_aload_n (q := 58) rfl dX6_init_57 rfl ?_
  refine ea_iconst (v := 2) (q := 59) mci_2 dX6_init_58 rfl ?_
  refine ea_newq3 (N := 2) (n := 23) (S1 := ms_38) (cs' := (23, 338)) (q := 62) mw_cl_RX6_22 (by decide) (by decide) (by decide) rfl (by decide) rfl rfl rfl rfl (by decide) (by decide) rfl dX6_init_59 rfl ?_
  refine ea_putfR (q := 65) (S1 := ms_39) mw_r_RX6_39 rfl (by decide) rfl dX6_init_62 rfl ?_
  refine ea_aload_n (q := 66) rfl dX6_init_65 rfl ?_
  refine ea_new (n := 24) (S1 := ms_40) (cs' := (24, 341)) (q := 69) mw_ln_RX6_43 rfl (by decide) rfl rfl rfl (fun k => mx_f0_z (by decide) k) rfl (by decide) (by decide) rfl dX6_init_66 rfl ?_
  refine ea_dup (q := 70) rfl dX6_init_69 rfl ?_
  refine ea_initN (K := jX0_init) (n := 24) (S0 := ms_39) (S1 := ms_41) (f1 := mx_f0) (cs' := (25, 533)) (q := 73) mw_n_RX6_45 kaX0_init raX0_init rfl rfl (by decide) rfl rfl rfl (fun k => mx_f0_z (by decide) k) (mx_f0_k (by decide)) rfl rfl (by decide) (by decide) (by decide) (Nat.le_of_ble_eq_true rfl) dX6_init_70 rfl ?_
  refine ea_putfR (q := 76) (S1 := ms_42) mw_r_RX6_46 rfl (by decide) rfl dX6_init_73 rfl ?_
  refine ea_aload_n (q := 77) rfl dX6_init_76 rfl ?_
  refine ea_new (n := 26) (S1 := ms_43) (cs' := (26, 535)) (q := 80) mw_ln_RX6_50 rfl (by decide) rfl rfl rfl (fun k => mx_f0_z (by decide) k) rfl (by decide) (by decide) rfl dX6_init_77 rfl ?_
  refine ea_dup (q := 81) rfl dX6_init_80 rfl ?_
  refine ea_initN (K := jX5_init) (n := 26) (S0 := ms_42) (S1 := ms_44) (f1 := mx_f0) (cs' := (27, 551)) (q := 84) mw_n_RX6_52 kaX5_init raX5_init rfl rfl (by decide) rfl rfl rfl (fun k => mx_f0_z (by decide) k) (mx_f0_k (by decide)) rfl rfl (by decide) (by decide) (by decide) (Nat.le_of_ble_eq_true rfl) dX6_init_81 rfl ?_
  refine ea_putfR (q := 87) (S1 := ms_45) mw_r_RX6_53 rfl (by decide) rfl dX6_init_84 rfl ?_
  refine ea_aload_n (q := 88) rfl dX6_init_87 rfl ?_
  refine ea_iconst (v := 0) (q := 89) mci_0 dX6_init_88 rfl ?_
  refine ea_putfI (q := 92) (f1 := mx_f0) mw_f_RX6_57 rfl (mj_wr_same (mx_f0_z (by decide) _)) dX6_init_89 rfl ?_
  refine ea_aload_n (q := 93) rfl dX6_init_92 rfl ?_
  refine ea_iconst (v := 0) (q := 94) mci_0 dX6_init_93 rfl ?_
  refine ea_putfI (q := 97) (f1 := mx_f0) mw_f_RX6_61 rfl (mj_wr_same (mx_f0_z (by decide) _)) dX6_init_94 rfl ?_
  refine ea_iconst (v := 0) (q := 98) mci_0 dX6_init_97 rfl ?_
  refine ea_istore_n (q := 99) (loc' := [some (.ref _), some (.int _)]) (by decide) rfl dX6_init_98 rfl ?_
  refine ea_iload_n (q := 100) rfl dX6_init_99 rfl ?_
  refine ea_bipush (v := 8) (q := 102) mcb_8 dX6_init_100 rfl ?_
  refine ea_icmp_geN (t := 124) (q := 105) (by decide) rfl dX6_init_102 rfl ?_
  refine ea_aload_n (q := 106) rfl dX6_init_105 rfl ?_
  refine ea_getfR (q := 109) mw_f_RX6_11 rfl rfl dX6_init_106 rfl ?_
  refine ea_iload_n (q := 110) rfl dX6_init_109 rfl ?_
  refine ea_new (n := 28) (S1 := ms_46) (cs' := (28, 555)) (q := 113) mw_ln_RX6_9 rfl (by decide) rfl rfl rfl (fun k => mx_f0_z (by decide) k) rfl (by decide) (by decide) rfl dX6_init_110 rfl ?_
  refine ea_dup (q := 114) rfl dX6_init_113 rfl ?_
  refine ea_initN (K := jX3_init) (n := 28) (S0 := ms_45) (S1 := ms_47) (f1 := mx_f0) (cs' := (29, 595)) (q := 117) mw_n_RX6_64 kaX3_init raX3_init rfl rfl (by decide) rfl rfl rfl (fun k => mx_f0_z (by decide) k) (mx_f0_k (by decide)) rfl rfl (by decide) (by decide) (by decide) (Nat.le_of_ble_eq_true rfl) dX6_init_114 rfl ?_
  refine ea_aast4 (k := 0) (S1 := ms_48) (q := 118) rfl rfl (by decide) mcx_0 (by decide) rfl dX6_init_117 rfl ?_
  refine ea_iinc (v := 1) (q := 121) (loc' := [some (.ref _), some (.int _)]) rfl (by decide) (by decide) rfl dX6_init_118 rfl ?_
  refine ea_goto (q := 99) dX6_init_121 rfl ?_
  refine ea_iload_n (q := 100) rfl dX6_init_99 rfl ?_
  refine ea_bipush (v := 8) (q := 102) mcb_8 dX6_init_100 rfl ?_
  refine ea_icmp_geN (t := 124) (q := 105) (by decide) rfl dX6_init_102 rfl ?_
  refine ea_aload_n (q := 106) rfl dX6_init_105 rfl ?_
  refine ea_getfR (q := 109) mw_f_RX6_11 rfl rfl dX6_init_106 rfl ?_
  refine ea_iload_n (q := 110) rfl dX6_init_109 rfl ?_
  refine ea_new (n := 30) (S1 := ms_49) (cs' := (30, 599)) (q := 113) mw_ln_RX6_9 rfl (by decide) rfl rfl rfl (fun k => mx_f0_z (by decide) k) rfl (by decide) (by decide) rfl dX6_init_110 rfl ?_
  refine ea_dup (q := 114) rfl dX6_init_113 rfl ?_
  refine ea_initN (K := jX3_init) (n := 30) (S0 := ms_48) (S1 := ms_50) (f1 := mx_f0) (cs' := (31, 639)) (q := 117) mw_n_RX6_64 kaX3_init raX3_init rfl rfl (by decide) rfl rfl rfl (fun k => mx_f0_z (by decide) k) (mx_f0_k (by decide)) rfl rfl (by decide) (by decide) (by decide) (Nat.le_of_ble_eq_true rfl) dX6_init_114 rfl ?_
  refine ea_aast4 (k := 1) (S1 := ms_51) (q := 118) rfl rfl (by decide) mcx_1 (by decide) rfl dX6_init_117 rfl ?_
  refine ea_iinc (v := 2) (q := 121) (loc' := [some (.ref _), some (.int _)]) rfl (by decide) (by decide) rfl dX6_init_118 rfl ?_
  refine ea_goto (q := 99) dX6_init_121 rfl ?_
  refine ea_iload_n (q := 100) rfl dX6_init_99 rfl ?_
  refine ea_bipush (v := 8) (q := 102) mcb_8 dX6_init_100 rfl ?_
  refine ea_icmp_geN (t := 124) (q := 105) (by decide) rfl dX6_init_102 rfl ?_
  refine ea_aload_n (q := 106) rfl dX6_init_105 rfl ?_
  refine ea_getfR (q := 109) mw_f_RX6_11 rfl rfl dX6_init_106 rfl ?_
  refine ea_iload_n (q := 110) rfl dX6_init_109 rfl ?_
  refine ea_new (n := 32) (S1 := ms_52) (cs' := (32, 643)) (q := 113) mw_ln_RX6_9 rfl (by decide) rfl rfl rfl (fun k => mx_f0_z (by decide) k) rfl (by decide) (by decide) rfl dX6_init_110 rfl ?_
  refine ea_dup (q := 114) rfl dX6_init_113 rfl ?_
  refine ea_initN (K := jX3_init) (n := 32) (S0 := ms_51) (S1 := ms_53) (f1 := mx_f0) (cs' := (33, 683)) (q := 117) mw_n_RX6_64 kaX3_init raX3_init rfl rfl (by decide) rfl rfl rfl (fun k => mx_f0_z (by decide) k) (mx_f0_k (by decide)) rfl rfl (by decide) (by decide) (by decide) (Nat.le_of_ble_eq_true rfl) dX6_init_114 rfl ?_
  refine ea_aast4 (k := 2) (S1 := ms_54) (q := 118) rfl rfl (by decide) mcx_2 (by decide) rfl dX6_init_117 rfl ?_
  refine ea_iinc (v := 3) (q := 121) (loc' := [some (.ref _), some (.int _)]) rfl (by decide) (by decide) rfl dX6_init_118 rfl ?_
  refine ea_goto (q := 99) dX6_init_121 rfl ?_
  refine ea_iload_n (q := 100) rfl dX6_init_99 rfl ?_
  refine ea_bipush (v := 8) (q := 102) mcb_8 dX6_init_100 rfl ?_
  refine ea_icmp_geN (t := 124) (q := 105) (by decide) rfl dX6_init_102 rfl ?_
  refine ea_aload_n (q := 106) rfl dX6_init_105 rfl ?_
  refine ea_getfR (q := 109) mw_f_RX6_11 rfl rfl dX6_init_106 rfl ?_
  refine ea_iload_n (q := 110) rfl dX6_init_109 rfl ?_
  refine ea_new (n := 34) (S1 := ms_55) (cs' := (34, 687)) (q := 113) mw_ln_RX6_9 rfl (by decide) rfl rfl rfl (fun k => mx_f0_z (by decide) k) rfl (by decide) (by decide) rfl dX6_init_110 rfl ?_
  refine ea_dup (q := 114) rfl dX6_init_113 rfl ?_
  refine ea_initN (K := jX3_init) (n := 34) (S0 := ms_54) (S1 := ms_56) (f1 := mx_f0) (cs' := (35, 727)) (q := 117) mw_n_RX6_64 kaX3_init raX3_init rfl rfl (by decide) rfl rfl rfl (fun k => mx_f0_z (by decide) k) (mx_f0_k (by decide)) rfl rfl (by decide) (by decide) (by decide) (Nat.le_of_ble_eq_true rfl) dX6_init_114 rfl ?_
  refine ea_aast4 (k := 3) (S1 := ms_57) (q := 118) rfl rfl (by decide) mcx_3 (by decide) rfl dX6_init_117 rfl ?_
  refine ea_iinc (v := 4) (q := 121) (loc' := [some (.ref _), some (.int _)]) rfl (by decide) (by decide) rfl dX6_init_118 rfl ?_
  refine ea_goto (q := 99) dX6_init_121 rfl ?_
  refine ea_iload_n (q := 100) rfl dX6_init_99 rfl ?_
  refine ea_bipush (v := 8) (q := 102) mcb_8 dX6_init_100 rfl ?_
  refine ea_icmp_geN (t := 124) (q := 105) (by decide) rfl dX6_init_102 rfl ?_
  refine ea_aload_n (q := 106) rfl dX6_init_105 rfl ?_
  refine ea_getfR (q := 109) mw_f_RX6_11 rfl rfl dX6_init_106 rfl ?_
  refine ea_iload_n (q := 110) rfl dX6_init_109 rfl ?_
  refine ea_new (n := 36) (S1 := ms_58) (cs' := (36, 731)) (q := 113) mw_ln_RX6_9 rfl (by decide) rfl rfl rfl (fun k => mx_f0_z (by decide) k) rfl (by decide) (by decide) rfl dX6_init_110 rfl ?_
  refine ea_dup (q := 114) rfl dX6_init_113 rfl ?_
  refine ea_initN (K := jX3_init) (n := 36) (S0 := ms_57) (S1 := ms_59) (f1 := mx_f0) (cs' := (37, 771)) (q := 117) mw_n_RX6_64 kaX3_init raX3_init rfl rfl (by decide) rfl rfl rfl (fun k => mx_f0_z (by decide) k) (mx_f0_k (by decide)) rfl rfl (by decide) (by decide) (by decide) (Nat.le_of_ble_eq_true rfl) dX6_init_114 rfl ?_
  refine ea_aast4 (k := 4) (S1 := ms_60) (q := 118) rfl rfl (by decide) mcx_4 (by decide) rfl dX6_init_117 rfl ?_
  refine ea_iinc (v := 5) (q := 121) (loc' := [some (.ref _), some (.int _)]) rfl (by decide) (by decide) rfl dX6_init_118 rfl ?_
  refine ea_goto (q := 99) dX6_init_121 rfl ?_
  refine ea_iload_n (q := 100) rfl dX6_init_99 rfl ?_
  refine ea_bipush (v := 8) (q := 102) mcb_8 dX6_init_100 rfl ?_
  refine ea_icmp_geN (t := 124) (q := 105) (by decide) rfl dX6_init_102 rfl ?_
  refine ea_aload_n (q := 106) rfl dX6_init_105 rfl ?_
  refine ea_getfR (q := 109) mw_f_RX6_11 rfl rfl dX6_init_106 rfl ?_
  refine ea_iload_n (q := 110) rfl dX6_init_109 rfl ?_
  refine ea_new (n := 38) (S1 := ms_61) (cs' := (38, 775)) (q := 113) mw_ln_RX6_9 rfl (by decide) rfl rfl rfl (fun k => mx_f0_z (by decide) k) rfl (by decide) (by decide) rfl dX6_init_110 rfl ?_
  refine ea_dup (q := 114) rfl dX6_init_113 rfl ?_
  refine ea_initN (K := jX3_init) (n := 38) (S0 := ms_60) (S1 := ms_62) (f1 := mx_f0) (cs' := (39, 815)) (q := 117) mw_n_RX6_64 kaX3_init raX3_init rfl rfl (by decide) rfl rfl rfl (fun k => mx_f0_z (by decide) k) (mx_f0_k (by decide)) rfl rfl (by decide) (by decide) (by decide) (Nat.le_of_ble_eq_true rfl) dX6_init_114 rfl ?_
  refine ea_aast4 (k := 5) (S1 := ms_63) (q := 118) rfl rfl (by decide) mcx_5 (by decide) rfl dX6_init_117 rfl ?_
  refine ea_iinc (v := 6) (q := 121) (loc' := [some (.ref _), some (.int _)]) rfl (by decide) (by decide) rfl dX6_init_118 rfl ?_
  refine ea_goto (q := 99) dX6_init_121 rfl ?_
  refine ea_iload_n (q := 100) rfl dX6_init_99 rfl ?_
  refine ea_bipush (v := 8) (q := 102) mcb_8 dX6_init_100 rfl ?_
  refine ea_icmp_geN (t := 124) (q := 105) (by decide) rfl dX6_init_102 rfl ?_
  refine ea_aload_n (q := 106) rfl dX6_init_105 rfl ?_
  refine ea_getfR (q := 109) mw_f_RX6_11 rfl rfl dX6_init_106 rfl ?_
  refine ea_iload_n (q := 110) rfl dX6_init_109 rfl ?_
  refine ea_new (n := 40) (S1 := ms_64) (cs' := (40, 819)) (q := 113) mw_ln_RX6_9 rfl (by decide) rfl rfl rfl (fun k => mx_f0_z (by decide) k) rfl (by decide) (by decide) rfl dX6_init_110 rfl ?_
  refine ea_dup (q := 114) rfl dX6_init_113 rfl ?_
  refine ea_initN (K := jX3_init) (n := 40) (S0 := ms_63) (S1 := ms_65) (f1 := mx_f0) (cs' := (41, 859)) (q := 117) mw_n_RX6_64 kaX3_init raX3_init rfl rfl (by decide) rfl rfl rfl (fun k => mx_f0_z (by decide) k) (mx_f0_k (by decide)) rfl rfl (by decide) (by decide) (by decide) (Nat.le_of_ble_eq_true rfl) dX6_init_114 rfl ?_
  refine ea_aast4 (k := 6) (S1 := ms_66) (q := 118) rfl rfl (by decide) mcx_6 (by decide) rfl dX6_init_117 rfl ?_
  refine ea_iinc (v := 7) (q := 121) (loc' := [some (.ref _), some (.int _)]) rfl (by decide) (by decide) rfl dX6_init_118 rfl ?_
  refine ea_goto (q := 99) dX6_init_121 rfl ?_
  refine ea_iload_n (q := 100) rfl dX6_init_99 rfl ?_
  refine ea_bipush (v := 8) (q := 102) mcb_8 dX6_init_100 rfl ?_
  refine ea_icmp_geN (t := 124) (q := 105) (by decide) rfl dX6_init_102 rfl ?_
  refine ea_aload_n (q := 106) rfl dX6_init_105 rfl ?_
  refine ea_getfR (q := 109) mw_f_RX6_11 rfl rfl dX6_init_106 rfl ?_
  refine ea_iload_n (q := 110) rfl dX6_init_109 rfl ?_
  refine ea_new (n := 42) (S1 := ms_67) (cs' := (42, 863)) (q := 113) mw_ln_RX6_9 rfl (by decide) rfl rfl rfl (fun k => mx_f0_z (by decide) k) rfl (by decide) (by decide) rfl dX6_init_110 rfl ?_
  refine ea_dup (q := 114) rfl dX6_init_113 rfl ?_
  refine ea_initN (K := jX3_init) (n := 42) (S0 := ms_66) (S1 := ms_68) (f1 := mx_f0) (cs' := (43, 903)) (q := 117) mw_n_RX6_64 kaX3_init raX3_init rfl rfl (by decide) rfl rfl rfl (fun k => mx_f0_z (by decide) k) (mx_f0_k (by decide)) rfl rfl (by decide) (by decide) (by decide) (Nat.le_of_ble_eq_true rfl) dX6_init_114 rfl ?_
  refine ea_aast4 (k := 7) (S1 := ms_69) (q := 118) rfl rfl (by decide) mcx_7 (by decide) rfl dX6_init_117 rfl ?_
  refine ea_iinc (v := 8) (q := 121) (loc' := [some (.ref _), some (.int _)]) rfl (by decide) (by decide) rfl dX6_init_118 rfl ?_
  refine ea_goto (q := 99) dX6_init_121 rfl ?_
  refine ea_iload_n (q := 100) rfl dX6_init_99 rfl ?_
  refine ea_bipush (v := 8) (q := 102) mcb_8 dX6_init_100 rfl ?_
  refine ea_icmp_geY (q := 124) (by decide) dX6_init_102 rfl ?_
  refine ea_iconst (v := 0) (q := 125) mci_0 dX6_init_124 rfl ?_
  refine ea_istore_n (q := 126) (loc' := [some (.ref _), some (.int _)]) (by decide) rfl dX6_init_125 rfl ?_
  refine ea_iload_n (q := 127) rfl dX6_init_126 rfl ?_
  refine ea_iconst (v := 2) (q := 128) mci_2 dX6_init_127 rfl ?_
  refine ea_icmp_geN (t := 150) (q := 131) (by decide) rfl dX6_init_128 rfl ?_
  refine ea_aload_n (q := 132) rfl dX6_init_131 rfl ?_
  refine ea_getfR (q := 135) mw_f_RX6_39 rfl rfl dX6_init_132 rfl ?_
  refine ea_iload_n (q := 136) rfl dX6_init_135 rfl ?_
  refine ea_new (n := 44) (S1 := ms_70) (cs' := (44, 916)) (q := 139) mw_ln_RX6_22 rfl (by decide) rfl rfl rfl (fun k => mx_f0_z (by decide) k) rfl (by decide) (by decide) rfl dX6_init_136 rfl ?_
  refine ea_dup (q := 140) rfl dX6_init_139 rfl ?_
  refine ea_init (K := jX2_init) (n := 44) (S0 := ms_69) (S1 := ms_71) (f1 := mx_f0) (cs' := (52, 1000)) (q := 143) mw_m_RX6_24 kaX2_init raX2_init rfl rfl (by decide) rfl rfl rfl (fun k => mx_f0_z (by decide) k) (mx_f0_k (by decide)) rfl rfl (by decide) (by decide) (by decide) (Nat.le_of_ble_eq_true rfl) dX6_init_140 rfl ?_
  refine ea_aast3 (k := 0) (S1 := ms_72) (q := 144) rfl rfl (by decide) mcx_0 (by decide) rfl dX6_init_143 rfl ?_
  refine ea_iinc (v := 1) (q := 147) (loc' := [some (.ref _), some (.int _)]) rfl (by decide) (by decide) rfl dX6_init_144 rfl ?_
  refine ea_goto (q := 126) dX6_init_147 rfl ?_
  refine ea_iload_n (q := 127) rfl dX6_init_126 rfl ?_
  refine ea_iconst (v := 2) (q := 128) mci_2 dX6_init_127 rfl ?_
  refine ea_icmp_geN (t := 150) (q := 131) (by decide) rfl dX6_init_128 rfl ?_
  refine ea_aload_n (q := 132) rfl dX6_init_131 rfl ?_
  refine ea_getfR (q := 135) mw_f_RX6_39 rfl rfl dX6_init_132 rfl ?_
  refine ea_iload_n (q := 136) rfl dX6_init_135 rfl ?_
  refine ea_new (n := 53) (S1 := ms_73) (cs' := (53, 1013)) (q := 139) mw_ln_RX6_22 rfl (by decide) rfl rfl rfl (fun k => mx_f0_z (by decide) k) rfl (by decide) (by decide) rfl dX6_init_136 rfl ?_
  refine ea_dup (q := 140) rfl dX6_init_139 rfl ?_
  refine ea_init (K := jX2_init) (n := 53) (S0 := ms_72) (S1 := ms_74) (f1 := mx_f0) (cs' := (61, 1097)) (q := 143) mw_m_RX6_24 kaX2_init raX2_init rfl rfl (by decide) rfl rfl rfl (fun k => mx_f0_z (by decide) k) (mx_f0_k (by decide)) rfl rfl (by decide) (by decide) (by decide) (Nat.le_of_ble_eq_true rfl) dX6_init_140 rfl ?_
  refine ea_aast3 (k := 1) (S1 := ms_75) (q := 144) rfl rfl (by decide) mcx_1 (by decide) rfl dX6_init_143 rfl ?_
  refine ea_iinc (v := 2) (q := 147) (loc' := [some (.ref _), some (.int _)]) rfl (by decide) (by decide) rfl dX6_init_144 rfl ?_
  refine ea_goto (q := 126) dX6_init_147 rfl ?_
  refine ea_iload_n (q := 127) rfl dX6_init_126 rfl ?_
  refine ea_iconst (v := 2) (q := 128) mci_2 dX6_init_127 rfl ?_
  refine ea_icmp_geY (q := 150) (by decide) dX6_init_128 rfl ?_
  exact ea_ret dX6_init_150 (by decide) (by decide)
def ms_76 : mj_S := [.inl (7, [none, none, none, none, none, none, none, none, none, none, none, none, none, none, none, none, none, none, none, none, none, none, none, none, none, none, none, none, none]), .inr (0, 8, [])]
def ms_77 : mj_S := [.inl (7, [some 1, none, none, none, none, none, none, none, none, none, none, none, none, none, none, none, none, none, none, none, none, none, none, none, none, none, none, none, none]), .inr (0, 8, [])]
def ms_78 : mj_S := [.inl (7, [some 1, none, none, none, none, none, none, none, none, none, none, none, none, none, none, none, none, none, none, none, none, none, none, none, none, none, none, none, none]), .inr (0, 8, []), .inr (0, 8, [])]
def ms_79 : mj_S := [.inl (7, [some 1, some 2, none, none, none, none, none, none, none, none, none, none, none, none, none, none, none, none, none, none, none, none, none, none, none, none, none, none, none]), .inr (0, 8, []), .inr (0, 8, [])]
def ms_80 : mj_S := [.inl (7, [some 1, some 2, none, none, none, none, none, none, none, none, none, none, none, none, none, none, none, none, none, none, none, none, none, none, none, none, none, none, none]), .inr (0, 8, []), .inr (0, 8, []), .inr (0, 320, [])]
def ms_81 : mj_S := [.inl (7, [some 1, some 2, some 3, none, none, none, none, none, none, none, none, none, none, none, none, none, none, none, none, none, none, none, none, none, none, none, none, none, none]), .inr (0, 8, []), .inr (0, 8, []), .inr (0, 320, [])]
def ms_82 : mj_S := [.inl (7, [some 1, some 2, some 3, none, none, none, none, none, none, none, none, none, none, none, none, none, none, none, none, none, none, none, none, none, none, none, none, none, none]), .inr (0, 8, []), .inr (0, 8, []), .inr (0, 320, []), .inr (0, 82, [])]
def ms_83 : mj_S := [.inl (7, [some 1, some 2, some 3, none, none, some 4, none, none, none, none, none, none, none, none, none, none, none, none, none, none, none, none, none, none, none, none, none, none, none]), .inr (0, 8, []), .inr (0, 8, []), .inr (0, 320, []), .inr (0, 82, [])]
def ms_84 : mj_S := [.inl (7, [some 1, some 2, some 3, none, none, some 4, none, none, none, none, none, none, none, none, none, none, none, none, none, none, none, none, none, none, none, none, none, none, none]), .inr (0, 8, []), .inr (0, 8, []), .inr (0, 320, []), .inr (0, 82, []), .inr (0, 40, [])]
def ms_85 : mj_S := [.inl (7, [some 1, some 2, some 3, none, none, some 4, some 5, none, none, none, none, none, none, none, none, none, none, none, none, none, none, none, none, none, none, none, none, none, none]), .inr (0, 8, []), .inr (0, 8, []), .inr (0, 320, []), .inr (0, 82, []), .inr (0, 40, [])]
def ms_86 : mj_S := [.inl (7, [some 1, some 2, some 3, none, none, some 4, some 5, none, none, none, none, none, none, none, none, none, none, none, none, none, none, none, none, none, none, none, none, none, none]), .inr (0, 8, []), .inr (0, 8, []), .inr (0, 320, []), .inr (0, 82, []), .inr (0, 40, []), .inr (0, 120, [])]
def ms_87 : mj_S := [.inl (7, [some 1, some 2, some 3, none, none, some 4, some 5, some 6, none, none, none, none, none, none, none, none, none, none, none, none, none, none, none, none, none, none, none, none, none]), .inr (0, 8, []), .inr (0, 8, []), .inr (0, 320, []), .inr (0, 82, []), .inr (0, 40, []), .inr (0, 120, [])]
def ms_88 : mj_S := [.inl (7, [some 1, some 2, some 3, none, none, some 4, some 5, some 6, none, none, none, none, none, none, none, none, none, none, none, none, none, none, none, none, none, none, none, none, none]), .inr (0, 8, []), .inr (0, 8, []), .inr (0, 320, []), .inr (0, 82, []), .inr (0, 40, []), .inr (0, 120, []), .inr (0, 82, [])]
def ms_89 : mj_S := [.inl (7, [some 1, some 2, some 3, none, none, some 4, some 5, some 6, none, none, none, none, none, none, none, some 7, none, none, none, none, none, none, none, none, none, none, none, none, none]), .inr (0, 8, []), .inr (0, 8, []), .inr (0, 320, []), .inr (0, 82, []), .inr (0, 40, []), .inr (0, 120, []), .inr (0, 82, [])]
def ms_90 : mj_S := [.inl (7, [some 1, some 2, some 3, none, none, some 4, some 5, some 6, none, none, none, none, none, none, none, some 7, none, none, none, none, none, none, none, none, none, none, none, none, none]), .inr (0, 8, []), .inr (0, 8, []), .inr (0, 320, []), .inr (0, 82, []), .inr (0, 40, []), .inr (0, 120, []), .inr (0, 82, []), .inr (0, 1968, [])]
def ms_91 : mj_S := [.inl (7, [some 1, some 2, some 3, none, none, some 4, some 5, some 6, none, none, none, none, none, none, none, some 7, none, some 8, none, none, none, none, none, none, none, none, none, none, none]), .inr (0, 8, []), .inr (0, 8, []), .inr (0, 320, []), .inr (0, 82, []), .inr (0, 40, []), .inr (0, 120, []), .inr (0, 82, []), .inr (0, 1968, [])]
def ms_92 : mj_S := [.inl (7, [some 1, some 2, some 3, none, none, some 4, some 5, some 6, none, none, none, none, none, none, none, some 7, none, some 8, none, none, none, none, none, none, none, none, none, none, none]), .inr (0, 8, []), .inr (0, 8, []), .inr (0, 320, []), .inr (0, 82, []), .inr (0, 40, []), .inr (0, 120, []), .inr (0, 82, []), .inr (0, 1968, []), .inr (0, 82, [])]
def ms_93 : mj_S := [.inl (7, [some 1, some 2, some 3, none, none, some 4, some 5, some 6, none, none, none, none, none, none, none, some 7, none, some 8, none, some 9, none, none, none, none, none, none, none, none, none]), .inr (0, 8, []), .inr (0, 8, []), .inr (0, 320, []), .inr (0, 82, []), .inr (0, 40, []), .inr (0, 120, []), .inr (0, 82, []), .inr (0, 1968, []), .inr (0, 82, [])]
def ms_94 : mj_S := [.inl (7, [some 1, some 2, some 3, none, none, some 4, some 5, some 6, none, none, none, none, none, none, none, some 7, none, some 8, none, some 9, none, none, none, none, none, none, none, none, none]), .inr (0, 8, []), .inr (0, 8, []), .inr (0, 320, []), .inr (0, 82, []), .inr (0, 40, []), .inr (0, 120, []), .inr (0, 82, []), .inr (0, 1968, []), .inr (0, 82, []), .inr (1, 32, [])]
def ms_95 : mj_S := [.inl (7, [some 1, some 2, some 3, none, none, some 4, some 5, some 6, none, none, none, none, none, none, none, some 7, none, some 8, none, some 9, some 10, none, none, none, none, none, none, none, none]), .inr (0, 8, []), .inr (0, 8, []), .inr (0, 320, []), .inr (0, 82, []), .inr (0, 40, []), .inr (0, 120, []), .inr (0, 82, []), .inr (0, 1968, []), .inr (0, 82, []), .inr (1, 32, [])]
def ms_96 : mj_S := [.inl (7, [some 1, some 2, some 3, none, none, some 4, some 5, some 6, none, none, none, none, none, none, none, some 7, none, some 8, none, some 9, some 10, none, none, none, none, none, none, none, none]), .inr (0, 8, []), .inr (0, 8, []), .inr (0, 320, []), .inr (0, 82, []), .inr (0, 40, []), .inr (0, 120, []), .inr (0, 82, []), .inr (0, 1968, []), .inr (0, 82, []), .inr (1, 32, []), .inr (1, 32, [])]
def ms_97 : mj_S := [.inl (7, [some 1, some 2, some 3, none, none, some 4, some 5, some 6, none, none, none, none, none, none, none, some 7, none, some 8, none, some 9, some 10, some 11, none, none, none, none, none, none, none]), .inr (0, 8, []), .inr (0, 8, []), .inr (0, 320, []), .inr (0, 82, []), .inr (0, 40, []), .inr (0, 120, []), .inr (0, 82, []), .inr (0, 1968, []), .inr (0, 82, []), .inr (1, 32, []), .inr (1, 32, [])]
def ms_98 : mj_S := [.inl (7, [some 1, some 2, some 3, none, none, some 4, some 5, some 6, none, none, none, none, none, none, none, some 7, none, some 8, none, some 9, some 10, some 11, none, none, none, none, none, none, none]), .inr (0, 8, []), .inr (0, 8, []), .inr (0, 320, []), .inr (0, 82, []), .inr (0, 40, []), .inr (0, 120, []), .inr (0, 82, []), .inr (0, 1968, []), .inr (0, 82, []), .inr (1, 32, []), .inr (1, 32, []), .inr (1, 2, [])]
def ms_99 : mj_S := [.inl (7, [some 1, some 2, some 3, none, none, some 4, some 5, some 6, none, none, none, none, none, none, none, some 7, none, some 8, none, some 9, some 10, some 11, none, none, none, some 12, none, none, none]), .inr (0, 8, []), .inr (0, 8, []), .inr (0, 320, []), .inr (0, 82, []), .inr (0, 40, []), .inr (0, 120, []), .inr (0, 82, []), .inr (0, 1968, []), .inr (0, 82, []), .inr (1, 32, []), .inr (1, 32, []), .inr (1, 2, [])]
def ms_100 : mj_S := [.inl (7, [some 1, some 2, some 3, none, none, some 4, some 5, some 6, none, none, none, none, none, none, none, some 7, none, some 8, none, some 9, some 10, some 11, none, none, none, some 12, none, none, none]), .inr (0, 8, []), .inr (0, 8, []), .inr (0, 320, []), .inr (0, 82, []), .inr (0, 40, []), .inr (0, 120, []), .inr (0, 82, []), .inr (0, 1968, []), .inr (0, 82, []), .inr (1, 32, []), .inr (1, 32, []), .inr (1, 2, []), .inr (0, 164, [])]
def ms_101 : mj_S := [.inl (7, [some 1, some 2, some 3, none, none, some 4, some 5, some 6, none, none, none, none, none, none, none, some 7, none, some 8, none, some 9, some 10, some 11, none, none, none, some 12, some 13, none, none]), .inr (0, 8, []), .inr (0, 8, []), .inr (0, 320, []), .inr (0, 82, []), .inr (0, 40, []), .inr (0, 120, []), .inr (0, 82, []), .inr (0, 1968, []), .inr (0, 82, []), .inr (1, 32, []), .inr (1, 32, []), .inr (1, 2, []), .inr (0, 164, [])]
def ms_102 : mj_S := [.inl (7, [some 1, some 2, some 3, none, none, some 4, some 5, some 6, none, none, none, none, none, none, none, some 7, none, some 8, none, some 9, some 10, some 11, none, none, none, some 12, some 13, none, none]), .inr (0, 8, []), .inr (0, 8, []), .inr (0, 320, []), .inr (0, 82, []), .inr (0, 40, []), .inr (0, 120, []), .inr (0, 82, []), .inr (0, 1968, []), .inr (0, 82, []), .inr (1, 32, []), .inr (1, 32, []), .inr (1, 2, []), .inr (0, 164, []), .inr (0, 16, [])]
def ms_103 : mj_S := [.inl (7, [some 1, some 2, some 3, none, none, some 4, some 5, some 6, none, none, none, none, none, none, none, some 7, none, some 8, none, some 9, some 10, some 11, none, none, none, some 12, some 13, some 14, none]), .inr (0, 8, []), .inr (0, 8, []), .inr (0, 320, []), .inr (0, 82, []), .inr (0, 40, []), .inr (0, 120, []), .inr (0, 82, []), .inr (0, 1968, []), .inr (0, 82, []), .inr (1, 32, []), .inr (1, 32, []), .inr (1, 2, []), .inr (0, 164, []), .inr (0, 16, [])]
def jX7_init : mj_J := (yX7_init, cX7_init, 2, none, 1, 14, 2956)
theorem kaX7_init : mj_KA jX7_init := ⟨mj_gw_in 721 (by decide +kernel) (by decide +kernel), mw_ini_RX7, ⟨by decide +kernel, by decide +kernel, by decide +kernel⟩, by decide, mj_gw_in 720 (by decide +kernel) (by decide +kernel), rfl, rfl⟩
theorem raX7_init : mj_SpA jX7_init 7 29 my_S (my_f 8) := by
  refine mj_spA 1 (by decide +kernel) rfl rfl (by decide) ?_
  show mj_EvA jX7_init 0 [some (.ref 0), none] [] [.inl (7, [none, none, none, none, none, none, none, none, none, none, none, none, none, none, none, none, none, none, none, none, none, none, none, none, none, none, none, none, none])] mj_z (0, 0) my_S (my_f 8)
  refine ea_aload_n (q := 1) rfl dX7_init_0 rfl ?_
  refine ea_obj (q := 4) mw_o_RX7_1 (by decide) (Nat.le_of_ble_eq_true rfl) dX7_init_1 rfl ?_
  refine ea_aload_n (q := 5) rfl dX7_init_4 rfl ?_
  refine ea_bipush (v := 8) (q := 7) mcb_8 dX7_init_5 rfl ?_
  refine ea_newi (N := 8) (n := 1) (S1 := ms_76) (cs' := (1, 8)) (q := 9) mw_ac_i (by decide) (by decide) (by decide) rfl (by decide) rfl rfl rfl (fun _ => rfl) rfl (by decide) (by decide) rfl dX7_init_7 rfl ?_
  refine ea_putfR (q := 12) (S1 := ms_77) mw_r_RX7_7 rfl (by decide) rfl dX7_init_9 rfl ?_
  refine ea_aload_n (q := 13) rfl dX7_init_12 rfl ?_
  refine ea_bipush (v := 8) (q := 15) mcb_8 dX7_init_13 rfl ?_
  refine ea_newi (N := 8) (n := 2) (S1 := ms_78) (cs' := (2, 16)) (q := 17) mw_ac_i (by decide) (by decide) (by decide) rfl (by decide) rfl rfl rfl (fun _ => rfl) rfl (by decide) (by decide) rfl dX7_init_15 rfl ?_
  refine ea_putfR (q := 20) (S1 := ms_79) mw_r_RX7_13 rfl (by decide) rfl dX7_init_17 rfl ?_
  refine ea_aload_n (q := 21) rfl dX7_init_20 rfl ?_
  refine ea_sipush (v := 320) (q := 24) mcs_320 dX7_init_21 rfl ?_
  refine ea_newi (N := 320) (n := 3) (S1 := ms_80) (cs' := (3, 336)) (q := 26) mw_ac_i (by decide) (by decide) (by decide) rfl (by decide) rfl rfl rfl (fun _ => rfl) rfl (by decide) (by decide) rfl dX7_init_24 rfl ?_
  refine ea_putfR (q := 29) (S1 := ms_81) mw_r_RX7_16 rfl (by decide) rfl dX7_init_26 rfl ?_
  refine ea_aload_n (q := 30) rfl dX7_init_29 rfl ?_
  refine ea_bipush (v := 82) (q := 32) mcb_82 dX7_init_30 rfl ?_
  refine ea_newi (N := 82) (n := 4) (S1 := ms_82) (cs' := (4, 418)) (q := 34) mw_ac_i (by decide) (by decide) (by decide) rfl (by decide) rfl rfl rfl (fun _ => rfl) rfl (by decide) (by decide) rfl dX7_init_32 rfl ?_
  refine ea_putfR (q := 37) (S1 := ms_83) mw_r_RX7_19 rfl (by decide) rfl dX7_init_34 rfl ?_
  refine ea_aload_n (q := 38) rfl dX7_init_37 rfl ?_
  refine ea_bipush (v := 40) (q := 40) mcb_40 dX7_init_38 rfl ?_
  refine ea_newi (N := 40) (n := 5) (S1 := ms_84) (cs' := (5, 458)) (q := 42) mw_ac_i (by decide) (by decide) (by decide) rfl (by decide) rfl rfl rfl (fun _ => rfl) rfl (by decide) (by decide) rfl dX7_init_40 rfl ?_
  refine ea_putfR (q := 45) (S1 := ms_85) mw_r_RX7_22 rfl (by decide) rfl dX7_init_42 rfl ?_
  refine ea_aload_n (q := 46) rfl dX7_init_45 rfl ?_
  refine ea_bipush (v := 120) (q := 48) mcb_120 dX7_init_46 rfl ?_
  refine ea_newi (N := 120) (n := 6) (S1 := ms_86) (cs' := (6, 578)) (q := 50) mw_ac_i (by decide) (by decide) (by decide) rfl (by decide) rfl rfl rfl (fun _ => rfl) rfl (by decide) (by decide) rfl dX7_init_48 rfl ?_
  refine ea_putfR (q := 53) (S1 := ms_87) mw_r_RX7_25 rfl (by decide) rfl dX7_init_50 rfl ?_
  refine ea_aload_n (q := 54) rfl dX7_init_53 rfl ?_
  refine ea_bipush (v := 82) (q := 56) mcb_82 dX7_init_54 rfl ?_
  refine ea_newi (N := 82) (n := 7) (S1 := ms_88) (cs' := (7, 660)) (q := 58) mw_ac_i (by decide) (by decide) (by decide) rfl (by decide) rfl rfl rfl (fun _ => rfl) rfl (by decide) (by decide) rfl dX7_init_56 rfl ?_
  refine ea_putfR (q := 61) (S1 := ms_89) mw_r_RX7_28 rfl (by decide) rfl dX7_init_58 rfl ?_
  refine ea_aload_n (q := 62) rfl dX7_init_61 rfl ?_
  refine ea_sipush (v := 1968) (q := 65) mcs_1968 dX7_init_62 rfl ?_
  refine ea_newi (N := 1968) (n := 8) (S1 := ms_90) (cs' := (8, 2628)) (q := 67) mw_ac_i (by decide) (by decide) (by decide) rfl (by decide) rfl rfl rfl (fun _ => rfl) rfl (by decide) (by decide) rfl dX7_init_65 rfl ?_
  refine ea_putfR (q := 70) (S1 := ms_91) mw_r_RX7_31 rfl (by decide) rfl dX7_init_67 rfl ?_
  refine ea_aload_n (q := 71) rfl dX7_init_70 rfl ?_
  refine ea_bipush (v := 82) (q := 73) mcb_82 dX7_init_71 rfl ?_
  refine ea_newi (N := 82) (n := 9) (S1 := ms_92) (cs' := (9, 2710)) (q := 75) mw_ac_i (by decide) (by decide) (by decide) rfl (by decide) rfl rfl rfl (fun _ => rfl) rfl (by decide) (by decide) rfl dX7_init_73 rfl ?_
  refine ea_putfR (q := 78) (S1 := ms_93) mw_r_RX7_34 rfl (by decide) rfl dX7_init_75 rfl ?_
  refine ea_aload_n (q := 79) rfl dX7_init_78 rfl ?_
  refine ea_bipush (v := 32) (q := 81) mcb_32 dX7_init_79 rfl ?_
  refine ea_newz (N := 32) (n := 10) (S1 := ms_94) (cs' := (10, 2742)) (q := 83) mw_ac_z (by decide) (by decide) (by decide) rfl (by decide) rfl rfl rfl (fun _ => rfl) rfl (by decide) (by decide) rfl dX7_init_81 rfl ?_
  refine ea_putfR (q := 86) (S1 := ms_95) mw_r_RX7_37 rfl (by decide) rfl dX7_init_83 rfl ?_
  refine ea_aload_n (q := 87) rfl dX7_init_86 rfl ?_
  refine ea_bipush (v := 32) (q := 89) mcb_32 dX7_init_87 rfl ?_
  refine ea_newz (N := 32) (n := 11) (S1 := ms_96) (cs' := (11, 2774)) (q := 91) mw_ac_z (by decide) (by decide) (by decide) rfl (by decide) rfl rfl rfl (fun _ => rfl) rfl (by decide) (by decide) rfl dX7_init_89 rfl ?_
  refine ea_putfR (q := 94) (S1 := ms_97) mw_r_RX7_41 rfl (by decide) rfl dX7_init_91 rfl ?_
  refine ea_aload_n (q := 95) rfl dX7_init_94 rfl ?_
  refine ea_iconst (v := 2) (q := 96) mci_2 dX7_init_95 rfl ?_
  refine ea_newz (N := 2) (n := 12) (S1 := ms_98) (cs' := (12, 2776)) (q := 98) mw_ac_z (by decide) (by decide) (by decide) rfl (by decide) rfl rfl rfl (fun _ => rfl) rfl (by decide) (by decide) rfl dX7_init_96 rfl ?_
  refine ea_putfR (q := 101) (S1 := ms_99) mw_r_RX7_44 rfl (by decide) rfl dX7_init_98 rfl ?_
  refine ea_aload_n (q := 102) rfl dX7_init_101 rfl ?_
  refine ea_sipush (v := 164) (q := 105) mcs_164 dX7_init_102 rfl ?_
  refine ea_newi (N := 164) (n := 13) (S1 := ms_100) (cs' := (13, 2940)) (q := 107) mw_ac_i (by decide) (by decide) (by decide) rfl (by decide) rfl rfl rfl (fun _ => rfl) rfl (by decide) (by decide) rfl dX7_init_105 rfl ?_
  refine ea_putfR (q := 110) (S1 := ms_101) mw_r_RX7_47 rfl (by decide) rfl dX7_init_107 rfl ?_
  refine ea_aload_n (q := 111) rfl dX7_init_110 rfl ?_
  refine ea_bipush (v := 16) (q := 113) mcb_16 dX7_init_111 rfl ?_
  refine ea_newi (N := 16) (n := 14) (S1 := ms_102) (cs' := (14, 2956)) (q := 115) mw_ac_i (by decide) (by decide) (by decide) rfl (by decide) rfl rfl rfl (fun _ => rfl) rfl (by decide) (by decide) rfl dX7_init_113 rfl ?_
  refine ea_putfR (q := 118) (S1 := ms_103) mw_r_RX7_50 rfl (by decide) rfl dX7_init_115 rfl ?_
  refine ea_iconst (v := 0) (q := 119) mci_0 dX7_init_118 rfl ?_
  refine ea_istore_n (q := 120) (loc' := [some (.ref _), some (.int _)]) (by decide) rfl dX7_init_119 rfl ?_
  refine ea_iload_n (q := 121) rfl dX7_init_120 rfl ?_
  refine ea_bipush (v := 8) (q := 123) mcb_8 dX7_init_121 rfl ?_
  refine ea_icmp_geN (t := 139) (q := 126) (by decide) rfl dX7_init_123 rfl ?_
  refine ea_aload_n (q := 127) rfl dX7_init_126 rfl ?_
  refine ea_getfR (q := 130) mw_f_RX7_13 rfl rfl dX7_init_127 rfl ?_
  refine ea_iload_n (q := 131) rfl dX7_init_130 rfl ?_
  refine ea_iconst (v := -1) (q := 132) mci_m1 dX7_init_131 rfl ?_
  rw [my_f_z]
  refine ea_iast (k := 0) (f1 := (my_f 1)) (q := 133) rfl (by decide) mcx_0 (my_f_s 0) dX7_init_132 rfl ?_
  refine ea_iinc (v := 1) (q := 136) (loc' := [some (.ref _), some (.int _)]) rfl (by decide) (by decide) rfl dX7_init_133 rfl ?_
  refine ea_goto (q := 120) dX7_init_136 rfl ?_
  refine ea_iload_n (q := 121) rfl dX7_init_120 rfl ?_
  refine ea_bipush (v := 8) (q := 123) mcb_8 dX7_init_121 rfl ?_
  refine ea_icmp_geN (t := 139) (q := 126) (by decide) rfl dX7_init_123 rfl ?_
  refine ea_aload_n (q := 127) rfl dX7_init_126 rfl ?_
  refine ea_getfR (q := 130) mw_f_RX7_13 rfl rfl dX7_init_127 rfl ?_
  refine ea_iload_n (q := 131) rfl dX7_init_130 rfl ?_
  refine ea_iconst (v := -1) (q := 132) mci_m1 dX7_init_131 rfl ?_
  refine ea_iast (k := 1) (f1 := (my_f 2)) (q := 133) rfl (by decide) mcx_1 (my_f_s 1) dX7_init_132 rfl ?_
  refine ea_iinc (v := 2) (q := 136) (loc' := [some (.ref _), some (.int _)]) rfl (by decide) (by decide) rfl dX7_init_133 rfl ?_
  refine ea_goto (q := 120) dX7_init_136 rfl ?_
  refine ea_iload_n (q := 121) rfl dX7_init_120 rfl ?_
  refine ea_bipush (v := 8) (q := 123) mcb_8 dX7_init_121 rfl ?_
  refine ea_icmp_geN (t := 139) (q := 126) (by decide) rfl dX7_init_123 rfl ?_
  refine ea_aload_n (q := 127) rfl dX7_init_126 rfl ?_
  refine ea_getfR (q := 130) mw_f_RX7_13 rfl rfl dX7_init_127 rfl ?_
  refine ea_iload_n (q := 131) rfl dX7_init_130 rfl ?_
  refine ea_iconst (v := -1) (q := 132) mci_m1 dX7_init_131 rfl ?_
  refine ea_iast (k := 2) (f1 := (my_f 3)) (q := 133) rfl (by decide) mcx_2 (my_f_s 2) dX7_init_132 rfl ?_
  refine ea_iinc (v := 3) (q := 136) (loc' := [some (.ref _), some (.int _)]) rfl (by decide) (by decide) rfl dX7_init_133 rfl ?_
  refine ea_goto (q := 120) dX7_init_136 rfl ?_
  refine ea_iload_n (q := 121) rfl dX7_init_120 rfl ?_
  refine ea_bipush (v := 8) (q := 123) mcb_8 dX7_init_121 rfl ?_
  refine ea_icmp_geN (t := 139) (q := 126) (by decide) rfl dX7_init_123 rfl ?_
  refine ea_aload_n (q := 127) rfl dX7_init_126 rfl ?_
  refine ea_getfR (q := 130) mw_f_RX7_13 rfl rfl dX7_init_127 rfl ?_
  refine ea_iload_n (q := 131) rfl dX7_init_130 rfl ?_
  refine ea_iconst (v := -1) (q := 132) mci_m1 dX7_init_131 rfl ?_
  refine ea_iast (k := 3) (f1 := (my_f 4)) (q := 133) rfl (by decide) mcx_3 (my_f_s 3) dX7_init_132 rfl ?_
  refine ea_iinc (v := 4) (q := 136) (loc' := [some (.ref _), some (.int _)]) rfl (by decide) (by decide) rfl dX7_init_133 rfl ?_
  refine ea_goto (q := 120) dX7_init_136 rfl ?_
  refine ea_iload_n (q := 121) rfl dX7_init_120 rfl ?_
  refine ea_bipush (v := 8) (q := 123) mcb_8 dX7_init_121 rfl ?_
  refine ea_icmp_geN (t := 139) (q := 126) (by decide) rfl dX7_init_123 rfl ?_
  refine ea_aload_n (q := 127) rfl dX7_init_126 rfl ?_
  refine ea_getfR (q := 130) mw_f_RX7_13 rfl rfl dX7_init_127 rfl ?_
  refine ea_iload_n (q := 131) rfl dX7_init_130 rfl ?_
  refine ea_iconst (v := -1) (q := 132) mci_m1 dX7_init_131 rfl ?_
  refine ea_iast (k := 4) (f1 := (my_f 5)) (q := 133) rfl (by decide) mcx_4 (my_f_s 4) dX7_init_132 rfl ?_
  refine ea_iinc (v := 5) (q := 136) (loc' := [some (.ref _), some (.int _)]) rfl (by decide) (by decide) rfl dX7_init_133 rfl ?_
  refine ea_goto (q := 120) dX7_init_136 rfl ?_
  refine ea_iload_n (q := 121) rfl dX7_init_120 rfl ?_
  refine ea_bipush (v := 8) (q := 123) mcb_8 dX7_init_121 rfl ?_
  refine ea_icmp_geN (t := 139) (q := 126) (by decide) rfl dX7_init_123 rfl ?_
  refine ea_aload_n (q := 127) rfl dX7_init_126 rfl ?_
  refine ea_getfR (q := 130) mw_f_RX7_13 rfl rfl dX7_init_127 rfl ?_
  refine ea_iload_n (q := 131) rfl dX7_init_130 rfl ?_
  refine ea_iconst (v := -1) (q := 132) mci_m1 dX7_init_131 rfl ?_
  refine ea_iast (k := 5) (f1 := (my_f 6)) (q := 133) rfl (by decide) mcx_5 (my_f_s 5) dX7_init_132 rfl ?_
  refine ea_iinc (v := 6) (q := 136) (loc' := [some (.ref _), some (.int _)]) rfl (by decide) (by decide) rfl dX7_init_133 rfl ?_
  refine ea_goto (q := 120) dX7_init_136 rfl ?_
  refine ea_iload_n (q := 121) rfl dX7_init_120 rfl ?_
  refine ea_bipush (v := 8) (q := 123) mcb_8 dX7_init_121 rfl ?_
  refine ea_icmp_geN (t := 139) (q := 126) (by decide) rfl dX7_init_123 rfl ?_
  refine ea_aload_n (q := 127) rfl dX7_init_126 rfl ?_
  refine ea_getfR (q := 130) mw_f_RX7_13 rfl rfl dX7_init_127 rfl ?_
  refine ea_iload_n (q := 131) rfl dX7_init_130 rfl ?_
  refine ea_iconst (v := -1) (q := 132) mci_m1 dX7_init_131 rfl ?_
  refine ea_iast (k := 6) (f1 := (my_f 7)) (q := 133) rfl (by decide) mcx_6 (my_f_s 6) dX7_init_132 rfl ?_
  refine ea_iinc (v := 7) (q := 136) (loc' := [some (.ref _), some (.int _)]) rfl (by decide) (by decide) rfl dX7_init_133 rfl ?_
  refine ea_goto (q := 120) dX7_init_136 rfl ?_
  refine ea_iload_n (q := 121) rfl dX7_init_120 rfl ?_
  refine ea_bipush (v := 8) (q := 123) mcb_8 dX7_init_121 rfl ?_
  refine ea_icmp_geN (t := 139) (q := 126) (by decide) rfl dX7_init_123 rfl ?_
  refine ea_aload_n (q := 127) rfl dX7_init_126 rfl ?_
  refine ea_getfR (q := 130) mw_f_RX7_13 rfl rfl dX7_init_127 rfl ?_
  refine ea_iload_n (q := 131) rfl dX7_init_130 rfl ?_
  refine ea_iconst (v := -1) (q := 132) mci_m1 dX7_init_131 rfl ?_
  refine ea_iast (k := 7) (f1 := (my_f 8)) (q := 133) rfl (by decide) mcx_7 (my_f_s 7) dX7_init_132 rfl ?_
  refine ea_iinc (v := 8) (q := 136) (loc' := [some (.ref _), some (.int _)]) rfl (by decide) (by decide) rfl dX7_init_133 rfl ?_
  refine ea_goto (q := 120) dX7_init_136 rfl ?_
  refine ea_iload_n (q := 121) rfl dX7_init_120 rfl ?_
  refine ea_bipush (v := 8) (q := 123) mcb_8 dX7_init_121 rfl ?_
  refine ea_icmp_geY (q := 139) (by decide) dX7_init_123 rfl ?_
  exact ea_ret dX7_init_139 (by decide) (by decide)
