theorem mw_in0 : ∀ w ∈ u_ws RX0 TX0 3, w ∈ mj_gw := by
  show ∀ w ∈ [u_lay RX0 TX0 0, u_lay RX0 TX0 1, u_lay RX0 TX0 2], w ∈ mj_gw
  exact List.forall_mem_cons.mpr ⟨mj_gw_in 179 (by decide +kernel) (by decide +kernel), List.forall_mem_cons.mpr ⟨mj_gw_in 181 (by decide +kernel) (by decide +kernel), List.forall_mem_cons.mpr ⟨mj_gw_in 183 (by decide +kernel) (by decide +kernel), fun _ h => absurd h List.not_mem_nil⟩⟩⟩
theorem mw_in1 : ∀ w ∈ u_ws RX1 TX1 7, w ∈ mj_gw := by
  show ∀ w ∈ [u_lay RX1 TX1 0, u_lay RX1 TX1 1, u_lay RX1 TX1 2, u_lay RX1 TX1 3, u_lay RX1 TX1 4, u_lay RX1 TX1 5, u_lay RX1 TX1 6], w ∈ mj_gw
  exact List.forall_mem_cons.mpr ⟨mj_gw_in 89 (by decide +kernel) (by decide +kernel), List.forall_mem_cons.mpr ⟨mj_gw_in 91 (by decide +kernel) (by decide +kernel), List.forall_mem_cons.mpr ⟨mj_gw_in 93 (by decide +kernel) (by decide +kernel), List.forall_mem_cons.mpr ⟨mj_gw_in 95 (by decide +kernel) (by decide +kernel), List.forall_mem_cons.mpr ⟨mj_gw_in 97 (by decide +kernel) (by decide +kernel), List.forall_mem_cons.mpr ⟨mj_gw_in 99 (by decide +kernel) (by decide +kernel), List.forall_mem_cons.mpr ⟨mj_gw_in 101 (by decide +kernel) (by decide +kernel), fun _ h => absurd h List.not_mem_nil⟩⟩⟩⟩⟩⟩⟩
theorem mw_in2 : ∀ w ∈ u_ws RX2 TX2 13, w ∈ mj_gw := by
  show ∀ w ∈ [u_lay RX2 TX2 0, u_lay RX2 TX2 1, u_lay RX2 TX2 2, u_lay RX2 TX2 3, u_lay RX2 TX2 4, u_lay RX2 TX2 5, u_lay RX2 TX2 6, u_lay RX2 TX2 7, u_lay RX2 TX2 8, u_lay RX2 TX2 9, u_lay RX2 TX2 10, u_lay RX2 TX2 11, u_lay RX2 TX2 12], w ∈ mj_gw
  exact List.forall_mem_cons.mpr ⟨mj_gw_in 139 (by decide +kernel) (by decide +kernel), List.forall_mem_cons.mpr ⟨mj_gw_in 141 (by decide +kernel) (by decide +kernel), List.forall_mem_cons.mpr ⟨mj_gw_in 143 (by decide +kernel) (by decide +kernel), List.forall_mem_cons.mpr ⟨mj_gw_in 145 (by decide +kernel) (by decide +kernel), List.forall_mem_cons.mpr ⟨mj_gw_in 147 (by decide +kernel) (by decide +kernel), List.forall_mem_cons.mpr ⟨mj_gw_in 149 (by decide +kernel) (by decide +kernel), List.forall_mem_cons.mpr ⟨mj_gw_in 151 (by decide +kernel) (by decide +kernel), List.forall_mem_cons.mpr ⟨mj_gw_in 153 (by decide +kernel) (by decide +kernel), List.forall_mem_cons.mpr ⟨mj_gw_in 155 (by decide +kernel) (by decide +kernel), List.forall_mem_cons.mpr ⟨mj_gw_in 157 (by decide +kernel) (by decide +kernel), List.forall_mem_cons.mpr ⟨mj_gw_in 159 (by decide +kernel) (by decide +kernel), List.forall_mem_cons.mpr ⟨mj_gw_in 161 (by decide +kernel) (by decide +kernel), List.forall_mem_cons.mpr ⟨mj_gw_in 163 (by decide +kernel) (by decide +kernel), fun _ h => absurd h List.not_mem_nil⟩⟩⟩⟩⟩⟩⟩⟩⟩⟩⟩⟩⟩
theorem mw_in3 : ∀ w ∈ u_ws RX3 TX3 4, w ∈ mj_gw := by
  show ∀ w ∈ [u_lay RX3 TX3 0, u_lay RX3 TX3 1, u_lay RX3 TX3 2, u_lay RX3 TX3 3], w ∈ mj_gw
  exact List.forall_mem_cons.mpr ⟨mj_gw_in 214 (by decide +kernel) (by decide +kernel), List.forall_mem_cons.mpr ⟨mj_gw_in 216 (by decide +kernel) (by decide +kernel), List.forall_mem_cons.mpr ⟨mj_gw_in 218 (by decide +kernel) (by decide +kernel), List.forall_mem_cons.mpr ⟨mj_gw_in 220 (by decide +kernel) (by decide +kernel), fun _ h => absurd h List.not_mem_nil⟩⟩⟩⟩
theorem mw_in4 : ∀ w ∈ u_ws RX4 TX4 7, w ∈ mj_gw := by
  show ∀ w ∈ [u_lay RX4 TX4 0, u_lay RX4 TX4 1, u_lay RX4 TX4 2, u_lay RX4 TX4 3, u_lay RX4 TX4 4, u_lay RX4 TX4 5, u_lay RX4 TX4 6], w ∈ mj_gw
  exact List.forall_mem_cons.mpr ⟨mj_gw_in 38 (by decide +kernel) (by decide +kernel), List.forall_mem_cons.mpr ⟨mj_gw_in 40 (by decide +kernel) (by decide +kernel), List.forall_mem_cons.mpr ⟨mj_gw_in 42 (by decide +kernel) (by decide +kernel), List.forall_mem_cons.mpr ⟨mj_gw_in 44 (by decide +kernel) (by decide +kernel), List.forall_mem_cons.mpr ⟨mj_gw_in 46 (by decide +kernel) (by decide +kernel), List.forall_mem_cons.mpr ⟨mj_gw_in 48 (by decide +kernel) (by decide +kernel), List.forall_mem_cons.mpr ⟨mj_gw_in 50 (by decide +kernel) (by decide +kernel), fun _ h => absurd h List.not_mem_nil⟩⟩⟩⟩⟩⟩⟩
theorem mw_in5 : ∀ w ∈ u_ws RX5 TX5 2, w ∈ mj_gw := by
  show ∀ w ∈ [u_lay RX5 TX5 0, u_lay RX5 TX5 1], w ∈ mj_gw
  exact List.forall_mem_cons.mpr ⟨mj_gw_in 196 (by decide +kernel) (by decide +kernel), List.forall_mem_cons.mpr ⟨mj_gw_in 198 (by decide +kernel) (by decide +kernel), fun _ h => absurd h List.not_mem_nil⟩⟩
theorem mw_in6 : ∀ w ∈ u_ws RX6 TX6 10, w ∈ mj_gw := by
  show ∀ w ∈ [u_lay RX6 TX6 0, u_lay RX6 TX6 1, u_lay RX6 TX6 2, u_lay RX6 TX6 3, u_lay RX6 TX6 4, u_lay RX6 TX6 5, u_lay RX6 TX6 6, u_lay RX6 TX6 7, u_lay RX6 TX6 8, u_lay RX6 TX6 9], w ∈ mj_gw
  exact List.forall_mem_cons.mpr ⟨mj_gw_in 233 (by decide +kernel) (by decide +kernel), List.forall_mem_cons.mpr ⟨mj_gw_in 235 (by decide +kernel) (by decide +kernel), List.forall_mem_cons.mpr ⟨mj_gw_in 237 (by decide +kernel) (by decide +kernel), List.forall_mem_cons.mpr ⟨mj_gw_in 239 (by decide +kernel) (by decide +kernel), List.forall_mem_cons.mpr ⟨mj_gw_in 241 (by decide +kernel) (by decide +kernel), List.forall_mem_cons.mpr ⟨mj_gw_in 243 (by decide +kernel) (by decide +kernel), List.forall_mem_cons.mpr ⟨mj_gw_in 245 (by decide +kernel) (by decide +kernel), List.forall_mem_cons.mpr ⟨mj_gw_in 247 (by decide +kernel) (by decide +kernel), List.forall_mem_cons.mpr ⟨mj_gw_in 249 (by decide +kernel) (by decide +kernel), List.forall_mem_cons.mpr ⟨mj_gw_in 251 (by decide +kernel) (by decide +kernel), fun _ h => absurd h List.not_mem_nil⟩⟩⟩⟩⟩⟩⟩⟩⟩⟩
theorem mw_in7 : ∀ w ∈ u_ws RX7 TX7 29, w ∈ mj_gw := by
  show ∀ w ∈ [u_lay RX7 TX7 0, u_lay RX7 TX7 1, u_lay RX7 TX7 2, u_lay RX7 TX7 3, u_lay RX7 TX7 4, u_lay RX7 TX7 5, u_lay RX7 TX7 6, u_lay RX7 TX7 7, u_lay RX7 TX7 8, u_lay RX7 TX7 9, u_lay RX7 TX7 10, u_lay RX7 TX7 11, u_lay RX7 TX7 12, u_lay RX7 TX7 13, u_lay RX7 TX7 14, u_lay RX7 TX7 15, u_lay RX7 TX7 16, u_lay RX7 TX7 17, u_lay RX7 TX7 18, u_lay RX7 TX7 19, u_lay RX7 TX7 20, u_lay RX7 TX7 21, u_lay RX7 TX7 22, u_lay RX7 TX7 23, u_lay RX7 TX7 24, u_lay RX7 TX7 25, u_lay RX7 TX7 26, u_lay RX7 TX7 27, u_lay RX7 TX7 28], w ∈ mj_gw
  exact List.forall_mem_cons.mpr ⟨mj_gw_in 752 (by decide +kernel) (by decide +kernel), List.forall_mem_cons.mpr ⟨mj_gw_in 754 (by decide +kernel) (by decide +kernel), List.forall_mem_cons.mpr ⟨mj_gw_in 756 (by decide +kernel) (by decide +kernel), List.forall_mem_cons.mpr ⟨mj_gw_in 758 (by decide +kernel) (by decide +kernel), List.forall_mem_cons.mpr ⟨mj_gw_in 760 (by decide +kernel) (by decide +kernel), List.forall_mem_cons.mpr ⟨mj_gw_in 762 (by decide +kernel) (by decide +kernel), List.forall_mem_cons.mpr ⟨mj_gw_in 764 (by decide +kernel) (by decide +kernel), List.forall_mem_cons.mpr ⟨mj_gw_in 766 (by decide +kernel) (by decide +kernel), List.forall_mem_cons.mpr ⟨mj_gw_in 768 (by decide +kernel) (by decide +kernel), List.forall_mem_cons.mpr ⟨mj_gw_in 770 (by decide +kernel) (by decide +kernel), List.forall_mem_cons.mpr ⟨mj_gw_in 772 (by decide +kernel) (by decide +kernel), List.forall_mem_cons.mpr ⟨mj_gw_in 774 (by decide +kernel) (by decide +kernel), List.forall_mem_cons.mpr ⟨mj_gw_in 776 (by decide +kernel) (by decide +kernel), List.forall_mem_cons.mpr ⟨mj_gw_in 778 (by decide +kernel) (by decide +kernel), List.forall_mem_cons.mpr ⟨mj_gw_in 780 (by decide +kernel) (by decide +kernel), List.forall_mem_cons.mpr ⟨mj_gw_in 782 (by decide +kernel) (by decide +kernel), List.forall_mem_cons.mpr ⟨mj_gw_in 784 (by decide +kernel) (by decide +kernel), List.forall_mem_cons.mpr ⟨mj_gw_in 786 (by decide +kernel) (by decide +kernel), List.forall_mem_cons.mpr ⟨mj_gw_in 788 (by decide +kernel) (by decide +kernel), List.forall_mem_cons.mpr ⟨mj_gw_in 790 (by decide +kernel) (by decide +kernel), List.forall_mem_cons.mpr ⟨mj_gw_in 792 (by decide +kernel) (by decide +kernel), List.forall_mem_cons.mpr ⟨mj_gw_in 794 (by decide +kernel) (by decide +kernel), List.forall_mem_cons.mpr ⟨mj_gw_in 796 (by decide +kernel) (by decide +kernel), List.forall_mem_cons.mpr ⟨mj_gw_in 798 (by decide +kernel) (by decide +kernel), List.forall_mem_cons.mpr ⟨mj_gw_in 800 (by decide +kernel) (by decide +kernel), List.forall_mem_cons.mpr ⟨mj_gw_in 802 (by decide +kernel) (by decide +kernel), List.forall_mem_cons.mpr ⟨mj_gw_in 804 (by decide +kernel) (by decide +kernel), List.forall_mem_cons.mpr ⟨mj_gw_in 806 (by decide +kernel) (by decide +kernel), List.forall_mem_cons.mpr ⟨mj_gw_in 808 (by decide +kernel) (by decide +kernel), fun _ h => absurd h List.not_mem_nil⟩⟩⟩⟩⟩⟩⟩⟩⟩⟩⟩⟩⟩⟩⟩⟩⟩⟩⟩⟩⟩⟩⟩⟩⟩⟩⟩⟩⟩
theorem mw_ini_RL : Cond.initialized RL ∈ mj_gw := mj_gw_in 0 (by decide +kernel) (by decide +kernel)
theorem mw_ini_RX6 : Cond.initialized RX6 ∈ mj_gw := mj_gw_in 1 (by decide +kernel) (by decide +kernel)
theorem mw_ini_RX4 : Cond.initialized RX4 ∈ mj_gw := mj_gw_in 2 (by decide +kernel) (by decide +kernel)
theorem mw_ini_RX2 : Cond.initialized RX2 ∈ mj_gw := mj_gw_in 3 (by decide +kernel) (by decide +kernel)
theorem mw_ini_RX1 : Cond.initialized RX1 ∈ mj_gw := mj_gw_in 4 (by decide +kernel) (by decide +kernel)
theorem mw_ini_RX0 : Cond.initialized RX0 ∈ mj_gw := mj_gw_in 5 (by decide +kernel) (by decide +kernel)
theorem mw_ini_RX5 : Cond.initialized RX5 ∈ mj_gw := mj_gw_in 6 (by decide +kernel) (by decide +kernel)
theorem mw_ini_RX3 : Cond.initialized RX3 ∈ mj_gw := mj_gw_in 7 (by decide +kernel) (by decide +kernel)
theorem mw_ini_RX7 : Cond.initialized RX7 ∈ mj_gw := mj_gw_in 8 (by decide +kernel) (by decide +kernel)
theorem mw_ini_RJ10 : Cond.initialized RJ10 ∈ mj_gw := mj_gw_in 9 (by decide +kernel) (by decide +kernel)
theorem mw_ini_sys : Cond.initialized "java/lang/System" ∈ mj_gw := mj_gw_in 9 (by decide +kernel) (by decide +kernel)
theorem mw_ini_RJ9 : Cond.initialized RJ9 ∈ mj_gw := mj_gw_in 10 (by decide +kernel) (by decide +kernel)
theorem mw_ini_math : Cond.initialized "java/lang/Math" ∈ mj_gw := mj_gw_in 10 (by decide +kernel) (by decide +kernel)
theorem mw_ini_RJ6 : Cond.initialized RJ6 ∈ mj_gw := mj_gw_in 11 (by decide +kernel) (by decide +kernel)
theorem mw_f_RX4_9 : mj_LF RX4 9 4 0 3 true := ⟨RX4, TX4, 7, tyX4, rfl, mw_in4, tyX4_ok, nmX4, by decide, mj_gw_in 28 (by decide +kernel) (by decide +kernel), rfl, rfl, (fun h => by first | rfl | cases h), (fun h => by first | rfl | cases h), (fun h => by first | rfl | cases h)⟩
theorem mw_f_RX4_15 : mj_LF RX4 15 4 1 0 false := ⟨RX4, TX4, 7, tyX4, rfl, mw_in4, tyX4_ok, nmX4, by decide, mj_gw_in 29 (by decide +kernel) (by decide +kernel), rfl, rfl, (fun h => by first | rfl | cases h), (fun h => by first | rfl | cases h), (fun h => by first | rfl | cases h)⟩
theorem mw_f_RX6_119 : mj_LF RX6 119 4 1 0 false := ⟨RX4, TX4, 7, tyX4, rfl, mw_in4, tyX4_ok, nmX4, by decide, mj_gw_in 30 (by decide +kernel) (by decide +kernel), rfl, rfl, (fun h => by first | rfl | cases h), (fun h => by first | rfl | cases h), (fun h => by first | rfl | cases h)⟩
theorem mw_f_RX4_19 : mj_LF RX4 19 4 2 0 false := ⟨RX4, TX4, 7, tyX4, rfl, mw_in4, tyX4_ok, nmX4, by decide, mj_gw_in 31 (by decide +kernel) (by decide +kernel), rfl, rfl, (fun h => by first | rfl | cases h), (fun h => by first | rfl | cases h), (fun h => by first | rfl | cases h)⟩
theorem mw_f_RX6_129 : mj_LF RX6 129 4 2 0 false := ⟨RX4, TX4, 7, tyX4, rfl, mw_in4, tyX4_ok, nmX4, by decide, mj_gw_in 32 (by decide +kernel) (by decide +kernel), rfl, rfl, (fun h => by first | rfl | cases h), (fun h => by first | rfl | cases h), (fun h => by first | rfl | cases h)⟩
theorem mw_f_RX4_22 : mj_LF RX4 22 4 3 0 false := ⟨RX4, TX4, 7, tyX4, rfl, mw_in4, tyX4_ok, nmX4, by decide, mj_gw_in 33 (by decide +kernel) (by decide +kernel), rfl, rfl, (fun h => by first | rfl | cases h), (fun h => by first | rfl | cases h), (fun h => by first | rfl | cases h)⟩
theorem mw_f_RX4_25 : mj_LF RX4 25 4 4 0 false := ⟨RX4, TX4, 7, tyX4, rfl, mw_in4, tyX4_ok, nmX4, by decide, mj_gw_in 34 (by decide +kernel) (by decide +kernel), rfl, rfl, (fun h => by first | rfl | cases h), (fun h => by first | rfl | cases h), (fun h => by first | rfl | cases h)⟩
theorem mw_f_RX4_28 : mj_LF RX4 28 4 5 0 false := ⟨RX4, TX4, 7, tyX4, rfl, mw_in4, tyX4_ok, nmX4, by decide, mj_gw_in 35 (by decide +kernel) (by decide +kernel), rfl, rfl, (fun h => by first | rfl | cases h), (fun h => by first | rfl | cases h), (fun h => by first | rfl | cases h)⟩
theorem mw_f_RX4_31 : mj_LF RX4 31 4 6 0 false := ⟨RX4, TX4, 7, tyX4, rfl, mw_in4, tyX4_ok, nmX4, by decide, mj_gw_in 36 (by decide +kernel) (by decide +kernel), rfl, rfl, (fun h => by first | rfl | cases h), (fun h => by first | rfl | cases h), (fun h => by first | rfl | cases h)⟩
theorem mw_f_RX6_125 : mj_LF RX6 125 4 6 0 false := ⟨RX4, TX4, 7, tyX4, rfl, mw_in4, tyX4_ok, nmX4, by decide, mj_gw_in 37 (by decide +kernel) (by decide +kernel), rfl, rfl, (fun h => by first | rfl | cases h), (fun h => by first | rfl | cases h), (fun h => by first | rfl | cases h)⟩
theorem mw_f_RX1_9 : mj_LF RX1 9 1 0 0 false := ⟨RX1, TX1, 7, tyX1, rfl, mw_in1, tyX1_ok, nmX1, by decide, mj_gw_in 67 (by decide +kernel) (by decide +kernel), rfl, rfl, (fun h => by first | rfl | cases h), (fun h => by first | rfl | cases h), (fun h => by first | rfl | cases h)⟩
theorem mw_f_RX5_20 : mj_LF RX5 20 1 0 0 false := ⟨RX1, TX1, 7, tyX1, rfl, mw_in1, tyX1_ok, nmX1, by decide, mj_gw_in 68 (by decide +kernel) (by decide +kernel), rfl, rfl, (fun h => by first | rfl | cases h), (fun h => by first | rfl | cases h), (fun h => by first | rfl | cases h)⟩
theorem mw_f_RX6_185 : mj_LF RX6 185 1 0 0 false := ⟨RX1, TX1, 7, tyX1, rfl, mw_in1, tyX1_ok, nmX1, by decide, mj_gw_in 69 (by decide +kernel) (by decide +kernel), rfl, rfl, (fun h => by first | rfl | cases h), (fun h => by first | rfl | cases h), (fun h => by first | rfl | cases h)⟩
theorem mw_f_RX1_15 : mj_LF RX1 15 1 1 0 false := ⟨RX1, TX1, 7, tyX1, rfl, mw_in1, tyX1_ok, nmX1, by decide, mj_gw_in 70 (by decide +kernel) (by decide +kernel), rfl, rfl, (fun h => by first | rfl | cases h), (fun h => by first | rfl | cases h), (fun h => by first | rfl | cases h)⟩
theorem mw_f_RX5_39 : mj_LF RX5 39 1 1 0 false := ⟨RX1, TX1, 7, tyX1, rfl, mw_in1, tyX1_ok, nmX1, by decide, mj_gw_in 71 (by decide +kernel) (by decide +kernel), rfl, rfl, (fun h => by first | rfl | cases h), (fun h => by first | rfl | cases h), (fun h => by first | rfl | cases h)⟩
theorem mw_f_RX2_70 : mj_LF RX2 70 1 1 0 false := ⟨RX1, TX1, 7, tyX1, rfl, mw_in1, tyX1_ok, nmX1, by decide, mj_gw_in 72 (by decide +kernel) (by decide +kernel), rfl, rfl, (fun h => by first | rfl | cases h), (fun h => by first | rfl | cases h), (fun h => by first | rfl | cases h)⟩
theorem mw_f_RX6_223 : mj_LF RX6 223 1 1 0 false := ⟨RX1, TX1, 7, tyX1, rfl, mw_in1, tyX1_ok, nmX1, by decide, mj_gw_in 73 (by decide +kernel) (by decide +kernel), rfl, rfl, (fun h => by first | rfl | cases h), (fun h => by first | rfl | cases h), (fun h => by first | rfl | cases h)⟩
theorem mw_f_RX1_18 : mj_LF RX1 18 1 2 0 false := ⟨RX1, TX1, 7, tyX1, rfl, mw_in1, tyX1_ok, nmX1, by decide, mj_gw_in 74 (by decide +kernel) (by decide +kernel), rfl, rfl, (fun h => by first | rfl | cases h), (fun h => by first | rfl | cases h), (fun h => by first | rfl | cases h)⟩
theorem mw_f_RX2_100 : mj_LF RX2 100 1 2 0 false := ⟨RX1, TX1, 7, tyX1, rfl, mw_in1, tyX1_ok, nmX1, by decide, mj_gw_in 75 (by decide +kernel) (by decide +kernel), rfl, rfl, (fun h => by first | rfl | cases h), (fun h => by first | rfl | cases h), (fun h => by first | rfl | cases h)⟩
theorem mw_f_RX6_175 : mj_LF RX6 175 1 2 0 false := ⟨RX1, TX1, 7, tyX1, rfl, mw_in1, tyX1_ok, nmX1, by decide, mj_gw_in 76 (by decide +kernel) (by decide +kernel), rfl, rfl, (fun h => by first | rfl | cases h), (fun h => by first | rfl | cases h), (fun h => by first | rfl | cases h)⟩
theorem mw_f_RX1_21 : mj_LF RX1 21 1 3 0 false := ⟨RX1, TX1, 7, tyX1, rfl, mw_in1, tyX1_ok, nmX1, by decide, mj_gw_in 77 (by decide +kernel) (by decide +kernel), rfl, rfl, (fun h => by first | rfl | cases h), (fun h => by first | rfl | cases h), (fun h => by first | rfl | cases h)⟩
theorem mw_f_RX5_36 : mj_LF RX5 36 1 3 0 false := ⟨RX1, TX1, 7, tyX1, rfl, mw_in1, tyX1_ok, nmX1, by decide, mj_gw_in 78 (by decide +kernel) (by decide +kernel), rfl, rfl, (fun h => by first | rfl | cases h), (fun h => by first | rfl | cases h), (fun h => by first | rfl | cases h)⟩
theorem mw_f_RX6_182 : mj_LF RX6 182 1 3 0 false := ⟨RX1, TX1, 7, tyX1, rfl, mw_in1, tyX1_ok, nmX1, by decide, mj_gw_in 79 (by decide +kernel) (by decide +kernel), rfl, rfl, (fun h => by first | rfl | cases h), (fun h => by first | rfl | cases h), (fun h => by first | rfl | cases h)⟩
theorem mw_f_RX2_124 : mj_LF RX2 124 1 3 0 false := ⟨RX1, TX1, 7, tyX1, rfl, mw_in1, tyX1_ok, nmX1, by decide, mj_gw_in 80 (by decide +kernel) (by decide +kernel), rfl, rfl, (fun h => by first | rfl | cases h), (fun h => by first | rfl | cases h), (fun h => by first | rfl | cases h)⟩
theorem mw_f_RX1_24 : mj_LF RX1 24 1 4 1 false := ⟨RX1, TX1, 7, tyX1, rfl, mw_in1, tyX1_ok, nmX1, by decide, mj_gw_in 81 (by decide +kernel) (by decide +kernel), rfl, rfl, (fun h => by first | rfl | cases h), (fun h => by first | rfl | cases h), (fun h => by first | rfl | cases h)⟩
theorem mw_f_RX2_67 : mj_LF RX2 67 1 4 1 false := ⟨RX1, TX1, 7, tyX1, rfl, mw_in1, tyX1_ok, nmX1, by decide, mj_gw_in 82 (by decide +kernel) (by decide +kernel), rfl, rfl, (fun h => by first | rfl | cases h), (fun h => by first | rfl | cases h), (fun h => by first | rfl | cases h)⟩
theorem mw_f_RX6_168 : mj_LF RX6 168 1 4 1 false := ⟨RX1, TX1, 7, tyX1, rfl, mw_in1, tyX1_ok, nmX1, by decide, mj_gw_in 83 (by decide +kernel) (by decide +kernel), rfl, rfl, (fun h => by first | rfl | cases h), (fun h => by first | rfl | cases h), (fun h => by first | rfl | cases h)⟩
theorem mw_f_RX1_28 : mj_LF RX1 28 1 5 1 false := ⟨RX1, TX1, 7, tyX1, rfl, mw_in1, tyX1_ok, nmX1, by decide, mj_gw_in 84 (by decide +kernel) (by decide +kernel), rfl, rfl, (fun h => by first | rfl | cases h), (fun h => by first | rfl | cases h), (fun h => by first | rfl | cases h)⟩
theorem mw_f_RX6_188 : mj_LF RX6 188 1 5 1 false := ⟨RX1, TX1, 7, tyX1, rfl, mw_in1, tyX1_ok, nmX1, by decide, mj_gw_in 85 (by decide +kernel) (by decide +kernel), rfl, rfl, (fun h => by first | rfl | cases h), (fun h => by first | rfl | cases h), (fun h => by first | rfl | cases h)⟩
theorem mw_f_RX1_31 : mj_LF RX1 31 1 6 0 false := ⟨RX1, TX1, 7, tyX1, rfl, mw_in1, tyX1_ok, nmX1, by decide, mj_gw_in 86 (by decide +kernel) (by decide +kernel), rfl, rfl, (fun h => by first | rfl | cases h), (fun h => by first | rfl | cases h), (fun h => by first | rfl | cases h)⟩
theorem mw_f_RX2_117 : mj_LF RX2 117 1 6 0 false := ⟨RX1, TX1, 7, tyX1, rfl, mw_in1, tyX1_ok, nmX1, by decide, mj_gw_in 87 (by decide +kernel) (by decide +kernel), rfl, rfl, (fun h => by first | rfl | cases h), (fun h => by first | rfl | cases h), (fun h => by first | rfl | cases h)⟩
theorem mw_f_RX6_305 : mj_LF RX6 305 1 6 0 false := ⟨RX1, TX1, 7, tyX1, rfl, mw_in1, tyX1_ok, nmX1, by decide, mj_gw_in 88 (by decide +kernel) (by decide +kernel), rfl, rfl, (fun h => by first | rfl | cases h), (fun h => by first | rfl | cases h), (fun h => by first | rfl | cases h)⟩
theorem mw_f_RX2_9 : mj_LF RX2 9 2 0 1 false := ⟨RX2, TX2, 13, tyX2, rfl, mw_in2, tyX2_ok, nmX2, by decide, mj_gw_in 104 (by decide +kernel) (by decide +kernel), rfl, rfl, (fun h => by first | rfl | cases h), (fun h => by first | rfl | cases h), (fun h => by first | rfl | cases h)⟩
theorem mw_f_RX6_146 : mj_LF RX6 146 2 0 1 false := ⟨RX2, TX2, 13, tyX2, rfl, mw_in2, tyX2_ok, nmX2, by decide, mj_gw_in 105 (by decide +kernel) (by decide +kernel), rfl, rfl, (fun h => by first | rfl | cases h), (fun h => by first | rfl | cases h), (fun h => by first | rfl | cases h)⟩
theorem mw_f_RX2_15 : mj_LF RX2 15 2 1 0 false := ⟨RX2, TX2, 13, tyX2, rfl, mw_in2, tyX2_ok, nmX2, by decide, mj_gw_in 106 (by decide +kernel) (by decide +kernel), rfl, rfl, (fun h => by first | rfl | cases h), (fun h => by first | rfl | cases h), (fun h => by first | rfl | cases h)⟩
theorem mw_f_RX4_64 : mj_LF RX4 64 2 1 0 false := ⟨RX2, TX2, 13, tyX2, rfl, mw_in2, tyX2_ok, nmX2, by decide, mj_gw_in 107 (by decide +kernel) (by decide +kernel), rfl, rfl, (fun h => by first | rfl | cases h), (fun h => by first | rfl | cases h), (fun h => by first | rfl | cases h)⟩
theorem mw_f_RX2_19 : mj_LF RX2 19 2 2 0 false := ⟨RX2, TX2, 13, tyX2, rfl, mw_in2, tyX2_ok, nmX2, by decide, mj_gw_in 108 (by decide +kernel) (by decide +kernel), rfl, rfl, (fun h => by first | rfl | cases h), (fun h => by first | rfl | cases h), (fun h => by first | rfl | cases h)⟩
theorem mw_f_RX4_67 : mj_LF RX4 67 2 2 0 false := ⟨RX2, TX2, 13, tyX2, rfl, mw_in2, tyX2_ok, nmX2, by decide, mj_gw_in 109 (by decide +kernel) (by decide +kernel), rfl, rfl, (fun h => by first | rfl | cases h), (fun h => by first | rfl | cases h), (fun h => by first | rfl | cases h)⟩
theorem mw_f_RX6_220 : mj_LF RX6 220 2 2 0 false := ⟨RX2, TX2, 13, tyX2, rfl, mw_in2, tyX2_ok, nmX2, by decide, mj_gw_in 110 (by decide +kernel) (by decide +kernel), rfl, rfl, (fun h => by first | rfl | cases h), (fun h => by first | rfl | cases h), (fun h => by first | rfl | cases h)⟩
theorem mw_f_RX2_22 : mj_LF RX2 22 2 3 0 false := ⟨RX2, TX2, 13, tyX2, rfl, mw_in2, tyX2_ok, nmX2, by decide, mj_gw_in 111 (by decide +kernel) (by decide +kernel), rfl, rfl, (fun h => by first | rfl | cases h), (fun h => by first | rfl | cases h), (fun h => by first | rfl | cases h)⟩
theorem mw_f_RX4_84 : mj_LF RX4 84 2 3 0 false := ⟨RX2, TX2, 13, tyX2, rfl, mw_in2, tyX2_ok, nmX2, by decide, mj_gw_in 112 (by decide +kernel) (by decide +kernel), rfl, rfl, (fun h => by first | rfl | cases h), (fun h => by first | rfl | cases h), (fun h => by first | rfl | cases h)⟩
theorem mw_f_RX6_288 : mj_LF RX6 288 2 3 0 false := ⟨RX2, TX2, 13, tyX2, rfl, mw_in2, tyX2_ok, nmX2, by decide, mj_gw_in 113 (by decide +kernel) (by decide +kernel), rfl, rfl, (fun h => by first | rfl | cases h), (fun h => by first | rfl | cases h), (fun h => by first | rfl | cases h)⟩
theorem mw_f_RX2_25 : mj_LF RX2 25 2 4 0 false := ⟨RX2, TX2, 13, tyX2, rfl, mw_in2, tyX2_ok, nmX2, by decide, mj_gw_in 114 (by decide +kernel) (by decide +kernel), rfl, rfl, (fun h => by first | rfl | cases h), (fun h => by first | rfl | cases h), (fun h => by first | rfl | cases h)⟩
theorem mw_f_RX6_138 : mj_LF RX6 138 2 4 0 false := ⟨RX2, TX2, 13, tyX2, rfl, mw_in2, tyX2_ok, nmX2, by decide, mj_gw_in 115 (by decide +kernel) (by decide +kernel), rfl, rfl, (fun h => by first | rfl | cases h), (fun h => by first | rfl | cases h), (fun h => by first | rfl | cases h)⟩
theorem mw_f_RX4_99 : mj_LF RX4 99 2 4 0 false := ⟨RX2, TX2, 13, tyX2, rfl, mw_in2, tyX2_ok, nmX2, by decide, mj_gw_in 116 (by decide +kernel) (by decide +kernel), rfl, rfl, (fun h => by first | rfl | cases h), (fun h => by first | rfl | cases h), (fun h => by first | rfl | cases h)⟩
theorem mw_f_RX2_28 : mj_LF RX2 28 2 5 0 false := ⟨RX2, TX2, 13, tyX2, rfl, mw_in2, tyX2_ok, nmX2, by decide, mj_gw_in 117 (by decide +kernel) (by decide +kernel), rfl, rfl, (fun h => by first | rfl | cases h), (fun h => by first | rfl | cases h), (fun h => by first | rfl | cases h)⟩
theorem mw_f_RX0_22 : mj_LF RX0 22 2 5 0 false := ⟨RX2, TX2, 13, tyX2, rfl, mw_in2, tyX2_ok, nmX2, by decide, mj_gw_in 118 (by decide +kernel) (by decide +kernel), rfl, rfl, (fun h => by first | rfl | cases h), (fun h => by first | rfl | cases h), (fun h => by first | rfl | cases h)⟩
theorem mw_f_RX6_149 : mj_LF RX6 149 2 5 0 false := ⟨RX2, TX2, 13, tyX2, rfl, mw_in2, tyX2_ok, nmX2, by decide, mj_gw_in 119 (by decide +kernel) (by decide +kernel), rfl, rfl, (fun h => by first | rfl | cases h), (fun h => by first | rfl | cases h), (fun h => by first | rfl | cases h)⟩
theorem mw_f_RX2_31 : mj_LF RX2 31 2 6 0 false := ⟨RX2, TX2, 13, tyX2, rfl, mw_in2, tyX2_ok, nmX2, by decide, mj_gw_in 120 (by decide +kernel) (by decide +kernel), rfl, rfl, (fun h => by first | rfl | cases h), (fun h => by first | rfl | cases h), (fun h => by first | rfl | cases h)⟩
theorem mw_f_RX0_27 : mj_LF RX0 27 2 6 0 false := ⟨RX2, TX2, 13, tyX2, rfl, mw_in2, tyX2_ok, nmX2, by decide, mj_gw_in 121 (by decide +kernel) (by decide +kernel), rfl, rfl, (fun h => by first | rfl | cases h), (fun h => by first | rfl | cases h), (fun h => by first | rfl | cases h)⟩
theorem mw_f_RX6_158 : mj_LF RX6 158 2 6 0 false := ⟨RX2, TX2, 13, tyX2, rfl, mw_in2, tyX2_ok, nmX2, by decide, mj_gw_in 122 (by decide +kernel) (by decide +kernel), rfl, rfl, (fun h => by first | rfl | cases h), (fun h => by first | rfl | cases h), (fun h => by first | rfl | cases h)⟩
theorem mw_f_RX2_34 : mj_LF RX2 34 2 7 0 false := ⟨RX2, TX2, 13, tyX2, rfl, mw_in2, tyX2_ok, nmX2, by decide, mj_gw_in 123 (by decide +kernel) (by decide +kernel), rfl, rfl, (fun h => by first | rfl | cases h), (fun h => by first | rfl | cases h), (fun h => by first | rfl | cases h)⟩
theorem mw_f_RX0_30 : mj_LF RX0 30 2 7 0 false := ⟨RX2, TX2, 13, tyX2, rfl, mw_in2, tyX2_ok, nmX2, by decide, mj_gw_in 124 (by decide +kernel) (by decide +kernel), rfl, rfl, (fun h => by first | rfl | cases h), (fun h => by first | rfl | cases h), (fun h => by first | rfl | cases h)⟩
theorem mw_f_RX6_271 : mj_LF RX6 271 2 7 0 false := ⟨RX2, TX2, 13, tyX2, rfl, mw_in2, tyX2_ok, nmX2, by decide, mj_gw_in 125 (by decide +kernel) (by decide +kernel), rfl, rfl, (fun h => by first | rfl | cases h), (fun h => by first | rfl | cases h), (fun h => by first | rfl | cases h)⟩
theorem mw_f_RX2_37 : mj_LF RX2 37 2 8 3 true := ⟨RX2, TX2, 13, tyX2, rfl, mw_in2, tyX2_ok, nmX2, by decide, mj_gw_in 126 (by decide +kernel) (by decide +kernel), rfl, rfl, (fun h => by first | rfl | cases h), (fun h => by first | rfl | cases h), (fun h => by first | rfl | cases h)⟩
theorem mw_f_RX4_70 : mj_LF RX4 70 2 8 3 true := ⟨RX2, TX2, 13, tyX2, rfl, mw_in2, tyX2_ok, nmX2, by decide, mj_gw_in 127 (by decide +kernel) (by decide +kernel), rfl, rfl, (fun h => by first | rfl | cases h), (fun h => by first | rfl | cases h), (fun h => by first | rfl | cases h)⟩
theorem mw_f_RX2_41 : mj_LF RX2 41 2 9 3 true := ⟨RX2, TX2, 13, tyX2, rfl, mw_in2, tyX2_ok, nmX2, by decide, mj_gw_in 128 (by decide +kernel) (by decide +kernel), rfl, rfl, (fun h => by first | rfl | cases h), (fun h => by first | rfl | cases h), (fun h => by first | rfl | cases h)⟩
theorem mw_f_RX4_81 : mj_LF RX4 81 2 9 3 true := ⟨RX2, TX2, 13, tyX2, rfl, mw_in2, tyX2_ok, nmX2, by decide, mj_gw_in 129 (by decide +kernel) (by decide +kernel), rfl, rfl, (fun h => by first | rfl | cases h), (fun h => by first | rfl | cases h), (fun h => by first | rfl | cases h)⟩
theorem mw_f_RX6_201 : mj_LF RX6 201 2 9 3 true := ⟨RX2, TX2, 13, tyX2, rfl, mw_in2, tyX2_ok, nmX2, by decide, mj_gw_in 130 (by decide +kernel) (by decide +kernel), rfl, rfl, (fun h => by first | rfl | cases h), (fun h => by first | rfl | cases h), (fun h => by first | rfl | cases h)⟩
theorem mw_f_RX2_46 : mj_LF RX2 46 2 10 3 true := ⟨RX2, TX2, 13, tyX2, rfl, mw_in2, tyX2_ok, nmX2, by decide, mj_gw_in 131 (by decide +kernel) (by decide +kernel), rfl, rfl, (fun h => by first | rfl | cases h), (fun h => by first | rfl | cases h), (fun h => by first | rfl | cases h)⟩
theorem mw_f_RX0_33 : mj_LF RX0 33 2 10 3 true := ⟨RX2, TX2, 13, tyX2, rfl, mw_in2, tyX2_ok, nmX2, by decide, mj_gw_in 132 (by decide +kernel) (by decide +kernel), rfl, rfl, (fun h => by first | rfl | cases h), (fun h => by first | rfl | cases h), (fun h => by first | rfl | cases h)⟩
theorem mw_f_RX4_90 : mj_LF RX4 90 2 10 3 true := ⟨RX2, TX2, 13, tyX2, rfl, mw_in2, tyX2_ok, nmX2, by decide, mj_gw_in 133 (by decide +kernel) (by decide +kernel), rfl, rfl, (fun h => by first | rfl | cases h), (fun h => by first | rfl | cases h), (fun h => by first | rfl | cases h)⟩
theorem mw_f_RX6_164 : mj_LF RX6 164 2 10 3 true := ⟨RX2, TX2, 13, tyX2, rfl, mw_in2, tyX2_ok, nmX2, by decide, mj_gw_in 134 (by decide +kernel) (by decide +kernel), rfl, rfl, (fun h => by first | rfl | cases h), (fun h => by first | rfl | cases h), (fun h => by first | rfl | cases h)⟩
theorem mw_f_RX2_50 : mj_LF RX2 50 2 11 0 false := ⟨RX2, TX2, 13, tyX2, rfl, mw_in2, tyX2_ok, nmX2, by decide, mj_gw_in 135 (by decide +kernel) (by decide +kernel), rfl, rfl, (fun h => by first | rfl | cases h), (fun h => by first | rfl | cases h), (fun h => by first | rfl | cases h)⟩
theorem mw_f_RX6_213 : mj_LF RX6 213 2 11 0 false := ⟨RX2, TX2, 13, tyX2, rfl, mw_in2, tyX2_ok, nmX2, by decide, mj_gw_in 136 (by decide +kernel) (by decide +kernel), rfl, rfl, (fun h => by first | rfl | cases h), (fun h => by first | rfl | cases h), (fun h => by first | rfl | cases h)⟩
theorem mw_f_RX2_53 : mj_LF RX2 53 2 12 0 false := ⟨RX2, TX2, 13, tyX2, rfl, mw_in2, tyX2_ok, nmX2, by decide, mj_gw_in 137 (by decide +kernel) (by decide +kernel), rfl, rfl, (fun h => by first | rfl | cases h), (fun h => by first | rfl | cases h), (fun h => by first | rfl | cases h)⟩
theorem mw_f_RX6_217 : mj_LF RX6 217 2 12 0 false := ⟨RX2, TX2, 13, tyX2, rfl, mw_in2, tyX2_ok, nmX2, by decide, mj_gw_in 138 (by decide +kernel) (by decide +kernel), rfl, rfl, (fun h => by first | rfl | cases h), (fun h => by first | rfl | cases h), (fun h => by first | rfl | cases h)⟩
theorem mw_f_RX0_11 : mj_LF RX0 11 0 0 3 true := ⟨RX0, TX0, 3, tyX0, rfl, mw_in0, tyX0_ok, nmX0, by decide, mj_gw_in 175 (by decide +kernel) (by decide +kernel), rfl, rfl, (fun h => by first | rfl | cases h), (fun h => by first | rfl | cases h), (fun h => by first | rfl | cases h)⟩
theorem mw_f_RX0_15 : mj_LF RX0 15 0 1 0 false := ⟨RX0, TX0, 3, tyX0, rfl, mw_in0, tyX0_ok, nmX0, by decide, mj_gw_in 176 (by decide +kernel) (by decide +kernel), rfl, rfl, (fun h => by first | rfl | cases h), (fun h => by first | rfl | cases h), (fun h => by first | rfl | cases h)⟩
theorem mw_f_RX0_19 : mj_LF RX0 19 0 2 0 false := ⟨RX0, TX0, 3, tyX0, rfl, mw_in0, tyX0_ok, nmX0, by decide, mj_gw_in 177 (by decide +kernel) (by decide +kernel), rfl, rfl, (fun h => by first | rfl | cases h), (fun h => by first | rfl | cases h), (fun h => by first | rfl | cases h)⟩
theorem mw_f_RX6_141 : mj_LF RX6 141 0 2 0 false := ⟨RX0, TX0, 3, tyX0, rfl, mw_in0, tyX0_ok, nmX0, by decide, mj_gw_in 178 (by decide +kernel) (by decide +kernel), rfl, rfl, (fun h => by first | rfl | cases h), (fun h => by first | rfl | cases h), (fun h => by first | rfl | cases h)⟩
theorem mw_f_RX5_9 : mj_LF RX5 9 5 0 3 true := ⟨RX5, TX5, 2, tyX5, rfl, mw_in5, tyX5_ok, nmX5, by decide, mj_gw_in 192 (by decide +kernel) (by decide +kernel), rfl, rfl, (fun h => by first | rfl | cases h), (fun h => by first | rfl | cases h), (fun h => by first | rfl | cases h)⟩
theorem mw_f_RX6_281 : mj_LF RX6 281 5 0 3 true := ⟨RX5, TX5, 2, tyX5, rfl, mw_in5, tyX5_ok, nmX5, by decide, mj_gw_in 193 (by decide +kernel) (by decide +kernel), rfl, rfl, (fun h => by first | rfl | cases h), (fun h => by first | rfl | cases h), (fun h => by first | rfl | cases h)⟩
theorem mw_f_RX5_13 : mj_LF RX5 13 5 1 0 false := ⟨RX5, TX5, 2, tyX5, rfl, mw_in5, tyX5_ok, nmX5, by decide, mj_gw_in 194 (by decide +kernel) (by decide +kernel), rfl, rfl, (fun h => by first | rfl | cases h), (fun h => by first | rfl | cases h), (fun h => by first | rfl | cases h)⟩
theorem mw_f_RX6_280 : mj_LF RX6 280 5 1 0 false := ⟨RX5, TX5, 2, tyX5, rfl, mw_in5, tyX5_ok, nmX5, by decide, mj_gw_in 195 (by decide +kernel) (by decide +kernel), rfl, rfl, (fun h => by first | rfl | cases h), (fun h => by first | rfl | cases h), (fun h => by first | rfl | cases h)⟩
theorem mw_f_RX3_9 : mj_LF RX3 9 3 0 1 false := ⟨RX3, TX3, 4, tyX3, rfl, mw_in3, tyX3_ok, nmX3, by decide, mj_gw_in 206 (by decide +kernel) (by decide +kernel), rfl, rfl, (fun h => by first | rfl | cases h), (fun h => by first | rfl | cases h), (fun h => by first | rfl | cases h)⟩
theorem mw_f_RX6_92 : mj_LF RX6 92 3 0 1 false := ⟨RX3, TX3, 4, tyX3, rfl, mw_in3, tyX3_ok, nmX3, by decide, mj_gw_in 207 (by decide +kernel) (by decide +kernel), rfl, rfl, (fun h => by first | rfl | cases h), (fun h => by first | rfl | cases h), (fun h => by first | rfl | cases h)⟩
theorem mw_f_RX3_15 : mj_LF RX3 15 3 1 0 false := ⟨RX3, TX3, 4, tyX3, rfl, mw_in3, tyX3_ok, nmX3, by decide, mj_gw_in 208 (by decide +kernel) (by decide +kernel), rfl, rfl, (fun h => by first | rfl | cases h), (fun h => by first | rfl | cases h), (fun h => by first | rfl | cases h)⟩
theorem mw_f_RX6_96 : mj_LF RX6 96 3 1 0 false := ⟨RX3, TX3, 4, tyX3, rfl, mw_in3, tyX3_ok, nmX3, by decide, mj_gw_in 209 (by decide +kernel) (by decide +kernel), rfl, rfl, (fun h => by first | rfl | cases h), (fun h => by first | rfl | cases h), (fun h => by first | rfl | cases h)⟩
theorem mw_f_RX3_19 : mj_LF RX3 19 3 2 0 false := ⟨RX3, TX3, 4, tyX3, rfl, mw_in3, tyX3_ok, nmX3, by decide, mj_gw_in 210 (by decide +kernel) (by decide +kernel), rfl, rfl, (fun h => by first | rfl | cases h), (fun h => by first | rfl | cases h), (fun h => by first | rfl | cases h)⟩
theorem mw_f_RX6_113 : mj_LF RX6 113 3 2 0 false := ⟨RX3, TX3, 4, tyX3, rfl, mw_in3, tyX3_ok, nmX3, by decide, mj_gw_in 211 (by decide +kernel) (by decide +kernel), rfl, rfl, (fun h => by first | rfl | cases h), (fun h => by first | rfl | cases h), (fun h => by first | rfl | cases h)⟩
theorem mw_f_RX3_22 : mj_LF RX3 22 3 3 3 true := ⟨RX3, TX3, 4, tyX3, rfl, mw_in3, tyX3_ok, nmX3, by decide, mj_gw_in 212 (by decide +kernel) (by decide +kernel), rfl, rfl, (fun h => by first | rfl | cases h), (fun h => by first | rfl | cases h), (fun h => by first | rfl | cases h)⟩
theorem mw_f_RX6_103 : mj_LF RX6 103 3 3 3 true := ⟨RX3, TX3, 4, tyX3, rfl, mw_in3, tyX3_ok, nmX3, by decide, mj_gw_in 213 (by decide +kernel) (by decide +kernel), rfl, rfl, (fun h => by first | rfl | cases h), (fun h => by first | rfl | cases h), (fun h => by first | rfl | cases h)⟩
theorem mw_f_RX6_11 : mj_LF RX6 11 6 0 3 true := ⟨RX6, TX6, 10, tyX6, rfl, mw_in6, tyX6_ok, nmX6, by decide, mj_gw_in 223 (by decide +kernel) (by decide +kernel), rfl, rfl, (fun h => by first | rfl | cases h), (fun h => by first | rfl | cases h), (fun h => by first | rfl | cases h)⟩
theorem mw_f_RX6_18 : mj_LF RX6 18 6 1 3 true := ⟨RX6, TX6, 10, tyX6, rfl, mw_in6, tyX6_ok, nmX6, by decide, mj_gw_in 224 (by decide +kernel) (by decide +kernel), rfl, rfl, (fun h => by first | rfl | cases h), (fun h => by first | rfl | cases h), (fun h => by first | rfl | cases h)⟩
theorem mw_f_RX6_25 : mj_LF RX6 25 6 2 3 true := ⟨RX6, TX6, 10, tyX6, rfl, mw_in6, tyX6_ok, nmX6, by decide, mj_gw_in 225 (by decide +kernel) (by decide +kernel), rfl, rfl, (fun h => by first | rfl | cases h), (fun h => by first | rfl | cases h), (fun h => by first | rfl | cases h)⟩
theorem mw_f_RX6_29 : mj_LF RX6 29 6 3 3 true := ⟨RX6, TX6, 10, tyX6, rfl, mw_in6, tyX6_ok, nmX6, by decide, mj_gw_in 226 (by decide +kernel) (by decide +kernel), rfl, rfl, (fun h => by first | rfl | cases h), (fun h => by first | rfl | cases h), (fun h => by first | rfl | cases h)⟩
theorem mw_f_RX6_35 : mj_LF RX6 35 6 4 3 true := ⟨RX6, TX6, 10, tyX6, rfl, mw_in6, tyX6_ok, nmX6, by decide, mj_gw_in 227 (by decide +kernel) (by decide +kernel), rfl, rfl, (fun h => by first | rfl | cases h), (fun h => by first | rfl | cases h), (fun h => by first | rfl | cases h)⟩
theorem mw_f_RX6_39 : mj_LF RX6 39 6 5 3 true := ⟨RX6, TX6, 10, tyX6, rfl, mw_in6, tyX6_ok, nmX6, by decide, mj_gw_in 228 (by decide +kernel) (by decide +kernel), rfl, rfl, (fun h => by first | rfl | cases h), (fun h => by first | rfl | cases h), (fun h => by first | rfl | cases h)⟩
theorem mw_f_RX6_46 : mj_LF RX6 46 6 6 3 true := ⟨RX6, TX6, 10, tyX6, rfl, mw_in6, tyX6_ok, nmX6, by decide, mj_gw_in 229 (by decide +kernel) (by decide +kernel), rfl, rfl, (fun h => by first | rfl | cases h), (fun h => by first | rfl | cases h), (fun h => by first | rfl | cases h)⟩
theorem mw_f_RX6_53 : mj_LF RX6 53 6 7 3 true := ⟨RX6, TX6, 10, tyX6, rfl, mw_in6, tyX6_ok, nmX6, by decide, mj_gw_in 230 (by decide +kernel) (by decide +kernel), rfl, rfl, (fun h => by first | rfl | cases h), (fun h => by first | rfl | cases h), (fun h => by first | rfl | cases h)⟩
theorem mw_f_RX6_57 : mj_LF RX6 57 6 8 0 false := ⟨RX6, TX6, 10, tyX6, rfl, mw_in6, tyX6_ok, nmX6, by decide, mj_gw_in 231 (by decide +kernel) (by decide +kernel), rfl, rfl, (fun h => by first | rfl | cases h), (fun h => by first | rfl | cases h), (fun h => by first | rfl | cases h)⟩
theorem mw_f_RX6_61 : mj_LF RX6 61 6 9 0 false := ⟨RX6, TX6, 10, tyX6, rfl, mw_in6, tyX6_ok, nmX6, by decide, mj_gw_in 232 (by decide +kernel) (by decide +kernel), rfl, rfl, (fun h => by first | rfl | cases h), (fun h => by first | rfl | cases h), (fun h => by first | rfl | cases h)⟩
theorem mw_st_RX6_274 : Cond.fieldLink RX6 274 "CloudHerd" "ABOVE" "[I" ∈ mj_gw := mj_gw_in 675 (by decide +kernel) (by decide +kernel)
theorem mw_st_RX5_17 : Cond.fieldLink RX5 17 "CloudHerd$Trace" "SIZE_BODIES" "[I" ∈ mj_gw := mj_gw_in 685 (by decide +kernel) (by decide +kernel)
theorem mw_st_RX5_25 : Cond.fieldLink RX5 25 "CloudHerd$Trace" "MARK_BODIES" "[I" ∈ mj_gw := mj_gw_in 687 (by decide +kernel) (by decide +kernel)
theorem mw_f_RX7_7 : mj_LF RX7 7 7 0 3 true := ⟨RX7, TX7, 29, tyX7, rfl, mw_in7, tyX7_ok, nmX7, by decide, mj_gw_in 723 (by decide +kernel) (by decide +kernel), rfl, rfl, (fun h => by first | rfl | cases h), (fun h => by first | rfl | cases h), (fun h => by first | rfl | cases h)⟩
theorem mw_f_RX7_13 : mj_LF RX7 13 7 1 3 true := ⟨RX7, TX7, 29, tyX7, rfl, mw_in7, tyX7_ok, nmX7, by decide, mj_gw_in 724 (by decide +kernel) (by decide +kernel), rfl, rfl, (fun h => by first | rfl | cases h), (fun h => by first | rfl | cases h), (fun h => by first | rfl | cases h)⟩
theorem mw_f_RX7_16 : mj_LF RX7 16 7 2 3 true := ⟨RX7, TX7, 29, tyX7, rfl, mw_in7, tyX7_ok, nmX7, by decide, mj_gw_in 725 (by decide +kernel) (by decide +kernel), rfl, rfl, (fun h => by first | rfl | cases h), (fun h => by first | rfl | cases h), (fun h => by first | rfl | cases h)⟩
theorem mw_f_RX7_53 : mj_LF RX7 53 7 3 0 false := ⟨RX7, TX7, 29, tyX7, rfl, mw_in7, tyX7_ok, nmX7, by decide, mj_gw_in 726 (by decide +kernel) (by decide +kernel), rfl, rfl, (fun h => by first | rfl | cases h), (fun h => by first | rfl | cases h), (fun h => by first | rfl | cases h)⟩
theorem mw_f_RX7_154 : mj_LF RX7 154 7 4 1 false := ⟨RX7, TX7, 29, tyX7, rfl, mw_in7, tyX7_ok, nmX7, by decide, mj_gw_in 727 (by decide +kernel) (by decide +kernel), rfl, rfl, (fun h => by first | rfl | cases h), (fun h => by first | rfl | cases h), (fun h => by first | rfl | cases h)⟩
theorem mw_f_RX7_19 : mj_LF RX7 19 7 5 3 true := ⟨RX7, TX7, 29, tyX7, rfl, mw_in7, tyX7_ok, nmX7, by decide, mj_gw_in 728 (by decide +kernel) (by decide +kernel), rfl, rfl, (fun h => by first | rfl | cases h), (fun h => by first | rfl | cases h), (fun h => by first | rfl | cases h)⟩
theorem mw_f_RX7_22 : mj_LF RX7 22 7 6 3 true := ⟨RX7, TX7, 29, tyX7, rfl, mw_in7, tyX7_ok, nmX7, by decide, mj_gw_in 729 (by decide +kernel) (by decide +kernel), rfl, rfl, (fun h => by first | rfl | cases h), (fun h => by first | rfl | cases h), (fun h => by first | rfl | cases h)⟩
theorem mw_f_RX7_25 : mj_LF RX7 25 7 7 3 true := ⟨RX7, TX7, 29, tyX7, rfl, mw_in7, tyX7_ok, nmX7, by decide, mj_gw_in 730 (by decide +kernel) (by decide +kernel), rfl, rfl, (fun h => by first | rfl | cases h), (fun h => by first | rfl | cases h), (fun h => by first | rfl | cases h)⟩
theorem mw_f_RX7_84 : mj_LF RX7 84 7 8 0 false := ⟨RX7, TX7, 29, tyX7, rfl, mw_in7, tyX7_ok, nmX7, by decide, mj_gw_in 731 (by decide +kernel) (by decide +kernel), rfl, rfl, (fun h => by first | rfl | cases h), (fun h => by first | rfl | cases h), (fun h => by first | rfl | cases h)⟩
theorem mw_f_RX7_150 : mj_LF RX7 150 7 9 0 false := ⟨RX7, TX7, 29, tyX7, rfl, mw_in7, tyX7_ok, nmX7, by decide, mj_gw_in 732 (by decide +kernel) (by decide +kernel), rfl, rfl, (fun h => by first | rfl | cases h), (fun h => by first | rfl | cases h), (fun h => by first | rfl | cases h)⟩
theorem mw_f_RX7_88 : mj_LF RX7 88 7 10 0 false := ⟨RX7, TX7, 29, tyX7, rfl, mw_in7, tyX7_ok, nmX7, by decide, mj_gw_in 733 (by decide +kernel) (by decide +kernel), rfl, rfl, (fun h => by first | rfl | cases h), (fun h => by first | rfl | cases h), (fun h => by first | rfl | cases h)⟩
theorem mw_f_RX7_94 : mj_LF RX7 94 7 11 0 false := ⟨RX7, TX7, 29, tyX7, rfl, mw_in7, tyX7_ok, nmX7, by decide, mj_gw_in 734 (by decide +kernel) (by decide +kernel), rfl, rfl, (fun h => by first | rfl | cases h), (fun h => by first | rfl | cases h), (fun h => by first | rfl | cases h)⟩
theorem mw_f_RX7_97 : mj_LF RX7 97 7 12 0 false := ⟨RX7, TX7, 29, tyX7, rfl, mw_in7, tyX7_ok, nmX7, by decide, mj_gw_in 735 (by decide +kernel) (by decide +kernel), rfl, rfl, (fun h => by first | rfl | cases h), (fun h => by first | rfl | cases h), (fun h => by first | rfl | cases h)⟩
theorem mw_f_RX7_91 : mj_LF RX7 91 7 13 0 false := ⟨RX7, TX7, 29, tyX7, rfl, mw_in7, tyX7_ok, nmX7, by decide, mj_gw_in 736 (by decide +kernel) (by decide +kernel), rfl, rfl, (fun h => by first | rfl | cases h), (fun h => by first | rfl | cases h), (fun h => by first | rfl | cases h)⟩
theorem mw_f_RX7_108 : mj_LF RX7 108 7 14 0 false := ⟨RX7, TX7, 29, tyX7, rfl, mw_in7, tyX7_ok, nmX7, by decide, mj_gw_in 737 (by decide +kernel) (by decide +kernel), rfl, rfl, (fun h => by first | rfl | cases h), (fun h => by first | rfl | cases h), (fun h => by first | rfl | cases h)⟩
theorem mw_f_RX7_28 : mj_LF RX7 28 7 15 3 true := ⟨RX7, TX7, 29, tyX7, rfl, mw_in7, tyX7_ok, nmX7, by decide, mj_gw_in 738 (by decide +kernel) (by decide +kernel), rfl, rfl, (fun h => by first | rfl | cases h), (fun h => by first | rfl | cases h), (fun h => by first | rfl | cases h)⟩
theorem mw_f_RX7_174 : mj_LF RX7 174 7 16 0 false := ⟨RX7, TX7, 29, tyX7, rfl, mw_in7, tyX7_ok, nmX7, by decide, mj_gw_in 739 (by decide +kernel) (by decide +kernel), rfl, rfl, (fun h => by first | rfl | cases h), (fun h => by first | rfl | cases h), (fun h => by first | rfl | cases h)⟩
theorem mw_f_RX7_31 : mj_LF RX7 31 7 17 3 true := ⟨RX7, TX7, 29, tyX7, rfl, mw_in7, tyX7_ok, nmX7, by decide, mj_gw_in 740 (by decide +kernel) (by decide +kernel), rfl, rfl, (fun h => by first | rfl | cases h), (fun h => by first | rfl | cases h), (fun h => by first | rfl | cases h)⟩
theorem mw_f_RX7_158 : mj_LF RX7 158 7 18 0 false := ⟨RX7, TX7, 29, tyX7, rfl, mw_in7, tyX7_ok, nmX7, by decide, mj_gw_in 741 (by decide +kernel) (by decide +kernel), rfl, rfl, (fun h => by first | rfl | cases h), (fun h => by first | rfl | cases h), (fun h => by first | rfl | cases h)⟩
theorem mw_f_RX7_34 : mj_LF RX7 34 7 19 3 true := ⟨RX7, TX7, 29, tyX7, rfl, mw_in7, tyX7_ok, nmX7, by decide, mj_gw_in 742 (by decide +kernel) (by decide +kernel), rfl, rfl, (fun h => by first | rfl | cases h), (fun h => by first | rfl | cases h), (fun h => by first | rfl | cases h)⟩
theorem mw_f_RX7_37 : mj_LF RX7 37 7 20 3 true := ⟨RX7, TX7, 29, tyX7, rfl, mw_in7, tyX7_ok, nmX7, by decide, mj_gw_in 743 (by decide +kernel) (by decide +kernel), rfl, rfl, (fun h => by first | rfl | cases h), (fun h => by first | rfl | cases h), (fun h => by first | rfl | cases h)⟩
theorem mw_f_RX7_41 : mj_LF RX7 41 7 21 3 true := ⟨RX7, TX7, 29, tyX7, rfl, mw_in7, tyX7_ok, nmX7, by decide, mj_gw_in 744 (by decide +kernel) (by decide +kernel), rfl, rfl, (fun h => by first | rfl | cases h), (fun h => by first | rfl | cases h), (fun h => by first | rfl | cases h)⟩
theorem mw_f_RX7_261 : mj_LF RX7 261 7 22 0 false := ⟨RX7, TX7, 29, tyX7, rfl, mw_in7, tyX7_ok, nmX7, by decide, mj_gw_in 745 (by decide +kernel) (by decide +kernel), rfl, rfl, (fun h => by first | rfl | cases h), (fun h => by first | rfl | cases h), (fun h => by first | rfl | cases h)⟩
theorem mw_f_RX7_266 : mj_LF RX7 266 7 23 2 false := ⟨RX7, TX7, 29, tyX7, rfl, mw_in7, tyX7_ok, nmX7, by decide, mj_gw_in 746 (by decide +kernel) (by decide +kernel), rfl, rfl, (fun h => by first | rfl | cases h), (fun h => by first | rfl | cases h), (fun h => by first | rfl | cases h)⟩
theorem mw_f_RX7_270 : mj_LF RX7 270 7 24 2 false := ⟨RX7, TX7, 29, tyX7, rfl, mw_in7, tyX7_ok, nmX7, by decide, mj_gw_in 747 (by decide +kernel) (by decide +kernel), rfl, rfl, (fun h => by first | rfl | cases h), (fun h => by first | rfl | cases h), (fun h => by first | rfl | cases h)⟩
theorem mw_f_RX7_44 : mj_LF RX7 44 7 25 3 true := ⟨RX7, TX7, 29, tyX7, rfl, mw_in7, tyX7_ok, nmX7, by decide, mj_gw_in 748 (by decide +kernel) (by decide +kernel), rfl, rfl, (fun h => by first | rfl | cases h), (fun h => by first | rfl | cases h), (fun h => by first | rfl | cases h)⟩
theorem mw_f_RX7_47 : mj_LF RX7 47 7 26 3 true := ⟨RX7, TX7, 29, tyX7, rfl, mw_in7, tyX7_ok, nmX7, by decide, mj_gw_in 749 (by decide +kernel) (by decide +kernel), rfl, rfl, (fun h => by first | rfl | cases h), (fun h => by first | rfl | cases h), (fun h => by first | rfl | cases h)⟩
theorem mw_f_RX7_50 : mj_LF RX7 50 7 27 3 true := ⟨RX7, TX7, 29, tyX7, rfl, mw_in7, tyX7_ok, nmX7, by decide, mj_gw_in 750 (by decide +kernel) (by decide +kernel), rfl, rfl, (fun h => by first | rfl | cases h), (fun h => by first | rfl | cases h), (fun h => by first | rfl | cases h)⟩
theorem mw_f_RX7_281 : mj_LF RX7 281 7 28 0 false := ⟨RX7, TX7, 29, tyX7, rfl, mw_in7, tyX7_ok, nmX7, by decide, mj_gw_in 751 (by decide +kernel) (by decide +kernel), rfl, rfl, (fun h => by first | rfl | cases h), (fun h => by first | rfl | cases h), (fun h => by first | rfl | cases h)⟩
theorem mw_c_RX6_73 : Cond.constant RX6 73 (-1000001) ∈ mj_gw := mj_gw_in 264 (by decide +kernel) (by decide +kernel)
theorem mw_c_RX6_294 : Cond.constant RX6 294 (-1000010) ∈ mj_gw := mj_gw_in 269 (by decide +kernel) (by decide +kernel)
theorem mw_c_RX6_120 : Cond.constant RX6 120 (-1000003) ∈ mj_gw := mj_gw_in 314 (by decide +kernel) (by decide +kernel)
theorem mw_c_RX6_128 : Cond.constant RX6 128 (-1000100) ∈ mj_gw := mj_gw_in 384 (by decide +kernel) (by decide +kernel)
theorem mw_c_RX6_142 : Cond.constant RX6 142 (-1000002) ∈ mj_gw := mj_gw_in 406 (by decide +kernel) (by decide +kernel)
theorem mw_c_RX6_216 : Cond.constant RX6 216 (-1000000) ∈ mj_gw := mj_gw_in 560 (by decide +kernel) (by decide +kernel)
theorem mw_c_RX6_249 : Cond.constantLong RX6 249 (6) ∈ mj_gw := mj_gw_in 623 (by decide +kernel) (by decide +kernel)
theorem mw_c_RJ6_265 : Cond.constant RJ6 265 (1431655765) ∈ mj_gw := mj_gw_in 644 (by decide +kernel) (by decide +kernel)
theorem mw_c_RJ6_266 : Cond.constant RJ6 266 (858993459) ∈ mj_gw := mj_gw_in 645 (by decide +kernel) (by decide +kernel)
theorem mw_c_RJ6_267 : Cond.constant RJ6 267 (252645135) ∈ mj_gw := mj_gw_in 646 (by decide +kernel) (by decide +kernel)
theorem mw_c_RX6_262 : Cond.constantLong RX6 262 (-1000001) ∈ mj_gw := mj_gw_in 654 (by decide +kernel) (by decide +kernel)
theorem mw_c_RX7_58 : Cond.constantLong RX7 58 (7) ∈ mj_gw := mj_gw_in 819 (by decide +kernel) (by decide +kernel)
theorem mw_c_RX7_68 : Cond.constantLong RX7 68 (2) ∈ mj_gw := mj_gw_in 823 (by decide +kernel) (by decide +kernel)
theorem mw_c_RX7_70 : Cond.constant RX7 70 (-1000001) ∈ mj_gw := mj_gw_in 824 (by decide +kernel) (by decide +kernel)
theorem mw_c_RX7_57 : Cond.constant RX7 57 (-1000010) ∈ mj_gw := mj_gw_in 829 (by decide +kernel) (by decide +kernel)
theorem mw_c_RX7_82 : Cond.constantLong RX7 82 (255) ∈ mj_gw := mj_gw_in 853 (by decide +kernel) (by decide +kernel)
theorem mw_c_RX7_87 : Cond.constant RX7 87 (-1000003) ∈ mj_gw := mj_gw_in 854 (by decide +kernel) (by decide +kernel)
theorem mw_c_RX7_100 : Cond.constantLong RX7 100 (48) ∈ mj_gw := mj_gw_in 867 (by decide +kernel) (by decide +kernel)
theorem mw_c_RX7_102 : Cond.constantLong RX7 102 (57) ∈ mj_gw := mj_gw_in 868 (by decide +kernel) (by decide +kernel)
theorem mw_c_RX7_104 : Cond.constantLong RX7 104 (97) ∈ mj_gw := mj_gw_in 869 (by decide +kernel) (by decide +kernel)
theorem mw_c_RX7_106 : Cond.constantLong RX7 106 (122) ∈ mj_gw := mj_gw_in 870 (by decide +kernel) (by decide +kernel)
theorem mw_c_RX7_153 : Cond.constant RX7 153 (-1000100) ∈ mj_gw := mj_gw_in 911 (by decide +kernel) (by decide +kernel)
theorem mw_c_RX7_193 : Cond.constant RX7 193 (-1000002) ∈ mj_gw := mj_gw_in 920 (by decide +kernel) (by decide +kernel)
theorem mw_c_RX7_194 : Cond.constantLong RX7 194 (24) ∈ mj_gw := mj_gw_in 925 (by decide +kernel) (by decide +kernel)
theorem mw_c_RX7_209 : Cond.constantLong RX7 209 (4) ∈ mj_gw := mj_gw_in 988 (by decide +kernel) (by decide +kernel)
theorem mw_c_RX7_214 : Cond.constantLong RX7 214 (31) ∈ mj_gw := mj_gw_in 1000 (by decide +kernel) (by decide +kernel)
theorem mw_c_RX7_222 : Cond.constantLong RX7 222 (5) ∈ mj_gw := mj_gw_in 1009 (by decide +kernel) (by decide +kernel)
theorem mw_c_RX7_224 : Cond.constantLong RX7 224 (60) ∈ mj_gw := mj_gw_in 1014 (by decide +kernel) (by decide +kernel)
theorem mw_c_RX7_226 : Cond.constantLong RX7 226 (3) ∈ mj_gw := mj_gw_in 1015 (by decide +kernel) (by decide +kernel)
theorem mw_c_RX7_237 : Cond.constant RX7 237 (-1000000) ∈ mj_gw := mj_gw_in 1036 (by decide +kernel) (by decide +kernel)
theorem mw_c_RX7_238 : Cond.constantLong RX7 238 (8) ∈ mj_gw := mj_gw_in 1049 (by decide +kernel) (by decide +kernel)
theorem mw_c_RX7_243 : Cond.constantLong RX7 243 (12) ∈ mj_gw := mj_gw_in 1062 (by decide +kernel) (by decide +kernel)
theorem mw_c_RX7_253 : Cond.constantLong RX7 253 (6) ∈ mj_gw := mj_gw_in 1083 (by decide +kernel) (by decide +kernel)
theorem mw_c_RX7_259 : Cond.constantLong RX7 259 (20) ∈ mj_gw := mj_gw_in 1095 (by decide +kernel) (by decide +kernel)
theorem mw_c_RX7_264 : Cond.constantLong RX7 264 (-1) ∈ mj_gw := mj_gw_in 1096 (by decide +kernel) (by decide +kernel)
theorem mw_c_RX7_276 : Cond.constantLong RX7 276 (-1000001) ∈ mj_gw := mj_gw_in 1101 (by decide +kernel) (by decide +kernel)
def jX0_keep : mj_J := (yX0_keep, cX0_keep, 4, none, 2, 0, 0)
theorem kX0_keep : mj_K jX0_keep 1 := ⟨mj_gw_in 422 (by decide +kernel) (by decide +kernel), mw_ini_RX0, ⟨by decide +kernel, by decide +kernel, by decide +kernel⟩, rfl, rfl, by decide⟩
theorem mw_i_X0_keep : Cond.instanceMethod yX0_keep ∈ mj_gw := mj_gw_in 420 (by decide +kernel) (by decide +kernel)
theorem mw_s_X0_keep : Cond.selects (yX0_keep).cls yX0_keep yX0_keep ∈ mj_gw := mj_gw_in 421 (by decide +kernel) (by decide +kernel)
def jX0_takeBack : mj_J := (yX0_takeBack, cX0_takeBack, 4, none, 1, 0, 0)
theorem kX0_takeBack : mj_K jX0_takeBack 1 := ⟨mj_gw_in 410 (by decide +kernel) (by decide +kernel), mw_ini_RX0, ⟨by decide +kernel, by decide +kernel, by decide +kernel⟩, rfl, rfl, by decide⟩
theorem mw_i_X0_takeBack : Cond.instanceMethod yX0_takeBack ∈ mj_gw := mj_gw_in 408 (by decide +kernel) (by decide +kernel)
theorem mw_s_X0_takeBack : Cond.selects (yX0_takeBack).cls yX0_takeBack yX0_takeBack ∈ mj_gw := mj_gw_in 409 (by decide +kernel) (by decide +kernel)
def jX0_forget : mj_J := (yX0_forget, cX0_forget, 1, none, 0, 0, 0)
theorem kX0_forget : mj_K jX0_forget 0 := ⟨mj_gw_in 397 (by decide +kernel) (by decide +kernel), mw_ini_RX0, ⟨by decide +kernel, by decide +kernel, by decide +kernel⟩, rfl, rfl, by decide⟩
theorem mw_i_X0_forget : Cond.instanceMethod yX0_forget ∈ mj_gw := mj_gw_in 395 (by decide +kernel) (by decide +kernel)
theorem mw_s_X0_forget : Cond.selects (yX0_forget).cls yX0_forget yX0_forget ∈ mj_gw := mj_gw_in 396 (by decide +kernel) (by decide +kernel)
def jX1_begin : mj_J := (yX1_begin, cX1_begin, 4, none, 0, 0, 0)
theorem kX1_begin : mj_K jX1_begin 3 := ⟨mj_gw_in 383 (by decide +kernel) (by decide +kernel), mw_ini_RX1, ⟨by decide +kernel, by decide +kernel, by decide +kernel⟩, rfl, rfl, by decide⟩
theorem mw_i_X1_begin : Cond.instanceMethod yX1_begin ∈ mj_gw := mj_gw_in 381 (by decide +kernel) (by decide +kernel)
theorem mw_s_X1_begin : Cond.selects (yX1_begin).cls yX1_begin yX1_begin ∈ mj_gw := mj_gw_in 382 (by decide +kernel) (by decide +kernel)
def jX1_become : mj_J := (yX1_become, cX1_become, 2, none, 0, 0, 0)
theorem kX1_become : mj_K jX1_become 1 := ⟨mj_gw_in 393 (by decide +kernel) (by decide +kernel), mw_ini_RX1, ⟨by decide +kernel, by decide +kernel, by decide +kernel⟩, rfl, rfl, by decide⟩
theorem mw_i_X1_become : Cond.instanceMethod yX1_become ∈ mj_gw := mj_gw_in 391 (by decide +kernel) (by decide +kernel)
theorem mw_s_X1_become : Cond.selects (yX1_become).cls yX1_become yX1_become ∈ mj_gw := mj_gw_in 392 (by decide +kernel) (by decide +kernel)
def jX1_packed : mj_J := (yX1_packed, cX1_packed, 1, (some .int), 1, 0, 0)
theorem kX1_packed : mj_K jX1_packed 0 := ⟨mj_gw_in 426 (by decide +kernel) (by decide +kernel), mw_ini_RX1, ⟨by decide +kernel, by decide +kernel, by decide +kernel⟩, rfl, rfl, by decide⟩
theorem mw_i_X1_packed : Cond.instanceMethod yX1_packed ∈ mj_gw := mj_gw_in 424 (by decide +kernel) (by decide +kernel)
theorem mw_s_X1_packed : Cond.selects (yX1_packed).cls yX1_packed yX1_packed ∈ mj_gw := mj_gw_in 425 (by decide +kernel) (by decide +kernel)
def jX1_unpack : mj_J := (yX1_unpack, cX1_unpack, 2, none, 0, 0, 0)
theorem kX1_unpack : mj_K jX1_unpack 1 := ⟨mj_gw_in 414 (by decide +kernel) (by decide +kernel), mw_ini_RX1, ⟨by decide +kernel, by decide +kernel, by decide +kernel⟩, rfl, rfl, by decide⟩
theorem mw_i_X1_unpack : Cond.instanceMethod yX1_unpack ∈ mj_gw := mj_gw_in 412 (by decide +kernel) (by decide +kernel)
theorem mw_s_X1_unpack : Cond.selects (yX1_unpack).cls yX1_unpack yX1_unpack ∈ mj_gw := mj_gw_in 413 (by decide +kernel) (by decide +kernel)
def jX1_part : mj_J := (yX1_part, cX1_part, 2, (some .int), 1, 0, 0)
theorem kX1_part : mj_K jX1_part 1 := ⟨mj_gw_in 527 (by decide +kernel) (by decide +kernel), mw_ini_RX1, ⟨by decide +kernel, by decide +kernel, by decide +kernel⟩, rfl, rfl, by decide⟩
theorem mw_i_X1_part : Cond.instanceMethod yX1_part ∈ mj_gw := mj_gw_in 525 (by decide +kernel) (by decide +kernel)
theorem mw_s_X1_part : Cond.selects (yX1_part).cls yX1_part yX1_part ∈ mj_gw := mj_gw_in 526 (by decide +kernel) (by decide +kernel)
def jX1_canRise : mj_J := (yX1_canRise, cX1_canRise, 1, (some .boolean), 0, 0, 0)
theorem kX1_canRise : mj_K jX1_canRise 0 := ⟨mj_gw_in 507 (by decide +kernel) (by decide +kernel), mw_ini_RX1, ⟨by decide +kernel, by decide +kernel, by decide +kernel⟩, rfl, rfl, by decide⟩
theorem mw_i_X1_canRise : Cond.instanceMethod yX1_canRise ∈ mj_gw := mj_gw_in 505 (by decide +kernel) (by decide +kernel)
theorem mw_s_X1_canRise : Cond.selects (yX1_canRise).cls yX1_canRise yX1_canRise ∈ mj_gw := mj_gw_in 506 (by decide +kernel) (by decide +kernel)
def jX1_moveTo : mj_J := (yX1_moveTo, cX1_moveTo, 2, none, 1, 0, 0)
theorem kX1_moveTo : mj_K jX1_moveTo 1 := ⟨mj_gw_in 511 (by decide +kernel) (by decide +kernel), mw_ini_RX1, ⟨by decide +kernel, by decide +kernel, by decide +kernel⟩, rfl, rfl, by decide⟩
theorem mw_i_X1_moveTo : Cond.instanceMethod yX1_moveTo ∈ mj_gw := mj_gw_in 509 (by decide +kernel) (by decide +kernel)
theorem mw_s_X1_moveTo : Cond.selects (yX1_moveTo).cls yX1_moveTo yX1_moveTo ∈ mj_gw := mj_gw_in 510 (by decide +kernel) (by decide +kernel)
def jX1_driftedFrom : mj_J := (yX1_driftedFrom, cX1_driftedFrom, 3, (some .int), 1, 0, 0)
theorem kX1_driftedFrom : mj_K jX1_driftedFrom 2 := ⟨mj_gw_in 452 (by decide +kernel) (by decide +kernel), mw_ini_RX1, ⟨by decide +kernel, by decide +kernel, by decide +kernel⟩, rfl, rfl, by decide⟩
theorem mw_i_X1_driftedFrom : Cond.instanceMethod yX1_driftedFrom ∈ mj_gw := mj_gw_in 450 (by decide +kernel) (by decide +kernel)
theorem mw_s_X1_driftedFrom : Cond.selects (yX1_driftedFrom).cls yX1_driftedFrom yX1_driftedFrom ∈ mj_gw := mj_gw_in 451 (by decide +kernel) (by decide +kernel)
def jX1_opposite : mj_J := (yX1_opposite, cX1_opposite, 1, (some .int), 0, 0, 0)
theorem kX1_opposite : mj_K jX1_opposite 1 := ⟨mj_gw_in 455 (by decide +kernel) (by decide +kernel), mw_ini_RX1, ⟨by decide +kernel, by decide +kernel, by decide +kernel⟩, rfl, rfl, by decide⟩
theorem mw_t_X1_opposite : Cond.static yX1_opposite ∈ mj_gw := mj_gw_in 454 (by decide +kernel) (by decide +kernel)
def jX1_beside : mj_J := (yX1_beside, cX1_beside, 4, (some .int), 0, 0, 0)
theorem kX1_beside : mj_K jX1_beside 2 := ⟨mj_gw_in 458 (by decide +kernel) (by decide +kernel), mw_ini_RX1, ⟨by decide +kernel, by decide +kernel, by decide +kernel⟩, rfl, rfl, by decide⟩
theorem mw_t_X1_beside : Cond.static yX1_beside ∈ mj_gw := mj_gw_in 457 (by decide +kernel) (by decide +kernel)
def jX1_meets : mj_J := (yX1_meets, cX1_meets, 2, (some .boolean), 0, 0, 0)
theorem kX1_meets : mj_K jX1_meets 1 := ⟨mj_gw_in 466 (by decide +kernel) (by decide +kernel), mw_ini_RX1, ⟨by decide +kernel, by decide +kernel, by decide +kernel⟩, rfl, rfl, by decide⟩
theorem mw_i_X1_meets : Cond.instanceMethod yX1_meets ∈ mj_gw := mj_gw_in 464 (by decide +kernel) (by decide +kernel)
theorem mw_s_X1_meets : Cond.selects (yX1_meets).cls yX1_meets yX1_meets ∈ mj_gw := mj_gw_in 465 (by decide +kernel) (by decide +kernel)
def jX1_swallow : mj_J := (yX1_swallow, cX1_swallow, 2, none, 1, 0, 0)
theorem kX1_swallow : mj_K jX1_swallow 1 := ⟨mj_gw_in 470 (by decide +kernel) (by decide +kernel), mw_ini_RX1, ⟨by decide +kernel, by decide +kernel, by decide +kernel⟩, rfl, rfl, by decide⟩
theorem mw_i_X1_swallow : Cond.instanceMethod yX1_swallow ∈ mj_gw := mj_gw_in 468 (by decide +kernel) (by decide +kernel)
theorem mw_s_X1_swallow : Cond.selects (yX1_swallow).cls yX1_swallow yX1_swallow ∈ mj_gw := mj_gw_in 469 (by decide +kernel) (by decide +kernel)
def jX1_rainOver : mj_J := (yX1_rainOver, cX1_rainOver, 2, none, 1, 0, 0)
theorem kX1_rainOver : mj_K jX1_rainOver 1 := ⟨mj_gw_in 483 (by decide +kernel) (by decide +kernel), mw_ini_RX1, ⟨by decide +kernel, by decide +kernel, by decide +kernel⟩, rfl, rfl, by decide⟩
theorem mw_i_X1_rainOver : Cond.instanceMethod yX1_rainOver ∈ mj_gw := mj_gw_in 481 (by decide +kernel) (by decide +kernel)
theorem mw_s_X1_rainOver : Cond.selects (yX1_rainOver).cls yX1_rainOver yX1_rainOver ∈ mj_gw := mj_gw_in 482 (by decide +kernel) (by decide +kernel)
def jX1_pouring : mj_J := (yX1_pouring, cX1_pouring, 2, (some .int), 0, 0, 0)
theorem kX1_pouring : mj_K jX1_pouring 1 := ⟨mj_gw_in 487 (by decide +kernel) (by decide +kernel), mw_ini_RX1, ⟨by decide +kernel, by decide +kernel, by decide +kernel⟩, rfl, rfl, by decide⟩
theorem mw_i_X1_pouring : Cond.instanceMethod yX1_pouring ∈ mj_gw := mj_gw_in 486 (by decide +kernel) (by decide +kernel)
theorem mw_s_X1_pouring : Cond.selects (yX1_pouring).cls yX1_pouring yX1_pouring ∈ mj_gw := mj_gw_sel 17 (by decide +kernel) (by decide +kernel)
def jX2_begin : mj_J := (yX2_begin, cX2_begin, 2, none, 0, 0, 0)
theorem kX2_begin : mj_K jX2_begin 0 := ⟨mj_gw_in 342 (by decide +kernel) (by decide +kernel), mw_ini_RX2, ⟨by decide +kernel, by decide +kernel, by decide +kernel⟩, rfl, rfl, by decide⟩
theorem mw_i_X2_begin : Cond.instanceMethod yX2_begin ∈ mj_gw := mj_gw_in 340 (by decide +kernel) (by decide +kernel)
theorem mw_s_X2_begin : Cond.selects (yX2_begin).cls yX2_begin yX2_begin ∈ mj_gw := mj_gw_in 341 (by decide +kernel) (by decide +kernel)
def jX2_become : mj_J := (yX2_become, cX2_become, 3, none, 1, 0, 0)
theorem kX2_become : mj_K jX2_become 1 := ⟨mj_gw_in 388 (by decide +kernel) (by decide +kernel), mw_ini_RX2, ⟨by decide +kernel, by decide +kernel, by decide +kernel⟩, rfl, rfl, by decide⟩
theorem mw_i_X2_become : Cond.instanceMethod yX2_become ∈ mj_gw := mj_gw_in 386 (by decide +kernel) (by decide +kernel)
theorem mw_s_X2_become : Cond.selects (yX2_become).cls yX2_become yX2_become ∈ mj_gw := mj_gw_in 387 (by decide +kernel) (by decide +kernel)
def jX2_blowing : mj_J := (yX2_blowing, cX2_blowing, 3, (some .int), 0, 0, 0)
theorem kX2_blowing : mj_K jX2_blowing 2 := ⟨mj_gw_in 448 (by decide +kernel) (by decide +kernel), mw_ini_RX2, ⟨by decide +kernel, by decide +kernel, by decide +kernel⟩, rfl, rfl, by decide⟩
theorem mw_i_X2_blowing : Cond.instanceMethod yX2_blowing ∈ mj_gw := mj_gw_in 446 (by decide +kernel) (by decide +kernel)
theorem mw_s_X2_blowing : Cond.selects (yX2_blowing).cls yX2_blowing yX2_blowing ∈ mj_gw := mj_gw_in 447 (by decide +kernel) (by decide +kernel)
def jX2_cloudsOver : mj_J := (yX2_cloudsOver, cX2_cloudsOver, 4, (some .int), 0, 0, 0)
theorem kX2_cloudsOver : mj_K jX2_cloudsOver 1 := ⟨mj_gw_in 538 (by decide +kernel) (by decide +kernel), mw_ini_RX2, ⟨by decide +kernel, by decide +kernel, by decide +kernel⟩, rfl, rfl, by decide⟩
theorem mw_i_X2_cloudsOver : Cond.instanceMethod yX2_cloudsOver ∈ mj_gw := mj_gw_in 536 (by decide +kernel) (by decide +kernel)
theorem mw_s_X2_cloudsOver : Cond.selects (yX2_cloudsOver).cls yX2_cloudsOver yX2_cloudsOver ∈ mj_gw := mj_gw_in 537 (by decide +kernel) (by decide +kernel)
def jX2_cloudsLeft : mj_J := (yX2_cloudsLeft, cX2_cloudsLeft, 3, (some .int), 1, 0, 0)
theorem kX2_cloudsLeft : mj_K jX2_cloudsLeft 0 := ⟨mj_gw_in 711 (by decide +kernel) (by decide +kernel), mw_ini_RX2, ⟨by decide +kernel, by decide +kernel, by decide +kernel⟩, rfl, rfl, by decide⟩
theorem mw_i_X2_cloudsLeft : Cond.instanceMethod yX2_cloudsLeft ∈ mj_gw := mj_gw_in 709 (by decide +kernel) (by decide +kernel)
theorem mw_s_X2_cloudsLeft : Cond.selects (yX2_cloudsLeft).cls yX2_cloudsLeft yX2_cloudsLeft ∈ mj_gw := mj_gw_in 710 (by decide +kernel) (by decide +kernel)
def jX2_passHour : mj_J := (yX2_passHour, cX2_passHour, 1, none, 4, 0, 0)
theorem kX2_passHour : mj_K jX2_passHour 0 := ⟨mj_gw_in 436 (by decide +kernel) (by decide +kernel), mw_ini_RX2, ⟨by decide +kernel, by decide +kernel, by decide +kernel⟩, rfl, rfl, by decide⟩
theorem mw_i_X2_passHour : Cond.instanceMethod yX2_passHour ∈ mj_gw := mj_gw_in 434 (by decide +kernel) (by decide +kernel)
theorem mw_s_X2_passHour : Cond.selects (yX2_passHour).cls yX2_passHour yX2_passHour ∈ mj_gw := mj_gw_in 435 (by decide +kernel) (by decide +kernel)
def jX2_passAlone : mj_J := (yX2_passAlone, cX2_passAlone, 4, (some .int), 3, 0, 0)
theorem kX2_passAlone : mj_K jX2_passAlone 2 := ⟨mj_gw_in 586 (by decide +kernel) (by decide +kernel), mw_ini_RX2, ⟨by decide +kernel, by decide +kernel, by decide +kernel⟩, rfl, rfl, by decide⟩
theorem mw_i_X2_passAlone : Cond.instanceMethod yX2_passAlone ∈ mj_gw := mj_gw_in 584 (by decide +kernel) (by decide +kernel)
theorem mw_s_X2_passAlone : Cond.selects (yX2_passAlone).cls yX2_passAlone yX2_passAlone ∈ mj_gw := mj_gw_in 585 (by decide +kernel) (by decide +kernel)
def jX2_driftAll : mj_J := (yX2_driftAll, cX2_driftAll, 2, none, 3, 0, 0)
theorem kX2_driftAll : mj_K jX2_driftAll 0 := ⟨mj_gw_in 440 (by decide +kernel) (by decide +kernel), mw_ini_RX2, ⟨by decide +kernel, by decide +kernel, by decide +kernel⟩, rfl, rfl, by decide⟩
theorem mw_i_X2_driftAll : Cond.instanceMethod yX2_driftAll ∈ mj_gw := mj_gw_in 439 (by decide +kernel) (by decide +kernel)
theorem mw_s_X2_driftAll : Cond.selects (yX2_driftAll).cls yX2_driftAll yX2_driftAll ∈ mj_gw := mj_gw_sel 12 (by decide +kernel) (by decide +kernel)
def jX2_driftOne : mj_J := (yX2_driftOne, cX2_driftOne, 3, none, 2, 0, 0)
theorem kX2_driftOne : mj_K jX2_driftOne 2 := ⟨mj_gw_in 444 (by decide +kernel) (by decide +kernel), mw_ini_RX2, ⟨by decide +kernel, by decide +kernel, by decide +kernel⟩, rfl, rfl, by decide⟩
theorem mw_i_X2_driftOne : Cond.instanceMethod yX2_driftOne ∈ mj_gw := mj_gw_in 443 (by decide +kernel) (by decide +kernel)
theorem mw_s_X2_driftOne : Cond.selects (yX2_driftOne).cls yX2_driftOne yX2_driftOne ∈ mj_gw := mj_gw_sel 13 (by decide +kernel) (by decide +kernel)
def jX2_runTogether : mj_J := (yX2_runTogether, cX2_runTogether, 3, none, 2, 0, 0)
theorem kX2_runTogether : mj_K jX2_runTogether 0 := ⟨mj_gw_in 462 (by decide +kernel) (by decide +kernel), mw_ini_RX2, ⟨by decide +kernel, by decide +kernel, by decide +kernel⟩, rfl, rfl, by decide⟩
theorem mw_i_X2_runTogether : Cond.instanceMethod yX2_runTogether ∈ mj_gw := mj_gw_in 461 (by decide +kernel) (by decide +kernel)
theorem mw_s_X2_runTogether : Cond.selects (yX2_runTogether).cls yX2_runTogether yX2_runTogether ∈ mj_gw := mj_gw_sel 14 (by decide +kernel) (by decide +kernel)
def jX2_rainAll : mj_J := (yX2_rainAll, cX2_rainAll, 2, none, 3, 0, 0)
theorem kX2_rainAll : mj_K jX2_rainAll 0 := ⟨mj_gw_in 475 (by decide +kernel) (by decide +kernel), mw_ini_RX2, ⟨by decide +kernel, by decide +kernel, by decide +kernel⟩, rfl, rfl, by decide⟩
theorem mw_i_X2_rainAll : Cond.instanceMethod yX2_rainAll ∈ mj_gw := mj_gw_in 474 (by decide +kernel) (by decide +kernel)
theorem mw_s_X2_rainAll : Cond.selects (yX2_rainAll).cls yX2_rainAll yX2_rainAll ∈ mj_gw := mj_gw_sel 15 (by decide +kernel) (by decide +kernel)
def jX2_rainOne : mj_J := (yX2_rainOne, cX2_rainOne, 3, (some .int), 2, 0, 0)
theorem kX2_rainOne : mj_K jX2_rainOne 1 := ⟨mj_gw_in 479 (by decide +kernel) (by decide +kernel), mw_ini_RX2, ⟨by decide +kernel, by decide +kernel, by decide +kernel⟩, rfl, rfl, by decide⟩
theorem mw_i_X2_rainOne : Cond.instanceMethod yX2_rainOne ∈ mj_gw := mj_gw_in 478 (by decide +kernel) (by decide +kernel)
theorem mw_s_X2_rainOne : Cond.selects (yX2_rainOne).cls yX2_rainOne yX2_rainOne ∈ mj_gw := mj_gw_sel 16 (by decide +kernel) (by decide +kernel)
def jX2_milkAll : mj_J := (yX2_milkAll, cX2_milkAll, 2, none, 1, 0, 0)
theorem kX2_milkAll : mj_K jX2_milkAll 0 := ⟨mj_gw_in 491 (by decide +kernel) (by decide +kernel), mw_ini_RX2, ⟨by decide +kernel, by decide +kernel, by decide +kernel⟩, rfl, rfl, by decide⟩
theorem mw_i_X2_milkAll : Cond.instanceMethod yX2_milkAll ∈ mj_gw := mj_gw_in 490 (by decide +kernel) (by decide +kernel)
theorem mw_s_X2_milkAll : Cond.selects (yX2_milkAll).cls yX2_milkAll yX2_milkAll ∈ mj_gw := mj_gw_sel 18 (by decide +kernel) (by decide +kernel)
def jX2_milkOne : mj_J := (yX2_milkOne, cX2_milkOne, 2, (some .int), 0, 0, 0)
theorem kX2_milkOne : mj_K jX2_milkOne 1 := ⟨mj_gw_in 495 (by decide +kernel) (by decide +kernel), mw_ini_RX2, ⟨by decide +kernel, by decide +kernel, by decide +kernel⟩, rfl, rfl, by decide⟩
theorem mw_i_X2_milkOne : Cond.instanceMethod yX2_milkOne ∈ mj_gw := mj_gw_in 494 (by decide +kernel) (by decide +kernel)
theorem mw_s_X2_milkOne : Cond.selects (yX2_milkOne).cls yX2_milkOne yX2_milkOne ∈ mj_gw := mj_gw_sel 19 (by decide +kernel) (by decide +kernel)
def jX3_begin : mj_J := (yX3_begin, cX3_begin, 4, none, 0, 0, 0)
theorem kX3_begin : mj_K jX3_begin 2 := ⟨mj_gw_in 273 (by decide +kernel) (by decide +kernel), mw_ini_RX3, ⟨by decide +kernel, by decide +kernel, by decide +kernel⟩, rfl, rfl, by decide⟩
theorem mw_i_X3_begin : Cond.instanceMethod yX3_begin ∈ mj_gw := mj_gw_in 271 (by decide +kernel) (by decide +kernel)
theorem mw_s_X3_begin : Cond.selects (yX3_begin).cls yX3_begin yX3_begin ∈ mj_gw := mj_gw_in 272 (by decide +kernel) (by decide +kernel)
def jX3_has : mj_J := (yX3_has, cX3_has, 3, (some .boolean), 0, 0, 0)
theorem kX3_has : mj_K jX3_has 2 := ⟨mj_gw_in 289 (by decide +kernel) (by decide +kernel), mw_ini_RX3, ⟨by decide +kernel, by decide +kernel, by decide +kernel⟩, rfl, rfl, by decide⟩
theorem mw_i_X3_has : Cond.instanceMethod yX3_has ∈ mj_gw := mj_gw_in 287 (by decide +kernel) (by decide +kernel)
theorem mw_s_X3_has : Cond.selects (yX3_has).cls yX3_has yX3_has ∈ mj_gw := mj_gw_in 288 (by decide +kernel) (by decide +kernel)
def jX3_lack : mj_J := (yX3_lack, cX3_lack, 3, (some .int), 1, 0, 0)
theorem kX3_lack : mj_K jX3_lack 2 := ⟨mj_gw_in 285 (by decide +kernel) (by decide +kernel), mw_ini_RX3, ⟨by decide +kernel, by decide +kernel, by decide +kernel⟩, rfl, rfl, by decide⟩
theorem mw_i_X3_lack : Cond.instanceMethod yX3_lack ∈ mj_gw := mj_gw_in 283 (by decide +kernel) (by decide +kernel)
theorem mw_s_X3_lack : Cond.selects (yX3_lack).cls yX3_lack yX3_lack ∈ mj_gw := mj_gw_in 284 (by decide +kernel) (by decide +kernel)
def jX3_put : mj_J := (yX3_put, cX3_put, 3, (some .int), 0, 0, 0)
theorem kX3_put : mj_K jX3_put 2 := ⟨mj_gw_in 293 (by decide +kernel) (by decide +kernel), mw_ini_RX3, ⟨by decide +kernel, by decide +kernel, by decide +kernel⟩, rfl, rfl, by decide⟩
theorem mw_i_X3_put : Cond.instanceMethod yX3_put ∈ mj_gw := mj_gw_in 291 (by decide +kernel) (by decide +kernel)
theorem mw_s_X3_put : Cond.selects (yX3_put).cls yX3_put yX3_put ∈ mj_gw := mj_gw_in 292 (by decide +kernel) (by decide +kernel)
def jX4_add : mj_J := (yX4_add, cX4_add, 2, (some .boolean), 0, 0, 0)
theorem kX4_add : mj_K jX4_add 1 := ⟨mj_gw_in 313 (by decide +kernel) (by decide +kernel), mw_ini_RX4, ⟨by decide +kernel, by decide +kernel, by decide +kernel⟩, rfl, rfl, by decide⟩
theorem mw_i_X4_add : Cond.instanceMethod yX4_add ∈ mj_gw := mj_gw_in 311 (by decide +kernel) (by decide +kernel)
theorem mw_s_X4_add : Cond.selects (yX4_add).cls yX4_add yX4_add ∈ mj_gw := mj_gw_in 312 (by decide +kernel) (by decide +kernel)
def jX4_read : mj_J := (yX4_read, cX4_read, 2, none, 5, 0, 0)
theorem kX4_read : mj_K jX4_read 1 := ⟨mj_gw_in 322 (by decide +kernel) (by decide +kernel), mw_ini_RX4, ⟨by decide +kernel, by decide +kernel, by decide +kernel⟩, rfl, rfl, by decide⟩
theorem mw_i_X4_read : Cond.instanceMethod yX4_read ∈ mj_gw := mj_gw_in 320 (by decide +kernel) (by decide +kernel)
theorem mw_s_X4_read : Cond.selects (yX4_read).cls yX4_read yX4_read ∈ mj_gw := mj_gw_in 321 (by decide +kernel) (by decide +kernel)
def jX4_readLaw : mj_J := (yX4_readLaw, cX4_readLaw, 2, none, 4, 0, 0)
theorem kX4_readLaw : mj_K jX4_readLaw 1 := ⟨mj_gw_in 346 (by decide +kernel) (by decide +kernel), mw_ini_RX4, ⟨by decide +kernel, by decide +kernel, by decide +kernel⟩, rfl, rfl, by decide⟩
theorem mw_i_X4_readLaw : Cond.instanceMethod yX4_readLaw ∈ mj_gw := mj_gw_in 345 (by decide +kernel) (by decide +kernel)
theorem mw_s_X4_readLaw : Cond.selects (yX4_readLaw).cls yX4_readLaw yX4_readLaw ∈ mj_gw := mj_gw_sel 5 (by decide +kernel) (by decide +kernel)
def jX4_readWind : mj_J := (yX4_readWind, cX4_readWind, 5, none, 4, 0, 0)
theorem kX4_readWind : mj_K jX4_readWind 3 := ⟨mj_gw_in 358 (by decide +kernel) (by decide +kernel), mw_ini_RX4, ⟨by decide +kernel, by decide +kernel, by decide +kernel⟩, rfl, rfl, by decide⟩
theorem mw_i_X4_readWind : Cond.instanceMethod yX4_readWind ∈ mj_gw := mj_gw_in 357 (by decide +kernel) (by decide +kernel)
theorem mw_s_X4_readWind : Cond.selects (yX4_readWind).cls yX4_readWind yX4_readWind ∈ mj_gw := mj_gw_sel 8 (by decide +kernel) (by decide +kernel)
def jX4_readParishes : mj_J := (yX4_readParishes, cX4_readParishes, 6, none, 4, 0, 0)
theorem kX4_readParishes : mj_K jX4_readParishes 1 := ⟨mj_gw_in 369 (by decide +kernel) (by decide +kernel), mw_ini_RX4, ⟨by decide +kernel, by decide +kernel, by decide +kernel⟩, rfl, rfl, by decide⟩
theorem mw_i_X4_readParishes : Cond.instanceMethod yX4_readParishes ∈ mj_gw := mj_gw_in 368 (by decide +kernel) (by decide +kernel)
theorem mw_s_X4_readParishes : Cond.selects (yX4_readParishes).cls yX4_readParishes yX4_readParishes ∈ mj_gw := mj_gw_sel 10 (by decide +kernel) (by decide +kernel)
def jX4_readClouds : mj_J := (yX4_readClouds, cX4_readClouds, 7, none, 4, 0, 0)
theorem kX4_readClouds : mj_K jX4_readClouds 1 := ⟨mj_gw_in 376 (by decide +kernel) (by decide +kernel), mw_ini_RX4, ⟨by decide +kernel, by decide +kernel, by decide +kernel⟩, rfl, rfl, by decide⟩
theorem mw_i_X4_readClouds : Cond.instanceMethod yX4_readClouds ∈ mj_gw := mj_gw_in 375 (by decide +kernel) (by decide +kernel)
theorem mw_s_X4_readClouds : Cond.selects (yX4_readClouds).cls yX4_readClouds yX4_readClouds ∈ mj_gw := mj_gw_sel 11 (by decide +kernel) (by decide +kernel)
def jX4_takeSign : mj_J := (yX4_takeSign, cX4_takeSign, 2, none, 3, 0, 0)
theorem kX4_takeSign : mj_K jX4_takeSign 1 := ⟨mj_gw_in 350 (by decide +kernel) (by decide +kernel), mw_ini_RX4, ⟨by decide +kernel, by decide +kernel, by decide +kernel⟩, rfl, rfl, by decide⟩
theorem mw_i_X4_takeSign : Cond.instanceMethod yX4_takeSign ∈ mj_gw := mj_gw_in 349 (by decide +kernel) (by decide +kernel)
theorem mw_s_X4_takeSign : Cond.selects (yX4_takeSign).cls yX4_takeSign yX4_takeSign ∈ mj_gw := mj_gw_sel 6 (by decide +kernel) (by decide +kernel)
def jX4_takeDirection : mj_J := (yX4_takeDirection, cX4_takeDirection, 2, (some .int), 3, 0, 0)
theorem kX4_takeDirection : mj_K jX4_takeDirection 0 := ⟨mj_gw_in 362 (by decide +kernel) (by decide +kernel), mw_ini_RX4, ⟨by decide +kernel, by decide +kernel, by decide +kernel⟩, rfl, rfl, by decide⟩
theorem mw_i_X4_takeDirection : Cond.instanceMethod yX4_takeDirection ∈ mj_gw := mj_gw_in 361 (by decide +kernel) (by decide +kernel)
theorem mw_s_X4_takeDirection : Cond.selects (yX4_takeDirection).cls yX4_takeDirection yX4_takeDirection ∈ mj_gw := mj_gw_sel 9 (by decide +kernel) (by decide +kernel)
def jX4_takeNumber : mj_J := (yX4_takeNumber, cX4_takeNumber, 5, (some .int), 3, 0, 0)
theorem kX4_takeNumber : mj_K jX4_takeNumber 3 := ⟨mj_gw_in 354 (by decide +kernel) (by decide +kernel), mw_ini_RX4, ⟨by decide +kernel, by decide +kernel, by decide +kernel⟩, rfl, rfl, by decide⟩
theorem mw_i_X4_takeNumber : Cond.instanceMethod yX4_takeNumber ∈ mj_gw := mj_gw_in 353 (by decide +kernel) (by decide +kernel)
theorem mw_s_X4_takeNumber : Cond.selects (yX4_takeNumber).cls yX4_takeNumber yX4_takeNumber ∈ mj_gw := mj_gw_sel 7 (by decide +kernel) (by decide +kernel)
def jX4_look : mj_J := (yX4_look, cX4_look, 1, none, 2, 0, 0)
theorem kX4_look : mj_K jX4_look 0 := ⟨mj_gw_in 326 (by decide +kernel) (by decide +kernel), mw_ini_RX4, ⟨by decide +kernel, by decide +kernel, by decide +kernel⟩, rfl, rfl, by decide⟩
theorem mw_i_X4_look : Cond.instanceMethod yX4_look ∈ mj_gw := mj_gw_in 325 (by decide +kernel) (by decide +kernel)
theorem mw_s_X4_look : Cond.selects (yX4_look).cls yX4_look yX4_look ∈ mj_gw := mj_gw_sel 2 (by decide +kernel) (by decide +kernel)
def jX4_lookAtFigures : mj_J := (yX4_lookAtFigures, cX4_lookAtFigures, 2, none, 1, 0, 0)
theorem kX4_lookAtFigures : mj_K jX4_lookAtFigures 0 := ⟨mj_gw_in 334 (by decide +kernel) (by decide +kernel), mw_ini_RX4, ⟨by decide +kernel, by decide +kernel, by decide +kernel⟩, rfl, rfl, by decide⟩
theorem mw_i_X4_lookAtFigures : Cond.instanceMethod yX4_lookAtFigures ∈ mj_gw := mj_gw_in 333 (by decide +kernel) (by decide +kernel)
theorem mw_s_X4_lookAtFigures : Cond.selects (yX4_lookAtFigures).cls yX4_lookAtFigures yX4_lookAtFigures ∈ mj_gw := mj_gw_sel 4 (by decide +kernel) (by decide +kernel)
def jX4_isFigure : mj_J := (yX4_isFigure, cX4_isFigure, 2, (some .boolean), 0, 0, 0)
theorem kX4_isFigure : mj_K jX4_isFigure 1 := ⟨mj_gw_in 330 (by decide +kernel) (by decide +kernel), mw_ini_RX4, ⟨by decide +kernel, by decide +kernel, by decide +kernel⟩, rfl, rfl, by decide⟩
theorem mw_i_X4_isFigure : Cond.instanceMethod yX4_isFigure ∈ mj_gw := mj_gw_in 329 (by decide +kernel) (by decide +kernel)
theorem mw_s_X4_isFigure : Cond.selects (yX4_isFigure).cls yX4_isFigure yX4_isFigure ∈ mj_gw := mj_gw_sel 3 (by decide +kernel) (by decide +kernel)
def jX4_isSign : mj_J := (yX4_isSign, cX4_isSign, 1, (some .boolean), 1, 0, 0)
theorem kX4_isSign : mj_K jX4_isSign 1 := ⟨mj_gw_in 337 (by decide +kernel) (by decide +kernel), mw_ini_RX4, ⟨by decide +kernel, by decide +kernel, by decide +kernel⟩, rfl, rfl, by decide⟩
theorem mw_t_X4_isSign : Cond.static yX4_isSign ∈ mj_gw := mj_gw_in 336 (by decide +kernel) (by decide +kernel)
def jX4_directionOf : mj_J := (yX4_directionOf, cX4_directionOf, 1, (some .int), 0, 0, 0)
theorem kX4_directionOf : mj_K jX4_directionOf 1 := ⟨mj_gw_in 365 (by decide +kernel) (by decide +kernel), mw_ini_RX4, ⟨by decide +kernel, by decide +kernel, by decide +kernel⟩, rfl, rfl, by decide⟩
theorem mw_t_X4_directionOf : Cond.static yX4_directionOf ∈ mj_gw := mj_gw_in 364 (by decide +kernel) (by decide +kernel)
def jX4_parishOf : mj_J := (yX4_parishOf, cX4_parishOf, 1, (some .int), 0, 0, 0)
theorem kX4_parishOf : mj_K jX4_parishOf 1 := ⟨mj_gw_in 372 (by decide +kernel) (by decide +kernel), mw_ini_RX4, ⟨by decide +kernel, by decide +kernel, by decide +kernel⟩, rfl, rfl, by decide⟩
theorem mw_t_X4_parishOf : Cond.static yX4_parishOf ∈ mj_gw := mj_gw_in 371 (by decide +kernel) (by decide +kernel)
def jX4_sortOf : mj_J := (yX4_sortOf, cX4_sortOf, 1, (some .int), 0, 0, 0)
theorem kX4_sortOf : mj_K jX4_sortOf 1 := ⟨mj_gw_in 379 (by decide +kernel) (by decide +kernel), mw_ini_RX4, ⟨by decide +kernel, by decide +kernel, by decide +kernel⟩, rfl, rfl, by decide⟩
theorem mw_t_X4_sortOf : Cond.static yX4_sortOf ∈ mj_gw := mj_gw_in 378 (by decide +kernel) (by decide +kernel)
def jX5_answer : mj_J := (yX5_answer, cX5_answer, 5, (some .int), 13, 0, 0)
theorem kX5_answer : mj_K jX5_answer 3 := ⟨mj_gw_in 684 (by decide +kernel) (by decide +kernel), mw_ini_RX5, ⟨by decide +kernel, by decide +kernel, by decide +kernel⟩, rfl, rfl, by decide⟩
theorem mw_i_X5_answer : Cond.instanceMethod yX5_answer ∈ mj_gw := mj_gw_in 682 (by decide +kernel) (by decide +kernel)
theorem mw_s_X5_answer : Cond.selects (yX5_answer).cls yX5_answer yX5_answer ∈ mj_gw := mj_gw_in 683 (by decide +kernel) (by decide +kernel)
def jX5_bodyOf (n : Nat) : mj_J := (yX5_bodyOf, cX5_bodyOf, 6, (some .int), n + 1, 0, 0)
theorem kX5_bodyOf0 : mj_K (jX5_bodyOf 0) 5 := ⟨mj_gw_in 691 (by decide +kernel) (by decide +kernel), mw_ini_RX5, ⟨by decide +kernel, by decide +kernel, by decide +kernel⟩, rfl, rfl, by decide⟩
theorem kX5_bodyOf (n : Nat) : mj_K (jX5_bodyOf n) 5 := kX5_bodyOf0
theorem mw_t_X5_bodyOf : Cond.static yX5_bodyOf ∈ mj_gw := mj_gw_in 690 (by decide +kernel) (by decide +kernel)
def jX5_leave : mj_J := (yX5_leave, cX5_leave, 2, none, 0, 0, 0)
theorem kX5_leave : mj_K jX5_leave 1 := ⟨mj_gw_in 695 (by decide +kernel) (by decide +kernel), mw_ini_RX5, ⟨by decide +kernel, by decide +kernel, by decide +kernel⟩, rfl, rfl, by decide⟩
theorem mw_i_X5_leave : Cond.instanceMethod yX5_leave ∈ mj_gw := mj_gw_in 694 (by decide +kernel) (by decide +kernel)
theorem mw_s_X5_leave : Cond.selects (yX5_leave).cls yX5_leave yX5_leave ∈ mj_gw := mj_gw_sel 29 (by decide +kernel) (by decide +kernel)
def jX6_row : mj_J := (yX6_row, cX6_row, 4, (some .int), 2, 0, 0)
theorem kX6_row : mj_K jX6_row 3 := ⟨mj_gw_in 257 (by decide +kernel) (by decide +kernel), mw_ini_RX6, ⟨by decide +kernel, by decide +kernel, by decide +kernel⟩, rfl, rfl, by decide⟩
theorem mw_i_X6_row : Cond.instanceMethod yX6_row ∈ mj_gw := mj_gw_in 255 (by decide +kernel) (by decide +kernel)
theorem mw_s_X6_row : Cond.selects (yX6_row).cls yX6_row yX6_row ∈ mj_gw := mj_gw_in 256 (by decide +kernel) (by decide +kernel)
def jX6_set : mj_J := (yX6_set, cX6_set, 5, (some .int), 2, 0, 0)
theorem kX6_set : mj_K jX6_set 3 := ⟨mj_gw_in 281 (by decide +kernel) (by decide +kernel), mw_ini_RX6, ⟨by decide +kernel, by decide +kernel, by decide +kernel⟩, rfl, rfl, by decide⟩
theorem mw_i_X6_set : Cond.instanceMethod yX6_set ∈ mj_gw := mj_gw_in 279 (by decide +kernel) (by decide +kernel)
theorem mw_s_X6_set : Cond.selects (yX6_set).cls yX6_set yX6_set ∈ mj_gw := mj_gw_in 280 (by decide +kernel) (by decide +kernel)
def jX6_copy : mj_J := (yX6_copy, cX6_copy, 8, (some .int), 2, 0, 0)
theorem kX6_copy : mj_K jX6_copy 5 := ⟨mj_gw_in 297 (by decide +kernel) (by decide +kernel), mw_ini_RX6, ⟨by decide +kernel, by decide +kernel, by decide +kernel⟩, rfl, rfl, by decide⟩
theorem mw_i_X6_copy : Cond.instanceMethod yX6_copy ∈ mj_gw := mj_gw_in 295 (by decide +kernel) (by decide +kernel)
theorem mw_s_X6_copy : Cond.selects (yX6_copy).cls yX6_copy yX6_copy ∈ mj_gw := mj_gw_in 296 (by decide +kernel) (by decide +kernel)
def jX6_drop : mj_J := (yX6_drop, cX6_drop, 2, (some .int), 2, 0, 0)
theorem kX6_drop : mj_K jX6_drop 1 := ⟨mj_gw_in 305 (by decide +kernel) (by decide +kernel), mw_ini_RX6, ⟨by decide +kernel, by decide +kernel, by decide +kernel⟩, rfl, rfl, by decide⟩
theorem mw_i_X6_drop : Cond.instanceMethod yX6_drop ∈ mj_gw := mj_gw_in 303 (by decide +kernel) (by decide +kernel)
theorem mw_s_X6_drop : Cond.selects (yX6_drop).cls yX6_drop yX6_drop ∈ mj_gw := mj_gw_in 304 (by decide +kernel) (by decide +kernel)
def jX6_feed : mj_J := (yX6_feed, cX6_feed, 2, (some .int), 1, 0, 0)
theorem kX6_feed : mj_K jX6_feed 1 := ⟨mj_gw_in 309 (by decide +kernel) (by decide +kernel), mw_ini_RX6, ⟨by decide +kernel, by decide +kernel, by decide +kernel⟩, rfl, rfl, by decide⟩
theorem mw_i_X6_feed : Cond.instanceMethod yX6_feed ∈ mj_gw := mj_gw_in 307 (by decide +kernel) (by decide +kernel)
theorem mw_s_X6_feed : Cond.selects (yX6_feed).cls yX6_feed yX6_feed ∈ mj_gw := mj_gw_in 308 (by decide +kernel) (by decide +kernel)
def jX6_herd : mj_J := (yX6_herd, cX6_herd, 1, (some .int), 6, 0, 0)
theorem kX6_herd : mj_K jX6_herd 0 := ⟨mj_gw_in 318 (by decide +kernel) (by decide +kernel), mw_ini_RX6, ⟨by decide +kernel, by decide +kernel, by decide +kernel⟩, rfl, rfl, by decide⟩
theorem mw_i_X6_herd : Cond.instanceMethod yX6_herd ∈ mj_gw := mj_gw_in 316 (by decide +kernel) (by decide +kernel)
theorem mw_s_X6_herd : Cond.selects (yX6_herd).cls yX6_herd yX6_herd ∈ mj_gw := mj_gw_in 317 (by decide +kernel) (by decide +kernel)
def jX6_fault : mj_J := (yX6_fault, cX6_fault, 1, (some .int), 0, 0, 0)
theorem kX6_fault : mj_K jX6_fault 0 := ⟨mj_gw_in 401 (by decide +kernel) (by decide +kernel), mw_ini_RX6, ⟨by decide +kernel, by decide +kernel, by decide +kernel⟩, rfl, rfl, by decide⟩
theorem mw_i_X6_fault : Cond.instanceMethod yX6_fault ∈ mj_gw := mj_gw_in 399 (by decide +kernel) (by decide +kernel)
theorem mw_s_X6_fault : Cond.selects (yX6_fault).cls yX6_fault yX6_fault ∈ mj_gw := mj_gw_in 400 (by decide +kernel) (by decide +kernel)
def jX6_undo : mj_J := (yX6_undo, cX6_undo, 1, (some .int), 2, 0, 0)
theorem kX6_undo : mj_K jX6_undo 0 := ⟨mj_gw_in 405 (by decide +kernel) (by decide +kernel), mw_ini_RX6, ⟨by decide +kernel, by decide +kernel, by decide +kernel⟩, rfl, rfl, by decide⟩
theorem mw_i_X6_undo : Cond.instanceMethod yX6_undo ∈ mj_gw := mj_gw_in 403 (by decide +kernel) (by decide +kernel)
theorem mw_s_X6_undo : Cond.selects (yX6_undo).cls yX6_undo yX6_undo ∈ mj_gw := mj_gw_in 404 (by decide +kernel) (by decide +kernel)
def jX6_hours : mj_J := (yX6_hours, cX6_hours, 3, (some .int), 5, 0, 0)
theorem kX6_hours : mj_K jX6_hours 1 := ⟨mj_gw_in 418 (by decide +kernel) (by decide +kernel), mw_ini_RX6, ⟨by decide +kernel, by decide +kernel, by decide +kernel⟩, rfl, rfl, by decide⟩
theorem mw_i_X6_hours : Cond.instanceMethod yX6_hours ∈ mj_gw := mj_gw_in 416 (by decide +kernel) (by decide +kernel)
theorem mw_s_X6_hours : Cond.selects (yX6_hours).cls yX6_hours yX6_hours ∈ mj_gw := mj_gw_in 417 (by decide +kernel) (by decide +kernel)
def jX6_lift : mj_J := (yX6_lift, cX6_lift, 4, (some .int), 3, 0, 0)
theorem kX6_lift : mj_K jX6_lift 2 := ⟨mj_gw_in 499 (by decide +kernel) (by decide +kernel), mw_ini_RX6, ⟨by decide +kernel, by decide +kernel, by decide +kernel⟩, rfl, rfl, by decide⟩
theorem mw_i_X6_lift : Cond.instanceMethod yX6_lift ∈ mj_gw := mj_gw_in 497 (by decide +kernel) (by decide +kernel)
theorem mw_s_X6_lift : Cond.selects (yX6_lift).cls yX6_lift yX6_lift ∈ mj_gw := mj_gw_in 498 (by decide +kernel) (by decide +kernel)
def jX6_rains : mj_J := (yX6_rains, cX6_rains, 5, (some .int), 3, 0, 0)
theorem kX6_rains : mj_K jX6_rains 2 := ⟨mj_gw_in 518 (by decide +kernel) (by decide +kernel), mw_ini_RX6, ⟨by decide +kernel, by decide +kernel, by decide +kernel⟩, rfl, rfl, by decide⟩
theorem mw_i_X6_rains : Cond.instanceMethod yX6_rains ∈ mj_gw := mj_gw_in 516 (by decide +kernel) (by decide +kernel)
theorem mw_s_X6_rains : Cond.selects (yX6_rains).cls yX6_rains yX6_rains ∈ mj_gw := mj_gw_in 517 (by decide +kernel) (by decide +kernel)
def jX6_cloud : mj_J := (yX6_cloud, cX6_cloud, 3, (some .int), 2, 0, 0)
theorem kX6_cloud : mj_K jX6_cloud 2 := ⟨mj_gw_in 523 (by decide +kernel) (by decide +kernel), mw_ini_RX6, ⟨by decide +kernel, by decide +kernel, by decide +kernel⟩, rfl, rfl, by decide⟩
theorem mw_i_X6_cloud : Cond.instanceMethod yX6_cloud ∈ mj_gw := mj_gw_in 521 (by decide +kernel) (by decide +kernel)
theorem mw_s_X6_cloud : Cond.selects (yX6_cloud).cls yX6_cloud yX6_cloud ∈ mj_gw := mj_gw_in 522 (by decide +kernel) (by decide +kernel)
def jX6_cell : mj_J := (yX6_cell, cX6_cell, 3, (some .int), 2, 0, 0)
theorem kX6_cell : mj_K jX6_cell 2 := ⟨mj_gw_in 531 (by decide +kernel) (by decide +kernel), mw_ini_RX6, ⟨by decide +kernel, by decide +kernel, by decide +kernel⟩, rfl, rfl, by decide⟩
theorem mw_i_X6_cell : Cond.instanceMethod yX6_cell ∈ mj_gw := mj_gw_in 529 (by decide +kernel) (by decide +kernel)
theorem mw_s_X6_cell : Cond.selects (yX6_cell).cls yX6_cell yX6_cell ∈ mj_gw := mj_gw_in 530 (by decide +kernel) (by decide +kernel)
def jX6_wind : mj_J := (yX6_wind, cX6_wind, 3, (some .int), 1, 0, 0)
theorem kX6_wind : mj_K jX6_wind 2 := ⟨mj_gw_in 542 (by decide +kernel) (by decide +kernel), mw_ini_RX6, ⟨by decide +kernel, by decide +kernel, by decide +kernel⟩, rfl, rfl, by decide⟩
theorem mw_i_X6_wind : Cond.instanceMethod yX6_wind ∈ mj_gw := mj_gw_in 540 (by decide +kernel) (by decide +kernel)
theorem mw_s_X6_wind : Cond.selects (yX6_wind).cls yX6_wind yX6_wind ∈ mj_gw := mj_gw_in 541 (by decide +kernel) (by decide +kernel)
def jX6_ahead : mj_J := (yX6_ahead, cX6_ahead, 4, (some .int), 6, 0, 0)
theorem kX6_ahead : mj_K jX6_ahead 3 := ⟨mj_gw_in 547 (by decide +kernel) (by decide +kernel), mw_ini_RX6, ⟨by decide +kernel, by decide +kernel, by decide +kernel⟩, rfl, rfl, by decide⟩
theorem mw_i_X6_ahead : Cond.instanceMethod yX6_ahead ∈ mj_gw := mj_gw_in 545 (by decide +kernel) (by decide +kernel)
theorem mw_s_X6_ahead : Cond.selects (yX6_ahead).cls yX6_ahead yX6_ahead ∈ mj_gw := mj_gw_in 546 (by decide +kernel) (by decide +kernel)
def jX6_earned : mj_J := (yX6_earned, cX6_earned, 2, (some .int), 6, 0, 0)
theorem kX6_earned : mj_K jX6_earned 1 := ⟨mj_gw_in 555 (by decide +kernel) (by decide +kernel), mw_ini_RX6, ⟨by decide +kernel, by decide +kernel, by decide +kernel⟩, rfl, rfl, by decide⟩
theorem mw_i_X6_earned : Cond.instanceMethod yX6_earned ∈ mj_gw := mj_gw_in 553 (by decide +kernel) (by decide +kernel)
theorem mw_s_X6_earned : Cond.selects (yX6_earned).cls yX6_earned yX6_earned ∈ mj_gw := mj_gw_in 554 (by decide +kernel) (by decide +kernel)
def jX6_knot : mj_J := (yX6_knot, cX6_knot, 4, (some .int), 5, 0, 0)
theorem kX6_knot : mj_K jX6_knot 2 := ⟨mj_gw_in 559 (by decide +kernel) (by decide +kernel), mw_ini_RX6, ⟨by decide +kernel, by decide +kernel, by decide +kernel⟩, rfl, rfl, by decide⟩
theorem mw_i_X6_knot : Cond.instanceMethod yX6_knot ∈ mj_gw := mj_gw_in 557 (by decide +kernel) (by decide +kernel)
theorem mw_s_X6_knot : Cond.selects (yX6_knot).cls yX6_knot yX6_knot ∈ mj_gw := mj_gw_in 558 (by decide +kernel) (by decide +kernel)
def jX6_wetHay : mj_J := (yX6_wetHay, cX6_wetHay, 6, (some .int), 5, 0, 0)
theorem kX6_wetHay : mj_K jX6_wetHay 2 := ⟨mj_gw_in 564 (by decide +kernel) (by decide +kernel), mw_ini_RX6, ⟨by decide +kernel, by decide +kernel, by decide +kernel⟩, rfl, rfl, by decide⟩
theorem mw_i_X6_wetHay : Cond.instanceMethod yX6_wetHay ∈ mj_gw := mj_gw_in 562 (by decide +kernel) (by decide +kernel)
theorem mw_s_X6_wetHay : Cond.selects (yX6_wetHay).cls yX6_wetHay yX6_wetHay ∈ mj_gw := mj_gw_in 563 (by decide +kernel) (by decide +kernel)
def jX6_soon : mj_J := (yX6_soon, cX6_soon, 6, (some .int), 3, 0, 0)
theorem kX6_soon : mj_K jX6_soon 2 := ⟨mj_gw_in 568 (by decide +kernel) (by decide +kernel), mw_ini_RX6, ⟨by decide +kernel, by decide +kernel, by decide +kernel⟩, rfl, rfl, by decide⟩
theorem mw_i_X6_soon : Cond.instanceMethod yX6_soon ∈ mj_gw := mj_gw_in 566 (by decide +kernel) (by decide +kernel)
theorem mw_s_X6_soon : Cond.selects (yX6_soon).cls yX6_soon yX6_soon ∈ mj_gw := mj_gw_in 567 (by decide +kernel) (by decide +kernel)
def jX6_heights : mj_J := (yX6_heights, cX6_heights, 9, (some .int), 5, 0, 0)
theorem kX6_heights : mj_K jX6_heights 3 := ⟨mj_gw_in 577 (by decide +kernel) (by decide +kernel), mw_ini_RX6, ⟨by decide +kernel, by decide +kernel, by decide +kernel⟩, rfl, rfl, by decide⟩
theorem mw_i_X6_heights : Cond.instanceMethod yX6_heights ∈ mj_gw := mj_gw_in 575 (by decide +kernel) (by decide +kernel)
theorem mw_s_X6_heights : Cond.selects (yX6_heights).cls yX6_heights yX6_heights ∈ mj_gw := mj_gw_in 576 (by decide +kernel) (by decide +kernel)
def jX6_shade : mj_J := (yX6_shade, cX6_shade, 5, (some .int), 5, 0, 0)
theorem kX6_shade : mj_K jX6_shade 2 := ⟨mj_gw_in 590 (by decide +kernel) (by decide +kernel), mw_ini_RX6, ⟨by decide +kernel, by decide +kernel, by decide +kernel⟩, rfl, rfl, by decide⟩
theorem mw_i_X6_shade : Cond.instanceMethod yX6_shade ∈ mj_gw := mj_gw_in 588 (by decide +kernel) (by decide +kernel)
theorem mw_s_X6_shade : Cond.selects (yX6_shade).cls yX6_shade yX6_shade ∈ mj_gw := mj_gw_in 589 (by decide +kernel) (by decide +kernel)
def jX6_dew : mj_J := (yX6_dew, cX6_dew, 7, (some .int), 5, 0, 0)
theorem kX6_dew : mj_K jX6_dew 3 := ⟨mj_gw_in 594 (by decide +kernel) (by decide +kernel), mw_ini_RX6, ⟨by decide +kernel, by decide +kernel, by decide +kernel⟩, rfl, rfl, by decide⟩
theorem mw_i_X6_dew : Cond.instanceMethod yX6_dew ∈ mj_gw := mj_gw_in 592 (by decide +kernel) (by decide +kernel)
theorem mw_s_X6_dew : Cond.selects (yX6_dew).cls yX6_dew yX6_dew ∈ mj_gw := mj_gw_in 593 (by decide +kernel) (by decide +kernel)
def jX6_lost : mj_J := (yX6_lost, cX6_lost, 11, (some .int), 3, 0, 0)
theorem kX6_lost : mj_K jX6_lost 6 := ⟨mj_gw_in 602 (by decide +kernel) (by decide +kernel), mw_ini_RX6, ⟨by decide +kernel, by decide +kernel, by decide +kernel⟩, rfl, rfl, by decide⟩
theorem mw_i_X6_lost : Cond.instanceMethod yX6_lost ∈ mj_gw := mj_gw_in 600 (by decide +kernel) (by decide +kernel)
theorem mw_s_X6_lost : Cond.selects (yX6_lost).cls yX6_lost yX6_lost ∈ mj_gw := mj_gw_in 601 (by decide +kernel) (by decide +kernel)
def jX6_kite : mj_J := (yX6_kite, cX6_kite, 9, (some .int), 2, 0, 0)
theorem kX6_kite : mj_K jX6_kite 4 := ⟨mj_gw_in 610 (by decide +kernel) (by decide +kernel), mw_ini_RX6, ⟨by decide +kernel, by decide +kernel, by decide +kernel⟩, rfl, rfl, by decide⟩
theorem mw_i_X6_kite : Cond.instanceMethod yX6_kite ∈ mj_gw := mj_gw_in 608 (by decide +kernel) (by decide +kernel)
theorem mw_s_X6_kite : Cond.selects (yX6_kite).cls yX6_kite yX6_kite ∈ mj_gw := mj_gw_in 609 (by decide +kernel) (by decide +kernel)
def jX6_tuesday : mj_J := (yX6_tuesday, cX6_tuesday, 7, (some .int), 3, 0, 0)
theorem kX6_tuesday : mj_K jX6_tuesday 4 := ⟨mj_gw_in 618 (by decide +kernel) (by decide +kernel), mw_ini_RX6, ⟨by decide +kernel, by decide +kernel, by decide +kernel⟩, rfl, rfl, by decide⟩
theorem mw_i_X6_tuesday : Cond.instanceMethod yX6_tuesday ∈ mj_gw := mj_gw_in 616 (by decide +kernel) (by decide +kernel)
theorem mw_s_X6_tuesday : Cond.selects (yX6_tuesday).cls yX6_tuesday yX6_tuesday ∈ mj_gw := mj_gw_in 617 (by decide +kernel) (by decide +kernel)
def jX6_guards : mj_J := (yX6_guards, cX6_guards, 4, (some .int), 3, 0, 0)
theorem kX6_guards : mj_K jX6_guards 2 := ⟨mj_gw_in 630 (by decide +kernel) (by decide +kernel), mw_ini_RX6, ⟨by decide +kernel, by decide +kernel, by decide +kernel⟩, rfl, rfl, by decide⟩
theorem mw_i_X6_guards : Cond.instanceMethod yX6_guards ∈ mj_gw := mj_gw_in 628 (by decide +kernel) (by decide +kernel)
theorem mw_s_X6_guards : Cond.selects (yX6_guards).cls yX6_guards yX6_guards ∈ mj_gw := mj_gw_in 629 (by decide +kernel) (by decide +kernel)
def jX6_guardsValue : mj_J := (yX6_guardsValue, cX6_guardsValue, 6, (some .long), 3, 0, 0)
theorem kX6_guardsValue : mj_K jX6_guardsValue 3 := ⟨mj_gw_in 653 (by decide +kernel) (by decide +kernel), mw_ini_RX6, ⟨by decide +kernel, by decide +kernel, by decide +kernel⟩, rfl, rfl, by decide⟩
theorem mw_i_X6_guardsValue : Cond.instanceMethod yX6_guardsValue ∈ mj_gw := mj_gw_in 651 (by decide +kernel) (by decide +kernel)
theorem mw_s_X6_guardsValue : Cond.selects (yX6_guardsValue).cls yX6_guardsValue yX6_guardsValue ∈ mj_gw := mj_gw_in 652 (by decide +kernel) (by decide +kernel)
def jX6_dues : mj_J := (yX6_dues, cX6_dues, 2, (some .int), 6, 0, 0)
theorem kX6_dues : mj_K jX6_dues 1 := ⟨mj_gw_in 658 (by decide +kernel) (by decide +kernel), mw_ini_RX6, ⟨by decide +kernel, by decide +kernel, by decide +kernel⟩, rfl, rfl, by decide⟩
theorem mw_i_X6_dues : Cond.instanceMethod yX6_dues ∈ mj_gw := mj_gw_in 656 (by decide +kernel) (by decide +kernel)
theorem mw_s_X6_dues : Cond.selects (yX6_dues).cls yX6_dues yX6_dues ∈ mj_gw := mj_gw_in 657 (by decide +kernel) (by decide +kernel)
def jX6_image : mj_J := (yX6_image, cX6_image, 2, (some .int), 2, 0, 0)
theorem kX6_image : mj_K jX6_image 1 := ⟨mj_gw_in 662 (by decide +kernel) (by decide +kernel), mw_ini_RX6, ⟨by decide +kernel, by decide +kernel, by decide +kernel⟩, rfl, rfl, by decide⟩
theorem mw_i_X6_image : Cond.instanceMethod yX6_image ∈ mj_gw := mj_gw_in 660 (by decide +kernel) (by decide +kernel)
theorem mw_s_X6_image : Cond.selects (yX6_image).cls yX6_image yX6_image ∈ mj_gw := mj_gw_in 661 (by decide +kernel) (by decide +kernel)
def jX6_restore : mj_J := (yX6_restore, cX6_restore, 2, (some .int), 2, 0, 0)
theorem kX6_restore : mj_K jX6_restore 1 := ⟨mj_gw_in 666 (by decide +kernel) (by decide +kernel), mw_ini_RX6, ⟨by decide +kernel, by decide +kernel, by decide +kernel⟩, rfl, rfl, by decide⟩
theorem mw_i_X6_restore : Cond.instanceMethod yX6_restore ∈ mj_gw := mj_gw_in 664 (by decide +kernel) (by decide +kernel)
theorem mw_s_X6_restore : Cond.selects (yX6_restore).cls yX6_restore yX6_restore ∈ mj_gw := mj_gw_in 665 (by decide +kernel) (by decide +kernel)
def jX6_kind : mj_J := (yX6_kind, cX6_kind, 2, (some .int), 2, 0, 0)
theorem kX6_kind : mj_K jX6_kind 1 := ⟨mj_gw_in 670 (by decide +kernel) (by decide +kernel), mw_ini_RX6, ⟨by decide +kernel, by decide +kernel, by decide +kernel⟩, rfl, rfl, by decide⟩
theorem mw_i_X6_kind : Cond.instanceMethod yX6_kind ∈ mj_gw := mj_gw_in 668 (by decide +kernel) (by decide +kernel)
theorem mw_s_X6_kind : Cond.selects (yX6_kind).cls yX6_kind yX6_kind ∈ mj_gw := mj_gw_in 669 (by decide +kernel) (by decide +kernel)
def jX6_as : mj_J := (yX6_as, cX6_as, 5, (some .int), 2, 0, 0)
theorem kX6_as : mj_K jX6_as 2 := ⟨mj_gw_in 674 (by decide +kernel) (by decide +kernel), mw_ini_RX6, ⟨by decide +kernel, by decide +kernel, by decide +kernel⟩, rfl, rfl, by decide⟩
theorem mw_i_X6_as : Cond.instanceMethod yX6_as ∈ mj_gw := mj_gw_in 672 (by decide +kernel) (by decide +kernel)
theorem mw_s_X6_as : Cond.selects (yX6_as).cls yX6_as yX6_as ∈ mj_gw := mj_gw_in 673 (by decide +kernel) (by decide +kernel)
def jX6_ask : mj_J := (yX6_ask, cX6_ask, 3, (some .int), 14, 0, 0)
theorem kX6_ask : mj_K jX6_ask 2 := ⟨mj_gw_in 680 (by decide +kernel) (by decide +kernel), mw_ini_RX6, ⟨by decide +kernel, by decide +kernel, by decide +kernel⟩, rfl, rfl, by decide⟩
theorem mw_i_X6_ask : Cond.instanceMethod yX6_ask ∈ mj_gw := mj_gw_in 678 (by decide +kernel) (by decide +kernel)
theorem mw_s_X6_ask : Cond.selects (yX6_ask).cls yX6_ask yX6_ask ∈ mj_gw := mj_gw_in 679 (by decide +kernel) (by decide +kernel)
def jX6_trace : mj_J := (yX6_trace, cX6_trace, 2, (some .int), 1, 0, 0)
theorem kX6_trace : mj_K jX6_trace 1 := ⟨mj_gw_in 699 (by decide +kernel) (by decide +kernel), mw_ini_RX6, ⟨by decide +kernel, by decide +kernel, by decide +kernel⟩, rfl, rfl, by decide⟩
theorem mw_i_X6_trace : Cond.instanceMethod yX6_trace ∈ mj_gw := mj_gw_in 697 (by decide +kernel) (by decide +kernel)
theorem mw_s_X6_trace : Cond.selects (yX6_trace).cls yX6_trace yX6_trace ∈ mj_gw := mj_gw_in 698 (by decide +kernel) (by decide +kernel)
def jX6_count : mj_J := (yX6_count, cX6_count, 2, (some .int), 2, 0, 0)
theorem kX6_count : mj_K jX6_count 1 := ⟨mj_gw_in 703 (by decide +kernel) (by decide +kernel), mw_ini_RX6, ⟨by decide +kernel, by decide +kernel, by decide +kernel⟩, rfl, rfl, by decide⟩
theorem mw_i_X6_count : Cond.instanceMethod yX6_count ∈ mj_gw := mj_gw_in 701 (by decide +kernel) (by decide +kernel)
theorem mw_s_X6_count : Cond.selects (yX6_count).cls yX6_count yX6_count ∈ mj_gw := mj_gw_in 702 (by decide +kernel) (by decide +kernel)
def jX6_status : mj_J := (yX6_status, cX6_status, 1, (some .int), 0, 0, 0)
theorem kX6_status : mj_K jX6_status 0 := ⟨mj_gw_in 716 (by decide +kernel) (by decide +kernel), mw_ini_RX6, ⟨by decide +kernel, by decide +kernel, by decide +kernel⟩, rfl, rfl, by decide⟩
theorem mw_i_X6_status : Cond.instanceMethod yX6_status ∈ mj_gw := mj_gw_in 714 (by decide +kernel) (by decide +kernel)
theorem mw_s_X6_status : Cond.selects (yX6_status).cls yX6_status yX6_status ∈ mj_gw := mj_gw_in 715 (by decide +kernel) (by decide +kernel)
def jX6_within : mj_J := (yX6_within, cX6_within, 3, (some .boolean), 0, 0, 0)
theorem kX6_within : mj_K jX6_within 3 := ⟨mj_gw_in 263 (by decide +kernel) (by decide +kernel), mw_ini_RX6, ⟨by decide +kernel, by decide +kernel, by decide +kernel⟩, rfl, rfl, by decide⟩
theorem mw_t_X6_within : Cond.static yX6_within ∈ mj_gw := mj_gw_in 262 (by decide +kernel) (by decide +kernel)
def jX6_isRow : mj_J := (yX6_isRow, cX6_isRow, 1, (some .boolean), 1, 0, 0)
theorem kX6_isRow : mj_K jX6_isRow 1 := ⟨mj_gw_in 260 (by decide +kernel) (by decide +kernel), mw_ini_RX6, ⟨by decide +kernel, by decide +kernel, by decide +kernel⟩, rfl, rfl, by decide⟩
theorem mw_t_X6_isRow : Cond.static yX6_isRow ∈ mj_gw := mj_gw_in 259 (by decide +kernel) (by decide +kernel)
def jX6_isCell : mj_J := (yX6_isCell, cX6_isCell, 1, (some .boolean), 1, 0, 0)
theorem kX6_isCell : mj_K jX6_isCell 1 := ⟨mj_gw_in 534 (by decide +kernel) (by decide +kernel), mw_ini_RX6, ⟨by decide +kernel, by decide +kernel, by decide +kernel⟩, rfl, rfl, by decide⟩
theorem mw_t_X6_isCell : Cond.static yX6_isCell ∈ mj_gw := mj_gw_in 533 (by decide +kernel) (by decide +kernel)
def jX6_isCloud : mj_J := (yX6_isCloud, cX6_isCloud, 2, (some .boolean), 1, 0, 0)
theorem kX6_isCloud : mj_K jX6_isCloud 1 := ⟨mj_gw_in 503 (by decide +kernel) (by decide +kernel), mw_ini_RX6, ⟨by decide +kernel, by decide +kernel, by decide +kernel⟩, rfl, rfl, by decide⟩
theorem mw_i_X6_isCloud : Cond.instanceMethod yX6_isCloud ∈ mj_gw := mj_gw_in 502 (by decide +kernel) (by decide +kernel)
theorem mw_s_X6_isCloud : Cond.selects (yX6_isCloud).cls yX6_isCloud yX6_isCloud ∈ mj_gw := mj_gw_sel 20 (by decide +kernel) (by decide +kernel)
def jX6_bit : mj_J := (yX6_bit, cX6_bit, 1, (some .int), 0, 0, 0)
theorem kX6_bit : mj_K jX6_bit 1 := ⟨mj_gw_in 429 (by decide +kernel) (by decide +kernel), mw_ini_RX6, ⟨by decide +kernel, by decide +kernel, by decide +kernel⟩, rfl, rfl, by decide⟩
theorem mw_t_X6_bit : Cond.static yX6_bit ∈ mj_gw := mj_gw_in 428 (by decide +kernel) (by decide +kernel)
def jX6_found : mj_J := (yX6_found, cX6_found, 2, (some .int), 0, 0, 0)
theorem kX6_found : mj_K jX6_found 1 := ⟨mj_gw_in 268 (by decide +kernel) (by decide +kernel), mw_ini_RX6, ⟨by decide +kernel, by decide +kernel, by decide +kernel⟩, rfl, rfl, by decide⟩
theorem mw_i_X6_found : Cond.instanceMethod yX6_found ∈ mj_gw := mj_gw_in 267 (by decide +kernel) (by decide +kernel)
theorem mw_s_X6_found : Cond.selects (yX6_found).cls yX6_found yX6_found ∈ mj_gw := mj_gw_sel 0 (by decide +kernel) (by decide +kernel)
def jX6_clean : mj_J := (yX6_clean, cX6_clean, 2, (some .int), 0, 0, 0)
theorem kX6_clean : mj_K jX6_clean 1 := ⟨mj_gw_in 277 (by decide +kernel) (by decide +kernel), mw_ini_RX6, ⟨by decide +kernel, by decide +kernel, by decide +kernel⟩, rfl, rfl, by decide⟩
theorem mw_i_X6_clean : Cond.instanceMethod yX6_clean ∈ mj_gw := mj_gw_in 276 (by decide +kernel) (by decide +kernel)
theorem mw_s_X6_clean : Cond.selects (yX6_clean).cls yX6_clean yX6_clean ∈ mj_gw := mj_gw_sel 1 (by decide +kernel) (by decide +kernel)
def jX6_rowsThere : mj_J := (yX6_rowsThere, cX6_rowsThere, 3, (some .int), 1, 0, 0)
theorem kX6_rowsThere : mj_K jX6_rowsThere 0 := ⟨mj_gw_in 707 (by decide +kernel) (by decide +kernel), mw_ini_RX6, ⟨by decide +kernel, by decide +kernel, by decide +kernel⟩, rfl, rfl, by decide⟩
theorem mw_i_X6_rowsThere : Cond.instanceMethod yX6_rowsThere ∈ mj_gw := mj_gw_in 706 (by decide +kernel) (by decide +kernel)
theorem mw_s_X6_rowsThere : Cond.selects (yX6_rowsThere).cls yX6_rowsThere yX6_rowsThere ∈ mj_gw := mj_gw_sel 30 (by decide +kernel) (by decide +kernel)
def jX6_tryHours : mj_J := (yX6_tryHours, cX6_tryHours, 3, none, 5, 0, 0)
theorem kX6_tryHours : mj_K jX6_tryHours 1 := ⟨mj_gw_in 551 (by decide +kernel) (by decide +kernel), mw_ini_RX6, ⟨by decide +kernel, by decide +kernel, by decide +kernel⟩, rfl, rfl, by decide⟩
theorem mw_i_X6_tryHours : Cond.instanceMethod yX6_tryHours ∈ mj_gw := mj_gw_in 550 (by decide +kernel) (by decide +kernel)
theorem mw_s_X6_tryHours : Cond.selects (yX6_tryHours).cls yX6_tryHours yX6_tryHours ∈ mj_gw := mj_gw_sel 21 (by decide +kernel) (by decide +kernel)
def jX6_spread : mj_J := (yX6_spread, cX6_spread, 6, (some .int), 2, 0, 0)
theorem kX6_spread : mj_K jX6_spread 3 := ⟨mj_gw_in 572 (by decide +kernel) (by decide +kernel), mw_ini_RX6, ⟨by decide +kernel, by decide +kernel, by decide +kernel⟩, rfl, rfl, by decide⟩
theorem mw_i_X6_spread : Cond.instanceMethod yX6_spread ∈ mj_gw := mj_gw_in 571 (by decide +kernel) (by decide +kernel)
theorem mw_s_X6_spread : Cond.selects (yX6_spread).cls yX6_spread yX6_spread ∈ mj_gw := mj_gw_sel 22 (by decide +kernel) (by decide +kernel)
def jX6_earnedAt : mj_J := (yX6_earnedAt, cX6_earnedAt, 6, (some .int), 4, 0, 0)
theorem kX6_earnedAt : mj_K jX6_earnedAt 3 := ⟨mj_gw_in 581 (by decide +kernel) (by decide +kernel), mw_ini_RX6, ⟨by decide +kernel, by decide +kernel, by decide +kernel⟩, rfl, rfl, by decide⟩
theorem mw_i_X6_earnedAt : Cond.instanceMethod yX6_earnedAt ∈ mj_gw := mj_gw_in 580 (by decide +kernel) (by decide +kernel)
theorem mw_s_X6_earnedAt : Cond.selects (yX6_earnedAt).cls yX6_earnedAt yX6_earnedAt ∈ mj_gw := mj_gw_sel 23 (by decide +kernel) (by decide +kernel)
def jX6_leavesDew : mj_J := (yX6_leavesDew, cX6_leavesDew, 6, (some .boolean), 4, 0, 0)
theorem kX6_leavesDew : mj_K jX6_leavesDew 4 := ⟨mj_gw_in 598 (by decide +kernel) (by decide +kernel), mw_ini_RX6, ⟨by decide +kernel, by decide +kernel, by decide +kernel⟩, rfl, rfl, by decide⟩
theorem mw_i_X6_leavesDew : Cond.instanceMethod yX6_leavesDew ∈ mj_gw := mj_gw_in 597 (by decide +kernel) (by decide +kernel)
theorem mw_s_X6_leavesDew : Cond.selects (yX6_leavesDew).cls yX6_leavesDew yX6_leavesDew ∈ mj_gw := mj_gw_sel 24 (by decide +kernel) (by decide +kernel)
def jX6_tookWay : mj_J := (yX6_tookWay, cX6_tookWay, 9, (some .boolean), 2, 0, 0)
theorem kX6_tookWay : mj_K jX6_tookWay 6 := ⟨mj_gw_in 606 (by decide +kernel) (by decide +kernel), mw_ini_RX6, ⟨by decide +kernel, by decide +kernel, by decide +kernel⟩, rfl, rfl, by decide⟩
theorem mw_i_X6_tookWay : Cond.instanceMethod yX6_tookWay ∈ mj_gw := mj_gw_in 605 (by decide +kernel) (by decide +kernel)
theorem mw_s_X6_tookWay : Cond.selects (yX6_tookWay).cls yX6_tookWay yX6_tookWay ∈ mj_gw := mj_gw_sel 25 (by decide +kernel) (by decide +kernel)
def jX6_flewSo : mj_J := (yX6_flewSo, cX6_flewSo, 7, (some .boolean), 1, 0, 0)
theorem kX6_flewSo : mj_K jX6_flewSo 5 := ⟨mj_gw_in 614 (by decide +kernel) (by decide +kernel), mw_ini_RX6, ⟨by decide +kernel, by decide +kernel, by decide +kernel⟩, rfl, rfl, by decide⟩
theorem mw_i_X6_flewSo : Cond.instanceMethod yX6_flewSo ∈ mj_gw := mj_gw_in 613 (by decide +kernel) (by decide +kernel)
theorem mw_s_X6_flewSo : Cond.selects (yX6_flewSo).cls yX6_flewSo yX6_flewSo ∈ mj_gw := mj_gw_sel 26 (by decide +kernel) (by decide +kernel)
def jX6_cellBehind : mj_J := (yX6_cellBehind, cX6_cellBehind, 6, (some .int), 2, 0, 0)
theorem kX6_cellBehind : mj_K jX6_cellBehind 3 := ⟨mj_gw_in 622 (by decide +kernel) (by decide +kernel), mw_ini_RX6, ⟨by decide +kernel, by decide +kernel, by decide +kernel⟩, rfl, rfl, by decide⟩
theorem mw_i_X6_cellBehind : Cond.instanceMethod yX6_cellBehind ∈ mj_gw := mj_gw_in 621 (by decide +kernel) (by decide +kernel)
theorem mw_s_X6_cellBehind : Cond.selects (yX6_cellBehind).cls yX6_cellBehind yX6_cellBehind ∈ mj_gw := mj_gw_sel 27 (by decide +kernel) (by decide +kernel)
def jX6_lineRefusal : mj_J := (yX6_lineRefusal, cX6_lineRefusal, 5, (some .int), 2, 0, 0)
theorem kX6_lineRefusal : mj_K jX6_lineRefusal 2 := ⟨mj_gw_in 634 (by decide +kernel) (by decide +kernel), mw_ini_RX6, ⟨by decide +kernel, by decide +kernel, by decide +kernel⟩, rfl, rfl, by decide⟩
theorem mw_i_X6_lineRefusal : Cond.instanceMethod yX6_lineRefusal ∈ mj_gw := mj_gw_in 633 (by decide +kernel) (by decide +kernel)
theorem mw_s_X6_lineRefusal : Cond.selects (yX6_lineRefusal).cls yX6_lineRefusal yX6_lineRefusal ∈ mj_gw := mj_gw_sel 28 (by decide +kernel) (by decide +kernel)
def jX6_bestPlaces : mj_J := (yX6_bestPlaces, cX6_bestPlaces, 8, (some .int), 2, 0, 0)
theorem kX6_bestPlaces : mj_K jX6_bestPlaces 2 := ⟨mj_gw_in 637 (by decide +kernel) (by decide +kernel), mw_ini_RX6, ⟨by decide +kernel, by decide +kernel, by decide +kernel⟩, rfl, rfl, by decide⟩
theorem mw_t_X6_bestPlaces : Cond.static yX6_bestPlaces ∈ mj_gw := mj_gw_in 636 (by decide +kernel) (by decide +kernel)
def jX6_valueAbove : mj_J := (yX6_valueAbove, cX6_valueAbove, 6, (some .long), 1, 0, 0)
theorem kX6_valueAbove : mj_K jX6_valueAbove 3 := ⟨mj_gw_in 640 (by decide +kernel) (by decide +kernel), mw_ini_RX6, ⟨by decide +kernel, by decide +kernel, by decide +kernel⟩, rfl, rfl, by decide⟩
theorem mw_t_X6_valueAbove : Cond.static yX6_valueAbove ∈ mj_gw := mj_gw_in 639 (by decide +kernel) (by decide +kernel)
def jX6_valueBelow : mj_J := (yX6_valueBelow, cX6_valueBelow, 8, (some .long), 0, 0, 0)
theorem kX6_valueBelow : mj_K jX6_valueBelow 3 := ⟨mj_gw_in 649 (by decide +kernel) (by decide +kernel), mw_ini_RX6, ⟨by decide +kernel, by decide +kernel, by decide +kernel⟩, rfl, rfl, by decide⟩
theorem mw_t_X6_valueBelow : Cond.static yX6_valueBelow ∈ mj_gw := mj_gw_in 648 (by decide +kernel) (by decide +kernel)
def jX6_lowest : mj_J := (yX6_lowest, cX6_lowest, 12, (some .long), 0, 0, 0)
theorem kX6_lowest : mj_K jX6_lowest 3 := ⟨mj_gw_in 626 (by decide +kernel) (by decide +kernel), mw_ini_RX6, ⟨by decide +kernel, by decide +kernel, by decide +kernel⟩, rfl, rfl, by decide⟩
theorem mw_t_X6_lowest : Cond.static yX6_lowest ∈ mj_gw := mj_gw_in 625 (by decide +kernel) (by decide +kernel)
def jX7_in : mj_J := (yX7_in, cX7_in, 6, (some .boolean), 0, 0, 0)
theorem kX7_in : mj_K jX7_in 3 := ⟨mj_gw_in 822 (by decide +kernel) (by decide +kernel), mw_ini_RX7, ⟨by decide +kernel, by decide +kernel, by decide +kernel⟩, rfl, rfl, by decide⟩
theorem mw_t_X7_in : Cond.static yX7_in ∈ mj_gw := mj_gw_in 821 (by decide +kernel) (by decide +kernel)
def jX7_find : mj_J := (yX7_find, cX7_find, 2, (some .int), 0, 0, 0)
theorem kX7_find : mj_K jX7_find 1 := ⟨mj_gw_in 828 (by decide +kernel) (by decide +kernel), mw_ini_RX7, ⟨by decide +kernel, by decide +kernel, by decide +kernel⟩, rfl, rfl, by decide⟩
theorem mw_i_X7_find : Cond.instanceMethod yX7_find ∈ mj_gw := mj_gw_in 827 (by decide +kernel) (by decide +kernel)
theorem mw_s_X7_find : Cond.selects (yX7_find).cls yX7_find yX7_find ∈ mj_gw := mj_gw_sel 31 (by decide +kernel) (by decide +kernel)
def jX7_well : mj_J := (yX7_well, cX7_well, 2, (some .int), 0, 0, 0)
theorem kX7_well : mj_K jX7_well 1 := ⟨mj_gw_in 833 (by decide +kernel) (by decide +kernel), mw_ini_RX7, ⟨by decide +kernel, by decide +kernel, by decide +kernel⟩, rfl, rfl, by decide⟩
theorem mw_i_X7_well : Cond.instanceMethod yX7_well ∈ mj_gw := mj_gw_in 832 (by decide +kernel) (by decide +kernel)
theorem mw_s_X7_well : Cond.selects (yX7_well).cls yX7_well yX7_well ∈ mj_gw := mj_gw_sel 32 (by decide +kernel) (by decide +kernel)
def jX7_isRow : mj_J := (yX7_isRow, cX7_isRow, 1, (some .boolean), 1, 0, 0)
theorem kX7_isRow : mj_K jX7_isRow 1 := ⟨mj_gw_in 818 (by decide +kernel) (by decide +kernel), mw_ini_RX7, ⟨by decide +kernel, by decide +kernel, by decide +kernel⟩, rfl, rfl, by decide⟩
theorem mw_t_X7_isRow : Cond.static yX7_isRow ∈ mj_gw := mj_gw_in 817 (by decide +kernel) (by decide +kernel)
def jX7_row : mj_J := (yX7_row, cX7_row, 5, (some .int), 2, 0, 0)
theorem kX7_row : mj_K jX7_row 3 := ⟨mj_gw_in 815 (by decide +kernel) (by decide +kernel), mw_ini_RX7, ⟨by decide +kernel, by decide +kernel, by decide +kernel⟩, rfl, rfl, by decide⟩
theorem mw_i_X7_row : Cond.instanceMethod yX7_row ∈ mj_gw := mj_gw_in 813 (by decide +kernel) (by decide +kernel)
theorem mw_s_X7_row : Cond.selects (yX7_row).cls yX7_row yX7_row ∈ mj_gw := mj_gw_in 814 (by decide +kernel) (by decide +kernel)
def jX7_asLane : mj_J := (yX7_asLane, cX7_asLane, 2, (some .int), 0, 0, 0)
theorem kX7_asLane : mj_K jX7_asLane 2 := ⟨mj_gw_in 840 (by decide +kernel) (by decide +kernel), mw_ini_RX7, ⟨by decide +kernel, by decide +kernel, by decide +kernel⟩, rfl, rfl, by decide⟩
theorem mw_t_X7_asLane : Cond.static yX7_asLane ∈ mj_gw := mj_gw_in 839 (by decide +kernel) (by decide +kernel)
def jX7_set : mj_J := (yX7_set, cX7_set, 4, (some .int), 2, 0, 0)
theorem kX7_set : mj_K jX7_set 3 := ⟨mj_gw_in 837 (by decide +kernel) (by decide +kernel), mw_ini_RX7, ⟨by decide +kernel, by decide +kernel, by decide +kernel⟩, rfl, rfl, by decide⟩
theorem mw_i_X7_set : Cond.instanceMethod yX7_set ∈ mj_gw := mj_gw_in 835 (by decide +kernel) (by decide +kernel)
theorem mw_s_X7_set : Cond.selects (yX7_set).cls yX7_set yX7_set ∈ mj_gw := mj_gw_in 836 (by decide +kernel) (by decide +kernel)
def jX7_copy : mj_J := (yX7_copy, cX7_copy, 7, (some .int), 2, 0, 0)
theorem kX7_copy : mj_K jX7_copy 5 := ⟨mj_gw_in 844 (by decide +kernel) (by decide +kernel), mw_ini_RX7, ⟨by decide +kernel, by decide +kernel, by decide +kernel⟩, rfl, rfl, by decide⟩
theorem mw_i_X7_copy : Cond.instanceMethod yX7_copy ∈ mj_gw := mj_gw_in 842 (by decide +kernel) (by decide +kernel)
theorem mw_s_X7_copy : Cond.selects (yX7_copy).cls yX7_copy yX7_copy ∈ mj_gw := mj_gw_in 843 (by decide +kernel) (by decide +kernel)
def jX7_drop : mj_J := (yX7_drop, cX7_drop, 3, (some .int), 2, 0, 0)
theorem kX7_drop : mj_K jX7_drop 1 := ⟨mj_gw_in 848 (by decide +kernel) (by decide +kernel), mw_ini_RX7, ⟨by decide +kernel, by decide +kernel, by decide +kernel⟩, rfl, rfl, by decide⟩
theorem mw_i_X7_drop : Cond.instanceMethod yX7_drop ∈ mj_gw := mj_gw_in 846 (by decide +kernel) (by decide +kernel)
theorem mw_s_X7_drop : Cond.selects (yX7_drop).cls yX7_drop yX7_drop ∈ mj_gw := mj_gw_in 847 (by decide +kernel) (by decide +kernel)
def jX7_feed : mj_J := (yX7_feed, cX7_feed, 2, (some .int), 1, 0, 0)
theorem kX7_feed : mj_K jX7_feed 1 := ⟨mj_gw_in 852 (by decide +kernel) (by decide +kernel), mw_ini_RX7, ⟨by decide +kernel, by decide +kernel, by decide +kernel⟩, rfl, rfl, by decide⟩
theorem mw_i_X7_feed : Cond.instanceMethod yX7_feed ∈ mj_gw := mj_gw_in 850 (by decide +kernel) (by decide +kernel)
theorem mw_s_X7_feed : Cond.selects (yX7_feed).cls yX7_feed yX7_feed ∈ mj_gw := mj_gw_in 851 (by decide +kernel) (by decide +kernel)
def jX7_nextToken : mj_J := (yX7_nextToken, cX7_nextToken, 1, none, 1, 0, 0)
theorem kX7_nextToken : mj_K jX7_nextToken 0 := ⟨mj_gw_in 866 (by decide +kernel) (by decide +kernel), mw_ini_RX7, ⟨by decide +kernel, by decide +kernel, by decide +kernel⟩, rfl, rfl, by decide⟩
theorem mw_i_X7_nextToken : Cond.instanceMethod yX7_nextToken ∈ mj_gw := mj_gw_in 865 (by decide +kernel) (by decide +kernel)
theorem mw_s_X7_nextToken : Cond.selects (yX7_nextToken).cls yX7_nextToken yX7_nextToken ∈ mj_gw := mj_gw_sel 34 (by decide +kernel) (by decide +kernel)
def jX7_faults : mj_J := (yX7_faults, cX7_faults, 2, (some .boolean), 0, 0, 0)
theorem kX7_faults : mj_K jX7_faults 1 := ⟨mj_gw_in 886 (by decide +kernel) (by decide +kernel), mw_ini_RX7, ⟨by decide +kernel, by decide +kernel, by decide +kernel⟩, rfl, rfl, by decide⟩
theorem mw_i_X7_faults : Cond.instanceMethod yX7_faults ∈ mj_gw := mj_gw_in 885 (by decide +kernel) (by decide +kernel)
theorem mw_s_X7_faults : Cond.selects (yX7_faults).cls yX7_faults yX7_faults ∈ mj_gw := mj_gw_sel 38 (by decide +kernel) (by decide +kernel)
def jX7_isLetter : mj_J := (yX7_isLetter, cX7_isLetter, 2, (some .boolean), 0, 0, 0)
theorem kX7_isLetter : mj_K jX7_isLetter 1 := ⟨mj_gw_in 882 (by decide +kernel) (by decide +kernel), mw_ini_RX7, ⟨by decide +kernel, by decide +kernel, by decide +kernel⟩, rfl, rfl, by decide⟩
theorem mw_i_X7_isLetter : Cond.instanceMethod yX7_isLetter ∈ mj_gw := mj_gw_in 881 (by decide +kernel) (by decide +kernel)
theorem mw_s_X7_isLetter : Cond.selects (yX7_isLetter).cls yX7_isLetter yX7_isLetter ∈ mj_gw := mj_gw_sel 37 (by decide +kernel) (by decide +kernel)
def jX7_takes : mj_J := (yX7_takes, cX7_takes, 2, (some .boolean), 2, 0, 0)
theorem kX7_takes : mj_K jX7_takes 1 := ⟨mj_gw_in 878 (by decide +kernel) (by decide +kernel), mw_ini_RX7, ⟨by decide +kernel, by decide +kernel, by decide +kernel⟩, rfl, rfl, by decide⟩
theorem mw_i_X7_takes : Cond.instanceMethod yX7_takes ∈ mj_gw := mj_gw_in 877 (by decide +kernel) (by decide +kernel)
theorem mw_s_X7_takes : Cond.selects (yX7_takes).cls yX7_takes yX7_takes ∈ mj_gw := mj_gw_sel 36 (by decide +kernel) (by decide +kernel)
def jX7_isNumber : mj_J := (yX7_isNumber, cX7_isNumber, 3, (some .boolean), 1, 0, 0)
theorem kX7_isNumber : mj_K jX7_isNumber 2 := ⟨mj_gw_in 890 (by decide +kernel) (by decide +kernel), mw_ini_RX7, ⟨by decide +kernel, by decide +kernel, by decide +kernel⟩, rfl, rfl, by decide⟩
theorem mw_i_X7_isNumber : Cond.instanceMethod yX7_isNumber ∈ mj_gw := mj_gw_in 889 (by decide +kernel) (by decide +kernel)
theorem mw_s_X7_isNumber : Cond.selects (yX7_isNumber).cls yX7_isNumber yX7_isNumber ∈ mj_gw := mj_gw_sel 39 (by decide +kernel) (by decide +kernel)
def jX7_taken : mj_J := (yX7_taken, cX7_taken, 2, (some .int), 2, 0, 0)
theorem kX7_taken : mj_K jX7_taken 0 := ⟨mj_gw_in 894 (by decide +kernel) (by decide +kernel), mw_ini_RX7, ⟨by decide +kernel, by decide +kernel, by decide +kernel⟩, rfl, rfl, by decide⟩
theorem mw_i_X7_taken : Cond.instanceMethod yX7_taken ∈ mj_gw := mj_gw_in 893 (by decide +kernel) (by decide +kernel)
theorem mw_s_X7_taken : Cond.selects (yX7_taken).cls yX7_taken yX7_taken ∈ mj_gw := mj_gw_sel 40 (by decide +kernel) (by decide +kernel)
def jX7_readWind : mj_J := (yX7_readWind, cX7_readWind, 5, (some .boolean), 3, 0, 0)
theorem kX7_readWind : mj_K jX7_readWind 2 := ⟨mj_gw_in 898 (by decide +kernel) (by decide +kernel), mw_ini_RX7, ⟨by decide +kernel, by decide +kernel, by decide +kernel⟩, rfl, rfl, by decide⟩
theorem mw_i_X7_readWind : Cond.instanceMethod yX7_readWind ∈ mj_gw := mj_gw_in 897 (by decide +kernel) (by decide +kernel)
theorem mw_s_X7_readWind : Cond.selects (yX7_readWind).cls yX7_readWind yX7_readWind ∈ mj_gw := mj_gw_sel 41 (by decide +kernel) (by decide +kernel)
def jX7_readLaw : mj_J := (yX7_readLaw, cX7_readLaw, 1, (some .boolean), 3, 0, 0)
theorem kX7_readLaw : mj_K jX7_readLaw 0 := ⟨mj_gw_in 874 (by decide +kernel) (by decide +kernel), mw_ini_RX7, ⟨by decide +kernel, by decide +kernel, by decide +kernel⟩, rfl, rfl, by decide⟩
theorem mw_i_X7_readLaw : Cond.instanceMethod yX7_readLaw ∈ mj_gw := mj_gw_in 873 (by decide +kernel) (by decide +kernel)
theorem mw_s_X7_readLaw : Cond.selects (yX7_readLaw).cls yX7_readLaw yX7_readLaw ∈ mj_gw := mj_gw_sel 35 (by decide +kernel) (by decide +kernel)
def jX7_readParish : mj_J := (yX7_readParish, cX7_readParish, 2, (some .boolean), 3, 0, 0)
theorem kX7_readParish : mj_K jX7_readParish 1 := ⟨mj_gw_in 902 (by decide +kernel) (by decide +kernel), mw_ini_RX7, ⟨by decide +kernel, by decide +kernel, by decide +kernel⟩, rfl, rfl, by decide⟩
theorem mw_i_X7_readParish : Cond.instanceMethod yX7_readParish ∈ mj_gw := mj_gw_in 901 (by decide +kernel) (by decide +kernel)
theorem mw_s_X7_readParish : Cond.selects (yX7_readParish).cls yX7_readParish yX7_readParish ∈ mj_gw := mj_gw_sel 42 (by decide +kernel) (by decide +kernel)
def jX7_isTaken : mj_J := (yX7_isTaken, cX7_isTaken, 4, (some .boolean), 0, 0, 0)
theorem kX7_isTaken : mj_K jX7_isTaken 1 := ⟨mj_gw_in 910 (by decide +kernel) (by decide +kernel), mw_ini_RX7, ⟨by decide +kernel, by decide +kernel, by decide +kernel⟩, rfl, rfl, by decide⟩
theorem mw_i_X7_isTaken : Cond.instanceMethod yX7_isTaken ∈ mj_gw := mj_gw_in 909 (by decide +kernel) (by decide +kernel)
theorem mw_s_X7_isTaken : Cond.selects (yX7_isTaken).cls yX7_isTaken yX7_isTaken ∈ mj_gw := mj_gw_sel 44 (by decide +kernel) (by decide +kernel)
def jX7_readCloud : mj_J := (yX7_readCloud, cX7_readCloud, 3, (some .boolean), 3, 0, 0)
theorem kX7_readCloud : mj_K jX7_readCloud 1 := ⟨mj_gw_in 906 (by decide +kernel) (by decide +kernel), mw_ini_RX7, ⟨by decide +kernel, by decide +kernel, by decide +kernel⟩, rfl, rfl, by decide⟩
theorem mw_i_X7_readCloud : Cond.instanceMethod yX7_readCloud ∈ mj_gw := mj_gw_in 905 (by decide +kernel) (by decide +kernel)
theorem mw_s_X7_readCloud : Cond.selects (yX7_readCloud).cls yX7_readCloud yX7_readCloud ∈ mj_gw := mj_gw_sel 43 (by decide +kernel) (by decide +kernel)
def jX7_readHerd : mj_J := (yX7_readHerd, cX7_readHerd, 4, (some .boolean), 4, 0, 0)
theorem kX7_readHerd : mj_K jX7_readHerd 0 := ⟨mj_gw_in 862 (by decide +kernel) (by decide +kernel), mw_ini_RX7, ⟨by decide +kernel, by decide +kernel, by decide +kernel⟩, rfl, rfl, by decide⟩
theorem mw_i_X7_readHerd : Cond.instanceMethod yX7_readHerd ∈ mj_gw := mj_gw_in 861 (by decide +kernel) (by decide +kernel)
theorem mw_s_X7_readHerd : Cond.selects (yX7_readHerd).cls yX7_readHerd yX7_readHerd ∈ mj_gw := mj_gw_sel 33 (by decide +kernel) (by decide +kernel)
def jX7_herd : mj_J := (yX7_herd, cX7_herd, 3, (some .int), 5, 0, 0)
theorem kX7_herd : mj_K jX7_herd 0 := ⟨mj_gw_in 858 (by decide +kernel) (by decide +kernel), mw_ini_RX7, ⟨by decide +kernel, by decide +kernel, by decide +kernel⟩, rfl, rfl, by decide⟩
theorem mw_i_X7_herd : Cond.instanceMethod yX7_herd ∈ mj_gw := mj_gw_in 856 (by decide +kernel) (by decide +kernel)
theorem mw_s_X7_herd : Cond.selects (yX7_herd).cls yX7_herd yX7_herd ∈ mj_gw := mj_gw_in 857 (by decide +kernel) (by decide +kernel)
def jX7_fault : mj_J := (yX7_fault, cX7_fault, 1, (some .int), 0, 0, 0)
theorem kX7_fault : mj_K jX7_fault 0 := ⟨mj_gw_in 915 (by decide +kernel) (by decide +kernel), mw_ini_RX7, ⟨by decide +kernel, by decide +kernel, by decide +kernel⟩, rfl, rfl, by decide⟩
theorem mw_i_X7_fault : Cond.instanceMethod yX7_fault ∈ mj_gw := mj_gw_in 913 (by decide +kernel) (by decide +kernel)
theorem mw_s_X7_fault : Cond.selects (yX7_fault).cls yX7_fault yX7_fault ∈ mj_gw := mj_gw_in 914 (by decide +kernel) (by decide +kernel)
def jX7_beside : mj_J := (yX7_beside, cX7_beside, 4, (some .int), 0, 0, 0)
theorem kX7_beside : mj_K jX7_beside 2 := ⟨mj_gw_in 951 (by decide +kernel) (by decide +kernel), mw_ini_RX7, ⟨by decide +kernel, by decide +kernel, by decide +kernel⟩, rfl, rfl, by decide⟩
theorem mw_t_X7_beside : Cond.static yX7_beside ∈ mj_gw := mj_gw_in 950 (by decide +kernel) (by decide +kernel)
def jX7_other : mj_J := (yX7_other, cX7_other, 1, (some .int), 0, 0, 0)
theorem kX7_other : mj_K jX7_other 1 := ⟨mj_gw_in 948 (by decide +kernel) (by decide +kernel), mw_ini_RX7, ⟨by decide +kernel, by decide +kernel, by decide +kernel⟩, rfl, rfl, by decide⟩
theorem mw_t_X7_other : Cond.static yX7_other ∈ mj_gw := mj_gw_in 947 (by decide +kernel) (by decide +kernel)
def jX7_drifts : mj_J := (yX7_drifts, cX7_drifts, 6, (some .int), 1, 0, 0)
theorem kX7_drifts : mj_K jX7_drifts 4 := ⟨mj_gw_in 945 (by decide +kernel) (by decide +kernel), mw_ini_RX7, ⟨by decide +kernel, by decide +kernel, by decide +kernel⟩, rfl, rfl, by decide⟩
theorem mw_i_X7_drifts : Cond.instanceMethod yX7_drifts ∈ mj_gw := mj_gw_in 944 (by decide +kernel) (by decide +kernel)
theorem mw_s_X7_drifts : Cond.selects (yX7_drifts).cls yX7_drifts yX7_drifts ∈ mj_gw := mj_gw_sel 49 (by decide +kernel) (by decide +kernel)
def jX7_drift : mj_J := (yX7_drift, cX7_drift, 2, none, 2, 0, 0)
theorem kX7_drift : mj_K jX7_drift 1 := ⟨mj_gw_in 941 (by decide +kernel) (by decide +kernel), mw_ini_RX7, ⟨by decide +kernel, by decide +kernel, by decide +kernel⟩, rfl, rfl, by decide⟩
theorem mw_i_X7_drift : Cond.instanceMethod yX7_drift ∈ mj_gw := mj_gw_in 940 (by decide +kernel) (by decide +kernel)
theorem mw_s_X7_drift : Cond.selects (yX7_drift).cls yX7_drift yX7_drift ∈ mj_gw := mj_gw_sel 48 (by decide +kernel) (by decide +kernel)
def jX7_rainOf : mj_J := (yX7_rainOf, cX7_rainOf, 5, (some .int), 0, 0, 0)
theorem kX7_rainOf : mj_K jX7_rainOf 1 := ⟨mj_gw_in 963 (by decide +kernel) (by decide +kernel), mw_ini_RX7, ⟨by decide +kernel, by decide +kernel, by decide +kernel⟩, rfl, rfl, by decide⟩
theorem mw_i_X7_rainOf : Cond.instanceMethod yX7_rainOf ∈ mj_gw := mj_gw_in 962 (by decide +kernel) (by decide +kernel)
theorem mw_s_X7_rainOf : Cond.selects (yX7_rainOf).cls yX7_rainOf yX7_rainOf ∈ mj_gw := mj_gw_sel 52 (by decide +kernel) (by decide +kernel)
def jX7_rain : mj_J := (yX7_rain, cX7_rain, 4, (some .int), 1, 0, 0)
theorem kX7_rain : mj_K jX7_rain 1 := ⟨mj_gw_in 959 (by decide +kernel) (by decide +kernel), mw_ini_RX7, ⟨by decide +kernel, by decide +kernel, by decide +kernel⟩, rfl, rfl, by decide⟩
theorem mw_i_X7_rain : Cond.instanceMethod yX7_rain ∈ mj_gw := mj_gw_in 958 (by decide +kernel) (by decide +kernel)
theorem mw_s_X7_rain : Cond.selects (yX7_rain).cls yX7_rain yX7_rain ∈ mj_gw := mj_gw_sel 51 (by decide +kernel) (by decide +kernel)
def jX7_milk : mj_J := (yX7_milk, cX7_milk, 2, none, 0, 0, 0)
theorem kX7_milk : mj_K jX7_milk 1 := ⟨mj_gw_in 967 (by decide +kernel) (by decide +kernel), mw_ini_RX7, ⟨by decide +kernel, by decide +kernel, by decide +kernel⟩, rfl, rfl, by decide⟩
theorem mw_i_X7_milk : Cond.instanceMethod yX7_milk ∈ mj_gw := mj_gw_in 966 (by decide +kernel) (by decide +kernel)
theorem mw_s_X7_milk : Cond.selects (yX7_milk).cls yX7_milk yX7_milk ∈ mj_gw := mj_gw_sel 53 (by decide +kernel) (by decide +kernel)
def jX7_isThere : mj_J := (yX7_isThere, cX7_isThere, 2, (some .boolean), 0, 0, 0)
theorem kX7_isThere : mj_K jX7_isThere 1 := ⟨mj_gw_in 937 (by decide +kernel) (by decide +kernel), mw_ini_RX7, ⟨by decide +kernel, by decide +kernel, by decide +kernel⟩, rfl, rfl, by decide⟩
theorem mw_i_X7_isThere : Cond.instanceMethod yX7_isThere ∈ mj_gw := mj_gw_in 936 (by decide +kernel) (by decide +kernel)
theorem mw_s_X7_isThere : Cond.selects (yX7_isThere).cls yX7_isThere yX7_isThere ∈ mj_gw := mj_gw_sel 47 (by decide +kernel) (by decide +kernel)
def jX7_together : mj_J := (yX7_together, cX7_together, 5, (some .int), 1, 0, 0)
theorem kX7_together : mj_K jX7_together 0 := ⟨mj_gw_in 955 (by decide +kernel) (by decide +kernel), mw_ini_RX7, ⟨by decide +kernel, by decide +kernel, by decide +kernel⟩, rfl, rfl, by decide⟩
theorem mw_i_X7_together : Cond.instanceMethod yX7_together ∈ mj_gw := mj_gw_in 954 (by decide +kernel) (by decide +kernel)
theorem mw_s_X7_together : Cond.selects (yX7_together).cls yX7_together yX7_together ∈ mj_gw := mj_gw_sel 50 (by decide +kernel) (by decide +kernel)
def jX7_oneHour : mj_J := (yX7_oneHour, cX7_oneHour, 3, (some .int), 3, 0, 0)
theorem kX7_oneHour : mj_K jX7_oneHour 0 := ⟨mj_gw_in 933 (by decide +kernel) (by decide +kernel), mw_ini_RX7, ⟨by decide +kernel, by decide +kernel, by decide +kernel⟩, rfl, rfl, by decide⟩
theorem mw_i_X7_oneHour : Cond.instanceMethod yX7_oneHour ∈ mj_gw := mj_gw_in 932 (by decide +kernel) (by decide +kernel)
theorem mw_s_X7_oneHour : Cond.selects (yX7_oneHour).cls yX7_oneHour yX7_oneHour ∈ mj_gw := mj_gw_sel 46 (by decide +kernel) (by decide +kernel)
def jX7_oneAlone : mj_J := (yX7_oneAlone, cX7_oneAlone, 3, (some .int), 3, 0, 0)
theorem kX7_oneAlone : mj_K jX7_oneAlone 1 := ⟨mj_gw_in 1053 (by decide +kernel) (by decide +kernel), mw_ini_RX7, ⟨by decide +kernel, by decide +kernel, by decide +kernel⟩, rfl, rfl, by decide⟩
theorem mw_i_X7_oneAlone : Cond.instanceMethod yX7_oneAlone ∈ mj_gw := mj_gw_in 1052 (by decide +kernel) (by decide +kernel)
theorem mw_s_X7_oneAlone : Cond.selects (yX7_oneAlone).cls yX7_oneAlone yX7_oneAlone ∈ mj_gw := mj_gw_sel 61 (by decide +kernel) (by decide +kernel)
def jX7_note : mj_J := (yX7_note, cX7_note, 2, none, 0, 0, 0)
theorem kX7_note : mj_K jX7_note 0 := ⟨mj_gw_in 929 (by decide +kernel) (by decide +kernel), mw_ini_RX7, ⟨by decide +kernel, by decide +kernel, by decide +kernel⟩, rfl, rfl, by decide⟩
theorem mw_i_X7_note : Cond.instanceMethod yX7_note ∈ mj_gw := mj_gw_in 928 (by decide +kernel) (by decide +kernel)
theorem mw_s_X7_note : Cond.selects (yX7_note).cls yX7_note yX7_note ∈ mj_gw := mj_gw_sel 45 (by decide +kernel) (by decide +kernel)
def jX7_undo : mj_J := (yX7_undo, cX7_undo, 2, (some .int), 0, 0, 0)
theorem kX7_undo : mj_K jX7_undo 0 := ⟨mj_gw_in 919 (by decide +kernel) (by decide +kernel), mw_ini_RX7, ⟨by decide +kernel, by decide +kernel, by decide +kernel⟩, rfl, rfl, by decide⟩
theorem mw_i_X7_undo : Cond.instanceMethod yX7_undo ∈ mj_gw := mj_gw_in 917 (by decide +kernel) (by decide +kernel)
theorem mw_s_X7_undo : Cond.selects (yX7_undo).cls yX7_undo yX7_undo ∈ mj_gw := mj_gw_in 918 (by decide +kernel) (by decide +kernel)
def jX7_hours : mj_J := (yX7_hours, cX7_hours, 3, (some .int), 4, 0, 0)
theorem kX7_hours : mj_K jX7_hours 1 := ⟨mj_gw_in 924 (by decide +kernel) (by decide +kernel), mw_ini_RX7, ⟨by decide +kernel, by decide +kernel, by decide +kernel⟩, rfl, rfl, by decide⟩
theorem mw_i_X7_hours : Cond.instanceMethod yX7_hours ∈ mj_gw := mj_gw_in 922 (by decide +kernel) (by decide +kernel)
theorem mw_s_X7_hours : Cond.selects (yX7_hours).cls yX7_hours yX7_hours ∈ mj_gw := mj_gw_in 923 (by decide +kernel) (by decide +kernel)
def jX7_isCloud : mj_J := (yX7_isCloud, cX7_isCloud, 2, (some .boolean), 1, 0, 0)
theorem kX7_isCloud : mj_K jX7_isCloud 1 := ⟨mj_gw_in 975 (by decide +kernel) (by decide +kernel), mw_ini_RX7, ⟨by decide +kernel, by decide +kernel, by decide +kernel⟩, rfl, rfl, by decide⟩
theorem mw_i_X7_isCloud : Cond.instanceMethod yX7_isCloud ∈ mj_gw := mj_gw_in 974 (by decide +kernel) (by decide +kernel)
theorem mw_s_X7_isCloud : Cond.selects (yX7_isCloud).cls yX7_isCloud yX7_isCloud ∈ mj_gw := mj_gw_sel 54 (by decide +kernel) (by decide +kernel)
def jX7_setHeight : mj_J := (yX7_setHeight, cX7_setHeight, 4, none, 0, 0, 0)
theorem kX7_setHeight : mj_K jX7_setHeight 2 := ⟨mj_gw_in 979 (by decide +kernel) (by decide +kernel), mw_ini_RX7, ⟨by decide +kernel, by decide +kernel, by decide +kernel⟩, rfl, rfl, by decide⟩
theorem mw_i_X7_setHeight : Cond.instanceMethod yX7_setHeight ∈ mj_gw := mj_gw_in 978 (by decide +kernel) (by decide +kernel)
theorem mw_s_X7_setHeight : Cond.selects (yX7_setHeight).cls yX7_setHeight yX7_setHeight ∈ mj_gw := mj_gw_sel 55 (by decide +kernel) (by decide +kernel)
def jX7_lift : mj_J := (yX7_lift, cX7_lift, 3, (some .int), 2, 0, 0)
theorem kX7_lift : mj_K jX7_lift 2 := ⟨mj_gw_in 971 (by decide +kernel) (by decide +kernel), mw_ini_RX7, ⟨by decide +kernel, by decide +kernel, by decide +kernel⟩, rfl, rfl, by decide⟩
theorem mw_i_X7_lift : Cond.instanceMethod yX7_lift ∈ mj_gw := mj_gw_in 969 (by decide +kernel) (by decide +kernel)
theorem mw_s_X7_lift : Cond.selects (yX7_lift).cls yX7_lift yX7_lift ∈ mj_gw := mj_gw_in 970 (by decide +kernel) (by decide +kernel)
def jX7_rains : mj_J := (yX7_rains, cX7_rains, 4, (some .int), 2, 0, 0)
theorem kX7_rains : mj_K jX7_rains 2 := ⟨mj_gw_in 983 (by decide +kernel) (by decide +kernel), mw_ini_RX7, ⟨by decide +kernel, by decide +kernel, by decide +kernel⟩, rfl, rfl, by decide⟩
theorem mw_i_X7_rains : Cond.instanceMethod yX7_rains ∈ mj_gw := mj_gw_in 981 (by decide +kernel) (by decide +kernel)
theorem mw_s_X7_rains : Cond.selects (yX7_rains).cls yX7_rains yX7_rains ∈ mj_gw := mj_gw_in 982 (by decide +kernel) (by decide +kernel)
def jX7_toldOf : mj_J := (yX7_toldOf, cX7_toldOf, 3, (some .int), 0, 0, 0)
theorem kX7_toldOf : mj_K jX7_toldOf 2 := ⟨mj_gw_in 992 (by decide +kernel) (by decide +kernel), mw_ini_RX7, ⟨by decide +kernel, by decide +kernel, by decide +kernel⟩, rfl, rfl, by decide⟩
theorem mw_i_X7_toldOf : Cond.instanceMethod yX7_toldOf ∈ mj_gw := mj_gw_in 991 (by decide +kernel) (by decide +kernel)
theorem mw_s_X7_toldOf : Cond.selects (yX7_toldOf).cls yX7_toldOf yX7_toldOf ∈ mj_gw := mj_gw_sel 56 (by decide +kernel) (by decide +kernel)
def jX7_cloud : mj_J := (yX7_cloud, cX7_cloud, 3, (some .int), 2, 0, 0)
theorem kX7_cloud : mj_K jX7_cloud 2 := ⟨mj_gw_in 987 (by decide +kernel) (by decide +kernel), mw_ini_RX7, ⟨by decide +kernel, by decide +kernel, by decide +kernel⟩, rfl, rfl, by decide⟩
theorem mw_i_X7_cloud : Cond.instanceMethod yX7_cloud ∈ mj_gw := mj_gw_in 985 (by decide +kernel) (by decide +kernel)
theorem mw_s_X7_cloud : Cond.selects (yX7_cloud).cls yX7_cloud yX7_cloud ∈ mj_gw := mj_gw_in 986 (by decide +kernel) (by decide +kernel)
def jX7_isCell : mj_J := (yX7_isCell, cX7_isCell, 1, (some .boolean), 1, 0, 0)
theorem kX7_isCell : mj_K jX7_isCell 1 := ⟨mj_gw_in 999 (by decide +kernel) (by decide +kernel), mw_ini_RX7, ⟨by decide +kernel, by decide +kernel, by decide +kernel⟩, rfl, rfl, by decide⟩
theorem mw_t_X7_isCell : Cond.static yX7_isCell ∈ mj_gw := mj_gw_in 998 (by decide +kernel) (by decide +kernel)
def jX7_over : mj_J := (yX7_over, cX7_over, 4, (some .int), 1, 0, 0)
theorem kX7_over : mj_K jX7_over 1 := ⟨mj_gw_in 1004 (by decide +kernel) (by decide +kernel), mw_ini_RX7, ⟨by decide +kernel, by decide +kernel, by decide +kernel⟩, rfl, rfl, by decide⟩
theorem mw_i_X7_over : Cond.instanceMethod yX7_over ∈ mj_gw := mj_gw_in 1003 (by decide +kernel) (by decide +kernel)
theorem mw_s_X7_over : Cond.selects (yX7_over).cls yX7_over yX7_over ∈ mj_gw := mj_gw_sel 57 (by decide +kernel) (by decide +kernel)
def jX7_cell : mj_J := (yX7_cell, cX7_cell, 3, (some .int), 2, 0, 0)
theorem kX7_cell : mj_K jX7_cell 2 := ⟨mj_gw_in 996 (by decide +kernel) (by decide +kernel), mw_ini_RX7, ⟨by decide +kernel, by decide +kernel, by decide +kernel⟩, rfl, rfl, by decide⟩
theorem mw_i_X7_cell : Cond.instanceMethod yX7_cell ∈ mj_gw := mj_gw_in 994 (by decide +kernel) (by decide +kernel)
theorem mw_s_X7_cell : Cond.selects (yX7_cell).cls yX7_cell yX7_cell ∈ mj_gw := mj_gw_in 995 (by decide +kernel) (by decide +kernel)
def jX7_wind : mj_J := (yX7_wind, cX7_wind, 3, (some .int), 1, 0, 0)
theorem kX7_wind : mj_K jX7_wind 2 := ⟨mj_gw_in 1008 (by decide +kernel) (by decide +kernel), mw_ini_RX7, ⟨by decide +kernel, by decide +kernel, by decide +kernel⟩, rfl, rfl, by decide⟩
theorem mw_i_X7_wind : Cond.instanceMethod yX7_wind ∈ mj_gw := mj_gw_in 1006 (by decide +kernel) (by decide +kernel)
theorem mw_s_X7_wind : Cond.selects (yX7_wind).cls yX7_wind yX7_wind ∈ mj_gw := mj_gw_in 1007 (by decide +kernel) (by decide +kernel)
def jX7_putAside : mj_J := (yX7_putAside, cX7_putAside, 2, none, 0, 0, 0)
theorem kX7_putAside : mj_K jX7_putAside 0 := ⟨mj_gw_in 1019 (by decide +kernel) (by decide +kernel), mw_ini_RX7, ⟨by decide +kernel, by decide +kernel, by decide +kernel⟩, rfl, rfl, by decide⟩
theorem mw_i_X7_putAside : Cond.instanceMethod yX7_putAside ∈ mj_gw := mj_gw_in 1018 (by decide +kernel) (by decide +kernel)
theorem mw_s_X7_putAside : Cond.selects (yX7_putAside).cls yX7_putAside yX7_putAside ∈ mj_gw := mj_gw_sel 58 (by decide +kernel) (by decide +kernel)
def jX7_takeBack : mj_J := (yX7_takeBack, cX7_takeBack, 2, none, 0, 0, 0)
theorem kX7_takeBack : mj_K jX7_takeBack 0 := ⟨mj_gw_in 1027 (by decide +kernel) (by decide +kernel), mw_ini_RX7, ⟨by decide +kernel, by decide +kernel, by decide +kernel⟩, rfl, rfl, by decide⟩
theorem mw_i_X7_takeBack : Cond.instanceMethod yX7_takeBack ∈ mj_gw := mj_gw_in 1026 (by decide +kernel) (by decide +kernel)
theorem mw_s_X7_takeBack : Cond.selects (yX7_takeBack).cls yX7_takeBack yX7_takeBack ∈ mj_gw := mj_gw_sel 60 (by decide +kernel) (by decide +kernel)
def jX7_goOn : mj_J := (yX7_goOn, cX7_goOn, 3, none, 4, 0, 0)
theorem kX7_goOn : mj_K jX7_goOn 1 := ⟨mj_gw_in 1023 (by decide +kernel) (by decide +kernel), mw_ini_RX7, ⟨by decide +kernel, by decide +kernel, by decide +kernel⟩, rfl, rfl, by decide⟩
theorem mw_i_X7_goOn : Cond.instanceMethod yX7_goOn ∈ mj_gw := mj_gw_in 1022 (by decide +kernel) (by decide +kernel)
theorem mw_s_X7_goOn : Cond.selects (yX7_goOn).cls yX7_goOn yX7_goOn ∈ mj_gw := mj_gw_sel 59 (by decide +kernel) (by decide +kernel)
def jX7_ahead : mj_J := (yX7_ahead, cX7_ahead, 5, (some .int), 5, 0, 0)
theorem kX7_ahead : mj_K jX7_ahead 3 := ⟨mj_gw_in 1013 (by decide +kernel) (by decide +kernel), mw_ini_RX7, ⟨by decide +kernel, by decide +kernel, by decide +kernel⟩, rfl, rfl, by decide⟩
theorem mw_i_X7_ahead : Cond.instanceMethod yX7_ahead ∈ mj_gw := mj_gw_in 1011 (by decide +kernel) (by decide +kernel)
theorem mw_s_X7_ahead : Cond.selects (yX7_ahead).cls yX7_ahead yX7_ahead ∈ mj_gw := mj_gw_in 1012 (by decide +kernel) (by decide +kernel)
def jX7_earned : mj_J := (yX7_earned, cX7_earned, 3, (some .int), 5, 0, 0)
theorem kX7_earned : mj_K jX7_earned 1 := ⟨mj_gw_in 1031 (by decide +kernel) (by decide +kernel), mw_ini_RX7, ⟨by decide +kernel, by decide +kernel, by decide +kernel⟩, rfl, rfl, by decide⟩
theorem mw_i_X7_earned : Cond.instanceMethod yX7_earned ∈ mj_gw := mj_gw_in 1029 (by decide +kernel) (by decide +kernel)
theorem mw_s_X7_earned : Cond.selects (yX7_earned).cls yX7_earned yX7_earned ∈ mj_gw := mj_gw_in 1030 (by decide +kernel) (by decide +kernel)
def jX7_knot : mj_J := (yX7_knot, cX7_knot, 7, (some .int), 4, 0, 0)
theorem kX7_knot : mj_K jX7_knot 2 := ⟨mj_gw_in 1035 (by decide +kernel) (by decide +kernel), mw_ini_RX7, ⟨by decide +kernel, by decide +kernel, by decide +kernel⟩, rfl, rfl, by decide⟩
theorem mw_i_X7_knot : Cond.instanceMethod yX7_knot ∈ mj_gw := mj_gw_in 1033 (by decide +kernel) (by decide +kernel)
theorem mw_s_X7_knot : Cond.selects (yX7_knot).cls yX7_knot yX7_knot ∈ mj_gw := mj_gw_in 1034 (by decide +kernel) (by decide +kernel)
def jX7_wetHay : mj_J := (yX7_wetHay, cX7_wetHay, 6, (some .int), 4, 0, 0)
theorem kX7_wetHay : mj_K jX7_wetHay 2 := ⟨mj_gw_in 1040 (by decide +kernel) (by decide +kernel), mw_ini_RX7, ⟨by decide +kernel, by decide +kernel, by decide +kernel⟩, rfl, rfl, by decide⟩
theorem mw_i_X7_wetHay : Cond.instanceMethod yX7_wetHay ∈ mj_gw := mj_gw_in 1038 (by decide +kernel) (by decide +kernel)
theorem mw_s_X7_wetHay : Cond.selects (yX7_wetHay).cls yX7_wetHay yX7_wetHay ∈ mj_gw := mj_gw_in 1039 (by decide +kernel) (by decide +kernel)
def jX7_soon : mj_J := (yX7_soon, cX7_soon, 6, (some .int), 2, 0, 0)
theorem kX7_soon : mj_K jX7_soon 2 := ⟨mj_gw_in 1044 (by decide +kernel) (by decide +kernel), mw_ini_RX7, ⟨by decide +kernel, by decide +kernel, by decide +kernel⟩, rfl, rfl, by decide⟩
theorem mw_i_X7_soon : Cond.instanceMethod yX7_soon ∈ mj_gw := mj_gw_in 1042 (by decide +kernel) (by decide +kernel)
theorem mw_s_X7_soon : Cond.selects (yX7_soon).cls yX7_soon yX7_soon ∈ mj_gw := mj_gw_in 1043 (by decide +kernel) (by decide +kernel)
def jX7_heights : mj_J := (yX7_heights, cX7_heights, 9, (some .int), 4, 0, 0)
theorem kX7_heights : mj_K jX7_heights 3 := ⟨mj_gw_in 1048 (by decide +kernel) (by decide +kernel), mw_ini_RX7, ⟨by decide +kernel, by decide +kernel, by decide +kernel⟩, rfl, rfl, by decide⟩
theorem mw_i_X7_heights : Cond.instanceMethod yX7_heights ∈ mj_gw := mj_gw_in 1046 (by decide +kernel) (by decide +kernel)
theorem mw_s_X7_heights : Cond.selects (yX7_heights).cls yX7_heights yX7_heights ∈ mj_gw := mj_gw_in 1047 (by decide +kernel) (by decide +kernel)
def jX7_shade : mj_J := (yX7_shade, cX7_shade, 5, (some .int), 4, 0, 0)
theorem kX7_shade : mj_K jX7_shade 2 := ⟨mj_gw_in 1057 (by decide +kernel) (by decide +kernel), mw_ini_RX7, ⟨by decide +kernel, by decide +kernel, by decide +kernel⟩, rfl, rfl, by decide⟩
theorem mw_i_X7_shade : Cond.instanceMethod yX7_shade ∈ mj_gw := mj_gw_in 1055 (by decide +kernel) (by decide +kernel)
theorem mw_s_X7_shade : Cond.selects (yX7_shade).cls yX7_shade yX7_shade ∈ mj_gw := mj_gw_in 1056 (by decide +kernel) (by decide +kernel)
def jX7_lacks : mj_J := (yX7_lacks, cX7_lacks, 4, (some .int), 1, 0, 0)
theorem kX7_lacks : mj_K jX7_lacks 3 := ⟨mj_gw_in 1066 (by decide +kernel) (by decide +kernel), mw_ini_RX7, ⟨by decide +kernel, by decide +kernel, by decide +kernel⟩, rfl, rfl, by decide⟩
theorem mw_i_X7_lacks : Cond.instanceMethod yX7_lacks ∈ mj_gw := mj_gw_in 1065 (by decide +kernel) (by decide +kernel)
theorem mw_s_X7_lacks : Cond.selects (yX7_lacks).cls yX7_lacks yX7_lacks ∈ mj_gw := mj_gw_sel 62 (by decide +kernel) (by decide +kernel)
def jX7_isDew : mj_J := (yX7_isDew, cX7_isDew, 8, (some .boolean), 4, 0, 0)
theorem kX7_isDew : mj_K jX7_isDew 3 := ⟨mj_gw_in 1070 (by decide +kernel) (by decide +kernel), mw_ini_RX7, ⟨by decide +kernel, by decide +kernel, by decide +kernel⟩, rfl, rfl, by decide⟩
theorem mw_i_X7_isDew : Cond.instanceMethod yX7_isDew ∈ mj_gw := mj_gw_in 1069 (by decide +kernel) (by decide +kernel)
theorem mw_s_X7_isDew : Cond.selects (yX7_isDew).cls yX7_isDew yX7_isDew ∈ mj_gw := mj_gw_sel 63 (by decide +kernel) (by decide +kernel)
def jX7_dew : mj_J := (yX7_dew, cX7_dew, 7, (some .int), 5, 0, 0)
theorem kX7_dew : mj_K jX7_dew 3 := ⟨mj_gw_in 1061 (by decide +kernel) (by decide +kernel), mw_ini_RX7, ⟨by decide +kernel, by decide +kernel, by decide +kernel⟩, rfl, rfl, by decide⟩
theorem mw_i_X7_dew : Cond.instanceMethod yX7_dew ∈ mj_gw := mj_gw_in 1059 (by decide +kernel) (by decide +kernel)
theorem mw_s_X7_dew : Cond.selects (yX7_dew).cls yX7_dew yX7_dew ∈ mj_gw := mj_gw_in 1060 (by decide +kernel) (by decide +kernel)
def jX7_lost : mj_J := (yX7_lost, cX7_lost, 14, (some .int), 2, 0, 0)
theorem kX7_lost : mj_K jX7_lost 6 := ⟨mj_gw_in 1074 (by decide +kernel) (by decide +kernel), mw_ini_RX7, ⟨by decide +kernel, by decide +kernel, by decide +kernel⟩, rfl, rfl, by decide⟩
theorem mw_i_X7_lost : Cond.instanceMethod yX7_lost ∈ mj_gw := mj_gw_in 1072 (by decide +kernel) (by decide +kernel)
theorem mw_s_X7_lost : Cond.selects (yX7_lost).cls yX7_lost yX7_lost ∈ mj_gw := mj_gw_in 1073 (by decide +kernel) (by decide +kernel)
def jX7_kite : mj_J := (yX7_kite, cX7_kite, 11, (some .int), 2, 0, 0)
theorem kX7_kite : mj_K jX7_kite 4 := ⟨mj_gw_in 1078 (by decide +kernel) (by decide +kernel), mw_ini_RX7, ⟨by decide +kernel, by decide +kernel, by decide +kernel⟩, rfl, rfl, by decide⟩
theorem mw_i_X7_kite : Cond.instanceMethod yX7_kite ∈ mj_gw := mj_gw_in 1076 (by decide +kernel) (by decide +kernel)
theorem mw_s_X7_kite : Cond.selects (yX7_kite).cls yX7_kite yX7_kite ∈ mj_gw := mj_gw_in 1077 (by decide +kernel) (by decide +kernel)
def jX7_common : mj_J := (yX7_common, cX7_common, 10, (some .long), 0, 0, 0)
theorem kX7_common : mj_K jX7_common 2 := ⟨mj_gw_in 1086 (by decide +kernel) (by decide +kernel), mw_ini_RX7, ⟨by decide +kernel, by decide +kernel, by decide +kernel⟩, rfl, rfl, by decide⟩
theorem mw_t_X7_common : Cond.static yX7_common ∈ mj_gw := mj_gw_in 1085 (by decide +kernel) (by decide +kernel)
def jX7_tuesday : mj_J := (yX7_tuesday, cX7_tuesday, 9, (some .int), 2, 0, 0)
theorem kX7_tuesday : mj_K jX7_tuesday 4 := ⟨mj_gw_in 1082 (by decide +kernel) (by decide +kernel), mw_ini_RX7, ⟨by decide +kernel, by decide +kernel, by decide +kernel⟩, rfl, rfl, by decide⟩
theorem mw_i_X7_tuesday : Cond.instanceMethod yX7_tuesday ∈ mj_gw := mj_gw_in 1080 (by decide +kernel) (by decide +kernel)
theorem mw_s_X7_tuesday : Cond.selects (yX7_tuesday).cls yX7_tuesday yX7_tuesday ∈ mj_gw := mj_gw_in 1081 (by decide +kernel) (by decide +kernel)
def jX7_findGuards : mj_J := (yX7_findGuards, cX7_findGuards, 13, (some .int), 2, 0, 0)
theorem kX7_findGuards : mj_K jX7_findGuards 2 := ⟨mj_gw_in 1094 (by decide +kernel) (by decide +kernel), mw_ini_RX7, ⟨by decide +kernel, by decide +kernel, by decide +kernel⟩, rfl, rfl, by decide⟩
theorem mw_i_X7_findGuards : Cond.instanceMethod yX7_findGuards ∈ mj_gw := mj_gw_in 1093 (by decide +kernel) (by decide +kernel)
theorem mw_s_X7_findGuards : Cond.selects (yX7_findGuards).cls yX7_findGuards yX7_findGuards ∈ mj_gw := mj_gw_sel 64 (by decide +kernel) (by decide +kernel)
def jX7_guards : mj_J := (yX7_guards, cX7_guards, 4, (some .int), 3, 0, 0)
theorem kX7_guards : mj_K jX7_guards 2 := ⟨mj_gw_in 1090 (by decide +kernel) (by decide +kernel), mw_ini_RX7, ⟨by decide +kernel, by decide +kernel, by decide +kernel⟩, rfl, rfl, by decide⟩
theorem mw_i_X7_guards : Cond.instanceMethod yX7_guards ∈ mj_gw := mj_gw_in 1088 (by decide +kernel) (by decide +kernel)
theorem mw_s_X7_guards : Cond.selects (yX7_guards).cls yX7_guards yX7_guards ∈ mj_gw := mj_gw_in 1089 (by decide +kernel) (by decide +kernel)
def jX7_guardsValue : mj_J := (yX7_guardsValue, cX7_guardsValue, 5, (some .long), 3, 0, 0)
theorem kX7_guardsValue : mj_K jX7_guardsValue 3 := ⟨mj_gw_in 1100 (by decide +kernel) (by decide +kernel), mw_ini_RX7, ⟨by decide +kernel, by decide +kernel, by decide +kernel⟩, rfl, rfl, by decide⟩
theorem mw_i_X7_guardsValue : Cond.instanceMethod yX7_guardsValue ∈ mj_gw := mj_gw_in 1098 (by decide +kernel) (by decide +kernel)
theorem mw_s_X7_guardsValue : Cond.selects (yX7_guardsValue).cls yX7_guardsValue yX7_guardsValue ∈ mj_gw := mj_gw_in 1099 (by decide +kernel) (by decide +kernel)
def jX7_dues : mj_J := (yX7_dues, cX7_dues, 3, (some .int), 5, 0, 0)
theorem kX7_dues : mj_K jX7_dues 1 := ⟨mj_gw_in 1105 (by decide +kernel) (by decide +kernel), mw_ini_RX7, ⟨by decide +kernel, by decide +kernel, by decide +kernel⟩, rfl, rfl, by decide⟩
theorem mw_i_X7_dues : Cond.instanceMethod yX7_dues ∈ mj_gw := mj_gw_in 1103 (by decide +kernel) (by decide +kernel)
theorem mw_s_X7_dues : Cond.selects (yX7_dues).cls yX7_dues yX7_dues ∈ mj_gw := mj_gw_in 1104 (by decide +kernel) (by decide +kernel)
def jX7_image : mj_J := (yX7_image, cX7_image, 3, (some .int), 1, 0, 0)
theorem kX7_image : mj_K jX7_image 1 := ⟨mj_gw_in 1109 (by decide +kernel) (by decide +kernel), mw_ini_RX7, ⟨by decide +kernel, by decide +kernel, by decide +kernel⟩, rfl, rfl, by decide⟩
theorem mw_i_X7_image : Cond.instanceMethod yX7_image ∈ mj_gw := mj_gw_in 1107 (by decide +kernel) (by decide +kernel)
theorem mw_s_X7_image : Cond.selects (yX7_image).cls yX7_image yX7_image ∈ mj_gw := mj_gw_in 1108 (by decide +kernel) (by decide +kernel)
def jX7_restore : mj_J := (yX7_restore, cX7_restore, 3, (some .int), 1, 0, 0)
theorem kX7_restore : mj_K jX7_restore 1 := ⟨mj_gw_in 1113 (by decide +kernel) (by decide +kernel), mw_ini_RX7, ⟨by decide +kernel, by decide +kernel, by decide +kernel⟩, rfl, rfl, by decide⟩
theorem mw_i_X7_restore : Cond.instanceMethod yX7_restore ∈ mj_gw := mj_gw_in 1111 (by decide +kernel) (by decide +kernel)
theorem mw_s_X7_restore : Cond.selects (yX7_restore).cls yX7_restore yX7_restore ∈ mj_gw := mj_gw_in 1112 (by decide +kernel) (by decide +kernel)
def jX7_kind : mj_J := (yX7_kind, cX7_kind, 2, (some .int), 2, 0, 0)
theorem kX7_kind : mj_K jX7_kind 1 := ⟨mj_gw_in 1117 (by decide +kernel) (by decide +kernel), mw_ini_RX7, ⟨by decide +kernel, by decide +kernel, by decide +kernel⟩, rfl, rfl, by decide⟩
theorem mw_i_X7_kind : Cond.instanceMethod yX7_kind ∈ mj_gw := mj_gw_in 1115 (by decide +kernel) (by decide +kernel)
theorem mw_s_X7_kind : Cond.selects (yX7_kind).cls yX7_kind yX7_kind ∈ mj_gw := mj_gw_in 1116 (by decide +kernel) (by decide +kernel)
def jX7_isKind : mj_J := (yX7_isKind, cX7_isKind, 2, (some .boolean), 0, 0, 0)
theorem kX7_isKind : mj_K jX7_isKind 2 := ⟨mj_gw_in 1124 (by decide +kernel) (by decide +kernel), mw_ini_RX7, ⟨by decide +kernel, by decide +kernel, by decide +kernel⟩, rfl, rfl, by decide⟩
theorem mw_t_X7_isKind : Cond.static yX7_isKind ∈ mj_gw := mj_gw_in 1123 (by decide +kernel) (by decide +kernel)
def jX7_as : mj_J := (yX7_as, cX7_as, 3, (some .int), 2, 0, 0)
theorem kX7_as : mj_K jX7_as 2 := ⟨mj_gw_in 1121 (by decide +kernel) (by decide +kernel), mw_ini_RX7, ⟨by decide +kernel, by decide +kernel, by decide +kernel⟩, rfl, rfl, by decide⟩
theorem mw_i_X7_as : Cond.instanceMethod yX7_as ∈ mj_gw := mj_gw_in 1119 (by decide +kernel) (by decide +kernel)
theorem mw_s_X7_as : Cond.selects (yX7_as).cls yX7_as yX7_as ∈ mj_gw := mj_gw_in 1120 (by decide +kernel) (by decide +kernel)
def jX7_begin : mj_J := (yX7_begin, cX7_begin, 2, none, 0, 0, 0)
theorem kX7_begin : mj_K jX7_begin 1 := ⟨mj_gw_in 1136 (by decide +kernel) (by decide +kernel), mw_ini_RX7, ⟨by decide +kernel, by decide +kernel, by decide +kernel⟩, rfl, rfl, by decide⟩
theorem mw_i_X7_begin : Cond.instanceMethod yX7_begin ∈ mj_gw := mj_gw_in 1135 (by decide +kernel) (by decide +kernel)
theorem mw_s_X7_begin : Cond.selects (yX7_begin).cls yX7_begin yX7_begin ∈ mj_gw := mj_gw_sel 66 (by decide +kernel) (by decide +kernel)
def jX7_lent : mj_J := (yX7_lent, cX7_lent, 3, (some .int), 1, 0, 0)
theorem kX7_lent : mj_K jX7_lent 2 := ⟨mj_gw_in 1144 (by decide +kernel) (by decide +kernel), mw_ini_RX7, ⟨by decide +kernel, by decide +kernel, by decide +kernel⟩, rfl, rfl, by decide⟩
theorem mw_i_X7_lent : Cond.instanceMethod yX7_lent ∈ mj_gw := mj_gw_in 1143 (by decide +kernel) (by decide +kernel)
theorem mw_s_X7_lent : Cond.selects (yX7_lent).cls yX7_lent yX7_lent ∈ mj_gw := mj_gw_sel 68 (by decide +kernel) (by decide +kernel)
def jX7_whiteMark : mj_J := (yX7_whiteMark, cX7_whiteMark, 2, (some .int), 2, 0, 0)
theorem kX7_whiteMark : mj_K jX7_whiteMark 1 := ⟨mj_gw_in 1152 (by decide +kernel) (by decide +kernel), mw_ini_RX7, ⟨by decide +kernel, by decide +kernel, by decide +kernel⟩, rfl, rfl, by decide⟩
theorem mw_i_X7_whiteMark : Cond.instanceMethod yX7_whiteMark ∈ mj_gw := mj_gw_in 1151 (by decide +kernel) (by decide +kernel)
theorem mw_s_X7_whiteMark : Cond.selects (yX7_whiteMark).cls yX7_whiteMark yX7_whiteMark ∈ mj_gw := mj_gw_sel 70 (by decide +kernel) (by decide +kernel)
def jX7_fogSize : mj_J := (yX7_fogSize, cX7_fogSize, 2, (some .int), 2, 0, 0)
theorem kX7_fogSize : mj_K jX7_fogSize 1 := ⟨mj_gw_in 1160 (by decide +kernel) (by decide +kernel), mw_ini_RX7, ⟨by decide +kernel, by decide +kernel, by decide +kernel⟩, rfl, rfl, by decide⟩
theorem mw_i_X7_fogSize : Cond.instanceMethod yX7_fogSize ∈ mj_gw := mj_gw_in 1159 (by decide +kernel) (by decide +kernel)
theorem mw_s_X7_fogSize : Cond.selects (yX7_fogSize).cls yX7_fogSize yX7_fogSize ∈ mj_gw := mj_gw_sel 72 (by decide +kernel) (by decide +kernel)
def jX7_sizeOfFog : mj_J := (yX7_sizeOfFog, cX7_sizeOfFog, 2, (some .int), 3, 0, 0)
theorem kX7_sizeOfFog : mj_K jX7_sizeOfFog 1 := ⟨mj_gw_in 1156 (by decide +kernel) (by decide +kernel), mw_ini_RX7, ⟨by decide +kernel, by decide +kernel, by decide +kernel⟩, rfl, rfl, by decide⟩
theorem mw_i_X7_sizeOfFog : Cond.instanceMethod yX7_sizeOfFog ∈ mj_gw := mj_gw_in 1155 (by decide +kernel) (by decide +kernel)
theorem mw_s_X7_sizeOfFog : Cond.selects (yX7_sizeOfFog).cls yX7_sizeOfFog yX7_sizeOfFog ∈ mj_gw := mj_gw_sel 71 (by decide +kernel) (by decide +kernel)
def jX7_markOf : mj_J := (yX7_markOf, cX7_markOf, 4, (some .int), 4, 0, 0)
theorem kX7_markOf : mj_K jX7_markOf 1 := ⟨mj_gw_in 1148 (by decide +kernel) (by decide +kernel), mw_ini_RX7, ⟨by decide +kernel, by decide +kernel, by decide +kernel⟩, rfl, rfl, by decide⟩
theorem mw_i_X7_markOf : Cond.instanceMethod yX7_markOf ∈ mj_gw := mj_gw_in 1147 (by decide +kernel) (by decide +kernel)
theorem mw_s_X7_markOf : Cond.selects (yX7_markOf).cls yX7_markOf yX7_markOf ∈ mj_gw := mj_gw_sel 69 (by decide +kernel) (by decide +kernel)
def jX7_whiteSize : mj_J := (yX7_whiteSize, cX7_whiteSize, 3, (some .int), 5, 0, 0)
theorem kX7_whiteSize : mj_K jX7_whiteSize 1 := ⟨mj_gw_in 1140 (by decide +kernel) (by decide +kernel), mw_ini_RX7, ⟨by decide +kernel, by decide +kernel, by decide +kernel⟩, rfl, rfl, by decide⟩
theorem mw_i_X7_whiteSize : Cond.instanceMethod yX7_whiteSize ∈ mj_gw := mj_gw_in 1139 (by decide +kernel) (by decide +kernel)
theorem mw_s_X7_whiteSize : Cond.selects (yX7_whiteSize).cls yX7_whiteSize yX7_whiteSize ∈ mj_gw := mj_gw_sel 67 (by decide +kernel) (by decide +kernel)
def jX7_sizeOf : mj_J := (yX7_sizeOf, cX7_sizeOf, 3, (some .int), 6, 0, 0)
theorem kX7_sizeOf : mj_K jX7_sizeOf 1 := ⟨mj_gw_in 1132 (by decide +kernel) (by decide +kernel), mw_ini_RX7, ⟨by decide +kernel, by decide +kernel, by decide +kernel⟩, rfl, rfl, by decide⟩
theorem mw_i_X7_sizeOf : Cond.instanceMethod yX7_sizeOf ∈ mj_gw := mj_gw_in 1131 (by decide +kernel) (by decide +kernel)
theorem mw_s_X7_sizeOf : Cond.selects (yX7_sizeOf).cls yX7_sizeOf yX7_sizeOf ∈ mj_gw := mj_gw_sel 65 (by decide +kernel) (by decide +kernel)
def jX7_ask : mj_J := (yX7_ask, cX7_ask, 3, (some .int), 7, 0, 0)
theorem kX7_ask : mj_K jX7_ask 2 := ⟨mj_gw_in 1128 (by decide +kernel) (by decide +kernel), mw_ini_RX7, ⟨by decide +kernel, by decide +kernel, by decide +kernel⟩, rfl, rfl, by decide⟩
theorem mw_i_X7_ask : Cond.instanceMethod yX7_ask ∈ mj_gw := mj_gw_in 1126 (by decide +kernel) (by decide +kernel)
theorem mw_s_X7_ask : Cond.selects (yX7_ask).cls yX7_ask yX7_ask ∈ mj_gw := mj_gw_in 1127 (by decide +kernel) (by decide +kernel)
def jX7_trace : mj_J := (yX7_trace, cX7_trace, 2, (some .int), 1, 0, 0)
theorem kX7_trace : mj_K jX7_trace 1 := ⟨mj_gw_in 1164 (by decide +kernel) (by decide +kernel), mw_ini_RX7, ⟨by decide +kernel, by decide +kernel, by decide +kernel⟩, rfl, rfl, by decide⟩
theorem mw_i_X7_trace : Cond.instanceMethod yX7_trace ∈ mj_gw := mj_gw_in 1162 (by decide +kernel) (by decide +kernel)
theorem mw_s_X7_trace : Cond.selects (yX7_trace).cls yX7_trace yX7_trace ∈ mj_gw := mj_gw_in 1163 (by decide +kernel) (by decide +kernel)
def jX7_count : mj_J := (yX7_count, cX7_count, 5, (some .int), 1, 0, 0)
theorem kX7_count : mj_K jX7_count 1 := ⟨mj_gw_in 1168 (by decide +kernel) (by decide +kernel), mw_ini_RX7, ⟨by decide +kernel, by decide +kernel, by decide +kernel⟩, rfl, rfl, by decide⟩
theorem mw_i_X7_count : Cond.instanceMethod yX7_count ∈ mj_gw := mj_gw_in 1166 (by decide +kernel) (by decide +kernel)
theorem mw_s_X7_count : Cond.selects (yX7_count).cls yX7_count yX7_count ∈ mj_gw := mj_gw_in 1167 (by decide +kernel) (by decide +kernel)
def jX7_status : mj_J := (yX7_status, cX7_status, 1, (some .int), 0, 0, 0)
theorem kX7_status : mj_K jX7_status 0 := ⟨mj_gw_in 1172 (by decide +kernel) (by decide +kernel), mw_ini_RX7, ⟨by decide +kernel, by decide +kernel, by decide +kernel⟩, rfl, rfl, by decide⟩
theorem mw_i_X7_status : Cond.instanceMethod yX7_status ∈ mj_gw := mj_gw_in 1170 (by decide +kernel) (by decide +kernel)
theorem mw_s_X7_status : Cond.selects (yX7_status).cls yX7_status yX7_status ∈ mj_gw := mj_gw_in 1171 (by decide +kernel) (by decide +kernel)
def jJ6_bitCount_0f7a4 : mj_J := (yJ6_bitCount_0f7a4, cJ6_bitCount_0f7a4, 1, (some .int), 0, 0, 0)
theorem kJ6_bitCount_0f7a4 : mj_K jJ6_bitCount_0f7a4 1 := ⟨mj_gw_in 643 (by decide +kernel) (by decide +kernel), mw_ini_RJ6, ⟨by decide +kernel, by decide +kernel, by decide +kernel⟩, rfl, rfl, by decide⟩
theorem mw_t_J6_bitCount_0f7a4 : Cond.static yJ6_bitCount_0f7a4 ∈ mj_gw := mj_gw_in 642 (by decide +kernel) (by decide +kernel)
theorem mw_m_RL_13 : Cond.methodLink RL 13 yX6_row ∈ mj_gw := mj_gw_in 254 (by decide +kernel) (by decide +kernel)
theorem mw_m_RX6_65 : Cond.methodLink RX6 65 yX6_isRow ∈ mj_gw := mj_gw_in 258 (by decide +kernel) (by decide +kernel)
theorem mw_m_RX6_69 : Cond.methodLink RX6 69 yX6_within ∈ mj_gw := mj_gw_in 261 (by decide +kernel) (by decide +kernel)
theorem mw_m_RX6_74 : Cond.methodLink RX6 74 yX6_found ∈ mj_gw := mj_gw_in 265 (by decide +kernel) (by decide +kernel)
theorem mw_m_RX6_78 : Cond.methodLink RX6 78 yX3_begin ∈ mj_gw := mj_gw_in 270 (by decide +kernel) (by decide +kernel)
theorem mw_m_RX6_82 : Cond.methodLink RX6 82 yX6_clean ∈ mj_gw := mj_gw_in 274 (by decide +kernel) (by decide +kernel)
theorem mw_m_RL_18 : Cond.methodLink RL 18 yX6_set ∈ mj_gw := mj_gw_in 278 (by decide +kernel) (by decide +kernel)
theorem mw_m_RX6_85 : Cond.methodLink RX6 85 yX3_lack ∈ mj_gw := mj_gw_in 282 (by decide +kernel) (by decide +kernel)
theorem mw_m_RX3_26 : Cond.methodLink RX3 26 yX3_has ∈ mj_gw := mj_gw_in 286 (by decide +kernel) (by decide +kernel)
theorem mw_m_RX6_89 : Cond.methodLink RX6 89 yX3_put ∈ mj_gw := mj_gw_in 290 (by decide +kernel) (by decide +kernel)
theorem mw_m_RL_22 : Cond.methodLink RL 22 yX6_copy ∈ mj_gw := mj_gw_in 294 (by decide +kernel) (by decide +kernel)
theorem mw_m_RX6_99 : Cond.methodLink RX6 99 yX3_has ∈ mj_gw := mj_gw_in 298 (by decide +kernel) (by decide +kernel)
theorem mw_m_RX6_107 : Cond.methodLink RX6 107 arraycopyName ∈ mj_gw := mj_gw_in 299 (by decide +kernel) (by decide +kernel)
theorem mw_m_RL_27 : Cond.methodLink RL 27 yX6_drop ∈ mj_gw := mj_gw_in 302 (by decide +kernel) (by decide +kernel)
theorem mw_m_RL_32 : Cond.methodLink RL 32 yX6_feed ∈ mj_gw := mj_gw_in 306 (by decide +kernel) (by decide +kernel)
theorem mw_m_RX6_116 : Cond.methodLink RX6 116 yX4_add ∈ mj_gw := mj_gw_in 310 (by decide +kernel) (by decide +kernel)
theorem mw_m_RL_36 : Cond.methodLink RL 36 yX6_herd ∈ mj_gw := mj_gw_in 315 (by decide +kernel) (by decide +kernel)
theorem mw_m_RX6_121 : Cond.methodLink RX6 121 yX4_read ∈ mj_gw := mj_gw_in 319 (by decide +kernel) (by decide +kernel)
theorem mw_m_RX4_34 : Cond.methodLink RX4 34 yX4_look ∈ mj_gw := mj_gw_in 323 (by decide +kernel) (by decide +kernel)
theorem mw_m_RX4_109 : Cond.methodLink RX4 109 yX4_isFigure ∈ mj_gw := mj_gw_in 327 (by decide +kernel) (by decide +kernel)
theorem mw_m_RX4_113 : Cond.methodLink RX4 113 yX4_lookAtFigures ∈ mj_gw := mj_gw_in 331 (by decide +kernel) (by decide +kernel)
theorem mw_m_RX4_116 : Cond.methodLink RX4 116 yX4_isSign ∈ mj_gw := mj_gw_in 335 (by decide +kernel) (by decide +kernel)
theorem mw_n_RX4_105 : Cond.methodLinkNest RX4 105 yX6_within "CloudHerd" ∈ mj_nw := mj_nw_in 338 (by decide +kernel)
theorem mw_m_RX4_37 : Cond.methodLink RX4 37 yX2_begin ∈ mj_gw := mj_gw_in 339 (by decide +kernel) (by decide +kernel)
theorem mw_m_RX4_42 : Cond.methodLink RX4 42 yX4_readLaw ∈ mj_gw := mj_gw_in 343 (by decide +kernel) (by decide +kernel)
theorem mw_m_RX4_56 : Cond.methodLink RX4 56 yX4_takeSign ∈ mj_gw := mj_gw_in 347 (by decide +kernel) (by decide +kernel)
theorem mw_m_RX4_60 : Cond.methodLink RX4 60 yX4_takeNumber ∈ mj_gw := mj_gw_in 351 (by decide +kernel) (by decide +kernel)
theorem mw_m_RX4_46 : Cond.methodLink RX4 46 yX4_readWind ∈ mj_gw := mj_gw_in 355 (by decide +kernel) (by decide +kernel)
theorem mw_m_RX4_73 : Cond.methodLink RX4 73 yX4_takeDirection ∈ mj_gw := mj_gw_in 359 (by decide +kernel) (by decide +kernel)
theorem mw_m_RX4_102 : Cond.methodLink RX4 102 yX4_directionOf ∈ mj_gw := mj_gw_in 363 (by decide +kernel) (by decide +kernel)
theorem mw_m_RX4_50 : Cond.methodLink RX4 50 yX4_readParishes ∈ mj_gw := mj_gw_in 366 (by decide +kernel) (by decide +kernel)
theorem mw_m_RX4_77 : Cond.methodLink RX4 77 yX4_parishOf ∈ mj_gw := mj_gw_in 370 (by decide +kernel) (by decide +kernel)
theorem mw_m_RX4_53 : Cond.methodLink RX4 53 yX4_readClouds ∈ mj_gw := mj_gw_in 373 (by decide +kernel) (by decide +kernel)
theorem mw_m_RX4_87 : Cond.methodLink RX4 87 yX4_sortOf ∈ mj_gw := mj_gw_in 377 (by decide +kernel) (by decide +kernel)
theorem mw_m_RX4_94 : Cond.methodLink RX4 94 yX1_begin ∈ mj_gw := mj_gw_in 380 (by decide +kernel) (by decide +kernel)
theorem mw_m_RX6_132 : Cond.methodLink RX6 132 yX2_become ∈ mj_gw := mj_gw_in 385 (by decide +kernel) (by decide +kernel)
theorem mw_m_RX2_57 : Cond.methodLink RX2 57 arraycopyName ∈ mj_gw := mj_gw_in 389 (by decide +kernel) (by decide +kernel)
theorem mw_m_RX2_63 : Cond.methodLink RX2 63 yX1_become ∈ mj_gw := mj_gw_in 390 (by decide +kernel) (by decide +kernel)
theorem mw_m_RX6_135 : Cond.methodLink RX6 135 yX0_forget ∈ mj_gw := mj_gw_in 394 (by decide +kernel) (by decide +kernel)
theorem mw_m_RL_41 : Cond.methodLink RL 41 yX6_fault ∈ mj_gw := mj_gw_in 398 (by decide +kernel) (by decide +kernel)
theorem mw_m_RL_45 : Cond.methodLink RL 45 yX6_undo ∈ mj_gw := mj_gw_in 402 (by decide +kernel) (by decide +kernel)
theorem mw_m_RX6_143 : Cond.methodLink RX6 143 yX0_takeBack ∈ mj_gw := mj_gw_in 407 (by decide +kernel) (by decide +kernel)
theorem mw_m_RX0_49 : Cond.methodLink RX0 49 yX1_unpack ∈ mj_gw := mj_gw_in 411 (by decide +kernel) (by decide +kernel)
theorem mw_m_RL_49 : Cond.methodLink RL 49 yX6_hours ∈ mj_gw := mj_gw_in 415 (by decide +kernel) (by decide +kernel)
theorem mw_m_RX6_152 : Cond.methodLink RX6 152 yX0_keep ∈ mj_gw := mj_gw_in 419 (by decide +kernel) (by decide +kernel)
theorem mw_m_RX0_37 : Cond.methodLink RX0 37 yX1_packed ∈ mj_gw := mj_gw_in 423 (by decide +kernel) (by decide +kernel)
theorem mw_n_RX1_34 : Cond.methodLinkNest RX1 34 yX6_bit "CloudHerd" ∈ mj_nw := mj_nw_in 427 (by decide +kernel)
theorem mw_m_RX0_43 : Cond.methodLink RX0 43 Lib.Math.min.name ∈ mj_gw := mj_gw_in 430 (by decide +kernel) (by decide +kernel)
theorem mw_m_RX6_155 : Cond.methodLink RX6 155 yX2_passHour ∈ mj_gw := mj_gw_in 433 (by decide +kernel) (by decide +kernel)
theorem mw_m_RX2_77 : Cond.methodLink RX2 77 yX2_driftAll ∈ mj_gw := mj_gw_in 437 (by decide +kernel) (by decide +kernel)
theorem mw_m_RX2_89 : Cond.methodLink RX2 89 yX2_driftOne ∈ mj_gw := mj_gw_in 441 (by decide +kernel) (by decide +kernel)
theorem mw_m_RX2_103 : Cond.methodLink RX2 103 yX2_blowing ∈ mj_gw := mj_gw_in 445 (by decide +kernel) (by decide +kernel)
theorem mw_m_RX2_107 : Cond.methodLink RX2 107 yX1_driftedFrom ∈ mj_gw := mj_gw_in 449 (by decide +kernel) (by decide +kernel)
theorem mw_m_RX1_44 : Cond.methodLink RX1 44 yX1_opposite ∈ mj_gw := mj_gw_in 453 (by decide +kernel) (by decide +kernel)
theorem mw_m_RX1_48 : Cond.methodLink RX1 48 yX1_beside ∈ mj_gw := mj_gw_in 456 (by decide +kernel) (by decide +kernel)
theorem mw_m_RX2_80 : Cond.methodLink RX2 80 yX2_runTogether ∈ mj_gw := mj_gw_in 459 (by decide +kernel) (by decide +kernel)
theorem mw_m_RX2_110 : Cond.methodLink RX2 110 yX1_meets ∈ mj_gw := mj_gw_in 463 (by decide +kernel) (by decide +kernel)
theorem mw_m_RX2_114 : Cond.methodLink RX2 114 yX1_swallow ∈ mj_gw := mj_gw_in 467 (by decide +kernel) (by decide +kernel)
theorem mw_m_RX1_51 : Cond.methodLink RX1 51 Lib.Math.min.name ∈ mj_gw := mj_gw_in 471 (by decide +kernel) (by decide +kernel)
theorem mw_m_RX2_83 : Cond.methodLink RX2 83 yX2_rainAll ∈ mj_gw := mj_gw_in 472 (by decide +kernel) (by decide +kernel)
theorem mw_m_RX2_93 : Cond.methodLink RX2 93 yX2_rainOne ∈ mj_gw := mj_gw_in 476 (by decide +kernel) (by decide +kernel)
theorem mw_m_RX2_120 : Cond.methodLink RX2 120 yX1_rainOver ∈ mj_gw := mj_gw_in 480 (by decide +kernel) (by decide +kernel)
theorem mw_m_RX1_54 : Cond.methodLink RX1 54 yX1_pouring ∈ mj_gw := mj_gw_in 484 (by decide +kernel) (by decide +kernel)
theorem mw_m_RX2_86 : Cond.methodLink RX2 86 yX2_milkAll ∈ mj_gw := mj_gw_in 488 (by decide +kernel) (by decide +kernel)
theorem mw_m_RX2_97 : Cond.methodLink RX2 97 yX2_milkOne ∈ mj_gw := mj_gw_in 492 (by decide +kernel) (by decide +kernel)
theorem mw_m_RL_53 : Cond.methodLink RL 53 yX6_lift ∈ mj_gw := mj_gw_in 496 (by decide +kernel) (by decide +kernel)
theorem mw_m_RX6_161 : Cond.methodLink RX6 161 yX6_isCloud ∈ mj_gw := mj_gw_in 500 (by decide +kernel) (by decide +kernel)
theorem mw_m_RX6_171 : Cond.methodLink RX6 171 yX1_canRise ∈ mj_gw := mj_gw_in 504 (by decide +kernel) (by decide +kernel)
theorem mw_m_RX6_178 : Cond.methodLink RX6 178 yX1_moveTo ∈ mj_gw := mj_gw_in 508 (by decide +kernel) (by decide +kernel)
theorem mw_m_RX1_38 : Cond.methodLink RX1 38 Lib.Math.max.name ∈ mj_gw := mj_gw_in 512 (by decide +kernel) (by decide +kernel)
theorem mw_m_RL_58 : Cond.methodLink RL 58 yX6_rains ∈ mj_gw := mj_gw_in 515 (by decide +kernel) (by decide +kernel)
theorem mw_m_RX6_191 : Cond.methodLink RX6 191 yX6_bit ∈ mj_gw := mj_gw_in 519 (by decide +kernel) (by decide +kernel)
theorem mw_m_RL_62 : Cond.methodLink RL 62 yX6_cloud ∈ mj_gw := mj_gw_in 520 (by decide +kernel) (by decide +kernel)
theorem mw_m_RX6_195 : Cond.methodLink RX6 195 yX1_part ∈ mj_gw := mj_gw_in 524 (by decide +kernel) (by decide +kernel)
theorem mw_m_RL_66 : Cond.methodLink RL 66 yX6_cell ∈ mj_gw := mj_gw_in 528 (by decide +kernel) (by decide +kernel)
theorem mw_m_RX6_198 : Cond.methodLink RX6 198 yX6_isCell ∈ mj_gw := mj_gw_in 532 (by decide +kernel) (by decide +kernel)
theorem mw_m_RX6_204 : Cond.methodLink RX6 204 yX2_cloudsOver ∈ mj_gw := mj_gw_in 535 (by decide +kernel) (by decide +kernel)
theorem mw_m_RL_70 : Cond.methodLink RL 70 yX6_wind ∈ mj_gw := mj_gw_in 539 (by decide +kernel) (by decide +kernel)
theorem mw_m_RX6_207 : Cond.methodLink RX6 207 yX2_blowing ∈ mj_gw := mj_gw_in 543 (by decide +kernel) (by decide +kernel)
theorem mw_m_RL_74 : Cond.methodLink RL 74 yX6_ahead ∈ mj_gw := mj_gw_in 544 (by decide +kernel) (by decide +kernel)
theorem mw_m_RX6_210 : Cond.methodLink RX6 210 yX6_tryHours ∈ mj_gw := mj_gw_in 548 (by decide +kernel) (by decide +kernel)
theorem mw_m_RL_78 : Cond.methodLink RL 78 yX6_earned ∈ mj_gw := mj_gw_in 552 (by decide +kernel) (by decide +kernel)
theorem mw_m_RL_82 : Cond.methodLink RL 82 yX6_knot ∈ mj_gw := mj_gw_in 556 (by decide +kernel) (by decide +kernel)
theorem mw_m_RL_86 : Cond.methodLink RL 86 yX6_wetHay ∈ mj_gw := mj_gw_in 561 (by decide +kernel) (by decide +kernel)
theorem mw_m_RL_90 : Cond.methodLink RL 90 yX6_soon ∈ mj_gw := mj_gw_in 565 (by decide +kernel) (by decide +kernel)
theorem mw_m_RX6_226 : Cond.methodLink RX6 226 yX6_spread ∈ mj_gw := mj_gw_in 569 (by decide +kernel) (by decide +kernel)
theorem mw_m_RX6_295 : Cond.methodLink RX6 295 yX1_driftedFrom ∈ mj_gw := mj_gw_in 573 (by decide +kernel) (by decide +kernel)
theorem mw_m_RL_94 : Cond.methodLink RL 94 yX6_heights ∈ mj_gw := mj_gw_in 574 (by decide +kernel) (by decide +kernel)
theorem mw_m_RX6_230 : Cond.methodLink RX6 230 yX6_earnedAt ∈ mj_gw := mj_gw_in 578 (by decide +kernel) (by decide +kernel)
theorem mw_m_RX6_298 : Cond.methodLink RX6 298 yX1_become ∈ mj_gw := mj_gw_in 582 (by decide +kernel) (by decide +kernel)
theorem mw_m_RX6_301 : Cond.methodLink RX6 301 yX2_passAlone ∈ mj_gw := mj_gw_in 583 (by decide +kernel) (by decide +kernel)
theorem mw_m_RL_98 : Cond.methodLink RL 98 yX6_shade ∈ mj_gw := mj_gw_in 587 (by decide +kernel) (by decide +kernel)
theorem mw_m_RL_102 : Cond.methodLink RL 102 yX6_dew ∈ mj_gw := mj_gw_in 591 (by decide +kernel) (by decide +kernel)
theorem mw_m_RX6_234 : Cond.methodLink RX6 234 yX6_leavesDew ∈ mj_gw := mj_gw_in 595 (by decide +kernel) (by decide +kernel)
theorem mw_m_RL_106 : Cond.methodLink RL 106 yX6_lost ∈ mj_gw := mj_gw_in 599 (by decide +kernel) (by decide +kernel)
theorem mw_m_RX6_238 : Cond.methodLink RX6 238 yX6_tookWay ∈ mj_gw := mj_gw_in 603 (by decide +kernel) (by decide +kernel)
theorem mw_m_RL_111 : Cond.methodLink RL 111 yX6_kite ∈ mj_gw := mj_gw_in 607 (by decide +kernel) (by decide +kernel)
theorem mw_m_RX6_242 : Cond.methodLink RX6 242 yX6_flewSo ∈ mj_gw := mj_gw_in 611 (by decide +kernel) (by decide +kernel)
theorem mw_m_RL_116 : Cond.methodLink RL 116 yX6_tuesday ∈ mj_gw := mj_gw_in 615 (by decide +kernel) (by decide +kernel)
theorem mw_m_RX6_246 : Cond.methodLink RX6 246 yX6_cellBehind ∈ mj_gw := mj_gw_in 619 (by decide +kernel) (by decide +kernel)
theorem mw_m_RX6_251 : Cond.methodLink RX6 251 yX6_lowest ∈ mj_gw := mj_gw_in 624 (by decide +kernel) (by decide +kernel)
theorem mw_m_RL_120 : Cond.methodLink RL 120 yX6_guards ∈ mj_gw := mj_gw_in 627 (by decide +kernel) (by decide +kernel)
theorem mw_m_RX6_255 : Cond.methodLink RX6 255 yX6_lineRefusal ∈ mj_gw := mj_gw_in 631 (by decide +kernel) (by decide +kernel)
theorem mw_m_RX6_259 : Cond.methodLink RX6 259 yX6_bestPlaces ∈ mj_gw := mj_gw_in 635 (by decide +kernel) (by decide +kernel)
theorem mw_m_RX6_264 : Cond.methodLink RX6 264 yX6_valueAbove ∈ mj_gw := mj_gw_in 638 (by decide +kernel) (by decide +kernel)
theorem mw_m_RX6_308 : Cond.methodLink RX6 308 yJ6_bitCount_0f7a4 ∈ mj_gw := mj_gw_in 641 (by decide +kernel) (by decide +kernel)
theorem mw_m_RX6_268 : Cond.methodLink RX6 268 yX6_valueBelow ∈ mj_gw := mj_gw_in 647 (by decide +kernel) (by decide +kernel)
theorem mw_m_RL_124 : Cond.methodLink RL 124 yX6_guardsValue ∈ mj_gw := mj_gw_in 650 (by decide +kernel) (by decide +kernel)
theorem mw_m_RL_129 : Cond.methodLink RL 129 yX6_dues ∈ mj_gw := mj_gw_in 655 (by decide +kernel) (by decide +kernel)
theorem mw_m_RL_133 : Cond.methodLink RL 133 yX6_image ∈ mj_gw := mj_gw_in 659 (by decide +kernel) (by decide +kernel)
theorem mw_m_RL_137 : Cond.methodLink RL 137 yX6_restore ∈ mj_gw := mj_gw_in 663 (by decide +kernel) (by decide +kernel)
theorem mw_m_RL_141 : Cond.methodLink RL 141 yX6_kind ∈ mj_gw := mj_gw_in 667 (by decide +kernel) (by decide +kernel)
theorem mw_m_RL_145 : Cond.methodLink RL 145 yX6_as ∈ mj_gw := mj_gw_in 671 (by decide +kernel) (by decide +kernel)
theorem mw_m_RL_149 : Cond.methodLink RL 149 yX6_ask ∈ mj_gw := mj_gw_in 677 (by decide +kernel) (by decide +kernel)
theorem mw_m_RX6_277 : Cond.methodLink RX6 277 yX5_answer ∈ mj_gw := mj_gw_in 681 (by decide +kernel) (by decide +kernel)
theorem mw_m_RX5_28 : Cond.methodLink RX5 28 yX5_bodyOf ∈ mj_gw := mj_gw_in 689 (by decide +kernel) (by decide +kernel)
theorem mw_m_RX5_32 : Cond.methodLink RX5 32 yX5_leave ∈ mj_gw := mj_gw_in 692 (by decide +kernel) (by decide +kernel)
theorem mw_m_RL_153 : Cond.methodLink RL 153 yX6_trace ∈ mj_gw := mj_gw_in 696 (by decide +kernel) (by decide +kernel)
theorem mw_m_RL_157 : Cond.methodLink RL 157 yX6_count ∈ mj_gw := mj_gw_in 700 (by decide +kernel) (by decide +kernel)
theorem mw_m_RX6_284 : Cond.methodLink RX6 284 yX6_rowsThere ∈ mj_gw := mj_gw_in 704 (by decide +kernel) (by decide +kernel)
theorem mw_m_RX6_291 : Cond.methodLink RX6 291 yX2_cloudsLeft ∈ mj_gw := mj_gw_in 708 (by decide +kernel) (by decide +kernel)
theorem mw_n_RX2_73 : Cond.methodLinkNest RX2 73 yX6_bit "CloudHerd" ∈ mj_nw := mj_nw_in 712 (by decide +kernel)
theorem mw_m_RL_161 : Cond.methodLink RL 161 yX6_status ∈ mj_gw := mj_gw_in 713 (by decide +kernel) (by decide +kernel)
theorem mw_m_RL_17 : Cond.methodLink RL 17 yX7_row ∈ mj_gw := mj_gw_in 812 (by decide +kernel) (by decide +kernel)
theorem mw_m_RX7_64 : Cond.methodLink RX7 64 yX7_isRow ∈ mj_gw := mj_gw_in 816 (by decide +kernel) (by decide +kernel)
theorem mw_m_RX7_60 : Cond.methodLink RX7 60 yX7_in ∈ mj_gw := mj_gw_in 820 (by decide +kernel) (by decide +kernel)
theorem mw_m_RX7_71 : Cond.methodLink RX7 71 yX7_find ∈ mj_gw := mj_gw_in 825 (by decide +kernel) (by decide +kernel)
theorem mw_m_RX7_75 : Cond.methodLink RX7 75 yX7_well ∈ mj_gw := mj_gw_in 830 (by decide +kernel) (by decide +kernel)
theorem mw_m_RL_21 : Cond.methodLink RL 21 yX7_set ∈ mj_gw := mj_gw_in 834 (by decide +kernel) (by decide +kernel)
theorem mw_m_RX7_78 : Cond.methodLink RX7 78 yX7_asLane ∈ mj_gw := mj_gw_in 838 (by decide +kernel) (by decide +kernel)
theorem mw_m_RL_26 : Cond.methodLink RL 26 yX7_copy ∈ mj_gw := mj_gw_in 841 (by decide +kernel) (by decide +kernel)
theorem mw_m_RL_31 : Cond.methodLink RL 31 yX7_drop ∈ mj_gw := mj_gw_in 845 (by decide +kernel) (by decide +kernel)
theorem mw_m_RL_35 : Cond.methodLink RL 35 yX7_feed ∈ mj_gw := mj_gw_in 849 (by decide +kernel) (by decide +kernel)
theorem mw_m_RL_40 : Cond.methodLink RL 40 yX7_herd ∈ mj_gw := mj_gw_in 855 (by decide +kernel) (by decide +kernel)
theorem mw_m_RX7_147 : Cond.methodLink RX7 147 yX7_readHerd ∈ mj_gw := mj_gw_in 859 (by decide +kernel) (by decide +kernel)
theorem mw_m_RX7_117 : Cond.methodLink RX7 117 yX7_nextToken ∈ mj_gw := mj_gw_in 863 (by decide +kernel) (by decide +kernel)
theorem mw_m_RX7_134 : Cond.methodLink RX7 134 yX7_readLaw ∈ mj_gw := mj_gw_in 871 (by decide +kernel) (by decide +kernel)
theorem mw_m_RX7_120 : Cond.methodLink RX7 120 yX7_takes ∈ mj_gw := mj_gw_in 875 (by decide +kernel) (by decide +kernel)
theorem mw_m_RX7_111 : Cond.methodLink RX7 111 yX7_isLetter ∈ mj_gw := mj_gw_in 879 (by decide +kernel) (by decide +kernel)
theorem mw_m_RX7_114 : Cond.methodLink RX7 114 yX7_faults ∈ mj_gw := mj_gw_in 883 (by decide +kernel) (by decide +kernel)
theorem mw_m_RX7_123 : Cond.methodLink RX7 123 yX7_isNumber ∈ mj_gw := mj_gw_in 887 (by decide +kernel) (by decide +kernel)
theorem mw_m_RX7_127 : Cond.methodLink RX7 127 yX7_taken ∈ mj_gw := mj_gw_in 891 (by decide +kernel) (by decide +kernel)
theorem mw_m_RX7_138 : Cond.methodLink RX7 138 yX7_readWind ∈ mj_gw := mj_gw_in 895 (by decide +kernel) (by decide +kernel)
theorem mw_m_RX7_141 : Cond.methodLink RX7 141 yX7_readParish ∈ mj_gw := mj_gw_in 899 (by decide +kernel) (by decide +kernel)
theorem mw_m_RX7_144 : Cond.methodLink RX7 144 yX7_readCloud ∈ mj_gw := mj_gw_in 903 (by decide +kernel) (by decide +kernel)
theorem mw_m_RX7_131 : Cond.methodLink RX7 131 yX7_isTaken ∈ mj_gw := mj_gw_in 907 (by decide +kernel) (by decide +kernel)
theorem mw_m_RL_44 : Cond.methodLink RL 44 yX7_fault ∈ mj_gw := mj_gw_in 912 (by decide +kernel) (by decide +kernel)
theorem mw_m_RL_48 : Cond.methodLink RL 48 yX7_undo ∈ mj_gw := mj_gw_in 916 (by decide +kernel) (by decide +kernel)
theorem mw_m_RL_52 : Cond.methodLink RL 52 yX7_hours ∈ mj_gw := mj_gw_in 921 (by decide +kernel) (by decide +kernel)
theorem mw_m_RX7_196 : Cond.methodLink RX7 196 yX7_note ∈ mj_gw := mj_gw_in 926 (by decide +kernel) (by decide +kernel)
theorem mw_m_RX7_199 : Cond.methodLink RX7 199 yX7_oneHour ∈ mj_gw := mj_gw_in 930 (by decide +kernel) (by decide +kernel)
theorem mw_m_RX7_177 : Cond.methodLink RX7 177 yX7_isThere ∈ mj_gw := mj_gw_in 934 (by decide +kernel) (by decide +kernel)
theorem mw_m_RX7_180 : Cond.methodLink RX7 180 yX7_drift ∈ mj_gw := mj_gw_in 938 (by decide +kernel) (by decide +kernel)
theorem mw_m_RX7_167 : Cond.methodLink RX7 167 yX7_drifts ∈ mj_gw := mj_gw_in 942 (by decide +kernel) (by decide +kernel)
theorem mw_m_RX7_161 : Cond.methodLink RX7 161 yX7_other ∈ mj_gw := mj_gw_in 946 (by decide +kernel) (by decide +kernel)
theorem mw_m_RX7_164 : Cond.methodLink RX7 164 yX7_beside ∈ mj_gw := mj_gw_in 949 (by decide +kernel) (by decide +kernel)
theorem mw_m_RX7_184 : Cond.methodLink RX7 184 yX7_together ∈ mj_gw := mj_gw_in 952 (by decide +kernel) (by decide +kernel)
theorem mw_m_RX7_187 : Cond.methodLink RX7 187 yX7_rain ∈ mj_gw := mj_gw_in 956 (by decide +kernel) (by decide +kernel)
theorem mw_m_RX7_171 : Cond.methodLink RX7 171 yX7_rainOf ∈ mj_gw := mj_gw_in 960 (by decide +kernel) (by decide +kernel)
theorem mw_m_RX7_190 : Cond.methodLink RX7 190 yX7_milk ∈ mj_gw := mj_gw_in 964 (by decide +kernel) (by decide +kernel)
theorem mw_m_RL_57 : Cond.methodLink RL 57 yX7_lift ∈ mj_gw := mj_gw_in 968 (by decide +kernel) (by decide +kernel)
theorem mw_m_RX7_202 : Cond.methodLink RX7 202 yX7_isCloud ∈ mj_gw := mj_gw_in 972 (by decide +kernel) (by decide +kernel)
theorem mw_m_RX7_205 : Cond.methodLink RX7 205 yX7_setHeight ∈ mj_gw := mj_gw_in 976 (by decide +kernel) (by decide +kernel)
theorem mw_m_RL_61 : Cond.methodLink RL 61 yX7_rains ∈ mj_gw := mj_gw_in 980 (by decide +kernel) (by decide +kernel)
theorem mw_m_RL_65 : Cond.methodLink RL 65 yX7_cloud ∈ mj_gw := mj_gw_in 984 (by decide +kernel) (by decide +kernel)
theorem mw_m_RX7_211 : Cond.methodLink RX7 211 yX7_toldOf ∈ mj_gw := mj_gw_in 989 (by decide +kernel) (by decide +kernel)
theorem mw_m_RL_69 : Cond.methodLink RL 69 yX7_cell ∈ mj_gw := mj_gw_in 993 (by decide +kernel) (by decide +kernel)
theorem mw_m_RX7_216 : Cond.methodLink RX7 216 yX7_isCell ∈ mj_gw := mj_gw_in 997 (by decide +kernel) (by decide +kernel)
theorem mw_m_RX7_219 : Cond.methodLink RX7 219 yX7_over ∈ mj_gw := mj_gw_in 1001 (by decide +kernel) (by decide +kernel)
theorem mw_m_RL_73 : Cond.methodLink RL 73 yX7_wind ∈ mj_gw := mj_gw_in 1005 (by decide +kernel) (by decide +kernel)
theorem mw_m_RL_77 : Cond.methodLink RL 77 yX7_ahead ∈ mj_gw := mj_gw_in 1010 (by decide +kernel) (by decide +kernel)
theorem mw_m_RX7_228 : Cond.methodLink RX7 228 yX7_putAside ∈ mj_gw := mj_gw_in 1016 (by decide +kernel) (by decide +kernel)
theorem mw_m_RX7_231 : Cond.methodLink RX7 231 yX7_goOn ∈ mj_gw := mj_gw_in 1020 (by decide +kernel) (by decide +kernel)
theorem mw_m_RX7_234 : Cond.methodLink RX7 234 yX7_takeBack ∈ mj_gw := mj_gw_in 1024 (by decide +kernel) (by decide +kernel)
theorem mw_m_RL_81 : Cond.methodLink RL 81 yX7_earned ∈ mj_gw := mj_gw_in 1028 (by decide +kernel) (by decide +kernel)
theorem mw_m_RL_85 : Cond.methodLink RL 85 yX7_knot ∈ mj_gw := mj_gw_in 1032 (by decide +kernel) (by decide +kernel)
theorem mw_m_RL_89 : Cond.methodLink RL 89 yX7_wetHay ∈ mj_gw := mj_gw_in 1037 (by decide +kernel) (by decide +kernel)
theorem mw_m_RL_93 : Cond.methodLink RL 93 yX7_soon ∈ mj_gw := mj_gw_in 1041 (by decide +kernel) (by decide +kernel)
theorem mw_m_RL_97 : Cond.methodLink RL 97 yX7_heights ∈ mj_gw := mj_gw_in 1045 (by decide +kernel) (by decide +kernel)
theorem mw_m_RX7_240 : Cond.methodLink RX7 240 yX7_oneAlone ∈ mj_gw := mj_gw_in 1050 (by decide +kernel) (by decide +kernel)
theorem mw_m_RL_101 : Cond.methodLink RL 101 yX7_shade ∈ mj_gw := mj_gw_in 1054 (by decide +kernel) (by decide +kernel)
theorem mw_m_RL_105 : Cond.methodLink RL 105 yX7_dew ∈ mj_gw := mj_gw_in 1058 (by decide +kernel) (by decide +kernel)
theorem mw_m_RX7_245 : Cond.methodLink RX7 245 yX7_lacks ∈ mj_gw := mj_gw_in 1063 (by decide +kernel) (by decide +kernel)
theorem mw_m_RX7_249 : Cond.methodLink RX7 249 yX7_isDew ∈ mj_gw := mj_gw_in 1067 (by decide +kernel) (by decide +kernel)
theorem mw_m_RL_110 : Cond.methodLink RL 110 yX7_lost ∈ mj_gw := mj_gw_in 1071 (by decide +kernel) (by decide +kernel)
theorem mw_m_RL_115 : Cond.methodLink RL 115 yX7_kite ∈ mj_gw := mj_gw_in 1075 (by decide +kernel) (by decide +kernel)
theorem mw_m_RL_119 : Cond.methodLink RL 119 yX7_tuesday ∈ mj_gw := mj_gw_in 1079 (by decide +kernel) (by decide +kernel)
theorem mw_m_RX7_255 : Cond.methodLink RX7 255 yX7_common ∈ mj_gw := mj_gw_in 1084 (by decide +kernel) (by decide +kernel)
theorem mw_m_RL_123 : Cond.methodLink RL 123 yX7_guards ∈ mj_gw := mj_gw_in 1087 (by decide +kernel) (by decide +kernel)
theorem mw_m_RX7_273 : Cond.methodLink RX7 273 yX7_findGuards ∈ mj_gw := mj_gw_in 1091 (by decide +kernel) (by decide +kernel)
theorem mw_m_RL_128 : Cond.methodLink RL 128 yX7_guardsValue ∈ mj_gw := mj_gw_in 1097 (by decide +kernel) (by decide +kernel)
theorem mw_m_RL_132 : Cond.methodLink RL 132 yX7_dues ∈ mj_gw := mj_gw_in 1102 (by decide +kernel) (by decide +kernel)
theorem mw_m_RL_136 : Cond.methodLink RL 136 yX7_image ∈ mj_gw := mj_gw_in 1106 (by decide +kernel) (by decide +kernel)
theorem mw_m_RL_140 : Cond.methodLink RL 140 yX7_restore ∈ mj_gw := mj_gw_in 1110 (by decide +kernel) (by decide +kernel)
theorem mw_m_RL_144 : Cond.methodLink RL 144 yX7_kind ∈ mj_gw := mj_gw_in 1114 (by decide +kernel) (by decide +kernel)
theorem mw_m_RL_148 : Cond.methodLink RL 148 yX7_as ∈ mj_gw := mj_gw_in 1118 (by decide +kernel) (by decide +kernel)
theorem mw_m_RX7_278 : Cond.methodLink RX7 278 yX7_isKind ∈ mj_gw := mj_gw_in 1122 (by decide +kernel) (by decide +kernel)
theorem mw_m_RL_152 : Cond.methodLink RL 152 yX7_ask ∈ mj_gw := mj_gw_in 1125 (by decide +kernel) (by decide +kernel)
theorem mw_m_RX7_305 : Cond.methodLink RX7 305 yX7_sizeOf ∈ mj_gw := mj_gw_in 1129 (by decide +kernel) (by decide +kernel)
theorem mw_m_RX7_284 : Cond.methodLink RX7 284 yX7_begin ∈ mj_gw := mj_gw_in 1133 (by decide +kernel) (by decide +kernel)
theorem mw_m_RX7_302 : Cond.methodLink RX7 302 yX7_whiteSize ∈ mj_gw := mj_gw_in 1137 (by decide +kernel) (by decide +kernel)
theorem mw_m_RX7_287 : Cond.methodLink RX7 287 yX7_lent ∈ mj_gw := mj_gw_in 1141 (by decide +kernel) (by decide +kernel)
theorem mw_m_RX7_299 : Cond.methodLink RX7 299 yX7_markOf ∈ mj_gw := mj_gw_in 1145 (by decide +kernel) (by decide +kernel)
theorem mw_m_RX7_293 : Cond.methodLink RX7 293 yX7_whiteMark ∈ mj_gw := mj_gw_in 1149 (by decide +kernel) (by decide +kernel)
theorem mw_m_RX7_296 : Cond.methodLink RX7 296 yX7_sizeOfFog ∈ mj_gw := mj_gw_in 1153 (by decide +kernel) (by decide +kernel)
theorem mw_m_RX7_290 : Cond.methodLink RX7 290 yX7_fogSize ∈ mj_gw := mj_gw_in 1157 (by decide +kernel) (by decide +kernel)
theorem mw_m_RL_156 : Cond.methodLink RL 156 yX7_trace ∈ mj_gw := mj_gw_in 1161 (by decide +kernel) (by decide +kernel)
theorem mw_m_RL_160 : Cond.methodLink RL 160 yX7_count ∈ mj_gw := mj_gw_in 1165 (by decide +kernel) (by decide +kernel)
theorem mw_m_RL_164 : Cond.methodLink RL 164 yX7_status ∈ mj_gw := mj_gw_in 1169 (by decide +kernel) (by decide +kernel)
theorem mw_t_min : Cond.static Lib.Math.min.name ∈ mj_gw := mj_gw_in 431 (by decide +kernel) (by decide +kernel)
theorem mw_c_min : Cond.code Lib.Math.min.name Lib.Math.min.code 2 (some .int) ∈ mj_gw := mj_gw_in 432 (by decide +kernel) (by decide +kernel)
theorem mw_t_max : Cond.static Lib.Math.max.name ∈ mj_gw := mj_gw_in 513 (by decide +kernel) (by decide +kernel)
theorem mw_c_max : Cond.code Lib.Math.max.name Lib.Math.max.code 2 (some .int) ∈ mj_gw := mj_gw_in 514 (by decide +kernel) (by decide +kernel)
theorem mw_nat : Cond.native arraycopyName ∈ mj_gw := mj_gw_in 301 (by decide +kernel) (by decide +kernel)
theorem mw_nat_t : Cond.static arraycopyName ∈ mj_gw := mj_gw_in 300 (by decide +kernel) (by decide +kernel)
