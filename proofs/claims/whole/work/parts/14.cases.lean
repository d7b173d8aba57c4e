theorem lw_cmp0 {x y : Int64} (h : x = y) : lg_cmp x y = 0 := by
  subst h
  unfold lg_cmp
  rw [if_neg (Int64.lt_irrefl), if_pos rfl]
def ls_row (R : mj_I → mj_I → mj_L → Prop) : Prop := ∀ (fX fM : mj_I) (gM : mj_L), R fX fM gM → ∀ (x1 x2 x3 : Int32), ∃ (oX : Int32 × mj_I) (oM : Int32 × mj_I), g_X6_row x1 x2 x3 fX = some oX ∧ g_X7_row x1 x2 x3 fM = some oM ∧ oX.1 = oM.1 ∧ R oX.2 oM.2 gM
def ls_set (R : mj_I → mj_I → mj_L → Prop) : Prop := ∀ (fX fM : mj_I) (gM : mj_L), R fX fM gM → ∀ (x1 x2 x3 : Int32), ∃ (oX : Int32 × mj_I) (oM : Int32 × mj_I), g_X6_set x1 x2 x3 fX = some oX ∧ g_X7_set x1 x2 x3 fM = some oM ∧ oX.1 = oM.1 ∧ R oX.2 oM.2 gM
def ls_copy (R : mj_I → mj_I → mj_L → Prop) : Prop := ∀ (fX fM : mj_I) (gM : mj_L), R fX fM gM → ∀ (x1 x2 x3 x4 x5 : Int32), ∃ (oX : Int32 × mj_I) (oM : Int32 × mj_I), g_X6_copy x1 x2 x3 x4 x5 fX = some oX ∧ g_X7_copy x1 x2 x3 x4 x5 fM = some oM ∧ oX.1 = oM.1 ∧ R oX.2 oM.2 gM
def ls_drop (R : mj_I → mj_I → mj_L → Prop) : Prop := ∀ (fX fM : mj_I) (gM : mj_L), R fX fM gM → ∀ (x1 : Int32), ∃ (oX : Int32 × mj_I) (oM : Int32 × mj_I), g_X6_drop x1 fX = some oX ∧ g_X7_drop x1 fM = some oM ∧ oX.1 = oM.1 ∧ R oX.2 oM.2 gM
def ls_feed (R : mj_I → mj_I → mj_L → Prop) : Prop := ∀ (fX fM : mj_I) (gM : mj_L), R fX fM gM → ∀ (x1 : Int32), ∃ (oX : Int32 × mj_I) (oM : Int32 × mj_I), g_X6_feed x1 fX = some oX ∧ g_X7_feed x1 fM = some oM ∧ oX.1 = oM.1 ∧ R oX.2 oM.2 gM
def ls_herd (R : mj_I → mj_I → mj_L → Prop) : Prop := ∀ (fX fM : mj_I) (gM : mj_L), R fX fM gM → ∃ (oX : Int32 × mj_I) (oM : Int32 × mj_I), g_X6_herd fX = some oX ∧ g_X7_herd fM = some oM ∧ oX.1 = oM.1 ∧ R oX.2 oM.2 gM
def ls_fault (R : mj_I → mj_I → mj_L → Prop) : Prop := ∀ (fX fM : mj_I) (gM : mj_L), R fX fM gM → ∃ (oX : Int32) (oM : Int32), g_X6_fault fX = oX ∧ g_X7_fault fM = oM ∧ oX = oM ∧ R fX fM gM
def ls_undo (R : mj_I → mj_I → mj_L → Prop) : Prop := ∀ (fX fM : mj_I) (gM : mj_L), R fX fM gM → ∃ (oX : Int32 × mj_I) (oM : Int32 × mj_I), g_X6_undo fX = some oX ∧ g_X7_undo fM = some oM ∧ oX.1 = oM.1 ∧ R oX.2 oM.2 gM
def ls_hours (R : mj_I → mj_I → mj_L → Prop) : Prop := ∀ (fX fM : mj_I) (gM : mj_L), R fX fM gM → ∀ (x1 : Int32), ∃ (oX : Int32 × mj_I) (oM : Int32 × mj_I), g_X6_hours x1 fX = some oX ∧ g_X7_hours x1 fM = some oM ∧ oX.1 = oM.1 ∧ R oX.2 oM.2 gM
def ls_lift (R : mj_I → mj_I → mj_L → Prop) : Prop := ∀ (fX fM : mj_I) (gM : mj_L), R fX fM gM → ∀ (x1 x2 : Int32), ∃ (oX : Int32 × mj_I) (oM : Int32 × mj_I), g_X6_lift x1 x2 fX = some oX ∧ g_X7_lift x1 x2 fM = some oM ∧ oX.1 = oM.1 ∧ R oX.2 oM.2 gM
def ls_rains (R : mj_I → mj_I → mj_L → Prop) : Prop := ∀ (fX fM : mj_I) (gM : mj_L), R fX fM gM → ∀ (x1 x2 : Int32), ∃ (oX : Int32 × mj_I) (oM : Int32 × mj_I), g_X6_rains x1 x2 fX = some oX ∧ g_X7_rains x1 x2 fM = some oM ∧ oX.1 = oM.1 ∧ R oX.2 oM.2 gM
def ls_cloud (R : mj_I → mj_I → mj_L → Prop) : Prop := ∀ (fX fM : mj_I) (gM : mj_L), R fX fM gM → ∀ (x1 x2 : Int32), ∃ (oX : Int32) (oM : Int32), g_X6_cloud x1 x2 fX = some oX ∧ g_X7_cloud x1 x2 fM = some oM ∧ oX = oM ∧ R fX fM gM
def ls_cell (R : mj_I → mj_I → mj_L → Prop) : Prop := ∀ (fX fM : mj_I) (gM : mj_L), R fX fM gM → ∀ (x1 x2 : Int32), ∃ (oX : Int32) (oM : Int32), g_X6_cell x1 x2 fX = some oX ∧ g_X7_cell x1 x2 fM = some oM ∧ oX = oM ∧ R fX fM gM
def ls_wind (R : mj_I → mj_I → mj_L → Prop) : Prop := ∀ (fX fM : mj_I) (gM : mj_L), R fX fM gM → ∀ (x1 x2 : Int32), ∃ (oX : Int32) (oM : Int32), g_X6_wind x1 x2 fX = some oX ∧ g_X7_wind x1 x2 fM = some oM ∧ oX = oM ∧ R fX fM gM
def ls_ahead (R : mj_I → mj_I → mj_L → Prop) : Prop := ∀ (fX fM : mj_I) (gM : mj_L), R fX fM gM → ∀ (x1 x2 x3 : Int32), ∃ (oX : Int32 × mj_I) (oM : Int32 × mj_I), g_X6_ahead x1 x2 x3 fX = some oX ∧ g_X7_ahead x1 x2 x3 fM = some oM ∧ oX.1 = oM.1 ∧ R oX.2 oM.2 gM
def ls_earned (R : mj_I → mj_I → mj_L → Prop) : Prop := ∀ (fX fM : mj_I) (gM : mj_L), R fX fM gM → ∀ (x1 : Int32), ∃ (oX : Int32 × mj_I) (oM : Int32 × mj_I), g_X6_earned x1 fX = some oX ∧ g_X7_earned x1 fM = some oM ∧ oX.1 = oM.1 ∧ R oX.2 oM.2 gM
def ls_knot (R : mj_I → mj_I → mj_L → Prop) : Prop := ∀ (fX fM : mj_I) (gM : mj_L), R fX fM gM → ∀ (x1 x2 : Int32), ∃ (oX : Int32 × mj_I) (oM : Int32 × mj_I), g_X6_knot x1 x2 fX = some oX ∧ g_X7_knot x1 x2 fM = some oM ∧ oX.1 = oM.1 ∧ R oX.2 oM.2 gM
def ls_wetHay (R : mj_I → mj_I → mj_L → Prop) : Prop := ∀ (fX fM : mj_I) (gM : mj_L), R fX fM gM → ∀ (x1 x2 : Int32), ∃ (oX : Int32 × mj_I) (oM : Int32 × mj_I), g_X6_wetHay x1 x2 fX = some oX ∧ g_X7_wetHay x1 x2 fM = some oM ∧ oX.1 = oM.1 ∧ R oX.2 oM.2 gM
def ls_soon (R : mj_I → mj_I → mj_L → Prop) : Prop := ∀ (fX fM : mj_I) (gM : mj_L), R fX fM gM → ∀ (x1 x2 : Int32), ∃ (oX : Int32) (oM : Int32 × mj_I), g_X6_soon x1 x2 fX = some oX ∧ g_X7_soon x1 x2 fM = some oM ∧ oX = oM.1 ∧ R fX oM.2 gM
def ls_heights (R : mj_I → mj_I → mj_L → Prop) : Prop := ∀ (fX fM : mj_I) (gM : mj_L), R fX fM gM → ∀ (x1 x2 x3 : Int32), ∃ (oX : Int32 × mj_I) (oM : Int32 × mj_I), g_X6_heights x1 x2 x3 fX = some oX ∧ g_X7_heights x1 x2 x3 fM = some oM ∧ oX.1 = oM.1 ∧ R oX.2 oM.2 gM
def ls_shade (R : mj_I → mj_I → mj_L → Prop) : Prop := ∀ (fX fM : mj_I) (gM : mj_L), R fX fM gM → ∀ (x1 x2 : Int32), ∃ (oX : Int32 × mj_I) (oM : Int32 × mj_I), g_X6_shade x1 x2 fX = some oX ∧ g_X7_shade x1 x2 fM = some oM ∧ oX.1 = oM.1 ∧ R oX.2 oM.2 gM
def ls_dew (R : mj_I → mj_I → mj_L → Prop) : Prop := ∀ (fX fM : mj_I) (gM : mj_L), R fX fM gM → ∀ (x1 x2 x3 : Int32), ∃ (oX : Int32 × mj_I) (oM : Int32 × mj_I), g_X6_dew x1 x2 x3 fX = some oX ∧ g_X7_dew x1 x2 x3 fM = some oM ∧ oX.1 = oM.1 ∧ R oX.2 oM.2 gM
def ls_lost (R : mj_I → mj_I → mj_L → Prop) : Prop := ∀ (fX fM : mj_I) (gM : mj_L), R fX fM gM → ∀ (x1 x2 x3 x4 x5 x6 : Int32), ∃ (oX : Int32 × mj_I) (oM : Int32 × mj_I), g_X6_lost x1 x2 x3 x4 x5 x6 fX = some oX ∧ g_X7_lost x1 x2 x3 x4 x5 x6 fM = some oM ∧ oX.1 = oM.1 ∧ R oX.2 oM.2 gM
def ls_kite (R : mj_I → mj_I → mj_L → Prop) : Prop := ∀ (fX fM : mj_I) (gM : mj_L), R fX fM gM → ∀ (x1 x2 x3 x4 : Int32), ∃ (oX : Int32 × mj_I) (oM : Int32 × mj_I), g_X6_kite x1 x2 x3 x4 fX = some oX ∧ g_X7_kite x1 x2 x3 x4 fM = some oM ∧ oX.1 = oM.1 ∧ R oX.2 oM.2 gM
def ls_tuesday (R : mj_I → mj_I → mj_L → Prop) : Prop := ∀ (fX fM : mj_I) (gM : mj_L), R fX fM gM → ∀ (x1 x2 x3 x4 : Int32), ∃ (oX : Int32) (oM : Int32), g_X6_tuesday x1 x2 x3 x4 fX = some oX ∧ g_X7_tuesday x1 x2 x3 x4 fM = some oM ∧ oX = oM ∧ R fX fM gM
def ls_guards (R : mj_I → mj_I → mj_L → Prop) : Prop := ∀ (fX fM : mj_I) (gM : mj_L), R fX fM gM → ∀ (x1 x2 : Int32), ∃ (oX : Int32 × mj_I) (oM : Int32 × mj_I × mj_L), g_X6_guards x1 x2 fX = some oX ∧ g_X7_guards x1 x2 fM gM = some oM ∧ oX.1 = oM.1 ∧ R oX.2 oM.2.1 oM.2.2
def ls_guardsValue (R : mj_I → mj_I → mj_L → Prop) : Prop := ∀ (fX fM : mj_I) (gM : mj_L), R fX fM gM → ∀ (x1 x2 x3 : Int32), ∃ (oX : Int64 × mj_I) (oM : Int64 × mj_I × mj_L), g_X6_guardsValue x1 x2 x3 fX = some oX ∧ g_X7_guardsValue x1 x2 x3 fM gM = some oM ∧ oX.1 = oM.1 ∧ R oX.2 oM.2.1 oM.2.2
def ls_dues (R : mj_I → mj_I → mj_L → Prop) : Prop := ∀ (fX fM : mj_I) (gM : mj_L), R fX fM gM → ∀ (x1 : Int32), ∃ (oX : Int32 × mj_I) (oM : Int32 × mj_I), g_X6_dues x1 fX = some oX ∧ g_X7_dues x1 fM = some oM ∧ oX.1 = oM.1 ∧ R oX.2 oM.2 gM
def ls_image (R : mj_I → mj_I → mj_L → Prop) : Prop := ∀ (fX fM : mj_I) (gM : mj_L), R fX fM gM → ∀ (x1 : Int32), ∃ (oX : Int32 × mj_I) (oM : Int32 × mj_I), g_X6_image x1 fX = some oX ∧ g_X7_image x1 fM = some oM ∧ oX.1 = oM.1 ∧ R oX.2 oM.2 gM
def ls_restore (R : mj_I → mj_I → mj_L → Prop) : Prop := ∀ (fX fM : mj_I) (gM : mj_L), R fX fM gM → ∀ (x1 : Int32), ∃ (oX : Int32 × mj_I) (oM : Int32 × mj_I), g_X6_restore x1 fX = some oX ∧ g_X7_restore x1 fM = some oM ∧ oX.1 = oM.1 ∧ R oX.2 oM.2 gM
def ls_kind (R : mj_I → mj_I → mj_L → Prop) : Prop := ∀ (fX fM : mj_I) (gM : mj_L), R fX fM gM → ∀ (x1 : Int32), ∃ (oX : Int32) (oM : Int32), g_X6_kind x1 fX = some oX ∧ g_X7_kind x1 fM = some oM ∧ oX = oM ∧ R fX fM gM
def ls_as (R : mj_I → mj_I → mj_L → Prop) : Prop := ∀ (fX fM : mj_I) (gM : mj_L), R fX fM gM → ∀ (x1 x2 : Int32), ∃ (oX : Int32 × mj_I) (oM : Int32 × mj_I), g_X6_as x1 x2 fX = some oX ∧ g_X7_as x1 x2 fM = some oM ∧ oX.1 = oM.1 ∧ R oX.2 oM.2 gM
def ls_ask (R : mj_I → mj_I → mj_L → Prop) : Prop := ∀ (fX fM : mj_I) (gM : mj_L), R fX fM gM → ∀ (x1 x2 : Int32), ∃ (oX : Int32 × mj_I) (oM : Int32 × mj_I), g_X6_ask x1 x2 fX = some oX ∧ g_X7_ask x1 x2 fM = some oM ∧ oX.1 = oM.1 ∧ R oX.2 oM.2 gM
def ls_trace (R : mj_I → mj_I → mj_L → Prop) : Prop := ∀ (fX fM : mj_I) (gM : mj_L), R fX fM gM → ∀ (x1 : Int32), ∃ (oX : Int32) (oM : Int32), g_X6_trace x1 fX = some oX ∧ g_X7_trace x1 fM = some oM ∧ oX = oM ∧ R fX fM gM
def ls_count (R : mj_I → mj_I → mj_L → Prop) : Prop := ∀ (fX fM : mj_I) (gM : mj_L), R fX fM gM → ∀ (x1 : Int32), ∃ (oX : Int32) (oM : Int32), g_X6_count x1 fX = some oX ∧ g_X7_count x1 fM = some oM ∧ oX = oM ∧ R fX fM gM
def ls_status (R : mj_I → mj_I → mj_L → Prop) : Prop := ∀ (fX fM : mj_I) (gM : mj_L), R fX fM gM → ∃ (oX : Int32) (oM : Int32), g_X6_status fX = oX ∧ g_X7_status fM = oM ∧ oX = oM ∧ R fX fM gM
def lw_Sim (R : mj_I → mj_I → mj_L → Prop) : Prop := R mx_f0 (my_f 8) mj_zl ∧ ls_row R ∧ ls_set R ∧ ls_copy R ∧ ls_drop R ∧ ls_feed R ∧ ls_herd R ∧ ls_fault R ∧ ls_undo R ∧ ls_hours R ∧ ls_lift R ∧ ls_rains R ∧ ls_cloud R ∧ ls_cell R ∧ ls_wind R ∧ ls_ahead R ∧ ls_earned R ∧ ls_knot R ∧ ls_wetHay R ∧ ls_soon R ∧ ls_heights R ∧ ls_shade R ∧ ls_dew R ∧ ls_lost R ∧ ls_kite R ∧ ls_tuesday R ∧ ls_guards R ∧ ls_guardsValue R ∧ ls_dues R ∧ ls_image R ∧ ls_restore R ∧ ls_kind R ∧ ls_as R ∧ ls_ask R ∧ ls_trace R ∧ ls_count R ∧ ls_status R
theorem lc_row {R : mj_I → mj_I → mj_L → Prop} (hs : ls_row R) {L i : Nat} {xs : Nat → Int32} (hL : L ≤ 448) (hi : i + 7 ≤ L) {fX fM : mj_I} {gM : mj_L} (hR : R fX fM gM) (kn : ∀ (fX fM : mj_I) (gM : mj_L), R fX fM gM → lw_Ev L xs 1373 (nI i) [] fX fM gM) : lw_Ev L xs 192 (nI i) [] fX fM gM := by
  obtain ⟨oX, oM, hX, hM, hr, hR2⟩ := hs fX fM gM hR (xs (i + 1)) (xs (i + 2)) (xs (i + 3))
  refine lw_x (q := 193) dL_law_192 rfl ?_
  refine lw_script (q := 194) dL_law_193 rfl ?_
  refine lw_i (q := 195) dL_law_194 rfl ?_
  refine lw_iconst (v := 1) (q := 196) dL_law_195 mci_1 rfl ?_
  refine lw_iadd (q := 197) dL_law_196 rfl ?_
  refine lw_sld (j := i + 1) (q := 198) (nI_add i 1) (by omega) hL dL_law_197 rfl ?_
  refine lw_script (q := 199) dL_law_198 rfl ?_
  refine lw_i (q := 200) dL_law_199 rfl ?_
  refine lw_iconst (v := 2) (q := 201) dL_law_200 mci_2 rfl ?_
  refine lw_iadd (q := 202) dL_law_201 rfl ?_
  refine lw_sld (j := i + 2) (q := 203) (nI_add i 2) (by omega) hL dL_law_202 rfl ?_
  refine lw_script (q := 204) dL_law_203 rfl ?_
  refine lw_i (q := 205) dL_law_204 rfl ?_
  refine lw_iconst (v := 3) (q := 206) dL_law_205 mci_3 rfl ?_
  refine lw_iadd (q := 207) dL_law_206 rfl ?_
  refine lw_sld (j := i + 3) (q := 208) (nI_add i 3) (by omega) hL dL_law_207 rfl ?_
  refine lw_callX (q := 211) kX6_row mw_i_X6_row mw_s_X6_row mw_m_RL_13 rfl (r_X6_row hX) rfl (fun _ _ _ => rfl) (fun _ _ => rfl) rfl (Nat.le_of_ble_eq_true rfl) (by decide) dL_law_208 rfl (fun v f1 g1 hp => ?_)
  obtain ⟨rfl, rfl, rfl⟩ := hp
  refine ⟨rfl, ?_⟩
  refine lw_m (q := 212) dL_law_211 rfl ?_
  refine lw_script (q := 213) dL_law_212 rfl ?_
  refine lw_i (q := 214) dL_law_213 rfl ?_
  refine lw_iconst (v := 1) (q := 215) dL_law_214 mci_1 rfl ?_
  refine lw_iadd (q := 216) dL_law_215 rfl ?_
  refine lw_sld (j := i + 1) (q := 217) (nI_add i 1) (by omega) hL dL_law_216 rfl ?_
  refine lw_script (q := 218) dL_law_217 rfl ?_
  refine lw_i (q := 219) dL_law_218 rfl ?_
  refine lw_iconst (v := 2) (q := 220) dL_law_219 mci_2 rfl ?_
  refine lw_iadd (q := 221) dL_law_220 rfl ?_
  refine lw_sld (j := i + 2) (q := 222) (nI_add i 2) (by omega) hL dL_law_221 rfl ?_
  refine lw_script (q := 223) dL_law_222 rfl ?_
  refine lw_i (q := 224) dL_law_223 rfl ?_
  refine lw_iconst (v := 3) (q := 225) dL_law_224 mci_3 rfl ?_
  refine lw_iadd (q := 226) dL_law_225 rfl ?_
  refine lw_sld (j := i + 3) (q := 227) (nI_add i 3) (by omega) hL dL_law_226 rfl ?_
  refine lw_callM (q := 230) kX7_row mw_i_X7_row mw_s_X7_row mw_m_RL_17 rfl (r_X7_row hM) rfl (fun _ _ _ => rfl) (fun _ _ => rfl) rfl (Nat.le_of_ble_eq_true rfl) (by decide) dL_law_227 rfl (fun v f1 g1 hp => ?_)
  obtain ⟨rfl, rfl, rfl⟩ := hp
  refine lw_eq (q := 1373) hr dL_law_230 rfl ?_
  exact kn _ _ _ hR2
theorem lc_set {R : mj_I → mj_I → mj_L → Prop} (hs : ls_set R) {L i : Nat} {xs : Nat → Int32} (hL : L ≤ 448) (hi : i + 7 ≤ L) {fX fM : mj_I} {gM : mj_L} (hR : R fX fM gM) (kn : ∀ (fX fM : mj_I) (gM : mj_L), R fX fM gM → lw_Ev L xs 1373 (nI i) [] fX fM gM) : lw_Ev L xs 235 (nI i) [] fX fM gM := by
  obtain ⟨oX, oM, hX, hM, hr, hR2⟩ := hs fX fM gM hR (xs (i + 1)) (xs (i + 2)) (xs (i + 3))
  refine lw_x (q := 236) dL_law_235 rfl ?_
  refine lw_script (q := 237) dL_law_236 rfl ?_
  refine lw_i (q := 238) dL_law_237 rfl ?_
  refine lw_iconst (v := 1) (q := 239) dL_law_238 mci_1 rfl ?_
  refine lw_iadd (q := 240) dL_law_239 rfl ?_
  refine lw_sld (j := i + 1) (q := 241) (nI_add i 1) (by omega) hL dL_law_240 rfl ?_
  refine lw_script (q := 242) dL_law_241 rfl ?_
  refine lw_i (q := 243) dL_law_242 rfl ?_
  refine lw_iconst (v := 2) (q := 244) dL_law_243 mci_2 rfl ?_
  refine lw_iadd (q := 245) dL_law_244 rfl ?_
  refine lw_sld (j := i + 2) (q := 246) (nI_add i 2) (by omega) hL dL_law_245 rfl ?_
  refine lw_script (q := 247) dL_law_246 rfl ?_
  refine lw_i (q := 248) dL_law_247 rfl ?_
  refine lw_iconst (v := 3) (q := 249) dL_law_248 mci_3 rfl ?_
  refine lw_iadd (q := 250) dL_law_249 rfl ?_
  refine lw_sld (j := i + 3) (q := 251) (nI_add i 3) (by omega) hL dL_law_250 rfl ?_
  refine lw_callX (q := 254) kX6_set mw_i_X6_set mw_s_X6_set mw_m_RL_18 rfl (r_X6_set hX) rfl (fun _ _ _ => rfl) (fun _ _ => rfl) rfl (Nat.le_of_ble_eq_true rfl) (by decide) dL_law_251 rfl (fun v f1 g1 hp => ?_)
  obtain ⟨rfl, rfl, rfl⟩ := hp
  refine ⟨rfl, ?_⟩
  refine lw_m (q := 255) dL_law_254 rfl ?_
  refine lw_script (q := 256) dL_law_255 rfl ?_
  refine lw_i (q := 257) dL_law_256 rfl ?_
  refine lw_iconst (v := 1) (q := 258) dL_law_257 mci_1 rfl ?_
  refine lw_iadd (q := 259) dL_law_258 rfl ?_
  refine lw_sld (j := i + 1) (q := 260) (nI_add i 1) (by omega) hL dL_law_259 rfl ?_
  refine lw_script (q := 261) dL_law_260 rfl ?_
  refine lw_i (q := 262) dL_law_261 rfl ?_
  refine lw_iconst (v := 2) (q := 263) dL_law_262 mci_2 rfl ?_
  refine lw_iadd (q := 264) dL_law_263 rfl ?_
  refine lw_sld (j := i + 2) (q := 265) (nI_add i 2) (by omega) hL dL_law_264 rfl ?_
  refine lw_script (q := 266) dL_law_265 rfl ?_
  refine lw_i (q := 267) dL_law_266 rfl ?_
  refine lw_iconst (v := 3) (q := 268) dL_law_267 mci_3 rfl ?_
  refine lw_iadd (q := 269) dL_law_268 rfl ?_
  refine lw_sld (j := i + 3) (q := 270) (nI_add i 3) (by omega) hL dL_law_269 rfl ?_
  refine lw_callM (q := 273) kX7_set mw_i_X7_set mw_s_X7_set mw_m_RL_21 rfl (r_X7_set hM) rfl (fun _ _ _ => rfl) (fun _ _ => rfl) rfl (Nat.le_of_ble_eq_true rfl) (by decide) dL_law_270 rfl (fun v f1 g1 hp => ?_)
  obtain ⟨rfl, rfl, rfl⟩ := hp
  refine lw_eq (q := 1373) hr dL_law_273 rfl ?_
  exact kn _ _ _ hR2
theorem lc_copy {R : mj_I → mj_I → mj_L → Prop} (hs : ls_copy R) {L i : Nat} {xs : Nat → Int32} (hL : L ≤ 448) (hi : i + 7 ≤ L) {fX fM : mj_I} {gM : mj_L} (hR : R fX fM gM) (kn : ∀ (fX fM : mj_I) (gM : mj_L), R fX fM gM → lw_Ev L xs 1373 (nI i) [] fX fM gM) : lw_Ev L xs 278 (nI i) [] fX fM gM := by
  obtain ⟨oX, oM, hX, hM, hr, hR2⟩ := hs fX fM gM hR (xs (i + 1)) (xs (i + 2)) (xs (i + 3)) (xs (i + 4)) (xs (i + 5))
  refine lw_x (q := 279) dL_law_278 rfl ?_
  refine lw_script (q := 280) dL_law_279 rfl ?_
  refine lw_i (q := 281) dL_law_280 rfl ?_
  refine lw_iconst (v := 1) (q := 282) dL_law_281 mci_1 rfl ?_
  refine lw_iadd (q := 283) dL_law_282 rfl ?_
  refine lw_sld (j := i + 1) (q := 284) (nI_add i 1) (by omega) hL dL_law_283 rfl ?_
  refine lw_script (q := 285) dL_law_284 rfl ?_
  refine lw_i (q := 286) dL_law_285 rfl ?_
  refine lw_iconst (v := 2) (q := 287) dL_law_286 mci_2 rfl ?_
  refine lw_iadd (q := 288) dL_law_287 rfl ?_
  refine lw_sld (j := i + 2) (q := 289) (nI_add i 2) (by omega) hL dL_law_288 rfl ?_
  refine lw_script (q := 290) dL_law_289 rfl ?_
  refine lw_i (q := 291) dL_law_290 rfl ?_
  refine lw_iconst (v := 3) (q := 292) dL_law_291 mci_3 rfl ?_
  refine lw_iadd (q := 293) dL_law_292 rfl ?_
  refine lw_sld (j := i + 3) (q := 294) (nI_add i 3) (by omega) hL dL_law_293 rfl ?_
  refine lw_script (q := 295) dL_law_294 rfl ?_
  refine lw_i (q := 296) dL_law_295 rfl ?_
  refine lw_iconst (v := 4) (q := 297) dL_law_296 mci_4 rfl ?_
  refine lw_iadd (q := 298) dL_law_297 rfl ?_
  refine lw_sld (j := i + 4) (q := 299) (nI_add i 4) (by omega) hL dL_law_298 rfl ?_
  refine lw_script (q := 300) dL_law_299 rfl ?_
  refine lw_i (q := 301) dL_law_300 rfl ?_
  refine lw_iconst (v := 5) (q := 302) dL_law_301 mci_5 rfl ?_
  refine lw_iadd (q := 303) dL_law_302 rfl ?_
  refine lw_sld (j := i + 5) (q := 304) (nI_add i 5) (by omega) hL dL_law_303 rfl ?_
  refine lw_callX (q := 307) kX6_copy mw_i_X6_copy mw_s_X6_copy mw_m_RL_22 rfl (r_X6_copy hX) rfl (fun _ _ _ => rfl) (fun _ _ => rfl) rfl (Nat.le_of_ble_eq_true rfl) (by decide) dL_law_304 rfl (fun v f1 g1 hp => ?_)
  obtain ⟨rfl, rfl, rfl⟩ := hp
  refine ⟨rfl, ?_⟩
  refine lw_m (q := 308) dL_law_307 rfl ?_
  refine lw_script (q := 309) dL_law_308 rfl ?_
  refine lw_i (q := 310) dL_law_309 rfl ?_
  refine lw_iconst (v := 1) (q := 311) dL_law_310 mci_1 rfl ?_
  refine lw_iadd (q := 312) dL_law_311 rfl ?_
  refine lw_sld (j := i + 1) (q := 313) (nI_add i 1) (by omega) hL dL_law_312 rfl ?_
  refine lw_script (q := 314) dL_law_313 rfl ?_
  refine lw_i (q := 315) dL_law_314 rfl ?_
  refine lw_iconst (v := 2) (q := 316) dL_law_315 mci_2 rfl ?_
  refine lw_iadd (q := 317) dL_law_316 rfl ?_
  refine lw_sld (j := i + 2) (q := 318) (nI_add i 2) (by omega) hL dL_law_317 rfl ?_
  refine lw_script (q := 319) dL_law_318 rfl ?_
  refine lw_i (q := 320) dL_law_319 rfl ?_
  refine lw_iconst (v := 3) (q := 321) dL_law_320 mci_3 rfl ?_
  refine lw_iadd (q := 322) dL_law_321 rfl ?_
  refine lw_sld (j := i + 3) (q := 323) (nI_add i 3) (by omega) hL dL_law_322 rfl ?_
  refine lw_script (q := 324) dL_law_323 rfl ?_
  refine lw_i (q := 325) dL_law_324 rfl ?_
  refine lw_iconst (v := 4) (q := 326) dL_law_325 mci_4 rfl ?_
  refine lw_iadd (q := 327) dL_law_326 rfl ?_
  refine lw_sld (j := i + 4) (q := 328) (nI_add i 4) (by omega) hL dL_law_327 rfl ?_
  refine lw_script (q := 329) dL_law_328 rfl ?_
  refine lw_i (q := 330) dL_law_329 rfl ?_
  refine lw_iconst (v := 5) (q := 331) dL_law_330 mci_5 rfl ?_
  refine lw_iadd (q := 332) dL_law_331 rfl ?_
  refine lw_sld (j := i + 5) (q := 333) (nI_add i 5) (by omega) hL dL_law_332 rfl ?_
  refine lw_callM (q := 336) kX7_copy mw_i_X7_copy mw_s_X7_copy mw_m_RL_26 rfl (r_X7_copy hM) rfl (fun _ _ _ => rfl) (fun _ _ => rfl) rfl (Nat.le_of_ble_eq_true rfl) (by decide) dL_law_333 rfl (fun v f1 g1 hp => ?_)
  obtain ⟨rfl, rfl, rfl⟩ := hp
  refine lw_eq (q := 1373) hr dL_law_336 rfl ?_
  exact kn _ _ _ hR2
theorem lc_drop {R : mj_I → mj_I → mj_L → Prop} (hs : ls_drop R) {L i : Nat} {xs : Nat → Int32} (hL : L ≤ 448) (hi : i + 7 ≤ L) {fX fM : mj_I} {gM : mj_L} (hR : R fX fM gM) (kn : ∀ (fX fM : mj_I) (gM : mj_L), R fX fM gM → lw_Ev L xs 1373 (nI i) [] fX fM gM) : lw_Ev L xs 341 (nI i) [] fX fM gM := by
  obtain ⟨oX, oM, hX, hM, hr, hR2⟩ := hs fX fM gM hR (xs (i + 1))
  refine lw_x (q := 342) dL_law_341 rfl ?_
  refine lw_script (q := 343) dL_law_342 rfl ?_
  refine lw_i (q := 344) dL_law_343 rfl ?_
  refine lw_iconst (v := 1) (q := 345) dL_law_344 mci_1 rfl ?_
  refine lw_iadd (q := 346) dL_law_345 rfl ?_
  refine lw_sld (j := i + 1) (q := 347) (nI_add i 1) (by omega) hL dL_law_346 rfl ?_
  refine lw_callX (q := 350) kX6_drop mw_i_X6_drop mw_s_X6_drop mw_m_RL_27 rfl (r_X6_drop hX) rfl (fun _ _ _ => rfl) (fun _ _ => rfl) rfl (Nat.le_of_ble_eq_true rfl) (by decide) dL_law_347 rfl (fun v f1 g1 hp => ?_)
  obtain ⟨rfl, rfl, rfl⟩ := hp
  refine ⟨rfl, ?_⟩
  refine lw_m (q := 351) dL_law_350 rfl ?_
  refine lw_script (q := 352) dL_law_351 rfl ?_
  refine lw_i (q := 353) dL_law_352 rfl ?_
  refine lw_iconst (v := 1) (q := 354) dL_law_353 mci_1 rfl ?_
  refine lw_iadd (q := 355) dL_law_354 rfl ?_
  refine lw_sld (j := i + 1) (q := 356) (nI_add i 1) (by omega) hL dL_law_355 rfl ?_
  refine lw_callM (q := 359) kX7_drop mw_i_X7_drop mw_s_X7_drop mw_m_RL_31 rfl (r_X7_drop hM) rfl (fun _ _ _ => rfl) (fun _ _ => rfl) rfl (Nat.le_of_ble_eq_true rfl) (by decide) dL_law_356 rfl (fun v f1 g1 hp => ?_)
  obtain ⟨rfl, rfl, rfl⟩ := hp
  refine lw_eq (q := 1373) hr dL_law_359 rfl ?_
  exact kn _ _ _ hR2
theorem lc_feed {R : mj_I → mj_I → mj_L → Prop} (hs : ls_feed R) {L i : Nat} {xs : Nat → Int32} (hL : L ≤ 448) (hi : i + 7 ≤ L) {fX fM : mj_I} {gM : mj_L} (hR : R fX fM gM) (kn : ∀ (fX fM : mj_I) (gM : mj_L), R fX fM gM → lw_Ev L xs 1373 (nI i) [] fX fM gM) : lw_Ev L xs 364 (nI i) [] fX fM gM := by
  obtain ⟨oX, oM, hX, hM, hr, hR2⟩ := hs fX fM gM hR (xs (i + 1))
  refine lw_x (q := 365) dL_law_364 rfl ?_
  refine lw_script (q := 366) dL_law_365 rfl ?_
  refine lw_i (q := 367) dL_law_366 rfl ?_
  refine lw_iconst (v := 1) (q := 368) dL_law_367 mci_1 rfl ?_
  refine lw_iadd (q := 369) dL_law_368 rfl ?_
  refine lw_sld (j := i + 1) (q := 370) (nI_add i 1) (by omega) hL dL_law_369 rfl ?_
  refine lw_callX (q := 373) kX6_feed mw_i_X6_feed mw_s_X6_feed mw_m_RL_32 rfl (r_X6_feed hX) rfl (fun _ _ _ => rfl) (fun _ _ => rfl) rfl (Nat.le_of_ble_eq_true rfl) (by decide) dL_law_370 rfl (fun v f1 g1 hp => ?_)
  obtain ⟨rfl, rfl, rfl⟩ := hp
  refine ⟨rfl, ?_⟩
  refine lw_m (q := 374) dL_law_373 rfl ?_
  refine lw_script (q := 375) dL_law_374 rfl ?_
  refine lw_i (q := 376) dL_law_375 rfl ?_
  refine lw_iconst (v := 1) (q := 377) dL_law_376 mci_1 rfl ?_
  refine lw_iadd (q := 378) dL_law_377 rfl ?_
  refine lw_sld (j := i + 1) (q := 379) (nI_add i 1) (by omega) hL dL_law_378 rfl ?_
  refine lw_callM (q := 382) kX7_feed mw_i_X7_feed mw_s_X7_feed mw_m_RL_35 rfl (r_X7_feed hM) rfl (fun _ _ _ => rfl) (fun _ _ => rfl) rfl (Nat.le_of_ble_eq_true rfl) (by decide) dL_law_379 rfl (fun v f1 g1 hp => ?_)
  obtain ⟨rfl, rfl, rfl⟩ := hp
  refine lw_eq (q := 1373) hr dL_law_382 rfl ?_
  exact kn _ _ _ hR2
theorem lc_herd {R : mj_I → mj_I → mj_L → Prop} (hs : ls_herd R) {L i : Nat} {xs : Nat → Int32} (hL : L ≤ 448) (hi : i + 7 ≤ L) {fX fM : mj_I} {gM : mj_L} (hR : R fX fM gM) (kn : ∀ (fX fM : mj_I) (gM : mj_L), R fX fM gM → lw_Ev L xs 1373 (nI i) [] fX fM gM) : lw_Ev L xs 387 (nI i) [] fX fM gM := by
  obtain ⟨oX, oM, hX, hM, hr, hR2⟩ := hs fX fM gM hR
  refine lw_x (q := 388) dL_law_387 rfl ?_
  refine lw_callX (q := 391) kX6_herd mw_i_X6_herd mw_s_X6_herd mw_m_RL_36 rfl (r_X6_herd hX) rfl (fun _ _ _ => rfl) (fun _ _ => rfl) rfl (Nat.le_of_ble_eq_true rfl) (by decide) dL_law_388 rfl (fun v f1 g1 hp => ?_)
  obtain ⟨rfl, rfl, rfl⟩ := hp
  refine ⟨rfl, ?_⟩
  refine lw_m (q := 392) dL_law_391 rfl ?_
  refine lw_callM (q := 395) kX7_herd mw_i_X7_herd mw_s_X7_herd mw_m_RL_40 rfl (r_X7_herd hM) rfl (fun _ _ _ => rfl) (fun _ _ => rfl) rfl (Nat.le_of_ble_eq_true rfl) (by decide) dL_law_392 rfl (fun v f1 g1 hp => ?_)
  obtain ⟨rfl, rfl, rfl⟩ := hp
  refine lw_eq (q := 1373) hr dL_law_395 rfl ?_
  exact kn _ _ _ hR2
theorem lc_fault {R : mj_I → mj_I → mj_L → Prop} (hs : ls_fault R) {L i : Nat} {xs : Nat → Int32} (hL : L ≤ 448) (hi : i + 7 ≤ L) {fX fM : mj_I} {gM : mj_L} (hR : R fX fM gM) (kn : ∀ (fX fM : mj_I) (gM : mj_L), R fX fM gM → lw_Ev L xs 1373 (nI i) [] fX fM gM) : lw_Ev L xs 400 (nI i) [] fX fM gM := by
  obtain ⟨oX, oM, hX, hM, hr, hR2⟩ := hs fX fM gM hR
  refine lw_x (q := 401) dL_law_400 rfl ?_
  refine lw_callX (q := 404) kX6_fault mw_i_X6_fault mw_s_X6_fault mw_m_RL_41 rfl (r_X6_fault hX) rfl (fun _ _ _ => rfl) (fun _ _ => rfl) rfl (Nat.le_of_ble_eq_true rfl) (by decide) dL_law_401 rfl (fun v f1 g1 hp => ?_)
  obtain ⟨rfl, rfl, rfl⟩ := hp
  refine ⟨rfl, ?_⟩
  refine lw_m (q := 405) dL_law_404 rfl ?_
  refine lw_callM (q := 408) kX7_fault mw_i_X7_fault mw_s_X7_fault mw_m_RL_44 rfl (r_X7_fault hM) rfl (fun _ _ _ => rfl) (fun _ _ => rfl) rfl (Nat.le_of_ble_eq_true rfl) (by decide) dL_law_405 rfl (fun v f1 g1 hp => ?_)
  obtain ⟨rfl, rfl, rfl⟩ := hp
  refine lw_eq (q := 1373) hr dL_law_408 rfl ?_
  exact kn _ _ _ hR2
theorem lc_undo {R : mj_I → mj_I → mj_L → Prop} (hs : ls_undo R) {L i : Nat} {xs : Nat → Int32} (hL : L ≤ 448) (hi : i + 7 ≤ L) {fX fM : mj_I} {gM : mj_L} (hR : R fX fM gM) (kn : ∀ (fX fM : mj_I) (gM : mj_L), R fX fM gM → lw_Ev L xs 1373 (nI i) [] fX fM gM) : lw_Ev L xs 413 (nI i) [] fX fM gM := by
  obtain ⟨oX, oM, hX, hM, hr, hR2⟩ := hs fX fM gM hR
  refine lw_x (q := 414) dL_law_413 rfl ?_
  refine lw_callX (q := 417) kX6_undo mw_i_X6_undo mw_s_X6_undo mw_m_RL_45 rfl (r_X6_undo hX) rfl (fun _ _ _ => rfl) (fun _ _ => rfl) rfl (Nat.le_of_ble_eq_true rfl) (by decide) dL_law_414 rfl (fun v f1 g1 hp => ?_)
  obtain ⟨rfl, rfl, rfl⟩ := hp
  refine ⟨rfl, ?_⟩
  refine lw_m (q := 418) dL_law_417 rfl ?_
  refine lw_callM (q := 421) kX7_undo mw_i_X7_undo mw_s_X7_undo mw_m_RL_48 rfl (r_X7_undo hM) rfl (fun _ _ _ => rfl) (fun _ _ => rfl) rfl (Nat.le_of_ble_eq_true rfl) (by decide) dL_law_418 rfl (fun v f1 g1 hp => ?_)
  obtain ⟨rfl, rfl, rfl⟩ := hp
  refine lw_eq (q := 1373) hr dL_law_421 rfl ?_
  exact kn _ _ _ hR2
theorem lc_hours {R : mj_I → mj_I → mj_L → Prop} (hs : ls_hours R) {L i : Nat} {xs : Nat → Int32} (hL : L ≤ 448) (hi : i + 7 ≤ L) {fX fM : mj_I} {gM : mj_L} (hR : R fX fM gM) (kn : ∀ (fX fM : mj_I) (gM : mj_L), R fX fM gM → lw_Ev L xs 1373 (nI i) [] fX fM gM) : lw_Ev L xs 426 (nI i) [] fX fM gM := by
  obtain ⟨oX, oM, hX, hM, hr, hR2⟩ := hs fX fM gM hR (xs (i + 1))
  refine lw_x (q := 427) dL_law_426 rfl ?_
  refine lw_script (q := 428) dL_law_427 rfl ?_
  refine lw_i (q := 429) dL_law_428 rfl ?_
  refine lw_iconst (v := 1) (q := 430) dL_law_429 mci_1 rfl ?_
  refine lw_iadd (q := 431) dL_law_430 rfl ?_
  refine lw_sld (j := i + 1) (q := 432) (nI_add i 1) (by omega) hL dL_law_431 rfl ?_
  refine lw_callX (q := 435) kX6_hours mw_i_X6_hours mw_s_X6_hours mw_m_RL_49 rfl (r_X6_hours hX) rfl (fun _ _ _ => rfl) (fun _ _ => rfl) rfl (Nat.le_of_ble_eq_true rfl) (by decide) dL_law_432 rfl (fun v f1 g1 hp => ?_)
  obtain ⟨rfl, rfl, rfl⟩ := hp
  refine ⟨rfl, ?_⟩
  refine lw_m (q := 436) dL_law_435 rfl ?_
  refine lw_script (q := 437) dL_law_436 rfl ?_
  refine lw_i (q := 438) dL_law_437 rfl ?_
  refine lw_iconst (v := 1) (q := 439) dL_law_438 mci_1 rfl ?_
  refine lw_iadd (q := 440) dL_law_439 rfl ?_
  refine lw_sld (j := i + 1) (q := 441) (nI_add i 1) (by omega) hL dL_law_440 rfl ?_
  refine lw_callM (q := 444) kX7_hours mw_i_X7_hours mw_s_X7_hours mw_m_RL_52 rfl (r_X7_hours hM) rfl (fun _ _ _ => rfl) (fun _ _ => rfl) rfl (Nat.le_of_ble_eq_true rfl) (by decide) dL_law_441 rfl (fun v f1 g1 hp => ?_)
  obtain ⟨rfl, rfl, rfl⟩ := hp
  refine lw_eq (q := 1373) hr dL_law_444 rfl ?_
  exact kn _ _ _ hR2
theorem lc_lift {R : mj_I → mj_I → mj_L → Prop} (hs : ls_lift R) {L i : Nat} {xs : Nat → Int32} (hL : L ≤ 448) (hi : i + 7 ≤ L) {fX fM : mj_I} {gM : mj_L} (hR : R fX fM gM) (kn : ∀ (fX fM : mj_I) (gM : mj_L), R fX fM gM → lw_Ev L xs 1373 (nI i) [] fX fM gM) : lw_Ev L xs 449 (nI i) [] fX fM gM := by
  obtain ⟨oX, oM, hX, hM, hr, hR2⟩ := hs fX fM gM hR (xs (i + 1)) (xs (i + 2))
  refine lw_x (q := 450) dL_law_449 rfl ?_
  refine lw_script (q := 451) dL_law_450 rfl ?_
  refine lw_i (q := 452) dL_law_451 rfl ?_
  refine lw_iconst (v := 1) (q := 453) dL_law_452 mci_1 rfl ?_
  refine lw_iadd (q := 454) dL_law_453 rfl ?_
  refine lw_sld (j := i + 1) (q := 455) (nI_add i 1) (by omega) hL dL_law_454 rfl ?_
  refine lw_script (q := 456) dL_law_455 rfl ?_
  refine lw_i (q := 457) dL_law_456 rfl ?_
  refine lw_iconst (v := 2) (q := 458) dL_law_457 mci_2 rfl ?_
  refine lw_iadd (q := 459) dL_law_458 rfl ?_
  refine lw_sld (j := i + 2) (q := 460) (nI_add i 2) (by omega) hL dL_law_459 rfl ?_
  refine lw_callX (q := 463) kX6_lift mw_i_X6_lift mw_s_X6_lift mw_m_RL_53 rfl (r_X6_lift hX) rfl (fun _ _ _ => rfl) (fun _ _ => rfl) rfl (Nat.le_of_ble_eq_true rfl) (by decide) dL_law_460 rfl (fun v f1 g1 hp => ?_)
  obtain ⟨rfl, rfl, rfl⟩ := hp
  refine ⟨rfl, ?_⟩
  refine lw_m (q := 464) dL_law_463 rfl ?_
  refine lw_script (q := 465) dL_law_464 rfl ?_
  refine lw_i (q := 466) dL_law_465 rfl ?_
  refine lw_iconst (v := 1) (q := 467) dL_law_466 mci_1 rfl ?_
  refine lw_iadd (q := 468) dL_law_467 rfl ?_
  refine lw_sld (j := i + 1) (q := 469) (nI_add i 1) (by omega) hL dL_law_468 rfl ?_
  refine lw_script (q := 470) dL_law_469 rfl ?_
  refine lw_i (q := 471) dL_law_470 rfl ?_
  refine lw_iconst (v := 2) (q := 472) dL_law_471 mci_2 rfl ?_
  refine lw_iadd (q := 473) dL_law_472 rfl ?_
  refine lw_sld (j := i + 2) (q := 474) (nI_add i 2) (by omega) hL dL_law_473 rfl ?_
  refine lw_callM (q := 477) kX7_lift mw_i_X7_lift mw_s_X7_lift mw_m_RL_57 rfl (r_X7_lift hM) rfl (fun _ _ _ => rfl) (fun _ _ => rfl) rfl (Nat.le_of_ble_eq_true rfl) (by decide) dL_law_474 rfl (fun v f1 g1 hp => ?_)
  obtain ⟨rfl, rfl, rfl⟩ := hp
  refine lw_eq (q := 1373) hr dL_law_477 rfl ?_
  exact kn _ _ _ hR2
theorem lc_rains {R : mj_I → mj_I → mj_L → Prop} (hs : ls_rains R) {L i : Nat} {xs : Nat → Int32} (hL : L ≤ 448) (hi : i + 7 ≤ L) {fX fM : mj_I} {gM : mj_L} (hR : R fX fM gM) (kn : ∀ (fX fM : mj_I) (gM : mj_L), R fX fM gM → lw_Ev L xs 1373 (nI i) [] fX fM gM) : lw_Ev L xs 482 (nI i) [] fX fM gM := by
  obtain ⟨oX, oM, hX, hM, hr, hR2⟩ := hs fX fM gM hR (xs (i + 1)) (xs (i + 2))
  refine lw_x (q := 483) dL_law_482 rfl ?_
  refine lw_script (q := 484) dL_law_483 rfl ?_
  refine lw_i (q := 485) dL_law_484 rfl ?_
  refine lw_iconst (v := 1) (q := 486) dL_law_485 mci_1 rfl ?_
  refine lw_iadd (q := 487) dL_law_486 rfl ?_
  refine lw_sld (j := i + 1) (q := 488) (nI_add i 1) (by omega) hL dL_law_487 rfl ?_
  refine lw_script (q := 489) dL_law_488 rfl ?_
  refine lw_i (q := 490) dL_law_489 rfl ?_
  refine lw_iconst (v := 2) (q := 491) dL_law_490 mci_2 rfl ?_
  refine lw_iadd (q := 492) dL_law_491 rfl ?_
  refine lw_sld (j := i + 2) (q := 493) (nI_add i 2) (by omega) hL dL_law_492 rfl ?_
  refine lw_callX (q := 496) kX6_rains mw_i_X6_rains mw_s_X6_rains mw_m_RL_58 rfl (r_X6_rains hX) rfl (fun _ _ _ => rfl) (fun _ _ => rfl) rfl (Nat.le_of_ble_eq_true rfl) (by decide) dL_law_493 rfl (fun v f1 g1 hp => ?_)
  obtain ⟨rfl, rfl, rfl⟩ := hp
  refine ⟨rfl, ?_⟩
  refine lw_m (q := 497) dL_law_496 rfl ?_
  refine lw_script (q := 498) dL_law_497 rfl ?_
  refine lw_i (q := 499) dL_law_498 rfl ?_
  refine lw_iconst (v := 1) (q := 500) dL_law_499 mci_1 rfl ?_
  refine lw_iadd (q := 501) dL_law_500 rfl ?_
  refine lw_sld (j := i + 1) (q := 502) (nI_add i 1) (by omega) hL dL_law_501 rfl ?_
  refine lw_script (q := 503) dL_law_502 rfl ?_
  refine lw_i (q := 504) dL_law_503 rfl ?_
  refine lw_iconst (v := 2) (q := 505) dL_law_504 mci_2 rfl ?_
  refine lw_iadd (q := 506) dL_law_505 rfl ?_
  refine lw_sld (j := i + 2) (q := 507) (nI_add i 2) (by omega) hL dL_law_506 rfl ?_
  refine lw_callM (q := 510) kX7_rains mw_i_X7_rains mw_s_X7_rains mw_m_RL_61 rfl (r_X7_rains hM) rfl (fun _ _ _ => rfl) (fun _ _ => rfl) rfl (Nat.le_of_ble_eq_true rfl) (by decide) dL_law_507 rfl (fun v f1 g1 hp => ?_)
  obtain ⟨rfl, rfl, rfl⟩ := hp
  refine lw_eq (q := 1373) hr dL_law_510 rfl ?_
  exact kn _ _ _ hR2
theorem lc_cloud {R : mj_I → mj_I → mj_L → Prop} (hs : ls_cloud R) {L i : Nat} {xs : Nat → Int32} (hL : L ≤ 448) (hi : i + 7 ≤ L) {fX fM : mj_I} {gM : mj_L} (hR : R fX fM gM) (kn : ∀ (fX fM : mj_I) (gM : mj_L), R fX fM gM → lw_Ev L xs 1373 (nI i) [] fX fM gM) : lw_Ev L xs 515 (nI i) [] fX fM gM := by
  obtain ⟨oX, oM, hX, hM, hr, hR2⟩ := hs fX fM gM hR (xs (i + 1)) (xs (i + 2))
  refine lw_x (q := 516) dL_law_515 rfl ?_
  refine lw_script (q := 517) dL_law_516 rfl ?_
  refine lw_i (q := 518) dL_law_517 rfl ?_
  refine lw_iconst (v := 1) (q := 519) dL_law_518 mci_1 rfl ?_
  refine lw_iadd (q := 520) dL_law_519 rfl ?_
  refine lw_sld (j := i + 1) (q := 521) (nI_add i 1) (by omega) hL dL_law_520 rfl ?_
  refine lw_script (q := 522) dL_law_521 rfl ?_
  refine lw_i (q := 523) dL_law_522 rfl ?_
  refine lw_iconst (v := 2) (q := 524) dL_law_523 mci_2 rfl ?_
  refine lw_iadd (q := 525) dL_law_524 rfl ?_
  refine lw_sld (j := i + 2) (q := 526) (nI_add i 2) (by omega) hL dL_law_525 rfl ?_
  refine lw_callX (q := 529) kX6_cloud mw_i_X6_cloud mw_s_X6_cloud mw_m_RL_62 rfl (r_X6_cloud hX) rfl (fun _ _ _ => rfl) (fun _ _ => rfl) rfl (Nat.le_of_ble_eq_true rfl) (by decide) dL_law_526 rfl (fun v f1 g1 hp => ?_)
  obtain ⟨rfl, rfl, rfl⟩ := hp
  refine ⟨rfl, ?_⟩
  refine lw_m (q := 530) dL_law_529 rfl ?_
  refine lw_script (q := 531) dL_law_530 rfl ?_
  refine lw_i (q := 532) dL_law_531 rfl ?_
  refine lw_iconst (v := 1) (q := 533) dL_law_532 mci_1 rfl ?_
  refine lw_iadd (q := 534) dL_law_533 rfl ?_
  refine lw_sld (j := i + 1) (q := 535) (nI_add i 1) (by omega) hL dL_law_534 rfl ?_
  refine lw_script (q := 536) dL_law_535 rfl ?_
  refine lw_i (q := 537) dL_law_536 rfl ?_
  refine lw_iconst (v := 2) (q := 538) dL_law_537 mci_2 rfl ?_
  refine lw_iadd (q := 539) dL_law_538 rfl ?_
  refine lw_sld (j := i + 2) (q := 540) (nI_add i 2) (by omega) hL dL_law_539 rfl ?_
  refine lw_callM (q := 543) kX7_cloud mw_i_X7_cloud mw_s_X7_cloud mw_m_RL_65 rfl (r_X7_cloud hM) rfl (fun _ _ _ => rfl) (fun _ _ => rfl) rfl (Nat.le_of_ble_eq_true rfl) (by decide) dL_law_540 rfl (fun v f1 g1 hp => ?_)
  obtain ⟨rfl, rfl, rfl⟩ := hp
  refine lw_eq (q := 1373) hr dL_law_543 rfl ?_
  exact kn _ _ _ hR2
theorem lc_cell {R : mj_I → mj_I → mj_L → Prop} (hs : ls_cell R) {L i : Nat} {xs : Nat → Int32} (hL : L ≤ 448) (hi : i + 7 ≤ L) {fX fM : mj_I} {gM : mj_L} (hR : R fX fM gM) (kn : ∀ (fX fM : mj_I) (gM : mj_L), R fX fM gM → lw_Ev L xs 1373 (nI i) [] fX fM gM) : lw_Ev L xs 548 (nI i) [] fX fM gM := by
  obtain ⟨oX, oM, hX, hM, hr, hR2⟩ := hs fX fM gM hR (xs (i + 1)) (xs (i + 2))
  refine lw_x (q := 549) dL_law_548 rfl ?_
  refine lw_script (q := 550) dL_law_549 rfl ?_
  refine lw_i (q := 551) dL_law_550 rfl ?_
  refine lw_iconst (v := 1) (q := 552) dL_law_551 mci_1 rfl ?_
  refine lw_iadd (q := 553) dL_law_552 rfl ?_
  refine lw_sld (j := i + 1) (q := 554) (nI_add i 1) (by omega) hL dL_law_553 rfl ?_
  refine lw_script (q := 555) dL_law_554 rfl ?_
  refine lw_i (q := 556) dL_law_555 rfl ?_
  refine lw_iconst (v := 2) (q := 557) dL_law_556 mci_2 rfl ?_
  refine lw_iadd (q := 558) dL_law_557 rfl ?_
  refine lw_sld (j := i + 2) (q := 559) (nI_add i 2) (by omega) hL dL_law_558 rfl ?_
  refine lw_callX (q := 562) kX6_cell mw_i_X6_cell mw_s_X6_cell mw_m_RL_66 rfl (r_X6_cell hX) rfl (fun _ _ _ => rfl) (fun _ _ => rfl) rfl (Nat.le_of_ble_eq_true rfl) (by decide) dL_law_559 rfl (fun v f1 g1 hp => ?_)
  obtain ⟨rfl, rfl, rfl⟩ := hp
  refine ⟨rfl, ?_⟩
  refine lw_m (q := 563) dL_law_562 rfl ?_
  refine lw_script (q := 564) dL_law_563 rfl ?_
  refine lw_i (q := 565) dL_law_564 rfl ?_
  refine lw_iconst (v := 1) (q := 566) dL_law_565 mci_1 rfl ?_
  refine lw_iadd (q := 567) dL_law_566 rfl ?_
  refine lw_sld (j := i + 1) (q := 568) (nI_add i 1) (by omega) hL dL_law_567 rfl ?_
  refine lw_script (q := 569) dL_law_568 rfl ?_
  refine lw_i (q := 570) dL_law_569 rfl ?_
  refine lw_iconst (v := 2) (q := 571) dL_law_570 mci_2 rfl ?_
  refine lw_iadd (q := 572) dL_law_571 rfl ?_
  refine lw_sld (j := i + 2) (q := 573) (nI_add i 2) (by omega) hL dL_law_572 rfl ?_
  refine lw_callM (q := 576) kX7_cell mw_i_X7_cell mw_s_X7_cell mw_m_RL_69 rfl (r_X7_cell hM) rfl (fun _ _ _ => rfl) (fun _ _ => rfl) rfl (Nat.le_of_ble_eq_true rfl) (by decide) dL_law_573 rfl (fun v f1 g1 hp => ?_)
  obtain ⟨rfl, rfl, rfl⟩ := hp
  refine lw_eq (q := 1373) hr dL_law_576 rfl ?_
  exact kn _ _ _ hR2
theorem lc_wind {R : mj_I → mj_I → mj_L → Prop} (hs : ls_wind R) {L i : Nat} {xs : Nat → Int32} (hL : L ≤ 448) (hi : i + 7 ≤ L) {fX fM : mj_I} {gM : mj_L} (hR : R fX fM gM) (kn : ∀ (fX fM : mj_I) (gM : mj_L), R fX fM gM → lw_Ev L xs 1373 (nI i) [] fX fM gM) : lw_Ev L xs 581 (nI i) [] fX fM gM := by
  obtain ⟨oX, oM, hX, hM, hr, hR2⟩ := hs fX fM gM hR (xs (i + 1)) (xs (i + 2))
  refine lw_x (q := 582) dL_law_581 rfl ?_
  refine lw_script (q := 583) dL_law_582 rfl ?_
  refine lw_i (q := 584) dL_law_583 rfl ?_
  refine lw_iconst (v := 1) (q := 585) dL_law_584 mci_1 rfl ?_
  refine lw_iadd (q := 586) dL_law_585 rfl ?_
  refine lw_sld (j := i + 1) (q := 587) (nI_add i 1) (by omega) hL dL_law_586 rfl ?_
  refine lw_script (q := 588) dL_law_587 rfl ?_
  refine lw_i (q := 589) dL_law_588 rfl ?_
  refine lw_iconst (v := 2) (q := 590) dL_law_589 mci_2 rfl ?_
  refine lw_iadd (q := 591) dL_law_590 rfl ?_
  refine lw_sld (j := i + 2) (q := 592) (nI_add i 2) (by omega) hL dL_law_591 rfl ?_
  refine lw_callX (q := 595) kX6_wind mw_i_X6_wind mw_s_X6_wind mw_m_RL_70 rfl (r_X6_wind hX) rfl (fun _ _ _ => rfl) (fun _ _ => rfl) rfl (Nat.le_of_ble_eq_true rfl) (by decide) dL_law_592 rfl (fun v f1 g1 hp => ?_)
  obtain ⟨rfl, rfl, rfl⟩ := hp
  refine ⟨rfl, ?_⟩
  refine lw_m (q := 596) dL_law_595 rfl ?_
  refine lw_script (q := 597) dL_law_596 rfl ?_
  refine lw_i (q := 598) dL_law_597 rfl ?_
  refine lw_iconst (v := 1) (q := 599) dL_law_598 mci_1 rfl ?_
  refine lw_iadd (q := 600) dL_law_599 rfl ?_
  refine lw_sld (j := i + 1) (q := 601) (nI_add i 1) (by omega) hL dL_law_600 rfl ?_
  refine lw_script (q := 602) dL_law_601 rfl ?_
  refine lw_i (q := 603) dL_law_602 rfl ?_
  refine lw_iconst (v := 2) (q := 604) dL_law_603 mci_2 rfl ?_
  refine lw_iadd (q := 605) dL_law_604 rfl ?_
  refine lw_sld (j := i + 2) (q := 606) (nI_add i 2) (by omega) hL dL_law_605 rfl ?_
  refine lw_callM (q := 609) kX7_wind mw_i_X7_wind mw_s_X7_wind mw_m_RL_73 rfl (r_X7_wind hM) rfl (fun _ _ _ => rfl) (fun _ _ => rfl) rfl (Nat.le_of_ble_eq_true rfl) (by decide) dL_law_606 rfl (fun v f1 g1 hp => ?_)
  obtain ⟨rfl, rfl, rfl⟩ := hp
  refine lw_eq (q := 1373) hr dL_law_609 rfl ?_
  exact kn _ _ _ hR2
theorem lc_ahead {R : mj_I → mj_I → mj_L → Prop} (hs : ls_ahead R) {L i : Nat} {xs : Nat → Int32} (hL : L ≤ 448) (hi : i + 7 ≤ L) {fX fM : mj_I} {gM : mj_L} (hR : R fX fM gM) (kn : ∀ (fX fM : mj_I) (gM : mj_L), R fX fM gM → lw_Ev L xs 1373 (nI i) [] fX fM gM) : lw_Ev L xs 614 (nI i) [] fX fM gM := by
  obtain ⟨oX, oM, hX, hM, hr, hR2⟩ := hs fX fM gM hR (xs (i + 1)) (xs (i + 2)) (xs (i + 3))
  refine lw_x (q := 615) dL_law_614 rfl ?_
  refine lw_script (q := 616) dL_law_615 rfl ?_
  refine lw_i (q := 617) dL_law_616 rfl ?_
  refine lw_iconst (v := 1) (q := 618) dL_law_617 mci_1 rfl ?_
  refine lw_iadd (q := 619) dL_law_618 rfl ?_
  refine lw_sld (j := i + 1) (q := 620) (nI_add i 1) (by omega) hL dL_law_619 rfl ?_
  refine lw_script (q := 621) dL_law_620 rfl ?_
  refine lw_i (q := 622) dL_law_621 rfl ?_
  refine lw_iconst (v := 2) (q := 623) dL_law_622 mci_2 rfl ?_
  refine lw_iadd (q := 624) dL_law_623 rfl ?_
  refine lw_sld (j := i + 2) (q := 625) (nI_add i 2) (by omega) hL dL_law_624 rfl ?_
  refine lw_script (q := 626) dL_law_625 rfl ?_
  refine lw_i (q := 627) dL_law_626 rfl ?_
  refine lw_iconst (v := 3) (q := 628) dL_law_627 mci_3 rfl ?_
  refine lw_iadd (q := 629) dL_law_628 rfl ?_
  refine lw_sld (j := i + 3) (q := 630) (nI_add i 3) (by omega) hL dL_law_629 rfl ?_
  refine lw_callX (q := 633) kX6_ahead mw_i_X6_ahead mw_s_X6_ahead mw_m_RL_74 rfl (r_X6_ahead hX) rfl (fun _ _ _ => rfl) (fun _ _ => rfl) rfl (Nat.le_of_ble_eq_true rfl) (by decide) dL_law_630 rfl (fun v f1 g1 hp => ?_)
  obtain ⟨rfl, rfl, rfl⟩ := hp
  refine ⟨rfl, ?_⟩
  refine lw_m (q := 634) dL_law_633 rfl ?_
  refine lw_script (q := 635) dL_law_634 rfl ?_
  refine lw_i (q := 636) dL_law_635 rfl ?_
  refine lw_iconst (v := 1) (q := 637) dL_law_636 mci_1 rfl ?_
  refine lw_iadd (q := 638) dL_law_637 rfl ?_
  refine lw_sld (j := i + 1) (q := 639) (nI_add i 1) (by omega) hL dL_law_638 rfl ?_
  refine lw_script (q := 640) dL_law_639 rfl ?_
  refine lw_i (q := 641) dL_law_640 rfl ?_
  refine lw_iconst (v := 2) (q := 642) dL_law_641 mci_2 rfl ?_
  refine lw_iadd (q := 643) dL_law_642 rfl ?_
  refine lw_sld (j := i + 2) (q := 644) (nI_add i 2) (by omega) hL dL_law_643 rfl ?_
  refine lw_script (q := 645) dL_law_644 rfl ?_
  refine lw_i (q := 646) dL_law_645 rfl ?_
  refine lw_iconst (v := 3) (q := 647) dL_law_646 mci_3 rfl ?_
  refine lw_iadd (q := 648) dL_law_647 rfl ?_
  refine lw_sld (j := i + 3) (q := 649) (nI_add i 3) (by omega) hL dL_law_648 rfl ?_
  refine lw_callM (q := 652) kX7_ahead mw_i_X7_ahead mw_s_X7_ahead mw_m_RL_77 rfl (r_X7_ahead hM) rfl (fun _ _ _ => rfl) (fun _ _ => rfl) rfl (Nat.le_of_ble_eq_true rfl) (by decide) dL_law_649 rfl (fun v f1 g1 hp => ?_)
  obtain ⟨rfl, rfl, rfl⟩ := hp
  refine lw_eq (q := 1373) hr dL_law_652 rfl ?_
  exact kn _ _ _ hR2
theorem lc_earned {R : mj_I → mj_I → mj_L → Prop} (hs : ls_earned R) {L i : Nat} {xs : Nat → Int32} (hL : L ≤ 448) (hi : i + 7 ≤ L) {fX fM : mj_I} {gM : mj_L} (hR : R fX fM gM) (kn : ∀ (fX fM : mj_I) (gM : mj_L), R fX fM gM → lw_Ev L xs 1373 (nI i) [] fX fM gM) : lw_Ev L xs 657 (nI i) [] fX fM gM := by
  obtain ⟨oX, oM, hX, hM, hr, hR2⟩ := hs fX fM gM hR (xs (i + 1))
  refine lw_x (q := 658) dL_law_657 rfl ?_
  refine lw_script (q := 659) dL_law_658 rfl ?_
  refine lw_i (q := 660) dL_law_659 rfl ?_
  refine lw_iconst (v := 1) (q := 661) dL_law_660 mci_1 rfl ?_
  refine lw_iadd (q := 662) dL_law_661 rfl ?_
  refine lw_sld (j := i + 1) (q := 663) (nI_add i 1) (by omega) hL dL_law_662 rfl ?_
  refine lw_callX (q := 666) kX6_earned mw_i_X6_earned mw_s_X6_earned mw_m_RL_78 rfl (r_X6_earned hX) rfl (fun _ _ _ => rfl) (fun _ _ => rfl) rfl (Nat.le_of_ble_eq_true rfl) (by decide) dL_law_663 rfl (fun v f1 g1 hp => ?_)
  obtain ⟨rfl, rfl, rfl⟩ := hp
  refine ⟨rfl, ?_⟩
  refine lw_m (q := 667) dL_law_666 rfl ?_
  refine lw_script (q := 668) dL_law_667 rfl ?_
  refine lw_i (q := 669) dL_law_668 rfl ?_
  refine lw_iconst (v := 1) (q := 670) dL_law_669 mci_1 rfl ?_
  refine lw_iadd (q := 671) dL_law_670 rfl ?_
  refine lw_sld (j := i + 1) (q := 672) (nI_add i 1) (by omega) hL dL_law_671 rfl ?_
  refine lw_callM (q := 675) kX7_earned mw_i_X7_earned mw_s_X7_earned mw_m_RL_81 rfl (r_X7_earned hM) rfl (fun _ _ _ => rfl) (fun _ _ => rfl) rfl (Nat.le_of_ble_eq_true rfl) (by decide) dL_law_672 rfl (fun v f1 g1 hp => ?_)
  obtain ⟨rfl, rfl, rfl⟩ := hp
  refine lw_eq (q := 1373) hr dL_law_675 rfl ?_
  exact kn _ _ _ hR2
theorem lc_knot {R : mj_I → mj_I → mj_L → Prop} (hs : ls_knot R) {L i : Nat} {xs : Nat → Int32} (hL : L ≤ 448) (hi : i + 7 ≤ L) {fX fM : mj_I} {gM : mj_L} (hR : R fX fM gM) (kn : ∀ (fX fM : mj_I) (gM : mj_L), R fX fM gM → lw_Ev L xs 1373 (nI i) [] fX fM gM) : lw_Ev L xs 680 (nI i) [] fX fM gM := by
  obtain ⟨oX, oM, hX, hM, hr, hR2⟩ := hs fX fM gM hR (xs (i + 1)) (xs (i + 2))
  refine lw_x (q := 681) dL_law_680 rfl ?_
  refine lw_script (q := 682) dL_law_681 rfl ?_
  refine lw_i (q := 683) dL_law_682 rfl ?_
  refine lw_iconst (v := 1) (q := 684) dL_law_683 mci_1 rfl ?_
  refine lw_iadd (q := 685) dL_law_684 rfl ?_
  refine lw_sld (j := i + 1) (q := 686) (nI_add i 1) (by omega) hL dL_law_685 rfl ?_
  refine lw_script (q := 687) dL_law_686 rfl ?_
  refine lw_i (q := 688) dL_law_687 rfl ?_
  refine lw_iconst (v := 2) (q := 689) dL_law_688 mci_2 rfl ?_
  refine lw_iadd (q := 690) dL_law_689 rfl ?_
  refine lw_sld (j := i + 2) (q := 691) (nI_add i 2) (by omega) hL dL_law_690 rfl ?_
  refine lw_callX (q := 694) kX6_knot mw_i_X6_knot mw_s_X6_knot mw_m_RL_82 rfl (r_X6_knot hX) rfl (fun _ _ _ => rfl) (fun _ _ => rfl) rfl (Nat.le_of_ble_eq_true rfl) (by decide) dL_law_691 rfl (fun v f1 g1 hp => ?_)
  obtain ⟨rfl, rfl, rfl⟩ := hp
  refine ⟨rfl, ?_⟩
  refine lw_m (q := 695) dL_law_694 rfl ?_
  refine lw_script (q := 696) dL_law_695 rfl ?_
  refine lw_i (q := 697) dL_law_696 rfl ?_
  refine lw_iconst (v := 1) (q := 698) dL_law_697 mci_1 rfl ?_
  refine lw_iadd (q := 699) dL_law_698 rfl ?_
  refine lw_sld (j := i + 1) (q := 700) (nI_add i 1) (by omega) hL dL_law_699 rfl ?_
  refine lw_script (q := 701) dL_law_700 rfl ?_
  refine lw_i (q := 702) dL_law_701 rfl ?_
  refine lw_iconst (v := 2) (q := 703) dL_law_702 mci_2 rfl ?_
  refine lw_iadd (q := 704) dL_law_703 rfl ?_
  refine lw_sld (j := i + 2) (q := 705) (nI_add i 2) (by omega) hL dL_law_704 rfl ?_
  refine lw_callM (q := 708) kX7_knot mw_i_X7_knot mw_s_X7_knot mw_m_RL_85 rfl (r_X7_knot hM) rfl (fun _ _ _ => rfl) (fun _ _ => rfl) rfl (Nat.le_of_ble_eq_true rfl) (by decide) dL_law_705 rfl (fun v f1 g1 hp => ?_)
  obtain ⟨rfl, rfl, rfl⟩ := hp
  refine lw_eq (q := 1373) hr dL_law_708 rfl ?_
  exact kn _ _ _ hR2
theorem lc_wetHay {R : mj_I → mj_I → mj_L → Prop} (hs : ls_wetHay R) {L i : Nat} {xs : Nat → Int32} (hL : L ≤ 448) (hi : i + 7 ≤ L) {fX fM : mj_I} {gM : mj_L} (hR : R fX fM gM) (kn : ∀ (fX fM : mj_I) (gM : mj_L), R fX fM gM → lw_Ev L xs 1373 (nI i) [] fX fM gM) : lw_Ev L xs 713 (nI i) [] fX fM gM := by
  obtain ⟨oX, oM, hX, hM, hr, hR2⟩ := hs fX fM gM hR (xs (i + 1)) (xs (i + 2))
  refine lw_x (q := 714) dL_law_713 rfl ?_
  refine lw_script (q := 715) dL_law_714 rfl ?_
  refine lw_i (q := 716) dL_law_715 rfl ?_
  refine lw_iconst (v := 1) (q := 717) dL_law_716 mci_1 rfl ?_
  refine lw_iadd (q := 718) dL_law_717 rfl ?_
  refine lw_sld (j := i + 1) (q := 719) (nI_add i 1) (by omega) hL dL_law_718 rfl ?_
  refine lw_script (q := 720) dL_law_719 rfl ?_
  refine lw_i (q := 721) dL_law_720 rfl ?_
  refine lw_iconst (v := 2) (q := 722) dL_law_721 mci_2 rfl ?_
  refine lw_iadd (q := 723) dL_law_722 rfl ?_
  refine lw_sld (j := i + 2) (q := 724) (nI_add i 2) (by omega) hL dL_law_723 rfl ?_
  refine lw_callX (q := 727) kX6_wetHay mw_i_X6_wetHay mw_s_X6_wetHay mw_m_RL_86 rfl (r_X6_wetHay hX) rfl (fun _ _ _ => rfl) (fun _ _ => rfl) rfl (Nat.le_of_ble_eq_true rfl) (by decide) dL_law_724 rfl (fun v f1 g1 hp => ?_)
  obtain ⟨rfl, rfl, rfl⟩ := hp
  refine ⟨rfl, ?_⟩
  refine lw_m (q := 728) dL_law_727 rfl ?_
  refine lw_script (q := 729) dL_law_728 rfl ?_
  refine lw_i (q := 730) dL_law_729 rfl ?_
  refine lw_iconst (v := 1) (q := 731) dL_law_730 mci_1 rfl ?_
  refine lw_iadd (q := 732) dL_law_731 rfl ?_
  refine lw_sld (j := i + 1) (q := 733) (nI_add i 1) (by omega) hL dL_law_732 rfl ?_
  refine lw_script (q := 734) dL_law_733 rfl ?_
  refine lw_i (q := 735) dL_law_734 rfl ?_
  refine lw_iconst (v := 2) (q := 736) dL_law_735 mci_2 rfl ?_
  refine lw_iadd (q := 737) dL_law_736 rfl ?_
  refine lw_sld (j := i + 2) (q := 738) (nI_add i 2) (by omega) hL dL_law_737 rfl ?_
  refine lw_callM (q := 741) kX7_wetHay mw_i_X7_wetHay mw_s_X7_wetHay mw_m_RL_89 rfl (r_X7_wetHay hM) rfl (fun _ _ _ => rfl) (fun _ _ => rfl) rfl (Nat.le_of_ble_eq_true rfl) (by decide) dL_law_738 rfl (fun v f1 g1 hp => ?_)
  obtain ⟨rfl, rfl, rfl⟩ := hp
  refine lw_eq (q := 1373) hr dL_law_741 rfl ?_
  exact kn _ _ _ hR2
theorem lc_soon {R : mj_I → mj_I → mj_L → Prop} (hs : ls_soon R) {L i : Nat} {xs : Nat → Int32} (hL : L ≤ 448) (hi : i + 7 ≤ L) {fX fM : mj_I} {gM : mj_L} (hR : R fX fM gM) (kn : ∀ (fX fM : mj_I) (gM : mj_L), R fX fM gM → lw_Ev L xs 1373 (nI i) [] fX fM gM) : lw_Ev L xs 746 (nI i) [] fX fM gM := by
  obtain ⟨oX, oM, hX, hM, hr, hR2⟩ := hs fX fM gM hR (xs (i + 1)) (xs (i + 2))
  refine lw_x (q := 747) dL_law_746 rfl ?_
  refine lw_script (q := 748) dL_law_747 rfl ?_
  refine lw_i (q := 749) dL_law_748 rfl ?_
  refine lw_iconst (v := 1) (q := 750) dL_law_749 mci_1 rfl ?_
  refine lw_iadd (q := 751) dL_law_750 rfl ?_
  refine lw_sld (j := i + 1) (q := 752) (nI_add i 1) (by omega) hL dL_law_751 rfl ?_
  refine lw_script (q := 753) dL_law_752 rfl ?_
  refine lw_i (q := 754) dL_law_753 rfl ?_
  refine lw_iconst (v := 2) (q := 755) dL_law_754 mci_2 rfl ?_
  refine lw_iadd (q := 756) dL_law_755 rfl ?_
  refine lw_sld (j := i + 2) (q := 757) (nI_add i 2) (by omega) hL dL_law_756 rfl ?_
  refine lw_callX (q := 760) kX6_soon mw_i_X6_soon mw_s_X6_soon mw_m_RL_90 rfl (r_X6_soon hX) rfl (fun _ _ _ => rfl) (fun _ _ => rfl) rfl (Nat.le_of_ble_eq_true rfl) (by decide) dL_law_757 rfl (fun v f1 g1 hp => ?_)
  obtain ⟨rfl, rfl, rfl⟩ := hp
  refine ⟨rfl, ?_⟩
  refine lw_m (q := 761) dL_law_760 rfl ?_
  refine lw_script (q := 762) dL_law_761 rfl ?_
  refine lw_i (q := 763) dL_law_762 rfl ?_
  refine lw_iconst (v := 1) (q := 764) dL_law_763 mci_1 rfl ?_
  refine lw_iadd (q := 765) dL_law_764 rfl ?_
  refine lw_sld (j := i + 1) (q := 766) (nI_add i 1) (by omega) hL dL_law_765 rfl ?_
  refine lw_script (q := 767) dL_law_766 rfl ?_
  refine lw_i (q := 768) dL_law_767 rfl ?_
  refine lw_iconst (v := 2) (q := 769) dL_law_768 mci_2 rfl ?_
  refine lw_iadd (q := 770) dL_law_769 rfl ?_
  refine lw_sld (j := i + 2) (q := 771) (nI_add i 2) (by omega) hL dL_law_770 rfl ?_
  refine lw_callM (q := 774) kX7_soon mw_i_X7_soon mw_s_X7_soon mw_m_RL_93 rfl (r_X7_soon hM) rfl (fun _ _ _ => rfl) (fun _ _ => rfl) rfl (Nat.le_of_ble_eq_true rfl) (by decide) dL_law_771 rfl (fun v f1 g1 hp => ?_)
  obtain ⟨rfl, rfl, rfl⟩ := hp
  refine lw_eq (q := 1373) hr dL_law_774 rfl ?_
  exact kn _ _ _ hR2
theorem lc_heights {R : mj_I → mj_I → mj_L → Prop} (hs : ls_heights R) {L i : Nat} {xs : Nat → Int32} (hL : L ≤ 448) (hi : i + 7 ≤ L) {fX fM : mj_I} {gM : mj_L} (hR : R fX fM gM) (kn : ∀ (fX fM : mj_I) (gM : mj_L), R fX fM gM → lw_Ev L xs 1373 (nI i) [] fX fM gM) : lw_Ev L xs 779 (nI i) [] fX fM gM := by
  obtain ⟨oX, oM, hX, hM, hr, hR2⟩ := hs fX fM gM hR (xs (i + 1)) (xs (i + 2)) (xs (i + 3))
  refine lw_x (q := 780) dL_law_779 rfl ?_
  refine lw_script (q := 781) dL_law_780 rfl ?_
  refine lw_i (q := 782) dL_law_781 rfl ?_
  refine lw_iconst (v := 1) (q := 783) dL_law_782 mci_1 rfl ?_
  refine lw_iadd (q := 784) dL_law_783 rfl ?_
  refine lw_sld (j := i + 1) (q := 785) (nI_add i 1) (by omega) hL dL_law_784 rfl ?_
  refine lw_script (q := 786) dL_law_785 rfl ?_
  refine lw_i (q := 787) dL_law_786 rfl ?_
  refine lw_iconst (v := 2) (q := 788) dL_law_787 mci_2 rfl ?_
  refine lw_iadd (q := 789) dL_law_788 rfl ?_
  refine lw_sld (j := i + 2) (q := 790) (nI_add i 2) (by omega) hL dL_law_789 rfl ?_
  refine lw_script (q := 791) dL_law_790 rfl ?_
  refine lw_i (q := 792) dL_law_791 rfl ?_
  refine lw_iconst (v := 3) (q := 793) dL_law_792 mci_3 rfl ?_
  refine lw_iadd (q := 794) dL_law_793 rfl ?_
  refine lw_sld (j := i + 3) (q := 795) (nI_add i 3) (by omega) hL dL_law_794 rfl ?_
  refine lw_callX (q := 798) kX6_heights mw_i_X6_heights mw_s_X6_heights mw_m_RL_94 rfl (r_X6_heights hX) rfl (fun _ _ _ => rfl) (fun _ _ => rfl) rfl (Nat.le_of_ble_eq_true rfl) (by decide) dL_law_795 rfl (fun v f1 g1 hp => ?_)
  obtain ⟨rfl, rfl, rfl⟩ := hp
  refine ⟨rfl, ?_⟩
  refine lw_m (q := 799) dL_law_798 rfl ?_
  refine lw_script (q := 800) dL_law_799 rfl ?_
  refine lw_i (q := 801) dL_law_800 rfl ?_
  refine lw_iconst (v := 1) (q := 802) dL_law_801 mci_1 rfl ?_
  refine lw_iadd (q := 803) dL_law_802 rfl ?_
  refine lw_sld (j := i + 1) (q := 804) (nI_add i 1) (by omega) hL dL_law_803 rfl ?_
  refine lw_script (q := 805) dL_law_804 rfl ?_
  refine lw_i (q := 806) dL_law_805 rfl ?_
  refine lw_iconst (v := 2) (q := 807) dL_law_806 mci_2 rfl ?_
  refine lw_iadd (q := 808) dL_law_807 rfl ?_
  refine lw_sld (j := i + 2) (q := 809) (nI_add i 2) (by omega) hL dL_law_808 rfl ?_
  refine lw_script (q := 810) dL_law_809 rfl ?_
  refine lw_i (q := 811) dL_law_810 rfl ?_
  refine lw_iconst (v := 3) (q := 812) dL_law_811 mci_3 rfl ?_
  refine lw_iadd (q := 813) dL_law_812 rfl ?_
  refine lw_sld (j := i + 3) (q := 814) (nI_add i 3) (by omega) hL dL_law_813 rfl ?_
  refine lw_callM (q := 817) kX7_heights mw_i_X7_heights mw_s_X7_heights mw_m_RL_97 rfl (r_X7_heights hM) rfl (fun _ _ _ => rfl) (fun _ _ => rfl) rfl (Nat.le_of_ble_eq_true rfl) (by decide) dL_law_814 rfl (fun v f1 g1 hp => ?_)
  obtain ⟨rfl, rfl, rfl⟩ := hp
  refine lw_eq (q := 1373) hr dL_law_817 rfl ?_
  exact kn _ _ _ hR2
theorem lc_shade {R : mj_I → mj_I → mj_L → Prop} (hs : ls_shade R) {L i : Nat} {xs : Nat → Int32} (hL : L ≤ 448) (hi : i + 7 ≤ L) {fX fM : mj_I} {gM : mj_L} (hR : R fX fM gM) (kn : ∀ (fX fM : mj_I) (gM : mj_L), R fX fM gM → lw_Ev L xs 1373 (nI i) [] fX fM gM) : lw_Ev L xs 822 (nI i) [] fX fM gM := by
  obtain ⟨oX, oM, hX, hM, hr, hR2⟩ := hs fX fM gM hR (xs (i + 1)) (xs (i + 2))
  refine lw_x (q := 823) dL_law_822 rfl ?_
  refine lw_script (q := 824) dL_law_823 rfl ?_
  refine lw_i (q := 825) dL_law_824 rfl ?_
  refine lw_iconst (v := 1) (q := 826) dL_law_825 mci_1 rfl ?_
  refine lw_iadd (q := 827) dL_law_826 rfl ?_
  refine lw_sld (j := i + 1) (q := 828) (nI_add i 1) (by omega) hL dL_law_827 rfl ?_
  refine lw_script (q := 829) dL_law_828 rfl ?_
  refine lw_i (q := 830) dL_law_829 rfl ?_
  refine lw_iconst (v := 2) (q := 831) dL_law_830 mci_2 rfl ?_
  refine lw_iadd (q := 832) dL_law_831 rfl ?_
  refine lw_sld (j := i + 2) (q := 833) (nI_add i 2) (by omega) hL dL_law_832 rfl ?_
  refine lw_callX (q := 836) kX6_shade mw_i_X6_shade mw_s_X6_shade mw_m_RL_98 rfl (r_X6_shade hX) rfl (fun _ _ _ => rfl) (fun _ _ => rfl) rfl (Nat.le_of_ble_eq_true rfl) (by decide) dL_law_833 rfl (fun v f1 g1 hp => ?_)
  obtain ⟨rfl, rfl, rfl⟩ := hp
  refine ⟨rfl, ?_⟩
  refine lw_m (q := 837) dL_law_836 rfl ?_
  refine lw_script (q := 838) dL_law_837 rfl ?_
  refine lw_i (q := 839) dL_law_838 rfl ?_
  refine lw_iconst (v := 1) (q := 840) dL_law_839 mci_1 rfl ?_
  refine lw_iadd (q := 841) dL_law_840 rfl ?_
  refine lw_sld (j := i + 1) (q := 842) (nI_add i 1) (by omega) hL dL_law_841 rfl ?_
  refine lw_script (q := 843) dL_law_842 rfl ?_
  refine lw_i (q := 844) dL_law_843 rfl ?_
  refine lw_iconst (v := 2) (q := 845) dL_law_844 mci_2 rfl ?_
  refine lw_iadd (q := 846) dL_law_845 rfl ?_
  refine lw_sld (j := i + 2) (q := 847) (nI_add i 2) (by omega) hL dL_law_846 rfl ?_
  refine lw_callM (q := 850) kX7_shade mw_i_X7_shade mw_s_X7_shade mw_m_RL_101 rfl (r_X7_shade hM) rfl (fun _ _ _ => rfl) (fun _ _ => rfl) rfl (Nat.le_of_ble_eq_true rfl) (by decide) dL_law_847 rfl (fun v f1 g1 hp => ?_)
  obtain ⟨rfl, rfl, rfl⟩ := hp
  refine lw_eq (q := 1373) hr dL_law_850 rfl ?_
  exact kn _ _ _ hR2
theorem lc_dew {R : mj_I → mj_I → mj_L → Prop} (hs : ls_dew R) {L i : Nat} {xs : Nat → Int32} (hL : L ≤ 448) (hi : i + 7 ≤ L) {fX fM : mj_I} {gM : mj_L} (hR : R fX fM gM) (kn : ∀ (fX fM : mj_I) (gM : mj_L), R fX fM gM → lw_Ev L xs 1373 (nI i) [] fX fM gM) : lw_Ev L xs 855 (nI i) [] fX fM gM := by
  obtain ⟨oX, oM, hX, hM, hr, hR2⟩ := hs fX fM gM hR (xs (i + 1)) (xs (i + 2)) (xs (i + 3))
  refine lw_x (q := 856) dL_law_855 rfl ?_
  refine lw_script (q := 857) dL_law_856 rfl ?_
  refine lw_i (q := 858) dL_law_857 rfl ?_
  refine lw_iconst (v := 1) (q := 859) dL_law_858 mci_1 rfl ?_
  refine lw_iadd (q := 860) dL_law_859 rfl ?_
  refine lw_sld (j := i + 1) (q := 861) (nI_add i 1) (by omega) hL dL_law_860 rfl ?_
  refine lw_script (q := 862) dL_law_861 rfl ?_
  refine lw_i (q := 863) dL_law_862 rfl ?_
  refine lw_iconst (v := 2) (q := 864) dL_law_863 mci_2 rfl ?_
  refine lw_iadd (q := 865) dL_law_864 rfl ?_
  refine lw_sld (j := i + 2) (q := 866) (nI_add i 2) (by omega) hL dL_law_865 rfl ?_
  refine lw_script (q := 867) dL_law_866 rfl ?_
  refine lw_i (q := 868) dL_law_867 rfl ?_
  refine lw_iconst (v := 3) (q := 869) dL_law_868 mci_3 rfl ?_
  refine lw_iadd (q := 870) dL_law_869 rfl ?_
  refine lw_sld (j := i + 3) (q := 871) (nI_add i 3) (by omega) hL dL_law_870 rfl ?_
  refine lw_callX (q := 874) kX6_dew mw_i_X6_dew mw_s_X6_dew mw_m_RL_102 rfl (r_X6_dew hX) rfl (fun _ _ _ => rfl) (fun _ _ => rfl) rfl (Nat.le_of_ble_eq_true rfl) (by decide) dL_law_871 rfl (fun v f1 g1 hp => ?_)
  obtain ⟨rfl, rfl, rfl⟩ := hp
  refine ⟨rfl, ?_⟩
  refine lw_m (q := 875) dL_law_874 rfl ?_
  refine lw_script (q := 876) dL_law_875 rfl ?_
  refine lw_i (q := 877) dL_law_876 rfl ?_
  refine lw_iconst (v := 1) (q := 878) dL_law_877 mci_1 rfl ?_
  refine lw_iadd (q := 879) dL_law_878 rfl ?_
  refine lw_sld (j := i + 1) (q := 880) (nI_add i 1) (by omega) hL dL_law_879 rfl ?_
  refine lw_script (q := 881) dL_law_880 rfl ?_
  refine lw_i (q := 882) dL_law_881 rfl ?_
  refine lw_iconst (v := 2) (q := 883) dL_law_882 mci_2 rfl ?_
  refine lw_iadd (q := 884) dL_law_883 rfl ?_
  refine lw_sld (j := i + 2) (q := 885) (nI_add i 2) (by omega) hL dL_law_884 rfl ?_
  refine lw_script (q := 886) dL_law_885 rfl ?_
  refine lw_i (q := 887) dL_law_886 rfl ?_
  refine lw_iconst (v := 3) (q := 888) dL_law_887 mci_3 rfl ?_
  refine lw_iadd (q := 889) dL_law_888 rfl ?_
  refine lw_sld (j := i + 3) (q := 890) (nI_add i 3) (by omega) hL dL_law_889 rfl ?_
  refine lw_callM (q := 893) kX7_dew mw_i_X7_dew mw_s_X7_dew mw_m_RL_105 rfl (r_X7_dew hM) rfl (fun _ _ _ => rfl) (fun _ _ => rfl) rfl (Nat.le_of_ble_eq_true rfl) (by decide) dL_law_890 rfl (fun v f1 g1 hp => ?_)
  obtain ⟨rfl, rfl, rfl⟩ := hp
  refine lw_eq (q := 1373) hr dL_law_893 rfl ?_
  exact kn _ _ _ hR2
theorem lc_lost {R : mj_I → mj_I → mj_L → Prop} (hs : ls_lost R) {L i : Nat} {xs : Nat → Int32} (hL : L ≤ 448) (hi : i + 7 ≤ L) {fX fM : mj_I} {gM : mj_L} (hR : R fX fM gM) (kn : ∀ (fX fM : mj_I) (gM : mj_L), R fX fM gM → lw_Ev L xs 1373 (nI i) [] fX fM gM) : lw_Ev L xs 898 (nI i) [] fX fM gM := by
  obtain ⟨oX, oM, hX, hM, hr, hR2⟩ := hs fX fM gM hR (xs (i + 1)) (xs (i + 2)) (xs (i + 3)) (xs (i + 4)) (xs (i + 5)) (xs (i + 6))
  refine lw_x (q := 899) dL_law_898 rfl ?_
  refine lw_script (q := 900) dL_law_899 rfl ?_
  refine lw_i (q := 901) dL_law_900 rfl ?_
  refine lw_iconst (v := 1) (q := 902) dL_law_901 mci_1 rfl ?_
  refine lw_iadd (q := 903) dL_law_902 rfl ?_
  refine lw_sld (j := i + 1) (q := 904) (nI_add i 1) (by omega) hL dL_law_903 rfl ?_
  refine lw_script (q := 905) dL_law_904 rfl ?_
  refine lw_i (q := 906) dL_law_905 rfl ?_
  refine lw_iconst (v := 2) (q := 907) dL_law_906 mci_2 rfl ?_
  refine lw_iadd (q := 908) dL_law_907 rfl ?_
  refine lw_sld (j := i + 2) (q := 909) (nI_add i 2) (by omega) hL dL_law_908 rfl ?_
  refine lw_script (q := 910) dL_law_909 rfl ?_
  refine lw_i (q := 911) dL_law_910 rfl ?_
  refine lw_iconst (v := 3) (q := 912) dL_law_911 mci_3 rfl ?_
  refine lw_iadd (q := 913) dL_law_912 rfl ?_
  refine lw_sld (j := i + 3) (q := 914) (nI_add i 3) (by omega) hL dL_law_913 rfl ?_
  refine lw_script (q := 915) dL_law_914 rfl ?_
  refine lw_i (q := 916) dL_law_915 rfl ?_
  refine lw_iconst (v := 4) (q := 917) dL_law_916 mci_4 rfl ?_
  refine lw_iadd (q := 918) dL_law_917 rfl ?_
  refine lw_sld (j := i + 4) (q := 919) (nI_add i 4) (by omega) hL dL_law_918 rfl ?_
  refine lw_script (q := 920) dL_law_919 rfl ?_
  refine lw_i (q := 921) dL_law_920 rfl ?_
  refine lw_iconst (v := 5) (q := 922) dL_law_921 mci_5 rfl ?_
  refine lw_iadd (q := 923) dL_law_922 rfl ?_
  refine lw_sld (j := i + 5) (q := 924) (nI_add i 5) (by omega) hL dL_law_923 rfl ?_
  refine lw_script (q := 925) dL_law_924 rfl ?_
  refine lw_i (q := 926) dL_law_925 rfl ?_
  refine lw_bipush (v := 6) (q := 928) dL_law_926 mcb_6 rfl ?_
  refine lw_iadd (q := 929) dL_law_928 rfl ?_
  refine lw_sld (j := i + 6) (q := 930) (nI_add i 6) (by omega) hL dL_law_929 rfl ?_
  refine lw_callX (q := 933) kX6_lost mw_i_X6_lost mw_s_X6_lost mw_m_RL_106 rfl (r_X6_lost hX) rfl (fun _ _ _ => rfl) (fun _ _ => rfl) rfl (Nat.le_of_ble_eq_true rfl) (by decide) dL_law_930 rfl (fun v f1 g1 hp => ?_)
  obtain ⟨rfl, rfl, rfl⟩ := hp
  refine ⟨rfl, ?_⟩
  refine lw_m (q := 934) dL_law_933 rfl ?_
  refine lw_script (q := 935) dL_law_934 rfl ?_
  refine lw_i (q := 936) dL_law_935 rfl ?_
  refine lw_iconst (v := 1) (q := 937) dL_law_936 mci_1 rfl ?_
  refine lw_iadd (q := 938) dL_law_937 rfl ?_
  refine lw_sld (j := i + 1) (q := 939) (nI_add i 1) (by omega) hL dL_law_938 rfl ?_
  refine lw_script (q := 940) dL_law_939 rfl ?_
  refine lw_i (q := 941) dL_law_940 rfl ?_
  refine lw_iconst (v := 2) (q := 942) dL_law_941 mci_2 rfl ?_
  refine lw_iadd (q := 943) dL_law_942 rfl ?_
  refine lw_sld (j := i + 2) (q := 944) (nI_add i 2) (by omega) hL dL_law_943 rfl ?_
  refine lw_script (q := 945) dL_law_944 rfl ?_
  refine lw_i (q := 946) dL_law_945 rfl ?_
  refine lw_iconst (v := 3) (q := 947) dL_law_946 mci_3 rfl ?_
  refine lw_iadd (q := 948) dL_law_947 rfl ?_
  refine lw_sld (j := i + 3) (q := 949) (nI_add i 3) (by omega) hL dL_law_948 rfl ?_
  refine lw_script (q := 950) dL_law_949 rfl ?_
  refine lw_i (q := 951) dL_law_950 rfl ?_
  refine lw_iconst (v := 4) (q := 952) dL_law_951 mci_4 rfl ?_
  refine lw_iadd (q := 953) dL_law_952 rfl ?_
  refine lw_sld (j := i + 4) (q := 954) (nI_add i 4) (by omega) hL dL_law_953 rfl ?_
  refine lw_script (q := 955) dL_law_954 rfl ?_
  refine lw_i (q := 956) dL_law_955 rfl ?_
  refine lw_iconst (v := 5) (q := 957) dL_law_956 mci_5 rfl ?_
  refine lw_iadd (q := 958) dL_law_957 rfl ?_
  refine lw_sld (j := i + 5) (q := 959) (nI_add i 5) (by omega) hL dL_law_958 rfl ?_
  refine lw_script (q := 960) dL_law_959 rfl ?_
  refine lw_i (q := 961) dL_law_960 rfl ?_
  refine lw_bipush (v := 6) (q := 963) dL_law_961 mcb_6 rfl ?_
  refine lw_iadd (q := 964) dL_law_963 rfl ?_
  refine lw_sld (j := i + 6) (q := 965) (nI_add i 6) (by omega) hL dL_law_964 rfl ?_
  refine lw_callM (q := 968) kX7_lost mw_i_X7_lost mw_s_X7_lost mw_m_RL_110 rfl (r_X7_lost hM) rfl (fun _ _ _ => rfl) (fun _ _ => rfl) rfl (Nat.le_of_ble_eq_true rfl) (by decide) dL_law_965 rfl (fun v f1 g1 hp => ?_)
  obtain ⟨rfl, rfl, rfl⟩ := hp
  refine lw_eq (q := 1373) hr dL_law_968 rfl ?_
  exact kn _ _ _ hR2
theorem lc_kite {R : mj_I → mj_I → mj_L → Prop} (hs : ls_kite R) {L i : Nat} {xs : Nat → Int32} (hL : L ≤ 448) (hi : i + 7 ≤ L) {fX fM : mj_I} {gM : mj_L} (hR : R fX fM gM) (kn : ∀ (fX fM : mj_I) (gM : mj_L), R fX fM gM → lw_Ev L xs 1373 (nI i) [] fX fM gM) : lw_Ev L xs 973 (nI i) [] fX fM gM := by
  obtain ⟨oX, oM, hX, hM, hr, hR2⟩ := hs fX fM gM hR (xs (i + 1)) (xs (i + 2)) (xs (i + 3)) (xs (i + 4))
  refine lw_x (q := 974) dL_law_973 rfl ?_
  refine lw_script (q := 975) dL_law_974 rfl ?_
  refine lw_i (q := 976) dL_law_975 rfl ?_
  refine lw_iconst (v := 1) (q := 977) dL_law_976 mci_1 rfl ?_
  refine lw_iadd (q := 978) dL_law_977 rfl ?_
  refine lw_sld (j := i + 1) (q := 979) (nI_add i 1) (by omega) hL dL_law_978 rfl ?_
  refine lw_script (q := 980) dL_law_979 rfl ?_
  refine lw_i (q := 981) dL_law_980 rfl ?_
  refine lw_iconst (v := 2) (q := 982) dL_law_981 mci_2 rfl ?_
  refine lw_iadd (q := 983) dL_law_982 rfl ?_
  refine lw_sld (j := i + 2) (q := 984) (nI_add i 2) (by omega) hL dL_law_983 rfl ?_
  refine lw_script (q := 985) dL_law_984 rfl ?_
  refine lw_i (q := 986) dL_law_985 rfl ?_
  refine lw_iconst (v := 3) (q := 987) dL_law_986 mci_3 rfl ?_
  refine lw_iadd (q := 988) dL_law_987 rfl ?_
  refine lw_sld (j := i + 3) (q := 989) (nI_add i 3) (by omega) hL dL_law_988 rfl ?_
  refine lw_script (q := 990) dL_law_989 rfl ?_
  refine lw_i (q := 991) dL_law_990 rfl ?_
  refine lw_iconst (v := 4) (q := 992) dL_law_991 mci_4 rfl ?_
  refine lw_iadd (q := 993) dL_law_992 rfl ?_
  refine lw_sld (j := i + 4) (q := 994) (nI_add i 4) (by omega) hL dL_law_993 rfl ?_
  refine lw_callX (q := 997) kX6_kite mw_i_X6_kite mw_s_X6_kite mw_m_RL_111 rfl (r_X6_kite hX) rfl (fun _ _ _ => rfl) (fun _ _ => rfl) rfl (Nat.le_of_ble_eq_true rfl) (by decide) dL_law_994 rfl (fun v f1 g1 hp => ?_)
  obtain ⟨rfl, rfl, rfl⟩ := hp
  refine ⟨rfl, ?_⟩
  refine lw_m (q := 998) dL_law_997 rfl ?_
  refine lw_script (q := 999) dL_law_998 rfl ?_
  refine lw_i (q := 1000) dL_law_999 rfl ?_
  refine lw_iconst (v := 1) (q := 1001) dL_law_1000 mci_1 rfl ?_
  refine lw_iadd (q := 1002) dL_law_1001 rfl ?_
  refine lw_sld (j := i + 1) (q := 1003) (nI_add i 1) (by omega) hL dL_law_1002 rfl ?_
  refine lw_script (q := 1004) dL_law_1003 rfl ?_
  refine lw_i (q := 1005) dL_law_1004 rfl ?_
  refine lw_iconst (v := 2) (q := 1006) dL_law_1005 mci_2 rfl ?_
  refine lw_iadd (q := 1007) dL_law_1006 rfl ?_
  refine lw_sld (j := i + 2) (q := 1008) (nI_add i 2) (by omega) hL dL_law_1007 rfl ?_
  refine lw_script (q := 1009) dL_law_1008 rfl ?_
  refine lw_i (q := 1010) dL_law_1009 rfl ?_
  refine lw_iconst (v := 3) (q := 1011) dL_law_1010 mci_3 rfl ?_
  refine lw_iadd (q := 1012) dL_law_1011 rfl ?_
  refine lw_sld (j := i + 3) (q := 1013) (nI_add i 3) (by omega) hL dL_law_1012 rfl ?_
  refine lw_script (q := 1014) dL_law_1013 rfl ?_
  refine lw_i (q := 1015) dL_law_1014 rfl ?_
  refine lw_iconst (v := 4) (q := 1016) dL_law_1015 mci_4 rfl ?_
  refine lw_iadd (q := 1017) dL_law_1016 rfl ?_
  refine lw_sld (j := i + 4) (q := 1018) (nI_add i 4) (by omega) hL dL_law_1017 rfl ?_
  refine lw_callM (q := 1021) kX7_kite mw_i_X7_kite mw_s_X7_kite mw_m_RL_115 rfl (r_X7_kite hM) rfl (fun _ _ _ => rfl) (fun _ _ => rfl) rfl (Nat.le_of_ble_eq_true rfl) (by decide) dL_law_1018 rfl (fun v f1 g1 hp => ?_)
  obtain ⟨rfl, rfl, rfl⟩ := hp
  refine lw_eq (q := 1373) hr dL_law_1021 rfl ?_
  exact kn _ _ _ hR2
theorem lc_tuesday {R : mj_I → mj_I → mj_L → Prop} (hs : ls_tuesday R) {L i : Nat} {xs : Nat → Int32} (hL : L ≤ 448) (hi : i + 7 ≤ L) {fX fM : mj_I} {gM : mj_L} (hR : R fX fM gM) (kn : ∀ (fX fM : mj_I) (gM : mj_L), R fX fM gM → lw_Ev L xs 1373 (nI i) [] fX fM gM) : lw_Ev L xs 1026 (nI i) [] fX fM gM := by
  obtain ⟨oX, oM, hX, hM, hr, hR2⟩ := hs fX fM gM hR (xs (i + 1)) (xs (i + 2)) (xs (i + 3)) (xs (i + 4))
  refine lw_x (q := 1027) dL_law_1026 rfl ?_
  refine lw_script (q := 1028) dL_law_1027 rfl ?_
  refine lw_i (q := 1029) dL_law_1028 rfl ?_
  refine lw_iconst (v := 1) (q := 1030) dL_law_1029 mci_1 rfl ?_
  refine lw_iadd (q := 1031) dL_law_1030 rfl ?_
  refine lw_sld (j := i + 1) (q := 1032) (nI_add i 1) (by omega) hL dL_law_1031 rfl ?_
  refine lw_script (q := 1033) dL_law_1032 rfl ?_
  refine lw_i (q := 1034) dL_law_1033 rfl ?_
  refine lw_iconst (v := 2) (q := 1035) dL_law_1034 mci_2 rfl ?_
  refine lw_iadd (q := 1036) dL_law_1035 rfl ?_
  refine lw_sld (j := i + 2) (q := 1037) (nI_add i 2) (by omega) hL dL_law_1036 rfl ?_
  refine lw_script (q := 1038) dL_law_1037 rfl ?_
  refine lw_i (q := 1039) dL_law_1038 rfl ?_
  refine lw_iconst (v := 3) (q := 1040) dL_law_1039 mci_3 rfl ?_
  refine lw_iadd (q := 1041) dL_law_1040 rfl ?_
  refine lw_sld (j := i + 3) (q := 1042) (nI_add i 3) (by omega) hL dL_law_1041 rfl ?_
  refine lw_script (q := 1043) dL_law_1042 rfl ?_
  refine lw_i (q := 1044) dL_law_1043 rfl ?_
  refine lw_iconst (v := 4) (q := 1045) dL_law_1044 mci_4 rfl ?_
  refine lw_iadd (q := 1046) dL_law_1045 rfl ?_
  refine lw_sld (j := i + 4) (q := 1047) (nI_add i 4) (by omega) hL dL_law_1046 rfl ?_
  refine lw_callX (q := 1050) kX6_tuesday mw_i_X6_tuesday mw_s_X6_tuesday mw_m_RL_116 rfl (r_X6_tuesday hX) rfl (fun _ _ _ => rfl) (fun _ _ => rfl) rfl (Nat.le_of_ble_eq_true rfl) (by decide) dL_law_1047 rfl (fun v f1 g1 hp => ?_)
  obtain ⟨rfl, rfl, rfl⟩ := hp
  refine ⟨rfl, ?_⟩
  refine lw_m (q := 1051) dL_law_1050 rfl ?_
  refine lw_script (q := 1052) dL_law_1051 rfl ?_
  refine lw_i (q := 1053) dL_law_1052 rfl ?_
  refine lw_iconst (v := 1) (q := 1054) dL_law_1053 mci_1 rfl ?_
  refine lw_iadd (q := 1055) dL_law_1054 rfl ?_
  refine lw_sld (j := i + 1) (q := 1056) (nI_add i 1) (by omega) hL dL_law_1055 rfl ?_
  refine lw_script (q := 1057) dL_law_1056 rfl ?_
  refine lw_i (q := 1058) dL_law_1057 rfl ?_
  refine lw_iconst (v := 2) (q := 1059) dL_law_1058 mci_2 rfl ?_
  refine lw_iadd (q := 1060) dL_law_1059 rfl ?_
  refine lw_sld (j := i + 2) (q := 1061) (nI_add i 2) (by omega) hL dL_law_1060 rfl ?_
  refine lw_script (q := 1062) dL_law_1061 rfl ?_
  refine lw_i (q := 1063) dL_law_1062 rfl ?_
  refine lw_iconst (v := 3) (q := 1064) dL_law_1063 mci_3 rfl ?_
  refine lw_iadd (q := 1065) dL_law_1064 rfl ?_
  refine lw_sld (j := i + 3) (q := 1066) (nI_add i 3) (by omega) hL dL_law_1065 rfl ?_
  refine lw_script (q := 1067) dL_law_1066 rfl ?_
  refine lw_i (q := 1068) dL_law_1067 rfl ?_
  refine lw_iconst (v := 4) (q := 1069) dL_law_1068 mci_4 rfl ?_
  refine lw_iadd (q := 1070) dL_law_1069 rfl ?_
  refine lw_sld (j := i + 4) (q := 1071) (nI_add i 4) (by omega) hL dL_law_1070 rfl ?_
  refine lw_callM (q := 1074) kX7_tuesday mw_i_X7_tuesday mw_s_X7_tuesday mw_m_RL_119 rfl (r_X7_tuesday hM) rfl (fun _ _ _ => rfl) (fun _ _ => rfl) rfl (Nat.le_of_ble_eq_true rfl) (by decide) dL_law_1071 rfl (fun v f1 g1 hp => ?_)
  obtain ⟨rfl, rfl, rfl⟩ := hp
  refine lw_eq (q := 1373) hr dL_law_1074 rfl ?_
  exact kn _ _ _ hR2
theorem lc_guards {R : mj_I → mj_I → mj_L → Prop} (hs : ls_guards R) {L i : Nat} {xs : Nat → Int32} (hL : L ≤ 448) (hi : i + 7 ≤ L) {fX fM : mj_I} {gM : mj_L} (hR : R fX fM gM) (kn : ∀ (fX fM : mj_I) (gM : mj_L), R fX fM gM → lw_Ev L xs 1373 (nI i) [] fX fM gM) : lw_Ev L xs 1079 (nI i) [] fX fM gM := by
  obtain ⟨oX, oM, hX, hM, hr, hR2⟩ := hs fX fM gM hR (xs (i + 1)) (xs (i + 2))
  refine lw_x (q := 1080) dL_law_1079 rfl ?_
  refine lw_script (q := 1081) dL_law_1080 rfl ?_
  refine lw_i (q := 1082) dL_law_1081 rfl ?_
  refine lw_iconst (v := 1) (q := 1083) dL_law_1082 mci_1 rfl ?_
  refine lw_iadd (q := 1084) dL_law_1083 rfl ?_
  refine lw_sld (j := i + 1) (q := 1085) (nI_add i 1) (by omega) hL dL_law_1084 rfl ?_
  refine lw_script (q := 1086) dL_law_1085 rfl ?_
  refine lw_i (q := 1087) dL_law_1086 rfl ?_
  refine lw_iconst (v := 2) (q := 1088) dL_law_1087 mci_2 rfl ?_
  refine lw_iadd (q := 1089) dL_law_1088 rfl ?_
  refine lw_sld (j := i + 2) (q := 1090) (nI_add i 2) (by omega) hL dL_law_1089 rfl ?_
  refine lw_callX (q := 1093) kX6_guards mw_i_X6_guards mw_s_X6_guards mw_m_RL_120 rfl (r_X6_guards hX) rfl (fun _ _ _ => rfl) (fun _ _ => rfl) rfl (Nat.le_of_ble_eq_true rfl) (by decide) dL_law_1090 rfl (fun v f1 g1 hp => ?_)
  obtain ⟨rfl, rfl, rfl⟩ := hp
  refine ⟨rfl, ?_⟩
  refine lw_m (q := 1094) dL_law_1093 rfl ?_
  refine lw_script (q := 1095) dL_law_1094 rfl ?_
  refine lw_i (q := 1096) dL_law_1095 rfl ?_
  refine lw_iconst (v := 1) (q := 1097) dL_law_1096 mci_1 rfl ?_
  refine lw_iadd (q := 1098) dL_law_1097 rfl ?_
  refine lw_sld (j := i + 1) (q := 1099) (nI_add i 1) (by omega) hL dL_law_1098 rfl ?_
  refine lw_script (q := 1100) dL_law_1099 rfl ?_
  refine lw_i (q := 1101) dL_law_1100 rfl ?_
  refine lw_iconst (v := 2) (q := 1102) dL_law_1101 mci_2 rfl ?_
  refine lw_iadd (q := 1103) dL_law_1102 rfl ?_
  refine lw_sld (j := i + 2) (q := 1104) (nI_add i 2) (by omega) hL dL_law_1103 rfl ?_
  refine lw_callM (q := 1107) kX7_guards mw_i_X7_guards mw_s_X7_guards mw_m_RL_123 rfl (r_X7_guards hM) rfl (fun _ _ _ => rfl) (fun _ _ => rfl) rfl (Nat.le_of_ble_eq_true rfl) (by decide) dL_law_1104 rfl (fun v f1 g1 hp => ?_)
  obtain ⟨rfl, rfl, rfl⟩ := hp
  refine lw_eq (q := 1373) hr dL_law_1107 rfl ?_
  exact kn _ _ _ hR2
theorem lc_guardsValue {R : mj_I → mj_I → mj_L → Prop} (hs : ls_guardsValue R) {L i : Nat} {xs : Nat → Int32} (hL : L ≤ 448) (hi : i + 7 ≤ L) {fX fM : mj_I} {gM : mj_L} (hR : R fX fM gM) (kn : ∀ (fX fM : mj_I) (gM : mj_L), R fX fM gM → lw_Ev L xs 1373 (nI i) [] fX fM gM) : lw_Ev L xs 1112 (nI i) [] fX fM gM := by
  obtain ⟨oX, oM, hX, hM, hr, hR2⟩ := hs fX fM gM hR (xs (i + 1)) (xs (i + 2)) (xs (i + 3))
  refine lw_x (q := 1113) dL_law_1112 rfl ?_
  refine lw_script (q := 1114) dL_law_1113 rfl ?_
  refine lw_i (q := 1115) dL_law_1114 rfl ?_
  refine lw_iconst (v := 1) (q := 1116) dL_law_1115 mci_1 rfl ?_
  refine lw_iadd (q := 1117) dL_law_1116 rfl ?_
  refine lw_sld (j := i + 1) (q := 1118) (nI_add i 1) (by omega) hL dL_law_1117 rfl ?_
  refine lw_script (q := 1119) dL_law_1118 rfl ?_
  refine lw_i (q := 1120) dL_law_1119 rfl ?_
  refine lw_iconst (v := 2) (q := 1121) dL_law_1120 mci_2 rfl ?_
  refine lw_iadd (q := 1122) dL_law_1121 rfl ?_
  refine lw_sld (j := i + 2) (q := 1123) (nI_add i 2) (by omega) hL dL_law_1122 rfl ?_
  refine lw_script (q := 1124) dL_law_1123 rfl ?_
  refine lw_i (q := 1125) dL_law_1124 rfl ?_
  refine lw_iconst (v := 3) (q := 1126) dL_law_1125 mci_3 rfl ?_
  refine lw_iadd (q := 1127) dL_law_1126 rfl ?_
  refine lw_sld (j := i + 3) (q := 1128) (nI_add i 3) (by omega) hL dL_law_1127 rfl ?_
  refine lw_callX (q := 1131) kX6_guardsValue mw_i_X6_guardsValue mw_s_X6_guardsValue mw_m_RL_124 rfl (r_X6_guardsValue hX) rfl (fun _ _ _ => rfl) (fun _ _ => rfl) rfl (Nat.le_of_ble_eq_true rfl) (by decide) dL_law_1128 rfl (fun v f1 g1 hp => ?_)
  obtain ⟨rfl, rfl, rfl⟩ := hp
  refine ⟨rfl, ?_⟩
  refine lw_m (q := 1132) dL_law_1131 rfl ?_
  refine lw_script (q := 1133) dL_law_1132 rfl ?_
  refine lw_i (q := 1134) dL_law_1133 rfl ?_
  refine lw_iconst (v := 1) (q := 1135) dL_law_1134 mci_1 rfl ?_
  refine lw_iadd (q := 1136) dL_law_1135 rfl ?_
  refine lw_sld (j := i + 1) (q := 1137) (nI_add i 1) (by omega) hL dL_law_1136 rfl ?_
  refine lw_script (q := 1138) dL_law_1137 rfl ?_
  refine lw_i (q := 1139) dL_law_1138 rfl ?_
  refine lw_iconst (v := 2) (q := 1140) dL_law_1139 mci_2 rfl ?_
  refine lw_iadd (q := 1141) dL_law_1140 rfl ?_
  refine lw_sld (j := i + 2) (q := 1142) (nI_add i 2) (by omega) hL dL_law_1141 rfl ?_
  refine lw_script (q := 1143) dL_law_1142 rfl ?_
  refine lw_i (q := 1144) dL_law_1143 rfl ?_
  refine lw_iconst (v := 3) (q := 1145) dL_law_1144 mci_3 rfl ?_
  refine lw_iadd (q := 1146) dL_law_1145 rfl ?_
  refine lw_sld (j := i + 3) (q := 1147) (nI_add i 3) (by omega) hL dL_law_1146 rfl ?_
  refine lw_callM (q := 1150) kX7_guardsValue mw_i_X7_guardsValue mw_s_X7_guardsValue mw_m_RL_128 rfl (r_X7_guardsValue hM) rfl (fun _ _ _ => rfl) (fun _ _ => rfl) rfl (Nat.le_of_ble_eq_true rfl) (by decide) dL_law_1147 rfl (fun v f1 g1 hp => ?_)
  obtain ⟨rfl, rfl, rfl⟩ := hp
  refine lw_lcmp (q := 1151) dL_law_1150 rfl ?_
  refine lw_eq0 (q := 1373) (lw_cmp0 hr) dL_law_1151 rfl ?_
  exact kn _ _ _ hR2
theorem lc_dues {R : mj_I → mj_I → mj_L → Prop} (hs : ls_dues R) {L i : Nat} {xs : Nat → Int32} (hL : L ≤ 448) (hi : i + 7 ≤ L) {fX fM : mj_I} {gM : mj_L} (hR : R fX fM gM) (kn : ∀ (fX fM : mj_I) (gM : mj_L), R fX fM gM → lw_Ev L xs 1373 (nI i) [] fX fM gM) : lw_Ev L xs 1156 (nI i) [] fX fM gM := by
  obtain ⟨oX, oM, hX, hM, hr, hR2⟩ := hs fX fM gM hR (xs (i + 1))
  refine lw_x (q := 1157) dL_law_1156 rfl ?_
  refine lw_script (q := 1158) dL_law_1157 rfl ?_
  refine lw_i (q := 1159) dL_law_1158 rfl ?_
  refine lw_iconst (v := 1) (q := 1160) dL_law_1159 mci_1 rfl ?_
  refine lw_iadd (q := 1161) dL_law_1160 rfl ?_
  refine lw_sld (j := i + 1) (q := 1162) (nI_add i 1) (by omega) hL dL_law_1161 rfl ?_
  refine lw_callX (q := 1165) kX6_dues mw_i_X6_dues mw_s_X6_dues mw_m_RL_129 rfl (r_X6_dues hX) rfl (fun _ _ _ => rfl) (fun _ _ => rfl) rfl (Nat.le_of_ble_eq_true rfl) (by decide) dL_law_1162 rfl (fun v f1 g1 hp => ?_)
  obtain ⟨rfl, rfl, rfl⟩ := hp
  refine ⟨rfl, ?_⟩
  refine lw_m (q := 1166) dL_law_1165 rfl ?_
  refine lw_script (q := 1167) dL_law_1166 rfl ?_
  refine lw_i (q := 1168) dL_law_1167 rfl ?_
  refine lw_iconst (v := 1) (q := 1169) dL_law_1168 mci_1 rfl ?_
  refine lw_iadd (q := 1170) dL_law_1169 rfl ?_
  refine lw_sld (j := i + 1) (q := 1171) (nI_add i 1) (by omega) hL dL_law_1170 rfl ?_
  refine lw_callM (q := 1174) kX7_dues mw_i_X7_dues mw_s_X7_dues mw_m_RL_132 rfl (r_X7_dues hM) rfl (fun _ _ _ => rfl) (fun _ _ => rfl) rfl (Nat.le_of_ble_eq_true rfl) (by decide) dL_law_1171 rfl (fun v f1 g1 hp => ?_)
  obtain ⟨rfl, rfl, rfl⟩ := hp
  refine lw_eq (q := 1373) hr dL_law_1174 rfl ?_
  exact kn _ _ _ hR2
theorem lc_image {R : mj_I → mj_I → mj_L → Prop} (hs : ls_image R) {L i : Nat} {xs : Nat → Int32} (hL : L ≤ 448) (hi : i + 7 ≤ L) {fX fM : mj_I} {gM : mj_L} (hR : R fX fM gM) (kn : ∀ (fX fM : mj_I) (gM : mj_L), R fX fM gM → lw_Ev L xs 1373 (nI i) [] fX fM gM) : lw_Ev L xs 1179 (nI i) [] fX fM gM := by
  obtain ⟨oX, oM, hX, hM, hr, hR2⟩ := hs fX fM gM hR (xs (i + 1))
  refine lw_x (q := 1180) dL_law_1179 rfl ?_
  refine lw_script (q := 1181) dL_law_1180 rfl ?_
  refine lw_i (q := 1182) dL_law_1181 rfl ?_
  refine lw_iconst (v := 1) (q := 1183) dL_law_1182 mci_1 rfl ?_
  refine lw_iadd (q := 1184) dL_law_1183 rfl ?_
  refine lw_sld (j := i + 1) (q := 1185) (nI_add i 1) (by omega) hL dL_law_1184 rfl ?_
  refine lw_callX (q := 1188) kX6_image mw_i_X6_image mw_s_X6_image mw_m_RL_133 rfl (r_X6_image hX) rfl (fun _ _ _ => rfl) (fun _ _ => rfl) rfl (Nat.le_of_ble_eq_true rfl) (by decide) dL_law_1185 rfl (fun v f1 g1 hp => ?_)
  obtain ⟨rfl, rfl, rfl⟩ := hp
  refine ⟨rfl, ?_⟩
  refine lw_m (q := 1189) dL_law_1188 rfl ?_
  refine lw_script (q := 1190) dL_law_1189 rfl ?_
  refine lw_i (q := 1191) dL_law_1190 rfl ?_
  refine lw_iconst (v := 1) (q := 1192) dL_law_1191 mci_1 rfl ?_
  refine lw_iadd (q := 1193) dL_law_1192 rfl ?_
  refine lw_sld (j := i + 1) (q := 1194) (nI_add i 1) (by omega) hL dL_law_1193 rfl ?_
  refine lw_callM (q := 1197) kX7_image mw_i_X7_image mw_s_X7_image mw_m_RL_136 rfl (r_X7_image hM) rfl (fun _ _ _ => rfl) (fun _ _ => rfl) rfl (Nat.le_of_ble_eq_true rfl) (by decide) dL_law_1194 rfl (fun v f1 g1 hp => ?_)
  obtain ⟨rfl, rfl, rfl⟩ := hp
  refine lw_eq (q := 1373) hr dL_law_1197 rfl ?_
  exact kn _ _ _ hR2
theorem lc_restore {R : mj_I → mj_I → mj_L → Prop} (hs : ls_restore R) {L i : Nat} {xs : Nat → Int32} (hL : L ≤ 448) (hi : i + 7 ≤ L) {fX fM : mj_I} {gM : mj_L} (hR : R fX fM gM) (kn : ∀ (fX fM : mj_I) (gM : mj_L), R fX fM gM → lw_Ev L xs 1373 (nI i) [] fX fM gM) : lw_Ev L xs 1202 (nI i) [] fX fM gM := by
  obtain ⟨oX, oM, hX, hM, hr, hR2⟩ := hs fX fM gM hR (xs (i + 1))
  refine lw_x (q := 1203) dL_law_1202 rfl ?_
  refine lw_script (q := 1204) dL_law_1203 rfl ?_
  refine lw_i (q := 1205) dL_law_1204 rfl ?_
  refine lw_iconst (v := 1) (q := 1206) dL_law_1205 mci_1 rfl ?_
  refine lw_iadd (q := 1207) dL_law_1206 rfl ?_
  refine lw_sld (j := i + 1) (q := 1208) (nI_add i 1) (by omega) hL dL_law_1207 rfl ?_
  refine lw_callX (q := 1211) kX6_restore mw_i_X6_restore mw_s_X6_restore mw_m_RL_137 rfl (r_X6_restore hX) rfl (fun _ _ _ => rfl) (fun _ _ => rfl) rfl (Nat.le_of_ble_eq_true rfl) (by decide) dL_law_1208 rfl (fun v f1 g1 hp => ?_)
  obtain ⟨rfl, rfl, rfl⟩ := hp
  refine ⟨rfl, ?_⟩
  refine lw_m (q := 1212) dL_law_1211 rfl ?_
  refine lw_script (q := 1213) dL_law_1212 rfl ?_
  refine lw_i (q := 1214) dL_law_1213 rfl ?_
  refine lw_iconst (v := 1) (q := 1215) dL_law_1214 mci_1 rfl ?_
  refine lw_iadd (q := 1216) dL_law_1215 rfl ?_
  refine lw_sld (j := i + 1) (q := 1217) (nI_add i 1) (by omega) hL dL_law_1216 rfl ?_
  refine lw_callM (q := 1220) kX7_restore mw_i_X7_restore mw_s_X7_restore mw_m_RL_140 rfl (r_X7_restore hM) rfl (fun _ _ _ => rfl) (fun _ _ => rfl) rfl (Nat.le_of_ble_eq_true rfl) (by decide) dL_law_1217 rfl (fun v f1 g1 hp => ?_)
  obtain ⟨rfl, rfl, rfl⟩ := hp
  refine lw_eq (q := 1373) hr dL_law_1220 rfl ?_
  exact kn _ _ _ hR2
theorem lc_kind {R : mj_I → mj_I → mj_L → Prop} (hs : ls_kind R) {L i : Nat} {xs : Nat → Int32} (hL : L ≤ 448) (hi : i + 7 ≤ L) {fX fM : mj_I} {gM : mj_L} (hR : R fX fM gM) (kn : ∀ (fX fM : mj_I) (gM : mj_L), R fX fM gM → lw_Ev L xs 1373 (nI i) [] fX fM gM) : lw_Ev L xs 1225 (nI i) [] fX fM gM := by
  obtain ⟨oX, oM, hX, hM, hr, hR2⟩ := hs fX fM gM hR (xs (i + 1))
  refine lw_x (q := 1226) dL_law_1225 rfl ?_
  refine lw_script (q := 1227) dL_law_1226 rfl ?_
  refine lw_i (q := 1228) dL_law_1227 rfl ?_
  refine lw_iconst (v := 1) (q := 1229) dL_law_1228 mci_1 rfl ?_
  refine lw_iadd (q := 1230) dL_law_1229 rfl ?_
  refine lw_sld (j := i + 1) (q := 1231) (nI_add i 1) (by omega) hL dL_law_1230 rfl ?_
  refine lw_callX (q := 1234) kX6_kind mw_i_X6_kind mw_s_X6_kind mw_m_RL_141 rfl (r_X6_kind hX) rfl (fun _ _ _ => rfl) (fun _ _ => rfl) rfl (Nat.le_of_ble_eq_true rfl) (by decide) dL_law_1231 rfl (fun v f1 g1 hp => ?_)
  obtain ⟨rfl, rfl, rfl⟩ := hp
  refine ⟨rfl, ?_⟩
  refine lw_m (q := 1235) dL_law_1234 rfl ?_
  refine lw_script (q := 1236) dL_law_1235 rfl ?_
  refine lw_i (q := 1237) dL_law_1236 rfl ?_
  refine lw_iconst (v := 1) (q := 1238) dL_law_1237 mci_1 rfl ?_
  refine lw_iadd (q := 1239) dL_law_1238 rfl ?_
  refine lw_sld (j := i + 1) (q := 1240) (nI_add i 1) (by omega) hL dL_law_1239 rfl ?_
  refine lw_callM (q := 1243) kX7_kind mw_i_X7_kind mw_s_X7_kind mw_m_RL_144 rfl (r_X7_kind hM) rfl (fun _ _ _ => rfl) (fun _ _ => rfl) rfl (Nat.le_of_ble_eq_true rfl) (by decide) dL_law_1240 rfl (fun v f1 g1 hp => ?_)
  obtain ⟨rfl, rfl, rfl⟩ := hp
  refine lw_eq (q := 1373) hr dL_law_1243 rfl ?_
  exact kn _ _ _ hR2
theorem lc_as {R : mj_I → mj_I → mj_L → Prop} (hs : ls_as R) {L i : Nat} {xs : Nat → Int32} (hL : L ≤ 448) (hi : i + 7 ≤ L) {fX fM : mj_I} {gM : mj_L} (hR : R fX fM gM) (kn : ∀ (fX fM : mj_I) (gM : mj_L), R fX fM gM → lw_Ev L xs 1373 (nI i) [] fX fM gM) : lw_Ev L xs 1248 (nI i) [] fX fM gM := by
  obtain ⟨oX, oM, hX, hM, hr, hR2⟩ := hs fX fM gM hR (xs (i + 1)) (xs (i + 2))
  refine lw_x (q := 1249) dL_law_1248 rfl ?_
  refine lw_script (q := 1250) dL_law_1249 rfl ?_
  refine lw_i (q := 1251) dL_law_1250 rfl ?_
  refine lw_iconst (v := 1) (q := 1252) dL_law_1251 mci_1 rfl ?_
  refine lw_iadd (q := 1253) dL_law_1252 rfl ?_
  refine lw_sld (j := i + 1) (q := 1254) (nI_add i 1) (by omega) hL dL_law_1253 rfl ?_
  refine lw_script (q := 1255) dL_law_1254 rfl ?_
  refine lw_i (q := 1256) dL_law_1255 rfl ?_
  refine lw_iconst (v := 2) (q := 1257) dL_law_1256 mci_2 rfl ?_
  refine lw_iadd (q := 1258) dL_law_1257 rfl ?_
  refine lw_sld (j := i + 2) (q := 1259) (nI_add i 2) (by omega) hL dL_law_1258 rfl ?_
  refine lw_callX (q := 1262) kX6_as mw_i_X6_as mw_s_X6_as mw_m_RL_145 rfl (r_X6_as hX) rfl (fun _ _ _ => rfl) (fun _ _ => rfl) rfl (Nat.le_of_ble_eq_true rfl) (by decide) dL_law_1259 rfl (fun v f1 g1 hp => ?_)
  obtain ⟨rfl, rfl, rfl⟩ := hp
  refine ⟨rfl, ?_⟩
  refine lw_m (q := 1263) dL_law_1262 rfl ?_
  refine lw_script (q := 1264) dL_law_1263 rfl ?_
  refine lw_i (q := 1265) dL_law_1264 rfl ?_
  refine lw_iconst (v := 1) (q := 1266) dL_law_1265 mci_1 rfl ?_
  refine lw_iadd (q := 1267) dL_law_1266 rfl ?_
  refine lw_sld (j := i + 1) (q := 1268) (nI_add i 1) (by omega) hL dL_law_1267 rfl ?_
  refine lw_script (q := 1269) dL_law_1268 rfl ?_
  refine lw_i (q := 1270) dL_law_1269 rfl ?_
  refine lw_iconst (v := 2) (q := 1271) dL_law_1270 mci_2 rfl ?_
  refine lw_iadd (q := 1272) dL_law_1271 rfl ?_
  refine lw_sld (j := i + 2) (q := 1273) (nI_add i 2) (by omega) hL dL_law_1272 rfl ?_
  refine lw_callM (q := 1276) kX7_as mw_i_X7_as mw_s_X7_as mw_m_RL_148 rfl (r_X7_as hM) rfl (fun _ _ _ => rfl) (fun _ _ => rfl) rfl (Nat.le_of_ble_eq_true rfl) (by decide) dL_law_1273 rfl (fun v f1 g1 hp => ?_)
  obtain ⟨rfl, rfl, rfl⟩ := hp
  refine lw_eq (q := 1373) hr dL_law_1276 rfl ?_
  exact kn _ _ _ hR2
theorem lc_ask {R : mj_I → mj_I → mj_L → Prop} (hs : ls_ask R) {L i : Nat} {xs : Nat → Int32} (hL : L ≤ 448) (hi : i + 7 ≤ L) {fX fM : mj_I} {gM : mj_L} (hR : R fX fM gM) (kn : ∀ (fX fM : mj_I) (gM : mj_L), R fX fM gM → lw_Ev L xs 1373 (nI i) [] fX fM gM) : lw_Ev L xs 1281 (nI i) [] fX fM gM := by
  obtain ⟨oX, oM, hX, hM, hr, hR2⟩ := hs fX fM gM hR (xs (i + 1)) (xs (i + 2))
  refine lw_x (q := 1282) dL_law_1281 rfl ?_
  refine lw_script (q := 1283) dL_law_1282 rfl ?_
  refine lw_i (q := 1284) dL_law_1283 rfl ?_
  refine lw_iconst (v := 1) (q := 1285) dL_law_1284 mci_1 rfl ?_
  refine lw_iadd (q := 1286) dL_law_1285 rfl ?_
  refine lw_sld (j := i + 1) (q := 1287) (nI_add i 1) (by omega) hL dL_law_1286 rfl ?_
  refine lw_script (q := 1288) dL_law_1287 rfl ?_
  refine lw_i (q := 1289) dL_law_1288 rfl ?_
  refine lw_iconst (v := 2) (q := 1290) dL_law_1289 mci_2 rfl ?_
  refine lw_iadd (q := 1291) dL_law_1290 rfl ?_
  refine lw_sld (j := i + 2) (q := 1292) (nI_add i 2) (by omega) hL dL_law_1291 rfl ?_
  refine lw_callX (q := 1295) kX6_ask mw_i_X6_ask mw_s_X6_ask mw_m_RL_149 rfl (r_X6_ask hX) rfl (fun _ _ _ => rfl) (fun _ _ => rfl) rfl (Nat.le_of_ble_eq_true rfl) (by decide) dL_law_1292 rfl (fun v f1 g1 hp => ?_)
  obtain ⟨rfl, rfl, rfl⟩ := hp
  refine ⟨rfl, ?_⟩
  refine lw_m (q := 1296) dL_law_1295 rfl ?_
  refine lw_script (q := 1297) dL_law_1296 rfl ?_
  refine lw_i (q := 1298) dL_law_1297 rfl ?_
  refine lw_iconst (v := 1) (q := 1299) dL_law_1298 mci_1 rfl ?_
  refine lw_iadd (q := 1300) dL_law_1299 rfl ?_
  refine lw_sld (j := i + 1) (q := 1301) (nI_add i 1) (by omega) hL dL_law_1300 rfl ?_
  refine lw_script (q := 1302) dL_law_1301 rfl ?_
  refine lw_i (q := 1303) dL_law_1302 rfl ?_
  refine lw_iconst (v := 2) (q := 1304) dL_law_1303 mci_2 rfl ?_
  refine lw_iadd (q := 1305) dL_law_1304 rfl ?_
  refine lw_sld (j := i + 2) (q := 1306) (nI_add i 2) (by omega) hL dL_law_1305 rfl ?_
  refine lw_callM (q := 1309) kX7_ask mw_i_X7_ask mw_s_X7_ask mw_m_RL_152 rfl (r_X7_ask hM) rfl (fun _ _ _ => rfl) (fun _ _ => rfl) rfl (Nat.le_of_ble_eq_true rfl) (by decide) dL_law_1306 rfl (fun v f1 g1 hp => ?_)
  obtain ⟨rfl, rfl, rfl⟩ := hp
  refine lw_eq (q := 1373) hr dL_law_1309 rfl ?_
  exact kn _ _ _ hR2
theorem lc_trace {R : mj_I → mj_I → mj_L → Prop} (hs : ls_trace R) {L i : Nat} {xs : Nat → Int32} (hL : L ≤ 448) (hi : i + 7 ≤ L) {fX fM : mj_I} {gM : mj_L} (hR : R fX fM gM) (kn : ∀ (fX fM : mj_I) (gM : mj_L), R fX fM gM → lw_Ev L xs 1373 (nI i) [] fX fM gM) : lw_Ev L xs 1314 (nI i) [] fX fM gM := by
  obtain ⟨oX, oM, hX, hM, hr, hR2⟩ := hs fX fM gM hR (xs (i + 1))
  refine lw_x (q := 1315) dL_law_1314 rfl ?_
  refine lw_script (q := 1316) dL_law_1315 rfl ?_
  refine lw_i (q := 1317) dL_law_1316 rfl ?_
  refine lw_iconst (v := 1) (q := 1318) dL_law_1317 mci_1 rfl ?_
  refine lw_iadd (q := 1319) dL_law_1318 rfl ?_
  refine lw_sld (j := i + 1) (q := 1320) (nI_add i 1) (by omega) hL dL_law_1319 rfl ?_
  refine lw_callX (q := 1323) kX6_trace mw_i_X6_trace mw_s_X6_trace mw_m_RL_153 rfl (r_X6_trace hX) rfl (fun _ _ _ => rfl) (fun _ _ => rfl) rfl (Nat.le_of_ble_eq_true rfl) (by decide) dL_law_1320 rfl (fun v f1 g1 hp => ?_)
  obtain ⟨rfl, rfl, rfl⟩ := hp
  refine ⟨rfl, ?_⟩
  refine lw_m (q := 1324) dL_law_1323 rfl ?_
  refine lw_script (q := 1325) dL_law_1324 rfl ?_
  refine lw_i (q := 1326) dL_law_1325 rfl ?_
  refine lw_iconst (v := 1) (q := 1327) dL_law_1326 mci_1 rfl ?_
  refine lw_iadd (q := 1328) dL_law_1327 rfl ?_
  refine lw_sld (j := i + 1) (q := 1329) (nI_add i 1) (by omega) hL dL_law_1328 rfl ?_
  refine lw_callM (q := 1332) kX7_trace mw_i_X7_trace mw_s_X7_trace mw_m_RL_156 rfl (r_X7_trace hM) rfl (fun _ _ _ => rfl) (fun _ _ => rfl) rfl (Nat.le_of_ble_eq_true rfl) (by decide) dL_law_1329 rfl (fun v f1 g1 hp => ?_)
  obtain ⟨rfl, rfl, rfl⟩ := hp
  refine lw_eq (q := 1373) hr dL_law_1332 rfl ?_
  exact kn _ _ _ hR2
theorem lc_count {R : mj_I → mj_I → mj_L → Prop} (hs : ls_count R) {L i : Nat} {xs : Nat → Int32} (hL : L ≤ 448) (hi : i + 7 ≤ L) {fX fM : mj_I} {gM : mj_L} (hR : R fX fM gM) (kn : ∀ (fX fM : mj_I) (gM : mj_L), R fX fM gM → lw_Ev L xs 1373 (nI i) [] fX fM gM) : lw_Ev L xs 1337 (nI i) [] fX fM gM := by
  obtain ⟨oX, oM, hX, hM, hr, hR2⟩ := hs fX fM gM hR (xs (i + 1))
  refine lw_x (q := 1338) dL_law_1337 rfl ?_
  refine lw_script (q := 1339) dL_law_1338 rfl ?_
  refine lw_i (q := 1340) dL_law_1339 rfl ?_
  refine lw_iconst (v := 1) (q := 1341) dL_law_1340 mci_1 rfl ?_
  refine lw_iadd (q := 1342) dL_law_1341 rfl ?_
  refine lw_sld (j := i + 1) (q := 1343) (nI_add i 1) (by omega) hL dL_law_1342 rfl ?_
  refine lw_callX (q := 1346) kX6_count mw_i_X6_count mw_s_X6_count mw_m_RL_157 rfl (r_X6_count hX) rfl (fun _ _ _ => rfl) (fun _ _ => rfl) rfl (Nat.le_of_ble_eq_true rfl) (by decide) dL_law_1343 rfl (fun v f1 g1 hp => ?_)
  obtain ⟨rfl, rfl, rfl⟩ := hp
  refine ⟨rfl, ?_⟩
  refine lw_m (q := 1347) dL_law_1346 rfl ?_
  refine lw_script (q := 1348) dL_law_1347 rfl ?_
  refine lw_i (q := 1349) dL_law_1348 rfl ?_
  refine lw_iconst (v := 1) (q := 1350) dL_law_1349 mci_1 rfl ?_
  refine lw_iadd (q := 1351) dL_law_1350 rfl ?_
  refine lw_sld (j := i + 1) (q := 1352) (nI_add i 1) (by omega) hL dL_law_1351 rfl ?_
  refine lw_callM (q := 1355) kX7_count mw_i_X7_count mw_s_X7_count mw_m_RL_160 rfl (r_X7_count hM) rfl (fun _ _ _ => rfl) (fun _ _ => rfl) rfl (Nat.le_of_ble_eq_true rfl) (by decide) dL_law_1352 rfl (fun v f1 g1 hp => ?_)
  obtain ⟨rfl, rfl, rfl⟩ := hp
  refine lw_eq (q := 1373) hr dL_law_1355 rfl ?_
  exact kn _ _ _ hR2
theorem lc_status {R : mj_I → mj_I → mj_L → Prop} (hs : ls_status R) {L i : Nat} {xs : Nat → Int32} (hL : L ≤ 448) (hi : i + 7 ≤ L) {fX fM : mj_I} {gM : mj_L} (hR : R fX fM gM) (kn : ∀ (fX fM : mj_I) (gM : mj_L), R fX fM gM → lw_Ev L xs 1373 (nI i) [] fX fM gM) : lw_Ev L xs 1360 (nI i) [] fX fM gM := by
  obtain ⟨oX, oM, hX, hM, hr, hR2⟩ := hs fX fM gM hR
  refine lw_x (q := 1361) dL_law_1360 rfl ?_
  refine lw_callX (q := 1364) kX6_status mw_i_X6_status mw_s_X6_status mw_m_RL_161 rfl (r_X6_status hX) rfl (fun _ _ _ => rfl) (fun _ _ => rfl) rfl (Nat.le_of_ble_eq_true rfl) (by decide) dL_law_1361 rfl (fun v f1 g1 hp => ?_)
  obtain ⟨rfl, rfl, rfl⟩ := hp
  refine ⟨rfl, ?_⟩
  refine lw_m (q := 1365) dL_law_1364 rfl ?_
  refine lw_callM (q := 1368) kX7_status mw_i_X7_status mw_s_X7_status mw_m_RL_164 rfl (r_X7_status hM) rfl (fun _ _ _ => rfl) (fun _ _ => rfl) rfl (Nat.le_of_ble_eq_true rfl) (by decide) dL_law_1365 rfl (fun v f1 g1 hp => ?_)
  obtain ⟨rfl, rfl, rfl⟩ := hp
  refine lw_eq (q := 1373) hr dL_law_1368 rfl ?_
  exact kn _ _ _ hR2
theorem lw_loop {R : mj_I → mj_I → mj_L → Prop} (hs : lw_Sim R) {L : Nat} {xs : Nat → Int32} (hL : L ≤ 448) : ∀ (n i : Nat), i ≤ L → L + 1 ≤ i + n → ∀ (fX fM : mj_I) (gM : mj_L), R fX fM gM → lw_Ev L xs 18 (nI i) [] fX fM gM := by
  obtain ⟨-, h_row, h_set, h_copy, h_drop, h_feed, h_herd, h_fault, h_undo, h_hours, h_lift, h_rains, h_cloud, h_cell, h_wind, h_ahead, h_earned, h_knot, h_wetHay, h_soon, h_heights, h_shade, h_dew, h_lost, h_kite, h_tuesday, h_guards, h_guardsValue, h_dues, h_image, h_restore, h_kind, h_as, h_ask, h_trace, h_count, h_status⟩ := hs
  intro n
  induction n with
  | zero => intro i h1 h2; omega
  | succ n ih =>
    intro i h1 h2 fX fM gM hR
    have hend : ∀ (fX fM : mj_I) (gM : mj_L), lw_Ev L xs 1379 (nI i) [] fX fM gM := fun fX fM gM => lw_iconst (v := 1) (q := 1380) dL_law_1379 mci_1 rfl (lw_end dL_law_1380)
    refine lw_i (q := 19) dL_law_18 rfl ?_
    refine lw_script (q := 20) dL_law_19 rfl ?_
    refine lw_len (q := 21) dL_law_20 rfl ?_
    refine lw_bipush (v := 7) (q := 23) dL_law_21 mcb_7 rfl ?_
    refine lw_isub (q := 24) dL_law_23 rfl ?_
    refine lw_gt (t := 1379) (q := 27) dL_law_24 rfl rfl (fun _ => hend _ _ _) (fun hc => ?_)
    have hi7 : i + 7 ≤ L := by
      rcases Nat.lt_or_ge L (i + 7) with h | h
      · refine absurd ?_ hc
        rw [Int32.lt_iff_toInt_lt]
        have e1 : (nI L - 7).toInt = (L : Int) - 7 := pk_sub_toInt (a := L) (b := 7) (by omega) (by omega)
        have e2 : (nI i).toInt = (i : Int) := nI_toInt (by omega)
        rw [e1, e2]
        omega
      · exact h
    have kn : ∀ (fX fM : mj_I) (gM : mj_L), R fX fM gM → lw_Ev L xs 1373 (nI i) [] fX fM gM := by
      intro fX fM gM hR
      refine lw_inc (v := nI (i + 7)) (q := 1376) (nI_add i 7) dL_law_1373 rfl ?_
      refine lw_goto (q := 18) dL_law_1376 rfl ?_
      exact ih (i + 7) hi7 (by omega) fX fM gM hR
    refine lw_script (q := 28) dL_law_27 rfl ?_
    refine lw_i (q := 29) dL_law_28 rfl ?_
    refine lw_sld (j := i) (q := 30) rfl (by omega) hL dL_law_29 rfl ?_
    refine lw_bipush (v := 63) (q := 32) dL_law_30 mcb_63 rfl ?_
    refine lw_iand (q := 33) dL_law_32 rfl ?_
    by_cases hx0 : xs i &&& 63 = 0
    · exact lw_tabIn (v := 0) (off := 159) (q := 192) hx0 dL_law_33 (by decide) (by decide) rfl rfl (lc_row h_row hL hi7 hR kn)
    by_cases hx1 : xs i &&& 63 = 1
    · exact lw_tabIn (v := 1) (off := 202) (q := 235) hx1 dL_law_33 (by decide) (by decide) rfl rfl (lc_set h_set hL hi7 hR kn)
    by_cases hx2 : xs i &&& 63 = 2
    · exact lw_tabIn (v := 2) (off := 245) (q := 278) hx2 dL_law_33 (by decide) (by decide) rfl rfl (lc_copy h_copy hL hi7 hR kn)
    by_cases hx3 : xs i &&& 63 = 3
    · exact lw_tabIn (v := 3) (off := 308) (q := 341) hx3 dL_law_33 (by decide) (by decide) rfl rfl (lc_drop h_drop hL hi7 hR kn)
    by_cases hx4 : xs i &&& 63 = 4
    · exact lw_tabIn (v := 4) (off := 331) (q := 364) hx4 dL_law_33 (by decide) (by decide) rfl rfl (lc_feed h_feed hL hi7 hR kn)
    by_cases hx5 : xs i &&& 63 = 5
    · exact lw_tabIn (v := 5) (off := 354) (q := 387) hx5 dL_law_33 (by decide) (by decide) rfl rfl (lc_herd h_herd hL hi7 hR kn)
    by_cases hx6 : xs i &&& 63 = 6
    · exact lw_tabIn (v := 6) (off := 367) (q := 400) hx6 dL_law_33 (by decide) (by decide) rfl rfl (lc_fault h_fault hL hi7 hR kn)
    by_cases hx7 : xs i &&& 63 = 7
    · exact lw_tabIn (v := 7) (off := 380) (q := 413) hx7 dL_law_33 (by decide) (by decide) rfl rfl (lc_undo h_undo hL hi7 hR kn)
    by_cases hx8 : xs i &&& 63 = 8
    · exact lw_tabIn (v := 8) (off := 393) (q := 426) hx8 dL_law_33 (by decide) (by decide) rfl rfl (lc_hours h_hours hL hi7 hR kn)
    by_cases hx9 : xs i &&& 63 = 9
    · exact lw_tabIn (v := 9) (off := 416) (q := 449) hx9 dL_law_33 (by decide) (by decide) rfl rfl (lc_lift h_lift hL hi7 hR kn)
    by_cases hx10 : xs i &&& 63 = 10
    · exact lw_tabIn (v := 10) (off := 449) (q := 482) hx10 dL_law_33 (by decide) (by decide) rfl rfl (lc_rains h_rains hL hi7 hR kn)
    by_cases hx11 : xs i &&& 63 = 11
    · exact lw_tabIn (v := 11) (off := 482) (q := 515) hx11 dL_law_33 (by decide) (by decide) rfl rfl (lc_cloud h_cloud hL hi7 hR kn)
    by_cases hx12 : xs i &&& 63 = 12
    · exact lw_tabIn (v := 12) (off := 515) (q := 548) hx12 dL_law_33 (by decide) (by decide) rfl rfl (lc_cell h_cell hL hi7 hR kn)
    by_cases hx13 : xs i &&& 63 = 13
    · exact lw_tabIn (v := 13) (off := 548) (q := 581) hx13 dL_law_33 (by decide) (by decide) rfl rfl (lc_wind h_wind hL hi7 hR kn)
    by_cases hx14 : xs i &&& 63 = 14
    · exact lw_tabIn (v := 14) (off := 581) (q := 614) hx14 dL_law_33 (by decide) (by decide) rfl rfl (lc_ahead h_ahead hL hi7 hR kn)
    by_cases hx15 : xs i &&& 63 = 15
    · exact lw_tabIn (v := 15) (off := 624) (q := 657) hx15 dL_law_33 (by decide) (by decide) rfl rfl (lc_earned h_earned hL hi7 hR kn)
    by_cases hx16 : xs i &&& 63 = 16
    · exact lw_tabIn (v := 16) (off := 647) (q := 680) hx16 dL_law_33 (by decide) (by decide) rfl rfl (lc_knot h_knot hL hi7 hR kn)
    by_cases hx17 : xs i &&& 63 = 17
    · exact lw_tabIn (v := 17) (off := 680) (q := 713) hx17 dL_law_33 (by decide) (by decide) rfl rfl (lc_wetHay h_wetHay hL hi7 hR kn)
    by_cases hx18 : xs i &&& 63 = 18
    · exact lw_tabIn (v := 18) (off := 713) (q := 746) hx18 dL_law_33 (by decide) (by decide) rfl rfl (lc_soon h_soon hL hi7 hR kn)
    by_cases hx19 : xs i &&& 63 = 19
    · exact lw_tabIn (v := 19) (off := 746) (q := 779) hx19 dL_law_33 (by decide) (by decide) rfl rfl (lc_heights h_heights hL hi7 hR kn)
    by_cases hx20 : xs i &&& 63 = 20
    · exact lw_tabIn (v := 20) (off := 789) (q := 822) hx20 dL_law_33 (by decide) (by decide) rfl rfl (lc_shade h_shade hL hi7 hR kn)
    by_cases hx21 : xs i &&& 63 = 21
    · exact lw_tabIn (v := 21) (off := 822) (q := 855) hx21 dL_law_33 (by decide) (by decide) rfl rfl (lc_dew h_dew hL hi7 hR kn)
    by_cases hx22 : xs i &&& 63 = 22
    · exact lw_tabIn (v := 22) (off := 865) (q := 898) hx22 dL_law_33 (by decide) (by decide) rfl rfl (lc_lost h_lost hL hi7 hR kn)
    by_cases hx23 : xs i &&& 63 = 23
    · exact lw_tabIn (v := 23) (off := 940) (q := 973) hx23 dL_law_33 (by decide) (by decide) rfl rfl (lc_kite h_kite hL hi7 hR kn)
    by_cases hx24 : xs i &&& 63 = 24
    · exact lw_tabIn (v := 24) (off := 993) (q := 1026) hx24 dL_law_33 (by decide) (by decide) rfl rfl (lc_tuesday h_tuesday hL hi7 hR kn)
    by_cases hx25 : xs i &&& 63 = 25
    · exact lw_tabIn (v := 25) (off := 1046) (q := 1079) hx25 dL_law_33 (by decide) (by decide) rfl rfl (lc_guards h_guards hL hi7 hR kn)
    by_cases hx26 : xs i &&& 63 = 26
    · exact lw_tabIn (v := 26) (off := 1079) (q := 1112) hx26 dL_law_33 (by decide) (by decide) rfl rfl (lc_guardsValue h_guardsValue hL hi7 hR kn)
    by_cases hx27 : xs i &&& 63 = 27
    · exact lw_tabIn (v := 27) (off := 1123) (q := 1156) hx27 dL_law_33 (by decide) (by decide) rfl rfl (lc_dues h_dues hL hi7 hR kn)
    by_cases hx28 : xs i &&& 63 = 28
    · exact lw_tabIn (v := 28) (off := 1146) (q := 1179) hx28 dL_law_33 (by decide) (by decide) rfl rfl (lc_image h_image hL hi7 hR kn)
    by_cases hx29 : xs i &&& 63 = 29
    · exact lw_tabIn (v := 29) (off := 1169) (q := 1202) hx29 dL_law_33 (by decide) (by decide) rfl rfl (lc_restore h_restore hL hi7 hR kn)
    by_cases hx30 : xs i &&& 63 = 30
    · exact lw_tabIn (v := 30) (off := 1192) (q := 1225) hx30 dL_law_33 (by decide) (by decide) rfl rfl (lc_kind h_kind hL hi7 hR kn)
    by_cases hx31 : xs i &&& 63 = 31
    · exact lw_tabIn (v := 31) (off := 1215) (q := 1248) hx31 dL_law_33 (by decide) (by decide) rfl rfl (lc_as h_as hL hi7 hR kn)
    by_cases hx32 : xs i &&& 63 = 32
    · exact lw_tabIn (v := 32) (off := 1248) (q := 1281) hx32 dL_law_33 (by decide) (by decide) rfl rfl (lc_ask h_ask hL hi7 hR kn)
    by_cases hx33 : xs i &&& 63 = 33
    · exact lw_tabIn (v := 33) (off := 1281) (q := 1314) hx33 dL_law_33 (by decide) (by decide) rfl rfl (lc_trace h_trace hL hi7 hR kn)
    by_cases hx34 : xs i &&& 63 = 34
    · exact lw_tabIn (v := 34) (off := 1304) (q := 1337) hx34 dL_law_33 (by decide) (by decide) rfl rfl (lc_count h_count hL hi7 hR kn)
    by_cases hx35 : xs i &&& 63 = 35
    · exact lw_tabIn (v := 35) (off := 1327) (q := 1360) hx35 dL_law_33 (by decide) (by decide) rfl rfl (lc_status h_status hL hi7 hR kn)
    refine lw_tabOut (q := 1373) dL_law_33 ?_ rfl (kn _ _ _ hR)
    have e0 := lv_neT (a := 0) hx0 (by decide)
    have e1 := lv_neT (a := 1) hx1 (by decide)
    have e2 := lv_neT (a := 2) hx2 (by decide)
    have e3 := lv_neT (a := 3) hx3 (by decide)
    have e4 := lv_neT (a := 4) hx4 (by decide)
    have e5 := lv_neT (a := 5) hx5 (by decide)
    have e6 := lv_neT (a := 6) hx6 (by decide)
    have e7 := lv_neT (a := 7) hx7 (by decide)
    have e8 := lv_neT (a := 8) hx8 (by decide)
    have e9 := lv_neT (a := 9) hx9 (by decide)
    have e10 := lv_neT (a := 10) hx10 (by decide)
    have e11 := lv_neT (a := 11) hx11 (by decide)
    have e12 := lv_neT (a := 12) hx12 (by decide)
    have e13 := lv_neT (a := 13) hx13 (by decide)
    have e14 := lv_neT (a := 14) hx14 (by decide)
    have e15 := lv_neT (a := 15) hx15 (by decide)
    have e16 := lv_neT (a := 16) hx16 (by decide)
    have e17 := lv_neT (a := 17) hx17 (by decide)
    have e18 := lv_neT (a := 18) hx18 (by decide)
    have e19 := lv_neT (a := 19) hx19 (by decide)
    have e20 := lv_neT (a := 20) hx20 (by decide)
    have e21 := lv_neT (a := 21) hx21 (by decide)
    have e22 := lv_neT (a := 22) hx22 (by decide)
    have e23 := lv_neT (a := 23) hx23 (by decide)
    have e24 := lv_neT (a := 24) hx24 (by decide)
    have e25 := lv_neT (a := 25) hx25 (by decide)
    have e26 := lv_neT (a := 26) hx26 (by decide)
    have e27 := lv_neT (a := 27) hx27 (by decide)
    have e28 := lv_neT (a := 28) hx28 (by decide)
    have e29 := lv_neT (a := 29) hx29 (by decide)
    have e30 := lv_neT (a := 30) hx30 (by decide)
    have e31 := lv_neT (a := 31) hx31 (by decide)
    have e32 := lv_neT (a := 32) hx32 (by decide)
    have e33 := lv_neT (a := 33) hx33 (by decide)
    have e34 := lv_neT (a := 34) hx34 (by decide)
    have e35 := lv_neT (a := 35) hx35 (by decide)
    omega
