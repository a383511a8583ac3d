/-! THE LAW'S WRAPPERS: 0, or the number of what was caught (by program) -/
theorem pn_L : plainName RL = true := by decide +kernel
theorem w_0 : Cond.initialized RL ∈ WSg := wk 0 (by decide +kernel) (by decide +kernel)
theorem w_702 : Cond.static yL_shop ∈ WSg := wk 702 (by decide +kernel) (by decide +kernel)
theorem w_703 : mWord M_L_shop ∈ WSg := wk 703 (by decide +kernel) (by decide +kernel)
theorem w_704 : Cond.classLink RL 13 "java/lang/IllegalArgumentException" ∈ WSg := wk 704 (by decide +kernel) (by decide +kernel)
theorem w_705 : Cond.classLink RL 15 "java/lang/UnsupportedOperationException" ∈ WSg := wk 705 (by decide +kernel) (by decide +kernel)
theorem w_1019 : Cond.static yL_law ∈ WSg := wk 1019 (by decide +kernel) (by decide +kernel)
theorem w_1020 : mWord M_L_law ∈ WSg := wk 1020 (by decide +kernel) (by decide +kernel)
theorem w_1034 : Cond.static yL_sign ∈ WSg := wk 1034 (by decide +kernel) (by decide +kernel)
theorem w_1035 : mWord M_L_sign ∈ WSg := wk 1035 (by decide +kernel) (by decide +kernel)
theorem w_1036 : Cond.classLink RL 24 "java/lang/IndexOutOfBoundsException" ∈ WSg := wk 1036 (by decide +kernel) (by decide +kernel)
theorem w_1037 : Cond.classLink RL 26 "java/util/NoSuchElementException" ∈ WSg := wk 1037 (by decide +kernel) (by decide +kernel)
theorem w_1085 : Cond.static yL_side ∈ WSg := wk 1085 (by decide +kernel) (by decide +kernel)
theorem w_1086 : mWord M_L_side ∈ WSg := wk 1086 (by decide +kernel) (by decide +kernel)
theorem w_1099 : Cond.static yL_letter ∈ WSg := wk 1099 (by decide +kernel) (by decide +kernel)
theorem w_1100 : mWord M_L_letter ∈ WSg := wk 1100 (by decide +kernel) (by decide +kernel)
theorem w_1114 : Cond.static yL_gap ∈ WSg := wk 1114 (by decide +kernel) (by decide +kernel)
theorem w_1115 : mWord M_L_gap ∈ WSg := wk 1115 (by decide +kernel) (by decide +kernel)
theorem w_1129 : Cond.static yL_row ∈ WSg := wk 1129 (by decide +kernel) (by decide +kernel)
theorem w_1130 : mWord M_L_row ∈ WSg := wk 1130 (by decide +kernel) (by decide +kernel)
theorem w_1138 : Cond.static yL_fades ∈ WSg := wk 1138 (by decide +kernel) (by decide +kernel)
theorem w_1139 : mWord M_L_fades ∈ WSg := wk 1139 (by decide +kernel) (by decide +kernel)
theorem w_1156 : Cond.static yL_shift ∈ WSg := wk 1156 (by decide +kernel) (by decide +kernel)
theorem w_1157 : mWord M_L_shift ∈ WSg := wk 1157 (by decide +kernel) (by decide +kernel)
theorem w_1173 : Cond.static yL_squeezed ∈ WSg := wk 1173 (by decide +kernel) (by decide +kernel)
theorem w_1174 : mWord M_L_squeezed ∈ WSg := wk 1174 (by decide +kernel) (by decide +kernel)
theorem w_1181 : Cond.static yL_shadow ∈ WSg := wk 1181 (by decide +kernel) (by decide +kernel)
theorem w_1182 : mWord M_L_shadow ∈ WSg := wk 1182 (by decide +kernel) (by decide +kernel)
theorem w_1189 : Cond.static yL_lays ∈ WSg := wk 1189 (by decide +kernel) (by decide +kernel)
theorem w_1190 : mWord M_L_lays ∈ WSg := wk 1190 (by decide +kernel) (by decide +kernel)
theorem w_1191 : Cond.classLink RL 57 "java/lang/IllegalStateException" ∈ WSg := wk 1191 (by decide +kernel) (by decide +kernel)
theorem w_1226 : Cond.static yL_paint ∈ WSg := wk 1226 (by decide +kernel) (by decide +kernel)
theorem w_1227 : mWord M_L_paint ∈ WSg := wk 1227 (by decide +kernel) (by decide +kernel)
theorem w_1257 : Cond.static yL_off ∈ WSg := wk 1257 (by decide +kernel) (by decide +kernel)
theorem w_1258 : mWord M_L_off ∈ WSg := wk 1258 (by decide +kernel) (by decide +kernel)
theorem w_1265 : Cond.static yL_laid ∈ WSg := wk 1265 (by decide +kernel) (by decide +kernel)
theorem w_1266 : mWord M_L_laid ∈ WSg := wk 1266 (by decide +kernel) (by decide +kernel)
theorem w_1276 : Cond.static yL_nearest ∈ WSg := wk 1276 (by decide +kernel) (by decide +kernel)
theorem w_1277 : mWord M_L_nearest ∈ WSg := wk 1277 (by decide +kernel) (by decide +kernel)
theorem w_1283 : Cond.static yL_cannot ∈ WSg := wk 1283 (by decide +kernel) (by decide +kernel)
theorem w_1284 : mWord M_L_cannot ∈ WSg := wk 1284 (by decide +kernel) (by decide +kernel)
theorem w_1290 : Cond.static yL_lacks ∈ WSg := wk 1290 (by decide +kernel) (by decide +kernel)
theorem w_1291 : mWord M_L_lacks ∈ WSg := wk 1291 (by decide +kernel) (by decide +kernel)
theorem w_1305 : Cond.static yL_squeeze ∈ WSg := wk 1305 (by decide +kernel) (by decide +kernel)
theorem w_1306 : mWord M_L_squeeze ∈ WSg := wk 1306 (by decide +kernel) (by decide +kernel)
theorem w_1337 : Cond.static yL_dropped ∈ WSg := wk 1337 (by decide +kernel) (by decide +kernel)
theorem w_1338 : mWord M_L_dropped ∈ WSg := wk 1338 (by decide +kernel) (by decide +kernel)
theorem w_1344 : Cond.static yL_read ∈ WSg := wk 1344 (by decide +kernel) (by decide +kernel)
theorem w_1345 : mWord M_L_read ∈ WSg := wk 1345 (by decide +kernel) (by decide +kernel)
theorem w_1353 : Cond.static yL_far ∈ WSg := wk 1353 (by decide +kernel) (by decide +kernel)
theorem w_1354 : mWord M_L_far ∈ WSg := wk 1354 (by decide +kernel) (by decide +kernel)
theorem w_1360 : Cond.static yL_runs ∈ WSg := wk 1360 (by decide +kernel) (by decide +kernel)
theorem w_1361 : mWord M_L_runs ∈ WSg := wk 1361 (by decide +kernel) (by decide +kernel)
theorem w_1368 : Cond.static yL_bears ∈ WSg := wk 1368 (by decide +kernel) (by decide +kernel)
theorem w_1369 : mWord M_L_bears ∈ WSg := wk 1369 (by decide +kernel) (by decide +kernel)
theorem w_1375 : Cond.static yL_aslant ∈ WSg := wk 1375 (by decide +kernel) (by decide +kernel)
theorem w_1376 : mWord M_L_aslant ∈ WSg := wk 1376 (by decide +kernel) (by decide +kernel)
theorem w_1383 : Cond.static yL_ends ∈ WSg := wk 1383 (by decide +kernel) (by decide +kernel)
theorem w_1384 : mWord M_L_ends ∈ WSg := wk 1384 (by decide +kernel) (by decide +kernel)
theorem w_1391 : Cond.static yL_wrote ∈ WSg := wk 1391 (by decide +kernel) (by decide +kernel)
theorem w_1392 : mWord M_L_wrote ∈ WSg := wk 1392 (by decide +kernel) (by decide +kernel)
theorem w_1407 : Cond.static yL_likely ∈ WSg := wk 1407 (by decide +kernel) (by decide +kernel)
theorem w_1408 : mWord M_L_likely ∈ WSg := wk 1408 (by decide +kernel) (by decide +kernel)
theorem w_1414 : Cond.static yL_inch ∈ WSg := wk 1414 (by decide +kernel) (by decide +kernel)
theorem w_1415 : mWord M_L_inch ∈ WSg := wk 1415 (by decide +kernel) (by decide +kernel)
theorem w_1421 : Cond.static yL_trial ∈ WSg := wk 1421 (by decide +kernel) (by decide +kernel)
theorem w_1422 : mWord M_L_trial ∈ WSg := wk 1422 (by decide +kernel) (by decide +kernel)
theorem w_1438 : Cond.static yL_span ∈ WSg := wk 1438 (by decide +kernel) (by decide +kernel)
theorem w_1439 : mWord M_L_span ∈ WSg := wk 1439 (by decide +kernel) (by decide +kernel)
theorem w_1445 : Cond.static yL_slips ∈ WSg := wk 1445 (by decide +kernel) (by decide +kernel)
theorem w_1446 : mWord M_L_slips ∈ WSg := wk 1446 (by decide +kernel) (by decide +kernel)
theorem w_1459 : Cond.static yL_log ∈ WSg := wk 1459 (by decide +kernel) (by decide +kernel)
theorem w_1460 : mWord M_L_log ∈ WSg := wk 1460 (by decide +kernel) (by decide +kernel)
theorem cx_L_138 : CwX RL M_L_shop 138 2 := ⟨w_701, w_703, w_0, w_702, by decide +kernel, by decide +kernel, ⟨_, _, rfl⟩, by decide⟩
theorem cx_L_147 : CwX RL M_L_law 147 2 := ⟨w_1018, w_1020, w_0, w_1019, by decide +kernel, by decide +kernel, ⟨_, _, rfl⟩, by decide⟩
theorem cx_L_154 : CwX RL M_L_sign 154 4 := ⟨w_1033, w_1035, w_0, w_1034, by decide +kernel, by decide +kernel, ⟨_, _, rfl⟩, by decide⟩
theorem cx_L_158 : CwX RL M_L_side 158 5 := ⟨w_1084, w_1086, w_0, w_1085, by decide +kernel, by decide +kernel, ⟨_, _, rfl⟩, by decide⟩
theorem cx_L_162 : CwX RL M_L_letter 162 4 := ⟨w_1098, w_1100, w_0, w_1099, by decide +kernel, by decide +kernel, ⟨_, _, rfl⟩, by decide⟩
theorem cx_L_165 : CwX RL M_L_gap 165 4 := ⟨w_1113, w_1115, w_0, w_1114, by decide +kernel, by decide +kernel, ⟨_, _, rfl⟩, by decide⟩
theorem cx_L_168 : CwX RL M_L_row 168 5 := ⟨w_1128, w_1130, w_0, w_1129, by decide +kernel, by decide +kernel, ⟨_, _, rfl⟩, by decide⟩
theorem cx_L_171 : CwX RL M_L_fades 171 4 := ⟨w_1137, w_1139, w_0, w_1138, by decide +kernel, by decide +kernel, ⟨_, _, rfl⟩, by decide⟩
theorem cx_L_174 : CwX RL M_L_shift 174 4 := ⟨w_1155, w_1157, w_0, w_1156, by decide +kernel, by decide +kernel, ⟨_, _, rfl⟩, by decide⟩
theorem cx_L_177 : CwX RL M_L_squeezed 177 4 := ⟨w_1172, w_1174, w_0, w_1173, by decide +kernel, by decide +kernel, ⟨_, _, rfl⟩, by decide⟩
theorem cx_L_180 : CwX RL M_L_shadow 180 3 := ⟨w_1180, w_1182, w_0, w_1181, by decide +kernel, by decide +kernel, ⟨_, _, rfl⟩, by decide⟩
theorem cx_L_184 : CwX RL M_L_lays 184 3 := ⟨w_1188, w_1190, w_0, w_1189, by decide +kernel, by decide +kernel, ⟨_, _, rfl⟩, by decide⟩
theorem cx_L_187 : CwX RL M_L_paint 187 3 := ⟨w_1225, w_1227, w_0, w_1226, by decide +kernel, by decide +kernel, ⟨_, _, rfl⟩, by decide⟩
theorem cx_L_194 : CwX RL M_L_off 194 3 := ⟨w_1256, w_1258, w_0, w_1257, by decide +kernel, by decide +kernel, ⟨_, _, rfl⟩, by decide⟩
theorem cx_L_202 : CwX RL M_L_laid 202 4 := ⟨w_1264, w_1266, w_0, w_1265, by decide +kernel, by decide +kernel, ⟨_, _, rfl⟩, by decide⟩
theorem cx_L_210 : CwX RL M_L_nearest 210 4 := ⟨w_1275, w_1277, w_0, w_1276, by decide +kernel, by decide +kernel, ⟨_, _, rfl⟩, by decide⟩
theorem cx_L_213 : CwX RL M_L_cannot 213 3 := ⟨w_1282, w_1284, w_0, w_1283, by decide +kernel, by decide +kernel, ⟨_, _, rfl⟩, by decide⟩
theorem cx_L_216 : CwX RL M_L_lacks 216 3 := ⟨w_1289, w_1291, w_0, w_1290, by decide +kernel, by decide +kernel, ⟨_, _, rfl⟩, by decide⟩
theorem cx_L_219 : CwX RL M_L_squeeze 219 4 := ⟨w_1304, w_1306, w_0, w_1305, by decide +kernel, by decide +kernel, ⟨_, _, rfl⟩, by decide⟩
theorem cx_L_223 : CwX RL M_L_dropped 223 3 := ⟨w_1336, w_1338, w_0, w_1337, by decide +kernel, by decide +kernel, ⟨_, _, rfl⟩, by decide⟩
theorem cx_L_230 : CwX RL M_L_read 230 4 := ⟨w_1343, w_1345, w_0, w_1344, by decide +kernel, by decide +kernel, ⟨_, _, rfl⟩, by decide⟩
theorem cx_L_233 : CwX RL M_L_far 233 3 := ⟨w_1352, w_1354, w_0, w_1353, by decide +kernel, by decide +kernel, ⟨_, _, rfl⟩, by decide⟩
theorem cx_L_236 : CwX RL M_L_runs 236 4 := ⟨w_1359, w_1361, w_0, w_1360, by decide +kernel, by decide +kernel, ⟨_, _, rfl⟩, by decide⟩
theorem cx_L_239 : CwX RL M_L_bears 239 4 := ⟨w_1367, w_1369, w_0, w_1368, by decide +kernel, by decide +kernel, ⟨_, _, rfl⟩, by decide⟩
theorem cx_L_246 : CwX RL M_L_aslant 246 3 := ⟨w_1374, w_1376, w_0, w_1375, by decide +kernel, by decide +kernel, ⟨_, _, rfl⟩, by decide⟩
theorem cx_L_253 : CwX RL M_L_ends 253 3 := ⟨w_1382, w_1384, w_0, w_1383, by decide +kernel, by decide +kernel, ⟨_, _, rfl⟩, by decide⟩
theorem cx_L_264 : CwX RL M_L_wrote 264 2 := ⟨w_1390, w_1392, w_0, w_1391, by decide +kernel, by decide +kernel, ⟨_, _, rfl⟩, by decide⟩
theorem cx_L_267 : CwX RL M_L_likely 267 3 := ⟨w_1406, w_1408, w_0, w_1407, by decide +kernel, by decide +kernel, ⟨_, _, rfl⟩, by decide⟩
theorem cx_L_274 : CwX RL M_L_inch 274 3 := ⟨w_1413, w_1415, w_0, w_1414, by decide +kernel, by decide +kernel, ⟨_, _, rfl⟩, by decide⟩
theorem cx_L_277 : CwX RL M_L_trial 277 5 := ⟨w_1420, w_1422, w_0, w_1421, by decide +kernel, by decide +kernel, ⟨_, _, rfl⟩, by decide⟩
theorem cx_L_280 : CwX RL M_L_span 280 5 := ⟨w_1437, w_1439, w_0, w_1438, by decide +kernel, by decide +kernel, ⟨_, _, rfl⟩, by decide⟩
theorem cx_L_283 : CwX RL M_L_slips 283 3 := ⟨w_1444, w_1446, w_0, w_1445, by decide +kernel, by decide +kernel, ⟨_, _, rfl⟩, by decide⟩
theorem cx_L_286 : CwX RL M_L_log 286 4 := ⟨w_1458, w_1460, w_0, w_1459, by decide +kernel, by decide +kernel, ⟨_, _, rfl⟩, by decide⟩
theorem cl_shop {v t : Int} {D E : mD} {r : Int ⊕ Nat} (h : F_X11_shop D = some (r, E)) (A : Agr [0, 3] r v t) : CM 99 1 6 M_L_shop [mR 0, mR 148] (SK, D, false) (rI t (oD E (wg E r))) := by
  refine CM.introT pn_L rfl rfl (Nat.le_of_ble_eq_true rfl) (fun Ω => ?_)
  show J Ω M_L_shop 99 1 6 _ 0 [some (mR 0), some (mR 148), none] [] _ 0 0
  refine j_aload_n (pc' := 1) dL_shop_0 rfl rfl ?_
  refine j_iconst (pc' := 2) dL_shop_1 rfl ?_
  refine j_aload_n (pc' := 3) dL_shop_2 rfl rfl ?_
  cases r with
  | inl z =>
    obtain ⟨rfl, rfl⟩ := A
    refine j_callVT2 (pc' := 6) (as := []) (rest := [mI 0, mR 148]) (d' := 98) (c_X11_shop (d := 98) (by decide) h) cw_L_7 kc_10 w_707 w_708 dL_shop_3 rfl (by decide) rfl (by decide) sk_0 rfl (hrs_of rfl) (by decide) (by decide) (fun v' h' hz => ?_) (fun i' h' hz => ?_)
    · obtain ⟨e1, rfl⟩ := hz
      cases e1
      refine j_i2lw (pc' := 7) dL_shop_6 rfl ?_
      refine j_last (pc' := 8) dL_shop_7 rfl (by decide) sk_148 (by decide) (by decide) (by decide) ?_
      refine j_goto (tgt := 17) dL_shop_8 rfl ?_
      refine j_iconst (pc' := 18) dL_shop_17 rfl ?_
      exact j_iret dL_shop_18 rfl (by decide) (by decide) ⟨rfl, rfl⟩
    · exact absurd hz.1 nofun
  | inr i =>
    obtain ⟨k, rfl, hk⟩ := A
    refine j_callVT2 (pc' := 6) (as := []) (rest := [mI 0, mR 148]) (d' := 98) (c_X11_shop (d := 98) (by decide) h) cw_L_7 kc_10 w_707 w_708 dL_shop_3 rfl (by decide) rfl (by decide) sk_0 rfl (hrs_of rfl) (by decide) (by decide) (fun v' h' hz => ?_) (fun i' h' hz => ?_)
    · exact absurd hz.1 nofun
    · obtain ⟨e1, rfl⟩ := hz
      cases e1
      match k, hk with
      | 0, hk =>
        cases hk
        refine ⟨11, 2, 12, ⟨[], _, (0, 8, 11, 13), rfl, rfl, by decide, by decide, by decide, by decide, w_704, (fun z hz => absurd hz List.not_mem_nil), (Or.inl ⟨2, rfl, dL_shop_11, rfl⟩), by decide⟩, ?_⟩
        refine j_iconst (pc' := 13) dL_shop_12 rfl ?_
        exact j_iret dL_shop_13 rfl (by decide) (by decide) ⟨rfl, by rw [wg_x]⟩
      | 1, hk =>
        cases hk
        refine ⟨14, 2, 15, ⟨[(0, 8, 11, 13)], _, (0, 8, 14, 15), rfl, rfl, by decide, by decide, by decide, by decide, w_705, (fun z hz => by rw [List.mem_singleton.mp hz]; exact ⟨by decide, 0, by decide, by decide, w_704⟩), (Or.inl ⟨2, rfl, dL_shop_14, rfl⟩), by decide⟩, ?_⟩
        refine j_iconst (pc' := 16) dL_shop_15 rfl ?_
        exact j_iret dL_shop_16 rfl (by decide) (by decide) ⟨rfl, by rw [wg_x]⟩
      | j + 2, hk => simp at hk
theorem cl_law {v t : Int} {D E : mD} {r : Int ⊕ Nat} (h : F_X11_law D = some (r, E)) (A : Agr [0] r v t) : CM 99 1 6 M_L_law [mR 0, mR 148] (SK, D, false) (rI t (oD E (wg E r))) := by
  refine CM.introT pn_L rfl rfl (Nat.le_of_ble_eq_true rfl) (fun Ω => ?_)
  show J Ω M_L_law 99 1 6 _ 0 [some (mR 0), some (mR 148), none] [] _ 0 0
  refine j_aload_n (pc' := 1) dL_law_0 rfl rfl ?_
  refine j_iconst (pc' := 2) dL_law_1 rfl ?_
  refine j_aload_n (pc' := 3) dL_law_2 rfl rfl ?_
  cases r with
  | inl z =>
    obtain ⟨rfl, rfl⟩ := A
    refine j_callVT2 (pc' := 6) (as := []) (rest := [mI 0, mR 148]) (d' := 98) (c_X11_law (d := 98) (by decide) h) cw_L_17 kc_10 w_1022 w_1023 dL_law_3 rfl (by decide) rfl (by decide) sk_0 rfl (hrs_of rfl) (by decide) (by decide) (fun v' h' hz => ?_) (fun i' h' hz => ?_)
    · obtain ⟨e1, rfl⟩ := hz
      cases e1
      refine j_i2lw (pc' := 7) dL_law_6 rfl ?_
      refine j_last (pc' := 8) dL_law_7 rfl (by decide) sk_148 (by decide) (by decide) (by decide) ?_
      refine j_goto (tgt := 14) dL_law_8 rfl ?_
      refine j_iconst (pc' := 15) dL_law_14 rfl ?_
      exact j_iret dL_law_15 rfl (by decide) (by decide) ⟨rfl, rfl⟩
    · exact absurd hz.1 nofun
  | inr i =>
    obtain ⟨k, rfl, hk⟩ := A
    refine j_callVT2 (pc' := 6) (as := []) (rest := [mI 0, mR 148]) (d' := 98) (c_X11_law (d := 98) (by decide) h) cw_L_17 kc_10 w_1022 w_1023 dL_law_3 rfl (by decide) rfl (by decide) sk_0 rfl (hrs_of rfl) (by decide) (by decide) (fun v' h' hz => ?_) (fun i' h' hz => ?_)
    · exact absurd hz.1 nofun
    · obtain ⟨e1, rfl⟩ := hz
      cases e1
      match k, hk with
      | 0, hk =>
        cases hk
        refine ⟨11, 2, 12, ⟨[], _, (0, 8, 11, 13), rfl, rfl, by decide, by decide, by decide, by decide, w_704, (fun z hz => absurd hz List.not_mem_nil), (Or.inl ⟨2, rfl, dL_law_11, rfl⟩), by decide⟩, ?_⟩
        refine j_iconst (pc' := 13) dL_law_12 rfl ?_
        exact j_iret dL_law_13 rfl (by decide) (by decide) ⟨rfl, by rw [wg_x]⟩
      | j + 1, hk => simp at hk
theorem cl_sign {x1 x2 v t : Int} {D E : mD} {r : Int ⊕ Nat} (h : F_X11_sign x1 x2 D = some (r, E)) (A : Agr [2, 4] r v t) : CM 99 2 12 M_L_sign [mR 0, mI x1, mI x2, mR 148] (SK, D, false) (rI t (oD E (wg E r))) := by
  refine CM.introT pn_L rfl rfl (Nat.le_of_ble_eq_true rfl) (fun Ω => ?_)
  show J Ω M_L_sign 99 2 12 _ 0 [some (mR 0), some (mI x1), some (mI x2), some (mR 148), none] [] _ 0 0
  refine j_aload_n (pc' := 1) dL_sign_0 rfl rfl ?_
  refine j_iconst (pc' := 2) dL_sign_1 rfl ?_
  refine j_aload_n (pc' := 3) dL_sign_2 rfl rfl ?_
  refine j_iload_n (pc' := 4) dL_sign_3 rfl rfl ?_
  refine j_iload_n (pc' := 5) dL_sign_4 rfl rfl ?_
  cases r with
  | inl z =>
    obtain ⟨rfl, rfl⟩ := A
    refine j_callVT2 (pc' := 8) (as := [mI x1, mI x2]) (rest := [mI 0, mR 148]) (d' := 98) (c_X11_sign (d := 98) (by decide) h) cw_L_20 kc_10 w_1039 w_1040 dL_sign_5 rfl (by decide) rfl (by decide) sk_0 rfl (hrs_of rfl) (by decide) (by decide) (fun v' h' hz => ?_) (fun i' h' hz => ?_)
    · obtain ⟨e1, rfl⟩ := hz
      cases e1
      refine j_i2lw (pc' := 9) dL_sign_8 rfl ?_
      refine j_last (pc' := 10) dL_sign_9 rfl (by decide) sk_148 (by decide) (by decide) (by decide) ?_
      refine j_goto (tgt := 21) dL_sign_10 rfl ?_
      refine j_iconst (pc' := 22) dL_sign_21 rfl ?_
      exact j_iret dL_sign_22 rfl (by decide) (by decide) ⟨rfl, rfl⟩
    · exact absurd hz.1 nofun
  | inr i =>
    obtain ⟨k, rfl, hk⟩ := A
    refine j_callVT2 (pc' := 8) (as := [mI x1, mI x2]) (rest := [mI 0, mR 148]) (d' := 98) (c_X11_sign (d := 98) (by decide) h) cw_L_20 kc_10 w_1039 w_1040 dL_sign_5 rfl (by decide) rfl (by decide) sk_0 rfl (hrs_of rfl) (by decide) (by decide) (fun v' h' hz => ?_) (fun i' h' hz => ?_)
    · exact absurd hz.1 nofun
    · obtain ⟨e1, rfl⟩ := hz
      cases e1
      match k, hk with
      | 0, hk =>
        cases hk
        refine ⟨13, 4, 15, ⟨[], _, (0, 10, 13, 24), rfl, rfl, by decide, by decide, by decide, by decide, w_1036, (fun z hz => absurd hz List.not_mem_nil), (Or.inr ⟨dL_sign_13, rfl⟩), by decide⟩, ?_⟩
        refine j_iconst (pc' := 16) dL_sign_15 rfl ?_
        exact j_iret dL_sign_16 rfl (by decide) (by decide) ⟨rfl, by rw [wg_x]⟩
      | 1, hk =>
        cases hk
        refine ⟨17, 4, 19, ⟨[(0, 10, 13, 24)], _, (0, 10, 17, 26), rfl, rfl, by decide, by decide, by decide, by decide, w_1037, (fun z hz => by rw [List.mem_singleton.mp hz]; exact ⟨by decide, 2, by decide, by decide, w_1036⟩), (Or.inr ⟨dL_sign_17, rfl⟩), by decide⟩, ?_⟩
        refine j_iconst (pc' := 20) dL_sign_19 rfl ?_
        exact j_iret dL_sign_20 rfl (by decide) (by decide) ⟨rfl, by rw [wg_x]⟩
      | j + 2, hk => simp at hk
theorem cl_side {x1 x2 x3 v t : Int} {D E : mD} {r : Int ⊕ Nat} (h : F_X11_side x1 x2 x3 D = some (r, E)) (A : Agr [2] r v t) : CM 99 2 12 M_L_side [mR 0, mI x1, mI x2, mI x3, mR 148] (SK, D, false) (rI t (oD E (wg E r))) := by
  refine CM.introT pn_L rfl rfl (Nat.le_of_ble_eq_true rfl) (fun Ω => ?_)
  show J Ω M_L_side 99 2 12 _ 0 [some (mR 0), some (mI x1), some (mI x2), some (mI x3), some (mR 148), none] [] _ 0 0
  refine j_aload (pc' := 2) dL_side_0 rfl rfl ?_
  refine j_iconst (pc' := 3) dL_side_2 rfl ?_
  refine j_aload_n (pc' := 4) dL_side_3 rfl rfl ?_
  refine j_iload_n (pc' := 5) dL_side_4 rfl rfl ?_
  refine j_iload_n (pc' := 6) dL_side_5 rfl rfl ?_
  refine j_iload_n (pc' := 7) dL_side_6 rfl rfl ?_
  cases r with
  | inl z =>
    obtain ⟨rfl, rfl⟩ := A
    refine j_callVT2 (pc' := 10) (as := [mI x1, mI x2, mI x3]) (rest := [mI 0, mR 148]) (d' := 98) (c_X11_side (d := 98) (by decide) h) cw_L_28 kc_10 w_1088 w_1089 dL_side_7 rfl (by decide) rfl (by decide) sk_0 rfl (hrs_of rfl) (by decide) (by decide) (fun v' h' hz => ?_) (fun i' h' hz => ?_)
    · obtain ⟨e1, rfl⟩ := hz
      cases e1
      refine j_i2lw (pc' := 11) dL_side_10 rfl ?_
      refine j_last (pc' := 12) dL_side_11 rfl (by decide) sk_148 (by decide) (by decide) (by decide) ?_
      refine j_goto (tgt := 19) dL_side_12 rfl ?_
      refine j_iconst (pc' := 20) dL_side_19 rfl ?_
      exact j_iret dL_side_20 rfl (by decide) (by decide) ⟨rfl, rfl⟩
    · exact absurd hz.1 nofun
  | inr i =>
    obtain ⟨k, rfl, hk⟩ := A
    refine j_callVT2 (pc' := 10) (as := [mI x1, mI x2, mI x3]) (rest := [mI 0, mR 148]) (d' := 98) (c_X11_side (d := 98) (by decide) h) cw_L_28 kc_10 w_1088 w_1089 dL_side_7 rfl (by decide) rfl (by decide) sk_0 rfl (hrs_of rfl) (by decide) (by decide) (fun v' h' hz => ?_) (fun i' h' hz => ?_)
    · exact absurd hz.1 nofun
    · obtain ⟨e1, rfl⟩ := hz
      cases e1
      match k, hk with
      | 0, hk =>
        cases hk
        refine ⟨15, 5, 17, ⟨[], _, (0, 12, 15, 24), rfl, rfl, by decide, by decide, by decide, by decide, w_1036, (fun z hz => absurd hz List.not_mem_nil), (Or.inr ⟨dL_side_15, rfl⟩), by decide⟩, ?_⟩
        refine j_iconst (pc' := 18) dL_side_17 rfl ?_
        exact j_iret dL_side_18 rfl (by decide) (by decide) ⟨rfl, by rw [wg_x]⟩
      | j + 1, hk => simp at hk
theorem cl_letter {x1 x2 v t : Int} {D E : mD} {r : Int ⊕ Nat} (h : F_X11_letter x1 x2 D = some (r, E)) (A : Agr [2, 4] r v t) : CM 99 2 12 M_L_letter [mR 0, mI x1, mI x2, mR 148] (SK, D, false) (rI t (oD E (wg E r))) := by
  refine CM.introT pn_L rfl rfl (Nat.le_of_ble_eq_true rfl) (fun Ω => ?_)
  show J Ω M_L_letter 99 2 12 _ 0 [some (mR 0), some (mI x1), some (mI x2), some (mR 148), none] [] _ 0 0
  refine j_aload_n (pc' := 1) dL_letter_0 rfl rfl ?_
  refine j_iconst (pc' := 2) dL_letter_1 rfl ?_
  refine j_aload_n (pc' := 3) dL_letter_2 rfl rfl ?_
  refine j_iload_n (pc' := 4) dL_letter_3 rfl rfl ?_
  refine j_iload_n (pc' := 5) dL_letter_4 rfl rfl ?_
  cases r with
  | inl z =>
    obtain ⟨rfl, rfl⟩ := A
    refine j_callVT2 (pc' := 8) (as := [mI x1, mI x2]) (rest := [mI 0, mR 148]) (d' := 98) (c_X11_letter (d := 98) (by decide) h) cw_L_32 kc_10 w_1102 w_1103 dL_letter_5 rfl (by decide) rfl (by decide) sk_0 rfl (hrs_of rfl) (by decide) (by decide) (fun v' h' hz => ?_) (fun i' h' hz => ?_)
    · obtain ⟨e1, rfl⟩ := hz
      cases e1
      refine j_i2lw (pc' := 9) dL_letter_8 rfl ?_
      refine j_last (pc' := 10) dL_letter_9 rfl (by decide) sk_148 (by decide) (by decide) (by decide) ?_
      refine j_goto (tgt := 21) dL_letter_10 rfl ?_
      refine j_iconst (pc' := 22) dL_letter_21 rfl ?_
      exact j_iret dL_letter_22 rfl (by decide) (by decide) ⟨rfl, rfl⟩
    · exact absurd hz.1 nofun
  | inr i =>
    obtain ⟨k, rfl, hk⟩ := A
    refine j_callVT2 (pc' := 8) (as := [mI x1, mI x2]) (rest := [mI 0, mR 148]) (d' := 98) (c_X11_letter (d := 98) (by decide) h) cw_L_32 kc_10 w_1102 w_1103 dL_letter_5 rfl (by decide) rfl (by decide) sk_0 rfl (hrs_of rfl) (by decide) (by decide) (fun v' h' hz => ?_) (fun i' h' hz => ?_)
    · exact absurd hz.1 nofun
    · obtain ⟨e1, rfl⟩ := hz
      cases e1
      match k, hk with
      | 0, hk =>
        cases hk
        refine ⟨13, 4, 15, ⟨[], _, (0, 10, 13, 24), rfl, rfl, by decide, by decide, by decide, by decide, w_1036, (fun z hz => absurd hz List.not_mem_nil), (Or.inr ⟨dL_letter_13, rfl⟩), by decide⟩, ?_⟩
        refine j_iconst (pc' := 16) dL_letter_15 rfl ?_
        exact j_iret dL_letter_16 rfl (by decide) (by decide) ⟨rfl, by rw [wg_x]⟩
      | 1, hk =>
        cases hk
        refine ⟨17, 4, 19, ⟨[(0, 10, 13, 24)], _, (0, 10, 17, 26), rfl, rfl, by decide, by decide, by decide, by decide, w_1037, (fun z hz => by rw [List.mem_singleton.mp hz]; exact ⟨by decide, 2, by decide, by decide, w_1036⟩), (Or.inr ⟨dL_letter_17, rfl⟩), by decide⟩, ?_⟩
        refine j_iconst (pc' := 20) dL_letter_19 rfl ?_
        exact j_iret dL_letter_20 rfl (by decide) (by decide) ⟨rfl, by rw [wg_x]⟩
      | j + 2, hk => simp at hk
theorem cl_gap {x1 x2 v t : Int} {D E : mD} {r : Int ⊕ Nat} (h : F_X11_gap x1 x2 D = some (r, E)) (A : Agr [2, 4] r v t) : CM 99 2 12 M_L_gap [mR 0, mI x1, mI x2, mR 148] (SK, D, false) (rI t (oD E (wg E r))) := by
  refine CM.introT pn_L rfl rfl (Nat.le_of_ble_eq_true rfl) (fun Ω => ?_)
  show J Ω M_L_gap 99 2 12 _ 0 [some (mR 0), some (mI x1), some (mI x2), some (mR 148), none] [] _ 0 0
  refine j_aload_n (pc' := 1) dL_gap_0 rfl rfl ?_
  refine j_iconst (pc' := 2) dL_gap_1 rfl ?_
  refine j_aload_n (pc' := 3) dL_gap_2 rfl rfl ?_
  refine j_iload_n (pc' := 4) dL_gap_3 rfl rfl ?_
  refine j_iload_n (pc' := 5) dL_gap_4 rfl rfl ?_
  cases r with
  | inl z =>
    obtain ⟨rfl, rfl⟩ := A
    refine j_callVT2 (pc' := 8) (as := [mI x1, mI x2]) (rest := [mI 0, mR 148]) (d' := 98) (c_X11_gap (d := 98) (by decide) h) cw_L_35 kc_10 w_1117 w_1118 dL_gap_5 rfl (by decide) rfl (by decide) sk_0 rfl (hrs_of rfl) (by decide) (by decide) (fun v' h' hz => ?_) (fun i' h' hz => ?_)
    · obtain ⟨e1, rfl⟩ := hz
      cases e1
      refine j_i2lw (pc' := 9) dL_gap_8 rfl ?_
      refine j_last (pc' := 10) dL_gap_9 rfl (by decide) sk_148 (by decide) (by decide) (by decide) ?_
      refine j_goto (tgt := 21) dL_gap_10 rfl ?_
      refine j_iconst (pc' := 22) dL_gap_21 rfl ?_
      exact j_iret dL_gap_22 rfl (by decide) (by decide) ⟨rfl, rfl⟩
    · exact absurd hz.1 nofun
  | inr i =>
    obtain ⟨k, rfl, hk⟩ := A
    refine j_callVT2 (pc' := 8) (as := [mI x1, mI x2]) (rest := [mI 0, mR 148]) (d' := 98) (c_X11_gap (d := 98) (by decide) h) cw_L_35 kc_10 w_1117 w_1118 dL_gap_5 rfl (by decide) rfl (by decide) sk_0 rfl (hrs_of rfl) (by decide) (by decide) (fun v' h' hz => ?_) (fun i' h' hz => ?_)
    · exact absurd hz.1 nofun
    · obtain ⟨e1, rfl⟩ := hz
      cases e1
      match k, hk with
      | 0, hk =>
        cases hk
        refine ⟨13, 4, 15, ⟨[], _, (0, 10, 13, 24), rfl, rfl, by decide, by decide, by decide, by decide, w_1036, (fun z hz => absurd hz List.not_mem_nil), (Or.inr ⟨dL_gap_13, rfl⟩), by decide⟩, ?_⟩
        refine j_iconst (pc' := 16) dL_gap_15 rfl ?_
        exact j_iret dL_gap_16 rfl (by decide) (by decide) ⟨rfl, by rw [wg_x]⟩
      | 1, hk =>
        cases hk
        refine ⟨17, 4, 19, ⟨[(0, 10, 13, 24)], _, (0, 10, 17, 26), rfl, rfl, by decide, by decide, by decide, by decide, w_1037, (fun z hz => by rw [List.mem_singleton.mp hz]; exact ⟨by decide, 2, by decide, by decide, w_1036⟩), (Or.inr ⟨dL_gap_17, rfl⟩), by decide⟩, ?_⟩
        refine j_iconst (pc' := 20) dL_gap_19 rfl ?_
        exact j_iret dL_gap_20 rfl (by decide) (by decide) ⟨rfl, by rw [wg_x]⟩
      | j + 2, hk => simp at hk
theorem cl_row {x1 x2 x3 v t : Int} {D E : mD} {r : Int ⊕ Nat} (h : F_X11_row x1 x2 x3 D = some (r, E)) (A : Agr [2] r v t) : CM 99 2 12 M_L_row [mR 0, mI x1, mI x2, mI x3, mR 148] (SK, D, false) (rI t (oD E (wg E r))) := by
  refine CM.introT pn_L rfl rfl (Nat.le_of_ble_eq_true rfl) (fun Ω => ?_)
  show J Ω M_L_row 99 2 12 _ 0 [some (mR 0), some (mI x1), some (mI x2), some (mI x3), some (mR 148), none] [] _ 0 0
  refine j_aload (pc' := 2) dL_row_0 rfl rfl ?_
  refine j_iconst (pc' := 3) dL_row_2 rfl ?_
  refine j_aload_n (pc' := 4) dL_row_3 rfl rfl ?_
  refine j_iload_n (pc' := 5) dL_row_4 rfl rfl ?_
  refine j_iload_n (pc' := 6) dL_row_5 rfl rfl ?_
  refine j_iload_n (pc' := 7) dL_row_6 rfl rfl ?_
  cases r with
  | inl z =>
    obtain ⟨rfl, rfl⟩ := A
    refine j_callVT2 (pc' := 10) (as := [mI x1, mI x2, mI x3]) (rest := [mI 0, mR 148]) (d' := 98) (c_X11_row (d := 98) (by decide) h) cw_L_38 kc_10 w_1132 w_1133 dL_row_7 rfl (by decide) rfl (by decide) sk_0 rfl (hrs_of rfl) (by decide) (by decide) (fun v' h' hz => ?_) (fun i' h' hz => ?_)
    · obtain ⟨e1, rfl⟩ := hz
      cases e1
      refine j_i2lw (pc' := 11) dL_row_10 rfl ?_
      refine j_last (pc' := 12) dL_row_11 rfl (by decide) sk_148 (by decide) (by decide) (by decide) ?_
      refine j_goto (tgt := 19) dL_row_12 rfl ?_
      refine j_iconst (pc' := 20) dL_row_19 rfl ?_
      exact j_iret dL_row_20 rfl (by decide) (by decide) ⟨rfl, rfl⟩
    · exact absurd hz.1 nofun
  | inr i =>
    obtain ⟨k, rfl, hk⟩ := A
    refine j_callVT2 (pc' := 10) (as := [mI x1, mI x2, mI x3]) (rest := [mI 0, mR 148]) (d' := 98) (c_X11_row (d := 98) (by decide) h) cw_L_38 kc_10 w_1132 w_1133 dL_row_7 rfl (by decide) rfl (by decide) sk_0 rfl (hrs_of rfl) (by decide) (by decide) (fun v' h' hz => ?_) (fun i' h' hz => ?_)
    · exact absurd hz.1 nofun
    · obtain ⟨e1, rfl⟩ := hz
      cases e1
      match k, hk with
      | 0, hk =>
        cases hk
        refine ⟨15, 5, 17, ⟨[], _, (0, 12, 15, 24), rfl, rfl, by decide, by decide, by decide, by decide, w_1036, (fun z hz => absurd hz List.not_mem_nil), (Or.inr ⟨dL_row_15, rfl⟩), by decide⟩, ?_⟩
        refine j_iconst (pc' := 18) dL_row_17 rfl ?_
        exact j_iret dL_row_18 rfl (by decide) (by decide) ⟨rfl, by rw [wg_x]⟩
      | j + 1, hk => simp at hk
theorem cl_fades {x1 x2 v t : Int} {D E : mD} {r : Int ⊕ Nat} (h : F_X11_fades x1 x2 D = some (r, E)) (A : Agr [0] r v t) : CM 99 2 12 M_L_fades [mR 0, mI x1, mI x2, mR 148] (SK, D, false) (rI t (oD E (wg E r))) := by
  refine CM.introT pn_L rfl rfl (Nat.le_of_ble_eq_true rfl) (fun Ω => ?_)
  show J Ω M_L_fades 99 2 12 _ 0 [some (mR 0), some (mI x1), some (mI x2), some (mR 148), none] [] _ 0 0
  refine j_aload_n (pc' := 1) dL_fades_0 rfl rfl ?_
  refine j_iconst (pc' := 2) dL_fades_1 rfl ?_
  refine j_aload_n (pc' := 3) dL_fades_2 rfl rfl ?_
  refine j_iload_n (pc' := 4) dL_fades_3 rfl rfl ?_
  refine j_iload_n (pc' := 5) dL_fades_4 rfl rfl ?_
  cases r with
  | inl z =>
    obtain ⟨rfl, rfl⟩ := A
    refine j_callVT2 (pc' := 8) (as := [mI x1, mI x2]) (rest := [mI 0, mR 148]) (d' := 98) (c_X11_fades (d := 98) (by decide) h) cw_L_41 kc_10 w_1141 w_1142 dL_fades_5 rfl (by decide) rfl (by decide) sk_0 rfl (hrs_of rfl) (by decide) (by decide) (fun v' h' hz => ?_) (fun i' h' hz => ?_)
    · obtain ⟨e1, rfl⟩ := hz
      cases e1
      refine j_i2lw (pc' := 9) dL_fades_8 rfl ?_
      refine j_last (pc' := 10) dL_fades_9 rfl (by decide) sk_148 (by decide) (by decide) (by decide) ?_
      refine j_goto (tgt := 17) dL_fades_10 rfl ?_
      refine j_iconst (pc' := 18) dL_fades_17 rfl ?_
      exact j_iret dL_fades_18 rfl (by decide) (by decide) ⟨rfl, rfl⟩
    · exact absurd hz.1 nofun
  | inr i =>
    obtain ⟨k, rfl, hk⟩ := A
    refine j_callVT2 (pc' := 8) (as := [mI x1, mI x2]) (rest := [mI 0, mR 148]) (d' := 98) (c_X11_fades (d := 98) (by decide) h) cw_L_41 kc_10 w_1141 w_1142 dL_fades_5 rfl (by decide) rfl (by decide) sk_0 rfl (hrs_of rfl) (by decide) (by decide) (fun v' h' hz => ?_) (fun i' h' hz => ?_)
    · exact absurd hz.1 nofun
    · obtain ⟨e1, rfl⟩ := hz
      cases e1
      match k, hk with
      | 0, hk =>
        cases hk
        refine ⟨13, 4, 15, ⟨[], _, (0, 10, 13, 13), rfl, rfl, by decide, by decide, by decide, by decide, w_704, (fun z hz => absurd hz List.not_mem_nil), (Or.inr ⟨dL_fades_13, rfl⟩), by decide⟩, ?_⟩
        refine j_iconst (pc' := 16) dL_fades_15 rfl ?_
        exact j_iret dL_fades_16 rfl (by decide) (by decide) ⟨rfl, by rw [wg_x]⟩
      | j + 1, hk => simp at hk
theorem cl_shift {x1 x2 v t : Int} {D E : mD} {r : Int ⊕ Nat} (h : F_X11_shift x1 x2 D = some (r, E)) (A : Agr [2, 0] r v t) : CM 99 2 12 M_L_shift [mR 0, mI x1, mI x2, mR 148] (SK, D, false) (rI t (oD E (wg E r))) := by
  refine CM.introT pn_L rfl rfl (Nat.le_of_ble_eq_true rfl) (fun Ω => ?_)
  show J Ω M_L_shift 99 2 12 _ 0 [some (mR 0), some (mI x1), some (mI x2), some (mR 148), none] [] _ 0 0
  refine j_aload_n (pc' := 1) dL_shift_0 rfl rfl ?_
  refine j_iconst (pc' := 2) dL_shift_1 rfl ?_
  refine j_aload_n (pc' := 3) dL_shift_2 rfl rfl ?_
  refine j_iload_n (pc' := 4) dL_shift_3 rfl rfl ?_
  refine j_iload_n (pc' := 5) dL_shift_4 rfl rfl ?_
  cases r with
  | inl z =>
    obtain ⟨rfl, rfl⟩ := A
    refine j_callVT2 (pc' := 8) (as := [mI x1, mI x2]) (rest := [mI 0, mR 148]) (d' := 98) (c_X11_shift (d := 98) (by decide) h) cw_L_44 kc_10 w_1159 w_1160 dL_shift_5 rfl (by decide) rfl (by decide) sk_0 rfl (hrs_of rfl) (by decide) (by decide) (fun v' h' hz => ?_) (fun i' h' hz => ?_)
    · obtain ⟨e1, rfl⟩ := hz
      cases e1
      refine j_i2lw (pc' := 9) dL_shift_8 rfl ?_
      refine j_last (pc' := 10) dL_shift_9 rfl (by decide) sk_148 (by decide) (by decide) (by decide) ?_
      refine j_goto (tgt := 21) dL_shift_10 rfl ?_
      refine j_iconst (pc' := 22) dL_shift_21 rfl ?_
      exact j_iret dL_shift_22 rfl (by decide) (by decide) ⟨rfl, rfl⟩
    · exact absurd hz.1 nofun
  | inr i =>
    obtain ⟨k, rfl, hk⟩ := A
    refine j_callVT2 (pc' := 8) (as := [mI x1, mI x2]) (rest := [mI 0, mR 148]) (d' := 98) (c_X11_shift (d := 98) (by decide) h) cw_L_44 kc_10 w_1159 w_1160 dL_shift_5 rfl (by decide) rfl (by decide) sk_0 rfl (hrs_of rfl) (by decide) (by decide) (fun v' h' hz => ?_) (fun i' h' hz => ?_)
    · exact absurd hz.1 nofun
    · obtain ⟨e1, rfl⟩ := hz
      cases e1
      match k, hk with
      | 0, hk =>
        cases hk
        refine ⟨13, 4, 15, ⟨[], _, (0, 10, 13, 24), rfl, rfl, by decide, by decide, by decide, by decide, w_1036, (fun z hz => absurd hz List.not_mem_nil), (Or.inr ⟨dL_shift_13, rfl⟩), by decide⟩, ?_⟩
        refine j_iconst (pc' := 16) dL_shift_15 rfl ?_
        exact j_iret dL_shift_16 rfl (by decide) (by decide) ⟨rfl, by rw [wg_x]⟩
      | 1, hk =>
        cases hk
        refine ⟨17, 4, 19, ⟨[(0, 10, 13, 24)], _, (0, 10, 17, 13), rfl, rfl, by decide, by decide, by decide, by decide, w_704, (fun z hz => by rw [List.mem_singleton.mp hz]; exact ⟨by decide, 2, by decide, by decide, w_1036⟩), (Or.inr ⟨dL_shift_17, rfl⟩), by decide⟩, ?_⟩
        refine j_iconst (pc' := 20) dL_shift_19 rfl ?_
        exact j_iret dL_shift_20 rfl (by decide) (by decide) ⟨rfl, by rw [wg_x]⟩
      | j + 2, hk => simp at hk
theorem cl_squeezed {x1 x2 v t : Int} {D E : mD} {r : Int ⊕ Nat} (h : F_X11_squeezed x1 x2 D = some (r, E)) (A : Agr [2, 0] r v t) : CM 99 2 12 M_L_squeezed [mR 0, mI x1, mI x2, mR 148] (SK, D, false) (rI t (oD E (wg E r))) := by
  refine CM.introT pn_L rfl rfl (Nat.le_of_ble_eq_true rfl) (fun Ω => ?_)
  show J Ω M_L_squeezed 99 2 12 _ 0 [some (mR 0), some (mI x1), some (mI x2), some (mR 148), none] [] _ 0 0
  refine j_aload_n (pc' := 1) dL_squeezed_0 rfl rfl ?_
  refine j_iconst (pc' := 2) dL_squeezed_1 rfl ?_
  refine j_aload_n (pc' := 3) dL_squeezed_2 rfl rfl ?_
  refine j_iload_n (pc' := 4) dL_squeezed_3 rfl rfl ?_
  refine j_iload_n (pc' := 5) dL_squeezed_4 rfl rfl ?_
  cases r with
  | inl z =>
    obtain ⟨rfl, rfl⟩ := A
    refine j_callVT2 (pc' := 8) (as := [mI x1, mI x2]) (rest := [mI 0, mR 148]) (d' := 98) (c_X11_squeezed (d := 98) (by decide) h) cw_L_47 kc_10 w_1176 w_1177 dL_squeezed_5 rfl (by decide) rfl (by decide) sk_0 rfl (hrs_of rfl) (by decide) (by decide) (fun v' h' hz => ?_) (fun i' h' hz => ?_)
    · obtain ⟨e1, rfl⟩ := hz
      cases e1
      refine j_i2lw (pc' := 9) dL_squeezed_8 rfl ?_
      refine j_last (pc' := 10) dL_squeezed_9 rfl (by decide) sk_148 (by decide) (by decide) (by decide) ?_
      refine j_goto (tgt := 21) dL_squeezed_10 rfl ?_
      refine j_iconst (pc' := 22) dL_squeezed_21 rfl ?_
      exact j_iret dL_squeezed_22 rfl (by decide) (by decide) ⟨rfl, rfl⟩
    · exact absurd hz.1 nofun
  | inr i =>
    obtain ⟨k, rfl, hk⟩ := A
    refine j_callVT2 (pc' := 8) (as := [mI x1, mI x2]) (rest := [mI 0, mR 148]) (d' := 98) (c_X11_squeezed (d := 98) (by decide) h) cw_L_47 kc_10 w_1176 w_1177 dL_squeezed_5 rfl (by decide) rfl (by decide) sk_0 rfl (hrs_of rfl) (by decide) (by decide) (fun v' h' hz => ?_) (fun i' h' hz => ?_)
    · exact absurd hz.1 nofun
    · obtain ⟨e1, rfl⟩ := hz
      cases e1
      match k, hk with
      | 0, hk =>
        cases hk
        refine ⟨13, 4, 15, ⟨[], _, (0, 10, 13, 24), rfl, rfl, by decide, by decide, by decide, by decide, w_1036, (fun z hz => absurd hz List.not_mem_nil), (Or.inr ⟨dL_squeezed_13, rfl⟩), by decide⟩, ?_⟩
        refine j_iconst (pc' := 16) dL_squeezed_15 rfl ?_
        exact j_iret dL_squeezed_16 rfl (by decide) (by decide) ⟨rfl, by rw [wg_x]⟩
      | 1, hk =>
        cases hk
        refine ⟨17, 4, 19, ⟨[(0, 10, 13, 24)], _, (0, 10, 17, 13), rfl, rfl, by decide, by decide, by decide, by decide, w_704, (fun z hz => by rw [List.mem_singleton.mp hz]; exact ⟨by decide, 2, by decide, by decide, w_1036⟩), (Or.inr ⟨dL_squeezed_17, rfl⟩), by decide⟩, ?_⟩
        refine j_iconst (pc' := 20) dL_squeezed_19 rfl ?_
        exact j_iret dL_squeezed_20 rfl (by decide) (by decide) ⟨rfl, by rw [wg_x]⟩
      | j + 2, hk => simp at hk
theorem cl_shadow {x1 v t : Int} {D E : mD} {r : Int ⊕ Nat} (h : F_X11_shadow x1 D = some (r, E)) (A : Agr [0] r v t) : CM 99 1 6 M_L_shadow [mR 0, mI x1, mR 148] (SK, D, false) (rI t (oD E (wg E r))) := by
  refine CM.introT pn_L rfl rfl (Nat.le_of_ble_eq_true rfl) (fun Ω => ?_)
  show J Ω M_L_shadow 99 1 6 _ 0 [some (mR 0), some (mI x1), some (mR 148), none] [] _ 0 0
  refine j_aload_n (pc' := 1) dL_shadow_0 rfl rfl ?_
  refine j_iconst (pc' := 2) dL_shadow_1 rfl ?_
  refine j_aload_n (pc' := 3) dL_shadow_2 rfl rfl ?_
  refine j_iload_n (pc' := 4) dL_shadow_3 rfl rfl ?_
  cases r with
  | inl z =>
    obtain ⟨rfl, rfl⟩ := A
    refine j_callVT2 (pc' := 7) (as := [mI x1]) (rest := [mI 0, mR 148]) (d' := 98) (c_X11_shadow (d := 98) (by decide) h) cw_L_50 kc_10 w_1184 w_1185 dL_shadow_4 rfl (by decide) rfl (by decide) sk_0 rfl (hrs_of rfl) (by decide) (by decide) (fun v' h' hz => ?_) (fun i' h' hz => ?_)
    · obtain ⟨e1, rfl⟩ := hz
      cases e1
      refine j_i2lw (pc' := 8) dL_shadow_7 rfl ?_
      refine j_last (pc' := 9) dL_shadow_8 rfl (by decide) sk_148 (by decide) (by decide) (by decide) ?_
      refine j_goto (tgt := 15) dL_shadow_9 rfl ?_
      refine j_iconst (pc' := 16) dL_shadow_15 rfl ?_
      exact j_iret dL_shadow_16 rfl (by decide) (by decide) ⟨rfl, rfl⟩
    · exact absurd hz.1 nofun
  | inr i =>
    obtain ⟨k, rfl, hk⟩ := A
    refine j_callVT2 (pc' := 7) (as := [mI x1]) (rest := [mI 0, mR 148]) (d' := 98) (c_X11_shadow (d := 98) (by decide) h) cw_L_50 kc_10 w_1184 w_1185 dL_shadow_4 rfl (by decide) rfl (by decide) sk_0 rfl (hrs_of rfl) (by decide) (by decide) (fun v' h' hz => ?_) (fun i' h' hz => ?_)
    · exact absurd hz.1 nofun
    · obtain ⟨e1, rfl⟩ := hz
      cases e1
      match k, hk with
      | 0, hk =>
        cases hk
        refine ⟨12, 3, 13, ⟨[], _, (0, 9, 12, 13), rfl, rfl, by decide, by decide, by decide, by decide, w_704, (fun z hz => absurd hz List.not_mem_nil), (Or.inl ⟨3, rfl, dL_shadow_12, rfl⟩), by decide⟩, ?_⟩
        refine j_iconst (pc' := 14) dL_shadow_13 rfl ?_
        exact j_iret dL_shadow_14 rfl (by decide) (by decide) ⟨rfl, by rw [wg_x]⟩
      | j + 1, hk => simp at hk
theorem cl_lays {x1 v t : Int} {D E : mD} {r : Int ⊕ Nat} (h : F_X11_lays x1 D = some (r, E)) (A : Agr [0, 1] r v t) : CM 99 2 12 M_L_lays [mR 0, mI x1, mR 148] (SK, D, false) (rI t (oD E (wg E r))) := by
  refine CM.introT pn_L rfl rfl (Nat.le_of_ble_eq_true rfl) (fun Ω => ?_)
  show J Ω M_L_lays 99 2 12 _ 0 [some (mR 0), some (mI x1), some (mR 148), none] [] _ 0 0
  refine j_aload_n (pc' := 1) dL_lays_0 rfl rfl ?_
  refine j_iconst (pc' := 2) dL_lays_1 rfl ?_
  refine j_aload_n (pc' := 3) dL_lays_2 rfl rfl ?_
  refine j_iload_n (pc' := 4) dL_lays_3 rfl rfl ?_
  cases r with
  | inl z =>
    obtain ⟨rfl, rfl⟩ := A
    refine j_callVT2 (pc' := 7) (as := [mI x1]) (rest := [mI 0, mR 148]) (d' := 98) (c_X11_lays (d := 98) (by decide) h) cw_L_54 kc_10 w_1193 w_1194 dL_lays_4 rfl (by decide) rfl (by decide) sk_0 rfl (hrs_of rfl) (by decide) (by decide) (fun v' h' hz => ?_) (fun i' h' hz => ?_)
    · obtain ⟨e1, rfl⟩ := hz
      cases e1
      refine j_i2lw (pc' := 8) dL_lays_7 rfl ?_
      refine j_last (pc' := 9) dL_lays_8 rfl (by decide) sk_148 (by decide) (by decide) (by decide) ?_
      refine j_goto (tgt := 18) dL_lays_9 rfl ?_
      refine j_iconst (pc' := 19) dL_lays_18 rfl ?_
      exact j_iret dL_lays_19 rfl (by decide) (by decide) ⟨rfl, rfl⟩
    · exact absurd hz.1 nofun
  | inr i =>
    obtain ⟨k, rfl, hk⟩ := A
    refine j_callVT2 (pc' := 7) (as := [mI x1]) (rest := [mI 0, mR 148]) (d' := 98) (c_X11_lays (d := 98) (by decide) h) cw_L_54 kc_10 w_1193 w_1194 dL_lays_4 rfl (by decide) rfl (by decide) sk_0 rfl (hrs_of rfl) (by decide) (by decide) (fun v' h' hz => ?_) (fun i' h' hz => ?_)
    · exact absurd hz.1 nofun
    · obtain ⟨e1, rfl⟩ := hz
      cases e1
      match k, hk with
      | 0, hk =>
        cases hk
        refine ⟨12, 3, 13, ⟨[], _, (0, 9, 12, 13), rfl, rfl, by decide, by decide, by decide, by decide, w_704, (fun z hz => absurd hz List.not_mem_nil), (Or.inl ⟨3, rfl, dL_lays_12, rfl⟩), by decide⟩, ?_⟩
        refine j_iconst (pc' := 14) dL_lays_13 rfl ?_
        exact j_iret dL_lays_14 rfl (by decide) (by decide) ⟨rfl, by rw [wg_x]⟩
      | 1, hk =>
        cases hk
        refine ⟨15, 3, 16, ⟨[(0, 9, 12, 13)], _, (0, 9, 15, 57), rfl, rfl, by decide, by decide, by decide, by decide, w_1191, (fun z hz => by rw [List.mem_singleton.mp hz]; exact ⟨by decide, 0, by decide, by decide, w_704⟩), (Or.inl ⟨3, rfl, dL_lays_15, rfl⟩), by decide⟩, ?_⟩
        refine j_iconst (pc' := 17) dL_lays_16 rfl ?_
        exact j_iret dL_lays_17 rfl (by decide) (by decide) ⟨rfl, by rw [wg_x]⟩
      | j + 2, hk => simp at hk
theorem cl_paint {x1 v t : Int} {D E : mD} {r : Int ⊕ Nat} (h : F_X11_paint x1 D = some (r, E)) (A : Agr [2] r v t) : CM 99 1 6 M_L_paint [mR 0, mI x1, mR 148] (SK, D, false) (rI t (oD E (wg E r))) := by
  refine CM.introT pn_L rfl rfl (Nat.le_of_ble_eq_true rfl) (fun Ω => ?_)
  show J Ω M_L_paint 99 1 6 _ 0 [some (mR 0), some (mI x1), some (mR 148), none] [] _ 0 0
  refine j_aload_n (pc' := 1) dL_paint_0 rfl rfl ?_
  refine j_iconst (pc' := 2) dL_paint_1 rfl ?_
  refine j_aload_n (pc' := 3) dL_paint_2 rfl rfl ?_
  refine j_iload_n (pc' := 4) dL_paint_3 rfl rfl ?_
  cases r with
  | inl z =>
    obtain ⟨rfl, rfl⟩ := A
    refine j_callVT2 (pc' := 7) (as := [mI x1]) (rest := [mI 0, mR 148]) (d' := 98) (c_X11_paint (d := 98) (by decide) h) cw_L_59 kc_10 w_1229 w_1230 dL_paint_4 rfl (by decide) rfl (by decide) sk_0 rfl (hrs_of rfl) (by decide) (by decide) (fun v' h' hz => ?_) (fun i' h' hz => ?_)
    · obtain ⟨e1, rfl⟩ := hz
      cases e1
      refine j_i2lw (pc' := 8) dL_paint_7 rfl ?_
      refine j_last (pc' := 9) dL_paint_8 rfl (by decide) sk_148 (by decide) (by decide) (by decide) ?_
      refine j_goto (tgt := 15) dL_paint_9 rfl ?_
      refine j_iconst (pc' := 16) dL_paint_15 rfl ?_
      exact j_iret dL_paint_16 rfl (by decide) (by decide) ⟨rfl, rfl⟩
    · exact absurd hz.1 nofun
  | inr i =>
    obtain ⟨k, rfl, hk⟩ := A
    refine j_callVT2 (pc' := 7) (as := [mI x1]) (rest := [mI 0, mR 148]) (d' := 98) (c_X11_paint (d := 98) (by decide) h) cw_L_59 kc_10 w_1229 w_1230 dL_paint_4 rfl (by decide) rfl (by decide) sk_0 rfl (hrs_of rfl) (by decide) (by decide) (fun v' h' hz => ?_) (fun i' h' hz => ?_)
    · exact absurd hz.1 nofun
    · obtain ⟨e1, rfl⟩ := hz
      cases e1
      match k, hk with
      | 0, hk =>
        cases hk
        refine ⟨12, 3, 13, ⟨[], _, (0, 9, 12, 24), rfl, rfl, by decide, by decide, by decide, by decide, w_1036, (fun z hz => absurd hz List.not_mem_nil), (Or.inl ⟨3, rfl, dL_paint_12, rfl⟩), by decide⟩, ?_⟩
        refine j_iconst (pc' := 14) dL_paint_13 rfl ?_
        exact j_iret dL_paint_14 rfl (by decide) (by decide) ⟨rfl, by rw [wg_x]⟩
      | j + 1, hk => simp at hk
theorem cl_off {x1 v t : Int} {D E : mD} {r : Int ⊕ Nat} (h : F_X11_off x1 D = some (r, E)) (A : Agr [0] r v t) : CM 99 1 6 M_L_off [mR 0, mI x1, mR 148] (SK, D, false) (rI t (oD E (wg E r))) := by
  refine CM.introT pn_L rfl rfl (Nat.le_of_ble_eq_true rfl) (fun Ω => ?_)
  show J Ω M_L_off 99 1 6 _ 0 [some (mR 0), some (mI x1), some (mR 148), none] [] _ 0 0
  refine j_aload_n (pc' := 1) dL_off_0 rfl rfl ?_
  refine j_iconst (pc' := 2) dL_off_1 rfl ?_
  refine j_aload_n (pc' := 3) dL_off_2 rfl rfl ?_
  refine j_iload_n (pc' := 4) dL_off_3 rfl rfl ?_
  cases r with
  | inl z =>
    obtain ⟨rfl, rfl⟩ := A
    refine j_callVT2 (pc' := 7) (as := [mI x1]) (rest := [mI 0, mR 148]) (d' := 98) (c_X11_off (d := 98) (by decide) h) cw_L_62 kc_10 w_1260 w_1261 dL_off_4 rfl (by decide) rfl (by decide) sk_0 rfl (hrs_of rfl) (by decide) (by decide) (fun v' h' hz => ?_) (fun i' h' hz => ?_)
    · obtain ⟨e1, rfl⟩ := hz
      cases e1
      refine j_i2lw (pc' := 8) dL_off_7 rfl ?_
      refine j_last (pc' := 9) dL_off_8 rfl (by decide) sk_148 (by decide) (by decide) (by decide) ?_
      refine j_goto (tgt := 15) dL_off_9 rfl ?_
      refine j_iconst (pc' := 16) dL_off_15 rfl ?_
      exact j_iret dL_off_16 rfl (by decide) (by decide) ⟨rfl, rfl⟩
    · exact absurd hz.1 nofun
  | inr i =>
    obtain ⟨k, rfl, hk⟩ := A
    refine j_callVT2 (pc' := 7) (as := [mI x1]) (rest := [mI 0, mR 148]) (d' := 98) (c_X11_off (d := 98) (by decide) h) cw_L_62 kc_10 w_1260 w_1261 dL_off_4 rfl (by decide) rfl (by decide) sk_0 rfl (hrs_of rfl) (by decide) (by decide) (fun v' h' hz => ?_) (fun i' h' hz => ?_)
    · exact absurd hz.1 nofun
    · obtain ⟨e1, rfl⟩ := hz
      cases e1
      match k, hk with
      | 0, hk =>
        cases hk
        refine ⟨12, 3, 13, ⟨[], _, (0, 9, 12, 13), rfl, rfl, by decide, by decide, by decide, by decide, w_704, (fun z hz => absurd hz List.not_mem_nil), (Or.inl ⟨3, rfl, dL_off_12, rfl⟩), by decide⟩, ?_⟩
        refine j_iconst (pc' := 14) dL_off_13 rfl ?_
        exact j_iret dL_off_14 rfl (by decide) (by decide) ⟨rfl, by rw [wg_x]⟩
      | j + 1, hk => simp at hk
theorem cl_laid {x1 x2 v t : Int} {D E : mD} {r : Int ⊕ Nat} (h : F_X11_laid x1 x2 D = some (r, E)) (A : Agr [0] r v t) : CM 99 1 6 M_L_laid [mR 0, mI x1, mI x2, mR 148] (SK, D, false) (rI t (oD E (wg E r))) := by
  refine CM.introT pn_L rfl rfl (Nat.le_of_ble_eq_true rfl) (fun Ω => ?_)
  show J Ω M_L_laid 99 1 6 _ 0 [some (mR 0), some (mI x1), some (mI x2), some (mR 148), none] [] _ 0 0
  refine j_aload_n (pc' := 1) dL_laid_0 rfl rfl ?_
  refine j_iconst (pc' := 2) dL_laid_1 rfl ?_
  refine j_aload_n (pc' := 3) dL_laid_2 rfl rfl ?_
  refine j_iload_n (pc' := 4) dL_laid_3 rfl rfl ?_
  refine j_iload_n (pc' := 5) dL_laid_4 rfl rfl ?_
  cases r with
  | inl z =>
    obtain ⟨rfl, rfl⟩ := A
    refine j_callVT2 (pc' := 8) (as := [mI x1, mI x2]) (rest := [mI 0, mR 148]) (d' := 98) (c_X11_laid (d := 98) (by decide) h) cw_L_65 kc_10 w_1268 w_1269 dL_laid_5 rfl (by decide) rfl (by decide) sk_0 rfl (hrs_of rfl) (by decide) (by decide) (fun v' h' hz => ?_) (fun i' h' hz => ?_)
    · obtain ⟨e1, rfl⟩ := hz
      cases e1
      refine j_i2lw (pc' := 9) dL_laid_8 rfl ?_
      refine j_last (pc' := 10) dL_laid_9 rfl (by decide) sk_148 (by decide) (by decide) (by decide) ?_
      refine j_goto (tgt := 17) dL_laid_10 rfl ?_
      refine j_iconst (pc' := 18) dL_laid_17 rfl ?_
      exact j_iret dL_laid_18 rfl (by decide) (by decide) ⟨rfl, rfl⟩
    · exact absurd hz.1 nofun
  | inr i =>
    obtain ⟨k, rfl, hk⟩ := A
    refine j_callVT2 (pc' := 8) (as := [mI x1, mI x2]) (rest := [mI 0, mR 148]) (d' := 98) (c_X11_laid (d := 98) (by decide) h) cw_L_65 kc_10 w_1268 w_1269 dL_laid_5 rfl (by decide) rfl (by decide) sk_0 rfl (hrs_of rfl) (by decide) (by decide) (fun v' h' hz => ?_) (fun i' h' hz => ?_)
    · exact absurd hz.1 nofun
    · obtain ⟨e1, rfl⟩ := hz
      cases e1
      match k, hk with
      | 0, hk =>
        cases hk
        refine ⟨13, 4, 15, ⟨[], _, (0, 10, 13, 13), rfl, rfl, by decide, by decide, by decide, by decide, w_704, (fun z hz => absurd hz List.not_mem_nil), (Or.inr ⟨dL_laid_13, rfl⟩), by decide⟩, ?_⟩
        refine j_iconst (pc' := 16) dL_laid_15 rfl ?_
        exact j_iret dL_laid_16 rfl (by decide) (by decide) ⟨rfl, by rw [wg_x]⟩
      | j + 1, hk => simp at hk
theorem cl_nearest {x1 x2 v t : Int} {D E : mD} {r : Int ⊕ Nat} (h : F_X11_nearest x1 x2 D = some (r, E)) (A : Agr [2, 0] r v t) : CM 99 2 12 M_L_nearest [mR 0, mI x1, mI x2, mR 148] (SK, D, false) (rI t (oD E (wg E r))) := by
  refine CM.introT pn_L rfl rfl (Nat.le_of_ble_eq_true rfl) (fun Ω => ?_)
  show J Ω M_L_nearest 99 2 12 _ 0 [some (mR 0), some (mI x1), some (mI x2), some (mR 148), none] [] _ 0 0
  refine j_aload_n (pc' := 1) dL_nearest_0 rfl rfl ?_
  refine j_iconst (pc' := 2) dL_nearest_1 rfl ?_
  refine j_aload_n (pc' := 3) dL_nearest_2 rfl rfl ?_
  refine j_iload_n (pc' := 4) dL_nearest_3 rfl rfl ?_
  refine j_iload_n (pc' := 5) dL_nearest_4 rfl rfl ?_
  cases r with
  | inl z =>
    obtain ⟨rfl, rfl⟩ := A
    refine j_callVT2 (pc' := 8) (as := [mI x1, mI x2]) (rest := [mI 0, mR 148]) (d' := 98) (c_X11_nearest (d := 98) (by decide) h) cw_L_68 kc_10 w_1279 w_1280 dL_nearest_5 rfl (by decide) rfl (by decide) sk_0 rfl (hrs_of rfl) (by decide) (by decide) (fun v' h' hz => ?_) (fun i' h' hz => ?_)
    · obtain ⟨e1, rfl⟩ := hz
      cases e1
      refine j_i2lw (pc' := 9) dL_nearest_8 rfl ?_
      refine j_last (pc' := 10) dL_nearest_9 rfl (by decide) sk_148 (by decide) (by decide) (by decide) ?_
      refine j_goto (tgt := 21) dL_nearest_10 rfl ?_
      refine j_iconst (pc' := 22) dL_nearest_21 rfl ?_
      exact j_iret dL_nearest_22 rfl (by decide) (by decide) ⟨rfl, rfl⟩
    · exact absurd hz.1 nofun
  | inr i =>
    obtain ⟨k, rfl, hk⟩ := A
    refine j_callVT2 (pc' := 8) (as := [mI x1, mI x2]) (rest := [mI 0, mR 148]) (d' := 98) (c_X11_nearest (d := 98) (by decide) h) cw_L_68 kc_10 w_1279 w_1280 dL_nearest_5 rfl (by decide) rfl (by decide) sk_0 rfl (hrs_of rfl) (by decide) (by decide) (fun v' h' hz => ?_) (fun i' h' hz => ?_)
    · exact absurd hz.1 nofun
    · obtain ⟨e1, rfl⟩ := hz
      cases e1
      match k, hk with
      | 0, hk =>
        cases hk
        refine ⟨13, 4, 15, ⟨[], _, (0, 10, 13, 24), rfl, rfl, by decide, by decide, by decide, by decide, w_1036, (fun z hz => absurd hz List.not_mem_nil), (Or.inr ⟨dL_nearest_13, rfl⟩), by decide⟩, ?_⟩
        refine j_iconst (pc' := 16) dL_nearest_15 rfl ?_
        exact j_iret dL_nearest_16 rfl (by decide) (by decide) ⟨rfl, by rw [wg_x]⟩
      | 1, hk =>
        cases hk
        refine ⟨17, 4, 19, ⟨[(0, 10, 13, 24)], _, (0, 10, 17, 13), rfl, rfl, by decide, by decide, by decide, by decide, w_704, (fun z hz => by rw [List.mem_singleton.mp hz]; exact ⟨by decide, 2, by decide, by decide, w_1036⟩), (Or.inr ⟨dL_nearest_17, rfl⟩), by decide⟩, ?_⟩
        refine j_iconst (pc' := 20) dL_nearest_19 rfl ?_
        exact j_iret dL_nearest_20 rfl (by decide) (by decide) ⟨rfl, by rw [wg_x]⟩
      | j + 2, hk => simp at hk
theorem cl_cannot {x1 v t : Int} {D E : mD} {r : Int ⊕ Nat} (h : F_X11_cannot x1 D = some (r, E)) (A : Agr [0] r v t) : CM 99 1 6 M_L_cannot [mR 0, mI x1, mR 148] (SK, D, false) (rI t (oD E (wg E r))) := by
  refine CM.introT pn_L rfl rfl (Nat.le_of_ble_eq_true rfl) (fun Ω => ?_)
  show J Ω M_L_cannot 99 1 6 _ 0 [some (mR 0), some (mI x1), some (mR 148), none] [] _ 0 0
  refine j_aload_n (pc' := 1) dL_cannot_0 rfl rfl ?_
  refine j_iconst (pc' := 2) dL_cannot_1 rfl ?_
  refine j_aload_n (pc' := 3) dL_cannot_2 rfl rfl ?_
  refine j_iload_n (pc' := 4) dL_cannot_3 rfl rfl ?_
  cases r with
  | inl z =>
    obtain ⟨rfl, rfl⟩ := A
    refine j_callVT2 (pc' := 7) (as := [mI x1]) (rest := [mI 0, mR 148]) (d' := 98) (c_X11_cannot (d := 98) (by decide) h) cw_L_71 kc_10 w_1286 w_1287 dL_cannot_4 rfl (by decide) rfl (by decide) sk_0 rfl (hrs_of rfl) (by decide) (by decide) (fun v' h' hz => ?_) (fun i' h' hz => ?_)
    · obtain ⟨e1, rfl⟩ := hz
      cases e1
      refine j_i2lw (pc' := 8) dL_cannot_7 rfl ?_
      refine j_last (pc' := 9) dL_cannot_8 rfl (by decide) sk_148 (by decide) (by decide) (by decide) ?_
      refine j_goto (tgt := 15) dL_cannot_9 rfl ?_
      refine j_iconst (pc' := 16) dL_cannot_15 rfl ?_
      exact j_iret dL_cannot_16 rfl (by decide) (by decide) ⟨rfl, rfl⟩
    · exact absurd hz.1 nofun
  | inr i =>
    obtain ⟨k, rfl, hk⟩ := A
    refine j_callVT2 (pc' := 7) (as := [mI x1]) (rest := [mI 0, mR 148]) (d' := 98) (c_X11_cannot (d := 98) (by decide) h) cw_L_71 kc_10 w_1286 w_1287 dL_cannot_4 rfl (by decide) rfl (by decide) sk_0 rfl (hrs_of rfl) (by decide) (by decide) (fun v' h' hz => ?_) (fun i' h' hz => ?_)
    · exact absurd hz.1 nofun
    · obtain ⟨e1, rfl⟩ := hz
      cases e1
      match k, hk with
      | 0, hk =>
        cases hk
        refine ⟨12, 3, 13, ⟨[], _, (0, 9, 12, 13), rfl, rfl, by decide, by decide, by decide, by decide, w_704, (fun z hz => absurd hz List.not_mem_nil), (Or.inl ⟨3, rfl, dL_cannot_12, rfl⟩), by decide⟩, ?_⟩
        refine j_iconst (pc' := 14) dL_cannot_13 rfl ?_
        exact j_iret dL_cannot_14 rfl (by decide) (by decide) ⟨rfl, by rw [wg_x]⟩
      | j + 1, hk => simp at hk
theorem cl_lacks {x1 v t : Int} {D E : mD} {r : Int ⊕ Nat} (h : F_X11_lacks x1 D = some (r, E)) (A : Agr [0] r v t) : CM 99 1 6 M_L_lacks [mR 0, mI x1, mR 148] (SK, D, false) (rI t (oD E (wg E r))) := by
  refine CM.introT pn_L rfl rfl (Nat.le_of_ble_eq_true rfl) (fun Ω => ?_)
  show J Ω M_L_lacks 99 1 6 _ 0 [some (mR 0), some (mI x1), some (mR 148), none] [] _ 0 0
  refine j_aload_n (pc' := 1) dL_lacks_0 rfl rfl ?_
  refine j_iconst (pc' := 2) dL_lacks_1 rfl ?_
  refine j_aload_n (pc' := 3) dL_lacks_2 rfl rfl ?_
  refine j_iload_n (pc' := 4) dL_lacks_3 rfl rfl ?_
  cases r with
  | inl z =>
    obtain ⟨rfl, rfl⟩ := A
    refine j_callVT2 (pc' := 7) (as := [mI x1]) (rest := [mI 0, mR 148]) (d' := 98) (c_X11_lacks (d := 98) (by decide) h) cw_L_74 kc_10 w_1293 w_1294 dL_lacks_4 rfl (by decide) rfl (by decide) sk_0 rfl (hrs_of rfl) (by decide) (by decide) (fun v' h' hz => ?_) (fun i' h' hz => ?_)
    · obtain ⟨e1, rfl⟩ := hz
      cases e1
      refine j_i2lw (pc' := 8) dL_lacks_7 rfl ?_
      refine j_last (pc' := 9) dL_lacks_8 rfl (by decide) sk_148 (by decide) (by decide) (by decide) ?_
      refine j_goto (tgt := 15) dL_lacks_9 rfl ?_
      refine j_iconst (pc' := 16) dL_lacks_15 rfl ?_
      exact j_iret dL_lacks_16 rfl (by decide) (by decide) ⟨rfl, rfl⟩
    · exact absurd hz.1 nofun
  | inr i =>
    obtain ⟨k, rfl, hk⟩ := A
    refine j_callVT2 (pc' := 7) (as := [mI x1]) (rest := [mI 0, mR 148]) (d' := 98) (c_X11_lacks (d := 98) (by decide) h) cw_L_74 kc_10 w_1293 w_1294 dL_lacks_4 rfl (by decide) rfl (by decide) sk_0 rfl (hrs_of rfl) (by decide) (by decide) (fun v' h' hz => ?_) (fun i' h' hz => ?_)
    · exact absurd hz.1 nofun
    · obtain ⟨e1, rfl⟩ := hz
      cases e1
      match k, hk with
      | 0, hk =>
        cases hk
        refine ⟨12, 3, 13, ⟨[], _, (0, 9, 12, 13), rfl, rfl, by decide, by decide, by decide, by decide, w_704, (fun z hz => absurd hz List.not_mem_nil), (Or.inl ⟨3, rfl, dL_lacks_12, rfl⟩), by decide⟩, ?_⟩
        refine j_iconst (pc' := 14) dL_lacks_13 rfl ?_
        exact j_iret dL_lacks_14 rfl (by decide) (by decide) ⟨rfl, by rw [wg_x]⟩
      | j + 1, hk => simp at hk
theorem cl_squeeze {x1 x2 v t : Int} {D E : mD} {r : Int ⊕ Nat} (h : F_X11_squeeze x1 x2 D = some (r, E)) (A : Agr [0] r v t) : CM 99 1 6 M_L_squeeze [mR 0, mI x1, mI x2, mR 148] (SK, D, false) (rI t (oD E (wg E r))) := by
  refine CM.introT pn_L rfl rfl (Nat.le_of_ble_eq_true rfl) (fun Ω => ?_)
  show J Ω M_L_squeeze 99 1 6 _ 0 [some (mR 0), some (mI x1), some (mI x2), some (mR 148), none] [] _ 0 0
  refine j_aload_n (pc' := 1) dL_squeeze_0 rfl rfl ?_
  refine j_iconst (pc' := 2) dL_squeeze_1 rfl ?_
  refine j_aload_n (pc' := 3) dL_squeeze_2 rfl rfl ?_
  refine j_iload_n (pc' := 4) dL_squeeze_3 rfl rfl ?_
  refine j_iload_n (pc' := 5) dL_squeeze_4 rfl rfl ?_
  cases r with
  | inl z =>
    obtain ⟨rfl, rfl⟩ := A
    refine j_callVT2 (pc' := 8) (as := [mI x1, mI x2]) (rest := [mI 0, mR 148]) (d' := 98) (c_X11_squeeze (d := 98) (by decide) h) cw_L_77 kc_10 w_1308 w_1309 dL_squeeze_5 rfl (by decide) rfl (by decide) sk_0 rfl (hrs_of rfl) (by decide) (by decide) (fun v' h' hz => ?_) (fun i' h' hz => ?_)
    · obtain ⟨e1, rfl⟩ := hz
      cases e1
      refine j_i2lw (pc' := 9) dL_squeeze_8 rfl ?_
      refine j_last (pc' := 10) dL_squeeze_9 rfl (by decide) sk_148 (by decide) (by decide) (by decide) ?_
      refine j_goto (tgt := 17) dL_squeeze_10 rfl ?_
      refine j_iconst (pc' := 18) dL_squeeze_17 rfl ?_
      exact j_iret dL_squeeze_18 rfl (by decide) (by decide) ⟨rfl, rfl⟩
    · exact absurd hz.1 nofun
  | inr i =>
    obtain ⟨k, rfl, hk⟩ := A
    refine j_callVT2 (pc' := 8) (as := [mI x1, mI x2]) (rest := [mI 0, mR 148]) (d' := 98) (c_X11_squeeze (d := 98) (by decide) h) cw_L_77 kc_10 w_1308 w_1309 dL_squeeze_5 rfl (by decide) rfl (by decide) sk_0 rfl (hrs_of rfl) (by decide) (by decide) (fun v' h' hz => ?_) (fun i' h' hz => ?_)
    · exact absurd hz.1 nofun
    · obtain ⟨e1, rfl⟩ := hz
      cases e1
      match k, hk with
      | 0, hk =>
        cases hk
        refine ⟨13, 4, 15, ⟨[], _, (0, 10, 13, 13), rfl, rfl, by decide, by decide, by decide, by decide, w_704, (fun z hz => absurd hz List.not_mem_nil), (Or.inr ⟨dL_squeeze_13, rfl⟩), by decide⟩, ?_⟩
        refine j_iconst (pc' := 16) dL_squeeze_15 rfl ?_
        exact j_iret dL_squeeze_16 rfl (by decide) (by decide) ⟨rfl, by rw [wg_x]⟩
      | j + 1, hk => simp at hk
theorem cl_dropped {x1 v t : Int} {D E : mD} {r : Int ⊕ Nat} (h : F_X11_dropped x1 D = some (r, E)) (A : Agr [0] r v t) : CM 99 1 6 M_L_dropped [mR 0, mI x1, mR 148] (SK, D, false) (rI t (oD E (wg E r))) := by
  refine CM.introT pn_L rfl rfl (Nat.le_of_ble_eq_true rfl) (fun Ω => ?_)
  show J Ω M_L_dropped 99 1 6 _ 0 [some (mR 0), some (mI x1), some (mR 148), none] [] _ 0 0
  refine j_aload_n (pc' := 1) dL_dropped_0 rfl rfl ?_
  refine j_iconst (pc' := 2) dL_dropped_1 rfl ?_
  refine j_aload_n (pc' := 3) dL_dropped_2 rfl rfl ?_
  refine j_iload_n (pc' := 4) dL_dropped_3 rfl rfl ?_
  cases r with
  | inl z =>
    obtain ⟨rfl, rfl⟩ := A
    refine j_callVT2 (pc' := 7) (as := [mI x1]) (rest := [mI 0, mR 148]) (d' := 98) (c_X11_dropped (d := 98) (by decide) h) cw_L_81 kc_10 w_1340 w_1341 dL_dropped_4 rfl (by decide) rfl (by decide) sk_0 rfl (hrs_of rfl) (by decide) (by decide) (fun v' h' hz => ?_) (fun i' h' hz => ?_)
    · obtain ⟨e1, rfl⟩ := hz
      cases e1
      refine j_i2lw (pc' := 8) dL_dropped_7 rfl ?_
      refine j_last (pc' := 9) dL_dropped_8 rfl (by decide) sk_148 (by decide) (by decide) (by decide) ?_
      refine j_goto (tgt := 15) dL_dropped_9 rfl ?_
      refine j_iconst (pc' := 16) dL_dropped_15 rfl ?_
      exact j_iret dL_dropped_16 rfl (by decide) (by decide) ⟨rfl, rfl⟩
    · exact absurd hz.1 nofun
  | inr i =>
    obtain ⟨k, rfl, hk⟩ := A
    refine j_callVT2 (pc' := 7) (as := [mI x1]) (rest := [mI 0, mR 148]) (d' := 98) (c_X11_dropped (d := 98) (by decide) h) cw_L_81 kc_10 w_1340 w_1341 dL_dropped_4 rfl (by decide) rfl (by decide) sk_0 rfl (hrs_of rfl) (by decide) (by decide) (fun v' h' hz => ?_) (fun i' h' hz => ?_)
    · exact absurd hz.1 nofun
    · obtain ⟨e1, rfl⟩ := hz
      cases e1
      match k, hk with
      | 0, hk =>
        cases hk
        refine ⟨12, 3, 13, ⟨[], _, (0, 9, 12, 13), rfl, rfl, by decide, by decide, by decide, by decide, w_704, (fun z hz => absurd hz List.not_mem_nil), (Or.inl ⟨3, rfl, dL_dropped_12, rfl⟩), by decide⟩, ?_⟩
        refine j_iconst (pc' := 14) dL_dropped_13 rfl ?_
        exact j_iret dL_dropped_14 rfl (by decide) (by decide) ⟨rfl, by rw [wg_x]⟩
      | j + 1, hk => simp at hk
theorem cl_read {x1 x2 v t : Int} {D E : mD} {r : Int ⊕ Nat} (h : F_X11_read x1 x2 D = some (r, E)) (A : Agr [0] r v t) : CM 99 2 12 M_L_read [mR 0, mI x1, mI x2, mR 148] (SK, D, false) (rI t (oD E (wgB E r))) := by
  refine CM.introT pn_L rfl rfl (Nat.le_of_ble_eq_true rfl) (fun Ω => ?_)
  show J Ω M_L_read 99 2 12 _ 0 [some (mR 0), some (mI x1), some (mI x2), some (mR 148), none] [] _ 0 0
  refine j_aload_n (pc' := 1) dL_read_0 rfl rfl ?_
  refine j_iconst (pc' := 2) dL_read_1 rfl ?_
  refine j_aload_n (pc' := 3) dL_read_2 rfl rfl ?_
  refine j_iload_n (pc' := 4) dL_read_3 rfl rfl ?_
  refine j_iload_n (pc' := 5) dL_read_4 rfl rfl ?_
  cases r with
  | inl z =>
    obtain ⟨rfl, rfl⟩ := A
    refine j_callVT2 (pc' := 8) (as := [mI x1, mI x2]) (rest := [mI 0, mR 148]) (d' := 98) (c_X11_read (d := 98) (by decide) h) cw_L_84 kc_10 w_1347 w_1348 dL_read_5 rfl (by decide) rfl (by decide) sk_0 rfl (hrs_of rfl) (by decide) (by decide) (fun v' h' hz => ?_) (fun i' h' hz => ?_)
    · obtain ⟨e1, rfl⟩ := hz
      cases e1
      refine k_wr ?_
      refine j_if_eq (tgt := 15) (pc' := 11) dL_read_8 rfl rfl (itR _) (fun b => ?_) (fun b => ?_)
      · refine j_lconst (n := 0) (pc' := 16) dL_read_15 rfl ?_
        refine j_last (pc' := 17) dL_read_16 rfl (by decide) sk_148 (by decide) (by decide) (by decide) ?_
        refine j_goto (tgt := 24) dL_read_17 rfl ?_
        refine j_iconst (pc' := 25) dL_read_24 rfl ?_
        exact j_iret dL_read_25 rfl (by decide) (by decide) ⟨rfl, by rw [wgB_t b]; rfl⟩
      · refine j_lconst (n := 1) (pc' := 12) dL_read_11 rfl ?_
        refine j_goto (tgt := 16) dL_read_12 rfl ?_
        refine j_last (pc' := 17) dL_read_16 rfl (by decide) sk_148 (by decide) (by decide) (by decide) ?_
        refine j_goto (tgt := 24) dL_read_17 rfl ?_
        refine j_iconst (pc' := 25) dL_read_24 rfl ?_
        exact j_iret dL_read_25 rfl (by decide) (by decide) ⟨rfl, by rw [wgB_f b]; rfl⟩
    · exact absurd hz.1 nofun
  | inr i =>
    obtain ⟨k, rfl, hk⟩ := A
    refine j_callVT2 (pc' := 8) (as := [mI x1, mI x2]) (rest := [mI 0, mR 148]) (d' := 98) (c_X11_read (d := 98) (by decide) h) cw_L_84 kc_10 w_1347 w_1348 dL_read_5 rfl (by decide) rfl (by decide) sk_0 rfl (hrs_of rfl) (by decide) (by decide) (fun v' h' hz => ?_) (fun i' h' hz => ?_)
    · exact absurd hz.1 nofun
    · obtain ⟨e1, rfl⟩ := hz
      cases e1
      match k, hk with
      | 0, hk =>
        cases hk
        refine ⟨20, 4, 22, ⟨[], _, (0, 17, 20, 13), rfl, rfl, by decide, by decide, by decide, by decide, w_704, (fun z hz => absurd hz List.not_mem_nil), (Or.inr ⟨dL_read_20, rfl⟩), by decide⟩, ?_⟩
        refine j_iconst (pc' := 23) dL_read_22 rfl ?_
        exact j_iret dL_read_23 rfl (by decide) (by decide) ⟨rfl, by rw [wgB_x]⟩
      | j + 1, hk => simp at hk
theorem cl_far {x1 v t : Int} {D E : mD} {r : Int ⊕ Nat} (h : F_X11_far x1 D = some (r, E)) (A : Agr [0] r v t) : CM 99 1 6 M_L_far [mR 0, mI x1, mR 148] (SK, D, false) (rI t (oD E (wg E r))) := by
  refine CM.introT pn_L rfl rfl (Nat.le_of_ble_eq_true rfl) (fun Ω => ?_)
  show J Ω M_L_far 99 1 6 _ 0 [some (mR 0), some (mI x1), some (mR 148), none] [] _ 0 0
  refine j_aload_n (pc' := 1) dL_far_0 rfl rfl ?_
  refine j_iconst (pc' := 2) dL_far_1 rfl ?_
  refine j_aload_n (pc' := 3) dL_far_2 rfl rfl ?_
  refine j_iload_n (pc' := 4) dL_far_3 rfl rfl ?_
  cases r with
  | inl z =>
    obtain ⟨rfl, rfl⟩ := A
    refine j_callVT2 (pc' := 7) (as := [mI x1]) (rest := [mI 0, mR 148]) (d' := 98) (c_X11_far (d := 98) (by decide) h) cw_L_88 kc_10 w_1356 w_1357 dL_far_4 rfl (by decide) rfl (by decide) sk_0 rfl (hrs_of rfl) (by decide) (by decide) (fun v' h' hz => ?_) (fun i' h' hz => ?_)
    · obtain ⟨e1, rfl⟩ := hz
      cases e1
      refine j_i2lw (pc' := 8) dL_far_7 rfl ?_
      refine j_last (pc' := 9) dL_far_8 rfl (by decide) sk_148 (by decide) (by decide) (by decide) ?_
      refine j_goto (tgt := 15) dL_far_9 rfl ?_
      refine j_iconst (pc' := 16) dL_far_15 rfl ?_
      exact j_iret dL_far_16 rfl (by decide) (by decide) ⟨rfl, rfl⟩
    · exact absurd hz.1 nofun
  | inr i =>
    obtain ⟨k, rfl, hk⟩ := A
    refine j_callVT2 (pc' := 7) (as := [mI x1]) (rest := [mI 0, mR 148]) (d' := 98) (c_X11_far (d := 98) (by decide) h) cw_L_88 kc_10 w_1356 w_1357 dL_far_4 rfl (by decide) rfl (by decide) sk_0 rfl (hrs_of rfl) (by decide) (by decide) (fun v' h' hz => ?_) (fun i' h' hz => ?_)
    · exact absurd hz.1 nofun
    · obtain ⟨e1, rfl⟩ := hz
      cases e1
      match k, hk with
      | 0, hk =>
        cases hk
        refine ⟨12, 3, 13, ⟨[], _, (0, 9, 12, 13), rfl, rfl, by decide, by decide, by decide, by decide, w_704, (fun z hz => absurd hz List.not_mem_nil), (Or.inl ⟨3, rfl, dL_far_12, rfl⟩), by decide⟩, ?_⟩
        refine j_iconst (pc' := 14) dL_far_13 rfl ?_
        exact j_iret dL_far_14 rfl (by decide) (by decide) ⟨rfl, by rw [wg_x]⟩
      | j + 1, hk => simp at hk
theorem cl_runs {x1 x2 v t : Int} {D E : mD} {r : Int ⊕ Nat} (h : F_X11_runs x1 x2 D = some (r, E)) (A : Agr [0] r v t) : CM 99 2 12 M_L_runs [mR 0, mI x1, mI x2, mR 148] (SK, D, false) (rI t (oD E (wg E r))) := by
  refine CM.introT pn_L rfl rfl (Nat.le_of_ble_eq_true rfl) (fun Ω => ?_)
  show J Ω M_L_runs 99 2 12 _ 0 [some (mR 0), some (mI x1), some (mI x2), some (mR 148), none] [] _ 0 0
  refine j_aload_n (pc' := 1) dL_runs_0 rfl rfl ?_
  refine j_iconst (pc' := 2) dL_runs_1 rfl ?_
  refine j_aload_n (pc' := 3) dL_runs_2 rfl rfl ?_
  refine j_iload_n (pc' := 4) dL_runs_3 rfl rfl ?_
  refine j_iload_n (pc' := 5) dL_runs_4 rfl rfl ?_
  cases r with
  | inl z =>
    obtain ⟨rfl, rfl⟩ := A
    refine j_callVT2 (pc' := 8) (as := [mI x1, mI x2]) (rest := [mI 0, mR 148]) (d' := 98) (c_X11_runs (d := 98) (by decide) h) cw_L_91 kc_10 w_1363 w_1364 dL_runs_5 rfl (by decide) rfl (by decide) sk_0 rfl (hrs_of rfl) (by decide) (by decide) (fun v' h' hz => ?_) (fun i' h' hz => ?_)
    · obtain ⟨e1, rfl⟩ := hz
      cases e1
      refine j_i2lw (pc' := 9) dL_runs_8 rfl ?_
      refine j_last (pc' := 10) dL_runs_9 rfl (by decide) sk_148 (by decide) (by decide) (by decide) ?_
      refine j_goto (tgt := 17) dL_runs_10 rfl ?_
      refine j_iconst (pc' := 18) dL_runs_17 rfl ?_
      exact j_iret dL_runs_18 rfl (by decide) (by decide) ⟨rfl, rfl⟩
    · exact absurd hz.1 nofun
  | inr i =>
    obtain ⟨k, rfl, hk⟩ := A
    refine j_callVT2 (pc' := 8) (as := [mI x1, mI x2]) (rest := [mI 0, mR 148]) (d' := 98) (c_X11_runs (d := 98) (by decide) h) cw_L_91 kc_10 w_1363 w_1364 dL_runs_5 rfl (by decide) rfl (by decide) sk_0 rfl (hrs_of rfl) (by decide) (by decide) (fun v' h' hz => ?_) (fun i' h' hz => ?_)
    · exact absurd hz.1 nofun
    · obtain ⟨e1, rfl⟩ := hz
      cases e1
      match k, hk with
      | 0, hk =>
        cases hk
        refine ⟨13, 4, 15, ⟨[], _, (0, 10, 13, 13), rfl, rfl, by decide, by decide, by decide, by decide, w_704, (fun z hz => absurd hz List.not_mem_nil), (Or.inr ⟨dL_runs_13, rfl⟩), by decide⟩, ?_⟩
        refine j_iconst (pc' := 16) dL_runs_15 rfl ?_
        exact j_iret dL_runs_16 rfl (by decide) (by decide) ⟨rfl, by rw [wg_x]⟩
      | j + 1, hk => simp at hk
theorem cl_bears {x1 x2 v t : Int} {D E : mD} {r : Int ⊕ Nat} (h : F_X11_bears x1 x2 D = some (r, E)) (A : Agr [0] r v t) : CM 99 2 12 M_L_bears [mR 0, mI x1, mI x2, mR 148] (SK, D, false) (rI t (oD E (wg E r))) := by
  refine CM.introT pn_L rfl rfl (Nat.le_of_ble_eq_true rfl) (fun Ω => ?_)
  show J Ω M_L_bears 99 2 12 _ 0 [some (mR 0), some (mI x1), some (mI x2), some (mR 148), none] [] _ 0 0
  refine j_aload_n (pc' := 1) dL_bears_0 rfl rfl ?_
  refine j_iconst (pc' := 2) dL_bears_1 rfl ?_
  refine j_aload_n (pc' := 3) dL_bears_2 rfl rfl ?_
  refine j_iload_n (pc' := 4) dL_bears_3 rfl rfl ?_
  refine j_iload_n (pc' := 5) dL_bears_4 rfl rfl ?_
  cases r with
  | inl z =>
    obtain ⟨rfl, rfl⟩ := A
    refine j_callVT2 (pc' := 8) (as := [mI x1, mI x2]) (rest := [mI 0, mR 148]) (d' := 98) (c_X11_bears (d := 98) (by decide) h) cw_L_94 kc_10 w_1371 w_1372 dL_bears_5 rfl (by decide) rfl (by decide) sk_0 rfl (hrs_of rfl) (by decide) (by decide) (fun v' h' hz => ?_) (fun i' h' hz => ?_)
    · obtain ⟨e1, rfl⟩ := hz
      cases e1
      refine j_i2lw (pc' := 9) dL_bears_8 rfl ?_
      refine j_last (pc' := 10) dL_bears_9 rfl (by decide) sk_148 (by decide) (by decide) (by decide) ?_
      refine j_goto (tgt := 17) dL_bears_10 rfl ?_
      refine j_iconst (pc' := 18) dL_bears_17 rfl ?_
      exact j_iret dL_bears_18 rfl (by decide) (by decide) ⟨rfl, rfl⟩
    · exact absurd hz.1 nofun
  | inr i =>
    obtain ⟨k, rfl, hk⟩ := A
    refine j_callVT2 (pc' := 8) (as := [mI x1, mI x2]) (rest := [mI 0, mR 148]) (d' := 98) (c_X11_bears (d := 98) (by decide) h) cw_L_94 kc_10 w_1371 w_1372 dL_bears_5 rfl (by decide) rfl (by decide) sk_0 rfl (hrs_of rfl) (by decide) (by decide) (fun v' h' hz => ?_) (fun i' h' hz => ?_)
    · exact absurd hz.1 nofun
    · obtain ⟨e1, rfl⟩ := hz
      cases e1
      match k, hk with
      | 0, hk =>
        cases hk
        refine ⟨13, 4, 15, ⟨[], _, (0, 10, 13, 13), rfl, rfl, by decide, by decide, by decide, by decide, w_704, (fun z hz => absurd hz List.not_mem_nil), (Or.inr ⟨dL_bears_13, rfl⟩), by decide⟩, ?_⟩
        refine j_iconst (pc' := 16) dL_bears_15 rfl ?_
        exact j_iret dL_bears_16 rfl (by decide) (by decide) ⟨rfl, by rw [wg_x]⟩
      | j + 1, hk => simp at hk
theorem cl_aslant {x1 v t : Int} {D E : mD} {r : Int ⊕ Nat} (h : F_X11_aslant x1 D = some (r, E)) (A : Agr [0] r v t) : CM 99 1 6 M_L_aslant [mR 0, mI x1, mR 148] (SK, D, false) (rI t (oD E (wg E r))) := by
  refine CM.introT pn_L rfl rfl (Nat.le_of_ble_eq_true rfl) (fun Ω => ?_)
  show J Ω M_L_aslant 99 1 6 _ 0 [some (mR 0), some (mI x1), some (mR 148), none] [] _ 0 0
  refine j_aload_n (pc' := 1) dL_aslant_0 rfl rfl ?_
  refine j_iconst (pc' := 2) dL_aslant_1 rfl ?_
  refine j_aload_n (pc' := 3) dL_aslant_2 rfl rfl ?_
  refine j_iload_n (pc' := 4) dL_aslant_3 rfl rfl ?_
  cases r with
  | inl z =>
    obtain ⟨rfl, rfl⟩ := A
    refine j_callVT2 (pc' := 7) (as := [mI x1]) (rest := [mI 0, mR 148]) (d' := 98) (c_X11_aslant (d := 98) (by decide) h) cw_L_97 kc_10 w_1378 w_1379 dL_aslant_4 rfl (by decide) rfl (by decide) sk_0 rfl (hrs_of rfl) (by decide) (by decide) (fun v' h' hz => ?_) (fun i' h' hz => ?_)
    · obtain ⟨e1, rfl⟩ := hz
      cases e1
      refine j_i2lw (pc' := 8) dL_aslant_7 rfl ?_
      refine j_last (pc' := 9) dL_aslant_8 rfl (by decide) sk_148 (by decide) (by decide) (by decide) ?_
      refine j_goto (tgt := 15) dL_aslant_9 rfl ?_
      refine j_iconst (pc' := 16) dL_aslant_15 rfl ?_
      exact j_iret dL_aslant_16 rfl (by decide) (by decide) ⟨rfl, rfl⟩
    · exact absurd hz.1 nofun
  | inr i =>
    obtain ⟨k, rfl, hk⟩ := A
    refine j_callVT2 (pc' := 7) (as := [mI x1]) (rest := [mI 0, mR 148]) (d' := 98) (c_X11_aslant (d := 98) (by decide) h) cw_L_97 kc_10 w_1378 w_1379 dL_aslant_4 rfl (by decide) rfl (by decide) sk_0 rfl (hrs_of rfl) (by decide) (by decide) (fun v' h' hz => ?_) (fun i' h' hz => ?_)
    · exact absurd hz.1 nofun
    · obtain ⟨e1, rfl⟩ := hz
      cases e1
      match k, hk with
      | 0, hk =>
        cases hk
        refine ⟨12, 3, 13, ⟨[], _, (0, 9, 12, 13), rfl, rfl, by decide, by decide, by decide, by decide, w_704, (fun z hz => absurd hz List.not_mem_nil), (Or.inl ⟨3, rfl, dL_aslant_12, rfl⟩), by decide⟩, ?_⟩
        refine j_iconst (pc' := 14) dL_aslant_13 rfl ?_
        exact j_iret dL_aslant_14 rfl (by decide) (by decide) ⟨rfl, by rw [wg_x]⟩
      | j + 1, hk => simp at hk
theorem cl_ends {x1 v t : Int} {D E : mD} {r : Int ⊕ Nat} (h : F_X11_ends x1 D = some (r, E)) (A : Agr [0] r v t) : CM 99 1 6 M_L_ends [mR 0, mI x1, mR 148] (SK, D, false) (rI t (oD E (wg E r))) := by
  refine CM.introT pn_L rfl rfl (Nat.le_of_ble_eq_true rfl) (fun Ω => ?_)
  show J Ω M_L_ends 99 1 6 _ 0 [some (mR 0), some (mI x1), some (mR 148), none] [] _ 0 0
  refine j_aload_n (pc' := 1) dL_ends_0 rfl rfl ?_
  refine j_iconst (pc' := 2) dL_ends_1 rfl ?_
  refine j_aload_n (pc' := 3) dL_ends_2 rfl rfl ?_
  refine j_iload_n (pc' := 4) dL_ends_3 rfl rfl ?_
  cases r with
  | inl z =>
    obtain ⟨rfl, rfl⟩ := A
    refine j_callVT2 (pc' := 7) (as := [mI x1]) (rest := [mI 0, mR 148]) (d' := 98) (c_X11_ends (d := 98) (by decide) h) cw_L_100 kc_10 w_1386 w_1387 dL_ends_4 rfl (by decide) rfl (by decide) sk_0 rfl (hrs_of rfl) (by decide) (by decide) (fun v' h' hz => ?_) (fun i' h' hz => ?_)
    · obtain ⟨e1, rfl⟩ := hz
      cases e1
      refine j_i2lw (pc' := 8) dL_ends_7 rfl ?_
      refine j_last (pc' := 9) dL_ends_8 rfl (by decide) sk_148 (by decide) (by decide) (by decide) ?_
      refine j_goto (tgt := 15) dL_ends_9 rfl ?_
      refine j_iconst (pc' := 16) dL_ends_15 rfl ?_
      exact j_iret dL_ends_16 rfl (by decide) (by decide) ⟨rfl, rfl⟩
    · exact absurd hz.1 nofun
  | inr i =>
    obtain ⟨k, rfl, hk⟩ := A
    refine j_callVT2 (pc' := 7) (as := [mI x1]) (rest := [mI 0, mR 148]) (d' := 98) (c_X11_ends (d := 98) (by decide) h) cw_L_100 kc_10 w_1386 w_1387 dL_ends_4 rfl (by decide) rfl (by decide) sk_0 rfl (hrs_of rfl) (by decide) (by decide) (fun v' h' hz => ?_) (fun i' h' hz => ?_)
    · exact absurd hz.1 nofun
    · obtain ⟨e1, rfl⟩ := hz
      cases e1
      match k, hk with
      | 0, hk =>
        cases hk
        refine ⟨12, 3, 13, ⟨[], _, (0, 9, 12, 13), rfl, rfl, by decide, by decide, by decide, by decide, w_704, (fun z hz => absurd hz List.not_mem_nil), (Or.inl ⟨3, rfl, dL_ends_12, rfl⟩), by decide⟩, ?_⟩
        refine j_iconst (pc' := 14) dL_ends_13 rfl ?_
        exact j_iret dL_ends_14 rfl (by decide) (by decide) ⟨rfl, by rw [wg_x]⟩
      | j + 1, hk => simp at hk
theorem cl_wrote {v t : Int} {D E : mD} {r : Int ⊕ Nat} (h : F_X11_wrote D = some (r, E)) (A : Agr [0] r v t) : CM 99 1 6 M_L_wrote [mR 0, mR 148] (SK, D, false) (rI t (oD E (wg E r))) := by
  refine CM.introT pn_L rfl rfl (Nat.le_of_ble_eq_true rfl) (fun Ω => ?_)
  show J Ω M_L_wrote 99 1 6 _ 0 [some (mR 0), some (mR 148), none] [] _ 0 0
  refine j_aload_n (pc' := 1) dL_wrote_0 rfl rfl ?_
  refine j_iconst (pc' := 2) dL_wrote_1 rfl ?_
  refine j_aload_n (pc' := 3) dL_wrote_2 rfl rfl ?_
  cases r with
  | inl z =>
    obtain ⟨rfl, rfl⟩ := A
    refine j_callVT2 (pc' := 6) (as := []) (rest := [mI 0, mR 148]) (d' := 98) (c_X11_wrote (d := 98) (by decide) h) cw_L_103 kc_10 w_1394 w_1395 dL_wrote_3 rfl (by decide) rfl (by decide) sk_0 rfl (hrs_of rfl) (by decide) (by decide) (fun v' h' hz => ?_) (fun i' h' hz => ?_)
    · obtain ⟨e1, rfl⟩ := hz
      cases e1
      refine j_i2lw (pc' := 7) dL_wrote_6 rfl ?_
      refine j_last (pc' := 8) dL_wrote_7 rfl (by decide) sk_148 (by decide) (by decide) (by decide) ?_
      refine j_goto (tgt := 14) dL_wrote_8 rfl ?_
      refine j_iconst (pc' := 15) dL_wrote_14 rfl ?_
      exact j_iret dL_wrote_15 rfl (by decide) (by decide) ⟨rfl, rfl⟩
    · exact absurd hz.1 nofun
  | inr i =>
    obtain ⟨k, rfl, hk⟩ := A
    refine j_callVT2 (pc' := 6) (as := []) (rest := [mI 0, mR 148]) (d' := 98) (c_X11_wrote (d := 98) (by decide) h) cw_L_103 kc_10 w_1394 w_1395 dL_wrote_3 rfl (by decide) rfl (by decide) sk_0 rfl (hrs_of rfl) (by decide) (by decide) (fun v' h' hz => ?_) (fun i' h' hz => ?_)
    · exact absurd hz.1 nofun
    · obtain ⟨e1, rfl⟩ := hz
      cases e1
      match k, hk with
      | 0, hk =>
        cases hk
        refine ⟨11, 2, 12, ⟨[], _, (0, 8, 11, 13), rfl, rfl, by decide, by decide, by decide, by decide, w_704, (fun z hz => absurd hz List.not_mem_nil), (Or.inl ⟨2, rfl, dL_wrote_11, rfl⟩), by decide⟩, ?_⟩
        refine j_iconst (pc' := 13) dL_wrote_12 rfl ?_
        exact j_iret dL_wrote_13 rfl (by decide) (by decide) ⟨rfl, by rw [wg_x]⟩
      | j + 1, hk => simp at hk
theorem cl_likely {x1 v t : Int} {D E : mD} {r : Int ⊕ Nat} (h : F_X11_likely x1 D = some (r, E)) (A : Agr [2, 0] r v t) : CM 99 2 12 M_L_likely [mR 0, mI x1, mR 148] (SK, D, false) (rI t (oD E (wg E r))) := by
  refine CM.introT pn_L rfl rfl (Nat.le_of_ble_eq_true rfl) (fun Ω => ?_)
  show J Ω M_L_likely 99 2 12 _ 0 [some (mR 0), some (mI x1), some (mR 148), none] [] _ 0 0
  refine j_aload_n (pc' := 1) dL_likely_0 rfl rfl ?_
  refine j_iconst (pc' := 2) dL_likely_1 rfl ?_
  refine j_aload_n (pc' := 3) dL_likely_2 rfl rfl ?_
  refine j_iload_n (pc' := 4) dL_likely_3 rfl rfl ?_
  cases r with
  | inl z =>
    obtain ⟨rfl, rfl⟩ := A
    refine j_callVT2 (pc' := 7) (as := [mI x1]) (rest := [mI 0, mR 148]) (d' := 98) (c_X11_likely (d := 98) (by decide) h) cw_L_106 kc_10 w_1410 w_1411 dL_likely_4 rfl (by decide) rfl (by decide) sk_0 rfl (hrs_of rfl) (by decide) (by decide) (fun v' h' hz => ?_) (fun i' h' hz => ?_)
    · obtain ⟨e1, rfl⟩ := hz
      cases e1
      refine j_i2lw (pc' := 8) dL_likely_7 rfl ?_
      refine j_last (pc' := 9) dL_likely_8 rfl (by decide) sk_148 (by decide) (by decide) (by decide) ?_
      refine j_goto (tgt := 18) dL_likely_9 rfl ?_
      refine j_iconst (pc' := 19) dL_likely_18 rfl ?_
      exact j_iret dL_likely_19 rfl (by decide) (by decide) ⟨rfl, rfl⟩
    · exact absurd hz.1 nofun
  | inr i =>
    obtain ⟨k, rfl, hk⟩ := A
    refine j_callVT2 (pc' := 7) (as := [mI x1]) (rest := [mI 0, mR 148]) (d' := 98) (c_X11_likely (d := 98) (by decide) h) cw_L_106 kc_10 w_1410 w_1411 dL_likely_4 rfl (by decide) rfl (by decide) sk_0 rfl (hrs_of rfl) (by decide) (by decide) (fun v' h' hz => ?_) (fun i' h' hz => ?_)
    · exact absurd hz.1 nofun
    · obtain ⟨e1, rfl⟩ := hz
      cases e1
      match k, hk with
      | 0, hk =>
        cases hk
        refine ⟨12, 3, 13, ⟨[], _, (0, 9, 12, 24), rfl, rfl, by decide, by decide, by decide, by decide, w_1036, (fun z hz => absurd hz List.not_mem_nil), (Or.inl ⟨3, rfl, dL_likely_12, rfl⟩), by decide⟩, ?_⟩
        refine j_iconst (pc' := 14) dL_likely_13 rfl ?_
        exact j_iret dL_likely_14 rfl (by decide) (by decide) ⟨rfl, by rw [wg_x]⟩
      | 1, hk =>
        cases hk
        refine ⟨15, 3, 16, ⟨[(0, 9, 12, 24)], _, (0, 9, 15, 13), rfl, rfl, by decide, by decide, by decide, by decide, w_704, (fun z hz => by rw [List.mem_singleton.mp hz]; exact ⟨by decide, 2, by decide, by decide, w_1036⟩), (Or.inl ⟨3, rfl, dL_likely_15, rfl⟩), by decide⟩, ?_⟩
        refine j_iconst (pc' := 17) dL_likely_16 rfl ?_
        exact j_iret dL_likely_17 rfl (by decide) (by decide) ⟨rfl, by rw [wg_x]⟩
      | j + 2, hk => simp at hk
theorem cl_inch {x1 v t : Int} {D E : mD} {r : Int ⊕ Nat} (h : F_X11_inch x1 D = some (r, E)) (A : Agr [0] r v t) : CM 99 1 6 M_L_inch [mR 0, mI x1, mR 148] (SK, D, false) (rI t (oD E (wg E r))) := by
  refine CM.introT pn_L rfl rfl (Nat.le_of_ble_eq_true rfl) (fun Ω => ?_)
  show J Ω M_L_inch 99 1 6 _ 0 [some (mR 0), some (mI x1), some (mR 148), none] [] _ 0 0
  refine j_aload_n (pc' := 1) dL_inch_0 rfl rfl ?_
  refine j_iconst (pc' := 2) dL_inch_1 rfl ?_
  refine j_aload_n (pc' := 3) dL_inch_2 rfl rfl ?_
  refine j_iload_n (pc' := 4) dL_inch_3 rfl rfl ?_
  cases r with
  | inl z =>
    obtain ⟨rfl, rfl⟩ := A
    refine j_callVT2 (pc' := 7) (as := [mI x1]) (rest := [mI 0, mR 148]) (d' := 98) (c_X11_inch (d := 98) (by decide) h) cw_L_109 kc_10 w_1417 w_1418 dL_inch_4 rfl (by decide) rfl (by decide) sk_0 rfl (hrs_of rfl) (by decide) (by decide) (fun v' h' hz => ?_) (fun i' h' hz => ?_)
    · obtain ⟨e1, rfl⟩ := hz
      cases e1
      refine j_i2lw (pc' := 8) dL_inch_7 rfl ?_
      refine j_last (pc' := 9) dL_inch_8 rfl (by decide) sk_148 (by decide) (by decide) (by decide) ?_
      refine j_goto (tgt := 15) dL_inch_9 rfl ?_
      refine j_iconst (pc' := 16) dL_inch_15 rfl ?_
      exact j_iret dL_inch_16 rfl (by decide) (by decide) ⟨rfl, rfl⟩
    · exact absurd hz.1 nofun
  | inr i =>
    obtain ⟨k, rfl, hk⟩ := A
    refine j_callVT2 (pc' := 7) (as := [mI x1]) (rest := [mI 0, mR 148]) (d' := 98) (c_X11_inch (d := 98) (by decide) h) cw_L_109 kc_10 w_1417 w_1418 dL_inch_4 rfl (by decide) rfl (by decide) sk_0 rfl (hrs_of rfl) (by decide) (by decide) (fun v' h' hz => ?_) (fun i' h' hz => ?_)
    · exact absurd hz.1 nofun
    · obtain ⟨e1, rfl⟩ := hz
      cases e1
      match k, hk with
      | 0, hk =>
        cases hk
        refine ⟨12, 3, 13, ⟨[], _, (0, 9, 12, 13), rfl, rfl, by decide, by decide, by decide, by decide, w_704, (fun z hz => absurd hz List.not_mem_nil), (Or.inl ⟨3, rfl, dL_inch_12, rfl⟩), by decide⟩, ?_⟩
        refine j_iconst (pc' := 14) dL_inch_13 rfl ?_
        exact j_iret dL_inch_14 rfl (by decide) (by decide) ⟨rfl, by rw [wg_x]⟩
      | j + 1, hk => simp at hk
theorem cl_trial {x1 x2 x3 v t : Int} {D E : mD} {r : Int ⊕ Nat} (h : F_X11_trial x1 x2 x3 D = some (r, E)) (A : Agr [2, 0] r v t) : CM 99 2 12 M_L_trial [mR 0, mI x1, mI x2, mI x3, mR 148] (SK, D, false) (rI t (oD E (wg E r))) := by
  refine CM.introT pn_L rfl rfl (Nat.le_of_ble_eq_true rfl) (fun Ω => ?_)
  show J Ω M_L_trial 99 2 12 _ 0 [some (mR 0), some (mI x1), some (mI x2), some (mI x3), some (mR 148), none] [] _ 0 0
  refine j_aload (pc' := 2) dL_trial_0 rfl rfl ?_
  refine j_iconst (pc' := 3) dL_trial_2 rfl ?_
  refine j_aload_n (pc' := 4) dL_trial_3 rfl rfl ?_
  refine j_iload_n (pc' := 5) dL_trial_4 rfl rfl ?_
  refine j_iload_n (pc' := 6) dL_trial_5 rfl rfl ?_
  refine j_iload_n (pc' := 7) dL_trial_6 rfl rfl ?_
  cases r with
  | inl z =>
    obtain ⟨rfl, rfl⟩ := A
    refine j_callVT2 (pc' := 10) (as := [mI x1, mI x2, mI x3]) (rest := [mI 0, mR 148]) (d' := 98) (c_X11_trial (d := 98) (by decide) h) cw_L_112 kc_10 w_1424 w_1425 dL_trial_7 rfl (by decide) rfl (by decide) sk_0 rfl (hrs_of rfl) (by decide) (by decide) (fun v' h' hz => ?_) (fun i' h' hz => ?_)
    · obtain ⟨e1, rfl⟩ := hz
      cases e1
      refine j_i2lw (pc' := 11) dL_trial_10 rfl ?_
      refine j_last (pc' := 12) dL_trial_11 rfl (by decide) sk_148 (by decide) (by decide) (by decide) ?_
      refine j_goto (tgt := 23) dL_trial_12 rfl ?_
      refine j_iconst (pc' := 24) dL_trial_23 rfl ?_
      exact j_iret dL_trial_24 rfl (by decide) (by decide) ⟨rfl, rfl⟩
    · exact absurd hz.1 nofun
  | inr i =>
    obtain ⟨k, rfl, hk⟩ := A
    refine j_callVT2 (pc' := 10) (as := [mI x1, mI x2, mI x3]) (rest := [mI 0, mR 148]) (d' := 98) (c_X11_trial (d := 98) (by decide) h) cw_L_112 kc_10 w_1424 w_1425 dL_trial_7 rfl (by decide) rfl (by decide) sk_0 rfl (hrs_of rfl) (by decide) (by decide) (fun v' h' hz => ?_) (fun i' h' hz => ?_)
    · exact absurd hz.1 nofun
    · obtain ⟨e1, rfl⟩ := hz
      cases e1
      match k, hk with
      | 0, hk =>
        cases hk
        refine ⟨15, 5, 17, ⟨[], _, (0, 12, 15, 24), rfl, rfl, by decide, by decide, by decide, by decide, w_1036, (fun z hz => absurd hz List.not_mem_nil), (Or.inr ⟨dL_trial_15, rfl⟩), by decide⟩, ?_⟩
        refine j_iconst (pc' := 18) dL_trial_17 rfl ?_
        exact j_iret dL_trial_18 rfl (by decide) (by decide) ⟨rfl, by rw [wg_x]⟩
      | 1, hk =>
        cases hk
        refine ⟨19, 5, 21, ⟨[(0, 12, 15, 24)], _, (0, 12, 19, 13), rfl, rfl, by decide, by decide, by decide, by decide, w_704, (fun z hz => by rw [List.mem_singleton.mp hz]; exact ⟨by decide, 2, by decide, by decide, w_1036⟩), (Or.inr ⟨dL_trial_19, rfl⟩), by decide⟩, ?_⟩
        refine j_iconst (pc' := 22) dL_trial_21 rfl ?_
        exact j_iret dL_trial_22 rfl (by decide) (by decide) ⟨rfl, by rw [wg_x]⟩
      | j + 2, hk => simp at hk
theorem cl_span {x1 x2 x3 v t : Int} {D E : mD} {r : Int ⊕ Nat} (h : F_X11_span x1 x2 x3 D = some (r, E)) (A : Agr [2, 0] r v t) : CM 99 2 12 M_L_span [mR 0, mI x1, mI x2, mI x3, mR 148] (SK, D, false) (rI t (oD E (wg E r))) := by
  refine CM.introT pn_L rfl rfl (Nat.le_of_ble_eq_true rfl) (fun Ω => ?_)
  show J Ω M_L_span 99 2 12 _ 0 [some (mR 0), some (mI x1), some (mI x2), some (mI x3), some (mR 148), none] [] _ 0 0
  refine j_aload (pc' := 2) dL_span_0 rfl rfl ?_
  refine j_iconst (pc' := 3) dL_span_2 rfl ?_
  refine j_aload_n (pc' := 4) dL_span_3 rfl rfl ?_
  refine j_iload_n (pc' := 5) dL_span_4 rfl rfl ?_
  refine j_iload_n (pc' := 6) dL_span_5 rfl rfl ?_
  refine j_iload_n (pc' := 7) dL_span_6 rfl rfl ?_
  cases r with
  | inl z =>
    obtain ⟨rfl, rfl⟩ := A
    refine j_callVT2 (pc' := 10) (as := [mI x1, mI x2, mI x3]) (rest := [mI 0, mR 148]) (d' := 98) (c_X11_span (d := 98) (by decide) h) cw_L_115 kc_10 w_1441 w_1442 dL_span_7 rfl (by decide) rfl (by decide) sk_0 rfl (hrs_of rfl) (by decide) (by decide) (fun v' h' hz => ?_) (fun i' h' hz => ?_)
    · obtain ⟨e1, rfl⟩ := hz
      cases e1
      refine j_i2lw (pc' := 11) dL_span_10 rfl ?_
      refine j_last (pc' := 12) dL_span_11 rfl (by decide) sk_148 (by decide) (by decide) (by decide) ?_
      refine j_goto (tgt := 23) dL_span_12 rfl ?_
      refine j_iconst (pc' := 24) dL_span_23 rfl ?_
      exact j_iret dL_span_24 rfl (by decide) (by decide) ⟨rfl, rfl⟩
    · exact absurd hz.1 nofun
  | inr i =>
    obtain ⟨k, rfl, hk⟩ := A
    refine j_callVT2 (pc' := 10) (as := [mI x1, mI x2, mI x3]) (rest := [mI 0, mR 148]) (d' := 98) (c_X11_span (d := 98) (by decide) h) cw_L_115 kc_10 w_1441 w_1442 dL_span_7 rfl (by decide) rfl (by decide) sk_0 rfl (hrs_of rfl) (by decide) (by decide) (fun v' h' hz => ?_) (fun i' h' hz => ?_)
    · exact absurd hz.1 nofun
    · obtain ⟨e1, rfl⟩ := hz
      cases e1
      match k, hk with
      | 0, hk =>
        cases hk
        refine ⟨15, 5, 17, ⟨[], _, (0, 12, 15, 24), rfl, rfl, by decide, by decide, by decide, by decide, w_1036, (fun z hz => absurd hz List.not_mem_nil), (Or.inr ⟨dL_span_15, rfl⟩), by decide⟩, ?_⟩
        refine j_iconst (pc' := 18) dL_span_17 rfl ?_
        exact j_iret dL_span_18 rfl (by decide) (by decide) ⟨rfl, by rw [wg_x]⟩
      | 1, hk =>
        cases hk
        refine ⟨19, 5, 21, ⟨[(0, 12, 15, 24)], _, (0, 12, 19, 13), rfl, rfl, by decide, by decide, by decide, by decide, w_704, (fun z hz => by rw [List.mem_singleton.mp hz]; exact ⟨by decide, 2, by decide, by decide, w_1036⟩), (Or.inr ⟨dL_span_19, rfl⟩), by decide⟩, ?_⟩
        refine j_iconst (pc' := 22) dL_span_21 rfl ?_
        exact j_iret dL_span_22 rfl (by decide) (by decide) ⟨rfl, by rw [wg_x]⟩
      | j + 2, hk => simp at hk
theorem cl_slips {x1 v t : Int} {D E : mD} {r : Int ⊕ Nat} (h : F_X11_slips x1 D = some (r, E)) (A : Agr [2] r v t) : CM 99 1 6 M_L_slips [mR 0, mI x1, mR 148] (SK, D, false) (rI t (oD E (wg E r))) := by
  refine CM.introT pn_L rfl rfl (Nat.le_of_ble_eq_true rfl) (fun Ω => ?_)
  show J Ω M_L_slips 99 1 6 _ 0 [some (mR 0), some (mI x1), some (mR 148), none] [] _ 0 0
  refine j_aload_n (pc' := 1) dL_slips_0 rfl rfl ?_
  refine j_iconst (pc' := 2) dL_slips_1 rfl ?_
  refine j_aload_n (pc' := 3) dL_slips_2 rfl rfl ?_
  refine j_iload_n (pc' := 4) dL_slips_3 rfl rfl ?_
  cases r with
  | inl z =>
    obtain ⟨rfl, rfl⟩ := A
    refine j_callVT2 (pc' := 7) (as := [mI x1]) (rest := [mI 0, mR 148]) (d' := 98) (c_X11_slips (d := 98) (by decide) h) cw_L_118 kc_10 w_1448 w_1449 dL_slips_4 rfl (by decide) rfl (by decide) sk_0 rfl (hrs_of rfl) (by decide) (by decide) (fun v' h' hz => ?_) (fun i' h' hz => ?_)
    · obtain ⟨e1, rfl⟩ := hz
      cases e1
      refine j_i2lw (pc' := 8) dL_slips_7 rfl ?_
      refine j_last (pc' := 9) dL_slips_8 rfl (by decide) sk_148 (by decide) (by decide) (by decide) ?_
      refine j_goto (tgt := 15) dL_slips_9 rfl ?_
      refine j_iconst (pc' := 16) dL_slips_15 rfl ?_
      exact j_iret dL_slips_16 rfl (by decide) (by decide) ⟨rfl, rfl⟩
    · exact absurd hz.1 nofun
  | inr i =>
    obtain ⟨k, rfl, hk⟩ := A
    refine j_callVT2 (pc' := 7) (as := [mI x1]) (rest := [mI 0, mR 148]) (d' := 98) (c_X11_slips (d := 98) (by decide) h) cw_L_118 kc_10 w_1448 w_1449 dL_slips_4 rfl (by decide) rfl (by decide) sk_0 rfl (hrs_of rfl) (by decide) (by decide) (fun v' h' hz => ?_) (fun i' h' hz => ?_)
    · exact absurd hz.1 nofun
    · obtain ⟨e1, rfl⟩ := hz
      cases e1
      match k, hk with
      | 0, hk =>
        cases hk
        refine ⟨12, 3, 13, ⟨[], _, (0, 9, 12, 24), rfl, rfl, by decide, by decide, by decide, by decide, w_1036, (fun z hz => absurd hz List.not_mem_nil), (Or.inl ⟨3, rfl, dL_slips_12, rfl⟩), by decide⟩, ?_⟩
        refine j_iconst (pc' := 14) dL_slips_13 rfl ?_
        exact j_iret dL_slips_14 rfl (by decide) (by decide) ⟨rfl, by rw [wg_x]⟩
      | j + 1, hk => simp at hk
theorem cl_log {x1 x2 v t : Int} {D E : mD} {r : Int ⊕ Nat} (h : F_X11_log x1 x2 D = some (r, E)) (A : Agr [4] r v t) : CM 99 1 6 M_L_log [mR 0, mI x1, mI x2, mR 148] (SK, D, false) (rI t (oD E (wg E r))) := by
  refine CM.introT pn_L rfl rfl (Nat.le_of_ble_eq_true rfl) (fun Ω => ?_)
  show J Ω M_L_log 99 1 6 _ 0 [some (mR 0), some (mI x1), some (mI x2), some (mR 148), none] [] _ 0 0
  refine j_aload_n (pc' := 1) dL_log_0 rfl rfl ?_
  refine j_iconst (pc' := 2) dL_log_1 rfl ?_
  refine j_aload_n (pc' := 3) dL_log_2 rfl rfl ?_
  refine j_iload_n (pc' := 4) dL_log_3 rfl rfl ?_
  refine j_iload_n (pc' := 5) dL_log_4 rfl rfl ?_
  cases r with
  | inl z =>
    obtain ⟨rfl, rfl⟩ := A
    refine j_callVT2 (pc' := 8) (as := [mI x1, mI x2]) (rest := [mI 0, mR 148]) (d' := 98) (c_X11_log (d := 98) (by decide) h) cw_L_121 kc_10 w_1462 w_1463 dL_log_5 rfl (by decide) rfl (by decide) sk_0 rfl (hrs_of rfl) (by decide) (by decide) (fun v' h' hz => ?_) (fun i' h' hz => ?_)
    · obtain ⟨e1, rfl⟩ := hz
      cases e1
      refine j_i2lw (pc' := 9) dL_log_8 rfl ?_
      refine j_last (pc' := 10) dL_log_9 rfl (by decide) sk_148 (by decide) (by decide) (by decide) ?_
      refine j_goto (tgt := 17) dL_log_10 rfl ?_
      refine j_iconst (pc' := 18) dL_log_17 rfl ?_
      exact j_iret dL_log_18 rfl (by decide) (by decide) ⟨rfl, rfl⟩
    · exact absurd hz.1 nofun
  | inr i =>
    obtain ⟨k, rfl, hk⟩ := A
    refine j_callVT2 (pc' := 8) (as := [mI x1, mI x2]) (rest := [mI 0, mR 148]) (d' := 98) (c_X11_log (d := 98) (by decide) h) cw_L_121 kc_10 w_1462 w_1463 dL_log_5 rfl (by decide) rfl (by decide) sk_0 rfl (hrs_of rfl) (by decide) (by decide) (fun v' h' hz => ?_) (fun i' h' hz => ?_)
    · exact absurd hz.1 nofun
    · obtain ⟨e1, rfl⟩ := hz
      cases e1
      match k, hk with
      | 0, hk =>
        cases hk
        refine ⟨13, 4, 15, ⟨[], _, (0, 10, 13, 26), rfl, rfl, by decide, by decide, by decide, by decide, w_1037, (fun z hz => absurd hz List.not_mem_nil), (Or.inr ⟨dL_log_13, rfl⟩), by decide⟩, ?_⟩
        refine j_iconst (pc' := 16) dL_log_15 rfl ?_
        exact j_iret dL_log_16 rfl (by decide) (by decide) ⟨rfl, by rw [wg_x]⟩
      | j + 1, hk => simp at hk
