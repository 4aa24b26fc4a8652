/-! PRINTED by gen/build96.py: the law, case by case -/
section LC
variable {K : zCx} {b L : Nat} {xs : Nat → Int32} {n i : Int} {m : zM}
theorem zl_aloadr_n {pc : Nat} {loc : List (Nat × Value)} {stk : List Value} {k4 : Fin 4} {i : Nat} {a : Int} (hd : decode code pc = .ok (.aload_n k4, 1)) (hi : (k4 : Nat) = i) (j : Nat) (hj : loc[j]? = some (i, rr K a)) (k : zLj K b L xs (pc + 1) loc (rr K a :: stk) m) : zLj K b L xs pc loc stk m := zl_aload_n hd hi j hj k
theorem zcL_13 : zCall R_law 13 mX9_table 1 := ⟨zmem 520 (by decide +kernel) (by decide +kernel), znX9_table.1, znX9_table.2, by decide +kernel, by decide⟩
theorem zcL_17 : zCall R_law 17 mX10_table 1 := ⟨zmem 1347 (by decide +kernel) (by decide +kernel), znX10_table.1, znX10_table.2, by decide +kernel, by decide⟩
theorem zcL_18 : zCall R_law 18 mX9_part 5 := ⟨zmem 541 (by decide +kernel) (by decide +kernel), znX9_part.1, znX9_part.2, by decide +kernel, by decide⟩
theorem zcL_22 : zCall R_law 22 mX10_part 5 := ⟨zmem 1362 (by decide +kernel) (by decide +kernel), znX10_part.1, znX10_part.2, by decide +kernel, by decide⟩
theorem zcL_23 : zCall R_law 23 mX9_partOf 2 := ⟨zmem 574 (by decide +kernel) (by decide +kernel), znX9_partOf.1, znX9_partOf.2, by decide +kernel, by decide⟩
theorem zcL_27 : zCall R_law 27 mX10_partOf 2 := ⟨zmem 1391 (by decide +kernel) (by decide +kernel), znX10_partOf.1, znX10_partOf.2, by decide +kernel, by decide⟩
theorem zcL_28 : zCall R_law 28 mX9_size 2 := ⟨zmem 583 (by decide +kernel) (by decide +kernel), znX9_size.1, znX9_size.2, by decide +kernel, by decide⟩
theorem zcL_31 : zCall R_law 31 mX10_size 2 := ⟨zmem 1395 (by decide +kernel) (by decide +kernel), znX10_size.1, znX10_size.2, by decide +kernel, by decide⟩
theorem zcL_32 : zCall R_law 32 mX9_breaks 2 := ⟨zmem 587 (by decide +kernel) (by decide +kernel), znX9_breaks.1, znX9_breaks.2, by decide +kernel, by decide⟩
theorem zcL_35 : zCall R_law 35 mX10_breaks 2 := ⟨zmem 1399 (by decide +kernel) (by decide +kernel), znX10_breaks.1, znX10_breaks.2, by decide +kernel, by decide⟩
theorem zcL_36 : zCall R_law 36 mX9_drop 0 := ⟨zmem 591 (by decide +kernel) (by decide +kernel), znX9_drop.1, znX9_drop.2, by decide +kernel, by decide⟩
theorem zcL_40 : zCall R_law 40 mX10_drop 0 := ⟨zmem 1403 (by decide +kernel) (by decide +kernel), znX10_drop.1, znX10_drop.2, by decide +kernel, by decide⟩
theorem zcL_41 : zCall R_law 41 mX9_feedAt 1 := ⟨zmem 599 (by decide +kernel) (by decide +kernel), znX9_feedAt.1, znX9_feedAt.2, by decide +kernel, by decide⟩
theorem zcL_44 : zCall R_law 44 mX10_feedAt 1 := ⟨zmem 1407 (by decide +kernel) (by decide +kernel), znX10_feedAt.1, znX10_feedAt.2, by decide +kernel, by decide⟩
theorem zcL_45 : zCall R_law 45 mX9_start 1 := ⟨zmem 603 (by decide +kernel) (by decide +kernel), znX9_start.1, znX9_start.2, by decide +kernel, by decide⟩
theorem zcL_48 : zCall R_law 48 mX10_start 1 := ⟨zmem 1411 (by decide +kernel) (by decide +kernel), znX10_start.1, znX10_start.2, by decide +kernel, by decide⟩
theorem zcL_49 : zCall R_law 49 mX9_flow 3 := ⟨zmem 610 (by decide +kernel) (by decide +kernel), znX9_flow.1, znX9_flow.2, by decide +kernel, by decide⟩
theorem zcL_53 : zCall R_law 53 mX10_flow 3 := ⟨zmem 1418 (by decide +kernel) (by decide +kernel), znX10_flow.1, znX10_flow.2, by decide +kernel, by decide⟩
theorem zcL_54 : zCall R_law 54 mX9_tick 2 := ⟨zmem 640 (by decide +kernel) (by decide +kernel), znX9_tick.1, znX9_tick.2, by decide +kernel, by decide⟩
theorem zcL_57 : zCall R_law 57 mX10_tick 2 := ⟨zmem 1434 (by decide +kernel) (by decide +kernel), znX10_tick.1, znX10_tick.2, by decide +kernel, by decide⟩
theorem zcL_58 : zCall R_law 58 mX9_goes 2 := ⟨zmem 657 (by decide +kernel) (by decide +kernel), znX9_goes.1, znX9_goes.2, by decide +kernel, by decide⟩
theorem zcL_61 : zCall R_law 61 mX10_goes 2 := ⟨zmem 1442 (by decide +kernel) (by decide +kernel), znX10_goes.1, znX10_goes.2, by decide +kernel, by decide⟩
theorem zcL_62 : zCall R_law 62 mX9_rests 1 := ⟨zmem 671 (by decide +kernel) (by decide +kernel), znX9_rests.1, znX9_rests.2, by decide +kernel, by decide⟩
theorem zcL_65 : zCall R_law 65 mX10_rests 1 := ⟨zmem 1450 (by decide +kernel) (by decide +kernel), znX10_rests.1, znX10_rests.2, by decide +kernel, by decide⟩
theorem zcL_66 : zCall R_law 66 mX9_restAt 2 := ⟨zmem 705 (by decide +kernel) (by decide +kernel), znX9_restAt.1, znX9_restAt.2, by decide +kernel, by decide⟩
theorem zcL_69 : zCall R_law 69 mX10_restAt 2 := ⟨zmem 1454 (by decide +kernel) (by decide +kernel), znX10_restAt.1, znX10_restAt.2, by decide +kernel, by decide⟩
theorem zcL_70 : zCall R_law 70 mX9_gain 2 := ⟨zmem 709 (by decide +kernel) (by decide +kernel), znX9_gain.1, znX9_gain.2, by decide +kernel, by decide⟩
theorem zcL_73 : zCall R_law 73 mX10_gain 2 := ⟨zmem 1458 (by decide +kernel) (by decide +kernel), znX10_gain.1, znX10_gain.2, by decide +kernel, by decide⟩
theorem zcL_76 : zCall R_law 76 mX9_feed 2 := ⟨zmem 713 (by decide +kernel) (by decide +kernel), znX9_feed.1, znX9_feed.2, by decide +kernel, by decide⟩
theorem zcL_80 : zCall R_law 80 mX10_feed 2 := ⟨zmem 1462 (by decide +kernel) (by decide +kernel), znX10_feed.1, znX10_feed.2, by decide +kernel, by decide⟩
theorem zcL_81 : zCall R_law 81 mX9_read 0 := ⟨zmem 722 (by decide +kernel) (by decide +kernel), znX9_read.1, znX9_read.2, by decide +kernel, by decide⟩
theorem zcL_84 : zCall R_law 84 mX10_read 0 := ⟨zmem 1467 (by decide +kernel) (by decide +kernel), znX10_read.1, znX10_read.2, by decide +kernel, by decide⟩
theorem zcL_85 : zCall R_law 85 mX9_missed 0 := ⟨zmem 865 (by decide +kernel) (by decide +kernel), znX9_missed.1, znX9_missed.2, by decide +kernel, by decide⟩
theorem zcL_88 : zCall R_law 88 mX10_missed 0 := ⟨zmem 1546 (by decide +kernel) (by decide +kernel), znX10_missed.1, znX10_missed.2, by decide +kernel, by decide⟩
theorem zcL_89 : zCall R_law 89 mX9_worst 1 := ⟨zmem 895 (by decide +kernel) (by decide +kernel), znX9_worst.1, znX9_worst.2, by decide +kernel, by decide⟩
theorem zcL_92 : zCall R_law 92 mX10_worst 1 := ⟨zmem 1572 (by decide +kernel) (by decide +kernel), znX10_worst.1, znX10_worst.2, by decide +kernel, by decide⟩
theorem zcL_93 : zCall R_law 93 mX9_holds 1 := ⟨zmem 903 (by decide +kernel) (by decide +kernel), znX9_holds.1, znX9_holds.2, by decide +kernel, by decide⟩
theorem zcL_96 : zCall R_law 96 mX10_holds 1 := ⟨zmem 1576 (by decide +kernel) (by decide +kernel), znX10_holds.1, znX10_holds.2, by decide +kernel, by decide⟩
theorem zcL_97 : zCall R_law 97 mX9_open 3 := ⟨zmem 908 (by decide +kernel) (by decide +kernel), znX9_open.1, znX9_open.2, by decide +kernel, by decide⟩
theorem zcL_100 : zCall R_law 100 mX10_open 3 := ⟨zmem 1580 (by decide +kernel) (by decide +kernel), znX10_open.1, znX10_open.2, by decide +kernel, by decide⟩
theorem zcL_101 : zCall R_law 101 mX9_sizing 1 := ⟨zmem 921 (by decide +kernel) (by decide +kernel), znX9_sizing.1, znX9_sizing.2, by decide +kernel, by decide⟩
theorem zcL_104 : zCall R_law 104 mX10_sizing 1 := ⟨zmem 1588 (by decide +kernel) (by decide +kernel), znX10_sizing.1, znX10_sizing.2, by decide +kernel, by decide⟩
theorem zcL_105 : zCall R_law 105 mX9_prove 0 := ⟨zmem 960 (by decide +kernel) (by decide +kernel), znX9_prove.1, znX9_prove.2, by decide +kernel, by decide⟩
theorem zcL_108 : zCall R_law 108 mX10_prove 0 := ⟨zmem 1608 (by decide +kernel) (by decide +kernel), znX10_prove.1, znX10_prove.2, by decide +kernel, by decide⟩
theorem zcL_109 : zCall R_law 109 mX9_row 2 := ⟨zmem 964 (by decide +kernel) (by decide +kernel), znX9_row.1, znX9_row.2, by decide +kernel, by decide⟩
theorem zcL_112 : zCall R_law 112 mX10_row 2 := ⟨zmem 1612 (by decide +kernel) (by decide +kernel), znX10_row.1, znX10_row.2, by decide +kernel, by decide⟩
theorem zcL_113 : zCall R_law 113 mX9_alterRow 3 := ⟨zmem 968 (by decide +kernel) (by decide +kernel), znX9_alterRow.1, znX9_alterRow.2, by decide +kernel, by decide⟩
theorem zcL_116 : zCall R_law 116 mX10_alterRow 3 := ⟨zmem 1620 (by decide +kernel) (by decide +kernel), znX10_alterRow.1, znX10_alterRow.2, by decide +kernel, by decide⟩
theorem zcL_117 : zCall R_law 117 mX9_judge 0 := ⟨zmem 972 (by decide +kernel) (by decide +kernel), znX9_judge.1, znX9_judge.2, by decide +kernel, by decide⟩
theorem zcL_120 : zCall R_law 120 mX10_judge 0 := ⟨zmem 1624 (by decide +kernel) (by decide +kernel), znX10_judge.1, znX10_judge.2, by decide +kernel, by decide⟩
theorem zcL_121 : zCall R_law 121 mX9_far 2 := ⟨zmem 991 (by decide +kernel) (by decide +kernel), znX9_far.1, znX9_far.2, by decide +kernel, by decide⟩
theorem zcL_125 : zCall R_law 125 mX10_far 2 := ⟨zmem 1628 (by decide +kernel) (by decide +kernel), znX10_far.1, znX10_far.2, by decide +kernel, by decide⟩
theorem zcL_126 : zCall R_law 126 mX9_falls 2 := ⟨zmem 999 (by decide +kernel) (by decide +kernel), znX9_falls.1, znX9_falls.2, by decide +kernel, by decide⟩
theorem zcL_129 : zCall R_law 129 mX10_falls 2 := ⟨zmem 1632 (by decide +kernel) (by decide +kernel), znX10_falls.1, znX10_falls.2, by decide +kernel, by decide⟩
theorem zcL_130 : zCall R_law 130 mX9_change 2 := ⟨zmem 1007 (by decide +kernel) (by decide +kernel), znX9_change.1, znX9_change.2, by decide +kernel, by decide⟩
theorem zcL_133 : zCall R_law 133 mX10_change 2 := ⟨zmem 1636 (by decide +kernel) (by decide +kernel), znX10_change.1, znX10_change.2, by decide +kernel, by decide⟩
theorem zcL_134 : zCall R_law 134 mX9_help 0 := ⟨zmem 1011 (by decide +kernel) (by decide +kernel), znX9_help.1, znX9_help.2, by decide +kernel, by decide⟩
theorem zcL_137 : zCall R_law 137 mX10_help 0 := ⟨zmem 1640 (by decide +kernel) (by decide +kernel), znX10_help.1, znX10_help.2, by decide +kernel, by decide⟩
theorem zcL_138 : zCall R_law 138 mX9_measured 2 := ⟨zmem 1034 (by decide +kernel) (by decide +kernel), znX9_measured.1, znX9_measured.2, by decide +kernel, by decide⟩
theorem zcL_141 : zCall R_law 141 mX10_measured 2 := ⟨zmem 1651 (by decide +kernel) (by decide +kernel), znX10_measured.1, znX10_measured.2, by decide +kernel, by decide⟩
theorem zcL_142 : zCall R_law 142 mX9_which 0 := ⟨zmem 1038 (by decide +kernel) (by decide +kernel), znX9_which.1, znX9_which.2, by decide +kernel, by decide⟩
theorem zcL_145 : zCall R_law 145 mX10_which 0 := ⟨zmem 1655 (by decide +kernel) (by decide +kernel), znX10_which.1, znX10_which.2, by decide +kernel, by decide⟩
theorem zcL_146 : zCall R_law 146 mX9_sheet 3 := ⟨zmem 1054 (by decide +kernel) (by decide +kernel), znX9_sheet.1, znX9_sheet.2, by decide +kernel, by decide⟩
theorem zcL_149 : zCall R_law 149 mX10_sheet 3 := ⟨zmem 1667 (by decide +kernel) (by decide +kernel), znX10_sheet.1, znX10_sheet.2, by decide +kernel, by decide⟩
theorem zcL_150 : zCall R_law 150 mX9_put 3 := ⟨zmem 1062 (by decide +kernel) (by decide +kernel), znX9_put.1, znX9_put.2, by decide +kernel, by decide⟩
theorem zcL_153 : zCall R_law 153 mX10_put 3 := ⟨zmem 1671 (by decide +kernel) (by decide +kernel), znX10_put.1, znX10_put.2, by decide +kernel, by decide⟩
theorem zcL_154 : zCall R_law 154 mX9_item 3 := ⟨zmem 1074 (by decide +kernel) (by decide +kernel), znX9_item.1, znX9_item.2, by decide +kernel, by decide⟩
theorem zcL_157 : zCall R_law 157 mX10_item 3 := ⟨zmem 1675 (by decide +kernel) (by decide +kernel), znX10_item.1, znX10_item.2, by decide +kernel, by decide⟩
theorem zcL_158 : zCall R_law 158 mX9_sizes 4 := ⟨zmem 1078 (by decide +kernel) (by decide +kernel), znX9_sizes.1, znX9_sizes.2, by decide +kernel, by decide⟩
theorem zcL_162 : zCall R_law 162 mX10_sizes 4 := ⟨zmem 1679 (by decide +kernel) (by decide +kernel), znX10_sizes.1, znX10_sizes.2, by decide +kernel, by decide⟩
theorem zcL_163 : zCall R_law 163 mX9_shelf 3 := ⟨zmem 1082 (by decide +kernel) (by decide +kernel), znX9_shelf.1, znX9_shelf.2, by decide +kernel, by decide⟩
theorem zcL_166 : zCall R_law 166 mX10_shelf 3 := ⟨zmem 1684 (by decide +kernel) (by decide +kernel), znX10_shelf.1, znX10_shelf.2, by decide +kernel, by decide⟩
theorem zcL_167 : zCall R_law 167 mX9_taken 2 := ⟨zmem 1098 (by decide +kernel) (by decide +kernel), znX9_taken.1, znX9_taken.2, by decide +kernel, by decide⟩
theorem zcL_170 : zCall R_law 170 mX10_taken 2 := ⟨zmem 1688 (by decide +kernel) (by decide +kernel), znX10_taken.1, znX10_taken.2, by decide +kernel, by decide⟩
theorem zcL_171 : zCall R_law 171 mX9_act 3 := ⟨zmem 1116 (by decide +kernel) (by decide +kernel), znX9_act.1, znX9_act.2, by decide +kernel, by decide⟩
theorem zcL_174 : zCall R_law 174 mX10_act 3 := ⟨zmem 1699 (by decide +kernel) (by decide +kernel), znX10_act.1, znX10_act.2, by decide +kernel, by decide⟩
theorem zcL_175 : zCall R_law 175 mX9_trace 1 := ⟨zmem 1139 (by decide +kernel) (by decide +kernel), znX9_trace.1, znX9_trace.2, by decide +kernel, by decide⟩
theorem zcL_178 : zCall R_law 178 mX10_trace 1 := ⟨zmem 1731 (by decide +kernel) (by decide +kernel), znX10_trace.1, znX10_trace.2, by decide +kernel, by decide⟩
theorem zcL_179 : zCall R_law 179 mX9_many 1 := ⟨zmem 1143 (by decide +kernel) (by decide +kernel), znX9_many.1, znX9_many.2, by decide +kernel, by decide⟩
theorem zcL_182 : zCall R_law 182 mX10_many 1 := ⟨zmem 1735 (by decide +kernel) (by decide +kernel), znX10_many.1, znX10_many.2, by decide +kernel, by decide⟩
theorem zcL_183 : zCall R_law 183 mX9_keep 0 := ⟨zmem 1151 (by decide +kernel) (by decide +kernel), znX9_keep.1, znX9_keep.2, by decide +kernel, by decide⟩
theorem zcL_186 : zCall R_law 186 mX10_keep 0 := ⟨zmem 1739 (by decide +kernel) (by decide +kernel), znX10_keep.1, znX10_keep.2, by decide +kernel, by decide⟩
theorem zcL_187 : zCall R_law 187 mX9_again 0 := ⟨zmem 1156 (by decide +kernel) (by decide +kernel), znX9_again.1, znX9_again.2, by decide +kernel, by decide⟩
theorem zcL_190 : zCall R_law 190 mX10_again 0 := ⟨zmem 1751 (by decide +kernel) (by decide +kernel), znX10_again.1, znX10_again.2, by decide +kernel, by decide⟩
set_option maxRecDepth 100000 in
theorem kL_0 (h0 : 0 ≤ i) (hi : i + 6 ≤ (L : Int)) (hL : L ≤ 384) (h : zInv n m) (hn : 0 ≤ n ∧ n ≤ 100) (kk : ∀ m2, zInv (n + 1) m2 → zLj K b L xs 1508 [(0, .ref b), (1, rr K 0), (2, rr K 98), (3, .int (iz i))] [] m2) : zLj K b L xs 216 [(0, .ref b), (1, rr K 0), (2, rr K 98), (3, .int (iz i))] [] m := by
  refine zl_aloadr_n (pc := 216) dL_law_216 rfl 1 rfl ?_
  refine zl_aload_n (pc := 217) dL_law_217 rfl 0 rfl ?_
  refine zl_iload_n (pc := 218) dL_law_218 rfl 3 rfl ?_
  refine zl_iconst (pc := 219) dL_law_219 ?_
  refine zl_iadd (pc := 220) dL_law_220 ?_
  refine zl_sld (pc := 221) (i := i + 1) dL_law_221 (by omega) (by omega) ⟨by omega, by omega⟩ ?_
  refine zl_call (pc := 222) (mc := mX9_table) (a := 0) (d := 49) (As := [.int (iz ((xs (i + 1).toNat).toInt))]) (rest := []) dL_law_222 zcL_13 ziX9_table zsX9_table rfl rfl rfl rfl (Nat.le_of_ble_eq_true rfl) (by decide) (o_table (d := 37) (inR_of _) h) (fun r m1 hr q => ?_)
  refine zl_aloadr_n (pc := 225) dL_law_225 rfl 2 rfl ?_
  refine zl_aload_n (pc := 226) dL_law_226 rfl 0 rfl ?_
  refine zl_iload_n (pc := 227) dL_law_227 rfl 3 rfl ?_
  refine zl_iconst (pc := 228) dL_law_228 ?_
  refine zl_iadd (pc := 229) dL_law_229 ?_
  refine zl_sld (pc := 230) (i := i + 1) dL_law_230 (by omega) (by omega) ⟨by omega, by omega⟩ ?_
  refine zl_call (pc := 231) (mc := mX10_table) (a := 98) (d := 49) (As := [.int (iz ((xs (i + 1).toNat).toInt))]) (rest := [.int (iz r)]) dL_law_231 zcL_17 ziX10_table zsX10_table rfl rfl rfl rfl (Nat.le_of_ble_eq_true rfl) (by decide) q (fun r2 m2 hr2 q2 => ?_)
  exact zl_icmp_eq (pc := 234) (tgt := 1508) dL_law_234 (by decide) hr hr2 (fun _ => kk m2 q2.2) (fun z => absurd q2.1.symm z)
set_option maxRecDepth 100000 in
theorem kL_1 (h0 : 0 ≤ i) (hi : i + 6 ≤ (L : Int)) (hL : L ≤ 384) (h : zInv n m) (hn : 0 ≤ n ∧ n ≤ 100) (kk : ∀ m2, zInv (n + 1) m2 → zLj K b L xs 1508 [(0, .ref b), (1, rr K 0), (2, rr K 98), (3, .int (iz i))] [] m2) : zLj K b L xs 239 [(0, .ref b), (1, rr K 0), (2, rr K 98), (3, .int (iz i))] [] m := by
  refine zl_aloadr_n (pc := 239) dL_law_239 rfl 1 rfl ?_
  refine zl_aload_n (pc := 240) dL_law_240 rfl 0 rfl ?_
  refine zl_iload_n (pc := 241) dL_law_241 rfl 3 rfl ?_
  refine zl_iconst (pc := 242) dL_law_242 ?_
  refine zl_iadd (pc := 243) dL_law_243 ?_
  refine zl_sld (pc := 244) (i := i + 1) dL_law_244 (by omega) (by omega) ⟨by omega, by omega⟩ ?_
  refine zl_aload_n (pc := 245) dL_law_245 rfl 0 rfl ?_
  refine zl_iload_n (pc := 246) dL_law_246 rfl 3 rfl ?_
  refine zl_iconst (pc := 247) dL_law_247 ?_
  refine zl_iadd (pc := 248) dL_law_248 ?_
  refine zl_sld (pc := 249) (i := i + 2) dL_law_249 (by omega) (by omega) ⟨by omega, by omega⟩ ?_
  refine zl_aload_n (pc := 250) dL_law_250 rfl 0 rfl ?_
  refine zl_iload_n (pc := 251) dL_law_251 rfl 3 rfl ?_
  refine zl_iconst (pc := 252) dL_law_252 ?_
  refine zl_iadd (pc := 253) dL_law_253 ?_
  refine zl_sld (pc := 254) (i := i + 3) dL_law_254 (by omega) (by omega) ⟨by omega, by omega⟩ ?_
  refine zl_aload_n (pc := 255) dL_law_255 rfl 0 rfl ?_
  refine zl_iload_n (pc := 256) dL_law_256 rfl 3 rfl ?_
  refine zl_iconst (pc := 257) dL_law_257 ?_
  refine zl_iadd (pc := 258) dL_law_258 ?_
  refine zl_sld (pc := 259) (i := i + 4) dL_law_259 (by omega) (by omega) ⟨by omega, by omega⟩ ?_
  refine zl_aload_n (pc := 260) dL_law_260 rfl 0 rfl ?_
  refine zl_iload_n (pc := 261) dL_law_261 rfl 3 rfl ?_
  refine zl_iconst (pc := 262) dL_law_262 ?_
  refine zl_iadd (pc := 263) dL_law_263 ?_
  refine zl_sld (pc := 264) (i := i + 5) dL_law_264 (by omega) (by omega) ⟨by omega, by omega⟩ ?_
  refine zl_call (pc := 265) (mc := mX9_part) (a := 0) (d := 49) (As := [.int (iz ((xs (i + 1).toNat).toInt)), .int (iz ((xs (i + 2).toNat).toInt)), .int (iz ((xs (i + 3).toNat).toInt)), .int (iz ((xs (i + 4).toNat).toInt)), .int (iz ((xs (i + 5).toNat).toInt))]) (rest := []) dL_law_265 zcL_18 ziX9_part zsX9_part rfl rfl rfl rfl (Nat.le_of_ble_eq_true rfl) (by decide) (o_part (d := 37) (inR_of _) (inR_of _) (inR_of _) (inR_of _) (inR_of _) h) (fun r m1 hr q => ?_)
  refine zl_aloadr_n (pc := 268) dL_law_268 rfl 2 rfl ?_
  refine zl_aload_n (pc := 269) dL_law_269 rfl 0 rfl ?_
  refine zl_iload_n (pc := 270) dL_law_270 rfl 3 rfl ?_
  refine zl_iconst (pc := 271) dL_law_271 ?_
  refine zl_iadd (pc := 272) dL_law_272 ?_
  refine zl_sld (pc := 273) (i := i + 1) dL_law_273 (by omega) (by omega) ⟨by omega, by omega⟩ ?_
  refine zl_aload_n (pc := 274) dL_law_274 rfl 0 rfl ?_
  refine zl_iload_n (pc := 275) dL_law_275 rfl 3 rfl ?_
  refine zl_iconst (pc := 276) dL_law_276 ?_
  refine zl_iadd (pc := 277) dL_law_277 ?_
  refine zl_sld (pc := 278) (i := i + 2) dL_law_278 (by omega) (by omega) ⟨by omega, by omega⟩ ?_
  refine zl_aload_n (pc := 279) dL_law_279 rfl 0 rfl ?_
  refine zl_iload_n (pc := 280) dL_law_280 rfl 3 rfl ?_
  refine zl_iconst (pc := 281) dL_law_281 ?_
  refine zl_iadd (pc := 282) dL_law_282 ?_
  refine zl_sld (pc := 283) (i := i + 3) dL_law_283 (by omega) (by omega) ⟨by omega, by omega⟩ ?_
  refine zl_aload_n (pc := 284) dL_law_284 rfl 0 rfl ?_
  refine zl_iload_n (pc := 285) dL_law_285 rfl 3 rfl ?_
  refine zl_iconst (pc := 286) dL_law_286 ?_
  refine zl_iadd (pc := 287) dL_law_287 ?_
  refine zl_sld (pc := 288) (i := i + 4) dL_law_288 (by omega) (by omega) ⟨by omega, by omega⟩ ?_
  refine zl_aload_n (pc := 289) dL_law_289 rfl 0 rfl ?_
  refine zl_iload_n (pc := 290) dL_law_290 rfl 3 rfl ?_
  refine zl_iconst (pc := 291) dL_law_291 ?_
  refine zl_iadd (pc := 292) dL_law_292 ?_
  refine zl_sld (pc := 293) (i := i + 5) dL_law_293 (by omega) (by omega) ⟨by omega, by omega⟩ ?_
  refine zl_call (pc := 294) (mc := mX10_part) (a := 98) (d := 49) (As := [.int (iz ((xs (i + 1).toNat).toInt)), .int (iz ((xs (i + 2).toNat).toInt)), .int (iz ((xs (i + 3).toNat).toInt)), .int (iz ((xs (i + 4).toNat).toInt)), .int (iz ((xs (i + 5).toNat).toInt))]) (rest := [.int (iz r)]) dL_law_294 zcL_22 ziX10_part zsX10_part rfl rfl rfl rfl (Nat.le_of_ble_eq_true rfl) (by decide) q (fun r2 m2 hr2 q2 => ?_)
  exact zl_icmp_eq (pc := 297) (tgt := 1508) dL_law_297 (by decide) hr hr2 (fun _ => kk m2 q2.2) (fun z => absurd q2.1.symm z)
set_option maxRecDepth 100000 in
theorem kL_2 (h0 : 0 ≤ i) (hi : i + 6 ≤ (L : Int)) (hL : L ≤ 384) (h : zInv n m) (hn : 0 ≤ n ∧ n ≤ 100) (kk : ∀ m2, zInv (n + 1) m2 → zLj K b L xs 1508 [(0, .ref b), (1, rr K 0), (2, rr K 98), (3, .int (iz i))] [] m2) : zLj K b L xs 302 [(0, .ref b), (1, rr K 0), (2, rr K 98), (3, .int (iz i))] [] m := by
  refine zl_aloadr_n (pc := 302) dL_law_302 rfl 1 rfl ?_
  refine zl_aload_n (pc := 303) dL_law_303 rfl 0 rfl ?_
  refine zl_iload_n (pc := 304) dL_law_304 rfl 3 rfl ?_
  refine zl_iconst (pc := 305) dL_law_305 ?_
  refine zl_iadd (pc := 306) dL_law_306 ?_
  refine zl_sld (pc := 307) (i := i + 1) dL_law_307 (by omega) (by omega) ⟨by omega, by omega⟩ ?_
  refine zl_aload_n (pc := 308) dL_law_308 rfl 0 rfl ?_
  refine zl_iload_n (pc := 309) dL_law_309 rfl 3 rfl ?_
  refine zl_iconst (pc := 310) dL_law_310 ?_
  refine zl_iadd (pc := 311) dL_law_311 ?_
  refine zl_sld (pc := 312) (i := i + 2) dL_law_312 (by omega) (by omega) ⟨by omega, by omega⟩ ?_
  refine zl_call (pc := 313) (mc := mX9_partOf) (a := 0) (d := 49) (As := [.int (iz ((xs (i + 1).toNat).toInt)), .int (iz ((xs (i + 2).toNat).toInt))]) (rest := []) dL_law_313 zcL_23 ziX9_partOf zsX9_partOf rfl rfl rfl rfl (Nat.le_of_ble_eq_true rfl) (by decide) (o_partOf (d := 37) (inR_of _) (inR_of _) h hn) (fun r m1 hr q => ?_)
  refine zl_aloadr_n (pc := 316) dL_law_316 rfl 2 rfl ?_
  refine zl_aload_n (pc := 317) dL_law_317 rfl 0 rfl ?_
  refine zl_iload_n (pc := 318) dL_law_318 rfl 3 rfl ?_
  refine zl_iconst (pc := 319) dL_law_319 ?_
  refine zl_iadd (pc := 320) dL_law_320 ?_
  refine zl_sld (pc := 321) (i := i + 1) dL_law_321 (by omega) (by omega) ⟨by omega, by omega⟩ ?_
  refine zl_aload_n (pc := 322) dL_law_322 rfl 0 rfl ?_
  refine zl_iload_n (pc := 323) dL_law_323 rfl 3 rfl ?_
  refine zl_iconst (pc := 324) dL_law_324 ?_
  refine zl_iadd (pc := 325) dL_law_325 ?_
  refine zl_sld (pc := 326) (i := i + 2) dL_law_326 (by omega) (by omega) ⟨by omega, by omega⟩ ?_
  refine zl_call (pc := 327) (mc := mX10_partOf) (a := 98) (d := 49) (As := [.int (iz ((xs (i + 1).toNat).toInt)), .int (iz ((xs (i + 2).toNat).toInt))]) (rest := [.int (iz r)]) dL_law_327 zcL_27 ziX10_partOf zsX10_partOf rfl rfl rfl rfl (Nat.le_of_ble_eq_true rfl) (by decide) q (fun r2 m2 hr2 q2 => ?_)
  exact zl_icmp_eq (pc := 330) (tgt := 1508) dL_law_330 (by decide) hr hr2 (fun _ => kk m2 q2.2) (fun z => absurd q2.1.symm z)
set_option maxRecDepth 100000 in
theorem kL_3 (h0 : 0 ≤ i) (hi : i + 6 ≤ (L : Int)) (hL : L ≤ 384) (h : zInv n m) (hn : 0 ≤ n ∧ n ≤ 100) (kk : ∀ m2, zInv (n + 1) m2 → zLj K b L xs 1508 [(0, .ref b), (1, rr K 0), (2, rr K 98), (3, .int (iz i))] [] m2) : zLj K b L xs 335 [(0, .ref b), (1, rr K 0), (2, rr K 98), (3, .int (iz i))] [] m := by
  refine zl_aloadr_n (pc := 335) dL_law_335 rfl 1 rfl ?_
  refine zl_aload_n (pc := 336) dL_law_336 rfl 0 rfl ?_
  refine zl_iload_n (pc := 337) dL_law_337 rfl 3 rfl ?_
  refine zl_iconst (pc := 338) dL_law_338 ?_
  refine zl_iadd (pc := 339) dL_law_339 ?_
  refine zl_sld (pc := 340) (i := i + 1) dL_law_340 (by omega) (by omega) ⟨by omega, by omega⟩ ?_
  refine zl_aload_n (pc := 341) dL_law_341 rfl 0 rfl ?_
  refine zl_iload_n (pc := 342) dL_law_342 rfl 3 rfl ?_
  refine zl_iconst (pc := 343) dL_law_343 ?_
  refine zl_iadd (pc := 344) dL_law_344 ?_
  refine zl_sld (pc := 345) (i := i + 2) dL_law_345 (by omega) (by omega) ⟨by omega, by omega⟩ ?_
  refine zl_call (pc := 346) (mc := mX9_size) (a := 0) (d := 49) (As := [.int (iz ((xs (i + 1).toNat).toInt)), .int (iz ((xs (i + 2).toNat).toInt))]) (rest := []) dL_law_346 zcL_28 ziX9_size zsX9_size rfl rfl rfl rfl (Nat.le_of_ble_eq_true rfl) (by decide) (o_size (d := 37) (inR_of _) (inR_of _) h) (fun r m1 hr q => ?_)
  refine zl_aloadr_n (pc := 349) dL_law_349 rfl 2 rfl ?_
  refine zl_aload_n (pc := 350) dL_law_350 rfl 0 rfl ?_
  refine zl_iload_n (pc := 351) dL_law_351 rfl 3 rfl ?_
  refine zl_iconst (pc := 352) dL_law_352 ?_
  refine zl_iadd (pc := 353) dL_law_353 ?_
  refine zl_sld (pc := 354) (i := i + 1) dL_law_354 (by omega) (by omega) ⟨by omega, by omega⟩ ?_
  refine zl_aload_n (pc := 355) dL_law_355 rfl 0 rfl ?_
  refine zl_iload_n (pc := 356) dL_law_356 rfl 3 rfl ?_
  refine zl_iconst (pc := 357) dL_law_357 ?_
  refine zl_iadd (pc := 358) dL_law_358 ?_
  refine zl_sld (pc := 359) (i := i + 2) dL_law_359 (by omega) (by omega) ⟨by omega, by omega⟩ ?_
  refine zl_call (pc := 360) (mc := mX10_size) (a := 98) (d := 49) (As := [.int (iz ((xs (i + 1).toNat).toInt)), .int (iz ((xs (i + 2).toNat).toInt))]) (rest := [.int (iz r)]) dL_law_360 zcL_31 ziX10_size zsX10_size rfl rfl rfl rfl (Nat.le_of_ble_eq_true rfl) (by decide) q (fun r2 m2 hr2 q2 => ?_)
  exact zl_icmp_eq (pc := 363) (tgt := 1508) dL_law_363 (by decide) hr hr2 (fun _ => kk m2 q2.2) (fun z => absurd q2.1.symm z)
set_option maxRecDepth 100000 in
theorem kL_4 (h0 : 0 ≤ i) (hi : i + 6 ≤ (L : Int)) (hL : L ≤ 384) (h : zInv n m) (hn : 0 ≤ n ∧ n ≤ 100) (kk : ∀ m2, zInv (n + 1) m2 → zLj K b L xs 1508 [(0, .ref b), (1, rr K 0), (2, rr K 98), (3, .int (iz i))] [] m2) : zLj K b L xs 368 [(0, .ref b), (1, rr K 0), (2, rr K 98), (3, .int (iz i))] [] m := by
  refine zl_aloadr_n (pc := 368) dL_law_368 rfl 1 rfl ?_
  refine zl_aload_n (pc := 369) dL_law_369 rfl 0 rfl ?_
  refine zl_iload_n (pc := 370) dL_law_370 rfl 3 rfl ?_
  refine zl_iconst (pc := 371) dL_law_371 ?_
  refine zl_iadd (pc := 372) dL_law_372 ?_
  refine zl_sld (pc := 373) (i := i + 1) dL_law_373 (by omega) (by omega) ⟨by omega, by omega⟩ ?_
  refine zl_aload_n (pc := 374) dL_law_374 rfl 0 rfl ?_
  refine zl_iload_n (pc := 375) dL_law_375 rfl 3 rfl ?_
  refine zl_iconst (pc := 376) dL_law_376 ?_
  refine zl_iadd (pc := 377) dL_law_377 ?_
  refine zl_sld (pc := 378) (i := i + 2) dL_law_378 (by omega) (by omega) ⟨by omega, by omega⟩ ?_
  refine zl_call (pc := 379) (mc := mX9_breaks) (a := 0) (d := 49) (As := [.int (iz ((xs (i + 1).toNat).toInt)), .int (iz ((xs (i + 2).toNat).toInt))]) (rest := []) dL_law_379 zcL_32 ziX9_breaks zsX9_breaks rfl rfl rfl rfl (Nat.le_of_ble_eq_true rfl) (by decide) (o_breaks (d := 37) (inR_of _) (inR_of _) h) (fun r m1 hr q => ?_)
  refine zl_aloadr_n (pc := 382) dL_law_382 rfl 2 rfl ?_
  refine zl_aload_n (pc := 383) dL_law_383 rfl 0 rfl ?_
  refine zl_iload_n (pc := 384) dL_law_384 rfl 3 rfl ?_
  refine zl_iconst (pc := 385) dL_law_385 ?_
  refine zl_iadd (pc := 386) dL_law_386 ?_
  refine zl_sld (pc := 387) (i := i + 1) dL_law_387 (by omega) (by omega) ⟨by omega, by omega⟩ ?_
  refine zl_aload_n (pc := 388) dL_law_388 rfl 0 rfl ?_
  refine zl_iload_n (pc := 389) dL_law_389 rfl 3 rfl ?_
  refine zl_iconst (pc := 390) dL_law_390 ?_
  refine zl_iadd (pc := 391) dL_law_391 ?_
  refine zl_sld (pc := 392) (i := i + 2) dL_law_392 (by omega) (by omega) ⟨by omega, by omega⟩ ?_
  refine zl_call (pc := 393) (mc := mX10_breaks) (a := 98) (d := 49) (As := [.int (iz ((xs (i + 1).toNat).toInt)), .int (iz ((xs (i + 2).toNat).toInt))]) (rest := [.int (iz r)]) dL_law_393 zcL_35 ziX10_breaks zsX10_breaks rfl rfl rfl rfl (Nat.le_of_ble_eq_true rfl) (by decide) q (fun r2 m2 hr2 q2 => ?_)
  exact zl_icmp_eq (pc := 396) (tgt := 1508) dL_law_396 (by decide) hr hr2 (fun _ => kk m2 q2.2) (fun z => absurd q2.1.symm z)
set_option maxRecDepth 100000 in
theorem kL_5 (h0 : 0 ≤ i) (hi : i + 6 ≤ (L : Int)) (hL : L ≤ 384) (h : zInv n m) (hn : 0 ≤ n ∧ n ≤ 100) (kk : ∀ m2, zInv (n + 1) m2 → zLj K b L xs 1508 [(0, .ref b), (1, rr K 0), (2, rr K 98), (3, .int (iz i))] [] m2) : zLj K b L xs 401 [(0, .ref b), (1, rr K 0), (2, rr K 98), (3, .int (iz i))] [] m := by
  refine zl_aloadr_n (pc := 401) dL_law_401 rfl 1 rfl ?_
  refine zl_call (pc := 402) (mc := mX9_drop) (a := 0) (d := 49) (As := []) (rest := []) dL_law_402 zcL_36 ziX9_drop zsX9_drop rfl rfl rfl rfl (Nat.le_of_ble_eq_true rfl) (by decide) (o_drop (d := 37)  h) (fun r m1 hr q => ?_)
  refine zl_aloadr_n (pc := 405) dL_law_405 rfl 2 rfl ?_
  refine zl_call (pc := 406) (mc := mX10_drop) (a := 98) (d := 49) (As := []) (rest := [.int (iz r)]) dL_law_406 zcL_40 ziX10_drop zsX10_drop rfl rfl rfl rfl (Nat.le_of_ble_eq_true rfl) (by decide) q (fun r2 m2 hr2 q2 => ?_)
  exact zl_icmp_eq (pc := 409) (tgt := 1508) dL_law_409 (by decide) hr hr2 (fun _ => kk m2 q2.2) (fun z => absurd q2.1.symm z)
set_option maxRecDepth 100000 in
theorem kL_6 (h0 : 0 ≤ i) (hi : i + 6 ≤ (L : Int)) (hL : L ≤ 384) (h : zInv n m) (hn : 0 ≤ n ∧ n ≤ 100) (kk : ∀ m2, zInv (n + 1) m2 → zLj K b L xs 1508 [(0, .ref b), (1, rr K 0), (2, rr K 98), (3, .int (iz i))] [] m2) : zLj K b L xs 414 [(0, .ref b), (1, rr K 0), (2, rr K 98), (3, .int (iz i))] [] m := by
  refine zl_aloadr_n (pc := 414) dL_law_414 rfl 1 rfl ?_
  refine zl_aload_n (pc := 415) dL_law_415 rfl 0 rfl ?_
  refine zl_iload_n (pc := 416) dL_law_416 rfl 3 rfl ?_
  refine zl_iconst (pc := 417) dL_law_417 ?_
  refine zl_iadd (pc := 418) dL_law_418 ?_
  refine zl_sld (pc := 419) (i := i + 1) dL_law_419 (by omega) (by omega) ⟨by omega, by omega⟩ ?_
  refine zl_call (pc := 420) (mc := mX9_feedAt) (a := 0) (d := 49) (As := [.int (iz ((xs (i + 1).toNat).toInt))]) (rest := []) dL_law_420 zcL_41 ziX9_feedAt zsX9_feedAt rfl rfl rfl rfl (Nat.le_of_ble_eq_true rfl) (by decide) (o_feedAt (d := 37) (inR_of _) h) (fun r m1 hr q => ?_)
  refine zl_aloadr_n (pc := 423) dL_law_423 rfl 2 rfl ?_
  refine zl_aload_n (pc := 424) dL_law_424 rfl 0 rfl ?_
  refine zl_iload_n (pc := 425) dL_law_425 rfl 3 rfl ?_
  refine zl_iconst (pc := 426) dL_law_426 ?_
  refine zl_iadd (pc := 427) dL_law_427 ?_
  refine zl_sld (pc := 428) (i := i + 1) dL_law_428 (by omega) (by omega) ⟨by omega, by omega⟩ ?_
  refine zl_call (pc := 429) (mc := mX10_feedAt) (a := 98) (d := 49) (As := [.int (iz ((xs (i + 1).toNat).toInt))]) (rest := [.int (iz r)]) dL_law_429 zcL_44 ziX10_feedAt zsX10_feedAt rfl rfl rfl rfl (Nat.le_of_ble_eq_true rfl) (by decide) q (fun r2 m2 hr2 q2 => ?_)
  exact zl_icmp_eq (pc := 432) (tgt := 1508) dL_law_432 (by decide) hr hr2 (fun _ => kk m2 q2.2) (fun z => absurd q2.1.symm z)
set_option maxRecDepth 100000 in
theorem kL_7 (h0 : 0 ≤ i) (hi : i + 6 ≤ (L : Int)) (hL : L ≤ 384) (h : zInv n m) (hn : 0 ≤ n ∧ n ≤ 100) (kk : ∀ m2, zInv (n + 1) m2 → zLj K b L xs 1508 [(0, .ref b), (1, rr K 0), (2, rr K 98), (3, .int (iz i))] [] m2) : zLj K b L xs 437 [(0, .ref b), (1, rr K 0), (2, rr K 98), (3, .int (iz i))] [] m := by
  refine zl_aloadr_n (pc := 437) dL_law_437 rfl 1 rfl ?_
  refine zl_aload_n (pc := 438) dL_law_438 rfl 0 rfl ?_
  refine zl_iload_n (pc := 439) dL_law_439 rfl 3 rfl ?_
  refine zl_iconst (pc := 440) dL_law_440 ?_
  refine zl_iadd (pc := 441) dL_law_441 ?_
  refine zl_sld (pc := 442) (i := i + 1) dL_law_442 (by omega) (by omega) ⟨by omega, by omega⟩ ?_
  refine zl_call (pc := 443) (mc := mX9_start) (a := 0) (d := 49) (As := [.int (iz ((xs (i + 1).toNat).toInt))]) (rest := []) dL_law_443 zcL_45 ziX9_start zsX9_start rfl rfl rfl rfl (Nat.le_of_ble_eq_true rfl) (by decide) (o_start (d := 37) (inR_of _) h) (fun r m1 hr q => ?_)
  refine zl_aloadr_n (pc := 446) dL_law_446 rfl 2 rfl ?_
  refine zl_aload_n (pc := 447) dL_law_447 rfl 0 rfl ?_
  refine zl_iload_n (pc := 448) dL_law_448 rfl 3 rfl ?_
  refine zl_iconst (pc := 449) dL_law_449 ?_
  refine zl_iadd (pc := 450) dL_law_450 ?_
  refine zl_sld (pc := 451) (i := i + 1) dL_law_451 (by omega) (by omega) ⟨by omega, by omega⟩ ?_
  refine zl_call (pc := 452) (mc := mX10_start) (a := 98) (d := 49) (As := [.int (iz ((xs (i + 1).toNat).toInt))]) (rest := [.int (iz r)]) dL_law_452 zcL_48 ziX10_start zsX10_start rfl rfl rfl rfl (Nat.le_of_ble_eq_true rfl) (by decide) q (fun r2 m2 hr2 q2 => ?_)
  exact zl_icmp_eq (pc := 455) (tgt := 1508) dL_law_455 (by decide) hr hr2 (fun _ => kk m2 q2.2) (fun z => absurd q2.1.symm z)
set_option maxRecDepth 100000 in
theorem kL_8 (h0 : 0 ≤ i) (hi : i + 6 ≤ (L : Int)) (hL : L ≤ 384) (h : zInv n m) (hn : 0 ≤ n ∧ n ≤ 100) (kk : ∀ m2, zInv (n + 1) m2 → zLj K b L xs 1508 [(0, .ref b), (1, rr K 0), (2, rr K 98), (3, .int (iz i))] [] m2) : zLj K b L xs 460 [(0, .ref b), (1, rr K 0), (2, rr K 98), (3, .int (iz i))] [] m := by
  refine zl_aloadr_n (pc := 460) dL_law_460 rfl 1 rfl ?_
  refine zl_aload_n (pc := 461) dL_law_461 rfl 0 rfl ?_
  refine zl_iload_n (pc := 462) dL_law_462 rfl 3 rfl ?_
  refine zl_iconst (pc := 463) dL_law_463 ?_
  refine zl_iadd (pc := 464) dL_law_464 ?_
  refine zl_sld (pc := 465) (i := i + 1) dL_law_465 (by omega) (by omega) ⟨by omega, by omega⟩ ?_
  refine zl_aload_n (pc := 466) dL_law_466 rfl 0 rfl ?_
  refine zl_iload_n (pc := 467) dL_law_467 rfl 3 rfl ?_
  refine zl_iconst (pc := 468) dL_law_468 ?_
  refine zl_iadd (pc := 469) dL_law_469 ?_
  refine zl_sld (pc := 470) (i := i + 2) dL_law_470 (by omega) (by omega) ⟨by omega, by omega⟩ ?_
  refine zl_aload_n (pc := 471) dL_law_471 rfl 0 rfl ?_
  refine zl_iload_n (pc := 472) dL_law_472 rfl 3 rfl ?_
  refine zl_iconst (pc := 473) dL_law_473 ?_
  refine zl_iadd (pc := 474) dL_law_474 ?_
  refine zl_sld (pc := 475) (i := i + 3) dL_law_475 (by omega) (by omega) ⟨by omega, by omega⟩ ?_
  refine zl_call (pc := 476) (mc := mX9_flow) (a := 0) (d := 49) (As := [.int (iz ((xs (i + 1).toNat).toInt)), .int (iz ((xs (i + 2).toNat).toInt)), .int (iz ((xs (i + 3).toNat).toInt))]) (rest := []) dL_law_476 zcL_49 ziX9_flow zsX9_flow rfl rfl rfl rfl (Nat.le_of_ble_eq_true rfl) (by decide) (o_flow (d := 37) (inR_of _) (inR_of _) (inR_of _) h hn) (fun r m1 hr q => ?_)
  refine zl_aloadr_n (pc := 479) dL_law_479 rfl 2 rfl ?_
  refine zl_aload_n (pc := 480) dL_law_480 rfl 0 rfl ?_
  refine zl_iload_n (pc := 481) dL_law_481 rfl 3 rfl ?_
  refine zl_iconst (pc := 482) dL_law_482 ?_
  refine zl_iadd (pc := 483) dL_law_483 ?_
  refine zl_sld (pc := 484) (i := i + 1) dL_law_484 (by omega) (by omega) ⟨by omega, by omega⟩ ?_
  refine zl_aload_n (pc := 485) dL_law_485 rfl 0 rfl ?_
  refine zl_iload_n (pc := 486) dL_law_486 rfl 3 rfl ?_
  refine zl_iconst (pc := 487) dL_law_487 ?_
  refine zl_iadd (pc := 488) dL_law_488 ?_
  refine zl_sld (pc := 489) (i := i + 2) dL_law_489 (by omega) (by omega) ⟨by omega, by omega⟩ ?_
  refine zl_aload_n (pc := 490) dL_law_490 rfl 0 rfl ?_
  refine zl_iload_n (pc := 491) dL_law_491 rfl 3 rfl ?_
  refine zl_iconst (pc := 492) dL_law_492 ?_
  refine zl_iadd (pc := 493) dL_law_493 ?_
  refine zl_sld (pc := 494) (i := i + 3) dL_law_494 (by omega) (by omega) ⟨by omega, by omega⟩ ?_
  refine zl_call (pc := 495) (mc := mX10_flow) (a := 98) (d := 49) (As := [.int (iz ((xs (i + 1).toNat).toInt)), .int (iz ((xs (i + 2).toNat).toInt)), .int (iz ((xs (i + 3).toNat).toInt))]) (rest := [.int (iz r)]) dL_law_495 zcL_53 ziX10_flow zsX10_flow rfl rfl rfl rfl (Nat.le_of_ble_eq_true rfl) (by decide) q (fun r2 m2 hr2 q2 => ?_)
  exact zl_icmp_eq (pc := 498) (tgt := 1508) dL_law_498 (by decide) hr hr2 (fun _ => kk m2 q2.2) (fun z => absurd q2.1.symm z)
set_option maxRecDepth 100000 in
theorem kL_9 (h0 : 0 ≤ i) (hi : i + 6 ≤ (L : Int)) (hL : L ≤ 384) (h : zInv n m) (hn : 0 ≤ n ∧ n ≤ 100) (kk : ∀ m2, zInv (n + 1) m2 → zLj K b L xs 1508 [(0, .ref b), (1, rr K 0), (2, rr K 98), (3, .int (iz i))] [] m2) : zLj K b L xs 503 [(0, .ref b), (1, rr K 0), (2, rr K 98), (3, .int (iz i))] [] m := by
  refine zl_aloadr_n (pc := 503) dL_law_503 rfl 1 rfl ?_
  refine zl_aload_n (pc := 504) dL_law_504 rfl 0 rfl ?_
  refine zl_iload_n (pc := 505) dL_law_505 rfl 3 rfl ?_
  refine zl_iconst (pc := 506) dL_law_506 ?_
  refine zl_iadd (pc := 507) dL_law_507 ?_
  refine zl_sld (pc := 508) (i := i + 1) dL_law_508 (by omega) (by omega) ⟨by omega, by omega⟩ ?_
  refine zl_aload_n (pc := 509) dL_law_509 rfl 0 rfl ?_
  refine zl_iload_n (pc := 510) dL_law_510 rfl 3 rfl ?_
  refine zl_iconst (pc := 511) dL_law_511 ?_
  refine zl_iadd (pc := 512) dL_law_512 ?_
  refine zl_sld (pc := 513) (i := i + 2) dL_law_513 (by omega) (by omega) ⟨by omega, by omega⟩ ?_
  refine zl_call (pc := 514) (mc := mX9_tick) (a := 0) (d := 49) (As := [.int (iz ((xs (i + 1).toNat).toInt)), .int (iz ((xs (i + 2).toNat).toInt))]) (rest := []) dL_law_514 zcL_54 ziX9_tick zsX9_tick rfl rfl rfl rfl (Nat.le_of_ble_eq_true rfl) (by decide) (o_tick (d := 37) (inR_of _) (inR_of _) h hn) (fun r m1 hr q => ?_)
  refine zl_aloadr_n (pc := 517) dL_law_517 rfl 2 rfl ?_
  refine zl_aload_n (pc := 518) dL_law_518 rfl 0 rfl ?_
  refine zl_iload_n (pc := 519) dL_law_519 rfl 3 rfl ?_
  refine zl_iconst (pc := 520) dL_law_520 ?_
  refine zl_iadd (pc := 521) dL_law_521 ?_
  refine zl_sld (pc := 522) (i := i + 1) dL_law_522 (by omega) (by omega) ⟨by omega, by omega⟩ ?_
  refine zl_aload_n (pc := 523) dL_law_523 rfl 0 rfl ?_
  refine zl_iload_n (pc := 524) dL_law_524 rfl 3 rfl ?_
  refine zl_iconst (pc := 525) dL_law_525 ?_
  refine zl_iadd (pc := 526) dL_law_526 ?_
  refine zl_sld (pc := 527) (i := i + 2) dL_law_527 (by omega) (by omega) ⟨by omega, by omega⟩ ?_
  refine zl_call (pc := 528) (mc := mX10_tick) (a := 98) (d := 49) (As := [.int (iz ((xs (i + 1).toNat).toInt)), .int (iz ((xs (i + 2).toNat).toInt))]) (rest := [.int (iz r)]) dL_law_528 zcL_57 ziX10_tick zsX10_tick rfl rfl rfl rfl (Nat.le_of_ble_eq_true rfl) (by decide) q (fun r2 m2 hr2 q2 => ?_)
  exact zl_icmp_eq (pc := 531) (tgt := 1508) dL_law_531 (by decide) hr hr2 (fun _ => kk m2 q2.2) (fun z => absurd q2.1.symm z)
set_option maxRecDepth 100000 in
theorem kL_10 (h0 : 0 ≤ i) (hi : i + 6 ≤ (L : Int)) (hL : L ≤ 384) (h : zInv n m) (hn : 0 ≤ n ∧ n ≤ 100) (kk : ∀ m2, zInv (n + 1) m2 → zLj K b L xs 1508 [(0, .ref b), (1, rr K 0), (2, rr K 98), (3, .int (iz i))] [] m2) : zLj K b L xs 536 [(0, .ref b), (1, rr K 0), (2, rr K 98), (3, .int (iz i))] [] m := by
  refine zl_aloadr_n (pc := 536) dL_law_536 rfl 1 rfl ?_
  refine zl_aload_n (pc := 537) dL_law_537 rfl 0 rfl ?_
  refine zl_iload_n (pc := 538) dL_law_538 rfl 3 rfl ?_
  refine zl_iconst (pc := 539) dL_law_539 ?_
  refine zl_iadd (pc := 540) dL_law_540 ?_
  refine zl_sld (pc := 541) (i := i + 1) dL_law_541 (by omega) (by omega) ⟨by omega, by omega⟩ ?_
  refine zl_aload_n (pc := 542) dL_law_542 rfl 0 rfl ?_
  refine zl_iload_n (pc := 543) dL_law_543 rfl 3 rfl ?_
  refine zl_iconst (pc := 544) dL_law_544 ?_
  refine zl_iadd (pc := 545) dL_law_545 ?_
  refine zl_sld (pc := 546) (i := i + 2) dL_law_546 (by omega) (by omega) ⟨by omega, by omega⟩ ?_
  refine zl_call (pc := 547) (mc := mX9_goes) (a := 0) (d := 49) (As := [.int (iz ((xs (i + 1).toNat).toInt)), .int (iz ((xs (i + 2).toNat).toInt))]) (rest := []) dL_law_547 zcL_58 ziX9_goes zsX9_goes rfl rfl rfl rfl (Nat.le_of_ble_eq_true rfl) (by decide) (o_goes (d := 37) (inR_of _) (inR_of _) h hn) (fun r m1 hr q => ?_)
  refine zl_aloadr_n (pc := 550) dL_law_550 rfl 2 rfl ?_
  refine zl_aload_n (pc := 551) dL_law_551 rfl 0 rfl ?_
  refine zl_iload_n (pc := 552) dL_law_552 rfl 3 rfl ?_
  refine zl_iconst (pc := 553) dL_law_553 ?_
  refine zl_iadd (pc := 554) dL_law_554 ?_
  refine zl_sld (pc := 555) (i := i + 1) dL_law_555 (by omega) (by omega) ⟨by omega, by omega⟩ ?_
  refine zl_aload_n (pc := 556) dL_law_556 rfl 0 rfl ?_
  refine zl_iload_n (pc := 557) dL_law_557 rfl 3 rfl ?_
  refine zl_iconst (pc := 558) dL_law_558 ?_
  refine zl_iadd (pc := 559) dL_law_559 ?_
  refine zl_sld (pc := 560) (i := i + 2) dL_law_560 (by omega) (by omega) ⟨by omega, by omega⟩ ?_
  refine zl_call (pc := 561) (mc := mX10_goes) (a := 98) (d := 49) (As := [.int (iz ((xs (i + 1).toNat).toInt)), .int (iz ((xs (i + 2).toNat).toInt))]) (rest := [.int (iz r)]) dL_law_561 zcL_61 ziX10_goes zsX10_goes rfl rfl rfl rfl (Nat.le_of_ble_eq_true rfl) (by decide) q (fun r2 m2 hr2 q2 => ?_)
  exact zl_icmp_eq (pc := 564) (tgt := 1508) dL_law_564 (by decide) hr hr2 (fun _ => kk m2 q2.2) (fun z => absurd q2.1.symm z)
set_option maxRecDepth 100000 in
theorem kL_11 (h0 : 0 ≤ i) (hi : i + 6 ≤ (L : Int)) (hL : L ≤ 384) (h : zInv n m) (hn : 0 ≤ n ∧ n ≤ 100) (kk : ∀ m2, zInv (n + 1) m2 → zLj K b L xs 1508 [(0, .ref b), (1, rr K 0), (2, rr K 98), (3, .int (iz i))] [] m2) : zLj K b L xs 569 [(0, .ref b), (1, rr K 0), (2, rr K 98), (3, .int (iz i))] [] m := by
  refine zl_aloadr_n (pc := 569) dL_law_569 rfl 1 rfl ?_
  refine zl_aload_n (pc := 570) dL_law_570 rfl 0 rfl ?_
  refine zl_iload_n (pc := 571) dL_law_571 rfl 3 rfl ?_
  refine zl_iconst (pc := 572) dL_law_572 ?_
  refine zl_iadd (pc := 573) dL_law_573 ?_
  refine zl_sld (pc := 574) (i := i + 1) dL_law_574 (by omega) (by omega) ⟨by omega, by omega⟩ ?_
  refine zl_call (pc := 575) (mc := mX9_rests) (a := 0) (d := 49) (As := [.int (iz ((xs (i + 1).toNat).toInt))]) (rest := []) dL_law_575 zcL_62 ziX9_rests zsX9_rests rfl rfl rfl rfl (Nat.le_of_ble_eq_true rfl) (by decide) (o_rests (d := 37) (inR_of _) h hn) (fun r m1 hr q => ?_)
  refine zl_aloadr_n (pc := 578) dL_law_578 rfl 2 rfl ?_
  refine zl_aload_n (pc := 579) dL_law_579 rfl 0 rfl ?_
  refine zl_iload_n (pc := 580) dL_law_580 rfl 3 rfl ?_
  refine zl_iconst (pc := 581) dL_law_581 ?_
  refine zl_iadd (pc := 582) dL_law_582 ?_
  refine zl_sld (pc := 583) (i := i + 1) dL_law_583 (by omega) (by omega) ⟨by omega, by omega⟩ ?_
  refine zl_call (pc := 584) (mc := mX10_rests) (a := 98) (d := 49) (As := [.int (iz ((xs (i + 1).toNat).toInt))]) (rest := [.int (iz r)]) dL_law_584 zcL_65 ziX10_rests zsX10_rests rfl rfl rfl rfl (Nat.le_of_ble_eq_true rfl) (by decide) q (fun r2 m2 hr2 q2 => ?_)
  exact zl_icmp_eq (pc := 587) (tgt := 1508) dL_law_587 (by decide) hr hr2 (fun _ => kk m2 q2.2) (fun z => absurd q2.1.symm z)
set_option maxRecDepth 100000 in
theorem kL_12 (h0 : 0 ≤ i) (hi : i + 6 ≤ (L : Int)) (hL : L ≤ 384) (h : zInv n m) (hn : 0 ≤ n ∧ n ≤ 100) (kk : ∀ m2, zInv (n + 1) m2 → zLj K b L xs 1508 [(0, .ref b), (1, rr K 0), (2, rr K 98), (3, .int (iz i))] [] m2) : zLj K b L xs 592 [(0, .ref b), (1, rr K 0), (2, rr K 98), (3, .int (iz i))] [] m := by
  refine zl_aloadr_n (pc := 592) dL_law_592 rfl 1 rfl ?_
  refine zl_aload_n (pc := 593) dL_law_593 rfl 0 rfl ?_
  refine zl_iload_n (pc := 594) dL_law_594 rfl 3 rfl ?_
  refine zl_iconst (pc := 595) dL_law_595 ?_
  refine zl_iadd (pc := 596) dL_law_596 ?_
  refine zl_sld (pc := 597) (i := i + 1) dL_law_597 (by omega) (by omega) ⟨by omega, by omega⟩ ?_
  refine zl_aload_n (pc := 598) dL_law_598 rfl 0 rfl ?_
  refine zl_iload_n (pc := 599) dL_law_599 rfl 3 rfl ?_
  refine zl_iconst (pc := 600) dL_law_600 ?_
  refine zl_iadd (pc := 601) dL_law_601 ?_
  refine zl_sld (pc := 602) (i := i + 2) dL_law_602 (by omega) (by omega) ⟨by omega, by omega⟩ ?_
  refine zl_call (pc := 603) (mc := mX9_restAt) (a := 0) (d := 49) (As := [.int (iz ((xs (i + 1).toNat).toInt)), .int (iz ((xs (i + 2).toNat).toInt))]) (rest := []) dL_law_603 zcL_66 ziX9_restAt zsX9_restAt rfl rfl rfl rfl (Nat.le_of_ble_eq_true rfl) (by decide) (o_restAt (d := 37) (inR_of _) (inR_of _) h hn) (fun r m1 hr q => ?_)
  refine zl_aloadr_n (pc := 606) dL_law_606 rfl 2 rfl ?_
  refine zl_aload_n (pc := 607) dL_law_607 rfl 0 rfl ?_
  refine zl_iload_n (pc := 608) dL_law_608 rfl 3 rfl ?_
  refine zl_iconst (pc := 609) dL_law_609 ?_
  refine zl_iadd (pc := 610) dL_law_610 ?_
  refine zl_sld (pc := 611) (i := i + 1) dL_law_611 (by omega) (by omega) ⟨by omega, by omega⟩ ?_
  refine zl_aload_n (pc := 612) dL_law_612 rfl 0 rfl ?_
  refine zl_iload_n (pc := 613) dL_law_613 rfl 3 rfl ?_
  refine zl_iconst (pc := 614) dL_law_614 ?_
  refine zl_iadd (pc := 615) dL_law_615 ?_
  refine zl_sld (pc := 616) (i := i + 2) dL_law_616 (by omega) (by omega) ⟨by omega, by omega⟩ ?_
  refine zl_call (pc := 617) (mc := mX10_restAt) (a := 98) (d := 49) (As := [.int (iz ((xs (i + 1).toNat).toInt)), .int (iz ((xs (i + 2).toNat).toInt))]) (rest := [.int (iz r)]) dL_law_617 zcL_69 ziX10_restAt zsX10_restAt rfl rfl rfl rfl (Nat.le_of_ble_eq_true rfl) (by decide) q (fun r2 m2 hr2 q2 => ?_)
  exact zl_icmp_eq (pc := 620) (tgt := 1508) dL_law_620 (by decide) hr hr2 (fun _ => kk m2 q2.2) (fun z => absurd q2.1.symm z)
set_option maxRecDepth 100000 in
theorem kL_13 (h0 : 0 ≤ i) (hi : i + 6 ≤ (L : Int)) (hL : L ≤ 384) (h : zInv n m) (hn : 0 ≤ n ∧ n ≤ 100) (kk : ∀ m2, zInv (n + 1) m2 → zLj K b L xs 1508 [(0, .ref b), (1, rr K 0), (2, rr K 98), (3, .int (iz i))] [] m2) : zLj K b L xs 625 [(0, .ref b), (1, rr K 0), (2, rr K 98), (3, .int (iz i))] [] m := by
  refine zl_aloadr_n (pc := 625) dL_law_625 rfl 1 rfl ?_
  refine zl_aload_n (pc := 626) dL_law_626 rfl 0 rfl ?_
  refine zl_iload_n (pc := 627) dL_law_627 rfl 3 rfl ?_
  refine zl_iconst (pc := 628) dL_law_628 ?_
  refine zl_iadd (pc := 629) dL_law_629 ?_
  refine zl_sld (pc := 630) (i := i + 1) dL_law_630 (by omega) (by omega) ⟨by omega, by omega⟩ ?_
  refine zl_aload_n (pc := 631) dL_law_631 rfl 0 rfl ?_
  refine zl_iload_n (pc := 632) dL_law_632 rfl 3 rfl ?_
  refine zl_iconst (pc := 633) dL_law_633 ?_
  refine zl_iadd (pc := 634) dL_law_634 ?_
  refine zl_sld (pc := 635) (i := i + 2) dL_law_635 (by omega) (by omega) ⟨by omega, by omega⟩ ?_
  refine zl_call (pc := 636) (mc := mX9_gain) (a := 0) (d := 49) (As := [.int (iz ((xs (i + 1).toNat).toInt)), .int (iz ((xs (i + 2).toNat).toInt))]) (rest := []) dL_law_636 zcL_70 ziX9_gain zsX9_gain rfl rfl rfl rfl (Nat.le_of_ble_eq_true rfl) (by decide) (o_gain (d := 37) (inR_of _) (inR_of _) h hn) (fun r m1 hr q => ?_)
  refine zl_aloadr_n (pc := 639) dL_law_639 rfl 2 rfl ?_
  refine zl_aload_n (pc := 640) dL_law_640 rfl 0 rfl ?_
  refine zl_iload_n (pc := 641) dL_law_641 rfl 3 rfl ?_
  refine zl_iconst (pc := 642) dL_law_642 ?_
  refine zl_iadd (pc := 643) dL_law_643 ?_
  refine zl_sld (pc := 644) (i := i + 1) dL_law_644 (by omega) (by omega) ⟨by omega, by omega⟩ ?_
  refine zl_aload_n (pc := 645) dL_law_645 rfl 0 rfl ?_
  refine zl_iload_n (pc := 646) dL_law_646 rfl 3 rfl ?_
  refine zl_iconst (pc := 647) dL_law_647 ?_
  refine zl_iadd (pc := 648) dL_law_648 ?_
  refine zl_sld (pc := 649) (i := i + 2) dL_law_649 (by omega) (by omega) ⟨by omega, by omega⟩ ?_
  refine zl_call (pc := 650) (mc := mX10_gain) (a := 98) (d := 49) (As := [.int (iz ((xs (i + 1).toNat).toInt)), .int (iz ((xs (i + 2).toNat).toInt))]) (rest := [.int (iz r)]) dL_law_650 zcL_73 ziX10_gain zsX10_gain rfl rfl rfl rfl (Nat.le_of_ble_eq_true rfl) (by decide) q (fun r2 m2 hr2 q2 => ?_)
  exact zl_icmp_eq (pc := 653) (tgt := 1508) dL_law_653 (by decide) hr hr2 (fun _ => kk m2 q2.2) (fun z => absurd q2.1.symm z)
set_option maxRecDepth 100000 in
theorem kL_14 (h0 : 0 ≤ i) (hi : i + 6 ≤ (L : Int)) (hL : L ≤ 384) (h : zInv n m) (hn : 0 ≤ n ∧ n ≤ 100) (kk : ∀ m2, zInv (n + 1) m2 → zLj K b L xs 1508 [(0, .ref b), (1, rr K 0), (2, rr K 98), (3, .int (iz i))] [] m2) : zLj K b L xs 658 [(0, .ref b), (1, rr K 0), (2, rr K 98), (3, .int (iz i))] [] m := by
  refine zl_aloadr_n (pc := 658) dL_law_658 rfl 1 rfl ?_
  refine zl_aload_n (pc := 659) dL_law_659 rfl 0 rfl ?_
  refine zl_iload_n (pc := 660) dL_law_660 rfl 3 rfl ?_
  refine zl_iconst (pc := 661) dL_law_661 ?_
  refine zl_iadd (pc := 662) dL_law_662 ?_
  refine zl_sld (pc := 663) (i := i + 1) dL_law_663 (by omega) (by omega) ⟨by omega, by omega⟩ ?_
  refine zl_i2l (pc := 664) dL_law_664 ?_
  refine zl_bipush (pc := 665) dL_law_665 (by decide) ?_
  refine zl_lshl (pc := 667) dL_law_667 ?_
  refine zl_aload_n (pc := 668) dL_law_668 rfl 0 rfl ?_
  refine zl_iload_n (pc := 669) dL_law_669 rfl 3 rfl ?_
  refine zl_iconst (pc := 670) dL_law_670 ?_
  refine zl_iadd (pc := 671) dL_law_671 ?_
  refine zl_sld (pc := 672) (i := i + 2) dL_law_672 (by omega) (by omega) ⟨by omega, by omega⟩ ?_
  refine zl_i2l (pc := 673) dL_law_673 ?_
  refine zl_ldc2 (pc := 674) (v := 4294967295) dL_law_674 (zmem 1755 (by decide +kernel) (by decide +kernel)) ?_
  refine zl_land (pc := 677) dL_law_677 ?_
  refine zl_lor (pc := 678) dL_law_678 ?_
  refine zl_aload_n (pc := 679) dL_law_679 rfl 0 rfl ?_
  refine zl_iload_n (pc := 680) dL_law_680 rfl 3 rfl ?_
  refine zl_iconst (pc := 681) dL_law_681 ?_
  refine zl_iadd (pc := 682) dL_law_682 ?_
  refine zl_sld (pc := 683) (i := i + 3) dL_law_683 (by omega) (by omega) ⟨by omega, by omega⟩ ?_
  refine zl_call (pc := 684) (mc := mX9_feed) (a := 0) (d := 49) (As := [.long (((iz ((xs (i + 1).toNat).toInt)).toInt64 <<< ((iz 32).toInt64 &&& 63)) ||| ((iz ((xs (i + 2).toNat).toInt)).toInt64 &&& (4294967295 : Int64))), .int (iz ((xs (i + 3).toNat).toInt))]) (rest := []) dL_law_684 zcL_76 ziX9_feed zsX9_feed rfl rfl rfl rfl (Nat.le_of_ble_eq_true rfl) (by decide) (o_feed (d := 37) (inR_of _) h hn) (fun r m1 hr q => ?_)
  refine zl_aloadr_n (pc := 687) dL_law_687 rfl 2 rfl ?_
  refine zl_aload_n (pc := 688) dL_law_688 rfl 0 rfl ?_
  refine zl_iload_n (pc := 689) dL_law_689 rfl 3 rfl ?_
  refine zl_iconst (pc := 690) dL_law_690 ?_
  refine zl_iadd (pc := 691) dL_law_691 ?_
  refine zl_sld (pc := 692) (i := i + 1) dL_law_692 (by omega) (by omega) ⟨by omega, by omega⟩ ?_
  refine zl_i2l (pc := 693) dL_law_693 ?_
  refine zl_bipush (pc := 694) dL_law_694 (by decide) ?_
  refine zl_lshl (pc := 696) dL_law_696 ?_
  refine zl_aload_n (pc := 697) dL_law_697 rfl 0 rfl ?_
  refine zl_iload_n (pc := 698) dL_law_698 rfl 3 rfl ?_
  refine zl_iconst (pc := 699) dL_law_699 ?_
  refine zl_iadd (pc := 700) dL_law_700 ?_
  refine zl_sld (pc := 701) (i := i + 2) dL_law_701 (by omega) (by omega) ⟨by omega, by omega⟩ ?_
  refine zl_i2l (pc := 702) dL_law_702 ?_
  refine zl_ldc2 (pc := 703) (v := 4294967295) dL_law_703 (zmem 1755 (by decide +kernel) (by decide +kernel)) ?_
  refine zl_land (pc := 706) dL_law_706 ?_
  refine zl_lor (pc := 707) dL_law_707 ?_
  refine zl_aload_n (pc := 708) dL_law_708 rfl 0 rfl ?_
  refine zl_iload_n (pc := 709) dL_law_709 rfl 3 rfl ?_
  refine zl_iconst (pc := 710) dL_law_710 ?_
  refine zl_iadd (pc := 711) dL_law_711 ?_
  refine zl_sld (pc := 712) (i := i + 3) dL_law_712 (by omega) (by omega) ⟨by omega, by omega⟩ ?_
  refine zl_call (pc := 713) (mc := mX10_feed) (a := 98) (d := 49) (As := [.long (((iz ((xs (i + 1).toNat).toInt)).toInt64 <<< ((iz 32).toInt64 &&& 63)) ||| ((iz ((xs (i + 2).toNat).toInt)).toInt64 &&& (4294967295 : Int64))), .int (iz ((xs (i + 3).toNat).toInt))]) (rest := [.int (iz r)]) dL_law_713 zcL_80 ziX10_feed zsX10_feed rfl rfl rfl rfl (Nat.le_of_ble_eq_true rfl) (by decide) q (fun r2 m2 hr2 q2 => ?_)
  exact zl_icmp_eq (pc := 716) (tgt := 1508) dL_law_716 (by decide) hr hr2 (fun _ => kk m2 q2.2) (fun z => absurd q2.1.symm z)
set_option maxRecDepth 100000 in
theorem kL_15 (h0 : 0 ≤ i) (hi : i + 6 ≤ (L : Int)) (hL : L ≤ 384) (h : zInv n m) (hn : 0 ≤ n ∧ n ≤ 100) (kk : ∀ m2, zInv (n + 1) m2 → zLj K b L xs 1508 [(0, .ref b), (1, rr K 0), (2, rr K 98), (3, .int (iz i))] [] m2) : zLj K b L xs 721 [(0, .ref b), (1, rr K 0), (2, rr K 98), (3, .int (iz i))] [] m := by
  refine zl_aloadr_n (pc := 721) dL_law_721 rfl 1 rfl ?_
  refine zl_call (pc := 722) (mc := mX9_read) (a := 0) (d := 49) (As := []) (rest := []) dL_law_722 zcL_81 ziX9_read zsX9_read rfl rfl rfl rfl (Nat.le_of_ble_eq_true rfl) (by decide) (o_read (d := 27)  h hn) (fun r m1 hr q => ?_)
  refine zl_aloadr_n (pc := 725) dL_law_725 rfl 2 rfl ?_
  refine zl_call (pc := 726) (mc := mX10_read) (a := 98) (d := 49) (As := []) (rest := [.int (iz r)]) dL_law_726 zcL_84 ziX10_read zsX10_read rfl rfl rfl rfl (Nat.le_of_ble_eq_true rfl) (by decide) q (fun r2 m2 hr2 q2 => ?_)
  exact zl_icmp_eq (pc := 729) (tgt := 1508) dL_law_729 (by decide) hr hr2 (fun _ => kk m2 q2.2) (fun z => absurd q2.1.symm z)
set_option maxRecDepth 100000 in
theorem kL_16 (h0 : 0 ≤ i) (hi : i + 6 ≤ (L : Int)) (hL : L ≤ 384) (h : zInv n m) (hn : 0 ≤ n ∧ n ≤ 100) (kk : ∀ m2, zInv (n + 1) m2 → zLj K b L xs 1508 [(0, .ref b), (1, rr K 0), (2, rr K 98), (3, .int (iz i))] [] m2) : zLj K b L xs 734 [(0, .ref b), (1, rr K 0), (2, rr K 98), (3, .int (iz i))] [] m := by
  refine zl_aloadr_n (pc := 734) dL_law_734 rfl 1 rfl ?_
  refine zl_call (pc := 735) (mc := mX9_missed) (a := 0) (d := 49) (As := []) (rest := []) dL_law_735 zcL_85 ziX9_missed zsX9_missed rfl rfl rfl rfl (Nat.le_of_ble_eq_true rfl) (by decide) (o_missed (d := 37)  h hn) (fun r m1 hr q => ?_)
  refine zl_aloadr_n (pc := 738) dL_law_738 rfl 2 rfl ?_
  refine zl_call (pc := 739) (mc := mX10_missed) (a := 98) (d := 49) (As := []) (rest := [.int (iz r)]) dL_law_739 zcL_88 ziX10_missed zsX10_missed rfl rfl rfl rfl (Nat.le_of_ble_eq_true rfl) (by decide) q (fun r2 m2 hr2 q2 => ?_)
  exact zl_icmp_eq (pc := 742) (tgt := 1508) dL_law_742 (by decide) hr hr2 (fun _ => kk m2 q2.2) (fun z => absurd q2.1.symm z)
set_option maxRecDepth 100000 in
theorem kL_17 (h0 : 0 ≤ i) (hi : i + 6 ≤ (L : Int)) (hL : L ≤ 384) (h : zInv n m) (hn : 0 ≤ n ∧ n ≤ 100) (kk : ∀ m2, zInv (n + 1) m2 → zLj K b L xs 1508 [(0, .ref b), (1, rr K 0), (2, rr K 98), (3, .int (iz i))] [] m2) : zLj K b L xs 747 [(0, .ref b), (1, rr K 0), (2, rr K 98), (3, .int (iz i))] [] m := by
  refine zl_aloadr_n (pc := 747) dL_law_747 rfl 1 rfl ?_
  refine zl_aload_n (pc := 748) dL_law_748 rfl 0 rfl ?_
  refine zl_iload_n (pc := 749) dL_law_749 rfl 3 rfl ?_
  refine zl_iconst (pc := 750) dL_law_750 ?_
  refine zl_iadd (pc := 751) dL_law_751 ?_
  refine zl_sld (pc := 752) (i := i + 1) dL_law_752 (by omega) (by omega) ⟨by omega, by omega⟩ ?_
  refine zl_call (pc := 753) (mc := mX9_worst) (a := 0) (d := 49) (As := [.int (iz ((xs (i + 1).toNat).toInt))]) (rest := []) dL_law_753 zcL_89 ziX9_worst zsX9_worst rfl rfl rfl rfl (Nat.le_of_ble_eq_true rfl) (by decide) (o_worst (d := 37) (inR_of _) h hn) (fun r m1 hr q => ?_)
  refine zl_aloadr_n (pc := 756) dL_law_756 rfl 2 rfl ?_
  refine zl_aload_n (pc := 757) dL_law_757 rfl 0 rfl ?_
  refine zl_iload_n (pc := 758) dL_law_758 rfl 3 rfl ?_
  refine zl_iconst (pc := 759) dL_law_759 ?_
  refine zl_iadd (pc := 760) dL_law_760 ?_
  refine zl_sld (pc := 761) (i := i + 1) dL_law_761 (by omega) (by omega) ⟨by omega, by omega⟩ ?_
  refine zl_call (pc := 762) (mc := mX10_worst) (a := 98) (d := 49) (As := [.int (iz ((xs (i + 1).toNat).toInt))]) (rest := [.int (iz r)]) dL_law_762 zcL_92 ziX10_worst zsX10_worst rfl rfl rfl rfl (Nat.le_of_ble_eq_true rfl) (by decide) q (fun r2 m2 hr2 q2 => ?_)
  exact zl_icmp_eq (pc := 765) (tgt := 1508) dL_law_765 (by decide) hr hr2 (fun _ => kk m2 q2.2) (fun z => absurd q2.1.symm z)
set_option maxRecDepth 100000 in
theorem kL_18 (h0 : 0 ≤ i) (hi : i + 6 ≤ (L : Int)) (hL : L ≤ 384) (h : zInv n m) (hn : 0 ≤ n ∧ n ≤ 100) (kk : ∀ m2, zInv (n + 1) m2 → zLj K b L xs 1508 [(0, .ref b), (1, rr K 0), (2, rr K 98), (3, .int (iz i))] [] m2) : zLj K b L xs 770 [(0, .ref b), (1, rr K 0), (2, rr K 98), (3, .int (iz i))] [] m := by
  refine zl_aloadr_n (pc := 770) dL_law_770 rfl 1 rfl ?_
  refine zl_aload_n (pc := 771) dL_law_771 rfl 0 rfl ?_
  refine zl_iload_n (pc := 772) dL_law_772 rfl 3 rfl ?_
  refine zl_iconst (pc := 773) dL_law_773 ?_
  refine zl_iadd (pc := 774) dL_law_774 ?_
  refine zl_sld (pc := 775) (i := i + 1) dL_law_775 (by omega) (by omega) ⟨by omega, by omega⟩ ?_
  refine zl_call (pc := 776) (mc := mX9_holds) (a := 0) (d := 49) (As := [.int (iz ((xs (i + 1).toNat).toInt))]) (rest := []) dL_law_776 zcL_93 ziX9_holds zsX9_holds rfl rfl rfl rfl (Nat.le_of_ble_eq_true rfl) (by decide) (o_holds (d := 37) (inR_of _) h hn) (fun r m1 hr q => ?_)
  refine zl_aloadr_n (pc := 779) dL_law_779 rfl 2 rfl ?_
  refine zl_aload_n (pc := 780) dL_law_780 rfl 0 rfl ?_
  refine zl_iload_n (pc := 781) dL_law_781 rfl 3 rfl ?_
  refine zl_iconst (pc := 782) dL_law_782 ?_
  refine zl_iadd (pc := 783) dL_law_783 ?_
  refine zl_sld (pc := 784) (i := i + 1) dL_law_784 (by omega) (by omega) ⟨by omega, by omega⟩ ?_
  refine zl_call (pc := 785) (mc := mX10_holds) (a := 98) (d := 49) (As := [.int (iz ((xs (i + 1).toNat).toInt))]) (rest := [.int (iz r)]) dL_law_785 zcL_96 ziX10_holds zsX10_holds rfl rfl rfl rfl (Nat.le_of_ble_eq_true rfl) (by decide) q (fun r2 m2 hr2 q2 => ?_)
  exact zl_icmp_eq (pc := 788) (tgt := 1508) dL_law_788 (by decide) hr hr2 (fun _ => kk m2 q2.2) (fun z => absurd q2.1.symm z)
set_option maxRecDepth 100000 in
theorem kL_19 (h0 : 0 ≤ i) (hi : i + 6 ≤ (L : Int)) (hL : L ≤ 384) (h : zInv n m) (hn : 0 ≤ n ∧ n ≤ 100) (kk : ∀ m2, zInv (n + 1) m2 → zLj K b L xs 1508 [(0, .ref b), (1, rr K 0), (2, rr K 98), (3, .int (iz i))] [] m2) : zLj K b L xs 793 [(0, .ref b), (1, rr K 0), (2, rr K 98), (3, .int (iz i))] [] m := by
  refine zl_aloadr_n (pc := 793) dL_law_793 rfl 1 rfl ?_
  refine zl_aload_n (pc := 794) dL_law_794 rfl 0 rfl ?_
  refine zl_iload_n (pc := 795) dL_law_795 rfl 3 rfl ?_
  refine zl_iconst (pc := 796) dL_law_796 ?_
  refine zl_iadd (pc := 797) dL_law_797 ?_
  refine zl_sld (pc := 798) (i := i + 1) dL_law_798 (by omega) (by omega) ⟨by omega, by omega⟩ ?_
  refine zl_aload_n (pc := 799) dL_law_799 rfl 0 rfl ?_
  refine zl_iload_n (pc := 800) dL_law_800 rfl 3 rfl ?_
  refine zl_iconst (pc := 801) dL_law_801 ?_
  refine zl_iadd (pc := 802) dL_law_802 ?_
  refine zl_sld (pc := 803) (i := i + 2) dL_law_803 (by omega) (by omega) ⟨by omega, by omega⟩ ?_
  refine zl_aload_n (pc := 804) dL_law_804 rfl 0 rfl ?_
  refine zl_iload_n (pc := 805) dL_law_805 rfl 3 rfl ?_
  refine zl_iconst (pc := 806) dL_law_806 ?_
  refine zl_iadd (pc := 807) dL_law_807 ?_
  refine zl_sld (pc := 808) (i := i + 3) dL_law_808 (by omega) (by omega) ⟨by omega, by omega⟩ ?_
  refine zl_call (pc := 809) (mc := mX9_open) (a := 0) (d := 49) (As := [.int (iz ((xs (i + 1).toNat).toInt)), .int (iz ((xs (i + 2).toNat).toInt)), .int (iz ((xs (i + 3).toNat).toInt))]) (rest := []) dL_law_809 zcL_97 ziX9_open zsX9_open rfl rfl rfl rfl (Nat.le_of_ble_eq_true rfl) (by decide) (o_open (d := 37) (inR_of _) (inR_of _) (inR_of _) h) (fun r m1 hr q => ?_)
  refine zl_aloadr_n (pc := 812) dL_law_812 rfl 2 rfl ?_
  refine zl_aload_n (pc := 813) dL_law_813 rfl 0 rfl ?_
  refine zl_iload_n (pc := 814) dL_law_814 rfl 3 rfl ?_
  refine zl_iconst (pc := 815) dL_law_815 ?_
  refine zl_iadd (pc := 816) dL_law_816 ?_
  refine zl_sld (pc := 817) (i := i + 1) dL_law_817 (by omega) (by omega) ⟨by omega, by omega⟩ ?_
  refine zl_aload_n (pc := 818) dL_law_818 rfl 0 rfl ?_
  refine zl_iload_n (pc := 819) dL_law_819 rfl 3 rfl ?_
  refine zl_iconst (pc := 820) dL_law_820 ?_
  refine zl_iadd (pc := 821) dL_law_821 ?_
  refine zl_sld (pc := 822) (i := i + 2) dL_law_822 (by omega) (by omega) ⟨by omega, by omega⟩ ?_
  refine zl_aload_n (pc := 823) dL_law_823 rfl 0 rfl ?_
  refine zl_iload_n (pc := 824) dL_law_824 rfl 3 rfl ?_
  refine zl_iconst (pc := 825) dL_law_825 ?_
  refine zl_iadd (pc := 826) dL_law_826 ?_
  refine zl_sld (pc := 827) (i := i + 3) dL_law_827 (by omega) (by omega) ⟨by omega, by omega⟩ ?_
  refine zl_call (pc := 828) (mc := mX10_open) (a := 98) (d := 49) (As := [.int (iz ((xs (i + 1).toNat).toInt)), .int (iz ((xs (i + 2).toNat).toInt)), .int (iz ((xs (i + 3).toNat).toInt))]) (rest := [.int (iz r)]) dL_law_828 zcL_100 ziX10_open zsX10_open rfl rfl rfl rfl (Nat.le_of_ble_eq_true rfl) (by decide) q (fun r2 m2 hr2 q2 => ?_)
  exact zl_icmp_eq (pc := 831) (tgt := 1508) dL_law_831 (by decide) hr hr2 (fun _ => kk m2 q2.2) (fun z => absurd q2.1.symm z)
set_option maxRecDepth 100000 in
theorem kL_20 (h0 : 0 ≤ i) (hi : i + 6 ≤ (L : Int)) (hL : L ≤ 384) (h : zInv n m) (hn : 0 ≤ n ∧ n ≤ 100) (kk : ∀ m2, zInv (n + 1) m2 → zLj K b L xs 1508 [(0, .ref b), (1, rr K 0), (2, rr K 98), (3, .int (iz i))] [] m2) : zLj K b L xs 836 [(0, .ref b), (1, rr K 0), (2, rr K 98), (3, .int (iz i))] [] m := by
  refine zl_aloadr_n (pc := 836) dL_law_836 rfl 1 rfl ?_
  refine zl_aload_n (pc := 837) dL_law_837 rfl 0 rfl ?_
  refine zl_iload_n (pc := 838) dL_law_838 rfl 3 rfl ?_
  refine zl_iconst (pc := 839) dL_law_839 ?_
  refine zl_iadd (pc := 840) dL_law_840 ?_
  refine zl_sld (pc := 841) (i := i + 1) dL_law_841 (by omega) (by omega) ⟨by omega, by omega⟩ ?_
  refine zl_call (pc := 842) (mc := mX9_sizing) (a := 0) (d := 49) (As := [.int (iz ((xs (i + 1).toNat).toInt))]) (rest := []) dL_law_842 zcL_101 ziX9_sizing zsX9_sizing rfl rfl rfl rfl (Nat.le_of_ble_eq_true rfl) (by decide) (o_sizing (d := 37) (inR_of _) h hn) (fun r m1 hr q => ?_)
  refine zl_aloadr_n (pc := 845) dL_law_845 rfl 2 rfl ?_
  refine zl_aload_n (pc := 846) dL_law_846 rfl 0 rfl ?_
  refine zl_iload_n (pc := 847) dL_law_847 rfl 3 rfl ?_
  refine zl_iconst (pc := 848) dL_law_848 ?_
  refine zl_iadd (pc := 849) dL_law_849 ?_
  refine zl_sld (pc := 850) (i := i + 1) dL_law_850 (by omega) (by omega) ⟨by omega, by omega⟩ ?_
  refine zl_call (pc := 851) (mc := mX10_sizing) (a := 98) (d := 49) (As := [.int (iz ((xs (i + 1).toNat).toInt))]) (rest := [.int (iz r)]) dL_law_851 zcL_104 ziX10_sizing zsX10_sizing rfl rfl rfl rfl (Nat.le_of_ble_eq_true rfl) (by decide) q (fun r2 m2 hr2 q2 => ?_)
  exact zl_icmp_eq (pc := 854) (tgt := 1508) dL_law_854 (by decide) hr hr2 (fun _ => kk m2 q2.2) (fun z => absurd q2.1.symm z)
set_option maxRecDepth 100000 in
theorem kL_21 (h0 : 0 ≤ i) (hi : i + 6 ≤ (L : Int)) (hL : L ≤ 384) (h : zInv n m) (hn : 0 ≤ n ∧ n ≤ 100) (kk : ∀ m2, zInv (n + 1) m2 → zLj K b L xs 1508 [(0, .ref b), (1, rr K 0), (2, rr K 98), (3, .int (iz i))] [] m2) : zLj K b L xs 859 [(0, .ref b), (1, rr K 0), (2, rr K 98), (3, .int (iz i))] [] m := by
  refine zl_aloadr_n (pc := 859) dL_law_859 rfl 1 rfl ?_
  refine zl_call (pc := 860) (mc := mX9_prove) (a := 0) (d := 49) (As := []) (rest := []) dL_law_860 zcL_105 ziX9_prove zsX9_prove rfl rfl rfl rfl (Nat.le_of_ble_eq_true rfl) (by decide) (o_prove (d := 37)  h hn) (fun r m1 hr q => ?_)
  refine zl_aloadr_n (pc := 863) dL_law_863 rfl 2 rfl ?_
  refine zl_call (pc := 864) (mc := mX10_prove) (a := 98) (d := 49) (As := []) (rest := [.int (iz r)]) dL_law_864 zcL_108 ziX10_prove zsX10_prove rfl rfl rfl rfl (Nat.le_of_ble_eq_true rfl) (by decide) q (fun r2 m2 hr2 q2 => ?_)
  exact zl_icmp_eq (pc := 867) (tgt := 1508) dL_law_867 (by decide) hr hr2 (fun _ => kk m2 q2.2) (fun z => absurd q2.1.symm z)
set_option maxRecDepth 100000 in
theorem kL_22 (h0 : 0 ≤ i) (hi : i + 6 ≤ (L : Int)) (hL : L ≤ 384) (h : zInv n m) (hn : 0 ≤ n ∧ n ≤ 100) (kk : ∀ m2, zInv (n + 1) m2 → zLj K b L xs 1508 [(0, .ref b), (1, rr K 0), (2, rr K 98), (3, .int (iz i))] [] m2) : zLj K b L xs 872 [(0, .ref b), (1, rr K 0), (2, rr K 98), (3, .int (iz i))] [] m := by
  refine zl_aloadr_n (pc := 872) dL_law_872 rfl 1 rfl ?_
  refine zl_aload_n (pc := 873) dL_law_873 rfl 0 rfl ?_
  refine zl_iload_n (pc := 874) dL_law_874 rfl 3 rfl ?_
  refine zl_iconst (pc := 875) dL_law_875 ?_
  refine zl_iadd (pc := 876) dL_law_876 ?_
  refine zl_sld (pc := 877) (i := i + 1) dL_law_877 (by omega) (by omega) ⟨by omega, by omega⟩ ?_
  refine zl_aload_n (pc := 878) dL_law_878 rfl 0 rfl ?_
  refine zl_iload_n (pc := 879) dL_law_879 rfl 3 rfl ?_
  refine zl_iconst (pc := 880) dL_law_880 ?_
  refine zl_iadd (pc := 881) dL_law_881 ?_
  refine zl_sld (pc := 882) (i := i + 2) dL_law_882 (by omega) (by omega) ⟨by omega, by omega⟩ ?_
  refine zl_call (pc := 883) (mc := mX9_row) (a := 0) (d := 49) (As := [.int (iz ((xs (i + 1).toNat).toInt)), .int (iz ((xs (i + 2).toNat).toInt))]) (rest := []) dL_law_883 zcL_109 ziX9_row zsX9_row rfl rfl rfl rfl (Nat.le_of_ble_eq_true rfl) (by decide) (o_row (d := 37) (inR_of _) (inR_of _) h hn) (fun r m1 hr q => ?_)
  refine zl_aloadr_n (pc := 886) dL_law_886 rfl 2 rfl ?_
  refine zl_aload_n (pc := 887) dL_law_887 rfl 0 rfl ?_
  refine zl_iload_n (pc := 888) dL_law_888 rfl 3 rfl ?_
  refine zl_iconst (pc := 889) dL_law_889 ?_
  refine zl_iadd (pc := 890) dL_law_890 ?_
  refine zl_sld (pc := 891) (i := i + 1) dL_law_891 (by omega) (by omega) ⟨by omega, by omega⟩ ?_
  refine zl_aload_n (pc := 892) dL_law_892 rfl 0 rfl ?_
  refine zl_iload_n (pc := 893) dL_law_893 rfl 3 rfl ?_
  refine zl_iconst (pc := 894) dL_law_894 ?_
  refine zl_iadd (pc := 895) dL_law_895 ?_
  refine zl_sld (pc := 896) (i := i + 2) dL_law_896 (by omega) (by omega) ⟨by omega, by omega⟩ ?_
  refine zl_call (pc := 897) (mc := mX10_row) (a := 98) (d := 49) (As := [.int (iz ((xs (i + 1).toNat).toInt)), .int (iz ((xs (i + 2).toNat).toInt))]) (rest := [.int (iz r)]) dL_law_897 zcL_112 ziX10_row zsX10_row rfl rfl rfl rfl (Nat.le_of_ble_eq_true rfl) (by decide) q (fun r2 m2 hr2 q2 => ?_)
  exact zl_icmp_eq (pc := 900) (tgt := 1508) dL_law_900 (by decide) hr hr2 (fun _ => kk m2 q2.2) (fun z => absurd q2.1.symm z)
set_option maxRecDepth 100000 in
theorem kL_23 (h0 : 0 ≤ i) (hi : i + 6 ≤ (L : Int)) (hL : L ≤ 384) (h : zInv n m) (hn : 0 ≤ n ∧ n ≤ 100) (kk : ∀ m2, zInv (n + 1) m2 → zLj K b L xs 1508 [(0, .ref b), (1, rr K 0), (2, rr K 98), (3, .int (iz i))] [] m2) : zLj K b L xs 905 [(0, .ref b), (1, rr K 0), (2, rr K 98), (3, .int (iz i))] [] m := by
  refine zl_aloadr_n (pc := 905) dL_law_905 rfl 1 rfl ?_
  refine zl_aload_n (pc := 906) dL_law_906 rfl 0 rfl ?_
  refine zl_iload_n (pc := 907) dL_law_907 rfl 3 rfl ?_
  refine zl_iconst (pc := 908) dL_law_908 ?_
  refine zl_iadd (pc := 909) dL_law_909 ?_
  refine zl_sld (pc := 910) (i := i + 1) dL_law_910 (by omega) (by omega) ⟨by omega, by omega⟩ ?_
  refine zl_aload_n (pc := 911) dL_law_911 rfl 0 rfl ?_
  refine zl_iload_n (pc := 912) dL_law_912 rfl 3 rfl ?_
  refine zl_iconst (pc := 913) dL_law_913 ?_
  refine zl_iadd (pc := 914) dL_law_914 ?_
  refine zl_sld (pc := 915) (i := i + 2) dL_law_915 (by omega) (by omega) ⟨by omega, by omega⟩ ?_
  refine zl_aload_n (pc := 916) dL_law_916 rfl 0 rfl ?_
  refine zl_iload_n (pc := 917) dL_law_917 rfl 3 rfl ?_
  refine zl_iconst (pc := 918) dL_law_918 ?_
  refine zl_iadd (pc := 919) dL_law_919 ?_
  refine zl_sld (pc := 920) (i := i + 3) dL_law_920 (by omega) (by omega) ⟨by omega, by omega⟩ ?_
  refine zl_call (pc := 921) (mc := mX9_alterRow) (a := 0) (d := 49) (As := [.int (iz ((xs (i + 1).toNat).toInt)), .int (iz ((xs (i + 2).toNat).toInt)), .int (iz ((xs (i + 3).toNat).toInt))]) (rest := []) dL_law_921 zcL_113 ziX9_alterRow zsX9_alterRow rfl rfl rfl rfl (Nat.le_of_ble_eq_true rfl) (by decide) (o_alterRow (d := 37) (inR_of _) (inR_of _) (inR_of _) h hn) (fun r m1 hr q => ?_)
  refine zl_aloadr_n (pc := 924) dL_law_924 rfl 2 rfl ?_
  refine zl_aload_n (pc := 925) dL_law_925 rfl 0 rfl ?_
  refine zl_iload_n (pc := 926) dL_law_926 rfl 3 rfl ?_
  refine zl_iconst (pc := 927) dL_law_927 ?_
  refine zl_iadd (pc := 928) dL_law_928 ?_
  refine zl_sld (pc := 929) (i := i + 1) dL_law_929 (by omega) (by omega) ⟨by omega, by omega⟩ ?_
  refine zl_aload_n (pc := 930) dL_law_930 rfl 0 rfl ?_
  refine zl_iload_n (pc := 931) dL_law_931 rfl 3 rfl ?_
  refine zl_iconst (pc := 932) dL_law_932 ?_
  refine zl_iadd (pc := 933) dL_law_933 ?_
  refine zl_sld (pc := 934) (i := i + 2) dL_law_934 (by omega) (by omega) ⟨by omega, by omega⟩ ?_
  refine zl_aload_n (pc := 935) dL_law_935 rfl 0 rfl ?_
  refine zl_iload_n (pc := 936) dL_law_936 rfl 3 rfl ?_
  refine zl_iconst (pc := 937) dL_law_937 ?_
  refine zl_iadd (pc := 938) dL_law_938 ?_
  refine zl_sld (pc := 939) (i := i + 3) dL_law_939 (by omega) (by omega) ⟨by omega, by omega⟩ ?_
  refine zl_call (pc := 940) (mc := mX10_alterRow) (a := 98) (d := 49) (As := [.int (iz ((xs (i + 1).toNat).toInt)), .int (iz ((xs (i + 2).toNat).toInt)), .int (iz ((xs (i + 3).toNat).toInt))]) (rest := [.int (iz r)]) dL_law_940 zcL_116 ziX10_alterRow zsX10_alterRow rfl rfl rfl rfl (Nat.le_of_ble_eq_true rfl) (by decide) q (fun r2 m2 hr2 q2 => ?_)
  exact zl_icmp_eq (pc := 943) (tgt := 1508) dL_law_943 (by decide) hr hr2 (fun _ => kk m2 q2.2) (fun z => absurd q2.1.symm z)
set_option maxRecDepth 100000 in
theorem kL_24 (h0 : 0 ≤ i) (hi : i + 6 ≤ (L : Int)) (hL : L ≤ 384) (h : zInv n m) (hn : 0 ≤ n ∧ n ≤ 100) (kk : ∀ m2, zInv (n + 1) m2 → zLj K b L xs 1508 [(0, .ref b), (1, rr K 0), (2, rr K 98), (3, .int (iz i))] [] m2) : zLj K b L xs 948 [(0, .ref b), (1, rr K 0), (2, rr K 98), (3, .int (iz i))] [] m := by
  refine zl_aloadr_n (pc := 948) dL_law_948 rfl 1 rfl ?_
  refine zl_call (pc := 949) (mc := mX9_judge) (a := 0) (d := 49) (As := []) (rest := []) dL_law_949 zcL_117 ziX9_judge zsX9_judge rfl rfl rfl rfl (Nat.le_of_ble_eq_true rfl) (by decide) (o_judge (d := 37)  h hn) (fun r m1 hr q => ?_)
  refine zl_aloadr_n (pc := 952) dL_law_952 rfl 2 rfl ?_
  refine zl_call (pc := 953) (mc := mX10_judge) (a := 98) (d := 49) (As := []) (rest := [.int (iz r)]) dL_law_953 zcL_120 ziX10_judge zsX10_judge rfl rfl rfl rfl (Nat.le_of_ble_eq_true rfl) (by decide) q (fun r2 m2 hr2 q2 => ?_)
  exact zl_icmp_eq (pc := 956) (tgt := 1508) dL_law_956 (by decide) hr hr2 (fun _ => kk m2 q2.2) (fun z => absurd q2.1.symm z)
set_option maxRecDepth 100000 in
theorem kL_25 (h0 : 0 ≤ i) (hi : i + 6 ≤ (L : Int)) (hL : L ≤ 384) (h : zInv n m) (hn : 0 ≤ n ∧ n ≤ 100) (kk : ∀ m2, zInv (n + 1) m2 → zLj K b L xs 1508 [(0, .ref b), (1, rr K 0), (2, rr K 98), (3, .int (iz i))] [] m2) : zLj K b L xs 961 [(0, .ref b), (1, rr K 0), (2, rr K 98), (3, .int (iz i))] [] m := by
  refine zl_aloadr_n (pc := 961) dL_law_961 rfl 1 rfl ?_
  refine zl_aload_n (pc := 962) dL_law_962 rfl 0 rfl ?_
  refine zl_iload_n (pc := 963) dL_law_963 rfl 3 rfl ?_
  refine zl_iconst (pc := 964) dL_law_964 ?_
  refine zl_iadd (pc := 965) dL_law_965 ?_
  refine zl_sld (pc := 966) (i := i + 1) dL_law_966 (by omega) (by omega) ⟨by omega, by omega⟩ ?_
  refine zl_aload_n (pc := 967) dL_law_967 rfl 0 rfl ?_
  refine zl_iload_n (pc := 968) dL_law_968 rfl 3 rfl ?_
  refine zl_iconst (pc := 969) dL_law_969 ?_
  refine zl_iadd (pc := 970) dL_law_970 ?_
  refine zl_sld (pc := 971) (i := i + 2) dL_law_971 (by omega) (by omega) ⟨by omega, by omega⟩ ?_
  refine zl_if_eq (pc := 972) (tgt := 979) dL_law_972 (by decide) (inR_of _) (fun cz => ?_) (fun cz => ?_)
  · refine zl_iconst (pc := 979) dL_law_979 ?_
    refine zl_call (pc := 980) (mc := mX9_far) (a := 0) (d := 49) (As := [.int (iz ((xs (i + 1).toNat).toInt)), .int (iz 0)]) (rest := []) dL_law_980 zcL_121 ziX9_far zsX9_far rfl rfl rfl rfl (Nat.le_of_ble_eq_true rfl) (by decide) (o_far (d := 37) (inR_of _) (inRd rfl) h hn) (fun r m1 hr q => ?_)
    refine zl_aloadr_n (pc := 983) dL_law_983 rfl 2 rfl ?_
    refine zl_aload_n (pc := 984) dL_law_984 rfl 0 rfl ?_
    refine zl_iload_n (pc := 985) dL_law_985 rfl 3 rfl ?_
    refine zl_iconst (pc := 986) dL_law_986 ?_
    refine zl_iadd (pc := 987) dL_law_987 ?_
    refine zl_sld (pc := 988) (i := i + 1) dL_law_988 (by omega) (by omega) ⟨by omega, by omega⟩ ?_
    refine zl_aload_n (pc := 989) dL_law_989 rfl 0 rfl ?_
    refine zl_iload_n (pc := 990) dL_law_990 rfl 3 rfl ?_
    refine zl_iconst (pc := 991) dL_law_991 ?_
    refine zl_iadd (pc := 992) dL_law_992 ?_
    refine zl_sld (pc := 993) (i := i + 2) dL_law_993 (by omega) (by omega) ⟨by omega, by omega⟩ ?_
    refine zl_if_eq (pc := 994) (tgt := 1001) dL_law_994 (by decide) (inR_of _) (fun _ => ?_) (fun q => absurd cz q)
    refine zl_iconst (pc := 1001) dL_law_1001 ?_
    refine zl_call (pc := 1002) (mc := mX10_far) (a := 98) (d := 49) (As := [.int (iz ((xs (i + 1).toNat).toInt)), .int (iz 0)]) (rest := [.int (iz r)]) dL_law_1002 zcL_125 ziX10_far zsX10_far rfl rfl rfl rfl (Nat.le_of_ble_eq_true rfl) (by decide) q (fun r2 m2 hr2 q2 => ?_)
    exact zl_icmp_eq (pc := 1005) (tgt := 1508) dL_law_1005 (by decide) hr hr2 (fun _ => kk m2 q2.2) (fun z => absurd q2.1.symm z)
  · refine zl_iconst (pc := 975) dL_law_975 ?_
    refine zl_goto (pc := 976) (tgt := 980) dL_law_976 (by decide) ?_
    refine zl_call (pc := 980) (mc := mX9_far) (a := 0) (d := 49) (As := [.int (iz ((xs (i + 1).toNat).toInt)), .int (iz 1)]) (rest := []) dL_law_980 zcL_121 ziX9_far zsX9_far rfl rfl rfl rfl (Nat.le_of_ble_eq_true rfl) (by decide) (o_far (d := 37) (inR_of _) (inRd rfl) h hn) (fun r m1 hr q => ?_)
    refine zl_aloadr_n (pc := 983) dL_law_983 rfl 2 rfl ?_
    refine zl_aload_n (pc := 984) dL_law_984 rfl 0 rfl ?_
    refine zl_iload_n (pc := 985) dL_law_985 rfl 3 rfl ?_
    refine zl_iconst (pc := 986) dL_law_986 ?_
    refine zl_iadd (pc := 987) dL_law_987 ?_
    refine zl_sld (pc := 988) (i := i + 1) dL_law_988 (by omega) (by omega) ⟨by omega, by omega⟩ ?_
    refine zl_aload_n (pc := 989) dL_law_989 rfl 0 rfl ?_
    refine zl_iload_n (pc := 990) dL_law_990 rfl 3 rfl ?_
    refine zl_iconst (pc := 991) dL_law_991 ?_
    refine zl_iadd (pc := 992) dL_law_992 ?_
    refine zl_sld (pc := 993) (i := i + 2) dL_law_993 (by omega) (by omega) ⟨by omega, by omega⟩ ?_
    refine zl_if_eq (pc := 994) (tgt := 1001) dL_law_994 (by decide) (inR_of _) (fun q => absurd q cz) (fun _ => ?_)
    refine zl_iconst (pc := 997) dL_law_997 ?_
    refine zl_goto (pc := 998) (tgt := 1002) dL_law_998 (by decide) ?_
    refine zl_call (pc := 1002) (mc := mX10_far) (a := 98) (d := 49) (As := [.int (iz ((xs (i + 1).toNat).toInt)), .int (iz 1)]) (rest := [.int (iz r)]) dL_law_1002 zcL_125 ziX10_far zsX10_far rfl rfl rfl rfl (Nat.le_of_ble_eq_true rfl) (by decide) q (fun r2 m2 hr2 q2 => ?_)
    exact zl_icmp_eq (pc := 1005) (tgt := 1508) dL_law_1005 (by decide) hr hr2 (fun _ => kk m2 q2.2) (fun z => absurd q2.1.symm z)
set_option maxRecDepth 100000 in
theorem kL_26 (h0 : 0 ≤ i) (hi : i + 6 ≤ (L : Int)) (hL : L ≤ 384) (h : zInv n m) (hn : 0 ≤ n ∧ n ≤ 100) (kk : ∀ m2, zInv (n + 1) m2 → zLj K b L xs 1508 [(0, .ref b), (1, rr K 0), (2, rr K 98), (3, .int (iz i))] [] m2) : zLj K b L xs 1010 [(0, .ref b), (1, rr K 0), (2, rr K 98), (3, .int (iz i))] [] m := by
  refine zl_aloadr_n (pc := 1010) dL_law_1010 rfl 1 rfl ?_
  refine zl_aload_n (pc := 1011) dL_law_1011 rfl 0 rfl ?_
  refine zl_iload_n (pc := 1012) dL_law_1012 rfl 3 rfl ?_
  refine zl_iconst (pc := 1013) dL_law_1013 ?_
  refine zl_iadd (pc := 1014) dL_law_1014 ?_
  refine zl_sld (pc := 1015) (i := i + 1) dL_law_1015 (by omega) (by omega) ⟨by omega, by omega⟩ ?_
  refine zl_aload_n (pc := 1016) dL_law_1016 rfl 0 rfl ?_
  refine zl_iload_n (pc := 1017) dL_law_1017 rfl 3 rfl ?_
  refine zl_iconst (pc := 1018) dL_law_1018 ?_
  refine zl_iadd (pc := 1019) dL_law_1019 ?_
  refine zl_sld (pc := 1020) (i := i + 2) dL_law_1020 (by omega) (by omega) ⟨by omega, by omega⟩ ?_
  refine zl_call (pc := 1021) (mc := mX9_falls) (a := 0) (d := 49) (As := [.int (iz ((xs (i + 1).toNat).toInt)), .int (iz ((xs (i + 2).toNat).toInt))]) (rest := []) dL_law_1021 zcL_126 ziX9_falls zsX9_falls rfl rfl rfl rfl (Nat.le_of_ble_eq_true rfl) (by decide) (o_falls (d := 37) (inR_of _) (inR_of _) h hn) (fun r m1 hr q => ?_)
  refine zl_aloadr_n (pc := 1024) dL_law_1024 rfl 2 rfl ?_
  refine zl_aload_n (pc := 1025) dL_law_1025 rfl 0 rfl ?_
  refine zl_iload_n (pc := 1026) dL_law_1026 rfl 3 rfl ?_
  refine zl_iconst (pc := 1027) dL_law_1027 ?_
  refine zl_iadd (pc := 1028) dL_law_1028 ?_
  refine zl_sld (pc := 1029) (i := i + 1) dL_law_1029 (by omega) (by omega) ⟨by omega, by omega⟩ ?_
  refine zl_aload_n (pc := 1030) dL_law_1030 rfl 0 rfl ?_
  refine zl_iload_n (pc := 1031) dL_law_1031 rfl 3 rfl ?_
  refine zl_iconst (pc := 1032) dL_law_1032 ?_
  refine zl_iadd (pc := 1033) dL_law_1033 ?_
  refine zl_sld (pc := 1034) (i := i + 2) dL_law_1034 (by omega) (by omega) ⟨by omega, by omega⟩ ?_
  refine zl_call (pc := 1035) (mc := mX10_falls) (a := 98) (d := 49) (As := [.int (iz ((xs (i + 1).toNat).toInt)), .int (iz ((xs (i + 2).toNat).toInt))]) (rest := [.int (iz r)]) dL_law_1035 zcL_129 ziX10_falls zsX10_falls rfl rfl rfl rfl (Nat.le_of_ble_eq_true rfl) (by decide) q (fun r2 m2 hr2 q2 => ?_)
  exact zl_icmp_eq (pc := 1038) (tgt := 1508) dL_law_1038 (by decide) hr hr2 (fun _ => kk m2 q2.2) (fun z => absurd q2.1.symm z)
set_option maxRecDepth 100000 in
theorem kL_27 (h0 : 0 ≤ i) (hi : i + 6 ≤ (L : Int)) (hL : L ≤ 384) (h : zInv n m) (hn : 0 ≤ n ∧ n ≤ 100) (kk : ∀ m2, zInv (n + 1) m2 → zLj K b L xs 1508 [(0, .ref b), (1, rr K 0), (2, rr K 98), (3, .int (iz i))] [] m2) : zLj K b L xs 1043 [(0, .ref b), (1, rr K 0), (2, rr K 98), (3, .int (iz i))] [] m := by
  refine zl_aloadr_n (pc := 1043) dL_law_1043 rfl 1 rfl ?_
  refine zl_aload_n (pc := 1044) dL_law_1044 rfl 0 rfl ?_
  refine zl_iload_n (pc := 1045) dL_law_1045 rfl 3 rfl ?_
  refine zl_iconst (pc := 1046) dL_law_1046 ?_
  refine zl_iadd (pc := 1047) dL_law_1047 ?_
  refine zl_sld (pc := 1048) (i := i + 1) dL_law_1048 (by omega) (by omega) ⟨by omega, by omega⟩ ?_
  refine zl_aload_n (pc := 1049) dL_law_1049 rfl 0 rfl ?_
  refine zl_iload_n (pc := 1050) dL_law_1050 rfl 3 rfl ?_
  refine zl_iconst (pc := 1051) dL_law_1051 ?_
  refine zl_iadd (pc := 1052) dL_law_1052 ?_
  refine zl_sld (pc := 1053) (i := i + 2) dL_law_1053 (by omega) (by omega) ⟨by omega, by omega⟩ ?_
  refine zl_call (pc := 1054) (mc := mX9_change) (a := 0) (d := 49) (As := [.int (iz ((xs (i + 1).toNat).toInt)), .int (iz ((xs (i + 2).toNat).toInt))]) (rest := []) dL_law_1054 zcL_130 ziX9_change zsX9_change rfl rfl rfl rfl (Nat.le_of_ble_eq_true rfl) (by decide) (o_change (d := 37) (inR_of _) (inR_of _) h) (fun r m1 hr q => ?_)
  refine zl_aloadr_n (pc := 1057) dL_law_1057 rfl 2 rfl ?_
  refine zl_aload_n (pc := 1058) dL_law_1058 rfl 0 rfl ?_
  refine zl_iload_n (pc := 1059) dL_law_1059 rfl 3 rfl ?_
  refine zl_iconst (pc := 1060) dL_law_1060 ?_
  refine zl_iadd (pc := 1061) dL_law_1061 ?_
  refine zl_sld (pc := 1062) (i := i + 1) dL_law_1062 (by omega) (by omega) ⟨by omega, by omega⟩ ?_
  refine zl_aload_n (pc := 1063) dL_law_1063 rfl 0 rfl ?_
  refine zl_iload_n (pc := 1064) dL_law_1064 rfl 3 rfl ?_
  refine zl_iconst (pc := 1065) dL_law_1065 ?_
  refine zl_iadd (pc := 1066) dL_law_1066 ?_
  refine zl_sld (pc := 1067) (i := i + 2) dL_law_1067 (by omega) (by omega) ⟨by omega, by omega⟩ ?_
  refine zl_call (pc := 1068) (mc := mX10_change) (a := 98) (d := 49) (As := [.int (iz ((xs (i + 1).toNat).toInt)), .int (iz ((xs (i + 2).toNat).toInt))]) (rest := [.int (iz r)]) dL_law_1068 zcL_133 ziX10_change zsX10_change rfl rfl rfl rfl (Nat.le_of_ble_eq_true rfl) (by decide) q (fun r2 m2 hr2 q2 => ?_)
  exact zl_icmp_eq (pc := 1071) (tgt := 1508) dL_law_1071 (by decide) hr hr2 (fun _ => kk m2 q2.2) (fun z => absurd q2.1.symm z)
set_option maxRecDepth 100000 in
theorem kL_28 (h0 : 0 ≤ i) (hi : i + 6 ≤ (L : Int)) (hL : L ≤ 384) (h : zInv n m) (hn : 0 ≤ n ∧ n ≤ 100) (kk : ∀ m2, zInv (n + 1) m2 → zLj K b L xs 1508 [(0, .ref b), (1, rr K 0), (2, rr K 98), (3, .int (iz i))] [] m2) : zLj K b L xs 1076 [(0, .ref b), (1, rr K 0), (2, rr K 98), (3, .int (iz i))] [] m := by
  refine zl_aloadr_n (pc := 1076) dL_law_1076 rfl 1 rfl ?_
  refine zl_call (pc := 1077) (mc := mX9_help) (a := 0) (d := 49) (As := []) (rest := []) dL_law_1077 zcL_134 ziX9_help zsX9_help rfl rfl rfl rfl (Nat.le_of_ble_eq_true rfl) (by decide) (o_help (d := 37)  h hn) (fun r m1 hr q => ?_)
  refine zl_aloadr_n (pc := 1080) dL_law_1080 rfl 2 rfl ?_
  refine zl_call (pc := 1081) (mc := mX10_help) (a := 98) (d := 49) (As := []) (rest := [.int (iz r)]) dL_law_1081 zcL_137 ziX10_help zsX10_help rfl rfl rfl rfl (Nat.le_of_ble_eq_true rfl) (by decide) q (fun r2 m2 hr2 q2 => ?_)
  exact zl_icmp_eq (pc := 1084) (tgt := 1508) dL_law_1084 (by decide) hr hr2 (fun _ => kk m2 q2.2) (fun z => absurd q2.1.symm z)
set_option maxRecDepth 100000 in
theorem kL_29 (h0 : 0 ≤ i) (hi : i + 6 ≤ (L : Int)) (hL : L ≤ 384) (h : zInv n m) (hn : 0 ≤ n ∧ n ≤ 100) (kk : ∀ m2, zInv (n + 1) m2 → zLj K b L xs 1508 [(0, .ref b), (1, rr K 0), (2, rr K 98), (3, .int (iz i))] [] m2) : zLj K b L xs 1089 [(0, .ref b), (1, rr K 0), (2, rr K 98), (3, .int (iz i))] [] m := by
  refine zl_aloadr_n (pc := 1089) dL_law_1089 rfl 1 rfl ?_
  refine zl_aload_n (pc := 1090) dL_law_1090 rfl 0 rfl ?_
  refine zl_iload_n (pc := 1091) dL_law_1091 rfl 3 rfl ?_
  refine zl_iconst (pc := 1092) dL_law_1092 ?_
  refine zl_iadd (pc := 1093) dL_law_1093 ?_
  refine zl_sld (pc := 1094) (i := i + 1) dL_law_1094 (by omega) (by omega) ⟨by omega, by omega⟩ ?_
  refine zl_aload_n (pc := 1095) dL_law_1095 rfl 0 rfl ?_
  refine zl_iload_n (pc := 1096) dL_law_1096 rfl 3 rfl ?_
  refine zl_iconst (pc := 1097) dL_law_1097 ?_
  refine zl_iadd (pc := 1098) dL_law_1098 ?_
  refine zl_sld (pc := 1099) (i := i + 2) dL_law_1099 (by omega) (by omega) ⟨by omega, by omega⟩ ?_
  refine zl_call (pc := 1100) (mc := mX9_measured) (a := 0) (d := 49) (As := [.int (iz ((xs (i + 1).toNat).toInt)), .int (iz ((xs (i + 2).toNat).toInt))]) (rest := []) dL_law_1100 zcL_138 ziX9_measured zsX9_measured rfl rfl rfl rfl (Nat.le_of_ble_eq_true rfl) (by decide) (o_measured (d := 37) (inR_of _) (inR_of _) h) (fun r m1 hr q => ?_)
  refine zl_aloadr_n (pc := 1103) dL_law_1103 rfl 2 rfl ?_
  refine zl_aload_n (pc := 1104) dL_law_1104 rfl 0 rfl ?_
  refine zl_iload_n (pc := 1105) dL_law_1105 rfl 3 rfl ?_
  refine zl_iconst (pc := 1106) dL_law_1106 ?_
  refine zl_iadd (pc := 1107) dL_law_1107 ?_
  refine zl_sld (pc := 1108) (i := i + 1) dL_law_1108 (by omega) (by omega) ⟨by omega, by omega⟩ ?_
  refine zl_aload_n (pc := 1109) dL_law_1109 rfl 0 rfl ?_
  refine zl_iload_n (pc := 1110) dL_law_1110 rfl 3 rfl ?_
  refine zl_iconst (pc := 1111) dL_law_1111 ?_
  refine zl_iadd (pc := 1112) dL_law_1112 ?_
  refine zl_sld (pc := 1113) (i := i + 2) dL_law_1113 (by omega) (by omega) ⟨by omega, by omega⟩ ?_
  refine zl_call (pc := 1114) (mc := mX10_measured) (a := 98) (d := 49) (As := [.int (iz ((xs (i + 1).toNat).toInt)), .int (iz ((xs (i + 2).toNat).toInt))]) (rest := [.int (iz r)]) dL_law_1114 zcL_141 ziX10_measured zsX10_measured rfl rfl rfl rfl (Nat.le_of_ble_eq_true rfl) (by decide) q (fun r2 m2 hr2 q2 => ?_)
  exact zl_icmp_eq (pc := 1117) (tgt := 1508) dL_law_1117 (by decide) hr hr2 (fun _ => kk m2 q2.2) (fun z => absurd q2.1.symm z)
set_option maxRecDepth 100000 in
theorem kL_30 (h0 : 0 ≤ i) (hi : i + 6 ≤ (L : Int)) (hL : L ≤ 384) (h : zInv n m) (hn : 0 ≤ n ∧ n ≤ 100) (kk : ∀ m2, zInv (n + 1) m2 → zLj K b L xs 1508 [(0, .ref b), (1, rr K 0), (2, rr K 98), (3, .int (iz i))] [] m2) : zLj K b L xs 1122 [(0, .ref b), (1, rr K 0), (2, rr K 98), (3, .int (iz i))] [] m := by
  refine zl_aloadr_n (pc := 1122) dL_law_1122 rfl 1 rfl ?_
  refine zl_call (pc := 1123) (mc := mX9_which) (a := 0) (d := 49) (As := []) (rest := []) dL_law_1123 zcL_142 ziX9_which zsX9_which rfl rfl rfl rfl (Nat.le_of_ble_eq_true rfl) (by decide) (o_which (d := 37)  h hn) (fun r m1 hr q => ?_)
  refine zl_aloadr_n (pc := 1126) dL_law_1126 rfl 2 rfl ?_
  refine zl_call (pc := 1127) (mc := mX10_which) (a := 98) (d := 49) (As := []) (rest := [.int (iz r)]) dL_law_1127 zcL_145 ziX10_which zsX10_which rfl rfl rfl rfl (Nat.le_of_ble_eq_true rfl) (by decide) q (fun r2 m2 hr2 q2 => ?_)
  exact zl_icmp_eq (pc := 1130) (tgt := 1508) dL_law_1130 (by decide) hr hr2 (fun _ => kk m2 q2.2) (fun z => absurd q2.1.symm z)
set_option maxRecDepth 100000 in
theorem kL_31 (h0 : 0 ≤ i) (hi : i + 6 ≤ (L : Int)) (hL : L ≤ 384) (h : zInv n m) (hn : 0 ≤ n ∧ n ≤ 100) (kk : ∀ m2, zInv (n + 1) m2 → zLj K b L xs 1508 [(0, .ref b), (1, rr K 0), (2, rr K 98), (3, .int (iz i))] [] m2) : zLj K b L xs 1135 [(0, .ref b), (1, rr K 0), (2, rr K 98), (3, .int (iz i))] [] m := by
  refine zl_aloadr_n (pc := 1135) dL_law_1135 rfl 1 rfl ?_
  refine zl_aload_n (pc := 1136) dL_law_1136 rfl 0 rfl ?_
  refine zl_iload_n (pc := 1137) dL_law_1137 rfl 3 rfl ?_
  refine zl_iconst (pc := 1138) dL_law_1138 ?_
  refine zl_iadd (pc := 1139) dL_law_1139 ?_
  refine zl_sld (pc := 1140) (i := i + 1) dL_law_1140 (by omega) (by omega) ⟨by omega, by omega⟩ ?_
  refine zl_aload_n (pc := 1141) dL_law_1141 rfl 0 rfl ?_
  refine zl_iload_n (pc := 1142) dL_law_1142 rfl 3 rfl ?_
  refine zl_iconst (pc := 1143) dL_law_1143 ?_
  refine zl_iadd (pc := 1144) dL_law_1144 ?_
  refine zl_sld (pc := 1145) (i := i + 2) dL_law_1145 (by omega) (by omega) ⟨by omega, by omega⟩ ?_
  refine zl_aload_n (pc := 1146) dL_law_1146 rfl 0 rfl ?_
  refine zl_iload_n (pc := 1147) dL_law_1147 rfl 3 rfl ?_
  refine zl_iconst (pc := 1148) dL_law_1148 ?_
  refine zl_iadd (pc := 1149) dL_law_1149 ?_
  refine zl_sld (pc := 1150) (i := i + 3) dL_law_1150 (by omega) (by omega) ⟨by omega, by omega⟩ ?_
  refine zl_call (pc := 1151) (mc := mX9_sheet) (a := 0) (d := 49) (As := [.int (iz ((xs (i + 1).toNat).toInt)), .int (iz ((xs (i + 2).toNat).toInt)), .int (iz ((xs (i + 3).toNat).toInt))]) (rest := []) dL_law_1151 zcL_146 ziX9_sheet zsX9_sheet rfl rfl rfl rfl (Nat.le_of_ble_eq_true rfl) (by decide) (o_sheet (d := 37) (inR_of _) (inR_of _) (inR_of _) h hn) (fun r m1 hr q => ?_)
  refine zl_aloadr_n (pc := 1154) dL_law_1154 rfl 2 rfl ?_
  refine zl_aload_n (pc := 1155) dL_law_1155 rfl 0 rfl ?_
  refine zl_iload_n (pc := 1156) dL_law_1156 rfl 3 rfl ?_
  refine zl_iconst (pc := 1157) dL_law_1157 ?_
  refine zl_iadd (pc := 1158) dL_law_1158 ?_
  refine zl_sld (pc := 1159) (i := i + 1) dL_law_1159 (by omega) (by omega) ⟨by omega, by omega⟩ ?_
  refine zl_aload_n (pc := 1160) dL_law_1160 rfl 0 rfl ?_
  refine zl_iload_n (pc := 1161) dL_law_1161 rfl 3 rfl ?_
  refine zl_iconst (pc := 1162) dL_law_1162 ?_
  refine zl_iadd (pc := 1163) dL_law_1163 ?_
  refine zl_sld (pc := 1164) (i := i + 2) dL_law_1164 (by omega) (by omega) ⟨by omega, by omega⟩ ?_
  refine zl_aload_n (pc := 1165) dL_law_1165 rfl 0 rfl ?_
  refine zl_iload_n (pc := 1166) dL_law_1166 rfl 3 rfl ?_
  refine zl_iconst (pc := 1167) dL_law_1167 ?_
  refine zl_iadd (pc := 1168) dL_law_1168 ?_
  refine zl_sld (pc := 1169) (i := i + 3) dL_law_1169 (by omega) (by omega) ⟨by omega, by omega⟩ ?_
  refine zl_call (pc := 1170) (mc := mX10_sheet) (a := 98) (d := 49) (As := [.int (iz ((xs (i + 1).toNat).toInt)), .int (iz ((xs (i + 2).toNat).toInt)), .int (iz ((xs (i + 3).toNat).toInt))]) (rest := [.int (iz r)]) dL_law_1170 zcL_149 ziX10_sheet zsX10_sheet rfl rfl rfl rfl (Nat.le_of_ble_eq_true rfl) (by decide) q (fun r2 m2 hr2 q2 => ?_)
  exact zl_icmp_eq (pc := 1173) (tgt := 1508) dL_law_1173 (by decide) hr hr2 (fun _ => kk m2 q2.2) (fun z => absurd q2.1.symm z)
set_option maxRecDepth 100000 in
theorem kL_32 (h0 : 0 ≤ i) (hi : i + 6 ≤ (L : Int)) (hL : L ≤ 384) (h : zInv n m) (hn : 0 ≤ n ∧ n ≤ 100) (kk : ∀ m2, zInv (n + 1) m2 → zLj K b L xs 1508 [(0, .ref b), (1, rr K 0), (2, rr K 98), (3, .int (iz i))] [] m2) : zLj K b L xs 1178 [(0, .ref b), (1, rr K 0), (2, rr K 98), (3, .int (iz i))] [] m := by
  refine zl_aloadr_n (pc := 1178) dL_law_1178 rfl 1 rfl ?_
  refine zl_aload_n (pc := 1179) dL_law_1179 rfl 0 rfl ?_
  refine zl_iload_n (pc := 1180) dL_law_1180 rfl 3 rfl ?_
  refine zl_iconst (pc := 1181) dL_law_1181 ?_
  refine zl_iadd (pc := 1182) dL_law_1182 ?_
  refine zl_sld (pc := 1183) (i := i + 1) dL_law_1183 (by omega) (by omega) ⟨by omega, by omega⟩ ?_
  refine zl_aload_n (pc := 1184) dL_law_1184 rfl 0 rfl ?_
  refine zl_iload_n (pc := 1185) dL_law_1185 rfl 3 rfl ?_
  refine zl_iconst (pc := 1186) dL_law_1186 ?_
  refine zl_iadd (pc := 1187) dL_law_1187 ?_
  refine zl_sld (pc := 1188) (i := i + 2) dL_law_1188 (by omega) (by omega) ⟨by omega, by omega⟩ ?_
  refine zl_aload_n (pc := 1189) dL_law_1189 rfl 0 rfl ?_
  refine zl_iload_n (pc := 1190) dL_law_1190 rfl 3 rfl ?_
  refine zl_iconst (pc := 1191) dL_law_1191 ?_
  refine zl_iadd (pc := 1192) dL_law_1192 ?_
  refine zl_sld (pc := 1193) (i := i + 3) dL_law_1193 (by omega) (by omega) ⟨by omega, by omega⟩ ?_
  refine zl_call (pc := 1194) (mc := mX9_put) (a := 0) (d := 49) (As := [.int (iz ((xs (i + 1).toNat).toInt)), .int (iz ((xs (i + 2).toNat).toInt)), .int (iz ((xs (i + 3).toNat).toInt))]) (rest := []) dL_law_1194 zcL_150 ziX9_put zsX9_put rfl rfl rfl rfl (Nat.le_of_ble_eq_true rfl) (by decide) (o_put (d := 37) (inR_of _) (inR_of _) (inR_of _) h hn) (fun r m1 hr q => ?_)
  refine zl_aloadr_n (pc := 1197) dL_law_1197 rfl 2 rfl ?_
  refine zl_aload_n (pc := 1198) dL_law_1198 rfl 0 rfl ?_
  refine zl_iload_n (pc := 1199) dL_law_1199 rfl 3 rfl ?_
  refine zl_iconst (pc := 1200) dL_law_1200 ?_
  refine zl_iadd (pc := 1201) dL_law_1201 ?_
  refine zl_sld (pc := 1202) (i := i + 1) dL_law_1202 (by omega) (by omega) ⟨by omega, by omega⟩ ?_
  refine zl_aload_n (pc := 1203) dL_law_1203 rfl 0 rfl ?_
  refine zl_iload_n (pc := 1204) dL_law_1204 rfl 3 rfl ?_
  refine zl_iconst (pc := 1205) dL_law_1205 ?_
  refine zl_iadd (pc := 1206) dL_law_1206 ?_
  refine zl_sld (pc := 1207) (i := i + 2) dL_law_1207 (by omega) (by omega) ⟨by omega, by omega⟩ ?_
  refine zl_aload_n (pc := 1208) dL_law_1208 rfl 0 rfl ?_
  refine zl_iload_n (pc := 1209) dL_law_1209 rfl 3 rfl ?_
  refine zl_iconst (pc := 1210) dL_law_1210 ?_
  refine zl_iadd (pc := 1211) dL_law_1211 ?_
  refine zl_sld (pc := 1212) (i := i + 3) dL_law_1212 (by omega) (by omega) ⟨by omega, by omega⟩ ?_
  refine zl_call (pc := 1213) (mc := mX10_put) (a := 98) (d := 49) (As := [.int (iz ((xs (i + 1).toNat).toInt)), .int (iz ((xs (i + 2).toNat).toInt)), .int (iz ((xs (i + 3).toNat).toInt))]) (rest := [.int (iz r)]) dL_law_1213 zcL_153 ziX10_put zsX10_put rfl rfl rfl rfl (Nat.le_of_ble_eq_true rfl) (by decide) q (fun r2 m2 hr2 q2 => ?_)
  exact zl_icmp_eq (pc := 1216) (tgt := 1508) dL_law_1216 (by decide) hr hr2 (fun _ => kk m2 q2.2) (fun z => absurd q2.1.symm z)
set_option maxRecDepth 100000 in
theorem kL_33 (h0 : 0 ≤ i) (hi : i + 6 ≤ (L : Int)) (hL : L ≤ 384) (h : zInv n m) (hn : 0 ≤ n ∧ n ≤ 100) (kk : ∀ m2, zInv (n + 1) m2 → zLj K b L xs 1508 [(0, .ref b), (1, rr K 0), (2, rr K 98), (3, .int (iz i))] [] m2) : zLj K b L xs 1221 [(0, .ref b), (1, rr K 0), (2, rr K 98), (3, .int (iz i))] [] m := by
  refine zl_aloadr_n (pc := 1221) dL_law_1221 rfl 1 rfl ?_
  refine zl_aload_n (pc := 1222) dL_law_1222 rfl 0 rfl ?_
  refine zl_iload_n (pc := 1223) dL_law_1223 rfl 3 rfl ?_
  refine zl_iconst (pc := 1224) dL_law_1224 ?_
  refine zl_iadd (pc := 1225) dL_law_1225 ?_
  refine zl_sld (pc := 1226) (i := i + 1) dL_law_1226 (by omega) (by omega) ⟨by omega, by omega⟩ ?_
  refine zl_aload_n (pc := 1227) dL_law_1227 rfl 0 rfl ?_
  refine zl_iload_n (pc := 1228) dL_law_1228 rfl 3 rfl ?_
  refine zl_iconst (pc := 1229) dL_law_1229 ?_
  refine zl_iadd (pc := 1230) dL_law_1230 ?_
  refine zl_sld (pc := 1231) (i := i + 2) dL_law_1231 (by omega) (by omega) ⟨by omega, by omega⟩ ?_
  refine zl_aload_n (pc := 1232) dL_law_1232 rfl 0 rfl ?_
  refine zl_iload_n (pc := 1233) dL_law_1233 rfl 3 rfl ?_
  refine zl_iconst (pc := 1234) dL_law_1234 ?_
  refine zl_iadd (pc := 1235) dL_law_1235 ?_
  refine zl_sld (pc := 1236) (i := i + 3) dL_law_1236 (by omega) (by omega) ⟨by omega, by omega⟩ ?_
  refine zl_call (pc := 1237) (mc := mX9_item) (a := 0) (d := 49) (As := [.int (iz ((xs (i + 1).toNat).toInt)), .int (iz ((xs (i + 2).toNat).toInt)), .int (iz ((xs (i + 3).toNat).toInt))]) (rest := []) dL_law_1237 zcL_154 ziX9_item zsX9_item rfl rfl rfl rfl (Nat.le_of_ble_eq_true rfl) (by decide) (o_item (d := 37) (inR_of _) (inR_of _) (inR_of _) h hn) (fun r m1 hr q => ?_)
  refine zl_aloadr_n (pc := 1240) dL_law_1240 rfl 2 rfl ?_
  refine zl_aload_n (pc := 1241) dL_law_1241 rfl 0 rfl ?_
  refine zl_iload_n (pc := 1242) dL_law_1242 rfl 3 rfl ?_
  refine zl_iconst (pc := 1243) dL_law_1243 ?_
  refine zl_iadd (pc := 1244) dL_law_1244 ?_
  refine zl_sld (pc := 1245) (i := i + 1) dL_law_1245 (by omega) (by omega) ⟨by omega, by omega⟩ ?_
  refine zl_aload_n (pc := 1246) dL_law_1246 rfl 0 rfl ?_
  refine zl_iload_n (pc := 1247) dL_law_1247 rfl 3 rfl ?_
  refine zl_iconst (pc := 1248) dL_law_1248 ?_
  refine zl_iadd (pc := 1249) dL_law_1249 ?_
  refine zl_sld (pc := 1250) (i := i + 2) dL_law_1250 (by omega) (by omega) ⟨by omega, by omega⟩ ?_
  refine zl_aload_n (pc := 1251) dL_law_1251 rfl 0 rfl ?_
  refine zl_iload_n (pc := 1252) dL_law_1252 rfl 3 rfl ?_
  refine zl_iconst (pc := 1253) dL_law_1253 ?_
  refine zl_iadd (pc := 1254) dL_law_1254 ?_
  refine zl_sld (pc := 1255) (i := i + 3) dL_law_1255 (by omega) (by omega) ⟨by omega, by omega⟩ ?_
  refine zl_call (pc := 1256) (mc := mX10_item) (a := 98) (d := 49) (As := [.int (iz ((xs (i + 1).toNat).toInt)), .int (iz ((xs (i + 2).toNat).toInt)), .int (iz ((xs (i + 3).toNat).toInt))]) (rest := [.int (iz r)]) dL_law_1256 zcL_157 ziX10_item zsX10_item rfl rfl rfl rfl (Nat.le_of_ble_eq_true rfl) (by decide) q (fun r2 m2 hr2 q2 => ?_)
  exact zl_icmp_eq (pc := 1259) (tgt := 1508) dL_law_1259 (by decide) hr hr2 (fun _ => kk m2 q2.2) (fun z => absurd q2.1.symm z)
set_option maxRecDepth 100000 in
theorem kL_34 (h0 : 0 ≤ i) (hi : i + 6 ≤ (L : Int)) (hL : L ≤ 384) (h : zInv n m) (hn : 0 ≤ n ∧ n ≤ 100) (kk : ∀ m2, zInv (n + 1) m2 → zLj K b L xs 1508 [(0, .ref b), (1, rr K 0), (2, rr K 98), (3, .int (iz i))] [] m2) : zLj K b L xs 1264 [(0, .ref b), (1, rr K 0), (2, rr K 98), (3, .int (iz i))] [] m := by
  refine zl_aloadr_n (pc := 1264) dL_law_1264 rfl 1 rfl ?_
  refine zl_aload_n (pc := 1265) dL_law_1265 rfl 0 rfl ?_
  refine zl_iload_n (pc := 1266) dL_law_1266 rfl 3 rfl ?_
  refine zl_iconst (pc := 1267) dL_law_1267 ?_
  refine zl_iadd (pc := 1268) dL_law_1268 ?_
  refine zl_sld (pc := 1269) (i := i + 1) dL_law_1269 (by omega) (by omega) ⟨by omega, by omega⟩ ?_
  refine zl_aload_n (pc := 1270) dL_law_1270 rfl 0 rfl ?_
  refine zl_iload_n (pc := 1271) dL_law_1271 rfl 3 rfl ?_
  refine zl_iconst (pc := 1272) dL_law_1272 ?_
  refine zl_iadd (pc := 1273) dL_law_1273 ?_
  refine zl_sld (pc := 1274) (i := i + 2) dL_law_1274 (by omega) (by omega) ⟨by omega, by omega⟩ ?_
  refine zl_aload_n (pc := 1275) dL_law_1275 rfl 0 rfl ?_
  refine zl_iload_n (pc := 1276) dL_law_1276 rfl 3 rfl ?_
  refine zl_iconst (pc := 1277) dL_law_1277 ?_
  refine zl_iadd (pc := 1278) dL_law_1278 ?_
  refine zl_sld (pc := 1279) (i := i + 3) dL_law_1279 (by omega) (by omega) ⟨by omega, by omega⟩ ?_
  refine zl_aload_n (pc := 1280) dL_law_1280 rfl 0 rfl ?_
  refine zl_iload_n (pc := 1281) dL_law_1281 rfl 3 rfl ?_
  refine zl_iconst (pc := 1282) dL_law_1282 ?_
  refine zl_iadd (pc := 1283) dL_law_1283 ?_
  refine zl_sld (pc := 1284) (i := i + 4) dL_law_1284 (by omega) (by omega) ⟨by omega, by omega⟩ ?_
  refine zl_call (pc := 1285) (mc := mX9_sizes) (a := 0) (d := 49) (As := [.int (iz ((xs (i + 1).toNat).toInt)), .int (iz ((xs (i + 2).toNat).toInt)), .int (iz ((xs (i + 3).toNat).toInt)), .int (iz ((xs (i + 4).toNat).toInt))]) (rest := []) dL_law_1285 zcL_158 ziX9_sizes zsX9_sizes rfl rfl rfl rfl (Nat.le_of_ble_eq_true rfl) (by decide) (o_sizes (d := 37) (inR_of _) (inR_of _) (inR_of _) (inR_of _) h) (fun r m1 hr q => ?_)
  refine zl_aloadr_n (pc := 1288) dL_law_1288 rfl 2 rfl ?_
  refine zl_aload_n (pc := 1289) dL_law_1289 rfl 0 rfl ?_
  refine zl_iload_n (pc := 1290) dL_law_1290 rfl 3 rfl ?_
  refine zl_iconst (pc := 1291) dL_law_1291 ?_
  refine zl_iadd (pc := 1292) dL_law_1292 ?_
  refine zl_sld (pc := 1293) (i := i + 1) dL_law_1293 (by omega) (by omega) ⟨by omega, by omega⟩ ?_
  refine zl_aload_n (pc := 1294) dL_law_1294 rfl 0 rfl ?_
  refine zl_iload_n (pc := 1295) dL_law_1295 rfl 3 rfl ?_
  refine zl_iconst (pc := 1296) dL_law_1296 ?_
  refine zl_iadd (pc := 1297) dL_law_1297 ?_
  refine zl_sld (pc := 1298) (i := i + 2) dL_law_1298 (by omega) (by omega) ⟨by omega, by omega⟩ ?_
  refine zl_aload_n (pc := 1299) dL_law_1299 rfl 0 rfl ?_
  refine zl_iload_n (pc := 1300) dL_law_1300 rfl 3 rfl ?_
  refine zl_iconst (pc := 1301) dL_law_1301 ?_
  refine zl_iadd (pc := 1302) dL_law_1302 ?_
  refine zl_sld (pc := 1303) (i := i + 3) dL_law_1303 (by omega) (by omega) ⟨by omega, by omega⟩ ?_
  refine zl_aload_n (pc := 1304) dL_law_1304 rfl 0 rfl ?_
  refine zl_iload_n (pc := 1305) dL_law_1305 rfl 3 rfl ?_
  refine zl_iconst (pc := 1306) dL_law_1306 ?_
  refine zl_iadd (pc := 1307) dL_law_1307 ?_
  refine zl_sld (pc := 1308) (i := i + 4) dL_law_1308 (by omega) (by omega) ⟨by omega, by omega⟩ ?_
  refine zl_call (pc := 1309) (mc := mX10_sizes) (a := 98) (d := 49) (As := [.int (iz ((xs (i + 1).toNat).toInt)), .int (iz ((xs (i + 2).toNat).toInt)), .int (iz ((xs (i + 3).toNat).toInt)), .int (iz ((xs (i + 4).toNat).toInt))]) (rest := [.int (iz r)]) dL_law_1309 zcL_162 ziX10_sizes zsX10_sizes rfl rfl rfl rfl (Nat.le_of_ble_eq_true rfl) (by decide) q (fun r2 m2 hr2 q2 => ?_)
  exact zl_icmp_eq (pc := 1312) (tgt := 1508) dL_law_1312 (by decide) hr hr2 (fun _ => kk m2 q2.2) (fun z => absurd q2.1.symm z)
set_option maxRecDepth 100000 in
theorem kL_35 (h0 : 0 ≤ i) (hi : i + 6 ≤ (L : Int)) (hL : L ≤ 384) (h : zInv n m) (hn : 0 ≤ n ∧ n ≤ 100) (kk : ∀ m2, zInv (n + 1) m2 → zLj K b L xs 1508 [(0, .ref b), (1, rr K 0), (2, rr K 98), (3, .int (iz i))] [] m2) : zLj K b L xs 1317 [(0, .ref b), (1, rr K 0), (2, rr K 98), (3, .int (iz i))] [] m := by
  refine zl_aloadr_n (pc := 1317) dL_law_1317 rfl 1 rfl ?_
  refine zl_aload_n (pc := 1318) dL_law_1318 rfl 0 rfl ?_
  refine zl_iload_n (pc := 1319) dL_law_1319 rfl 3 rfl ?_
  refine zl_iconst (pc := 1320) dL_law_1320 ?_
  refine zl_iadd (pc := 1321) dL_law_1321 ?_
  refine zl_sld (pc := 1322) (i := i + 1) dL_law_1322 (by omega) (by omega) ⟨by omega, by omega⟩ ?_
  refine zl_aload_n (pc := 1323) dL_law_1323 rfl 0 rfl ?_
  refine zl_iload_n (pc := 1324) dL_law_1324 rfl 3 rfl ?_
  refine zl_iconst (pc := 1325) dL_law_1325 ?_
  refine zl_iadd (pc := 1326) dL_law_1326 ?_
  refine zl_sld (pc := 1327) (i := i + 2) dL_law_1327 (by omega) (by omega) ⟨by omega, by omega⟩ ?_
  refine zl_aload_n (pc := 1328) dL_law_1328 rfl 0 rfl ?_
  refine zl_iload_n (pc := 1329) dL_law_1329 rfl 3 rfl ?_
  refine zl_iconst (pc := 1330) dL_law_1330 ?_
  refine zl_iadd (pc := 1331) dL_law_1331 ?_
  refine zl_sld (pc := 1332) (i := i + 3) dL_law_1332 (by omega) (by omega) ⟨by omega, by omega⟩ ?_
  refine zl_call (pc := 1333) (mc := mX9_shelf) (a := 0) (d := 49) (As := [.int (iz ((xs (i + 1).toNat).toInt)), .int (iz ((xs (i + 2).toNat).toInt)), .int (iz ((xs (i + 3).toNat).toInt))]) (rest := []) dL_law_1333 zcL_163 ziX9_shelf zsX9_shelf rfl rfl rfl rfl (Nat.le_of_ble_eq_true rfl) (by decide) (o_shelf (d := 37) (inR_of _) (inR_of _) (inR_of _) h hn) (fun r m1 hr q => ?_)
  refine zl_aloadr_n (pc := 1336) dL_law_1336 rfl 2 rfl ?_
  refine zl_aload_n (pc := 1337) dL_law_1337 rfl 0 rfl ?_
  refine zl_iload_n (pc := 1338) dL_law_1338 rfl 3 rfl ?_
  refine zl_iconst (pc := 1339) dL_law_1339 ?_
  refine zl_iadd (pc := 1340) dL_law_1340 ?_
  refine zl_sld (pc := 1341) (i := i + 1) dL_law_1341 (by omega) (by omega) ⟨by omega, by omega⟩ ?_
  refine zl_aload_n (pc := 1342) dL_law_1342 rfl 0 rfl ?_
  refine zl_iload_n (pc := 1343) dL_law_1343 rfl 3 rfl ?_
  refine zl_iconst (pc := 1344) dL_law_1344 ?_
  refine zl_iadd (pc := 1345) dL_law_1345 ?_
  refine zl_sld (pc := 1346) (i := i + 2) dL_law_1346 (by omega) (by omega) ⟨by omega, by omega⟩ ?_
  refine zl_aload_n (pc := 1347) dL_law_1347 rfl 0 rfl ?_
  refine zl_iload_n (pc := 1348) dL_law_1348 rfl 3 rfl ?_
  refine zl_iconst (pc := 1349) dL_law_1349 ?_
  refine zl_iadd (pc := 1350) dL_law_1350 ?_
  refine zl_sld (pc := 1351) (i := i + 3) dL_law_1351 (by omega) (by omega) ⟨by omega, by omega⟩ ?_
  refine zl_call (pc := 1352) (mc := mX10_shelf) (a := 98) (d := 49) (As := [.int (iz ((xs (i + 1).toNat).toInt)), .int (iz ((xs (i + 2).toNat).toInt)), .int (iz ((xs (i + 3).toNat).toInt))]) (rest := [.int (iz r)]) dL_law_1352 zcL_166 ziX10_shelf zsX10_shelf rfl rfl rfl rfl (Nat.le_of_ble_eq_true rfl) (by decide) q (fun r2 m2 hr2 q2 => ?_)
  exact zl_icmp_eq (pc := 1355) (tgt := 1508) dL_law_1355 (by decide) hr hr2 (fun _ => kk m2 q2.2) (fun z => absurd q2.1.symm z)
set_option maxRecDepth 100000 in
theorem kL_36 (h0 : 0 ≤ i) (hi : i + 6 ≤ (L : Int)) (hL : L ≤ 384) (h : zInv n m) (hn : 0 ≤ n ∧ n ≤ 100) (kk : ∀ m2, zInv (n + 1) m2 → zLj K b L xs 1508 [(0, .ref b), (1, rr K 0), (2, rr K 98), (3, .int (iz i))] [] m2) : zLj K b L xs 1360 [(0, .ref b), (1, rr K 0), (2, rr K 98), (3, .int (iz i))] [] m := by
  refine zl_aloadr_n (pc := 1360) dL_law_1360 rfl 1 rfl ?_
  refine zl_aload_n (pc := 1361) dL_law_1361 rfl 0 rfl ?_
  refine zl_iload_n (pc := 1362) dL_law_1362 rfl 3 rfl ?_
  refine zl_iconst (pc := 1363) dL_law_1363 ?_
  refine zl_iadd (pc := 1364) dL_law_1364 ?_
  refine zl_sld (pc := 1365) (i := i + 1) dL_law_1365 (by omega) (by omega) ⟨by omega, by omega⟩ ?_
  refine zl_aload_n (pc := 1366) dL_law_1366 rfl 0 rfl ?_
  refine zl_iload_n (pc := 1367) dL_law_1367 rfl 3 rfl ?_
  refine zl_iconst (pc := 1368) dL_law_1368 ?_
  refine zl_iadd (pc := 1369) dL_law_1369 ?_
  refine zl_sld (pc := 1370) (i := i + 2) dL_law_1370 (by omega) (by omega) ⟨by omega, by omega⟩ ?_
  refine zl_call (pc := 1371) (mc := mX9_taken) (a := 0) (d := 49) (As := [.int (iz ((xs (i + 1).toNat).toInt)), .int (iz ((xs (i + 2).toNat).toInt))]) (rest := []) dL_law_1371 zcL_167 ziX9_taken zsX9_taken rfl rfl rfl rfl (Nat.le_of_ble_eq_true rfl) (by decide) (o_taken (d := 37) (inR_of _) (inR_of _) h hn) (fun r m1 hr q => ?_)
  refine zl_aloadr_n (pc := 1374) dL_law_1374 rfl 2 rfl ?_
  refine zl_aload_n (pc := 1375) dL_law_1375 rfl 0 rfl ?_
  refine zl_iload_n (pc := 1376) dL_law_1376 rfl 3 rfl ?_
  refine zl_iconst (pc := 1377) dL_law_1377 ?_
  refine zl_iadd (pc := 1378) dL_law_1378 ?_
  refine zl_sld (pc := 1379) (i := i + 1) dL_law_1379 (by omega) (by omega) ⟨by omega, by omega⟩ ?_
  refine zl_aload_n (pc := 1380) dL_law_1380 rfl 0 rfl ?_
  refine zl_iload_n (pc := 1381) dL_law_1381 rfl 3 rfl ?_
  refine zl_iconst (pc := 1382) dL_law_1382 ?_
  refine zl_iadd (pc := 1383) dL_law_1383 ?_
  refine zl_sld (pc := 1384) (i := i + 2) dL_law_1384 (by omega) (by omega) ⟨by omega, by omega⟩ ?_
  refine zl_call (pc := 1385) (mc := mX10_taken) (a := 98) (d := 49) (As := [.int (iz ((xs (i + 1).toNat).toInt)), .int (iz ((xs (i + 2).toNat).toInt))]) (rest := [.int (iz r)]) dL_law_1385 zcL_170 ziX10_taken zsX10_taken rfl rfl rfl rfl (Nat.le_of_ble_eq_true rfl) (by decide) q (fun r2 m2 hr2 q2 => ?_)
  exact zl_icmp_eq (pc := 1388) (tgt := 1508) dL_law_1388 (by decide) hr hr2 (fun _ => kk m2 q2.2) (fun z => absurd q2.1.symm z)
set_option maxRecDepth 100000 in
theorem kL_37 (h0 : 0 ≤ i) (hi : i + 6 ≤ (L : Int)) (hL : L ≤ 384) (h : zInv n m) (hn : 0 ≤ n ∧ n ≤ 100) (kk : ∀ m2, zInv (n + 1) m2 → zLj K b L xs 1508 [(0, .ref b), (1, rr K 0), (2, rr K 98), (3, .int (iz i))] [] m2) : zLj K b L xs 1393 [(0, .ref b), (1, rr K 0), (2, rr K 98), (3, .int (iz i))] [] m := by
  refine zl_aloadr_n (pc := 1393) dL_law_1393 rfl 1 rfl ?_
  refine zl_aload_n (pc := 1394) dL_law_1394 rfl 0 rfl ?_
  refine zl_iload_n (pc := 1395) dL_law_1395 rfl 3 rfl ?_
  refine zl_iconst (pc := 1396) dL_law_1396 ?_
  refine zl_iadd (pc := 1397) dL_law_1397 ?_
  refine zl_sld (pc := 1398) (i := i + 1) dL_law_1398 (by omega) (by omega) ⟨by omega, by omega⟩ ?_
  refine zl_aload_n (pc := 1399) dL_law_1399 rfl 0 rfl ?_
  refine zl_iload_n (pc := 1400) dL_law_1400 rfl 3 rfl ?_
  refine zl_iconst (pc := 1401) dL_law_1401 ?_
  refine zl_iadd (pc := 1402) dL_law_1402 ?_
  refine zl_sld (pc := 1403) (i := i + 2) dL_law_1403 (by omega) (by omega) ⟨by omega, by omega⟩ ?_
  refine zl_aload_n (pc := 1404) dL_law_1404 rfl 0 rfl ?_
  refine zl_iload_n (pc := 1405) dL_law_1405 rfl 3 rfl ?_
  refine zl_iconst (pc := 1406) dL_law_1406 ?_
  refine zl_iadd (pc := 1407) dL_law_1407 ?_
  refine zl_sld (pc := 1408) (i := i + 3) dL_law_1408 (by omega) (by omega) ⟨by omega, by omega⟩ ?_
  refine zl_call (pc := 1409) (mc := mX9_act) (a := 0) (d := 49) (As := [.int (iz ((xs (i + 1).toNat).toInt)), .int (iz ((xs (i + 2).toNat).toInt)), .int (iz ((xs (i + 3).toNat).toInt))]) (rest := []) dL_law_1409 zcL_171 ziX9_act zsX9_act rfl rfl rfl rfl (Nat.le_of_ble_eq_true rfl) (by decide) (o_act (d := 0) (inR_of _) (inR_of _) (inR_of _) h) (fun r m1 hr q => ?_)
  refine zl_aloadr_n (pc := 1412) dL_law_1412 rfl 2 rfl ?_
  refine zl_aload_n (pc := 1413) dL_law_1413 rfl 0 rfl ?_
  refine zl_iload_n (pc := 1414) dL_law_1414 rfl 3 rfl ?_
  refine zl_iconst (pc := 1415) dL_law_1415 ?_
  refine zl_iadd (pc := 1416) dL_law_1416 ?_
  refine zl_sld (pc := 1417) (i := i + 1) dL_law_1417 (by omega) (by omega) ⟨by omega, by omega⟩ ?_
  refine zl_aload_n (pc := 1418) dL_law_1418 rfl 0 rfl ?_
  refine zl_iload_n (pc := 1419) dL_law_1419 rfl 3 rfl ?_
  refine zl_iconst (pc := 1420) dL_law_1420 ?_
  refine zl_iadd (pc := 1421) dL_law_1421 ?_
  refine zl_sld (pc := 1422) (i := i + 2) dL_law_1422 (by omega) (by omega) ⟨by omega, by omega⟩ ?_
  refine zl_aload_n (pc := 1423) dL_law_1423 rfl 0 rfl ?_
  refine zl_iload_n (pc := 1424) dL_law_1424 rfl 3 rfl ?_
  refine zl_iconst (pc := 1425) dL_law_1425 ?_
  refine zl_iadd (pc := 1426) dL_law_1426 ?_
  refine zl_sld (pc := 1427) (i := i + 3) dL_law_1427 (by omega) (by omega) ⟨by omega, by omega⟩ ?_
  refine zl_call (pc := 1428) (mc := mX10_act) (a := 98) (d := 49) (As := [.int (iz ((xs (i + 1).toNat).toInt)), .int (iz ((xs (i + 2).toNat).toInt)), .int (iz ((xs (i + 3).toNat).toInt))]) (rest := [.int (iz r)]) dL_law_1428 zcL_174 ziX10_act zsX10_act rfl rfl rfl rfl (Nat.le_of_ble_eq_true rfl) (by decide) q (fun r2 m2 hr2 q2 => ?_)
  exact zl_icmp_eq (pc := 1431) (tgt := 1508) dL_law_1431 (by decide) hr hr2 (fun _ => kk m2 q2.2) (fun z => absurd q2.1.symm z)
set_option maxRecDepth 100000 in
theorem kL_38 (h0 : 0 ≤ i) (hi : i + 6 ≤ (L : Int)) (hL : L ≤ 384) (h : zInv n m) (hn : 0 ≤ n ∧ n ≤ 100) (kk : ∀ m2, zInv (n + 1) m2 → zLj K b L xs 1508 [(0, .ref b), (1, rr K 0), (2, rr K 98), (3, .int (iz i))] [] m2) : zLj K b L xs 1436 [(0, .ref b), (1, rr K 0), (2, rr K 98), (3, .int (iz i))] [] m := by
  refine zl_aloadr_n (pc := 1436) dL_law_1436 rfl 1 rfl ?_
  refine zl_aload_n (pc := 1437) dL_law_1437 rfl 0 rfl ?_
  refine zl_iload_n (pc := 1438) dL_law_1438 rfl 3 rfl ?_
  refine zl_iconst (pc := 1439) dL_law_1439 ?_
  refine zl_iadd (pc := 1440) dL_law_1440 ?_
  refine zl_sld (pc := 1441) (i := i + 1) dL_law_1441 (by omega) (by omega) ⟨by omega, by omega⟩ ?_
  refine zl_call (pc := 1442) (mc := mX9_trace) (a := 0) (d := 49) (As := [.int (iz ((xs (i + 1).toNat).toInt))]) (rest := []) dL_law_1442 zcL_175 ziX9_trace zsX9_trace rfl rfl rfl rfl (Nat.le_of_ble_eq_true rfl) (by decide) (o_trace (d := 37) (inR_of _) h hn) (fun r m1 hr q => ?_)
  refine zl_aloadr_n (pc := 1445) dL_law_1445 rfl 2 rfl ?_
  refine zl_aload_n (pc := 1446) dL_law_1446 rfl 0 rfl ?_
  refine zl_iload_n (pc := 1447) dL_law_1447 rfl 3 rfl ?_
  refine zl_iconst (pc := 1448) dL_law_1448 ?_
  refine zl_iadd (pc := 1449) dL_law_1449 ?_
  refine zl_sld (pc := 1450) (i := i + 1) dL_law_1450 (by omega) (by omega) ⟨by omega, by omega⟩ ?_
  refine zl_call (pc := 1451) (mc := mX10_trace) (a := 98) (d := 49) (As := [.int (iz ((xs (i + 1).toNat).toInt))]) (rest := [.int (iz r)]) dL_law_1451 zcL_178 ziX10_trace zsX10_trace rfl rfl rfl rfl (Nat.le_of_ble_eq_true rfl) (by decide) q (fun r2 m2 hr2 q2 => ?_)
  exact zl_icmp_eq (pc := 1454) (tgt := 1508) dL_law_1454 (by decide) hr hr2 (fun _ => kk m2 q2.2) (fun z => absurd q2.1.symm z)
set_option maxRecDepth 100000 in
theorem kL_39 (h0 : 0 ≤ i) (hi : i + 6 ≤ (L : Int)) (hL : L ≤ 384) (h : zInv n m) (hn : 0 ≤ n ∧ n ≤ 100) (kk : ∀ m2, zInv (n + 1) m2 → zLj K b L xs 1508 [(0, .ref b), (1, rr K 0), (2, rr K 98), (3, .int (iz i))] [] m2) : zLj K b L xs 1459 [(0, .ref b), (1, rr K 0), (2, rr K 98), (3, .int (iz i))] [] m := by
  refine zl_aloadr_n (pc := 1459) dL_law_1459 rfl 1 rfl ?_
  refine zl_aload_n (pc := 1460) dL_law_1460 rfl 0 rfl ?_
  refine zl_iload_n (pc := 1461) dL_law_1461 rfl 3 rfl ?_
  refine zl_iconst (pc := 1462) dL_law_1462 ?_
  refine zl_iadd (pc := 1463) dL_law_1463 ?_
  refine zl_sld (pc := 1464) (i := i + 1) dL_law_1464 (by omega) (by omega) ⟨by omega, by omega⟩ ?_
  refine zl_call (pc := 1465) (mc := mX9_many) (a := 0) (d := 49) (As := [.int (iz ((xs (i + 1).toNat).toInt))]) (rest := []) dL_law_1465 zcL_179 ziX9_many zsX9_many rfl rfl rfl rfl (Nat.le_of_ble_eq_true rfl) (by decide) (o_many (d := 37) (inR_of _) h hn) (fun r m1 hr q => ?_)
  refine zl_aloadr_n (pc := 1468) dL_law_1468 rfl 2 rfl ?_
  refine zl_aload_n (pc := 1469) dL_law_1469 rfl 0 rfl ?_
  refine zl_iload_n (pc := 1470) dL_law_1470 rfl 3 rfl ?_
  refine zl_iconst (pc := 1471) dL_law_1471 ?_
  refine zl_iadd (pc := 1472) dL_law_1472 ?_
  refine zl_sld (pc := 1473) (i := i + 1) dL_law_1473 (by omega) (by omega) ⟨by omega, by omega⟩ ?_
  refine zl_call (pc := 1474) (mc := mX10_many) (a := 98) (d := 49) (As := [.int (iz ((xs (i + 1).toNat).toInt))]) (rest := [.int (iz r)]) dL_law_1474 zcL_182 ziX10_many zsX10_many rfl rfl rfl rfl (Nat.le_of_ble_eq_true rfl) (by decide) q (fun r2 m2 hr2 q2 => ?_)
  exact zl_icmp_eq (pc := 1477) (tgt := 1508) dL_law_1477 (by decide) hr hr2 (fun _ => kk m2 q2.2) (fun z => absurd q2.1.symm z)
set_option maxRecDepth 100000 in
theorem kL_40 (h0 : 0 ≤ i) (hi : i + 6 ≤ (L : Int)) (hL : L ≤ 384) (h : zInv n m) (hn : 0 ≤ n ∧ n ≤ 100) (kk : ∀ m2, zInv (n + 1) m2 → zLj K b L xs 1508 [(0, .ref b), (1, rr K 0), (2, rr K 98), (3, .int (iz i))] [] m2) : zLj K b L xs 1482 [(0, .ref b), (1, rr K 0), (2, rr K 98), (3, .int (iz i))] [] m := by
  refine zl_aloadr_n (pc := 1482) dL_law_1482 rfl 1 rfl ?_
  refine zl_call (pc := 1483) (mc := mX9_keep) (a := 0) (d := 49) (As := []) (rest := []) dL_law_1483 zcL_183 ziX9_keep zsX9_keep rfl rfl rfl rfl (Nat.le_of_ble_eq_true rfl) (by decide) (o_keep (d := 37)  h) (fun r m1 hr q => ?_)
  refine zl_aloadr_n (pc := 1486) dL_law_1486 rfl 2 rfl ?_
  refine zl_call (pc := 1487) (mc := mX10_keep) (a := 98) (d := 49) (As := []) (rest := [.int (iz r)]) dL_law_1487 zcL_186 ziX10_keep zsX10_keep rfl rfl rfl rfl (Nat.le_of_ble_eq_true rfl) (by decide) q (fun r2 m2 hr2 q2 => ?_)
  exact zl_icmp_eq (pc := 1490) (tgt := 1508) dL_law_1490 (by decide) hr hr2 (fun _ => kk m2 q2.2) (fun z => absurd q2.1.symm z)
set_option maxRecDepth 100000 in
theorem kL_41 (h0 : 0 ≤ i) (hi : i + 6 ≤ (L : Int)) (hL : L ≤ 384) (h : zInv n m) (hn : 0 ≤ n ∧ n ≤ 100) (kk : ∀ m2, zInv (n + 1) m2 → zLj K b L xs 1508 [(0, .ref b), (1, rr K 0), (2, rr K 98), (3, .int (iz i))] [] m2) : zLj K b L xs 1495 [(0, .ref b), (1, rr K 0), (2, rr K 98), (3, .int (iz i))] [] m := by
  refine zl_aloadr_n (pc := 1495) dL_law_1495 rfl 1 rfl ?_
  refine zl_call (pc := 1496) (mc := mX9_again) (a := 0) (d := 49) (As := []) (rest := []) dL_law_1496 zcL_187 ziX9_again zsX9_again rfl rfl rfl rfl (Nat.le_of_ble_eq_true rfl) (by decide) (o_again (d := 37)  h) (fun r m1 hr q => ?_)
  refine zl_aloadr_n (pc := 1499) dL_law_1499 rfl 2 rfl ?_
  refine zl_call (pc := 1500) (mc := mX10_again) (a := 98) (d := 49) (As := []) (rest := [.int (iz r)]) dL_law_1500 zcL_190 ziX10_again zsX10_again rfl rfl rfl rfl (Nat.le_of_ble_eq_true rfl) (by decide) q (fun r2 m2 hr2 q2 => ?_)
  exact zl_icmp_eq (pc := 1503) (tgt := 1508) dL_law_1503 (by decide) hr hr2 (fun _ => kk m2 q2.2) (fun z => absurd q2.1.symm z)
end LC
