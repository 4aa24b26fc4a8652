set_option maxRecDepth 100000 in
set_option maxHeartbeats 4000000 in
theorem vc_X10_table_0 {K : zCx} {d : Nat} (x1 : Int) (m0 : zM) {Q : Int → zM → Prop} (hx1 : inR x1) (h : zok m0 → ((0 ≤ x1 ∧ x1 ≤ 3) → (0 ≤ x1) ∧ ((x1 < 4) ∧ (∀ v8 : Int, v8 = (if m0.1 122 x1 < 0 then -11 else if m0.1 122 x1 = 0 then 0 else -13) → ((v8 = 0 → 0 ≤ x1 ∧ x1 < 4 ∧ (∀ v13 : Int, v13 = (if (m0.1 123 x1) = 21 then 1 else 0) → (zV K mX10_table (d + 3) 42 [(0, rr K 98), (1, .int (iz x1)), (3, .int (iz v13)), (4, .int (iz 0))] [] m0 Q))) ∧ (¬ (v8 = 0) → Q v8 m0))))) ∧ (¬ ((0 ≤ x1 ∧ x1 ≤ 3)) → Q (-1) m0)) : zV K mX10_table (d + 3) 0 [(0, rr K 98), (1, .int (iz x1))] [] m0 Q := by
  refine zV_ok (fun hm0 => ?_)
  replace h := h hm0
  refine zV_iload_n (pc := 0) dX10_table_0 rfl 1 rfl ?_
  refine zV_callSf (pc := 1) (mc := mX10_isShelf) (As := [.int (iz x1)]) (rest := []) dX10_table_1 zcX10_118 ztX10_isShelf rfl rfl (Nat.le_of_ble_eq_true rfl) (c_X10_isShelf hx1) (fun hr1 => ?_)
  refine zV_if_ne (pc := 4) (tgt := 9) dX10_table_4 (by decide) (inR_b2i _) (fun c3 => ?_) (fun c3 => ?_)
  · replace c3 := b2i_tp c3
    replace h := h.1 c3
    refine zV_aloadr_n (pc := 9) dX10_table_9 rfl 0 rfl ?_
    refine zV_iload_n (pc := 10) dX10_table_10 rfl 1 rfl ?_
    refine zV_iconst (pc := 11) dX10_table_11 ?_
    obtain ⟨o4, h⟩ := h
    obtain ⟨o5, h⟩ := h
    refine zV_callVf (pc := 12) (mc := mX10_lacksSort) (As := [.int (iz x1), .int (iz 0)]) (rest := []) dX10_table_12 zcX10_122 ziX10_lacksSort zsX10_lacksSort rfl rfl rfl rfl (Nat.le_of_ble_eq_true rfl) (c_X10_lacksSort hx1 (inRd rfl) hm0 o4 o5) (fun hr6 => ?_)
    refine zV_name (fun v8 e9 => ?_)
    replace h := h v8 e9
    have hrv8 : inR v8 := by rw [e9]; exact hr6
    refine zV_istore_n (pc := 15) (loc' := [(2, .int (iz v8)), (0, rr K 98), (1, .int (iz x1))]) dX10_table_15 rfl (by decide) rfl ?_
    refine zV_iload_n (pc := 16) dX10_table_16 rfl 0 rfl ?_
    refine zV_if_eq (pc := 17) (tgt := 22) dX10_table_17 (by decide) hrv8 (fun c10 => ?_) (fun c10 => ?_)
    · skip
      replace h := h.1 c10
      refine zV_aloadr_n (pc := 22) dX10_table_22 rfl 1 rfl ?_
      refine zV_getR (pc := 23) (b := 123) dX10_table_23 zfX10_86 rfl rfl rfl ?_
      refine zV_iload_n (pc := 26) dX10_table_26 rfl 2 rfl ?_
      obtain ⟨o11, o12, h⟩ := h
      refine zV_iald (pc := 27) dX10_table_27 rfl o11 o12 (inR_ix o11 o12 rfl) ?_
      refine zV_bipush (pc := 28) dX10_table_28 (by decide) ?_
      have key : ∀ v13 : Int, v13 = (if (m0.1 123 x1) = 21 then 1 else 0) → zV K mX10_table (d + 3) 38 [(0, rr K 98), (1, .int (iz x1))] [.int (iz v13)] m0 Q := by
        intro v13 e14
        replace h := h v13 e14
        have hrv13 : inR v13 := by rw [e14]; (repeat' split) <;> first | with_reducible exact (inRd rfl)
        refine zV_istore_n (pc := 38) (loc' := [(3, .int (iz v13)), (0, rr K 98), (1, .int (iz x1))]) dX10_table_38 rfl (by decide) rfl ?_
        refine zV_iconst (pc := 39) dX10_table_39 ?_
        refine zV_istore (pc := 40) (loc' := [(4, .int (iz 0)), (3, .int (iz v13)), (0, rr K 98), (1, .int (iz x1))]) dX10_table_40 (by decide) rfl ?_
        exact zV_sub [2, 3, 1, 0] rfl h
      refine zV_icmp_ne (pc := 30) (tgt := 37) dX10_table_30 (by decide) (hm0 _ _) (inRd rfl) (fun c15 => ?_) (fun c15 => ?_)
      · skip
        refine zV_iconst (pc := 37) dX10_table_37 ?_
        exact zV_sub [1, 2] rfl (key _ (if_neg c15).symm)
      · replace c15 := Classical.not_not.mp c15
        refine zV_iconst (pc := 33) dX10_table_33 ?_
        refine zV_goto (pc := 34) (tgt := 38) dX10_table_34 (by decide) ?_
        exact zV_sub [1, 2] rfl (key _ (if_pos c15).symm)
    · skip
      replace h := h.2 c10
      refine zV_iload_n (pc := 20) dX10_table_20 rfl 0 rfl ?_
      exact zV_iret (pc := 21) rfl dX10_table_21 hrv8 h
  · replace c3 := b2i_fn c3
    replace h := h.2 c3
    refine zV_iconst (pc := 7) dX10_table_7 ?_
    exact zV_iret (pc := 8) rfl dX10_table_8 (inRd rfl) h
set_option maxRecDepth 100000 in
set_option maxHeartbeats 4000000 in
theorem vc_X10_table_42 {K : zCx} {d : Nat} (x1 : Int) (x3 : Int) (x4 : Int) (m0 : zM) {Q : Int → zM → Prop} (hx1 : inR x1) (hx3 : inR x3) (hx4 : inR x4) (h : zok m0 → (21 ≤ x4 → (x3 = 0 → Q (-4) m0) ∧ (¬ (x3 = 0) → ((m0.1 98 2) = 4 → Q (-2) m0) ∧ (¬ ((m0.1 98 2) = 4) → zV K mX10_table (d + 3) 122 [(0, rr K 98), (1, .int (iz x1)), (4, .int (iz 0))] [] m0 Q))) ∧ (¬ (21 ≤ x4) → (x3 = 0 → zV K mX10_table (d + 3) 42 [(0, rr K 98), (1, .int (iz x1)), (3, .int (iz 0)), (4, .int (iz (x4 + 1)))] [] m0 Q) ∧ (¬ (x3 = 0) → 0 ≤ ((40 * x1) + x4) ∧ ((40 * x1) + x4) < 160 ∧ (∀ v7 : Int, v7 = (if ((lg_cmp (m0.2.1 124 ((40 * x1) + x4)) (0 : Int64)).toInt) < 0 then 0 else (if 0 < ((lg_cmp (m0.2.1 124 ((40 * x1) + x4)) (30 : Int64)).toInt) then 0 else 1)) → (zV K mX10_table (d + 3) 42 [(0, rr K 98), (1, .int (iz x1)), (3, .int (iz v7)), (4, .int (iz (x4 + 1)))] [] m0 Q))))) : zV K mX10_table (d + 3) 42 [(0, rr K 98), (1, .int (iz x1)), (3, .int (iz x3)), (4, .int (iz x4))] [] m0 Q := by
  refine zV_ok (fun hm0 => ?_)
  replace h := h hm0
  refine zV_iload (pc := 42) dX10_table_42 3 rfl ?_
  refine zV_bipush (pc := 44) dX10_table_44 (by decide) ?_
  refine zV_icmp_ge (pc := 46) (tgt := 101) dX10_table_46 (by decide) hx4 (inRd rfl) (fun c1 => ?_) (fun c1 => ?_)
  · skip
    replace h := h.1 c1
    refine zV_iload_n (pc := 101) dX10_table_101 rfl 2 rfl ?_
    refine zV_if_ne (pc := 102) (tgt := 108) dX10_table_102 (by decide) hx3 (fun c2 => ?_) (fun c2 => ?_)
    · skip
      replace h := h.2 c2
      refine zV_aloadr_n (pc := 108) dX10_table_108 rfl 0 rfl ?_
      refine zV_getI (pc := 109) (kz := 2) dX10_table_109 zfX10_128 rfl rfl rfl ?_
      refine zV_iconst (pc := 112) dX10_table_112 ?_
      refine zV_icmp_ne (pc := 113) (tgt := 119) dX10_table_113 (by decide) (hm0 _ _) (inRd rfl) (fun c3 => ?_) (fun c3 => ?_)
      · skip
        replace h := h.2 c3
        refine zV_iconst (pc := 119) dX10_table_119 ?_
        refine zV_istore (pc := 120) (loc' := [(4, .int (iz 0)), (0, rr K 98), (1, .int (iz x1)), (3, .int (iz x3))]) dX10_table_120 (by decide) rfl ?_
        exact zV_sub [1, 2, 0] rfl h
      · replace c3 := Classical.not_not.mp c3
        replace h := h.1 c3
        refine zV_bipush (pc := 116) dX10_table_116 (by decide) ?_
        exact zV_iret (pc := 118) rfl dX10_table_118 (inRd rfl) h
    · replace c2 := Classical.not_not.mp c2
      replace h := h.1 c2
      refine zV_bipush (pc := 105) dX10_table_105 (by decide) ?_
      exact zV_iret (pc := 107) rfl dX10_table_107 (inRd rfl) h
  · skip
    replace h := h.2 c1
    refine zV_iload_n (pc := 49) dX10_table_49 rfl 2 rfl ?_
    refine zV_if_eq (pc := 50) (tgt := 93) dX10_table_50 (by decide) hx3 (fun c4 => ?_) (fun c4 => ?_)
    · skip
      replace h := h.1 c4
      refine zV_iconst (pc := 93) dX10_table_93 ?_
      refine zV_istore_n (pc := 94) (loc' := [(3, .int (iz 0)), (0, rr K 98), (1, .int (iz x1)), (4, .int (iz x4))]) dX10_table_94 rfl (by decide) rfl ?_
      refine zV_iinc (pc := 95) (loc' := [(4, .int (iz (x4 + 1))), (3, .int (iz 0)), (0, rr K 98), (1, .int (iz x1))]) dX10_table_95 3 rfl (by decide) rfl ?_
      refine zV_goto (pc := 98) (tgt := 42) dX10_table_98 (by decide) ?_
      exact zV_sub [2, 3, 1, 0] rfl h
    · skip
      replace h := h.2 c4
      refine zV_aloadr_n (pc := 53) dX10_table_53 rfl 0 rfl ?_
      refine zV_getR (pc := 54) (b := 124) dX10_table_54 zfX10_89 rfl rfl rfl ?_
      refine zV_bipush (pc := 57) dX10_table_57 (by decide) ?_
      refine zV_iload_n (pc := 59) dX10_table_59 rfl 1 rfl ?_
      refine zV_imul (pc := 60) dX10_table_60 ?_
      refine zV_iload (pc := 61) dX10_table_61 3 rfl ?_
      refine zV_iadd (pc := 63) dX10_table_63 ?_
      obtain ⟨o5, o6, h⟩ := h
      refine zV_lald (pc := 64) dX10_table_64 rfl o5 o6 (inR_ix o5 o6 rfl) ?_
      refine zV_lconst (pc := 65) (v := 0) dX10_table_65 rfl ?_
      refine zV_lcmp (pc := 66) dX10_table_66 ?_
      have key : ∀ v7 : Int, v7 = (if ((lg_cmp (m0.2.1 124 ((40 * x1) + x4)) (0 : Int64)).toInt) < 0 then 0 else (if 0 < ((lg_cmp (m0.2.1 124 ((40 * x1) + x4)) (30 : Int64)).toInt) then 0 else 1)) → zV K mX10_table (d + 3) 94 [(0, rr K 98), (1, .int (iz x1)), (4, .int (iz x4))] [.int (iz v7)] m0 Q := by
        intro v7 e8
        replace h := h v7 e8
        have hrv7 : inR v7 := by rw [e8]; (repeat' split) <;> first | with_reducible exact (inRd rfl)
        refine zV_istore_n (pc := 94) (loc' := [(3, .int (iz v7)), (0, rr K 98), (1, .int (iz x1)), (4, .int (iz x4))]) dX10_table_94 rfl (by decide) rfl ?_
        refine zV_iinc (pc := 95) (loc' := [(4, .int (iz (x4 + 1))), (3, .int (iz v7)), (0, rr K 98), (1, .int (iz x1))]) dX10_table_95 3 rfl (by decide) rfl ?_
        refine zV_goto (pc := 98) (tgt := 42) dX10_table_98 (by decide) ?_
        exact zV_sub [2, 3, 1, 0] rfl h
      refine zV_if_lt (pc := 67) (tgt := 93) dX10_table_67 (by decide) (inR_of _) (fun c9 => ?_) (fun c9 => ?_)
      · skip
        refine zV_iconst (pc := 93) dX10_table_93 ?_
        exact zV_sub [0, 1, 3] rfl (key _ (if_pos c9).symm)
      · skip
        refine zV_aloadr_n (pc := 70) dX10_table_70 rfl 0 rfl ?_
        refine zV_getR (pc := 71) (b := 124) dX10_table_71 zfX10_89 rfl rfl rfl ?_
        refine zV_bipush (pc := 74) dX10_table_74 (by decide) ?_
        refine zV_iload_n (pc := 76) dX10_table_76 rfl 1 rfl ?_
        refine zV_imul (pc := 77) dX10_table_77 ?_
        refine zV_iload (pc := 78) dX10_table_78 3 rfl ?_
        refine zV_iadd (pc := 80) dX10_table_80 ?_
        refine zV_lald (pc := 81) dX10_table_81 rfl o5 o6 (inR_ix o5 o6 rfl) ?_
        refine zV_ldc2 (pc := 82) (v := 30) dX10_table_82 (zmem 1361 (by decide +kernel) (by decide +kernel)) ?_
        refine zV_lcmp (pc := 85) dX10_table_85 ?_
        refine zV_if_gt (pc := 86) (tgt := 93) dX10_table_86 (by decide) (inR_of _) (fun c10 => ?_) (fun c10 => ?_)
        · skip
          refine zV_iconst (pc := 93) dX10_table_93 ?_
          exact zV_sub [0, 1, 3] rfl (key _ ((if_neg c9).trans (if_pos c10)).symm)
        · skip
          refine zV_iconst (pc := 89) dX10_table_89 ?_
          refine zV_goto (pc := 90) (tgt := 94) dX10_table_90 (by decide) ?_
          exact zV_sub [0, 1, 3] rfl (key _ ((if_neg c9).trans (if_neg c10)).symm)
set_option maxRecDepth 100000 in
set_option maxHeartbeats 4000000 in
theorem vc_X10_table_122 {K : zCx} {d : Nat} (x1 : Int) (x4 : Int) (m0 : zM) {Q : Int → zM → Prop} (hx1 : inR x1) (hx4 : inR x4) (h : zok m0 → (21 ≤ x4 → inR ((m0.1 98 2) + 1) ∧ (∀ m3 : zM, m3 = sI m0 98 2 ((m0.1 98 2) + 1) → zok m3 → (inR ((m3.1 98 2) - 1) ∧ (Q ((m3.1 98 2) - 1) m3)))) ∧ (¬ (21 ≤ x4) → 0 ≤ ((40 * x1) + x4) ∧ ((40 * x1) + x4) < 160 ∧ (0 ≤ ((21 * (m0.1 98 2)) + x4) ∧ ((21 * (m0.1 98 2)) + x4) < 84 ∧ (∀ m10 : zM, m10 = sI m0 99 ((21 * (m0.1 98 2)) + x4) (((m0.2.1 124 ((40 * x1) + x4))).toInt32.toInt) → zok m10 → (zV K mX10_table (d + 3) 122 [(0, rr K 98), (1, .int (iz x1)), (4, .int (iz (x4 + 1)))] [] m10 Q))))) : zV K mX10_table (d + 3) 122 [(0, rr K 98), (1, .int (iz x1)), (4, .int (iz x4))] [] m0 Q := by
  refine zV_ok (fun hm0 => ?_)
  replace h := h hm0
  refine zV_iload (pc := 122) dX10_table_122 2 rfl ?_
  refine zV_bipush (pc := 124) dX10_table_124 (by decide) ?_
  refine zV_icmp_ge (pc := 126) (tgt := 163) dX10_table_126 (by decide) hx4 (inRd rfl) (fun c1 => ?_) (fun c1 => ?_)
  · skip
    replace h := h.1 c1
    refine zV_aloadr_n (pc := 163) dX10_table_163 rfl 0 rfl ?_
    refine zV_dup (pc := 164) dX10_table_164 rfl ?_
    refine zV_getI (pc := 165) (kz := 2) dX10_table_165 zfX10_128 rfl rfl rfl ?_
    refine zV_iconst (pc := 168) dX10_table_168 ?_
    refine zV_iadd (pc := 169) dX10_table_169 ?_
    obtain ⟨o2, h⟩ := h
    refine zV_putI (pc := 170) (kz := 2) dX10_table_170 zpX10_128 rfl rfl rfl o2 rfl rfl ?_
    refine zV_mem (fun m3 e4 => zV_ok (fun hm3 => ?_))
    replace h := h m3 e4 hm3
    refine zV_aloadr_n (pc := 173) dX10_table_173 rfl 0 rfl ?_
    refine zV_getI (pc := 174) (kz := 2) dX10_table_174 zfX10_128 rfl rfl rfl ?_
    refine zV_iconst (pc := 177) dX10_table_177 ?_
    refine zV_isub (pc := 178) dX10_table_178 ?_
    obtain ⟨o5, h⟩ := h
    exact zV_iret (pc := 179) rfl dX10_table_179 o5 h
  · skip
    replace h := h.2 c1
    refine zV_aloadr_n (pc := 129) dX10_table_129 rfl 0 rfl ?_
    refine zV_getR (pc := 130) (b := 99) dX10_table_130 zfX10_13 rfl rfl rfl ?_
    refine zV_bipush (pc := 133) dX10_table_133 (by decide) ?_
    refine zV_aloadr_n (pc := 135) dX10_table_135 rfl 0 rfl ?_
    refine zV_getI (pc := 136) (kz := 2) dX10_table_136 zfX10_128 rfl rfl rfl ?_
    refine zV_imul (pc := 139) dX10_table_139 ?_
    refine zV_iload (pc := 140) dX10_table_140 2 rfl ?_
    refine zV_iadd (pc := 142) dX10_table_142 ?_
    refine zV_aloadr_n (pc := 143) dX10_table_143 rfl 0 rfl ?_
    refine zV_getR (pc := 144) (b := 124) dX10_table_144 zfX10_89 rfl rfl rfl ?_
    refine zV_bipush (pc := 147) dX10_table_147 (by decide) ?_
    refine zV_iload_n (pc := 149) dX10_table_149 rfl 1 rfl ?_
    refine zV_imul (pc := 150) dX10_table_150 ?_
    refine zV_iload (pc := 151) dX10_table_151 2 rfl ?_
    refine zV_iadd (pc := 153) dX10_table_153 ?_
    obtain ⟨o6, o7, h⟩ := h
    refine zV_lald (pc := 154) dX10_table_154 rfl o6 o7 (inR_ix o6 o7 rfl) ?_
    refine zV_l2i (pc := 155) dX10_table_155 ?_
    obtain ⟨o8, o9, h⟩ := h
    refine zV_iast (pc := 156) dX10_table_156 rfl o8 o9 (inR_ix o8 o9 rfl) (inR_of _) ?_
    refine zV_mem (fun m10 e11 => zV_ok (fun hm10 => ?_))
    replace h := h m10 e11 hm10
    refine zV_iinc (pc := 157) (loc' := [(4, .int (iz (x4 + 1))), (0, rr K 98), (1, .int (iz x1))]) dX10_table_157 2 rfl (by decide) rfl ?_
    refine zV_goto (pc := 160) (tgt := 122) dX10_table_160 (by decide) ?_
    exact zV_sub [1, 2, 0] rfl h

set_option maxRecDepth 100000 in
set_option maxHeartbeats 4000000 in
theorem vc_X10_isGate_0 {K : zCx} {d : Nat} (x1 : Int) (x2 : Int) (m0 : zM) {Q : Int → zM → Prop} (hx1 : inR x1) (hx2 : inR x2) (h : zok m0 → (x2 < 0 → Q 0 m0) ∧ (¬ (x2 < 0) → ((0 ≤ (Int.tmod x2 10) ∧ (Int.tmod x2 10) ≤ 4) → ∀ v5 : Int, v5 = (Int.tdiv x2 10) → ((x1 = 2 → (v5 = 0 → Q 1 m0) ∧ (¬ (v5 = 0) → Q 0 m0)) ∧ (¬ (x1 = 2) → (0 ≤ m0.1 98 4) ∧ (((0 ≤ v5 ∧ v5 < m0.1 98 4) → (0 ≤ 10 * v5 + 0) ∧ ((10 * v5 + 0 < 100) ∧ (((2 ≤ (m0.1 100 (10 * v5 + 0)) ∧ (m0.1 100 (10 * v5 + 0)) ≤ 3) → Q 1 m0) ∧ (¬ ((2 ≤ (m0.1 100 (10 * v5 + 0)) ∧ (m0.1 100 (10 * v5 + 0)) ≤ 3)) → Q 0 m0)))) ∧ (¬ ((0 ≤ v5 ∧ v5 < m0.1 98 4)) → Q 0 m0))))) ∧ (¬ ((0 ≤ (Int.tmod x2 10) ∧ (Int.tmod x2 10) ≤ 4)) → Q 0 m0))) : zV K mX10_isGate (d + 3) 0 [(0, rr K 98), (1, .int (iz x1)), (2, .int (iz x2))] [] m0 Q := by
  refine zV_ok (fun hm0 => ?_)
  replace h := h hm0
  refine zV_iload_n (pc := 0) dX10_isGate_0 rfl 2 rfl ?_
  refine zV_if_lt (pc := 1) (tgt := 14) dX10_isGate_1 (by decide) hx2 (fun c1 => ?_) (fun c1 => ?_)
  · skip
    replace h := h.1 c1
    refine zV_iconst (pc := 14) dX10_isGate_14 ?_
    exact zV_zret (pc := 15) rfl dX10_isGate_15 (Or.inl rfl) h
  · skip
    replace h := h.2 c1
    refine zV_iload_n (pc := 4) dX10_isGate_4 rfl 2 rfl ?_
    refine zV_bipush (pc := 5) dX10_isGate_5 (by decide) ?_
    refine zV_irem (pc := 7) dX10_isGate_7 hx2 (inRd rfl) (by decide) (fun q => absurd q.2 (by decide)) ?_
    refine zV_callSf (pc := 8) (mc := mX10_isNode) (As := [.int (iz (Int.tmod x2 10))]) (rest := []) dX10_isGate_8 zcX10_131 ztX10_isNode rfl rfl (Nat.le_of_ble_eq_true rfl) (c_X10_isNode (inR_tmod hx2 (by decide))) (fun hr2 => ?_)
    refine zV_if_ne (pc := 11) (tgt := 16) dX10_isGate_11 (by decide) (inR_b2i _) (fun c4 => ?_) (fun c4 => ?_)
    · replace c4 := b2i_tp c4
      replace h := h.1 c4
      refine zV_iload_n (pc := 16) dX10_isGate_16 rfl 2 rfl ?_
      refine zV_bipush (pc := 17) dX10_isGate_17 (by decide) ?_
      refine zV_idiv (pc := 19) dX10_isGate_19 hx2 (inRd rfl) (by decide) (fun q => absurd q.2 (by decide)) ?_
      refine zV_name (fun v5 e6 => ?_)
      replace h := h v5 e6
      have hrv5 : inR v5 := by rw [e6]; exact (inR_tdiv hx2 (by decide))
      refine zV_istore_n (pc := 20) (loc' := [(3, .int (iz v5)), (0, rr K 98), (1, .int (iz x1)), (2, .int (iz x2))]) dX10_isGate_20 rfl (by decide) rfl ?_
      refine zV_iload_n (pc := 21) dX10_isGate_21 rfl 2 rfl ?_
      refine zV_iconst (pc := 22) dX10_isGate_22 ?_
      refine zV_icmp_ne (pc := 23) (tgt := 38) dX10_isGate_23 (by decide) hx1 (inRd rfl) (fun c7 => ?_) (fun c7 => ?_)
      · skip
        replace h := h.2 c7
        refine zV_aloadr_n (pc := 38) dX10_isGate_38 rfl 1 rfl ?_
        refine zV_iload_n (pc := 39) dX10_isGate_39 rfl 0 rfl ?_
        obtain ⟨o8, h⟩ := h
        refine zV_callVf (pc := 40) (mc := mX10_isPart) (As := [.int (iz v5)]) (rest := []) dX10_isGate_40 zcX10_134 ziX10_isPart zsX10_isPart rfl rfl rfl rfl (Nat.le_of_ble_eq_true rfl) (c_X10_isPart hrv5 hm0 o8) (fun hr9 => ?_)
        refine zV_if_eq (pc := 43) (tgt := 62) dX10_isGate_43 (by decide) (inR_b2i _) (fun c11 => ?_) (fun c11 => ?_)
        · replace c11 := b2i_fp c11
          replace h := h.2 c11
          refine zV_iconst (pc := 62) dX10_isGate_62 ?_
          exact zV_zret (pc := 63) rfl dX10_isGate_63 (Or.inl rfl) h
        · replace c11 := b2i_tp c11
          replace h := h.1 c11
          refine zV_aloadr_n (pc := 46) dX10_isGate_46 rfl 1 rfl ?_
          refine zV_iload_n (pc := 47) dX10_isGate_47 rfl 0 rfl ?_
          refine zV_iconst (pc := 48) dX10_isGate_48 ?_
          obtain ⟨o12, h⟩ := h
          obtain ⟨o13, h⟩ := h
          refine zV_callVf (pc := 49) (mc := mX10_its) (As := [.int (iz v5), .int (iz 0)]) (rest := []) dX10_isGate_49 zcX10_137 ziX10_its zsX10_its rfl rfl rfl rfl (Nat.le_of_ble_eq_true rfl) (c_X10_its (inRd rfl) hrv5 hm0 o12 o13) (fun hr14 => ?_)
          refine zV_callSf (pc := 52) (mc := mX10_isGated) (As := [.int (iz (m0.1 100 (10 * v5 + 0)))]) (rest := []) dX10_isGate_52 zcX10_140 ztX10_isGated rfl rfl (Nat.le_of_ble_eq_true rfl) (c_X10_isGated hr14) (fun hr16 => ?_)
          refine zV_if_eq (pc := 55) (tgt := 62) dX10_isGate_55 (by decide) (inR_b2i _) (fun c18 => ?_) (fun c18 => ?_)
          · replace c18 := b2i_fp c18
            replace h := h.2 c18
            refine zV_iconst (pc := 62) dX10_isGate_62 ?_
            exact zV_zret (pc := 63) rfl dX10_isGate_63 (Or.inl rfl) h
          · replace c18 := b2i_tp c18
            replace h := h.1 c18
            refine zV_iconst (pc := 58) dX10_isGate_58 ?_
            refine zV_goto (pc := 59) (tgt := 63) dX10_isGate_59 (by decide) ?_
            exact zV_zret (pc := 63) rfl dX10_isGate_63 (Or.inr rfl) h
      · replace c7 := Classical.not_not.mp c7
        replace h := h.1 c7
        refine zV_iload_n (pc := 26) dX10_isGate_26 rfl 0 rfl ?_
        refine zV_if_ne (pc := 27) (tgt := 34) dX10_isGate_27 (by decide) hrv5 (fun c19 => ?_) (fun c19 => ?_)
        · skip
          replace h := h.2 c19
          refine zV_iconst (pc := 34) dX10_isGate_34 ?_
          refine zV_goto (pc := 35) (tgt := 63) dX10_isGate_35 (by decide) ?_
          exact zV_zret (pc := 63) rfl dX10_isGate_63 (Or.inl rfl) h
        · replace c19 := Classical.not_not.mp c19
          replace h := h.1 c19
          refine zV_iconst (pc := 30) dX10_isGate_30 ?_
          refine zV_goto (pc := 31) (tgt := 63) dX10_isGate_31 (by decide) ?_
          exact zV_zret (pc := 63) rfl dX10_isGate_63 (Or.inr rfl) h
    · replace c4 := b2i_fn c4
      replace h := h.2 c4
      refine zV_iconst (pc := 14) dX10_isGate_14 ?_
      exact zV_zret (pc := 15) rfl dX10_isGate_15 (Or.inl rfl) h

set_option maxRecDepth 100000 in
set_option maxHeartbeats 4000000 in
theorem vc_X10_part_0 {K : zCx} {d : Nat} (x1 : Int) (x2 : Int) (x3 : Int) (x4 : Int) (x5 : Int) (m0 : zM) {Q : Int → zM → Prop} (hx1 : inR x1) (hx2 : inR x2) (hx3 : inR x3) (hx4 : inR x4) (hx5 : inR x5) (h : zok m0 → ((1 ≤ x1 ∧ x1 ≤ 5) → ((0 ≤ x2 ∧ x2 ≤ 44) → ((0 ≤ (Int.tmod x2 10) ∧ (Int.tmod x2 10) ≤ 4) → ((Int.tdiv x2 10) = (Int.tmod x2 10) → Q (-1) m0) ∧ (¬ ((Int.tdiv x2 10) = (Int.tmod x2 10)) → ((1 ≤ x3 ∧ x3 ≤ 9) → ((1 ≤ x1 ∧ x1 ≤ 3) → ((0 ≤ x4 ∧ Int.tdiv x4 100 < m0.1 98 2 ∧ Int.tmod (Int.tdiv x4 10) 10 ≤ 5) → ((2 ≤ x1 ∧ x1 ≤ 3) → zCt K (d + 3) mX10_isGate [rr K 98, .int (iz x1), .int (iz x5)] m0 (fun r29 m30 => inR r29 → zok m30 → (r29 = 0 → Q (-1) m30) ∧ (¬ (r29 = 0) → zV K mX10_part (d + 4) 87 [(0, rr K 98), (1, .int (iz x1)), (2, .int (iz x2)), (3, .int (iz x3)), (4, .int (iz x4)), (5, .int (iz x5))] [] m30 Q))) ∧ (¬ ((2 ≤ x1 ∧ x1 ≤ 3)) → zV K mX10_part (d + 4) 87 [(0, rr K 98), (1, .int (iz x1)), (2, .int (iz x2)), (3, .int (iz x3)), (4, .int (iz x4)), (5, .int (iz x5))] [] m0 Q)) ∧ (¬ ((0 ≤ x4 ∧ Int.tdiv x4 100 < m0.1 98 2 ∧ Int.tmod (Int.tdiv x4 10) 10 ≤ 5)) → Q (-1) m0)) ∧ (¬ ((1 ≤ x1 ∧ x1 ≤ 3)) → ((2 ≤ x1 ∧ x1 ≤ 3) → zCt K (d + 3) mX10_isGate [rr K 98, .int (iz x1), .int (iz x5)] m0 (fun r20 m21 => inR r20 → zok m21 → (r20 = 0 → Q (-1) m21) ∧ (¬ (r20 = 0) → zV K mX10_part (d + 4) 87 [(0, rr K 98), (1, .int (iz x1)), (2, .int (iz x2)), (3, .int (iz x3)), (4, .int (iz x4)), (5, .int (iz x5))] [] m21 Q))) ∧ (¬ ((2 ≤ x1 ∧ x1 ≤ 3)) → zV K mX10_part (d + 4) 87 [(0, rr K 98), (1, .int (iz x1)), (2, .int (iz x2)), (3, .int (iz x3)), (4, .int (iz x4)), (5, .int (iz x5))] [] m0 Q))) ∧ (¬ ((1 ≤ x3 ∧ x3 ≤ 9)) → Q (-1) m0))) ∧ (¬ ((0 ≤ (Int.tmod x2 10) ∧ (Int.tmod x2 10) ≤ 4)) → Q (-1) m0)) ∧ (¬ ((0 ≤ x2 ∧ x2 ≤ 44)) → Q (-1) m0)) ∧ (¬ ((1 ≤ x1 ∧ x1 ≤ 5)) → Q (-1) m0)) : zV K mX10_part (d + 4) 0 [(0, rr K 98), (1, .int (iz x1)), (2, .int (iz x2)), (3, .int (iz x3)), (4, .int (iz x4)), (5, .int (iz x5))] [] m0 Q := by
  refine zV_ok (fun hm0 => ?_)
  replace h := h hm0
  refine zV_iload_n (pc := 0) dX10_part_0 rfl 1 rfl ?_
  refine zV_iconst (pc := 1) dX10_part_1 ?_
  refine zV_iconst (pc := 2) dX10_part_2 ?_
  refine zV_callSf (pc := 3) (mc := mX10_in) (As := [.int (iz x1), .int (iz 1), .int (iz 5)]) (rest := []) dX10_part_3 zcX10_114 ztX10_in rfl rfl (Nat.le_of_ble_eq_true rfl) (c_X10_in hx1 (inRd rfl) (inRd rfl)) (fun hr1 => ?_)
  refine zV_if_eq (pc := 6) (tgt := 50) dX10_part_6 (by decide) (inR_b2i _) (fun c3 => ?_) (fun c3 => ?_)
  · replace c3 := b2i_fp c3
    replace h := h.2 c3
    refine zV_iconst (pc := 50) dX10_part_50 ?_
    exact zV_iret (pc := 51) rfl dX10_part_51 (inRd rfl) h
  · replace c3 := b2i_tp c3
    replace h := h.1 c3
    refine zV_iload_n (pc := 9) dX10_part_9 rfl 2 rfl ?_
    refine zV_iconst (pc := 10) dX10_part_10 ?_
    refine zV_bipush (pc := 11) dX10_part_11 (by decide) ?_
    refine zV_callSf (pc := 13) (mc := mX10_in) (As := [.int (iz x2), .int (iz 0), .int (iz 44)]) (rest := []) dX10_part_13 zcX10_114 ztX10_in rfl rfl (Nat.le_of_ble_eq_true rfl) (c_X10_in hx2 (inRd rfl) (inRd rfl)) (fun hr4 => ?_)
    refine zV_if_eq (pc := 16) (tgt := 50) dX10_part_16 (by decide) (inR_b2i _) (fun c6 => ?_) (fun c6 => ?_)
    · replace c6 := b2i_fp c6
      replace h := h.2 c6
      refine zV_iconst (pc := 50) dX10_part_50 ?_
      exact zV_iret (pc := 51) rfl dX10_part_51 (inRd rfl) h
    · replace c6 := b2i_tp c6
      replace h := h.1 c6
      refine zV_iload_n (pc := 19) dX10_part_19 rfl 2 rfl ?_
      refine zV_bipush (pc := 20) dX10_part_20 (by decide) ?_
      refine zV_irem (pc := 22) dX10_part_22 hx2 (inRd rfl) (by decide) (fun q => absurd q.2 (by decide)) ?_
      refine zV_callSf (pc := 23) (mc := mX10_isNode) (As := [.int (iz (Int.tmod x2 10))]) (rest := []) dX10_part_23 zcX10_131 ztX10_isNode rfl rfl (Nat.le_of_ble_eq_true rfl) (c_X10_isNode (inR_tmod hx2 (by decide))) (fun hr7 => ?_)
      refine zV_if_eq (pc := 26) (tgt := 50) dX10_part_26 (by decide) (inR_b2i _) (fun c9 => ?_) (fun c9 => ?_)
      · replace c9 := b2i_fp c9
        replace h := h.2 c9
        refine zV_iconst (pc := 50) dX10_part_50 ?_
        exact zV_iret (pc := 51) rfl dX10_part_51 (inRd rfl) h
      · replace c9 := b2i_tp c9
        replace h := h.1 c9
        refine zV_iload_n (pc := 29) dX10_part_29 rfl 2 rfl ?_
        refine zV_bipush (pc := 30) dX10_part_30 (by decide) ?_
        refine zV_idiv (pc := 32) dX10_part_32 hx2 (inRd rfl) (by decide) (fun q => absurd q.2 (by decide)) ?_
        refine zV_iload_n (pc := 33) dX10_part_33 rfl 2 rfl ?_
        refine zV_bipush (pc := 34) dX10_part_34 (by decide) ?_
        refine zV_irem (pc := 36) dX10_part_36 hx2 (inRd rfl) (by decide) (fun q => absurd q.2 (by decide)) ?_
        refine zV_icmp_eq (pc := 37) (tgt := 50) dX10_part_37 (by decide) (inR_tdiv hx2 (by decide)) (inR_tmod hx2 (by decide)) (fun c10 => ?_) (fun c10 => ?_)
        · skip
          replace h := h.1 c10
          refine zV_iconst (pc := 50) dX10_part_50 ?_
          exact zV_iret (pc := 51) rfl dX10_part_51 (inRd rfl) h
        · skip
          replace h := h.2 c10
          refine zV_iload_n (pc := 40) dX10_part_40 rfl 3 rfl ?_
          refine zV_iconst (pc := 41) dX10_part_41 ?_
          refine zV_bipush (pc := 42) dX10_part_42 (by decide) ?_
          refine zV_callSf (pc := 44) (mc := mX10_in) (As := [.int (iz x3), .int (iz 1), .int (iz 9)]) (rest := []) dX10_part_44 zcX10_114 ztX10_in rfl rfl (Nat.le_of_ble_eq_true rfl) (c_X10_in hx3 (inRd rfl) (inRd rfl)) (fun hr11 => ?_)
          refine zV_if_ne (pc := 47) (tgt := 52) dX10_part_47 (by decide) (inR_b2i _) (fun c13 => ?_) (fun c13 => ?_)
          · replace c13 := b2i_tp c13
            replace h := h.1 c13
            refine zV_iload_n (pc := 52) dX10_part_52 rfl 1 rfl ?_
            refine zV_callSf (pc := 53) (mc := mX10_isLawful) (As := [.int (iz x1)]) (rest := []) dX10_part_53 zcX10_143 ztX10_isLawful rfl rfl (Nat.le_of_ble_eq_true rfl) (c_X10_isLawful hx1) (fun hr14 => ?_)
            refine zV_if_eq (pc := 56) (tgt := 68) dX10_part_56 (by decide) (inR_b2i _) (fun c16 => ?_) (fun c16 => ?_)
            · replace c16 := b2i_fp c16
              replace h := h.2 c16
              refine zV_iload_n (pc := 68) dX10_part_68 rfl 1 rfl ?_
              refine zV_callSf (pc := 69) (mc := mX10_isGated) (As := [.int (iz x1)]) (rest := []) dX10_part_69 zcX10_140 ztX10_isGated rfl rfl (Nat.le_of_ble_eq_true rfl) (c_X10_isGated hx1) (fun hr17 => ?_)
              refine zV_if_eq (pc := 72) (tgt := 87) dX10_part_72 (by decide) (inR_b2i _) (fun c19 => ?_) (fun c19 => ?_)
              · replace c19 := b2i_fp c19
                replace h := h.2 c19
                exact zV_sub [0, 1, 2, 3, 4, 5] rfl h
              · replace c19 := b2i_tp c19
                replace h := h.1 c19
                refine zV_aloadr_n (pc := 75) dX10_part_75 rfl 0 rfl ?_
                refine zV_iload_n (pc := 76) dX10_part_76 rfl 1 rfl ?_
                refine zV_iload (pc := 77) dX10_part_77 5 rfl ?_
                refine zV_callV (pc := 79) (mc := mX10_isGate) (As := [.int (iz x1), .int (iz x5)]) (rest := []) dX10_part_79 zcX10_149 ziX10_isGate zsX10_isGate rfl rfl rfl rfl (Nat.le_of_ble_eq_true rfl) h (fun r20 m21 hr20 h => zV_ok (fun hm21 => ?_))
                replace h := h hr20 hm21
                refine zV_if_ne (pc := 82) (tgt := 87) dX10_part_82 (by decide) hr20 (fun c22 => ?_) (fun c22 => ?_)
                · skip
                  replace h := h.2 c22
                  exact zV_sub [0, 1, 2, 3, 4, 5] rfl h
                · replace c22 := Classical.not_not.mp c22
                  replace h := h.1 c22
                  refine zV_iconst (pc := 85) dX10_part_85 ?_
                  exact zV_iret (pc := 86) rfl dX10_part_86 (inRd rfl) h
            · replace c16 := b2i_tp c16
              replace h := h.1 c16
              refine zV_aloadr_n (pc := 59) dX10_part_59 rfl 0 rfl ?_
              refine zV_iload (pc := 60) dX10_part_60 4 rfl ?_
              refine zV_callVf (pc := 62) (mc := mX10_isLaw) (As := [.int (iz x4)]) (rest := []) dX10_part_62 zcX10_146 ziX10_isLaw zsX10_isLaw rfl rfl rfl rfl (Nat.le_of_ble_eq_true rfl) (c_X10_isLaw hx4 hm0) (fun hr23 => ?_)
              refine zV_if_eq (pc := 65) (tgt := 85) dX10_part_65 (by decide) (inR_b2i _) (fun c25 => ?_) (fun c25 => ?_)
              · replace c25 := b2i_fp c25
                replace h := h.2 c25
                refine zV_iconst (pc := 85) dX10_part_85 ?_
                exact zV_iret (pc := 86) rfl dX10_part_86 (inRd rfl) h
              · replace c25 := b2i_tp c25
                replace h := h.1 c25
                refine zV_iload_n (pc := 68) dX10_part_68 rfl 1 rfl ?_
                refine zV_callSf (pc := 69) (mc := mX10_isGated) (As := [.int (iz x1)]) (rest := []) dX10_part_69 zcX10_140 ztX10_isGated rfl rfl (Nat.le_of_ble_eq_true rfl) (c_X10_isGated hx1) (fun hr26 => ?_)
                refine zV_if_eq (pc := 72) (tgt := 87) dX10_part_72 (by decide) (inR_b2i _) (fun c28 => ?_) (fun c28 => ?_)
                · replace c28 := b2i_fp c28
                  replace h := h.2 c28
                  exact zV_sub [0, 1, 2, 3, 4, 5] rfl h
                · replace c28 := b2i_tp c28
                  replace h := h.1 c28
                  refine zV_aloadr_n (pc := 75) dX10_part_75 rfl 0 rfl ?_
                  refine zV_iload_n (pc := 76) dX10_part_76 rfl 1 rfl ?_
                  refine zV_iload (pc := 77) dX10_part_77 5 rfl ?_
                  refine zV_callV (pc := 79) (mc := mX10_isGate) (As := [.int (iz x1), .int (iz x5)]) (rest := []) dX10_part_79 zcX10_149 ziX10_isGate zsX10_isGate rfl rfl rfl rfl (Nat.le_of_ble_eq_true rfl) h (fun r29 m30 hr29 h => zV_ok (fun hm30 => ?_))
                  replace h := h hr29 hm30
                  refine zV_if_ne (pc := 82) (tgt := 87) dX10_part_82 (by decide) hr29 (fun c31 => ?_) (fun c31 => ?_)
                  · skip
                    replace h := h.2 c31
                    exact zV_sub [0, 1, 2, 3, 4, 5] rfl h
                  · replace c31 := Classical.not_not.mp c31
                    replace h := h.1 c31
                    refine zV_iconst (pc := 85) dX10_part_85 ?_
                    exact zV_iret (pc := 86) rfl dX10_part_86 (inRd rfl) h
          · replace c13 := b2i_fn c13
            replace h := h.2 c13
            refine zV_iconst (pc := 50) dX10_part_50 ?_
            exact zV_iret (pc := 51) rfl dX10_part_51 (inRd rfl) h
set_option maxRecDepth 100000 in
set_option maxHeartbeats 4000000 in
theorem vc_X10_part_87 {K : zCx} {d : Nat} (x1 : Int) (x2 : Int) (x3 : Int) (x4 : Int) (x5 : Int) (m0 : zM) {Q : Int → zM → Prop} (hx1 : inR x1) (hx2 : inR x2) (hx3 : inR x3) (hx4 : inR x4) (hx5 : inR x5) (h : zok m0 → ((m0.1 98 4) = 10 → Q (-2) m0) ∧ (¬ ((m0.1 98 4) = 10) → ∀ v2 : Int, v2 = (10 * (m0.1 98 4)) → (0 ≤ (v2 + 0) ∧ (v2 + 0) < 100 ∧ (∀ m6 : zM, m6 = sI m0 100 (v2 + 0) x1 → zok m6 → (0 ≤ (v2 + 1) ∧ (v2 + 1) < 100 ∧ (∀ m10 : zM, m10 = sI m6 100 (v2 + 1) (Int.tdiv x2 10) → zok m10 → (0 ≤ (v2 + 2) ∧ (v2 + 2) < 100 ∧ (∀ m14 : zM, m14 = sI m10 100 (v2 + 2) (Int.tmod x2 10) → zok m14 → (0 ≤ (v2 + 3) ∧ (v2 + 3) < 100 ∧ (∀ m18 : zM, m18 = sI m14 100 (v2 + 3) x3 → zok m18 → (0 ≤ (v2 + 4) ∧ (v2 + 4) < 100 ∧ (∀ m22 : zM, m22 = sI m18 100 (v2 + 4) 0 → zok m22 → (∀ v26 : Int, v26 = (if (1 ≤ x1 ∧ x1 ≤ 3) then (Int.tdiv x4 100) else (-9)) → (0 ≤ (v2 + 5) ∧ (v2 + 5) < 100 ∧ (∀ m30 : zM, m30 = sI m22 100 (v2 + 5) v26 → zok m30 → (∀ v34 : Int, v34 = (if (1 ≤ x1 ∧ x1 ≤ 3) then (Int.tmod (Int.tdiv x4 10) 10) else (-9)) → (0 ≤ (v2 + 6) ∧ (v2 + 6) < 100 ∧ (∀ m38 : zM, m38 = sI m30 100 (v2 + 6) v34 → zok m38 → (∀ v42 : Int, v42 = (if (1 ≤ x1 ∧ x1 ≤ 3) then (Int.tmod x4 10) else (-9)) → (0 ≤ (v2 + 7) ∧ (v2 + 7) < 100 ∧ (∀ m46 : zM, m46 = sI m38 100 (v2 + 7) v42 → zok m46 → (∀ v50 : Int, v50 = (if (2 ≤ x1 ∧ x1 ≤ 3) then (Int.tmod x5 10) else (-9)) → (0 ≤ (v2 + 8) ∧ (v2 + 8) < 100 ∧ (∀ m54 : zM, m54 = sI m46 100 (v2 + 8) v50 → zok m54 → (∀ v56 : Int, v56 = (if x1 = 3 then (Int.tdiv x5 10) else (-9)) → (0 ≤ (v2 + 9) ∧ (v2 + 9) < 100 ∧ (∀ m60 : zM, m60 = sI m54 100 (v2 + 9) v56 → zok m60 → (0 ≤ (2 * (m60.1 98 4)) ∧ (2 * (m60.1 98 4)) < 20 ∧ (∀ m64 : zM, m64 = sI m60 101 (2 * (m60.1 98 4)) 0 → zok m64 → (0 ≤ ((2 * (m64.1 98 4)) + 1) ∧ ((2 * (m64.1 98 4)) + 1) < 20 ∧ (∀ m68 : zM, m68 = sI m64 101 ((2 * (m64.1 98 4)) + 1) 0 → zok m68 → (inR ((m68.1 98 4) + 1) ∧ (∀ m71 : zM, m71 = sI m68 98 4 ((m68.1 98 4) + 1) → zok m71 → (inR ((m71.1 98 4) - 1) ∧ (Q ((m71.1 98 4) - 1) m71))))))))))))))))))))))))))))))))))) : zV K mX10_part (d + 4) 87 [(0, rr K 98), (1, .int (iz x1)), (2, .int (iz x2)), (3, .int (iz x3)), (4, .int (iz x4)), (5, .int (iz x5))] [] m0 Q := by
  refine zV_ok (fun hm0 => ?_)
  replace h := h hm0
  refine zV_aloadr_n (pc := 87) dX10_part_87 rfl 0 rfl ?_
  refine zV_getI (pc := 88) (kz := 4) dX10_part_88 zfX10_111 rfl rfl rfl ?_
  refine zV_bipush (pc := 91) dX10_part_91 (by decide) ?_
  refine zV_icmp_ne (pc := 93) (tgt := 99) dX10_part_93 (by decide) (hm0 _ _) (inRd rfl) (fun c1 => ?_) (fun c1 => ?_)
  · skip
    replace h := h.2 c1
    refine zV_bipush (pc := 99) dX10_part_99 (by decide) ?_
    refine zV_aloadr_n (pc := 101) dX10_part_101 rfl 0 rfl ?_
    refine zV_getI (pc := 102) (kz := 4) dX10_part_102 zfX10_111 rfl rfl rfl ?_
    refine zV_imul (pc := 105) dX10_part_105 ?_
    refine zV_name (fun v2 e3 => ?_)
    replace h := h v2 e3
    refine zV_istore (pc := 106) (loc' := [(6, .int (iz v2)), (0, rr K 98), (1, .int (iz x1)), (2, .int (iz x2)), (3, .int (iz x3)), (4, .int (iz x4)), (5, .int (iz x5))]) dX10_part_106 (by decide) rfl ?_
    refine zV_aloadr_n (pc := 108) dX10_part_108 rfl 1 rfl ?_
    refine zV_getR (pc := 109) (b := 100) dX10_part_109 zfX10_17 rfl rfl rfl ?_
    refine zV_iload (pc := 112) dX10_part_112 0 rfl ?_
    refine zV_iconst (pc := 114) dX10_part_114 ?_
    refine zV_iadd (pc := 115) dX10_part_115 ?_
    refine zV_iload_n (pc := 116) dX10_part_116 rfl 2 rfl ?_
    obtain ⟨o4, o5, h⟩ := h
    refine zV_iast (pc := 117) dX10_part_117 rfl o4 o5 (inR_ix o4 o5 rfl) hx1 ?_
    refine zV_mem (fun m6 e7 => zV_ok (fun hm6 => ?_))
    replace h := h m6 e7 hm6
    refine zV_aloadr_n (pc := 118) dX10_part_118 rfl 1 rfl ?_
    refine zV_getR (pc := 119) (b := 100) dX10_part_119 zfX10_17 rfl rfl rfl ?_
    refine zV_iload (pc := 122) dX10_part_122 0 rfl ?_
    refine zV_iconst (pc := 124) dX10_part_124 ?_
    refine zV_iadd (pc := 125) dX10_part_125 ?_
    refine zV_iload_n (pc := 126) dX10_part_126 rfl 3 rfl ?_
    refine zV_bipush (pc := 127) dX10_part_127 (by decide) ?_
    refine zV_idiv (pc := 129) dX10_part_129 hx2 (inRd rfl) (by decide) (fun q => absurd q.2 (by decide)) ?_
    obtain ⟨o8, o9, h⟩ := h
    refine zV_iast (pc := 130) dX10_part_130 rfl o8 o9 (inR_ix o8 o9 rfl) (inR_tdiv hx2 (by decide)) ?_
    refine zV_mem (fun m10 e11 => zV_ok (fun hm10 => ?_))
    replace h := h m10 e11 hm10
    refine zV_aloadr_n (pc := 131) dX10_part_131 rfl 1 rfl ?_
    refine zV_getR (pc := 132) (b := 100) dX10_part_132 zfX10_17 rfl rfl rfl ?_
    refine zV_iload (pc := 135) dX10_part_135 0 rfl ?_
    refine zV_iconst (pc := 137) dX10_part_137 ?_
    refine zV_iadd (pc := 138) dX10_part_138 ?_
    refine zV_iload_n (pc := 139) dX10_part_139 rfl 3 rfl ?_
    refine zV_bipush (pc := 140) dX10_part_140 (by decide) ?_
    refine zV_irem (pc := 142) dX10_part_142 hx2 (inRd rfl) (by decide) (fun q => absurd q.2 (by decide)) ?_
    obtain ⟨o12, o13, h⟩ := h
    refine zV_iast (pc := 143) dX10_part_143 rfl o12 o13 (inR_ix o12 o13 rfl) (inR_tmod hx2 (by decide)) ?_
    refine zV_mem (fun m14 e15 => zV_ok (fun hm14 => ?_))
    replace h := h m14 e15 hm14
    refine zV_aloadr_n (pc := 144) dX10_part_144 rfl 1 rfl ?_
    refine zV_getR (pc := 145) (b := 100) dX10_part_145 zfX10_17 rfl rfl rfl ?_
    refine zV_iload (pc := 148) dX10_part_148 0 rfl ?_
    refine zV_iconst (pc := 150) dX10_part_150 ?_
    refine zV_iadd (pc := 151) dX10_part_151 ?_
    refine zV_iload_n (pc := 152) dX10_part_152 rfl 4 rfl ?_
    obtain ⟨o16, o17, h⟩ := h
    refine zV_iast (pc := 153) dX10_part_153 rfl o16 o17 (inR_ix o16 o17 rfl) hx3 ?_
    refine zV_mem (fun m18 e19 => zV_ok (fun hm18 => ?_))
    replace h := h m18 e19 hm18
    refine zV_aloadr_n (pc := 154) dX10_part_154 rfl 1 rfl ?_
    refine zV_getR (pc := 155) (b := 100) dX10_part_155 zfX10_17 rfl rfl rfl ?_
    refine zV_iload (pc := 158) dX10_part_158 0 rfl ?_
    refine zV_iconst (pc := 160) dX10_part_160 ?_
    refine zV_iadd (pc := 161) dX10_part_161 ?_
    refine zV_iconst (pc := 162) dX10_part_162 ?_
    obtain ⟨o20, o21, h⟩ := h
    refine zV_iast (pc := 163) dX10_part_163 rfl o20 o21 (inR_ix o20 o21 rfl) (inRd rfl) ?_
    refine zV_mem (fun m22 e23 => zV_ok (fun hm22 => ?_))
    replace h := h m22 e23 hm22
    refine zV_aloadr_n (pc := 164) dX10_part_164 rfl 1 rfl ?_
    refine zV_getR (pc := 165) (b := 100) dX10_part_165 zfX10_17 rfl rfl rfl ?_
    refine zV_iload (pc := 168) dX10_part_168 0 rfl ?_
    refine zV_iconst (pc := 170) dX10_part_170 ?_
    refine zV_iadd (pc := 171) dX10_part_171 ?_
    refine zV_iload_n (pc := 172) dX10_part_172 rfl 2 rfl ?_
    refine zV_callSf (pc := 173) (mc := mX10_isLawful) (As := [.int (iz x1)]) (rest := [.int (iz (v2 + 5)), rr K 100]) dX10_part_173 zcX10_143 ztX10_isLawful rfl rfl (Nat.le_of_ble_eq_true rfl) (c_X10_isLawful hx1) (fun hr24 => ?_)
    have key : ∀ v26 : Int, v26 = (if (1 ≤ x1 ∧ x1 ≤ 3) then (Int.tdiv x4 100) else (-9)) → zV K mX10_part (d + 4) 189 [(6, .int (iz v2)), (0, rr K 98), (1, .int (iz x1)), (4, .int (iz x4)), (5, .int (iz x5))] [.int (iz v26), .int (iz (v2 + 5)), rr K 100] m22 Q := by
      intro v26 e27
      replace h := h v26 e27
      have hrv26 : inR v26 := by rw [e27]; (repeat' split) <;> first | with_reducible exact (inRd rfl) | with_reducible exact (inR_tdiv hx4 (by decide))
      obtain ⟨o28, o29, h⟩ := h
      refine zV_iast (pc := 189) dX10_part_189 rfl o28 o29 (inR_ix o28 o29 rfl) hrv26 ?_
      refine zV_mem (fun m30 e31 => zV_ok (fun hm30 => ?_))
      replace h := h m30 e31 hm30
      refine zV_aloadr_n (pc := 190) dX10_part_190 rfl 1 rfl ?_
      refine zV_getR (pc := 191) (b := 100) dX10_part_191 zfX10_17 rfl rfl rfl ?_
      refine zV_iload (pc := 194) dX10_part_194 0 rfl ?_
      refine zV_bipush (pc := 196) dX10_part_196 (by decide) ?_
      refine zV_iadd (pc := 198) dX10_part_198 ?_
      refine zV_iload_n (pc := 199) dX10_part_199 rfl 2 rfl ?_
      refine zV_callSf (pc := 200) (mc := mX10_isLawful) (As := [.int (iz x1)]) (rest := [.int (iz (v2 + 6)), rr K 100]) dX10_part_200 zcX10_143 ztX10_isLawful rfl rfl (Nat.le_of_ble_eq_true rfl) (c_X10_isLawful hx1) (fun hr32 => ?_)
      have key : ∀ v34 : Int, v34 = (if (1 ≤ x1 ∧ x1 ≤ 3) then (Int.tmod (Int.tdiv x4 10) 10) else (-9)) → zV K mX10_part (d + 4) 219 [(6, .int (iz v2)), (0, rr K 98), (1, .int (iz x1)), (4, .int (iz x4)), (5, .int (iz x5))] [.int (iz v34), .int (iz (v2 + 6)), rr K 100] m30 Q := by
        intro v34 e35
        replace h := h v34 e35
        have hrv34 : inR v34 := by rw [e35]; (repeat' split) <;> first | with_reducible exact (inRd rfl) | with_reducible exact (inR_tmod (inR_tdiv hx4 (by decide)) (by decide))
        obtain ⟨o36, o37, h⟩ := h
        refine zV_iast (pc := 219) dX10_part_219 rfl o36 o37 (inR_ix o36 o37 rfl) hrv34 ?_
        refine zV_mem (fun m38 e39 => zV_ok (fun hm38 => ?_))
        replace h := h m38 e39 hm38
        refine zV_aloadr_n (pc := 220) dX10_part_220 rfl 1 rfl ?_
        refine zV_getR (pc := 221) (b := 100) dX10_part_221 zfX10_17 rfl rfl rfl ?_
        refine zV_iload (pc := 224) dX10_part_224 0 rfl ?_
        refine zV_bipush (pc := 226) dX10_part_226 (by decide) ?_
        refine zV_iadd (pc := 228) dX10_part_228 ?_
        refine zV_iload_n (pc := 229) dX10_part_229 rfl 2 rfl ?_
        refine zV_callSf (pc := 230) (mc := mX10_isLawful) (As := [.int (iz x1)]) (rest := [.int (iz (v2 + 7)), rr K 100]) dX10_part_230 zcX10_143 ztX10_isLawful rfl rfl (Nat.le_of_ble_eq_true rfl) (c_X10_isLawful hx1) (fun hr40 => ?_)
        have key : ∀ v42 : Int, v42 = (if (1 ≤ x1 ∧ x1 ≤ 3) then (Int.tmod x4 10) else (-9)) → zV K mX10_part (d + 4) 246 [(6, .int (iz v2)), (0, rr K 98), (1, .int (iz x1)), (5, .int (iz x5))] [.int (iz v42), .int (iz (v2 + 7)), rr K 100] m38 Q := by
          intro v42 e43
          replace h := h v42 e43
          have hrv42 : inR v42 := by rw [e43]; (repeat' split) <;> first | with_reducible exact (inRd rfl) | with_reducible exact (inR_tmod hx4 (by decide))
          obtain ⟨o44, o45, h⟩ := h
          refine zV_iast (pc := 246) dX10_part_246 rfl o44 o45 (inR_ix o44 o45 rfl) hrv42 ?_
          refine zV_mem (fun m46 e47 => zV_ok (fun hm46 => ?_))
          replace h := h m46 e47 hm46
          refine zV_aloadr_n (pc := 247) dX10_part_247 rfl 1 rfl ?_
          refine zV_getR (pc := 248) (b := 100) dX10_part_248 zfX10_17 rfl rfl rfl ?_
          refine zV_iload (pc := 251) dX10_part_251 0 rfl ?_
          refine zV_bipush (pc := 253) dX10_part_253 (by decide) ?_
          refine zV_iadd (pc := 255) dX10_part_255 ?_
          refine zV_iload_n (pc := 256) dX10_part_256 rfl 2 rfl ?_
          refine zV_callSf (pc := 257) (mc := mX10_isGated) (As := [.int (iz x1)]) (rest := [.int (iz (v2 + 8)), rr K 100]) dX10_part_257 zcX10_140 ztX10_isGated rfl rfl (Nat.le_of_ble_eq_true rfl) (c_X10_isGated hx1) (fun hr48 => ?_)
          have key : ∀ v50 : Int, v50 = (if (2 ≤ x1 ∧ x1 ≤ 3) then (Int.tmod x5 10) else (-9)) → zV K mX10_part (d + 4) 273 [(6, .int (iz v2)), (0, rr K 98), (1, .int (iz x1)), (5, .int (iz x5))] [.int (iz v50), .int (iz (v2 + 8)), rr K 100] m46 Q := by
            intro v50 e51
            replace h := h v50 e51
            have hrv50 : inR v50 := by rw [e51]; (repeat' split) <;> first | with_reducible exact (inRd rfl) | with_reducible exact (inR_tmod hx5 (by decide))
            obtain ⟨o52, o53, h⟩ := h
            refine zV_iast (pc := 273) dX10_part_273 rfl o52 o53 (inR_ix o52 o53 rfl) hrv50 ?_
            refine zV_mem (fun m54 e55 => zV_ok (fun hm54 => ?_))
            replace h := h m54 e55 hm54
            refine zV_aloadr_n (pc := 274) dX10_part_274 rfl 1 rfl ?_
            refine zV_getR (pc := 275) (b := 100) dX10_part_275 zfX10_17 rfl rfl rfl ?_
            refine zV_iload (pc := 278) dX10_part_278 0 rfl ?_
            refine zV_bipush (pc := 280) dX10_part_280 (by decide) ?_
            refine zV_iadd (pc := 282) dX10_part_282 ?_
            refine zV_iload_n (pc := 283) dX10_part_283 rfl 2 rfl ?_
            refine zV_iconst (pc := 284) dX10_part_284 ?_
            have key : ∀ v56 : Int, v56 = (if x1 = 3 then (Int.tdiv x5 10) else (-9)) → zV K mX10_part (d + 4) 298 [(0, rr K 98)] [.int (iz v56), .int (iz (v2 + 9)), rr K 100] m54 Q := by
              intro v56 e57
              replace h := h v56 e57
              have hrv56 : inR v56 := by rw [e57]; (repeat' split) <;> first | with_reducible exact (inRd rfl) | with_reducible exact (inR_tdiv hx5 (by decide))
              obtain ⟨o58, o59, h⟩ := h
              refine zV_iast (pc := 298) dX10_part_298 rfl o58 o59 (inR_ix o58 o59 rfl) hrv56 ?_
              refine zV_mem (fun m60 e61 => zV_ok (fun hm60 => ?_))
              replace h := h m60 e61 hm60
              refine zV_aloadr_n (pc := 299) dX10_part_299 rfl 0 rfl ?_
              refine zV_getR (pc := 300) (b := 101) dX10_part_300 zfX10_20 rfl rfl rfl ?_
              refine zV_iconst (pc := 303) dX10_part_303 ?_
              refine zV_aloadr_n (pc := 304) dX10_part_304 rfl 0 rfl ?_
              refine zV_getI (pc := 305) (kz := 4) dX10_part_305 zfX10_111 rfl rfl rfl ?_
              refine zV_imul (pc := 308) dX10_part_308 ?_
              refine zV_iconst (pc := 309) dX10_part_309 ?_
              obtain ⟨o62, o63, h⟩ := h
              refine zV_iast (pc := 310) dX10_part_310 rfl o62 o63 (inR_ix o62 o63 rfl) (inRd rfl) ?_
              refine zV_mem (fun m64 e65 => zV_ok (fun hm64 => ?_))
              replace h := h m64 e65 hm64
              refine zV_aloadr_n (pc := 311) dX10_part_311 rfl 0 rfl ?_
              refine zV_getR (pc := 312) (b := 101) dX10_part_312 zfX10_20 rfl rfl rfl ?_
              refine zV_iconst (pc := 315) dX10_part_315 ?_
              refine zV_aloadr_n (pc := 316) dX10_part_316 rfl 0 rfl ?_
              refine zV_getI (pc := 317) (kz := 4) dX10_part_317 zfX10_111 rfl rfl rfl ?_
              refine zV_imul (pc := 320) dX10_part_320 ?_
              refine zV_iconst (pc := 321) dX10_part_321 ?_
              refine zV_iadd (pc := 322) dX10_part_322 ?_
              refine zV_iconst (pc := 323) dX10_part_323 ?_
              obtain ⟨o66, o67, h⟩ := h
              refine zV_iast (pc := 324) dX10_part_324 rfl o66 o67 (inR_ix o66 o67 rfl) (inRd rfl) ?_
              refine zV_mem (fun m68 e69 => zV_ok (fun hm68 => ?_))
              replace h := h m68 e69 hm68
              refine zV_aloadr_n (pc := 325) dX10_part_325 rfl 0 rfl ?_
              refine zV_dup (pc := 326) dX10_part_326 rfl ?_
              refine zV_getI (pc := 327) (kz := 4) dX10_part_327 zfX10_111 rfl rfl rfl ?_
              refine zV_iconst (pc := 330) dX10_part_330 ?_
              refine zV_iadd (pc := 331) dX10_part_331 ?_
              obtain ⟨o70, h⟩ := h
              refine zV_putI (pc := 332) (kz := 4) dX10_part_332 zpX10_111 rfl rfl rfl o70 rfl rfl ?_
              refine zV_mem (fun m71 e72 => zV_ok (fun hm71 => ?_))
              replace h := h m71 e72 hm71
              refine zV_aloadr_n (pc := 335) dX10_part_335 rfl 0 rfl ?_
              refine zV_getI (pc := 336) (kz := 4) dX10_part_336 zfX10_111 rfl rfl rfl ?_
              refine zV_iconst (pc := 339) dX10_part_339 ?_
              refine zV_isub (pc := 340) dX10_part_340 ?_
              obtain ⟨o73, h⟩ := h
              exact zV_iret (pc := 341) rfl dX10_part_341 o73 h
            refine zV_icmp_ne (pc := 285) (tgt := 296) dX10_part_285 (by decide) hx1 (inRd rfl) (fun c74 => ?_) (fun c74 => ?_)
            · skip
              refine zV_bipush (pc := 296) dX10_part_296 (by decide) ?_
              exact zV_sub [1] rfl (key _ (if_neg c74).symm)
            · replace c74 := Classical.not_not.mp c74
              refine zV_iload (pc := 288) dX10_part_288 3 rfl ?_
              refine zV_bipush (pc := 290) dX10_part_290 (by decide) ?_
              refine zV_idiv (pc := 292) dX10_part_292 hx5 (inRd rfl) (by decide) (fun q => absurd q.2 (by decide)) ?_
              refine zV_goto (pc := 293) (tgt := 298) dX10_part_293 (by decide) ?_
              exact zV_sub [1] rfl (key _ (if_pos c74).symm)
          refine zV_if_eq (pc := 260) (tgt := 271) dX10_part_260 (by decide) (inR_b2i _) (fun c75 => ?_) (fun c75 => ?_)
          · replace c75 := b2i_fp c75
            refine zV_bipush (pc := 271) dX10_part_271 (by decide) ?_
            exact zV_sub [0, 1, 2, 3] rfl (key _ (if_neg c75).symm)
          · replace c75 := b2i_tp c75
            refine zV_iload (pc := 263) dX10_part_263 3 rfl ?_
            refine zV_bipush (pc := 265) dX10_part_265 (by decide) ?_
            refine zV_irem (pc := 267) dX10_part_267 hx5 (inRd rfl) (by decide) (fun q => absurd q.2 (by decide)) ?_
            refine zV_goto (pc := 268) (tgt := 273) dX10_part_268 (by decide) ?_
            exact zV_sub [0, 1, 2, 3] rfl (key _ (if_pos c75).symm)
        refine zV_if_eq (pc := 233) (tgt := 244) dX10_part_233 (by decide) (inR_b2i _) (fun c76 => ?_) (fun c76 => ?_)
        · replace c76 := b2i_fp c76
          refine zV_bipush (pc := 244) dX10_part_244 (by decide) ?_
          exact zV_sub [0, 1, 2, 4] rfl (key _ (if_neg c76).symm)
        · replace c76 := b2i_tp c76
          refine zV_iload (pc := 236) dX10_part_236 3 rfl ?_
          refine zV_bipush (pc := 238) dX10_part_238 (by decide) ?_
          refine zV_irem (pc := 240) dX10_part_240 hx4 (inRd rfl) (by decide) (fun q => absurd q.2 (by decide)) ?_
          refine zV_goto (pc := 241) (tgt := 246) dX10_part_241 (by decide) ?_
          exact zV_sub [0, 1, 2, 4] rfl (key _ (if_pos c76).symm)
      refine zV_if_eq (pc := 203) (tgt := 217) dX10_part_203 (by decide) (inR_b2i _) (fun c77 => ?_) (fun c77 => ?_)
      · replace c77 := b2i_fp c77
        refine zV_bipush (pc := 217) dX10_part_217 (by decide) ?_
        exact zV_sub [0, 1, 2, 3, 4] rfl (key _ (if_neg c77).symm)
      · replace c77 := b2i_tp c77
        refine zV_iload (pc := 206) dX10_part_206 3 rfl ?_
        refine zV_bipush (pc := 208) dX10_part_208 (by decide) ?_
        refine zV_idiv (pc := 210) dX10_part_210 hx4 (inRd rfl) (by decide) (fun q => absurd q.2 (by decide)) ?_
        refine zV_bipush (pc := 211) dX10_part_211 (by decide) ?_
        refine zV_irem (pc := 213) dX10_part_213 (inR_tdiv hx4 (by decide)) (inRd rfl) (by decide) (fun q => absurd q.2 (by decide)) ?_
        refine zV_goto (pc := 214) (tgt := 219) dX10_part_214 (by decide) ?_
        exact zV_sub [0, 1, 2, 3, 4] rfl (key _ (if_pos c77).symm)
    refine zV_if_eq (pc := 176) (tgt := 187) dX10_part_176 (by decide) (inR_b2i _) (fun c78 => ?_) (fun c78 => ?_)
    · replace c78 := b2i_fp c78
      refine zV_bipush (pc := 187) dX10_part_187 (by decide) ?_
      exact zV_sub [0, 1, 2, 5, 6] rfl (key _ (if_neg c78).symm)
    · replace c78 := b2i_tp c78
      refine zV_iload (pc := 179) dX10_part_179 5 rfl ?_
      refine zV_bipush (pc := 181) dX10_part_181 (by decide) ?_
      refine zV_idiv (pc := 183) dX10_part_183 hx4 (inRd rfl) (by decide) (fun q => absurd q.2 (by decide)) ?_
      refine zV_goto (pc := 184) (tgt := 189) dX10_part_184 (by decide) ?_
      exact zV_sub [0, 1, 2, 5, 6] rfl (key _ (if_pos c78).symm)
  · replace c1 := Classical.not_not.mp c1
    replace h := h.1 c1
    refine zV_bipush (pc := 96) dX10_part_96 (by decide) ?_
    exact zV_iret (pc := 98) rfl dX10_part_98 (inRd rfl) h

set_option maxRecDepth 100000 in
set_option maxHeartbeats 4000000 in
theorem vc_X10_partOf_0 {K : zCx} {d : Nat} (x1 : Int) (x2 : Int) (m0 : zM) {Q : Int → zM → Prop} (hx1 : inR x1) (hx2 : inR x2) (h : zok m0 → (0 ≤ m0.1 98 4) ∧ (((0 ≤ x1 ∧ x1 < m0.1 98 4) → ((0 ≤ x2 ∧ x2 ≤ 8) → (x2 = 0 → (0 ≤ 10 * x1 + 0) ∧ ((10 * x1 + 0 < 100) ∧ (Q (m0.1 100 (10 * x1 + 0)) m0))) ∧ (¬ (x2 = 0) → (x2 = 1 → (0 ≤ 10 * x1 + 1) ∧ ((10 * x1 + 1 < 100) ∧ ((0 ≤ 10 * x1 + 2) ∧ ((10 * x1 + 2 < 100) ∧ (inR ((10 * (m0.1 100 (10 * x1 + 1))) + (m0.1 100 (10 * x1 + 2))) ∧ (Q ((10 * (m0.1 100 (10 * x1 + 1))) + (m0.1 100 (10 * x1 + 2))) m0)))))) ∧ (¬ (x2 = 1) → inR (x2 + 1) ∧ ((0 ≤ 10 * x1 + (x2 + 1)) ∧ ((10 * x1 + (x2 + 1) < 100) ∧ (Q (m0.1 100 (10 * x1 + (x2 + 1))) m0)))))) ∧ (¬ ((0 ≤ x2 ∧ x2 ≤ 8)) → Q (-1) m0)) ∧ (¬ ((0 ≤ x1 ∧ x1 < m0.1 98 4)) → Q (-1) m0))) : zV K mX10_partOf (d + 3) 0 [(0, rr K 98), (1, .int (iz x1)), (2, .int (iz x2))] [] m0 Q := by
  refine zV_ok (fun hm0 => ?_)
  replace h := h hm0
  refine zV_aloadr_n (pc := 0) dX10_partOf_0 rfl 0 rfl ?_
  refine zV_iload_n (pc := 1) dX10_partOf_1 rfl 1 rfl ?_
  obtain ⟨o1, h⟩ := h
  refine zV_callVf (pc := 2) (mc := mX10_isPart) (As := [.int (iz x1)]) (rest := []) dX10_partOf_2 zcX10_134 ziX10_isPart zsX10_isPart rfl rfl rfl rfl (Nat.le_of_ble_eq_true rfl) (c_X10_isPart hx1 hm0 o1) (fun hr2 => ?_)
  refine zV_if_eq (pc := 5) (tgt := 18) dX10_partOf_5 (by decide) (inR_b2i _) (fun c4 => ?_) (fun c4 => ?_)
  · replace c4 := b2i_fp c4
    replace h := h.2 c4
    refine zV_iconst (pc := 18) dX10_partOf_18 ?_
    exact zV_iret (pc := 19) rfl dX10_partOf_19 (inRd rfl) h
  · replace c4 := b2i_tp c4
    replace h := h.1 c4
    refine zV_iload_n (pc := 8) dX10_partOf_8 rfl 2 rfl ?_
    refine zV_iconst (pc := 9) dX10_partOf_9 ?_
    refine zV_bipush (pc := 10) dX10_partOf_10 (by decide) ?_
    refine zV_callSf (pc := 12) (mc := mX10_in) (As := [.int (iz x2), .int (iz 0), .int (iz 8)]) (rest := []) dX10_partOf_12 zcX10_114 ztX10_in rfl rfl (Nat.le_of_ble_eq_true rfl) (c_X10_in hx2 (inRd rfl) (inRd rfl)) (fun hr5 => ?_)
    refine zV_if_ne (pc := 15) (tgt := 20) dX10_partOf_15 (by decide) (inR_b2i _) (fun c7 => ?_) (fun c7 => ?_)
    · replace c7 := b2i_tp c7
      replace h := h.1 c7
      refine zV_iload_n (pc := 20) dX10_partOf_20 rfl 2 rfl ?_
      refine zV_if_ne (pc := 21) (tgt := 33) dX10_partOf_21 (by decide) hx2 (fun c8 => ?_) (fun c8 => ?_)
      · skip
        replace h := h.2 c8
        refine zV_iload_n (pc := 33) dX10_partOf_33 rfl 2 rfl ?_
        refine zV_iconst (pc := 34) dX10_partOf_34 ?_
        refine zV_icmp_ne (pc := 35) (tgt := 57) dX10_partOf_35 (by decide) hx2 (inRd rfl) (fun c9 => ?_) (fun c9 => ?_)
        · skip
          replace h := h.2 c9
          refine zV_aloadr_n (pc := 57) dX10_partOf_57 rfl 0 rfl ?_
          refine zV_iload_n (pc := 58) dX10_partOf_58 rfl 1 rfl ?_
          refine zV_iload_n (pc := 59) dX10_partOf_59 rfl 2 rfl ?_
          refine zV_iconst (pc := 60) dX10_partOf_60 ?_
          refine zV_iadd (pc := 61) dX10_partOf_61 ?_
          obtain ⟨o10, h⟩ := h
          obtain ⟨o11, h⟩ := h
          obtain ⟨o12, h⟩ := h
          refine zV_callVf (pc := 62) (mc := mX10_its) (As := [.int (iz x1), .int (iz (x2 + 1))]) (rest := []) dX10_partOf_62 zcX10_137 ziX10_its zsX10_its rfl rfl rfl rfl (Nat.le_of_ble_eq_true rfl) (c_X10_its o10 hx1 hm0 o11 o12) (fun hr13 => ?_)
          exact zV_iret (pc := 65) rfl dX10_partOf_65 hr13 h
        · replace c9 := Classical.not_not.mp c9
          replace h := h.1 c9
          refine zV_bipush (pc := 38) dX10_partOf_38 (by decide) ?_
          refine zV_aloadr_n (pc := 40) dX10_partOf_40 rfl 0 rfl ?_
          refine zV_iload_n (pc := 41) dX10_partOf_41 rfl 1 rfl ?_
          refine zV_iconst (pc := 42) dX10_partOf_42 ?_
          obtain ⟨o15, h⟩ := h
          obtain ⟨o16, h⟩ := h
          refine zV_callVf (pc := 43) (mc := mX10_its) (As := [.int (iz x1), .int (iz 1)]) (rest := [.int (iz 10)]) dX10_partOf_43 zcX10_137 ziX10_its zsX10_its rfl rfl rfl rfl (Nat.le_of_ble_eq_true rfl) (c_X10_its (inRd rfl) hx1 hm0 o15 o16) (fun hr17 => ?_)
          refine zV_imul (pc := 46) dX10_partOf_46 ?_
          refine zV_aloadr_n (pc := 47) dX10_partOf_47 rfl 0 rfl ?_
          refine zV_iload_n (pc := 48) dX10_partOf_48 rfl 1 rfl ?_
          refine zV_iconst (pc := 49) dX10_partOf_49 ?_
          obtain ⟨o19, h⟩ := h
          obtain ⟨o20, h⟩ := h
          refine zV_callVf (pc := 50) (mc := mX10_its) (As := [.int (iz x1), .int (iz 2)]) (rest := [.int (iz (10 * (m0.1 100 (10 * x1 + 1))))]) dX10_partOf_50 zcX10_137 ziX10_its zsX10_its rfl rfl rfl rfl (Nat.le_of_ble_eq_true rfl) (c_X10_its (inRd rfl) hx1 hm0 o19 o20) (fun hr21 => ?_)
          refine zV_iadd (pc := 53) dX10_partOf_53 ?_
          refine zV_goto (pc := 54) (tgt := 65) dX10_partOf_54 (by decide) ?_
          obtain ⟨o23, h⟩ := h
          exact zV_iret (pc := 65) rfl dX10_partOf_65 o23 h
      · replace c8 := Classical.not_not.mp c8
        replace h := h.1 c8
        refine zV_aloadr_n (pc := 24) dX10_partOf_24 rfl 0 rfl ?_
        refine zV_iload_n (pc := 25) dX10_partOf_25 rfl 1 rfl ?_
        refine zV_iconst (pc := 26) dX10_partOf_26 ?_
        obtain ⟨o24, h⟩ := h
        obtain ⟨o25, h⟩ := h
        refine zV_callVf (pc := 27) (mc := mX10_its) (As := [.int (iz x1), .int (iz 0)]) (rest := []) dX10_partOf_27 zcX10_137 ziX10_its zsX10_its rfl rfl rfl rfl (Nat.le_of_ble_eq_true rfl) (c_X10_its (inRd rfl) hx1 hm0 o24 o25) (fun hr26 => ?_)
        refine zV_goto (pc := 30) (tgt := 65) dX10_partOf_30 (by decide) ?_
        exact zV_iret (pc := 65) rfl dX10_partOf_65 hr26 h
    · replace c7 := b2i_fn c7
      replace h := h.2 c7
      refine zV_iconst (pc := 18) dX10_partOf_18 ?_
      exact zV_iret (pc := 19) rfl dX10_partOf_19 (inRd rfl) h

set_option maxRecDepth 100000 in
set_option maxHeartbeats 4000000 in
theorem vc_X10_size_0 {K : zCx} {d : Nat} (x1 : Int) (x2 : Int) (m0 : zM) {Q : Int → zM → Prop} (hx1 : inR x1) (hx2 : inR x2) (h : zok m0 → (0 ≤ m0.1 98 4) ∧ (((0 ≤ x1 ∧ x1 < m0.1 98 4) → ((1 ≤ x2 ∧ x2 ≤ 9) → (0 ≤ 10 * x1 + 3) ∧ ((10 * x1 + 3 < 100) ∧ (∀ v12 : Int, v12 = (m0.1 100 (10 * x1 + 3)) → (0 ≤ ((10 * x1) + 3) ∧ ((10 * x1) + 3) < 100 ∧ (∀ m16 : zM, m16 = sI m0 100 ((10 * x1) + 3) x2 → zok m16 → (Q v12 m16)))))) ∧ (¬ ((1 ≤ x2 ∧ x2 ≤ 9)) → Q (-1) m0)) ∧ (¬ ((0 ≤ x1 ∧ x1 < m0.1 98 4)) → Q (-1) m0))) : zV K mX10_size (d + 3) 0 [(0, rr K 98), (1, .int (iz x1)), (2, .int (iz x2))] [] m0 Q := by
  refine zV_ok (fun hm0 => ?_)
  replace h := h hm0
  refine zV_aloadr_n (pc := 0) dX10_size_0 rfl 0 rfl ?_
  refine zV_iload_n (pc := 1) dX10_size_1 rfl 1 rfl ?_
  obtain ⟨o1, h⟩ := h
  refine zV_callVf (pc := 2) (mc := mX10_isPart) (As := [.int (iz x1)]) (rest := []) dX10_size_2 zcX10_134 ziX10_isPart zsX10_isPart rfl rfl rfl rfl (Nat.le_of_ble_eq_true rfl) (c_X10_isPart hx1 hm0 o1) (fun hr2 => ?_)
  refine zV_if_eq (pc := 5) (tgt := 18) dX10_size_5 (by decide) (inR_b2i _) (fun c4 => ?_) (fun c4 => ?_)
  · replace c4 := b2i_fp c4
    replace h := h.2 c4
    refine zV_iconst (pc := 18) dX10_size_18 ?_
    exact zV_iret (pc := 19) rfl dX10_size_19 (inRd rfl) h
  · replace c4 := b2i_tp c4
    replace h := h.1 c4
    refine zV_iload_n (pc := 8) dX10_size_8 rfl 2 rfl ?_
    refine zV_iconst (pc := 9) dX10_size_9 ?_
    refine zV_bipush (pc := 10) dX10_size_10 (by decide) ?_
    refine zV_callSf (pc := 12) (mc := mX10_in) (As := [.int (iz x2), .int (iz 1), .int (iz 9)]) (rest := []) dX10_size_12 zcX10_114 ztX10_in rfl rfl (Nat.le_of_ble_eq_true rfl) (c_X10_in hx2 (inRd rfl) (inRd rfl)) (fun hr5 => ?_)
    refine zV_if_ne (pc := 15) (tgt := 20) dX10_size_15 (by decide) (inR_b2i _) (fun c7 => ?_) (fun c7 => ?_)
    · replace c7 := b2i_tp c7
      replace h := h.1 c7
      refine zV_aloadr_n (pc := 20) dX10_size_20 rfl 0 rfl ?_
      refine zV_iload_n (pc := 21) dX10_size_21 rfl 1 rfl ?_
      refine zV_iconst (pc := 22) dX10_size_22 ?_
      obtain ⟨o8, h⟩ := h
      obtain ⟨o9, h⟩ := h
      refine zV_callVf (pc := 23) (mc := mX10_its) (As := [.int (iz x1), .int (iz 3)]) (rest := []) dX10_size_23 zcX10_137 ziX10_its zsX10_its rfl rfl rfl rfl (Nat.le_of_ble_eq_true rfl) (c_X10_its (inRd rfl) hx1 hm0 o8 o9) (fun hr10 => ?_)
      refine zV_name (fun v12 e13 => ?_)
      replace h := h v12 e13
      have hrv12 : inR v12 := by rw [e13]; exact hr10
      refine zV_istore_n (pc := 26) (loc' := [(3, .int (iz v12)), (0, rr K 98), (1, .int (iz x1)), (2, .int (iz x2))]) dX10_size_26 rfl (by decide) rfl ?_
      refine zV_aloadr_n (pc := 27) dX10_size_27 rfl 1 rfl ?_
      refine zV_getR (pc := 28) (b := 100) dX10_size_28 zfX10_17 rfl rfl rfl ?_
      refine zV_bipush (pc := 31) dX10_size_31 (by decide) ?_
      refine zV_iload_n (pc := 33) dX10_size_33 rfl 2 rfl ?_
      refine zV_imul (pc := 34) dX10_size_34 ?_
      refine zV_iconst (pc := 35) dX10_size_35 ?_
      refine zV_iadd (pc := 36) dX10_size_36 ?_
      refine zV_iload_n (pc := 37) dX10_size_37 rfl 3 rfl ?_
      obtain ⟨o14, o15, h⟩ := h
      refine zV_iast (pc := 38) dX10_size_38 rfl o14 o15 (inR_ix o14 o15 rfl) hx2 ?_
      refine zV_mem (fun m16 e17 => zV_ok (fun hm16 => ?_))
      replace h := h m16 e17 hm16
      refine zV_iload_n (pc := 39) dX10_size_39 rfl 0 rfl ?_
      exact zV_iret (pc := 40) rfl dX10_size_40 hrv12 h
    · replace c7 := b2i_fn c7
      replace h := h.2 c7
      refine zV_iconst (pc := 18) dX10_size_18 ?_
      exact zV_iret (pc := 19) rfl dX10_size_19 (inRd rfl) h

set_option maxRecDepth 100000 in
set_option maxHeartbeats 4000000 in
theorem vc_X10_breaks_0 {K : zCx} {d : Nat} (x1 : Int) (x2 : Int) (m0 : zM) {Q : Int → zM → Prop} (hx1 : inR x1) (hx2 : inR x2) (h : zok m0 → (0 ≤ m0.1 98 4) ∧ (((0 ≤ x1 ∧ x1 < m0.1 98 4) → ((0 ≤ x2 ∧ x2 ≤ 2) → (0 ≤ 10 * x1 + 4) ∧ ((10 * x1 + 4 < 100) ∧ (∀ v12 : Int, v12 = (m0.1 100 (10 * x1 + 4)) → (0 ≤ ((10 * x1) + 4) ∧ ((10 * x1) + 4) < 100 ∧ (∀ m16 : zM, m16 = sI m0 100 ((10 * x1) + 4) x2 → zok m16 → (Q v12 m16)))))) ∧ (¬ ((0 ≤ x2 ∧ x2 ≤ 2)) → Q (-1) m0)) ∧ (¬ ((0 ≤ x1 ∧ x1 < m0.1 98 4)) → Q (-1) m0))) : zV K mX10_breaks (d + 3) 0 [(0, rr K 98), (1, .int (iz x1)), (2, .int (iz x2))] [] m0 Q := by
  refine zV_ok (fun hm0 => ?_)
  replace h := h hm0
  refine zV_aloadr_n (pc := 0) dX10_breaks_0 rfl 0 rfl ?_
  refine zV_iload_n (pc := 1) dX10_breaks_1 rfl 1 rfl ?_
  obtain ⟨o1, h⟩ := h
  refine zV_callVf (pc := 2) (mc := mX10_isPart) (As := [.int (iz x1)]) (rest := []) dX10_breaks_2 zcX10_134 ziX10_isPart zsX10_isPart rfl rfl rfl rfl (Nat.le_of_ble_eq_true rfl) (c_X10_isPart hx1 hm0 o1) (fun hr2 => ?_)
  refine zV_if_eq (pc := 5) (tgt := 17) dX10_breaks_5 (by decide) (inR_b2i _) (fun c4 => ?_) (fun c4 => ?_)
  · replace c4 := b2i_fp c4
    replace h := h.2 c4
    refine zV_iconst (pc := 17) dX10_breaks_17 ?_
    exact zV_iret (pc := 18) rfl dX10_breaks_18 (inRd rfl) h
  · replace c4 := b2i_tp c4
    replace h := h.1 c4
    refine zV_iload_n (pc := 8) dX10_breaks_8 rfl 2 rfl ?_
    refine zV_iconst (pc := 9) dX10_breaks_9 ?_
    refine zV_iconst (pc := 10) dX10_breaks_10 ?_
    refine zV_callSf (pc := 11) (mc := mX10_in) (As := [.int (iz x2), .int (iz 0), .int (iz 2)]) (rest := []) dX10_breaks_11 zcX10_114 ztX10_in rfl rfl (Nat.le_of_ble_eq_true rfl) (c_X10_in hx2 (inRd rfl) (inRd rfl)) (fun hr5 => ?_)
    refine zV_if_ne (pc := 14) (tgt := 19) dX10_breaks_14 (by decide) (inR_b2i _) (fun c7 => ?_) (fun c7 => ?_)
    · replace c7 := b2i_tp c7
      replace h := h.1 c7
      refine zV_aloadr_n (pc := 19) dX10_breaks_19 rfl 0 rfl ?_
      refine zV_iload_n (pc := 20) dX10_breaks_20 rfl 1 rfl ?_
      refine zV_iconst (pc := 21) dX10_breaks_21 ?_
      obtain ⟨o8, h⟩ := h
      obtain ⟨o9, h⟩ := h
      refine zV_callVf (pc := 22) (mc := mX10_its) (As := [.int (iz x1), .int (iz 4)]) (rest := []) dX10_breaks_22 zcX10_137 ziX10_its zsX10_its rfl rfl rfl rfl (Nat.le_of_ble_eq_true rfl) (c_X10_its (inRd rfl) hx1 hm0 o8 o9) (fun hr10 => ?_)
      refine zV_name (fun v12 e13 => ?_)
      replace h := h v12 e13
      have hrv12 : inR v12 := by rw [e13]; exact hr10
      refine zV_istore_n (pc := 25) (loc' := [(3, .int (iz v12)), (0, rr K 98), (1, .int (iz x1)), (2, .int (iz x2))]) dX10_breaks_25 rfl (by decide) rfl ?_
      refine zV_aloadr_n (pc := 26) dX10_breaks_26 rfl 1 rfl ?_
      refine zV_getR (pc := 27) (b := 100) dX10_breaks_27 zfX10_17 rfl rfl rfl ?_
      refine zV_bipush (pc := 30) dX10_breaks_30 (by decide) ?_
      refine zV_iload_n (pc := 32) dX10_breaks_32 rfl 2 rfl ?_
      refine zV_imul (pc := 33) dX10_breaks_33 ?_
      refine zV_iconst (pc := 34) dX10_breaks_34 ?_
      refine zV_iadd (pc := 35) dX10_breaks_35 ?_
      refine zV_iload_n (pc := 36) dX10_breaks_36 rfl 3 rfl ?_
      obtain ⟨o14, o15, h⟩ := h
      refine zV_iast (pc := 37) dX10_breaks_37 rfl o14 o15 (inR_ix o14 o15 rfl) hx2 ?_
      refine zV_mem (fun m16 e17 => zV_ok (fun hm16 => ?_))
      replace h := h m16 e17 hm16
      refine zV_iload_n (pc := 38) dX10_breaks_38 rfl 0 rfl ?_
      exact zV_iret (pc := 39) rfl dX10_breaks_39 hrv12 h
    · replace c7 := b2i_fn c7
      replace h := h.2 c7
      refine zV_iconst (pc := 17) dX10_breaks_17 ?_
      exact zV_iret (pc := 18) rfl dX10_breaks_18 (inRd rfl) h

set_option maxRecDepth 100000 in
set_option maxHeartbeats 4000000 in
theorem vc_X10_drop_0 {K : zCx} {d : Nat}  (m0 : zM) {Q : Int → zM → Prop}  (h : zok m0 → ((m0.1 98 4) = 0 → Q (-3) m0) ∧ (¬ ((m0.1 98 4) = 0) → inR ((m0.1 98 4) - 1) ∧ (∀ m3 : zM, m3 = sI m0 98 4 ((m0.1 98 4) - 1) → zok m3 → (zV K mX10_drop (d + 1) 24 [(0, rr K 98), (1, .int (iz 0)), (2, .int (iz 0))] [] m3 Q)))) : zV K mX10_drop (d + 1) 0 [(0, rr K 98)] [] m0 Q := by
  refine zV_ok (fun hm0 => ?_)
  replace h := h hm0
  refine zV_aloadr_n (pc := 0) dX10_drop_0 rfl 0 rfl ?_
  refine zV_getI (pc := 1) (kz := 4) dX10_drop_1 zfX10_111 rfl rfl rfl ?_
  refine zV_if_ne (pc := 4) (tgt := 10) dX10_drop_4 (by decide) (hm0 _ _) (fun c1 => ?_) (fun c1 => ?_)
  · skip
    replace h := h.2 c1
    refine zV_aloadr_n (pc := 10) dX10_drop_10 rfl 0 rfl ?_
    refine zV_dup (pc := 11) dX10_drop_11 rfl ?_
    refine zV_getI (pc := 12) (kz := 4) dX10_drop_12 zfX10_111 rfl rfl rfl ?_
    refine zV_iconst (pc := 15) dX10_drop_15 ?_
    refine zV_isub (pc := 16) dX10_drop_16 ?_
    obtain ⟨o2, h⟩ := h
    refine zV_putI (pc := 17) (kz := 4) dX10_drop_17 zpX10_111 rfl rfl rfl o2 rfl rfl ?_
    refine zV_mem (fun m3 e4 => zV_ok (fun hm3 => ?_))
    replace h := h m3 e4 hm3
    refine zV_iconst (pc := 20) dX10_drop_20 ?_
    refine zV_istore_n (pc := 21) (loc' := [(1, .int (iz 0)), (0, rr K 98)]) dX10_drop_21 rfl (by decide) rfl ?_
    refine zV_iconst (pc := 22) dX10_drop_22 ?_
    refine zV_istore_n (pc := 23) (loc' := [(2, .int (iz 0)), (1, .int (iz 0)), (0, rr K 98)]) dX10_drop_23 rfl (by decide) rfl ?_
    exact zV_sub [2, 1, 0] rfl h
  · replace c1 := Classical.not_not.mp c1
    replace h := h.1 c1
    refine zV_bipush (pc := 7) dX10_drop_7 (by decide) ?_
    exact zV_iret (pc := 9) rfl dX10_drop_9 (inRd rfl) h
set_option maxRecDepth 100000 in
set_option maxHeartbeats 4000000 in
theorem vc_X10_drop_24 {K : zCx} {d : Nat} (x1 : Int) (x2 : Int) (m0 : zM) {Q : Int → zM → Prop} (hx1 : inR x1) (hx2 : inR x2) (h : zok m0 → ((m0.1 98 7) ≤ x2 → ∀ m2 : zM, m2 = sI m0 98 7 x1 → zok m2 → (0 ≤ (2 * (m2.1 98 4)) ∧ (2 * (m2.1 98 4)) < 20 ∧ (∀ m6 : zM, m6 = sI m2 101 (2 * (m2.1 98 4)) 0 → zok m6 → (0 ≤ ((2 * (m6.1 98 4)) + 1) ∧ ((2 * (m6.1 98 4)) + 1) < 20 ∧ (∀ m10 : zM, m10 = sI m6 101 ((2 * (m6.1 98 4)) + 1) 0 → zok m10 → (Q (m10.1 98 4) m10)))))) ∧ (¬ ((m0.1 98 7) ≤ x2) → 0 ≤ (2 * x2) ∧ (2 * x2) < 12 ∧ (((m0.1 102 (2 * x2)) = (m0.1 98 4) → zV K mX10_drop (d + 1) 24 [(0, rr K 98), (1, .int (iz x1)), (2, .int (iz (x2 + 1)))] [] m0 Q) ∧ (¬ ((m0.1 102 (2 * x2)) = (m0.1 98 4)) → 0 ≤ (2 * x1) ∧ (2 * x1) < 12 ∧ (∀ m17 : zM, m17 = sI m0 102 (2 * x1) (m0.1 102 (2 * x2)) → zok m17 → (0 ≤ ((2 * x2) + 1) ∧ ((2 * x2) + 1) < 12 ∧ (0 ≤ ((2 * x1) + 1) ∧ ((2 * x1) + 1) < 12 ∧ (∀ m23 : zM, m23 = sI m17 102 ((2 * x1) + 1) (m17.1 102 ((2 * x2) + 1)) → zok m23 → (zV K mX10_drop (d + 1) 24 [(0, rr K 98), (1, .int (iz (x1 + 1))), (2, .int (iz (x2 + 1)))] [] m23 Q))))))))) : zV K mX10_drop (d + 1) 24 [(0, rr K 98), (1, .int (iz x1)), (2, .int (iz x2))] [] m0 Q := by
  refine zV_ok (fun hm0 => ?_)
  replace h := h hm0
  refine zV_iload_n (pc := 24) dX10_drop_24 rfl 2 rfl ?_
  refine zV_aloadr_n (pc := 25) dX10_drop_25 rfl 0 rfl ?_
  refine zV_getI (pc := 26) (kz := 7) dX10_drop_26 zfX10_153 rfl rfl rfl ?_
  refine zV_icmp_ge (pc := 29) (tgt := 92) dX10_drop_29 (by decide) hx2 (hm0 _ _) (fun c1 => ?_) (fun c1 => ?_)
  · skip
    replace h := h.1 c1
    refine zV_aloadr_n (pc := 92) dX10_drop_92 rfl 0 rfl ?_
    refine zV_iload_n (pc := 93) dX10_drop_93 rfl 1 rfl ?_
    refine zV_putI (pc := 94) (kz := 7) dX10_drop_94 zpX10_153 rfl rfl rfl hx1 rfl rfl ?_
    refine zV_mem (fun m2 e3 => zV_ok (fun hm2 => ?_))
    replace h := h m2 e3 hm2
    refine zV_aloadr_n (pc := 97) dX10_drop_97 rfl 0 rfl ?_
    refine zV_getR (pc := 98) (b := 101) dX10_drop_98 zfX10_20 rfl rfl rfl ?_
    refine zV_iconst (pc := 101) dX10_drop_101 ?_
    refine zV_aloadr_n (pc := 102) dX10_drop_102 rfl 0 rfl ?_
    refine zV_getI (pc := 103) (kz := 4) dX10_drop_103 zfX10_111 rfl rfl rfl ?_
    refine zV_imul (pc := 106) dX10_drop_106 ?_
    refine zV_iconst (pc := 107) dX10_drop_107 ?_
    obtain ⟨o4, o5, h⟩ := h
    refine zV_iast (pc := 108) dX10_drop_108 rfl o4 o5 (inR_ix o4 o5 rfl) (inRd rfl) ?_
    refine zV_mem (fun m6 e7 => zV_ok (fun hm6 => ?_))
    replace h := h m6 e7 hm6
    refine zV_aloadr_n (pc := 109) dX10_drop_109 rfl 0 rfl ?_
    refine zV_getR (pc := 110) (b := 101) dX10_drop_110 zfX10_20 rfl rfl rfl ?_
    refine zV_iconst (pc := 113) dX10_drop_113 ?_
    refine zV_aloadr_n (pc := 114) dX10_drop_114 rfl 0 rfl ?_
    refine zV_getI (pc := 115) (kz := 4) dX10_drop_115 zfX10_111 rfl rfl rfl ?_
    refine zV_imul (pc := 118) dX10_drop_118 ?_
    refine zV_iconst (pc := 119) dX10_drop_119 ?_
    refine zV_iadd (pc := 120) dX10_drop_120 ?_
    refine zV_iconst (pc := 121) dX10_drop_121 ?_
    obtain ⟨o8, o9, h⟩ := h
    refine zV_iast (pc := 122) dX10_drop_122 rfl o8 o9 (inR_ix o8 o9 rfl) (inRd rfl) ?_
    refine zV_mem (fun m10 e11 => zV_ok (fun hm10 => ?_))
    replace h := h m10 e11 hm10
    refine zV_aloadr_n (pc := 123) dX10_drop_123 rfl 0 rfl ?_
    refine zV_getI (pc := 124) (kz := 4) dX10_drop_124 zfX10_111 rfl rfl rfl ?_
    exact zV_iret (pc := 127) rfl dX10_drop_127 (hm10 _ _) h
  · skip
    replace h := h.2 c1
    refine zV_aloadr_n (pc := 32) dX10_drop_32 rfl 0 rfl ?_
    refine zV_getR (pc := 33) (b := 102) dX10_drop_33 zfX10_23 rfl rfl rfl ?_
    refine zV_iconst (pc := 36) dX10_drop_36 ?_
    refine zV_iload_n (pc := 37) dX10_drop_37 rfl 2 rfl ?_
    refine zV_imul (pc := 38) dX10_drop_38 ?_
    obtain ⟨o12, o13, h⟩ := h
    refine zV_iald (pc := 39) dX10_drop_39 rfl o12 o13 (inR_ix o12 o13 rfl) ?_
    refine zV_aloadr_n (pc := 40) dX10_drop_40 rfl 0 rfl ?_
    refine zV_getI (pc := 41) (kz := 4) dX10_drop_41 zfX10_111 rfl rfl rfl ?_
    refine zV_icmp_eq (pc := 44) (tgt := 86) dX10_drop_44 (by decide) (hm0 _ _) (hm0 _ _) (fun c14 => ?_) (fun c14 => ?_)
    · skip
      replace h := h.1 c14
      refine zV_iinc (pc := 86) (loc' := [(2, .int (iz (x2 + 1))), (0, rr K 98), (1, .int (iz x1))]) dX10_drop_86 2 rfl (by decide) rfl ?_
      refine zV_goto (pc := 89) (tgt := 24) dX10_drop_89 (by decide) ?_
      exact zV_sub [1, 2, 0] rfl h
    · skip
      replace h := h.2 c14
      refine zV_aloadr_n (pc := 47) dX10_drop_47 rfl 0 rfl ?_
      refine zV_getR (pc := 48) (b := 102) dX10_drop_48 zfX10_23 rfl rfl rfl ?_
      refine zV_iconst (pc := 51) dX10_drop_51 ?_
      refine zV_iload_n (pc := 52) dX10_drop_52 rfl 1 rfl ?_
      refine zV_imul (pc := 53) dX10_drop_53 ?_
      refine zV_aloadr_n (pc := 54) dX10_drop_54 rfl 0 rfl ?_
      refine zV_getR (pc := 55) (b := 102) dX10_drop_55 zfX10_23 rfl rfl rfl ?_
      refine zV_iconst (pc := 58) dX10_drop_58 ?_
      refine zV_iload_n (pc := 59) dX10_drop_59 rfl 2 rfl ?_
      refine zV_imul (pc := 60) dX10_drop_60 ?_
      refine zV_iald (pc := 61) dX10_drop_61 rfl o12 o13 (inR_ix o12 o13 rfl) ?_
      obtain ⟨o15, o16, h⟩ := h
      refine zV_iast (pc := 62) dX10_drop_62 rfl o15 o16 (inR_ix o15 o16 rfl) (hm0 _ _) ?_
      refine zV_mem (fun m17 e18 => zV_ok (fun hm17 => ?_))
      replace h := h m17 e18 hm17
      refine zV_aloadr_n (pc := 63) dX10_drop_63 rfl 0 rfl ?_
      refine zV_getR (pc := 64) (b := 102) dX10_drop_64 zfX10_23 rfl rfl rfl ?_
      refine zV_iconst (pc := 67) dX10_drop_67 ?_
      refine zV_iload_n (pc := 68) dX10_drop_68 rfl 1 rfl ?_
      refine zV_imul (pc := 69) dX10_drop_69 ?_
      refine zV_iconst (pc := 70) dX10_drop_70 ?_
      refine zV_iadd (pc := 71) dX10_drop_71 ?_
      refine zV_aloadr_n (pc := 72) dX10_drop_72 rfl 0 rfl ?_
      refine zV_getR (pc := 73) (b := 102) dX10_drop_73 zfX10_23 rfl rfl rfl ?_
      refine zV_iconst (pc := 76) dX10_drop_76 ?_
      refine zV_iload_n (pc := 77) dX10_drop_77 rfl 2 rfl ?_
      refine zV_imul (pc := 78) dX10_drop_78 ?_
      refine zV_iconst (pc := 79) dX10_drop_79 ?_
      refine zV_iadd (pc := 80) dX10_drop_80 ?_
      obtain ⟨o19, o20, h⟩ := h
      refine zV_iald (pc := 81) dX10_drop_81 rfl o19 o20 (inR_ix o19 o20 rfl) ?_
      obtain ⟨o21, o22, h⟩ := h
      refine zV_iast (pc := 82) dX10_drop_82 rfl o21 o22 (inR_ix o21 o22 rfl) (hm17 _ _) ?_
      refine zV_mem (fun m23 e24 => zV_ok (fun hm23 => ?_))
      replace h := h m23 e24 hm23
      refine zV_iinc (pc := 83) (loc' := [(1, .int (iz (x1 + 1))), (0, rr K 98), (2, .int (iz x2))]) dX10_drop_83 1 rfl (by decide) rfl ?_
      refine zV_iinc (pc := 86) (loc' := [(2, .int (iz (x2 + 1))), (1, .int (iz (x1 + 1))), (0, rr K 98)]) dX10_drop_86 2 rfl (by decide) rfl ?_
      refine zV_goto (pc := 89) (tgt := 24) dX10_drop_89 (by decide) ?_
      exact zV_sub [2, 1, 0] rfl h

set_option maxRecDepth 100000 in
set_option maxHeartbeats 4000000 in
theorem vc_X10_feedAt_0 {K : zCx} {d : Nat} (x1 : Int) (m0 : zM) {Q : Int → zM → Prop} (hx1 : inR x1) (h : zok m0 → ((0 ≤ x1 ∧ x1 ≤ 20) → ∀ v4 : Int, v4 = (m0.1 98 0) → (∀ m6 : zM, m6 = sI m0 98 0 x1 → zok m6 → (Q v4 m6))) ∧ (¬ ((0 ≤ x1 ∧ x1 ≤ 20)) → Q (-1) m0)) : zV K mX10_feedAt (d + 2) 0 [(0, rr K 98), (1, .int (iz x1))] [] m0 Q := by
  refine zV_ok (fun hm0 => ?_)
  replace h := h hm0
  refine zV_iload_n (pc := 0) dX10_feedAt_0 rfl 1 rfl ?_
  refine zV_iconst (pc := 1) dX10_feedAt_1 ?_
  refine zV_bipush (pc := 2) dX10_feedAt_2 (by decide) ?_
  refine zV_callSf (pc := 4) (mc := mX10_in) (As := [.int (iz x1), .int (iz 0), .int (iz 20)]) (rest := []) dX10_feedAt_4 zcX10_114 ztX10_in rfl rfl (Nat.le_of_ble_eq_true rfl) (c_X10_in hx1 (inRd rfl) (inRd rfl)) (fun hr1 => ?_)
  refine zV_if_ne (pc := 7) (tgt := 12) dX10_feedAt_7 (by decide) (inR_b2i _) (fun c3 => ?_) (fun c3 => ?_)
  · replace c3 := b2i_tp c3
    replace h := h.1 c3
    refine zV_aloadr_n (pc := 12) dX10_feedAt_12 rfl 0 rfl ?_
    refine zV_getI (pc := 13) (kz := 0) dX10_feedAt_13 zfX10_7 rfl rfl rfl ?_
    refine zV_name (fun v4 e5 => ?_)
    replace h := h v4 e5
    have hrv4 : inR v4 := by rw [e5]; exact (hm0 _ _)
    refine zV_istore_n (pc := 16) (loc' := [(2, .int (iz v4)), (0, rr K 98), (1, .int (iz x1))]) dX10_feedAt_16 rfl (by decide) rfl ?_
    refine zV_aloadr_n (pc := 17) dX10_feedAt_17 rfl 1 rfl ?_
    refine zV_iload_n (pc := 18) dX10_feedAt_18 rfl 2 rfl ?_
    refine zV_putI (pc := 19) (kz := 0) dX10_feedAt_19 zpX10_7 rfl rfl rfl hx1 rfl rfl ?_
    refine zV_mem (fun m6 e7 => zV_ok (fun hm6 => ?_))
    replace h := h m6 e7 hm6
    refine zV_iload_n (pc := 22) dX10_feedAt_22 rfl 0 rfl ?_
    exact zV_iret (pc := 23) rfl dX10_feedAt_23 hrv4 h
  · replace c3 := b2i_fn c3
    replace h := h.2 c3
    refine zV_iconst (pc := 10) dX10_feedAt_10 ?_
    exact zV_iret (pc := 11) rfl dX10_feedAt_11 (inRd rfl) h

set_option maxRecDepth 100000 in
set_option maxHeartbeats 4000000 in
theorem vc_X10_start_0 {K : zCx} {d : Nat} (x1 : Int) (m0 : zM) {Q : Int → zM → Prop} (hx1 : inR x1) (h : zok m0 → ((0 ≤ x1 ∧ x1 ≤ 9260) → ∀ v4 : Int, v4 = (m0.1 98 1) → (∀ m6 : zM, m6 = sI m0 98 1 x1 → zok m6 → (Q v4 m6))) ∧ (¬ ((0 ≤ x1 ∧ x1 ≤ 9260)) → Q (-1) m0)) : zV K mX10_start (d + 3) 0 [(0, rr K 98), (1, .int (iz x1))] [] m0 Q := by
  refine zV_ok (fun hm0 => ?_)
  replace h := h hm0
  refine zV_iload_n (pc := 0) dX10_start_0 rfl 1 rfl ?_
  refine zV_callSf (pc := 1) (mc := mX10_isState) (As := [.int (iz x1)]) (rest := []) dX10_start_1 zcX10_156 ztX10_isState rfl rfl (Nat.le_of_ble_eq_true rfl) (c_X10_isState hx1) (fun hr1 => ?_)
  refine zV_if_ne (pc := 4) (tgt := 9) dX10_start_4 (by decide) (inR_b2i _) (fun c3 => ?_) (fun c3 => ?_)
  · replace c3 := b2i_tp c3
    replace h := h.1 c3
    refine zV_aloadr_n (pc := 9) dX10_start_9 rfl 0 rfl ?_
    refine zV_getI (pc := 10) (kz := 1) dX10_start_10 zfX10_159 rfl rfl rfl ?_
    refine zV_name (fun v4 e5 => ?_)
    replace h := h v4 e5
    have hrv4 : inR v4 := by rw [e5]; exact (hm0 _ _)
    refine zV_istore_n (pc := 13) (loc' := [(2, .int (iz v4)), (0, rr K 98), (1, .int (iz x1))]) dX10_start_13 rfl (by decide) rfl ?_
    refine zV_aloadr_n (pc := 14) dX10_start_14 rfl 1 rfl ?_
    refine zV_iload_n (pc := 15) dX10_start_15 rfl 2 rfl ?_
    refine zV_putI (pc := 16) (kz := 1) dX10_start_16 zpX10_159 rfl rfl rfl hx1 rfl rfl ?_
    refine zV_mem (fun m6 e7 => zV_ok (fun hm6 => ?_))
    replace h := h m6 e7 hm6
    refine zV_iload_n (pc := 19) dX10_start_19 rfl 0 rfl ?_
    exact zV_iret (pc := 20) rfl dX10_start_20 hrv4 h
  · replace c3 := b2i_fn c3
    replace h := h.2 c3
    refine zV_iconst (pc := 7) dX10_start_7 ?_
    exact zV_iret (pc := 8) rfl dX10_start_8 (inRd rfl) h

set_option maxRecDepth 100000 in
set_option maxHeartbeats 4000000 in
theorem vc_X10_stand_0 {K : zCx} {d : Nat} (x1 : Int) (m0 : zM) {Q : Int → zM → Prop} (hx1 : inR x1) (h : zok m0 → ∀ m1 : zM, m1 = sI m0 106 0 0 → zok m1 → (∀ m3 : zM, m3 = sI m1 106 1 (m1.1 98 0) → zok m3 → (∀ m5 : zM, m5 = sI m3 106 2 (Int.tdiv x1 441) → zok m5 → (∀ m7 : zM, m7 = sI m5 106 3 (Int.tmod (Int.tdiv x1 21) 21) → zok m7 → (∀ m9 : zM, m9 = sI m7 106 4 (Int.tmod x1 21) → zok m9 → (Q 0 m9)))))) : zV K mX10_stand (d + 1) 0 [(0, rr K 98), (1, .int (iz x1))] [] m0 Q := by
  refine zV_ok (fun hm0 => ?_)
  replace h := h hm0
  refine zV_aloadr_n (pc := 0) dX10_stand_0 rfl 0 rfl ?_
  refine zV_getR (pc := 1) (b := 106) dX10_stand_1 zfX10_35 rfl rfl rfl ?_
  refine zV_iconst (pc := 4) dX10_stand_4 ?_
  refine zV_iconst (pc := 5) dX10_stand_5 ?_
  refine zV_iast (pc := 6) dX10_stand_6 rfl (by decide) (by decide) (inRd rfl) (inRd rfl) ?_
  refine zV_mem (fun m1 e2 => zV_ok (fun hm1 => ?_))
  replace h := h m1 e2 hm1
  refine zV_aloadr_n (pc := 7) dX10_stand_7 rfl 0 rfl ?_
  refine zV_getR (pc := 8) (b := 106) dX10_stand_8 zfX10_35 rfl rfl rfl ?_
  refine zV_iconst (pc := 11) dX10_stand_11 ?_
  refine zV_aloadr_n (pc := 12) dX10_stand_12 rfl 0 rfl ?_
  refine zV_getI (pc := 13) (kz := 0) dX10_stand_13 zfX10_7 rfl rfl rfl ?_
  refine zV_iast (pc := 16) dX10_stand_16 rfl (by decide) (by decide) (inRd rfl) (hm1 _ _) ?_
  refine zV_mem (fun m3 e4 => zV_ok (fun hm3 => ?_))
  replace h := h m3 e4 hm3
  refine zV_aloadr_n (pc := 17) dX10_stand_17 rfl 0 rfl ?_
  refine zV_getR (pc := 18) (b := 106) dX10_stand_18 zfX10_35 rfl rfl rfl ?_
  refine zV_iconst (pc := 21) dX10_stand_21 ?_
  refine zV_iload_n (pc := 22) dX10_stand_22 rfl 1 rfl ?_
  refine zV_sipush (pc := 23) dX10_stand_23 (by decide) ?_
  refine zV_idiv (pc := 26) dX10_stand_26 hx1 (inRd rfl) (by decide) (fun q => absurd q.2 (by decide)) ?_
  refine zV_iast (pc := 27) dX10_stand_27 rfl (by decide) (by decide) (inRd rfl) (inR_tdiv hx1 (by decide)) ?_
  refine zV_mem (fun m5 e6 => zV_ok (fun hm5 => ?_))
  replace h := h m5 e6 hm5
  refine zV_aloadr_n (pc := 28) dX10_stand_28 rfl 0 rfl ?_
  refine zV_getR (pc := 29) (b := 106) dX10_stand_29 zfX10_35 rfl rfl rfl ?_
  refine zV_iconst (pc := 32) dX10_stand_32 ?_
  refine zV_iload_n (pc := 33) dX10_stand_33 rfl 1 rfl ?_
  refine zV_bipush (pc := 34) dX10_stand_34 (by decide) ?_
  refine zV_idiv (pc := 36) dX10_stand_36 hx1 (inRd rfl) (by decide) (fun q => absurd q.2 (by decide)) ?_
  refine zV_bipush (pc := 37) dX10_stand_37 (by decide) ?_
  refine zV_irem (pc := 39) dX10_stand_39 (inR_tdiv hx1 (by decide)) (inRd rfl) (by decide) (fun q => absurd q.2 (by decide)) ?_
  refine zV_iast (pc := 40) dX10_stand_40 rfl (by decide) (by decide) (inRd rfl) (inR_tmod (inR_tdiv hx1 (by decide)) (by decide)) ?_
  refine zV_mem (fun m7 e8 => zV_ok (fun hm7 => ?_))
  replace h := h m7 e8 hm7
  refine zV_aloadr_n (pc := 41) dX10_stand_41 rfl 0 rfl ?_
  refine zV_getR (pc := 42) (b := 106) dX10_stand_42 zfX10_35 rfl rfl rfl ?_
  refine zV_iconst (pc := 45) dX10_stand_45 ?_
  refine zV_iload_n (pc := 46) dX10_stand_46 rfl 1 rfl ?_
  refine zV_bipush (pc := 47) dX10_stand_47 (by decide) ?_
  refine zV_irem (pc := 49) dX10_stand_49 hx1 (inRd rfl) (by decide) (fun q => absurd q.2 (by decide)) ?_
  refine zV_iast (pc := 50) dX10_stand_50 rfl (by decide) (by decide) (inRd rfl) (inR_tmod hx1 (by decide)) ?_
  refine zV_mem (fun m9 e10 => zV_ok (fun hm9 => ?_))
  replace h := h m9 e10 hm9
  exact zV_vret (pc := 51) rfl dX10_stand_51 h

set_option maxRecDepth 100000 in
set_option maxHeartbeats 4000000 in
theorem vc_X10_flows_0 {K : zCx} {d : Nat} (x1 : Int) (x2 : Int) (m0 : zM) {Q : Int → zM → Prop} (hx1 : inR x1) (hx2 : inR x2) (h : zok m0 → (0 ≤ 10 * x1 + 0) ∧ ((10 * x1 + 0 < 100) ∧ (∀ v5 : Int, v5 = (m0.1 100 (10 * x1 + 0)) → ((0 ≤ 10 * x1 + 1) ∧ ((10 * x1 + 1 < 100) ∧ (0 ≤ (m0.1 100 (10 * x1 + 1)) ∧ (m0.1 100 (10 * x1 + 1)) < 5 ∧ ((0 ≤ 10 * x1 + 2) ∧ ((10 * x1 + 2 < 100) ∧ (0 ≤ (m0.1 100 (10 * x1 + 2)) ∧ (m0.1 100 (10 * x1 + 2)) < 5 ∧ (∀ v19 : Int, v19 = ((m0.1 106 (m0.1 100 (10 * x1 + 1))) - (m0.1 106 (m0.1 100 (10 * x1 + 2)))) → ((0 ≤ 10 * x1 + 4) ∧ ((10 * x1 + 4 < 100) ∧ (((m0.1 100 (10 * x1 + 4)) ≤ 0 → (v5 = 4 → (v5 = 4 → Q 0 m0) ∧ (¬ (v5 = 4) → (0 ≤ 10 * x1 + 3) ∧ ((10 * x1 + 3 < 100) ∧ (Q (m0.1 100 (10 * x1 + 3)) m0)))) ∧ (¬ (v5 = 4) → (v5 = 5 → (v5 = 4 → Q 0 m0) ∧ (¬ (v5 = 4) → (0 ≤ 10 * x1 + 3) ∧ ((10 * x1 + 3 < 100) ∧ (Q (m0.1 100 (10 * x1 + 3)) m0)))) ∧ (¬ (v5 = 5) → zV K mX10_flows (d + 2) 92 [(0, rr K 98), (1, .int (iz x1)), (2, .int (iz x2)), (3, .int (iz v5)), (4, .int (iz v19))] [] m0 Q))) ∧ (¬ ((m0.1 100 (10 * x1 + 4)) ≤ 0) → (0 ≤ 10 * x1 + 4) ∧ ((10 * x1 + 4 < 100) ∧ (((m0.1 100 (10 * x1 + 4)) = 1 → Q 0 m0) ∧ (¬ ((m0.1 100 (10 * x1 + 4)) = 1) → (v5 = 4 → Q 0 m0) ∧ (¬ (v5 = 4) → inR (40 * v19) ∧ (Q (40 * v19) m0))))))))))))))))))) : zV K mX10_flows (d + 2) 0 [(0, rr K 98), (1, .int (iz x1)), (2, .int (iz x2))] [] m0 Q := by
  refine zV_ok (fun hm0 => ?_)
  replace h := h hm0
  refine zV_aloadr_n (pc := 0) dX10_flows_0 rfl 0 rfl ?_
  refine zV_iload_n (pc := 1) dX10_flows_1 rfl 1 rfl ?_
  refine zV_iconst (pc := 2) dX10_flows_2 ?_
  obtain ⟨o1, h⟩ := h
  obtain ⟨o2, h⟩ := h
  refine zV_callVf (pc := 3) (mc := mX10_its) (As := [.int (iz x1), .int (iz 0)]) (rest := []) dX10_flows_3 zcX10_137 ziX10_its zsX10_its rfl rfl rfl rfl (Nat.le_of_ble_eq_true rfl) (c_X10_its (inRd rfl) hx1 hm0 o1 o2) (fun hr3 => ?_)
  refine zV_name (fun v5 e6 => ?_)
  replace h := h v5 e6
  have hrv5 : inR v5 := by rw [e6]; exact hr3
  refine zV_istore_n (pc := 6) (loc' := [(3, .int (iz v5)), (0, rr K 98), (1, .int (iz x1)), (2, .int (iz x2))]) dX10_flows_6 rfl (by decide) rfl ?_
  refine zV_aloadr_n (pc := 7) dX10_flows_7 rfl 1 rfl ?_
  refine zV_getR (pc := 8) (b := 106) dX10_flows_8 zfX10_35 rfl rfl rfl ?_
  refine zV_aloadr_n (pc := 11) dX10_flows_11 rfl 1 rfl ?_
  refine zV_iload_n (pc := 12) dX10_flows_12 rfl 2 rfl ?_
  refine zV_iconst (pc := 13) dX10_flows_13 ?_
  obtain ⟨o7, h⟩ := h
  obtain ⟨o8, h⟩ := h
  refine zV_callVf (pc := 14) (mc := mX10_its) (As := [.int (iz x1), .int (iz 1)]) (rest := [rr K 106]) dX10_flows_14 zcX10_137 ziX10_its zsX10_its rfl rfl rfl rfl (Nat.le_of_ble_eq_true rfl) (c_X10_its (inRd rfl) hx1 hm0 o7 o8) (fun hr9 => ?_)
  obtain ⟨o11, o12, h⟩ := h
  refine zV_iald (pc := 17) dX10_flows_17 rfl o11 o12 (inR_ix o11 o12 rfl) ?_
  refine zV_aloadr_n (pc := 18) dX10_flows_18 rfl 1 rfl ?_
  refine zV_getR (pc := 19) (b := 106) dX10_flows_19 zfX10_35 rfl rfl rfl ?_
  refine zV_aloadr_n (pc := 22) dX10_flows_22 rfl 1 rfl ?_
  refine zV_iload_n (pc := 23) dX10_flows_23 rfl 2 rfl ?_
  refine zV_iconst (pc := 24) dX10_flows_24 ?_
  obtain ⟨o13, h⟩ := h
  obtain ⟨o14, h⟩ := h
  refine zV_callVf (pc := 25) (mc := mX10_its) (As := [.int (iz x1), .int (iz 2)]) (rest := [rr K 106, .int (iz (m0.1 106 (m0.1 100 (10 * x1 + 1))))]) dX10_flows_25 zcX10_137 ziX10_its zsX10_its rfl rfl rfl rfl (Nat.le_of_ble_eq_true rfl) (c_X10_its (inRd rfl) hx1 hm0 o13 o14) (fun hr15 => ?_)
  obtain ⟨o17, o18, h⟩ := h
  refine zV_iald (pc := 28) dX10_flows_28 rfl o17 o18 (inR_ix o17 o18 rfl) ?_
  refine zV_isub (pc := 29) dX10_flows_29 ?_
  refine zV_name (fun v19 e20 => ?_)
  replace h := h v19 e20
  refine zV_istore (pc := 30) (loc' := [(4, .int (iz v19)), (3, .int (iz v5)), (0, rr K 98), (1, .int (iz x1)), (2, .int (iz x2))]) dX10_flows_30 (by decide) rfl ?_
  refine zV_aloadr_n (pc := 32) dX10_flows_32 rfl 2 rfl ?_
  refine zV_iload_n (pc := 33) dX10_flows_33 rfl 3 rfl ?_
  refine zV_iconst (pc := 34) dX10_flows_34 ?_
  obtain ⟨o21, h⟩ := h
  obtain ⟨o22, h⟩ := h
  refine zV_callVf (pc := 35) (mc := mX10_its) (As := [.int (iz x1), .int (iz 4)]) (rest := []) dX10_flows_35 zcX10_137 ziX10_its zsX10_its rfl rfl rfl rfl (Nat.le_of_ble_eq_true rfl) (c_X10_its (inRd rfl) hx1 hm0 o21 o22) (fun hr23 => ?_)
  refine zV_if_le (pc := 38) (tgt := 66) dX10_flows_38 (by decide) hr23 (fun c25 => ?_) (fun c25 => ?_)
  · skip
    replace h := h.1 c25
    refine zV_iload_n (pc := 66) dX10_flows_66 rfl 1 rfl ?_
    refine zV_iconst (pc := 67) dX10_flows_67 ?_
    refine zV_icmp_eq (pc := 68) (tgt := 76) dX10_flows_68 (by decide) hrv5 (inRd rfl) (fun c26 => ?_) (fun c26 => ?_)
    · skip
      replace h := h.1 c26
      refine zV_iload_n (pc := 76) dX10_flows_76 rfl 1 rfl ?_
      refine zV_iconst (pc := 77) dX10_flows_77 ?_
      refine zV_icmp_ne (pc := 78) (tgt := 85) dX10_flows_78 (by decide) hrv5 (inRd rfl) (fun c27 => ?_) (fun c27 => ?_)
      · skip
        replace h := h.2 c27
        refine zV_aloadr_n (pc := 85) dX10_flows_85 rfl 2 rfl ?_
        refine zV_iload_n (pc := 86) dX10_flows_86 rfl 3 rfl ?_
        refine zV_iconst (pc := 87) dX10_flows_87 ?_
        obtain ⟨o28, h⟩ := h
        obtain ⟨o29, h⟩ := h
        refine zV_callVf (pc := 88) (mc := mX10_its) (As := [.int (iz x1), .int (iz 3)]) (rest := []) dX10_flows_88 zcX10_137 ziX10_its zsX10_its rfl rfl rfl rfl (Nat.le_of_ble_eq_true rfl) (c_X10_its (inRd rfl) hx1 hm0 o28 o29) (fun hr30 => ?_)
        exact zV_iret (pc := 91) rfl dX10_flows_91 hr30 h
      · replace c27 := Classical.not_not.mp c27
        replace h := h.1 c27
        refine zV_iconst (pc := 81) dX10_flows_81 ?_
        refine zV_goto (pc := 82) (tgt := 91) dX10_flows_82 (by decide) ?_
        exact zV_iret (pc := 91) rfl dX10_flows_91 (inRd rfl) h
    · skip
      replace h := h.2 c26
      refine zV_iload_n (pc := 71) dX10_flows_71 rfl 1 rfl ?_
      refine zV_iconst (pc := 72) dX10_flows_72 ?_
      refine zV_icmp_ne (pc := 73) (tgt := 92) dX10_flows_73 (by decide) hrv5 (inRd rfl) (fun c32 => ?_) (fun c32 => ?_)
      · skip
        replace h := h.2 c32
        exact zV_sub [2, 3, 4, 1, 0] rfl h
      · replace c32 := Classical.not_not.mp c32
        replace h := h.1 c32
        refine zV_iload_n (pc := 76) dX10_flows_76 rfl 1 rfl ?_
        refine zV_iconst (pc := 77) dX10_flows_77 ?_
        refine zV_icmp_ne (pc := 78) (tgt := 85) dX10_flows_78 (by decide) hrv5 (inRd rfl) (fun c33 => ?_) (fun c33 => ?_)
        · skip
          replace h := h.2 c33
          refine zV_aloadr_n (pc := 85) dX10_flows_85 rfl 2 rfl ?_
          refine zV_iload_n (pc := 86) dX10_flows_86 rfl 3 rfl ?_
          refine zV_iconst (pc := 87) dX10_flows_87 ?_
          obtain ⟨o34, h⟩ := h
          obtain ⟨o35, h⟩ := h
          refine zV_callVf (pc := 88) (mc := mX10_its) (As := [.int (iz x1), .int (iz 3)]) (rest := []) dX10_flows_88 zcX10_137 ziX10_its zsX10_its rfl rfl rfl rfl (Nat.le_of_ble_eq_true rfl) (c_X10_its (inRd rfl) hx1 hm0 o34 o35) (fun hr36 => ?_)
          exact zV_iret (pc := 91) rfl dX10_flows_91 hr36 h
        · replace c33 := Classical.not_not.mp c33
          replace h := h.1 c33
          refine zV_iconst (pc := 81) dX10_flows_81 ?_
          refine zV_goto (pc := 82) (tgt := 91) dX10_flows_82 (by decide) ?_
          exact zV_iret (pc := 91) rfl dX10_flows_91 (inRd rfl) h
  · skip
    replace h := h.2 c25
    refine zV_aloadr_n (pc := 41) dX10_flows_41 rfl 2 rfl ?_
    refine zV_iload_n (pc := 42) dX10_flows_42 rfl 3 rfl ?_
    refine zV_iconst (pc := 43) dX10_flows_43 ?_
    obtain ⟨o38, h⟩ := h
    obtain ⟨o39, h⟩ := h
    refine zV_callVf (pc := 44) (mc := mX10_its) (As := [.int (iz x1), .int (iz 4)]) (rest := []) dX10_flows_44 zcX10_137 ziX10_its zsX10_its rfl rfl rfl rfl (Nat.le_of_ble_eq_true rfl) (c_X10_its (inRd rfl) hx1 hm0 o38 o39) (fun hr40 => ?_)
    refine zV_iconst (pc := 47) dX10_flows_47 ?_
    refine zV_icmp_eq (pc := 48) (tgt := 56) dX10_flows_48 (by decide) hr40 (inRd rfl) (fun c42 => ?_) (fun c42 => ?_)
    · skip
      replace h := h.1 c42
      refine zV_iconst (pc := 56) dX10_flows_56 ?_
      refine zV_goto (pc := 57) (tgt := 65) dX10_flows_57 (by decide) ?_
      exact zV_iret (pc := 65) rfl dX10_flows_65 (inRd rfl) h
    · skip
      replace h := h.2 c42
      refine zV_iload_n (pc := 51) dX10_flows_51 rfl 1 rfl ?_
      refine zV_iconst (pc := 52) dX10_flows_52 ?_
      refine zV_icmp_ne (pc := 53) (tgt := 60) dX10_flows_53 (by decide) hrv5 (inRd rfl) (fun c43 => ?_) (fun c43 => ?_)
      · skip
        replace h := h.2 c43
        refine zV_bipush (pc := 60) dX10_flows_60 (by decide) ?_
        refine zV_iload (pc := 62) dX10_flows_62 0 rfl ?_
        refine zV_imul (pc := 64) dX10_flows_64 ?_
        obtain ⟨o44, h⟩ := h
        exact zV_iret (pc := 65) rfl dX10_flows_65 o44 h
      · replace c43 := Classical.not_not.mp c43
        replace h := h.1 c43
        refine zV_iconst (pc := 56) dX10_flows_56 ?_
        refine zV_goto (pc := 57) (tgt := 65) dX10_flows_57 (by decide) ?_
        exact zV_iret (pc := 65) rfl dX10_flows_65 (inRd rfl) h
set_option maxRecDepth 100000 in
set_option maxHeartbeats 4000000 in
theorem vc_X10_flows_92 {K : zCx} {d : Nat} (x1 : Int) (x2 : Int) (x3 : Int) (x4 : Int) (m0 : zM) {Q : Int → zM → Prop} (hx1 : inR x1) (hx2 : inR x2) (hx3 : inR x3) (hx4 : inR x4) (h : zok m0 → (0 ≤ 10 * x1 + 5) ∧ ((10 * x1 + 5 < 100) ∧ (∀ v5 : Int, v5 = (if 0 ≤ x4 then x4 else (-x4)) → (0 ≤ ((21 * (m0.1 100 (10 * x1 + 5))) + v5) ∧ ((21 * (m0.1 100 (10 * x1 + 5))) + v5) < 84 ∧ ((0 ≤ 10 * x1 + 6) ∧ ((10 * x1 + 6 < 100) ∧ (∀ v13 : Int, v13 = ((m0.1 99 ((21 * (m0.1 100 (10 * x1 + 5))) + v5)) + ((m0.1 100 (10 * x1 + 6)) * ((Int.tdiv x2 3) - 1))) → (inR v13 ∧ ((v13 < 0 → zV K mX10_flows (d + 2) 154 [(0, rr K 98), (1, .int (iz x1)), (2, .int (iz x2)), (3, .int (iz x3)), (4, .int (iz x4)), (5, .int (iz 0))] [] m0 Q) ∧ (¬ (v13 < 0) → ∀ v17 : Int, v17 = (if x4 = 0 then 0 else v13) → (zV K mX10_flows (d + 2) 154 [(0, rr K 98), (1, .int (iz x1)), (2, .int (iz x2)), (3, .int (iz x3)), (4, .int (iz x4)), (5, .int (iz v17))] [] m0 Q))))))))))) : zV K mX10_flows (d + 2) 92 [(0, rr K 98), (1, .int (iz x1)), (2, .int (iz x2)), (3, .int (iz x3)), (4, .int (iz x4))] [] m0 Q := by
  refine zV_ok (fun hm0 => ?_)
  replace h := h hm0
  refine zV_aloadr_n (pc := 92) dX10_flows_92 rfl 0 rfl ?_
  refine zV_getR (pc := 93) (b := 99) dX10_flows_93 zfX10_13 rfl rfl rfl ?_
  refine zV_bipush (pc := 96) dX10_flows_96 (by decide) ?_
  refine zV_aloadr_n (pc := 98) dX10_flows_98 rfl 0 rfl ?_
  refine zV_iload_n (pc := 99) dX10_flows_99 rfl 1 rfl ?_
  refine zV_iconst (pc := 100) dX10_flows_100 ?_
  obtain ⟨o1, h⟩ := h
  obtain ⟨o2, h⟩ := h
  refine zV_callVf (pc := 101) (mc := mX10_its) (As := [.int (iz x1), .int (iz 5)]) (rest := [.int (iz 21), rr K 99]) dX10_flows_101 zcX10_137 ziX10_its zsX10_its rfl rfl rfl rfl (Nat.le_of_ble_eq_true rfl) (c_X10_its (inRd rfl) hx1 hm0 o1 o2) (fun hr3 => ?_)
  refine zV_imul (pc := 104) dX10_flows_104 ?_
  refine zV_iload (pc := 105) dX10_flows_105 4 rfl ?_
  have key : ∀ v5 : Int, v5 = (if 0 ≤ x4 then x4 else (-x4)) → zV K mX10_flows (d + 2) 118 [(0, rr K 98), (1, .int (iz x1)), (2, .int (iz x2)), (3, .int (iz x3)), (4, .int (iz x4))] [.int (iz v5), .int (iz (21 * (m0.1 100 (10 * x1 + 5)))), rr K 99] m0 Q := by
    intro v5 e6
    replace h := h v5 e6
    refine zV_iadd (pc := 118) dX10_flows_118 ?_
    obtain ⟨o7, o8, h⟩ := h
    refine zV_iald (pc := 119) dX10_flows_119 rfl o7 o8 (inR_ix o7 o8 rfl) ?_
    refine zV_aloadr_n (pc := 120) dX10_flows_120 rfl 0 rfl ?_
    refine zV_iload_n (pc := 121) dX10_flows_121 rfl 1 rfl ?_
    refine zV_bipush (pc := 122) dX10_flows_122 (by decide) ?_
    obtain ⟨o9, h⟩ := h
    obtain ⟨o10, h⟩ := h
    refine zV_callVf (pc := 124) (mc := mX10_its) (As := [.int (iz x1), .int (iz 6)]) (rest := [.int (iz (m0.1 99 ((21 * (m0.1 100 (10 * x1 + 5))) + v5)))]) dX10_flows_124 zcX10_137 ziX10_its zsX10_its rfl rfl rfl rfl (Nat.le_of_ble_eq_true rfl) (c_X10_its (inRd rfl) hx1 hm0 o9 o10) (fun hr11 => ?_)
    refine zV_iload_n (pc := 127) dX10_flows_127 rfl 2 rfl ?_
    refine zV_iconst (pc := 128) dX10_flows_128 ?_
    refine zV_idiv (pc := 129) dX10_flows_129 hx2 (inRd rfl) (by decide) (fun q => absurd q.2 (by decide)) ?_
    refine zV_iconst (pc := 130) dX10_flows_130 ?_
    refine zV_isub (pc := 131) dX10_flows_131 ?_
    refine zV_imul (pc := 132) dX10_flows_132 ?_
    refine zV_iadd (pc := 133) dX10_flows_133 ?_
    refine zV_name (fun v13 e14 => ?_)
    replace h := h v13 e14
    refine zV_istore (pc := 134) (loc' := [(5, .int (iz v13)), (0, rr K 98), (1, .int (iz x1)), (2, .int (iz x2)), (3, .int (iz x3)), (4, .int (iz x4))]) dX10_flows_134 (by decide) rfl ?_
    refine zV_iload (pc := 136) dX10_flows_136 0 rfl ?_
    obtain ⟨o15, h⟩ := h
    refine zV_if_lt (pc := 138) (tgt := 146) dX10_flows_138 (by decide) o15 (fun c16 => ?_) (fun c16 => ?_)
    · skip
      replace h := h.1 c16
      refine zV_iconst (pc := 146) dX10_flows_146 ?_
      refine zV_goto (pc := 147) (tgt := 152) dX10_flows_147 (by decide) ?_
      refine zV_istore (pc := 152) (loc' := [(5, .int (iz 0)), (0, rr K 98), (1, .int (iz x1)), (2, .int (iz x2)), (3, .int (iz x3)), (4, .int (iz x4))]) dX10_flows_152 (by decide) rfl ?_
      exact zV_sub [1, 2, 3, 4, 5, 0] rfl h
    · skip
      replace h := h.2 c16
      refine zV_iload (pc := 141) dX10_flows_141 5 rfl ?_
      have key : ∀ v17 : Int, v17 = (if x4 = 0 then 0 else v13) → zV K mX10_flows (d + 2) 152 [(0, rr K 98), (1, .int (iz x1)), (2, .int (iz x2)), (3, .int (iz x3)), (4, .int (iz x4))] [.int (iz v17)] m0 Q := by
        intro v17 e18
        replace h := h v17 e18
        have hrv17 : inR v17 := by rw [e18]; (repeat' split) <;> first | with_reducible exact o15 | with_reducible exact (inRd rfl)
        refine zV_istore (pc := 152) (loc' := [(5, .int (iz v17)), (0, rr K 98), (1, .int (iz x1)), (2, .int (iz x2)), (3, .int (iz x3)), (4, .int (iz x4))]) dX10_flows_152 (by decide) rfl ?_
        exact zV_sub [1, 2, 3, 4, 5, 0] rfl h
      refine zV_if_ne (pc := 143) (tgt := 150) dX10_flows_143 (by decide) hx4 (fun c19 => ?_) (fun c19 => ?_)
      · skip
        refine zV_iload (pc := 150) dX10_flows_150 0 rfl ?_
        exact zV_sub [1, 2, 3, 4, 5] rfl (key _ (if_neg c19).symm)
      · replace c19 := Classical.not_not.mp c19
        refine zV_iconst (pc := 146) dX10_flows_146 ?_
        refine zV_goto (pc := 147) (tgt := 152) dX10_flows_147 (by decide) ?_
        exact zV_sub [1, 2, 3, 4, 5] rfl (key _ (if_pos c19).symm)
  refine zV_if_ge (pc := 107) (tgt := 116) dX10_flows_107 (by decide) hx4 (fun c20 => ?_) (fun c20 => ?_)
  · skip
    refine zV_iload (pc := 116) dX10_flows_116 4 rfl ?_
    exact zV_sub [0, 1, 2, 3, 4] rfl (key _ (if_pos c20).symm)
  · skip
    refine zV_iload (pc := 110) dX10_flows_110 4 rfl ?_
    refine zV_ineg (pc := 112) dX10_flows_112 ?_
    refine zV_goto (pc := 113) (tgt := 118) dX10_flows_113 (by decide) ?_
    exact zV_sub [0, 1, 2, 3, 4] rfl (key _ (if_neg c20).symm)
set_option maxRecDepth 100000 in
set_option maxHeartbeats 4000000 in
theorem vc_X10_flows_154 {K : zCx} {d : Nat} (x1 : Int) (x2 : Int) (x3 : Int) (x4 : Int) (x5 : Int) (m0 : zM) {Q : Int → zM → Prop} (hx1 : inR x1) (hx2 : inR x2) (hx3 : inR x3) (hx4 : inR x4) (hx5 : inR x5) (h : zok m0 → (x3 = 3 → (0 ≤ 10 * x1 + 9) ∧ ((10 * x1 + 9 < 100) ∧ ((0 ≤ 10 * (m0.1 100 (10 * x1 + 9)) + 3) ∧ ((10 * (m0.1 100 (10 * x1 + 9)) + 3 < 100) ∧ (∀ v16 : Int, v16 = (x5 * (m0.1 100 (10 * (m0.1 100 (10 * x1 + 9)) + 3))) → (zV K mX10_flows (d + 2) 180 [(0, rr K 98), (1, .int (iz x1)), (2, .int (iz x2)), (3, .int (iz x3)), (4, .int (iz x4)), (5, .int (iz v16))] [] m0 Q)))))) ∧ (¬ (x3 = 3) → (0 ≤ 10 * x1 + 3) ∧ ((10 * x1 + 3 < 100) ∧ (∀ v6 : Int, v6 = (x5 * (m0.1 100 (10 * x1 + 3))) → (zV K mX10_flows (d + 2) 180 [(0, rr K 98), (1, .int (iz x1)), (2, .int (iz x2)), (3, .int (iz x3)), (4, .int (iz x4)), (5, .int (iz v6))] [] m0 Q))))) : zV K mX10_flows (d + 2) 154 [(0, rr K 98), (1, .int (iz x1)), (2, .int (iz x2)), (3, .int (iz x3)), (4, .int (iz x4)), (5, .int (iz x5))] [] m0 Q := by
  refine zV_ok (fun hm0 => ?_)
  replace h := h hm0
  refine zV_iload (pc := 154) dX10_flows_154 5 rfl ?_
  refine zV_aloadr_n (pc := 156) dX10_flows_156 rfl 0 rfl ?_
  refine zV_iload_n (pc := 157) dX10_flows_157 rfl 3 rfl ?_
  refine zV_iconst (pc := 158) dX10_flows_158 ?_
  refine zV_icmp_ne (pc := 159) (tgt := 172) dX10_flows_159 (by decide) hx3 (inRd rfl) (fun c1 => ?_) (fun c1 => ?_)
  · skip
    replace h := h.2 c1
    refine zV_iload_n (pc := 172) dX10_flows_172 rfl 1 rfl ?_
    refine zV_iconst (pc := 173) dX10_flows_173 ?_
    obtain ⟨o2, h⟩ := h
    obtain ⟨o3, h⟩ := h
    refine zV_callVf (pc := 174) (mc := mX10_its) (As := [.int (iz x1), .int (iz 3)]) (rest := [.int (iz x5)]) dX10_flows_174 zcX10_137 ziX10_its zsX10_its rfl rfl rfl rfl (Nat.le_of_ble_eq_true rfl) (c_X10_its (inRd rfl) hx1 hm0 o2 o3) (fun hr4 => ?_)
    refine zV_imul (pc := 177) dX10_flows_177 ?_
    refine zV_name (fun v6 e7 => ?_)
    replace h := h v6 e7
    refine zV_istore (pc := 178) (loc' := [(5, .int (iz v6)), (0, rr K 98), (1, .int (iz x1)), (2, .int (iz x2)), (3, .int (iz x3)), (4, .int (iz x4))]) dX10_flows_178 (by decide) rfl ?_
    exact zV_sub [1, 2, 3, 4, 5, 0] rfl h
  · replace c1 := Classical.not_not.mp c1
    replace h := h.1 c1
    refine zV_aloadr_n (pc := 162) dX10_flows_162 rfl 0 rfl ?_
    refine zV_iload_n (pc := 163) dX10_flows_163 rfl 1 rfl ?_
    refine zV_bipush (pc := 164) dX10_flows_164 (by decide) ?_
    obtain ⟨o8, h⟩ := h
    obtain ⟨o9, h⟩ := h
    refine zV_callVf (pc := 166) (mc := mX10_its) (As := [.int (iz x1), .int (iz 9)]) (rest := [rr K 98, .int (iz x5)]) dX10_flows_166 zcX10_137 ziX10_its zsX10_its rfl rfl rfl rfl (Nat.le_of_ble_eq_true rfl) (c_X10_its (inRd rfl) hx1 hm0 o8 o9) (fun hr10 => ?_)
    refine zV_goto (pc := 169) (tgt := 173) dX10_flows_169 (by decide) ?_
    refine zV_iconst (pc := 173) dX10_flows_173 ?_
    obtain ⟨o12, h⟩ := h
    obtain ⟨o13, h⟩ := h
    refine zV_callVf (pc := 174) (mc := mX10_its) (As := [.int (iz (m0.1 100 (10 * x1 + 9))), .int (iz 3)]) (rest := [.int (iz x5)]) dX10_flows_174 zcX10_137 ziX10_its zsX10_its rfl rfl rfl rfl (Nat.le_of_ble_eq_true rfl) (c_X10_its (inRd rfl) hr10 hm0 o12 o13) (fun hr14 => ?_)
    refine zV_imul (pc := 177) dX10_flows_177 ?_
    refine zV_name (fun v16 e17 => ?_)
    replace h := h v16 e17
    refine zV_istore (pc := 178) (loc' := [(5, .int (iz v16)), (0, rr K 98), (1, .int (iz x1)), (2, .int (iz x2)), (3, .int (iz x3)), (4, .int (iz x4))]) dX10_flows_178 (by decide) rfl ?_
    exact zV_sub [1, 2, 3, 4, 5, 0] rfl h
set_option maxRecDepth 100000 in
set_option maxHeartbeats 4000000 in
theorem vc_X10_flows_180 {K : zCx} {d : Nat} (x1 : Int) (x2 : Int) (x3 : Int) (x4 : Int) (x5 : Int) (m0 : zM) {Q : Int → zM → Prop} (hx1 : inR x1) (hx2 : inR x2) (hx3 : inR x3) (hx4 : inR x4) (hx5 : inR x5) (h : zok m0 → (0 ≤ 10 * x1 + 7) ∧ ((10 * x1 + 7 < 100) ∧ (inR (x5 * (10 + (((m0.1 100 (10 * x1 + 7)) - 5) * ((Int.tmod x2 3) - 1)))) ∧ (∀ v6 : Int, v6 = (Int.tdiv (x5 * (10 + (((m0.1 100 (10 * x1 + 7)) - 5) * ((Int.tmod x2 3) - 1)))) 10) → (∀ v8 : Int, v8 = (if 0 ≤ x4 then v6 else (-v6)) → ((x3 = 1 → inR v8 ∧ (Q v8 m0)) ∧ (¬ (x3 = 1) → (0 ≤ 10 * x1 + 8) ∧ ((10 * x1 + 8 < 100) ∧ (0 ≤ (m0.1 100 (10 * x1 + 8)) ∧ (m0.1 100 (10 * x1 + 8)) < 5 ∧ (∀ v17 : Int, v17 = (m0.1 106 (m0.1 100 (10 * x1 + 8))) → (∀ v19 : Int, v19 = (if v17 ≤ 10 then v17 else 10) → (inR (v8 * v19) ∧ (Q (Int.tdiv (v8 * v19) 10) m0))))))))))))) : zV K mX10_flows (d + 2) 180 [(0, rr K 98), (1, .int (iz x1)), (2, .int (iz x2)), (3, .int (iz x3)), (4, .int (iz x4)), (5, .int (iz x5))] [] m0 Q := by
  refine zV_ok (fun hm0 => ?_)
  replace h := h hm0
  refine zV_iload (pc := 180) dX10_flows_180 5 rfl ?_
  refine zV_bipush (pc := 182) dX10_flows_182 (by decide) ?_
  refine zV_aloadr_n (pc := 184) dX10_flows_184 rfl 0 rfl ?_
  refine zV_iload_n (pc := 185) dX10_flows_185 rfl 1 rfl ?_
  refine zV_bipush (pc := 186) dX10_flows_186 (by decide) ?_
  obtain ⟨o1, h⟩ := h
  obtain ⟨o2, h⟩ := h
  refine zV_callVf (pc := 188) (mc := mX10_its) (As := [.int (iz x1), .int (iz 7)]) (rest := [.int (iz 10), .int (iz x5)]) dX10_flows_188 zcX10_137 ziX10_its zsX10_its rfl rfl rfl rfl (Nat.le_of_ble_eq_true rfl) (c_X10_its (inRd rfl) hx1 hm0 o1 o2) (fun hr3 => ?_)
  refine zV_iconst (pc := 191) dX10_flows_191 ?_
  refine zV_isub (pc := 192) dX10_flows_192 ?_
  refine zV_iload_n (pc := 193) dX10_flows_193 rfl 2 rfl ?_
  refine zV_iconst (pc := 194) dX10_flows_194 ?_
  refine zV_irem (pc := 195) dX10_flows_195 hx2 (inRd rfl) (by decide) (fun q => absurd q.2 (by decide)) ?_
  refine zV_iconst (pc := 196) dX10_flows_196 ?_
  refine zV_isub (pc := 197) dX10_flows_197 ?_
  refine zV_imul (pc := 198) dX10_flows_198 ?_
  refine zV_iadd (pc := 199) dX10_flows_199 ?_
  refine zV_imul (pc := 200) dX10_flows_200 ?_
  refine zV_bipush (pc := 201) dX10_flows_201 (by decide) ?_
  obtain ⟨o5, h⟩ := h
  refine zV_idiv (pc := 203) dX10_flows_203 o5 (inRd rfl) (by decide) (fun q => absurd q.2 (by decide)) ?_
  refine zV_name (fun v6 e7 => ?_)
  replace h := h v6 e7
  have hrv6 : inR v6 := by rw [e7]; exact (inR_tdiv o5 (by decide))
  refine zV_istore (pc := 204) (loc' := [(5, .int (iz v6)), (0, rr K 98), (1, .int (iz x1)), (2, .int (iz x2)), (3, .int (iz x3)), (4, .int (iz x4))]) dX10_flows_204 (by decide) rfl ?_
  refine zV_iload (pc := 206) dX10_flows_206 5 rfl ?_
  have key : ∀ v8 : Int, v8 = (if 0 ≤ x4 then v6 else (-v6)) → zV K mX10_flows (d + 2) 219 [(0, rr K 98), (1, .int (iz x1)), (3, .int (iz x3))] [.int (iz v8)] m0 Q := by
    intro v8 e9
    replace h := h v8 e9
    refine zV_istore (pc := 219) (loc' := [(5, .int (iz v8)), (0, rr K 98), (1, .int (iz x1)), (3, .int (iz x3))]) dX10_flows_219 (by decide) rfl ?_
    refine zV_iload_n (pc := 221) dX10_flows_221 rfl 3 rfl ?_
    refine zV_iconst (pc := 222) dX10_flows_222 ?_
    refine zV_icmp_ne (pc := 223) (tgt := 229) dX10_flows_223 (by decide) hx3 (inRd rfl) (fun c10 => ?_) (fun c10 => ?_)
    · skip
      replace h := h.2 c10
      refine zV_aloadr_n (pc := 229) dX10_flows_229 rfl 1 rfl ?_
      refine zV_getR (pc := 230) (b := 106) dX10_flows_230 zfX10_35 rfl rfl rfl ?_
      refine zV_aloadr_n (pc := 233) dX10_flows_233 rfl 1 rfl ?_
      refine zV_iload_n (pc := 234) dX10_flows_234 rfl 2 rfl ?_
      refine zV_bipush (pc := 235) dX10_flows_235 (by decide) ?_
      obtain ⟨o11, h⟩ := h
      obtain ⟨o12, h⟩ := h
      refine zV_callVf (pc := 237) (mc := mX10_its) (As := [.int (iz x1), .int (iz 8)]) (rest := [rr K 106]) dX10_flows_237 zcX10_137 ziX10_its zsX10_its rfl rfl rfl rfl (Nat.le_of_ble_eq_true rfl) (c_X10_its (inRd rfl) hx1 hm0 o11 o12) (fun hr13 => ?_)
      obtain ⟨o15, o16, h⟩ := h
      refine zV_iald (pc := 240) dX10_flows_240 rfl o15 o16 (inR_ix o15 o16 rfl) ?_
      refine zV_name (fun v17 e18 => ?_)
      replace h := h v17 e18
      have hrv17 : inR v17 := by rw [e18]; exact (hm0 _ _)
      refine zV_istore (pc := 241) (loc' := [(6, .int (iz v17)), (5, .int (iz v8)), (0, rr K 98), (1, .int (iz x1)), (3, .int (iz x3))]) dX10_flows_241 (by decide) rfl ?_
      refine zV_iload (pc := 243) dX10_flows_243 1 rfl ?_
      refine zV_iload (pc := 245) dX10_flows_245 0 rfl ?_
      refine zV_bipush (pc := 247) dX10_flows_247 (by decide) ?_
      have key : ∀ v19 : Int, v19 = (if v17 ≤ 10 then v17 else 10) → zV K mX10_flows (d + 2) 259 [] [.int (iz v19), .int (iz v8)] m0 Q := by
        intro v19 e20
        replace h := h v19 e20
        have hrv19 : inR v19 := by rw [e20]; (repeat' split) <;> first | with_reducible exact hrv17 | with_reducible exact (inRd rfl)
        refine zV_imul (pc := 259) dX10_flows_259 ?_
        refine zV_bipush (pc := 260) dX10_flows_260 (by decide) ?_
        obtain ⟨o21, h⟩ := h
        refine zV_idiv (pc := 262) dX10_flows_262 o21 (inRd rfl) (by decide) (fun q => absurd q.2 (by decide)) ?_
        exact zV_iret (pc := 263) rfl dX10_flows_263 (inR_tdiv o21 (by decide)) h
      refine zV_icmp_le (pc := 249) (tgt := 257) dX10_flows_249 (by decide) hrv17 (inRd rfl) (fun c22 => ?_) (fun c22 => ?_)
      · skip
        refine zV_iload (pc := 257) dX10_flows_257 0 rfl ?_
        exact zV_sub [] rfl (key _ (if_pos c22).symm)
      · skip
        refine zV_bipush (pc := 252) dX10_flows_252 (by decide) ?_
        refine zV_goto (pc := 254) (tgt := 259) dX10_flows_254 (by decide) ?_
        exact zV_sub [] rfl (key _ (if_neg c22).symm)
    · replace c10 := Classical.not_not.mp c10
      replace h := h.1 c10
      refine zV_iload (pc := 226) dX10_flows_226 0 rfl ?_
      obtain ⟨o23, h⟩ := h
      exact zV_iret (pc := 228) rfl dX10_flows_228 o23 h
  refine zV_if_ge (pc := 208) (tgt := 217) dX10_flows_208 (by decide) hx4 (fun c24 => ?_) (fun c24 => ?_)
  · skip
    refine zV_iload (pc := 217) dX10_flows_217 0 rfl ?_
    exact zV_sub [1, 2, 4] rfl (key _ (if_pos c24).symm)
  · skip
    refine zV_iload (pc := 211) dX10_flows_211 0 rfl ?_
    refine zV_ineg (pc := 213) dX10_flows_213 ?_
    refine zV_goto (pc := 214) (tgt := 219) dX10_flows_214 (by decide) ?_
    exact zV_sub [1, 2, 4] rfl (key _ (if_neg c24).symm)

set_option maxRecDepth 100000 in
set_option maxHeartbeats 4000000 in
theorem vc_X10_flow_0 {K : zCx} {d : Nat} (x1 : Int) (x2 : Int) (x3 : Int) (m0 : zM) {Q : Int → zM → Prop} (hx1 : inR x1) (hx2 : inR x2) (hx3 : inR x3) (h : zok m0 → (0 ≤ m0.1 98 4) ∧ (((0 ≤ x1 ∧ x1 < m0.1 98 4) → ((0 ≤ x2 ∧ x2 ≤ 9260) → ((0 ≤ x3 ∧ x3 ≤ 8) → zCt K (d + 2) mX10_stand [rr K 98, .int (iz x2)] m0 (fun r11 m12 => inR r11 → zok m12 → zCt K (d + 2) mX10_flows [rr K 98, .int (iz x1), .int (iz x3)] m12 (fun r13 m14 => inR r13 → zok m14 → Q r13 m14))) ∧ (¬ ((0 ≤ x3 ∧ x3 ≤ 8)) → Q (-999999) m0)) ∧ (¬ ((0 ≤ x2 ∧ x2 ≤ 9260)) → Q (-999999) m0)) ∧ (¬ ((0 ≤ x1 ∧ x1 < m0.1 98 4)) → Q (-999999) m0))) : zV K mX10_flow (d + 3) 0 [(0, rr K 98), (1, .int (iz x1)), (2, .int (iz x2)), (3, .int (iz x3))] [] m0 Q := by
  refine zV_ok (fun hm0 => ?_)
  replace h := h hm0
  refine zV_aloadr_n (pc := 0) dX10_flow_0 rfl 0 rfl ?_
  refine zV_iload_n (pc := 1) dX10_flow_1 rfl 1 rfl ?_
  obtain ⟨o1, h⟩ := h
  refine zV_callVf (pc := 2) (mc := mX10_isPart) (As := [.int (iz x1)]) (rest := []) dX10_flow_2 zcX10_134 ziX10_isPart zsX10_isPart rfl rfl rfl rfl (Nat.le_of_ble_eq_true rfl) (c_X10_isPart hx1 hm0 o1) (fun hr2 => ?_)
  refine zV_if_eq (pc := 5) (tgt := 22) dX10_flow_5 (by decide) (inR_b2i _) (fun c4 => ?_) (fun c4 => ?_)
  · replace c4 := b2i_fp c4
    replace h := h.2 c4
    refine zV_ldc (pc := 22) (v := -999999) dX10_flow_22 (zmem 1425 (by decide +kernel) (by decide +kernel)) ?_
    exact zV_iret (pc := 24) rfl dX10_flow_24 (inRd rfl) h
  · replace c4 := b2i_tp c4
    replace h := h.1 c4
    refine zV_iload_n (pc := 8) dX10_flow_8 rfl 2 rfl ?_
    refine zV_callSf (pc := 9) (mc := mX10_isState) (As := [.int (iz x2)]) (rest := []) dX10_flow_9 zcX10_156 ztX10_isState rfl rfl (Nat.le_of_ble_eq_true rfl) (c_X10_isState hx2) (fun hr5 => ?_)
    refine zV_if_eq (pc := 12) (tgt := 22) dX10_flow_12 (by decide) (inR_b2i _) (fun c7 => ?_) (fun c7 => ?_)
    · replace c7 := b2i_fp c7
      replace h := h.2 c7
      refine zV_ldc (pc := 22) (v := -999999) dX10_flow_22 (zmem 1425 (by decide +kernel) (by decide +kernel)) ?_
      exact zV_iret (pc := 24) rfl dX10_flow_24 (inRd rfl) h
    · replace c7 := b2i_tp c7
      replace h := h.1 c7
      refine zV_iload_n (pc := 15) dX10_flow_15 rfl 3 rfl ?_
      refine zV_callSf (pc := 16) (mc := mX10_isCorner) (As := [.int (iz x3)]) (rest := []) dX10_flow_16 zcX10_162 ztX10_isCorner rfl rfl (Nat.le_of_ble_eq_true rfl) (c_X10_isCorner hx3) (fun hr8 => ?_)
      refine zV_if_ne (pc := 19) (tgt := 25) dX10_flow_19 (by decide) (inR_b2i _) (fun c10 => ?_) (fun c10 => ?_)
      · replace c10 := b2i_tp c10
        replace h := h.1 c10
        refine zV_aloadr_n (pc := 25) dX10_flow_25 rfl 0 rfl ?_
        refine zV_iload_n (pc := 26) dX10_flow_26 rfl 2 rfl ?_
        refine zV_callV (pc := 27) (mc := mX10_stand) (As := [.int (iz x2)]) (rest := []) dX10_flow_27 zcX10_166 ziX10_stand zsX10_stand rfl rfl rfl rfl (Nat.le_of_ble_eq_true rfl) h (fun r11 m12 hr11 h => zV_ok (fun hm12 => ?_))
        replace h := h hr11 hm12
        refine zV_aloadr_n (pc := 30) dX10_flow_30 rfl 0 rfl ?_
        refine zV_iload_n (pc := 31) dX10_flow_31 rfl 1 rfl ?_
        refine zV_iload_n (pc := 32) dX10_flow_32 rfl 3 rfl ?_
        refine zV_callV (pc := 33) (mc := mX10_flows) (As := [.int (iz x1), .int (iz x3)]) (rest := []) dX10_flow_33 zcX10_170 ziX10_flows zsX10_flows rfl rfl rfl rfl (Nat.le_of_ble_eq_true rfl) h (fun r13 m14 hr13 h => zV_ok (fun hm14 => ?_))
        replace h := h hr13 hm14
        exact zV_iret (pc := 36) rfl dX10_flow_36 hr13 h
      · replace c10 := b2i_fn c10
        replace h := h.2 c10
        refine zV_ldc (pc := 22) (v := -999999) dX10_flow_22 (zmem 1425 (by decide +kernel) (by decide +kernel)) ?_
        exact zV_iret (pc := 24) rfl dX10_flow_24 (inRd rfl) h

set_option maxRecDepth 100000 in
set_option maxHeartbeats 4000000 in
theorem vc_X10_ticks_0 {K : zCx} {d : Nat} (x1 : Int) (x2 : Int) (m0 : zM) {Q : Int → zM → Prop} (hx1 : inR x1) (hx2 : inR x2) (h : zok m0 → zCt K (d + 2) mX10_stand [rr K 98, .int (iz x1)] m0 (fun r1 m2 => inR r1 → zok m2 → zV K mX10_ticks (d + 3) 7 [(0, rr K 98), (2, .int (iz x2)), (3, .int (iz 0))] [] m2 Q)) : zV K mX10_ticks (d + 3) 0 [(0, rr K 98), (1, .int (iz x1)), (2, .int (iz x2))] [] m0 Q := by
  refine zV_ok (fun hm0 => ?_)
  replace h := h hm0
  refine zV_aloadr_n (pc := 0) dX10_ticks_0 rfl 0 rfl ?_
  refine zV_iload_n (pc := 1) dX10_ticks_1 rfl 1 rfl ?_
  refine zV_callV (pc := 2) (mc := mX10_stand) (As := [.int (iz x1)]) (rest := []) dX10_ticks_2 zcX10_166 ziX10_stand zsX10_stand rfl rfl rfl rfl (Nat.le_of_ble_eq_true rfl) h (fun r1 m2 hr1 h => zV_ok (fun hm2 => ?_))
  replace h := h hr1 hm2
  refine zV_iconst (pc := 5) dX10_ticks_5 ?_
  refine zV_istore_n (pc := 6) (loc' := [(3, .int (iz 0)), (0, rr K 98), (1, .int (iz x1)), (2, .int (iz x2))]) dX10_ticks_6 rfl (by decide) rfl ?_
  exact zV_sub [1, 3, 0] rfl h
set_option maxRecDepth 100000 in
set_option maxHeartbeats 4000000 in
theorem vc_X10_ticks_7 {K : zCx} {d : Nat} (x2 : Int) (x3 : Int) (m0 : zM) {Q : Int → zM → Prop} (hx2 : inR x2) (hx3 : inR x3) (h : zok m0 → (5 ≤ x3 → zV K mX10_ticks (d + 3) 34 [(0, rr K 98), (2, .int (iz x2)), (3, .int (iz 0))] [] m0 Q) ∧ (¬ (5 ≤ x3) → 0 ≤ x3 ∧ x3 < 5 ∧ (∀ m4 : zM, m4 = sI m0 107 x3 0 → zok m4 → (∀ m6 : zM, m6 = sI m4 108 x3 4 → zok m6 → (zV K mX10_ticks (d + 3) 7 [(0, rr K 98), (2, .int (iz x2)), (3, .int (iz (x3 + 1)))] [] m6 Q))))) : zV K mX10_ticks (d + 3) 7 [(0, rr K 98), (2, .int (iz x2)), (3, .int (iz x3))] [] m0 Q := by
  refine zV_ok (fun hm0 => ?_)
  replace h := h hm0
  refine zV_iload_n (pc := 7) dX10_ticks_7 rfl 2 rfl ?_
  refine zV_iconst (pc := 8) dX10_ticks_8 ?_
  refine zV_icmp_ge (pc := 9) (tgt := 32) dX10_ticks_9 (by decide) hx3 (inRd rfl) (fun c1 => ?_) (fun c1 => ?_)
  · skip
    replace h := h.1 c1
    refine zV_iconst (pc := 32) dX10_ticks_32 ?_
    refine zV_istore_n (pc := 33) (loc' := [(3, .int (iz 0)), (0, rr K 98), (2, .int (iz x2))]) dX10_ticks_33 rfl (by decide) rfl ?_
    exact zV_sub [1, 2, 0] rfl h
  · skip
    replace h := h.2 c1
    refine zV_aloadr_n (pc := 12) dX10_ticks_12 rfl 0 rfl ?_
    refine zV_getR (pc := 13) (b := 107) dX10_ticks_13 zfX10_38 rfl rfl rfl ?_
    refine zV_iload_n (pc := 16) dX10_ticks_16 rfl 2 rfl ?_
    refine zV_iconst (pc := 17) dX10_ticks_17 ?_
    obtain ⟨o2, o3, h⟩ := h
    refine zV_iast (pc := 18) dX10_ticks_18 rfl o2 o3 (inR_ix o2 o3 rfl) (inRd rfl) ?_
    refine zV_mem (fun m4 e5 => zV_ok (fun hm4 => ?_))
    replace h := h m4 e5 hm4
    refine zV_aloadr_n (pc := 19) dX10_ticks_19 rfl 0 rfl ?_
    refine zV_getR (pc := 20) (b := 108) dX10_ticks_20 zfX10_41 rfl rfl rfl ?_
    refine zV_iload_n (pc := 23) dX10_ticks_23 rfl 2 rfl ?_
    refine zV_iconst (pc := 24) dX10_ticks_24 ?_
    refine zV_iast (pc := 25) dX10_ticks_25 rfl o2 o3 (inR_ix o2 o3 rfl) (inRd rfl) ?_
    refine zV_mem (fun m6 e7 => zV_ok (fun hm6 => ?_))
    replace h := h m6 e7 hm6
    refine zV_iinc (pc := 26) (loc' := [(3, .int (iz (x3 + 1))), (0, rr K 98), (2, .int (iz x2))]) dX10_ticks_26 2 rfl (by decide) rfl ?_
    refine zV_goto (pc := 29) (tgt := 7) dX10_ticks_29 (by decide) ?_
    exact zV_sub [1, 2, 0] rfl h
set_option maxRecDepth 100000 in
set_option maxHeartbeats 4000000 in
theorem vc_X10_ticks_34 {K : zCx} {d : Nat} (x2 : Int) (x3 : Int) (m0 : zM) {Q : Int → zM → Prop} (hx2 : inR x2) (hx3 : inR x3) (h : zok m0 → ((m0.1 98 4) ≤ x3 → zV K mX10_ticks (d + 3) 156 [(0, rr K 98), (3, .int (iz 0)), (4, .int (iz 2))] [] m0 Q) ∧ (¬ ((m0.1 98 4) ≤ x3) → zCt K (d + 2) mX10_flows [rr K 98, .int (iz x3), .int (iz x2)] m0 (fun r2 m3 => inR r2 → zok m3 → (0 ≤ 10 * x3 + 1) ∧ ((10 * x3 + 1 < 100) ∧ (∀ v8 : Int, v8 = (m3.1 100 (10 * x3 + 1)) → ((0 ≤ 10 * x3 + 2) ∧ ((10 * x3 + 2 < 100) ∧ (∀ v14 : Int, v14 = (m3.1 100 (10 * x3 + 2)) → (0 ≤ v8 ∧ v8 < 5 ∧ (inR ((m3.1 107 v8) - r2) ∧ (∀ m19 : zM, m19 = sI m3 107 v8 ((m3.1 107 v8) - r2) → zok m19 → (0 ≤ v14 ∧ v14 < 5 ∧ (inR ((m19.1 107 v14) + r2) ∧ (∀ m24 : zM, m24 = sI m19 107 v14 ((m19.1 107 v14) + r2) → zok m24 → ((0 ≤ 10 * x3 + 0) ∧ ((10 * x3 + 0 < 100) ∧ (((m24.1 100 (10 * x3 + 0)) = 4 → (0 ≤ 10 * x3 + 4) ∧ ((10 * x3 + 4 < 100) ∧ (((m24.1 100 (10 * x3 + 4)) = 0 → (0 ≤ 10 * x3 + 3) ∧ ((10 * x3 + 3 < 100) ∧ (∀ v52 : Int, v52 = (m24.1 100 (10 * x3 + 3)) → (inR ((m24.1 108 v8) + v52) ∧ (∀ m55 : zM, m55 = sI m24 108 v8 ((m24.1 108 v8) + v52) → zok m55 → (inR ((m55.1 108 v14) + v52) ∧ (∀ m58 : zM, m58 = sI m55 108 v14 ((m55.1 108 v14) + v52) → zok m58 → (zV K mX10_ticks (d + 3) 34 [(0, rr K 98), (2, .int (iz x2)), (3, .int (iz (x3 + 1)))] [] m58 Q)))))))) ∧ (¬ ((m24.1 100 (10 * x3 + 4)) = 0) → inR ((m24.1 108 v8) + 0) ∧ (∀ m43 : zM, m43 = sI m24 108 v8 ((m24.1 108 v8) + 0) → zok m43 → (inR ((m43.1 108 v14) + 0) ∧ (∀ m46 : zM, m46 = sI m43 108 v14 ((m43.1 108 v14) + 0) → zok m46 → (zV K mX10_ticks (d + 3) 34 [(0, rr K 98), (2, .int (iz x2)), (3, .int (iz (x3 + 1)))] [] m46 Q)))))))) ∧ (¬ ((m24.1 100 (10 * x3 + 0)) = 4) → inR ((m24.1 108 v8) + 0) ∧ (∀ m32 : zM, m32 = sI m24 108 v8 ((m24.1 108 v8) + 0) → zok m32 → (inR ((m32.1 108 v14) + 0) ∧ (∀ m35 : zM, m35 = sI m32 108 v14 ((m32.1 108 v14) + 0) → zok m35 → (zV K mX10_ticks (d + 3) 34 [(0, rr K 98), (2, .int (iz x2)), (3, .int (iz (x3 + 1)))] [] m35 Q)))))))))))))))))))))) : zV K mX10_ticks (d + 3) 34 [(0, rr K 98), (2, .int (iz x2)), (3, .int (iz x3))] [] m0 Q := by
  refine zV_ok (fun hm0 => ?_)
  replace h := h hm0
  refine zV_iload_n (pc := 34) dX10_ticks_34 rfl 2 rfl ?_
  refine zV_aloadr_n (pc := 35) dX10_ticks_35 rfl 0 rfl ?_
  refine zV_getI (pc := 36) (kz := 4) dX10_ticks_36 zfX10_111 rfl rfl rfl ?_
  refine zV_icmp_ge (pc := 39) (tgt := 151) dX10_ticks_39 (by decide) hx3 (hm0 _ _) (fun c1 => ?_) (fun c1 => ?_)
  · skip
    replace h := h.1 c1
    refine zV_iconst (pc := 151) dX10_ticks_151 ?_
    refine zV_istore_n (pc := 152) (loc' := [(3, .int (iz 0)), (0, rr K 98), (2, .int (iz x2))]) dX10_ticks_152 rfl (by decide) rfl ?_
    refine zV_iconst (pc := 153) dX10_ticks_153 ?_
    refine zV_istore (pc := 154) (loc' := [(4, .int (iz 2)), (3, .int (iz 0)), (0, rr K 98), (2, .int (iz x2))]) dX10_ticks_154 (by decide) rfl ?_
    exact zV_sub [2, 1, 0] rfl h
  · skip
    replace h := h.2 c1
    refine zV_aloadr_n (pc := 42) dX10_ticks_42 rfl 0 rfl ?_
    refine zV_iload_n (pc := 43) dX10_ticks_43 rfl 2 rfl ?_
    refine zV_iload_n (pc := 44) dX10_ticks_44 rfl 1 rfl ?_
    refine zV_callV (pc := 45) (mc := mX10_flows) (As := [.int (iz x3), .int (iz x2)]) (rest := []) dX10_ticks_45 zcX10_170 ziX10_flows zsX10_flows rfl rfl rfl rfl (Nat.le_of_ble_eq_true rfl) h (fun r2 m3 hr2 h => zV_ok (fun hm3 => ?_))
    replace h := h hr2 hm3
    refine zV_istore (pc := 48) (loc' := [(4, .int (iz r2)), (0, rr K 98), (2, .int (iz x2)), (3, .int (iz x3))]) dX10_ticks_48 (by decide) rfl ?_
    refine zV_aloadr_n (pc := 50) dX10_ticks_50 rfl 1 rfl ?_
    refine zV_iload_n (pc := 51) dX10_ticks_51 rfl 3 rfl ?_
    refine zV_iconst (pc := 52) dX10_ticks_52 ?_
    obtain ⟨o4, h⟩ := h
    obtain ⟨o5, h⟩ := h
    refine zV_callVf (pc := 53) (mc := mX10_its) (As := [.int (iz x3), .int (iz 1)]) (rest := []) dX10_ticks_53 zcX10_137 ziX10_its zsX10_its rfl rfl rfl rfl (Nat.le_of_ble_eq_true rfl) (c_X10_its (inRd rfl) hx3 hm3 o4 o5) (fun hr6 => ?_)
    refine zV_name (fun v8 e9 => ?_)
    replace h := h v8 e9
    have hrv8 : inR v8 := by rw [e9]; exact hr6
    refine zV_istore (pc := 56) (loc' := [(5, .int (iz v8)), (4, .int (iz r2)), (0, rr K 98), (2, .int (iz x2)), (3, .int (iz x3))]) dX10_ticks_56 (by decide) rfl ?_
    refine zV_aloadr_n (pc := 58) dX10_ticks_58 rfl 2 rfl ?_
    refine zV_iload_n (pc := 59) dX10_ticks_59 rfl 4 rfl ?_
    refine zV_iconst (pc := 60) dX10_ticks_60 ?_
    obtain ⟨o10, h⟩ := h
    obtain ⟨o11, h⟩ := h
    refine zV_callVf (pc := 61) (mc := mX10_its) (As := [.int (iz x3), .int (iz 2)]) (rest := []) dX10_ticks_61 zcX10_137 ziX10_its zsX10_its rfl rfl rfl rfl (Nat.le_of_ble_eq_true rfl) (c_X10_its (inRd rfl) hx3 hm3 o10 o11) (fun hr12 => ?_)
    refine zV_name (fun v14 e15 => ?_)
    replace h := h v14 e15
    have hrv14 : inR v14 := by rw [e15]; exact hr12
    refine zV_istore (pc := 64) (loc' := [(6, .int (iz v14)), (5, .int (iz v8)), (4, .int (iz r2)), (0, rr K 98), (2, .int (iz x2)), (3, .int (iz x3))]) dX10_ticks_64 (by decide) rfl ?_
    refine zV_aloadr_n (pc := 66) dX10_ticks_66 rfl 3 rfl ?_
    refine zV_getR (pc := 67) (b := 107) dX10_ticks_67 zfX10_38 rfl rfl rfl ?_
    refine zV_iload (pc := 70) dX10_ticks_70 1 rfl ?_
    refine zV_dup2 (pc := 72) dX10_ticks_72 rfl rfl ?_
    obtain ⟨o16, o17, h⟩ := h
    refine zV_iald (pc := 73) dX10_ticks_73 rfl o16 o17 (inR_ix o16 o17 rfl) ?_
    refine zV_iload (pc := 74) dX10_ticks_74 2 rfl ?_
    refine zV_isub (pc := 76) dX10_ticks_76 ?_
    obtain ⟨o18, h⟩ := h
    refine zV_iast (pc := 77) dX10_ticks_77 rfl o16 o17 (inR_ix o16 o17 rfl) o18 ?_
    refine zV_mem (fun m19 e20 => zV_ok (fun hm19 => ?_))
    replace h := h m19 e20 hm19
    refine zV_aloadr_n (pc := 78) dX10_ticks_78 rfl 3 rfl ?_
    refine zV_getR (pc := 79) (b := 107) dX10_ticks_79 zfX10_38 rfl rfl rfl ?_
    refine zV_iload (pc := 82) dX10_ticks_82 0 rfl ?_
    refine zV_dup2 (pc := 84) dX10_ticks_84 rfl rfl ?_
    obtain ⟨o21, o22, h⟩ := h
    refine zV_iald (pc := 85) dX10_ticks_85 rfl o21 o22 (inR_ix o21 o22 rfl) ?_
    refine zV_iload (pc := 86) dX10_ticks_86 2 rfl ?_
    refine zV_iadd (pc := 88) dX10_ticks_88 ?_
    obtain ⟨o23, h⟩ := h
    refine zV_iast (pc := 89) dX10_ticks_89 rfl o21 o22 (inR_ix o21 o22 rfl) o23 ?_
    refine zV_mem (fun m24 e25 => zV_ok (fun hm24 => ?_))
    replace h := h m24 e25 hm24
    refine zV_aloadr_n (pc := 90) dX10_ticks_90 rfl 3 rfl ?_
    refine zV_iload_n (pc := 91) dX10_ticks_91 rfl 5 rfl ?_
    refine zV_iconst (pc := 92) dX10_ticks_92 ?_
    obtain ⟨o26, h⟩ := h
    obtain ⟨o27, h⟩ := h
    refine zV_callVf (pc := 93) (mc := mX10_its) (As := [.int (iz x3), .int (iz 0)]) (rest := []) dX10_ticks_93 zcX10_137 ziX10_its zsX10_its rfl rfl rfl rfl (Nat.le_of_ble_eq_true rfl) (c_X10_its (inRd rfl) hx3 hm24 o26 o27) (fun hr28 => ?_)
    refine zV_iconst (pc := 96) dX10_ticks_96 ?_
    refine zV_icmp_ne (pc := 97) (tgt := 118) dX10_ticks_97 (by decide) hr28 (inRd rfl) (fun c30 => ?_) (fun c30 => ?_)
    · skip
      replace h := h.2 c30
      refine zV_iconst (pc := 118) dX10_ticks_118 ?_
      refine zV_istore (pc := 119) (loc' := [(7, .int (iz 0)), (6, .int (iz v14)), (5, .int (iz v8)), (4, .int (iz r2)), (0, rr K 98), (2, .int (iz x2)), (3, .int (iz x3))]) dX10_ticks_119 (by decide) rfl ?_
      refine zV_aloadr_n (pc := 121) dX10_ticks_121 rfl 4 rfl ?_
      refine zV_getR (pc := 122) (b := 108) dX10_ticks_122 zfX10_41 rfl rfl rfl ?_
      refine zV_iload (pc := 125) dX10_ticks_125 2 rfl ?_
      refine zV_dup2 (pc := 127) dX10_ticks_127 rfl rfl ?_
      refine zV_iald (pc := 128) dX10_ticks_128 rfl o16 o17 (inR_ix o16 o17 rfl) ?_
      refine zV_iload (pc := 129) dX10_ticks_129 0 rfl ?_
      refine zV_iadd (pc := 131) dX10_ticks_131 ?_
      obtain ⟨o31, h⟩ := h
      refine zV_iast (pc := 132) dX10_ticks_132 rfl o16 o17 (inR_ix o16 o17 rfl) o31 ?_
      refine zV_mem (fun m32 e33 => zV_ok (fun hm32 => ?_))
      replace h := h m32 e33 hm32
      refine zV_aloadr_n (pc := 133) dX10_ticks_133 rfl 4 rfl ?_
      refine zV_getR (pc := 134) (b := 108) dX10_ticks_134 zfX10_41 rfl rfl rfl ?_
      refine zV_iload (pc := 137) dX10_ticks_137 1 rfl ?_
      refine zV_dup2 (pc := 139) dX10_ticks_139 rfl rfl ?_
      refine zV_iald (pc := 140) dX10_ticks_140 rfl o21 o22 (inR_ix o21 o22 rfl) ?_
      refine zV_iload (pc := 141) dX10_ticks_141 0 rfl ?_
      refine zV_iadd (pc := 143) dX10_ticks_143 ?_
      obtain ⟨o34, h⟩ := h
      refine zV_iast (pc := 144) dX10_ticks_144 rfl o21 o22 (inR_ix o21 o22 rfl) o34 ?_
      refine zV_mem (fun m35 e36 => zV_ok (fun hm35 => ?_))
      replace h := h m35 e36 hm35
      refine zV_iinc (pc := 145) (loc' := [(3, .int (iz (x3 + 1))), (7, .int (iz 0)), (6, .int (iz v14)), (5, .int (iz v8)), (4, .int (iz r2)), (0, rr K 98), (2, .int (iz x2))]) dX10_ticks_145 6 rfl (by decide) rfl ?_
      refine zV_goto (pc := 148) (tgt := 34) dX10_ticks_148 (by decide) ?_
      exact zV_sub [5, 6, 0] rfl h
    · replace c30 := Classical.not_not.mp c30
      replace h := h.1 c30
      refine zV_aloadr_n (pc := 100) dX10_ticks_100 rfl 3 rfl ?_
      refine zV_iload_n (pc := 101) dX10_ticks_101 rfl 5 rfl ?_
      refine zV_iconst (pc := 102) dX10_ticks_102 ?_
      obtain ⟨o37, h⟩ := h
      obtain ⟨o38, h⟩ := h
      refine zV_callVf (pc := 103) (mc := mX10_its) (As := [.int (iz x3), .int (iz 4)]) (rest := []) dX10_ticks_103 zcX10_137 ziX10_its zsX10_its rfl rfl rfl rfl (Nat.le_of_ble_eq_true rfl) (c_X10_its (inRd rfl) hx3 hm24 o37 o38) (fun hr39 => ?_)
      refine zV_if_ne (pc := 106) (tgt := 118) dX10_ticks_106 (by decide) hr39 (fun c41 => ?_) (fun c41 => ?_)
      · skip
        replace h := h.2 c41
        refine zV_iconst (pc := 118) dX10_ticks_118 ?_
        refine zV_istore (pc := 119) (loc' := [(7, .int (iz 0)), (6, .int (iz v14)), (5, .int (iz v8)), (4, .int (iz r2)), (0, rr K 98), (2, .int (iz x2)), (3, .int (iz x3))]) dX10_ticks_119 (by decide) rfl ?_
        refine zV_aloadr_n (pc := 121) dX10_ticks_121 rfl 4 rfl ?_
        refine zV_getR (pc := 122) (b := 108) dX10_ticks_122 zfX10_41 rfl rfl rfl ?_
        refine zV_iload (pc := 125) dX10_ticks_125 2 rfl ?_
        refine zV_dup2 (pc := 127) dX10_ticks_127 rfl rfl ?_
        refine zV_iald (pc := 128) dX10_ticks_128 rfl o16 o17 (inR_ix o16 o17 rfl) ?_
        refine zV_iload (pc := 129) dX10_ticks_129 0 rfl ?_
        refine zV_iadd (pc := 131) dX10_ticks_131 ?_
        obtain ⟨o42, h⟩ := h
        refine zV_iast (pc := 132) dX10_ticks_132 rfl o16 o17 (inR_ix o16 o17 rfl) o42 ?_
        refine zV_mem (fun m43 e44 => zV_ok (fun hm43 => ?_))
        replace h := h m43 e44 hm43
        refine zV_aloadr_n (pc := 133) dX10_ticks_133 rfl 4 rfl ?_
        refine zV_getR (pc := 134) (b := 108) dX10_ticks_134 zfX10_41 rfl rfl rfl ?_
        refine zV_iload (pc := 137) dX10_ticks_137 1 rfl ?_
        refine zV_dup2 (pc := 139) dX10_ticks_139 rfl rfl ?_
        refine zV_iald (pc := 140) dX10_ticks_140 rfl o21 o22 (inR_ix o21 o22 rfl) ?_
        refine zV_iload (pc := 141) dX10_ticks_141 0 rfl ?_
        refine zV_iadd (pc := 143) dX10_ticks_143 ?_
        obtain ⟨o45, h⟩ := h
        refine zV_iast (pc := 144) dX10_ticks_144 rfl o21 o22 (inR_ix o21 o22 rfl) o45 ?_
        refine zV_mem (fun m46 e47 => zV_ok (fun hm46 => ?_))
        replace h := h m46 e47 hm46
        refine zV_iinc (pc := 145) (loc' := [(3, .int (iz (x3 + 1))), (7, .int (iz 0)), (6, .int (iz v14)), (5, .int (iz v8)), (4, .int (iz r2)), (0, rr K 98), (2, .int (iz x2))]) dX10_ticks_145 6 rfl (by decide) rfl ?_
        refine zV_goto (pc := 148) (tgt := 34) dX10_ticks_148 (by decide) ?_
        exact zV_sub [5, 6, 0] rfl h
      · replace c41 := Classical.not_not.mp c41
        replace h := h.1 c41
        refine zV_aloadr_n (pc := 109) dX10_ticks_109 rfl 3 rfl ?_
        refine zV_iload_n (pc := 110) dX10_ticks_110 rfl 5 rfl ?_
        refine zV_iconst (pc := 111) dX10_ticks_111 ?_
        obtain ⟨o48, h⟩ := h
        obtain ⟨o49, h⟩ := h
        refine zV_callVf (pc := 112) (mc := mX10_its) (As := [.int (iz x3), .int (iz 3)]) (rest := []) dX10_ticks_112 zcX10_137 ziX10_its zsX10_its rfl rfl rfl rfl (Nat.le_of_ble_eq_true rfl) (c_X10_its (inRd rfl) hx3 hm24 o48 o49) (fun hr50 => ?_)
        refine zV_goto (pc := 115) (tgt := 119) dX10_ticks_115 (by decide) ?_
        refine zV_name (fun v52 e53 => ?_)
        replace h := h v52 e53
        have hrv52 : inR v52 := by rw [e53]; exact hr50
        refine zV_istore (pc := 119) (loc' := [(7, .int (iz v52)), (6, .int (iz v14)), (5, .int (iz v8)), (4, .int (iz r2)), (0, rr K 98), (2, .int (iz x2)), (3, .int (iz x3))]) dX10_ticks_119 (by decide) rfl ?_
        refine zV_aloadr_n (pc := 121) dX10_ticks_121 rfl 4 rfl ?_
        refine zV_getR (pc := 122) (b := 108) dX10_ticks_122 zfX10_41 rfl rfl rfl ?_
        refine zV_iload (pc := 125) dX10_ticks_125 2 rfl ?_
        refine zV_dup2 (pc := 127) dX10_ticks_127 rfl rfl ?_
        refine zV_iald (pc := 128) dX10_ticks_128 rfl o16 o17 (inR_ix o16 o17 rfl) ?_
        refine zV_iload (pc := 129) dX10_ticks_129 0 rfl ?_
        refine zV_iadd (pc := 131) dX10_ticks_131 ?_
        obtain ⟨o54, h⟩ := h
        refine zV_iast (pc := 132) dX10_ticks_132 rfl o16 o17 (inR_ix o16 o17 rfl) o54 ?_
        refine zV_mem (fun m55 e56 => zV_ok (fun hm55 => ?_))
        replace h := h m55 e56 hm55
        refine zV_aloadr_n (pc := 133) dX10_ticks_133 rfl 4 rfl ?_
        refine zV_getR (pc := 134) (b := 108) dX10_ticks_134 zfX10_41 rfl rfl rfl ?_
        refine zV_iload (pc := 137) dX10_ticks_137 1 rfl ?_
        refine zV_dup2 (pc := 139) dX10_ticks_139 rfl rfl ?_
        refine zV_iald (pc := 140) dX10_ticks_140 rfl o21 o22 (inR_ix o21 o22 rfl) ?_
        refine zV_iload (pc := 141) dX10_ticks_141 0 rfl ?_
        refine zV_iadd (pc := 143) dX10_ticks_143 ?_
        obtain ⟨o57, h⟩ := h
        refine zV_iast (pc := 144) dX10_ticks_144 rfl o21 o22 (inR_ix o21 o22 rfl) o57 ?_
        refine zV_mem (fun m58 e59 => zV_ok (fun hm58 => ?_))
        replace h := h m58 e59 hm58
        refine zV_iinc (pc := 145) (loc' := [(3, .int (iz (x3 + 1))), (7, .int (iz v52)), (6, .int (iz v14)), (5, .int (iz v8)), (4, .int (iz r2)), (0, rr K 98), (2, .int (iz x2))]) dX10_ticks_145 6 rfl (by decide) rfl ?_
        refine zV_goto (pc := 148) (tgt := 34) dX10_ticks_148 (by decide) ?_
        exact zV_sub [5, 6, 0] rfl h
set_option maxRecDepth 100000 in
set_option maxHeartbeats 4000000 in
theorem vc_X10_ticks_156 {K : zCx} {d : Nat} (x3 : Int) (x4 : Int) (m0 : zM) {Q : Int → zM → Prop} (hx3 : inR x3) (hx4 : inR x4) (h : zok m0 → (5 ≤ x4 → Q x3 m0) ∧ (¬ (5 ≤ x4) → 0 ≤ x4 ∧ x4 < 5 ∧ ((m0.1 108 x4) ≠ 0 ∧ ¬ ((m0.1 107 x4) = -2147483648 ∧ (m0.1 108 x4) = -1) ∧ (∀ v6 : Int, v6 = ((m0.1 106 x4) + (Int.tdiv (m0.1 107 x4) (m0.1 108 x4))) → (inR v6 ∧ ((0 ≤ v6 → ∀ v10 : Int, v10 = (if v6 ≤ 20 then v6 else 20) → (∀ v12 : Int, v12 = ((21 * x3) + v10) → (zV K mX10_ticks (d + 3) 156 [(0, rr K 98), (3, .int (iz v12)), (4, .int (iz (x4 + 1)))] [] m0 Q))) ∧ (¬ (0 ≤ v6) → ∀ v15 : Int, v15 = ((21 * x3) + 0) → (zV K mX10_ticks (d + 3) 156 [(0, rr K 98), (3, .int (iz v15)), (4, .int (iz (x4 + 1)))] [] m0 Q)))))))) : zV K mX10_ticks (d + 3) 156 [(0, rr K 98), (3, .int (iz x3)), (4, .int (iz x4))] [] m0 Q := by
  refine zV_ok (fun hm0 => ?_)
  replace h := h hm0
  refine zV_iload (pc := 156) dX10_ticks_156 2 rfl ?_
  refine zV_iconst (pc := 158) dX10_ticks_158 ?_
  refine zV_icmp_ge (pc := 159) (tgt := 222) dX10_ticks_159 (by decide) hx4 (inRd rfl) (fun c1 => ?_) (fun c1 => ?_)
  · skip
    replace h := h.1 c1
    refine zV_iload_n (pc := 222) dX10_ticks_222 rfl 1 rfl ?_
    exact zV_iret (pc := 223) rfl dX10_ticks_223 hx3 h
  · skip
    replace h := h.2 c1
    refine zV_aloadr_n (pc := 162) dX10_ticks_162 rfl 0 rfl ?_
    refine zV_getR (pc := 163) (b := 106) dX10_ticks_163 zfX10_35 rfl rfl rfl ?_
    refine zV_iload (pc := 166) dX10_ticks_166 2 rfl ?_
    obtain ⟨o2, o3, h⟩ := h
    refine zV_iald (pc := 168) dX10_ticks_168 rfl o2 o3 (inR_ix o2 o3 rfl) ?_
    refine zV_aloadr_n (pc := 169) dX10_ticks_169 rfl 0 rfl ?_
    refine zV_getR (pc := 170) (b := 107) dX10_ticks_170 zfX10_38 rfl rfl rfl ?_
    refine zV_iload (pc := 173) dX10_ticks_173 2 rfl ?_
    refine zV_iald (pc := 175) dX10_ticks_175 rfl o2 o3 (inR_ix o2 o3 rfl) ?_
    refine zV_aloadr_n (pc := 176) dX10_ticks_176 rfl 0 rfl ?_
    refine zV_getR (pc := 177) (b := 108) dX10_ticks_177 zfX10_41 rfl rfl rfl ?_
    refine zV_iload (pc := 180) dX10_ticks_180 2 rfl ?_
    refine zV_iald (pc := 182) dX10_ticks_182 rfl o2 o3 (inR_ix o2 o3 rfl) ?_
    obtain ⟨o4, o5, h⟩ := h
    refine zV_idiv (pc := 183) dX10_ticks_183 (hm0 _ _) (hm0 _ _) o4 o5 ?_
    refine zV_iadd (pc := 184) dX10_ticks_184 ?_
    refine zV_name (fun v6 e7 => ?_)
    replace h := h v6 e7
    refine zV_istore (pc := 185) (loc' := [(5, .int (iz v6)), (0, rr K 98), (3, .int (iz x3)), (4, .int (iz x4))]) dX10_ticks_185 (by decide) rfl ?_
    refine zV_bipush (pc := 187) dX10_ticks_187 (by decide) ?_
    refine zV_iload_n (pc := 189) dX10_ticks_189 rfl 2 rfl ?_
    refine zV_imul (pc := 190) dX10_ticks_190 ?_
    refine zV_iload (pc := 191) dX10_ticks_191 0 rfl ?_
    obtain ⟨o8, h⟩ := h
    refine zV_if_ge (pc := 193) (tgt := 200) dX10_ticks_193 (by decide) o8 (fun c9 => ?_) (fun c9 => ?_)
    · skip
      replace h := h.1 c9
      refine zV_iload (pc := 200) dX10_ticks_200 0 rfl ?_
      refine zV_bipush (pc := 202) dX10_ticks_202 (by decide) ?_
      have key : ∀ v10 : Int, v10 = (if v6 ≤ 20 then v6 else 20) → zV K mX10_ticks (d + 3) 214 [(0, rr K 98), (4, .int (iz x4))] [.int (iz v10), .int (iz (21 * x3))] m0 Q := by
        intro v10 e11
        replace h := h v10 e11
        have hrv10 : inR v10 := by rw [e11]; (repeat' split) <;> first | with_reducible exact o8 | with_reducible exact (inRd rfl)
        refine zV_iadd (pc := 214) dX10_ticks_214 ?_
        refine zV_name (fun v12 e13 => ?_)
        replace h := h v12 e13
        refine zV_istore_n (pc := 215) (loc' := [(3, .int (iz v12)), (0, rr K 98), (4, .int (iz x4))]) dX10_ticks_215 rfl (by decide) rfl ?_
        refine zV_iinc (pc := 216) (loc' := [(4, .int (iz (x4 + 1))), (3, .int (iz v12)), (0, rr K 98)]) dX10_ticks_216 2 rfl (by decide) rfl ?_
        refine zV_goto (pc := 219) (tgt := 156) dX10_ticks_219 (by decide) ?_
        exact zV_sub [2, 1, 0] rfl h
      refine zV_icmp_le (pc := 204) (tgt := 212) dX10_ticks_204 (by decide) o8 (inRd rfl) (fun c14 => ?_) (fun c14 => ?_)
      · skip
        refine zV_iload (pc := 212) dX10_ticks_212 0 rfl ?_
        exact zV_sub [1, 3] rfl (key _ (if_pos c14).symm)
      · skip
        refine zV_bipush (pc := 207) dX10_ticks_207 (by decide) ?_
        refine zV_goto (pc := 209) (tgt := 214) dX10_ticks_209 (by decide) ?_
        exact zV_sub [1, 3] rfl (key _ (if_neg c14).symm)
    · skip
      replace h := h.2 c9
      refine zV_iconst (pc := 196) dX10_ticks_196 ?_
      refine zV_goto (pc := 197) (tgt := 214) dX10_ticks_197 (by decide) ?_
      refine zV_iadd (pc := 214) dX10_ticks_214 ?_
      refine zV_name (fun v15 e16 => ?_)
      replace h := h v15 e16
      refine zV_istore_n (pc := 215) (loc' := [(3, .int (iz v15)), (5, .int (iz v6)), (0, rr K 98), (4, .int (iz x4))]) dX10_ticks_215 rfl (by decide) rfl ?_
      refine zV_iinc (pc := 216) (loc' := [(4, .int (iz (x4 + 1))), (3, .int (iz v15)), (5, .int (iz v6)), (0, rr K 98)]) dX10_ticks_216 3 rfl (by decide) rfl ?_
      refine zV_goto (pc := 219) (tgt := 156) dX10_ticks_219 (by decide) ?_
      exact zV_sub [3, 1, 0] rfl h

set_option maxRecDepth 100000 in
set_option maxHeartbeats 4000000 in
theorem vc_X10_tick_0 {K : zCx} {d : Nat} (x1 : Int) (x2 : Int) (m0 : zM) {Q : Int → zM → Prop} (hx1 : inR x1) (hx2 : inR x2) (h : zok m0 → ((0 ≤ x1 ∧ x1 ≤ 9260) → ((0 ≤ x2 ∧ x2 ≤ 8) → zCt K (d + 3) mX10_ticks [rr K 98, .int (iz x1), .int (iz x2)] m0 (fun r7 m8 => inR r7 → zok m8 → Q r7 m8)) ∧ (¬ ((0 ≤ x2 ∧ x2 ≤ 8)) → Q (-1) m0)) ∧ (¬ ((0 ≤ x1 ∧ x1 ≤ 9260)) → Q (-1) m0)) : zV K mX10_tick (d + 4) 0 [(0, rr K 98), (1, .int (iz x1)), (2, .int (iz x2))] [] m0 Q := by
  refine zV_ok (fun hm0 => ?_)
  replace h := h hm0
  refine zV_iload_n (pc := 0) dX10_tick_0 rfl 1 rfl ?_
  refine zV_callSf (pc := 1) (mc := mX10_isState) (As := [.int (iz x1)]) (rest := []) dX10_tick_1 zcX10_156 ztX10_isState rfl rfl (Nat.le_of_ble_eq_true rfl) (c_X10_isState hx1) (fun hr1 => ?_)
  refine zV_if_eq (pc := 4) (tgt := 23) dX10_tick_4 (by decide) (inR_b2i _) (fun c3 => ?_) (fun c3 => ?_)
  · replace c3 := b2i_fp c3
    replace h := h.2 c3
    refine zV_iconst (pc := 23) dX10_tick_23 ?_
    exact zV_iret (pc := 24) rfl dX10_tick_24 (inRd rfl) h
  · replace c3 := b2i_tp c3
    replace h := h.1 c3
    refine zV_iload_n (pc := 7) dX10_tick_7 rfl 2 rfl ?_
    refine zV_callSf (pc := 8) (mc := mX10_isCorner) (As := [.int (iz x2)]) (rest := []) dX10_tick_8 zcX10_162 ztX10_isCorner rfl rfl (Nat.le_of_ble_eq_true rfl) (c_X10_isCorner hx2) (fun hr4 => ?_)
    refine zV_if_eq (pc := 11) (tgt := 23) dX10_tick_11 (by decide) (inR_b2i _) (fun c6 => ?_) (fun c6 => ?_)
    · replace c6 := b2i_fp c6
      replace h := h.2 c6
      refine zV_iconst (pc := 23) dX10_tick_23 ?_
      exact zV_iret (pc := 24) rfl dX10_tick_24 (inRd rfl) h
    · replace c6 := b2i_tp c6
      replace h := h.1 c6
      refine zV_aloadr_n (pc := 14) dX10_tick_14 rfl 0 rfl ?_
      refine zV_iload_n (pc := 15) dX10_tick_15 rfl 1 rfl ?_
      refine zV_iload_n (pc := 16) dX10_tick_16 rfl 2 rfl ?_
      refine zV_callV (pc := 17) (mc := mX10_ticks) (As := [.int (iz x1), .int (iz x2)]) (rest := []) dX10_tick_17 zcX10_173 ziX10_ticks zsX10_ticks rfl rfl rfl rfl (Nat.le_of_ble_eq_true rfl) h (fun r7 m8 hr7 h => zV_ok (fun hm8 => ?_))
      replace h := h hr7 hm8
      refine zV_goto (pc := 20) (tgt := 24) dX10_tick_20 (by decide) ?_
      exact zV_iret (pc := 24) rfl dX10_tick_24 hr7 h

set_option maxRecDepth 100000 in
set_option maxHeartbeats 4000000 in
theorem vc_X10_go_0 {K : zCx} {d : Nat} (x1 : Int) (m0 : zM) {Q : Int → zM → Prop} (hx1 : inR x1) (h : zok m0 → inR ((m0.1 98 18) + 1) ∧ (∀ m2 : zM, m2 = sI m0 98 18 ((m0.1 98 18) + 1) → zok m2 → (∀ v4 : Int, v4 = (m2.1 98 1) → (zV K mX10_go (d + 4) 17 [(0, rr K 98), (1, .int (iz x1)), (2, .int (iz v4)), (3, .int (iz 0))] [] m2 Q)))) : zV K mX10_go (d + 4) 0 [(0, rr K 98), (1, .int (iz x1))] [] m0 Q := by
  refine zV_ok (fun hm0 => ?_)
  replace h := h hm0
  refine zV_aloadr_n (pc := 0) dX10_go_0 rfl 0 rfl ?_
  refine zV_dup (pc := 1) dX10_go_1 rfl ?_
  refine zV_getI (pc := 2) (kz := 18) dX10_go_2 zfX10_176 rfl rfl rfl ?_
  refine zV_iconst (pc := 5) dX10_go_5 ?_
  refine zV_iadd (pc := 6) dX10_go_6 ?_
  obtain ⟨o1, h⟩ := h
  refine zV_putI (pc := 7) (kz := 18) dX10_go_7 zpX10_176 rfl rfl rfl o1 rfl rfl ?_
  refine zV_mem (fun m2 e3 => zV_ok (fun hm2 => ?_))
  replace h := h m2 e3 hm2
  refine zV_aloadr_n (pc := 10) dX10_go_10 rfl 0 rfl ?_
  refine zV_getI (pc := 11) (kz := 1) dX10_go_11 zfX10_159 rfl rfl rfl ?_
  refine zV_name (fun v4 e5 => ?_)
  replace h := h v4 e5
  have hrv4 : inR v4 := by rw [e5]; exact (hm2 _ _)
  refine zV_istore_n (pc := 14) (loc' := [(2, .int (iz v4)), (0, rr K 98), (1, .int (iz x1))]) dX10_go_14 rfl (by decide) rfl ?_
  refine zV_iconst (pc := 15) dX10_go_15 ?_
  refine zV_istore_n (pc := 16) (loc' := [(3, .int (iz 0)), (2, .int (iz v4)), (0, rr K 98), (1, .int (iz x1))]) dX10_go_16 rfl (by decide) rfl ?_
  exact zV_sub [2, 3, 1, 0] rfl h
set_option maxRecDepth 100000 in
set_option maxHeartbeats 4000000 in
theorem vc_X10_go_17 {K : zCx} {d : Nat} (x1 : Int) (x2 : Int) (x3 : Int) (m0 : zM) {Q : Int → zM → Prop} (hx1 : inR x1) (hx2 : inR x2) (hx3 : inR x3) (h : zok m0 → 0 ≤ x2 ∧ x2 < 9261 ∧ (((m0.1 109 x2) = (m0.1 98 18) → ∀ m4 : zM, m4 = sI m0 98 19 x2 → zok m4 → (∀ m6 : zM, m6 = sI m4 98 20 (m4.1 110 x2) → zok m6 → (inR (x3 - (m6.1 98 20)) ∧ (∀ m9 : zM, m9 = sI m6 98 21 (x3 - (m6.1 98 20)) → zok m9 → (Q 0 m9))))) ∧ (¬ ((m0.1 109 x2) = (m0.1 98 18)) → ∀ m11 : zM, m11 = sI m0 109 x2 (m0.1 98 18) → zok m11 → (∀ m13 : zM, m13 = sI m11 110 x2 x3 → zok m13 → (zCt K (d + 3) mX10_ticks [rr K 98, .int (iz x2), .int (iz x1)] m13 (fun r15 m16 => inR r15 → zok m16 → zV K mX10_go (d + 4) 17 [(0, rr K 98), (1, .int (iz x1)), (2, .int (iz r15)), (3, .int (iz (x3 + 1)))] [] m16 Q)))))) : zV K mX10_go (d + 4) 17 [(0, rr K 98), (1, .int (iz x1)), (2, .int (iz x2)), (3, .int (iz x3))] [] m0 Q := by
  refine zV_ok (fun hm0 => ?_)
  replace h := h hm0
  refine zV_aloadr_n (pc := 17) dX10_go_17 rfl 0 rfl ?_
  refine zV_getR (pc := 18) (b := 109) dX10_go_18 zfX10_44 rfl rfl rfl ?_
  refine zV_iload_n (pc := 21) dX10_go_21 rfl 2 rfl ?_
  obtain ⟨o1, o2, h⟩ := h
  refine zV_iald (pc := 22) dX10_go_22 rfl o1 o2 (inR_ix o1 o2 rfl) ?_
  refine zV_aloadr_n (pc := 23) dX10_go_23 rfl 0 rfl ?_
  refine zV_getI (pc := 24) (kz := 18) dX10_go_24 zfX10_176 rfl rfl rfl ?_
  refine zV_icmp_eq (pc := 27) (tgt := 60) dX10_go_27 (by decide) (hm0 _ _) (hm0 _ _) (fun c3 => ?_) (fun c3 => ?_)
  · skip
    replace h := h.1 c3
    refine zV_aloadr_n (pc := 60) dX10_go_60 rfl 0 rfl ?_
    refine zV_iload_n (pc := 61) dX10_go_61 rfl 2 rfl ?_
    refine zV_putI (pc := 62) (kz := 19) dX10_go_62 zpX10_179 rfl rfl rfl hx2 rfl rfl ?_
    refine zV_mem (fun m4 e5 => zV_ok (fun hm4 => ?_))
    replace h := h m4 e5 hm4
    refine zV_aloadr_n (pc := 65) dX10_go_65 rfl 0 rfl ?_
    refine zV_aloadr_n (pc := 66) dX10_go_66 rfl 0 rfl ?_
    refine zV_getR (pc := 67) (b := 110) dX10_go_67 zfX10_47 rfl rfl rfl ?_
    refine zV_iload_n (pc := 70) dX10_go_70 rfl 2 rfl ?_
    refine zV_iald (pc := 71) dX10_go_71 rfl o1 o2 (inR_ix o1 o2 rfl) ?_
    refine zV_putI (pc := 72) (kz := 20) dX10_go_72 zpX10_182 rfl rfl rfl (hm4 _ _) rfl rfl ?_
    refine zV_mem (fun m6 e7 => zV_ok (fun hm6 => ?_))
    replace h := h m6 e7 hm6
    refine zV_aloadr_n (pc := 75) dX10_go_75 rfl 0 rfl ?_
    refine zV_iload_n (pc := 76) dX10_go_76 rfl 3 rfl ?_
    refine zV_aloadr_n (pc := 77) dX10_go_77 rfl 0 rfl ?_
    refine zV_getI (pc := 78) (kz := 20) dX10_go_78 zfX10_182 rfl rfl rfl ?_
    refine zV_isub (pc := 81) dX10_go_81 ?_
    obtain ⟨o8, h⟩ := h
    refine zV_putI (pc := 82) (kz := 21) dX10_go_82 zpX10_185 rfl rfl rfl o8 rfl rfl ?_
    refine zV_mem (fun m9 e10 => zV_ok (fun hm9 => ?_))
    replace h := h m9 e10 hm9
    exact zV_vret (pc := 85) rfl dX10_go_85 h
  · skip
    replace h := h.2 c3
    refine zV_aloadr_n (pc := 30) dX10_go_30 rfl 0 rfl ?_
    refine zV_getR (pc := 31) (b := 109) dX10_go_31 zfX10_44 rfl rfl rfl ?_
    refine zV_iload_n (pc := 34) dX10_go_34 rfl 2 rfl ?_
    refine zV_aloadr_n (pc := 35) dX10_go_35 rfl 0 rfl ?_
    refine zV_getI (pc := 36) (kz := 18) dX10_go_36 zfX10_176 rfl rfl rfl ?_
    refine zV_iast (pc := 39) dX10_go_39 rfl o1 o2 (inR_ix o1 o2 rfl) (hm0 _ _) ?_
    refine zV_mem (fun m11 e12 => zV_ok (fun hm11 => ?_))
    replace h := h m11 e12 hm11
    refine zV_aloadr_n (pc := 40) dX10_go_40 rfl 0 rfl ?_
    refine zV_getR (pc := 41) (b := 110) dX10_go_41 zfX10_47 rfl rfl rfl ?_
    refine zV_iload_n (pc := 44) dX10_go_44 rfl 2 rfl ?_
    refine zV_iload_n (pc := 45) dX10_go_45 rfl 3 rfl ?_
    refine zV_iast (pc := 46) dX10_go_46 rfl o1 o2 (inR_ix o1 o2 rfl) hx3 ?_
    refine zV_mem (fun m13 e14 => zV_ok (fun hm13 => ?_))
    replace h := h m13 e14 hm13
    refine zV_aloadr_n (pc := 47) dX10_go_47 rfl 0 rfl ?_
    refine zV_iload_n (pc := 48) dX10_go_48 rfl 2 rfl ?_
    refine zV_iload_n (pc := 49) dX10_go_49 rfl 1 rfl ?_
    refine zV_callV (pc := 50) (mc := mX10_ticks) (As := [.int (iz x2), .int (iz x1)]) (rest := []) dX10_go_50 zcX10_173 ziX10_ticks zsX10_ticks rfl rfl rfl rfl (Nat.le_of_ble_eq_true rfl) h (fun r15 m16 hr15 h => zV_ok (fun hm16 => ?_))
    replace h := h hr15 hm16
    refine zV_istore_n (pc := 53) (loc' := [(2, .int (iz r15)), (0, rr K 98), (1, .int (iz x1)), (3, .int (iz x3))]) dX10_go_53 rfl (by decide) rfl ?_
    refine zV_iinc (pc := 54) (loc' := [(3, .int (iz (x3 + 1))), (2, .int (iz r15)), (0, rr K 98), (1, .int (iz x1))]) dX10_go_54 3 rfl (by decide) rfl ?_
    refine zV_goto (pc := 57) (tgt := 17) dX10_go_57 (by decide) ?_
    exact zV_sub [2, 3, 1, 0] rfl h

set_option maxRecDepth 100000 in
set_option maxHeartbeats 4000000 in
theorem vc_X10_goes_0 {K : zCx} {d : Nat} (x1 : Int) (x2 : Int) (m0 : zM) {Q : Int → zM → Prop} (hx1 : inR x1) (hx2 : inR x2) (h : zok m0 → ((0 ≤ x1 ∧ x1 ≤ 8) → ((0 ≤ x2 ∧ x2 ≤ 2) → zCt K (d + 4) mX10_go [rr K 98, .int (iz x1)] m0 (fun r7 m8 => inR r7 → zok m8 → (x2 = 0 → Q (m8.1 98 19) m8) ∧ (¬ (x2 = 0) → (x2 = 1 → Q (m8.1 98 20) m8) ∧ (¬ (x2 = 1) → Q (m8.1 98 21) m8)))) ∧ (¬ ((0 ≤ x2 ∧ x2 ≤ 2)) → Q (-1) m0)) ∧ (¬ ((0 ≤ x1 ∧ x1 ≤ 8)) → Q (-1) m0)) : zV K mX10_goes (d + 5) 0 [(0, rr K 98), (1, .int (iz x1)), (2, .int (iz x2))] [] m0 Q := by
  refine zV_ok (fun hm0 => ?_)
  replace h := h hm0
  refine zV_iload_n (pc := 0) dX10_goes_0 rfl 1 rfl ?_
  refine zV_callSf (pc := 1) (mc := mX10_isCorner) (As := [.int (iz x1)]) (rest := []) dX10_goes_1 zcX10_162 ztX10_isCorner rfl rfl (Nat.le_of_ble_eq_true rfl) (c_X10_isCorner hx1) (fun hr1 => ?_)
  refine zV_if_eq (pc := 4) (tgt := 16) dX10_goes_4 (by decide) (inR_b2i _) (fun c3 => ?_) (fun c3 => ?_)
  · replace c3 := b2i_fp c3
    replace h := h.2 c3
    refine zV_iconst (pc := 16) dX10_goes_16 ?_
    exact zV_iret (pc := 17) rfl dX10_goes_17 (inRd rfl) h
  · replace c3 := b2i_tp c3
    replace h := h.1 c3
    refine zV_iload_n (pc := 7) dX10_goes_7 rfl 2 rfl ?_
    refine zV_iconst (pc := 8) dX10_goes_8 ?_
    refine zV_iconst (pc := 9) dX10_goes_9 ?_
    refine zV_callSf (pc := 10) (mc := mX10_in) (As := [.int (iz x2), .int (iz 0), .int (iz 2)]) (rest := []) dX10_goes_10 zcX10_114 ztX10_in rfl rfl (Nat.le_of_ble_eq_true rfl) (c_X10_in hx2 (inRd rfl) (inRd rfl)) (fun hr4 => ?_)
    refine zV_if_ne (pc := 13) (tgt := 18) dX10_goes_13 (by decide) (inR_b2i _) (fun c6 => ?_) (fun c6 => ?_)
    · replace c6 := b2i_tp c6
      replace h := h.1 c6
      refine zV_aloadr_n (pc := 18) dX10_goes_18 rfl 0 rfl ?_
      refine zV_iload_n (pc := 19) dX10_goes_19 rfl 1 rfl ?_
      refine zV_callV (pc := 20) (mc := mX10_go) (As := [.int (iz x1)]) (rest := []) dX10_goes_20 zcX10_188 ziX10_go zsX10_go rfl rfl rfl rfl (Nat.le_of_ble_eq_true rfl) h (fun r7 m8 hr7 h => zV_ok (fun hm8 => ?_))
      replace h := h hr7 hm8
      refine zV_iload_n (pc := 23) dX10_goes_23 rfl 2 rfl ?_
      refine zV_if_ne (pc := 24) (tgt := 34) dX10_goes_24 (by decide) hx2 (fun c9 => ?_) (fun c9 => ?_)
      · skip
        replace h := h.2 c9
        refine zV_iload_n (pc := 34) dX10_goes_34 rfl 2 rfl ?_
        refine zV_iconst (pc := 35) dX10_goes_35 ?_
        refine zV_icmp_ne (pc := 36) (tgt := 46) dX10_goes_36 (by decide) hx2 (inRd rfl) (fun c10 => ?_) (fun c10 => ?_)
        · skip
          replace h := h.2 c10
          refine zV_aloadr_n (pc := 46) dX10_goes_46 rfl 0 rfl ?_
          refine zV_getI (pc := 47) (kz := 21) dX10_goes_47 zfX10_185 rfl rfl rfl ?_
          exact zV_iret (pc := 50) rfl dX10_goes_50 (hm8 _ _) h
        · replace c10 := Classical.not_not.mp c10
          replace h := h.1 c10
          refine zV_aloadr_n (pc := 39) dX10_goes_39 rfl 0 rfl ?_
          refine zV_getI (pc := 40) (kz := 20) dX10_goes_40 zfX10_182 rfl rfl rfl ?_
          refine zV_goto (pc := 43) (tgt := 50) dX10_goes_43 (by decide) ?_
          exact zV_iret (pc := 50) rfl dX10_goes_50 (hm8 _ _) h
      · replace c9 := Classical.not_not.mp c9
        replace h := h.1 c9
        refine zV_aloadr_n (pc := 27) dX10_goes_27 rfl 0 rfl ?_
        refine zV_getI (pc := 28) (kz := 19) dX10_goes_28 zfX10_179 rfl rfl rfl ?_
        refine zV_goto (pc := 31) (tgt := 50) dX10_goes_31 (by decide) ?_
        exact zV_iret (pc := 50) rfl dX10_goes_50 (hm8 _ _) h
    · replace c6 := b2i_fn c6
      replace h := h.2 c6
      refine zV_iconst (pc := 16) dX10_goes_16 ?_
      exact zV_iret (pc := 17) rfl dX10_goes_17 (inRd rfl) h

set_option maxRecDepth 100000 in
set_option maxHeartbeats 4000000 in
theorem vc_X10_rests_0 {K : zCx} {d : Nat} (x1 : Int) (m0 : zM) {Q : Int → zM → Prop} (hx1 : inR x1) (h : zok m0 → ((0 ≤ x1 ∧ x1 ≤ 8) → zV K mX10_rests (d + 4) 13 [(0, rr K 98), (1, .int (iz x1)), (2, .int (iz 0)), (3, .int (iz 0))] [] m0 Q) ∧ (¬ ((0 ≤ x1 ∧ x1 ≤ 8)) → Q (-1) m0)) : zV K mX10_rests (d + 4) 0 [(0, rr K 98), (1, .int (iz x1))] [] m0 Q := by
  refine zV_ok (fun hm0 => ?_)
  replace h := h hm0
  refine zV_iload_n (pc := 0) dX10_rests_0 rfl 1 rfl ?_
  refine zV_callSf (pc := 1) (mc := mX10_isCorner) (As := [.int (iz x1)]) (rest := []) dX10_rests_1 zcX10_162 ztX10_isCorner rfl rfl (Nat.le_of_ble_eq_true rfl) (c_X10_isCorner hx1) (fun hr1 => ?_)
  refine zV_if_ne (pc := 4) (tgt := 9) dX10_rests_4 (by decide) (inR_b2i _) (fun c3 => ?_) (fun c3 => ?_)
  · replace c3 := b2i_tp c3
    replace h := h.1 c3
    refine zV_iconst (pc := 9) dX10_rests_9 ?_
    refine zV_istore_n (pc := 10) (loc' := [(2, .int (iz 0)), (0, rr K 98), (1, .int (iz x1))]) dX10_rests_10 rfl (by decide) rfl ?_
    refine zV_iconst (pc := 11) dX10_rests_11 ?_
    refine zV_istore_n (pc := 12) (loc' := [(3, .int (iz 0)), (2, .int (iz 0)), (0, rr K 98), (1, .int (iz x1))]) dX10_rests_12 rfl (by decide) rfl ?_
    exact zV_sub [2, 3, 1, 0] rfl h
  · replace c3 := b2i_fn c3
    replace h := h.2 c3
    refine zV_iconst (pc := 7) dX10_rests_7 ?_
    exact zV_iret (pc := 8) rfl dX10_rests_8 (inRd rfl) h
set_option maxRecDepth 100000 in
set_option maxHeartbeats 4000000 in
theorem vc_X10_rests_13 {K : zCx} {d : Nat} (x1 : Int) (x2 : Int) (x3 : Int) (m0 : zM) {Q : Int → zM → Prop} (hx1 : inR x1) (hx2 : inR x2) (hx3 : inR x3) (h : zok m0 → (9261 ≤ x3 → Q x2 m0) ∧ (¬ (9261 ≤ x3) → zCt K (d + 3) mX10_ticks [rr K 98, .int (iz x3), .int (iz x1)] m0 (fun r2 m3 => inR r2 → zok m3 → ∀ v4 : Int, v4 = (if r2 = x3 then 1 else 0) → (∀ v6 : Int, v6 = (x2 + v4) → (zV K mX10_rests (d + 4) 13 [(0, rr K 98), (1, .int (iz x1)), (2, .int (iz v6)), (3, .int (iz (x3 + 1)))] [] m3 Q))))) : zV K mX10_rests (d + 4) 13 [(0, rr K 98), (1, .int (iz x1)), (2, .int (iz x2)), (3, .int (iz x3))] [] m0 Q := by
  refine zV_ok (fun hm0 => ?_)
  replace h := h hm0
  refine zV_iload_n (pc := 13) dX10_rests_13 rfl 3 rfl ?_
  refine zV_sipush (pc := 14) dX10_rests_14 (by decide) ?_
  refine zV_icmp_ge (pc := 17) (tgt := 44) dX10_rests_17 (by decide) hx3 (inRd rfl) (fun c1 => ?_) (fun c1 => ?_)
  · skip
    replace h := h.1 c1
    refine zV_iload_n (pc := 44) dX10_rests_44 rfl 2 rfl ?_
    exact zV_iret (pc := 45) rfl dX10_rests_45 hx2 h
  · skip
    replace h := h.2 c1
    refine zV_iload_n (pc := 20) dX10_rests_20 rfl 2 rfl ?_
    refine zV_aloadr_n (pc := 21) dX10_rests_21 rfl 0 rfl ?_
    refine zV_iload_n (pc := 22) dX10_rests_22 rfl 3 rfl ?_
    refine zV_iload_n (pc := 23) dX10_rests_23 rfl 1 rfl ?_
    refine zV_callV (pc := 24) (mc := mX10_ticks) (As := [.int (iz x3), .int (iz x1)]) (rest := [.int (iz x2)]) dX10_rests_24 zcX10_173 ziX10_ticks zsX10_ticks rfl rfl rfl rfl (Nat.le_of_ble_eq_true rfl) h (fun r2 m3 hr2 h => zV_ok (fun hm3 => ?_))
    replace h := h hr2 hm3
    refine zV_iload_n (pc := 27) dX10_rests_27 rfl 3 rfl ?_
    have key : ∀ v4 : Int, v4 = (if r2 = x3 then 1 else 0) → zV K mX10_rests (d + 4) 36 [(0, rr K 98), (1, .int (iz x1)), (3, .int (iz x3))] [.int (iz v4), .int (iz x2)] m3 Q := by
      intro v4 e5
      replace h := h v4 e5
      have hrv4 : inR v4 := by rw [e5]; (repeat' split) <;> first | with_reducible exact (inRd rfl)
      refine zV_iadd (pc := 36) dX10_rests_36 ?_
      refine zV_name (fun v6 e7 => ?_)
      replace h := h v6 e7
      refine zV_istore_n (pc := 37) (loc' := [(2, .int (iz v6)), (0, rr K 98), (1, .int (iz x1)), (3, .int (iz x3))]) dX10_rests_37 rfl (by decide) rfl ?_
      refine zV_iinc (pc := 38) (loc' := [(3, .int (iz (x3 + 1))), (2, .int (iz v6)), (0, rr K 98), (1, .int (iz x1))]) dX10_rests_38 3 rfl (by decide) rfl ?_
      refine zV_goto (pc := 41) (tgt := 13) dX10_rests_41 (by decide) ?_
      exact zV_sub [2, 3, 1, 0] rfl h
    refine zV_icmp_ne (pc := 28) (tgt := 35) dX10_rests_28 (by decide) hr2 hx3 (fun c8 => ?_) (fun c8 => ?_)
    · skip
      refine zV_iconst (pc := 35) dX10_rests_35 ?_
      exact zV_sub [0, 1, 3] rfl (key _ (if_neg c8).symm)
    · replace c8 := Classical.not_not.mp c8
      refine zV_iconst (pc := 31) dX10_rests_31 ?_
      refine zV_goto (pc := 32) (tgt := 36) dX10_rests_32 (by decide) ?_
      exact zV_sub [0, 1, 3] rfl (key _ (if_pos c8).symm)

set_option maxRecDepth 100000 in
set_option maxHeartbeats 4000000 in
theorem vc_X10_restAt_0 {K : zCx} {d : Nat} (x1 : Int) (x2 : Int) (m0 : zM) {Q : Int → zM → Prop} (hx1 : inR x1) (hx2 : inR x2) (h : zok m0 → ((0 ≤ x1 ∧ x1 ≤ 8) → zV K mX10_restAt (d + 4) 14 [(0, rr K 98), (1, .int (iz x1)), (2, .int (iz x2)), (3, .int (iz x2)), (4, .int (iz 0))] [] m0 Q) ∧ (¬ ((0 ≤ x1 ∧ x1 ≤ 8)) → Q (-1) m0)) : zV K mX10_restAt (d + 4) 0 [(0, rr K 98), (1, .int (iz x1)), (2, .int (iz x2))] [] m0 Q := by
  refine zV_ok (fun hm0 => ?_)
  replace h := h hm0
  refine zV_iload_n (pc := 0) dX10_restAt_0 rfl 1 rfl ?_
  refine zV_callSf (pc := 1) (mc := mX10_isCorner) (As := [.int (iz x1)]) (rest := []) dX10_restAt_1 zcX10_162 ztX10_isCorner rfl rfl (Nat.le_of_ble_eq_true rfl) (c_X10_isCorner hx1) (fun hr1 => ?_)
  refine zV_if_ne (pc := 4) (tgt := 9) dX10_restAt_4 (by decide) (inR_b2i _) (fun c3 => ?_) (fun c3 => ?_)
  · replace c3 := b2i_tp c3
    replace h := h.1 c3
    refine zV_iload_n (pc := 9) dX10_restAt_9 rfl 2 rfl ?_
    refine zV_istore_n (pc := 10) (loc' := [(3, .int (iz x2)), (0, rr K 98), (1, .int (iz x1)), (2, .int (iz x2))]) dX10_restAt_10 rfl (by decide) rfl ?_
    refine zV_iconst (pc := 11) dX10_restAt_11 ?_
    refine zV_istore (pc := 12) (loc' := [(4, .int (iz 0)), (3, .int (iz x2)), (0, rr K 98), (1, .int (iz x1)), (2, .int (iz x2))]) dX10_restAt_12 (by decide) rfl ?_
    exact zV_sub [2, 3, 4, 1, 0] rfl h
  · replace c3 := b2i_fn c3
    replace h := h.2 c3
    refine zV_iconst (pc := 7) dX10_restAt_7 ?_
    exact zV_iret (pc := 8) rfl dX10_restAt_8 (inRd rfl) h
set_option maxRecDepth 100000 in
set_option maxHeartbeats 4000000 in
theorem vc_X10_restAt_14 {K : zCx} {d : Nat} (x1 : Int) (x2 : Int) (x3 : Int) (x4 : Int) (m0 : zM) {Q : Int → zM → Prop} (hx1 : inR x1) (hx2 : inR x2) (hx3 : inR x3) (hx4 : inR x4) (h : zok m0 → (9261 ≤ x4 → Q (-3) m0) ∧ (¬ (9261 ≤ x4) → (x2 < 0 → Q (-3) m0) ∧ (¬ (x2 < 0) → zCt K (d + 3) mX10_ticks [rr K 98, .int (iz x4), .int (iz x1)] m0 (fun r3 m4 => inR r3 → zok m4 → (r3 = x4 → (x3 = 0 → Q x4 m4) ∧ (¬ (x3 = 0) → zV K mX10_restAt (d + 4) 14 [(0, rr K 98), (1, .int (iz x1)), (2, .int (iz x2)), (3, .int (iz (x3 + (-1)))), (4, .int (iz (x4 + 1)))] [] m4 Q)) ∧ (¬ (r3 = x4) → zV K mX10_restAt (d + 4) 14 [(0, rr K 98), (1, .int (iz x1)), (2, .int (iz x2)), (3, .int (iz x3)), (4, .int (iz (x4 + 1)))] [] m4 Q))))) : zV K mX10_restAt (d + 4) 14 [(0, rr K 98), (1, .int (iz x1)), (2, .int (iz x2)), (3, .int (iz x3)), (4, .int (iz x4))] [] m0 Q := by
  refine zV_ok (fun hm0 => ?_)
  replace h := h hm0
  refine zV_iload (pc := 14) dX10_restAt_14 4 rfl ?_
  refine zV_sipush (pc := 16) dX10_restAt_16 (by decide) ?_
  refine zV_icmp_ge (pc := 19) (tgt := 54) dX10_restAt_19 (by decide) hx4 (inRd rfl) (fun c1 => ?_) (fun c1 => ?_)
  · skip
    replace h := h.1 c1
    refine zV_bipush (pc := 54) dX10_restAt_54 (by decide) ?_
    exact zV_iret (pc := 56) rfl dX10_restAt_56 (inRd rfl) h
  · skip
    replace h := h.2 c1
    refine zV_iload_n (pc := 22) dX10_restAt_22 rfl 2 rfl ?_
    refine zV_if_lt (pc := 23) (tgt := 54) dX10_restAt_23 (by decide) hx2 (fun c2 => ?_) (fun c2 => ?_)
    · skip
      replace h := h.1 c2
      refine zV_bipush (pc := 54) dX10_restAt_54 (by decide) ?_
      exact zV_iret (pc := 56) rfl dX10_restAt_56 (inRd rfl) h
    · skip
      replace h := h.2 c2
      refine zV_aloadr_n (pc := 26) dX10_restAt_26 rfl 0 rfl ?_
      refine zV_iload (pc := 27) dX10_restAt_27 4 rfl ?_
      refine zV_iload_n (pc := 29) dX10_restAt_29 rfl 1 rfl ?_
      refine zV_callV (pc := 30) (mc := mX10_ticks) (As := [.int (iz x4), .int (iz x1)]) (rest := []) dX10_restAt_30 zcX10_173 ziX10_ticks zsX10_ticks rfl rfl rfl rfl (Nat.le_of_ble_eq_true rfl) h (fun r3 m4 hr3 h => zV_ok (fun hm4 => ?_))
      replace h := h hr3 hm4
      refine zV_iload (pc := 33) dX10_restAt_33 4 rfl ?_
      refine zV_icmp_ne (pc := 35) (tgt := 48) dX10_restAt_35 (by decide) hr3 hx4 (fun c5 => ?_) (fun c5 => ?_)
      · skip
        replace h := h.2 c5
        refine zV_iinc (pc := 48) (loc' := [(4, .int (iz (x4 + 1))), (0, rr K 98), (1, .int (iz x1)), (2, .int (iz x2)), (3, .int (iz x3))]) dX10_restAt_48 4 rfl (by decide) rfl ?_
        refine zV_goto (pc := 51) (tgt := 14) dX10_restAt_51 (by decide) ?_
        exact zV_sub [1, 2, 3, 4, 0] rfl h
      · replace c5 := Classical.not_not.mp c5
        replace h := h.1 c5
        refine zV_iload_n (pc := 38) dX10_restAt_38 rfl 3 rfl ?_
        refine zV_if_ne (pc := 39) (tgt := 45) dX10_restAt_39 (by decide) hx3 (fun c6 => ?_) (fun c6 => ?_)
        · skip
          replace h := h.2 c6
          refine zV_iinc (pc := 45) (loc' := [(3, .int (iz (x3 + (-1)))), (0, rr K 98), (1, .int (iz x1)), (2, .int (iz x2)), (4, .int (iz x4))]) dX10_restAt_45 3 rfl (by decide) rfl ?_
          refine zV_iinc (pc := 48) (loc' := [(4, .int (iz (x4 + 1))), (3, .int (iz (x3 + (-1)))), (0, rr K 98), (1, .int (iz x1)), (2, .int (iz x2))]) dX10_restAt_48 4 rfl (by decide) rfl ?_
          refine zV_goto (pc := 51) (tgt := 14) dX10_restAt_51 (by decide) ?_
          exact zV_sub [2, 3, 4, 1, 0] rfl h
        · replace c6 := Classical.not_not.mp c6
          replace h := h.1 c6
          refine zV_iload (pc := 42) dX10_restAt_42 4 rfl ?_
          exact zV_iret (pc := 44) rfl dX10_restAt_44 hx4 h

set_option maxRecDepth 100000 in
set_option maxHeartbeats 4000000 in
theorem vc_X10_gain_0 {K : zCx} {d : Nat} (x1 : Int) (x2 : Int) (m0 : zM) {Q : Int → zM → Prop} (hx1 : inR x1) (hx2 : inR x2) (h : zok m0 → ((0 ≤ x1 ∧ x1 ≤ 4) → ((0 ≤ x2 ∧ x2 ≤ 8) → ((m0.1 98 0) = 20 → Q (-98) m0) ∧ (¬ ((m0.1 98 0) = 20) → zCt K (d + 4) mX10_go [rr K 98, .int (iz x2)] m0 (fun r8 m9 => inR r8 → zok m9 → zCt K (d + 4) mX10_stand [rr K 98, .int (iz (m9.1 98 19))] m9 (fun r10 m11 => inR r10 → zok m11 → 0 ≤ x1 ∧ x1 < 5 ∧ (∀ v14 : Int, v14 = (m11.1 106 x1) → (inR ((m11.1 98 0) + 1) ∧ (∀ m17 : zM, m17 = sI m11 98 0 ((m11.1 98 0) + 1) → zok m17 → (zCt K (d + 4) mX10_go [rr K 98, .int (iz x2)] m17 (fun r19 m20 => inR r19 → zok m20 → zCt K (d + 4) mX10_stand [rr K 98, .int (iz (m20.1 98 19))] m20 (fun r21 m22 => inR r21 → zok m22 → ∀ v23 : Int, v23 = (m22.1 106 x1) → (inR ((m22.1 98 0) - 1) ∧ (∀ m26 : zM, m26 = sI m22 98 0 ((m22.1 98 0) - 1) → zok m26 → (inR (v23 - v14) ∧ (Q (v23 - v14) m26)))))))))))))) ∧ (¬ ((0 ≤ x2 ∧ x2 ≤ 8)) → Q (-99) m0)) ∧ (¬ ((0 ≤ x1 ∧ x1 ≤ 4)) → Q (-99) m0)) : zV K mX10_gain (d + 5) 0 [(0, rr K 98), (1, .int (iz x1)), (2, .int (iz x2))] [] m0 Q := by
  refine zV_ok (fun hm0 => ?_)
  replace h := h hm0
  refine zV_iload_n (pc := 0) dX10_gain_0 rfl 1 rfl ?_
  refine zV_callSf (pc := 1) (mc := mX10_isNode) (As := [.int (iz x1)]) (rest := []) dX10_gain_1 zcX10_131 ztX10_isNode rfl rfl (Nat.le_of_ble_eq_true rfl) (c_X10_isNode hx1) (fun hr1 => ?_)
  refine zV_if_eq (pc := 4) (tgt := 14) dX10_gain_4 (by decide) (inR_b2i _) (fun c3 => ?_) (fun c3 => ?_)
  · replace c3 := b2i_fp c3
    replace h := h.2 c3
    refine zV_bipush (pc := 14) dX10_gain_14 (by decide) ?_
    exact zV_iret (pc := 16) rfl dX10_gain_16 (inRd rfl) h
  · replace c3 := b2i_tp c3
    replace h := h.1 c3
    refine zV_iload_n (pc := 7) dX10_gain_7 rfl 2 rfl ?_
    refine zV_callSf (pc := 8) (mc := mX10_isCorner) (As := [.int (iz x2)]) (rest := []) dX10_gain_8 zcX10_162 ztX10_isCorner rfl rfl (Nat.le_of_ble_eq_true rfl) (c_X10_isCorner hx2) (fun hr4 => ?_)
    refine zV_if_ne (pc := 11) (tgt := 17) dX10_gain_11 (by decide) (inR_b2i _) (fun c6 => ?_) (fun c6 => ?_)
    · replace c6 := b2i_tp c6
      replace h := h.1 c6
      refine zV_aloadr_n (pc := 17) dX10_gain_17 rfl 0 rfl ?_
      refine zV_getI (pc := 18) (kz := 0) dX10_gain_18 zfX10_7 rfl rfl rfl ?_
      refine zV_bipush (pc := 21) dX10_gain_21 (by decide) ?_
      refine zV_icmp_ne (pc := 23) (tgt := 29) dX10_gain_23 (by decide) (hm0 _ _) (inRd rfl) (fun c7 => ?_) (fun c7 => ?_)
      · skip
        replace h := h.2 c7
        refine zV_aloadr_n (pc := 29) dX10_gain_29 rfl 0 rfl ?_
        refine zV_iload_n (pc := 30) dX10_gain_30 rfl 2 rfl ?_
        refine zV_callV (pc := 31) (mc := mX10_go) (As := [.int (iz x2)]) (rest := []) dX10_gain_31 zcX10_188 ziX10_go zsX10_go rfl rfl rfl rfl (Nat.le_of_ble_eq_true rfl) h (fun r8 m9 hr8 h => zV_ok (fun hm9 => ?_))
        replace h := h hr8 hm9
        refine zV_aloadr_n (pc := 34) dX10_gain_34 rfl 0 rfl ?_
        refine zV_aloadr_n (pc := 35) dX10_gain_35 rfl 0 rfl ?_
        refine zV_getI (pc := 36) (kz := 19) dX10_gain_36 zfX10_179 rfl rfl rfl ?_
        refine zV_callV (pc := 39) (mc := mX10_stand) (As := [.int (iz (m9.1 98 19))]) (rest := []) dX10_gain_39 zcX10_166 ziX10_stand zsX10_stand rfl rfl rfl rfl (Nat.le_of_ble_eq_true rfl) h (fun r10 m11 hr10 h => zV_ok (fun hm11 => ?_))
        replace h := h hr10 hm11
        refine zV_aloadr_n (pc := 42) dX10_gain_42 rfl 0 rfl ?_
        refine zV_getR (pc := 43) (b := 106) dX10_gain_43 zfX10_35 rfl rfl rfl ?_
        refine zV_iload_n (pc := 46) dX10_gain_46 rfl 1 rfl ?_
        obtain ⟨o12, o13, h⟩ := h
        refine zV_iald (pc := 47) dX10_gain_47 rfl o12 o13 (inR_ix o12 o13 rfl) ?_
        refine zV_name (fun v14 e15 => ?_)
        replace h := h v14 e15
        have hrv14 : inR v14 := by rw [e15]; exact (hm11 _ _)
        refine zV_istore_n (pc := 48) (loc' := [(3, .int (iz v14)), (0, rr K 98), (1, .int (iz x1)), (2, .int (iz x2))]) dX10_gain_48 rfl (by decide) rfl ?_
        refine zV_aloadr_n (pc := 49) dX10_gain_49 rfl 1 rfl ?_
        refine zV_dup (pc := 50) dX10_gain_50 rfl ?_
        refine zV_getI (pc := 51) (kz := 0) dX10_gain_51 zfX10_7 rfl rfl rfl ?_
        refine zV_iconst (pc := 54) dX10_gain_54 ?_
        refine zV_iadd (pc := 55) dX10_gain_55 ?_
        obtain ⟨o16, h⟩ := h
        refine zV_putI (pc := 56) (kz := 0) dX10_gain_56 zpX10_7 rfl rfl rfl o16 rfl rfl ?_
        refine zV_mem (fun m17 e18 => zV_ok (fun hm17 => ?_))
        replace h := h m17 e18 hm17
        refine zV_aloadr_n (pc := 59) dX10_gain_59 rfl 1 rfl ?_
        refine zV_iload_n (pc := 60) dX10_gain_60 rfl 3 rfl ?_
        refine zV_callV (pc := 61) (mc := mX10_go) (As := [.int (iz x2)]) (rest := []) dX10_gain_61 zcX10_188 ziX10_go zsX10_go rfl rfl rfl rfl (Nat.le_of_ble_eq_true rfl) h (fun r19 m20 hr19 h => zV_ok (fun hm20 => ?_))
        replace h := h hr19 hm20
        refine zV_aloadr_n (pc := 64) dX10_gain_64 rfl 1 rfl ?_
        refine zV_aloadr_n (pc := 65) dX10_gain_65 rfl 1 rfl ?_
        refine zV_getI (pc := 66) (kz := 19) dX10_gain_66 zfX10_179 rfl rfl rfl ?_
        refine zV_callV (pc := 69) (mc := mX10_stand) (As := [.int (iz (m20.1 98 19))]) (rest := []) dX10_gain_69 zcX10_166 ziX10_stand zsX10_stand rfl rfl rfl rfl (Nat.le_of_ble_eq_true rfl) h (fun r21 m22 hr21 h => zV_ok (fun hm22 => ?_))
        replace h := h hr21 hm22
        refine zV_aloadr_n (pc := 72) dX10_gain_72 rfl 1 rfl ?_
        refine zV_getR (pc := 73) (b := 106) dX10_gain_73 zfX10_35 rfl rfl rfl ?_
        refine zV_iload_n (pc := 76) dX10_gain_76 rfl 2 rfl ?_
        refine zV_iald (pc := 77) dX10_gain_77 rfl o12 o13 (inR_ix o12 o13 rfl) ?_
        refine zV_name (fun v23 e24 => ?_)
        replace h := h v23 e24
        have hrv23 : inR v23 := by rw [e24]; exact (hm22 _ _)
        refine zV_istore (pc := 78) (loc' := [(4, .int (iz v23)), (3, .int (iz v14)), (0, rr K 98), (1, .int (iz x1)), (2, .int (iz x2))]) dX10_gain_78 (by decide) rfl ?_
        refine zV_aloadr_n (pc := 80) dX10_gain_80 rfl 2 rfl ?_
        refine zV_dup (pc := 81) dX10_gain_81 rfl ?_
        refine zV_getI (pc := 82) (kz := 0) dX10_gain_82 zfX10_7 rfl rfl rfl ?_
        refine zV_iconst (pc := 85) dX10_gain_85 ?_
        refine zV_isub (pc := 86) dX10_gain_86 ?_
        obtain ⟨o25, h⟩ := h
        refine zV_putI (pc := 87) (kz := 0) dX10_gain_87 zpX10_7 rfl rfl rfl o25 rfl rfl ?_
        refine zV_mem (fun m26 e27 => zV_ok (fun hm26 => ?_))
        replace h := h m26 e27 hm26
        refine zV_iload (pc := 90) dX10_gain_90 0 rfl ?_
        refine zV_iload_n (pc := 92) dX10_gain_92 rfl 1 rfl ?_
        refine zV_isub (pc := 93) dX10_gain_93 ?_
        obtain ⟨o28, h⟩ := h
        exact zV_iret (pc := 94) rfl dX10_gain_94 o28 h
      · replace c7 := Classical.not_not.mp c7
        replace h := h.1 c7
        refine zV_bipush (pc := 26) dX10_gain_26 (by decide) ?_
        exact zV_iret (pc := 28) rfl dX10_gain_28 (inRd rfl) h
    · replace c6 := b2i_fn c6
      replace h := h.2 c6
      refine zV_bipush (pc := 14) dX10_gain_14 (by decide) ?_
      exact zV_iret (pc := 16) rfl dX10_gain_16 (inRd rfl) h

set_option maxRecDepth 100000 in
set_option maxHeartbeats 4000000 in
theorem vc_X10_feed_0 {K : zCx} {d : Nat} (l1 : Int64) (x3 : Int) (m0 : zM) {Q : Int → zM → Prop} (hx3 : inR x3) (h : zok m0 → ((1 ≤ x3 ∧ x3 ≤ 8) → inR ((m0.1 98 23) + x3) ∧ ((((m0.1 98 23) + x3) ≤ 220 → zV K mX10_feed (d + 2) 30 [(0, rr K 98), (1, .long l1), (3, .int (iz x3)), (4, .int (iz 0))] [] m0 Q) ∧ (¬ (((m0.1 98 23) + x3) ≤ 220) → Q (-2) m0))) ∧ (¬ ((1 ≤ x3 ∧ x3 ≤ 8)) → Q (-1) m0)) : zV K mX10_feed (d + 2) 0 [(0, rr K 98), (1, .long l1), (3, .int (iz x3))] [] m0 Q := by
  refine zV_ok (fun hm0 => ?_)
  replace h := h hm0
  refine zV_iload_n (pc := 0) dX10_feed_0 rfl 2 rfl ?_
  refine zV_iconst (pc := 1) dX10_feed_1 ?_
  refine zV_bipush (pc := 2) dX10_feed_2 (by decide) ?_
  refine zV_callSf (pc := 4) (mc := mX10_in) (As := [.int (iz x3), .int (iz 1), .int (iz 8)]) (rest := []) dX10_feed_4 zcX10_114 ztX10_in rfl rfl (Nat.le_of_ble_eq_true rfl) (c_X10_in hx3 (inRd rfl) (inRd rfl)) (fun hr1 => ?_)
  refine zV_if_ne (pc := 7) (tgt := 12) dX10_feed_7 (by decide) (inR_b2i _) (fun c3 => ?_) (fun c3 => ?_)
  · replace c3 := b2i_tp c3
    replace h := h.1 c3
    refine zV_aloadr_n (pc := 12) dX10_feed_12 rfl 0 rfl ?_
    refine zV_getI (pc := 13) (kz := 23) dX10_feed_13 zfX10_191 rfl rfl rfl ?_
    refine zV_iload_n (pc := 16) dX10_feed_16 rfl 2 rfl ?_
    refine zV_iadd (pc := 17) dX10_feed_17 ?_
    refine zV_sipush (pc := 18) dX10_feed_18 (by decide) ?_
    obtain ⟨o4, h⟩ := h
    refine zV_icmp_le (pc := 21) (tgt := 27) dX10_feed_21 (by decide) o4 (inRd rfl) (fun c5 => ?_) (fun c5 => ?_)
    · skip
      replace h := h.1 c5
      refine zV_iconst (pc := 27) dX10_feed_27 ?_
      refine zV_istore (pc := 28) (loc' := [(4, .int (iz 0)), (0, rr K 98), (1, .long l1), (3, .int (iz x3))]) dX10_feed_28 (by decide) rfl ?_
      exact zV_sub [1, 2, 3, 0] rfl h
    · skip
      replace h := h.2 c5
      refine zV_bipush (pc := 24) dX10_feed_24 (by decide) ?_
      exact zV_iret (pc := 26) rfl dX10_feed_26 (inRd rfl) h
  · replace c3 := b2i_fn c3
    replace h := h.2 c3
    refine zV_iconst (pc := 10) dX10_feed_10 ?_
    exact zV_iret (pc := 11) rfl dX10_feed_11 (inRd rfl) h
set_option maxRecDepth 100000 in
set_option maxHeartbeats 4000000 in
theorem vc_X10_feed_30 {K : zCx} {d : Nat} (l1 : Int64) (x3 : Int) (x4 : Int) (m0 : zM) {Q : Int → zM → Prop} (hx3 : inR x3) (hx4 : inR x4) (h : zok m0 → (x3 ≤ x4 → Q (m0.1 98 23) m0) ∧ (¬ (x3 ≤ x4) → 0 ≤ (m0.1 98 23) ∧ (m0.1 98 23) < 220 ∧ (∀ m4 : zM, m4 = sI m0 111 (m0.1 98 23) (((((l1).toUInt64 >>> ((iz (8 * x4)).toInt64.toUInt64 &&& Int64.toUInt64 63)).toInt64 &&& (255 : Int64))).toInt32.toInt) → zok m4 → (inR ((m4.1 98 23) + 1) ∧ (∀ m7 : zM, m7 = sI m4 98 23 ((m4.1 98 23) + 1) → zok m7 → (zV K mX10_feed (d + 2) 30 [(0, rr K 98), (1, .long l1), (3, .int (iz x3)), (4, .int (iz (x4 + 1)))] [] m7 Q)))))) : zV K mX10_feed (d + 2) 30 [(0, rr K 98), (1, .long l1), (3, .int (iz x3)), (4, .int (iz x4))] [] m0 Q := by
  refine zV_ok (fun hm0 => ?_)
  replace h := h hm0
  refine zV_iload (pc := 30) dX10_feed_30 3 rfl ?_
  refine zV_iload_n (pc := 32) dX10_feed_32 rfl 2 rfl ?_
  refine zV_icmp_ge (pc := 33) (tgt := 73) dX10_feed_33 (by decide) hx4 hx3 (fun c1 => ?_) (fun c1 => ?_)
  · skip
    replace h := h.1 c1
    refine zV_aloadr_n (pc := 73) dX10_feed_73 rfl 0 rfl ?_
    refine zV_getI (pc := 74) (kz := 23) dX10_feed_74 zfX10_191 rfl rfl rfl ?_
    exact zV_iret (pc := 77) rfl dX10_feed_77 (hm0 _ _) h
  · skip
    replace h := h.2 c1
    refine zV_aloadr_n (pc := 36) dX10_feed_36 rfl 0 rfl ?_
    refine zV_getR (pc := 37) (b := 111) dX10_feed_37 zfX10_50 rfl rfl rfl ?_
    refine zV_aloadr_n (pc := 40) dX10_feed_40 rfl 0 rfl ?_
    refine zV_getI (pc := 41) (kz := 23) dX10_feed_41 zfX10_191 rfl rfl rfl ?_
    refine zV_lload_n (pc := 44) dX10_feed_44 rfl 1 rfl ?_
    refine zV_bipush (pc := 45) dX10_feed_45 (by decide) ?_
    refine zV_iload (pc := 47) dX10_feed_47 3 rfl ?_
    refine zV_imul (pc := 49) dX10_feed_49 ?_
    refine zV_lushr (pc := 50) dX10_feed_50 ?_
    refine zV_ldc2 (pc := 51) (v := 255) dX10_feed_51 (zmem 1466 (by decide +kernel) (by decide +kernel)) ?_
    refine zV_land (pc := 54) dX10_feed_54 ?_
    refine zV_l2i (pc := 55) dX10_feed_55 ?_
    obtain ⟨o2, o3, h⟩ := h
    refine zV_iast (pc := 56) dX10_feed_56 rfl o2 o3 (inR_ix o2 o3 rfl) (inR_of _) ?_
    refine zV_mem (fun m4 e5 => zV_ok (fun hm4 => ?_))
    replace h := h m4 e5 hm4
    refine zV_aloadr_n (pc := 57) dX10_feed_57 rfl 0 rfl ?_
    refine zV_dup (pc := 58) dX10_feed_58 rfl ?_
    refine zV_getI (pc := 59) (kz := 23) dX10_feed_59 zfX10_191 rfl rfl rfl ?_
    refine zV_iconst (pc := 62) dX10_feed_62 ?_
    refine zV_iadd (pc := 63) dX10_feed_63 ?_
    obtain ⟨o6, h⟩ := h
    refine zV_putI (pc := 64) (kz := 23) dX10_feed_64 zpX10_191 rfl rfl rfl o6 rfl rfl ?_
    refine zV_mem (fun m7 e8 => zV_ok (fun hm7 => ?_))
    replace h := h m7 e8 hm7
    refine zV_iinc (pc := 67) (loc' := [(4, .int (iz (x4 + 1))), (0, rr K 98), (1, .long l1), (3, .int (iz x3))]) dX10_feed_67 3 rfl (by decide) rfl ?_
    refine zV_goto (pc := 70) (tgt := 30) dX10_feed_70 (by decide) ?_
    exact zV_sub [1, 2, 3, 0] rfl h

set_option maxRecDepth 100000 in
set_option maxHeartbeats 4000000 in
theorem vc_X10_advance_0 {K : zCx} {d : Nat}  (m0 : zM) {Q : Int → zM → Prop}  (h : zok m0 → ∀ v1 : Int, v1 = (m0.1 98 26) → (zV K mX10_advance (d + 2) 5 [(0, rr K 98), (1, .int (iz v1))] [] m0 Q)) : zV K mX10_advance (d + 2) 0 [(0, rr K 98)] [] m0 Q := by
  refine zV_ok (fun hm0 => ?_)
  replace h := h hm0
  refine zV_aloadr_n (pc := 0) dX10_advance_0 rfl 0 rfl ?_
  refine zV_getI (pc := 1) (kz := 26) dX10_advance_1 zfX10_196 rfl rfl rfl ?_
  refine zV_name (fun v1 e2 => ?_)
  replace h := h v1 e2
  have hrv1 : inR v1 := by rw [e2]; exact (hm0 _ _)
  refine zV_istore_n (pc := 4) (loc' := [(1, .int (iz v1)), (0, rr K 98)]) dX10_advance_4 rfl (by decide) rfl ?_
  exact zV_sub [1, 0] rfl h
set_option maxRecDepth 100000 in
set_option maxHeartbeats 4000000 in
theorem vc_X10_advance_5 {K : zCx} {d : Nat} (x1 : Int) (m0 : zM) {Q : Int → zM → Prop} (hx1 : inR x1) (h : zok m0 → ((m0.1 98 23) ≤ x1 → ∀ m2 : zM, m2 = sI m0 98 25 x1 → zok m2 → (∀ m4 : zM, m4 = sL m2 98 27 (0 : Int64) → zok m4 → ((x1 = (m4.1 98 23) → ∀ m26 : zM, m26 = sI m4 98 24 0 → zok m26 → (∀ m28 : zM, m28 = sI m26 98 26 x1 → zok m28 → (Q 0 m28))) ∧ (¬ (x1 = (m4.1 98 23)) → 0 ≤ x1 ∧ x1 < 220 ∧ (((97 ≤ (m4.1 111 x1) ∧ (m4.1 111 x1) ≤ 122) → ∀ m24 : zM, m24 = sI m4 98 24 1 → zok m24 → (zV K mX10_advance (d + 2) 73 [(0, rr K 98), (1, .int (iz x1))] [] m24 Q)) ∧ (¬ ((97 ≤ (m4.1 111 x1) ∧ (m4.1 111 x1) ≤ 122)) → ((48 ≤ (m4.1 111 x1) ∧ (m4.1 111 x1) ≤ 57) → ∀ m22 : zM, m22 = sI m4 98 24 2 → zok m22 → (zV K mX10_advance (d + 2) 181 [(0, rr K 98), (1, .int (iz x1))] [] m22 Q)) ∧ (¬ ((48 ≤ (m4.1 111 x1) ∧ (m4.1 111 x1) ≤ 57)) → ∀ m15 : zM, m15 = sI m4 98 24 3 → zok m15 → (∀ m17 : zM, m17 = sL m15 98 27 (iz (m15.1 111 x1)).toInt64 → zok m17 → (inR (x1 + 1) ∧ (∀ m20 : zM, m20 = sI m17 98 26 (x1 + 1) → zok m20 → (Q 0 m20))))))))))) ∧ (¬ ((m0.1 98 23) ≤ x1) → 0 ≤ x1 ∧ x1 < 220 ∧ (((m0.1 111 x1) = 32 → zV K mX10_advance (d + 2) 5 [(0, rr K 98), (1, .int (iz (x1 + 1)))] [] m0 Q) ∧ (¬ ((m0.1 111 x1) = 32) → ∀ m33 : zM, m33 = sI m0 98 25 x1 → zok m33 → (∀ m35 : zM, m35 = sL m33 98 27 (0 : Int64) → zok m35 → ((x1 = (m35.1 98 23) → ∀ m55 : zM, m55 = sI m35 98 24 0 → zok m55 → (∀ m57 : zM, m57 = sI m55 98 26 x1 → zok m57 → (Q 0 m57))) ∧ (¬ (x1 = (m35.1 98 23)) → ((97 ≤ (m35.1 111 x1) ∧ (m35.1 111 x1) ≤ 122) → ∀ m53 : zM, m53 = sI m35 98 24 1 → zok m53 → (zV K mX10_advance (d + 2) 73 [(0, rr K 98), (1, .int (iz x1))] [] m53 Q)) ∧ (¬ ((97 ≤ (m35.1 111 x1) ∧ (m35.1 111 x1) ≤ 122)) → ((48 ≤ (m35.1 111 x1) ∧ (m35.1 111 x1) ≤ 57) → ∀ m51 : zM, m51 = sI m35 98 24 2 → zok m51 → (zV K mX10_advance (d + 2) 181 [(0, rr K 98), (1, .int (iz x1))] [] m51 Q)) ∧ (¬ ((48 ≤ (m35.1 111 x1) ∧ (m35.1 111 x1) ≤ 57)) → ∀ m44 : zM, m44 = sI m35 98 24 3 → zok m44 → (∀ m46 : zM, m46 = sL m44 98 27 (iz (m44.1 111 x1)).toInt64 → zok m46 → (inR (x1 + 1) ∧ (∀ m49 : zM, m49 = sI m46 98 26 (x1 + 1) → zok m49 → (Q 0 m49))))))))))))) : zV K mX10_advance (d + 2) 5 [(0, rr K 98), (1, .int (iz x1))] [] m0 Q := by
  refine zV_ok (fun hm0 => ?_)
  replace h := h hm0
  refine zV_iload_n (pc := 5) dX10_advance_5 rfl 1 rfl ?_
  refine zV_aloadr_n (pc := 6) dX10_advance_6 rfl 0 rfl ?_
  refine zV_getI (pc := 7) (kz := 23) dX10_advance_7 zfX10_191 rfl rfl rfl ?_
  refine zV_icmp_ge (pc := 10) (tgt := 30) dX10_advance_10 (by decide) hx1 (hm0 _ _) (fun c1 => ?_) (fun c1 => ?_)
  · skip
    replace h := h.1 c1
    refine zV_aloadr_n (pc := 30) dX10_advance_30 rfl 0 rfl ?_
    refine zV_iload_n (pc := 31) dX10_advance_31 rfl 1 rfl ?_
    refine zV_putI (pc := 32) (kz := 25) dX10_advance_32 zpX10_199 rfl rfl rfl hx1 rfl rfl ?_
    refine zV_mem (fun m2 e3 => zV_ok (fun hm2 => ?_))
    replace h := h m2 e3 hm2
    refine zV_aloadr_n (pc := 35) dX10_advance_35 rfl 0 rfl ?_
    refine zV_lconst (pc := 36) (v := 0) dX10_advance_36 rfl ?_
    refine zV_putL (pc := 37) (kz := 27) dX10_advance_37 zpX10_202 rfl rfl rfl ?_
    refine zV_mem (fun m4 e5 => zV_ok (fun hm4 => ?_))
    replace h := h m4 e5 hm4
    refine zV_iload_n (pc := 40) dX10_advance_40 rfl 1 rfl ?_
    refine zV_aloadr_n (pc := 41) dX10_advance_41 rfl 0 rfl ?_
    refine zV_getI (pc := 42) (kz := 23) dX10_advance_42 zfX10_191 rfl rfl rfl ?_
    refine zV_icmp_ne (pc := 45) (tgt := 56) dX10_advance_45 (by decide) hx1 (hm4 _ _) (fun c6 => ?_) (fun c6 => ?_)
    · skip
      replace h := h.2 c6
      refine zV_aloadr_n (pc := 56) dX10_advance_56 rfl 0 rfl ?_
      refine zV_getR (pc := 57) (b := 111) dX10_advance_57 zfX10_50 rfl rfl rfl ?_
      refine zV_iload_n (pc := 60) dX10_advance_60 rfl 1 rfl ?_
      obtain ⟨o7, o8, h⟩ := h
      refine zV_iald (pc := 61) dX10_advance_61 rfl o7 o8 (inR_ix o7 o8 rfl) ?_
      refine zV_callSf (pc := 62) (mc := mX10_isLetter) (As := [.int (iz (m4.1 111 x1))]) (rest := []) dX10_advance_62 zcX10_209 ztX10_isLetter rfl rfl (Nat.le_of_ble_eq_true rfl) (c_X10_isLetter (hm4 _ _)) (fun hr9 => ?_)
      refine zV_if_eq (pc := 65) (tgt := 164) dX10_advance_65 (by decide) (inR_b2i _) (fun c11 => ?_) (fun c11 => ?_)
      · replace c11 := b2i_fp c11
        replace h := h.2 c11
        refine zV_aloadr_n (pc := 164) dX10_advance_164 rfl 0 rfl ?_
        refine zV_getR (pc := 165) (b := 111) dX10_advance_165 zfX10_50 rfl rfl rfl ?_
        refine zV_iload_n (pc := 168) dX10_advance_168 rfl 1 rfl ?_
        refine zV_iald (pc := 169) dX10_advance_169 rfl o7 o8 (inR_ix o7 o8 rfl) ?_
        refine zV_callSf (pc := 170) (mc := mX10_isDigit) (As := [.int (iz (m4.1 111 x1))]) (rest := []) dX10_advance_170 zcX10_216 ztX10_isDigit rfl rfl (Nat.le_of_ble_eq_true rfl) (c_X10_isDigit (hm4 _ _)) (fun hr12 => ?_)
        refine zV_if_eq (pc := 173) (tgt := 248) dX10_advance_173 (by decide) (inR_b2i _) (fun c14 => ?_) (fun c14 => ?_)
        · replace c14 := b2i_fp c14
          replace h := h.2 c14
          refine zV_aloadr_n (pc := 248) dX10_advance_248 rfl 0 rfl ?_
          refine zV_iconst (pc := 249) dX10_advance_249 ?_
          refine zV_putI (pc := 250) (kz := 24) dX10_advance_250 zpX10_206 rfl rfl rfl (inRd rfl) rfl rfl ?_
          refine zV_mem (fun m15 e16 => zV_ok (fun hm15 => ?_))
          replace h := h m15 e16 hm15
          refine zV_aloadr_n (pc := 253) dX10_advance_253 rfl 0 rfl ?_
          refine zV_aloadr_n (pc := 254) dX10_advance_254 rfl 0 rfl ?_
          refine zV_getR (pc := 255) (b := 111) dX10_advance_255 zfX10_50 rfl rfl rfl ?_
          refine zV_iload_n (pc := 258) dX10_advance_258 rfl 1 rfl ?_
          refine zV_iald (pc := 259) dX10_advance_259 rfl o7 o8 (inR_ix o7 o8 rfl) ?_
          refine zV_i2l (pc := 260) dX10_advance_260 ?_
          refine zV_putL (pc := 261) (kz := 27) dX10_advance_261 zpX10_202 rfl rfl rfl ?_
          refine zV_mem (fun m17 e18 => zV_ok (fun hm17 => ?_))
          replace h := h m17 e18 hm17
          refine zV_iinc (pc := 264) (loc' := [(1, .int (iz (x1 + 1))), (0, rr K 98)]) dX10_advance_264 1 rfl (by decide) rfl ?_
          refine zV_aloadr_n (pc := 267) dX10_advance_267 rfl 1 rfl ?_
          refine zV_iload_n (pc := 268) dX10_advance_268 rfl 0 rfl ?_
          obtain ⟨o19, h⟩ := h
          refine zV_putI (pc := 269) (kz := 26) dX10_advance_269 zpX10_196 rfl rfl rfl o19 rfl rfl ?_
          refine zV_mem (fun m20 e21 => zV_ok (fun hm20 => ?_))
          replace h := h m20 e21 hm20
          exact zV_vret (pc := 272) rfl dX10_advance_272 h
        · replace c14 := b2i_tp c14
          replace h := h.1 c14
          refine zV_aloadr_n (pc := 176) dX10_advance_176 rfl 0 rfl ?_
          refine zV_iconst (pc := 177) dX10_advance_177 ?_
          refine zV_putI (pc := 178) (kz := 24) dX10_advance_178 zpX10_206 rfl rfl rfl (inRd rfl) rfl rfl ?_
          refine zV_mem (fun m22 e23 => zV_ok (fun hm22 => ?_))
          replace h := h m22 e23 hm22
          exact zV_sub [0, 1] rfl h
      · replace c11 := b2i_tp c11
        replace h := h.1 c11
        refine zV_aloadr_n (pc := 68) dX10_advance_68 rfl 0 rfl ?_
        refine zV_iconst (pc := 69) dX10_advance_69 ?_
        refine zV_putI (pc := 70) (kz := 24) dX10_advance_70 zpX10_206 rfl rfl rfl (inRd rfl) rfl rfl ?_
        refine zV_mem (fun m24 e25 => zV_ok (fun hm24 => ?_))
        replace h := h m24 e25 hm24
        exact zV_sub [0, 1] rfl h
    · replace c6 := Classical.not_not.mp c6
      replace h := h.1 c6
      refine zV_aloadr_n (pc := 48) dX10_advance_48 rfl 0 rfl ?_
      refine zV_iconst (pc := 49) dX10_advance_49 ?_
      refine zV_putI (pc := 50) (kz := 24) dX10_advance_50 zpX10_206 rfl rfl rfl (inRd rfl) rfl rfl ?_
      refine zV_mem (fun m26 e27 => zV_ok (fun hm26 => ?_))
      replace h := h m26 e27 hm26
      refine zV_goto (pc := 53) (tgt := 267) dX10_advance_53 (by decide) ?_
      refine zV_aloadr_n (pc := 267) dX10_advance_267 rfl 0 rfl ?_
      refine zV_iload_n (pc := 268) dX10_advance_268 rfl 1 rfl ?_
      refine zV_putI (pc := 269) (kz := 26) dX10_advance_269 zpX10_196 rfl rfl rfl hx1 rfl rfl ?_
      refine zV_mem (fun m28 e29 => zV_ok (fun hm28 => ?_))
      replace h := h m28 e29 hm28
      exact zV_vret (pc := 272) rfl dX10_advance_272 h
  · skip
    replace h := h.2 c1
    refine zV_aloadr_n (pc := 13) dX10_advance_13 rfl 0 rfl ?_
    refine zV_getR (pc := 14) (b := 111) dX10_advance_14 zfX10_50 rfl rfl rfl ?_
    refine zV_iload_n (pc := 17) dX10_advance_17 rfl 1 rfl ?_
    obtain ⟨o30, o31, h⟩ := h
    refine zV_iald (pc := 18) dX10_advance_18 rfl o30 o31 (inR_ix o30 o31 rfl) ?_
    refine zV_bipush (pc := 19) dX10_advance_19 (by decide) ?_
    refine zV_icmp_ne (pc := 21) (tgt := 30) dX10_advance_21 (by decide) (hm0 _ _) (inRd rfl) (fun c32 => ?_) (fun c32 => ?_)
    · skip
      replace h := h.2 c32
      refine zV_aloadr_n (pc := 30) dX10_advance_30 rfl 0 rfl ?_
      refine zV_iload_n (pc := 31) dX10_advance_31 rfl 1 rfl ?_
      refine zV_putI (pc := 32) (kz := 25) dX10_advance_32 zpX10_199 rfl rfl rfl hx1 rfl rfl ?_
      refine zV_mem (fun m33 e34 => zV_ok (fun hm33 => ?_))
      replace h := h m33 e34 hm33
      refine zV_aloadr_n (pc := 35) dX10_advance_35 rfl 0 rfl ?_
      refine zV_lconst (pc := 36) (v := 0) dX10_advance_36 rfl ?_
      refine zV_putL (pc := 37) (kz := 27) dX10_advance_37 zpX10_202 rfl rfl rfl ?_
      refine zV_mem (fun m35 e36 => zV_ok (fun hm35 => ?_))
      replace h := h m35 e36 hm35
      refine zV_iload_n (pc := 40) dX10_advance_40 rfl 1 rfl ?_
      refine zV_aloadr_n (pc := 41) dX10_advance_41 rfl 0 rfl ?_
      refine zV_getI (pc := 42) (kz := 23) dX10_advance_42 zfX10_191 rfl rfl rfl ?_
      refine zV_icmp_ne (pc := 45) (tgt := 56) dX10_advance_45 (by decide) hx1 (hm35 _ _) (fun c37 => ?_) (fun c37 => ?_)
      · skip
        replace h := h.2 c37
        refine zV_aloadr_n (pc := 56) dX10_advance_56 rfl 0 rfl ?_
        refine zV_getR (pc := 57) (b := 111) dX10_advance_57 zfX10_50 rfl rfl rfl ?_
        refine zV_iload_n (pc := 60) dX10_advance_60 rfl 1 rfl ?_
        refine zV_iald (pc := 61) dX10_advance_61 rfl o30 o31 (inR_ix o30 o31 rfl) ?_
        refine zV_callSf (pc := 62) (mc := mX10_isLetter) (As := [.int (iz (m35.1 111 x1))]) (rest := []) dX10_advance_62 zcX10_209 ztX10_isLetter rfl rfl (Nat.le_of_ble_eq_true rfl) (c_X10_isLetter (hm35 _ _)) (fun hr38 => ?_)
        refine zV_if_eq (pc := 65) (tgt := 164) dX10_advance_65 (by decide) (inR_b2i _) (fun c40 => ?_) (fun c40 => ?_)
        · replace c40 := b2i_fp c40
          replace h := h.2 c40
          refine zV_aloadr_n (pc := 164) dX10_advance_164 rfl 0 rfl ?_
          refine zV_getR (pc := 165) (b := 111) dX10_advance_165 zfX10_50 rfl rfl rfl ?_
          refine zV_iload_n (pc := 168) dX10_advance_168 rfl 1 rfl ?_
          refine zV_iald (pc := 169) dX10_advance_169 rfl o30 o31 (inR_ix o30 o31 rfl) ?_
          refine zV_callSf (pc := 170) (mc := mX10_isDigit) (As := [.int (iz (m35.1 111 x1))]) (rest := []) dX10_advance_170 zcX10_216 ztX10_isDigit rfl rfl (Nat.le_of_ble_eq_true rfl) (c_X10_isDigit (hm35 _ _)) (fun hr41 => ?_)
          refine zV_if_eq (pc := 173) (tgt := 248) dX10_advance_173 (by decide) (inR_b2i _) (fun c43 => ?_) (fun c43 => ?_)
          · replace c43 := b2i_fp c43
            replace h := h.2 c43
            refine zV_aloadr_n (pc := 248) dX10_advance_248 rfl 0 rfl ?_
            refine zV_iconst (pc := 249) dX10_advance_249 ?_
            refine zV_putI (pc := 250) (kz := 24) dX10_advance_250 zpX10_206 rfl rfl rfl (inRd rfl) rfl rfl ?_
            refine zV_mem (fun m44 e45 => zV_ok (fun hm44 => ?_))
            replace h := h m44 e45 hm44
            refine zV_aloadr_n (pc := 253) dX10_advance_253 rfl 0 rfl ?_
            refine zV_aloadr_n (pc := 254) dX10_advance_254 rfl 0 rfl ?_
            refine zV_getR (pc := 255) (b := 111) dX10_advance_255 zfX10_50 rfl rfl rfl ?_
            refine zV_iload_n (pc := 258) dX10_advance_258 rfl 1 rfl ?_
            refine zV_iald (pc := 259) dX10_advance_259 rfl o30 o31 (inR_ix o30 o31 rfl) ?_
            refine zV_i2l (pc := 260) dX10_advance_260 ?_
            refine zV_putL (pc := 261) (kz := 27) dX10_advance_261 zpX10_202 rfl rfl rfl ?_
            refine zV_mem (fun m46 e47 => zV_ok (fun hm46 => ?_))
            replace h := h m46 e47 hm46
            refine zV_iinc (pc := 264) (loc' := [(1, .int (iz (x1 + 1))), (0, rr K 98)]) dX10_advance_264 1 rfl (by decide) rfl ?_
            refine zV_aloadr_n (pc := 267) dX10_advance_267 rfl 1 rfl ?_
            refine zV_iload_n (pc := 268) dX10_advance_268 rfl 0 rfl ?_
            obtain ⟨o48, h⟩ := h
            refine zV_putI (pc := 269) (kz := 26) dX10_advance_269 zpX10_196 rfl rfl rfl o48 rfl rfl ?_
            refine zV_mem (fun m49 e50 => zV_ok (fun hm49 => ?_))
            replace h := h m49 e50 hm49
            exact zV_vret (pc := 272) rfl dX10_advance_272 h
          · replace c43 := b2i_tp c43
            replace h := h.1 c43
            refine zV_aloadr_n (pc := 176) dX10_advance_176 rfl 0 rfl ?_
            refine zV_iconst (pc := 177) dX10_advance_177 ?_
            refine zV_putI (pc := 178) (kz := 24) dX10_advance_178 zpX10_206 rfl rfl rfl (inRd rfl) rfl rfl ?_
            refine zV_mem (fun m51 e52 => zV_ok (fun hm51 => ?_))
            replace h := h m51 e52 hm51
            exact zV_sub [0, 1] rfl h
        · replace c40 := b2i_tp c40
          replace h := h.1 c40
          refine zV_aloadr_n (pc := 68) dX10_advance_68 rfl 0 rfl ?_
          refine zV_iconst (pc := 69) dX10_advance_69 ?_
          refine zV_putI (pc := 70) (kz := 24) dX10_advance_70 zpX10_206 rfl rfl rfl (inRd rfl) rfl rfl ?_
          refine zV_mem (fun m53 e54 => zV_ok (fun hm53 => ?_))
          replace h := h m53 e54 hm53
          exact zV_sub [0, 1] rfl h
      · replace c37 := Classical.not_not.mp c37
        replace h := h.1 c37
        refine zV_aloadr_n (pc := 48) dX10_advance_48 rfl 0 rfl ?_
        refine zV_iconst (pc := 49) dX10_advance_49 ?_
        refine zV_putI (pc := 50) (kz := 24) dX10_advance_50 zpX10_206 rfl rfl rfl (inRd rfl) rfl rfl ?_
        refine zV_mem (fun m55 e56 => zV_ok (fun hm55 => ?_))
        replace h := h m55 e56 hm55
        refine zV_goto (pc := 53) (tgt := 267) dX10_advance_53 (by decide) ?_
        refine zV_aloadr_n (pc := 267) dX10_advance_267 rfl 0 rfl ?_
        refine zV_iload_n (pc := 268) dX10_advance_268 rfl 1 rfl ?_
        refine zV_putI (pc := 269) (kz := 26) dX10_advance_269 zpX10_196 rfl rfl rfl hx1 rfl rfl ?_
        refine zV_mem (fun m57 e58 => zV_ok (fun hm57 => ?_))
        replace h := h m57 e58 hm57
        exact zV_vret (pc := 272) rfl dX10_advance_272 h
    · replace c32 := Classical.not_not.mp c32
      replace h := h.1 c32
      refine zV_iinc (pc := 24) (loc' := [(1, .int (iz (x1 + 1))), (0, rr K 98)]) dX10_advance_24 1 rfl (by decide) rfl ?_
      refine zV_goto (pc := 27) (tgt := 5) dX10_advance_27 (by decide) ?_
      exact zV_sub [1, 0] rfl h
set_option maxRecDepth 100000 in
set_option maxHeartbeats 4000000 in
theorem vc_X10_advance_73 {K : zCx} {d : Nat} (x1 : Int) (m0 : zM) {Q : Int → zM → Prop} (hx1 : inR x1) (h : zok m0 → ((m0.1 98 23) ≤ x1 → inR (x1 - (m0.1 98 25)) ∧ (((x1 - (m0.1 98 25)) ≤ 8 → ∀ m4 : zM, m4 = sL m0 98 27 (m0.2.1 98 27) → zok m4 → (∀ m6 : zM, m6 = sI m4 98 26 x1 → zok m6 → (Q 0 m6))) ∧ (¬ ((x1 - (m0.1 98 25)) ≤ 8) → ∀ m8 : zM, m8 = sL m0 98 27 (0 : Int64) → zok m8 → (∀ m10 : zM, m10 = sI m8 98 26 x1 → zok m10 → (Q 0 m10))))) ∧ (¬ ((m0.1 98 23) ≤ x1) → 0 ≤ x1 ∧ x1 < 220 ∧ (((97 ≤ (m0.1 111 x1) ∧ (m0.1 111 x1) ≤ 122) → inR (x1 - (m0.1 98 25)) ∧ ((8 ≤ (x1 - (m0.1 98 25)) → ∀ m29 : zM, m29 = sL m0 98 27 (0 : Int64) → zok m29 → (zV K mX10_advance (d + 2) 73 [(0, rr K 98), (1, .int (iz (x1 + 1)))] [] m29 Q)) ∧ (¬ (8 ≤ (x1 - (m0.1 98 25))) → ∀ m31 : zM, m31 = sL m0 98 27 ((((27 : Int64) * (m0.2.1 98 27)) + (iz (m0.1 111 x1)).toInt64) - (96 : Int64)) → zok m31 → (zV K mX10_advance (d + 2) 73 [(0, rr K 98), (1, .int (iz (x1 + 1)))] [] m31 Q)))) ∧ (¬ ((97 ≤ (m0.1 111 x1) ∧ (m0.1 111 x1) ≤ 122)) → inR (x1 - (m0.1 98 25)) ∧ (((x1 - (m0.1 98 25)) ≤ 8 → ∀ m19 : zM, m19 = sL m0 98 27 (m0.2.1 98 27) → zok m19 → (∀ m21 : zM, m21 = sI m19 98 26 x1 → zok m21 → (Q 0 m21))) ∧ (¬ ((x1 - (m0.1 98 25)) ≤ 8) → ∀ m23 : zM, m23 = sL m0 98 27 (0 : Int64) → zok m23 → (∀ m25 : zM, m25 = sI m23 98 26 x1 → zok m25 → (Q 0 m25)))))))) : zV K mX10_advance (d + 2) 73 [(0, rr K 98), (1, .int (iz x1))] [] m0 Q := by
  refine zV_ok (fun hm0 => ?_)
  replace h := h hm0
  refine zV_iload_n (pc := 73) dX10_advance_73 rfl 1 rfl ?_
  refine zV_aloadr_n (pc := 74) dX10_advance_74 rfl 0 rfl ?_
  refine zV_getI (pc := 75) (kz := 23) dX10_advance_75 zfX10_191 rfl rfl rfl ?_
  refine zV_icmp_ge (pc := 78) (tgt := 138) dX10_advance_78 (by decide) hx1 (hm0 _ _) (fun c1 => ?_) (fun c1 => ?_)
  · skip
    replace h := h.1 c1
    refine zV_aloadr_n (pc := 138) dX10_advance_138 rfl 0 rfl ?_
    refine zV_iload_n (pc := 139) dX10_advance_139 rfl 1 rfl ?_
    refine zV_aloadr_n (pc := 140) dX10_advance_140 rfl 0 rfl ?_
    refine zV_getI (pc := 141) (kz := 25) dX10_advance_141 zfX10_199 rfl rfl rfl ?_
    refine zV_isub (pc := 144) dX10_advance_144 ?_
    refine zV_bipush (pc := 145) dX10_advance_145 (by decide) ?_
    obtain ⟨o2, h⟩ := h
    refine zV_icmp_le (pc := 147) (tgt := 154) dX10_advance_147 (by decide) o2 (inRd rfl) (fun c3 => ?_) (fun c3 => ?_)
    · skip
      replace h := h.1 c3
      refine zV_aloadr_n (pc := 154) dX10_advance_154 rfl 0 rfl ?_
      refine zV_getL (pc := 155) (kz := 27) dX10_advance_155 zfX10_202 rfl rfl rfl ?_
      refine zV_putL (pc := 158) (kz := 27) dX10_advance_158 zpX10_202 rfl rfl rfl ?_
      refine zV_mem (fun m4 e5 => zV_ok (fun hm4 => ?_))
      replace h := h m4 e5 hm4
      refine zV_goto (pc := 161) (tgt := 267) dX10_advance_161 (by decide) ?_
      refine zV_aloadr_n (pc := 267) dX10_advance_267 rfl 0 rfl ?_
      refine zV_iload_n (pc := 268) dX10_advance_268 rfl 1 rfl ?_
      refine zV_putI (pc := 269) (kz := 26) dX10_advance_269 zpX10_196 rfl rfl rfl hx1 rfl rfl ?_
      refine zV_mem (fun m6 e7 => zV_ok (fun hm6 => ?_))
      replace h := h m6 e7 hm6
      exact zV_vret (pc := 272) rfl dX10_advance_272 h
    · skip
      replace h := h.2 c3
      refine zV_lconst (pc := 150) (v := 0) dX10_advance_150 rfl ?_
      refine zV_goto (pc := 151) (tgt := 158) dX10_advance_151 (by decide) ?_
      refine zV_putL (pc := 158) (kz := 27) dX10_advance_158 zpX10_202 rfl rfl rfl ?_
      refine zV_mem (fun m8 e9 => zV_ok (fun hm8 => ?_))
      replace h := h m8 e9 hm8
      refine zV_goto (pc := 161) (tgt := 267) dX10_advance_161 (by decide) ?_
      refine zV_aloadr_n (pc := 267) dX10_advance_267 rfl 0 rfl ?_
      refine zV_iload_n (pc := 268) dX10_advance_268 rfl 1 rfl ?_
      refine zV_putI (pc := 269) (kz := 26) dX10_advance_269 zpX10_196 rfl rfl rfl hx1 rfl rfl ?_
      refine zV_mem (fun m10 e11 => zV_ok (fun hm10 => ?_))
      replace h := h m10 e11 hm10
      exact zV_vret (pc := 272) rfl dX10_advance_272 h
  · skip
    replace h := h.2 c1
    refine zV_aloadr_n (pc := 81) dX10_advance_81 rfl 0 rfl ?_
    refine zV_getR (pc := 82) (b := 111) dX10_advance_82 zfX10_50 rfl rfl rfl ?_
    refine zV_iload_n (pc := 85) dX10_advance_85 rfl 1 rfl ?_
    obtain ⟨o12, o13, h⟩ := h
    refine zV_iald (pc := 86) dX10_advance_86 rfl o12 o13 (inR_ix o12 o13 rfl) ?_
    refine zV_callSf (pc := 87) (mc := mX10_isLetter) (As := [.int (iz (m0.1 111 x1))]) (rest := []) dX10_advance_87 zcX10_209 ztX10_isLetter rfl rfl (Nat.le_of_ble_eq_true rfl) (c_X10_isLetter (hm0 _ _)) (fun hr14 => ?_)
    refine zV_if_eq (pc := 90) (tgt := 138) dX10_advance_90 (by decide) (inR_b2i _) (fun c16 => ?_) (fun c16 => ?_)
    · replace c16 := b2i_fp c16
      replace h := h.2 c16
      refine zV_aloadr_n (pc := 138) dX10_advance_138 rfl 0 rfl ?_
      refine zV_iload_n (pc := 139) dX10_advance_139 rfl 1 rfl ?_
      refine zV_aloadr_n (pc := 140) dX10_advance_140 rfl 0 rfl ?_
      refine zV_getI (pc := 141) (kz := 25) dX10_advance_141 zfX10_199 rfl rfl rfl ?_
      refine zV_isub (pc := 144) dX10_advance_144 ?_
      refine zV_bipush (pc := 145) dX10_advance_145 (by decide) ?_
      obtain ⟨o17, h⟩ := h
      refine zV_icmp_le (pc := 147) (tgt := 154) dX10_advance_147 (by decide) o17 (inRd rfl) (fun c18 => ?_) (fun c18 => ?_)
      · skip
        replace h := h.1 c18
        refine zV_aloadr_n (pc := 154) dX10_advance_154 rfl 0 rfl ?_
        refine zV_getL (pc := 155) (kz := 27) dX10_advance_155 zfX10_202 rfl rfl rfl ?_
        refine zV_putL (pc := 158) (kz := 27) dX10_advance_158 zpX10_202 rfl rfl rfl ?_
        refine zV_mem (fun m19 e20 => zV_ok (fun hm19 => ?_))
        replace h := h m19 e20 hm19
        refine zV_goto (pc := 161) (tgt := 267) dX10_advance_161 (by decide) ?_
        refine zV_aloadr_n (pc := 267) dX10_advance_267 rfl 0 rfl ?_
        refine zV_iload_n (pc := 268) dX10_advance_268 rfl 1 rfl ?_
        refine zV_putI (pc := 269) (kz := 26) dX10_advance_269 zpX10_196 rfl rfl rfl hx1 rfl rfl ?_
        refine zV_mem (fun m21 e22 => zV_ok (fun hm21 => ?_))
        replace h := h m21 e22 hm21
        exact zV_vret (pc := 272) rfl dX10_advance_272 h
      · skip
        replace h := h.2 c18
        refine zV_lconst (pc := 150) (v := 0) dX10_advance_150 rfl ?_
        refine zV_goto (pc := 151) (tgt := 158) dX10_advance_151 (by decide) ?_
        refine zV_putL (pc := 158) (kz := 27) dX10_advance_158 zpX10_202 rfl rfl rfl ?_
        refine zV_mem (fun m23 e24 => zV_ok (fun hm23 => ?_))
        replace h := h m23 e24 hm23
        refine zV_goto (pc := 161) (tgt := 267) dX10_advance_161 (by decide) ?_
        refine zV_aloadr_n (pc := 267) dX10_advance_267 rfl 0 rfl ?_
        refine zV_iload_n (pc := 268) dX10_advance_268 rfl 1 rfl ?_
        refine zV_putI (pc := 269) (kz := 26) dX10_advance_269 zpX10_196 rfl rfl rfl hx1 rfl rfl ?_
        refine zV_mem (fun m25 e26 => zV_ok (fun hm25 => ?_))
        replace h := h m25 e26 hm25
        exact zV_vret (pc := 272) rfl dX10_advance_272 h
    · replace c16 := b2i_tp c16
      replace h := h.1 c16
      refine zV_aloadr_n (pc := 93) dX10_advance_93 rfl 0 rfl ?_
      refine zV_iload_n (pc := 94) dX10_advance_94 rfl 1 rfl ?_
      refine zV_aloadr_n (pc := 95) dX10_advance_95 rfl 0 rfl ?_
      refine zV_getI (pc := 96) (kz := 25) dX10_advance_96 zfX10_199 rfl rfl rfl ?_
      refine zV_isub (pc := 99) dX10_advance_99 ?_
      refine zV_bipush (pc := 100) dX10_advance_100 (by decide) ?_
      obtain ⟨o27, h⟩ := h
      refine zV_icmp_ge (pc := 102) (tgt := 128) dX10_advance_102 (by decide) o27 (inRd rfl) (fun c28 => ?_) (fun c28 => ?_)
      · skip
        replace h := h.1 c28
        refine zV_lconst (pc := 128) (v := 0) dX10_advance_128 rfl ?_
        refine zV_putL (pc := 129) (kz := 27) dX10_advance_129 zpX10_202 rfl rfl rfl ?_
        refine zV_mem (fun m29 e30 => zV_ok (fun hm29 => ?_))
        replace h := h m29 e30 hm29
        refine zV_iinc (pc := 132) (loc' := [(1, .int (iz (x1 + 1))), (0, rr K 98)]) dX10_advance_132 1 rfl (by decide) rfl ?_
        refine zV_goto (pc := 135) (tgt := 73) dX10_advance_135 (by decide) ?_
        exact zV_sub [1, 0] rfl h
      · skip
        replace h := h.2 c28
        refine zV_ldc2 (pc := 105) (v := 27) dX10_advance_105 (zmem 1478 (by decide +kernel) (by decide +kernel)) ?_
        refine zV_aloadr_n (pc := 108) dX10_advance_108 rfl 0 rfl ?_
        refine zV_getL (pc := 109) (kz := 27) dX10_advance_109 zfX10_202 rfl rfl rfl ?_
        refine zV_lmul (pc := 112) dX10_advance_112 ?_
        refine zV_aloadr_n (pc := 113) dX10_advance_113 rfl 0 rfl ?_
        refine zV_getR (pc := 114) (b := 111) dX10_advance_114 zfX10_50 rfl rfl rfl ?_
        refine zV_iload_n (pc := 117) dX10_advance_117 rfl 1 rfl ?_
        refine zV_iald (pc := 118) dX10_advance_118 rfl o12 o13 (inR_ix o12 o13 rfl) ?_
        refine zV_i2l (pc := 119) dX10_advance_119 ?_
        refine zV_ladd (pc := 120) dX10_advance_120 ?_
        refine zV_ldc2 (pc := 121) (v := 96) dX10_advance_121 (zmem 1479 (by decide +kernel) (by decide +kernel)) ?_
        refine zV_lsub (pc := 124) dX10_advance_124 ?_
        refine zV_goto (pc := 125) (tgt := 129) dX10_advance_125 (by decide) ?_
        refine zV_putL (pc := 129) (kz := 27) dX10_advance_129 zpX10_202 rfl rfl rfl ?_
        refine zV_mem (fun m31 e32 => zV_ok (fun hm31 => ?_))
        replace h := h m31 e32 hm31
        refine zV_iinc (pc := 132) (loc' := [(1, .int (iz (x1 + 1))), (0, rr K 98)]) dX10_advance_132 1 rfl (by decide) rfl ?_
        refine zV_goto (pc := 135) (tgt := 73) dX10_advance_135 (by decide) ?_
        exact zV_sub [1, 0] rfl h
set_option maxRecDepth 100000 in
set_option maxHeartbeats 4000000 in
theorem vc_X10_advance_181 {K : zCx} {d : Nat} (x1 : Int) (m0 : zM) {Q : Int → zM → Prop} (hx1 : inR x1) (h : zok m0 → ((m0.1 98 23) ≤ x1 → ∀ m2 : zM, m2 = sI m0 98 26 x1 → zok m2 → (Q 0 m2)) ∧ (¬ ((m0.1 98 23) ≤ x1) → 0 ≤ x1 ∧ x1 < 220 ∧ (((48 ≤ (m0.1 111 x1) ∧ (m0.1 111 x1) ≤ 57) → inR (x1 - (m0.1 98 25)) ∧ ((3 ≤ (x1 - (m0.1 98 25)) → ∀ m13 : zM, m13 = sL m0 98 27 (m0.2.1 98 27) → zok m13 → (zV K mX10_advance (d + 2) 181 [(0, rr K 98), (1, .int (iz (x1 + 1)))] [] m13 Q)) ∧ (¬ (3 ≤ (x1 - (m0.1 98 25))) → ∀ m15 : zM, m15 = sL m0 98 27 ((((10 : Int64) * (m0.2.1 98 27)) + (iz (m0.1 111 x1)).toInt64) - (48 : Int64)) → zok m15 → (zV K mX10_advance (d + 2) 181 [(0, rr K 98), (1, .int (iz (x1 + 1)))] [] m15 Q)))) ∧ (¬ ((48 ≤ (m0.1 111 x1) ∧ (m0.1 111 x1) ≤ 57)) → ∀ m9 : zM, m9 = sI m0 98 26 x1 → zok m9 → (Q 0 m9))))) : zV K mX10_advance (d + 2) 181 [(0, rr K 98), (1, .int (iz x1))] [] m0 Q := by
  refine zV_ok (fun hm0 => ?_)
  replace h := h hm0
  refine zV_iload_n (pc := 181) dX10_advance_181 rfl 1 rfl ?_
  refine zV_aloadr_n (pc := 182) dX10_advance_182 rfl 0 rfl ?_
  refine zV_getI (pc := 183) (kz := 23) dX10_advance_183 zfX10_191 rfl rfl rfl ?_
  refine zV_icmp_ge (pc := 186) (tgt := 267) dX10_advance_186 (by decide) hx1 (hm0 _ _) (fun c1 => ?_) (fun c1 => ?_)
  · skip
    replace h := h.1 c1
    refine zV_aloadr_n (pc := 267) dX10_advance_267 rfl 0 rfl ?_
    refine zV_iload_n (pc := 268) dX10_advance_268 rfl 1 rfl ?_
    refine zV_putI (pc := 269) (kz := 26) dX10_advance_269 zpX10_196 rfl rfl rfl hx1 rfl rfl ?_
    refine zV_mem (fun m2 e3 => zV_ok (fun hm2 => ?_))
    replace h := h m2 e3 hm2
    exact zV_vret (pc := 272) rfl dX10_advance_272 h
  · skip
    replace h := h.2 c1
    refine zV_aloadr_n (pc := 189) dX10_advance_189 rfl 0 rfl ?_
    refine zV_getR (pc := 190) (b := 111) dX10_advance_190 zfX10_50 rfl rfl rfl ?_
    refine zV_iload_n (pc := 193) dX10_advance_193 rfl 1 rfl ?_
    obtain ⟨o4, o5, h⟩ := h
    refine zV_iald (pc := 194) dX10_advance_194 rfl o4 o5 (inR_ix o4 o5 rfl) ?_
    refine zV_callSf (pc := 195) (mc := mX10_isDigit) (As := [.int (iz (m0.1 111 x1))]) (rest := []) dX10_advance_195 zcX10_216 ztX10_isDigit rfl rfl (Nat.le_of_ble_eq_true rfl) (c_X10_isDigit (hm0 _ _)) (fun hr6 => ?_)
    refine zV_if_eq (pc := 198) (tgt := 267) dX10_advance_198 (by decide) (inR_b2i _) (fun c8 => ?_) (fun c8 => ?_)
    · replace c8 := b2i_fp c8
      replace h := h.2 c8
      refine zV_aloadr_n (pc := 267) dX10_advance_267 rfl 0 rfl ?_
      refine zV_iload_n (pc := 268) dX10_advance_268 rfl 1 rfl ?_
      refine zV_putI (pc := 269) (kz := 26) dX10_advance_269 zpX10_196 rfl rfl rfl hx1 rfl rfl ?_
      refine zV_mem (fun m9 e10 => zV_ok (fun hm9 => ?_))
      replace h := h m9 e10 hm9
      exact zV_vret (pc := 272) rfl dX10_advance_272 h
    · replace c8 := b2i_tp c8
      replace h := h.1 c8
      refine zV_aloadr_n (pc := 201) dX10_advance_201 rfl 0 rfl ?_
      refine zV_iload_n (pc := 202) dX10_advance_202 rfl 1 rfl ?_
      refine zV_aloadr_n (pc := 203) dX10_advance_203 rfl 0 rfl ?_
      refine zV_getI (pc := 204) (kz := 25) dX10_advance_204 zfX10_199 rfl rfl rfl ?_
      refine zV_isub (pc := 207) dX10_advance_207 ?_
      refine zV_iconst (pc := 208) dX10_advance_208 ?_
      obtain ⟨o11, h⟩ := h
      refine zV_icmp_ge (pc := 209) (tgt := 235) dX10_advance_209 (by decide) o11 (inRd rfl) (fun c12 => ?_) (fun c12 => ?_)
      · skip
        replace h := h.1 c12
        refine zV_aloadr_n (pc := 235) dX10_advance_235 rfl 0 rfl ?_
        refine zV_getL (pc := 236) (kz := 27) dX10_advance_236 zfX10_202 rfl rfl rfl ?_
        refine zV_putL (pc := 239) (kz := 27) dX10_advance_239 zpX10_202 rfl rfl rfl ?_
        refine zV_mem (fun m13 e14 => zV_ok (fun hm13 => ?_))
        replace h := h m13 e14 hm13
        refine zV_iinc (pc := 242) (loc' := [(1, .int (iz (x1 + 1))), (0, rr K 98)]) dX10_advance_242 1 rfl (by decide) rfl ?_
        refine zV_goto (pc := 245) (tgt := 181) dX10_advance_245 (by decide) ?_
        exact zV_sub [1, 0] rfl h
      · skip
        replace h := h.2 c12
        refine zV_ldc2 (pc := 212) (v := 10) dX10_advance_212 (zmem 1483 (by decide +kernel) (by decide +kernel)) ?_
        refine zV_aloadr_n (pc := 215) dX10_advance_215 rfl 0 rfl ?_
        refine zV_getL (pc := 216) (kz := 27) dX10_advance_216 zfX10_202 rfl rfl rfl ?_
        refine zV_lmul (pc := 219) dX10_advance_219 ?_
        refine zV_aloadr_n (pc := 220) dX10_advance_220 rfl 0 rfl ?_
        refine zV_getR (pc := 221) (b := 111) dX10_advance_221 zfX10_50 rfl rfl rfl ?_
        refine zV_iload_n (pc := 224) dX10_advance_224 rfl 1 rfl ?_
        refine zV_iald (pc := 225) dX10_advance_225 rfl o4 o5 (inR_ix o4 o5 rfl) ?_
        refine zV_i2l (pc := 226) dX10_advance_226 ?_
        refine zV_ladd (pc := 227) dX10_advance_227 ?_
        refine zV_ldc2 (pc := 228) (v := 48) dX10_advance_228 (zmem 1484 (by decide +kernel) (by decide +kernel)) ?_
        refine zV_lsub (pc := 231) dX10_advance_231 ?_
        refine zV_goto (pc := 232) (tgt := 239) dX10_advance_232 (by decide) ?_
        refine zV_putL (pc := 239) (kz := 27) dX10_advance_239 zpX10_202 rfl rfl rfl ?_
        refine zV_mem (fun m15 e16 => zV_ok (fun hm15 => ?_))
        replace h := h m15 e16 hm15
        refine zV_iinc (pc := 242) (loc' := [(1, .int (iz (x1 + 1))), (0, rr K 98)]) dX10_advance_242 1 rfl (by decide) rfl ?_
        refine zV_goto (pc := 245) (tgt := 181) dX10_advance_245 (by decide) ?_
        exact zV_sub [1, 0] rfl h

set_option maxRecDepth 100000 in
set_option maxHeartbeats 4000000 in
theorem vc_X10_faulty_0 {K : zCx} {d : Nat}  (m0 : zM) {Q : Int → zM → Prop}  (h : zok m0 → ∀ v1 : Int, v1 = (if 0 ≤ (m0.1 98 28) then (m0.1 98 28) else (m0.1 98 25)) → (∀ m3 : zM, m3 = sI m0 98 28 v1 → zok m3 → (Q 0 m3))) : zV K mX10_faulty (d + 1) 0 [(0, rr K 98)] [] m0 Q := by
  refine zV_ok (fun hm0 => ?_)
  replace h := h hm0
  refine zV_aloadr_n (pc := 0) dX10_faulty_0 rfl 0 rfl ?_
  refine zV_aloadr_n (pc := 1) dX10_faulty_1 rfl 0 rfl ?_
  refine zV_getI (pc := 2) (kz := 28) dX10_faulty_2 zfX10_223 rfl rfl rfl ?_
  have key : ∀ v1 : Int, v1 = (if 0 ≤ (m0.1 98 28) then (m0.1 98 28) else (m0.1 98 25)) → zV K mX10_faulty (d + 1) 19 [] [.int (iz v1), rr K 98] m0 Q := by
    intro v1 e2
    replace h := h v1 e2
    have hrv1 : inR v1 := by rw [e2]; (repeat' split) <;> first | with_reducible exact (hm0 _ _)
    refine zV_putI (pc := 19) (kz := 28) dX10_faulty_19 zpX10_223 rfl rfl rfl hrv1 rfl rfl ?_
    refine zV_mem (fun m3 e4 => zV_ok (fun hm3 => ?_))
    replace h := h m3 e4 hm3
    exact zV_vret (pc := 22) rfl dX10_faulty_22 h
  refine zV_if_ge (pc := 5) (tgt := 15) dX10_faulty_5 (by decide) (hm0 _ _) (fun c5 => ?_) (fun c5 => ?_)
  · skip
    refine zV_aloadr_n (pc := 15) dX10_faulty_15 rfl 0 rfl ?_
    refine zV_getI (pc := 16) (kz := 28) dX10_faulty_16 zfX10_223 rfl rfl rfl ?_
    exact zV_sub [] rfl (key _ (if_pos c5).symm)
  · skip
    refine zV_aloadr_n (pc := 8) dX10_faulty_8 rfl 0 rfl ?_
    refine zV_getI (pc := 9) (kz := 25) dX10_faulty_9 zfX10_199 rfl rfl rfl ?_
    refine zV_goto (pc := 12) (tgt := 19) dX10_faulty_12 (by decide) ?_
    exact zV_sub [] rfl (key _ (if_neg c5).symm)

set_option maxRecDepth 100000 in
set_option maxHeartbeats 4000000 in
theorem vc_X10_want_0 {K : zCx} {d : Nat} (x1 : Int) (m0 : zM) {Q : Int → zM → Prop} (hx1 : inR x1) (h : zok m0 → ((m0.1 98 28 < 0) → (x1 = 0 → zCt K (d + 2) mX10_faulty [rr K 98] m0 (fun r5 m6 => inR r5 → zok m6 → Q 0 m6)) ∧ (¬ (x1 = 0) → zCt K (d + 2) mX10_advance [rr K 98] m0 (fun r7 m8 => inR r7 → zok m8 → Q 0 m8))) ∧ (¬ ((m0.1 98 28 < 0)) → Q 0 m0)) : zV K mX10_want (d + 3) 0 [(0, rr K 98), (1, .int (iz x1))] [] m0 Q := by
  refine zV_ok (fun hm0 => ?_)
  replace h := h hm0
  refine zV_aloadr_n (pc := 0) dX10_want_0 rfl 0 rfl ?_
  refine zV_callVf (pc := 1) (mc := mX10_isGood) (As := []) (rest := []) dX10_want_1 zcX10_226 ziX10_isGood zsX10_isGood rfl rfl rfl rfl (Nat.le_of_ble_eq_true rfl) (c_X10_isGood hm0) (fun hr1 => ?_)
  refine zV_if_eq (pc := 4) (tgt := 22) dX10_want_4 (by decide) (inR_b2i _) (fun c3 => ?_) (fun c3 => ?_)
  · replace c3 := b2i_fp c3
    replace h := h.2 c3
    exact zV_vret (pc := 22) rfl dX10_want_22 h
  · replace c3 := b2i_tp c3
    replace h := h.1 c3
    refine zV_iload_n (pc := 7) dX10_want_7 rfl 1 rfl ?_
    refine zV_if_eq (pc := 8) (tgt := 18) dX10_want_8 (by decide) hx1 (fun c4 => ?_) (fun c4 => ?_)
    · skip
      replace h := h.1 c4
      refine zV_aloadr_n (pc := 18) dX10_want_18 rfl 0 rfl ?_
      refine zV_callV (pc := 19) (mc := mX10_faulty) (As := []) (rest := []) dX10_want_19 zcX10_233 ziX10_faulty zsX10_faulty rfl rfl rfl rfl (Nat.le_of_ble_eq_true rfl) h (fun r5 m6 hr5 h => zV_ok (fun hm6 => ?_))
      replace h := h hr5 hm6
      exact zV_vret (pc := 22) rfl dX10_want_22 h
    · skip
      replace h := h.2 c4
      refine zV_aloadr_n (pc := 11) dX10_want_11 rfl 0 rfl ?_
      refine zV_callV (pc := 12) (mc := mX10_advance) (As := []) (rest := []) dX10_want_12 zcX10_230 ziX10_advance zsX10_advance rfl rfl rfl rfl (Nat.le_of_ble_eq_true rfl) h (fun r7 m8 hr7 h => zV_ok (fun hm8 => ?_))
      replace h := h hr7 hm8
      refine zV_goto (pc := 15) (tgt := 22) dX10_want_15 (by decide) ?_
      exact zV_vret (pc := 22) rfl dX10_want_22 h

set_option maxRecDepth 100000 in
set_option maxHeartbeats 4000000 in
theorem vc_X10_wantNumber_0 {K : zCx} {d : Nat} (x1 : Int) (m0 : zM) {Q : Int → zM → Prop} (hx1 : inR x1) (h : zok m0 → ∀ v1 : Int, v1 = (((m0.2.1 98 27)).toInt32.toInt) → (((m0.1 98 24) = 2 → inR ((m0.1 98 26) - (m0.1 98 25)) ∧ ((3 < ((m0.1 98 26) - (m0.1 98 25)) → zCt K (d + 3) mX10_want [rr K 98, .int (iz 0)] m0 (fun r8 m9 => inR r8 → zok m9 → Q v1 m9)) ∧ (¬ (3 < ((m0.1 98 26) - (m0.1 98 25))) → ∀ v10 : Int, v10 = (if x1 < v1 then 0 else 1) → (zCt K (d + 3) mX10_want [rr K 98, .int (iz v10)] m0 (fun r12 m13 => inR r12 → zok m13 → Q v1 m13))))) ∧ (¬ ((m0.1 98 24) = 2) → zCt K (d + 3) mX10_want [rr K 98, .int (iz 0)] m0 (fun r4 m5 => inR r4 → zok m5 → Q v1 m5)))) : zV K mX10_wantNumber (d + 4) 0 [(0, rr K 98), (1, .int (iz x1))] [] m0 Q := by
  refine zV_ok (fun hm0 => ?_)
  replace h := h hm0
  refine zV_aloadr_n (pc := 0) dX10_wantNumber_0 rfl 0 rfl ?_
  refine zV_getL (pc := 1) (kz := 27) dX10_wantNumber_1 zfX10_202 rfl rfl rfl ?_
  refine zV_l2i (pc := 4) dX10_wantNumber_4 ?_
  refine zV_name (fun v1 e2 => ?_)
  replace h := h v1 e2
  have hrv1 : inR v1 := by rw [e2]; exact (inR_of _)
  refine zV_istore_n (pc := 5) (loc' := [(2, .int (iz v1)), (0, rr K 98), (1, .int (iz x1))]) dX10_wantNumber_5 rfl (by decide) rfl ?_
  refine zV_aloadr_n (pc := 6) dX10_wantNumber_6 rfl 1 rfl ?_
  refine zV_aloadr_n (pc := 7) dX10_wantNumber_7 rfl 1 rfl ?_
  refine zV_getI (pc := 8) (kz := 24) dX10_wantNumber_8 zfX10_206 rfl rfl rfl ?_
  refine zV_iconst (pc := 11) dX10_wantNumber_11 ?_
  refine zV_icmp_ne (pc := 12) (tgt := 37) dX10_wantNumber_12 (by decide) (hm0 _ _) (inRd rfl) (fun c3 => ?_) (fun c3 => ?_)
  · skip
    replace h := h.2 c3
    refine zV_iconst (pc := 37) dX10_wantNumber_37 ?_
    refine zV_callV (pc := 38) (mc := mX10_want) (As := [.int (iz 0)]) (rest := []) dX10_wantNumber_38 zcX10_236 ziX10_want zsX10_want rfl rfl rfl rfl (Nat.le_of_ble_eq_true rfl) h (fun r4 m5 hr4 h => zV_ok (fun hm5 => ?_))
    replace h := h hr4 hm5
    refine zV_iload_n (pc := 41) dX10_wantNumber_41 rfl 0 rfl ?_
    exact zV_iret (pc := 42) rfl dX10_wantNumber_42 hrv1 h
  · replace c3 := Classical.not_not.mp c3
    replace h := h.1 c3
    refine zV_aloadr_n (pc := 15) dX10_wantNumber_15 rfl 1 rfl ?_
    refine zV_getI (pc := 16) (kz := 26) dX10_wantNumber_16 zfX10_196 rfl rfl rfl ?_
    refine zV_aloadr_n (pc := 19) dX10_wantNumber_19 rfl 1 rfl ?_
    refine zV_getI (pc := 20) (kz := 25) dX10_wantNumber_20 zfX10_199 rfl rfl rfl ?_
    refine zV_isub (pc := 23) dX10_wantNumber_23 ?_
    refine zV_iconst (pc := 24) dX10_wantNumber_24 ?_
    obtain ⟨o6, h⟩ := h
    refine zV_icmp_gt (pc := 25) (tgt := 37) dX10_wantNumber_25 (by decide) o6 (inRd rfl) (fun c7 => ?_) (fun c7 => ?_)
    · skip
      replace h := h.1 c7
      refine zV_iconst (pc := 37) dX10_wantNumber_37 ?_
      refine zV_callV (pc := 38) (mc := mX10_want) (As := [.int (iz 0)]) (rest := []) dX10_wantNumber_38 zcX10_236 ziX10_want zsX10_want rfl rfl rfl rfl (Nat.le_of_ble_eq_true rfl) h (fun r8 m9 hr8 h => zV_ok (fun hm9 => ?_))
      replace h := h hr8 hm9
      refine zV_iload_n (pc := 41) dX10_wantNumber_41 rfl 0 rfl ?_
      exact zV_iret (pc := 42) rfl dX10_wantNumber_42 hrv1 h
    · skip
      replace h := h.2 c7
      refine zV_iload_n (pc := 28) dX10_wantNumber_28 rfl 0 rfl ?_
      refine zV_iload_n (pc := 29) dX10_wantNumber_29 rfl 2 rfl ?_
      have key : ∀ v10 : Int, v10 = (if x1 < v1 then 0 else 1) → zV K mX10_wantNumber (d + 4) 38 [(2, .int (iz v1))] [.int (iz v10), rr K 98] m0 Q := by
        intro v10 e11
        replace h := h v10 e11
        have hrv10 : inR v10 := by rw [e11]; (repeat' split) <;> first | with_reducible exact (inRd rfl)
        refine zV_callV (pc := 38) (mc := mX10_want) (As := [.int (iz v10)]) (rest := []) dX10_wantNumber_38 zcX10_236 ziX10_want zsX10_want rfl rfl rfl rfl (Nat.le_of_ble_eq_true rfl) h (fun r12 m13 hr12 h => zV_ok (fun hm13 => ?_))
        replace h := h hr12 hm13
        refine zV_iload_n (pc := 41) dX10_wantNumber_41 rfl 0 rfl ?_
        exact zV_iret (pc := 42) rfl dX10_wantNumber_42 hrv1 h
      refine zV_icmp_gt (pc := 30) (tgt := 37) dX10_wantNumber_30 (by decide) hrv1 hx1 (fun c14 => ?_) (fun c14 => ?_)
      · skip
        refine zV_iconst (pc := 37) dX10_wantNumber_37 ?_
        exact zV_sub [0] rfl (key _ (if_pos c14).symm)
      · skip
        refine zV_iconst (pc := 33) dX10_wantNumber_33 ?_
        refine zV_goto (pc := 34) (tgt := 38) dX10_wantNumber_34 (by decide) ?_
        exact zV_sub [0] rfl (key _ (if_neg c14).symm)

set_option maxRecDepth 100000 in
set_option maxHeartbeats 4000000 in
theorem vc_X10_emit_0 {K : zCx} {d : Nat} (x1 : Int) (m0 : zM) {Q : Int → zM → Prop} (hx1 : inR x1) (h : zok m0 → 0 ≤ (m0.1 98 32) ∧ (m0.1 98 32) < 230 ∧ (∀ m3 : zM, m3 = sI m0 112 (m0.1 98 32) x1 → zok m3 → (inR ((m3.1 98 32) + 1) ∧ (∀ m6 : zM, m6 = sI m3 98 32 ((m3.1 98 32) + 1) → zok m6 → (Q 0 m6))))) : zV K mX10_emit (d + 1) 0 [(0, rr K 98), (1, .int (iz x1))] [] m0 Q := by
  refine zV_ok (fun hm0 => ?_)
  replace h := h hm0
  refine zV_aloadr_n (pc := 0) dX10_emit_0 rfl 0 rfl ?_
  refine zV_getR (pc := 1) (b := 112) dX10_emit_1 zfX10_53 rfl rfl rfl ?_
  refine zV_aloadr_n (pc := 4) dX10_emit_4 rfl 0 rfl ?_
  refine zV_getI (pc := 5) (kz := 32) dX10_emit_5 zfX10_240 rfl rfl rfl ?_
  refine zV_iload_n (pc := 8) dX10_emit_8 rfl 1 rfl ?_
  obtain ⟨o1, o2, h⟩ := h
  refine zV_iast (pc := 9) dX10_emit_9 rfl o1 o2 (inR_ix o1 o2 rfl) hx1 ?_
  refine zV_mem (fun m3 e4 => zV_ok (fun hm3 => ?_))
  replace h := h m3 e4 hm3
  refine zV_aloadr_n (pc := 10) dX10_emit_10 rfl 0 rfl ?_
  refine zV_dup (pc := 11) dX10_emit_11 rfl ?_
  refine zV_getI (pc := 12) (kz := 32) dX10_emit_12 zfX10_240 rfl rfl rfl ?_
  refine zV_iconst (pc := 15) dX10_emit_15 ?_
  refine zV_iadd (pc := 16) dX10_emit_16 ?_
  obtain ⟨o5, h⟩ := h
  refine zV_putI (pc := 17) (kz := 32) dX10_emit_17 zpX10_240 rfl rfl rfl o5 rfl rfl ?_
  refine zV_mem (fun m6 e7 => zV_ok (fun hm6 => ?_))
  replace h := h m6 e7 hm6
  exact zV_vret (pc := 20) rfl dX10_emit_20 h

set_option maxRecDepth 100000 in
set_option maxHeartbeats 4000000 in
theorem vc_X10_settle_0 {K : zCx} {d : Nat} (x1 : Int) (m0 : zM) {Q : Int → zM → Prop} (hx1 : inR x1) (h : zok m0 → ((m0.1 98 33) ≤ 0 → Q 0 m0) ∧ (¬ ((m0.1 98 33) ≤ 0) → 0 ≤ ((m0.1 98 33) - 1) ∧ ((m0.1 98 33) - 1) < 230 ∧ (((m0.1 113 ((m0.1 98 33) - 1)) = 10 → Q 0 m0) ∧ (¬ ((m0.1 113 ((m0.1 98 33) - 1)) = 10) → (x1 < (m0.1 113 ((m0.1 98 33) - 1)) → Q 0 m0) ∧ (¬ (x1 < (m0.1 113 ((m0.1 98 33) - 1))) → inR ((m0.1 98 33) - 1) ∧ (∀ m7 : zM, m7 = sI m0 98 33 ((m0.1 98 33) - 1) → zok m7 → (0 ≤ (m7.1 98 33) ∧ (m7.1 98 33) < 230 ∧ (zCt K (d + 1) mX10_emit [rr K 98, .int (iz (m7.1 113 (m7.1 98 33)))] m7 (fun r11 m12 => inR r11 → zok m12 → zV K mX10_settle (d + 2) 0 [(0, rr K 98), (1, .int (iz x1))] [] m12 Q))))))))) : zV K mX10_settle (d + 2) 0 [(0, rr K 98), (1, .int (iz x1))] [] m0 Q := by
  refine zV_ok (fun hm0 => ?_)
  replace h := h hm0
  refine zV_aloadr_n (pc := 0) dX10_settle_0 rfl 0 rfl ?_
  refine zV_getI (pc := 1) (kz := 33) dX10_settle_1 zfX10_243 rfl rfl rfl ?_
  refine zV_if_le (pc := 4) (tgt := 64) dX10_settle_4 (by decide) (hm0 _ _) (fun c1 => ?_) (fun c1 => ?_)
  · skip
    replace h := h.1 c1
    exact zV_vret (pc := 64) rfl dX10_settle_64 h
  · skip
    replace h := h.2 c1
    refine zV_aloadr_n (pc := 7) dX10_settle_7 rfl 0 rfl ?_
    refine zV_getR (pc := 8) (b := 113) dX10_settle_8 zfX10_56 rfl rfl rfl ?_
    refine zV_aloadr_n (pc := 11) dX10_settle_11 rfl 0 rfl ?_
    refine zV_getI (pc := 12) (kz := 33) dX10_settle_12 zfX10_243 rfl rfl rfl ?_
    refine zV_iconst (pc := 15) dX10_settle_15 ?_
    refine zV_isub (pc := 16) dX10_settle_16 ?_
    obtain ⟨o2, o3, h⟩ := h
    refine zV_iald (pc := 17) dX10_settle_17 rfl o2 o3 (inR_ix o2 o3 rfl) ?_
    refine zV_bipush (pc := 18) dX10_settle_18 (by decide) ?_
    refine zV_icmp_eq (pc := 20) (tgt := 64) dX10_settle_20 (by decide) (hm0 _ _) (inRd rfl) (fun c4 => ?_) (fun c4 => ?_)
    · skip
      replace h := h.1 c4
      exact zV_vret (pc := 64) rfl dX10_settle_64 h
    · skip
      replace h := h.2 c4
      refine zV_aloadr_n (pc := 23) dX10_settle_23 rfl 0 rfl ?_
      refine zV_getR (pc := 24) (b := 113) dX10_settle_24 zfX10_56 rfl rfl rfl ?_
      refine zV_aloadr_n (pc := 27) dX10_settle_27 rfl 0 rfl ?_
      refine zV_getI (pc := 28) (kz := 33) dX10_settle_28 zfX10_243 rfl rfl rfl ?_
      refine zV_iconst (pc := 31) dX10_settle_31 ?_
      refine zV_isub (pc := 32) dX10_settle_32 ?_
      refine zV_iald (pc := 33) dX10_settle_33 rfl o2 o3 (inR_ix o2 o3 rfl) ?_
      refine zV_iload_n (pc := 34) dX10_settle_34 rfl 1 rfl ?_
      refine zV_icmp_gt (pc := 35) (tgt := 64) dX10_settle_35 (by decide) (hm0 _ _) hx1 (fun c5 => ?_) (fun c5 => ?_)
      · skip
        replace h := h.1 c5
        exact zV_vret (pc := 64) rfl dX10_settle_64 h
      · skip
        replace h := h.2 c5
        refine zV_aloadr_n (pc := 38) dX10_settle_38 rfl 0 rfl ?_
        refine zV_dup (pc := 39) dX10_settle_39 rfl ?_
        refine zV_getI (pc := 40) (kz := 33) dX10_settle_40 zfX10_243 rfl rfl rfl ?_
        refine zV_iconst (pc := 43) dX10_settle_43 ?_
        refine zV_isub (pc := 44) dX10_settle_44 ?_
        obtain ⟨o6, h⟩ := h
        refine zV_putI (pc := 45) (kz := 33) dX10_settle_45 zpX10_243 rfl rfl rfl o6 rfl rfl ?_
        refine zV_mem (fun m7 e8 => zV_ok (fun hm7 => ?_))
        replace h := h m7 e8 hm7
        refine zV_aloadr_n (pc := 48) dX10_settle_48 rfl 0 rfl ?_
        refine zV_aloadr_n (pc := 49) dX10_settle_49 rfl 0 rfl ?_
        refine zV_getR (pc := 50) (b := 113) dX10_settle_50 zfX10_56 rfl rfl rfl ?_
        refine zV_aloadr_n (pc := 53) dX10_settle_53 rfl 0 rfl ?_
        refine zV_getI (pc := 54) (kz := 33) dX10_settle_54 zfX10_243 rfl rfl rfl ?_
        obtain ⟨o9, o10, h⟩ := h
        refine zV_iald (pc := 57) dX10_settle_57 rfl o9 o10 (inR_ix o9 o10 rfl) ?_
        refine zV_callV (pc := 58) (mc := mX10_emit) (As := [.int (iz (m7.1 113 (m7.1 98 33)))]) (rest := []) dX10_settle_58 zcX10_246 ziX10_emit zsX10_emit rfl rfl rfl rfl (Nat.le_of_ble_eq_true rfl) h (fun r11 m12 hr11 h => zV_ok (fun hm12 => ?_))
        replace h := h hr11 hm12
        refine zV_goto (pc := 61) (tgt := 0) dX10_settle_61 (by decide) ?_
        exact zV_sub [0, 1] rfl h

set_option maxRecDepth 100000 in
set_option maxHeartbeats 4000000 in
theorem vc_X10_hold_0 {K : zCx} {d : Nat} (x1 : Int) (m0 : zM) {Q : Int → zM → Prop} (hx1 : inR x1) (h : zok m0 → 0 ≤ (m0.1 98 33) ∧ (m0.1 98 33) < 230 ∧ (∀ m3 : zM, m3 = sI m0 113 (m0.1 98 33) x1 → zok m3 → (inR ((m3.1 98 33) + 1) ∧ (∀ m6 : zM, m6 = sI m3 98 33 ((m3.1 98 33) + 1) → zok m6 → (zCt K (d + 2) mX10_advance [rr K 98] m6 (fun r8 m9 => inR r8 → zok m9 → Q 0 m9)))))) : zV K mX10_hold (d + 3) 0 [(0, rr K 98), (1, .int (iz x1))] [] m0 Q := by
  refine zV_ok (fun hm0 => ?_)
  replace h := h hm0
  refine zV_aloadr_n (pc := 0) dX10_hold_0 rfl 0 rfl ?_
  refine zV_getR (pc := 1) (b := 113) dX10_hold_1 zfX10_56 rfl rfl rfl ?_
  refine zV_aloadr_n (pc := 4) dX10_hold_4 rfl 0 rfl ?_
  refine zV_getI (pc := 5) (kz := 33) dX10_hold_5 zfX10_243 rfl rfl rfl ?_
  refine zV_iload_n (pc := 8) dX10_hold_8 rfl 1 rfl ?_
  obtain ⟨o1, o2, h⟩ := h
  refine zV_iast (pc := 9) dX10_hold_9 rfl o1 o2 (inR_ix o1 o2 rfl) hx1 ?_
  refine zV_mem (fun m3 e4 => zV_ok (fun hm3 => ?_))
  replace h := h m3 e4 hm3
  refine zV_aloadr_n (pc := 10) dX10_hold_10 rfl 0 rfl ?_
  refine zV_dup (pc := 11) dX10_hold_11 rfl ?_
  refine zV_getI (pc := 12) (kz := 33) dX10_hold_12 zfX10_243 rfl rfl rfl ?_
  refine zV_iconst (pc := 15) dX10_hold_15 ?_
  refine zV_iadd (pc := 16) dX10_hold_16 ?_
  obtain ⟨o5, h⟩ := h
  refine zV_putI (pc := 17) (kz := 33) dX10_hold_17 zpX10_243 rfl rfl rfl o5 rfl rfl ?_
  refine zV_mem (fun m6 e7 => zV_ok (fun hm6 => ?_))
  replace h := h m6 e7 hm6
  refine zV_aloadr_n (pc := 20) dX10_hold_20 rfl 0 rfl ?_
  refine zV_callV (pc := 21) (mc := mX10_advance) (As := []) (rest := []) dX10_hold_21 zcX10_230 ziX10_advance zsX10_advance rfl rfl rfl rfl (Nat.le_of_ble_eq_true rfl) h (fun r8 m9 hr8 h => zV_ok (fun hm9 => ?_))
  replace h := h hr8 hm9
  exact zV_vret (pc := 24) rfl dX10_hold_24 h

set_option maxRecDepth 100000 in
set_option maxHeartbeats 4000000 in
theorem vc_X10_wantValue_0 {K : zCx} {d : Nat}  (m0 : zM) {Q : Int → zM → Prop}  (h : zok m0 → ((m0.1 98 24 = 1 ∧ m0.2.1 98 27 = (286610 : Int64)) → ∀ v6 : Int, v6 = (b2i (decide (m0.1 98 24 = 1 ∧ m0.2.1 98 27 = (286610 : Int64)))) → (zCt K (d + 4) mX10_advance [rr K 98] m0 (fun r8 m9 => inR r8 → zok m9 → ∀ v10 : Int, v10 = (if v6 = 0 then 9 else 4) → (zCt K (d + 4) mX10_wantNumber [rr K 98, .int (iz v10)] m9 (fun r12 m13 => inR r12 → zok m13 → ∀ v14 : Int, v14 = (if v6 = 0 then 300 else 200) → (zCt K (d + 4) mX10_emit [rr K 98, .int (iz (v14 + r12))] m13 (fun r16 m17 => inR r16 → zok m17 → Q 0 m17))))))) ∧ (¬ ((m0.1 98 24 = 1 ∧ m0.2.1 98 27 = (286610 : Int64))) → ((m0.1 98 24 = 1 ∧ m0.2.1 98 27 = (127274 : Int64)) → ∀ v86 : Int, v86 = (b2i (decide (m0.1 98 24 = 1 ∧ m0.2.1 98 27 = (286610 : Int64)))) → (zCt K (d + 4) mX10_advance [rr K 98] m0 (fun r88 m89 => inR r88 → zok m89 → ∀ v90 : Int, v90 = (if v86 = 0 then 9 else 4) → (zCt K (d + 4) mX10_wantNumber [rr K 98, .int (iz v90)] m89 (fun r92 m93 => inR r92 → zok m93 → ∀ v94 : Int, v94 = (if v86 = 0 then 300 else 200) → (zCt K (d + 4) mX10_emit [rr K 98, .int (iz (v94 + r92))] m93 (fun r96 m97 => inR r96 → zok m97 → Q 0 m97))))))) ∧ (¬ ((m0.1 98 24 = 1 ∧ m0.2.1 98 27 = (127274 : Int64))) → ((m0.1 98 24 = 1 ∧ m0.2.1 98 27 = (315743 : Int64)) → ((m0.1 98 24 = 1 ∧ m0.2.1 98 27 = (315743 : Int64)) → zCt K (d + 4) mX10_emit [rr K 98, .int (iz 400)] m0 (fun r38 m39 => inR r38 → zok m39 → zCt K (d + 4) mX10_advance [rr K 98] m39 (fun r40 m41 => inR r40 → zok m41 → Q 0 m41))) ∧ (¬ ((m0.1 98 24 = 1 ∧ m0.2.1 98 27 = (315743 : Int64))) → ∀ v31 : Int, v31 = (if (m0.1 98 24 = 1 ∧ m0.2.1 98 27 = (361240 : Int64)) then 401 else 402) → (zCt K (d + 4) mX10_emit [rr K 98, .int (iz v31)] m0 (fun r33 m34 => inR r33 → zok m34 → zCt K (d + 4) mX10_advance [rr K 98] m34 (fun r35 m36 => inR r35 → zok m36 → Q 0 m36))))) ∧ (¬ ((m0.1 98 24 = 1 ∧ m0.2.1 98 27 = (315743 : Int64))) → ((m0.1 98 24 = 1 ∧ m0.2.1 98 27 = (361240 : Int64)) → ((m0.1 98 24 = 1 ∧ m0.2.1 98 27 = (315743 : Int64)) → zCt K (d + 4) mX10_emit [rr K 98, .int (iz 400)] m0 (fun r57 m58 => inR r57 → zok m58 → zCt K (d + 4) mX10_advance [rr K 98] m58 (fun r59 m60 => inR r59 → zok m60 → Q 0 m60))) ∧ (¬ ((m0.1 98 24 = 1 ∧ m0.2.1 98 27 = (315743 : Int64))) → ∀ v50 : Int, v50 = (if (m0.1 98 24 = 1 ∧ m0.2.1 98 27 = (361240 : Int64)) then 401 else 402) → (zCt K (d + 4) mX10_emit [rr K 98, .int (iz v50)] m0 (fun r52 m53 => inR r52 → zok m53 → zCt K (d + 4) mX10_advance [rr K 98] m53 (fun r54 m55 => inR r54 → zok m55 → Q 0 m55))))) ∧ (¬ ((m0.1 98 24 = 1 ∧ m0.2.1 98 27 = (361240 : Int64))) → ((m0.1 98 24 = 1 ∧ m0.2.1 98 27 = (121882 : Int64)) → ((m0.1 98 24 = 1 ∧ m0.2.1 98 27 = (315743 : Int64)) → zCt K (d + 4) mX10_emit [rr K 98, .int (iz 400)] m0 (fun r80 m81 => inR r80 → zok m81 → zCt K (d + 4) mX10_advance [rr K 98] m81 (fun r82 m83 => inR r82 → zok m83 → Q 0 m83))) ∧ (¬ ((m0.1 98 24 = 1 ∧ m0.2.1 98 27 = (315743 : Int64))) → ∀ v73 : Int, v73 = (if (m0.1 98 24 = 1 ∧ m0.2.1 98 27 = (361240 : Int64)) then 401 else 402) → (zCt K (d + 4) mX10_emit [rr K 98, .int (iz v73)] m0 (fun r75 m76 => inR r75 → zok m76 → zCt K (d + 4) mX10_advance [rr K 98] m76 (fun r77 m78 => inR r77 → zok m78 → Q 0 m78))))) ∧ (¬ ((m0.1 98 24 = 1 ∧ m0.2.1 98 27 = (121882 : Int64))) → zCt K (d + 4) mX10_wantNumber [rr K 98, .int (iz 999)] m0 (fun r64 m65 => inR r64 → zok m65 → zCt K (d + 4) mX10_emit [rr K 98, .int (iz (1000 + r64))] m65 (fun r66 m67 => inR r66 → zok m67 → Q 0 m67)))))))) : zV K mX10_wantValue (d + 5) 0 [(0, rr K 98)] [] m0 Q := by
  refine zV_ok (fun hm0 => ?_)
  replace h := h hm0
  refine zV_aloadr_n (pc := 0) dX10_wantValue_0 rfl 0 rfl ?_
  refine zV_ldc2 (pc := 1) (v := 286610) dX10_wantValue_1 (zmem 1527 (by decide +kernel) (by decide +kernel)) ?_
  refine zV_callVf (pc := 4) (mc := mX10_isWord) (As := [.long (286610 : Int64)]) (rest := []) dX10_wantValue_4 zcX10_251 ziX10_isWord zsX10_isWord rfl rfl rfl rfl (Nat.le_of_ble_eq_true rfl) (c_X10_isWord hm0) (fun hr1 => ?_)
  refine zV_if_ne (pc := 7) (tgt := 20) dX10_wantValue_7 (by decide) (inR_b2i _) (fun c3 => ?_) (fun c3 => ?_)
  · replace c3 := b2i_tp c3
    replace h := h.1 c3
    refine zV_aloadr_n (pc := 20) dX10_wantValue_20 rfl 0 rfl ?_
    refine zV_ldc2 (pc := 21) (v := 286610) dX10_wantValue_21 (zmem 1527 (by decide +kernel) (by decide +kernel)) ?_
    refine zV_callVf (pc := 24) (mc := mX10_isWord) (As := [.long (286610 : Int64)]) (rest := []) dX10_wantValue_24 zcX10_251 ziX10_isWord zsX10_isWord rfl rfl rfl rfl (Nat.le_of_ble_eq_true rfl) (c_X10_isWord hm0) (fun hr4 => ?_)
    refine zV_name (fun v6 e7 => ?_)
    replace h := h v6 e7
    have hrv6 : inR v6 := by rw [e7]; exact (inR_b2i _)
    refine zV_istore_n (pc := 27) (loc' := [(1, .int (iz v6)), (0, rr K 98)]) dX10_wantValue_27 rfl (by decide) rfl ?_
    refine zV_aloadr_n (pc := 28) dX10_wantValue_28 rfl 1 rfl ?_
    refine zV_callV (pc := 29) (mc := mX10_advance) (As := []) (rest := []) dX10_wantValue_29 zcX10_230 ziX10_advance zsX10_advance rfl rfl rfl rfl (Nat.le_of_ble_eq_true rfl) h (fun r8 m9 hr8 h => zV_ok (fun hm9 => ?_))
    replace h := h hr8 hm9
    refine zV_aloadr_n (pc := 32) dX10_wantValue_32 rfl 1 rfl ?_
    refine zV_iload_n (pc := 33) dX10_wantValue_33 rfl 0 rfl ?_
    have key : ∀ v10 : Int, v10 = (if v6 = 0 then 9 else 4) → zV K mX10_wantValue (d + 5) 43 [(1, .int (iz v6)), (0, rr K 98)] [.int (iz v10), rr K 98] m9 Q := by
      intro v10 e11
      replace h := h v10 e11
      have hrv10 : inR v10 := by rw [e11]; (repeat' split) <;> first | with_reducible exact (inRd rfl)
      refine zV_callV (pc := 43) (mc := mX10_wantNumber) (As := [.int (iz v10)]) (rest := []) dX10_wantValue_43 zcX10_257 ziX10_wantNumber zsX10_wantNumber rfl rfl rfl rfl (Nat.le_of_ble_eq_true rfl) h (fun r12 m13 hr12 h => zV_ok (fun hm13 => ?_))
      replace h := h hr12 hm13
      refine zV_istore_n (pc := 46) (loc' := [(2, .int (iz r12)), (1, .int (iz v6)), (0, rr K 98)]) dX10_wantValue_46 rfl (by decide) rfl ?_
      refine zV_aloadr_n (pc := 47) dX10_wantValue_47 rfl 2 rfl ?_
      refine zV_iload_n (pc := 48) dX10_wantValue_48 rfl 1 rfl ?_
      have key : ∀ v14 : Int, v14 = (if v6 = 0 then 300 else 200) → zV K mX10_wantValue (d + 5) 61 [(2, .int (iz r12))] [.int (iz v14), rr K 98] m13 Q := by
        intro v14 e15
        replace h := h v14 e15
        have hrv14 : inR v14 := by rw [e15]; (repeat' split) <;> first | with_reducible exact (inRd rfl)
        refine zV_iload_n (pc := 61) dX10_wantValue_61 rfl 0 rfl ?_
        refine zV_iadd (pc := 62) dX10_wantValue_62 ?_
        refine zV_callV (pc := 63) (mc := mX10_emit) (As := [.int (iz (v14 + r12))]) (rest := []) dX10_wantValue_63 zcX10_246 ziX10_emit zsX10_emit rfl rfl rfl rfl (Nat.le_of_ble_eq_true rfl) h (fun r16 m17 hr16 h => zV_ok (fun hm17 => ?_))
        replace h := h hr16 hm17
        refine zV_goto (pc := 66) (tgt := 162) dX10_wantValue_66 (by decide) ?_
        exact zV_vret (pc := 162) rfl dX10_wantValue_162 h
      refine zV_if_eq (pc := 49) (tgt := 58) dX10_wantValue_49 (by decide) hrv6 (fun c18 => ?_) (fun c18 => ?_)
      · skip
        refine zV_sipush (pc := 58) dX10_wantValue_58 (by decide) ?_
        exact zV_sub [0] rfl (key _ (if_pos c18).symm)
      · skip
        refine zV_sipush (pc := 52) dX10_wantValue_52 (by decide) ?_
        refine zV_goto (pc := 55) (tgt := 61) dX10_wantValue_55 (by decide) ?_
        exact zV_sub [0] rfl (key _ (if_neg c18).symm)
    refine zV_if_eq (pc := 34) (tgt := 41) dX10_wantValue_34 (by decide) hrv6 (fun c19 => ?_) (fun c19 => ?_)
    · skip
      refine zV_bipush (pc := 41) dX10_wantValue_41 (by decide) ?_
      exact zV_sub [0, 1] rfl (key _ (if_pos c19).symm)
    · skip
      refine zV_iconst (pc := 37) dX10_wantValue_37 ?_
      refine zV_goto (pc := 38) (tgt := 43) dX10_wantValue_38 (by decide) ?_
      exact zV_sub [0, 1] rfl (key _ (if_neg c19).symm)
  · replace c3 := b2i_fn c3
    replace h := h.2 c3
    refine zV_aloadr_n (pc := 10) dX10_wantValue_10 rfl 0 rfl ?_
    refine zV_ldc2 (pc := 11) (v := 127274) dX10_wantValue_11 (zmem 1528 (by decide +kernel) (by decide +kernel)) ?_
    refine zV_callVf (pc := 14) (mc := mX10_isWord) (As := [.long (127274 : Int64)]) (rest := []) dX10_wantValue_14 zcX10_251 ziX10_isWord zsX10_isWord rfl rfl rfl rfl (Nat.le_of_ble_eq_true rfl) (c_X10_isWord hm0) (fun hr20 => ?_)
    refine zV_if_eq (pc := 17) (tgt := 69) dX10_wantValue_17 (by decide) (inR_b2i _) (fun c22 => ?_) (fun c22 => ?_)
    · replace c22 := b2i_fp c22
      replace h := h.2 c22
      refine zV_aloadr_n (pc := 69) dX10_wantValue_69 rfl 0 rfl ?_
      refine zV_ldc2 (pc := 70) (v := 315743) dX10_wantValue_70 (zmem 1537 (by decide +kernel) (by decide +kernel)) ?_
      refine zV_callVf (pc := 73) (mc := mX10_isWord) (As := [.long (315743 : Int64)]) (rest := []) dX10_wantValue_73 zcX10_251 ziX10_isWord zsX10_isWord rfl rfl rfl rfl (Nat.le_of_ble_eq_true rfl) (c_X10_isWord hm0) (fun hr23 => ?_)
      refine zV_if_ne (pc := 76) (tgt := 99) dX10_wantValue_76 (by decide) (inR_b2i _) (fun c25 => ?_) (fun c25 => ?_)
      · replace c25 := b2i_tp c25
        replace h := h.1 c25
        refine zV_aloadr_n (pc := 99) dX10_wantValue_99 rfl 0 rfl ?_
        refine zV_aloadr_n (pc := 100) dX10_wantValue_100 rfl 0 rfl ?_
        refine zV_ldc2 (pc := 101) (v := 315743) dX10_wantValue_101 (zmem 1537 (by decide +kernel) (by decide +kernel)) ?_
        refine zV_callVf (pc := 104) (mc := mX10_isWord) (As := [.long (315743 : Int64)]) (rest := [rr K 98]) dX10_wantValue_104 zcX10_251 ziX10_isWord zsX10_isWord rfl rfl rfl rfl (Nat.le_of_ble_eq_true rfl) (c_X10_isWord hm0) (fun hr26 => ?_)
        refine zV_if_eq (pc := 107) (tgt := 116) dX10_wantValue_107 (by decide) (inR_b2i _) (fun c28 => ?_) (fun c28 => ?_)
        · replace c28 := b2i_fp c28
          replace h := h.2 c28
          refine zV_aloadr_n (pc := 116) dX10_wantValue_116 rfl 0 rfl ?_
          refine zV_ldc2 (pc := 117) (v := 361240) dX10_wantValue_117 (zmem 1538 (by decide +kernel) (by decide +kernel)) ?_
          refine zV_callVf (pc := 120) (mc := mX10_isWord) (As := [.long (361240 : Int64)]) (rest := [rr K 98]) dX10_wantValue_120 zcX10_251 ziX10_isWord zsX10_isWord rfl rfl rfl rfl (Nat.le_of_ble_eq_true rfl) (c_X10_isWord hm0) (fun hr29 => ?_)
          have key : ∀ v31 : Int, v31 = (if (m0.1 98 24 = 1 ∧ m0.2.1 98 27 = (361240 : Int64)) then 401 else 402) → zV K mX10_wantValue (d + 5) 135 [(0, rr K 98)] [.int (iz v31), rr K 98] m0 Q := by
            intro v31 e32
            replace h := h v31 e32
            have hrv31 : inR v31 := by rw [e32]; (repeat' split) <;> first | with_reducible exact (inRd rfl)
            refine zV_callV (pc := 135) (mc := mX10_emit) (As := [.int (iz v31)]) (rest := []) dX10_wantValue_135 zcX10_246 ziX10_emit zsX10_emit rfl rfl rfl rfl (Nat.le_of_ble_eq_true rfl) h (fun r33 m34 hr33 h => zV_ok (fun hm34 => ?_))
            replace h := h hr33 hm34
            refine zV_aloadr_n (pc := 138) dX10_wantValue_138 rfl 0 rfl ?_
            refine zV_callV (pc := 139) (mc := mX10_advance) (As := []) (rest := []) dX10_wantValue_139 zcX10_230 ziX10_advance zsX10_advance rfl rfl rfl rfl (Nat.le_of_ble_eq_true rfl) h (fun r35 m36 hr35 h => zV_ok (fun hm36 => ?_))
            replace h := h hr35 hm36
            refine zV_goto (pc := 142) (tgt := 162) dX10_wantValue_142 (by decide) ?_
            exact zV_vret (pc := 162) rfl dX10_wantValue_162 h
          refine zV_if_eq (pc := 123) (tgt := 132) dX10_wantValue_123 (by decide) (inR_b2i _) (fun c37 => ?_) (fun c37 => ?_)
          · replace c37 := b2i_fp c37
            refine zV_sipush (pc := 132) dX10_wantValue_132 (by decide) ?_
            exact zV_sub [0] rfl (key _ (if_neg c37).symm)
          · replace c37 := b2i_tp c37
            refine zV_sipush (pc := 126) dX10_wantValue_126 (by decide) ?_
            refine zV_goto (pc := 129) (tgt := 135) dX10_wantValue_129 (by decide) ?_
            exact zV_sub [0] rfl (key _ (if_pos c37).symm)
        · replace c28 := b2i_tp c28
          replace h := h.1 c28
          refine zV_sipush (pc := 110) dX10_wantValue_110 (by decide) ?_
          refine zV_goto (pc := 113) (tgt := 135) dX10_wantValue_113 (by decide) ?_
          refine zV_callV (pc := 135) (mc := mX10_emit) (As := [.int (iz 400)]) (rest := []) dX10_wantValue_135 zcX10_246 ziX10_emit zsX10_emit rfl rfl rfl rfl (Nat.le_of_ble_eq_true rfl) h (fun r38 m39 hr38 h => zV_ok (fun hm39 => ?_))
          replace h := h hr38 hm39
          refine zV_aloadr_n (pc := 138) dX10_wantValue_138 rfl 0 rfl ?_
          refine zV_callV (pc := 139) (mc := mX10_advance) (As := []) (rest := []) dX10_wantValue_139 zcX10_230 ziX10_advance zsX10_advance rfl rfl rfl rfl (Nat.le_of_ble_eq_true rfl) h (fun r40 m41 hr40 h => zV_ok (fun hm41 => ?_))
          replace h := h hr40 hm41
          refine zV_goto (pc := 142) (tgt := 162) dX10_wantValue_142 (by decide) ?_
          exact zV_vret (pc := 162) rfl dX10_wantValue_162 h
      · replace c25 := b2i_fn c25
        replace h := h.2 c25
        refine zV_aloadr_n (pc := 79) dX10_wantValue_79 rfl 0 rfl ?_
        refine zV_ldc2 (pc := 80) (v := 361240) dX10_wantValue_80 (zmem 1538 (by decide +kernel) (by decide +kernel)) ?_
        refine zV_callVf (pc := 83) (mc := mX10_isWord) (As := [.long (361240 : Int64)]) (rest := []) dX10_wantValue_83 zcX10_251 ziX10_isWord zsX10_isWord rfl rfl rfl rfl (Nat.le_of_ble_eq_true rfl) (c_X10_isWord hm0) (fun hr42 => ?_)
        refine zV_if_ne (pc := 86) (tgt := 99) dX10_wantValue_86 (by decide) (inR_b2i _) (fun c44 => ?_) (fun c44 => ?_)
        · replace c44 := b2i_tp c44
          replace h := h.1 c44
          refine zV_aloadr_n (pc := 99) dX10_wantValue_99 rfl 0 rfl ?_
          refine zV_aloadr_n (pc := 100) dX10_wantValue_100 rfl 0 rfl ?_
          refine zV_ldc2 (pc := 101) (v := 315743) dX10_wantValue_101 (zmem 1537 (by decide +kernel) (by decide +kernel)) ?_
          refine zV_callVf (pc := 104) (mc := mX10_isWord) (As := [.long (315743 : Int64)]) (rest := [rr K 98]) dX10_wantValue_104 zcX10_251 ziX10_isWord zsX10_isWord rfl rfl rfl rfl (Nat.le_of_ble_eq_true rfl) (c_X10_isWord hm0) (fun hr45 => ?_)
          refine zV_if_eq (pc := 107) (tgt := 116) dX10_wantValue_107 (by decide) (inR_b2i _) (fun c47 => ?_) (fun c47 => ?_)
          · replace c47 := b2i_fp c47
            replace h := h.2 c47
            refine zV_aloadr_n (pc := 116) dX10_wantValue_116 rfl 0 rfl ?_
            refine zV_ldc2 (pc := 117) (v := 361240) dX10_wantValue_117 (zmem 1538 (by decide +kernel) (by decide +kernel)) ?_
            refine zV_callVf (pc := 120) (mc := mX10_isWord) (As := [.long (361240 : Int64)]) (rest := [rr K 98]) dX10_wantValue_120 zcX10_251 ziX10_isWord zsX10_isWord rfl rfl rfl rfl (Nat.le_of_ble_eq_true rfl) (c_X10_isWord hm0) (fun hr48 => ?_)
            have key : ∀ v50 : Int, v50 = (if (m0.1 98 24 = 1 ∧ m0.2.1 98 27 = (361240 : Int64)) then 401 else 402) → zV K mX10_wantValue (d + 5) 135 [(0, rr K 98)] [.int (iz v50), rr K 98] m0 Q := by
              intro v50 e51
              replace h := h v50 e51
              have hrv50 : inR v50 := by rw [e51]; (repeat' split) <;> first | with_reducible exact (inRd rfl)
              refine zV_callV (pc := 135) (mc := mX10_emit) (As := [.int (iz v50)]) (rest := []) dX10_wantValue_135 zcX10_246 ziX10_emit zsX10_emit rfl rfl rfl rfl (Nat.le_of_ble_eq_true rfl) h (fun r52 m53 hr52 h => zV_ok (fun hm53 => ?_))
              replace h := h hr52 hm53
              refine zV_aloadr_n (pc := 138) dX10_wantValue_138 rfl 0 rfl ?_
              refine zV_callV (pc := 139) (mc := mX10_advance) (As := []) (rest := []) dX10_wantValue_139 zcX10_230 ziX10_advance zsX10_advance rfl rfl rfl rfl (Nat.le_of_ble_eq_true rfl) h (fun r54 m55 hr54 h => zV_ok (fun hm55 => ?_))
              replace h := h hr54 hm55
              refine zV_goto (pc := 142) (tgt := 162) dX10_wantValue_142 (by decide) ?_
              exact zV_vret (pc := 162) rfl dX10_wantValue_162 h
            refine zV_if_eq (pc := 123) (tgt := 132) dX10_wantValue_123 (by decide) (inR_b2i _) (fun c56 => ?_) (fun c56 => ?_)
            · replace c56 := b2i_fp c56
              refine zV_sipush (pc := 132) dX10_wantValue_132 (by decide) ?_
              exact zV_sub [0] rfl (key _ (if_neg c56).symm)
            · replace c56 := b2i_tp c56
              refine zV_sipush (pc := 126) dX10_wantValue_126 (by decide) ?_
              refine zV_goto (pc := 129) (tgt := 135) dX10_wantValue_129 (by decide) ?_
              exact zV_sub [0] rfl (key _ (if_pos c56).symm)
          · replace c47 := b2i_tp c47
            replace h := h.1 c47
            refine zV_sipush (pc := 110) dX10_wantValue_110 (by decide) ?_
            refine zV_goto (pc := 113) (tgt := 135) dX10_wantValue_113 (by decide) ?_
            refine zV_callV (pc := 135) (mc := mX10_emit) (As := [.int (iz 400)]) (rest := []) dX10_wantValue_135 zcX10_246 ziX10_emit zsX10_emit rfl rfl rfl rfl (Nat.le_of_ble_eq_true rfl) h (fun r57 m58 hr57 h => zV_ok (fun hm58 => ?_))
            replace h := h hr57 hm58
            refine zV_aloadr_n (pc := 138) dX10_wantValue_138 rfl 0 rfl ?_
            refine zV_callV (pc := 139) (mc := mX10_advance) (As := []) (rest := []) dX10_wantValue_139 zcX10_230 ziX10_advance zsX10_advance rfl rfl rfl rfl (Nat.le_of_ble_eq_true rfl) h (fun r59 m60 hr59 h => zV_ok (fun hm60 => ?_))
            replace h := h hr59 hm60
            refine zV_goto (pc := 142) (tgt := 162) dX10_wantValue_142 (by decide) ?_
            exact zV_vret (pc := 162) rfl dX10_wantValue_162 h
        · replace c44 := b2i_fn c44
          replace h := h.2 c44
          refine zV_aloadr_n (pc := 89) dX10_wantValue_89 rfl 0 rfl ?_
          refine zV_ldc2 (pc := 90) (v := 121882) dX10_wantValue_90 (zmem 1539 (by decide +kernel) (by decide +kernel)) ?_
          refine zV_callVf (pc := 93) (mc := mX10_isWord) (As := [.long (121882 : Int64)]) (rest := []) dX10_wantValue_93 zcX10_251 ziX10_isWord zsX10_isWord rfl rfl rfl rfl (Nat.le_of_ble_eq_true rfl) (c_X10_isWord hm0) (fun hr61 => ?_)
          refine zV_if_eq (pc := 96) (tgt := 145) dX10_wantValue_96 (by decide) (inR_b2i _) (fun c63 => ?_) (fun c63 => ?_)
          · replace c63 := b2i_fp c63
            replace h := h.2 c63
            refine zV_aloadr_n (pc := 145) dX10_wantValue_145 rfl 0 rfl ?_
            refine zV_sipush (pc := 146) dX10_wantValue_146 (by decide) ?_
            refine zV_callV (pc := 149) (mc := mX10_wantNumber) (As := [.int (iz 999)]) (rest := []) dX10_wantValue_149 zcX10_257 ziX10_wantNumber zsX10_wantNumber rfl rfl rfl rfl (Nat.le_of_ble_eq_true rfl) h (fun r64 m65 hr64 h => zV_ok (fun hm65 => ?_))
            replace h := h hr64 hm65
            refine zV_istore_n (pc := 152) (loc' := [(1, .int (iz r64)), (0, rr K 98)]) dX10_wantValue_152 rfl (by decide) rfl ?_
            refine zV_aloadr_n (pc := 153) dX10_wantValue_153 rfl 1 rfl ?_
            refine zV_sipush (pc := 154) dX10_wantValue_154 (by decide) ?_
            refine zV_iload_n (pc := 157) dX10_wantValue_157 rfl 0 rfl ?_
            refine zV_iadd (pc := 158) dX10_wantValue_158 ?_
            refine zV_callV (pc := 159) (mc := mX10_emit) (As := [.int (iz (1000 + r64))]) (rest := []) dX10_wantValue_159 zcX10_246 ziX10_emit zsX10_emit rfl rfl rfl rfl (Nat.le_of_ble_eq_true rfl) h (fun r66 m67 hr66 h => zV_ok (fun hm67 => ?_))
            replace h := h hr66 hm67
            exact zV_vret (pc := 162) rfl dX10_wantValue_162 h
          · replace c63 := b2i_tp c63
            replace h := h.1 c63
            refine zV_aloadr_n (pc := 99) dX10_wantValue_99 rfl 0 rfl ?_
            refine zV_aloadr_n (pc := 100) dX10_wantValue_100 rfl 0 rfl ?_
            refine zV_ldc2 (pc := 101) (v := 315743) dX10_wantValue_101 (zmem 1537 (by decide +kernel) (by decide +kernel)) ?_
            refine zV_callVf (pc := 104) (mc := mX10_isWord) (As := [.long (315743 : Int64)]) (rest := [rr K 98]) dX10_wantValue_104 zcX10_251 ziX10_isWord zsX10_isWord rfl rfl rfl rfl (Nat.le_of_ble_eq_true rfl) (c_X10_isWord hm0) (fun hr68 => ?_)
            refine zV_if_eq (pc := 107) (tgt := 116) dX10_wantValue_107 (by decide) (inR_b2i _) (fun c70 => ?_) (fun c70 => ?_)
            · replace c70 := b2i_fp c70
              replace h := h.2 c70
              refine zV_aloadr_n (pc := 116) dX10_wantValue_116 rfl 0 rfl ?_
              refine zV_ldc2 (pc := 117) (v := 361240) dX10_wantValue_117 (zmem 1538 (by decide +kernel) (by decide +kernel)) ?_
              refine zV_callVf (pc := 120) (mc := mX10_isWord) (As := [.long (361240 : Int64)]) (rest := [rr K 98]) dX10_wantValue_120 zcX10_251 ziX10_isWord zsX10_isWord rfl rfl rfl rfl (Nat.le_of_ble_eq_true rfl) (c_X10_isWord hm0) (fun hr71 => ?_)
              have key : ∀ v73 : Int, v73 = (if (m0.1 98 24 = 1 ∧ m0.2.1 98 27 = (361240 : Int64)) then 401 else 402) → zV K mX10_wantValue (d + 5) 135 [(0, rr K 98)] [.int (iz v73), rr K 98] m0 Q := by
                intro v73 e74
                replace h := h v73 e74
                have hrv73 : inR v73 := by rw [e74]; (repeat' split) <;> first | with_reducible exact (inRd rfl)
                refine zV_callV (pc := 135) (mc := mX10_emit) (As := [.int (iz v73)]) (rest := []) dX10_wantValue_135 zcX10_246 ziX10_emit zsX10_emit rfl rfl rfl rfl (Nat.le_of_ble_eq_true rfl) h (fun r75 m76 hr75 h => zV_ok (fun hm76 => ?_))
                replace h := h hr75 hm76
                refine zV_aloadr_n (pc := 138) dX10_wantValue_138 rfl 0 rfl ?_
                refine zV_callV (pc := 139) (mc := mX10_advance) (As := []) (rest := []) dX10_wantValue_139 zcX10_230 ziX10_advance zsX10_advance rfl rfl rfl rfl (Nat.le_of_ble_eq_true rfl) h (fun r77 m78 hr77 h => zV_ok (fun hm78 => ?_))
                replace h := h hr77 hm78
                refine zV_goto (pc := 142) (tgt := 162) dX10_wantValue_142 (by decide) ?_
                exact zV_vret (pc := 162) rfl dX10_wantValue_162 h
              refine zV_if_eq (pc := 123) (tgt := 132) dX10_wantValue_123 (by decide) (inR_b2i _) (fun c79 => ?_) (fun c79 => ?_)
              · replace c79 := b2i_fp c79
                refine zV_sipush (pc := 132) dX10_wantValue_132 (by decide) ?_
                exact zV_sub [0] rfl (key _ (if_neg c79).symm)
              · replace c79 := b2i_tp c79
                refine zV_sipush (pc := 126) dX10_wantValue_126 (by decide) ?_
                refine zV_goto (pc := 129) (tgt := 135) dX10_wantValue_129 (by decide) ?_
                exact zV_sub [0] rfl (key _ (if_pos c79).symm)
            · replace c70 := b2i_tp c70
              replace h := h.1 c70
              refine zV_sipush (pc := 110) dX10_wantValue_110 (by decide) ?_
              refine zV_goto (pc := 113) (tgt := 135) dX10_wantValue_113 (by decide) ?_
              refine zV_callV (pc := 135) (mc := mX10_emit) (As := [.int (iz 400)]) (rest := []) dX10_wantValue_135 zcX10_246 ziX10_emit zsX10_emit rfl rfl rfl rfl (Nat.le_of_ble_eq_true rfl) h (fun r80 m81 hr80 h => zV_ok (fun hm81 => ?_))
              replace h := h hr80 hm81
              refine zV_aloadr_n (pc := 138) dX10_wantValue_138 rfl 0 rfl ?_
              refine zV_callV (pc := 139) (mc := mX10_advance) (As := []) (rest := []) dX10_wantValue_139 zcX10_230 ziX10_advance zsX10_advance rfl rfl rfl rfl (Nat.le_of_ble_eq_true rfl) h (fun r82 m83 hr82 h => zV_ok (fun hm83 => ?_))
              replace h := h hr82 hm83
              refine zV_goto (pc := 142) (tgt := 162) dX10_wantValue_142 (by decide) ?_
              exact zV_vret (pc := 162) rfl dX10_wantValue_162 h
    · replace c22 := b2i_tp c22
      replace h := h.1 c22
      refine zV_aloadr_n (pc := 20) dX10_wantValue_20 rfl 0 rfl ?_
      refine zV_ldc2 (pc := 21) (v := 286610) dX10_wantValue_21 (zmem 1527 (by decide +kernel) (by decide +kernel)) ?_
      refine zV_callVf (pc := 24) (mc := mX10_isWord) (As := [.long (286610 : Int64)]) (rest := []) dX10_wantValue_24 zcX10_251 ziX10_isWord zsX10_isWord rfl rfl rfl rfl (Nat.le_of_ble_eq_true rfl) (c_X10_isWord hm0) (fun hr84 => ?_)
      refine zV_name (fun v86 e87 => ?_)
      replace h := h v86 e87
      have hrv86 : inR v86 := by rw [e87]; exact (inR_b2i _)
      refine zV_istore_n (pc := 27) (loc' := [(1, .int (iz v86)), (0, rr K 98)]) dX10_wantValue_27 rfl (by decide) rfl ?_
      refine zV_aloadr_n (pc := 28) dX10_wantValue_28 rfl 1 rfl ?_
      refine zV_callV (pc := 29) (mc := mX10_advance) (As := []) (rest := []) dX10_wantValue_29 zcX10_230 ziX10_advance zsX10_advance rfl rfl rfl rfl (Nat.le_of_ble_eq_true rfl) h (fun r88 m89 hr88 h => zV_ok (fun hm89 => ?_))
      replace h := h hr88 hm89
      refine zV_aloadr_n (pc := 32) dX10_wantValue_32 rfl 1 rfl ?_
      refine zV_iload_n (pc := 33) dX10_wantValue_33 rfl 0 rfl ?_
      have key : ∀ v90 : Int, v90 = (if v86 = 0 then 9 else 4) → zV K mX10_wantValue (d + 5) 43 [(1, .int (iz v86)), (0, rr K 98)] [.int (iz v90), rr K 98] m89 Q := by
        intro v90 e91
        replace h := h v90 e91
        have hrv90 : inR v90 := by rw [e91]; (repeat' split) <;> first | with_reducible exact (inRd rfl)
        refine zV_callV (pc := 43) (mc := mX10_wantNumber) (As := [.int (iz v90)]) (rest := []) dX10_wantValue_43 zcX10_257 ziX10_wantNumber zsX10_wantNumber rfl rfl rfl rfl (Nat.le_of_ble_eq_true rfl) h (fun r92 m93 hr92 h => zV_ok (fun hm93 => ?_))
        replace h := h hr92 hm93
        refine zV_istore_n (pc := 46) (loc' := [(2, .int (iz r92)), (1, .int (iz v86)), (0, rr K 98)]) dX10_wantValue_46 rfl (by decide) rfl ?_
        refine zV_aloadr_n (pc := 47) dX10_wantValue_47 rfl 2 rfl ?_
        refine zV_iload_n (pc := 48) dX10_wantValue_48 rfl 1 rfl ?_
        have key : ∀ v94 : Int, v94 = (if v86 = 0 then 300 else 200) → zV K mX10_wantValue (d + 5) 61 [(2, .int (iz r92))] [.int (iz v94), rr K 98] m93 Q := by
          intro v94 e95
          replace h := h v94 e95
          have hrv94 : inR v94 := by rw [e95]; (repeat' split) <;> first | with_reducible exact (inRd rfl)
          refine zV_iload_n (pc := 61) dX10_wantValue_61 rfl 0 rfl ?_
          refine zV_iadd (pc := 62) dX10_wantValue_62 ?_
          refine zV_callV (pc := 63) (mc := mX10_emit) (As := [.int (iz (v94 + r92))]) (rest := []) dX10_wantValue_63 zcX10_246 ziX10_emit zsX10_emit rfl rfl rfl rfl (Nat.le_of_ble_eq_true rfl) h (fun r96 m97 hr96 h => zV_ok (fun hm97 => ?_))
          replace h := h hr96 hm97
          refine zV_goto (pc := 66) (tgt := 162) dX10_wantValue_66 (by decide) ?_
          exact zV_vret (pc := 162) rfl dX10_wantValue_162 h
        refine zV_if_eq (pc := 49) (tgt := 58) dX10_wantValue_49 (by decide) hrv86 (fun c98 => ?_) (fun c98 => ?_)
        · skip
          refine zV_sipush (pc := 58) dX10_wantValue_58 (by decide) ?_
          exact zV_sub [0] rfl (key _ (if_pos c98).symm)
        · skip
          refine zV_sipush (pc := 52) dX10_wantValue_52 (by decide) ?_
          refine zV_goto (pc := 55) (tgt := 61) dX10_wantValue_55 (by decide) ?_
          exact zV_sub [0] rfl (key _ (if_neg c98).symm)
      refine zV_if_eq (pc := 34) (tgt := 41) dX10_wantValue_34 (by decide) hrv86 (fun c99 => ?_) (fun c99 => ?_)
      · skip
        refine zV_bipush (pc := 41) dX10_wantValue_41 (by decide) ?_
        exact zV_sub [0, 1] rfl (key _ (if_pos c99).symm)
      · skip
        refine zV_iconst (pc := 37) dX10_wantValue_37 ?_
        refine zV_goto (pc := 38) (tgt := 43) dX10_wantValue_38 (by decide) ?_
        exact zV_sub [0, 1] rfl (key _ (if_neg c99).symm)

set_option maxRecDepth 100000 in
set_option maxHeartbeats 4000000 in
theorem vc_X10_wantSum_0 {K : zCx} {d : Nat}  (m0 : zM) {Q : Int → zM → Prop}  (h : zok m0 → zCt K (d + 5) mX10_wantValue [rr K 98] m0 (fun r1 m2 => inR r1 → zok m2 → zV K mX10_wantSum (d + 6) 4 [(0, rr K 98)] [] m2 Q)) : zV K mX10_wantSum (d + 6) 0 [(0, rr K 98)] [] m0 Q := by
  refine zV_ok (fun hm0 => ?_)
  replace h := h hm0
  refine zV_aloadr_n (pc := 0) dX10_wantSum_0 rfl 0 rfl ?_
  refine zV_callV (pc := 1) (mc := mX10_wantValue) (As := []) (rest := []) dX10_wantSum_1 zcX10_267 ziX10_wantValue zsX10_wantValue rfl rfl rfl rfl (Nat.le_of_ble_eq_true rfl) h (fun r1 m2 hr1 h => zV_ok (fun hm2 => ?_))
  replace h := h hr1 hm2
  exact zV_sub [0] rfl h
set_option maxRecDepth 100000 in
set_option maxHeartbeats 4000000 in
theorem vc_X10_wantSum_4 {K : zCx} {d : Nat}  (m0 : zM) {Q : Int → zM → Prop}  (h : zok m0 → ((m0.1 98 28 < 0) → ((m0.1 98 24 = 3 ∧ m0.2.1 98 27 = (iz 43).toInt64) → zCt K (d + 5) mX10_advance [rr K 98] m0 (fun r7 m8 => inR r7 → zok m8 → zCt K (d + 5) mX10_wantValue [rr K 98] m8 (fun r9 m10 => inR r9 → zok m10 → zCt K (d + 5) mX10_emit [rr K 98, .int (iz 14)] m10 (fun r11 m12 => inR r11 → zok m12 → zV K mX10_wantSum (d + 6) 4 [(0, rr K 98)] [] m12 Q)))) ∧ (¬ ((m0.1 98 24 = 3 ∧ m0.2.1 98 27 = (iz 43).toInt64)) → Q 0 m0)) ∧ (¬ ((m0.1 98 28 < 0)) → Q 0 m0)) : zV K mX10_wantSum (d + 6) 4 [(0, rr K 98)] [] m0 Q := by
  refine zV_ok (fun hm0 => ?_)
  replace h := h hm0
  refine zV_aloadr_n (pc := 4) dX10_wantSum_4 rfl 0 rfl ?_
  refine zV_callVf (pc := 5) (mc := mX10_isGood) (As := []) (rest := []) dX10_wantSum_5 zcX10_226 ziX10_isGood zsX10_isGood rfl rfl rfl rfl (Nat.le_of_ble_eq_true rfl) (c_X10_isGood hm0) (fun hr1 => ?_)
  refine zV_if_eq (pc := 8) (tgt := 37) dX10_wantSum_8 (by decide) (inR_b2i _) (fun c3 => ?_) (fun c3 => ?_)
  · replace c3 := b2i_fp c3
    replace h := h.2 c3
    exact zV_vret (pc := 37) rfl dX10_wantSum_37 h
  · replace c3 := b2i_tp c3
    replace h := h.1 c3
    refine zV_aloadr_n (pc := 11) dX10_wantSum_11 rfl 0 rfl ?_
    refine zV_bipush (pc := 12) dX10_wantSum_12 (by decide) ?_
    refine zV_callVf (pc := 14) (mc := mX10_isMark) (As := [.int (iz 43)]) (rest := []) dX10_wantSum_14 zcX10_270 ziX10_isMark zsX10_isMark rfl rfl rfl rfl (Nat.le_of_ble_eq_true rfl) (c_X10_isMark (inRd rfl) hm0) (fun hr4 => ?_)
    refine zV_if_eq (pc := 17) (tgt := 37) dX10_wantSum_17 (by decide) (inR_b2i _) (fun c6 => ?_) (fun c6 => ?_)
    · replace c6 := b2i_fp c6
      replace h := h.2 c6
      exact zV_vret (pc := 37) rfl dX10_wantSum_37 h
    · replace c6 := b2i_tp c6
      replace h := h.1 c6
      refine zV_aloadr_n (pc := 20) dX10_wantSum_20 rfl 0 rfl ?_
      refine zV_callV (pc := 21) (mc := mX10_advance) (As := []) (rest := []) dX10_wantSum_21 zcX10_230 ziX10_advance zsX10_advance rfl rfl rfl rfl (Nat.le_of_ble_eq_true rfl) h (fun r7 m8 hr7 h => zV_ok (fun hm8 => ?_))
      replace h := h hr7 hm8
      refine zV_aloadr_n (pc := 24) dX10_wantSum_24 rfl 0 rfl ?_
      refine zV_callV (pc := 25) (mc := mX10_wantValue) (As := []) (rest := []) dX10_wantSum_25 zcX10_267 ziX10_wantValue zsX10_wantValue rfl rfl rfl rfl (Nat.le_of_ble_eq_true rfl) h (fun r9 m10 hr9 h => zV_ok (fun hm10 => ?_))
      replace h := h hr9 hm10
      refine zV_aloadr_n (pc := 28) dX10_wantSum_28 rfl 0 rfl ?_
      refine zV_bipush (pc := 29) dX10_wantSum_29 (by decide) ?_
      refine zV_callV (pc := 31) (mc := mX10_emit) (As := [.int (iz 14)]) (rest := []) dX10_wantSum_31 zcX10_246 ziX10_emit zsX10_emit rfl rfl rfl rfl (Nat.le_of_ble_eq_true rfl) h (fun r11 m12 hr11 h => zV_ok (fun hm12 => ?_))
      replace h := h hr11 hm12
      refine zV_goto (pc := 34) (tgt := 4) dX10_wantSum_34 (by decide) ?_
      exact zV_sub [0] rfl h

set_option maxRecDepth 100000 in
set_option maxHeartbeats 4000000 in
theorem vc_X10_wantAsk_0 {K : zCx} {d : Nat}  (m0 : zM) {Q : Int → zM → Prop}  (h : zok m0 → zCt K (d + 6) mX10_wantSum [rr K 98] m0 (fun r1 m2 => inR r1 → zok m2 → ((m2.1 98 24 = 3 ∧ m2.2.1 98 27 = (iz 60).toInt64) → ∀ v38 : Int, v38 = (if (15 : Int) ≤ 0 then 0 else 1) → (zCt K (d + 6) mX10_want [rr K 98, .int (iz v38)] m2 (fun r40 m41 => inR r40 → zok m41 → ((m41.1 98 28 < 0) → zCt K (d + 6) mX10_wantSum [rr K 98] m41 (fun r45 m46 => inR r45 → zok m46 → zCt K (d + 6) mX10_emit [rr K 98, .int (iz 15)] m46 (fun r47 m48 => inR r47 → zok m48 → Q 0 m48))) ∧ (¬ ((m41.1 98 28 < 0)) → Q 0 m41)))) ∧ (¬ ((m2.1 98 24 = 3 ∧ m2.2.1 98 27 = (iz 60).toInt64)) → ((m2.1 98 24 = 3 ∧ m2.2.1 98 27 = (iz 61).toInt64) → ∀ v26 : Int, v26 = (if (16 : Int) ≤ 0 then 0 else 1) → (zCt K (d + 6) mX10_want [rr K 98, .int (iz v26)] m2 (fun r28 m29 => inR r28 → zok m29 → ((m29.1 98 28 < 0) → zCt K (d + 6) mX10_wantSum [rr K 98] m29 (fun r33 m34 => inR r33 → zok m34 → zCt K (d + 6) mX10_emit [rr K 98, .int (iz 16)] m34 (fun r35 m36 => inR r35 → zok m36 → Q 0 m36))) ∧ (¬ ((m29.1 98 28 < 0)) → Q 0 m29)))) ∧ (¬ ((m2.1 98 24 = 3 ∧ m2.2.1 98 27 = (iz 61).toInt64)) → ∀ v11 : Int, v11 = (if (m2.1 98 24 = 3 ∧ m2.2.1 98 27 = (iz 62).toInt64) then 17 else 0) → (∀ v13 : Int, v13 = (if v11 ≤ 0 then 0 else 1) → (zCt K (d + 6) mX10_want [rr K 98, .int (iz v13)] m2 (fun r15 m16 => inR r15 → zok m16 → ((m16.1 98 28 < 0) → zCt K (d + 6) mX10_wantSum [rr K 98] m16 (fun r20 m21 => inR r20 → zok m21 → zCt K (d + 6) mX10_emit [rr K 98, .int (iz v11)] m21 (fun r22 m23 => inR r22 → zok m23 → Q 0 m23))) ∧ (¬ ((m16.1 98 28 < 0)) → Q 0 m16)))))))) : zV K mX10_wantAsk (d + 7) 0 [(0, rr K 98)] [] m0 Q := by
  refine zV_ok (fun hm0 => ?_)
  replace h := h hm0
  refine zV_aloadr_n (pc := 0) dX10_wantAsk_0 rfl 0 rfl ?_
  refine zV_callV (pc := 1) (mc := mX10_wantSum) (As := []) (rest := []) dX10_wantAsk_1 zcX10_273 ziX10_wantSum zsX10_wantSum rfl rfl rfl rfl (Nat.le_of_ble_eq_true rfl) h (fun r1 m2 hr1 h => zV_ok (fun hm2 => ?_))
  replace h := h hr1 hm2
  refine zV_aloadr_n (pc := 4) dX10_wantAsk_4 rfl 0 rfl ?_
  refine zV_bipush (pc := 5) dX10_wantAsk_5 (by decide) ?_
  refine zV_callVf (pc := 7) (mc := mX10_isMark) (As := [.int (iz 60)]) (rest := []) dX10_wantAsk_7 zcX10_270 ziX10_isMark zsX10_isMark rfl rfl rfl rfl (Nat.le_of_ble_eq_true rfl) (c_X10_isMark (inRd rfl) hm2) (fun hr3 => ?_)
  refine zV_if_eq (pc := 10) (tgt := 18) dX10_wantAsk_10 (by decide) (inR_b2i _) (fun c5 => ?_) (fun c5 => ?_)
  · replace c5 := b2i_fp c5
    replace h := h.2 c5
    refine zV_aloadr_n (pc := 18) dX10_wantAsk_18 rfl 0 rfl ?_
    refine zV_bipush (pc := 19) dX10_wantAsk_19 (by decide) ?_
    refine zV_callVf (pc := 21) (mc := mX10_isMark) (As := [.int (iz 61)]) (rest := []) dX10_wantAsk_21 zcX10_270 ziX10_isMark zsX10_isMark rfl rfl rfl rfl (Nat.le_of_ble_eq_true rfl) (c_X10_isMark (inRd rfl) hm2) (fun hr6 => ?_)
    refine zV_if_eq (pc := 24) (tgt := 32) dX10_wantAsk_24 (by decide) (inR_b2i _) (fun c8 => ?_) (fun c8 => ?_)
    · replace c8 := b2i_fp c8
      replace h := h.2 c8
      refine zV_aloadr_n (pc := 32) dX10_wantAsk_32 rfl 0 rfl ?_
      refine zV_bipush (pc := 33) dX10_wantAsk_33 (by decide) ?_
      refine zV_callVf (pc := 35) (mc := mX10_isMark) (As := [.int (iz 62)]) (rest := []) dX10_wantAsk_35 zcX10_270 ziX10_isMark zsX10_isMark rfl rfl rfl rfl (Nat.le_of_ble_eq_true rfl) (c_X10_isMark (inRd rfl) hm2) (fun hr9 => ?_)
      have key : ∀ v11 : Int, v11 = (if (m2.1 98 24 = 3 ∧ m2.2.1 98 27 = (iz 62).toInt64) then 17 else 0) → zV K mX10_wantAsk (d + 7) 47 [(0, rr K 98)] [.int (iz v11)] m2 Q := by
        intro v11 e12
        replace h := h v11 e12
        have hrv11 : inR v11 := by rw [e12]; (repeat' split) <;> first | with_reducible exact (inRd rfl)
        refine zV_istore_n (pc := 47) (loc' := [(1, .int (iz v11)), (0, rr K 98)]) dX10_wantAsk_47 rfl (by decide) rfl ?_
        refine zV_aloadr_n (pc := 48) dX10_wantAsk_48 rfl 1 rfl ?_
        refine zV_iload_n (pc := 49) dX10_wantAsk_49 rfl 0 rfl ?_
        have key : ∀ v13 : Int, v13 = (if v11 ≤ 0 then 0 else 1) → zV K mX10_wantAsk (d + 7) 58 [(1, .int (iz v11)), (0, rr K 98)] [.int (iz v13), rr K 98] m2 Q := by
          intro v13 e14
          replace h := h v13 e14
          have hrv13 : inR v13 := by rw [e14]; (repeat' split) <;> first | with_reducible exact (inRd rfl)
          refine zV_callV (pc := 58) (mc := mX10_want) (As := [.int (iz v13)]) (rest := []) dX10_wantAsk_58 zcX10_236 ziX10_want zsX10_want rfl rfl rfl rfl (Nat.le_of_ble_eq_true rfl) h (fun r15 m16 hr15 h => zV_ok (fun hm16 => ?_))
          replace h := h hr15 hm16
          refine zV_aloadr_n (pc := 61) dX10_wantAsk_61 rfl 1 rfl ?_
          refine zV_callVf (pc := 62) (mc := mX10_isGood) (As := []) (rest := []) dX10_wantAsk_62 zcX10_226 ziX10_isGood zsX10_isGood rfl rfl rfl rfl (Nat.le_of_ble_eq_true rfl) (c_X10_isGood hm16) (fun hr17 => ?_)
          refine zV_if_eq (pc := 65) (tgt := 77) dX10_wantAsk_65 (by decide) (inR_b2i _) (fun c19 => ?_) (fun c19 => ?_)
          · replace c19 := b2i_fp c19
            replace h := h.2 c19
            exact zV_vret (pc := 77) rfl dX10_wantAsk_77 h
          · replace c19 := b2i_tp c19
            replace h := h.1 c19
            refine zV_aloadr_n (pc := 68) dX10_wantAsk_68 rfl 1 rfl ?_
            refine zV_callV (pc := 69) (mc := mX10_wantSum) (As := []) (rest := []) dX10_wantAsk_69 zcX10_273 ziX10_wantSum zsX10_wantSum rfl rfl rfl rfl (Nat.le_of_ble_eq_true rfl) h (fun r20 m21 hr20 h => zV_ok (fun hm21 => ?_))
            replace h := h hr20 hm21
            refine zV_aloadr_n (pc := 72) dX10_wantAsk_72 rfl 1 rfl ?_
            refine zV_iload_n (pc := 73) dX10_wantAsk_73 rfl 0 rfl ?_
            refine zV_callV (pc := 74) (mc := mX10_emit) (As := [.int (iz v11)]) (rest := []) dX10_wantAsk_74 zcX10_246 ziX10_emit zsX10_emit rfl rfl rfl rfl (Nat.le_of_ble_eq_true rfl) h (fun r22 m23 hr22 h => zV_ok (fun hm23 => ?_))
            replace h := h hr22 hm23
            exact zV_vret (pc := 77) rfl dX10_wantAsk_77 h
        refine zV_if_le (pc := 50) (tgt := 57) dX10_wantAsk_50 (by decide) hrv11 (fun c24 => ?_) (fun c24 => ?_)
        · skip
          refine zV_iconst (pc := 57) dX10_wantAsk_57 ?_
          exact zV_sub [0, 1] rfl (key _ (if_pos c24).symm)
        · skip
          refine zV_iconst (pc := 53) dX10_wantAsk_53 ?_
          refine zV_goto (pc := 54) (tgt := 58) dX10_wantAsk_54 (by decide) ?_
          exact zV_sub [0, 1] rfl (key _ (if_neg c24).symm)
      refine zV_if_eq (pc := 38) (tgt := 46) dX10_wantAsk_38 (by decide) (inR_b2i _) (fun c25 => ?_) (fun c25 => ?_)
      · replace c25 := b2i_fp c25
        refine zV_iconst (pc := 46) dX10_wantAsk_46 ?_
        exact zV_sub [0] rfl (key _ (if_neg c25).symm)
      · replace c25 := b2i_tp c25
        refine zV_bipush (pc := 41) dX10_wantAsk_41 (by decide) ?_
        refine zV_goto (pc := 43) (tgt := 47) dX10_wantAsk_43 (by decide) ?_
        exact zV_sub [0] rfl (key _ (if_pos c25).symm)
    · replace c8 := b2i_tp c8
      replace h := h.1 c8
      refine zV_bipush (pc := 27) dX10_wantAsk_27 (by decide) ?_
      refine zV_goto (pc := 29) (tgt := 47) dX10_wantAsk_29 (by decide) ?_
      refine zV_istore_n (pc := 47) (loc' := [(1, .int (iz 16)), (0, rr K 98)]) dX10_wantAsk_47 rfl (by decide) rfl ?_
      refine zV_aloadr_n (pc := 48) dX10_wantAsk_48 rfl 1 rfl ?_
      refine zV_iload_n (pc := 49) dX10_wantAsk_49 rfl 0 rfl ?_
      have key : ∀ v26 : Int, v26 = (if (16 : Int) ≤ 0 then 0 else 1) → zV K mX10_wantAsk (d + 7) 58 [(1, .int (iz 16)), (0, rr K 98)] [.int (iz v26), rr K 98] m2 Q := by
        intro v26 e27
        replace h := h v26 e27
        have hrv26 : inR v26 := by rw [e27]; (repeat' split) <;> first | with_reducible exact (inRd rfl)
        refine zV_callV (pc := 58) (mc := mX10_want) (As := [.int (iz v26)]) (rest := []) dX10_wantAsk_58 zcX10_236 ziX10_want zsX10_want rfl rfl rfl rfl (Nat.le_of_ble_eq_true rfl) h (fun r28 m29 hr28 h => zV_ok (fun hm29 => ?_))
        replace h := h hr28 hm29
        refine zV_aloadr_n (pc := 61) dX10_wantAsk_61 rfl 1 rfl ?_
        refine zV_callVf (pc := 62) (mc := mX10_isGood) (As := []) (rest := []) dX10_wantAsk_62 zcX10_226 ziX10_isGood zsX10_isGood rfl rfl rfl rfl (Nat.le_of_ble_eq_true rfl) (c_X10_isGood hm29) (fun hr30 => ?_)
        refine zV_if_eq (pc := 65) (tgt := 77) dX10_wantAsk_65 (by decide) (inR_b2i _) (fun c32 => ?_) (fun c32 => ?_)
        · replace c32 := b2i_fp c32
          replace h := h.2 c32
          exact zV_vret (pc := 77) rfl dX10_wantAsk_77 h
        · replace c32 := b2i_tp c32
          replace h := h.1 c32
          refine zV_aloadr_n (pc := 68) dX10_wantAsk_68 rfl 1 rfl ?_
          refine zV_callV (pc := 69) (mc := mX10_wantSum) (As := []) (rest := []) dX10_wantAsk_69 zcX10_273 ziX10_wantSum zsX10_wantSum rfl rfl rfl rfl (Nat.le_of_ble_eq_true rfl) h (fun r33 m34 hr33 h => zV_ok (fun hm34 => ?_))
          replace h := h hr33 hm34
          refine zV_aloadr_n (pc := 72) dX10_wantAsk_72 rfl 1 rfl ?_
          refine zV_iload_n (pc := 73) dX10_wantAsk_73 rfl 0 rfl ?_
          refine zV_callV (pc := 74) (mc := mX10_emit) (As := [.int (iz 16)]) (rest := []) dX10_wantAsk_74 zcX10_246 ziX10_emit zsX10_emit rfl rfl rfl rfl (Nat.le_of_ble_eq_true rfl) h (fun r35 m36 hr35 h => zV_ok (fun hm36 => ?_))
          replace h := h hr35 hm36
          exact zV_vret (pc := 77) rfl dX10_wantAsk_77 h
      refine zV_if_le (pc := 50) (tgt := 57) dX10_wantAsk_50 (by decide) (inRd rfl) (fun c37 => ?_) (fun c37 => ?_)
      · skip
        refine zV_iconst (pc := 57) dX10_wantAsk_57 ?_
        exact zV_sub [0, 1] rfl (key _ (if_pos c37).symm)
      · skip
        refine zV_iconst (pc := 53) dX10_wantAsk_53 ?_
        refine zV_goto (pc := 54) (tgt := 58) dX10_wantAsk_54 (by decide) ?_
        exact zV_sub [0, 1] rfl (key _ (if_neg c37).symm)
  · replace c5 := b2i_tp c5
    replace h := h.1 c5
    refine zV_bipush (pc := 13) dX10_wantAsk_13 (by decide) ?_
    refine zV_goto (pc := 15) (tgt := 47) dX10_wantAsk_15 (by decide) ?_
    refine zV_istore_n (pc := 47) (loc' := [(1, .int (iz 15)), (0, rr K 98)]) dX10_wantAsk_47 rfl (by decide) rfl ?_
    refine zV_aloadr_n (pc := 48) dX10_wantAsk_48 rfl 1 rfl ?_
    refine zV_iload_n (pc := 49) dX10_wantAsk_49 rfl 0 rfl ?_
    have key : ∀ v38 : Int, v38 = (if (15 : Int) ≤ 0 then 0 else 1) → zV K mX10_wantAsk (d + 7) 58 [(1, .int (iz 15)), (0, rr K 98)] [.int (iz v38), rr K 98] m2 Q := by
      intro v38 e39
      replace h := h v38 e39
      have hrv38 : inR v38 := by rw [e39]; (repeat' split) <;> first | with_reducible exact (inRd rfl)
      refine zV_callV (pc := 58) (mc := mX10_want) (As := [.int (iz v38)]) (rest := []) dX10_wantAsk_58 zcX10_236 ziX10_want zsX10_want rfl rfl rfl rfl (Nat.le_of_ble_eq_true rfl) h (fun r40 m41 hr40 h => zV_ok (fun hm41 => ?_))
      replace h := h hr40 hm41
      refine zV_aloadr_n (pc := 61) dX10_wantAsk_61 rfl 1 rfl ?_
      refine zV_callVf (pc := 62) (mc := mX10_isGood) (As := []) (rest := []) dX10_wantAsk_62 zcX10_226 ziX10_isGood zsX10_isGood rfl rfl rfl rfl (Nat.le_of_ble_eq_true rfl) (c_X10_isGood hm41) (fun hr42 => ?_)
      refine zV_if_eq (pc := 65) (tgt := 77) dX10_wantAsk_65 (by decide) (inR_b2i _) (fun c44 => ?_) (fun c44 => ?_)
      · replace c44 := b2i_fp c44
        replace h := h.2 c44
        exact zV_vret (pc := 77) rfl dX10_wantAsk_77 h
      · replace c44 := b2i_tp c44
        replace h := h.1 c44
        refine zV_aloadr_n (pc := 68) dX10_wantAsk_68 rfl 1 rfl ?_
        refine zV_callV (pc := 69) (mc := mX10_wantSum) (As := []) (rest := []) dX10_wantAsk_69 zcX10_273 ziX10_wantSum zsX10_wantSum rfl rfl rfl rfl (Nat.le_of_ble_eq_true rfl) h (fun r45 m46 hr45 h => zV_ok (fun hm46 => ?_))
        replace h := h hr45 hm46
        refine zV_aloadr_n (pc := 72) dX10_wantAsk_72 rfl 1 rfl ?_
        refine zV_iload_n (pc := 73) dX10_wantAsk_73 rfl 0 rfl ?_
        refine zV_callV (pc := 74) (mc := mX10_emit) (As := [.int (iz 15)]) (rest := []) dX10_wantAsk_74 zcX10_246 ziX10_emit zsX10_emit rfl rfl rfl rfl (Nat.le_of_ble_eq_true rfl) h (fun r47 m48 hr47 h => zV_ok (fun hm48 => ?_))
        replace h := h hr47 hm48
        exact zV_vret (pc := 77) rfl dX10_wantAsk_77 h
    refine zV_if_le (pc := 50) (tgt := 57) dX10_wantAsk_50 (by decide) (inRd rfl) (fun c49 => ?_) (fun c49 => ?_)
    · skip
      refine zV_iconst (pc := 57) dX10_wantAsk_57 ?_
      exact zV_sub [0, 1] rfl (key _ (if_pos c49).symm)
    · skip
      refine zV_iconst (pc := 53) dX10_wantAsk_53 ?_
      refine zV_goto (pc := 54) (tgt := 58) dX10_wantAsk_54 (by decide) ?_
      exact zV_sub [0, 1] rfl (key _ (if_neg c49).symm)

set_option maxRecDepth 100000 in
set_option maxHeartbeats 4000000 in
theorem vc_X10_wantCond_0 {K : zCx} {d : Nat}  (m0 : zM) {Q : Int → zM → Prop}  (h : zok m0 → ∀ m1 : zM, m1 = sI m0 98 33 0 → zok m1 → (zV K mX10_wantCond (d + 8) 11 [(0, rr K 98), (1, .int (iz 0)), (2, .int (iz 1)), (3, .int (iz 1))] [] m1 Q)) : zV K mX10_wantCond (d + 8) 0 [(0, rr K 98)] [] m0 Q := by
  refine zV_ok (fun hm0 => ?_)
  replace h := h hm0
  refine zV_iconst (pc := 0) dX10_wantCond_0 ?_
  refine zV_istore_n (pc := 1) (loc' := [(1, .int (iz 0)), (0, rr K 98)]) dX10_wantCond_1 rfl (by decide) rfl ?_
  refine zV_iconst (pc := 2) dX10_wantCond_2 ?_
  refine zV_istore_n (pc := 3) (loc' := [(2, .int (iz 1)), (1, .int (iz 0)), (0, rr K 98)]) dX10_wantCond_3 rfl (by decide) rfl ?_
  refine zV_iconst (pc := 4) dX10_wantCond_4 ?_
  refine zV_istore_n (pc := 5) (loc' := [(3, .int (iz 1)), (2, .int (iz 1)), (1, .int (iz 0)), (0, rr K 98)]) dX10_wantCond_5 rfl (by decide) rfl ?_
  refine zV_aloadr_n (pc := 6) dX10_wantCond_6 rfl 3 rfl ?_
  refine zV_iconst (pc := 7) dX10_wantCond_7 ?_
  refine zV_putI (pc := 8) (kz := 33) dX10_wantCond_8 zpX10_243 rfl rfl rfl (inRd rfl) rfl rfl ?_
  refine zV_mem (fun m1 e2 => zV_ok (fun hm1 => ?_))
  replace h := h m1 e2 hm1
  exact zV_sub [3, 2, 1, 0] rfl h
set_option maxRecDepth 100000 in
set_option maxHeartbeats 4000000 in
theorem vc_X10_wantCond_11 {K : zCx} {d : Nat} (x1 : Int) (x2 : Int) (x3 : Int) (m0 : zM) {Q : Int → zM → Prop} (hx1 : inR x1) (hx2 : inR x2) (hx3 : inR x3) (h : zok m0 → (x3 = 0 → zCt K (d + 7) mX10_settle [rr K 98, .int (iz 9)] m0 (fun r2 m3 => inR r2 → zok m3 → Q 0 m3)) ∧ (¬ (x3 = 0) → ((m0.1 98 28 < 0) → (x2 = 0 → ((m0.1 98 24 = 1 ∧ m0.2.1 98 27 = (1111 : Int64)) → ∀ v15 : Int, v15 = (if (m0.1 98 24 = 1 ∧ m0.2.1 98 27 = (1111 : Int64)) then 8 else 9) → (zCt K (d + 7) mX10_settle [rr K 98, .int (iz v15)] m0 (fun r17 m18 => inR r17 → zok m18 → zCt K (d + 7) mX10_hold [rr K 98, .int (iz v15)] m18 (fun r19 m20 => inR r19 → zok m20 → zV K mX10_wantCond (d + 8) 11 [(0, rr K 98), (1, .int (iz x1)), (2, .int (iz 1)), (3, .int (iz x3))] [] m20 Q)))) ∧ (¬ ((m0.1 98 24 = 1 ∧ m0.2.1 98 27 = (1111 : Int64))) → ((m0.1 98 24 = 1 ∧ m0.2.1 98 27 = (423 : Int64)) → ∀ v39 : Int, v39 = (if (m0.1 98 24 = 1 ∧ m0.2.1 98 27 = (1111 : Int64)) then 8 else 9) → (zCt K (d + 7) mX10_settle [rr K 98, .int (iz v39)] m0 (fun r41 m42 => inR r41 → zok m42 → zCt K (d + 7) mX10_hold [rr K 98, .int (iz v39)] m42 (fun r43 m44 => inR r43 → zok m44 → zV K mX10_wantCond (d + 8) 11 [(0, rr K 98), (1, .int (iz x1)), (2, .int (iz 1)), (3, .int (iz x3))] [] m44 Q)))) ∧ (¬ ((m0.1 98 24 = 1 ∧ m0.2.1 98 27 = (423 : Int64))) → (x1 ≤ 0 → zV K mX10_wantCond (d + 8) 11 [(0, rr K 98), (1, .int (iz x1)), (2, .int (iz x2)), (3, .int (iz 0))] [] m0 Q) ∧ (¬ (x1 ≤ 0) → zCt K (d + 7) mX10_settle [rr K 98, .int (iz 9)] m0 (fun r26 m27 => inR r26 → zok m27 → inR ((m27.1 98 33) - 1) ∧ (∀ m29 : zM, m29 = sI m27 98 33 ((m27.1 98 33) - 1) → zok m29 → (zCt K (d + 7) mX10_want [rr K 98, .int (iz (b2i (decide (m29.1 98 24 = 3 ∧ m29.2.1 98 27 = (iz 41).toInt64))))] m29 (fun r33 m34 => inR r33 → zok m34 → zCt K (d + 7) mX10_settle [rr K 98, .int (iz 7)] m34 (fun r35 m36 => inR r35 → zok m36 → zV K mX10_wantCond (d + 8) 11 [(0, rr K 98), (1, .int (iz (x1 + (-1)))), (2, .int (iz x2)), (3, .int (iz x3))] [] m36 Q))))))))) ∧ (¬ (x2 = 0) → ((m0.1 98 24 = 1 ∧ m0.2.1 98 27 = (10631 : Int64)) → zCt K (d + 7) mX10_hold [rr K 98, .int (iz 7)] m0 (fun r61 m62 => inR r61 → zok m62 → zV K mX10_wantCond (d + 8) 11 [(0, rr K 98), (1, .int (iz x1)), (2, .int (iz x2)), (3, .int (iz x3))] [] m62 Q)) ∧ (¬ ((m0.1 98 24 = 1 ∧ m0.2.1 98 27 = (10631 : Int64))) → ((m0.1 98 24 = 3 ∧ m0.2.1 98 27 = (iz 40).toInt64) → (x1 = 4 → zCt K (d + 7) mX10_faulty [rr K 98] m0 (fun r59 m60 => inR r59 → zok m60 → zV K mX10_wantCond (d + 8) 11 [(0, rr K 98), (1, .int (iz x1)), (2, .int (iz x2)), (3, .int (iz x3))] [] m60 Q)) ∧ (¬ (x1 = 4) → zCt K (d + 7) mX10_hold [rr K 98, .int (iz 10)] m0 (fun r57 m58 => inR r57 → zok m58 → zV K mX10_wantCond (d + 8) 11 [(0, rr K 98), (1, .int (iz (x1 + 1))), (2, .int (iz x2)), (3, .int (iz x3))] [] m58 Q))) ∧ (¬ ((m0.1 98 24 = 3 ∧ m0.2.1 98 27 = (iz 40).toInt64)) → zCt K (d + 7) mX10_wantAsk [rr K 98] m0 (fun r52 m53 => inR r52 → zok m53 → zCt K (d + 7) mX10_settle [rr K 98, .int (iz 7)] m53 (fun r54 m55 => inR r54 → zok m55 → zV K mX10_wantCond (d + 8) 11 [(0, rr K 98), (1, .int (iz x1)), (2, .int (iz 0)), (3, .int (iz x3))] [] m55 Q)))))) ∧ (¬ ((m0.1 98 28 < 0)) → zCt K (d + 7) mX10_settle [rr K 98, .int (iz 9)] m0 (fun r7 m8 => inR r7 → zok m8 → Q 0 m8)))) : zV K mX10_wantCond (d + 8) 11 [(0, rr K 98), (1, .int (iz x1)), (2, .int (iz x2)), (3, .int (iz x3))] [] m0 Q := by
  refine zV_ok (fun hm0 => ?_)
  replace h := h hm0
  refine zV_iload_n (pc := 11) dX10_wantCond_11 rfl 3 rfl ?_
  refine zV_if_eq (pc := 12) (tgt := 196) dX10_wantCond_12 (by decide) hx3 (fun c1 => ?_) (fun c1 => ?_)
  · skip
    replace h := h.1 c1
    refine zV_aloadr_n (pc := 196) dX10_wantCond_196 rfl 0 rfl ?_
    refine zV_bipush (pc := 197) dX10_wantCond_197 (by decide) ?_
    refine zV_callV (pc := 199) (mc := mX10_settle) (As := [.int (iz 9)]) (rest := []) dX10_wantCond_199 zcX10_284 ziX10_settle zsX10_settle rfl rfl rfl rfl (Nat.le_of_ble_eq_true rfl) h (fun r2 m3 hr2 h => zV_ok (fun hm3 => ?_))
    replace h := h hr2 hm3
    exact zV_vret (pc := 202) rfl dX10_wantCond_202 h
  · skip
    replace h := h.2 c1
    refine zV_aloadr_n (pc := 15) dX10_wantCond_15 rfl 0 rfl ?_
    refine zV_callVf (pc := 16) (mc := mX10_isGood) (As := []) (rest := []) dX10_wantCond_16 zcX10_226 ziX10_isGood zsX10_isGood rfl rfl rfl rfl (Nat.le_of_ble_eq_true rfl) (c_X10_isGood hm0) (fun hr4 => ?_)
    refine zV_if_eq (pc := 19) (tgt := 196) dX10_wantCond_19 (by decide) (inR_b2i _) (fun c6 => ?_) (fun c6 => ?_)
    · replace c6 := b2i_fp c6
      replace h := h.2 c6
      refine zV_aloadr_n (pc := 196) dX10_wantCond_196 rfl 0 rfl ?_
      refine zV_bipush (pc := 197) dX10_wantCond_197 (by decide) ?_
      refine zV_callV (pc := 199) (mc := mX10_settle) (As := [.int (iz 9)]) (rest := []) dX10_wantCond_199 zcX10_284 ziX10_settle zsX10_settle rfl rfl rfl rfl (Nat.le_of_ble_eq_true rfl) h (fun r7 m8 hr7 h => zV_ok (fun hm8 => ?_))
      replace h := h hr7 hm8
      exact zV_vret (pc := 202) rfl dX10_wantCond_202 h
    · replace c6 := b2i_tp c6
      replace h := h.1 c6
      refine zV_iload_n (pc := 22) dX10_wantCond_22 rfl 2 rfl ?_
      refine zV_if_eq (pc := 23) (tgt := 93) dX10_wantCond_23 (by decide) hx2 (fun c9 => ?_) (fun c9 => ?_)
      · skip
        replace h := h.1 c9
        refine zV_aloadr_n (pc := 93) dX10_wantCond_93 rfl 0 rfl ?_
        refine zV_ldc2 (pc := 94) (v := 1111) dX10_wantCond_94 (zmem 1544 (by decide +kernel) (by decide +kernel)) ?_
        refine zV_callVf (pc := 97) (mc := mX10_isWord) (As := [.long (1111 : Int64)]) (rest := []) dX10_wantCond_97 zcX10_251 ziX10_isWord zsX10_isWord rfl rfl rfl rfl (Nat.le_of_ble_eq_true rfl) (c_X10_isWord hm0) (fun hr10 => ?_)
        refine zV_if_ne (pc := 100) (tgt := 113) dX10_wantCond_100 (by decide) (inR_b2i _) (fun c12 => ?_) (fun c12 => ?_)
        · replace c12 := b2i_tp c12
          replace h := h.1 c12
          refine zV_aloadr_n (pc := 113) dX10_wantCond_113 rfl 0 rfl ?_
          refine zV_ldc2 (pc := 114) (v := 1111) dX10_wantCond_114 (zmem 1544 (by decide +kernel) (by decide +kernel)) ?_
          refine zV_callVf (pc := 117) (mc := mX10_isWord) (As := [.long (1111 : Int64)]) (rest := []) dX10_wantCond_117 zcX10_251 ziX10_isWord zsX10_isWord rfl rfl rfl rfl (Nat.le_of_ble_eq_true rfl) (c_X10_isWord hm0) (fun hr13 => ?_)
          have key : ∀ v15 : Int, v15 = (if (m0.1 98 24 = 1 ∧ m0.2.1 98 27 = (1111 : Int64)) then 8 else 9) → zV K mX10_wantCond (d + 8) 130 [(0, rr K 98), (1, .int (iz x1)), (3, .int (iz x3))] [.int (iz v15)] m0 Q := by
            intro v15 e16
            replace h := h v15 e16
            have hrv15 : inR v15 := by rw [e16]; (repeat' split) <;> first | with_reducible exact (inRd rfl)
            refine zV_istore (pc := 130) (loc' := [(4, .int (iz v15)), (0, rr K 98), (1, .int (iz x1)), (3, .int (iz x3))]) dX10_wantCond_130 (by decide) rfl ?_
            refine zV_aloadr_n (pc := 132) dX10_wantCond_132 rfl 1 rfl ?_
            refine zV_iload (pc := 133) dX10_wantCond_133 0 rfl ?_
            refine zV_callV (pc := 135) (mc := mX10_settle) (As := [.int (iz v15)]) (rest := []) dX10_wantCond_135 zcX10_284 ziX10_settle zsX10_settle rfl rfl rfl rfl (Nat.le_of_ble_eq_true rfl) h (fun r17 m18 hr17 h => zV_ok (fun hm18 => ?_))
            replace h := h hr17 hm18
            refine zV_aloadr_n (pc := 138) dX10_wantCond_138 rfl 1 rfl ?_
            refine zV_iload (pc := 139) dX10_wantCond_139 0 rfl ?_
            refine zV_callV (pc := 141) (mc := mX10_hold) (As := [.int (iz v15)]) (rest := []) dX10_wantCond_141 zcX10_278 ziX10_hold zsX10_hold rfl rfl rfl rfl (Nat.le_of_ble_eq_true rfl) h (fun r19 m20 hr19 h => zV_ok (fun hm20 => ?_))
            replace h := h hr19 hm20
            refine zV_iconst (pc := 144) dX10_wantCond_144 ?_
            refine zV_istore_n (pc := 145) (loc' := [(2, .int (iz 1)), (4, .int (iz v15)), (0, rr K 98), (1, .int (iz x1)), (3, .int (iz x3))]) dX10_wantCond_145 rfl (by decide) rfl ?_
            refine zV_goto (pc := 146) (tgt := 11) dX10_wantCond_146 (by decide) ?_
            exact zV_sub [2, 3, 0, 4] rfl h
          refine zV_if_eq (pc := 120) (tgt := 128) dX10_wantCond_120 (by decide) (inR_b2i _) (fun c21 => ?_) (fun c21 => ?_)
          · replace c21 := b2i_fp c21
            refine zV_bipush (pc := 128) dX10_wantCond_128 (by decide) ?_
            exact zV_sub [0, 1, 3] rfl (key _ (if_neg c21).symm)
          · replace c21 := b2i_tp c21
            refine zV_bipush (pc := 123) dX10_wantCond_123 (by decide) ?_
            refine zV_goto (pc := 125) (tgt := 130) dX10_wantCond_125 (by decide) ?_
            exact zV_sub [0, 1, 3] rfl (key _ (if_pos c21).symm)
        · replace c12 := b2i_fn c12
          replace h := h.2 c12
          refine zV_aloadr_n (pc := 103) dX10_wantCond_103 rfl 0 rfl ?_
          refine zV_ldc2 (pc := 104) (v := 423) dX10_wantCond_104 (zmem 1545 (by decide +kernel) (by decide +kernel)) ?_
          refine zV_callVf (pc := 107) (mc := mX10_isWord) (As := [.long (423 : Int64)]) (rest := []) dX10_wantCond_107 zcX10_251 ziX10_isWord zsX10_isWord rfl rfl rfl rfl (Nat.le_of_ble_eq_true rfl) (c_X10_isWord hm0) (fun hr22 => ?_)
          refine zV_if_eq (pc := 110) (tgt := 149) dX10_wantCond_110 (by decide) (inR_b2i _) (fun c24 => ?_) (fun c24 => ?_)
          · replace c24 := b2i_fp c24
            replace h := h.2 c24
            refine zV_iload_n (pc := 149) dX10_wantCond_149 rfl 1 rfl ?_
            refine zV_if_le (pc := 150) (tgt := 191) dX10_wantCond_150 (by decide) hx1 (fun c25 => ?_) (fun c25 => ?_)
            · skip
              replace h := h.1 c25
              refine zV_iconst (pc := 191) dX10_wantCond_191 ?_
              refine zV_istore_n (pc := 192) (loc' := [(3, .int (iz 0)), (0, rr K 98), (1, .int (iz x1)), (2, .int (iz x2))]) dX10_wantCond_192 rfl (by decide) rfl ?_
              refine zV_goto (pc := 193) (tgt := 11) dX10_wantCond_193 (by decide) ?_
              exact zV_sub [1, 2, 3, 0] rfl h
            · skip
              replace h := h.2 c25
              refine zV_aloadr_n (pc := 153) dX10_wantCond_153 rfl 0 rfl ?_
              refine zV_bipush (pc := 154) dX10_wantCond_154 (by decide) ?_
              refine zV_callV (pc := 156) (mc := mX10_settle) (As := [.int (iz 9)]) (rest := []) dX10_wantCond_156 zcX10_284 ziX10_settle zsX10_settle rfl rfl rfl rfl (Nat.le_of_ble_eq_true rfl) h (fun r26 m27 hr26 h => zV_ok (fun hm27 => ?_))
              replace h := h hr26 hm27
              refine zV_aloadr_n (pc := 159) dX10_wantCond_159 rfl 0 rfl ?_
              refine zV_dup (pc := 160) dX10_wantCond_160 rfl ?_
              refine zV_getI (pc := 161) (kz := 33) dX10_wantCond_161 zfX10_243 rfl rfl rfl ?_
              refine zV_iconst (pc := 164) dX10_wantCond_164 ?_
              refine zV_isub (pc := 165) dX10_wantCond_165 ?_
              obtain ⟨o28, h⟩ := h
              refine zV_putI (pc := 166) (kz := 33) dX10_wantCond_166 zpX10_243 rfl rfl rfl o28 rfl rfl ?_
              refine zV_mem (fun m29 e30 => zV_ok (fun hm29 => ?_))
              replace h := h m29 e30 hm29
              refine zV_iinc (pc := 169) (loc' := [(1, .int (iz (x1 + (-1)))), (0, rr K 98), (2, .int (iz x2)), (3, .int (iz x3))]) dX10_wantCond_169 1 rfl (by decide) rfl ?_
              refine zV_aloadr_n (pc := 172) dX10_wantCond_172 rfl 1 rfl ?_
              refine zV_aloadr_n (pc := 173) dX10_wantCond_173 rfl 1 rfl ?_
              refine zV_bipush (pc := 174) dX10_wantCond_174 (by decide) ?_
              refine zV_callVf (pc := 176) (mc := mX10_isMark) (As := [.int (iz 41)]) (rest := [rr K 98]) dX10_wantCond_176 zcX10_270 ziX10_isMark zsX10_isMark rfl rfl rfl rfl (Nat.le_of_ble_eq_true rfl) (c_X10_isMark (inRd rfl) hm29) (fun hr31 => ?_)
              refine zV_callV (pc := 179) (mc := mX10_want) (As := [.int (iz (b2i (decide (m29.1 98 24 = 3 ∧ m29.2.1 98 27 = (iz 41).toInt64))))]) (rest := []) dX10_wantCond_179 zcX10_236 ziX10_want zsX10_want rfl rfl rfl rfl (Nat.le_of_ble_eq_true rfl) h (fun r33 m34 hr33 h => zV_ok (fun hm34 => ?_))
              replace h := h hr33 hm34
              refine zV_aloadr_n (pc := 182) dX10_wantCond_182 rfl 1 rfl ?_
              refine zV_bipush (pc := 183) dX10_wantCond_183 (by decide) ?_
              refine zV_callV (pc := 185) (mc := mX10_settle) (As := [.int (iz 7)]) (rest := []) dX10_wantCond_185 zcX10_284 ziX10_settle zsX10_settle rfl rfl rfl rfl (Nat.le_of_ble_eq_true rfl) h (fun r35 m36 hr35 h => zV_ok (fun hm36 => ?_))
              replace h := h hr35 hm36
              refine zV_goto (pc := 188) (tgt := 11) dX10_wantCond_188 (by decide) ?_
              exact zV_sub [1, 0, 2, 3] rfl h
          · replace c24 := b2i_tp c24
            replace h := h.1 c24
            refine zV_aloadr_n (pc := 113) dX10_wantCond_113 rfl 0 rfl ?_
            refine zV_ldc2 (pc := 114) (v := 1111) dX10_wantCond_114 (zmem 1544 (by decide +kernel) (by decide +kernel)) ?_
            refine zV_callVf (pc := 117) (mc := mX10_isWord) (As := [.long (1111 : Int64)]) (rest := []) dX10_wantCond_117 zcX10_251 ziX10_isWord zsX10_isWord rfl rfl rfl rfl (Nat.le_of_ble_eq_true rfl) (c_X10_isWord hm0) (fun hr37 => ?_)
            have key : ∀ v39 : Int, v39 = (if (m0.1 98 24 = 1 ∧ m0.2.1 98 27 = (1111 : Int64)) then 8 else 9) → zV K mX10_wantCond (d + 8) 130 [(0, rr K 98), (1, .int (iz x1)), (3, .int (iz x3))] [.int (iz v39)] m0 Q := by
              intro v39 e40
              replace h := h v39 e40
              have hrv39 : inR v39 := by rw [e40]; (repeat' split) <;> first | with_reducible exact (inRd rfl)
              refine zV_istore (pc := 130) (loc' := [(4, .int (iz v39)), (0, rr K 98), (1, .int (iz x1)), (3, .int (iz x3))]) dX10_wantCond_130 (by decide) rfl ?_
              refine zV_aloadr_n (pc := 132) dX10_wantCond_132 rfl 1 rfl ?_
              refine zV_iload (pc := 133) dX10_wantCond_133 0 rfl ?_
              refine zV_callV (pc := 135) (mc := mX10_settle) (As := [.int (iz v39)]) (rest := []) dX10_wantCond_135 zcX10_284 ziX10_settle zsX10_settle rfl rfl rfl rfl (Nat.le_of_ble_eq_true rfl) h (fun r41 m42 hr41 h => zV_ok (fun hm42 => ?_))
              replace h := h hr41 hm42
              refine zV_aloadr_n (pc := 138) dX10_wantCond_138 rfl 1 rfl ?_
              refine zV_iload (pc := 139) dX10_wantCond_139 0 rfl ?_
              refine zV_callV (pc := 141) (mc := mX10_hold) (As := [.int (iz v39)]) (rest := []) dX10_wantCond_141 zcX10_278 ziX10_hold zsX10_hold rfl rfl rfl rfl (Nat.le_of_ble_eq_true rfl) h (fun r43 m44 hr43 h => zV_ok (fun hm44 => ?_))
              replace h := h hr43 hm44
              refine zV_iconst (pc := 144) dX10_wantCond_144 ?_
              refine zV_istore_n (pc := 145) (loc' := [(2, .int (iz 1)), (4, .int (iz v39)), (0, rr K 98), (1, .int (iz x1)), (3, .int (iz x3))]) dX10_wantCond_145 rfl (by decide) rfl ?_
              refine zV_goto (pc := 146) (tgt := 11) dX10_wantCond_146 (by decide) ?_
              exact zV_sub [2, 3, 0, 4] rfl h
            refine zV_if_eq (pc := 120) (tgt := 128) dX10_wantCond_120 (by decide) (inR_b2i _) (fun c45 => ?_) (fun c45 => ?_)
            · replace c45 := b2i_fp c45
              refine zV_bipush (pc := 128) dX10_wantCond_128 (by decide) ?_
              exact zV_sub [0, 1, 3] rfl (key _ (if_neg c45).symm)
            · replace c45 := b2i_tp c45
              refine zV_bipush (pc := 123) dX10_wantCond_123 (by decide) ?_
              refine zV_goto (pc := 125) (tgt := 130) dX10_wantCond_125 (by decide) ?_
              exact zV_sub [0, 1, 3] rfl (key _ (if_pos c45).symm)
      · skip
        replace h := h.2 c9
        refine zV_aloadr_n (pc := 26) dX10_wantCond_26 rfl 0 rfl ?_
        refine zV_ldc2 (pc := 27) (v := 10631) dX10_wantCond_27 (zmem 1506 (by decide +kernel) (by decide +kernel)) ?_
        refine zV_callVf (pc := 30) (mc := mX10_isWord) (As := [.long (10631 : Int64)]) (rest := []) dX10_wantCond_30 zcX10_251 ziX10_isWord zsX10_isWord rfl rfl rfl rfl (Nat.le_of_ble_eq_true rfl) (c_X10_isWord hm0) (fun hr46 => ?_)
        refine zV_if_eq (pc := 33) (tgt := 45) dX10_wantCond_33 (by decide) (inR_b2i _) (fun c48 => ?_) (fun c48 => ?_)
        · replace c48 := b2i_fp c48
          replace h := h.2 c48
          refine zV_aloadr_n (pc := 45) dX10_wantCond_45 rfl 0 rfl ?_
          refine zV_bipush (pc := 46) dX10_wantCond_46 (by decide) ?_
          refine zV_callVf (pc := 48) (mc := mX10_isMark) (As := [.int (iz 40)]) (rest := []) dX10_wantCond_48 zcX10_270 ziX10_isMark zsX10_isMark rfl rfl rfl rfl (Nat.le_of_ble_eq_true rfl) (c_X10_isMark (inRd rfl) hm0) (fun hr49 => ?_)
          refine zV_if_eq (pc := 51) (tgt := 78) dX10_wantCond_51 (by decide) (inR_b2i _) (fun c51 => ?_) (fun c51 => ?_)
          · replace c51 := b2i_fp c51
            replace h := h.2 c51
            refine zV_aloadr_n (pc := 78) dX10_wantCond_78 rfl 0 rfl ?_
            refine zV_callV (pc := 79) (mc := mX10_wantAsk) (As := []) (rest := []) dX10_wantCond_79 zcX10_281 ziX10_wantAsk zsX10_wantAsk rfl rfl rfl rfl (Nat.le_of_ble_eq_true rfl) h (fun r52 m53 hr52 h => zV_ok (fun hm53 => ?_))
            replace h := h hr52 hm53
            refine zV_aloadr_n (pc := 82) dX10_wantCond_82 rfl 0 rfl ?_
            refine zV_bipush (pc := 83) dX10_wantCond_83 (by decide) ?_
            refine zV_callV (pc := 85) (mc := mX10_settle) (As := [.int (iz 7)]) (rest := []) dX10_wantCond_85 zcX10_284 ziX10_settle zsX10_settle rfl rfl rfl rfl (Nat.le_of_ble_eq_true rfl) h (fun r54 m55 hr54 h => zV_ok (fun hm55 => ?_))
            replace h := h hr54 hm55
            refine zV_iconst (pc := 88) dX10_wantCond_88 ?_
            refine zV_istore_n (pc := 89) (loc' := [(2, .int (iz 0)), (0, rr K 98), (1, .int (iz x1)), (3, .int (iz x3))]) dX10_wantCond_89 rfl (by decide) rfl ?_
            refine zV_goto (pc := 90) (tgt := 11) dX10_wantCond_90 (by decide) ?_
            exact zV_sub [1, 2, 0, 3] rfl h
          · replace c51 := b2i_tp c51
            replace h := h.1 c51
            refine zV_iload_n (pc := 54) dX10_wantCond_54 rfl 1 rfl ?_
            refine zV_iconst (pc := 55) dX10_wantCond_55 ?_
            refine zV_icmp_ne (pc := 56) (tgt := 66) dX10_wantCond_56 (by decide) hx1 (inRd rfl) (fun c56 => ?_) (fun c56 => ?_)
            · skip
              replace h := h.2 c56
              refine zV_aloadr_n (pc := 66) dX10_wantCond_66 rfl 0 rfl ?_
              refine zV_bipush (pc := 67) dX10_wantCond_67 (by decide) ?_
              refine zV_callV (pc := 69) (mc := mX10_hold) (As := [.int (iz 10)]) (rest := []) dX10_wantCond_69 zcX10_278 ziX10_hold zsX10_hold rfl rfl rfl rfl (Nat.le_of_ble_eq_true rfl) h (fun r57 m58 hr57 h => zV_ok (fun hm58 => ?_))
              replace h := h hr57 hm58
              refine zV_iinc (pc := 72) (loc' := [(1, .int (iz (x1 + 1))), (0, rr K 98), (2, .int (iz x2)), (3, .int (iz x3))]) dX10_wantCond_72 1 rfl (by decide) rfl ?_
              refine zV_goto (pc := 75) (tgt := 11) dX10_wantCond_75 (by decide) ?_
              exact zV_sub [1, 0, 2, 3] rfl h
            · replace c56 := Classical.not_not.mp c56
              replace h := h.1 c56
              refine zV_aloadr_n (pc := 59) dX10_wantCond_59 rfl 0 rfl ?_
              refine zV_callV (pc := 60) (mc := mX10_faulty) (As := []) (rest := []) dX10_wantCond_60 zcX10_233 ziX10_faulty zsX10_faulty rfl rfl rfl rfl (Nat.le_of_ble_eq_true rfl) h (fun r59 m60 hr59 h => zV_ok (fun hm60 => ?_))
              replace h := h hr59 hm60
              refine zV_goto (pc := 63) (tgt := 11) dX10_wantCond_63 (by decide) ?_
              exact zV_sub [0, 1, 2, 3] rfl h
        · replace c48 := b2i_tp c48
          replace h := h.1 c48
          refine zV_aloadr_n (pc := 36) dX10_wantCond_36 rfl 0 rfl ?_
          refine zV_bipush (pc := 37) dX10_wantCond_37 (by decide) ?_
          refine zV_callV (pc := 39) (mc := mX10_hold) (As := [.int (iz 7)]) (rest := []) dX10_wantCond_39 zcX10_278 ziX10_hold zsX10_hold rfl rfl rfl rfl (Nat.le_of_ble_eq_true rfl) h (fun r61 m62 hr61 h => zV_ok (fun hm62 => ?_))
          replace h := h hr61 hm62
          refine zV_goto (pc := 42) (tgt := 11) dX10_wantCond_42 (by decide) ?_
          exact zV_sub [0, 1, 2, 3] rfl h

set_option maxRecDepth 100000 in
set_option maxHeartbeats 4000000 in
theorem vc_X10_read_0 {K : zCx} {d : Nat}  (m0 : zM) {Q : Int → zM → Prop}  (h : zok m0 → ∀ m1 : zM, m1 = sI m0 98 28 (-1) → zok m1 → (∀ m3 : zM, m3 = sI m1 98 26 0 → zok m3 → (∀ m5 : zM, m5 = sI m3 98 32 0 → zok m5 → (zCt K (d + 8) mX10_advance [rr K 98] m5 (fun r7 m8 => inR r7 → zok m8 → zV K mX10_read (d + 9) 21 [(0, rr K 98), (1, .int (iz 0))] [] m8 Q))))) : zV K mX10_read (d + 9) 0 [(0, rr K 98)] [] m0 Q := by
  refine zV_ok (fun hm0 => ?_)
  replace h := h hm0
  refine zV_aloadr_n (pc := 0) dX10_read_0 rfl 0 rfl ?_
  refine zV_iconst (pc := 1) dX10_read_1 ?_
  refine zV_putI (pc := 2) (kz := 28) dX10_read_2 zpX10_223 rfl rfl rfl (inRd rfl) rfl rfl ?_
  refine zV_mem (fun m1 e2 => zV_ok (fun hm1 => ?_))
  replace h := h m1 e2 hm1
  refine zV_aloadr_n (pc := 5) dX10_read_5 rfl 0 rfl ?_
  refine zV_iconst (pc := 6) dX10_read_6 ?_
  refine zV_putI (pc := 7) (kz := 26) dX10_read_7 zpX10_196 rfl rfl rfl (inRd rfl) rfl rfl ?_
  refine zV_mem (fun m3 e4 => zV_ok (fun hm3 => ?_))
  replace h := h m3 e4 hm3
  refine zV_aloadr_n (pc := 10) dX10_read_10 rfl 0 rfl ?_
  refine zV_iconst (pc := 11) dX10_read_11 ?_
  refine zV_putI (pc := 12) (kz := 32) dX10_read_12 zpX10_240 rfl rfl rfl (inRd rfl) rfl rfl ?_
  refine zV_mem (fun m5 e6 => zV_ok (fun hm5 => ?_))
  replace h := h m5 e6 hm5
  refine zV_aloadr_n (pc := 15) dX10_read_15 rfl 0 rfl ?_
  refine zV_callV (pc := 16) (mc := mX10_advance) (As := []) (rest := []) dX10_read_16 zcX10_230 ziX10_advance zsX10_advance rfl rfl rfl rfl (Nat.le_of_ble_eq_true rfl) h (fun r7 m8 hr7 h => zV_ok (fun hm8 => ?_))
  replace h := h hr7 hm8
  refine zV_iconst (pc := 19) dX10_read_19 ?_
  refine zV_istore_n (pc := 20) (loc' := [(1, .int (iz 0)), (0, rr K 98)]) dX10_read_20 rfl (by decide) rfl ?_
  exact zV_sub [1, 0] rfl h
set_option maxRecDepth 100000 in
set_option maxHeartbeats 4000000 in
theorem vc_X10_read_21 {K : zCx} {d : Nat} (x1 : Int) (m0 : zM) {Q : Int → zM → Prop} (hx1 : inR x1) (h : zok m0 → ((m0.1 98 24) = 0 → ∀ m2 : zM, m2 = sI m0 98 23 0 → zok m2 → (((m2.1 98 28 < 0) → ∀ m7 : zM, m7 = sI m2 98 10 x1 → zok m7 → (zV K mX10_read (d + 9) 131 [(0, rr K 98), (1, .int (iz x1)), (2, .int (iz 0))] [] m7 Q)) ∧ (¬ ((m2.1 98 28 < 0)) → inR ((-100) - (m2.1 98 28)) ∧ (Q ((-100) - (m2.1 98 28)) m2)))) ∧ (¬ ((m0.1 98 24) = 0) → ((m0.1 98 28 < 0) → ∀ v23 : Int, v23 = (if (m0.1 98 24 = 1 ∧ m0.2.1 98 27 = (459791 : Int64)) then (if 8 ≤ x1 then 0 else 1) else 0) → (zCt K (d + 8) mX10_want [rr K 98, .int (iz v23)] m0 (fun r25 m26 => inR r25 → zok m26 → ((m26.1 98 28 < 0) → zCt K (d + 8) mX10_wantCond [rr K 98] m26 (fun r37 m38 => inR r37 → zok m38 → zCt K (d + 8) mX10_want [rr K 98, .int (iz (b2i (decide (m38.1 98 24 = 3 ∧ m38.2.1 98 27 = (iz 59).toInt64))))] m38 (fun r41 m42 => inR r41 → zok m42 → ((m42.1 98 28 < 0) → 0 ≤ x1 ∧ x1 < 8 ∧ (∀ m48 : zM, m48 = sI m42 114 x1 (m42.1 98 32) → zok m48 → (zV K mX10_read (d + 9) 21 [(0, rr K 98), (1, .int (iz (x1 + 1)))] [] m48 Q))) ∧ (¬ ((m42.1 98 28 < 0)) → zV K mX10_read (d + 9) 21 [(0, rr K 98), (1, .int (iz x1))] [] m42 Q)))) ∧ (¬ ((m26.1 98 28 < 0)) → ((m26.1 98 28 < 0) → 0 ≤ x1 ∧ x1 < 8 ∧ (∀ m35 : zM, m35 = sI m26 114 x1 (m26.1 98 32) → zok m35 → (zV K mX10_read (d + 9) 21 [(0, rr K 98), (1, .int (iz (x1 + 1)))] [] m35 Q))) ∧ (¬ ((m26.1 98 28 < 0)) → zV K mX10_read (d + 9) 21 [(0, rr K 98), (1, .int (iz x1))] [] m26 Q))))) ∧ (¬ ((m0.1 98 28 < 0)) → ∀ m13 : zM, m13 = sI m0 98 23 0 → zok m13 → (((m13.1 98 28 < 0) → ∀ m18 : zM, m18 = sI m13 98 10 x1 → zok m18 → (zV K mX10_read (d + 9) 131 [(0, rr K 98), (1, .int (iz x1)), (2, .int (iz 0))] [] m18 Q)) ∧ (¬ ((m13.1 98 28 < 0)) → inR ((-100) - (m13.1 98 28)) ∧ (Q ((-100) - (m13.1 98 28)) m13)))))) : zV K mX10_read (d + 9) 21 [(0, rr K 98), (1, .int (iz x1))] [] m0 Q := by
  refine zV_ok (fun hm0 => ?_)
  replace h := h hm0
  refine zV_aloadr_n (pc := 21) dX10_read_21 rfl 0 rfl ?_
  refine zV_getI (pc := 22) (kz := 24) dX10_read_22 zfX10_206 rfl rfl rfl ?_
  refine zV_if_eq (pc := 25) (tgt := 104) dX10_read_25 (by decide) (hm0 _ _) (fun c1 => ?_) (fun c1 => ?_)
  · skip
    replace h := h.1 c1
    refine zV_aloadr_n (pc := 104) dX10_read_104 rfl 0 rfl ?_
    refine zV_iconst (pc := 105) dX10_read_105 ?_
    refine zV_putI (pc := 106) (kz := 23) dX10_read_106 zpX10_191 rfl rfl rfl (inRd rfl) rfl rfl ?_
    refine zV_mem (fun m2 e3 => zV_ok (fun hm2 => ?_))
    replace h := h m2 e3 hm2
    refine zV_aloadr_n (pc := 109) dX10_read_109 rfl 0 rfl ?_
    refine zV_callVf (pc := 110) (mc := mX10_isGood) (As := []) (rest := []) dX10_read_110 zcX10_226 ziX10_isGood zsX10_isGood rfl rfl rfl rfl (Nat.le_of_ble_eq_true rfl) (c_X10_isGood hm2) (fun hr4 => ?_)
    refine zV_if_ne (pc := 113) (tgt := 124) dX10_read_113 (by decide) (inR_b2i _) (fun c6 => ?_) (fun c6 => ?_)
    · replace c6 := b2i_tp c6
      replace h := h.1 c6
      refine zV_aloadr_n (pc := 124) dX10_read_124 rfl 0 rfl ?_
      refine zV_iload_n (pc := 125) dX10_read_125 rfl 1 rfl ?_
      refine zV_putI (pc := 126) (kz := 10) dX10_read_126 zpX10_296 rfl rfl rfl hx1 rfl rfl ?_
      refine zV_mem (fun m7 e8 => zV_ok (fun hm7 => ?_))
      replace h := h m7 e8 hm7
      refine zV_iconst (pc := 129) dX10_read_129 ?_
      refine zV_istore_n (pc := 130) (loc' := [(2, .int (iz 0)), (0, rr K 98), (1, .int (iz x1))]) dX10_read_130 rfl (by decide) rfl ?_
      exact zV_sub [1, 2, 0] rfl h
    · replace c6 := b2i_fn c6
      replace h := h.2 c6
      refine zV_bipush (pc := 116) dX10_read_116 (by decide) ?_
      refine zV_aloadr_n (pc := 118) dX10_read_118 rfl 0 rfl ?_
      refine zV_getI (pc := 119) (kz := 28) dX10_read_119 zfX10_223 rfl rfl rfl ?_
      refine zV_isub (pc := 122) dX10_read_122 ?_
      obtain ⟨o9, h⟩ := h
      exact zV_iret (pc := 123) rfl dX10_read_123 o9 h
  · skip
    replace h := h.2 c1
    refine zV_aloadr_n (pc := 28) dX10_read_28 rfl 0 rfl ?_
    refine zV_callVf (pc := 29) (mc := mX10_isGood) (As := []) (rest := []) dX10_read_29 zcX10_226 ziX10_isGood zsX10_isGood rfl rfl rfl rfl (Nat.le_of_ble_eq_true rfl) (c_X10_isGood hm0) (fun hr10 => ?_)
    refine zV_if_eq (pc := 32) (tgt := 104) dX10_read_32 (by decide) (inR_b2i _) (fun c12 => ?_) (fun c12 => ?_)
    · replace c12 := b2i_fp c12
      replace h := h.2 c12
      refine zV_aloadr_n (pc := 104) dX10_read_104 rfl 0 rfl ?_
      refine zV_iconst (pc := 105) dX10_read_105 ?_
      refine zV_putI (pc := 106) (kz := 23) dX10_read_106 zpX10_191 rfl rfl rfl (inRd rfl) rfl rfl ?_
      refine zV_mem (fun m13 e14 => zV_ok (fun hm13 => ?_))
      replace h := h m13 e14 hm13
      refine zV_aloadr_n (pc := 109) dX10_read_109 rfl 0 rfl ?_
      refine zV_callVf (pc := 110) (mc := mX10_isGood) (As := []) (rest := []) dX10_read_110 zcX10_226 ziX10_isGood zsX10_isGood rfl rfl rfl rfl (Nat.le_of_ble_eq_true rfl) (c_X10_isGood hm13) (fun hr15 => ?_)
      refine zV_if_ne (pc := 113) (tgt := 124) dX10_read_113 (by decide) (inR_b2i _) (fun c17 => ?_) (fun c17 => ?_)
      · replace c17 := b2i_tp c17
        replace h := h.1 c17
        refine zV_aloadr_n (pc := 124) dX10_read_124 rfl 0 rfl ?_
        refine zV_iload_n (pc := 125) dX10_read_125 rfl 1 rfl ?_
        refine zV_putI (pc := 126) (kz := 10) dX10_read_126 zpX10_296 rfl rfl rfl hx1 rfl rfl ?_
        refine zV_mem (fun m18 e19 => zV_ok (fun hm18 => ?_))
        replace h := h m18 e19 hm18
        refine zV_iconst (pc := 129) dX10_read_129 ?_
        refine zV_istore_n (pc := 130) (loc' := [(2, .int (iz 0)), (0, rr K 98), (1, .int (iz x1))]) dX10_read_130 rfl (by decide) rfl ?_
        exact zV_sub [1, 2, 0] rfl h
      · replace c17 := b2i_fn c17
        replace h := h.2 c17
        refine zV_bipush (pc := 116) dX10_read_116 (by decide) ?_
        refine zV_aloadr_n (pc := 118) dX10_read_118 rfl 0 rfl ?_
        refine zV_getI (pc := 119) (kz := 28) dX10_read_119 zfX10_223 rfl rfl rfl ?_
        refine zV_isub (pc := 122) dX10_read_122 ?_
        obtain ⟨o20, h⟩ := h
        exact zV_iret (pc := 123) rfl dX10_read_123 o20 h
    · replace c12 := b2i_tp c12
      replace h := h.1 c12
      refine zV_aloadr_n (pc := 35) dX10_read_35 rfl 0 rfl ?_
      refine zV_aloadr_n (pc := 36) dX10_read_36 rfl 0 rfl ?_
      refine zV_ldc2 (pc := 37) (v := 459791) dX10_read_37 (zmem 1489 (by decide +kernel) (by decide +kernel)) ?_
      refine zV_callVf (pc := 40) (mc := mX10_isWord) (As := [.long (459791 : Int64)]) (rest := [rr K 98]) dX10_read_40 zcX10_251 ziX10_isWord zsX10_isWord rfl rfl rfl rfl (Nat.le_of_ble_eq_true rfl) (c_X10_isWord hm0) (fun hr21 => ?_)
      have key : ∀ v23 : Int, v23 = (if (m0.1 98 24 = 1 ∧ m0.2.1 98 27 = (459791 : Int64)) then (if 8 ≤ x1 then 0 else 1) else 0) → zV K mX10_read (d + 9) 57 [(0, rr K 98), (1, .int (iz x1))] [.int (iz v23), rr K 98] m0 Q := by
        intro v23 e24
        replace h := h v23 e24
        have hrv23 : inR v23 := by rw [e24]; (repeat' split) <;> first | with_reducible exact (inRd rfl)
        refine zV_callV (pc := 57) (mc := mX10_want) (As := [.int (iz v23)]) (rest := []) dX10_read_57 zcX10_236 ziX10_want zsX10_want rfl rfl rfl rfl (Nat.le_of_ble_eq_true rfl) h (fun r25 m26 hr25 h => zV_ok (fun hm26 => ?_))
        replace h := h hr25 hm26
        refine zV_aloadr_n (pc := 60) dX10_read_60 rfl 0 rfl ?_
        refine zV_callVf (pc := 61) (mc := mX10_isGood) (As := []) (rest := []) dX10_read_61 zcX10_226 ziX10_isGood zsX10_isGood rfl rfl rfl rfl (Nat.le_of_ble_eq_true rfl) (c_X10_isGood hm26) (fun hr27 => ?_)
        refine zV_if_eq (pc := 64) (tgt := 81) dX10_read_64 (by decide) (inR_b2i _) (fun c29 => ?_) (fun c29 => ?_)
        · replace c29 := b2i_fp c29
          replace h := h.2 c29
          refine zV_aloadr_n (pc := 81) dX10_read_81 rfl 0 rfl ?_
          refine zV_callVf (pc := 82) (mc := mX10_isGood) (As := []) (rest := []) dX10_read_82 zcX10_226 ziX10_isGood zsX10_isGood rfl rfl rfl rfl (Nat.le_of_ble_eq_true rfl) (c_X10_isGood hm26) (fun hr30 => ?_)
          refine zV_if_eq (pc := 85) (tgt := 21) dX10_read_85 (by decide) (inR_b2i _) (fun c32 => ?_) (fun c32 => ?_)
          · replace c32 := b2i_fp c32
            replace h := h.2 c32
            exact zV_sub [0, 1] rfl h
          · replace c32 := b2i_tp c32
            replace h := h.1 c32
            refine zV_aloadr_n (pc := 88) dX10_read_88 rfl 0 rfl ?_
            refine zV_getR (pc := 89) (b := 114) dX10_read_89 zfX10_59 rfl rfl rfl ?_
            refine zV_iload_n (pc := 92) dX10_read_92 rfl 1 rfl ?_
            refine zV_aloadr_n (pc := 93) dX10_read_93 rfl 0 rfl ?_
            refine zV_getI (pc := 94) (kz := 32) dX10_read_94 zfX10_240 rfl rfl rfl ?_
            obtain ⟨o33, o34, h⟩ := h
            refine zV_iast (pc := 97) dX10_read_97 rfl o33 o34 (inR_ix o33 o34 rfl) (hm26 _ _) ?_
            refine zV_mem (fun m35 e36 => zV_ok (fun hm35 => ?_))
            replace h := h m35 e36 hm35
            refine zV_iinc (pc := 98) (loc' := [(1, .int (iz (x1 + 1))), (0, rr K 98)]) dX10_read_98 1 rfl (by decide) rfl ?_
            refine zV_goto (pc := 101) (tgt := 21) dX10_read_101 (by decide) ?_
            exact zV_sub [1, 0] rfl h
        · replace c29 := b2i_tp c29
          replace h := h.1 c29
          refine zV_aloadr_n (pc := 67) dX10_read_67 rfl 0 rfl ?_
          refine zV_callV (pc := 68) (mc := mX10_wantCond) (As := []) (rest := []) dX10_read_68 zcX10_293 ziX10_wantCond zsX10_wantCond rfl rfl rfl rfl (Nat.le_of_ble_eq_true rfl) h (fun r37 m38 hr37 h => zV_ok (fun hm38 => ?_))
          replace h := h hr37 hm38
          refine zV_aloadr_n (pc := 71) dX10_read_71 rfl 0 rfl ?_
          refine zV_aloadr_n (pc := 72) dX10_read_72 rfl 0 rfl ?_
          refine zV_bipush (pc := 73) dX10_read_73 (by decide) ?_
          refine zV_callVf (pc := 75) (mc := mX10_isMark) (As := [.int (iz 59)]) (rest := [rr K 98]) dX10_read_75 zcX10_270 ziX10_isMark zsX10_isMark rfl rfl rfl rfl (Nat.le_of_ble_eq_true rfl) (c_X10_isMark (inRd rfl) hm38) (fun hr39 => ?_)
          refine zV_callV (pc := 78) (mc := mX10_want) (As := [.int (iz (b2i (decide (m38.1 98 24 = 3 ∧ m38.2.1 98 27 = (iz 59).toInt64))))]) (rest := []) dX10_read_78 zcX10_236 ziX10_want zsX10_want rfl rfl rfl rfl (Nat.le_of_ble_eq_true rfl) h (fun r41 m42 hr41 h => zV_ok (fun hm42 => ?_))
          replace h := h hr41 hm42
          refine zV_aloadr_n (pc := 81) dX10_read_81 rfl 0 rfl ?_
          refine zV_callVf (pc := 82) (mc := mX10_isGood) (As := []) (rest := []) dX10_read_82 zcX10_226 ziX10_isGood zsX10_isGood rfl rfl rfl rfl (Nat.le_of_ble_eq_true rfl) (c_X10_isGood hm42) (fun hr43 => ?_)
          refine zV_if_eq (pc := 85) (tgt := 21) dX10_read_85 (by decide) (inR_b2i _) (fun c45 => ?_) (fun c45 => ?_)
          · replace c45 := b2i_fp c45
            replace h := h.2 c45
            exact zV_sub [0, 1] rfl h
          · replace c45 := b2i_tp c45
            replace h := h.1 c45
            refine zV_aloadr_n (pc := 88) dX10_read_88 rfl 0 rfl ?_
            refine zV_getR (pc := 89) (b := 114) dX10_read_89 zfX10_59 rfl rfl rfl ?_
            refine zV_iload_n (pc := 92) dX10_read_92 rfl 1 rfl ?_
            refine zV_aloadr_n (pc := 93) dX10_read_93 rfl 0 rfl ?_
            refine zV_getI (pc := 94) (kz := 32) dX10_read_94 zfX10_240 rfl rfl rfl ?_
            obtain ⟨o46, o47, h⟩ := h
            refine zV_iast (pc := 97) dX10_read_97 rfl o46 o47 (inR_ix o46 o47 rfl) (hm42 _ _) ?_
            refine zV_mem (fun m48 e49 => zV_ok (fun hm48 => ?_))
            replace h := h m48 e49 hm48
            refine zV_iinc (pc := 98) (loc' := [(1, .int (iz (x1 + 1))), (0, rr K 98)]) dX10_read_98 1 rfl (by decide) rfl ?_
            refine zV_goto (pc := 101) (tgt := 21) dX10_read_101 (by decide) ?_
            exact zV_sub [1, 0] rfl h
      refine zV_if_eq (pc := 43) (tgt := 56) dX10_read_43 (by decide) (inR_b2i _) (fun c50 => ?_) (fun c50 => ?_)
      · replace c50 := b2i_fp c50
        refine zV_iconst (pc := 56) dX10_read_56 ?_
        exact zV_sub [0, 1] rfl (key _ (if_neg c50).symm)
      · replace c50 := b2i_tp c50
        refine zV_iload_n (pc := 46) dX10_read_46 rfl 1 rfl ?_
        refine zV_bipush (pc := 47) dX10_read_47 (by decide) ?_
        refine zV_icmp_ge (pc := 49) (tgt := 56) dX10_read_49 (by decide) hx1 (inRd rfl) (fun c51 => ?_) (fun c51 => ?_)
        · skip
          refine zV_iconst (pc := 56) dX10_read_56 ?_
          exact zV_sub [0, 1] rfl (key _ ((if_pos c50).trans (if_pos c51)).symm)
        · skip
          refine zV_iconst (pc := 52) dX10_read_52 ?_
          refine zV_goto (pc := 53) (tgt := 57) dX10_read_53 (by decide) ?_
          exact zV_sub [0, 1] rfl (key _ ((if_pos c50).trans (if_neg c51)).symm)
set_option maxRecDepth 100000 in
set_option maxHeartbeats 4000000 in
theorem vc_X10_read_131 {K : zCx} {d : Nat} (x1 : Int) (x2 : Int) (m0 : zM) {Q : Int → zM → Prop} (hx1 : inR x1) (hx2 : inR x2) (h : zok m0 → (x1 ≤ x2 → zV K mX10_read (d + 9) 156 [(0, rr K 98), (1, .int (iz x1)), (2, .int (iz 0))] [] m0 Q) ∧ (¬ (x1 ≤ x2) → 0 ≤ x2 ∧ x2 < 8 ∧ (∀ m4 : zM, m4 = sI m0 104 x2 (m0.1 114 x2) → zok m4 → (zV K mX10_read (d + 9) 131 [(0, rr K 98), (1, .int (iz x1)), (2, .int (iz (x2 + 1)))] [] m4 Q)))) : zV K mX10_read (d + 9) 131 [(0, rr K 98), (1, .int (iz x1)), (2, .int (iz x2))] [] m0 Q := by
  refine zV_ok (fun hm0 => ?_)
  replace h := h hm0
  refine zV_iload_n (pc := 131) dX10_read_131 rfl 2 rfl ?_
  refine zV_iload_n (pc := 132) dX10_read_132 rfl 1 rfl ?_
  refine zV_icmp_ge (pc := 133) (tgt := 154) dX10_read_133 (by decide) hx2 hx1 (fun c1 => ?_) (fun c1 => ?_)
  · skip
    replace h := h.1 c1
    refine zV_iconst (pc := 154) dX10_read_154 ?_
    refine zV_istore_n (pc := 155) (loc' := [(2, .int (iz 0)), (0, rr K 98), (1, .int (iz x1))]) dX10_read_155 rfl (by decide) rfl ?_
    exact zV_sub [1, 2, 0] rfl h
  · skip
    replace h := h.2 c1
    refine zV_aloadr_n (pc := 136) dX10_read_136 rfl 0 rfl ?_
    refine zV_getR (pc := 137) (b := 104) dX10_read_137 zfX10_29 rfl rfl rfl ?_
    refine zV_iload_n (pc := 140) dX10_read_140 rfl 2 rfl ?_
    refine zV_aloadr_n (pc := 141) dX10_read_141 rfl 0 rfl ?_
    refine zV_getR (pc := 142) (b := 114) dX10_read_142 zfX10_59 rfl rfl rfl ?_
    refine zV_iload_n (pc := 145) dX10_read_145 rfl 2 rfl ?_
    obtain ⟨o2, o3, h⟩ := h
    refine zV_iald (pc := 146) dX10_read_146 rfl o2 o3 (inR_ix o2 o3 rfl) ?_
    refine zV_iast (pc := 147) dX10_read_147 rfl o2 o3 (inR_ix o2 o3 rfl) (hm0 _ _) ?_
    refine zV_mem (fun m4 e5 => zV_ok (fun hm4 => ?_))
    replace h := h m4 e5 hm4
    refine zV_iinc (pc := 148) (loc' := [(2, .int (iz (x2 + 1))), (0, rr K 98), (1, .int (iz x1))]) dX10_read_148 2 rfl (by decide) rfl ?_
    refine zV_goto (pc := 151) (tgt := 131) dX10_read_151 (by decide) ?_
    exact zV_sub [1, 2, 0] rfl h
set_option maxRecDepth 100000 in
set_option maxHeartbeats 4000000 in
theorem vc_X10_read_156 {K : zCx} {d : Nat} (x1 : Int) (x2 : Int) (m0 : zM) {Q : Int → zM → Prop} (hx1 : inR x1) (hx2 : inR x2) (h : zok m0 → ((m0.1 98 32) ≤ x2 → Q x1 m0) ∧ (¬ ((m0.1 98 32) ≤ x2) → 0 ≤ x2 ∧ x2 < 230 ∧ (∀ m4 : zM, m4 = sI m0 105 x2 (m0.1 112 x2) → zok m4 → (zV K mX10_read (d + 9) 156 [(0, rr K 98), (1, .int (iz x1)), (2, .int (iz (x2 + 1)))] [] m4 Q)))) : zV K mX10_read (d + 9) 156 [(0, rr K 98), (1, .int (iz x1)), (2, .int (iz x2))] [] m0 Q := by
  refine zV_ok (fun hm0 => ?_)
  replace h := h hm0
  refine zV_iload_n (pc := 156) dX10_read_156 rfl 2 rfl ?_
  refine zV_aloadr_n (pc := 157) dX10_read_157 rfl 0 rfl ?_
  refine zV_getI (pc := 158) (kz := 32) dX10_read_158 zfX10_240 rfl rfl rfl ?_
  refine zV_icmp_ge (pc := 161) (tgt := 182) dX10_read_161 (by decide) hx2 (hm0 _ _) (fun c1 => ?_) (fun c1 => ?_)
  · skip
    replace h := h.1 c1
    refine zV_iload_n (pc := 182) dX10_read_182 rfl 1 rfl ?_
    exact zV_iret (pc := 183) rfl dX10_read_183 hx1 h
  · skip
    replace h := h.2 c1
    refine zV_aloadr_n (pc := 164) dX10_read_164 rfl 0 rfl ?_
    refine zV_getR (pc := 165) (b := 105) dX10_read_165 zfX10_32 rfl rfl rfl ?_
    refine zV_iload_n (pc := 168) dX10_read_168 rfl 2 rfl ?_
    refine zV_aloadr_n (pc := 169) dX10_read_169 rfl 0 rfl ?_
    refine zV_getR (pc := 170) (b := 112) dX10_read_170 zfX10_53 rfl rfl rfl ?_
    refine zV_iload_n (pc := 173) dX10_read_173 rfl 2 rfl ?_
    obtain ⟨o2, o3, h⟩ := h
    refine zV_iald (pc := 174) dX10_read_174 rfl o2 o3 (inR_ix o2 o3 rfl) ?_
    refine zV_iast (pc := 175) dX10_read_175 rfl o2 o3 (inR_ix o2 o3 rfl) (hm0 _ _) ?_
    refine zV_mem (fun m4 e5 => zV_ok (fun hm4 => ?_))
    replace h := h m4 e5 hm4
    refine zV_iinc (pc := 176) (loc' := [(2, .int (iz (x2 + 1))), (0, rr K 98), (1, .int (iz x1))]) dX10_read_176 2 rfl (by decide) rfl ?_
    refine zV_goto (pc := 179) (tgt := 156) dX10_read_179 (by decide) ?_
    exact zV_sub [1, 2, 0] rfl h

set_option maxRecDepth 100000 in
set_option maxHeartbeats 4000000 in
theorem vc_X10_valueOf_0 {K : zCx} {d : Nat} (x1 : Int) (x2 : Int) (m0 : zM) {Q : Int → zM → Prop} (hx1 : inR x1) (hx2 : inR x2) (h : zok m0 → (x1 < 1000 → (x1 < 400 → (x1 < 300 → 0 ≤ (x1 - 200) ∧ (x1 - 200) < 5 ∧ (Q (m0.1 106 (x1 - 200)) m0)) ∧ (¬ (x1 < 300) → inR (x1 - 300) ∧ ((0 ≤ m0.1 98 4) ∧ (((0 ≤ (x1 - 300) ∧ (x1 - 300) < m0.1 98 4) → zCt K (d + 2) mX10_flows [rr K 98, .int (iz (x1 - 300)), .int (iz x2)] m0 (fun r11 m12 => inR r11 → zok m12 → Q r11 m12)) ∧ (¬ ((0 ≤ (x1 - 300) ∧ (x1 - 300) < m0.1 98 4)) → Q 0 m0))))) ∧ (¬ (x1 < 400) → (x1 = 400 → Q (m0.1 98 20) m0) ∧ (¬ (x1 = 400) → (x1 = 401 → Q (m0.1 98 21) m0) ∧ (¬ (x1 = 401) → Q (m0.1 98 0) m0)))) ∧ (¬ (x1 < 1000) → inR (x1 - 1000) ∧ (Q (x1 - 1000) m0))) : zV K mX10_valueOf (d + 3) 0 [(0, rr K 98), (1, .int (iz x1)), (2, .int (iz x2))] [] m0 Q := by
  refine zV_ok (fun hm0 => ?_)
  replace h := h hm0
  refine zV_iload_n (pc := 0) dX10_valueOf_0 rfl 1 rfl ?_
  refine zV_sipush (pc := 1) dX10_valueOf_1 (by decide) ?_
  refine zV_icmp_lt (pc := 4) (tgt := 13) dX10_valueOf_4 (by decide) hx1 (inRd rfl) (fun c1 => ?_) (fun c1 => ?_)
  · skip
    replace h := h.1 c1
    refine zV_iload_n (pc := 13) dX10_valueOf_13 rfl 1 rfl ?_
    refine zV_sipush (pc := 14) dX10_valueOf_14 (by decide) ?_
    refine zV_icmp_lt (pc := 17) (tgt := 53) dX10_valueOf_17 (by decide) hx1 (inRd rfl) (fun c2 => ?_) (fun c2 => ?_)
    · skip
      replace h := h.1 c2
      refine zV_iload_n (pc := 53) dX10_valueOf_53 rfl 1 rfl ?_
      refine zV_sipush (pc := 54) dX10_valueOf_54 (by decide) ?_
      refine zV_icmp_lt (pc := 57) (tgt := 87) dX10_valueOf_57 (by decide) hx1 (inRd rfl) (fun c3 => ?_) (fun c3 => ?_)
      · skip
        replace h := h.1 c3
        refine zV_aloadr_n (pc := 87) dX10_valueOf_87 rfl 0 rfl ?_
        refine zV_getR (pc := 88) (b := 106) dX10_valueOf_88 zfX10_35 rfl rfl rfl ?_
        refine zV_iload_n (pc := 91) dX10_valueOf_91 rfl 1 rfl ?_
        refine zV_sipush (pc := 92) dX10_valueOf_92 (by decide) ?_
        refine zV_isub (pc := 95) dX10_valueOf_95 ?_
        obtain ⟨o4, o5, h⟩ := h
        refine zV_iald (pc := 96) dX10_valueOf_96 rfl o4 o5 (inR_ix o4 o5 rfl) ?_
        exact zV_iret (pc := 97) rfl dX10_valueOf_97 (hm0 _ _) h
      · skip
        replace h := h.2 c3
        refine zV_aloadr_n (pc := 60) dX10_valueOf_60 rfl 0 rfl ?_
        refine zV_iload_n (pc := 61) dX10_valueOf_61 rfl 1 rfl ?_
        refine zV_sipush (pc := 62) dX10_valueOf_62 (by decide) ?_
        refine zV_isub (pc := 65) dX10_valueOf_65 ?_
        obtain ⟨o6, h⟩ := h
        obtain ⟨o7, h⟩ := h
        refine zV_callVf (pc := 66) (mc := mX10_isPart) (As := [.int (iz (x1 - 300))]) (rest := []) dX10_valueOf_66 zcX10_134 ziX10_isPart zsX10_isPart rfl rfl rfl rfl (Nat.le_of_ble_eq_true rfl) (c_X10_isPart o6 hm0 o7) (fun hr8 => ?_)
        refine zV_if_eq (pc := 69) (tgt := 85) dX10_valueOf_69 (by decide) (inR_b2i _) (fun c10 => ?_) (fun c10 => ?_)
        · replace c10 := b2i_fp c10
          replace h := h.2 c10
          refine zV_iconst (pc := 85) dX10_valueOf_85 ?_
          exact zV_iret (pc := 86) rfl dX10_valueOf_86 (inRd rfl) h
        · replace c10 := b2i_tp c10
          replace h := h.1 c10
          refine zV_aloadr_n (pc := 72) dX10_valueOf_72 rfl 0 rfl ?_
          refine zV_iload_n (pc := 73) dX10_valueOf_73 rfl 1 rfl ?_
          refine zV_sipush (pc := 74) dX10_valueOf_74 (by decide) ?_
          refine zV_isub (pc := 77) dX10_valueOf_77 ?_
          refine zV_iload_n (pc := 78) dX10_valueOf_78 rfl 2 rfl ?_
          refine zV_callV (pc := 79) (mc := mX10_flows) (As := [.int (iz (x1 - 300)), .int (iz x2)]) (rest := []) dX10_valueOf_79 zcX10_170 ziX10_flows zsX10_flows rfl rfl rfl rfl (Nat.le_of_ble_eq_true rfl) h (fun r11 m12 hr11 h => zV_ok (fun hm12 => ?_))
          replace h := h hr11 hm12
          refine zV_goto (pc := 82) (tgt := 86) dX10_valueOf_82 (by decide) ?_
          exact zV_iret (pc := 86) rfl dX10_valueOf_86 hr11 h
    · skip
      replace h := h.2 c2
      refine zV_iload_n (pc := 20) dX10_valueOf_20 rfl 1 rfl ?_
      refine zV_sipush (pc := 21) dX10_valueOf_21 (by decide) ?_
      refine zV_icmp_ne (pc := 24) (tgt := 34) dX10_valueOf_24 (by decide) hx1 (inRd rfl) (fun c13 => ?_) (fun c13 => ?_)
      · skip
        replace h := h.2 c13
        refine zV_iload_n (pc := 34) dX10_valueOf_34 rfl 1 rfl ?_
        refine zV_sipush (pc := 35) dX10_valueOf_35 (by decide) ?_
        refine zV_icmp_ne (pc := 38) (tgt := 48) dX10_valueOf_38 (by decide) hx1 (inRd rfl) (fun c14 => ?_) (fun c14 => ?_)
        · skip
          replace h := h.2 c14
          refine zV_aloadr_n (pc := 48) dX10_valueOf_48 rfl 0 rfl ?_
          refine zV_getI (pc := 49) (kz := 0) dX10_valueOf_49 zfX10_7 rfl rfl rfl ?_
          exact zV_iret (pc := 52) rfl dX10_valueOf_52 (hm0 _ _) h
        · replace c14 := Classical.not_not.mp c14
          replace h := h.1 c14
          refine zV_aloadr_n (pc := 41) dX10_valueOf_41 rfl 0 rfl ?_
          refine zV_getI (pc := 42) (kz := 21) dX10_valueOf_42 zfX10_185 rfl rfl rfl ?_
          refine zV_goto (pc := 45) (tgt := 52) dX10_valueOf_45 (by decide) ?_
          exact zV_iret (pc := 52) rfl dX10_valueOf_52 (hm0 _ _) h
      · replace c13 := Classical.not_not.mp c13
        replace h := h.1 c13
        refine zV_aloadr_n (pc := 27) dX10_valueOf_27 rfl 0 rfl ?_
        refine zV_getI (pc := 28) (kz := 20) dX10_valueOf_28 zfX10_182 rfl rfl rfl ?_
        refine zV_goto (pc := 31) (tgt := 52) dX10_valueOf_31 (by decide) ?_
        exact zV_iret (pc := 52) rfl dX10_valueOf_52 (hm0 _ _) h
  · skip
    replace h := h.2 c1
    refine zV_iload_n (pc := 7) dX10_valueOf_7 rfl 1 rfl ?_
    refine zV_sipush (pc := 8) dX10_valueOf_8 (by decide) ?_
    refine zV_isub (pc := 11) dX10_valueOf_11 ?_
    obtain ⟨o15, h⟩ := h
    exact zV_iret (pc := 12) rfl dX10_valueOf_12 o15 h

set_option maxRecDepth 100000 in
set_option maxHeartbeats 4000000 in
theorem vc_X10_joined_0 {K : zCx} {d : Nat} (x0 : Int) (x1 : Int) (x2 : Int) (m0 : zM) {Q : Int → zM → Prop} (hx0 : inR x0) (hx1 : inR x1) (hx2 : inR x2) (h : zok m0 → (x0 = 8 → Q (zand x1 x2) m0) ∧ (x0 = 9 → Q (zor x1 x2) m0) ∧ (x0 = 10 → (x1 ≤ x2 → Q 0 m0) ∧ (¬ (x1 ≤ x2) → Q 1 m0)) ∧ (x0 = 11 → (x1 ≤ x2 → Q 0 m0) ∧ (¬ (x1 ≤ x2) → Q 1 m0)) ∧ (x0 = 12 → (x1 ≤ x2 → Q 0 m0) ∧ (¬ (x1 ≤ x2) → Q 1 m0)) ∧ (x0 = 13 → (x1 ≤ x2 → Q 0 m0) ∧ (¬ (x1 ≤ x2) → Q 1 m0)) ∧ (x0 = 14 → inR (x1 + x2) ∧ (Q (x1 + x2) m0)) ∧ (x0 = 15 → (x2 ≤ x1 → Q 0 m0) ∧ (¬ (x2 ≤ x1) → Q 1 m0)) ∧ (x0 = 16 → (x1 = x2 → Q 1 m0) ∧ (¬ (x1 = x2) → Q 0 m0)) ∧ ((x0 < 8 ∨ 16 < x0) → (x1 ≤ x2 → Q 0 m0) ∧ (¬ (x1 ≤ x2) → Q 1 m0))) : zV K mX10_joined (d + 1) 0 [(0, .int (iz x0)), (1, .int (iz x1)), (2, .int (iz x2))] [] m0 Q := by
  refine zV_ok (fun hm0 => ?_)
  replace h := h hm0
  refine zV_iload_n (pc := 0) dX10_joined_0 rfl 0 rfl ?_
  have c1 : x0 = 8 ∨ x0 = 9 ∨ x0 = 10 ∨ x0 = 11 ∨ x0 = 12 ∨ x0 = 13 ∨ x0 = 14 ∨ x0 = 15 ∨ x0 = 16 ∨ (x0 < 8 ∨ 16 < x0) := by omega
  rcases c1 with c1 | c1 | c1 | c1 | c1 | c1 | c1 | c1 | c1 | c1
  · refine zV_tswIn (pc := 1) (tgt := 52) (v := 8) dX10_joined_1 c1 (inRd rfl) (by decide) (by decide) rfl (by decide) ?_
    replace h := h.1 c1
    refine zV_iload_n (pc := 52) dX10_joined_52 rfl 1 rfl ?_
    refine zV_iload_n (pc := 53) dX10_joined_53 rfl 2 rfl ?_
    refine zV_iand (pc := 54) dX10_joined_54 ?_
    exact zV_iret (pc := 55) rfl dX10_joined_55 (inR_zand _ _) h
  · refine zV_tswIn (pc := 1) (tgt := 56) (v := 9) dX10_joined_1 c1 (inRd rfl) (by decide) (by decide) rfl (by decide) ?_
    replace h := h.2.1 c1
    refine zV_iload_n (pc := 56) dX10_joined_56 rfl 1 rfl ?_
    refine zV_iload_n (pc := 57) dX10_joined_57 rfl 2 rfl ?_
    refine zV_ior (pc := 58) dX10_joined_58 ?_
    exact zV_iret (pc := 59) rfl dX10_joined_59 (inR_zor _ _) h
  · refine zV_tswIn (pc := 1) (tgt := 86) (v := 10) dX10_joined_1 c1 (inRd rfl) (by decide) (by decide) rfl (by decide) ?_
    replace h := h.2.2.1 c1
    refine zV_iload_n (pc := 86) dX10_joined_86 rfl 1 rfl ?_
    refine zV_iload_n (pc := 87) dX10_joined_87 rfl 2 rfl ?_
    refine zV_icmp_le (pc := 88) (tgt := 95) dX10_joined_88 (by decide) hx1 hx2 (fun c2 => ?_) (fun c2 => ?_)
    · skip
      replace h := h.1 c2
      refine zV_iconst (pc := 95) dX10_joined_95 ?_
      exact zV_iret (pc := 96) rfl dX10_joined_96 (inRd rfl) h
    · skip
      replace h := h.2 c2
      refine zV_iconst (pc := 91) dX10_joined_91 ?_
      refine zV_goto (pc := 92) (tgt := 96) dX10_joined_92 (by decide) ?_
      exact zV_iret (pc := 96) rfl dX10_joined_96 (inRd rfl) h
  · refine zV_tswIn (pc := 1) (tgt := 86) (v := 11) dX10_joined_1 c1 (inRd rfl) (by decide) (by decide) rfl (by decide) ?_
    replace h := h.2.2.2.1 c1
    refine zV_iload_n (pc := 86) dX10_joined_86 rfl 1 rfl ?_
    refine zV_iload_n (pc := 87) dX10_joined_87 rfl 2 rfl ?_
    refine zV_icmp_le (pc := 88) (tgt := 95) dX10_joined_88 (by decide) hx1 hx2 (fun c3 => ?_) (fun c3 => ?_)
    · skip
      replace h := h.1 c3
      refine zV_iconst (pc := 95) dX10_joined_95 ?_
      exact zV_iret (pc := 96) rfl dX10_joined_96 (inRd rfl) h
    · skip
      replace h := h.2 c3
      refine zV_iconst (pc := 91) dX10_joined_91 ?_
      refine zV_goto (pc := 92) (tgt := 96) dX10_joined_92 (by decide) ?_
      exact zV_iret (pc := 96) rfl dX10_joined_96 (inRd rfl) h
  · refine zV_tswIn (pc := 1) (tgt := 86) (v := 12) dX10_joined_1 c1 (inRd rfl) (by decide) (by decide) rfl (by decide) ?_
    replace h := h.2.2.2.2.1 c1
    refine zV_iload_n (pc := 86) dX10_joined_86 rfl 1 rfl ?_
    refine zV_iload_n (pc := 87) dX10_joined_87 rfl 2 rfl ?_
    refine zV_icmp_le (pc := 88) (tgt := 95) dX10_joined_88 (by decide) hx1 hx2 (fun c4 => ?_) (fun c4 => ?_)
    · skip
      replace h := h.1 c4
      refine zV_iconst (pc := 95) dX10_joined_95 ?_
      exact zV_iret (pc := 96) rfl dX10_joined_96 (inRd rfl) h
    · skip
      replace h := h.2 c4
      refine zV_iconst (pc := 91) dX10_joined_91 ?_
      refine zV_goto (pc := 92) (tgt := 96) dX10_joined_92 (by decide) ?_
      exact zV_iret (pc := 96) rfl dX10_joined_96 (inRd rfl) h
  · refine zV_tswIn (pc := 1) (tgt := 86) (v := 13) dX10_joined_1 c1 (inRd rfl) (by decide) (by decide) rfl (by decide) ?_
    replace h := h.2.2.2.2.2.1 c1
    refine zV_iload_n (pc := 86) dX10_joined_86 rfl 1 rfl ?_
    refine zV_iload_n (pc := 87) dX10_joined_87 rfl 2 rfl ?_
    refine zV_icmp_le (pc := 88) (tgt := 95) dX10_joined_88 (by decide) hx1 hx2 (fun c5 => ?_) (fun c5 => ?_)
    · skip
      replace h := h.1 c5
      refine zV_iconst (pc := 95) dX10_joined_95 ?_
      exact zV_iret (pc := 96) rfl dX10_joined_96 (inRd rfl) h
    · skip
      replace h := h.2 c5
      refine zV_iconst (pc := 91) dX10_joined_91 ?_
      refine zV_goto (pc := 92) (tgt := 96) dX10_joined_92 (by decide) ?_
      exact zV_iret (pc := 96) rfl dX10_joined_96 (inRd rfl) h
  · refine zV_tswIn (pc := 1) (tgt := 60) (v := 14) dX10_joined_1 c1 (inRd rfl) (by decide) (by decide) rfl (by decide) ?_
    replace h := h.2.2.2.2.2.2.1 c1
    refine zV_iload_n (pc := 60) dX10_joined_60 rfl 1 rfl ?_
    refine zV_iload_n (pc := 61) dX10_joined_61 rfl 2 rfl ?_
    refine zV_iadd (pc := 62) dX10_joined_62 ?_
    obtain ⟨o6, h⟩ := h
    exact zV_iret (pc := 63) rfl dX10_joined_63 o6 h
  · refine zV_tswIn (pc := 1) (tgt := 64) (v := 15) dX10_joined_1 c1 (inRd rfl) (by decide) (by decide) rfl (by decide) ?_
    replace h := h.2.2.2.2.2.2.2.1 c1
    refine zV_iload_n (pc := 64) dX10_joined_64 rfl 1 rfl ?_
    refine zV_iload_n (pc := 65) dX10_joined_65 rfl 2 rfl ?_
    refine zV_icmp_ge (pc := 66) (tgt := 73) dX10_joined_66 (by decide) hx1 hx2 (fun c7 => ?_) (fun c7 => ?_)
    · skip
      replace h := h.1 c7
      refine zV_iconst (pc := 73) dX10_joined_73 ?_
      exact zV_iret (pc := 74) rfl dX10_joined_74 (inRd rfl) h
    · skip
      replace h := h.2 c7
      refine zV_iconst (pc := 69) dX10_joined_69 ?_
      refine zV_goto (pc := 70) (tgt := 74) dX10_joined_70 (by decide) ?_
      exact zV_iret (pc := 74) rfl dX10_joined_74 (inRd rfl) h
  · refine zV_tswIn (pc := 1) (tgt := 75) (v := 16) dX10_joined_1 c1 (inRd rfl) (by decide) (by decide) rfl (by decide) ?_
    replace h := h.2.2.2.2.2.2.2.2.1 c1
    refine zV_iload_n (pc := 75) dX10_joined_75 rfl 1 rfl ?_
    refine zV_iload_n (pc := 76) dX10_joined_76 rfl 2 rfl ?_
    refine zV_icmp_ne (pc := 77) (tgt := 84) dX10_joined_77 (by decide) hx1 hx2 (fun c8 => ?_) (fun c8 => ?_)
    · skip
      replace h := h.2 c8
      refine zV_iconst (pc := 84) dX10_joined_84 ?_
      exact zV_iret (pc := 85) rfl dX10_joined_85 (inRd rfl) h
    · replace c8 := Classical.not_not.mp c8
      replace h := h.1 c8
      refine zV_iconst (pc := 80) dX10_joined_80 ?_
      refine zV_goto (pc := 81) (tgt := 85) dX10_joined_81 (by decide) ?_
      exact zV_iret (pc := 85) rfl dX10_joined_85 (inRd rfl) h
  · refine zV_tswOut (pc := 1) (tgt := 86) dX10_joined_1 hx0 c1 (by decide) ?_
    replace h := h.2.2.2.2.2.2.2.2.2 c1
    refine zV_iload_n (pc := 86) dX10_joined_86 rfl 1 rfl ?_
    refine zV_iload_n (pc := 87) dX10_joined_87 rfl 2 rfl ?_
    refine zV_icmp_le (pc := 88) (tgt := 95) dX10_joined_88 (by decide) hx1 hx2 (fun c9 => ?_) (fun c9 => ?_)
    · skip
      replace h := h.1 c9
      refine zV_iconst (pc := 95) dX10_joined_95 ?_
      exact zV_iret (pc := 96) rfl dX10_joined_96 (inRd rfl) h
    · skip
      replace h := h.2 c9
      refine zV_iconst (pc := 91) dX10_joined_91 ?_
      refine zV_goto (pc := 92) (tgt := 96) dX10_joined_92 (by decide) ?_
      exact zV_iret (pc := 96) rfl dX10_joined_96 (inRd rfl) h

set_option maxRecDepth 100000 in
set_option maxHeartbeats 4000000 in
theorem vc_X10_holdsIn_0 {K : zCx} {d : Nat} (x1 : Int) (x2 : Int) (m0 : zM) {Q : Int → zM → Prop} (hx1 : inR x1) (hx2 : inR x2) (h : zok m0 → (x1 = 0 → zV K mX10_holdsIn (d + 4) 20 [(0, rr K 98), (1, .int (iz x1)), (2, .int (iz x2)), (3, .int (iz 0)), (4, .int (iz 0))] [] m0 Q) ∧ (¬ (x1 = 0) → 0 ≤ (x1 - 1) ∧ (x1 - 1) < 8 ∧ (∀ v4 : Int, v4 = (m0.1 104 (x1 - 1)) → (zV K mX10_holdsIn (d + 4) 20 [(0, rr K 98), (1, .int (iz x1)), (2, .int (iz x2)), (3, .int (iz 0)), (4, .int (iz v4))] [] m0 Q)))) : zV K mX10_holdsIn (d + 4) 0 [(0, rr K 98), (1, .int (iz x1)), (2, .int (iz x2))] [] m0 Q := by
  refine zV_ok (fun hm0 => ?_)
  replace h := h hm0
  refine zV_iconst (pc := 0) dX10_holdsIn_0 ?_
  refine zV_istore_n (pc := 1) (loc' := [(3, .int (iz 0)), (0, rr K 98), (1, .int (iz x1)), (2, .int (iz x2))]) dX10_holdsIn_1 rfl (by decide) rfl ?_
  refine zV_iload_n (pc := 2) dX10_holdsIn_2 rfl 2 rfl ?_
  refine zV_if_ne (pc := 3) (tgt := 10) dX10_holdsIn_3 (by decide) hx1 (fun c1 => ?_) (fun c1 => ?_)
  · skip
    replace h := h.2 c1
    refine zV_aloadr_n (pc := 10) dX10_holdsIn_10 rfl 1 rfl ?_
    refine zV_getR (pc := 11) (b := 104) dX10_holdsIn_11 zfX10_29 rfl rfl rfl ?_
    refine zV_iload_n (pc := 14) dX10_holdsIn_14 rfl 2 rfl ?_
    refine zV_iconst (pc := 15) dX10_holdsIn_15 ?_
    refine zV_isub (pc := 16) dX10_holdsIn_16 ?_
    obtain ⟨o2, o3, h⟩ := h
    refine zV_iald (pc := 17) dX10_holdsIn_17 rfl o2 o3 (inR_ix o2 o3 rfl) ?_
    refine zV_name (fun v4 e5 => ?_)
    replace h := h v4 e5
    have hrv4 : inR v4 := by rw [e5]; exact (hm0 _ _)
    refine zV_istore (pc := 18) (loc' := [(4, .int (iz v4)), (3, .int (iz 0)), (0, rr K 98), (1, .int (iz x1)), (2, .int (iz x2))]) dX10_holdsIn_18 (by decide) rfl ?_
    exact zV_sub [2, 3, 4, 1, 0] rfl h
  · replace c1 := Classical.not_not.mp c1
    replace h := h.1 c1
    refine zV_iconst (pc := 6) dX10_holdsIn_6 ?_
    refine zV_goto (pc := 7) (tgt := 18) dX10_holdsIn_7 (by decide) ?_
    refine zV_istore (pc := 18) (loc' := [(4, .int (iz 0)), (3, .int (iz 0)), (0, rr K 98), (1, .int (iz x1)), (2, .int (iz x2))]) dX10_holdsIn_18 (by decide) rfl ?_
    exact zV_sub [2, 3, 4, 1, 0] rfl h
set_option maxRecDepth 100000 in
set_option maxHeartbeats 4000000 in
theorem vc_X10_holdsIn_20 {K : zCx} {d : Nat} (x1 : Int) (x2 : Int) (x3 : Int) (x4 : Int) (m0 : zM) {Q : Int → zM → Prop} (hx1 : inR x1) (hx2 : inR x2) (hx3 : inR x3) (hx4 : inR x4) (h : zok m0 → 0 ≤ x1 ∧ x1 < 8 ∧ (((m0.1 104 x1) ≤ x4 → ((m0.1 115 0) = 1 → Q 1 m0) ∧ (¬ ((m0.1 115 0) = 1) → Q 0 m0)) ∧ (¬ ((m0.1 104 x1) ≤ x4) → 0 ≤ x4 ∧ x4 < 230 ∧ (∀ v7 : Int, v7 = (m0.1 105 x4) → ((v7 = 7 → 0 ≤ (x3 - 1) ∧ (x3 - 1) < 230 ∧ (inR (1 - (m0.1 115 (x3 - 1))) ∧ (∀ m30 : zM, m30 = sI m0 115 (x3 - 1) (1 - (m0.1 115 (x3 - 1))) → zok m30 → (zV K mX10_holdsIn (d + 4) 20 [(0, rr K 98), (1, .int (iz x1)), (2, .int (iz x2)), (3, .int (iz x3)), (4, .int (iz (x4 + 1)))] [] m30 Q)))) ∧ (¬ (v7 = 7) → ((v7 = 8 ∨ v7 = 9 ∨ (14 ≤ v7 ∧ v7 ≤ 17)) → 0 ≤ ((x3 + (-1)) - 1) ∧ ((x3 + (-1)) - 1) < 230 ∧ (0 ≤ (x3 + (-1)) ∧ (x3 + (-1)) < 230 ∧ (zCt K (d + 3) mX10_joined [.int (iz v7), .int (iz (m0.1 115 ((x3 + (-1)) - 1))), .int (iz (m0.1 115 (x3 + (-1))))] m0 (fun r23 m24 => inR r23 → zok m24 → ∀ m25 : zM, m25 = sI m24 115 ((x3 + (-1)) - 1) r23 → zok m25 → (zV K mX10_holdsIn (d + 4) 20 [(0, rr K 98), (1, .int (iz x1)), (2, .int (iz x2)), (3, .int (iz (x3 + (-1)))), (4, .int (iz (x4 + 1)))] [] m25 Q))))) ∧ (¬ ((v7 = 8 ∨ v7 = 9 ∨ (14 ≤ v7 ∧ v7 ≤ 17))) → zCt K (d + 3) mX10_valueOf [rr K 98, .int (iz v7), .int (iz x2)] m0 (fun r13 m14 => inR r13 → zok m14 → 0 ≤ x3 ∧ x3 < 230 ∧ (∀ m17 : zM, m17 = sI m14 115 x3 r13 → zok m17 → (zV K mX10_holdsIn (d + 4) 20 [(0, rr K 98), (1, .int (iz x1)), (2, .int (iz x2)), (3, .int (iz (x3 + 1))), (4, .int (iz (x4 + 1)))] [] m17 Q)))))))))) : zV K mX10_holdsIn (d + 4) 20 [(0, rr K 98), (1, .int (iz x1)), (2, .int (iz x2)), (3, .int (iz x3)), (4, .int (iz x4))] [] m0 Q := by
  refine zV_ok (fun hm0 => ?_)
  replace h := h hm0
  refine zV_iload (pc := 20) dX10_holdsIn_20 4 rfl ?_
  refine zV_aloadr_n (pc := 22) dX10_holdsIn_22 rfl 0 rfl ?_
  refine zV_getR (pc := 23) (b := 104) dX10_holdsIn_23 zfX10_29 rfl rfl rfl ?_
  refine zV_iload_n (pc := 26) dX10_holdsIn_26 rfl 1 rfl ?_
  obtain ⟨o1, o2, h⟩ := h
  refine zV_iald (pc := 27) dX10_holdsIn_27 rfl o1 o2 (inR_ix o1 o2 rfl) ?_
  refine zV_icmp_ge (pc := 28) (tgt := 131) dX10_holdsIn_28 (by decide) hx4 (hm0 _ _) (fun c3 => ?_) (fun c3 => ?_)
  · skip
    replace h := h.1 c3
    refine zV_aloadr_n (pc := 131) dX10_holdsIn_131 rfl 0 rfl ?_
    refine zV_getR (pc := 132) (b := 115) dX10_holdsIn_132 zfX10_62 rfl rfl rfl ?_
    refine zV_iconst (pc := 135) dX10_holdsIn_135 ?_
    refine zV_iald (pc := 136) dX10_holdsIn_136 rfl (by decide) (by decide) (inRd rfl) ?_
    refine zV_iconst (pc := 137) dX10_holdsIn_137 ?_
    refine zV_icmp_ne (pc := 138) (tgt := 145) dX10_holdsIn_138 (by decide) (hm0 _ _) (inRd rfl) (fun c4 => ?_) (fun c4 => ?_)
    · skip
      replace h := h.2 c4
      refine zV_iconst (pc := 145) dX10_holdsIn_145 ?_
      exact zV_zret (pc := 146) rfl dX10_holdsIn_146 (Or.inl rfl) h
    · replace c4 := Classical.not_not.mp c4
      replace h := h.1 c4
      refine zV_iconst (pc := 141) dX10_holdsIn_141 ?_
      refine zV_goto (pc := 142) (tgt := 146) dX10_holdsIn_142 (by decide) ?_
      exact zV_zret (pc := 146) rfl dX10_holdsIn_146 (Or.inr rfl) h
  · skip
    replace h := h.2 c3
    refine zV_aloadr_n (pc := 31) dX10_holdsIn_31 rfl 0 rfl ?_
    refine zV_getR (pc := 32) (b := 105) dX10_holdsIn_32 zfX10_32 rfl rfl rfl ?_
    refine zV_iload (pc := 35) dX10_holdsIn_35 4 rfl ?_
    obtain ⟨o5, o6, h⟩ := h
    refine zV_iald (pc := 37) dX10_holdsIn_37 rfl o5 o6 (inR_ix o5 o6 rfl) ?_
    refine zV_name (fun v7 e8 => ?_)
    replace h := h v7 e8
    have hrv7 : inR v7 := by rw [e8]; exact (hm0 _ _)
    refine zV_istore (pc := 38) (loc' := [(5, .int (iz v7)), (0, rr K 98), (1, .int (iz x1)), (2, .int (iz x2)), (3, .int (iz x3)), (4, .int (iz x4))]) dX10_holdsIn_38 (by decide) rfl ?_
    refine zV_iload (pc := 40) dX10_holdsIn_40 0 rfl ?_
    refine zV_bipush (pc := 42) dX10_holdsIn_42 (by decide) ?_
    refine zV_icmp_ne (pc := 44) (tgt := 68) dX10_holdsIn_44 (by decide) hrv7 (inRd rfl) (fun c9 => ?_) (fun c9 => ?_)
    · skip
      replace h := h.2 c9
      refine zV_iload (pc := 68) dX10_holdsIn_68 0 rfl ?_
      refine zV_callSf (pc := 70) (mc := mX10_joins) (As := [.int (iz v7)]) (rest := []) dX10_holdsIn_70 zcX10_299 ztX10_joins rfl rfl (Nat.le_of_ble_eq_true rfl) (c_X10_joins hrv7) (fun hr10 => ?_)
      refine zV_if_eq (pc := 73) (tgt := 109) dX10_holdsIn_73 (by decide) (inR_b2i _) (fun c12 => ?_) (fun c12 => ?_)
      · replace c12 := b2i_fp c12
        replace h := h.2 c12
        refine zV_aloadr_n (pc := 109) dX10_holdsIn_109 rfl 1 rfl ?_
        refine zV_getR (pc := 110) (b := 115) dX10_holdsIn_110 zfX10_62 rfl rfl rfl ?_
        refine zV_iload_n (pc := 113) dX10_holdsIn_113 rfl 4 rfl ?_
        refine zV_aloadr_n (pc := 114) dX10_holdsIn_114 rfl 1 rfl ?_
        refine zV_iload (pc := 115) dX10_holdsIn_115 0 rfl ?_
        refine zV_iload_n (pc := 117) dX10_holdsIn_117 rfl 3 rfl ?_
        refine zV_callV (pc := 118) (mc := mX10_valueOf) (As := [.int (iz v7), .int (iz x2)]) (rest := [.int (iz x3), rr K 115]) dX10_holdsIn_118 zcX10_306 ziX10_valueOf zsX10_valueOf rfl rfl rfl rfl (Nat.le_of_ble_eq_true rfl) h (fun r13 m14 hr13 h => zV_ok (fun hm14 => ?_))
        replace h := h hr13 hm14
        obtain ⟨o15, o16, h⟩ := h
        refine zV_iast (pc := 121) dX10_holdsIn_121 rfl o15 o16 (inR_ix o15 o16 rfl) hr13 ?_
        refine zV_mem (fun m17 e18 => zV_ok (fun hm17 => ?_))
        replace h := h m17 e18 hm17
        refine zV_iinc (pc := 122) (loc' := [(3, .int (iz (x3 + 1))), (5, .int (iz v7)), (0, rr K 98), (1, .int (iz x1)), (2, .int (iz x2)), (4, .int (iz x4))]) dX10_holdsIn_122 4 rfl (by decide) rfl ?_
        refine zV_iinc (pc := 125) (loc' := [(4, .int (iz (x4 + 1))), (3, .int (iz (x3 + 1))), (5, .int (iz v7)), (0, rr K 98), (1, .int (iz x1)), (2, .int (iz x2))]) dX10_holdsIn_125 5 rfl (by decide) rfl ?_
        refine zV_goto (pc := 128) (tgt := 20) dX10_holdsIn_128 (by decide) ?_
        exact zV_sub [3, 4, 5, 1, 0] rfl h
      · replace c12 := b2i_tp c12
        replace h := h.1 c12
        refine zV_iinc (pc := 76) (loc' := [(3, .int (iz (x3 + (-1)))), (5, .int (iz v7)), (0, rr K 98), (1, .int (iz x1)), (2, .int (iz x2)), (4, .int (iz x4))]) dX10_holdsIn_76 4 rfl (by decide) rfl ?_
        refine zV_aloadr_n (pc := 79) dX10_holdsIn_79 rfl 2 rfl ?_
        refine zV_getR (pc := 80) (b := 115) dX10_holdsIn_80 zfX10_62 rfl rfl rfl ?_
        refine zV_iload_n (pc := 83) dX10_holdsIn_83 rfl 0 rfl ?_
        refine zV_iconst (pc := 84) dX10_holdsIn_84 ?_
        refine zV_isub (pc := 85) dX10_holdsIn_85 ?_
        refine zV_iload (pc := 86) dX10_holdsIn_86 1 rfl ?_
        refine zV_aloadr_n (pc := 88) dX10_holdsIn_88 rfl 2 rfl ?_
        refine zV_getR (pc := 89) (b := 115) dX10_holdsIn_89 zfX10_62 rfl rfl rfl ?_
        refine zV_iload_n (pc := 92) dX10_holdsIn_92 rfl 0 rfl ?_
        refine zV_iconst (pc := 93) dX10_holdsIn_93 ?_
        refine zV_isub (pc := 94) dX10_holdsIn_94 ?_
        obtain ⟨o19, o20, h⟩ := h
        refine zV_iald (pc := 95) dX10_holdsIn_95 rfl o19 o20 (inR_ix o19 o20 rfl) ?_
        refine zV_aloadr_n (pc := 96) dX10_holdsIn_96 rfl 2 rfl ?_
        refine zV_getR (pc := 97) (b := 115) dX10_holdsIn_97 zfX10_62 rfl rfl rfl ?_
        refine zV_iload_n (pc := 100) dX10_holdsIn_100 rfl 0 rfl ?_
        obtain ⟨o21, o22, h⟩ := h
        refine zV_iald (pc := 101) dX10_holdsIn_101 rfl o21 o22 (inR_ix o21 o22 rfl) ?_
        refine zV_callS (pc := 102) (mc := mX10_joined) (As := [.int (iz v7), .int (iz (m0.1 115 ((x3 + (-1)) - 1))), .int (iz (m0.1 115 (x3 + (-1))))]) (rest := [.int (iz ((x3 + (-1)) - 1)), rr K 115]) dX10_holdsIn_102 zcX10_302 ztX10_joined rfl rfl (Nat.le_of_ble_eq_true rfl) h (fun r23 m24 hr23 h => zV_ok (fun hm24 => ?_))
        replace h := h hr23 hm24
        refine zV_iast (pc := 105) dX10_holdsIn_105 rfl o19 o20 (inR_ix o19 o20 rfl) hr23 ?_
        refine zV_mem (fun m25 e26 => zV_ok (fun hm25 => ?_))
        replace h := h m25 e26 hm25
        refine zV_goto (pc := 106) (tgt := 125) dX10_holdsIn_106 (by decide) ?_
        refine zV_iinc (pc := 125) (loc' := [(4, .int (iz (x4 + 1))), (3, .int (iz (x3 + (-1)))), (5, .int (iz v7)), (0, rr K 98), (1, .int (iz x1)), (2, .int (iz x2))]) dX10_holdsIn_125 5 rfl (by decide) rfl ?_
        refine zV_goto (pc := 128) (tgt := 20) dX10_holdsIn_128 (by decide) ?_
        exact zV_sub [3, 4, 5, 1, 0] rfl h
    · replace c9 := Classical.not_not.mp c9
      replace h := h.1 c9
      refine zV_aloadr_n (pc := 47) dX10_holdsIn_47 rfl 1 rfl ?_
      refine zV_getR (pc := 48) (b := 115) dX10_holdsIn_48 zfX10_62 rfl rfl rfl ?_
      refine zV_iload_n (pc := 51) dX10_holdsIn_51 rfl 4 rfl ?_
      refine zV_iconst (pc := 52) dX10_holdsIn_52 ?_
      refine zV_isub (pc := 53) dX10_holdsIn_53 ?_
      refine zV_iconst (pc := 54) dX10_holdsIn_54 ?_
      refine zV_aloadr_n (pc := 55) dX10_holdsIn_55 rfl 1 rfl ?_
      refine zV_getR (pc := 56) (b := 115) dX10_holdsIn_56 zfX10_62 rfl rfl rfl ?_
      refine zV_iload_n (pc := 59) dX10_holdsIn_59 rfl 4 rfl ?_
      refine zV_iconst (pc := 60) dX10_holdsIn_60 ?_
      refine zV_isub (pc := 61) dX10_holdsIn_61 ?_
      obtain ⟨o27, o28, h⟩ := h
      refine zV_iald (pc := 62) dX10_holdsIn_62 rfl o27 o28 (inR_ix o27 o28 rfl) ?_
      refine zV_isub (pc := 63) dX10_holdsIn_63 ?_
      obtain ⟨o29, h⟩ := h
      refine zV_iast (pc := 64) dX10_holdsIn_64 rfl o27 o28 (inR_ix o27 o28 rfl) o29 ?_
      refine zV_mem (fun m30 e31 => zV_ok (fun hm30 => ?_))
      replace h := h m30 e31 hm30
      refine zV_goto (pc := 65) (tgt := 125) dX10_holdsIn_65 (by decide) ?_
      refine zV_iinc (pc := 125) (loc' := [(4, .int (iz (x4 + 1))), (5, .int (iz v7)), (0, rr K 98), (1, .int (iz x1)), (2, .int (iz x2)), (3, .int (iz x3))]) dX10_holdsIn_125 5 rfl (by decide) rfl ?_
      refine zV_goto (pc := 128) (tgt := 20) dX10_holdsIn_128 (by decide) ?_
      exact zV_sub [2, 3, 4, 5, 0] rfl h

set_option maxRecDepth 100000 in
set_option maxHeartbeats 4000000 in
theorem vc_X10_held_0 {K : zCx} {d : Nat} (x1 : Int) (m0 : zM) {Q : Int → zM → Prop} (hx1 : inR x1) (h : zok m0 → zCt K (d + 4) mX10_go [rr K 98, .int (iz x1)] m0 (fun r1 m2 => inR r1 → zok m2 → zCt K (d + 4) mX10_stand [rr K 98, .int (iz (m2.1 98 19))] m2 (fun r3 m4 => inR r3 → zok m4 → zV K mX10_held (d + 5) 17 [(0, rr K 98), (1, .int (iz x1)), (2, .int (iz 0)), (3, .int (iz 0))] [] m4 Q))) : zV K mX10_held (d + 5) 0 [(0, rr K 98), (1, .int (iz x1))] [] m0 Q := by
  refine zV_ok (fun hm0 => ?_)
  replace h := h hm0
  refine zV_aloadr_n (pc := 0) dX10_held_0 rfl 0 rfl ?_
  refine zV_iload_n (pc := 1) dX10_held_1 rfl 1 rfl ?_
  refine zV_callV (pc := 2) (mc := mX10_go) (As := [.int (iz x1)]) (rest := []) dX10_held_2 zcX10_188 ziX10_go zsX10_go rfl rfl rfl rfl (Nat.le_of_ble_eq_true rfl) h (fun r1 m2 hr1 h => zV_ok (fun hm2 => ?_))
  replace h := h hr1 hm2
  refine zV_aloadr_n (pc := 5) dX10_held_5 rfl 0 rfl ?_
  refine zV_aloadr_n (pc := 6) dX10_held_6 rfl 0 rfl ?_
  refine zV_getI (pc := 7) (kz := 19) dX10_held_7 zfX10_179 rfl rfl rfl ?_
  refine zV_callV (pc := 10) (mc := mX10_stand) (As := [.int (iz (m2.1 98 19))]) (rest := []) dX10_held_10 zcX10_166 ziX10_stand zsX10_stand rfl rfl rfl rfl (Nat.le_of_ble_eq_true rfl) h (fun r3 m4 hr3 h => zV_ok (fun hm4 => ?_))
  replace h := h hr3 hm4
  refine zV_iconst (pc := 13) dX10_held_13 ?_
  refine zV_istore_n (pc := 14) (loc' := [(2, .int (iz 0)), (0, rr K 98), (1, .int (iz x1))]) dX10_held_14 rfl (by decide) rfl ?_
  refine zV_iconst (pc := 15) dX10_held_15 ?_
  refine zV_istore_n (pc := 16) (loc' := [(3, .int (iz 0)), (2, .int (iz 0)), (0, rr K 98), (1, .int (iz x1))]) dX10_held_16 rfl (by decide) rfl ?_
  exact zV_sub [2, 3, 1, 0] rfl h
set_option maxRecDepth 100000 in
set_option maxHeartbeats 4000000 in
theorem vc_X10_held_17 {K : zCx} {d : Nat} (x1 : Int) (x2 : Int) (x3 : Int) (m0 : zM) {Q : Int → zM → Prop} (hx1 : inR x1) (hx2 : inR x2) (hx3 : inR x3) (h : zok m0 → ((m0.1 98 10) ≤ x3 → Q x2 m0) ∧ (¬ ((m0.1 98 10) ≤ x3) → zCt K (d + 4) mX10_holdsIn [rr K 98, .int (iz x3), .int (iz x1)] m0 (fun r2 m3 => inR r2 → zok m3 → ∀ v4 : Int, v4 = (if r2 = 0 then 0 else (zshl 1 x3)) → (∀ v6 : Int, v6 = (zor x2 v4) → (zV K mX10_held (d + 5) 17 [(0, rr K 98), (1, .int (iz x1)), (2, .int (iz v6)), (3, .int (iz (x3 + 1)))] [] m3 Q))))) : zV K mX10_held (d + 5) 17 [(0, rr K 98), (1, .int (iz x1)), (2, .int (iz x2)), (3, .int (iz x3))] [] m0 Q := by
  refine zV_ok (fun hm0 => ?_)
  replace h := h hm0
  refine zV_iload_n (pc := 17) dX10_held_17 rfl 3 rfl ?_
  refine zV_aloadr_n (pc := 18) dX10_held_18 rfl 0 rfl ?_
  refine zV_getI (pc := 19) (kz := 10) dX10_held_19 zfX10_296 rfl rfl rfl ?_
  refine zV_icmp_ge (pc := 22) (tgt := 50) dX10_held_22 (by decide) hx3 (hm0 _ _) (fun c1 => ?_) (fun c1 => ?_)
  · skip
    replace h := h.1 c1
    refine zV_iload_n (pc := 50) dX10_held_50 rfl 2 rfl ?_
    exact zV_iret (pc := 51) rfl dX10_held_51 hx2 h
  · skip
    replace h := h.2 c1
    refine zV_iload_n (pc := 25) dX10_held_25 rfl 2 rfl ?_
    refine zV_aloadr_n (pc := 26) dX10_held_26 rfl 0 rfl ?_
    refine zV_iload_n (pc := 27) dX10_held_27 rfl 3 rfl ?_
    refine zV_iload_n (pc := 28) dX10_held_28 rfl 1 rfl ?_
    refine zV_callV (pc := 29) (mc := mX10_holdsIn) (As := [.int (iz x3), .int (iz x1)]) (rest := [.int (iz x2)]) dX10_held_29 zcX10_309 ziX10_holdsIn zsX10_holdsIn rfl rfl rfl rfl (Nat.le_of_ble_eq_true rfl) h (fun r2 m3 hr2 h => zV_ok (fun hm3 => ?_))
    replace h := h hr2 hm3
    have key : ∀ v4 : Int, v4 = (if r2 = 0 then 0 else (zshl 1 x3)) → zV K mX10_held (d + 5) 42 [(0, rr K 98), (1, .int (iz x1)), (3, .int (iz x3))] [.int (iz v4), .int (iz x2)] m3 Q := by
      intro v4 e5
      replace h := h v4 e5
      have hrv4 : inR v4 := by rw [e5]; (repeat' split) <;> first | with_reducible exact (inRd rfl) | with_reducible exact (inR_zshl _ _)
      refine zV_ior (pc := 42) dX10_held_42 ?_
      refine zV_name (fun v6 e7 => ?_)
      replace h := h v6 e7
      have hrv6 : inR v6 := by rw [e7]; exact (inR_zor _ _)
      refine zV_istore_n (pc := 43) (loc' := [(2, .int (iz v6)), (0, rr K 98), (1, .int (iz x1)), (3, .int (iz x3))]) dX10_held_43 rfl (by decide) rfl ?_
      refine zV_iinc (pc := 44) (loc' := [(3, .int (iz (x3 + 1))), (2, .int (iz v6)), (0, rr K 98), (1, .int (iz x1))]) dX10_held_44 3 rfl (by decide) rfl ?_
      refine zV_goto (pc := 47) (tgt := 17) dX10_held_47 (by decide) ?_
      exact zV_sub [2, 3, 1, 0] rfl h
    refine zV_if_eq (pc := 32) (tgt := 41) dX10_held_32 (by decide) hr2 (fun c8 => ?_) (fun c8 => ?_)
    · skip
      refine zV_iconst (pc := 41) dX10_held_41 ?_
      exact zV_sub [0, 1, 3] rfl (key _ (if_pos c8).symm)
    · skip
      refine zV_iconst (pc := 35) dX10_held_35 ?_
      refine zV_iload_n (pc := 36) dX10_held_36 rfl 3 rfl ?_
      refine zV_ishl (pc := 37) dX10_held_37 ?_
      refine zV_goto (pc := 38) (tgt := 42) dX10_held_38 (by decide) ?_
      exact zV_sub [0, 1, 3] rfl (key _ (if_neg c8).symm)

set_option maxRecDepth 100000 in
set_option maxHeartbeats 4000000 in
theorem vc_X10_missing_0 {K : zCx} {d : Nat}  (m0 : zM) {Q : Int → zM → Prop}  (h : zok m0 → ∀ v1 : Int, v1 = ((zshl 1 (m0.1 98 10)) - 1) → (zV K mX10_missing (d + 6) 11 [(0, rr K 98), (1, .int (iz v1)), (2, .int (iz 0))] [] m0 Q)) : zV K mX10_missing (d + 6) 0 [(0, rr K 98)] [] m0 Q := by
  refine zV_ok (fun hm0 => ?_)
  replace h := h hm0
  refine zV_iconst (pc := 0) dX10_missing_0 ?_
  refine zV_aloadr_n (pc := 1) dX10_missing_1 rfl 0 rfl ?_
  refine zV_getI (pc := 2) (kz := 10) dX10_missing_2 zfX10_296 rfl rfl rfl ?_
  refine zV_ishl (pc := 5) dX10_missing_5 ?_
  refine zV_iconst (pc := 6) dX10_missing_6 ?_
  refine zV_isub (pc := 7) dX10_missing_7 ?_
  refine zV_name (fun v1 e2 => ?_)
  replace h := h v1 e2
  refine zV_istore_n (pc := 8) (loc' := [(1, .int (iz v1)), (0, rr K 98)]) dX10_missing_8 rfl (by decide) rfl ?_
  refine zV_iconst (pc := 9) dX10_missing_9 ?_
  refine zV_istore_n (pc := 10) (loc' := [(2, .int (iz 0)), (1, .int (iz v1)), (0, rr K 98)]) dX10_missing_10 rfl (by decide) rfl ?_
  exact zV_sub [2, 1, 0] rfl h
set_option maxRecDepth 100000 in
set_option maxHeartbeats 4000000 in
theorem vc_X10_missing_11 {K : zCx} {d : Nat} (x1 : Int) (x2 : Int) (m0 : zM) {Q : Int → zM → Prop} (hx1 : inR x1) (hx2 : inR x2) (h : zok m0 → (9 ≤ x2 → Q (zand ((zshl 1 (m0.1 98 10)) - 1) (zxor x1 (-1))) m0) ∧ (¬ (9 ≤ x2) → zCt K (d + 5) mX10_held [rr K 98, .int (iz x2)] m0 (fun r2 m3 => inR r2 → zok m3 → ∀ v4 : Int, v4 = (zand x1 r2) → (zV K mX10_missing (d + 6) 11 [(0, rr K 98), (1, .int (iz v4)), (2, .int (iz (x2 + 1)))] [] m3 Q)))) : zV K mX10_missing (d + 6) 11 [(0, rr K 98), (1, .int (iz x1)), (2, .int (iz x2))] [] m0 Q := by
  refine zV_ok (fun hm0 => ?_)
  replace h := h hm0
  refine zV_iload_n (pc := 11) dX10_missing_11 rfl 2 rfl ?_
  refine zV_bipush (pc := 12) dX10_missing_12 (by decide) ?_
  refine zV_icmp_ge (pc := 14) (tgt := 31) dX10_missing_14 (by decide) hx2 (inRd rfl) (fun c1 => ?_) (fun c1 => ?_)
  · skip
    replace h := h.1 c1
    refine zV_iconst (pc := 31) dX10_missing_31 ?_
    refine zV_aloadr_n (pc := 32) dX10_missing_32 rfl 0 rfl ?_
    refine zV_getI (pc := 33) (kz := 10) dX10_missing_33 zfX10_296 rfl rfl rfl ?_
    refine zV_ishl (pc := 36) dX10_missing_36 ?_
    refine zV_iconst (pc := 37) dX10_missing_37 ?_
    refine zV_isub (pc := 38) dX10_missing_38 ?_
    refine zV_iload_n (pc := 39) dX10_missing_39 rfl 1 rfl ?_
    refine zV_iconst (pc := 40) dX10_missing_40 ?_
    refine zV_ixor (pc := 41) dX10_missing_41 ?_
    refine zV_iand (pc := 42) dX10_missing_42 ?_
    exact zV_iret (pc := 43) rfl dX10_missing_43 (inR_zand _ _) h
  · skip
    replace h := h.2 c1
    refine zV_iload_n (pc := 17) dX10_missing_17 rfl 1 rfl ?_
    refine zV_aloadr_n (pc := 18) dX10_missing_18 rfl 0 rfl ?_
    refine zV_iload_n (pc := 19) dX10_missing_19 rfl 2 rfl ?_
    refine zV_callV (pc := 20) (mc := mX10_held) (As := [.int (iz x2)]) (rest := [.int (iz x1)]) dX10_missing_20 zcX10_312 ziX10_held zsX10_held rfl rfl rfl rfl (Nat.le_of_ble_eq_true rfl) h (fun r2 m3 hr2 h => zV_ok (fun hm3 => ?_))
    replace h := h hr2 hm3
    refine zV_iand (pc := 23) dX10_missing_23 ?_
    refine zV_name (fun v4 e5 => ?_)
    replace h := h v4 e5
    have hrv4 : inR v4 := by rw [e5]; exact (inR_zand _ _)
    refine zV_istore_n (pc := 24) (loc' := [(1, .int (iz v4)), (0, rr K 98), (2, .int (iz x2))]) dX10_missing_24 rfl (by decide) rfl ?_
    refine zV_iinc (pc := 25) (loc' := [(2, .int (iz (x2 + 1))), (1, .int (iz v4)), (0, rr K 98)]) dX10_missing_25 2 rfl (by decide) rfl ?_
    refine zV_goto (pc := 28) (tgt := 11) dX10_missing_28 (by decide) ?_
    exact zV_sub [2, 1, 0] rfl h

set_option maxRecDepth 100000 in
set_option maxHeartbeats 4000000 in
theorem vc_X10_missed_0 {K : zCx} {d : Nat}  (m0 : zM) {Q : Int → zM → Prop}  (h : zok m0 → zCt K (d + 6) mX10_missing [rr K 98] m0 (fun r1 m2 => inR r1 → zok m2 → Q r1 m2)) : zV K mX10_missed (d + 7) 0 [(0, rr K 98)] [] m0 Q := by
  refine zV_ok (fun hm0 => ?_)
  replace h := h hm0
  refine zV_aloadr_n (pc := 0) dX10_missed_0 rfl 0 rfl ?_
  refine zV_callV (pc := 1) (mc := mX10_missing) (As := []) (rest := []) dX10_missed_1 zcX10_314 ziX10_missing zsX10_missing rfl rfl rfl rfl (Nat.le_of_ble_eq_true rfl) h (fun r1 m2 hr1 h => zV_ok (fun hm2 => ?_))
  replace h := h hr1 hm2
  exact zV_iret (pc := 4) rfl dX10_missed_4 hr1 h

set_option maxRecDepth 100000 in
set_option maxHeartbeats 4000000 in
theorem vc_X10_worst_0 {K : zCx} {d : Nat} (x1 : Int) (m0 : zM) {Q : Int → zM → Prop} (hx1 : inR x1) (h : zok m0 → inR ((m0.1 98 10) - 1) ∧ (((0 ≤ x1 ∧ x1 ≤ ((m0.1 98 10) - 1)) → zV K mX10_worst (d + 6) 18 [(0, rr K 98), (1, .int (iz x1)), (2, .int (iz 0))] [] m0 Q) ∧ (¬ ((0 ≤ x1 ∧ x1 ≤ ((m0.1 98 10) - 1))) → Q (-1) m0))) : zV K mX10_worst (d + 6) 0 [(0, rr K 98), (1, .int (iz x1))] [] m0 Q := by
  refine zV_ok (fun hm0 => ?_)
  replace h := h hm0
  refine zV_iload_n (pc := 0) dX10_worst_0 rfl 1 rfl ?_
  refine zV_iconst (pc := 1) dX10_worst_1 ?_
  refine zV_aloadr_n (pc := 2) dX10_worst_2 rfl 0 rfl ?_
  refine zV_getI (pc := 3) (kz := 10) dX10_worst_3 zfX10_296 rfl rfl rfl ?_
  refine zV_iconst (pc := 6) dX10_worst_6 ?_
  refine zV_isub (pc := 7) dX10_worst_7 ?_
  obtain ⟨o1, h⟩ := h
  refine zV_callSf (pc := 8) (mc := mX10_in) (As := [.int (iz x1), .int (iz 0), .int (iz ((m0.1 98 10) - 1))]) (rest := []) dX10_worst_8 zcX10_114 ztX10_in rfl rfl (Nat.le_of_ble_eq_true rfl) (c_X10_in hx1 (inRd rfl) o1) (fun hr2 => ?_)
  refine zV_if_ne (pc := 11) (tgt := 16) dX10_worst_11 (by decide) (inR_b2i _) (fun c4 => ?_) (fun c4 => ?_)
  · replace c4 := b2i_tp c4
    replace h := h.1 c4
    refine zV_iconst (pc := 16) dX10_worst_16 ?_
    refine zV_istore_n (pc := 17) (loc' := [(2, .int (iz 0)), (0, rr K 98), (1, .int (iz x1))]) dX10_worst_17 rfl (by decide) rfl ?_
    exact zV_sub [1, 2, 0] rfl h
  · replace c4 := b2i_fn c4
    replace h := h.2 c4
    refine zV_iconst (pc := 14) dX10_worst_14 ?_
    exact zV_iret (pc := 15) rfl dX10_worst_15 (inRd rfl) h
set_option maxRecDepth 100000 in
set_option maxHeartbeats 4000000 in
theorem vc_X10_worst_18 {K : zCx} {d : Nat} (x1 : Int) (x2 : Int) (m0 : zM) {Q : Int → zM → Prop} (hx1 : inR x1) (hx2 : inR x2) (h : zok m0 → (9 ≤ x2 → Q (-3) m0) ∧ (¬ (9 ≤ x2) → zCt K (d + 5) mX10_held [rr K 98, .int (iz x2)] m0 (fun r2 m3 => inR r2 → zok m3 → ((zand (zshr r2 x1) 1) = 0 → Q x2 m3) ∧ (¬ ((zand (zshr r2 x1) 1) = 0) → zV K mX10_worst (d + 6) 18 [(0, rr K 98), (1, .int (iz x1)), (2, .int (iz (x2 + 1)))] [] m3 Q)))) : zV K mX10_worst (d + 6) 18 [(0, rr K 98), (1, .int (iz x1)), (2, .int (iz x2))] [] m0 Q := by
  refine zV_ok (fun hm0 => ?_)
  replace h := h hm0
  refine zV_iload_n (pc := 18) dX10_worst_18 rfl 2 rfl ?_
  refine zV_bipush (pc := 19) dX10_worst_19 (by decide) ?_
  refine zV_icmp_ge (pc := 21) (tgt := 44) dX10_worst_21 (by decide) hx2 (inRd rfl) (fun c1 => ?_) (fun c1 => ?_)
  · skip
    replace h := h.1 c1
    refine zV_bipush (pc := 44) dX10_worst_44 (by decide) ?_
    exact zV_iret (pc := 46) rfl dX10_worst_46 (inRd rfl) h
  · skip
    replace h := h.2 c1
    refine zV_aloadr_n (pc := 24) dX10_worst_24 rfl 0 rfl ?_
    refine zV_iload_n (pc := 25) dX10_worst_25 rfl 2 rfl ?_
    refine zV_callV (pc := 26) (mc := mX10_held) (As := [.int (iz x2)]) (rest := []) dX10_worst_26 zcX10_312 ziX10_held zsX10_held rfl rfl rfl rfl (Nat.le_of_ble_eq_true rfl) h (fun r2 m3 hr2 h => zV_ok (fun hm3 => ?_))
    replace h := h hr2 hm3
    refine zV_iload_n (pc := 29) dX10_worst_29 rfl 1 rfl ?_
    refine zV_ishr (pc := 30) dX10_worst_30 ?_
    refine zV_iconst (pc := 31) dX10_worst_31 ?_
    refine zV_iand (pc := 32) dX10_worst_32 ?_
    refine zV_if_ne (pc := 33) (tgt := 38) dX10_worst_33 (by decide) (inR_zand _ _) (fun c4 => ?_) (fun c4 => ?_)
    · skip
      replace h := h.2 c4
      refine zV_iinc (pc := 38) (loc' := [(2, .int (iz (x2 + 1))), (0, rr K 98), (1, .int (iz x1))]) dX10_worst_38 2 rfl (by decide) rfl ?_
      refine zV_goto (pc := 41) (tgt := 18) dX10_worst_41 (by decide) ?_
      exact zV_sub [1, 2, 0] rfl h
    · replace c4 := Classical.not_not.mp c4
      replace h := h.1 c4
      refine zV_iload_n (pc := 36) dX10_worst_36 rfl 2 rfl ?_
      exact zV_iret (pc := 37) rfl dX10_worst_37 hx2 h

set_option maxRecDepth 100000 in
set_option maxHeartbeats 4000000 in
theorem vc_X10_holds_0 {K : zCx} {d : Nat} (x1 : Int) (m0 : zM) {Q : Int → zM → Prop} (hx1 : inR x1) (h : zok m0 → ((0 ≤ x1 ∧ x1 ≤ 8) → zCt K (d + 5) mX10_held [rr K 98, .int (iz x1)] m0 (fun r4 m5 => inR r4 → zok m5 → Q r4 m5)) ∧ (¬ ((0 ≤ x1 ∧ x1 ≤ 8)) → Q (-1) m0)) : zV K mX10_holds (d + 6) 0 [(0, rr K 98), (1, .int (iz x1))] [] m0 Q := by
  refine zV_ok (fun hm0 => ?_)
  replace h := h hm0
  refine zV_iload_n (pc := 0) dX10_holds_0 rfl 1 rfl ?_
  refine zV_callSf (pc := 1) (mc := mX10_isCorner) (As := [.int (iz x1)]) (rest := []) dX10_holds_1 zcX10_162 ztX10_isCorner rfl rfl (Nat.le_of_ble_eq_true rfl) (c_X10_isCorner hx1) (fun hr1 => ?_)
  refine zV_if_eq (pc := 4) (tgt := 15) dX10_holds_4 (by decide) (inR_b2i _) (fun c3 => ?_) (fun c3 => ?_)
  · replace c3 := b2i_fp c3
    replace h := h.2 c3
    refine zV_iconst (pc := 15) dX10_holds_15 ?_
    exact zV_iret (pc := 16) rfl dX10_holds_16 (inRd rfl) h
  · replace c3 := b2i_tp c3
    replace h := h.1 c3
    refine zV_aloadr_n (pc := 7) dX10_holds_7 rfl 0 rfl ?_
    refine zV_iload_n (pc := 8) dX10_holds_8 rfl 1 rfl ?_
    refine zV_callV (pc := 9) (mc := mX10_held) (As := [.int (iz x1)]) (rest := []) dX10_holds_9 zcX10_312 ziX10_held zsX10_held rfl rfl rfl rfl (Nat.le_of_ble_eq_true rfl) h (fun r4 m5 hr4 h => zV_ok (fun hm5 => ?_))
    replace h := h hr4 hm5
    refine zV_goto (pc := 12) (tgt := 16) dX10_holds_12 (by decide) ?_
    exact zV_iret (pc := 16) rfl dX10_holds_16 hr4 h

set_option maxRecDepth 100000 in
set_option maxHeartbeats 4000000 in
theorem vc_X10_openMany_0 {K : zCx} {d : Nat}  (m0 : zM) {Q : Int → zM → Prop}  (h : zok m0 → zV K mX10_openMany (d + 1) 4 [(0, rr K 98), (1, .int (iz 0)), (2, .int (iz 0))] [] m0 Q) : zV K mX10_openMany (d + 1) 0 [(0, rr K 98)] [] m0 Q := by
  refine zV_ok (fun hm0 => ?_)
  replace h := h hm0
  refine zV_iconst (pc := 0) dX10_openMany_0 ?_
  refine zV_istore_n (pc := 1) (loc' := [(1, .int (iz 0)), (0, rr K 98)]) dX10_openMany_1 rfl (by decide) rfl ?_
  refine zV_iconst (pc := 2) dX10_openMany_2 ?_
  refine zV_istore_n (pc := 3) (loc' := [(2, .int (iz 0)), (1, .int (iz 0)), (0, rr K 98)]) dX10_openMany_3 rfl (by decide) rfl ?_
  exact zV_sub [2, 1, 0] rfl h
set_option maxRecDepth 100000 in
set_option maxHeartbeats 4000000 in
theorem vc_X10_openMany_4 {K : zCx} {d : Nat} (x1 : Int) (x2 : Int) (m0 : zM) {Q : Int → zM → Prop} (hx1 : inR x1) (hx2 : inR x2) (h : zok m0 → ((m0.1 98 4) ≤ x2 → Q x1 m0) ∧ (¬ ((m0.1 98 4) ≤ x2) → 0 ≤ ((2 * x2) + 1) ∧ ((2 * x2) + 1) < 20 ∧ (∀ v4 : Int, v4 = (if (m0.1 101 ((2 * x2) + 1)) ≤ 0 then 0 else 1) → (∀ v6 : Int, v6 = (x1 + v4) → (zV K mX10_openMany (d + 1) 4 [(0, rr K 98), (1, .int (iz v6)), (2, .int (iz (x2 + 1)))] [] m0 Q))))) : zV K mX10_openMany (d + 1) 4 [(0, rr K 98), (1, .int (iz x1)), (2, .int (iz x2))] [] m0 Q := by
  refine zV_ok (fun hm0 => ?_)
  replace h := h hm0
  refine zV_iload_n (pc := 4) dX10_openMany_4 rfl 2 rfl ?_
  refine zV_aloadr_n (pc := 5) dX10_openMany_5 rfl 0 rfl ?_
  refine zV_getI (pc := 6) (kz := 4) dX10_openMany_6 zfX10_111 rfl rfl rfl ?_
  refine zV_icmp_ge (pc := 9) (tgt := 39) dX10_openMany_9 (by decide) hx2 (hm0 _ _) (fun c1 => ?_) (fun c1 => ?_)
  · skip
    replace h := h.1 c1
    refine zV_iload_n (pc := 39) dX10_openMany_39 rfl 1 rfl ?_
    exact zV_iret (pc := 40) rfl dX10_openMany_40 hx1 h
  · skip
    replace h := h.2 c1
    refine zV_iload_n (pc := 12) dX10_openMany_12 rfl 1 rfl ?_
    refine zV_aloadr_n (pc := 13) dX10_openMany_13 rfl 0 rfl ?_
    refine zV_getR (pc := 14) (b := 101) dX10_openMany_14 zfX10_20 rfl rfl rfl ?_
    refine zV_iconst (pc := 17) dX10_openMany_17 ?_
    refine zV_iload_n (pc := 18) dX10_openMany_18 rfl 2 rfl ?_
    refine zV_imul (pc := 19) dX10_openMany_19 ?_
    refine zV_iconst (pc := 20) dX10_openMany_20 ?_
    refine zV_iadd (pc := 21) dX10_openMany_21 ?_
    obtain ⟨o2, o3, h⟩ := h
    refine zV_iald (pc := 22) dX10_openMany_22 rfl o2 o3 (inR_ix o2 o3 rfl) ?_
    have key : ∀ v4 : Int, v4 = (if (m0.1 101 ((2 * x2) + 1)) ≤ 0 then 0 else 1) → zV K mX10_openMany (d + 1) 31 [(0, rr K 98), (2, .int (iz x2))] [.int (iz v4), .int (iz x1)] m0 Q := by
      intro v4 e5
      replace h := h v4 e5
      have hrv4 : inR v4 := by rw [e5]; (repeat' split) <;> first | with_reducible exact (inRd rfl)
      refine zV_iadd (pc := 31) dX10_openMany_31 ?_
      refine zV_name (fun v6 e7 => ?_)
      replace h := h v6 e7
      refine zV_istore_n (pc := 32) (loc' := [(1, .int (iz v6)), (0, rr K 98), (2, .int (iz x2))]) dX10_openMany_32 rfl (by decide) rfl ?_
      refine zV_iinc (pc := 33) (loc' := [(2, .int (iz (x2 + 1))), (1, .int (iz v6)), (0, rr K 98)]) dX10_openMany_33 2 rfl (by decide) rfl ?_
      refine zV_goto (pc := 36) (tgt := 4) dX10_openMany_36 (by decide) ?_
      exact zV_sub [2, 1, 0] rfl h
    refine zV_if_le (pc := 23) (tgt := 30) dX10_openMany_23 (by decide) (hm0 _ _) (fun c8 => ?_) (fun c8 => ?_)
    · skip
      refine zV_iconst (pc := 30) dX10_openMany_30 ?_
      exact zV_sub [0, 2] rfl (key _ (if_pos c8).symm)
    · skip
      refine zV_iconst (pc := 26) dX10_openMany_26 ?_
      refine zV_goto (pc := 27) (tgt := 31) dX10_openMany_27 (by decide) ?_
      exact zV_sub [0, 2] rfl (key _ (if_neg c8).symm)
