set_option maxRecDepth 100000 in
set_option maxHeartbeats 4000000 in
theorem vc_X7_choose_0 {K : zCx} {d : Nat} (pl1 : Int) (x2 : Int) (m0 : zM) {Q : Int → zM → Prop} (hpl1 : zPl pl1) (hx2 : inR x2) (h : zok m0 → ∀ v1 : Int, v1 = ((m0.1 64 3) - 1) → (zV K mX7_choose (d + 2) 13 [(0, rr K 64), (1, rr K pl1), (3, .int (iz 0)), (4, .int (iz x2)), (5, .int (iz v1))] [] m0 Q)) : zV K mX7_choose (d + 2) 0 [(0, rr K 64), (1, rr K pl1), (2, .int (iz x2))] [] m0 Q := by
  refine zV_ok (fun hm0 => ?_)
  replace h := h hm0
  refine zV_iconst (pc := 0) dX7_choose_0 ?_
  refine zV_istore_n (pc := 1) (loc' := [(3, .int (iz 0)), (0, rr K 64), (1, rr K pl1), (2, .int (iz x2))]) dX7_choose_1 rfl (by decide) rfl ?_
  refine zV_iload_n (pc := 2) dX7_choose_2 rfl 3 rfl ?_
  refine zV_istore (pc := 3) (loc' := [(4, .int (iz x2)), (3, .int (iz 0)), (0, rr K 64), (1, rr K pl1), (2, .int (iz x2))]) dX7_choose_3 (by decide) rfl ?_
  refine zV_aloadr_n (pc := 5) dX7_choose_5 rfl 2 rfl ?_
  refine zV_getI (pc := 6) (kz := 3) dX7_choose_6 zfX7_99 rfl rfl rfl ?_
  refine zV_iconst (pc := 9) dX7_choose_9 ?_
  refine zV_isub (pc := 10) dX7_choose_10 ?_
  refine zV_name (fun v1 e2 => ?_)
  replace h := h v1 e2
  refine zV_istore (pc := 11) (loc' := [(5, .int (iz v1)), (4, .int (iz x2)), (3, .int (iz 0)), (0, rr K 64), (1, rr K pl1), (2, .int (iz x2))]) dX7_choose_11 (by decide) rfl ?_
  exact zV_sub [3, 4, 2, 1, 0] rfl h
set_option maxRecDepth 100000 in
set_option maxHeartbeats 4000000 in
theorem vc_X7_choose_13 {K : zCx} {d : Nat} (x3 : Int) (x4 : Int) (x5 : Int) (pl1 : Int) (m0 : zM) {Q : Int → zM → Prop} (hx3 : inR x3) (hx4 : inR x4) (hx5 : inR x5) (hpl1 : zPl pl1) (h : zok m0 → (x5 < 0 → Q x3 m0) ∧ (¬ (x5 < 0) → 0 ≤ x5 ∧ x5 < 4 ∧ (0 ≤ (m0.1 65 x5) ∧ (m0.1 65 x5) < 10 ∧ (∀ v6 : Int, v6 = (((m0.1 (pl1 + 9 + (m0.1 65 x5)) 11) - (m0.1 (pl1 + 9 + (m0.1 65 x5)) 10)) + 1) → (zCt K (d + 1) mJ9_max_7cf53 [.int (iz v6), .int (iz 1)] m0 (fun r8 m9 => inR r8 → zok m9 → zCt K (d + 1) mJ9_floorMod_7cf53 [.int (iz x4), .int (iz r8)] m9 (fun r10 m11 => inR r10 → zok m11 → inR ((m0.1 (pl1 + 9 + (m0.1 65 x5)) 10) + r10) ∧ (∀ m13 : zM, m13 = sI m11 66 x5 ((m0.1 (pl1 + 9 + (m0.1 65 x5)) 10) + r10) → zok m13 → (zCt K (d + 1) mJ9_max_7cf53 [.int (iz v6), .int (iz 1)] m13 (fun r15 m16 => inR r15 → zok m16 → r15 ≠ 0 ∧ ¬ (x4 = -2147483648 ∧ r15 = -1) ∧ (∀ v19 : Int, v19 = (Int.tdiv x4 r15) → (∀ v21 : Int, v21 = (x3 + (m16.1 66 x5)) → (zV K mX7_choose (d + 2) 13 [(0, rr K 64), (1, rr K pl1), (3, .int (iz v21)), (4, .int (iz v19)), (5, .int (iz (x5 + (-1))))] [] m16 Q))))))))))))) : zV K mX7_choose (d + 2) 13 [(0, rr K 64), (1, rr K pl1), (3, .int (iz x3)), (4, .int (iz x4)), (5, .int (iz x5))] [] m0 Q := by
  refine zV_ok (fun hm0 => ?_)
  replace h := h hm0
  refine zV_iload (pc := 13) dX7_choose_13 4 rfl ?_
  refine zV_if_lt (pc := 15) (tgt := 98) dX7_choose_15 (by decide) hx5 (fun c1 => ?_) (fun c1 => ?_)
  · skip
    replace h := h.1 c1
    refine zV_iload_n (pc := 98) dX7_choose_98 rfl 2 rfl ?_
    exact zV_iret (pc := 99) rfl dX7_choose_99 hx3 h
  · skip
    replace h := h.2 c1
    refine zV_aloadr_n (pc := 18) dX7_choose_18 rfl 1 rfl ?_
    refine zV_getR (pc := 19) dX7_choose_19 zfX7_105 (zPl_s0 hpl1) rfl (zPl_r0 hpl1) ?_
    refine zV_aloadr_n (pc := 22) dX7_choose_22 rfl 0 rfl ?_
    refine zV_getR (pc := 23) (b := 65) dX7_choose_23 zfX7_9 rfl rfl rfl ?_
    refine zV_iload (pc := 26) dX7_choose_26 4 rfl ?_
    obtain ⟨o2, o3, h⟩ := h
    refine zV_iald (pc := 28) dX7_choose_28 rfl o2 o3 (inR_ix o2 o3 rfl) ?_
    obtain ⟨o4, o5, h⟩ := h
    refine zV_aald (pc := 29) dX7_choose_29 (zPl_s1 hpl1) o4 o5 (inR_ix o4 o5 rfl) (zPl_p hpl1 o4 o5) ?_
    refine zV_astorer (pc := 30) (loc' := [(6, rr K (pl1 + 9 + (m0.1 65 x5))), (0, rr K 64), (1, rr K pl1), (3, .int (iz x3)), (4, .int (iz x4)), (5, .int (iz x5))]) dX7_choose_30 (by decide) rfl ?_
    refine zV_aloadr (pc := 32) dX7_choose_32 0 rfl ?_
    refine zV_getI (pc := 34) (kz := 11) dX7_choose_34 zfX7_122 (zPl_sp hpl1 o4 o5) rfl rfl ?_
    refine zV_aloadr (pc := 37) dX7_choose_37 0 rfl ?_
    refine zV_getI (pc := 39) (kz := 10) dX7_choose_39 zfX7_125 (zPl_sp hpl1 o4 o5) rfl rfl ?_
    refine zV_isub (pc := 42) dX7_choose_42 ?_
    refine zV_iconst (pc := 43) dX7_choose_43 ?_
    refine zV_iadd (pc := 44) dX7_choose_44 ?_
    refine zV_name (fun v6 e7 => ?_)
    replace h := h v6 e7
    refine zV_istore (pc := 45) (loc' := [(7, .int (iz v6)), (6, rr K (pl1 + 9 + (m0.1 65 x5))), (0, rr K 64), (1, rr K pl1), (3, .int (iz x3)), (4, .int (iz x4)), (5, .int (iz x5))]) dX7_choose_45 (by decide) rfl ?_
    refine zV_aloadr_n (pc := 47) dX7_choose_47 rfl 2 rfl ?_
    refine zV_getR (pc := 48) (b := 66) dX7_choose_48 zfX7_15 rfl rfl rfl ?_
    refine zV_iload (pc := 51) dX7_choose_51 6 rfl ?_
    refine zV_aloadr (pc := 53) dX7_choose_53 1 rfl ?_
    refine zV_getI (pc := 55) (kz := 10) dX7_choose_55 zfX7_125 (zPl_sp hpl1 o4 o5) rfl rfl ?_
    refine zV_iload (pc := 58) dX7_choose_58 5 rfl ?_
    refine zV_iload (pc := 60) dX7_choose_60 0 rfl ?_
    refine zV_iconst (pc := 62) dX7_choose_62 ?_
    refine zV_callS (pc := 63) (mc := mJ9_max_7cf53) (As := [.int (iz v6), .int (iz 1)]) (rest := [.int (iz x4), .int (iz (m0.1 (pl1 + 9 + (m0.1 65 x5)) 10)), .int (iz x5), rr K 66]) dX7_choose_63 zcX7_141 ztJ9_max_7cf53 rfl rfl (Nat.le_of_ble_eq_true rfl) h (fun r8 m9 hr8 h => zV_ok (fun hm9 => ?_))
    replace h := h hr8 hm9
    refine zV_callS (pc := 66) (mc := mJ9_floorMod_7cf53) (As := [.int (iz x4), .int (iz r8)]) (rest := [.int (iz (m0.1 (pl1 + 9 + (m0.1 65 x5)) 10)), .int (iz x5), rr K 66]) dX7_choose_66 zcX7_146 ztJ9_floorMod_7cf53 rfl rfl (Nat.le_of_ble_eq_true rfl) h (fun r10 m11 hr10 h => zV_ok (fun hm11 => ?_))
    replace h := h hr10 hm11
    refine zV_iadd (pc := 69) dX7_choose_69 ?_
    obtain ⟨o12, h⟩ := h
    refine zV_iast (pc := 70) dX7_choose_70 rfl o2 o3 (inR_ix o2 o3 rfl) o12 ?_
    refine zV_mem (fun m13 e14 => zV_ok (fun hm13 => ?_))
    replace h := h m13 e14 hm13
    refine zV_iload (pc := 71) dX7_choose_71 5 rfl ?_
    refine zV_iload (pc := 73) dX7_choose_73 0 rfl ?_
    refine zV_iconst (pc := 75) dX7_choose_75 ?_
    refine zV_callS (pc := 76) (mc := mJ9_max_7cf53) (As := [.int (iz v6), .int (iz 1)]) (rest := [.int (iz x4)]) dX7_choose_76 zcX7_141 ztJ9_max_7cf53 rfl rfl (Nat.le_of_ble_eq_true rfl) h (fun r15 m16 hr15 h => zV_ok (fun hm16 => ?_))
    replace h := h hr15 hm16
    obtain ⟨o17, o18, h⟩ := h
    refine zV_idiv (pc := 79) dX7_choose_79 hx4 hr15 o17 o18 ?_
    refine zV_name (fun v19 e20 => ?_)
    replace h := h v19 e20
    refine zV_istore (pc := 80) (loc' := [(4, .int (iz v19)), (7, .int (iz v6)), (6, rr K (pl1 + 9 + (m0.1 65 x5))), (0, rr K 64), (1, rr K pl1), (3, .int (iz x3)), (5, .int (iz x5))]) dX7_choose_80 (by decide) rfl ?_
    refine zV_iload_n (pc := 82) dX7_choose_82 rfl 5 rfl ?_
    refine zV_aloadr_n (pc := 83) dX7_choose_83 rfl 3 rfl ?_
    refine zV_getR (pc := 84) (b := 66) dX7_choose_84 zfX7_15 rfl rfl rfl ?_
    refine zV_iload (pc := 87) dX7_choose_87 6 rfl ?_
    refine zV_iald (pc := 89) dX7_choose_89 rfl o2 o3 (inR_ix o2 o3 rfl) ?_
    refine zV_iadd (pc := 90) dX7_choose_90 ?_
    refine zV_name (fun v21 e22 => ?_)
    replace h := h v21 e22
    refine zV_istore_n (pc := 91) (loc' := [(3, .int (iz v21)), (4, .int (iz v19)), (7, .int (iz v6)), (6, rr K (pl1 + 9 + (m0.1 65 x5))), (0, rr K 64), (1, rr K pl1), (5, .int (iz x5))]) dX7_choose_91 rfl (by decide) rfl ?_
    refine zV_iinc (pc := 92) (loc' := [(5, .int (iz (x5 + (-1)))), (3, .int (iz v21)), (4, .int (iz v19)), (7, .int (iz v6)), (6, rr K (pl1 + 9 + (m0.1 65 x5))), (0, rr K 64), (1, rr K pl1)]) dX7_choose_92 6 rfl (by decide) rfl ?_
    refine zV_goto (pc := 95) (tgt := 13) dX7_choose_95 (by decide) ?_
    exact zV_sub [5, 6, 1, 2, 0] rfl h

set_option maxRecDepth 100000 in
set_option maxHeartbeats 4000000 in
theorem vc_X7_isRight_0 {K : zCx} {d : Nat} (pl1 : Int) (x2 : Int) (x3 : Int) (x4 : Int) (m0 : zM) {Q : Int → zM → Prop} (hpl1 : zPl pl1) (hx2 : inR x2) (hx3 : inR x3) (hx4 : inR x4) (h : zok m0 → ((m0.1 64 3) ≤ x2 → Q 0 m0) ∧ (¬ ((m0.1 64 3) ≤ x2) → 0 ≤ x2 ∧ x2 < 4 ∧ (((m0.1 65 x2) = x3 → 0 ≤ x3 ∧ x3 < 10 ∧ (Q (b2i (decide ((m0.1 (pl1 + 9 + x3) 10) ≤ x4 ∧ x4 ≤ (m0.1 (pl1 + 9 + x3) 11)))) m0)) ∧ (¬ ((m0.1 65 x2) = x3) → Q 0 m0)))) : zV K mX7_isRight (d + 2) 0 [(0, rr K 64), (1, rr K pl1), (2, .int (iz x2)), (3, .int (iz x3)), (4, .int (iz x4))] [] m0 Q := by
  refine zV_ok (fun hm0 => ?_)
  replace h := h hm0
  refine zV_iload_n (pc := 0) dX7_isRight_0 rfl 2 rfl ?_
  refine zV_aloadr_n (pc := 1) dX7_isRight_1 rfl 0 rfl ?_
  refine zV_getI (pc := 2) (kz := 3) dX7_isRight_2 zfX7_99 rfl rfl rfl ?_
  refine zV_icmp_ge (pc := 5) (tgt := 18) dX7_isRight_5 (by decide) hx2 (hm0 _ _) (fun c1 => ?_) (fun c1 => ?_)
  · skip
    replace h := h.1 c1
    refine zV_iconst (pc := 18) dX7_isRight_18 ?_
    exact zV_zret (pc := 19) rfl dX7_isRight_19 (Or.inl rfl) h
  · skip
    replace h := h.2 c1
    refine zV_aloadr_n (pc := 8) dX7_isRight_8 rfl 0 rfl ?_
    refine zV_getR (pc := 9) (b := 65) dX7_isRight_9 zfX7_9 rfl rfl rfl ?_
    refine zV_iload_n (pc := 12) dX7_isRight_12 rfl 2 rfl ?_
    obtain ⟨o2, o3, h⟩ := h
    refine zV_iald (pc := 13) dX7_isRight_13 rfl o2 o3 (inR_ix o2 o3 rfl) ?_
    refine zV_iload_n (pc := 14) dX7_isRight_14 rfl 3 rfl ?_
    refine zV_icmp_eq (pc := 15) (tgt := 20) dX7_isRight_15 (by decide) (hm0 _ _) hx3 (fun c4 => ?_) (fun c4 => ?_)
    · skip
      replace h := h.1 c4
      refine zV_iload (pc := 20) dX7_isRight_20 4 rfl ?_
      refine zV_aloadr_n (pc := 22) dX7_isRight_22 rfl 1 rfl ?_
      refine zV_getR (pc := 23) dX7_isRight_23 zfX7_105 (zPl_s0 hpl1) rfl (zPl_r0 hpl1) ?_
      refine zV_iload_n (pc := 26) dX7_isRight_26 rfl 3 rfl ?_
      obtain ⟨o5, o6, h⟩ := h
      refine zV_aald (pc := 27) dX7_isRight_27 (zPl_s1 hpl1) o5 o6 (inR_ix o5 o6 rfl) (zPl_p hpl1 o5 o6) ?_
      refine zV_getI (pc := 28) (kz := 10) dX7_isRight_28 zfX7_125 (zPl_sp hpl1 o5 o6) rfl rfl ?_
      refine zV_aloadr_n (pc := 31) dX7_isRight_31 rfl 1 rfl ?_
      refine zV_getR (pc := 32) dX7_isRight_32 zfX7_105 (zPl_s0 hpl1) rfl (zPl_r0 hpl1) ?_
      refine zV_iload_n (pc := 35) dX7_isRight_35 rfl 3 rfl ?_
      refine zV_aald (pc := 36) dX7_isRight_36 (zPl_s1 hpl1) o5 o6 (inR_ix o5 o6 rfl) (zPl_p hpl1 o5 o6) ?_
      refine zV_getI (pc := 37) (kz := 11) dX7_isRight_37 zfX7_122 (zPl_sp hpl1 o5 o6) rfl rfl ?_
      refine zV_callSNf (pc := 40) (mc := mX9_within) (As := [.int (iz x4), .int (iz (m0.1 (pl1 + 9 + x3) 10)), .int (iz (m0.1 (pl1 + 9 + x3) 11))]) (rest := []) dX7_isRight_40 zcX7_149 ztX9_within rfl rfl (Nat.le_of_ble_eq_true rfl) (c_X9_within hx4 (hm0 _ _) (hm0 _ _)) (fun hr7 => ?_)
      exact zV_zret (pc := 43) rfl dX7_isRight_43 (b2i_01 _) h
    · skip
      replace h := h.2 c4
      refine zV_iconst (pc := 18) dX7_isRight_18 ?_
      exact zV_zret (pc := 19) rfl dX7_isRight_19 (Or.inl rfl) h

set_option maxRecDepth 100000 in
set_option maxHeartbeats 4000000 in
theorem vc_X7_missingWith_0 {K : zCx} {d : Nat} (pl1 : Int) (a2 : Int) (n2 : Nat) (m0 : zM) {Q : Int → zM → Prop} (hpl1 : zPl pl1) (ha2 : zsh a2 = some (0, n2)) (h : zok m0 → zCt K (d + 6) mX4_copyFrom [rr K 67, rr K pl1] m0 (fun r1 m2 => inR r1 → zok m2 → zV K mX7_missingWith (d + 7) 10 [(0, rr K 64), (2, rr K a2), (3, .int (iz 0))] [] m2 Q)) : zV K mX7_missingWith (d + 7) 0 [(0, rr K 64), (1, rr K pl1), (2, rr K a2)] [] m0 Q := by
  refine zV_ok (fun hm0 => ?_)
  replace h := h hm0
  refine zV_aloadr_n (pc := 0) dX7_missingWith_0 rfl 0 rfl ?_
  refine zV_getR (pc := 1) (b := 67) dX7_missingWith_1 zfX7_28 rfl rfl rfl ?_
  refine zV_aloadr_n (pc := 4) dX7_missingWith_4 rfl 1 rfl ?_
  refine zV_callV (pc := 5) (mc := mX4_copyFrom) (As := [rr K pl1]) (rest := []) dX7_missingWith_5 zcX7_119 ziX4_copyFrom zsX4_copyFrom rfl rfl rfl rfl (Nat.le_of_ble_eq_true rfl) h (fun r1 m2 hr1 h => zV_ok (fun hm2 => ?_))
  replace h := h hr1 hm2
  refine zV_iconst (pc := 8) dX7_missingWith_8 ?_
  refine zV_istore_n (pc := 9) (loc' := [(3, .int (iz 0)), (0, rr K 64), (1, rr K pl1), (2, rr K a2)]) dX7_missingWith_9 rfl (by decide) rfl ?_
  exact zV_sub [1, 3, 0] rfl h
set_option maxRecDepth 100000 in
set_option maxHeartbeats 4000000 in
theorem vc_X7_missingWith_10 {K : zCx} {d : Nat} (x3 : Int) (pl1 : Int) (a2 : Int) (n2 : Nat) (m0 : zM) {Q : Int → zM → Prop} (hx3 : inR x3) (hpl1 : zPl pl1) (ha2 : zsh a2 = some (0, n2)) (h : zok m0 → ((m0.1 64 3) ≤ x3 → zCt K (d + 6) mX7_missing [rr K 64, rr K 67] m0 (fun r2 m3 => inR r2 → zok m3 → Q r2 m3)) ∧ (¬ ((m0.1 64 3) ≤ x3) → inR (n2 : Int) ∧ (((n2 : Int) ≤ x3 → zCt K (d + 6) mX7_missing [rr K 64, rr K 67] m0 (fun r6 m7 => inR r6 → zok m7 → Q r6 m7)) ∧ (¬ ((n2 : Int) ≤ x3) → 0 ≤ x3 ∧ x3 < 4 ∧ (0 ≤ (m0.1 65 x3) ∧ (m0.1 65 x3) < 10 ∧ (0 ≤ x3 ∧ x3 < (n2 : Int) ∧ (∀ m14 : zM, m14 = sI m0 (76 + (m0.1 65 x3)) 3 (m0.1 a2 x3) → zok m14 → (zV K mX7_missingWith (d + 7) 10 [(0, rr K 64), (2, rr K a2), (3, .int (iz (x3 + 1)))] [] m14 Q)))))))) : zV K mX7_missingWith (d + 7) 10 [(0, rr K 64), (2, rr K a2), (3, .int (iz x3))] [] m0 Q := by
  refine zV_ok (fun hm0 => ?_)
  replace h := h hm0
  refine zV_iload_n (pc := 10) dX7_missingWith_10 rfl 2 rfl ?_
  refine zV_aloadr_n (pc := 11) dX7_missingWith_11 rfl 0 rfl ?_
  refine zV_getI (pc := 12) (kz := 3) dX7_missingWith_12 zfX7_99 rfl rfl rfl ?_
  refine zV_icmp_ge (pc := 15) (tgt := 50) dX7_missingWith_15 (by decide) hx3 (hm0 _ _) (fun c1 => ?_) (fun c1 => ?_)
  · skip
    replace h := h.1 c1
    refine zV_aloadr_n (pc := 50) dX7_missingWith_50 rfl 0 rfl ?_
    refine zV_aloadr_n (pc := 51) dX7_missingWith_51 rfl 0 rfl ?_
    refine zV_getR (pc := 52) (b := 67) dX7_missingWith_52 zfX7_28 rfl rfl rfl ?_
    refine zV_callV (pc := 55) (mc := mX7_missing) (As := [rr K 67]) (rest := []) dX7_missingWith_55 zcX7_153 ziX7_missing zsX7_missing rfl rfl rfl rfl (Nat.le_of_ble_eq_true rfl) h (fun r2 m3 hr2 h => zV_ok (fun hm3 => ?_))
    replace h := h hr2 hm3
    exact zV_iret (pc := 58) rfl dX7_missingWith_58 hr2 h
  · skip
    replace h := h.2 c1
    refine zV_iload_n (pc := 18) dX7_missingWith_18 rfl 2 rfl ?_
    refine zV_aloadr_n (pc := 19) dX7_missingWith_19 rfl 1 rfl ?_
    refine zV_alen (pc := 20) dX7_missingWith_20 ha2 (by decide) ?_
    obtain ⟨o4, h⟩ := h
    refine zV_icmp_ge (pc := 21) (tgt := 50) dX7_missingWith_21 (by decide) hx3 o4 (fun c5 => ?_) (fun c5 => ?_)
    · skip
      replace h := h.1 c5
      refine zV_aloadr_n (pc := 50) dX7_missingWith_50 rfl 0 rfl ?_
      refine zV_aloadr_n (pc := 51) dX7_missingWith_51 rfl 0 rfl ?_
      refine zV_getR (pc := 52) (b := 67) dX7_missingWith_52 zfX7_28 rfl rfl rfl ?_
      refine zV_callV (pc := 55) (mc := mX7_missing) (As := [rr K 67]) (rest := []) dX7_missingWith_55 zcX7_153 ziX7_missing zsX7_missing rfl rfl rfl rfl (Nat.le_of_ble_eq_true rfl) h (fun r6 m7 hr6 h => zV_ok (fun hm7 => ?_))
      replace h := h hr6 hm7
      exact zV_iret (pc := 58) rfl dX7_missingWith_58 hr6 h
    · skip
      replace h := h.2 c5
      refine zV_aloadr_n (pc := 24) dX7_missingWith_24 rfl 0 rfl ?_
      refine zV_getR (pc := 25) (b := 67) dX7_missingWith_25 zfX7_28 rfl rfl rfl ?_
      refine zV_getR (pc := 28) (b := 68) dX7_missingWith_28 zfX7_105 rfl rfl rfl ?_
      refine zV_aloadr_n (pc := 31) dX7_missingWith_31 rfl 0 rfl ?_
      refine zV_getR (pc := 32) (b := 65) dX7_missingWith_32 zfX7_9 rfl rfl rfl ?_
      refine zV_iload_n (pc := 35) dX7_missingWith_35 rfl 2 rfl ?_
      obtain ⟨o8, o9, h⟩ := h
      refine zV_iald (pc := 36) dX7_missingWith_36 rfl o8 o9 (inR_ix o8 o9 rfl) ?_
      obtain ⟨o10, o11, h⟩ := h
      refine zV_aald (pc := 37) dX7_missingWith_37 rfl o10 o11 (inR_ix o10 o11 rfl) (zPn67_p o10 o11) ?_
      refine zV_aloadr_n (pc := 38) dX7_missingWith_38 rfl 1 rfl ?_
      refine zV_iload_n (pc := 39) dX7_missingWith_39 rfl 2 rfl ?_
      obtain ⟨o12, o13, h⟩ := h
      refine zV_iald (pc := 40) dX7_missingWith_40 ha2 o12 o13 hx3 ?_
      refine zV_putI (pc := 41) (kz := 3) dX7_missingWith_41 zpX7_131 (zPn67_s o10 o11) rfl rfl (hm0 _ _) rfl rfl ?_
      refine zV_mem (fun m14 e15 => zV_ok (fun hm14 => ?_))
      replace h := h m14 e15 hm14
      refine zV_iinc (pc := 44) (loc' := [(3, .int (iz (x3 + 1))), (0, rr K 64), (2, rr K a2)]) dX7_missingWith_44 2 rfl (by decide) rfl ?_
      refine zV_goto (pc := 47) (tgt := 10) dX7_missingWith_47 (by decide) ?_
      exact zV_sub [1, 2, 0] rfl h

set_option maxRecDepth 100000 in
set_option maxHeartbeats 4000000 in
theorem vc_X7_reach_0 {K : zCx} {d : Nat} (pl1 : Int) (x2 : Int) (x3 : Int) (m0 : zM) {Q : Int → zM → Prop} (hpl1 : zPl pl1) (hx2 : inR x2) (hx3 : inR x3) (h : zok m0 → zCt K (d + 6) mX7_allMet [rr K 64, rr K pl1] m0 (fun r1 m2 => inR r1 → zok m2 → (r1 = 0 → Q (-5) m2) ∧ (¬ (r1 = 0) → zCt K (d + 6) mX4_copyFrom [rr K 67, rr K pl1] m2 (fun r4 m5 => inR r4 → zok m5 → zV K mX7_reach (d + 7) 22 [(0, rr K 64), (1, rr K pl1), (2, .int (iz x2)), (3, .int (iz x3)), (4, .int (iz 1))] [] m5 Q)))) : zV K mX7_reach (d + 7) 0 [(0, rr K 64), (1, rr K pl1), (2, .int (iz x2)), (3, .int (iz x3))] [] m0 Q := by
  refine zV_ok (fun hm0 => ?_)
  replace h := h hm0
  refine zV_aloadr_n (pc := 0) dX7_reach_0 rfl 0 rfl ?_
  refine zV_aloadr_n (pc := 1) dX7_reach_1 rfl 1 rfl ?_
  refine zV_callV (pc := 2) (mc := mX7_allMet) (As := [rr K pl1]) (rest := []) dX7_reach_2 zcX7_134 ziX7_allMet zsX7_allMet rfl rfl rfl rfl (Nat.le_of_ble_eq_true rfl) h (fun r1 m2 hr1 h => zV_ok (fun hm2 => ?_))
  replace h := h hr1 hm2
  refine zV_if_ne (pc := 5) (tgt := 11) dX7_reach_5 (by decide) hr1 (fun c3 => ?_) (fun c3 => ?_)
  · skip
    replace h := h.2 c3
    refine zV_aloadr_n (pc := 11) dX7_reach_11 rfl 0 rfl ?_
    refine zV_getR (pc := 12) (b := 67) dX7_reach_12 zfX7_28 rfl rfl rfl ?_
    refine zV_aloadr_n (pc := 15) dX7_reach_15 rfl 1 rfl ?_
    refine zV_callV (pc := 16) (mc := mX4_copyFrom) (As := [rr K pl1]) (rest := []) dX7_reach_16 zcX7_119 ziX4_copyFrom zsX4_copyFrom rfl rfl rfl rfl (Nat.le_of_ble_eq_true rfl) h (fun r4 m5 hr4 h => zV_ok (fun hm5 => ?_))
    replace h := h hr4 hm5
    refine zV_iconst (pc := 19) dX7_reach_19 ?_
    refine zV_istore (pc := 20) (loc' := [(4, .int (iz 1)), (0, rr K 64), (1, rr K pl1), (2, .int (iz x2)), (3, .int (iz x3))]) dX7_reach_20 (by decide) rfl ?_
    exact zV_sub [1, 2, 3, 4, 0] rfl h
  · replace c3 := Classical.not_not.mp c3
    replace h := h.1 c3
    refine zV_bipush (pc := 8) dX7_reach_8 (by decide) ?_
    exact zV_iret (pc := 10) rfl dX7_reach_10 (inRd rfl) h
set_option maxRecDepth 100000 in
set_option maxHeartbeats 4000000 in
theorem vc_X7_reach_22 {K : zCx} {d : Nat} (x2 : Int) (x3 : Int) (x4 : Int) (pl1 : Int) (m0 : zM) {Q : Int → zM → Prop} (hx2 : inR x2) (hx3 : inR x3) (hx4 : inR x4) (hpl1 : zPl pl1) (h : zok m0 → (9 < x4 → Q 9 m0) ∧ (¬ (9 < x4) → 0 ≤ x2 ∧ x2 < 10 ∧ (∀ v4 : Int, v4 = ((m0.1 (pl1 + 9 + x2) 3) + (x4 * x3)) → (inR v4 ∧ (((1 ≤ v4 ∧ v4 ≤ 9) → ∀ m10 : zM, m10 = sI m0 (76 + x2) 3 v4 → zok m10 → (zCt K (d + 6) mX7_allMet [rr K 64, rr K 67] m10 (fun r12 m13 => inR r12 → zok m13 → (r12 = 0 → inR (x4 - 1) ∧ (Q (x4 - 1) m13)) ∧ (¬ (r12 = 0) → zV K mX7_reach (d + 7) 22 [(0, rr K 64), (1, rr K pl1), (2, .int (iz x2)), (3, .int (iz x3)), (4, .int (iz (x4 + 1)))] [] m13 Q)))) ∧ (¬ ((1 ≤ v4 ∧ v4 ≤ 9)) → inR (x4 - 1) ∧ (Q (x4 - 1) m0))))))) : zV K mX7_reach (d + 7) 22 [(0, rr K 64), (1, rr K pl1), (2, .int (iz x2)), (3, .int (iz x3)), (4, .int (iz x4))] [] m0 Q := by
  refine zV_ok (fun hm0 => ?_)
  replace h := h hm0
  refine zV_iload (pc := 22) dX7_reach_22 4 rfl ?_
  refine zV_bipush (pc := 24) dX7_reach_24 (by decide) ?_
  refine zV_icmp_gt (pc := 26) (tgt := 97) dX7_reach_26 (by decide) hx4 (inRd rfl) (fun c1 => ?_) (fun c1 => ?_)
  · skip
    replace h := h.1 c1
    refine zV_bipush (pc := 97) dX7_reach_97 (by decide) ?_
    exact zV_iret (pc := 99) rfl dX7_reach_99 (inRd rfl) h
  · skip
    replace h := h.2 c1
    refine zV_aloadr_n (pc := 29) dX7_reach_29 rfl 1 rfl ?_
    refine zV_getR (pc := 30) dX7_reach_30 zfX7_105 (zPl_s0 hpl1) rfl (zPl_r0 hpl1) ?_
    refine zV_iload_n (pc := 33) dX7_reach_33 rfl 2 rfl ?_
    obtain ⟨o2, o3, h⟩ := h
    refine zV_aald (pc := 34) dX7_reach_34 (zPl_s1 hpl1) o2 o3 (inR_ix o2 o3 rfl) (zPl_p hpl1 o2 o3) ?_
    refine zV_getI (pc := 35) (kz := 3) dX7_reach_35 zfX7_131 (zPl_sp hpl1 o2 o3) rfl rfl ?_
    refine zV_iload (pc := 38) dX7_reach_38 4 rfl ?_
    refine zV_iload_n (pc := 40) dX7_reach_40 rfl 3 rfl ?_
    refine zV_imul (pc := 41) dX7_reach_41 ?_
    refine zV_iadd (pc := 42) dX7_reach_42 ?_
    refine zV_name (fun v4 e5 => ?_)
    replace h := h v4 e5
    refine zV_istore (pc := 43) (loc' := [(5, .int (iz v4)), (0, rr K 64), (1, rr K pl1), (2, .int (iz x2)), (3, .int (iz x3)), (4, .int (iz x4))]) dX7_reach_43 (by decide) rfl ?_
    refine zV_iload (pc := 45) dX7_reach_45 0 rfl ?_
    refine zV_iconst (pc := 47) dX7_reach_47 ?_
    refine zV_bipush (pc := 48) dX7_reach_48 (by decide) ?_
    obtain ⟨o6, h⟩ := h
    refine zV_callSNf (pc := 50) (mc := mX9_within) (As := [.int (iz v4), .int (iz 1), .int (iz 9)]) (rest := []) dX7_reach_50 zcX7_149 ztX9_within rfl rfl (Nat.le_of_ble_eq_true rfl) (c_X9_within o6 (inRd rfl) (inRd rfl)) (fun hr7 => ?_)
    refine zV_if_ne (pc := 53) (tgt := 61) dX7_reach_53 (by decide) (inR_b2i _) (fun c9 => ?_) (fun c9 => ?_)
    · replace c9 := b2i_tp c9
      replace h := h.1 c9
      refine zV_aloadr_n (pc := 61) dX7_reach_61 rfl 1 rfl ?_
      refine zV_getR (pc := 62) (b := 67) dX7_reach_62 zfX7_28 rfl rfl rfl ?_
      refine zV_getR (pc := 65) (b := 68) dX7_reach_65 zfX7_105 rfl rfl rfl ?_
      refine zV_iload_n (pc := 68) dX7_reach_68 rfl 3 rfl ?_
      refine zV_aald (pc := 69) dX7_reach_69 rfl o2 o3 (inR_ix o2 o3 rfl) (zPn67_p o2 o3) ?_
      refine zV_iload (pc := 70) dX7_reach_70 0 rfl ?_
      refine zV_putI (pc := 72) (kz := 3) dX7_reach_72 zpX7_131 (zPn67_s o2 o3) rfl rfl o6 rfl rfl ?_
      refine zV_mem (fun m10 e11 => zV_ok (fun hm10 => ?_))
      replace h := h m10 e11 hm10
      refine zV_aloadr_n (pc := 75) dX7_reach_75 rfl 1 rfl ?_
      refine zV_aloadr_n (pc := 76) dX7_reach_76 rfl 1 rfl ?_
      refine zV_getR (pc := 77) (b := 67) dX7_reach_77 zfX7_28 rfl rfl rfl ?_
      refine zV_callV (pc := 80) (mc := mX7_allMet) (As := [rr K 67]) (rest := []) dX7_reach_80 zcX7_134 ziX7_allMet zsX7_allMet rfl rfl rfl rfl (Nat.le_of_ble_eq_true rfl) h (fun r12 m13 hr12 h => zV_ok (fun hm13 => ?_))
      replace h := h hr12 hm13
      refine zV_if_ne (pc := 83) (tgt := 91) dX7_reach_83 (by decide) hr12 (fun c14 => ?_) (fun c14 => ?_)
      · skip
        replace h := h.2 c14
        refine zV_iinc (pc := 91) (loc' := [(4, .int (iz (x4 + 1))), (5, .int (iz v4)), (0, rr K 64), (1, rr K pl1), (2, .int (iz x2)), (3, .int (iz x3))]) dX7_reach_91 5 rfl (by decide) rfl ?_
        refine zV_goto (pc := 94) (tgt := 22) dX7_reach_94 (by decide) ?_
        exact zV_sub [2, 3, 4, 5, 0] rfl h
      · replace c14 := Classical.not_not.mp c14
        replace h := h.1 c14
        refine zV_iload (pc := 86) dX7_reach_86 5 rfl ?_
        refine zV_iconst (pc := 88) dX7_reach_88 ?_
        refine zV_isub (pc := 89) dX7_reach_89 ?_
        obtain ⟨o15, h⟩ := h
        exact zV_iret (pc := 90) rfl dX7_reach_90 o15 h
    · replace c9 := b2i_fn c9
      replace h := h.2 c9
      refine zV_iload (pc := 56) dX7_reach_56 5 rfl ?_
      refine zV_iconst (pc := 58) dX7_reach_58 ?_
      refine zV_isub (pc := 59) dX7_reach_59 ?_
      obtain ⟨o16, h⟩ := h
      exact zV_iret (pc := 60) rfl dX7_reach_60 o16 h

set_option maxRecDepth 100000 in
set_option maxHeartbeats 4000000 in
theorem vc_X7_fallen_0 {K : zCx} {d : Nat} (pl1 : Int) (x2 : Int) (x3 : Int) (m0 : zM) {Q : Int → zM → Prop} (hpl1 : zPl pl1) (hx2 : inR x2) (hx3 : inR x3) (h : zok m0 → zCt K (d + 6) mX4_copyFrom [rr K 67, rr K pl1] m0 (fun r1 m2 => inR r1 → zok m2 → 0 ≤ x2 ∧ x2 < 10 ∧ (∀ m5 : zM, m5 = sI m2 (76 + x2) 4 x3 → zok m5 → (zCt K (d + 6) mX7_missing [rr K 64, rr K 67] m5 (fun r7 m8 => inR r7 → zok m8 → ∀ m9 : zM, m9 = sI m8 (76 + x2) 4 0 → zok m9 → (zCt K (d + 6) mX7_missing [rr K 64, rr K 67] m9 (fun r11 m12 => inR r11 → zok m12 → Q (zand r7 (zxor r11 (-1))) m12))))))) : zV K mX7_fallen (d + 7) 0 [(0, rr K 64), (1, rr K pl1), (2, .int (iz x2)), (3, .int (iz x3))] [] m0 Q := by
  refine zV_ok (fun hm0 => ?_)
  replace h := h hm0
  refine zV_aloadr_n (pc := 0) dX7_fallen_0 rfl 0 rfl ?_
  refine zV_getR (pc := 1) (b := 67) dX7_fallen_1 zfX7_28 rfl rfl rfl ?_
  refine zV_aloadr_n (pc := 4) dX7_fallen_4 rfl 1 rfl ?_
  refine zV_callV (pc := 5) (mc := mX4_copyFrom) (As := [rr K pl1]) (rest := []) dX7_fallen_5 zcX7_119 ziX4_copyFrom zsX4_copyFrom rfl rfl rfl rfl (Nat.le_of_ble_eq_true rfl) h (fun r1 m2 hr1 h => zV_ok (fun hm2 => ?_))
  replace h := h hr1 hm2
  refine zV_aloadr_n (pc := 8) dX7_fallen_8 rfl 0 rfl ?_
  refine zV_getR (pc := 9) (b := 67) dX7_fallen_9 zfX7_28 rfl rfl rfl ?_
  refine zV_getR (pc := 12) (b := 68) dX7_fallen_12 zfX7_105 rfl rfl rfl ?_
  refine zV_iload_n (pc := 15) dX7_fallen_15 rfl 2 rfl ?_
  obtain ⟨o3, o4, h⟩ := h
  refine zV_aald (pc := 16) dX7_fallen_16 rfl o3 o4 (inR_ix o3 o4 rfl) (zPn67_p o3 o4) ?_
  refine zV_iload_n (pc := 17) dX7_fallen_17 rfl 3 rfl ?_
  refine zV_putI (pc := 18) (kz := 4) dX7_fallen_18 zpX7_157 (zPn67_s o3 o4) rfl rfl hx3 rfl rfl ?_
  refine zV_mem (fun m5 e6 => zV_ok (fun hm5 => ?_))
  replace h := h m5 e6 hm5
  refine zV_aloadr_n (pc := 21) dX7_fallen_21 rfl 0 rfl ?_
  refine zV_aloadr_n (pc := 22) dX7_fallen_22 rfl 0 rfl ?_
  refine zV_getR (pc := 23) (b := 67) dX7_fallen_23 zfX7_28 rfl rfl rfl ?_
  refine zV_callV (pc := 26) (mc := mX7_missing) (As := [rr K 67]) (rest := []) dX7_fallen_26 zcX7_153 ziX7_missing zsX7_missing rfl rfl rfl rfl (Nat.le_of_ble_eq_true rfl) h (fun r7 m8 hr7 h => zV_ok (fun hm8 => ?_))
  replace h := h hr7 hm8
  refine zV_istore (pc := 29) (loc' := [(4, .int (iz r7)), (0, rr K 64), (1, rr K pl1), (2, .int (iz x2)), (3, .int (iz x3))]) dX7_fallen_29 (by decide) rfl ?_
  refine zV_aloadr_n (pc := 31) dX7_fallen_31 rfl 1 rfl ?_
  refine zV_getR (pc := 32) (b := 67) dX7_fallen_32 zfX7_28 rfl rfl rfl ?_
  refine zV_getR (pc := 35) (b := 68) dX7_fallen_35 zfX7_105 rfl rfl rfl ?_
  refine zV_iload_n (pc := 38) dX7_fallen_38 rfl 3 rfl ?_
  refine zV_aald (pc := 39) dX7_fallen_39 rfl o3 o4 (inR_ix o3 o4 rfl) (zPn67_p o3 o4) ?_
  refine zV_iconst (pc := 40) dX7_fallen_40 ?_
  refine zV_putI (pc := 41) (kz := 4) dX7_fallen_41 zpX7_157 (zPn67_s o3 o4) rfl rfl (inRd rfl) rfl rfl ?_
  refine zV_mem (fun m9 e10 => zV_ok (fun hm9 => ?_))
  replace h := h m9 e10 hm9
  refine zV_iload (pc := 44) dX7_fallen_44 0 rfl ?_
  refine zV_aloadr_n (pc := 46) dX7_fallen_46 rfl 1 rfl ?_
  refine zV_aloadr_n (pc := 47) dX7_fallen_47 rfl 1 rfl ?_
  refine zV_getR (pc := 48) (b := 67) dX7_fallen_48 zfX7_28 rfl rfl rfl ?_
  refine zV_callV (pc := 51) (mc := mX7_missing) (As := [rr K 67]) (rest := [.int (iz r7)]) dX7_fallen_51 zcX7_153 ziX7_missing zsX7_missing rfl rfl rfl rfl (Nat.le_of_ble_eq_true rfl) h (fun r11 m12 hr11 h => zV_ok (fun hm12 => ?_))
  replace h := h hr11 hm12
  refine zV_iconst (pc := 54) dX7_fallen_54 ?_
  refine zV_ixor (pc := 55) dX7_fallen_55 ?_
  refine zV_iand (pc := 56) dX7_fallen_56 ?_
  exact zV_iret (pc := 57) rfl dX7_fallen_57 (inR_zand _ _) h

set_option maxRecDepth 100000 in
set_option maxHeartbeats 4000000 in
theorem vc_X7_fewestChanges_0 {K : zCx} {d : Nat} (pl1 : Int) (m0 : zM) {Q : Int → zM → Prop} (hpl1 : zPl pl1) (h : zok m0 → zCt K (d + 7) mX4_copyFrom [rr K 67, rr K pl1] m0 (fun r1 m2 => inR r1 → zok m2 → zV K mX7_fewestChanges (d + 8) 10 [(0, rr K 64), (1, rr K pl1), (2, .int (iz 0))] [] m2 Q)) : zV K mX7_fewestChanges (d + 8) 0 [(0, rr K 64), (1, rr K pl1)] [] m0 Q := by
  refine zV_ok (fun hm0 => ?_)
  replace h := h hm0
  refine zV_aloadr_n (pc := 0) dX7_fewestChanges_0 rfl 0 rfl ?_
  refine zV_getR (pc := 1) (b := 67) dX7_fewestChanges_1 zfX7_28 rfl rfl rfl ?_
  refine zV_aloadr_n (pc := 4) dX7_fewestChanges_4 rfl 1 rfl ?_
  refine zV_callV (pc := 5) (mc := mX4_copyFrom) (As := [rr K pl1]) (rest := []) dX7_fewestChanges_5 zcX7_119 ziX4_copyFrom zsX4_copyFrom rfl rfl rfl rfl (Nat.le_of_ble_eq_true rfl) h (fun r1 m2 hr1 h => zV_ok (fun hm2 => ?_))
  replace h := h hr1 hm2
  refine zV_iconst (pc := 8) dX7_fewestChanges_8 ?_
  refine zV_istore_n (pc := 9) (loc' := [(2, .int (iz 0)), (0, rr K 64), (1, rr K pl1)]) dX7_fewestChanges_9 rfl (by decide) rfl ?_
  exact zV_sub [1, 2, 0] rfl h
set_option maxRecDepth 100000 in
set_option maxHeartbeats 4000000 in
theorem vc_X7_fewestChanges_10 {K : zCx} {d : Nat} (x2 : Int) (pl1 : Int) (m0 : zM) {Q : Int → zM → Prop} (hx2 : inR x2) (hpl1 : zPl pl1) (h : zok m0 → ((m0.1 pl1 8) < x2 → Q (-3) m0) ∧ (¬ ((m0.1 pl1 8) < x2) → zV K mX7_fewestChanges (d + 8) 20 [(0, rr K 64), (1, rr K pl1), (2, .int (iz x2)), (3, .int (iz 0))] [] m0 Q)) : zV K mX7_fewestChanges (d + 8) 10 [(0, rr K 64), (1, rr K pl1), (2, .int (iz x2))] [] m0 Q := by
  refine zV_ok (fun hm0 => ?_)
  replace h := h hm0
  refine zV_iload_n (pc := 10) dX7_fewestChanges_10 rfl 2 rfl ?_
  refine zV_aloadr_n (pc := 11) dX7_fewestChanges_11 rfl 1 rfl ?_
  refine zV_getI (pc := 12) (kz := 8) dX7_fewestChanges_12 zfX7_160 (zPl_s0 hpl1) rfl rfl ?_
  refine zV_icmp_gt (pc := 15) (tgt := 61) dX7_fewestChanges_15 (by decide) hx2 (hm0 _ _) (fun c1 => ?_) (fun c1 => ?_)
  · skip
    replace h := h.1 c1
    refine zV_bipush (pc := 61) dX7_fewestChanges_61 (by decide) ?_
    exact zV_iret (pc := 63) rfl dX7_fewestChanges_63 (inRd rfl) h
  · skip
    replace h := h.2 c1
    refine zV_iconst (pc := 18) dX7_fewestChanges_18 ?_
    refine zV_istore_n (pc := 19) (loc' := [(3, .int (iz 0)), (0, rr K 64), (1, rr K pl1), (2, .int (iz x2))]) dX7_fewestChanges_19 rfl (by decide) rfl ?_
    exact zV_sub [1, 2, 3, 0] rfl h
set_option maxRecDepth 100000 in
set_option maxHeartbeats 4000000 in
theorem vc_X7_fewestChanges_20 {K : zCx} {d : Nat} (x2 : Int) (x3 : Int) (pl1 : Int) (m0 : zM) {Q : Int → zM → Prop} (hx2 : inR x2) (hx3 : inR x3) (hpl1 : zPl pl1) (h : zok m0 → ((zshl 1 (m0.1 pl1 8)) ≤ x3 → zV K mX7_fewestChanges (d + 8) 10 [(0, rr K 64), (1, rr K pl1), (2, .int (iz (x2 + 1)))] [] m0 Q) ∧ (¬ ((zshl 1 (m0.1 pl1 8)) ≤ x3) → zCt K (d + 7) mJ6_bitCount_0f7a4 [.int (iz x3)] m0 (fun r2 m3 => inR r2 → zok m3 → (r2 = x2 → zCt K (d + 7) mX7_helps [rr K 64, rr K pl1, .int (iz x3)] m3 (fun r5 m6 => inR r5 → zok m6 → (r5 = 0 → zV K mX7_fewestChanges (d + 8) 20 [(0, rr K 64), (1, rr K pl1), (2, .int (iz x2)), (3, .int (iz (x3 + 1)))] [] m6 Q) ∧ (¬ (r5 = 0) → Q x3 m6))) ∧ (¬ (r2 = x2) → zV K mX7_fewestChanges (d + 8) 20 [(0, rr K 64), (1, rr K pl1), (2, .int (iz x2)), (3, .int (iz (x3 + 1)))] [] m3 Q)))) : zV K mX7_fewestChanges (d + 8) 20 [(0, rr K 64), (1, rr K pl1), (2, .int (iz x2)), (3, .int (iz x3))] [] m0 Q := by
  refine zV_ok (fun hm0 => ?_)
  replace h := h hm0
  refine zV_iload_n (pc := 20) dX7_fewestChanges_20 rfl 3 rfl ?_
  refine zV_iconst (pc := 21) dX7_fewestChanges_21 ?_
  refine zV_aloadr_n (pc := 22) dX7_fewestChanges_22 rfl 1 rfl ?_
  refine zV_getI (pc := 23) (kz := 8) dX7_fewestChanges_23 zfX7_160 (zPl_s0 hpl1) rfl rfl ?_
  refine zV_ishl (pc := 26) dX7_fewestChanges_26 ?_
  refine zV_icmp_ge (pc := 27) (tgt := 55) dX7_fewestChanges_27 (by decide) hx3 (inR_zshl _ _) (fun c1 => ?_) (fun c1 => ?_)
  · skip
    replace h := h.1 c1
    refine zV_iinc (pc := 55) (loc' := [(2, .int (iz (x2 + 1))), (0, rr K 64), (1, rr K pl1), (3, .int (iz x3))]) dX7_fewestChanges_55 2 rfl (by decide) rfl ?_
    refine zV_goto (pc := 58) (tgt := 10) dX7_fewestChanges_58 (by decide) ?_
    exact zV_sub [1, 2, 0] rfl h
  · skip
    replace h := h.2 c1
    refine zV_iload_n (pc := 30) dX7_fewestChanges_30 rfl 3 rfl ?_
    refine zV_callS (pc := 31) (mc := mJ6_bitCount_0f7a4) (As := [.int (iz x3)]) (rest := []) dX7_fewestChanges_31 zcX7_163 ztJ6_bitCount_0f7a4 rfl rfl (Nat.le_of_ble_eq_true rfl) h (fun r2 m3 hr2 h => zV_ok (fun hm3 => ?_))
    replace h := h hr2 hm3
    refine zV_iload_n (pc := 34) dX7_fewestChanges_34 rfl 2 rfl ?_
    refine zV_icmp_ne (pc := 35) (tgt := 49) dX7_fewestChanges_35 (by decide) hr2 hx2 (fun c4 => ?_) (fun c4 => ?_)
    · skip
      replace h := h.2 c4
      refine zV_iinc (pc := 49) (loc' := [(3, .int (iz (x3 + 1))), (0, rr K 64), (1, rr K pl1), (2, .int (iz x2))]) dX7_fewestChanges_49 3 rfl (by decide) rfl ?_
      refine zV_goto (pc := 52) (tgt := 20) dX7_fewestChanges_52 (by decide) ?_
      exact zV_sub [1, 2, 3, 0] rfl h
    · replace c4 := Classical.not_not.mp c4
      replace h := h.1 c4
      refine zV_aloadr_n (pc := 38) dX7_fewestChanges_38 rfl 0 rfl ?_
      refine zV_aloadr_n (pc := 39) dX7_fewestChanges_39 rfl 1 rfl ?_
      refine zV_iload_n (pc := 40) dX7_fewestChanges_40 rfl 3 rfl ?_
      refine zV_callV (pc := 41) (mc := mX7_helps) (As := [rr K pl1, .int (iz x3)]) (rest := []) dX7_fewestChanges_41 zcX7_168 ziX7_helps zsX7_helps rfl rfl rfl rfl (Nat.le_of_ble_eq_true rfl) h (fun r5 m6 hr5 h => zV_ok (fun hm6 => ?_))
      replace h := h hr5 hm6
      refine zV_if_eq (pc := 44) (tgt := 49) dX7_fewestChanges_44 (by decide) hr5 (fun c7 => ?_) (fun c7 => ?_)
      · skip
        replace h := h.1 c7
        refine zV_iinc (pc := 49) (loc' := [(3, .int (iz (x3 + 1))), (0, rr K 64), (1, rr K pl1), (2, .int (iz x2))]) dX7_fewestChanges_49 3 rfl (by decide) rfl ?_
        refine zV_goto (pc := 52) (tgt := 20) dX7_fewestChanges_52 (by decide) ?_
        exact zV_sub [1, 2, 3, 0] rfl h
      · skip
        replace h := h.2 c7
        refine zV_iload_n (pc := 47) dX7_fewestChanges_47 rfl 3 rfl ?_
        exact zV_iret (pc := 48) rfl dX7_fewestChanges_48 hx3 h

set_option maxRecDepth 100000 in
set_option maxHeartbeats 4000000 in
theorem vc_X7_helps_0 {K : zCx} {d : Nat} (pl1 : Int) (x2 : Int) (m0 : zM) {Q : Int → zM → Prop} (hpl1 : zPl pl1) (hx2 : inR x2) (h : zok m0 → zCt K (d + 6) mX4_copyParts [rr K 67, rr K pl1] m0 (fun r1 m2 => inR r1 → zok m2 → zV K mX7_helps (d + 7) 10 [(0, rr K 64), (1, rr K pl1), (2, .int (iz x2)), (3, .int (iz 0))] [] m2 Q)) : zV K mX7_helps (d + 7) 0 [(0, rr K 64), (1, rr K pl1), (2, .int (iz x2))] [] m0 Q := by
  refine zV_ok (fun hm0 => ?_)
  replace h := h hm0
  refine zV_aloadr_n (pc := 0) dX7_helps_0 rfl 0 rfl ?_
  refine zV_getR (pc := 1) (b := 67) dX7_helps_1 zfX7_28 rfl rfl rfl ?_
  refine zV_aloadr_n (pc := 4) dX7_helps_4 rfl 1 rfl ?_
  refine zV_callV (pc := 5) (mc := mX4_copyParts) (As := [rr K pl1]) (rest := []) dX7_helps_5 zcX7_172 ziX4_copyParts zsX4_copyParts rfl rfl rfl rfl (Nat.le_of_ble_eq_true rfl) h (fun r1 m2 hr1 h => zV_ok (fun hm2 => ?_))
  replace h := h hr1 hm2
  refine zV_iconst (pc := 8) dX7_helps_8 ?_
  refine zV_istore_n (pc := 9) (loc' := [(3, .int (iz 0)), (0, rr K 64), (1, rr K pl1), (2, .int (iz x2))]) dX7_helps_9 rfl (by decide) rfl ?_
  exact zV_sub [1, 2, 3, 0] rfl h
set_option maxRecDepth 100000 in
set_option maxHeartbeats 4000000 in
theorem vc_X7_helps_10 {K : zCx} {d : Nat} (x2 : Int) (x3 : Int) (pl1 : Int) (m0 : zM) {Q : Int → zM → Prop} (hx2 : inR x2) (hx3 : inR x3) (hpl1 : zPl pl1) (h : zok m0 → ((m0.1 pl1 8) ≤ x3 → zCt K (d + 6) mX7_allMet [rr K 64, rr K 67] m0 (fun r2 m3 => inR r2 → zok m3 → (r2 = 0 ∨ r2 = 1) ∧ (Q r2 m3))) ∧ (¬ ((m0.1 pl1 8) ≤ x3) → ((zand (zshr x2 x3) 1) = 0 → zV K mX7_helps (d + 7) 10 [(0, rr K 64), (1, rr K pl1), (2, .int (iz x2)), (3, .int (iz (x3 + 1)))] [] m0 Q) ∧ (¬ ((zand (zshr x2 x3) 1) = 0) → 0 ≤ x3 ∧ x3 < 6 ∧ (0 ≤ (m0.1 (pl1 + 3) x3) ∧ (m0.1 (pl1 + 3) x3) < 10 ∧ (zCt K (d + 6) mX3_suffer [rr K (76 + (m0.1 (pl1 + 3) x3)), .int (iz (m0.1 (pl1 + 4) x3))] m0 (fun r10 m11 => inR r10 → zok m11 → zV K mX7_helps (d + 7) 10 [(0, rr K 64), (1, rr K pl1), (2, .int (iz x2)), (3, .int (iz (x3 + 1)))] [] m11 Q)))))) : zV K mX7_helps (d + 7) 10 [(0, rr K 64), (1, rr K pl1), (2, .int (iz x2)), (3, .int (iz x3))] [] m0 Q := by
  refine zV_ok (fun hm0 => ?_)
  replace h := h hm0
  refine zV_iload_n (pc := 10) dX7_helps_10 rfl 3 rfl ?_
  refine zV_aloadr_n (pc := 11) dX7_helps_11 rfl 1 rfl ?_
  refine zV_getI (pc := 12) (kz := 8) dX7_helps_12 zfX7_160 (zPl_s0 hpl1) rfl rfl ?_
  refine zV_icmp_ge (pc := 15) (tgt := 55) dX7_helps_15 (by decide) hx3 (hm0 _ _) (fun c1 => ?_) (fun c1 => ?_)
  · skip
    replace h := h.1 c1
    refine zV_aloadr_n (pc := 55) dX7_helps_55 rfl 0 rfl ?_
    refine zV_aloadr_n (pc := 56) dX7_helps_56 rfl 0 rfl ?_
    refine zV_getR (pc := 57) (b := 67) dX7_helps_57 zfX7_28 rfl rfl rfl ?_
    refine zV_callV (pc := 60) (mc := mX7_allMet) (As := [rr K 67]) (rest := []) dX7_helps_60 zcX7_134 ziX7_allMet zsX7_allMet rfl rfl rfl rfl (Nat.le_of_ble_eq_true rfl) h (fun r2 m3 hr2 h => zV_ok (fun hm3 => ?_))
    replace h := h hr2 hm3
    obtain ⟨o4, h⟩ := h
    exact zV_zret (pc := 63) rfl dX7_helps_63 o4 h
  · skip
    replace h := h.2 c1
    refine zV_iload_n (pc := 18) dX7_helps_18 rfl 2 rfl ?_
    refine zV_iload_n (pc := 19) dX7_helps_19 rfl 3 rfl ?_
    refine zV_ishr (pc := 20) dX7_helps_20 ?_
    refine zV_iconst (pc := 21) dX7_helps_21 ?_
    refine zV_iand (pc := 22) dX7_helps_22 ?_
    refine zV_if_eq (pc := 23) (tgt := 49) dX7_helps_23 (by decide) (inR_zand _ _) (fun c5 => ?_) (fun c5 => ?_)
    · skip
      replace h := h.1 c5
      refine zV_iinc (pc := 49) (loc' := [(3, .int (iz (x3 + 1))), (0, rr K 64), (1, rr K pl1), (2, .int (iz x2))]) dX7_helps_49 3 rfl (by decide) rfl ?_
      refine zV_goto (pc := 52) (tgt := 10) dX7_helps_52 (by decide) ?_
      exact zV_sub [1, 2, 3, 0] rfl h
    · skip
      replace h := h.2 c5
      refine zV_aloadr_n (pc := 26) dX7_helps_26 rfl 0 rfl ?_
      refine zV_getR (pc := 27) (b := 67) dX7_helps_27 zfX7_28 rfl rfl rfl ?_
      refine zV_getR (pc := 30) (b := 68) dX7_helps_30 zfX7_105 rfl rfl rfl ?_
      refine zV_aloadr_n (pc := 33) dX7_helps_33 rfl 1 rfl ?_
      refine zV_getR (pc := 34) dX7_helps_34 zfX7_175 (zPl_s0 hpl1) rfl (zPl_r2 hpl1) ?_
      refine zV_iload_n (pc := 37) dX7_helps_37 rfl 3 rfl ?_
      obtain ⟨o6, o7, h⟩ := h
      refine zV_iald (pc := 38) dX7_helps_38 (zPl_s3 hpl1) o6 o7 (inR_ix o6 o7 rfl) ?_
      obtain ⟨o8, o9, h⟩ := h
      refine zV_aald (pc := 39) dX7_helps_39 rfl o8 o9 (inR_ix o8 o9 rfl) (zPn67_p o8 o9) ?_
      refine zV_aloadr_n (pc := 40) dX7_helps_40 rfl 1 rfl ?_
      refine zV_getR (pc := 41) dX7_helps_41 zfX7_178 (zPl_s0 hpl1) rfl (zPl_r3 hpl1) ?_
      refine zV_iload_n (pc := 44) dX7_helps_44 rfl 3 rfl ?_
      refine zV_iald (pc := 45) dX7_helps_45 (zPl_s4 hpl1) o6 o7 (inR_ix o6 o7 rfl) ?_
      refine zV_callV (pc := 46) (mc := mX3_suffer) (As := [.int (iz (m0.1 (pl1 + 4) x3))]) (rest := []) dX7_helps_46 zcX7_181 ziX3_suffer zsX3_suffer (zPn67_s o8 o9) rfl rfl rfl (Nat.le_of_ble_eq_true rfl) h (fun r10 m11 hr10 h => zV_ok (fun hm11 => ?_))
      replace h := h hr10 hm11
      refine zV_iinc (pc := 49) (loc' := [(3, .int (iz (x3 + 1))), (0, rr K 64), (1, rr K pl1), (2, .int (iz x2))]) dX7_helps_49 3 rfl (by decide) rfl ?_
      refine zV_goto (pc := 52) (tgt := 10) dX7_helps_52 (by decide) ?_
      exact zV_sub [1, 2, 3, 0] rfl h

set_option maxRecDepth 100000 in
set_option maxHeartbeats 4000000 in
theorem vc_X7_suspects_0 {K : zCx} {d : Nat} (pl1 : Int) (m0 : zM) {Q : Int → zM → Prop} (hpl1 : zPl pl1) (h : zok m0 → zCt K (d + 6) mX4_copyFrom [rr K 67, rr K pl1] m0 (fun r1 m2 => inR r1 → zok m2 → zCt K (d + 6) mX7_isAsMeasured [rr K 64] m2 (fun r3 m4 => inR r3 → zok m4 → (r3 = 0 → zV K mX7_suspects (d + 7) 19 [(0, rr K 64), (1, rr K pl1), (2, .int (iz 0))] [] m4 Q) ∧ (¬ (r3 = 0) → Q 0 m4)))) : zV K mX7_suspects (d + 7) 0 [(0, rr K 64), (1, rr K pl1)] [] m0 Q := by
  refine zV_ok (fun hm0 => ?_)
  replace h := h hm0
  refine zV_aloadr_n (pc := 0) dX7_suspects_0 rfl 0 rfl ?_
  refine zV_getR (pc := 1) (b := 67) dX7_suspects_1 zfX7_28 rfl rfl rfl ?_
  refine zV_aloadr_n (pc := 4) dX7_suspects_4 rfl 1 rfl ?_
  refine zV_callV (pc := 5) (mc := mX4_copyFrom) (As := [rr K pl1]) (rest := []) dX7_suspects_5 zcX7_119 ziX4_copyFrom zsX4_copyFrom rfl rfl rfl rfl (Nat.le_of_ble_eq_true rfl) h (fun r1 m2 hr1 h => zV_ok (fun hm2 => ?_))
  replace h := h hr1 hm2
  refine zV_aloadr_n (pc := 8) dX7_suspects_8 rfl 0 rfl ?_
  refine zV_callV (pc := 9) (mc := mX7_isAsMeasured) (As := []) (rest := []) dX7_suspects_9 zcX7_184 ziX7_isAsMeasured zsX7_isAsMeasured rfl rfl rfl rfl (Nat.le_of_ble_eq_true rfl) h (fun r3 m4 hr3 h => zV_ok (fun hm4 => ?_))
  replace h := h hr3 hm4
  refine zV_if_eq (pc := 12) (tgt := 17) dX7_suspects_12 (by decide) hr3 (fun c5 => ?_) (fun c5 => ?_)
  · skip
    replace h := h.1 c5
    refine zV_iconst (pc := 17) dX7_suspects_17 ?_
    refine zV_istore_n (pc := 18) (loc' := [(2, .int (iz 0)), (0, rr K 64), (1, rr K pl1)]) dX7_suspects_18 rfl (by decide) rfl ?_
    exact zV_sub [1, 2, 0] rfl h
  · skip
    replace h := h.2 c5
    refine zV_iconst (pc := 15) dX7_suspects_15 ?_
    exact zV_iret (pc := 16) rfl dX7_suspects_16 (inRd rfl) h
set_option maxRecDepth 100000 in
set_option maxHeartbeats 4000000 in
theorem vc_X7_suspects_19 {K : zCx} {d : Nat} (x2 : Int) (pl1 : Int) (m0 : zM) {Q : Int → zM → Prop} (hx2 : inR x2) (hpl1 : zPl pl1) (h : zok m0 → ((m0.1 pl1 6) ≤ x2 → zV K mX7_suspects (d + 7) 48 [(0, rr K 64), (1, rr K pl1), (2, .int (iz 1))] [] m0 Q) ∧ (¬ ((m0.1 pl1 6) ≤ x2) → zCt K (d + 6) mX7_someSizeFits [rr K 64, rr K pl1, .int (iz x2)] m0 (fun r2 m3 => inR r2 → zok m3 → (r2 = 0 → zV K mX7_suspects (d + 7) 19 [(0, rr K 64), (1, rr K pl1), (2, .int (iz (x2 + 1)))] [] m3 Q) ∧ (¬ (r2 = 0) → Q (zshl 1 x2) m3)))) : zV K mX7_suspects (d + 7) 19 [(0, rr K 64), (1, rr K pl1), (2, .int (iz x2))] [] m0 Q := by
  refine zV_ok (fun hm0 => ?_)
  replace h := h hm0
  refine zV_iload_n (pc := 19) dX7_suspects_19 rfl 2 rfl ?_
  refine zV_aloadr_n (pc := 20) dX7_suspects_20 rfl 1 rfl ?_
  refine zV_getI (pc := 21) (kz := 6) dX7_suspects_21 zfX7_102 (zPl_s0 hpl1) rfl rfl ?_
  refine zV_icmp_ge (pc := 24) (tgt := 46) dX7_suspects_24 (by decide) hx2 (hm0 _ _) (fun c1 => ?_) (fun c1 => ?_)
  · skip
    replace h := h.1 c1
    refine zV_iconst (pc := 46) dX7_suspects_46 ?_
    refine zV_istore_n (pc := 47) (loc' := [(2, .int (iz 1)), (0, rr K 64), (1, rr K pl1)]) dX7_suspects_47 rfl (by decide) rfl ?_
    exact zV_sub [1, 2, 0] rfl h
  · skip
    replace h := h.2 c1
    refine zV_aloadr_n (pc := 27) dX7_suspects_27 rfl 0 rfl ?_
    refine zV_aloadr_n (pc := 28) dX7_suspects_28 rfl 1 rfl ?_
    refine zV_iload_n (pc := 29) dX7_suspects_29 rfl 2 rfl ?_
    refine zV_callV (pc := 30) (mc := mX7_someSizeFits) (As := [rr K pl1, .int (iz x2)]) (rest := []) dX7_suspects_30 zcX7_187 ziX7_someSizeFits zsX7_someSizeFits rfl rfl rfl rfl (Nat.le_of_ble_eq_true rfl) h (fun r2 m3 hr2 h => zV_ok (fun hm3 => ?_))
    replace h := h hr2 hm3
    refine zV_if_eq (pc := 33) (tgt := 40) dX7_suspects_33 (by decide) hr2 (fun c4 => ?_) (fun c4 => ?_)
    · skip
      replace h := h.1 c4
      refine zV_iinc (pc := 40) (loc' := [(2, .int (iz (x2 + 1))), (0, rr K 64), (1, rr K pl1)]) dX7_suspects_40 2 rfl (by decide) rfl ?_
      refine zV_goto (pc := 43) (tgt := 19) dX7_suspects_43 (by decide) ?_
      exact zV_sub [1, 2, 0] rfl h
    · skip
      replace h := h.2 c4
      refine zV_iconst (pc := 36) dX7_suspects_36 ?_
      refine zV_iload_n (pc := 37) dX7_suspects_37 rfl 2 rfl ?_
      refine zV_ishl (pc := 38) dX7_suspects_38 ?_
      exact zV_iret (pc := 39) rfl dX7_suspects_39 (inR_zshl _ _) h
set_option maxRecDepth 100000 in
set_option maxHeartbeats 4000000 in
theorem vc_X7_suspects_48 {K : zCx} {d : Nat} (x2 : Int) (pl1 : Int) (m0 : zM) {Q : Int → zM → Prop} (hx2 : inR x2) (hpl1 : zPl pl1) (h : zok m0 → ((m0.1 pl1 6) ≤ x2 → Q (-3) m0) ∧ (¬ ((m0.1 pl1 6) ≤ x2) → zV K mX7_suspects (d + 7) 58 [(0, rr K 64), (1, rr K pl1), (2, .int (iz x2)), (3, .int (iz 0))] [] m0 Q)) : zV K mX7_suspects (d + 7) 48 [(0, rr K 64), (1, rr K pl1), (2, .int (iz x2))] [] m0 Q := by
  refine zV_ok (fun hm0 => ?_)
  replace h := h hm0
  refine zV_iload_n (pc := 48) dX7_suspects_48 rfl 2 rfl ?_
  refine zV_aloadr_n (pc := 49) dX7_suspects_49 rfl 1 rfl ?_
  refine zV_getI (pc := 50) (kz := 6) dX7_suspects_50 zfX7_102 (zPl_s0 hpl1) rfl rfl ?_
  refine zV_icmp_ge (pc := 53) (tgt := 160) dX7_suspects_53 (by decide) hx2 (hm0 _ _) (fun c1 => ?_) (fun c1 => ?_)
  · skip
    replace h := h.1 c1
    refine zV_bipush (pc := 160) dX7_suspects_160 (by decide) ?_
    exact zV_iret (pc := 162) rfl dX7_suspects_162 (inRd rfl) h
  · skip
    replace h := h.2 c1
    refine zV_iconst (pc := 56) dX7_suspects_56 ?_
    refine zV_istore_n (pc := 57) (loc' := [(3, .int (iz 0)), (0, rr K 64), (1, rr K pl1), (2, .int (iz x2))]) dX7_suspects_57 rfl (by decide) rfl ?_
    exact zV_sub [1, 2, 3, 0] rfl h
set_option maxRecDepth 100000 in
set_option maxHeartbeats 4000000 in
theorem vc_X7_suspects_58 {K : zCx} {d : Nat} (x2 : Int) (x3 : Int) (pl1 : Int) (m0 : zM) {Q : Int → zM → Prop} (hx2 : inR x2) (hx3 : inR x3) (hpl1 : zPl pl1) (h : zok m0 → (x2 ≤ x3 → zV K mX7_suspects (d + 7) 48 [(0, rr K 64), (1, rr K pl1), (2, .int (iz (x2 + 1)))] [] m0 Q) ∧ (¬ (x2 ≤ x3) → zV K mX7_suspects (d + 7) 66 [(0, rr K 64), (1, rr K pl1), (2, .int (iz x2)), (3, .int (iz x3)), (4, .int (iz 1))] [] m0 Q)) : zV K mX7_suspects (d + 7) 58 [(0, rr K 64), (1, rr K pl1), (2, .int (iz x2)), (3, .int (iz x3))] [] m0 Q := by
  refine zV_ok (fun hm0 => ?_)
  replace h := h hm0
  refine zV_iload_n (pc := 58) dX7_suspects_58 rfl 3 rfl ?_
  refine zV_iload_n (pc := 59) dX7_suspects_59 rfl 2 rfl ?_
  refine zV_icmp_ge (pc := 60) (tgt := 154) dX7_suspects_60 (by decide) hx3 hx2 (fun c1 => ?_) (fun c1 => ?_)
  · skip
    replace h := h.1 c1
    refine zV_iinc (pc := 154) (loc' := [(2, .int (iz (x2 + 1))), (0, rr K 64), (1, rr K pl1), (3, .int (iz x3))]) dX7_suspects_154 2 rfl (by decide) rfl ?_
    refine zV_goto (pc := 157) (tgt := 48) dX7_suspects_157 (by decide) ?_
    exact zV_sub [1, 2, 0] rfl h
  · skip
    replace h := h.2 c1
    refine zV_iconst (pc := 63) dX7_suspects_63 ?_
    refine zV_istore (pc := 64) (loc' := [(4, .int (iz 1)), (0, rr K 64), (1, rr K pl1), (2, .int (iz x2)), (3, .int (iz x3))]) dX7_suspects_64 (by decide) rfl ?_
    exact zV_sub [1, 2, 3, 4, 0] rfl h
set_option maxRecDepth 100000 in
set_option maxHeartbeats 4000000 in
theorem vc_X7_suspects_66 {K : zCx} {d : Nat} (x2 : Int) (x3 : Int) (x4 : Int) (pl1 : Int) (m0 : zM) {Q : Int → zM → Prop} (hx2 : inR x2) (hx3 : inR x3) (hx4 : inR x4) (hpl1 : zPl pl1) (h : zok m0 → (9 < x4 → 0 ≤ x3 ∧ x3 < 10 ∧ (∀ m4 : zM, m4 = sI m0 (76 + x3) 3 (m0.1 (pl1 + 9 + x3) 3) → zok m4 → (zV K mX7_suspects (d + 7) 58 [(0, rr K 64), (1, rr K pl1), (2, .int (iz x2)), (3, .int (iz (x3 + 1)))] [] m4 Q))) ∧ (¬ (9 < x4) → 0 ≤ x3 ∧ x3 < 10 ∧ ((x4 = (m0.1 (pl1 + 9 + x3) 3) → zV K mX7_suspects (d + 7) 66 [(0, rr K 64), (1, rr K pl1), (2, .int (iz x2)), (3, .int (iz x3)), (4, .int (iz (x4 + 1)))] [] m0 Q) ∧ (¬ (x4 = (m0.1 (pl1 + 9 + x3) 3)) → ∀ m9 : zM, m9 = sI m0 (76 + x3) 3 x4 → zok m9 → (zCt K (d + 6) mX7_someSizeFits [rr K 64, rr K pl1, .int (iz x2)] m9 (fun r11 m12 => inR r11 → zok m12 → (r11 = 0 → zV K mX7_suspects (d + 7) 66 [(0, rr K 64), (1, rr K pl1), (2, .int (iz x2)), (3, .int (iz x3)), (4, .int (iz (x4 + 1)))] [] m12 Q) ∧ (¬ (r11 = 0) → Q (zor (zshl 1 x3) (zshl 1 x2)) m12))))))) : zV K mX7_suspects (d + 7) 66 [(0, rr K 64), (1, rr K pl1), (2, .int (iz x2)), (3, .int (iz x3)), (4, .int (iz x4))] [] m0 Q := by
  refine zV_ok (fun hm0 => ?_)
  replace h := h hm0
  refine zV_iload (pc := 66) dX7_suspects_66 4 rfl ?_
  refine zV_bipush (pc := 68) dX7_suspects_68 (by decide) ?_
  refine zV_icmp_gt (pc := 70) (tgt := 127) dX7_suspects_70 (by decide) hx4 (inRd rfl) (fun c1 => ?_) (fun c1 => ?_)
  · skip
    replace h := h.1 c1
    refine zV_aloadr_n (pc := 127) dX7_suspects_127 rfl 0 rfl ?_
    refine zV_getR (pc := 128) (b := 67) dX7_suspects_128 zfX7_28 rfl rfl rfl ?_
    refine zV_getR (pc := 131) (b := 68) dX7_suspects_131 zfX7_105 rfl rfl rfl ?_
    refine zV_iload_n (pc := 134) dX7_suspects_134 rfl 3 rfl ?_
    obtain ⟨o2, o3, h⟩ := h
    refine zV_aald (pc := 135) dX7_suspects_135 rfl o2 o3 (inR_ix o2 o3 rfl) (zPn67_p o2 o3) ?_
    refine zV_aloadr_n (pc := 136) dX7_suspects_136 rfl 1 rfl ?_
    refine zV_getR (pc := 137) dX7_suspects_137 zfX7_105 (zPl_s0 hpl1) rfl (zPl_r0 hpl1) ?_
    refine zV_iload_n (pc := 140) dX7_suspects_140 rfl 3 rfl ?_
    refine zV_aald (pc := 141) dX7_suspects_141 (zPl_s1 hpl1) o2 o3 (inR_ix o2 o3 rfl) (zPl_p hpl1 o2 o3) ?_
    refine zV_getI (pc := 142) (kz := 3) dX7_suspects_142 zfX7_131 (zPl_sp hpl1 o2 o3) rfl rfl ?_
    refine zV_putI (pc := 145) (kz := 3) dX7_suspects_145 zpX7_131 (zPn67_s o2 o3) rfl rfl (hm0 _ _) rfl rfl ?_
    refine zV_mem (fun m4 e5 => zV_ok (fun hm4 => ?_))
    replace h := h m4 e5 hm4
    refine zV_iinc (pc := 148) (loc' := [(3, .int (iz (x3 + 1))), (0, rr K 64), (1, rr K pl1), (2, .int (iz x2)), (4, .int (iz x4))]) dX7_suspects_148 3 rfl (by decide) rfl ?_
    refine zV_goto (pc := 151) (tgt := 58) dX7_suspects_151 (by decide) ?_
    exact zV_sub [1, 2, 3, 0] rfl h
  · skip
    replace h := h.2 c1
    refine zV_iload (pc := 73) dX7_suspects_73 4 rfl ?_
    refine zV_aloadr_n (pc := 75) dX7_suspects_75 rfl 1 rfl ?_
    refine zV_getR (pc := 76) dX7_suspects_76 zfX7_105 (zPl_s0 hpl1) rfl (zPl_r0 hpl1) ?_
    refine zV_iload_n (pc := 79) dX7_suspects_79 rfl 3 rfl ?_
    obtain ⟨o6, o7, h⟩ := h
    refine zV_aald (pc := 80) dX7_suspects_80 (zPl_s1 hpl1) o6 o7 (inR_ix o6 o7 rfl) (zPl_p hpl1 o6 o7) ?_
    refine zV_getI (pc := 81) (kz := 3) dX7_suspects_81 zfX7_131 (zPl_sp hpl1 o6 o7) rfl rfl ?_
    refine zV_icmp_ne (pc := 84) (tgt := 90) dX7_suspects_84 (by decide) hx4 (hm0 _ _) (fun c8 => ?_) (fun c8 => ?_)
    · skip
      replace h := h.2 c8
      refine zV_aloadr_n (pc := 90) dX7_suspects_90 rfl 0 rfl ?_
      refine zV_getR (pc := 91) (b := 67) dX7_suspects_91 zfX7_28 rfl rfl rfl ?_
      refine zV_getR (pc := 94) (b := 68) dX7_suspects_94 zfX7_105 rfl rfl rfl ?_
      refine zV_iload_n (pc := 97) dX7_suspects_97 rfl 3 rfl ?_
      refine zV_aald (pc := 98) dX7_suspects_98 rfl o6 o7 (inR_ix o6 o7 rfl) (zPn67_p o6 o7) ?_
      refine zV_iload (pc := 99) dX7_suspects_99 4 rfl ?_
      refine zV_putI (pc := 101) (kz := 3) dX7_suspects_101 zpX7_131 (zPn67_s o6 o7) rfl rfl hx4 rfl rfl ?_
      refine zV_mem (fun m9 e10 => zV_ok (fun hm9 => ?_))
      replace h := h m9 e10 hm9
      refine zV_aloadr_n (pc := 104) dX7_suspects_104 rfl 0 rfl ?_
      refine zV_aloadr_n (pc := 105) dX7_suspects_105 rfl 1 rfl ?_
      refine zV_iload_n (pc := 106) dX7_suspects_106 rfl 2 rfl ?_
      refine zV_callV (pc := 107) (mc := mX7_someSizeFits) (As := [rr K pl1, .int (iz x2)]) (rest := []) dX7_suspects_107 zcX7_187 ziX7_someSizeFits zsX7_someSizeFits rfl rfl rfl rfl (Nat.le_of_ble_eq_true rfl) h (fun r11 m12 hr11 h => zV_ok (fun hm12 => ?_))
      replace h := h hr11 hm12
      refine zV_if_eq (pc := 110) (tgt := 121) dX7_suspects_110 (by decide) hr11 (fun c13 => ?_) (fun c13 => ?_)
      · skip
        replace h := h.1 c13
        refine zV_iinc (pc := 121) (loc' := [(4, .int (iz (x4 + 1))), (0, rr K 64), (1, rr K pl1), (2, .int (iz x2)), (3, .int (iz x3))]) dX7_suspects_121 4 rfl (by decide) rfl ?_
        refine zV_goto (pc := 124) (tgt := 66) dX7_suspects_124 (by decide) ?_
        exact zV_sub [1, 2, 3, 4, 0] rfl h
      · skip
        replace h := h.2 c13
        refine zV_iconst (pc := 113) dX7_suspects_113 ?_
        refine zV_iload_n (pc := 114) dX7_suspects_114 rfl 3 rfl ?_
        refine zV_ishl (pc := 115) dX7_suspects_115 ?_
        refine zV_iconst (pc := 116) dX7_suspects_116 ?_
        refine zV_iload_n (pc := 117) dX7_suspects_117 rfl 2 rfl ?_
        refine zV_ishl (pc := 118) dX7_suspects_118 ?_
        refine zV_ior (pc := 119) dX7_suspects_119 ?_
        exact zV_iret (pc := 120) rfl dX7_suspects_120 (inR_zor _ _) h
    · replace c8 := Classical.not_not.mp c8
      replace h := h.1 c8
      refine zV_goto (pc := 87) (tgt := 121) dX7_suspects_87 (by decide) ?_
      refine zV_iinc (pc := 121) (loc' := [(4, .int (iz (x4 + 1))), (0, rr K 64), (1, rr K pl1), (2, .int (iz x2)), (3, .int (iz x3))]) dX7_suspects_121 4 rfl (by decide) rfl ?_
      refine zV_goto (pc := 124) (tgt := 66) dX7_suspects_124 (by decide) ?_
      exact zV_sub [1, 2, 3, 4, 0] rfl h

set_option maxRecDepth 100000 in
set_option maxHeartbeats 4000000 in
theorem vc_X7_someSizeFits_0 {K : zCx} {d : Nat} (pl1 : Int) (x2 : Int) (m0 : zM) {Q : Int → zM → Prop} (hpl1 : zPl pl1) (hx2 : inR x2) (h : zok m0 → zV K mX7_someSizeFits (d + 6) 5 [(0, rr K 64), (1, rr K pl1), (2, .int (iz x2)), (3, .int (iz 0)), (4, .int (iz 1))] [] m0 Q) : zV K mX7_someSizeFits (d + 6) 0 [(0, rr K 64), (1, rr K pl1), (2, .int (iz x2))] [] m0 Q := by
  refine zV_ok (fun hm0 => ?_)
  replace h := h hm0
  refine zV_iconst (pc := 0) dX7_someSizeFits_0 ?_
  refine zV_istore_n (pc := 1) (loc' := [(3, .int (iz 0)), (0, rr K 64), (1, rr K pl1), (2, .int (iz x2))]) dX7_someSizeFits_1 rfl (by decide) rfl ?_
  refine zV_iconst (pc := 2) dX7_someSizeFits_2 ?_
  refine zV_istore (pc := 3) (loc' := [(4, .int (iz 1)), (3, .int (iz 0)), (0, rr K 64), (1, rr K pl1), (2, .int (iz x2))]) dX7_someSizeFits_3 (by decide) rfl ?_
  exact zV_sub [2, 3, 4, 1, 0] rfl h
set_option maxRecDepth 100000 in
set_option maxHeartbeats 4000000 in
theorem vc_X7_someSizeFits_5 {K : zCx} {d : Nat} (x2 : Int) (x3 : Int) (x4 : Int) (pl1 : Int) (m0 : zM) {Q : Int → zM → Prop} (hx2 : inR x2) (hx3 : inR x3) (hx4 : inR x4) (hpl1 : zPl pl1) (h : zok m0 → (9 < x4 → 0 ≤ x2 ∧ x2 < 10 ∧ (∀ m4 : zM, m4 = sI m0 (76 + x2) 3 (m0.1 (pl1 + 9 + x2) 3) → zok m4 → ((x3 = 0 ∨ x3 = 1) ∧ (Q x3 m4)))) ∧ (¬ (9 < x4) → (x3 = 0 → 0 ≤ x2 ∧ x2 < 10 ∧ ((x4 = (m0.1 (pl1 + 9 + x2) 3) → zV K mX7_someSizeFits (d + 6) 5 [(0, rr K 64), (1, rr K pl1), (2, .int (iz x2)), (3, .int (iz x3)), (4, .int (iz (x4 + 1)))] [] m0 Q) ∧ (¬ (x4 = (m0.1 (pl1 + 9 + x2) 3)) → ∀ m16 : zM, m16 = sI m0 (76 + x2) 3 x4 → zok m16 → (zCt K (d + 5) mX7_isAsMeasured [rr K 64] m16 (fun r18 m19 => inR r18 → zok m19 → zV K mX7_someSizeFits (d + 6) 5 [(0, rr K 64), (1, rr K pl1), (2, .int (iz x2)), (3, .int (iz r18)), (4, .int (iz (x4 + 1)))] [] m19 Q))))) ∧ (¬ (x3 = 0) → 0 ≤ x2 ∧ x2 < 10 ∧ (∀ m10 : zM, m10 = sI m0 (76 + x2) 3 (m0.1 (pl1 + 9 + x2) 3) → zok m10 → ((x3 = 0 ∨ x3 = 1) ∧ (Q x3 m10)))))) : zV K mX7_someSizeFits (d + 6) 5 [(0, rr K 64), (1, rr K pl1), (2, .int (iz x2)), (3, .int (iz x3)), (4, .int (iz x4))] [] m0 Q := by
  refine zV_ok (fun hm0 => ?_)
  replace h := h hm0
  refine zV_iload (pc := 5) dX7_someSizeFits_5 4 rfl ?_
  refine zV_bipush (pc := 7) dX7_someSizeFits_7 (by decide) ?_
  refine zV_icmp_gt (pc := 9) (tgt := 58) dX7_someSizeFits_9 (by decide) hx4 (inRd rfl) (fun c1 => ?_) (fun c1 => ?_)
  · skip
    replace h := h.1 c1
    refine zV_aloadr_n (pc := 58) dX7_someSizeFits_58 rfl 0 rfl ?_
    refine zV_getR (pc := 59) (b := 67) dX7_someSizeFits_59 zfX7_28 rfl rfl rfl ?_
    refine zV_getR (pc := 62) (b := 68) dX7_someSizeFits_62 zfX7_105 rfl rfl rfl ?_
    refine zV_iload_n (pc := 65) dX7_someSizeFits_65 rfl 2 rfl ?_
    obtain ⟨o2, o3, h⟩ := h
    refine zV_aald (pc := 66) dX7_someSizeFits_66 rfl o2 o3 (inR_ix o2 o3 rfl) (zPn67_p o2 o3) ?_
    refine zV_aloadr_n (pc := 67) dX7_someSizeFits_67 rfl 1 rfl ?_
    refine zV_getR (pc := 68) dX7_someSizeFits_68 zfX7_105 (zPl_s0 hpl1) rfl (zPl_r0 hpl1) ?_
    refine zV_iload_n (pc := 71) dX7_someSizeFits_71 rfl 2 rfl ?_
    refine zV_aald (pc := 72) dX7_someSizeFits_72 (zPl_s1 hpl1) o2 o3 (inR_ix o2 o3 rfl) (zPl_p hpl1 o2 o3) ?_
    refine zV_getI (pc := 73) (kz := 3) dX7_someSizeFits_73 zfX7_131 (zPl_sp hpl1 o2 o3) rfl rfl ?_
    refine zV_putI (pc := 76) (kz := 3) dX7_someSizeFits_76 zpX7_131 (zPn67_s o2 o3) rfl rfl (hm0 _ _) rfl rfl ?_
    refine zV_mem (fun m4 e5 => zV_ok (fun hm4 => ?_))
    replace h := h m4 e5 hm4
    refine zV_iload_n (pc := 79) dX7_someSizeFits_79 rfl 3 rfl ?_
    obtain ⟨o6, h⟩ := h
    exact zV_zret (pc := 80) rfl dX7_someSizeFits_80 o6 h
  · skip
    replace h := h.2 c1
    refine zV_iload_n (pc := 12) dX7_someSizeFits_12 rfl 3 rfl ?_
    refine zV_if_ne (pc := 13) (tgt := 58) dX7_someSizeFits_13 (by decide) hx3 (fun c7 => ?_) (fun c7 => ?_)
    · skip
      replace h := h.2 c7
      refine zV_aloadr_n (pc := 58) dX7_someSizeFits_58 rfl 0 rfl ?_
      refine zV_getR (pc := 59) (b := 67) dX7_someSizeFits_59 zfX7_28 rfl rfl rfl ?_
      refine zV_getR (pc := 62) (b := 68) dX7_someSizeFits_62 zfX7_105 rfl rfl rfl ?_
      refine zV_iload_n (pc := 65) dX7_someSizeFits_65 rfl 2 rfl ?_
      obtain ⟨o8, o9, h⟩ := h
      refine zV_aald (pc := 66) dX7_someSizeFits_66 rfl o8 o9 (inR_ix o8 o9 rfl) (zPn67_p o8 o9) ?_
      refine zV_aloadr_n (pc := 67) dX7_someSizeFits_67 rfl 1 rfl ?_
      refine zV_getR (pc := 68) dX7_someSizeFits_68 zfX7_105 (zPl_s0 hpl1) rfl (zPl_r0 hpl1) ?_
      refine zV_iload_n (pc := 71) dX7_someSizeFits_71 rfl 2 rfl ?_
      refine zV_aald (pc := 72) dX7_someSizeFits_72 (zPl_s1 hpl1) o8 o9 (inR_ix o8 o9 rfl) (zPl_p hpl1 o8 o9) ?_
      refine zV_getI (pc := 73) (kz := 3) dX7_someSizeFits_73 zfX7_131 (zPl_sp hpl1 o8 o9) rfl rfl ?_
      refine zV_putI (pc := 76) (kz := 3) dX7_someSizeFits_76 zpX7_131 (zPn67_s o8 o9) rfl rfl (hm0 _ _) rfl rfl ?_
      refine zV_mem (fun m10 e11 => zV_ok (fun hm10 => ?_))
      replace h := h m10 e11 hm10
      refine zV_iload_n (pc := 79) dX7_someSizeFits_79 rfl 3 rfl ?_
      obtain ⟨o12, h⟩ := h
      exact zV_zret (pc := 80) rfl dX7_someSizeFits_80 o12 h
    · replace c7 := Classical.not_not.mp c7
      replace h := h.1 c7
      refine zV_iload (pc := 16) dX7_someSizeFits_16 4 rfl ?_
      refine zV_aloadr_n (pc := 18) dX7_someSizeFits_18 rfl 1 rfl ?_
      refine zV_getR (pc := 19) dX7_someSizeFits_19 zfX7_105 (zPl_s0 hpl1) rfl (zPl_r0 hpl1) ?_
      refine zV_iload_n (pc := 22) dX7_someSizeFits_22 rfl 2 rfl ?_
      obtain ⟨o13, o14, h⟩ := h
      refine zV_aald (pc := 23) dX7_someSizeFits_23 (zPl_s1 hpl1) o13 o14 (inR_ix o13 o14 rfl) (zPl_p hpl1 o13 o14) ?_
      refine zV_getI (pc := 24) (kz := 3) dX7_someSizeFits_24 zfX7_131 (zPl_sp hpl1 o13 o14) rfl rfl ?_
      refine zV_icmp_ne (pc := 27) (tgt := 33) dX7_someSizeFits_27 (by decide) hx4 (hm0 _ _) (fun c15 => ?_) (fun c15 => ?_)
      · skip
        replace h := h.2 c15
        refine zV_aloadr_n (pc := 33) dX7_someSizeFits_33 rfl 0 rfl ?_
        refine zV_getR (pc := 34) (b := 67) dX7_someSizeFits_34 zfX7_28 rfl rfl rfl ?_
        refine zV_getR (pc := 37) (b := 68) dX7_someSizeFits_37 zfX7_105 rfl rfl rfl ?_
        refine zV_iload_n (pc := 40) dX7_someSizeFits_40 rfl 2 rfl ?_
        refine zV_aald (pc := 41) dX7_someSizeFits_41 rfl o13 o14 (inR_ix o13 o14 rfl) (zPn67_p o13 o14) ?_
        refine zV_iload (pc := 42) dX7_someSizeFits_42 4 rfl ?_
        refine zV_putI (pc := 44) (kz := 3) dX7_someSizeFits_44 zpX7_131 (zPn67_s o13 o14) rfl rfl hx4 rfl rfl ?_
        refine zV_mem (fun m16 e17 => zV_ok (fun hm16 => ?_))
        replace h := h m16 e17 hm16
        refine zV_aloadr_n (pc := 47) dX7_someSizeFits_47 rfl 0 rfl ?_
        refine zV_callV (pc := 48) (mc := mX7_isAsMeasured) (As := []) (rest := []) dX7_someSizeFits_48 zcX7_184 ziX7_isAsMeasured zsX7_isAsMeasured rfl rfl rfl rfl (Nat.le_of_ble_eq_true rfl) h (fun r18 m19 hr18 h => zV_ok (fun hm19 => ?_))
        replace h := h hr18 hm19
        refine zV_istore_n (pc := 51) (loc' := [(3, .int (iz r18)), (0, rr K 64), (1, rr K pl1), (2, .int (iz x2)), (4, .int (iz x4))]) dX7_someSizeFits_51 rfl (by decide) rfl ?_
        refine zV_iinc (pc := 52) (loc' := [(4, .int (iz (x4 + 1))), (3, .int (iz r18)), (0, rr K 64), (1, rr K pl1), (2, .int (iz x2))]) dX7_someSizeFits_52 4 rfl (by decide) rfl ?_
        refine zV_goto (pc := 55) (tgt := 5) dX7_someSizeFits_55 (by decide) ?_
        exact zV_sub [2, 3, 4, 1, 0] rfl h
      · replace c15 := Classical.not_not.mp c15
        replace h := h.1 c15
        refine zV_goto (pc := 30) (tgt := 52) dX7_someSizeFits_30 (by decide) ?_
        refine zV_iinc (pc := 52) (loc' := [(4, .int (iz (x4 + 1))), (0, rr K 64), (1, rr K pl1), (2, .int (iz x2)), (3, .int (iz x3))]) dX7_someSizeFits_52 4 rfl (by decide) rfl ?_
        refine zV_goto (pc := 55) (tgt := 5) dX7_someSizeFits_55 (by decide) ?_
        exact zV_sub [1, 2, 3, 4, 0] rfl h

set_option maxRecDepth 100000 in
set_option maxHeartbeats 4000000 in
theorem vc_X7_isAsMeasured_0 {K : zCx} {d : Nat}  (m0 : zM) {Q : Int → zM → Prop}  (h : zok m0 → zCt K (d + 4) mX1_setUp [rr K 39, rr K 67, .int (iz 4), .int (iz (m0.1 67 10))] m0 (fun r1 m2 => inR r1 → zok m2 → zCt K (d + 4) mX1_walk [rr K 39, .int (iz (m2.1 67 9))] m2 (fun r3 m4 => inR r3 → zok m4 → zV K mX7_isAsMeasured (d + 5) 35 [(0, rr K 64), (1, .int (iz 2))] [] m4 Q))) : zV K mX7_isAsMeasured (d + 5) 0 [(0, rr K 64)] [] m0 Q := by
  refine zV_ok (fun hm0 => ?_)
  replace h := h hm0
  refine zV_aloadr_n (pc := 0) dX7_isAsMeasured_0 rfl 0 rfl ?_
  refine zV_getR (pc := 1) (b := 39) dX7_isAsMeasured_1 zfX7_21 rfl rfl rfl ?_
  refine zV_aloadr_n (pc := 4) dX7_isAsMeasured_4 rfl 0 rfl ?_
  refine zV_getR (pc := 5) (b := 67) dX7_isAsMeasured_5 zfX7_28 rfl rfl rfl ?_
  refine zV_iconst (pc := 8) dX7_isAsMeasured_8 ?_
  refine zV_aloadr_n (pc := 9) dX7_isAsMeasured_9 rfl 0 rfl ?_
  refine zV_getR (pc := 10) (b := 67) dX7_isAsMeasured_10 zfX7_28 rfl rfl rfl ?_
  refine zV_getI (pc := 13) (kz := 10) dX7_isAsMeasured_13 zfX7_45 rfl rfl rfl ?_
  refine zV_callV (pc := 16) (mc := mX1_setUp) (As := [rr K 67, .int (iz 4), .int (iz (m0.1 67 10))]) (rest := []) dX7_isAsMeasured_16 zcX7_48 ziX1_setUp zsX1_setUp rfl rfl rfl rfl (Nat.le_of_ble_eq_true rfl) h (fun r1 m2 hr1 h => zV_ok (fun hm2 => ?_))
  replace h := h hr1 hm2
  refine zV_aloadr_n (pc := 19) dX7_isAsMeasured_19 rfl 0 rfl ?_
  refine zV_getR (pc := 20) (b := 39) dX7_isAsMeasured_20 zfX7_21 rfl rfl rfl ?_
  refine zV_aloadr_n (pc := 23) dX7_isAsMeasured_23 rfl 0 rfl ?_
  refine zV_getR (pc := 24) (b := 67) dX7_isAsMeasured_24 zfX7_28 rfl rfl rfl ?_
  refine zV_getI (pc := 27) (kz := 9) dX7_isAsMeasured_27 zfX7_52 rfl rfl rfl ?_
  refine zV_callV (pc := 30) (mc := mX1_walk) (As := [.int (iz (m2.1 67 9))]) (rest := []) dX7_isAsMeasured_30 zcX7_55 ziX1_walk zsX1_walk rfl rfl rfl rfl (Nat.le_of_ble_eq_true rfl) h (fun r3 m4 hr3 h => zV_ok (fun hm4 => ?_))
  replace h := h hr3 hm4
  refine zV_iconst (pc := 33) dX7_isAsMeasured_33 ?_
  refine zV_istore_n (pc := 34) (loc' := [(1, .int (iz 2)), (0, rr K 64)]) dX7_isAsMeasured_34 rfl (by decide) rfl ?_
  exact zV_sub [1, 0] rfl h
set_option maxRecDepth 100000 in
set_option maxHeartbeats 4000000 in
theorem vc_X7_isAsMeasured_35 {K : zCx} {d : Nat} (x1 : Int) (m0 : zM) {Q : Int → zM → Prop} (hx1 : inR x1) (h : zok m0 → (4 < x1 → Q 1 m0) ∧ (¬ (4 < x1) → 0 ≤ x1 ∧ x1 < 5 ∧ (((m0.1 72 x1) < 0 → zV K mX7_isAsMeasured (d + 5) 35 [(0, rr K 64), (1, .int (iz (x1 + 1)))] [] m0 Q) ∧ (¬ ((m0.1 72 x1) < 0) → ((m0.1 72 x1) = (m0.1 40 x1) → zV K mX7_isAsMeasured (d + 5) 35 [(0, rr K 64), (1, .int (iz (x1 + 1)))] [] m0 Q) ∧ (¬ ((m0.1 72 x1) = (m0.1 40 x1)) → Q 0 m0))))) : zV K mX7_isAsMeasured (d + 5) 35 [(0, rr K 64), (1, .int (iz x1))] [] m0 Q := by
  refine zV_ok (fun hm0 => ?_)
  replace h := h hm0
  refine zV_iload_n (pc := 35) dX7_isAsMeasured_35 rfl 1 rfl ?_
  refine zV_iconst (pc := 36) dX7_isAsMeasured_36 ?_
  refine zV_icmp_gt (pc := 37) (tgt := 81) dX7_isAsMeasured_37 (by decide) hx1 (inRd rfl) (fun c1 => ?_) (fun c1 => ?_)
  · skip
    replace h := h.1 c1
    refine zV_iconst (pc := 81) dX7_isAsMeasured_81 ?_
    exact zV_zret (pc := 82) rfl dX7_isAsMeasured_82 (Or.inr rfl) h
  · skip
    replace h := h.2 c1
    refine zV_aloadr_n (pc := 40) dX7_isAsMeasured_40 rfl 0 rfl ?_
    refine zV_getR (pc := 41) (b := 67) dX7_isAsMeasured_41 zfX7_28 rfl rfl rfl ?_
    refine zV_getR (pc := 44) (b := 72) dX7_isAsMeasured_44 zfX7_190 rfl rfl rfl ?_
    refine zV_iload_n (pc := 47) dX7_isAsMeasured_47 rfl 1 rfl ?_
    obtain ⟨o2, o3, h⟩ := h
    refine zV_iald (pc := 48) dX7_isAsMeasured_48 rfl o2 o3 (inR_ix o2 o3 rfl) ?_
    refine zV_if_lt (pc := 49) (tgt := 75) dX7_isAsMeasured_49 (by decide) (hm0 _ _) (fun c4 => ?_) (fun c4 => ?_)
    · skip
      replace h := h.1 c4
      refine zV_iinc (pc := 75) (loc' := [(1, .int (iz (x1 + 1))), (0, rr K 64)]) dX7_isAsMeasured_75 1 rfl (by decide) rfl ?_
      refine zV_goto (pc := 78) (tgt := 35) dX7_isAsMeasured_78 (by decide) ?_
      exact zV_sub [1, 0] rfl h
    · skip
      replace h := h.2 c4
      refine zV_aloadr_n (pc := 52) dX7_isAsMeasured_52 rfl 0 rfl ?_
      refine zV_getR (pc := 53) (b := 67) dX7_isAsMeasured_53 zfX7_28 rfl rfl rfl ?_
      refine zV_getR (pc := 56) (b := 72) dX7_isAsMeasured_56 zfX7_190 rfl rfl rfl ?_
      refine zV_iload_n (pc := 59) dX7_isAsMeasured_59 rfl 1 rfl ?_
      refine zV_iald (pc := 60) dX7_isAsMeasured_60 rfl o2 o3 (inR_ix o2 o3 rfl) ?_
      refine zV_aloadr_n (pc := 61) dX7_isAsMeasured_61 rfl 0 rfl ?_
      refine zV_getR (pc := 62) (b := 39) dX7_isAsMeasured_62 zfX7_21 rfl rfl rfl ?_
      refine zV_getR (pc := 65) (b := 40) dX7_isAsMeasured_65 zfX7_85 rfl rfl rfl ?_
      refine zV_iload_n (pc := 68) dX7_isAsMeasured_68 rfl 1 rfl ?_
      refine zV_iald (pc := 69) dX7_isAsMeasured_69 rfl o2 o3 (inR_ix o2 o3 rfl) ?_
      refine zV_icmp_eq (pc := 70) (tgt := 75) dX7_isAsMeasured_70 (by decide) (hm0 _ _) (hm0 _ _) (fun c5 => ?_) (fun c5 => ?_)
      · skip
        replace h := h.1 c5
        refine zV_iinc (pc := 75) (loc' := [(1, .int (iz (x1 + 1))), (0, rr K 64)]) dX7_isAsMeasured_75 1 rfl (by decide) rfl ?_
        refine zV_goto (pc := 78) (tgt := 35) dX7_isAsMeasured_78 (by decide) ?_
        exact zV_sub [1, 0] rfl h
      · skip
        replace h := h.2 c5
        refine zV_iconst (pc := 73) dX7_isAsMeasured_73 ?_
        exact zV_zret (pc := 74) rfl dX7_isAsMeasured_74 (Or.inl rfl) h

set_option maxRecDepth 100000 in
set_option maxHeartbeats 4000000 in
theorem vc_X8_clear_0 {K : zCx} {d : Nat} (w : Int) (m0 : zM) {Q : Int → zM → Prop} (hw : zWi w) (h : zok m0 → ∀ m1 : zM, m1 = sI m0 w 2 0 → zok m1 → (∀ m3 : zM, m3 = sI m1 w 3 0 → zok m3 → (Q 0 m3))) : zV K mX8_clear (d + 1) 0 [(0, rr K w)] [] m0 Q := by
  refine zV_ok (fun hm0 => ?_)
  replace h := h hm0
  refine zV_aloadr_n (pc := 0) dX8_clear_0 rfl 0 rfl ?_
  refine zV_iconst (pc := 1) dX8_clear_1 ?_
  refine zV_putI (pc := 2) (kz := 2) dX8_clear_2 zpX8_18 (zWi_s0 hw) rfl rfl (inRd rfl) rfl rfl ?_
  refine zV_mem (fun m1 e2 => zV_ok (fun hm1 => ?_))
  replace h := h m1 e2 hm1
  refine zV_aloadr_n (pc := 5) dX8_clear_5 rfl 0 rfl ?_
  refine zV_iconst (pc := 6) dX8_clear_6 ?_
  refine zV_putI (pc := 7) (kz := 3) dX8_clear_7 zpX8_22 (zWi_s0 hw) rfl rfl (inRd rfl) rfl rfl ?_
  refine zV_mem (fun m3 e4 => zV_ok (fun hm3 => ?_))
  replace h := h m3 e4 hm3
  exact zV_vret (pc := 10) rfl dX8_clear_10 h

set_option maxRecDepth 100000 in
set_option maxHeartbeats 4000000 in
theorem vc_X8_add_0 {K : zCx} {d : Nat} (w : Int) (x1 : Int) (x2 : Int) (m0 : zM) {Q : Int → zM → Prop} (hw : zWi w) (hx1 : inR x1) (hx2 : inR x2) (h : zok m0 → ((m0.1 w 3) < 220 → 0 ≤ (m0.1 w 3) ∧ (m0.1 w 3) < 220 ∧ (inR ((x1 * 1000) + x2) ∧ (∀ m5 : zM, m5 = sI m0 (w + 1) (m0.1 w 3) ((x1 * 1000) + x2) → zok m5 → (inR ((m5.1 w 3) + 1) ∧ (∀ m8 : zM, m8 = sI m5 w 3 ((m5.1 w 3) + 1) → zok m8 → (Q 0 m8)))))) ∧ (¬ ((m0.1 w 3) < 220) → Q 0 m0)) : zV K mX8_add (d + 1) 0 [(0, rr K w), (1, .int (iz x1)), (2, .int (iz x2))] [] m0 Q := by
  refine zV_ok (fun hm0 => ?_)
  replace h := h hm0
  refine zV_aloadr_n (pc := 0) dX8_add_0 rfl 0 rfl ?_
  refine zV_getI (pc := 1) (kz := 3) dX8_add_1 zfX8_22 (zWi_s0 hw) rfl rfl ?_
  refine zV_sipush (pc := 4) dX8_add_4 (by decide) ?_
  refine zV_icmp_lt (pc := 7) (tgt := 11) dX8_add_7 (by decide) (hm0 _ _) (inRd rfl) (fun c1 => ?_) (fun c1 => ?_)
  · skip
    replace h := h.1 c1
    refine zV_aloadr_n (pc := 11) dX8_add_11 rfl 0 rfl ?_
    refine zV_getR (pc := 12) dX8_add_12 zfX8_9 (zWi_s0 hw) rfl (zWi_r0 hw) ?_
    refine zV_aloadr_n (pc := 15) dX8_add_15 rfl 0 rfl ?_
    refine zV_getI (pc := 16) (kz := 3) dX8_add_16 zfX8_22 (zWi_s0 hw) rfl rfl ?_
    refine zV_iload_n (pc := 19) dX8_add_19 rfl 1 rfl ?_
    refine zV_sipush (pc := 20) dX8_add_20 (by decide) ?_
    refine zV_imul (pc := 23) dX8_add_23 ?_
    refine zV_iload_n (pc := 24) dX8_add_24 rfl 2 rfl ?_
    refine zV_iadd (pc := 25) dX8_add_25 ?_
    obtain ⟨o2, o3, h⟩ := h
    obtain ⟨o4, h⟩ := h
    refine zV_iast (pc := 26) dX8_add_26 (zWi_s1 hw) o2 o3 (inR_ix o2 o3 rfl) o4 ?_
    refine zV_mem (fun m5 e6 => zV_ok (fun hm5 => ?_))
    replace h := h m5 e6 hm5
    refine zV_aloadr_n (pc := 27) dX8_add_27 rfl 0 rfl ?_
    refine zV_dup (pc := 28) dX8_add_28 rfl ?_
    refine zV_getI (pc := 29) (kz := 3) dX8_add_29 zfX8_22 (zWi_s0 hw) rfl rfl ?_
    refine zV_iconst (pc := 32) dX8_add_32 ?_
    refine zV_iadd (pc := 33) dX8_add_33 ?_
    obtain ⟨o7, h⟩ := h
    refine zV_putI (pc := 34) (kz := 3) dX8_add_34 zpX8_22 (zWi_s0 hw) rfl rfl o7 rfl rfl ?_
    refine zV_mem (fun m8 e9 => zV_ok (fun hm8 => ?_))
    replace h := h m8 e9 hm8
    exact zV_vret (pc := 37) rfl dX8_add_37 h
  · skip
    replace h := h.2 c1
    exact zV_vret (pc := 10) rfl dX8_add_10 h

set_option maxRecDepth 100000 in
set_option maxHeartbeats 4000000 in
theorem vc_X8_close_0 {K : zCx} {d : Nat} (w : Int) (m0 : zM) {Q : Int → zM → Prop} (hw : zWi w) (h : zok m0 → ((m0.1 w 2) < 8 → inR ((m0.1 w 2) + 1) ∧ (∀ m3 : zM, m3 = sI m0 w 2 ((m0.1 w 2) + 1) → zok m3 → (0 ≤ (m3.1 w 2) ∧ (m3.1 w 2) < 9 ∧ (∀ m7 : zM, m7 = sI m3 (w + 2) (m3.1 w 2) (m3.1 w 3) → zok m7 → (Q 0 m7))))) ∧ (¬ ((m0.1 w 2) < 8) → Q 0 m0)) : zV K mX8_close (d + 1) 0 [(0, rr K w)] [] m0 Q := by
  refine zV_ok (fun hm0 => ?_)
  replace h := h hm0
  refine zV_aloadr_n (pc := 0) dX8_close_0 rfl 0 rfl ?_
  refine zV_getI (pc := 1) (kz := 2) dX8_close_1 zfX8_18 (zWi_s0 hw) rfl rfl ?_
  refine zV_bipush (pc := 4) dX8_close_4 (by decide) ?_
  refine zV_icmp_lt (pc := 6) (tgt := 10) dX8_close_6 (by decide) (hm0 _ _) (inRd rfl) (fun c1 => ?_) (fun c1 => ?_)
  · skip
    replace h := h.1 c1
    refine zV_aloadr_n (pc := 10) dX8_close_10 rfl 0 rfl ?_
    refine zV_dup (pc := 11) dX8_close_11 rfl ?_
    refine zV_getI (pc := 12) (kz := 2) dX8_close_12 zfX8_18 (zWi_s0 hw) rfl rfl ?_
    refine zV_iconst (pc := 15) dX8_close_15 ?_
    refine zV_iadd (pc := 16) dX8_close_16 ?_
    obtain ⟨o2, h⟩ := h
    refine zV_putI (pc := 17) (kz := 2) dX8_close_17 zpX8_18 (zWi_s0 hw) rfl rfl o2 rfl rfl ?_
    refine zV_mem (fun m3 e4 => zV_ok (fun hm3 => ?_))
    replace h := h m3 e4 hm3
    refine zV_aloadr_n (pc := 20) dX8_close_20 rfl 0 rfl ?_
    refine zV_getR (pc := 21) dX8_close_21 zfX8_15 (zWi_s0 hw) rfl (zWi_r1 hw) ?_
    refine zV_aloadr_n (pc := 24) dX8_close_24 rfl 0 rfl ?_
    refine zV_getI (pc := 25) (kz := 2) dX8_close_25 zfX8_18 (zWi_s0 hw) rfl rfl ?_
    refine zV_aloadr_n (pc := 28) dX8_close_28 rfl 0 rfl ?_
    refine zV_getI (pc := 29) (kz := 3) dX8_close_29 zfX8_22 (zWi_s0 hw) rfl rfl ?_
    obtain ⟨o5, o6, h⟩ := h
    refine zV_iast (pc := 32) dX8_close_32 (zWi_s2 hw) o5 o6 (inR_ix o5 o6 rfl) (hm3 _ _) ?_
    refine zV_mem (fun m7 e8 => zV_ok (fun hm7 => ?_))
    replace h := h m7 e8 hm7
    exact zV_vret (pc := 33) rfl dX8_close_33 h
  · skip
    replace h := h.2 c1
    exact zV_vret (pc := 9) rfl dX8_close_9 h

set_option maxRecDepth 100000 in
set_option maxHeartbeats 4000000 in
theorem vc_X8_all_0 {K : zCx} {d : Nat} (w : Int) (m0 : zM) {Q : Int → zM → Prop} (hw : zWi w) (h : zok m0 → inR ((zshl 1 (m0.1 w 2)) - 1) ∧ (Q ((zshl 1 (m0.1 w 2)) - 1) m0)) : zV K mX8_all (d + 1) 0 [(0, rr K w)] [] m0 Q := by
  refine zV_ok (fun hm0 => ?_)
  replace h := h hm0
  refine zV_iconst (pc := 0) dX8_all_0 ?_
  refine zV_aloadr_n (pc := 1) dX8_all_1 rfl 0 rfl ?_
  refine zV_getI (pc := 2) (kz := 2) dX8_all_2 zfX8_18 (zWi_s0 hw) rfl rfl ?_
  refine zV_ishl (pc := 5) dX8_all_5 ?_
  refine zV_iconst (pc := 6) dX8_all_6 ?_
  refine zV_isub (pc := 7) dX8_all_7 ?_
  obtain ⟨o1, h⟩ := h
  exact zV_iret (pc := 8) rfl dX8_all_8 o1 h

set_option maxRecDepth 100000 in
set_option maxHeartbeats 4000000 in
theorem vc_X8_copyFrom_0 {K : zCx} {d : Nat} (w : Int) (w1 : Int) (m0 : zM) {Q : Int → zM → Prop} (hw : zWi w) (hw1 : zWi w1) (h : zok m0 → ∀ m1 : zM, m1 = sI m0 w 2 (m0.1 w1 2) → zok m1 → (∀ m3 : zM, m3 = sI m1 w 3 (m1.1 w1 3) → zok m3 → (0 ≤ (0 : Int) ∧ 0 ≤ (0 : Int) ∧ 0 ≤ (m3.1 w 3) ∧ (0 : Int) + (m3.1 w 3) ≤ 220 ∧ (0 : Int) + (m3.1 w 3) ≤ 220 ∧ (∀ m10 : zM, m10 = sC m3 (w1 + 1) 0 (w + 1) 0 (m3.1 w 3) → zok m10 → (inR ((m10.1 w 2) + 1) ∧ (0 ≤ (0 : Int) ∧ 0 ≤ (0 : Int) ∧ 0 ≤ ((m10.1 w 2) + 1) ∧ (0 : Int) + ((m10.1 w 2) + 1) ≤ 9 ∧ (0 : Int) + ((m10.1 w 2) + 1) ≤ 9 ∧ (∀ m18 : zM, m18 = sC m10 (w1 + 2) 0 (w + 2) 0 ((m10.1 w 2) + 1) → zok m18 → (Q 0 m18)))))))) : zV K mX8_copyFrom (d + 1) 0 [(0, rr K w), (1, rr K w1)] [] m0 Q := by
  refine zV_ok (fun hm0 => ?_)
  replace h := h hm0
  refine zV_aloadr_n (pc := 0) dX8_copyFrom_0 rfl 0 rfl ?_
  refine zV_aloadr_n (pc := 1) dX8_copyFrom_1 rfl 1 rfl ?_
  refine zV_getI (pc := 2) (kz := 2) dX8_copyFrom_2 zfX8_18 (zWi_s0 hw1) rfl rfl ?_
  refine zV_putI (pc := 5) (kz := 2) dX8_copyFrom_5 zpX8_18 (zWi_s0 hw) rfl rfl (hm0 _ _) rfl rfl ?_
  refine zV_mem (fun m1 e2 => zV_ok (fun hm1 => ?_))
  replace h := h m1 e2 hm1
  refine zV_aloadr_n (pc := 8) dX8_copyFrom_8 rfl 0 rfl ?_
  refine zV_aloadr_n (pc := 9) dX8_copyFrom_9 rfl 1 rfl ?_
  refine zV_getI (pc := 10) (kz := 3) dX8_copyFrom_10 zfX8_22 (zWi_s0 hw1) rfl rfl ?_
  refine zV_putI (pc := 13) (kz := 3) dX8_copyFrom_13 zpX8_22 (zWi_s0 hw) rfl rfl (hm1 _ _) rfl rfl ?_
  refine zV_mem (fun m3 e4 => zV_ok (fun hm3 => ?_))
  replace h := h m3 e4 hm3
  refine zV_aloadr_n (pc := 16) dX8_copyFrom_16 rfl 1 rfl ?_
  refine zV_getR (pc := 17) dX8_copyFrom_17 zfX8_9 (zWi_s0 hw1) rfl (zWi_r0 hw1) ?_
  refine zV_iconst (pc := 20) dX8_copyFrom_20 ?_
  refine zV_aloadr_n (pc := 21) dX8_copyFrom_21 rfl 0 rfl ?_
  refine zV_getR (pc := 22) dX8_copyFrom_22 zfX8_9 (zWi_s0 hw) rfl (zWi_r0 hw) ?_
  refine zV_iconst (pc := 25) dX8_copyFrom_25 ?_
  refine zV_aloadr_n (pc := 26) dX8_copyFrom_26 rfl 0 rfl ?_
  refine zV_getI (pc := 27) (kz := 3) dX8_copyFrom_27 zfX8_22 (zWi_s0 hw) rfl rfl ?_
  obtain ⟨o5, o6, o7, o8, o9, h⟩ := h
  refine zV_copy (pc := 30) dX8_copyFrom_30 (zmem 861 (by decide +kernel) (by decide +kernel)) (zWi_s1 hw1) (zWi_s1 hw) (inRd rfl) (inRd rfl) (hm3 _ _) o5 o6 o7 o8 o9 ?_
  refine zV_mem (fun m10 e11 => zV_ok (fun hm10 => ?_))
  replace h := h m10 e11 hm10
  refine zV_aloadr_n (pc := 33) dX8_copyFrom_33 rfl 1 rfl ?_
  refine zV_getR (pc := 34) dX8_copyFrom_34 zfX8_15 (zWi_s0 hw1) rfl (zWi_r1 hw1) ?_
  refine zV_iconst (pc := 37) dX8_copyFrom_37 ?_
  refine zV_aloadr_n (pc := 38) dX8_copyFrom_38 rfl 0 rfl ?_
  refine zV_getR (pc := 39) dX8_copyFrom_39 zfX8_15 (zWi_s0 hw) rfl (zWi_r1 hw) ?_
  refine zV_iconst (pc := 42) dX8_copyFrom_42 ?_
  refine zV_aloadr_n (pc := 43) dX8_copyFrom_43 rfl 0 rfl ?_
  refine zV_getI (pc := 44) (kz := 2) dX8_copyFrom_44 zfX8_18 (zWi_s0 hw) rfl rfl ?_
  refine zV_iconst (pc := 47) dX8_copyFrom_47 ?_
  refine zV_iadd (pc := 48) dX8_copyFrom_48 ?_
  obtain ⟨o12, h⟩ := h
  obtain ⟨o13, o14, o15, o16, o17, h⟩ := h
  refine zV_copy (pc := 49) dX8_copyFrom_49 (zmem 861 (by decide +kernel) (by decide +kernel)) (zWi_s2 hw1) (zWi_s2 hw) (inRd rfl) (inRd rfl) o12 o13 o14 o15 o16 o17 ?_
  refine zV_mem (fun m18 e19 => zV_ok (fun hm18 => ?_))
  replace h := h m18 e19 hm18
  exact zV_vret (pc := 52) rfl dX8_copyFrom_52 h

set_option maxRecDepth 100000 in
set_option maxHeartbeats 4000000 in
theorem vc_X9_table_0 {K : zCx} {d : Nat} (x1 : Int) (m0 : zM) {Q : Int → zM → Prop} (hx1 : inR x1) (h : zok m0 → ((0 ≤ x1 ∧ x1 ≤ 3) → (0 ≤ x1) ∧ ((x1 < 4) ∧ (∀ v8 : Int, v8 = (if m0.1 88 x1 < 0 then -11 else if m0.1 88 x1 = 0 then 0 else -13) → ((v8 = 0 → zCt K (d + 2) mX2_isTable [rr K 87, .int (iz x1)] m0 (fun r11 m12 => inR r11 → zok m12 → (r11 = 0 → Q (-4) m12) ∧ (¬ (r11 = 0) → ((m12.1 1 7) < 4 → zV K mX9_table (d + 3) 57 [(0, rr K 0), (1, .int (iz x1)), (3, .int (iz 0))] [] m12 Q) ∧ (¬ ((m12.1 1 7) < 4) → Q (-2) m12)))) ∧ (¬ (v8 = 0) → Q v8 m0))))) ∧ (¬ ((0 ≤ x1 ∧ x1 ≤ 3)) → Q (-1) m0)) : zV K mX9_table (d + 3) 0 [(0, rr K 0), (1, .int (iz x1))] [] m0 Q := by
  refine zV_ok (fun hm0 => ?_)
  replace h := h hm0
  refine zV_iload_n (pc := 0) dX9_table_0 rfl 1 rfl ?_
  refine zV_iconst (pc := 1) dX9_table_1 ?_
  refine zV_iconst (pc := 2) dX9_table_2 ?_
  refine zV_callSf (pc := 3) (mc := mX9_within) (As := [.int (iz x1), .int (iz 0), .int (iz 3)]) (rest := []) dX9_table_3 zcX9_74 ztX9_within rfl rfl (Nat.le_of_ble_eq_true rfl) (c_X9_within hx1 (inRd rfl) (inRd rfl)) (fun hr1 => ?_)
  refine zV_if_ne (pc := 6) (tgt := 11) dX9_table_6 (by decide) (inR_b2i _) (fun c3 => ?_) (fun c3 => ?_)
  · replace c3 := b2i_tp c3
    replace h := h.1 c3
    refine zV_aloadr_n (pc := 11) dX9_table_11 rfl 0 rfl ?_
    refine zV_getR (pc := 12) (b := 87) dX9_table_12 zfX9_48 rfl rfl rfl ?_
    refine zV_iload_n (pc := 15) dX9_table_15 rfl 1 rfl ?_
    refine zV_iconst (pc := 16) dX9_table_16 ?_
    obtain ⟨o4, h⟩ := h
    obtain ⟨o5, h⟩ := h
    refine zV_callVf (pc := 17) (mc := mX2_refusal) (As := [.int (iz x1), .int (iz 0)]) (rest := []) dX9_table_17 zcX9_78 ziX2_refusal zsX2_refusal rfl rfl rfl rfl (Nat.le_of_ble_eq_true rfl) (c_X2_refusal hx1 (inRd rfl) hm0 o4 o5) (fun hr6 => ?_)
    refine zV_name (fun v8 e9 => ?_)
    replace h := h v8 e9
    have hrv8 : inR v8 := by rw [e9]; exact hr6
    refine zV_istore_n (pc := 20) (loc' := [(2, .int (iz v8)), (0, rr K 0), (1, .int (iz x1))]) dX9_table_20 rfl (by decide) rfl ?_
    refine zV_iload_n (pc := 21) dX9_table_21 rfl 0 rfl ?_
    refine zV_if_eq (pc := 22) (tgt := 27) dX9_table_22 (by decide) hrv8 (fun c10 => ?_) (fun c10 => ?_)
    · skip
      replace h := h.1 c10
      refine zV_aloadr_n (pc := 27) dX9_table_27 rfl 1 rfl ?_
      refine zV_getR (pc := 28) (b := 87) dX9_table_28 zfX9_48 rfl rfl rfl ?_
      refine zV_iload_n (pc := 31) dX9_table_31 rfl 2 rfl ?_
      refine zV_callV (pc := 32) (mc := mX2_isTable) (As := [.int (iz x1)]) (rest := []) dX9_table_32 zcX9_82 ziX2_isTable zsX2_isTable rfl rfl rfl rfl (Nat.le_of_ble_eq_true rfl) h (fun r11 m12 hr11 h => zV_ok (fun hm12 => ?_))
      replace h := h hr11 hm12
      refine zV_if_ne (pc := 35) (tgt := 41) dX9_table_35 (by decide) hr11 (fun c13 => ?_) (fun c13 => ?_)
      · skip
        replace h := h.2 c13
        refine zV_aloadr_n (pc := 41) dX9_table_41 rfl 1 rfl ?_
        refine zV_getR (pc := 42) (b := 1) dX9_table_42 zfX9_10 rfl rfl rfl ?_
        refine zV_getI (pc := 45) (kz := 7) dX9_table_45 zfX9_86 rfl rfl rfl ?_
        refine zV_iconst (pc := 48) dX9_table_48 ?_
        refine zV_icmp_lt (pc := 49) (tgt := 55) dX9_table_49 (by decide) (hm12 _ _) (inRd rfl) (fun c14 => ?_) (fun c14 => ?_)
        · skip
          replace h := h.1 c14
          refine zV_iconst (pc := 55) dX9_table_55 ?_
          refine zV_istore_n (pc := 56) (loc' := [(3, .int (iz 0)), (2, .int (iz v8)), (0, rr K 0), (1, .int (iz x1))]) dX9_table_56 rfl (by decide) rfl ?_
          exact zV_sub [2, 3, 0] rfl h
        · skip
          replace h := h.2 c14
          refine zV_bipush (pc := 52) dX9_table_52 (by decide) ?_
          exact zV_iret (pc := 54) rfl dX9_table_54 (inRd rfl) h
      · replace c13 := Classical.not_not.mp c13
        replace h := h.1 c13
        refine zV_bipush (pc := 38) dX9_table_38 (by decide) ?_
        exact zV_iret (pc := 40) rfl dX9_table_40 (inRd rfl) h
    · skip
      replace h := h.2 c10
      refine zV_iload_n (pc := 25) dX9_table_25 rfl 0 rfl ?_
      exact zV_iret (pc := 26) rfl dX9_table_26 hrv8 h
  · replace c3 := b2i_fn c3
    replace h := h.2 c3
    refine zV_iconst (pc := 9) dX9_table_9 ?_
    exact zV_iret (pc := 10) rfl dX9_table_10 (inRd rfl) h
set_option maxRecDepth 100000 in
set_option maxHeartbeats 4000000 in
theorem vc_X9_table_57 {K : zCx} {d : Nat} (x1 : Int) (x3 : Int) (m0 : zM) {Q : Int → zM → Prop} (hx1 : inR x1) (hx3 : inR x3) (h : zok m0 → (21 ≤ x3 → inR ((m0.1 1 7) + 1) ∧ (∀ m3 : zM, m3 = sI m0 1 7 ((m0.1 1 7) + 1) → zok m3 → (inR ((m3.1 1 7) - 1) ∧ (Q ((m3.1 1 7) - 1) m3)))) ∧ (¬ (21 ≤ x3) → (0 ≤ x1 * 40 + x3) ∧ ((x1 * 40 + x3 < 160) ∧ (0 ≤ (((m0.1 1 7) * 21) + x3) ∧ (((m0.1 1 7) * 21) + x3) < 84 ∧ (∀ m12 : zM, m12 = sI m0 3 (((m0.1 1 7) * 21) + x3) (m0.1 90 (x1 * 40 + x3)) → zok m12 → (zV K mX9_table (d + 3) 57 [(0, rr K 0), (1, .int (iz x1)), (3, .int (iz (x3 + 1)))] [] m12 Q)))))) : zV K mX9_table (d + 3) 57 [(0, rr K 0), (1, .int (iz x1)), (3, .int (iz x3))] [] m0 Q := by
  refine zV_ok (fun hm0 => ?_)
  replace h := h hm0
  refine zV_iload_n (pc := 57) dX9_table_57 rfl 2 rfl ?_
  refine zV_bipush (pc := 58) dX9_table_58 (by decide) ?_
  refine zV_icmp_ge (pc := 60) (tgt := 98) dX9_table_60 (by decide) hx3 (inRd rfl) (fun c1 => ?_) (fun c1 => ?_)
  · skip
    replace h := h.1 c1
    refine zV_aloadr_n (pc := 98) dX9_table_98 rfl 0 rfl ?_
    refine zV_getR (pc := 99) (b := 1) dX9_table_99 zfX9_10 rfl rfl rfl ?_
    refine zV_dup (pc := 102) dX9_table_102 rfl ?_
    refine zV_getI (pc := 103) (kz := 7) dX9_table_103 zfX9_86 rfl rfl rfl ?_
    refine zV_iconst (pc := 106) dX9_table_106 ?_
    refine zV_iadd (pc := 107) dX9_table_107 ?_
    obtain ⟨o2, h⟩ := h
    refine zV_putI (pc := 108) (kz := 7) dX9_table_108 zpX9_86 rfl rfl rfl o2 rfl rfl ?_
    refine zV_mem (fun m3 e4 => zV_ok (fun hm3 => ?_))
    replace h := h m3 e4 hm3
    refine zV_aloadr_n (pc := 111) dX9_table_111 rfl 0 rfl ?_
    refine zV_getR (pc := 112) (b := 1) dX9_table_112 zfX9_10 rfl rfl rfl ?_
    refine zV_getI (pc := 115) (kz := 7) dX9_table_115 zfX9_86 rfl rfl rfl ?_
    refine zV_iconst (pc := 118) dX9_table_118 ?_
    refine zV_isub (pc := 119) dX9_table_119 ?_
    obtain ⟨o5, h⟩ := h
    exact zV_iret (pc := 120) rfl dX9_table_120 o5 h
  · skip
    replace h := h.2 c1
    refine zV_aloadr_n (pc := 63) dX9_table_63 rfl 0 rfl ?_
    refine zV_getR (pc := 64) (b := 1) dX9_table_64 zfX9_10 rfl rfl rfl ?_
    refine zV_getR (pc := 67) (b := 3) dX9_table_67 zfX9_89 rfl rfl rfl ?_
    refine zV_aloadr_n (pc := 70) dX9_table_70 rfl 0 rfl ?_
    refine zV_getR (pc := 71) (b := 1) dX9_table_71 zfX9_10 rfl rfl rfl ?_
    refine zV_getI (pc := 74) (kz := 7) dX9_table_74 zfX9_86 rfl rfl rfl ?_
    refine zV_bipush (pc := 77) dX9_table_77 (by decide) ?_
    refine zV_imul (pc := 79) dX9_table_79 ?_
    refine zV_iload_n (pc := 80) dX9_table_80 rfl 2 rfl ?_
    refine zV_iadd (pc := 81) dX9_table_81 ?_
    refine zV_aloadr_n (pc := 82) dX9_table_82 rfl 0 rfl ?_
    refine zV_getR (pc := 83) (b := 87) dX9_table_83 zfX9_48 rfl rfl rfl ?_
    refine zV_iload_n (pc := 86) dX9_table_86 rfl 1 rfl ?_
    refine zV_iload_n (pc := 87) dX9_table_87 rfl 2 rfl ?_
    obtain ⟨o6, h⟩ := h
    obtain ⟨o7, h⟩ := h
    refine zV_callVf (pc := 88) (mc := mX2_itemAt) (As := [.int (iz x1), .int (iz x3)]) (rest := [.int (iz (((m0.1 1 7) * 21) + x3)), rr K 3]) dX9_table_88 zcX9_92 ziX2_itemAt zsX2_itemAt rfl rfl rfl rfl (Nat.le_of_ble_eq_true rfl) (c_X2_itemAt hx3 hx1 hm0 o6 o7) (fun hr8 => ?_)
    obtain ⟨o10, o11, h⟩ := h
    refine zV_iast (pc := 91) dX9_table_91 rfl o10 o11 (inR_ix o10 o11 rfl) hr8 ?_
    refine zV_mem (fun m12 e13 => zV_ok (fun hm12 => ?_))
    replace h := h m12 e13 hm12
    refine zV_iinc (pc := 92) (loc' := [(3, .int (iz (x3 + 1))), (0, rr K 0), (1, .int (iz x1))]) dX9_table_92 2 rfl (by decide) rfl ?_
    refine zV_goto (pc := 95) (tgt := 57) dX9_table_95 (by decide) ?_
    exact zV_sub [1, 2, 0] rfl h

set_option maxRecDepth 100000 in
set_option maxHeartbeats 4000000 in
theorem vc_X9_part_0 {K : zCx} {d : Nat} (x1 : Int) (x2 : Int) (x3 : Int) (x4 : Int) (x5 : Int) (m0 : zM) {Q : Int → zM → Prop} (hx1 : inR x1) (hx2 : inR x2) (hx3 : inR x3) (hx4 : inR x4) (hx5 : inR x5) (h : zok m0 → ((1 ≤ x1 ∧ x1 ≤ 5) → (((0 ≤ x2 ∧ x2 ≤ 99) ∧ Int.tdiv x2 10 < 5 ∧ Int.tmod x2 10 < 5 ∧ ¬ Int.tdiv x2 10 = Int.tmod x2 10) → ((1 ≤ x3 ∧ x3 ≤ 9) → ((x1 = 1 ∨ x1 = 2 ∨ x1 = 3) → ((0 ≤ x4 ∧ Int.tdiv x4 100 < m0.1 1 7 ∧ Int.tmod (Int.tdiv x4 10) 10 ≤ 5) → ((x1 = 2 ∨ x1 = 3) → zCt K (d + 3) mX4_isGate [rr K 1, .int (iz x1), .int (iz x5)] m0 (fun r52 m53 => inR r52 → zok m53 → (r52 = 0 → Q (-1) m53) ∧ (¬ (r52 = 0) → ((m53.1 1 6) < 10 → 0 ≤ (m53.1 1 6) ∧ (m53.1 1 6) < 10 ∧ (zCt K (d + 3) mX3_become [rr K (10 + (m53.1 1 6)), .int (iz x1), .int (iz x2), .int (iz x3), .int (iz x4), .int (iz x5)] m53 (fun r58 m59 => inR r58 → zok m59 → inR ((m59.1 1 6) + 1) ∧ (∀ m61 : zM, m61 = sI m59 1 6 ((m59.1 1 6) + 1) → zok m61 → (inR ((m61.1 1 6) - 1) ∧ (Q ((m61.1 1 6) - 1) m61)))))) ∧ (¬ ((m53.1 1 6) < 10) → Q (-2) m53)))) ∧ (¬ ((x1 = 2 ∨ x1 = 3)) → ((m0.1 1 6) < 10 → 0 ≤ (m0.1 1 6) ∧ (m0.1 1 6) < 10 ∧ (zCt K (d + 3) mX3_become [rr K (10 + (m0.1 1 6)), .int (iz x1), .int (iz x2), .int (iz x3), .int (iz x4), .int (iz x5)] m0 (fun r46 m47 => inR r46 → zok m47 → inR ((m47.1 1 6) + 1) ∧ (∀ m49 : zM, m49 = sI m47 1 6 ((m47.1 1 6) + 1) → zok m49 → (inR ((m49.1 1 6) - 1) ∧ (Q ((m49.1 1 6) - 1) m49)))))) ∧ (¬ ((m0.1 1 6) < 10) → Q (-2) m0))) ∧ (¬ ((0 ≤ x4 ∧ Int.tdiv x4 100 < m0.1 1 7 ∧ Int.tmod (Int.tdiv x4 10) 10 ≤ 5)) → Q (-1) m0)) ∧ (¬ ((x1 = 1 ∨ x1 = 2 ∨ x1 = 3)) → ((x1 = 2 ∨ x1 = 3) → zCt K (d + 3) mX4_isGate [rr K 1, .int (iz x1), .int (iz x5)] m0 (fun r25 m26 => inR r25 → zok m26 → (r25 = 0 → Q (-1) m26) ∧ (¬ (r25 = 0) → ((m26.1 1 6) < 10 → 0 ≤ (m26.1 1 6) ∧ (m26.1 1 6) < 10 ∧ (zCt K (d + 3) mX3_become [rr K (10 + (m26.1 1 6)), .int (iz x1), .int (iz x2), .int (iz x3), .int (iz x4), .int (iz x5)] m26 (fun r31 m32 => inR r31 → zok m32 → inR ((m32.1 1 6) + 1) ∧ (∀ m34 : zM, m34 = sI m32 1 6 ((m32.1 1 6) + 1) → zok m34 → (inR ((m34.1 1 6) - 1) ∧ (Q ((m34.1 1 6) - 1) m34)))))) ∧ (¬ ((m26.1 1 6) < 10) → Q (-2) m26)))) ∧ (¬ ((x1 = 2 ∨ x1 = 3)) → ((m0.1 1 6) < 10 → 0 ≤ (m0.1 1 6) ∧ (m0.1 1 6) < 10 ∧ (zCt K (d + 3) mX3_become [rr K (10 + (m0.1 1 6)), .int (iz x1), .int (iz x2), .int (iz x3), .int (iz x4), .int (iz x5)] m0 (fun r19 m20 => inR r19 → zok m20 → inR ((m20.1 1 6) + 1) ∧ (∀ m22 : zM, m22 = sI m20 1 6 ((m20.1 1 6) + 1) → zok m22 → (inR ((m22.1 1 6) - 1) ∧ (Q ((m22.1 1 6) - 1) m22)))))) ∧ (¬ ((m0.1 1 6) < 10) → Q (-2) m0)))) ∧ (¬ ((1 ≤ x3 ∧ x3 ≤ 9)) → Q (-1) m0)) ∧ (¬ (((0 ≤ x2 ∧ x2 ≤ 99) ∧ Int.tdiv x2 10 < 5 ∧ Int.tmod x2 10 < 5 ∧ ¬ Int.tdiv x2 10 = Int.tmod x2 10)) → Q (-1) m0)) ∧ (¬ ((1 ≤ x1 ∧ x1 ≤ 5)) → Q (-1) m0)) : zV K mX9_part (d + 4) 0 [(0, rr K 0), (1, .int (iz x1)), (2, .int (iz x2)), (3, .int (iz x3)), (4, .int (iz x4)), (5, .int (iz x5))] [] m0 Q := by
  refine zV_ok (fun hm0 => ?_)
  replace h := h hm0
  refine zV_iload_n (pc := 0) dX9_part_0 rfl 1 rfl ?_
  refine zV_iconst (pc := 1) dX9_part_1 ?_
  refine zV_iconst (pc := 2) dX9_part_2 ?_
  refine zV_callSf (pc := 3) (mc := mX9_within) (As := [.int (iz x1), .int (iz 1), .int (iz 5)]) (rest := []) dX9_part_3 zcX9_74 ztX9_within rfl rfl (Nat.le_of_ble_eq_true rfl) (c_X9_within hx1 (inRd rfl) (inRd rfl)) (fun hr1 => ?_)
  refine zV_if_eq (pc := 6) (tgt := 26) dX9_part_6 (by decide) (inR_b2i _) (fun c3 => ?_) (fun c3 => ?_)
  · replace c3 := b2i_fp c3
    replace h := h.2 c3
    refine zV_iconst (pc := 26) dX9_part_26 ?_
    exact zV_iret (pc := 27) rfl dX9_part_27 (inRd rfl) h
  · replace c3 := b2i_tp c3
    replace h := h.1 c3
    refine zV_iload_n (pc := 9) dX9_part_9 rfl 2 rfl ?_
    refine zV_callSf (pc := 10) (mc := mX9_areEnds) (As := [.int (iz x2)]) (rest := []) dX9_part_10 zcX9_95 ztX9_areEnds rfl rfl (Nat.le_of_ble_eq_true rfl) (c_X9_areEnds hx2) (fun hr4 => ?_)
    refine zV_if_eq (pc := 13) (tgt := 26) dX9_part_13 (by decide) (inR_b2i _) (fun c6 => ?_) (fun c6 => ?_)
    · replace c6 := b2i_fp c6
      replace h := h.2 c6
      refine zV_iconst (pc := 26) dX9_part_26 ?_
      exact zV_iret (pc := 27) rfl dX9_part_27 (inRd rfl) h
    · replace c6 := b2i_tp c6
      replace h := h.1 c6
      refine zV_iload_n (pc := 16) dX9_part_16 rfl 3 rfl ?_
      refine zV_iconst (pc := 17) dX9_part_17 ?_
      refine zV_bipush (pc := 18) dX9_part_18 (by decide) ?_
      refine zV_callSf (pc := 20) (mc := mX9_within) (As := [.int (iz x3), .int (iz 1), .int (iz 9)]) (rest := []) dX9_part_20 zcX9_74 ztX9_within rfl rfl (Nat.le_of_ble_eq_true rfl) (c_X9_within hx3 (inRd rfl) (inRd rfl)) (fun hr7 => ?_)
      refine zV_if_ne (pc := 23) (tgt := 28) dX9_part_23 (by decide) (inR_b2i _) (fun c9 => ?_) (fun c9 => ?_)
      · replace c9 := b2i_tp c9
        replace h := h.1 c9
        refine zV_iload_n (pc := 28) dX9_part_28 rfl 1 rfl ?_
        refine zV_callSf (pc := 29) (mc := mX9_hasLaw) (As := [.int (iz x1)]) (rest := []) dX9_part_29 zcX9_98 ztX9_hasLaw rfl rfl (Nat.le_of_ble_eq_true rfl) (c_X9_hasLaw hx1) (fun hr10 => ?_)
        refine zV_if_eq (pc := 32) (tgt := 49) dX9_part_32 (by decide) (inR_b2i _) (fun c12 => ?_) (fun c12 => ?_)
        · replace c12 := b2i_fp c12
          replace h := h.2 c12
          refine zV_iload_n (pc := 49) dX9_part_49 rfl 1 rfl ?_
          refine zV_callSf (pc := 50) (mc := mX9_hasGate) (As := [.int (iz x1)]) (rest := []) dX9_part_50 zcX9_104 ztX9_hasGate rfl rfl (Nat.le_of_ble_eq_true rfl) (c_X9_hasGate hx1) (fun hr13 => ?_)
          refine zV_if_eq (pc := 53) (tgt := 71) dX9_part_53 (by decide) (inR_b2i _) (fun c15 => ?_) (fun c15 => ?_)
          · replace c15 := b2i_fp c15
            replace h := h.2 c15
            refine zV_aloadr_n (pc := 71) dX9_part_71 rfl 0 rfl ?_
            refine zV_getR (pc := 72) (b := 1) dX9_part_72 zfX9_10 rfl rfl rfl ?_
            refine zV_getI (pc := 75) (kz := 6) dX9_part_75 zfX9_111 rfl rfl rfl ?_
            refine zV_bipush (pc := 78) dX9_part_78 (by decide) ?_
            refine zV_icmp_lt (pc := 80) (tgt := 86) dX9_part_80 (by decide) (hm0 _ _) (inRd rfl) (fun c16 => ?_) (fun c16 => ?_)
            · skip
              replace h := h.1 c16
              refine zV_aloadr_n (pc := 86) dX9_part_86 rfl 0 rfl ?_
              refine zV_getR (pc := 87) (b := 1) dX9_part_87 zfX9_10 rfl rfl rfl ?_
              refine zV_getR (pc := 90) (b := 2) dX9_part_90 zfX9_114 rfl rfl rfl ?_
              refine zV_aloadr_n (pc := 93) dX9_part_93 rfl 0 rfl ?_
              refine zV_getR (pc := 94) (b := 1) dX9_part_94 zfX9_10 rfl rfl rfl ?_
              refine zV_getI (pc := 97) (kz := 6) dX9_part_97 zfX9_111 rfl rfl rfl ?_
              obtain ⟨o17, o18, h⟩ := h
              refine zV_aald (pc := 100) dX9_part_100 rfl o17 o18 (inR_ix o17 o18 rfl) (zPn1_p o17 o18) ?_
              refine zV_iload_n (pc := 101) dX9_part_101 rfl 1 rfl ?_
              refine zV_iload_n (pc := 102) dX9_part_102 rfl 2 rfl ?_
              refine zV_iload_n (pc := 103) dX9_part_103 rfl 3 rfl ?_
              refine zV_iload (pc := 104) dX9_part_104 4 rfl ?_
              refine zV_iload (pc := 106) dX9_part_106 5 rfl ?_
              refine zV_callV (pc := 108) (mc := mX3_become) (As := [.int (iz x1), .int (iz x2), .int (iz x3), .int (iz x4), .int (iz x5)]) (rest := []) dX9_part_108 zcX9_118 ziX3_become zsX3_become (zPn1_s o17 o18) rfl rfl rfl (Nat.le_of_ble_eq_true rfl) h (fun r19 m20 hr19 h => zV_ok (fun hm20 => ?_))
              replace h := h hr19 hm20
              refine zV_aloadr_n (pc := 111) dX9_part_111 rfl 0 rfl ?_
              refine zV_getR (pc := 112) (b := 1) dX9_part_112 zfX9_10 rfl rfl rfl ?_
              refine zV_dup (pc := 115) dX9_part_115 rfl ?_
              refine zV_getI (pc := 116) (kz := 6) dX9_part_116 zfX9_111 rfl rfl rfl ?_
              refine zV_iconst (pc := 119) dX9_part_119 ?_
              refine zV_iadd (pc := 120) dX9_part_120 ?_
              obtain ⟨o21, h⟩ := h
              refine zV_putI (pc := 121) (kz := 6) dX9_part_121 zpX9_111 rfl rfl rfl o21 rfl rfl ?_
              refine zV_mem (fun m22 e23 => zV_ok (fun hm22 => ?_))
              replace h := h m22 e23 hm22
              refine zV_aloadr_n (pc := 124) dX9_part_124 rfl 0 rfl ?_
              refine zV_getR (pc := 125) (b := 1) dX9_part_125 zfX9_10 rfl rfl rfl ?_
              refine zV_getI (pc := 128) (kz := 6) dX9_part_128 zfX9_111 rfl rfl rfl ?_
              refine zV_iconst (pc := 131) dX9_part_131 ?_
              refine zV_isub (pc := 132) dX9_part_132 ?_
              obtain ⟨o24, h⟩ := h
              exact zV_iret (pc := 133) rfl dX9_part_133 o24 h
            · skip
              replace h := h.2 c16
              refine zV_bipush (pc := 83) dX9_part_83 (by decide) ?_
              exact zV_iret (pc := 85) rfl dX9_part_85 (inRd rfl) h
          · replace c15 := b2i_tp c15
            replace h := h.1 c15
            refine zV_aloadr_n (pc := 56) dX9_part_56 rfl 0 rfl ?_
            refine zV_getR (pc := 57) (b := 1) dX9_part_57 zfX9_10 rfl rfl rfl ?_
            refine zV_iload_n (pc := 60) dX9_part_60 rfl 1 rfl ?_
            refine zV_iload (pc := 61) dX9_part_61 5 rfl ?_
            refine zV_callV (pc := 63) (mc := mX4_isGate) (As := [.int (iz x1), .int (iz x5)]) (rest := []) dX9_part_63 zcX9_107 ziX4_isGate zsX4_isGate rfl rfl rfl rfl (Nat.le_of_ble_eq_true rfl) h (fun r25 m26 hr25 h => zV_ok (fun hm26 => ?_))
            replace h := h hr25 hm26
            refine zV_if_ne (pc := 66) (tgt := 71) dX9_part_66 (by decide) hr25 (fun c27 => ?_) (fun c27 => ?_)
            · skip
              replace h := h.2 c27
              refine zV_aloadr_n (pc := 71) dX9_part_71 rfl 0 rfl ?_
              refine zV_getR (pc := 72) (b := 1) dX9_part_72 zfX9_10 rfl rfl rfl ?_
              refine zV_getI (pc := 75) (kz := 6) dX9_part_75 zfX9_111 rfl rfl rfl ?_
              refine zV_bipush (pc := 78) dX9_part_78 (by decide) ?_
              refine zV_icmp_lt (pc := 80) (tgt := 86) dX9_part_80 (by decide) (hm26 _ _) (inRd rfl) (fun c28 => ?_) (fun c28 => ?_)
              · skip
                replace h := h.1 c28
                refine zV_aloadr_n (pc := 86) dX9_part_86 rfl 0 rfl ?_
                refine zV_getR (pc := 87) (b := 1) dX9_part_87 zfX9_10 rfl rfl rfl ?_
                refine zV_getR (pc := 90) (b := 2) dX9_part_90 zfX9_114 rfl rfl rfl ?_
                refine zV_aloadr_n (pc := 93) dX9_part_93 rfl 0 rfl ?_
                refine zV_getR (pc := 94) (b := 1) dX9_part_94 zfX9_10 rfl rfl rfl ?_
                refine zV_getI (pc := 97) (kz := 6) dX9_part_97 zfX9_111 rfl rfl rfl ?_
                obtain ⟨o29, o30, h⟩ := h
                refine zV_aald (pc := 100) dX9_part_100 rfl o29 o30 (inR_ix o29 o30 rfl) (zPn1_p o29 o30) ?_
                refine zV_iload_n (pc := 101) dX9_part_101 rfl 1 rfl ?_
                refine zV_iload_n (pc := 102) dX9_part_102 rfl 2 rfl ?_
                refine zV_iload_n (pc := 103) dX9_part_103 rfl 3 rfl ?_
                refine zV_iload (pc := 104) dX9_part_104 4 rfl ?_
                refine zV_iload (pc := 106) dX9_part_106 5 rfl ?_
                refine zV_callV (pc := 108) (mc := mX3_become) (As := [.int (iz x1), .int (iz x2), .int (iz x3), .int (iz x4), .int (iz x5)]) (rest := []) dX9_part_108 zcX9_118 ziX3_become zsX3_become (zPn1_s o29 o30) rfl rfl rfl (Nat.le_of_ble_eq_true rfl) h (fun r31 m32 hr31 h => zV_ok (fun hm32 => ?_))
                replace h := h hr31 hm32
                refine zV_aloadr_n (pc := 111) dX9_part_111 rfl 0 rfl ?_
                refine zV_getR (pc := 112) (b := 1) dX9_part_112 zfX9_10 rfl rfl rfl ?_
                refine zV_dup (pc := 115) dX9_part_115 rfl ?_
                refine zV_getI (pc := 116) (kz := 6) dX9_part_116 zfX9_111 rfl rfl rfl ?_
                refine zV_iconst (pc := 119) dX9_part_119 ?_
                refine zV_iadd (pc := 120) dX9_part_120 ?_
                obtain ⟨o33, h⟩ := h
                refine zV_putI (pc := 121) (kz := 6) dX9_part_121 zpX9_111 rfl rfl rfl o33 rfl rfl ?_
                refine zV_mem (fun m34 e35 => zV_ok (fun hm34 => ?_))
                replace h := h m34 e35 hm34
                refine zV_aloadr_n (pc := 124) dX9_part_124 rfl 0 rfl ?_
                refine zV_getR (pc := 125) (b := 1) dX9_part_125 zfX9_10 rfl rfl rfl ?_
                refine zV_getI (pc := 128) (kz := 6) dX9_part_128 zfX9_111 rfl rfl rfl ?_
                refine zV_iconst (pc := 131) dX9_part_131 ?_
                refine zV_isub (pc := 132) dX9_part_132 ?_
                obtain ⟨o36, h⟩ := h
                exact zV_iret (pc := 133) rfl dX9_part_133 o36 h
              · skip
                replace h := h.2 c28
                refine zV_bipush (pc := 83) dX9_part_83 (by decide) ?_
                exact zV_iret (pc := 85) rfl dX9_part_85 (inRd rfl) h
            · replace c27 := Classical.not_not.mp c27
              replace h := h.1 c27
              refine zV_iconst (pc := 69) dX9_part_69 ?_
              exact zV_iret (pc := 70) rfl dX9_part_70 (inRd rfl) h
        · replace c12 := b2i_tp c12
          replace h := h.1 c12
          refine zV_aloadr_n (pc := 35) dX9_part_35 rfl 0 rfl ?_
          refine zV_getR (pc := 36) (b := 1) dX9_part_36 zfX9_10 rfl rfl rfl ?_
          refine zV_iload (pc := 39) dX9_part_39 4 rfl ?_
          refine zV_callVf (pc := 41) (mc := mX4_isLaw) (As := [.int (iz x4)]) (rest := []) dX9_part_41 zcX9_101 ziX4_isLaw zsX4_isLaw rfl rfl rfl rfl (Nat.le_of_ble_eq_true rfl) (c_X4_isLaw (Or.inl rfl) hx4 hm0) (fun hr37 => ?_)
          refine zV_if_ne (pc := 44) (tgt := 49) dX9_part_44 (by decide) (inR_b2i _) (fun c39 => ?_) (fun c39 => ?_)
          · replace c39 := b2i_tp c39
            replace h := h.1 c39
            refine zV_iload_n (pc := 49) dX9_part_49 rfl 1 rfl ?_
            refine zV_callSf (pc := 50) (mc := mX9_hasGate) (As := [.int (iz x1)]) (rest := []) dX9_part_50 zcX9_104 ztX9_hasGate rfl rfl (Nat.le_of_ble_eq_true rfl) (c_X9_hasGate hx1) (fun hr40 => ?_)
            refine zV_if_eq (pc := 53) (tgt := 71) dX9_part_53 (by decide) (inR_b2i _) (fun c42 => ?_) (fun c42 => ?_)
            · replace c42 := b2i_fp c42
              replace h := h.2 c42
              refine zV_aloadr_n (pc := 71) dX9_part_71 rfl 0 rfl ?_
              refine zV_getR (pc := 72) (b := 1) dX9_part_72 zfX9_10 rfl rfl rfl ?_
              refine zV_getI (pc := 75) (kz := 6) dX9_part_75 zfX9_111 rfl rfl rfl ?_
              refine zV_bipush (pc := 78) dX9_part_78 (by decide) ?_
              refine zV_icmp_lt (pc := 80) (tgt := 86) dX9_part_80 (by decide) (hm0 _ _) (inRd rfl) (fun c43 => ?_) (fun c43 => ?_)
              · skip
                replace h := h.1 c43
                refine zV_aloadr_n (pc := 86) dX9_part_86 rfl 0 rfl ?_
                refine zV_getR (pc := 87) (b := 1) dX9_part_87 zfX9_10 rfl rfl rfl ?_
                refine zV_getR (pc := 90) (b := 2) dX9_part_90 zfX9_114 rfl rfl rfl ?_
                refine zV_aloadr_n (pc := 93) dX9_part_93 rfl 0 rfl ?_
                refine zV_getR (pc := 94) (b := 1) dX9_part_94 zfX9_10 rfl rfl rfl ?_
                refine zV_getI (pc := 97) (kz := 6) dX9_part_97 zfX9_111 rfl rfl rfl ?_
                obtain ⟨o44, o45, h⟩ := h
                refine zV_aald (pc := 100) dX9_part_100 rfl o44 o45 (inR_ix o44 o45 rfl) (zPn1_p o44 o45) ?_
                refine zV_iload_n (pc := 101) dX9_part_101 rfl 1 rfl ?_
                refine zV_iload_n (pc := 102) dX9_part_102 rfl 2 rfl ?_
                refine zV_iload_n (pc := 103) dX9_part_103 rfl 3 rfl ?_
                refine zV_iload (pc := 104) dX9_part_104 4 rfl ?_
                refine zV_iload (pc := 106) dX9_part_106 5 rfl ?_
                refine zV_callV (pc := 108) (mc := mX3_become) (As := [.int (iz x1), .int (iz x2), .int (iz x3), .int (iz x4), .int (iz x5)]) (rest := []) dX9_part_108 zcX9_118 ziX3_become zsX3_become (zPn1_s o44 o45) rfl rfl rfl (Nat.le_of_ble_eq_true rfl) h (fun r46 m47 hr46 h => zV_ok (fun hm47 => ?_))
                replace h := h hr46 hm47
                refine zV_aloadr_n (pc := 111) dX9_part_111 rfl 0 rfl ?_
                refine zV_getR (pc := 112) (b := 1) dX9_part_112 zfX9_10 rfl rfl rfl ?_
                refine zV_dup (pc := 115) dX9_part_115 rfl ?_
                refine zV_getI (pc := 116) (kz := 6) dX9_part_116 zfX9_111 rfl rfl rfl ?_
                refine zV_iconst (pc := 119) dX9_part_119 ?_
                refine zV_iadd (pc := 120) dX9_part_120 ?_
                obtain ⟨o48, h⟩ := h
                refine zV_putI (pc := 121) (kz := 6) dX9_part_121 zpX9_111 rfl rfl rfl o48 rfl rfl ?_
                refine zV_mem (fun m49 e50 => zV_ok (fun hm49 => ?_))
                replace h := h m49 e50 hm49
                refine zV_aloadr_n (pc := 124) dX9_part_124 rfl 0 rfl ?_
                refine zV_getR (pc := 125) (b := 1) dX9_part_125 zfX9_10 rfl rfl rfl ?_
                refine zV_getI (pc := 128) (kz := 6) dX9_part_128 zfX9_111 rfl rfl rfl ?_
                refine zV_iconst (pc := 131) dX9_part_131 ?_
                refine zV_isub (pc := 132) dX9_part_132 ?_
                obtain ⟨o51, h⟩ := h
                exact zV_iret (pc := 133) rfl dX9_part_133 o51 h
              · skip
                replace h := h.2 c43
                refine zV_bipush (pc := 83) dX9_part_83 (by decide) ?_
                exact zV_iret (pc := 85) rfl dX9_part_85 (inRd rfl) h
            · replace c42 := b2i_tp c42
              replace h := h.1 c42
              refine zV_aloadr_n (pc := 56) dX9_part_56 rfl 0 rfl ?_
              refine zV_getR (pc := 57) (b := 1) dX9_part_57 zfX9_10 rfl rfl rfl ?_
              refine zV_iload_n (pc := 60) dX9_part_60 rfl 1 rfl ?_
              refine zV_iload (pc := 61) dX9_part_61 5 rfl ?_
              refine zV_callV (pc := 63) (mc := mX4_isGate) (As := [.int (iz x1), .int (iz x5)]) (rest := []) dX9_part_63 zcX9_107 ziX4_isGate zsX4_isGate rfl rfl rfl rfl (Nat.le_of_ble_eq_true rfl) h (fun r52 m53 hr52 h => zV_ok (fun hm53 => ?_))
              replace h := h hr52 hm53
              refine zV_if_ne (pc := 66) (tgt := 71) dX9_part_66 (by decide) hr52 (fun c54 => ?_) (fun c54 => ?_)
              · skip
                replace h := h.2 c54
                refine zV_aloadr_n (pc := 71) dX9_part_71 rfl 0 rfl ?_
                refine zV_getR (pc := 72) (b := 1) dX9_part_72 zfX9_10 rfl rfl rfl ?_
                refine zV_getI (pc := 75) (kz := 6) dX9_part_75 zfX9_111 rfl rfl rfl ?_
                refine zV_bipush (pc := 78) dX9_part_78 (by decide) ?_
                refine zV_icmp_lt (pc := 80) (tgt := 86) dX9_part_80 (by decide) (hm53 _ _) (inRd rfl) (fun c55 => ?_) (fun c55 => ?_)
                · skip
                  replace h := h.1 c55
                  refine zV_aloadr_n (pc := 86) dX9_part_86 rfl 0 rfl ?_
                  refine zV_getR (pc := 87) (b := 1) dX9_part_87 zfX9_10 rfl rfl rfl ?_
                  refine zV_getR (pc := 90) (b := 2) dX9_part_90 zfX9_114 rfl rfl rfl ?_
                  refine zV_aloadr_n (pc := 93) dX9_part_93 rfl 0 rfl ?_
                  refine zV_getR (pc := 94) (b := 1) dX9_part_94 zfX9_10 rfl rfl rfl ?_
                  refine zV_getI (pc := 97) (kz := 6) dX9_part_97 zfX9_111 rfl rfl rfl ?_
                  obtain ⟨o56, o57, h⟩ := h
                  refine zV_aald (pc := 100) dX9_part_100 rfl o56 o57 (inR_ix o56 o57 rfl) (zPn1_p o56 o57) ?_
                  refine zV_iload_n (pc := 101) dX9_part_101 rfl 1 rfl ?_
                  refine zV_iload_n (pc := 102) dX9_part_102 rfl 2 rfl ?_
                  refine zV_iload_n (pc := 103) dX9_part_103 rfl 3 rfl ?_
                  refine zV_iload (pc := 104) dX9_part_104 4 rfl ?_
                  refine zV_iload (pc := 106) dX9_part_106 5 rfl ?_
                  refine zV_callV (pc := 108) (mc := mX3_become) (As := [.int (iz x1), .int (iz x2), .int (iz x3), .int (iz x4), .int (iz x5)]) (rest := []) dX9_part_108 zcX9_118 ziX3_become zsX3_become (zPn1_s o56 o57) rfl rfl rfl (Nat.le_of_ble_eq_true rfl) h (fun r58 m59 hr58 h => zV_ok (fun hm59 => ?_))
                  replace h := h hr58 hm59
                  refine zV_aloadr_n (pc := 111) dX9_part_111 rfl 0 rfl ?_
                  refine zV_getR (pc := 112) (b := 1) dX9_part_112 zfX9_10 rfl rfl rfl ?_
                  refine zV_dup (pc := 115) dX9_part_115 rfl ?_
                  refine zV_getI (pc := 116) (kz := 6) dX9_part_116 zfX9_111 rfl rfl rfl ?_
                  refine zV_iconst (pc := 119) dX9_part_119 ?_
                  refine zV_iadd (pc := 120) dX9_part_120 ?_
                  obtain ⟨o60, h⟩ := h
                  refine zV_putI (pc := 121) (kz := 6) dX9_part_121 zpX9_111 rfl rfl rfl o60 rfl rfl ?_
                  refine zV_mem (fun m61 e62 => zV_ok (fun hm61 => ?_))
                  replace h := h m61 e62 hm61
                  refine zV_aloadr_n (pc := 124) dX9_part_124 rfl 0 rfl ?_
                  refine zV_getR (pc := 125) (b := 1) dX9_part_125 zfX9_10 rfl rfl rfl ?_
                  refine zV_getI (pc := 128) (kz := 6) dX9_part_128 zfX9_111 rfl rfl rfl ?_
                  refine zV_iconst (pc := 131) dX9_part_131 ?_
                  refine zV_isub (pc := 132) dX9_part_132 ?_
                  obtain ⟨o63, h⟩ := h
                  exact zV_iret (pc := 133) rfl dX9_part_133 o63 h
                · skip
                  replace h := h.2 c55
                  refine zV_bipush (pc := 83) dX9_part_83 (by decide) ?_
                  exact zV_iret (pc := 85) rfl dX9_part_85 (inRd rfl) h
              · replace c54 := Classical.not_not.mp c54
                replace h := h.1 c54
                refine zV_iconst (pc := 69) dX9_part_69 ?_
                exact zV_iret (pc := 70) rfl dX9_part_70 (inRd rfl) h
          · replace c39 := b2i_fn c39
            replace h := h.2 c39
            refine zV_iconst (pc := 47) dX9_part_47 ?_
            exact zV_iret (pc := 48) rfl dX9_part_48 (inRd rfl) h
      · replace c9 := b2i_fn c9
        replace h := h.2 c9
        refine zV_iconst (pc := 26) dX9_part_26 ?_
        exact zV_iret (pc := 27) rfl dX9_part_27 (inRd rfl) h

set_option maxRecDepth 100000 in
set_option maxHeartbeats 4000000 in
theorem vc_X9_partOf_0 {K : zCx} {d : Nat} (x1 : Int) (x2 : Int) (m0 : zM) {Q : Int → zM → Prop} (hx1 : inR x1) (hx2 : inR x2) (h : zok m0 → (0 ≤ m0.1 1 6) ∧ (((0 ≤ x1 ∧ x1 < m0.1 1 6) → 0 ≤ x1 ∧ x1 < 10 ∧ (zCt K (d + 2) mX3_told [rr K (10 + x1), .int (iz x2)] m0 (fun r7 m8 => inR r7 → zok m8 → Q r7 m8))) ∧ (¬ ((0 ≤ x1 ∧ x1 < m0.1 1 6)) → Q (-1) m0))) : zV K mX9_partOf (d + 3) 0 [(0, rr K 0), (1, .int (iz x1)), (2, .int (iz x2))] [] m0 Q := by
  refine zV_ok (fun hm0 => ?_)
  replace h := h hm0
  refine zV_aloadr_n (pc := 0) dX9_partOf_0 rfl 0 rfl ?_
  refine zV_getR (pc := 1) (b := 1) dX9_partOf_1 zfX9_10 rfl rfl rfl ?_
  refine zV_iload_n (pc := 4) dX9_partOf_4 rfl 1 rfl ?_
  obtain ⟨o1, h⟩ := h
  refine zV_callVf (pc := 5) (mc := mX4_hasPart) (As := [.int (iz x1)]) (rest := []) dX9_partOf_5 zcX9_124 ziX4_hasPart zsX4_hasPart rfl rfl rfl rfl (Nat.le_of_ble_eq_true rfl) (c_X4_hasPart (Or.inl rfl) hx1 hm0 o1) (fun hr2 => ?_)
  refine zV_if_ne (pc := 8) (tgt := 13) dX9_partOf_8 (by decide) (inR_b2i _) (fun c4 => ?_) (fun c4 => ?_)
  · replace c4 := b2i_tp c4
    replace h := h.1 c4
    refine zV_aloadr_n (pc := 13) dX9_partOf_13 rfl 0 rfl ?_
    refine zV_getR (pc := 14) (b := 1) dX9_partOf_14 zfX9_10 rfl rfl rfl ?_
    refine zV_getR (pc := 17) (b := 2) dX9_partOf_17 zfX9_114 rfl rfl rfl ?_
    refine zV_iload_n (pc := 20) dX9_partOf_20 rfl 1 rfl ?_
    obtain ⟨o5, o6, h⟩ := h
    refine zV_aald (pc := 21) dX9_partOf_21 rfl o5 o6 (inR_ix o5 o6 rfl) (zPn1_p o5 o6) ?_
    refine zV_iload_n (pc := 22) dX9_partOf_22 rfl 2 rfl ?_
    refine zV_callV (pc := 23) (mc := mX3_told) (As := [.int (iz x2)]) (rest := []) dX9_partOf_23 zcX9_127 ziX3_told zsX3_told (zPn1_s o5 o6) rfl rfl rfl (Nat.le_of_ble_eq_true rfl) h (fun r7 m8 hr7 h => zV_ok (fun hm8 => ?_))
    replace h := h hr7 hm8
    exact zV_iret (pc := 26) rfl dX9_partOf_26 hr7 h
  · replace c4 := b2i_fn c4
    replace h := h.2 c4
    refine zV_iconst (pc := 11) dX9_partOf_11 ?_
    exact zV_iret (pc := 12) rfl dX9_partOf_12 (inRd rfl) h

set_option maxRecDepth 100000 in
set_option maxHeartbeats 4000000 in
theorem vc_X9_size_0 {K : zCx} {d : Nat} (x1 : Int) (x2 : Int) (m0 : zM) {Q : Int → zM → Prop} (hx1 : inR x1) (hx2 : inR x2) (h : zok m0 → (0 ≤ m0.1 1 6) ∧ (((0 ≤ x1 ∧ x1 < m0.1 1 6) → ((1 ≤ x2 ∧ x2 ≤ 9) → 0 ≤ x1 ∧ x1 < 10 ∧ (∀ v10 : Int, v10 = (m0.1 (10 + x1) 3) → (∀ m12 : zM, m12 = sI m0 (10 + x1) 3 x2 → zok m12 → (Q v10 m12)))) ∧ (¬ ((1 ≤ x2 ∧ x2 ≤ 9)) → Q (-1) m0)) ∧ (¬ ((0 ≤ x1 ∧ x1 < m0.1 1 6)) → Q (-1) m0))) : zV K mX9_size (d + 3) 0 [(0, rr K 0), (1, .int (iz x1)), (2, .int (iz x2))] [] m0 Q := by
  refine zV_ok (fun hm0 => ?_)
  replace h := h hm0
  refine zV_aloadr_n (pc := 0) dX9_size_0 rfl 0 rfl ?_
  refine zV_getR (pc := 1) (b := 1) dX9_size_1 zfX9_10 rfl rfl rfl ?_
  refine zV_iload_n (pc := 4) dX9_size_4 rfl 1 rfl ?_
  obtain ⟨o1, h⟩ := h
  refine zV_callVf (pc := 5) (mc := mX4_hasPart) (As := [.int (iz x1)]) (rest := []) dX9_size_5 zcX9_124 ziX4_hasPart zsX4_hasPart rfl rfl rfl rfl (Nat.le_of_ble_eq_true rfl) (c_X4_hasPart (Or.inl rfl) hx1 hm0 o1) (fun hr2 => ?_)
  refine zV_if_eq (pc := 8) (tgt := 21) dX9_size_8 (by decide) (inR_b2i _) (fun c4 => ?_) (fun c4 => ?_)
  · replace c4 := b2i_fp c4
    replace h := h.2 c4
    refine zV_iconst (pc := 21) dX9_size_21 ?_
    exact zV_iret (pc := 22) rfl dX9_size_22 (inRd rfl) h
  · replace c4 := b2i_tp c4
    replace h := h.1 c4
    refine zV_iload_n (pc := 11) dX9_size_11 rfl 2 rfl ?_
    refine zV_iconst (pc := 12) dX9_size_12 ?_
    refine zV_bipush (pc := 13) dX9_size_13 (by decide) ?_
    refine zV_callSf (pc := 15) (mc := mX9_within) (As := [.int (iz x2), .int (iz 1), .int (iz 9)]) (rest := []) dX9_size_15 zcX9_74 ztX9_within rfl rfl (Nat.le_of_ble_eq_true rfl) (c_X9_within hx2 (inRd rfl) (inRd rfl)) (fun hr5 => ?_)
    refine zV_if_ne (pc := 18) (tgt := 23) dX9_size_18 (by decide) (inR_b2i _) (fun c7 => ?_) (fun c7 => ?_)
    · replace c7 := b2i_tp c7
      replace h := h.1 c7
      refine zV_aloadr_n (pc := 23) dX9_size_23 rfl 0 rfl ?_
      refine zV_getR (pc := 24) (b := 1) dX9_size_24 zfX9_10 rfl rfl rfl ?_
      refine zV_getR (pc := 27) (b := 2) dX9_size_27 zfX9_114 rfl rfl rfl ?_
      refine zV_iload_n (pc := 30) dX9_size_30 rfl 1 rfl ?_
      obtain ⟨o8, o9, h⟩ := h
      refine zV_aald (pc := 31) dX9_size_31 rfl o8 o9 (inR_ix o8 o9 rfl) (zPn1_p o8 o9) ?_
      refine zV_getI (pc := 32) (kz := 3) dX9_size_32 zfX9_131 (zPn1_s o8 o9) rfl rfl ?_
      refine zV_name (fun v10 e11 => ?_)
      replace h := h v10 e11
      have hrv10 : inR v10 := by rw [e11]; exact (hm0 _ _)
      refine zV_istore_n (pc := 35) (loc' := [(3, .int (iz v10)), (0, rr K 0), (1, .int (iz x1)), (2, .int (iz x2))]) dX9_size_35 rfl (by decide) rfl ?_
      refine zV_aloadr_n (pc := 36) dX9_size_36 rfl 1 rfl ?_
      refine zV_getR (pc := 37) (b := 1) dX9_size_37 zfX9_10 rfl rfl rfl ?_
      refine zV_getR (pc := 40) (b := 2) dX9_size_40 zfX9_114 rfl rfl rfl ?_
      refine zV_iload_n (pc := 43) dX9_size_43 rfl 2 rfl ?_
      refine zV_aald (pc := 44) dX9_size_44 rfl o8 o9 (inR_ix o8 o9 rfl) (zPn1_p o8 o9) ?_
      refine zV_iload_n (pc := 45) dX9_size_45 rfl 3 rfl ?_
      refine zV_putI (pc := 46) (kz := 3) dX9_size_46 zpX9_131 (zPn1_s o8 o9) rfl rfl hx2 rfl rfl ?_
      refine zV_mem (fun m12 e13 => zV_ok (fun hm12 => ?_))
      replace h := h m12 e13 hm12
      refine zV_iload_n (pc := 49) dX9_size_49 rfl 0 rfl ?_
      exact zV_iret (pc := 50) rfl dX9_size_50 hrv10 h
    · replace c7 := b2i_fn c7
      replace h := h.2 c7
      refine zV_iconst (pc := 21) dX9_size_21 ?_
      exact zV_iret (pc := 22) rfl dX9_size_22 (inRd rfl) h

set_option maxRecDepth 100000 in
set_option maxHeartbeats 4000000 in
theorem vc_X9_breaks_0 {K : zCx} {d : Nat} (x1 : Int) (x2 : Int) (m0 : zM) {Q : Int → zM → Prop} (hx1 : inR x1) (hx2 : inR x2) (h : zok m0 → (0 ≤ m0.1 1 6) ∧ (((0 ≤ x1 ∧ x1 < m0.1 1 6) → ((0 ≤ x2 ∧ x2 ≤ 2) → 0 ≤ x1 ∧ x1 < 10 ∧ (∀ v10 : Int, v10 = (m0.1 (10 + x1) 4) → (∀ m12 : zM, m12 = sI m0 (10 + x1) 4 x2 → zok m12 → (Q v10 m12)))) ∧ (¬ ((0 ≤ x2 ∧ x2 ≤ 2)) → Q (-1) m0)) ∧ (¬ ((0 ≤ x1 ∧ x1 < m0.1 1 6)) → Q (-1) m0))) : zV K mX9_breaks (d + 3) 0 [(0, rr K 0), (1, .int (iz x1)), (2, .int (iz x2))] [] m0 Q := by
  refine zV_ok (fun hm0 => ?_)
  replace h := h hm0
  refine zV_aloadr_n (pc := 0) dX9_breaks_0 rfl 0 rfl ?_
  refine zV_getR (pc := 1) (b := 1) dX9_breaks_1 zfX9_10 rfl rfl rfl ?_
  refine zV_iload_n (pc := 4) dX9_breaks_4 rfl 1 rfl ?_
  obtain ⟨o1, h⟩ := h
  refine zV_callVf (pc := 5) (mc := mX4_hasPart) (As := [.int (iz x1)]) (rest := []) dX9_breaks_5 zcX9_124 ziX4_hasPart zsX4_hasPart rfl rfl rfl rfl (Nat.le_of_ble_eq_true rfl) (c_X4_hasPart (Or.inl rfl) hx1 hm0 o1) (fun hr2 => ?_)
  refine zV_if_eq (pc := 8) (tgt := 20) dX9_breaks_8 (by decide) (inR_b2i _) (fun c4 => ?_) (fun c4 => ?_)
  · replace c4 := b2i_fp c4
    replace h := h.2 c4
    refine zV_iconst (pc := 20) dX9_breaks_20 ?_
    exact zV_iret (pc := 21) rfl dX9_breaks_21 (inRd rfl) h
  · replace c4 := b2i_tp c4
    replace h := h.1 c4
    refine zV_iload_n (pc := 11) dX9_breaks_11 rfl 2 rfl ?_
    refine zV_iconst (pc := 12) dX9_breaks_12 ?_
    refine zV_iconst (pc := 13) dX9_breaks_13 ?_
    refine zV_callSf (pc := 14) (mc := mX9_within) (As := [.int (iz x2), .int (iz 0), .int (iz 2)]) (rest := []) dX9_breaks_14 zcX9_74 ztX9_within rfl rfl (Nat.le_of_ble_eq_true rfl) (c_X9_within hx2 (inRd rfl) (inRd rfl)) (fun hr5 => ?_)
    refine zV_if_ne (pc := 17) (tgt := 22) dX9_breaks_17 (by decide) (inR_b2i _) (fun c7 => ?_) (fun c7 => ?_)
    · replace c7 := b2i_tp c7
      replace h := h.1 c7
      refine zV_aloadr_n (pc := 22) dX9_breaks_22 rfl 0 rfl ?_
      refine zV_getR (pc := 23) (b := 1) dX9_breaks_23 zfX9_10 rfl rfl rfl ?_
      refine zV_getR (pc := 26) (b := 2) dX9_breaks_26 zfX9_114 rfl rfl rfl ?_
      refine zV_iload_n (pc := 29) dX9_breaks_29 rfl 1 rfl ?_
      obtain ⟨o8, o9, h⟩ := h
      refine zV_aald (pc := 30) dX9_breaks_30 rfl o8 o9 (inR_ix o8 o9 rfl) (zPn1_p o8 o9) ?_
      refine zV_getI (pc := 31) (kz := 4) dX9_breaks_31 zfX9_134 (zPn1_s o8 o9) rfl rfl ?_
      refine zV_name (fun v10 e11 => ?_)
      replace h := h v10 e11
      have hrv10 : inR v10 := by rw [e11]; exact (hm0 _ _)
      refine zV_istore_n (pc := 34) (loc' := [(3, .int (iz v10)), (0, rr K 0), (1, .int (iz x1)), (2, .int (iz x2))]) dX9_breaks_34 rfl (by decide) rfl ?_
      refine zV_aloadr_n (pc := 35) dX9_breaks_35 rfl 1 rfl ?_
      refine zV_getR (pc := 36) (b := 1) dX9_breaks_36 zfX9_10 rfl rfl rfl ?_
      refine zV_getR (pc := 39) (b := 2) dX9_breaks_39 zfX9_114 rfl rfl rfl ?_
      refine zV_iload_n (pc := 42) dX9_breaks_42 rfl 2 rfl ?_
      refine zV_aald (pc := 43) dX9_breaks_43 rfl o8 o9 (inR_ix o8 o9 rfl) (zPn1_p o8 o9) ?_
      refine zV_iload_n (pc := 44) dX9_breaks_44 rfl 3 rfl ?_
      refine zV_putI (pc := 45) (kz := 4) dX9_breaks_45 zpX9_134 (zPn1_s o8 o9) rfl rfl hx2 rfl rfl ?_
      refine zV_mem (fun m12 e13 => zV_ok (fun hm12 => ?_))
      replace h := h m12 e13 hm12
      refine zV_iload_n (pc := 48) dX9_breaks_48 rfl 0 rfl ?_
      exact zV_iret (pc := 49) rfl dX9_breaks_49 hrv10 h
    · replace c7 := b2i_fn c7
      replace h := h.2 c7
      refine zV_iconst (pc := 20) dX9_breaks_20 ?_
      exact zV_iret (pc := 21) rfl dX9_breaks_21 (inRd rfl) h

set_option maxRecDepth 100000 in
set_option maxHeartbeats 4000000 in
theorem vc_X9_drop_0 {K : zCx} {d : Nat}  (m0 : zM) {Q : Int → zM → Prop}  (h : zok m0 → ((m0.1 1 6) = 0 → Q (-3) m0) ∧ (¬ ((m0.1 1 6) = 0) → inR ((m0.1 1 6) - 1) ∧ (∀ m3 : zM, m3 = sI m0 1 6 ((m0.1 1 6) - 1) → zok m3 → (zCt K (d + 1) mX4_dropChangesOf [rr K 1, .int (iz (m3.1 1 6))] m3 (fun r5 m6 => inR r5 → zok m6 → Q (m6.1 1 6) m6))))) : zV K mX9_drop (d + 2) 0 [(0, rr K 0)] [] m0 Q := by
  refine zV_ok (fun hm0 => ?_)
  replace h := h hm0
  refine zV_aloadr_n (pc := 0) dX9_drop_0 rfl 0 rfl ?_
  refine zV_getR (pc := 1) (b := 1) dX9_drop_1 zfX9_10 rfl rfl rfl ?_
  refine zV_getI (pc := 4) (kz := 6) dX9_drop_4 zfX9_111 rfl rfl rfl ?_
  refine zV_if_ne (pc := 7) (tgt := 13) dX9_drop_7 (by decide) (hm0 _ _) (fun c1 => ?_) (fun c1 => ?_)
  · skip
    replace h := h.2 c1
    refine zV_aloadr_n (pc := 13) dX9_drop_13 rfl 0 rfl ?_
    refine zV_getR (pc := 14) (b := 1) dX9_drop_14 zfX9_10 rfl rfl rfl ?_
    refine zV_dup (pc := 17) dX9_drop_17 rfl ?_
    refine zV_getI (pc := 18) (kz := 6) dX9_drop_18 zfX9_111 rfl rfl rfl ?_
    refine zV_iconst (pc := 21) dX9_drop_21 ?_
    refine zV_isub (pc := 22) dX9_drop_22 ?_
    obtain ⟨o2, h⟩ := h
    refine zV_putI (pc := 23) (kz := 6) dX9_drop_23 zpX9_111 rfl rfl rfl o2 rfl rfl ?_
    refine zV_mem (fun m3 e4 => zV_ok (fun hm3 => ?_))
    replace h := h m3 e4 hm3
    refine zV_aloadr_n (pc := 26) dX9_drop_26 rfl 0 rfl ?_
    refine zV_getR (pc := 27) (b := 1) dX9_drop_27 zfX9_10 rfl rfl rfl ?_
    refine zV_aloadr_n (pc := 30) dX9_drop_30 rfl 0 rfl ?_
    refine zV_getR (pc := 31) (b := 1) dX9_drop_31 zfX9_10 rfl rfl rfl ?_
    refine zV_getI (pc := 34) (kz := 6) dX9_drop_34 zfX9_111 rfl rfl rfl ?_
    refine zV_callV (pc := 37) (mc := mX4_dropChangesOf) (As := [.int (iz (m3.1 1 6))]) (rest := []) dX9_drop_37 zcX9_137 ziX4_dropChangesOf zsX4_dropChangesOf rfl rfl rfl rfl (Nat.le_of_ble_eq_true rfl) h (fun r5 m6 hr5 h => zV_ok (fun hm6 => ?_))
    replace h := h hr5 hm6
    refine zV_aloadr_n (pc := 40) dX9_drop_40 rfl 0 rfl ?_
    refine zV_getR (pc := 41) (b := 1) dX9_drop_41 zfX9_10 rfl rfl rfl ?_
    refine zV_getI (pc := 44) (kz := 6) dX9_drop_44 zfX9_111 rfl rfl rfl ?_
    exact zV_iret (pc := 47) rfl dX9_drop_47 (hm6 _ _) h
  · replace c1 := Classical.not_not.mp c1
    replace h := h.1 c1
    refine zV_bipush (pc := 10) dX9_drop_10 (by decide) ?_
    exact zV_iret (pc := 12) rfl dX9_drop_12 (inRd rfl) h

set_option maxRecDepth 100000 in
set_option maxHeartbeats 4000000 in
theorem vc_X9_feedAt_0 {K : zCx} {d : Nat} (x1 : Int) (m0 : zM) {Q : Int → zM → Prop} (hx1 : inR x1) (h : zok m0 → ((0 ≤ x1 ∧ x1 ≤ 20) → ∀ v4 : Int, v4 = (m0.1 1 10) → (∀ m6 : zM, m6 = sI m0 1 10 x1 → zok m6 → (Q v4 m6))) ∧ (¬ ((0 ≤ x1 ∧ x1 ≤ 20)) → Q (-1) m0)) : zV K mX9_feedAt (d + 2) 0 [(0, rr K 0), (1, .int (iz x1))] [] m0 Q := by
  refine zV_ok (fun hm0 => ?_)
  replace h := h hm0
  refine zV_iload_n (pc := 0) dX9_feedAt_0 rfl 1 rfl ?_
  refine zV_iconst (pc := 1) dX9_feedAt_1 ?_
  refine zV_bipush (pc := 2) dX9_feedAt_2 (by decide) ?_
  refine zV_callSf (pc := 4) (mc := mX9_within) (As := [.int (iz x1), .int (iz 0), .int (iz 20)]) (rest := []) dX9_feedAt_4 zcX9_74 ztX9_within rfl rfl (Nat.le_of_ble_eq_true rfl) (c_X9_within hx1 (inRd rfl) (inRd rfl)) (fun hr1 => ?_)
  refine zV_if_ne (pc := 7) (tgt := 12) dX9_feedAt_7 (by decide) (inR_b2i _) (fun c3 => ?_) (fun c3 => ?_)
  · replace c3 := b2i_tp c3
    replace h := h.1 c3
    refine zV_aloadr_n (pc := 12) dX9_feedAt_12 rfl 0 rfl ?_
    refine zV_getR (pc := 13) (b := 1) dX9_feedAt_13 zfX9_10 rfl rfl rfl ?_
    refine zV_getI (pc := 16) (kz := 10) dX9_feedAt_16 zfX9_141 rfl rfl rfl ?_
    refine zV_name (fun v4 e5 => ?_)
    replace h := h v4 e5
    have hrv4 : inR v4 := by rw [e5]; exact (hm0 _ _)
    refine zV_istore_n (pc := 19) (loc' := [(2, .int (iz v4)), (0, rr K 0), (1, .int (iz x1))]) dX9_feedAt_19 rfl (by decide) rfl ?_
    refine zV_aloadr_n (pc := 20) dX9_feedAt_20 rfl 1 rfl ?_
    refine zV_getR (pc := 21) (b := 1) dX9_feedAt_21 zfX9_10 rfl rfl rfl ?_
    refine zV_iload_n (pc := 24) dX9_feedAt_24 rfl 2 rfl ?_
    refine zV_putI (pc := 25) (kz := 10) dX9_feedAt_25 zpX9_141 rfl rfl rfl hx1 rfl rfl ?_
    refine zV_mem (fun m6 e7 => zV_ok (fun hm6 => ?_))
    replace h := h m6 e7 hm6
    refine zV_iload_n (pc := 28) dX9_feedAt_28 rfl 0 rfl ?_
    exact zV_iret (pc := 29) rfl dX9_feedAt_29 hrv4 h
  · replace c3 := b2i_fn c3
    replace h := h.2 c3
    refine zV_iconst (pc := 10) dX9_feedAt_10 ?_
    exact zV_iret (pc := 11) rfl dX9_feedAt_11 (inRd rfl) h

set_option maxRecDepth 100000 in
set_option maxHeartbeats 4000000 in
theorem vc_X9_start_0 {K : zCx} {d : Nat} (x1 : Int) (m0 : zM) {Q : Int → zM → Prop} (hx1 : inR x1) (h : zok m0 → ((0 ≤ x1 ∧ x1 ≤ 9260) → ∀ v4 : Int, v4 = (m0.1 1 9) → (∀ m6 : zM, m6 = sI m0 1 9 x1 → zok m6 → (Q v4 m6))) ∧ (¬ ((0 ≤ x1 ∧ x1 ≤ 9260)) → Q (-1) m0)) : zV K mX9_start (d + 3) 0 [(0, rr K 0), (1, .int (iz x1))] [] m0 Q := by
  refine zV_ok (fun hm0 => ?_)
  replace h := h hm0
  refine zV_iload_n (pc := 0) dX9_start_0 rfl 1 rfl ?_
  refine zV_callSf (pc := 1) (mc := mX9_isState) (As := [.int (iz x1)]) (rest := []) dX9_start_1 zcX9_144 ztX9_isState rfl rfl (Nat.le_of_ble_eq_true rfl) (c_X9_isState hx1) (fun hr1 => ?_)
  refine zV_if_ne (pc := 4) (tgt := 9) dX9_start_4 (by decide) (inR_b2i _) (fun c3 => ?_) (fun c3 => ?_)
  · replace c3 := b2i_tp c3
    replace h := h.1 c3
    refine zV_aloadr_n (pc := 9) dX9_start_9 rfl 0 rfl ?_
    refine zV_getR (pc := 10) (b := 1) dX9_start_10 zfX9_10 rfl rfl rfl ?_
    refine zV_getI (pc := 13) (kz := 9) dX9_start_13 zfX9_147 rfl rfl rfl ?_
    refine zV_name (fun v4 e5 => ?_)
    replace h := h v4 e5
    have hrv4 : inR v4 := by rw [e5]; exact (hm0 _ _)
    refine zV_istore_n (pc := 16) (loc' := [(2, .int (iz v4)), (0, rr K 0), (1, .int (iz x1))]) dX9_start_16 rfl (by decide) rfl ?_
    refine zV_aloadr_n (pc := 17) dX9_start_17 rfl 1 rfl ?_
    refine zV_getR (pc := 18) (b := 1) dX9_start_18 zfX9_10 rfl rfl rfl ?_
    refine zV_iload_n (pc := 21) dX9_start_21 rfl 2 rfl ?_
    refine zV_putI (pc := 22) (kz := 9) dX9_start_22 zpX9_147 rfl rfl rfl hx1 rfl rfl ?_
    refine zV_mem (fun m6 e7 => zV_ok (fun hm6 => ?_))
    replace h := h m6 e7 hm6
    refine zV_iload_n (pc := 25) dX9_start_25 rfl 0 rfl ?_
    exact zV_iret (pc := 26) rfl dX9_start_26 hrv4 h
  · replace c3 := b2i_fn c3
    replace h := h.2 c3
    refine zV_iconst (pc := 7) dX9_start_7 ?_
    exact zV_iret (pc := 8) rfl dX9_start_8 (inRd rfl) h

set_option maxRecDepth 100000 in
set_option maxHeartbeats 4000000 in
theorem vc_X9_flow_0 {K : zCx} {d : Nat} (x1 : Int) (x2 : Int) (x3 : Int) (m0 : zM) {Q : Int → zM → Prop} (hx1 : inR x1) (hx2 : inR x2) (hx3 : inR x3) (h : zok m0 → (0 ≤ m0.1 1 6) ∧ (((0 ≤ x1 ∧ x1 < m0.1 1 6) → ((0 ≤ x2 ∧ x2 ≤ 9260) → ((0 ≤ x3 ∧ x3 ≤ 8) → zCt K (d + 4) mX1_setUp [rr K 39, rr K 1, .int (iz x3), .int (iz (m0.1 1 10))] m0 (fun r11 m12 => inR r11 → zok m12 → zCt K (d + 4) mX1_place [rr K 39, .int (iz x2)] m12 (fun r13 m14 => inR r13 → zok m14 → zCt K (d + 4) mX1_through [rr K 39, .int (iz x1)] m14 (fun r15 m16 => inR r15 → zok m16 → Q r15 m16)))) ∧ (¬ ((0 ≤ x3 ∧ x3 ≤ 8)) → Q (-999999) m0)) ∧ (¬ ((0 ≤ x2 ∧ x2 ≤ 9260)) → Q (-999999) m0)) ∧ (¬ ((0 ≤ x1 ∧ x1 < m0.1 1 6)) → Q (-999999) m0))) : zV K mX9_flow (d + 5) 0 [(0, rr K 0), (1, .int (iz x1)), (2, .int (iz x2)), (3, .int (iz x3))] [] m0 Q := by
  refine zV_ok (fun hm0 => ?_)
  replace h := h hm0
  refine zV_aloadr_n (pc := 0) dX9_flow_0 rfl 0 rfl ?_
  refine zV_getR (pc := 1) (b := 1) dX9_flow_1 zfX9_10 rfl rfl rfl ?_
  refine zV_iload_n (pc := 4) dX9_flow_4 rfl 1 rfl ?_
  obtain ⟨o1, h⟩ := h
  refine zV_callVf (pc := 5) (mc := mX4_hasPart) (As := [.int (iz x1)]) (rest := []) dX9_flow_5 zcX9_124 ziX4_hasPart zsX4_hasPart rfl rfl rfl rfl (Nat.le_of_ble_eq_true rfl) (c_X4_hasPart (Or.inl rfl) hx1 hm0 o1) (fun hr2 => ?_)
  refine zV_if_eq (pc := 8) (tgt := 25) dX9_flow_8 (by decide) (inR_b2i _) (fun c4 => ?_) (fun c4 => ?_)
  · replace c4 := b2i_fp c4
    replace h := h.2 c4
    refine zV_ldc (pc := 25) (v := -999999) dX9_flow_25 (zmem 617 (by decide +kernel) (by decide +kernel)) ?_
    exact zV_iret (pc := 27) rfl dX9_flow_27 (inRd rfl) h
  · replace c4 := b2i_tp c4
    replace h := h.1 c4
    refine zV_iload_n (pc := 11) dX9_flow_11 rfl 2 rfl ?_
    refine zV_callSf (pc := 12) (mc := mX9_isState) (As := [.int (iz x2)]) (rest := []) dX9_flow_12 zcX9_144 ztX9_isState rfl rfl (Nat.le_of_ble_eq_true rfl) (c_X9_isState hx2) (fun hr5 => ?_)
    refine zV_if_eq (pc := 15) (tgt := 25) dX9_flow_15 (by decide) (inR_b2i _) (fun c7 => ?_) (fun c7 => ?_)
    · replace c7 := b2i_fp c7
      replace h := h.2 c7
      refine zV_ldc (pc := 25) (v := -999999) dX9_flow_25 (zmem 617 (by decide +kernel) (by decide +kernel)) ?_
      exact zV_iret (pc := 27) rfl dX9_flow_27 (inRd rfl) h
    · replace c7 := b2i_tp c7
      replace h := h.1 c7
      refine zV_iload_n (pc := 18) dX9_flow_18 rfl 3 rfl ?_
      refine zV_callSf (pc := 19) (mc := mX9_isCorner) (As := [.int (iz x3)]) (rest := []) dX9_flow_19 zcX9_150 ztX9_isCorner rfl rfl (Nat.le_of_ble_eq_true rfl) (c_X9_isCorner hx3) (fun hr8 => ?_)
      refine zV_if_ne (pc := 22) (tgt := 28) dX9_flow_22 (by decide) (inR_b2i _) (fun c10 => ?_) (fun c10 => ?_)
      · replace c10 := b2i_tp c10
        replace h := h.1 c10
        refine zV_aloadr_n (pc := 28) dX9_flow_28 rfl 0 rfl ?_
        refine zV_getR (pc := 29) (b := 39) dX9_flow_29 zfX9_30 rfl rfl rfl ?_
        refine zV_aloadr_n (pc := 32) dX9_flow_32 rfl 0 rfl ?_
        refine zV_getR (pc := 33) (b := 1) dX9_flow_33 zfX9_10 rfl rfl rfl ?_
        refine zV_iload_n (pc := 36) dX9_flow_36 rfl 3 rfl ?_
        refine zV_aloadr_n (pc := 37) dX9_flow_37 rfl 0 rfl ?_
        refine zV_getR (pc := 38) (b := 1) dX9_flow_38 zfX9_10 rfl rfl rfl ?_
        refine zV_getI (pc := 41) (kz := 10) dX9_flow_41 zfX9_141 rfl rfl rfl ?_
        refine zV_callV (pc := 44) (mc := mX1_setUp) (As := [rr K 1, .int (iz x3), .int (iz (m0.1 1 10))]) (rest := []) dX9_flow_44 zcX9_154 ziX1_setUp zsX1_setUp rfl rfl rfl rfl (Nat.le_of_ble_eq_true rfl) h (fun r11 m12 hr11 h => zV_ok (fun hm12 => ?_))
        replace h := h hr11 hm12
        refine zV_aloadr_n (pc := 47) dX9_flow_47 rfl 0 rfl ?_
        refine zV_getR (pc := 48) (b := 39) dX9_flow_48 zfX9_30 rfl rfl rfl ?_
        refine zV_iload_n (pc := 51) dX9_flow_51 rfl 2 rfl ?_
        refine zV_callV (pc := 52) (mc := mX1_place) (As := [.int (iz x2)]) (rest := []) dX9_flow_52 zcX9_160 ziX1_place zsX1_place rfl rfl rfl rfl (Nat.le_of_ble_eq_true rfl) h (fun r13 m14 hr13 h => zV_ok (fun hm14 => ?_))
        replace h := h hr13 hm14
        refine zV_aloadr_n (pc := 55) dX9_flow_55 rfl 0 rfl ?_
        refine zV_getR (pc := 56) (b := 39) dX9_flow_56 zfX9_30 rfl rfl rfl ?_
        refine zV_iload_n (pc := 59) dX9_flow_59 rfl 1 rfl ?_
        refine zV_callV (pc := 60) (mc := mX1_through) (As := [.int (iz x1)]) (rest := []) dX9_flow_60 zcX9_163 ziX1_through zsX1_through rfl rfl rfl rfl (Nat.le_of_ble_eq_true rfl) h (fun r15 m16 hr15 h => zV_ok (fun hm16 => ?_))
        replace h := h hr15 hm16
        exact zV_iret (pc := 63) rfl dX9_flow_63 hr15 h
      · replace c10 := b2i_fn c10
        replace h := h.2 c10
        refine zV_ldc (pc := 25) (v := -999999) dX9_flow_25 (zmem 617 (by decide +kernel) (by decide +kernel)) ?_
        exact zV_iret (pc := 27) rfl dX9_flow_27 (inRd rfl) h

set_option maxRecDepth 100000 in
set_option maxHeartbeats 4000000 in
theorem vc_X9_tick_0 {K : zCx} {d : Nat} (x1 : Int) (x2 : Int) (m0 : zM) {Q : Int → zM → Prop} (hx1 : inR x1) (hx2 : inR x2) (h : zok m0 → ((0 ≤ x1 ∧ x1 ≤ 9260) → ((0 ≤ x2 ∧ x2 ≤ 8) → zCt K (d + 4) mX1_setUp [rr K 39, rr K 1, .int (iz x2), .int (iz (m0.1 1 10))] m0 (fun r7 m8 => inR r7 → zok m8 → zCt K (d + 4) mX1_place [rr K 39, .int (iz x1)] m8 (fun r9 m10 => inR r9 → zok m10 → zCt K (d + 4) mX1_move [rr K 39] m10 (fun r11 m12 => inR r11 → zok m12 → (0 ≤ m12.1 40 2 ∧ m12.1 40 2 ≤ 20) ∧ ((0 ≤ m12.1 40 3 ∧ m12.1 40 3 ≤ 20) ∧ ((0 ≤ m12.1 40 4 ∧ m12.1 40 4 ≤ 20) ∧ (Q (((m12.1 40 2 * 21 + m12.1 40 3) * 21 + m12.1 40 4)) m12))))))) ∧ (¬ ((0 ≤ x2 ∧ x2 ≤ 8)) → Q (-1) m0)) ∧ (¬ ((0 ≤ x1 ∧ x1 ≤ 9260)) → Q (-1) m0)) : zV K mX9_tick (d + 5) 0 [(0, rr K 0), (1, .int (iz x1)), (2, .int (iz x2))] [] m0 Q := by
  refine zV_ok (fun hm0 => ?_)
  replace h := h hm0
  refine zV_iload_n (pc := 0) dX9_tick_0 rfl 1 rfl ?_
  refine zV_callSf (pc := 1) (mc := mX9_isState) (As := [.int (iz x1)]) (rest := []) dX9_tick_1 zcX9_144 ztX9_isState rfl rfl (Nat.le_of_ble_eq_true rfl) (c_X9_isState hx1) (fun hr1 => ?_)
  refine zV_if_eq (pc := 4) (tgt := 14) dX9_tick_4 (by decide) (inR_b2i _) (fun c3 => ?_) (fun c3 => ?_)
  · replace c3 := b2i_fp c3
    replace h := h.2 c3
    refine zV_iconst (pc := 14) dX9_tick_14 ?_
    exact zV_iret (pc := 15) rfl dX9_tick_15 (inRd rfl) h
  · replace c3 := b2i_tp c3
    replace h := h.1 c3
    refine zV_iload_n (pc := 7) dX9_tick_7 rfl 2 rfl ?_
    refine zV_callSf (pc := 8) (mc := mX9_isCorner) (As := [.int (iz x2)]) (rest := []) dX9_tick_8 zcX9_150 ztX9_isCorner rfl rfl (Nat.le_of_ble_eq_true rfl) (c_X9_isCorner hx2) (fun hr4 => ?_)
    refine zV_if_ne (pc := 11) (tgt := 16) dX9_tick_11 (by decide) (inR_b2i _) (fun c6 => ?_) (fun c6 => ?_)
    · replace c6 := b2i_tp c6
      replace h := h.1 c6
      refine zV_aloadr_n (pc := 16) dX9_tick_16 rfl 0 rfl ?_
      refine zV_getR (pc := 17) (b := 39) dX9_tick_17 zfX9_30 rfl rfl rfl ?_
      refine zV_aloadr_n (pc := 20) dX9_tick_20 rfl 0 rfl ?_
      refine zV_getR (pc := 21) (b := 1) dX9_tick_21 zfX9_10 rfl rfl rfl ?_
      refine zV_iload_n (pc := 24) dX9_tick_24 rfl 2 rfl ?_
      refine zV_aloadr_n (pc := 25) dX9_tick_25 rfl 0 rfl ?_
      refine zV_getR (pc := 26) (b := 1) dX9_tick_26 zfX9_10 rfl rfl rfl ?_
      refine zV_getI (pc := 29) (kz := 10) dX9_tick_29 zfX9_141 rfl rfl rfl ?_
      refine zV_callV (pc := 32) (mc := mX1_setUp) (As := [rr K 1, .int (iz x2), .int (iz (m0.1 1 10))]) (rest := []) dX9_tick_32 zcX9_154 ziX1_setUp zsX1_setUp rfl rfl rfl rfl (Nat.le_of_ble_eq_true rfl) h (fun r7 m8 hr7 h => zV_ok (fun hm8 => ?_))
      replace h := h hr7 hm8
      refine zV_aloadr_n (pc := 35) dX9_tick_35 rfl 0 rfl ?_
      refine zV_getR (pc := 36) (b := 39) dX9_tick_36 zfX9_30 rfl rfl rfl ?_
      refine zV_iload_n (pc := 39) dX9_tick_39 rfl 1 rfl ?_
      refine zV_callV (pc := 40) (mc := mX1_place) (As := [.int (iz x1)]) (rest := []) dX9_tick_40 zcX9_160 ziX1_place zsX1_place rfl rfl rfl rfl (Nat.le_of_ble_eq_true rfl) h (fun r9 m10 hr9 h => zV_ok (fun hm10 => ?_))
      replace h := h hr9 hm10
      refine zV_aloadr_n (pc := 43) dX9_tick_43 rfl 0 rfl ?_
      refine zV_getR (pc := 44) (b := 39) dX9_tick_44 zfX9_30 rfl rfl rfl ?_
      refine zV_callV (pc := 47) (mc := mX1_move) (As := []) (rest := []) dX9_tick_47 zcX9_166 ziX1_move zsX1_move rfl rfl rfl rfl (Nat.le_of_ble_eq_true rfl) h (fun r11 m12 hr11 h => zV_ok (fun hm12 => ?_))
      replace h := h hr11 hm12
      refine zV_aloadr_n (pc := 50) dX9_tick_50 rfl 0 rfl ?_
      refine zV_getR (pc := 51) (b := 39) dX9_tick_51 zfX9_30 rfl rfl rfl ?_
      obtain ⟨o13, h⟩ := h
      obtain ⟨o14, h⟩ := h
      obtain ⟨o15, h⟩ := h
      refine zV_callVf (pc := 54) (mc := mX1_stateNow) (As := []) (rest := []) dX9_tick_54 zcX9_169 ziX1_stateNow zsX1_stateNow rfl rfl rfl rfl (Nat.le_of_ble_eq_true rfl) (c_X1_stateNow hm12 o13 o14 o15) (fun hr16 => ?_)
      exact zV_iret (pc := 57) rfl dX9_tick_57 hr16 h
    · replace c6 := b2i_fn c6
      replace h := h.2 c6
      refine zV_iconst (pc := 14) dX9_tick_14 ?_
      exact zV_iret (pc := 15) rfl dX9_tick_15 (inRd rfl) h

set_option maxRecDepth 100000 in
set_option maxHeartbeats 4000000 in
theorem vc_X9_goes_0 {K : zCx} {d : Nat} (x1 : Int) (x2 : Int) (m0 : zM) {Q : Int → zM → Prop} (hx1 : inR x1) (hx2 : inR x2) (h : zok m0 → ((0 ≤ x1 ∧ x1 ≤ 8) → ((0 ≤ x2 ∧ x2 ≤ 2) → zCt K (d + 4) mX1_setUp [rr K 39, rr K 1, .int (iz x1), .int (iz (m0.1 1 10))] m0 (fun r7 m8 => inR r7 → zok m8 → zCt K (d + 4) mX1_walk [rr K 39, .int (iz (m8.1 1 9))] m8 (fun r9 m10 => inR r9 → zok m10 → (x2 = 0 → Q (m10.1 39 12) m10) ∧ (¬ (x2 = 0) → (x2 = 1 → Q (m10.1 39 13) m10) ∧ (¬ (x2 = 1) → Q (m10.1 39 14) m10))))) ∧ (¬ ((0 ≤ x2 ∧ x2 ≤ 2)) → Q (-1) m0)) ∧ (¬ ((0 ≤ x1 ∧ x1 ≤ 8)) → Q (-1) m0)) : zV K mX9_goes (d + 5) 0 [(0, rr K 0), (1, .int (iz x1)), (2, .int (iz x2))] [] m0 Q := by
  refine zV_ok (fun hm0 => ?_)
  replace h := h hm0
  refine zV_iload_n (pc := 0) dX9_goes_0 rfl 1 rfl ?_
  refine zV_callSf (pc := 1) (mc := mX9_isCorner) (As := [.int (iz x1)]) (rest := []) dX9_goes_1 zcX9_150 ztX9_isCorner rfl rfl (Nat.le_of_ble_eq_true rfl) (c_X9_isCorner hx1) (fun hr1 => ?_)
  refine zV_if_eq (pc := 4) (tgt := 16) dX9_goes_4 (by decide) (inR_b2i _) (fun c3 => ?_) (fun c3 => ?_)
  · replace c3 := b2i_fp c3
    replace h := h.2 c3
    refine zV_iconst (pc := 16) dX9_goes_16 ?_
    exact zV_iret (pc := 17) rfl dX9_goes_17 (inRd rfl) h
  · replace c3 := b2i_tp c3
    replace h := h.1 c3
    refine zV_iload_n (pc := 7) dX9_goes_7 rfl 2 rfl ?_
    refine zV_iconst (pc := 8) dX9_goes_8 ?_
    refine zV_iconst (pc := 9) dX9_goes_9 ?_
    refine zV_callSf (pc := 10) (mc := mX9_within) (As := [.int (iz x2), .int (iz 0), .int (iz 2)]) (rest := []) dX9_goes_10 zcX9_74 ztX9_within rfl rfl (Nat.le_of_ble_eq_true rfl) (c_X9_within hx2 (inRd rfl) (inRd rfl)) (fun hr4 => ?_)
    refine zV_if_ne (pc := 13) (tgt := 18) dX9_goes_13 (by decide) (inR_b2i _) (fun c6 => ?_) (fun c6 => ?_)
    · replace c6 := b2i_tp c6
      replace h := h.1 c6
      refine zV_aloadr_n (pc := 18) dX9_goes_18 rfl 0 rfl ?_
      refine zV_getR (pc := 19) (b := 39) dX9_goes_19 zfX9_30 rfl rfl rfl ?_
      refine zV_aloadr_n (pc := 22) dX9_goes_22 rfl 0 rfl ?_
      refine zV_getR (pc := 23) (b := 1) dX9_goes_23 zfX9_10 rfl rfl rfl ?_
      refine zV_iload_n (pc := 26) dX9_goes_26 rfl 1 rfl ?_
      refine zV_aloadr_n (pc := 27) dX9_goes_27 rfl 0 rfl ?_
      refine zV_getR (pc := 28) (b := 1) dX9_goes_28 zfX9_10 rfl rfl rfl ?_
      refine zV_getI (pc := 31) (kz := 10) dX9_goes_31 zfX9_141 rfl rfl rfl ?_
      refine zV_callV (pc := 34) (mc := mX1_setUp) (As := [rr K 1, .int (iz x1), .int (iz (m0.1 1 10))]) (rest := []) dX9_goes_34 zcX9_154 ziX1_setUp zsX1_setUp rfl rfl rfl rfl (Nat.le_of_ble_eq_true rfl) h (fun r7 m8 hr7 h => zV_ok (fun hm8 => ?_))
      replace h := h hr7 hm8
      refine zV_aloadr_n (pc := 37) dX9_goes_37 rfl 0 rfl ?_
      refine zV_getR (pc := 38) (b := 39) dX9_goes_38 zfX9_30 rfl rfl rfl ?_
      refine zV_aloadr_n (pc := 41) dX9_goes_41 rfl 0 rfl ?_
      refine zV_getR (pc := 42) (b := 1) dX9_goes_42 zfX9_10 rfl rfl rfl ?_
      refine zV_getI (pc := 45) (kz := 9) dX9_goes_45 zfX9_147 rfl rfl rfl ?_
      refine zV_callV (pc := 48) (mc := mX1_walk) (As := [.int (iz (m8.1 1 9))]) (rest := []) dX9_goes_48 zcX9_173 ziX1_walk zsX1_walk rfl rfl rfl rfl (Nat.le_of_ble_eq_true rfl) h (fun r9 m10 hr9 h => zV_ok (fun hm10 => ?_))
      replace h := h hr9 hm10
      refine zV_iload_n (pc := 51) dX9_goes_51 rfl 2 rfl ?_
      refine zV_if_ne (pc := 52) (tgt := 65) dX9_goes_52 (by decide) hx2 (fun c11 => ?_) (fun c11 => ?_)
      · skip
        replace h := h.2 c11
        refine zV_iload_n (pc := 65) dX9_goes_65 rfl 2 rfl ?_
        refine zV_iconst (pc := 66) dX9_goes_66 ?_
        refine zV_icmp_ne (pc := 67) (tgt := 80) dX9_goes_67 (by decide) hx2 (inRd rfl) (fun c12 => ?_) (fun c12 => ?_)
        · skip
          replace h := h.2 c12
          refine zV_aloadr_n (pc := 80) dX9_goes_80 rfl 0 rfl ?_
          refine zV_getR (pc := 81) (b := 39) dX9_goes_81 zfX9_30 rfl rfl rfl ?_
          refine zV_getI (pc := 84) (kz := 14) dX9_goes_84 zfX9_182 rfl rfl rfl ?_
          exact zV_iret (pc := 87) rfl dX9_goes_87 (hm10 _ _) h
        · replace c12 := Classical.not_not.mp c12
          replace h := h.1 c12
          refine zV_aloadr_n (pc := 70) dX9_goes_70 rfl 0 rfl ?_
          refine zV_getR (pc := 71) (b := 39) dX9_goes_71 zfX9_30 rfl rfl rfl ?_
          refine zV_getI (pc := 74) (kz := 13) dX9_goes_74 zfX9_179 rfl rfl rfl ?_
          refine zV_goto (pc := 77) (tgt := 87) dX9_goes_77 (by decide) ?_
          exact zV_iret (pc := 87) rfl dX9_goes_87 (hm10 _ _) h
      · replace c11 := Classical.not_not.mp c11
        replace h := h.1 c11
        refine zV_aloadr_n (pc := 55) dX9_goes_55 rfl 0 rfl ?_
        refine zV_getR (pc := 56) (b := 39) dX9_goes_56 zfX9_30 rfl rfl rfl ?_
        refine zV_getI (pc := 59) (kz := 12) dX9_goes_59 zfX9_176 rfl rfl rfl ?_
        refine zV_goto (pc := 62) (tgt := 87) dX9_goes_62 (by decide) ?_
        exact zV_iret (pc := 87) rfl dX9_goes_87 (hm10 _ _) h
    · replace c6 := b2i_fn c6
      replace h := h.2 c6
      refine zV_iconst (pc := 16) dX9_goes_16 ?_
      exact zV_iret (pc := 17) rfl dX9_goes_17 (inRd rfl) h

set_option maxRecDepth 100000 in
set_option maxHeartbeats 4000000 in
theorem vc_X9_rests_0 {K : zCx} {d : Nat} (x1 : Int) (m0 : zM) {Q : Int → zM → Prop} (hx1 : inR x1) (h : zok m0 → ((0 ≤ x1 ∧ x1 ≤ 8) → zCt K (d + 9) mX1_setUp [rr K 39, rr K 1, .int (iz x1), .int (iz (m0.1 1 10))] m0 (fun r4 m5 => inR r4 → zok m5 → zCt K (d + 9) mX6_find [rr K 52, rr K 39, .int (iz (-1))] m5 (fun r6 m7 => inR r6 → zok m7 → Q (m7.1 52 4) m7))) ∧ (¬ ((0 ≤ x1 ∧ x1 ≤ 8)) → Q (-1) m0)) : zV K mX9_rests (d + 10) 0 [(0, rr K 0), (1, .int (iz x1))] [] m0 Q := by
  refine zV_ok (fun hm0 => ?_)
  replace h := h hm0
  refine zV_iload_n (pc := 0) dX9_rests_0 rfl 1 rfl ?_
  refine zV_callSf (pc := 1) (mc := mX9_isCorner) (As := [.int (iz x1)]) (rest := []) dX9_rests_1 zcX9_150 ztX9_isCorner rfl rfl (Nat.le_of_ble_eq_true rfl) (c_X9_isCorner hx1) (fun hr1 => ?_)
  refine zV_if_ne (pc := 4) (tgt := 9) dX9_rests_4 (by decide) (inR_b2i _) (fun c3 => ?_) (fun c3 => ?_)
  · replace c3 := b2i_tp c3
    replace h := h.1 c3
    refine zV_aloadr_n (pc := 9) dX9_rests_9 rfl 0 rfl ?_
    refine zV_getR (pc := 10) (b := 39) dX9_rests_10 zfX9_30 rfl rfl rfl ?_
    refine zV_aloadr_n (pc := 13) dX9_rests_13 rfl 0 rfl ?_
    refine zV_getR (pc := 14) (b := 1) dX9_rests_14 zfX9_10 rfl rfl rfl ?_
    refine zV_iload_n (pc := 17) dX9_rests_17 rfl 1 rfl ?_
    refine zV_aloadr_n (pc := 18) dX9_rests_18 rfl 0 rfl ?_
    refine zV_getR (pc := 19) (b := 1) dX9_rests_19 zfX9_10 rfl rfl rfl ?_
    refine zV_getI (pc := 22) (kz := 10) dX9_rests_22 zfX9_141 rfl rfl rfl ?_
    refine zV_callV (pc := 25) (mc := mX1_setUp) (As := [rr K 1, .int (iz x1), .int (iz (m0.1 1 10))]) (rest := []) dX9_rests_25 zcX9_154 ziX1_setUp zsX1_setUp rfl rfl rfl rfl (Nat.le_of_ble_eq_true rfl) h (fun r4 m5 hr4 h => zV_ok (fun hm5 => ?_))
    replace h := h hr4 hm5
    refine zV_aloadr_n (pc := 28) dX9_rests_28 rfl 0 rfl ?_
    refine zV_getR (pc := 29) (b := 52) dX9_rests_29 zfX9_34 rfl rfl rfl ?_
    refine zV_aloadr_n (pc := 32) dX9_rests_32 rfl 0 rfl ?_
    refine zV_getR (pc := 33) (b := 39) dX9_rests_33 zfX9_30 rfl rfl rfl ?_
    refine zV_iconst (pc := 36) dX9_rests_36 ?_
    refine zV_callV (pc := 37) (mc := mX6_find) (As := [rr K 39, .int (iz (-1))]) (rest := []) dX9_rests_37 zcX9_185 ziX6_find zsX6_find rfl rfl rfl rfl (Nat.le_of_ble_eq_true rfl) h (fun r6 m7 hr6 h => zV_ok (fun hm7 => ?_))
    replace h := h hr6 hm7
    refine zV_aloadr_n (pc := 40) dX9_rests_40 rfl 0 rfl ?_
    refine zV_getR (pc := 41) (b := 52) dX9_rests_41 zfX9_34 rfl rfl rfl ?_
    refine zV_getI (pc := 44) (kz := 4) dX9_rests_44 zfX9_189 rfl rfl rfl ?_
    exact zV_iret (pc := 47) rfl dX9_rests_47 (hm7 _ _) h
  · replace c3 := b2i_fn c3
    replace h := h.2 c3
    refine zV_iconst (pc := 7) dX9_rests_7 ?_
    exact zV_iret (pc := 8) rfl dX9_rests_8 (inRd rfl) h

set_option maxRecDepth 100000 in
set_option maxHeartbeats 4000000 in
theorem vc_X9_restAt_0 {K : zCx} {d : Nat} (x1 : Int) (x2 : Int) (m0 : zM) {Q : Int → zM → Prop} (hx1 : inR x1) (hx2 : inR x2) (h : zok m0 → ((0 ≤ x1 ∧ x1 ≤ 8) → ((0 ≤ x2 ∧ x2 ≤ 9260) → zCt K (d + 9) mX1_setUp [rr K 39, rr K 1, .int (iz x1), .int (iz (m0.1 1 10))] m0 (fun r7 m8 => inR r7 → zok m8 → zCt K (d + 9) mX6_find [rr K 52, rr K 39, .int (iz x2)] m8 (fun r9 m10 => inR r9 → zok m10 → ((m10.1 52 6) = 0 → Q (-3) m10) ∧ (¬ ((m10.1 52 6) = 0) → Q (m10.1 52 5) m10)))) ∧ (¬ ((0 ≤ x2 ∧ x2 ≤ 9260)) → Q (-3) m0)) ∧ (¬ ((0 ≤ x1 ∧ x1 ≤ 8)) → Q (-1) m0)) : zV K mX9_restAt (d + 10) 0 [(0, rr K 0), (1, .int (iz x1)), (2, .int (iz x2))] [] m0 Q := by
  refine zV_ok (fun hm0 => ?_)
  replace h := h hm0
  refine zV_iload_n (pc := 0) dX9_restAt_0 rfl 1 rfl ?_
  refine zV_callSf (pc := 1) (mc := mX9_isCorner) (As := [.int (iz x1)]) (rest := []) dX9_restAt_1 zcX9_150 ztX9_isCorner rfl rfl (Nat.le_of_ble_eq_true rfl) (c_X9_isCorner hx1) (fun hr1 => ?_)
  refine zV_if_ne (pc := 4) (tgt := 9) dX9_restAt_4 (by decide) (inR_b2i _) (fun c3 => ?_) (fun c3 => ?_)
  · replace c3 := b2i_tp c3
    replace h := h.1 c3
    refine zV_iload_n (pc := 9) dX9_restAt_9 rfl 2 rfl ?_
    refine zV_iconst (pc := 10) dX9_restAt_10 ?_
    refine zV_sipush (pc := 11) dX9_restAt_11 (by decide) ?_
    refine zV_callSf (pc := 14) (mc := mX9_within) (As := [.int (iz x2), .int (iz 0), .int (iz 9260)]) (rest := []) dX9_restAt_14 zcX9_74 ztX9_within rfl rfl (Nat.le_of_ble_eq_true rfl) (c_X9_within hx2 (inRd rfl) (inRd rfl)) (fun hr4 => ?_)
    refine zV_if_ne (pc := 17) (tgt := 23) dX9_restAt_17 (by decide) (inR_b2i _) (fun c6 => ?_) (fun c6 => ?_)
    · replace c6 := b2i_tp c6
      replace h := h.1 c6
      refine zV_aloadr_n (pc := 23) dX9_restAt_23 rfl 0 rfl ?_
      refine zV_getR (pc := 24) (b := 39) dX9_restAt_24 zfX9_30 rfl rfl rfl ?_
      refine zV_aloadr_n (pc := 27) dX9_restAt_27 rfl 0 rfl ?_
      refine zV_getR (pc := 28) (b := 1) dX9_restAt_28 zfX9_10 rfl rfl rfl ?_
      refine zV_iload_n (pc := 31) dX9_restAt_31 rfl 1 rfl ?_
      refine zV_aloadr_n (pc := 32) dX9_restAt_32 rfl 0 rfl ?_
      refine zV_getR (pc := 33) (b := 1) dX9_restAt_33 zfX9_10 rfl rfl rfl ?_
      refine zV_getI (pc := 36) (kz := 10) dX9_restAt_36 zfX9_141 rfl rfl rfl ?_
      refine zV_callV (pc := 39) (mc := mX1_setUp) (As := [rr K 1, .int (iz x1), .int (iz (m0.1 1 10))]) (rest := []) dX9_restAt_39 zcX9_154 ziX1_setUp zsX1_setUp rfl rfl rfl rfl (Nat.le_of_ble_eq_true rfl) h (fun r7 m8 hr7 h => zV_ok (fun hm8 => ?_))
      replace h := h hr7 hm8
      refine zV_aloadr_n (pc := 42) dX9_restAt_42 rfl 0 rfl ?_
      refine zV_getR (pc := 43) (b := 52) dX9_restAt_43 zfX9_34 rfl rfl rfl ?_
      refine zV_aloadr_n (pc := 46) dX9_restAt_46 rfl 0 rfl ?_
      refine zV_getR (pc := 47) (b := 39) dX9_restAt_47 zfX9_30 rfl rfl rfl ?_
      refine zV_iload_n (pc := 50) dX9_restAt_50 rfl 2 rfl ?_
      refine zV_callV (pc := 51) (mc := mX6_find) (As := [rr K 39, .int (iz x2)]) (rest := []) dX9_restAt_51 zcX9_185 ziX6_find zsX6_find rfl rfl rfl rfl (Nat.le_of_ble_eq_true rfl) h (fun r9 m10 hr9 h => zV_ok (fun hm10 => ?_))
      replace h := h hr9 hm10
      refine zV_aloadr_n (pc := 54) dX9_restAt_54 rfl 0 rfl ?_
      refine zV_getR (pc := 55) (b := 52) dX9_restAt_55 zfX9_34 rfl rfl rfl ?_
      refine zV_getI (pc := 58) (kz := 6) dX9_restAt_58 zfX9_192 rfl rfl rfl ?_
      refine zV_if_eq (pc := 61) (tgt := 74) dX9_restAt_61 (by decide) (hm10 _ _) (fun c11 => ?_) (fun c11 => ?_)
      · skip
        replace h := h.1 c11
        refine zV_bipush (pc := 74) dX9_restAt_74 (by decide) ?_
        exact zV_iret (pc := 76) rfl dX9_restAt_76 (inRd rfl) h
      · skip
        replace h := h.2 c11
        refine zV_aloadr_n (pc := 64) dX9_restAt_64 rfl 0 rfl ?_
        refine zV_getR (pc := 65) (b := 52) dX9_restAt_65 zfX9_34 rfl rfl rfl ?_
        refine zV_getI (pc := 68) (kz := 5) dX9_restAt_68 zfX9_195 rfl rfl rfl ?_
        refine zV_goto (pc := 71) (tgt := 76) dX9_restAt_71 (by decide) ?_
        exact zV_iret (pc := 76) rfl dX9_restAt_76 (hm10 _ _) h
    · replace c6 := b2i_fn c6
      replace h := h.2 c6
      refine zV_bipush (pc := 20) dX9_restAt_20 (by decide) ?_
      exact zV_iret (pc := 22) rfl dX9_restAt_22 (inRd rfl) h
  · replace c3 := b2i_fn c3
    replace h := h.2 c3
    refine zV_iconst (pc := 7) dX9_restAt_7 ?_
    exact zV_iret (pc := 8) rfl dX9_restAt_8 (inRd rfl) h

set_option maxRecDepth 100000 in
set_option maxHeartbeats 4000000 in
theorem vc_X9_gain_0 {K : zCx} {d : Nat} (x1 : Int) (x2 : Int) (m0 : zM) {Q : Int → zM → Prop} (hx1 : inR x1) (hx2 : inR x2) (h : zok m0 → ((0 ≤ x1 ∧ x1 ≤ 4) → ((0 ≤ x2 ∧ x2 ≤ 8) → ((m0.1 1 10) < 20 → zCt K (d + 4) mX1_setUp [rr K 39, rr K 1, .int (iz x2), .int (iz ((m0.1 1 10) + 1))] m0 (fun r8 m9 => inR r8 → zok m9 → zCt K (d + 4) mX1_walk [rr K 39, .int (iz (m9.1 1 9))] m9 (fun r10 m11 => inR r10 → zok m11 → 0 ≤ x1 ∧ x1 < 5 ∧ (∀ v14 : Int, v14 = (m11.1 40 x1) → (zCt K (d + 4) mX1_setUp [rr K 39, rr K 1, .int (iz x2), .int (iz (m11.1 1 10))] m11 (fun r16 m17 => inR r16 → zok m17 → zCt K (d + 4) mX1_walk [rr K 39, .int (iz (m17.1 1 9))] m17 (fun r18 m19 => inR r18 → zok m19 → inR (v14 - (m19.1 40 x1)) ∧ (Q (v14 - (m19.1 40 x1)) m19)))))))) ∧ (¬ ((m0.1 1 10) < 20) → Q (-98) m0)) ∧ (¬ ((0 ≤ x2 ∧ x2 ≤ 8)) → Q (-99) m0)) ∧ (¬ ((0 ≤ x1 ∧ x1 ≤ 4)) → Q (-99) m0)) : zV K mX9_gain (d + 5) 0 [(0, rr K 0), (1, .int (iz x1)), (2, .int (iz x2))] [] m0 Q := by
  refine zV_ok (fun hm0 => ?_)
  replace h := h hm0
  refine zV_iload_n (pc := 0) dX9_gain_0 rfl 1 rfl ?_
  refine zV_iconst (pc := 1) dX9_gain_1 ?_
  refine zV_iconst (pc := 2) dX9_gain_2 ?_
  refine zV_callSf (pc := 3) (mc := mX9_within) (As := [.int (iz x1), .int (iz 0), .int (iz 4)]) (rest := []) dX9_gain_3 zcX9_74 ztX9_within rfl rfl (Nat.le_of_ble_eq_true rfl) (c_X9_within hx1 (inRd rfl) (inRd rfl)) (fun hr1 => ?_)
  refine zV_if_eq (pc := 6) (tgt := 16) dX9_gain_6 (by decide) (inR_b2i _) (fun c3 => ?_) (fun c3 => ?_)
  · replace c3 := b2i_fp c3
    replace h := h.2 c3
    refine zV_bipush (pc := 16) dX9_gain_16 (by decide) ?_
    exact zV_iret (pc := 18) rfl dX9_gain_18 (inRd rfl) h
  · replace c3 := b2i_tp c3
    replace h := h.1 c3
    refine zV_iload_n (pc := 9) dX9_gain_9 rfl 2 rfl ?_
    refine zV_callSf (pc := 10) (mc := mX9_isCorner) (As := [.int (iz x2)]) (rest := []) dX9_gain_10 zcX9_150 ztX9_isCorner rfl rfl (Nat.le_of_ble_eq_true rfl) (c_X9_isCorner hx2) (fun hr4 => ?_)
    refine zV_if_ne (pc := 13) (tgt := 19) dX9_gain_13 (by decide) (inR_b2i _) (fun c6 => ?_) (fun c6 => ?_)
    · replace c6 := b2i_tp c6
      replace h := h.1 c6
      refine zV_aloadr_n (pc := 19) dX9_gain_19 rfl 0 rfl ?_
      refine zV_getR (pc := 20) (b := 1) dX9_gain_20 zfX9_10 rfl rfl rfl ?_
      refine zV_getI (pc := 23) (kz := 10) dX9_gain_23 zfX9_141 rfl rfl rfl ?_
      refine zV_bipush (pc := 26) dX9_gain_26 (by decide) ?_
      refine zV_icmp_lt (pc := 28) (tgt := 34) dX9_gain_28 (by decide) (hm0 _ _) (inRd rfl) (fun c7 => ?_) (fun c7 => ?_)
      · skip
        replace h := h.1 c7
        refine zV_aloadr_n (pc := 34) dX9_gain_34 rfl 0 rfl ?_
        refine zV_getR (pc := 35) (b := 39) dX9_gain_35 zfX9_30 rfl rfl rfl ?_
        refine zV_aloadr_n (pc := 38) dX9_gain_38 rfl 0 rfl ?_
        refine zV_getR (pc := 39) (b := 1) dX9_gain_39 zfX9_10 rfl rfl rfl ?_
        refine zV_iload_n (pc := 42) dX9_gain_42 rfl 2 rfl ?_
        refine zV_aloadr_n (pc := 43) dX9_gain_43 rfl 0 rfl ?_
        refine zV_getR (pc := 44) (b := 1) dX9_gain_44 zfX9_10 rfl rfl rfl ?_
        refine zV_getI (pc := 47) (kz := 10) dX9_gain_47 zfX9_141 rfl rfl rfl ?_
        refine zV_iconst (pc := 50) dX9_gain_50 ?_
        refine zV_iadd (pc := 51) dX9_gain_51 ?_
        refine zV_callV (pc := 52) (mc := mX1_setUp) (As := [rr K 1, .int (iz x2), .int (iz ((m0.1 1 10) + 1))]) (rest := []) dX9_gain_52 zcX9_154 ziX1_setUp zsX1_setUp rfl rfl rfl rfl (Nat.le_of_ble_eq_true rfl) h (fun r8 m9 hr8 h => zV_ok (fun hm9 => ?_))
        replace h := h hr8 hm9
        refine zV_aloadr_n (pc := 55) dX9_gain_55 rfl 0 rfl ?_
        refine zV_getR (pc := 56) (b := 39) dX9_gain_56 zfX9_30 rfl rfl rfl ?_
        refine zV_aloadr_n (pc := 59) dX9_gain_59 rfl 0 rfl ?_
        refine zV_getR (pc := 60) (b := 1) dX9_gain_60 zfX9_10 rfl rfl rfl ?_
        refine zV_getI (pc := 63) (kz := 9) dX9_gain_63 zfX9_147 rfl rfl rfl ?_
        refine zV_callV (pc := 66) (mc := mX1_walk) (As := [.int (iz (m9.1 1 9))]) (rest := []) dX9_gain_66 zcX9_173 ziX1_walk zsX1_walk rfl rfl rfl rfl (Nat.le_of_ble_eq_true rfl) h (fun r10 m11 hr10 h => zV_ok (fun hm11 => ?_))
        replace h := h hr10 hm11
        refine zV_aloadr_n (pc := 69) dX9_gain_69 rfl 0 rfl ?_
        refine zV_getR (pc := 70) (b := 39) dX9_gain_70 zfX9_30 rfl rfl rfl ?_
        refine zV_getR (pc := 73) (b := 40) dX9_gain_73 zfX9_198 rfl rfl rfl ?_
        refine zV_iload_n (pc := 76) dX9_gain_76 rfl 1 rfl ?_
        obtain ⟨o12, o13, h⟩ := h
        refine zV_iald (pc := 77) dX9_gain_77 rfl o12 o13 (inR_ix o12 o13 rfl) ?_
        refine zV_name (fun v14 e15 => ?_)
        replace h := h v14 e15
        have hrv14 : inR v14 := by rw [e15]; exact (hm11 _ _)
        refine zV_istore_n (pc := 78) (loc' := [(3, .int (iz v14)), (0, rr K 0), (1, .int (iz x1)), (2, .int (iz x2))]) dX9_gain_78 rfl (by decide) rfl ?_
        refine zV_aloadr_n (pc := 79) dX9_gain_79 rfl 1 rfl ?_
        refine zV_getR (pc := 80) (b := 39) dX9_gain_80 zfX9_30 rfl rfl rfl ?_
        refine zV_aloadr_n (pc := 83) dX9_gain_83 rfl 1 rfl ?_
        refine zV_getR (pc := 84) (b := 1) dX9_gain_84 zfX9_10 rfl rfl rfl ?_
        refine zV_iload_n (pc := 87) dX9_gain_87 rfl 3 rfl ?_
        refine zV_aloadr_n (pc := 88) dX9_gain_88 rfl 1 rfl ?_
        refine zV_getR (pc := 89) (b := 1) dX9_gain_89 zfX9_10 rfl rfl rfl ?_
        refine zV_getI (pc := 92) (kz := 10) dX9_gain_92 zfX9_141 rfl rfl rfl ?_
        refine zV_callV (pc := 95) (mc := mX1_setUp) (As := [rr K 1, .int (iz x2), .int (iz (m11.1 1 10))]) (rest := []) dX9_gain_95 zcX9_154 ziX1_setUp zsX1_setUp rfl rfl rfl rfl (Nat.le_of_ble_eq_true rfl) h (fun r16 m17 hr16 h => zV_ok (fun hm17 => ?_))
        replace h := h hr16 hm17
        refine zV_aloadr_n (pc := 98) dX9_gain_98 rfl 1 rfl ?_
        refine zV_getR (pc := 99) (b := 39) dX9_gain_99 zfX9_30 rfl rfl rfl ?_
        refine zV_aloadr_n (pc := 102) dX9_gain_102 rfl 1 rfl ?_
        refine zV_getR (pc := 103) (b := 1) dX9_gain_103 zfX9_10 rfl rfl rfl ?_
        refine zV_getI (pc := 106) (kz := 9) dX9_gain_106 zfX9_147 rfl rfl rfl ?_
        refine zV_callV (pc := 109) (mc := mX1_walk) (As := [.int (iz (m17.1 1 9))]) (rest := []) dX9_gain_109 zcX9_173 ziX1_walk zsX1_walk rfl rfl rfl rfl (Nat.le_of_ble_eq_true rfl) h (fun r18 m19 hr18 h => zV_ok (fun hm19 => ?_))
        replace h := h hr18 hm19
        refine zV_iload_n (pc := 112) dX9_gain_112 rfl 0 rfl ?_
        refine zV_aloadr_n (pc := 113) dX9_gain_113 rfl 1 rfl ?_
        refine zV_getR (pc := 114) (b := 39) dX9_gain_114 zfX9_30 rfl rfl rfl ?_
        refine zV_getR (pc := 117) (b := 40) dX9_gain_117 zfX9_198 rfl rfl rfl ?_
        refine zV_iload_n (pc := 120) dX9_gain_120 rfl 2 rfl ?_
        refine zV_iald (pc := 121) dX9_gain_121 rfl o12 o13 (inR_ix o12 o13 rfl) ?_
        refine zV_isub (pc := 122) dX9_gain_122 ?_
        obtain ⟨o20, h⟩ := h
        exact zV_iret (pc := 123) rfl dX9_gain_123 o20 h
      · skip
        replace h := h.2 c7
        refine zV_bipush (pc := 31) dX9_gain_31 (by decide) ?_
        exact zV_iret (pc := 33) rfl dX9_gain_33 (inRd rfl) h
    · replace c6 := b2i_fn c6
      replace h := h.2 c6
      refine zV_bipush (pc := 16) dX9_gain_16 (by decide) ?_
      exact zV_iret (pc := 18) rfl dX9_gain_18 (inRd rfl) h

set_option maxRecDepth 100000 in
set_option maxHeartbeats 4000000 in
theorem vc_X9_feed_0 {K : zCx} {d : Nat} (l1 : Int64) (x3 : Int) (m0 : zM) {Q : Int → zM → Prop} (hx3 : inR x3) (h : zok m0 → ((1 ≤ x3 ∧ x3 ≤ 8) → inR ((m0.1 56 2) + x3) ∧ ((((m0.1 56 2) + x3) ≤ 220 → zCt K (d + 1) mX5_take [rr K 56, .long l1, .int (iz x3)] m0 (fun r6 m7 => inR r6 → zok m7 → Q (m7.1 56 2) m7)) ∧ (¬ (((m0.1 56 2) + x3) ≤ 220) → Q (-2) m0))) ∧ (¬ ((1 ≤ x3 ∧ x3 ≤ 8)) → Q (-1) m0)) : zV K mX9_feed (d + 2) 0 [(0, rr K 0), (1, .long l1), (3, .int (iz x3))] [] m0 Q := by
  refine zV_ok (fun hm0 => ?_)
  replace h := h hm0
  refine zV_iload_n (pc := 0) dX9_feed_0 rfl 2 rfl ?_
  refine zV_iconst (pc := 1) dX9_feed_1 ?_
  refine zV_bipush (pc := 2) dX9_feed_2 (by decide) ?_
  refine zV_callSf (pc := 4) (mc := mX9_within) (As := [.int (iz x3), .int (iz 1), .int (iz 8)]) (rest := []) dX9_feed_4 zcX9_74 ztX9_within rfl rfl (Nat.le_of_ble_eq_true rfl) (c_X9_within hx3 (inRd rfl) (inRd rfl)) (fun hr1 => ?_)
  refine zV_if_ne (pc := 7) (tgt := 12) dX9_feed_7 (by decide) (inR_b2i _) (fun c3 => ?_) (fun c3 => ?_)
  · replace c3 := b2i_tp c3
    replace h := h.1 c3
    refine zV_aloadr_n (pc := 12) dX9_feed_12 rfl 0 rfl ?_
    refine zV_getR (pc := 13) (b := 56) dX9_feed_13 zfX9_41 rfl rfl rfl ?_
    refine zV_getI (pc := 16) (kz := 2) dX9_feed_16 zfX9_201 rfl rfl rfl ?_
    refine zV_iload_n (pc := 19) dX9_feed_19 rfl 2 rfl ?_
    refine zV_iadd (pc := 20) dX9_feed_20 ?_
    refine zV_sipush (pc := 21) dX9_feed_21 (by decide) ?_
    obtain ⟨o4, h⟩ := h
    refine zV_icmp_le (pc := 24) (tgt := 30) dX9_feed_24 (by decide) o4 (inRd rfl) (fun c5 => ?_) (fun c5 => ?_)
    · skip
      replace h := h.1 c5
      refine zV_aloadr_n (pc := 30) dX9_feed_30 rfl 0 rfl ?_
      refine zV_getR (pc := 31) (b := 56) dX9_feed_31 zfX9_41 rfl rfl rfl ?_
      refine zV_lload_n (pc := 34) dX9_feed_34 rfl 1 rfl ?_
      refine zV_iload_n (pc := 35) dX9_feed_35 rfl 2 rfl ?_
      refine zV_callV (pc := 36) (mc := mX5_take) (As := [.long l1, .int (iz x3)]) (rest := []) dX9_feed_36 zcX9_204 ziX5_take zsX5_take rfl rfl rfl rfl (Nat.le_of_ble_eq_true rfl) h (fun r6 m7 hr6 h => zV_ok (fun hm7 => ?_))
      replace h := h hr6 hm7
      refine zV_aloadr_n (pc := 39) dX9_feed_39 rfl 0 rfl ?_
      refine zV_getR (pc := 40) (b := 56) dX9_feed_40 zfX9_41 rfl rfl rfl ?_
      refine zV_getI (pc := 43) (kz := 2) dX9_feed_43 zfX9_201 rfl rfl rfl ?_
      exact zV_iret (pc := 46) rfl dX9_feed_46 (hm7 _ _) h
    · skip
      replace h := h.2 c5
      refine zV_bipush (pc := 27) dX9_feed_27 (by decide) ?_
      exact zV_iret (pc := 29) rfl dX9_feed_29 (inRd rfl) h
  · replace c3 := b2i_fn c3
    replace h := h.2 c3
    refine zV_iconst (pc := 10) dX9_feed_10 ?_
    exact zV_iret (pc := 11) rfl dX9_feed_11 (inRd rfl) h

set_option maxRecDepth 100000 in
set_option maxHeartbeats 4000000 in
theorem vc_X9_read_0 {K : zCx} {d : Nat}  (m0 : zM) {Q : Int → zM → Prop}  (h : zok m0 → zCt K (d + 21) mX5_parse [rr K 56] m0 (fun r1 m2 => inR r1 → zok m2 → ∀ m3 : zM, m3 = sI m2 56 2 0 → zok m3 → ((r1 < 0 → zCt K (d + 21) mX8_copyFrom [rr K 7, rr K 58] m3 (fun r6 m7 => inR r6 → zok m7 → Q (m7.1 7 2) m7)) ∧ (¬ (r1 < 0) → inR ((-100) - r1) ∧ (Q ((-100) - r1) m3))))) : zV K mX9_read (d + 22) 0 [(0, rr K 0)] [] m0 Q := by
  refine zV_ok (fun hm0 => ?_)
  replace h := h hm0
  refine zV_aloadr_n (pc := 0) dX9_read_0 rfl 0 rfl ?_
  refine zV_getR (pc := 1) (b := 56) dX9_read_1 zfX9_41 rfl rfl rfl ?_
  refine zV_callV (pc := 4) (mc := mX5_parse) (As := []) (rest := []) dX9_read_4 zcX9_208 ziX5_parse zsX5_parse rfl rfl rfl rfl (Nat.le_of_ble_eq_true rfl) h (fun r1 m2 hr1 h => zV_ok (fun hm2 => ?_))
  replace h := h hr1 hm2
  refine zV_istore_n (pc := 7) (loc' := [(1, .int (iz r1)), (0, rr K 0)]) dX9_read_7 rfl (by decide) rfl ?_
  refine zV_aloadr_n (pc := 8) dX9_read_8 rfl 1 rfl ?_
  refine zV_getR (pc := 9) (b := 56) dX9_read_9 zfX9_41 rfl rfl rfl ?_
  refine zV_iconst (pc := 12) dX9_read_12 ?_
  refine zV_putI (pc := 13) (kz := 2) dX9_read_13 zpX9_201 rfl rfl rfl (inRd rfl) rfl rfl ?_
  refine zV_mem (fun m3 e4 => zV_ok (fun hm3 => ?_))
  replace h := h m3 e4 hm3
  refine zV_iload_n (pc := 16) dX9_read_16 rfl 0 rfl ?_
  refine zV_if_lt (pc := 17) (tgt := 25) dX9_read_17 (by decide) hr1 (fun c5 => ?_) (fun c5 => ?_)
  · skip
    replace h := h.1 c5
    refine zV_aloadr_n (pc := 25) dX9_read_25 rfl 1 rfl ?_
    refine zV_getR (pc := 26) (b := 1) dX9_read_26 zfX9_10 rfl rfl rfl ?_
    refine zV_getR (pc := 29) (b := 7) dX9_read_29 zfX9_211 rfl rfl rfl ?_
    refine zV_aloadr_n (pc := 32) dX9_read_32 rfl 1 rfl ?_
    refine zV_getR (pc := 33) (b := 56) dX9_read_33 zfX9_41 rfl rfl rfl ?_
    refine zV_getR (pc := 36) (b := 58) dX9_read_36 zfX9_215 rfl rfl rfl ?_
    refine zV_callV (pc := 39) (mc := mX8_copyFrom) (As := [rr K 58]) (rest := []) dX9_read_39 zcX9_218 ziX8_copyFrom zsX8_copyFrom rfl rfl rfl rfl (Nat.le_of_ble_eq_true rfl) h (fun r6 m7 hr6 h => zV_ok (fun hm7 => ?_))
    replace h := h hr6 hm7
    refine zV_aloadr_n (pc := 42) dX9_read_42 rfl 1 rfl ?_
    refine zV_getR (pc := 43) (b := 1) dX9_read_43 zfX9_10 rfl rfl rfl ?_
    refine zV_getR (pc := 46) (b := 7) dX9_read_46 zfX9_211 rfl rfl rfl ?_
    refine zV_getI (pc := 49) (kz := 2) dX9_read_49 zfX9_224 rfl rfl rfl ?_
    exact zV_iret (pc := 52) rfl dX9_read_52 (hm7 _ _) h
  · skip
    replace h := h.2 c5
    refine zV_bipush (pc := 20) dX9_read_20 (by decide) ?_
    refine zV_iload_n (pc := 22) dX9_read_22 rfl 0 rfl ?_
    refine zV_isub (pc := 23) dX9_read_23 ?_
    obtain ⟨o8, h⟩ := h
    exact zV_iret (pc := 24) rfl dX9_read_24 o8 h

set_option maxRecDepth 100000 in
set_option maxHeartbeats 4000000 in
theorem vc_X9_missed_0 {K : zCx} {d : Nat}  (m0 : zM) {Q : Int → zM → Prop}  (h : zok m0 → zCt K (d + 6) mX7_missing [rr K 64, rr K 1] m0 (fun r1 m2 => inR r1 → zok m2 → Q r1 m2)) : zV K mX9_missed (d + 7) 0 [(0, rr K 0)] [] m0 Q := by
  refine zV_ok (fun hm0 => ?_)
  replace h := h hm0
  refine zV_aloadr_n (pc := 0) dX9_missed_0 rfl 0 rfl ?_
  refine zV_getR (pc := 1) (b := 64) dX9_missed_1 zfX9_22 rfl rfl rfl ?_
  refine zV_aloadr_n (pc := 4) dX9_missed_4 rfl 0 rfl ?_
  refine zV_getR (pc := 5) (b := 1) dX9_missed_5 zfX9_10 rfl rfl rfl ?_
  refine zV_callV (pc := 8) (mc := mX7_missing) (As := [rr K 1]) (rest := []) dX9_missed_8 zcX9_227 ziX7_missing zsX7_missing rfl rfl rfl rfl (Nat.le_of_ble_eq_true rfl) h (fun r1 m2 hr1 h => zV_ok (fun hm2 => ?_))
  replace h := h hr1 hm2
  exact zV_iret (pc := 11) rfl dX9_missed_11 hr1 h

set_option maxRecDepth 100000 in
set_option maxHeartbeats 4000000 in
theorem vc_X9_worst_0 {K : zCx} {d : Nat} (x1 : Int) (m0 : zM) {Q : Int → zM → Prop} (hx1 : inR x1) (h : zok m0 → inR ((m0.1 7 2) - 1) ∧ (((0 ≤ x1 ∧ x1 ≤ ((m0.1 7 2) - 1)) → zCt K (d + 6) mX7_firstMiss [rr K 64, rr K 1, .int (iz x1)] m0 (fun r5 m6 => inR r5 → zok m6 → (0 ≤ r5 → Q r5 m6) ∧ (¬ (0 ≤ r5) → Q (-3) m6))) ∧ (¬ ((0 ≤ x1 ∧ x1 ≤ ((m0.1 7 2) - 1))) → Q (-1) m0))) : zV K mX9_worst (d + 7) 0 [(0, rr K 0), (1, .int (iz x1))] [] m0 Q := by
  refine zV_ok (fun hm0 => ?_)
  replace h := h hm0
  refine zV_iload_n (pc := 0) dX9_worst_0 rfl 1 rfl ?_
  refine zV_iconst (pc := 1) dX9_worst_1 ?_
  refine zV_aloadr_n (pc := 2) dX9_worst_2 rfl 0 rfl ?_
  refine zV_getR (pc := 3) (b := 1) dX9_worst_3 zfX9_10 rfl rfl rfl ?_
  refine zV_getR (pc := 6) (b := 7) dX9_worst_6 zfX9_211 rfl rfl rfl ?_
  refine zV_getI (pc := 9) (kz := 2) dX9_worst_9 zfX9_224 rfl rfl rfl ?_
  refine zV_iconst (pc := 12) dX9_worst_12 ?_
  refine zV_isub (pc := 13) dX9_worst_13 ?_
  obtain ⟨o1, h⟩ := h
  refine zV_callSf (pc := 14) (mc := mX9_within) (As := [.int (iz x1), .int (iz 0), .int (iz ((m0.1 7 2) - 1))]) (rest := []) dX9_worst_14 zcX9_74 ztX9_within rfl rfl (Nat.le_of_ble_eq_true rfl) (c_X9_within hx1 (inRd rfl) o1) (fun hr2 => ?_)
  refine zV_if_ne (pc := 17) (tgt := 22) dX9_worst_17 (by decide) (inR_b2i _) (fun c4 => ?_) (fun c4 => ?_)
  · replace c4 := b2i_tp c4
    replace h := h.1 c4
    refine zV_aloadr_n (pc := 22) dX9_worst_22 rfl 0 rfl ?_
    refine zV_getR (pc := 23) (b := 64) dX9_worst_23 zfX9_22 rfl rfl rfl ?_
    refine zV_aloadr_n (pc := 26) dX9_worst_26 rfl 0 rfl ?_
    refine zV_getR (pc := 27) (b := 1) dX9_worst_27 zfX9_10 rfl rfl rfl ?_
    refine zV_iload_n (pc := 30) dX9_worst_30 rfl 1 rfl ?_
    refine zV_callV (pc := 31) (mc := mX7_firstMiss) (As := [rr K 1, .int (iz x1)]) (rest := []) dX9_worst_31 zcX9_231 ziX7_firstMiss zsX7_firstMiss rfl rfl rfl rfl (Nat.le_of_ble_eq_true rfl) h (fun r5 m6 hr5 h => zV_ok (fun hm6 => ?_))
    replace h := h hr5 hm6
    refine zV_istore_n (pc := 34) (loc' := [(2, .int (iz r5)), (0, rr K 0), (1, .int (iz x1))]) dX9_worst_34 rfl (by decide) rfl ?_
    refine zV_iload_n (pc := 35) dX9_worst_35 rfl 0 rfl ?_
    refine zV_if_ge (pc := 36) (tgt := 44) dX9_worst_36 (by decide) hr5 (fun c7 => ?_) (fun c7 => ?_)
    · skip
      replace h := h.1 c7
      refine zV_iload_n (pc := 44) dX9_worst_44 rfl 0 rfl ?_
      exact zV_iret (pc := 45) rfl dX9_worst_45 hr5 h
    · skip
      replace h := h.2 c7
      refine zV_bipush (pc := 39) dX9_worst_39 (by decide) ?_
      refine zV_goto (pc := 41) (tgt := 45) dX9_worst_41 (by decide) ?_
      exact zV_iret (pc := 45) rfl dX9_worst_45 (inRd rfl) h
  · replace c4 := b2i_fn c4
    replace h := h.2 c4
    refine zV_iconst (pc := 20) dX9_worst_20 ?_
    exact zV_iret (pc := 21) rfl dX9_worst_21 (inRd rfl) h

set_option maxRecDepth 100000 in
set_option maxHeartbeats 4000000 in
theorem vc_X9_holds_0 {K : zCx} {d : Nat} (x1 : Int) (m0 : zM) {Q : Int → zM → Prop} (hx1 : inR x1) (h : zok m0 → ((0 ≤ x1 ∧ x1 ≤ 8) → zCt K (d + 5) mX7_holding [rr K 64, rr K 1, .int (iz x1)] m0 (fun r4 m5 => inR r4 → zok m5 → Q r4 m5)) ∧ (¬ ((0 ≤ x1 ∧ x1 ≤ 8)) → Q (-1) m0)) : zV K mX9_holds (d + 6) 0 [(0, rr K 0), (1, .int (iz x1))] [] m0 Q := by
  refine zV_ok (fun hm0 => ?_)
  replace h := h hm0
  refine zV_iload_n (pc := 0) dX9_holds_0 rfl 1 rfl ?_
  refine zV_callSf (pc := 1) (mc := mX9_isCorner) (As := [.int (iz x1)]) (rest := []) dX9_holds_1 zcX9_150 ztX9_isCorner rfl rfl (Nat.le_of_ble_eq_true rfl) (c_X9_isCorner hx1) (fun hr1 => ?_)
  refine zV_if_ne (pc := 4) (tgt := 9) dX9_holds_4 (by decide) (inR_b2i _) (fun c3 => ?_) (fun c3 => ?_)
  · replace c3 := b2i_tp c3
    replace h := h.1 c3
    refine zV_aloadr_n (pc := 9) dX9_holds_9 rfl 0 rfl ?_
    refine zV_getR (pc := 10) (b := 64) dX9_holds_10 zfX9_22 rfl rfl rfl ?_
    refine zV_aloadr_n (pc := 13) dX9_holds_13 rfl 0 rfl ?_
    refine zV_getR (pc := 14) (b := 1) dX9_holds_14 zfX9_10 rfl rfl rfl ?_
    refine zV_iload_n (pc := 17) dX9_holds_17 rfl 1 rfl ?_
    refine zV_callV (pc := 18) (mc := mX7_holding) (As := [rr K 1, .int (iz x1)]) (rest := []) dX9_holds_18 zcX9_235 ziX7_holding zsX7_holding rfl rfl rfl rfl (Nat.le_of_ble_eq_true rfl) h (fun r4 m5 hr4 h => zV_ok (fun hm5 => ?_))
    replace h := h hr4 hm5
    exact zV_iret (pc := 21) rfl dX9_holds_21 hr4 h
  · replace c3 := b2i_fn c3
    replace h := h.2 c3
    refine zV_iconst (pc := 7) dX9_holds_7 ?_
    exact zV_iret (pc := 8) rfl dX9_holds_8 (inRd rfl) h

set_option maxRecDepth 100000 in
set_option maxHeartbeats 4000000 in
theorem vc_X9_open_0 {K : zCx} {d : Nat} (x1 : Int) (x2 : Int) (x3 : Int) (m0 : zM) {Q : Int → zM → Prop} (hx1 : inR x1) (hx2 : inR x2) (hx3 : inR x3) (h : zok m0 → (0 ≤ m0.1 1 6) ∧ (((0 ≤ x1 ∧ x1 < m0.1 1 6) → (x3 = 0 → 0 ≤ x1 ∧ x1 < 10 ∧ (∀ v8 : Int, v8 = (if x3 = 0 then 0 else x2) → (∀ m10 : zM, m10 = sI m0 (10 + x1) 10 v8 → zok m10 → (∀ m12 : zM, m12 = sI m10 (10 + x1) 11 x3 → zok m12 → (zCt K (d + 2) mX4_openCount [rr K 1] m12 (fun r14 m15 => inR r14 → zok m15 → Q r14 m15)))))) ∧ (¬ (x3 = 0) → ((1 ≤ x2 ∧ x2 ≤ 9) → ((x2 ≤ x3 ∧ x3 ≤ 9) → inR (x3 - x2) ∧ (((x3 - x2) < 4 → 0 ≤ x1 ∧ x1 < 10 ∧ (((¬ m0.1 (10 + x1) 11 = 0) → ∀ v30 : Int, v30 = (if x3 = 0 then 0 else x2) → (∀ m32 : zM, m32 = sI m0 (10 + x1) 10 v30 → zok m32 → (∀ m34 : zM, m34 = sI m32 (10 + x1) 11 x3 → zok m34 → (zCt K (d + 2) mX4_openCount [rr K 1] m34 (fun r36 m37 => inR r36 → zok m37 → Q r36 m37))))) ∧ (¬ ((¬ m0.1 (10 + x1) 11 = 0)) → zCt K (d + 2) mX4_openCount [rr K 1] m0 (fun r39 m40 => inR r39 → zok m40 → (r39 < 4 → ∀ v42 : Int, v42 = (if x3 = 0 then 0 else x2) → (∀ m44 : zM, m44 = sI m40 (10 + x1) 10 v42 → zok m44 → (∀ m46 : zM, m46 = sI m44 (10 + x1) 11 x3 → zok m46 → (zCt K (d + 2) mX4_openCount [rr K 1] m46 (fun r48 m49 => inR r48 → zok m49 → Q r48 m49))))) ∧ (¬ (r39 < 4) → Q (-2) m40))))) ∧ (¬ ((x3 - x2) < 4) → Q (-1) m0))) ∧ (¬ ((x2 ≤ x3 ∧ x3 ≤ 9)) → Q (-1) m0)) ∧ (¬ ((1 ≤ x2 ∧ x2 ≤ 9)) → Q (-1) m0))) ∧ (¬ ((0 ≤ x1 ∧ x1 < m0.1 1 6)) → Q (-1) m0))) : zV K mX9_open (d + 3) 0 [(0, rr K 0), (1, .int (iz x1)), (2, .int (iz x2)), (3, .int (iz x3))] [] m0 Q := by
  refine zV_ok (fun hm0 => ?_)
  replace h := h hm0
  refine zV_aloadr_n (pc := 0) dX9_open_0 rfl 0 rfl ?_
  refine zV_getR (pc := 1) (b := 1) dX9_open_1 zfX9_10 rfl rfl rfl ?_
  refine zV_iload_n (pc := 4) dX9_open_4 rfl 1 rfl ?_
  obtain ⟨o1, h⟩ := h
  refine zV_callVf (pc := 5) (mc := mX4_hasPart) (As := [.int (iz x1)]) (rest := []) dX9_open_5 zcX9_124 ziX4_hasPart zsX4_hasPart rfl rfl rfl rfl (Nat.le_of_ble_eq_true rfl) (c_X4_hasPart (Or.inl rfl) hx1 hm0 o1) (fun hr2 => ?_)
  refine zV_if_ne (pc := 8) (tgt := 13) dX9_open_8 (by decide) (inR_b2i _) (fun c4 => ?_) (fun c4 => ?_)
  · replace c4 := b2i_tp c4
    replace h := h.1 c4
    refine zV_iload_n (pc := 13) dX9_open_13 rfl 3 rfl ?_
    refine zV_if_eq (pc := 14) (tgt := 75) dX9_open_14 (by decide) hx3 (fun c5 => ?_) (fun c5 => ?_)
    · skip
      replace h := h.1 c5
      refine zV_aloadr_n (pc := 75) dX9_open_75 rfl 0 rfl ?_
      refine zV_getR (pc := 76) (b := 1) dX9_open_76 zfX9_10 rfl rfl rfl ?_
      refine zV_getR (pc := 79) (b := 2) dX9_open_79 zfX9_114 rfl rfl rfl ?_
      refine zV_iload_n (pc := 82) dX9_open_82 rfl 1 rfl ?_
      obtain ⟨o6, o7, h⟩ := h
      refine zV_aald (pc := 83) dX9_open_83 rfl o6 o7 (inR_ix o6 o7 rfl) (zPn1_p o6 o7) ?_
      refine zV_iload_n (pc := 84) dX9_open_84 rfl 3 rfl ?_
      have key : ∀ v8 : Int, v8 = (if x3 = 0 then 0 else x2) → zV K mX9_open (d + 3) 93 [(0, rr K 0), (1, .int (iz x1)), (3, .int (iz x3))] [.int (iz v8), rr K (10 + x1)] m0 Q := by
        intro v8 e9
        replace h := h v8 e9
        have hrv8 : inR v8 := by rw [e9]; (repeat' split) <;> first | with_reducible exact hx2 | with_reducible exact (inRd rfl)
        refine zV_putI (pc := 93) (kz := 10) dX9_open_93 zpX9_245 (zPn1_s o6 o7) rfl rfl hrv8 rfl rfl ?_
        refine zV_mem (fun m10 e11 => zV_ok (fun hm10 => ?_))
        replace h := h m10 e11 hm10
        refine zV_aloadr_n (pc := 96) dX9_open_96 rfl 0 rfl ?_
        refine zV_getR (pc := 97) (b := 1) dX9_open_97 zfX9_10 rfl rfl rfl ?_
        refine zV_getR (pc := 100) (b := 2) dX9_open_100 zfX9_114 rfl rfl rfl ?_
        refine zV_iload_n (pc := 103) dX9_open_103 rfl 1 rfl ?_
        refine zV_aald (pc := 104) dX9_open_104 rfl o6 o7 (inR_ix o6 o7 rfl) (zPn1_p o6 o7) ?_
        refine zV_iload_n (pc := 105) dX9_open_105 rfl 2 rfl ?_
        refine zV_putI (pc := 106) (kz := 11) dX9_open_106 zpX9_248 (zPn1_s o6 o7) rfl rfl hx3 rfl rfl ?_
        refine zV_mem (fun m12 e13 => zV_ok (fun hm12 => ?_))
        replace h := h m12 e13 hm12
        refine zV_aloadr_n (pc := 109) dX9_open_109 rfl 0 rfl ?_
        refine zV_getR (pc := 110) (b := 1) dX9_open_110 zfX9_10 rfl rfl rfl ?_
        refine zV_callV (pc := 113) (mc := mX4_openCount) (As := []) (rest := []) dX9_open_113 zcX9_242 ziX4_openCount zsX4_openCount rfl rfl rfl rfl (Nat.le_of_ble_eq_true rfl) h (fun r14 m15 hr14 h => zV_ok (fun hm15 => ?_))
        replace h := h hr14 hm15
        exact zV_iret (pc := 116) rfl dX9_open_116 hr14 h
      refine zV_if_ne (pc := 85) (tgt := 92) dX9_open_85 (by decide) hx3 (fun c16 => ?_) (fun c16 => ?_)
      · skip
        refine zV_iload_n (pc := 92) dX9_open_92 rfl 2 rfl ?_
        exact zV_sub [0, 1, 3] rfl (key _ (if_neg c16).symm)
      · replace c16 := Classical.not_not.mp c16
        refine zV_iconst (pc := 88) dX9_open_88 ?_
        refine zV_goto (pc := 89) (tgt := 93) dX9_open_89 (by decide) ?_
        exact zV_sub [0, 1, 3] rfl (key _ (if_pos c16).symm)
    · skip
      replace h := h.2 c5
      refine zV_iload_n (pc := 17) dX9_open_17 rfl 2 rfl ?_
      refine zV_iconst (pc := 18) dX9_open_18 ?_
      refine zV_bipush (pc := 19) dX9_open_19 (by decide) ?_
      refine zV_callSf (pc := 21) (mc := mX9_within) (As := [.int (iz x2), .int (iz 1), .int (iz 9)]) (rest := []) dX9_open_21 zcX9_74 ztX9_within rfl rfl (Nat.le_of_ble_eq_true rfl) (c_X9_within hx2 (inRd rfl) (inRd rfl)) (fun hr17 => ?_)
      refine zV_if_eq (pc := 24) (tgt := 44) dX9_open_24 (by decide) (inR_b2i _) (fun c19 => ?_) (fun c19 => ?_)
      · replace c19 := b2i_fp c19
        replace h := h.2 c19
        refine zV_iconst (pc := 44) dX9_open_44 ?_
        exact zV_iret (pc := 45) rfl dX9_open_45 (inRd rfl) h
      · replace c19 := b2i_tp c19
        replace h := h.1 c19
        refine zV_iload_n (pc := 27) dX9_open_27 rfl 3 rfl ?_
        refine zV_iload_n (pc := 28) dX9_open_28 rfl 2 rfl ?_
        refine zV_bipush (pc := 29) dX9_open_29 (by decide) ?_
        refine zV_callSf (pc := 31) (mc := mX9_within) (As := [.int (iz x3), .int (iz x2), .int (iz 9)]) (rest := []) dX9_open_31 zcX9_74 ztX9_within rfl rfl (Nat.le_of_ble_eq_true rfl) (c_X9_within hx3 hx2 (inRd rfl)) (fun hr20 => ?_)
        refine zV_if_eq (pc := 34) (tgt := 44) dX9_open_34 (by decide) (inR_b2i _) (fun c22 => ?_) (fun c22 => ?_)
        · replace c22 := b2i_fp c22
          replace h := h.2 c22
          refine zV_iconst (pc := 44) dX9_open_44 ?_
          exact zV_iret (pc := 45) rfl dX9_open_45 (inRd rfl) h
        · replace c22 := b2i_tp c22
          replace h := h.1 c22
          refine zV_iload_n (pc := 37) dX9_open_37 rfl 3 rfl ?_
          refine zV_iload_n (pc := 38) dX9_open_38 rfl 2 rfl ?_
          refine zV_isub (pc := 39) dX9_open_39 ?_
          refine zV_iconst (pc := 40) dX9_open_40 ?_
          obtain ⟨o23, h⟩ := h
          refine zV_icmp_lt (pc := 41) (tgt := 46) dX9_open_41 (by decide) o23 (inRd rfl) (fun c24 => ?_) (fun c24 => ?_)
          · skip
            replace h := h.1 c24
            refine zV_aloadr_n (pc := 46) dX9_open_46 rfl 0 rfl ?_
            refine zV_getR (pc := 47) (b := 1) dX9_open_47 zfX9_10 rfl rfl rfl ?_
            refine zV_getR (pc := 50) (b := 2) dX9_open_50 zfX9_114 rfl rfl rfl ?_
            refine zV_iload_n (pc := 53) dX9_open_53 rfl 1 rfl ?_
            obtain ⟨o25, o26, h⟩ := h
            refine zV_aald (pc := 54) dX9_open_54 rfl o25 o26 (inR_ix o25 o26 rfl) (zPn1_p o25 o26) ?_
            refine zV_callVf (pc := 55) (mc := mX3_isOpen) (As := []) (rest := []) dX9_open_55 zcX9_238 ziX3_isOpen zsX3_isOpen (zPn1_s o25 o26) rfl rfl rfl (Nat.le_of_ble_eq_true rfl) (c_X3_isOpen (zPn1_s o25 o26) hm0) (fun hr27 => ?_)
            refine zV_if_ne (pc := 58) (tgt := 75) dX9_open_58 (by decide) (inR_b2i _) (fun c29 => ?_) (fun c29 => ?_)
            · replace c29 := b2i_tp c29
              replace h := h.1 c29
              refine zV_aloadr_n (pc := 75) dX9_open_75 rfl 0 rfl ?_
              refine zV_getR (pc := 76) (b := 1) dX9_open_76 zfX9_10 rfl rfl rfl ?_
              refine zV_getR (pc := 79) (b := 2) dX9_open_79 zfX9_114 rfl rfl rfl ?_
              refine zV_iload_n (pc := 82) dX9_open_82 rfl 1 rfl ?_
              refine zV_aald (pc := 83) dX9_open_83 rfl o25 o26 (inR_ix o25 o26 rfl) (zPn1_p o25 o26) ?_
              refine zV_iload_n (pc := 84) dX9_open_84 rfl 3 rfl ?_
              have key : ∀ v30 : Int, v30 = (if x3 = 0 then 0 else x2) → zV K mX9_open (d + 3) 93 [(0, rr K 0), (1, .int (iz x1)), (3, .int (iz x3))] [.int (iz v30), rr K (10 + x1)] m0 Q := by
                intro v30 e31
                replace h := h v30 e31
                have hrv30 : inR v30 := by rw [e31]; (repeat' split) <;> first | with_reducible exact hx2 | with_reducible exact (inRd rfl)
                refine zV_putI (pc := 93) (kz := 10) dX9_open_93 zpX9_245 (zPn1_s o25 o26) rfl rfl hrv30 rfl rfl ?_
                refine zV_mem (fun m32 e33 => zV_ok (fun hm32 => ?_))
                replace h := h m32 e33 hm32
                refine zV_aloadr_n (pc := 96) dX9_open_96 rfl 0 rfl ?_
                refine zV_getR (pc := 97) (b := 1) dX9_open_97 zfX9_10 rfl rfl rfl ?_
                refine zV_getR (pc := 100) (b := 2) dX9_open_100 zfX9_114 rfl rfl rfl ?_
                refine zV_iload_n (pc := 103) dX9_open_103 rfl 1 rfl ?_
                refine zV_aald (pc := 104) dX9_open_104 rfl o25 o26 (inR_ix o25 o26 rfl) (zPn1_p o25 o26) ?_
                refine zV_iload_n (pc := 105) dX9_open_105 rfl 2 rfl ?_
                refine zV_putI (pc := 106) (kz := 11) dX9_open_106 zpX9_248 (zPn1_s o25 o26) rfl rfl hx3 rfl rfl ?_
                refine zV_mem (fun m34 e35 => zV_ok (fun hm34 => ?_))
                replace h := h m34 e35 hm34
                refine zV_aloadr_n (pc := 109) dX9_open_109 rfl 0 rfl ?_
                refine zV_getR (pc := 110) (b := 1) dX9_open_110 zfX9_10 rfl rfl rfl ?_
                refine zV_callV (pc := 113) (mc := mX4_openCount) (As := []) (rest := []) dX9_open_113 zcX9_242 ziX4_openCount zsX4_openCount rfl rfl rfl rfl (Nat.le_of_ble_eq_true rfl) h (fun r36 m37 hr36 h => zV_ok (fun hm37 => ?_))
                replace h := h hr36 hm37
                exact zV_iret (pc := 116) rfl dX9_open_116 hr36 h
              refine zV_if_ne (pc := 85) (tgt := 92) dX9_open_85 (by decide) hx3 (fun c38 => ?_) (fun c38 => ?_)
              · skip
                refine zV_iload_n (pc := 92) dX9_open_92 rfl 2 rfl ?_
                exact zV_sub [0, 1, 3] rfl (key _ (if_neg c38).symm)
              · replace c38 := Classical.not_not.mp c38
                refine zV_iconst (pc := 88) dX9_open_88 ?_
                refine zV_goto (pc := 89) (tgt := 93) dX9_open_89 (by decide) ?_
                exact zV_sub [0, 1, 3] rfl (key _ (if_pos c38).symm)
            · replace c29 := b2i_fn c29
              replace h := h.2 c29
              refine zV_aloadr_n (pc := 61) dX9_open_61 rfl 0 rfl ?_
              refine zV_getR (pc := 62) (b := 1) dX9_open_62 zfX9_10 rfl rfl rfl ?_
              refine zV_callV (pc := 65) (mc := mX4_openCount) (As := []) (rest := []) dX9_open_65 zcX9_242 ziX4_openCount zsX4_openCount rfl rfl rfl rfl (Nat.le_of_ble_eq_true rfl) h (fun r39 m40 hr39 h => zV_ok (fun hm40 => ?_))
              replace h := h hr39 hm40
              refine zV_iconst (pc := 68) dX9_open_68 ?_
              refine zV_icmp_lt (pc := 69) (tgt := 75) dX9_open_69 (by decide) hr39 (inRd rfl) (fun c41 => ?_) (fun c41 => ?_)
              · skip
                replace h := h.1 c41
                refine zV_aloadr_n (pc := 75) dX9_open_75 rfl 0 rfl ?_
                refine zV_getR (pc := 76) (b := 1) dX9_open_76 zfX9_10 rfl rfl rfl ?_
                refine zV_getR (pc := 79) (b := 2) dX9_open_79 zfX9_114 rfl rfl rfl ?_
                refine zV_iload_n (pc := 82) dX9_open_82 rfl 1 rfl ?_
                refine zV_aald (pc := 83) dX9_open_83 rfl o25 o26 (inR_ix o25 o26 rfl) (zPn1_p o25 o26) ?_
                refine zV_iload_n (pc := 84) dX9_open_84 rfl 3 rfl ?_
                have key : ∀ v42 : Int, v42 = (if x3 = 0 then 0 else x2) → zV K mX9_open (d + 3) 93 [(0, rr K 0), (1, .int (iz x1)), (3, .int (iz x3))] [.int (iz v42), rr K (10 + x1)] m40 Q := by
                  intro v42 e43
                  replace h := h v42 e43
                  have hrv42 : inR v42 := by rw [e43]; (repeat' split) <;> first | with_reducible exact hx2 | with_reducible exact (inRd rfl)
                  refine zV_putI (pc := 93) (kz := 10) dX9_open_93 zpX9_245 (zPn1_s o25 o26) rfl rfl hrv42 rfl rfl ?_
                  refine zV_mem (fun m44 e45 => zV_ok (fun hm44 => ?_))
                  replace h := h m44 e45 hm44
                  refine zV_aloadr_n (pc := 96) dX9_open_96 rfl 0 rfl ?_
                  refine zV_getR (pc := 97) (b := 1) dX9_open_97 zfX9_10 rfl rfl rfl ?_
                  refine zV_getR (pc := 100) (b := 2) dX9_open_100 zfX9_114 rfl rfl rfl ?_
                  refine zV_iload_n (pc := 103) dX9_open_103 rfl 1 rfl ?_
                  refine zV_aald (pc := 104) dX9_open_104 rfl o25 o26 (inR_ix o25 o26 rfl) (zPn1_p o25 o26) ?_
                  refine zV_iload_n (pc := 105) dX9_open_105 rfl 2 rfl ?_
                  refine zV_putI (pc := 106) (kz := 11) dX9_open_106 zpX9_248 (zPn1_s o25 o26) rfl rfl hx3 rfl rfl ?_
                  refine zV_mem (fun m46 e47 => zV_ok (fun hm46 => ?_))
                  replace h := h m46 e47 hm46
                  refine zV_aloadr_n (pc := 109) dX9_open_109 rfl 0 rfl ?_
                  refine zV_getR (pc := 110) (b := 1) dX9_open_110 zfX9_10 rfl rfl rfl ?_
                  refine zV_callV (pc := 113) (mc := mX4_openCount) (As := []) (rest := []) dX9_open_113 zcX9_242 ziX4_openCount zsX4_openCount rfl rfl rfl rfl (Nat.le_of_ble_eq_true rfl) h (fun r48 m49 hr48 h => zV_ok (fun hm49 => ?_))
                  replace h := h hr48 hm49
                  exact zV_iret (pc := 116) rfl dX9_open_116 hr48 h
                refine zV_if_ne (pc := 85) (tgt := 92) dX9_open_85 (by decide) hx3 (fun c50 => ?_) (fun c50 => ?_)
                · skip
                  refine zV_iload_n (pc := 92) dX9_open_92 rfl 2 rfl ?_
                  exact zV_sub [0, 1, 3] rfl (key _ (if_neg c50).symm)
                · replace c50 := Classical.not_not.mp c50
                  refine zV_iconst (pc := 88) dX9_open_88 ?_
                  refine zV_goto (pc := 89) (tgt := 93) dX9_open_89 (by decide) ?_
                  exact zV_sub [0, 1, 3] rfl (key _ (if_pos c50).symm)
              · skip
                replace h := h.2 c41
                refine zV_bipush (pc := 72) dX9_open_72 (by decide) ?_
                exact zV_iret (pc := 74) rfl dX9_open_74 (inRd rfl) h
          · skip
            replace h := h.2 c24
            refine zV_iconst (pc := 44) dX9_open_44 ?_
            exact zV_iret (pc := 45) rfl dX9_open_45 (inRd rfl) h
  · replace c4 := b2i_fn c4
    replace h := h.2 c4
    refine zV_iconst (pc := 11) dX9_open_11 ?_
    exact zV_iret (pc := 12) rfl dX9_open_12 (inRd rfl) h

set_option maxRecDepth 100000 in
set_option maxHeartbeats 4000000 in
theorem vc_X9_sizing_0 {K : zCx} {d : Nat} (x1 : Int) (m0 : zM) {Q : Int → zM → Prop} (hx1 : inR x1) (h : zok m0 → zCt K (d + 7) mX4_openCount [rr K 1] m0 (fun r1 m2 => inR r1 → zok m2 → inR (r1 - 1) ∧ ((((-1) ≤ x1 ∧ x1 ≤ (r1 - 1)) → zCt K (d + 7) mX7_findSizing [rr K 64, rr K 1] m2 (fun r7 m8 => inR r7 → zok m8 → (r7 = 0 → Q (-3) m8) ∧ (¬ (r7 = 0) → (0 ≤ x1 → 0 ≤ x1 ∧ x1 < 4 ∧ (Q (m8.1 66 x1) m8)) ∧ (¬ (0 ≤ x1) → Q (m8.1 64 4) m8)))) ∧ (¬ (((-1) ≤ x1 ∧ x1 ≤ (r1 - 1))) → Q (-1) m2)))) : zV K mX9_sizing (d + 8) 0 [(0, rr K 0), (1, .int (iz x1))] [] m0 Q := by
  refine zV_ok (fun hm0 => ?_)
  replace h := h hm0
  refine zV_iload_n (pc := 0) dX9_sizing_0 rfl 1 rfl ?_
  refine zV_iconst (pc := 1) dX9_sizing_1 ?_
  refine zV_aloadr_n (pc := 2) dX9_sizing_2 rfl 0 rfl ?_
  refine zV_getR (pc := 3) (b := 1) dX9_sizing_3 zfX9_10 rfl rfl rfl ?_
  refine zV_callV (pc := 6) (mc := mX4_openCount) (As := []) (rest := [.int (iz (-1)), .int (iz x1)]) dX9_sizing_6 zcX9_242 ziX4_openCount zsX4_openCount rfl rfl rfl rfl (Nat.le_of_ble_eq_true rfl) h (fun r1 m2 hr1 h => zV_ok (fun hm2 => ?_))
  replace h := h hr1 hm2
  refine zV_iconst (pc := 9) dX9_sizing_9 ?_
  refine zV_isub (pc := 10) dX9_sizing_10 ?_
  obtain ⟨o3, h⟩ := h
  refine zV_callSf (pc := 11) (mc := mX9_within) (As := [.int (iz x1), .int (iz (-1)), .int (iz (r1 - 1))]) (rest := []) dX9_sizing_11 zcX9_74 ztX9_within rfl rfl (Nat.le_of_ble_eq_true rfl) (c_X9_within hx1 (inRd rfl) o3) (fun hr4 => ?_)
  refine zV_if_ne (pc := 14) (tgt := 19) dX9_sizing_14 (by decide) (inR_b2i _) (fun c6 => ?_) (fun c6 => ?_)
  · replace c6 := b2i_tp c6
    replace h := h.1 c6
    refine zV_aloadr_n (pc := 19) dX9_sizing_19 rfl 0 rfl ?_
    refine zV_getR (pc := 20) (b := 64) dX9_sizing_20 zfX9_22 rfl rfl rfl ?_
    refine zV_aloadr_n (pc := 23) dX9_sizing_23 rfl 0 rfl ?_
    refine zV_getR (pc := 24) (b := 1) dX9_sizing_24 zfX9_10 rfl rfl rfl ?_
    refine zV_callV (pc := 27) (mc := mX7_findSizing) (As := [rr K 1]) (rest := []) dX9_sizing_27 zcX9_251 ziX7_findSizing zsX7_findSizing rfl rfl rfl rfl (Nat.le_of_ble_eq_true rfl) h (fun r7 m8 hr7 h => zV_ok (fun hm8 => ?_))
    replace h := h hr7 hm8
    refine zV_if_ne (pc := 30) (tgt := 36) dX9_sizing_30 (by decide) hr7 (fun c9 => ?_) (fun c9 => ?_)
    · skip
      replace h := h.2 c9
      refine zV_iload_n (pc := 36) dX9_sizing_36 rfl 1 rfl ?_
      refine zV_if_ge (pc := 37) (tgt := 50) dX9_sizing_37 (by decide) hx1 (fun c10 => ?_) (fun c10 => ?_)
      · skip
        replace h := h.1 c10
        refine zV_aloadr_n (pc := 50) dX9_sizing_50 rfl 0 rfl ?_
        refine zV_getR (pc := 51) (b := 64) dX9_sizing_51 zfX9_22 rfl rfl rfl ?_
        refine zV_getR (pc := 54) (b := 66) dX9_sizing_54 zfX9_258 rfl rfl rfl ?_
        refine zV_iload_n (pc := 57) dX9_sizing_57 rfl 1 rfl ?_
        obtain ⟨o11, o12, h⟩ := h
        refine zV_iald (pc := 58) dX9_sizing_58 rfl o11 o12 (inR_ix o11 o12 rfl) ?_
        exact zV_iret (pc := 59) rfl dX9_sizing_59 (hm8 _ _) h
      · skip
        replace h := h.2 c10
        refine zV_aloadr_n (pc := 40) dX9_sizing_40 rfl 0 rfl ?_
        refine zV_getR (pc := 41) (b := 64) dX9_sizing_41 zfX9_22 rfl rfl rfl ?_
        refine zV_getI (pc := 44) (kz := 4) dX9_sizing_44 zfX9_255 rfl rfl rfl ?_
        refine zV_goto (pc := 47) (tgt := 59) dX9_sizing_47 (by decide) ?_
        exact zV_iret (pc := 59) rfl dX9_sizing_59 (hm8 _ _) h
    · replace c9 := Classical.not_not.mp c9
      replace h := h.1 c9
      refine zV_bipush (pc := 33) dX9_sizing_33 (by decide) ?_
      exact zV_iret (pc := 35) rfl dX9_sizing_35 (inRd rfl) h
  · replace c6 := b2i_fn c6
    replace h := h.2 c6
    refine zV_iconst (pc := 17) dX9_sizing_17 ?_
    exact zV_iret (pc := 18) rfl dX9_sizing_18 (inRd rfl) h

set_option maxRecDepth 100000 in
set_option maxHeartbeats 4000000 in
theorem vc_X9_prove_0 {K : zCx} {d : Nat}  (m0 : zM) {Q : Int → zM → Prop}  (h : zok m0 → zCt K (d + 7) mX7_findSizing [rr K 64, rr K 1] m0 (fun r1 m2 => inR r1 → zok m2 → (r1 = 0 → Q (-3) m2) ∧ (¬ (r1 = 0) → ∀ m4 : zM, m4 = sI m2 0 10 (m2.1 64 3) → zok m4 → (zV K mX9_prove (d + 8) 30 [(0, rr K 0), (1, .int (iz 0))] [] m4 Q)))) : zV K mX9_prove (d + 8) 0 [(0, rr K 0)] [] m0 Q := by
  refine zV_ok (fun hm0 => ?_)
  replace h := h hm0
  refine zV_aloadr_n (pc := 0) dX9_prove_0 rfl 0 rfl ?_
  refine zV_getR (pc := 1) (b := 64) dX9_prove_1 zfX9_22 rfl rfl rfl ?_
  refine zV_aloadr_n (pc := 4) dX9_prove_4 rfl 0 rfl ?_
  refine zV_getR (pc := 5) (b := 1) dX9_prove_5 zfX9_10 rfl rfl rfl ?_
  refine zV_callV (pc := 8) (mc := mX7_findSizing) (As := [rr K 1]) (rest := []) dX9_prove_8 zcX9_251 ziX7_findSizing zsX7_findSizing rfl rfl rfl rfl (Nat.le_of_ble_eq_true rfl) h (fun r1 m2 hr1 h => zV_ok (fun hm2 => ?_))
  replace h := h hr1 hm2
  refine zV_if_ne (pc := 11) (tgt := 17) dX9_prove_11 (by decide) hr1 (fun c3 => ?_) (fun c3 => ?_)
  · skip
    replace h := h.2 c3
    refine zV_aloadr_n (pc := 17) dX9_prove_17 rfl 0 rfl ?_
    refine zV_aloadr_n (pc := 18) dX9_prove_18 rfl 0 rfl ?_
    refine zV_getR (pc := 19) (b := 64) dX9_prove_19 zfX9_22 rfl rfl rfl ?_
    refine zV_getI (pc := 22) (kz := 3) dX9_prove_22 zfX9_261 rfl rfl rfl ?_
    refine zV_putI (pc := 25) (kz := 10) dX9_prove_25 zpX9_66 rfl rfl rfl (hm2 _ _) rfl rfl ?_
    refine zV_mem (fun m4 e5 => zV_ok (fun hm4 => ?_))
    replace h := h m4 e5 hm4
    refine zV_iconst (pc := 28) dX9_prove_28 ?_
    refine zV_istore_n (pc := 29) (loc' := [(1, .int (iz 0)), (0, rr K 0)]) dX9_prove_29 rfl (by decide) rfl ?_
    exact zV_sub [1, 0] rfl h
  · replace c3 := Classical.not_not.mp c3
    replace h := h.1 c3
    refine zV_bipush (pc := 14) dX9_prove_14 (by decide) ?_
    exact zV_iret (pc := 16) rfl dX9_prove_16 (inRd rfl) h
set_option maxRecDepth 100000 in
set_option maxHeartbeats 4000000 in
theorem vc_X9_prove_30 {K : zCx} {d : Nat} (x1 : Int) (m0 : zM) {Q : Int → zM → Prop} (hx1 : inR x1) (h : zok m0 → ((m0.1 0 10) ≤ x1 → Q (m0.1 0 10) m0) ∧ (¬ ((m0.1 0 10) ≤ x1) → 0 ≤ x1 ∧ x1 < 4 ∧ (∀ m4 : zM, m4 = sI m0 96 x1 (m0.1 65 x1) → zok m4 → (∀ m6 : zM, m6 = sI m4 97 x1 (m4.1 66 x1) → zok m6 → (zV K mX9_prove (d + 8) 30 [(0, rr K 0), (1, .int (iz (x1 + 1)))] [] m6 Q))))) : zV K mX9_prove (d + 8) 30 [(0, rr K 0), (1, .int (iz x1))] [] m0 Q := by
  refine zV_ok (fun hm0 => ?_)
  replace h := h hm0
  refine zV_iload_n (pc := 30) dX9_prove_30 rfl 1 rfl ?_
  refine zV_aloadr_n (pc := 31) dX9_prove_31 rfl 0 rfl ?_
  refine zV_getI (pc := 32) (kz := 10) dX9_prove_32 zfX9_66 rfl rfl rfl ?_
  refine zV_icmp_ge (pc := 35) (tgt := 74) dX9_prove_35 (by decide) hx1 (hm0 _ _) (fun c1 => ?_) (fun c1 => ?_)
  · skip
    replace h := h.1 c1
    refine zV_aloadr_n (pc := 74) dX9_prove_74 rfl 0 rfl ?_
    refine zV_getI (pc := 75) (kz := 10) dX9_prove_75 zfX9_66 rfl rfl rfl ?_
    exact zV_iret (pc := 78) rfl dX9_prove_78 (hm0 _ _) h
  · skip
    replace h := h.2 c1
    refine zV_aloadr_n (pc := 38) dX9_prove_38 rfl 0 rfl ?_
    refine zV_getR (pc := 39) (b := 96) dX9_prove_39 zfX9_59 rfl rfl rfl ?_
    refine zV_iload_n (pc := 42) dX9_prove_42 rfl 1 rfl ?_
    refine zV_aloadr_n (pc := 43) dX9_prove_43 rfl 0 rfl ?_
    refine zV_getR (pc := 44) (b := 64) dX9_prove_44 zfX9_22 rfl rfl rfl ?_
    refine zV_getR (pc := 47) (b := 65) dX9_prove_47 zfX9_263 rfl rfl rfl ?_
    refine zV_iload_n (pc := 50) dX9_prove_50 rfl 1 rfl ?_
    obtain ⟨o2, o3, h⟩ := h
    refine zV_iald (pc := 51) dX9_prove_51 rfl o2 o3 (inR_ix o2 o3 rfl) ?_
    refine zV_iast (pc := 52) dX9_prove_52 rfl o2 o3 (inR_ix o2 o3 rfl) (hm0 _ _) ?_
    refine zV_mem (fun m4 e5 => zV_ok (fun hm4 => ?_))
    replace h := h m4 e5 hm4
    refine zV_aloadr_n (pc := 53) dX9_prove_53 rfl 0 rfl ?_
    refine zV_getR (pc := 54) (b := 97) dX9_prove_54 zfX9_63 rfl rfl rfl ?_
    refine zV_iload_n (pc := 57) dX9_prove_57 rfl 1 rfl ?_
    refine zV_aloadr_n (pc := 58) dX9_prove_58 rfl 0 rfl ?_
    refine zV_getR (pc := 59) (b := 64) dX9_prove_59 zfX9_22 rfl rfl rfl ?_
    refine zV_getR (pc := 62) (b := 66) dX9_prove_62 zfX9_258 rfl rfl rfl ?_
    refine zV_iload_n (pc := 65) dX9_prove_65 rfl 1 rfl ?_
    refine zV_iald (pc := 66) dX9_prove_66 rfl o2 o3 (inR_ix o2 o3 rfl) ?_
    refine zV_iast (pc := 67) dX9_prove_67 rfl o2 o3 (inR_ix o2 o3 rfl) (hm4 _ _) ?_
    refine zV_mem (fun m6 e7 => zV_ok (fun hm6 => ?_))
    replace h := h m6 e7 hm6
    refine zV_iinc (pc := 68) (loc' := [(1, .int (iz (x1 + 1))), (0, rr K 0)]) dX9_prove_68 1 rfl (by decide) rfl ?_
    refine zV_goto (pc := 71) (tgt := 30) dX9_prove_71 (by decide) ?_
    exact zV_sub [1, 0] rfl h

set_option maxRecDepth 100000 in
set_option maxHeartbeats 4000000 in
theorem vc_X9_row_0 {K : zCx} {d : Nat} (x1 : Int) (x2 : Int) (m0 : zM) {Q : Int → zM → Prop} (hx1 : inR x1) (hx2 : inR x2) (h : zok m0 → inR ((m0.1 0 10) - 1) ∧ (((0 ≤ x1 ∧ x1 ≤ ((m0.1 0 10) - 1)) → ((0 ≤ x2 ∧ x2 ≤ 1) → (x2 = 0 → 0 ≤ x1 ∧ x1 < 4 ∧ (Q (m0.1 96 x1) m0)) ∧ (¬ (x2 = 0) → 0 ≤ x1 ∧ x1 < 4 ∧ (Q (m0.1 97 x1) m0))) ∧ (¬ ((0 ≤ x2 ∧ x2 ≤ 1)) → Q (-9) m0)) ∧ (¬ ((0 ≤ x1 ∧ x1 ≤ ((m0.1 0 10) - 1))) → Q (-9) m0))) : zV K mX9_row (d + 2) 0 [(0, rr K 0), (1, .int (iz x1)), (2, .int (iz x2))] [] m0 Q := by
  refine zV_ok (fun hm0 => ?_)
  replace h := h hm0
  refine zV_iload_n (pc := 0) dX9_row_0 rfl 1 rfl ?_
  refine zV_iconst (pc := 1) dX9_row_1 ?_
  refine zV_aloadr_n (pc := 2) dX9_row_2 rfl 0 rfl ?_
  refine zV_getI (pc := 3) (kz := 10) dX9_row_3 zfX9_66 rfl rfl rfl ?_
  refine zV_iconst (pc := 6) dX9_row_6 ?_
  refine zV_isub (pc := 7) dX9_row_7 ?_
  obtain ⟨o1, h⟩ := h
  refine zV_callSf (pc := 8) (mc := mX9_within) (As := [.int (iz x1), .int (iz 0), .int (iz ((m0.1 0 10) - 1))]) (rest := []) dX9_row_8 zcX9_74 ztX9_within rfl rfl (Nat.le_of_ble_eq_true rfl) (c_X9_within hx1 (inRd rfl) o1) (fun hr2 => ?_)
  refine zV_if_eq (pc := 11) (tgt := 23) dX9_row_11 (by decide) (inR_b2i _) (fun c4 => ?_) (fun c4 => ?_)
  · replace c4 := b2i_fp c4
    replace h := h.2 c4
    refine zV_bipush (pc := 23) dX9_row_23 (by decide) ?_
    exact zV_iret (pc := 25) rfl dX9_row_25 (inRd rfl) h
  · replace c4 := b2i_tp c4
    replace h := h.1 c4
    refine zV_iload_n (pc := 14) dX9_row_14 rfl 2 rfl ?_
    refine zV_iconst (pc := 15) dX9_row_15 ?_
    refine zV_iconst (pc := 16) dX9_row_16 ?_
    refine zV_callSf (pc := 17) (mc := mX9_within) (As := [.int (iz x2), .int (iz 0), .int (iz 1)]) (rest := []) dX9_row_17 zcX9_74 ztX9_within rfl rfl (Nat.le_of_ble_eq_true rfl) (c_X9_within hx2 (inRd rfl) (inRd rfl)) (fun hr5 => ?_)
    refine zV_if_ne (pc := 20) (tgt := 26) dX9_row_20 (by decide) (inR_b2i _) (fun c7 => ?_) (fun c7 => ?_)
    · replace c7 := b2i_tp c7
      replace h := h.1 c7
      refine zV_iload_n (pc := 26) dX9_row_26 rfl 2 rfl ?_
      refine zV_if_ne (pc := 27) (tgt := 39) dX9_row_27 (by decide) hx2 (fun c8 => ?_) (fun c8 => ?_)
      · skip
        replace h := h.2 c8
        refine zV_aloadr_n (pc := 39) dX9_row_39 rfl 0 rfl ?_
        refine zV_getR (pc := 40) (b := 97) dX9_row_40 zfX9_63 rfl rfl rfl ?_
        refine zV_iload_n (pc := 43) dX9_row_43 rfl 1 rfl ?_
        obtain ⟨o9, o10, h⟩ := h
        refine zV_iald (pc := 44) dX9_row_44 rfl o9 o10 (inR_ix o9 o10 rfl) ?_
        exact zV_iret (pc := 45) rfl dX9_row_45 (hm0 _ _) h
      · replace c8 := Classical.not_not.mp c8
        replace h := h.1 c8
        refine zV_aloadr_n (pc := 30) dX9_row_30 rfl 0 rfl ?_
        refine zV_getR (pc := 31) (b := 96) dX9_row_31 zfX9_59 rfl rfl rfl ?_
        refine zV_iload_n (pc := 34) dX9_row_34 rfl 1 rfl ?_
        obtain ⟨o11, o12, h⟩ := h
        refine zV_iald (pc := 35) dX9_row_35 rfl o11 o12 (inR_ix o11 o12 rfl) ?_
        refine zV_goto (pc := 36) (tgt := 45) dX9_row_36 (by decide) ?_
        exact zV_iret (pc := 45) rfl dX9_row_45 (hm0 _ _) h
    · replace c7 := b2i_fn c7
      replace h := h.2 c7
      refine zV_bipush (pc := 23) dX9_row_23 (by decide) ?_
      exact zV_iret (pc := 25) rfl dX9_row_25 (inRd rfl) h

set_option maxRecDepth 100000 in
set_option maxHeartbeats 4000000 in
theorem vc_X9_alterRow_0 {K : zCx} {d : Nat} (x1 : Int) (x2 : Int) (x3 : Int) (m0 : zM) {Q : Int → zM → Prop} (hx1 : inR x1) (hx2 : inR x2) (hx3 : inR x3) (h : zok m0 → inR ((m0.1 0 10) - 1) ∧ (((0 ≤ x1 ∧ x1 ≤ ((m0.1 0 10) - 1)) → ((0 ≤ x2 ∧ x2 ≤ 1) → (x2 = 0 → 0 ≤ x1 ∧ x1 < 4 ∧ (∀ v20 : Int, v20 = (m0.1 96 x1) → ((x2 = 0 → ∀ m25 : zM, m25 = sI m0 96 x1 x3 → zok m25 → (Q v20 m25)) ∧ (¬ (x2 = 0) → ∀ m23 : zM, m23 = sI m0 97 x1 x3 → zok m23 → (Q v20 m23))))) ∧ (¬ (x2 = 0) → 0 ≤ x1 ∧ x1 < 4 ∧ (∀ v11 : Int, v11 = (m0.1 97 x1) → ((x2 = 0 → ∀ m16 : zM, m16 = sI m0 96 x1 x3 → zok m16 → (Q v11 m16)) ∧ (¬ (x2 = 0) → ∀ m14 : zM, m14 = sI m0 97 x1 x3 → zok m14 → (Q v11 m14)))))) ∧ (¬ ((0 ≤ x2 ∧ x2 ≤ 1)) → Q (-9) m0)) ∧ (¬ ((0 ≤ x1 ∧ x1 ≤ ((m0.1 0 10) - 1))) → Q (-9) m0))) : zV K mX9_alterRow (d + 2) 0 [(0, rr K 0), (1, .int (iz x1)), (2, .int (iz x2)), (3, .int (iz x3))] [] m0 Q := by
  refine zV_ok (fun hm0 => ?_)
  replace h := h hm0
  refine zV_iload_n (pc := 0) dX9_alterRow_0 rfl 1 rfl ?_
  refine zV_iconst (pc := 1) dX9_alterRow_1 ?_
  refine zV_aloadr_n (pc := 2) dX9_alterRow_2 rfl 0 rfl ?_
  refine zV_getI (pc := 3) (kz := 10) dX9_alterRow_3 zfX9_66 rfl rfl rfl ?_
  refine zV_iconst (pc := 6) dX9_alterRow_6 ?_
  refine zV_isub (pc := 7) dX9_alterRow_7 ?_
  obtain ⟨o1, h⟩ := h
  refine zV_callSf (pc := 8) (mc := mX9_within) (As := [.int (iz x1), .int (iz 0), .int (iz ((m0.1 0 10) - 1))]) (rest := []) dX9_alterRow_8 zcX9_74 ztX9_within rfl rfl (Nat.le_of_ble_eq_true rfl) (c_X9_within hx1 (inRd rfl) o1) (fun hr2 => ?_)
  refine zV_if_eq (pc := 11) (tgt := 23) dX9_alterRow_11 (by decide) (inR_b2i _) (fun c4 => ?_) (fun c4 => ?_)
  · replace c4 := b2i_fp c4
    replace h := h.2 c4
    refine zV_bipush (pc := 23) dX9_alterRow_23 (by decide) ?_
    exact zV_iret (pc := 25) rfl dX9_alterRow_25 (inRd rfl) h
  · replace c4 := b2i_tp c4
    replace h := h.1 c4
    refine zV_iload_n (pc := 14) dX9_alterRow_14 rfl 2 rfl ?_
    refine zV_iconst (pc := 15) dX9_alterRow_15 ?_
    refine zV_iconst (pc := 16) dX9_alterRow_16 ?_
    refine zV_callSf (pc := 17) (mc := mX9_within) (As := [.int (iz x2), .int (iz 0), .int (iz 1)]) (rest := []) dX9_alterRow_17 zcX9_74 ztX9_within rfl rfl (Nat.le_of_ble_eq_true rfl) (c_X9_within hx2 (inRd rfl) (inRd rfl)) (fun hr5 => ?_)
    refine zV_if_ne (pc := 20) (tgt := 26) dX9_alterRow_20 (by decide) (inR_b2i _) (fun c7 => ?_) (fun c7 => ?_)
    · replace c7 := b2i_tp c7
      replace h := h.1 c7
      refine zV_iload_n (pc := 26) dX9_alterRow_26 rfl 2 rfl ?_
      refine zV_if_ne (pc := 27) (tgt := 39) dX9_alterRow_27 (by decide) hx2 (fun c8 => ?_) (fun c8 => ?_)
      · skip
        replace h := h.2 c8
        refine zV_aloadr_n (pc := 39) dX9_alterRow_39 rfl 0 rfl ?_
        refine zV_getR (pc := 40) (b := 97) dX9_alterRow_40 zfX9_63 rfl rfl rfl ?_
        refine zV_iload_n (pc := 43) dX9_alterRow_43 rfl 1 rfl ?_
        obtain ⟨o9, o10, h⟩ := h
        refine zV_iald (pc := 44) dX9_alterRow_44 rfl o9 o10 (inR_ix o9 o10 rfl) ?_
        refine zV_name (fun v11 e12 => ?_)
        replace h := h v11 e12
        have hrv11 : inR v11 := by rw [e12]; exact (hm0 _ _)
        refine zV_istore (pc := 45) (loc' := [(4, .int (iz v11)), (0, rr K 0), (1, .int (iz x1)), (2, .int (iz x2)), (3, .int (iz x3))]) dX9_alterRow_45 (by decide) rfl ?_
        refine zV_iload_n (pc := 47) dX9_alterRow_47 rfl 3 rfl ?_
        refine zV_if_ne (pc := 48) (tgt := 61) dX9_alterRow_48 (by decide) hx2 (fun c13 => ?_) (fun c13 => ?_)
        · skip
          replace h := h.2 c13
          refine zV_aloadr_n (pc := 61) dX9_alterRow_61 rfl 1 rfl ?_
          refine zV_getR (pc := 62) (b := 97) dX9_alterRow_62 zfX9_63 rfl rfl rfl ?_
          refine zV_iload_n (pc := 65) dX9_alterRow_65 rfl 2 rfl ?_
          refine zV_iload_n (pc := 66) dX9_alterRow_66 rfl 4 rfl ?_
          refine zV_iast (pc := 67) dX9_alterRow_67 rfl o9 o10 (inR_ix o9 o10 rfl) hx3 ?_
          refine zV_mem (fun m14 e15 => zV_ok (fun hm14 => ?_))
          replace h := h m14 e15 hm14
          refine zV_iload (pc := 68) dX9_alterRow_68 0 rfl ?_
          exact zV_iret (pc := 70) rfl dX9_alterRow_70 hrv11 h
        · replace c13 := Classical.not_not.mp c13
          replace h := h.1 c13
          refine zV_aloadr_n (pc := 51) dX9_alterRow_51 rfl 1 rfl ?_
          refine zV_getR (pc := 52) (b := 96) dX9_alterRow_52 zfX9_59 rfl rfl rfl ?_
          refine zV_iload_n (pc := 55) dX9_alterRow_55 rfl 2 rfl ?_
          refine zV_iload_n (pc := 56) dX9_alterRow_56 rfl 4 rfl ?_
          refine zV_iast (pc := 57) dX9_alterRow_57 rfl o9 o10 (inR_ix o9 o10 rfl) hx3 ?_
          refine zV_mem (fun m16 e17 => zV_ok (fun hm16 => ?_))
          replace h := h m16 e17 hm16
          refine zV_goto (pc := 58) (tgt := 68) dX9_alterRow_58 (by decide) ?_
          refine zV_iload (pc := 68) dX9_alterRow_68 0 rfl ?_
          exact zV_iret (pc := 70) rfl dX9_alterRow_70 hrv11 h
      · replace c8 := Classical.not_not.mp c8
        replace h := h.1 c8
        refine zV_aloadr_n (pc := 30) dX9_alterRow_30 rfl 0 rfl ?_
        refine zV_getR (pc := 31) (b := 96) dX9_alterRow_31 zfX9_59 rfl rfl rfl ?_
        refine zV_iload_n (pc := 34) dX9_alterRow_34 rfl 1 rfl ?_
        obtain ⟨o18, o19, h⟩ := h
        refine zV_iald (pc := 35) dX9_alterRow_35 rfl o18 o19 (inR_ix o18 o19 rfl) ?_
        refine zV_goto (pc := 36) (tgt := 45) dX9_alterRow_36 (by decide) ?_
        refine zV_name (fun v20 e21 => ?_)
        replace h := h v20 e21
        have hrv20 : inR v20 := by rw [e21]; exact (hm0 _ _)
        refine zV_istore (pc := 45) (loc' := [(4, .int (iz v20)), (0, rr K 0), (1, .int (iz x1)), (2, .int (iz x2)), (3, .int (iz x3))]) dX9_alterRow_45 (by decide) rfl ?_
        refine zV_iload_n (pc := 47) dX9_alterRow_47 rfl 3 rfl ?_
        refine zV_if_ne (pc := 48) (tgt := 61) dX9_alterRow_48 (by decide) hx2 (fun c22 => ?_) (fun c22 => ?_)
        · skip
          replace h := h.2 c22
          refine zV_aloadr_n (pc := 61) dX9_alterRow_61 rfl 1 rfl ?_
          refine zV_getR (pc := 62) (b := 97) dX9_alterRow_62 zfX9_63 rfl rfl rfl ?_
          refine zV_iload_n (pc := 65) dX9_alterRow_65 rfl 2 rfl ?_
          refine zV_iload_n (pc := 66) dX9_alterRow_66 rfl 4 rfl ?_
          refine zV_iast (pc := 67) dX9_alterRow_67 rfl o18 o19 (inR_ix o18 o19 rfl) hx3 ?_
          refine zV_mem (fun m23 e24 => zV_ok (fun hm23 => ?_))
          replace h := h m23 e24 hm23
          refine zV_iload (pc := 68) dX9_alterRow_68 0 rfl ?_
          exact zV_iret (pc := 70) rfl dX9_alterRow_70 hrv20 h
        · replace c22 := Classical.not_not.mp c22
          replace h := h.1 c22
          refine zV_aloadr_n (pc := 51) dX9_alterRow_51 rfl 1 rfl ?_
          refine zV_getR (pc := 52) (b := 96) dX9_alterRow_52 zfX9_59 rfl rfl rfl ?_
          refine zV_iload_n (pc := 55) dX9_alterRow_55 rfl 2 rfl ?_
          refine zV_iload_n (pc := 56) dX9_alterRow_56 rfl 4 rfl ?_
          refine zV_iast (pc := 57) dX9_alterRow_57 rfl o18 o19 (inR_ix o18 o19 rfl) hx3 ?_
          refine zV_mem (fun m25 e26 => zV_ok (fun hm25 => ?_))
          replace h := h m25 e26 hm25
          refine zV_goto (pc := 58) (tgt := 68) dX9_alterRow_58 (by decide) ?_
          refine zV_iload (pc := 68) dX9_alterRow_68 0 rfl ?_
          exact zV_iret (pc := 70) rfl dX9_alterRow_70 hrv20 h
    · replace c7 := b2i_fn c7
      replace h := h.2 c7
      refine zV_bipush (pc := 23) dX9_alterRow_23 (by decide) ?_
      exact zV_iret (pc := 25) rfl dX9_alterRow_25 (inRd rfl) h

set_option maxRecDepth 100000 in
set_option maxHeartbeats 4000000 in
theorem vc_X9_judge_0 {K : zCx} {d : Nat}  (m0 : zM) {Q : Int → zM → Prop}  (h : zok m0 → zCt K (d + 7) mX7_listOpen [rr K 64, rr K 1] m0 (fun r1 m2 => inR r1 → zok m2 → zV K mX9_judge (d + 8) 13 [(0, rr K 0), (1, .int (iz 0))] [] m2 Q)) : zV K mX9_judge (d + 8) 0 [(0, rr K 0)] [] m0 Q := by
  refine zV_ok (fun hm0 => ?_)
  replace h := h hm0
  refine zV_aloadr_n (pc := 0) dX9_judge_0 rfl 0 rfl ?_
  refine zV_getR (pc := 1) (b := 64) dX9_judge_1 zfX9_22 rfl rfl rfl ?_
  refine zV_aloadr_n (pc := 4) dX9_judge_4 rfl 0 rfl ?_
  refine zV_getR (pc := 5) (b := 1) dX9_judge_5 zfX9_10 rfl rfl rfl ?_
  refine zV_callV (pc := 8) (mc := mX7_listOpen) (As := [rr K 1]) (rest := []) dX9_judge_8 zcX9_266 ziX7_listOpen zsX7_listOpen rfl rfl rfl rfl (Nat.le_of_ble_eq_true rfl) h (fun r1 m2 hr1 h => zV_ok (fun hm2 => ?_))
  replace h := h hr1 hm2
  refine zV_iconst (pc := 11) dX9_judge_11 ?_
  refine zV_istore_n (pc := 12) (loc' := [(1, .int (iz 0)), (0, rr K 0)]) dX9_judge_12 rfl (by decide) rfl ?_
  exact zV_sub [1, 0] rfl h
set_option maxRecDepth 100000 in
set_option maxHeartbeats 4000000 in
theorem vc_X9_judge_13 {K : zCx} {d : Nat} (x1 : Int) (m0 : zM) {Q : Int → zM → Prop} (hx1 : inR x1) (h : zok m0 → ((m0.1 0 10) ≤ x1 → ((m0.1 64 3) ≤ (m0.1 0 10) → zCt K (d + 7) mX7_missingWith [rr K 64, rr K 1, rr K 97] m0 (fun r3 m4 => inR r3 → zok m4 → (r3 = 0 → Q 0 m4) ∧ (¬ (r3 = 0) → zCt K (d + 7) mJ6_numberOfTrailingZeros_0f7a4 [.int (iz r3)] m4 (fun r6 m7 => inR r6 → zok m7 → inR (20 + r6) ∧ (Q (20 + r6) m7))))) ∧ (¬ ((m0.1 64 3) ≤ (m0.1 0 10)) → Q 11 m0)) ∧ (¬ ((m0.1 0 10) ≤ x1) → 0 ≤ x1 ∧ x1 < 4 ∧ (zCt K (d + 7) mX7_isRight [rr K 64, rr K 1, .int (iz x1), .int (iz (m0.1 96 x1)), .int (iz (m0.1 97 x1))] m0 (fun r11 m12 => inR r11 → zok m12 → (r11 = 0 → inR (x1 + 1) ∧ (Q (x1 + 1) m12)) ∧ (¬ (r11 = 0) → zV K mX9_judge (d + 8) 13 [(0, rr K 0), (1, .int (iz (x1 + 1)))] [] m12 Q))))) : zV K mX9_judge (d + 8) 13 [(0, rr K 0), (1, .int (iz x1))] [] m0 Q := by
  refine zV_ok (fun hm0 => ?_)
  replace h := h hm0
  refine zV_iload_n (pc := 13) dX9_judge_13 rfl 1 rfl ?_
  refine zV_aloadr_n (pc := 14) dX9_judge_14 rfl 0 rfl ?_
  refine zV_getI (pc := 15) (kz := 10) dX9_judge_15 zfX9_66 rfl rfl rfl ?_
  refine zV_icmp_ge (pc := 18) (tgt := 58) dX9_judge_18 (by decide) hx1 (hm0 _ _) (fun c1 => ?_) (fun c1 => ?_)
  · skip
    replace h := h.1 c1
    refine zV_aloadr_n (pc := 58) dX9_judge_58 rfl 0 rfl ?_
    refine zV_getI (pc := 59) (kz := 10) dX9_judge_59 zfX9_66 rfl rfl rfl ?_
    refine zV_aloadr_n (pc := 62) dX9_judge_62 rfl 0 rfl ?_
    refine zV_getR (pc := 63) (b := 64) dX9_judge_63 zfX9_22 rfl rfl rfl ?_
    refine zV_getI (pc := 66) (kz := 3) dX9_judge_66 zfX9_261 rfl rfl rfl ?_
    refine zV_icmp_ge (pc := 69) (tgt := 75) dX9_judge_69 (by decide) (hm0 _ _) (hm0 _ _) (fun c2 => ?_) (fun c2 => ?_)
    · skip
      replace h := h.1 c2
      refine zV_aloadr_n (pc := 75) dX9_judge_75 rfl 0 rfl ?_
      refine zV_getR (pc := 76) (b := 64) dX9_judge_76 zfX9_22 rfl rfl rfl ?_
      refine zV_aloadr_n (pc := 79) dX9_judge_79 rfl 0 rfl ?_
      refine zV_getR (pc := 80) (b := 1) dX9_judge_80 zfX9_10 rfl rfl rfl ?_
      refine zV_aloadr_n (pc := 83) dX9_judge_83 rfl 0 rfl ?_
      refine zV_getR (pc := 84) (b := 97) dX9_judge_84 zfX9_63 rfl rfl rfl ?_
      refine zV_callV (pc := 87) (mc := mX7_missingWith) (As := [rr K 1, rr K 97]) (rest := []) dX9_judge_87 zcX9_274 ziX7_missingWith zsX7_missingWith rfl rfl rfl rfl (Nat.le_of_ble_eq_true rfl) h (fun r3 m4 hr3 h => zV_ok (fun hm4 => ?_))
      replace h := h hr3 hm4
      refine zV_istore_n (pc := 90) (loc' := [(1, .int (iz r3)), (0, rr K 0)]) dX9_judge_90 rfl (by decide) rfl ?_
      refine zV_iload_n (pc := 91) dX9_judge_91 rfl 0 rfl ?_
      refine zV_if_ne (pc := 92) (tgt := 99) dX9_judge_92 (by decide) hr3 (fun c5 => ?_) (fun c5 => ?_)
      · skip
        replace h := h.2 c5
        refine zV_bipush (pc := 99) dX9_judge_99 (by decide) ?_
        refine zV_iload_n (pc := 101) dX9_judge_101 rfl 0 rfl ?_
        refine zV_callS (pc := 102) (mc := mJ6_numberOfTrailingZeros_0f7a4) (As := [.int (iz r3)]) (rest := [.int (iz 20)]) dX9_judge_102 zcX9_278 ztJ6_numberOfTrailingZeros_0f7a4 rfl rfl (Nat.le_of_ble_eq_true rfl) h (fun r6 m7 hr6 h => zV_ok (fun hm7 => ?_))
        replace h := h hr6 hm7
        refine zV_iadd (pc := 105) dX9_judge_105 ?_
        obtain ⟨o8, h⟩ := h
        exact zV_iret (pc := 106) rfl dX9_judge_106 o8 h
      · replace c5 := Classical.not_not.mp c5
        replace h := h.1 c5
        refine zV_iconst (pc := 95) dX9_judge_95 ?_
        refine zV_goto (pc := 96) (tgt := 106) dX9_judge_96 (by decide) ?_
        exact zV_iret (pc := 106) rfl dX9_judge_106 (inRd rfl) h
    · skip
      replace h := h.2 c2
      refine zV_bipush (pc := 72) dX9_judge_72 (by decide) ?_
      exact zV_iret (pc := 74) rfl dX9_judge_74 (inRd rfl) h
  · skip
    replace h := h.2 c1
    refine zV_aloadr_n (pc := 21) dX9_judge_21 rfl 0 rfl ?_
    refine zV_getR (pc := 22) (b := 64) dX9_judge_22 zfX9_22 rfl rfl rfl ?_
    refine zV_aloadr_n (pc := 25) dX9_judge_25 rfl 0 rfl ?_
    refine zV_getR (pc := 26) (b := 1) dX9_judge_26 zfX9_10 rfl rfl rfl ?_
    refine zV_iload_n (pc := 29) dX9_judge_29 rfl 1 rfl ?_
    refine zV_aloadr_n (pc := 30) dX9_judge_30 rfl 0 rfl ?_
    refine zV_getR (pc := 31) (b := 96) dX9_judge_31 zfX9_59 rfl rfl rfl ?_
    refine zV_iload_n (pc := 34) dX9_judge_34 rfl 1 rfl ?_
    obtain ⟨o9, o10, h⟩ := h
    refine zV_iald (pc := 35) dX9_judge_35 rfl o9 o10 (inR_ix o9 o10 rfl) ?_
    refine zV_aloadr_n (pc := 36) dX9_judge_36 rfl 0 rfl ?_
    refine zV_getR (pc := 37) (b := 97) dX9_judge_37 zfX9_63 rfl rfl rfl ?_
    refine zV_iload_n (pc := 40) dX9_judge_40 rfl 1 rfl ?_
    refine zV_iald (pc := 41) dX9_judge_41 rfl o9 o10 (inR_ix o9 o10 rfl) ?_
    refine zV_callV (pc := 42) (mc := mX7_isRight) (As := [rr K 1, .int (iz x1), .int (iz (m0.1 96 x1)), .int (iz (m0.1 97 x1))]) (rest := []) dX9_judge_42 zcX9_270 ziX7_isRight zsX7_isRight rfl rfl rfl rfl (Nat.le_of_ble_eq_true rfl) h (fun r11 m12 hr11 h => zV_ok (fun hm12 => ?_))
    replace h := h hr11 hm12
    refine zV_if_ne (pc := 45) (tgt := 52) dX9_judge_45 (by decide) hr11 (fun c13 => ?_) (fun c13 => ?_)
    · skip
      replace h := h.2 c13
      refine zV_iinc (pc := 52) (loc' := [(1, .int (iz (x1 + 1))), (0, rr K 0)]) dX9_judge_52 1 rfl (by decide) rfl ?_
      refine zV_goto (pc := 55) (tgt := 13) dX9_judge_55 (by decide) ?_
      exact zV_sub [1, 0] rfl h
    · replace c13 := Classical.not_not.mp c13
      replace h := h.1 c13
      refine zV_iload_n (pc := 48) dX9_judge_48 rfl 1 rfl ?_
      refine zV_iconst (pc := 49) dX9_judge_49 ?_
      refine zV_iadd (pc := 50) dX9_judge_50 ?_
      obtain ⟨o14, h⟩ := h
      exact zV_iret (pc := 51) rfl dX9_judge_51 o14 h

set_option maxRecDepth 100000 in
set_option maxHeartbeats 4000000 in
theorem vc_X9_far_0 {K : zCx} {d : Nat} (x1 : Int) (x2 : Int) (m0 : zM) {Q : Int → zM → Prop} (hx1 : inR x1) (hx2 : inR x2) (h : zok m0 → (0 ≤ m0.1 1 6) ∧ (((0 ≤ x1 ∧ x1 < m0.1 1 6) → ∀ v5 : Int, v5 = (if x2 = 0 then (-1) else 1) → (zCt K (d + 7) mX7_reach [rr K 64, rr K 1, .int (iz x1), .int (iz v5)] m0 (fun r7 m8 => inR r7 → zok m8 → Q r7 m8))) ∧ (¬ ((0 ≤ x1 ∧ x1 < m0.1 1 6)) → Q (-1) m0))) : zV K mX9_far (d + 8) 0 [(0, rr K 0), (1, .int (iz x1)), (2, .int (iz x2))] [] m0 Q := by
  refine zV_ok (fun hm0 => ?_)
  replace h := h hm0
  refine zV_aloadr_n (pc := 0) dX9_far_0 rfl 0 rfl ?_
  refine zV_getR (pc := 1) (b := 1) dX9_far_1 zfX9_10 rfl rfl rfl ?_
  refine zV_iload_n (pc := 4) dX9_far_4 rfl 1 rfl ?_
  obtain ⟨o1, h⟩ := h
  refine zV_callVf (pc := 5) (mc := mX4_hasPart) (As := [.int (iz x1)]) (rest := []) dX9_far_5 zcX9_124 ziX4_hasPart zsX4_hasPart rfl rfl rfl rfl (Nat.le_of_ble_eq_true rfl) (c_X4_hasPart (Or.inl rfl) hx1 hm0 o1) (fun hr2 => ?_)
  refine zV_if_ne (pc := 8) (tgt := 13) dX9_far_8 (by decide) (inR_b2i _) (fun c4 => ?_) (fun c4 => ?_)
  · replace c4 := b2i_tp c4
    replace h := h.1 c4
    refine zV_aloadr_n (pc := 13) dX9_far_13 rfl 0 rfl ?_
    refine zV_getR (pc := 14) (b := 64) dX9_far_14 zfX9_22 rfl rfl rfl ?_
    refine zV_aloadr_n (pc := 17) dX9_far_17 rfl 0 rfl ?_
    refine zV_getR (pc := 18) (b := 1) dX9_far_18 zfX9_10 rfl rfl rfl ?_
    refine zV_iload_n (pc := 21) dX9_far_21 rfl 1 rfl ?_
    refine zV_iload_n (pc := 22) dX9_far_22 rfl 2 rfl ?_
    have key : ∀ v5 : Int, v5 = (if x2 = 0 then (-1) else 1) → zV K mX9_far (d + 8) 31 [] [.int (iz v5), .int (iz x1), rr K 1, rr K 64] m0 Q := by
      intro v5 e6
      replace h := h v5 e6
      have hrv5 : inR v5 := by rw [e6]; (repeat' split) <;> first | with_reducible exact (inRd rfl)
      refine zV_callV (pc := 31) (mc := mX7_reach) (As := [rr K 1, .int (iz x1), .int (iz v5)]) (rest := []) dX9_far_31 zcX9_283 ziX7_reach zsX7_reach rfl rfl rfl rfl (Nat.le_of_ble_eq_true rfl) h (fun r7 m8 hr7 h => zV_ok (fun hm8 => ?_))
      replace h := h hr7 hm8
      exact zV_iret (pc := 34) rfl dX9_far_34 hr7 h
    refine zV_if_eq (pc := 23) (tgt := 30) dX9_far_23 (by decide) hx2 (fun c9 => ?_) (fun c9 => ?_)
    · skip
      refine zV_iconst (pc := 30) dX9_far_30 ?_
      exact zV_sub [] rfl (key _ (if_pos c9).symm)
    · skip
      refine zV_iconst (pc := 26) dX9_far_26 ?_
      refine zV_goto (pc := 27) (tgt := 31) dX9_far_27 (by decide) ?_
      exact zV_sub [] rfl (key _ (if_neg c9).symm)
  · replace c4 := b2i_fn c4
    replace h := h.2 c4
    refine zV_iconst (pc := 11) dX9_far_11 ?_
    exact zV_iret (pc := 12) rfl dX9_far_12 (inRd rfl) h

set_option maxRecDepth 100000 in
set_option maxHeartbeats 4000000 in
theorem vc_X9_falls_0 {K : zCx} {d : Nat} (x1 : Int) (x2 : Int) (m0 : zM) {Q : Int → zM → Prop} (hx1 : inR x1) (hx2 : inR x2) (h : zok m0 → (0 ≤ m0.1 1 6) ∧ (((0 ≤ x1 ∧ x1 < m0.1 1 6) → ((1 ≤ x2 ∧ x2 ≤ 2) → zCt K (d + 7) mX7_fallen [rr K 64, rr K 1, .int (iz x1), .int (iz x2)] m0 (fun r8 m9 => inR r8 → zok m9 → Q r8 m9)) ∧ (¬ ((1 ≤ x2 ∧ x2 ≤ 2)) → Q (-1) m0)) ∧ (¬ ((0 ≤ x1 ∧ x1 < m0.1 1 6)) → Q (-1) m0))) : zV K mX9_falls (d + 8) 0 [(0, rr K 0), (1, .int (iz x1)), (2, .int (iz x2))] [] m0 Q := by
  refine zV_ok (fun hm0 => ?_)
  replace h := h hm0
  refine zV_aloadr_n (pc := 0) dX9_falls_0 rfl 0 rfl ?_
  refine zV_getR (pc := 1) (b := 1) dX9_falls_1 zfX9_10 rfl rfl rfl ?_
  refine zV_iload_n (pc := 4) dX9_falls_4 rfl 1 rfl ?_
  obtain ⟨o1, h⟩ := h
  refine zV_callVf (pc := 5) (mc := mX4_hasPart) (As := [.int (iz x1)]) (rest := []) dX9_falls_5 zcX9_124 ziX4_hasPart zsX4_hasPart rfl rfl rfl rfl (Nat.le_of_ble_eq_true rfl) (c_X4_hasPart (Or.inl rfl) hx1 hm0 o1) (fun hr2 => ?_)
  refine zV_if_eq (pc := 8) (tgt := 20) dX9_falls_8 (by decide) (inR_b2i _) (fun c4 => ?_) (fun c4 => ?_)
  · replace c4 := b2i_fp c4
    replace h := h.2 c4
    refine zV_iconst (pc := 20) dX9_falls_20 ?_
    exact zV_iret (pc := 21) rfl dX9_falls_21 (inRd rfl) h
  · replace c4 := b2i_tp c4
    replace h := h.1 c4
    refine zV_iload_n (pc := 11) dX9_falls_11 rfl 2 rfl ?_
    refine zV_iconst (pc := 12) dX9_falls_12 ?_
    refine zV_iconst (pc := 13) dX9_falls_13 ?_
    refine zV_callSf (pc := 14) (mc := mX9_within) (As := [.int (iz x2), .int (iz 1), .int (iz 2)]) (rest := []) dX9_falls_14 zcX9_74 ztX9_within rfl rfl (Nat.le_of_ble_eq_true rfl) (c_X9_within hx2 (inRd rfl) (inRd rfl)) (fun hr5 => ?_)
    refine zV_if_ne (pc := 17) (tgt := 22) dX9_falls_17 (by decide) (inR_b2i _) (fun c7 => ?_) (fun c7 => ?_)
    · replace c7 := b2i_tp c7
      replace h := h.1 c7
      refine zV_aloadr_n (pc := 22) dX9_falls_22 rfl 0 rfl ?_
      refine zV_getR (pc := 23) (b := 64) dX9_falls_23 zfX9_22 rfl rfl rfl ?_
      refine zV_aloadr_n (pc := 26) dX9_falls_26 rfl 0 rfl ?_
      refine zV_getR (pc := 27) (b := 1) dX9_falls_27 zfX9_10 rfl rfl rfl ?_
      refine zV_iload_n (pc := 30) dX9_falls_30 rfl 1 rfl ?_
      refine zV_iload_n (pc := 31) dX9_falls_31 rfl 2 rfl ?_
      refine zV_callV (pc := 32) (mc := mX7_fallen) (As := [rr K 1, .int (iz x1), .int (iz x2)]) (rest := []) dX9_falls_32 zcX9_287 ziX7_fallen zsX7_fallen rfl rfl rfl rfl (Nat.le_of_ble_eq_true rfl) h (fun r8 m9 hr8 h => zV_ok (fun hm9 => ?_))
      replace h := h hr8 hm9
      exact zV_iret (pc := 35) rfl dX9_falls_35 hr8 h
    · replace c7 := b2i_fn c7
      replace h := h.2 c7
      refine zV_iconst (pc := 20) dX9_falls_20 ?_
      exact zV_iret (pc := 21) rfl dX9_falls_21 (inRd rfl) h

set_option maxRecDepth 100000 in
set_option maxHeartbeats 4000000 in
theorem vc_X9_change_0 {K : zCx} {d : Nat} (x1 : Int) (x2 : Int) (m0 : zM) {Q : Int → zM → Prop} (hx1 : inR x1) (hx2 : inR x2) (h : zok m0 → (0 ≤ m0.1 1 6) ∧ (((0 ≤ x1 ∧ x1 < m0.1 1 6) → ((0 ≤ x2 ∧ x2 ≤ 2) → ((m0.1 1 8) < 6 → 0 ≤ (m0.1 1 8) ∧ (m0.1 1 8) < 6 ∧ (∀ m11 : zM, m11 = sI m0 4 (m0.1 1 8) x1 → zok m11 → (0 ≤ (m11.1 1 8) ∧ (m11.1 1 8) < 6 ∧ (∀ m15 : zM, m15 = sI m11 5 (m11.1 1 8) x2 → zok m15 → (inR ((m15.1 1 8) + 1) ∧ (∀ m18 : zM, m18 = sI m15 1 8 ((m15.1 1 8) + 1) → zok m18 → (inR ((m18.1 1 8) - 1) ∧ (Q ((m18.1 1 8) - 1) m18)))))))) ∧ (¬ ((m0.1 1 8) < 6) → Q (-2) m0)) ∧ (¬ ((0 ≤ x2 ∧ x2 ≤ 2)) → Q (-1) m0)) ∧ (¬ ((0 ≤ x1 ∧ x1 < m0.1 1 6)) → Q (-1) m0))) : zV K mX9_change (d + 3) 0 [(0, rr K 0), (1, .int (iz x1)), (2, .int (iz x2))] [] m0 Q := by
  refine zV_ok (fun hm0 => ?_)
  replace h := h hm0
  refine zV_aloadr_n (pc := 0) dX9_change_0 rfl 0 rfl ?_
  refine zV_getR (pc := 1) (b := 1) dX9_change_1 zfX9_10 rfl rfl rfl ?_
  refine zV_iload_n (pc := 4) dX9_change_4 rfl 1 rfl ?_
  obtain ⟨o1, h⟩ := h
  refine zV_callVf (pc := 5) (mc := mX4_hasPart) (As := [.int (iz x1)]) (rest := []) dX9_change_5 zcX9_124 ziX4_hasPart zsX4_hasPart rfl rfl rfl rfl (Nat.le_of_ble_eq_true rfl) (c_X4_hasPart (Or.inl rfl) hx1 hm0 o1) (fun hr2 => ?_)
  refine zV_if_eq (pc := 8) (tgt := 20) dX9_change_8 (by decide) (inR_b2i _) (fun c4 => ?_) (fun c4 => ?_)
  · replace c4 := b2i_fp c4
    replace h := h.2 c4
    refine zV_iconst (pc := 20) dX9_change_20 ?_
    exact zV_iret (pc := 21) rfl dX9_change_21 (inRd rfl) h
  · replace c4 := b2i_tp c4
    replace h := h.1 c4
    refine zV_iload_n (pc := 11) dX9_change_11 rfl 2 rfl ?_
    refine zV_iconst (pc := 12) dX9_change_12 ?_
    refine zV_iconst (pc := 13) dX9_change_13 ?_
    refine zV_callSf (pc := 14) (mc := mX9_within) (As := [.int (iz x2), .int (iz 0), .int (iz 2)]) (rest := []) dX9_change_14 zcX9_74 ztX9_within rfl rfl (Nat.le_of_ble_eq_true rfl) (c_X9_within hx2 (inRd rfl) (inRd rfl)) (fun hr5 => ?_)
    refine zV_if_ne (pc := 17) (tgt := 22) dX9_change_17 (by decide) (inR_b2i _) (fun c7 => ?_) (fun c7 => ?_)
    · replace c7 := b2i_tp c7
      replace h := h.1 c7
      refine zV_aloadr_n (pc := 22) dX9_change_22 rfl 0 rfl ?_
      refine zV_getR (pc := 23) (b := 1) dX9_change_23 zfX9_10 rfl rfl rfl ?_
      refine zV_getI (pc := 26) (kz := 8) dX9_change_26 zfX9_290 rfl rfl rfl ?_
      refine zV_bipush (pc := 29) dX9_change_29 (by decide) ?_
      refine zV_icmp_lt (pc := 31) (tgt := 37) dX9_change_31 (by decide) (hm0 _ _) (inRd rfl) (fun c8 => ?_) (fun c8 => ?_)
      · skip
        replace h := h.1 c8
        refine zV_aloadr_n (pc := 37) dX9_change_37 rfl 0 rfl ?_
        refine zV_getR (pc := 38) (b := 1) dX9_change_38 zfX9_10 rfl rfl rfl ?_
        refine zV_getR (pc := 41) (b := 4) dX9_change_41 zfX9_293 rfl rfl rfl ?_
        refine zV_aloadr_n (pc := 44) dX9_change_44 rfl 0 rfl ?_
        refine zV_getR (pc := 45) (b := 1) dX9_change_45 zfX9_10 rfl rfl rfl ?_
        refine zV_getI (pc := 48) (kz := 8) dX9_change_48 zfX9_290 rfl rfl rfl ?_
        refine zV_iload_n (pc := 51) dX9_change_51 rfl 1 rfl ?_
        obtain ⟨o9, o10, h⟩ := h
        refine zV_iast (pc := 52) dX9_change_52 rfl o9 o10 (inR_ix o9 o10 rfl) hx1 ?_
        refine zV_mem (fun m11 e12 => zV_ok (fun hm11 => ?_))
        replace h := h m11 e12 hm11
        refine zV_aloadr_n (pc := 53) dX9_change_53 rfl 0 rfl ?_
        refine zV_getR (pc := 54) (b := 1) dX9_change_54 zfX9_10 rfl rfl rfl ?_
        refine zV_getR (pc := 57) (b := 5) dX9_change_57 zfX9_296 rfl rfl rfl ?_
        refine zV_aloadr_n (pc := 60) dX9_change_60 rfl 0 rfl ?_
        refine zV_getR (pc := 61) (b := 1) dX9_change_61 zfX9_10 rfl rfl rfl ?_
        refine zV_getI (pc := 64) (kz := 8) dX9_change_64 zfX9_290 rfl rfl rfl ?_
        refine zV_iload_n (pc := 67) dX9_change_67 rfl 2 rfl ?_
        obtain ⟨o13, o14, h⟩ := h
        refine zV_iast (pc := 68) dX9_change_68 rfl o13 o14 (inR_ix o13 o14 rfl) hx2 ?_
        refine zV_mem (fun m15 e16 => zV_ok (fun hm15 => ?_))
        replace h := h m15 e16 hm15
        refine zV_aloadr_n (pc := 69) dX9_change_69 rfl 0 rfl ?_
        refine zV_getR (pc := 70) (b := 1) dX9_change_70 zfX9_10 rfl rfl rfl ?_
        refine zV_dup (pc := 73) dX9_change_73 rfl ?_
        refine zV_getI (pc := 74) (kz := 8) dX9_change_74 zfX9_290 rfl rfl rfl ?_
        refine zV_iconst (pc := 77) dX9_change_77 ?_
        refine zV_iadd (pc := 78) dX9_change_78 ?_
        obtain ⟨o17, h⟩ := h
        refine zV_putI (pc := 79) (kz := 8) dX9_change_79 zpX9_290 rfl rfl rfl o17 rfl rfl ?_
        refine zV_mem (fun m18 e19 => zV_ok (fun hm18 => ?_))
        replace h := h m18 e19 hm18
        refine zV_aloadr_n (pc := 82) dX9_change_82 rfl 0 rfl ?_
        refine zV_getR (pc := 83) (b := 1) dX9_change_83 zfX9_10 rfl rfl rfl ?_
        refine zV_getI (pc := 86) (kz := 8) dX9_change_86 zfX9_290 rfl rfl rfl ?_
        refine zV_iconst (pc := 89) dX9_change_89 ?_
        refine zV_isub (pc := 90) dX9_change_90 ?_
        obtain ⟨o20, h⟩ := h
        exact zV_iret (pc := 91) rfl dX9_change_91 o20 h
      · skip
        replace h := h.2 c8
        refine zV_bipush (pc := 34) dX9_change_34 (by decide) ?_
        exact zV_iret (pc := 36) rfl dX9_change_36 (inRd rfl) h
    · replace c7 := b2i_fn c7
      replace h := h.2 c7
      refine zV_iconst (pc := 20) dX9_change_20 ?_
      exact zV_iret (pc := 21) rfl dX9_change_21 (inRd rfl) h

set_option maxRecDepth 100000 in
set_option maxHeartbeats 4000000 in
theorem vc_X9_help_0 {K : zCx} {d : Nat}  (m0 : zM) {Q : Int → zM → Prop}  (h : zok m0 → zCt K (d + 8) mX7_fewestChanges [rr K 64, rr K 1] m0 (fun r1 m2 => inR r1 → zok m2 → Q r1 m2)) : zV K mX9_help (d + 9) 0 [(0, rr K 0)] [] m0 Q := by
  refine zV_ok (fun hm0 => ?_)
  replace h := h hm0
  refine zV_aloadr_n (pc := 0) dX9_help_0 rfl 0 rfl ?_
  refine zV_getR (pc := 1) (b := 64) dX9_help_1 zfX9_22 rfl rfl rfl ?_
  refine zV_aloadr_n (pc := 4) dX9_help_4 rfl 0 rfl ?_
  refine zV_getR (pc := 5) (b := 1) dX9_help_5 zfX9_10 rfl rfl rfl ?_
  refine zV_callV (pc := 8) (mc := mX7_fewestChanges) (As := [rr K 1]) (rest := []) dX9_help_8 zcX9_299 ziX7_fewestChanges zsX7_fewestChanges rfl rfl rfl rfl (Nat.le_of_ble_eq_true rfl) h (fun r1 m2 hr1 h => zV_ok (fun hm2 => ?_))
  replace h := h hr1 hm2
  exact zV_iret (pc := 11) rfl dX9_help_11 hr1 h

set_option maxRecDepth 100000 in
set_option maxHeartbeats 4000000 in
theorem vc_X9_measured_0 {K : zCx} {d : Nat} (x1 : Int) (x2 : Int) (m0 : zM) {Q : Int → zM → Prop} (hx1 : inR x1) (hx2 : inR x2) (h : zok m0 → ((2 ≤ x1 ∧ x1 ≤ 4) → (((-1) ≤ x2 ∧ x2 ≤ 20) → 0 ≤ x1 ∧ x1 < 5 ∧ (∀ v9 : Int, v9 = (m0.1 6 x1) → (∀ m11 : zM, m11 = sI m0 6 x1 x2 → zok m11 → (Q v9 m11)))) ∧ (¬ (((-1) ≤ x2 ∧ x2 ≤ 20)) → Q (-9) m0)) ∧ (¬ ((2 ≤ x1 ∧ x1 ≤ 4)) → Q (-9) m0)) : zV K mX9_measured (d + 2) 0 [(0, rr K 0), (1, .int (iz x1)), (2, .int (iz x2))] [] m0 Q := by
  refine zV_ok (fun hm0 => ?_)
  replace h := h hm0
  refine zV_iload_n (pc := 0) dX9_measured_0 rfl 1 rfl ?_
  refine zV_iconst (pc := 1) dX9_measured_1 ?_
  refine zV_iconst (pc := 2) dX9_measured_2 ?_
  refine zV_callSf (pc := 3) (mc := mX9_within) (As := [.int (iz x1), .int (iz 2), .int (iz 4)]) (rest := []) dX9_measured_3 zcX9_74 ztX9_within rfl rfl (Nat.le_of_ble_eq_true rfl) (c_X9_within hx1 (inRd rfl) (inRd rfl)) (fun hr1 => ?_)
  refine zV_if_eq (pc := 6) (tgt := 19) dX9_measured_6 (by decide) (inR_b2i _) (fun c3 => ?_) (fun c3 => ?_)
  · replace c3 := b2i_fp c3
    replace h := h.2 c3
    refine zV_bipush (pc := 19) dX9_measured_19 (by decide) ?_
    exact zV_iret (pc := 21) rfl dX9_measured_21 (inRd rfl) h
  · replace c3 := b2i_tp c3
    replace h := h.1 c3
    refine zV_iload_n (pc := 9) dX9_measured_9 rfl 2 rfl ?_
    refine zV_iconst (pc := 10) dX9_measured_10 ?_
    refine zV_bipush (pc := 11) dX9_measured_11 (by decide) ?_
    refine zV_callSf (pc := 13) (mc := mX9_within) (As := [.int (iz x2), .int (iz (-1)), .int (iz 20)]) (rest := []) dX9_measured_13 zcX9_74 ztX9_within rfl rfl (Nat.le_of_ble_eq_true rfl) (c_X9_within hx2 (inRd rfl) (inRd rfl)) (fun hr4 => ?_)
    refine zV_if_ne (pc := 16) (tgt := 22) dX9_measured_16 (by decide) (inR_b2i _) (fun c6 => ?_) (fun c6 => ?_)
    · replace c6 := b2i_tp c6
      replace h := h.1 c6
      refine zV_aloadr_n (pc := 22) dX9_measured_22 rfl 0 rfl ?_
      refine zV_getR (pc := 23) (b := 1) dX9_measured_23 zfX9_10 rfl rfl rfl ?_
      refine zV_getR (pc := 26) (b := 6) dX9_measured_26 zfX9_302 rfl rfl rfl ?_
      refine zV_iload_n (pc := 29) dX9_measured_29 rfl 1 rfl ?_
      obtain ⟨o7, o8, h⟩ := h
      refine zV_iald (pc := 30) dX9_measured_30 rfl o7 o8 (inR_ix o7 o8 rfl) ?_
      refine zV_name (fun v9 e10 => ?_)
      replace h := h v9 e10
      have hrv9 : inR v9 := by rw [e10]; exact (hm0 _ _)
      refine zV_istore_n (pc := 31) (loc' := [(3, .int (iz v9)), (0, rr K 0), (1, .int (iz x1)), (2, .int (iz x2))]) dX9_measured_31 rfl (by decide) rfl ?_
      refine zV_aloadr_n (pc := 32) dX9_measured_32 rfl 1 rfl ?_
      refine zV_getR (pc := 33) (b := 1) dX9_measured_33 zfX9_10 rfl rfl rfl ?_
      refine zV_getR (pc := 36) (b := 6) dX9_measured_36 zfX9_302 rfl rfl rfl ?_
      refine zV_iload_n (pc := 39) dX9_measured_39 rfl 2 rfl ?_
      refine zV_iload_n (pc := 40) dX9_measured_40 rfl 3 rfl ?_
      refine zV_iast (pc := 41) dX9_measured_41 rfl o7 o8 (inR_ix o7 o8 rfl) hx2 ?_
      refine zV_mem (fun m11 e12 => zV_ok (fun hm11 => ?_))
      replace h := h m11 e12 hm11
      refine zV_iload_n (pc := 42) dX9_measured_42 rfl 0 rfl ?_
      exact zV_iret (pc := 43) rfl dX9_measured_43 hrv9 h
    · replace c6 := b2i_fn c6
      replace h := h.2 c6
      refine zV_bipush (pc := 19) dX9_measured_19 (by decide) ?_
      exact zV_iret (pc := 21) rfl dX9_measured_21 (inRd rfl) h

set_option maxRecDepth 100000 in
set_option maxHeartbeats 4000000 in
theorem vc_X9_which_0 {K : zCx} {d : Nat}  (m0 : zM) {Q : Int → zM → Prop}  (h : zok m0 → zCt K (d + 7) mX7_suspects [rr K 64, rr K 1] m0 (fun r1 m2 => inR r1 → zok m2 → Q r1 m2)) : zV K mX9_which (d + 8) 0 [(0, rr K 0)] [] m0 Q := by
  refine zV_ok (fun hm0 => ?_)
  replace h := h hm0
  refine zV_aloadr_n (pc := 0) dX9_which_0 rfl 0 rfl ?_
  refine zV_getR (pc := 1) (b := 64) dX9_which_1 zfX9_22 rfl rfl rfl ?_
  refine zV_aloadr_n (pc := 4) dX9_which_4 rfl 0 rfl ?_
  refine zV_getR (pc := 5) (b := 1) dX9_which_5 zfX9_10 rfl rfl rfl ?_
  refine zV_callV (pc := 8) (mc := mX7_suspects) (As := [rr K 1]) (rest := []) dX9_which_8 zcX9_305 ziX7_suspects zsX7_suspects rfl rfl rfl rfl (Nat.le_of_ble_eq_true rfl) h (fun r1 m2 hr1 h => zV_ok (fun hm2 => ?_))
  replace h := h hr1 hm2
  exact zV_iret (pc := 11) rfl dX9_which_11 hr1 h

set_option maxRecDepth 100000 in
set_option maxHeartbeats 4000000 in
theorem vc_X9_sheet_0 {K : zCx} {d : Nat} (x1 : Int) (x2 : Int) (x3 : Int) (m0 : zM) {Q : Int → zM → Prop} (hx1 : inR x1) (hx2 : inR x2) (hx3 : inR x3) (h : zok m0 → ((0 ≤ x1 ∧ x1 ≤ 3) → (((-1) ≤ x2 ∧ x2 ≤ 3) → (x2 < 0 → (x2 < 0 → zCt K (d + 1) mX2_lay [rr K 87, .int (iz x1), .int (iz x2), .int (iz x3)] m0 (fun r9 m10 => inR r9 → zok m10 → Q 1 m10)) ∧ (¬ (x2 < 0) → (0 ≤ x3 → zCt K (d + 1) mX2_lay [rr K 87, .int (iz x1), .int (iz x2), .int (iz x3)] m0 (fun r12 m13 => inR r12 → zok m13 → Q 1 m13)) ∧ (¬ (0 ≤ x3) → Q (-14) m0))) ∧ (¬ (x2 < 0) → (x3 ≤ 40 → (x2 < 0 → zCt K (d + 1) mX2_lay [rr K 87, .int (iz x1), .int (iz x2), .int (iz x3)] m0 (fun r16 m17 => inR r16 → zok m17 → Q 1 m17)) ∧ (¬ (x2 < 0) → (0 ≤ x3 → zCt K (d + 1) mX2_lay [rr K 87, .int (iz x1), .int (iz x2), .int (iz x3)] m0 (fun r19 m20 => inR r19 → zok m20 → Q 1 m20)) ∧ (¬ (0 ≤ x3) → Q (-14) m0))) ∧ (¬ (x3 ≤ 40) → Q (-1) m0))) ∧ (¬ (((-1) ≤ x2 ∧ x2 ≤ 3)) → Q (-1) m0)) ∧ (¬ ((0 ≤ x1 ∧ x1 ≤ 3)) → Q (-1) m0)) : zV K mX9_sheet (d + 2) 0 [(0, rr K 0), (1, .int (iz x1)), (2, .int (iz x2)), (3, .int (iz x3))] [] m0 Q := by
  refine zV_ok (fun hm0 => ?_)
  replace h := h hm0
  refine zV_iload_n (pc := 0) dX9_sheet_0 rfl 1 rfl ?_
  refine zV_iconst (pc := 1) dX9_sheet_1 ?_
  refine zV_iconst (pc := 2) dX9_sheet_2 ?_
  refine zV_callSf (pc := 3) (mc := mX9_within) (As := [.int (iz x1), .int (iz 0), .int (iz 3)]) (rest := []) dX9_sheet_3 zcX9_74 ztX9_within rfl rfl (Nat.le_of_ble_eq_true rfl) (c_X9_within hx1 (inRd rfl) (inRd rfl)) (fun hr1 => ?_)
  refine zV_if_eq (pc := 6) (tgt := 18) dX9_sheet_6 (by decide) (inR_b2i _) (fun c3 => ?_) (fun c3 => ?_)
  · replace c3 := b2i_fp c3
    replace h := h.2 c3
    refine zV_iconst (pc := 18) dX9_sheet_18 ?_
    exact zV_iret (pc := 19) rfl dX9_sheet_19 (inRd rfl) h
  · replace c3 := b2i_tp c3
    replace h := h.1 c3
    refine zV_iload_n (pc := 9) dX9_sheet_9 rfl 2 rfl ?_
    refine zV_iconst (pc := 10) dX9_sheet_10 ?_
    refine zV_iconst (pc := 11) dX9_sheet_11 ?_
    refine zV_callSf (pc := 12) (mc := mX9_within) (As := [.int (iz x2), .int (iz (-1)), .int (iz 3)]) (rest := []) dX9_sheet_12 zcX9_74 ztX9_within rfl rfl (Nat.le_of_ble_eq_true rfl) (c_X9_within hx2 (inRd rfl) (inRd rfl)) (fun hr4 => ?_)
    refine zV_if_ne (pc := 15) (tgt := 20) dX9_sheet_15 (by decide) (inR_b2i _) (fun c6 => ?_) (fun c6 => ?_)
    · replace c6 := b2i_tp c6
      replace h := h.1 c6
      refine zV_iload_n (pc := 20) dX9_sheet_20 rfl 2 rfl ?_
      refine zV_if_lt (pc := 21) (tgt := 32) dX9_sheet_21 (by decide) hx2 (fun c7 => ?_) (fun c7 => ?_)
      · skip
        replace h := h.1 c7
        refine zV_iload_n (pc := 32) dX9_sheet_32 rfl 2 rfl ?_
        refine zV_if_lt (pc := 33) (tgt := 43) dX9_sheet_33 (by decide) hx2 (fun c8 => ?_) (fun c8 => ?_)
        · skip
          replace h := h.1 c8
          refine zV_aloadr_n (pc := 43) dX9_sheet_43 rfl 0 rfl ?_
          refine zV_getR (pc := 44) (b := 87) dX9_sheet_44 zfX9_48 rfl rfl rfl ?_
          refine zV_iload_n (pc := 47) dX9_sheet_47 rfl 1 rfl ?_
          refine zV_iload_n (pc := 48) dX9_sheet_48 rfl 2 rfl ?_
          refine zV_iload_n (pc := 49) dX9_sheet_49 rfl 3 rfl ?_
          refine zV_callV (pc := 50) (mc := mX2_lay) (As := [.int (iz x1), .int (iz x2), .int (iz x3)]) (rest := []) dX9_sheet_50 zcX9_308 ziX2_lay zsX2_lay rfl rfl rfl rfl (Nat.le_of_ble_eq_true rfl) h (fun r9 m10 hr9 h => zV_ok (fun hm10 => ?_))
          replace h := h hr9 hm10
          refine zV_iconst (pc := 53) dX9_sheet_53 ?_
          exact zV_iret (pc := 54) rfl dX9_sheet_54 (inRd rfl) h
        · skip
          replace h := h.2 c8
          refine zV_iload_n (pc := 36) dX9_sheet_36 rfl 3 rfl ?_
          refine zV_if_ge (pc := 37) (tgt := 43) dX9_sheet_37 (by decide) hx3 (fun c11 => ?_) (fun c11 => ?_)
          · skip
            replace h := h.1 c11
            refine zV_aloadr_n (pc := 43) dX9_sheet_43 rfl 0 rfl ?_
            refine zV_getR (pc := 44) (b := 87) dX9_sheet_44 zfX9_48 rfl rfl rfl ?_
            refine zV_iload_n (pc := 47) dX9_sheet_47 rfl 1 rfl ?_
            refine zV_iload_n (pc := 48) dX9_sheet_48 rfl 2 rfl ?_
            refine zV_iload_n (pc := 49) dX9_sheet_49 rfl 3 rfl ?_
            refine zV_callV (pc := 50) (mc := mX2_lay) (As := [.int (iz x1), .int (iz x2), .int (iz x3)]) (rest := []) dX9_sheet_50 zcX9_308 ziX2_lay zsX2_lay rfl rfl rfl rfl (Nat.le_of_ble_eq_true rfl) h (fun r12 m13 hr12 h => zV_ok (fun hm13 => ?_))
            replace h := h hr12 hm13
            refine zV_iconst (pc := 53) dX9_sheet_53 ?_
            exact zV_iret (pc := 54) rfl dX9_sheet_54 (inRd rfl) h
          · skip
            replace h := h.2 c11
            refine zV_bipush (pc := 40) dX9_sheet_40 (by decide) ?_
            exact zV_iret (pc := 42) rfl dX9_sheet_42 (inRd rfl) h
      · skip
        replace h := h.2 c7
        refine zV_iload_n (pc := 24) dX9_sheet_24 rfl 3 rfl ?_
        refine zV_bipush (pc := 25) dX9_sheet_25 (by decide) ?_
        refine zV_icmp_le (pc := 27) (tgt := 32) dX9_sheet_27 (by decide) hx3 (inRd rfl) (fun c14 => ?_) (fun c14 => ?_)
        · skip
          replace h := h.1 c14
          refine zV_iload_n (pc := 32) dX9_sheet_32 rfl 2 rfl ?_
          refine zV_if_lt (pc := 33) (tgt := 43) dX9_sheet_33 (by decide) hx2 (fun c15 => ?_) (fun c15 => ?_)
          · skip
            replace h := h.1 c15
            refine zV_aloadr_n (pc := 43) dX9_sheet_43 rfl 0 rfl ?_
            refine zV_getR (pc := 44) (b := 87) dX9_sheet_44 zfX9_48 rfl rfl rfl ?_
            refine zV_iload_n (pc := 47) dX9_sheet_47 rfl 1 rfl ?_
            refine zV_iload_n (pc := 48) dX9_sheet_48 rfl 2 rfl ?_
            refine zV_iload_n (pc := 49) dX9_sheet_49 rfl 3 rfl ?_
            refine zV_callV (pc := 50) (mc := mX2_lay) (As := [.int (iz x1), .int (iz x2), .int (iz x3)]) (rest := []) dX9_sheet_50 zcX9_308 ziX2_lay zsX2_lay rfl rfl rfl rfl (Nat.le_of_ble_eq_true rfl) h (fun r16 m17 hr16 h => zV_ok (fun hm17 => ?_))
            replace h := h hr16 hm17
            refine zV_iconst (pc := 53) dX9_sheet_53 ?_
            exact zV_iret (pc := 54) rfl dX9_sheet_54 (inRd rfl) h
          · skip
            replace h := h.2 c15
            refine zV_iload_n (pc := 36) dX9_sheet_36 rfl 3 rfl ?_
            refine zV_if_ge (pc := 37) (tgt := 43) dX9_sheet_37 (by decide) hx3 (fun c18 => ?_) (fun c18 => ?_)
            · skip
              replace h := h.1 c18
              refine zV_aloadr_n (pc := 43) dX9_sheet_43 rfl 0 rfl ?_
              refine zV_getR (pc := 44) (b := 87) dX9_sheet_44 zfX9_48 rfl rfl rfl ?_
              refine zV_iload_n (pc := 47) dX9_sheet_47 rfl 1 rfl ?_
              refine zV_iload_n (pc := 48) dX9_sheet_48 rfl 2 rfl ?_
              refine zV_iload_n (pc := 49) dX9_sheet_49 rfl 3 rfl ?_
              refine zV_callV (pc := 50) (mc := mX2_lay) (As := [.int (iz x1), .int (iz x2), .int (iz x3)]) (rest := []) dX9_sheet_50 zcX9_308 ziX2_lay zsX2_lay rfl rfl rfl rfl (Nat.le_of_ble_eq_true rfl) h (fun r19 m20 hr19 h => zV_ok (fun hm20 => ?_))
              replace h := h hr19 hm20
              refine zV_iconst (pc := 53) dX9_sheet_53 ?_
              exact zV_iret (pc := 54) rfl dX9_sheet_54 (inRd rfl) h
            · skip
              replace h := h.2 c18
              refine zV_bipush (pc := 40) dX9_sheet_40 (by decide) ?_
              exact zV_iret (pc := 42) rfl dX9_sheet_42 (inRd rfl) h
        · skip
          replace h := h.2 c14
          refine zV_iconst (pc := 30) dX9_sheet_30 ?_
          exact zV_iret (pc := 31) rfl dX9_sheet_31 (inRd rfl) h
    · replace c6 := b2i_fn c6
      replace h := h.2 c6
      refine zV_iconst (pc := 18) dX9_sheet_18 ?_
      exact zV_iret (pc := 19) rfl dX9_sheet_19 (inRd rfl) h

set_option maxRecDepth 100000 in
set_option maxHeartbeats 4000000 in
theorem vc_X9_put_0 {K : zCx} {d : Nat} (x1 : Int) (x2 : Int) (x3 : Int) (m0 : zM) {Q : Int → zM → Prop} (hx1 : inR x1) (hx2 : inR x2) (hx3 : inR x3) (h : zok m0 → ((0 ≤ x1 ∧ x1 ≤ 3) → 0 ≤ x1 ∧ x1 < 4 ∧ ((0 ≤ (m0.1 88 x1) → (0 ≤ x1) ∧ ((x1 < 4) ∧ ((0 ≤ m0.1 89 x1) ∧ (((0 ≤ x2 ∧ x2 < m0.1 89 x1) → zCt K (d + 2) mX2_write [rr K 87, .int (iz x1), .int (iz x2), .int (iz x3)] m0 (fun r13 m14 => inR r13 → zok m14 → Q 1 m14)) ∧ (¬ ((0 ≤ x2 ∧ x2 < m0.1 89 x1)) → Q (-12) m0))))) ∧ (¬ (0 ≤ (m0.1 88 x1)) → Q (-11) m0))) ∧ (¬ ((0 ≤ x1 ∧ x1 ≤ 3)) → Q (-1) m0)) : zV K mX9_put (d + 3) 0 [(0, rr K 0), (1, .int (iz x1)), (2, .int (iz x2)), (3, .int (iz x3))] [] m0 Q := by
  refine zV_ok (fun hm0 => ?_)
  replace h := h hm0
  refine zV_iload_n (pc := 0) dX9_put_0 rfl 1 rfl ?_
  refine zV_iconst (pc := 1) dX9_put_1 ?_
  refine zV_iconst (pc := 2) dX9_put_2 ?_
  refine zV_callSf (pc := 3) (mc := mX9_within) (As := [.int (iz x1), .int (iz 0), .int (iz 3)]) (rest := []) dX9_put_3 zcX9_74 ztX9_within rfl rfl (Nat.le_of_ble_eq_true rfl) (c_X9_within hx1 (inRd rfl) (inRd rfl)) (fun hr1 => ?_)
  refine zV_if_ne (pc := 6) (tgt := 11) dX9_put_6 (by decide) (inR_b2i _) (fun c3 => ?_) (fun c3 => ?_)
  · replace c3 := b2i_tp c3
    replace h := h.1 c3
    refine zV_aloadr_n (pc := 11) dX9_put_11 rfl 0 rfl ?_
    refine zV_getR (pc := 12) (b := 87) dX9_put_12 zfX9_48 rfl rfl rfl ?_
    refine zV_getR (pc := 15) (b := 88) dX9_put_15 zfX9_312 rfl rfl rfl ?_
    refine zV_iload_n (pc := 18) dX9_put_18 rfl 1 rfl ?_
    obtain ⟨o4, o5, h⟩ := h
    refine zV_iald (pc := 19) dX9_put_19 rfl o4 o5 (inR_ix o4 o5 rfl) ?_
    refine zV_if_ge (pc := 20) (tgt := 26) dX9_put_20 (by decide) (hm0 _ _) (fun c6 => ?_) (fun c6 => ?_)
    · skip
      replace h := h.1 c6
      refine zV_aloadr_n (pc := 26) dX9_put_26 rfl 0 rfl ?_
      refine zV_getR (pc := 27) (b := 87) dX9_put_27 zfX9_48 rfl rfl rfl ?_
      refine zV_iload_n (pc := 30) dX9_put_30 rfl 1 rfl ?_
      refine zV_iload_n (pc := 31) dX9_put_31 rfl 2 rfl ?_
      obtain ⟨o7, h⟩ := h
      obtain ⟨o8, h⟩ := h
      obtain ⟨o9, h⟩ := h
      refine zV_callVf (pc := 32) (mc := mX2_hasItem) (As := [.int (iz x1), .int (iz x2)]) (rest := []) dX9_put_32 zcX9_315 ziX2_hasItem zsX2_hasItem rfl rfl rfl rfl (Nat.le_of_ble_eq_true rfl) (c_X2_hasItem hx1 hx2 hm0 o7 o8 o9) (fun hr10 => ?_)
      refine zV_if_ne (pc := 35) (tgt := 41) dX9_put_35 (by decide) (inR_b2i _) (fun c12 => ?_) (fun c12 => ?_)
      · replace c12 := b2i_tp c12
        replace h := h.1 c12
        refine zV_aloadr_n (pc := 41) dX9_put_41 rfl 0 rfl ?_
        refine zV_getR (pc := 42) (b := 87) dX9_put_42 zfX9_48 rfl rfl rfl ?_
        refine zV_iload_n (pc := 45) dX9_put_45 rfl 1 rfl ?_
        refine zV_iload_n (pc := 46) dX9_put_46 rfl 2 rfl ?_
        refine zV_iload_n (pc := 47) dX9_put_47 rfl 3 rfl ?_
        refine zV_callV (pc := 48) (mc := mX2_write) (As := [.int (iz x1), .int (iz x2), .int (iz x3)]) (rest := []) dX9_put_48 zcX9_318 ziX2_write zsX2_write rfl rfl rfl rfl (Nat.le_of_ble_eq_true rfl) h (fun r13 m14 hr13 h => zV_ok (fun hm14 => ?_))
        replace h := h hr13 hm14
        refine zV_iconst (pc := 51) dX9_put_51 ?_
        exact zV_iret (pc := 52) rfl dX9_put_52 (inRd rfl) h
      · replace c12 := b2i_fn c12
        replace h := h.2 c12
        refine zV_bipush (pc := 38) dX9_put_38 (by decide) ?_
        exact zV_iret (pc := 40) rfl dX9_put_40 (inRd rfl) h
    · skip
      replace h := h.2 c6
      refine zV_bipush (pc := 23) dX9_put_23 (by decide) ?_
      exact zV_iret (pc := 25) rfl dX9_put_25 (inRd rfl) h
  · replace c3 := b2i_fn c3
    replace h := h.2 c3
    refine zV_iconst (pc := 9) dX9_put_9 ?_
    exact zV_iret (pc := 10) rfl dX9_put_10 (inRd rfl) h

set_option maxRecDepth 100000 in
set_option maxHeartbeats 4000000 in
theorem vc_X9_item_0 {K : zCx} {d : Nat} (x1 : Int) (x2 : Int) (x3 : Int) (m0 : zM) {Q : Int → zM → Prop} (hx1 : inR x1) (hx2 : inR x2) (hx3 : inR x3) (h : zok m0 → ((0 ≤ x1 ∧ x1 ≤ 3) → ((0 ≤ x2 ∧ x2 ≤ 3) → (0 ≤ x1) ∧ ((x1 < 4) ∧ (∀ v11 : Int, v11 = (if m0.1 88 x1 < 0 then -11 else if m0.1 88 x1 = x2 then 0 else -13) → ((v11 = 0 → (0 ≤ x1) ∧ ((x1 < 4) ∧ ((0 ≤ m0.1 89 x1) ∧ (((0 ≤ x3 ∧ x3 < m0.1 89 x1) → (0 ≤ x1 * 40 + x3) ∧ ((x1 * 40 + x3 < 160) ∧ (Q (m0.1 90 (x1 * 40 + x3)) m0))) ∧ (¬ ((0 ≤ x3 ∧ x3 < m0.1 89 x1)) → Q (-12) m0))))) ∧ (¬ (v11 = 0) → Q v11 m0))))) ∧ (¬ ((0 ≤ x2 ∧ x2 ≤ 3)) → Q (-1) m0)) ∧ (¬ ((0 ≤ x1 ∧ x1 ≤ 3)) → Q (-1) m0)) : zV K mX9_item (d + 3) 0 [(0, rr K 0), (1, .int (iz x1)), (2, .int (iz x2)), (3, .int (iz x3))] [] m0 Q := by
  refine zV_ok (fun hm0 => ?_)
  replace h := h hm0
  refine zV_iload_n (pc := 0) dX9_item_0 rfl 1 rfl ?_
  refine zV_iconst (pc := 1) dX9_item_1 ?_
  refine zV_iconst (pc := 2) dX9_item_2 ?_
  refine zV_callSf (pc := 3) (mc := mX9_within) (As := [.int (iz x1), .int (iz 0), .int (iz 3)]) (rest := []) dX9_item_3 zcX9_74 ztX9_within rfl rfl (Nat.le_of_ble_eq_true rfl) (c_X9_within hx1 (inRd rfl) (inRd rfl)) (fun hr1 => ?_)
  refine zV_if_eq (pc := 6) (tgt := 18) dX9_item_6 (by decide) (inR_b2i _) (fun c3 => ?_) (fun c3 => ?_)
  · replace c3 := b2i_fp c3
    replace h := h.2 c3
    refine zV_iconst (pc := 18) dX9_item_18 ?_
    exact zV_iret (pc := 19) rfl dX9_item_19 (inRd rfl) h
  · replace c3 := b2i_tp c3
    replace h := h.1 c3
    refine zV_iload_n (pc := 9) dX9_item_9 rfl 2 rfl ?_
    refine zV_iconst (pc := 10) dX9_item_10 ?_
    refine zV_iconst (pc := 11) dX9_item_11 ?_
    refine zV_callSf (pc := 12) (mc := mX9_within) (As := [.int (iz x2), .int (iz 0), .int (iz 3)]) (rest := []) dX9_item_12 zcX9_74 ztX9_within rfl rfl (Nat.le_of_ble_eq_true rfl) (c_X9_within hx2 (inRd rfl) (inRd rfl)) (fun hr4 => ?_)
    refine zV_if_ne (pc := 15) (tgt := 20) dX9_item_15 (by decide) (inR_b2i _) (fun c6 => ?_) (fun c6 => ?_)
    · replace c6 := b2i_tp c6
      replace h := h.1 c6
      refine zV_aloadr_n (pc := 20) dX9_item_20 rfl 0 rfl ?_
      refine zV_getR (pc := 21) (b := 87) dX9_item_21 zfX9_48 rfl rfl rfl ?_
      refine zV_iload_n (pc := 24) dX9_item_24 rfl 1 rfl ?_
      refine zV_iload_n (pc := 25) dX9_item_25 rfl 2 rfl ?_
      obtain ⟨o7, h⟩ := h
      obtain ⟨o8, h⟩ := h
      refine zV_callVf (pc := 26) (mc := mX2_refusal) (As := [.int (iz x1), .int (iz x2)]) (rest := []) dX9_item_26 zcX9_78 ziX2_refusal zsX2_refusal rfl rfl rfl rfl (Nat.le_of_ble_eq_true rfl) (c_X2_refusal hx1 hx2 hm0 o7 o8) (fun hr9 => ?_)
      refine zV_name (fun v11 e12 => ?_)
      replace h := h v11 e12
      have hrv11 : inR v11 := by rw [e12]; exact hr9
      refine zV_istore (pc := 29) (loc' := [(4, .int (iz v11)), (0, rr K 0), (1, .int (iz x1)), (2, .int (iz x2)), (3, .int (iz x3))]) dX9_item_29 (by decide) rfl ?_
      refine zV_iload (pc := 31) dX9_item_31 0 rfl ?_
      refine zV_if_eq (pc := 33) (tgt := 39) dX9_item_33 (by decide) hrv11 (fun c13 => ?_) (fun c13 => ?_)
      · skip
        replace h := h.1 c13
        refine zV_aloadr_n (pc := 39) dX9_item_39 rfl 1 rfl ?_
        refine zV_getR (pc := 40) (b := 87) dX9_item_40 zfX9_48 rfl rfl rfl ?_
        refine zV_iload_n (pc := 43) dX9_item_43 rfl 2 rfl ?_
        refine zV_iload_n (pc := 44) dX9_item_44 rfl 4 rfl ?_
        obtain ⟨o14, h⟩ := h
        obtain ⟨o15, h⟩ := h
        obtain ⟨o16, h⟩ := h
        refine zV_callVf (pc := 45) (mc := mX2_hasItem) (As := [.int (iz x1), .int (iz x3)]) (rest := []) dX9_item_45 zcX9_315 ziX2_hasItem zsX2_hasItem rfl rfl rfl rfl (Nat.le_of_ble_eq_true rfl) (c_X2_hasItem hx1 hx3 hm0 o14 o15 o16) (fun hr17 => ?_)
        refine zV_if_ne (pc := 48) (tgt := 54) dX9_item_48 (by decide) (inR_b2i _) (fun c19 => ?_) (fun c19 => ?_)
        · replace c19 := b2i_tp c19
          replace h := h.1 c19
          refine zV_aloadr_n (pc := 54) dX9_item_54 rfl 1 rfl ?_
          refine zV_getR (pc := 55) (b := 87) dX9_item_55 zfX9_48 rfl rfl rfl ?_
          refine zV_iload_n (pc := 58) dX9_item_58 rfl 2 rfl ?_
          refine zV_iload_n (pc := 59) dX9_item_59 rfl 4 rfl ?_
          obtain ⟨o20, h⟩ := h
          obtain ⟨o21, h⟩ := h
          refine zV_callVf (pc := 60) (mc := mX2_itemAt) (As := [.int (iz x1), .int (iz x3)]) (rest := []) dX9_item_60 zcX9_92 ziX2_itemAt zsX2_itemAt rfl rfl rfl rfl (Nat.le_of_ble_eq_true rfl) (c_X2_itemAt hx3 hx1 hm0 o20 o21) (fun hr22 => ?_)
          exact zV_iret (pc := 63) rfl dX9_item_63 hr22 h
        · replace c19 := b2i_fn c19
          replace h := h.2 c19
          refine zV_bipush (pc := 51) dX9_item_51 (by decide) ?_
          exact zV_iret (pc := 53) rfl dX9_item_53 (inRd rfl) h
      · skip
        replace h := h.2 c13
        refine zV_iload (pc := 36) dX9_item_36 0 rfl ?_
        exact zV_iret (pc := 38) rfl dX9_item_38 hrv11 h
    · replace c6 := b2i_fn c6
      replace h := h.2 c6
      refine zV_iconst (pc := 18) dX9_item_18 ?_
      exact zV_iret (pc := 19) rfl dX9_item_19 (inRd rfl) h

set_option maxRecDepth 100000 in
set_option maxHeartbeats 4000000 in
theorem vc_X9_sizes_0 {K : zCx} {d : Nat} (x1 : Int) (x2 : Int) (x3 : Int) (x4 : Int) (m0 : zM) {Q : Int → zM → Prop} (hx1 : inR x1) (hx2 : inR x2) (hx3 : inR x3) (hx4 : inR x4) (h : zok m0 → ((0 ≤ x2 ∧ x2 ≤ 3) → (0 ≤ m0.1 1 6) ∧ (((0 ≤ x1 ∧ x1 < m0.1 1 6) → ((0 ≤ x4 ∧ x4 ≤ 10) → (0 ≤ x2) ∧ ((x2 < 4) ∧ (∀ v15 : Int, v15 = (if m0.1 88 x2 < 0 then -11 else if m0.1 88 x2 = 1 then 0 else -13) → ((v15 = 0 → zV K mX9_sizes (d + 3) 58 [(0, rr K 0), (1, .int (iz x1)), (2, .int (iz x2)), (3, .int (iz x3)), (4, .int (iz x4)), (6, .int (iz 0)), (7, .int (iz 0))] [] m0 Q) ∧ (¬ (v15 = 0) → Q v15 m0))))) ∧ (¬ ((0 ≤ x4 ∧ x4 ≤ 10)) → Q (-1) m0)) ∧ (¬ ((0 ≤ x1 ∧ x1 < m0.1 1 6)) → Q (-1) m0))) ∧ (¬ ((0 ≤ x2 ∧ x2 ≤ 3)) → Q (-1) m0)) : zV K mX9_sizes (d + 3) 0 [(0, rr K 0), (1, .int (iz x1)), (2, .int (iz x2)), (3, .int (iz x3)), (4, .int (iz x4))] [] m0 Q := by
  refine zV_ok (fun hm0 => ?_)
  replace h := h hm0
  refine zV_iload_n (pc := 0) dX9_sizes_0 rfl 2 rfl ?_
  refine zV_iconst (pc := 1) dX9_sizes_1 ?_
  refine zV_iconst (pc := 2) dX9_sizes_2 ?_
  refine zV_callSf (pc := 3) (mc := mX9_within) (As := [.int (iz x2), .int (iz 0), .int (iz 3)]) (rest := []) dX9_sizes_3 zcX9_74 ztX9_within rfl rfl (Nat.le_of_ble_eq_true rfl) (c_X9_within hx2 (inRd rfl) (inRd rfl)) (fun hr1 => ?_)
  refine zV_if_eq (pc := 6) (tgt := 31) dX9_sizes_6 (by decide) (inR_b2i _) (fun c3 => ?_) (fun c3 => ?_)
  · replace c3 := b2i_fp c3
    replace h := h.2 c3
    refine zV_iconst (pc := 31) dX9_sizes_31 ?_
    exact zV_iret (pc := 32) rfl dX9_sizes_32 (inRd rfl) h
  · replace c3 := b2i_tp c3
    replace h := h.1 c3
    refine zV_aloadr_n (pc := 9) dX9_sizes_9 rfl 0 rfl ?_
    refine zV_getR (pc := 10) (b := 1) dX9_sizes_10 zfX9_10 rfl rfl rfl ?_
    refine zV_iload_n (pc := 13) dX9_sizes_13 rfl 1 rfl ?_
    obtain ⟨o4, h⟩ := h
    refine zV_callVf (pc := 14) (mc := mX4_hasPart) (As := [.int (iz x1)]) (rest := []) dX9_sizes_14 zcX9_124 ziX4_hasPart zsX4_hasPart rfl rfl rfl rfl (Nat.le_of_ble_eq_true rfl) (c_X4_hasPart (Or.inl rfl) hx1 hm0 o4) (fun hr5 => ?_)
    refine zV_if_eq (pc := 17) (tgt := 31) dX9_sizes_17 (by decide) (inR_b2i _) (fun c7 => ?_) (fun c7 => ?_)
    · replace c7 := b2i_fp c7
      replace h := h.2 c7
      refine zV_iconst (pc := 31) dX9_sizes_31 ?_
      exact zV_iret (pc := 32) rfl dX9_sizes_32 (inRd rfl) h
    · replace c7 := b2i_tp c7
      replace h := h.1 c7
      refine zV_iload (pc := 20) dX9_sizes_20 4 rfl ?_
      refine zV_iconst (pc := 22) dX9_sizes_22 ?_
      refine zV_bipush (pc := 23) dX9_sizes_23 (by decide) ?_
      refine zV_callSf (pc := 25) (mc := mX9_within) (As := [.int (iz x4), .int (iz 0), .int (iz 10)]) (rest := []) dX9_sizes_25 zcX9_74 ztX9_within rfl rfl (Nat.le_of_ble_eq_true rfl) (c_X9_within hx4 (inRd rfl) (inRd rfl)) (fun hr8 => ?_)
      refine zV_if_ne (pc := 28) (tgt := 33) dX9_sizes_28 (by decide) (inR_b2i _) (fun c10 => ?_) (fun c10 => ?_)
      · replace c10 := b2i_tp c10
        replace h := h.1 c10
        refine zV_aloadr_n (pc := 33) dX9_sizes_33 rfl 0 rfl ?_
        refine zV_getR (pc := 34) (b := 87) dX9_sizes_34 zfX9_48 rfl rfl rfl ?_
        refine zV_iload_n (pc := 37) dX9_sizes_37 rfl 2 rfl ?_
        refine zV_iconst (pc := 38) dX9_sizes_38 ?_
        obtain ⟨o11, h⟩ := h
        obtain ⟨o12, h⟩ := h
        refine zV_callVf (pc := 39) (mc := mX2_refusal) (As := [.int (iz x2), .int (iz 1)]) (rest := []) dX9_sizes_39 zcX9_78 ziX2_refusal zsX2_refusal rfl rfl rfl rfl (Nat.le_of_ble_eq_true rfl) (c_X2_refusal hx2 (inRd rfl) hm0 o11 o12) (fun hr13 => ?_)
        refine zV_name (fun v15 e16 => ?_)
        replace h := h v15 e16
        have hrv15 : inR v15 := by rw [e16]; exact hr13
        refine zV_istore (pc := 42) (loc' := [(5, .int (iz v15)), (0, rr K 0), (1, .int (iz x1)), (2, .int (iz x2)), (3, .int (iz x3)), (4, .int (iz x4))]) dX9_sizes_42 (by decide) rfl ?_
        refine zV_iload (pc := 44) dX9_sizes_44 0 rfl ?_
        refine zV_if_eq (pc := 46) (tgt := 52) dX9_sizes_46 (by decide) hrv15 (fun c17 => ?_) (fun c17 => ?_)
        · skip
          replace h := h.1 c17
          refine zV_iconst (pc := 52) dX9_sizes_52 ?_
          refine zV_istore (pc := 53) (loc' := [(6, .int (iz 0)), (5, .int (iz v15)), (0, rr K 0), (1, .int (iz x1)), (2, .int (iz x2)), (3, .int (iz x3)), (4, .int (iz x4))]) dX9_sizes_53 (by decide) rfl ?_
          refine zV_iconst (pc := 55) dX9_sizes_55 ?_
          refine zV_istore (pc := 56) (loc' := [(7, .int (iz 0)), (6, .int (iz 0)), (5, .int (iz v15)), (0, rr K 0), (1, .int (iz x1)), (2, .int (iz x2)), (3, .int (iz x3)), (4, .int (iz x4))]) dX9_sizes_56 (by decide) rfl ?_
          exact zV_sub [3, 4, 5, 6, 7, 1, 0] rfl h
        · skip
          replace h := h.2 c17
          refine zV_iload (pc := 49) dX9_sizes_49 0 rfl ?_
          exact zV_iret (pc := 51) rfl dX9_sizes_51 hrv15 h
      · replace c10 := b2i_fn c10
        replace h := h.2 c10
        refine zV_iconst (pc := 31) dX9_sizes_31 ?_
        exact zV_iret (pc := 32) rfl dX9_sizes_32 (inRd rfl) h
set_option maxRecDepth 100000 in
set_option maxHeartbeats 4000000 in
theorem vc_X9_sizes_58 {K : zCx} {d : Nat} (x1 : Int) (x2 : Int) (x3 : Int) (x4 : Int) (x6 : Int) (x7 : Int) (m0 : zM) {Q : Int → zM → Prop} (hx1 : inR x1) (hx2 : inR x2) (hx3 : inR x3) (hx4 : inR x4) (hx6 : inR x6) (hx7 : inR x7) (h : zok m0 → (x4 ≤ x7 → Q x6 m0) ∧ (¬ (x4 ≤ x7) → inR (x3 + x7) ∧ ((0 ≤ x2) ∧ ((x2 < 4) ∧ ((0 ≤ m0.1 89 x2) ∧ (((0 ≤ (x3 + x7) ∧ (x3 + x7) < m0.1 89 x2) → (0 ≤ x2 * 40 + (x3 + x7)) ∧ ((x2 * 40 + (x3 + x7) < 160) ∧ (∀ v13 : Int, v13 = (m0.1 90 (x2 * 40 + (x3 + x7))) → (((1 ≤ v13 ∧ v13 ≤ 9) → inR (x1 + x7) ∧ ((0 ≤ m0.1 1 6) ∧ (((0 ≤ (x1 + x7) ∧ (x1 + x7) < m0.1 1 6) → 0 ≤ (x1 + x7) ∧ (x1 + x7) < 10 ∧ (∀ m25 : zM, m25 = sI m0 (10 + (x1 + x7)) 3 v13 → zok m25 → (zV K mX9_sizes (d + 3) 58 [(0, rr K 0), (1, .int (iz x1)), (2, .int (iz x2)), (3, .int (iz x3)), (4, .int (iz x4)), (6, .int (iz (x6 + 1))), (7, .int (iz (x7 + 1)))] [] m25 Q))) ∧ (¬ ((0 ≤ (x1 + x7) ∧ (x1 + x7) < m0.1 1 6)) → zV K mX9_sizes (d + 3) 58 [(0, rr K 0), (1, .int (iz x1)), (2, .int (iz x2)), (3, .int (iz x3)), (4, .int (iz x4)), (6, .int (iz x6)), (7, .int (iz (x7 + 1)))] [] m0 Q)))) ∧ (¬ ((1 ≤ v13 ∧ v13 ≤ 9)) → zV K mX9_sizes (d + 3) 58 [(0, rr K 0), (1, .int (iz x1)), (2, .int (iz x2)), (3, .int (iz x3)), (4, .int (iz x4)), (6, .int (iz x6)), (7, .int (iz (x7 + 1)))] [] m0 Q))))) ∧ (¬ ((0 ≤ (x3 + x7) ∧ (x3 + x7) < m0.1 89 x2)) → Q (-12) m0))))))) : zV K mX9_sizes (d + 3) 58 [(0, rr K 0), (1, .int (iz x1)), (2, .int (iz x2)), (3, .int (iz x3)), (4, .int (iz x4)), (6, .int (iz x6)), (7, .int (iz x7))] [] m0 Q := by
  refine zV_ok (fun hm0 => ?_)
  replace h := h hm0
  refine zV_iload (pc := 58) dX9_sizes_58 6 rfl ?_
  refine zV_iload (pc := 60) dX9_sizes_60 4 rfl ?_
  refine zV_icmp_ge (pc := 62) (tgt := 148) dX9_sizes_62 (by decide) hx7 hx4 (fun c1 => ?_) (fun c1 => ?_)
  · skip
    replace h := h.1 c1
    refine zV_iload (pc := 148) dX9_sizes_148 5 rfl ?_
    exact zV_iret (pc := 150) rfl dX9_sizes_150 hx6 h
  · skip
    replace h := h.2 c1
    refine zV_aloadr_n (pc := 65) dX9_sizes_65 rfl 0 rfl ?_
    refine zV_getR (pc := 66) (b := 87) dX9_sizes_66 zfX9_48 rfl rfl rfl ?_
    refine zV_iload_n (pc := 69) dX9_sizes_69 rfl 2 rfl ?_
    refine zV_iload_n (pc := 70) dX9_sizes_70 rfl 3 rfl ?_
    refine zV_iload (pc := 71) dX9_sizes_71 6 rfl ?_
    refine zV_iadd (pc := 73) dX9_sizes_73 ?_
    obtain ⟨o2, h⟩ := h
    obtain ⟨o3, h⟩ := h
    obtain ⟨o4, h⟩ := h
    obtain ⟨o5, h⟩ := h
    refine zV_callVf (pc := 74) (mc := mX2_hasItem) (As := [.int (iz x2), .int (iz (x3 + x7))]) (rest := []) dX9_sizes_74 zcX9_315 ziX2_hasItem zsX2_hasItem rfl rfl rfl rfl (Nat.le_of_ble_eq_true rfl) (c_X2_hasItem hx2 o2 hm0 o3 o4 o5) (fun hr6 => ?_)
    refine zV_if_ne (pc := 77) (tgt := 83) dX9_sizes_77 (by decide) (inR_b2i _) (fun c8 => ?_) (fun c8 => ?_)
    · replace c8 := b2i_tp c8
      replace h := h.1 c8
      refine zV_aloadr_n (pc := 83) dX9_sizes_83 rfl 0 rfl ?_
      refine zV_getR (pc := 84) (b := 87) dX9_sizes_84 zfX9_48 rfl rfl rfl ?_
      refine zV_iload_n (pc := 87) dX9_sizes_87 rfl 2 rfl ?_
      refine zV_iload_n (pc := 88) dX9_sizes_88 rfl 3 rfl ?_
      refine zV_iload (pc := 89) dX9_sizes_89 6 rfl ?_
      refine zV_iadd (pc := 91) dX9_sizes_91 ?_
      obtain ⟨o9, h⟩ := h
      obtain ⟨o10, h⟩ := h
      refine zV_callVf (pc := 92) (mc := mX2_itemAt) (As := [.int (iz x2), .int (iz (x3 + x7))]) (rest := []) dX9_sizes_92 zcX9_92 ziX2_itemAt zsX2_itemAt rfl rfl rfl rfl (Nat.le_of_ble_eq_true rfl) (c_X2_itemAt o2 hx2 hm0 o9 o10) (fun hr11 => ?_)
      refine zV_name (fun v13 e14 => ?_)
      replace h := h v13 e14
      have hrv13 : inR v13 := by rw [e14]; exact hr11
      refine zV_istore (pc := 95) (loc' := [(8, .int (iz v13)), (0, rr K 0), (1, .int (iz x1)), (2, .int (iz x2)), (3, .int (iz x3)), (4, .int (iz x4)), (6, .int (iz x6)), (7, .int (iz x7))]) dX9_sizes_95 (by decide) rfl ?_
      refine zV_iload (pc := 97) dX9_sizes_97 0 rfl ?_
      refine zV_iconst (pc := 99) dX9_sizes_99 ?_
      refine zV_bipush (pc := 100) dX9_sizes_100 (by decide) ?_
      refine zV_callSf (pc := 102) (mc := mX9_within) (As := [.int (iz v13), .int (iz 1), .int (iz 9)]) (rest := []) dX9_sizes_102 zcX9_74 ztX9_within rfl rfl (Nat.le_of_ble_eq_true rfl) (c_X9_within hrv13 (inRd rfl) (inRd rfl)) (fun hr15 => ?_)
      refine zV_if_eq (pc := 105) (tgt := 142) dX9_sizes_105 (by decide) (inR_b2i _) (fun c17 => ?_) (fun c17 => ?_)
      · replace c17 := b2i_fp c17
        replace h := h.2 c17
        refine zV_iinc (pc := 142) (loc' := [(7, .int (iz (x7 + 1))), (8, .int (iz v13)), (0, rr K 0), (1, .int (iz x1)), (2, .int (iz x2)), (3, .int (iz x3)), (4, .int (iz x4)), (6, .int (iz x6))]) dX9_sizes_142 7 rfl (by decide) rfl ?_
        refine zV_goto (pc := 145) (tgt := 58) dX9_sizes_145 (by decide) ?_
        exact zV_sub [2, 3, 4, 5, 6, 7, 0] rfl h
      · replace c17 := b2i_tp c17
        replace h := h.1 c17
        refine zV_aloadr_n (pc := 108) dX9_sizes_108 rfl 1 rfl ?_
        refine zV_getR (pc := 109) (b := 1) dX9_sizes_109 zfX9_10 rfl rfl rfl ?_
        refine zV_iload_n (pc := 112) dX9_sizes_112 rfl 2 rfl ?_
        refine zV_iload (pc := 113) dX9_sizes_113 7 rfl ?_
        refine zV_iadd (pc := 115) dX9_sizes_115 ?_
        obtain ⟨o18, h⟩ := h
        obtain ⟨o19, h⟩ := h
        refine zV_callVf (pc := 116) (mc := mX4_hasPart) (As := [.int (iz (x1 + x7))]) (rest := []) dX9_sizes_116 zcX9_124 ziX4_hasPart zsX4_hasPart rfl rfl rfl rfl (Nat.le_of_ble_eq_true rfl) (c_X4_hasPart (Or.inl rfl) o18 hm0 o19) (fun hr20 => ?_)
        refine zV_if_eq (pc := 119) (tgt := 142) dX9_sizes_119 (by decide) (inR_b2i _) (fun c22 => ?_) (fun c22 => ?_)
        · replace c22 := b2i_fp c22
          replace h := h.2 c22
          refine zV_iinc (pc := 142) (loc' := [(7, .int (iz (x7 + 1))), (8, .int (iz v13)), (0, rr K 0), (1, .int (iz x1)), (2, .int (iz x2)), (3, .int (iz x3)), (4, .int (iz x4)), (6, .int (iz x6))]) dX9_sizes_142 7 rfl (by decide) rfl ?_
          refine zV_goto (pc := 145) (tgt := 58) dX9_sizes_145 (by decide) ?_
          exact zV_sub [2, 3, 4, 5, 6, 7, 0] rfl h
        · replace c22 := b2i_tp c22
          replace h := h.1 c22
          refine zV_aloadr_n (pc := 122) dX9_sizes_122 rfl 1 rfl ?_
          refine zV_getR (pc := 123) (b := 1) dX9_sizes_123 zfX9_10 rfl rfl rfl ?_
          refine zV_getR (pc := 126) (b := 2) dX9_sizes_126 zfX9_114 rfl rfl rfl ?_
          refine zV_iload_n (pc := 129) dX9_sizes_129 rfl 2 rfl ?_
          refine zV_iload (pc := 130) dX9_sizes_130 7 rfl ?_
          refine zV_iadd (pc := 132) dX9_sizes_132 ?_
          obtain ⟨o23, o24, h⟩ := h
          refine zV_aald (pc := 133) dX9_sizes_133 rfl o23 o24 (inR_ix o23 o24 rfl) (zPn1_p o23 o24) ?_
          refine zV_iload (pc := 134) dX9_sizes_134 0 rfl ?_
          refine zV_putI (pc := 136) (kz := 3) dX9_sizes_136 zpX9_131 (zPn1_s o23 o24) rfl rfl hrv13 rfl rfl ?_
          refine zV_mem (fun m25 e26 => zV_ok (fun hm25 => ?_))
          replace h := h m25 e26 hm25
          refine zV_iinc (pc := 139) (loc' := [(6, .int (iz (x6 + 1))), (8, .int (iz v13)), (0, rr K 0), (1, .int (iz x1)), (2, .int (iz x2)), (3, .int (iz x3)), (4, .int (iz x4)), (7, .int (iz x7))]) dX9_sizes_139 6 rfl (by decide) rfl ?_
          refine zV_iinc (pc := 142) (loc' := [(7, .int (iz (x7 + 1))), (6, .int (iz (x6 + 1))), (8, .int (iz v13)), (0, rr K 0), (1, .int (iz x1)), (2, .int (iz x2)), (3, .int (iz x3)), (4, .int (iz x4))]) dX9_sizes_142 7 rfl (by decide) rfl ?_
          refine zV_goto (pc := 145) (tgt := 58) dX9_sizes_145 (by decide) ?_
          exact zV_sub [3, 4, 5, 6, 7, 1, 0] rfl h
    · replace c8 := b2i_fn c8
      replace h := h.2 c8
      refine zV_bipush (pc := 80) dX9_sizes_80 (by decide) ?_
      exact zV_iret (pc := 82) rfl dX9_sizes_82 (inRd rfl) h

set_option maxRecDepth 100000 in
set_option maxHeartbeats 4000000 in
theorem vc_X9_shelf_0 {K : zCx} {d : Nat} (x1 : Int) (x2 : Int) (x3 : Int) (m0 : zM) {Q : Int → zM → Prop} (hx1 : inR x1) (hx2 : inR x2) (hx3 : inR x3) (h : zok m0 → ((0 ≤ x1 ∧ x1 ≤ 3) → ((0 ≤ x2 ∧ x2 ≤ 2) → (x2 = 0 → (0 ≤ m0.1 1 6) ∧ (((0 ≤ x3 ∧ x3 < m0.1 1 6) → (x2 = 1 → ((0 ≤ x3 ∧ x3 ≤ 3) → (x2 = 0 → zCt K (d + 2) mX2_holdPart [rr K 87, .int (iz x1), .int (iz x3)] m0 (fun r50 m51 => inR r50 → zok m51 → Q 1 m51)) ∧ (¬ (x2 = 0) → (x2 = 1 → zCt K (d + 2) mX2_holdRow [rr K 87, .int (iz x1), .int (iz x3)] m0 (fun r48 m49 => inR r48 → zok m49 → Q 1 m49)) ∧ (¬ (x2 = 1) → zCt K (d + 2) mX2_holdNothing [rr K 87, .int (iz x1)] m0 (fun r46 m47 => inR r46 → zok m47 → Q 1 m47)))) ∧ (¬ ((0 ≤ x3 ∧ x3 ≤ 3)) → Q (-1) m0)) ∧ (¬ (x2 = 1) → (x2 = 0 → zCt K (d + 2) mX2_holdPart [rr K 87, .int (iz x1), .int (iz x3)] m0 (fun r39 m40 => inR r39 → zok m40 → Q 1 m40)) ∧ (¬ (x2 = 0) → (x2 = 1 → zCt K (d + 2) mX2_holdRow [rr K 87, .int (iz x1), .int (iz x3)] m0 (fun r37 m38 => inR r37 → zok m38 → Q 1 m38)) ∧ (¬ (x2 = 1) → zCt K (d + 2) mX2_holdNothing [rr K 87, .int (iz x1)] m0 (fun r35 m36 => inR r35 → zok m36 → Q 1 m36))))) ∧ (¬ ((0 ≤ x3 ∧ x3 < m0.1 1 6)) → Q (-1) m0))) ∧ (¬ (x2 = 0) → (x2 = 1 → ((0 ≤ x3 ∧ x3 ≤ 3) → (x2 = 0 → zCt K (d + 2) mX2_holdPart [rr K 87, .int (iz x1), .int (iz x3)] m0 (fun r26 m27 => inR r26 → zok m27 → Q 1 m27)) ∧ (¬ (x2 = 0) → (x2 = 1 → zCt K (d + 2) mX2_holdRow [rr K 87, .int (iz x1), .int (iz x3)] m0 (fun r24 m25 => inR r24 → zok m25 → Q 1 m25)) ∧ (¬ (x2 = 1) → zCt K (d + 2) mX2_holdNothing [rr K 87, .int (iz x1)] m0 (fun r22 m23 => inR r22 → zok m23 → Q 1 m23)))) ∧ (¬ ((0 ≤ x3 ∧ x3 ≤ 3)) → Q (-1) m0)) ∧ (¬ (x2 = 1) → (x2 = 0 → zCt K (d + 2) mX2_holdPart [rr K 87, .int (iz x1), .int (iz x3)] m0 (fun r15 m16 => inR r15 → zok m16 → Q 1 m16)) ∧ (¬ (x2 = 0) → (x2 = 1 → zCt K (d + 2) mX2_holdRow [rr K 87, .int (iz x1), .int (iz x3)] m0 (fun r13 m14 => inR r13 → zok m14 → Q 1 m14)) ∧ (¬ (x2 = 1) → zCt K (d + 2) mX2_holdNothing [rr K 87, .int (iz x1)] m0 (fun r11 m12 => inR r11 → zok m12 → Q 1 m12)))))) ∧ (¬ ((0 ≤ x2 ∧ x2 ≤ 2)) → Q (-1) m0)) ∧ (¬ ((0 ≤ x1 ∧ x1 ≤ 3)) → Q (-1) m0)) : zV K mX9_shelf (d + 3) 0 [(0, rr K 0), (1, .int (iz x1)), (2, .int (iz x2)), (3, .int (iz x3))] [] m0 Q := by
  refine zV_ok (fun hm0 => ?_)
  replace h := h hm0
  refine zV_iload_n (pc := 0) dX9_shelf_0 rfl 1 rfl ?_
  refine zV_iconst (pc := 1) dX9_shelf_1 ?_
  refine zV_iconst (pc := 2) dX9_shelf_2 ?_
  refine zV_callSf (pc := 3) (mc := mX9_within) (As := [.int (iz x1), .int (iz 0), .int (iz 3)]) (rest := []) dX9_shelf_3 zcX9_74 ztX9_within rfl rfl (Nat.le_of_ble_eq_true rfl) (c_X9_within hx1 (inRd rfl) (inRd rfl)) (fun hr1 => ?_)
  refine zV_if_eq (pc := 6) (tgt := 18) dX9_shelf_6 (by decide) (inR_b2i _) (fun c3 => ?_) (fun c3 => ?_)
  · replace c3 := b2i_fp c3
    replace h := h.2 c3
    refine zV_iconst (pc := 18) dX9_shelf_18 ?_
    exact zV_iret (pc := 19) rfl dX9_shelf_19 (inRd rfl) h
  · replace c3 := b2i_tp c3
    replace h := h.1 c3
    refine zV_iload_n (pc := 9) dX9_shelf_9 rfl 2 rfl ?_
    refine zV_iconst (pc := 10) dX9_shelf_10 ?_
    refine zV_iconst (pc := 11) dX9_shelf_11 ?_
    refine zV_callSf (pc := 12) (mc := mX9_within) (As := [.int (iz x2), .int (iz 0), .int (iz 2)]) (rest := []) dX9_shelf_12 zcX9_74 ztX9_within rfl rfl (Nat.le_of_ble_eq_true rfl) (c_X9_within hx2 (inRd rfl) (inRd rfl)) (fun hr4 => ?_)
    refine zV_if_ne (pc := 15) (tgt := 20) dX9_shelf_15 (by decide) (inR_b2i _) (fun c6 => ?_) (fun c6 => ?_)
    · replace c6 := b2i_tp c6
      replace h := h.1 c6
      refine zV_iload_n (pc := 20) dX9_shelf_20 rfl 2 rfl ?_
      refine zV_if_ne (pc := 21) (tgt := 37) dX9_shelf_21 (by decide) hx2 (fun c7 => ?_) (fun c7 => ?_)
      · skip
        replace h := h.2 c7
        refine zV_iload_n (pc := 37) dX9_shelf_37 rfl 2 rfl ?_
        refine zV_iconst (pc := 38) dX9_shelf_38 ?_
        refine zV_icmp_ne (pc := 39) (tgt := 53) dX9_shelf_39 (by decide) hx2 (inRd rfl) (fun c8 => ?_) (fun c8 => ?_)
        · skip
          replace h := h.2 c8
          refine zV_iload_n (pc := 53) dX9_shelf_53 rfl 2 rfl ?_
          refine zV_if_ne (pc := 54) (tgt := 69) dX9_shelf_54 (by decide) hx2 (fun c9 => ?_) (fun c9 => ?_)
          · skip
            replace h := h.2 c9
            refine zV_iload_n (pc := 69) dX9_shelf_69 rfl 2 rfl ?_
            refine zV_iconst (pc := 70) dX9_shelf_70 ?_
            refine zV_icmp_ne (pc := 71) (tgt := 86) dX9_shelf_71 (by decide) hx2 (inRd rfl) (fun c10 => ?_) (fun c10 => ?_)
            · skip
              replace h := h.2 c10
              refine zV_aloadr_n (pc := 86) dX9_shelf_86 rfl 0 rfl ?_
              refine zV_getR (pc := 87) (b := 87) dX9_shelf_87 zfX9_48 rfl rfl rfl ?_
              refine zV_iload_n (pc := 90) dX9_shelf_90 rfl 1 rfl ?_
              refine zV_callV (pc := 91) (mc := mX2_holdNothing) (As := [.int (iz x1)]) (rest := []) dX9_shelf_91 zcX9_328 ziX2_holdNothing zsX2_holdNothing rfl rfl rfl rfl (Nat.le_of_ble_eq_true rfl) h (fun r11 m12 hr11 h => zV_ok (fun hm12 => ?_))
              replace h := h hr11 hm12
              refine zV_iconst (pc := 94) dX9_shelf_94 ?_
              exact zV_iret (pc := 95) rfl dX9_shelf_95 (inRd rfl) h
            · replace c10 := Classical.not_not.mp c10
              replace h := h.1 c10
              refine zV_aloadr_n (pc := 74) dX9_shelf_74 rfl 0 rfl ?_
              refine zV_getR (pc := 75) (b := 87) dX9_shelf_75 zfX9_48 rfl rfl rfl ?_
              refine zV_iload_n (pc := 78) dX9_shelf_78 rfl 1 rfl ?_
              refine zV_iload_n (pc := 79) dX9_shelf_79 rfl 3 rfl ?_
              refine zV_callV (pc := 80) (mc := mX2_holdRow) (As := [.int (iz x1), .int (iz x3)]) (rest := []) dX9_shelf_80 zcX9_325 ziX2_holdRow zsX2_holdRow rfl rfl rfl rfl (Nat.le_of_ble_eq_true rfl) h (fun r13 m14 hr13 h => zV_ok (fun hm14 => ?_))
              replace h := h hr13 hm14
              refine zV_goto (pc := 83) (tgt := 94) dX9_shelf_83 (by decide) ?_
              refine zV_iconst (pc := 94) dX9_shelf_94 ?_
              exact zV_iret (pc := 95) rfl dX9_shelf_95 (inRd rfl) h
          · replace c9 := Classical.not_not.mp c9
            replace h := h.1 c9
            refine zV_aloadr_n (pc := 57) dX9_shelf_57 rfl 0 rfl ?_
            refine zV_getR (pc := 58) (b := 87) dX9_shelf_58 zfX9_48 rfl rfl rfl ?_
            refine zV_iload_n (pc := 61) dX9_shelf_61 rfl 1 rfl ?_
            refine zV_iload_n (pc := 62) dX9_shelf_62 rfl 3 rfl ?_
            refine zV_callV (pc := 63) (mc := mX2_holdPart) (As := [.int (iz x1), .int (iz x3)]) (rest := []) dX9_shelf_63 zcX9_321 ziX2_holdPart zsX2_holdPart rfl rfl rfl rfl (Nat.le_of_ble_eq_true rfl) h (fun r15 m16 hr15 h => zV_ok (fun hm16 => ?_))
            replace h := h hr15 hm16
            refine zV_goto (pc := 66) (tgt := 94) dX9_shelf_66 (by decide) ?_
            refine zV_iconst (pc := 94) dX9_shelf_94 ?_
            exact zV_iret (pc := 95) rfl dX9_shelf_95 (inRd rfl) h
        · replace c8 := Classical.not_not.mp c8
          replace h := h.1 c8
          refine zV_iload_n (pc := 42) dX9_shelf_42 rfl 3 rfl ?_
          refine zV_iconst (pc := 43) dX9_shelf_43 ?_
          refine zV_iconst (pc := 44) dX9_shelf_44 ?_
          refine zV_callSf (pc := 45) (mc := mX9_within) (As := [.int (iz x3), .int (iz 0), .int (iz 3)]) (rest := []) dX9_shelf_45 zcX9_74 ztX9_within rfl rfl (Nat.le_of_ble_eq_true rfl) (c_X9_within hx3 (inRd rfl) (inRd rfl)) (fun hr17 => ?_)
          refine zV_if_ne (pc := 48) (tgt := 53) dX9_shelf_48 (by decide) (inR_b2i _) (fun c19 => ?_) (fun c19 => ?_)
          · replace c19 := b2i_tp c19
            replace h := h.1 c19
            refine zV_iload_n (pc := 53) dX9_shelf_53 rfl 2 rfl ?_
            refine zV_if_ne (pc := 54) (tgt := 69) dX9_shelf_54 (by decide) hx2 (fun c20 => ?_) (fun c20 => ?_)
            · skip
              replace h := h.2 c20
              refine zV_iload_n (pc := 69) dX9_shelf_69 rfl 2 rfl ?_
              refine zV_iconst (pc := 70) dX9_shelf_70 ?_
              refine zV_icmp_ne (pc := 71) (tgt := 86) dX9_shelf_71 (by decide) hx2 (inRd rfl) (fun c21 => ?_) (fun c21 => ?_)
              · skip
                replace h := h.2 c21
                refine zV_aloadr_n (pc := 86) dX9_shelf_86 rfl 0 rfl ?_
                refine zV_getR (pc := 87) (b := 87) dX9_shelf_87 zfX9_48 rfl rfl rfl ?_
                refine zV_iload_n (pc := 90) dX9_shelf_90 rfl 1 rfl ?_
                refine zV_callV (pc := 91) (mc := mX2_holdNothing) (As := [.int (iz x1)]) (rest := []) dX9_shelf_91 zcX9_328 ziX2_holdNothing zsX2_holdNothing rfl rfl rfl rfl (Nat.le_of_ble_eq_true rfl) h (fun r22 m23 hr22 h => zV_ok (fun hm23 => ?_))
                replace h := h hr22 hm23
                refine zV_iconst (pc := 94) dX9_shelf_94 ?_
                exact zV_iret (pc := 95) rfl dX9_shelf_95 (inRd rfl) h
              · replace c21 := Classical.not_not.mp c21
                replace h := h.1 c21
                refine zV_aloadr_n (pc := 74) dX9_shelf_74 rfl 0 rfl ?_
                refine zV_getR (pc := 75) (b := 87) dX9_shelf_75 zfX9_48 rfl rfl rfl ?_
                refine zV_iload_n (pc := 78) dX9_shelf_78 rfl 1 rfl ?_
                refine zV_iload_n (pc := 79) dX9_shelf_79 rfl 3 rfl ?_
                refine zV_callV (pc := 80) (mc := mX2_holdRow) (As := [.int (iz x1), .int (iz x3)]) (rest := []) dX9_shelf_80 zcX9_325 ziX2_holdRow zsX2_holdRow rfl rfl rfl rfl (Nat.le_of_ble_eq_true rfl) h (fun r24 m25 hr24 h => zV_ok (fun hm25 => ?_))
                replace h := h hr24 hm25
                refine zV_goto (pc := 83) (tgt := 94) dX9_shelf_83 (by decide) ?_
                refine zV_iconst (pc := 94) dX9_shelf_94 ?_
                exact zV_iret (pc := 95) rfl dX9_shelf_95 (inRd rfl) h
            · replace c20 := Classical.not_not.mp c20
              replace h := h.1 c20
              refine zV_aloadr_n (pc := 57) dX9_shelf_57 rfl 0 rfl ?_
              refine zV_getR (pc := 58) (b := 87) dX9_shelf_58 zfX9_48 rfl rfl rfl ?_
              refine zV_iload_n (pc := 61) dX9_shelf_61 rfl 1 rfl ?_
              refine zV_iload_n (pc := 62) dX9_shelf_62 rfl 3 rfl ?_
              refine zV_callV (pc := 63) (mc := mX2_holdPart) (As := [.int (iz x1), .int (iz x3)]) (rest := []) dX9_shelf_63 zcX9_321 ziX2_holdPart zsX2_holdPart rfl rfl rfl rfl (Nat.le_of_ble_eq_true rfl) h (fun r26 m27 hr26 h => zV_ok (fun hm27 => ?_))
              replace h := h hr26 hm27
              refine zV_goto (pc := 66) (tgt := 94) dX9_shelf_66 (by decide) ?_
              refine zV_iconst (pc := 94) dX9_shelf_94 ?_
              exact zV_iret (pc := 95) rfl dX9_shelf_95 (inRd rfl) h
          · replace c19 := b2i_fn c19
            replace h := h.2 c19
            refine zV_iconst (pc := 51) dX9_shelf_51 ?_
            exact zV_iret (pc := 52) rfl dX9_shelf_52 (inRd rfl) h
      · replace c7 := Classical.not_not.mp c7
        replace h := h.1 c7
        refine zV_aloadr_n (pc := 24) dX9_shelf_24 rfl 0 rfl ?_
        refine zV_getR (pc := 25) (b := 1) dX9_shelf_25 zfX9_10 rfl rfl rfl ?_
        refine zV_iload_n (pc := 28) dX9_shelf_28 rfl 3 rfl ?_
        obtain ⟨o28, h⟩ := h
        refine zV_callVf (pc := 29) (mc := mX4_hasPart) (As := [.int (iz x3)]) (rest := []) dX9_shelf_29 zcX9_124 ziX4_hasPart zsX4_hasPart rfl rfl rfl rfl (Nat.le_of_ble_eq_true rfl) (c_X4_hasPart (Or.inl rfl) hx3 hm0 o28) (fun hr29 => ?_)
        refine zV_if_ne (pc := 32) (tgt := 37) dX9_shelf_32 (by decide) (inR_b2i _) (fun c31 => ?_) (fun c31 => ?_)
        · replace c31 := b2i_tp c31
          replace h := h.1 c31
          refine zV_iload_n (pc := 37) dX9_shelf_37 rfl 2 rfl ?_
          refine zV_iconst (pc := 38) dX9_shelf_38 ?_
          refine zV_icmp_ne (pc := 39) (tgt := 53) dX9_shelf_39 (by decide) hx2 (inRd rfl) (fun c32 => ?_) (fun c32 => ?_)
          · skip
            replace h := h.2 c32
            refine zV_iload_n (pc := 53) dX9_shelf_53 rfl 2 rfl ?_
            refine zV_if_ne (pc := 54) (tgt := 69) dX9_shelf_54 (by decide) hx2 (fun c33 => ?_) (fun c33 => ?_)
            · skip
              replace h := h.2 c33
              refine zV_iload_n (pc := 69) dX9_shelf_69 rfl 2 rfl ?_
              refine zV_iconst (pc := 70) dX9_shelf_70 ?_
              refine zV_icmp_ne (pc := 71) (tgt := 86) dX9_shelf_71 (by decide) hx2 (inRd rfl) (fun c34 => ?_) (fun c34 => ?_)
              · skip
                replace h := h.2 c34
                refine zV_aloadr_n (pc := 86) dX9_shelf_86 rfl 0 rfl ?_
                refine zV_getR (pc := 87) (b := 87) dX9_shelf_87 zfX9_48 rfl rfl rfl ?_
                refine zV_iload_n (pc := 90) dX9_shelf_90 rfl 1 rfl ?_
                refine zV_callV (pc := 91) (mc := mX2_holdNothing) (As := [.int (iz x1)]) (rest := []) dX9_shelf_91 zcX9_328 ziX2_holdNothing zsX2_holdNothing rfl rfl rfl rfl (Nat.le_of_ble_eq_true rfl) h (fun r35 m36 hr35 h => zV_ok (fun hm36 => ?_))
                replace h := h hr35 hm36
                refine zV_iconst (pc := 94) dX9_shelf_94 ?_
                exact zV_iret (pc := 95) rfl dX9_shelf_95 (inRd rfl) h
              · replace c34 := Classical.not_not.mp c34
                replace h := h.1 c34
                refine zV_aloadr_n (pc := 74) dX9_shelf_74 rfl 0 rfl ?_
                refine zV_getR (pc := 75) (b := 87) dX9_shelf_75 zfX9_48 rfl rfl rfl ?_
                refine zV_iload_n (pc := 78) dX9_shelf_78 rfl 1 rfl ?_
                refine zV_iload_n (pc := 79) dX9_shelf_79 rfl 3 rfl ?_
                refine zV_callV (pc := 80) (mc := mX2_holdRow) (As := [.int (iz x1), .int (iz x3)]) (rest := []) dX9_shelf_80 zcX9_325 ziX2_holdRow zsX2_holdRow rfl rfl rfl rfl (Nat.le_of_ble_eq_true rfl) h (fun r37 m38 hr37 h => zV_ok (fun hm38 => ?_))
                replace h := h hr37 hm38
                refine zV_goto (pc := 83) (tgt := 94) dX9_shelf_83 (by decide) ?_
                refine zV_iconst (pc := 94) dX9_shelf_94 ?_
                exact zV_iret (pc := 95) rfl dX9_shelf_95 (inRd rfl) h
            · replace c33 := Classical.not_not.mp c33
              replace h := h.1 c33
              refine zV_aloadr_n (pc := 57) dX9_shelf_57 rfl 0 rfl ?_
              refine zV_getR (pc := 58) (b := 87) dX9_shelf_58 zfX9_48 rfl rfl rfl ?_
              refine zV_iload_n (pc := 61) dX9_shelf_61 rfl 1 rfl ?_
              refine zV_iload_n (pc := 62) dX9_shelf_62 rfl 3 rfl ?_
              refine zV_callV (pc := 63) (mc := mX2_holdPart) (As := [.int (iz x1), .int (iz x3)]) (rest := []) dX9_shelf_63 zcX9_321 ziX2_holdPart zsX2_holdPart rfl rfl rfl rfl (Nat.le_of_ble_eq_true rfl) h (fun r39 m40 hr39 h => zV_ok (fun hm40 => ?_))
              replace h := h hr39 hm40
              refine zV_goto (pc := 66) (tgt := 94) dX9_shelf_66 (by decide) ?_
              refine zV_iconst (pc := 94) dX9_shelf_94 ?_
              exact zV_iret (pc := 95) rfl dX9_shelf_95 (inRd rfl) h
          · replace c32 := Classical.not_not.mp c32
            replace h := h.1 c32
            refine zV_iload_n (pc := 42) dX9_shelf_42 rfl 3 rfl ?_
            refine zV_iconst (pc := 43) dX9_shelf_43 ?_
            refine zV_iconst (pc := 44) dX9_shelf_44 ?_
            refine zV_callSf (pc := 45) (mc := mX9_within) (As := [.int (iz x3), .int (iz 0), .int (iz 3)]) (rest := []) dX9_shelf_45 zcX9_74 ztX9_within rfl rfl (Nat.le_of_ble_eq_true rfl) (c_X9_within hx3 (inRd rfl) (inRd rfl)) (fun hr41 => ?_)
            refine zV_if_ne (pc := 48) (tgt := 53) dX9_shelf_48 (by decide) (inR_b2i _) (fun c43 => ?_) (fun c43 => ?_)
            · replace c43 := b2i_tp c43
              replace h := h.1 c43
              refine zV_iload_n (pc := 53) dX9_shelf_53 rfl 2 rfl ?_
              refine zV_if_ne (pc := 54) (tgt := 69) dX9_shelf_54 (by decide) hx2 (fun c44 => ?_) (fun c44 => ?_)
              · skip
                replace h := h.2 c44
                refine zV_iload_n (pc := 69) dX9_shelf_69 rfl 2 rfl ?_
                refine zV_iconst (pc := 70) dX9_shelf_70 ?_
                refine zV_icmp_ne (pc := 71) (tgt := 86) dX9_shelf_71 (by decide) hx2 (inRd rfl) (fun c45 => ?_) (fun c45 => ?_)
                · skip
                  replace h := h.2 c45
                  refine zV_aloadr_n (pc := 86) dX9_shelf_86 rfl 0 rfl ?_
                  refine zV_getR (pc := 87) (b := 87) dX9_shelf_87 zfX9_48 rfl rfl rfl ?_
                  refine zV_iload_n (pc := 90) dX9_shelf_90 rfl 1 rfl ?_
                  refine zV_callV (pc := 91) (mc := mX2_holdNothing) (As := [.int (iz x1)]) (rest := []) dX9_shelf_91 zcX9_328 ziX2_holdNothing zsX2_holdNothing rfl rfl rfl rfl (Nat.le_of_ble_eq_true rfl) h (fun r46 m47 hr46 h => zV_ok (fun hm47 => ?_))
                  replace h := h hr46 hm47
                  refine zV_iconst (pc := 94) dX9_shelf_94 ?_
                  exact zV_iret (pc := 95) rfl dX9_shelf_95 (inRd rfl) h
                · replace c45 := Classical.not_not.mp c45
                  replace h := h.1 c45
                  refine zV_aloadr_n (pc := 74) dX9_shelf_74 rfl 0 rfl ?_
                  refine zV_getR (pc := 75) (b := 87) dX9_shelf_75 zfX9_48 rfl rfl rfl ?_
                  refine zV_iload_n (pc := 78) dX9_shelf_78 rfl 1 rfl ?_
                  refine zV_iload_n (pc := 79) dX9_shelf_79 rfl 3 rfl ?_
                  refine zV_callV (pc := 80) (mc := mX2_holdRow) (As := [.int (iz x1), .int (iz x3)]) (rest := []) dX9_shelf_80 zcX9_325 ziX2_holdRow zsX2_holdRow rfl rfl rfl rfl (Nat.le_of_ble_eq_true rfl) h (fun r48 m49 hr48 h => zV_ok (fun hm49 => ?_))
                  replace h := h hr48 hm49
                  refine zV_goto (pc := 83) (tgt := 94) dX9_shelf_83 (by decide) ?_
                  refine zV_iconst (pc := 94) dX9_shelf_94 ?_
                  exact zV_iret (pc := 95) rfl dX9_shelf_95 (inRd rfl) h
              · replace c44 := Classical.not_not.mp c44
                replace h := h.1 c44
                refine zV_aloadr_n (pc := 57) dX9_shelf_57 rfl 0 rfl ?_
                refine zV_getR (pc := 58) (b := 87) dX9_shelf_58 zfX9_48 rfl rfl rfl ?_
                refine zV_iload_n (pc := 61) dX9_shelf_61 rfl 1 rfl ?_
                refine zV_iload_n (pc := 62) dX9_shelf_62 rfl 3 rfl ?_
                refine zV_callV (pc := 63) (mc := mX2_holdPart) (As := [.int (iz x1), .int (iz x3)]) (rest := []) dX9_shelf_63 zcX9_321 ziX2_holdPart zsX2_holdPart rfl rfl rfl rfl (Nat.le_of_ble_eq_true rfl) h (fun r50 m51 hr50 h => zV_ok (fun hm51 => ?_))
                replace h := h hr50 hm51
                refine zV_goto (pc := 66) (tgt := 94) dX9_shelf_66 (by decide) ?_
                refine zV_iconst (pc := 94) dX9_shelf_94 ?_
                exact zV_iret (pc := 95) rfl dX9_shelf_95 (inRd rfl) h
            · replace c43 := b2i_fn c43
              replace h := h.2 c43
              refine zV_iconst (pc := 51) dX9_shelf_51 ?_
              exact zV_iret (pc := 52) rfl dX9_shelf_52 (inRd rfl) h
        · replace c31 := b2i_fn c31
          replace h := h.2 c31
          refine zV_iconst (pc := 35) dX9_shelf_35 ?_
          exact zV_iret (pc := 36) rfl dX9_shelf_36 (inRd rfl) h
    · replace c6 := b2i_fn c6
      replace h := h.2 c6
      refine zV_iconst (pc := 18) dX9_shelf_18 ?_
      exact zV_iret (pc := 19) rfl dX9_shelf_19 (inRd rfl) h

set_option maxRecDepth 100000 in
set_option maxHeartbeats 4000000 in
theorem vc_X9_taken_0 {K : zCx} {d : Nat} (x1 : Int) (x2 : Int) (m0 : zM) {Q : Int → zM → Prop} (hx1 : inR x1) (hx2 : inR x2) (h : zok m0 → ((0 ≤ x1 ∧ x1 ≤ 3) → ((0 ≤ x2 ∧ x2 ≤ 6) → (0 ≤ x1) ∧ ((x1 < 4) ∧ (((0 ≤ m0.1 92 x1) → 0 ≤ x1 ∧ x1 < 4 ∧ (inR (10 + (m0.1 92 x1)) ∧ ((x2 = (10 + (m0.1 92 x1)) → Q (m0.1 93 x1) m0) ∧ (¬ (x2 = (10 + (m0.1 92 x1))) → Q (-13) m0)))) ∧ (¬ ((0 ≤ m0.1 92 x1)) → 0 ≤ x1 ∧ x1 < 4 ∧ (∀ v14 : Int, v14 = (m0.1 91 x1) → ((0 ≤ m0.1 1 6) ∧ (((0 ≤ v14 ∧ v14 < m0.1 1 6) → (6 < x2 → Q (-13) m0) ∧ (¬ (6 < x2) → 0 ≤ v14 ∧ v14 < 10 ∧ (zCt K (d + 2) mX0_isUnder [rr K 94, .int (iz (if m0.1 (10 + v14) 4 = 0 then m0.1 (10 + v14) 0 else 6)), .int (iz x2)] m0 (fun r25 m26 => inR r25 → zok m26 → (r25 = 0 → Q (-13) m26) ∧ (¬ (r25 = 0) → Q v14 m26))))) ∧ (¬ ((0 ≤ v14 ∧ v14 < m0.1 1 6)) → Q (-11) m0)))))))) ∧ (¬ ((0 ≤ x2 ∧ x2 ≤ 6)) → ((10 ≤ x2 ∧ x2 ≤ 13) → (0 ≤ x1) ∧ ((x1 < 4) ∧ (((0 ≤ m0.1 92 x1) → 0 ≤ x1 ∧ x1 < 4 ∧ (inR (10 + (m0.1 92 x1)) ∧ ((x2 = (10 + (m0.1 92 x1)) → Q (m0.1 93 x1) m0) ∧ (¬ (x2 = (10 + (m0.1 92 x1))) → Q (-13) m0)))) ∧ (¬ ((0 ≤ m0.1 92 x1)) → 0 ≤ x1 ∧ x1 < 4 ∧ (∀ v42 : Int, v42 = (m0.1 91 x1) → ((0 ≤ m0.1 1 6) ∧ (((0 ≤ v42 ∧ v42 < m0.1 1 6) → (6 < x2 → Q (-13) m0) ∧ (¬ (6 < x2) → 0 ≤ v42 ∧ v42 < 10 ∧ (zCt K (d + 2) mX0_isUnder [rr K 94, .int (iz (if m0.1 (10 + v42) 4 = 0 then m0.1 (10 + v42) 0 else 6)), .int (iz x2)] m0 (fun r53 m54 => inR r53 → zok m54 → (r53 = 0 → Q (-13) m54) ∧ (¬ (r53 = 0) → Q v42 m54))))) ∧ (¬ ((0 ≤ v42 ∧ v42 < m0.1 1 6)) → Q (-11) m0)))))))) ∧ (¬ ((10 ≤ x2 ∧ x2 ≤ 13)) → Q (-1) m0))) ∧ (¬ ((0 ≤ x1 ∧ x1 ≤ 3)) → Q (-1) m0)) : zV K mX9_taken (d + 3) 0 [(0, rr K 0), (1, .int (iz x1)), (2, .int (iz x2))] [] m0 Q := by
  refine zV_ok (fun hm0 => ?_)
  replace h := h hm0
  refine zV_iload_n (pc := 0) dX9_taken_0 rfl 1 rfl ?_
  refine zV_iconst (pc := 1) dX9_taken_1 ?_
  refine zV_iconst (pc := 2) dX9_taken_2 ?_
  refine zV_callSf (pc := 3) (mc := mX9_within) (As := [.int (iz x1), .int (iz 0), .int (iz 3)]) (rest := []) dX9_taken_3 zcX9_74 ztX9_within rfl rfl (Nat.le_of_ble_eq_true rfl) (c_X9_within hx1 (inRd rfl) (inRd rfl)) (fun hr1 => ?_)
  refine zV_if_eq (pc := 6) (tgt := 30) dX9_taken_6 (by decide) (inR_b2i _) (fun c3 => ?_) (fun c3 => ?_)
  · replace c3 := b2i_fp c3
    replace h := h.2 c3
    refine zV_iconst (pc := 30) dX9_taken_30 ?_
    exact zV_iret (pc := 31) rfl dX9_taken_31 (inRd rfl) h
  · replace c3 := b2i_tp c3
    replace h := h.1 c3
    refine zV_iload_n (pc := 9) dX9_taken_9 rfl 2 rfl ?_
    refine zV_iconst (pc := 10) dX9_taken_10 ?_
    refine zV_bipush (pc := 11) dX9_taken_11 (by decide) ?_
    refine zV_callSf (pc := 13) (mc := mX9_within) (As := [.int (iz x2), .int (iz 0), .int (iz 6)]) (rest := []) dX9_taken_13 zcX9_74 ztX9_within rfl rfl (Nat.le_of_ble_eq_true rfl) (c_X9_within hx2 (inRd rfl) (inRd rfl)) (fun hr4 => ?_)
    refine zV_if_ne (pc := 16) (tgt := 32) dX9_taken_16 (by decide) (inR_b2i _) (fun c6 => ?_) (fun c6 => ?_)
    · replace c6 := b2i_tp c6
      replace h := h.1 c6
      refine zV_aloadr_n (pc := 32) dX9_taken_32 rfl 0 rfl ?_
      refine zV_getR (pc := 33) (b := 87) dX9_taken_33 zfX9_48 rfl rfl rfl ?_
      refine zV_iload_n (pc := 36) dX9_taken_36 rfl 1 rfl ?_
      obtain ⟨o7, h⟩ := h
      obtain ⟨o8, h⟩ := h
      refine zV_callVf (pc := 37) (mc := mX2_holdsRow) (As := [.int (iz x1)]) (rest := []) dX9_taken_37 zcX9_331 ziX2_holdsRow zsX2_holdsRow rfl rfl rfl rfl (Nat.le_of_ble_eq_true rfl) (c_X2_holdsRow hx1 hm0 o7 o8) (fun hr9 => ?_)
      refine zV_if_eq (pc := 40) (tgt := 74) dX9_taken_40 (by decide) (inR_b2i _) (fun c11 => ?_) (fun c11 => ?_)
      · replace c11 := b2i_fp c11
        replace h := h.2 c11
        refine zV_aloadr_n (pc := 74) dX9_taken_74 rfl 0 rfl ?_
        refine zV_getR (pc := 75) (b := 87) dX9_taken_75 zfX9_48 rfl rfl rfl ?_
        refine zV_getR (pc := 78) (b := 91) dX9_taken_78 zfX9_340 rfl rfl rfl ?_
        refine zV_iload_n (pc := 81) dX9_taken_81 rfl 1 rfl ?_
        obtain ⟨o12, o13, h⟩ := h
        refine zV_iald (pc := 82) dX9_taken_82 rfl o12 o13 (inR_ix o12 o13 rfl) ?_
        refine zV_name (fun v14 e15 => ?_)
        replace h := h v14 e15
        have hrv14 : inR v14 := by rw [e15]; exact (hm0 _ _)
        refine zV_istore_n (pc := 83) (loc' := [(3, .int (iz v14)), (0, rr K 0), (1, .int (iz x1)), (2, .int (iz x2))]) dX9_taken_83 rfl (by decide) rfl ?_
        refine zV_aloadr_n (pc := 84) dX9_taken_84 rfl 1 rfl ?_
        refine zV_getR (pc := 85) (b := 1) dX9_taken_85 zfX9_10 rfl rfl rfl ?_
        refine zV_iload_n (pc := 88) dX9_taken_88 rfl 0 rfl ?_
        obtain ⟨o16, h⟩ := h
        refine zV_callVf (pc := 89) (mc := mX4_hasPart) (As := [.int (iz v14)]) (rest := []) dX9_taken_89 zcX9_124 ziX4_hasPart zsX4_hasPart rfl rfl rfl rfl (Nat.le_of_ble_eq_true rfl) (c_X4_hasPart (Or.inl rfl) hrv14 hm0 o16) (fun hr17 => ?_)
        refine zV_if_ne (pc := 92) (tgt := 98) dX9_taken_92 (by decide) (inR_b2i _) (fun c19 => ?_) (fun c19 => ?_)
        · replace c19 := b2i_tp c19
          replace h := h.1 c19
          refine zV_iload_n (pc := 98) dX9_taken_98 rfl 3 rfl ?_
          refine zV_bipush (pc := 99) dX9_taken_99 (by decide) ?_
          refine zV_icmp_gt (pc := 101) (tgt := 131) dX9_taken_101 (by decide) hx2 (inRd rfl) (fun c20 => ?_) (fun c20 => ?_)
          · skip
            replace h := h.1 c20
            refine zV_bipush (pc := 131) dX9_taken_131 (by decide) ?_
            exact zV_iret (pc := 133) rfl dX9_taken_133 (inRd rfl) h
          · skip
            replace h := h.2 c20
            refine zV_aloadr_n (pc := 104) dX9_taken_104 rfl 1 rfl ?_
            refine zV_getR (pc := 105) (b := 94) dX9_taken_105 zfX9_55 rfl rfl rfl ?_
            refine zV_aloadr_n (pc := 108) dX9_taken_108 rfl 1 rfl ?_
            refine zV_getR (pc := 109) (b := 1) dX9_taken_109 zfX9_10 rfl rfl rfl ?_
            refine zV_getR (pc := 112) (b := 2) dX9_taken_112 zfX9_114 rfl rfl rfl ?_
            refine zV_iload_n (pc := 115) dX9_taken_115 rfl 0 rfl ?_
            obtain ⟨o21, o22, h⟩ := h
            refine zV_aald (pc := 116) dX9_taken_116 rfl o21 o22 (inR_ix o21 o22 rfl) (zPn1_p o21 o22) ?_
            refine zV_callVf (pc := 117) (mc := mX3_thing) (As := []) (rest := [rr K 94]) dX9_taken_117 zcX9_343 ziX3_thing zsX3_thing (zPn1_s o21 o22) rfl rfl rfl (Nat.le_of_ble_eq_true rfl) (c_X3_thing (zPn1_s o21 o22) hm0) (fun hr23 => ?_)
            refine zV_iload_n (pc := 120) dX9_taken_120 rfl 3 rfl ?_
            refine zV_callV (pc := 121) (mc := mX0_isUnder) (As := [.int (iz (if m0.1 (10 + v14) 4 = 0 then m0.1 (10 + v14) 0 else 6)), .int (iz x2)]) (rest := []) dX9_taken_121 zcX9_346 ziX0_isUnder zsX0_isUnder rfl rfl rfl rfl (Nat.le_of_ble_eq_true rfl) h (fun r25 m26 hr25 h => zV_ok (fun hm26 => ?_))
            replace h := h hr25 hm26
            refine zV_if_eq (pc := 124) (tgt := 131) dX9_taken_124 (by decide) hr25 (fun c27 => ?_) (fun c27 => ?_)
            · skip
              replace h := h.1 c27
              refine zV_bipush (pc := 131) dX9_taken_131 (by decide) ?_
              exact zV_iret (pc := 133) rfl dX9_taken_133 (inRd rfl) h
            · skip
              replace h := h.2 c27
              refine zV_iload_n (pc := 127) dX9_taken_127 rfl 0 rfl ?_
              refine zV_goto (pc := 128) (tgt := 133) dX9_taken_128 (by decide) ?_
              exact zV_iret (pc := 133) rfl dX9_taken_133 hrv14 h
        · replace c19 := b2i_fn c19
          replace h := h.2 c19
          refine zV_bipush (pc := 95) dX9_taken_95 (by decide) ?_
          exact zV_iret (pc := 97) rfl dX9_taken_97 (inRd rfl) h
      · replace c11 := b2i_tp c11
        replace h := h.1 c11
        refine zV_iload_n (pc := 43) dX9_taken_43 rfl 2 rfl ?_
        refine zV_bipush (pc := 44) dX9_taken_44 (by decide) ?_
        refine zV_aloadr_n (pc := 46) dX9_taken_46 rfl 0 rfl ?_
        refine zV_getR (pc := 47) (b := 87) dX9_taken_47 zfX9_48 rfl rfl rfl ?_
        refine zV_getR (pc := 50) (b := 92) dX9_taken_50 zfX9_334 rfl rfl rfl ?_
        refine zV_iload_n (pc := 53) dX9_taken_53 rfl 1 rfl ?_
        obtain ⟨o28, o29, h⟩ := h
        refine zV_iald (pc := 54) dX9_taken_54 rfl o28 o29 (inR_ix o28 o29 rfl) ?_
        refine zV_iadd (pc := 55) dX9_taken_55 ?_
        obtain ⟨o30, h⟩ := h
        refine zV_icmp_ne (pc := 56) (tgt := 71) dX9_taken_56 (by decide) hx2 o30 (fun c31 => ?_) (fun c31 => ?_)
        · skip
          replace h := h.2 c31
          refine zV_bipush (pc := 71) dX9_taken_71 (by decide) ?_
          exact zV_iret (pc := 73) rfl dX9_taken_73 (inRd rfl) h
        · replace c31 := Classical.not_not.mp c31
          replace h := h.1 c31
          refine zV_aloadr_n (pc := 59) dX9_taken_59 rfl 0 rfl ?_
          refine zV_getR (pc := 60) (b := 87) dX9_taken_60 zfX9_48 rfl rfl rfl ?_
          refine zV_getR (pc := 63) (b := 93) dX9_taken_63 zfX9_337 rfl rfl rfl ?_
          refine zV_iload_n (pc := 66) dX9_taken_66 rfl 1 rfl ?_
          refine zV_iald (pc := 67) dX9_taken_67 rfl o28 o29 (inR_ix o28 o29 rfl) ?_
          refine zV_goto (pc := 68) (tgt := 73) dX9_taken_68 (by decide) ?_
          exact zV_iret (pc := 73) rfl dX9_taken_73 (hm0 _ _) h
    · replace c6 := b2i_fn c6
      replace h := h.2 c6
      refine zV_iload_n (pc := 19) dX9_taken_19 rfl 2 rfl ?_
      refine zV_bipush (pc := 20) dX9_taken_20 (by decide) ?_
      refine zV_bipush (pc := 22) dX9_taken_22 (by decide) ?_
      refine zV_callSf (pc := 24) (mc := mX9_within) (As := [.int (iz x2), .int (iz 10), .int (iz 13)]) (rest := []) dX9_taken_24 zcX9_74 ztX9_within rfl rfl (Nat.le_of_ble_eq_true rfl) (c_X9_within hx2 (inRd rfl) (inRd rfl)) (fun hr32 => ?_)
      refine zV_if_ne (pc := 27) (tgt := 32) dX9_taken_27 (by decide) (inR_b2i _) (fun c34 => ?_) (fun c34 => ?_)
      · replace c34 := b2i_tp c34
        replace h := h.1 c34
        refine zV_aloadr_n (pc := 32) dX9_taken_32 rfl 0 rfl ?_
        refine zV_getR (pc := 33) (b := 87) dX9_taken_33 zfX9_48 rfl rfl rfl ?_
        refine zV_iload_n (pc := 36) dX9_taken_36 rfl 1 rfl ?_
        obtain ⟨o35, h⟩ := h
        obtain ⟨o36, h⟩ := h
        refine zV_callVf (pc := 37) (mc := mX2_holdsRow) (As := [.int (iz x1)]) (rest := []) dX9_taken_37 zcX9_331 ziX2_holdsRow zsX2_holdsRow rfl rfl rfl rfl (Nat.le_of_ble_eq_true rfl) (c_X2_holdsRow hx1 hm0 o35 o36) (fun hr37 => ?_)
        refine zV_if_eq (pc := 40) (tgt := 74) dX9_taken_40 (by decide) (inR_b2i _) (fun c39 => ?_) (fun c39 => ?_)
        · replace c39 := b2i_fp c39
          replace h := h.2 c39
          refine zV_aloadr_n (pc := 74) dX9_taken_74 rfl 0 rfl ?_
          refine zV_getR (pc := 75) (b := 87) dX9_taken_75 zfX9_48 rfl rfl rfl ?_
          refine zV_getR (pc := 78) (b := 91) dX9_taken_78 zfX9_340 rfl rfl rfl ?_
          refine zV_iload_n (pc := 81) dX9_taken_81 rfl 1 rfl ?_
          obtain ⟨o40, o41, h⟩ := h
          refine zV_iald (pc := 82) dX9_taken_82 rfl o40 o41 (inR_ix o40 o41 rfl) ?_
          refine zV_name (fun v42 e43 => ?_)
          replace h := h v42 e43
          have hrv42 : inR v42 := by rw [e43]; exact (hm0 _ _)
          refine zV_istore_n (pc := 83) (loc' := [(3, .int (iz v42)), (0, rr K 0), (1, .int (iz x1)), (2, .int (iz x2))]) dX9_taken_83 rfl (by decide) rfl ?_
          refine zV_aloadr_n (pc := 84) dX9_taken_84 rfl 1 rfl ?_
          refine zV_getR (pc := 85) (b := 1) dX9_taken_85 zfX9_10 rfl rfl rfl ?_
          refine zV_iload_n (pc := 88) dX9_taken_88 rfl 0 rfl ?_
          obtain ⟨o44, h⟩ := h
          refine zV_callVf (pc := 89) (mc := mX4_hasPart) (As := [.int (iz v42)]) (rest := []) dX9_taken_89 zcX9_124 ziX4_hasPart zsX4_hasPart rfl rfl rfl rfl (Nat.le_of_ble_eq_true rfl) (c_X4_hasPart (Or.inl rfl) hrv42 hm0 o44) (fun hr45 => ?_)
          refine zV_if_ne (pc := 92) (tgt := 98) dX9_taken_92 (by decide) (inR_b2i _) (fun c47 => ?_) (fun c47 => ?_)
          · replace c47 := b2i_tp c47
            replace h := h.1 c47
            refine zV_iload_n (pc := 98) dX9_taken_98 rfl 3 rfl ?_
            refine zV_bipush (pc := 99) dX9_taken_99 (by decide) ?_
            refine zV_icmp_gt (pc := 101) (tgt := 131) dX9_taken_101 (by decide) hx2 (inRd rfl) (fun c48 => ?_) (fun c48 => ?_)
            · skip
              replace h := h.1 c48
              refine zV_bipush (pc := 131) dX9_taken_131 (by decide) ?_
              exact zV_iret (pc := 133) rfl dX9_taken_133 (inRd rfl) h
            · skip
              replace h := h.2 c48
              refine zV_aloadr_n (pc := 104) dX9_taken_104 rfl 1 rfl ?_
              refine zV_getR (pc := 105) (b := 94) dX9_taken_105 zfX9_55 rfl rfl rfl ?_
              refine zV_aloadr_n (pc := 108) dX9_taken_108 rfl 1 rfl ?_
              refine zV_getR (pc := 109) (b := 1) dX9_taken_109 zfX9_10 rfl rfl rfl ?_
              refine zV_getR (pc := 112) (b := 2) dX9_taken_112 zfX9_114 rfl rfl rfl ?_
              refine zV_iload_n (pc := 115) dX9_taken_115 rfl 0 rfl ?_
              obtain ⟨o49, o50, h⟩ := h
              refine zV_aald (pc := 116) dX9_taken_116 rfl o49 o50 (inR_ix o49 o50 rfl) (zPn1_p o49 o50) ?_
              refine zV_callVf (pc := 117) (mc := mX3_thing) (As := []) (rest := [rr K 94]) dX9_taken_117 zcX9_343 ziX3_thing zsX3_thing (zPn1_s o49 o50) rfl rfl rfl (Nat.le_of_ble_eq_true rfl) (c_X3_thing (zPn1_s o49 o50) hm0) (fun hr51 => ?_)
              refine zV_iload_n (pc := 120) dX9_taken_120 rfl 3 rfl ?_
              refine zV_callV (pc := 121) (mc := mX0_isUnder) (As := [.int (iz (if m0.1 (10 + v42) 4 = 0 then m0.1 (10 + v42) 0 else 6)), .int (iz x2)]) (rest := []) dX9_taken_121 zcX9_346 ziX0_isUnder zsX0_isUnder rfl rfl rfl rfl (Nat.le_of_ble_eq_true rfl) h (fun r53 m54 hr53 h => zV_ok (fun hm54 => ?_))
              replace h := h hr53 hm54
              refine zV_if_eq (pc := 124) (tgt := 131) dX9_taken_124 (by decide) hr53 (fun c55 => ?_) (fun c55 => ?_)
              · skip
                replace h := h.1 c55
                refine zV_bipush (pc := 131) dX9_taken_131 (by decide) ?_
                exact zV_iret (pc := 133) rfl dX9_taken_133 (inRd rfl) h
              · skip
                replace h := h.2 c55
                refine zV_iload_n (pc := 127) dX9_taken_127 rfl 0 rfl ?_
                refine zV_goto (pc := 128) (tgt := 133) dX9_taken_128 (by decide) ?_
                exact zV_iret (pc := 133) rfl dX9_taken_133 hrv42 h
          · replace c47 := b2i_fn c47
            replace h := h.2 c47
            refine zV_bipush (pc := 95) dX9_taken_95 (by decide) ?_
            exact zV_iret (pc := 97) rfl dX9_taken_97 (inRd rfl) h
        · replace c39 := b2i_tp c39
          replace h := h.1 c39
          refine zV_iload_n (pc := 43) dX9_taken_43 rfl 2 rfl ?_
          refine zV_bipush (pc := 44) dX9_taken_44 (by decide) ?_
          refine zV_aloadr_n (pc := 46) dX9_taken_46 rfl 0 rfl ?_
          refine zV_getR (pc := 47) (b := 87) dX9_taken_47 zfX9_48 rfl rfl rfl ?_
          refine zV_getR (pc := 50) (b := 92) dX9_taken_50 zfX9_334 rfl rfl rfl ?_
          refine zV_iload_n (pc := 53) dX9_taken_53 rfl 1 rfl ?_
          obtain ⟨o56, o57, h⟩ := h
          refine zV_iald (pc := 54) dX9_taken_54 rfl o56 o57 (inR_ix o56 o57 rfl) ?_
          refine zV_iadd (pc := 55) dX9_taken_55 ?_
          obtain ⟨o58, h⟩ := h
          refine zV_icmp_ne (pc := 56) (tgt := 71) dX9_taken_56 (by decide) hx2 o58 (fun c59 => ?_) (fun c59 => ?_)
          · skip
            replace h := h.2 c59
            refine zV_bipush (pc := 71) dX9_taken_71 (by decide) ?_
            exact zV_iret (pc := 73) rfl dX9_taken_73 (inRd rfl) h
          · replace c59 := Classical.not_not.mp c59
            replace h := h.1 c59
            refine zV_aloadr_n (pc := 59) dX9_taken_59 rfl 0 rfl ?_
            refine zV_getR (pc := 60) (b := 87) dX9_taken_60 zfX9_48 rfl rfl rfl ?_
            refine zV_getR (pc := 63) (b := 93) dX9_taken_63 zfX9_337 rfl rfl rfl ?_
            refine zV_iload_n (pc := 66) dX9_taken_66 rfl 1 rfl ?_
            refine zV_iald (pc := 67) dX9_taken_67 rfl o56 o57 (inR_ix o56 o57 rfl) ?_
            refine zV_goto (pc := 68) (tgt := 73) dX9_taken_68 (by decide) ?_
            exact zV_iret (pc := 73) rfl dX9_taken_73 (hm0 _ _) h
      · replace c34 := b2i_fn c34
        replace h := h.2 c34
        refine zV_iconst (pc := 30) dX9_taken_30 ?_
        exact zV_iret (pc := 31) rfl dX9_taken_31 (inRd rfl) h

set_option maxRecDepth 100000 in
set_option maxHeartbeats 4000000 in
theorem vc_X9_act_0 {K : zCx} {d : Nat} (x1 : Int) (x2 : Int) (x3 : Int) (m0 : zM) {Q : Int → zM → Prop} (hx1 : inR x1) (hx2 : inR x2) (hx3 : inR x3) (h : zok m0 → ∀ m1 : zM, m1 = sI m0 94 1 0 → zok m1 → (((0 ≤ x1 ∧ x1 ≤ 3) → ((0 ≤ x2 ∧ x2 ≤ 3) → (0 ≤ x1) ∧ ((x1 < 4) ∧ (((0 ≤ m1.1 92 x1) → Q 0 m1) ∧ (¬ ((0 ≤ m1.1 92 x1)) → 0 ≤ x1 ∧ x1 < 4 ∧ (∀ v16 : Int, v16 = (m1.1 91 x1) → ((0 ≤ m1.1 1 6) ∧ (((0 ≤ v16 ∧ v16 < m1.1 1 6) → 0 ≤ v16 ∧ v16 < 10 ∧ (zCt K (d + 48) mX0_answer [rr K 94, rr K (10 + v16), .int (iz v16), .int (iz x2), .int (iz x3)] m1 (fun r24 m25 => inR r24 → zok m25 → Q r24 m25))) ∧ (¬ ((0 ≤ v16 ∧ v16 < m1.1 1 6)) → Q 0 m1)))))))) ∧ (¬ ((0 ≤ x2 ∧ x2 ≤ 3)) → Q 0 m1)) ∧ (¬ ((0 ≤ x1 ∧ x1 ≤ 3)) → Q 0 m1))) : zV K mX9_act (d + 49) 0 [(0, rr K 0), (1, .int (iz x1)), (2, .int (iz x2)), (3, .int (iz x3))] [] m0 Q := by
  refine zV_ok (fun hm0 => ?_)
  replace h := h hm0
  refine zV_aloadr_n (pc := 0) dX9_act_0 rfl 0 rfl ?_
  refine zV_getR (pc := 1) (b := 94) dX9_act_1 zfX9_55 rfl rfl rfl ?_
  refine zV_iconst (pc := 4) dX9_act_4 ?_
  refine zV_putI (pc := 5) (kz := 1) dX9_act_5 zpX9_349 rfl rfl rfl (inRd rfl) rfl rfl ?_
  refine zV_mem (fun m1 e2 => zV_ok (fun hm1 => ?_))
  replace h := h m1 e2 hm1
  refine zV_iload_n (pc := 8) dX9_act_8 rfl 1 rfl ?_
  refine zV_iconst (pc := 9) dX9_act_9 ?_
  refine zV_iconst (pc := 10) dX9_act_10 ?_
  refine zV_callSf (pc := 11) (mc := mX9_within) (As := [.int (iz x1), .int (iz 0), .int (iz 3)]) (rest := []) dX9_act_11 zcX9_74 ztX9_within rfl rfl (Nat.le_of_ble_eq_true rfl) (c_X9_within hx1 (inRd rfl) (inRd rfl)) (fun hr3 => ?_)
  refine zV_if_eq (pc := 14) (tgt := 37) dX9_act_14 (by decide) (inR_b2i _) (fun c5 => ?_) (fun c5 => ?_)
  · replace c5 := b2i_fp c5
    replace h := h.2 c5
    refine zV_iconst (pc := 37) dX9_act_37 ?_
    exact zV_iret (pc := 38) rfl dX9_act_38 (inRd rfl) h
  · replace c5 := b2i_tp c5
    replace h := h.1 c5
    refine zV_iload_n (pc := 17) dX9_act_17 rfl 2 rfl ?_
    refine zV_iconst (pc := 18) dX9_act_18 ?_
    refine zV_iconst (pc := 19) dX9_act_19 ?_
    refine zV_callSf (pc := 20) (mc := mX9_within) (As := [.int (iz x2), .int (iz 0), .int (iz 3)]) (rest := []) dX9_act_20 zcX9_74 ztX9_within rfl rfl (Nat.le_of_ble_eq_true rfl) (c_X9_within hx2 (inRd rfl) (inRd rfl)) (fun hr6 => ?_)
    refine zV_if_eq (pc := 23) (tgt := 37) dX9_act_23 (by decide) (inR_b2i _) (fun c8 => ?_) (fun c8 => ?_)
    · replace c8 := b2i_fp c8
      replace h := h.2 c8
      refine zV_iconst (pc := 37) dX9_act_37 ?_
      exact zV_iret (pc := 38) rfl dX9_act_38 (inRd rfl) h
    · replace c8 := b2i_tp c8
      replace h := h.1 c8
      refine zV_aloadr_n (pc := 26) dX9_act_26 rfl 0 rfl ?_
      refine zV_getR (pc := 27) (b := 87) dX9_act_27 zfX9_48 rfl rfl rfl ?_
      refine zV_iload_n (pc := 30) dX9_act_30 rfl 1 rfl ?_
      obtain ⟨o9, h⟩ := h
      obtain ⟨o10, h⟩ := h
      refine zV_callVf (pc := 31) (mc := mX2_holdsRow) (As := [.int (iz x1)]) (rest := []) dX9_act_31 zcX9_331 ziX2_holdsRow zsX2_holdsRow rfl rfl rfl rfl (Nat.le_of_ble_eq_true rfl) (c_X2_holdsRow hx1 hm1 o9 o10) (fun hr11 => ?_)
      refine zV_if_eq (pc := 34) (tgt := 39) dX9_act_34 (by decide) (inR_b2i _) (fun c13 => ?_) (fun c13 => ?_)
      · replace c13 := b2i_fp c13
        replace h := h.2 c13
        refine zV_aloadr_n (pc := 39) dX9_act_39 rfl 0 rfl ?_
        refine zV_getR (pc := 40) (b := 87) dX9_act_40 zfX9_48 rfl rfl rfl ?_
        refine zV_getR (pc := 43) (b := 91) dX9_act_43 zfX9_340 rfl rfl rfl ?_
        refine zV_iload_n (pc := 46) dX9_act_46 rfl 1 rfl ?_
        obtain ⟨o14, o15, h⟩ := h
        refine zV_iald (pc := 47) dX9_act_47 rfl o14 o15 (inR_ix o14 o15 rfl) ?_
        refine zV_name (fun v16 e17 => ?_)
        replace h := h v16 e17
        have hrv16 : inR v16 := by rw [e17]; exact (hm1 _ _)
        refine zV_istore (pc := 48) (loc' := [(4, .int (iz v16)), (0, rr K 0), (1, .int (iz x1)), (2, .int (iz x2)), (3, .int (iz x3))]) dX9_act_48 (by decide) rfl ?_
        refine zV_aloadr_n (pc := 50) dX9_act_50 rfl 1 rfl ?_
        refine zV_getR (pc := 51) (b := 1) dX9_act_51 zfX9_10 rfl rfl rfl ?_
        refine zV_iload (pc := 54) dX9_act_54 0 rfl ?_
        obtain ⟨o18, h⟩ := h
        refine zV_callVf (pc := 56) (mc := mX4_hasPart) (As := [.int (iz v16)]) (rest := []) dX9_act_56 zcX9_124 ziX4_hasPart zsX4_hasPart rfl rfl rfl rfl (Nat.le_of_ble_eq_true rfl) (c_X4_hasPart (Or.inl rfl) hrv16 hm1 o18) (fun hr19 => ?_)
        refine zV_if_ne (pc := 59) (tgt := 64) dX9_act_59 (by decide) (inR_b2i _) (fun c21 => ?_) (fun c21 => ?_)
        · replace c21 := b2i_tp c21
          replace h := h.1 c21
          refine zV_aloadr_n (pc := 64) dX9_act_64 rfl 1 rfl ?_
          refine zV_getR (pc := 65) (b := 94) dX9_act_65 zfX9_55 rfl rfl rfl ?_
          refine zV_aloadr_n (pc := 68) dX9_act_68 rfl 1 rfl ?_
          refine zV_getR (pc := 69) (b := 1) dX9_act_69 zfX9_10 rfl rfl rfl ?_
          refine zV_getR (pc := 72) (b := 2) dX9_act_72 zfX9_114 rfl rfl rfl ?_
          refine zV_iload (pc := 75) dX9_act_75 0 rfl ?_
          obtain ⟨o22, o23, h⟩ := h
          refine zV_aald (pc := 77) dX9_act_77 rfl o22 o23 (inR_ix o22 o23 rfl) (zPn1_p o22 o23) ?_
          refine zV_iload (pc := 78) dX9_act_78 0 rfl ?_
          refine zV_iload_n (pc := 80) dX9_act_80 rfl 3 rfl ?_
          refine zV_iload_n (pc := 81) dX9_act_81 rfl 4 rfl ?_
          refine zV_callV (pc := 82) (mc := mX0_answer) (As := [rr K (10 + v16), .int (iz v16), .int (iz x2), .int (iz x3)]) (rest := []) dX9_act_82 zcX9_350 ziX0_answer zsX0_answer rfl rfl rfl rfl (Nat.le_of_ble_eq_true rfl) h (fun r24 m25 hr24 h => zV_ok (fun hm25 => ?_))
          replace h := h hr24 hm25
          exact zV_iret (pc := 85) rfl dX9_act_85 hr24 h
        · replace c21 := b2i_fn c21
          replace h := h.2 c21
          refine zV_iconst (pc := 62) dX9_act_62 ?_
          exact zV_iret (pc := 63) rfl dX9_act_63 (inRd rfl) h
      · replace c13 := b2i_tp c13
        replace h := h.1 c13
        refine zV_iconst (pc := 37) dX9_act_37 ?_
        exact zV_iret (pc := 38) rfl dX9_act_38 (inRd rfl) h

set_option maxRecDepth 100000 in
set_option maxHeartbeats 4000000 in
theorem vc_X9_trace_0 {K : zCx} {d : Nat} (x1 : Int) (m0 : zM) {Q : Int → zM → Prop} (hx1 : inR x1) (h : zok m0 → inR ((m0.1 94 1) - 1) ∧ (((0 ≤ x1 ∧ x1 ≤ ((m0.1 94 1) - 1)) → 0 ≤ x1 ∧ x1 < 30 ∧ (Q (m0.1 95 x1) m0)) ∧ (¬ ((0 ≤ x1 ∧ x1 ≤ ((m0.1 94 1) - 1))) → Q (-3) m0))) : zV K mX9_trace (d + 2) 0 [(0, rr K 0), (1, .int (iz x1))] [] m0 Q := by
  refine zV_ok (fun hm0 => ?_)
  replace h := h hm0
  refine zV_iload_n (pc := 0) dX9_trace_0 rfl 1 rfl ?_
  refine zV_iconst (pc := 1) dX9_trace_1 ?_
  refine zV_aloadr_n (pc := 2) dX9_trace_2 rfl 0 rfl ?_
  refine zV_getR (pc := 3) (b := 94) dX9_trace_3 zfX9_55 rfl rfl rfl ?_
  refine zV_getI (pc := 6) (kz := 1) dX9_trace_6 zfX9_349 rfl rfl rfl ?_
  refine zV_iconst (pc := 9) dX9_trace_9 ?_
  refine zV_isub (pc := 10) dX9_trace_10 ?_
  obtain ⟨o1, h⟩ := h
  refine zV_callSf (pc := 11) (mc := mX9_within) (As := [.int (iz x1), .int (iz 0), .int (iz ((m0.1 94 1) - 1))]) (rest := []) dX9_trace_11 zcX9_74 ztX9_within rfl rfl (Nat.le_of_ble_eq_true rfl) (c_X9_within hx1 (inRd rfl) o1) (fun hr2 => ?_)
  refine zV_if_eq (pc := 14) (tgt := 29) dX9_trace_14 (by decide) (inR_b2i _) (fun c4 => ?_) (fun c4 => ?_)
  · replace c4 := b2i_fp c4
    replace h := h.2 c4
    refine zV_bipush (pc := 29) dX9_trace_29 (by decide) ?_
    exact zV_iret (pc := 31) rfl dX9_trace_31 (inRd rfl) h
  · replace c4 := b2i_tp c4
    replace h := h.1 c4
    refine zV_aloadr_n (pc := 17) dX9_trace_17 rfl 0 rfl ?_
    refine zV_getR (pc := 18) (b := 94) dX9_trace_18 zfX9_55 rfl rfl rfl ?_
    refine zV_getR (pc := 21) (b := 95) dX9_trace_21 zfX9_354 rfl rfl rfl ?_
    refine zV_iload_n (pc := 24) dX9_trace_24 rfl 1 rfl ?_
    obtain ⟨o5, o6, h⟩ := h
    refine zV_iald (pc := 25) dX9_trace_25 rfl o5 o6 (inR_ix o5 o6 rfl) ?_
    refine zV_goto (pc := 26) (tgt := 31) dX9_trace_26 (by decide) ?_
    exact zV_iret (pc := 31) rfl dX9_trace_31 (hm0 _ _) h

set_option maxRecDepth 100000 in
set_option maxHeartbeats 4000000 in
theorem vc_X9_many_0 {K : zCx} {d : Nat} (x1 : Int) (m0 : zM) {Q : Int → zM → Prop} (hx1 : inR x1) (h : zok m0 → (x1 = 0 → Q (m0.1 1 6) m0) ∧ (x1 = 1 → Q (m0.1 1 7) m0) ∧ (x1 = 2 → Q (m0.1 7 2) m0) ∧ (x1 = 3 → zCt K (d + 2) mX4_openCount [rr K 1] m0 (fun r2 m3 => inR r2 → zok m3 → Q r2 m3)) ∧ (x1 = 4 → Q (m0.1 1 8) m0) ∧ (x1 = 5 → Q (m0.1 0 10) m0) ∧ (x1 = 6 → Q (m0.1 56 2) m0) ∧ (x1 = 7 → Q (m0.1 94 1) m0) ∧ (x1 = 8 → Q (m0.1 1 10) m0) ∧ (x1 = 9 → Q (m0.1 1 9) m0) ∧ (x1 = 10 → zCt K (d + 2) mX4_brokenCount [rr K 1] m0 (fun r4 m5 => inR r4 → zok m5 → Q r4 m5)) ∧ ((x1 < 0 ∨ 10 < x1) → Q (-1) m0)) : zV K mX9_many (d + 3) 0 [(0, rr K 0), (1, .int (iz x1))] [] m0 Q := by
  refine zV_ok (fun hm0 => ?_)
  replace h := h hm0
  refine zV_iload_n (pc := 0) dX9_many_0 rfl 1 rfl ?_
  have c1 : x1 = 0 ∨ x1 = 1 ∨ x1 = 2 ∨ x1 = 3 ∨ x1 = 4 ∨ x1 = 5 ∨ x1 = 6 ∨ x1 = 7 ∨ x1 = 8 ∨ x1 = 9 ∨ x1 = 10 ∨ (x1 < 0 ∨ 10 < x1) := by omega
  rcases c1 with c1 | c1 | c1 | c1 | c1 | c1 | c1 | c1 | c1 | c1 | c1 | c1
  · refine zV_tswIn (pc := 1) (tgt := 60) (v := 0) dX9_many_1 c1 (inRd rfl) (by decide) (by decide) rfl (by decide) ?_
    replace h := h.1 c1
    refine zV_aloadr_n (pc := 60) dX9_many_60 rfl 0 rfl ?_
    refine zV_getR (pc := 61) (b := 1) dX9_many_61 zfX9_10 rfl rfl rfl ?_
    refine zV_getI (pc := 64) (kz := 6) dX9_many_64 zfX9_111 rfl rfl rfl ?_
    exact zV_iret (pc := 67) rfl dX9_many_67 (hm0 _ _) h
  · refine zV_tswIn (pc := 1) (tgt := 68) (v := 1) dX9_many_1 c1 (inRd rfl) (by decide) (by decide) rfl (by decide) ?_
    replace h := h.2.1 c1
    refine zV_aloadr_n (pc := 68) dX9_many_68 rfl 0 rfl ?_
    refine zV_getR (pc := 69) (b := 1) dX9_many_69 zfX9_10 rfl rfl rfl ?_
    refine zV_getI (pc := 72) (kz := 7) dX9_many_72 zfX9_86 rfl rfl rfl ?_
    exact zV_iret (pc := 75) rfl dX9_many_75 (hm0 _ _) h
  · refine zV_tswIn (pc := 1) (tgt := 76) (v := 2) dX9_many_1 c1 (inRd rfl) (by decide) (by decide) rfl (by decide) ?_
    replace h := h.2.2.1 c1
    refine zV_aloadr_n (pc := 76) dX9_many_76 rfl 0 rfl ?_
    refine zV_getR (pc := 77) (b := 1) dX9_many_77 zfX9_10 rfl rfl rfl ?_
    refine zV_getR (pc := 80) (b := 7) dX9_many_80 zfX9_211 rfl rfl rfl ?_
    refine zV_getI (pc := 83) (kz := 2) dX9_many_83 zfX9_224 rfl rfl rfl ?_
    exact zV_iret (pc := 86) rfl dX9_many_86 (hm0 _ _) h
  · refine zV_tswIn (pc := 1) (tgt := 87) (v := 3) dX9_many_1 c1 (inRd rfl) (by decide) (by decide) rfl (by decide) ?_
    replace h := h.2.2.2.1 c1
    refine zV_aloadr_n (pc := 87) dX9_many_87 rfl 0 rfl ?_
    refine zV_getR (pc := 88) (b := 1) dX9_many_88 zfX9_10 rfl rfl rfl ?_
    refine zV_callV (pc := 91) (mc := mX4_openCount) (As := []) (rest := []) dX9_many_91 zcX9_242 ziX4_openCount zsX4_openCount rfl rfl rfl rfl (Nat.le_of_ble_eq_true rfl) h (fun r2 m3 hr2 h => zV_ok (fun hm3 => ?_))
    replace h := h hr2 hm3
    exact zV_iret (pc := 94) rfl dX9_many_94 hr2 h
  · refine zV_tswIn (pc := 1) (tgt := 95) (v := 4) dX9_many_1 c1 (inRd rfl) (by decide) (by decide) rfl (by decide) ?_
    replace h := h.2.2.2.2.1 c1
    refine zV_aloadr_n (pc := 95) dX9_many_95 rfl 0 rfl ?_
    refine zV_getR (pc := 96) (b := 1) dX9_many_96 zfX9_10 rfl rfl rfl ?_
    refine zV_getI (pc := 99) (kz := 8) dX9_many_99 zfX9_290 rfl rfl rfl ?_
    exact zV_iret (pc := 102) rfl dX9_many_102 (hm0 _ _) h
  · refine zV_tswIn (pc := 1) (tgt := 103) (v := 5) dX9_many_1 c1 (inRd rfl) (by decide) (by decide) rfl (by decide) ?_
    replace h := h.2.2.2.2.2.1 c1
    refine zV_aloadr_n (pc := 103) dX9_many_103 rfl 0 rfl ?_
    refine zV_getI (pc := 104) (kz := 10) dX9_many_104 zfX9_66 rfl rfl rfl ?_
    exact zV_iret (pc := 107) rfl dX9_many_107 (hm0 _ _) h
  · refine zV_tswIn (pc := 1) (tgt := 108) (v := 6) dX9_many_1 c1 (inRd rfl) (by decide) (by decide) rfl (by decide) ?_
    replace h := h.2.2.2.2.2.2.1 c1
    refine zV_aloadr_n (pc := 108) dX9_many_108 rfl 0 rfl ?_
    refine zV_getR (pc := 109) (b := 56) dX9_many_109 zfX9_41 rfl rfl rfl ?_
    refine zV_getI (pc := 112) (kz := 2) dX9_many_112 zfX9_201 rfl rfl rfl ?_
    exact zV_iret (pc := 115) rfl dX9_many_115 (hm0 _ _) h
  · refine zV_tswIn (pc := 1) (tgt := 116) (v := 7) dX9_many_1 c1 (inRd rfl) (by decide) (by decide) rfl (by decide) ?_
    replace h := h.2.2.2.2.2.2.2.1 c1
    refine zV_aloadr_n (pc := 116) dX9_many_116 rfl 0 rfl ?_
    refine zV_getR (pc := 117) (b := 94) dX9_many_117 zfX9_55 rfl rfl rfl ?_
    refine zV_getI (pc := 120) (kz := 1) dX9_many_120 zfX9_349 rfl rfl rfl ?_
    exact zV_iret (pc := 123) rfl dX9_many_123 (hm0 _ _) h
  · refine zV_tswIn (pc := 1) (tgt := 124) (v := 8) dX9_many_1 c1 (inRd rfl) (by decide) (by decide) rfl (by decide) ?_
    replace h := h.2.2.2.2.2.2.2.2.1 c1
    refine zV_aloadr_n (pc := 124) dX9_many_124 rfl 0 rfl ?_
    refine zV_getR (pc := 125) (b := 1) dX9_many_125 zfX9_10 rfl rfl rfl ?_
    refine zV_getI (pc := 128) (kz := 10) dX9_many_128 zfX9_141 rfl rfl rfl ?_
    exact zV_iret (pc := 131) rfl dX9_many_131 (hm0 _ _) h
  · refine zV_tswIn (pc := 1) (tgt := 132) (v := 9) dX9_many_1 c1 (inRd rfl) (by decide) (by decide) rfl (by decide) ?_
    replace h := h.2.2.2.2.2.2.2.2.2.1 c1
    refine zV_aloadr_n (pc := 132) dX9_many_132 rfl 0 rfl ?_
    refine zV_getR (pc := 133) (b := 1) dX9_many_133 zfX9_10 rfl rfl rfl ?_
    refine zV_getI (pc := 136) (kz := 9) dX9_many_136 zfX9_147 rfl rfl rfl ?_
    exact zV_iret (pc := 139) rfl dX9_many_139 (hm0 _ _) h
  · refine zV_tswIn (pc := 1) (tgt := 140) (v := 10) dX9_many_1 c1 (inRd rfl) (by decide) (by decide) rfl (by decide) ?_
    replace h := h.2.2.2.2.2.2.2.2.2.2.1 c1
    refine zV_aloadr_n (pc := 140) dX9_many_140 rfl 0 rfl ?_
    refine zV_getR (pc := 141) (b := 1) dX9_many_141 zfX9_10 rfl rfl rfl ?_
    refine zV_callV (pc := 144) (mc := mX4_brokenCount) (As := []) (rest := []) dX9_many_144 zcX9_357 ziX4_brokenCount zsX4_brokenCount rfl rfl rfl rfl (Nat.le_of_ble_eq_true rfl) h (fun r4 m5 hr4 h => zV_ok (fun hm5 => ?_))
    replace h := h hr4 hm5
    exact zV_iret (pc := 147) rfl dX9_many_147 hr4 h
  · refine zV_tswOut (pc := 1) (tgt := 148) dX9_many_1 hx1 c1 (by decide) ?_
    replace h := h.2.2.2.2.2.2.2.2.2.2.2 c1
    refine zV_iconst (pc := 148) dX9_many_148 ?_
    exact zV_iret (pc := 149) rfl dX9_many_149 (inRd rfl) h

set_option maxRecDepth 100000 in
set_option maxHeartbeats 4000000 in
theorem vc_X9_keep_0 {K : zCx} {d : Nat}  (m0 : zM) {Q : Int → zM → Prop}  (h : zok m0 → zCt K (d + 3) mX4_copyFrom [rr K 20, rr K 1] m0 (fun r1 m2 => inR r1 → zok m2 → ∀ m3 : zM, m3 = sI m2 0 11 1 → zok m3 → (Q 1 m3))) : zV K mX9_keep (d + 4) 0 [(0, rr K 0)] [] m0 Q := by
  refine zV_ok (fun hm0 => ?_)
  replace h := h hm0
  refine zV_aloadr_n (pc := 0) dX9_keep_0 rfl 0 rfl ?_
  refine zV_getR (pc := 1) (b := 20) dX9_keep_1 zfX9_16 rfl rfl rfl ?_
  refine zV_aloadr_n (pc := 4) dX9_keep_4 rfl 0 rfl ?_
  refine zV_getR (pc := 5) (b := 1) dX9_keep_5 zfX9_10 rfl rfl rfl ?_
  refine zV_callV (pc := 8) (mc := mX4_copyFrom) (As := [rr K 1]) (rest := []) dX9_keep_8 zcX9_360 ziX4_copyFrom zsX4_copyFrom rfl rfl rfl rfl (Nat.le_of_ble_eq_true rfl) h (fun r1 m2 hr1 h => zV_ok (fun hm2 => ?_))
  replace h := h hr1 hm2
  refine zV_aloadr_n (pc := 11) dX9_keep_11 rfl 0 rfl ?_
  refine zV_iconst (pc := 12) dX9_keep_12 ?_
  refine zV_putI (pc := 13) (kz := 11) dX9_keep_13 zpX9_70 rfl rfl rfl (z01 (Or.inr rfl)).1 (z01 (Or.inr rfl)).2.1 (z01 (Or.inr rfl)).2.2 ?_
  refine zV_mem (fun m3 e4 => zV_ok (fun hm3 => ?_))
  replace h := h m3 e4 hm3
  refine zV_iconst (pc := 16) dX9_keep_16 ?_
  exact zV_iret (pc := 17) rfl dX9_keep_17 (inRd rfl) h

set_option maxRecDepth 100000 in
set_option maxHeartbeats 4000000 in
theorem vc_X9_again_0 {K : zCx} {d : Nat}  (m0 : zM) {Q : Int → zM → Prop}  (h : zok m0 → ((m0.1 0 11) = 0 → Q (-3) m0) ∧ (¬ ((m0.1 0 11) = 0) → zCt K (d + 3) mX4_copyFrom [rr K 1, rr K 20] m0 (fun r2 m3 => inR r2 → zok m3 → Q 1 m3))) : zV K mX9_again (d + 4) 0 [(0, rr K 0)] [] m0 Q := by
  refine zV_ok (fun hm0 => ?_)
  replace h := h hm0
  refine zV_aloadr_n (pc := 0) dX9_again_0 rfl 0 rfl ?_
  refine zV_getI (pc := 1) (kz := 11) dX9_again_1 zfX9_70 rfl rfl rfl ?_
  refine zV_if_ne (pc := 4) (tgt := 10) dX9_again_4 (by decide) (hm0 _ _) (fun c1 => ?_) (fun c1 => ?_)
  · skip
    replace h := h.2 c1
    refine zV_aloadr_n (pc := 10) dX9_again_10 rfl 0 rfl ?_
    refine zV_getR (pc := 11) (b := 1) dX9_again_11 zfX9_10 rfl rfl rfl ?_
    refine zV_aloadr_n (pc := 14) dX9_again_14 rfl 0 rfl ?_
    refine zV_getR (pc := 15) (b := 20) dX9_again_15 zfX9_16 rfl rfl rfl ?_
    refine zV_callV (pc := 18) (mc := mX4_copyFrom) (As := [rr K 20]) (rest := []) dX9_again_18 zcX9_360 ziX4_copyFrom zsX4_copyFrom rfl rfl rfl rfl (Nat.le_of_ble_eq_true rfl) h (fun r2 m3 hr2 h => zV_ok (fun hm3 => ?_))
    replace h := h hr2 hm3
    refine zV_iconst (pc := 21) dX9_again_21 ?_
    exact zV_iret (pc := 22) rfl dX9_again_22 (inRd rfl) h
  · replace c1 := Classical.not_not.mp c1
    replace h := h.1 c1
    refine zV_bipush (pc := 7) dX9_again_7 (by decide) ?_
    exact zV_iret (pc := 9) rfl dX9_again_9 (inRd rfl) h
