set_option maxRecDepth 100000 in
set_option maxHeartbeats 4000000 in
theorem vc_X0_answer_0 {K : zCx} {d : Nat} (q1 : Int) (x2 : Int) (x3 : Int) (x4 : Int) (m0 : zM) {Q : Int → zM → Prop} (hq1 : zsh q1 = some (6, 12)) (hx2 : inR x2) (hx3 : inR x3) (hx4 : inR x4) (h : zok m0 → ∀ m3 : zM, m3 = sI m0 94 2 (if m0.1 q1 4 = 0 then m0.1 q1 0 else 6) → zok m3 → (∀ m5 : zM, m5 = sI m3 94 3 x2 → zok m5 → (∀ m7 : zM, m7 = sI m5 94 4 (m5.1 q1 3) → zok m7 → (∀ m9 : zM, m9 = sI m7 94 5 0 → zok m9 → (zCt K (d + 47) mX0_run [rr K 94, .int (iz (m9.1 94 2)), .int (iz x3), .int (iz x4), .int (iz 0)] m9 (fun r11 m12 => inR r11 → zok m12 → ((m12.1 94 5) = 0 → Q r11 m12) ∧ (¬ ((m12.1 94 5) = 0) → Q (-15) m12))))))) : zV K mX0_answer (d + 48) 0 [(0, rr K 94), (1, rr K q1), (2, .int (iz x2)), (3, .int (iz x3)), (4, .int (iz x4))] [] m0 Q := by
  refine zV_ok (fun hm0 => ?_)
  replace h := h hm0
  refine zV_aloadr_n (pc := 0) dX0_answer_0 rfl 0 rfl ?_
  refine zV_aloadr_n (pc := 1) dX0_answer_1 rfl 1 rfl ?_
  refine zV_callVf (pc := 2) (mc := mX3_thing) (As := []) (rest := [rr K 94]) dX0_answer_2 zcX0_15 ziX3_thing zsX3_thing hq1 rfl rfl rfl (Nat.le_of_ble_eq_true rfl) (c_X3_thing hq1 hm0) (fun hr1 => ?_)
  refine zV_putI (pc := 5) (kz := 2) dX0_answer_5 zpX0_21 rfl rfl rfl hr1 rfl rfl ?_
  refine zV_mem (fun m3 e4 => zV_ok (fun hm3 => ?_))
  replace h := h m3 e4 hm3
  refine zV_aloadr_n (pc := 8) dX0_answer_8 rfl 0 rfl ?_
  refine zV_iload_n (pc := 9) dX0_answer_9 rfl 2 rfl ?_
  refine zV_putI (pc := 10) (kz := 3) dX0_answer_10 zpX0_25 rfl rfl rfl hx2 rfl rfl ?_
  refine zV_mem (fun m5 e6 => zV_ok (fun hm5 => ?_))
  replace h := h m5 e6 hm5
  refine zV_aloadr_n (pc := 13) dX0_answer_13 rfl 0 rfl ?_
  refine zV_aloadr_n (pc := 14) dX0_answer_14 rfl 1 rfl ?_
  refine zV_getI (pc := 15) (kz := 3) dX0_answer_15 zfX0_28 hq1 rfl rfl ?_
  refine zV_putI (pc := 18) (kz := 4) dX0_answer_18 zpX0_31 rfl rfl rfl (hm5 _ _) rfl rfl ?_
  refine zV_mem (fun m7 e8 => zV_ok (fun hm7 => ?_))
  replace h := h m7 e8 hm7
  refine zV_aloadr_n (pc := 21) dX0_answer_21 rfl 0 rfl ?_
  refine zV_iconst (pc := 22) dX0_answer_22 ?_
  refine zV_putI (pc := 23) (kz := 5) dX0_answer_23 zpX0_32 rfl rfl rfl (z01 (Or.inl rfl)).1 (z01 (Or.inl rfl)).2.1 (z01 (Or.inl rfl)).2.2 ?_
  refine zV_mem (fun m9 e10 => zV_ok (fun hm9 => ?_))
  replace h := h m9 e10 hm9
  refine zV_aloadr_n (pc := 26) dX0_answer_26 rfl 0 rfl ?_
  refine zV_aloadr_n (pc := 27) dX0_answer_27 rfl 0 rfl ?_
  refine zV_getI (pc := 28) (kz := 2) dX0_answer_28 zfX0_21 rfl rfl rfl ?_
  refine zV_iload_n (pc := 31) dX0_answer_31 rfl 3 rfl ?_
  refine zV_iload (pc := 32) dX0_answer_32 4 rfl ?_
  refine zV_iconst (pc := 34) dX0_answer_34 ?_
  refine zV_callV (pc := 35) (mc := mX0_run) (As := [.int (iz (m9.1 94 2)), .int (iz x3), .int (iz x4), .int (iz 0)]) (rest := []) dX0_answer_35 zcX0_36 ziX0_run zsX0_run rfl rfl rfl rfl (Nat.le_of_ble_eq_true rfl) h (fun r11 m12 hr11 h => zV_ok (fun hm12 => ?_))
  replace h := h hr11 hm12
  refine zV_istore (pc := 38) (loc' := [(5, .int (iz r11)), (0, rr K 94), (1, rr K q1), (2, .int (iz x2)), (3, .int (iz x3)), (4, .int (iz x4))]) dX0_answer_38 (by decide) rfl ?_
  refine zV_aloadr_n (pc := 40) dX0_answer_40 rfl 1 rfl ?_
  refine zV_getI (pc := 41) (kz := 5) dX0_answer_41 zfX0_32 rfl rfl rfl ?_
  refine zV_if_eq (pc := 44) (tgt := 52) dX0_answer_44 (by decide) (hm12 _ _) (fun c13 => ?_) (fun c13 => ?_)
  · skip
    replace h := h.1 c13
    refine zV_iload (pc := 52) dX0_answer_52 0 rfl ?_
    exact zV_iret (pc := 54) rfl dX0_answer_54 hr11 h
  · skip
    replace h := h.2 c13
    refine zV_bipush (pc := 47) dX0_answer_47 (by decide) ?_
    refine zV_goto (pc := 49) (tgt := 54) dX0_answer_49 (by decide) ?_
    exact zV_iret (pc := 54) rfl dX0_answer_54 (inRd rfl) h

set_option maxRecDepth 100000 in
set_option maxHeartbeats 4000000 in
theorem vc_X0_isUnder_0 {K : zCx} {d : Nat} (x1 : Int) (x2 : Int) (m0 : zM) {Q : Int → zM → Prop} (hx1 : inR x1) (hx2 : inR x2) (h : zok m0 → zV K mX0_isUnder (d + 1) 5 [(2, .int (iz x2)), (3, .int (iz x1)), (4, .int (iz 0))] [] m0 Q) : zV K mX0_isUnder (d + 1) 0 [(0, rr K 94), (1, .int (iz x1)), (2, .int (iz x2))] [] m0 Q := by
  refine zV_ok (fun hm0 => ?_)
  replace h := h hm0
  refine zV_iload_n (pc := 0) dX0_isUnder_0 rfl 1 rfl ?_
  refine zV_istore_n (pc := 1) (loc' := [(3, .int (iz x1)), (0, rr K 94), (1, .int (iz x1)), (2, .int (iz x2))]) dX0_isUnder_1 rfl (by decide) rfl ?_
  refine zV_iconst (pc := 2) dX0_isUnder_2 ?_
  refine zV_istore (pc := 3) (loc' := [(4, .int (iz 0)), (3, .int (iz x1)), (0, rr K 94), (1, .int (iz x1)), (2, .int (iz x2))]) dX0_isUnder_3 (by decide) rfl ?_
  exact zV_sub [4, 1, 0] rfl h
set_option maxRecDepth 100000 in
set_option maxHeartbeats 4000000 in
theorem vc_X0_isUnder_5 {K : zCx} {d : Nat} (x2 : Int) (x3 : Int) (x4 : Int) (m0 : zM) {Q : Int → zM → Prop} (hx2 : inR x2) (hx3 : inR x3) (hx4 : inR x4) (h : zok m0 → (6 < x4 → Q 0 m0) ∧ (¬ (6 < x4) → (x3 < 0 → Q 0 m0) ∧ (¬ (x3 < 0) → (x3 = x2 → Q 1 m0) ∧ (¬ (x3 = x2) → 0 ≤ x3 ∧ x3 < 7 ∧ (∀ v6 : Int, v6 = (zAb.getD (x3).toNat 0) → (zV K mX0_isUnder (d + 1) 5 [(2, .int (iz x2)), (3, .int (iz v6)), (4, .int (iz (x4 + 1)))] [] m0 Q)))))) : zV K mX0_isUnder (d + 1) 5 [(2, .int (iz x2)), (3, .int (iz x3)), (4, .int (iz x4))] [] m0 Q := by
  refine zV_ok (fun hm0 => ?_)
  replace h := h hm0
  refine zV_iload (pc := 5) dX0_isUnder_5 2 rfl ?_
  refine zV_bipush (pc := 7) dX0_isUnder_7 (by decide) ?_
  refine zV_icmp_gt (pc := 9) (tgt := 35) dX0_isUnder_9 (by decide) hx4 (inRd rfl) (fun c1 => ?_) (fun c1 => ?_)
  · skip
    replace h := h.1 c1
    refine zV_iconst (pc := 35) dX0_isUnder_35 ?_
    exact zV_zret (pc := 36) rfl dX0_isUnder_36 (Or.inl rfl) h
  · skip
    replace h := h.2 c1
    refine zV_iload_n (pc := 12) dX0_isUnder_12 rfl 1 rfl ?_
    refine zV_if_lt (pc := 13) (tgt := 35) dX0_isUnder_13 (by decide) hx3 (fun c2 => ?_) (fun c2 => ?_)
    · skip
      replace h := h.1 c2
      refine zV_iconst (pc := 35) dX0_isUnder_35 ?_
      exact zV_zret (pc := 36) rfl dX0_isUnder_36 (Or.inl rfl) h
    · skip
      replace h := h.2 c2
      refine zV_iload_n (pc := 16) dX0_isUnder_16 rfl 1 rfl ?_
      refine zV_iload_n (pc := 17) dX0_isUnder_17 rfl 0 rfl ?_
      refine zV_icmp_ne (pc := 18) (tgt := 23) dX0_isUnder_18 (by decide) hx3 hx2 (fun c3 => ?_) (fun c3 => ?_)
      · skip
        replace h := h.2 c3
        refine zV_gets (pc := 23) (j := 0) (nm := "ABOVE") (N := 0) (f := fun _ => .null) dX0_isUnder_23 (zmem 1114 (by decide +kernel) (by decide +kernel)) (fun s q => q.1.1) ?_
        refine zV_iload_n (pc := 26) dX0_isUnder_26 rfl 1 rfl ?_
        obtain ⟨o4, o5, h⟩ := h
        refine zV_ialdX (pc := 27) (j := 0) (N := 7) (f := zAb) dX0_isUnder_27 (fun s q => q.1.2) o4 o5 (inR_ix o4 o5 rfl) ?_
        refine zV_name (fun v6 e7 => ?_)
        replace h := h v6 e7
        refine zV_istore_n (pc := 28) (loc' := [(3, .int (iz v6)), (2, .int (iz x2)), (4, .int (iz x4))]) dX0_isUnder_28 rfl (by decide) rfl ?_
        refine zV_iinc (pc := 29) (loc' := [(4, .int (iz (x4 + 1))), (3, .int (iz v6)), (2, .int (iz x2))]) dX0_isUnder_29 2 rfl (by decide) rfl ?_
        refine zV_goto (pc := 32) (tgt := 5) dX0_isUnder_32 (by decide) ?_
        exact zV_sub [2, 1, 0] rfl h
      · replace c3 := Classical.not_not.mp c3
        replace h := h.1 c3
        refine zV_iconst (pc := 21) dX0_isUnder_21 ?_
        exact zV_zret (pc := 22) rfl dX0_isUnder_22 (Or.inr rfl) h

set_option maxRecDepth 100000 in
set_option maxHeartbeats 4000000 in
theorem vc_X0_run_0 {K : zCx} {d : Nat} (x1 : Int) (x2 : Int) (x3 : Int) (x4 : Int) (m0 : zM) {Q : Int → zM → Prop} (hx1 : inR x1) (hx2 : inR x2) (hx3 : inR x3) (hx4 : inR x4) (h : zok m0 → zV K mX0_run (d + 2) 6 [(0, rr K 94), (2, .int (iz x2)), (3, .int (iz x3)), (4, .int (iz x4)), (5, .int (iz x1)), (6, .int (iz 0))] [] m0 Q) : zV K mX0_run (d + 2) 0 [(0, rr K 94), (1, .int (iz x1)), (2, .int (iz x2)), (3, .int (iz x3)), (4, .int (iz x4))] [] m0 Q := by
  refine zV_ok (fun hm0 => ?_)
  replace h := h hm0
  refine zV_iload_n (pc := 0) dX0_run_0 rfl 1 rfl ?_
  refine zV_istore (pc := 1) (loc' := [(5, .int (iz x1)), (0, rr K 94), (1, .int (iz x1)), (2, .int (iz x2)), (3, .int (iz x3)), (4, .int (iz x4))]) dX0_run_1 (by decide) rfl ?_
  refine zV_iconst (pc := 3) dX0_run_3 ?_
  refine zV_istore (pc := 4) (loc' := [(6, .int (iz 0)), (5, .int (iz x1)), (0, rr K 94), (1, .int (iz x1)), (2, .int (iz x2)), (3, .int (iz x3)), (4, .int (iz x4))]) dX0_run_4 (by decide) rfl ?_
  exact zV_sub [2, 4, 5, 6, 1, 0] rfl h
set_option maxRecDepth 100000 in
set_option maxHeartbeats 4000000 in
theorem vc_X0_run_6 {K : zCx} {d : Nat} (x2 : Int) (x3 : Int) (x4 : Int) (x5 : Int) (x6 : Int) (m0 : zM) {Q : Int → zM → Prop} (hx2 : inR x2) (hx3 : inR x3) (hx4 : inR x4) (hx5 : inR x5) (hx6 : inR x6) (h : zok m0 → (6 < x6 → zV K mX0_run (d + 2) 45 [(0, rr K 94), (2, .int (iz x2)), (3, .int (iz x3)), (4, .int (iz x4)), (5, .int (iz x5))] [] m0 Q) ∧ (¬ (6 < x6) → (x5 ≤ 0 → zV K mX0_run (d + 2) 45 [(0, rr K 94), (2, .int (iz x2)), (3, .int (iz x3)), (4, .int (iz x4)), (5, .int (iz x5))] [] m0 Q) ∧ (¬ (x5 ≤ 0) → 0 ≤ ((x5 * 4) + x2) ∧ ((x5 * 4) + x2) < 28 ∧ (inR (zOw.getD (((x5 * 4) + x2)).toNat 0) ∧ (((zOw.getD (((x5 * 4) + x2)).toNat 0) = 0 → 0 ≤ x5 ∧ x5 < 7 ∧ (∀ v9 : Int, v9 = (zAb.getD (x5).toNat 0) → (zV K mX0_run (d + 2) 6 [(0, rr K 94), (2, .int (iz x2)), (3, .int (iz x3)), (4, .int (iz x4)), (5, .int (iz v9)), (6, .int (iz (x6 + 1)))] [] m0 Q))) ∧ (¬ ((zOw.getD (((x5 * 4) + x2)).toNat 0) = 0) → zV K mX0_run (d + 2) 45 [(0, rr K 94), (2, .int (iz x2)), (3, .int (iz x3)), (4, .int (iz x4)), (5, .int (iz x5))] [] m0 Q)))))) : zV K mX0_run (d + 2) 6 [(0, rr K 94), (2, .int (iz x2)), (3, .int (iz x3)), (4, .int (iz x4)), (5, .int (iz x5)), (6, .int (iz x6))] [] m0 Q := by
  refine zV_ok (fun hm0 => ?_)
  replace h := h hm0
  refine zV_iload (pc := 6) dX0_run_6 5 rfl ?_
  refine zV_bipush (pc := 8) dX0_run_8 (by decide) ?_
  refine zV_icmp_gt (pc := 10) (tgt := 45) dX0_run_10 (by decide) hx6 (inRd rfl) (fun c1 => ?_) (fun c1 => ?_)
  · skip
    replace h := h.1 c1
    exact zV_sub [0, 1, 2, 3, 4] rfl h
  · skip
    replace h := h.2 c1
    refine zV_iload (pc := 13) dX0_run_13 4 rfl ?_
    refine zV_if_le (pc := 15) (tgt := 45) dX0_run_15 (by decide) hx5 (fun c2 => ?_) (fun c2 => ?_)
    · skip
      replace h := h.1 c2
      exact zV_sub [0, 1, 2, 3, 4] rfl h
    · skip
      replace h := h.2 c2
      refine zV_gets (pc := 18) (j := 1) (nm := "OWN") (N := 0) (f := fun _ => .null) dX0_run_18 (zmem 1129 (by decide +kernel) (by decide +kernel)) (fun s q => q.2.1.1) ?_
      refine zV_iload (pc := 21) dX0_run_21 4 rfl ?_
      refine zV_iconst (pc := 23) dX0_run_23 ?_
      refine zV_imul (pc := 24) dX0_run_24 ?_
      refine zV_iload_n (pc := 25) dX0_run_25 rfl 1 rfl ?_
      refine zV_iadd (pc := 26) dX0_run_26 ?_
      obtain ⟨o3, o4, h⟩ := h
      refine zV_ialdX (pc := 27) (j := 1) (N := 28) (f := zOw) dX0_run_27 (fun s q => q.2.1.2) o3 o4 (inR_ix o3 o4 rfl) ?_
      obtain ⟨o5, h⟩ := h
      refine zV_if_ne (pc := 28) (tgt := 45) dX0_run_28 (by decide) o5 (fun c6 => ?_) (fun c6 => ?_)
      · skip
        replace h := h.2 c6
        exact zV_sub [0, 1, 2, 3, 4] rfl h
      · replace c6 := Classical.not_not.mp c6
        replace h := h.1 c6
        refine zV_gets (pc := 31) (j := 0) (nm := "ABOVE") (N := 0) (f := fun _ => .null) dX0_run_31 (zmem 1114 (by decide +kernel) (by decide +kernel)) (fun s q => q.1.1) ?_
        refine zV_iload (pc := 34) dX0_run_34 4 rfl ?_
        obtain ⟨o7, o8, h⟩ := h
        refine zV_ialdX (pc := 36) (j := 0) (N := 7) (f := zAb) dX0_run_36 (fun s q => q.1.2) o7 o8 (inR_ix o7 o8 rfl) ?_
        refine zV_name (fun v9 e10 => ?_)
        replace h := h v9 e10
        refine zV_istore (pc := 37) (loc' := [(5, .int (iz v9)), (0, rr K 94), (2, .int (iz x2)), (3, .int (iz x3)), (4, .int (iz x4)), (6, .int (iz x6))]) dX0_run_37 (by decide) rfl ?_
        refine zV_iinc (pc := 39) (loc' := [(6, .int (iz (x6 + 1))), (5, .int (iz v9)), (0, rr K 94), (2, .int (iz x2)), (3, .int (iz x3)), (4, .int (iz x4))]) dX0_run_39 5 rfl (by decide) rfl ?_
        refine zV_goto (pc := 42) (tgt := 6) dX0_run_42 (by decide) ?_
        exact zV_sub [2, 3, 4, 5, 1, 0] rfl h
set_option maxRecDepth 100000 in
set_option maxHeartbeats 4000000 in
theorem vc_X0_run_45 {K : zCx} {d : Nat} (x2 : Int) (x3 : Int) (x4 : Int) (x5 : Int) (m0 : zM) {Q : Int → zM → Prop} (hx2 : inR x2) (hx3 : inR x3) (hx4 : inR x4) (hx5 : inR x5) (h : zok m0 → ((m0.1 94 5) = 0 → (x5 < 0 → Q 0 m0) ∧ (¬ (x5 < 0) → (x4 < 40 → 0 ≤ ((x5 * 4) + x2) ∧ ((x5 * 4) + x2) < 28 ∧ (∀ v6 : Int, v6 = (zOw.getD (((x5 * 4) + x2)).toNat 0) → (0 ≤ x5 ∧ x5 < 7 ∧ (∀ v10 : Int, v10 = (zAb.getD (x5).toNat 0) → (∀ v12 : Int, v12 = (x4 + 1) → (zCt K (d + 1) mX0_note [rr K 94, .int (iz v6)] m0 (fun r14 m15 => inR r14 → zok m15 → inR v6 ∧ ((v6 = 10 → inR (x3 + (m15.1 94 4)) ∧ (Q (x3 + (m15.1 94 4)) m15)) ∧ (v6 = 11 → zCt K (d + 1) mX0_run [rr K 94, .int (iz (m15.1 94 2)), .int (iz 0), .int (iz x3), .int (iz v12)] m15 (fun r19 m20 => inR r19 → zok m20 → inR (r19 * 2) ∧ (Q (r19 * 2) m20))) ∧ (v6 = 12 → zCt K (d + 1) mX0_parted [rr K 94, .int (iz x3)] m15 (fun r22 m23 => inR r22 → zok m23 → Q r22 m23)) ∧ (v6 = 13 → zCt K (d + 1) mX0_run [rr K 94, .int (iz (m15.1 94 2)), .int (iz 1), .int (iz x3), .int (iz v12)] m15 (fun r24 m25 => inR r24 → zok m25 → Q (zxor r24 (m25.1 94 3)) m25)) ∧ (v6 = 20 → zCt K (d + 1) mX0_run [rr K 94, .int (iz v10), .int (iz 0), .int (iz x3), .int (iz v12)] m15 (fun r26 m27 => inR r26 → zok m27 → inR (r26 - 3) ∧ (Q (r26 - 3) m27))) ∧ (v6 = 30 → zCt K (d + 1) mX0_run [rr K 94, .int (iz v10), .int (iz 1), .int (iz x3), .int (iz v12)] m15 (fun r29 m30 => inR r29 → zok m30 → zCt K (d + 1) mX0_run [rr K 94, .int (iz (m30.1 94 2)), .int (iz 0), .int (iz 2), .int (iz v12)] m30 (fun r31 m32 => inR r31 → zok m32 → inR (r29 + r31) ∧ (Q (r29 + r31) m32)))) ∧ (v6 = 31 → zCt K (d + 1) mX0_run [rr K 94, .int (iz v10), .int (iz 3), .int (iz x3), .int (iz v12)] m15 (fun r34 m35 => inR r34 → zok m35 → inR (r34 * 5) ∧ (Q (r34 * 5) m35))) ∧ (v6 = 40 → zCt K (d + 1) mX0_run [rr K 94, .int (iz v10), .int (iz 0), .int (iz x3), .int (iz v12)] m15 (fun r37 m38 => inR r37 → zok m38 → Q (zxor r37 (m38.1 94 4)) m38)) ∧ (v6 = 41 → zCt K (d + 1) mX0_run [rr K 94, .int (iz v10), .int (iz 2), .int (iz (x3 - 1)), .int (iz v12)] m15 (fun r39 m40 => inR r39 → zok m40 → Q r39 m40)) ∧ (v6 = 50 → zCt K (d + 1) mX0_run [rr K 94, .int (iz v10), .int (iz 1), .int (iz x3), .int (iz v12)] m15 (fun r41 m42 => inR r41 → zok m42 → inR (0 - r41) ∧ (Q (0 - r41) m42))) ∧ (v6 = 60 → zCt K (d + 1) mX0_run [rr K 94, .int (iz v10), .int (iz 3), .int (iz x3), .int (iz v12)] m15 (fun r44 m45 => inR r44 → zok m45 → zCt K (d + 1) mX0_run [rr K 94, .int (iz (m45.1 94 2)), .int (iz 2), .int (iz ((m45.1 94 3) + 1)), .int (iz v12)] m45 (fun r46 m47 => inR r46 → zok m47 → inR (r44 + r46) ∧ (Q (r44 + r46) m47)))) ∧ (v6 = 70 → zCt K (d + 1) mX0_run [rr K 94, .int (iz v10), .int (iz 0), .int (iz x3), .int (iz v12)] m15 (fun r49 m50 => inR r49 → zok m50 → inR (r49 * 7) ∧ (Q (r49 * 7) m50))) ∧ ((¬ v6 = 10 ∧ ¬ v6 = 11 ∧ ¬ v6 = 12 ∧ ¬ v6 = 13 ∧ ¬ v6 = 20 ∧ ¬ v6 = 30 ∧ ¬ v6 = 31 ∧ ¬ v6 = 40 ∧ ¬ v6 = 41 ∧ ¬ v6 = 50 ∧ ¬ v6 = 60 ∧ ¬ v6 = 70) → Q 0 m15))))))))) ∧ (¬ (x4 < 40) → Q 0 m0))) ∧ (¬ ((m0.1 94 5) = 0) → Q 0 m0)) : zV K mX0_run (d + 2) 45 [(0, rr K 94), (2, .int (iz x2)), (3, .int (iz x3)), (4, .int (iz x4)), (5, .int (iz x5))] [] m0 Q := by
  refine zV_ok (fun hm0 => ?_)
  replace h := h hm0
  refine zV_aloadr_n (pc := 45) dX0_run_45 rfl 0 rfl ?_
  refine zV_getI (pc := 46) (kz := 5) dX0_run_46 zfX0_32 rfl rfl rfl ?_
  refine zV_if_ne (pc := 49) (tgt := 64) dX0_run_49 (by decide) (hm0 _ _) (fun c1 => ?_) (fun c1 => ?_)
  · skip
    replace h := h.2 c1
    refine zV_iconst (pc := 64) dX0_run_64 ?_
    exact zV_iret (pc := 65) rfl dX0_run_65 (inRd rfl) h
  · replace c1 := Classical.not_not.mp c1
    replace h := h.1 c1
    refine zV_iload (pc := 52) dX0_run_52 4 rfl ?_
    refine zV_if_lt (pc := 54) (tgt := 64) dX0_run_54 (by decide) hx5 (fun c2 => ?_) (fun c2 => ?_)
    · skip
      replace h := h.1 c2
      refine zV_iconst (pc := 64) dX0_run_64 ?_
      exact zV_iret (pc := 65) rfl dX0_run_65 (inRd rfl) h
    · skip
      replace h := h.2 c2
      refine zV_iload (pc := 57) dX0_run_57 3 rfl ?_
      refine zV_bipush (pc := 59) dX0_run_59 (by decide) ?_
      refine zV_icmp_lt (pc := 61) (tgt := 66) dX0_run_61 (by decide) hx4 (inRd rfl) (fun c3 => ?_) (fun c3 => ?_)
      · skip
        replace h := h.1 c3
        refine zV_gets (pc := 66) (j := 1) (nm := "OWN") (N := 0) (f := fun _ => .null) dX0_run_66 (zmem 1129 (by decide +kernel) (by decide +kernel)) (fun s q => q.2.1.1) ?_
        refine zV_iload (pc := 69) dX0_run_69 4 rfl ?_
        refine zV_iconst (pc := 71) dX0_run_71 ?_
        refine zV_imul (pc := 72) dX0_run_72 ?_
        refine zV_iload_n (pc := 73) dX0_run_73 rfl 1 rfl ?_
        refine zV_iadd (pc := 74) dX0_run_74 ?_
        obtain ⟨o4, o5, h⟩ := h
        refine zV_ialdX (pc := 75) (j := 1) (N := 28) (f := zOw) dX0_run_75 (fun s q => q.2.1.2) o4 o5 (inR_ix o4 o5 rfl) ?_
        refine zV_name (fun v6 e7 => ?_)
        replace h := h v6 e7
        refine zV_istore (pc := 76) (loc' := [(6, .int (iz v6)), (0, rr K 94), (2, .int (iz x2)), (3, .int (iz x3)), (4, .int (iz x4)), (5, .int (iz x5))]) dX0_run_76 (by decide) rfl ?_
        refine zV_gets (pc := 78) (j := 0) (nm := "ABOVE") (N := 0) (f := fun _ => .null) dX0_run_78 (zmem 1114 (by decide +kernel) (by decide +kernel)) (fun s q => q.1.1) ?_
        refine zV_iload (pc := 81) dX0_run_81 5 rfl ?_
        obtain ⟨o8, o9, h⟩ := h
        refine zV_ialdX (pc := 83) (j := 0) (N := 7) (f := zAb) dX0_run_83 (fun s q => q.1.2) o8 o9 (inR_ix o8 o9 rfl) ?_
        refine zV_name (fun v10 e11 => ?_)
        replace h := h v10 e11
        refine zV_istore (pc := 84) (loc' := [(7, .int (iz v10)), (6, .int (iz v6)), (0, rr K 94), (2, .int (iz x2)), (3, .int (iz x3)), (4, .int (iz x4)), (5, .int (iz x5))]) dX0_run_84 (by decide) rfl ?_
        refine zV_iload (pc := 86) dX0_run_86 5 rfl ?_
        refine zV_iconst (pc := 88) dX0_run_88 ?_
        refine zV_iadd (pc := 89) dX0_run_89 ?_
        refine zV_name (fun v12 e13 => ?_)
        replace h := h v12 e13
        refine zV_istore (pc := 90) (loc' := [(8, .int (iz v12)), (7, .int (iz v10)), (6, .int (iz v6)), (0, rr K 94), (2, .int (iz x2)), (3, .int (iz x3)), (4, .int (iz x4)), (5, .int (iz x5))]) dX0_run_90 (by decide) rfl ?_
        refine zV_aloadr_n (pc := 92) dX0_run_92 rfl 3 rfl ?_
        refine zV_iload (pc := 93) dX0_run_93 2 rfl ?_
        refine zV_callV (pc := 95) (mc := mX0_note) (As := [.int (iz v6)]) (rest := []) dX0_run_95 zcX0_46 ziX0_note zsX0_note rfl rfl rfl rfl (Nat.le_of_ble_eq_true rfl) h (fun r14 m15 hr14 h => zV_ok (fun hm15 => ?_))
        replace h := h hr14 hm15
        refine zV_iload (pc := 98) dX0_run_98 2 rfl ?_
        obtain ⟨o16, h⟩ := h
        have c17 : v6 = 10 ∨ v6 = 11 ∨ v6 = 12 ∨ v6 = 13 ∨ v6 = 20 ∨ v6 = 30 ∨ v6 = 31 ∨ v6 = 40 ∨ v6 = 41 ∨ v6 = 50 ∨ v6 = 60 ∨ v6 = 70 ∨ (¬ v6 = 10 ∧ ¬ v6 = 11 ∧ ¬ v6 = 12 ∧ ¬ v6 = 13 ∧ ¬ v6 = 20 ∧ ¬ v6 = 30 ∧ ¬ v6 = 31 ∧ ¬ v6 = 40 ∧ ¬ v6 = 41 ∧ ¬ v6 = 50 ∧ ¬ v6 = 60 ∧ ¬ v6 = 70) := by omega
        rcases c17 with c17 | c17 | c17 | c17 | c17 | c17 | c17 | c17 | c17 | c17 | c17 | c17 | c17
        · refine zV_lsw (pc := 100) (tgt := 208) (off := 108) dX0_run_100 (by decide) o16 (by rw [c17]; rfl) (by decide) ?_
          replace h := h.1 c17
          refine zV_iload_n (pc := 208) dX0_run_208 rfl 5 rfl ?_
          refine zV_aloadr_n (pc := 209) dX0_run_209 rfl 3 rfl ?_
          refine zV_getI (pc := 210) (kz := 4) dX0_run_210 zfX0_31 rfl rfl rfl ?_
          refine zV_iadd (pc := 213) dX0_run_213 ?_
          obtain ⟨o18, h⟩ := h
          exact zV_iret (pc := 214) rfl dX0_run_214 o18 h
        · refine zV_lsw (pc := 100) (tgt := 215) (off := 115) dX0_run_100 (by decide) o16 (by rw [c17]; rfl) (by decide) ?_
          replace h := h.2.1 c17
          refine zV_aloadr_n (pc := 215) dX0_run_215 rfl 3 rfl ?_
          refine zV_aloadr_n (pc := 216) dX0_run_216 rfl 3 rfl ?_
          refine zV_getI (pc := 217) (kz := 2) dX0_run_217 zfX0_21 rfl rfl rfl ?_
          refine zV_iconst (pc := 220) dX0_run_220 ?_
          refine zV_iload_n (pc := 221) dX0_run_221 rfl 5 rfl ?_
          refine zV_iload (pc := 222) dX0_run_222 0 rfl ?_
          refine zV_callV (pc := 224) (mc := mX0_run) (As := [.int (iz (m15.1 94 2)), .int (iz 0), .int (iz x3), .int (iz v12)]) (rest := []) dX0_run_224 zcX0_36 ziX0_run zsX0_run rfl rfl rfl rfl (Nat.le_of_ble_eq_true rfl) h (fun r19 m20 hr19 h => zV_ok (fun hm20 => ?_))
          replace h := h hr19 hm20
          refine zV_iconst (pc := 227) dX0_run_227 ?_
          refine zV_imul (pc := 228) dX0_run_228 ?_
          obtain ⟨o21, h⟩ := h
          exact zV_iret (pc := 229) rfl dX0_run_229 o21 h
        · refine zV_lsw (pc := 100) (tgt := 230) (off := 130) dX0_run_100 (by decide) o16 (by rw [c17]; rfl) (by decide) ?_
          replace h := h.2.2.1 c17
          refine zV_aloadr_n (pc := 230) dX0_run_230 rfl 3 rfl ?_
          refine zV_iload_n (pc := 231) dX0_run_231 rfl 5 rfl ?_
          refine zV_callV (pc := 232) (mc := mX0_parted) (As := [.int (iz x3)]) (rest := []) dX0_run_232 zcX0_50 ziX0_parted zsX0_parted rfl rfl rfl rfl (Nat.le_of_ble_eq_true rfl) h (fun r22 m23 hr22 h => zV_ok (fun hm23 => ?_))
          replace h := h hr22 hm23
          exact zV_iret (pc := 235) rfl dX0_run_235 hr22 h
        · refine zV_lsw (pc := 100) (tgt := 236) (off := 136) dX0_run_100 (by decide) o16 (by rw [c17]; rfl) (by decide) ?_
          replace h := h.2.2.2.1 c17
          refine zV_aloadr_n (pc := 236) dX0_run_236 rfl 3 rfl ?_
          refine zV_aloadr_n (pc := 237) dX0_run_237 rfl 3 rfl ?_
          refine zV_getI (pc := 238) (kz := 2) dX0_run_238 zfX0_21 rfl rfl rfl ?_
          refine zV_iconst (pc := 241) dX0_run_241 ?_
          refine zV_iload_n (pc := 242) dX0_run_242 rfl 5 rfl ?_
          refine zV_iload (pc := 243) dX0_run_243 0 rfl ?_
          refine zV_callV (pc := 245) (mc := mX0_run) (As := [.int (iz (m15.1 94 2)), .int (iz 1), .int (iz x3), .int (iz v12)]) (rest := []) dX0_run_245 zcX0_36 ziX0_run zsX0_run rfl rfl rfl rfl (Nat.le_of_ble_eq_true rfl) h (fun r24 m25 hr24 h => zV_ok (fun hm25 => ?_))
          replace h := h hr24 hm25
          refine zV_aloadr_n (pc := 248) dX0_run_248 rfl 3 rfl ?_
          refine zV_getI (pc := 249) (kz := 3) dX0_run_249 zfX0_25 rfl rfl rfl ?_
          refine zV_ixor (pc := 252) dX0_run_252 ?_
          exact zV_iret (pc := 253) rfl dX0_run_253 (inR_zxor _ _) h
        · refine zV_lsw (pc := 100) (tgt := 254) (off := 154) dX0_run_100 (by decide) o16 (by rw [c17]; rfl) (by decide) ?_
          replace h := h.2.2.2.2.1 c17
          refine zV_aloadr_n (pc := 254) dX0_run_254 rfl 3 rfl ?_
          refine zV_iload (pc := 255) dX0_run_255 1 rfl ?_
          refine zV_iconst (pc := 257) dX0_run_257 ?_
          refine zV_iload_n (pc := 258) dX0_run_258 rfl 5 rfl ?_
          refine zV_iload (pc := 259) dX0_run_259 0 rfl ?_
          refine zV_callV (pc := 261) (mc := mX0_run) (As := [.int (iz v10), .int (iz 0), .int (iz x3), .int (iz v12)]) (rest := []) dX0_run_261 zcX0_36 ziX0_run zsX0_run rfl rfl rfl rfl (Nat.le_of_ble_eq_true rfl) h (fun r26 m27 hr26 h => zV_ok (fun hm27 => ?_))
          replace h := h hr26 hm27
          refine zV_iconst (pc := 264) dX0_run_264 ?_
          refine zV_isub (pc := 265) dX0_run_265 ?_
          obtain ⟨o28, h⟩ := h
          exact zV_iret (pc := 266) rfl dX0_run_266 o28 h
        · refine zV_lsw (pc := 100) (tgt := 267) (off := 167) dX0_run_100 (by decide) o16 (by rw [c17]; rfl) (by decide) ?_
          replace h := h.2.2.2.2.2.1 c17
          refine zV_aloadr_n (pc := 267) dX0_run_267 rfl 3 rfl ?_
          refine zV_iload (pc := 268) dX0_run_268 1 rfl ?_
          refine zV_iconst (pc := 270) dX0_run_270 ?_
          refine zV_iload_n (pc := 271) dX0_run_271 rfl 5 rfl ?_
          refine zV_iload (pc := 272) dX0_run_272 0 rfl ?_
          refine zV_callV (pc := 274) (mc := mX0_run) (As := [.int (iz v10), .int (iz 1), .int (iz x3), .int (iz v12)]) (rest := []) dX0_run_274 zcX0_36 ziX0_run zsX0_run rfl rfl rfl rfl (Nat.le_of_ble_eq_true rfl) h (fun r29 m30 hr29 h => zV_ok (fun hm30 => ?_))
          replace h := h hr29 hm30
          refine zV_aloadr_n (pc := 277) dX0_run_277 rfl 3 rfl ?_
          refine zV_aloadr_n (pc := 278) dX0_run_278 rfl 3 rfl ?_
          refine zV_getI (pc := 279) (kz := 2) dX0_run_279 zfX0_21 rfl rfl rfl ?_
          refine zV_iconst (pc := 282) dX0_run_282 ?_
          refine zV_iconst (pc := 283) dX0_run_283 ?_
          refine zV_iload (pc := 284) dX0_run_284 0 rfl ?_
          refine zV_callV (pc := 286) (mc := mX0_run) (As := [.int (iz (m30.1 94 2)), .int (iz 0), .int (iz 2), .int (iz v12)]) (rest := [.int (iz r29)]) dX0_run_286 zcX0_36 ziX0_run zsX0_run rfl rfl rfl rfl (Nat.le_of_ble_eq_true rfl) h (fun r31 m32 hr31 h => zV_ok (fun hm32 => ?_))
          replace h := h hr31 hm32
          refine zV_iadd (pc := 289) dX0_run_289 ?_
          obtain ⟨o33, h⟩ := h
          exact zV_iret (pc := 290) rfl dX0_run_290 o33 h
        · refine zV_lsw (pc := 100) (tgt := 291) (off := 191) dX0_run_100 (by decide) o16 (by rw [c17]; rfl) (by decide) ?_
          replace h := h.2.2.2.2.2.2.1 c17
          refine zV_aloadr_n (pc := 291) dX0_run_291 rfl 3 rfl ?_
          refine zV_iload (pc := 292) dX0_run_292 1 rfl ?_
          refine zV_iconst (pc := 294) dX0_run_294 ?_
          refine zV_iload_n (pc := 295) dX0_run_295 rfl 5 rfl ?_
          refine zV_iload (pc := 296) dX0_run_296 0 rfl ?_
          refine zV_callV (pc := 298) (mc := mX0_run) (As := [.int (iz v10), .int (iz 3), .int (iz x3), .int (iz v12)]) (rest := []) dX0_run_298 zcX0_36 ziX0_run zsX0_run rfl rfl rfl rfl (Nat.le_of_ble_eq_true rfl) h (fun r34 m35 hr34 h => zV_ok (fun hm35 => ?_))
          replace h := h hr34 hm35
          refine zV_iconst (pc := 301) dX0_run_301 ?_
          refine zV_imul (pc := 302) dX0_run_302 ?_
          obtain ⟨o36, h⟩ := h
          exact zV_iret (pc := 303) rfl dX0_run_303 o36 h
        · refine zV_lsw (pc := 100) (tgt := 304) (off := 204) dX0_run_100 (by decide) o16 (by rw [c17]; rfl) (by decide) ?_
          replace h := h.2.2.2.2.2.2.2.1 c17
          refine zV_aloadr_n (pc := 304) dX0_run_304 rfl 3 rfl ?_
          refine zV_iload (pc := 305) dX0_run_305 1 rfl ?_
          refine zV_iconst (pc := 307) dX0_run_307 ?_
          refine zV_iload_n (pc := 308) dX0_run_308 rfl 5 rfl ?_
          refine zV_iload (pc := 309) dX0_run_309 0 rfl ?_
          refine zV_callV (pc := 311) (mc := mX0_run) (As := [.int (iz v10), .int (iz 0), .int (iz x3), .int (iz v12)]) (rest := []) dX0_run_311 zcX0_36 ziX0_run zsX0_run rfl rfl rfl rfl (Nat.le_of_ble_eq_true rfl) h (fun r37 m38 hr37 h => zV_ok (fun hm38 => ?_))
          replace h := h hr37 hm38
          refine zV_aloadr_n (pc := 314) dX0_run_314 rfl 3 rfl ?_
          refine zV_getI (pc := 315) (kz := 4) dX0_run_315 zfX0_31 rfl rfl rfl ?_
          refine zV_ixor (pc := 318) dX0_run_318 ?_
          exact zV_iret (pc := 319) rfl dX0_run_319 (inR_zxor _ _) h
        · refine zV_lsw (pc := 100) (tgt := 320) (off := 220) dX0_run_100 (by decide) o16 (by rw [c17]; rfl) (by decide) ?_
          replace h := h.2.2.2.2.2.2.2.2.1 c17
          refine zV_aloadr_n (pc := 320) dX0_run_320 rfl 3 rfl ?_
          refine zV_iload (pc := 321) dX0_run_321 1 rfl ?_
          refine zV_iconst (pc := 323) dX0_run_323 ?_
          refine zV_iload_n (pc := 324) dX0_run_324 rfl 5 rfl ?_
          refine zV_iconst (pc := 325) dX0_run_325 ?_
          refine zV_isub (pc := 326) dX0_run_326 ?_
          refine zV_iload (pc := 327) dX0_run_327 0 rfl ?_
          refine zV_callV (pc := 329) (mc := mX0_run) (As := [.int (iz v10), .int (iz 2), .int (iz (x3 - 1)), .int (iz v12)]) (rest := []) dX0_run_329 zcX0_36 ziX0_run zsX0_run rfl rfl rfl rfl (Nat.le_of_ble_eq_true rfl) h (fun r39 m40 hr39 h => zV_ok (fun hm40 => ?_))
          replace h := h hr39 hm40
          exact zV_iret (pc := 332) rfl dX0_run_332 hr39 h
        · refine zV_lsw (pc := 100) (tgt := 333) (off := 233) dX0_run_100 (by decide) o16 (by rw [c17]; rfl) (by decide) ?_
          replace h := h.2.2.2.2.2.2.2.2.2.1 c17
          refine zV_iconst (pc := 333) dX0_run_333 ?_
          refine zV_aloadr_n (pc := 334) dX0_run_334 rfl 3 rfl ?_
          refine zV_iload (pc := 335) dX0_run_335 1 rfl ?_
          refine zV_iconst (pc := 337) dX0_run_337 ?_
          refine zV_iload_n (pc := 338) dX0_run_338 rfl 5 rfl ?_
          refine zV_iload (pc := 339) dX0_run_339 0 rfl ?_
          refine zV_callV (pc := 341) (mc := mX0_run) (As := [.int (iz v10), .int (iz 1), .int (iz x3), .int (iz v12)]) (rest := [.int (iz 0)]) dX0_run_341 zcX0_36 ziX0_run zsX0_run rfl rfl rfl rfl (Nat.le_of_ble_eq_true rfl) h (fun r41 m42 hr41 h => zV_ok (fun hm42 => ?_))
          replace h := h hr41 hm42
          refine zV_isub (pc := 344) dX0_run_344 ?_
          obtain ⟨o43, h⟩ := h
          exact zV_iret (pc := 345) rfl dX0_run_345 o43 h
        · refine zV_lsw (pc := 100) (tgt := 346) (off := 246) dX0_run_100 (by decide) o16 (by rw [c17]; rfl) (by decide) ?_
          replace h := h.2.2.2.2.2.2.2.2.2.2.1 c17
          refine zV_aloadr_n (pc := 346) dX0_run_346 rfl 3 rfl ?_
          refine zV_iload (pc := 347) dX0_run_347 1 rfl ?_
          refine zV_iconst (pc := 349) dX0_run_349 ?_
          refine zV_iload_n (pc := 350) dX0_run_350 rfl 5 rfl ?_
          refine zV_iload (pc := 351) dX0_run_351 0 rfl ?_
          refine zV_callV (pc := 353) (mc := mX0_run) (As := [.int (iz v10), .int (iz 3), .int (iz x3), .int (iz v12)]) (rest := []) dX0_run_353 zcX0_36 ziX0_run zsX0_run rfl rfl rfl rfl (Nat.le_of_ble_eq_true rfl) h (fun r44 m45 hr44 h => zV_ok (fun hm45 => ?_))
          replace h := h hr44 hm45
          refine zV_aloadr_n (pc := 356) dX0_run_356 rfl 3 rfl ?_
          refine zV_aloadr_n (pc := 357) dX0_run_357 rfl 3 rfl ?_
          refine zV_getI (pc := 358) (kz := 2) dX0_run_358 zfX0_21 rfl rfl rfl ?_
          refine zV_iconst (pc := 361) dX0_run_361 ?_
          refine zV_aloadr_n (pc := 362) dX0_run_362 rfl 3 rfl ?_
          refine zV_getI (pc := 363) (kz := 3) dX0_run_363 zfX0_25 rfl rfl rfl ?_
          refine zV_iconst (pc := 366) dX0_run_366 ?_
          refine zV_iadd (pc := 367) dX0_run_367 ?_
          refine zV_iload (pc := 368) dX0_run_368 0 rfl ?_
          refine zV_callV (pc := 370) (mc := mX0_run) (As := [.int (iz (m45.1 94 2)), .int (iz 2), .int (iz ((m45.1 94 3) + 1)), .int (iz v12)]) (rest := [.int (iz r44)]) dX0_run_370 zcX0_36 ziX0_run zsX0_run rfl rfl rfl rfl (Nat.le_of_ble_eq_true rfl) h (fun r46 m47 hr46 h => zV_ok (fun hm47 => ?_))
          replace h := h hr46 hm47
          refine zV_iadd (pc := 373) dX0_run_373 ?_
          obtain ⟨o48, h⟩ := h
          exact zV_iret (pc := 374) rfl dX0_run_374 o48 h
        · refine zV_lsw (pc := 100) (tgt := 375) (off := 275) dX0_run_100 (by decide) o16 (by rw [c17]; rfl) (by decide) ?_
          replace h := h.2.2.2.2.2.2.2.2.2.2.2.1 c17
          refine zV_aloadr_n (pc := 375) dX0_run_375 rfl 3 rfl ?_
          refine zV_iload (pc := 376) dX0_run_376 1 rfl ?_
          refine zV_iconst (pc := 378) dX0_run_378 ?_
          refine zV_iload_n (pc := 379) dX0_run_379 rfl 5 rfl ?_
          refine zV_iload (pc := 380) dX0_run_380 0 rfl ?_
          refine zV_callV (pc := 382) (mc := mX0_run) (As := [.int (iz v10), .int (iz 0), .int (iz x3), .int (iz v12)]) (rest := []) dX0_run_382 zcX0_36 ziX0_run zsX0_run rfl rfl rfl rfl (Nat.le_of_ble_eq_true rfl) h (fun r49 m50 hr49 h => zV_ok (fun hm50 => ?_))
          replace h := h hr49 hm50
          refine zV_bipush (pc := 385) dX0_run_385 (by decide) ?_
          refine zV_imul (pc := 387) dX0_run_387 ?_
          obtain ⟨o51, h⟩ := h
          exact zV_iret (pc := 388) rfl dX0_run_388 o51 h
        · replace h := h.2.2.2.2.2.2.2.2.2.2.2.2 c17
          obtain ⟨q0, q1, q2, q3, q4, q5, q6, q7, q8, q9, q10, q11⟩ := c17
          refine zV_lsw (pc := 100) (tgt := 389) (off := 289) dX0_run_100 (by decide) o16 (by simp [Op.lookupswitch.offset, Ne.symm q0, Ne.symm q1, Ne.symm q2, Ne.symm q3, Ne.symm q4, Ne.symm q5, Ne.symm q6, Ne.symm q7, Ne.symm q8, Ne.symm q9, Ne.symm q10, Ne.symm q11]) (by decide) ?_
          refine zV_iconst (pc := 389) dX0_run_389 ?_
          exact zV_iret (pc := 390) rfl dX0_run_390 (inRd rfl) h
      · skip
        replace h := h.2 c3
        refine zV_iconst (pc := 64) dX0_run_64 ?_
        exact zV_iret (pc := 65) rfl dX0_run_65 (inRd rfl) h

set_option maxRecDepth 100000 in
set_option maxHeartbeats 4000000 in
theorem vc_X0_parted_0 {K : zCx} {d : Nat} (x1 : Int) (m0 : zM) {Q : Int → zM → Prop} (hx1 : inR x1) (h : zok m0 → ∀ v1 : Int, v1 = ((m0.1 94 4) - (m0.1 94 3)) → (inR v1 ∧ ((v1 = 0 → ∀ m11 : zM, m11 = sI m0 94 5 1 → zok m11 → ((v1 = 0 → Q 0 m11) ∧ (¬ (v1 = 0) → v1 ≠ 0 ∧ ¬ (x1 = -2147483648 ∧ v1 = -1) ∧ (inR (Int.tdiv x1 v1) ∧ (Q (Int.tdiv x1 v1) m11))))) ∧ (¬ (v1 = 0) → ∀ m5 : zM, m5 = sI m0 94 5 0 → zok m5 → ((v1 = 0 → Q 0 m5) ∧ (¬ (v1 = 0) → v1 ≠ 0 ∧ ¬ (x1 = -2147483648 ∧ v1 = -1) ∧ (inR (Int.tdiv x1 v1) ∧ (Q (Int.tdiv x1 v1) m5)))))))) : zV K mX0_parted (d + 1) 0 [(0, rr K 94), (1, .int (iz x1))] [] m0 Q := by
  refine zV_ok (fun hm0 => ?_)
  replace h := h hm0
  refine zV_aloadr_n (pc := 0) dX0_parted_0 rfl 0 rfl ?_
  refine zV_getI (pc := 1) (kz := 4) dX0_parted_1 zfX0_31 rfl rfl rfl ?_
  refine zV_aloadr_n (pc := 4) dX0_parted_4 rfl 0 rfl ?_
  refine zV_getI (pc := 5) (kz := 3) dX0_parted_5 zfX0_25 rfl rfl rfl ?_
  refine zV_isub (pc := 8) dX0_parted_8 ?_
  refine zV_name (fun v1 e2 => ?_)
  replace h := h v1 e2
  refine zV_istore_n (pc := 9) (loc' := [(2, .int (iz v1)), (0, rr K 94), (1, .int (iz x1))]) dX0_parted_9 rfl (by decide) rfl ?_
  refine zV_aloadr_n (pc := 10) dX0_parted_10 rfl 1 rfl ?_
  refine zV_iload_n (pc := 11) dX0_parted_11 rfl 0 rfl ?_
  obtain ⟨o3, h⟩ := h
  refine zV_if_ne (pc := 12) (tgt := 19) dX0_parted_12 (by decide) o3 (fun c4 => ?_) (fun c4 => ?_)
  · skip
    replace h := h.2 c4
    refine zV_iconst (pc := 19) dX0_parted_19 ?_
    refine zV_putI (pc := 20) (kz := 5) dX0_parted_20 zpX0_32 rfl rfl rfl (z01 (Or.inl rfl)).1 (z01 (Or.inl rfl)).2.1 (z01 (Or.inl rfl)).2.2 ?_
    refine zV_mem (fun m5 e6 => zV_ok (fun hm5 => ?_))
    replace h := h m5 e6 hm5
    refine zV_iload_n (pc := 23) dX0_parted_23 rfl 0 rfl ?_
    refine zV_if_ne (pc := 24) (tgt := 31) dX0_parted_24 (by decide) o3 (fun c7 => ?_) (fun c7 => ?_)
    · skip
      replace h := h.2 c7
      refine zV_iload_n (pc := 31) dX0_parted_31 rfl 2 rfl ?_
      refine zV_iload_n (pc := 32) dX0_parted_32 rfl 0 rfl ?_
      obtain ⟨o8, o9, h⟩ := h
      refine zV_idiv (pc := 33) dX0_parted_33 hx1 o3 o8 o9 ?_
      obtain ⟨o10, h⟩ := h
      exact zV_iret (pc := 34) rfl dX0_parted_34 o10 h
    · replace c7 := Classical.not_not.mp c7
      replace h := h.1 c7
      refine zV_iconst (pc := 27) dX0_parted_27 ?_
      refine zV_goto (pc := 28) (tgt := 34) dX0_parted_28 (by decide) ?_
      exact zV_iret (pc := 34) rfl dX0_parted_34 (inRd rfl) h
  · replace c4 := Classical.not_not.mp c4
    replace h := h.1 c4
    refine zV_iconst (pc := 15) dX0_parted_15 ?_
    refine zV_goto (pc := 16) (tgt := 20) dX0_parted_16 (by decide) ?_
    refine zV_putI (pc := 20) (kz := 5) dX0_parted_20 zpX0_32 rfl rfl rfl (z01 (Or.inr rfl)).1 (z01 (Or.inr rfl)).2.1 (z01 (Or.inr rfl)).2.2 ?_
    refine zV_mem (fun m11 e12 => zV_ok (fun hm11 => ?_))
    replace h := h m11 e12 hm11
    refine zV_iload_n (pc := 23) dX0_parted_23 rfl 0 rfl ?_
    refine zV_if_ne (pc := 24) (tgt := 31) dX0_parted_24 (by decide) o3 (fun c13 => ?_) (fun c13 => ?_)
    · skip
      replace h := h.2 c13
      refine zV_iload_n (pc := 31) dX0_parted_31 rfl 2 rfl ?_
      refine zV_iload_n (pc := 32) dX0_parted_32 rfl 0 rfl ?_
      obtain ⟨o14, o15, h⟩ := h
      refine zV_idiv (pc := 33) dX0_parted_33 hx1 o3 o14 o15 ?_
      obtain ⟨o16, h⟩ := h
      exact zV_iret (pc := 34) rfl dX0_parted_34 o16 h
    · replace c13 := Classical.not_not.mp c13
      replace h := h.1 c13
      refine zV_iconst (pc := 27) dX0_parted_27 ?_
      refine zV_goto (pc := 28) (tgt := 34) dX0_parted_28 (by decide) ?_
      exact zV_iret (pc := 34) rfl dX0_parted_34 (inRd rfl) h

set_option maxRecDepth 100000 in
set_option maxHeartbeats 4000000 in
theorem vc_X0_note_0 {K : zCx} {d : Nat} (x1 : Int) (m0 : zM) {Q : Int → zM → Prop} (hx1 : inR x1) (h : zok m0 → ((m0.1 94 1) < 30 → 0 ≤ (m0.1 94 1) ∧ (m0.1 94 1) < 30 ∧ (∀ m4 : zM, m4 = sI m0 95 (m0.1 94 1) x1 → zok m4 → (inR ((m4.1 94 1) + 1) ∧ (∀ m7 : zM, m7 = sI m4 94 1 ((m4.1 94 1) + 1) → zok m7 → (Q 0 m7))))) ∧ (¬ ((m0.1 94 1) < 30) → Q 0 m0)) : zV K mX0_note (d + 1) 0 [(0, rr K 94), (1, .int (iz x1))] [] m0 Q := by
  refine zV_ok (fun hm0 => ?_)
  replace h := h hm0
  refine zV_aloadr_n (pc := 0) dX0_note_0 rfl 0 rfl ?_
  refine zV_getI (pc := 1) (kz := 1) dX0_note_1 zfX0_54 rfl rfl rfl ?_
  refine zV_bipush (pc := 4) dX0_note_4 (by decide) ?_
  refine zV_icmp_lt (pc := 6) (tgt := 10) dX0_note_6 (by decide) (hm0 _ _) (inRd rfl) (fun c1 => ?_) (fun c1 => ?_)
  · skip
    replace h := h.1 c1
    refine zV_aloadr_n (pc := 10) dX0_note_10 rfl 0 rfl ?_
    refine zV_getR (pc := 11) (b := 95) dX0_note_11 zfX0_9 rfl rfl rfl ?_
    refine zV_aloadr_n (pc := 14) dX0_note_14 rfl 0 rfl ?_
    refine zV_getI (pc := 15) (kz := 1) dX0_note_15 zfX0_54 rfl rfl rfl ?_
    refine zV_iload_n (pc := 18) dX0_note_18 rfl 1 rfl ?_
    obtain ⟨o2, o3, h⟩ := h
    refine zV_iast (pc := 19) dX0_note_19 rfl o2 o3 (inR_ix o2 o3 rfl) hx1 ?_
    refine zV_mem (fun m4 e5 => zV_ok (fun hm4 => ?_))
    replace h := h m4 e5 hm4
    refine zV_aloadr_n (pc := 20) dX0_note_20 rfl 0 rfl ?_
    refine zV_dup (pc := 21) dX0_note_21 rfl ?_
    refine zV_getI (pc := 22) (kz := 1) dX0_note_22 zfX0_54 rfl rfl rfl ?_
    refine zV_iconst (pc := 25) dX0_note_25 ?_
    refine zV_iadd (pc := 26) dX0_note_26 ?_
    obtain ⟨o6, h⟩ := h
    refine zV_putI (pc := 27) (kz := 1) dX0_note_27 zpX0_54 rfl rfl rfl o6 rfl rfl ?_
    refine zV_mem (fun m7 e8 => zV_ok (fun hm7 => ?_))
    replace h := h m7 e8 hm7
    exact zV_vret (pc := 30) rfl dX0_note_30 h
  · skip
    replace h := h.2 c1
    exact zV_vret (pc := 9) rfl dX0_note_9 h

set_option maxRecDepth 100000 in
set_option maxHeartbeats 4000000 in
theorem vc_X1_setUp_0 {K : zCx} {d : Nat} (pl1 : Int) (x2 : Int) (x3 : Int) (m0 : zM) {Q : Int → zM → Prop} (hpl1 : zPl pl1) (hx2 : inR x2) (hx3 : inR x3) (h : zok m0 → ∀ m1 : zM, m1 = sI m0 39 11 (m0.1 pl1 6) → zok m1 → (∀ m3 : zM, m3 = sT m1 (pl1 + 2) → zok m3 → (∀ m5 : zM, m5 = sI m3 40 0 0 → zok m5 → (∀ m7 : zM, m7 = sI m5 40 1 x3 → zok m7 → (zCt K (d + 3) mJ7_fill_53178 [rr K 42, .int (iz 4)] m7 (fun r9 m10 => inR r9 → zok m10 → zV K mX1_setUp (d + 4) 41 [(0, rr K 39), (1, rr K pl1), (2, .int (iz x2)), (4, .int (iz 0))] [] m10 Q)))))) : zV K mX1_setUp (d + 4) 0 [(0, rr K 39), (1, rr K pl1), (2, .int (iz x2)), (3, .int (iz x3))] [] m0 Q := by
  refine zV_ok (fun hm0 => ?_)
  replace h := h hm0
  refine zV_aloadr_n (pc := 0) dX1_setUp_0 rfl 0 rfl ?_
  refine zV_aloadr_n (pc := 1) dX1_setUp_1 rfl 1 rfl ?_
  refine zV_getI (pc := 2) (kz := 6) dX1_setUp_2 zfX1_49 (zPl_s0 hpl1) rfl rfl ?_
  refine zV_putI (pc := 5) (kz := 11) dX1_setUp_5 zpX1_55 rfl rfl rfl (hm0 _ _) rfl rfl ?_
  refine zV_mem (fun m1 e2 => zV_ok (fun hm1 => ?_))
  replace h := h m1 e2 hm1
  refine zV_aloadr_n (pc := 8) dX1_setUp_8 rfl 0 rfl ?_
  refine zV_aloadr_n (pc := 9) dX1_setUp_9 rfl 1 rfl ?_
  refine zV_getR (pc := 10) dX1_setUp_10 zfX1_58 (zPl_s0 hpl1) rfl (zPl_r1 hpl1) ?_
  refine zV_putT (pc := 13) dX1_setUp_13 zpX1_46 rfl ?_
  refine zV_mem (fun m3 e4 => zV_ok (fun hm3 => ?_))
  replace h := h m3 e4 hm3
  refine zV_aloadr_n (pc := 16) dX1_setUp_16 rfl 0 rfl ?_
  refine zV_getR (pc := 17) (b := 40) dX1_setUp_17 zfX1_9 rfl rfl rfl ?_
  refine zV_iconst (pc := 20) dX1_setUp_20 ?_
  refine zV_iconst (pc := 21) dX1_setUp_21 ?_
  refine zV_iast (pc := 22) dX1_setUp_22 rfl (by decide) (by decide) (inRd rfl) (inRd rfl) ?_
  refine zV_mem (fun m5 e6 => zV_ok (fun hm5 => ?_))
  replace h := h m5 e6 hm5
  refine zV_aloadr_n (pc := 23) dX1_setUp_23 rfl 0 rfl ?_
  refine zV_getR (pc := 24) (b := 40) dX1_setUp_24 zfX1_9 rfl rfl rfl ?_
  refine zV_iconst (pc := 27) dX1_setUp_27 ?_
  refine zV_iload_n (pc := 28) dX1_setUp_28 rfl 3 rfl ?_
  refine zV_iast (pc := 29) dX1_setUp_29 rfl (by decide) (by decide) (inRd rfl) hx3 ?_
  refine zV_mem (fun m7 e8 => zV_ok (fun hm7 => ?_))
  replace h := h m7 e8 hm7
  refine zV_aloadr_n (pc := 30) dX1_setUp_30 rfl 0 rfl ?_
  refine zV_getR (pc := 31) (b := 42) dX1_setUp_31 zfX1_18 rfl rfl rfl ?_
  refine zV_iconst (pc := 34) dX1_setUp_34 ?_
  refine zV_callS (pc := 35) (mc := mJ7_fill_53178) (As := [rr K 42, .int (iz 4)]) (rest := []) dX1_setUp_35 zcX1_59 ztJ7_fill_53178 rfl rfl (Nat.le_of_ble_eq_true rfl) h (fun r9 m10 hr9 h => zV_ok (fun hm10 => ?_))
  replace h := h hr9 hm10
  refine zV_iconst (pc := 38) dX1_setUp_38 ?_
  refine zV_istore (pc := 39) (loc' := [(4, .int (iz 0)), (0, rr K 39), (1, rr K pl1), (2, .int (iz x2)), (3, .int (iz x3))]) dX1_setUp_39 (by decide) rfl ?_
  exact zV_sub [1, 2, 3, 0] rfl h
set_option maxRecDepth 100000 in
set_option maxHeartbeats 4000000 in
theorem vc_X1_setUp_41 {K : zCx} {d : Nat} (x2 : Int) (x4 : Int) (pl1 : Int) (m0 : zM) {Q : Int → zM → Prop} (hx2 : inR x2) (hx4 : inR x4) (hpl1 : zPl pl1) (h : zok m0 → ((m0.1 39 11) ≤ x4 → Q 0 m0) ∧ (¬ ((m0.1 39 11) ≤ x4) → 0 ≤ x4 ∧ x4 < 10 ∧ (∀ m4 : zM, m4 = sI m0 44 x4 (m0.1 (pl1 + 9 + x4) 1) → zok m4 → (∀ m6 : zM, m6 = sI m4 45 x4 (m4.1 (pl1 + 9 + x4) 2) → zok m6 → (∀ m10 : zM, m10 = sI m6 43 x4 (if m6.1 (pl1 + 9 + x4) 0 = 4 ∨ m6.1 (pl1 + 9 + x4) 4 = 1 then 0 else if m6.1 (pl1 + 9 + x4) 4 = 2 then 4 else if m6.1 (pl1 + 9 + x4) 0 = 5 then 3 else if m6.1 (pl1 + 9 + x4) 0 = 1 then 1 else 2) → zok m10 → (∀ m12 : zM, m12 = sI m10 49 x4 (m10.1 (pl1 + 9 + x4) 3) → zok m12 → (((m12.1 43 x4) = 1 → zV K mX1_setUp (d + 4) 129 [(0, rr K 39), (1, rr K pl1), (2, .int (iz x2)), (4, .int (iz x4)), (5, rr K (pl1 + 9 + x4))] [] m12 Q) ∧ (¬ ((m12.1 43 x4) = 1) → ((m12.1 43 x4) = 2 → zV K mX1_setUp (d + 4) 129 [(0, rr K 39), (1, rr K pl1), (2, .int (iz x2)), (4, .int (iz x4)), (5, rr K (pl1 + 9 + x4))] [] m12 Q) ∧ (¬ ((m12.1 43 x4) = 2) → zV K mX1_setUp (d + 4) 146 [(0, rr K 39), (1, rr K pl1), (2, .int (iz x2)), (4, .int (iz x4)), (5, rr K (pl1 + 9 + x4))] [] m12 Q))))))))) : zV K mX1_setUp (d + 4) 41 [(0, rr K 39), (1, rr K pl1), (2, .int (iz x2)), (4, .int (iz x4))] [] m0 Q := by
  refine zV_ok (fun hm0 => ?_)
  replace h := h hm0
  refine zV_iload (pc := 41) dX1_setUp_41 3 rfl ?_
  refine zV_aloadr_n (pc := 43) dX1_setUp_43 rfl 0 rfl ?_
  refine zV_getI (pc := 44) (kz := 11) dX1_setUp_44 zfX1_55 rfl rfl rfl ?_
  refine zV_icmp_ge (pc := 47) (tgt := 205) dX1_setUp_47 (by decide) hx4 (hm0 _ _) (fun c1 => ?_) (fun c1 => ?_)
  · skip
    replace h := h.1 c1
    exact zV_vret (pc := 205) rfl dX1_setUp_205 h
  · skip
    replace h := h.2 c1
    refine zV_aloadr_n (pc := 50) dX1_setUp_50 rfl 1 rfl ?_
    refine zV_getR (pc := 51) dX1_setUp_51 zfX1_65 (zPl_s0 hpl1) rfl (zPl_r0 hpl1) ?_
    refine zV_iload (pc := 54) dX1_setUp_54 3 rfl ?_
    obtain ⟨o2, o3, h⟩ := h
    refine zV_aald (pc := 56) dX1_setUp_56 (zPl_s1 hpl1) o2 o3 (inR_ix o2 o3 rfl) (zPl_p hpl1 o2 o3) ?_
    refine zV_astorer (pc := 57) (loc' := [(5, rr K (pl1 + 9 + x4)), (0, rr K 39), (1, rr K pl1), (2, .int (iz x2)), (4, .int (iz x4))]) dX1_setUp_57 (by decide) rfl ?_
    refine zV_aloadr_n (pc := 59) dX1_setUp_59 rfl 1 rfl ?_
    refine zV_getR (pc := 60) (b := 44) dX1_setUp_60 zfX1_24 rfl rfl rfl ?_
    refine zV_iload (pc := 63) dX1_setUp_63 4 rfl ?_
    refine zV_aloadr (pc := 65) dX1_setUp_65 0 rfl ?_
    refine zV_getI (pc := 67) (kz := 1) dX1_setUp_67 zfX1_69 (zPl_sp hpl1 o2 o3) rfl rfl ?_
    refine zV_iast (pc := 70) dX1_setUp_70 rfl o2 o3 (inR_ix o2 o3 rfl) (hm0 _ _) ?_
    refine zV_mem (fun m4 e5 => zV_ok (fun hm4 => ?_))
    replace h := h m4 e5 hm4
    refine zV_aloadr_n (pc := 71) dX1_setUp_71 rfl 1 rfl ?_
    refine zV_getR (pc := 72) (b := 45) dX1_setUp_72 zfX1_27 rfl rfl rfl ?_
    refine zV_iload (pc := 75) dX1_setUp_75 4 rfl ?_
    refine zV_aloadr (pc := 77) dX1_setUp_77 0 rfl ?_
    refine zV_getI (pc := 79) (kz := 2) dX1_setUp_79 zfX1_73 (zPl_sp hpl1 o2 o3) rfl rfl ?_
    refine zV_iast (pc := 82) dX1_setUp_82 rfl o2 o3 (inR_ix o2 o3 rfl) (hm4 _ _) ?_
    refine zV_mem (fun m6 e7 => zV_ok (fun hm6 => ?_))
    replace h := h m6 e7 hm6
    refine zV_aloadr_n (pc := 83) dX1_setUp_83 rfl 1 rfl ?_
    refine zV_getR (pc := 84) (b := 43) dX1_setUp_84 zfX1_21 rfl rfl rfl ?_
    refine zV_iload (pc := 87) dX1_setUp_87 4 rfl ?_
    refine zV_aloadr (pc := 89) dX1_setUp_89 0 rfl ?_
    refine zV_callSf (pc := 91) (mc := mX1_modeOf) (As := [rr K (pl1 + 9 + x4)]) (rest := [.int (iz x4), rr K 43]) dX1_setUp_91 zcX1_75 ztX1_modeOf rfl rfl (Nat.le_of_ble_eq_true rfl) (c_X1_modeOf (zPl_sp hpl1 o2 o3) hm6) (fun hr8 => ?_)
    refine zV_iast (pc := 94) dX1_setUp_94 rfl o2 o3 (inR_ix o2 o3 rfl) hr8 ?_
    refine zV_mem (fun m10 e11 => zV_ok (fun hm10 => ?_))
    replace h := h m10 e11 hm10
    refine zV_aloadr_n (pc := 95) dX1_setUp_95 rfl 1 rfl ?_
    refine zV_getR (pc := 96) (b := 49) dX1_setUp_96 zfX1_39 rfl rfl rfl ?_
    refine zV_iload (pc := 99) dX1_setUp_99 4 rfl ?_
    refine zV_aloadr (pc := 101) dX1_setUp_101 0 rfl ?_
    refine zV_getI (pc := 103) (kz := 3) dX1_setUp_103 zfX1_79 (zPl_sp hpl1 o2 o3) rfl rfl ?_
    refine zV_iast (pc := 106) dX1_setUp_106 rfl o2 o3 (inR_ix o2 o3 rfl) (hm10 _ _) ?_
    refine zV_mem (fun m12 e13 => zV_ok (fun hm12 => ?_))
    replace h := h m12 e13 hm12
    refine zV_aloadr_n (pc := 107) dX1_setUp_107 rfl 1 rfl ?_
    refine zV_getR (pc := 108) (b := 43) dX1_setUp_108 zfX1_21 rfl rfl rfl ?_
    refine zV_iload (pc := 111) dX1_setUp_111 4 rfl ?_
    refine zV_iald (pc := 113) dX1_setUp_113 rfl o2 o3 (inR_ix o2 o3 rfl) ?_
    refine zV_iconst (pc := 114) dX1_setUp_114 ?_
    refine zV_icmp_eq (pc := 115) (tgt := 129) dX1_setUp_115 (by decide) (hm12 _ _) (inRd rfl) (fun c14 => ?_) (fun c14 => ?_)
    · skip
      replace h := h.1 c14
      exact zV_sub [1, 2, 3, 4, 0] rfl h
    · skip
      replace h := h.2 c14
      refine zV_aloadr_n (pc := 118) dX1_setUp_118 rfl 1 rfl ?_
      refine zV_getR (pc := 119) (b := 43) dX1_setUp_119 zfX1_21 rfl rfl rfl ?_
      refine zV_iload (pc := 122) dX1_setUp_122 4 rfl ?_
      refine zV_iald (pc := 124) dX1_setUp_124 rfl o2 o3 (inR_ix o2 o3 rfl) ?_
      refine zV_iconst (pc := 125) dX1_setUp_125 ?_
      refine zV_icmp_ne (pc := 126) (tgt := 146) dX1_setUp_126 (by decide) (hm12 _ _) (inRd rfl) (fun c15 => ?_) (fun c15 => ?_)
      · skip
        replace h := h.2 c15
        exact zV_sub [1, 2, 3, 4, 0] rfl h
      · replace c15 := Classical.not_not.mp c15
        replace h := h.1 c15
        exact zV_sub [1, 2, 3, 4, 0] rfl h
set_option maxRecDepth 100000 in
set_option maxHeartbeats 4000000 in
theorem vc_X1_setUp_129 {K : zCx} {d : Nat} (x2 : Int) (x4 : Int) (pl1 : Int) (m0 : zM) {Q : Int → zM → Prop} (hx2 : inR x2) (hx4 : inR x4) (hpl1 : zPl pl1) (hy0 : 0 ≤ x4) (hy1 : x4 < 10) (h : zok m0 → zCt K (d + 3) mX1_setUpLaw [rr K 39, rr K pl1, .int (iz x4), .int (iz ((Int.tdiv x2 3) - 1)), .int (iz ((Int.tmod x2 3) - 1))] m0 (fun r1 m2 => inR r1 → zok m2 → zV K mX1_setUp (d + 4) 146 [(0, rr K 39), (1, rr K pl1), (2, .int (iz x2)), (4, .int (iz x4)), (5, rr K (pl1 + 9 + x4))] [] m2 Q)) : zV K mX1_setUp (d + 4) 129 [(0, rr K 39), (1, rr K pl1), (2, .int (iz x2)), (4, .int (iz x4)), (5, rr K (pl1 + 9 + x4))] [] m0 Q := by
  refine zV_ok (fun hm0 => ?_)
  replace h := h hm0
  refine zV_aloadr_n (pc := 129) dX1_setUp_129 rfl 0 rfl ?_
  refine zV_aloadr_n (pc := 130) dX1_setUp_130 rfl 1 rfl ?_
  refine zV_iload (pc := 131) dX1_setUp_131 3 rfl ?_
  refine zV_iload_n (pc := 133) dX1_setUp_133 rfl 2 rfl ?_
  refine zV_iconst (pc := 134) dX1_setUp_134 ?_
  refine zV_idiv (pc := 135) dX1_setUp_135 hx2 (inRd rfl) (by decide) (fun q => absurd q.2 (by decide)) ?_
  refine zV_iconst (pc := 136) dX1_setUp_136 ?_
  refine zV_isub (pc := 137) dX1_setUp_137 ?_
  refine zV_iload_n (pc := 138) dX1_setUp_138 rfl 2 rfl ?_
  refine zV_iconst (pc := 139) dX1_setUp_139 ?_
  refine zV_irem (pc := 140) dX1_setUp_140 hx2 (inRd rfl) (by decide) (fun q => absurd q.2 (by decide)) ?_
  refine zV_iconst (pc := 141) dX1_setUp_141 ?_
  refine zV_isub (pc := 142) dX1_setUp_142 ?_
  refine zV_callV (pc := 143) (mc := mX1_setUpLaw) (As := [rr K pl1, .int (iz x4), .int (iz ((Int.tdiv x2 3) - 1)), .int (iz ((Int.tmod x2 3) - 1))]) (rest := []) dX1_setUp_143 zcX1_82 ziX1_setUpLaw zsX1_setUpLaw rfl rfl rfl rfl (Nat.le_of_ble_eq_true rfl) h (fun r1 m2 hr1 h => zV_ok (fun hm2 => ?_))
  replace h := h hr1 hm2
  exact zV_sub [0, 1, 2, 3, 4] rfl h
set_option maxRecDepth 100000 in
set_option maxHeartbeats 4000000 in
theorem vc_X1_setUp_146 {K : zCx} {d : Nat} (x2 : Int) (x4 : Int) (pl1 : Int) (m0 : zM) {Q : Int → zM → Prop} (hx2 : inR x2) (hx4 : inR x4) (hpl1 : zPl pl1) (hy0 : 0 ≤ x4) (hy1 : x4 < 10) (h : zok m0 → ((m0.1 (pl1 + 9 + x4) 0) = 4 → ((m0.1 (pl1 + 9 + x4) 4) = 0 → 0 ≤ (m0.1 (pl1 + 9 + x4) 1) ∧ (m0.1 (pl1 + 9 + x4) 1) < 5 ∧ (inR ((m0.1 42 (m0.1 (pl1 + 9 + x4) 1)) + (m0.1 (pl1 + 9 + x4) 3)) ∧ (∀ m6 : zM, m6 = sI m0 42 (m0.1 (pl1 + 9 + x4) 1) ((m0.1 42 (m0.1 (pl1 + 9 + x4) 1)) + (m0.1 (pl1 + 9 + x4) 3)) → zok m6 → (0 ≤ (m6.1 (pl1 + 9 + x4) 2) ∧ (m6.1 (pl1 + 9 + x4) 2) < 5 ∧ (inR ((m6.1 42 (m6.1 (pl1 + 9 + x4) 2)) + (m6.1 (pl1 + 9 + x4) 3)) ∧ (∀ m11 : zM, m11 = sI m6 42 (m6.1 (pl1 + 9 + x4) 2) ((m6.1 42 (m6.1 (pl1 + 9 + x4) 2)) + (m6.1 (pl1 + 9 + x4) 3)) → zok m11 → (zV K mX1_setUp (d + 4) 41 [(0, rr K 39), (1, rr K pl1), (2, .int (iz x2)), (4, .int (iz (x4 + 1)))] [] m11 Q))))))) ∧ (¬ ((m0.1 (pl1 + 9 + x4) 4) = 0) → zV K mX1_setUp (d + 4) 41 [(0, rr K 39), (1, rr K pl1), (2, .int (iz x2)), (4, .int (iz (x4 + 1)))] [] m0 Q)) ∧ (¬ ((m0.1 (pl1 + 9 + x4) 0) = 4) → zV K mX1_setUp (d + 4) 41 [(0, rr K 39), (1, rr K pl1), (2, .int (iz x2)), (4, .int (iz (x4 + 1)))] [] m0 Q)) : zV K mX1_setUp (d + 4) 146 [(0, rr K 39), (1, rr K pl1), (2, .int (iz x2)), (4, .int (iz x4)), (5, rr K (pl1 + 9 + x4))] [] m0 Q := by
  refine zV_ok (fun hm0 => ?_)
  replace h := h hm0
  refine zV_aloadr (pc := 146) dX1_setUp_146 4 rfl ?_
  refine zV_getI (pc := 148) (kz := 0) dX1_setUp_148 zfX1_86 (zPl_sp hpl1 hy0 hy1) rfl rfl ?_
  refine zV_iconst (pc := 151) dX1_setUp_151 ?_
  refine zV_icmp_ne (pc := 152) (tgt := 199) dX1_setUp_152 (by decide) (hm0 _ _) (inRd rfl) (fun c1 => ?_) (fun c1 => ?_)
  · skip
    replace h := h.2 c1
    refine zV_iinc (pc := 199) (loc' := [(4, .int (iz (x4 + 1))), (0, rr K 39), (1, rr K pl1), (2, .int (iz x2)), (5, rr K (pl1 + 9 + x4))]) dX1_setUp_199 3 rfl (by decide) rfl ?_
    refine zV_goto (pc := 202) (tgt := 41) dX1_setUp_202 (by decide) ?_
    exact zV_sub [1, 2, 3, 0] rfl h
  · replace c1 := Classical.not_not.mp c1
    replace h := h.1 c1
    refine zV_aloadr (pc := 155) dX1_setUp_155 4 rfl ?_
    refine zV_getI (pc := 157) (kz := 4) dX1_setUp_157 zfX1_89 (zPl_sp hpl1 hy0 hy1) rfl rfl ?_
    refine zV_if_ne (pc := 160) (tgt := 199) dX1_setUp_160 (by decide) (hm0 _ _) (fun c2 => ?_) (fun c2 => ?_)
    · skip
      replace h := h.2 c2
      refine zV_iinc (pc := 199) (loc' := [(4, .int (iz (x4 + 1))), (0, rr K 39), (1, rr K pl1), (2, .int (iz x2)), (5, rr K (pl1 + 9 + x4))]) dX1_setUp_199 3 rfl (by decide) rfl ?_
      refine zV_goto (pc := 202) (tgt := 41) dX1_setUp_202 (by decide) ?_
      exact zV_sub [1, 2, 3, 0] rfl h
    · replace c2 := Classical.not_not.mp c2
      replace h := h.1 c2
      refine zV_aloadr_n (pc := 163) dX1_setUp_163 rfl 0 rfl ?_
      refine zV_getR (pc := 164) (b := 42) dX1_setUp_164 zfX1_18 rfl rfl rfl ?_
      refine zV_aloadr (pc := 167) dX1_setUp_167 4 rfl ?_
      refine zV_getI (pc := 169) (kz := 1) dX1_setUp_169 zfX1_69 (zPl_sp hpl1 hy0 hy1) rfl rfl ?_
      refine zV_dup2 (pc := 172) dX1_setUp_172 rfl rfl ?_
      obtain ⟨o3, o4, h⟩ := h
      refine zV_iald (pc := 173) dX1_setUp_173 rfl o3 o4 (inR_ix o3 o4 rfl) ?_
      refine zV_aloadr (pc := 174) dX1_setUp_174 4 rfl ?_
      refine zV_getI (pc := 176) (kz := 3) dX1_setUp_176 zfX1_79 (zPl_sp hpl1 hy0 hy1) rfl rfl ?_
      refine zV_iadd (pc := 179) dX1_setUp_179 ?_
      obtain ⟨o5, h⟩ := h
      refine zV_iast (pc := 180) dX1_setUp_180 rfl o3 o4 (inR_ix o3 o4 rfl) o5 ?_
      refine zV_mem (fun m6 e7 => zV_ok (fun hm6 => ?_))
      replace h := h m6 e7 hm6
      refine zV_aloadr_n (pc := 181) dX1_setUp_181 rfl 0 rfl ?_
      refine zV_getR (pc := 182) (b := 42) dX1_setUp_182 zfX1_18 rfl rfl rfl ?_
      refine zV_aloadr (pc := 185) dX1_setUp_185 4 rfl ?_
      refine zV_getI (pc := 187) (kz := 2) dX1_setUp_187 zfX1_73 (zPl_sp hpl1 hy0 hy1) rfl rfl ?_
      refine zV_dup2 (pc := 190) dX1_setUp_190 rfl rfl ?_
      obtain ⟨o8, o9, h⟩ := h
      refine zV_iald (pc := 191) dX1_setUp_191 rfl o8 o9 (inR_ix o8 o9 rfl) ?_
      refine zV_aloadr (pc := 192) dX1_setUp_192 4 rfl ?_
      refine zV_getI (pc := 194) (kz := 3) dX1_setUp_194 zfX1_79 (zPl_sp hpl1 hy0 hy1) rfl rfl ?_
      refine zV_iadd (pc := 197) dX1_setUp_197 ?_
      obtain ⟨o10, h⟩ := h
      refine zV_iast (pc := 198) dX1_setUp_198 rfl o8 o9 (inR_ix o8 o9 rfl) o10 ?_
      refine zV_mem (fun m11 e12 => zV_ok (fun hm11 => ?_))
      replace h := h m11 e12 hm11
      refine zV_iinc (pc := 199) (loc' := [(4, .int (iz (x4 + 1))), (0, rr K 39), (1, rr K pl1), (2, .int (iz x2)), (5, rr K (pl1 + 9 + x4))]) dX1_setUp_199 3 rfl (by decide) rfl ?_
      refine zV_goto (pc := 202) (tgt := 41) dX1_setUp_202 (by decide) ?_
      exact zV_sub [1, 2, 3, 0] rfl h

set_option maxRecDepth 100000 in
set_option maxHeartbeats 4000000 in
theorem vc_X1_setUpLaw_0 {K : zCx} {d : Nat} (pl1 : Int) (x2 : Int) (x3 : Int) (x4 : Int) (m0 : zM) {Q : Int → zM → Prop} (hpl1 : zPl pl1) (hx2 : inR x2) (hx3 : inR x3) (hx4 : inR x4) (h : zok m0 → 0 ≤ x2 ∧ x2 < 10 ∧ (∀ v3 : Int, v3 = (if (m0.1 (pl1 + 9 + x2) 0) = 3 then (if (m0.1 (pl1 + 9 + x2) 9) < 0 then 0 else (if (m0.1 pl1 6) ≤ (m0.1 (pl1 + 9 + x2) 9) then 0 else 1)) else 0) → ((v3 = 0 → ∀ v6 : Int, v6 = (m0.1 (pl1 + 9 + x2) 3) → (zV K mX1_setUpLaw (d + 3) 72 [(0, rr K 39), (2, .int (iz x2)), (3, .int (iz x3)), (4, .int (iz x4)), (5, rr K (pl1 + 9 + x2)), (7, .int (iz v6))] [] m0 Q)) ∧ (¬ (v3 = 0) → 0 ≤ (m0.1 (pl1 + 9 + x2) 9) ∧ (m0.1 (pl1 + 9 + x2) 9) < 10 ∧ (∀ v10 : Int, v10 = (m0.1 (pl1 + 9 + (m0.1 (pl1 + 9 + x2) 9)) 3) → (zV K mX1_setUpLaw (d + 3) 72 [(0, rr K 39), (2, .int (iz x2)), (3, .int (iz x3)), (4, .int (iz x4)), (5, rr K (pl1 + 9 + x2)), (7, .int (iz v10))] [] m0 Q)))))) : zV K mX1_setUpLaw (d + 3) 0 [(0, rr K 39), (1, rr K pl1), (2, .int (iz x2)), (3, .int (iz x3)), (4, .int (iz x4))] [] m0 Q := by
  refine zV_ok (fun hm0 => ?_)
  replace h := h hm0
  refine zV_aloadr_n (pc := 0) dX1_setUpLaw_0 rfl 1 rfl ?_
  refine zV_getR (pc := 1) dX1_setUpLaw_1 zfX1_65 (zPl_s0 hpl1) rfl (zPl_r0 hpl1) ?_
  refine zV_iload_n (pc := 4) dX1_setUpLaw_4 rfl 2 rfl ?_
  obtain ⟨o1, o2, h⟩ := h
  refine zV_aald (pc := 5) dX1_setUpLaw_5 (zPl_s1 hpl1) o1 o2 (inR_ix o1 o2 rfl) (zPl_p hpl1 o1 o2) ?_
  refine zV_astorer (pc := 6) (loc' := [(5, rr K (pl1 + 9 + x2)), (0, rr K 39), (1, rr K pl1), (2, .int (iz x2)), (3, .int (iz x3)), (4, .int (iz x4))]) dX1_setUpLaw_6 (by decide) rfl ?_
  refine zV_aloadr (pc := 8) dX1_setUpLaw_8 0 rfl ?_
  refine zV_getI (pc := 10) (kz := 0) dX1_setUpLaw_10 zfX1_86 (zPl_sp hpl1 o1 o2) rfl rfl ?_
  refine zV_iconst (pc := 13) dX1_setUpLaw_13 ?_
  have key : ∀ v3 : Int, v3 = (if (m0.1 (pl1 + 9 + x2) 0) = 3 then (if (m0.1 (pl1 + 9 + x2) 9) < 0 then 0 else (if (m0.1 pl1 6) ≤ (m0.1 (pl1 + 9 + x2) 9) then 0 else 1)) else 0) → zV K mX1_setUpLaw (d + 3) 42 [(5, rr K (pl1 + 9 + x2)), (0, rr K 39), (1, rr K pl1), (2, .int (iz x2)), (3, .int (iz x3)), (4, .int (iz x4))] [.int (iz v3)] m0 Q := by
    intro v3 e4
    replace h := h v3 e4
    have hrv3 : inR v3 := by rw [e4]; (repeat' split) <;> first | with_reducible exact (inRd rfl)
    refine zV_istore (pc := 42) (loc' := [(6, .int (iz v3)), (5, rr K (pl1 + 9 + x2)), (0, rr K 39), (1, rr K pl1), (2, .int (iz x2)), (3, .int (iz x3)), (4, .int (iz x4))]) dX1_setUpLaw_42 (by decide) rfl ?_
    refine zV_iload (pc := 44) dX1_setUpLaw_44 0 rfl ?_
    refine zV_if_eq (pc := 46) (tgt := 65) dX1_setUpLaw_46 (by decide) hrv3 (fun c5 => ?_) (fun c5 => ?_)
    · skip
      replace h := h.1 c5
      refine zV_aloadr (pc := 65) dX1_setUpLaw_65 1 rfl ?_
      refine zV_getI (pc := 67) (kz := 3) dX1_setUpLaw_67 zfX1_79 (zPl_sp hpl1 o1 o2) rfl rfl ?_
      refine zV_name (fun v6 e7 => ?_)
      replace h := h v6 e7
      have hrv6 : inR v6 := by rw [e7]; exact (hm0 _ _)
      refine zV_istore (pc := 70) (loc' := [(7, .int (iz v6)), (6, .int (iz v3)), (5, rr K (pl1 + 9 + x2)), (0, rr K 39), (1, rr K pl1), (2, .int (iz x2)), (3, .int (iz x3)), (4, .int (iz x4))]) dX1_setUpLaw_70 (by decide) rfl ?_
      exact zV_sub [3, 5, 6, 7, 2, 0] rfl h
    · skip
      replace h := h.2 c5
      refine zV_aloadr_n (pc := 49) dX1_setUpLaw_49 rfl 3 rfl ?_
      refine zV_getR (pc := 50) dX1_setUpLaw_50 zfX1_65 (zPl_s0 hpl1) rfl (zPl_r0 hpl1) ?_
      refine zV_aloadr (pc := 53) dX1_setUpLaw_53 1 rfl ?_
      refine zV_getI (pc := 55) (kz := 9) dX1_setUpLaw_55 zfX1_92 (zPl_sp hpl1 o1 o2) rfl rfl ?_
      obtain ⟨o8, o9, h⟩ := h
      refine zV_aald (pc := 58) dX1_setUpLaw_58 (zPl_s1 hpl1) o8 o9 (inR_ix o8 o9 rfl) (zPl_p hpl1 o8 o9) ?_
      refine zV_getI (pc := 59) (kz := 3) dX1_setUpLaw_59 zfX1_79 (zPl_sp hpl1 o8 o9) rfl rfl ?_
      refine zV_goto (pc := 62) (tgt := 70) dX1_setUpLaw_62 (by decide) ?_
      refine zV_name (fun v10 e11 => ?_)
      replace h := h v10 e11
      have hrv10 : inR v10 := by rw [e11]; exact (hm0 _ _)
      refine zV_istore (pc := 70) (loc' := [(7, .int (iz v10)), (6, .int (iz v3)), (5, rr K (pl1 + 9 + x2)), (0, rr K 39), (1, rr K pl1), (2, .int (iz x2)), (3, .int (iz x3)), (4, .int (iz x4))]) dX1_setUpLaw_70 (by decide) rfl ?_
      exact zV_sub [3, 5, 6, 7, 2, 0] rfl h
  refine zV_icmp_ne (pc := 14) (tgt := 41) dX1_setUpLaw_14 (by decide) (hm0 _ _) (inRd rfl) (fun c12 => ?_) (fun c12 => ?_)
  · skip
    refine zV_iconst (pc := 41) dX1_setUpLaw_41 ?_
    exact zV_sub [0, 1, 2, 3, 4, 5] rfl (key _ (if_neg c12).symm)
  · replace c12 := Classical.not_not.mp c12
    refine zV_aloadr (pc := 17) dX1_setUpLaw_17 0 rfl ?_
    refine zV_getI (pc := 19) (kz := 9) dX1_setUpLaw_19 zfX1_92 (zPl_sp hpl1 o1 o2) rfl rfl ?_
    refine zV_if_lt (pc := 22) (tgt := 41) dX1_setUpLaw_22 (by decide) (hm0 _ _) (fun c13 => ?_) (fun c13 => ?_)
    · skip
      refine zV_iconst (pc := 41) dX1_setUpLaw_41 ?_
      exact zV_sub [0, 1, 2, 3, 4, 5] rfl (key _ ((if_pos c12).trans (if_pos c13)).symm)
    · skip
      refine zV_aloadr (pc := 25) dX1_setUpLaw_25 0 rfl ?_
      refine zV_getI (pc := 27) (kz := 9) dX1_setUpLaw_27 zfX1_92 (zPl_sp hpl1 o1 o2) rfl rfl ?_
      refine zV_aloadr_n (pc := 30) dX1_setUpLaw_30 rfl 2 rfl ?_
      refine zV_getI (pc := 31) (kz := 6) dX1_setUpLaw_31 zfX1_49 (zPl_s0 hpl1) rfl rfl ?_
      refine zV_icmp_ge (pc := 34) (tgt := 41) dX1_setUpLaw_34 (by decide) (hm0 _ _) (hm0 _ _) (fun c14 => ?_) (fun c14 => ?_)
      · skip
        refine zV_iconst (pc := 41) dX1_setUpLaw_41 ?_
        exact zV_sub [0, 1, 2, 3, 4, 5] rfl (key _ (((if_pos c12).trans (if_neg c13)).trans (if_pos c14)).symm)
      · skip
        refine zV_iconst (pc := 37) dX1_setUpLaw_37 ?_
        refine zV_goto (pc := 38) (tgt := 42) dX1_setUpLaw_38 (by decide) ?_
        exact zV_sub [0, 1, 2, 3, 4, 5] rfl (key _ (((if_pos c12).trans (if_neg c13)).trans (if_neg c14)).symm)
set_option maxRecDepth 100000 in
set_option maxHeartbeats 4000000 in
theorem vc_X1_setUpLaw_72 {K : zCx} {d : Nat} (x2 : Int) (x3 : Int) (x4 : Int) (x7 : Int) (pl1 : Int) (m0 : zM) {Q : Int → zM → Prop} (hx2 : inR x2) (hx3 : inR x3) (hx4 : inR x4) (hx7 : inR x7) (hpl1 : zPl pl1) (hy0 : 0 ≤ x2) (hy1 : x2 < 10) (h : zok m0 → 0 ≤ x2 ∧ x2 < 10 ∧ (inR ((m0.1 (pl1 + 9 + x2) 5) * 21) ∧ (∀ m4 : zM, m4 = sI m0 47 x2 ((m0.1 (pl1 + 9 + x2) 5) * 21) → zok m4 → (inR ((m4.1 (pl1 + 9 + x2) 6) * x3) ∧ (∀ m7 : zM, m7 = sI m4 48 x2 ((m4.1 (pl1 + 9 + x2) 6) * x3) → zok m7 → (inR (x7 * (10 + (((m7.1 (pl1 + 9 + x2) 7) - 5) * x4))) ∧ (∀ m10 : zM, m10 = sI m7 49 x2 (x7 * (10 + (((m7.1 (pl1 + 9 + x2) 7) - 5) * x4))) → zok m10 → (∀ v12 : Int, v12 = (if (m10.1 43 x2) = 2 then (m10.1 (pl1 + 9 + x2) 8) else 0) → (∀ m14 : zM, m14 = sI m10 46 x2 v12 → zok m14 → (Q 0 m14)))))))))) : zV K mX1_setUpLaw (d + 3) 72 [(0, rr K 39), (2, .int (iz x2)), (3, .int (iz x3)), (4, .int (iz x4)), (5, rr K (pl1 + 9 + x2)), (7, .int (iz x7))] [] m0 Q := by
  refine zV_ok (fun hm0 => ?_)
  replace h := h hm0
  refine zV_aloadr_n (pc := 72) dX1_setUpLaw_72 rfl 0 rfl ?_
  refine zV_getR (pc := 73) (b := 47) dX1_setUpLaw_73 zfX1_33 rfl rfl rfl ?_
  refine zV_iload_n (pc := 76) dX1_setUpLaw_76 rfl 1 rfl ?_
  refine zV_aloadr (pc := 77) dX1_setUpLaw_77 4 rfl ?_
  refine zV_getI (pc := 79) (kz := 5) dX1_setUpLaw_79 zfX1_95 (zPl_sp hpl1 hy0 hy1) rfl rfl ?_
  refine zV_bipush (pc := 82) dX1_setUpLaw_82 (by decide) ?_
  refine zV_imul (pc := 84) dX1_setUpLaw_84 ?_
  obtain ⟨o1, o2, h⟩ := h
  obtain ⟨o3, h⟩ := h
  refine zV_iast (pc := 85) dX1_setUpLaw_85 rfl o1 o2 (inR_ix o1 o2 rfl) o3 ?_
  refine zV_mem (fun m4 e5 => zV_ok (fun hm4 => ?_))
  replace h := h m4 e5 hm4
  refine zV_aloadr_n (pc := 86) dX1_setUpLaw_86 rfl 0 rfl ?_
  refine zV_getR (pc := 87) (b := 48) dX1_setUpLaw_87 zfX1_36 rfl rfl rfl ?_
  refine zV_iload_n (pc := 90) dX1_setUpLaw_90 rfl 1 rfl ?_
  refine zV_aloadr (pc := 91) dX1_setUpLaw_91 4 rfl ?_
  refine zV_getI (pc := 93) (kz := 6) dX1_setUpLaw_93 zfX1_98 (zPl_sp hpl1 hy0 hy1) rfl rfl ?_
  refine zV_iload_n (pc := 96) dX1_setUpLaw_96 rfl 2 rfl ?_
  refine zV_imul (pc := 97) dX1_setUpLaw_97 ?_
  obtain ⟨o6, h⟩ := h
  refine zV_iast (pc := 98) dX1_setUpLaw_98 rfl o1 o2 (inR_ix o1 o2 rfl) o6 ?_
  refine zV_mem (fun m7 e8 => zV_ok (fun hm7 => ?_))
  replace h := h m7 e8 hm7
  refine zV_aloadr_n (pc := 99) dX1_setUpLaw_99 rfl 0 rfl ?_
  refine zV_getR (pc := 100) (b := 49) dX1_setUpLaw_100 zfX1_39 rfl rfl rfl ?_
  refine zV_iload_n (pc := 103) dX1_setUpLaw_103 rfl 1 rfl ?_
  refine zV_iload (pc := 104) dX1_setUpLaw_104 5 rfl ?_
  refine zV_bipush (pc := 106) dX1_setUpLaw_106 (by decide) ?_
  refine zV_aloadr (pc := 108) dX1_setUpLaw_108 4 rfl ?_
  refine zV_getI (pc := 110) (kz := 7) dX1_setUpLaw_110 zfX1_101 (zPl_sp hpl1 hy0 hy1) rfl rfl ?_
  refine zV_iconst (pc := 113) dX1_setUpLaw_113 ?_
  refine zV_isub (pc := 114) dX1_setUpLaw_114 ?_
  refine zV_iload (pc := 115) dX1_setUpLaw_115 3 rfl ?_
  refine zV_imul (pc := 117) dX1_setUpLaw_117 ?_
  refine zV_iadd (pc := 118) dX1_setUpLaw_118 ?_
  refine zV_imul (pc := 119) dX1_setUpLaw_119 ?_
  obtain ⟨o9, h⟩ := h
  refine zV_iast (pc := 120) dX1_setUpLaw_120 rfl o1 o2 (inR_ix o1 o2 rfl) o9 ?_
  refine zV_mem (fun m10 e11 => zV_ok (fun hm10 => ?_))
  replace h := h m10 e11 hm10
  refine zV_aloadr_n (pc := 121) dX1_setUpLaw_121 rfl 0 rfl ?_
  refine zV_getR (pc := 122) (b := 46) dX1_setUpLaw_122 zfX1_30 rfl rfl rfl ?_
  refine zV_iload_n (pc := 125) dX1_setUpLaw_125 rfl 1 rfl ?_
  refine zV_aloadr_n (pc := 126) dX1_setUpLaw_126 rfl 0 rfl ?_
  refine zV_getR (pc := 127) (b := 43) dX1_setUpLaw_127 zfX1_21 rfl rfl rfl ?_
  refine zV_iload_n (pc := 130) dX1_setUpLaw_130 rfl 1 rfl ?_
  refine zV_iald (pc := 131) dX1_setUpLaw_131 rfl o1 o2 (inR_ix o1 o2 rfl) ?_
  refine zV_iconst (pc := 132) dX1_setUpLaw_132 ?_
  have key : ∀ v12 : Int, v12 = (if (m10.1 43 x2) = 2 then (m10.1 (pl1 + 9 + x2) 8) else 0) → zV K mX1_setUpLaw (d + 3) 145 [] [.int (iz v12), .int (iz x2), rr K 46] m10 Q := by
    intro v12 e13
    replace h := h v12 e13
    have hrv12 : inR v12 := by rw [e13]; (repeat' split) <;> first | with_reducible exact (inRd rfl) | with_reducible exact (hm10 _ _)
    refine zV_iast (pc := 145) dX1_setUpLaw_145 rfl o1 o2 (inR_ix o1 o2 rfl) hrv12 ?_
    refine zV_mem (fun m14 e15 => zV_ok (fun hm14 => ?_))
    replace h := h m14 e15 hm14
    exact zV_vret (pc := 146) rfl dX1_setUpLaw_146 h
  refine zV_icmp_ne (pc := 133) (tgt := 144) dX1_setUpLaw_133 (by decide) (hm10 _ _) (inRd rfl) (fun c16 => ?_) (fun c16 => ?_)
  · skip
    refine zV_iconst (pc := 144) dX1_setUpLaw_144 ?_
    exact zV_sub [] rfl (key _ (if_neg c16).symm)
  · replace c16 := Classical.not_not.mp c16
    refine zV_aloadr (pc := 136) dX1_setUpLaw_136 4 rfl ?_
    refine zV_getI (pc := 138) (kz := 8) dX1_setUpLaw_138 zfX1_104 (zPl_sp hpl1 hy0 hy1) rfl rfl ?_
    refine zV_goto (pc := 141) (tgt := 145) dX1_setUpLaw_141 (by decide) ?_
    exact zV_sub [] rfl (key _ (if_pos c16).symm)

set_option maxRecDepth 100000 in
set_option maxHeartbeats 4000000 in
theorem vc_X1_place_0 {K : zCx} {d : Nat} (x1 : Int) (m0 : zM) {Q : Int → zM → Prop} (hx1 : inR x1) (h : zok m0 → ∀ m1 : zM, m1 = sI m0 40 2 (Int.tdiv x1 441) → zok m1 → (∀ m3 : zM, m3 = sI m1 40 3 (Int.tmod (Int.tdiv x1 21) 21) → zok m3 → (∀ m5 : zM, m5 = sI m3 40 4 (Int.tmod x1 21) → zok m5 → (Q 0 m5)))) : zV K mX1_place (d + 1) 0 [(0, rr K 39), (1, .int (iz x1))] [] m0 Q := by
  refine zV_ok (fun hm0 => ?_)
  replace h := h hm0
  refine zV_aloadr_n (pc := 0) dX1_place_0 rfl 0 rfl ?_
  refine zV_getR (pc := 1) (b := 40) dX1_place_1 zfX1_9 rfl rfl rfl ?_
  refine zV_iconst (pc := 4) dX1_place_4 ?_
  refine zV_iload_n (pc := 5) dX1_place_5 rfl 1 rfl ?_
  refine zV_sipush (pc := 6) dX1_place_6 (by decide) ?_
  refine zV_idiv (pc := 9) dX1_place_9 hx1 (inRd rfl) (by decide) (fun q => absurd q.2 (by decide)) ?_
  refine zV_iast (pc := 10) dX1_place_10 rfl (by decide) (by decide) (inRd rfl) (inR_tdiv hx1 (by decide)) ?_
  refine zV_mem (fun m1 e2 => zV_ok (fun hm1 => ?_))
  replace h := h m1 e2 hm1
  refine zV_aloadr_n (pc := 11) dX1_place_11 rfl 0 rfl ?_
  refine zV_getR (pc := 12) (b := 40) dX1_place_12 zfX1_9 rfl rfl rfl ?_
  refine zV_iconst (pc := 15) dX1_place_15 ?_
  refine zV_iload_n (pc := 16) dX1_place_16 rfl 1 rfl ?_
  refine zV_bipush (pc := 17) dX1_place_17 (by decide) ?_
  refine zV_idiv (pc := 19) dX1_place_19 hx1 (inRd rfl) (by decide) (fun q => absurd q.2 (by decide)) ?_
  refine zV_bipush (pc := 20) dX1_place_20 (by decide) ?_
  refine zV_irem (pc := 22) dX1_place_22 (inR_tdiv hx1 (by decide)) (inRd rfl) (by decide) (fun q => absurd q.2 (by decide)) ?_
  refine zV_iast (pc := 23) dX1_place_23 rfl (by decide) (by decide) (inRd rfl) (inR_tmod (inR_tdiv hx1 (by decide)) (by decide)) ?_
  refine zV_mem (fun m3 e4 => zV_ok (fun hm3 => ?_))
  replace h := h m3 e4 hm3
  refine zV_aloadr_n (pc := 24) dX1_place_24 rfl 0 rfl ?_
  refine zV_getR (pc := 25) (b := 40) dX1_place_25 zfX1_9 rfl rfl rfl ?_
  refine zV_iconst (pc := 28) dX1_place_28 ?_
  refine zV_iload_n (pc := 29) dX1_place_29 rfl 1 rfl ?_
  refine zV_bipush (pc := 30) dX1_place_30 (by decide) ?_
  refine zV_irem (pc := 32) dX1_place_32 hx1 (inRd rfl) (by decide) (fun q => absurd q.2 (by decide)) ?_
  refine zV_iast (pc := 33) dX1_place_33 rfl (by decide) (by decide) (inRd rfl) (inR_tmod hx1 (by decide)) ?_
  refine zV_mem (fun m5 e6 => zV_ok (fun hm5 => ?_))
  replace h := h m5 e6 hm5
  exact zV_vret (pc := 34) rfl dX1_place_34 h

set_option maxRecDepth 100000 in
set_option maxHeartbeats 4000000 in
theorem vc_X1_through_0 {K : zCx} {d : Nat} (x1 : Int) (m0 : zM) {Q : Int → zM → Prop} (hx1 : inR x1) (h : zok m0 → 0 ≤ x1 ∧ x1 < 10 ∧ (0 ≤ (m0.1 44 x1) ∧ (m0.1 44 x1) < 5 ∧ (0 ≤ (m0.1 45 x1) ∧ (m0.1 45 x1) < 5 ∧ (∀ v7 : Int, v7 = ((m0.1 40 (m0.1 44 x1)) - (m0.1 40 (m0.1 45 x1))) → (((m0.1 43 x1) = 3 → Q (m0.1 49 x1) m0) ∧ (¬ ((m0.1 43 x1) = 3) → ((m0.1 43 x1) = 4 → inR (40 * v7) ∧ (Q (40 * v7) m0)) ∧ (¬ ((m0.1 43 x1) = 4) → ((m0.1 43 x1) = 0 → Q 0 m0) ∧ (¬ ((m0.1 43 x1) = 0) → inR v7 ∧ ((v7 = 0 → Q 0 m0) ∧ (¬ (v7 = 0) → zsh m0.2.2 = some (0, 84) ∧ (∀ v15 : Int, v15 = (if 0 ≤ v7 then v7 else (-v7)) → (0 ≤ ((m0.1 47 x1) + v15) ∧ ((m0.1 47 x1) + v15) < 84 ∧ (∀ v19 : Int, v19 = ((m0.1 m0.2.2 ((m0.1 47 x1) + v15)) + (m0.1 48 x1)) → (inR v19 ∧ ((0 < v19 → inR (v19 * (m0.1 49 x1)) ∧ (∀ v24 : Int, v24 = (Int.tdiv (v19 * (m0.1 49 x1)) 10) → (∀ v26 : Int, v26 = (if 0 ≤ v7 then v24 else (-v24)) → (((m0.1 43 x1) = 2 → 0 ≤ (m0.1 46 x1) ∧ (m0.1 46 x1) < 5 ∧ (∀ v34 : Int, v34 = (m0.1 40 (m0.1 46 x1)) → ((10 ≤ v34 → inR v26 ∧ (Q v26 m0)) ∧ (¬ (10 ≤ v34) → inR (v26 * v34) ∧ (Q (Int.tdiv (v26 * v34) 10) m0))))) ∧ (¬ ((m0.1 43 x1) = 2) → (10 ≤ (10 : Int) → inR v26 ∧ (Q v26 m0)) ∧ (¬ (10 ≤ (10 : Int)) → inR (v26 * 10) ∧ (Q (Int.tdiv (v26 * 10) 10) m0))))))) ∧ (¬ (0 < v19) → Q 0 m0)))))))))))))))) : zV K mX1_through (d + 1) 0 [(0, rr K 39), (1, .int (iz x1))] [] m0 Q := by
  refine zV_ok (fun hm0 => ?_)
  replace h := h hm0
  refine zV_aloadr_n (pc := 0) dX1_through_0 rfl 0 rfl ?_
  refine zV_getR (pc := 1) (b := 40) dX1_through_1 zfX1_9 rfl rfl rfl ?_
  refine zV_aloadr_n (pc := 4) dX1_through_4 rfl 0 rfl ?_
  refine zV_getR (pc := 5) (b := 44) dX1_through_5 zfX1_24 rfl rfl rfl ?_
  refine zV_iload_n (pc := 8) dX1_through_8 rfl 1 rfl ?_
  obtain ⟨o1, o2, h⟩ := h
  refine zV_iald (pc := 9) dX1_through_9 rfl o1 o2 (inR_ix o1 o2 rfl) ?_
  obtain ⟨o3, o4, h⟩ := h
  refine zV_iald (pc := 10) dX1_through_10 rfl o3 o4 (inR_ix o3 o4 rfl) ?_
  refine zV_aloadr_n (pc := 11) dX1_through_11 rfl 0 rfl ?_
  refine zV_getR (pc := 12) (b := 40) dX1_through_12 zfX1_9 rfl rfl rfl ?_
  refine zV_aloadr_n (pc := 15) dX1_through_15 rfl 0 rfl ?_
  refine zV_getR (pc := 16) (b := 45) dX1_through_16 zfX1_27 rfl rfl rfl ?_
  refine zV_iload_n (pc := 19) dX1_through_19 rfl 1 rfl ?_
  refine zV_iald (pc := 20) dX1_through_20 rfl o1 o2 (inR_ix o1 o2 rfl) ?_
  obtain ⟨o5, o6, h⟩ := h
  refine zV_iald (pc := 21) dX1_through_21 rfl o5 o6 (inR_ix o5 o6 rfl) ?_
  refine zV_isub (pc := 22) dX1_through_22 ?_
  refine zV_name (fun v7 e8 => ?_)
  replace h := h v7 e8
  refine zV_istore_n (pc := 23) (loc' := [(2, .int (iz v7)), (0, rr K 39), (1, .int (iz x1))]) dX1_through_23 rfl (by decide) rfl ?_
  refine zV_aloadr_n (pc := 24) dX1_through_24 rfl 1 rfl ?_
  refine zV_getR (pc := 25) (b := 43) dX1_through_25 zfX1_21 rfl rfl rfl ?_
  refine zV_iload_n (pc := 28) dX1_through_28 rfl 2 rfl ?_
  refine zV_iald (pc := 29) dX1_through_29 rfl o1 o2 (inR_ix o1 o2 rfl) ?_
  refine zV_iconst (pc := 30) dX1_through_30 ?_
  refine zV_icmp_ne (pc := 31) (tgt := 41) dX1_through_31 (by decide) (hm0 _ _) (inRd rfl) (fun c9 => ?_) (fun c9 => ?_)
  · skip
    replace h := h.2 c9
    refine zV_aloadr_n (pc := 41) dX1_through_41 rfl 1 rfl ?_
    refine zV_getR (pc := 42) (b := 43) dX1_through_42 zfX1_21 rfl rfl rfl ?_
    refine zV_iload_n (pc := 45) dX1_through_45 rfl 2 rfl ?_
    refine zV_iald (pc := 46) dX1_through_46 rfl o1 o2 (inR_ix o1 o2 rfl) ?_
    refine zV_iconst (pc := 47) dX1_through_47 ?_
    refine zV_icmp_ne (pc := 48) (tgt := 56) dX1_through_48 (by decide) (hm0 _ _) (inRd rfl) (fun c10 => ?_) (fun c10 => ?_)
    · skip
      replace h := h.2 c10
      refine zV_aloadr_n (pc := 56) dX1_through_56 rfl 1 rfl ?_
      refine zV_getR (pc := 57) (b := 43) dX1_through_57 zfX1_21 rfl rfl rfl ?_
      refine zV_iload_n (pc := 60) dX1_through_60 rfl 2 rfl ?_
      refine zV_iald (pc := 61) dX1_through_61 rfl o1 o2 (inR_ix o1 o2 rfl) ?_
      refine zV_if_eq (pc := 62) (tgt := 69) dX1_through_62 (by decide) (hm0 _ _) (fun c11 => ?_) (fun c11 => ?_)
      · skip
        replace h := h.1 c11
        refine zV_iconst (pc := 69) dX1_through_69 ?_
        exact zV_iret (pc := 70) rfl dX1_through_70 (inRd rfl) h
      · skip
        replace h := h.2 c11
        refine zV_iload_n (pc := 65) dX1_through_65 rfl 0 rfl ?_
        obtain ⟨o12, h⟩ := h
        refine zV_if_ne (pc := 66) (tgt := 71) dX1_through_66 (by decide) o12 (fun c13 => ?_) (fun c13 => ?_)
        · skip
          replace h := h.2 c13
          refine zV_aloadr_n (pc := 71) dX1_through_71 rfl 1 rfl ?_
          obtain ⟨o14, h⟩ := h
          refine zV_getR (pc := 72) (b := m0.2.2) dX1_through_72 zfX1_46 rfl rfl rfl ?_
          refine zV_aloadr_n (pc := 75) dX1_through_75 rfl 1 rfl ?_
          refine zV_getR (pc := 76) (b := 47) dX1_through_76 zfX1_33 rfl rfl rfl ?_
          refine zV_iload_n (pc := 79) dX1_through_79 rfl 2 rfl ?_
          refine zV_iald (pc := 80) dX1_through_80 rfl o1 o2 (inR_ix o1 o2 rfl) ?_
          refine zV_iload_n (pc := 81) dX1_through_81 rfl 0 rfl ?_
          have key : ∀ v15 : Int, v15 = (if 0 ≤ v7 then v7 else (-v7)) → zV K mX1_through (d + 1) 91 [(2, .int (iz v7)), (0, rr K 39), (1, .int (iz x1))] [.int (iz v15), .int (iz (m0.1 47 x1)), rr K m0.2.2] m0 Q := by
            intro v15 e16
            replace h := h v15 e16
            refine zV_iadd (pc := 91) dX1_through_91 ?_
            obtain ⟨o17, o18, h⟩ := h
            refine zV_iald (pc := 92) dX1_through_92 o14 o17 o18 (inR_ix o17 o18 rfl) ?_
            refine zV_aloadr_n (pc := 93) dX1_through_93 rfl 1 rfl ?_
            refine zV_getR (pc := 94) (b := 48) dX1_through_94 zfX1_36 rfl rfl rfl ?_
            refine zV_iload_n (pc := 97) dX1_through_97 rfl 2 rfl ?_
            refine zV_iald (pc := 98) dX1_through_98 rfl o1 o2 (inR_ix o1 o2 rfl) ?_
            refine zV_iadd (pc := 99) dX1_through_99 ?_
            refine zV_name (fun v19 e20 => ?_)
            replace h := h v19 e20
            refine zV_istore_n (pc := 100) (loc' := [(3, .int (iz v19)), (2, .int (iz v7)), (0, rr K 39), (1, .int (iz x1))]) dX1_through_100 rfl (by decide) rfl ?_
            refine zV_iload_n (pc := 101) dX1_through_101 rfl 0 rfl ?_
            obtain ⟨o21, h⟩ := h
            refine zV_if_gt (pc := 102) (tgt := 107) dX1_through_102 (by decide) o21 (fun c22 => ?_) (fun c22 => ?_)
            · skip
              replace h := h.1 c22
              refine zV_iload_n (pc := 107) dX1_through_107 rfl 0 rfl ?_
              refine zV_aloadr_n (pc := 108) dX1_through_108 rfl 2 rfl ?_
              refine zV_getR (pc := 109) (b := 49) dX1_through_109 zfX1_39 rfl rfl rfl ?_
              refine zV_iload_n (pc := 112) dX1_through_112 rfl 3 rfl ?_
              refine zV_iald (pc := 113) dX1_through_113 rfl o1 o2 (inR_ix o1 o2 rfl) ?_
              refine zV_imul (pc := 114) dX1_through_114 ?_
              refine zV_bipush (pc := 115) dX1_through_115 (by decide) ?_
              obtain ⟨o23, h⟩ := h
              refine zV_idiv (pc := 117) dX1_through_117 o23 (inRd rfl) (by decide) (fun q => absurd q.2 (by decide)) ?_
              refine zV_name (fun v24 e25 => ?_)
              replace h := h v24 e25
              have hrv24 : inR v24 := by rw [e25]; exact (inR_tdiv o23 (by decide))
              refine zV_istore (pc := 118) (loc' := [(4, .int (iz v24)), (3, .int (iz v19)), (2, .int (iz v7)), (0, rr K 39), (1, .int (iz x1))]) dX1_through_118 (by decide) rfl ?_
              refine zV_iload_n (pc := 120) dX1_through_120 rfl 2 rfl ?_
              have key : ∀ v26 : Int, v26 = (if 0 ≤ v7 then v24 else (-v24)) → zV K mX1_through (d + 1) 129 [(4, .int (iz v26)), (0, rr K 39), (1, .int (iz x1))] [] m0 Q := by
                intro v26 e27
                replace h := h v26 e27
                refine zV_aloadr_n (pc := 129) dX1_through_129 rfl 1 rfl ?_
                refine zV_getR (pc := 130) (b := 43) dX1_through_130 zfX1_21 rfl rfl rfl ?_
                refine zV_iload_n (pc := 133) dX1_through_133 rfl 2 rfl ?_
                refine zV_iald (pc := 134) dX1_through_134 rfl o1 o2 (inR_ix o1 o2 rfl) ?_
                refine zV_iconst (pc := 135) dX1_through_135 ?_
                refine zV_icmp_ne (pc := 136) (tgt := 153) dX1_through_136 (by decide) (hm0 _ _) (inRd rfl) (fun c28 => ?_) (fun c28 => ?_)
                · skip
                  replace h := h.2 c28
                  refine zV_bipush (pc := 153) dX1_through_153 (by decide) ?_
                  refine zV_istore (pc := 155) (loc' := [(5, .int (iz 10)), (4, .int (iz v26)), (0, rr K 39), (1, .int (iz x1))]) dX1_through_155 (by decide) rfl ?_
                  refine zV_iload (pc := 157) dX1_through_157 0 rfl ?_
                  refine zV_bipush (pc := 159) dX1_through_159 (by decide) ?_
                  refine zV_icmp_ge (pc := 161) (tgt := 175) dX1_through_161 (by decide) (inRd rfl) (inRd rfl) (fun c29 => ?_) (fun c29 => ?_)
                  · skip
                    replace h := h.1 c29
                    refine zV_iload (pc := 175) dX1_through_175 1 rfl ?_
                    obtain ⟨o30, h⟩ := h
                    exact zV_iret (pc := 177) rfl dX1_through_177 o30 h
                  · skip
                    replace h := h.2 c29
                    refine zV_iload (pc := 164) dX1_through_164 1 rfl ?_
                    refine zV_iload (pc := 166) dX1_through_166 0 rfl ?_
                    refine zV_imul (pc := 168) dX1_through_168 ?_
                    refine zV_bipush (pc := 169) dX1_through_169 (by decide) ?_
                    obtain ⟨o31, h⟩ := h
                    refine zV_idiv (pc := 171) dX1_through_171 o31 (inRd rfl) (by decide) (fun q => absurd q.2 (by decide)) ?_
                    refine zV_goto (pc := 172) (tgt := 177) dX1_through_172 (by decide) ?_
                    exact zV_iret (pc := 177) rfl dX1_through_177 (inR_tdiv o31 (by decide)) h
                · replace c28 := Classical.not_not.mp c28
                  replace h := h.1 c28
                  refine zV_aloadr_n (pc := 139) dX1_through_139 rfl 1 rfl ?_
                  refine zV_getR (pc := 140) (b := 40) dX1_through_140 zfX1_9 rfl rfl rfl ?_
                  refine zV_aloadr_n (pc := 143) dX1_through_143 rfl 1 rfl ?_
                  refine zV_getR (pc := 144) (b := 46) dX1_through_144 zfX1_30 rfl rfl rfl ?_
                  refine zV_iload_n (pc := 147) dX1_through_147 rfl 2 rfl ?_
                  refine zV_iald (pc := 148) dX1_through_148 rfl o1 o2 (inR_ix o1 o2 rfl) ?_
                  obtain ⟨o32, o33, h⟩ := h
                  refine zV_iald (pc := 149) dX1_through_149 rfl o32 o33 (inR_ix o32 o33 rfl) ?_
                  refine zV_goto (pc := 150) (tgt := 155) dX1_through_150 (by decide) ?_
                  refine zV_name (fun v34 e35 => ?_)
                  replace h := h v34 e35
                  have hrv34 : inR v34 := by rw [e35]; exact (hm0 _ _)
                  refine zV_istore (pc := 155) (loc' := [(5, .int (iz v34)), (4, .int (iz v26)), (0, rr K 39), (1, .int (iz x1))]) dX1_through_155 (by decide) rfl ?_
                  refine zV_iload (pc := 157) dX1_through_157 0 rfl ?_
                  refine zV_bipush (pc := 159) dX1_through_159 (by decide) ?_
                  refine zV_icmp_ge (pc := 161) (tgt := 175) dX1_through_161 (by decide) hrv34 (inRd rfl) (fun c36 => ?_) (fun c36 => ?_)
                  · skip
                    replace h := h.1 c36
                    refine zV_iload (pc := 175) dX1_through_175 1 rfl ?_
                    obtain ⟨o37, h⟩ := h
                    exact zV_iret (pc := 177) rfl dX1_through_177 o37 h
                  · skip
                    replace h := h.2 c36
                    refine zV_iload (pc := 164) dX1_through_164 1 rfl ?_
                    refine zV_iload (pc := 166) dX1_through_166 0 rfl ?_
                    refine zV_imul (pc := 168) dX1_through_168 ?_
                    refine zV_bipush (pc := 169) dX1_through_169 (by decide) ?_
                    obtain ⟨o38, h⟩ := h
                    refine zV_idiv (pc := 171) dX1_through_171 o38 (inRd rfl) (by decide) (fun q => absurd q.2 (by decide)) ?_
                    refine zV_goto (pc := 172) (tgt := 177) dX1_through_172 (by decide) ?_
                    exact zV_iret (pc := 177) rfl dX1_through_177 (inR_tdiv o38 (by decide)) h
              refine zV_if_ge (pc := 121) (tgt := 129) dX1_through_121 (by decide) o12 (fun c39 => ?_) (fun c39 => ?_)
              · skip
                exact zV_sub [0, 3, 4] rfl (key _ (if_pos c39).symm)
              · skip
                refine zV_iload (pc := 124) dX1_through_124 0 rfl ?_
                refine zV_ineg (pc := 126) dX1_through_126 ?_
                refine zV_istore (pc := 127) (loc' := [(4, .int (iz (-v24))), (3, .int (iz v19)), (2, .int (iz v7)), (0, rr K 39), (1, .int (iz x1))]) dX1_through_127 (by decide) rfl ?_
                exact zV_sub [0, 3, 4] rfl (key _ (if_neg c39).symm)
            · skip
              replace h := h.2 c22
              refine zV_iconst (pc := 105) dX1_through_105 ?_
              exact zV_iret (pc := 106) rfl dX1_through_106 (inRd rfl) h
          refine zV_if_ge (pc := 82) (tgt := 90) dX1_through_82 (by decide) o12 (fun c40 => ?_) (fun c40 => ?_)
          · skip
            refine zV_iload_n (pc := 90) dX1_through_90 rfl 0 rfl ?_
            exact zV_sub [0, 1, 2] rfl (key _ (if_pos c40).symm)
          · skip
            refine zV_iload_n (pc := 85) dX1_through_85 rfl 0 rfl ?_
            refine zV_ineg (pc := 86) dX1_through_86 ?_
            refine zV_goto (pc := 87) (tgt := 91) dX1_through_87 (by decide) ?_
            exact zV_sub [0, 1, 2] rfl (key _ (if_neg c40).symm)
        · replace c13 := Classical.not_not.mp c13
          replace h := h.1 c13
          refine zV_iconst (pc := 69) dX1_through_69 ?_
          exact zV_iret (pc := 70) rfl dX1_through_70 (inRd rfl) h
    · replace c10 := Classical.not_not.mp c10
      replace h := h.1 c10
      refine zV_bipush (pc := 51) dX1_through_51 (by decide) ?_
      refine zV_iload_n (pc := 53) dX1_through_53 rfl 0 rfl ?_
      refine zV_imul (pc := 54) dX1_through_54 ?_
      obtain ⟨o41, h⟩ := h
      exact zV_iret (pc := 55) rfl dX1_through_55 o41 h
  · replace c9 := Classical.not_not.mp c9
    replace h := h.1 c9
    refine zV_aloadr_n (pc := 34) dX1_through_34 rfl 1 rfl ?_
    refine zV_getR (pc := 35) (b := 49) dX1_through_35 zfX1_39 rfl rfl rfl ?_
    refine zV_iload_n (pc := 38) dX1_through_38 rfl 2 rfl ?_
    refine zV_iald (pc := 39) dX1_through_39 rfl o1 o2 (inR_ix o1 o2 rfl) ?_
    exact zV_iret (pc := 40) rfl dX1_through_40 (hm0 _ _) h

set_option maxRecDepth 100000 in
set_option maxHeartbeats 4000000 in
theorem vc_X1_move_0 {K : zCx} {d : Nat}  (m0 : zM) {Q : Int → zM → Prop}  (h : zok m0 → zCt K (d + 1) mJ7_fill_53178 [rr K 41, .int (iz 0)] m0 (fun r1 m2 => inR r1 → zok m2 → zV K mX1_move (d + 2) 10 [(0, rr K 39), (1, .int (iz 0))] [] m2 Q)) : zV K mX1_move (d + 2) 0 [(0, rr K 39)] [] m0 Q := by
  refine zV_ok (fun hm0 => ?_)
  replace h := h hm0
  refine zV_aloadr_n (pc := 0) dX1_move_0 rfl 0 rfl ?_
  refine zV_getR (pc := 1) (b := 41) dX1_move_1 zfX1_15 rfl rfl rfl ?_
  refine zV_iconst (pc := 4) dX1_move_4 ?_
  refine zV_callS (pc := 5) (mc := mJ7_fill_53178) (As := [rr K 41, .int (iz 0)]) (rest := []) dX1_move_5 zcX1_59 ztJ7_fill_53178 rfl rfl (Nat.le_of_ble_eq_true rfl) h (fun r1 m2 hr1 h => zV_ok (fun hm2 => ?_))
  replace h := h hr1 hm2
  refine zV_iconst (pc := 8) dX1_move_8 ?_
  refine zV_istore_n (pc := 9) (loc' := [(1, .int (iz 0)), (0, rr K 39)]) dX1_move_9 rfl (by decide) rfl ?_
  exact zV_sub [1, 0] rfl h
set_option maxRecDepth 100000 in
set_option maxHeartbeats 4000000 in
theorem vc_X1_move_10 {K : zCx} {d : Nat} (x1 : Int) (m0 : zM) {Q : Int → zM → Prop} (hx1 : inR x1) (h : zok m0 → ((m0.1 39 11) ≤ x1 → zV K mX1_move (d + 2) 74 [(0, rr K 39), (1, .int (iz 2))] [] m0 Q) ∧ (¬ ((m0.1 39 11) ≤ x1) → 0 ≤ x1 ∧ x1 < 10 ∧ (((m0.1 43 x1) = 0 → zV K mX1_move (d + 2) 10 [(0, rr K 39), (1, .int (iz (x1 + 1)))] [] m0 Q) ∧ (¬ ((m0.1 43 x1) = 0) → zCt K (d + 1) mX1_through [rr K 39, .int (iz x1)] m0 (fun r5 m6 => inR r5 → zok m6 → 0 ≤ (m6.1 44 x1) ∧ (m6.1 44 x1) < 5 ∧ (inR ((m6.1 41 (m6.1 44 x1)) - r5) ∧ (∀ m10 : zM, m10 = sI m6 41 (m6.1 44 x1) ((m6.1 41 (m6.1 44 x1)) - r5) → zok m10 → (0 ≤ (m10.1 45 x1) ∧ (m10.1 45 x1) < 5 ∧ (inR ((m10.1 41 (m10.1 45 x1)) + r5) ∧ (∀ m15 : zM, m15 = sI m10 41 (m10.1 45 x1) ((m10.1 41 (m10.1 45 x1)) + r5) → zok m15 → (zV K mX1_move (d + 2) 10 [(0, rr K 39), (1, .int (iz (x1 + 1)))] [] m15 Q))))))))))) : zV K mX1_move (d + 2) 10 [(0, rr K 39), (1, .int (iz x1))] [] m0 Q := by
  refine zV_ok (fun hm0 => ?_)
  replace h := h hm0
  refine zV_iload_n (pc := 10) dX1_move_10 rfl 1 rfl ?_
  refine zV_aloadr_n (pc := 11) dX1_move_11 rfl 0 rfl ?_
  refine zV_getI (pc := 12) (kz := 11) dX1_move_12 zfX1_55 rfl rfl rfl ?_
  refine zV_icmp_ge (pc := 15) (tgt := 72) dX1_move_15 (by decide) hx1 (hm0 _ _) (fun c1 => ?_) (fun c1 => ?_)
  · skip
    replace h := h.1 c1
    refine zV_iconst (pc := 72) dX1_move_72 ?_
    refine zV_istore_n (pc := 73) (loc' := [(1, .int (iz 2)), (0, rr K 39)]) dX1_move_73 rfl (by decide) rfl ?_
    exact zV_sub [1, 0] rfl h
  · skip
    replace h := h.2 c1
    refine zV_aloadr_n (pc := 18) dX1_move_18 rfl 0 rfl ?_
    refine zV_getR (pc := 19) (b := 43) dX1_move_19 zfX1_21 rfl rfl rfl ?_
    refine zV_iload_n (pc := 22) dX1_move_22 rfl 1 rfl ?_
    obtain ⟨o2, o3, h⟩ := h
    refine zV_iald (pc := 23) dX1_move_23 rfl o2 o3 (inR_ix o2 o3 rfl) ?_
    refine zV_if_ne (pc := 24) (tgt := 30) dX1_move_24 (by decide) (hm0 _ _) (fun c4 => ?_) (fun c4 => ?_)
    · skip
      replace h := h.2 c4
      refine zV_aloadr_n (pc := 30) dX1_move_30 rfl 0 rfl ?_
      refine zV_iload_n (pc := 31) dX1_move_31 rfl 1 rfl ?_
      refine zV_callV (pc := 32) (mc := mX1_through) (As := [.int (iz x1)]) (rest := []) dX1_move_32 zcX1_106 ziX1_through zsX1_through rfl rfl rfl rfl (Nat.le_of_ble_eq_true rfl) h (fun r5 m6 hr5 h => zV_ok (fun hm6 => ?_))
      replace h := h hr5 hm6
      refine zV_istore_n (pc := 35) (loc' := [(2, .int (iz r5)), (0, rr K 39), (1, .int (iz x1))]) dX1_move_35 rfl (by decide) rfl ?_
      refine zV_aloadr_n (pc := 36) dX1_move_36 rfl 1 rfl ?_
      refine zV_getR (pc := 37) (b := 41) dX1_move_37 zfX1_15 rfl rfl rfl ?_
      refine zV_aloadr_n (pc := 40) dX1_move_40 rfl 1 rfl ?_
      refine zV_getR (pc := 41) (b := 44) dX1_move_41 zfX1_24 rfl rfl rfl ?_
      refine zV_iload_n (pc := 44) dX1_move_44 rfl 2 rfl ?_
      refine zV_iald (pc := 45) dX1_move_45 rfl o2 o3 (inR_ix o2 o3 rfl) ?_
      refine zV_dup2 (pc := 46) dX1_move_46 rfl rfl ?_
      obtain ⟨o7, o8, h⟩ := h
      refine zV_iald (pc := 47) dX1_move_47 rfl o7 o8 (inR_ix o7 o8 rfl) ?_
      refine zV_iload_n (pc := 48) dX1_move_48 rfl 0 rfl ?_
      refine zV_isub (pc := 49) dX1_move_49 ?_
      obtain ⟨o9, h⟩ := h
      refine zV_iast (pc := 50) dX1_move_50 rfl o7 o8 (inR_ix o7 o8 rfl) o9 ?_
      refine zV_mem (fun m10 e11 => zV_ok (fun hm10 => ?_))
      replace h := h m10 e11 hm10
      refine zV_aloadr_n (pc := 51) dX1_move_51 rfl 1 rfl ?_
      refine zV_getR (pc := 52) (b := 41) dX1_move_52 zfX1_15 rfl rfl rfl ?_
      refine zV_aloadr_n (pc := 55) dX1_move_55 rfl 1 rfl ?_
      refine zV_getR (pc := 56) (b := 45) dX1_move_56 zfX1_27 rfl rfl rfl ?_
      refine zV_iload_n (pc := 59) dX1_move_59 rfl 2 rfl ?_
      refine zV_iald (pc := 60) dX1_move_60 rfl o2 o3 (inR_ix o2 o3 rfl) ?_
      refine zV_dup2 (pc := 61) dX1_move_61 rfl rfl ?_
      obtain ⟨o12, o13, h⟩ := h
      refine zV_iald (pc := 62) dX1_move_62 rfl o12 o13 (inR_ix o12 o13 rfl) ?_
      refine zV_iload_n (pc := 63) dX1_move_63 rfl 0 rfl ?_
      refine zV_iadd (pc := 64) dX1_move_64 ?_
      obtain ⟨o14, h⟩ := h
      refine zV_iast (pc := 65) dX1_move_65 rfl o12 o13 (inR_ix o12 o13 rfl) o14 ?_
      refine zV_mem (fun m15 e16 => zV_ok (fun hm15 => ?_))
      replace h := h m15 e16 hm15
      refine zV_iinc (pc := 66) (loc' := [(1, .int (iz (x1 + 1))), (2, .int (iz r5)), (0, rr K 39)]) dX1_move_66 2 rfl (by decide) rfl ?_
      refine zV_goto (pc := 69) (tgt := 10) dX1_move_69 (by decide) ?_
      exact zV_sub [2, 0] rfl h
    · replace c4 := Classical.not_not.mp c4
      replace h := h.1 c4
      refine zV_goto (pc := 27) (tgt := 66) dX1_move_27 (by decide) ?_
      refine zV_iinc (pc := 66) (loc' := [(1, .int (iz (x1 + 1))), (0, rr K 39)]) dX1_move_66 1 rfl (by decide) rfl ?_
      refine zV_goto (pc := 69) (tgt := 10) dX1_move_69 (by decide) ?_
      exact zV_sub [1, 0] rfl h
set_option maxRecDepth 100000 in
set_option maxHeartbeats 4000000 in
theorem vc_X1_move_74 {K : zCx} {d : Nat} (x1 : Int) (m0 : zM) {Q : Int → zM → Prop} (hx1 : inR x1) (h : zok m0 → (4 < x1 → Q 0 m0) ∧ (¬ (4 < x1) → 0 ≤ x1 ∧ x1 < 5 ∧ (zCt K (d + 1) mX1_moved [rr K 39, .int (iz x1), .int (iz (m0.1 41 x1))] m0 (fun r4 m5 => inR r4 → zok m5 → ∀ m6 : zM, m6 = sI m5 40 x1 r4 → zok m6 → (zV K mX1_move (d + 2) 74 [(0, rr K 39), (1, .int (iz (x1 + 1)))] [] m6 Q))))) : zV K mX1_move (d + 2) 74 [(0, rr K 39), (1, .int (iz x1))] [] m0 Q := by
  refine zV_ok (fun hm0 => ?_)
  replace h := h hm0
  refine zV_iload_n (pc := 74) dX1_move_74 rfl 1 rfl ?_
  refine zV_iconst (pc := 75) dX1_move_75 ?_
  refine zV_icmp_gt (pc := 76) (tgt := 102) dX1_move_76 (by decide) hx1 (inRd rfl) (fun c1 => ?_) (fun c1 => ?_)
  · skip
    replace h := h.1 c1
    exact zV_vret (pc := 102) rfl dX1_move_102 h
  · skip
    replace h := h.2 c1
    refine zV_aloadr_n (pc := 79) dX1_move_79 rfl 0 rfl ?_
    refine zV_getR (pc := 80) (b := 40) dX1_move_80 zfX1_9 rfl rfl rfl ?_
    refine zV_iload_n (pc := 83) dX1_move_83 rfl 1 rfl ?_
    refine zV_aloadr_n (pc := 84) dX1_move_84 rfl 0 rfl ?_
    refine zV_iload_n (pc := 85) dX1_move_85 rfl 1 rfl ?_
    refine zV_aloadr_n (pc := 86) dX1_move_86 rfl 0 rfl ?_
    refine zV_getR (pc := 87) (b := 41) dX1_move_87 zfX1_15 rfl rfl rfl ?_
    refine zV_iload_n (pc := 90) dX1_move_90 rfl 1 rfl ?_
    obtain ⟨o2, o3, h⟩ := h
    refine zV_iald (pc := 91) dX1_move_91 rfl o2 o3 (inR_ix o2 o3 rfl) ?_
    refine zV_callV (pc := 92) (mc := mX1_moved) (As := [.int (iz x1), .int (iz (m0.1 41 x1))]) (rest := [.int (iz x1), rr K 40]) dX1_move_92 zcX1_110 ziX1_moved zsX1_moved rfl rfl rfl rfl (Nat.le_of_ble_eq_true rfl) h (fun r4 m5 hr4 h => zV_ok (fun hm5 => ?_))
    replace h := h hr4 hm5
    refine zV_iast (pc := 95) dX1_move_95 rfl o2 o3 (inR_ix o2 o3 rfl) hr4 ?_
    refine zV_mem (fun m6 e7 => zV_ok (fun hm6 => ?_))
    replace h := h m6 e7 hm6
    refine zV_iinc (pc := 96) (loc' := [(1, .int (iz (x1 + 1))), (0, rr K 39)]) dX1_move_96 1 rfl (by decide) rfl ?_
    refine zV_goto (pc := 99) (tgt := 74) dX1_move_99 (by decide) ?_
    exact zV_sub [1, 0] rfl h

set_option maxRecDepth 100000 in
set_option maxHeartbeats 4000000 in
theorem vc_X1_moved_0 {K : zCx} {d : Nat} (x1 : Int) (x2 : Int) (m0 : zM) {Q : Int → zM → Prop} (hx1 : inR x1) (hx2 : inR x2) (h : zok m0 → 0 ≤ x1 ∧ x1 < 5 ∧ (∀ v3 : Int, v3 = (m0.1 42 x1) → ((v3 ≤ 0 → ∀ v6 : Int, v6 = ((m0.1 40 x1) + 0) → (inR v6 ∧ ((0 ≤ v6 → (v6 ≤ 20 → Q v6 m0) ∧ (¬ (v6 ≤ 20) → Q 20 m0)) ∧ (¬ (0 ≤ v6) → Q 0 m0)))) ∧ (¬ (v3 ≤ 0) → v3 ≠ 0 ∧ ¬ (x2 = -2147483648 ∧ v3 = -1) ∧ (∀ v13 : Int, v13 = ((m0.1 40 x1) + (Int.tdiv x2 v3)) → (inR v13 ∧ ((0 ≤ v13 → (v13 ≤ 20 → Q v13 m0) ∧ (¬ (v13 ≤ 20) → Q 20 m0)) ∧ (¬ (0 ≤ v13) → Q 0 m0)))))))) : zV K mX1_moved (d + 1) 0 [(0, rr K 39), (1, .int (iz x1)), (2, .int (iz x2))] [] m0 Q := by
  refine zV_ok (fun hm0 => ?_)
  replace h := h hm0
  refine zV_aloadr_n (pc := 0) dX1_moved_0 rfl 0 rfl ?_
  refine zV_getR (pc := 1) (b := 42) dX1_moved_1 zfX1_18 rfl rfl rfl ?_
  refine zV_iload_n (pc := 4) dX1_moved_4 rfl 1 rfl ?_
  obtain ⟨o1, o2, h⟩ := h
  refine zV_iald (pc := 5) dX1_moved_5 rfl o1 o2 (inR_ix o1 o2 rfl) ?_
  refine zV_name (fun v3 e4 => ?_)
  replace h := h v3 e4
  have hrv3 : inR v3 := by rw [e4]; exact (hm0 _ _)
  refine zV_istore_n (pc := 6) (loc' := [(3, .int (iz v3)), (0, rr K 39), (1, .int (iz x1)), (2, .int (iz x2))]) dX1_moved_6 rfl (by decide) rfl ?_
  refine zV_aloadr_n (pc := 7) dX1_moved_7 rfl 1 rfl ?_
  refine zV_getR (pc := 8) (b := 40) dX1_moved_8 zfX1_9 rfl rfl rfl ?_
  refine zV_iload_n (pc := 11) dX1_moved_11 rfl 2 rfl ?_
  refine zV_iald (pc := 12) dX1_moved_12 rfl o1 o2 (inR_ix o1 o2 rfl) ?_
  refine zV_iload_n (pc := 13) dX1_moved_13 rfl 0 rfl ?_
  refine zV_if_le (pc := 14) (tgt := 23) dX1_moved_14 (by decide) hrv3 (fun c5 => ?_) (fun c5 => ?_)
  · skip
    replace h := h.1 c5
    refine zV_iconst (pc := 23) dX1_moved_23 ?_
    refine zV_iadd (pc := 24) dX1_moved_24 ?_
    refine zV_name (fun v6 e7 => ?_)
    replace h := h v6 e7
    refine zV_istore (pc := 25) (loc' := [(4, .int (iz v6)), (3, .int (iz v3)), (0, rr K 39), (1, .int (iz x1)), (2, .int (iz x2))]) dX1_moved_25 (by decide) rfl ?_
    refine zV_iload (pc := 27) dX1_moved_27 0 rfl ?_
    obtain ⟨o8, h⟩ := h
    refine zV_if_ge (pc := 29) (tgt := 36) dX1_moved_29 (by decide) o8 (fun c9 => ?_) (fun c9 => ?_)
    · skip
      replace h := h.1 c9
      refine zV_iload (pc := 36) dX1_moved_36 0 rfl ?_
      refine zV_bipush (pc := 38) dX1_moved_38 (by decide) ?_
      refine zV_icmp_le (pc := 40) (tgt := 48) dX1_moved_40 (by decide) o8 (inRd rfl) (fun c10 => ?_) (fun c10 => ?_)
      · skip
        replace h := h.1 c10
        refine zV_iload (pc := 48) dX1_moved_48 0 rfl ?_
        exact zV_iret (pc := 50) rfl dX1_moved_50 o8 h
      · skip
        replace h := h.2 c10
        refine zV_bipush (pc := 43) dX1_moved_43 (by decide) ?_
        refine zV_goto (pc := 45) (tgt := 50) dX1_moved_45 (by decide) ?_
        exact zV_iret (pc := 50) rfl dX1_moved_50 (inRd rfl) h
    · skip
      replace h := h.2 c9
      refine zV_iconst (pc := 32) dX1_moved_32 ?_
      refine zV_goto (pc := 33) (tgt := 50) dX1_moved_33 (by decide) ?_
      exact zV_iret (pc := 50) rfl dX1_moved_50 (inRd rfl) h
  · skip
    replace h := h.2 c5
    refine zV_iload_n (pc := 17) dX1_moved_17 rfl 3 rfl ?_
    refine zV_iload_n (pc := 18) dX1_moved_18 rfl 0 rfl ?_
    obtain ⟨o11, o12, h⟩ := h
    refine zV_idiv (pc := 19) dX1_moved_19 hx2 hrv3 o11 o12 ?_
    refine zV_goto (pc := 20) (tgt := 24) dX1_moved_20 (by decide) ?_
    refine zV_iadd (pc := 24) dX1_moved_24 ?_
    refine zV_name (fun v13 e14 => ?_)
    replace h := h v13 e14
    refine zV_istore (pc := 25) (loc' := [(4, .int (iz v13)), (3, .int (iz v3)), (0, rr K 39), (1, .int (iz x1)), (2, .int (iz x2))]) dX1_moved_25 (by decide) rfl ?_
    refine zV_iload (pc := 27) dX1_moved_27 0 rfl ?_
    obtain ⟨o15, h⟩ := h
    refine zV_if_ge (pc := 29) (tgt := 36) dX1_moved_29 (by decide) o15 (fun c16 => ?_) (fun c16 => ?_)
    · skip
      replace h := h.1 c16
      refine zV_iload (pc := 36) dX1_moved_36 0 rfl ?_
      refine zV_bipush (pc := 38) dX1_moved_38 (by decide) ?_
      refine zV_icmp_le (pc := 40) (tgt := 48) dX1_moved_40 (by decide) o15 (inRd rfl) (fun c17 => ?_) (fun c17 => ?_)
      · skip
        replace h := h.1 c17
        refine zV_iload (pc := 48) dX1_moved_48 0 rfl ?_
        exact zV_iret (pc := 50) rfl dX1_moved_50 o15 h
      · skip
        replace h := h.2 c17
        refine zV_bipush (pc := 43) dX1_moved_43 (by decide) ?_
        refine zV_goto (pc := 45) (tgt := 50) dX1_moved_45 (by decide) ?_
        exact zV_iret (pc := 50) rfl dX1_moved_50 (inRd rfl) h
    · skip
      replace h := h.2 c16
      refine zV_iconst (pc := 32) dX1_moved_32 ?_
      refine zV_goto (pc := 33) (tgt := 50) dX1_moved_33 (by decide) ?_
      exact zV_iret (pc := 50) rfl dX1_moved_50 (inRd rfl) h

set_option maxRecDepth 100000 in
set_option maxHeartbeats 4000000 in
theorem vc_X1_walk_0 {K : zCx} {d : Nat} (x1 : Int) (m0 : zM) {Q : Int → zM → Prop} (hx1 : inR x1) (h : zok m0 → zCt K (d + 2) mJ7_fill_d0a16 [rr K 50, .long (0 : Int64)] m0 (fun r1 m2 => inR r1 → zok m2 → zCt K (d + 2) mX1_place [rr K 39, .int (iz x1)] m2 (fun r3 m4 => inR r3 → zok m4 → zV K mX1_walk (d + 3) 17 [(0, rr K 39), (2, .int (iz x1)), (3, .int (iz 0))] [] m4 Q))) : zV K mX1_walk (d + 3) 0 [(0, rr K 39), (1, .int (iz x1))] [] m0 Q := by
  refine zV_ok (fun hm0 => ?_)
  replace h := h hm0
  refine zV_aloadr_n (pc := 0) dX1_walk_0 rfl 0 rfl ?_
  refine zV_getR (pc := 1) (b := 50) dX1_walk_1 zfX1_42 rfl rfl rfl ?_
  refine zV_lconst (pc := 4) (v := 0) dX1_walk_4 rfl ?_
  refine zV_callS (pc := 5) (mc := mJ7_fill_d0a16) (As := [rr K 50, .long (0 : Int64)]) (rest := []) dX1_walk_5 zcX1_114 ztJ7_fill_d0a16 rfl rfl (Nat.le_of_ble_eq_true rfl) h (fun r1 m2 hr1 h => zV_ok (fun hm2 => ?_))
  replace h := h hr1 hm2
  refine zV_aloadr_n (pc := 8) dX1_walk_8 rfl 0 rfl ?_
  refine zV_iload_n (pc := 9) dX1_walk_9 rfl 1 rfl ?_
  refine zV_callV (pc := 10) (mc := mX1_place) (As := [.int (iz x1)]) (rest := []) dX1_walk_10 zcX1_117 ziX1_place zsX1_place rfl rfl rfl rfl (Nat.le_of_ble_eq_true rfl) h (fun r3 m4 hr3 h => zV_ok (fun hm4 => ?_))
  replace h := h hr3 hm4
  refine zV_iload_n (pc := 13) dX1_walk_13 rfl 1 rfl ?_
  refine zV_istore_n (pc := 14) (loc' := [(2, .int (iz x1)), (0, rr K 39), (1, .int (iz x1))]) dX1_walk_14 rfl (by decide) rfl ?_
  refine zV_iconst (pc := 15) dX1_walk_15 ?_
  refine zV_istore_n (pc := 16) (loc' := [(3, .int (iz 0)), (2, .int (iz x1)), (0, rr K 39), (1, .int (iz x1))]) dX1_walk_16 rfl (by decide) rfl ?_
  exact zV_sub [2, 1, 0] rfl h
set_option maxRecDepth 100000 in
set_option maxHeartbeats 4000000 in
theorem vc_X1_walk_17 {K : zCx} {d : Nat} (x2 : Int) (x3 : Int) (m0 : zM) {Q : Int → zM → Prop} (hx2 : inR x2) (hx3 : inR x3) (h : zok m0 → (9261 < x3 → Q 0 m0) ∧ (¬ (9261 < x3) → 0 ≤ (Int.tdiv x2 64) ∧ (Int.tdiv x2 64) < 145 ∧ (∀ m4 : zM, m4 = sL m0 50 (Int.tdiv x2 64) ((m0.2.1 50 (Int.tdiv x2 64)) ||| ((1 : Int64) <<< ((iz (Int.tmod x2 64)).toInt64 &&& 63))) → zok m4 → (zCt K (d + 2) mX1_move [rr K 39] m4 (fun r6 m7 => inR r6 → zok m7 → (0 ≤ m7.1 40 2 ∧ m7.1 40 2 ≤ 20) ∧ ((0 ≤ m7.1 40 3 ∧ m7.1 40 3 ≤ 20) ∧ ((0 ≤ m7.1 40 4 ∧ m7.1 40 4 ≤ 20) ∧ (∀ v13 : Int, v13 = (((m7.1 40 2 * 21 + m7.1 40 3) * 21 + m7.1 40 4)) → ((v13 = x2 → (v13 = x2 → zV K mX1_walk (d + 3) 94 [(0, rr K 39), (3, .int (iz x3)), (4, .int (iz v13)), (5, .int (iz 1))] [] m7 Q) ∧ (¬ (v13 = x2) → zCt K (d + 2) mX1_move [rr K 39] m7 (fun r17 m18 => inR r17 → zok m18 → zV K mX1_walk (d + 3) 94 [(0, rr K 39), (3, .int (iz x3)), (4, .int (iz v13)), (5, .int (iz 1))] [] m18 Q))) ∧ (¬ (v13 = x2) → 0 ≤ (Int.tdiv v13 64) ∧ (Int.tdiv v13 64) < 145 ∧ ((((lg_cmp ((((m7.2.1 50 (Int.tdiv v13 64))).toUInt64 >>> ((iz (Int.tmod v13 64)).toInt64.toUInt64 &&& Int64.toUInt64 63)).toInt64 &&& (1 : Int64)) (0 : Int64)).toInt) = 0 → zV K mX1_walk (d + 3) 17 [(0, rr K 39), (2, .int (iz v13)), (3, .int (iz (x3 + 1)))] [] m7 Q) ∧ (¬ (((lg_cmp ((((m7.2.1 50 (Int.tdiv v13 64))).toUInt64 >>> ((iz (Int.tmod v13 64)).toInt64.toUInt64 &&& Int64.toUInt64 63)).toInt64 &&& (1 : Int64)) (0 : Int64)).toInt) = 0) → (v13 = x2 → zV K mX1_walk (d + 3) 94 [(0, rr K 39), (3, .int (iz x3)), (4, .int (iz v13)), (5, .int (iz 1))] [] m7 Q) ∧ (¬ (v13 = x2) → zCt K (d + 2) mX1_move [rr K 39] m7 (fun r23 m24 => inR r23 → zok m24 → zV K mX1_walk (d + 3) 94 [(0, rr K 39), (3, .int (iz x3)), (4, .int (iz v13)), (5, .int (iz 1))] [] m24 Q)))))))))))))) : zV K mX1_walk (d + 3) 17 [(0, rr K 39), (2, .int (iz x2)), (3, .int (iz x3))] [] m0 Q := by
  refine zV_ok (fun hm0 => ?_)
  replace h := h hm0
  refine zV_iload_n (pc := 17) dX1_walk_17 rfl 2 rfl ?_
  refine zV_sipush (pc := 18) dX1_walk_18 (by decide) ?_
  refine zV_icmp_gt (pc := 21) (tgt := 153) dX1_walk_21 (by decide) hx3 (inRd rfl) (fun c1 => ?_) (fun c1 => ?_)
  · skip
    replace h := h.1 c1
    exact zV_vret (pc := 153) rfl dX1_walk_153 h
  · skip
    replace h := h.2 c1
    refine zV_aloadr_n (pc := 24) dX1_walk_24 rfl 0 rfl ?_
    refine zV_getR (pc := 25) (b := 50) dX1_walk_25 zfX1_42 rfl rfl rfl ?_
    refine zV_iload_n (pc := 28) dX1_walk_28 rfl 1 rfl ?_
    refine zV_bipush (pc := 29) dX1_walk_29 (by decide) ?_
    refine zV_idiv (pc := 31) dX1_walk_31 hx2 (inRd rfl) (by decide) (fun q => absurd q.2 (by decide)) ?_
    refine zV_dup2 (pc := 32) dX1_walk_32 rfl rfl ?_
    obtain ⟨o2, o3, h⟩ := h
    refine zV_lald (pc := 33) dX1_walk_33 rfl o2 o3 (inR_ix o2 o3 rfl) ?_
    refine zV_lconst (pc := 34) (v := 1) dX1_walk_34 rfl ?_
    refine zV_iload_n (pc := 35) dX1_walk_35 rfl 1 rfl ?_
    refine zV_bipush (pc := 36) dX1_walk_36 (by decide) ?_
    refine zV_irem (pc := 38) dX1_walk_38 hx2 (inRd rfl) (by decide) (fun q => absurd q.2 (by decide)) ?_
    refine zV_lshl (pc := 39) dX1_walk_39 ?_
    refine zV_lor (pc := 40) dX1_walk_40 ?_
    refine zV_last (pc := 41) dX1_walk_41 rfl o2 o3 (inR_ix o2 o3 rfl) ?_
    refine zV_mem (fun m4 e5 => zV_ok (fun hm4 => ?_))
    replace h := h m4 e5 hm4
    refine zV_aloadr_n (pc := 42) dX1_walk_42 rfl 0 rfl ?_
    refine zV_callV (pc := 43) (mc := mX1_move) (As := []) (rest := []) dX1_walk_43 zcX1_121 ziX1_move zsX1_move rfl rfl rfl rfl (Nat.le_of_ble_eq_true rfl) h (fun r6 m7 hr6 h => zV_ok (fun hm7 => ?_))
    replace h := h hr6 hm7
    refine zV_aloadr_n (pc := 46) dX1_walk_46 rfl 0 rfl ?_
    obtain ⟨o8, h⟩ := h
    obtain ⟨o9, h⟩ := h
    obtain ⟨o10, h⟩ := h
    refine zV_callVf (pc := 47) (mc := mX1_stateNow) (As := []) (rest := []) dX1_walk_47 zcX1_124 ziX1_stateNow zsX1_stateNow rfl rfl rfl rfl (Nat.le_of_ble_eq_true rfl) (c_X1_stateNow hm7 o8 o9 o10) (fun hr11 => ?_)
    refine zV_name (fun v13 e14 => ?_)
    replace h := h v13 e14
    have hrv13 : inR v13 := by rw [e14]; exact hr11
    refine zV_istore (pc := 50) (loc' := [(4, .int (iz v13)), (0, rr K 39), (2, .int (iz x2)), (3, .int (iz x3))]) dX1_walk_50 (by decide) rfl ?_
    refine zV_iload (pc := 52) dX1_walk_52 0 rfl ?_
    refine zV_iload_n (pc := 54) dX1_walk_54 rfl 2 rfl ?_
    refine zV_icmp_eq (pc := 55) (tgt := 81) dX1_walk_55 (by decide) hrv13 hx2 (fun c15 => ?_) (fun c15 => ?_)
    · skip
      replace h := h.1 c15
      refine zV_iconst (pc := 81) dX1_walk_81 ?_
      refine zV_istore (pc := 82) (loc' := [(5, .int (iz 1)), (4, .int (iz v13)), (0, rr K 39), (2, .int (iz x2)), (3, .int (iz x3))]) dX1_walk_82 (by decide) rfl ?_
      refine zV_iload (pc := 84) dX1_walk_84 1 rfl ?_
      refine zV_iload_n (pc := 86) dX1_walk_86 rfl 3 rfl ?_
      refine zV_icmp_eq (pc := 87) (tgt := 94) dX1_walk_87 (by decide) hrv13 hx2 (fun c16 => ?_) (fun c16 => ?_)
      · skip
        replace h := h.1 c16
        exact zV_sub [2, 4, 1, 0] rfl h
      · skip
        replace h := h.2 c16
        refine zV_aloadr_n (pc := 90) dX1_walk_90 rfl 2 rfl ?_
        refine zV_callV (pc := 91) (mc := mX1_move) (As := []) (rest := []) dX1_walk_91 zcX1_121 ziX1_move zsX1_move rfl rfl rfl rfl (Nat.le_of_ble_eq_true rfl) h (fun r17 m18 hr17 h => zV_ok (fun hm18 => ?_))
        replace h := h hr17 hm18
        exact zV_sub [2, 4, 1, 0] rfl h
    · skip
      replace h := h.2 c15
      refine zV_aloadr_n (pc := 58) dX1_walk_58 rfl 1 rfl ?_
      refine zV_getR (pc := 59) (b := 50) dX1_walk_59 zfX1_42 rfl rfl rfl ?_
      refine zV_iload (pc := 62) dX1_walk_62 0 rfl ?_
      refine zV_bipush (pc := 64) dX1_walk_64 (by decide) ?_
      refine zV_idiv (pc := 66) dX1_walk_66 hrv13 (inRd rfl) (by decide) (fun q => absurd q.2 (by decide)) ?_
      obtain ⟨o19, o20, h⟩ := h
      refine zV_lald (pc := 67) dX1_walk_67 rfl o19 o20 (inR_ix o19 o20 rfl) ?_
      refine zV_iload (pc := 68) dX1_walk_68 0 rfl ?_
      refine zV_bipush (pc := 70) dX1_walk_70 (by decide) ?_
      refine zV_irem (pc := 72) dX1_walk_72 hrv13 (inRd rfl) (by decide) (fun q => absurd q.2 (by decide)) ?_
      refine zV_lushr (pc := 73) dX1_walk_73 ?_
      refine zV_lconst (pc := 74) (v := 1) dX1_walk_74 rfl ?_
      refine zV_land (pc := 75) dX1_walk_75 ?_
      refine zV_lconst (pc := 76) (v := 0) dX1_walk_76 rfl ?_
      refine zV_lcmp (pc := 77) dX1_walk_77 ?_
      refine zV_if_eq (pc := 78) (tgt := 144) dX1_walk_78 (by decide) (inR_of _) (fun c21 => ?_) (fun c21 => ?_)
      · skip
        replace h := h.1 c21
        refine zV_iload (pc := 144) dX1_walk_144 0 rfl ?_
        refine zV_istore_n (pc := 146) (loc' := [(2, .int (iz v13)), (4, .int (iz v13)), (0, rr K 39), (3, .int (iz x3))]) dX1_walk_146 rfl (by decide) rfl ?_
        refine zV_iinc (pc := 147) (loc' := [(3, .int (iz (x3 + 1))), (2, .int (iz v13)), (4, .int (iz v13)), (0, rr K 39)]) dX1_walk_147 3 rfl (by decide) rfl ?_
        refine zV_goto (pc := 150) (tgt := 17) dX1_walk_150 (by decide) ?_
        exact zV_sub [3, 1, 0] rfl h
      · skip
        replace h := h.2 c21
        refine zV_iconst (pc := 81) dX1_walk_81 ?_
        refine zV_istore (pc := 82) (loc' := [(5, .int (iz 1)), (4, .int (iz v13)), (0, rr K 39), (2, .int (iz x2)), (3, .int (iz x3))]) dX1_walk_82 (by decide) rfl ?_
        refine zV_iload (pc := 84) dX1_walk_84 1 rfl ?_
        refine zV_iload_n (pc := 86) dX1_walk_86 rfl 3 rfl ?_
        refine zV_icmp_eq (pc := 87) (tgt := 94) dX1_walk_87 (by decide) hrv13 hx2 (fun c22 => ?_) (fun c22 => ?_)
        · skip
          replace h := h.1 c22
          exact zV_sub [2, 4, 1, 0] rfl h
        · skip
          replace h := h.2 c22
          refine zV_aloadr_n (pc := 90) dX1_walk_90 rfl 2 rfl ?_
          refine zV_callV (pc := 91) (mc := mX1_move) (As := []) (rest := []) dX1_walk_91 zcX1_121 ziX1_move zsX1_move rfl rfl rfl rfl (Nat.le_of_ble_eq_true rfl) h (fun r23 m24 hr23 h => zV_ok (fun hm24 => ?_))
          replace h := h hr23 hm24
          exact zV_sub [2, 4, 1, 0] rfl h
set_option maxRecDepth 100000 in
set_option maxHeartbeats 4000000 in
theorem vc_X1_walk_94 {K : zCx} {d : Nat} (x3 : Int) (x4 : Int) (x5 : Int) (m0 : zM) {Q : Int → zM → Prop} (hx3 : inR x3) (hx4 : inR x4) (hx5 : inR x5) (h : zok m0 → (9261 ≤ x5 → ∀ m2 : zM, m2 = sI m0 39 12 x4 → zok m2 → (∀ m4 : zM, m4 = sI m2 39 14 x5 → zok m4 → (inR ((x3 + 1) - x5) ∧ (∀ m7 : zM, m7 = sI m4 39 13 ((x3 + 1) - x5) → zok m7 → (Q 0 m7))))) ∧ (¬ (9261 ≤ x5) → (0 ≤ m0.1 40 2 ∧ m0.1 40 2 ≤ 20) ∧ ((0 ≤ m0.1 40 3 ∧ m0.1 40 3 ≤ 20) ∧ ((0 ≤ m0.1 40 4 ∧ m0.1 40 4 ≤ 20) ∧ (((((m0.1 40 2 * 21 + m0.1 40 3) * 21 + m0.1 40 4)) = x4 → ∀ m15 : zM, m15 = sI m0 39 12 x4 → zok m15 → (∀ m17 : zM, m17 = sI m15 39 14 x5 → zok m17 → (inR ((x3 + 1) - x5) ∧ (∀ m20 : zM, m20 = sI m17 39 13 ((x3 + 1) - x5) → zok m20 → (Q 0 m20))))) ∧ (¬ ((((m0.1 40 2 * 21 + m0.1 40 3) * 21 + m0.1 40 4)) = x4) → zCt K (d + 2) mX1_move [rr K 39] m0 (fun r22 m23 => inR r22 → zok m23 → zV K mX1_walk (d + 3) 94 [(0, rr K 39), (3, .int (iz x3)), (4, .int (iz x4)), (5, .int (iz (x5 + 1)))] [] m23 Q))))))) : zV K mX1_walk (d + 3) 94 [(0, rr K 39), (3, .int (iz x3)), (4, .int (iz x4)), (5, .int (iz x5))] [] m0 Q := by
  refine zV_ok (fun hm0 => ?_)
  replace h := h hm0
  refine zV_iload (pc := 94) dX1_walk_94 3 rfl ?_
  refine zV_sipush (pc := 96) dX1_walk_96 (by decide) ?_
  refine zV_icmp_ge (pc := 99) (tgt := 121) dX1_walk_99 (by decide) hx5 (inRd rfl) (fun c1 => ?_) (fun c1 => ?_)
  · skip
    replace h := h.1 c1
    refine zV_aloadr_n (pc := 121) dX1_walk_121 rfl 0 rfl ?_
    refine zV_iload (pc := 122) dX1_walk_122 2 rfl ?_
    refine zV_putI (pc := 124) (kz := 12) dX1_walk_124 zpX1_128 rfl rfl rfl hx4 rfl rfl ?_
    refine zV_mem (fun m2 e3 => zV_ok (fun hm2 => ?_))
    replace h := h m2 e3 hm2
    refine zV_aloadr_n (pc := 127) dX1_walk_127 rfl 0 rfl ?_
    refine zV_iload (pc := 128) dX1_walk_128 3 rfl ?_
    refine zV_putI (pc := 130) (kz := 14) dX1_walk_130 zpX1_131 rfl rfl rfl hx5 rfl rfl ?_
    refine zV_mem (fun m4 e5 => zV_ok (fun hm4 => ?_))
    replace h := h m4 e5 hm4
    refine zV_aloadr_n (pc := 133) dX1_walk_133 rfl 0 rfl ?_
    refine zV_iload_n (pc := 134) dX1_walk_134 rfl 1 rfl ?_
    refine zV_iconst (pc := 135) dX1_walk_135 ?_
    refine zV_iadd (pc := 136) dX1_walk_136 ?_
    refine zV_iload (pc := 137) dX1_walk_137 3 rfl ?_
    refine zV_isub (pc := 139) dX1_walk_139 ?_
    obtain ⟨o6, h⟩ := h
    refine zV_putI (pc := 140) (kz := 13) dX1_walk_140 zpX1_134 rfl rfl rfl o6 rfl rfl ?_
    refine zV_mem (fun m7 e8 => zV_ok (fun hm7 => ?_))
    replace h := h m7 e8 hm7
    exact zV_vret (pc := 143) rfl dX1_walk_143 h
  · skip
    replace h := h.2 c1
    refine zV_aloadr_n (pc := 102) dX1_walk_102 rfl 0 rfl ?_
    obtain ⟨o9, h⟩ := h
    obtain ⟨o10, h⟩ := h
    obtain ⟨o11, h⟩ := h
    refine zV_callVf (pc := 103) (mc := mX1_stateNow) (As := []) (rest := []) dX1_walk_103 zcX1_124 ziX1_stateNow zsX1_stateNow rfl rfl rfl rfl (Nat.le_of_ble_eq_true rfl) (c_X1_stateNow hm0 o9 o10 o11) (fun hr12 => ?_)
    refine zV_iload (pc := 106) dX1_walk_106 2 rfl ?_
    refine zV_icmp_eq (pc := 108) (tgt := 121) dX1_walk_108 (by decide) hr12 hx4 (fun c14 => ?_) (fun c14 => ?_)
    · skip
      replace h := h.1 c14
      refine zV_aloadr_n (pc := 121) dX1_walk_121 rfl 0 rfl ?_
      refine zV_iload (pc := 122) dX1_walk_122 2 rfl ?_
      refine zV_putI (pc := 124) (kz := 12) dX1_walk_124 zpX1_128 rfl rfl rfl hx4 rfl rfl ?_
      refine zV_mem (fun m15 e16 => zV_ok (fun hm15 => ?_))
      replace h := h m15 e16 hm15
      refine zV_aloadr_n (pc := 127) dX1_walk_127 rfl 0 rfl ?_
      refine zV_iload (pc := 128) dX1_walk_128 3 rfl ?_
      refine zV_putI (pc := 130) (kz := 14) dX1_walk_130 zpX1_131 rfl rfl rfl hx5 rfl rfl ?_
      refine zV_mem (fun m17 e18 => zV_ok (fun hm17 => ?_))
      replace h := h m17 e18 hm17
      refine zV_aloadr_n (pc := 133) dX1_walk_133 rfl 0 rfl ?_
      refine zV_iload_n (pc := 134) dX1_walk_134 rfl 1 rfl ?_
      refine zV_iconst (pc := 135) dX1_walk_135 ?_
      refine zV_iadd (pc := 136) dX1_walk_136 ?_
      refine zV_iload (pc := 137) dX1_walk_137 3 rfl ?_
      refine zV_isub (pc := 139) dX1_walk_139 ?_
      obtain ⟨o19, h⟩ := h
      refine zV_putI (pc := 140) (kz := 13) dX1_walk_140 zpX1_134 rfl rfl rfl o19 rfl rfl ?_
      refine zV_mem (fun m20 e21 => zV_ok (fun hm20 => ?_))
      replace h := h m20 e21 hm20
      exact zV_vret (pc := 143) rfl dX1_walk_143 h
    · skip
      replace h := h.2 c14
      refine zV_aloadr_n (pc := 111) dX1_walk_111 rfl 0 rfl ?_
      refine zV_callV (pc := 112) (mc := mX1_move) (As := []) (rest := []) dX1_walk_112 zcX1_121 ziX1_move zsX1_move rfl rfl rfl rfl (Nat.le_of_ble_eq_true rfl) h (fun r22 m23 hr22 h => zV_ok (fun hm23 => ?_))
      replace h := h hr22 hm23
      refine zV_iinc (pc := 115) (loc' := [(5, .int (iz (x5 + 1))), (0, rr K 39), (3, .int (iz x3)), (4, .int (iz x4))]) dX1_walk_115 3 rfl (by decide) rfl ?_
      refine zV_goto (pc := 118) (tgt := 94) dX1_walk_118 (by decide) ?_
      exact zV_sub [1, 2, 3, 0] rfl h

set_option maxRecDepth 100000 in
set_option maxHeartbeats 4000000 in
theorem vc_X2_lay_0 {K : zCx} {d : Nat} (x1 : Int) (x2 : Int) (x3 : Int) (m0 : zM) {Q : Int → zM → Prop} (hx1 : inR x1) (hx2 : inR x2) (hx3 : inR x3) (h : zok m0 → 0 ≤ x1 ∧ x1 < 4 ∧ (∀ m3 : zM, m3 = sI m0 88 x1 x2 → zok m3 → (∀ v5 : Int, v5 = (if 0 ≤ x2 then x3 else 0) → (∀ m7 : zM, m7 = sI m3 89 x1 v5 → zok m7 → (zV K mX2_lay (d + 1) 25 [(0, rr K 87), (1, .int (iz x1)), (4, .int (iz 0))] [] m7 Q))))) : zV K mX2_lay (d + 1) 0 [(0, rr K 87), (1, .int (iz x1)), (2, .int (iz x2)), (3, .int (iz x3))] [] m0 Q := by
  refine zV_ok (fun hm0 => ?_)
  replace h := h hm0
  refine zV_aloadr_n (pc := 0) dX2_lay_0 rfl 0 rfl ?_
  refine zV_getR (pc := 1) (b := 88) dX2_lay_1 zfX2_9 rfl rfl rfl ?_
  refine zV_iload_n (pc := 4) dX2_lay_4 rfl 1 rfl ?_
  refine zV_iload_n (pc := 5) dX2_lay_5 rfl 2 rfl ?_
  obtain ⟨o1, o2, h⟩ := h
  refine zV_iast (pc := 6) dX2_lay_6 rfl o1 o2 (inR_ix o1 o2 rfl) hx2 ?_
  refine zV_mem (fun m3 e4 => zV_ok (fun hm3 => ?_))
  replace h := h m3 e4 hm3
  refine zV_aloadr_n (pc := 7) dX2_lay_7 rfl 0 rfl ?_
  refine zV_getR (pc := 8) (b := 89) dX2_lay_8 zfX2_15 rfl rfl rfl ?_
  refine zV_iload_n (pc := 11) dX2_lay_11 rfl 1 rfl ?_
  refine zV_iload_n (pc := 12) dX2_lay_12 rfl 2 rfl ?_
  have key : ∀ v5 : Int, v5 = (if 0 ≤ x2 then x3 else 0) → zV K mX2_lay (d + 1) 21 [(0, rr K 87), (1, .int (iz x1))] [.int (iz v5), .int (iz x1), rr K 89] m3 Q := by
    intro v5 e6
    replace h := h v5 e6
    have hrv5 : inR v5 := by rw [e6]; (repeat' split) <;> first | with_reducible exact hx3 | with_reducible exact (inRd rfl)
    refine zV_iast (pc := 21) dX2_lay_21 rfl o1 o2 (inR_ix o1 o2 rfl) hrv5 ?_
    refine zV_mem (fun m7 e8 => zV_ok (fun hm7 => ?_))
    replace h := h m7 e8 hm7
    refine zV_iconst (pc := 22) dX2_lay_22 ?_
    refine zV_istore (pc := 23) (loc' := [(4, .int (iz 0)), (0, rr K 87), (1, .int (iz x1))]) dX2_lay_23 (by decide) rfl ?_
    exact zV_sub [1, 2, 0] rfl h
  refine zV_if_ge (pc := 13) (tgt := 20) dX2_lay_13 (by decide) hx2 (fun c9 => ?_) (fun c9 => ?_)
  · skip
    refine zV_iload_n (pc := 20) dX2_lay_20 rfl 3 rfl ?_
    exact zV_sub [0, 1] rfl (key _ (if_pos c9).symm)
  · skip
    refine zV_iconst (pc := 16) dX2_lay_16 ?_
    refine zV_goto (pc := 17) (tgt := 21) dX2_lay_17 (by decide) ?_
    exact zV_sub [0, 1] rfl (key _ (if_neg c9).symm)
set_option maxRecDepth 100000 in
set_option maxHeartbeats 4000000 in
theorem vc_X2_lay_25 {K : zCx} {d : Nat} (x1 : Int) (x4 : Int) (m0 : zM) {Q : Int → zM → Prop} (hx1 : inR x1) (hx4 : inR x4) (h : zok m0 → (40 ≤ x4 → Q 0 m0) ∧ (¬ (40 ≤ x4) → 0 ≤ ((x1 * 40) + x4) ∧ ((x1 * 40) + x4) < 160 ∧ (∀ m4 : zM, m4 = sI m0 90 ((x1 * 40) + x4) 0 → zok m4 → (zV K mX2_lay (d + 1) 25 [(0, rr K 87), (1, .int (iz x1)), (4, .int (iz (x4 + 1)))] [] m4 Q)))) : zV K mX2_lay (d + 1) 25 [(0, rr K 87), (1, .int (iz x1)), (4, .int (iz x4))] [] m0 Q := by
  refine zV_ok (fun hm0 => ?_)
  replace h := h hm0
  refine zV_iload (pc := 25) dX2_lay_25 2 rfl ?_
  refine zV_bipush (pc := 27) dX2_lay_27 (by decide) ?_
  refine zV_icmp_ge (pc := 29) (tgt := 51) dX2_lay_29 (by decide) hx4 (inRd rfl) (fun c1 => ?_) (fun c1 => ?_)
  · skip
    replace h := h.1 c1
    exact zV_vret (pc := 51) rfl dX2_lay_51 h
  · skip
    replace h := h.2 c1
    refine zV_aloadr_n (pc := 32) dX2_lay_32 rfl 0 rfl ?_
    refine zV_getR (pc := 33) (b := 90) dX2_lay_33 zfX2_18 rfl rfl rfl ?_
    refine zV_iload_n (pc := 36) dX2_lay_36 rfl 1 rfl ?_
    refine zV_bipush (pc := 37) dX2_lay_37 (by decide) ?_
    refine zV_imul (pc := 39) dX2_lay_39 ?_
    refine zV_iload (pc := 40) dX2_lay_40 2 rfl ?_
    refine zV_iadd (pc := 42) dX2_lay_42 ?_
    refine zV_iconst (pc := 43) dX2_lay_43 ?_
    obtain ⟨o2, o3, h⟩ := h
    refine zV_iast (pc := 44) dX2_lay_44 rfl o2 o3 (inR_ix o2 o3 rfl) (inRd rfl) ?_
    refine zV_mem (fun m4 e5 => zV_ok (fun hm4 => ?_))
    replace h := h m4 e5 hm4
    refine zV_iinc (pc := 45) (loc' := [(4, .int (iz (x4 + 1))), (0, rr K 87), (1, .int (iz x1))]) dX2_lay_45 2 rfl (by decide) rfl ?_
    refine zV_goto (pc := 48) (tgt := 25) dX2_lay_48 (by decide) ?_
    exact zV_sub [1, 2, 0] rfl h

set_option maxRecDepth 100000 in
set_option maxHeartbeats 4000000 in
theorem vc_X2_write_0 {K : zCx} {d : Nat} (x1 : Int) (x2 : Int) (x3 : Int) (m0 : zM) {Q : Int → zM → Prop} (hx1 : inR x1) (hx2 : inR x2) (hx3 : inR x3) (h : zok m0 → 0 ≤ x1 ∧ x1 < 4 ∧ (∀ v3 : Int, v3 = (if (m0.1 88 x1) = 0 then (zi2b x3) else (if (m0.1 88 x1) = 1 then (zi2s x3) else x3)) → (0 ≤ ((x1 * 40) + x2) ∧ ((x1 * 40) + x2) < 160 ∧ (∀ m7 : zM, m7 = sI m0 90 ((x1 * 40) + x2) v3 → zok m7 → (Q 0 m7))))) : zV K mX2_write (d + 1) 0 [(0, rr K 87), (1, .int (iz x1)), (2, .int (iz x2)), (3, .int (iz x3))] [] m0 Q := by
  refine zV_ok (fun hm0 => ?_)
  replace h := h hm0
  refine zV_aloadr_n (pc := 0) dX2_write_0 rfl 0 rfl ?_
  refine zV_getR (pc := 1) (b := 90) dX2_write_1 zfX2_18 rfl rfl rfl ?_
  refine zV_iload_n (pc := 4) dX2_write_4 rfl 1 rfl ?_
  refine zV_bipush (pc := 5) dX2_write_5 (by decide) ?_
  refine zV_imul (pc := 7) dX2_write_7 ?_
  refine zV_iload_n (pc := 8) dX2_write_8 rfl 2 rfl ?_
  refine zV_iadd (pc := 9) dX2_write_9 ?_
  refine zV_aloadr_n (pc := 10) dX2_write_10 rfl 0 rfl ?_
  refine zV_getR (pc := 11) (b := 88) dX2_write_11 zfX2_9 rfl rfl rfl ?_
  refine zV_iload_n (pc := 14) dX2_write_14 rfl 1 rfl ?_
  obtain ⟨o1, o2, h⟩ := h
  refine zV_iald (pc := 15) dX2_write_15 rfl o1 o2 (inR_ix o1 o2 rfl) ?_
  have key : ∀ v3 : Int, v3 = (if (m0.1 88 x1) = 0 then (zi2b x3) else (if (m0.1 88 x1) = 1 then (zi2s x3) else x3)) → zV K mX2_write (d + 1) 40 [] [.int (iz v3), .int (iz ((x1 * 40) + x2)), rr K 90] m0 Q := by
    intro v3 e4
    replace h := h v3 e4
    have hrv3 : inR v3 := by rw [e4]; (repeat' split) <;> first | with_reducible exact hx3 | with_reducible exact (inR_zi2s _) | with_reducible exact (inR_zi2b _)
    obtain ⟨o5, o6, h⟩ := h
    refine zV_iast (pc := 40) dX2_write_40 rfl o5 o6 (inR_ix o5 o6 rfl) hrv3 ?_
    refine zV_mem (fun m7 e8 => zV_ok (fun hm7 => ?_))
    replace h := h m7 e8 hm7
    exact zV_vret (pc := 41) rfl dX2_write_41 h
  refine zV_if_ne (pc := 16) (tgt := 24) dX2_write_16 (by decide) (hm0 _ _) (fun c9 => ?_) (fun c9 => ?_)
  · skip
    refine zV_aloadr_n (pc := 24) dX2_write_24 rfl 0 rfl ?_
    refine zV_getR (pc := 25) (b := 88) dX2_write_25 zfX2_9 rfl rfl rfl ?_
    refine zV_iload_n (pc := 28) dX2_write_28 rfl 1 rfl ?_
    refine zV_iald (pc := 29) dX2_write_29 rfl o1 o2 (inR_ix o1 o2 rfl) ?_
    refine zV_iconst (pc := 30) dX2_write_30 ?_
    refine zV_icmp_ne (pc := 31) (tgt := 39) dX2_write_31 (by decide) (hm0 _ _) (inRd rfl) (fun c10 => ?_) (fun c10 => ?_)
    · skip
      refine zV_iload_n (pc := 39) dX2_write_39 rfl 3 rfl ?_
      exact zV_sub [] rfl (key _ ((if_neg c9).trans (if_neg c10)).symm)
    · replace c10 := Classical.not_not.mp c10
      refine zV_iload_n (pc := 34) dX2_write_34 rfl 3 rfl ?_
      refine zV_i2s (pc := 35) dX2_write_35 ?_
      refine zV_goto (pc := 36) (tgt := 40) dX2_write_36 (by decide) ?_
      exact zV_sub [] rfl (key _ ((if_neg c9).trans (if_pos c10)).symm)
  · replace c9 := Classical.not_not.mp c9
    refine zV_iload_n (pc := 19) dX2_write_19 rfl 3 rfl ?_
    refine zV_i2b (pc := 20) dX2_write_20 ?_
    refine zV_goto (pc := 21) (tgt := 40) dX2_write_21 (by decide) ?_
    exact zV_sub [] rfl (key _ (if_pos c9).symm)

set_option maxRecDepth 100000 in
set_option maxHeartbeats 4000000 in
theorem vc_X2_isTable_0 {K : zCx} {d : Nat} (x1 : Int) (m0 : zM) {Q : Int → zM → Prop} (hx1 : inR x1) (h : zok m0 → 0 ≤ x1 ∧ x1 < 4 ∧ (((m0.1 89 x1) = 21 → zV K mX2_isTable (d + 2) 15 [(0, rr K 87), (1, .int (iz x1)), (2, .int (iz 0))] [] m0 Q) ∧ (¬ ((m0.1 89 x1) = 21) → Q 0 m0))) : zV K mX2_isTable (d + 2) 0 [(0, rr K 87), (1, .int (iz x1))] [] m0 Q := by
  refine zV_ok (fun hm0 => ?_)
  replace h := h hm0
  refine zV_aloadr_n (pc := 0) dX2_isTable_0 rfl 0 rfl ?_
  refine zV_getR (pc := 1) (b := 89) dX2_isTable_1 zfX2_15 rfl rfl rfl ?_
  refine zV_iload_n (pc := 4) dX2_isTable_4 rfl 1 rfl ?_
  obtain ⟨o1, o2, h⟩ := h
  refine zV_iald (pc := 5) dX2_isTable_5 rfl o1 o2 (inR_ix o1 o2 rfl) ?_
  refine zV_bipush (pc := 6) dX2_isTable_6 (by decide) ?_
  refine zV_icmp_eq (pc := 8) (tgt := 13) dX2_isTable_8 (by decide) (hm0 _ _) (inRd rfl) (fun c3 => ?_) (fun c3 => ?_)
  · skip
    replace h := h.1 c3
    refine zV_iconst (pc := 13) dX2_isTable_13 ?_
    refine zV_istore_n (pc := 14) (loc' := [(2, .int (iz 0)), (0, rr K 87), (1, .int (iz x1))]) dX2_isTable_14 rfl (by decide) rfl ?_
    exact zV_sub [1, 2, 0] rfl h
  · skip
    replace h := h.2 c3
    refine zV_iconst (pc := 11) dX2_isTable_11 ?_
    exact zV_zret (pc := 12) rfl dX2_isTable_12 (Or.inl rfl) h
set_option maxRecDepth 100000 in
set_option maxHeartbeats 4000000 in
theorem vc_X2_isTable_15 {K : zCx} {d : Nat} (x1 : Int) (x2 : Int) (m0 : zM) {Q : Int → zM → Prop} (hx1 : inR x1) (hx2 : inR x2) (h : zok m0 → (21 ≤ x2 → Q 1 m0) ∧ (¬ (21 ≤ x2) → (0 ≤ x1 * 40 + x2) ∧ ((x1 * 40 + x2 < 160) ∧ (((0 ≤ (m0.1 90 (x1 * 40 + x2)) ∧ (m0.1 90 (x1 * 40 + x2)) ≤ 30) → zV K mX2_isTable (d + 2) 15 [(0, rr K 87), (1, .int (iz x1)), (2, .int (iz (x2 + 1)))] [] m0 Q) ∧ (¬ ((0 ≤ (m0.1 90 (x1 * 40 + x2)) ∧ (m0.1 90 (x1 * 40 + x2)) ≤ 30)) → Q 0 m0))))) : zV K mX2_isTable (d + 2) 15 [(0, rr K 87), (1, .int (iz x1)), (2, .int (iz x2))] [] m0 Q := by
  refine zV_ok (fun hm0 => ?_)
  replace h := h hm0
  refine zV_iload_n (pc := 15) dX2_isTable_15 rfl 2 rfl ?_
  refine zV_bipush (pc := 16) dX2_isTable_16 (by decide) ?_
  refine zV_icmp_ge (pc := 18) (tgt := 44) dX2_isTable_18 (by decide) hx2 (inRd rfl) (fun c1 => ?_) (fun c1 => ?_)
  · skip
    replace h := h.1 c1
    refine zV_iconst (pc := 44) dX2_isTable_44 ?_
    exact zV_zret (pc := 45) rfl dX2_isTable_45 (Or.inr rfl) h
  · skip
    replace h := h.2 c1
    refine zV_aloadr_n (pc := 21) dX2_isTable_21 rfl 0 rfl ?_
    refine zV_iload_n (pc := 22) dX2_isTable_22 rfl 1 rfl ?_
    refine zV_iload_n (pc := 23) dX2_isTable_23 rfl 2 rfl ?_
    obtain ⟨o2, h⟩ := h
    obtain ⟨o3, h⟩ := h
    refine zV_callVf (pc := 24) (mc := mX2_itemAt) (As := [.int (iz x1), .int (iz x2)]) (rest := []) dX2_isTable_24 zcX2_34 ziX2_itemAt zsX2_itemAt rfl rfl rfl rfl (Nat.le_of_ble_eq_true rfl) (c_X2_itemAt hx2 hx1 hm0 o2 o3) (fun hr4 => ?_)
    refine zV_iconst (pc := 27) dX2_isTable_27 ?_
    refine zV_bipush (pc := 28) dX2_isTable_28 (by decide) ?_
    refine zV_callSNf (pc := 30) (mc := mX9_within) (As := [.int (iz (m0.1 90 (x1 * 40 + x2))), .int (iz 0), .int (iz 30)]) (rest := []) dX2_isTable_30 zcX2_30 ztX9_within rfl rfl (Nat.le_of_ble_eq_true rfl) (c_X9_within hr4 (inRd rfl) (inRd rfl)) (fun hr6 => ?_)
    refine zV_if_ne (pc := 33) (tgt := 38) dX2_isTable_33 (by decide) (inR_b2i _) (fun c8 => ?_) (fun c8 => ?_)
    · replace c8 := b2i_tp c8
      replace h := h.1 c8
      refine zV_iinc (pc := 38) (loc' := [(2, .int (iz (x2 + 1))), (0, rr K 87), (1, .int (iz x1))]) dX2_isTable_38 2 rfl (by decide) rfl ?_
      refine zV_goto (pc := 41) (tgt := 15) dX2_isTable_41 (by decide) ?_
      exact zV_sub [1, 2, 0] rfl h
    · replace c8 := b2i_fn c8
      replace h := h.2 c8
      refine zV_iconst (pc := 36) dX2_isTable_36 ?_
      exact zV_zret (pc := 37) rfl dX2_isTable_37 (Or.inl rfl) h

set_option maxRecDepth 100000 in
set_option maxHeartbeats 4000000 in
theorem vc_X2_holdNothing_0 {K : zCx} {d : Nat} (x1 : Int) (m0 : zM) {Q : Int → zM → Prop} (hx1 : inR x1) (h : zok m0 → 0 ≤ x1 ∧ x1 < 4 ∧ (∀ m3 : zM, m3 = sI m0 91 x1 (-1) → zok m3 → (∀ m5 : zM, m5 = sI m3 92 x1 (-1) → zok m5 → (Q 0 m5)))) : zV K mX2_holdNothing (d + 1) 0 [(0, rr K 87), (1, .int (iz x1))] [] m0 Q := by
  refine zV_ok (fun hm0 => ?_)
  replace h := h hm0
  refine zV_aloadr_n (pc := 0) dX2_holdNothing_0 rfl 0 rfl ?_
  refine zV_getR (pc := 1) (b := 91) dX2_holdNothing_1 zfX2_21 rfl rfl rfl ?_
  refine zV_iload_n (pc := 4) dX2_holdNothing_4 rfl 1 rfl ?_
  refine zV_iconst (pc := 5) dX2_holdNothing_5 ?_
  obtain ⟨o1, o2, h⟩ := h
  refine zV_iast (pc := 6) dX2_holdNothing_6 rfl o1 o2 (inR_ix o1 o2 rfl) (inRd rfl) ?_
  refine zV_mem (fun m3 e4 => zV_ok (fun hm3 => ?_))
  replace h := h m3 e4 hm3
  refine zV_aloadr_n (pc := 7) dX2_holdNothing_7 rfl 0 rfl ?_
  refine zV_getR (pc := 8) (b := 92) dX2_holdNothing_8 zfX2_24 rfl rfl rfl ?_
  refine zV_iload_n (pc := 11) dX2_holdNothing_11 rfl 1 rfl ?_
  refine zV_iconst (pc := 12) dX2_holdNothing_12 ?_
  refine zV_iast (pc := 13) dX2_holdNothing_13 rfl o1 o2 (inR_ix o1 o2 rfl) (inRd rfl) ?_
  refine zV_mem (fun m5 e6 => zV_ok (fun hm5 => ?_))
  replace h := h m5 e6 hm5
  exact zV_vret (pc := 14) rfl dX2_holdNothing_14 h

set_option maxRecDepth 100000 in
set_option maxHeartbeats 4000000 in
theorem vc_X2_holdPart_0 {K : zCx} {d : Nat} (x1 : Int) (x2 : Int) (m0 : zM) {Q : Int → zM → Prop} (hx1 : inR x1) (hx2 : inR x2) (h : zok m0 → 0 ≤ x1 ∧ x1 < 4 ∧ (∀ m3 : zM, m3 = sI m0 91 x1 x2 → zok m3 → (∀ m5 : zM, m5 = sI m3 92 x1 (-1) → zok m5 → (Q 0 m5)))) : zV K mX2_holdPart (d + 1) 0 [(0, rr K 87), (1, .int (iz x1)), (2, .int (iz x2))] [] m0 Q := by
  refine zV_ok (fun hm0 => ?_)
  replace h := h hm0
  refine zV_aloadr_n (pc := 0) dX2_holdPart_0 rfl 0 rfl ?_
  refine zV_getR (pc := 1) (b := 91) dX2_holdPart_1 zfX2_21 rfl rfl rfl ?_
  refine zV_iload_n (pc := 4) dX2_holdPart_4 rfl 1 rfl ?_
  refine zV_iload_n (pc := 5) dX2_holdPart_5 rfl 2 rfl ?_
  obtain ⟨o1, o2, h⟩ := h
  refine zV_iast (pc := 6) dX2_holdPart_6 rfl o1 o2 (inR_ix o1 o2 rfl) hx2 ?_
  refine zV_mem (fun m3 e4 => zV_ok (fun hm3 => ?_))
  replace h := h m3 e4 hm3
  refine zV_aloadr_n (pc := 7) dX2_holdPart_7 rfl 0 rfl ?_
  refine zV_getR (pc := 8) (b := 92) dX2_holdPart_8 zfX2_24 rfl rfl rfl ?_
  refine zV_iload_n (pc := 11) dX2_holdPart_11 rfl 1 rfl ?_
  refine zV_iconst (pc := 12) dX2_holdPart_12 ?_
  refine zV_iast (pc := 13) dX2_holdPart_13 rfl o1 o2 (inR_ix o1 o2 rfl) (inRd rfl) ?_
  refine zV_mem (fun m5 e6 => zV_ok (fun hm5 => ?_))
  replace h := h m5 e6 hm5
  exact zV_vret (pc := 14) rfl dX2_holdPart_14 h

set_option maxRecDepth 100000 in
set_option maxHeartbeats 4000000 in
theorem vc_X2_holdRow_0 {K : zCx} {d : Nat} (x1 : Int) (x2 : Int) (m0 : zM) {Q : Int → zM → Prop} (hx1 : inR x1) (hx2 : inR x2) (h : zok m0 → 0 ≤ x1 ∧ x1 < 4 ∧ (∀ m3 : zM, m3 = sI m0 91 x1 (-1) → zok m3 → (0 ≤ x2 ∧ x2 < 4 ∧ (∀ m7 : zM, m7 = sI m3 92 x1 (m3.1 88 x2) → zok m7 → (∀ m9 : zM, m9 = sI m7 93 x1 (m7.1 89 x2) → zok m9 → (Q 0 m9)))))) : zV K mX2_holdRow (d + 1) 0 [(0, rr K 87), (1, .int (iz x1)), (2, .int (iz x2))] [] m0 Q := by
  refine zV_ok (fun hm0 => ?_)
  replace h := h hm0
  refine zV_aloadr_n (pc := 0) dX2_holdRow_0 rfl 0 rfl ?_
  refine zV_getR (pc := 1) (b := 91) dX2_holdRow_1 zfX2_21 rfl rfl rfl ?_
  refine zV_iload_n (pc := 4) dX2_holdRow_4 rfl 1 rfl ?_
  refine zV_iconst (pc := 5) dX2_holdRow_5 ?_
  obtain ⟨o1, o2, h⟩ := h
  refine zV_iast (pc := 6) dX2_holdRow_6 rfl o1 o2 (inR_ix o1 o2 rfl) (inRd rfl) ?_
  refine zV_mem (fun m3 e4 => zV_ok (fun hm3 => ?_))
  replace h := h m3 e4 hm3
  refine zV_aloadr_n (pc := 7) dX2_holdRow_7 rfl 0 rfl ?_
  refine zV_getR (pc := 8) (b := 92) dX2_holdRow_8 zfX2_24 rfl rfl rfl ?_
  refine zV_iload_n (pc := 11) dX2_holdRow_11 rfl 1 rfl ?_
  refine zV_aloadr_n (pc := 12) dX2_holdRow_12 rfl 0 rfl ?_
  refine zV_getR (pc := 13) (b := 88) dX2_holdRow_13 zfX2_9 rfl rfl rfl ?_
  refine zV_iload_n (pc := 16) dX2_holdRow_16 rfl 2 rfl ?_
  obtain ⟨o5, o6, h⟩ := h
  refine zV_iald (pc := 17) dX2_holdRow_17 rfl o5 o6 (inR_ix o5 o6 rfl) ?_
  refine zV_iast (pc := 18) dX2_holdRow_18 rfl o1 o2 (inR_ix o1 o2 rfl) (hm3 _ _) ?_
  refine zV_mem (fun m7 e8 => zV_ok (fun hm7 => ?_))
  replace h := h m7 e8 hm7
  refine zV_aloadr_n (pc := 19) dX2_holdRow_19 rfl 0 rfl ?_
  refine zV_getR (pc := 20) (b := 93) dX2_holdRow_20 zfX2_27 rfl rfl rfl ?_
  refine zV_iload_n (pc := 23) dX2_holdRow_23 rfl 1 rfl ?_
  refine zV_aloadr_n (pc := 24) dX2_holdRow_24 rfl 0 rfl ?_
  refine zV_getR (pc := 25) (b := 89) dX2_holdRow_25 zfX2_15 rfl rfl rfl ?_
  refine zV_iload_n (pc := 28) dX2_holdRow_28 rfl 2 rfl ?_
  refine zV_iald (pc := 29) dX2_holdRow_29 rfl o5 o6 (inR_ix o5 o6 rfl) ?_
  refine zV_iast (pc := 30) dX2_holdRow_30 rfl o1 o2 (inR_ix o1 o2 rfl) (hm7 _ _) ?_
  refine zV_mem (fun m9 e10 => zV_ok (fun hm9 => ?_))
  replace h := h m9 e10 hm9
  exact zV_vret (pc := 31) rfl dX2_holdRow_31 h

set_option maxRecDepth 100000 in
set_option maxHeartbeats 4000000 in
theorem vc_X3_become_0 {K : zCx} {d : Nat} (q : Int) (x1 : Int) (x2 : Int) (x3 : Int) (x4 : Int) (x5 : Int) (m0 : zM) {Q : Int → zM → Prop} (hq : zsh q = some (6, 12)) (hx1 : inR x1) (hx2 : inR x2) (hx3 : inR x3) (hx4 : inR x4) (hx5 : inR x5) (h : zok m0 → ∀ m1 : zM, m1 = sI m0 q 0 x1 → zok m1 → (∀ m3 : zM, m3 = sI m1 q 1 (Int.tdiv x2 10) → zok m3 → (∀ m5 : zM, m5 = sI m3 q 2 (Int.tmod x2 10) → zok m5 → (∀ m7 : zM, m7 = sI m5 q 3 x3 → zok m7 → (∀ m9 : zM, m9 = sI m7 q 4 0 → zok m9 → (∀ v13 : Int, v13 = (if ((m9.1 q 0) = 1 ∨ (m9.1 q 0) = 2 ∨ (m9.1 q 0) = 3) then (Int.tdiv x4 100) else (-9)) → (∀ m15 : zM, m15 = sI m9 q 5 v13 → zok m15 → (∀ v19 : Int, v19 = (if ((m15.1 q 0) = 1 ∨ (m15.1 q 0) = 2 ∨ (m15.1 q 0) = 3) then (Int.tmod (Int.tdiv x4 10) 10) else (-9)) → (∀ m21 : zM, m21 = sI m15 q 6 v19 → zok m21 → (∀ v25 : Int, v25 = (if ((m21.1 q 0) = 1 ∨ (m21.1 q 0) = 2 ∨ (m21.1 q 0) = 3) then (Int.tmod x4 10) else (-9)) → (∀ m27 : zM, m27 = sI m21 q 7 v25 → zok m27 → (∀ v31 : Int, v31 = (if ((m27.1 q 0) = 2 ∨ (m27.1 q 0) = 3) then (Int.tmod x5 10) else (-9)) → (∀ m33 : zM, m33 = sI m27 q 8 v31 → zok m33 → (∀ v35 : Int, v35 = (if (m33.1 q 0) = 3 then (Int.tdiv x5 10) else (-9)) → (∀ m37 : zM, m37 = sI m33 q 9 v35 → zok m37 → (∀ m39 : zM, m39 = sI m37 q 10 0 → zok m39 → (∀ m41 : zM, m41 = sI m39 q 11 0 → zok m41 → (Q 0 m41)))))))))))))))))) : zV K mX3_become (d + 2) 0 [(0, rr K q), (1, .int (iz x1)), (2, .int (iz x2)), (3, .int (iz x3)), (4, .int (iz x4)), (5, .int (iz x5))] [] m0 Q := by
  refine zV_ok (fun hm0 => ?_)
  replace h := h hm0
  refine zV_aloadr_n (pc := 0) dX3_become_0 rfl 0 rfl ?_
  refine zV_iload_n (pc := 1) dX3_become_1 rfl 1 rfl ?_
  refine zV_putI (pc := 2) (kz := 0) dX3_become_2 zpX3_9 hq rfl rfl hx1 rfl rfl ?_
  refine zV_mem (fun m1 e2 => zV_ok (fun hm1 => ?_))
  replace h := h m1 e2 hm1
  refine zV_aloadr_n (pc := 5) dX3_become_5 rfl 0 rfl ?_
  refine zV_iload_n (pc := 6) dX3_become_6 rfl 2 rfl ?_
  refine zV_bipush (pc := 7) dX3_become_7 (by decide) ?_
  refine zV_idiv (pc := 9) dX3_become_9 hx2 (inRd rfl) (by decide) (fun q => absurd q.2 (by decide)) ?_
  refine zV_putI (pc := 10) (kz := 1) dX3_become_10 zpX3_15 hq rfl rfl (inR_tdiv hx2 (by decide)) rfl rfl ?_
  refine zV_mem (fun m3 e4 => zV_ok (fun hm3 => ?_))
  replace h := h m3 e4 hm3
  refine zV_aloadr_n (pc := 13) dX3_become_13 rfl 0 rfl ?_
  refine zV_iload_n (pc := 14) dX3_become_14 rfl 2 rfl ?_
  refine zV_bipush (pc := 15) dX3_become_15 (by decide) ?_
  refine zV_irem (pc := 17) dX3_become_17 hx2 (inRd rfl) (by decide) (fun q => absurd q.2 (by decide)) ?_
  refine zV_putI (pc := 18) (kz := 2) dX3_become_18 zpX3_18 hq rfl rfl (inR_tmod hx2 (by decide)) rfl rfl ?_
  refine zV_mem (fun m5 e6 => zV_ok (fun hm5 => ?_))
  replace h := h m5 e6 hm5
  refine zV_aloadr_n (pc := 21) dX3_become_21 rfl 0 rfl ?_
  refine zV_iload_n (pc := 22) dX3_become_22 rfl 3 rfl ?_
  refine zV_putI (pc := 23) (kz := 3) dX3_become_23 zpX3_21 hq rfl rfl hx3 rfl rfl ?_
  refine zV_mem (fun m7 e8 => zV_ok (fun hm7 => ?_))
  replace h := h m7 e8 hm7
  refine zV_aloadr_n (pc := 26) dX3_become_26 rfl 0 rfl ?_
  refine zV_iconst (pc := 27) dX3_become_27 ?_
  refine zV_putI (pc := 28) (kz := 4) dX3_become_28 zpX3_24 hq rfl rfl (inRd rfl) rfl rfl ?_
  refine zV_mem (fun m9 e10 => zV_ok (fun hm9 => ?_))
  replace h := h m9 e10 hm9
  refine zV_aloadr_n (pc := 31) dX3_become_31 rfl 0 rfl ?_
  refine zV_aloadr_n (pc := 32) dX3_become_32 rfl 0 rfl ?_
  refine zV_getI (pc := 33) (kz := 0) dX3_become_33 zfX3_9 hq rfl rfl ?_
  refine zV_callSNf (pc := 36) (mc := mX9_hasLaw) (As := [.int (iz (m9.1 q 0))]) (rest := [rr K q]) dX3_become_36 zcX3_27 ztX9_hasLaw rfl rfl (Nat.le_of_ble_eq_true rfl) (c_X9_hasLaw (hm9 _ _)) (fun hr11 => ?_)
  have key : ∀ v13 : Int, v13 = (if ((m9.1 q 0) = 1 ∨ (m9.1 q 0) = 2 ∨ (m9.1 q 0) = 3) then (Int.tdiv x4 100) else (-9)) → zV K mX3_become (d + 2) 52 [(0, rr K q), (4, .int (iz x4)), (5, .int (iz x5))] [.int (iz v13), rr K q] m9 Q := by
    intro v13 e14
    replace h := h v13 e14
    have hrv13 : inR v13 := by rw [e14]; (repeat' split) <;> first | with_reducible exact (inRd rfl) | with_reducible exact (inR_tdiv hx4 (by decide))
    refine zV_putI (pc := 52) (kz := 5) dX3_become_52 zpX3_31 hq rfl rfl hrv13 rfl rfl ?_
    refine zV_mem (fun m15 e16 => zV_ok (fun hm15 => ?_))
    replace h := h m15 e16 hm15
    refine zV_aloadr_n (pc := 55) dX3_become_55 rfl 0 rfl ?_
    refine zV_aloadr_n (pc := 56) dX3_become_56 rfl 0 rfl ?_
    refine zV_getI (pc := 57) (kz := 0) dX3_become_57 zfX3_9 hq rfl rfl ?_
    refine zV_callSNf (pc := 60) (mc := mX9_hasLaw) (As := [.int (iz (m15.1 q 0))]) (rest := [rr K q]) dX3_become_60 zcX3_27 ztX9_hasLaw rfl rfl (Nat.le_of_ble_eq_true rfl) (c_X9_hasLaw (hm15 _ _)) (fun hr17 => ?_)
    have key : ∀ v19 : Int, v19 = (if ((m15.1 q 0) = 1 ∨ (m15.1 q 0) = 2 ∨ (m15.1 q 0) = 3) then (Int.tmod (Int.tdiv x4 10) 10) else (-9)) → zV K mX3_become (d + 2) 79 [(0, rr K q), (4, .int (iz x4)), (5, .int (iz x5))] [.int (iz v19), rr K q] m15 Q := by
      intro v19 e20
      replace h := h v19 e20
      have hrv19 : inR v19 := by rw [e20]; (repeat' split) <;> first | with_reducible exact (inRd rfl) | with_reducible exact (inR_tmod (inR_tdiv hx4 (by decide)) (by decide))
      refine zV_putI (pc := 79) (kz := 6) dX3_become_79 zpX3_34 hq rfl rfl hrv19 rfl rfl ?_
      refine zV_mem (fun m21 e22 => zV_ok (fun hm21 => ?_))
      replace h := h m21 e22 hm21
      refine zV_aloadr_n (pc := 82) dX3_become_82 rfl 0 rfl ?_
      refine zV_aloadr_n (pc := 83) dX3_become_83 rfl 0 rfl ?_
      refine zV_getI (pc := 84) (kz := 0) dX3_become_84 zfX3_9 hq rfl rfl ?_
      refine zV_callSNf (pc := 87) (mc := mX9_hasLaw) (As := [.int (iz (m21.1 q 0))]) (rest := [rr K q]) dX3_become_87 zcX3_27 ztX9_hasLaw rfl rfl (Nat.le_of_ble_eq_true rfl) (c_X9_hasLaw (hm21 _ _)) (fun hr23 => ?_)
      have key : ∀ v25 : Int, v25 = (if ((m21.1 q 0) = 1 ∨ (m21.1 q 0) = 2 ∨ (m21.1 q 0) = 3) then (Int.tmod x4 10) else (-9)) → zV K mX3_become (d + 2) 103 [(0, rr K q), (5, .int (iz x5))] [.int (iz v25), rr K q] m21 Q := by
        intro v25 e26
        replace h := h v25 e26
        have hrv25 : inR v25 := by rw [e26]; (repeat' split) <;> first | with_reducible exact (inRd rfl) | with_reducible exact (inR_tmod hx4 (by decide))
        refine zV_putI (pc := 103) (kz := 7) dX3_become_103 zpX3_37 hq rfl rfl hrv25 rfl rfl ?_
        refine zV_mem (fun m27 e28 => zV_ok (fun hm27 => ?_))
        replace h := h m27 e28 hm27
        refine zV_aloadr_n (pc := 106) dX3_become_106 rfl 0 rfl ?_
        refine zV_aloadr_n (pc := 107) dX3_become_107 rfl 0 rfl ?_
        refine zV_getI (pc := 108) (kz := 0) dX3_become_108 zfX3_9 hq rfl rfl ?_
        refine zV_callSNf (pc := 111) (mc := mX9_hasGate) (As := [.int (iz (m27.1 q 0))]) (rest := [rr K q]) dX3_become_111 zcX3_40 ztX9_hasGate rfl rfl (Nat.le_of_ble_eq_true rfl) (c_X9_hasGate (hm27 _ _)) (fun hr29 => ?_)
        have key : ∀ v31 : Int, v31 = (if ((m27.1 q 0) = 2 ∨ (m27.1 q 0) = 3) then (Int.tmod x5 10) else (-9)) → zV K mX3_become (d + 2) 127 [(0, rr K q), (5, .int (iz x5))] [.int (iz v31), rr K q] m27 Q := by
          intro v31 e32
          replace h := h v31 e32
          have hrv31 : inR v31 := by rw [e32]; (repeat' split) <;> first | with_reducible exact (inRd rfl) | with_reducible exact (inR_tmod hx5 (by decide))
          refine zV_putI (pc := 127) (kz := 8) dX3_become_127 zpX3_43 hq rfl rfl hrv31 rfl rfl ?_
          refine zV_mem (fun m33 e34 => zV_ok (fun hm33 => ?_))
          replace h := h m33 e34 hm33
          refine zV_aloadr_n (pc := 130) dX3_become_130 rfl 0 rfl ?_
          refine zV_aloadr_n (pc := 131) dX3_become_131 rfl 0 rfl ?_
          refine zV_getI (pc := 132) (kz := 0) dX3_become_132 zfX3_9 hq rfl rfl ?_
          refine zV_iconst (pc := 135) dX3_become_135 ?_
          have key : ∀ v35 : Int, v35 = (if (m33.1 q 0) = 3 then (Int.tdiv x5 10) else (-9)) → zV K mX3_become (d + 2) 149 [(0, rr K q)] [.int (iz v35), rr K q] m33 Q := by
            intro v35 e36
            replace h := h v35 e36
            have hrv35 : inR v35 := by rw [e36]; (repeat' split) <;> first | with_reducible exact (inRd rfl) | with_reducible exact (inR_tdiv hx5 (by decide))
            refine zV_putI (pc := 149) (kz := 9) dX3_become_149 zpX3_46 hq rfl rfl hrv35 rfl rfl ?_
            refine zV_mem (fun m37 e38 => zV_ok (fun hm37 => ?_))
            replace h := h m37 e38 hm37
            refine zV_aloadr_n (pc := 152) dX3_become_152 rfl 0 rfl ?_
            refine zV_iconst (pc := 153) dX3_become_153 ?_
            refine zV_putI (pc := 154) (kz := 10) dX3_become_154 zpX3_49 hq rfl rfl (inRd rfl) rfl rfl ?_
            refine zV_mem (fun m39 e40 => zV_ok (fun hm39 => ?_))
            replace h := h m39 e40 hm39
            refine zV_aloadr_n (pc := 157) dX3_become_157 rfl 0 rfl ?_
            refine zV_iconst (pc := 158) dX3_become_158 ?_
            refine zV_putI (pc := 159) (kz := 11) dX3_become_159 zpX3_52 hq rfl rfl (inRd rfl) rfl rfl ?_
            refine zV_mem (fun m41 e42 => zV_ok (fun hm41 => ?_))
            replace h := h m41 e42 hm41
            exact zV_vret (pc := 162) rfl dX3_become_162 h
          refine zV_icmp_ne (pc := 136) (tgt := 147) dX3_become_136 (by decide) (hm33 _ _) (inRd rfl) (fun c43 => ?_) (fun c43 => ?_)
          · skip
            refine zV_bipush (pc := 147) dX3_become_147 (by decide) ?_
            exact zV_sub [0] rfl (key _ (if_neg c43).symm)
          · replace c43 := Classical.not_not.mp c43
            refine zV_iload (pc := 139) dX3_become_139 1 rfl ?_
            refine zV_bipush (pc := 141) dX3_become_141 (by decide) ?_
            refine zV_idiv (pc := 143) dX3_become_143 hx5 (inRd rfl) (by decide) (fun q => absurd q.2 (by decide)) ?_
            refine zV_goto (pc := 144) (tgt := 149) dX3_become_144 (by decide) ?_
            exact zV_sub [0] rfl (key _ (if_pos c43).symm)
        refine zV_if_eq (pc := 114) (tgt := 125) dX3_become_114 (by decide) (inR_b2i _) (fun c44 => ?_) (fun c44 => ?_)
        · replace c44 := b2i_fp c44
          refine zV_bipush (pc := 125) dX3_become_125 (by decide) ?_
          exact zV_sub [0, 1] rfl (key _ (if_neg c44).symm)
        · replace c44 := b2i_tp c44
          refine zV_iload (pc := 117) dX3_become_117 1 rfl ?_
          refine zV_bipush (pc := 119) dX3_become_119 (by decide) ?_
          refine zV_irem (pc := 121) dX3_become_121 hx5 (inRd rfl) (by decide) (fun q => absurd q.2 (by decide)) ?_
          refine zV_goto (pc := 122) (tgt := 127) dX3_become_122 (by decide) ?_
          exact zV_sub [0, 1] rfl (key _ (if_pos c44).symm)
      refine zV_if_eq (pc := 90) (tgt := 101) dX3_become_90 (by decide) (inR_b2i _) (fun c45 => ?_) (fun c45 => ?_)
      · replace c45 := b2i_fp c45
        refine zV_bipush (pc := 101) dX3_become_101 (by decide) ?_
        exact zV_sub [0, 2] rfl (key _ (if_neg c45).symm)
      · replace c45 := b2i_tp c45
        refine zV_iload (pc := 93) dX3_become_93 1 rfl ?_
        refine zV_bipush (pc := 95) dX3_become_95 (by decide) ?_
        refine zV_irem (pc := 97) dX3_become_97 hx4 (inRd rfl) (by decide) (fun q => absurd q.2 (by decide)) ?_
        refine zV_goto (pc := 98) (tgt := 103) dX3_become_98 (by decide) ?_
        exact zV_sub [0, 2] rfl (key _ (if_pos c45).symm)
    refine zV_if_eq (pc := 63) (tgt := 77) dX3_become_63 (by decide) (inR_b2i _) (fun c46 => ?_) (fun c46 => ?_)
    · replace c46 := b2i_fp c46
      refine zV_bipush (pc := 77) dX3_become_77 (by decide) ?_
      exact zV_sub [0, 1, 2] rfl (key _ (if_neg c46).symm)
    · replace c46 := b2i_tp c46
      refine zV_iload (pc := 66) dX3_become_66 1 rfl ?_
      refine zV_bipush (pc := 68) dX3_become_68 (by decide) ?_
      refine zV_idiv (pc := 70) dX3_become_70 hx4 (inRd rfl) (by decide) (fun q => absurd q.2 (by decide)) ?_
      refine zV_bipush (pc := 71) dX3_become_71 (by decide) ?_
      refine zV_irem (pc := 73) dX3_become_73 (inR_tdiv hx4 (by decide)) (inRd rfl) (by decide) (fun q => absurd q.2 (by decide)) ?_
      refine zV_goto (pc := 74) (tgt := 79) dX3_become_74 (by decide) ?_
      exact zV_sub [0, 1, 2] rfl (key _ (if_pos c46).symm)
  refine zV_if_eq (pc := 39) (tgt := 50) dX3_become_39 (by decide) (inR_b2i _) (fun c47 => ?_) (fun c47 => ?_)
  · replace c47 := b2i_fp c47
    refine zV_bipush (pc := 50) dX3_become_50 (by decide) ?_
    exact zV_sub [0, 4, 5] rfl (key _ (if_neg c47).symm)
  · replace c47 := b2i_tp c47
    refine zV_iload (pc := 42) dX3_become_42 4 rfl ?_
    refine zV_bipush (pc := 44) dX3_become_44 (by decide) ?_
    refine zV_idiv (pc := 46) dX3_become_46 hx4 (inRd rfl) (by decide) (fun q => absurd q.2 (by decide)) ?_
    refine zV_goto (pc := 47) (tgt := 52) dX3_become_47 (by decide) ?_
    exact zV_sub [0, 4, 5] rfl (key _ (if_pos c47).symm)

set_option maxRecDepth 100000 in
set_option maxHeartbeats 4000000 in
theorem vc_X3_copyFrom_0 {K : zCx} {d : Nat} (q : Int) (q1 : Int) (m0 : zM) {Q : Int → zM → Prop} (hq : zsh q = some (6, 12)) (hq1 : zsh q1 = some (6, 12)) (h : zok m0 → ∀ m1 : zM, m1 = sI m0 q 0 (m0.1 q1 0) → zok m1 → (∀ m3 : zM, m3 = sI m1 q 1 (m1.1 q1 1) → zok m3 → (∀ m5 : zM, m5 = sI m3 q 2 (m3.1 q1 2) → zok m5 → (∀ m7 : zM, m7 = sI m5 q 3 (m5.1 q1 3) → zok m7 → (∀ m9 : zM, m9 = sI m7 q 4 (m7.1 q1 4) → zok m9 → (∀ m11 : zM, m11 = sI m9 q 5 (m9.1 q1 5) → zok m11 → (∀ m13 : zM, m13 = sI m11 q 6 (m11.1 q1 6) → zok m13 → (∀ m15 : zM, m15 = sI m13 q 7 (m13.1 q1 7) → zok m15 → (∀ m17 : zM, m17 = sI m15 q 8 (m15.1 q1 8) → zok m17 → (∀ m19 : zM, m19 = sI m17 q 9 (m17.1 q1 9) → zok m19 → (∀ m21 : zM, m21 = sI m19 q 10 (m19.1 q1 10) → zok m21 → (∀ m23 : zM, m23 = sI m21 q 11 (m21.1 q1 11) → zok m23 → (Q 0 m23))))))))))))) : zV K mX3_copyFrom (d + 1) 0 [(0, rr K q), (1, rr K q1)] [] m0 Q := by
  refine zV_ok (fun hm0 => ?_)
  replace h := h hm0
  refine zV_aloadr_n (pc := 0) dX3_copyFrom_0 rfl 0 rfl ?_
  refine zV_aloadr_n (pc := 1) dX3_copyFrom_1 rfl 1 rfl ?_
  refine zV_getI (pc := 2) (kz := 0) dX3_copyFrom_2 zfX3_9 hq1 rfl rfl ?_
  refine zV_putI (pc := 5) (kz := 0) dX3_copyFrom_5 zpX3_9 hq rfl rfl (hm0 _ _) rfl rfl ?_
  refine zV_mem (fun m1 e2 => zV_ok (fun hm1 => ?_))
  replace h := h m1 e2 hm1
  refine zV_aloadr_n (pc := 8) dX3_copyFrom_8 rfl 0 rfl ?_
  refine zV_aloadr_n (pc := 9) dX3_copyFrom_9 rfl 1 rfl ?_
  refine zV_getI (pc := 10) (kz := 1) dX3_copyFrom_10 zfX3_15 hq1 rfl rfl ?_
  refine zV_putI (pc := 13) (kz := 1) dX3_copyFrom_13 zpX3_15 hq rfl rfl (hm1 _ _) rfl rfl ?_
  refine zV_mem (fun m3 e4 => zV_ok (fun hm3 => ?_))
  replace h := h m3 e4 hm3
  refine zV_aloadr_n (pc := 16) dX3_copyFrom_16 rfl 0 rfl ?_
  refine zV_aloadr_n (pc := 17) dX3_copyFrom_17 rfl 1 rfl ?_
  refine zV_getI (pc := 18) (kz := 2) dX3_copyFrom_18 zfX3_18 hq1 rfl rfl ?_
  refine zV_putI (pc := 21) (kz := 2) dX3_copyFrom_21 zpX3_18 hq rfl rfl (hm3 _ _) rfl rfl ?_
  refine zV_mem (fun m5 e6 => zV_ok (fun hm5 => ?_))
  replace h := h m5 e6 hm5
  refine zV_aloadr_n (pc := 24) dX3_copyFrom_24 rfl 0 rfl ?_
  refine zV_aloadr_n (pc := 25) dX3_copyFrom_25 rfl 1 rfl ?_
  refine zV_getI (pc := 26) (kz := 3) dX3_copyFrom_26 zfX3_21 hq1 rfl rfl ?_
  refine zV_putI (pc := 29) (kz := 3) dX3_copyFrom_29 zpX3_21 hq rfl rfl (hm5 _ _) rfl rfl ?_
  refine zV_mem (fun m7 e8 => zV_ok (fun hm7 => ?_))
  replace h := h m7 e8 hm7
  refine zV_aloadr_n (pc := 32) dX3_copyFrom_32 rfl 0 rfl ?_
  refine zV_aloadr_n (pc := 33) dX3_copyFrom_33 rfl 1 rfl ?_
  refine zV_getI (pc := 34) (kz := 4) dX3_copyFrom_34 zfX3_24 hq1 rfl rfl ?_
  refine zV_putI (pc := 37) (kz := 4) dX3_copyFrom_37 zpX3_24 hq rfl rfl (hm7 _ _) rfl rfl ?_
  refine zV_mem (fun m9 e10 => zV_ok (fun hm9 => ?_))
  replace h := h m9 e10 hm9
  refine zV_aloadr_n (pc := 40) dX3_copyFrom_40 rfl 0 rfl ?_
  refine zV_aloadr_n (pc := 41) dX3_copyFrom_41 rfl 1 rfl ?_
  refine zV_getI (pc := 42) (kz := 5) dX3_copyFrom_42 zfX3_31 hq1 rfl rfl ?_
  refine zV_putI (pc := 45) (kz := 5) dX3_copyFrom_45 zpX3_31 hq rfl rfl (hm9 _ _) rfl rfl ?_
  refine zV_mem (fun m11 e12 => zV_ok (fun hm11 => ?_))
  replace h := h m11 e12 hm11
  refine zV_aloadr_n (pc := 48) dX3_copyFrom_48 rfl 0 rfl ?_
  refine zV_aloadr_n (pc := 49) dX3_copyFrom_49 rfl 1 rfl ?_
  refine zV_getI (pc := 50) (kz := 6) dX3_copyFrom_50 zfX3_34 hq1 rfl rfl ?_
  refine zV_putI (pc := 53) (kz := 6) dX3_copyFrom_53 zpX3_34 hq rfl rfl (hm11 _ _) rfl rfl ?_
  refine zV_mem (fun m13 e14 => zV_ok (fun hm13 => ?_))
  replace h := h m13 e14 hm13
  refine zV_aloadr_n (pc := 56) dX3_copyFrom_56 rfl 0 rfl ?_
  refine zV_aloadr_n (pc := 57) dX3_copyFrom_57 rfl 1 rfl ?_
  refine zV_getI (pc := 58) (kz := 7) dX3_copyFrom_58 zfX3_37 hq1 rfl rfl ?_
  refine zV_putI (pc := 61) (kz := 7) dX3_copyFrom_61 zpX3_37 hq rfl rfl (hm13 _ _) rfl rfl ?_
  refine zV_mem (fun m15 e16 => zV_ok (fun hm15 => ?_))
  replace h := h m15 e16 hm15
  refine zV_aloadr_n (pc := 64) dX3_copyFrom_64 rfl 0 rfl ?_
  refine zV_aloadr_n (pc := 65) dX3_copyFrom_65 rfl 1 rfl ?_
  refine zV_getI (pc := 66) (kz := 8) dX3_copyFrom_66 zfX3_43 hq1 rfl rfl ?_
  refine zV_putI (pc := 69) (kz := 8) dX3_copyFrom_69 zpX3_43 hq rfl rfl (hm15 _ _) rfl rfl ?_
  refine zV_mem (fun m17 e18 => zV_ok (fun hm17 => ?_))
  replace h := h m17 e18 hm17
  refine zV_aloadr_n (pc := 72) dX3_copyFrom_72 rfl 0 rfl ?_
  refine zV_aloadr_n (pc := 73) dX3_copyFrom_73 rfl 1 rfl ?_
  refine zV_getI (pc := 74) (kz := 9) dX3_copyFrom_74 zfX3_46 hq1 rfl rfl ?_
  refine zV_putI (pc := 77) (kz := 9) dX3_copyFrom_77 zpX3_46 hq rfl rfl (hm17 _ _) rfl rfl ?_
  refine zV_mem (fun m19 e20 => zV_ok (fun hm19 => ?_))
  replace h := h m19 e20 hm19
  refine zV_aloadr_n (pc := 80) dX3_copyFrom_80 rfl 0 rfl ?_
  refine zV_aloadr_n (pc := 81) dX3_copyFrom_81 rfl 1 rfl ?_
  refine zV_getI (pc := 82) (kz := 10) dX3_copyFrom_82 zfX3_49 hq1 rfl rfl ?_
  refine zV_putI (pc := 85) (kz := 10) dX3_copyFrom_85 zpX3_49 hq rfl rfl (hm19 _ _) rfl rfl ?_
  refine zV_mem (fun m21 e22 => zV_ok (fun hm21 => ?_))
  replace h := h m21 e22 hm21
  refine zV_aloadr_n (pc := 88) dX3_copyFrom_88 rfl 0 rfl ?_
  refine zV_aloadr_n (pc := 89) dX3_copyFrom_89 rfl 1 rfl ?_
  refine zV_getI (pc := 90) (kz := 11) dX3_copyFrom_90 zfX3_52 hq1 rfl rfl ?_
  refine zV_putI (pc := 93) (kz := 11) dX3_copyFrom_93 zpX3_52 hq rfl rfl (hm21 _ _) rfl rfl ?_
  refine zV_mem (fun m23 e24 => zV_ok (fun hm23 => ?_))
  replace h := h m23 e24 hm23
  exact zV_vret (pc := 96) rfl dX3_copyFrom_96 h

set_option maxRecDepth 100000 in
set_option maxHeartbeats 4000000 in
theorem vc_X3_told_0 {K : zCx} {d : Nat} (q : Int) (x1 : Int) (m0 : zM) {Q : Int → zM → Prop} (hq : zsh q = some (6, 12)) (hx1 : inR x1) (h : zok m0 → (x1 = 0 → Q (m0.1 q 0) m0) ∧ (x1 = 1 → inR (((m0.1 q 1) * 10) + (m0.1 q 2)) ∧ (Q (((m0.1 q 1) * 10) + (m0.1 q 2)) m0)) ∧ (x1 = 2 → Q (m0.1 q 3) m0) ∧ (x1 = 3 → Q (m0.1 q 4) m0) ∧ (x1 = 4 → Q (m0.1 q 5) m0) ∧ (x1 = 5 → Q (m0.1 q 6) m0) ∧ (x1 = 6 → Q (m0.1 q 7) m0) ∧ (x1 = 7 → Q (m0.1 q 8) m0) ∧ (x1 = 8 → Q (m0.1 q 9) m0) ∧ ((x1 < 0 ∨ 8 < x1) → Q (-1) m0)) : zV K mX3_told (d + 1) 0 [(0, rr K q), (1, .int (iz x1))] [] m0 Q := by
  refine zV_ok (fun hm0 => ?_)
  replace h := h hm0
  refine zV_iload_n (pc := 0) dX3_told_0 rfl 1 rfl ?_
  have c1 : x1 = 0 ∨ x1 = 1 ∨ x1 = 2 ∨ x1 = 3 ∨ x1 = 4 ∨ x1 = 5 ∨ x1 = 6 ∨ x1 = 7 ∨ x1 = 8 ∨ (x1 < 0 ∨ 8 < x1) := by omega
  rcases c1 with c1 | c1 | c1 | c1 | c1 | c1 | c1 | c1 | c1 | c1
  · refine zV_tswIn (pc := 1) (tgt := 52) (v := 0) dX3_told_1 c1 (inRd rfl) (by decide) (by decide) rfl (by decide) ?_
    replace h := h.1 c1
    refine zV_aloadr_n (pc := 52) dX3_told_52 rfl 0 rfl ?_
    refine zV_getI (pc := 53) (kz := 0) dX3_told_53 zfX3_9 hq rfl rfl ?_
    exact zV_iret (pc := 56) rfl dX3_told_56 (hm0 _ _) h
  · refine zV_tswIn (pc := 1) (tgt := 57) (v := 1) dX3_told_1 c1 (inRd rfl) (by decide) (by decide) rfl (by decide) ?_
    replace h := h.2.1 c1
    refine zV_aloadr_n (pc := 57) dX3_told_57 rfl 0 rfl ?_
    refine zV_getI (pc := 58) (kz := 1) dX3_told_58 zfX3_15 hq rfl rfl ?_
    refine zV_bipush (pc := 61) dX3_told_61 (by decide) ?_
    refine zV_imul (pc := 63) dX3_told_63 ?_
    refine zV_aloadr_n (pc := 64) dX3_told_64 rfl 0 rfl ?_
    refine zV_getI (pc := 65) (kz := 2) dX3_told_65 zfX3_18 hq rfl rfl ?_
    refine zV_iadd (pc := 68) dX3_told_68 ?_
    obtain ⟨o2, h⟩ := h
    exact zV_iret (pc := 69) rfl dX3_told_69 o2 h
  · refine zV_tswIn (pc := 1) (tgt := 70) (v := 2) dX3_told_1 c1 (inRd rfl) (by decide) (by decide) rfl (by decide) ?_
    replace h := h.2.2.1 c1
    refine zV_aloadr_n (pc := 70) dX3_told_70 rfl 0 rfl ?_
    refine zV_getI (pc := 71) (kz := 3) dX3_told_71 zfX3_21 hq rfl rfl ?_
    exact zV_iret (pc := 74) rfl dX3_told_74 (hm0 _ _) h
  · refine zV_tswIn (pc := 1) (tgt := 75) (v := 3) dX3_told_1 c1 (inRd rfl) (by decide) (by decide) rfl (by decide) ?_
    replace h := h.2.2.2.1 c1
    refine zV_aloadr_n (pc := 75) dX3_told_75 rfl 0 rfl ?_
    refine zV_getI (pc := 76) (kz := 4) dX3_told_76 zfX3_24 hq rfl rfl ?_
    exact zV_iret (pc := 79) rfl dX3_told_79 (hm0 _ _) h
  · refine zV_tswIn (pc := 1) (tgt := 80) (v := 4) dX3_told_1 c1 (inRd rfl) (by decide) (by decide) rfl (by decide) ?_
    replace h := h.2.2.2.2.1 c1
    refine zV_aloadr_n (pc := 80) dX3_told_80 rfl 0 rfl ?_
    refine zV_getI (pc := 81) (kz := 5) dX3_told_81 zfX3_31 hq rfl rfl ?_
    exact zV_iret (pc := 84) rfl dX3_told_84 (hm0 _ _) h
  · refine zV_tswIn (pc := 1) (tgt := 85) (v := 5) dX3_told_1 c1 (inRd rfl) (by decide) (by decide) rfl (by decide) ?_
    replace h := h.2.2.2.2.2.1 c1
    refine zV_aloadr_n (pc := 85) dX3_told_85 rfl 0 rfl ?_
    refine zV_getI (pc := 86) (kz := 6) dX3_told_86 zfX3_34 hq rfl rfl ?_
    exact zV_iret (pc := 89) rfl dX3_told_89 (hm0 _ _) h
  · refine zV_tswIn (pc := 1) (tgt := 90) (v := 6) dX3_told_1 c1 (inRd rfl) (by decide) (by decide) rfl (by decide) ?_
    replace h := h.2.2.2.2.2.2.1 c1
    refine zV_aloadr_n (pc := 90) dX3_told_90 rfl 0 rfl ?_
    refine zV_getI (pc := 91) (kz := 7) dX3_told_91 zfX3_37 hq rfl rfl ?_
    exact zV_iret (pc := 94) rfl dX3_told_94 (hm0 _ _) h
  · refine zV_tswIn (pc := 1) (tgt := 95) (v := 7) dX3_told_1 c1 (inRd rfl) (by decide) (by decide) rfl (by decide) ?_
    replace h := h.2.2.2.2.2.2.2.1 c1
    refine zV_aloadr_n (pc := 95) dX3_told_95 rfl 0 rfl ?_
    refine zV_getI (pc := 96) (kz := 8) dX3_told_96 zfX3_43 hq rfl rfl ?_
    exact zV_iret (pc := 99) rfl dX3_told_99 (hm0 _ _) h
  · refine zV_tswIn (pc := 1) (tgt := 100) (v := 8) dX3_told_1 c1 (inRd rfl) (by decide) (by decide) rfl (by decide) ?_
    replace h := h.2.2.2.2.2.2.2.2.1 c1
    refine zV_aloadr_n (pc := 100) dX3_told_100 rfl 0 rfl ?_
    refine zV_getI (pc := 101) (kz := 9) dX3_told_101 zfX3_46 hq rfl rfl ?_
    exact zV_iret (pc := 104) rfl dX3_told_104 (hm0 _ _) h
  · refine zV_tswOut (pc := 1) (tgt := 105) dX3_told_1 hx1 c1 (by decide) ?_
    replace h := h.2.2.2.2.2.2.2.2.2 c1
    refine zV_iconst (pc := 105) dX3_told_105 ?_
    exact zV_iret (pc := 106) rfl dX3_told_106 (inRd rfl) h

set_option maxRecDepth 100000 in
set_option maxHeartbeats 4000000 in
theorem vc_X3_suffer_0 {K : zCx} {d : Nat} (q : Int) (x1 : Int) (m0 : zM) {Q : Int → zM → Prop} (hq : zsh q = some (6, 12)) (hx1 : inR x1) (h : zok m0 → (x1 = 0 → ∀ m12 : zM, m12 = sI m0 q 4 1 → zok m12 → (Q 0 m12)) ∧ (¬ (x1 = 0) → (x1 = 1 → ∀ v6 : Int, v6 = (m0.1 q 1) → (∀ m8 : zM, m8 = sI m0 q 1 (m0.1 q 2) → zok m8 → (∀ m10 : zM, m10 = sI m8 q 2 v6 → zok m10 → (Q 0 m10)))) ∧ (¬ (x1 = 1) → inR (10 - (m0.1 q 3)) ∧ (∀ m4 : zM, m4 = sI m0 q 3 (10 - (m0.1 q 3)) → zok m4 → (Q 0 m4))))) : zV K mX3_suffer (d + 1) 0 [(0, rr K q), (1, .int (iz x1))] [] m0 Q := by
  refine zV_ok (fun hm0 => ?_)
  replace h := h hm0
  refine zV_iload_n (pc := 0) dX3_suffer_0 rfl 1 rfl ?_
  refine zV_if_ne (pc := 1) (tgt := 12) dX3_suffer_1 (by decide) hx1 (fun c1 => ?_) (fun c1 => ?_)
  · skip
    replace h := h.2 c1
    refine zV_iload_n (pc := 12) dX3_suffer_12 rfl 1 rfl ?_
    refine zV_iconst (pc := 13) dX3_suffer_13 ?_
    refine zV_icmp_ne (pc := 14) (tgt := 38) dX3_suffer_14 (by decide) hx1 (inRd rfl) (fun c2 => ?_) (fun c2 => ?_)
    · skip
      replace h := h.2 c2
      refine zV_aloadr_n (pc := 38) dX3_suffer_38 rfl 0 rfl ?_
      refine zV_bipush (pc := 39) dX3_suffer_39 (by decide) ?_
      refine zV_aloadr_n (pc := 41) dX3_suffer_41 rfl 0 rfl ?_
      refine zV_getI (pc := 42) (kz := 3) dX3_suffer_42 zfX3_21 hq rfl rfl ?_
      refine zV_isub (pc := 45) dX3_suffer_45 ?_
      obtain ⟨o3, h⟩ := h
      refine zV_putI (pc := 46) (kz := 3) dX3_suffer_46 zpX3_21 hq rfl rfl o3 rfl rfl ?_
      refine zV_mem (fun m4 e5 => zV_ok (fun hm4 => ?_))
      replace h := h m4 e5 hm4
      exact zV_vret (pc := 49) rfl dX3_suffer_49 h
    · replace c2 := Classical.not_not.mp c2
      replace h := h.1 c2
      refine zV_aloadr_n (pc := 17) dX3_suffer_17 rfl 0 rfl ?_
      refine zV_getI (pc := 18) (kz := 1) dX3_suffer_18 zfX3_15 hq rfl rfl ?_
      refine zV_name (fun v6 e7 => ?_)
      replace h := h v6 e7
      have hrv6 : inR v6 := by rw [e7]; exact (hm0 _ _)
      refine zV_istore_n (pc := 21) (loc' := [(2, .int (iz v6)), (0, rr K q), (1, .int (iz x1))]) dX3_suffer_21 rfl (by decide) rfl ?_
      refine zV_aloadr_n (pc := 22) dX3_suffer_22 rfl 1 rfl ?_
      refine zV_aloadr_n (pc := 23) dX3_suffer_23 rfl 1 rfl ?_
      refine zV_getI (pc := 24) (kz := 2) dX3_suffer_24 zfX3_18 hq rfl rfl ?_
      refine zV_putI (pc := 27) (kz := 1) dX3_suffer_27 zpX3_15 hq rfl rfl (hm0 _ _) rfl rfl ?_
      refine zV_mem (fun m8 e9 => zV_ok (fun hm8 => ?_))
      replace h := h m8 e9 hm8
      refine zV_aloadr_n (pc := 30) dX3_suffer_30 rfl 1 rfl ?_
      refine zV_iload_n (pc := 31) dX3_suffer_31 rfl 0 rfl ?_
      refine zV_putI (pc := 32) (kz := 2) dX3_suffer_32 zpX3_18 hq rfl rfl hrv6 rfl rfl ?_
      refine zV_mem (fun m10 e11 => zV_ok (fun hm10 => ?_))
      replace h := h m10 e11 hm10
      refine zV_goto (pc := 35) (tgt := 49) dX3_suffer_35 (by decide) ?_
      exact zV_vret (pc := 49) rfl dX3_suffer_49 h
  · replace c1 := Classical.not_not.mp c1
    replace h := h.1 c1
    refine zV_aloadr_n (pc := 4) dX3_suffer_4 rfl 0 rfl ?_
    refine zV_iconst (pc := 5) dX3_suffer_5 ?_
    refine zV_putI (pc := 6) (kz := 4) dX3_suffer_6 zpX3_24 hq rfl rfl (inRd rfl) rfl rfl ?_
    refine zV_mem (fun m12 e13 => zV_ok (fun hm12 => ?_))
    replace h := h m12 e13 hm12
    refine zV_goto (pc := 9) (tgt := 49) dX3_suffer_9 (by decide) ?_
    exact zV_vret (pc := 49) rfl dX3_suffer_49 h

set_option maxRecDepth 100000 in
set_option maxHeartbeats 4000000 in
theorem vc_X4_copyFrom_0 {K : zCx} {d : Nat} (pl : Int) (pl1 : Int) (m0 : zM) {Q : Int → zM → Prop} (hpl : zPl pl) (hpl1 : zPl pl1) (h : zok m0 → zCt K (d + 2) mX4_copyParts [rr K pl, rr K pl1] m0 (fun r1 m2 => inR r1 → zok m2 → 0 ≤ (0 : Int) ∧ 0 ≤ (0 : Int) ∧ 0 ≤ (84 : Int) ∧ (0 : Int) + (84 : Int) ≤ 84 ∧ (0 : Int) + (84 : Int) ≤ 84 ∧ (∀ m8 : zM, m8 = sC m2 (pl1 + 2) 0 (pl + 2) 0 84 → zok m8 → (0 ≤ (0 : Int) ∧ 0 ≤ (0 : Int) ∧ 0 ≤ (6 : Int) ∧ (0 : Int) + (6 : Int) ≤ 6 ∧ (0 : Int) + (6 : Int) ≤ 6 ∧ (∀ m15 : zM, m15 = sC m8 (pl1 + 3) 0 (pl + 3) 0 6 → zok m15 → (0 ≤ (0 : Int) ∧ 0 ≤ (0 : Int) ∧ 0 ≤ (6 : Int) ∧ (0 : Int) + (6 : Int) ≤ 6 ∧ (0 : Int) + (6 : Int) ≤ 6 ∧ (∀ m22 : zM, m22 = sC m15 (pl1 + 4) 0 (pl + 4) 0 6 → zok m22 → (0 ≤ (0 : Int) ∧ 0 ≤ (0 : Int) ∧ 0 ≤ (5 : Int) ∧ (0 : Int) + (5 : Int) ≤ 5 ∧ (0 : Int) + (5 : Int) ≤ 5 ∧ (∀ m29 : zM, m29 = sC m22 (pl1 + 5) 0 (pl + 5) 0 5 → zok m29 → (zCt K (d + 2) mX8_copyFrom [rr K (pl + 6), rr K (pl1 + 6)] m29 (fun r31 m32 => inR r31 → zok m32 → ∀ m33 : zM, m33 = sI m32 pl 7 (m32.1 pl1 7) → zok m33 → (∀ m35 : zM, m35 = sI m33 pl 8 (m33.1 pl1 8) → zok m35 → (∀ m37 : zM, m37 = sI m35 pl 9 (m35.1 pl1 9) → zok m37 → (∀ m39 : zM, m39 = sI m37 pl 10 (m37.1 pl1 10) → zok m39 → (Q 0 m39))))))))))))))) : zV K mX4_copyFrom (d + 3) 0 [(0, rr K pl), (1, rr K pl1)] [] m0 Q := by
  refine zV_ok (fun hm0 => ?_)
  replace h := h hm0
  refine zV_aloadr_n (pc := 0) dX4_copyFrom_0 rfl 0 rfl ?_
  refine zV_aloadr_n (pc := 1) dX4_copyFrom_1 rfl 1 rfl ?_
  refine zV_callV (pc := 2) (mc := mX4_copyParts) (As := [rr K pl1]) (rest := []) dX4_copyFrom_2 zcX4_42 ziX4_copyParts zsX4_copyParts (zPl_s0 hpl) rfl rfl rfl (Nat.le_of_ble_eq_true rfl) h (fun r1 m2 hr1 h => zV_ok (fun hm2 => ?_))
  replace h := h hr1 hm2
  refine zV_aloadr_n (pc := 5) dX4_copyFrom_5 rfl 1 rfl ?_
  refine zV_getR (pc := 6) dX4_copyFrom_6 zfX4_17 (zPl_s0 hpl1) rfl (zPl_r1 hpl1) ?_
  refine zV_iconst (pc := 9) dX4_copyFrom_9 ?_
  refine zV_aloadr_n (pc := 10) dX4_copyFrom_10 rfl 0 rfl ?_
  refine zV_getR (pc := 11) dX4_copyFrom_11 zfX4_17 (zPl_s0 hpl) rfl (zPl_r1 hpl) ?_
  refine zV_iconst (pc := 14) dX4_copyFrom_14 ?_
  refine zV_bipush (pc := 15) dX4_copyFrom_15 (by decide) ?_
  obtain ⟨o3, o4, o5, o6, o7, h⟩ := h
  refine zV_copy (pc := 17) dX4_copyFrom_17 (zmem 946 (by decide +kernel) (by decide +kernel)) (zPl_s2 hpl1) (zPl_s2 hpl) (inRd rfl) (inRd rfl) (inRd rfl) o3 o4 o5 o6 o7 ?_
  refine zV_mem (fun m8 e9 => zV_ok (fun hm8 => ?_))
  replace h := h m8 e9 hm8
  refine zV_aloadr_n (pc := 20) dX4_copyFrom_20 rfl 1 rfl ?_
  refine zV_getR (pc := 21) dX4_copyFrom_21 zfX4_21 (zPl_s0 hpl1) rfl (zPl_r2 hpl1) ?_
  refine zV_iconst (pc := 24) dX4_copyFrom_24 ?_
  refine zV_aloadr_n (pc := 25) dX4_copyFrom_25 rfl 0 rfl ?_
  refine zV_getR (pc := 26) dX4_copyFrom_26 zfX4_21 (zPl_s0 hpl) rfl (zPl_r2 hpl) ?_
  refine zV_iconst (pc := 29) dX4_copyFrom_29 ?_
  refine zV_bipush (pc := 30) dX4_copyFrom_30 (by decide) ?_
  obtain ⟨o10, o11, o12, o13, o14, h⟩ := h
  refine zV_copy (pc := 32) dX4_copyFrom_32 (zmem 946 (by decide +kernel) (by decide +kernel)) (zPl_s3 hpl1) (zPl_s3 hpl) (inRd rfl) (inRd rfl) (inRd rfl) o10 o11 o12 o13 o14 ?_
  refine zV_mem (fun m15 e16 => zV_ok (fun hm15 => ?_))
  replace h := h m15 e16 hm15
  refine zV_aloadr_n (pc := 35) dX4_copyFrom_35 rfl 1 rfl ?_
  refine zV_getR (pc := 36) dX4_copyFrom_36 zfX4_24 (zPl_s0 hpl1) rfl (zPl_r3 hpl1) ?_
  refine zV_iconst (pc := 39) dX4_copyFrom_39 ?_
  refine zV_aloadr_n (pc := 40) dX4_copyFrom_40 rfl 0 rfl ?_
  refine zV_getR (pc := 41) dX4_copyFrom_41 zfX4_24 (zPl_s0 hpl) rfl (zPl_r3 hpl) ?_
  refine zV_iconst (pc := 44) dX4_copyFrom_44 ?_
  refine zV_bipush (pc := 45) dX4_copyFrom_45 (by decide) ?_
  obtain ⟨o17, o18, o19, o20, o21, h⟩ := h
  refine zV_copy (pc := 47) dX4_copyFrom_47 (zmem 946 (by decide +kernel) (by decide +kernel)) (zPl_s4 hpl1) (zPl_s4 hpl) (inRd rfl) (inRd rfl) (inRd rfl) o17 o18 o19 o20 o21 ?_
  refine zV_mem (fun m22 e23 => zV_ok (fun hm22 => ?_))
  replace h := h m22 e23 hm22
  refine zV_aloadr_n (pc := 50) dX4_copyFrom_50 rfl 1 rfl ?_
  refine zV_getR (pc := 51) dX4_copyFrom_51 zfX4_27 (zPl_s0 hpl1) rfl (zPl_r4 hpl1) ?_
  refine zV_iconst (pc := 54) dX4_copyFrom_54 ?_
  refine zV_aloadr_n (pc := 55) dX4_copyFrom_55 rfl 0 rfl ?_
  refine zV_getR (pc := 56) dX4_copyFrom_56 zfX4_27 (zPl_s0 hpl) rfl (zPl_r4 hpl) ?_
  refine zV_iconst (pc := 59) dX4_copyFrom_59 ?_
  refine zV_iconst (pc := 60) dX4_copyFrom_60 ?_
  obtain ⟨o24, o25, o26, o27, o28, h⟩ := h
  refine zV_copy (pc := 61) dX4_copyFrom_61 (zmem 946 (by decide +kernel) (by decide +kernel)) (zPl_s5 hpl1) (zPl_s5 hpl) (inRd rfl) (inRd rfl) (inRd rfl) o24 o25 o26 o27 o28 ?_
  refine zV_mem (fun m29 e30 => zV_ok (fun hm29 => ?_))
  replace h := h m29 e30 hm29
  refine zV_aloadr_n (pc := 64) dX4_copyFrom_64 rfl 0 rfl ?_
  refine zV_getR (pc := 65) dX4_copyFrom_65 zfX4_33 (zPl_s0 hpl) rfl (zPl_r5 hpl) ?_
  refine zV_aloadr_n (pc := 68) dX4_copyFrom_68 rfl 1 rfl ?_
  refine zV_getR (pc := 69) dX4_copyFrom_69 zfX4_33 (zPl_s0 hpl1) rfl (zPl_r5 hpl1) ?_
  refine zV_callV (pc := 72) (mc := mX8_copyFrom) (As := [rr K (pl1 + 6)]) (rest := []) dX4_copyFrom_72 zcX4_52 ziX8_copyFrom zsX8_copyFrom (zPl_s6 hpl) rfl rfl rfl (Nat.le_of_ble_eq_true rfl) h (fun r31 m32 hr31 h => zV_ok (fun hm32 => ?_))
  replace h := h hr31 hm32
  refine zV_aloadr_n (pc := 75) dX4_copyFrom_75 rfl 0 rfl ?_
  refine zV_aloadr_n (pc := 76) dX4_copyFrom_76 rfl 1 rfl ?_
  refine zV_getI (pc := 77) (kz := 7) dX4_copyFrom_77 zfX4_56 (zPl_s0 hpl1) rfl rfl ?_
  refine zV_putI (pc := 80) (kz := 7) dX4_copyFrom_80 zpX4_56 (zPl_s0 hpl) rfl rfl (hm32 _ _) rfl rfl ?_
  refine zV_mem (fun m33 e34 => zV_ok (fun hm33 => ?_))
  replace h := h m33 e34 hm33
  refine zV_aloadr_n (pc := 83) dX4_copyFrom_83 rfl 0 rfl ?_
  refine zV_aloadr_n (pc := 84) dX4_copyFrom_84 rfl 1 rfl ?_
  refine zV_getI (pc := 85) (kz := 8) dX4_copyFrom_85 zfX4_59 (zPl_s0 hpl1) rfl rfl ?_
  refine zV_putI (pc := 88) (kz := 8) dX4_copyFrom_88 zpX4_59 (zPl_s0 hpl) rfl rfl (hm33 _ _) rfl rfl ?_
  refine zV_mem (fun m35 e36 => zV_ok (fun hm35 => ?_))
  replace h := h m35 e36 hm35
  refine zV_aloadr_n (pc := 91) dX4_copyFrom_91 rfl 0 rfl ?_
  refine zV_aloadr_n (pc := 92) dX4_copyFrom_92 rfl 1 rfl ?_
  refine zV_getI (pc := 93) (kz := 9) dX4_copyFrom_93 zfX4_62 (zPl_s0 hpl1) rfl rfl ?_
  refine zV_putI (pc := 96) (kz := 9) dX4_copyFrom_96 zpX4_62 (zPl_s0 hpl) rfl rfl (hm35 _ _) rfl rfl ?_
  refine zV_mem (fun m37 e38 => zV_ok (fun hm37 => ?_))
  replace h := h m37 e38 hm37
  refine zV_aloadr_n (pc := 99) dX4_copyFrom_99 rfl 0 rfl ?_
  refine zV_aloadr_n (pc := 100) dX4_copyFrom_100 rfl 1 rfl ?_
  refine zV_getI (pc := 101) (kz := 10) dX4_copyFrom_101 zfX4_37 (zPl_s0 hpl1) rfl rfl ?_
  refine zV_putI (pc := 104) (kz := 10) dX4_copyFrom_104 zpX4_37 (zPl_s0 hpl) rfl rfl (hm37 _ _) rfl rfl ?_
  refine zV_mem (fun m39 e40 => zV_ok (fun hm39 => ?_))
  replace h := h m39 e40 hm39
  exact zV_vret (pc := 107) rfl dX4_copyFrom_107 h

set_option maxRecDepth 100000 in
set_option maxHeartbeats 4000000 in
theorem vc_X4_copyParts_0 {K : zCx} {d : Nat} (pl : Int) (pl1 : Int) (m0 : zM) {Q : Int → zM → Prop} (hpl : zPl pl) (hpl1 : zPl pl1) (h : zok m0 → ∀ m1 : zM, m1 = sI m0 pl 6 (m0.1 pl1 6) → zok m1 → (zV K mX4_copyParts (d + 2) 10 [(0, rr K pl), (1, rr K pl1), (2, .int (iz 0))] [] m1 Q)) : zV K mX4_copyParts (d + 2) 0 [(0, rr K pl), (1, rr K pl1)] [] m0 Q := by
  refine zV_ok (fun hm0 => ?_)
  replace h := h hm0
  refine zV_aloadr_n (pc := 0) dX4_copyParts_0 rfl 0 rfl ?_
  refine zV_aloadr_n (pc := 1) dX4_copyParts_1 rfl 1 rfl ?_
  refine zV_getI (pc := 2) (kz := 6) dX4_copyParts_2 zfX4_65 (zPl_s0 hpl1) rfl rfl ?_
  refine zV_putI (pc := 5) (kz := 6) dX4_copyParts_5 zpX4_65 (zPl_s0 hpl) rfl rfl (hm0 _ _) rfl rfl ?_
  refine zV_mem (fun m1 e2 => zV_ok (fun hm1 => ?_))
  replace h := h m1 e2 hm1
  refine zV_iconst (pc := 8) dX4_copyParts_8 ?_
  refine zV_istore_n (pc := 9) (loc' := [(2, .int (iz 0)), (0, rr K pl), (1, rr K pl1)]) dX4_copyParts_9 rfl (by decide) rfl ?_
  exact zV_sub [1, 2, 0] rfl h
set_option maxRecDepth 100000 in
set_option maxHeartbeats 4000000 in
theorem vc_X4_copyParts_10 {K : zCx} {d : Nat} (x2 : Int) (pl : Int) (pl1 : Int) (m0 : zM) {Q : Int → zM → Prop} (hx2 : inR x2) (hpl : zPl pl) (hpl1 : zPl pl1) (h : zok m0 → ((m0.1 pl 6) ≤ x2 → Q 0 m0) ∧ (¬ ((m0.1 pl 6) ≤ x2) → 0 ≤ x2 ∧ x2 < 10 ∧ (zCt K (d + 1) mX3_copyFrom [rr K (pl + 9 + x2), rr K (pl1 + 9 + x2)] m0 (fun r4 m5 => inR r4 → zok m5 → zV K mX4_copyParts (d + 2) 10 [(0, rr K pl), (1, rr K pl1), (2, .int (iz (x2 + 1)))] [] m5 Q)))) : zV K mX4_copyParts (d + 2) 10 [(0, rr K pl), (1, rr K pl1), (2, .int (iz x2))] [] m0 Q := by
  refine zV_ok (fun hm0 => ?_)
  replace h := h hm0
  refine zV_iload_n (pc := 10) dX4_copyParts_10 rfl 2 rfl ?_
  refine zV_aloadr_n (pc := 11) dX4_copyParts_11 rfl 0 rfl ?_
  refine zV_getI (pc := 12) (kz := 6) dX4_copyParts_12 zfX4_65 (zPl_s0 hpl) rfl rfl ?_
  refine zV_icmp_ge (pc := 15) (tgt := 39) dX4_copyParts_15 (by decide) hx2 (hm0 _ _) (fun c1 => ?_) (fun c1 => ?_)
  · skip
    replace h := h.1 c1
    exact zV_vret (pc := 39) rfl dX4_copyParts_39 h
  · skip
    replace h := h.2 c1
    refine zV_aloadr_n (pc := 18) dX4_copyParts_18 rfl 0 rfl ?_
    refine zV_getR (pc := 19) dX4_copyParts_19 zfX4_11 (zPl_s0 hpl) rfl (zPl_r0 hpl) ?_
    refine zV_iload_n (pc := 22) dX4_copyParts_22 rfl 2 rfl ?_
    obtain ⟨o2, o3, h⟩ := h
    refine zV_aald (pc := 23) dX4_copyParts_23 (zPl_s1 hpl) o2 o3 (inR_ix o2 o3 rfl) (zPl_p hpl o2 o3) ?_
    refine zV_aloadr_n (pc := 24) dX4_copyParts_24 rfl 1 rfl ?_
    refine zV_getR (pc := 25) dX4_copyParts_25 zfX4_11 (zPl_s0 hpl1) rfl (zPl_r0 hpl1) ?_
    refine zV_iload_n (pc := 28) dX4_copyParts_28 rfl 2 rfl ?_
    refine zV_aald (pc := 29) dX4_copyParts_29 (zPl_s1 hpl1) o2 o3 (inR_ix o2 o3 rfl) (zPl_p hpl1 o2 o3) ?_
    refine zV_callV (pc := 30) (mc := mX3_copyFrom) (As := [rr K (pl1 + 9 + x2)]) (rest := []) dX4_copyParts_30 zcX4_68 ziX3_copyFrom zsX3_copyFrom (zPl_sp hpl o2 o3) rfl rfl rfl (Nat.le_of_ble_eq_true rfl) h (fun r4 m5 hr4 h => zV_ok (fun hm5 => ?_))
    replace h := h hr4 hm5
    refine zV_iinc (pc := 33) (loc' := [(2, .int (iz (x2 + 1))), (0, rr K pl), (1, rr K pl1)]) dX4_copyParts_33 2 rfl (by decide) rfl ?_
    refine zV_goto (pc := 36) (tgt := 10) dX4_copyParts_36 (by decide) ?_
    exact zV_sub [1, 2, 0] rfl h

set_option maxRecDepth 100000 in
set_option maxHeartbeats 4000000 in
theorem vc_X4_isGate_0 {K : zCx} {d : Nat} (pl : Int) (x1 : Int) (x2 : Int) (m0 : zM) {Q : Int → zM → Prop} (hpl : zPl pl) (hx1 : inR x1) (hx2 : inR x2) (h : zok m0 → (x2 < 0 → Q 0 m0) ∧ (¬ (x2 < 0) → ((Int.tmod x2 10) < 5 → ∀ v3 : Int, v3 = (Int.tdiv x2 10) → ((x1 = 2 → (v3 = 0 → Q 1 m0) ∧ (¬ (v3 = 0) → Q 0 m0)) ∧ (¬ (x1 = 2) → (0 ≤ m0.1 pl 6) ∧ (((0 ≤ v3 ∧ v3 < m0.1 pl 6) → 0 ≤ v3 ∧ v3 < 10 ∧ ((((m0.1 (pl + 9 + v3) 0) = 2 ∨ (m0.1 (pl + 9 + v3) 0) = 3) → Q 1 m0) ∧ (¬ (((m0.1 (pl + 9 + v3) 0) = 2 ∨ (m0.1 (pl + 9 + v3) 0) = 3)) → Q 0 m0))) ∧ (¬ ((0 ≤ v3 ∧ v3 < m0.1 pl 6)) → Q 0 m0))))) ∧ (¬ ((Int.tmod x2 10) < 5) → Q 0 m0))) : zV K mX4_isGate (d + 3) 0 [(0, rr K pl), (1, .int (iz x1)), (2, .int (iz x2))] [] m0 Q := by
  refine zV_ok (fun hm0 => ?_)
  replace h := h hm0
  refine zV_iload_n (pc := 0) dX4_isGate_0 rfl 2 rfl ?_
  refine zV_if_lt (pc := 1) (tgt := 12) dX4_isGate_1 (by decide) hx2 (fun c1 => ?_) (fun c1 => ?_)
  · skip
    replace h := h.1 c1
    refine zV_iconst (pc := 12) dX4_isGate_12 ?_
    exact zV_zret (pc := 13) rfl dX4_isGate_13 (Or.inl rfl) h
  · skip
    replace h := h.2 c1
    refine zV_iload_n (pc := 4) dX4_isGate_4 rfl 2 rfl ?_
    refine zV_bipush (pc := 5) dX4_isGate_5 (by decide) ?_
    refine zV_irem (pc := 7) dX4_isGate_7 hx2 (inRd rfl) (by decide) (fun q => absurd q.2 (by decide)) ?_
    refine zV_iconst (pc := 8) dX4_isGate_8 ?_
    refine zV_icmp_lt (pc := 9) (tgt := 14) dX4_isGate_9 (by decide) (inR_tmod hx2 (by decide)) (inRd rfl) (fun c2 => ?_) (fun c2 => ?_)
    · skip
      replace h := h.1 c2
      refine zV_iload_n (pc := 14) dX4_isGate_14 rfl 2 rfl ?_
      refine zV_bipush (pc := 15) dX4_isGate_15 (by decide) ?_
      refine zV_idiv (pc := 17) dX4_isGate_17 hx2 (inRd rfl) (by decide) (fun q => absurd q.2 (by decide)) ?_
      refine zV_name (fun v3 e4 => ?_)
      replace h := h v3 e4
      have hrv3 : inR v3 := by rw [e4]; exact (inR_tdiv hx2 (by decide))
      refine zV_istore_n (pc := 18) (loc' := [(3, .int (iz v3)), (0, rr K pl), (1, .int (iz x1)), (2, .int (iz x2))]) dX4_isGate_18 rfl (by decide) rfl ?_
      refine zV_iload_n (pc := 19) dX4_isGate_19 rfl 2 rfl ?_
      refine zV_iconst (pc := 20) dX4_isGate_20 ?_
      refine zV_icmp_ne (pc := 21) (tgt := 34) dX4_isGate_21 (by decide) hx1 (inRd rfl) (fun c5 => ?_) (fun c5 => ?_)
      · skip
        replace h := h.2 c5
        refine zV_aloadr_n (pc := 34) dX4_isGate_34 rfl 1 rfl ?_
        refine zV_iload_n (pc := 35) dX4_isGate_35 rfl 0 rfl ?_
        obtain ⟨o6, h⟩ := h
        refine zV_callVf (pc := 36) (mc := mX4_hasPart) (As := [.int (iz v3)]) (rest := []) dX4_isGate_36 zcX4_75 ziX4_hasPart zsX4_hasPart (zPl_s0 hpl) rfl rfl rfl (Nat.le_of_ble_eq_true rfl) (c_X4_hasPart hpl hrv3 hm0 o6) (fun hr7 => ?_)
        refine zV_if_eq (pc := 39) (tgt := 61) dX4_isGate_39 (by decide) (inR_b2i _) (fun c9 => ?_) (fun c9 => ?_)
        · replace c9 := b2i_fp c9
          replace h := h.2 c9
          refine zV_iconst (pc := 61) dX4_isGate_61 ?_
          exact zV_zret (pc := 62) rfl dX4_isGate_62 (Or.inl rfl) h
        · replace c9 := b2i_tp c9
          replace h := h.1 c9
          refine zV_aloadr_n (pc := 42) dX4_isGate_42 rfl 1 rfl ?_
          refine zV_getR (pc := 43) dX4_isGate_43 zfX4_11 (zPl_s0 hpl) rfl (zPl_r0 hpl) ?_
          refine zV_iload_n (pc := 46) dX4_isGate_46 rfl 0 rfl ?_
          obtain ⟨o10, o11, h⟩ := h
          refine zV_aald (pc := 47) dX4_isGate_47 (zPl_s1 hpl) o10 o11 (inR_ix o10 o11 rfl) (zPl_p hpl o10 o11) ?_
          refine zV_getI (pc := 48) (kz := 0) dX4_isGate_48 zfX4_79 (zPl_sp hpl o10 o11) rfl rfl ?_
          refine zV_callSNf (pc := 51) (mc := mX9_hasGate) (As := [.int (iz (m0.1 (pl + 9 + v3) 0))]) (rest := []) dX4_isGate_51 zcX4_82 ztX9_hasGate rfl rfl (Nat.le_of_ble_eq_true rfl) (c_X9_hasGate (hm0 _ _)) (fun hr12 => ?_)
          refine zV_if_eq (pc := 54) (tgt := 61) dX4_isGate_54 (by decide) (inR_b2i _) (fun c14 => ?_) (fun c14 => ?_)
          · replace c14 := b2i_fp c14
            replace h := h.2 c14
            refine zV_iconst (pc := 61) dX4_isGate_61 ?_
            exact zV_zret (pc := 62) rfl dX4_isGate_62 (Or.inl rfl) h
          · replace c14 := b2i_tp c14
            replace h := h.1 c14
            refine zV_iconst (pc := 57) dX4_isGate_57 ?_
            refine zV_goto (pc := 58) (tgt := 62) dX4_isGate_58 (by decide) ?_
            exact zV_zret (pc := 62) rfl dX4_isGate_62 (Or.inr rfl) h
      · replace c5 := Classical.not_not.mp c5
        replace h := h.1 c5
        refine zV_iload_n (pc := 24) dX4_isGate_24 rfl 0 rfl ?_
        refine zV_if_ne (pc := 25) (tgt := 32) dX4_isGate_25 (by decide) hrv3 (fun c15 => ?_) (fun c15 => ?_)
        · skip
          replace h := h.2 c15
          refine zV_iconst (pc := 32) dX4_isGate_32 ?_
          exact zV_zret (pc := 33) rfl dX4_isGate_33 (Or.inl rfl) h
        · replace c15 := Classical.not_not.mp c15
          replace h := h.1 c15
          refine zV_iconst (pc := 28) dX4_isGate_28 ?_
          refine zV_goto (pc := 29) (tgt := 33) dX4_isGate_29 (by decide) ?_
          exact zV_zret (pc := 33) rfl dX4_isGate_33 (Or.inr rfl) h
    · skip
      replace h := h.2 c2
      refine zV_iconst (pc := 12) dX4_isGate_12 ?_
      exact zV_zret (pc := 13) rfl dX4_isGate_13 (Or.inl rfl) h

set_option maxRecDepth 100000 in
set_option maxHeartbeats 4000000 in
theorem vc_X4_dropChangesOf_0 {K : zCx} {d : Nat} (pl : Int) (x1 : Int) (m0 : zM) {Q : Int → zM → Prop} (hpl : zPl pl) (hx1 : inR x1) (h : zok m0 → zV K mX4_dropChangesOf (d + 1) 4 [(0, rr K pl), (1, .int (iz x1)), (2, .int (iz 0)), (3, .int (iz 0))] [] m0 Q) : zV K mX4_dropChangesOf (d + 1) 0 [(0, rr K pl), (1, .int (iz x1))] [] m0 Q := by
  refine zV_ok (fun hm0 => ?_)
  replace h := h hm0
  refine zV_iconst (pc := 0) dX4_dropChangesOf_0 ?_
  refine zV_istore_n (pc := 1) (loc' := [(2, .int (iz 0)), (0, rr K pl), (1, .int (iz x1))]) dX4_dropChangesOf_1 rfl (by decide) rfl ?_
  refine zV_iconst (pc := 2) dX4_dropChangesOf_2 ?_
  refine zV_istore_n (pc := 3) (loc' := [(3, .int (iz 0)), (2, .int (iz 0)), (0, rr K pl), (1, .int (iz x1))]) dX4_dropChangesOf_3 rfl (by decide) rfl ?_
  exact zV_sub [2, 3, 1, 0] rfl h
set_option maxRecDepth 100000 in
set_option maxHeartbeats 4000000 in
theorem vc_X4_dropChangesOf_4 {K : zCx} {d : Nat} (x1 : Int) (x2 : Int) (x3 : Int) (pl : Int) (m0 : zM) {Q : Int → zM → Prop} (hx1 : inR x1) (hx2 : inR x2) (hx3 : inR x3) (hpl : zPl pl) (h : zok m0 → ((m0.1 pl 8) ≤ x3 → ∀ m2 : zM, m2 = sI m0 pl 8 x2 → zok m2 → (Q 0 m2)) ∧ (¬ ((m0.1 pl 8) ≤ x3) → 0 ≤ x3 ∧ x3 < 6 ∧ (((m0.1 (pl + 3) x3) = x1 → zV K mX4_dropChangesOf (d + 1) 4 [(0, rr K pl), (1, .int (iz x1)), (2, .int (iz x2)), (3, .int (iz (x3 + 1)))] [] m0 Q) ∧ (¬ ((m0.1 (pl + 3) x3) = x1) → 0 ≤ x2 ∧ x2 < 6 ∧ (∀ m9 : zM, m9 = sI m0 (pl + 3) x2 (m0.1 (pl + 3) x3) → zok m9 → (∀ m11 : zM, m11 = sI m9 (pl + 4) x2 (m9.1 (pl + 4) x3) → zok m11 → (zV K mX4_dropChangesOf (d + 1) 4 [(0, rr K pl), (1, .int (iz x1)), (2, .int (iz (x2 + 1))), (3, .int (iz (x3 + 1)))] [] m11 Q))))))) : zV K mX4_dropChangesOf (d + 1) 4 [(0, rr K pl), (1, .int (iz x1)), (2, .int (iz x2)), (3, .int (iz x3))] [] m0 Q := by
  refine zV_ok (fun hm0 => ?_)
  replace h := h hm0
  refine zV_iload_n (pc := 4) dX4_dropChangesOf_4 rfl 3 rfl ?_
  refine zV_aloadr_n (pc := 5) dX4_dropChangesOf_5 rfl 0 rfl ?_
  refine zV_getI (pc := 6) (kz := 8) dX4_dropChangesOf_6 zfX4_59 (zPl_s0 hpl) rfl rfl ?_
  refine zV_icmp_ge (pc := 9) (tgt := 55) dX4_dropChangesOf_9 (by decide) hx3 (hm0 _ _) (fun c1 => ?_) (fun c1 => ?_)
  · skip
    replace h := h.1 c1
    refine zV_aloadr_n (pc := 55) dX4_dropChangesOf_55 rfl 0 rfl ?_
    refine zV_iload_n (pc := 56) dX4_dropChangesOf_56 rfl 2 rfl ?_
    refine zV_putI (pc := 57) (kz := 8) dX4_dropChangesOf_57 zpX4_59 (zPl_s0 hpl) rfl rfl hx2 rfl rfl ?_
    refine zV_mem (fun m2 e3 => zV_ok (fun hm2 => ?_))
    replace h := h m2 e3 hm2
    exact zV_vret (pc := 60) rfl dX4_dropChangesOf_60 h
  · skip
    replace h := h.2 c1
    refine zV_aloadr_n (pc := 12) dX4_dropChangesOf_12 rfl 0 rfl ?_
    refine zV_getR (pc := 13) dX4_dropChangesOf_13 zfX4_21 (zPl_s0 hpl) rfl (zPl_r2 hpl) ?_
    refine zV_iload_n (pc := 16) dX4_dropChangesOf_16 rfl 3 rfl ?_
    obtain ⟨o4, o5, h⟩ := h
    refine zV_iald (pc := 17) dX4_dropChangesOf_17 (zPl_s3 hpl) o4 o5 (inR_ix o4 o5 rfl) ?_
    refine zV_iload_n (pc := 18) dX4_dropChangesOf_18 rfl 1 rfl ?_
    refine zV_icmp_eq (pc := 19) (tgt := 49) dX4_dropChangesOf_19 (by decide) (hm0 _ _) hx1 (fun c6 => ?_) (fun c6 => ?_)
    · skip
      replace h := h.1 c6
      refine zV_iinc (pc := 49) (loc' := [(3, .int (iz (x3 + 1))), (0, rr K pl), (1, .int (iz x1)), (2, .int (iz x2))]) dX4_dropChangesOf_49 3 rfl (by decide) rfl ?_
      refine zV_goto (pc := 52) (tgt := 4) dX4_dropChangesOf_52 (by decide) ?_
      exact zV_sub [1, 2, 3, 0] rfl h
    · skip
      replace h := h.2 c6
      refine zV_aloadr_n (pc := 22) dX4_dropChangesOf_22 rfl 0 rfl ?_
      refine zV_getR (pc := 23) dX4_dropChangesOf_23 zfX4_21 (zPl_s0 hpl) rfl (zPl_r2 hpl) ?_
      refine zV_iload_n (pc := 26) dX4_dropChangesOf_26 rfl 2 rfl ?_
      refine zV_aloadr_n (pc := 27) dX4_dropChangesOf_27 rfl 0 rfl ?_
      refine zV_getR (pc := 28) dX4_dropChangesOf_28 zfX4_21 (zPl_s0 hpl) rfl (zPl_r2 hpl) ?_
      refine zV_iload_n (pc := 31) dX4_dropChangesOf_31 rfl 3 rfl ?_
      refine zV_iald (pc := 32) dX4_dropChangesOf_32 (zPl_s3 hpl) o4 o5 (inR_ix o4 o5 rfl) ?_
      obtain ⟨o7, o8, h⟩ := h
      refine zV_iast (pc := 33) dX4_dropChangesOf_33 (zPl_s3 hpl) o7 o8 (inR_ix o7 o8 rfl) (hm0 _ _) ?_
      refine zV_mem (fun m9 e10 => zV_ok (fun hm9 => ?_))
      replace h := h m9 e10 hm9
      refine zV_aloadr_n (pc := 34) dX4_dropChangesOf_34 rfl 0 rfl ?_
      refine zV_getR (pc := 35) dX4_dropChangesOf_35 zfX4_24 (zPl_s0 hpl) rfl (zPl_r3 hpl) ?_
      refine zV_iload_n (pc := 38) dX4_dropChangesOf_38 rfl 2 rfl ?_
      refine zV_aloadr_n (pc := 39) dX4_dropChangesOf_39 rfl 0 rfl ?_
      refine zV_getR (pc := 40) dX4_dropChangesOf_40 zfX4_24 (zPl_s0 hpl) rfl (zPl_r3 hpl) ?_
      refine zV_iload_n (pc := 43) dX4_dropChangesOf_43 rfl 3 rfl ?_
      refine zV_iald (pc := 44) dX4_dropChangesOf_44 (zPl_s4 hpl) o4 o5 (inR_ix o4 o5 rfl) ?_
      refine zV_iast (pc := 45) dX4_dropChangesOf_45 (zPl_s4 hpl) o7 o8 (inR_ix o7 o8 rfl) (hm9 _ _) ?_
      refine zV_mem (fun m11 e12 => zV_ok (fun hm11 => ?_))
      replace h := h m11 e12 hm11
      refine zV_iinc (pc := 46) (loc' := [(2, .int (iz (x2 + 1))), (0, rr K pl), (1, .int (iz x1)), (3, .int (iz x3))]) dX4_dropChangesOf_46 2 rfl (by decide) rfl ?_
      refine zV_iinc (pc := 49) (loc' := [(3, .int (iz (x3 + 1))), (2, .int (iz (x2 + 1))), (0, rr K pl), (1, .int (iz x1))]) dX4_dropChangesOf_49 3 rfl (by decide) rfl ?_
      refine zV_goto (pc := 52) (tgt := 4) dX4_dropChangesOf_52 (by decide) ?_
      exact zV_sub [2, 3, 1, 0] rfl h

set_option maxRecDepth 100000 in
set_option maxHeartbeats 4000000 in
theorem vc_X4_openCount_0 {K : zCx} {d : Nat} (pl : Int) (m0 : zM) {Q : Int → zM → Prop} (hpl : zPl pl) (h : zok m0 → zV K mX4_openCount (d + 2) 4 [(0, rr K pl), (1, .int (iz 0)), (2, .int (iz 0))] [] m0 Q) : zV K mX4_openCount (d + 2) 0 [(0, rr K pl)] [] m0 Q := by
  refine zV_ok (fun hm0 => ?_)
  replace h := h hm0
  refine zV_iconst (pc := 0) dX4_openCount_0 ?_
  refine zV_istore_n (pc := 1) (loc' := [(1, .int (iz 0)), (0, rr K pl)]) dX4_openCount_1 rfl (by decide) rfl ?_
  refine zV_iconst (pc := 2) dX4_openCount_2 ?_
  refine zV_istore_n (pc := 3) (loc' := [(2, .int (iz 0)), (1, .int (iz 0)), (0, rr K pl)]) dX4_openCount_3 rfl (by decide) rfl ?_
  exact zV_sub [2, 1, 0] rfl h
set_option maxRecDepth 100000 in
set_option maxHeartbeats 4000000 in
theorem vc_X4_openCount_4 {K : zCx} {d : Nat} (x1 : Int) (x2 : Int) (pl : Int) (m0 : zM) {Q : Int → zM → Prop} (hx1 : inR x1) (hx2 : inR x2) (hpl : zPl pl) (h : zok m0 → ((m0.1 pl 6) ≤ x2 → Q x1 m0) ∧ (¬ ((m0.1 pl 6) ≤ x2) → 0 ≤ x2 ∧ x2 < 10 ∧ (∀ v6 : Int, v6 = (if (¬ m0.1 (pl + 9 + x2) 11 = 0) then (x1 + 1) else x1) → (zV K mX4_openCount (d + 2) 4 [(0, rr K pl), (1, .int (iz v6)), (2, .int (iz (x2 + 1)))] [] m0 Q)))) : zV K mX4_openCount (d + 2) 4 [(0, rr K pl), (1, .int (iz x1)), (2, .int (iz x2))] [] m0 Q := by
  refine zV_ok (fun hm0 => ?_)
  replace h := h hm0
  refine zV_iload_n (pc := 4) dX4_openCount_4 rfl 2 rfl ?_
  refine zV_aloadr_n (pc := 5) dX4_openCount_5 rfl 0 rfl ?_
  refine zV_getI (pc := 6) (kz := 6) dX4_openCount_6 zfX4_65 (zPl_s0 hpl) rfl rfl ?_
  refine zV_icmp_ge (pc := 9) (tgt := 33) dX4_openCount_9 (by decide) hx2 (hm0 _ _) (fun c1 => ?_) (fun c1 => ?_)
  · skip
    replace h := h.1 c1
    refine zV_iload_n (pc := 33) dX4_openCount_33 rfl 1 rfl ?_
    exact zV_iret (pc := 34) rfl dX4_openCount_34 hx1 h
  · skip
    replace h := h.2 c1
    refine zV_aloadr_n (pc := 12) dX4_openCount_12 rfl 0 rfl ?_
    refine zV_getR (pc := 13) dX4_openCount_13 zfX4_11 (zPl_s0 hpl) rfl (zPl_r0 hpl) ?_
    refine zV_iload_n (pc := 16) dX4_openCount_16 rfl 2 rfl ?_
    obtain ⟨o2, o3, h⟩ := h
    refine zV_aald (pc := 17) dX4_openCount_17 (zPl_s1 hpl) o2 o3 (inR_ix o2 o3 rfl) (zPl_p hpl o2 o3) ?_
    refine zV_callVf (pc := 18) (mc := mX3_isOpen) (As := []) (rest := []) dX4_openCount_18 zcX4_85 ziX3_isOpen zsX3_isOpen (zPl_sp hpl o2 o3) rfl rfl rfl (Nat.le_of_ble_eq_true rfl) (c_X3_isOpen (zPl_sp hpl o2 o3) hm0) (fun hr4 => ?_)
    have key : ∀ v6 : Int, v6 = (if (¬ m0.1 (pl + 9 + x2) 11 = 0) then (x1 + 1) else x1) → zV K mX4_openCount (d + 2) 27 [(0, rr K pl), (1, .int (iz v6)), (2, .int (iz x2))] [] m0 Q := by
      intro v6 e7
      replace h := h v6 e7
      refine zV_iinc (pc := 27) (loc' := [(2, .int (iz (x2 + 1))), (0, rr K pl), (1, .int (iz v6))]) dX4_openCount_27 2 rfl (by decide) rfl ?_
      refine zV_goto (pc := 30) (tgt := 4) dX4_openCount_30 (by decide) ?_
      exact zV_sub [1, 2, 0] rfl h
    refine zV_if_eq (pc := 21) (tgt := 27) dX4_openCount_21 (by decide) (inR_b2i _) (fun c8 => ?_) (fun c8 => ?_)
    · replace c8 := b2i_fp c8
      exact zV_sub [0, 1, 2] rfl (key _ (if_neg c8).symm)
    · replace c8 := b2i_tp c8
      refine zV_iinc (pc := 24) (loc' := [(1, .int (iz (x1 + 1))), (0, rr K pl), (2, .int (iz x2))]) dX4_openCount_24 1 rfl (by decide) rfl ?_
      exact zV_sub [1, 0, 2] rfl (key _ (if_pos c8).symm)

set_option maxRecDepth 100000 in
set_option maxHeartbeats 4000000 in
theorem vc_X4_brokenCount_0 {K : zCx} {d : Nat} (pl : Int) (m0 : zM) {Q : Int → zM → Prop} (hpl : zPl pl) (h : zok m0 → zV K mX4_brokenCount (d + 1) 4 [(0, rr K pl), (1, .int (iz 0)), (2, .int (iz 0))] [] m0 Q) : zV K mX4_brokenCount (d + 1) 0 [(0, rr K pl)] [] m0 Q := by
  refine zV_ok (fun hm0 => ?_)
  replace h := h hm0
  refine zV_iconst (pc := 0) dX4_brokenCount_0 ?_
  refine zV_istore_n (pc := 1) (loc' := [(1, .int (iz 0)), (0, rr K pl)]) dX4_brokenCount_1 rfl (by decide) rfl ?_
  refine zV_iconst (pc := 2) dX4_brokenCount_2 ?_
  refine zV_istore_n (pc := 3) (loc' := [(2, .int (iz 0)), (1, .int (iz 0)), (0, rr K pl)]) dX4_brokenCount_3 rfl (by decide) rfl ?_
  exact zV_sub [2, 1, 0] rfl h
set_option maxRecDepth 100000 in
set_option maxHeartbeats 4000000 in
theorem vc_X4_brokenCount_4 {K : zCx} {d : Nat} (x1 : Int) (x2 : Int) (pl : Int) (m0 : zM) {Q : Int → zM → Prop} (hx1 : inR x1) (hx2 : inR x2) (hpl : zPl pl) (h : zok m0 → ((m0.1 pl 6) ≤ x2 → Q x1 m0) ∧ (¬ ((m0.1 pl 6) ≤ x2) → 0 ≤ x2 ∧ x2 < 10 ∧ (∀ v4 : Int, v4 = (if (m0.1 (pl + 9 + x2) 4) = 0 then x1 else (x1 + 1)) → (zV K mX4_brokenCount (d + 1) 4 [(0, rr K pl), (1, .int (iz v4)), (2, .int (iz (x2 + 1)))] [] m0 Q)))) : zV K mX4_brokenCount (d + 1) 4 [(0, rr K pl), (1, .int (iz x1)), (2, .int (iz x2))] [] m0 Q := by
  refine zV_ok (fun hm0 => ?_)
  replace h := h hm0
  refine zV_iload_n (pc := 4) dX4_brokenCount_4 rfl 2 rfl ?_
  refine zV_aloadr_n (pc := 5) dX4_brokenCount_5 rfl 0 rfl ?_
  refine zV_getI (pc := 6) (kz := 6) dX4_brokenCount_6 zfX4_65 (zPl_s0 hpl) rfl rfl ?_
  refine zV_icmp_ge (pc := 9) (tgt := 33) dX4_brokenCount_9 (by decide) hx2 (hm0 _ _) (fun c1 => ?_) (fun c1 => ?_)
  · skip
    replace h := h.1 c1
    refine zV_iload_n (pc := 33) dX4_brokenCount_33 rfl 1 rfl ?_
    exact zV_iret (pc := 34) rfl dX4_brokenCount_34 hx1 h
  · skip
    replace h := h.2 c1
    refine zV_aloadr_n (pc := 12) dX4_brokenCount_12 rfl 0 rfl ?_
    refine zV_getR (pc := 13) dX4_brokenCount_13 zfX4_11 (zPl_s0 hpl) rfl (zPl_r0 hpl) ?_
    refine zV_iload_n (pc := 16) dX4_brokenCount_16 rfl 2 rfl ?_
    obtain ⟨o2, o3, h⟩ := h
    refine zV_aald (pc := 17) dX4_brokenCount_17 (zPl_s1 hpl) o2 o3 (inR_ix o2 o3 rfl) (zPl_p hpl o2 o3) ?_
    refine zV_getI (pc := 18) (kz := 4) dX4_brokenCount_18 zfX4_89 (zPl_sp hpl o2 o3) rfl rfl ?_
    have key : ∀ v4 : Int, v4 = (if (m0.1 (pl + 9 + x2) 4) = 0 then x1 else (x1 + 1)) → zV K mX4_brokenCount (d + 1) 27 [(0, rr K pl), (1, .int (iz v4)), (2, .int (iz x2))] [] m0 Q := by
      intro v4 e5
      replace h := h v4 e5
      refine zV_iinc (pc := 27) (loc' := [(2, .int (iz (x2 + 1))), (0, rr K pl), (1, .int (iz v4))]) dX4_brokenCount_27 2 rfl (by decide) rfl ?_
      refine zV_goto (pc := 30) (tgt := 4) dX4_brokenCount_30 (by decide) ?_
      exact zV_sub [1, 2, 0] rfl h
    refine zV_if_eq (pc := 21) (tgt := 27) dX4_brokenCount_21 (by decide) (hm0 _ _) (fun c6 => ?_) (fun c6 => ?_)
    · skip
      exact zV_sub [0, 1, 2] rfl (key _ (if_pos c6).symm)
    · skip
      refine zV_iinc (pc := 24) (loc' := [(1, .int (iz (x1 + 1))), (0, rr K pl), (2, .int (iz x2))]) dX4_brokenCount_24 1 rfl (by decide) rfl ?_
      exact zV_sub [1, 0, 2] rfl (key _ (if_neg c6).symm)

set_option maxRecDepth 100000 in
set_option maxHeartbeats 4000000 in
theorem vc_X5_take_0 {K : zCx} {d : Nat} (l1 : Int64) (x3 : Int) (m0 : zM) {Q : Int → zM → Prop} (hx3 : inR x3) (h : zok m0 → zV K mX5_take (d + 1) 3 [(0, rr K 56), (1, .long l1), (3, .int (iz x3)), (4, .int (iz 0))] [] m0 Q) : zV K mX5_take (d + 1) 0 [(0, rr K 56), (1, .long l1), (3, .int (iz x3))] [] m0 Q := by
  refine zV_ok (fun hm0 => ?_)
  replace h := h hm0
  refine zV_iconst (pc := 0) dX5_take_0 ?_
  refine zV_istore (pc := 1) (loc' := [(4, .int (iz 0)), (0, rr K 56), (1, .long l1), (3, .int (iz x3))]) dX5_take_1 (by decide) rfl ?_
  exact zV_sub [1, 2, 3, 0] rfl h
set_option maxRecDepth 100000 in
set_option maxHeartbeats 4000000 in
theorem vc_X5_take_3 {K : zCx} {d : Nat} (l1 : Int64) (x3 : Int) (x4 : Int) (m0 : zM) {Q : Int → zM → Prop} (hx3 : inR x3) (hx4 : inR x4) (h : zok m0 → (x3 ≤ x4 → Q 0 m0) ∧ (¬ (x3 ≤ x4) → (220 ≤ (m0.1 56 2) → Q 0 m0) ∧ (¬ (220 ≤ (m0.1 56 2)) → 0 ≤ (m0.1 56 2) ∧ (m0.1 56 2) < 220 ∧ (∀ m5 : zM, m5 = sI m0 57 (m0.1 56 2) (((((l1).toUInt64 >>> ((iz (8 * x4)).toInt64.toUInt64 &&& Int64.toUInt64 63)).toInt64 &&& (255 : Int64))).toInt32.toInt) → zok m5 → (inR ((m5.1 56 2) + 1) ∧ (∀ m8 : zM, m8 = sI m5 56 2 ((m5.1 56 2) + 1) → zok m8 → (zV K mX5_take (d + 1) 3 [(0, rr K 56), (1, .long l1), (3, .int (iz x3)), (4, .int (iz (x4 + 1)))] [] m8 Q))))))) : zV K mX5_take (d + 1) 3 [(0, rr K 56), (1, .long l1), (3, .int (iz x3)), (4, .int (iz x4))] [] m0 Q := by
  refine zV_ok (fun hm0 => ?_)
  replace h := h hm0
  refine zV_iload (pc := 3) dX5_take_3 3 rfl ?_
  refine zV_iload_n (pc := 5) dX5_take_5 rfl 2 rfl ?_
  refine zV_icmp_ge (pc := 6) (tgt := 56) dX5_take_6 (by decide) hx4 hx3 (fun c1 => ?_) (fun c1 => ?_)
  · skip
    replace h := h.1 c1
    exact zV_vret (pc := 56) rfl dX5_take_56 h
  · skip
    replace h := h.2 c1
    refine zV_aloadr_n (pc := 9) dX5_take_9 rfl 0 rfl ?_
    refine zV_getI (pc := 10) (kz := 2) dX5_take_10 zfX5_31 rfl rfl rfl ?_
    refine zV_sipush (pc := 13) dX5_take_13 (by decide) ?_
    refine zV_icmp_ge (pc := 16) (tgt := 56) dX5_take_16 (by decide) (hm0 _ _) (inRd rfl) (fun c2 => ?_) (fun c2 => ?_)
    · skip
      replace h := h.1 c2
      exact zV_vret (pc := 56) rfl dX5_take_56 h
    · skip
      replace h := h.2 c2
      refine zV_aloadr_n (pc := 19) dX5_take_19 rfl 0 rfl ?_
      refine zV_getR (pc := 20) (b := 57) dX5_take_20 zfX5_9 rfl rfl rfl ?_
      refine zV_aloadr_n (pc := 23) dX5_take_23 rfl 0 rfl ?_
      refine zV_getI (pc := 24) (kz := 2) dX5_take_24 zfX5_31 rfl rfl rfl ?_
      refine zV_lload_n (pc := 27) dX5_take_27 rfl 1 rfl ?_
      refine zV_bipush (pc := 28) dX5_take_28 (by decide) ?_
      refine zV_iload (pc := 30) dX5_take_30 3 rfl ?_
      refine zV_imul (pc := 32) dX5_take_32 ?_
      refine zV_lushr (pc := 33) dX5_take_33 ?_
      refine zV_ldc2 (pc := 34) (v := 255) dX5_take_34 (zmem 721 (by decide +kernel) (by decide +kernel)) ?_
      refine zV_land (pc := 37) dX5_take_37 ?_
      refine zV_l2i (pc := 38) dX5_take_38 ?_
      obtain ⟨o3, o4, h⟩ := h
      refine zV_iast (pc := 39) dX5_take_39 rfl o3 o4 (inR_ix o3 o4 rfl) (inR_of _) ?_
      refine zV_mem (fun m5 e6 => zV_ok (fun hm5 => ?_))
      replace h := h m5 e6 hm5
      refine zV_aloadr_n (pc := 40) dX5_take_40 rfl 0 rfl ?_
      refine zV_dup (pc := 41) dX5_take_41 rfl ?_
      refine zV_getI (pc := 42) (kz := 2) dX5_take_42 zfX5_31 rfl rfl rfl ?_
      refine zV_iconst (pc := 45) dX5_take_45 ?_
      refine zV_iadd (pc := 46) dX5_take_46 ?_
      obtain ⟨o7, h⟩ := h
      refine zV_putI (pc := 47) (kz := 2) dX5_take_47 zpX5_31 rfl rfl rfl o7 rfl rfl ?_
      refine zV_mem (fun m8 e9 => zV_ok (fun hm8 => ?_))
      replace h := h m8 e9 hm8
      refine zV_iinc (pc := 50) (loc' := [(4, .int (iz (x4 + 1))), (0, rr K 56), (1, .long l1), (3, .int (iz x3))]) dX5_take_50 3 rfl (by decide) rfl ?_
      refine zV_goto (pc := 53) (tgt := 3) dX5_take_53 (by decide) ?_
      exact zV_sub [1, 2, 3, 0] rfl h

set_option maxRecDepth 100000 in
set_option maxHeartbeats 4000000 in
theorem vc_X5_parse_0 {K : zCx} {d : Nat}  (m0 : zM) {Q : Int → zM → Prop}  (h : zok m0 → zCt K (d + 20) mX5_scan [rr K 56] m0 (fun r1 m2 => inR r1 → zok m2 → zCt K (d + 20) mX8_clear [rr K 58] m2 (fun r3 m4 => inR r3 → zok m4 → ∀ m5 : zM, m5 = sI m4 56 6 0 → zok m5 → (∀ m7 : zM, m7 = sI m5 56 7 (m5.1 61 0) → zok m7 → (zV K mX5_parse (d + 21) 28 [(0, rr K 56), (1, .int (iz 0))] [] m7 Q))))) : zV K mX5_parse (d + 21) 0 [(0, rr K 56)] [] m0 Q := by
  refine zV_ok (fun hm0 => ?_)
  replace h := h hm0
  refine zV_aloadr_n (pc := 0) dX5_parse_0 rfl 0 rfl ?_
  refine zV_callV (pc := 1) (mc := mX5_scan) (As := []) (rest := []) dX5_parse_1 zcX5_37 ziX5_scan zsX5_scan rfl rfl rfl rfl (Nat.le_of_ble_eq_true rfl) h (fun r1 m2 hr1 h => zV_ok (fun hm2 => ?_))
  replace h := h hr1 hm2
  refine zV_aloadr_n (pc := 4) dX5_parse_4 rfl 0 rfl ?_
  refine zV_getR (pc := 5) (b := 58) dX5_parse_5 zfX5_18 rfl rfl rfl ?_
  refine zV_callV (pc := 8) (mc := mX8_clear) (As := []) (rest := []) dX5_parse_8 zcX5_40 ziX8_clear zsX8_clear rfl rfl rfl rfl (Nat.le_of_ble_eq_true rfl) h (fun r3 m4 hr3 h => zV_ok (fun hm4 => ?_))
  replace h := h hr3 hm4
  refine zV_aloadr_n (pc := 11) dX5_parse_11 rfl 0 rfl ?_
  refine zV_iconst (pc := 12) dX5_parse_12 ?_
  refine zV_putI (pc := 13) (kz := 6) dX5_parse_13 zpX5_43 rfl rfl rfl (inRd rfl) rfl rfl ?_
  refine zV_mem (fun m5 e6 => zV_ok (fun hm5 => ?_))
  replace h := h m5 e6 hm5
  refine zV_aloadr_n (pc := 16) dX5_parse_16 rfl 0 rfl ?_
  refine zV_aloadr_n (pc := 17) dX5_parse_17 rfl 0 rfl ?_
  refine zV_getR (pc := 18) (b := 61) dX5_parse_18 zfX5_22 rfl rfl rfl ?_
  refine zV_iconst (pc := 21) dX5_parse_21 ?_
  refine zV_iald (pc := 22) dX5_parse_22 rfl (by decide) (by decide) (inRd rfl) ?_
  refine zV_putI (pc := 23) (kz := 7) dX5_parse_23 zpX5_46 rfl rfl rfl (hm5 _ _) rfl rfl ?_
  refine zV_mem (fun m7 e8 => zV_ok (fun hm7 => ?_))
  replace h := h m7 e8 hm7
  refine zV_iconst (pc := 26) dX5_parse_26 ?_
  refine zV_istore_n (pc := 27) (loc' := [(1, .int (iz 0)), (0, rr K 56)]) dX5_parse_27 rfl (by decide) rfl ?_
  exact zV_sub [1, 0] rfl h
set_option maxRecDepth 100000 in
set_option maxHeartbeats 4000000 in
theorem vc_X5_parse_28 {K : zCx} {d : Nat} (x1 : Int) (m0 : zM) {Q : Int → zM → Prop} (hx1 : inR x1) (h : zok m0 → (8 < x1 → Q (-1) m0) ∧ (¬ (8 < x1) → ((m0.1 56 7) = 0 → Q (-1) m0) ∧ (¬ ((m0.1 56 7) = 0) → (x1 = 8 → 0 ≤ (m0.1 56 6) ∧ (m0.1 56 6) < 221 ∧ (Q (m0.1 62 (m0.1 56 6)) m0)) ∧ (¬ (x1 = 8) → ((m0.1 56 7) = 10 → zCt K (d + 20) mX5_step [rr K 56] m0 (fun r7 m8 => inR r7 → zok m8 → zCt K (d + 20) mX5_cond [rr K 56, .int (iz 0)] m8 (fun r9 m10 => inR r9 → zok m10 → (r9 = 0 → 0 ≤ (m10.1 56 6) ∧ (m10.1 56 6) < 221 ∧ (Q (m10.1 62 (m10.1 56 6)) m10)) ∧ (¬ (r9 = 0) → ((m10.1 56 7) = 9 → zCt K (d + 20) mX8_close [rr K 58] m10 (fun r15 m16 => inR r15 → zok m16 → zCt K (d + 20) mX5_step [rr K 56] m16 (fun r17 m18 => inR r17 → zok m18 → zV K mX5_parse (d + 21) 28 [(0, rr K 56), (1, .int (iz (x1 + 1)))] [] m18 Q))) ∧ (¬ ((m10.1 56 7) = 9) → 0 ≤ (m10.1 56 6) ∧ (m10.1 56 6) < 221 ∧ (Q (m10.1 62 (m10.1 56 6)) m10)))))) ∧ (¬ ((m0.1 56 7) = 10) → 0 ≤ (m0.1 56 6) ∧ (m0.1 56 6) < 221 ∧ (Q (m0.1 62 (m0.1 56 6)) m0)))))) : zV K mX5_parse (d + 21) 28 [(0, rr K 56), (1, .int (iz x1))] [] m0 Q := by
  refine zV_ok (fun hm0 => ?_)
  replace h := h hm0
  refine zV_iload_n (pc := 28) dX5_parse_28 rfl 1 rfl ?_
  refine zV_bipush (pc := 29) dX5_parse_29 (by decide) ?_
  refine zV_icmp_gt (pc := 31) (tgt := 114) dX5_parse_31 (by decide) hx1 (inRd rfl) (fun c1 => ?_) (fun c1 => ?_)
  · skip
    replace h := h.1 c1
    refine zV_iconst (pc := 114) dX5_parse_114 ?_
    exact zV_iret (pc := 115) rfl dX5_parse_115 (inRd rfl) h
  · skip
    replace h := h.2 c1
    refine zV_aloadr_n (pc := 34) dX5_parse_34 rfl 0 rfl ?_
    refine zV_getI (pc := 35) (kz := 7) dX5_parse_35 zfX5_46 rfl rfl rfl ?_
    refine zV_if_eq (pc := 38) (tgt := 114) dX5_parse_38 (by decide) (hm0 _ _) (fun c2 => ?_) (fun c2 => ?_)
    · skip
      replace h := h.1 c2
      refine zV_iconst (pc := 114) dX5_parse_114 ?_
      exact zV_iret (pc := 115) rfl dX5_parse_115 (inRd rfl) h
    · skip
      replace h := h.2 c2
      refine zV_iload_n (pc := 41) dX5_parse_41 rfl 1 rfl ?_
      refine zV_bipush (pc := 42) dX5_parse_42 (by decide) ?_
      refine zV_icmp_eq (pc := 44) (tgt := 56) dX5_parse_44 (by decide) hx1 (inRd rfl) (fun c3 => ?_) (fun c3 => ?_)
      · skip
        replace h := h.1 c3
        refine zV_aloadr_n (pc := 56) dX5_parse_56 rfl 0 rfl ?_
        refine zV_getR (pc := 57) (b := 62) dX5_parse_57 zfX5_25 rfl rfl rfl ?_
        refine zV_aloadr_n (pc := 60) dX5_parse_60 rfl 0 rfl ?_
        refine zV_getI (pc := 61) (kz := 6) dX5_parse_61 zfX5_43 rfl rfl rfl ?_
        obtain ⟨o4, o5, h⟩ := h
        refine zV_iald (pc := 64) dX5_parse_64 rfl o4 o5 (inR_ix o4 o5 rfl) ?_
        exact zV_iret (pc := 65) rfl dX5_parse_65 (hm0 _ _) h
      · skip
        replace h := h.2 c3
        refine zV_aloadr_n (pc := 47) dX5_parse_47 rfl 0 rfl ?_
        refine zV_getI (pc := 48) (kz := 7) dX5_parse_48 zfX5_46 rfl rfl rfl ?_
        refine zV_bipush (pc := 51) dX5_parse_51 (by decide) ?_
        refine zV_icmp_eq (pc := 53) (tgt := 66) dX5_parse_53 (by decide) (hm0 _ _) (inRd rfl) (fun c6 => ?_) (fun c6 => ?_)
        · skip
          replace h := h.1 c6
          refine zV_aloadr_n (pc := 66) dX5_parse_66 rfl 0 rfl ?_
          refine zV_callV (pc := 67) (mc := mX5_step) (As := []) (rest := []) dX5_parse_67 zcX5_49 ziX5_step zsX5_step rfl rfl rfl rfl (Nat.le_of_ble_eq_true rfl) h (fun r7 m8 hr7 h => zV_ok (fun hm8 => ?_))
          replace h := h hr7 hm8
          refine zV_aloadr_n (pc := 70) dX5_parse_70 rfl 0 rfl ?_
          refine zV_iconst (pc := 71) dX5_parse_71 ?_
          refine zV_callV (pc := 72) (mc := mX5_cond) (As := [.int (iz 0)]) (rest := []) dX5_parse_72 zcX5_52 ziX5_cond zsX5_cond rfl rfl rfl rfl (Nat.le_of_ble_eq_true rfl) h (fun r9 m10 hr9 h => zV_ok (fun hm10 => ?_))
          replace h := h hr9 hm10
          refine zV_if_eq (pc := 75) (tgt := 87) dX5_parse_75 (by decide) hr9 (fun c11 => ?_) (fun c11 => ?_)
          · skip
            replace h := h.1 c11
            refine zV_aloadr_n (pc := 87) dX5_parse_87 rfl 0 rfl ?_
            refine zV_getR (pc := 88) (b := 62) dX5_parse_88 zfX5_25 rfl rfl rfl ?_
            refine zV_aloadr_n (pc := 91) dX5_parse_91 rfl 0 rfl ?_
            refine zV_getI (pc := 92) (kz := 6) dX5_parse_92 zfX5_43 rfl rfl rfl ?_
            obtain ⟨o12, o13, h⟩ := h
            refine zV_iald (pc := 95) dX5_parse_95 rfl o12 o13 (inR_ix o12 o13 rfl) ?_
            exact zV_iret (pc := 96) rfl dX5_parse_96 (hm10 _ _) h
          · skip
            replace h := h.2 c11
            refine zV_aloadr_n (pc := 78) dX5_parse_78 rfl 0 rfl ?_
            refine zV_getI (pc := 79) (kz := 7) dX5_parse_79 zfX5_46 rfl rfl rfl ?_
            refine zV_bipush (pc := 82) dX5_parse_82 (by decide) ?_
            refine zV_icmp_eq (pc := 84) (tgt := 97) dX5_parse_84 (by decide) (hm10 _ _) (inRd rfl) (fun c14 => ?_) (fun c14 => ?_)
            · skip
              replace h := h.1 c14
              refine zV_aloadr_n (pc := 97) dX5_parse_97 rfl 0 rfl ?_
              refine zV_getR (pc := 98) (b := 58) dX5_parse_98 zfX5_18 rfl rfl rfl ?_
              refine zV_callV (pc := 101) (mc := mX8_close) (As := []) (rest := []) dX5_parse_101 zcX5_56 ziX8_close zsX8_close rfl rfl rfl rfl (Nat.le_of_ble_eq_true rfl) h (fun r15 m16 hr15 h => zV_ok (fun hm16 => ?_))
              replace h := h hr15 hm16
              refine zV_aloadr_n (pc := 104) dX5_parse_104 rfl 0 rfl ?_
              refine zV_callV (pc := 105) (mc := mX5_step) (As := []) (rest := []) dX5_parse_105 zcX5_49 ziX5_step zsX5_step rfl rfl rfl rfl (Nat.le_of_ble_eq_true rfl) h (fun r17 m18 hr17 h => zV_ok (fun hm18 => ?_))
              replace h := h hr17 hm18
              refine zV_iinc (pc := 108) (loc' := [(1, .int (iz (x1 + 1))), (0, rr K 56)]) dX5_parse_108 1 rfl (by decide) rfl ?_
              refine zV_goto (pc := 111) (tgt := 28) dX5_parse_111 (by decide) ?_
              exact zV_sub [1, 0] rfl h
            · skip
              replace h := h.2 c14
              refine zV_aloadr_n (pc := 87) dX5_parse_87 rfl 0 rfl ?_
              refine zV_getR (pc := 88) (b := 62) dX5_parse_88 zfX5_25 rfl rfl rfl ?_
              refine zV_aloadr_n (pc := 91) dX5_parse_91 rfl 0 rfl ?_
              refine zV_getI (pc := 92) (kz := 6) dX5_parse_92 zfX5_43 rfl rfl rfl ?_
              obtain ⟨o19, o20, h⟩ := h
              refine zV_iald (pc := 95) dX5_parse_95 rfl o19 o20 (inR_ix o19 o20 rfl) ?_
              exact zV_iret (pc := 96) rfl dX5_parse_96 (hm10 _ _) h
        · skip
          replace h := h.2 c6
          refine zV_aloadr_n (pc := 56) dX5_parse_56 rfl 0 rfl ?_
          refine zV_getR (pc := 57) (b := 62) dX5_parse_57 zfX5_25 rfl rfl rfl ?_
          refine zV_aloadr_n (pc := 60) dX5_parse_60 rfl 0 rfl ?_
          refine zV_getI (pc := 61) (kz := 6) dX5_parse_61 zfX5_43 rfl rfl rfl ?_
          obtain ⟨o21, o22, h⟩ := h
          refine zV_iald (pc := 64) dX5_parse_64 rfl o21 o22 (inR_ix o21 o22 rfl) ?_
          exact zV_iret (pc := 65) rfl dX5_parse_65 (hm0 _ _) h

set_option maxRecDepth 100000 in
set_option maxHeartbeats 4000000 in
theorem vc_X5_step_0 {K : zCx} {d : Nat}  (m0 : zM) {Q : Int → zM → Prop}  (h : zok m0 → ((m0.1 56 7) = 0 → 0 ≤ (m0.1 56 6) ∧ (m0.1 56 6) < 221 ∧ (∀ m4 : zM, m4 = sI m0 56 7 (m0.1 61 (m0.1 56 6)) → zok m4 → (Q 0 m4))) ∧ (¬ ((m0.1 56 7) = 0) → (220 ≤ (m0.1 56 6) → 0 ≤ (m0.1 56 6) ∧ (m0.1 56 6) < 221 ∧ (∀ m9 : zM, m9 = sI m0 56 7 (m0.1 61 (m0.1 56 6)) → zok m9 → (Q 0 m9))) ∧ (¬ (220 ≤ (m0.1 56 6)) → inR ((m0.1 56 6) + 1) ∧ (∀ m12 : zM, m12 = sI m0 56 6 ((m0.1 56 6) + 1) → zok m12 → (0 ≤ (m12.1 56 6) ∧ (m12.1 56 6) < 221 ∧ (∀ m16 : zM, m16 = sI m12 56 7 (m12.1 61 (m12.1 56 6)) → zok m16 → (Q 0 m16))))))) : zV K mX5_step (d + 1) 0 [(0, rr K 56)] [] m0 Q := by
  refine zV_ok (fun hm0 => ?_)
  replace h := h hm0
  refine zV_aloadr_n (pc := 0) dX5_step_0 rfl 0 rfl ?_
  refine zV_getI (pc := 1) (kz := 7) dX5_step_1 zfX5_46 rfl rfl rfl ?_
  refine zV_if_eq (pc := 4) (tgt := 27) dX5_step_4 (by decide) (hm0 _ _) (fun c1 => ?_) (fun c1 => ?_)
  · skip
    replace h := h.1 c1
    refine zV_aloadr_n (pc := 27) dX5_step_27 rfl 0 rfl ?_
    refine zV_aloadr_n (pc := 28) dX5_step_28 rfl 0 rfl ?_
    refine zV_getR (pc := 29) (b := 61) dX5_step_29 zfX5_22 rfl rfl rfl ?_
    refine zV_aloadr_n (pc := 32) dX5_step_32 rfl 0 rfl ?_
    refine zV_getI (pc := 33) (kz := 6) dX5_step_33 zfX5_43 rfl rfl rfl ?_
    obtain ⟨o2, o3, h⟩ := h
    refine zV_iald (pc := 36) dX5_step_36 rfl o2 o3 (inR_ix o2 o3 rfl) ?_
    refine zV_putI (pc := 37) (kz := 7) dX5_step_37 zpX5_46 rfl rfl rfl (hm0 _ _) rfl rfl ?_
    refine zV_mem (fun m4 e5 => zV_ok (fun hm4 => ?_))
    replace h := h m4 e5 hm4
    exact zV_vret (pc := 40) rfl dX5_step_40 h
  · skip
    replace h := h.2 c1
    refine zV_aloadr_n (pc := 7) dX5_step_7 rfl 0 rfl ?_
    refine zV_getI (pc := 8) (kz := 6) dX5_step_8 zfX5_43 rfl rfl rfl ?_
    refine zV_sipush (pc := 11) dX5_step_11 (by decide) ?_
    refine zV_icmp_ge (pc := 14) (tgt := 27) dX5_step_14 (by decide) (hm0 _ _) (inRd rfl) (fun c6 => ?_) (fun c6 => ?_)
    · skip
      replace h := h.1 c6
      refine zV_aloadr_n (pc := 27) dX5_step_27 rfl 0 rfl ?_
      refine zV_aloadr_n (pc := 28) dX5_step_28 rfl 0 rfl ?_
      refine zV_getR (pc := 29) (b := 61) dX5_step_29 zfX5_22 rfl rfl rfl ?_
      refine zV_aloadr_n (pc := 32) dX5_step_32 rfl 0 rfl ?_
      refine zV_getI (pc := 33) (kz := 6) dX5_step_33 zfX5_43 rfl rfl rfl ?_
      obtain ⟨o7, o8, h⟩ := h
      refine zV_iald (pc := 36) dX5_step_36 rfl o7 o8 (inR_ix o7 o8 rfl) ?_
      refine zV_putI (pc := 37) (kz := 7) dX5_step_37 zpX5_46 rfl rfl rfl (hm0 _ _) rfl rfl ?_
      refine zV_mem (fun m9 e10 => zV_ok (fun hm9 => ?_))
      replace h := h m9 e10 hm9
      exact zV_vret (pc := 40) rfl dX5_step_40 h
    · skip
      replace h := h.2 c6
      refine zV_aloadr_n (pc := 17) dX5_step_17 rfl 0 rfl ?_
      refine zV_dup (pc := 18) dX5_step_18 rfl ?_
      refine zV_getI (pc := 19) (kz := 6) dX5_step_19 zfX5_43 rfl rfl rfl ?_
      refine zV_iconst (pc := 22) dX5_step_22 ?_
      refine zV_iadd (pc := 23) dX5_step_23 ?_
      obtain ⟨o11, h⟩ := h
      refine zV_putI (pc := 24) (kz := 6) dX5_step_24 zpX5_43 rfl rfl rfl o11 rfl rfl ?_
      refine zV_mem (fun m12 e13 => zV_ok (fun hm12 => ?_))
      replace h := h m12 e13 hm12
      refine zV_aloadr_n (pc := 27) dX5_step_27 rfl 0 rfl ?_
      refine zV_aloadr_n (pc := 28) dX5_step_28 rfl 0 rfl ?_
      refine zV_getR (pc := 29) (b := 61) dX5_step_29 zfX5_22 rfl rfl rfl ?_
      refine zV_aloadr_n (pc := 32) dX5_step_32 rfl 0 rfl ?_
      refine zV_getI (pc := 33) (kz := 6) dX5_step_33 zfX5_43 rfl rfl rfl ?_
      obtain ⟨o14, o15, h⟩ := h
      refine zV_iald (pc := 36) dX5_step_36 rfl o14 o15 (inR_ix o14 o15 rfl) ?_
      refine zV_putI (pc := 37) (kz := 7) dX5_step_37 zpX5_46 rfl rfl rfl (hm12 _ _) rfl rfl ?_
      refine zV_mem (fun m16 e17 => zV_ok (fun hm16 => ?_))
      replace h := h m16 e17 hm16
      exact zV_vret (pc := 40) rfl dX5_step_40 h

set_option maxRecDepth 100000 in
set_option maxHeartbeats 4000000 in
theorem vc_X5_cond_0 {K : zCx} {d : Nat} (x1 : Int) (m0 : zM) {Q : Int → zM → Prop} (hx1 : inR x1) (h : zok m0 → zV K mX5_cond (d + 6) 7 [(0, rr K 56), (1, .int (iz x1)), (2, .int (iz 0)), (3, .int (iz 0)), (4, .int (iz 0))] [] m0 Q) : zV K mX5_cond (d + 6) 0 [(0, rr K 56), (1, .int (iz x1))] [] m0 Q := by
  refine zV_ok (fun hm0 => ?_)
  replace h := h hm0
  refine zV_iconst (pc := 0) dX5_cond_0 ?_
  refine zV_istore_n (pc := 1) (loc' := [(2, .int (iz 0)), (0, rr K 56), (1, .int (iz x1))]) dX5_cond_1 rfl (by decide) rfl ?_
  refine zV_iconst (pc := 2) dX5_cond_2 ?_
  refine zV_istore_n (pc := 3) (loc' := [(3, .int (iz 0)), (2, .int (iz 0)), (0, rr K 56), (1, .int (iz x1))]) dX5_cond_3 rfl (by decide) rfl ?_
  refine zV_iconst (pc := 4) dX5_cond_4 ?_
  refine zV_istore (pc := 5) (loc' := [(4, .int (iz 0)), (3, .int (iz 0)), (2, .int (iz 0)), (0, rr K 56), (1, .int (iz x1))]) dX5_cond_5 (by decide) rfl ?_
  exact zV_sub [3, 4, 2, 1, 0] rfl h
set_option maxRecDepth 100000 in
set_option maxHeartbeats 4000000 in
theorem vc_X5_cond_7 {K : zCx} {d : Nat} (x1 : Int) (x2 : Int) (x3 : Int) (x4 : Int) (m0 : zM) {Q : Int → zM → Prop} (hx1 : inR x1) (hx2 : inR x2) (hx3 : inR x3) (hx4 : inR x4) (h : zok m0 → (220 ≤ x4 → Q 0 m0) ∧ (¬ (220 ≤ x4) → zV K mX5_cond (d + 6) 21 [(0, rr K 56), (1, .int (iz x1)), (2, .int (iz x2)), (3, .int (iz x3)), (4, .int (iz x4)), (5, .int (iz 0)), (6, .int (iz 0))] [] m0 Q)) : zV K mX5_cond (d + 6) 7 [(0, rr K 56), (1, .int (iz x1)), (2, .int (iz x2)), (3, .int (iz x3)), (4, .int (iz x4))] [] m0 Q := by
  refine zV_ok (fun hm0 => ?_)
  replace h := h hm0
  refine zV_iload (pc := 7) dX5_cond_7 4 rfl ?_
  refine zV_sipush (pc := 9) dX5_cond_9 (by decide) ?_
  refine zV_icmp_ge (pc := 12) (tgt := 189) dX5_cond_12 (by decide) hx4 (inRd rfl) (fun c1 => ?_) (fun c1 => ?_)
  · skip
    replace h := h.1 c1
    refine zV_iconst (pc := 189) dX5_cond_189 ?_
    exact zV_zret (pc := 190) rfl dX5_cond_190 (Or.inl rfl) h
  · skip
    replace h := h.2 c1
    refine zV_iconst (pc := 15) dX5_cond_15 ?_
    refine zV_istore (pc := 16) (loc' := [(5, .int (iz 0)), (0, rr K 56), (1, .int (iz x1)), (2, .int (iz x2)), (3, .int (iz x3)), (4, .int (iz x4))]) dX5_cond_16 (by decide) rfl ?_
    refine zV_iconst (pc := 18) dX5_cond_18 ?_
    refine zV_istore (pc := 19) (loc' := [(6, .int (iz 0)), (5, .int (iz 0)), (0, rr K 56), (1, .int (iz x1)), (2, .int (iz x2)), (3, .int (iz x3)), (4, .int (iz x4))]) dX5_cond_19 (by decide) rfl ?_
    exact zV_sub [2, 3, 4, 5, 6, 1, 0] rfl h
set_option maxRecDepth 100000 in
set_option maxHeartbeats 4000000 in
theorem vc_X5_cond_21 {K : zCx} {d : Nat} (x1 : Int) (x2 : Int) (x3 : Int) (x4 : Int) (x5 : Int) (x6 : Int) (m0 : zM) {Q : Int → zM → Prop} (hx1 : inR x1) (hx2 : inR x2) (hx3 : inR x3) (hx4 : inR x4) (hx5 : inR x5) (hx6 : inR x6) (h : zok m0 → (220 ≤ x6 → ((m0.1 56 7) = 3 → zCt K (d + 5) mX5_bracket [rr K 56, .int (iz x1)] m0 (fun r6 m7 => inR r6 → zok m7 → (r6 = 0 → Q 0 m7) ∧ (¬ (r6 = 0) → zV K mX5_cond (d + 6) 88 [(0, rr K 56), (1, .int (iz x1)), (2, .int (iz x2)), (3, .int (iz x3)), (4, .int (iz x4)), (5, .int (iz x5))] [] m7 Q))) ∧ (¬ ((m0.1 56 7) = 3) → zCt K (d + 5) mX5_comparison [rr K 56] m0 (fun r3 m4 => inR r3 → zok m4 → (r3 = 0 → Q 0 m4) ∧ (¬ (r3 = 0) → zV K mX5_cond (d + 6) 88 [(0, rr K 56), (1, .int (iz x1)), (2, .int (iz x2)), (3, .int (iz x3)), (4, .int (iz x4)), (5, .int (iz x5))] [] m4 Q)))) ∧ (¬ (220 ≤ x6) → ((m0.1 56 7) = 13 → ∀ v17 : Int, v17 = (if x5 = 0 then 1 else 0) → (zCt K (d + 5) mX5_step [rr K 56] m0 (fun r19 m20 => inR r19 → zok m20 → zV K mX5_cond (d + 6) 21 [(0, rr K 56), (1, .int (iz x1)), (2, .int (iz x2)), (3, .int (iz x3)), (4, .int (iz x4)), (5, .int (iz v17)), (6, .int (iz (x6 + 1)))] [] m20 Q))) ∧ (¬ ((m0.1 56 7) = 13) → ((m0.1 56 7) = 3 → zCt K (d + 5) mX5_bracket [rr K 56, .int (iz x1)] m0 (fun r14 m15 => inR r14 → zok m15 → (r14 = 0 → Q 0 m15) ∧ (¬ (r14 = 0) → zV K mX5_cond (d + 6) 88 [(0, rr K 56), (1, .int (iz x1)), (2, .int (iz x2)), (3, .int (iz x3)), (4, .int (iz x4)), (5, .int (iz x5))] [] m15 Q))) ∧ (¬ ((m0.1 56 7) = 3) → zCt K (d + 5) mX5_comparison [rr K 56] m0 (fun r11 m12 => inR r11 → zok m12 → (r11 = 0 → Q 0 m12) ∧ (¬ (r11 = 0) → zV K mX5_cond (d + 6) 88 [(0, rr K 56), (1, .int (iz x1)), (2, .int (iz x2)), (3, .int (iz x3)), (4, .int (iz x4)), (5, .int (iz x5))] [] m12 Q)))))) : zV K mX5_cond (d + 6) 21 [(0, rr K 56), (1, .int (iz x1)), (2, .int (iz x2)), (3, .int (iz x3)), (4, .int (iz x4)), (5, .int (iz x5)), (6, .int (iz x6))] [] m0 Q := by
  refine zV_ok (fun hm0 => ?_)
  replace h := h hm0
  refine zV_iload (pc := 21) dX5_cond_21 6 rfl ?_
  refine zV_sipush (pc := 23) dX5_cond_23 (by decide) ?_
  refine zV_icmp_ge (pc := 26) (tgt := 60) dX5_cond_26 (by decide) hx6 (inRd rfl) (fun c1 => ?_) (fun c1 => ?_)
  · skip
    replace h := h.1 c1
    refine zV_aloadr_n (pc := 60) dX5_cond_60 rfl 0 rfl ?_
    refine zV_getI (pc := 61) (kz := 7) dX5_cond_61 zfX5_46 rfl rfl rfl ?_
    refine zV_iconst (pc := 64) dX5_cond_64 ?_
    refine zV_icmp_ne (pc := 65) (tgt := 79) dX5_cond_65 (by decide) (hm0 _ _) (inRd rfl) (fun c2 => ?_) (fun c2 => ?_)
    · skip
      replace h := h.2 c2
      refine zV_aloadr_n (pc := 79) dX5_cond_79 rfl 0 rfl ?_
      refine zV_callV (pc := 80) (mc := mX5_comparison) (As := []) (rest := []) dX5_cond_80 zcX5_62 ziX5_comparison zsX5_comparison rfl rfl rfl rfl (Nat.le_of_ble_eq_true rfl) h (fun r3 m4 hr3 h => zV_ok (fun hm4 => ?_))
      replace h := h hr3 hm4
      refine zV_if_ne (pc := 83) (tgt := 88) dX5_cond_83 (by decide) hr3 (fun c5 => ?_) (fun c5 => ?_)
      · skip
        replace h := h.2 c5
        exact zV_sub [0, 1, 2, 3, 4, 5] rfl h
      · replace c5 := Classical.not_not.mp c5
        replace h := h.1 c5
        refine zV_iconst (pc := 86) dX5_cond_86 ?_
        exact zV_zret (pc := 87) rfl dX5_cond_87 (Or.inl rfl) h
    · replace c2 := Classical.not_not.mp c2
      replace h := h.1 c2
      refine zV_aloadr_n (pc := 68) dX5_cond_68 rfl 0 rfl ?_
      refine zV_iload_n (pc := 69) dX5_cond_69 rfl 1 rfl ?_
      refine zV_callV (pc := 70) (mc := mX5_bracket) (As := [.int (iz x1)]) (rest := []) dX5_cond_70 zcX5_59 ziX5_bracket zsX5_bracket rfl rfl rfl rfl (Nat.le_of_ble_eq_true rfl) h (fun r6 m7 hr6 h => zV_ok (fun hm7 => ?_))
      replace h := h hr6 hm7
      refine zV_if_eq (pc := 73) (tgt := 86) dX5_cond_73 (by decide) hr6 (fun c8 => ?_) (fun c8 => ?_)
      · skip
        replace h := h.1 c8
        refine zV_iconst (pc := 86) dX5_cond_86 ?_
        exact zV_zret (pc := 87) rfl dX5_cond_87 (Or.inl rfl) h
      · skip
        replace h := h.2 c8
        refine zV_goto (pc := 76) (tgt := 88) dX5_cond_76 (by decide) ?_
        exact zV_sub [0, 1, 2, 3, 4, 5] rfl h
  · skip
    replace h := h.2 c1
    refine zV_aloadr_n (pc := 29) dX5_cond_29 rfl 0 rfl ?_
    refine zV_getI (pc := 30) (kz := 7) dX5_cond_30 zfX5_46 rfl rfl rfl ?_
    refine zV_bipush (pc := 33) dX5_cond_33 (by decide) ?_
    refine zV_icmp_ne (pc := 35) (tgt := 60) dX5_cond_35 (by decide) (hm0 _ _) (inRd rfl) (fun c9 => ?_) (fun c9 => ?_)
    · skip
      replace h := h.2 c9
      refine zV_aloadr_n (pc := 60) dX5_cond_60 rfl 0 rfl ?_
      refine zV_getI (pc := 61) (kz := 7) dX5_cond_61 zfX5_46 rfl rfl rfl ?_
      refine zV_iconst (pc := 64) dX5_cond_64 ?_
      refine zV_icmp_ne (pc := 65) (tgt := 79) dX5_cond_65 (by decide) (hm0 _ _) (inRd rfl) (fun c10 => ?_) (fun c10 => ?_)
      · skip
        replace h := h.2 c10
        refine zV_aloadr_n (pc := 79) dX5_cond_79 rfl 0 rfl ?_
        refine zV_callV (pc := 80) (mc := mX5_comparison) (As := []) (rest := []) dX5_cond_80 zcX5_62 ziX5_comparison zsX5_comparison rfl rfl rfl rfl (Nat.le_of_ble_eq_true rfl) h (fun r11 m12 hr11 h => zV_ok (fun hm12 => ?_))
        replace h := h hr11 hm12
        refine zV_if_ne (pc := 83) (tgt := 88) dX5_cond_83 (by decide) hr11 (fun c13 => ?_) (fun c13 => ?_)
        · skip
          replace h := h.2 c13
          exact zV_sub [0, 1, 2, 3, 4, 5] rfl h
        · replace c13 := Classical.not_not.mp c13
          replace h := h.1 c13
          refine zV_iconst (pc := 86) dX5_cond_86 ?_
          exact zV_zret (pc := 87) rfl dX5_cond_87 (Or.inl rfl) h
      · replace c10 := Classical.not_not.mp c10
        replace h := h.1 c10
        refine zV_aloadr_n (pc := 68) dX5_cond_68 rfl 0 rfl ?_
        refine zV_iload_n (pc := 69) dX5_cond_69 rfl 1 rfl ?_
        refine zV_callV (pc := 70) (mc := mX5_bracket) (As := [.int (iz x1)]) (rest := []) dX5_cond_70 zcX5_59 ziX5_bracket zsX5_bracket rfl rfl rfl rfl (Nat.le_of_ble_eq_true rfl) h (fun r14 m15 hr14 h => zV_ok (fun hm15 => ?_))
        replace h := h hr14 hm15
        refine zV_if_eq (pc := 73) (tgt := 86) dX5_cond_73 (by decide) hr14 (fun c16 => ?_) (fun c16 => ?_)
        · skip
          replace h := h.1 c16
          refine zV_iconst (pc := 86) dX5_cond_86 ?_
          exact zV_zret (pc := 87) rfl dX5_cond_87 (Or.inl rfl) h
        · skip
          replace h := h.2 c16
          refine zV_goto (pc := 76) (tgt := 88) dX5_cond_76 (by decide) ?_
          exact zV_sub [0, 1, 2, 3, 4, 5] rfl h
    · replace c9 := Classical.not_not.mp c9
      replace h := h.1 c9
      refine zV_iload (pc := 38) dX5_cond_38 5 rfl ?_
      have key : ∀ v17 : Int, v17 = (if x5 = 0 then 1 else 0) → zV K mX5_cond (d + 6) 48 [(0, rr K 56), (1, .int (iz x1)), (2, .int (iz x2)), (3, .int (iz x3)), (4, .int (iz x4)), (6, .int (iz x6))] [.int (iz v17)] m0 Q := by
        intro v17 e18
        replace h := h v17 e18
        have hrv17 : inR v17 := by rw [e18]; (repeat' split) <;> first | with_reducible exact (inRd rfl)
        refine zV_istore (pc := 48) (loc' := [(5, .int (iz v17)), (0, rr K 56), (1, .int (iz x1)), (2, .int (iz x2)), (3, .int (iz x3)), (4, .int (iz x4)), (6, .int (iz x6))]) dX5_cond_48 (by decide) rfl ?_
        refine zV_aloadr_n (pc := 50) dX5_cond_50 rfl 1 rfl ?_
        refine zV_callV (pc := 51) (mc := mX5_step) (As := []) (rest := []) dX5_cond_51 zcX5_49 ziX5_step zsX5_step rfl rfl rfl rfl (Nat.le_of_ble_eq_true rfl) h (fun r19 m20 hr19 h => zV_ok (fun hm20 => ?_))
        replace h := h hr19 hm20
        refine zV_iinc (pc := 54) (loc' := [(6, .int (iz (x6 + 1))), (5, .int (iz v17)), (0, rr K 56), (1, .int (iz x1)), (2, .int (iz x2)), (3, .int (iz x3)), (4, .int (iz x4))]) dX5_cond_54 6 rfl (by decide) rfl ?_
        refine zV_goto (pc := 57) (tgt := 21) dX5_cond_57 (by decide) ?_
        exact zV_sub [2, 3, 4, 5, 6, 1, 0] rfl h
      refine zV_if_ne (pc := 40) (tgt := 47) dX5_cond_40 (by decide) hx5 (fun c21 => ?_) (fun c21 => ?_)
      · skip
        refine zV_iconst (pc := 47) dX5_cond_47 ?_
        exact zV_sub [0, 1, 2, 3, 4, 6] rfl (key _ (if_neg c21).symm)
      · replace c21 := Classical.not_not.mp c21
        refine zV_iconst (pc := 43) dX5_cond_43 ?_
        refine zV_goto (pc := 44) (tgt := 48) dX5_cond_44 (by decide) ?_
        exact zV_sub [0, 1, 2, 3, 4, 6] rfl (key _ (if_pos c21).symm)
set_option maxRecDepth 100000 in
set_option maxHeartbeats 4000000 in
theorem vc_X5_cond_88 {K : zCx} {d : Nat} (x1 : Int) (x2 : Int) (x3 : Int) (x4 : Int) (x5 : Int) (m0 : zM) {Q : Int → zM → Prop} (hx1 : inR x1) (hx2 : inR x2) (hx3 : inR x3) (hx4 : inR x4) (hx5 : inR x5) (h : zok m0 → (x5 = 0 → zV K mX5_cond (d + 6) 103 [(0, rr K 56), (1, .int (iz x1)), (2, .int (iz x2)), (3, .int (iz x3)), (4, .int (iz x4))] [] m0 Q) ∧ (¬ (x5 = 0) → zCt K (d + 5) mX8_add [rr K 58, .int (iz 10), .int (iz 0)] m0 (fun r2 m3 => inR r2 → zok m3 → zV K mX5_cond (d + 6) 103 [(0, rr K 56), (1, .int (iz x1)), (2, .int (iz x2)), (3, .int (iz x3)), (4, .int (iz x4))] [] m3 Q))) : zV K mX5_cond (d + 6) 88 [(0, rr K 56), (1, .int (iz x1)), (2, .int (iz x2)), (3, .int (iz x3)), (4, .int (iz x4)), (5, .int (iz x5))] [] m0 Q := by
  refine zV_ok (fun hm0 => ?_)
  replace h := h hm0
  refine zV_iload (pc := 88) dX5_cond_88 5 rfl ?_
  refine zV_if_eq (pc := 90) (tgt := 103) dX5_cond_90 (by decide) hx5 (fun c1 => ?_) (fun c1 => ?_)
  · skip
    replace h := h.1 c1
    exact zV_sub [0, 1, 2, 3, 4] rfl h
  · skip
    replace h := h.2 c1
    refine zV_aloadr_n (pc := 93) dX5_cond_93 rfl 0 rfl ?_
    refine zV_getR (pc := 94) (b := 58) dX5_cond_94 zfX5_18 rfl rfl rfl ?_
    refine zV_bipush (pc := 97) dX5_cond_97 (by decide) ?_
    refine zV_iconst (pc := 99) dX5_cond_99 ?_
    refine zV_callV (pc := 100) (mc := mX8_add) (As := [.int (iz 10), .int (iz 0)]) (rest := []) dX5_cond_100 zcX5_66 ziX8_add zsX8_add rfl rfl rfl rfl (Nat.le_of_ble_eq_true rfl) h (fun r2 m3 hr2 h => zV_ok (fun hm3 => ?_))
    replace h := h hr2 hm3
    exact zV_sub [0, 1, 2, 3, 4] rfl h
set_option maxRecDepth 100000 in
set_option maxHeartbeats 4000000 in
theorem vc_X5_cond_103 {K : zCx} {d : Nat} (x1 : Int) (x2 : Int) (x3 : Int) (x4 : Int) (m0 : zM) {Q : Int → zM → Prop} (hx1 : inR x1) (hx2 : inR x2) (hx3 : inR x3) (hx4 : inR x4) (h : zok m0 → (x3 = 0 → zV K mX5_cond (d + 6) 117 [(0, rr K 56), (1, .int (iz x1)), (2, .int (iz x2)), (4, .int (iz x4))] [] m0 Q) ∧ (¬ (x3 = 0) → zCt K (d + 5) mX8_add [rr K 58, .int (iz 11), .int (iz 0)] m0 (fun r2 m3 => inR r2 → zok m3 → zV K mX5_cond (d + 6) 117 [(0, rr K 56), (1, .int (iz x1)), (2, .int (iz x2)), (4, .int (iz x4))] [] m3 Q))) : zV K mX5_cond (d + 6) 103 [(0, rr K 56), (1, .int (iz x1)), (2, .int (iz x2)), (3, .int (iz x3)), (4, .int (iz x4))] [] m0 Q := by
  refine zV_ok (fun hm0 => ?_)
  replace h := h hm0
  refine zV_iload_n (pc := 103) dX5_cond_103 rfl 3 rfl ?_
  refine zV_if_eq (pc := 104) (tgt := 117) dX5_cond_104 (by decide) hx3 (fun c1 => ?_) (fun c1 => ?_)
  · skip
    replace h := h.1 c1
    exact zV_sub [0, 1, 2, 4] rfl h
  · skip
    replace h := h.2 c1
    refine zV_aloadr_n (pc := 107) dX5_cond_107 rfl 0 rfl ?_
    refine zV_getR (pc := 108) (b := 58) dX5_cond_108 zfX5_18 rfl rfl rfl ?_
    refine zV_bipush (pc := 111) dX5_cond_111 (by decide) ?_
    refine zV_iconst (pc := 113) dX5_cond_113 ?_
    refine zV_callV (pc := 114) (mc := mX8_add) (As := [.int (iz 11), .int (iz 0)]) (rest := []) dX5_cond_114 zcX5_66 ziX8_add zsX8_add rfl rfl rfl rfl (Nat.le_of_ble_eq_true rfl) h (fun r2 m3 hr2 h => zV_ok (fun hm3 => ?_))
    replace h := h hr2 hm3
    exact zV_sub [0, 1, 2, 4] rfl h
set_option maxRecDepth 100000 in
set_option maxHeartbeats 4000000 in
theorem vc_X5_cond_117 {K : zCx} {d : Nat} (x1 : Int) (x2 : Int) (x4 : Int) (m0 : zM) {Q : Int → zM → Prop} (hx1 : inR x1) (hx2 : inR x2) (hx4 : inR x4) (h : zok m0 → ∀ v1 : Int, v1 = (if (m0.1 56 7) = 12 then 1 else 0) → ((x2 = 0 → zV K mX5_cond (d + 6) 150 [(0, rr K 56), (1, .int (iz x1)), (2, .int (iz x2)), (3, .int (iz v1)), (4, .int (iz x4))] [] m0 Q) ∧ (¬ (x2 = 0) → (v1 = 0 → zCt K (d + 5) mX8_add [rr K 58, .int (iz 12), .int (iz 0)] m0 (fun r5 m6 => inR r5 → zok m6 → zV K mX5_cond (d + 6) 150 [(0, rr K 56), (1, .int (iz x1)), (2, .int (iz x2)), (3, .int (iz v1)), (4, .int (iz x4))] [] m6 Q)) ∧ (¬ (v1 = 0) → zV K mX5_cond (d + 6) 150 [(0, rr K 56), (1, .int (iz x1)), (2, .int (iz x2)), (3, .int (iz v1)), (4, .int (iz x4))] [] m0 Q)))) : zV K mX5_cond (d + 6) 117 [(0, rr K 56), (1, .int (iz x1)), (2, .int (iz x2)), (4, .int (iz x4))] [] m0 Q := by
  refine zV_ok (fun hm0 => ?_)
  replace h := h hm0
  refine zV_aloadr_n (pc := 117) dX5_cond_117 rfl 0 rfl ?_
  refine zV_getI (pc := 118) (kz := 7) dX5_cond_118 zfX5_46 rfl rfl rfl ?_
  refine zV_bipush (pc := 121) dX5_cond_121 (by decide) ?_
  have key : ∀ v1 : Int, v1 = (if (m0.1 56 7) = 12 then 1 else 0) → zV K mX5_cond (d + 6) 131 [(0, rr K 56), (1, .int (iz x1)), (2, .int (iz x2)), (4, .int (iz x4))] [.int (iz v1)] m0 Q := by
    intro v1 e2
    replace h := h v1 e2
    have hrv1 : inR v1 := by rw [e2]; (repeat' split) <;> first | with_reducible exact (inRd rfl)
    refine zV_istore_n (pc := 131) (loc' := [(3, .int (iz v1)), (0, rr K 56), (1, .int (iz x1)), (2, .int (iz x2)), (4, .int (iz x4))]) dX5_cond_131 rfl (by decide) rfl ?_
    refine zV_iload_n (pc := 132) dX5_cond_132 rfl 3 rfl ?_
    refine zV_if_eq (pc := 133) (tgt := 150) dX5_cond_133 (by decide) hx2 (fun c3 => ?_) (fun c3 => ?_)
    · skip
      replace h := h.1 c3
      exact zV_sub [1, 2, 3, 0, 4] rfl h
    · skip
      replace h := h.2 c3
      refine zV_iload_n (pc := 136) dX5_cond_136 rfl 0 rfl ?_
      refine zV_if_ne (pc := 137) (tgt := 150) dX5_cond_137 (by decide) hrv1 (fun c4 => ?_) (fun c4 => ?_)
      · skip
        replace h := h.2 c4
        exact zV_sub [1, 2, 3, 0, 4] rfl h
      · replace c4 := Classical.not_not.mp c4
        replace h := h.1 c4
        refine zV_aloadr_n (pc := 140) dX5_cond_140 rfl 1 rfl ?_
        refine zV_getR (pc := 141) (b := 58) dX5_cond_141 zfX5_18 rfl rfl rfl ?_
        refine zV_bipush (pc := 144) dX5_cond_144 (by decide) ?_
        refine zV_iconst (pc := 146) dX5_cond_146 ?_
        refine zV_callV (pc := 147) (mc := mX8_add) (As := [.int (iz 12), .int (iz 0)]) (rest := []) dX5_cond_147 zcX5_66 ziX8_add zsX8_add rfl rfl rfl rfl (Nat.le_of_ble_eq_true rfl) h (fun r5 m6 hr5 h => zV_ok (fun hm6 => ?_))
        replace h := h hr5 hm6
        exact zV_sub [1, 2, 3, 0, 4] rfl h
  refine zV_icmp_ne (pc := 123) (tgt := 130) dX5_cond_123 (by decide) (hm0 _ _) (inRd rfl) (fun c7 => ?_) (fun c7 => ?_)
  · skip
    refine zV_iconst (pc := 130) dX5_cond_130 ?_
    exact zV_sub [0, 1, 2, 3] rfl (key _ (if_neg c7).symm)
  · replace c7 := Classical.not_not.mp c7
    refine zV_iconst (pc := 126) dX5_cond_126 ?_
    refine zV_goto (pc := 127) (tgt := 131) dX5_cond_127 (by decide) ?_
    exact zV_sub [0, 1, 2, 3] rfl (key _ (if_pos c7).symm)
set_option maxRecDepth 100000 in
set_option maxHeartbeats 4000000 in
theorem vc_X5_cond_150 {K : zCx} {d : Nat} (x1 : Int) (x2 : Int) (x3 : Int) (x4 : Int) (m0 : zM) {Q : Int → zM → Prop} (hx1 : inR x1) (hx2 : inR x2) (hx3 : inR x3) (hx4 : inR x4) (h : zok m0 → ∀ v1 : Int, v1 = (if x3 = 0 then (if (m0.1 56 7) = 11 then 1 else 0) else x2) → ((x3 = 0 → (v1 = 0 → Q 1 m0) ∧ (¬ (v1 = 0) → zCt K (d + 5) mX5_step [rr K 56] m0 (fun r7 m8 => inR r7 → zok m8 → zV K mX5_cond (d + 6) 7 [(0, rr K 56), (1, .int (iz x1)), (2, .int (iz v1)), (3, .int (iz x3)), (4, .int (iz (x4 + 1)))] [] m8 Q))) ∧ (¬ (x3 = 0) → zCt K (d + 5) mX5_step [rr K 56] m0 (fun r4 m5 => inR r4 → zok m5 → zV K mX5_cond (d + 6) 7 [(0, rr K 56), (1, .int (iz x1)), (2, .int (iz v1)), (3, .int (iz x3)), (4, .int (iz (x4 + 1)))] [] m5 Q)))) : zV K mX5_cond (d + 6) 150 [(0, rr K 56), (1, .int (iz x1)), (2, .int (iz x2)), (3, .int (iz x3)), (4, .int (iz x4))] [] m0 Q := by
  refine zV_ok (fun hm0 => ?_)
  replace h := h hm0
  refine zV_iload_n (pc := 150) dX5_cond_150 rfl 3 rfl ?_
  have key : ∀ v1 : Int, v1 = (if x3 = 0 then (if (m0.1 56 7) = 11 then 1 else 0) else x2) → zV K mX5_cond (d + 6) 169 [(0, rr K 56), (1, .int (iz x1)), (2, .int (iz v1)), (3, .int (iz x3)), (4, .int (iz x4))] [] m0 Q := by
    intro v1 e2
    replace h := h v1 e2
    have hrv1 : inR v1 := by rw [e2]; (repeat' split) <;> first | with_reducible exact hx2 | with_reducible exact (inRd rfl)
    refine zV_iload_n (pc := 169) dX5_cond_169 rfl 3 rfl ?_
    refine zV_if_ne (pc := 170) (tgt := 179) dX5_cond_170 (by decide) hx3 (fun c3 => ?_) (fun c3 => ?_)
    · skip
      replace h := h.2 c3
      refine zV_aloadr_n (pc := 179) dX5_cond_179 rfl 0 rfl ?_
      refine zV_callV (pc := 180) (mc := mX5_step) (As := []) (rest := []) dX5_cond_180 zcX5_49 ziX5_step zsX5_step rfl rfl rfl rfl (Nat.le_of_ble_eq_true rfl) h (fun r4 m5 hr4 h => zV_ok (fun hm5 => ?_))
      replace h := h hr4 hm5
      refine zV_iinc (pc := 183) (loc' := [(4, .int (iz (x4 + 1))), (0, rr K 56), (1, .int (iz x1)), (2, .int (iz v1)), (3, .int (iz x3))]) dX5_cond_183 4 rfl (by decide) rfl ?_
      refine zV_goto (pc := 186) (tgt := 7) dX5_cond_186 (by decide) ?_
      exact zV_sub [1, 2, 3, 4, 0] rfl h
    · replace c3 := Classical.not_not.mp c3
      replace h := h.1 c3
      refine zV_iload_n (pc := 173) dX5_cond_173 rfl 2 rfl ?_
      refine zV_if_ne (pc := 174) (tgt := 179) dX5_cond_174 (by decide) hrv1 (fun c6 => ?_) (fun c6 => ?_)
      · skip
        replace h := h.2 c6
        refine zV_aloadr_n (pc := 179) dX5_cond_179 rfl 0 rfl ?_
        refine zV_callV (pc := 180) (mc := mX5_step) (As := []) (rest := []) dX5_cond_180 zcX5_49 ziX5_step zsX5_step rfl rfl rfl rfl (Nat.le_of_ble_eq_true rfl) h (fun r7 m8 hr7 h => zV_ok (fun hm8 => ?_))
        replace h := h hr7 hm8
        refine zV_iinc (pc := 183) (loc' := [(4, .int (iz (x4 + 1))), (0, rr K 56), (1, .int (iz x1)), (2, .int (iz v1)), (3, .int (iz x3))]) dX5_cond_183 4 rfl (by decide) rfl ?_
        refine zV_goto (pc := 186) (tgt := 7) dX5_cond_186 (by decide) ?_
        exact zV_sub [1, 2, 3, 4, 0] rfl h
      · replace c6 := Classical.not_not.mp c6
        replace h := h.1 c6
        refine zV_iconst (pc := 177) dX5_cond_177 ?_
        exact zV_zret (pc := 178) rfl dX5_cond_178 (Or.inr rfl) h
  refine zV_if_ne (pc := 151) (tgt := 169) dX5_cond_151 (by decide) hx3 (fun c9 => ?_) (fun c9 => ?_)
  · skip
    exact zV_sub [0, 1, 2, 3, 4] rfl (key _ (if_neg c9).symm)
  · replace c9 := Classical.not_not.mp c9
    refine zV_aloadr_n (pc := 154) dX5_cond_154 rfl 0 rfl ?_
    refine zV_getI (pc := 155) (kz := 7) dX5_cond_155 zfX5_46 rfl rfl rfl ?_
    refine zV_bipush (pc := 158) dX5_cond_158 (by decide) ?_
    refine zV_icmp_ne (pc := 160) (tgt := 167) dX5_cond_160 (by decide) (hm0 _ _) (inRd rfl) (fun c10 => ?_) (fun c10 => ?_)
    · skip
      refine zV_iconst (pc := 167) dX5_cond_167 ?_
      refine zV_istore_n (pc := 168) (loc' := [(2, .int (iz 0)), (0, rr K 56), (1, .int (iz x1)), (3, .int (iz x3)), (4, .int (iz x4))]) dX5_cond_168 rfl (by decide) rfl ?_
      exact zV_sub [1, 2, 0, 3, 4] rfl (key _ ((if_pos c9).trans (if_neg c10)).symm)
    · replace c10 := Classical.not_not.mp c10
      refine zV_iconst (pc := 163) dX5_cond_163 ?_
      refine zV_goto (pc := 164) (tgt := 168) dX5_cond_164 (by decide) ?_
      refine zV_istore_n (pc := 168) (loc' := [(2, .int (iz 1)), (0, rr K 56), (1, .int (iz x1)), (3, .int (iz x3)), (4, .int (iz x4))]) dX5_cond_168 rfl (by decide) rfl ?_
      exact zV_sub [1, 2, 0, 3, 4] rfl (key _ ((if_pos c9).trans (if_pos c10)).symm)

set_option maxRecDepth 100000 in
set_option maxHeartbeats 4000000 in
theorem vc_X5_bracket_0 {K : zCx} {d : Nat} (x1 : Int) (m0 : zM) {Q : Int → zM → Prop} (hx1 : inR x1) (h : zok m0 → (x1 < 4 → zCt K (d + 5) mX5_step [rr K 56] m0 (fun r2 m3 => inR r2 → zok m3 → zCt K (d + 5) mX5_cond [rr K 56, .int (iz (x1 + 1))] m3 (fun r4 m5 => inR r4 → zok m5 → (r4 = 0 → Q 0 m5) ∧ (¬ (r4 = 0) → ((m5.1 56 7) = 4 → zCt K (d + 5) mX5_step [rr K 56] m5 (fun r8 m9 => inR r8 → zok m9 → Q 1 m9)) ∧ (¬ ((m5.1 56 7) = 4) → Q 0 m5))))) ∧ (¬ (x1 < 4) → Q 0 m0)) : zV K mX5_bracket (d + 6) 0 [(0, rr K 56), (1, .int (iz x1))] [] m0 Q := by
  refine zV_ok (fun hm0 => ?_)
  replace h := h hm0
  refine zV_iload_n (pc := 0) dX5_bracket_0 rfl 1 rfl ?_
  refine zV_iconst (pc := 1) dX5_bracket_1 ?_
  refine zV_icmp_lt (pc := 2) (tgt := 7) dX5_bracket_2 (by decide) hx1 (inRd rfl) (fun c1 => ?_) (fun c1 => ?_)
  · skip
    replace h := h.1 c1
    refine zV_aloadr_n (pc := 7) dX5_bracket_7 rfl 0 rfl ?_
    refine zV_callV (pc := 8) (mc := mX5_step) (As := []) (rest := []) dX5_bracket_8 zcX5_49 ziX5_step zsX5_step rfl rfl rfl rfl (Nat.le_of_ble_eq_true rfl) h (fun r2 m3 hr2 h => zV_ok (fun hm3 => ?_))
    replace h := h hr2 hm3
    refine zV_aloadr_n (pc := 11) dX5_bracket_11 rfl 0 rfl ?_
    refine zV_iload_n (pc := 12) dX5_bracket_12 rfl 1 rfl ?_
    refine zV_iconst (pc := 13) dX5_bracket_13 ?_
    refine zV_iadd (pc := 14) dX5_bracket_14 ?_
    refine zV_callV (pc := 15) (mc := mX5_cond) (As := [.int (iz (x1 + 1))]) (rest := []) dX5_bracket_15 zcX5_52 ziX5_cond zsX5_cond rfl rfl rfl rfl (Nat.le_of_ble_eq_true rfl) h (fun r4 m5 hr4 h => zV_ok (fun hm5 => ?_))
    replace h := h hr4 hm5
    refine zV_if_eq (pc := 18) (tgt := 29) dX5_bracket_18 (by decide) hr4 (fun c6 => ?_) (fun c6 => ?_)
    · skip
      replace h := h.1 c6
      refine zV_iconst (pc := 29) dX5_bracket_29 ?_
      exact zV_zret (pc := 30) rfl dX5_bracket_30 (Or.inl rfl) h
    · skip
      replace h := h.2 c6
      refine zV_aloadr_n (pc := 21) dX5_bracket_21 rfl 0 rfl ?_
      refine zV_getI (pc := 22) (kz := 7) dX5_bracket_22 zfX5_46 rfl rfl rfl ?_
      refine zV_iconst (pc := 25) dX5_bracket_25 ?_
      refine zV_icmp_eq (pc := 26) (tgt := 31) dX5_bracket_26 (by decide) (hm5 _ _) (inRd rfl) (fun c7 => ?_) (fun c7 => ?_)
      · skip
        replace h := h.1 c7
        refine zV_aloadr_n (pc := 31) dX5_bracket_31 rfl 0 rfl ?_
        refine zV_callV (pc := 32) (mc := mX5_step) (As := []) (rest := []) dX5_bracket_32 zcX5_49 ziX5_step zsX5_step rfl rfl rfl rfl (Nat.le_of_ble_eq_true rfl) h (fun r8 m9 hr8 h => zV_ok (fun hm9 => ?_))
        replace h := h hr8 hm9
        refine zV_iconst (pc := 35) dX5_bracket_35 ?_
        exact zV_zret (pc := 36) rfl dX5_bracket_36 (Or.inr rfl) h
      · skip
        replace h := h.2 c7
        refine zV_iconst (pc := 29) dX5_bracket_29 ?_
        exact zV_zret (pc := 30) rfl dX5_bracket_30 (Or.inl rfl) h
  · skip
    replace h := h.2 c1
    refine zV_iconst (pc := 5) dX5_bracket_5 ?_
    exact zV_zret (pc := 6) rfl dX5_bracket_6 (Or.inl rfl) h

set_option maxRecDepth 100000 in
set_option maxHeartbeats 4000000 in
theorem vc_X5_comparison_0 {K : zCx} {d : Nat}  (m0 : zM) {Q : Int → zM → Prop}  (h : zok m0 → zCt K (d + 4) mX5_sum [rr K 56] m0 (fun r1 m2 => inR r1 → zok m2 → (r1 = 0 → Q 0 m2) ∧ (¬ (r1 = 0) → ∀ v4 : Int, v4 = (if (m2.1 56 7) = 6 then 7 else (if (m2.1 56 7) = 7 then 8 else 9)) → (((m2.1 56 7) = 6 → zCt K (d + 4) mX5_step [rr K 56] m2 (fun r7 m8 => inR r7 → zok m8 → zCt K (d + 4) mX5_sum [rr K 56] m8 (fun r9 m10 => inR r9 → zok m10 → (r9 = 0 → Q 0 m10) ∧ (¬ (r9 = 0) → zCt K (d + 4) mX8_add [rr K 58, .int (iz v4), .int (iz 0)] m10 (fun r12 m13 => inR r12 → zok m13 → Q 1 m13))))) ∧ (¬ ((m2.1 56 7) = 6) → ((m2.1 56 7) = 7 → zCt K (d + 4) mX5_step [rr K 56] m2 (fun r15 m16 => inR r15 → zok m16 → zCt K (d + 4) mX5_sum [rr K 56] m16 (fun r17 m18 => inR r17 → zok m18 → (r17 = 0 → Q 0 m18) ∧ (¬ (r17 = 0) → zCt K (d + 4) mX8_add [rr K 58, .int (iz v4), .int (iz 0)] m18 (fun r20 m21 => inR r20 → zok m21 → Q 1 m21))))) ∧ (¬ ((m2.1 56 7) = 7) → ((m2.1 56 7) = 8 → zCt K (d + 4) mX5_step [rr K 56] m2 (fun r23 m24 => inR r23 → zok m24 → zCt K (d + 4) mX5_sum [rr K 56] m24 (fun r25 m26 => inR r25 → zok m26 → (r25 = 0 → Q 0 m26) ∧ (¬ (r25 = 0) → zCt K (d + 4) mX8_add [rr K 58, .int (iz v4), .int (iz 0)] m26 (fun r28 m29 => inR r28 → zok m29 → Q 1 m29))))) ∧ (¬ ((m2.1 56 7) = 8) → Q 0 m2))))))) : zV K mX5_comparison (d + 5) 0 [(0, rr K 56)] [] m0 Q := by
  refine zV_ok (fun hm0 => ?_)
  replace h := h hm0
  refine zV_aloadr_n (pc := 0) dX5_comparison_0 rfl 0 rfl ?_
  refine zV_callV (pc := 1) (mc := mX5_sum) (As := []) (rest := []) dX5_comparison_1 zcX5_70 ziX5_sum zsX5_sum rfl rfl rfl rfl (Nat.le_of_ble_eq_true rfl) h (fun r1 m2 hr1 h => zV_ok (fun hm2 => ?_))
  replace h := h hr1 hm2
  refine zV_if_ne (pc := 4) (tgt := 9) dX5_comparison_4 (by decide) hr1 (fun c3 => ?_) (fun c3 => ?_)
  · skip
    replace h := h.2 c3
    refine zV_aloadr_n (pc := 9) dX5_comparison_9 rfl 0 rfl ?_
    refine zV_getI (pc := 10) (kz := 7) dX5_comparison_10 zfX5_46 rfl rfl rfl ?_
    refine zV_bipush (pc := 13) dX5_comparison_13 (by decide) ?_
    have key : ∀ v4 : Int, v4 = (if (m2.1 56 7) = 6 then 7 else (if (m2.1 56 7) = 7 then 8 else 9)) → zV K mX5_comparison (d + 5) 39 [(0, rr K 56)] [.int (iz v4)] m2 Q := by
      intro v4 e5
      replace h := h v4 e5
      have hrv4 : inR v4 := by rw [e5]; (repeat' split) <;> first | with_reducible exact (inRd rfl)
      refine zV_istore_n (pc := 39) (loc' := [(1, .int (iz v4)), (0, rr K 56)]) dX5_comparison_39 rfl (by decide) rfl ?_
      refine zV_aloadr_n (pc := 40) dX5_comparison_40 rfl 1 rfl ?_
      refine zV_getI (pc := 41) (kz := 7) dX5_comparison_41 zfX5_46 rfl rfl rfl ?_
      refine zV_bipush (pc := 44) dX5_comparison_44 (by decide) ?_
      refine zV_icmp_eq (pc := 46) (tgt := 69) dX5_comparison_46 (by decide) (hm2 _ _) (inRd rfl) (fun c6 => ?_) (fun c6 => ?_)
      · skip
        replace h := h.1 c6
        refine zV_aloadr_n (pc := 69) dX5_comparison_69 rfl 1 rfl ?_
        refine zV_callV (pc := 70) (mc := mX5_step) (As := []) (rest := []) dX5_comparison_70 zcX5_49 ziX5_step zsX5_step rfl rfl rfl rfl (Nat.le_of_ble_eq_true rfl) h (fun r7 m8 hr7 h => zV_ok (fun hm8 => ?_))
        replace h := h hr7 hm8
        refine zV_aloadr_n (pc := 73) dX5_comparison_73 rfl 1 rfl ?_
        refine zV_callV (pc := 74) (mc := mX5_sum) (As := []) (rest := []) dX5_comparison_74 zcX5_70 ziX5_sum zsX5_sum rfl rfl rfl rfl (Nat.le_of_ble_eq_true rfl) h (fun r9 m10 hr9 h => zV_ok (fun hm10 => ?_))
        replace h := h hr9 hm10
        refine zV_if_ne (pc := 77) (tgt := 82) dX5_comparison_77 (by decide) hr9 (fun c11 => ?_) (fun c11 => ?_)
        · skip
          replace h := h.2 c11
          refine zV_aloadr_n (pc := 82) dX5_comparison_82 rfl 1 rfl ?_
          refine zV_getR (pc := 83) (b := 58) dX5_comparison_83 zfX5_18 rfl rfl rfl ?_
          refine zV_iload_n (pc := 86) dX5_comparison_86 rfl 0 rfl ?_
          refine zV_iconst (pc := 87) dX5_comparison_87 ?_
          refine zV_callV (pc := 88) (mc := mX8_add) (As := [.int (iz v4), .int (iz 0)]) (rest := []) dX5_comparison_88 zcX5_66 ziX8_add zsX8_add rfl rfl rfl rfl (Nat.le_of_ble_eq_true rfl) h (fun r12 m13 hr12 h => zV_ok (fun hm13 => ?_))
          replace h := h hr12 hm13
          refine zV_iconst (pc := 91) dX5_comparison_91 ?_
          exact zV_zret (pc := 92) rfl dX5_comparison_92 (Or.inr rfl) h
        · replace c11 := Classical.not_not.mp c11
          replace h := h.1 c11
          refine zV_iconst (pc := 80) dX5_comparison_80 ?_
          exact zV_zret (pc := 81) rfl dX5_comparison_81 (Or.inl rfl) h
      · skip
        replace h := h.2 c6
        refine zV_aloadr_n (pc := 49) dX5_comparison_49 rfl 1 rfl ?_
        refine zV_getI (pc := 50) (kz := 7) dX5_comparison_50 zfX5_46 rfl rfl rfl ?_
        refine zV_bipush (pc := 53) dX5_comparison_53 (by decide) ?_
        refine zV_icmp_eq (pc := 55) (tgt := 69) dX5_comparison_55 (by decide) (hm2 _ _) (inRd rfl) (fun c14 => ?_) (fun c14 => ?_)
        · skip
          replace h := h.1 c14
          refine zV_aloadr_n (pc := 69) dX5_comparison_69 rfl 1 rfl ?_
          refine zV_callV (pc := 70) (mc := mX5_step) (As := []) (rest := []) dX5_comparison_70 zcX5_49 ziX5_step zsX5_step rfl rfl rfl rfl (Nat.le_of_ble_eq_true rfl) h (fun r15 m16 hr15 h => zV_ok (fun hm16 => ?_))
          replace h := h hr15 hm16
          refine zV_aloadr_n (pc := 73) dX5_comparison_73 rfl 1 rfl ?_
          refine zV_callV (pc := 74) (mc := mX5_sum) (As := []) (rest := []) dX5_comparison_74 zcX5_70 ziX5_sum zsX5_sum rfl rfl rfl rfl (Nat.le_of_ble_eq_true rfl) h (fun r17 m18 hr17 h => zV_ok (fun hm18 => ?_))
          replace h := h hr17 hm18
          refine zV_if_ne (pc := 77) (tgt := 82) dX5_comparison_77 (by decide) hr17 (fun c19 => ?_) (fun c19 => ?_)
          · skip
            replace h := h.2 c19
            refine zV_aloadr_n (pc := 82) dX5_comparison_82 rfl 1 rfl ?_
            refine zV_getR (pc := 83) (b := 58) dX5_comparison_83 zfX5_18 rfl rfl rfl ?_
            refine zV_iload_n (pc := 86) dX5_comparison_86 rfl 0 rfl ?_
            refine zV_iconst (pc := 87) dX5_comparison_87 ?_
            refine zV_callV (pc := 88) (mc := mX8_add) (As := [.int (iz v4), .int (iz 0)]) (rest := []) dX5_comparison_88 zcX5_66 ziX8_add zsX8_add rfl rfl rfl rfl (Nat.le_of_ble_eq_true rfl) h (fun r20 m21 hr20 h => zV_ok (fun hm21 => ?_))
            replace h := h hr20 hm21
            refine zV_iconst (pc := 91) dX5_comparison_91 ?_
            exact zV_zret (pc := 92) rfl dX5_comparison_92 (Or.inr rfl) h
          · replace c19 := Classical.not_not.mp c19
            replace h := h.1 c19
            refine zV_iconst (pc := 80) dX5_comparison_80 ?_
            exact zV_zret (pc := 81) rfl dX5_comparison_81 (Or.inl rfl) h
        · skip
          replace h := h.2 c14
          refine zV_aloadr_n (pc := 58) dX5_comparison_58 rfl 1 rfl ?_
          refine zV_getI (pc := 59) (kz := 7) dX5_comparison_59 zfX5_46 rfl rfl rfl ?_
          refine zV_bipush (pc := 62) dX5_comparison_62 (by decide) ?_
          refine zV_icmp_eq (pc := 64) (tgt := 69) dX5_comparison_64 (by decide) (hm2 _ _) (inRd rfl) (fun c22 => ?_) (fun c22 => ?_)
          · skip
            replace h := h.1 c22
            refine zV_aloadr_n (pc := 69) dX5_comparison_69 rfl 1 rfl ?_
            refine zV_callV (pc := 70) (mc := mX5_step) (As := []) (rest := []) dX5_comparison_70 zcX5_49 ziX5_step zsX5_step rfl rfl rfl rfl (Nat.le_of_ble_eq_true rfl) h (fun r23 m24 hr23 h => zV_ok (fun hm24 => ?_))
            replace h := h hr23 hm24
            refine zV_aloadr_n (pc := 73) dX5_comparison_73 rfl 1 rfl ?_
            refine zV_callV (pc := 74) (mc := mX5_sum) (As := []) (rest := []) dX5_comparison_74 zcX5_70 ziX5_sum zsX5_sum rfl rfl rfl rfl (Nat.le_of_ble_eq_true rfl) h (fun r25 m26 hr25 h => zV_ok (fun hm26 => ?_))
            replace h := h hr25 hm26
            refine zV_if_ne (pc := 77) (tgt := 82) dX5_comparison_77 (by decide) hr25 (fun c27 => ?_) (fun c27 => ?_)
            · skip
              replace h := h.2 c27
              refine zV_aloadr_n (pc := 82) dX5_comparison_82 rfl 1 rfl ?_
              refine zV_getR (pc := 83) (b := 58) dX5_comparison_83 zfX5_18 rfl rfl rfl ?_
              refine zV_iload_n (pc := 86) dX5_comparison_86 rfl 0 rfl ?_
              refine zV_iconst (pc := 87) dX5_comparison_87 ?_
              refine zV_callV (pc := 88) (mc := mX8_add) (As := [.int (iz v4), .int (iz 0)]) (rest := []) dX5_comparison_88 zcX5_66 ziX8_add zsX8_add rfl rfl rfl rfl (Nat.le_of_ble_eq_true rfl) h (fun r28 m29 hr28 h => zV_ok (fun hm29 => ?_))
              replace h := h hr28 hm29
              refine zV_iconst (pc := 91) dX5_comparison_91 ?_
              exact zV_zret (pc := 92) rfl dX5_comparison_92 (Or.inr rfl) h
            · replace c27 := Classical.not_not.mp c27
              replace h := h.1 c27
              refine zV_iconst (pc := 80) dX5_comparison_80 ?_
              exact zV_zret (pc := 81) rfl dX5_comparison_81 (Or.inl rfl) h
          · skip
            replace h := h.2 c22
            refine zV_iconst (pc := 67) dX5_comparison_67 ?_
            exact zV_zret (pc := 68) rfl dX5_comparison_68 (Or.inl rfl) h
    refine zV_icmp_ne (pc := 15) (tgt := 23) dX5_comparison_15 (by decide) (hm2 _ _) (inRd rfl) (fun c30 => ?_) (fun c30 => ?_)
    · skip
      refine zV_aloadr_n (pc := 23) dX5_comparison_23 rfl 0 rfl ?_
      refine zV_getI (pc := 24) (kz := 7) dX5_comparison_24 zfX5_46 rfl rfl rfl ?_
      refine zV_bipush (pc := 27) dX5_comparison_27 (by decide) ?_
      refine zV_icmp_ne (pc := 29) (tgt := 37) dX5_comparison_29 (by decide) (hm2 _ _) (inRd rfl) (fun c31 => ?_) (fun c31 => ?_)
      · skip
        refine zV_bipush (pc := 37) dX5_comparison_37 (by decide) ?_
        exact zV_sub [0] rfl (key _ ((if_neg c30).trans (if_neg c31)).symm)
      · replace c31 := Classical.not_not.mp c31
        refine zV_bipush (pc := 32) dX5_comparison_32 (by decide) ?_
        refine zV_goto (pc := 34) (tgt := 39) dX5_comparison_34 (by decide) ?_
        exact zV_sub [0] rfl (key _ ((if_neg c30).trans (if_pos c31)).symm)
    · replace c30 := Classical.not_not.mp c30
      refine zV_bipush (pc := 18) dX5_comparison_18 (by decide) ?_
      refine zV_goto (pc := 20) (tgt := 39) dX5_comparison_20 (by decide) ?_
      exact zV_sub [0] rfl (key _ (if_pos c30).symm)
  · replace c3 := Classical.not_not.mp c3
    replace h := h.1 c3
    refine zV_iconst (pc := 7) dX5_comparison_7 ?_
    exact zV_zret (pc := 8) rfl dX5_comparison_8 (Or.inl rfl) h

set_option maxRecDepth 100000 in
set_option maxHeartbeats 4000000 in
theorem vc_X5_sum_0 {K : zCx} {d : Nat}  (m0 : zM) {Q : Int → zM → Prop}  (h : zok m0 → zCt K (d + 3) mX5_value [rr K 56] m0 (fun r1 m2 => inR r1 → zok m2 → (r1 = 0 → Q 0 m2) ∧ (¬ (r1 = 0) → zV K mX5_sum (d + 4) 11 [(0, rr K 56), (1, .int (iz 0))] [] m2 Q))) : zV K mX5_sum (d + 4) 0 [(0, rr K 56)] [] m0 Q := by
  refine zV_ok (fun hm0 => ?_)
  replace h := h hm0
  refine zV_aloadr_n (pc := 0) dX5_sum_0 rfl 0 rfl ?_
  refine zV_callV (pc := 1) (mc := mX5_value) (As := []) (rest := []) dX5_sum_1 zcX5_73 ziX5_value zsX5_value rfl rfl rfl rfl (Nat.le_of_ble_eq_true rfl) h (fun r1 m2 hr1 h => zV_ok (fun hm2 => ?_))
  replace h := h hr1 hm2
  refine zV_if_ne (pc := 4) (tgt := 9) dX5_sum_4 (by decide) hr1 (fun c3 => ?_) (fun c3 => ?_)
  · skip
    replace h := h.2 c3
    refine zV_iconst (pc := 9) dX5_sum_9 ?_
    refine zV_istore_n (pc := 10) (loc' := [(1, .int (iz 0)), (0, rr K 56)]) dX5_sum_10 rfl (by decide) rfl ?_
    exact zV_sub [1, 0] rfl h
  · replace c3 := Classical.not_not.mp c3
    replace h := h.1 c3
    refine zV_iconst (pc := 7) dX5_sum_7 ?_
    exact zV_zret (pc := 8) rfl dX5_sum_8 (Or.inl rfl) h
set_option maxRecDepth 100000 in
set_option maxHeartbeats 4000000 in
theorem vc_X5_sum_11 {K : zCx} {d : Nat} (x1 : Int) (m0 : zM) {Q : Int → zM → Prop} (hx1 : inR x1) (h : zok m0 → (220 ≤ x1 → Q 1 m0) ∧ (¬ (220 ≤ x1) → ((m0.1 56 7) = 5 → zCt K (d + 3) mX5_step [rr K 56] m0 (fun r3 m4 => inR r3 → zok m4 → zCt K (d + 3) mX5_value [rr K 56] m4 (fun r5 m6 => inR r5 → zok m6 → (r5 = 0 → Q 0 m6) ∧ (¬ (r5 = 0) → zCt K (d + 3) mX8_add [rr K 58, .int (iz 6), .int (iz 0)] m6 (fun r8 m9 => inR r8 → zok m9 → zV K mX5_sum (d + 4) 11 [(0, rr K 56), (1, .int (iz (x1 + 1)))] [] m9 Q))))) ∧ (¬ ((m0.1 56 7) = 5) → Q 1 m0))) : zV K mX5_sum (d + 4) 11 [(0, rr K 56), (1, .int (iz x1))] [] m0 Q := by
  refine zV_ok (fun hm0 => ?_)
  replace h := h hm0
  refine zV_iload_n (pc := 11) dX5_sum_11 rfl 1 rfl ?_
  refine zV_sipush (pc := 12) dX5_sum_12 (by decide) ?_
  refine zV_icmp_ge (pc := 15) (tgt := 55) dX5_sum_15 (by decide) hx1 (inRd rfl) (fun c1 => ?_) (fun c1 => ?_)
  · skip
    replace h := h.1 c1
    refine zV_iconst (pc := 55) dX5_sum_55 ?_
    exact zV_zret (pc := 56) rfl dX5_sum_56 (Or.inr rfl) h
  · skip
    replace h := h.2 c1
    refine zV_aloadr_n (pc := 18) dX5_sum_18 rfl 0 rfl ?_
    refine zV_getI (pc := 19) (kz := 7) dX5_sum_19 zfX5_46 rfl rfl rfl ?_
    refine zV_iconst (pc := 22) dX5_sum_22 ?_
    refine zV_icmp_ne (pc := 23) (tgt := 55) dX5_sum_23 (by decide) (hm0 _ _) (inRd rfl) (fun c2 => ?_) (fun c2 => ?_)
    · skip
      replace h := h.2 c2
      refine zV_iconst (pc := 55) dX5_sum_55 ?_
      exact zV_zret (pc := 56) rfl dX5_sum_56 (Or.inr rfl) h
    · replace c2 := Classical.not_not.mp c2
      replace h := h.1 c2
      refine zV_aloadr_n (pc := 26) dX5_sum_26 rfl 0 rfl ?_
      refine zV_callV (pc := 27) (mc := mX5_step) (As := []) (rest := []) dX5_sum_27 zcX5_49 ziX5_step zsX5_step rfl rfl rfl rfl (Nat.le_of_ble_eq_true rfl) h (fun r3 m4 hr3 h => zV_ok (fun hm4 => ?_))
      replace h := h hr3 hm4
      refine zV_aloadr_n (pc := 30) dX5_sum_30 rfl 0 rfl ?_
      refine zV_callV (pc := 31) (mc := mX5_value) (As := []) (rest := []) dX5_sum_31 zcX5_73 ziX5_value zsX5_value rfl rfl rfl rfl (Nat.le_of_ble_eq_true rfl) h (fun r5 m6 hr5 h => zV_ok (fun hm6 => ?_))
      replace h := h hr5 hm6
      refine zV_if_ne (pc := 34) (tgt := 39) dX5_sum_34 (by decide) hr5 (fun c7 => ?_) (fun c7 => ?_)
      · skip
        replace h := h.2 c7
        refine zV_aloadr_n (pc := 39) dX5_sum_39 rfl 0 rfl ?_
        refine zV_getR (pc := 40) (b := 58) dX5_sum_40 zfX5_18 rfl rfl rfl ?_
        refine zV_bipush (pc := 43) dX5_sum_43 (by decide) ?_
        refine zV_iconst (pc := 45) dX5_sum_45 ?_
        refine zV_callV (pc := 46) (mc := mX8_add) (As := [.int (iz 6), .int (iz 0)]) (rest := []) dX5_sum_46 zcX5_66 ziX8_add zsX8_add rfl rfl rfl rfl (Nat.le_of_ble_eq_true rfl) h (fun r8 m9 hr8 h => zV_ok (fun hm9 => ?_))
        replace h := h hr8 hm9
        refine zV_iinc (pc := 49) (loc' := [(1, .int (iz (x1 + 1))), (0, rr K 56)]) dX5_sum_49 1 rfl (by decide) rfl ?_
        refine zV_goto (pc := 52) (tgt := 11) dX5_sum_52 (by decide) ?_
        exact zV_sub [1, 0] rfl h
      · replace c7 := Classical.not_not.mp c7
        replace h := h.1 c7
        refine zV_iconst (pc := 37) dX5_sum_37 ?_
        exact zV_zret (pc := 38) rfl dX5_sum_38 (Or.inl rfl) h

set_option maxRecDepth 100000 in
set_option maxHeartbeats 4000000 in
theorem vc_X5_value_0 {K : zCx} {d : Nat}  (m0 : zM) {Q : Int → zM → Prop}  (h : zok m0 → ((m0.1 56 7) = 2 → zCt K (d + 2) mX5_numbered [rr K 56, .int (iz 0), .int (iz 999)] m0 (fun r2 m3 => inR r2 → zok m3 → (r2 = 0 ∨ r2 = 1) ∧ (Q r2 m3))) ∧ ((m0.1 56 7) = 3 → Q 0 m0) ∧ ((m0.1 56 7) = 4 → Q 0 m0) ∧ ((m0.1 56 7) = 5 → Q 0 m0) ∧ ((m0.1 56 7) = 6 → Q 0 m0) ∧ ((m0.1 56 7) = 7 → Q 0 m0) ∧ ((m0.1 56 7) = 8 → Q 0 m0) ∧ ((m0.1 56 7) = 9 → Q 0 m0) ∧ ((m0.1 56 7) = 10 → Q 0 m0) ∧ ((m0.1 56 7) = 11 → Q 0 m0) ∧ ((m0.1 56 7) = 12 → Q 0 m0) ∧ ((m0.1 56 7) = 13 → Q 0 m0) ∧ ((m0.1 56 7) = 14 → zCt K (d + 2) mX5_step [rr K 56] m0 (fun r5 m6 => inR r5 → zok m6 → zCt K (d + 2) mX5_numbered [rr K 56, .int (iz 1), .int (iz 4)] m6 (fun r7 m8 => inR r7 → zok m8 → (r7 = 0 ∨ r7 = 1) ∧ (Q r7 m8)))) ∧ ((m0.1 56 7) = 15 → zCt K (d + 2) mX5_step [rr K 56] m0 (fun r10 m11 => inR r10 → zok m11 → zCt K (d + 2) mX5_numbered [rr K 56, .int (iz 2), .int (iz 9)] m11 (fun r12 m13 => inR r12 → zok m13 → (r12 = 0 ∨ r12 = 1) ∧ (Q r12 m13)))) ∧ ((m0.1 56 7) = 16 → zCt K (d + 2) mX5_plain [rr K 56, .int (iz 3)] m0 (fun r15 m16 => inR r15 → zok m16 → (r15 = 0 ∨ r15 = 1) ∧ (Q r15 m16))) ∧ ((m0.1 56 7) = 17 → zCt K (d + 2) mX5_plain [rr K 56, .int (iz 4)] m0 (fun r18 m19 => inR r18 → zok m19 → (r18 = 0 ∨ r18 = 1) ∧ (Q r18 m19))) ∧ ((m0.1 56 7) = 18 → zCt K (d + 2) mX5_plain [rr K 56, .int (iz 5)] m0 (fun r21 m22 => inR r21 → zok m22 → (r21 = 0 ∨ r21 = 1) ∧ (Q r21 m22))) ∧ (((m0.1 56 7) < 2 ∨ 18 < (m0.1 56 7)) → Q 0 m0)) : zV K mX5_value (d + 3) 0 [(0, rr K 56)] [] m0 Q := by
  refine zV_ok (fun hm0 => ?_)
  replace h := h hm0
  refine zV_aloadr_n (pc := 0) dX5_value_0 rfl 0 rfl ?_
  refine zV_getI (pc := 1) (kz := 7) dX5_value_1 zfX5_46 rfl rfl rfl ?_
  have c1 : (m0.1 56 7) = 2 ∨ (m0.1 56 7) = 3 ∨ (m0.1 56 7) = 4 ∨ (m0.1 56 7) = 5 ∨ (m0.1 56 7) = 6 ∨ (m0.1 56 7) = 7 ∨ (m0.1 56 7) = 8 ∨ (m0.1 56 7) = 9 ∨ (m0.1 56 7) = 10 ∨ (m0.1 56 7) = 11 ∨ (m0.1 56 7) = 12 ∨ (m0.1 56 7) = 13 ∨ (m0.1 56 7) = 14 ∨ (m0.1 56 7) = 15 ∨ (m0.1 56 7) = 16 ∨ (m0.1 56 7) = 17 ∨ (m0.1 56 7) = 18 ∨ ((m0.1 56 7) < 2 ∨ 18 < (m0.1 56 7)) := by omega
  rcases c1 with c1 | c1 | c1 | c1 | c1 | c1 | c1 | c1 | c1 | c1 | c1 | c1 | c1 | c1 | c1 | c1 | c1 | c1
  · refine zV_tswIn (pc := 4) (tgt := 88) (v := 2) dX5_value_4 c1 (inRd rfl) (by decide) (by decide) rfl (by decide) ?_
    replace h := h.1 c1
    refine zV_aloadr_n (pc := 88) dX5_value_88 rfl 0 rfl ?_
    refine zV_iconst (pc := 89) dX5_value_89 ?_
    refine zV_sipush (pc := 90) dX5_value_90 (by decide) ?_
    refine zV_callV (pc := 93) (mc := mX5_numbered) (As := [.int (iz 0), .int (iz 999)]) (rest := []) dX5_value_93 zcX5_76 ziX5_numbered zsX5_numbered rfl rfl rfl rfl (Nat.le_of_ble_eq_true rfl) h (fun r2 m3 hr2 h => zV_ok (fun hm3 => ?_))
    replace h := h hr2 hm3
    obtain ⟨o4, h⟩ := h
    exact zV_zret (pc := 96) rfl dX5_value_96 o4 h
  · refine zV_tswIn (pc := 4) (tgt := 138) (v := 3) dX5_value_4 c1 (inRd rfl) (by decide) (by decide) rfl (by decide) ?_
    replace h := h.2.1 c1
    refine zV_iconst (pc := 138) dX5_value_138 ?_
    exact zV_zret (pc := 139) rfl dX5_value_139 (Or.inl rfl) h
  · refine zV_tswIn (pc := 4) (tgt := 138) (v := 4) dX5_value_4 c1 (inRd rfl) (by decide) (by decide) rfl (by decide) ?_
    replace h := h.2.2.1 c1
    refine zV_iconst (pc := 138) dX5_value_138 ?_
    exact zV_zret (pc := 139) rfl dX5_value_139 (Or.inl rfl) h
  · refine zV_tswIn (pc := 4) (tgt := 138) (v := 5) dX5_value_4 c1 (inRd rfl) (by decide) (by decide) rfl (by decide) ?_
    replace h := h.2.2.2.1 c1
    refine zV_iconst (pc := 138) dX5_value_138 ?_
    exact zV_zret (pc := 139) rfl dX5_value_139 (Or.inl rfl) h
  · refine zV_tswIn (pc := 4) (tgt := 138) (v := 6) dX5_value_4 c1 (inRd rfl) (by decide) (by decide) rfl (by decide) ?_
    replace h := h.2.2.2.2.1 c1
    refine zV_iconst (pc := 138) dX5_value_138 ?_
    exact zV_zret (pc := 139) rfl dX5_value_139 (Or.inl rfl) h
  · refine zV_tswIn (pc := 4) (tgt := 138) (v := 7) dX5_value_4 c1 (inRd rfl) (by decide) (by decide) rfl (by decide) ?_
    replace h := h.2.2.2.2.2.1 c1
    refine zV_iconst (pc := 138) dX5_value_138 ?_
    exact zV_zret (pc := 139) rfl dX5_value_139 (Or.inl rfl) h
  · refine zV_tswIn (pc := 4) (tgt := 138) (v := 8) dX5_value_4 c1 (inRd rfl) (by decide) (by decide) rfl (by decide) ?_
    replace h := h.2.2.2.2.2.2.1 c1
    refine zV_iconst (pc := 138) dX5_value_138 ?_
    exact zV_zret (pc := 139) rfl dX5_value_139 (Or.inl rfl) h
  · refine zV_tswIn (pc := 4) (tgt := 138) (v := 9) dX5_value_4 c1 (inRd rfl) (by decide) (by decide) rfl (by decide) ?_
    replace h := h.2.2.2.2.2.2.2.1 c1
    refine zV_iconst (pc := 138) dX5_value_138 ?_
    exact zV_zret (pc := 139) rfl dX5_value_139 (Or.inl rfl) h
  · refine zV_tswIn (pc := 4) (tgt := 138) (v := 10) dX5_value_4 c1 (inRd rfl) (by decide) (by decide) rfl (by decide) ?_
    replace h := h.2.2.2.2.2.2.2.2.1 c1
    refine zV_iconst (pc := 138) dX5_value_138 ?_
    exact zV_zret (pc := 139) rfl dX5_value_139 (Or.inl rfl) h
  · refine zV_tswIn (pc := 4) (tgt := 138) (v := 11) dX5_value_4 c1 (inRd rfl) (by decide) (by decide) rfl (by decide) ?_
    replace h := h.2.2.2.2.2.2.2.2.2.1 c1
    refine zV_iconst (pc := 138) dX5_value_138 ?_
    exact zV_zret (pc := 139) rfl dX5_value_139 (Or.inl rfl) h
  · refine zV_tswIn (pc := 4) (tgt := 138) (v := 12) dX5_value_4 c1 (inRd rfl) (by decide) (by decide) rfl (by decide) ?_
    replace h := h.2.2.2.2.2.2.2.2.2.2.1 c1
    refine zV_iconst (pc := 138) dX5_value_138 ?_
    exact zV_zret (pc := 139) rfl dX5_value_139 (Or.inl rfl) h
  · refine zV_tswIn (pc := 4) (tgt := 138) (v := 13) dX5_value_4 c1 (inRd rfl) (by decide) (by decide) rfl (by decide) ?_
    replace h := h.2.2.2.2.2.2.2.2.2.2.2.1 c1
    refine zV_iconst (pc := 138) dX5_value_138 ?_
    exact zV_zret (pc := 139) rfl dX5_value_139 (Or.inl rfl) h
  · refine zV_tswIn (pc := 4) (tgt := 97) (v := 14) dX5_value_4 c1 (inRd rfl) (by decide) (by decide) rfl (by decide) ?_
    replace h := h.2.2.2.2.2.2.2.2.2.2.2.2.1 c1
    refine zV_aloadr_n (pc := 97) dX5_value_97 rfl 0 rfl ?_
    refine zV_callV (pc := 98) (mc := mX5_step) (As := []) (rest := []) dX5_value_98 zcX5_49 ziX5_step zsX5_step rfl rfl rfl rfl (Nat.le_of_ble_eq_true rfl) h (fun r5 m6 hr5 h => zV_ok (fun hm6 => ?_))
    replace h := h hr5 hm6
    refine zV_aloadr_n (pc := 101) dX5_value_101 rfl 0 rfl ?_
    refine zV_iconst (pc := 102) dX5_value_102 ?_
    refine zV_iconst (pc := 103) dX5_value_103 ?_
    refine zV_callV (pc := 104) (mc := mX5_numbered) (As := [.int (iz 1), .int (iz 4)]) (rest := []) dX5_value_104 zcX5_76 ziX5_numbered zsX5_numbered rfl rfl rfl rfl (Nat.le_of_ble_eq_true rfl) h (fun r7 m8 hr7 h => zV_ok (fun hm8 => ?_))
    replace h := h hr7 hm8
    obtain ⟨o9, h⟩ := h
    exact zV_zret (pc := 107) rfl dX5_value_107 o9 h
  · refine zV_tswIn (pc := 4) (tgt := 108) (v := 15) dX5_value_4 c1 (inRd rfl) (by decide) (by decide) rfl (by decide) ?_
    replace h := h.2.2.2.2.2.2.2.2.2.2.2.2.2.1 c1
    refine zV_aloadr_n (pc := 108) dX5_value_108 rfl 0 rfl ?_
    refine zV_callV (pc := 109) (mc := mX5_step) (As := []) (rest := []) dX5_value_109 zcX5_49 ziX5_step zsX5_step rfl rfl rfl rfl (Nat.le_of_ble_eq_true rfl) h (fun r10 m11 hr10 h => zV_ok (fun hm11 => ?_))
    replace h := h hr10 hm11
    refine zV_aloadr_n (pc := 112) dX5_value_112 rfl 0 rfl ?_
    refine zV_iconst (pc := 113) dX5_value_113 ?_
    refine zV_bipush (pc := 114) dX5_value_114 (by decide) ?_
    refine zV_callV (pc := 116) (mc := mX5_numbered) (As := [.int (iz 2), .int (iz 9)]) (rest := []) dX5_value_116 zcX5_76 ziX5_numbered zsX5_numbered rfl rfl rfl rfl (Nat.le_of_ble_eq_true rfl) h (fun r12 m13 hr12 h => zV_ok (fun hm13 => ?_))
    replace h := h hr12 hm13
    obtain ⟨o14, h⟩ := h
    exact zV_zret (pc := 119) rfl dX5_value_119 o14 h
  · refine zV_tswIn (pc := 4) (tgt := 120) (v := 16) dX5_value_4 c1 (inRd rfl) (by decide) (by decide) rfl (by decide) ?_
    replace h := h.2.2.2.2.2.2.2.2.2.2.2.2.2.2.1 c1
    refine zV_aloadr_n (pc := 120) dX5_value_120 rfl 0 rfl ?_
    refine zV_iconst (pc := 121) dX5_value_121 ?_
    refine zV_callV (pc := 122) (mc := mX5_plain) (As := [.int (iz 3)]) (rest := []) dX5_value_122 zcX5_80 ziX5_plain zsX5_plain rfl rfl rfl rfl (Nat.le_of_ble_eq_true rfl) h (fun r15 m16 hr15 h => zV_ok (fun hm16 => ?_))
    replace h := h hr15 hm16
    obtain ⟨o17, h⟩ := h
    exact zV_zret (pc := 125) rfl dX5_value_125 o17 h
  · refine zV_tswIn (pc := 4) (tgt := 126) (v := 17) dX5_value_4 c1 (inRd rfl) (by decide) (by decide) rfl (by decide) ?_
    replace h := h.2.2.2.2.2.2.2.2.2.2.2.2.2.2.2.1 c1
    refine zV_aloadr_n (pc := 126) dX5_value_126 rfl 0 rfl ?_
    refine zV_iconst (pc := 127) dX5_value_127 ?_
    refine zV_callV (pc := 128) (mc := mX5_plain) (As := [.int (iz 4)]) (rest := []) dX5_value_128 zcX5_80 ziX5_plain zsX5_plain rfl rfl rfl rfl (Nat.le_of_ble_eq_true rfl) h (fun r18 m19 hr18 h => zV_ok (fun hm19 => ?_))
    replace h := h hr18 hm19
    obtain ⟨o20, h⟩ := h
    exact zV_zret (pc := 131) rfl dX5_value_131 o20 h
  · refine zV_tswIn (pc := 4) (tgt := 132) (v := 18) dX5_value_4 c1 (inRd rfl) (by decide) (by decide) rfl (by decide) ?_
    replace h := h.2.2.2.2.2.2.2.2.2.2.2.2.2.2.2.2.1 c1
    refine zV_aloadr_n (pc := 132) dX5_value_132 rfl 0 rfl ?_
    refine zV_iconst (pc := 133) dX5_value_133 ?_
    refine zV_callV (pc := 134) (mc := mX5_plain) (As := [.int (iz 5)]) (rest := []) dX5_value_134 zcX5_80 ziX5_plain zsX5_plain rfl rfl rfl rfl (Nat.le_of_ble_eq_true rfl) h (fun r21 m22 hr21 h => zV_ok (fun hm22 => ?_))
    replace h := h hr21 hm22
    obtain ⟨o23, h⟩ := h
    exact zV_zret (pc := 137) rfl dX5_value_137 o23 h
  · refine zV_tswOut (pc := 4) (tgt := 138) dX5_value_4 (hm0 _ _) c1 (by decide) ?_
    replace h := h.2.2.2.2.2.2.2.2.2.2.2.2.2.2.2.2.2 c1
    refine zV_iconst (pc := 138) dX5_value_138 ?_
    exact zV_zret (pc := 139) rfl dX5_value_139 (Or.inl rfl) h

set_option maxRecDepth 100000 in
set_option maxHeartbeats 4000000 in
theorem vc_X5_numbered_0 {K : zCx} {d : Nat} (x1 : Int) (x2 : Int) (m0 : zM) {Q : Int → zM → Prop} (hx1 : inR x1) (hx2 : inR x2) (h : zok m0 → ((m0.1 56 7) = 2 → 0 ≤ (m0.1 56 6) ∧ (m0.1 56 6) < 221 ∧ (((m0.1 63 (m0.1 56 6)) ≤ x2 → zCt K (d + 1) mX8_add [rr K 58, .int (iz x1), .int (iz (m0.1 63 (m0.1 56 6)))] m0 (fun r5 m6 => inR r5 → zok m6 → zCt K (d + 1) mX5_step [rr K 56] m6 (fun r7 m8 => inR r7 → zok m8 → Q 1 m8))) ∧ (¬ ((m0.1 63 (m0.1 56 6)) ≤ x2) → Q 0 m0))) ∧ (¬ ((m0.1 56 7) = 2) → Q 0 m0)) : zV K mX5_numbered (d + 2) 0 [(0, rr K 56), (1, .int (iz x1)), (2, .int (iz x2))] [] m0 Q := by
  refine zV_ok (fun hm0 => ?_)
  replace h := h hm0
  refine zV_aloadr_n (pc := 0) dX5_numbered_0 rfl 0 rfl ?_
  refine zV_getI (pc := 1) (kz := 7) dX5_numbered_1 zfX5_46 rfl rfl rfl ?_
  refine zV_iconst (pc := 4) dX5_numbered_4 ?_
  refine zV_icmp_ne (pc := 5) (tgt := 21) dX5_numbered_5 (by decide) (hm0 _ _) (inRd rfl) (fun c1 => ?_) (fun c1 => ?_)
  · skip
    replace h := h.2 c1
    refine zV_iconst (pc := 21) dX5_numbered_21 ?_
    exact zV_zret (pc := 22) rfl dX5_numbered_22 (Or.inl rfl) h
  · replace c1 := Classical.not_not.mp c1
    replace h := h.1 c1
    refine zV_aloadr_n (pc := 8) dX5_numbered_8 rfl 0 rfl ?_
    refine zV_getR (pc := 9) (b := 63) dX5_numbered_9 zfX5_28 rfl rfl rfl ?_
    refine zV_aloadr_n (pc := 12) dX5_numbered_12 rfl 0 rfl ?_
    refine zV_getI (pc := 13) (kz := 6) dX5_numbered_13 zfX5_43 rfl rfl rfl ?_
    obtain ⟨o2, o3, h⟩ := h
    refine zV_iald (pc := 16) dX5_numbered_16 rfl o2 o3 (inR_ix o2 o3 rfl) ?_
    refine zV_iload_n (pc := 17) dX5_numbered_17 rfl 2 rfl ?_
    refine zV_icmp_le (pc := 18) (tgt := 23) dX5_numbered_18 (by decide) (hm0 _ _) hx2 (fun c4 => ?_) (fun c4 => ?_)
    · skip
      replace h := h.1 c4
      refine zV_aloadr_n (pc := 23) dX5_numbered_23 rfl 0 rfl ?_
      refine zV_getR (pc := 24) (b := 58) dX5_numbered_24 zfX5_18 rfl rfl rfl ?_
      refine zV_iload_n (pc := 27) dX5_numbered_27 rfl 1 rfl ?_
      refine zV_aloadr_n (pc := 28) dX5_numbered_28 rfl 0 rfl ?_
      refine zV_getR (pc := 29) (b := 63) dX5_numbered_29 zfX5_28 rfl rfl rfl ?_
      refine zV_aloadr_n (pc := 32) dX5_numbered_32 rfl 0 rfl ?_
      refine zV_getI (pc := 33) (kz := 6) dX5_numbered_33 zfX5_43 rfl rfl rfl ?_
      refine zV_iald (pc := 36) dX5_numbered_36 rfl o2 o3 (inR_ix o2 o3 rfl) ?_
      refine zV_callV (pc := 37) (mc := mX8_add) (As := [.int (iz x1), .int (iz (m0.1 63 (m0.1 56 6)))]) (rest := []) dX5_numbered_37 zcX5_66 ziX8_add zsX8_add rfl rfl rfl rfl (Nat.le_of_ble_eq_true rfl) h (fun r5 m6 hr5 h => zV_ok (fun hm6 => ?_))
      replace h := h hr5 hm6
      refine zV_aloadr_n (pc := 40) dX5_numbered_40 rfl 0 rfl ?_
      refine zV_callV (pc := 41) (mc := mX5_step) (As := []) (rest := []) dX5_numbered_41 zcX5_49 ziX5_step zsX5_step rfl rfl rfl rfl (Nat.le_of_ble_eq_true rfl) h (fun r7 m8 hr7 h => zV_ok (fun hm8 => ?_))
      replace h := h hr7 hm8
      refine zV_iconst (pc := 44) dX5_numbered_44 ?_
      exact zV_zret (pc := 45) rfl dX5_numbered_45 (Or.inr rfl) h
    · skip
      replace h := h.2 c4
      refine zV_iconst (pc := 21) dX5_numbered_21 ?_
      exact zV_zret (pc := 22) rfl dX5_numbered_22 (Or.inl rfl) h

set_option maxRecDepth 100000 in
set_option maxHeartbeats 4000000 in
theorem vc_X5_plain_0 {K : zCx} {d : Nat} (x1 : Int) (m0 : zM) {Q : Int → zM → Prop} (hx1 : inR x1) (h : zok m0 → zCt K (d + 1) mX8_add [rr K 58, .int (iz x1), .int (iz 0)] m0 (fun r1 m2 => inR r1 → zok m2 → zCt K (d + 1) mX5_step [rr K 56] m2 (fun r3 m4 => inR r3 → zok m4 → Q 1 m4))) : zV K mX5_plain (d + 2) 0 [(0, rr K 56), (1, .int (iz x1))] [] m0 Q := by
  refine zV_ok (fun hm0 => ?_)
  replace h := h hm0
  refine zV_aloadr_n (pc := 0) dX5_plain_0 rfl 0 rfl ?_
  refine zV_getR (pc := 1) (b := 58) dX5_plain_1 zfX5_18 rfl rfl rfl ?_
  refine zV_iload_n (pc := 4) dX5_plain_4 rfl 1 rfl ?_
  refine zV_iconst (pc := 5) dX5_plain_5 ?_
  refine zV_callV (pc := 6) (mc := mX8_add) (As := [.int (iz x1), .int (iz 0)]) (rest := []) dX5_plain_6 zcX5_66 ziX8_add zsX8_add rfl rfl rfl rfl (Nat.le_of_ble_eq_true rfl) h (fun r1 m2 hr1 h => zV_ok (fun hm2 => ?_))
  replace h := h hr1 hm2
  refine zV_aloadr_n (pc := 9) dX5_plain_9 rfl 0 rfl ?_
  refine zV_callV (pc := 10) (mc := mX5_step) (As := []) (rest := []) dX5_plain_10 zcX5_49 ziX5_step zsX5_step rfl rfl rfl rfl (Nat.le_of_ble_eq_true rfl) h (fun r3 m4 hr3 h => zV_ok (fun hm4 => ?_))
  replace h := h hr3 hm4
  refine zV_iconst (pc := 13) dX5_plain_13 ?_
  exact zV_zret (pc := 14) rfl dX5_plain_14 (Or.inr rfl) h

set_option maxRecDepth 100000 in
set_option maxHeartbeats 4000000 in
theorem vc_X5_scan_0 {K : zCx} {d : Nat}  (m0 : zM) {Q : Int → zM → Prop}  (h : zok m0 → ∀ m1 : zM, m1 = sI m0 56 8 0 → zok m1 → (zV K mX5_scan (d + 5) 7 [(0, rr K 56), (1, .int (iz 0))] [] m1 Q)) : zV K mX5_scan (d + 5) 0 [(0, rr K 56)] [] m0 Q := by
  refine zV_ok (fun hm0 => ?_)
  replace h := h hm0
  refine zV_aloadr_n (pc := 0) dX5_scan_0 rfl 0 rfl ?_
  refine zV_iconst (pc := 1) dX5_scan_1 ?_
  refine zV_putI (pc := 2) (kz := 8) dX5_scan_2 zpX5_83 rfl rfl rfl (inRd rfl) rfl rfl ?_
  refine zV_mem (fun m1 e2 => zV_ok (fun hm1 => ?_))
  replace h := h m1 e2 hm1
  refine zV_iconst (pc := 5) dX5_scan_5 ?_
  refine zV_istore_n (pc := 6) (loc' := [(1, .int (iz 0)), (0, rr K 56)]) dX5_scan_6 rfl (by decide) rfl ?_
  exact zV_sub [1, 0] rfl h
set_option maxRecDepth 100000 in
set_option maxHeartbeats 4000000 in
theorem vc_X5_scan_7 {K : zCx} {d : Nat} (x1 : Int) (m0 : zM) {Q : Int → zM → Prop} (hx1 : inR x1) (h : zok m0 → (220 < x1 → Q 0 m0) ∧ (¬ (220 < x1) → zV K mX5_scan (d + 5) 14 [(0, rr K 56), (1, .int (iz x1))] [] m0 Q)) : zV K mX5_scan (d + 5) 7 [(0, rr K 56), (1, .int (iz x1))] [] m0 Q := by
  refine zV_ok (fun hm0 => ?_)
  replace h := h hm0
  refine zV_iload_n (pc := 7) dX5_scan_7 rfl 1 rfl ?_
  refine zV_sipush (pc := 8) dX5_scan_8 (by decide) ?_
  refine zV_icmp_gt (pc := 11) (tgt := 115) dX5_scan_11 (by decide) hx1 (inRd rfl) (fun c1 => ?_) (fun c1 => ?_)
  · skip
    replace h := h.1 c1
    exact zV_vret (pc := 115) rfl dX5_scan_115 h
  · skip
    replace h := h.2 c1
    exact zV_sub [0, 1] rfl h
set_option maxRecDepth 100000 in
set_option maxHeartbeats 4000000 in
theorem vc_X5_scan_14 {K : zCx} {d : Nat} (x1 : Int) (m0 : zM) {Q : Int → zM → Prop} (hx1 : inR x1) (h : zok m0 → ((m0.1 56 2) ≤ (m0.1 56 8) → 0 ≤ x1 ∧ x1 < 221 ∧ (∀ m4 : zM, m4 = sI m0 62 x1 (m0.1 56 8) → zok m4 → (∀ m6 : zM, m6 = sI m4 63 x1 0 → zok m6 → (((m6.1 56 2) ≤ (m6.1 56 8) → ∀ m9 : zM, m9 = sI m6 61 x1 0 → zok m9 → (((m9.1 61 x1) = 0 → Q 0 m9) ∧ (¬ ((m9.1 61 x1) = 0) → zV K mX5_scan (d + 5) 7 [(0, rr K 56), (1, .int (iz (x1 + 1)))] [] m9 Q))) ∧ (¬ ((m6.1 56 2) ≤ (m6.1 56 8)) → zCt K (d + 4) mX5_scanOne [rr K 56, .int (iz x1), .int (iz (m6.1 56 8))] m6 (fun r12 m13 => inR r12 → zok m13 → ∀ m14 : zM, m14 = sI m13 61 x1 r12 → zok m14 → (((m14.1 61 x1) = 0 → Q 0 m14) ∧ (¬ ((m14.1 61 x1) = 0) → zV K mX5_scan (d + 5) 7 [(0, rr K 56), (1, .int (iz (x1 + 1)))] [] m14 Q)))))))) ∧ (¬ ((m0.1 56 2) ≤ (m0.1 56 8)) → 0 ≤ (m0.1 56 8) ∧ (m0.1 56 8) < 220 ∧ (((m0.1 57 (m0.1 56 8)) = 32 → inR ((m0.1 56 8) + 1) ∧ (∀ m36 : zM, m36 = sI m0 56 8 ((m0.1 56 8) + 1) → zok m36 → (zV K mX5_scan (d + 5) 14 [(0, rr K 56), (1, .int (iz x1))] [] m36 Q))) ∧ (¬ ((m0.1 57 (m0.1 56 8)) = 32) → 0 ≤ x1 ∧ x1 < 221 ∧ (∀ m22 : zM, m22 = sI m0 62 x1 (m0.1 56 8) → zok m22 → (∀ m24 : zM, m24 = sI m22 63 x1 0 → zok m24 → (((m24.1 56 2) ≤ (m24.1 56 8) → ∀ m27 : zM, m27 = sI m24 61 x1 0 → zok m27 → (((m27.1 61 x1) = 0 → Q 0 m27) ∧ (¬ ((m27.1 61 x1) = 0) → zV K mX5_scan (d + 5) 7 [(0, rr K 56), (1, .int (iz (x1 + 1)))] [] m27 Q))) ∧ (¬ ((m24.1 56 2) ≤ (m24.1 56 8)) → zCt K (d + 4) mX5_scanOne [rr K 56, .int (iz x1), .int (iz (m24.1 56 8))] m24 (fun r30 m31 => inR r30 → zok m31 → ∀ m32 : zM, m32 = sI m31 61 x1 r30 → zok m32 → (((m32.1 61 x1) = 0 → Q 0 m32) ∧ (¬ ((m32.1 61 x1) = 0) → zV K mX5_scan (d + 5) 7 [(0, rr K 56), (1, .int (iz (x1 + 1)))] [] m32 Q))))))))))) : zV K mX5_scan (d + 5) 14 [(0, rr K 56), (1, .int (iz x1))] [] m0 Q := by
  refine zV_ok (fun hm0 => ?_)
  replace h := h hm0
  refine zV_aloadr_n (pc := 14) dX5_scan_14 rfl 0 rfl ?_
  refine zV_getI (pc := 15) (kz := 8) dX5_scan_15 zfX5_83 rfl rfl rfl ?_
  refine zV_aloadr_n (pc := 18) dX5_scan_18 rfl 0 rfl ?_
  refine zV_getI (pc := 19) (kz := 2) dX5_scan_19 zfX5_31 rfl rfl rfl ?_
  refine zV_icmp_ge (pc := 22) (tgt := 52) dX5_scan_22 (by decide) (hm0 _ _) (hm0 _ _) (fun c1 => ?_) (fun c1 => ?_)
  · skip
    replace h := h.1 c1
    refine zV_aloadr_n (pc := 52) dX5_scan_52 rfl 0 rfl ?_
    refine zV_getR (pc := 53) (b := 62) dX5_scan_53 zfX5_25 rfl rfl rfl ?_
    refine zV_iload_n (pc := 56) dX5_scan_56 rfl 1 rfl ?_
    refine zV_aloadr_n (pc := 57) dX5_scan_57 rfl 0 rfl ?_
    refine zV_getI (pc := 58) (kz := 8) dX5_scan_58 zfX5_83 rfl rfl rfl ?_
    obtain ⟨o2, o3, h⟩ := h
    refine zV_iast (pc := 61) dX5_scan_61 rfl o2 o3 (inR_ix o2 o3 rfl) (hm0 _ _) ?_
    refine zV_mem (fun m4 e5 => zV_ok (fun hm4 => ?_))
    replace h := h m4 e5 hm4
    refine zV_aloadr_n (pc := 62) dX5_scan_62 rfl 0 rfl ?_
    refine zV_getR (pc := 63) (b := 63) dX5_scan_63 zfX5_28 rfl rfl rfl ?_
    refine zV_iload_n (pc := 66) dX5_scan_66 rfl 1 rfl ?_
    refine zV_iconst (pc := 67) dX5_scan_67 ?_
    refine zV_iast (pc := 68) dX5_scan_68 rfl o2 o3 (inR_ix o2 o3 rfl) (inRd rfl) ?_
    refine zV_mem (fun m6 e7 => zV_ok (fun hm6 => ?_))
    replace h := h m6 e7 hm6
    refine zV_aloadr_n (pc := 69) dX5_scan_69 rfl 0 rfl ?_
    refine zV_getR (pc := 70) (b := 61) dX5_scan_70 zfX5_22 rfl rfl rfl ?_
    refine zV_iload_n (pc := 73) dX5_scan_73 rfl 1 rfl ?_
    refine zV_aloadr_n (pc := 74) dX5_scan_74 rfl 0 rfl ?_
    refine zV_getI (pc := 75) (kz := 8) dX5_scan_75 zfX5_83 rfl rfl rfl ?_
    refine zV_aloadr_n (pc := 78) dX5_scan_78 rfl 0 rfl ?_
    refine zV_getI (pc := 79) (kz := 2) dX5_scan_79 zfX5_31 rfl rfl rfl ?_
    refine zV_icmp_ge (pc := 82) (tgt := 97) dX5_scan_82 (by decide) (hm6 _ _) (hm6 _ _) (fun c8 => ?_) (fun c8 => ?_)
    · skip
      replace h := h.1 c8
      refine zV_iconst (pc := 97) dX5_scan_97 ?_
      refine zV_iast (pc := 98) dX5_scan_98 rfl o2 o3 (inR_ix o2 o3 rfl) (inRd rfl) ?_
      refine zV_mem (fun m9 e10 => zV_ok (fun hm9 => ?_))
      replace h := h m9 e10 hm9
      refine zV_aloadr_n (pc := 99) dX5_scan_99 rfl 0 rfl ?_
      refine zV_getR (pc := 100) (b := 61) dX5_scan_100 zfX5_22 rfl rfl rfl ?_
      refine zV_iload_n (pc := 103) dX5_scan_103 rfl 1 rfl ?_
      refine zV_iald (pc := 104) dX5_scan_104 rfl o2 o3 (inR_ix o2 o3 rfl) ?_
      refine zV_if_ne (pc := 105) (tgt := 109) dX5_scan_105 (by decide) (hm9 _ _) (fun c11 => ?_) (fun c11 => ?_)
      · skip
        replace h := h.2 c11
        refine zV_iinc (pc := 109) (loc' := [(1, .int (iz (x1 + 1))), (0, rr K 56)]) dX5_scan_109 1 rfl (by decide) rfl ?_
        refine zV_goto (pc := 112) (tgt := 7) dX5_scan_112 (by decide) ?_
        exact zV_sub [1, 0] rfl h
      · replace c11 := Classical.not_not.mp c11
        replace h := h.1 c11
        exact zV_vret (pc := 108) rfl dX5_scan_108 h
    · skip
      replace h := h.2 c8
      refine zV_aloadr_n (pc := 85) dX5_scan_85 rfl 0 rfl ?_
      refine zV_iload_n (pc := 86) dX5_scan_86 rfl 1 rfl ?_
      refine zV_aloadr_n (pc := 87) dX5_scan_87 rfl 0 rfl ?_
      refine zV_getI (pc := 88) (kz := 8) dX5_scan_88 zfX5_83 rfl rfl rfl ?_
      refine zV_callV (pc := 91) (mc := mX5_scanOne) (As := [.int (iz x1), .int (iz (m6.1 56 8))]) (rest := [.int (iz x1), rr K 61]) dX5_scan_91 zcX5_86 ziX5_scanOne zsX5_scanOne rfl rfl rfl rfl (Nat.le_of_ble_eq_true rfl) h (fun r12 m13 hr12 h => zV_ok (fun hm13 => ?_))
      replace h := h hr12 hm13
      refine zV_goto (pc := 94) (tgt := 98) dX5_scan_94 (by decide) ?_
      refine zV_iast (pc := 98) dX5_scan_98 rfl o2 o3 (inR_ix o2 o3 rfl) hr12 ?_
      refine zV_mem (fun m14 e15 => zV_ok (fun hm14 => ?_))
      replace h := h m14 e15 hm14
      refine zV_aloadr_n (pc := 99) dX5_scan_99 rfl 0 rfl ?_
      refine zV_getR (pc := 100) (b := 61) dX5_scan_100 zfX5_22 rfl rfl rfl ?_
      refine zV_iload_n (pc := 103) dX5_scan_103 rfl 1 rfl ?_
      refine zV_iald (pc := 104) dX5_scan_104 rfl o2 o3 (inR_ix o2 o3 rfl) ?_
      refine zV_if_ne (pc := 105) (tgt := 109) dX5_scan_105 (by decide) (hm14 _ _) (fun c16 => ?_) (fun c16 => ?_)
      · skip
        replace h := h.2 c16
        refine zV_iinc (pc := 109) (loc' := [(1, .int (iz (x1 + 1))), (0, rr K 56)]) dX5_scan_109 1 rfl (by decide) rfl ?_
        refine zV_goto (pc := 112) (tgt := 7) dX5_scan_112 (by decide) ?_
        exact zV_sub [1, 0] rfl h
      · replace c16 := Classical.not_not.mp c16
        replace h := h.1 c16
        exact zV_vret (pc := 108) rfl dX5_scan_108 h
  · skip
    replace h := h.2 c1
    refine zV_aloadr_n (pc := 25) dX5_scan_25 rfl 0 rfl ?_
    refine zV_getR (pc := 26) (b := 57) dX5_scan_26 zfX5_9 rfl rfl rfl ?_
    refine zV_aloadr_n (pc := 29) dX5_scan_29 rfl 0 rfl ?_
    refine zV_getI (pc := 30) (kz := 8) dX5_scan_30 zfX5_83 rfl rfl rfl ?_
    obtain ⟨o17, o18, h⟩ := h
    refine zV_iald (pc := 33) dX5_scan_33 rfl o17 o18 (inR_ix o17 o18 rfl) ?_
    refine zV_bipush (pc := 34) dX5_scan_34 (by decide) ?_
    refine zV_icmp_ne (pc := 36) (tgt := 52) dX5_scan_36 (by decide) (hm0 _ _) (inRd rfl) (fun c19 => ?_) (fun c19 => ?_)
    · skip
      replace h := h.2 c19
      refine zV_aloadr_n (pc := 52) dX5_scan_52 rfl 0 rfl ?_
      refine zV_getR (pc := 53) (b := 62) dX5_scan_53 zfX5_25 rfl rfl rfl ?_
      refine zV_iload_n (pc := 56) dX5_scan_56 rfl 1 rfl ?_
      refine zV_aloadr_n (pc := 57) dX5_scan_57 rfl 0 rfl ?_
      refine zV_getI (pc := 58) (kz := 8) dX5_scan_58 zfX5_83 rfl rfl rfl ?_
      obtain ⟨o20, o21, h⟩ := h
      refine zV_iast (pc := 61) dX5_scan_61 rfl o20 o21 (inR_ix o20 o21 rfl) (hm0 _ _) ?_
      refine zV_mem (fun m22 e23 => zV_ok (fun hm22 => ?_))
      replace h := h m22 e23 hm22
      refine zV_aloadr_n (pc := 62) dX5_scan_62 rfl 0 rfl ?_
      refine zV_getR (pc := 63) (b := 63) dX5_scan_63 zfX5_28 rfl rfl rfl ?_
      refine zV_iload_n (pc := 66) dX5_scan_66 rfl 1 rfl ?_
      refine zV_iconst (pc := 67) dX5_scan_67 ?_
      refine zV_iast (pc := 68) dX5_scan_68 rfl o20 o21 (inR_ix o20 o21 rfl) (inRd rfl) ?_
      refine zV_mem (fun m24 e25 => zV_ok (fun hm24 => ?_))
      replace h := h m24 e25 hm24
      refine zV_aloadr_n (pc := 69) dX5_scan_69 rfl 0 rfl ?_
      refine zV_getR (pc := 70) (b := 61) dX5_scan_70 zfX5_22 rfl rfl rfl ?_
      refine zV_iload_n (pc := 73) dX5_scan_73 rfl 1 rfl ?_
      refine zV_aloadr_n (pc := 74) dX5_scan_74 rfl 0 rfl ?_
      refine zV_getI (pc := 75) (kz := 8) dX5_scan_75 zfX5_83 rfl rfl rfl ?_
      refine zV_aloadr_n (pc := 78) dX5_scan_78 rfl 0 rfl ?_
      refine zV_getI (pc := 79) (kz := 2) dX5_scan_79 zfX5_31 rfl rfl rfl ?_
      refine zV_icmp_ge (pc := 82) (tgt := 97) dX5_scan_82 (by decide) (hm24 _ _) (hm24 _ _) (fun c26 => ?_) (fun c26 => ?_)
      · skip
        replace h := h.1 c26
        refine zV_iconst (pc := 97) dX5_scan_97 ?_
        refine zV_iast (pc := 98) dX5_scan_98 rfl o20 o21 (inR_ix o20 o21 rfl) (inRd rfl) ?_
        refine zV_mem (fun m27 e28 => zV_ok (fun hm27 => ?_))
        replace h := h m27 e28 hm27
        refine zV_aloadr_n (pc := 99) dX5_scan_99 rfl 0 rfl ?_
        refine zV_getR (pc := 100) (b := 61) dX5_scan_100 zfX5_22 rfl rfl rfl ?_
        refine zV_iload_n (pc := 103) dX5_scan_103 rfl 1 rfl ?_
        refine zV_iald (pc := 104) dX5_scan_104 rfl o20 o21 (inR_ix o20 o21 rfl) ?_
        refine zV_if_ne (pc := 105) (tgt := 109) dX5_scan_105 (by decide) (hm27 _ _) (fun c29 => ?_) (fun c29 => ?_)
        · skip
          replace h := h.2 c29
          refine zV_iinc (pc := 109) (loc' := [(1, .int (iz (x1 + 1))), (0, rr K 56)]) dX5_scan_109 1 rfl (by decide) rfl ?_
          refine zV_goto (pc := 112) (tgt := 7) dX5_scan_112 (by decide) ?_
          exact zV_sub [1, 0] rfl h
        · replace c29 := Classical.not_not.mp c29
          replace h := h.1 c29
          exact zV_vret (pc := 108) rfl dX5_scan_108 h
      · skip
        replace h := h.2 c26
        refine zV_aloadr_n (pc := 85) dX5_scan_85 rfl 0 rfl ?_
        refine zV_iload_n (pc := 86) dX5_scan_86 rfl 1 rfl ?_
        refine zV_aloadr_n (pc := 87) dX5_scan_87 rfl 0 rfl ?_
        refine zV_getI (pc := 88) (kz := 8) dX5_scan_88 zfX5_83 rfl rfl rfl ?_
        refine zV_callV (pc := 91) (mc := mX5_scanOne) (As := [.int (iz x1), .int (iz (m24.1 56 8))]) (rest := [.int (iz x1), rr K 61]) dX5_scan_91 zcX5_86 ziX5_scanOne zsX5_scanOne rfl rfl rfl rfl (Nat.le_of_ble_eq_true rfl) h (fun r30 m31 hr30 h => zV_ok (fun hm31 => ?_))
        replace h := h hr30 hm31
        refine zV_goto (pc := 94) (tgt := 98) dX5_scan_94 (by decide) ?_
        refine zV_iast (pc := 98) dX5_scan_98 rfl o20 o21 (inR_ix o20 o21 rfl) hr30 ?_
        refine zV_mem (fun m32 e33 => zV_ok (fun hm32 => ?_))
        replace h := h m32 e33 hm32
        refine zV_aloadr_n (pc := 99) dX5_scan_99 rfl 0 rfl ?_
        refine zV_getR (pc := 100) (b := 61) dX5_scan_100 zfX5_22 rfl rfl rfl ?_
        refine zV_iload_n (pc := 103) dX5_scan_103 rfl 1 rfl ?_
        refine zV_iald (pc := 104) dX5_scan_104 rfl o20 o21 (inR_ix o20 o21 rfl) ?_
        refine zV_if_ne (pc := 105) (tgt := 109) dX5_scan_105 (by decide) (hm32 _ _) (fun c34 => ?_) (fun c34 => ?_)
        · skip
          replace h := h.2 c34
          refine zV_iinc (pc := 109) (loc' := [(1, .int (iz (x1 + 1))), (0, rr K 56)]) dX5_scan_109 1 rfl (by decide) rfl ?_
          refine zV_goto (pc := 112) (tgt := 7) dX5_scan_112 (by decide) ?_
          exact zV_sub [1, 0] rfl h
        · replace c34 := Classical.not_not.mp c34
          replace h := h.1 c34
          exact zV_vret (pc := 108) rfl dX5_scan_108 h
    · replace c19 := Classical.not_not.mp c19
      replace h := h.1 c19
      refine zV_aloadr_n (pc := 39) dX5_scan_39 rfl 0 rfl ?_
      refine zV_dup (pc := 40) dX5_scan_40 rfl ?_
      refine zV_getI (pc := 41) (kz := 8) dX5_scan_41 zfX5_83 rfl rfl rfl ?_
      refine zV_iconst (pc := 44) dX5_scan_44 ?_
      refine zV_iadd (pc := 45) dX5_scan_45 ?_
      obtain ⟨o35, h⟩ := h
      refine zV_putI (pc := 46) (kz := 8) dX5_scan_46 zpX5_83 rfl rfl rfl o35 rfl rfl ?_
      refine zV_mem (fun m36 e37 => zV_ok (fun hm36 => ?_))
      replace h := h m36 e37 hm36
      refine zV_goto (pc := 49) (tgt := 14) dX5_scan_49 (by decide) ?_
      exact zV_sub [0, 1] rfl h

set_option maxRecDepth 100000 in
set_option maxHeartbeats 4000000 in
theorem vc_X5_scanOne_0 {K : zCx} {d : Nat} (x1 : Int) (x2 : Int) (m0 : zM) {Q : Int → zM → Prop} (hx1 : inR x1) (hx2 : inR x2) (h : zok m0 → 0 ≤ x2 ∧ x2 < 220 ∧ (((48 ≤ (m0.1 57 x2) ∧ (m0.1 57 x2) ≤ 57) → zV K mX5_scanOne (d + 4) 12 [(0, rr K 56), (1, .int (iz x1)), (2, .int (iz x2))] [] m0 Q) ∧ (¬ ((48 ≤ (m0.1 57 x2) ∧ (m0.1 57 x2) ≤ 57)) → ((97 ≤ (m0.1 57 x2) ∧ (m0.1 57 x2) ≤ 122) → zV K mX5_scanOne (d + 4) 118 [(0, rr K 56), (2, .int (iz x2))] [] m0 Q) ∧ (¬ ((97 ≤ (m0.1 57 x2) ∧ (m0.1 57 x2) ≤ 122)) → inR ((m0.1 56 8) + 1) ∧ (∀ m10 : zM, m10 = sI m0 56 8 ((m0.1 56 8) + 1) → zok m10 → (zCt K (d + 3) mX5_sign [.int (iz (m10.1 57 x2))] m10 (fun r12 m13 => inR r12 → zok m13 → Q r12 m13))))))) : zV K mX5_scanOne (d + 4) 0 [(0, rr K 56), (1, .int (iz x1)), (2, .int (iz x2))] [] m0 Q := by
  refine zV_ok (fun hm0 => ?_)
  replace h := h hm0
  refine zV_aloadr_n (pc := 0) dX5_scanOne_0 rfl 0 rfl ?_
  refine zV_getR (pc := 1) (b := 57) dX5_scanOne_1 zfX5_9 rfl rfl rfl ?_
  refine zV_iload_n (pc := 4) dX5_scanOne_4 rfl 2 rfl ?_
  obtain ⟨o1, o2, h⟩ := h
  refine zV_iald (pc := 5) dX5_scanOne_5 rfl o1 o2 (inR_ix o1 o2 rfl) ?_
  refine zV_callSf (pc := 6) (mc := mX5_isDigit) (As := [.int (iz (m0.1 57 x2))]) (rest := []) dX5_scanOne_6 zcX5_90 ztX5_isDigit rfl rfl (Nat.le_of_ble_eq_true rfl) (c_X5_isDigit (hm0 _ _)) (fun hr3 => ?_)
  refine zV_if_eq (pc := 9) (tgt := 106) dX5_scanOne_9 (by decide) (inR_b2i _) (fun c5 => ?_) (fun c5 => ?_)
  · replace c5 := b2i_fp c5
    replace h := h.2 c5
    refine zV_aloadr_n (pc := 106) dX5_scanOne_106 rfl 0 rfl ?_
    refine zV_getR (pc := 107) (b := 57) dX5_scanOne_107 zfX5_9 rfl rfl rfl ?_
    refine zV_iload_n (pc := 110) dX5_scanOne_110 rfl 2 rfl ?_
    refine zV_iald (pc := 111) dX5_scanOne_111 rfl o1 o2 (inR_ix o1 o2 rfl) ?_
    refine zV_callSf (pc := 112) (mc := mX5_isLetter) (As := [.int (iz (m0.1 57 x2))]) (rest := []) dX5_scanOne_112 zcX5_93 ztX5_isLetter rfl rfl (Nat.le_of_ble_eq_true rfl) (c_X5_isLetter (hm0 _ _)) (fun hr6 => ?_)
    refine zV_if_eq (pc := 115) (tgt := 163) dX5_scanOne_115 (by decide) (inR_b2i _) (fun c8 => ?_) (fun c8 => ?_)
    · replace c8 := b2i_fp c8
      replace h := h.2 c8
      refine zV_aloadr_n (pc := 163) dX5_scanOne_163 rfl 0 rfl ?_
      refine zV_dup (pc := 164) dX5_scanOne_164 rfl ?_
      refine zV_getI (pc := 165) (kz := 8) dX5_scanOne_165 zfX5_83 rfl rfl rfl ?_
      refine zV_iconst (pc := 168) dX5_scanOne_168 ?_
      refine zV_iadd (pc := 169) dX5_scanOne_169 ?_
      obtain ⟨o9, h⟩ := h
      refine zV_putI (pc := 170) (kz := 8) dX5_scanOne_170 zpX5_83 rfl rfl rfl o9 rfl rfl ?_
      refine zV_mem (fun m10 e11 => zV_ok (fun hm10 => ?_))
      replace h := h m10 e11 hm10
      refine zV_aloadr_n (pc := 173) dX5_scanOne_173 rfl 0 rfl ?_
      refine zV_getR (pc := 174) (b := 57) dX5_scanOne_174 zfX5_9 rfl rfl rfl ?_
      refine zV_iload_n (pc := 177) dX5_scanOne_177 rfl 2 rfl ?_
      refine zV_iald (pc := 178) dX5_scanOne_178 rfl o1 o2 (inR_ix o1 o2 rfl) ?_
      refine zV_callS (pc := 179) (mc := mX5_sign) (As := [.int (iz (m10.1 57 x2))]) (rest := []) dX5_scanOne_179 zcX5_100 ztX5_sign rfl rfl (Nat.le_of_ble_eq_true rfl) h (fun r12 m13 hr12 h => zV_ok (fun hm13 => ?_))
      replace h := h hr12 hm13
      exact zV_iret (pc := 182) rfl dX5_scanOne_182 hr12 h
    · replace c8 := b2i_tp c8
      replace h := h.1 c8
      exact zV_sub [0, 2] rfl h
  · replace c5 := b2i_tp c5
    replace h := h.1 c5
    exact zV_sub [0, 1, 2] rfl h
set_option maxRecDepth 100000 in
set_option maxHeartbeats 4000000 in
theorem vc_X5_scanOne_12 {K : zCx} {d : Nat} (x1 : Int) (x2 : Int) (m0 : zM) {Q : Int → zM → Prop} (hx1 : inR x1) (hx2 : inR x2) (h : zok m0 → ((m0.1 56 2) ≤ (m0.1 56 8) → inR ((m0.1 56 8) - x2) ∧ ((((m0.1 56 8) - x2) ≤ 3 → zV K mX5_scanOne (d + 4) 65 [(0, rr K 56), (1, .int (iz x1)), (3, .int (iz x2))] [] m0 Q) ∧ (¬ (((m0.1 56 8) - x2) ≤ 3) → Q 1 m0))) ∧ (¬ ((m0.1 56 2) ≤ (m0.1 56 8)) → 0 ≤ (m0.1 56 8) ∧ (m0.1 56 8) < 220 ∧ (((48 ≤ (m0.1 57 (m0.1 56 8)) ∧ (m0.1 57 (m0.1 56 8)) ≤ 57) → inR ((m0.1 56 8) + 1) ∧ (∀ m12 : zM, m12 = sI m0 56 8 ((m0.1 56 8) + 1) → zok m12 → (zV K mX5_scanOne (d + 4) 12 [(0, rr K 56), (1, .int (iz x1)), (2, .int (iz x2))] [] m12 Q))) ∧ (¬ ((48 ≤ (m0.1 57 (m0.1 56 8)) ∧ (m0.1 57 (m0.1 56 8)) ≤ 57)) → inR ((m0.1 56 8) - x2) ∧ ((((m0.1 56 8) - x2) ≤ 3 → zV K mX5_scanOne (d + 4) 65 [(0, rr K 56), (1, .int (iz x1)), (3, .int (iz x2))] [] m0 Q) ∧ (¬ (((m0.1 56 8) - x2) ≤ 3) → Q 1 m0)))))) : zV K mX5_scanOne (d + 4) 12 [(0, rr K 56), (1, .int (iz x1)), (2, .int (iz x2))] [] m0 Q := by
  refine zV_ok (fun hm0 => ?_)
  replace h := h hm0
  refine zV_aloadr_n (pc := 12) dX5_scanOne_12 rfl 0 rfl ?_
  refine zV_getI (pc := 13) (kz := 8) dX5_scanOne_13 zfX5_83 rfl rfl rfl ?_
  refine zV_aloadr_n (pc := 16) dX5_scanOne_16 rfl 0 rfl ?_
  refine zV_getI (pc := 17) (kz := 2) dX5_scanOne_17 zfX5_31 rfl rfl rfl ?_
  refine zV_icmp_ge (pc := 20) (tgt := 51) dX5_scanOne_20 (by decide) (hm0 _ _) (hm0 _ _) (fun c1 => ?_) (fun c1 => ?_)
  · skip
    replace h := h.1 c1
    refine zV_aloadr_n (pc := 51) dX5_scanOne_51 rfl 0 rfl ?_
    refine zV_getI (pc := 52) (kz := 8) dX5_scanOne_52 zfX5_83 rfl rfl rfl ?_
    refine zV_iload_n (pc := 55) dX5_scanOne_55 rfl 2 rfl ?_
    refine zV_isub (pc := 56) dX5_scanOne_56 ?_
    refine zV_iconst (pc := 57) dX5_scanOne_57 ?_
    obtain ⟨o2, h⟩ := h
    refine zV_icmp_le (pc := 58) (tgt := 63) dX5_scanOne_58 (by decide) o2 (inRd rfl) (fun c3 => ?_) (fun c3 => ?_)
    · skip
      replace h := h.1 c3
      refine zV_iload_n (pc := 63) dX5_scanOne_63 rfl 2 rfl ?_
      refine zV_istore_n (pc := 64) (loc' := [(3, .int (iz x2)), (0, rr K 56), (1, .int (iz x1)), (2, .int (iz x2))]) dX5_scanOne_64 rfl (by decide) rfl ?_
      exact zV_sub [1, 2, 0] rfl h
    · skip
      replace h := h.2 c3
      refine zV_iconst (pc := 61) dX5_scanOne_61 ?_
      exact zV_iret (pc := 62) rfl dX5_scanOne_62 (inRd rfl) h
  · skip
    replace h := h.2 c1
    refine zV_aloadr_n (pc := 23) dX5_scanOne_23 rfl 0 rfl ?_
    refine zV_getR (pc := 24) (b := 57) dX5_scanOne_24 zfX5_9 rfl rfl rfl ?_
    refine zV_aloadr_n (pc := 27) dX5_scanOne_27 rfl 0 rfl ?_
    refine zV_getI (pc := 28) (kz := 8) dX5_scanOne_28 zfX5_83 rfl rfl rfl ?_
    obtain ⟨o4, o5, h⟩ := h
    refine zV_iald (pc := 31) dX5_scanOne_31 rfl o4 o5 (inR_ix o4 o5 rfl) ?_
    refine zV_callSf (pc := 32) (mc := mX5_isDigit) (As := [.int (iz (m0.1 57 (m0.1 56 8)))]) (rest := []) dX5_scanOne_32 zcX5_90 ztX5_isDigit rfl rfl (Nat.le_of_ble_eq_true rfl) (c_X5_isDigit (hm0 _ _)) (fun hr6 => ?_)
    refine zV_if_eq (pc := 35) (tgt := 51) dX5_scanOne_35 (by decide) (inR_b2i _) (fun c8 => ?_) (fun c8 => ?_)
    · replace c8 := b2i_fp c8
      replace h := h.2 c8
      refine zV_aloadr_n (pc := 51) dX5_scanOne_51 rfl 0 rfl ?_
      refine zV_getI (pc := 52) (kz := 8) dX5_scanOne_52 zfX5_83 rfl rfl rfl ?_
      refine zV_iload_n (pc := 55) dX5_scanOne_55 rfl 2 rfl ?_
      refine zV_isub (pc := 56) dX5_scanOne_56 ?_
      refine zV_iconst (pc := 57) dX5_scanOne_57 ?_
      obtain ⟨o9, h⟩ := h
      refine zV_icmp_le (pc := 58) (tgt := 63) dX5_scanOne_58 (by decide) o9 (inRd rfl) (fun c10 => ?_) (fun c10 => ?_)
      · skip
        replace h := h.1 c10
        refine zV_iload_n (pc := 63) dX5_scanOne_63 rfl 2 rfl ?_
        refine zV_istore_n (pc := 64) (loc' := [(3, .int (iz x2)), (0, rr K 56), (1, .int (iz x1)), (2, .int (iz x2))]) dX5_scanOne_64 rfl (by decide) rfl ?_
        exact zV_sub [1, 2, 0] rfl h
      · skip
        replace h := h.2 c10
        refine zV_iconst (pc := 61) dX5_scanOne_61 ?_
        exact zV_iret (pc := 62) rfl dX5_scanOne_62 (inRd rfl) h
    · replace c8 := b2i_tp c8
      replace h := h.1 c8
      refine zV_aloadr_n (pc := 38) dX5_scanOne_38 rfl 0 rfl ?_
      refine zV_dup (pc := 39) dX5_scanOne_39 rfl ?_
      refine zV_getI (pc := 40) (kz := 8) dX5_scanOne_40 zfX5_83 rfl rfl rfl ?_
      refine zV_iconst (pc := 43) dX5_scanOne_43 ?_
      refine zV_iadd (pc := 44) dX5_scanOne_44 ?_
      obtain ⟨o11, h⟩ := h
      refine zV_putI (pc := 45) (kz := 8) dX5_scanOne_45 zpX5_83 rfl rfl rfl o11 rfl rfl ?_
      refine zV_mem (fun m12 e13 => zV_ok (fun hm12 => ?_))
      replace h := h m12 e13 hm12
      refine zV_goto (pc := 48) (tgt := 12) dX5_scanOne_48 (by decide) ?_
      exact zV_sub [0, 1, 2] rfl h
set_option maxRecDepth 100000 in
set_option maxHeartbeats 4000000 in
theorem vc_X5_scanOne_65 {K : zCx} {d : Nat} (x1 : Int) (x3 : Int) (m0 : zM) {Q : Int → zM → Prop} (hx1 : inR x1) (hx3 : inR x3) (h : zok m0 → ((m0.1 56 8) ≤ x3 → Q 2 m0) ∧ (¬ ((m0.1 56 8) ≤ x3) → 0 ≤ x1 ∧ x1 < 221 ∧ (0 ≤ x3 ∧ x3 < 220 ∧ (inR ((((m0.1 63 x1) * 10) + (m0.1 57 x3)) - 48) ∧ (∀ m7 : zM, m7 = sI m0 63 x1 ((((m0.1 63 x1) * 10) + (m0.1 57 x3)) - 48) → zok m7 → (zV K mX5_scanOne (d + 4) 65 [(0, rr K 56), (1, .int (iz x1)), (3, .int (iz (x3 + 1)))] [] m7 Q)))))) : zV K mX5_scanOne (d + 4) 65 [(0, rr K 56), (1, .int (iz x1)), (3, .int (iz x3))] [] m0 Q := by
  refine zV_ok (fun hm0 => ?_)
  replace h := h hm0
  refine zV_iload_n (pc := 65) dX5_scanOne_65 rfl 2 rfl ?_
  refine zV_aloadr_n (pc := 66) dX5_scanOne_66 rfl 0 rfl ?_
  refine zV_getI (pc := 67) (kz := 8) dX5_scanOne_67 zfX5_83 rfl rfl rfl ?_
  refine zV_icmp_ge (pc := 70) (tgt := 104) dX5_scanOne_70 (by decide) hx3 (hm0 _ _) (fun c1 => ?_) (fun c1 => ?_)
  · skip
    replace h := h.1 c1
    refine zV_iconst (pc := 104) dX5_scanOne_104 ?_
    exact zV_iret (pc := 105) rfl dX5_scanOne_105 (inRd rfl) h
  · skip
    replace h := h.2 c1
    refine zV_aloadr_n (pc := 73) dX5_scanOne_73 rfl 0 rfl ?_
    refine zV_getR (pc := 74) (b := 63) dX5_scanOne_74 zfX5_28 rfl rfl rfl ?_
    refine zV_iload_n (pc := 77) dX5_scanOne_77 rfl 1 rfl ?_
    refine zV_aloadr_n (pc := 78) dX5_scanOne_78 rfl 0 rfl ?_
    refine zV_getR (pc := 79) (b := 63) dX5_scanOne_79 zfX5_28 rfl rfl rfl ?_
    refine zV_iload_n (pc := 82) dX5_scanOne_82 rfl 1 rfl ?_
    obtain ⟨o2, o3, h⟩ := h
    refine zV_iald (pc := 83) dX5_scanOne_83 rfl o2 o3 (inR_ix o2 o3 rfl) ?_
    refine zV_bipush (pc := 84) dX5_scanOne_84 (by decide) ?_
    refine zV_imul (pc := 86) dX5_scanOne_86 ?_
    refine zV_aloadr_n (pc := 87) dX5_scanOne_87 rfl 0 rfl ?_
    refine zV_getR (pc := 88) (b := 57) dX5_scanOne_88 zfX5_9 rfl rfl rfl ?_
    refine zV_iload_n (pc := 91) dX5_scanOne_91 rfl 2 rfl ?_
    obtain ⟨o4, o5, h⟩ := h
    refine zV_iald (pc := 92) dX5_scanOne_92 rfl o4 o5 (inR_ix o4 o5 rfl) ?_
    refine zV_iadd (pc := 93) dX5_scanOne_93 ?_
    refine zV_bipush (pc := 94) dX5_scanOne_94 (by decide) ?_
    refine zV_isub (pc := 96) dX5_scanOne_96 ?_
    obtain ⟨o6, h⟩ := h
    refine zV_iast (pc := 97) dX5_scanOne_97 rfl o2 o3 (inR_ix o2 o3 rfl) o6 ?_
    refine zV_mem (fun m7 e8 => zV_ok (fun hm7 => ?_))
    replace h := h m7 e8 hm7
    refine zV_iinc (pc := 98) (loc' := [(3, .int (iz (x3 + 1))), (0, rr K 56), (1, .int (iz x1))]) dX5_scanOne_98 2 rfl (by decide) rfl ?_
    refine zV_goto (pc := 101) (tgt := 65) dX5_scanOne_101 (by decide) ?_
    exact zV_sub [1, 2, 0] rfl h
set_option maxRecDepth 100000 in
set_option maxHeartbeats 4000000 in
theorem vc_X5_scanOne_118 {K : zCx} {d : Nat} (x2 : Int) (m0 : zM) {Q : Int → zM → Prop} (hx2 : inR x2) (h : zok m0 → ((m0.1 56 2) ≤ (m0.1 56 8) → zCt K (d + 3) mX5_word [rr K 56, .int (iz x2)] m0 (fun r2 m3 => inR r2 → zok m3 → Q r2 m3)) ∧ (¬ ((m0.1 56 2) ≤ (m0.1 56 8)) → 0 ≤ (m0.1 56 8) ∧ (m0.1 56 8) < 220 ∧ (((97 ≤ (m0.1 57 (m0.1 56 8)) ∧ (m0.1 57 (m0.1 56 8)) ≤ 122) → inR ((m0.1 56 8) + 1) ∧ (∀ m12 : zM, m12 = sI m0 56 8 ((m0.1 56 8) + 1) → zok m12 → (zV K mX5_scanOne (d + 4) 118 [(0, rr K 56), (2, .int (iz x2))] [] m12 Q))) ∧ (¬ ((97 ≤ (m0.1 57 (m0.1 56 8)) ∧ (m0.1 57 (m0.1 56 8)) ≤ 122)) → zCt K (d + 3) mX5_word [rr K 56, .int (iz x2)] m0 (fun r9 m10 => inR r9 → zok m10 → Q r9 m10))))) : zV K mX5_scanOne (d + 4) 118 [(0, rr K 56), (2, .int (iz x2))] [] m0 Q := by
  refine zV_ok (fun hm0 => ?_)
  replace h := h hm0
  refine zV_aloadr_n (pc := 118) dX5_scanOne_118 rfl 0 rfl ?_
  refine zV_getI (pc := 119) (kz := 8) dX5_scanOne_119 zfX5_83 rfl rfl rfl ?_
  refine zV_aloadr_n (pc := 122) dX5_scanOne_122 rfl 0 rfl ?_
  refine zV_getI (pc := 123) (kz := 2) dX5_scanOne_123 zfX5_31 rfl rfl rfl ?_
  refine zV_icmp_ge (pc := 126) (tgt := 157) dX5_scanOne_126 (by decide) (hm0 _ _) (hm0 _ _) (fun c1 => ?_) (fun c1 => ?_)
  · skip
    replace h := h.1 c1
    refine zV_aloadr_n (pc := 157) dX5_scanOne_157 rfl 0 rfl ?_
    refine zV_iload_n (pc := 158) dX5_scanOne_158 rfl 1 rfl ?_
    refine zV_callV (pc := 159) (mc := mX5_word) (As := [.int (iz x2)]) (rest := []) dX5_scanOne_159 zcX5_96 ziX5_word zsX5_word rfl rfl rfl rfl (Nat.le_of_ble_eq_true rfl) h (fun r2 m3 hr2 h => zV_ok (fun hm3 => ?_))
    replace h := h hr2 hm3
    exact zV_iret (pc := 162) rfl dX5_scanOne_162 hr2 h
  · skip
    replace h := h.2 c1
    refine zV_aloadr_n (pc := 129) dX5_scanOne_129 rfl 0 rfl ?_
    refine zV_getR (pc := 130) (b := 57) dX5_scanOne_130 zfX5_9 rfl rfl rfl ?_
    refine zV_aloadr_n (pc := 133) dX5_scanOne_133 rfl 0 rfl ?_
    refine zV_getI (pc := 134) (kz := 8) dX5_scanOne_134 zfX5_83 rfl rfl rfl ?_
    obtain ⟨o4, o5, h⟩ := h
    refine zV_iald (pc := 137) dX5_scanOne_137 rfl o4 o5 (inR_ix o4 o5 rfl) ?_
    refine zV_callSf (pc := 138) (mc := mX5_isLetter) (As := [.int (iz (m0.1 57 (m0.1 56 8)))]) (rest := []) dX5_scanOne_138 zcX5_93 ztX5_isLetter rfl rfl (Nat.le_of_ble_eq_true rfl) (c_X5_isLetter (hm0 _ _)) (fun hr6 => ?_)
    refine zV_if_eq (pc := 141) (tgt := 157) dX5_scanOne_141 (by decide) (inR_b2i _) (fun c8 => ?_) (fun c8 => ?_)
    · replace c8 := b2i_fp c8
      replace h := h.2 c8
      refine zV_aloadr_n (pc := 157) dX5_scanOne_157 rfl 0 rfl ?_
      refine zV_iload_n (pc := 158) dX5_scanOne_158 rfl 1 rfl ?_
      refine zV_callV (pc := 159) (mc := mX5_word) (As := [.int (iz x2)]) (rest := []) dX5_scanOne_159 zcX5_96 ziX5_word zsX5_word rfl rfl rfl rfl (Nat.le_of_ble_eq_true rfl) h (fun r9 m10 hr9 h => zV_ok (fun hm10 => ?_))
      replace h := h hr9 hm10
      exact zV_iret (pc := 162) rfl dX5_scanOne_162 hr9 h
    · replace c8 := b2i_tp c8
      replace h := h.1 c8
      refine zV_aloadr_n (pc := 144) dX5_scanOne_144 rfl 0 rfl ?_
      refine zV_dup (pc := 145) dX5_scanOne_145 rfl ?_
      refine zV_getI (pc := 146) (kz := 8) dX5_scanOne_146 zfX5_83 rfl rfl rfl ?_
      refine zV_iconst (pc := 149) dX5_scanOne_149 ?_
      refine zV_iadd (pc := 150) dX5_scanOne_150 ?_
      obtain ⟨o11, h⟩ := h
      refine zV_putI (pc := 151) (kz := 8) dX5_scanOne_151 zpX5_83 rfl rfl rfl o11 rfl rfl ?_
      refine zV_mem (fun m12 e13 => zV_ok (fun hm12 => ?_))
      replace h := h m12 e13 hm12
      refine zV_goto (pc := 154) (tgt := 118) dX5_scanOne_154 (by decide) ?_
      exact zV_sub [0, 1] rfl h

set_option maxRecDepth 100000 in
set_option maxHeartbeats 4000000 in
theorem vc_X5_word_0 {K : zCx} {d : Nat} (x1 : Int) (m0 : zM) {Q : Int → zM → Prop} (hx1 : inR x1) (h : zok m0 → zCt K (d + 2) mX5_spells [rr K 56, .int (iz x1), .ref (K.2.2.2.2 (10 + 0))] m0 (fun r1 m2 => inR r1 → zok m2 → (r1 = 0 → zCt K (d + 2) mX5_spells [rr K 56, .int (iz x1), .ref (K.2.2.2.2 (10 + 1))] m2 (fun r4 m5 => inR r4 → zok m5 → (r4 = 0 → zCt K (d + 2) mX5_spells [rr K 56, .int (iz x1), .ref (K.2.2.2.2 (10 + 2))] m5 (fun r7 m8 => inR r7 → zok m8 → (r7 = 0 → zCt K (d + 2) mX5_spells [rr K 56, .int (iz x1), .ref (K.2.2.2.2 (10 + 3))] m8 (fun r10 m11 => inR r10 → zok m11 → (r10 = 0 → zCt K (d + 2) mX5_spells [rr K 56, .int (iz x1), .ref (K.2.2.2.2 (10 + 4))] m11 (fun r13 m14 => inR r13 → zok m14 → (r13 = 0 → zCt K (d + 2) mX5_spells [rr K 56, .int (iz x1), .ref (K.2.2.2.2 (10 + 5))] m14 (fun r16 m17 => inR r16 → zok m17 → (r16 = 0 → zCt K (d + 2) mX5_spells [rr K 56, .int (iz x1), .ref (K.2.2.2.2 (10 + 6))] m17 (fun r19 m20 => inR r19 → zok m20 → (r19 = 0 → zCt K (d + 2) mX5_spells [rr K 56, .int (iz x1), .ref (K.2.2.2.2 (10 + 7))] m20 (fun r22 m23 => inR r22 → zok m23 → (r22 = 0 → zCt K (d + 2) mX5_spells [rr K 56, .int (iz x1), .ref (K.2.2.2.2 (10 + 8))] m23 (fun r25 m26 => inR r25 → zok m26 → (r25 = 0 → Q 1 m26) ∧ (¬ (r25 = 0) → Q 18 m26))) ∧ (¬ (r22 = 0) → Q 17 m23))) ∧ (¬ (r19 = 0) → Q 16 m20))) ∧ (¬ (r16 = 0) → Q 15 m17))) ∧ (¬ (r13 = 0) → Q 14 m14))) ∧ (¬ (r10 = 0) → Q 13 m11))) ∧ (¬ (r7 = 0) → Q 12 m8))) ∧ (¬ (r4 = 0) → Q 11 m5))) ∧ (¬ (r1 = 0) → Q 10 m2))) : zV K mX5_word (d + 3) 0 [(0, rr K 56), (1, .int (iz x1))] [] m0 Q := by
  refine zV_ok (fun hm0 => ?_)
  replace h := h hm0
  refine zV_aloadr_n (pc := 0) dX5_word_0 rfl 0 rfl ?_
  refine zV_iload_n (pc := 1) dX5_word_1 rfl 1 rfl ?_
  refine zV_ldcS (pc := 2) (j := 0) (tx := "wish") dX5_word_2 (by decide) rfl rfl ?_
  refine zV_callV (pc := 4) (mc := mX5_spells) (As := [.int (iz x1), .ref (K.2.2.2.2 (10 + 0))]) (rest := []) dX5_word_4 zcX5_109 ziX5_spells zsX5_spells rfl rfl rfl rfl (Nat.le_of_ble_eq_true rfl) h (fun r1 m2 hr1 h => zV_ok (fun hm2 => ?_))
  replace h := h hr1 hm2
  refine zV_if_eq (pc := 7) (tgt := 13) dX5_word_7 (by decide) hr1 (fun c3 => ?_) (fun c3 => ?_)
  · skip
    replace h := h.1 c3
    refine zV_aloadr_n (pc := 13) dX5_word_13 rfl 0 rfl ?_
    refine zV_iload_n (pc := 14) dX5_word_14 rfl 1 rfl ?_
    refine zV_ldcS (pc := 15) (j := 1) (tx := "or") dX5_word_15 (by decide) rfl rfl ?_
    refine zV_callV (pc := 17) (mc := mX5_spells) (As := [.int (iz x1), .ref (K.2.2.2.2 (10 + 1))]) (rest := []) dX5_word_17 zcX5_109 ziX5_spells zsX5_spells rfl rfl rfl rfl (Nat.le_of_ble_eq_true rfl) h (fun r4 m5 hr4 h => zV_ok (fun hm5 => ?_))
    replace h := h hr4 hm5
    refine zV_if_eq (pc := 20) (tgt := 26) dX5_word_20 (by decide) hr4 (fun c6 => ?_) (fun c6 => ?_)
    · skip
      replace h := h.1 c6
      refine zV_aloadr_n (pc := 26) dX5_word_26 rfl 0 rfl ?_
      refine zV_iload_n (pc := 27) dX5_word_27 rfl 1 rfl ?_
      refine zV_ldcS (pc := 28) (j := 2) (tx := "and") dX5_word_28 (by decide) rfl rfl ?_
      refine zV_callV (pc := 30) (mc := mX5_spells) (As := [.int (iz x1), .ref (K.2.2.2.2 (10 + 2))]) (rest := []) dX5_word_30 zcX5_109 ziX5_spells zsX5_spells rfl rfl rfl rfl (Nat.le_of_ble_eq_true rfl) h (fun r7 m8 hr7 h => zV_ok (fun hm8 => ?_))
      replace h := h hr7 hm8
      refine zV_if_eq (pc := 33) (tgt := 39) dX5_word_33 (by decide) hr7 (fun c9 => ?_) (fun c9 => ?_)
      · skip
        replace h := h.1 c9
        refine zV_aloadr_n (pc := 39) dX5_word_39 rfl 0 rfl ?_
        refine zV_iload_n (pc := 40) dX5_word_40 rfl 1 rfl ?_
        refine zV_ldcS (pc := 41) (j := 3) (tx := "not") dX5_word_41 (by decide) rfl rfl ?_
        refine zV_callV (pc := 43) (mc := mX5_spells) (As := [.int (iz x1), .ref (K.2.2.2.2 (10 + 3))]) (rest := []) dX5_word_43 zcX5_109 ziX5_spells zsX5_spells rfl rfl rfl rfl (Nat.le_of_ble_eq_true rfl) h (fun r10 m11 hr10 h => zV_ok (fun hm11 => ?_))
        replace h := h hr10 hm11
        refine zV_if_eq (pc := 46) (tgt := 52) dX5_word_46 (by decide) hr10 (fun c12 => ?_) (fun c12 => ?_)
        · skip
          replace h := h.1 c12
          refine zV_aloadr_n (pc := 52) dX5_word_52 rfl 0 rfl ?_
          refine zV_iload_n (pc := 53) dX5_word_53 rfl 1 rfl ?_
          refine zV_ldcS (pc := 54) (j := 4) (tx := "node") dX5_word_54 (by decide) rfl rfl ?_
          refine zV_callV (pc := 56) (mc := mX5_spells) (As := [.int (iz x1), .ref (K.2.2.2.2 (10 + 4))]) (rest := []) dX5_word_56 zcX5_109 ziX5_spells zsX5_spells rfl rfl rfl rfl (Nat.le_of_ble_eq_true rfl) h (fun r13 m14 hr13 h => zV_ok (fun hm14 => ?_))
          replace h := h hr13 hm14
          refine zV_if_eq (pc := 59) (tgt := 65) dX5_word_59 (by decide) hr13 (fun c15 => ?_) (fun c15 => ?_)
          · skip
            replace h := h.1 c15
            refine zV_aloadr_n (pc := 65) dX5_word_65 rfl 0 rfl ?_
            refine zV_iload_n (pc := 66) dX5_word_66 rfl 1 rfl ?_
            refine zV_ldcS (pc := 67) (j := 5) (tx := "flow") dX5_word_67 (by decide) rfl rfl ?_
            refine zV_callV (pc := 69) (mc := mX5_spells) (As := [.int (iz x1), .ref (K.2.2.2.2 (10 + 5))]) (rest := []) dX5_word_69 zcX5_109 ziX5_spells zsX5_spells rfl rfl rfl rfl (Nat.le_of_ble_eq_true rfl) h (fun r16 m17 hr16 h => zV_ok (fun hm17 => ?_))
            replace h := h hr16 hm17
            refine zV_if_eq (pc := 72) (tgt := 78) dX5_word_72 (by decide) hr16 (fun c18 => ?_) (fun c18 => ?_)
            · skip
              replace h := h.1 c18
              refine zV_aloadr_n (pc := 78) dX5_word_78 rfl 0 rfl ?_
              refine zV_iload_n (pc := 79) dX5_word_79 rfl 1 rfl ?_
              refine zV_ldcS (pc := 80) (j := 6) (tx := "pace") dX5_word_80 (by decide) rfl rfl ?_
              refine zV_callV (pc := 82) (mc := mX5_spells) (As := [.int (iz x1), .ref (K.2.2.2.2 (10 + 6))]) (rest := []) dX5_word_82 zcX5_109 ziX5_spells zsX5_spells rfl rfl rfl rfl (Nat.le_of_ble_eq_true rfl) h (fun r19 m20 hr19 h => zV_ok (fun hm20 => ?_))
              replace h := h hr19 hm20
              refine zV_if_eq (pc := 85) (tgt := 91) dX5_word_85 (by decide) hr19 (fun c21 => ?_) (fun c21 => ?_)
              · skip
                replace h := h.1 c21
                refine zV_aloadr_n (pc := 91) dX5_word_91 rfl 0 rfl ?_
                refine zV_iload_n (pc := 92) dX5_word_92 rfl 1 rfl ?_
                refine zV_ldcS (pc := 93) (j := 7) (tx := "ring") dX5_word_93 (by decide) rfl rfl ?_
                refine zV_callV (pc := 95) (mc := mX5_spells) (As := [.int (iz x1), .ref (K.2.2.2.2 (10 + 7))]) (rest := []) dX5_word_95 zcX5_109 ziX5_spells zsX5_spells rfl rfl rfl rfl (Nat.le_of_ble_eq_true rfl) h (fun r22 m23 hr22 h => zV_ok (fun hm23 => ?_))
                replace h := h hr22 hm23
                refine zV_if_eq (pc := 98) (tgt := 104) dX5_word_98 (by decide) hr22 (fun c24 => ?_) (fun c24 => ?_)
                · skip
                  replace h := h.1 c24
                  refine zV_aloadr_n (pc := 104) dX5_word_104 rfl 0 rfl ?_
                  refine zV_iload_n (pc := 105) dX5_word_105 rfl 1 rfl ?_
                  refine zV_ldcS (pc := 106) (j := 8) (tx := "feed") dX5_word_106 (by decide) rfl rfl ?_
                  refine zV_callV (pc := 108) (mc := mX5_spells) (As := [.int (iz x1), .ref (K.2.2.2.2 (10 + 8))]) (rest := []) dX5_word_108 zcX5_109 ziX5_spells zsX5_spells rfl rfl rfl rfl (Nat.le_of_ble_eq_true rfl) h (fun r25 m26 hr25 h => zV_ok (fun hm26 => ?_))
                  replace h := h hr25 hm26
                  refine zV_if_eq (pc := 111) (tgt := 119) dX5_word_111 (by decide) hr25 (fun c27 => ?_) (fun c27 => ?_)
                  · skip
                    replace h := h.1 c27
                    refine zV_iconst (pc := 119) dX5_word_119 ?_
                    exact zV_iret (pc := 120) rfl dX5_word_120 (inRd rfl) h
                  · skip
                    replace h := h.2 c27
                    refine zV_bipush (pc := 114) dX5_word_114 (by decide) ?_
                    refine zV_goto (pc := 116) (tgt := 120) dX5_word_116 (by decide) ?_
                    exact zV_iret (pc := 120) rfl dX5_word_120 (inRd rfl) h
                · skip
                  replace h := h.2 c24
                  refine zV_bipush (pc := 101) dX5_word_101 (by decide) ?_
                  exact zV_iret (pc := 103) rfl dX5_word_103 (inRd rfl) h
              · skip
                replace h := h.2 c21
                refine zV_bipush (pc := 88) dX5_word_88 (by decide) ?_
                exact zV_iret (pc := 90) rfl dX5_word_90 (inRd rfl) h
            · skip
              replace h := h.2 c18
              refine zV_bipush (pc := 75) dX5_word_75 (by decide) ?_
              exact zV_iret (pc := 77) rfl dX5_word_77 (inRd rfl) h
          · skip
            replace h := h.2 c15
            refine zV_bipush (pc := 62) dX5_word_62 (by decide) ?_
            exact zV_iret (pc := 64) rfl dX5_word_64 (inRd rfl) h
        · skip
          replace h := h.2 c12
          refine zV_bipush (pc := 49) dX5_word_49 (by decide) ?_
          exact zV_iret (pc := 51) rfl dX5_word_51 (inRd rfl) h
      · skip
        replace h := h.2 c9
        refine zV_bipush (pc := 36) dX5_word_36 (by decide) ?_
        exact zV_iret (pc := 38) rfl dX5_word_38 (inRd rfl) h
    · skip
      replace h := h.2 c6
      refine zV_bipush (pc := 23) dX5_word_23 (by decide) ?_
      exact zV_iret (pc := 25) rfl dX5_word_25 (inRd rfl) h
  · skip
    replace h := h.2 c3
    refine zV_bipush (pc := 10) dX5_word_10 (by decide) ?_
    exact zV_iret (pc := 12) rfl dX5_word_12 (inRd rfl) h

set_option maxRecDepth 100000 in
set_option maxHeartbeats 4000000 in
theorem vc_X5_sign_0 {K : zCx} {d : Nat} (x0 : Int) (m0 : zM) {Q : Int → zM → Prop} (hx0 : inR x0) (h : zok m0 → (x0 = 40 → Q 3 m0) ∧ (x0 = 41 → Q 4 m0) ∧ (x0 = 42 → Q 1 m0) ∧ (x0 = 43 → Q 5 m0) ∧ (x0 = 44 → Q 1 m0) ∧ (x0 = 45 → Q 1 m0) ∧ (x0 = 46 → Q 1 m0) ∧ (x0 = 47 → Q 1 m0) ∧ (x0 = 48 → Q 1 m0) ∧ (x0 = 49 → Q 1 m0) ∧ (x0 = 50 → Q 1 m0) ∧ (x0 = 51 → Q 1 m0) ∧ (x0 = 52 → Q 1 m0) ∧ (x0 = 53 → Q 1 m0) ∧ (x0 = 54 → Q 1 m0) ∧ (x0 = 55 → Q 1 m0) ∧ (x0 = 56 → Q 1 m0) ∧ (x0 = 57 → Q 1 m0) ∧ (x0 = 58 → Q 1 m0) ∧ (x0 = 59 → Q 9 m0) ∧ (x0 = 60 → Q 6 m0) ∧ (x0 = 61 → Q 7 m0) ∧ (x0 = 62 → Q 8 m0) ∧ ((x0 < 40 ∨ 62 < x0) → Q 1 m0)) : zV K mX5_sign (d + 1) 0 [(0, .int (iz x0))] [] m0 Q := by
  refine zV_ok (fun hm0 => ?_)
  replace h := h hm0
  refine zV_iload_n (pc := 0) dX5_sign_0 rfl 0 rfl ?_
  have c1 : x0 = 40 ∨ x0 = 41 ∨ x0 = 42 ∨ x0 = 43 ∨ x0 = 44 ∨ x0 = 45 ∨ x0 = 46 ∨ x0 = 47 ∨ x0 = 48 ∨ x0 = 49 ∨ x0 = 50 ∨ x0 = 51 ∨ x0 = 52 ∨ x0 = 53 ∨ x0 = 54 ∨ x0 = 55 ∨ x0 = 56 ∨ x0 = 57 ∨ x0 = 58 ∨ x0 = 59 ∨ x0 = 60 ∨ x0 = 61 ∨ x0 = 62 ∨ (x0 < 40 ∨ 62 < x0) := by omega
  rcases c1 with c1 | c1 | c1 | c1 | c1 | c1 | c1 | c1 | c1 | c1 | c1 | c1 | c1 | c1 | c1 | c1 | c1 | c1 | c1 | c1 | c1 | c1 | c1 | c1
  · refine zV_tswIn (pc := 1) (tgt := 108) (v := 40) dX5_sign_1 c1 (inRd rfl) (by decide) (by decide) rfl (by decide) ?_
    replace h := h.1 c1
    refine zV_iconst (pc := 108) dX5_sign_108 ?_
    exact zV_iret (pc := 109) rfl dX5_sign_109 (inRd rfl) h
  · refine zV_tswIn (pc := 1) (tgt := 110) (v := 41) dX5_sign_1 c1 (inRd rfl) (by decide) (by decide) rfl (by decide) ?_
    replace h := h.2.1 c1
    refine zV_iconst (pc := 110) dX5_sign_110 ?_
    exact zV_iret (pc := 111) rfl dX5_sign_111 (inRd rfl) h
  · refine zV_tswIn (pc := 1) (tgt := 126) (v := 42) dX5_sign_1 c1 (inRd rfl) (by decide) (by decide) rfl (by decide) ?_
    replace h := h.2.2.1 c1
    refine zV_iconst (pc := 126) dX5_sign_126 ?_
    exact zV_iret (pc := 127) rfl dX5_sign_127 (inRd rfl) h
  · refine zV_tswIn (pc := 1) (tgt := 112) (v := 43) dX5_sign_1 c1 (inRd rfl) (by decide) (by decide) rfl (by decide) ?_
    replace h := h.2.2.2.1 c1
    refine zV_iconst (pc := 112) dX5_sign_112 ?_
    exact zV_iret (pc := 113) rfl dX5_sign_113 (inRd rfl) h
  · refine zV_tswIn (pc := 1) (tgt := 126) (v := 44) dX5_sign_1 c1 (inRd rfl) (by decide) (by decide) rfl (by decide) ?_
    replace h := h.2.2.2.2.1 c1
    refine zV_iconst (pc := 126) dX5_sign_126 ?_
    exact zV_iret (pc := 127) rfl dX5_sign_127 (inRd rfl) h
  · refine zV_tswIn (pc := 1) (tgt := 126) (v := 45) dX5_sign_1 c1 (inRd rfl) (by decide) (by decide) rfl (by decide) ?_
    replace h := h.2.2.2.2.2.1 c1
    refine zV_iconst (pc := 126) dX5_sign_126 ?_
    exact zV_iret (pc := 127) rfl dX5_sign_127 (inRd rfl) h
  · refine zV_tswIn (pc := 1) (tgt := 126) (v := 46) dX5_sign_1 c1 (inRd rfl) (by decide) (by decide) rfl (by decide) ?_
    replace h := h.2.2.2.2.2.2.1 c1
    refine zV_iconst (pc := 126) dX5_sign_126 ?_
    exact zV_iret (pc := 127) rfl dX5_sign_127 (inRd rfl) h
  · refine zV_tswIn (pc := 1) (tgt := 126) (v := 47) dX5_sign_1 c1 (inRd rfl) (by decide) (by decide) rfl (by decide) ?_
    replace h := h.2.2.2.2.2.2.2.1 c1
    refine zV_iconst (pc := 126) dX5_sign_126 ?_
    exact zV_iret (pc := 127) rfl dX5_sign_127 (inRd rfl) h
  · refine zV_tswIn (pc := 1) (tgt := 126) (v := 48) dX5_sign_1 c1 (inRd rfl) (by decide) (by decide) rfl (by decide) ?_
    replace h := h.2.2.2.2.2.2.2.2.1 c1
    refine zV_iconst (pc := 126) dX5_sign_126 ?_
    exact zV_iret (pc := 127) rfl dX5_sign_127 (inRd rfl) h
  · refine zV_tswIn (pc := 1) (tgt := 126) (v := 49) dX5_sign_1 c1 (inRd rfl) (by decide) (by decide) rfl (by decide) ?_
    replace h := h.2.2.2.2.2.2.2.2.2.1 c1
    refine zV_iconst (pc := 126) dX5_sign_126 ?_
    exact zV_iret (pc := 127) rfl dX5_sign_127 (inRd rfl) h
  · refine zV_tswIn (pc := 1) (tgt := 126) (v := 50) dX5_sign_1 c1 (inRd rfl) (by decide) (by decide) rfl (by decide) ?_
    replace h := h.2.2.2.2.2.2.2.2.2.2.1 c1
    refine zV_iconst (pc := 126) dX5_sign_126 ?_
    exact zV_iret (pc := 127) rfl dX5_sign_127 (inRd rfl) h
  · refine zV_tswIn (pc := 1) (tgt := 126) (v := 51) dX5_sign_1 c1 (inRd rfl) (by decide) (by decide) rfl (by decide) ?_
    replace h := h.2.2.2.2.2.2.2.2.2.2.2.1 c1
    refine zV_iconst (pc := 126) dX5_sign_126 ?_
    exact zV_iret (pc := 127) rfl dX5_sign_127 (inRd rfl) h
  · refine zV_tswIn (pc := 1) (tgt := 126) (v := 52) dX5_sign_1 c1 (inRd rfl) (by decide) (by decide) rfl (by decide) ?_
    replace h := h.2.2.2.2.2.2.2.2.2.2.2.2.1 c1
    refine zV_iconst (pc := 126) dX5_sign_126 ?_
    exact zV_iret (pc := 127) rfl dX5_sign_127 (inRd rfl) h
  · refine zV_tswIn (pc := 1) (tgt := 126) (v := 53) dX5_sign_1 c1 (inRd rfl) (by decide) (by decide) rfl (by decide) ?_
    replace h := h.2.2.2.2.2.2.2.2.2.2.2.2.2.1 c1
    refine zV_iconst (pc := 126) dX5_sign_126 ?_
    exact zV_iret (pc := 127) rfl dX5_sign_127 (inRd rfl) h
  · refine zV_tswIn (pc := 1) (tgt := 126) (v := 54) dX5_sign_1 c1 (inRd rfl) (by decide) (by decide) rfl (by decide) ?_
    replace h := h.2.2.2.2.2.2.2.2.2.2.2.2.2.2.1 c1
    refine zV_iconst (pc := 126) dX5_sign_126 ?_
    exact zV_iret (pc := 127) rfl dX5_sign_127 (inRd rfl) h
  · refine zV_tswIn (pc := 1) (tgt := 126) (v := 55) dX5_sign_1 c1 (inRd rfl) (by decide) (by decide) rfl (by decide) ?_
    replace h := h.2.2.2.2.2.2.2.2.2.2.2.2.2.2.2.1 c1
    refine zV_iconst (pc := 126) dX5_sign_126 ?_
    exact zV_iret (pc := 127) rfl dX5_sign_127 (inRd rfl) h
  · refine zV_tswIn (pc := 1) (tgt := 126) (v := 56) dX5_sign_1 c1 (inRd rfl) (by decide) (by decide) rfl (by decide) ?_
    replace h := h.2.2.2.2.2.2.2.2.2.2.2.2.2.2.2.2.1 c1
    refine zV_iconst (pc := 126) dX5_sign_126 ?_
    exact zV_iret (pc := 127) rfl dX5_sign_127 (inRd rfl) h
  · refine zV_tswIn (pc := 1) (tgt := 126) (v := 57) dX5_sign_1 c1 (inRd rfl) (by decide) (by decide) rfl (by decide) ?_
    replace h := h.2.2.2.2.2.2.2.2.2.2.2.2.2.2.2.2.2.1 c1
    refine zV_iconst (pc := 126) dX5_sign_126 ?_
    exact zV_iret (pc := 127) rfl dX5_sign_127 (inRd rfl) h
  · refine zV_tswIn (pc := 1) (tgt := 126) (v := 58) dX5_sign_1 c1 (inRd rfl) (by decide) (by decide) rfl (by decide) ?_
    replace h := h.2.2.2.2.2.2.2.2.2.2.2.2.2.2.2.2.2.2.1 c1
    refine zV_iconst (pc := 126) dX5_sign_126 ?_
    exact zV_iret (pc := 127) rfl dX5_sign_127 (inRd rfl) h
  · refine zV_tswIn (pc := 1) (tgt := 123) (v := 59) dX5_sign_1 c1 (inRd rfl) (by decide) (by decide) rfl (by decide) ?_
    replace h := h.2.2.2.2.2.2.2.2.2.2.2.2.2.2.2.2.2.2.2.1 c1
    refine zV_bipush (pc := 123) dX5_sign_123 (by decide) ?_
    exact zV_iret (pc := 125) rfl dX5_sign_125 (inRd rfl) h
  · refine zV_tswIn (pc := 1) (tgt := 114) (v := 60) dX5_sign_1 c1 (inRd rfl) (by decide) (by decide) rfl (by decide) ?_
    replace h := h.2.2.2.2.2.2.2.2.2.2.2.2.2.2.2.2.2.2.2.2.1 c1
    refine zV_bipush (pc := 114) dX5_sign_114 (by decide) ?_
    exact zV_iret (pc := 116) rfl dX5_sign_116 (inRd rfl) h
  · refine zV_tswIn (pc := 1) (tgt := 117) (v := 61) dX5_sign_1 c1 (inRd rfl) (by decide) (by decide) rfl (by decide) ?_
    replace h := h.2.2.2.2.2.2.2.2.2.2.2.2.2.2.2.2.2.2.2.2.2.1 c1
    refine zV_bipush (pc := 117) dX5_sign_117 (by decide) ?_
    exact zV_iret (pc := 119) rfl dX5_sign_119 (inRd rfl) h
  · refine zV_tswIn (pc := 1) (tgt := 120) (v := 62) dX5_sign_1 c1 (inRd rfl) (by decide) (by decide) rfl (by decide) ?_
    replace h := h.2.2.2.2.2.2.2.2.2.2.2.2.2.2.2.2.2.2.2.2.2.2.1 c1
    refine zV_bipush (pc := 120) dX5_sign_120 (by decide) ?_
    exact zV_iret (pc := 122) rfl dX5_sign_122 (inRd rfl) h
  · refine zV_tswOut (pc := 1) (tgt := 126) dX5_sign_1 hx0 c1 (by decide) ?_
    replace h := h.2.2.2.2.2.2.2.2.2.2.2.2.2.2.2.2.2.2.2.2.2.2.2 c1
    refine zV_iconst (pc := 126) dX5_sign_126 ?_
    exact zV_iret (pc := 127) rfl dX5_sign_127 (inRd rfl) h

set_option maxRecDepth 100000 in
set_option maxHeartbeats 4000000 in
theorem vc_X6_find_0 {K : zCx} {d : Nat} (x2 : Int) (m0 : zM) {Q : Int → zM → Prop} (hx2 : inR x2) (h : zok m0 → ∀ m1 : zM, m1 = sI m0 52 3 x2 → zok m1 → (∀ m3 : zM, m3 = sI m1 52 4 0 → zok m3 → (∀ m5 : zM, m5 = sI m3 52 6 0 → zok m5 → (zCt K (d + 8) mX6_order [rr K 52, rr K 39] m5 (fun r7 m8 => inR r7 → zok m8 → zCt K (d + 8) mX6_seek [rr K 52, rr K 39, .int (iz 2)] m8 (fun r9 m10 => inR r9 → zok m10 → Q 0 m10)))))) : zV K mX6_find (d + 9) 0 [(0, rr K 52), (1, rr K 39), (2, .int (iz x2))] [] m0 Q := by
  refine zV_ok (fun hm0 => ?_)
  replace h := h hm0
  refine zV_aloadr_n (pc := 0) dX6_find_0 rfl 0 rfl ?_
  refine zV_iload_n (pc := 1) dX6_find_1 rfl 2 rfl ?_
  refine zV_putI (pc := 2) (kz := 3) dX6_find_2 zpX6_21 rfl rfl rfl hx2 rfl rfl ?_
  refine zV_mem (fun m1 e2 => zV_ok (fun hm1 => ?_))
  replace h := h m1 e2 hm1
  refine zV_aloadr_n (pc := 5) dX6_find_5 rfl 0 rfl ?_
  refine zV_iconst (pc := 6) dX6_find_6 ?_
  refine zV_putI (pc := 7) (kz := 4) dX6_find_7 zpX6_25 rfl rfl rfl (inRd rfl) rfl rfl ?_
  refine zV_mem (fun m3 e4 => zV_ok (fun hm3 => ?_))
  replace h := h m3 e4 hm3
  refine zV_aloadr_n (pc := 10) dX6_find_10 rfl 0 rfl ?_
  refine zV_iconst (pc := 11) dX6_find_11 ?_
  refine zV_putI (pc := 12) (kz := 6) dX6_find_12 zpX6_28 rfl rfl rfl (z01 (Or.inl rfl)).1 (z01 (Or.inl rfl)).2.1 (z01 (Or.inl rfl)).2.2 ?_
  refine zV_mem (fun m5 e6 => zV_ok (fun hm5 => ?_))
  replace h := h m5 e6 hm5
  refine zV_aloadr_n (pc := 15) dX6_find_15 rfl 0 rfl ?_
  refine zV_aloadr_n (pc := 16) dX6_find_16 rfl 1 rfl ?_
  refine zV_callV (pc := 17) (mc := mX6_order) (As := [rr K 39]) (rest := []) dX6_find_17 zcX6_32 ziX6_order zsX6_order rfl rfl rfl rfl (Nat.le_of_ble_eq_true rfl) h (fun r7 m8 hr7 h => zV_ok (fun hm8 => ?_))
  replace h := h hr7 hm8
  refine zV_aloadr_n (pc := 20) dX6_find_20 rfl 0 rfl ?_
  refine zV_aloadr_n (pc := 21) dX6_find_21 rfl 1 rfl ?_
  refine zV_iconst (pc := 22) dX6_find_22 ?_
  refine zV_callV (pc := 23) (mc := mX6_seek) (As := [rr K 39, .int (iz 2)]) (rest := []) dX6_find_23 zcX6_36 ziX6_seek zsX6_seek rfl rfl rfl rfl (Nat.le_of_ble_eq_true rfl) h (fun r9 m10 hr9 h => zV_ok (fun hm10 => ?_))
  replace h := h hr9 hm10
  exact zV_vret (pc := 26) rfl dX6_find_26 h

set_option maxRecDepth 100000 in
set_option maxHeartbeats 4000000 in
theorem vc_X6_order_0 {K : zCx} {d : Nat}  (m0 : zM) {Q : Int → zM → Prop}  (h : zok m0 → zV K mX6_order (d + 2) 2 [(0, rr K 52), (1, rr K 39), (2, .int (iz 0))] [] m0 Q) : zV K mX6_order (d + 2) 0 [(0, rr K 52), (1, rr K 39)] [] m0 Q := by
  refine zV_ok (fun hm0 => ?_)
  replace h := h hm0
  refine zV_iconst (pc := 0) dX6_order_0 ?_
  refine zV_istore_n (pc := 1) (loc' := [(2, .int (iz 0)), (0, rr K 52), (1, rr K 39)]) dX6_order_1 rfl (by decide) rfl ?_
  exact zV_sub [1, 2, 0] rfl h
set_option maxRecDepth 100000 in
set_option maxHeartbeats 4000000 in
theorem vc_X6_order_2 {K : zCx} {d : Nat} (x2 : Int) (m0 : zM) {Q : Int → zM → Prop} (hx2 : inR x2) (h : zok m0 → (5 ≤ x2 → zV K mX6_order (d + 2) 22 [(0, rr K 52), (1, rr K 39), (2, .int (iz 0))] [] m0 Q) ∧ (¬ (5 ≤ x2) → 0 ≤ x2 ∧ x2 < 5 ∧ (∀ m4 : zM, m4 = sI m0 54 x2 x2 → zok m4 → (zV K mX6_order (d + 2) 2 [(0, rr K 52), (1, rr K 39), (2, .int (iz (x2 + 1)))] [] m4 Q)))) : zV K mX6_order (d + 2) 2 [(0, rr K 52), (1, rr K 39), (2, .int (iz x2))] [] m0 Q := by
  refine zV_ok (fun hm0 => ?_)
  replace h := h hm0
  refine zV_iload_n (pc := 2) dX6_order_2 rfl 2 rfl ?_
  refine zV_iconst (pc := 3) dX6_order_3 ?_
  refine zV_icmp_ge (pc := 4) (tgt := 20) dX6_order_4 (by decide) hx2 (inRd rfl) (fun c1 => ?_) (fun c1 => ?_)
  · skip
    replace h := h.1 c1
    refine zV_iconst (pc := 20) dX6_order_20 ?_
    refine zV_istore_n (pc := 21) (loc' := [(2, .int (iz 0)), (0, rr K 52), (1, rr K 39)]) dX6_order_21 rfl (by decide) rfl ?_
    exact zV_sub [1, 2, 0] rfl h
  · skip
    replace h := h.2 c1
    refine zV_aloadr_n (pc := 7) dX6_order_7 rfl 0 rfl ?_
    refine zV_getR (pc := 8) (b := 54) dX6_order_8 zfX6_15 rfl rfl rfl ?_
    refine zV_iload_n (pc := 11) dX6_order_11 rfl 2 rfl ?_
    refine zV_iload_n (pc := 12) dX6_order_12 rfl 2 rfl ?_
    obtain ⟨o2, o3, h⟩ := h
    refine zV_iast (pc := 13) dX6_order_13 rfl o2 o3 (inR_ix o2 o3 rfl) hx2 ?_
    refine zV_mem (fun m4 e5 => zV_ok (fun hm4 => ?_))
    replace h := h m4 e5 hm4
    refine zV_iinc (pc := 14) (loc' := [(2, .int (iz (x2 + 1))), (0, rr K 52), (1, rr K 39)]) dX6_order_14 2 rfl (by decide) rfl ?_
    refine zV_goto (pc := 17) (tgt := 2) dX6_order_17 (by decide) ?_
    exact zV_sub [1, 2, 0] rfl h
set_option maxRecDepth 100000 in
set_option maxHeartbeats 4000000 in
theorem vc_X6_order_22 {K : zCx} {d : Nat} (x2 : Int) (m0 : zM) {Q : Int → zM → Prop} (hx2 : inR x2) (h : zok m0 → ((m0.1 39 11) ≤ x2 → Q 0 m0) ∧ (¬ ((m0.1 39 11) ≤ x2) → 0 ≤ x2 ∧ x2 < 10 ∧ (∀ v4 : Int, v4 = (m0.1 44 x2) → (∀ v6 : Int, v6 = (m0.1 45 x2) → (zCt K (d + 1) mJ9_max_7cf53 [.int (iz v4), .int (iz v6)] m0 (fun r8 m9 => inR r8 → zok m9 → ((m9.1 43 x2) = 0 → ∀ m11 : zM, m11 = sI m9 53 x2 0 → zok m11 → (zV K mX6_order (d + 2) 22 [(0, rr K 52), (1, rr K 39), (2, .int (iz (x2 + 1)))] [] m11 Q)) ∧ (¬ ((m9.1 43 x2) = 0) → (2 ≤ r8 → ((m9.1 43 x2) = 2 → zCt K (d + 1) mJ9_max_7cf53 [.int (iz r8), .int (iz (m9.1 46 x2))] m9 (fun r29 m30 => inR r29 → zok m30 → ∀ m31 : zM, m31 = sI m30 53 x2 r29 → zok m31 → (0 ≤ v4 ∧ v4 < 5 ∧ (zCt K (d + 1) mJ9_max_7cf53 [.int (iz (m31.1 54 v4)), .int (iz r29)] m31 (fun r35 m36 => inR r35 → zok m36 → ∀ m37 : zM, m37 = sI m36 54 v4 r35 → zok m37 → (0 ≤ v6 ∧ v6 < 5 ∧ (zCt K (d + 1) mJ9_max_7cf53 [.int (iz (m37.1 54 v6)), .int (iz r29)] m37 (fun r41 m42 => inR r41 → zok m42 → ∀ m43 : zM, m43 = sI m42 54 v6 r41 → zok m43 → (zV K mX6_order (d + 2) 22 [(0, rr K 52), (1, rr K 39), (2, .int (iz (x2 + 1)))] [] m43 Q))))))))) ∧ (¬ ((m9.1 43 x2) = 2) → ∀ m15 : zM, m15 = sI m9 53 x2 r8 → zok m15 → (0 ≤ v4 ∧ v4 < 5 ∧ (zCt K (d + 1) mJ9_max_7cf53 [.int (iz (m15.1 54 v4)), .int (iz r8)] m15 (fun r19 m20 => inR r19 → zok m20 → ∀ m21 : zM, m21 = sI m20 54 v4 r19 → zok m21 → (0 ≤ v6 ∧ v6 < 5 ∧ (zCt K (d + 1) mJ9_max_7cf53 [.int (iz (m21.1 54 v6)), .int (iz r8)] m21 (fun r25 m26 => inR r25 → zok m26 → ∀ m27 : zM, m27 = sI m26 54 v6 r25 → zok m27 → (zV K mX6_order (d + 2) 22 [(0, rr K 52), (1, rr K 39), (2, .int (iz (x2 + 1)))] [] m27 Q))))))))) ∧ (¬ (2 ≤ r8) → ∀ m45 : zM, m45 = sI m9 53 x2 0 → zok m45 → (zV K mX6_order (d + 2) 22 [(0, rr K 52), (1, rr K 39), (2, .int (iz (x2 + 1)))] [] m45 Q))))))))) : zV K mX6_order (d + 2) 22 [(0, rr K 52), (1, rr K 39), (2, .int (iz x2))] [] m0 Q := by
  refine zV_ok (fun hm0 => ?_)
  replace h := h hm0
  refine zV_iload_n (pc := 22) dX6_order_22 rfl 2 rfl ?_
  refine zV_aloadr_n (pc := 23) dX6_order_23 rfl 1 rfl ?_
  refine zV_getI (pc := 24) (kz := 11) dX6_order_24 zfX6_40 rfl rfl rfl ?_
  refine zV_icmp_ge (pc := 27) (tgt := 151) dX6_order_27 (by decide) hx2 (hm0 _ _) (fun c1 => ?_) (fun c1 => ?_)
  · skip
    replace h := h.1 c1
    exact zV_vret (pc := 151) rfl dX6_order_151 h
  · skip
    replace h := h.2 c1
    refine zV_aloadr_n (pc := 30) dX6_order_30 rfl 1 rfl ?_
    refine zV_getR (pc := 31) (b := 44) dX6_order_31 zfX6_45 rfl rfl rfl ?_
    refine zV_iload_n (pc := 34) dX6_order_34 rfl 2 rfl ?_
    obtain ⟨o2, o3, h⟩ := h
    refine zV_iald (pc := 35) dX6_order_35 rfl o2 o3 (inR_ix o2 o3 rfl) ?_
    refine zV_name (fun v4 e5 => ?_)
    replace h := h v4 e5
    have hrv4 : inR v4 := by rw [e5]; exact (hm0 _ _)
    refine zV_istore_n (pc := 36) (loc' := [(3, .int (iz v4)), (0, rr K 52), (1, rr K 39), (2, .int (iz x2))]) dX6_order_36 rfl (by decide) rfl ?_
    refine zV_aloadr_n (pc := 37) dX6_order_37 rfl 2 rfl ?_
    refine zV_getR (pc := 38) (b := 45) dX6_order_38 zfX6_48 rfl rfl rfl ?_
    refine zV_iload_n (pc := 41) dX6_order_41 rfl 3 rfl ?_
    refine zV_iald (pc := 42) dX6_order_42 rfl o2 o3 (inR_ix o2 o3 rfl) ?_
    refine zV_name (fun v6 e7 => ?_)
    replace h := h v6 e7
    have hrv6 : inR v6 := by rw [e7]; exact (hm0 _ _)
    refine zV_istore (pc := 43) (loc' := [(4, .int (iz v6)), (3, .int (iz v4)), (0, rr K 52), (1, rr K 39), (2, .int (iz x2))]) dX6_order_43 (by decide) rfl ?_
    refine zV_iload_n (pc := 45) dX6_order_45 rfl 1 rfl ?_
    refine zV_iload (pc := 46) dX6_order_46 0 rfl ?_
    refine zV_callS (pc := 48) (mc := mJ9_max_7cf53) (As := [.int (iz v4), .int (iz v6)]) (rest := []) dX6_order_48 zcX6_51 ztJ9_max_7cf53 rfl rfl (Nat.le_of_ble_eq_true rfl) h (fun r8 m9 hr8 h => zV_ok (fun hm9 => ?_))
    replace h := h hr8 hm9
    refine zV_istore (pc := 51) (loc' := [(5, .int (iz r8)), (4, .int (iz v6)), (3, .int (iz v4)), (0, rr K 52), (1, rr K 39), (2, .int (iz x2))]) dX6_order_51 (by decide) rfl ?_
    refine zV_aloadr_n (pc := 53) dX6_order_53 rfl 4 rfl ?_
    refine zV_getR (pc := 54) (b := 43) dX6_order_54 zfX6_57 rfl rfl rfl ?_
    refine zV_iload_n (pc := 57) dX6_order_57 rfl 5 rfl ?_
    refine zV_iald (pc := 58) dX6_order_58 rfl o2 o3 (inR_ix o2 o3 rfl) ?_
    refine zV_if_eq (pc := 59) (tgt := 68) dX6_order_59 (by decide) (hm9 _ _) (fun c10 => ?_) (fun c10 => ?_)
    · skip
      replace h := h.1 c10
      refine zV_aloadr_n (pc := 68) dX6_order_68 rfl 3 rfl ?_
      refine zV_getR (pc := 69) (b := 53) dX6_order_69 zfX6_9 rfl rfl rfl ?_
      refine zV_iload_n (pc := 72) dX6_order_72 rfl 5 rfl ?_
      refine zV_iconst (pc := 73) dX6_order_73 ?_
      refine zV_iast (pc := 74) dX6_order_74 rfl o2 o3 (inR_ix o2 o3 rfl) (inRd rfl) ?_
      refine zV_mem (fun m11 e12 => zV_ok (fun hm11 => ?_))
      replace h := h m11 e12 hm11
      refine zV_goto (pc := 75) (tgt := 145) dX6_order_75 (by decide) ?_
      refine zV_iinc (pc := 145) (loc' := [(2, .int (iz (x2 + 1))), (5, .int (iz r8)), (4, .int (iz v6)), (3, .int (iz v4)), (0, rr K 52), (1, rr K 39)]) dX6_order_145 5 rfl (by decide) rfl ?_
      refine zV_goto (pc := 148) (tgt := 22) dX6_order_148 (by decide) ?_
      exact zV_sub [4, 5, 0] rfl h
    · skip
      replace h := h.2 c10
      refine zV_iload (pc := 62) dX6_order_62 0 rfl ?_
      refine zV_iconst (pc := 64) dX6_order_64 ?_
      refine zV_icmp_ge (pc := 65) (tgt := 78) dX6_order_65 (by decide) hr8 (inRd rfl) (fun c13 => ?_) (fun c13 => ?_)
      · skip
        replace h := h.1 c13
        refine zV_aloadr_n (pc := 78) dX6_order_78 rfl 4 rfl ?_
        refine zV_getR (pc := 79) (b := 43) dX6_order_79 zfX6_57 rfl rfl rfl ?_
        refine zV_iload_n (pc := 82) dX6_order_82 rfl 5 rfl ?_
        refine zV_iald (pc := 83) dX6_order_83 rfl o2 o3 (inR_ix o2 o3 rfl) ?_
        refine zV_iconst (pc := 84) dX6_order_84 ?_
        refine zV_icmp_ne (pc := 85) (tgt := 101) dX6_order_85 (by decide) (hm9 _ _) (inRd rfl) (fun c14 => ?_) (fun c14 => ?_)
        · skip
          replace h := h.2 c14
          refine zV_aloadr_n (pc := 101) dX6_order_101 rfl 3 rfl ?_
          refine zV_getR (pc := 102) (b := 53) dX6_order_102 zfX6_9 rfl rfl rfl ?_
          refine zV_iload_n (pc := 105) dX6_order_105 rfl 5 rfl ?_
          refine zV_iload (pc := 106) dX6_order_106 0 rfl ?_
          refine zV_iast (pc := 108) dX6_order_108 rfl o2 o3 (inR_ix o2 o3 rfl) hr8 ?_
          refine zV_mem (fun m15 e16 => zV_ok (fun hm15 => ?_))
          replace h := h m15 e16 hm15
          refine zV_aloadr_n (pc := 109) dX6_order_109 rfl 3 rfl ?_
          refine zV_getR (pc := 110) (b := 54) dX6_order_110 zfX6_15 rfl rfl rfl ?_
          refine zV_iload_n (pc := 113) dX6_order_113 rfl 2 rfl ?_
          refine zV_aloadr_n (pc := 114) dX6_order_114 rfl 3 rfl ?_
          refine zV_getR (pc := 115) (b := 54) dX6_order_115 zfX6_15 rfl rfl rfl ?_
          refine zV_iload_n (pc := 118) dX6_order_118 rfl 2 rfl ?_
          obtain ⟨o17, o18, h⟩ := h
          refine zV_iald (pc := 119) dX6_order_119 rfl o17 o18 (inR_ix o17 o18 rfl) ?_
          refine zV_iload (pc := 120) dX6_order_120 0 rfl ?_
          refine zV_callS (pc := 122) (mc := mJ9_max_7cf53) (As := [.int (iz (m15.1 54 v4)), .int (iz r8)]) (rest := [.int (iz v4), rr K 54]) dX6_order_122 zcX6_51 ztJ9_max_7cf53 rfl rfl (Nat.le_of_ble_eq_true rfl) h (fun r19 m20 hr19 h => zV_ok (fun hm20 => ?_))
          replace h := h hr19 hm20
          refine zV_iast (pc := 125) dX6_order_125 rfl o17 o18 (inR_ix o17 o18 rfl) hr19 ?_
          refine zV_mem (fun m21 e22 => zV_ok (fun hm21 => ?_))
          replace h := h m21 e22 hm21
          refine zV_aloadr_n (pc := 126) dX6_order_126 rfl 3 rfl ?_
          refine zV_getR (pc := 127) (b := 54) dX6_order_127 zfX6_15 rfl rfl rfl ?_
          refine zV_iload (pc := 130) dX6_order_130 1 rfl ?_
          refine zV_aloadr_n (pc := 132) dX6_order_132 rfl 3 rfl ?_
          refine zV_getR (pc := 133) (b := 54) dX6_order_133 zfX6_15 rfl rfl rfl ?_
          refine zV_iload (pc := 136) dX6_order_136 1 rfl ?_
          obtain ⟨o23, o24, h⟩ := h
          refine zV_iald (pc := 138) dX6_order_138 rfl o23 o24 (inR_ix o23 o24 rfl) ?_
          refine zV_iload (pc := 139) dX6_order_139 0 rfl ?_
          refine zV_callS (pc := 141) (mc := mJ9_max_7cf53) (As := [.int (iz (m21.1 54 v6)), .int (iz r8)]) (rest := [.int (iz v6), rr K 54]) dX6_order_141 zcX6_51 ztJ9_max_7cf53 rfl rfl (Nat.le_of_ble_eq_true rfl) h (fun r25 m26 hr25 h => zV_ok (fun hm26 => ?_))
          replace h := h hr25 hm26
          refine zV_iast (pc := 144) dX6_order_144 rfl o23 o24 (inR_ix o23 o24 rfl) hr25 ?_
          refine zV_mem (fun m27 e28 => zV_ok (fun hm27 => ?_))
          replace h := h m27 e28 hm27
          refine zV_iinc (pc := 145) (loc' := [(2, .int (iz (x2 + 1))), (5, .int (iz r8)), (4, .int (iz v6)), (3, .int (iz v4)), (0, rr K 52), (1, rr K 39)]) dX6_order_145 5 rfl (by decide) rfl ?_
          refine zV_goto (pc := 148) (tgt := 22) dX6_order_148 (by decide) ?_
          exact zV_sub [4, 5, 0] rfl h
        · replace c14 := Classical.not_not.mp c14
          replace h := h.1 c14
          refine zV_iload (pc := 88) dX6_order_88 0 rfl ?_
          refine zV_aloadr_n (pc := 90) dX6_order_90 rfl 4 rfl ?_
          refine zV_getR (pc := 91) (b := 46) dX6_order_91 zfX6_60 rfl rfl rfl ?_
          refine zV_iload_n (pc := 94) dX6_order_94 rfl 5 rfl ?_
          refine zV_iald (pc := 95) dX6_order_95 rfl o2 o3 (inR_ix o2 o3 rfl) ?_
          refine zV_callS (pc := 96) (mc := mJ9_max_7cf53) (As := [.int (iz r8), .int (iz (m9.1 46 x2))]) (rest := []) dX6_order_96 zcX6_51 ztJ9_max_7cf53 rfl rfl (Nat.le_of_ble_eq_true rfl) h (fun r29 m30 hr29 h => zV_ok (fun hm30 => ?_))
          replace h := h hr29 hm30
          refine zV_istore (pc := 99) (loc' := [(5, .int (iz r29)), (4, .int (iz v6)), (3, .int (iz v4)), (0, rr K 52), (1, rr K 39), (2, .int (iz x2))]) dX6_order_99 (by decide) rfl ?_
          refine zV_aloadr_n (pc := 101) dX6_order_101 rfl 3 rfl ?_
          refine zV_getR (pc := 102) (b := 53) dX6_order_102 zfX6_9 rfl rfl rfl ?_
          refine zV_iload_n (pc := 105) dX6_order_105 rfl 5 rfl ?_
          refine zV_iload (pc := 106) dX6_order_106 0 rfl ?_
          refine zV_iast (pc := 108) dX6_order_108 rfl o2 o3 (inR_ix o2 o3 rfl) hr29 ?_
          refine zV_mem (fun m31 e32 => zV_ok (fun hm31 => ?_))
          replace h := h m31 e32 hm31
          refine zV_aloadr_n (pc := 109) dX6_order_109 rfl 3 rfl ?_
          refine zV_getR (pc := 110) (b := 54) dX6_order_110 zfX6_15 rfl rfl rfl ?_
          refine zV_iload_n (pc := 113) dX6_order_113 rfl 2 rfl ?_
          refine zV_aloadr_n (pc := 114) dX6_order_114 rfl 3 rfl ?_
          refine zV_getR (pc := 115) (b := 54) dX6_order_115 zfX6_15 rfl rfl rfl ?_
          refine zV_iload_n (pc := 118) dX6_order_118 rfl 2 rfl ?_
          obtain ⟨o33, o34, h⟩ := h
          refine zV_iald (pc := 119) dX6_order_119 rfl o33 o34 (inR_ix o33 o34 rfl) ?_
          refine zV_iload (pc := 120) dX6_order_120 0 rfl ?_
          refine zV_callS (pc := 122) (mc := mJ9_max_7cf53) (As := [.int (iz (m31.1 54 v4)), .int (iz r29)]) (rest := [.int (iz v4), rr K 54]) dX6_order_122 zcX6_51 ztJ9_max_7cf53 rfl rfl (Nat.le_of_ble_eq_true rfl) h (fun r35 m36 hr35 h => zV_ok (fun hm36 => ?_))
          replace h := h hr35 hm36
          refine zV_iast (pc := 125) dX6_order_125 rfl o33 o34 (inR_ix o33 o34 rfl) hr35 ?_
          refine zV_mem (fun m37 e38 => zV_ok (fun hm37 => ?_))
          replace h := h m37 e38 hm37
          refine zV_aloadr_n (pc := 126) dX6_order_126 rfl 3 rfl ?_
          refine zV_getR (pc := 127) (b := 54) dX6_order_127 zfX6_15 rfl rfl rfl ?_
          refine zV_iload (pc := 130) dX6_order_130 1 rfl ?_
          refine zV_aloadr_n (pc := 132) dX6_order_132 rfl 3 rfl ?_
          refine zV_getR (pc := 133) (b := 54) dX6_order_133 zfX6_15 rfl rfl rfl ?_
          refine zV_iload (pc := 136) dX6_order_136 1 rfl ?_
          obtain ⟨o39, o40, h⟩ := h
          refine zV_iald (pc := 138) dX6_order_138 rfl o39 o40 (inR_ix o39 o40 rfl) ?_
          refine zV_iload (pc := 139) dX6_order_139 0 rfl ?_
          refine zV_callS (pc := 141) (mc := mJ9_max_7cf53) (As := [.int (iz (m37.1 54 v6)), .int (iz r29)]) (rest := [.int (iz v6), rr K 54]) dX6_order_141 zcX6_51 ztJ9_max_7cf53 rfl rfl (Nat.le_of_ble_eq_true rfl) h (fun r41 m42 hr41 h => zV_ok (fun hm42 => ?_))
          replace h := h hr41 hm42
          refine zV_iast (pc := 144) dX6_order_144 rfl o39 o40 (inR_ix o39 o40 rfl) hr41 ?_
          refine zV_mem (fun m43 e44 => zV_ok (fun hm43 => ?_))
          replace h := h m43 e44 hm43
          refine zV_iinc (pc := 145) (loc' := [(2, .int (iz (x2 + 1))), (5, .int (iz r29)), (4, .int (iz v6)), (3, .int (iz v4)), (0, rr K 52), (1, rr K 39)]) dX6_order_145 5 rfl (by decide) rfl ?_
          refine zV_goto (pc := 148) (tgt := 22) dX6_order_148 (by decide) ?_
          exact zV_sub [4, 5, 0] rfl h
      · skip
        replace h := h.2 c13
        refine zV_aloadr_n (pc := 68) dX6_order_68 rfl 3 rfl ?_
        refine zV_getR (pc := 69) (b := 53) dX6_order_69 zfX6_9 rfl rfl rfl ?_
        refine zV_iload_n (pc := 72) dX6_order_72 rfl 5 rfl ?_
        refine zV_iconst (pc := 73) dX6_order_73 ?_
        refine zV_iast (pc := 74) dX6_order_74 rfl o2 o3 (inR_ix o2 o3 rfl) (inRd rfl) ?_
        refine zV_mem (fun m45 e46 => zV_ok (fun hm45 => ?_))
        replace h := h m45 e46 hm45
        refine zV_goto (pc := 75) (tgt := 145) dX6_order_75 (by decide) ?_
        refine zV_iinc (pc := 145) (loc' := [(2, .int (iz (x2 + 1))), (5, .int (iz r8)), (4, .int (iz v6)), (3, .int (iz v4)), (0, rr K 52), (1, rr K 39)]) dX6_order_145 5 rfl (by decide) rfl ?_
        refine zV_goto (pc := 148) (tgt := 22) dX6_order_148 (by decide) ?_
        exact zV_sub [4, 5, 0] rfl h

set_option maxRecDepth 100000 in
set_option maxHeartbeats 4000000 in
theorem vc_X6_seek_0 {K : zCx} {d : Nat} (x2 : Int) (m0 : zM) {Q : Int → zM → Prop} (hx2 : inR x2) (h : zok m0 → (x2 ≤ 4 → zV K mX6_seek (d + 3) 8 [(0, rr K 52), (1, rr K 39), (2, .int (iz x2)), (3, .int (iz 0))] [] m0 Q) ∧ (¬ (x2 ≤ 4) → Q 0 m0)) : zV K mX6_seek (d + 3) 0 [(0, rr K 52), (1, rr K 39), (2, .int (iz x2))] [] m0 Q := by
  refine zV_ok (fun hm0 => ?_)
  replace h := h hm0
  refine zV_iload_n (pc := 0) dX6_seek_0 rfl 2 rfl ?_
  refine zV_iconst (pc := 1) dX6_seek_1 ?_
  refine zV_icmp_le (pc := 2) (tgt := 6) dX6_seek_2 (by decide) hx2 (inRd rfl) (fun c1 => ?_) (fun c1 => ?_)
  · skip
    replace h := h.1 c1
    refine zV_iconst (pc := 6) dX6_seek_6 ?_
    refine zV_istore_n (pc := 7) (loc' := [(3, .int (iz 0)), (0, rr K 52), (1, rr K 39), (2, .int (iz x2))]) dX6_seek_7 rfl (by decide) rfl ?_
    exact zV_sub [1, 2, 3, 0] rfl h
  · skip
    replace h := h.2 c1
    exact zV_vret (pc := 5) rfl dX6_seek_5 h
set_option maxRecDepth 100000 in
set_option maxHeartbeats 4000000 in
theorem vc_X6_seek_8 {K : zCx} {d : Nat} (x2 : Int) (x3 : Int) (m0 : zM) {Q : Int → zM → Prop} (hx2 : inR x2) (hx3 : inR x3) (h : zok m0 → (20 < x3 → Q 0 m0) ∧ (¬ (20 < x3) → ((m0.1 52 6) = 0 → 0 ≤ x2 ∧ x2 < 5 ∧ (∀ m5 : zM, m5 = sI m0 40 x2 x3 → zok m5 → (zCt K (d + 2) mX6_addFlows [rr K 52, rr K 39, .int (iz x2)] m5 (fun r7 m8 => inR r7 → zok m8 → zCt K (d + 2) mX6_stay [rr K 52, rr K 39, .int (iz x2)] m8 (fun r9 m10 => inR r9 → zok m10 → (r9 = 0 → zV K mX6_seek (d + 3) 8 [(0, rr K 52), (1, rr K 39), (2, .int (iz x2)), (3, .int (iz (x3 + 1)))] [] m10 Q) ∧ (¬ (r9 = 0) → (4 ≤ x2 → (0 ≤ m10.1 40 2 ∧ m10.1 40 2 ≤ 20) ∧ ((0 ≤ m10.1 40 3 ∧ m10.1 40 3 ≤ 20) ∧ ((0 ≤ m10.1 40 4 ∧ m10.1 40 4 ≤ 20) ∧ (zCt K (d + 2) mX6_note [rr K 52, .int (iz (((m10.1 40 2 * 21 + m10.1 40 3) * 21 + m10.1 40 4)))] m10 (fun r18 m19 => inR r18 → zok m19 → zV K mX6_seek (d + 3) 8 [(0, rr K 52), (1, rr K 39), (2, .int (iz x2)), (3, .int (iz (x3 + 1)))] [] m19 Q))))) ∧ (¬ (4 ≤ x2) → zCt K (d + 2) mX6_seek [rr K 52, rr K 39, .int (iz (x2 + 1))] m10 (fun r20 m21 => inR r20 → zok m21 → zV K mX6_seek (d + 3) 8 [(0, rr K 52), (1, rr K 39), (2, .int (iz x2)), (3, .int (iz (x3 + 1)))] [] m21 Q)))))))) ∧ (¬ ((m0.1 52 6) = 0) → Q 0 m0))) : zV K mX6_seek (d + 3) 8 [(0, rr K 52), (1, rr K 39), (2, .int (iz x2)), (3, .int (iz x3))] [] m0 Q := by
  refine zV_ok (fun hm0 => ?_)
  replace h := h hm0
  refine zV_iload_n (pc := 8) dX6_seek_8 rfl 3 rfl ?_
  refine zV_bipush (pc := 9) dX6_seek_9 (by decide) ?_
  refine zV_icmp_gt (pc := 11) (tgt := 76) dX6_seek_11 (by decide) hx3 (inRd rfl) (fun c1 => ?_) (fun c1 => ?_)
  · skip
    replace h := h.1 c1
    exact zV_vret (pc := 76) rfl dX6_seek_76 h
  · skip
    replace h := h.2 c1
    refine zV_aloadr_n (pc := 14) dX6_seek_14 rfl 0 rfl ?_
    refine zV_getI (pc := 15) (kz := 6) dX6_seek_15 zfX6_28 rfl rfl rfl ?_
    refine zV_if_ne (pc := 18) (tgt := 76) dX6_seek_18 (by decide) (hm0 _ _) (fun c2 => ?_) (fun c2 => ?_)
    · skip
      replace h := h.2 c2
      exact zV_vret (pc := 76) rfl dX6_seek_76 h
    · replace c2 := Classical.not_not.mp c2
      replace h := h.1 c2
      refine zV_aloadr_n (pc := 21) dX6_seek_21 rfl 1 rfl ?_
      refine zV_getR (pc := 22) (b := 40) dX6_seek_22 zfX6_63 rfl rfl rfl ?_
      refine zV_iload_n (pc := 25) dX6_seek_25 rfl 2 rfl ?_
      refine zV_iload_n (pc := 26) dX6_seek_26 rfl 3 rfl ?_
      obtain ⟨o3, o4, h⟩ := h
      refine zV_iast (pc := 27) dX6_seek_27 rfl o3 o4 (inR_ix o3 o4 rfl) hx3 ?_
      refine zV_mem (fun m5 e6 => zV_ok (fun hm5 => ?_))
      replace h := h m5 e6 hm5
      refine zV_aloadr_n (pc := 28) dX6_seek_28 rfl 0 rfl ?_
      refine zV_aloadr_n (pc := 29) dX6_seek_29 rfl 1 rfl ?_
      refine zV_iload_n (pc := 30) dX6_seek_30 rfl 2 rfl ?_
      refine zV_callV (pc := 31) (mc := mX6_addFlows) (As := [rr K 39, .int (iz x2)]) (rest := []) dX6_seek_31 zcX6_66 ziX6_addFlows zsX6_addFlows rfl rfl rfl rfl (Nat.le_of_ble_eq_true rfl) h (fun r7 m8 hr7 h => zV_ok (fun hm8 => ?_))
      replace h := h hr7 hm8
      refine zV_aloadr_n (pc := 34) dX6_seek_34 rfl 0 rfl ?_
      refine zV_aloadr_n (pc := 35) dX6_seek_35 rfl 1 rfl ?_
      refine zV_iload_n (pc := 36) dX6_seek_36 rfl 2 rfl ?_
      refine zV_callV (pc := 37) (mc := mX6_stay) (As := [rr K 39, .int (iz x2)]) (rest := []) dX6_seek_37 zcX6_69 ziX6_stay zsX6_stay rfl rfl rfl rfl (Nat.le_of_ble_eq_true rfl) h (fun r9 m10 hr9 h => zV_ok (fun hm10 => ?_))
      replace h := h hr9 hm10
      refine zV_if_ne (pc := 40) (tgt := 46) dX6_seek_40 (by decide) hr9 (fun c11 => ?_) (fun c11 => ?_)
      · skip
        replace h := h.2 c11
        refine zV_iload_n (pc := 46) dX6_seek_46 rfl 2 rfl ?_
        refine zV_iconst (pc := 47) dX6_seek_47 ?_
        refine zV_icmp_ge (pc := 48) (tgt := 62) dX6_seek_48 (by decide) hx2 (inRd rfl) (fun c12 => ?_) (fun c12 => ?_)
        · skip
          replace h := h.1 c12
          refine zV_aloadr_n (pc := 62) dX6_seek_62 rfl 0 rfl ?_
          refine zV_aloadr_n (pc := 63) dX6_seek_63 rfl 1 rfl ?_
          obtain ⟨o13, h⟩ := h
          obtain ⟨o14, h⟩ := h
          obtain ⟨o15, h⟩ := h
          refine zV_callVf (pc := 64) (mc := mX1_stateNow) (As := []) (rest := [rr K 52]) dX6_seek_64 zcX6_73 ziX1_stateNow zsX1_stateNow rfl rfl rfl rfl (Nat.le_of_ble_eq_true rfl) (c_X1_stateNow hm10 o13 o14 o15) (fun hr16 => ?_)
          refine zV_callV (pc := 67) (mc := mX6_note) (As := [.int (iz (((m10.1 40 2 * 21 + m10.1 40 3) * 21 + m10.1 40 4)))]) (rest := []) dX6_seek_67 zcX6_77 ziX6_note zsX6_note rfl rfl rfl rfl (Nat.le_of_ble_eq_true rfl) h (fun r18 m19 hr18 h => zV_ok (fun hm19 => ?_))
          replace h := h hr18 hm19
          refine zV_iinc (pc := 70) (loc' := [(3, .int (iz (x3 + 1))), (0, rr K 52), (1, rr K 39), (2, .int (iz x2))]) dX6_seek_70 3 rfl (by decide) rfl ?_
          refine zV_goto (pc := 73) (tgt := 8) dX6_seek_73 (by decide) ?_
          exact zV_sub [1, 2, 3, 0] rfl h
        · skip
          replace h := h.2 c12
          refine zV_aloadr_n (pc := 51) dX6_seek_51 rfl 0 rfl ?_
          refine zV_aloadr_n (pc := 52) dX6_seek_52 rfl 1 rfl ?_
          refine zV_iload_n (pc := 53) dX6_seek_53 rfl 2 rfl ?_
          refine zV_iconst (pc := 54) dX6_seek_54 ?_
          refine zV_iadd (pc := 55) dX6_seek_55 ?_
          refine zV_callV (pc := 56) (mc := mX6_seek) (As := [rr K 39, .int (iz (x2 + 1))]) (rest := []) dX6_seek_56 zcX6_36 ziX6_seek zsX6_seek rfl rfl rfl rfl (Nat.le_of_ble_eq_true rfl) h (fun r20 m21 hr20 h => zV_ok (fun hm21 => ?_))
          replace h := h hr20 hm21
          refine zV_goto (pc := 59) (tgt := 70) dX6_seek_59 (by decide) ?_
          refine zV_iinc (pc := 70) (loc' := [(3, .int (iz (x3 + 1))), (0, rr K 52), (1, rr K 39), (2, .int (iz x2))]) dX6_seek_70 3 rfl (by decide) rfl ?_
          refine zV_goto (pc := 73) (tgt := 8) dX6_seek_73 (by decide) ?_
          exact zV_sub [1, 2, 3, 0] rfl h
      · replace c11 := Classical.not_not.mp c11
        replace h := h.1 c11
        refine zV_goto (pc := 43) (tgt := 70) dX6_seek_43 (by decide) ?_
        refine zV_iinc (pc := 70) (loc' := [(3, .int (iz (x3 + 1))), (0, rr K 52), (1, rr K 39), (2, .int (iz x2))]) dX6_seek_70 3 rfl (by decide) rfl ?_
        refine zV_goto (pc := 73) (tgt := 8) dX6_seek_73 (by decide) ?_
        exact zV_sub [1, 2, 3, 0] rfl h

set_option maxRecDepth 100000 in
set_option maxHeartbeats 4000000 in
theorem vc_X6_addFlows_0 {K : zCx} {d : Nat} (x2 : Int) (m0 : zM) {Q : Int → zM → Prop} (hx2 : inR x2) (h : zok m0 → ∀ v1 : Int, v1 = (x2 * 5) → (zV K mX6_addFlows (d + 2) 7 [(0, rr K 52), (1, rr K 39), (2, .int (iz x2)), (3, .int (iz v1)), (4, .int (iz 0))] [] m0 Q)) : zV K mX6_addFlows (d + 2) 0 [(0, rr K 52), (1, rr K 39), (2, .int (iz x2))] [] m0 Q := by
  refine zV_ok (fun hm0 => ?_)
  replace h := h hm0
  refine zV_iload_n (pc := 0) dX6_addFlows_0 rfl 2 rfl ?_
  refine zV_iconst (pc := 1) dX6_addFlows_1 ?_
  refine zV_imul (pc := 2) dX6_addFlows_2 ?_
  refine zV_name (fun v1 e2 => ?_)
  replace h := h v1 e2
  refine zV_istore_n (pc := 3) (loc' := [(3, .int (iz v1)), (0, rr K 52), (1, rr K 39), (2, .int (iz x2))]) dX6_addFlows_3 rfl (by decide) rfl ?_
  refine zV_iconst (pc := 4) dX6_addFlows_4 ?_
  refine zV_istore (pc := 5) (loc' := [(4, .int (iz 0)), (3, .int (iz v1)), (0, rr K 52), (1, rr K 39), (2, .int (iz x2))]) dX6_addFlows_5 (by decide) rfl ?_
  exact zV_sub [2, 3, 4, 1, 0] rfl h
set_option maxRecDepth 100000 in
set_option maxHeartbeats 4000000 in
theorem vc_X6_addFlows_7 {K : zCx} {d : Nat} (x2 : Int) (x3 : Int) (x4 : Int) (m0 : zM) {Q : Int → zM → Prop} (hx2 : inR x2) (hx3 : inR x3) (hx4 : inR x4) (h : zok m0 → (5 ≤ x4 → zV K mX6_addFlows (d + 2) 51 [(0, rr K 52), (1, rr K 39), (2, .int (iz x2)), (3, .int (iz x3)), (4, .int (iz 0))] [] m0 Q) ∧ (¬ (5 ≤ x4) → (x2 = 2 → 0 ≤ (x3 + x4) ∧ (x3 + x4) < 25 ∧ (∀ m11 : zM, m11 = sI m0 55 (x3 + x4) 0 → zok m11 → (zV K mX6_addFlows (d + 2) 7 [(0, rr K 52), (1, rr K 39), (2, .int (iz x2)), (3, .int (iz x3)), (4, .int (iz (x4 + 1)))] [] m11 Q))) ∧ (¬ (x2 = 2) → 0 ≤ ((x3 - 5) + x4) ∧ ((x3 - 5) + x4) < 25 ∧ (0 ≤ (x3 + x4) ∧ (x3 + x4) < 25 ∧ (∀ m7 : zM, m7 = sI m0 55 (x3 + x4) (m0.1 55 ((x3 - 5) + x4)) → zok m7 → (zV K mX6_addFlows (d + 2) 7 [(0, rr K 52), (1, rr K 39), (2, .int (iz x2)), (3, .int (iz x3)), (4, .int (iz (x4 + 1)))] [] m7 Q)))))) : zV K mX6_addFlows (d + 2) 7 [(0, rr K 52), (1, rr K 39), (2, .int (iz x2)), (3, .int (iz x3)), (4, .int (iz x4))] [] m0 Q := by
  refine zV_ok (fun hm0 => ?_)
  replace h := h hm0
  refine zV_iload (pc := 7) dX6_addFlows_7 4 rfl ?_
  refine zV_iconst (pc := 9) dX6_addFlows_9 ?_
  refine zV_icmp_ge (pc := 10) (tgt := 48) dX6_addFlows_10 (by decide) hx4 (inRd rfl) (fun c1 => ?_) (fun c1 => ?_)
  · skip
    replace h := h.1 c1
    refine zV_iconst (pc := 48) dX6_addFlows_48 ?_
    refine zV_istore (pc := 49) (loc' := [(4, .int (iz 0)), (0, rr K 52), (1, rr K 39), (2, .int (iz x2)), (3, .int (iz x3))]) dX6_addFlows_49 (by decide) rfl ?_
    exact zV_sub [1, 2, 3, 4, 0] rfl h
  · skip
    replace h := h.2 c1
    refine zV_aloadr_n (pc := 13) dX6_addFlows_13 rfl 0 rfl ?_
    refine zV_getR (pc := 14) (b := 55) dX6_addFlows_14 zfX6_18 rfl rfl rfl ?_
    refine zV_iload_n (pc := 17) dX6_addFlows_17 rfl 3 rfl ?_
    refine zV_iload (pc := 18) dX6_addFlows_18 4 rfl ?_
    refine zV_iadd (pc := 20) dX6_addFlows_20 ?_
    refine zV_iload_n (pc := 21) dX6_addFlows_21 rfl 2 rfl ?_
    refine zV_iconst (pc := 22) dX6_addFlows_22 ?_
    refine zV_icmp_ne (pc := 23) (tgt := 30) dX6_addFlows_23 (by decide) hx2 (inRd rfl) (fun c2 => ?_) (fun c2 => ?_)
    · skip
      replace h := h.2 c2
      refine zV_aloadr_n (pc := 30) dX6_addFlows_30 rfl 0 rfl ?_
      refine zV_getR (pc := 31) (b := 55) dX6_addFlows_31 zfX6_18 rfl rfl rfl ?_
      refine zV_iload_n (pc := 34) dX6_addFlows_34 rfl 3 rfl ?_
      refine zV_iconst (pc := 35) dX6_addFlows_35 ?_
      refine zV_isub (pc := 36) dX6_addFlows_36 ?_
      refine zV_iload (pc := 37) dX6_addFlows_37 4 rfl ?_
      refine zV_iadd (pc := 39) dX6_addFlows_39 ?_
      obtain ⟨o3, o4, h⟩ := h
      refine zV_iald (pc := 40) dX6_addFlows_40 rfl o3 o4 (inR_ix o3 o4 rfl) ?_
      obtain ⟨o5, o6, h⟩ := h
      refine zV_iast (pc := 41) dX6_addFlows_41 rfl o5 o6 (inR_ix o5 o6 rfl) (hm0 _ _) ?_
      refine zV_mem (fun m7 e8 => zV_ok (fun hm7 => ?_))
      replace h := h m7 e8 hm7
      refine zV_iinc (pc := 42) (loc' := [(4, .int (iz (x4 + 1))), (0, rr K 52), (1, rr K 39), (2, .int (iz x2)), (3, .int (iz x3))]) dX6_addFlows_42 4 rfl (by decide) rfl ?_
      refine zV_goto (pc := 45) (tgt := 7) dX6_addFlows_45 (by decide) ?_
      exact zV_sub [1, 2, 3, 4, 0] rfl h
    · replace c2 := Classical.not_not.mp c2
      replace h := h.1 c2
      refine zV_iconst (pc := 26) dX6_addFlows_26 ?_
      refine zV_goto (pc := 27) (tgt := 41) dX6_addFlows_27 (by decide) ?_
      obtain ⟨o9, o10, h⟩ := h
      refine zV_iast (pc := 41) dX6_addFlows_41 rfl o9 o10 (inR_ix o9 o10 rfl) (inRd rfl) ?_
      refine zV_mem (fun m11 e12 => zV_ok (fun hm11 => ?_))
      replace h := h m11 e12 hm11
      refine zV_iinc (pc := 42) (loc' := [(4, .int (iz (x4 + 1))), (0, rr K 52), (1, rr K 39), (2, .int (iz x2)), (3, .int (iz x3))]) dX6_addFlows_42 4 rfl (by decide) rfl ?_
      refine zV_goto (pc := 45) (tgt := 7) dX6_addFlows_45 (by decide) ?_
      exact zV_sub [1, 2, 3, 4, 0] rfl h
set_option maxRecDepth 100000 in
set_option maxHeartbeats 4000000 in
theorem vc_X6_addFlows_51 {K : zCx} {d : Nat} (x2 : Int) (x3 : Int) (x4 : Int) (m0 : zM) {Q : Int → zM → Prop} (hx2 : inR x2) (hx3 : inR x3) (hx4 : inR x4) (h : zok m0 → ((m0.1 39 11) ≤ x4 → Q 0 m0) ∧ (¬ ((m0.1 39 11) ≤ x4) → 0 ≤ x4 ∧ x4 < 10 ∧ (((m0.1 53 x4) = x2 → zCt K (d + 1) mX1_through [rr K 39, .int (iz x4)] m0 (fun r5 m6 => inR r5 → zok m6 → 0 ≤ (x3 + (m6.1 44 x4)) ∧ (x3 + (m6.1 44 x4)) < 25 ∧ (inR ((m6.1 55 (x3 + (m6.1 44 x4))) - r5) ∧ (∀ m10 : zM, m10 = sI m6 55 (x3 + (m6.1 44 x4)) ((m6.1 55 (x3 + (m6.1 44 x4))) - r5) → zok m10 → (0 ≤ (x3 + (m10.1 45 x4)) ∧ (x3 + (m10.1 45 x4)) < 25 ∧ (inR ((m10.1 55 (x3 + (m10.1 45 x4))) + r5) ∧ (∀ m15 : zM, m15 = sI m10 55 (x3 + (m10.1 45 x4)) ((m10.1 55 (x3 + (m10.1 45 x4))) + r5) → zok m15 → (zV K mX6_addFlows (d + 2) 51 [(0, rr K 52), (1, rr K 39), (2, .int (iz x2)), (3, .int (iz x3)), (4, .int (iz (x4 + 1)))] [] m15 Q)))))))) ∧ (¬ ((m0.1 53 x4) = x2) → zV K mX6_addFlows (d + 2) 51 [(0, rr K 52), (1, rr K 39), (2, .int (iz x2)), (3, .int (iz x3)), (4, .int (iz (x4 + 1)))] [] m0 Q)))) : zV K mX6_addFlows (d + 2) 51 [(0, rr K 52), (1, rr K 39), (2, .int (iz x2)), (3, .int (iz x3)), (4, .int (iz x4))] [] m0 Q := by
  refine zV_ok (fun hm0 => ?_)
  replace h := h hm0
  refine zV_iload (pc := 51) dX6_addFlows_51 4 rfl ?_
  refine zV_aloadr_n (pc := 53) dX6_addFlows_53 rfl 1 rfl ?_
  refine zV_getI (pc := 54) (kz := 11) dX6_addFlows_54 zfX6_40 rfl rfl rfl ?_
  refine zV_icmp_ge (pc := 57) (tgt := 126) dX6_addFlows_57 (by decide) hx4 (hm0 _ _) (fun c1 => ?_) (fun c1 => ?_)
  · skip
    replace h := h.1 c1
    exact zV_vret (pc := 126) rfl dX6_addFlows_126 h
  · skip
    replace h := h.2 c1
    refine zV_aloadr_n (pc := 60) dX6_addFlows_60 rfl 0 rfl ?_
    refine zV_getR (pc := 61) (b := 53) dX6_addFlows_61 zfX6_9 rfl rfl rfl ?_
    refine zV_iload (pc := 64) dX6_addFlows_64 4 rfl ?_
    obtain ⟨o2, o3, h⟩ := h
    refine zV_iald (pc := 66) dX6_addFlows_66 rfl o2 o3 (inR_ix o2 o3 rfl) ?_
    refine zV_iload_n (pc := 67) dX6_addFlows_67 rfl 2 rfl ?_
    refine zV_icmp_eq (pc := 68) (tgt := 74) dX6_addFlows_68 (by decide) (hm0 _ _) hx2 (fun c4 => ?_) (fun c4 => ?_)
    · skip
      replace h := h.1 c4
      refine zV_aloadr_n (pc := 74) dX6_addFlows_74 rfl 1 rfl ?_
      refine zV_iload (pc := 75) dX6_addFlows_75 4 rfl ?_
      refine zV_callV (pc := 77) (mc := mX1_through) (As := [.int (iz x4)]) (rest := []) dX6_addFlows_77 zcX6_81 ziX1_through zsX1_through rfl rfl rfl rfl (Nat.le_of_ble_eq_true rfl) h (fun r5 m6 hr5 h => zV_ok (fun hm6 => ?_))
      replace h := h hr5 hm6
      refine zV_istore (pc := 80) (loc' := [(5, .int (iz r5)), (0, rr K 52), (1, rr K 39), (2, .int (iz x2)), (3, .int (iz x3)), (4, .int (iz x4))]) dX6_addFlows_80 (by decide) rfl ?_
      refine zV_aloadr_n (pc := 82) dX6_addFlows_82 rfl 1 rfl ?_
      refine zV_getR (pc := 83) (b := 55) dX6_addFlows_83 zfX6_18 rfl rfl rfl ?_
      refine zV_iload_n (pc := 86) dX6_addFlows_86 rfl 4 rfl ?_
      refine zV_aloadr_n (pc := 87) dX6_addFlows_87 rfl 2 rfl ?_
      refine zV_getR (pc := 88) (b := 44) dX6_addFlows_88 zfX6_45 rfl rfl rfl ?_
      refine zV_iload (pc := 91) dX6_addFlows_91 5 rfl ?_
      refine zV_iald (pc := 93) dX6_addFlows_93 rfl o2 o3 (inR_ix o2 o3 rfl) ?_
      refine zV_iadd (pc := 94) dX6_addFlows_94 ?_
      refine zV_dup2 (pc := 95) dX6_addFlows_95 rfl rfl ?_
      obtain ⟨o7, o8, h⟩ := h
      refine zV_iald (pc := 96) dX6_addFlows_96 rfl o7 o8 (inR_ix o7 o8 rfl) ?_
      refine zV_iload (pc := 97) dX6_addFlows_97 0 rfl ?_
      refine zV_isub (pc := 99) dX6_addFlows_99 ?_
      obtain ⟨o9, h⟩ := h
      refine zV_iast (pc := 100) dX6_addFlows_100 rfl o7 o8 (inR_ix o7 o8 rfl) o9 ?_
      refine zV_mem (fun m10 e11 => zV_ok (fun hm10 => ?_))
      replace h := h m10 e11 hm10
      refine zV_aloadr_n (pc := 101) dX6_addFlows_101 rfl 1 rfl ?_
      refine zV_getR (pc := 102) (b := 55) dX6_addFlows_102 zfX6_18 rfl rfl rfl ?_
      refine zV_iload_n (pc := 105) dX6_addFlows_105 rfl 4 rfl ?_
      refine zV_aloadr_n (pc := 106) dX6_addFlows_106 rfl 2 rfl ?_
      refine zV_getR (pc := 107) (b := 45) dX6_addFlows_107 zfX6_48 rfl rfl rfl ?_
      refine zV_iload (pc := 110) dX6_addFlows_110 5 rfl ?_
      refine zV_iald (pc := 112) dX6_addFlows_112 rfl o2 o3 (inR_ix o2 o3 rfl) ?_
      refine zV_iadd (pc := 113) dX6_addFlows_113 ?_
      refine zV_dup2 (pc := 114) dX6_addFlows_114 rfl rfl ?_
      obtain ⟨o12, o13, h⟩ := h
      refine zV_iald (pc := 115) dX6_addFlows_115 rfl o12 o13 (inR_ix o12 o13 rfl) ?_
      refine zV_iload (pc := 116) dX6_addFlows_116 0 rfl ?_
      refine zV_iadd (pc := 118) dX6_addFlows_118 ?_
      obtain ⟨o14, h⟩ := h
      refine zV_iast (pc := 119) dX6_addFlows_119 rfl o12 o13 (inR_ix o12 o13 rfl) o14 ?_
      refine zV_mem (fun m15 e16 => zV_ok (fun hm15 => ?_))
      replace h := h m15 e16 hm15
      refine zV_iinc (pc := 120) (loc' := [(4, .int (iz (x4 + 1))), (5, .int (iz r5)), (0, rr K 52), (1, rr K 39), (2, .int (iz x2)), (3, .int (iz x3))]) dX6_addFlows_120 5 rfl (by decide) rfl ?_
      refine zV_goto (pc := 123) (tgt := 51) dX6_addFlows_123 (by decide) ?_
      exact zV_sub [2, 3, 4, 5, 0] rfl h
    · skip
      replace h := h.2 c4
      refine zV_goto (pc := 71) (tgt := 120) dX6_addFlows_71 (by decide) ?_
      refine zV_iinc (pc := 120) (loc' := [(4, .int (iz (x4 + 1))), (0, rr K 52), (1, rr K 39), (2, .int (iz x2)), (3, .int (iz x3))]) dX6_addFlows_120 4 rfl (by decide) rfl ?_
      refine zV_goto (pc := 123) (tgt := 51) dX6_addFlows_123 (by decide) ?_
      exact zV_sub [1, 2, 3, 4, 0] rfl h

set_option maxRecDepth 100000 in
set_option maxHeartbeats 4000000 in
theorem vc_X6_stay_0 {K : zCx} {d : Nat} (x2 : Int) (m0 : zM) {Q : Int → zM → Prop} (hx2 : inR x2) (h : zok m0 → zV K mX6_stay (d + 2) 2 [(0, rr K 52), (1, rr K 39), (2, .int (iz x2)), (3, .int (iz 2))] [] m0 Q) : zV K mX6_stay (d + 2) 0 [(0, rr K 52), (1, rr K 39), (2, .int (iz x2))] [] m0 Q := by
  refine zV_ok (fun hm0 => ?_)
  replace h := h hm0
  refine zV_iconst (pc := 0) dX6_stay_0 ?_
  refine zV_istore_n (pc := 1) (loc' := [(3, .int (iz 2)), (0, rr K 52), (1, rr K 39), (2, .int (iz x2))]) dX6_stay_1 rfl (by decide) rfl ?_
  exact zV_sub [1, 2, 3, 0] rfl h
set_option maxRecDepth 100000 in
set_option maxHeartbeats 4000000 in
theorem vc_X6_stay_2 {K : zCx} {d : Nat} (x2 : Int) (x3 : Int) (m0 : zM) {Q : Int → zM → Prop} (hx2 : inR x2) (hx3 : inR x3) (h : zok m0 → (x2 < x3 → Q 1 m0) ∧ (¬ (x2 < x3) → 0 ≤ x3 ∧ x3 < 5 ∧ (((m0.1 54 x3) = x2 → 0 ≤ ((x2 * 5) + x3) ∧ ((x2 * 5) + x3) < 25 ∧ (zCt K (d + 1) mX1_moved [rr K 39, .int (iz x3), .int (iz (m0.1 55 ((x2 * 5) + x3)))] m0 (fun r7 m8 => inR r7 → zok m8 → (r7 = (m8.1 40 x3) → zV K mX6_stay (d + 2) 2 [(0, rr K 52), (1, rr K 39), (2, .int (iz x2)), (3, .int (iz (x3 + 1)))] [] m8 Q) ∧ (¬ (r7 = (m8.1 40 x3)) → Q 0 m8)))) ∧ (¬ ((m0.1 54 x3) = x2) → zV K mX6_stay (d + 2) 2 [(0, rr K 52), (1, rr K 39), (2, .int (iz x2)), (3, .int (iz (x3 + 1)))] [] m0 Q)))) : zV K mX6_stay (d + 2) 2 [(0, rr K 52), (1, rr K 39), (2, .int (iz x2)), (3, .int (iz x3))] [] m0 Q := by
  refine zV_ok (fun hm0 => ?_)
  replace h := h hm0
  refine zV_iload_n (pc := 2) dX6_stay_2 rfl 3 rfl ?_
  refine zV_iload_n (pc := 3) dX6_stay_3 rfl 2 rfl ?_
  refine zV_icmp_gt (pc := 4) (tgt := 49) dX6_stay_4 (by decide) hx3 hx2 (fun c1 => ?_) (fun c1 => ?_)
  · skip
    replace h := h.1 c1
    refine zV_iconst (pc := 49) dX6_stay_49 ?_
    exact zV_zret (pc := 50) rfl dX6_stay_50 (Or.inr rfl) h
  · skip
    replace h := h.2 c1
    refine zV_aloadr_n (pc := 7) dX6_stay_7 rfl 0 rfl ?_
    refine zV_getR (pc := 8) (b := 54) dX6_stay_8 zfX6_15 rfl rfl rfl ?_
    refine zV_iload_n (pc := 11) dX6_stay_11 rfl 3 rfl ?_
    obtain ⟨o2, o3, h⟩ := h
    refine zV_iald (pc := 12) dX6_stay_12 rfl o2 o3 (inR_ix o2 o3 rfl) ?_
    refine zV_iload_n (pc := 13) dX6_stay_13 rfl 2 rfl ?_
    refine zV_icmp_ne (pc := 14) (tgt := 43) dX6_stay_14 (by decide) (hm0 _ _) hx2 (fun c4 => ?_) (fun c4 => ?_)
    · skip
      replace h := h.2 c4
      refine zV_iinc (pc := 43) (loc' := [(3, .int (iz (x3 + 1))), (0, rr K 52), (1, rr K 39), (2, .int (iz x2))]) dX6_stay_43 3 rfl (by decide) rfl ?_
      refine zV_goto (pc := 46) (tgt := 2) dX6_stay_46 (by decide) ?_
      exact zV_sub [1, 2, 3, 0] rfl h
    · replace c4 := Classical.not_not.mp c4
      replace h := h.1 c4
      refine zV_aloadr_n (pc := 17) dX6_stay_17 rfl 1 rfl ?_
      refine zV_iload_n (pc := 18) dX6_stay_18 rfl 3 rfl ?_
      refine zV_aloadr_n (pc := 19) dX6_stay_19 rfl 0 rfl ?_
      refine zV_getR (pc := 20) (b := 55) dX6_stay_20 zfX6_18 rfl rfl rfl ?_
      refine zV_iload_n (pc := 23) dX6_stay_23 rfl 2 rfl ?_
      refine zV_iconst (pc := 24) dX6_stay_24 ?_
      refine zV_imul (pc := 25) dX6_stay_25 ?_
      refine zV_iload_n (pc := 26) dX6_stay_26 rfl 3 rfl ?_
      refine zV_iadd (pc := 27) dX6_stay_27 ?_
      obtain ⟨o5, o6, h⟩ := h
      refine zV_iald (pc := 28) dX6_stay_28 rfl o5 o6 (inR_ix o5 o6 rfl) ?_
      refine zV_callV (pc := 29) (mc := mX1_moved) (As := [.int (iz x3), .int (iz (m0.1 55 ((x2 * 5) + x3)))]) (rest := []) dX6_stay_29 zcX6_85 ziX1_moved zsX1_moved rfl rfl rfl rfl (Nat.le_of_ble_eq_true rfl) h (fun r7 m8 hr7 h => zV_ok (fun hm8 => ?_))
      replace h := h hr7 hm8
      refine zV_aloadr_n (pc := 32) dX6_stay_32 rfl 1 rfl ?_
      refine zV_getR (pc := 33) (b := 40) dX6_stay_33 zfX6_63 rfl rfl rfl ?_
      refine zV_iload_n (pc := 36) dX6_stay_36 rfl 3 rfl ?_
      refine zV_iald (pc := 37) dX6_stay_37 rfl o2 o3 (inR_ix o2 o3 rfl) ?_
      refine zV_icmp_eq (pc := 38) (tgt := 43) dX6_stay_38 (by decide) hr7 (hm8 _ _) (fun c9 => ?_) (fun c9 => ?_)
      · skip
        replace h := h.1 c9
        refine zV_iinc (pc := 43) (loc' := [(3, .int (iz (x3 + 1))), (0, rr K 52), (1, rr K 39), (2, .int (iz x2))]) dX6_stay_43 3 rfl (by decide) rfl ?_
        refine zV_goto (pc := 46) (tgt := 2) dX6_stay_46 (by decide) ?_
        exact zV_sub [1, 2, 3, 0] rfl h
      · skip
        replace h := h.2 c9
        refine zV_iconst (pc := 41) dX6_stay_41 ?_
        exact zV_zret (pc := 42) rfl dX6_stay_42 (Or.inl rfl) h

set_option maxRecDepth 100000 in
set_option maxHeartbeats 4000000 in
theorem vc_X6_note_0 {K : zCx} {d : Nat} (x1 : Int) (m0 : zM) {Q : Int → zM → Prop} (hx1 : inR x1) (h : zok m0 → ((m0.1 52 4) = (m0.1 52 3) → ∀ m5 : zM, m5 = sI m0 52 6 1 → zok m5 → (∀ m7 : zM, m7 = sI m5 52 5 x1 → zok m7 → (inR ((m7.1 52 4) + 1) ∧ (∀ m10 : zM, m10 = sI m7 52 4 ((m7.1 52 4) + 1) → zok m10 → (Q 0 m10))))) ∧ (¬ ((m0.1 52 4) = (m0.1 52 3)) → inR ((m0.1 52 4) + 1) ∧ (∀ m3 : zM, m3 = sI m0 52 4 ((m0.1 52 4) + 1) → zok m3 → (Q 0 m3)))) : zV K mX6_note (d + 1) 0 [(0, rr K 52), (1, .int (iz x1))] [] m0 Q := by
  refine zV_ok (fun hm0 => ?_)
  replace h := h hm0
  refine zV_aloadr_n (pc := 0) dX6_note_0 rfl 0 rfl ?_
  refine zV_getI (pc := 1) (kz := 4) dX6_note_1 zfX6_25 rfl rfl rfl ?_
  refine zV_aloadr_n (pc := 4) dX6_note_4 rfl 0 rfl ?_
  refine zV_getI (pc := 5) (kz := 3) dX6_note_5 zfX6_21 rfl rfl rfl ?_
  refine zV_icmp_ne (pc := 8) (tgt := 21) dX6_note_8 (by decide) (hm0 _ _) (hm0 _ _) (fun c1 => ?_) (fun c1 => ?_)
  · skip
    replace h := h.2 c1
    refine zV_aloadr_n (pc := 21) dX6_note_21 rfl 0 rfl ?_
    refine zV_dup (pc := 22) dX6_note_22 rfl ?_
    refine zV_getI (pc := 23) (kz := 4) dX6_note_23 zfX6_25 rfl rfl rfl ?_
    refine zV_iconst (pc := 26) dX6_note_26 ?_
    refine zV_iadd (pc := 27) dX6_note_27 ?_
    obtain ⟨o2, h⟩ := h
    refine zV_putI (pc := 28) (kz := 4) dX6_note_28 zpX6_25 rfl rfl rfl o2 rfl rfl ?_
    refine zV_mem (fun m3 e4 => zV_ok (fun hm3 => ?_))
    replace h := h m3 e4 hm3
    exact zV_vret (pc := 31) rfl dX6_note_31 h
  · replace c1 := Classical.not_not.mp c1
    replace h := h.1 c1
    refine zV_aloadr_n (pc := 11) dX6_note_11 rfl 0 rfl ?_
    refine zV_iconst (pc := 12) dX6_note_12 ?_
    refine zV_putI (pc := 13) (kz := 6) dX6_note_13 zpX6_28 rfl rfl rfl (z01 (Or.inr rfl)).1 (z01 (Or.inr rfl)).2.1 (z01 (Or.inr rfl)).2.2 ?_
    refine zV_mem (fun m5 e6 => zV_ok (fun hm5 => ?_))
    replace h := h m5 e6 hm5
    refine zV_aloadr_n (pc := 16) dX6_note_16 rfl 0 rfl ?_
    refine zV_iload_n (pc := 17) dX6_note_17 rfl 1 rfl ?_
    refine zV_putI (pc := 18) (kz := 5) dX6_note_18 zpX6_88 rfl rfl rfl hx1 rfl rfl ?_
    refine zV_mem (fun m7 e8 => zV_ok (fun hm7 => ?_))
    replace h := h m7 e8 hm7
    refine zV_aloadr_n (pc := 21) dX6_note_21 rfl 0 rfl ?_
    refine zV_dup (pc := 22) dX6_note_22 rfl ?_
    refine zV_getI (pc := 23) (kz := 4) dX6_note_23 zfX6_25 rfl rfl rfl ?_
    refine zV_iconst (pc := 26) dX6_note_26 ?_
    refine zV_iadd (pc := 27) dX6_note_27 ?_
    obtain ⟨o9, h⟩ := h
    refine zV_putI (pc := 28) (kz := 4) dX6_note_28 zpX6_25 rfl rfl rfl o9 rfl rfl ?_
    refine zV_mem (fun m10 e11 => zV_ok (fun hm10 => ?_))
    replace h := h m10 e11 hm10
    exact zV_vret (pc := 31) rfl dX6_note_31 h

set_option maxRecDepth 100000 in
set_option maxHeartbeats 4000000 in
theorem vc_X7_holding_0 {K : zCx} {d : Nat} (pl1 : Int) (x2 : Int) (m0 : zM) {Q : Int → zM → Prop} (hpl1 : zPl pl1) (hx2 : inR x2) (h : zok m0 → ((m0.1 (pl1 + 6) 2) = 0 → Q 0 m0) ∧ (¬ ((m0.1 (pl1 + 6) 2) = 0) → zCt K (d + 4) mX1_setUp [rr K 39, rr K pl1, .int (iz x2), .int (iz (m0.1 pl1 10))] m0 (fun r2 m3 => inR r2 → zok m3 → zCt K (d + 4) mX1_walk [rr K 39, .int (iz (m3.1 pl1 9))] m3 (fun r4 m5 => inR r4 → zok m5 → zV K mX7_holding (d + 5) 41 [(0, rr K 64), (1, rr K pl1), (3, .int (iz 0)), (4, .int (iz 0))] [] m5 Q)))) : zV K mX7_holding (d + 5) 0 [(0, rr K 64), (1, rr K pl1), (2, .int (iz x2))] [] m0 Q := by
  refine zV_ok (fun hm0 => ?_)
  replace h := h hm0
  refine zV_aloadr_n (pc := 0) dX7_holding_0 rfl 1 rfl ?_
  refine zV_getR (pc := 1) dX7_holding_1 zfX7_35 (zPl_s0 hpl1) rfl (zPl_r5 hpl1) ?_
  refine zV_getI (pc := 4) (kz := 2) dX7_holding_4 zfX7_39 (zPl_s6 hpl1) rfl rfl ?_
  refine zV_if_ne (pc := 7) (tgt := 12) dX7_holding_7 (by decide) (hm0 _ _) (fun c1 => ?_) (fun c1 => ?_)
  · skip
    replace h := h.2 c1
    refine zV_aloadr_n (pc := 12) dX7_holding_12 rfl 0 rfl ?_
    refine zV_getR (pc := 13) (b := 39) dX7_holding_13 zfX7_21 rfl rfl rfl ?_
    refine zV_aloadr_n (pc := 16) dX7_holding_16 rfl 1 rfl ?_
    refine zV_iload_n (pc := 17) dX7_holding_17 rfl 2 rfl ?_
    refine zV_aloadr_n (pc := 18) dX7_holding_18 rfl 1 rfl ?_
    refine zV_getI (pc := 19) (kz := 10) dX7_holding_19 zfX7_45 (zPl_s0 hpl1) rfl rfl ?_
    refine zV_callV (pc := 22) (mc := mX1_setUp) (As := [rr K pl1, .int (iz x2), .int (iz (m0.1 pl1 10))]) (rest := []) dX7_holding_22 zcX7_48 ziX1_setUp zsX1_setUp rfl rfl rfl rfl (Nat.le_of_ble_eq_true rfl) h (fun r2 m3 hr2 h => zV_ok (fun hm3 => ?_))
    replace h := h hr2 hm3
    refine zV_aloadr_n (pc := 25) dX7_holding_25 rfl 0 rfl ?_
    refine zV_getR (pc := 26) (b := 39) dX7_holding_26 zfX7_21 rfl rfl rfl ?_
    refine zV_aloadr_n (pc := 29) dX7_holding_29 rfl 1 rfl ?_
    refine zV_getI (pc := 30) (kz := 9) dX7_holding_30 zfX7_52 (zPl_s0 hpl1) rfl rfl ?_
    refine zV_callV (pc := 33) (mc := mX1_walk) (As := [.int (iz (m3.1 pl1 9))]) (rest := []) dX7_holding_33 zcX7_55 ziX1_walk zsX1_walk rfl rfl rfl rfl (Nat.le_of_ble_eq_true rfl) h (fun r4 m5 hr4 h => zV_ok (fun hm5 => ?_))
    replace h := h hr4 hm5
    refine zV_iconst (pc := 36) dX7_holding_36 ?_
    refine zV_istore_n (pc := 37) (loc' := [(3, .int (iz 0)), (0, rr K 64), (1, rr K pl1), (2, .int (iz x2))]) dX7_holding_37 rfl (by decide) rfl ?_
    refine zV_iconst (pc := 38) dX7_holding_38 ?_
    refine zV_istore (pc := 39) (loc' := [(4, .int (iz 0)), (3, .int (iz 0)), (0, rr K 64), (1, rr K pl1), (2, .int (iz x2))]) dX7_holding_39 (by decide) rfl ?_
    exact zV_sub [2, 3, 1, 0] rfl h
  · replace c1 := Classical.not_not.mp c1
    replace h := h.1 c1
    refine zV_iconst (pc := 10) dX7_holding_10 ?_
    exact zV_iret (pc := 11) rfl dX7_holding_11 (inRd rfl) h
set_option maxRecDepth 100000 in
set_option maxHeartbeats 4000000 in
theorem vc_X7_holding_41 {K : zCx} {d : Nat} (x3 : Int) (x4 : Int) (pl1 : Int) (m0 : zM) {Q : Int → zM → Prop} (hx3 : inR x3) (hx4 : inR x4) (hpl1 : zPl pl1) (h : zok m0 → ((m0.1 (pl1 + 6) 2) ≤ x4 → Q x3 m0) ∧ (¬ ((m0.1 (pl1 + 6) 2) ≤ x4) → zCt K (d + 4) mX7_isTrue [rr K 64, rr K (pl1 + 6), .int (iz x4)] m0 (fun r2 m3 => inR r2 → zok m3 → ∀ v4 : Int, v4 = (if r2 = 0 then x3 else (zor x3 (zshl 1 x4))) → (zV K mX7_holding (d + 5) 41 [(0, rr K 64), (1, rr K pl1), (3, .int (iz v4)), (4, .int (iz (x4 + 1)))] [] m3 Q)))) : zV K mX7_holding (d + 5) 41 [(0, rr K 64), (1, rr K pl1), (3, .int (iz x3)), (4, .int (iz x4))] [] m0 Q := by
  refine zV_ok (fun hm0 => ?_)
  replace h := h hm0
  refine zV_iload (pc := 41) dX7_holding_41 3 rfl ?_
  refine zV_aloadr_n (pc := 43) dX7_holding_43 rfl 1 rfl ?_
  refine zV_getR (pc := 44) dX7_holding_44 zfX7_35 (zPl_s0 hpl1) rfl (zPl_r5 hpl1) ?_
  refine zV_getI (pc := 47) (kz := 2) dX7_holding_47 zfX7_39 (zPl_s6 hpl1) rfl rfl ?_
  refine zV_icmp_ge (pc := 50) (tgt := 79) dX7_holding_50 (by decide) hx4 (hm0 _ _) (fun c1 => ?_) (fun c1 => ?_)
  · skip
    replace h := h.1 c1
    refine zV_iload_n (pc := 79) dX7_holding_79 rfl 2 rfl ?_
    exact zV_iret (pc := 80) rfl dX7_holding_80 hx3 h
  · skip
    replace h := h.2 c1
    refine zV_aloadr_n (pc := 53) dX7_holding_53 rfl 0 rfl ?_
    refine zV_aloadr_n (pc := 54) dX7_holding_54 rfl 1 rfl ?_
    refine zV_getR (pc := 55) dX7_holding_55 zfX7_35 (zPl_s0 hpl1) rfl (zPl_r5 hpl1) ?_
    refine zV_iload (pc := 58) dX7_holding_58 3 rfl ?_
    refine zV_callV (pc := 60) (mc := mX7_isTrue) (As := [rr K (pl1 + 6), .int (iz x4)]) (rest := []) dX7_holding_60 zcX7_59 ziX7_isTrue zsX7_isTrue rfl rfl rfl rfl (Nat.le_of_ble_eq_true rfl) h (fun r2 m3 hr2 h => zV_ok (fun hm3 => ?_))
    replace h := h hr2 hm3
    have key : ∀ v4 : Int, v4 = (if r2 = 0 then x3 else (zor x3 (zshl 1 x4))) → zV K mX7_holding (d + 5) 73 [(0, rr K 64), (1, rr K pl1), (3, .int (iz v4)), (4, .int (iz x4))] [] m3 Q := by
      intro v4 e5
      replace h := h v4 e5
      have hrv4 : inR v4 := by rw [e5]; (repeat' split) <;> first | with_reducible exact hx3 | with_reducible exact (inR_zor _ _)
      refine zV_iinc (pc := 73) (loc' := [(4, .int (iz (x4 + 1))), (0, rr K 64), (1, rr K pl1), (3, .int (iz v4))]) dX7_holding_73 3 rfl (by decide) rfl ?_
      refine zV_goto (pc := 76) (tgt := 41) dX7_holding_76 (by decide) ?_
      exact zV_sub [1, 2, 3, 0] rfl h
    refine zV_if_eq (pc := 63) (tgt := 73) dX7_holding_63 (by decide) hr2 (fun c6 => ?_) (fun c6 => ?_)
    · skip
      exact zV_sub [0, 1, 2, 3] rfl (key _ (if_pos c6).symm)
    · skip
      refine zV_iload_n (pc := 66) dX7_holding_66 rfl 2 rfl ?_
      refine zV_iconst (pc := 67) dX7_holding_67 ?_
      refine zV_iload (pc := 68) dX7_holding_68 3 rfl ?_
      refine zV_ishl (pc := 70) dX7_holding_70 ?_
      refine zV_ior (pc := 71) dX7_holding_71 ?_
      refine zV_istore_n (pc := 72) (loc' := [(3, .int (iz (zor x3 (zshl 1 x4)))), (0, rr K 64), (1, rr K pl1), (4, .int (iz x4))]) dX7_holding_72 rfl (by decide) rfl ?_
      exact zV_sub [1, 2, 0, 3] rfl (key _ (if_neg c6).symm)

set_option maxRecDepth 100000 in
set_option maxHeartbeats 4000000 in
theorem vc_X7_missing_0 {K : zCx} {d : Nat} (pl1 : Int) (m0 : zM) {Q : Int → zM → Prop} (hpl1 : zPl pl1) (h : zok m0 → zV K mX7_missing (d + 6) 4 [(0, rr K 64), (1, rr K pl1), (2, .int (iz 0)), (3, .int (iz 0))] [] m0 Q) : zV K mX7_missing (d + 6) 0 [(0, rr K 64), (1, rr K pl1)] [] m0 Q := by
  refine zV_ok (fun hm0 => ?_)
  replace h := h hm0
  refine zV_iconst (pc := 0) dX7_missing_0 ?_
  refine zV_istore_n (pc := 1) (loc' := [(2, .int (iz 0)), (0, rr K 64), (1, rr K pl1)]) dX7_missing_1 rfl (by decide) rfl ?_
  refine zV_iconst (pc := 2) dX7_missing_2 ?_
  refine zV_istore_n (pc := 3) (loc' := [(3, .int (iz 0)), (2, .int (iz 0)), (0, rr K 64), (1, rr K pl1)]) dX7_missing_3 rfl (by decide) rfl ?_
  exact zV_sub [2, 3, 1, 0] rfl h
set_option maxRecDepth 100000 in
set_option maxHeartbeats 4000000 in
theorem vc_X7_missing_4 {K : zCx} {d : Nat} (x2 : Int) (x3 : Int) (pl1 : Int) (m0 : zM) {Q : Int → zM → Prop} (hx2 : inR x2) (hx3 : inR x3) (hpl1 : zPl pl1) (h : zok m0 → (9 ≤ x3 → Q x2 m0) ∧ (¬ (9 ≤ x3) → zCt K (d + 5) mX8_all [rr K (pl1 + 6)] m0 (fun r2 m3 => inR r2 → zok m3 → (x2 = r2 → Q x2 m3) ∧ (¬ (x2 = r2) → zCt K (d + 5) mX8_all [rr K (pl1 + 6)] m3 (fun r5 m6 => inR r5 → zok m6 → zCt K (d + 5) mX7_holding [rr K 64, rr K pl1, .int (iz x3)] m6 (fun r7 m8 => inR r7 → zok m8 → ∀ v9 : Int, v9 = (zor x2 (zand r5 (zxor r7 (-1)))) → (zV K mX7_missing (d + 6) 4 [(0, rr K 64), (1, rr K pl1), (2, .int (iz v9)), (3, .int (iz (x3 + 1)))] [] m8 Q))))))) : zV K mX7_missing (d + 6) 4 [(0, rr K 64), (1, rr K pl1), (2, .int (iz x2)), (3, .int (iz x3))] [] m0 Q := by
  refine zV_ok (fun hm0 => ?_)
  replace h := h hm0
  refine zV_iload_n (pc := 4) dX7_missing_4 rfl 3 rfl ?_
  refine zV_bipush (pc := 5) dX7_missing_5 (by decide) ?_
  refine zV_icmp_ge (pc := 7) (tgt := 46) dX7_missing_7 (by decide) hx3 (inRd rfl) (fun c1 => ?_) (fun c1 => ?_)
  · skip
    replace h := h.1 c1
    refine zV_iload_n (pc := 46) dX7_missing_46 rfl 2 rfl ?_
    exact zV_iret (pc := 47) rfl dX7_missing_47 hx2 h
  · skip
    replace h := h.2 c1
    refine zV_iload_n (pc := 10) dX7_missing_10 rfl 2 rfl ?_
    refine zV_aloadr_n (pc := 11) dX7_missing_11 rfl 1 rfl ?_
    refine zV_getR (pc := 12) dX7_missing_12 zfX7_35 (zPl_s0 hpl1) rfl (zPl_r5 hpl1) ?_
    refine zV_callV (pc := 15) (mc := mX8_all) (As := []) (rest := [.int (iz x2)]) dX7_missing_15 zcX7_63 ziX8_all zsX8_all (zPl_s6 hpl1) rfl rfl rfl (Nat.le_of_ble_eq_true rfl) h (fun r2 m3 hr2 h => zV_ok (fun hm3 => ?_))
    replace h := h hr2 hm3
    refine zV_icmp_eq (pc := 18) (tgt := 46) dX7_missing_18 (by decide) hx2 hr2 (fun c4 => ?_) (fun c4 => ?_)
    · skip
      replace h := h.1 c4
      refine zV_iload_n (pc := 46) dX7_missing_46 rfl 2 rfl ?_
      exact zV_iret (pc := 47) rfl dX7_missing_47 hx2 h
    · skip
      replace h := h.2 c4
      refine zV_iload_n (pc := 21) dX7_missing_21 rfl 2 rfl ?_
      refine zV_aloadr_n (pc := 22) dX7_missing_22 rfl 1 rfl ?_
      refine zV_getR (pc := 23) dX7_missing_23 zfX7_35 (zPl_s0 hpl1) rfl (zPl_r5 hpl1) ?_
      refine zV_callV (pc := 26) (mc := mX8_all) (As := []) (rest := [.int (iz x2)]) dX7_missing_26 zcX7_63 ziX8_all zsX8_all (zPl_s6 hpl1) rfl rfl rfl (Nat.le_of_ble_eq_true rfl) h (fun r5 m6 hr5 h => zV_ok (fun hm6 => ?_))
      replace h := h hr5 hm6
      refine zV_aloadr_n (pc := 29) dX7_missing_29 rfl 0 rfl ?_
      refine zV_aloadr_n (pc := 30) dX7_missing_30 rfl 1 rfl ?_
      refine zV_iload_n (pc := 31) dX7_missing_31 rfl 3 rfl ?_
      refine zV_callV (pc := 32) (mc := mX7_holding) (As := [rr K pl1, .int (iz x3)]) (rest := [.int (iz r5), .int (iz x2)]) dX7_missing_32 zcX7_67 ziX7_holding zsX7_holding rfl rfl rfl rfl (Nat.le_of_ble_eq_true rfl) h (fun r7 m8 hr7 h => zV_ok (fun hm8 => ?_))
      replace h := h hr7 hm8
      refine zV_iconst (pc := 35) dX7_missing_35 ?_
      refine zV_ixor (pc := 36) dX7_missing_36 ?_
      refine zV_iand (pc := 37) dX7_missing_37 ?_
      refine zV_ior (pc := 38) dX7_missing_38 ?_
      refine zV_name (fun v9 e10 => ?_)
      replace h := h v9 e10
      have hrv9 : inR v9 := by rw [e10]; exact (inR_zor _ _)
      refine zV_istore_n (pc := 39) (loc' := [(2, .int (iz v9)), (0, rr K 64), (1, rr K pl1), (3, .int (iz x3))]) dX7_missing_39 rfl (by decide) rfl ?_
      refine zV_iinc (pc := 40) (loc' := [(3, .int (iz (x3 + 1))), (2, .int (iz v9)), (0, rr K 64), (1, rr K pl1)]) dX7_missing_40 3 rfl (by decide) rfl ?_
      refine zV_goto (pc := 43) (tgt := 4) dX7_missing_43 (by decide) ?_
      exact zV_sub [2, 3, 1, 0] rfl h

set_option maxRecDepth 100000 in
set_option maxHeartbeats 4000000 in
theorem vc_X7_allMet_0 {K : zCx} {d : Nat} (pl1 : Int) (m0 : zM) {Q : Int → zM → Prop} (hpl1 : zPl pl1) (h : zok m0 → zV K mX7_allMet (d + 6) 2 [(0, rr K 64), (1, rr K pl1), (2, .int (iz 0))] [] m0 Q) : zV K mX7_allMet (d + 6) 0 [(0, rr K 64), (1, rr K pl1)] [] m0 Q := by
  refine zV_ok (fun hm0 => ?_)
  replace h := h hm0
  refine zV_iconst (pc := 0) dX7_allMet_0 ?_
  refine zV_istore_n (pc := 1) (loc' := [(2, .int (iz 0)), (0, rr K 64), (1, rr K pl1)]) dX7_allMet_1 rfl (by decide) rfl ?_
  exact zV_sub [1, 2, 0] rfl h
set_option maxRecDepth 100000 in
set_option maxHeartbeats 4000000 in
theorem vc_X7_allMet_2 {K : zCx} {d : Nat} (x2 : Int) (pl1 : Int) (m0 : zM) {Q : Int → zM → Prop} (hx2 : inR x2) (hpl1 : zPl pl1) (h : zok m0 → (9 ≤ x2 → Q 1 m0) ∧ (¬ (9 ≤ x2) → zCt K (d + 5) mX7_holding [rr K 64, rr K pl1, .int (iz x2)] m0 (fun r2 m3 => inR r2 → zok m3 → zCt K (d + 5) mX8_all [rr K (pl1 + 6)] m3 (fun r4 m5 => inR r4 → zok m5 → (r2 = r4 → zV K mX7_allMet (d + 6) 2 [(0, rr K 64), (1, rr K pl1), (2, .int (iz (x2 + 1)))] [] m5 Q) ∧ (¬ (r2 = r4) → Q 0 m5))))) : zV K mX7_allMet (d + 6) 2 [(0, rr K 64), (1, rr K pl1), (2, .int (iz x2))] [] m0 Q := by
  refine zV_ok (fun hm0 => ?_)
  replace h := h hm0
  refine zV_iload_n (pc := 2) dX7_allMet_2 rfl 2 rfl ?_
  refine zV_bipush (pc := 3) dX7_allMet_3 (by decide) ?_
  refine zV_icmp_ge (pc := 5) (tgt := 32) dX7_allMet_5 (by decide) hx2 (inRd rfl) (fun c1 => ?_) (fun c1 => ?_)
  · skip
    replace h := h.1 c1
    refine zV_iconst (pc := 32) dX7_allMet_32 ?_
    exact zV_zret (pc := 33) rfl dX7_allMet_33 (Or.inr rfl) h
  · skip
    replace h := h.2 c1
    refine zV_aloadr_n (pc := 8) dX7_allMet_8 rfl 0 rfl ?_
    refine zV_aloadr_n (pc := 9) dX7_allMet_9 rfl 1 rfl ?_
    refine zV_iload_n (pc := 10) dX7_allMet_10 rfl 2 rfl ?_
    refine zV_callV (pc := 11) (mc := mX7_holding) (As := [rr K pl1, .int (iz x2)]) (rest := []) dX7_allMet_11 zcX7_67 ziX7_holding zsX7_holding rfl rfl rfl rfl (Nat.le_of_ble_eq_true rfl) h (fun r2 m3 hr2 h => zV_ok (fun hm3 => ?_))
    replace h := h hr2 hm3
    refine zV_aloadr_n (pc := 14) dX7_allMet_14 rfl 1 rfl ?_
    refine zV_getR (pc := 15) dX7_allMet_15 zfX7_35 (zPl_s0 hpl1) rfl (zPl_r5 hpl1) ?_
    refine zV_callV (pc := 18) (mc := mX8_all) (As := []) (rest := [.int (iz r2)]) dX7_allMet_18 zcX7_63 ziX8_all zsX8_all (zPl_s6 hpl1) rfl rfl rfl (Nat.le_of_ble_eq_true rfl) h (fun r4 m5 hr4 h => zV_ok (fun hm5 => ?_))
    replace h := h hr4 hm5
    refine zV_icmp_eq (pc := 21) (tgt := 26) dX7_allMet_21 (by decide) hr2 hr4 (fun c6 => ?_) (fun c6 => ?_)
    · skip
      replace h := h.1 c6
      refine zV_iinc (pc := 26) (loc' := [(2, .int (iz (x2 + 1))), (0, rr K 64), (1, rr K pl1)]) dX7_allMet_26 2 rfl (by decide) rfl ?_
      refine zV_goto (pc := 29) (tgt := 2) dX7_allMet_29 (by decide) ?_
      exact zV_sub [1, 2, 0] rfl h
    · skip
      replace h := h.2 c6
      refine zV_iconst (pc := 24) dX7_allMet_24 ?_
      exact zV_zret (pc := 25) rfl dX7_allMet_25 (Or.inl rfl) h

set_option maxRecDepth 100000 in
set_option maxHeartbeats 4000000 in
theorem vc_X7_firstMiss_0 {K : zCx} {d : Nat} (pl1 : Int) (x2 : Int) (m0 : zM) {Q : Int → zM → Prop} (hpl1 : zPl pl1) (hx2 : inR x2) (h : zok m0 → zV K mX7_firstMiss (d + 6) 2 [(0, rr K 64), (1, rr K pl1), (2, .int (iz x2)), (3, .int (iz 0))] [] m0 Q) : zV K mX7_firstMiss (d + 6) 0 [(0, rr K 64), (1, rr K pl1), (2, .int (iz x2))] [] m0 Q := by
  refine zV_ok (fun hm0 => ?_)
  replace h := h hm0
  refine zV_iconst (pc := 0) dX7_firstMiss_0 ?_
  refine zV_istore_n (pc := 1) (loc' := [(3, .int (iz 0)), (0, rr K 64), (1, rr K pl1), (2, .int (iz x2))]) dX7_firstMiss_1 rfl (by decide) rfl ?_
  exact zV_sub [1, 2, 3, 0] rfl h
set_option maxRecDepth 100000 in
set_option maxHeartbeats 4000000 in
theorem vc_X7_firstMiss_2 {K : zCx} {d : Nat} (x2 : Int) (x3 : Int) (pl1 : Int) (m0 : zM) {Q : Int → zM → Prop} (hx2 : inR x2) (hx3 : inR x3) (hpl1 : zPl pl1) (h : zok m0 → (9 ≤ x3 → Q (-1) m0) ∧ (¬ (9 ≤ x3) → zCt K (d + 5) mX7_holding [rr K 64, rr K pl1, .int (iz x3)] m0 (fun r2 m3 => inR r2 → zok m3 → ((zand (zshr r2 x2) 1) = 0 → Q x3 m3) ∧ (¬ ((zand (zshr r2 x2) 1) = 0) → zV K mX7_firstMiss (d + 6) 2 [(0, rr K 64), (1, rr K pl1), (2, .int (iz x2)), (3, .int (iz (x3 + 1)))] [] m3 Q)))) : zV K mX7_firstMiss (d + 6) 2 [(0, rr K 64), (1, rr K pl1), (2, .int (iz x2)), (3, .int (iz x3))] [] m0 Q := by
  refine zV_ok (fun hm0 => ?_)
  replace h := h hm0
  refine zV_iload_n (pc := 2) dX7_firstMiss_2 rfl 3 rfl ?_
  refine zV_bipush (pc := 3) dX7_firstMiss_3 (by decide) ?_
  refine zV_icmp_ge (pc := 5) (tgt := 29) dX7_firstMiss_5 (by decide) hx3 (inRd rfl) (fun c1 => ?_) (fun c1 => ?_)
  · skip
    replace h := h.1 c1
    refine zV_iconst (pc := 29) dX7_firstMiss_29 ?_
    exact zV_iret (pc := 30) rfl dX7_firstMiss_30 (inRd rfl) h
  · skip
    replace h := h.2 c1
    refine zV_aloadr_n (pc := 8) dX7_firstMiss_8 rfl 0 rfl ?_
    refine zV_aloadr_n (pc := 9) dX7_firstMiss_9 rfl 1 rfl ?_
    refine zV_iload_n (pc := 10) dX7_firstMiss_10 rfl 3 rfl ?_
    refine zV_callV (pc := 11) (mc := mX7_holding) (As := [rr K pl1, .int (iz x3)]) (rest := []) dX7_firstMiss_11 zcX7_67 ziX7_holding zsX7_holding rfl rfl rfl rfl (Nat.le_of_ble_eq_true rfl) h (fun r2 m3 hr2 h => zV_ok (fun hm3 => ?_))
    replace h := h hr2 hm3
    refine zV_iload_n (pc := 14) dX7_firstMiss_14 rfl 2 rfl ?_
    refine zV_ishr (pc := 15) dX7_firstMiss_15 ?_
    refine zV_iconst (pc := 16) dX7_firstMiss_16 ?_
    refine zV_iand (pc := 17) dX7_firstMiss_17 ?_
    refine zV_if_ne (pc := 18) (tgt := 23) dX7_firstMiss_18 (by decide) (inR_zand _ _) (fun c4 => ?_) (fun c4 => ?_)
    · skip
      replace h := h.2 c4
      refine zV_iinc (pc := 23) (loc' := [(3, .int (iz (x3 + 1))), (0, rr K 64), (1, rr K pl1), (2, .int (iz x2))]) dX7_firstMiss_23 3 rfl (by decide) rfl ?_
      refine zV_goto (pc := 26) (tgt := 2) dX7_firstMiss_26 (by decide) ?_
      exact zV_sub [1, 2, 3, 0] rfl h
    · replace c4 := Classical.not_not.mp c4
      replace h := h.1 c4
      refine zV_iload_n (pc := 21) dX7_firstMiss_21 rfl 3 rfl ?_
      exact zV_iret (pc := 22) rfl dX7_firstMiss_22 hx3 h

set_option maxRecDepth 100000 in
set_option maxHeartbeats 4000000 in
theorem vc_X7_isTrue_0 {K : zCx} {d : Nat} (w1 : Int) (x2 : Int) (m0 : zM) {Q : Int → zM → Prop} (hw1 : zWi w1) (hx2 : inR x2) (h : zok m0 → 0 ≤ x2 ∧ x2 < 9 ∧ (∀ v3 : Int, v3 = (m0.1 (w1 + 2) x2) → (zV K mX7_isTrue (d + 3) 10 [(0, rr K 64), (1, rr K w1), (2, .int (iz x2)), (3, .int (iz 0)), (4, .int (iz v3))] [] m0 Q))) : zV K mX7_isTrue (d + 3) 0 [(0, rr K 64), (1, rr K w1), (2, .int (iz x2))] [] m0 Q := by
  refine zV_ok (fun hm0 => ?_)
  replace h := h hm0
  refine zV_iconst (pc := 0) dX7_isTrue_0 ?_
  refine zV_istore_n (pc := 1) (loc' := [(3, .int (iz 0)), (0, rr K 64), (1, rr K w1), (2, .int (iz x2))]) dX7_isTrue_1 rfl (by decide) rfl ?_
  refine zV_aloadr_n (pc := 2) dX7_isTrue_2 rfl 2 rfl ?_
  refine zV_getR (pc := 3) dX7_isTrue_3 zfX7_71 (zWi_s0 hw1) rfl (zWi_r1 hw1) ?_
  refine zV_iload_n (pc := 6) dX7_isTrue_6 rfl 3 rfl ?_
  obtain ⟨o1, o2, h⟩ := h
  refine zV_iald (pc := 7) dX7_isTrue_7 (zWi_s2 hw1) o1 o2 (inR_ix o1 o2 rfl) ?_
  refine zV_name (fun v3 e4 => ?_)
  replace h := h v3 e4
  have hrv3 : inR v3 := by rw [e4]; exact (hm0 _ _)
  refine zV_istore (pc := 8) (loc' := [(4, .int (iz v3)), (3, .int (iz 0)), (0, rr K 64), (1, rr K w1), (2, .int (iz x2))]) dX7_isTrue_8 (by decide) rfl ?_
  exact zV_sub [2, 3, 4, 1, 0] rfl h
set_option maxRecDepth 100000 in
set_option maxHeartbeats 4000000 in
theorem vc_X7_isTrue_10 {K : zCx} {d : Nat} (x2 : Int) (x3 : Int) (x4 : Int) (w1 : Int) (m0 : zM) {Q : Int → zM → Prop} (hx2 : inR x2) (hx3 : inR x3) (hx4 : inR x4) (hw1 : zWi w1) (h : zok m0 → 0 ≤ (x2 + 1) ∧ (x2 + 1) < 9 ∧ (((m0.1 (w1 + 2) (x2 + 1)) ≤ x4 → ((m0.1 86 0) = 0 → Q 0 m0) ∧ (¬ ((m0.1 86 0) = 0) → Q 1 m0)) ∧ (¬ ((m0.1 (w1 + 2) (x2 + 1)) ≤ x4) → 0 ≤ x4 ∧ x4 < 220 ∧ (∀ v7 : Int, v7 = (Int.tdiv (m0.1 (w1 + 1) x4) 1000) → ((6 ≤ v7 → zV K mX7_isTrue (d + 3) 78 [(0, rr K 64), (1, rr K w1), (2, .int (iz x2)), (3, .int (iz x3)), (4, .int (iz x4)), (5, .int (iz v7))] [] m0 Q) ∧ (¬ (6 ≤ v7) → (32 ≤ x3 → zV K mX7_isTrue (d + 3) 78 [(0, rr K 64), (1, rr K w1), (2, .int (iz x2)), (3, .int (iz x3)), (4, .int (iz x4)), (5, .int (iz v7))] [] m0 Q) ∧ (¬ (32 ≤ x3) → zCt K (d + 2) mX7_valueOf [rr K 64, .int (iz v7), .int (iz (Int.tmod (m0.1 (w1 + 1) x4) 1000))] m0 (fun r11 m12 => inR r11 → zok m12 → 0 ≤ x3 ∧ x3 < 32 ∧ (∀ m15 : zM, m15 = sI m12 86 x3 r11 → zok m15 → (zV K mX7_isTrue (d + 3) 145 [(0, rr K 64), (1, rr K w1), (2, .int (iz x2)), (3, .int (iz (x3 + 1))), (4, .int (iz x4))] [] m15 Q)))))))))) : zV K mX7_isTrue (d + 3) 10 [(0, rr K 64), (1, rr K w1), (2, .int (iz x2)), (3, .int (iz x3)), (4, .int (iz x4))] [] m0 Q := by
  refine zV_ok (fun hm0 => ?_)
  replace h := h hm0
  refine zV_iload (pc := 10) dX7_isTrue_10 4 rfl ?_
  refine zV_aloadr_n (pc := 12) dX7_isTrue_12 rfl 1 rfl ?_
  refine zV_getR (pc := 13) dX7_isTrue_13 zfX7_71 (zWi_s0 hw1) rfl (zWi_r1 hw1) ?_
  refine zV_iload_n (pc := 16) dX7_isTrue_16 rfl 2 rfl ?_
  refine zV_iconst (pc := 17) dX7_isTrue_17 ?_
  refine zV_iadd (pc := 18) dX7_isTrue_18 ?_
  obtain ⟨o1, o2, h⟩ := h
  refine zV_iald (pc := 19) dX7_isTrue_19 (zWi_s2 hw1) o1 o2 (inR_ix o1 o2 rfl) ?_
  refine zV_icmp_ge (pc := 20) (tgt := 151) dX7_isTrue_20 (by decide) hx4 (hm0 _ _) (fun c3 => ?_) (fun c3 => ?_)
  · skip
    replace h := h.1 c3
    refine zV_aloadr_n (pc := 151) dX7_isTrue_151 rfl 0 rfl ?_
    refine zV_getR (pc := 152) (b := 86) dX7_isTrue_152 zfX7_32 rfl rfl rfl ?_
    refine zV_iconst (pc := 155) dX7_isTrue_155 ?_
    refine zV_iald (pc := 156) dX7_isTrue_156 rfl (by decide) (by decide) (inRd rfl) ?_
    refine zV_if_eq (pc := 157) (tgt := 164) dX7_isTrue_157 (by decide) (hm0 _ _) (fun c4 => ?_) (fun c4 => ?_)
    · skip
      replace h := h.1 c4
      refine zV_iconst (pc := 164) dX7_isTrue_164 ?_
      exact zV_zret (pc := 165) rfl dX7_isTrue_165 (Or.inl rfl) h
    · skip
      replace h := h.2 c4
      refine zV_iconst (pc := 160) dX7_isTrue_160 ?_
      refine zV_goto (pc := 161) (tgt := 165) dX7_isTrue_161 (by decide) ?_
      exact zV_zret (pc := 165) rfl dX7_isTrue_165 (Or.inr rfl) h
  · skip
    replace h := h.2 c3
    refine zV_aloadr_n (pc := 23) dX7_isTrue_23 rfl 1 rfl ?_
    refine zV_getR (pc := 24) dX7_isTrue_24 zfX7_74 (zWi_s0 hw1) rfl (zWi_r0 hw1) ?_
    refine zV_iload (pc := 27) dX7_isTrue_27 4 rfl ?_
    obtain ⟨o5, o6, h⟩ := h
    refine zV_iald (pc := 29) dX7_isTrue_29 (zWi_s1 hw1) o5 o6 (inR_ix o5 o6 rfl) ?_
    refine zV_sipush (pc := 30) dX7_isTrue_30 (by decide) ?_
    refine zV_idiv (pc := 33) dX7_isTrue_33 (hm0 _ _) (inRd rfl) (by decide) (fun q => absurd q.2 (by decide)) ?_
    refine zV_name (fun v7 e8 => ?_)
    replace h := h v7 e8
    have hrv7 : inR v7 := by rw [e8]; exact (inR_tdiv (hm0 _ _) (by decide))
    refine zV_istore (pc := 34) (loc' := [(5, .int (iz v7)), (0, rr K 64), (1, rr K w1), (2, .int (iz x2)), (3, .int (iz x3)), (4, .int (iz x4))]) dX7_isTrue_34 (by decide) rfl ?_
    refine zV_iload (pc := 36) dX7_isTrue_36 0 rfl ?_
    refine zV_bipush (pc := 38) dX7_isTrue_38 (by decide) ?_
    refine zV_icmp_ge (pc := 40) (tgt := 78) dX7_isTrue_40 (by decide) hrv7 (inRd rfl) (fun c9 => ?_) (fun c9 => ?_)
    · skip
      replace h := h.1 c9
      exact zV_sub [1, 2, 3, 4, 5, 0] rfl h
    · skip
      replace h := h.2 c9
      refine zV_iload_n (pc := 43) dX7_isTrue_43 rfl 4 rfl ?_
      refine zV_bipush (pc := 44) dX7_isTrue_44 (by decide) ?_
      refine zV_icmp_ge (pc := 46) (tgt := 78) dX7_isTrue_46 (by decide) hx3 (inRd rfl) (fun c10 => ?_) (fun c10 => ?_)
      · skip
        replace h := h.1 c10
        exact zV_sub [1, 2, 3, 4, 5, 0] rfl h
      · skip
        replace h := h.2 c10
        refine zV_aloadr_n (pc := 49) dX7_isTrue_49 rfl 1 rfl ?_
        refine zV_getR (pc := 50) (b := 86) dX7_isTrue_50 zfX7_32 rfl rfl rfl ?_
        refine zV_iload_n (pc := 53) dX7_isTrue_53 rfl 4 rfl ?_
        refine zV_aloadr_n (pc := 54) dX7_isTrue_54 rfl 1 rfl ?_
        refine zV_iload (pc := 55) dX7_isTrue_55 0 rfl ?_
        refine zV_aloadr_n (pc := 57) dX7_isTrue_57 rfl 2 rfl ?_
        refine zV_getR (pc := 58) dX7_isTrue_58 zfX7_74 (zWi_s0 hw1) rfl (zWi_r0 hw1) ?_
        refine zV_iload (pc := 61) dX7_isTrue_61 5 rfl ?_
        refine zV_iald (pc := 63) dX7_isTrue_63 (zWi_s1 hw1) o5 o6 (inR_ix o5 o6 rfl) ?_
        refine zV_sipush (pc := 64) dX7_isTrue_64 (by decide) ?_
        refine zV_irem (pc := 67) dX7_isTrue_67 (hm0 _ _) (inRd rfl) (by decide) (fun q => absurd q.2 (by decide)) ?_
        refine zV_callV (pc := 68) (mc := mX7_valueOf) (As := [.int (iz v7), .int (iz (Int.tmod (m0.1 (w1 + 1) x4) 1000))]) (rest := [.int (iz x3), rr K 86]) dX7_isTrue_68 zcX7_77 ziX7_valueOf zsX7_valueOf rfl rfl rfl rfl (Nat.le_of_ble_eq_true rfl) h (fun r11 m12 hr11 h => zV_ok (fun hm12 => ?_))
        replace h := h hr11 hm12
        obtain ⟨o13, o14, h⟩ := h
        refine zV_iast (pc := 71) dX7_isTrue_71 rfl o13 o14 (inR_ix o13 o14 rfl) hr11 ?_
        refine zV_mem (fun m15 e16 => zV_ok (fun hm15 => ?_))
        replace h := h m15 e16 hm15
        refine zV_iinc (pc := 72) (loc' := [(3, .int (iz (x3 + 1))), (5, .int (iz v7)), (0, rr K 64), (1, rr K w1), (2, .int (iz x2)), (4, .int (iz x4))]) dX7_isTrue_72 4 rfl (by decide) rfl ?_
        refine zV_goto (pc := 75) (tgt := 145) dX7_isTrue_75 (by decide) ?_
        exact zV_sub [2, 3, 4, 0, 5] rfl h
set_option maxRecDepth 100000 in
set_option maxHeartbeats 4000000 in
theorem vc_X7_isTrue_78 {K : zCx} {d : Nat} (x2 : Int) (x3 : Int) (x4 : Int) (x5 : Int) (w1 : Int) (m0 : zM) {Q : Int → zM → Prop} (hx2 : inR x2) (hx3 : inR x3) (hx4 : inR x4) (hx5 : inR x5) (hw1 : zWi w1) (h : zok m0 → (x5 = 10 → (x3 ≤ 0 → zV K mX7_isTrue (d + 3) 110 [(0, rr K 64), (1, rr K w1), (2, .int (iz x2)), (3, .int (iz x3)), (4, .int (iz x4)), (5, .int (iz x5))] [] m0 Q) ∧ (¬ (x3 ≤ 0) → 0 ≤ (x3 - 1) ∧ (x3 - 1) < 32 ∧ (inR (1 - (m0.1 86 (x3 - 1))) ∧ (∀ m6 : zM, m6 = sI m0 86 (x3 - 1) (1 - (m0.1 86 (x3 - 1))) → zok m6 → (zV K mX7_isTrue (d + 3) 145 [(0, rr K 64), (1, rr K w1), (2, .int (iz x2)), (3, .int (iz x3)), (4, .int (iz x4))] [] m6 Q))))) ∧ (¬ (x5 = 10) → zV K mX7_isTrue (d + 3) 110 [(0, rr K 64), (1, rr K w1), (2, .int (iz x2)), (3, .int (iz x3)), (4, .int (iz x4)), (5, .int (iz x5))] [] m0 Q)) : zV K mX7_isTrue (d + 3) 78 [(0, rr K 64), (1, rr K w1), (2, .int (iz x2)), (3, .int (iz x3)), (4, .int (iz x4)), (5, .int (iz x5))] [] m0 Q := by
  refine zV_ok (fun hm0 => ?_)
  replace h := h hm0
  refine zV_iload (pc := 78) dX7_isTrue_78 5 rfl ?_
  refine zV_bipush (pc := 80) dX7_isTrue_80 (by decide) ?_
  refine zV_icmp_ne (pc := 82) (tgt := 110) dX7_isTrue_82 (by decide) hx5 (inRd rfl) (fun c1 => ?_) (fun c1 => ?_)
  · skip
    replace h := h.2 c1
    exact zV_sub [0, 1, 2, 3, 4, 5] rfl h
  · replace c1 := Classical.not_not.mp c1
    replace h := h.1 c1
    refine zV_iload_n (pc := 85) dX7_isTrue_85 rfl 3 rfl ?_
    refine zV_if_le (pc := 86) (tgt := 110) dX7_isTrue_86 (by decide) hx3 (fun c2 => ?_) (fun c2 => ?_)
    · skip
      replace h := h.1 c2
      exact zV_sub [0, 1, 2, 3, 4, 5] rfl h
    · skip
      replace h := h.2 c2
      refine zV_aloadr_n (pc := 89) dX7_isTrue_89 rfl 0 rfl ?_
      refine zV_getR (pc := 90) (b := 86) dX7_isTrue_90 zfX7_32 rfl rfl rfl ?_
      refine zV_iload_n (pc := 93) dX7_isTrue_93 rfl 3 rfl ?_
      refine zV_iconst (pc := 94) dX7_isTrue_94 ?_
      refine zV_isub (pc := 95) dX7_isTrue_95 ?_
      refine zV_iconst (pc := 96) dX7_isTrue_96 ?_
      refine zV_aloadr_n (pc := 97) dX7_isTrue_97 rfl 0 rfl ?_
      refine zV_getR (pc := 98) (b := 86) dX7_isTrue_98 zfX7_32 rfl rfl rfl ?_
      refine zV_iload_n (pc := 101) dX7_isTrue_101 rfl 3 rfl ?_
      refine zV_iconst (pc := 102) dX7_isTrue_102 ?_
      refine zV_isub (pc := 103) dX7_isTrue_103 ?_
      obtain ⟨o3, o4, h⟩ := h
      refine zV_iald (pc := 104) dX7_isTrue_104 rfl o3 o4 (inR_ix o3 o4 rfl) ?_
      refine zV_isub (pc := 105) dX7_isTrue_105 ?_
      obtain ⟨o5, h⟩ := h
      refine zV_iast (pc := 106) dX7_isTrue_106 rfl o3 o4 (inR_ix o3 o4 rfl) o5 ?_
      refine zV_mem (fun m6 e7 => zV_ok (fun hm6 => ?_))
      replace h := h m6 e7 hm6
      refine zV_goto (pc := 107) (tgt := 145) dX7_isTrue_107 (by decide) ?_
      exact zV_sub [0, 1, 2, 3, 4] rfl h
set_option maxRecDepth 100000 in
set_option maxHeartbeats 4000000 in
theorem vc_X7_isTrue_110 {K : zCx} {d : Nat} (x2 : Int) (x3 : Int) (x4 : Int) (x5 : Int) (w1 : Int) (m0 : zM) {Q : Int → zM → Prop} (hx2 : inR x2) (hx3 : inR x3) (hx4 : inR x4) (hx5 : inR x5) (hw1 : zWi w1) (h : zok m0 → (x3 ≤ 1 → zV K mX7_isTrue (d + 3) 145 [(0, rr K 64), (1, rr K w1), (2, .int (iz x2)), (3, .int (iz x3)), (4, .int (iz x4))] [] m0 Q) ∧ (¬ (x3 ≤ 1) → 0 ≤ ((x3 + (-1)) - 1) ∧ ((x3 + (-1)) - 1) < 32 ∧ (0 ≤ (x3 + (-1)) ∧ (x3 + (-1)) < 32 ∧ (zCt K (d + 2) mX7_joined [.int (iz x5), .int (iz (m0.1 86 ((x3 + (-1)) - 1))), .int (iz (m0.1 86 (x3 + (-1))))] m0 (fun r6 m7 => inR r6 → zok m7 → ∀ m8 : zM, m8 = sI m7 86 ((x3 + (-1)) - 1) r6 → zok m8 → (zV K mX7_isTrue (d + 3) 145 [(0, rr K 64), (1, rr K w1), (2, .int (iz x2)), (3, .int (iz (x3 + (-1)))), (4, .int (iz x4))] [] m8 Q)))))) : zV K mX7_isTrue (d + 3) 110 [(0, rr K 64), (1, rr K w1), (2, .int (iz x2)), (3, .int (iz x3)), (4, .int (iz x4)), (5, .int (iz x5))] [] m0 Q := by
  refine zV_ok (fun hm0 => ?_)
  replace h := h hm0
  refine zV_iload_n (pc := 110) dX7_isTrue_110 rfl 3 rfl ?_
  refine zV_iconst (pc := 111) dX7_isTrue_111 ?_
  refine zV_icmp_le (pc := 112) (tgt := 145) dX7_isTrue_112 (by decide) hx3 (inRd rfl) (fun c1 => ?_) (fun c1 => ?_)
  · skip
    replace h := h.1 c1
    exact zV_sub [0, 1, 2, 3, 4] rfl h
  · skip
    replace h := h.2 c1
    refine zV_iinc (pc := 115) (loc' := [(3, .int (iz (x3 + (-1)))), (0, rr K 64), (1, rr K w1), (2, .int (iz x2)), (4, .int (iz x4)), (5, .int (iz x5))]) dX7_isTrue_115 3 rfl (by decide) rfl ?_
    refine zV_aloadr_n (pc := 118) dX7_isTrue_118 rfl 1 rfl ?_
    refine zV_getR (pc := 119) (b := 86) dX7_isTrue_119 zfX7_32 rfl rfl rfl ?_
    refine zV_iload_n (pc := 122) dX7_isTrue_122 rfl 0 rfl ?_
    refine zV_iconst (pc := 123) dX7_isTrue_123 ?_
    refine zV_isub (pc := 124) dX7_isTrue_124 ?_
    refine zV_iload (pc := 125) dX7_isTrue_125 5 rfl ?_
    refine zV_aloadr_n (pc := 127) dX7_isTrue_127 rfl 1 rfl ?_
    refine zV_getR (pc := 128) (b := 86) dX7_isTrue_128 zfX7_32 rfl rfl rfl ?_
    refine zV_iload_n (pc := 131) dX7_isTrue_131 rfl 0 rfl ?_
    refine zV_iconst (pc := 132) dX7_isTrue_132 ?_
    refine zV_isub (pc := 133) dX7_isTrue_133 ?_
    obtain ⟨o2, o3, h⟩ := h
    refine zV_iald (pc := 134) dX7_isTrue_134 rfl o2 o3 (inR_ix o2 o3 rfl) ?_
    refine zV_aloadr_n (pc := 135) dX7_isTrue_135 rfl 1 rfl ?_
    refine zV_getR (pc := 136) (b := 86) dX7_isTrue_136 zfX7_32 rfl rfl rfl ?_
    refine zV_iload_n (pc := 139) dX7_isTrue_139 rfl 0 rfl ?_
    obtain ⟨o4, o5, h⟩ := h
    refine zV_iald (pc := 140) dX7_isTrue_140 rfl o4 o5 (inR_ix o4 o5 rfl) ?_
    refine zV_callS (pc := 141) (mc := mX7_joined) (As := [.int (iz x5), .int (iz (m0.1 86 ((x3 + (-1)) - 1))), .int (iz (m0.1 86 (x3 + (-1))))]) (rest := [.int (iz ((x3 + (-1)) - 1)), rr K 86]) dX7_isTrue_141 zcX7_81 ztX7_joined rfl rfl (Nat.le_of_ble_eq_true rfl) h (fun r6 m7 hr6 h => zV_ok (fun hm7 => ?_))
    replace h := h hr6 hm7
    refine zV_iast (pc := 144) dX7_isTrue_144 rfl o2 o3 (inR_ix o2 o3 rfl) hr6 ?_
    refine zV_mem (fun m8 e9 => zV_ok (fun hm8 => ?_))
    replace h := h m8 e9 hm8
    exact zV_sub [1, 2, 3, 0, 4] rfl h
set_option maxRecDepth 100000 in
set_option maxHeartbeats 4000000 in
theorem vc_X7_isTrue_145 {K : zCx} {d : Nat} (x2 : Int) (x3 : Int) (x4 : Int) (w1 : Int) (m0 : zM) {Q : Int → zM → Prop} (hx2 : inR x2) (hx3 : inR x3) (hx4 : inR x4) (hw1 : zWi w1) (h : zok m0 → zV K mX7_isTrue (d + 3) 10 [(0, rr K 64), (1, rr K w1), (2, .int (iz x2)), (3, .int (iz x3)), (4, .int (iz (x4 + 1)))] [] m0 Q) : zV K mX7_isTrue (d + 3) 145 [(0, rr K 64), (1, rr K w1), (2, .int (iz x2)), (3, .int (iz x3)), (4, .int (iz x4))] [] m0 Q := by
  refine zV_ok (fun hm0 => ?_)
  replace h := h hm0
  refine zV_iinc (pc := 145) (loc' := [(4, .int (iz (x4 + 1))), (0, rr K 64), (1, rr K w1), (2, .int (iz x2)), (3, .int (iz x3))]) dX7_isTrue_145 4 rfl (by decide) rfl ?_
  refine zV_goto (pc := 148) (tgt := 10) dX7_isTrue_148 (by decide) ?_
  exact zV_sub [1, 2, 3, 4, 0] rfl h

set_option maxRecDepth 100000 in
set_option maxHeartbeats 4000000 in
theorem vc_X7_valueOf_0 {K : zCx} {d : Nat} (x1 : Int) (x2 : Int) (m0 : zM) {Q : Int → zM → Prop} (hx1 : inR x1) (hx2 : inR x2) (h : zok m0 → (x1 = 0 → Q x2 m0) ∧ (x1 = 1 → (5 ≤ x2 → Q 0 m0) ∧ (¬ (5 ≤ x2) → 0 ≤ x2 ∧ x2 < 5 ∧ (Q (m0.1 40 x2) m0))) ∧ (x1 = 2 → ((m0.1 39 11) ≤ x2 → Q 0 m0) ∧ (¬ ((m0.1 39 11) ≤ x2) → zCt K (d + 1) mX1_through [rr K 39, .int (iz x2)] m0 (fun r6 m7 => inR r6 → zok m7 → Q r6 m7))) ∧ (x1 = 3 → Q (m0.1 39 13) m0) ∧ (x1 = 4 → Q (m0.1 39 14) m0) ∧ ((x1 < 0 ∨ 4 < x1) → Q (m0.1 40 1) m0)) : zV K mX7_valueOf (d + 2) 0 [(0, rr K 64), (1, .int (iz x1)), (2, .int (iz x2))] [] m0 Q := by
  refine zV_ok (fun hm0 => ?_)
  replace h := h hm0
  refine zV_iload_n (pc := 0) dX7_valueOf_0 rfl 1 rfl ?_
  have c1 : x1 = 0 ∨ x1 = 1 ∨ x1 = 2 ∨ x1 = 3 ∨ x1 = 4 ∨ (x1 < 0 ∨ 4 < x1) := by omega
  rcases c1 with c1 | c1 | c1 | c1 | c1 | c1
  · refine zV_tswIn (pc := 1) (tgt := 36) (v := 0) dX7_valueOf_1 c1 (inRd rfl) (by decide) (by decide) rfl (by decide) ?_
    replace h := h.1 c1
    refine zV_iload_n (pc := 36) dX7_valueOf_36 rfl 2 rfl ?_
    exact zV_iret (pc := 37) rfl dX7_valueOf_37 hx2 h
  · refine zV_tswIn (pc := 1) (tgt := 38) (v := 1) dX7_valueOf_1 c1 (inRd rfl) (by decide) (by decide) rfl (by decide) ?_
    replace h := h.2.1 c1
    refine zV_iload_n (pc := 38) dX7_valueOf_38 rfl 2 rfl ?_
    refine zV_iconst (pc := 39) dX7_valueOf_39 ?_
    refine zV_icmp_ge (pc := 40) (tgt := 55) dX7_valueOf_40 (by decide) hx2 (inRd rfl) (fun c2 => ?_) (fun c2 => ?_)
    · skip
      replace h := h.1 c2
      refine zV_iconst (pc := 55) dX7_valueOf_55 ?_
      exact zV_iret (pc := 56) rfl dX7_valueOf_56 (inRd rfl) h
    · skip
      replace h := h.2 c2
      refine zV_aloadr_n (pc := 43) dX7_valueOf_43 rfl 0 rfl ?_
      refine zV_getR (pc := 44) (b := 39) dX7_valueOf_44 zfX7_21 rfl rfl rfl ?_
      refine zV_getR (pc := 47) (b := 40) dX7_valueOf_47 zfX7_85 rfl rfl rfl ?_
      refine zV_iload_n (pc := 50) dX7_valueOf_50 rfl 2 rfl ?_
      obtain ⟨o3, o4, h⟩ := h
      refine zV_iald (pc := 51) dX7_valueOf_51 rfl o3 o4 (inR_ix o3 o4 rfl) ?_
      refine zV_goto (pc := 52) (tgt := 56) dX7_valueOf_52 (by decide) ?_
      exact zV_iret (pc := 56) rfl dX7_valueOf_56 (hm0 _ _) h
  · refine zV_tswIn (pc := 1) (tgt := 57) (v := 2) dX7_valueOf_1 c1 (inRd rfl) (by decide) (by decide) rfl (by decide) ?_
    replace h := h.2.2.1 c1
    refine zV_iload_n (pc := 57) dX7_valueOf_57 rfl 2 rfl ?_
    refine zV_aloadr_n (pc := 58) dX7_valueOf_58 rfl 0 rfl ?_
    refine zV_getR (pc := 59) (b := 39) dX7_valueOf_59 zfX7_21 rfl rfl rfl ?_
    refine zV_getI (pc := 62) (kz := 11) dX7_valueOf_62 zfX7_88 rfl rfl rfl ?_
    refine zV_icmp_ge (pc := 65) (tgt := 79) dX7_valueOf_65 (by decide) hx2 (hm0 _ _) (fun c5 => ?_) (fun c5 => ?_)
    · skip
      replace h := h.1 c5
      refine zV_iconst (pc := 79) dX7_valueOf_79 ?_
      exact zV_iret (pc := 80) rfl dX7_valueOf_80 (inRd rfl) h
    · skip
      replace h := h.2 c5
      refine zV_aloadr_n (pc := 68) dX7_valueOf_68 rfl 0 rfl ?_
      refine zV_getR (pc := 69) (b := 39) dX7_valueOf_69 zfX7_21 rfl rfl rfl ?_
      refine zV_iload_n (pc := 72) dX7_valueOf_72 rfl 2 rfl ?_
      refine zV_callV (pc := 73) (mc := mX1_through) (As := [.int (iz x2)]) (rest := []) dX7_valueOf_73 zcX7_89 ziX1_through zsX1_through rfl rfl rfl rfl (Nat.le_of_ble_eq_true rfl) h (fun r6 m7 hr6 h => zV_ok (fun hm7 => ?_))
      replace h := h hr6 hm7
      refine zV_goto (pc := 76) (tgt := 80) dX7_valueOf_76 (by decide) ?_
      exact zV_iret (pc := 80) rfl dX7_valueOf_80 hr6 h
  · refine zV_tswIn (pc := 1) (tgt := 81) (v := 3) dX7_valueOf_1 c1 (inRd rfl) (by decide) (by decide) rfl (by decide) ?_
    replace h := h.2.2.2.1 c1
    refine zV_aloadr_n (pc := 81) dX7_valueOf_81 rfl 0 rfl ?_
    refine zV_getR (pc := 82) (b := 39) dX7_valueOf_82 zfX7_21 rfl rfl rfl ?_
    refine zV_getI (pc := 85) (kz := 13) dX7_valueOf_85 zfX7_93 rfl rfl rfl ?_
    exact zV_iret (pc := 88) rfl dX7_valueOf_88 (hm0 _ _) h
  · refine zV_tswIn (pc := 1) (tgt := 89) (v := 4) dX7_valueOf_1 c1 (inRd rfl) (by decide) (by decide) rfl (by decide) ?_
    replace h := h.2.2.2.2.1 c1
    refine zV_aloadr_n (pc := 89) dX7_valueOf_89 rfl 0 rfl ?_
    refine zV_getR (pc := 90) (b := 39) dX7_valueOf_90 zfX7_21 rfl rfl rfl ?_
    refine zV_getI (pc := 93) (kz := 14) dX7_valueOf_93 zfX7_96 rfl rfl rfl ?_
    exact zV_iret (pc := 96) rfl dX7_valueOf_96 (hm0 _ _) h
  · refine zV_tswOut (pc := 1) (tgt := 97) dX7_valueOf_1 hx1 c1 (by decide) ?_
    replace h := h.2.2.2.2.2 c1
    refine zV_aloadr_n (pc := 97) dX7_valueOf_97 rfl 0 rfl ?_
    refine zV_getR (pc := 98) (b := 39) dX7_valueOf_98 zfX7_21 rfl rfl rfl ?_
    refine zV_getR (pc := 101) (b := 40) dX7_valueOf_101 zfX7_85 rfl rfl rfl ?_
    refine zV_iconst (pc := 104) dX7_valueOf_104 ?_
    refine zV_iald (pc := 105) dX7_valueOf_105 rfl (by decide) (by decide) (inRd rfl) ?_
    exact zV_iret (pc := 106) rfl dX7_valueOf_106 (hm0 _ _) h

set_option maxRecDepth 100000 in
set_option maxHeartbeats 4000000 in
theorem vc_X7_joined_0 {K : zCx} {d : Nat} (x0 : Int) (x1 : Int) (x2 : Int) (m0 : zM) {Q : Int → zM → Prop} (hx0 : inR x0) (hx1 : inR x1) (hx2 : inR x2) (h : zok m0 → (x0 = 6 → inR (x1 + x2) ∧ (Q (x1 + x2) m0)) ∧ (x0 = 7 → (x2 ≤ x1 → Q 0 m0) ∧ (¬ (x2 ≤ x1) → Q 1 m0)) ∧ (x0 = 8 → (x1 = x2 → Q 1 m0) ∧ (¬ (x1 = x2) → Q 0 m0)) ∧ (x0 = 9 → (x1 ≤ x2 → Q 0 m0) ∧ (¬ (x1 ≤ x2) → Q 1 m0)) ∧ (x0 = 10 → Q (zor x1 x2) m0) ∧ (x0 = 11 → Q (zand x1 x2) m0) ∧ ((x0 < 6 ∨ 11 < x0) → Q (zor x1 x2) m0)) : zV K mX7_joined (d + 1) 0 [(0, .int (iz x0)), (1, .int (iz x1)), (2, .int (iz x2))] [] m0 Q := by
  refine zV_ok (fun hm0 => ?_)
  replace h := h hm0
  refine zV_iload_n (pc := 0) dX7_joined_0 rfl 0 rfl ?_
  have c1 : x0 = 6 ∨ x0 = 7 ∨ x0 = 8 ∨ x0 = 9 ∨ x0 = 10 ∨ x0 = 11 ∨ (x0 < 6 ∨ 11 < x0) := by omega
  rcases c1 with c1 | c1 | c1 | c1 | c1 | c1 | c1
  · refine zV_tswIn (pc := 1) (tgt := 40) (v := 6) dX7_joined_1 c1 (inRd rfl) (by decide) (by decide) rfl (by decide) ?_
    replace h := h.1 c1
    refine zV_iload_n (pc := 40) dX7_joined_40 rfl 1 rfl ?_
    refine zV_iload_n (pc := 41) dX7_joined_41 rfl 2 rfl ?_
    refine zV_iadd (pc := 42) dX7_joined_42 ?_
    obtain ⟨o2, h⟩ := h
    exact zV_iret (pc := 43) rfl dX7_joined_43 o2 h
  · refine zV_tswIn (pc := 1) (tgt := 44) (v := 7) dX7_joined_1 c1 (inRd rfl) (by decide) (by decide) rfl (by decide) ?_
    replace h := h.2.1 c1
    refine zV_iload_n (pc := 44) dX7_joined_44 rfl 1 rfl ?_
    refine zV_iload_n (pc := 45) dX7_joined_45 rfl 2 rfl ?_
    refine zV_icmp_ge (pc := 46) (tgt := 53) dX7_joined_46 (by decide) hx1 hx2 (fun c3 => ?_) (fun c3 => ?_)
    · skip
      replace h := h.1 c3
      refine zV_iconst (pc := 53) dX7_joined_53 ?_
      exact zV_iret (pc := 54) rfl dX7_joined_54 (inRd rfl) h
    · skip
      replace h := h.2 c3
      refine zV_iconst (pc := 49) dX7_joined_49 ?_
      refine zV_goto (pc := 50) (tgt := 54) dX7_joined_50 (by decide) ?_
      exact zV_iret (pc := 54) rfl dX7_joined_54 (inRd rfl) h
  · refine zV_tswIn (pc := 1) (tgt := 55) (v := 8) dX7_joined_1 c1 (inRd rfl) (by decide) (by decide) rfl (by decide) ?_
    replace h := h.2.2.1 c1
    refine zV_iload_n (pc := 55) dX7_joined_55 rfl 1 rfl ?_
    refine zV_iload_n (pc := 56) dX7_joined_56 rfl 2 rfl ?_
    refine zV_icmp_ne (pc := 57) (tgt := 64) dX7_joined_57 (by decide) hx1 hx2 (fun c4 => ?_) (fun c4 => ?_)
    · skip
      replace h := h.2 c4
      refine zV_iconst (pc := 64) dX7_joined_64 ?_
      exact zV_iret (pc := 65) rfl dX7_joined_65 (inRd rfl) h
    · replace c4 := Classical.not_not.mp c4
      replace h := h.1 c4
      refine zV_iconst (pc := 60) dX7_joined_60 ?_
      refine zV_goto (pc := 61) (tgt := 65) dX7_joined_61 (by decide) ?_
      exact zV_iret (pc := 65) rfl dX7_joined_65 (inRd rfl) h
  · refine zV_tswIn (pc := 1) (tgt := 66) (v := 9) dX7_joined_1 c1 (inRd rfl) (by decide) (by decide) rfl (by decide) ?_
    replace h := h.2.2.2.1 c1
    refine zV_iload_n (pc := 66) dX7_joined_66 rfl 1 rfl ?_
    refine zV_iload_n (pc := 67) dX7_joined_67 rfl 2 rfl ?_
    refine zV_icmp_le (pc := 68) (tgt := 75) dX7_joined_68 (by decide) hx1 hx2 (fun c5 => ?_) (fun c5 => ?_)
    · skip
      replace h := h.1 c5
      refine zV_iconst (pc := 75) dX7_joined_75 ?_
      exact zV_iret (pc := 76) rfl dX7_joined_76 (inRd rfl) h
    · skip
      replace h := h.2 c5
      refine zV_iconst (pc := 71) dX7_joined_71 ?_
      refine zV_goto (pc := 72) (tgt := 76) dX7_joined_72 (by decide) ?_
      exact zV_iret (pc := 76) rfl dX7_joined_76 (inRd rfl) h
  · refine zV_tswIn (pc := 1) (tgt := 81) (v := 10) dX7_joined_1 c1 (inRd rfl) (by decide) (by decide) rfl (by decide) ?_
    replace h := h.2.2.2.2.1 c1
    refine zV_iload_n (pc := 81) dX7_joined_81 rfl 1 rfl ?_
    refine zV_iload_n (pc := 82) dX7_joined_82 rfl 2 rfl ?_
    refine zV_ior (pc := 83) dX7_joined_83 ?_
    exact zV_iret (pc := 84) rfl dX7_joined_84 (inR_zor _ _) h
  · refine zV_tswIn (pc := 1) (tgt := 77) (v := 11) dX7_joined_1 c1 (inRd rfl) (by decide) (by decide) rfl (by decide) ?_
    replace h := h.2.2.2.2.2.1 c1
    refine zV_iload_n (pc := 77) dX7_joined_77 rfl 1 rfl ?_
    refine zV_iload_n (pc := 78) dX7_joined_78 rfl 2 rfl ?_
    refine zV_iand (pc := 79) dX7_joined_79 ?_
    exact zV_iret (pc := 80) rfl dX7_joined_80 (inR_zand _ _) h
  · refine zV_tswOut (pc := 1) (tgt := 81) dX7_joined_1 hx0 c1 (by decide) ?_
    replace h := h.2.2.2.2.2.2 c1
    refine zV_iload_n (pc := 81) dX7_joined_81 rfl 1 rfl ?_
    refine zV_iload_n (pc := 82) dX7_joined_82 rfl 2 rfl ?_
    refine zV_ior (pc := 83) dX7_joined_83 ?_
    exact zV_iret (pc := 84) rfl dX7_joined_84 (inR_zor _ _) h

set_option maxRecDepth 100000 in
set_option maxHeartbeats 4000000 in
theorem vc_X7_listOpen_0 {K : zCx} {d : Nat} (pl1 : Int) (m0 : zM) {Q : Int → zM → Prop} (hpl1 : zPl pl1) (h : zok m0 → ∀ m1 : zM, m1 = sI m0 64 3 0 → zok m1 → (zV K mX7_listOpen (d + 2) 7 [(0, rr K 64), (1, rr K pl1), (2, .int (iz 0))] [] m1 Q)) : zV K mX7_listOpen (d + 2) 0 [(0, rr K 64), (1, rr K pl1)] [] m0 Q := by
  refine zV_ok (fun hm0 => ?_)
  replace h := h hm0
  refine zV_aloadr_n (pc := 0) dX7_listOpen_0 rfl 0 rfl ?_
  refine zV_iconst (pc := 1) dX7_listOpen_1 ?_
  refine zV_putI (pc := 2) (kz := 3) dX7_listOpen_2 zpX7_99 rfl rfl rfl (inRd rfl) rfl rfl ?_
  refine zV_mem (fun m1 e2 => zV_ok (fun hm1 => ?_))
  replace h := h m1 e2 hm1
  refine zV_iconst (pc := 5) dX7_listOpen_5 ?_
  refine zV_istore_n (pc := 6) (loc' := [(2, .int (iz 0)), (0, rr K 64), (1, rr K pl1)]) dX7_listOpen_6 rfl (by decide) rfl ?_
  exact zV_sub [1, 2, 0] rfl h
set_option maxRecDepth 100000 in
set_option maxHeartbeats 4000000 in
theorem vc_X7_listOpen_7 {K : zCx} {d : Nat} (x2 : Int) (pl1 : Int) (m0 : zM) {Q : Int → zM → Prop} (hx2 : inR x2) (hpl1 : zPl pl1) (h : zok m0 → ((m0.1 pl1 6) ≤ x2 → Q 0 m0) ∧ (¬ ((m0.1 pl1 6) ≤ x2) → (4 ≤ (m0.1 64 3) → Q 0 m0) ∧ (¬ (4 ≤ (m0.1 64 3)) → 0 ≤ x2 ∧ x2 < 10 ∧ (((¬ m0.1 (pl1 + 9 + x2) 11 = 0) → 0 ≤ (m0.1 64 3) ∧ (m0.1 64 3) < 4 ∧ (∀ m10 : zM, m10 = sI m0 65 (m0.1 64 3) x2 → zok m10 → (inR ((m10.1 64 3) + 1) ∧ (∀ m13 : zM, m13 = sI m10 64 3 ((m10.1 64 3) + 1) → zok m13 → (zV K mX7_listOpen (d + 2) 7 [(0, rr K 64), (1, rr K pl1), (2, .int (iz (x2 + 1)))] [] m13 Q))))) ∧ (¬ ((¬ m0.1 (pl1 + 9 + x2) 11 = 0)) → zV K mX7_listOpen (d + 2) 7 [(0, rr K 64), (1, rr K pl1), (2, .int (iz (x2 + 1)))] [] m0 Q))))) : zV K mX7_listOpen (d + 2) 7 [(0, rr K 64), (1, rr K pl1), (2, .int (iz x2))] [] m0 Q := by
  refine zV_ok (fun hm0 => ?_)
  replace h := h hm0
  refine zV_iload_n (pc := 7) dX7_listOpen_7 rfl 2 rfl ?_
  refine zV_aloadr_n (pc := 8) dX7_listOpen_8 rfl 1 rfl ?_
  refine zV_getI (pc := 9) (kz := 6) dX7_listOpen_9 zfX7_102 (zPl_s0 hpl1) rfl rfl ?_
  refine zV_icmp_ge (pc := 12) (tgt := 61) dX7_listOpen_12 (by decide) hx2 (hm0 _ _) (fun c1 => ?_) (fun c1 => ?_)
  · skip
    replace h := h.1 c1
    exact zV_vret (pc := 61) rfl dX7_listOpen_61 h
  · skip
    replace h := h.2 c1
    refine zV_aloadr_n (pc := 15) dX7_listOpen_15 rfl 0 rfl ?_
    refine zV_getI (pc := 16) (kz := 3) dX7_listOpen_16 zfX7_99 rfl rfl rfl ?_
    refine zV_iconst (pc := 19) dX7_listOpen_19 ?_
    refine zV_icmp_ge (pc := 20) (tgt := 61) dX7_listOpen_20 (by decide) (hm0 _ _) (inRd rfl) (fun c2 => ?_) (fun c2 => ?_)
    · skip
      replace h := h.1 c2
      exact zV_vret (pc := 61) rfl dX7_listOpen_61 h
    · skip
      replace h := h.2 c2
      refine zV_aloadr_n (pc := 23) dX7_listOpen_23 rfl 1 rfl ?_
      refine zV_getR (pc := 24) dX7_listOpen_24 zfX7_105 (zPl_s0 hpl1) rfl (zPl_r0 hpl1) ?_
      refine zV_iload_n (pc := 27) dX7_listOpen_27 rfl 2 rfl ?_
      obtain ⟨o3, o4, h⟩ := h
      refine zV_aald (pc := 28) dX7_listOpen_28 (zPl_s1 hpl1) o3 o4 (inR_ix o3 o4 rfl) (zPl_p hpl1 o3 o4) ?_
      refine zV_callVf (pc := 29) (mc := mX3_isOpen) (As := []) (rest := []) dX7_listOpen_29 zcX7_109 ziX3_isOpen zsX3_isOpen (zPl_sp hpl1 o3 o4) rfl rfl rfl (Nat.le_of_ble_eq_true rfl) (c_X3_isOpen (zPl_sp hpl1 o3 o4) hm0) (fun hr5 => ?_)
      refine zV_if_eq (pc := 32) (tgt := 55) dX7_listOpen_32 (by decide) (inR_b2i _) (fun c7 => ?_) (fun c7 => ?_)
      · replace c7 := b2i_fp c7
        replace h := h.2 c7
        refine zV_iinc (pc := 55) (loc' := [(2, .int (iz (x2 + 1))), (0, rr K 64), (1, rr K pl1)]) dX7_listOpen_55 2 rfl (by decide) rfl ?_
        refine zV_goto (pc := 58) (tgt := 7) dX7_listOpen_58 (by decide) ?_
        exact zV_sub [1, 2, 0] rfl h
      · replace c7 := b2i_tp c7
        replace h := h.1 c7
        refine zV_aloadr_n (pc := 35) dX7_listOpen_35 rfl 0 rfl ?_
        refine zV_getR (pc := 36) (b := 65) dX7_listOpen_36 zfX7_9 rfl rfl rfl ?_
        refine zV_aloadr_n (pc := 39) dX7_listOpen_39 rfl 0 rfl ?_
        refine zV_getI (pc := 40) (kz := 3) dX7_listOpen_40 zfX7_99 rfl rfl rfl ?_
        refine zV_iload_n (pc := 43) dX7_listOpen_43 rfl 2 rfl ?_
        obtain ⟨o8, o9, h⟩ := h
        refine zV_iast (pc := 44) dX7_listOpen_44 rfl o8 o9 (inR_ix o8 o9 rfl) hx2 ?_
        refine zV_mem (fun m10 e11 => zV_ok (fun hm10 => ?_))
        replace h := h m10 e11 hm10
        refine zV_aloadr_n (pc := 45) dX7_listOpen_45 rfl 0 rfl ?_
        refine zV_dup (pc := 46) dX7_listOpen_46 rfl ?_
        refine zV_getI (pc := 47) (kz := 3) dX7_listOpen_47 zfX7_99 rfl rfl rfl ?_
        refine zV_iconst (pc := 50) dX7_listOpen_50 ?_
        refine zV_iadd (pc := 51) dX7_listOpen_51 ?_
        obtain ⟨o12, h⟩ := h
        refine zV_putI (pc := 52) (kz := 3) dX7_listOpen_52 zpX7_99 rfl rfl rfl o12 rfl rfl ?_
        refine zV_mem (fun m13 e14 => zV_ok (fun hm13 => ?_))
        replace h := h m13 e14 hm13
        refine zV_iinc (pc := 55) (loc' := [(2, .int (iz (x2 + 1))), (0, rr K 64), (1, rr K pl1)]) dX7_listOpen_55 2 rfl (by decide) rfl ?_
        refine zV_goto (pc := 58) (tgt := 7) dX7_listOpen_58 (by decide) ?_
        exact zV_sub [1, 2, 0] rfl h

set_option maxRecDepth 100000 in
set_option maxHeartbeats 4000000 in
theorem vc_X7_findSizing_0 {K : zCx} {d : Nat} (pl1 : Int) (m0 : zM) {Q : Int → zM → Prop} (hpl1 : zPl pl1) (h : zok m0 → zCt K (d + 6) mX7_listOpen [rr K 64, rr K pl1] m0 (fun r1 m2 => inR r1 → zok m2 → zCt K (d + 6) mX4_copyFrom [rr K 67, rr K pl1] m2 (fun r3 m4 => inR r3 → zok m4 → zV K mX7_findSizing (d + 7) 23 [(0, rr K 64), (1, rr K pl1), (2, .int (iz 1)), (3, .int (iz 0)), (4, .int (iz 0)), (5, .int (iz 0))] [] m4 Q))) : zV K mX7_findSizing (d + 7) 0 [(0, rr K 64), (1, rr K pl1)] [] m0 Q := by
  refine zV_ok (fun hm0 => ?_)
  replace h := h hm0
  refine zV_aloadr_n (pc := 0) dX7_findSizing_0 rfl 0 rfl ?_
  refine zV_aloadr_n (pc := 1) dX7_findSizing_1 rfl 1 rfl ?_
  refine zV_callV (pc := 2) (mc := mX7_listOpen) (As := [rr K pl1]) (rest := []) dX7_findSizing_2 zcX7_115 ziX7_listOpen zsX7_listOpen rfl rfl rfl rfl (Nat.le_of_ble_eq_true rfl) h (fun r1 m2 hr1 h => zV_ok (fun hm2 => ?_))
  replace h := h hr1 hm2
  refine zV_aloadr_n (pc := 5) dX7_findSizing_5 rfl 0 rfl ?_
  refine zV_getR (pc := 6) (b := 67) dX7_findSizing_6 zfX7_28 rfl rfl rfl ?_
  refine zV_aloadr_n (pc := 9) dX7_findSizing_9 rfl 1 rfl ?_
  refine zV_callV (pc := 10) (mc := mX4_copyFrom) (As := [rr K pl1]) (rest := []) dX7_findSizing_10 zcX7_119 ziX4_copyFrom zsX4_copyFrom rfl rfl rfl rfl (Nat.le_of_ble_eq_true rfl) h (fun r3 m4 hr3 h => zV_ok (fun hm4 => ?_))
  replace h := h hr3 hm4
  refine zV_iconst (pc := 13) dX7_findSizing_13 ?_
  refine zV_istore_n (pc := 14) (loc' := [(2, .int (iz 1)), (0, rr K 64), (1, rr K pl1)]) dX7_findSizing_14 rfl (by decide) rfl ?_
  refine zV_iconst (pc := 15) dX7_findSizing_15 ?_
  refine zV_istore_n (pc := 16) (loc' := [(3, .int (iz 0)), (2, .int (iz 1)), (0, rr K 64), (1, rr K pl1)]) dX7_findSizing_16 rfl (by decide) rfl ?_
  refine zV_iconst (pc := 17) dX7_findSizing_17 ?_
  refine zV_istore (pc := 18) (loc' := [(4, .int (iz 0)), (3, .int (iz 0)), (2, .int (iz 1)), (0, rr K 64), (1, rr K pl1)]) dX7_findSizing_18 (by decide) rfl ?_
  refine zV_iconst (pc := 20) dX7_findSizing_20 ?_
  refine zV_istore (pc := 21) (loc' := [(5, .int (iz 0)), (4, .int (iz 0)), (3, .int (iz 0)), (2, .int (iz 1)), (0, rr K 64), (1, rr K pl1)]) dX7_findSizing_21 (by decide) rfl ?_
  exact zV_sub [4, 5, 3, 2, 1, 0] rfl h
set_option maxRecDepth 100000 in
set_option maxHeartbeats 4000000 in
theorem vc_X7_findSizing_23 {K : zCx} {d : Nat} (x2 : Int) (x3 : Int) (x4 : Int) (x5 : Int) (pl1 : Int) (m0 : zM) {Q : Int → zM → Prop} (hx2 : inR x2) (hx3 : inR x3) (hx4 : inR x4) (hx5 : inR x5) (hpl1 : zPl pl1) (h : zok m0 → ((m0.1 64 3) ≤ x5 → zV K mX7_findSizing (d + 7) 89 [(0, rr K 64), (1, rr K pl1), (2, .int (iz x2)), (4, .int (iz x4)), (5, .int (iz x3))] [] m0 Q) ∧ (¬ ((m0.1 64 3) ≤ x5) → 0 ≤ x5 ∧ x5 < 4 ∧ (0 ≤ (m0.1 65 x5) ∧ (m0.1 65 x5) < 10 ∧ (∀ v6 : Int, v6 = (x2 * (((m0.1 (pl1 + 9 + (m0.1 65 x5)) 11) - (m0.1 (pl1 + 9 + (m0.1 65 x5)) 10)) + 1)) → (∀ v8 : Int, v8 = (x3 + (m0.1 (pl1 + 9 + (m0.1 65 x5)) 10)) → (∀ v10 : Int, v10 = (x4 + (m0.1 (pl1 + 9 + (m0.1 65 x5)) 11)) → (zV K mX7_findSizing (d + 7) 23 [(0, rr K 64), (1, rr K pl1), (2, .int (iz v6)), (3, .int (iz v8)), (4, .int (iz v10)), (5, .int (iz (x5 + 1)))] [] m0 Q))))))) : zV K mX7_findSizing (d + 7) 23 [(0, rr K 64), (1, rr K pl1), (2, .int (iz x2)), (3, .int (iz x3)), (4, .int (iz x4)), (5, .int (iz x5))] [] m0 Q := by
  refine zV_ok (fun hm0 => ?_)
  replace h := h hm0
  refine zV_iload (pc := 23) dX7_findSizing_23 5 rfl ?_
  refine zV_aloadr_n (pc := 25) dX7_findSizing_25 rfl 0 rfl ?_
  refine zV_getI (pc := 26) (kz := 3) dX7_findSizing_26 zfX7_99 rfl rfl rfl ?_
  refine zV_icmp_ge (pc := 29) (tgt := 86) dX7_findSizing_29 (by decide) hx5 (hm0 _ _) (fun c1 => ?_) (fun c1 => ?_)
  · skip
    replace h := h.1 c1
    refine zV_iload_n (pc := 86) dX7_findSizing_86 rfl 3 rfl ?_
    refine zV_istore (pc := 87) (loc' := [(5, .int (iz x3)), (0, rr K 64), (1, rr K pl1), (2, .int (iz x2)), (3, .int (iz x3)), (4, .int (iz x4))]) dX7_findSizing_87 (by decide) rfl ?_
    exact zV_sub [1, 2, 3, 5, 0] rfl h
  · skip
    replace h := h.2 c1
    refine zV_aloadr_n (pc := 32) dX7_findSizing_32 rfl 1 rfl ?_
    refine zV_getR (pc := 33) dX7_findSizing_33 zfX7_105 (zPl_s0 hpl1) rfl (zPl_r0 hpl1) ?_
    refine zV_aloadr_n (pc := 36) dX7_findSizing_36 rfl 0 rfl ?_
    refine zV_getR (pc := 37) (b := 65) dX7_findSizing_37 zfX7_9 rfl rfl rfl ?_
    refine zV_iload (pc := 40) dX7_findSizing_40 5 rfl ?_
    obtain ⟨o2, o3, h⟩ := h
    refine zV_iald (pc := 42) dX7_findSizing_42 rfl o2 o3 (inR_ix o2 o3 rfl) ?_
    obtain ⟨o4, o5, h⟩ := h
    refine zV_aald (pc := 43) dX7_findSizing_43 (zPl_s1 hpl1) o4 o5 (inR_ix o4 o5 rfl) (zPl_p hpl1 o4 o5) ?_
    refine zV_astorer (pc := 44) (loc' := [(6, rr K (pl1 + 9 + (m0.1 65 x5))), (0, rr K 64), (1, rr K pl1), (2, .int (iz x2)), (3, .int (iz x3)), (4, .int (iz x4)), (5, .int (iz x5))]) dX7_findSizing_44 (by decide) rfl ?_
    refine zV_iload_n (pc := 46) dX7_findSizing_46 rfl 3 rfl ?_
    refine zV_aloadr (pc := 47) dX7_findSizing_47 0 rfl ?_
    refine zV_getI (pc := 49) (kz := 11) dX7_findSizing_49 zfX7_122 (zPl_sp hpl1 o4 o5) rfl rfl ?_
    refine zV_aloadr (pc := 52) dX7_findSizing_52 0 rfl ?_
    refine zV_getI (pc := 54) (kz := 10) dX7_findSizing_54 zfX7_125 (zPl_sp hpl1 o4 o5) rfl rfl ?_
    refine zV_isub (pc := 57) dX7_findSizing_57 ?_
    refine zV_iconst (pc := 58) dX7_findSizing_58 ?_
    refine zV_iadd (pc := 59) dX7_findSizing_59 ?_
    refine zV_imul (pc := 60) dX7_findSizing_60 ?_
    refine zV_name (fun v6 e7 => ?_)
    replace h := h v6 e7
    refine zV_istore_n (pc := 61) (loc' := [(2, .int (iz v6)), (6, rr K (pl1 + 9 + (m0.1 65 x5))), (0, rr K 64), (1, rr K pl1), (3, .int (iz x3)), (4, .int (iz x4)), (5, .int (iz x5))]) dX7_findSizing_61 rfl (by decide) rfl ?_
    refine zV_iload_n (pc := 62) dX7_findSizing_62 rfl 4 rfl ?_
    refine zV_aloadr (pc := 63) dX7_findSizing_63 1 rfl ?_
    refine zV_getI (pc := 65) (kz := 10) dX7_findSizing_65 zfX7_125 (zPl_sp hpl1 o4 o5) rfl rfl ?_
    refine zV_iadd (pc := 68) dX7_findSizing_68 ?_
    refine zV_name (fun v8 e9 => ?_)
    replace h := h v8 e9
    refine zV_istore_n (pc := 69) (loc' := [(3, .int (iz v8)), (2, .int (iz v6)), (6, rr K (pl1 + 9 + (m0.1 65 x5))), (0, rr K 64), (1, rr K pl1), (4, .int (iz x4)), (5, .int (iz x5))]) dX7_findSizing_69 rfl (by decide) rfl ?_
    refine zV_iload (pc := 70) dX7_findSizing_70 5 rfl ?_
    refine zV_aloadr (pc := 72) dX7_findSizing_72 2 rfl ?_
    refine zV_getI (pc := 74) (kz := 11) dX7_findSizing_74 zfX7_122 (zPl_sp hpl1 o4 o5) rfl rfl ?_
    refine zV_iadd (pc := 77) dX7_findSizing_77 ?_
    refine zV_name (fun v10 e11 => ?_)
    replace h := h v10 e11
    refine zV_istore (pc := 78) (loc' := [(4, .int (iz v10)), (3, .int (iz v8)), (2, .int (iz v6)), (6, rr K (pl1 + 9 + (m0.1 65 x5))), (0, rr K 64), (1, rr K pl1), (5, .int (iz x5))]) dX7_findSizing_78 (by decide) rfl ?_
    refine zV_iinc (pc := 80) (loc' := [(5, .int (iz (x5 + 1))), (4, .int (iz v10)), (3, .int (iz v8)), (2, .int (iz v6)), (6, rr K (pl1 + 9 + (m0.1 65 x5))), (0, rr K 64), (1, rr K pl1)]) dX7_findSizing_80 6 rfl (by decide) rfl ?_
    refine zV_goto (pc := 83) (tgt := 23) dX7_findSizing_83 (by decide) ?_
    exact zV_sub [5, 6, 3, 2, 1, 0] rfl h
set_option maxRecDepth 100000 in
set_option maxHeartbeats 4000000 in
theorem vc_X7_findSizing_89 {K : zCx} {d : Nat} (x2 : Int) (x4 : Int) (x5 : Int) (pl1 : Int) (m0 : zM) {Q : Int → zM → Prop} (hx2 : inR x2) (hx4 : inR x4) (hx5 : inR x5) (hpl1 : zPl pl1) (h : zok m0 → (x4 < x5 → Q 0 m0) ∧ (¬ (x4 < x5) → zV K mX7_findSizing (d + 7) 99 [(0, rr K 64), (1, rr K pl1), (2, .int (iz x2)), (4, .int (iz x4)), (5, .int (iz x5)), (6, .int (iz 0))] [] m0 Q)) : zV K mX7_findSizing (d + 7) 89 [(0, rr K 64), (1, rr K pl1), (2, .int (iz x2)), (4, .int (iz x4)), (5, .int (iz x5))] [] m0 Q := by
  refine zV_ok (fun hm0 => ?_)
  replace h := h hm0
  refine zV_iload (pc := 89) dX7_findSizing_89 4 rfl ?_
  refine zV_iload (pc := 91) dX7_findSizing_91 3 rfl ?_
  refine zV_icmp_gt (pc := 93) (tgt := 194) dX7_findSizing_93 (by decide) hx5 hx4 (fun c1 => ?_) (fun c1 => ?_)
  · skip
    replace h := h.1 c1
    refine zV_iconst (pc := 194) dX7_findSizing_194 ?_
    exact zV_zret (pc := 195) rfl dX7_findSizing_195 (Or.inl rfl) h
  · skip
    replace h := h.2 c1
    refine zV_iconst (pc := 96) dX7_findSizing_96 ?_
    refine zV_istore (pc := 97) (loc' := [(6, .int (iz 0)), (0, rr K 64), (1, rr K pl1), (2, .int (iz x2)), (4, .int (iz x4)), (5, .int (iz x5))]) dX7_findSizing_97 (by decide) rfl ?_
    exact zV_sub [1, 2, 3, 4, 5, 0] rfl h
set_option maxRecDepth 100000 in
set_option maxHeartbeats 4000000 in
theorem vc_X7_findSizing_99 {K : zCx} {d : Nat} (x2 : Int) (x4 : Int) (x5 : Int) (x6 : Int) (pl1 : Int) (m0 : zM) {Q : Int → zM → Prop} (hx2 : inR x2) (hx4 : inR x4) (hx5 : inR x5) (hx6 : inR x6) (hpl1 : zPl pl1) (h : zok m0 → (x2 ≤ x6 → zV K mX7_findSizing (d + 7) 89 [(0, rr K 64), (1, rr K pl1), (2, .int (iz x2)), (4, .int (iz x4)), (5, .int (iz (x5 + 1)))] [] m0 Q) ∧ (¬ (x2 ≤ x6) → zCt K (d + 6) mX7_choose [rr K 64, rr K pl1, .int (iz x6)] m0 (fun r2 m3 => inR r2 → zok m3 → (r2 = x5 → zV K mX7_findSizing (d + 7) 123 [(0, rr K 64), (1, rr K pl1), (2, .int (iz x2)), (4, .int (iz x4)), (5, .int (iz x5)), (6, .int (iz x6)), (7, .int (iz 0))] [] m3 Q) ∧ (¬ (r2 = x5) → zV K mX7_findSizing (d + 7) 99 [(0, rr K 64), (1, rr K pl1), (2, .int (iz x2)), (4, .int (iz x4)), (5, .int (iz x5)), (6, .int (iz (x6 + 1)))] [] m3 Q)))) : zV K mX7_findSizing (d + 7) 99 [(0, rr K 64), (1, rr K pl1), (2, .int (iz x2)), (4, .int (iz x4)), (5, .int (iz x5)), (6, .int (iz x6))] [] m0 Q := by
  refine zV_ok (fun hm0 => ?_)
  replace h := h hm0
  refine zV_iload (pc := 99) dX7_findSizing_99 5 rfl ?_
  refine zV_iload_n (pc := 101) dX7_findSizing_101 rfl 2 rfl ?_
  refine zV_icmp_ge (pc := 102) (tgt := 188) dX7_findSizing_102 (by decide) hx6 hx2 (fun c1 => ?_) (fun c1 => ?_)
  · skip
    replace h := h.1 c1
    refine zV_iinc (pc := 188) (loc' := [(5, .int (iz (x5 + 1))), (0, rr K 64), (1, rr K pl1), (2, .int (iz x2)), (4, .int (iz x4)), (6, .int (iz x6))]) dX7_findSizing_188 4 rfl (by decide) rfl ?_
    refine zV_goto (pc := 191) (tgt := 89) dX7_findSizing_191 (by decide) ?_
    exact zV_sub [1, 2, 3, 4, 0] rfl h
  · skip
    replace h := h.2 c1
    refine zV_aloadr_n (pc := 105) dX7_findSizing_105 rfl 0 rfl ?_
    refine zV_aloadr_n (pc := 106) dX7_findSizing_106 rfl 1 rfl ?_
    refine zV_iload (pc := 107) dX7_findSizing_107 5 rfl ?_
    refine zV_callV (pc := 109) (mc := mX7_choose) (As := [rr K pl1, .int (iz x6)]) (rest := []) dX7_findSizing_109 zcX7_128 ziX7_choose zsX7_choose rfl rfl rfl rfl (Nat.le_of_ble_eq_true rfl) h (fun r2 m3 hr2 h => zV_ok (fun hm3 => ?_))
    replace h := h hr2 hm3
    refine zV_iload (pc := 112) dX7_findSizing_112 4 rfl ?_
    refine zV_icmp_eq (pc := 114) (tgt := 120) dX7_findSizing_114 (by decide) hr2 hx5 (fun c4 => ?_) (fun c4 => ?_)
    · skip
      replace h := h.1 c4
      refine zV_iconst (pc := 120) dX7_findSizing_120 ?_
      refine zV_istore (pc := 121) (loc' := [(7, .int (iz 0)), (0, rr K 64), (1, rr K pl1), (2, .int (iz x2)), (4, .int (iz x4)), (5, .int (iz x5)), (6, .int (iz x6))]) dX7_findSizing_121 (by decide) rfl ?_
      exact zV_sub [1, 2, 3, 4, 5, 6, 0] rfl h
    · skip
      replace h := h.2 c4
      refine zV_goto (pc := 117) (tgt := 182) dX7_findSizing_117 (by decide) ?_
      refine zV_iinc (pc := 182) (loc' := [(6, .int (iz (x6 + 1))), (0, rr K 64), (1, rr K pl1), (2, .int (iz x2)), (4, .int (iz x4)), (5, .int (iz x5))]) dX7_findSizing_182 5 rfl (by decide) rfl ?_
      refine zV_goto (pc := 185) (tgt := 99) dX7_findSizing_185 (by decide) ?_
      exact zV_sub [1, 2, 3, 4, 5, 0] rfl h
set_option maxRecDepth 100000 in
set_option maxHeartbeats 4000000 in
theorem vc_X7_findSizing_123 {K : zCx} {d : Nat} (x2 : Int) (x4 : Int) (x5 : Int) (x6 : Int) (x7 : Int) (pl1 : Int) (m0 : zM) {Q : Int → zM → Prop} (hx2 : inR x2) (hx4 : inR x4) (hx5 : inR x5) (hx6 : inR x6) (hx7 : inR x7) (hpl1 : zPl pl1) (h : zok m0 → ((m0.1 64 3) ≤ x7 → zCt K (d + 6) mX7_allMet [rr K 64, rr K 67] m0 (fun r2 m3 => inR r2 → zok m3 → (r2 = 0 → zV K mX7_findSizing (d + 7) 99 [(0, rr K 64), (1, rr K pl1), (2, .int (iz x2)), (4, .int (iz x4)), (5, .int (iz x5)), (6, .int (iz (x6 + 1)))] [] m3 Q) ∧ (¬ (r2 = 0) → ∀ m5 : zM, m5 = sI m3 64 4 x5 → zok m5 → (Q 1 m5)))) ∧ (¬ ((m0.1 64 3) ≤ x7) → 0 ≤ x7 ∧ x7 < 4 ∧ (0 ≤ (m0.1 65 x7) ∧ (m0.1 65 x7) < 10 ∧ (∀ m11 : zM, m11 = sI m0 (76 + (m0.1 65 x7)) 3 (m0.1 66 x7) → zok m11 → (zV K mX7_findSizing (d + 7) 123 [(0, rr K 64), (1, rr K pl1), (2, .int (iz x2)), (4, .int (iz x4)), (5, .int (iz x5)), (6, .int (iz x6)), (7, .int (iz (x7 + 1)))] [] m11 Q))))) : zV K mX7_findSizing (d + 7) 123 [(0, rr K 64), (1, rr K pl1), (2, .int (iz x2)), (4, .int (iz x4)), (5, .int (iz x5)), (6, .int (iz x6)), (7, .int (iz x7))] [] m0 Q := by
  refine zV_ok (fun hm0 => ?_)
  replace h := h hm0
  refine zV_iload (pc := 123) dX7_findSizing_123 6 rfl ?_
  refine zV_aloadr_n (pc := 125) dX7_findSizing_125 rfl 0 rfl ?_
  refine zV_getI (pc := 126) (kz := 3) dX7_findSizing_126 zfX7_99 rfl rfl rfl ?_
  refine zV_icmp_ge (pc := 129) (tgt := 163) dX7_findSizing_129 (by decide) hx7 (hm0 _ _) (fun c1 => ?_) (fun c1 => ?_)
  · skip
    replace h := h.1 c1
    refine zV_aloadr_n (pc := 163) dX7_findSizing_163 rfl 0 rfl ?_
    refine zV_aloadr_n (pc := 164) dX7_findSizing_164 rfl 0 rfl ?_
    refine zV_getR (pc := 165) (b := 67) dX7_findSizing_165 zfX7_28 rfl rfl rfl ?_
    refine zV_callV (pc := 168) (mc := mX7_allMet) (As := [rr K 67]) (rest := []) dX7_findSizing_168 zcX7_134 ziX7_allMet zsX7_allMet rfl rfl rfl rfl (Nat.le_of_ble_eq_true rfl) h (fun r2 m3 hr2 h => zV_ok (fun hm3 => ?_))
    replace h := h hr2 hm3
    refine zV_if_eq (pc := 171) (tgt := 182) dX7_findSizing_171 (by decide) hr2 (fun c4 => ?_) (fun c4 => ?_)
    · skip
      replace h := h.1 c4
      refine zV_iinc (pc := 182) (loc' := [(6, .int (iz (x6 + 1))), (0, rr K 64), (1, rr K pl1), (2, .int (iz x2)), (4, .int (iz x4)), (5, .int (iz x5)), (7, .int (iz x7))]) dX7_findSizing_182 5 rfl (by decide) rfl ?_
      refine zV_goto (pc := 185) (tgt := 99) dX7_findSizing_185 (by decide) ?_
      exact zV_sub [1, 2, 3, 4, 5, 0] rfl h
    · skip
      replace h := h.2 c4
      refine zV_aloadr_n (pc := 174) dX7_findSizing_174 rfl 0 rfl ?_
      refine zV_iload (pc := 175) dX7_findSizing_175 4 rfl ?_
      refine zV_putI (pc := 177) (kz := 4) dX7_findSizing_177 zpX7_138 rfl rfl rfl hx5 rfl rfl ?_
      refine zV_mem (fun m5 e6 => zV_ok (fun hm5 => ?_))
      replace h := h m5 e6 hm5
      refine zV_iconst (pc := 180) dX7_findSizing_180 ?_
      exact zV_zret (pc := 181) rfl dX7_findSizing_181 (Or.inr rfl) h
  · skip
    replace h := h.2 c1
    refine zV_aloadr_n (pc := 132) dX7_findSizing_132 rfl 0 rfl ?_
    refine zV_getR (pc := 133) (b := 67) dX7_findSizing_133 zfX7_28 rfl rfl rfl ?_
    refine zV_getR (pc := 136) (b := 68) dX7_findSizing_136 zfX7_105 rfl rfl rfl ?_
    refine zV_aloadr_n (pc := 139) dX7_findSizing_139 rfl 0 rfl ?_
    refine zV_getR (pc := 140) (b := 65) dX7_findSizing_140 zfX7_9 rfl rfl rfl ?_
    refine zV_iload (pc := 143) dX7_findSizing_143 6 rfl ?_
    obtain ⟨o7, o8, h⟩ := h
    refine zV_iald (pc := 145) dX7_findSizing_145 rfl o7 o8 (inR_ix o7 o8 rfl) ?_
    obtain ⟨o9, o10, h⟩ := h
    refine zV_aald (pc := 146) dX7_findSizing_146 rfl o9 o10 (inR_ix o9 o10 rfl) (zPn67_p o9 o10) ?_
    refine zV_aloadr_n (pc := 147) dX7_findSizing_147 rfl 0 rfl ?_
    refine zV_getR (pc := 148) (b := 66) dX7_findSizing_148 zfX7_15 rfl rfl rfl ?_
    refine zV_iload (pc := 151) dX7_findSizing_151 6 rfl ?_
    refine zV_iald (pc := 153) dX7_findSizing_153 rfl o7 o8 (inR_ix o7 o8 rfl) ?_
    refine zV_putI (pc := 154) (kz := 3) dX7_findSizing_154 zpX7_131 (zPn67_s o9 o10) rfl rfl (hm0 _ _) rfl rfl ?_
    refine zV_mem (fun m11 e12 => zV_ok (fun hm11 => ?_))
    replace h := h m11 e12 hm11
    refine zV_iinc (pc := 157) (loc' := [(7, .int (iz (x7 + 1))), (0, rr K 64), (1, rr K pl1), (2, .int (iz x2)), (4, .int (iz x4)), (5, .int (iz x5)), (6, .int (iz x6))]) dX7_findSizing_157 6 rfl (by decide) rfl ?_
    refine zV_goto (pc := 160) (tgt := 123) dX7_findSizing_160 (by decide) ?_
    exact zV_sub [1, 2, 3, 4, 5, 6, 0] rfl h

set_option maxRecDepth 100000 in
set_option maxHeartbeats 4000000 in
theorem vc_J6_numberOfTrailingZeros_0f7a4_0 {K : zCx} {d : Nat} (x0 : Int) (m0 : zM) {Q : Int → zM → Prop} (hx0 : inR x0) (h : zok m0 → ∀ v1 : Int, v1 = (zand (zxor x0 (-1)) (x0 - 1)) → ((0 < v1 → ∀ v4 : Int, v4 = (if v1 ≤ 65536 then 1 else (1 + 16)) → (∀ v6 : Int, v6 = (if v1 ≤ 65536 then v1 else (zushr v1 16)) → (∀ v8 : Int, v8 = (if v6 ≤ 256 then v4 else (v4 + 8)) → (∀ v10 : Int, v10 = (if v6 ≤ 256 then v6 else (zushr v6 8)) → (∀ v12 : Int, v12 = (if v10 ≤ 16 then v8 else (v8 + 4)) → (∀ v14 : Int, v14 = (if v10 ≤ 16 then v10 else (zushr v10 4)) → (∀ v16 : Int, v16 = (if v14 ≤ 4 then v12 else (v12 + 2)) → (∀ v18 : Int, v18 = (if v14 ≤ 4 then v14 else (zushr v14 2)) → (inR (v16 + (zushr v18 1)) ∧ (Q (v16 + (zushr v18 1)) m0)))))))))) ∧ (¬ (0 < v1) → Q (zand v1 32) m0))) : zV K mJ6_numberOfTrailingZeros_0f7a4 (d + 1) 0 [(0, .int (iz x0))] [] m0 Q := by
  refine zV_ok (fun hm0 => ?_)
  replace h := h hm0
  refine zV_iload_n (pc := 0) dJ6_numberOfTrailingZeros_0f7a4_0 rfl 0 rfl ?_
  refine zV_iconst (pc := 1) dJ6_numberOfTrailingZeros_0f7a4_1 ?_
  refine zV_ixor (pc := 2) dJ6_numberOfTrailingZeros_0f7a4_2 ?_
  refine zV_iload_n (pc := 3) dJ6_numberOfTrailingZeros_0f7a4_3 rfl 0 rfl ?_
  refine zV_iconst (pc := 4) dJ6_numberOfTrailingZeros_0f7a4_4 ?_
  refine zV_isub (pc := 5) dJ6_numberOfTrailingZeros_0f7a4_5 ?_
  refine zV_iand (pc := 6) dJ6_numberOfTrailingZeros_0f7a4_6 ?_
  refine zV_name (fun v1 e2 => ?_)
  replace h := h v1 e2
  have hrv1 : inR v1 := by rw [e2]; exact (inR_zand _ _)
  refine zV_istore_n (pc := 7) (loc' := [(0, .int (iz v1))]) dJ6_numberOfTrailingZeros_0f7a4_7 rfl (by decide) rfl ?_
  refine zV_iload_n (pc := 8) dJ6_numberOfTrailingZeros_0f7a4_8 rfl 0 rfl ?_
  refine zV_if_gt (pc := 9) (tgt := 17) dJ6_numberOfTrailingZeros_0f7a4_9 (by decide) hrv1 (fun c3 => ?_) (fun c3 => ?_)
  · skip
    replace h := h.1 c3
    refine zV_iconst (pc := 17) dJ6_numberOfTrailingZeros_0f7a4_17 ?_
    refine zV_istore_n (pc := 18) (loc' := [(1, .int (iz 1)), (0, .int (iz v1))]) dJ6_numberOfTrailingZeros_0f7a4_18 rfl (by decide) rfl ?_
    refine zV_iload_n (pc := 19) dJ6_numberOfTrailingZeros_0f7a4_19 rfl 1 rfl ?_
    refine zV_ldcw (pc := 20) (v := 65536) dJ6_numberOfTrailingZeros_0f7a4_20 (zmem 990 (by decide +kernel) (by decide +kernel)) ?_
    have key : ∀ v4 : Int, v4 = (if v1 ≤ 65536 then 1 else (1 + 16)) → ∀ v6 : Int, v6 = (if v1 ≤ 65536 then v1 else (zushr v1 16)) → zV K mJ6_numberOfTrailingZeros_0f7a4 (d + 1) 34 [(1, .int (iz v4)), (0, .int (iz v6))] [] m0 Q := by
      intro v4 e5 v6 e7
      replace h := h v4 e5 v6 e7
      have hrv6 : inR v6 := by rw [e7]; (repeat' split) <;> first | with_reducible exact hrv1 | with_reducible exact (inR_zushr _ _)
      refine zV_iload_n (pc := 34) dJ6_numberOfTrailingZeros_0f7a4_34 rfl 1 rfl ?_
      refine zV_sipush (pc := 35) dJ6_numberOfTrailingZeros_0f7a4_35 (by decide) ?_
      have key : ∀ v8 : Int, v8 = (if v6 ≤ 256 then v4 else (v4 + 8)) → ∀ v10 : Int, v10 = (if v6 ≤ 256 then v6 else (zushr v6 8)) → zV K mJ6_numberOfTrailingZeros_0f7a4 (d + 1) 49 [(1, .int (iz v8)), (0, .int (iz v10))] [] m0 Q := by
        intro v8 e9 v10 e11
        replace h := h v8 e9 v10 e11
        have hrv10 : inR v10 := by rw [e11]; (repeat' split) <;> first | with_reducible exact hrv6 | with_reducible exact (inR_zushr _ _)
        refine zV_iload_n (pc := 49) dJ6_numberOfTrailingZeros_0f7a4_49 rfl 1 rfl ?_
        refine zV_bipush (pc := 50) dJ6_numberOfTrailingZeros_0f7a4_50 (by decide) ?_
        have key : ∀ v12 : Int, v12 = (if v10 ≤ 16 then v8 else (v8 + 4)) → ∀ v14 : Int, v14 = (if v10 ≤ 16 then v10 else (zushr v10 4)) → zV K mJ6_numberOfTrailingZeros_0f7a4 (d + 1) 62 [(1, .int (iz v12)), (0, .int (iz v14))] [] m0 Q := by
          intro v12 e13 v14 e15
          replace h := h v12 e13 v14 e15
          have hrv14 : inR v14 := by rw [e15]; (repeat' split) <;> first | with_reducible exact hrv10 | with_reducible exact (inR_zushr _ _)
          refine zV_iload_n (pc := 62) dJ6_numberOfTrailingZeros_0f7a4_62 rfl 1 rfl ?_
          refine zV_iconst (pc := 63) dJ6_numberOfTrailingZeros_0f7a4_63 ?_
          have key : ∀ v16 : Int, v16 = (if v14 ≤ 4 then v12 else (v12 + 2)) → ∀ v18 : Int, v18 = (if v14 ≤ 4 then v14 else (zushr v14 2)) → zV K mJ6_numberOfTrailingZeros_0f7a4 (d + 1) 74 [(1, .int (iz v16)), (0, .int (iz v18))] [] m0 Q := by
            intro v16 e17 v18 e19
            replace h := h v16 e17 v18 e19
            have hrv18 : inR v18 := by rw [e19]; (repeat' split) <;> first | with_reducible exact hrv14 | with_reducible exact (inR_zushr _ _)
            refine zV_iload_n (pc := 74) dJ6_numberOfTrailingZeros_0f7a4_74 rfl 0 rfl ?_
            refine zV_iload_n (pc := 75) dJ6_numberOfTrailingZeros_0f7a4_75 rfl 1 rfl ?_
            refine zV_iconst (pc := 76) dJ6_numberOfTrailingZeros_0f7a4_76 ?_
            refine zV_iushr (pc := 77) dJ6_numberOfTrailingZeros_0f7a4_77 ?_
            refine zV_iadd (pc := 78) dJ6_numberOfTrailingZeros_0f7a4_78 ?_
            obtain ⟨o20, h⟩ := h
            exact zV_iret (pc := 79) rfl dJ6_numberOfTrailingZeros_0f7a4_79 o20 h
          refine zV_icmp_le (pc := 64) (tgt := 74) dJ6_numberOfTrailingZeros_0f7a4_64 (by decide) hrv14 (inRd rfl) (fun c21 => ?_) (fun c21 => ?_)
          · skip
            exact zV_sub [0, 1] rfl (key _ (if_pos c21).symm _ (if_pos c21).symm)
          · skip
            refine zV_iinc (pc := 67) (loc' := [(1, .int (iz (v12 + 2))), (0, .int (iz v14))]) dJ6_numberOfTrailingZeros_0f7a4_67 0 rfl (by decide) rfl ?_
            refine zV_iload_n (pc := 70) dJ6_numberOfTrailingZeros_0f7a4_70 rfl 1 rfl ?_
            refine zV_iconst (pc := 71) dJ6_numberOfTrailingZeros_0f7a4_71 ?_
            refine zV_iushr (pc := 72) dJ6_numberOfTrailingZeros_0f7a4_72 ?_
            refine zV_istore_n (pc := 73) (loc' := [(0, .int (iz (zushr v14 2))), (1, .int (iz (v12 + 2)))]) dJ6_numberOfTrailingZeros_0f7a4_73 rfl (by decide) rfl ?_
            exact zV_sub [1, 0] rfl (key _ (if_neg c21).symm _ (if_neg c21).symm)
        refine zV_icmp_le (pc := 52) (tgt := 62) dJ6_numberOfTrailingZeros_0f7a4_52 (by decide) hrv10 (inRd rfl) (fun c22 => ?_) (fun c22 => ?_)
        · skip
          exact zV_sub [0, 1] rfl (key _ (if_pos c22).symm _ (if_pos c22).symm)
        · skip
          refine zV_iinc (pc := 55) (loc' := [(1, .int (iz (v8 + 4))), (0, .int (iz v10))]) dJ6_numberOfTrailingZeros_0f7a4_55 0 rfl (by decide) rfl ?_
          refine zV_iload_n (pc := 58) dJ6_numberOfTrailingZeros_0f7a4_58 rfl 1 rfl ?_
          refine zV_iconst (pc := 59) dJ6_numberOfTrailingZeros_0f7a4_59 ?_
          refine zV_iushr (pc := 60) dJ6_numberOfTrailingZeros_0f7a4_60 ?_
          refine zV_istore_n (pc := 61) (loc' := [(0, .int (iz (zushr v10 4))), (1, .int (iz (v8 + 4)))]) dJ6_numberOfTrailingZeros_0f7a4_61 rfl (by decide) rfl ?_
          exact zV_sub [1, 0] rfl (key _ (if_neg c22).symm _ (if_neg c22).symm)
      refine zV_icmp_le (pc := 38) (tgt := 49) dJ6_numberOfTrailingZeros_0f7a4_38 (by decide) hrv6 (inRd rfl) (fun c23 => ?_) (fun c23 => ?_)
      · skip
        exact zV_sub [0, 1] rfl (key _ (if_pos c23).symm _ (if_pos c23).symm)
      · skip
        refine zV_iinc (pc := 41) (loc' := [(1, .int (iz (v4 + 8))), (0, .int (iz v6))]) dJ6_numberOfTrailingZeros_0f7a4_41 0 rfl (by decide) rfl ?_
        refine zV_iload_n (pc := 44) dJ6_numberOfTrailingZeros_0f7a4_44 rfl 1 rfl ?_
        refine zV_bipush (pc := 45) dJ6_numberOfTrailingZeros_0f7a4_45 (by decide) ?_
        refine zV_iushr (pc := 47) dJ6_numberOfTrailingZeros_0f7a4_47 ?_
        refine zV_istore_n (pc := 48) (loc' := [(0, .int (iz (zushr v6 8))), (1, .int (iz (v4 + 8)))]) dJ6_numberOfTrailingZeros_0f7a4_48 rfl (by decide) rfl ?_
        exact zV_sub [1, 0] rfl (key _ (if_neg c23).symm _ (if_neg c23).symm)
    refine zV_icmp_le (pc := 23) (tgt := 34) dJ6_numberOfTrailingZeros_0f7a4_23 (by decide) hrv1 (inRd rfl) (fun c24 => ?_) (fun c24 => ?_)
    · skip
      exact zV_sub [0, 1] rfl (key _ (if_pos c24).symm _ (if_pos c24).symm)
    · skip
      refine zV_iinc (pc := 26) (loc' := [(1, .int (iz (1 + 16))), (0, .int (iz v1))]) dJ6_numberOfTrailingZeros_0f7a4_26 0 rfl (by decide) rfl ?_
      refine zV_iload_n (pc := 29) dJ6_numberOfTrailingZeros_0f7a4_29 rfl 1 rfl ?_
      refine zV_bipush (pc := 30) dJ6_numberOfTrailingZeros_0f7a4_30 (by decide) ?_
      refine zV_iushr (pc := 32) dJ6_numberOfTrailingZeros_0f7a4_32 ?_
      refine zV_istore_n (pc := 33) (loc' := [(0, .int (iz (zushr v1 16))), (1, .int (iz (1 + 16)))]) dJ6_numberOfTrailingZeros_0f7a4_33 rfl (by decide) rfl ?_
      exact zV_sub [1, 0] rfl (key _ (if_neg c24).symm _ (if_neg c24).symm)
  · skip
    replace h := h.2 c3
    refine zV_iload_n (pc := 12) dJ6_numberOfTrailingZeros_0f7a4_12 rfl 0 rfl ?_
    refine zV_bipush (pc := 13) dJ6_numberOfTrailingZeros_0f7a4_13 (by decide) ?_
    refine zV_iand (pc := 15) dJ6_numberOfTrailingZeros_0f7a4_15 ?_
    exact zV_iret (pc := 16) rfl dJ6_numberOfTrailingZeros_0f7a4_16 (inR_zand _ _) h

set_option maxRecDepth 100000 in
set_option maxHeartbeats 4000000 in
theorem vc_J6_bitCount_0f7a4_0 {K : zCx} {d : Nat} (x0 : Int) (m0 : zM) {Q : Int → zM → Prop} (hx0 : inR x0) (h : zok m0 → ∀ v1 : Int, v1 = (x0 - (zand (zushr x0 1) 1431655765)) → (∀ v3 : Int, v3 = ((zand v1 858993459) + (zand (zushr v1 2) 858993459)) → (∀ v5 : Int, v5 = (zand (v3 + (zushr v3 4)) 252645135) → (∀ v7 : Int, v7 = (v5 + (zushr v5 8)) → (∀ v9 : Int, v9 = (v7 + (zushr v7 16)) → (Q (zand v9 63) m0)))))) : zV K mJ6_bitCount_0f7a4 (d + 1) 0 [(0, .int (iz x0))] [] m0 Q := by
  refine zV_ok (fun hm0 => ?_)
  replace h := h hm0
  refine zV_iload_n (pc := 0) dJ6_bitCount_0f7a4_0 rfl 0 rfl ?_
  refine zV_iload_n (pc := 1) dJ6_bitCount_0f7a4_1 rfl 0 rfl ?_
  refine zV_iconst (pc := 2) dJ6_bitCount_0f7a4_2 ?_
  refine zV_iushr (pc := 3) dJ6_bitCount_0f7a4_3 ?_
  refine zV_ldcw (pc := 4) (v := 1431655765) dJ6_bitCount_0f7a4_4 (zmem 1022 (by decide +kernel) (by decide +kernel)) ?_
  refine zV_iand (pc := 7) dJ6_bitCount_0f7a4_7 ?_
  refine zV_isub (pc := 8) dJ6_bitCount_0f7a4_8 ?_
  refine zV_name (fun v1 e2 => ?_)
  replace h := h v1 e2
  refine zV_istore_n (pc := 9) (loc' := [(0, .int (iz v1))]) dJ6_bitCount_0f7a4_9 rfl (by decide) rfl ?_
  refine zV_iload_n (pc := 10) dJ6_bitCount_0f7a4_10 rfl 0 rfl ?_
  refine zV_ldcw (pc := 11) (v := 858993459) dJ6_bitCount_0f7a4_11 (zmem 1023 (by decide +kernel) (by decide +kernel)) ?_
  refine zV_iand (pc := 14) dJ6_bitCount_0f7a4_14 ?_
  refine zV_iload_n (pc := 15) dJ6_bitCount_0f7a4_15 rfl 0 rfl ?_
  refine zV_iconst (pc := 16) dJ6_bitCount_0f7a4_16 ?_
  refine zV_iushr (pc := 17) dJ6_bitCount_0f7a4_17 ?_
  refine zV_ldcw (pc := 18) (v := 858993459) dJ6_bitCount_0f7a4_18 (zmem 1023 (by decide +kernel) (by decide +kernel)) ?_
  refine zV_iand (pc := 21) dJ6_bitCount_0f7a4_21 ?_
  refine zV_iadd (pc := 22) dJ6_bitCount_0f7a4_22 ?_
  refine zV_name (fun v3 e4 => ?_)
  replace h := h v3 e4
  refine zV_istore_n (pc := 23) (loc' := [(0, .int (iz v3))]) dJ6_bitCount_0f7a4_23 rfl (by decide) rfl ?_
  refine zV_iload_n (pc := 24) dJ6_bitCount_0f7a4_24 rfl 0 rfl ?_
  refine zV_iload_n (pc := 25) dJ6_bitCount_0f7a4_25 rfl 0 rfl ?_
  refine zV_iconst (pc := 26) dJ6_bitCount_0f7a4_26 ?_
  refine zV_iushr (pc := 27) dJ6_bitCount_0f7a4_27 ?_
  refine zV_iadd (pc := 28) dJ6_bitCount_0f7a4_28 ?_
  refine zV_ldcw (pc := 29) (v := 252645135) dJ6_bitCount_0f7a4_29 (zmem 1024 (by decide +kernel) (by decide +kernel)) ?_
  refine zV_iand (pc := 32) dJ6_bitCount_0f7a4_32 ?_
  refine zV_name (fun v5 e6 => ?_)
  replace h := h v5 e6
  have hrv5 : inR v5 := by rw [e6]; exact (inR_zand _ _)
  refine zV_istore_n (pc := 33) (loc' := [(0, .int (iz v5))]) dJ6_bitCount_0f7a4_33 rfl (by decide) rfl ?_
  refine zV_iload_n (pc := 34) dJ6_bitCount_0f7a4_34 rfl 0 rfl ?_
  refine zV_iload_n (pc := 35) dJ6_bitCount_0f7a4_35 rfl 0 rfl ?_
  refine zV_bipush (pc := 36) dJ6_bitCount_0f7a4_36 (by decide) ?_
  refine zV_iushr (pc := 38) dJ6_bitCount_0f7a4_38 ?_
  refine zV_iadd (pc := 39) dJ6_bitCount_0f7a4_39 ?_
  refine zV_name (fun v7 e8 => ?_)
  replace h := h v7 e8
  refine zV_istore_n (pc := 40) (loc' := [(0, .int (iz v7))]) dJ6_bitCount_0f7a4_40 rfl (by decide) rfl ?_
  refine zV_iload_n (pc := 41) dJ6_bitCount_0f7a4_41 rfl 0 rfl ?_
  refine zV_iload_n (pc := 42) dJ6_bitCount_0f7a4_42 rfl 0 rfl ?_
  refine zV_bipush (pc := 43) dJ6_bitCount_0f7a4_43 (by decide) ?_
  refine zV_iushr (pc := 45) dJ6_bitCount_0f7a4_45 ?_
  refine zV_iadd (pc := 46) dJ6_bitCount_0f7a4_46 ?_
  refine zV_name (fun v9 e10 => ?_)
  replace h := h v9 e10
  refine zV_istore_n (pc := 47) (loc' := [(0, .int (iz v9))]) dJ6_bitCount_0f7a4_47 rfl (by decide) rfl ?_
  refine zV_iload_n (pc := 48) dJ6_bitCount_0f7a4_48 rfl 0 rfl ?_
  refine zV_bipush (pc := 49) dJ6_bitCount_0f7a4_49 (by decide) ?_
  refine zV_iand (pc := 51) dJ6_bitCount_0f7a4_51 ?_
  exact zV_iret (pc := 52) rfl dJ6_bitCount_0f7a4_52 (inR_zand _ _) h

set_option maxRecDepth 100000 in
set_option maxHeartbeats 4000000 in
theorem vc_J9_floorMod_7cf53_0 {K : zCx} {d : Nat} (x0 : Int) (x1 : Int) (m0 : zM) {Q : Int → zM → Prop} (hx0 : inR x0) (hx1 : inR x1) (h : zok m0 → x1 ≠ 0 ∧ ¬ (x0 = -2147483648 ∧ x1 = -1) ∧ (∀ v3 : Int, v3 = (Int.tmod x0 x1) → ((0 ≤ (zxor x0 x1) → inR v3 ∧ (Q v3 m0)) ∧ (¬ (0 ≤ (zxor x0 x1)) → inR v3 ∧ ((v3 = 0 → Q v3 m0) ∧ (¬ (v3 = 0) → inR (v3 + x1) ∧ (Q (v3 + x1) m0))))))) : zV K mJ9_floorMod_7cf53 (d + 1) 0 [(0, .int (iz x0)), (1, .int (iz x1))] [] m0 Q := by
  refine zV_ok (fun hm0 => ?_)
  replace h := h hm0
  refine zV_iload_n (pc := 0) dJ9_floorMod_7cf53_0 rfl 0 rfl ?_
  refine zV_iload_n (pc := 1) dJ9_floorMod_7cf53_1 rfl 1 rfl ?_
  obtain ⟨o1, o2, h⟩ := h
  refine zV_irem (pc := 2) dJ9_floorMod_7cf53_2 hx0 hx1 o1 o2 ?_
  refine zV_name (fun v3 e4 => ?_)
  replace h := h v3 e4
  refine zV_istore_n (pc := 3) (loc' := [(2, .int (iz v3)), (0, .int (iz x0)), (1, .int (iz x1))]) dJ9_floorMod_7cf53_3 rfl (by decide) rfl ?_
  refine zV_iload_n (pc := 4) dJ9_floorMod_7cf53_4 rfl 1 rfl ?_
  refine zV_iload_n (pc := 5) dJ9_floorMod_7cf53_5 rfl 2 rfl ?_
  refine zV_ixor (pc := 6) dJ9_floorMod_7cf53_6 ?_
  refine zV_if_ge (pc := 7) (tgt := 18) dJ9_floorMod_7cf53_7 (by decide) (inR_zxor _ _) (fun c5 => ?_) (fun c5 => ?_)
  · skip
    replace h := h.1 c5
    refine zV_iload_n (pc := 18) dJ9_floorMod_7cf53_18 rfl 0 rfl ?_
    obtain ⟨o6, h⟩ := h
    exact zV_iret (pc := 19) rfl dJ9_floorMod_7cf53_19 o6 h
  · skip
    replace h := h.2 c5
    refine zV_iload_n (pc := 10) dJ9_floorMod_7cf53_10 rfl 0 rfl ?_
    obtain ⟨o7, h⟩ := h
    refine zV_if_eq (pc := 11) (tgt := 18) dJ9_floorMod_7cf53_11 (by decide) o7 (fun c8 => ?_) (fun c8 => ?_)
    · skip
      replace h := h.1 c8
      refine zV_iload_n (pc := 18) dJ9_floorMod_7cf53_18 rfl 0 rfl ?_
      exact zV_iret (pc := 19) rfl dJ9_floorMod_7cf53_19 o7 h
    · skip
      replace h := h.2 c8
      refine zV_iload_n (pc := 14) dJ9_floorMod_7cf53_14 rfl 0 rfl ?_
      refine zV_iload_n (pc := 15) dJ9_floorMod_7cf53_15 rfl 2 rfl ?_
      refine zV_iadd (pc := 16) dJ9_floorMod_7cf53_16 ?_
      obtain ⟨o9, h⟩ := h
      exact zV_iret (pc := 17) rfl dJ9_floorMod_7cf53_17 o9 h

set_option maxRecDepth 100000 in
set_option maxHeartbeats 4000000 in
theorem vc_J9_max_7cf53_0 {K : zCx} {d : Nat} (x0 : Int) (x1 : Int) (m0 : zM) {Q : Int → zM → Prop} (hx0 : inR x0) (hx1 : inR x1) (h : zok m0 → (x0 < x1 → Q x1 m0) ∧ (¬ (x0 < x1) → Q x0 m0)) : zV K mJ9_max_7cf53 (d + 1) 0 [(0, .int (iz x0)), (1, .int (iz x1))] [] m0 Q := by
  refine zV_ok (fun hm0 => ?_)
  replace h := h hm0
  refine zV_iload_n (pc := 0) dJ9_max_7cf53_0 rfl 0 rfl ?_
  refine zV_iload_n (pc := 1) dJ9_max_7cf53_1 rfl 1 rfl ?_
  refine zV_icmp_lt (pc := 2) (tgt := 9) dJ9_max_7cf53_2 (by decide) hx0 hx1 (fun c1 => ?_) (fun c1 => ?_)
  · skip
    replace h := h.1 c1
    refine zV_iload_n (pc := 9) dJ9_max_7cf53_9 rfl 1 rfl ?_
    exact zV_iret (pc := 10) rfl dJ9_max_7cf53_10 hx1 h
  · skip
    replace h := h.2 c1
    refine zV_iload_n (pc := 5) dJ9_max_7cf53_5 rfl 0 rfl ?_
    refine zV_goto (pc := 6) (tgt := 10) dJ9_max_7cf53_6 (by decide) ?_
    exact zV_iret (pc := 10) rfl dJ9_max_7cf53_10 hx0 h

set_option maxRecDepth 100000 in
set_option maxHeartbeats 4000000 in
theorem vc_J7_fill_d0a16_0 {K : zCx} {d : Nat} (a0 : Int) (n0 : Nat) (l1 : Int64) (m0 : zM) {Q : Int → zM → Prop} (ha0 : zsh a0 = some (1, n0)) (h : zok m0 → ∀ v1 : Int, v1 = (n0 : Int) → (zV K mJ7_fill_d0a16 (d + 1) 6 [(0, rr K a0), (1, .long l1), (3, .int (iz 0)), (4, .int (iz v1))] [] m0 Q)) : zV K mJ7_fill_d0a16 (d + 1) 0 [(0, rr K a0), (1, .long l1)] [] m0 Q := by
  refine zV_ok (fun hm0 => ?_)
  replace h := h hm0
  refine zV_iconst (pc := 0) dJ7_fill_d0a16_0 ?_
  refine zV_istore_n (pc := 1) (loc' := [(3, .int (iz 0)), (0, rr K a0), (1, .long l1)]) dJ7_fill_d0a16_1 rfl (by decide) rfl ?_
  refine zV_aloadr_n (pc := 2) dJ7_fill_d0a16_2 rfl 1 rfl ?_
  refine zV_alen (pc := 3) dJ7_fill_d0a16_3 ha0 (by decide) ?_
  refine zV_name (fun v1 e2 => ?_)
  replace h := h v1 e2
  refine zV_istore (pc := 4) (loc' := [(4, .int (iz v1)), (3, .int (iz 0)), (0, rr K a0), (1, .long l1)]) dJ7_fill_d0a16_4 (by decide) rfl ?_
  exact zV_sub [2, 3, 1, 0] rfl h
set_option maxRecDepth 100000 in
set_option maxHeartbeats 4000000 in
theorem vc_J7_fill_d0a16_6 {K : zCx} {d : Nat} (l1 : Int64) (x3 : Int) (x4 : Int) (a0 : Int) (n0 : Nat) (m0 : zM) {Q : Int → zM → Prop} (hx3 : inR x3) (hx4 : inR x4) (ha0 : zsh a0 = some (1, n0)) (h : zok m0 → (x4 ≤ x3 → Q 0 m0) ∧ (¬ (x4 ≤ x3) → 0 ≤ x3 ∧ x3 < (n0 : Int) ∧ (∀ m4 : zM, m4 = sL m0 a0 x3 l1 → zok m4 → (zV K mJ7_fill_d0a16 (d + 1) 6 [(0, rr K a0), (1, .long l1), (3, .int (iz (x3 + 1))), (4, .int (iz x4))] [] m4 Q)))) : zV K mJ7_fill_d0a16 (d + 1) 6 [(0, rr K a0), (1, .long l1), (3, .int (iz x3)), (4, .int (iz x4))] [] m0 Q := by
  refine zV_ok (fun hm0 => ?_)
  replace h := h hm0
  refine zV_iload_n (pc := 6) dJ7_fill_d0a16_6 rfl 2 rfl ?_
  refine zV_iload (pc := 7) dJ7_fill_d0a16_7 3 rfl ?_
  refine zV_icmp_ge (pc := 9) (tgt := 22) dJ7_fill_d0a16_9 (by decide) hx3 hx4 (fun c1 => ?_) (fun c1 => ?_)
  · skip
    replace h := h.1 c1
    exact zV_vret (pc := 22) rfl dJ7_fill_d0a16_22 h
  · skip
    replace h := h.2 c1
    refine zV_aloadr_n (pc := 12) dJ7_fill_d0a16_12 rfl 0 rfl ?_
    refine zV_iload_n (pc := 13) dJ7_fill_d0a16_13 rfl 2 rfl ?_
    refine zV_lload_n (pc := 14) dJ7_fill_d0a16_14 rfl 1 rfl ?_
    obtain ⟨o2, o3, h⟩ := h
    refine zV_last (pc := 15) dJ7_fill_d0a16_15 ha0 o2 o3 hx3 ?_
    refine zV_mem (fun m4 e5 => zV_ok (fun hm4 => ?_))
    replace h := h m4 e5 hm4
    refine zV_iinc (pc := 16) (loc' := [(3, .int (iz (x3 + 1))), (0, rr K a0), (1, .long l1), (4, .int (iz x4))]) dJ7_fill_d0a16_16 2 rfl (by decide) rfl ?_
    refine zV_goto (pc := 19) (tgt := 6) dJ7_fill_d0a16_19 (by decide) ?_
    exact zV_sub [1, 2, 0, 3] rfl h

set_option maxRecDepth 100000 in
set_option maxHeartbeats 4000000 in
theorem vc_J7_fill_53178_0 {K : zCx} {d : Nat} (a0 : Int) (n0 : Nat) (x1 : Int) (m0 : zM) {Q : Int → zM → Prop} (ha0 : zsh a0 = some (0, n0)) (hx1 : inR x1) (h : zok m0 → ∀ v1 : Int, v1 = (n0 : Int) → (zV K mJ7_fill_53178 (d + 1) 5 [(0, rr K a0), (1, .int (iz x1)), (2, .int (iz 0)), (3, .int (iz v1))] [] m0 Q)) : zV K mJ7_fill_53178 (d + 1) 0 [(0, rr K a0), (1, .int (iz x1))] [] m0 Q := by
  refine zV_ok (fun hm0 => ?_)
  replace h := h hm0
  refine zV_iconst (pc := 0) dJ7_fill_53178_0 ?_
  refine zV_istore_n (pc := 1) (loc' := [(2, .int (iz 0)), (0, rr K a0), (1, .int (iz x1))]) dJ7_fill_53178_1 rfl (by decide) rfl ?_
  refine zV_aloadr_n (pc := 2) dJ7_fill_53178_2 rfl 1 rfl ?_
  refine zV_alen (pc := 3) dJ7_fill_53178_3 ha0 (by decide) ?_
  refine zV_name (fun v1 e2 => ?_)
  replace h := h v1 e2
  refine zV_istore_n (pc := 4) (loc' := [(3, .int (iz v1)), (2, .int (iz 0)), (0, rr K a0), (1, .int (iz x1))]) dJ7_fill_53178_4 rfl (by decide) rfl ?_
  exact zV_sub [2, 3, 1, 0] rfl h
set_option maxRecDepth 100000 in
set_option maxHeartbeats 4000000 in
theorem vc_J7_fill_53178_5 {K : zCx} {d : Nat} (x1 : Int) (x2 : Int) (x3 : Int) (a0 : Int) (n0 : Nat) (m0 : zM) {Q : Int → zM → Prop} (hx1 : inR x1) (hx2 : inR x2) (hx3 : inR x3) (ha0 : zsh a0 = some (0, n0)) (h : zok m0 → (x3 ≤ x2 → Q 0 m0) ∧ (¬ (x3 ≤ x2) → 0 ≤ x2 ∧ x2 < (n0 : Int) ∧ (∀ m4 : zM, m4 = sI m0 a0 x2 x1 → zok m4 → (zV K mJ7_fill_53178 (d + 1) 5 [(0, rr K a0), (1, .int (iz x1)), (2, .int (iz (x2 + 1))), (3, .int (iz x3))] [] m4 Q)))) : zV K mJ7_fill_53178 (d + 1) 5 [(0, rr K a0), (1, .int (iz x1)), (2, .int (iz x2)), (3, .int (iz x3))] [] m0 Q := by
  refine zV_ok (fun hm0 => ?_)
  replace h := h hm0
  refine zV_iload_n (pc := 5) dJ7_fill_53178_5 rfl 2 rfl ?_
  refine zV_iload_n (pc := 6) dJ7_fill_53178_6 rfl 3 rfl ?_
  refine zV_icmp_ge (pc := 7) (tgt := 20) dJ7_fill_53178_7 (by decide) hx2 hx3 (fun c1 => ?_) (fun c1 => ?_)
  · skip
    replace h := h.1 c1
    exact zV_vret (pc := 20) rfl dJ7_fill_53178_20 h
  · skip
    replace h := h.2 c1
    refine zV_aloadr_n (pc := 10) dJ7_fill_53178_10 rfl 0 rfl ?_
    refine zV_iload_n (pc := 11) dJ7_fill_53178_11 rfl 2 rfl ?_
    refine zV_iload_n (pc := 12) dJ7_fill_53178_12 rfl 1 rfl ?_
    obtain ⟨o2, o3, h⟩ := h
    refine zV_iast (pc := 13) dJ7_fill_53178_13 ha0 o2 o3 hx2 hx1 ?_
    refine zV_mem (fun m4 e5 => zV_ok (fun hm4 => ?_))
    replace h := h m4 e5 hm4
    refine zV_iinc (pc := 14) (loc' := [(2, .int (iz (x2 + 1))), (0, rr K a0), (1, .int (iz x1)), (3, .int (iz x3))]) dJ7_fill_53178_14 2 rfl (by decide) rfl ?_
    refine zV_goto (pc := 17) (tgt := 5) dJ7_fill_53178_17 (by decide) ?_
    exact zV_sub [1, 2, 0, 3] rfl h
