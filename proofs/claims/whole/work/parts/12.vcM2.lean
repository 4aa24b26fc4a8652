set_option maxRecDepth 100000 in
set_option maxHeartbeats 4000000 in
theorem vc_X10_open_0 {K : zCx} {d : Nat} (x1 : Int) (x2 : Int) (x3 : Int) (m0 : zM) {Q : Int → zM → Prop} (hx1 : inR x1) (hx2 : inR x2) (hx3 : inR x3) (h : zok m0 → (0 ≤ m0.1 98 4) ∧ (((0 ≤ x1 ∧ x1 < m0.1 98 4) → (x3 = 0 → (x3 = 0 → ∀ v7 : Int, v7 = (if x3 = 0 then 0 else x2) → (0 ≤ (2 * x1) ∧ (2 * x1) < 20 ∧ (∀ m11 : zM, m11 = sI m0 101 (2 * x1) v7 → zok m11 → (0 ≤ ((2 * x1) + 1) ∧ ((2 * x1) + 1) < 20 ∧ (∀ m15 : zM, m15 = sI m11 101 ((2 * x1) + 1) x3 → zok m15 → (zCt K (d + 2) mX10_openMany [rr K 98] m15 (fun r17 m18 => inR r17 → zok m18 → Q r17 m18))))))) ∧ (¬ (x3 = 0) → 0 ≤ ((2 * x1) + 1) ∧ ((2 * x1) + 1) < 20 ∧ (((m0.1 101 ((2 * x1) + 1)) = 0 → zCt K (d + 2) mX10_openMany [rr K 98] m0 (fun r34 m35 => inR r34 → zok m35 → (r34 = 4 → Q (-2) m35) ∧ (¬ (r34 = 4) → ∀ v37 : Int, v37 = (if x3 = 0 then 0 else x2) → (0 ≤ (2 * x1) ∧ (2 * x1) < 20 ∧ (∀ m41 : zM, m41 = sI m35 101 (2 * x1) v37 → zok m41 → (∀ m43 : zM, m43 = sI m41 101 ((2 * x1) + 1) x3 → zok m43 → (zCt K (d + 2) mX10_openMany [rr K 98] m43 (fun r45 m46 => inR r45 → zok m46 → Q r45 m46)))))))) ∧ (¬ ((m0.1 101 ((2 * x1) + 1)) = 0) → ∀ v23 : Int, v23 = (if x3 = 0 then 0 else x2) → (0 ≤ (2 * x1) ∧ (2 * x1) < 20 ∧ (∀ m27 : zM, m27 = sI m0 101 (2 * x1) v23 → zok m27 → (∀ m29 : zM, m29 = sI m27 101 ((2 * x1) + 1) x3 → zok m29 → (zCt K (d + 2) mX10_openMany [rr K 98] m29 (fun r31 m32 => inR r31 → zok m32 → Q r31 m32))))))))) ∧ (¬ (x3 = 0) → ((1 ≤ x2 ∧ x2 ≤ 9) → ((x2 ≤ x3 ∧ x3 ≤ 9) → inR (x3 - x2) ∧ (((x3 - x2) ≤ 3 → (x3 = 0 → ∀ v57 : Int, v57 = (if x3 = 0 then 0 else x2) → (0 ≤ (2 * x1) ∧ (2 * x1) < 20 ∧ (∀ m61 : zM, m61 = sI m0 101 (2 * x1) v57 → zok m61 → (0 ≤ ((2 * x1) + 1) ∧ ((2 * x1) + 1) < 20 ∧ (∀ m65 : zM, m65 = sI m61 101 ((2 * x1) + 1) x3 → zok m65 → (zCt K (d + 2) mX10_openMany [rr K 98] m65 (fun r67 m68 => inR r67 → zok m68 → Q r67 m68))))))) ∧ (¬ (x3 = 0) → 0 ≤ ((2 * x1) + 1) ∧ ((2 * x1) + 1) < 20 ∧ (((m0.1 101 ((2 * x1) + 1)) = 0 → zCt K (d + 2) mX10_openMany [rr K 98] m0 (fun r84 m85 => inR r84 → zok m85 → (r84 = 4 → Q (-2) m85) ∧ (¬ (r84 = 4) → ∀ v87 : Int, v87 = (if x3 = 0 then 0 else x2) → (0 ≤ (2 * x1) ∧ (2 * x1) < 20 ∧ (∀ m91 : zM, m91 = sI m85 101 (2 * x1) v87 → zok m91 → (∀ m93 : zM, m93 = sI m91 101 ((2 * x1) + 1) x3 → zok m93 → (zCt K (d + 2) mX10_openMany [rr K 98] m93 (fun r95 m96 => inR r95 → zok m96 → Q r95 m96)))))))) ∧ (¬ ((m0.1 101 ((2 * x1) + 1)) = 0) → ∀ v73 : Int, v73 = (if x3 = 0 then 0 else x2) → (0 ≤ (2 * x1) ∧ (2 * x1) < 20 ∧ (∀ m77 : zM, m77 = sI m0 101 (2 * x1) v73 → zok m77 → (∀ m79 : zM, m79 = sI m77 101 ((2 * x1) + 1) x3 → zok m79 → (zCt K (d + 2) mX10_openMany [rr K 98] m79 (fun r81 m82 => inR r81 → zok m82 → Q r81 m82))))))))) ∧ (¬ ((x3 - x2) ≤ 3) → Q (-1) m0))) ∧ (¬ ((x2 ≤ x3 ∧ x3 ≤ 9)) → Q (-1) m0)) ∧ (¬ ((1 ≤ x2 ∧ x2 ≤ 9)) → Q (-1) m0))) ∧ (¬ ((0 ≤ x1 ∧ x1 < m0.1 98 4)) → Q (-1) m0))) : zV K mX10_open (d + 3) 0 [(0, rr K 98), (1, .int (iz x1)), (2, .int (iz x2)), (3, .int (iz x3))] [] m0 Q := by
  refine zV_ok (fun hm0 => ?_)
  replace h := h hm0
  refine zV_aloadr_n (pc := 0) dX10_open_0 rfl 0 rfl ?_
  refine zV_iload_n (pc := 1) dX10_open_1 rfl 1 rfl ?_
  obtain ⟨o1, h⟩ := h
  refine zV_callVf (pc := 2) (mc := mX10_isPart) (As := [.int (iz x1)]) (rest := []) dX10_open_2 zcX10_134 ziX10_isPart zsX10_isPart rfl rfl rfl rfl (Nat.le_of_ble_eq_true rfl) (c_X10_isPart hx1 hm0 o1) (fun hr2 => ?_)
  refine zV_if_eq (pc := 5) (tgt := 39) dX10_open_5 (by decide) (inR_b2i _) (fun c4 => ?_) (fun c4 => ?_)
  · replace c4 := b2i_fp c4
    replace h := h.2 c4
    refine zV_iconst (pc := 39) dX10_open_39 ?_
    exact zV_iret (pc := 40) rfl dX10_open_40 (inRd rfl) h
  · replace c4 := b2i_tp c4
    replace h := h.1 c4
    refine zV_iload_n (pc := 8) dX10_open_8 rfl 3 rfl ?_
    refine zV_if_eq (pc := 9) (tgt := 41) dX10_open_9 (by decide) hx3 (fun c5 => ?_) (fun c5 => ?_)
    · skip
      replace h := h.1 c5
      refine zV_iload_n (pc := 41) dX10_open_41 rfl 3 rfl ?_
      refine zV_if_eq (pc := 42) (tgt := 69) dX10_open_42 (by decide) hx3 (fun c6 => ?_) (fun c6 => ?_)
      · skip
        replace h := h.1 c6
        refine zV_aloadr_n (pc := 69) dX10_open_69 rfl 0 rfl ?_
        refine zV_getR (pc := 70) (b := 101) dX10_open_70 zfX10_20 rfl rfl rfl ?_
        refine zV_iconst (pc := 73) dX10_open_73 ?_
        refine zV_iload_n (pc := 74) dX10_open_74 rfl 1 rfl ?_
        refine zV_imul (pc := 75) dX10_open_75 ?_
        refine zV_iload_n (pc := 76) dX10_open_76 rfl 3 rfl ?_
        have key : ∀ v7 : Int, v7 = (if x3 = 0 then 0 else x2) → zV K mX10_open (d + 3) 85 [(0, rr K 98), (1, .int (iz x1)), (3, .int (iz x3))] [.int (iz v7), .int (iz (2 * x1)), rr K 101] m0 Q := by
          intro v7 e8
          replace h := h v7 e8
          have hrv7 : inR v7 := by rw [e8]; (repeat' split) <;> first | with_reducible exact hx2 | with_reducible exact (inRd rfl)
          obtain ⟨o9, o10, h⟩ := h
          refine zV_iast (pc := 85) dX10_open_85 rfl o9 o10 (inR_ix o9 o10 rfl) hrv7 ?_
          refine zV_mem (fun m11 e12 => zV_ok (fun hm11 => ?_))
          replace h := h m11 e12 hm11
          refine zV_aloadr_n (pc := 86) dX10_open_86 rfl 0 rfl ?_
          refine zV_getR (pc := 87) (b := 101) dX10_open_87 zfX10_20 rfl rfl rfl ?_
          refine zV_iconst (pc := 90) dX10_open_90 ?_
          refine zV_iload_n (pc := 91) dX10_open_91 rfl 1 rfl ?_
          refine zV_imul (pc := 92) dX10_open_92 ?_
          refine zV_iconst (pc := 93) dX10_open_93 ?_
          refine zV_iadd (pc := 94) dX10_open_94 ?_
          refine zV_iload_n (pc := 95) dX10_open_95 rfl 2 rfl ?_
          obtain ⟨o13, o14, h⟩ := h
          refine zV_iast (pc := 96) dX10_open_96 rfl o13 o14 (inR_ix o13 o14 rfl) hx3 ?_
          refine zV_mem (fun m15 e16 => zV_ok (fun hm15 => ?_))
          replace h := h m15 e16 hm15
          refine zV_aloadr_n (pc := 97) dX10_open_97 rfl 0 rfl ?_
          refine zV_callV (pc := 98) (mc := mX10_openMany) (As := []) (rest := []) dX10_open_98 zcX10_318 ziX10_openMany zsX10_openMany rfl rfl rfl rfl (Nat.le_of_ble_eq_true rfl) h (fun r17 m18 hr17 h => zV_ok (fun hm18 => ?_))
          replace h := h hr17 hm18
          exact zV_iret (pc := 101) rfl dX10_open_101 hr17 h
        refine zV_if_ne (pc := 77) (tgt := 84) dX10_open_77 (by decide) hx3 (fun c19 => ?_) (fun c19 => ?_)
        · skip
          refine zV_iload_n (pc := 84) dX10_open_84 rfl 2 rfl ?_
          exact zV_sub [0, 1, 3] rfl (key _ (if_neg c19).symm)
        · replace c19 := Classical.not_not.mp c19
          refine zV_iconst (pc := 80) dX10_open_80 ?_
          refine zV_goto (pc := 81) (tgt := 85) dX10_open_81 (by decide) ?_
          exact zV_sub [0, 1, 3] rfl (key _ (if_pos c19).symm)
      · skip
        replace h := h.2 c6
        refine zV_aloadr_n (pc := 45) dX10_open_45 rfl 0 rfl ?_
        refine zV_getR (pc := 46) (b := 101) dX10_open_46 zfX10_20 rfl rfl rfl ?_
        refine zV_iconst (pc := 49) dX10_open_49 ?_
        refine zV_iload_n (pc := 50) dX10_open_50 rfl 1 rfl ?_
        refine zV_imul (pc := 51) dX10_open_51 ?_
        refine zV_iconst (pc := 52) dX10_open_52 ?_
        refine zV_iadd (pc := 53) dX10_open_53 ?_
        obtain ⟨o20, o21, h⟩ := h
        refine zV_iald (pc := 54) dX10_open_54 rfl o20 o21 (inR_ix o20 o21 rfl) ?_
        refine zV_if_ne (pc := 55) (tgt := 69) dX10_open_55 (by decide) (hm0 _ _) (fun c22 => ?_) (fun c22 => ?_)
        · skip
          replace h := h.2 c22
          refine zV_aloadr_n (pc := 69) dX10_open_69 rfl 0 rfl ?_
          refine zV_getR (pc := 70) (b := 101) dX10_open_70 zfX10_20 rfl rfl rfl ?_
          refine zV_iconst (pc := 73) dX10_open_73 ?_
          refine zV_iload_n (pc := 74) dX10_open_74 rfl 1 rfl ?_
          refine zV_imul (pc := 75) dX10_open_75 ?_
          refine zV_iload_n (pc := 76) dX10_open_76 rfl 3 rfl ?_
          have key : ∀ v23 : Int, v23 = (if x3 = 0 then 0 else x2) → zV K mX10_open (d + 3) 85 [(0, rr K 98), (1, .int (iz x1)), (3, .int (iz x3))] [.int (iz v23), .int (iz (2 * x1)), rr K 101] m0 Q := by
            intro v23 e24
            replace h := h v23 e24
            have hrv23 : inR v23 := by rw [e24]; (repeat' split) <;> first | with_reducible exact hx2 | with_reducible exact (inRd rfl)
            obtain ⟨o25, o26, h⟩ := h
            refine zV_iast (pc := 85) dX10_open_85 rfl o25 o26 (inR_ix o25 o26 rfl) hrv23 ?_
            refine zV_mem (fun m27 e28 => zV_ok (fun hm27 => ?_))
            replace h := h m27 e28 hm27
            refine zV_aloadr_n (pc := 86) dX10_open_86 rfl 0 rfl ?_
            refine zV_getR (pc := 87) (b := 101) dX10_open_87 zfX10_20 rfl rfl rfl ?_
            refine zV_iconst (pc := 90) dX10_open_90 ?_
            refine zV_iload_n (pc := 91) dX10_open_91 rfl 1 rfl ?_
            refine zV_imul (pc := 92) dX10_open_92 ?_
            refine zV_iconst (pc := 93) dX10_open_93 ?_
            refine zV_iadd (pc := 94) dX10_open_94 ?_
            refine zV_iload_n (pc := 95) dX10_open_95 rfl 2 rfl ?_
            refine zV_iast (pc := 96) dX10_open_96 rfl o20 o21 (inR_ix o20 o21 rfl) hx3 ?_
            refine zV_mem (fun m29 e30 => zV_ok (fun hm29 => ?_))
            replace h := h m29 e30 hm29
            refine zV_aloadr_n (pc := 97) dX10_open_97 rfl 0 rfl ?_
            refine zV_callV (pc := 98) (mc := mX10_openMany) (As := []) (rest := []) dX10_open_98 zcX10_318 ziX10_openMany zsX10_openMany rfl rfl rfl rfl (Nat.le_of_ble_eq_true rfl) h (fun r31 m32 hr31 h => zV_ok (fun hm32 => ?_))
            replace h := h hr31 hm32
            exact zV_iret (pc := 101) rfl dX10_open_101 hr31 h
          refine zV_if_ne (pc := 77) (tgt := 84) dX10_open_77 (by decide) hx3 (fun c33 => ?_) (fun c33 => ?_)
          · skip
            refine zV_iload_n (pc := 84) dX10_open_84 rfl 2 rfl ?_
            exact zV_sub [0, 1, 3] rfl (key _ (if_neg c33).symm)
          · replace c33 := Classical.not_not.mp c33
            refine zV_iconst (pc := 80) dX10_open_80 ?_
            refine zV_goto (pc := 81) (tgt := 85) dX10_open_81 (by decide) ?_
            exact zV_sub [0, 1, 3] rfl (key _ (if_pos c33).symm)
        · replace c22 := Classical.not_not.mp c22
          replace h := h.1 c22
          refine zV_aloadr_n (pc := 58) dX10_open_58 rfl 0 rfl ?_
          refine zV_callV (pc := 59) (mc := mX10_openMany) (As := []) (rest := []) dX10_open_59 zcX10_318 ziX10_openMany zsX10_openMany rfl rfl rfl rfl (Nat.le_of_ble_eq_true rfl) h (fun r34 m35 hr34 h => zV_ok (fun hm35 => ?_))
          replace h := h hr34 hm35
          refine zV_iconst (pc := 62) dX10_open_62 ?_
          refine zV_icmp_ne (pc := 63) (tgt := 69) dX10_open_63 (by decide) hr34 (inRd rfl) (fun c36 => ?_) (fun c36 => ?_)
          · skip
            replace h := h.2 c36
            refine zV_aloadr_n (pc := 69) dX10_open_69 rfl 0 rfl ?_
            refine zV_getR (pc := 70) (b := 101) dX10_open_70 zfX10_20 rfl rfl rfl ?_
            refine zV_iconst (pc := 73) dX10_open_73 ?_
            refine zV_iload_n (pc := 74) dX10_open_74 rfl 1 rfl ?_
            refine zV_imul (pc := 75) dX10_open_75 ?_
            refine zV_iload_n (pc := 76) dX10_open_76 rfl 3 rfl ?_
            have key : ∀ v37 : Int, v37 = (if x3 = 0 then 0 else x2) → zV K mX10_open (d + 3) 85 [(0, rr K 98), (1, .int (iz x1)), (3, .int (iz x3))] [.int (iz v37), .int (iz (2 * x1)), rr K 101] m35 Q := by
              intro v37 e38
              replace h := h v37 e38
              have hrv37 : inR v37 := by rw [e38]; (repeat' split) <;> first | with_reducible exact hx2 | with_reducible exact (inRd rfl)
              obtain ⟨o39, o40, h⟩ := h
              refine zV_iast (pc := 85) dX10_open_85 rfl o39 o40 (inR_ix o39 o40 rfl) hrv37 ?_
              refine zV_mem (fun m41 e42 => zV_ok (fun hm41 => ?_))
              replace h := h m41 e42 hm41
              refine zV_aloadr_n (pc := 86) dX10_open_86 rfl 0 rfl ?_
              refine zV_getR (pc := 87) (b := 101) dX10_open_87 zfX10_20 rfl rfl rfl ?_
              refine zV_iconst (pc := 90) dX10_open_90 ?_
              refine zV_iload_n (pc := 91) dX10_open_91 rfl 1 rfl ?_
              refine zV_imul (pc := 92) dX10_open_92 ?_
              refine zV_iconst (pc := 93) dX10_open_93 ?_
              refine zV_iadd (pc := 94) dX10_open_94 ?_
              refine zV_iload_n (pc := 95) dX10_open_95 rfl 2 rfl ?_
              refine zV_iast (pc := 96) dX10_open_96 rfl o20 o21 (inR_ix o20 o21 rfl) hx3 ?_
              refine zV_mem (fun m43 e44 => zV_ok (fun hm43 => ?_))
              replace h := h m43 e44 hm43
              refine zV_aloadr_n (pc := 97) dX10_open_97 rfl 0 rfl ?_
              refine zV_callV (pc := 98) (mc := mX10_openMany) (As := []) (rest := []) dX10_open_98 zcX10_318 ziX10_openMany zsX10_openMany rfl rfl rfl rfl (Nat.le_of_ble_eq_true rfl) h (fun r45 m46 hr45 h => zV_ok (fun hm46 => ?_))
              replace h := h hr45 hm46
              exact zV_iret (pc := 101) rfl dX10_open_101 hr45 h
            refine zV_if_ne (pc := 77) (tgt := 84) dX10_open_77 (by decide) hx3 (fun c47 => ?_) (fun c47 => ?_)
            · skip
              refine zV_iload_n (pc := 84) dX10_open_84 rfl 2 rfl ?_
              exact zV_sub [0, 1, 3] rfl (key _ (if_neg c47).symm)
            · replace c47 := Classical.not_not.mp c47
              refine zV_iconst (pc := 80) dX10_open_80 ?_
              refine zV_goto (pc := 81) (tgt := 85) dX10_open_81 (by decide) ?_
              exact zV_sub [0, 1, 3] rfl (key _ (if_pos c47).symm)
          · replace c36 := Classical.not_not.mp c36
            replace h := h.1 c36
            refine zV_bipush (pc := 66) dX10_open_66 (by decide) ?_
            exact zV_iret (pc := 68) rfl dX10_open_68 (inRd rfl) h
    · skip
      replace h := h.2 c5
      refine zV_iload_n (pc := 12) dX10_open_12 rfl 2 rfl ?_
      refine zV_iconst (pc := 13) dX10_open_13 ?_
      refine zV_bipush (pc := 14) dX10_open_14 (by decide) ?_
      refine zV_callSf (pc := 16) (mc := mX10_in) (As := [.int (iz x2), .int (iz 1), .int (iz 9)]) (rest := []) dX10_open_16 zcX10_114 ztX10_in rfl rfl (Nat.le_of_ble_eq_true rfl) (c_X10_in hx2 (inRd rfl) (inRd rfl)) (fun hr48 => ?_)
      refine zV_if_eq (pc := 19) (tgt := 39) dX10_open_19 (by decide) (inR_b2i _) (fun c50 => ?_) (fun c50 => ?_)
      · replace c50 := b2i_fp c50
        replace h := h.2 c50
        refine zV_iconst (pc := 39) dX10_open_39 ?_
        exact zV_iret (pc := 40) rfl dX10_open_40 (inRd rfl) h
      · replace c50 := b2i_tp c50
        replace h := h.1 c50
        refine zV_iload_n (pc := 22) dX10_open_22 rfl 3 rfl ?_
        refine zV_iload_n (pc := 23) dX10_open_23 rfl 2 rfl ?_
        refine zV_bipush (pc := 24) dX10_open_24 (by decide) ?_
        refine zV_callSf (pc := 26) (mc := mX10_in) (As := [.int (iz x3), .int (iz x2), .int (iz 9)]) (rest := []) dX10_open_26 zcX10_114 ztX10_in rfl rfl (Nat.le_of_ble_eq_true rfl) (c_X10_in hx3 hx2 (inRd rfl)) (fun hr51 => ?_)
        refine zV_if_eq (pc := 29) (tgt := 39) dX10_open_29 (by decide) (inR_b2i _) (fun c53 => ?_) (fun c53 => ?_)
        · replace c53 := b2i_fp c53
          replace h := h.2 c53
          refine zV_iconst (pc := 39) dX10_open_39 ?_
          exact zV_iret (pc := 40) rfl dX10_open_40 (inRd rfl) h
        · replace c53 := b2i_tp c53
          replace h := h.1 c53
          refine zV_iload_n (pc := 32) dX10_open_32 rfl 3 rfl ?_
          refine zV_iload_n (pc := 33) dX10_open_33 rfl 2 rfl ?_
          refine zV_isub (pc := 34) dX10_open_34 ?_
          refine zV_iconst (pc := 35) dX10_open_35 ?_
          obtain ⟨o54, h⟩ := h
          refine zV_icmp_le (pc := 36) (tgt := 41) dX10_open_36 (by decide) o54 (inRd rfl) (fun c55 => ?_) (fun c55 => ?_)
          · skip
            replace h := h.1 c55
            refine zV_iload_n (pc := 41) dX10_open_41 rfl 3 rfl ?_
            refine zV_if_eq (pc := 42) (tgt := 69) dX10_open_42 (by decide) hx3 (fun c56 => ?_) (fun c56 => ?_)
            · skip
              replace h := h.1 c56
              refine zV_aloadr_n (pc := 69) dX10_open_69 rfl 0 rfl ?_
              refine zV_getR (pc := 70) (b := 101) dX10_open_70 zfX10_20 rfl rfl rfl ?_
              refine zV_iconst (pc := 73) dX10_open_73 ?_
              refine zV_iload_n (pc := 74) dX10_open_74 rfl 1 rfl ?_
              refine zV_imul (pc := 75) dX10_open_75 ?_
              refine zV_iload_n (pc := 76) dX10_open_76 rfl 3 rfl ?_
              have key : ∀ v57 : Int, v57 = (if x3 = 0 then 0 else x2) → zV K mX10_open (d + 3) 85 [(0, rr K 98), (1, .int (iz x1)), (3, .int (iz x3))] [.int (iz v57), .int (iz (2 * x1)), rr K 101] m0 Q := by
                intro v57 e58
                replace h := h v57 e58
                have hrv57 : inR v57 := by rw [e58]; (repeat' split) <;> first | with_reducible exact hx2 | with_reducible exact (inRd rfl)
                obtain ⟨o59, o60, h⟩ := h
                refine zV_iast (pc := 85) dX10_open_85 rfl o59 o60 (inR_ix o59 o60 rfl) hrv57 ?_
                refine zV_mem (fun m61 e62 => zV_ok (fun hm61 => ?_))
                replace h := h m61 e62 hm61
                refine zV_aloadr_n (pc := 86) dX10_open_86 rfl 0 rfl ?_
                refine zV_getR (pc := 87) (b := 101) dX10_open_87 zfX10_20 rfl rfl rfl ?_
                refine zV_iconst (pc := 90) dX10_open_90 ?_
                refine zV_iload_n (pc := 91) dX10_open_91 rfl 1 rfl ?_
                refine zV_imul (pc := 92) dX10_open_92 ?_
                refine zV_iconst (pc := 93) dX10_open_93 ?_
                refine zV_iadd (pc := 94) dX10_open_94 ?_
                refine zV_iload_n (pc := 95) dX10_open_95 rfl 2 rfl ?_
                obtain ⟨o63, o64, h⟩ := h
                refine zV_iast (pc := 96) dX10_open_96 rfl o63 o64 (inR_ix o63 o64 rfl) hx3 ?_
                refine zV_mem (fun m65 e66 => zV_ok (fun hm65 => ?_))
                replace h := h m65 e66 hm65
                refine zV_aloadr_n (pc := 97) dX10_open_97 rfl 0 rfl ?_
                refine zV_callV (pc := 98) (mc := mX10_openMany) (As := []) (rest := []) dX10_open_98 zcX10_318 ziX10_openMany zsX10_openMany rfl rfl rfl rfl (Nat.le_of_ble_eq_true rfl) h (fun r67 m68 hr67 h => zV_ok (fun hm68 => ?_))
                replace h := h hr67 hm68
                exact zV_iret (pc := 101) rfl dX10_open_101 hr67 h
              refine zV_if_ne (pc := 77) (tgt := 84) dX10_open_77 (by decide) hx3 (fun c69 => ?_) (fun c69 => ?_)
              · skip
                refine zV_iload_n (pc := 84) dX10_open_84 rfl 2 rfl ?_
                exact zV_sub [0, 1, 3] rfl (key _ (if_neg c69).symm)
              · replace c69 := Classical.not_not.mp c69
                refine zV_iconst (pc := 80) dX10_open_80 ?_
                refine zV_goto (pc := 81) (tgt := 85) dX10_open_81 (by decide) ?_
                exact zV_sub [0, 1, 3] rfl (key _ (if_pos c69).symm)
            · skip
              replace h := h.2 c56
              refine zV_aloadr_n (pc := 45) dX10_open_45 rfl 0 rfl ?_
              refine zV_getR (pc := 46) (b := 101) dX10_open_46 zfX10_20 rfl rfl rfl ?_
              refine zV_iconst (pc := 49) dX10_open_49 ?_
              refine zV_iload_n (pc := 50) dX10_open_50 rfl 1 rfl ?_
              refine zV_imul (pc := 51) dX10_open_51 ?_
              refine zV_iconst (pc := 52) dX10_open_52 ?_
              refine zV_iadd (pc := 53) dX10_open_53 ?_
              obtain ⟨o70, o71, h⟩ := h
              refine zV_iald (pc := 54) dX10_open_54 rfl o70 o71 (inR_ix o70 o71 rfl) ?_
              refine zV_if_ne (pc := 55) (tgt := 69) dX10_open_55 (by decide) (hm0 _ _) (fun c72 => ?_) (fun c72 => ?_)
              · skip
                replace h := h.2 c72
                refine zV_aloadr_n (pc := 69) dX10_open_69 rfl 0 rfl ?_
                refine zV_getR (pc := 70) (b := 101) dX10_open_70 zfX10_20 rfl rfl rfl ?_
                refine zV_iconst (pc := 73) dX10_open_73 ?_
                refine zV_iload_n (pc := 74) dX10_open_74 rfl 1 rfl ?_
                refine zV_imul (pc := 75) dX10_open_75 ?_
                refine zV_iload_n (pc := 76) dX10_open_76 rfl 3 rfl ?_
                have key : ∀ v73 : Int, v73 = (if x3 = 0 then 0 else x2) → zV K mX10_open (d + 3) 85 [(0, rr K 98), (1, .int (iz x1)), (3, .int (iz x3))] [.int (iz v73), .int (iz (2 * x1)), rr K 101] m0 Q := by
                  intro v73 e74
                  replace h := h v73 e74
                  have hrv73 : inR v73 := by rw [e74]; (repeat' split) <;> first | with_reducible exact hx2 | with_reducible exact (inRd rfl)
                  obtain ⟨o75, o76, h⟩ := h
                  refine zV_iast (pc := 85) dX10_open_85 rfl o75 o76 (inR_ix o75 o76 rfl) hrv73 ?_
                  refine zV_mem (fun m77 e78 => zV_ok (fun hm77 => ?_))
                  replace h := h m77 e78 hm77
                  refine zV_aloadr_n (pc := 86) dX10_open_86 rfl 0 rfl ?_
                  refine zV_getR (pc := 87) (b := 101) dX10_open_87 zfX10_20 rfl rfl rfl ?_
                  refine zV_iconst (pc := 90) dX10_open_90 ?_
                  refine zV_iload_n (pc := 91) dX10_open_91 rfl 1 rfl ?_
                  refine zV_imul (pc := 92) dX10_open_92 ?_
                  refine zV_iconst (pc := 93) dX10_open_93 ?_
                  refine zV_iadd (pc := 94) dX10_open_94 ?_
                  refine zV_iload_n (pc := 95) dX10_open_95 rfl 2 rfl ?_
                  refine zV_iast (pc := 96) dX10_open_96 rfl o70 o71 (inR_ix o70 o71 rfl) hx3 ?_
                  refine zV_mem (fun m79 e80 => zV_ok (fun hm79 => ?_))
                  replace h := h m79 e80 hm79
                  refine zV_aloadr_n (pc := 97) dX10_open_97 rfl 0 rfl ?_
                  refine zV_callV (pc := 98) (mc := mX10_openMany) (As := []) (rest := []) dX10_open_98 zcX10_318 ziX10_openMany zsX10_openMany rfl rfl rfl rfl (Nat.le_of_ble_eq_true rfl) h (fun r81 m82 hr81 h => zV_ok (fun hm82 => ?_))
                  replace h := h hr81 hm82
                  exact zV_iret (pc := 101) rfl dX10_open_101 hr81 h
                refine zV_if_ne (pc := 77) (tgt := 84) dX10_open_77 (by decide) hx3 (fun c83 => ?_) (fun c83 => ?_)
                · skip
                  refine zV_iload_n (pc := 84) dX10_open_84 rfl 2 rfl ?_
                  exact zV_sub [0, 1, 3] rfl (key _ (if_neg c83).symm)
                · replace c83 := Classical.not_not.mp c83
                  refine zV_iconst (pc := 80) dX10_open_80 ?_
                  refine zV_goto (pc := 81) (tgt := 85) dX10_open_81 (by decide) ?_
                  exact zV_sub [0, 1, 3] rfl (key _ (if_pos c83).symm)
              · replace c72 := Classical.not_not.mp c72
                replace h := h.1 c72
                refine zV_aloadr_n (pc := 58) dX10_open_58 rfl 0 rfl ?_
                refine zV_callV (pc := 59) (mc := mX10_openMany) (As := []) (rest := []) dX10_open_59 zcX10_318 ziX10_openMany zsX10_openMany rfl rfl rfl rfl (Nat.le_of_ble_eq_true rfl) h (fun r84 m85 hr84 h => zV_ok (fun hm85 => ?_))
                replace h := h hr84 hm85
                refine zV_iconst (pc := 62) dX10_open_62 ?_
                refine zV_icmp_ne (pc := 63) (tgt := 69) dX10_open_63 (by decide) hr84 (inRd rfl) (fun c86 => ?_) (fun c86 => ?_)
                · skip
                  replace h := h.2 c86
                  refine zV_aloadr_n (pc := 69) dX10_open_69 rfl 0 rfl ?_
                  refine zV_getR (pc := 70) (b := 101) dX10_open_70 zfX10_20 rfl rfl rfl ?_
                  refine zV_iconst (pc := 73) dX10_open_73 ?_
                  refine zV_iload_n (pc := 74) dX10_open_74 rfl 1 rfl ?_
                  refine zV_imul (pc := 75) dX10_open_75 ?_
                  refine zV_iload_n (pc := 76) dX10_open_76 rfl 3 rfl ?_
                  have key : ∀ v87 : Int, v87 = (if x3 = 0 then 0 else x2) → zV K mX10_open (d + 3) 85 [(0, rr K 98), (1, .int (iz x1)), (3, .int (iz x3))] [.int (iz v87), .int (iz (2 * x1)), rr K 101] m85 Q := by
                    intro v87 e88
                    replace h := h v87 e88
                    have hrv87 : inR v87 := by rw [e88]; (repeat' split) <;> first | with_reducible exact hx2 | with_reducible exact (inRd rfl)
                    obtain ⟨o89, o90, h⟩ := h
                    refine zV_iast (pc := 85) dX10_open_85 rfl o89 o90 (inR_ix o89 o90 rfl) hrv87 ?_
                    refine zV_mem (fun m91 e92 => zV_ok (fun hm91 => ?_))
                    replace h := h m91 e92 hm91
                    refine zV_aloadr_n (pc := 86) dX10_open_86 rfl 0 rfl ?_
                    refine zV_getR (pc := 87) (b := 101) dX10_open_87 zfX10_20 rfl rfl rfl ?_
                    refine zV_iconst (pc := 90) dX10_open_90 ?_
                    refine zV_iload_n (pc := 91) dX10_open_91 rfl 1 rfl ?_
                    refine zV_imul (pc := 92) dX10_open_92 ?_
                    refine zV_iconst (pc := 93) dX10_open_93 ?_
                    refine zV_iadd (pc := 94) dX10_open_94 ?_
                    refine zV_iload_n (pc := 95) dX10_open_95 rfl 2 rfl ?_
                    refine zV_iast (pc := 96) dX10_open_96 rfl o70 o71 (inR_ix o70 o71 rfl) hx3 ?_
                    refine zV_mem (fun m93 e94 => zV_ok (fun hm93 => ?_))
                    replace h := h m93 e94 hm93
                    refine zV_aloadr_n (pc := 97) dX10_open_97 rfl 0 rfl ?_
                    refine zV_callV (pc := 98) (mc := mX10_openMany) (As := []) (rest := []) dX10_open_98 zcX10_318 ziX10_openMany zsX10_openMany rfl rfl rfl rfl (Nat.le_of_ble_eq_true rfl) h (fun r95 m96 hr95 h => zV_ok (fun hm96 => ?_))
                    replace h := h hr95 hm96
                    exact zV_iret (pc := 101) rfl dX10_open_101 hr95 h
                  refine zV_if_ne (pc := 77) (tgt := 84) dX10_open_77 (by decide) hx3 (fun c97 => ?_) (fun c97 => ?_)
                  · skip
                    refine zV_iload_n (pc := 84) dX10_open_84 rfl 2 rfl ?_
                    exact zV_sub [0, 1, 3] rfl (key _ (if_neg c97).symm)
                  · replace c97 := Classical.not_not.mp c97
                    refine zV_iconst (pc := 80) dX10_open_80 ?_
                    refine zV_goto (pc := 81) (tgt := 85) dX10_open_81 (by decide) ?_
                    exact zV_sub [0, 1, 3] rfl (key _ (if_pos c97).symm)
                · replace c86 := Classical.not_not.mp c86
                  replace h := h.1 c86
                  refine zV_bipush (pc := 66) dX10_open_66 (by decide) ?_
                  exact zV_iret (pc := 68) rfl dX10_open_68 (inRd rfl) h
          · skip
            replace h := h.2 c55
            refine zV_iconst (pc := 39) dX10_open_39 ?_
            exact zV_iret (pc := 40) rfl dX10_open_40 (inRd rfl) h

set_option maxRecDepth 100000 in
set_option maxHeartbeats 4000000 in
theorem vc_X10_setSizes_0 {K : zCx} {d : Nat} (a1 : Int) (n1 : Nat) (m0 : zM) {Q : Int → zM → Prop} (ha1 : zsh a1 = some (0, n1)) (h : zok m0 → zV K mX10_setSizes (d + 1) 2 [(0, rr K 98), (1, rr K a1), (2, .int (iz 0))] [] m0 Q) : zV K mX10_setSizes (d + 1) 0 [(0, rr K 98), (1, rr K a1)] [] m0 Q := by
  refine zV_ok (fun hm0 => ?_)
  replace h := h hm0
  refine zV_iconst (pc := 0) dX10_setSizes_0 ?_
  refine zV_istore_n (pc := 1) (loc' := [(2, .int (iz 0)), (0, rr K 98), (1, rr K a1)]) dX10_setSizes_1 rfl (by decide) rfl ?_
  exact zV_sub [1, 2, 0] rfl h
set_option maxRecDepth 100000 in
set_option maxHeartbeats 4000000 in
theorem vc_X10_setSizes_2 {K : zCx} {d : Nat} (x2 : Int) (a1 : Int) (n1 : Nat) (m0 : zM) {Q : Int → zM → Prop} (hx2 : inR x2) (ha1 : zsh a1 = some (0, n1)) (h : zok m0 → ((m0.1 98 39) ≤ x2 → Q 0 m0) ∧ (¬ ((m0.1 98 39) ≤ x2) → 0 ≤ x2 ∧ x2 < 4 ∧ (0 ≤ x2 ∧ x2 < (n1 : Int) ∧ (0 ≤ ((10 * (m0.1 116 x2)) + 3) ∧ ((10 * (m0.1 116 x2)) + 3) < 100 ∧ (∀ m8 : zM, m8 = sI m0 100 ((10 * (m0.1 116 x2)) + 3) (m0.1 a1 x2) → zok m8 → (zV K mX10_setSizes (d + 1) 2 [(0, rr K 98), (1, rr K a1), (2, .int (iz (x2 + 1)))] [] m8 Q)))))) : zV K mX10_setSizes (d + 1) 2 [(0, rr K 98), (1, rr K a1), (2, .int (iz x2))] [] m0 Q := by
  refine zV_ok (fun hm0 => ?_)
  replace h := h hm0
  refine zV_iload_n (pc := 2) dX10_setSizes_2 rfl 2 rfl ?_
  refine zV_aloadr_n (pc := 3) dX10_setSizes_3 rfl 0 rfl ?_
  refine zV_getI (pc := 4) (kz := 39) dX10_setSizes_4 zfX10_321 rfl rfl rfl ?_
  refine zV_icmp_ge (pc := 7) (tgt := 35) dX10_setSizes_7 (by decide) hx2 (hm0 _ _) (fun c1 => ?_) (fun c1 => ?_)
  · skip
    replace h := h.1 c1
    exact zV_vret (pc := 35) rfl dX10_setSizes_35 h
  · skip
    replace h := h.2 c1
    refine zV_aloadr_n (pc := 10) dX10_setSizes_10 rfl 0 rfl ?_
    refine zV_getR (pc := 11) (b := 100) dX10_setSizes_11 zfX10_17 rfl rfl rfl ?_
    refine zV_bipush (pc := 14) dX10_setSizes_14 (by decide) ?_
    refine zV_aloadr_n (pc := 16) dX10_setSizes_16 rfl 0 rfl ?_
    refine zV_getR (pc := 17) (b := 116) dX10_setSizes_17 zfX10_65 rfl rfl rfl ?_
    refine zV_iload_n (pc := 20) dX10_setSizes_20 rfl 2 rfl ?_
    obtain ⟨o2, o3, h⟩ := h
    refine zV_iald (pc := 21) dX10_setSizes_21 rfl o2 o3 (inR_ix o2 o3 rfl) ?_
    refine zV_imul (pc := 22) dX10_setSizes_22 ?_
    refine zV_iconst (pc := 23) dX10_setSizes_23 ?_
    refine zV_iadd (pc := 24) dX10_setSizes_24 ?_
    refine zV_aloadr_n (pc := 25) dX10_setSizes_25 rfl 1 rfl ?_
    refine zV_iload_n (pc := 26) dX10_setSizes_26 rfl 2 rfl ?_
    obtain ⟨o4, o5, h⟩ := h
    refine zV_iald (pc := 27) dX10_setSizes_27 ha1 o4 o5 hx2 ?_
    obtain ⟨o6, o7, h⟩ := h
    refine zV_iast (pc := 28) dX10_setSizes_28 rfl o6 o7 (inR_ix o6 o7 rfl) (hm0 _ _) ?_
    refine zV_mem (fun m8 e9 => zV_ok (fun hm8 => ?_))
    replace h := h m8 e9 hm8
    refine zV_iinc (pc := 29) (loc' := [(2, .int (iz (x2 + 1))), (0, rr K 98), (1, rr K a1)]) dX10_setSizes_29 2 rfl (by decide) rfl ?_
    refine zV_goto (pc := 32) (tgt := 2) dX10_setSizes_32 (by decide) ?_
    exact zV_sub [1, 2, 0] rfl h

set_option maxRecDepth 100000 in
set_option maxHeartbeats 4000000 in
theorem vc_X10_gather_0 {K : zCx} {d : Nat}  (m0 : zM) {Q : Int → zM → Prop}  (h : zok m0 → ∀ m1 : zM, m1 = sI m0 98 39 0 → zok m1 → (zV K mX10_gather (d + 2) 7 [(0, rr K 98), (1, .int (iz 0))] [] m1 Q)) : zV K mX10_gather (d + 2) 0 [(0, rr K 98)] [] m0 Q := by
  refine zV_ok (fun hm0 => ?_)
  replace h := h hm0
  refine zV_aloadr_n (pc := 0) dX10_gather_0 rfl 0 rfl ?_
  refine zV_iconst (pc := 1) dX10_gather_1 ?_
  refine zV_putI (pc := 2) (kz := 39) dX10_gather_2 zpX10_321 rfl rfl rfl (inRd rfl) rfl rfl ?_
  refine zV_mem (fun m1 e2 => zV_ok (fun hm1 => ?_))
  replace h := h m1 e2 hm1
  refine zV_iconst (pc := 5) dX10_gather_5 ?_
  refine zV_istore_n (pc := 6) (loc' := [(1, .int (iz 0)), (0, rr K 98)]) dX10_gather_6 rfl (by decide) rfl ?_
  exact zV_sub [1, 0] rfl h
set_option maxRecDepth 100000 in
set_option maxHeartbeats 4000000 in
theorem vc_X10_gather_7 {K : zCx} {d : Nat} (x1 : Int) (m0 : zM) {Q : Int → zM → Prop} (hx1 : inR x1) (h : zok m0 → ((m0.1 98 4) ≤ x1 → Q 0 m0) ∧ (¬ ((m0.1 98 4) ≤ x1) → 0 ≤ ((2 * x1) + 1) ∧ ((2 * x1) + 1) < 20 ∧ (((m0.1 101 ((2 * x1) + 1)) ≤ 0 → zV K mX10_gather (d + 2) 7 [(0, rr K 98), (1, .int (iz (x1 + 1)))] [] m0 Q) ∧ (¬ ((m0.1 101 ((2 * x1) + 1)) ≤ 0) → 0 ≤ (m0.1 98 39) ∧ (m0.1 98 39) < 4 ∧ (∀ m7 : zM, m7 = sI m0 116 (m0.1 98 39) x1 → zok m7 → ((0 ≤ 10 * x1 + 3) ∧ ((10 * x1 + 3 < 100) ∧ (0 ≤ (m7.1 98 39) ∧ (m7.1 98 39) < 4 ∧ (∀ m15 : zM, m15 = sI m7 119 (m7.1 98 39) (m7.1 100 (10 * x1 + 3)) → zok m15 → (inR ((m15.1 98 39) + 1) ∧ (∀ m18 : zM, m18 = sI m15 98 39 ((m15.1 98 39) + 1) → zok m18 → (zV K mX10_gather (d + 2) 7 [(0, rr K 98), (1, .int (iz (x1 + 1)))] [] m18 Q)))))))))))) : zV K mX10_gather (d + 2) 7 [(0, rr K 98), (1, .int (iz x1))] [] m0 Q := by
  refine zV_ok (fun hm0 => ?_)
  replace h := h hm0
  refine zV_iload_n (pc := 7) dX10_gather_7 rfl 1 rfl ?_
  refine zV_aloadr_n (pc := 8) dX10_gather_8 rfl 0 rfl ?_
  refine zV_getI (pc := 9) (kz := 4) dX10_gather_9 zfX10_111 rfl rfl rfl ?_
  refine zV_icmp_ge (pc := 12) (tgt := 69) dX10_gather_12 (by decide) hx1 (hm0 _ _) (fun c1 => ?_) (fun c1 => ?_)
  · skip
    replace h := h.1 c1
    exact zV_vret (pc := 69) rfl dX10_gather_69 h
  · skip
    replace h := h.2 c1
    refine zV_aloadr_n (pc := 15) dX10_gather_15 rfl 0 rfl ?_
    refine zV_getR (pc := 16) (b := 101) dX10_gather_16 zfX10_20 rfl rfl rfl ?_
    refine zV_iconst (pc := 19) dX10_gather_19 ?_
    refine zV_iload_n (pc := 20) dX10_gather_20 rfl 1 rfl ?_
    refine zV_imul (pc := 21) dX10_gather_21 ?_
    refine zV_iconst (pc := 22) dX10_gather_22 ?_
    refine zV_iadd (pc := 23) dX10_gather_23 ?_
    obtain ⟨o2, o3, h⟩ := h
    refine zV_iald (pc := 24) dX10_gather_24 rfl o2 o3 (inR_ix o2 o3 rfl) ?_
    refine zV_if_le (pc := 25) (tgt := 63) dX10_gather_25 (by decide) (hm0 _ _) (fun c4 => ?_) (fun c4 => ?_)
    · skip
      replace h := h.1 c4
      refine zV_iinc (pc := 63) (loc' := [(1, .int (iz (x1 + 1))), (0, rr K 98)]) dX10_gather_63 1 rfl (by decide) rfl ?_
      refine zV_goto (pc := 66) (tgt := 7) dX10_gather_66 (by decide) ?_
      exact zV_sub [1, 0] rfl h
    · skip
      replace h := h.2 c4
      refine zV_aloadr_n (pc := 28) dX10_gather_28 rfl 0 rfl ?_
      refine zV_getR (pc := 29) (b := 116) dX10_gather_29 zfX10_65 rfl rfl rfl ?_
      refine zV_aloadr_n (pc := 32) dX10_gather_32 rfl 0 rfl ?_
      refine zV_getI (pc := 33) (kz := 39) dX10_gather_33 zfX10_321 rfl rfl rfl ?_
      refine zV_iload_n (pc := 36) dX10_gather_36 rfl 1 rfl ?_
      obtain ⟨o5, o6, h⟩ := h
      refine zV_iast (pc := 37) dX10_gather_37 rfl o5 o6 (inR_ix o5 o6 rfl) hx1 ?_
      refine zV_mem (fun m7 e8 => zV_ok (fun hm7 => ?_))
      replace h := h m7 e8 hm7
      refine zV_aloadr_n (pc := 38) dX10_gather_38 rfl 0 rfl ?_
      refine zV_getR (pc := 39) (b := 119) dX10_gather_39 zfX10_74 rfl rfl rfl ?_
      refine zV_aloadr_n (pc := 42) dX10_gather_42 rfl 0 rfl ?_
      refine zV_getI (pc := 43) (kz := 39) dX10_gather_43 zfX10_321 rfl rfl rfl ?_
      refine zV_aloadr_n (pc := 46) dX10_gather_46 rfl 0 rfl ?_
      refine zV_iload_n (pc := 47) dX10_gather_47 rfl 1 rfl ?_
      refine zV_iconst (pc := 48) dX10_gather_48 ?_
      obtain ⟨o9, h⟩ := h
      obtain ⟨o10, h⟩ := h
      refine zV_callVf (pc := 49) (mc := mX10_its) (As := [.int (iz x1), .int (iz 3)]) (rest := [.int (iz (m7.1 98 39)), rr K 119]) dX10_gather_49 zcX10_137 ziX10_its zsX10_its rfl rfl rfl rfl (Nat.le_of_ble_eq_true rfl) (c_X10_its (inRd rfl) hx1 hm7 o9 o10) (fun hr11 => ?_)
      obtain ⟨o13, o14, h⟩ := h
      refine zV_iast (pc := 52) dX10_gather_52 rfl o13 o14 (inR_ix o13 o14 rfl) hr11 ?_
      refine zV_mem (fun m15 e16 => zV_ok (fun hm15 => ?_))
      replace h := h m15 e16 hm15
      refine zV_aloadr_n (pc := 53) dX10_gather_53 rfl 0 rfl ?_
      refine zV_dup (pc := 54) dX10_gather_54 rfl ?_
      refine zV_getI (pc := 55) (kz := 39) dX10_gather_55 zfX10_321 rfl rfl rfl ?_
      refine zV_iconst (pc := 58) dX10_gather_58 ?_
      refine zV_iadd (pc := 59) dX10_gather_59 ?_
      obtain ⟨o17, h⟩ := h
      refine zV_putI (pc := 60) (kz := 39) dX10_gather_60 zpX10_321 rfl rfl rfl o17 rfl rfl ?_
      refine zV_mem (fun m18 e19 => zV_ok (fun hm18 => ?_))
      replace h := h m18 e19 hm18
      refine zV_iinc (pc := 63) (loc' := [(1, .int (iz (x1 + 1))), (0, rr K 98)]) dX10_gather_63 1 rfl (by decide) rfl ?_
      refine zV_goto (pc := 66) (tgt := 7) dX10_gather_66 (by decide) ?_
      exact zV_sub [1, 0] rfl h

set_option maxRecDepth 100000 in
set_option maxHeartbeats 4000000 in
theorem vc_X10_rises_0 {K : zCx} {d : Nat}  (m0 : zM) {Q : Int → zM → Prop}  (h : zok m0 → ∀ v1 : Int, v1 = ((m0.1 98 39) - 1) → (zV K mX10_rises (d + 1) 7 [(0, rr K 98), (1, .int (iz v1))] [] m0 Q)) : zV K mX10_rises (d + 1) 0 [(0, rr K 98)] [] m0 Q := by
  refine zV_ok (fun hm0 => ?_)
  replace h := h hm0
  refine zV_aloadr_n (pc := 0) dX10_rises_0 rfl 0 rfl ?_
  refine zV_getI (pc := 1) (kz := 39) dX10_rises_1 zfX10_321 rfl rfl rfl ?_
  refine zV_iconst (pc := 4) dX10_rises_4 ?_
  refine zV_isub (pc := 5) dX10_rises_5 ?_
  refine zV_name (fun v1 e2 => ?_)
  replace h := h v1 e2
  refine zV_istore_n (pc := 6) (loc' := [(1, .int (iz v1)), (0, rr K 98)]) dX10_rises_6 rfl (by decide) rfl ?_
  exact zV_sub [1, 0] rfl h
set_option maxRecDepth 100000 in
set_option maxHeartbeats 4000000 in
theorem vc_X10_rises_7 {K : zCx} {d : Nat} (x1 : Int) (m0 : zM) {Q : Int → zM → Prop} (hx1 : inR x1) (h : zok m0 → (x1 < 0 → (0 ≤ x1 → 0 ≤ x1 ∧ x1 < 4 ∧ (inR ((m0.1 117 x1) + 1) ∧ (∀ m6 : zM, m6 = sI m0 117 x1 ((m0.1 117 x1) + 1) → zok m6 → (Q 1 m6)))) ∧ (¬ (0 ≤ x1) → Q 0 m0)) ∧ (¬ (x1 < 0) → 0 ≤ x1 ∧ x1 < 4 ∧ (0 ≤ ((2 * (m0.1 116 x1)) + 1) ∧ ((2 * (m0.1 116 x1)) + 1) < 20 ∧ (((m0.1 117 x1) = (m0.1 101 ((2 * (m0.1 116 x1)) + 1)) → 0 ≤ (2 * (m0.1 116 x1)) ∧ (2 * (m0.1 116 x1)) < 20 ∧ (∀ m19 : zM, m19 = sI m0 117 x1 (m0.1 101 (2 * (m0.1 116 x1))) → zok m19 → (zV K mX10_rises (d + 1) 7 [(0, rr K 98), (1, .int (iz (x1 + (-1))))] [] m19 Q))) ∧ (¬ ((m0.1 117 x1) = (m0.1 101 ((2 * (m0.1 116 x1)) + 1))) → (0 ≤ x1 → inR ((m0.1 117 x1) + 1) ∧ (∀ m15 : zM, m15 = sI m0 117 x1 ((m0.1 117 x1) + 1) → zok m15 → (Q 1 m15))) ∧ (¬ (0 ≤ x1) → Q 0 m0)))))) : zV K mX10_rises (d + 1) 7 [(0, rr K 98), (1, .int (iz x1))] [] m0 Q := by
  refine zV_ok (fun hm0 => ?_)
  replace h := h hm0
  refine zV_iload_n (pc := 7) dX10_rises_7 rfl 1 rfl ?_
  refine zV_if_lt (pc := 8) (tgt := 60) dX10_rises_8 (by decide) hx1 (fun c1 => ?_) (fun c1 => ?_)
  · skip
    replace h := h.1 c1
    refine zV_iload_n (pc := 60) dX10_rises_60 rfl 1 rfl ?_
    refine zV_if_ge (pc := 61) (tgt := 66) dX10_rises_61 (by decide) hx1 (fun c2 => ?_) (fun c2 => ?_)
    · skip
      replace h := h.1 c2
      refine zV_aloadr_n (pc := 66) dX10_rises_66 rfl 0 rfl ?_
      refine zV_getR (pc := 67) (b := 117) dX10_rises_67 zfX10_68 rfl rfl rfl ?_
      refine zV_iload_n (pc := 70) dX10_rises_70 rfl 1 rfl ?_
      refine zV_dup2 (pc := 71) dX10_rises_71 rfl rfl ?_
      obtain ⟨o3, o4, h⟩ := h
      refine zV_iald (pc := 72) dX10_rises_72 rfl o3 o4 (inR_ix o3 o4 rfl) ?_
      refine zV_iconst (pc := 73) dX10_rises_73 ?_
      refine zV_iadd (pc := 74) dX10_rises_74 ?_
      obtain ⟨o5, h⟩ := h
      refine zV_iast (pc := 75) dX10_rises_75 rfl o3 o4 (inR_ix o3 o4 rfl) o5 ?_
      refine zV_mem (fun m6 e7 => zV_ok (fun hm6 => ?_))
      replace h := h m6 e7 hm6
      refine zV_iconst (pc := 76) dX10_rises_76 ?_
      exact zV_zret (pc := 77) rfl dX10_rises_77 (Or.inr rfl) h
    · skip
      replace h := h.2 c2
      refine zV_iconst (pc := 64) dX10_rises_64 ?_
      exact zV_zret (pc := 65) rfl dX10_rises_65 (Or.inl rfl) h
  · skip
    replace h := h.2 c1
    refine zV_aloadr_n (pc := 11) dX10_rises_11 rfl 0 rfl ?_
    refine zV_getR (pc := 12) (b := 117) dX10_rises_12 zfX10_68 rfl rfl rfl ?_
    refine zV_iload_n (pc := 15) dX10_rises_15 rfl 1 rfl ?_
    obtain ⟨o8, o9, h⟩ := h
    refine zV_iald (pc := 16) dX10_rises_16 rfl o8 o9 (inR_ix o8 o9 rfl) ?_
    refine zV_aloadr_n (pc := 17) dX10_rises_17 rfl 0 rfl ?_
    refine zV_getR (pc := 18) (b := 101) dX10_rises_18 zfX10_20 rfl rfl rfl ?_
    refine zV_iconst (pc := 21) dX10_rises_21 ?_
    refine zV_aloadr_n (pc := 22) dX10_rises_22 rfl 0 rfl ?_
    refine zV_getR (pc := 23) (b := 116) dX10_rises_23 zfX10_65 rfl rfl rfl ?_
    refine zV_iload_n (pc := 26) dX10_rises_26 rfl 1 rfl ?_
    refine zV_iald (pc := 27) dX10_rises_27 rfl o8 o9 (inR_ix o8 o9 rfl) ?_
    refine zV_imul (pc := 28) dX10_rises_28 ?_
    refine zV_iconst (pc := 29) dX10_rises_29 ?_
    refine zV_iadd (pc := 30) dX10_rises_30 ?_
    obtain ⟨o10, o11, h⟩ := h
    refine zV_iald (pc := 31) dX10_rises_31 rfl o10 o11 (inR_ix o10 o11 rfl) ?_
    refine zV_icmp_ne (pc := 32) (tgt := 60) dX10_rises_32 (by decide) (hm0 _ _) (hm0 _ _) (fun c12 => ?_) (fun c12 => ?_)
    · skip
      replace h := h.2 c12
      refine zV_iload_n (pc := 60) dX10_rises_60 rfl 1 rfl ?_
      refine zV_if_ge (pc := 61) (tgt := 66) dX10_rises_61 (by decide) hx1 (fun c13 => ?_) (fun c13 => ?_)
      · skip
        replace h := h.1 c13
        refine zV_aloadr_n (pc := 66) dX10_rises_66 rfl 0 rfl ?_
        refine zV_getR (pc := 67) (b := 117) dX10_rises_67 zfX10_68 rfl rfl rfl ?_
        refine zV_iload_n (pc := 70) dX10_rises_70 rfl 1 rfl ?_
        refine zV_dup2 (pc := 71) dX10_rises_71 rfl rfl ?_
        refine zV_iald (pc := 72) dX10_rises_72 rfl o8 o9 (inR_ix o8 o9 rfl) ?_
        refine zV_iconst (pc := 73) dX10_rises_73 ?_
        refine zV_iadd (pc := 74) dX10_rises_74 ?_
        obtain ⟨o14, h⟩ := h
        refine zV_iast (pc := 75) dX10_rises_75 rfl o8 o9 (inR_ix o8 o9 rfl) o14 ?_
        refine zV_mem (fun m15 e16 => zV_ok (fun hm15 => ?_))
        replace h := h m15 e16 hm15
        refine zV_iconst (pc := 76) dX10_rises_76 ?_
        exact zV_zret (pc := 77) rfl dX10_rises_77 (Or.inr rfl) h
      · skip
        replace h := h.2 c13
        refine zV_iconst (pc := 64) dX10_rises_64 ?_
        exact zV_zret (pc := 65) rfl dX10_rises_65 (Or.inl rfl) h
    · replace c12 := Classical.not_not.mp c12
      replace h := h.1 c12
      refine zV_aloadr_n (pc := 35) dX10_rises_35 rfl 0 rfl ?_
      refine zV_getR (pc := 36) (b := 117) dX10_rises_36 zfX10_68 rfl rfl rfl ?_
      refine zV_iload_n (pc := 39) dX10_rises_39 rfl 1 rfl ?_
      refine zV_aloadr_n (pc := 40) dX10_rises_40 rfl 0 rfl ?_
      refine zV_getR (pc := 41) (b := 101) dX10_rises_41 zfX10_20 rfl rfl rfl ?_
      refine zV_iconst (pc := 44) dX10_rises_44 ?_
      refine zV_aloadr_n (pc := 45) dX10_rises_45 rfl 0 rfl ?_
      refine zV_getR (pc := 46) (b := 116) dX10_rises_46 zfX10_65 rfl rfl rfl ?_
      refine zV_iload_n (pc := 49) dX10_rises_49 rfl 1 rfl ?_
      refine zV_iald (pc := 50) dX10_rises_50 rfl o8 o9 (inR_ix o8 o9 rfl) ?_
      refine zV_imul (pc := 51) dX10_rises_51 ?_
      obtain ⟨o17, o18, h⟩ := h
      refine zV_iald (pc := 52) dX10_rises_52 rfl o17 o18 (inR_ix o17 o18 rfl) ?_
      refine zV_iast (pc := 53) dX10_rises_53 rfl o8 o9 (inR_ix o8 o9 rfl) (hm0 _ _) ?_
      refine zV_mem (fun m19 e20 => zV_ok (fun hm19 => ?_))
      replace h := h m19 e20 hm19
      refine zV_iinc (pc := 54) (loc' := [(1, .int (iz (x1 + (-1)))), (0, rr K 98)]) dX10_rises_54 1 rfl (by decide) rfl ?_
      refine zV_goto (pc := 57) (tgt := 7) dX10_rises_57 (by decide) ?_
      exact zV_sub [1, 0] rfl h

set_option maxRecDepth 100000 in
set_option maxHeartbeats 4000000 in
theorem vc_X10_findSizing_0 {K : zCx} {d : Nat}  (m0 : zM) {Q : Int → zM → Prop}  (h : zok m0 → zCt K (d + 6) mX10_gather [rr K 98] m0 (fun r1 m2 => inR r1 → zok m2 → zV K mX10_findSizing (d + 7) 6 [(0, rr K 98), (1, .int (iz 0))] [] m2 Q)) : zV K mX10_findSizing (d + 7) 0 [(0, rr K 98)] [] m0 Q := by
  refine zV_ok (fun hm0 => ?_)
  replace h := h hm0
  refine zV_aloadr_n (pc := 0) dX10_findSizing_0 rfl 0 rfl ?_
  refine zV_callV (pc := 1) (mc := mX10_gather) (As := []) (rest := []) dX10_findSizing_1 zcX10_324 ziX10_gather zsX10_gather rfl rfl rfl rfl (Nat.le_of_ble_eq_true rfl) h (fun r1 m2 hr1 h => zV_ok (fun hm2 => ?_))
  replace h := h hr1 hm2
  refine zV_iconst (pc := 4) dX10_findSizing_4 ?_
  refine zV_istore_n (pc := 5) (loc' := [(1, .int (iz 0)), (0, rr K 98)]) dX10_findSizing_5 rfl (by decide) rfl ?_
  exact zV_sub [1, 0] rfl h
set_option maxRecDepth 100000 in
set_option maxHeartbeats 4000000 in
theorem vc_X10_findSizing_6 {K : zCx} {d : Nat} (x1 : Int) (m0 : zM) {Q : Int → zM → Prop} (hx1 : inR x1) (h : zok m0 → ((m0.1 98 39) ≤ x1 → ∀ m2 : zM, m2 = sI m0 98 40 (-1) → zok m2 → (zV K mX10_findSizing (d + 7) 46 [(0, rr K 98), (1, .int (iz 1))] [] m2 Q)) ∧ (¬ ((m0.1 98 39) ≤ x1) → 0 ≤ x1 ∧ x1 < 4 ∧ (0 ≤ (2 * (m0.1 116 x1)) ∧ (2 * (m0.1 116 x1)) < 20 ∧ (∀ m8 : zM, m8 = sI m0 117 x1 (m0.1 101 (2 * (m0.1 116 x1))) → zok m8 → (zV K mX10_findSizing (d + 7) 6 [(0, rr K 98), (1, .int (iz (x1 + 1)))] [] m8 Q))))) : zV K mX10_findSizing (d + 7) 6 [(0, rr K 98), (1, .int (iz x1))] [] m0 Q := by
  refine zV_ok (fun hm0 => ?_)
  replace h := h hm0
  refine zV_iload_n (pc := 6) dX10_findSizing_6 rfl 1 rfl ?_
  refine zV_aloadr_n (pc := 7) dX10_findSizing_7 rfl 0 rfl ?_
  refine zV_getI (pc := 8) (kz := 39) dX10_findSizing_8 zfX10_321 rfl rfl rfl ?_
  refine zV_icmp_ge (pc := 11) (tgt := 39) dX10_findSizing_11 (by decide) hx1 (hm0 _ _) (fun c1 => ?_) (fun c1 => ?_)
  · skip
    replace h := h.1 c1
    refine zV_aloadr_n (pc := 39) dX10_findSizing_39 rfl 0 rfl ?_
    refine zV_iconst (pc := 40) dX10_findSizing_40 ?_
    refine zV_putI (pc := 41) (kz := 40) dX10_findSizing_41 zpX10_327 rfl rfl rfl (inRd rfl) rfl rfl ?_
    refine zV_mem (fun m2 e3 => zV_ok (fun hm2 => ?_))
    replace h := h m2 e3 hm2
    refine zV_iconst (pc := 44) dX10_findSizing_44 ?_
    refine zV_istore_n (pc := 45) (loc' := [(1, .int (iz 1)), (0, rr K 98)]) dX10_findSizing_45 rfl (by decide) rfl ?_
    exact zV_sub [1, 0] rfl h
  · skip
    replace h := h.2 c1
    refine zV_aloadr_n (pc := 14) dX10_findSizing_14 rfl 0 rfl ?_
    refine zV_getR (pc := 15) (b := 117) dX10_findSizing_15 zfX10_68 rfl rfl rfl ?_
    refine zV_iload_n (pc := 18) dX10_findSizing_18 rfl 1 rfl ?_
    refine zV_aloadr_n (pc := 19) dX10_findSizing_19 rfl 0 rfl ?_
    refine zV_getR (pc := 20) (b := 101) dX10_findSizing_20 zfX10_20 rfl rfl rfl ?_
    refine zV_iconst (pc := 23) dX10_findSizing_23 ?_
    refine zV_aloadr_n (pc := 24) dX10_findSizing_24 rfl 0 rfl ?_
    refine zV_getR (pc := 25) (b := 116) dX10_findSizing_25 zfX10_65 rfl rfl rfl ?_
    refine zV_iload_n (pc := 28) dX10_findSizing_28 rfl 1 rfl ?_
    obtain ⟨o4, o5, h⟩ := h
    refine zV_iald (pc := 29) dX10_findSizing_29 rfl o4 o5 (inR_ix o4 o5 rfl) ?_
    refine zV_imul (pc := 30) dX10_findSizing_30 ?_
    obtain ⟨o6, o7, h⟩ := h
    refine zV_iald (pc := 31) dX10_findSizing_31 rfl o6 o7 (inR_ix o6 o7 rfl) ?_
    refine zV_iast (pc := 32) dX10_findSizing_32 rfl o4 o5 (inR_ix o4 o5 rfl) (hm0 _ _) ?_
    refine zV_mem (fun m8 e9 => zV_ok (fun hm8 => ?_))
    replace h := h m8 e9 hm8
    refine zV_iinc (pc := 33) (loc' := [(1, .int (iz (x1 + 1))), (0, rr K 98)]) dX10_findSizing_33 1 rfl (by decide) rfl ?_
    refine zV_goto (pc := 36) (tgt := 6) dX10_findSizing_36 (by decide) ?_
    exact zV_sub [1, 0] rfl h
set_option maxRecDepth 100000 in
set_option maxHeartbeats 4000000 in
theorem vc_X10_findSizing_46 {K : zCx} {d : Nat} (x1 : Int) (m0 : zM) {Q : Int → zM → Prop} (hx1 : inR x1) (h : zok m0 → (x1 = 0 → zCt K (d + 6) mX10_setSizes [rr K 98, rr K 119] m0 (fun r2 m3 => inR r2 → zok m3 → ((m3.1 98 40) < 0 → Q 0 m3) ∧ (¬ ((m3.1 98 40) < 0) → Q 1 m3))) ∧ (¬ (x1 = 0) → zV K mX10_findSizing (d + 7) 54 [(0, rr K 98), (2, .int (iz 0)), (3, .int (iz 0))] [] m0 Q)) : zV K mX10_findSizing (d + 7) 46 [(0, rr K 98), (1, .int (iz x1))] [] m0 Q := by
  refine zV_ok (fun hm0 => ?_)
  replace h := h hm0
  refine zV_iload_n (pc := 46) dX10_findSizing_46 rfl 1 rfl ?_
  refine zV_if_eq (pc := 47) (tgt := 148) dX10_findSizing_47 (by decide) hx1 (fun c1 => ?_) (fun c1 => ?_)
  · skip
    replace h := h.1 c1
    refine zV_aloadr_n (pc := 148) dX10_findSizing_148 rfl 0 rfl ?_
    refine zV_aloadr_n (pc := 149) dX10_findSizing_149 rfl 0 rfl ?_
    refine zV_getR (pc := 150) (b := 119) dX10_findSizing_150 zfX10_74 rfl rfl rfl ?_
    refine zV_callV (pc := 153) (mc := mX10_setSizes) (As := [rr K 119]) (rest := []) dX10_findSizing_153 zcX10_330 ziX10_setSizes zsX10_setSizes rfl rfl rfl rfl (Nat.le_of_ble_eq_true rfl) h (fun r2 m3 hr2 h => zV_ok (fun hm3 => ?_))
    replace h := h hr2 hm3
    refine zV_aloadr_n (pc := 156) dX10_findSizing_156 rfl 0 rfl ?_
    refine zV_getI (pc := 157) (kz := 40) dX10_findSizing_157 zfX10_327 rfl rfl rfl ?_
    refine zV_if_lt (pc := 160) (tgt := 167) dX10_findSizing_160 (by decide) (hm3 _ _) (fun c4 => ?_) (fun c4 => ?_)
    · skip
      replace h := h.1 c4
      refine zV_iconst (pc := 167) dX10_findSizing_167 ?_
      exact zV_zret (pc := 168) rfl dX10_findSizing_168 (Or.inl rfl) h
    · skip
      replace h := h.2 c4
      refine zV_iconst (pc := 163) dX10_findSizing_163 ?_
      refine zV_goto (pc := 164) (tgt := 168) dX10_findSizing_164 (by decide) ?_
      exact zV_zret (pc := 168) rfl dX10_findSizing_168 (Or.inr rfl) h
  · skip
    replace h := h.2 c1
    refine zV_iconst (pc := 50) dX10_findSizing_50 ?_
    refine zV_istore_n (pc := 51) (loc' := [(2, .int (iz 0)), (0, rr K 98), (1, .int (iz x1))]) dX10_findSizing_51 rfl (by decide) rfl ?_
    refine zV_iconst (pc := 52) dX10_findSizing_52 ?_
    refine zV_istore_n (pc := 53) (loc' := [(3, .int (iz 0)), (2, .int (iz 0)), (0, rr K 98), (1, .int (iz x1))]) dX10_findSizing_53 rfl (by decide) rfl ?_
    exact zV_sub [2, 1, 0] rfl h
set_option maxRecDepth 100000 in
set_option maxHeartbeats 4000000 in
theorem vc_X10_findSizing_54 {K : zCx} {d : Nat} (x2 : Int) (x3 : Int) (m0 : zM) {Q : Int → zM → Prop} (hx2 : inR x2) (hx3 : inR x3) (h : zok m0 → ((m0.1 98 39) ≤ x3 → ((m0.1 98 40) < 0 → zCt K (d + 6) mX10_setSizes [rr K 98, rr K 117] m0 (fun r3 m4 => inR r3 → zok m4 → zCt K (d + 6) mX10_missing [rr K 98] m4 (fun r5 m6 => inR r5 → zok m6 → (r5 = 0 → ∀ m10 : zM, m10 = sI m6 98 40 x2 → zok m10 → (zV K mX10_findSizing (d + 7) 114 [(0, rr K 98), (3, .int (iz 0))] [] m10 Q)) ∧ (¬ (r5 = 0) → zCt K (d + 6) mX10_rises [rr K 98] m6 (fun r8 m9 => inR r8 → zok m9 → zV K mX10_findSizing (d + 7) 46 [(0, rr K 98), (1, .int (iz r8))] [] m9 Q))))) ∧ (¬ ((m0.1 98 40) < 0) → ((m0.1 98 40) ≤ x2 → zCt K (d + 6) mX10_rises [rr K 98] m0 (fun r13 m14 => inR r13 → zok m14 → zV K mX10_findSizing (d + 7) 46 [(0, rr K 98), (1, .int (iz r13))] [] m14 Q)) ∧ (¬ ((m0.1 98 40) ≤ x2) → zCt K (d + 6) mX10_setSizes [rr K 98, rr K 117] m0 (fun r15 m16 => inR r15 → zok m16 → zCt K (d + 6) mX10_missing [rr K 98] m16 (fun r17 m18 => inR r17 → zok m18 → (r17 = 0 → ∀ m22 : zM, m22 = sI m18 98 40 x2 → zok m22 → (zV K mX10_findSizing (d + 7) 114 [(0, rr K 98), (3, .int (iz 0))] [] m22 Q)) ∧ (¬ (r17 = 0) → zCt K (d + 6) mX10_rises [rr K 98] m18 (fun r20 m21 => inR r20 → zok m21 → zV K mX10_findSizing (d + 7) 46 [(0, rr K 98), (1, .int (iz r20))] [] m21 Q))))))) ∧ (¬ ((m0.1 98 39) ≤ x3) → 0 ≤ x3 ∧ x3 < 4 ∧ (∀ v26 : Int, v26 = (x2 + (m0.1 117 x3)) → (zV K mX10_findSizing (d + 7) 54 [(0, rr K 98), (2, .int (iz v26)), (3, .int (iz (x3 + 1)))] [] m0 Q)))) : zV K mX10_findSizing (d + 7) 54 [(0, rr K 98), (2, .int (iz x2)), (3, .int (iz x3))] [] m0 Q := by
  refine zV_ok (fun hm0 => ?_)
  replace h := h hm0
  refine zV_iload_n (pc := 54) dX10_findSizing_54 rfl 2 rfl ?_
  refine zV_aloadr_n (pc := 55) dX10_findSizing_55 rfl 0 rfl ?_
  refine zV_getI (pc := 56) (kz := 39) dX10_findSizing_56 zfX10_321 rfl rfl rfl ?_
  refine zV_icmp_ge (pc := 59) (tgt := 77) dX10_findSizing_59 (by decide) hx3 (hm0 _ _) (fun c1 => ?_) (fun c1 => ?_)
  · skip
    replace h := h.1 c1
    refine zV_aloadr_n (pc := 77) dX10_findSizing_77 rfl 0 rfl ?_
    refine zV_getI (pc := 78) (kz := 40) dX10_findSizing_78 zfX10_327 rfl rfl rfl ?_
    refine zV_if_lt (pc := 81) (tgt := 92) dX10_findSizing_81 (by decide) (hm0 _ _) (fun c2 => ?_) (fun c2 => ?_)
    · skip
      replace h := h.1 c2
      refine zV_aloadr_n (pc := 92) dX10_findSizing_92 rfl 0 rfl ?_
      refine zV_aloadr_n (pc := 93) dX10_findSizing_93 rfl 0 rfl ?_
      refine zV_getR (pc := 94) (b := 117) dX10_findSizing_94 zfX10_68 rfl rfl rfl ?_
      refine zV_callV (pc := 97) (mc := mX10_setSizes) (As := [rr K 117]) (rest := []) dX10_findSizing_97 zcX10_330 ziX10_setSizes zsX10_setSizes rfl rfl rfl rfl (Nat.le_of_ble_eq_true rfl) h (fun r3 m4 hr3 h => zV_ok (fun hm4 => ?_))
      replace h := h hr3 hm4
      refine zV_aloadr_n (pc := 100) dX10_findSizing_100 rfl 0 rfl ?_
      refine zV_callV (pc := 101) (mc := mX10_missing) (As := []) (rest := []) dX10_findSizing_101 zcX10_314 ziX10_missing zsX10_missing rfl rfl rfl rfl (Nat.le_of_ble_eq_true rfl) h (fun r5 m6 hr5 h => zV_ok (fun hm6 => ?_))
      replace h := h hr5 hm6
      refine zV_if_ne (pc := 104) (tgt := 140) dX10_findSizing_104 (by decide) hr5 (fun c7 => ?_) (fun c7 => ?_)
      · skip
        replace h := h.2 c7
        refine zV_aloadr_n (pc := 140) dX10_findSizing_140 rfl 0 rfl ?_
        refine zV_callV (pc := 141) (mc := mX10_rises) (As := []) (rest := []) dX10_findSizing_141 zcX10_334 ziX10_rises zsX10_rises rfl rfl rfl rfl (Nat.le_of_ble_eq_true rfl) h (fun r8 m9 hr8 h => zV_ok (fun hm9 => ?_))
        replace h := h hr8 hm9
        refine zV_istore_n (pc := 144) (loc' := [(1, .int (iz r8)), (0, rr K 98), (2, .int (iz x2)), (3, .int (iz x3))]) dX10_findSizing_144 rfl (by decide) rfl ?_
        refine zV_goto (pc := 145) (tgt := 46) dX10_findSizing_145 (by decide) ?_
        exact zV_sub [1, 0] rfl h
      · replace c7 := Classical.not_not.mp c7
        replace h := h.1 c7
        refine zV_aloadr_n (pc := 107) dX10_findSizing_107 rfl 0 rfl ?_
        refine zV_iload_n (pc := 108) dX10_findSizing_108 rfl 1 rfl ?_
        refine zV_putI (pc := 109) (kz := 40) dX10_findSizing_109 zpX10_327 rfl rfl rfl hx2 rfl rfl ?_
        refine zV_mem (fun m10 e11 => zV_ok (fun hm10 => ?_))
        replace h := h m10 e11 hm10
        refine zV_iconst (pc := 112) dX10_findSizing_112 ?_
        refine zV_istore_n (pc := 113) (loc' := [(3, .int (iz 0)), (0, rr K 98), (2, .int (iz x2))]) dX10_findSizing_113 rfl (by decide) rfl ?_
        exact zV_sub [1, 0] rfl h
    · skip
      replace h := h.2 c2
      refine zV_iload_n (pc := 84) dX10_findSizing_84 rfl 1 rfl ?_
      refine zV_aloadr_n (pc := 85) dX10_findSizing_85 rfl 0 rfl ?_
      refine zV_getI (pc := 86) (kz := 40) dX10_findSizing_86 zfX10_327 rfl rfl rfl ?_
      refine zV_icmp_ge (pc := 89) (tgt := 140) dX10_findSizing_89 (by decide) hx2 (hm0 _ _) (fun c12 => ?_) (fun c12 => ?_)
      · skip
        replace h := h.1 c12
        refine zV_aloadr_n (pc := 140) dX10_findSizing_140 rfl 0 rfl ?_
        refine zV_callV (pc := 141) (mc := mX10_rises) (As := []) (rest := []) dX10_findSizing_141 zcX10_334 ziX10_rises zsX10_rises rfl rfl rfl rfl (Nat.le_of_ble_eq_true rfl) h (fun r13 m14 hr13 h => zV_ok (fun hm14 => ?_))
        replace h := h hr13 hm14
        refine zV_istore_n (pc := 144) (loc' := [(1, .int (iz r13)), (0, rr K 98), (2, .int (iz x2)), (3, .int (iz x3))]) dX10_findSizing_144 rfl (by decide) rfl ?_
        refine zV_goto (pc := 145) (tgt := 46) dX10_findSizing_145 (by decide) ?_
        exact zV_sub [1, 0] rfl h
      · skip
        replace h := h.2 c12
        refine zV_aloadr_n (pc := 92) dX10_findSizing_92 rfl 0 rfl ?_
        refine zV_aloadr_n (pc := 93) dX10_findSizing_93 rfl 0 rfl ?_
        refine zV_getR (pc := 94) (b := 117) dX10_findSizing_94 zfX10_68 rfl rfl rfl ?_
        refine zV_callV (pc := 97) (mc := mX10_setSizes) (As := [rr K 117]) (rest := []) dX10_findSizing_97 zcX10_330 ziX10_setSizes zsX10_setSizes rfl rfl rfl rfl (Nat.le_of_ble_eq_true rfl) h (fun r15 m16 hr15 h => zV_ok (fun hm16 => ?_))
        replace h := h hr15 hm16
        refine zV_aloadr_n (pc := 100) dX10_findSizing_100 rfl 0 rfl ?_
        refine zV_callV (pc := 101) (mc := mX10_missing) (As := []) (rest := []) dX10_findSizing_101 zcX10_314 ziX10_missing zsX10_missing rfl rfl rfl rfl (Nat.le_of_ble_eq_true rfl) h (fun r17 m18 hr17 h => zV_ok (fun hm18 => ?_))
        replace h := h hr17 hm18
        refine zV_if_ne (pc := 104) (tgt := 140) dX10_findSizing_104 (by decide) hr17 (fun c19 => ?_) (fun c19 => ?_)
        · skip
          replace h := h.2 c19
          refine zV_aloadr_n (pc := 140) dX10_findSizing_140 rfl 0 rfl ?_
          refine zV_callV (pc := 141) (mc := mX10_rises) (As := []) (rest := []) dX10_findSizing_141 zcX10_334 ziX10_rises zsX10_rises rfl rfl rfl rfl (Nat.le_of_ble_eq_true rfl) h (fun r20 m21 hr20 h => zV_ok (fun hm21 => ?_))
          replace h := h hr20 hm21
          refine zV_istore_n (pc := 144) (loc' := [(1, .int (iz r20)), (0, rr K 98), (2, .int (iz x2)), (3, .int (iz x3))]) dX10_findSizing_144 rfl (by decide) rfl ?_
          refine zV_goto (pc := 145) (tgt := 46) dX10_findSizing_145 (by decide) ?_
          exact zV_sub [1, 0] rfl h
        · replace c19 := Classical.not_not.mp c19
          replace h := h.1 c19
          refine zV_aloadr_n (pc := 107) dX10_findSizing_107 rfl 0 rfl ?_
          refine zV_iload_n (pc := 108) dX10_findSizing_108 rfl 1 rfl ?_
          refine zV_putI (pc := 109) (kz := 40) dX10_findSizing_109 zpX10_327 rfl rfl rfl hx2 rfl rfl ?_
          refine zV_mem (fun m22 e23 => zV_ok (fun hm22 => ?_))
          replace h := h m22 e23 hm22
          refine zV_iconst (pc := 112) dX10_findSizing_112 ?_
          refine zV_istore_n (pc := 113) (loc' := [(3, .int (iz 0)), (0, rr K 98), (2, .int (iz x2))]) dX10_findSizing_113 rfl (by decide) rfl ?_
          exact zV_sub [1, 0] rfl h
  · skip
    replace h := h.2 c1
    refine zV_iload_n (pc := 62) dX10_findSizing_62 rfl 1 rfl ?_
    refine zV_aloadr_n (pc := 63) dX10_findSizing_63 rfl 0 rfl ?_
    refine zV_getR (pc := 64) (b := 117) dX10_findSizing_64 zfX10_68 rfl rfl rfl ?_
    refine zV_iload_n (pc := 67) dX10_findSizing_67 rfl 2 rfl ?_
    obtain ⟨o24, o25, h⟩ := h
    refine zV_iald (pc := 68) dX10_findSizing_68 rfl o24 o25 (inR_ix o24 o25 rfl) ?_
    refine zV_iadd (pc := 69) dX10_findSizing_69 ?_
    refine zV_name (fun v26 e27 => ?_)
    replace h := h v26 e27
    refine zV_istore_n (pc := 70) (loc' := [(2, .int (iz v26)), (0, rr K 98), (3, .int (iz x3))]) dX10_findSizing_70 rfl (by decide) rfl ?_
    refine zV_iinc (pc := 71) (loc' := [(3, .int (iz (x3 + 1))), (2, .int (iz v26)), (0, rr K 98)]) dX10_findSizing_71 2 rfl (by decide) rfl ?_
    refine zV_goto (pc := 74) (tgt := 54) dX10_findSizing_74 (by decide) ?_
    exact zV_sub [2, 1, 0] rfl h
set_option maxRecDepth 100000 in
set_option maxHeartbeats 4000000 in
theorem vc_X10_findSizing_114 {K : zCx} {d : Nat} (x3 : Int) (m0 : zM) {Q : Int → zM → Prop} (hx3 : inR x3) (h : zok m0 → ((m0.1 98 39) ≤ x3 → zCt K (d + 6) mX10_rises [rr K 98] m0 (fun r2 m3 => inR r2 → zok m3 → zV K mX10_findSizing (d + 7) 46 [(0, rr K 98), (1, .int (iz r2))] [] m3 Q)) ∧ (¬ ((m0.1 98 39) ≤ x3) → 0 ≤ x3 ∧ x3 < 4 ∧ (∀ m6 : zM, m6 = sI m0 118 x3 (m0.1 117 x3) → zok m6 → (zV K mX10_findSizing (d + 7) 114 [(0, rr K 98), (3, .int (iz (x3 + 1)))] [] m6 Q)))) : zV K mX10_findSizing (d + 7) 114 [(0, rr K 98), (3, .int (iz x3))] [] m0 Q := by
  refine zV_ok (fun hm0 => ?_)
  replace h := h hm0
  refine zV_iload_n (pc := 114) dX10_findSizing_114 rfl 1 rfl ?_
  refine zV_aloadr_n (pc := 115) dX10_findSizing_115 rfl 0 rfl ?_
  refine zV_getI (pc := 116) (kz := 39) dX10_findSizing_116 zfX10_321 rfl rfl rfl ?_
  refine zV_icmp_ge (pc := 119) (tgt := 140) dX10_findSizing_119 (by decide) hx3 (hm0 _ _) (fun c1 => ?_) (fun c1 => ?_)
  · skip
    replace h := h.1 c1
    refine zV_aloadr_n (pc := 140) dX10_findSizing_140 rfl 0 rfl ?_
    refine zV_callV (pc := 141) (mc := mX10_rises) (As := []) (rest := []) dX10_findSizing_141 zcX10_334 ziX10_rises zsX10_rises rfl rfl rfl rfl (Nat.le_of_ble_eq_true rfl) h (fun r2 m3 hr2 h => zV_ok (fun hm3 => ?_))
    replace h := h hr2 hm3
    refine zV_istore_n (pc := 144) (loc' := [(1, .int (iz r2)), (0, rr K 98), (3, .int (iz x3))]) dX10_findSizing_144 rfl (by decide) rfl ?_
    refine zV_goto (pc := 145) (tgt := 46) dX10_findSizing_145 (by decide) ?_
    exact zV_sub [1, 0] rfl h
  · skip
    replace h := h.2 c1
    refine zV_aloadr_n (pc := 122) dX10_findSizing_122 rfl 0 rfl ?_
    refine zV_getR (pc := 123) (b := 118) dX10_findSizing_123 zfX10_71 rfl rfl rfl ?_
    refine zV_iload_n (pc := 126) dX10_findSizing_126 rfl 1 rfl ?_
    refine zV_aloadr_n (pc := 127) dX10_findSizing_127 rfl 0 rfl ?_
    refine zV_getR (pc := 128) (b := 117) dX10_findSizing_128 zfX10_68 rfl rfl rfl ?_
    refine zV_iload_n (pc := 131) dX10_findSizing_131 rfl 1 rfl ?_
    obtain ⟨o4, o5, h⟩ := h
    refine zV_iald (pc := 132) dX10_findSizing_132 rfl o4 o5 (inR_ix o4 o5 rfl) ?_
    refine zV_iast (pc := 133) dX10_findSizing_133 rfl o4 o5 (inR_ix o4 o5 rfl) (hm0 _ _) ?_
    refine zV_mem (fun m6 e7 => zV_ok (fun hm6 => ?_))
    replace h := h m6 e7 hm6
    refine zV_iinc (pc := 134) (loc' := [(3, .int (iz (x3 + 1))), (0, rr K 98)]) dX10_findSizing_134 1 rfl (by decide) rfl ?_
    refine zV_goto (pc := 137) (tgt := 114) dX10_findSizing_137 (by decide) ?_
    exact zV_sub [1, 0] rfl h

set_option maxRecDepth 100000 in
set_option maxHeartbeats 4000000 in
theorem vc_X10_sizing_0 {K : zCx} {d : Nat} (x1 : Int) (m0 : zM) {Q : Int → zM → Prop} (hx1 : inR x1) (h : zok m0 → zCt K (d + 7) mX10_openMany [rr K 98] m0 (fun r1 m2 => inR r1 → zok m2 → inR (r1 - 1) ∧ ((((-1) ≤ x1 ∧ x1 ≤ (r1 - 1)) → zCt K (d + 7) mX10_findSizing [rr K 98] m2 (fun r7 m8 => inR r7 → zok m8 → (r7 = 0 → Q (-3) m8) ∧ (¬ (r7 = 0) → (0 ≤ x1 → 0 ≤ x1 ∧ x1 < 4 ∧ (Q (m8.1 118 x1) m8)) ∧ (¬ (0 ≤ x1) → Q (m8.1 98 40) m8)))) ∧ (¬ (((-1) ≤ x1 ∧ x1 ≤ (r1 - 1))) → Q (-1) m2)))) : zV K mX10_sizing (d + 8) 0 [(0, rr K 98), (1, .int (iz x1))] [] m0 Q := by
  refine zV_ok (fun hm0 => ?_)
  replace h := h hm0
  refine zV_iload_n (pc := 0) dX10_sizing_0 rfl 1 rfl ?_
  refine zV_iconst (pc := 1) dX10_sizing_1 ?_
  refine zV_aloadr_n (pc := 2) dX10_sizing_2 rfl 0 rfl ?_
  refine zV_callV (pc := 3) (mc := mX10_openMany) (As := []) (rest := [.int (iz (-1)), .int (iz x1)]) dX10_sizing_3 zcX10_318 ziX10_openMany zsX10_openMany rfl rfl rfl rfl (Nat.le_of_ble_eq_true rfl) h (fun r1 m2 hr1 h => zV_ok (fun hm2 => ?_))
  replace h := h hr1 hm2
  refine zV_iconst (pc := 6) dX10_sizing_6 ?_
  refine zV_isub (pc := 7) dX10_sizing_7 ?_
  obtain ⟨o3, h⟩ := h
  refine zV_callSf (pc := 8) (mc := mX10_in) (As := [.int (iz x1), .int (iz (-1)), .int (iz (r1 - 1))]) (rest := []) dX10_sizing_8 zcX10_114 ztX10_in rfl rfl (Nat.le_of_ble_eq_true rfl) (c_X10_in hx1 (inRd rfl) o3) (fun hr4 => ?_)
  refine zV_if_ne (pc := 11) (tgt := 16) dX10_sizing_11 (by decide) (inR_b2i _) (fun c6 => ?_) (fun c6 => ?_)
  · replace c6 := b2i_tp c6
    replace h := h.1 c6
    refine zV_aloadr_n (pc := 16) dX10_sizing_16 rfl 0 rfl ?_
    refine zV_callV (pc := 17) (mc := mX10_findSizing) (As := []) (rest := []) dX10_sizing_17 zcX10_337 ziX10_findSizing zsX10_findSizing rfl rfl rfl rfl (Nat.le_of_ble_eq_true rfl) h (fun r7 m8 hr7 h => zV_ok (fun hm8 => ?_))
    replace h := h hr7 hm8
    refine zV_if_ne (pc := 20) (tgt := 26) dX10_sizing_20 (by decide) hr7 (fun c9 => ?_) (fun c9 => ?_)
    · skip
      replace h := h.2 c9
      refine zV_iload_n (pc := 26) dX10_sizing_26 rfl 1 rfl ?_
      refine zV_if_ge (pc := 27) (tgt := 37) dX10_sizing_27 (by decide) hx1 (fun c10 => ?_) (fun c10 => ?_)
      · skip
        replace h := h.1 c10
        refine zV_aloadr_n (pc := 37) dX10_sizing_37 rfl 0 rfl ?_
        refine zV_getR (pc := 38) (b := 118) dX10_sizing_38 zfX10_71 rfl rfl rfl ?_
        refine zV_iload_n (pc := 41) dX10_sizing_41 rfl 1 rfl ?_
        obtain ⟨o11, o12, h⟩ := h
        refine zV_iald (pc := 42) dX10_sizing_42 rfl o11 o12 (inR_ix o11 o12 rfl) ?_
        exact zV_iret (pc := 43) rfl dX10_sizing_43 (hm8 _ _) h
      · skip
        replace h := h.2 c10
        refine zV_aloadr_n (pc := 30) dX10_sizing_30 rfl 0 rfl ?_
        refine zV_getI (pc := 31) (kz := 40) dX10_sizing_31 zfX10_327 rfl rfl rfl ?_
        refine zV_goto (pc := 34) (tgt := 43) dX10_sizing_34 (by decide) ?_
        exact zV_iret (pc := 43) rfl dX10_sizing_43 (hm8 _ _) h
    · replace c9 := Classical.not_not.mp c9
      replace h := h.1 c9
      refine zV_bipush (pc := 23) dX10_sizing_23 (by decide) ?_
      exact zV_iret (pc := 25) rfl dX10_sizing_25 (inRd rfl) h
  · replace c6 := b2i_fn c6
    replace h := h.2 c6
    refine zV_iconst (pc := 14) dX10_sizing_14 ?_
    exact zV_iret (pc := 15) rfl dX10_sizing_15 (inRd rfl) h

set_option maxRecDepth 100000 in
set_option maxHeartbeats 4000000 in
theorem vc_X10_prove_0 {K : zCx} {d : Nat}  (m0 : zM) {Q : Int → zM → Prop}  (h : zok m0 → zCt K (d + 7) mX10_findSizing [rr K 98] m0 (fun r1 m2 => inR r1 → zok m2 → (r1 = 0 → Q (-3) m2) ∧ (¬ (r1 = 0) → ∀ m4 : zM, m4 = sI m2 98 42 (m2.1 98 39) → zok m4 → (zV K mX10_prove (d + 8) 20 [(0, rr K 98), (1, .int (iz 0))] [] m4 Q)))) : zV K mX10_prove (d + 8) 0 [(0, rr K 98)] [] m0 Q := by
  refine zV_ok (fun hm0 => ?_)
  replace h := h hm0
  refine zV_aloadr_n (pc := 0) dX10_prove_0 rfl 0 rfl ?_
  refine zV_callV (pc := 1) (mc := mX10_findSizing) (As := []) (rest := []) dX10_prove_1 zcX10_337 ziX10_findSizing zsX10_findSizing rfl rfl rfl rfl (Nat.le_of_ble_eq_true rfl) h (fun r1 m2 hr1 h => zV_ok (fun hm2 => ?_))
  replace h := h hr1 hm2
  refine zV_if_ne (pc := 4) (tgt := 10) dX10_prove_4 (by decide) hr1 (fun c3 => ?_) (fun c3 => ?_)
  · skip
    replace h := h.2 c3
    refine zV_aloadr_n (pc := 10) dX10_prove_10 rfl 0 rfl ?_
    refine zV_aloadr_n (pc := 11) dX10_prove_11 rfl 0 rfl ?_
    refine zV_getI (pc := 12) (kz := 39) dX10_prove_12 zfX10_321 rfl rfl rfl ?_
    refine zV_putI (pc := 15) (kz := 42) dX10_prove_15 zpX10_340 rfl rfl rfl (hm2 _ _) rfl rfl ?_
    refine zV_mem (fun m4 e5 => zV_ok (fun hm4 => ?_))
    replace h := h m4 e5 hm4
    refine zV_iconst (pc := 18) dX10_prove_18 ?_
    refine zV_istore_n (pc := 19) (loc' := [(1, .int (iz 0)), (0, rr K 98)]) dX10_prove_19 rfl (by decide) rfl ?_
    exact zV_sub [1, 0] rfl h
  · replace c3 := Classical.not_not.mp c3
    replace h := h.1 c3
    refine zV_bipush (pc := 7) dX10_prove_7 (by decide) ?_
    exact zV_iret (pc := 9) rfl dX10_prove_9 (inRd rfl) h
set_option maxRecDepth 100000 in
set_option maxHeartbeats 4000000 in
theorem vc_X10_prove_20 {K : zCx} {d : Nat} (x1 : Int) (m0 : zM) {Q : Int → zM → Prop} (hx1 : inR x1) (h : zok m0 → ((m0.1 98 39) ≤ x1 → Q (m0.1 98 42) m0) ∧ (¬ ((m0.1 98 39) ≤ x1) → 0 ≤ x1 ∧ x1 < 4 ∧ (0 ≤ (2 * x1) ∧ (2 * x1) < 8 ∧ (∀ m6 : zM, m6 = sI m0 120 (2 * x1) (m0.1 116 x1) → zok m6 → (0 ≤ ((2 * x1) + 1) ∧ ((2 * x1) + 1) < 8 ∧ (∀ m10 : zM, m10 = sI m6 120 ((2 * x1) + 1) (m6.1 118 x1) → zok m10 → (zV K mX10_prove (d + 8) 20 [(0, rr K 98), (1, .int (iz (x1 + 1)))] [] m10 Q))))))) : zV K mX10_prove (d + 8) 20 [(0, rr K 98), (1, .int (iz x1))] [] m0 Q := by
  refine zV_ok (fun hm0 => ?_)
  replace h := h hm0
  refine zV_iload_n (pc := 20) dX10_prove_20 rfl 1 rfl ?_
  refine zV_aloadr_n (pc := 21) dX10_prove_21 rfl 0 rfl ?_
  refine zV_getI (pc := 22) (kz := 39) dX10_prove_22 zfX10_321 rfl rfl rfl ?_
  refine zV_icmp_ge (pc := 25) (tgt := 64) dX10_prove_25 (by decide) hx1 (hm0 _ _) (fun c1 => ?_) (fun c1 => ?_)
  · skip
    replace h := h.1 c1
    refine zV_aloadr_n (pc := 64) dX10_prove_64 rfl 0 rfl ?_
    refine zV_getI (pc := 65) (kz := 42) dX10_prove_65 zfX10_340 rfl rfl rfl ?_
    exact zV_iret (pc := 68) rfl dX10_prove_68 (hm0 _ _) h
  · skip
    replace h := h.2 c1
    refine zV_aloadr_n (pc := 28) dX10_prove_28 rfl 0 rfl ?_
    refine zV_getR (pc := 29) (b := 120) dX10_prove_29 zfX10_77 rfl rfl rfl ?_
    refine zV_iconst (pc := 32) dX10_prove_32 ?_
    refine zV_iload_n (pc := 33) dX10_prove_33 rfl 1 rfl ?_
    refine zV_imul (pc := 34) dX10_prove_34 ?_
    refine zV_aloadr_n (pc := 35) dX10_prove_35 rfl 0 rfl ?_
    refine zV_getR (pc := 36) (b := 116) dX10_prove_36 zfX10_65 rfl rfl rfl ?_
    refine zV_iload_n (pc := 39) dX10_prove_39 rfl 1 rfl ?_
    obtain ⟨o2, o3, h⟩ := h
    refine zV_iald (pc := 40) dX10_prove_40 rfl o2 o3 (inR_ix o2 o3 rfl) ?_
    obtain ⟨o4, o5, h⟩ := h
    refine zV_iast (pc := 41) dX10_prove_41 rfl o4 o5 (inR_ix o4 o5 rfl) (hm0 _ _) ?_
    refine zV_mem (fun m6 e7 => zV_ok (fun hm6 => ?_))
    replace h := h m6 e7 hm6
    refine zV_aloadr_n (pc := 42) dX10_prove_42 rfl 0 rfl ?_
    refine zV_getR (pc := 43) (b := 120) dX10_prove_43 zfX10_77 rfl rfl rfl ?_
    refine zV_iconst (pc := 46) dX10_prove_46 ?_
    refine zV_iload_n (pc := 47) dX10_prove_47 rfl 1 rfl ?_
    refine zV_imul (pc := 48) dX10_prove_48 ?_
    refine zV_iconst (pc := 49) dX10_prove_49 ?_
    refine zV_iadd (pc := 50) dX10_prove_50 ?_
    refine zV_aloadr_n (pc := 51) dX10_prove_51 rfl 0 rfl ?_
    refine zV_getR (pc := 52) (b := 118) dX10_prove_52 zfX10_71 rfl rfl rfl ?_
    refine zV_iload_n (pc := 55) dX10_prove_55 rfl 1 rfl ?_
    refine zV_iald (pc := 56) dX10_prove_56 rfl o2 o3 (inR_ix o2 o3 rfl) ?_
    obtain ⟨o8, o9, h⟩ := h
    refine zV_iast (pc := 57) dX10_prove_57 rfl o8 o9 (inR_ix o8 o9 rfl) (hm6 _ _) ?_
    refine zV_mem (fun m10 e11 => zV_ok (fun hm10 => ?_))
    replace h := h m10 e11 hm10
    refine zV_iinc (pc := 58) (loc' := [(1, .int (iz (x1 + 1))), (0, rr K 98)]) dX10_prove_58 1 rfl (by decide) rfl ?_
    refine zV_goto (pc := 61) (tgt := 20) dX10_prove_61 (by decide) ?_
    exact zV_sub [1, 0] rfl h

set_option maxRecDepth 100000 in
set_option maxHeartbeats 4000000 in
theorem vc_X10_row_0 {K : zCx} {d : Nat} (x1 : Int) (x2 : Int) (m0 : zM) {Q : Int → zM → Prop} (hx1 : inR x1) (hx2 : inR x2) (h : zok m0 → (0 ≤ m0.1 98 42) ∧ ((((0 ≤ x1 ∧ x1 < m0.1 98 42) ∧ (0 ≤ x2 ∧ x2 ≤ 1)) → 0 ≤ ((2 * x1) + x2) ∧ ((2 * x1) + x2) < 8 ∧ (Q (m0.1 120 ((2 * x1) + x2)) m0)) ∧ (¬ (((0 ≤ x1 ∧ x1 < m0.1 98 42) ∧ (0 ≤ x2 ∧ x2 ≤ 1))) → Q (-9) m0))) : zV K mX10_row (d + 3) 0 [(0, rr K 98), (1, .int (iz x1)), (2, .int (iz x2))] [] m0 Q := by
  refine zV_ok (fun hm0 => ?_)
  replace h := h hm0
  refine zV_aloadr_n (pc := 0) dX10_row_0 rfl 0 rfl ?_
  refine zV_iload_n (pc := 1) dX10_row_1 rfl 1 rfl ?_
  refine zV_iload_n (pc := 2) dX10_row_2 rfl 2 rfl ?_
  obtain ⟨o1, h⟩ := h
  refine zV_callVf (pc := 3) (mc := mX10_isRow) (As := [.int (iz x1), .int (iz x2)]) (rest := []) dX10_row_3 zcX10_343 ziX10_isRow zsX10_isRow rfl rfl rfl rfl (Nat.le_of_ble_eq_true rfl) (c_X10_isRow hx1 hx2 hm0 o1) (fun hr2 => ?_)
  refine zV_if_eq (pc := 6) (tgt := 22) dX10_row_6 (by decide) (inR_b2i _) (fun c4 => ?_) (fun c4 => ?_)
  · replace c4 := b2i_fp c4
    replace h := h.2 c4
    refine zV_bipush (pc := 22) dX10_row_22 (by decide) ?_
    exact zV_iret (pc := 24) rfl dX10_row_24 (inRd rfl) h
  · replace c4 := b2i_tp c4
    replace h := h.1 c4
    refine zV_aloadr_n (pc := 9) dX10_row_9 rfl 0 rfl ?_
    refine zV_getR (pc := 10) (b := 120) dX10_row_10 zfX10_77 rfl rfl rfl ?_
    refine zV_iconst (pc := 13) dX10_row_13 ?_
    refine zV_iload_n (pc := 14) dX10_row_14 rfl 1 rfl ?_
    refine zV_imul (pc := 15) dX10_row_15 ?_
    refine zV_iload_n (pc := 16) dX10_row_16 rfl 2 rfl ?_
    refine zV_iadd (pc := 17) dX10_row_17 ?_
    obtain ⟨o5, o6, h⟩ := h
    refine zV_iald (pc := 18) dX10_row_18 rfl o5 o6 (inR_ix o5 o6 rfl) ?_
    refine zV_goto (pc := 19) (tgt := 24) dX10_row_19 (by decide) ?_
    exact zV_iret (pc := 24) rfl dX10_row_24 (hm0 _ _) h

set_option maxRecDepth 100000 in
set_option maxHeartbeats 4000000 in
theorem vc_X10_alterRow_0 {K : zCx} {d : Nat} (x1 : Int) (x2 : Int) (x3 : Int) (m0 : zM) {Q : Int → zM → Prop} (hx1 : inR x1) (hx2 : inR x2) (hx3 : inR x3) (h : zok m0 → (0 ≤ m0.1 98 42) ∧ ((((0 ≤ x1 ∧ x1 < m0.1 98 42) ∧ (0 ≤ x2 ∧ x2 ≤ 1)) → 0 ≤ ((2 * x1) + x2) ∧ ((2 * x1) + x2) < 8 ∧ (∀ v7 : Int, v7 = (m0.1 120 ((2 * x1) + x2)) → (∀ m9 : zM, m9 = sI m0 120 ((2 * x1) + x2) x3 → zok m9 → (Q v7 m9)))) ∧ (¬ (((0 ≤ x1 ∧ x1 < m0.1 98 42) ∧ (0 ≤ x2 ∧ x2 ≤ 1))) → Q (-9) m0))) : zV K mX10_alterRow (d + 3) 0 [(0, rr K 98), (1, .int (iz x1)), (2, .int (iz x2)), (3, .int (iz x3))] [] m0 Q := by
  refine zV_ok (fun hm0 => ?_)
  replace h := h hm0
  refine zV_aloadr_n (pc := 0) dX10_alterRow_0 rfl 0 rfl ?_
  refine zV_iload_n (pc := 1) dX10_alterRow_1 rfl 1 rfl ?_
  refine zV_iload_n (pc := 2) dX10_alterRow_2 rfl 2 rfl ?_
  obtain ⟨o1, h⟩ := h
  refine zV_callVf (pc := 3) (mc := mX10_isRow) (As := [.int (iz x1), .int (iz x2)]) (rest := []) dX10_alterRow_3 zcX10_343 ziX10_isRow zsX10_isRow rfl rfl rfl rfl (Nat.le_of_ble_eq_true rfl) (c_X10_isRow hx1 hx2 hm0 o1) (fun hr2 => ?_)
  refine zV_if_ne (pc := 6) (tgt := 12) dX10_alterRow_6 (by decide) (inR_b2i _) (fun c4 => ?_) (fun c4 => ?_)
  · replace c4 := b2i_tp c4
    replace h := h.1 c4
    refine zV_aloadr_n (pc := 12) dX10_alterRow_12 rfl 0 rfl ?_
    refine zV_getR (pc := 13) (b := 120) dX10_alterRow_13 zfX10_77 rfl rfl rfl ?_
    refine zV_iconst (pc := 16) dX10_alterRow_16 ?_
    refine zV_iload_n (pc := 17) dX10_alterRow_17 rfl 1 rfl ?_
    refine zV_imul (pc := 18) dX10_alterRow_18 ?_
    refine zV_iload_n (pc := 19) dX10_alterRow_19 rfl 2 rfl ?_
    refine zV_iadd (pc := 20) dX10_alterRow_20 ?_
    obtain ⟨o5, o6, h⟩ := h
    refine zV_iald (pc := 21) dX10_alterRow_21 rfl o5 o6 (inR_ix o5 o6 rfl) ?_
    refine zV_name (fun v7 e8 => ?_)
    replace h := h v7 e8
    have hrv7 : inR v7 := by rw [e8]; exact (hm0 _ _)
    refine zV_istore (pc := 22) (loc' := [(4, .int (iz v7)), (0, rr K 98), (1, .int (iz x1)), (2, .int (iz x2)), (3, .int (iz x3))]) dX10_alterRow_22 (by decide) rfl ?_
    refine zV_aloadr_n (pc := 24) dX10_alterRow_24 rfl 1 rfl ?_
    refine zV_getR (pc := 25) (b := 120) dX10_alterRow_25 zfX10_77 rfl rfl rfl ?_
    refine zV_iconst (pc := 28) dX10_alterRow_28 ?_
    refine zV_iload_n (pc := 29) dX10_alterRow_29 rfl 2 rfl ?_
    refine zV_imul (pc := 30) dX10_alterRow_30 ?_
    refine zV_iload_n (pc := 31) dX10_alterRow_31 rfl 3 rfl ?_
    refine zV_iadd (pc := 32) dX10_alterRow_32 ?_
    refine zV_iload_n (pc := 33) dX10_alterRow_33 rfl 4 rfl ?_
    refine zV_iast (pc := 34) dX10_alterRow_34 rfl o5 o6 (inR_ix o5 o6 rfl) hx3 ?_
    refine zV_mem (fun m9 e10 => zV_ok (fun hm9 => ?_))
    replace h := h m9 e10 hm9
    refine zV_iload (pc := 35) dX10_alterRow_35 0 rfl ?_
    exact zV_iret (pc := 37) rfl dX10_alterRow_37 hrv7 h
  · replace c4 := b2i_fn c4
    replace h := h.2 c4
    refine zV_bipush (pc := 9) dX10_alterRow_9 (by decide) ?_
    exact zV_iret (pc := 11) rfl dX10_alterRow_11 (inRd rfl) h

set_option maxRecDepth 100000 in
set_option maxHeartbeats 4000000 in
theorem vc_X10_judge_0 {K : zCx} {d : Nat}  (m0 : zM) {Q : Int → zM → Prop}  (h : zok m0 → zCt K (d + 6) mX10_gather [rr K 98] m0 (fun r1 m2 => inR r1 → zok m2 → zV K mX10_judge (d + 7) 6 [(0, rr K 98), (1, .int (iz 0))] [] m2 Q)) : zV K mX10_judge (d + 7) 0 [(0, rr K 98)] [] m0 Q := by
  refine zV_ok (fun hm0 => ?_)
  replace h := h hm0
  refine zV_aloadr_n (pc := 0) dX10_judge_0 rfl 0 rfl ?_
  refine zV_callV (pc := 1) (mc := mX10_gather) (As := []) (rest := []) dX10_judge_1 zcX10_324 ziX10_gather zsX10_gather rfl rfl rfl rfl (Nat.le_of_ble_eq_true rfl) h (fun r1 m2 hr1 h => zV_ok (fun hm2 => ?_))
  replace h := h hr1 hm2
  refine zV_iconst (pc := 4) dX10_judge_4 ?_
  refine zV_istore_n (pc := 5) (loc' := [(1, .int (iz 0)), (0, rr K 98)]) dX10_judge_5 rfl (by decide) rfl ?_
  exact zV_sub [1, 0] rfl h
set_option maxRecDepth 100000 in
set_option maxHeartbeats 4000000 in
theorem vc_X10_judge_6 {K : zCx} {d : Nat} (x1 : Int) (m0 : zM) {Q : Int → zM → Prop} (hx1 : inR x1) (h : zok m0 → ((m0.1 98 42) ≤ x1 → ((m0.1 98 39) ≤ (m0.1 98 42) → zV K mX10_judge (d + 7) 109 [(0, rr K 98), (1, .int (iz 0))] [] m0 Q) ∧ (¬ ((m0.1 98 39) ≤ (m0.1 98 42)) → Q 11 m0)) ∧ (¬ ((m0.1 98 42) ≤ x1) → ((m0.1 98 39) ≤ x1 → inR (x1 + 1) ∧ (Q (x1 + 1) m0)) ∧ (¬ ((m0.1 98 39) ≤ x1) → 0 ≤ (2 * x1) ∧ (2 * x1) < 8 ∧ (0 ≤ x1 ∧ x1 < 4 ∧ (((m0.1 120 (2 * x1)) = (m0.1 116 x1) → 0 ≤ ((2 * x1) + 1) ∧ ((2 * x1) + 1) < 8 ∧ (0 ≤ (2 * (m0.1 116 x1)) ∧ (2 * (m0.1 116 x1)) < 20 ∧ (0 ≤ ((2 * (m0.1 116 x1)) + 1) ∧ ((2 * (m0.1 116 x1)) + 1) < 20 ∧ ((((m0.1 101 (2 * (m0.1 116 x1))) ≤ (m0.1 120 ((2 * x1) + 1)) ∧ (m0.1 120 ((2 * x1) + 1)) ≤ (m0.1 101 ((2 * (m0.1 116 x1)) + 1))) → zV K mX10_judge (d + 7) 6 [(0, rr K 98), (1, .int (iz (x1 + 1)))] [] m0 Q) ∧ (¬ (((m0.1 101 (2 * (m0.1 116 x1))) ≤ (m0.1 120 ((2 * x1) + 1)) ∧ (m0.1 120 ((2 * x1) + 1)) ≤ (m0.1 101 ((2 * (m0.1 116 x1)) + 1)))) → inR (x1 + 1) ∧ (Q (x1 + 1) m0)))))) ∧ (¬ ((m0.1 120 (2 * x1)) = (m0.1 116 x1)) → inR (x1 + 1) ∧ (Q (x1 + 1) m0))))))) : zV K mX10_judge (d + 7) 6 [(0, rr K 98), (1, .int (iz x1))] [] m0 Q := by
  refine zV_ok (fun hm0 => ?_)
  replace h := h hm0
  refine zV_iload_n (pc := 6) dX10_judge_6 rfl 1 rfl ?_
  refine zV_aloadr_n (pc := 7) dX10_judge_7 rfl 0 rfl ?_
  refine zV_getI (pc := 8) (kz := 42) dX10_judge_8 zfX10_340 rfl rfl rfl ?_
  refine zV_icmp_ge (pc := 11) (tgt := 93) dX10_judge_11 (by decide) hx1 (hm0 _ _) (fun c1 => ?_) (fun c1 => ?_)
  · skip
    replace h := h.1 c1
    refine zV_aloadr_n (pc := 93) dX10_judge_93 rfl 0 rfl ?_
    refine zV_getI (pc := 94) (kz := 42) dX10_judge_94 zfX10_340 rfl rfl rfl ?_
    refine zV_aloadr_n (pc := 97) dX10_judge_97 rfl 0 rfl ?_
    refine zV_getI (pc := 98) (kz := 39) dX10_judge_98 zfX10_321 rfl rfl rfl ?_
    refine zV_icmp_ge (pc := 101) (tgt := 107) dX10_judge_101 (by decide) (hm0 _ _) (hm0 _ _) (fun c2 => ?_) (fun c2 => ?_)
    · skip
      replace h := h.1 c2
      refine zV_iconst (pc := 107) dX10_judge_107 ?_
      refine zV_istore_n (pc := 108) (loc' := [(1, .int (iz 0)), (0, rr K 98)]) dX10_judge_108 rfl (by decide) rfl ?_
      exact zV_sub [1, 0] rfl h
    · skip
      replace h := h.2 c2
      refine zV_bipush (pc := 104) dX10_judge_104 (by decide) ?_
      exact zV_iret (pc := 106) rfl dX10_judge_106 (inRd rfl) h
  · skip
    replace h := h.2 c1
    refine zV_iload_n (pc := 14) dX10_judge_14 rfl 1 rfl ?_
    refine zV_aloadr_n (pc := 15) dX10_judge_15 rfl 0 rfl ?_
    refine zV_getI (pc := 16) (kz := 39) dX10_judge_16 zfX10_321 rfl rfl rfl ?_
    refine zV_icmp_ge (pc := 19) (tgt := 83) dX10_judge_19 (by decide) hx1 (hm0 _ _) (fun c3 => ?_) (fun c3 => ?_)
    · skip
      replace h := h.1 c3
      refine zV_iload_n (pc := 83) dX10_judge_83 rfl 1 rfl ?_
      refine zV_iconst (pc := 84) dX10_judge_84 ?_
      refine zV_iadd (pc := 85) dX10_judge_85 ?_
      obtain ⟨o4, h⟩ := h
      exact zV_iret (pc := 86) rfl dX10_judge_86 o4 h
    · skip
      replace h := h.2 c3
      refine zV_aloadr_n (pc := 22) dX10_judge_22 rfl 0 rfl ?_
      refine zV_getR (pc := 23) (b := 120) dX10_judge_23 zfX10_77 rfl rfl rfl ?_
      refine zV_iconst (pc := 26) dX10_judge_26 ?_
      refine zV_iload_n (pc := 27) dX10_judge_27 rfl 1 rfl ?_
      refine zV_imul (pc := 28) dX10_judge_28 ?_
      obtain ⟨o5, o6, h⟩ := h
      refine zV_iald (pc := 29) dX10_judge_29 rfl o5 o6 (inR_ix o5 o6 rfl) ?_
      refine zV_aloadr_n (pc := 30) dX10_judge_30 rfl 0 rfl ?_
      refine zV_getR (pc := 31) (b := 116) dX10_judge_31 zfX10_65 rfl rfl rfl ?_
      refine zV_iload_n (pc := 34) dX10_judge_34 rfl 1 rfl ?_
      obtain ⟨o7, o8, h⟩ := h
      refine zV_iald (pc := 35) dX10_judge_35 rfl o7 o8 (inR_ix o7 o8 rfl) ?_
      refine zV_icmp_ne (pc := 36) (tgt := 83) dX10_judge_36 (by decide) (hm0 _ _) (hm0 _ _) (fun c9 => ?_) (fun c9 => ?_)
      · skip
        replace h := h.2 c9
        refine zV_iload_n (pc := 83) dX10_judge_83 rfl 1 rfl ?_
        refine zV_iconst (pc := 84) dX10_judge_84 ?_
        refine zV_iadd (pc := 85) dX10_judge_85 ?_
        obtain ⟨o10, h⟩ := h
        exact zV_iret (pc := 86) rfl dX10_judge_86 o10 h
      · replace c9 := Classical.not_not.mp c9
        replace h := h.1 c9
        refine zV_aloadr_n (pc := 39) dX10_judge_39 rfl 0 rfl ?_
        refine zV_getR (pc := 40) (b := 120) dX10_judge_40 zfX10_77 rfl rfl rfl ?_
        refine zV_iconst (pc := 43) dX10_judge_43 ?_
        refine zV_iload_n (pc := 44) dX10_judge_44 rfl 1 rfl ?_
        refine zV_imul (pc := 45) dX10_judge_45 ?_
        refine zV_iconst (pc := 46) dX10_judge_46 ?_
        refine zV_iadd (pc := 47) dX10_judge_47 ?_
        obtain ⟨o11, o12, h⟩ := h
        refine zV_iald (pc := 48) dX10_judge_48 rfl o11 o12 (inR_ix o11 o12 rfl) ?_
        refine zV_aloadr_n (pc := 49) dX10_judge_49 rfl 0 rfl ?_
        refine zV_getR (pc := 50) (b := 101) dX10_judge_50 zfX10_20 rfl rfl rfl ?_
        refine zV_iconst (pc := 53) dX10_judge_53 ?_
        refine zV_aloadr_n (pc := 54) dX10_judge_54 rfl 0 rfl ?_
        refine zV_getR (pc := 55) (b := 116) dX10_judge_55 zfX10_65 rfl rfl rfl ?_
        refine zV_iload_n (pc := 58) dX10_judge_58 rfl 1 rfl ?_
        refine zV_iald (pc := 59) dX10_judge_59 rfl o7 o8 (inR_ix o7 o8 rfl) ?_
        refine zV_imul (pc := 60) dX10_judge_60 ?_
        obtain ⟨o13, o14, h⟩ := h
        refine zV_iald (pc := 61) dX10_judge_61 rfl o13 o14 (inR_ix o13 o14 rfl) ?_
        refine zV_aloadr_n (pc := 62) dX10_judge_62 rfl 0 rfl ?_
        refine zV_getR (pc := 63) (b := 101) dX10_judge_63 zfX10_20 rfl rfl rfl ?_
        refine zV_iconst (pc := 66) dX10_judge_66 ?_
        refine zV_aloadr_n (pc := 67) dX10_judge_67 rfl 0 rfl ?_
        refine zV_getR (pc := 68) (b := 116) dX10_judge_68 zfX10_65 rfl rfl rfl ?_
        refine zV_iload_n (pc := 71) dX10_judge_71 rfl 1 rfl ?_
        refine zV_iald (pc := 72) dX10_judge_72 rfl o7 o8 (inR_ix o7 o8 rfl) ?_
        refine zV_imul (pc := 73) dX10_judge_73 ?_
        refine zV_iconst (pc := 74) dX10_judge_74 ?_
        refine zV_iadd (pc := 75) dX10_judge_75 ?_
        obtain ⟨o15, o16, h⟩ := h
        refine zV_iald (pc := 76) dX10_judge_76 rfl o15 o16 (inR_ix o15 o16 rfl) ?_
        refine zV_callSf (pc := 77) (mc := mX10_in) (As := [.int (iz (m0.1 120 ((2 * x1) + 1))), .int (iz (m0.1 101 (2 * (m0.1 116 x1)))), .int (iz (m0.1 101 ((2 * (m0.1 116 x1)) + 1)))]) (rest := []) dX10_judge_77 zcX10_114 ztX10_in rfl rfl (Nat.le_of_ble_eq_true rfl) (c_X10_in (hm0 _ _) (hm0 _ _) (hm0 _ _)) (fun hr17 => ?_)
        refine zV_if_ne (pc := 80) (tgt := 87) dX10_judge_80 (by decide) (inR_b2i _) (fun c19 => ?_) (fun c19 => ?_)
        · replace c19 := b2i_tp c19
          replace h := h.1 c19
          refine zV_iinc (pc := 87) (loc' := [(1, .int (iz (x1 + 1))), (0, rr K 98)]) dX10_judge_87 1 rfl (by decide) rfl ?_
          refine zV_goto (pc := 90) (tgt := 6) dX10_judge_90 (by decide) ?_
          exact zV_sub [1, 0] rfl h
        · replace c19 := b2i_fn c19
          replace h := h.2 c19
          refine zV_iload_n (pc := 83) dX10_judge_83 rfl 1 rfl ?_
          refine zV_iconst (pc := 84) dX10_judge_84 ?_
          refine zV_iadd (pc := 85) dX10_judge_85 ?_
          obtain ⟨o20, h⟩ := h
          exact zV_iret (pc := 86) rfl dX10_judge_86 o20 h
set_option maxRecDepth 100000 in
set_option maxHeartbeats 4000000 in
theorem vc_X10_judge_109 {K : zCx} {d : Nat} (x1 : Int) (m0 : zM) {Q : Int → zM → Prop} (hx1 : inR x1) (h : zok m0 → ((m0.1 98 39) ≤ x1 → zCt K (d + 6) mX10_setSizes [rr K 98, rr K 117] m0 (fun r2 m3 => inR r2 → zok m3 → zCt K (d + 6) mX10_missing [rr K 98] m3 (fun r4 m5 => inR r4 → zok m5 → zCt K (d + 6) mX10_setSizes [rr K 98, rr K 119] m5 (fun r6 m7 => inR r6 → zok m7 → zV K mX10_judge (d + 7) 162 [(0, rr K 98), (1, .int (iz r4)), (2, .int (iz 0))] [] m7 Q)))) ∧ (¬ ((m0.1 98 39) ≤ x1) → 0 ≤ ((2 * x1) + 1) ∧ ((2 * x1) + 1) < 8 ∧ (0 ≤ x1 ∧ x1 < 4 ∧ (∀ m12 : zM, m12 = sI m0 117 x1 (m0.1 120 ((2 * x1) + 1)) → zok m12 → (zV K mX10_judge (d + 7) 109 [(0, rr K 98), (1, .int (iz (x1 + 1)))] [] m12 Q))))) : zV K mX10_judge (d + 7) 109 [(0, rr K 98), (1, .int (iz x1))] [] m0 Q := by
  refine zV_ok (fun hm0 => ?_)
  replace h := h hm0
  refine zV_iload_n (pc := 109) dX10_judge_109 rfl 1 rfl ?_
  refine zV_aloadr_n (pc := 110) dX10_judge_110 rfl 0 rfl ?_
  refine zV_getI (pc := 111) (kz := 39) dX10_judge_111 zfX10_321 rfl rfl rfl ?_
  refine zV_icmp_ge (pc := 114) (tgt := 139) dX10_judge_114 (by decide) hx1 (hm0 _ _) (fun c1 => ?_) (fun c1 => ?_)
  · skip
    replace h := h.1 c1
    refine zV_aloadr_n (pc := 139) dX10_judge_139 rfl 0 rfl ?_
    refine zV_aloadr_n (pc := 140) dX10_judge_140 rfl 0 rfl ?_
    refine zV_getR (pc := 141) (b := 117) dX10_judge_141 zfX10_68 rfl rfl rfl ?_
    refine zV_callV (pc := 144) (mc := mX10_setSizes) (As := [rr K 117]) (rest := []) dX10_judge_144 zcX10_330 ziX10_setSizes zsX10_setSizes rfl rfl rfl rfl (Nat.le_of_ble_eq_true rfl) h (fun r2 m3 hr2 h => zV_ok (fun hm3 => ?_))
    replace h := h hr2 hm3
    refine zV_aloadr_n (pc := 147) dX10_judge_147 rfl 0 rfl ?_
    refine zV_callV (pc := 148) (mc := mX10_missing) (As := []) (rest := []) dX10_judge_148 zcX10_314 ziX10_missing zsX10_missing rfl rfl rfl rfl (Nat.le_of_ble_eq_true rfl) h (fun r4 m5 hr4 h => zV_ok (fun hm5 => ?_))
    replace h := h hr4 hm5
    refine zV_istore_n (pc := 151) (loc' := [(1, .int (iz r4)), (0, rr K 98)]) dX10_judge_151 rfl (by decide) rfl ?_
    refine zV_aloadr_n (pc := 152) dX10_judge_152 rfl 1 rfl ?_
    refine zV_aloadr_n (pc := 153) dX10_judge_153 rfl 1 rfl ?_
    refine zV_getR (pc := 154) (b := 119) dX10_judge_154 zfX10_74 rfl rfl rfl ?_
    refine zV_callV (pc := 157) (mc := mX10_setSizes) (As := [rr K 119]) (rest := []) dX10_judge_157 zcX10_330 ziX10_setSizes zsX10_setSizes rfl rfl rfl rfl (Nat.le_of_ble_eq_true rfl) h (fun r6 m7 hr6 h => zV_ok (fun hm7 => ?_))
    replace h := h hr6 hm7
    refine zV_iconst (pc := 160) dX10_judge_160 ?_
    refine zV_istore_n (pc := 161) (loc' := [(2, .int (iz 0)), (1, .int (iz r4)), (0, rr K 98)]) dX10_judge_161 rfl (by decide) rfl ?_
    exact zV_sub [2, 1, 0] rfl h
  · skip
    replace h := h.2 c1
    refine zV_aloadr_n (pc := 117) dX10_judge_117 rfl 0 rfl ?_
    refine zV_getR (pc := 118) (b := 117) dX10_judge_118 zfX10_68 rfl rfl rfl ?_
    refine zV_iload_n (pc := 121) dX10_judge_121 rfl 1 rfl ?_
    refine zV_aloadr_n (pc := 122) dX10_judge_122 rfl 0 rfl ?_
    refine zV_getR (pc := 123) (b := 120) dX10_judge_123 zfX10_77 rfl rfl rfl ?_
    refine zV_iconst (pc := 126) dX10_judge_126 ?_
    refine zV_iload_n (pc := 127) dX10_judge_127 rfl 1 rfl ?_
    refine zV_imul (pc := 128) dX10_judge_128 ?_
    refine zV_iconst (pc := 129) dX10_judge_129 ?_
    refine zV_iadd (pc := 130) dX10_judge_130 ?_
    obtain ⟨o8, o9, h⟩ := h
    refine zV_iald (pc := 131) dX10_judge_131 rfl o8 o9 (inR_ix o8 o9 rfl) ?_
    obtain ⟨o10, o11, h⟩ := h
    refine zV_iast (pc := 132) dX10_judge_132 rfl o10 o11 (inR_ix o10 o11 rfl) (hm0 _ _) ?_
    refine zV_mem (fun m12 e13 => zV_ok (fun hm12 => ?_))
    replace h := h m12 e13 hm12
    refine zV_iinc (pc := 133) (loc' := [(1, .int (iz (x1 + 1))), (0, rr K 98)]) dX10_judge_133 1 rfl (by decide) rfl ?_
    refine zV_goto (pc := 136) (tgt := 109) dX10_judge_136 (by decide) ?_
    exact zV_sub [1, 0] rfl h
set_option maxRecDepth 100000 in
set_option maxHeartbeats 4000000 in
theorem vc_X10_judge_162 {K : zCx} {d : Nat} (x1 : Int) (x2 : Int) (m0 : zM) {Q : Int → zM → Prop} (hx1 : inR x1) (hx2 : inR x2) (h : zok m0 → ((m0.1 98 10) ≤ x2 → Q 0 m0) ∧ (¬ ((m0.1 98 10) ≤ x2) → ((zand (zshr x1 x2) 1) = 1 → inR (20 + x2) ∧ (Q (20 + x2) m0)) ∧ (¬ ((zand (zshr x1 x2) 1) = 1) → zV K mX10_judge (d + 7) 162 [(0, rr K 98), (1, .int (iz x1)), (2, .int (iz (x2 + 1)))] [] m0 Q))) : zV K mX10_judge (d + 7) 162 [(0, rr K 98), (1, .int (iz x1)), (2, .int (iz x2))] [] m0 Q := by
  refine zV_ok (fun hm0 => ?_)
  replace h := h hm0
  refine zV_iload_n (pc := 162) dX10_judge_162 rfl 2 rfl ?_
  refine zV_aloadr_n (pc := 163) dX10_judge_163 rfl 0 rfl ?_
  refine zV_getI (pc := 164) (kz := 10) dX10_judge_164 zfX10_296 rfl rfl rfl ?_
  refine zV_icmp_ge (pc := 167) (tgt := 190) dX10_judge_167 (by decide) hx2 (hm0 _ _) (fun c1 => ?_) (fun c1 => ?_)
  · skip
    replace h := h.1 c1
    refine zV_iconst (pc := 190) dX10_judge_190 ?_
    exact zV_iret (pc := 191) rfl dX10_judge_191 (inRd rfl) h
  · skip
    replace h := h.2 c1
    refine zV_iload_n (pc := 170) dX10_judge_170 rfl 1 rfl ?_
    refine zV_iload_n (pc := 171) dX10_judge_171 rfl 2 rfl ?_
    refine zV_ishr (pc := 172) dX10_judge_172 ?_
    refine zV_iconst (pc := 173) dX10_judge_173 ?_
    refine zV_iand (pc := 174) dX10_judge_174 ?_
    refine zV_iconst (pc := 175) dX10_judge_175 ?_
    refine zV_icmp_ne (pc := 176) (tgt := 184) dX10_judge_176 (by decide) (inR_zand _ _) (inRd rfl) (fun c2 => ?_) (fun c2 => ?_)
    · skip
      replace h := h.2 c2
      refine zV_iinc (pc := 184) (loc' := [(2, .int (iz (x2 + 1))), (0, rr K 98), (1, .int (iz x1))]) dX10_judge_184 2 rfl (by decide) rfl ?_
      refine zV_goto (pc := 187) (tgt := 162) dX10_judge_187 (by decide) ?_
      exact zV_sub [1, 2, 0] rfl h
    · replace c2 := Classical.not_not.mp c2
      replace h := h.1 c2
      refine zV_bipush (pc := 179) dX10_judge_179 (by decide) ?_
      refine zV_iload_n (pc := 181) dX10_judge_181 rfl 2 rfl ?_
      refine zV_iadd (pc := 182) dX10_judge_182 ?_
      obtain ⟨o3, h⟩ := h
      exact zV_iret (pc := 183) rfl dX10_judge_183 o3 h

set_option maxRecDepth 100000 in
set_option maxHeartbeats 4000000 in
theorem vc_X10_far_0 {K : zCx} {d : Nat} (x1 : Int) (x2 : Int) (m0 : zM) {Q : Int → zM → Prop} (hx1 : inR x1) (hx2 : inR x2) (h : zok m0 → (0 ≤ m0.1 98 4) ∧ (((0 ≤ x1 ∧ x1 < m0.1 98 4) → zCt K (d + 6) mX10_missing [rr K 98] m0 (fun r5 m6 => inR r5 → zok m6 → (r5 = 0 → (0 ≤ 10 * x1 + 3) ∧ ((10 * x1 + 3 < 100) ∧ (∀ v12 : Int, v12 = (m6.1 100 (10 * x1 + 3)) → (zV K mX10_far (d + 7) 33 [(0, rr K 98), (1, .int (iz x1)), (2, .int (iz x2)), (3, .int (iz v12)), (4, .int (iz 0)), (5, .int (iz 1))] [] m6 Q)))) ∧ (¬ (r5 = 0) → Q (-5) m6))) ∧ (¬ ((0 ≤ x1 ∧ x1 < m0.1 98 4)) → Q (-1) m0))) : zV K mX10_far (d + 7) 0 [(0, rr K 98), (1, .int (iz x1)), (2, .int (iz x2))] [] m0 Q := by
  refine zV_ok (fun hm0 => ?_)
  replace h := h hm0
  refine zV_aloadr_n (pc := 0) dX10_far_0 rfl 0 rfl ?_
  refine zV_iload_n (pc := 1) dX10_far_1 rfl 1 rfl ?_
  obtain ⟨o1, h⟩ := h
  refine zV_callVf (pc := 2) (mc := mX10_isPart) (As := [.int (iz x1)]) (rest := []) dX10_far_2 zcX10_134 ziX10_isPart zsX10_isPart rfl rfl rfl rfl (Nat.le_of_ble_eq_true rfl) (c_X10_isPart hx1 hm0 o1) (fun hr2 => ?_)
  refine zV_if_ne (pc := 5) (tgt := 10) dX10_far_5 (by decide) (inR_b2i _) (fun c4 => ?_) (fun c4 => ?_)
  · replace c4 := b2i_tp c4
    replace h := h.1 c4
    refine zV_aloadr_n (pc := 10) dX10_far_10 rfl 0 rfl ?_
    refine zV_callV (pc := 11) (mc := mX10_missing) (As := []) (rest := []) dX10_far_11 zcX10_314 ziX10_missing zsX10_missing rfl rfl rfl rfl (Nat.le_of_ble_eq_true rfl) h (fun r5 m6 hr5 h => zV_ok (fun hm6 => ?_))
    replace h := h hr5 hm6
    refine zV_if_eq (pc := 14) (tgt := 20) dX10_far_14 (by decide) hr5 (fun c7 => ?_) (fun c7 => ?_)
    · skip
      replace h := h.1 c7
      refine zV_aloadr_n (pc := 20) dX10_far_20 rfl 0 rfl ?_
      refine zV_iload_n (pc := 21) dX10_far_21 rfl 1 rfl ?_
      refine zV_iconst (pc := 22) dX10_far_22 ?_
      obtain ⟨o8, h⟩ := h
      obtain ⟨o9, h⟩ := h
      refine zV_callVf (pc := 23) (mc := mX10_its) (As := [.int (iz x1), .int (iz 3)]) (rest := []) dX10_far_23 zcX10_137 ziX10_its zsX10_its rfl rfl rfl rfl (Nat.le_of_ble_eq_true rfl) (c_X10_its (inRd rfl) hx1 hm6 o8 o9) (fun hr10 => ?_)
      refine zV_name (fun v12 e13 => ?_)
      replace h := h v12 e13
      have hrv12 : inR v12 := by rw [e13]; exact hr10
      refine zV_istore_n (pc := 26) (loc' := [(3, .int (iz v12)), (0, rr K 98), (1, .int (iz x1)), (2, .int (iz x2))]) dX10_far_26 rfl (by decide) rfl ?_
      refine zV_iconst (pc := 27) dX10_far_27 ?_
      refine zV_istore (pc := 28) (loc' := [(4, .int (iz 0)), (3, .int (iz v12)), (0, rr K 98), (1, .int (iz x1)), (2, .int (iz x2))]) dX10_far_28 (by decide) rfl ?_
      refine zV_iconst (pc := 30) dX10_far_30 ?_
      refine zV_istore (pc := 31) (loc' := [(5, .int (iz 1)), (4, .int (iz 0)), (3, .int (iz v12)), (0, rr K 98), (1, .int (iz x1)), (2, .int (iz x2))]) dX10_far_31 (by decide) rfl ?_
      exact zV_sub [3, 4, 5, 2, 1, 0] rfl h
    · skip
      replace h := h.2 c7
      refine zV_bipush (pc := 17) dX10_far_17 (by decide) ?_
      exact zV_iret (pc := 19) rfl dX10_far_19 (inRd rfl) h
  · replace c4 := b2i_fn c4
    replace h := h.2 c4
    refine zV_iconst (pc := 8) dX10_far_8 ?_
    exact zV_iret (pc := 9) rfl dX10_far_9 (inRd rfl) h
set_option maxRecDepth 100000 in
set_option maxHeartbeats 4000000 in
theorem vc_X10_far_33 {K : zCx} {d : Nat} (x1 : Int) (x2 : Int) (x3 : Int) (x4 : Int) (x5 : Int) (m0 : zM) {Q : Int → zM → Prop} (hx1 : inR x1) (hx2 : inR x2) (hx3 : inR x3) (hx4 : inR x4) (hx5 : inR x5) (h : zok m0 → (x5 = 0 → 0 ≤ ((10 * x1) + 3) ∧ ((10 * x1) + 3) < 100 ∧ (∀ m4 : zM, m4 = sI m0 100 ((10 * x1) + 3) x3 → zok m4 → (Q x4 m4))) ∧ (¬ (x5 = 0) → ∀ v6 : Int, v6 = (if x2 = 0 then ((x3 - x4) - 1) else ((x3 + x4) + 1)) → (inR v6 ∧ (∀ v11 : Int, v11 = (b2i (decide (1 ≤ v6 ∧ v6 ≤ 9))) → ((v11 = 0 → zV K mX10_far (d + 7) 33 [(0, rr K 98), (1, .int (iz x1)), (2, .int (iz x2)), (3, .int (iz x3)), (4, .int (iz x4)), (5, .int (iz v11))] [] m0 Q) ∧ (¬ (v11 = 0) → 0 ≤ ((10 * x1) + 3) ∧ ((10 * x1) + 3) < 100 ∧ (∀ m16 : zM, m16 = sI m0 100 ((10 * x1) + 3) v6 → zok m16 → (zCt K (d + 6) mX10_missing [rr K 98] m16 (fun r18 m19 => inR r18 → zok m19 → ∀ v20 : Int, v20 = (if r18 = 0 then 1 else 0) → (∀ v22 : Int, v22 = (if v20 = 0 then 0 else 1) → (∀ v24 : Int, v24 = (x4 + v22) → (zV K mX10_far (d + 7) 33 [(0, rr K 98), (1, .int (iz x1)), (2, .int (iz x2)), (3, .int (iz x3)), (4, .int (iz v24)), (5, .int (iz v20))] [] m19 Q)))))))))))) : zV K mX10_far (d + 7) 33 [(0, rr K 98), (1, .int (iz x1)), (2, .int (iz x2)), (3, .int (iz x3)), (4, .int (iz x4)), (5, .int (iz x5))] [] m0 Q := by
  refine zV_ok (fun hm0 => ?_)
  replace h := h hm0
  refine zV_iload (pc := 33) dX10_far_33 5 rfl ?_
  refine zV_if_eq (pc := 35) (tgt := 119) dX10_far_35 (by decide) hx5 (fun c1 => ?_) (fun c1 => ?_)
  · skip
    replace h := h.1 c1
    refine zV_aloadr_n (pc := 119) dX10_far_119 rfl 0 rfl ?_
    refine zV_getR (pc := 120) (b := 100) dX10_far_120 zfX10_17 rfl rfl rfl ?_
    refine zV_bipush (pc := 123) dX10_far_123 (by decide) ?_
    refine zV_iload_n (pc := 125) dX10_far_125 rfl 1 rfl ?_
    refine zV_imul (pc := 126) dX10_far_126 ?_
    refine zV_iconst (pc := 127) dX10_far_127 ?_
    refine zV_iadd (pc := 128) dX10_far_128 ?_
    refine zV_iload_n (pc := 129) dX10_far_129 rfl 3 rfl ?_
    obtain ⟨o2, o3, h⟩ := h
    refine zV_iast (pc := 130) dX10_far_130 rfl o2 o3 (inR_ix o2 o3 rfl) hx3 ?_
    refine zV_mem (fun m4 e5 => zV_ok (fun hm4 => ?_))
    replace h := h m4 e5 hm4
    refine zV_iload (pc := 131) dX10_far_131 4 rfl ?_
    exact zV_iret (pc := 133) rfl dX10_far_133 hx4 h
  · skip
    replace h := h.2 c1
    refine zV_iload_n (pc := 38) dX10_far_38 rfl 2 rfl ?_
    have key : ∀ v6 : Int, v6 = (if x2 = 0 then ((x3 - x4) - 1) else ((x3 + x4) + 1)) → zV K mX10_far (d + 7) 57 [(0, rr K 98), (1, .int (iz x1)), (2, .int (iz x2)), (3, .int (iz x3)), (4, .int (iz x4))] [.int (iz v6)] m0 Q := by
      intro v6 e7
      replace h := h v6 e7
      refine zV_istore (pc := 57) (loc' := [(6, .int (iz v6)), (0, rr K 98), (1, .int (iz x1)), (2, .int (iz x2)), (3, .int (iz x3)), (4, .int (iz x4))]) dX10_far_57 (by decide) rfl ?_
      refine zV_iload (pc := 59) dX10_far_59 0 rfl ?_
      refine zV_iconst (pc := 61) dX10_far_61 ?_
      refine zV_bipush (pc := 62) dX10_far_62 (by decide) ?_
      obtain ⟨o8, h⟩ := h
      refine zV_callSf (pc := 64) (mc := mX10_in) (As := [.int (iz v6), .int (iz 1), .int (iz 9)]) (rest := []) dX10_far_64 zcX10_114 ztX10_in rfl rfl (Nat.le_of_ble_eq_true rfl) (c_X10_in o8 (inRd rfl) (inRd rfl)) (fun hr9 => ?_)
      refine zV_name (fun v11 e12 => ?_)
      replace h := h v11 e12
      have hrv11 : inR v11 := by rw [e12]; exact (inR_b2i _)
      refine zV_istore (pc := 67) (loc' := [(5, .int (iz v11)), (6, .int (iz v6)), (0, rr K 98), (1, .int (iz x1)), (2, .int (iz x2)), (3, .int (iz x3)), (4, .int (iz x4))]) dX10_far_67 (by decide) rfl ?_
      refine zV_iload (pc := 69) dX10_far_69 0 rfl ?_
      refine zV_if_eq (pc := 71) (tgt := 116) dX10_far_71 (by decide) hrv11 (fun c13 => ?_) (fun c13 => ?_)
      · skip
        replace h := h.1 c13
        refine zV_goto (pc := 116) (tgt := 33) dX10_far_116 (by decide) ?_
        exact zV_sub [2, 3, 4, 5, 6, 0] rfl h
      · skip
        replace h := h.2 c13
        refine zV_aloadr_n (pc := 74) dX10_far_74 rfl 2 rfl ?_
        refine zV_getR (pc := 75) (b := 100) dX10_far_75 zfX10_17 rfl rfl rfl ?_
        refine zV_bipush (pc := 78) dX10_far_78 (by decide) ?_
        refine zV_iload_n (pc := 80) dX10_far_80 rfl 3 rfl ?_
        refine zV_imul (pc := 81) dX10_far_81 ?_
        refine zV_iconst (pc := 82) dX10_far_82 ?_
        refine zV_iadd (pc := 83) dX10_far_83 ?_
        refine zV_iload (pc := 84) dX10_far_84 1 rfl ?_
        obtain ⟨o14, o15, h⟩ := h
        refine zV_iast (pc := 86) dX10_far_86 rfl o14 o15 (inR_ix o14 o15 rfl) o8 ?_
        refine zV_mem (fun m16 e17 => zV_ok (fun hm16 => ?_))
        replace h := h m16 e17 hm16
        refine zV_aloadr_n (pc := 87) dX10_far_87 rfl 2 rfl ?_
        refine zV_callV (pc := 88) (mc := mX10_missing) (As := []) (rest := []) dX10_far_88 zcX10_314 ziX10_missing zsX10_missing rfl rfl rfl rfl (Nat.le_of_ble_eq_true rfl) h (fun r18 m19 hr18 h => zV_ok (fun hm19 => ?_))
        replace h := h hr18 hm19
        have key : ∀ v20 : Int, v20 = (if r18 = 0 then 1 else 0) → zV K mX10_far (d + 7) 99 [(0, rr K 98), (1, .int (iz x1)), (2, .int (iz x2)), (3, .int (iz x3)), (4, .int (iz x4))] [.int (iz v20)] m19 Q := by
          intro v20 e21
          replace h := h v20 e21
          have hrv20 : inR v20 := by rw [e21]; (repeat' split) <;> first | with_reducible exact (inRd rfl)
          refine zV_istore (pc := 99) (loc' := [(5, .int (iz v20)), (0, rr K 98), (1, .int (iz x1)), (2, .int (iz x2)), (3, .int (iz x3)), (4, .int (iz x4))]) dX10_far_99 (by decide) rfl ?_
          refine zV_iload (pc := 101) dX10_far_101 5 rfl ?_
          refine zV_iload (pc := 103) dX10_far_103 0 rfl ?_
          have key : ∀ v22 : Int, v22 = (if v20 = 0 then 0 else 1) → zV K mX10_far (d + 7) 113 [(5, .int (iz v20)), (0, rr K 98), (1, .int (iz x1)), (2, .int (iz x2)), (3, .int (iz x3))] [.int (iz v22), .int (iz x4)] m19 Q := by
            intro v22 e23
            replace h := h v22 e23
            have hrv22 : inR v22 := by rw [e23]; (repeat' split) <;> first | with_reducible exact (inRd rfl)
            refine zV_iadd (pc := 113) dX10_far_113 ?_
            refine zV_name (fun v24 e25 => ?_)
            replace h := h v24 e25
            refine zV_istore (pc := 114) (loc' := [(4, .int (iz v24)), (5, .int (iz v20)), (0, rr K 98), (1, .int (iz x1)), (2, .int (iz x2)), (3, .int (iz x3))]) dX10_far_114 (by decide) rfl ?_
            refine zV_goto (pc := 116) (tgt := 33) dX10_far_116 (by decide) ?_
            exact zV_sub [2, 3, 4, 5, 0, 1] rfl h
          refine zV_if_eq (pc := 105) (tgt := 112) dX10_far_105 (by decide) hrv20 (fun c26 => ?_) (fun c26 => ?_)
          · skip
            refine zV_iconst (pc := 112) dX10_far_112 ?_
            exact zV_sub [0, 1, 2, 3, 4] rfl (key _ (if_pos c26).symm)
          · skip
            refine zV_iconst (pc := 108) dX10_far_108 ?_
            refine zV_goto (pc := 109) (tgt := 113) dX10_far_109 (by decide) ?_
            exact zV_sub [0, 1, 2, 3, 4] rfl (key _ (if_neg c26).symm)
        refine zV_if_ne (pc := 91) (tgt := 98) dX10_far_91 (by decide) hr18 (fun c27 => ?_) (fun c27 => ?_)
        · skip
          refine zV_iconst (pc := 98) dX10_far_98 ?_
          exact zV_sub [2, 3, 4, 5, 6] rfl (key _ (if_neg c27).symm)
        · replace c27 := Classical.not_not.mp c27
          refine zV_iconst (pc := 94) dX10_far_94 ?_
          refine zV_goto (pc := 95) (tgt := 99) dX10_far_95 (by decide) ?_
          exact zV_sub [2, 3, 4, 5, 6] rfl (key _ (if_pos c27).symm)
    refine zV_if_eq (pc := 39) (tgt := 51) dX10_far_39 (by decide) hx2 (fun c28 => ?_) (fun c28 => ?_)
    · skip
      refine zV_iload_n (pc := 51) dX10_far_51 rfl 3 rfl ?_
      refine zV_iload (pc := 52) dX10_far_52 4 rfl ?_
      refine zV_isub (pc := 54) dX10_far_54 ?_
      refine zV_iconst (pc := 55) dX10_far_55 ?_
      refine zV_isub (pc := 56) dX10_far_56 ?_
      exact zV_sub [0, 1, 2, 3, 4] rfl (key _ (if_pos c28).symm)
    · skip
      refine zV_iload_n (pc := 42) dX10_far_42 rfl 3 rfl ?_
      refine zV_iload (pc := 43) dX10_far_43 4 rfl ?_
      refine zV_iadd (pc := 45) dX10_far_45 ?_
      refine zV_iconst (pc := 46) dX10_far_46 ?_
      refine zV_iadd (pc := 47) dX10_far_47 ?_
      refine zV_goto (pc := 48) (tgt := 57) dX10_far_48 (by decide) ?_
      exact zV_sub [0, 1, 2, 3, 4] rfl (key _ (if_neg c28).symm)

set_option maxRecDepth 100000 in
set_option maxHeartbeats 4000000 in
theorem vc_X10_falls_0 {K : zCx} {d : Nat} (x1 : Int) (x2 : Int) (m0 : zM) {Q : Int → zM → Prop} (hx1 : inR x1) (hx2 : inR x2) (h : zok m0 → (0 ≤ m0.1 98 4) ∧ (((0 ≤ x1 ∧ x1 < m0.1 98 4) → ((1 ≤ x2 ∧ x2 ≤ 2) → (0 ≤ 10 * x1 + 4) ∧ ((10 * x1 + 4 < 100) ∧ (∀ v12 : Int, v12 = (m0.1 100 (10 * x1 + 4)) → (0 ≤ ((10 * x1) + 4) ∧ ((10 * x1) + 4) < 100 ∧ (∀ m16 : zM, m16 = sI m0 100 ((10 * x1) + 4) 0 → zok m16 → (zCt K (d + 6) mX10_missing [rr K 98] m16 (fun r18 m19 => inR r18 → zok m19 → ∀ m20 : zM, m20 = sI m19 100 ((10 * x1) + 4) x2 → zok m20 → (zCt K (d + 6) mX10_missing [rr K 98] m20 (fun r22 m23 => inR r22 → zok m23 → ∀ m24 : zM, m24 = sI m23 100 ((10 * x1) + 4) v12 → zok m24 → (Q (zand r22 (zxor r18 (-1))) m24)))))))))) ∧ (¬ ((1 ≤ x2 ∧ x2 ≤ 2)) → Q (-1) m0)) ∧ (¬ ((0 ≤ x1 ∧ x1 < m0.1 98 4)) → Q (-1) m0))) : zV K mX10_falls (d + 7) 0 [(0, rr K 98), (1, .int (iz x1)), (2, .int (iz x2))] [] m0 Q := by
  refine zV_ok (fun hm0 => ?_)
  replace h := h hm0
  refine zV_aloadr_n (pc := 0) dX10_falls_0 rfl 0 rfl ?_
  refine zV_iload_n (pc := 1) dX10_falls_1 rfl 1 rfl ?_
  obtain ⟨o1, h⟩ := h
  refine zV_callVf (pc := 2) (mc := mX10_isPart) (As := [.int (iz x1)]) (rest := []) dX10_falls_2 zcX10_134 ziX10_isPart zsX10_isPart rfl rfl rfl rfl (Nat.le_of_ble_eq_true rfl) (c_X10_isPart hx1 hm0 o1) (fun hr2 => ?_)
  refine zV_if_eq (pc := 5) (tgt := 17) dX10_falls_5 (by decide) (inR_b2i _) (fun c4 => ?_) (fun c4 => ?_)
  · replace c4 := b2i_fp c4
    replace h := h.2 c4
    refine zV_iconst (pc := 17) dX10_falls_17 ?_
    exact zV_iret (pc := 18) rfl dX10_falls_18 (inRd rfl) h
  · replace c4 := b2i_tp c4
    replace h := h.1 c4
    refine zV_iload_n (pc := 8) dX10_falls_8 rfl 2 rfl ?_
    refine zV_iconst (pc := 9) dX10_falls_9 ?_
    refine zV_iconst (pc := 10) dX10_falls_10 ?_
    refine zV_callSf (pc := 11) (mc := mX10_in) (As := [.int (iz x2), .int (iz 1), .int (iz 2)]) (rest := []) dX10_falls_11 zcX10_114 ztX10_in rfl rfl (Nat.le_of_ble_eq_true rfl) (c_X10_in hx2 (inRd rfl) (inRd rfl)) (fun hr5 => ?_)
    refine zV_if_ne (pc := 14) (tgt := 19) dX10_falls_14 (by decide) (inR_b2i _) (fun c7 => ?_) (fun c7 => ?_)
    · replace c7 := b2i_tp c7
      replace h := h.1 c7
      refine zV_aloadr_n (pc := 19) dX10_falls_19 rfl 0 rfl ?_
      refine zV_iload_n (pc := 20) dX10_falls_20 rfl 1 rfl ?_
      refine zV_iconst (pc := 21) dX10_falls_21 ?_
      obtain ⟨o8, h⟩ := h
      obtain ⟨o9, h⟩ := h
      refine zV_callVf (pc := 22) (mc := mX10_its) (As := [.int (iz x1), .int (iz 4)]) (rest := []) dX10_falls_22 zcX10_137 ziX10_its zsX10_its rfl rfl rfl rfl (Nat.le_of_ble_eq_true rfl) (c_X10_its (inRd rfl) hx1 hm0 o8 o9) (fun hr10 => ?_)
      refine zV_name (fun v12 e13 => ?_)
      replace h := h v12 e13
      have hrv12 : inR v12 := by rw [e13]; exact hr10
      refine zV_istore_n (pc := 25) (loc' := [(3, .int (iz v12)), (0, rr K 98), (1, .int (iz x1)), (2, .int (iz x2))]) dX10_falls_25 rfl (by decide) rfl ?_
      refine zV_aloadr_n (pc := 26) dX10_falls_26 rfl 1 rfl ?_
      refine zV_getR (pc := 27) (b := 100) dX10_falls_27 zfX10_17 rfl rfl rfl ?_
      refine zV_bipush (pc := 30) dX10_falls_30 (by decide) ?_
      refine zV_iload_n (pc := 32) dX10_falls_32 rfl 2 rfl ?_
      refine zV_imul (pc := 33) dX10_falls_33 ?_
      refine zV_iconst (pc := 34) dX10_falls_34 ?_
      refine zV_iadd (pc := 35) dX10_falls_35 ?_
      refine zV_iconst (pc := 36) dX10_falls_36 ?_
      obtain ⟨o14, o15, h⟩ := h
      refine zV_iast (pc := 37) dX10_falls_37 rfl o14 o15 (inR_ix o14 o15 rfl) (inRd rfl) ?_
      refine zV_mem (fun m16 e17 => zV_ok (fun hm16 => ?_))
      replace h := h m16 e17 hm16
      refine zV_aloadr_n (pc := 38) dX10_falls_38 rfl 1 rfl ?_
      refine zV_callV (pc := 39) (mc := mX10_missing) (As := []) (rest := []) dX10_falls_39 zcX10_314 ziX10_missing zsX10_missing rfl rfl rfl rfl (Nat.le_of_ble_eq_true rfl) h (fun r18 m19 hr18 h => zV_ok (fun hm19 => ?_))
      replace h := h hr18 hm19
      refine zV_istore (pc := 42) (loc' := [(4, .int (iz r18)), (3, .int (iz v12)), (0, rr K 98), (1, .int (iz x1)), (2, .int (iz x2))]) dX10_falls_42 (by decide) rfl ?_
      refine zV_aloadr_n (pc := 44) dX10_falls_44 rfl 2 rfl ?_
      refine zV_getR (pc := 45) (b := 100) dX10_falls_45 zfX10_17 rfl rfl rfl ?_
      refine zV_bipush (pc := 48) dX10_falls_48 (by decide) ?_
      refine zV_iload_n (pc := 50) dX10_falls_50 rfl 3 rfl ?_
      refine zV_imul (pc := 51) dX10_falls_51 ?_
      refine zV_iconst (pc := 52) dX10_falls_52 ?_
      refine zV_iadd (pc := 53) dX10_falls_53 ?_
      refine zV_iload_n (pc := 54) dX10_falls_54 rfl 4 rfl ?_
      refine zV_iast (pc := 55) dX10_falls_55 rfl o14 o15 (inR_ix o14 o15 rfl) hx2 ?_
      refine zV_mem (fun m20 e21 => zV_ok (fun hm20 => ?_))
      replace h := h m20 e21 hm20
      refine zV_aloadr_n (pc := 56) dX10_falls_56 rfl 2 rfl ?_
      refine zV_callV (pc := 57) (mc := mX10_missing) (As := []) (rest := []) dX10_falls_57 zcX10_314 ziX10_missing zsX10_missing rfl rfl rfl rfl (Nat.le_of_ble_eq_true rfl) h (fun r22 m23 hr22 h => zV_ok (fun hm23 => ?_))
      replace h := h hr22 hm23
      refine zV_istore (pc := 60) (loc' := [(5, .int (iz r22)), (4, .int (iz r18)), (3, .int (iz v12)), (0, rr K 98), (1, .int (iz x1)), (2, .int (iz x2))]) dX10_falls_60 (by decide) rfl ?_
      refine zV_aloadr_n (pc := 62) dX10_falls_62 rfl 3 rfl ?_
      refine zV_getR (pc := 63) (b := 100) dX10_falls_63 zfX10_17 rfl rfl rfl ?_
      refine zV_bipush (pc := 66) dX10_falls_66 (by decide) ?_
      refine zV_iload_n (pc := 68) dX10_falls_68 rfl 4 rfl ?_
      refine zV_imul (pc := 69) dX10_falls_69 ?_
      refine zV_iconst (pc := 70) dX10_falls_70 ?_
      refine zV_iadd (pc := 71) dX10_falls_71 ?_
      refine zV_iload_n (pc := 72) dX10_falls_72 rfl 2 rfl ?_
      refine zV_iast (pc := 73) dX10_falls_73 rfl o14 o15 (inR_ix o14 o15 rfl) hrv12 ?_
      refine zV_mem (fun m24 e25 => zV_ok (fun hm24 => ?_))
      replace h := h m24 e25 hm24
      refine zV_iload (pc := 74) dX10_falls_74 0 rfl ?_
      refine zV_iload (pc := 76) dX10_falls_76 1 rfl ?_
      refine zV_iconst (pc := 78) dX10_falls_78 ?_
      refine zV_ixor (pc := 79) dX10_falls_79 ?_
      refine zV_iand (pc := 80) dX10_falls_80 ?_
      exact zV_iret (pc := 81) rfl dX10_falls_81 (inR_zand _ _) h
    · replace c7 := b2i_fn c7
      replace h := h.2 c7
      refine zV_iconst (pc := 17) dX10_falls_17 ?_
      exact zV_iret (pc := 18) rfl dX10_falls_18 (inRd rfl) h

set_option maxRecDepth 100000 in
set_option maxHeartbeats 4000000 in
theorem vc_X10_change_0 {K : zCx} {d : Nat} (x1 : Int) (x2 : Int) (m0 : zM) {Q : Int → zM → Prop} (hx1 : inR x1) (hx2 : inR x2) (h : zok m0 → (0 ≤ m0.1 98 4) ∧ (((0 ≤ x1 ∧ x1 < m0.1 98 4) → ((0 ≤ x2 ∧ x2 ≤ 2) → ((m0.1 98 7) = 6 → Q (-2) m0) ∧ (¬ ((m0.1 98 7) = 6) → 0 ≤ (2 * (m0.1 98 7)) ∧ (2 * (m0.1 98 7)) < 12 ∧ (∀ m11 : zM, m11 = sI m0 102 (2 * (m0.1 98 7)) x1 → zok m11 → (0 ≤ ((2 * (m11.1 98 7)) + 1) ∧ ((2 * (m11.1 98 7)) + 1) < 12 ∧ (∀ m15 : zM, m15 = sI m11 102 ((2 * (m11.1 98 7)) + 1) x2 → zok m15 → (inR ((m15.1 98 7) + 1) ∧ (∀ m18 : zM, m18 = sI m15 98 7 ((m15.1 98 7) + 1) → zok m18 → (inR ((m18.1 98 7) - 1) ∧ (Q ((m18.1 98 7) - 1) m18))))))))) ∧ (¬ ((0 ≤ x2 ∧ x2 ≤ 2)) → Q (-1) m0)) ∧ (¬ ((0 ≤ x1 ∧ x1 < m0.1 98 4)) → Q (-1) m0))) : zV K mX10_change (d + 3) 0 [(0, rr K 98), (1, .int (iz x1)), (2, .int (iz x2))] [] m0 Q := by
  refine zV_ok (fun hm0 => ?_)
  replace h := h hm0
  refine zV_aloadr_n (pc := 0) dX10_change_0 rfl 0 rfl ?_
  refine zV_iload_n (pc := 1) dX10_change_1 rfl 1 rfl ?_
  obtain ⟨o1, h⟩ := h
  refine zV_callVf (pc := 2) (mc := mX10_isPart) (As := [.int (iz x1)]) (rest := []) dX10_change_2 zcX10_134 ziX10_isPart zsX10_isPart rfl rfl rfl rfl (Nat.le_of_ble_eq_true rfl) (c_X10_isPart hx1 hm0 o1) (fun hr2 => ?_)
  refine zV_if_eq (pc := 5) (tgt := 17) dX10_change_5 (by decide) (inR_b2i _) (fun c4 => ?_) (fun c4 => ?_)
  · replace c4 := b2i_fp c4
    replace h := h.2 c4
    refine zV_iconst (pc := 17) dX10_change_17 ?_
    exact zV_iret (pc := 18) rfl dX10_change_18 (inRd rfl) h
  · replace c4 := b2i_tp c4
    replace h := h.1 c4
    refine zV_iload_n (pc := 8) dX10_change_8 rfl 2 rfl ?_
    refine zV_iconst (pc := 9) dX10_change_9 ?_
    refine zV_iconst (pc := 10) dX10_change_10 ?_
    refine zV_callSf (pc := 11) (mc := mX10_in) (As := [.int (iz x2), .int (iz 0), .int (iz 2)]) (rest := []) dX10_change_11 zcX10_114 ztX10_in rfl rfl (Nat.le_of_ble_eq_true rfl) (c_X10_in hx2 (inRd rfl) (inRd rfl)) (fun hr5 => ?_)
    refine zV_if_ne (pc := 14) (tgt := 19) dX10_change_14 (by decide) (inR_b2i _) (fun c7 => ?_) (fun c7 => ?_)
    · replace c7 := b2i_tp c7
      replace h := h.1 c7
      refine zV_aloadr_n (pc := 19) dX10_change_19 rfl 0 rfl ?_
      refine zV_getI (pc := 20) (kz := 7) dX10_change_20 zfX10_153 rfl rfl rfl ?_
      refine zV_bipush (pc := 23) dX10_change_23 (by decide) ?_
      refine zV_icmp_ne (pc := 25) (tgt := 31) dX10_change_25 (by decide) (hm0 _ _) (inRd rfl) (fun c8 => ?_) (fun c8 => ?_)
      · skip
        replace h := h.2 c8
        refine zV_aloadr_n (pc := 31) dX10_change_31 rfl 0 rfl ?_
        refine zV_getR (pc := 32) (b := 102) dX10_change_32 zfX10_23 rfl rfl rfl ?_
        refine zV_iconst (pc := 35) dX10_change_35 ?_
        refine zV_aloadr_n (pc := 36) dX10_change_36 rfl 0 rfl ?_
        refine zV_getI (pc := 37) (kz := 7) dX10_change_37 zfX10_153 rfl rfl rfl ?_
        refine zV_imul (pc := 40) dX10_change_40 ?_
        refine zV_iload_n (pc := 41) dX10_change_41 rfl 1 rfl ?_
        obtain ⟨o9, o10, h⟩ := h
        refine zV_iast (pc := 42) dX10_change_42 rfl o9 o10 (inR_ix o9 o10 rfl) hx1 ?_
        refine zV_mem (fun m11 e12 => zV_ok (fun hm11 => ?_))
        replace h := h m11 e12 hm11
        refine zV_aloadr_n (pc := 43) dX10_change_43 rfl 0 rfl ?_
        refine zV_getR (pc := 44) (b := 102) dX10_change_44 zfX10_23 rfl rfl rfl ?_
        refine zV_iconst (pc := 47) dX10_change_47 ?_
        refine zV_aloadr_n (pc := 48) dX10_change_48 rfl 0 rfl ?_
        refine zV_getI (pc := 49) (kz := 7) dX10_change_49 zfX10_153 rfl rfl rfl ?_
        refine zV_imul (pc := 52) dX10_change_52 ?_
        refine zV_iconst (pc := 53) dX10_change_53 ?_
        refine zV_iadd (pc := 54) dX10_change_54 ?_
        refine zV_iload_n (pc := 55) dX10_change_55 rfl 2 rfl ?_
        obtain ⟨o13, o14, h⟩ := h
        refine zV_iast (pc := 56) dX10_change_56 rfl o13 o14 (inR_ix o13 o14 rfl) hx2 ?_
        refine zV_mem (fun m15 e16 => zV_ok (fun hm15 => ?_))
        replace h := h m15 e16 hm15
        refine zV_aloadr_n (pc := 57) dX10_change_57 rfl 0 rfl ?_
        refine zV_dup (pc := 58) dX10_change_58 rfl ?_
        refine zV_getI (pc := 59) (kz := 7) dX10_change_59 zfX10_153 rfl rfl rfl ?_
        refine zV_iconst (pc := 62) dX10_change_62 ?_
        refine zV_iadd (pc := 63) dX10_change_63 ?_
        obtain ⟨o17, h⟩ := h
        refine zV_putI (pc := 64) (kz := 7) dX10_change_64 zpX10_153 rfl rfl rfl o17 rfl rfl ?_
        refine zV_mem (fun m18 e19 => zV_ok (fun hm18 => ?_))
        replace h := h m18 e19 hm18
        refine zV_aloadr_n (pc := 67) dX10_change_67 rfl 0 rfl ?_
        refine zV_getI (pc := 68) (kz := 7) dX10_change_68 zfX10_153 rfl rfl rfl ?_
        refine zV_iconst (pc := 71) dX10_change_71 ?_
        refine zV_isub (pc := 72) dX10_change_72 ?_
        obtain ⟨o20, h⟩ := h
        exact zV_iret (pc := 73) rfl dX10_change_73 o20 h
      · replace c8 := Classical.not_not.mp c8
        replace h := h.1 c8
        refine zV_bipush (pc := 28) dX10_change_28 (by decide) ?_
        exact zV_iret (pc := 30) rfl dX10_change_30 (inRd rfl) h
    · replace c7 := b2i_fn c7
      replace h := h.2 c7
      refine zV_iconst (pc := 17) dX10_change_17 ?_
      exact zV_iret (pc := 18) rfl dX10_change_18 (inRd rfl) h

set_option maxRecDepth 100000 in
set_option maxHeartbeats 4000000 in
theorem vc_X10_bits_0 {K : zCx} {d : Nat} (x0 : Int) (m0 : zM) {Q : Int → zM → Prop} (hx0 : inR x0) (h : zok m0 → zV K mX10_bits (d + 1) 4 [(0, .int (iz x0)), (1, .int (iz 0)), (2, .int (iz 0))] [] m0 Q) : zV K mX10_bits (d + 1) 0 [(0, .int (iz x0))] [] m0 Q := by
  refine zV_ok (fun hm0 => ?_)
  replace h := h hm0
  refine zV_iconst (pc := 0) dX10_bits_0 ?_
  refine zV_istore_n (pc := 1) (loc' := [(1, .int (iz 0)), (0, .int (iz x0))]) dX10_bits_1 rfl (by decide) rfl ?_
  refine zV_iconst (pc := 2) dX10_bits_2 ?_
  refine zV_istore_n (pc := 3) (loc' := [(2, .int (iz 0)), (1, .int (iz 0)), (0, .int (iz x0))]) dX10_bits_3 rfl (by decide) rfl ?_
  exact zV_sub [2, 1, 0] rfl h
set_option maxRecDepth 100000 in
set_option maxHeartbeats 4000000 in
theorem vc_X10_bits_4 {K : zCx} {d : Nat} (x0 : Int) (x1 : Int) (x2 : Int) (m0 : zM) {Q : Int → zM → Prop} (hx0 : inR x0) (hx1 : inR x1) (hx2 : inR x2) (h : zok m0 → (10 ≤ x2 → Q x1 m0) ∧ (¬ (10 ≤ x2) → ∀ v2 : Int, v2 = (x1 + (zand (zshr x0 x2) 1)) → (zV K mX10_bits (d + 1) 4 [(0, .int (iz x0)), (1, .int (iz v2)), (2, .int (iz (x2 + 1)))] [] m0 Q))) : zV K mX10_bits (d + 1) 4 [(0, .int (iz x0)), (1, .int (iz x1)), (2, .int (iz x2))] [] m0 Q := by
  refine zV_ok (fun hm0 => ?_)
  replace h := h hm0
  refine zV_iload_n (pc := 4) dX10_bits_4 rfl 2 rfl ?_
  refine zV_bipush (pc := 5) dX10_bits_5 (by decide) ?_
  refine zV_icmp_ge (pc := 7) (tgt := 24) dX10_bits_7 (by decide) hx2 (inRd rfl) (fun c1 => ?_) (fun c1 => ?_)
  · skip
    replace h := h.1 c1
    refine zV_iload_n (pc := 24) dX10_bits_24 rfl 1 rfl ?_
    exact zV_iret (pc := 25) rfl dX10_bits_25 hx1 h
  · skip
    replace h := h.2 c1
    refine zV_iload_n (pc := 10) dX10_bits_10 rfl 1 rfl ?_
    refine zV_iload_n (pc := 11) dX10_bits_11 rfl 0 rfl ?_
    refine zV_iload_n (pc := 12) dX10_bits_12 rfl 2 rfl ?_
    refine zV_ishr (pc := 13) dX10_bits_13 ?_
    refine zV_iconst (pc := 14) dX10_bits_14 ?_
    refine zV_iand (pc := 15) dX10_bits_15 ?_
    refine zV_iadd (pc := 16) dX10_bits_16 ?_
    refine zV_name (fun v2 e3 => ?_)
    replace h := h v2 e3
    refine zV_istore_n (pc := 17) (loc' := [(1, .int (iz v2)), (0, .int (iz x0)), (2, .int (iz x2))]) dX10_bits_17 rfl (by decide) rfl ?_
    refine zV_iinc (pc := 18) (loc' := [(2, .int (iz (x2 + 1))), (1, .int (iz v2)), (0, .int (iz x0))]) dX10_bits_18 2 rfl (by decide) rfl ?_
    refine zV_goto (pc := 21) (tgt := 4) dX10_bits_21 (by decide) ?_
    exact zV_sub [2, 1, 0] rfl h

set_option maxRecDepth 100000 in
set_option maxHeartbeats 4000000 in
theorem vc_X10_helps_0 {K : zCx} {d : Nat} (x1 : Int) (m0 : zM) {Q : Int → zM → Prop} (hx1 : inR x1) (h : zok m0 → zV K mX10_helps (d + 7) 2 [(0, rr K 98), (1, .int (iz x1)), (2, .int (iz 0))] [] m0 Q) : zV K mX10_helps (d + 7) 0 [(0, rr K 98), (1, .int (iz x1))] [] m0 Q := by
  refine zV_ok (fun hm0 => ?_)
  replace h := h hm0
  refine zV_iconst (pc := 0) dX10_helps_0 ?_
  refine zV_istore_n (pc := 1) (loc' := [(2, .int (iz 0)), (0, rr K 98), (1, .int (iz x1))]) dX10_helps_1 rfl (by decide) rfl ?_
  exact zV_sub [1, 2, 0] rfl h
set_option maxRecDepth 100000 in
set_option maxHeartbeats 4000000 in
theorem vc_X10_helps_2 {K : zCx} {d : Nat} (x1 : Int) (x2 : Int) (m0 : zM) {Q : Int → zM → Prop} (hx1 : inR x1) (hx2 : inR x2) (h : zok m0 → (100 ≤ x2 → zV K mX10_helps (d + 7) 28 [(0, rr K 98), (1, .int (iz x1)), (2, .int (iz 0))] [] m0 Q) ∧ (¬ (100 ≤ x2) → 0 ≤ x2 ∧ x2 < 100 ∧ (∀ m4 : zM, m4 = sI m0 121 x2 (m0.1 100 x2) → zok m4 → (zV K mX10_helps (d + 7) 2 [(0, rr K 98), (1, .int (iz x1)), (2, .int (iz (x2 + 1)))] [] m4 Q)))) : zV K mX10_helps (d + 7) 2 [(0, rr K 98), (1, .int (iz x1)), (2, .int (iz x2))] [] m0 Q := by
  refine zV_ok (fun hm0 => ?_)
  replace h := h hm0
  refine zV_iload_n (pc := 2) dX10_helps_2 rfl 2 rfl ?_
  refine zV_bipush (pc := 3) dX10_helps_3 (by decide) ?_
  refine zV_icmp_ge (pc := 5) (tgt := 26) dX10_helps_5 (by decide) hx2 (inRd rfl) (fun c1 => ?_) (fun c1 => ?_)
  · skip
    replace h := h.1 c1
    refine zV_iconst (pc := 26) dX10_helps_26 ?_
    refine zV_istore_n (pc := 27) (loc' := [(2, .int (iz 0)), (0, rr K 98), (1, .int (iz x1))]) dX10_helps_27 rfl (by decide) rfl ?_
    exact zV_sub [1, 2, 0] rfl h
  · skip
    replace h := h.2 c1
    refine zV_aloadr_n (pc := 8) dX10_helps_8 rfl 0 rfl ?_
    refine zV_getR (pc := 9) (b := 121) dX10_helps_9 zfX10_80 rfl rfl rfl ?_
    refine zV_iload_n (pc := 12) dX10_helps_12 rfl 2 rfl ?_
    refine zV_aloadr_n (pc := 13) dX10_helps_13 rfl 0 rfl ?_
    refine zV_getR (pc := 14) (b := 100) dX10_helps_14 zfX10_17 rfl rfl rfl ?_
    refine zV_iload_n (pc := 17) dX10_helps_17 rfl 2 rfl ?_
    obtain ⟨o2, o3, h⟩ := h
    refine zV_iald (pc := 18) dX10_helps_18 rfl o2 o3 (inR_ix o2 o3 rfl) ?_
    refine zV_iast (pc := 19) dX10_helps_19 rfl o2 o3 (inR_ix o2 o3 rfl) (hm0 _ _) ?_
    refine zV_mem (fun m4 e5 => zV_ok (fun hm4 => ?_))
    replace h := h m4 e5 hm4
    refine zV_iinc (pc := 20) (loc' := [(2, .int (iz (x2 + 1))), (0, rr K 98), (1, .int (iz x1))]) dX10_helps_20 2 rfl (by decide) rfl ?_
    refine zV_goto (pc := 23) (tgt := 2) dX10_helps_23 (by decide) ?_
    exact zV_sub [1, 2, 0] rfl h
set_option maxRecDepth 100000 in
set_option maxHeartbeats 4000000 in
theorem vc_X10_helps_28 {K : zCx} {d : Nat} (x1 : Int) (x2 : Int) (m0 : zM) {Q : Int → zM → Prop} (hx1 : inR x1) (hx2 : inR x2) (h : zok m0 → ((m0.1 98 7) ≤ x2 → zCt K (d + 6) mX10_missing [rr K 98] m0 (fun r2 m3 => inR r2 → zok m3 → ∀ v4 : Int, v4 = (if r2 = 0 then 1 else 0) → (zV K mX10_helps (d + 7) 180 [(0, rr K 98), (2, .int (iz v4)), (3, .int (iz 0))] [] m3 Q))) ∧ (¬ ((m0.1 98 7) ≤ x2) → 0 ≤ (2 * x2) ∧ (2 * x2) < 12 ∧ (∀ v9 : Int, v9 = (10 * (m0.1 102 (2 * x2))) → (((zand (zshr x1 x2) 1) = 0 → ((-1 : Int) = 0 → 0 ≤ (v9 + 4) ∧ (v9 + 4) < 100 ∧ (∀ m58 : zM, m58 = sI m0 100 (v9 + 4) 1 → zok m58 → (zV K mX10_helps (d + 7) 28 [(0, rr K 98), (1, .int (iz x1)), (2, .int (iz (x2 + 1)))] [] m58 Q))) ∧ (¬ ((-1 : Int) = 0) → ((-1 : Int) = 1 → 0 ≤ (v9 + 1) ∧ (v9 + 1) < 100 ∧ (∀ v48 : Int, v48 = (m0.1 100 (v9 + 1)) → (0 ≤ (v9 + 2) ∧ (v9 + 2) < 100 ∧ (∀ m52 : zM, m52 = sI m0 100 (v9 + 1) (m0.1 100 (v9 + 2)) → zok m52 → (∀ m54 : zM, m54 = sI m52 100 (v9 + 2) v48 → zok m54 → (zV K mX10_helps (d + 7) 28 [(0, rr K 98), (1, .int (iz x1)), (2, .int (iz (x2 + 1)))] [] m54 Q)))))) ∧ (¬ ((-1 : Int) = 1) → ((-1 : Int) = 2 → 0 ≤ (v9 + 3) ∧ (v9 + 3) < 100 ∧ (inR (10 - (m0.1 100 (v9 + 3))) ∧ (∀ m44 : zM, m44 = sI m0 100 (v9 + 3) (10 - (m0.1 100 (v9 + 3))) → zok m44 → (zV K mX10_helps (d + 7) 28 [(0, rr K 98), (1, .int (iz x1)), (2, .int (iz (x2 + 1)))] [] m44 Q)))) ∧ (¬ ((-1 : Int) = 2) → zV K mX10_helps (d + 7) 28 [(0, rr K 98), (1, .int (iz x1)), (2, .int (iz (x2 + 1)))] [] m0 Q)))) ∧ (¬ ((zand (zshr x1 x2) 1) = 0) → 0 ≤ ((2 * x2) + 1) ∧ ((2 * x2) + 1) < 12 ∧ (∀ v14 : Int, v14 = (m0.1 102 ((2 * x2) + 1)) → ((v14 = 0 → 0 ≤ (v9 + 4) ∧ (v9 + 4) < 100 ∧ (∀ m36 : zM, m36 = sI m0 100 (v9 + 4) 1 → zok m36 → (zV K mX10_helps (d + 7) 28 [(0, rr K 98), (1, .int (iz x1)), (2, .int (iz (x2 + 1)))] [] m36 Q))) ∧ (¬ (v14 = 0) → (v14 = 1 → 0 ≤ (v9 + 1) ∧ (v9 + 1) < 100 ∧ (∀ v26 : Int, v26 = (m0.1 100 (v9 + 1)) → (0 ≤ (v9 + 2) ∧ (v9 + 2) < 100 ∧ (∀ m30 : zM, m30 = sI m0 100 (v9 + 1) (m0.1 100 (v9 + 2)) → zok m30 → (∀ m32 : zM, m32 = sI m30 100 (v9 + 2) v26 → zok m32 → (zV K mX10_helps (d + 7) 28 [(0, rr K 98), (1, .int (iz x1)), (2, .int (iz (x2 + 1)))] [] m32 Q)))))) ∧ (¬ (v14 = 1) → (v14 = 2 → 0 ≤ (v9 + 3) ∧ (v9 + 3) < 100 ∧ (inR (10 - (m0.1 100 (v9 + 3))) ∧ (∀ m22 : zM, m22 = sI m0 100 (v9 + 3) (10 - (m0.1 100 (v9 + 3))) → zok m22 → (zV K mX10_helps (d + 7) 28 [(0, rr K 98), (1, .int (iz x1)), (2, .int (iz (x2 + 1)))] [] m22 Q)))) ∧ (¬ (v14 = 2) → zV K mX10_helps (d + 7) 28 [(0, rr K 98), (1, .int (iz x1)), (2, .int (iz (x2 + 1)))] [] m0 Q)))))))))) : zV K mX10_helps (d + 7) 28 [(0, rr K 98), (1, .int (iz x1)), (2, .int (iz x2))] [] m0 Q := by
  refine zV_ok (fun hm0 => ?_)
  replace h := h hm0
  refine zV_iload_n (pc := 28) dX10_helps_28 rfl 2 rfl ?_
  refine zV_aloadr_n (pc := 29) dX10_helps_29 rfl 0 rfl ?_
  refine zV_getI (pc := 30) (kz := 7) dX10_helps_30 zfX10_153 rfl rfl rfl ?_
  refine zV_icmp_ge (pc := 33) (tgt := 165) dX10_helps_33 (by decide) hx2 (hm0 _ _) (fun c1 => ?_) (fun c1 => ?_)
  · skip
    replace h := h.1 c1
    refine zV_aloadr_n (pc := 165) dX10_helps_165 rfl 0 rfl ?_
    refine zV_callV (pc := 166) (mc := mX10_missing) (As := []) (rest := []) dX10_helps_166 zcX10_314 ziX10_missing zsX10_missing rfl rfl rfl rfl (Nat.le_of_ble_eq_true rfl) h (fun r2 m3 hr2 h => zV_ok (fun hm3 => ?_))
    replace h := h hr2 hm3
    have key : ∀ v4 : Int, v4 = (if r2 = 0 then 1 else 0) → zV K mX10_helps (d + 7) 177 [(0, rr K 98)] [.int (iz v4)] m3 Q := by
      intro v4 e5
      replace h := h v4 e5
      have hrv4 : inR v4 := by rw [e5]; (repeat' split) <;> first | with_reducible exact (inRd rfl)
      refine zV_istore_n (pc := 177) (loc' := [(2, .int (iz v4)), (0, rr K 98)]) dX10_helps_177 rfl (by decide) rfl ?_
      refine zV_iconst (pc := 178) dX10_helps_178 ?_
      refine zV_istore_n (pc := 179) (loc' := [(3, .int (iz 0)), (2, .int (iz v4)), (0, rr K 98)]) dX10_helps_179 rfl (by decide) rfl ?_
      exact zV_sub [2, 1, 0] rfl h
    refine zV_if_ne (pc := 169) (tgt := 176) dX10_helps_169 (by decide) hr2 (fun c6 => ?_) (fun c6 => ?_)
    · skip
      refine zV_iconst (pc := 176) dX10_helps_176 ?_
      exact zV_sub [0] rfl (key _ (if_neg c6).symm)
    · replace c6 := Classical.not_not.mp c6
      refine zV_iconst (pc := 172) dX10_helps_172 ?_
      refine zV_goto (pc := 173) (tgt := 177) dX10_helps_173 (by decide) ?_
      exact zV_sub [0] rfl (key _ (if_pos c6).symm)
  · skip
    replace h := h.2 c1
    refine zV_bipush (pc := 36) dX10_helps_36 (by decide) ?_
    refine zV_aloadr_n (pc := 38) dX10_helps_38 rfl 0 rfl ?_
    refine zV_getR (pc := 39) (b := 102) dX10_helps_39 zfX10_23 rfl rfl rfl ?_
    refine zV_iconst (pc := 42) dX10_helps_42 ?_
    refine zV_iload_n (pc := 43) dX10_helps_43 rfl 2 rfl ?_
    refine zV_imul (pc := 44) dX10_helps_44 ?_
    obtain ⟨o7, o8, h⟩ := h
    refine zV_iald (pc := 45) dX10_helps_45 rfl o7 o8 (inR_ix o7 o8 rfl) ?_
    refine zV_imul (pc := 46) dX10_helps_46 ?_
    refine zV_name (fun v9 e10 => ?_)
    replace h := h v9 e10
    refine zV_istore_n (pc := 47) (loc' := [(3, .int (iz v9)), (0, rr K 98), (1, .int (iz x1)), (2, .int (iz x2))]) dX10_helps_47 rfl (by decide) rfl ?_
    refine zV_iload_n (pc := 48) dX10_helps_48 rfl 2 rfl ?_
    refine zV_iload_n (pc := 49) dX10_helps_49 rfl 3 rfl ?_
    refine zV_ishr (pc := 50) dX10_helps_50 ?_
    refine zV_iconst (pc := 51) dX10_helps_51 ?_
    refine zV_iand (pc := 52) dX10_helps_52 ?_
    refine zV_if_ne (pc := 53) (tgt := 60) dX10_helps_53 (by decide) (inR_zand _ _) (fun c11 => ?_) (fun c11 => ?_)
    · skip
      replace h := h.2 c11
      refine zV_aloadr_n (pc := 60) dX10_helps_60 rfl 1 rfl ?_
      refine zV_getR (pc := 61) (b := 102) dX10_helps_61 zfX10_23 rfl rfl rfl ?_
      refine zV_iconst (pc := 64) dX10_helps_64 ?_
      refine zV_iload_n (pc := 65) dX10_helps_65 rfl 3 rfl ?_
      refine zV_imul (pc := 66) dX10_helps_66 ?_
      refine zV_iconst (pc := 67) dX10_helps_67 ?_
      refine zV_iadd (pc := 68) dX10_helps_68 ?_
      obtain ⟨o12, o13, h⟩ := h
      refine zV_iald (pc := 69) dX10_helps_69 rfl o12 o13 (inR_ix o12 o13 rfl) ?_
      refine zV_name (fun v14 e15 => ?_)
      replace h := h v14 e15
      have hrv14 : inR v14 := by rw [e15]; exact (hm0 _ _)
      refine zV_istore (pc := 70) (loc' := [(4, .int (iz v14)), (3, .int (iz v9)), (0, rr K 98), (1, .int (iz x1)), (2, .int (iz x2))]) dX10_helps_70 (by decide) rfl ?_
      refine zV_iload (pc := 72) dX10_helps_72 0 rfl ?_
      refine zV_if_ne (pc := 74) (tgt := 89) dX10_helps_74 (by decide) hrv14 (fun c16 => ?_) (fun c16 => ?_)
      · skip
        replace h := h.2 c16
        refine zV_iload (pc := 89) dX10_helps_89 0 rfl ?_
        refine zV_iconst (pc := 91) dX10_helps_91 ?_
        refine zV_icmp_ne (pc := 92) (tgt := 134) dX10_helps_92 (by decide) hrv14 (inRd rfl) (fun c17 => ?_) (fun c17 => ?_)
        · skip
          replace h := h.2 c17
          refine zV_iload (pc := 134) dX10_helps_134 0 rfl ?_
          refine zV_iconst (pc := 136) dX10_helps_136 ?_
          refine zV_icmp_ne (pc := 137) (tgt := 159) dX10_helps_137 (by decide) hrv14 (inRd rfl) (fun c18 => ?_) (fun c18 => ?_)
          · skip
            replace h := h.2 c18
            refine zV_iinc (pc := 159) (loc' := [(2, .int (iz (x2 + 1))), (4, .int (iz v14)), (3, .int (iz v9)), (0, rr K 98), (1, .int (iz x1))]) dX10_helps_159 4 rfl (by decide) rfl ?_
            refine zV_goto (pc := 162) (tgt := 28) dX10_helps_162 (by decide) ?_
            exact zV_sub [3, 4, 0] rfl h
          · replace c18 := Classical.not_not.mp c18
            replace h := h.1 c18
            refine zV_aloadr_n (pc := 140) dX10_helps_140 rfl 2 rfl ?_
            refine zV_getR (pc := 141) (b := 100) dX10_helps_141 zfX10_17 rfl rfl rfl ?_
            refine zV_iload_n (pc := 144) dX10_helps_144 rfl 1 rfl ?_
            refine zV_iconst (pc := 145) dX10_helps_145 ?_
            refine zV_iadd (pc := 146) dX10_helps_146 ?_
            refine zV_bipush (pc := 147) dX10_helps_147 (by decide) ?_
            refine zV_aloadr_n (pc := 149) dX10_helps_149 rfl 2 rfl ?_
            refine zV_getR (pc := 150) (b := 100) dX10_helps_150 zfX10_17 rfl rfl rfl ?_
            refine zV_iload_n (pc := 153) dX10_helps_153 rfl 1 rfl ?_
            refine zV_iconst (pc := 154) dX10_helps_154 ?_
            refine zV_iadd (pc := 155) dX10_helps_155 ?_
            obtain ⟨o19, o20, h⟩ := h
            refine zV_iald (pc := 156) dX10_helps_156 rfl o19 o20 (inR_ix o19 o20 rfl) ?_
            refine zV_isub (pc := 157) dX10_helps_157 ?_
            obtain ⟨o21, h⟩ := h
            refine zV_iast (pc := 158) dX10_helps_158 rfl o19 o20 (inR_ix o19 o20 rfl) o21 ?_
            refine zV_mem (fun m22 e23 => zV_ok (fun hm22 => ?_))
            replace h := h m22 e23 hm22
            refine zV_iinc (pc := 159) (loc' := [(2, .int (iz (x2 + 1))), (4, .int (iz v14)), (3, .int (iz v9)), (0, rr K 98), (1, .int (iz x1))]) dX10_helps_159 4 rfl (by decide) rfl ?_
            refine zV_goto (pc := 162) (tgt := 28) dX10_helps_162 (by decide) ?_
            exact zV_sub [3, 4, 0] rfl h
        · replace c17 := Classical.not_not.mp c17
          replace h := h.1 c17
          refine zV_aloadr_n (pc := 95) dX10_helps_95 rfl 2 rfl ?_
          refine zV_getR (pc := 96) (b := 100) dX10_helps_96 zfX10_17 rfl rfl rfl ?_
          refine zV_iload_n (pc := 99) dX10_helps_99 rfl 1 rfl ?_
          refine zV_iconst (pc := 100) dX10_helps_100 ?_
          refine zV_iadd (pc := 101) dX10_helps_101 ?_
          obtain ⟨o24, o25, h⟩ := h
          refine zV_iald (pc := 102) dX10_helps_102 rfl o24 o25 (inR_ix o24 o25 rfl) ?_
          refine zV_name (fun v26 e27 => ?_)
          replace h := h v26 e27
          have hrv26 : inR v26 := by rw [e27]; exact (hm0 _ _)
          refine zV_istore (pc := 103) (loc' := [(5, .int (iz v26)), (4, .int (iz v14)), (3, .int (iz v9)), (0, rr K 98), (1, .int (iz x1)), (2, .int (iz x2))]) dX10_helps_103 (by decide) rfl ?_
          refine zV_aloadr_n (pc := 105) dX10_helps_105 rfl 3 rfl ?_
          refine zV_getR (pc := 106) (b := 100) dX10_helps_106 zfX10_17 rfl rfl rfl ?_
          refine zV_iload_n (pc := 109) dX10_helps_109 rfl 2 rfl ?_
          refine zV_iconst (pc := 110) dX10_helps_110 ?_
          refine zV_iadd (pc := 111) dX10_helps_111 ?_
          refine zV_aloadr_n (pc := 112) dX10_helps_112 rfl 3 rfl ?_
          refine zV_getR (pc := 113) (b := 100) dX10_helps_113 zfX10_17 rfl rfl rfl ?_
          refine zV_iload_n (pc := 116) dX10_helps_116 rfl 2 rfl ?_
          refine zV_iconst (pc := 117) dX10_helps_117 ?_
          refine zV_iadd (pc := 118) dX10_helps_118 ?_
          obtain ⟨o28, o29, h⟩ := h
          refine zV_iald (pc := 119) dX10_helps_119 rfl o28 o29 (inR_ix o28 o29 rfl) ?_
          refine zV_iast (pc := 120) dX10_helps_120 rfl o24 o25 (inR_ix o24 o25 rfl) (hm0 _ _) ?_
          refine zV_mem (fun m30 e31 => zV_ok (fun hm30 => ?_))
          replace h := h m30 e31 hm30
          refine zV_aloadr_n (pc := 121) dX10_helps_121 rfl 3 rfl ?_
          refine zV_getR (pc := 122) (b := 100) dX10_helps_122 zfX10_17 rfl rfl rfl ?_
          refine zV_iload_n (pc := 125) dX10_helps_125 rfl 2 rfl ?_
          refine zV_iconst (pc := 126) dX10_helps_126 ?_
          refine zV_iadd (pc := 127) dX10_helps_127 ?_
          refine zV_iload (pc := 128) dX10_helps_128 0 rfl ?_
          refine zV_iast (pc := 130) dX10_helps_130 rfl o28 o29 (inR_ix o28 o29 rfl) hrv26 ?_
          refine zV_mem (fun m32 e33 => zV_ok (fun hm32 => ?_))
          replace h := h m32 e33 hm32
          refine zV_goto (pc := 131) (tgt := 159) dX10_helps_131 (by decide) ?_
          refine zV_iinc (pc := 159) (loc' := [(2, .int (iz (x2 + 1))), (5, .int (iz v26)), (4, .int (iz v14)), (3, .int (iz v9)), (0, rr K 98), (1, .int (iz x1))]) dX10_helps_159 5 rfl (by decide) rfl ?_
          refine zV_goto (pc := 162) (tgt := 28) dX10_helps_162 (by decide) ?_
          exact zV_sub [4, 5, 0] rfl h
      · replace c16 := Classical.not_not.mp c16
        replace h := h.1 c16
        refine zV_aloadr_n (pc := 77) dX10_helps_77 rfl 2 rfl ?_
        refine zV_getR (pc := 78) (b := 100) dX10_helps_78 zfX10_17 rfl rfl rfl ?_
        refine zV_iload_n (pc := 81) dX10_helps_81 rfl 1 rfl ?_
        refine zV_iconst (pc := 82) dX10_helps_82 ?_
        refine zV_iadd (pc := 83) dX10_helps_83 ?_
        refine zV_iconst (pc := 84) dX10_helps_84 ?_
        obtain ⟨o34, o35, h⟩ := h
        refine zV_iast (pc := 85) dX10_helps_85 rfl o34 o35 (inR_ix o34 o35 rfl) (inRd rfl) ?_
        refine zV_mem (fun m36 e37 => zV_ok (fun hm36 => ?_))
        replace h := h m36 e37 hm36
        refine zV_goto (pc := 86) (tgt := 159) dX10_helps_86 (by decide) ?_
        refine zV_iinc (pc := 159) (loc' := [(2, .int (iz (x2 + 1))), (4, .int (iz v14)), (3, .int (iz v9)), (0, rr K 98), (1, .int (iz x1))]) dX10_helps_159 4 rfl (by decide) rfl ?_
        refine zV_goto (pc := 162) (tgt := 28) dX10_helps_162 (by decide) ?_
        exact zV_sub [3, 4, 0] rfl h
    · replace c11 := Classical.not_not.mp c11
      replace h := h.1 c11
      refine zV_iconst (pc := 56) dX10_helps_56 ?_
      refine zV_goto (pc := 57) (tgt := 70) dX10_helps_57 (by decide) ?_
      refine zV_istore (pc := 70) (loc' := [(4, .int (iz (-1))), (3, .int (iz v9)), (0, rr K 98), (1, .int (iz x1)), (2, .int (iz x2))]) dX10_helps_70 (by decide) rfl ?_
      refine zV_iload (pc := 72) dX10_helps_72 0 rfl ?_
      refine zV_if_ne (pc := 74) (tgt := 89) dX10_helps_74 (by decide) (inRd rfl) (fun c38 => ?_) (fun c38 => ?_)
      · skip
        replace h := h.2 c38
        refine zV_iload (pc := 89) dX10_helps_89 0 rfl ?_
        refine zV_iconst (pc := 91) dX10_helps_91 ?_
        refine zV_icmp_ne (pc := 92) (tgt := 134) dX10_helps_92 (by decide) (inRd rfl) (inRd rfl) (fun c39 => ?_) (fun c39 => ?_)
        · skip
          replace h := h.2 c39
          refine zV_iload (pc := 134) dX10_helps_134 0 rfl ?_
          refine zV_iconst (pc := 136) dX10_helps_136 ?_
          refine zV_icmp_ne (pc := 137) (tgt := 159) dX10_helps_137 (by decide) (inRd rfl) (inRd rfl) (fun c40 => ?_) (fun c40 => ?_)
          · skip
            replace h := h.2 c40
            refine zV_iinc (pc := 159) (loc' := [(2, .int (iz (x2 + 1))), (4, .int (iz (-1))), (3, .int (iz v9)), (0, rr K 98), (1, .int (iz x1))]) dX10_helps_159 4 rfl (by decide) rfl ?_
            refine zV_goto (pc := 162) (tgt := 28) dX10_helps_162 (by decide) ?_
            exact zV_sub [3, 4, 0] rfl h
          · replace c40 := Classical.not_not.mp c40
            replace h := h.1 c40
            refine zV_aloadr_n (pc := 140) dX10_helps_140 rfl 2 rfl ?_
            refine zV_getR (pc := 141) (b := 100) dX10_helps_141 zfX10_17 rfl rfl rfl ?_
            refine zV_iload_n (pc := 144) dX10_helps_144 rfl 1 rfl ?_
            refine zV_iconst (pc := 145) dX10_helps_145 ?_
            refine zV_iadd (pc := 146) dX10_helps_146 ?_
            refine zV_bipush (pc := 147) dX10_helps_147 (by decide) ?_
            refine zV_aloadr_n (pc := 149) dX10_helps_149 rfl 2 rfl ?_
            refine zV_getR (pc := 150) (b := 100) dX10_helps_150 zfX10_17 rfl rfl rfl ?_
            refine zV_iload_n (pc := 153) dX10_helps_153 rfl 1 rfl ?_
            refine zV_iconst (pc := 154) dX10_helps_154 ?_
            refine zV_iadd (pc := 155) dX10_helps_155 ?_
            obtain ⟨o41, o42, h⟩ := h
            refine zV_iald (pc := 156) dX10_helps_156 rfl o41 o42 (inR_ix o41 o42 rfl) ?_
            refine zV_isub (pc := 157) dX10_helps_157 ?_
            obtain ⟨o43, h⟩ := h
            refine zV_iast (pc := 158) dX10_helps_158 rfl o41 o42 (inR_ix o41 o42 rfl) o43 ?_
            refine zV_mem (fun m44 e45 => zV_ok (fun hm44 => ?_))
            replace h := h m44 e45 hm44
            refine zV_iinc (pc := 159) (loc' := [(2, .int (iz (x2 + 1))), (4, .int (iz (-1))), (3, .int (iz v9)), (0, rr K 98), (1, .int (iz x1))]) dX10_helps_159 4 rfl (by decide) rfl ?_
            refine zV_goto (pc := 162) (tgt := 28) dX10_helps_162 (by decide) ?_
            exact zV_sub [3, 4, 0] rfl h
        · replace c39 := Classical.not_not.mp c39
          replace h := h.1 c39
          refine zV_aloadr_n (pc := 95) dX10_helps_95 rfl 2 rfl ?_
          refine zV_getR (pc := 96) (b := 100) dX10_helps_96 zfX10_17 rfl rfl rfl ?_
          refine zV_iload_n (pc := 99) dX10_helps_99 rfl 1 rfl ?_
          refine zV_iconst (pc := 100) dX10_helps_100 ?_
          refine zV_iadd (pc := 101) dX10_helps_101 ?_
          obtain ⟨o46, o47, h⟩ := h
          refine zV_iald (pc := 102) dX10_helps_102 rfl o46 o47 (inR_ix o46 o47 rfl) ?_
          refine zV_name (fun v48 e49 => ?_)
          replace h := h v48 e49
          have hrv48 : inR v48 := by rw [e49]; exact (hm0 _ _)
          refine zV_istore (pc := 103) (loc' := [(5, .int (iz v48)), (4, .int (iz (-1))), (3, .int (iz v9)), (0, rr K 98), (1, .int (iz x1)), (2, .int (iz x2))]) dX10_helps_103 (by decide) rfl ?_
          refine zV_aloadr_n (pc := 105) dX10_helps_105 rfl 3 rfl ?_
          refine zV_getR (pc := 106) (b := 100) dX10_helps_106 zfX10_17 rfl rfl rfl ?_
          refine zV_iload_n (pc := 109) dX10_helps_109 rfl 2 rfl ?_
          refine zV_iconst (pc := 110) dX10_helps_110 ?_
          refine zV_iadd (pc := 111) dX10_helps_111 ?_
          refine zV_aloadr_n (pc := 112) dX10_helps_112 rfl 3 rfl ?_
          refine zV_getR (pc := 113) (b := 100) dX10_helps_113 zfX10_17 rfl rfl rfl ?_
          refine zV_iload_n (pc := 116) dX10_helps_116 rfl 2 rfl ?_
          refine zV_iconst (pc := 117) dX10_helps_117 ?_
          refine zV_iadd (pc := 118) dX10_helps_118 ?_
          obtain ⟨o50, o51, h⟩ := h
          refine zV_iald (pc := 119) dX10_helps_119 rfl o50 o51 (inR_ix o50 o51 rfl) ?_
          refine zV_iast (pc := 120) dX10_helps_120 rfl o46 o47 (inR_ix o46 o47 rfl) (hm0 _ _) ?_
          refine zV_mem (fun m52 e53 => zV_ok (fun hm52 => ?_))
          replace h := h m52 e53 hm52
          refine zV_aloadr_n (pc := 121) dX10_helps_121 rfl 3 rfl ?_
          refine zV_getR (pc := 122) (b := 100) dX10_helps_122 zfX10_17 rfl rfl rfl ?_
          refine zV_iload_n (pc := 125) dX10_helps_125 rfl 2 rfl ?_
          refine zV_iconst (pc := 126) dX10_helps_126 ?_
          refine zV_iadd (pc := 127) dX10_helps_127 ?_
          refine zV_iload (pc := 128) dX10_helps_128 0 rfl ?_
          refine zV_iast (pc := 130) dX10_helps_130 rfl o50 o51 (inR_ix o50 o51 rfl) hrv48 ?_
          refine zV_mem (fun m54 e55 => zV_ok (fun hm54 => ?_))
          replace h := h m54 e55 hm54
          refine zV_goto (pc := 131) (tgt := 159) dX10_helps_131 (by decide) ?_
          refine zV_iinc (pc := 159) (loc' := [(2, .int (iz (x2 + 1))), (5, .int (iz v48)), (4, .int (iz (-1))), (3, .int (iz v9)), (0, rr K 98), (1, .int (iz x1))]) dX10_helps_159 5 rfl (by decide) rfl ?_
          refine zV_goto (pc := 162) (tgt := 28) dX10_helps_162 (by decide) ?_
          exact zV_sub [4, 5, 0] rfl h
      · replace c38 := Classical.not_not.mp c38
        replace h := h.1 c38
        refine zV_aloadr_n (pc := 77) dX10_helps_77 rfl 2 rfl ?_
        refine zV_getR (pc := 78) (b := 100) dX10_helps_78 zfX10_17 rfl rfl rfl ?_
        refine zV_iload_n (pc := 81) dX10_helps_81 rfl 1 rfl ?_
        refine zV_iconst (pc := 82) dX10_helps_82 ?_
        refine zV_iadd (pc := 83) dX10_helps_83 ?_
        refine zV_iconst (pc := 84) dX10_helps_84 ?_
        obtain ⟨o56, o57, h⟩ := h
        refine zV_iast (pc := 85) dX10_helps_85 rfl o56 o57 (inR_ix o56 o57 rfl) (inRd rfl) ?_
        refine zV_mem (fun m58 e59 => zV_ok (fun hm58 => ?_))
        replace h := h m58 e59 hm58
        refine zV_goto (pc := 86) (tgt := 159) dX10_helps_86 (by decide) ?_
        refine zV_iinc (pc := 159) (loc' := [(2, .int (iz (x2 + 1))), (4, .int (iz (-1))), (3, .int (iz v9)), (0, rr K 98), (1, .int (iz x1))]) dX10_helps_159 4 rfl (by decide) rfl ?_
        refine zV_goto (pc := 162) (tgt := 28) dX10_helps_162 (by decide) ?_
        exact zV_sub [3, 4, 0] rfl h
set_option maxRecDepth 100000 in
set_option maxHeartbeats 4000000 in
theorem vc_X10_helps_180 {K : zCx} {d : Nat} (x2 : Int) (x3 : Int) (m0 : zM) {Q : Int → zM → Prop} (hx2 : inR x2) (hx3 : inR x3) (h : zok m0 → (100 ≤ x3 → (x2 = 0 ∨ x2 = 1) ∧ (Q x2 m0)) ∧ (¬ (100 ≤ x3) → 0 ≤ x3 ∧ x3 < 100 ∧ (∀ m5 : zM, m5 = sI m0 100 x3 (m0.1 121 x3) → zok m5 → (zV K mX10_helps (d + 7) 180 [(0, rr K 98), (2, .int (iz x2)), (3, .int (iz (x3 + 1)))] [] m5 Q)))) : zV K mX10_helps (d + 7) 180 [(0, rr K 98), (2, .int (iz x2)), (3, .int (iz x3))] [] m0 Q := by
  refine zV_ok (fun hm0 => ?_)
  replace h := h hm0
  refine zV_iload_n (pc := 180) dX10_helps_180 rfl 2 rfl ?_
  refine zV_bipush (pc := 181) dX10_helps_181 (by decide) ?_
  refine zV_icmp_ge (pc := 183) (tgt := 204) dX10_helps_183 (by decide) hx3 (inRd rfl) (fun c1 => ?_) (fun c1 => ?_)
  · skip
    replace h := h.1 c1
    refine zV_iload_n (pc := 204) dX10_helps_204 rfl 1 rfl ?_
    obtain ⟨o2, h⟩ := h
    exact zV_zret (pc := 205) rfl dX10_helps_205 o2 h
  · skip
    replace h := h.2 c1
    refine zV_aloadr_n (pc := 186) dX10_helps_186 rfl 0 rfl ?_
    refine zV_getR (pc := 187) (b := 100) dX10_helps_187 zfX10_17 rfl rfl rfl ?_
    refine zV_iload_n (pc := 190) dX10_helps_190 rfl 2 rfl ?_
    refine zV_aloadr_n (pc := 191) dX10_helps_191 rfl 0 rfl ?_
    refine zV_getR (pc := 192) (b := 121) dX10_helps_192 zfX10_80 rfl rfl rfl ?_
    refine zV_iload_n (pc := 195) dX10_helps_195 rfl 2 rfl ?_
    obtain ⟨o3, o4, h⟩ := h
    refine zV_iald (pc := 196) dX10_helps_196 rfl o3 o4 (inR_ix o3 o4 rfl) ?_
    refine zV_iast (pc := 197) dX10_helps_197 rfl o3 o4 (inR_ix o3 o4 rfl) (hm0 _ _) ?_
    refine zV_mem (fun m5 e6 => zV_ok (fun hm5 => ?_))
    replace h := h m5 e6 hm5
    refine zV_iinc (pc := 198) (loc' := [(3, .int (iz (x3 + 1))), (0, rr K 98), (2, .int (iz x2))]) dX10_helps_198 2 rfl (by decide) rfl ?_
    refine zV_goto (pc := 201) (tgt := 180) dX10_helps_201 (by decide) ?_
    exact zV_sub [1, 2, 0] rfl h

set_option maxRecDepth 100000 in
set_option maxHeartbeats 4000000 in
theorem vc_X10_help_0 {K : zCx} {d : Nat}  (m0 : zM) {Q : Int → zM → Prop}  (h : zok m0 → zV K mX10_help (d + 8) 2 [(0, rr K 98), (1, .int (iz 0))] [] m0 Q) : zV K mX10_help (d + 8) 0 [(0, rr K 98)] [] m0 Q := by
  refine zV_ok (fun hm0 => ?_)
  replace h := h hm0
  refine zV_iconst (pc := 0) dX10_help_0 ?_
  refine zV_istore_n (pc := 1) (loc' := [(1, .int (iz 0)), (0, rr K 98)]) dX10_help_1 rfl (by decide) rfl ?_
  exact zV_sub [1, 0] rfl h
set_option maxRecDepth 100000 in
set_option maxHeartbeats 4000000 in
theorem vc_X10_help_2 {K : zCx} {d : Nat} (x1 : Int) (m0 : zM) {Q : Int → zM → Prop} (hx1 : inR x1) (h : zok m0 → ((m0.1 98 7) < x1 → Q (-3) m0) ∧ (¬ ((m0.1 98 7) < x1) → zV K mX10_help (d + 8) 12 [(0, rr K 98), (1, .int (iz x1)), (2, .int (iz 0))] [] m0 Q)) : zV K mX10_help (d + 8) 2 [(0, rr K 98), (1, .int (iz x1))] [] m0 Q := by
  refine zV_ok (fun hm0 => ?_)
  replace h := h hm0
  refine zV_iload_n (pc := 2) dX10_help_2 rfl 1 rfl ?_
  refine zV_aloadr_n (pc := 3) dX10_help_3 rfl 0 rfl ?_
  refine zV_getI (pc := 4) (kz := 7) dX10_help_4 zfX10_153 rfl rfl rfl ?_
  refine zV_icmp_gt (pc := 7) (tgt := 52) dX10_help_7 (by decide) hx1 (hm0 _ _) (fun c1 => ?_) (fun c1 => ?_)
  · skip
    replace h := h.1 c1
    refine zV_bipush (pc := 52) dX10_help_52 (by decide) ?_
    exact zV_iret (pc := 54) rfl dX10_help_54 (inRd rfl) h
  · skip
    replace h := h.2 c1
    refine zV_iconst (pc := 10) dX10_help_10 ?_
    refine zV_istore_n (pc := 11) (loc' := [(2, .int (iz 0)), (0, rr K 98), (1, .int (iz x1))]) dX10_help_11 rfl (by decide) rfl ?_
    exact zV_sub [1, 2, 0] rfl h
set_option maxRecDepth 100000 in
set_option maxHeartbeats 4000000 in
theorem vc_X10_help_12 {K : zCx} {d : Nat} (x1 : Int) (x2 : Int) (m0 : zM) {Q : Int → zM → Prop} (hx1 : inR x1) (hx2 : inR x2) (h : zok m0 → ((zshl 1 (m0.1 98 7)) ≤ x2 → zV K mX10_help (d + 8) 2 [(0, rr K 98), (1, .int (iz (x1 + 1)))] [] m0 Q) ∧ (¬ ((zshl 1 (m0.1 98 7)) ≤ x2) → zCt K (d + 7) mX10_bits [.int (iz x2)] m0 (fun r2 m3 => inR r2 → zok m3 → (r2 = x1 → zCt K (d + 7) mX10_helps [rr K 98, .int (iz x2)] m3 (fun r5 m6 => inR r5 → zok m6 → (r5 = 0 → zV K mX10_help (d + 8) 12 [(0, rr K 98), (1, .int (iz x1)), (2, .int (iz (x2 + 1)))] [] m6 Q) ∧ (¬ (r5 = 0) → Q x2 m6))) ∧ (¬ (r2 = x1) → zV K mX10_help (d + 8) 12 [(0, rr K 98), (1, .int (iz x1)), (2, .int (iz (x2 + 1)))] [] m3 Q)))) : zV K mX10_help (d + 8) 12 [(0, rr K 98), (1, .int (iz x1)), (2, .int (iz x2))] [] m0 Q := by
  refine zV_ok (fun hm0 => ?_)
  replace h := h hm0
  refine zV_iload_n (pc := 12) dX10_help_12 rfl 2 rfl ?_
  refine zV_iconst (pc := 13) dX10_help_13 ?_
  refine zV_aloadr_n (pc := 14) dX10_help_14 rfl 0 rfl ?_
  refine zV_getI (pc := 15) (kz := 7) dX10_help_15 zfX10_153 rfl rfl rfl ?_
  refine zV_ishl (pc := 18) dX10_help_18 ?_
  refine zV_icmp_ge (pc := 19) (tgt := 46) dX10_help_19 (by decide) hx2 (inR_zshl _ _) (fun c1 => ?_) (fun c1 => ?_)
  · skip
    replace h := h.1 c1
    refine zV_iinc (pc := 46) (loc' := [(1, .int (iz (x1 + 1))), (0, rr K 98), (2, .int (iz x2))]) dX10_help_46 1 rfl (by decide) rfl ?_
    refine zV_goto (pc := 49) (tgt := 2) dX10_help_49 (by decide) ?_
    exact zV_sub [1, 0] rfl h
  · skip
    replace h := h.2 c1
    refine zV_iload_n (pc := 22) dX10_help_22 rfl 2 rfl ?_
    refine zV_callS (pc := 23) (mc := mX10_bits) (As := [.int (iz x2)]) (rest := []) dX10_help_23 zcX10_346 ztX10_bits rfl rfl (Nat.le_of_ble_eq_true rfl) h (fun r2 m3 hr2 h => zV_ok (fun hm3 => ?_))
    replace h := h hr2 hm3
    refine zV_iload_n (pc := 26) dX10_help_26 rfl 1 rfl ?_
    refine zV_icmp_ne (pc := 27) (tgt := 40) dX10_help_27 (by decide) hr2 hx1 (fun c4 => ?_) (fun c4 => ?_)
    · skip
      replace h := h.2 c4
      refine zV_iinc (pc := 40) (loc' := [(2, .int (iz (x2 + 1))), (0, rr K 98), (1, .int (iz x1))]) dX10_help_40 2 rfl (by decide) rfl ?_
      refine zV_goto (pc := 43) (tgt := 12) dX10_help_43 (by decide) ?_
      exact zV_sub [1, 2, 0] rfl h
    · replace c4 := Classical.not_not.mp c4
      replace h := h.1 c4
      refine zV_aloadr_n (pc := 30) dX10_help_30 rfl 0 rfl ?_
      refine zV_iload_n (pc := 31) dX10_help_31 rfl 2 rfl ?_
      refine zV_callV (pc := 32) (mc := mX10_helps) (As := [.int (iz x2)]) (rest := []) dX10_help_32 zcX10_349 ziX10_helps zsX10_helps rfl rfl rfl rfl (Nat.le_of_ble_eq_true rfl) h (fun r5 m6 hr5 h => zV_ok (fun hm6 => ?_))
      replace h := h hr5 hm6
      refine zV_if_eq (pc := 35) (tgt := 40) dX10_help_35 (by decide) hr5 (fun c7 => ?_) (fun c7 => ?_)
      · skip
        replace h := h.1 c7
        refine zV_iinc (pc := 40) (loc' := [(2, .int (iz (x2 + 1))), (0, rr K 98), (1, .int (iz x1))]) dX10_help_40 2 rfl (by decide) rfl ?_
        refine zV_goto (pc := 43) (tgt := 12) dX10_help_43 (by decide) ?_
        exact zV_sub [1, 2, 0] rfl h
      · skip
        replace h := h.2 c7
        refine zV_iload_n (pc := 38) dX10_help_38 rfl 2 rfl ?_
        exact zV_iret (pc := 39) rfl dX10_help_39 hx2 h

set_option maxRecDepth 100000 in
set_option maxHeartbeats 4000000 in
theorem vc_X10_measured_0 {K : zCx} {d : Nat} (x1 : Int) (x2 : Int) (m0 : zM) {Q : Int → zM → Prop} (hx1 : inR x1) (hx2 : inR x2) (h : zok m0 → ((2 ≤ x1 ∧ x1 ≤ 4) → (((-1) ≤ x2 ∧ x2 ≤ 20) → 0 ≤ (x1 - 2) ∧ (x1 - 2) < 3 ∧ (∀ v9 : Int, v9 = (m0.1 103 (x1 - 2)) → (∀ m11 : zM, m11 = sI m0 103 (x1 - 2) x2 → zok m11 → (Q v9 m11)))) ∧ (¬ (((-1) ≤ x2 ∧ x2 ≤ 20)) → Q (-9) m0)) ∧ (¬ ((2 ≤ x1 ∧ x1 ≤ 4)) → Q (-9) m0)) : zV K mX10_measured (d + 2) 0 [(0, rr K 98), (1, .int (iz x1)), (2, .int (iz x2))] [] m0 Q := by
  refine zV_ok (fun hm0 => ?_)
  replace h := h hm0
  refine zV_iload_n (pc := 0) dX10_measured_0 rfl 1 rfl ?_
  refine zV_iconst (pc := 1) dX10_measured_1 ?_
  refine zV_iconst (pc := 2) dX10_measured_2 ?_
  refine zV_callSf (pc := 3) (mc := mX10_in) (As := [.int (iz x1), .int (iz 2), .int (iz 4)]) (rest := []) dX10_measured_3 zcX10_114 ztX10_in rfl rfl (Nat.le_of_ble_eq_true rfl) (c_X10_in hx1 (inRd rfl) (inRd rfl)) (fun hr1 => ?_)
  refine zV_if_eq (pc := 6) (tgt := 19) dX10_measured_6 (by decide) (inR_b2i _) (fun c3 => ?_) (fun c3 => ?_)
  · replace c3 := b2i_fp c3
    replace h := h.2 c3
    refine zV_bipush (pc := 19) dX10_measured_19 (by decide) ?_
    exact zV_iret (pc := 21) rfl dX10_measured_21 (inRd rfl) h
  · replace c3 := b2i_tp c3
    replace h := h.1 c3
    refine zV_iload_n (pc := 9) dX10_measured_9 rfl 2 rfl ?_
    refine zV_iconst (pc := 10) dX10_measured_10 ?_
    refine zV_bipush (pc := 11) dX10_measured_11 (by decide) ?_
    refine zV_callSf (pc := 13) (mc := mX10_in) (As := [.int (iz x2), .int (iz (-1)), .int (iz 20)]) (rest := []) dX10_measured_13 zcX10_114 ztX10_in rfl rfl (Nat.le_of_ble_eq_true rfl) (c_X10_in hx2 (inRd rfl) (inRd rfl)) (fun hr4 => ?_)
    refine zV_if_ne (pc := 16) (tgt := 22) dX10_measured_16 (by decide) (inR_b2i _) (fun c6 => ?_) (fun c6 => ?_)
    · replace c6 := b2i_tp c6
      replace h := h.1 c6
      refine zV_aloadr_n (pc := 22) dX10_measured_22 rfl 0 rfl ?_
      refine zV_getR (pc := 23) (b := 103) dX10_measured_23 zfX10_26 rfl rfl rfl ?_
      refine zV_iload_n (pc := 26) dX10_measured_26 rfl 1 rfl ?_
      refine zV_iconst (pc := 27) dX10_measured_27 ?_
      refine zV_isub (pc := 28) dX10_measured_28 ?_
      obtain ⟨o7, o8, h⟩ := h
      refine zV_iald (pc := 29) dX10_measured_29 rfl o7 o8 (inR_ix o7 o8 rfl) ?_
      refine zV_name (fun v9 e10 => ?_)
      replace h := h v9 e10
      have hrv9 : inR v9 := by rw [e10]; exact (hm0 _ _)
      refine zV_istore_n (pc := 30) (loc' := [(3, .int (iz v9)), (0, rr K 98), (1, .int (iz x1)), (2, .int (iz x2))]) dX10_measured_30 rfl (by decide) rfl ?_
      refine zV_aloadr_n (pc := 31) dX10_measured_31 rfl 1 rfl ?_
      refine zV_getR (pc := 32) (b := 103) dX10_measured_32 zfX10_26 rfl rfl rfl ?_
      refine zV_iload_n (pc := 35) dX10_measured_35 rfl 2 rfl ?_
      refine zV_iconst (pc := 36) dX10_measured_36 ?_
      refine zV_isub (pc := 37) dX10_measured_37 ?_
      refine zV_iload_n (pc := 38) dX10_measured_38 rfl 3 rfl ?_
      refine zV_iast (pc := 39) dX10_measured_39 rfl o7 o8 (inR_ix o7 o8 rfl) hx2 ?_
      refine zV_mem (fun m11 e12 => zV_ok (fun hm11 => ?_))
      replace h := h m11 e12 hm11
      refine zV_iload_n (pc := 40) dX10_measured_40 rfl 0 rfl ?_
      exact zV_iret (pc := 41) rfl dX10_measured_41 hrv9 h
    · replace c6 := b2i_fn c6
      replace h := h.2 c6
      refine zV_bipush (pc := 19) dX10_measured_19 (by decide) ?_
      exact zV_iret (pc := 21) rfl dX10_measured_21 (inRd rfl) h

set_option maxRecDepth 100000 in
set_option maxHeartbeats 4000000 in
theorem vc_X10_isAsMeasured_0 {K : zCx} {d : Nat}  (m0 : zM) {Q : Int → zM → Prop}  (h : zok m0 → zCt K (d + 4) mX10_go [rr K 98, .int (iz 4)] m0 (fun r1 m2 => inR r1 → zok m2 → zCt K (d + 4) mX10_stand [rr K 98, .int (iz (m2.1 98 19))] m2 (fun r3 m4 => inR r3 → zok m4 → zV K mX10_isAsMeasured (d + 5) 17 [(0, rr K 98), (1, .int (iz 1)), (2, .int (iz 0))] [] m4 Q))) : zV K mX10_isAsMeasured (d + 5) 0 [(0, rr K 98)] [] m0 Q := by
  refine zV_ok (fun hm0 => ?_)
  replace h := h hm0
  refine zV_aloadr_n (pc := 0) dX10_isAsMeasured_0 rfl 0 rfl ?_
  refine zV_iconst (pc := 1) dX10_isAsMeasured_1 ?_
  refine zV_callV (pc := 2) (mc := mX10_go) (As := [.int (iz 4)]) (rest := []) dX10_isAsMeasured_2 zcX10_188 ziX10_go zsX10_go rfl rfl rfl rfl (Nat.le_of_ble_eq_true rfl) h (fun r1 m2 hr1 h => zV_ok (fun hm2 => ?_))
  replace h := h hr1 hm2
  refine zV_aloadr_n (pc := 5) dX10_isAsMeasured_5 rfl 0 rfl ?_
  refine zV_aloadr_n (pc := 6) dX10_isAsMeasured_6 rfl 0 rfl ?_
  refine zV_getI (pc := 7) (kz := 19) dX10_isAsMeasured_7 zfX10_179 rfl rfl rfl ?_
  refine zV_callV (pc := 10) (mc := mX10_stand) (As := [.int (iz (m2.1 98 19))]) (rest := []) dX10_isAsMeasured_10 zcX10_166 ziX10_stand zsX10_stand rfl rfl rfl rfl (Nat.le_of_ble_eq_true rfl) h (fun r3 m4 hr3 h => zV_ok (fun hm4 => ?_))
  replace h := h hr3 hm4
  refine zV_iconst (pc := 13) dX10_isAsMeasured_13 ?_
  refine zV_istore_n (pc := 14) (loc' := [(1, .int (iz 1)), (0, rr K 98)]) dX10_isAsMeasured_14 rfl (by decide) rfl ?_
  refine zV_iconst (pc := 15) dX10_isAsMeasured_15 ?_
  refine zV_istore_n (pc := 16) (loc' := [(2, .int (iz 0)), (1, .int (iz 1)), (0, rr K 98)]) dX10_isAsMeasured_16 rfl (by decide) rfl ?_
  exact zV_sub [2, 1, 0] rfl h
set_option maxRecDepth 100000 in
set_option maxHeartbeats 4000000 in
theorem vc_X10_isAsMeasured_17 {K : zCx} {d : Nat} (x1 : Int) (x2 : Int) (m0 : zM) {Q : Int → zM → Prop} (hx1 : inR x1) (hx2 : inR x2) (h : zok m0 → (3 ≤ x2 → (x1 = 0 ∨ x1 = 1) ∧ (Q x1 m0)) ∧ (¬ (3 ≤ x2) → (x1 = 0 → zV K mX10_isAsMeasured (d + 5) 17 [(0, rr K 98), (1, .int (iz 0)), (2, .int (iz (x2 + 1)))] [] m0 Q) ∧ (¬ (x1 = 0) → 0 ≤ x2 ∧ x2 < 3 ∧ (((m0.1 103 x2) < 0 → zV K mX10_isAsMeasured (d + 5) 17 [(0, rr K 98), (1, .int (iz 1)), (2, .int (iz (x2 + 1)))] [] m0 Q) ∧ (¬ ((m0.1 103 x2) < 0) → 0 ≤ (2 + x2) ∧ (2 + x2) < 5 ∧ (∀ v9 : Int, v9 = (if (m0.1 103 x2) = (m0.1 106 (2 + x2)) then 1 else 0) → (zV K mX10_isAsMeasured (d + 5) 17 [(0, rr K 98), (1, .int (iz v9)), (2, .int (iz (x2 + 1)))] [] m0 Q))))))) : zV K mX10_isAsMeasured (d + 5) 17 [(0, rr K 98), (1, .int (iz x1)), (2, .int (iz x2))] [] m0 Q := by
  refine zV_ok (fun hm0 => ?_)
  replace h := h hm0
  refine zV_iload_n (pc := 17) dX10_isAsMeasured_17 rfl 2 rfl ?_
  refine zV_iconst (pc := 18) dX10_isAsMeasured_18 ?_
  refine zV_icmp_ge (pc := 19) (tgt := 64) dX10_isAsMeasured_19 (by decide) hx2 (inRd rfl) (fun c1 => ?_) (fun c1 => ?_)
  · skip
    replace h := h.1 c1
    refine zV_iload_n (pc := 64) dX10_isAsMeasured_64 rfl 1 rfl ?_
    obtain ⟨o2, h⟩ := h
    exact zV_zret (pc := 65) rfl dX10_isAsMeasured_65 o2 h
  · skip
    replace h := h.2 c1
    refine zV_iload_n (pc := 22) dX10_isAsMeasured_22 rfl 1 rfl ?_
    refine zV_if_eq (pc := 23) (tgt := 56) dX10_isAsMeasured_23 (by decide) hx1 (fun c3 => ?_) (fun c3 => ?_)
    · skip
      replace h := h.1 c3
      refine zV_iconst (pc := 56) dX10_isAsMeasured_56 ?_
      refine zV_istore_n (pc := 57) (loc' := [(1, .int (iz 0)), (0, rr K 98), (2, .int (iz x2))]) dX10_isAsMeasured_57 rfl (by decide) rfl ?_
      refine zV_iinc (pc := 58) (loc' := [(2, .int (iz (x2 + 1))), (1, .int (iz 0)), (0, rr K 98)]) dX10_isAsMeasured_58 2 rfl (by decide) rfl ?_
      refine zV_goto (pc := 61) (tgt := 17) dX10_isAsMeasured_61 (by decide) ?_
      exact zV_sub [2, 1, 0] rfl h
    · skip
      replace h := h.2 c3
      refine zV_aloadr_n (pc := 26) dX10_isAsMeasured_26 rfl 0 rfl ?_
      refine zV_getR (pc := 27) (b := 103) dX10_isAsMeasured_27 zfX10_26 rfl rfl rfl ?_
      refine zV_iload_n (pc := 30) dX10_isAsMeasured_30 rfl 2 rfl ?_
      obtain ⟨o4, o5, h⟩ := h
      refine zV_iald (pc := 31) dX10_isAsMeasured_31 rfl o4 o5 (inR_ix o4 o5 rfl) ?_
      refine zV_if_lt (pc := 32) (tgt := 52) dX10_isAsMeasured_32 (by decide) (hm0 _ _) (fun c6 => ?_) (fun c6 => ?_)
      · skip
        replace h := h.1 c6
        refine zV_iconst (pc := 52) dX10_isAsMeasured_52 ?_
        refine zV_goto (pc := 53) (tgt := 57) dX10_isAsMeasured_53 (by decide) ?_
        refine zV_istore_n (pc := 57) (loc' := [(1, .int (iz 1)), (0, rr K 98), (2, .int (iz x2))]) dX10_isAsMeasured_57 rfl (by decide) rfl ?_
        refine zV_iinc (pc := 58) (loc' := [(2, .int (iz (x2 + 1))), (1, .int (iz 1)), (0, rr K 98)]) dX10_isAsMeasured_58 2 rfl (by decide) rfl ?_
        refine zV_goto (pc := 61) (tgt := 17) dX10_isAsMeasured_61 (by decide) ?_
        exact zV_sub [2, 1, 0] rfl h
      · skip
        replace h := h.2 c6
        refine zV_aloadr_n (pc := 35) dX10_isAsMeasured_35 rfl 0 rfl ?_
        refine zV_getR (pc := 36) (b := 103) dX10_isAsMeasured_36 zfX10_26 rfl rfl rfl ?_
        refine zV_iload_n (pc := 39) dX10_isAsMeasured_39 rfl 2 rfl ?_
        refine zV_iald (pc := 40) dX10_isAsMeasured_40 rfl o4 o5 (inR_ix o4 o5 rfl) ?_
        refine zV_aloadr_n (pc := 41) dX10_isAsMeasured_41 rfl 0 rfl ?_
        refine zV_getR (pc := 42) (b := 106) dX10_isAsMeasured_42 zfX10_35 rfl rfl rfl ?_
        refine zV_iconst (pc := 45) dX10_isAsMeasured_45 ?_
        refine zV_iload_n (pc := 46) dX10_isAsMeasured_46 rfl 2 rfl ?_
        refine zV_iadd (pc := 47) dX10_isAsMeasured_47 ?_
        obtain ⟨o7, o8, h⟩ := h
        refine zV_iald (pc := 48) dX10_isAsMeasured_48 rfl o7 o8 (inR_ix o7 o8 rfl) ?_
        have key : ∀ v9 : Int, v9 = (if (m0.1 103 x2) = (m0.1 106 (2 + x2)) then 1 else 0) → zV K mX10_isAsMeasured (d + 5) 57 [(0, rr K 98), (2, .int (iz x2))] [.int (iz v9)] m0 Q := by
          intro v9 e10
          replace h := h v9 e10
          have hrv9 : inR v9 := by rw [e10]; (repeat' split) <;> first | with_reducible exact (inRd rfl)
          refine zV_istore_n (pc := 57) (loc' := [(1, .int (iz v9)), (0, rr K 98), (2, .int (iz x2))]) dX10_isAsMeasured_57 rfl (by decide) rfl ?_
          refine zV_iinc (pc := 58) (loc' := [(2, .int (iz (x2 + 1))), (1, .int (iz v9)), (0, rr K 98)]) dX10_isAsMeasured_58 2 rfl (by decide) rfl ?_
          refine zV_goto (pc := 61) (tgt := 17) dX10_isAsMeasured_61 (by decide) ?_
          exact zV_sub [2, 1, 0] rfl h
        refine zV_icmp_ne (pc := 49) (tgt := 56) dX10_isAsMeasured_49 (by decide) (hm0 _ _) (hm0 _ _) (fun c11 => ?_) (fun c11 => ?_)
        · skip
          refine zV_iconst (pc := 56) dX10_isAsMeasured_56 ?_
          exact zV_sub [0, 2] rfl (key _ (if_neg c11).symm)
        · replace c11 := Classical.not_not.mp c11
          refine zV_iconst (pc := 52) dX10_isAsMeasured_52 ?_
          refine zV_goto (pc := 53) (tgt := 57) dX10_isAsMeasured_53 (by decide) ?_
          exact zV_sub [0, 2] rfl (key _ (if_pos c11).symm)

set_option maxRecDepth 100000 in
set_option maxHeartbeats 4000000 in
theorem vc_X10_explains_0 {K : zCx} {d : Nat} (x1 : Int) (x2 : Int) (m0 : zM) {Q : Int → zM → Prop} (hx1 : inR x1) (hx2 : inR x2) (h : zok m0 → (0 ≤ 10 * x1 + 3) ∧ ((10 * x1 + 3 < 100) ∧ (∀ v5 : Int, v5 = (m0.1 100 (10 * x1 + 3)) → ((0 ≤ x2 → (0 ≤ 10 * x2 + 3) ∧ ((10 * x2 + 3 < 100) ∧ (∀ v12 : Int, v12 = (m0.1 100 (10 * x2 + 3)) → (zV K mX10_explains (d + 6) 29 [(0, rr K 98), (1, .int (iz x1)), (2, .int (iz x2)), (3, .int (iz v5)), (4, .int (iz v12)), (5, .int (iz 0)), (6, .int (iz 1))] [] m0 Q)))) ∧ (¬ (0 ≤ x2) → zV K mX10_explains (d + 6) 29 [(0, rr K 98), (1, .int (iz x1)), (2, .int (iz x2)), (3, .int (iz v5)), (4, .int (iz 0)), (5, .int (iz 0)), (6, .int (iz 1))] [] m0 Q))))) : zV K mX10_explains (d + 6) 0 [(0, rr K 98), (1, .int (iz x1)), (2, .int (iz x2))] [] m0 Q := by
  refine zV_ok (fun hm0 => ?_)
  replace h := h hm0
  refine zV_aloadr_n (pc := 0) dX10_explains_0 rfl 0 rfl ?_
  refine zV_iload_n (pc := 1) dX10_explains_1 rfl 1 rfl ?_
  refine zV_iconst (pc := 2) dX10_explains_2 ?_
  obtain ⟨o1, h⟩ := h
  obtain ⟨o2, h⟩ := h
  refine zV_callVf (pc := 3) (mc := mX10_its) (As := [.int (iz x1), .int (iz 3)]) (rest := []) dX10_explains_3 zcX10_137 ziX10_its zsX10_its rfl rfl rfl rfl (Nat.le_of_ble_eq_true rfl) (c_X10_its (inRd rfl) hx1 hm0 o1 o2) (fun hr3 => ?_)
  refine zV_name (fun v5 e6 => ?_)
  replace h := h v5 e6
  have hrv5 : inR v5 := by rw [e6]; exact hr3
  refine zV_istore_n (pc := 6) (loc' := [(3, .int (iz v5)), (0, rr K 98), (1, .int (iz x1)), (2, .int (iz x2))]) dX10_explains_6 rfl (by decide) rfl ?_
  refine zV_iload_n (pc := 7) dX10_explains_7 rfl 3 rfl ?_
  refine zV_if_ge (pc := 8) (tgt := 15) dX10_explains_8 (by decide) hx2 (fun c7 => ?_) (fun c7 => ?_)
  · skip
    replace h := h.1 c7
    refine zV_aloadr_n (pc := 15) dX10_explains_15 rfl 1 rfl ?_
    refine zV_iload_n (pc := 16) dX10_explains_16 rfl 3 rfl ?_
    refine zV_iconst (pc := 17) dX10_explains_17 ?_
    obtain ⟨o8, h⟩ := h
    obtain ⟨o9, h⟩ := h
    refine zV_callVf (pc := 18) (mc := mX10_its) (As := [.int (iz x2), .int (iz 3)]) (rest := []) dX10_explains_18 zcX10_137 ziX10_its zsX10_its rfl rfl rfl rfl (Nat.le_of_ble_eq_true rfl) (c_X10_its (inRd rfl) hx2 hm0 o8 o9) (fun hr10 => ?_)
    refine zV_name (fun v12 e13 => ?_)
    replace h := h v12 e13
    have hrv12 : inR v12 := by rw [e13]; exact hr10
    refine zV_istore (pc := 21) (loc' := [(4, .int (iz v12)), (3, .int (iz v5)), (0, rr K 98), (1, .int (iz x1)), (2, .int (iz x2))]) dX10_explains_21 (by decide) rfl ?_
    refine zV_iconst (pc := 23) dX10_explains_23 ?_
    refine zV_istore (pc := 24) (loc' := [(5, .int (iz 0)), (4, .int (iz v12)), (3, .int (iz v5)), (0, rr K 98), (1, .int (iz x1)), (2, .int (iz x2))]) dX10_explains_24 (by decide) rfl ?_
    refine zV_iconst (pc := 26) dX10_explains_26 ?_
    refine zV_istore (pc := 27) (loc' := [(6, .int (iz 1)), (5, .int (iz 0)), (4, .int (iz v12)), (3, .int (iz v5)), (0, rr K 98), (1, .int (iz x1)), (2, .int (iz x2))]) dX10_explains_27 (by decide) rfl ?_
    exact zV_sub [4, 5, 6, 3, 2, 1, 0] rfl h
  · skip
    replace h := h.2 c7
    refine zV_iconst (pc := 11) dX10_explains_11 ?_
    refine zV_goto (pc := 12) (tgt := 21) dX10_explains_12 (by decide) ?_
    refine zV_istore (pc := 21) (loc' := [(4, .int (iz 0)), (3, .int (iz v5)), (0, rr K 98), (1, .int (iz x1)), (2, .int (iz x2))]) dX10_explains_21 (by decide) rfl ?_
    refine zV_iconst (pc := 23) dX10_explains_23 ?_
    refine zV_istore (pc := 24) (loc' := [(5, .int (iz 0)), (4, .int (iz 0)), (3, .int (iz v5)), (0, rr K 98), (1, .int (iz x1)), (2, .int (iz x2))]) dX10_explains_24 (by decide) rfl ?_
    refine zV_iconst (pc := 26) dX10_explains_26 ?_
    refine zV_istore (pc := 27) (loc' := [(6, .int (iz 1)), (5, .int (iz 0)), (4, .int (iz 0)), (3, .int (iz v5)), (0, rr K 98), (1, .int (iz x1)), (2, .int (iz x2))]) dX10_explains_27 (by decide) rfl ?_
    exact zV_sub [4, 5, 6, 3, 2, 1, 0] rfl h
set_option maxRecDepth 100000 in
set_option maxHeartbeats 4000000 in
theorem vc_X10_explains_29 {K : zCx} {d : Nat} (x1 : Int) (x2 : Int) (x3 : Int) (x4 : Int) (x5 : Int) (x6 : Int) (m0 : zM) {Q : Int → zM → Prop} (hx1 : inR x1) (hx2 : inR x2) (hx3 : inR x3) (hx4 : inR x4) (hx5 : inR x5) (hx6 : inR x6) (h : zok m0 → (10 ≤ x6 → 0 ≤ ((10 * x1) + 3) ∧ ((10 * x1) + 3) < 100 ∧ (∀ m4 : zM, m4 = sI m0 100 ((10 * x1) + 3) x3 → zok m4 → ((x2 < 0 → (x5 = 0 ∨ x5 = 1) ∧ (Q x5 m4)) ∧ (¬ (x2 < 0) → 0 ≤ ((10 * x2) + 3) ∧ ((10 * x2) + 3) < 100 ∧ (∀ m10 : zM, m10 = sI m4 100 ((10 * x2) + 3) x4 → zok m10 → ((x5 = 0 ∨ x5 = 1) ∧ (Q x5 m10))))))) ∧ (¬ (10 ≤ x6) → (x5 = 0 → 0 ≤ ((10 * x1) + 3) ∧ ((10 * x1) + 3) < 100 ∧ (∀ m27 : zM, m27 = sI m0 100 ((10 * x1) + 3) x6 → zok m27 → (zV K mX10_explains (d + 6) 57 [(0, rr K 98), (1, .int (iz x1)), (2, .int (iz x2)), (3, .int (iz x3)), (4, .int (iz x4)), (5, .int (iz x5)), (6, .int (iz x6)), (7, .int (iz 1))] [] m27 Q))) ∧ (¬ (x5 = 0) → 0 ≤ ((10 * x1) + 3) ∧ ((10 * x1) + 3) < 100 ∧ (∀ m16 : zM, m16 = sI m0 100 ((10 * x1) + 3) x3 → zok m16 → ((x2 < 0 → (x5 = 0 ∨ x5 = 1) ∧ (Q x5 m16)) ∧ (¬ (x2 < 0) → 0 ≤ ((10 * x2) + 3) ∧ ((10 * x2) + 3) < 100 ∧ (∀ m22 : zM, m22 = sI m16 100 ((10 * x2) + 3) x4 → zok m22 → ((x5 = 0 ∨ x5 = 1) ∧ (Q x5 m22))))))))) : zV K mX10_explains (d + 6) 29 [(0, rr K 98), (1, .int (iz x1)), (2, .int (iz x2)), (3, .int (iz x3)), (4, .int (iz x4)), (5, .int (iz x5)), (6, .int (iz x6))] [] m0 Q := by
  refine zV_ok (fun hm0 => ?_)
  replace h := h hm0
  refine zV_iload (pc := 29) dX10_explains_29 6 rfl ?_
  refine zV_bipush (pc := 31) dX10_explains_31 (by decide) ?_
  refine zV_icmp_ge (pc := 33) (tgt := 112) dX10_explains_33 (by decide) hx6 (inRd rfl) (fun c1 => ?_) (fun c1 => ?_)
  · skip
    replace h := h.1 c1
    refine zV_aloadr_n (pc := 112) dX10_explains_112 rfl 0 rfl ?_
    refine zV_getR (pc := 113) (b := 100) dX10_explains_113 zfX10_17 rfl rfl rfl ?_
    refine zV_bipush (pc := 116) dX10_explains_116 (by decide) ?_
    refine zV_iload_n (pc := 118) dX10_explains_118 rfl 1 rfl ?_
    refine zV_imul (pc := 119) dX10_explains_119 ?_
    refine zV_iconst (pc := 120) dX10_explains_120 ?_
    refine zV_iadd (pc := 121) dX10_explains_121 ?_
    refine zV_iload_n (pc := 122) dX10_explains_122 rfl 3 rfl ?_
    obtain ⟨o2, o3, h⟩ := h
    refine zV_iast (pc := 123) dX10_explains_123 rfl o2 o3 (inR_ix o2 o3 rfl) hx3 ?_
    refine zV_mem (fun m4 e5 => zV_ok (fun hm4 => ?_))
    replace h := h m4 e5 hm4
    refine zV_iload_n (pc := 124) dX10_explains_124 rfl 2 rfl ?_
    refine zV_if_lt (pc := 125) (tgt := 141) dX10_explains_125 (by decide) hx2 (fun c6 => ?_) (fun c6 => ?_)
    · skip
      replace h := h.1 c6
      refine zV_iload (pc := 141) dX10_explains_141 5 rfl ?_
      obtain ⟨o7, h⟩ := h
      exact zV_zret (pc := 143) rfl dX10_explains_143 o7 h
    · skip
      replace h := h.2 c6
      refine zV_aloadr_n (pc := 128) dX10_explains_128 rfl 0 rfl ?_
      refine zV_getR (pc := 129) (b := 100) dX10_explains_129 zfX10_17 rfl rfl rfl ?_
      refine zV_bipush (pc := 132) dX10_explains_132 (by decide) ?_
      refine zV_iload_n (pc := 134) dX10_explains_134 rfl 2 rfl ?_
      refine zV_imul (pc := 135) dX10_explains_135 ?_
      refine zV_iconst (pc := 136) dX10_explains_136 ?_
      refine zV_iadd (pc := 137) dX10_explains_137 ?_
      refine zV_iload (pc := 138) dX10_explains_138 4 rfl ?_
      obtain ⟨o8, o9, h⟩ := h
      refine zV_iast (pc := 140) dX10_explains_140 rfl o8 o9 (inR_ix o8 o9 rfl) hx4 ?_
      refine zV_mem (fun m10 e11 => zV_ok (fun hm10 => ?_))
      replace h := h m10 e11 hm10
      refine zV_iload (pc := 141) dX10_explains_141 5 rfl ?_
      obtain ⟨o12, h⟩ := h
      exact zV_zret (pc := 143) rfl dX10_explains_143 o12 h
  · skip
    replace h := h.2 c1
    refine zV_iload (pc := 36) dX10_explains_36 5 rfl ?_
    refine zV_if_ne (pc := 38) (tgt := 112) dX10_explains_38 (by decide) hx5 (fun c13 => ?_) (fun c13 => ?_)
    · skip
      replace h := h.2 c13
      refine zV_aloadr_n (pc := 112) dX10_explains_112 rfl 0 rfl ?_
      refine zV_getR (pc := 113) (b := 100) dX10_explains_113 zfX10_17 rfl rfl rfl ?_
      refine zV_bipush (pc := 116) dX10_explains_116 (by decide) ?_
      refine zV_iload_n (pc := 118) dX10_explains_118 rfl 1 rfl ?_
      refine zV_imul (pc := 119) dX10_explains_119 ?_
      refine zV_iconst (pc := 120) dX10_explains_120 ?_
      refine zV_iadd (pc := 121) dX10_explains_121 ?_
      refine zV_iload_n (pc := 122) dX10_explains_122 rfl 3 rfl ?_
      obtain ⟨o14, o15, h⟩ := h
      refine zV_iast (pc := 123) dX10_explains_123 rfl o14 o15 (inR_ix o14 o15 rfl) hx3 ?_
      refine zV_mem (fun m16 e17 => zV_ok (fun hm16 => ?_))
      replace h := h m16 e17 hm16
      refine zV_iload_n (pc := 124) dX10_explains_124 rfl 2 rfl ?_
      refine zV_if_lt (pc := 125) (tgt := 141) dX10_explains_125 (by decide) hx2 (fun c18 => ?_) (fun c18 => ?_)
      · skip
        replace h := h.1 c18
        refine zV_iload (pc := 141) dX10_explains_141 5 rfl ?_
        obtain ⟨o19, h⟩ := h
        exact zV_zret (pc := 143) rfl dX10_explains_143 o19 h
      · skip
        replace h := h.2 c18
        refine zV_aloadr_n (pc := 128) dX10_explains_128 rfl 0 rfl ?_
        refine zV_getR (pc := 129) (b := 100) dX10_explains_129 zfX10_17 rfl rfl rfl ?_
        refine zV_bipush (pc := 132) dX10_explains_132 (by decide) ?_
        refine zV_iload_n (pc := 134) dX10_explains_134 rfl 2 rfl ?_
        refine zV_imul (pc := 135) dX10_explains_135 ?_
        refine zV_iconst (pc := 136) dX10_explains_136 ?_
        refine zV_iadd (pc := 137) dX10_explains_137 ?_
        refine zV_iload (pc := 138) dX10_explains_138 4 rfl ?_
        obtain ⟨o20, o21, h⟩ := h
        refine zV_iast (pc := 140) dX10_explains_140 rfl o20 o21 (inR_ix o20 o21 rfl) hx4 ?_
        refine zV_mem (fun m22 e23 => zV_ok (fun hm22 => ?_))
        replace h := h m22 e23 hm22
        refine zV_iload (pc := 141) dX10_explains_141 5 rfl ?_
        obtain ⟨o24, h⟩ := h
        exact zV_zret (pc := 143) rfl dX10_explains_143 o24 h
    · replace c13 := Classical.not_not.mp c13
      replace h := h.1 c13
      refine zV_aloadr_n (pc := 41) dX10_explains_41 rfl 0 rfl ?_
      refine zV_getR (pc := 42) (b := 100) dX10_explains_42 zfX10_17 rfl rfl rfl ?_
      refine zV_bipush (pc := 45) dX10_explains_45 (by decide) ?_
      refine zV_iload_n (pc := 47) dX10_explains_47 rfl 1 rfl ?_
      refine zV_imul (pc := 48) dX10_explains_48 ?_
      refine zV_iconst (pc := 49) dX10_explains_49 ?_
      refine zV_iadd (pc := 50) dX10_explains_50 ?_
      refine zV_iload (pc := 51) dX10_explains_51 6 rfl ?_
      obtain ⟨o25, o26, h⟩ := h
      refine zV_iast (pc := 53) dX10_explains_53 rfl o25 o26 (inR_ix o25 o26 rfl) hx6 ?_
      refine zV_mem (fun m27 e28 => zV_ok (fun hm27 => ?_))
      replace h := h m27 e28 hm27
      refine zV_iconst (pc := 54) dX10_explains_54 ?_
      refine zV_istore (pc := 55) (loc' := [(7, .int (iz 1)), (0, rr K 98), (1, .int (iz x1)), (2, .int (iz x2)), (3, .int (iz x3)), (4, .int (iz x4)), (5, .int (iz x5)), (6, .int (iz x6))]) dX10_explains_55 (by decide) rfl ?_
      exact zV_sub [1, 2, 3, 4, 5, 6, 7, 0] rfl h
set_option maxRecDepth 100000 in
set_option maxHeartbeats 4000000 in
theorem vc_X10_explains_57 {K : zCx} {d : Nat} (x1 : Int) (x2 : Int) (x3 : Int) (x4 : Int) (x5 : Int) (x6 : Int) (x7 : Int) (m0 : zM) {Q : Int → zM → Prop} (hx1 : inR x1) (hx2 : inR x2) (hx3 : inR x3) (hx4 : inR x4) (hx5 : inR x5) (hx6 : inR x6) (hx7 : inR x7) (h : zok m0 → ∀ v1 : Int, v1 = (if 0 ≤ x2 then 10 else 2) → ((v1 ≤ x7 → zV K mX10_explains (d + 6) 29 [(0, rr K 98), (1, .int (iz x1)), (2, .int (iz x2)), (3, .int (iz x3)), (4, .int (iz x4)), (5, .int (iz x5)), (6, .int (iz (x6 + 1)))] [] m0 Q) ∧ (¬ (v1 ≤ x7) → (x5 = 0 → (x2 < 0 → zCt K (d + 5) mX10_isAsMeasured [rr K 98] m0 (fun r6 m7 => inR r6 → zok m7 → zV K mX10_explains (d + 6) 57 [(0, rr K 98), (1, .int (iz x1)), (2, .int (iz x2)), (3, .int (iz x3)), (4, .int (iz x4)), (5, .int (iz r6)), (6, .int (iz x6)), (7, .int (iz (x7 + 1)))] [] m7 Q)) ∧ (¬ (x2 < 0) → 0 ≤ ((10 * x2) + 3) ∧ ((10 * x2) + 3) < 100 ∧ (∀ m10 : zM, m10 = sI m0 100 ((10 * x2) + 3) x7 → zok m10 → (zCt K (d + 5) mX10_isAsMeasured [rr K 98] m10 (fun r12 m13 => inR r12 → zok m13 → zV K mX10_explains (d + 6) 57 [(0, rr K 98), (1, .int (iz x1)), (2, .int (iz x2)), (3, .int (iz x3)), (4, .int (iz x4)), (5, .int (iz r12)), (6, .int (iz x6)), (7, .int (iz (x7 + 1)))] [] m13 Q))))) ∧ (¬ (x5 = 0) → zV K mX10_explains (d + 6) 29 [(0, rr K 98), (1, .int (iz x1)), (2, .int (iz x2)), (3, .int (iz x3)), (4, .int (iz x4)), (5, .int (iz x5)), (6, .int (iz (x6 + 1)))] [] m0 Q)))) : zV K mX10_explains (d + 6) 57 [(0, rr K 98), (1, .int (iz x1)), (2, .int (iz x2)), (3, .int (iz x3)), (4, .int (iz x4)), (5, .int (iz x5)), (6, .int (iz x6)), (7, .int (iz x7))] [] m0 Q := by
  refine zV_ok (fun hm0 => ?_)
  replace h := h hm0
  refine zV_iload (pc := 57) dX10_explains_57 7 rfl ?_
  refine zV_iload_n (pc := 59) dX10_explains_59 rfl 2 rfl ?_
  have key : ∀ v1 : Int, v1 = (if 0 ≤ x2 then 10 else 2) → zV K mX10_explains (d + 6) 69 [(0, rr K 98), (1, .int (iz x1)), (2, .int (iz x2)), (3, .int (iz x3)), (4, .int (iz x4)), (5, .int (iz x5)), (6, .int (iz x6)), (7, .int (iz x7))] [.int (iz v1), .int (iz x7)] m0 Q := by
    intro v1 e2
    replace h := h v1 e2
    have hrv1 : inR v1 := by rw [e2]; (repeat' split) <;> first | with_reducible exact (inRd rfl)
    refine zV_icmp_ge (pc := 69) (tgt := 106) dX10_explains_69 (by decide) hx7 hrv1 (fun c3 => ?_) (fun c3 => ?_)
    · skip
      replace h := h.1 c3
      refine zV_iinc (pc := 106) (loc' := [(6, .int (iz (x6 + 1))), (0, rr K 98), (1, .int (iz x1)), (2, .int (iz x2)), (3, .int (iz x3)), (4, .int (iz x4)), (5, .int (iz x5)), (7, .int (iz x7))]) dX10_explains_106 6 rfl (by decide) rfl ?_
      refine zV_goto (pc := 109) (tgt := 29) dX10_explains_109 (by decide) ?_
      exact zV_sub [1, 2, 3, 4, 5, 6, 0] rfl h
    · skip
      replace h := h.2 c3
      refine zV_iload (pc := 72) dX10_explains_72 5 rfl ?_
      refine zV_if_ne (pc := 74) (tgt := 106) dX10_explains_74 (by decide) hx5 (fun c4 => ?_) (fun c4 => ?_)
      · skip
        replace h := h.2 c4
        refine zV_iinc (pc := 106) (loc' := [(6, .int (iz (x6 + 1))), (0, rr K 98), (1, .int (iz x1)), (2, .int (iz x2)), (3, .int (iz x3)), (4, .int (iz x4)), (5, .int (iz x5)), (7, .int (iz x7))]) dX10_explains_106 6 rfl (by decide) rfl ?_
        refine zV_goto (pc := 109) (tgt := 29) dX10_explains_109 (by decide) ?_
        exact zV_sub [1, 2, 3, 4, 5, 6, 0] rfl h
      · replace c4 := Classical.not_not.mp c4
        replace h := h.1 c4
        refine zV_iload_n (pc := 77) dX10_explains_77 rfl 2 rfl ?_
        refine zV_if_lt (pc := 78) (tgt := 94) dX10_explains_78 (by decide) hx2 (fun c5 => ?_) (fun c5 => ?_)
        · skip
          replace h := h.1 c5
          refine zV_aloadr_n (pc := 94) dX10_explains_94 rfl 0 rfl ?_
          refine zV_callV (pc := 95) (mc := mX10_isAsMeasured) (As := []) (rest := []) dX10_explains_95 zcX10_352 ziX10_isAsMeasured zsX10_isAsMeasured rfl rfl rfl rfl (Nat.le_of_ble_eq_true rfl) h (fun r6 m7 hr6 h => zV_ok (fun hm7 => ?_))
          replace h := h hr6 hm7
          refine zV_istore (pc := 98) (loc' := [(5, .int (iz r6)), (0, rr K 98), (1, .int (iz x1)), (2, .int (iz x2)), (3, .int (iz x3)), (4, .int (iz x4)), (6, .int (iz x6)), (7, .int (iz x7))]) dX10_explains_98 (by decide) rfl ?_
          refine zV_iinc (pc := 100) (loc' := [(7, .int (iz (x7 + 1))), (5, .int (iz r6)), (0, rr K 98), (1, .int (iz x1)), (2, .int (iz x2)), (3, .int (iz x3)), (4, .int (iz x4)), (6, .int (iz x6))]) dX10_explains_100 7 rfl (by decide) rfl ?_
          refine zV_goto (pc := 103) (tgt := 57) dX10_explains_103 (by decide) ?_
          exact zV_sub [2, 3, 4, 5, 6, 1, 7, 0] rfl h
        · skip
          replace h := h.2 c5
          refine zV_aloadr_n (pc := 81) dX10_explains_81 rfl 0 rfl ?_
          refine zV_getR (pc := 82) (b := 100) dX10_explains_82 zfX10_17 rfl rfl rfl ?_
          refine zV_bipush (pc := 85) dX10_explains_85 (by decide) ?_
          refine zV_iload_n (pc := 87) dX10_explains_87 rfl 2 rfl ?_
          refine zV_imul (pc := 88) dX10_explains_88 ?_
          refine zV_iconst (pc := 89) dX10_explains_89 ?_
          refine zV_iadd (pc := 90) dX10_explains_90 ?_
          refine zV_iload (pc := 91) dX10_explains_91 7 rfl ?_
          obtain ⟨o8, o9, h⟩ := h
          refine zV_iast (pc := 93) dX10_explains_93 rfl o8 o9 (inR_ix o8 o9 rfl) hx7 ?_
          refine zV_mem (fun m10 e11 => zV_ok (fun hm10 => ?_))
          replace h := h m10 e11 hm10
          refine zV_aloadr_n (pc := 94) dX10_explains_94 rfl 0 rfl ?_
          refine zV_callV (pc := 95) (mc := mX10_isAsMeasured) (As := []) (rest := []) dX10_explains_95 zcX10_352 ziX10_isAsMeasured zsX10_isAsMeasured rfl rfl rfl rfl (Nat.le_of_ble_eq_true rfl) h (fun r12 m13 hr12 h => zV_ok (fun hm13 => ?_))
          replace h := h hr12 hm13
          refine zV_istore (pc := 98) (loc' := [(5, .int (iz r12)), (0, rr K 98), (1, .int (iz x1)), (2, .int (iz x2)), (3, .int (iz x3)), (4, .int (iz x4)), (6, .int (iz x6)), (7, .int (iz x7))]) dX10_explains_98 (by decide) rfl ?_
          refine zV_iinc (pc := 100) (loc' := [(7, .int (iz (x7 + 1))), (5, .int (iz r12)), (0, rr K 98), (1, .int (iz x1)), (2, .int (iz x2)), (3, .int (iz x3)), (4, .int (iz x4)), (6, .int (iz x6))]) dX10_explains_100 7 rfl (by decide) rfl ?_
          refine zV_goto (pc := 103) (tgt := 57) dX10_explains_103 (by decide) ?_
          exact zV_sub [2, 3, 4, 5, 6, 1, 7, 0] rfl h
  refine zV_if_ge (pc := 60) (tgt := 67) dX10_explains_60 (by decide) hx2 (fun c14 => ?_) (fun c14 => ?_)
  · skip
    refine zV_bipush (pc := 67) dX10_explains_67 (by decide) ?_
    exact zV_sub [0, 1, 2, 3, 4, 5, 6, 7] rfl (key _ (if_pos c14).symm)
  · skip
    refine zV_iconst (pc := 63) dX10_explains_63 ?_
    refine zV_goto (pc := 64) (tgt := 69) dX10_explains_64 (by decide) ?_
    exact zV_sub [0, 1, 2, 3, 4, 5, 6, 7] rfl (key _ (if_neg c14).symm)

set_option maxRecDepth 100000 in
set_option maxHeartbeats 4000000 in
theorem vc_X10_which_0 {K : zCx} {d : Nat}  (m0 : zM) {Q : Int → zM → Prop}  (h : zok m0 → zCt K (d + 6) mX10_isAsMeasured [rr K 98] m0 (fun r1 m2 => inR r1 → zok m2 → (r1 = 0 → zV K mX10_which (d + 7) 11 [(0, rr K 98), (1, .int (iz 0))] [] m2 Q) ∧ (¬ (r1 = 0) → Q 0 m2))) : zV K mX10_which (d + 7) 0 [(0, rr K 98)] [] m0 Q := by
  refine zV_ok (fun hm0 => ?_)
  replace h := h hm0
  refine zV_aloadr_n (pc := 0) dX10_which_0 rfl 0 rfl ?_
  refine zV_callV (pc := 1) (mc := mX10_isAsMeasured) (As := []) (rest := []) dX10_which_1 zcX10_352 ziX10_isAsMeasured zsX10_isAsMeasured rfl rfl rfl rfl (Nat.le_of_ble_eq_true rfl) h (fun r1 m2 hr1 h => zV_ok (fun hm2 => ?_))
  replace h := h hr1 hm2
  refine zV_if_eq (pc := 4) (tgt := 9) dX10_which_4 (by decide) hr1 (fun c3 => ?_) (fun c3 => ?_)
  · skip
    replace h := h.1 c3
    refine zV_iconst (pc := 9) dX10_which_9 ?_
    refine zV_istore_n (pc := 10) (loc' := [(1, .int (iz 0)), (0, rr K 98)]) dX10_which_10 rfl (by decide) rfl ?_
    exact zV_sub [1, 0] rfl h
  · skip
    replace h := h.2 c3
    refine zV_iconst (pc := 7) dX10_which_7 ?_
    exact zV_iret (pc := 8) rfl dX10_which_8 (inRd rfl) h
set_option maxRecDepth 100000 in
set_option maxHeartbeats 4000000 in
theorem vc_X10_which_11 {K : zCx} {d : Nat} (x1 : Int) (m0 : zM) {Q : Int → zM → Prop} (hx1 : inR x1) (h : zok m0 → ((m0.1 98 4) ≤ x1 → zV K mX10_which (d + 7) 40 [(0, rr K 98), (1, .int (iz 0))] [] m0 Q) ∧ (¬ ((m0.1 98 4) ≤ x1) → zCt K (d + 6) mX10_explains [rr K 98, .int (iz x1), .int (iz (-1))] m0 (fun r2 m3 => inR r2 → zok m3 → (r2 = 0 → zV K mX10_which (d + 7) 11 [(0, rr K 98), (1, .int (iz (x1 + 1)))] [] m3 Q) ∧ (¬ (r2 = 0) → Q (zshl 1 x1) m3)))) : zV K mX10_which (d + 7) 11 [(0, rr K 98), (1, .int (iz x1))] [] m0 Q := by
  refine zV_ok (fun hm0 => ?_)
  replace h := h hm0
  refine zV_iload_n (pc := 11) dX10_which_11 rfl 1 rfl ?_
  refine zV_aloadr_n (pc := 12) dX10_which_12 rfl 0 rfl ?_
  refine zV_getI (pc := 13) (kz := 4) dX10_which_13 zfX10_111 rfl rfl rfl ?_
  refine zV_icmp_ge (pc := 16) (tgt := 38) dX10_which_16 (by decide) hx1 (hm0 _ _) (fun c1 => ?_) (fun c1 => ?_)
  · skip
    replace h := h.1 c1
    refine zV_iconst (pc := 38) dX10_which_38 ?_
    refine zV_istore_n (pc := 39) (loc' := [(1, .int (iz 0)), (0, rr K 98)]) dX10_which_39 rfl (by decide) rfl ?_
    exact zV_sub [1, 0] rfl h
  · skip
    replace h := h.2 c1
    refine zV_aloadr_n (pc := 19) dX10_which_19 rfl 0 rfl ?_
    refine zV_iload_n (pc := 20) dX10_which_20 rfl 1 rfl ?_
    refine zV_iconst (pc := 21) dX10_which_21 ?_
    refine zV_callV (pc := 22) (mc := mX10_explains) (As := [.int (iz x1), .int (iz (-1))]) (rest := []) dX10_which_22 zcX10_355 ziX10_explains zsX10_explains rfl rfl rfl rfl (Nat.le_of_ble_eq_true rfl) h (fun r2 m3 hr2 h => zV_ok (fun hm3 => ?_))
    replace h := h hr2 hm3
    refine zV_if_eq (pc := 25) (tgt := 32) dX10_which_25 (by decide) hr2 (fun c4 => ?_) (fun c4 => ?_)
    · skip
      replace h := h.1 c4
      refine zV_iinc (pc := 32) (loc' := [(1, .int (iz (x1 + 1))), (0, rr K 98)]) dX10_which_32 1 rfl (by decide) rfl ?_
      refine zV_goto (pc := 35) (tgt := 11) dX10_which_35 (by decide) ?_
      exact zV_sub [1, 0] rfl h
    · skip
      replace h := h.2 c4
      refine zV_iconst (pc := 28) dX10_which_28 ?_
      refine zV_iload_n (pc := 29) dX10_which_29 rfl 1 rfl ?_
      refine zV_ishl (pc := 30) dX10_which_30 ?_
      exact zV_iret (pc := 31) rfl dX10_which_31 (inR_zshl _ _) h
set_option maxRecDepth 100000 in
set_option maxHeartbeats 4000000 in
theorem vc_X10_which_40 {K : zCx} {d : Nat} (x1 : Int) (m0 : zM) {Q : Int → zM → Prop} (hx1 : inR x1) (h : zok m0 → ((m0.1 98 4) ≤ x1 → Q (-3) m0) ∧ (¬ ((m0.1 98 4) ≤ x1) → zV K mX10_which (d + 7) 50 [(0, rr K 98), (1, .int (iz x1)), (2, .int (iz 0))] [] m0 Q)) : zV K mX10_which (d + 7) 40 [(0, rr K 98), (1, .int (iz x1))] [] m0 Q := by
  refine zV_ok (fun hm0 => ?_)
  replace h := h hm0
  refine zV_iload_n (pc := 40) dX10_which_40 rfl 1 rfl ?_
  refine zV_aloadr_n (pc := 41) dX10_which_41 rfl 0 rfl ?_
  refine zV_getI (pc := 42) (kz := 4) dX10_which_42 zfX10_111 rfl rfl rfl ?_
  refine zV_icmp_ge (pc := 45) (tgt := 84) dX10_which_45 (by decide) hx1 (hm0 _ _) (fun c1 => ?_) (fun c1 => ?_)
  · skip
    replace h := h.1 c1
    refine zV_bipush (pc := 84) dX10_which_84 (by decide) ?_
    exact zV_iret (pc := 86) rfl dX10_which_86 (inRd rfl) h
  · skip
    replace h := h.2 c1
    refine zV_iconst (pc := 48) dX10_which_48 ?_
    refine zV_istore_n (pc := 49) (loc' := [(2, .int (iz 0)), (0, rr K 98), (1, .int (iz x1))]) dX10_which_49 rfl (by decide) rfl ?_
    exact zV_sub [1, 2, 0] rfl h
set_option maxRecDepth 100000 in
set_option maxHeartbeats 4000000 in
theorem vc_X10_which_50 {K : zCx} {d : Nat} (x1 : Int) (x2 : Int) (m0 : zM) {Q : Int → zM → Prop} (hx1 : inR x1) (hx2 : inR x2) (h : zok m0 → (x1 ≤ x2 → zV K mX10_which (d + 7) 40 [(0, rr K 98), (1, .int (iz (x1 + 1)))] [] m0 Q) ∧ (¬ (x1 ≤ x2) → zCt K (d + 6) mX10_explains [rr K 98, .int (iz x2), .int (iz x1)] m0 (fun r2 m3 => inR r2 → zok m3 → (r2 = 0 → zV K mX10_which (d + 7) 50 [(0, rr K 98), (1, .int (iz x1)), (2, .int (iz (x2 + 1)))] [] m3 Q) ∧ (¬ (r2 = 0) → Q (zor (zshl 1 x2) (zshl 1 x1)) m3)))) : zV K mX10_which (d + 7) 50 [(0, rr K 98), (1, .int (iz x1)), (2, .int (iz x2))] [] m0 Q := by
  refine zV_ok (fun hm0 => ?_)
  replace h := h hm0
  refine zV_iload_n (pc := 50) dX10_which_50 rfl 2 rfl ?_
  refine zV_iload_n (pc := 51) dX10_which_51 rfl 1 rfl ?_
  refine zV_icmp_ge (pc := 52) (tgt := 78) dX10_which_52 (by decide) hx2 hx1 (fun c1 => ?_) (fun c1 => ?_)
  · skip
    replace h := h.1 c1
    refine zV_iinc (pc := 78) (loc' := [(1, .int (iz (x1 + 1))), (0, rr K 98), (2, .int (iz x2))]) dX10_which_78 1 rfl (by decide) rfl ?_
    refine zV_goto (pc := 81) (tgt := 40) dX10_which_81 (by decide) ?_
    exact zV_sub [1, 0] rfl h
  · skip
    replace h := h.2 c1
    refine zV_aloadr_n (pc := 55) dX10_which_55 rfl 0 rfl ?_
    refine zV_iload_n (pc := 56) dX10_which_56 rfl 2 rfl ?_
    refine zV_iload_n (pc := 57) dX10_which_57 rfl 1 rfl ?_
    refine zV_callV (pc := 58) (mc := mX10_explains) (As := [.int (iz x2), .int (iz x1)]) (rest := []) dX10_which_58 zcX10_355 ziX10_explains zsX10_explains rfl rfl rfl rfl (Nat.le_of_ble_eq_true rfl) h (fun r2 m3 hr2 h => zV_ok (fun hm3 => ?_))
    replace h := h hr2 hm3
    refine zV_if_eq (pc := 61) (tgt := 72) dX10_which_61 (by decide) hr2 (fun c4 => ?_) (fun c4 => ?_)
    · skip
      replace h := h.1 c4
      refine zV_iinc (pc := 72) (loc' := [(2, .int (iz (x2 + 1))), (0, rr K 98), (1, .int (iz x1))]) dX10_which_72 2 rfl (by decide) rfl ?_
      refine zV_goto (pc := 75) (tgt := 50) dX10_which_75 (by decide) ?_
      exact zV_sub [1, 2, 0] rfl h
    · skip
      replace h := h.2 c4
      refine zV_iconst (pc := 64) dX10_which_64 ?_
      refine zV_iload_n (pc := 65) dX10_which_65 rfl 2 rfl ?_
      refine zV_ishl (pc := 66) dX10_which_66 ?_
      refine zV_iconst (pc := 67) dX10_which_67 ?_
      refine zV_iload_n (pc := 68) dX10_which_68 rfl 1 rfl ?_
      refine zV_ishl (pc := 69) dX10_which_69 ?_
      refine zV_ior (pc := 70) dX10_which_70 ?_
      exact zV_iret (pc := 71) rfl dX10_which_71 (inR_zor _ _) h

set_option maxRecDepth 100000 in
set_option maxHeartbeats 4000000 in
theorem vc_X10_sheet_0 {K : zCx} {d : Nat} (x1 : Int) (x2 : Int) (x3 : Int) (m0 : zM) {Q : Int → zM → Prop} (hx1 : inR x1) (hx2 : inR x2) (hx3 : inR x3) (h : zok m0 → ((0 ≤ x1 ∧ x1 ≤ 3) → (((-1) ≤ x2 ∧ x2 ≤ 3) → (x2 < 0 → (x2 < 0 → 0 ≤ x1 ∧ x1 < 4 ∧ (∀ m11 : zM, m11 = sI m0 122 x1 x2 → zok m11 → (∀ v13 : Int, v13 = (if 0 ≤ x2 then x3 else 0) → (∀ m15 : zM, m15 = sI m11 123 x1 v13 → zok m15 → (zV K mX10_sheet (d + 3) 64 [(0, rr K 98), (1, .int (iz x1)), (4, .int (iz 0))] [] m15 Q))))) ∧ (¬ (x2 < 0) → (0 ≤ x3 → 0 ≤ x1 ∧ x1 < 4 ∧ (∀ m21 : zM, m21 = sI m0 122 x1 x2 → zok m21 → (∀ v23 : Int, v23 = (if 0 ≤ x2 then x3 else 0) → (∀ m25 : zM, m25 = sI m21 123 x1 v23 → zok m25 → (zV K mX10_sheet (d + 3) 64 [(0, rr K 98), (1, .int (iz x1)), (4, .int (iz 0))] [] m25 Q))))) ∧ (¬ (0 ≤ x3) → Q (-14) m0))) ∧ (¬ (x2 < 0) → (x3 ≤ 40 → (x2 < 0 → 0 ≤ x1 ∧ x1 < 4 ∧ (∀ m32 : zM, m32 = sI m0 122 x1 x2 → zok m32 → (∀ v34 : Int, v34 = (if 0 ≤ x2 then x3 else 0) → (∀ m36 : zM, m36 = sI m32 123 x1 v34 → zok m36 → (zV K mX10_sheet (d + 3) 64 [(0, rr K 98), (1, .int (iz x1)), (4, .int (iz 0))] [] m36 Q))))) ∧ (¬ (x2 < 0) → (0 ≤ x3 → 0 ≤ x1 ∧ x1 < 4 ∧ (∀ m42 : zM, m42 = sI m0 122 x1 x2 → zok m42 → (∀ v44 : Int, v44 = (if 0 ≤ x2 then x3 else 0) → (∀ m46 : zM, m46 = sI m42 123 x1 v44 → zok m46 → (zV K mX10_sheet (d + 3) 64 [(0, rr K 98), (1, .int (iz x1)), (4, .int (iz 0))] [] m46 Q))))) ∧ (¬ (0 ≤ x3) → Q (-14) m0))) ∧ (¬ (x3 ≤ 40) → Q (-1) m0))) ∧ (¬ (((-1) ≤ x2 ∧ x2 ≤ 3)) → Q (-1) m0)) ∧ (¬ ((0 ≤ x1 ∧ x1 ≤ 3)) → Q (-1) m0)) : zV K mX10_sheet (d + 3) 0 [(0, rr K 98), (1, .int (iz x1)), (2, .int (iz x2)), (3, .int (iz x3))] [] m0 Q := by
  refine zV_ok (fun hm0 => ?_)
  replace h := h hm0
  refine zV_iload_n (pc := 0) dX10_sheet_0 rfl 1 rfl ?_
  refine zV_callSf (pc := 1) (mc := mX10_isShelf) (As := [.int (iz x1)]) (rest := []) dX10_sheet_1 zcX10_118 ztX10_isShelf rfl rfl (Nat.le_of_ble_eq_true rfl) (c_X10_isShelf hx1) (fun hr1 => ?_)
  refine zV_if_eq (pc := 4) (tgt := 26) dX10_sheet_4 (by decide) (inR_b2i _) (fun c3 => ?_) (fun c3 => ?_)
  · replace c3 := b2i_fp c3
    replace h := h.2 c3
    refine zV_iconst (pc := 26) dX10_sheet_26 ?_
    exact zV_iret (pc := 27) rfl dX10_sheet_27 (inRd rfl) h
  · replace c3 := b2i_tp c3
    replace h := h.1 c3
    refine zV_iload_n (pc := 7) dX10_sheet_7 rfl 2 rfl ?_
    refine zV_iconst (pc := 8) dX10_sheet_8 ?_
    refine zV_iconst (pc := 9) dX10_sheet_9 ?_
    refine zV_callSf (pc := 10) (mc := mX10_in) (As := [.int (iz x2), .int (iz (-1)), .int (iz 3)]) (rest := []) dX10_sheet_10 zcX10_114 ztX10_in rfl rfl (Nat.le_of_ble_eq_true rfl) (c_X10_in hx2 (inRd rfl) (inRd rfl)) (fun hr4 => ?_)
    refine zV_if_eq (pc := 13) (tgt := 26) dX10_sheet_13 (by decide) (inR_b2i _) (fun c6 => ?_) (fun c6 => ?_)
    · replace c6 := b2i_fp c6
      replace h := h.2 c6
      refine zV_iconst (pc := 26) dX10_sheet_26 ?_
      exact zV_iret (pc := 27) rfl dX10_sheet_27 (inRd rfl) h
    · replace c6 := b2i_tp c6
      replace h := h.1 c6
      refine zV_iload_n (pc := 16) dX10_sheet_16 rfl 2 rfl ?_
      refine zV_if_lt (pc := 17) (tgt := 28) dX10_sheet_17 (by decide) hx2 (fun c7 => ?_) (fun c7 => ?_)
      · skip
        replace h := h.1 c7
        refine zV_iload_n (pc := 28) dX10_sheet_28 rfl 2 rfl ?_
        refine zV_if_lt (pc := 29) (tgt := 39) dX10_sheet_29 (by decide) hx2 (fun c8 => ?_) (fun c8 => ?_)
        · skip
          replace h := h.1 c8
          refine zV_aloadr_n (pc := 39) dX10_sheet_39 rfl 0 rfl ?_
          refine zV_getR (pc := 40) (b := 122) dX10_sheet_40 zfX10_83 rfl rfl rfl ?_
          refine zV_iload_n (pc := 43) dX10_sheet_43 rfl 1 rfl ?_
          refine zV_iload_n (pc := 44) dX10_sheet_44 rfl 2 rfl ?_
          obtain ⟨o9, o10, h⟩ := h
          refine zV_iast (pc := 45) dX10_sheet_45 rfl o9 o10 (inR_ix o9 o10 rfl) hx2 ?_
          refine zV_mem (fun m11 e12 => zV_ok (fun hm11 => ?_))
          replace h := h m11 e12 hm11
          refine zV_aloadr_n (pc := 46) dX10_sheet_46 rfl 0 rfl ?_
          refine zV_getR (pc := 47) (b := 123) dX10_sheet_47 zfX10_86 rfl rfl rfl ?_
          refine zV_iload_n (pc := 50) dX10_sheet_50 rfl 1 rfl ?_
          refine zV_iload_n (pc := 51) dX10_sheet_51 rfl 2 rfl ?_
          have key : ∀ v13 : Int, v13 = (if 0 ≤ x2 then x3 else 0) → zV K mX10_sheet (d + 3) 60 [(0, rr K 98), (1, .int (iz x1))] [.int (iz v13), .int (iz x1), rr K 123] m11 Q := by
            intro v13 e14
            replace h := h v13 e14
            have hrv13 : inR v13 := by rw [e14]; (repeat' split) <;> first | with_reducible exact hx3 | with_reducible exact (inRd rfl)
            refine zV_iast (pc := 60) dX10_sheet_60 rfl o9 o10 (inR_ix o9 o10 rfl) hrv13 ?_
            refine zV_mem (fun m15 e16 => zV_ok (fun hm15 => ?_))
            replace h := h m15 e16 hm15
            refine zV_iconst (pc := 61) dX10_sheet_61 ?_
            refine zV_istore (pc := 62) (loc' := [(4, .int (iz 0)), (0, rr K 98), (1, .int (iz x1))]) dX10_sheet_62 (by decide) rfl ?_
            exact zV_sub [1, 2, 0] rfl h
          refine zV_if_ge (pc := 52) (tgt := 59) dX10_sheet_52 (by decide) hx2 (fun c17 => ?_) (fun c17 => ?_)
          · skip
            refine zV_iload_n (pc := 59) dX10_sheet_59 rfl 3 rfl ?_
            exact zV_sub [0, 1] rfl (key _ (if_pos c17).symm)
          · skip
            refine zV_iconst (pc := 55) dX10_sheet_55 ?_
            refine zV_goto (pc := 56) (tgt := 60) dX10_sheet_56 (by decide) ?_
            exact zV_sub [0, 1] rfl (key _ (if_neg c17).symm)
        · skip
          replace h := h.2 c8
          refine zV_iload_n (pc := 32) dX10_sheet_32 rfl 3 rfl ?_
          refine zV_if_ge (pc := 33) (tgt := 39) dX10_sheet_33 (by decide) hx3 (fun c18 => ?_) (fun c18 => ?_)
          · skip
            replace h := h.1 c18
            refine zV_aloadr_n (pc := 39) dX10_sheet_39 rfl 0 rfl ?_
            refine zV_getR (pc := 40) (b := 122) dX10_sheet_40 zfX10_83 rfl rfl rfl ?_
            refine zV_iload_n (pc := 43) dX10_sheet_43 rfl 1 rfl ?_
            refine zV_iload_n (pc := 44) dX10_sheet_44 rfl 2 rfl ?_
            obtain ⟨o19, o20, h⟩ := h
            refine zV_iast (pc := 45) dX10_sheet_45 rfl o19 o20 (inR_ix o19 o20 rfl) hx2 ?_
            refine zV_mem (fun m21 e22 => zV_ok (fun hm21 => ?_))
            replace h := h m21 e22 hm21
            refine zV_aloadr_n (pc := 46) dX10_sheet_46 rfl 0 rfl ?_
            refine zV_getR (pc := 47) (b := 123) dX10_sheet_47 zfX10_86 rfl rfl rfl ?_
            refine zV_iload_n (pc := 50) dX10_sheet_50 rfl 1 rfl ?_
            refine zV_iload_n (pc := 51) dX10_sheet_51 rfl 2 rfl ?_
            have key : ∀ v23 : Int, v23 = (if 0 ≤ x2 then x3 else 0) → zV K mX10_sheet (d + 3) 60 [(0, rr K 98), (1, .int (iz x1))] [.int (iz v23), .int (iz x1), rr K 123] m21 Q := by
              intro v23 e24
              replace h := h v23 e24
              have hrv23 : inR v23 := by rw [e24]; (repeat' split) <;> first | with_reducible exact hx3 | with_reducible exact (inRd rfl)
              refine zV_iast (pc := 60) dX10_sheet_60 rfl o19 o20 (inR_ix o19 o20 rfl) hrv23 ?_
              refine zV_mem (fun m25 e26 => zV_ok (fun hm25 => ?_))
              replace h := h m25 e26 hm25
              refine zV_iconst (pc := 61) dX10_sheet_61 ?_
              refine zV_istore (pc := 62) (loc' := [(4, .int (iz 0)), (0, rr K 98), (1, .int (iz x1))]) dX10_sheet_62 (by decide) rfl ?_
              exact zV_sub [1, 2, 0] rfl h
            refine zV_if_ge (pc := 52) (tgt := 59) dX10_sheet_52 (by decide) hx2 (fun c27 => ?_) (fun c27 => ?_)
            · skip
              refine zV_iload_n (pc := 59) dX10_sheet_59 rfl 3 rfl ?_
              exact zV_sub [0, 1] rfl (key _ (if_pos c27).symm)
            · skip
              refine zV_iconst (pc := 55) dX10_sheet_55 ?_
              refine zV_goto (pc := 56) (tgt := 60) dX10_sheet_56 (by decide) ?_
              exact zV_sub [0, 1] rfl (key _ (if_neg c27).symm)
          · skip
            replace h := h.2 c18
            refine zV_bipush (pc := 36) dX10_sheet_36 (by decide) ?_
            exact zV_iret (pc := 38) rfl dX10_sheet_38 (inRd rfl) h
      · skip
        replace h := h.2 c7
        refine zV_iload_n (pc := 20) dX10_sheet_20 rfl 3 rfl ?_
        refine zV_bipush (pc := 21) dX10_sheet_21 (by decide) ?_
        refine zV_icmp_le (pc := 23) (tgt := 28) dX10_sheet_23 (by decide) hx3 (inRd rfl) (fun c28 => ?_) (fun c28 => ?_)
        · skip
          replace h := h.1 c28
          refine zV_iload_n (pc := 28) dX10_sheet_28 rfl 2 rfl ?_
          refine zV_if_lt (pc := 29) (tgt := 39) dX10_sheet_29 (by decide) hx2 (fun c29 => ?_) (fun c29 => ?_)
          · skip
            replace h := h.1 c29
            refine zV_aloadr_n (pc := 39) dX10_sheet_39 rfl 0 rfl ?_
            refine zV_getR (pc := 40) (b := 122) dX10_sheet_40 zfX10_83 rfl rfl rfl ?_
            refine zV_iload_n (pc := 43) dX10_sheet_43 rfl 1 rfl ?_
            refine zV_iload_n (pc := 44) dX10_sheet_44 rfl 2 rfl ?_
            obtain ⟨o30, o31, h⟩ := h
            refine zV_iast (pc := 45) dX10_sheet_45 rfl o30 o31 (inR_ix o30 o31 rfl) hx2 ?_
            refine zV_mem (fun m32 e33 => zV_ok (fun hm32 => ?_))
            replace h := h m32 e33 hm32
            refine zV_aloadr_n (pc := 46) dX10_sheet_46 rfl 0 rfl ?_
            refine zV_getR (pc := 47) (b := 123) dX10_sheet_47 zfX10_86 rfl rfl rfl ?_
            refine zV_iload_n (pc := 50) dX10_sheet_50 rfl 1 rfl ?_
            refine zV_iload_n (pc := 51) dX10_sheet_51 rfl 2 rfl ?_
            have key : ∀ v34 : Int, v34 = (if 0 ≤ x2 then x3 else 0) → zV K mX10_sheet (d + 3) 60 [(0, rr K 98), (1, .int (iz x1))] [.int (iz v34), .int (iz x1), rr K 123] m32 Q := by
              intro v34 e35
              replace h := h v34 e35
              have hrv34 : inR v34 := by rw [e35]; (repeat' split) <;> first | with_reducible exact hx3 | with_reducible exact (inRd rfl)
              refine zV_iast (pc := 60) dX10_sheet_60 rfl o30 o31 (inR_ix o30 o31 rfl) hrv34 ?_
              refine zV_mem (fun m36 e37 => zV_ok (fun hm36 => ?_))
              replace h := h m36 e37 hm36
              refine zV_iconst (pc := 61) dX10_sheet_61 ?_
              refine zV_istore (pc := 62) (loc' := [(4, .int (iz 0)), (0, rr K 98), (1, .int (iz x1))]) dX10_sheet_62 (by decide) rfl ?_
              exact zV_sub [1, 2, 0] rfl h
            refine zV_if_ge (pc := 52) (tgt := 59) dX10_sheet_52 (by decide) hx2 (fun c38 => ?_) (fun c38 => ?_)
            · skip
              refine zV_iload_n (pc := 59) dX10_sheet_59 rfl 3 rfl ?_
              exact zV_sub [0, 1] rfl (key _ (if_pos c38).symm)
            · skip
              refine zV_iconst (pc := 55) dX10_sheet_55 ?_
              refine zV_goto (pc := 56) (tgt := 60) dX10_sheet_56 (by decide) ?_
              exact zV_sub [0, 1] rfl (key _ (if_neg c38).symm)
          · skip
            replace h := h.2 c29
            refine zV_iload_n (pc := 32) dX10_sheet_32 rfl 3 rfl ?_
            refine zV_if_ge (pc := 33) (tgt := 39) dX10_sheet_33 (by decide) hx3 (fun c39 => ?_) (fun c39 => ?_)
            · skip
              replace h := h.1 c39
              refine zV_aloadr_n (pc := 39) dX10_sheet_39 rfl 0 rfl ?_
              refine zV_getR (pc := 40) (b := 122) dX10_sheet_40 zfX10_83 rfl rfl rfl ?_
              refine zV_iload_n (pc := 43) dX10_sheet_43 rfl 1 rfl ?_
              refine zV_iload_n (pc := 44) dX10_sheet_44 rfl 2 rfl ?_
              obtain ⟨o40, o41, h⟩ := h
              refine zV_iast (pc := 45) dX10_sheet_45 rfl o40 o41 (inR_ix o40 o41 rfl) hx2 ?_
              refine zV_mem (fun m42 e43 => zV_ok (fun hm42 => ?_))
              replace h := h m42 e43 hm42
              refine zV_aloadr_n (pc := 46) dX10_sheet_46 rfl 0 rfl ?_
              refine zV_getR (pc := 47) (b := 123) dX10_sheet_47 zfX10_86 rfl rfl rfl ?_
              refine zV_iload_n (pc := 50) dX10_sheet_50 rfl 1 rfl ?_
              refine zV_iload_n (pc := 51) dX10_sheet_51 rfl 2 rfl ?_
              have key : ∀ v44 : Int, v44 = (if 0 ≤ x2 then x3 else 0) → zV K mX10_sheet (d + 3) 60 [(0, rr K 98), (1, .int (iz x1))] [.int (iz v44), .int (iz x1), rr K 123] m42 Q := by
                intro v44 e45
                replace h := h v44 e45
                have hrv44 : inR v44 := by rw [e45]; (repeat' split) <;> first | with_reducible exact hx3 | with_reducible exact (inRd rfl)
                refine zV_iast (pc := 60) dX10_sheet_60 rfl o40 o41 (inR_ix o40 o41 rfl) hrv44 ?_
                refine zV_mem (fun m46 e47 => zV_ok (fun hm46 => ?_))
                replace h := h m46 e47 hm46
                refine zV_iconst (pc := 61) dX10_sheet_61 ?_
                refine zV_istore (pc := 62) (loc' := [(4, .int (iz 0)), (0, rr K 98), (1, .int (iz x1))]) dX10_sheet_62 (by decide) rfl ?_
                exact zV_sub [1, 2, 0] rfl h
              refine zV_if_ge (pc := 52) (tgt := 59) dX10_sheet_52 (by decide) hx2 (fun c48 => ?_) (fun c48 => ?_)
              · skip
                refine zV_iload_n (pc := 59) dX10_sheet_59 rfl 3 rfl ?_
                exact zV_sub [0, 1] rfl (key _ (if_pos c48).symm)
              · skip
                refine zV_iconst (pc := 55) dX10_sheet_55 ?_
                refine zV_goto (pc := 56) (tgt := 60) dX10_sheet_56 (by decide) ?_
                exact zV_sub [0, 1] rfl (key _ (if_neg c48).symm)
            · skip
              replace h := h.2 c39
              refine zV_bipush (pc := 36) dX10_sheet_36 (by decide) ?_
              exact zV_iret (pc := 38) rfl dX10_sheet_38 (inRd rfl) h
        · skip
          replace h := h.2 c28
          refine zV_iconst (pc := 26) dX10_sheet_26 ?_
          exact zV_iret (pc := 27) rfl dX10_sheet_27 (inRd rfl) h
set_option maxRecDepth 100000 in
set_option maxHeartbeats 4000000 in
theorem vc_X10_sheet_64 {K : zCx} {d : Nat} (x1 : Int) (x4 : Int) (m0 : zM) {Q : Int → zM → Prop} (hx1 : inR x1) (hx4 : inR x4) (h : zok m0 → (40 ≤ x4 → Q 1 m0) ∧ (¬ (40 ≤ x4) → 0 ≤ ((40 * x1) + x4) ∧ ((40 * x1) + x4) < 160 ∧ (∀ m4 : zM, m4 = sL m0 124 ((40 * x1) + x4) (0 : Int64) → zok m4 → (zV K mX10_sheet (d + 3) 64 [(0, rr K 98), (1, .int (iz x1)), (4, .int (iz (x4 + 1)))] [] m4 Q)))) : zV K mX10_sheet (d + 3) 64 [(0, rr K 98), (1, .int (iz x1)), (4, .int (iz x4))] [] m0 Q := by
  refine zV_ok (fun hm0 => ?_)
  replace h := h hm0
  refine zV_iload (pc := 64) dX10_sheet_64 2 rfl ?_
  refine zV_bipush (pc := 66) dX10_sheet_66 (by decide) ?_
  refine zV_icmp_ge (pc := 68) (tgt := 90) dX10_sheet_68 (by decide) hx4 (inRd rfl) (fun c1 => ?_) (fun c1 => ?_)
  · skip
    replace h := h.1 c1
    refine zV_iconst (pc := 90) dX10_sheet_90 ?_
    exact zV_iret (pc := 91) rfl dX10_sheet_91 (inRd rfl) h
  · skip
    replace h := h.2 c1
    refine zV_aloadr_n (pc := 71) dX10_sheet_71 rfl 0 rfl ?_
    refine zV_getR (pc := 72) (b := 124) dX10_sheet_72 zfX10_89 rfl rfl rfl ?_
    refine zV_bipush (pc := 75) dX10_sheet_75 (by decide) ?_
    refine zV_iload_n (pc := 77) dX10_sheet_77 rfl 1 rfl ?_
    refine zV_imul (pc := 78) dX10_sheet_78 ?_
    refine zV_iload (pc := 79) dX10_sheet_79 2 rfl ?_
    refine zV_iadd (pc := 81) dX10_sheet_81 ?_
    refine zV_lconst (pc := 82) (v := 0) dX10_sheet_82 rfl ?_
    obtain ⟨o2, o3, h⟩ := h
    refine zV_last (pc := 83) dX10_sheet_83 rfl o2 o3 (inR_ix o2 o3 rfl) ?_
    refine zV_mem (fun m4 e5 => zV_ok (fun hm4 => ?_))
    replace h := h m4 e5 hm4
    refine zV_iinc (pc := 84) (loc' := [(4, .int (iz (x4 + 1))), (0, rr K 98), (1, .int (iz x1))]) dX10_sheet_84 2 rfl (by decide) rfl ?_
    refine zV_goto (pc := 87) (tgt := 64) dX10_sheet_87 (by decide) ?_
    exact zV_sub [1, 2, 0] rfl h

set_option maxRecDepth 100000 in
set_option maxHeartbeats 4000000 in
theorem vc_X10_put_0 {K : zCx} {d : Nat} (x1 : Int) (x2 : Int) (x3 : Int) (m0 : zM) {Q : Int → zM → Prop} (hx1 : inR x1) (hx2 : inR x2) (hx3 : inR x3) (h : zok m0 → ((0 ≤ x1 ∧ x1 ≤ 3) → 0 ≤ x1 ∧ x1 < 4 ∧ ((0 ≤ (m0.1 122 x1) → inR ((m0.1 123 x1) - 1) ∧ (((0 ≤ x2 ∧ x2 ≤ ((m0.1 123 x1) - 1)) → ((m0.1 122 x1) = 0 → 0 ≤ ((40 * x1) + x2) ∧ ((40 * x1) + x2) < 160 ∧ (∀ m23 : zM, m23 = sL m0 124 ((40 * x1) + x2) (iz (zi2b x3)).toInt64 → zok m23 → (Q 1 m23))) ∧ (¬ ((m0.1 122 x1) = 0) → ((m0.1 122 x1) = 1 → 0 ≤ ((40 * x1) + x2) ∧ ((40 * x1) + x2) < 160 ∧ (∀ m19 : zM, m19 = sL m0 124 ((40 * x1) + x2) (iz (zi2s x3)).toInt64 → zok m19 → (Q 1 m19))) ∧ (¬ ((m0.1 122 x1) = 1) → 0 ≤ ((40 * x1) + x2) ∧ ((40 * x1) + x2) < 160 ∧ (∀ m15 : zM, m15 = sL m0 124 ((40 * x1) + x2) (iz x3).toInt64 → zok m15 → (Q 1 m15))))) ∧ (¬ ((0 ≤ x2 ∧ x2 ≤ ((m0.1 123 x1) - 1))) → Q (-12) m0))) ∧ (¬ (0 ≤ (m0.1 122 x1)) → Q (-11) m0))) ∧ (¬ ((0 ≤ x1 ∧ x1 ≤ 3)) → Q (-1) m0)) : zV K mX10_put (d + 3) 0 [(0, rr K 98), (1, .int (iz x1)), (2, .int (iz x2)), (3, .int (iz x3))] [] m0 Q := by
  refine zV_ok (fun hm0 => ?_)
  replace h := h hm0
  refine zV_iload_n (pc := 0) dX10_put_0 rfl 1 rfl ?_
  refine zV_callSf (pc := 1) (mc := mX10_isShelf) (As := [.int (iz x1)]) (rest := []) dX10_put_1 zcX10_118 ztX10_isShelf rfl rfl (Nat.le_of_ble_eq_true rfl) (c_X10_isShelf hx1) (fun hr1 => ?_)
  refine zV_if_ne (pc := 4) (tgt := 9) dX10_put_4 (by decide) (inR_b2i _) (fun c3 => ?_) (fun c3 => ?_)
  · replace c3 := b2i_tp c3
    replace h := h.1 c3
    refine zV_aloadr_n (pc := 9) dX10_put_9 rfl 0 rfl ?_
    refine zV_getR (pc := 10) (b := 122) dX10_put_10 zfX10_83 rfl rfl rfl ?_
    refine zV_iload_n (pc := 13) dX10_put_13 rfl 1 rfl ?_
    obtain ⟨o4, o5, h⟩ := h
    refine zV_iald (pc := 14) dX10_put_14 rfl o4 o5 (inR_ix o4 o5 rfl) ?_
    refine zV_if_ge (pc := 15) (tgt := 21) dX10_put_15 (by decide) (hm0 _ _) (fun c6 => ?_) (fun c6 => ?_)
    · skip
      replace h := h.1 c6
      refine zV_iload_n (pc := 21) dX10_put_21 rfl 2 rfl ?_
      refine zV_iconst (pc := 22) dX10_put_22 ?_
      refine zV_aloadr_n (pc := 23) dX10_put_23 rfl 0 rfl ?_
      refine zV_getR (pc := 24) (b := 123) dX10_put_24 zfX10_86 rfl rfl rfl ?_
      refine zV_iload_n (pc := 27) dX10_put_27 rfl 1 rfl ?_
      refine zV_iald (pc := 28) dX10_put_28 rfl o4 o5 (inR_ix o4 o5 rfl) ?_
      refine zV_iconst (pc := 29) dX10_put_29 ?_
      refine zV_isub (pc := 30) dX10_put_30 ?_
      obtain ⟨o7, h⟩ := h
      refine zV_callSf (pc := 31) (mc := mX10_in) (As := [.int (iz x2), .int (iz 0), .int (iz ((m0.1 123 x1) - 1))]) (rest := []) dX10_put_31 zcX10_114 ztX10_in rfl rfl (Nat.le_of_ble_eq_true rfl) (c_X10_in hx2 (inRd rfl) o7) (fun hr8 => ?_)
      refine zV_if_ne (pc := 34) (tgt := 40) dX10_put_34 (by decide) (inR_b2i _) (fun c10 => ?_) (fun c10 => ?_)
      · replace c10 := b2i_tp c10
        replace h := h.1 c10
        refine zV_aloadr_n (pc := 40) dX10_put_40 rfl 0 rfl ?_
        refine zV_getR (pc := 41) (b := 124) dX10_put_41 zfX10_89 rfl rfl rfl ?_
        refine zV_bipush (pc := 44) dX10_put_44 (by decide) ?_
        refine zV_iload_n (pc := 46) dX10_put_46 rfl 1 rfl ?_
        refine zV_imul (pc := 47) dX10_put_47 ?_
        refine zV_iload_n (pc := 48) dX10_put_48 rfl 2 rfl ?_
        refine zV_iadd (pc := 49) dX10_put_49 ?_
        refine zV_aloadr_n (pc := 50) dX10_put_50 rfl 0 rfl ?_
        refine zV_getR (pc := 51) (b := 122) dX10_put_51 zfX10_83 rfl rfl rfl ?_
        refine zV_iload_n (pc := 54) dX10_put_54 rfl 1 rfl ?_
        refine zV_iald (pc := 55) dX10_put_55 rfl o4 o5 (inR_ix o4 o5 rfl) ?_
        refine zV_if_ne (pc := 56) (tgt := 65) dX10_put_56 (by decide) (hm0 _ _) (fun c11 => ?_) (fun c11 => ?_)
        · skip
          replace h := h.2 c11
          refine zV_aloadr_n (pc := 65) dX10_put_65 rfl 0 rfl ?_
          refine zV_getR (pc := 66) (b := 122) dX10_put_66 zfX10_83 rfl rfl rfl ?_
          refine zV_iload_n (pc := 69) dX10_put_69 rfl 1 rfl ?_
          refine zV_iald (pc := 70) dX10_put_70 rfl o4 o5 (inR_ix o4 o5 rfl) ?_
          refine zV_iconst (pc := 71) dX10_put_71 ?_
          refine zV_icmp_ne (pc := 72) (tgt := 81) dX10_put_72 (by decide) (hm0 _ _) (inRd rfl) (fun c12 => ?_) (fun c12 => ?_)
          · skip
            replace h := h.2 c12
            refine zV_iload_n (pc := 81) dX10_put_81 rfl 3 rfl ?_
            refine zV_i2l (pc := 82) dX10_put_82 ?_
            obtain ⟨o13, o14, h⟩ := h
            refine zV_last (pc := 83) dX10_put_83 rfl o13 o14 (inR_ix o13 o14 rfl) ?_
            refine zV_mem (fun m15 e16 => zV_ok (fun hm15 => ?_))
            replace h := h m15 e16 hm15
            refine zV_iconst (pc := 84) dX10_put_84 ?_
            exact zV_iret (pc := 85) rfl dX10_put_85 (inRd rfl) h
          · replace c12 := Classical.not_not.mp c12
            replace h := h.1 c12
            refine zV_iload_n (pc := 75) dX10_put_75 rfl 3 rfl ?_
            refine zV_i2s (pc := 76) dX10_put_76 ?_
            refine zV_i2l (pc := 77) dX10_put_77 ?_
            refine zV_goto (pc := 78) (tgt := 83) dX10_put_78 (by decide) ?_
            obtain ⟨o17, o18, h⟩ := h
            refine zV_last (pc := 83) dX10_put_83 rfl o17 o18 (inR_ix o17 o18 rfl) ?_
            refine zV_mem (fun m19 e20 => zV_ok (fun hm19 => ?_))
            replace h := h m19 e20 hm19
            refine zV_iconst (pc := 84) dX10_put_84 ?_
            exact zV_iret (pc := 85) rfl dX10_put_85 (inRd rfl) h
        · replace c11 := Classical.not_not.mp c11
          replace h := h.1 c11
          refine zV_iload_n (pc := 59) dX10_put_59 rfl 3 rfl ?_
          refine zV_i2b (pc := 60) dX10_put_60 ?_
          refine zV_i2l (pc := 61) dX10_put_61 ?_
          refine zV_goto (pc := 62) (tgt := 83) dX10_put_62 (by decide) ?_
          obtain ⟨o21, o22, h⟩ := h
          refine zV_last (pc := 83) dX10_put_83 rfl o21 o22 (inR_ix o21 o22 rfl) ?_
          refine zV_mem (fun m23 e24 => zV_ok (fun hm23 => ?_))
          replace h := h m23 e24 hm23
          refine zV_iconst (pc := 84) dX10_put_84 ?_
          exact zV_iret (pc := 85) rfl dX10_put_85 (inRd rfl) h
      · replace c10 := b2i_fn c10
        replace h := h.2 c10
        refine zV_bipush (pc := 37) dX10_put_37 (by decide) ?_
        exact zV_iret (pc := 39) rfl dX10_put_39 (inRd rfl) h
    · skip
      replace h := h.2 c6
      refine zV_bipush (pc := 18) dX10_put_18 (by decide) ?_
      exact zV_iret (pc := 20) rfl dX10_put_20 (inRd rfl) h
  · replace c3 := b2i_fn c3
    replace h := h.2 c3
    refine zV_iconst (pc := 7) dX10_put_7 ?_
    exact zV_iret (pc := 8) rfl dX10_put_8 (inRd rfl) h

set_option maxRecDepth 100000 in
set_option maxHeartbeats 4000000 in
theorem vc_X10_item_0 {K : zCx} {d : Nat} (x1 : Int) (x2 : Int) (x3 : Int) (m0 : zM) {Q : Int → zM → Prop} (hx1 : inR x1) (hx2 : inR x2) (hx3 : inR x3) (h : zok m0 → ((0 ≤ x1 ∧ x1 ≤ 3) → ((0 ≤ x2 ∧ x2 ≤ 3) → (0 ≤ x1) ∧ ((x1 < 4) ∧ (∀ v11 : Int, v11 = (if m0.1 122 x1 < 0 then -11 else if m0.1 122 x1 = x2 then 0 else -13) → ((v11 = 0 → 0 ≤ x1 ∧ x1 < 4 ∧ (inR ((m0.1 123 x1) - 1) ∧ (((0 ≤ x3 ∧ x3 ≤ ((m0.1 123 x1) - 1)) → 0 ≤ ((40 * x1) + x3) ∧ ((40 * x1) + x3) < 160 ∧ (Q (((m0.2.1 124 ((40 * x1) + x3))).toInt32.toInt) m0)) ∧ (¬ ((0 ≤ x3 ∧ x3 ≤ ((m0.1 123 x1) - 1))) → Q (-12) m0)))) ∧ (¬ (v11 = 0) → Q v11 m0))))) ∧ (¬ ((0 ≤ x2 ∧ x2 ≤ 3)) → Q (-1) m0)) ∧ (¬ ((0 ≤ x1 ∧ x1 ≤ 3)) → Q (-1) m0)) : zV K mX10_item (d + 3) 0 [(0, rr K 98), (1, .int (iz x1)), (2, .int (iz x2)), (3, .int (iz x3))] [] m0 Q := by
  refine zV_ok (fun hm0 => ?_)
  replace h := h hm0
  refine zV_iload_n (pc := 0) dX10_item_0 rfl 1 rfl ?_
  refine zV_callSf (pc := 1) (mc := mX10_isShelf) (As := [.int (iz x1)]) (rest := []) dX10_item_1 zcX10_118 ztX10_isShelf rfl rfl (Nat.le_of_ble_eq_true rfl) (c_X10_isShelf hx1) (fun hr1 => ?_)
  refine zV_if_eq (pc := 4) (tgt := 16) dX10_item_4 (by decide) (inR_b2i _) (fun c3 => ?_) (fun c3 => ?_)
  · replace c3 := b2i_fp c3
    replace h := h.2 c3
    refine zV_iconst (pc := 16) dX10_item_16 ?_
    exact zV_iret (pc := 17) rfl dX10_item_17 (inRd rfl) h
  · replace c3 := b2i_tp c3
    replace h := h.1 c3
    refine zV_iload_n (pc := 7) dX10_item_7 rfl 2 rfl ?_
    refine zV_iconst (pc := 8) dX10_item_8 ?_
    refine zV_iconst (pc := 9) dX10_item_9 ?_
    refine zV_callSf (pc := 10) (mc := mX10_in) (As := [.int (iz x2), .int (iz 0), .int (iz 3)]) (rest := []) dX10_item_10 zcX10_114 ztX10_in rfl rfl (Nat.le_of_ble_eq_true rfl) (c_X10_in hx2 (inRd rfl) (inRd rfl)) (fun hr4 => ?_)
    refine zV_if_ne (pc := 13) (tgt := 18) dX10_item_13 (by decide) (inR_b2i _) (fun c6 => ?_) (fun c6 => ?_)
    · replace c6 := b2i_tp c6
      replace h := h.1 c6
      refine zV_aloadr_n (pc := 18) dX10_item_18 rfl 0 rfl ?_
      refine zV_iload_n (pc := 19) dX10_item_19 rfl 1 rfl ?_
      refine zV_iload_n (pc := 20) dX10_item_20 rfl 2 rfl ?_
      obtain ⟨o7, h⟩ := h
      obtain ⟨o8, h⟩ := h
      refine zV_callVf (pc := 21) (mc := mX10_lacksSort) (As := [.int (iz x1), .int (iz x2)]) (rest := []) dX10_item_21 zcX10_122 ziX10_lacksSort zsX10_lacksSort rfl rfl rfl rfl (Nat.le_of_ble_eq_true rfl) (c_X10_lacksSort hx1 hx2 hm0 o7 o8) (fun hr9 => ?_)
      refine zV_name (fun v11 e12 => ?_)
      replace h := h v11 e12
      have hrv11 : inR v11 := by rw [e12]; exact hr9
      refine zV_istore (pc := 24) (loc' := [(4, .int (iz v11)), (0, rr K 98), (1, .int (iz x1)), (2, .int (iz x2)), (3, .int (iz x3))]) dX10_item_24 (by decide) rfl ?_
      refine zV_iload (pc := 26) dX10_item_26 0 rfl ?_
      refine zV_if_eq (pc := 28) (tgt := 34) dX10_item_28 (by decide) hrv11 (fun c13 => ?_) (fun c13 => ?_)
      · skip
        replace h := h.1 c13
        refine zV_iload_n (pc := 34) dX10_item_34 rfl 4 rfl ?_
        refine zV_iconst (pc := 35) dX10_item_35 ?_
        refine zV_aloadr_n (pc := 36) dX10_item_36 rfl 1 rfl ?_
        refine zV_getR (pc := 37) (b := 123) dX10_item_37 zfX10_86 rfl rfl rfl ?_
        refine zV_iload_n (pc := 40) dX10_item_40 rfl 2 rfl ?_
        obtain ⟨o14, o15, h⟩ := h
        refine zV_iald (pc := 41) dX10_item_41 rfl o14 o15 (inR_ix o14 o15 rfl) ?_
        refine zV_iconst (pc := 42) dX10_item_42 ?_
        refine zV_isub (pc := 43) dX10_item_43 ?_
        obtain ⟨o16, h⟩ := h
        refine zV_callSf (pc := 44) (mc := mX10_in) (As := [.int (iz x3), .int (iz 0), .int (iz ((m0.1 123 x1) - 1))]) (rest := []) dX10_item_44 zcX10_114 ztX10_in rfl rfl (Nat.le_of_ble_eq_true rfl) (c_X10_in hx3 (inRd rfl) o16) (fun hr17 => ?_)
        refine zV_if_eq (pc := 47) (tgt := 65) dX10_item_47 (by decide) (inR_b2i _) (fun c19 => ?_) (fun c19 => ?_)
        · replace c19 := b2i_fp c19
          replace h := h.2 c19
          refine zV_bipush (pc := 65) dX10_item_65 (by decide) ?_
          exact zV_iret (pc := 67) rfl dX10_item_67 (inRd rfl) h
        · replace c19 := b2i_tp c19
          replace h := h.1 c19
          refine zV_aloadr_n (pc := 50) dX10_item_50 rfl 1 rfl ?_
          refine zV_getR (pc := 51) (b := 124) dX10_item_51 zfX10_89 rfl rfl rfl ?_
          refine zV_bipush (pc := 54) dX10_item_54 (by decide) ?_
          refine zV_iload_n (pc := 56) dX10_item_56 rfl 2 rfl ?_
          refine zV_imul (pc := 57) dX10_item_57 ?_
          refine zV_iload_n (pc := 58) dX10_item_58 rfl 4 rfl ?_
          refine zV_iadd (pc := 59) dX10_item_59 ?_
          obtain ⟨o20, o21, h⟩ := h
          refine zV_lald (pc := 60) dX10_item_60 rfl o20 o21 (inR_ix o20 o21 rfl) ?_
          refine zV_l2i (pc := 61) dX10_item_61 ?_
          refine zV_goto (pc := 62) (tgt := 67) dX10_item_62 (by decide) ?_
          exact zV_iret (pc := 67) rfl dX10_item_67 (inR_of _) h
      · skip
        replace h := h.2 c13
        refine zV_iload (pc := 31) dX10_item_31 0 rfl ?_
        exact zV_iret (pc := 33) rfl dX10_item_33 hrv11 h
    · replace c6 := b2i_fn c6
      replace h := h.2 c6
      refine zV_iconst (pc := 16) dX10_item_16 ?_
      exact zV_iret (pc := 17) rfl dX10_item_17 (inRd rfl) h

set_option maxRecDepth 100000 in
set_option maxHeartbeats 4000000 in
theorem vc_X10_sizes_0 {K : zCx} {d : Nat} (x1 : Int) (x2 : Int) (x3 : Int) (x4 : Int) (m0 : zM) {Q : Int → zM → Prop} (hx1 : inR x1) (hx2 : inR x2) (hx3 : inR x3) (hx4 : inR x4) (h : zok m0 → (0 ≤ m0.1 98 4) ∧ (((0 ≤ x1 ∧ x1 < m0.1 98 4) → ((0 ≤ x2 ∧ x2 ≤ 3) → ((0 ≤ x4 ∧ x4 ≤ 10) → (0 ≤ x2) ∧ ((x2 < 4) ∧ (∀ v15 : Int, v15 = (if m0.1 122 x2 < 0 then -11 else if m0.1 122 x2 = 1 then 0 else -13) → ((v15 = 0 → zV K mX10_sizes (d + 3) 50 [(0, rr K 98), (1, .int (iz x1)), (2, .int (iz x2)), (3, .int (iz x3)), (4, .int (iz x4)), (6, .int (iz 0)), (7, .int (iz 0))] [] m0 Q) ∧ (¬ (v15 = 0) → Q v15 m0))))) ∧ (¬ ((0 ≤ x4 ∧ x4 ≤ 10)) → Q (-1) m0)) ∧ (¬ ((0 ≤ x2 ∧ x2 ≤ 3)) → Q (-1) m0)) ∧ (¬ ((0 ≤ x1 ∧ x1 < m0.1 98 4)) → Q (-1) m0))) : zV K mX10_sizes (d + 3) 0 [(0, rr K 98), (1, .int (iz x1)), (2, .int (iz x2)), (3, .int (iz x3)), (4, .int (iz x4))] [] m0 Q := by
  refine zV_ok (fun hm0 => ?_)
  replace h := h hm0
  refine zV_aloadr_n (pc := 0) dX10_sizes_0 rfl 0 rfl ?_
  refine zV_iload_n (pc := 1) dX10_sizes_1 rfl 1 rfl ?_
  obtain ⟨o1, h⟩ := h
  refine zV_callVf (pc := 2) (mc := mX10_isPart) (As := [.int (iz x1)]) (rest := []) dX10_sizes_2 zcX10_134 ziX10_isPart zsX10_isPart rfl rfl rfl rfl (Nat.le_of_ble_eq_true rfl) (c_X10_isPart hx1 hm0 o1) (fun hr2 => ?_)
  refine zV_if_eq (pc := 5) (tgt := 26) dX10_sizes_5 (by decide) (inR_b2i _) (fun c4 => ?_) (fun c4 => ?_)
  · replace c4 := b2i_fp c4
    replace h := h.2 c4
    refine zV_iconst (pc := 26) dX10_sizes_26 ?_
    exact zV_iret (pc := 27) rfl dX10_sizes_27 (inRd rfl) h
  · replace c4 := b2i_tp c4
    replace h := h.1 c4
    refine zV_iload_n (pc := 8) dX10_sizes_8 rfl 2 rfl ?_
    refine zV_callSf (pc := 9) (mc := mX10_isShelf) (As := [.int (iz x2)]) (rest := []) dX10_sizes_9 zcX10_118 ztX10_isShelf rfl rfl (Nat.le_of_ble_eq_true rfl) (c_X10_isShelf hx2) (fun hr5 => ?_)
    refine zV_if_eq (pc := 12) (tgt := 26) dX10_sizes_12 (by decide) (inR_b2i _) (fun c7 => ?_) (fun c7 => ?_)
    · replace c7 := b2i_fp c7
      replace h := h.2 c7
      refine zV_iconst (pc := 26) dX10_sizes_26 ?_
      exact zV_iret (pc := 27) rfl dX10_sizes_27 (inRd rfl) h
    · replace c7 := b2i_tp c7
      replace h := h.1 c7
      refine zV_iload (pc := 15) dX10_sizes_15 4 rfl ?_
      refine zV_iconst (pc := 17) dX10_sizes_17 ?_
      refine zV_bipush (pc := 18) dX10_sizes_18 (by decide) ?_
      refine zV_callSf (pc := 20) (mc := mX10_in) (As := [.int (iz x4), .int (iz 0), .int (iz 10)]) (rest := []) dX10_sizes_20 zcX10_114 ztX10_in rfl rfl (Nat.le_of_ble_eq_true rfl) (c_X10_in hx4 (inRd rfl) (inRd rfl)) (fun hr8 => ?_)
      refine zV_if_ne (pc := 23) (tgt := 28) dX10_sizes_23 (by decide) (inR_b2i _) (fun c10 => ?_) (fun c10 => ?_)
      · replace c10 := b2i_tp c10
        replace h := h.1 c10
        refine zV_aloadr_n (pc := 28) dX10_sizes_28 rfl 0 rfl ?_
        refine zV_iload_n (pc := 29) dX10_sizes_29 rfl 2 rfl ?_
        refine zV_iconst (pc := 30) dX10_sizes_30 ?_
        obtain ⟨o11, h⟩ := h
        obtain ⟨o12, h⟩ := h
        refine zV_callVf (pc := 31) (mc := mX10_lacksSort) (As := [.int (iz x2), .int (iz 1)]) (rest := []) dX10_sizes_31 zcX10_122 ziX10_lacksSort zsX10_lacksSort rfl rfl rfl rfl (Nat.le_of_ble_eq_true rfl) (c_X10_lacksSort hx2 (inRd rfl) hm0 o11 o12) (fun hr13 => ?_)
        refine zV_name (fun v15 e16 => ?_)
        replace h := h v15 e16
        have hrv15 : inR v15 := by rw [e16]; exact hr13
        refine zV_istore (pc := 34) (loc' := [(5, .int (iz v15)), (0, rr K 98), (1, .int (iz x1)), (2, .int (iz x2)), (3, .int (iz x3)), (4, .int (iz x4))]) dX10_sizes_34 (by decide) rfl ?_
        refine zV_iload (pc := 36) dX10_sizes_36 0 rfl ?_
        refine zV_if_eq (pc := 38) (tgt := 44) dX10_sizes_38 (by decide) hrv15 (fun c17 => ?_) (fun c17 => ?_)
        · skip
          replace h := h.1 c17
          refine zV_iconst (pc := 44) dX10_sizes_44 ?_
          refine zV_istore (pc := 45) (loc' := [(6, .int (iz 0)), (5, .int (iz v15)), (0, rr K 98), (1, .int (iz x1)), (2, .int (iz x2)), (3, .int (iz x3)), (4, .int (iz x4))]) dX10_sizes_45 (by decide) rfl ?_
          refine zV_iconst (pc := 47) dX10_sizes_47 ?_
          refine zV_istore (pc := 48) (loc' := [(7, .int (iz 0)), (6, .int (iz 0)), (5, .int (iz v15)), (0, rr K 98), (1, .int (iz x1)), (2, .int (iz x2)), (3, .int (iz x3)), (4, .int (iz x4))]) dX10_sizes_48 (by decide) rfl ?_
          exact zV_sub [3, 4, 5, 6, 7, 1, 0] rfl h
        · skip
          replace h := h.2 c17
          refine zV_iload (pc := 41) dX10_sizes_41 0 rfl ?_
          exact zV_iret (pc := 43) rfl dX10_sizes_43 hrv15 h
      · replace c10 := b2i_fn c10
        replace h := h.2 c10
        refine zV_iconst (pc := 26) dX10_sizes_26 ?_
        exact zV_iret (pc := 27) rfl dX10_sizes_27 (inRd rfl) h
set_option maxRecDepth 100000 in
set_option maxHeartbeats 4000000 in
theorem vc_X10_sizes_50 {K : zCx} {d : Nat} (x1 : Int) (x2 : Int) (x3 : Int) (x4 : Int) (x6 : Int) (x7 : Int) (m0 : zM) {Q : Int → zM → Prop} (hx1 : inR x1) (hx2 : inR x2) (hx3 : inR x3) (hx4 : inR x4) (hx6 : inR x6) (hx7 : inR x7) (h : zok m0 → (x4 ≤ x7 → Q x6 m0) ∧ (¬ (x4 ≤ x7) → (x3 < 0 → Q (-12) m0) ∧ (¬ (x3 < 0) → 0 ≤ x2 ∧ x2 < 4 ∧ (inR (((m0.1 123 x2) - 1) - x7) ∧ ((x3 ≤ (((m0.1 123 x2) - 1) - x7) → 0 ≤ (((40 * x2) + x3) + x7) ∧ (((40 * x2) + x3) + x7) < 160 ∧ ((((lg_cmp (m0.2.1 124 (((40 * x2) + x3) + x7)) (1 : Int64)).toInt) < 0 → zV K mX10_sizes (d + 3) 50 [(0, rr K 98), (1, .int (iz x1)), (2, .int (iz x2)), (3, .int (iz x3)), (4, .int (iz x4)), (6, .int (iz x6)), (7, .int (iz (x7 + 1)))] [] m0 Q) ∧ (¬ (((lg_cmp (m0.2.1 124 (((40 * x2) + x3) + x7)) (1 : Int64)).toInt) < 0) → (0 < ((lg_cmp (m0.2.1 124 (((40 * x2) + x3) + x7)) (9 : Int64)).toInt) → zV K mX10_sizes (d + 3) 50 [(0, rr K 98), (1, .int (iz x1)), (2, .int (iz x2)), (3, .int (iz x3)), (4, .int (iz x4)), (6, .int (iz x6)), (7, .int (iz (x7 + 1)))] [] m0 Q) ∧ (¬ (0 < ((lg_cmp (m0.2.1 124 (((40 * x2) + x3) + x7)) (9 : Int64)).toInt)) → inR (x1 + x7) ∧ ((0 ≤ m0.1 98 4) ∧ (((0 ≤ (x1 + x7) ∧ (x1 + x7) < m0.1 98 4) → 0 ≤ ((10 * (x1 + x7)) + 3) ∧ ((10 * (x1 + x7)) + 3) < 100 ∧ (∀ m18 : zM, m18 = sI m0 100 ((10 * (x1 + x7)) + 3) (((m0.2.1 124 (((40 * x2) + x3) + x7))).toInt32.toInt) → zok m18 → (zV K mX10_sizes (d + 3) 50 [(0, rr K 98), (1, .int (iz x1)), (2, .int (iz x2)), (3, .int (iz x3)), (4, .int (iz x4)), (6, .int (iz (x6 + 1))), (7, .int (iz (x7 + 1)))] [] m18 Q))) ∧ (¬ ((0 ≤ (x1 + x7) ∧ (x1 + x7) < m0.1 98 4)) → zV K mX10_sizes (d + 3) 50 [(0, rr K 98), (1, .int (iz x1)), (2, .int (iz x2)), (3, .int (iz x3)), (4, .int (iz x4)), (6, .int (iz x6)), (7, .int (iz (x7 + 1)))] [] m0 Q))))))) ∧ (¬ (x3 ≤ (((m0.1 123 x2) - 1) - x7)) → Q (-12) m0)))))) : zV K mX10_sizes (d + 3) 50 [(0, rr K 98), (1, .int (iz x1)), (2, .int (iz x2)), (3, .int (iz x3)), (4, .int (iz x4)), (6, .int (iz x6)), (7, .int (iz x7))] [] m0 Q := by
  refine zV_ok (fun hm0 => ?_)
  replace h := h hm0
  refine zV_iload (pc := 50) dX10_sizes_50 6 rfl ?_
  refine zV_iload (pc := 52) dX10_sizes_52 4 rfl ?_
  refine zV_icmp_ge (pc := 54) (tgt := 148) dX10_sizes_54 (by decide) hx7 hx4 (fun c1 => ?_) (fun c1 => ?_)
  · skip
    replace h := h.1 c1
    refine zV_iload (pc := 148) dX10_sizes_148 5 rfl ?_
    exact zV_iret (pc := 150) rfl dX10_sizes_150 hx6 h
  · skip
    replace h := h.2 c1
    refine zV_iload_n (pc := 57) dX10_sizes_57 rfl 3 rfl ?_
    refine zV_if_lt (pc := 58) (tgt := 76) dX10_sizes_58 (by decide) hx3 (fun c2 => ?_) (fun c2 => ?_)
    · skip
      replace h := h.1 c2
      refine zV_bipush (pc := 76) dX10_sizes_76 (by decide) ?_
      exact zV_iret (pc := 78) rfl dX10_sizes_78 (inRd rfl) h
    · skip
      replace h := h.2 c2
      refine zV_iload_n (pc := 61) dX10_sizes_61 rfl 3 rfl ?_
      refine zV_aloadr_n (pc := 62) dX10_sizes_62 rfl 0 rfl ?_
      refine zV_getR (pc := 63) (b := 123) dX10_sizes_63 zfX10_86 rfl rfl rfl ?_
      refine zV_iload_n (pc := 66) dX10_sizes_66 rfl 2 rfl ?_
      obtain ⟨o3, o4, h⟩ := h
      refine zV_iald (pc := 67) dX10_sizes_67 rfl o3 o4 (inR_ix o3 o4 rfl) ?_
      refine zV_iconst (pc := 68) dX10_sizes_68 ?_
      refine zV_isub (pc := 69) dX10_sizes_69 ?_
      refine zV_iload (pc := 70) dX10_sizes_70 6 rfl ?_
      refine zV_isub (pc := 72) dX10_sizes_72 ?_
      obtain ⟨o5, h⟩ := h
      refine zV_icmp_le (pc := 73) (tgt := 79) dX10_sizes_73 (by decide) hx3 o5 (fun c6 => ?_) (fun c6 => ?_)
      · skip
        replace h := h.1 c6
        refine zV_aloadr_n (pc := 79) dX10_sizes_79 rfl 0 rfl ?_
        refine zV_getR (pc := 80) (b := 124) dX10_sizes_80 zfX10_89 rfl rfl rfl ?_
        refine zV_bipush (pc := 83) dX10_sizes_83 (by decide) ?_
        refine zV_iload_n (pc := 85) dX10_sizes_85 rfl 2 rfl ?_
        refine zV_imul (pc := 86) dX10_sizes_86 ?_
        refine zV_iload_n (pc := 87) dX10_sizes_87 rfl 3 rfl ?_
        refine zV_iadd (pc := 88) dX10_sizes_88 ?_
        refine zV_iload (pc := 89) dX10_sizes_89 6 rfl ?_
        refine zV_iadd (pc := 91) dX10_sizes_91 ?_
        obtain ⟨o7, o8, h⟩ := h
        refine zV_lald (pc := 92) dX10_sizes_92 rfl o7 o8 (inR_ix o7 o8 rfl) ?_
        refine zV_lstore (pc := 93) (loc' := [(8, .long (m0.2.1 124 (((40 * x2) + x3) + x7))), (0, rr K 98), (1, .int (iz x1)), (2, .int (iz x2)), (3, .int (iz x3)), (4, .int (iz x4)), (6, .int (iz x6)), (7, .int (iz x7))]) dX10_sizes_93 (by decide) rfl ?_
        refine zV_lload (pc := 95) dX10_sizes_95 0 rfl ?_
        refine zV_lconst (pc := 97) (v := 1) dX10_sizes_97 rfl ?_
        refine zV_lcmp (pc := 98) dX10_sizes_98 ?_
        refine zV_if_lt (pc := 99) (tgt := 142) dX10_sizes_99 (by decide) (inR_of _) (fun c9 => ?_) (fun c9 => ?_)
        · skip
          replace h := h.1 c9
          refine zV_iinc (pc := 142) (loc' := [(7, .int (iz (x7 + 1))), (8, .long (m0.2.1 124 (((40 * x2) + x3) + x7))), (0, rr K 98), (1, .int (iz x1)), (2, .int (iz x2)), (3, .int (iz x3)), (4, .int (iz x4)), (6, .int (iz x6))]) dX10_sizes_142 7 rfl (by decide) rfl ?_
          refine zV_goto (pc := 145) (tgt := 50) dX10_sizes_145 (by decide) ?_
          exact zV_sub [2, 3, 4, 5, 6, 7, 0] rfl h
        · skip
          replace h := h.2 c9
          refine zV_lload (pc := 102) dX10_sizes_102 0 rfl ?_
          refine zV_ldc2 (pc := 104) (v := 9) dX10_sizes_104 (zmem 1683 (by decide +kernel) (by decide +kernel)) ?_
          refine zV_lcmp (pc := 107) dX10_sizes_107 ?_
          refine zV_if_gt (pc := 108) (tgt := 142) dX10_sizes_108 (by decide) (inR_of _) (fun c10 => ?_) (fun c10 => ?_)
          · skip
            replace h := h.1 c10
            refine zV_iinc (pc := 142) (loc' := [(7, .int (iz (x7 + 1))), (8, .long (m0.2.1 124 (((40 * x2) + x3) + x7))), (0, rr K 98), (1, .int (iz x1)), (2, .int (iz x2)), (3, .int (iz x3)), (4, .int (iz x4)), (6, .int (iz x6))]) dX10_sizes_142 7 rfl (by decide) rfl ?_
            refine zV_goto (pc := 145) (tgt := 50) dX10_sizes_145 (by decide) ?_
            exact zV_sub [2, 3, 4, 5, 6, 7, 0] rfl h
          · skip
            replace h := h.2 c10
            refine zV_aloadr_n (pc := 111) dX10_sizes_111 rfl 1 rfl ?_
            refine zV_iload_n (pc := 112) dX10_sizes_112 rfl 2 rfl ?_
            refine zV_iload (pc := 113) dX10_sizes_113 7 rfl ?_
            refine zV_iadd (pc := 115) dX10_sizes_115 ?_
            obtain ⟨o11, h⟩ := h
            obtain ⟨o12, h⟩ := h
            refine zV_callVf (pc := 116) (mc := mX10_isPart) (As := [.int (iz (x1 + x7))]) (rest := []) dX10_sizes_116 zcX10_134 ziX10_isPart zsX10_isPart rfl rfl rfl rfl (Nat.le_of_ble_eq_true rfl) (c_X10_isPart o11 hm0 o12) (fun hr13 => ?_)
            refine zV_if_eq (pc := 119) (tgt := 142) dX10_sizes_119 (by decide) (inR_b2i _) (fun c15 => ?_) (fun c15 => ?_)
            · replace c15 := b2i_fp c15
              replace h := h.2 c15
              refine zV_iinc (pc := 142) (loc' := [(7, .int (iz (x7 + 1))), (8, .long (m0.2.1 124 (((40 * x2) + x3) + x7))), (0, rr K 98), (1, .int (iz x1)), (2, .int (iz x2)), (3, .int (iz x3)), (4, .int (iz x4)), (6, .int (iz x6))]) dX10_sizes_142 7 rfl (by decide) rfl ?_
              refine zV_goto (pc := 145) (tgt := 50) dX10_sizes_145 (by decide) ?_
              exact zV_sub [2, 3, 4, 5, 6, 7, 0] rfl h
            · replace c15 := b2i_tp c15
              replace h := h.1 c15
              refine zV_aloadr_n (pc := 122) dX10_sizes_122 rfl 1 rfl ?_
              refine zV_getR (pc := 123) (b := 100) dX10_sizes_123 zfX10_17 rfl rfl rfl ?_
              refine zV_bipush (pc := 126) dX10_sizes_126 (by decide) ?_
              refine zV_iload_n (pc := 128) dX10_sizes_128 rfl 2 rfl ?_
              refine zV_iload (pc := 129) dX10_sizes_129 7 rfl ?_
              refine zV_iadd (pc := 131) dX10_sizes_131 ?_
              refine zV_imul (pc := 132) dX10_sizes_132 ?_
              refine zV_iconst (pc := 133) dX10_sizes_133 ?_
              refine zV_iadd (pc := 134) dX10_sizes_134 ?_
              refine zV_lload (pc := 135) dX10_sizes_135 0 rfl ?_
              refine zV_l2i (pc := 137) dX10_sizes_137 ?_
              obtain ⟨o16, o17, h⟩ := h
              refine zV_iast (pc := 138) dX10_sizes_138 rfl o16 o17 (inR_ix o16 o17 rfl) (inR_of _) ?_
              refine zV_mem (fun m18 e19 => zV_ok (fun hm18 => ?_))
              replace h := h m18 e19 hm18
              refine zV_iinc (pc := 139) (loc' := [(6, .int (iz (x6 + 1))), (8, .long (m0.2.1 124 (((40 * x2) + x3) + x7))), (0, rr K 98), (1, .int (iz x1)), (2, .int (iz x2)), (3, .int (iz x3)), (4, .int (iz x4)), (7, .int (iz x7))]) dX10_sizes_139 6 rfl (by decide) rfl ?_
              refine zV_iinc (pc := 142) (loc' := [(7, .int (iz (x7 + 1))), (6, .int (iz (x6 + 1))), (8, .long (m0.2.1 124 (((40 * x2) + x3) + x7))), (0, rr K 98), (1, .int (iz x1)), (2, .int (iz x2)), (3, .int (iz x3)), (4, .int (iz x4))]) dX10_sizes_142 7 rfl (by decide) rfl ?_
              refine zV_goto (pc := 145) (tgt := 50) dX10_sizes_145 (by decide) ?_
              exact zV_sub [3, 4, 5, 6, 7, 1, 0] rfl h
      · skip
        replace h := h.2 c6
        refine zV_bipush (pc := 76) dX10_sizes_76 (by decide) ?_
        exact zV_iret (pc := 78) rfl dX10_sizes_78 (inRd rfl) h

set_option maxRecDepth 100000 in
set_option maxHeartbeats 4000000 in
theorem vc_X10_shelf_0 {K : zCx} {d : Nat} (x1 : Int) (x2 : Int) (x3 : Int) (m0 : zM) {Q : Int → zM → Prop} (hx1 : inR x1) (hx2 : inR x2) (hx3 : inR x3) (h : zok m0 → ((0 ≤ x1 ∧ x1 ≤ 3) → ((0 ≤ x2 ∧ x2 ≤ 2) → (x2 = 0 → (0 ≤ m0.1 98 4) ∧ (((0 ≤ x3 ∧ x3 < m0.1 98 4) → (x2 = 1 → ((0 ≤ x3 ∧ x3 ≤ 3) → zV K mX10_shelf (d + 3) 42 [(0, rr K 98), (1, .int (iz x1)), (2, .int (iz x2)), (3, .int (iz x3))] [] m0 Q) ∧ (¬ ((0 ≤ x3 ∧ x3 ≤ 3)) → Q (-1) m0)) ∧ (¬ (x2 = 1) → zV K mX10_shelf (d + 3) 42 [(0, rr K 98), (1, .int (iz x1)), (2, .int (iz x2)), (3, .int (iz x3))] [] m0 Q)) ∧ (¬ ((0 ≤ x3 ∧ x3 < m0.1 98 4)) → Q (-1) m0))) ∧ (¬ (x2 = 0) → (x2 = 1 → ((0 ≤ x3 ∧ x3 ≤ 3) → zV K mX10_shelf (d + 3) 42 [(0, rr K 98), (1, .int (iz x1)), (2, .int (iz x2)), (3, .int (iz x3))] [] m0 Q) ∧ (¬ ((0 ≤ x3 ∧ x3 ≤ 3)) → Q (-1) m0)) ∧ (¬ (x2 = 1) → zV K mX10_shelf (d + 3) 42 [(0, rr K 98), (1, .int (iz x1)), (2, .int (iz x2)), (3, .int (iz x3))] [] m0 Q))) ∧ (¬ ((0 ≤ x2 ∧ x2 ≤ 2)) → Q (-1) m0)) ∧ (¬ ((0 ≤ x1 ∧ x1 ≤ 3)) → Q (-1) m0)) : zV K mX10_shelf (d + 3) 0 [(0, rr K 98), (1, .int (iz x1)), (2, .int (iz x2)), (3, .int (iz x3))] [] m0 Q := by
  refine zV_ok (fun hm0 => ?_)
  replace h := h hm0
  refine zV_iload_n (pc := 0) dX10_shelf_0 rfl 1 rfl ?_
  refine zV_callSf (pc := 1) (mc := mX10_isShelf) (As := [.int (iz x1)]) (rest := []) dX10_shelf_1 zcX10_118 ztX10_isShelf rfl rfl (Nat.le_of_ble_eq_true rfl) (c_X10_isShelf hx1) (fun hr1 => ?_)
  refine zV_if_eq (pc := 4) (tgt := 40) dX10_shelf_4 (by decide) (inR_b2i _) (fun c3 => ?_) (fun c3 => ?_)
  · replace c3 := b2i_fp c3
    replace h := h.2 c3
    refine zV_iconst (pc := 40) dX10_shelf_40 ?_
    exact zV_iret (pc := 41) rfl dX10_shelf_41 (inRd rfl) h
  · replace c3 := b2i_tp c3
    replace h := h.1 c3
    refine zV_iload_n (pc := 7) dX10_shelf_7 rfl 2 rfl ?_
    refine zV_iconst (pc := 8) dX10_shelf_8 ?_
    refine zV_iconst (pc := 9) dX10_shelf_9 ?_
    refine zV_callSf (pc := 10) (mc := mX10_in) (As := [.int (iz x2), .int (iz 0), .int (iz 2)]) (rest := []) dX10_shelf_10 zcX10_114 ztX10_in rfl rfl (Nat.le_of_ble_eq_true rfl) (c_X10_in hx2 (inRd rfl) (inRd rfl)) (fun hr4 => ?_)
    refine zV_if_eq (pc := 13) (tgt := 40) dX10_shelf_13 (by decide) (inR_b2i _) (fun c6 => ?_) (fun c6 => ?_)
    · replace c6 := b2i_fp c6
      replace h := h.2 c6
      refine zV_iconst (pc := 40) dX10_shelf_40 ?_
      exact zV_iret (pc := 41) rfl dX10_shelf_41 (inRd rfl) h
    · replace c6 := b2i_tp c6
      replace h := h.1 c6
      refine zV_iload_n (pc := 16) dX10_shelf_16 rfl 2 rfl ?_
      refine zV_if_ne (pc := 17) (tgt := 28) dX10_shelf_17 (by decide) hx2 (fun c7 => ?_) (fun c7 => ?_)
      · skip
        replace h := h.2 c7
        refine zV_iload_n (pc := 28) dX10_shelf_28 rfl 2 rfl ?_
        refine zV_iconst (pc := 29) dX10_shelf_29 ?_
        refine zV_icmp_ne (pc := 30) (tgt := 42) dX10_shelf_30 (by decide) hx2 (inRd rfl) (fun c8 => ?_) (fun c8 => ?_)
        · skip
          replace h := h.2 c8
          exact zV_sub [0, 1, 2, 3] rfl h
        · replace c8 := Classical.not_not.mp c8
          replace h := h.1 c8
          refine zV_iload_n (pc := 33) dX10_shelf_33 rfl 3 rfl ?_
          refine zV_callSf (pc := 34) (mc := mX10_isShelf) (As := [.int (iz x3)]) (rest := []) dX10_shelf_34 zcX10_118 ztX10_isShelf rfl rfl (Nat.le_of_ble_eq_true rfl) (c_X10_isShelf hx3) (fun hr9 => ?_)
          refine zV_if_ne (pc := 37) (tgt := 42) dX10_shelf_37 (by decide) (inR_b2i _) (fun c11 => ?_) (fun c11 => ?_)
          · replace c11 := b2i_tp c11
            replace h := h.1 c11
            exact zV_sub [0, 1, 2, 3] rfl h
          · replace c11 := b2i_fn c11
            replace h := h.2 c11
            refine zV_iconst (pc := 40) dX10_shelf_40 ?_
            exact zV_iret (pc := 41) rfl dX10_shelf_41 (inRd rfl) h
      · replace c7 := Classical.not_not.mp c7
        replace h := h.1 c7
        refine zV_aloadr_n (pc := 20) dX10_shelf_20 rfl 0 rfl ?_
        refine zV_iload_n (pc := 21) dX10_shelf_21 rfl 3 rfl ?_
        obtain ⟨o12, h⟩ := h
        refine zV_callVf (pc := 22) (mc := mX10_isPart) (As := [.int (iz x3)]) (rest := []) dX10_shelf_22 zcX10_134 ziX10_isPart zsX10_isPart rfl rfl rfl rfl (Nat.le_of_ble_eq_true rfl) (c_X10_isPart hx3 hm0 o12) (fun hr13 => ?_)
        refine zV_if_eq (pc := 25) (tgt := 40) dX10_shelf_25 (by decide) (inR_b2i _) (fun c15 => ?_) (fun c15 => ?_)
        · replace c15 := b2i_fp c15
          replace h := h.2 c15
          refine zV_iconst (pc := 40) dX10_shelf_40 ?_
          exact zV_iret (pc := 41) rfl dX10_shelf_41 (inRd rfl) h
        · replace c15 := b2i_tp c15
          replace h := h.1 c15
          refine zV_iload_n (pc := 28) dX10_shelf_28 rfl 2 rfl ?_
          refine zV_iconst (pc := 29) dX10_shelf_29 ?_
          refine zV_icmp_ne (pc := 30) (tgt := 42) dX10_shelf_30 (by decide) hx2 (inRd rfl) (fun c16 => ?_) (fun c16 => ?_)
          · skip
            replace h := h.2 c16
            exact zV_sub [0, 1, 2, 3] rfl h
          · replace c16 := Classical.not_not.mp c16
            replace h := h.1 c16
            refine zV_iload_n (pc := 33) dX10_shelf_33 rfl 3 rfl ?_
            refine zV_callSf (pc := 34) (mc := mX10_isShelf) (As := [.int (iz x3)]) (rest := []) dX10_shelf_34 zcX10_118 ztX10_isShelf rfl rfl (Nat.le_of_ble_eq_true rfl) (c_X10_isShelf hx3) (fun hr17 => ?_)
            refine zV_if_ne (pc := 37) (tgt := 42) dX10_shelf_37 (by decide) (inR_b2i _) (fun c19 => ?_) (fun c19 => ?_)
            · replace c19 := b2i_tp c19
              replace h := h.1 c19
              exact zV_sub [0, 1, 2, 3] rfl h
            · replace c19 := b2i_fn c19
              replace h := h.2 c19
              refine zV_iconst (pc := 40) dX10_shelf_40 ?_
              exact zV_iret (pc := 41) rfl dX10_shelf_41 (inRd rfl) h
set_option maxRecDepth 100000 in
set_option maxHeartbeats 4000000 in
theorem vc_X10_shelf_42 {K : zCx} {d : Nat} (x1 : Int) (x2 : Int) (x3 : Int) (m0 : zM) {Q : Int → zM → Prop} (hx1 : inR x1) (hx2 : inR x2) (hx3 : inR x3) (h : zok m0 → (x2 = 2 → 0 ≤ x1 ∧ x1 < 4 ∧ (∀ m4 : zM, m4 = sI m0 125 x1 (-1) → zok m4 → ((x2 = 1 → 0 ≤ x3 ∧ x3 < 4 ∧ (∀ m18 : zM, m18 = sI m4 126 x1 (m4.1 122 x3) → zok m18 → (∀ v20 : Int, v20 = (if x2 = 1 then (m18.1 123 x3) else 0) → (∀ m22 : zM, m22 = sI m18 127 x1 v20 → zok m22 → (Q 1 m22))))) ∧ (¬ (x2 = 1) → ∀ m7 : zM, m7 = sI m4 126 x1 x3 → zok m7 → ((x2 = 1 → 0 ≤ x3 ∧ x3 < 4 ∧ (∀ m14 : zM, m14 = sI m7 127 x1 (m7.1 123 x3) → zok m14 → (Q 1 m14))) ∧ (¬ (x2 = 1) → ∀ m10 : zM, m10 = sI m7 127 x1 0 → zok m10 → (Q 1 m10))))))) ∧ (¬ (x2 = 2) → (x2 = 1 → 0 ≤ x3 ∧ x3 < 4 ∧ (∀ v51 : Int, v51 = (if 0 ≤ (m0.1 122 x3) then x2 else (-1)) → (0 ≤ x1 ∧ x1 < 4 ∧ (∀ m55 : zM, m55 = sI m0 125 x1 v51 → zok m55 → (∀ v57 : Int, v57 = (if x2 = 1 then (m55.1 122 x3) else x3) → (∀ m59 : zM, m59 = sI m55 126 x1 v57 → zok m59 → (∀ v61 : Int, v61 = (if x2 = 1 then (m59.1 123 x3) else 0) → (∀ m63 : zM, m63 = sI m59 127 x1 v61 → zok m63 → (Q 1 m63))))))))) ∧ (¬ (x2 = 1) → 0 ≤ x1 ∧ x1 < 4 ∧ (∀ m28 : zM, m28 = sI m0 125 x1 x2 → zok m28 → ((x2 = 1 → 0 ≤ x3 ∧ x3 < 4 ∧ (∀ m42 : zM, m42 = sI m28 126 x1 (m28.1 122 x3) → zok m42 → (∀ v44 : Int, v44 = (if x2 = 1 then (m42.1 123 x3) else 0) → (∀ m46 : zM, m46 = sI m42 127 x1 v44 → zok m46 → (Q 1 m46))))) ∧ (¬ (x2 = 1) → ∀ m31 : zM, m31 = sI m28 126 x1 x3 → zok m31 → ((x2 = 1 → 0 ≤ x3 ∧ x3 < 4 ∧ (∀ m38 : zM, m38 = sI m31 127 x1 (m31.1 123 x3) → zok m38 → (Q 1 m38))) ∧ (¬ (x2 = 1) → ∀ m34 : zM, m34 = sI m31 127 x1 0 → zok m34 → (Q 1 m34))))))))) : zV K mX10_shelf (d + 3) 42 [(0, rr K 98), (1, .int (iz x1)), (2, .int (iz x2)), (3, .int (iz x3))] [] m0 Q := by
  refine zV_ok (fun hm0 => ?_)
  replace h := h hm0
  refine zV_aloadr_n (pc := 42) dX10_shelf_42 rfl 0 rfl ?_
  refine zV_getR (pc := 43) (b := 125) dX10_shelf_43 zfX10_93 rfl rfl rfl ?_
  refine zV_iload_n (pc := 46) dX10_shelf_46 rfl 1 rfl ?_
  refine zV_iload_n (pc := 47) dX10_shelf_47 rfl 2 rfl ?_
  refine zV_iconst (pc := 48) dX10_shelf_48 ?_
  refine zV_icmp_eq (pc := 49) (tgt := 66) dX10_shelf_49 (by decide) hx2 (inRd rfl) (fun c1 => ?_) (fun c1 => ?_)
  · skip
    replace h := h.1 c1
    refine zV_iconst (pc := 66) dX10_shelf_66 ?_
    refine zV_goto (pc := 67) (tgt := 71) dX10_shelf_67 (by decide) ?_
    obtain ⟨o2, o3, h⟩ := h
    refine zV_iast (pc := 71) dX10_shelf_71 rfl o2 o3 (inR_ix o2 o3 rfl) (inRd rfl) ?_
    refine zV_mem (fun m4 e5 => zV_ok (fun hm4 => ?_))
    replace h := h m4 e5 hm4
    refine zV_aloadr_n (pc := 72) dX10_shelf_72 rfl 0 rfl ?_
    refine zV_getR (pc := 73) (b := 126) dX10_shelf_73 zfX10_96 rfl rfl rfl ?_
    refine zV_iload_n (pc := 76) dX10_shelf_76 rfl 1 rfl ?_
    refine zV_iload_n (pc := 77) dX10_shelf_77 rfl 2 rfl ?_
    refine zV_iconst (pc := 78) dX10_shelf_78 ?_
    refine zV_icmp_ne (pc := 79) (tgt := 91) dX10_shelf_79 (by decide) hx2 (inRd rfl) (fun c6 => ?_) (fun c6 => ?_)
    · skip
      replace h := h.2 c6
      refine zV_iload_n (pc := 91) dX10_shelf_91 rfl 3 rfl ?_
      refine zV_iast (pc := 92) dX10_shelf_92 rfl o2 o3 (inR_ix o2 o3 rfl) hx3 ?_
      refine zV_mem (fun m7 e8 => zV_ok (fun hm7 => ?_))
      replace h := h m7 e8 hm7
      refine zV_aloadr_n (pc := 93) dX10_shelf_93 rfl 0 rfl ?_
      refine zV_getR (pc := 94) (b := 127) dX10_shelf_94 zfX10_99 rfl rfl rfl ?_
      refine zV_iload_n (pc := 97) dX10_shelf_97 rfl 1 rfl ?_
      refine zV_iload_n (pc := 98) dX10_shelf_98 rfl 2 rfl ?_
      refine zV_iconst (pc := 99) dX10_shelf_99 ?_
      refine zV_icmp_ne (pc := 100) (tgt := 112) dX10_shelf_100 (by decide) hx2 (inRd rfl) (fun c9 => ?_) (fun c9 => ?_)
      · skip
        replace h := h.2 c9
        refine zV_iconst (pc := 112) dX10_shelf_112 ?_
        refine zV_iast (pc := 113) dX10_shelf_113 rfl o2 o3 (inR_ix o2 o3 rfl) (inRd rfl) ?_
        refine zV_mem (fun m10 e11 => zV_ok (fun hm10 => ?_))
        replace h := h m10 e11 hm10
        refine zV_iconst (pc := 114) dX10_shelf_114 ?_
        exact zV_iret (pc := 115) rfl dX10_shelf_115 (inRd rfl) h
      · replace c9 := Classical.not_not.mp c9
        replace h := h.1 c9
        refine zV_aloadr_n (pc := 103) dX10_shelf_103 rfl 0 rfl ?_
        refine zV_getR (pc := 104) (b := 123) dX10_shelf_104 zfX10_86 rfl rfl rfl ?_
        refine zV_iload_n (pc := 107) dX10_shelf_107 rfl 3 rfl ?_
        obtain ⟨o12, o13, h⟩ := h
        refine zV_iald (pc := 108) dX10_shelf_108 rfl o12 o13 (inR_ix o12 o13 rfl) ?_
        refine zV_goto (pc := 109) (tgt := 113) dX10_shelf_109 (by decide) ?_
        refine zV_iast (pc := 113) dX10_shelf_113 rfl o2 o3 (inR_ix o2 o3 rfl) (hm7 _ _) ?_
        refine zV_mem (fun m14 e15 => zV_ok (fun hm14 => ?_))
        replace h := h m14 e15 hm14
        refine zV_iconst (pc := 114) dX10_shelf_114 ?_
        exact zV_iret (pc := 115) rfl dX10_shelf_115 (inRd rfl) h
    · replace c6 := Classical.not_not.mp c6
      replace h := h.1 c6
      refine zV_aloadr_n (pc := 82) dX10_shelf_82 rfl 0 rfl ?_
      refine zV_getR (pc := 83) (b := 122) dX10_shelf_83 zfX10_83 rfl rfl rfl ?_
      refine zV_iload_n (pc := 86) dX10_shelf_86 rfl 3 rfl ?_
      obtain ⟨o16, o17, h⟩ := h
      refine zV_iald (pc := 87) dX10_shelf_87 rfl o16 o17 (inR_ix o16 o17 rfl) ?_
      refine zV_goto (pc := 88) (tgt := 92) dX10_shelf_88 (by decide) ?_
      refine zV_iast (pc := 92) dX10_shelf_92 rfl o2 o3 (inR_ix o2 o3 rfl) (hm4 _ _) ?_
      refine zV_mem (fun m18 e19 => zV_ok (fun hm18 => ?_))
      replace h := h m18 e19 hm18
      refine zV_aloadr_n (pc := 93) dX10_shelf_93 rfl 0 rfl ?_
      refine zV_getR (pc := 94) (b := 127) dX10_shelf_94 zfX10_99 rfl rfl rfl ?_
      refine zV_iload_n (pc := 97) dX10_shelf_97 rfl 1 rfl ?_
      refine zV_iload_n (pc := 98) dX10_shelf_98 rfl 2 rfl ?_
      refine zV_iconst (pc := 99) dX10_shelf_99 ?_
      have key : ∀ v20 : Int, v20 = (if x2 = 1 then (m18.1 123 x3) else 0) → zV K mX10_shelf (d + 3) 113 [] [.int (iz v20), .int (iz x1), rr K 127] m18 Q := by
        intro v20 e21
        replace h := h v20 e21
        have hrv20 : inR v20 := by rw [e21]; (repeat' split) <;> first | with_reducible exact (inRd rfl) | with_reducible exact (hm18 _ _)
        refine zV_iast (pc := 113) dX10_shelf_113 rfl o2 o3 (inR_ix o2 o3 rfl) hrv20 ?_
        refine zV_mem (fun m22 e23 => zV_ok (fun hm22 => ?_))
        replace h := h m22 e23 hm22
        refine zV_iconst (pc := 114) dX10_shelf_114 ?_
        exact zV_iret (pc := 115) rfl dX10_shelf_115 (inRd rfl) h
      refine zV_icmp_ne (pc := 100) (tgt := 112) dX10_shelf_100 (by decide) hx2 (inRd rfl) (fun c24 => ?_) (fun c24 => ?_)
      · skip
        refine zV_iconst (pc := 112) dX10_shelf_112 ?_
        exact zV_sub [] rfl (key _ (if_neg c24).symm)
      · replace c24 := Classical.not_not.mp c24
        refine zV_aloadr_n (pc := 103) dX10_shelf_103 rfl 0 rfl ?_
        refine zV_getR (pc := 104) (b := 123) dX10_shelf_104 zfX10_86 rfl rfl rfl ?_
        refine zV_iload_n (pc := 107) dX10_shelf_107 rfl 3 rfl ?_
        refine zV_iald (pc := 108) dX10_shelf_108 rfl o16 o17 (inR_ix o16 o17 rfl) ?_
        refine zV_goto (pc := 109) (tgt := 113) dX10_shelf_109 (by decide) ?_
        exact zV_sub [] rfl (key _ (if_pos c24).symm)
  · skip
    replace h := h.2 c1
    refine zV_iload_n (pc := 52) dX10_shelf_52 rfl 2 rfl ?_
    refine zV_iconst (pc := 53) dX10_shelf_53 ?_
    refine zV_icmp_ne (pc := 54) (tgt := 70) dX10_shelf_54 (by decide) hx2 (inRd rfl) (fun c25 => ?_) (fun c25 => ?_)
    · skip
      replace h := h.2 c25
      refine zV_iload_n (pc := 70) dX10_shelf_70 rfl 2 rfl ?_
      obtain ⟨o26, o27, h⟩ := h
      refine zV_iast (pc := 71) dX10_shelf_71 rfl o26 o27 (inR_ix o26 o27 rfl) hx2 ?_
      refine zV_mem (fun m28 e29 => zV_ok (fun hm28 => ?_))
      replace h := h m28 e29 hm28
      refine zV_aloadr_n (pc := 72) dX10_shelf_72 rfl 0 rfl ?_
      refine zV_getR (pc := 73) (b := 126) dX10_shelf_73 zfX10_96 rfl rfl rfl ?_
      refine zV_iload_n (pc := 76) dX10_shelf_76 rfl 1 rfl ?_
      refine zV_iload_n (pc := 77) dX10_shelf_77 rfl 2 rfl ?_
      refine zV_iconst (pc := 78) dX10_shelf_78 ?_
      refine zV_icmp_ne (pc := 79) (tgt := 91) dX10_shelf_79 (by decide) hx2 (inRd rfl) (fun c30 => ?_) (fun c30 => ?_)
      · skip
        replace h := h.2 c30
        refine zV_iload_n (pc := 91) dX10_shelf_91 rfl 3 rfl ?_
        refine zV_iast (pc := 92) dX10_shelf_92 rfl o26 o27 (inR_ix o26 o27 rfl) hx3 ?_
        refine zV_mem (fun m31 e32 => zV_ok (fun hm31 => ?_))
        replace h := h m31 e32 hm31
        refine zV_aloadr_n (pc := 93) dX10_shelf_93 rfl 0 rfl ?_
        refine zV_getR (pc := 94) (b := 127) dX10_shelf_94 zfX10_99 rfl rfl rfl ?_
        refine zV_iload_n (pc := 97) dX10_shelf_97 rfl 1 rfl ?_
        refine zV_iload_n (pc := 98) dX10_shelf_98 rfl 2 rfl ?_
        refine zV_iconst (pc := 99) dX10_shelf_99 ?_
        refine zV_icmp_ne (pc := 100) (tgt := 112) dX10_shelf_100 (by decide) hx2 (inRd rfl) (fun c33 => ?_) (fun c33 => ?_)
        · skip
          replace h := h.2 c33
          refine zV_iconst (pc := 112) dX10_shelf_112 ?_
          refine zV_iast (pc := 113) dX10_shelf_113 rfl o26 o27 (inR_ix o26 o27 rfl) (inRd rfl) ?_
          refine zV_mem (fun m34 e35 => zV_ok (fun hm34 => ?_))
          replace h := h m34 e35 hm34
          refine zV_iconst (pc := 114) dX10_shelf_114 ?_
          exact zV_iret (pc := 115) rfl dX10_shelf_115 (inRd rfl) h
        · replace c33 := Classical.not_not.mp c33
          replace h := h.1 c33
          refine zV_aloadr_n (pc := 103) dX10_shelf_103 rfl 0 rfl ?_
          refine zV_getR (pc := 104) (b := 123) dX10_shelf_104 zfX10_86 rfl rfl rfl ?_
          refine zV_iload_n (pc := 107) dX10_shelf_107 rfl 3 rfl ?_
          obtain ⟨o36, o37, h⟩ := h
          refine zV_iald (pc := 108) dX10_shelf_108 rfl o36 o37 (inR_ix o36 o37 rfl) ?_
          refine zV_goto (pc := 109) (tgt := 113) dX10_shelf_109 (by decide) ?_
          refine zV_iast (pc := 113) dX10_shelf_113 rfl o26 o27 (inR_ix o26 o27 rfl) (hm31 _ _) ?_
          refine zV_mem (fun m38 e39 => zV_ok (fun hm38 => ?_))
          replace h := h m38 e39 hm38
          refine zV_iconst (pc := 114) dX10_shelf_114 ?_
          exact zV_iret (pc := 115) rfl dX10_shelf_115 (inRd rfl) h
      · replace c30 := Classical.not_not.mp c30
        replace h := h.1 c30
        refine zV_aloadr_n (pc := 82) dX10_shelf_82 rfl 0 rfl ?_
        refine zV_getR (pc := 83) (b := 122) dX10_shelf_83 zfX10_83 rfl rfl rfl ?_
        refine zV_iload_n (pc := 86) dX10_shelf_86 rfl 3 rfl ?_
        obtain ⟨o40, o41, h⟩ := h
        refine zV_iald (pc := 87) dX10_shelf_87 rfl o40 o41 (inR_ix o40 o41 rfl) ?_
        refine zV_goto (pc := 88) (tgt := 92) dX10_shelf_88 (by decide) ?_
        refine zV_iast (pc := 92) dX10_shelf_92 rfl o26 o27 (inR_ix o26 o27 rfl) (hm28 _ _) ?_
        refine zV_mem (fun m42 e43 => zV_ok (fun hm42 => ?_))
        replace h := h m42 e43 hm42
        refine zV_aloadr_n (pc := 93) dX10_shelf_93 rfl 0 rfl ?_
        refine zV_getR (pc := 94) (b := 127) dX10_shelf_94 zfX10_99 rfl rfl rfl ?_
        refine zV_iload_n (pc := 97) dX10_shelf_97 rfl 1 rfl ?_
        refine zV_iload_n (pc := 98) dX10_shelf_98 rfl 2 rfl ?_
        refine zV_iconst (pc := 99) dX10_shelf_99 ?_
        have key : ∀ v44 : Int, v44 = (if x2 = 1 then (m42.1 123 x3) else 0) → zV K mX10_shelf (d + 3) 113 [] [.int (iz v44), .int (iz x1), rr K 127] m42 Q := by
          intro v44 e45
          replace h := h v44 e45
          have hrv44 : inR v44 := by rw [e45]; (repeat' split) <;> first | with_reducible exact (inRd rfl) | with_reducible exact (hm42 _ _)
          refine zV_iast (pc := 113) dX10_shelf_113 rfl o26 o27 (inR_ix o26 o27 rfl) hrv44 ?_
          refine zV_mem (fun m46 e47 => zV_ok (fun hm46 => ?_))
          replace h := h m46 e47 hm46
          refine zV_iconst (pc := 114) dX10_shelf_114 ?_
          exact zV_iret (pc := 115) rfl dX10_shelf_115 (inRd rfl) h
        refine zV_icmp_ne (pc := 100) (tgt := 112) dX10_shelf_100 (by decide) hx2 (inRd rfl) (fun c48 => ?_) (fun c48 => ?_)
        · skip
          refine zV_iconst (pc := 112) dX10_shelf_112 ?_
          exact zV_sub [] rfl (key _ (if_neg c48).symm)
        · replace c48 := Classical.not_not.mp c48
          refine zV_aloadr_n (pc := 103) dX10_shelf_103 rfl 0 rfl ?_
          refine zV_getR (pc := 104) (b := 123) dX10_shelf_104 zfX10_86 rfl rfl rfl ?_
          refine zV_iload_n (pc := 107) dX10_shelf_107 rfl 3 rfl ?_
          refine zV_iald (pc := 108) dX10_shelf_108 rfl o40 o41 (inR_ix o40 o41 rfl) ?_
          refine zV_goto (pc := 109) (tgt := 113) dX10_shelf_109 (by decide) ?_
          exact zV_sub [] rfl (key _ (if_pos c48).symm)
    · replace c25 := Classical.not_not.mp c25
      replace h := h.1 c25
      refine zV_aloadr_n (pc := 57) dX10_shelf_57 rfl 0 rfl ?_
      refine zV_getR (pc := 58) (b := 122) dX10_shelf_58 zfX10_83 rfl rfl rfl ?_
      refine zV_iload_n (pc := 61) dX10_shelf_61 rfl 3 rfl ?_
      obtain ⟨o49, o50, h⟩ := h
      refine zV_iald (pc := 62) dX10_shelf_62 rfl o49 o50 (inR_ix o49 o50 rfl) ?_
      have key : ∀ v51 : Int, v51 = (if 0 ≤ (m0.1 122 x3) then x2 else (-1)) → zV K mX10_shelf (d + 3) 71 [(0, rr K 98), (1, .int (iz x1)), (2, .int (iz x2)), (3, .int (iz x3))] [.int (iz v51), .int (iz x1), rr K 125] m0 Q := by
        intro v51 e52
        replace h := h v51 e52
        have hrv51 : inR v51 := by rw [e52]; (repeat' split) <;> first | with_reducible exact hx2 | with_reducible exact (inRd rfl)
        obtain ⟨o53, o54, h⟩ := h
        refine zV_iast (pc := 71) dX10_shelf_71 rfl o53 o54 (inR_ix o53 o54 rfl) hrv51 ?_
        refine zV_mem (fun m55 e56 => zV_ok (fun hm55 => ?_))
        replace h := h m55 e56 hm55
        refine zV_aloadr_n (pc := 72) dX10_shelf_72 rfl 0 rfl ?_
        refine zV_getR (pc := 73) (b := 126) dX10_shelf_73 zfX10_96 rfl rfl rfl ?_
        refine zV_iload_n (pc := 76) dX10_shelf_76 rfl 1 rfl ?_
        refine zV_iload_n (pc := 77) dX10_shelf_77 rfl 2 rfl ?_
        refine zV_iconst (pc := 78) dX10_shelf_78 ?_
        have key : ∀ v57 : Int, v57 = (if x2 = 1 then (m55.1 122 x3) else x3) → zV K mX10_shelf (d + 3) 92 [(0, rr K 98), (1, .int (iz x1)), (2, .int (iz x2)), (3, .int (iz x3))] [.int (iz v57), .int (iz x1), rr K 126] m55 Q := by
          intro v57 e58
          replace h := h v57 e58
          have hrv57 : inR v57 := by rw [e58]; (repeat' split) <;> first | with_reducible exact hx3 | with_reducible exact (hm55 _ _)
          refine zV_iast (pc := 92) dX10_shelf_92 rfl o53 o54 (inR_ix o53 o54 rfl) hrv57 ?_
          refine zV_mem (fun m59 e60 => zV_ok (fun hm59 => ?_))
          replace h := h m59 e60 hm59
          refine zV_aloadr_n (pc := 93) dX10_shelf_93 rfl 0 rfl ?_
          refine zV_getR (pc := 94) (b := 127) dX10_shelf_94 zfX10_99 rfl rfl rfl ?_
          refine zV_iload_n (pc := 97) dX10_shelf_97 rfl 1 rfl ?_
          refine zV_iload_n (pc := 98) dX10_shelf_98 rfl 2 rfl ?_
          refine zV_iconst (pc := 99) dX10_shelf_99 ?_
          have key : ∀ v61 : Int, v61 = (if x2 = 1 then (m59.1 123 x3) else 0) → zV K mX10_shelf (d + 3) 113 [] [.int (iz v61), .int (iz x1), rr K 127] m59 Q := by
            intro v61 e62
            replace h := h v61 e62
            have hrv61 : inR v61 := by rw [e62]; (repeat' split) <;> first | with_reducible exact (inRd rfl) | with_reducible exact (hm59 _ _)
            refine zV_iast (pc := 113) dX10_shelf_113 rfl o53 o54 (inR_ix o53 o54 rfl) hrv61 ?_
            refine zV_mem (fun m63 e64 => zV_ok (fun hm63 => ?_))
            replace h := h m63 e64 hm63
            refine zV_iconst (pc := 114) dX10_shelf_114 ?_
            exact zV_iret (pc := 115) rfl dX10_shelf_115 (inRd rfl) h
          refine zV_icmp_ne (pc := 100) (tgt := 112) dX10_shelf_100 (by decide) hx2 (inRd rfl) (fun c65 => ?_) (fun c65 => ?_)
          · skip
            refine zV_iconst (pc := 112) dX10_shelf_112 ?_
            exact zV_sub [] rfl (key _ (if_neg c65).symm)
          · replace c65 := Classical.not_not.mp c65
            refine zV_aloadr_n (pc := 103) dX10_shelf_103 rfl 0 rfl ?_
            refine zV_getR (pc := 104) (b := 123) dX10_shelf_104 zfX10_86 rfl rfl rfl ?_
            refine zV_iload_n (pc := 107) dX10_shelf_107 rfl 3 rfl ?_
            refine zV_iald (pc := 108) dX10_shelf_108 rfl o49 o50 (inR_ix o49 o50 rfl) ?_
            refine zV_goto (pc := 109) (tgt := 113) dX10_shelf_109 (by decide) ?_
            exact zV_sub [] rfl (key _ (if_pos c65).symm)
        refine zV_icmp_ne (pc := 79) (tgt := 91) dX10_shelf_79 (by decide) hx2 (inRd rfl) (fun c66 => ?_) (fun c66 => ?_)
        · skip
          refine zV_iload_n (pc := 91) dX10_shelf_91 rfl 3 rfl ?_
          exact zV_sub [0, 1, 2, 3] rfl (key _ (if_neg c66).symm)
        · replace c66 := Classical.not_not.mp c66
          refine zV_aloadr_n (pc := 82) dX10_shelf_82 rfl 0 rfl ?_
          refine zV_getR (pc := 83) (b := 122) dX10_shelf_83 zfX10_83 rfl rfl rfl ?_
          refine zV_iload_n (pc := 86) dX10_shelf_86 rfl 3 rfl ?_
          refine zV_iald (pc := 87) dX10_shelf_87 rfl o49 o50 (inR_ix o49 o50 rfl) ?_
          refine zV_goto (pc := 88) (tgt := 92) dX10_shelf_88 (by decide) ?_
          exact zV_sub [0, 1, 2, 3] rfl (key _ (if_pos c66).symm)
      refine zV_if_ge (pc := 63) (tgt := 70) dX10_shelf_63 (by decide) (hm0 _ _) (fun c67 => ?_) (fun c67 => ?_)
      · skip
        refine zV_iload_n (pc := 70) dX10_shelf_70 rfl 2 rfl ?_
        exact zV_sub [0, 1, 2, 3] rfl (key _ (if_pos c67).symm)
      · skip
        refine zV_iconst (pc := 66) dX10_shelf_66 ?_
        refine zV_goto (pc := 67) (tgt := 71) dX10_shelf_67 (by decide) ?_
        exact zV_sub [0, 1, 2, 3] rfl (key _ (if_neg c67).symm)

set_option maxRecDepth 100000 in
set_option maxHeartbeats 4000000 in
theorem vc_X10_kindOn_0 {K : zCx} {d : Nat} (x1 : Int) (m0 : zM) {Q : Int → zM → Prop} (hx1 : inR x1) (h : zok m0 → 0 ≤ x1 ∧ x1 < 4 ∧ (((m0.1 125 x1) = 0 → ∀ v4 : Int, v4 = (m0.1 126 x1) → ((0 ≤ m0.1 98 4) ∧ (((0 ≤ v4 ∧ v4 < m0.1 98 4) → (0 ≤ 10 * v4 + 4) ∧ ((10 * v4 + 4 < 100) ∧ (((m0.1 100 (10 * v4 + 4)) ≤ 0 → (0 ≤ 10 * v4 + 0) ∧ ((10 * v4 + 0 < 100) ∧ (Q (m0.1 100 (10 * v4 + 0)) m0))) ∧ (¬ ((m0.1 100 (10 * v4 + 4)) ≤ 0) → Q 6 m0)))) ∧ (¬ ((0 ≤ v4 ∧ v4 < m0.1 98 4)) → Q (-1) m0)))) ∧ (¬ ((m0.1 125 x1) = 0) → (0 ≤ (m0.1 125 x1) → Q 9 m0) ∧ (¬ (0 ≤ (m0.1 125 x1)) → Q (-1) m0)))) : zV K mX10_kindOn (d + 3) 0 [(0, rr K 98), (1, .int (iz x1))] [] m0 Q := by
  refine zV_ok (fun hm0 => ?_)
  replace h := h hm0
  refine zV_aloadr_n (pc := 0) dX10_kindOn_0 rfl 0 rfl ?_
  refine zV_getR (pc := 1) (b := 125) dX10_kindOn_1 zfX10_93 rfl rfl rfl ?_
  refine zV_iload_n (pc := 4) dX10_kindOn_4 rfl 1 rfl ?_
  obtain ⟨o1, o2, h⟩ := h
  refine zV_iald (pc := 5) dX10_kindOn_5 rfl o1 o2 (inR_ix o1 o2 rfl) ?_
  refine zV_if_eq (pc := 6) (tgt := 25) dX10_kindOn_6 (by decide) (hm0 _ _) (fun c3 => ?_) (fun c3 => ?_)
  · skip
    replace h := h.1 c3
    refine zV_aloadr_n (pc := 25) dX10_kindOn_25 rfl 0 rfl ?_
    refine zV_getR (pc := 26) (b := 126) dX10_kindOn_26 zfX10_96 rfl rfl rfl ?_
    refine zV_iload_n (pc := 29) dX10_kindOn_29 rfl 1 rfl ?_
    refine zV_iald (pc := 30) dX10_kindOn_30 rfl o1 o2 (inR_ix o1 o2 rfl) ?_
    refine zV_name (fun v4 e5 => ?_)
    replace h := h v4 e5
    have hrv4 : inR v4 := by rw [e5]; exact (hm0 _ _)
    refine zV_istore_n (pc := 31) (loc' := [(2, .int (iz v4)), (0, rr K 98), (1, .int (iz x1))]) dX10_kindOn_31 rfl (by decide) rfl ?_
    refine zV_aloadr_n (pc := 32) dX10_kindOn_32 rfl 1 rfl ?_
    refine zV_iload_n (pc := 33) dX10_kindOn_33 rfl 0 rfl ?_
    obtain ⟨o6, h⟩ := h
    refine zV_callVf (pc := 34) (mc := mX10_isPart) (As := [.int (iz v4)]) (rest := []) dX10_kindOn_34 zcX10_134 ziX10_isPart zsX10_isPart rfl rfl rfl rfl (Nat.le_of_ble_eq_true rfl) (c_X10_isPart hrv4 hm0 o6) (fun hr7 => ?_)
    refine zV_if_ne (pc := 37) (tgt := 44) dX10_kindOn_37 (by decide) (inR_b2i _) (fun c9 => ?_) (fun c9 => ?_)
    · replace c9 := b2i_tp c9
      replace h := h.1 c9
      refine zV_aloadr_n (pc := 44) dX10_kindOn_44 rfl 1 rfl ?_
      refine zV_iload_n (pc := 45) dX10_kindOn_45 rfl 0 rfl ?_
      refine zV_iconst (pc := 46) dX10_kindOn_46 ?_
      obtain ⟨o10, h⟩ := h
      obtain ⟨o11, h⟩ := h
      refine zV_callVf (pc := 47) (mc := mX10_its) (As := [.int (iz v4), .int (iz 4)]) (rest := []) dX10_kindOn_47 zcX10_137 ziX10_its zsX10_its rfl rfl rfl rfl (Nat.le_of_ble_eq_true rfl) (c_X10_its (inRd rfl) hrv4 hm0 o10 o11) (fun hr12 => ?_)
      refine zV_if_le (pc := 50) (tgt := 58) dX10_kindOn_50 (by decide) hr12 (fun c14 => ?_) (fun c14 => ?_)
      · skip
        replace h := h.1 c14
        refine zV_aloadr_n (pc := 58) dX10_kindOn_58 rfl 1 rfl ?_
        refine zV_iload_n (pc := 59) dX10_kindOn_59 rfl 0 rfl ?_
        refine zV_iconst (pc := 60) dX10_kindOn_60 ?_
        obtain ⟨o15, h⟩ := h
        obtain ⟨o16, h⟩ := h
        refine zV_callVf (pc := 61) (mc := mX10_its) (As := [.int (iz v4), .int (iz 0)]) (rest := []) dX10_kindOn_61 zcX10_137 ziX10_its zsX10_its rfl rfl rfl rfl (Nat.le_of_ble_eq_true rfl) (c_X10_its (inRd rfl) hrv4 hm0 o15 o16) (fun hr17 => ?_)
        exact zV_iret (pc := 64) rfl dX10_kindOn_64 hr17 h
      · skip
        replace h := h.2 c14
        refine zV_bipush (pc := 53) dX10_kindOn_53 (by decide) ?_
        refine zV_goto (pc := 55) (tgt := 64) dX10_kindOn_55 (by decide) ?_
        exact zV_iret (pc := 64) rfl dX10_kindOn_64 (inRd rfl) h
    · replace c9 := b2i_fn c9
      replace h := h.2 c9
      refine zV_iconst (pc := 40) dX10_kindOn_40 ?_
      refine zV_goto (pc := 41) (tgt := 64) dX10_kindOn_41 (by decide) ?_
      exact zV_iret (pc := 64) rfl dX10_kindOn_64 (inRd rfl) h
  · skip
    replace h := h.2 c3
    refine zV_aloadr_n (pc := 9) dX10_kindOn_9 rfl 0 rfl ?_
    refine zV_getR (pc := 10) (b := 125) dX10_kindOn_10 zfX10_93 rfl rfl rfl ?_
    refine zV_iload_n (pc := 13) dX10_kindOn_13 rfl 1 rfl ?_
    refine zV_iald (pc := 14) dX10_kindOn_14 rfl o1 o2 (inR_ix o1 o2 rfl) ?_
    refine zV_if_ge (pc := 15) (tgt := 22) dX10_kindOn_15 (by decide) (hm0 _ _) (fun c19 => ?_) (fun c19 => ?_)
    · skip
      replace h := h.1 c19
      refine zV_bipush (pc := 22) dX10_kindOn_22 (by decide) ?_
      exact zV_iret (pc := 24) rfl dX10_kindOn_24 (inRd rfl) h
    · skip
      replace h := h.2 c19
      refine zV_iconst (pc := 18) dX10_kindOn_18 ?_
      refine zV_goto (pc := 19) (tgt := 24) dX10_kindOn_19 (by decide) ?_
      exact zV_iret (pc := 24) rfl dX10_kindOn_24 (inRd rfl) h

set_option maxRecDepth 100000 in
set_option maxHeartbeats 4000000 in
theorem vc_X10_taken_0 {K : zCx} {d : Nat} (x1 : Int) (x2 : Int) (m0 : zM) {Q : Int → zM → Prop} (hx1 : inR x1) (hx2 : inR x2) (h : zok m0 → ((0 ≤ x1 ∧ x1 ≤ 3) → ((0 ≤ x2 ∧ x2 ≤ 6) → zCt K (d + 3) mX10_kindOn [rr K 98, .int (iz x1)] m0 (fun r7 m8 => inR r7 → zok m8 → (0 ≤ r7 → (r7 = 9 → 0 ≤ x1 ∧ x1 < 4 ∧ (inR (10 + (m8.1 126 x1)) ∧ ((x2 = (10 + (m8.1 126 x1)) → Q (m8.1 127 x1) m8) ∧ (¬ (x2 = (10 + (m8.1 126 x1))) → Q (-13) m8)))) ∧ (¬ (r7 = 9) → (10 ≤ x2 → Q (-13) m8) ∧ (¬ (10 ≤ x2) → ((x2 = 0 ∨ r7 = x2 ∨ (x2 = 1 ∧ 2 ≤ r7 ∧ r7 ≤ 3) ∨ (x2 = 2 ∧ r7 = 3)) → 0 ≤ x1 ∧ x1 < 4 ∧ (Q (m8.1 126 x1) m8)) ∧ (¬ ((x2 = 0 ∨ r7 = x2 ∨ (x2 = 1 ∧ 2 ≤ r7 ∧ r7 ≤ 3) ∨ (x2 = 2 ∧ r7 = 3))) → Q (-13) m8)))) ∧ (¬ (0 ≤ r7) → Q (-11) m8))) ∧ (¬ ((0 ≤ x2 ∧ x2 ≤ 6)) → ((10 ≤ x2 ∧ x2 ≤ 13) → zCt K (d + 3) mX10_kindOn [rr K 98, .int (iz x1)] m0 (fun r24 m25 => inR r24 → zok m25 → (0 ≤ r24 → (r24 = 9 → 0 ≤ x1 ∧ x1 < 4 ∧ (inR (10 + (m25.1 126 x1)) ∧ ((x2 = (10 + (m25.1 126 x1)) → Q (m25.1 127 x1) m25) ∧ (¬ (x2 = (10 + (m25.1 126 x1))) → Q (-13) m25)))) ∧ (¬ (r24 = 9) → (10 ≤ x2 → Q (-13) m25) ∧ (¬ (10 ≤ x2) → ((x2 = 0 ∨ r24 = x2 ∨ (x2 = 1 ∧ 2 ≤ r24 ∧ r24 ≤ 3) ∨ (x2 = 2 ∧ r24 = 3)) → 0 ≤ x1 ∧ x1 < 4 ∧ (Q (m25.1 126 x1) m25)) ∧ (¬ ((x2 = 0 ∨ r24 = x2 ∨ (x2 = 1 ∧ 2 ≤ r24 ∧ r24 ≤ 3) ∨ (x2 = 2 ∧ r24 = 3))) → Q (-13) m25)))) ∧ (¬ (0 ≤ r24) → Q (-11) m25))) ∧ (¬ ((10 ≤ x2 ∧ x2 ≤ 13)) → Q (-1) m0))) ∧ (¬ ((0 ≤ x1 ∧ x1 ≤ 3)) → Q (-1) m0)) : zV K mX10_taken (d + 4) 0 [(0, rr K 98), (1, .int (iz x1)), (2, .int (iz x2))] [] m0 Q := by
  refine zV_ok (fun hm0 => ?_)
  replace h := h hm0
  refine zV_iload_n (pc := 0) dX10_taken_0 rfl 1 rfl ?_
  refine zV_callSf (pc := 1) (mc := mX10_isShelf) (As := [.int (iz x1)]) (rest := []) dX10_taken_1 zcX10_118 ztX10_isShelf rfl rfl (Nat.le_of_ble_eq_true rfl) (c_X10_isShelf hx1) (fun hr1 => ?_)
  refine zV_if_eq (pc := 4) (tgt := 28) dX10_taken_4 (by decide) (inR_b2i _) (fun c3 => ?_) (fun c3 => ?_)
  · replace c3 := b2i_fp c3
    replace h := h.2 c3
    refine zV_iconst (pc := 28) dX10_taken_28 ?_
    exact zV_iret (pc := 29) rfl dX10_taken_29 (inRd rfl) h
  · replace c3 := b2i_tp c3
    replace h := h.1 c3
    refine zV_iload_n (pc := 7) dX10_taken_7 rfl 2 rfl ?_
    refine zV_iconst (pc := 8) dX10_taken_8 ?_
    refine zV_bipush (pc := 9) dX10_taken_9 (by decide) ?_
    refine zV_callSf (pc := 11) (mc := mX10_in) (As := [.int (iz x2), .int (iz 0), .int (iz 6)]) (rest := []) dX10_taken_11 zcX10_114 ztX10_in rfl rfl (Nat.le_of_ble_eq_true rfl) (c_X10_in hx2 (inRd rfl) (inRd rfl)) (fun hr4 => ?_)
    refine zV_if_ne (pc := 14) (tgt := 30) dX10_taken_14 (by decide) (inR_b2i _) (fun c6 => ?_) (fun c6 => ?_)
    · replace c6 := b2i_tp c6
      replace h := h.1 c6
      refine zV_aloadr_n (pc := 30) dX10_taken_30 rfl 0 rfl ?_
      refine zV_iload_n (pc := 31) dX10_taken_31 rfl 1 rfl ?_
      refine zV_callV (pc := 32) (mc := mX10_kindOn) (As := [.int (iz x1)]) (rest := []) dX10_taken_32 zcX10_360 ziX10_kindOn zsX10_kindOn rfl rfl rfl rfl (Nat.le_of_ble_eq_true rfl) h (fun r7 m8 hr7 h => zV_ok (fun hm8 => ?_))
      replace h := h hr7 hm8
      refine zV_istore_n (pc := 35) (loc' := [(3, .int (iz r7)), (0, rr K 98), (1, .int (iz x1)), (2, .int (iz x2))]) dX10_taken_35 rfl (by decide) rfl ?_
      refine zV_iload_n (pc := 36) dX10_taken_36 rfl 0 rfl ?_
      refine zV_if_ge (pc := 37) (tgt := 43) dX10_taken_37 (by decide) hr7 (fun c9 => ?_) (fun c9 => ?_)
      · skip
        replace h := h.1 c9
        refine zV_iload_n (pc := 43) dX10_taken_43 rfl 0 rfl ?_
        refine zV_bipush (pc := 44) dX10_taken_44 (by decide) ?_
        refine zV_icmp_ne (pc := 46) (tgt := 74) dX10_taken_46 (by decide) hr7 (inRd rfl) (fun c10 => ?_) (fun c10 => ?_)
        · skip
          replace h := h.2 c10
          refine zV_iload_n (pc := 74) dX10_taken_74 rfl 3 rfl ?_
          refine zV_bipush (pc := 75) dX10_taken_75 (by decide) ?_
          refine zV_icmp_ge (pc := 77) (tgt := 97) dX10_taken_77 (by decide) hx2 (inRd rfl) (fun c11 => ?_) (fun c11 => ?_)
          · skip
            replace h := h.1 c11
            refine zV_bipush (pc := 97) dX10_taken_97 (by decide) ?_
            exact zV_iret (pc := 99) rfl dX10_taken_99 (inRd rfl) h
          · skip
            replace h := h.2 c11
            refine zV_iload_n (pc := 80) dX10_taken_80 rfl 0 rfl ?_
            refine zV_iload_n (pc := 81) dX10_taken_81 rfl 3 rfl ?_
            refine zV_callSf (pc := 82) (mc := mX10_isUnder) (As := [.int (iz r7), .int (iz x2)]) (rest := []) dX10_taken_82 zcX10_363 ztX10_isUnder rfl rfl (Nat.le_of_ble_eq_true rfl) (c_X10_isUnder hr7 hx2) (fun hr12 => ?_)
            refine zV_if_eq (pc := 85) (tgt := 97) dX10_taken_85 (by decide) (inR_b2i _) (fun c14 => ?_) (fun c14 => ?_)
            · replace c14 := b2i_fp c14
              replace h := h.2 c14
              refine zV_bipush (pc := 97) dX10_taken_97 (by decide) ?_
              exact zV_iret (pc := 99) rfl dX10_taken_99 (inRd rfl) h
            · replace c14 := b2i_tp c14
              replace h := h.1 c14
              refine zV_aloadr_n (pc := 88) dX10_taken_88 rfl 1 rfl ?_
              refine zV_getR (pc := 89) (b := 126) dX10_taken_89 zfX10_96 rfl rfl rfl ?_
              refine zV_iload_n (pc := 92) dX10_taken_92 rfl 2 rfl ?_
              obtain ⟨o15, o16, h⟩ := h
              refine zV_iald (pc := 93) dX10_taken_93 rfl o15 o16 (inR_ix o15 o16 rfl) ?_
              refine zV_goto (pc := 94) (tgt := 99) dX10_taken_94 (by decide) ?_
              exact zV_iret (pc := 99) rfl dX10_taken_99 (hm8 _ _) h
        · replace c10 := Classical.not_not.mp c10
          replace h := h.1 c10
          refine zV_iload_n (pc := 49) dX10_taken_49 rfl 3 rfl ?_
          refine zV_bipush (pc := 50) dX10_taken_50 (by decide) ?_
          refine zV_aloadr_n (pc := 52) dX10_taken_52 rfl 1 rfl ?_
          refine zV_getR (pc := 53) (b := 126) dX10_taken_53 zfX10_96 rfl rfl rfl ?_
          refine zV_iload_n (pc := 56) dX10_taken_56 rfl 2 rfl ?_
          obtain ⟨o17, o18, h⟩ := h
          refine zV_iald (pc := 57) dX10_taken_57 rfl o17 o18 (inR_ix o17 o18 rfl) ?_
          refine zV_iadd (pc := 58) dX10_taken_58 ?_
          obtain ⟨o19, h⟩ := h
          refine zV_icmp_ne (pc := 59) (tgt := 71) dX10_taken_59 (by decide) hx2 o19 (fun c20 => ?_) (fun c20 => ?_)
          · skip
            replace h := h.2 c20
            refine zV_bipush (pc := 71) dX10_taken_71 (by decide) ?_
            exact zV_iret (pc := 73) rfl dX10_taken_73 (inRd rfl) h
          · replace c20 := Classical.not_not.mp c20
            replace h := h.1 c20
            refine zV_aloadr_n (pc := 62) dX10_taken_62 rfl 1 rfl ?_
            refine zV_getR (pc := 63) (b := 127) dX10_taken_63 zfX10_99 rfl rfl rfl ?_
            refine zV_iload_n (pc := 66) dX10_taken_66 rfl 2 rfl ?_
            refine zV_iald (pc := 67) dX10_taken_67 rfl o17 o18 (inR_ix o17 o18 rfl) ?_
            refine zV_goto (pc := 68) (tgt := 73) dX10_taken_68 (by decide) ?_
            exact zV_iret (pc := 73) rfl dX10_taken_73 (hm8 _ _) h
      · skip
        replace h := h.2 c9
        refine zV_bipush (pc := 40) dX10_taken_40 (by decide) ?_
        exact zV_iret (pc := 42) rfl dX10_taken_42 (inRd rfl) h
    · replace c6 := b2i_fn c6
      replace h := h.2 c6
      refine zV_iload_n (pc := 17) dX10_taken_17 rfl 2 rfl ?_
      refine zV_bipush (pc := 18) dX10_taken_18 (by decide) ?_
      refine zV_bipush (pc := 20) dX10_taken_20 (by decide) ?_
      refine zV_callSf (pc := 22) (mc := mX10_in) (As := [.int (iz x2), .int (iz 10), .int (iz 13)]) (rest := []) dX10_taken_22 zcX10_114 ztX10_in rfl rfl (Nat.le_of_ble_eq_true rfl) (c_X10_in hx2 (inRd rfl) (inRd rfl)) (fun hr21 => ?_)
      refine zV_if_ne (pc := 25) (tgt := 30) dX10_taken_25 (by decide) (inR_b2i _) (fun c23 => ?_) (fun c23 => ?_)
      · replace c23 := b2i_tp c23
        replace h := h.1 c23
        refine zV_aloadr_n (pc := 30) dX10_taken_30 rfl 0 rfl ?_
        refine zV_iload_n (pc := 31) dX10_taken_31 rfl 1 rfl ?_
        refine zV_callV (pc := 32) (mc := mX10_kindOn) (As := [.int (iz x1)]) (rest := []) dX10_taken_32 zcX10_360 ziX10_kindOn zsX10_kindOn rfl rfl rfl rfl (Nat.le_of_ble_eq_true rfl) h (fun r24 m25 hr24 h => zV_ok (fun hm25 => ?_))
        replace h := h hr24 hm25
        refine zV_istore_n (pc := 35) (loc' := [(3, .int (iz r24)), (0, rr K 98), (1, .int (iz x1)), (2, .int (iz x2))]) dX10_taken_35 rfl (by decide) rfl ?_
        refine zV_iload_n (pc := 36) dX10_taken_36 rfl 0 rfl ?_
        refine zV_if_ge (pc := 37) (tgt := 43) dX10_taken_37 (by decide) hr24 (fun c26 => ?_) (fun c26 => ?_)
        · skip
          replace h := h.1 c26
          refine zV_iload_n (pc := 43) dX10_taken_43 rfl 0 rfl ?_
          refine zV_bipush (pc := 44) dX10_taken_44 (by decide) ?_
          refine zV_icmp_ne (pc := 46) (tgt := 74) dX10_taken_46 (by decide) hr24 (inRd rfl) (fun c27 => ?_) (fun c27 => ?_)
          · skip
            replace h := h.2 c27
            refine zV_iload_n (pc := 74) dX10_taken_74 rfl 3 rfl ?_
            refine zV_bipush (pc := 75) dX10_taken_75 (by decide) ?_
            refine zV_icmp_ge (pc := 77) (tgt := 97) dX10_taken_77 (by decide) hx2 (inRd rfl) (fun c28 => ?_) (fun c28 => ?_)
            · skip
              replace h := h.1 c28
              refine zV_bipush (pc := 97) dX10_taken_97 (by decide) ?_
              exact zV_iret (pc := 99) rfl dX10_taken_99 (inRd rfl) h
            · skip
              replace h := h.2 c28
              refine zV_iload_n (pc := 80) dX10_taken_80 rfl 0 rfl ?_
              refine zV_iload_n (pc := 81) dX10_taken_81 rfl 3 rfl ?_
              refine zV_callSf (pc := 82) (mc := mX10_isUnder) (As := [.int (iz r24), .int (iz x2)]) (rest := []) dX10_taken_82 zcX10_363 ztX10_isUnder rfl rfl (Nat.le_of_ble_eq_true rfl) (c_X10_isUnder hr24 hx2) (fun hr29 => ?_)
              refine zV_if_eq (pc := 85) (tgt := 97) dX10_taken_85 (by decide) (inR_b2i _) (fun c31 => ?_) (fun c31 => ?_)
              · replace c31 := b2i_fp c31
                replace h := h.2 c31
                refine zV_bipush (pc := 97) dX10_taken_97 (by decide) ?_
                exact zV_iret (pc := 99) rfl dX10_taken_99 (inRd rfl) h
              · replace c31 := b2i_tp c31
                replace h := h.1 c31
                refine zV_aloadr_n (pc := 88) dX10_taken_88 rfl 1 rfl ?_
                refine zV_getR (pc := 89) (b := 126) dX10_taken_89 zfX10_96 rfl rfl rfl ?_
                refine zV_iload_n (pc := 92) dX10_taken_92 rfl 2 rfl ?_
                obtain ⟨o32, o33, h⟩ := h
                refine zV_iald (pc := 93) dX10_taken_93 rfl o32 o33 (inR_ix o32 o33 rfl) ?_
                refine zV_goto (pc := 94) (tgt := 99) dX10_taken_94 (by decide) ?_
                exact zV_iret (pc := 99) rfl dX10_taken_99 (hm25 _ _) h
          · replace c27 := Classical.not_not.mp c27
            replace h := h.1 c27
            refine zV_iload_n (pc := 49) dX10_taken_49 rfl 3 rfl ?_
            refine zV_bipush (pc := 50) dX10_taken_50 (by decide) ?_
            refine zV_aloadr_n (pc := 52) dX10_taken_52 rfl 1 rfl ?_
            refine zV_getR (pc := 53) (b := 126) dX10_taken_53 zfX10_96 rfl rfl rfl ?_
            refine zV_iload_n (pc := 56) dX10_taken_56 rfl 2 rfl ?_
            obtain ⟨o34, o35, h⟩ := h
            refine zV_iald (pc := 57) dX10_taken_57 rfl o34 o35 (inR_ix o34 o35 rfl) ?_
            refine zV_iadd (pc := 58) dX10_taken_58 ?_
            obtain ⟨o36, h⟩ := h
            refine zV_icmp_ne (pc := 59) (tgt := 71) dX10_taken_59 (by decide) hx2 o36 (fun c37 => ?_) (fun c37 => ?_)
            · skip
              replace h := h.2 c37
              refine zV_bipush (pc := 71) dX10_taken_71 (by decide) ?_
              exact zV_iret (pc := 73) rfl dX10_taken_73 (inRd rfl) h
            · replace c37 := Classical.not_not.mp c37
              replace h := h.1 c37
              refine zV_aloadr_n (pc := 62) dX10_taken_62 rfl 1 rfl ?_
              refine zV_getR (pc := 63) (b := 127) dX10_taken_63 zfX10_99 rfl rfl rfl ?_
              refine zV_iload_n (pc := 66) dX10_taken_66 rfl 2 rfl ?_
              refine zV_iald (pc := 67) dX10_taken_67 rfl o34 o35 (inR_ix o34 o35 rfl) ?_
              refine zV_goto (pc := 68) (tgt := 73) dX10_taken_68 (by decide) ?_
              exact zV_iret (pc := 73) rfl dX10_taken_73 (hm25 _ _) h
        · skip
          replace h := h.2 c26
          refine zV_bipush (pc := 40) dX10_taken_40 (by decide) ?_
          exact zV_iret (pc := 42) rfl dX10_taken_42 (inRd rfl) h
      · replace c23 := b2i_fn c23
        replace h := h.2 c23
        refine zV_iconst (pc := 28) dX10_taken_28 ?_
        exact zV_iret (pc := 29) rfl dX10_taken_29 (inRd rfl) h

set_option maxRecDepth 100000 in
set_option maxHeartbeats 4000000 in
theorem vc_X10_ran_0 {K : zCx} {d : Nat} (x1 : Int) (m0 : zM) {Q : Int → zM → Prop} (hx1 : inR x1) (h : zok m0 → (30 ≤ (m0.1 98 54) → Q 0 m0) ∧ (¬ (30 ≤ (m0.1 98 54)) → 0 ≤ (m0.1 98 54) ∧ (m0.1 98 54) < 30 ∧ (∀ m4 : zM, m4 = sI m0 128 (m0.1 98 54) x1 → zok m4 → (inR ((m4.1 98 54) + 1) ∧ (∀ m7 : zM, m7 = sI m4 98 54 ((m4.1 98 54) + 1) → zok m7 → (Q 0 m7)))))) : zV K mX10_ran (d + 1) 0 [(0, rr K 98), (1, .int (iz x1))] [] m0 Q := by
  refine zV_ok (fun hm0 => ?_)
  replace h := h hm0
  refine zV_aloadr_n (pc := 0) dX10_ran_0 rfl 0 rfl ?_
  refine zV_getI (pc := 1) (kz := 54) dX10_ran_1 zfX10_366 rfl rfl rfl ?_
  refine zV_bipush (pc := 4) dX10_ran_4 (by decide) ?_
  refine zV_icmp_ge (pc := 6) (tgt := 29) dX10_ran_6 (by decide) (hm0 _ _) (inRd rfl) (fun c1 => ?_) (fun c1 => ?_)
  · skip
    replace h := h.1 c1
    exact zV_vret (pc := 29) rfl dX10_ran_29 h
  · skip
    replace h := h.2 c1
    refine zV_aloadr_n (pc := 9) dX10_ran_9 rfl 0 rfl ?_
    refine zV_getR (pc := 10) (b := 128) dX10_ran_10 zfX10_102 rfl rfl rfl ?_
    refine zV_aloadr_n (pc := 13) dX10_ran_13 rfl 0 rfl ?_
    refine zV_getI (pc := 14) (kz := 54) dX10_ran_14 zfX10_366 rfl rfl rfl ?_
    refine zV_iload_n (pc := 17) dX10_ran_17 rfl 1 rfl ?_
    obtain ⟨o2, o3, h⟩ := h
    refine zV_iast (pc := 18) dX10_ran_18 rfl o2 o3 (inR_ix o2 o3 rfl) hx1 ?_
    refine zV_mem (fun m4 e5 => zV_ok (fun hm4 => ?_))
    replace h := h m4 e5 hm4
    refine zV_aloadr_n (pc := 19) dX10_ran_19 rfl 0 rfl ?_
    refine zV_dup (pc := 20) dX10_ran_20 rfl ?_
    refine zV_getI (pc := 21) (kz := 54) dX10_ran_21 zfX10_366 rfl rfl rfl ?_
    refine zV_iconst (pc := 24) dX10_ran_24 ?_
    refine zV_iadd (pc := 25) dX10_ran_25 ?_
    obtain ⟨o6, h⟩ := h
    refine zV_putI (pc := 26) (kz := 54) dX10_ran_26 zpX10_366 rfl rfl rfl o6 rfl rfl ?_
    refine zV_mem (fun m7 e8 => zV_ok (fun hm7 => ?_))
    replace h := h m7 e8 hm7
    exact zV_vret (pc := 29) rfl dX10_ran_29 h

set_option maxRecDepth 100000 in
set_option maxHeartbeats 4000000 in
theorem vc_X10_flowsIt_0 {K : zCx} {d : Nat} (x1 : Int) (m0 : zM) {Q : Int → zM → Prop} (hx1 : inR x1) (h : zok m0 → ((m0.1 98 50) = 6 → zCt K (d + 1) mX10_ran [rr K 98, .int (iz 70)] m0 (fun r2 m3 => inR r2 → zok m3 → zV K mX10_flowsIt (d + 2) 15 [(0, rr K 98), (1, .int (iz x1))] [] m3 Q)) ∧ (¬ ((m0.1 98 50) = 6) → zV K mX10_flowsIt (d + 2) 15 [(0, rr K 98), (1, .int (iz x1))] [] m0 Q)) : zV K mX10_flowsIt (d + 2) 0 [(0, rr K 98), (1, .int (iz x1))] [] m0 Q := by
  refine zV_ok (fun hm0 => ?_)
  replace h := h hm0
  refine zV_aloadr_n (pc := 0) dX10_flowsIt_0 rfl 0 rfl ?_
  refine zV_getI (pc := 1) (kz := 50) dX10_flowsIt_1 zfX10_369 rfl rfl rfl ?_
  refine zV_bipush (pc := 4) dX10_flowsIt_4 (by decide) ?_
  refine zV_icmp_ne (pc := 6) (tgt := 15) dX10_flowsIt_6 (by decide) (hm0 _ _) (inRd rfl) (fun c1 => ?_) (fun c1 => ?_)
  · skip
    replace h := h.2 c1
    exact zV_sub [0, 1] rfl h
  · replace c1 := Classical.not_not.mp c1
    replace h := h.1 c1
    refine zV_aloadr_n (pc := 9) dX10_flowsIt_9 rfl 0 rfl ?_
    refine zV_bipush (pc := 10) dX10_flowsIt_10 (by decide) ?_
    refine zV_callV (pc := 12) (mc := mX10_ran) (As := [.int (iz 70)]) (rest := []) dX10_flowsIt_12 zcX10_372 ziX10_ran zsX10_ran rfl rfl rfl rfl (Nat.le_of_ble_eq_true rfl) h (fun r2 m3 hr2 h => zV_ok (fun hm3 => ?_))
    replace h := h hr2 hm3
    exact zV_sub [0, 1] rfl h
set_option maxRecDepth 100000 in
set_option maxHeartbeats 4000000 in
theorem vc_X10_flowsIt_15 {K : zCx} {d : Nat} (x1 : Int) (m0 : zM) {Q : Int → zM → Prop} (hx1 : inR x1) (h : zok m0 → ((m0.1 98 50) = 3 → zCt K (d + 1) mX10_ran [rr K 98, .int (iz 40)] m0 (fun r2 m3 => inR r2 → zok m3 → zV K mX10_flowsIt (d + 2) 29 [(0, rr K 98), (1, .int (iz x1))] [] m3 Q)) ∧ (¬ ((m0.1 98 50) = 3) → zV K mX10_flowsIt (d + 2) 29 [(0, rr K 98), (1, .int (iz x1))] [] m0 Q)) : zV K mX10_flowsIt (d + 2) 15 [(0, rr K 98), (1, .int (iz x1))] [] m0 Q := by
  refine zV_ok (fun hm0 => ?_)
  replace h := h hm0
  refine zV_aloadr_n (pc := 15) dX10_flowsIt_15 rfl 0 rfl ?_
  refine zV_getI (pc := 16) (kz := 50) dX10_flowsIt_16 zfX10_369 rfl rfl rfl ?_
  refine zV_iconst (pc := 19) dX10_flowsIt_19 ?_
  refine zV_icmp_ne (pc := 20) (tgt := 29) dX10_flowsIt_20 (by decide) (hm0 _ _) (inRd rfl) (fun c1 => ?_) (fun c1 => ?_)
  · skip
    replace h := h.2 c1
    exact zV_sub [0, 1] rfl h
  · replace c1 := Classical.not_not.mp c1
    replace h := h.1 c1
    refine zV_aloadr_n (pc := 23) dX10_flowsIt_23 rfl 0 rfl ?_
    refine zV_bipush (pc := 24) dX10_flowsIt_24 (by decide) ?_
    refine zV_callV (pc := 26) (mc := mX10_ran) (As := [.int (iz 40)]) (rest := []) dX10_flowsIt_26 zcX10_372 ziX10_ran zsX10_ran rfl rfl rfl rfl (Nat.le_of_ble_eq_true rfl) h (fun r2 m3 hr2 h => zV_ok (fun hm3 => ?_))
    replace h := h hr2 hm3
    exact zV_sub [0, 1] rfl h
set_option maxRecDepth 100000 in
set_option maxHeartbeats 4000000 in
theorem vc_X10_flowsIt_29 {K : zCx} {d : Nat} (x1 : Int) (m0 : zM) {Q : Int → zM → Prop} (hx1 : inR x1) (h : zok m0 → ((1 ≤ (m0.1 98 50) ∧ (m0.1 98 50) ≤ 3) → zCt K (d + 1) mX10_ran [rr K 98, .int (iz 20)] m0 (fun r4 m5 => inR r4 → zok m5 → zV K mX10_flowsIt (d + 2) 47 [(0, rr K 98), (1, .int (iz x1))] [] m5 Q)) ∧ (¬ ((1 ≤ (m0.1 98 50) ∧ (m0.1 98 50) ≤ 3)) → zV K mX10_flowsIt (d + 2) 47 [(0, rr K 98), (1, .int (iz x1))] [] m0 Q)) : zV K mX10_flowsIt (d + 2) 29 [(0, rr K 98), (1, .int (iz x1))] [] m0 Q := by
  refine zV_ok (fun hm0 => ?_)
  replace h := h hm0
  refine zV_aloadr_n (pc := 29) dX10_flowsIt_29 rfl 0 rfl ?_
  refine zV_getI (pc := 30) (kz := 50) dX10_flowsIt_30 zfX10_369 rfl rfl rfl ?_
  refine zV_iconst (pc := 33) dX10_flowsIt_33 ?_
  refine zV_iconst (pc := 34) dX10_flowsIt_34 ?_
  refine zV_callSf (pc := 35) (mc := mX10_in) (As := [.int (iz (m0.1 98 50)), .int (iz 1), .int (iz 3)]) (rest := []) dX10_flowsIt_35 zcX10_114 ztX10_in rfl rfl (Nat.le_of_ble_eq_true rfl) (c_X10_in (hm0 _ _) (inRd rfl) (inRd rfl)) (fun hr1 => ?_)
  refine zV_if_eq (pc := 38) (tgt := 47) dX10_flowsIt_38 (by decide) (inR_b2i _) (fun c3 => ?_) (fun c3 => ?_)
  · replace c3 := b2i_fp c3
    replace h := h.2 c3
    exact zV_sub [0, 1] rfl h
  · replace c3 := b2i_tp c3
    replace h := h.1 c3
    refine zV_aloadr_n (pc := 41) dX10_flowsIt_41 rfl 0 rfl ?_
    refine zV_bipush (pc := 42) dX10_flowsIt_42 (by decide) ?_
    refine zV_callV (pc := 44) (mc := mX10_ran) (As := [.int (iz 20)]) (rest := []) dX10_flowsIt_44 zcX10_372 ziX10_ran zsX10_ran rfl rfl rfl rfl (Nat.le_of_ble_eq_true rfl) h (fun r4 m5 hr4 h => zV_ok (fun hm5 => ?_))
    replace h := h hr4 hm5
    exact zV_sub [0, 1] rfl h
set_option maxRecDepth 100000 in
set_option maxHeartbeats 4000000 in
theorem vc_X10_flowsIt_47 {K : zCx} {d : Nat} (x1 : Int) (m0 : zM) {Q : Int → zM → Prop} (hx1 : inR x1) (h : zok m0 → zCt K (d + 1) mX10_ran [rr K 98, .int (iz 10)] m0 (fun r1 m2 => inR r1 → zok m2 → ∀ v5 : Int, v5 = (if (1 ≤ (m2.1 98 50) ∧ (m2.1 98 50) ≤ 3) then 3 else 0) → (∀ v7 : Int, v7 = ((x1 + (m2.1 98 52)) - v5) → (((m2.1 98 50) = 3 → Q (zxor v7 (m2.1 98 52)) m2) ∧ (¬ ((m2.1 98 50) = 3) → ((m2.1 98 50) = 6 → inR (v7 * 7) ∧ (Q (v7 * 7) m2)) ∧ (¬ ((m2.1 98 50) = 6) → inR v7 ∧ (Q v7 m2))))))) : zV K mX10_flowsIt (d + 2) 47 [(0, rr K 98), (1, .int (iz x1))] [] m0 Q := by
  refine zV_ok (fun hm0 => ?_)
  replace h := h hm0
  refine zV_aloadr_n (pc := 47) dX10_flowsIt_47 rfl 0 rfl ?_
  refine zV_bipush (pc := 48) dX10_flowsIt_48 (by decide) ?_
  refine zV_callV (pc := 50) (mc := mX10_ran) (As := [.int (iz 10)]) (rest := []) dX10_flowsIt_50 zcX10_372 ziX10_ran zsX10_ran rfl rfl rfl rfl (Nat.le_of_ble_eq_true rfl) h (fun r1 m2 hr1 h => zV_ok (fun hm2 => ?_))
  replace h := h hr1 hm2
  refine zV_iload_n (pc := 53) dX10_flowsIt_53 rfl 1 rfl ?_
  refine zV_aloadr_n (pc := 54) dX10_flowsIt_54 rfl 0 rfl ?_
  refine zV_getI (pc := 55) (kz := 52) dX10_flowsIt_55 zfX10_375 rfl rfl rfl ?_
  refine zV_iadd (pc := 58) dX10_flowsIt_58 ?_
  refine zV_aloadr_n (pc := 59) dX10_flowsIt_59 rfl 0 rfl ?_
  refine zV_getI (pc := 60) (kz := 50) dX10_flowsIt_60 zfX10_369 rfl rfl rfl ?_
  refine zV_iconst (pc := 63) dX10_flowsIt_63 ?_
  refine zV_iconst (pc := 64) dX10_flowsIt_64 ?_
  refine zV_callSf (pc := 65) (mc := mX10_in) (As := [.int (iz (m2.1 98 50)), .int (iz 1), .int (iz 3)]) (rest := [.int (iz (x1 + (m2.1 98 52)))]) dX10_flowsIt_65 zcX10_114 ztX10_in rfl rfl (Nat.le_of_ble_eq_true rfl) (c_X10_in (hm2 _ _) (inRd rfl) (inRd rfl)) (fun hr3 => ?_)
  have key : ∀ v5 : Int, v5 = (if (1 ≤ (m2.1 98 50) ∧ (m2.1 98 50) ≤ 3) then 3 else 0) → zV K mX10_flowsIt (d + 2) 76 [(0, rr K 98)] [.int (iz v5), .int (iz (x1 + (m2.1 98 52)))] m2 Q := by
    intro v5 e6
    replace h := h v5 e6
    have hrv5 : inR v5 := by rw [e6]; (repeat' split) <;> first | with_reducible exact (inRd rfl)
    refine zV_isub (pc := 76) dX10_flowsIt_76 ?_
    refine zV_name (fun v7 e8 => ?_)
    replace h := h v7 e8
    refine zV_istore_n (pc := 77) (loc' := [(2, .int (iz v7)), (0, rr K 98)]) dX10_flowsIt_77 rfl (by decide) rfl ?_
    refine zV_aloadr_n (pc := 78) dX10_flowsIt_78 rfl 1 rfl ?_
    refine zV_getI (pc := 79) (kz := 50) dX10_flowsIt_79 zfX10_369 rfl rfl rfl ?_
    refine zV_iconst (pc := 82) dX10_flowsIt_82 ?_
    refine zV_icmp_ne (pc := 83) (tgt := 95) dX10_flowsIt_83 (by decide) (hm2 _ _) (inRd rfl) (fun c9 => ?_) (fun c9 => ?_)
    · skip
      replace h := h.2 c9
      refine zV_aloadr_n (pc := 95) dX10_flowsIt_95 rfl 1 rfl ?_
      refine zV_getI (pc := 96) (kz := 50) dX10_flowsIt_96 zfX10_369 rfl rfl rfl ?_
      refine zV_bipush (pc := 99) dX10_flowsIt_99 (by decide) ?_
      refine zV_icmp_ne (pc := 101) (tgt := 111) dX10_flowsIt_101 (by decide) (hm2 _ _) (inRd rfl) (fun c10 => ?_) (fun c10 => ?_)
      · skip
        replace h := h.2 c10
        refine zV_iload_n (pc := 111) dX10_flowsIt_111 rfl 0 rfl ?_
        obtain ⟨o11, h⟩ := h
        exact zV_iret (pc := 112) rfl dX10_flowsIt_112 o11 h
      · replace c10 := Classical.not_not.mp c10
        replace h := h.1 c10
        refine zV_iload_n (pc := 104) dX10_flowsIt_104 rfl 0 rfl ?_
        refine zV_bipush (pc := 105) dX10_flowsIt_105 (by decide) ?_
        refine zV_imul (pc := 107) dX10_flowsIt_107 ?_
        refine zV_goto (pc := 108) (tgt := 112) dX10_flowsIt_108 (by decide) ?_
        obtain ⟨o12, h⟩ := h
        exact zV_iret (pc := 112) rfl dX10_flowsIt_112 o12 h
    · replace c9 := Classical.not_not.mp c9
      replace h := h.1 c9
      refine zV_iload_n (pc := 86) dX10_flowsIt_86 rfl 0 rfl ?_
      refine zV_aloadr_n (pc := 87) dX10_flowsIt_87 rfl 1 rfl ?_
      refine zV_getI (pc := 88) (kz := 52) dX10_flowsIt_88 zfX10_375 rfl rfl rfl ?_
      refine zV_ixor (pc := 91) dX10_flowsIt_91 ?_
      refine zV_goto (pc := 92) (tgt := 112) dX10_flowsIt_92 (by decide) ?_
      exact zV_iret (pc := 112) rfl dX10_flowsIt_112 (inR_zxor _ _) h
  refine zV_if_eq (pc := 68) (tgt := 75) dX10_flowsIt_68 (by decide) (inR_b2i _) (fun c13 => ?_) (fun c13 => ?_)
  · replace c13 := b2i_fp c13
    refine zV_iconst (pc := 75) dX10_flowsIt_75 ?_
    exact zV_sub [0] rfl (key _ (if_neg c13).symm)
  · replace c13 := b2i_tp c13
    refine zV_iconst (pc := 71) dX10_flowsIt_71 ?_
    refine zV_goto (pc := 72) (tgt := 76) dX10_flowsIt_72 (by decide) ?_
    exact zV_sub [0] rfl (key _ (if_pos c13).symm)

set_option maxRecDepth 100000 in
set_option maxHeartbeats 4000000 in
theorem vc_X10_partRests_0 {K : zCx} {d : Nat} (x1 : Int) (m0 : zM) {Q : Int → zM → Prop} (hx1 : inR x1) (h : zok m0 → zCt K (d + 2) mX10_ran [rr K 98, .int (iz 11)] m0 (fun r1 m2 => inR r1 → zok m2 → zCt K (d + 2) mX10_flowsIt [rr K 98, .int (iz x1)] m2 (fun r3 m4 => inR r3 → zok m4 → inR (r3 * 2) ∧ (Q (r3 * 2) m4)))) : zV K mX10_partRests (d + 3) 0 [(0, rr K 98), (1, .int (iz x1))] [] m0 Q := by
  refine zV_ok (fun hm0 => ?_)
  replace h := h hm0
  refine zV_aloadr_n (pc := 0) dX10_partRests_0 rfl 0 rfl ?_
  refine zV_bipush (pc := 1) dX10_partRests_1 (by decide) ?_
  refine zV_callV (pc := 3) (mc := mX10_ran) (As := [.int (iz 11)]) (rest := []) dX10_partRests_3 zcX10_372 ziX10_ran zsX10_ran rfl rfl rfl rfl (Nat.le_of_ble_eq_true rfl) h (fun r1 m2 hr1 h => zV_ok (fun hm2 => ?_))
  replace h := h hr1 hm2
  refine zV_aloadr_n (pc := 6) dX10_partRests_6 rfl 0 rfl ?_
  refine zV_iload_n (pc := 7) dX10_partRests_7 rfl 1 rfl ?_
  refine zV_callV (pc := 8) (mc := mX10_flowsIt) (As := [.int (iz x1)]) (rest := []) dX10_partRests_8 zcX10_378 ziX10_flowsIt zsX10_flowsIt rfl rfl rfl rfl (Nat.le_of_ble_eq_true rfl) h (fun r3 m4 hr3 h => zV_ok (fun hm4 => ?_))
  replace h := h hr3 hm4
  refine zV_iconst (pc := 11) dX10_partRests_11 ?_
  refine zV_imul (pc := 12) dX10_partRests_12 ?_
  obtain ⟨o5, h⟩ := h
  exact zV_iret (pc := 13) rfl dX10_partRests_13 o5 h

set_option maxRecDepth 100000 in
set_option maxHeartbeats 4000000 in
theorem vc_X10_restsIt_0 {K : zCx} {d : Nat} (x1 : Int) (m0 : zM) {Q : Int → zM → Prop} (hx1 : inR x1) (h : zok m0 → ((m0.1 98 50) = 2 → zCt K (d + 3) mX10_ran [rr K 98, .int (iz 30)] m0 (fun r2 m3 => inR r2 → zok m3 → zCt K (d + 3) mX10_partRests [rr K 98, .int (iz x1)] m3 (fun r4 m5 => inR r4 → zok m5 → zCt K (d + 3) mX10_flowsIt [rr K 98, .int (iz 2)] m5 (fun r6 m7 => inR r6 → zok m7 → inR (r4 + r6) ∧ (Q (r4 + r6) m7))))) ∧ (¬ ((m0.1 98 50) = 2) → ((m0.1 98 50) = 3 → zCt K (d + 3) mX10_ran [rr K 98, .int (iz 30)] m0 (fun r18 m19 => inR r18 → zok m19 → zCt K (d + 3) mX10_partRests [rr K 98, .int (iz x1)] m19 (fun r20 m21 => inR r20 → zok m21 → zCt K (d + 3) mX10_flowsIt [rr K 98, .int (iz 2)] m21 (fun r22 m23 => inR r22 → zok m23 → inR (r20 + r22) ∧ (Q (r20 + r22) m23))))) ∧ (¬ ((m0.1 98 50) = 3) → ((m0.1 98 50) = 4 → zCt K (d + 3) mX10_ran [rr K 98, .int (iz 50)] m0 (fun r13 m14 => inR r13 → zok m14 → zCt K (d + 3) mX10_partRests [rr K 98, .int (iz x1)] m14 (fun r15 m16 => inR r15 → zok m16 → inR (-r15) ∧ (Q (-r15) m16)))) ∧ (¬ ((m0.1 98 50) = 4) → zCt K (d + 3) mX10_partRests [rr K 98, .int (iz x1)] m0 (fun r11 m12 => inR r11 → zok m12 → Q r11 m12))))) : zV K mX10_restsIt (d + 4) 0 [(0, rr K 98), (1, .int (iz x1))] [] m0 Q := by
  refine zV_ok (fun hm0 => ?_)
  replace h := h hm0
  refine zV_aloadr_n (pc := 0) dX10_restsIt_0 rfl 0 rfl ?_
  refine zV_getI (pc := 1) (kz := 50) dX10_restsIt_1 zfX10_369 rfl rfl rfl ?_
  refine zV_iconst (pc := 4) dX10_restsIt_4 ?_
  refine zV_icmp_eq (pc := 5) (tgt := 16) dX10_restsIt_5 (by decide) (hm0 _ _) (inRd rfl) (fun c1 => ?_) (fun c1 => ?_)
  · skip
    replace h := h.1 c1
    refine zV_aloadr_n (pc := 16) dX10_restsIt_16 rfl 0 rfl ?_
    refine zV_bipush (pc := 17) dX10_restsIt_17 (by decide) ?_
    refine zV_callV (pc := 19) (mc := mX10_ran) (As := [.int (iz 30)]) (rest := []) dX10_restsIt_19 zcX10_372 ziX10_ran zsX10_ran rfl rfl rfl rfl (Nat.le_of_ble_eq_true rfl) h (fun r2 m3 hr2 h => zV_ok (fun hm3 => ?_))
    replace h := h hr2 hm3
    refine zV_aloadr_n (pc := 22) dX10_restsIt_22 rfl 0 rfl ?_
    refine zV_iload_n (pc := 23) dX10_restsIt_23 rfl 1 rfl ?_
    refine zV_callV (pc := 24) (mc := mX10_partRests) (As := [.int (iz x1)]) (rest := []) dX10_restsIt_24 zcX10_381 ziX10_partRests zsX10_partRests rfl rfl rfl rfl (Nat.le_of_ble_eq_true rfl) h (fun r4 m5 hr4 h => zV_ok (fun hm5 => ?_))
    replace h := h hr4 hm5
    refine zV_istore_n (pc := 27) (loc' := [(2, .int (iz r4)), (0, rr K 98), (1, .int (iz x1))]) dX10_restsIt_27 rfl (by decide) rfl ?_
    refine zV_iload_n (pc := 28) dX10_restsIt_28 rfl 0 rfl ?_
    refine zV_aloadr_n (pc := 29) dX10_restsIt_29 rfl 1 rfl ?_
    refine zV_iconst (pc := 30) dX10_restsIt_30 ?_
    refine zV_callV (pc := 31) (mc := mX10_flowsIt) (As := [.int (iz 2)]) (rest := [.int (iz r4)]) dX10_restsIt_31 zcX10_378 ziX10_flowsIt zsX10_flowsIt rfl rfl rfl rfl (Nat.le_of_ble_eq_true rfl) h (fun r6 m7 hr6 h => zV_ok (fun hm7 => ?_))
    replace h := h hr6 hm7
    refine zV_iadd (pc := 34) dX10_restsIt_34 ?_
    obtain ⟨o8, h⟩ := h
    exact zV_iret (pc := 35) rfl dX10_restsIt_35 o8 h
  · skip
    replace h := h.2 c1
    refine zV_aloadr_n (pc := 8) dX10_restsIt_8 rfl 0 rfl ?_
    refine zV_getI (pc := 9) (kz := 50) dX10_restsIt_9 zfX10_369 rfl rfl rfl ?_
    refine zV_iconst (pc := 12) dX10_restsIt_12 ?_
    refine zV_icmp_ne (pc := 13) (tgt := 36) dX10_restsIt_13 (by decide) (hm0 _ _) (inRd rfl) (fun c9 => ?_) (fun c9 => ?_)
    · skip
      replace h := h.2 c9
      refine zV_aloadr_n (pc := 36) dX10_restsIt_36 rfl 0 rfl ?_
      refine zV_getI (pc := 37) (kz := 50) dX10_restsIt_37 zfX10_369 rfl rfl rfl ?_
      refine zV_iconst (pc := 40) dX10_restsIt_40 ?_
      refine zV_icmp_ne (pc := 41) (tgt := 57) dX10_restsIt_41 (by decide) (hm0 _ _) (inRd rfl) (fun c10 => ?_) (fun c10 => ?_)
      · skip
        replace h := h.2 c10
        refine zV_aloadr_n (pc := 57) dX10_restsIt_57 rfl 0 rfl ?_
        refine zV_iload_n (pc := 58) dX10_restsIt_58 rfl 1 rfl ?_
        refine zV_callV (pc := 59) (mc := mX10_partRests) (As := [.int (iz x1)]) (rest := []) dX10_restsIt_59 zcX10_381 ziX10_partRests zsX10_partRests rfl rfl rfl rfl (Nat.le_of_ble_eq_true rfl) h (fun r11 m12 hr11 h => zV_ok (fun hm12 => ?_))
        replace h := h hr11 hm12
        exact zV_iret (pc := 62) rfl dX10_restsIt_62 hr11 h
      · replace c10 := Classical.not_not.mp c10
        replace h := h.1 c10
        refine zV_aloadr_n (pc := 44) dX10_restsIt_44 rfl 0 rfl ?_
        refine zV_bipush (pc := 45) dX10_restsIt_45 (by decide) ?_
        refine zV_callV (pc := 47) (mc := mX10_ran) (As := [.int (iz 50)]) (rest := []) dX10_restsIt_47 zcX10_372 ziX10_ran zsX10_ran rfl rfl rfl rfl (Nat.le_of_ble_eq_true rfl) h (fun r13 m14 hr13 h => zV_ok (fun hm14 => ?_))
        replace h := h hr13 hm14
        refine zV_aloadr_n (pc := 50) dX10_restsIt_50 rfl 0 rfl ?_
        refine zV_iload_n (pc := 51) dX10_restsIt_51 rfl 1 rfl ?_
        refine zV_callV (pc := 52) (mc := mX10_partRests) (As := [.int (iz x1)]) (rest := []) dX10_restsIt_52 zcX10_381 ziX10_partRests zsX10_partRests rfl rfl rfl rfl (Nat.le_of_ble_eq_true rfl) h (fun r15 m16 hr15 h => zV_ok (fun hm16 => ?_))
        replace h := h hr15 hm16
        refine zV_ineg (pc := 55) dX10_restsIt_55 ?_
        obtain ⟨o17, h⟩ := h
        exact zV_iret (pc := 56) rfl dX10_restsIt_56 o17 h
    · replace c9 := Classical.not_not.mp c9
      replace h := h.1 c9
      refine zV_aloadr_n (pc := 16) dX10_restsIt_16 rfl 0 rfl ?_
      refine zV_bipush (pc := 17) dX10_restsIt_17 (by decide) ?_
      refine zV_callV (pc := 19) (mc := mX10_ran) (As := [.int (iz 30)]) (rest := []) dX10_restsIt_19 zcX10_372 ziX10_ran zsX10_ran rfl rfl rfl rfl (Nat.le_of_ble_eq_true rfl) h (fun r18 m19 hr18 h => zV_ok (fun hm19 => ?_))
      replace h := h hr18 hm19
      refine zV_aloadr_n (pc := 22) dX10_restsIt_22 rfl 0 rfl ?_
      refine zV_iload_n (pc := 23) dX10_restsIt_23 rfl 1 rfl ?_
      refine zV_callV (pc := 24) (mc := mX10_partRests) (As := [.int (iz x1)]) (rest := []) dX10_restsIt_24 zcX10_381 ziX10_partRests zsX10_partRests rfl rfl rfl rfl (Nat.le_of_ble_eq_true rfl) h (fun r20 m21 hr20 h => zV_ok (fun hm21 => ?_))
      replace h := h hr20 hm21
      refine zV_istore_n (pc := 27) (loc' := [(2, .int (iz r20)), (0, rr K 98), (1, .int (iz x1))]) dX10_restsIt_27 rfl (by decide) rfl ?_
      refine zV_iload_n (pc := 28) dX10_restsIt_28 rfl 0 rfl ?_
      refine zV_aloadr_n (pc := 29) dX10_restsIt_29 rfl 1 rfl ?_
      refine zV_iconst (pc := 30) dX10_restsIt_30 ?_
      refine zV_callV (pc := 31) (mc := mX10_flowsIt) (As := [.int (iz 2)]) (rest := [.int (iz r20)]) dX10_restsIt_31 zcX10_378 ziX10_flowsIt zsX10_flowsIt rfl rfl rfl rfl (Nat.le_of_ble_eq_true rfl) h (fun r22 m23 hr22 h => zV_ok (fun hm23 => ?_))
      replace h := h hr22 hm23
      refine zV_iadd (pc := 34) dX10_restsIt_34 ?_
      obtain ⟨o24, h⟩ := h
      exact zV_iret (pc := 35) rfl dX10_restsIt_35 o24 h

set_option maxRecDepth 100000 in
set_option maxHeartbeats 4000000 in
theorem vc_X10_partsIt_0 {K : zCx} {d : Nat} (x1 : Int) (m0 : zM) {Q : Int → zM → Prop} (hx1 : inR x1) (h : zok m0 → ((m0.1 98 50) = 3 → zCt K (d + 1) mX10_ran [rr K 98, .int (iz 41)] m0 (fun r11 m12 => inR r11 → zok m12 → ∀ v13 : Int, v13 = (x1 - 1) → (zCt K (d + 1) mX10_ran [rr K 98, .int (iz 12)] m12 (fun r15 m16 => inR r15 → zok m16 → ((m16.1 98 52) = (m16.1 98 51) → ∀ m23 : zM, m23 = sI m16 98 55 1 → zok m23 → (Q 0 m23)) ∧ (¬ ((m16.1 98 52) = (m16.1 98 51)) → inR v13 ∧ (inR ((m16.1 98 52) - (m16.1 98 51)) ∧ (((m16.1 98 52) - (m16.1 98 51)) ≠ 0 ∧ ¬ (v13 = -2147483648 ∧ ((m16.1 98 52) - (m16.1 98 51)) = -1) ∧ (inR (Int.tdiv v13 ((m16.1 98 52) - (m16.1 98 51))) ∧ (Q (Int.tdiv v13 ((m16.1 98 52) - (m16.1 98 51))) m16))))))))) ∧ (¬ ((m0.1 98 50) = 3) → zCt K (d + 1) mX10_ran [rr K 98, .int (iz 12)] m0 (fun r2 m3 => inR r2 → zok m3 → ((m3.1 98 52) = (m3.1 98 51) → ∀ m9 : zM, m9 = sI m3 98 55 1 → zok m9 → (Q 0 m9)) ∧ (¬ ((m3.1 98 52) = (m3.1 98 51)) → inR ((m3.1 98 52) - (m3.1 98 51)) ∧ (((m3.1 98 52) - (m3.1 98 51)) ≠ 0 ∧ ¬ (x1 = -2147483648 ∧ ((m3.1 98 52) - (m3.1 98 51)) = -1) ∧ (inR (Int.tdiv x1 ((m3.1 98 52) - (m3.1 98 51))) ∧ (Q (Int.tdiv x1 ((m3.1 98 52) - (m3.1 98 51))) m3))))))) : zV K mX10_partsIt (d + 2) 0 [(0, rr K 98), (1, .int (iz x1))] [] m0 Q := by
  refine zV_ok (fun hm0 => ?_)
  replace h := h hm0
  refine zV_iload_n (pc := 0) dX10_partsIt_0 rfl 1 rfl ?_
  refine zV_istore_n (pc := 1) (loc' := [(2, .int (iz x1)), (0, rr K 98), (1, .int (iz x1))]) dX10_partsIt_1 rfl (by decide) rfl ?_
  refine zV_aloadr_n (pc := 2) dX10_partsIt_2 rfl 1 rfl ?_
  refine zV_getI (pc := 3) (kz := 50) dX10_partsIt_3 zfX10_369 rfl rfl rfl ?_
  refine zV_iconst (pc := 6) dX10_partsIt_6 ?_
  refine zV_icmp_ne (pc := 7) (tgt := 20) dX10_partsIt_7 (by decide) (hm0 _ _) (inRd rfl) (fun c1 => ?_) (fun c1 => ?_)
  · skip
    replace h := h.2 c1
    refine zV_aloadr_n (pc := 20) dX10_partsIt_20 rfl 1 rfl ?_
    refine zV_bipush (pc := 21) dX10_partsIt_21 (by decide) ?_
    refine zV_callV (pc := 23) (mc := mX10_ran) (As := [.int (iz 12)]) (rest := []) dX10_partsIt_23 zcX10_372 ziX10_ran zsX10_ran rfl rfl rfl rfl (Nat.le_of_ble_eq_true rfl) h (fun r2 m3 hr2 h => zV_ok (fun hm3 => ?_))
    replace h := h hr2 hm3
    refine zV_aloadr_n (pc := 26) dX10_partsIt_26 rfl 1 rfl ?_
    refine zV_getI (pc := 27) (kz := 52) dX10_partsIt_27 zfX10_375 rfl rfl rfl ?_
    refine zV_aloadr_n (pc := 30) dX10_partsIt_30 rfl 1 rfl ?_
    refine zV_getI (pc := 31) (kz := 51) dX10_partsIt_31 zfX10_384 rfl rfl rfl ?_
    refine zV_icmp_ne (pc := 34) (tgt := 44) dX10_partsIt_34 (by decide) (hm3 _ _) (hm3 _ _) (fun c4 => ?_) (fun c4 => ?_)
    · skip
      replace h := h.2 c4
      refine zV_iload_n (pc := 44) dX10_partsIt_44 rfl 0 rfl ?_
      refine zV_aloadr_n (pc := 45) dX10_partsIt_45 rfl 1 rfl ?_
      refine zV_getI (pc := 46) (kz := 52) dX10_partsIt_46 zfX10_375 rfl rfl rfl ?_
      refine zV_aloadr_n (pc := 49) dX10_partsIt_49 rfl 1 rfl ?_
      refine zV_getI (pc := 50) (kz := 51) dX10_partsIt_50 zfX10_384 rfl rfl rfl ?_
      refine zV_isub (pc := 53) dX10_partsIt_53 ?_
      obtain ⟨o5, h⟩ := h
      obtain ⟨o6, o7, h⟩ := h
      refine zV_idiv (pc := 54) dX10_partsIt_54 hx1 o5 o6 o7 ?_
      obtain ⟨o8, h⟩ := h
      exact zV_iret (pc := 55) rfl dX10_partsIt_55 o8 h
    · replace c4 := Classical.not_not.mp c4
      replace h := h.1 c4
      refine zV_aloadr_n (pc := 37) dX10_partsIt_37 rfl 1 rfl ?_
      refine zV_iconst (pc := 38) dX10_partsIt_38 ?_
      refine zV_putI (pc := 39) (kz := 55) dX10_partsIt_39 zpX10_387 rfl rfl rfl (z01 (Or.inr rfl)).1 (z01 (Or.inr rfl)).2.1 (z01 (Or.inr rfl)).2.2 ?_
      refine zV_mem (fun m9 e10 => zV_ok (fun hm9 => ?_))
      replace h := h m9 e10 hm9
      refine zV_iconst (pc := 42) dX10_partsIt_42 ?_
      exact zV_iret (pc := 43) rfl dX10_partsIt_43 (inRd rfl) h
  · replace c1 := Classical.not_not.mp c1
    replace h := h.1 c1
    refine zV_aloadr_n (pc := 10) dX10_partsIt_10 rfl 1 rfl ?_
    refine zV_bipush (pc := 11) dX10_partsIt_11 (by decide) ?_
    refine zV_callV (pc := 13) (mc := mX10_ran) (As := [.int (iz 41)]) (rest := []) dX10_partsIt_13 zcX10_372 ziX10_ran zsX10_ran rfl rfl rfl rfl (Nat.le_of_ble_eq_true rfl) h (fun r11 m12 hr11 h => zV_ok (fun hm12 => ?_))
    replace h := h hr11 hm12
    refine zV_iload_n (pc := 16) dX10_partsIt_16 rfl 2 rfl ?_
    refine zV_iconst (pc := 17) dX10_partsIt_17 ?_
    refine zV_isub (pc := 18) dX10_partsIt_18 ?_
    refine zV_name (fun v13 e14 => ?_)
    replace h := h v13 e14
    refine zV_istore_n (pc := 19) (loc' := [(2, .int (iz v13)), (0, rr K 98), (1, .int (iz x1))]) dX10_partsIt_19 rfl (by decide) rfl ?_
    refine zV_aloadr_n (pc := 20) dX10_partsIt_20 rfl 1 rfl ?_
    refine zV_bipush (pc := 21) dX10_partsIt_21 (by decide) ?_
    refine zV_callV (pc := 23) (mc := mX10_ran) (As := [.int (iz 12)]) (rest := []) dX10_partsIt_23 zcX10_372 ziX10_ran zsX10_ran rfl rfl rfl rfl (Nat.le_of_ble_eq_true rfl) h (fun r15 m16 hr15 h => zV_ok (fun hm16 => ?_))
    replace h := h hr15 hm16
    refine zV_aloadr_n (pc := 26) dX10_partsIt_26 rfl 1 rfl ?_
    refine zV_getI (pc := 27) (kz := 52) dX10_partsIt_27 zfX10_375 rfl rfl rfl ?_
    refine zV_aloadr_n (pc := 30) dX10_partsIt_30 rfl 1 rfl ?_
    refine zV_getI (pc := 31) (kz := 51) dX10_partsIt_31 zfX10_384 rfl rfl rfl ?_
    refine zV_icmp_ne (pc := 34) (tgt := 44) dX10_partsIt_34 (by decide) (hm16 _ _) (hm16 _ _) (fun c17 => ?_) (fun c17 => ?_)
    · skip
      replace h := h.2 c17
      refine zV_iload_n (pc := 44) dX10_partsIt_44 rfl 0 rfl ?_
      refine zV_aloadr_n (pc := 45) dX10_partsIt_45 rfl 1 rfl ?_
      refine zV_getI (pc := 46) (kz := 52) dX10_partsIt_46 zfX10_375 rfl rfl rfl ?_
      refine zV_aloadr_n (pc := 49) dX10_partsIt_49 rfl 1 rfl ?_
      refine zV_getI (pc := 50) (kz := 51) dX10_partsIt_50 zfX10_384 rfl rfl rfl ?_
      refine zV_isub (pc := 53) dX10_partsIt_53 ?_
      obtain ⟨o18, h⟩ := h
      obtain ⟨o19, h⟩ := h
      obtain ⟨o20, o21, h⟩ := h
      refine zV_idiv (pc := 54) dX10_partsIt_54 o18 o19 o20 o21 ?_
      obtain ⟨o22, h⟩ := h
      exact zV_iret (pc := 55) rfl dX10_partsIt_55 o22 h
    · replace c17 := Classical.not_not.mp c17
      replace h := h.1 c17
      refine zV_aloadr_n (pc := 37) dX10_partsIt_37 rfl 1 rfl ?_
      refine zV_iconst (pc := 38) dX10_partsIt_38 ?_
      refine zV_putI (pc := 39) (kz := 55) dX10_partsIt_39 zpX10_387 rfl rfl rfl (z01 (Or.inr rfl)).1 (z01 (Or.inr rfl)).2.1 (z01 (Or.inr rfl)).2.2 ?_
      refine zV_mem (fun m23 e24 => zV_ok (fun hm23 => ?_))
      replace h := h m23 e24 hm23
      refine zV_iconst (pc := 42) dX10_partsIt_42 ?_
      exact zV_iret (pc := 43) rfl dX10_partsIt_43 (inRd rfl) h

set_option maxRecDepth 100000 in
set_option maxHeartbeats 4000000 in
theorem vc_X10_partErrs_0 {K : zCx} {d : Nat} (x1 : Int) (m0 : zM) {Q : Int → zM → Prop} (hx1 : inR x1) (h : zok m0 → zCt K (d + 4) mX10_ran [rr K 98, .int (iz 13)] m0 (fun r1 m2 => inR r1 → zok m2 → zCt K (d + 4) mX10_restsIt [rr K 98, .int (iz x1)] m2 (fun r3 m4 => inR r3 → zok m4 → Q (zxor r3 (m4.1 98 51)) m4))) : zV K mX10_partErrs (d + 5) 0 [(0, rr K 98), (1, .int (iz x1))] [] m0 Q := by
  refine zV_ok (fun hm0 => ?_)
  replace h := h hm0
  refine zV_aloadr_n (pc := 0) dX10_partErrs_0 rfl 0 rfl ?_
  refine zV_bipush (pc := 1) dX10_partErrs_1 (by decide) ?_
  refine zV_callV (pc := 3) (mc := mX10_ran) (As := [.int (iz 13)]) (rest := []) dX10_partErrs_3 zcX10_372 ziX10_ran zsX10_ran rfl rfl rfl rfl (Nat.le_of_ble_eq_true rfl) h (fun r1 m2 hr1 h => zV_ok (fun hm2 => ?_))
  replace h := h hr1 hm2
  refine zV_aloadr_n (pc := 6) dX10_partErrs_6 rfl 0 rfl ?_
  refine zV_iload_n (pc := 7) dX10_partErrs_7 rfl 1 rfl ?_
  refine zV_callV (pc := 8) (mc := mX10_restsIt) (As := [.int (iz x1)]) (rest := []) dX10_partErrs_8 zcX10_391 ziX10_restsIt zsX10_restsIt rfl rfl rfl rfl (Nat.le_of_ble_eq_true rfl) h (fun r3 m4 hr3 h => zV_ok (fun hm4 => ?_))
  replace h := h hr3 hm4
  refine zV_aloadr_n (pc := 11) dX10_partErrs_11 rfl 0 rfl ?_
  refine zV_getI (pc := 12) (kz := 51) dX10_partErrs_12 zfX10_384 rfl rfl rfl ?_
  refine zV_ixor (pc := 15) dX10_partErrs_15 ?_
  exact zV_iret (pc := 16) rfl dX10_partErrs_16 (inR_zxor _ _) h

set_option maxRecDepth 100000 in
set_option maxHeartbeats 4000000 in
theorem vc_X10_errsIt_0 {K : zCx} {d : Nat} (x1 : Int) (m0 : zM) {Q : Int → zM → Prop} (hx1 : inR x1) (h : zok m0 → ((m0.1 98 50) = 2 → zCt K (d + 5) mX10_ran [rr K 98, .int (iz 31)] m0 (fun r2 m3 => inR r2 → zok m3 → zCt K (d + 5) mX10_partErrs [rr K 98, .int (iz x1)] m3 (fun r4 m5 => inR r4 → zok m5 → inR (r4 * 5) ∧ (Q (r4 * 5) m5)))) ∧ (¬ ((m0.1 98 50) = 2) → ((m0.1 98 50) = 3 → zCt K (d + 5) mX10_ran [rr K 98, .int (iz 31)] m0 (fun r18 m19 => inR r18 → zok m19 → zCt K (d + 5) mX10_partErrs [rr K 98, .int (iz x1)] m19 (fun r20 m21 => inR r20 → zok m21 → inR (r20 * 5) ∧ (Q (r20 * 5) m21)))) ∧ (¬ ((m0.1 98 50) = 3) → ((m0.1 98 50) = 5 → zCt K (d + 5) mX10_ran [rr K 98, .int (iz 60)] m0 (fun r11 m12 => inR r11 → zok m12 → zCt K (d + 5) mX10_partErrs [rr K 98, .int (iz x1)] m12 (fun r13 m14 => inR r13 → zok m14 → zCt K (d + 5) mX10_partsIt [rr K 98, .int (iz ((m14.1 98 51) + 1))] m14 (fun r15 m16 => inR r15 → zok m16 → inR (r13 + r15) ∧ (Q (r13 + r15) m16))))) ∧ (¬ ((m0.1 98 50) = 5) → zCt K (d + 5) mX10_partErrs [rr K 98, .int (iz x1)] m0 (fun r9 m10 => inR r9 → zok m10 → Q r9 m10))))) : zV K mX10_errsIt (d + 6) 0 [(0, rr K 98), (1, .int (iz x1))] [] m0 Q := by
  refine zV_ok (fun hm0 => ?_)
  replace h := h hm0
  refine zV_aloadr_n (pc := 0) dX10_errsIt_0 rfl 0 rfl ?_
  refine zV_getI (pc := 1) (kz := 50) dX10_errsIt_1 zfX10_369 rfl rfl rfl ?_
  refine zV_iconst (pc := 4) dX10_errsIt_4 ?_
  refine zV_icmp_eq (pc := 5) (tgt := 16) dX10_errsIt_5 (by decide) (hm0 _ _) (inRd rfl) (fun c1 => ?_) (fun c1 => ?_)
  · skip
    replace h := h.1 c1
    refine zV_aloadr_n (pc := 16) dX10_errsIt_16 rfl 0 rfl ?_
    refine zV_bipush (pc := 17) dX10_errsIt_17 (by decide) ?_
    refine zV_callV (pc := 19) (mc := mX10_ran) (As := [.int (iz 31)]) (rest := []) dX10_errsIt_19 zcX10_372 ziX10_ran zsX10_ran rfl rfl rfl rfl (Nat.le_of_ble_eq_true rfl) h (fun r2 m3 hr2 h => zV_ok (fun hm3 => ?_))
    replace h := h hr2 hm3
    refine zV_aloadr_n (pc := 22) dX10_errsIt_22 rfl 0 rfl ?_
    refine zV_iload_n (pc := 23) dX10_errsIt_23 rfl 1 rfl ?_
    refine zV_callV (pc := 24) (mc := mX10_partErrs) (As := [.int (iz x1)]) (rest := []) dX10_errsIt_24 zcX10_394 ziX10_partErrs zsX10_partErrs rfl rfl rfl rfl (Nat.le_of_ble_eq_true rfl) h (fun r4 m5 hr4 h => zV_ok (fun hm5 => ?_))
    replace h := h hr4 hm5
    refine zV_iconst (pc := 27) dX10_errsIt_27 ?_
    refine zV_imul (pc := 28) dX10_errsIt_28 ?_
    obtain ⟨o6, h⟩ := h
    exact zV_iret (pc := 29) rfl dX10_errsIt_29 o6 h
  · skip
    replace h := h.2 c1
    refine zV_aloadr_n (pc := 8) dX10_errsIt_8 rfl 0 rfl ?_
    refine zV_getI (pc := 9) (kz := 50) dX10_errsIt_9 zfX10_369 rfl rfl rfl ?_
    refine zV_iconst (pc := 12) dX10_errsIt_12 ?_
    refine zV_icmp_ne (pc := 13) (tgt := 30) dX10_errsIt_13 (by decide) (hm0 _ _) (inRd rfl) (fun c7 => ?_) (fun c7 => ?_)
    · skip
      replace h := h.2 c7
      refine zV_aloadr_n (pc := 30) dX10_errsIt_30 rfl 0 rfl ?_
      refine zV_getI (pc := 31) (kz := 50) dX10_errsIt_31 zfX10_369 rfl rfl rfl ?_
      refine zV_iconst (pc := 34) dX10_errsIt_34 ?_
      refine zV_icmp_ne (pc := 35) (tgt := 63) dX10_errsIt_35 (by decide) (hm0 _ _) (inRd rfl) (fun c8 => ?_) (fun c8 => ?_)
      · skip
        replace h := h.2 c8
        refine zV_aloadr_n (pc := 63) dX10_errsIt_63 rfl 0 rfl ?_
        refine zV_iload_n (pc := 64) dX10_errsIt_64 rfl 1 rfl ?_
        refine zV_callV (pc := 65) (mc := mX10_partErrs) (As := [.int (iz x1)]) (rest := []) dX10_errsIt_65 zcX10_394 ziX10_partErrs zsX10_partErrs rfl rfl rfl rfl (Nat.le_of_ble_eq_true rfl) h (fun r9 m10 hr9 h => zV_ok (fun hm10 => ?_))
        replace h := h hr9 hm10
        exact zV_iret (pc := 68) rfl dX10_errsIt_68 hr9 h
      · replace c8 := Classical.not_not.mp c8
        replace h := h.1 c8
        refine zV_aloadr_n (pc := 38) dX10_errsIt_38 rfl 0 rfl ?_
        refine zV_bipush (pc := 39) dX10_errsIt_39 (by decide) ?_
        refine zV_callV (pc := 41) (mc := mX10_ran) (As := [.int (iz 60)]) (rest := []) dX10_errsIt_41 zcX10_372 ziX10_ran zsX10_ran rfl rfl rfl rfl (Nat.le_of_ble_eq_true rfl) h (fun r11 m12 hr11 h => zV_ok (fun hm12 => ?_))
        replace h := h hr11 hm12
        refine zV_aloadr_n (pc := 44) dX10_errsIt_44 rfl 0 rfl ?_
        refine zV_iload_n (pc := 45) dX10_errsIt_45 rfl 1 rfl ?_
        refine zV_callV (pc := 46) (mc := mX10_partErrs) (As := [.int (iz x1)]) (rest := []) dX10_errsIt_46 zcX10_394 ziX10_partErrs zsX10_partErrs rfl rfl rfl rfl (Nat.le_of_ble_eq_true rfl) h (fun r13 m14 hr13 h => zV_ok (fun hm14 => ?_))
        replace h := h hr13 hm14
        refine zV_istore_n (pc := 49) (loc' := [(2, .int (iz r13)), (0, rr K 98), (1, .int (iz x1))]) dX10_errsIt_49 rfl (by decide) rfl ?_
        refine zV_iload_n (pc := 50) dX10_errsIt_50 rfl 0 rfl ?_
        refine zV_aloadr_n (pc := 51) dX10_errsIt_51 rfl 1 rfl ?_
        refine zV_aloadr_n (pc := 52) dX10_errsIt_52 rfl 1 rfl ?_
        refine zV_getI (pc := 53) (kz := 51) dX10_errsIt_53 zfX10_384 rfl rfl rfl ?_
        refine zV_iconst (pc := 56) dX10_errsIt_56 ?_
        refine zV_iadd (pc := 57) dX10_errsIt_57 ?_
        refine zV_callV (pc := 58) (mc := mX10_partsIt) (As := [.int (iz ((m14.1 98 51) + 1))]) (rest := [.int (iz r13)]) dX10_errsIt_58 zcX10_397 ziX10_partsIt zsX10_partsIt rfl rfl rfl rfl (Nat.le_of_ble_eq_true rfl) h (fun r15 m16 hr15 h => zV_ok (fun hm16 => ?_))
        replace h := h hr15 hm16
        refine zV_iadd (pc := 61) dX10_errsIt_61 ?_
        obtain ⟨o17, h⟩ := h
        exact zV_iret (pc := 62) rfl dX10_errsIt_62 o17 h
    · replace c7 := Classical.not_not.mp c7
      replace h := h.1 c7
      refine zV_aloadr_n (pc := 16) dX10_errsIt_16 rfl 0 rfl ?_
      refine zV_bipush (pc := 17) dX10_errsIt_17 (by decide) ?_
      refine zV_callV (pc := 19) (mc := mX10_ran) (As := [.int (iz 31)]) (rest := []) dX10_errsIt_19 zcX10_372 ziX10_ran zsX10_ran rfl rfl rfl rfl (Nat.le_of_ble_eq_true rfl) h (fun r18 m19 hr18 h => zV_ok (fun hm19 => ?_))
      replace h := h hr18 hm19
      refine zV_aloadr_n (pc := 22) dX10_errsIt_22 rfl 0 rfl ?_
      refine zV_iload_n (pc := 23) dX10_errsIt_23 rfl 1 rfl ?_
      refine zV_callV (pc := 24) (mc := mX10_partErrs) (As := [.int (iz x1)]) (rest := []) dX10_errsIt_24 zcX10_394 ziX10_partErrs zsX10_partErrs rfl rfl rfl rfl (Nat.le_of_ble_eq_true rfl) h (fun r20 m21 hr20 h => zV_ok (fun hm21 => ?_))
      replace h := h hr20 hm21
      refine zV_iconst (pc := 27) dX10_errsIt_27 ?_
      refine zV_imul (pc := 28) dX10_errsIt_28 ?_
      obtain ⟨o22, h⟩ := h
      exact zV_iret (pc := 29) rfl dX10_errsIt_29 o22 h

set_option maxRecDepth 100000 in
set_option maxHeartbeats 4000000 in
theorem vc_X10_act_0 {K : zCx} {d : Nat} (x1 : Int) (x2 : Int) (x3 : Int) (m0 : zM) {Q : Int → zM → Prop} (hx1 : inR x1) (hx2 : inR x2) (hx3 : inR x3) (h : zok m0 → ∀ m1 : zM, m1 = sI m0 98 54 0 → zok m1 → (((0 ≤ x1 ∧ x1 ≤ 3) → ((0 ≤ x2 ∧ x2 ≤ 3) → zCt K (d + 6) mX10_kindOn [rr K 98, .int (iz x1)] m1 (fun r9 m10 => inR r9 → zok m10 → ((1 ≤ r9 ∧ r9 ≤ 6) → zCt K (d + 6) mX10_kindOn [rr K 98, .int (iz x1)] m10 (fun r14 m15 => inR r14 → zok m15 → ∀ m16 : zM, m16 = sI m15 98 50 r14 → zok m16 → (0 ≤ x1 ∧ x1 < 4 ∧ (∀ m20 : zM, m20 = sI m16 98 51 (m16.1 126 x1) → zok m20 → ((0 ≤ 10 * (m20.1 98 51) + 3) ∧ ((10 * (m20.1 98 51) + 3 < 100) ∧ (∀ m26 : zM, m26 = sI m20 98 52 (m20.1 100 (10 * (m20.1 98 51) + 3)) → zok m26 → (∀ m28 : zM, m28 = sI m26 98 55 0 → zok m28 → ((x2 = 0 → zCt K (d + 6) mX10_flowsIt [rr K 98, .int (iz x3)] m28 (fun r42 m43 => inR r42 → zok m43 → ((m43.1 98 55) = 0 → Q r42 m43) ∧ (¬ ((m43.1 98 55) = 0) → Q (-15) m43))) ∧ (¬ (x2 = 0) → (x2 = 1 → zCt K (d + 6) mX10_restsIt [rr K 98, .int (iz x3)] m28 (fun r39 m40 => inR r39 → zok m40 → ((m40.1 98 55) = 0 → Q r39 m40) ∧ (¬ ((m40.1 98 55) = 0) → Q (-15) m40))) ∧ (¬ (x2 = 1) → (x2 = 2 → zCt K (d + 6) mX10_partsIt [rr K 98, .int (iz x3)] m28 (fun r36 m37 => inR r36 → zok m37 → ((m37.1 98 55) = 0 → Q r36 m37) ∧ (¬ ((m37.1 98 55) = 0) → Q (-15) m37))) ∧ (¬ (x2 = 2) → zCt K (d + 6) mX10_errsIt [rr K 98, .int (iz x3)] m28 (fun r33 m34 => inR r33 → zok m34 → ((m34.1 98 55) = 0 → Q r33 m34) ∧ (¬ ((m34.1 98 55) = 0) → Q (-15) m34)))))))))))))) ∧ (¬ ((1 ≤ r9 ∧ r9 ≤ 6)) → Q 0 m10))) ∧ (¬ ((0 ≤ x2 ∧ x2 ≤ 3)) → Q 0 m1)) ∧ (¬ ((0 ≤ x1 ∧ x1 ≤ 3)) → Q 0 m1))) : zV K mX10_act (d + 7) 0 [(0, rr K 98), (1, .int (iz x1)), (2, .int (iz x2)), (3, .int (iz x3))] [] m0 Q := by
  refine zV_ok (fun hm0 => ?_)
  replace h := h hm0
  refine zV_aloadr_n (pc := 0) dX10_act_0 rfl 0 rfl ?_
  refine zV_iconst (pc := 1) dX10_act_1 ?_
  refine zV_putI (pc := 2) (kz := 54) dX10_act_2 zpX10_366 rfl rfl rfl (inRd rfl) rfl rfl ?_
  refine zV_mem (fun m1 e2 => zV_ok (fun hm1 => ?_))
  replace h := h m1 e2 hm1
  refine zV_iload_n (pc := 5) dX10_act_5 rfl 1 rfl ?_
  refine zV_callSf (pc := 6) (mc := mX10_isShelf) (As := [.int (iz x1)]) (rest := []) dX10_act_6 zcX10_118 ztX10_isShelf rfl rfl (Nat.le_of_ble_eq_true rfl) (c_X10_isShelf hx1) (fun hr3 => ?_)
  refine zV_if_eq (pc := 9) (tgt := 35) dX10_act_9 (by decide) (inR_b2i _) (fun c5 => ?_) (fun c5 => ?_)
  · replace c5 := b2i_fp c5
    replace h := h.2 c5
    refine zV_iconst (pc := 35) dX10_act_35 ?_
    exact zV_iret (pc := 36) rfl dX10_act_36 (inRd rfl) h
  · replace c5 := b2i_tp c5
    replace h := h.1 c5
    refine zV_iload_n (pc := 12) dX10_act_12 rfl 2 rfl ?_
    refine zV_iconst (pc := 13) dX10_act_13 ?_
    refine zV_iconst (pc := 14) dX10_act_14 ?_
    refine zV_callSf (pc := 15) (mc := mX10_in) (As := [.int (iz x2), .int (iz 0), .int (iz 3)]) (rest := []) dX10_act_15 zcX10_114 ztX10_in rfl rfl (Nat.le_of_ble_eq_true rfl) (c_X10_in hx2 (inRd rfl) (inRd rfl)) (fun hr6 => ?_)
    refine zV_if_eq (pc := 18) (tgt := 35) dX10_act_18 (by decide) (inR_b2i _) (fun c8 => ?_) (fun c8 => ?_)
    · replace c8 := b2i_fp c8
      replace h := h.2 c8
      refine zV_iconst (pc := 35) dX10_act_35 ?_
      exact zV_iret (pc := 36) rfl dX10_act_36 (inRd rfl) h
    · replace c8 := b2i_tp c8
      replace h := h.1 c8
      refine zV_aloadr_n (pc := 21) dX10_act_21 rfl 0 rfl ?_
      refine zV_iload_n (pc := 22) dX10_act_22 rfl 1 rfl ?_
      refine zV_callV (pc := 23) (mc := mX10_kindOn) (As := [.int (iz x1)]) (rest := []) dX10_act_23 zcX10_360 ziX10_kindOn zsX10_kindOn rfl rfl rfl rfl (Nat.le_of_ble_eq_true rfl) h (fun r9 m10 hr9 h => zV_ok (fun hm10 => ?_))
      replace h := h hr9 hm10
      refine zV_iconst (pc := 26) dX10_act_26 ?_
      refine zV_bipush (pc := 27) dX10_act_27 (by decide) ?_
      refine zV_callSf (pc := 29) (mc := mX10_in) (As := [.int (iz r9), .int (iz 1), .int (iz 6)]) (rest := []) dX10_act_29 zcX10_114 ztX10_in rfl rfl (Nat.le_of_ble_eq_true rfl) (c_X10_in hr9 (inRd rfl) (inRd rfl)) (fun hr11 => ?_)
      refine zV_if_ne (pc := 32) (tgt := 37) dX10_act_32 (by decide) (inR_b2i _) (fun c13 => ?_) (fun c13 => ?_)
      · replace c13 := b2i_tp c13
        replace h := h.1 c13
        refine zV_aloadr_n (pc := 37) dX10_act_37 rfl 0 rfl ?_
        refine zV_aloadr_n (pc := 38) dX10_act_38 rfl 0 rfl ?_
        refine zV_iload_n (pc := 39) dX10_act_39 rfl 1 rfl ?_
        refine zV_callV (pc := 40) (mc := mX10_kindOn) (As := [.int (iz x1)]) (rest := [rr K 98]) dX10_act_40 zcX10_360 ziX10_kindOn zsX10_kindOn rfl rfl rfl rfl (Nat.le_of_ble_eq_true rfl) h (fun r14 m15 hr14 h => zV_ok (fun hm15 => ?_))
        replace h := h hr14 hm15
        refine zV_putI (pc := 43) (kz := 50) dX10_act_43 zpX10_369 rfl rfl rfl hr14 rfl rfl ?_
        refine zV_mem (fun m16 e17 => zV_ok (fun hm16 => ?_))
        replace h := h m16 e17 hm16
        refine zV_aloadr_n (pc := 46) dX10_act_46 rfl 0 rfl ?_
        refine zV_aloadr_n (pc := 47) dX10_act_47 rfl 0 rfl ?_
        refine zV_getR (pc := 48) (b := 126) dX10_act_48 zfX10_96 rfl rfl rfl ?_
        refine zV_iload_n (pc := 51) dX10_act_51 rfl 1 rfl ?_
        obtain ⟨o18, o19, h⟩ := h
        refine zV_iald (pc := 52) dX10_act_52 rfl o18 o19 (inR_ix o18 o19 rfl) ?_
        refine zV_putI (pc := 53) (kz := 51) dX10_act_53 zpX10_384 rfl rfl rfl (hm16 _ _) rfl rfl ?_
        refine zV_mem (fun m20 e21 => zV_ok (fun hm20 => ?_))
        replace h := h m20 e21 hm20
        refine zV_aloadr_n (pc := 56) dX10_act_56 rfl 0 rfl ?_
        refine zV_aloadr_n (pc := 57) dX10_act_57 rfl 0 rfl ?_
        refine zV_aloadr_n (pc := 58) dX10_act_58 rfl 0 rfl ?_
        refine zV_getI (pc := 59) (kz := 51) dX10_act_59 zfX10_384 rfl rfl rfl ?_
        refine zV_iconst (pc := 62) dX10_act_62 ?_
        obtain ⟨o22, h⟩ := h
        obtain ⟨o23, h⟩ := h
        refine zV_callVf (pc := 63) (mc := mX10_its) (As := [.int (iz (m20.1 98 51)), .int (iz 3)]) (rest := [rr K 98]) dX10_act_63 zcX10_137 ziX10_its zsX10_its rfl rfl rfl rfl (Nat.le_of_ble_eq_true rfl) (c_X10_its (inRd rfl) (hm20 _ _) hm20 o22 o23) (fun hr24 => ?_)
        refine zV_putI (pc := 66) (kz := 52) dX10_act_66 zpX10_375 rfl rfl rfl hr24 rfl rfl ?_
        refine zV_mem (fun m26 e27 => zV_ok (fun hm26 => ?_))
        replace h := h m26 e27 hm26
        refine zV_aloadr_n (pc := 69) dX10_act_69 rfl 0 rfl ?_
        refine zV_iconst (pc := 70) dX10_act_70 ?_
        refine zV_putI (pc := 71) (kz := 55) dX10_act_71 zpX10_387 rfl rfl rfl (z01 (Or.inl rfl)).1 (z01 (Or.inl rfl)).2.1 (z01 (Or.inl rfl)).2.2 ?_
        refine zV_mem (fun m28 e29 => zV_ok (fun hm28 => ?_))
        replace h := h m28 e29 hm28
        refine zV_iload_n (pc := 74) dX10_act_74 rfl 2 rfl ?_
        refine zV_if_ne (pc := 75) (tgt := 86) dX10_act_75 (by decide) hx2 (fun c30 => ?_) (fun c30 => ?_)
        · skip
          replace h := h.2 c30
          refine zV_iload_n (pc := 86) dX10_act_86 rfl 2 rfl ?_
          refine zV_iconst (pc := 87) dX10_act_87 ?_
          refine zV_icmp_ne (pc := 88) (tgt := 99) dX10_act_88 (by decide) hx2 (inRd rfl) (fun c31 => ?_) (fun c31 => ?_)
          · skip
            replace h := h.2 c31
            refine zV_iload_n (pc := 99) dX10_act_99 rfl 2 rfl ?_
            refine zV_iconst (pc := 100) dX10_act_100 ?_
            refine zV_icmp_ne (pc := 101) (tgt := 112) dX10_act_101 (by decide) hx2 (inRd rfl) (fun c32 => ?_) (fun c32 => ?_)
            · skip
              replace h := h.2 c32
              refine zV_aloadr_n (pc := 112) dX10_act_112 rfl 0 rfl ?_
              refine zV_iload_n (pc := 113) dX10_act_113 rfl 3 rfl ?_
              refine zV_callV (pc := 114) (mc := mX10_errsIt) (As := [.int (iz x3)]) (rest := []) dX10_act_114 zcX10_400 ziX10_errsIt zsX10_errsIt rfl rfl rfl rfl (Nat.le_of_ble_eq_true rfl) h (fun r33 m34 hr33 h => zV_ok (fun hm34 => ?_))
              replace h := h hr33 hm34
              refine zV_istore (pc := 117) (loc' := [(4, .int (iz r33)), (0, rr K 98), (1, .int (iz x1)), (2, .int (iz x2)), (3, .int (iz x3))]) dX10_act_117 (by decide) rfl ?_
              refine zV_aloadr_n (pc := 119) dX10_act_119 rfl 1 rfl ?_
              refine zV_getI (pc := 120) (kz := 55) dX10_act_120 zfX10_387 rfl rfl rfl ?_
              refine zV_if_eq (pc := 123) (tgt := 131) dX10_act_123 (by decide) (hm34 _ _) (fun c35 => ?_) (fun c35 => ?_)
              · skip
                replace h := h.1 c35
                refine zV_iload (pc := 131) dX10_act_131 0 rfl ?_
                exact zV_iret (pc := 133) rfl dX10_act_133 hr33 h
              · skip
                replace h := h.2 c35
                refine zV_bipush (pc := 126) dX10_act_126 (by decide) ?_
                refine zV_goto (pc := 128) (tgt := 133) dX10_act_128 (by decide) ?_
                exact zV_iret (pc := 133) rfl dX10_act_133 (inRd rfl) h
            · replace c32 := Classical.not_not.mp c32
              replace h := h.1 c32
              refine zV_aloadr_n (pc := 104) dX10_act_104 rfl 0 rfl ?_
              refine zV_iload_n (pc := 105) dX10_act_105 rfl 3 rfl ?_
              refine zV_callV (pc := 106) (mc := mX10_partsIt) (As := [.int (iz x3)]) (rest := []) dX10_act_106 zcX10_397 ziX10_partsIt zsX10_partsIt rfl rfl rfl rfl (Nat.le_of_ble_eq_true rfl) h (fun r36 m37 hr36 h => zV_ok (fun hm37 => ?_))
              replace h := h hr36 hm37
              refine zV_goto (pc := 109) (tgt := 117) dX10_act_109 (by decide) ?_
              refine zV_istore (pc := 117) (loc' := [(4, .int (iz r36)), (0, rr K 98), (1, .int (iz x1)), (2, .int (iz x2)), (3, .int (iz x3))]) dX10_act_117 (by decide) rfl ?_
              refine zV_aloadr_n (pc := 119) dX10_act_119 rfl 1 rfl ?_
              refine zV_getI (pc := 120) (kz := 55) dX10_act_120 zfX10_387 rfl rfl rfl ?_
              refine zV_if_eq (pc := 123) (tgt := 131) dX10_act_123 (by decide) (hm37 _ _) (fun c38 => ?_) (fun c38 => ?_)
              · skip
                replace h := h.1 c38
                refine zV_iload (pc := 131) dX10_act_131 0 rfl ?_
                exact zV_iret (pc := 133) rfl dX10_act_133 hr36 h
              · skip
                replace h := h.2 c38
                refine zV_bipush (pc := 126) dX10_act_126 (by decide) ?_
                refine zV_goto (pc := 128) (tgt := 133) dX10_act_128 (by decide) ?_
                exact zV_iret (pc := 133) rfl dX10_act_133 (inRd rfl) h
          · replace c31 := Classical.not_not.mp c31
            replace h := h.1 c31
            refine zV_aloadr_n (pc := 91) dX10_act_91 rfl 0 rfl ?_
            refine zV_iload_n (pc := 92) dX10_act_92 rfl 3 rfl ?_
            refine zV_callV (pc := 93) (mc := mX10_restsIt) (As := [.int (iz x3)]) (rest := []) dX10_act_93 zcX10_391 ziX10_restsIt zsX10_restsIt rfl rfl rfl rfl (Nat.le_of_ble_eq_true rfl) h (fun r39 m40 hr39 h => zV_ok (fun hm40 => ?_))
            replace h := h hr39 hm40
            refine zV_goto (pc := 96) (tgt := 117) dX10_act_96 (by decide) ?_
            refine zV_istore (pc := 117) (loc' := [(4, .int (iz r39)), (0, rr K 98), (1, .int (iz x1)), (2, .int (iz x2)), (3, .int (iz x3))]) dX10_act_117 (by decide) rfl ?_
            refine zV_aloadr_n (pc := 119) dX10_act_119 rfl 1 rfl ?_
            refine zV_getI (pc := 120) (kz := 55) dX10_act_120 zfX10_387 rfl rfl rfl ?_
            refine zV_if_eq (pc := 123) (tgt := 131) dX10_act_123 (by decide) (hm40 _ _) (fun c41 => ?_) (fun c41 => ?_)
            · skip
              replace h := h.1 c41
              refine zV_iload (pc := 131) dX10_act_131 0 rfl ?_
              exact zV_iret (pc := 133) rfl dX10_act_133 hr39 h
            · skip
              replace h := h.2 c41
              refine zV_bipush (pc := 126) dX10_act_126 (by decide) ?_
              refine zV_goto (pc := 128) (tgt := 133) dX10_act_128 (by decide) ?_
              exact zV_iret (pc := 133) rfl dX10_act_133 (inRd rfl) h
        · replace c30 := Classical.not_not.mp c30
          replace h := h.1 c30
          refine zV_aloadr_n (pc := 78) dX10_act_78 rfl 0 rfl ?_
          refine zV_iload_n (pc := 79) dX10_act_79 rfl 3 rfl ?_
          refine zV_callV (pc := 80) (mc := mX10_flowsIt) (As := [.int (iz x3)]) (rest := []) dX10_act_80 zcX10_378 ziX10_flowsIt zsX10_flowsIt rfl rfl rfl rfl (Nat.le_of_ble_eq_true rfl) h (fun r42 m43 hr42 h => zV_ok (fun hm43 => ?_))
          replace h := h hr42 hm43
          refine zV_goto (pc := 83) (tgt := 117) dX10_act_83 (by decide) ?_
          refine zV_istore (pc := 117) (loc' := [(4, .int (iz r42)), (0, rr K 98), (1, .int (iz x1)), (2, .int (iz x2)), (3, .int (iz x3))]) dX10_act_117 (by decide) rfl ?_
          refine zV_aloadr_n (pc := 119) dX10_act_119 rfl 1 rfl ?_
          refine zV_getI (pc := 120) (kz := 55) dX10_act_120 zfX10_387 rfl rfl rfl ?_
          refine zV_if_eq (pc := 123) (tgt := 131) dX10_act_123 (by decide) (hm43 _ _) (fun c44 => ?_) (fun c44 => ?_)
          · skip
            replace h := h.1 c44
            refine zV_iload (pc := 131) dX10_act_131 0 rfl ?_
            exact zV_iret (pc := 133) rfl dX10_act_133 hr42 h
          · skip
            replace h := h.2 c44
            refine zV_bipush (pc := 126) dX10_act_126 (by decide) ?_
            refine zV_goto (pc := 128) (tgt := 133) dX10_act_128 (by decide) ?_
            exact zV_iret (pc := 133) rfl dX10_act_133 (inRd rfl) h
      · replace c13 := b2i_fn c13
        replace h := h.2 c13
        refine zV_iconst (pc := 35) dX10_act_35 ?_
        exact zV_iret (pc := 36) rfl dX10_act_36 (inRd rfl) h

set_option maxRecDepth 100000 in
set_option maxHeartbeats 4000000 in
theorem vc_X10_trace_0 {K : zCx} {d : Nat} (x1 : Int) (m0 : zM) {Q : Int → zM → Prop} (hx1 : inR x1) (h : zok m0 → inR ((m0.1 98 54) - 1) ∧ (((0 ≤ x1 ∧ x1 ≤ ((m0.1 98 54) - 1)) → 0 ≤ x1 ∧ x1 < 30 ∧ (Q (m0.1 128 x1) m0)) ∧ (¬ ((0 ≤ x1 ∧ x1 ≤ ((m0.1 98 54) - 1))) → Q (-3) m0))) : zV K mX10_trace (d + 2) 0 [(0, rr K 98), (1, .int (iz x1))] [] m0 Q := by
  refine zV_ok (fun hm0 => ?_)
  replace h := h hm0
  refine zV_iload_n (pc := 0) dX10_trace_0 rfl 1 rfl ?_
  refine zV_iconst (pc := 1) dX10_trace_1 ?_
  refine zV_aloadr_n (pc := 2) dX10_trace_2 rfl 0 rfl ?_
  refine zV_getI (pc := 3) (kz := 54) dX10_trace_3 zfX10_366 rfl rfl rfl ?_
  refine zV_iconst (pc := 6) dX10_trace_6 ?_
  refine zV_isub (pc := 7) dX10_trace_7 ?_
  obtain ⟨o1, h⟩ := h
  refine zV_callSf (pc := 8) (mc := mX10_in) (As := [.int (iz x1), .int (iz 0), .int (iz ((m0.1 98 54) - 1))]) (rest := []) dX10_trace_8 zcX10_114 ztX10_in rfl rfl (Nat.le_of_ble_eq_true rfl) (c_X10_in hx1 (inRd rfl) o1) (fun hr2 => ?_)
  refine zV_if_eq (pc := 11) (tgt := 23) dX10_trace_11 (by decide) (inR_b2i _) (fun c4 => ?_) (fun c4 => ?_)
  · replace c4 := b2i_fp c4
    replace h := h.2 c4
    refine zV_bipush (pc := 23) dX10_trace_23 (by decide) ?_
    exact zV_iret (pc := 25) rfl dX10_trace_25 (inRd rfl) h
  · replace c4 := b2i_tp c4
    replace h := h.1 c4
    refine zV_aloadr_n (pc := 14) dX10_trace_14 rfl 0 rfl ?_
    refine zV_getR (pc := 15) (b := 128) dX10_trace_15 zfX10_102 rfl rfl rfl ?_
    refine zV_iload_n (pc := 18) dX10_trace_18 rfl 1 rfl ?_
    obtain ⟨o5, o6, h⟩ := h
    refine zV_iald (pc := 19) dX10_trace_19 rfl o5 o6 (inR_ix o5 o6 rfl) ?_
    refine zV_goto (pc := 20) (tgt := 25) dX10_trace_20 (by decide) ?_
    exact zV_iret (pc := 25) rfl dX10_trace_25 (hm0 _ _) h

set_option maxRecDepth 100000 in
set_option maxHeartbeats 4000000 in
theorem vc_X10_many_0 {K : zCx} {d : Nat} (x1 : Int) (m0 : zM) {Q : Int → zM → Prop} (hx1 : inR x1) (h : zok m0 → (x1 = 0 → Q (m0.1 98 4) m0) ∧ (x1 = 1 → Q (m0.1 98 2) m0) ∧ (x1 = 2 → Q (m0.1 98 10) m0) ∧ (x1 = 3 → zCt K (d + 1) mX10_openMany [rr K 98] m0 (fun r2 m3 => inR r2 → zok m3 → Q r2 m3)) ∧ (x1 = 4 → Q (m0.1 98 7) m0) ∧ (x1 = 5 → Q (m0.1 98 42) m0) ∧ (x1 = 6 → Q (m0.1 98 23) m0) ∧ (x1 = 7 → Q (m0.1 98 54) m0) ∧ (x1 = 8 → Q (m0.1 98 0) m0) ∧ (x1 = 9 → Q (m0.1 98 1) m0) ∧ (x1 = 10 → zV K mX10_many (d + 2) 114 [(0, rr K 98), (2, .int (iz 0)), (3, .int (iz 0))] [] m0 Q) ∧ ((x1 < 0 ∨ 10 < x1) → Q (-1) m0)) : zV K mX10_many (d + 2) 0 [(0, rr K 98), (1, .int (iz x1))] [] m0 Q := by
  refine zV_ok (fun hm0 => ?_)
  replace h := h hm0
  refine zV_iload_n (pc := 0) dX10_many_0 rfl 1 rfl ?_
  have c1 : x1 = 0 ∨ x1 = 1 ∨ x1 = 2 ∨ x1 = 3 ∨ x1 = 4 ∨ x1 = 5 ∨ x1 = 6 ∨ x1 = 7 ∨ x1 = 8 ∨ x1 = 9 ∨ x1 = 10 ∨ (x1 < 0 ∨ 10 < x1) := by omega
  rcases c1 with c1 | c1 | c1 | c1 | c1 | c1 | c1 | c1 | c1 | c1 | c1 | c1
  · refine zV_tswIn (pc := 1) (tgt := 60) (v := 0) dX10_many_1 c1 (inRd rfl) (by decide) (by decide) rfl (by decide) ?_
    replace h := h.1 c1
    refine zV_aloadr_n (pc := 60) dX10_many_60 rfl 0 rfl ?_
    refine zV_getI (pc := 61) (kz := 4) dX10_many_61 zfX10_111 rfl rfl rfl ?_
    exact zV_iret (pc := 64) rfl dX10_many_64 (hm0 _ _) h
  · refine zV_tswIn (pc := 1) (tgt := 65) (v := 1) dX10_many_1 c1 (inRd rfl) (by decide) (by decide) rfl (by decide) ?_
    replace h := h.2.1 c1
    refine zV_aloadr_n (pc := 65) dX10_many_65 rfl 0 rfl ?_
    refine zV_getI (pc := 66) (kz := 2) dX10_many_66 zfX10_128 rfl rfl rfl ?_
    exact zV_iret (pc := 69) rfl dX10_many_69 (hm0 _ _) h
  · refine zV_tswIn (pc := 1) (tgt := 70) (v := 2) dX10_many_1 c1 (inRd rfl) (by decide) (by decide) rfl (by decide) ?_
    replace h := h.2.2.1 c1
    refine zV_aloadr_n (pc := 70) dX10_many_70 rfl 0 rfl ?_
    refine zV_getI (pc := 71) (kz := 10) dX10_many_71 zfX10_296 rfl rfl rfl ?_
    exact zV_iret (pc := 74) rfl dX10_many_74 (hm0 _ _) h
  · refine zV_tswIn (pc := 1) (tgt := 75) (v := 3) dX10_many_1 c1 (inRd rfl) (by decide) (by decide) rfl (by decide) ?_
    replace h := h.2.2.2.1 c1
    refine zV_aloadr_n (pc := 75) dX10_many_75 rfl 0 rfl ?_
    refine zV_callV (pc := 76) (mc := mX10_openMany) (As := []) (rest := []) dX10_many_76 zcX10_318 ziX10_openMany zsX10_openMany rfl rfl rfl rfl (Nat.le_of_ble_eq_true rfl) h (fun r2 m3 hr2 h => zV_ok (fun hm3 => ?_))
    replace h := h hr2 hm3
    exact zV_iret (pc := 79) rfl dX10_many_79 hr2 h
  · refine zV_tswIn (pc := 1) (tgt := 80) (v := 4) dX10_many_1 c1 (inRd rfl) (by decide) (by decide) rfl (by decide) ?_
    replace h := h.2.2.2.2.1 c1
    refine zV_aloadr_n (pc := 80) dX10_many_80 rfl 0 rfl ?_
    refine zV_getI (pc := 81) (kz := 7) dX10_many_81 zfX10_153 rfl rfl rfl ?_
    exact zV_iret (pc := 84) rfl dX10_many_84 (hm0 _ _) h
  · refine zV_tswIn (pc := 1) (tgt := 85) (v := 5) dX10_many_1 c1 (inRd rfl) (by decide) (by decide) rfl (by decide) ?_
    replace h := h.2.2.2.2.2.1 c1
    refine zV_aloadr_n (pc := 85) dX10_many_85 rfl 0 rfl ?_
    refine zV_getI (pc := 86) (kz := 42) dX10_many_86 zfX10_340 rfl rfl rfl ?_
    exact zV_iret (pc := 89) rfl dX10_many_89 (hm0 _ _) h
  · refine zV_tswIn (pc := 1) (tgt := 90) (v := 6) dX10_many_1 c1 (inRd rfl) (by decide) (by decide) rfl (by decide) ?_
    replace h := h.2.2.2.2.2.2.1 c1
    refine zV_aloadr_n (pc := 90) dX10_many_90 rfl 0 rfl ?_
    refine zV_getI (pc := 91) (kz := 23) dX10_many_91 zfX10_191 rfl rfl rfl ?_
    exact zV_iret (pc := 94) rfl dX10_many_94 (hm0 _ _) h
  · refine zV_tswIn (pc := 1) (tgt := 95) (v := 7) dX10_many_1 c1 (inRd rfl) (by decide) (by decide) rfl (by decide) ?_
    replace h := h.2.2.2.2.2.2.2.1 c1
    refine zV_aloadr_n (pc := 95) dX10_many_95 rfl 0 rfl ?_
    refine zV_getI (pc := 96) (kz := 54) dX10_many_96 zfX10_366 rfl rfl rfl ?_
    exact zV_iret (pc := 99) rfl dX10_many_99 (hm0 _ _) h
  · refine zV_tswIn (pc := 1) (tgt := 100) (v := 8) dX10_many_1 c1 (inRd rfl) (by decide) (by decide) rfl (by decide) ?_
    replace h := h.2.2.2.2.2.2.2.2.1 c1
    refine zV_aloadr_n (pc := 100) dX10_many_100 rfl 0 rfl ?_
    refine zV_getI (pc := 101) (kz := 0) dX10_many_101 zfX10_7 rfl rfl rfl ?_
    exact zV_iret (pc := 104) rfl dX10_many_104 (hm0 _ _) h
  · refine zV_tswIn (pc := 1) (tgt := 105) (v := 9) dX10_many_1 c1 (inRd rfl) (by decide) (by decide) rfl (by decide) ?_
    replace h := h.2.2.2.2.2.2.2.2.2.1 c1
    refine zV_aloadr_n (pc := 105) dX10_many_105 rfl 0 rfl ?_
    refine zV_getI (pc := 106) (kz := 1) dX10_many_106 zfX10_159 rfl rfl rfl ?_
    exact zV_iret (pc := 109) rfl dX10_many_109 (hm0 _ _) h
  · refine zV_tswIn (pc := 1) (tgt := 110) (v := 10) dX10_many_1 c1 (inRd rfl) (by decide) (by decide) rfl (by decide) ?_
    replace h := h.2.2.2.2.2.2.2.2.2.2.1 c1
    refine zV_iconst (pc := 110) dX10_many_110 ?_
    refine zV_istore_n (pc := 111) (loc' := [(2, .int (iz 0)), (0, rr K 98), (1, .int (iz x1))]) dX10_many_111 rfl (by decide) rfl ?_
    refine zV_iconst (pc := 112) dX10_many_112 ?_
    refine zV_istore_n (pc := 113) (loc' := [(3, .int (iz 0)), (2, .int (iz 0)), (0, rr K 98), (1, .int (iz x1))]) dX10_many_113 rfl (by decide) rfl ?_
    exact zV_sub [2, 1, 0] rfl h
  · refine zV_tswOut (pc := 1) (tgt := 147) dX10_many_1 hx1 c1 (by decide) ?_
    replace h := h.2.2.2.2.2.2.2.2.2.2.2 c1
    refine zV_iconst (pc := 147) dX10_many_147 ?_
    exact zV_iret (pc := 148) rfl dX10_many_148 (inRd rfl) h
set_option maxRecDepth 100000 in
set_option maxHeartbeats 4000000 in
theorem vc_X10_many_114 {K : zCx} {d : Nat} (x2 : Int) (x3 : Int) (m0 : zM) {Q : Int → zM → Prop} (hx2 : inR x2) (hx3 : inR x3) (h : zok m0 → ((m0.1 98 4) ≤ x3 → Q x2 m0) ∧ (¬ ((m0.1 98 4) ≤ x3) → (0 ≤ 10 * x3 + 4) ∧ ((10 * x3 + 4 < 100) ∧ (∀ v6 : Int, v6 = (if (m0.1 100 (10 * x3 + 4)) ≤ 0 then 0 else 1) → (∀ v8 : Int, v8 = (x2 + v6) → (zV K mX10_many (d + 2) 114 [(0, rr K 98), (2, .int (iz v8)), (3, .int (iz (x3 + 1)))] [] m0 Q)))))) : zV K mX10_many (d + 2) 114 [(0, rr K 98), (2, .int (iz x2)), (3, .int (iz x3))] [] m0 Q := by
  refine zV_ok (fun hm0 => ?_)
  replace h := h hm0
  refine zV_iload_n (pc := 114) dX10_many_114 rfl 2 rfl ?_
  refine zV_aloadr_n (pc := 115) dX10_many_115 rfl 0 rfl ?_
  refine zV_getI (pc := 116) (kz := 4) dX10_many_116 zfX10_111 rfl rfl rfl ?_
  refine zV_icmp_ge (pc := 119) (tgt := 145) dX10_many_119 (by decide) hx3 (hm0 _ _) (fun c1 => ?_) (fun c1 => ?_)
  · skip
    replace h := h.1 c1
    refine zV_iload_n (pc := 145) dX10_many_145 rfl 1 rfl ?_
    exact zV_iret (pc := 146) rfl dX10_many_146 hx2 h
  · skip
    replace h := h.2 c1
    refine zV_iload_n (pc := 122) dX10_many_122 rfl 1 rfl ?_
    refine zV_aloadr_n (pc := 123) dX10_many_123 rfl 0 rfl ?_
    refine zV_iload_n (pc := 124) dX10_many_124 rfl 2 rfl ?_
    refine zV_iconst (pc := 125) dX10_many_125 ?_
    obtain ⟨o2, h⟩ := h
    obtain ⟨o3, h⟩ := h
    refine zV_callVf (pc := 126) (mc := mX10_its) (As := [.int (iz x3), .int (iz 4)]) (rest := [.int (iz x2)]) dX10_many_126 zcX10_137 ziX10_its zsX10_its rfl rfl rfl rfl (Nat.le_of_ble_eq_true rfl) (c_X10_its (inRd rfl) hx3 hm0 o2 o3) (fun hr4 => ?_)
    have key : ∀ v6 : Int, v6 = (if (m0.1 100 (10 * x3 + 4)) ≤ 0 then 0 else 1) → zV K mX10_many (d + 2) 137 [(0, rr K 98), (3, .int (iz x3))] [.int (iz v6), .int (iz x2)] m0 Q := by
      intro v6 e7
      replace h := h v6 e7
      have hrv6 : inR v6 := by rw [e7]; (repeat' split) <;> first | with_reducible exact (inRd rfl)
      refine zV_iadd (pc := 137) dX10_many_137 ?_
      refine zV_name (fun v8 e9 => ?_)
      replace h := h v8 e9
      refine zV_istore_n (pc := 138) (loc' := [(2, .int (iz v8)), (0, rr K 98), (3, .int (iz x3))]) dX10_many_138 rfl (by decide) rfl ?_
      refine zV_iinc (pc := 139) (loc' := [(3, .int (iz (x3 + 1))), (2, .int (iz v8)), (0, rr K 98)]) dX10_many_139 2 rfl (by decide) rfl ?_
      refine zV_goto (pc := 142) (tgt := 114) dX10_many_142 (by decide) ?_
      exact zV_sub [2, 1, 0] rfl h
    refine zV_if_le (pc := 129) (tgt := 136) dX10_many_129 (by decide) hr4 (fun c10 => ?_) (fun c10 => ?_)
    · skip
      refine zV_iconst (pc := 136) dX10_many_136 ?_
      exact zV_sub [0, 2] rfl (key _ (if_pos c10).symm)
    · skip
      refine zV_iconst (pc := 132) dX10_many_132 ?_
      refine zV_goto (pc := 133) (tgt := 137) dX10_many_133 (by decide) ?_
      exact zV_sub [0, 2] rfl (key _ (if_neg c10).symm)

set_option maxRecDepth 100000 in
set_option maxHeartbeats 4000000 in
theorem vc_X10_move_0 {K : zCx} {d : Nat} (a1 : Int) (n1 : Nat) (x2 : Int) (x3 : Int) (m0 : zM) {Q : Int → zM → Prop} (ha1 : zsh a1 = some (0, n1)) (hx2 : inR x2) (hx3 : inR x3) (h : zok m0 → zV K mX10_move (d + 1) 3 [(0, rr K 98), (1, rr K a1), (2, .int (iz x2)), (3, .int (iz x3)), (4, .int (iz 0))] [] m0 Q) : zV K mX10_move (d + 1) 0 [(0, rr K 98), (1, rr K a1), (2, .int (iz x2)), (3, .int (iz x3))] [] m0 Q := by
  refine zV_ok (fun hm0 => ?_)
  replace h := h hm0
  refine zV_iconst (pc := 0) dX10_move_0 ?_
  refine zV_istore (pc := 1) (loc' := [(4, .int (iz 0)), (0, rr K 98), (1, rr K a1), (2, .int (iz x2)), (3, .int (iz x3))]) dX10_move_1 (by decide) rfl ?_
  exact zV_sub [1, 2, 3, 4, 0] rfl h
set_option maxRecDepth 100000 in
set_option maxHeartbeats 4000000 in
theorem vc_X10_move_3 {K : zCx} {d : Nat} (x2 : Int) (x3 : Int) (x4 : Int) (a1 : Int) (n1 : Nat) (m0 : zM) {Q : Int → zM → Prop} (hx2 : inR x2) (hx3 : inR x3) (hx4 : inR x4) (ha1 : zsh a1 = some (0, n1)) (h : zok m0 → (x2 ≤ x4 → Q 0 m0) ∧ (¬ (x2 ≤ x4) → (x3 = 0 → 0 ≤ (m0.1 98 58) ∧ (m0.1 98 58) < 500 ∧ (0 ≤ x4 ∧ x4 < (n1 : Int) ∧ (∀ m7 : zM, m7 = sI m0 a1 x4 (m0.1 129 (m0.1 98 58)) → zok m7 → (inR ((m7.1 98 58) + 1) ∧ (∀ m10 : zM, m10 = sI m7 98 58 ((m7.1 98 58) + 1) → zok m10 → (zV K mX10_move (d + 1) 3 [(0, rr K 98), (1, rr K a1), (2, .int (iz x2)), (3, .int (iz x3)), (4, .int (iz (x4 + 1)))] [] m10 Q)))))) ∧ (¬ (x3 = 0) → 0 ≤ x4 ∧ x4 < (n1 : Int) ∧ (0 ≤ (m0.1 98 58) ∧ (m0.1 98 58) < 500 ∧ (∀ m16 : zM, m16 = sI m0 129 (m0.1 98 58) (m0.1 a1 x4) → zok m16 → (inR ((m16.1 98 58) + 1) ∧ (∀ m19 : zM, m19 = sI m16 98 58 ((m16.1 98 58) + 1) → zok m19 → (zV K mX10_move (d + 1) 3 [(0, rr K 98), (1, rr K a1), (2, .int (iz x2)), (3, .int (iz x3)), (4, .int (iz (x4 + 1)))] [] m19 Q)))))))) : zV K mX10_move (d + 1) 3 [(0, rr K 98), (1, rr K a1), (2, .int (iz x2)), (3, .int (iz x3)), (4, .int (iz x4))] [] m0 Q := by
  refine zV_ok (fun hm0 => ?_)
  replace h := h hm0
  refine zV_iload (pc := 3) dX10_move_3 4 rfl ?_
  refine zV_iload_n (pc := 5) dX10_move_5 rfl 2 rfl ?_
  refine zV_icmp_ge (pc := 6) (tgt := 58) dX10_move_6 (by decide) hx4 hx2 (fun c1 => ?_) (fun c1 => ?_)
  · skip
    replace h := h.1 c1
    exact zV_vret (pc := 58) rfl dX10_move_58 h
  · skip
    replace h := h.2 c1
    refine zV_iload_n (pc := 9) dX10_move_9 rfl 3 rfl ?_
    refine zV_if_eq (pc := 10) (tgt := 29) dX10_move_10 (by decide) hx3 (fun c2 => ?_) (fun c2 => ?_)
    · skip
      replace h := h.1 c2
      refine zV_aloadr_n (pc := 29) dX10_move_29 rfl 1 rfl ?_
      refine zV_iload (pc := 30) dX10_move_30 4 rfl ?_
      refine zV_aloadr_n (pc := 32) dX10_move_32 rfl 0 rfl ?_
      refine zV_getR (pc := 33) (b := 129) dX10_move_33 zfX10_105 rfl rfl rfl ?_
      refine zV_aloadr_n (pc := 36) dX10_move_36 rfl 0 rfl ?_
      refine zV_getI (pc := 37) (kz := 58) dX10_move_37 zfX10_403 rfl rfl rfl ?_
      obtain ⟨o3, o4, h⟩ := h
      refine zV_iald (pc := 40) dX10_move_40 rfl o3 o4 (inR_ix o3 o4 rfl) ?_
      obtain ⟨o5, o6, h⟩ := h
      refine zV_iast (pc := 41) dX10_move_41 ha1 o5 o6 hx4 (hm0 _ _) ?_
      refine zV_mem (fun m7 e8 => zV_ok (fun hm7 => ?_))
      replace h := h m7 e8 hm7
      refine zV_aloadr_n (pc := 42) dX10_move_42 rfl 0 rfl ?_
      refine zV_dup (pc := 43) dX10_move_43 rfl ?_
      refine zV_getI (pc := 44) (kz := 58) dX10_move_44 zfX10_403 rfl rfl rfl ?_
      refine zV_iconst (pc := 47) dX10_move_47 ?_
      refine zV_iadd (pc := 48) dX10_move_48 ?_
      obtain ⟨o9, h⟩ := h
      refine zV_putI (pc := 49) (kz := 58) dX10_move_49 zpX10_403 rfl rfl rfl o9 rfl rfl ?_
      refine zV_mem (fun m10 e11 => zV_ok (fun hm10 => ?_))
      replace h := h m10 e11 hm10
      refine zV_iinc (pc := 52) (loc' := [(4, .int (iz (x4 + 1))), (0, rr K 98), (1, rr K a1), (2, .int (iz x2)), (3, .int (iz x3))]) dX10_move_52 4 rfl (by decide) rfl ?_
      refine zV_goto (pc := 55) (tgt := 3) dX10_move_55 (by decide) ?_
      exact zV_sub [1, 2, 3, 4, 0] rfl h
    · skip
      replace h := h.2 c2
      refine zV_aloadr_n (pc := 13) dX10_move_13 rfl 0 rfl ?_
      refine zV_getR (pc := 14) (b := 129) dX10_move_14 zfX10_105 rfl rfl rfl ?_
      refine zV_aloadr_n (pc := 17) dX10_move_17 rfl 0 rfl ?_
      refine zV_getI (pc := 18) (kz := 58) dX10_move_18 zfX10_403 rfl rfl rfl ?_
      refine zV_aloadr_n (pc := 21) dX10_move_21 rfl 1 rfl ?_
      refine zV_iload (pc := 22) dX10_move_22 4 rfl ?_
      obtain ⟨o12, o13, h⟩ := h
      refine zV_iald (pc := 24) dX10_move_24 ha1 o12 o13 hx4 ?_
      obtain ⟨o14, o15, h⟩ := h
      refine zV_iast (pc := 25) dX10_move_25 rfl o14 o15 (inR_ix o14 o15 rfl) (hm0 _ _) ?_
      refine zV_mem (fun m16 e17 => zV_ok (fun hm16 => ?_))
      replace h := h m16 e17 hm16
      refine zV_goto (pc := 26) (tgt := 42) dX10_move_26 (by decide) ?_
      refine zV_aloadr_n (pc := 42) dX10_move_42 rfl 0 rfl ?_
      refine zV_dup (pc := 43) dX10_move_43 rfl ?_
      refine zV_getI (pc := 44) (kz := 58) dX10_move_44 zfX10_403 rfl rfl rfl ?_
      refine zV_iconst (pc := 47) dX10_move_47 ?_
      refine zV_iadd (pc := 48) dX10_move_48 ?_
      obtain ⟨o18, h⟩ := h
      refine zV_putI (pc := 49) (kz := 58) dX10_move_49 zpX10_403 rfl rfl rfl o18 rfl rfl ?_
      refine zV_mem (fun m19 e20 => zV_ok (fun hm19 => ?_))
      replace h := h m19 e20 hm19
      refine zV_iinc (pc := 52) (loc' := [(4, .int (iz (x4 + 1))), (0, rr K 98), (1, rr K a1), (2, .int (iz x2)), (3, .int (iz x3))]) dX10_move_52 4 rfl (by decide) rfl ?_
      refine zV_goto (pc := 55) (tgt := 3) dX10_move_55 (by decide) ?_
      exact zV_sub [1, 2, 3, 4, 0] rfl h

set_option maxRecDepth 100000 in
set_option maxHeartbeats 4000000 in
theorem vc_X10_moveAll_0 {K : zCx} {d : Nat} (x1 : Int) (m0 : zM) {Q : Int → zM → Prop} (hx1 : inR x1) (h : zok m0 → ∀ m1 : zM, m1 = sI m0 98 58 0 → zok m1 → (∀ m3 : zM, m3 = sI m1 130 0 (m1.1 98 0) → zok m3 → (∀ m5 : zM, m5 = sI m3 130 1 (m3.1 98 1) → zok m5 → (∀ m7 : zM, m7 = sI m5 130 2 (m5.1 98 2) → zok m7 → (∀ m9 : zM, m9 = sI m7 130 3 (m7.1 98 4) → zok m9 → (∀ m11 : zM, m11 = sI m9 130 4 (m9.1 98 7) → zok m11 → (∀ m13 : zM, m13 = sI m11 130 5 (m11.1 98 10) → zok m13 → (zCt K (d + 1) mX10_move [rr K 98, rr K 130, .int (iz 6), .int (iz x1)] m13 (fun r15 m16 => inR r15 → zok m16 → zCt K (d + 1) mX10_move [rr K 98, rr K 99, .int (iz 84), .int (iz x1)] m16 (fun r17 m18 => inR r17 → zok m18 → zCt K (d + 1) mX10_move [rr K 98, rr K 100, .int (iz 100), .int (iz x1)] m18 (fun r19 m20 => inR r19 → zok m20 → zCt K (d + 1) mX10_move [rr K 98, rr K 101, .int (iz 20), .int (iz x1)] m20 (fun r21 m22 => inR r21 → zok m22 → zCt K (d + 1) mX10_move [rr K 98, rr K 102, .int (iz 12), .int (iz x1)] m22 (fun r23 m24 => inR r23 → zok m24 → zCt K (d + 1) mX10_move [rr K 98, rr K 103, .int (iz 3), .int (iz x1)] m24 (fun r25 m26 => inR r25 → zok m26 → zCt K (d + 1) mX10_move [rr K 98, rr K 104, .int (iz 8), .int (iz x1)] m26 (fun r27 m28 => inR r27 → zok m28 → zCt K (d + 1) mX10_move [rr K 98, rr K 105, .int (iz 230), .int (iz x1)] m28 (fun r29 m30 => inR r29 → zok m30 → Q 0 m30)))))))))))))))) : zV K mX10_moveAll (d + 2) 0 [(0, rr K 98), (1, .int (iz x1))] [] m0 Q := by
  refine zV_ok (fun hm0 => ?_)
  replace h := h hm0
  refine zV_aloadr_n (pc := 0) dX10_moveAll_0 rfl 0 rfl ?_
  refine zV_iconst (pc := 1) dX10_moveAll_1 ?_
  refine zV_putI (pc := 2) (kz := 58) dX10_moveAll_2 zpX10_403 rfl rfl rfl (inRd rfl) rfl rfl ?_
  refine zV_mem (fun m1 e2 => zV_ok (fun hm1 => ?_))
  replace h := h m1 e2 hm1
  refine zV_aloadr_n (pc := 5) dX10_moveAll_5 rfl 0 rfl ?_
  refine zV_getR (pc := 6) (b := 130) dX10_moveAll_6 zfX10_108 rfl rfl rfl ?_
  refine zV_iconst (pc := 9) dX10_moveAll_9 ?_
  refine zV_aloadr_n (pc := 10) dX10_moveAll_10 rfl 0 rfl ?_
  refine zV_getI (pc := 11) (kz := 0) dX10_moveAll_11 zfX10_7 rfl rfl rfl ?_
  refine zV_iast (pc := 14) dX10_moveAll_14 rfl (by decide) (by decide) (inRd rfl) (hm1 _ _) ?_
  refine zV_mem (fun m3 e4 => zV_ok (fun hm3 => ?_))
  replace h := h m3 e4 hm3
  refine zV_aloadr_n (pc := 15) dX10_moveAll_15 rfl 0 rfl ?_
  refine zV_getR (pc := 16) (b := 130) dX10_moveAll_16 zfX10_108 rfl rfl rfl ?_
  refine zV_iconst (pc := 19) dX10_moveAll_19 ?_
  refine zV_aloadr_n (pc := 20) dX10_moveAll_20 rfl 0 rfl ?_
  refine zV_getI (pc := 21) (kz := 1) dX10_moveAll_21 zfX10_159 rfl rfl rfl ?_
  refine zV_iast (pc := 24) dX10_moveAll_24 rfl (by decide) (by decide) (inRd rfl) (hm3 _ _) ?_
  refine zV_mem (fun m5 e6 => zV_ok (fun hm5 => ?_))
  replace h := h m5 e6 hm5
  refine zV_aloadr_n (pc := 25) dX10_moveAll_25 rfl 0 rfl ?_
  refine zV_getR (pc := 26) (b := 130) dX10_moveAll_26 zfX10_108 rfl rfl rfl ?_
  refine zV_iconst (pc := 29) dX10_moveAll_29 ?_
  refine zV_aloadr_n (pc := 30) dX10_moveAll_30 rfl 0 rfl ?_
  refine zV_getI (pc := 31) (kz := 2) dX10_moveAll_31 zfX10_128 rfl rfl rfl ?_
  refine zV_iast (pc := 34) dX10_moveAll_34 rfl (by decide) (by decide) (inRd rfl) (hm5 _ _) ?_
  refine zV_mem (fun m7 e8 => zV_ok (fun hm7 => ?_))
  replace h := h m7 e8 hm7
  refine zV_aloadr_n (pc := 35) dX10_moveAll_35 rfl 0 rfl ?_
  refine zV_getR (pc := 36) (b := 130) dX10_moveAll_36 zfX10_108 rfl rfl rfl ?_
  refine zV_iconst (pc := 39) dX10_moveAll_39 ?_
  refine zV_aloadr_n (pc := 40) dX10_moveAll_40 rfl 0 rfl ?_
  refine zV_getI (pc := 41) (kz := 4) dX10_moveAll_41 zfX10_111 rfl rfl rfl ?_
  refine zV_iast (pc := 44) dX10_moveAll_44 rfl (by decide) (by decide) (inRd rfl) (hm7 _ _) ?_
  refine zV_mem (fun m9 e10 => zV_ok (fun hm9 => ?_))
  replace h := h m9 e10 hm9
  refine zV_aloadr_n (pc := 45) dX10_moveAll_45 rfl 0 rfl ?_
  refine zV_getR (pc := 46) (b := 130) dX10_moveAll_46 zfX10_108 rfl rfl rfl ?_
  refine zV_iconst (pc := 49) dX10_moveAll_49 ?_
  refine zV_aloadr_n (pc := 50) dX10_moveAll_50 rfl 0 rfl ?_
  refine zV_getI (pc := 51) (kz := 7) dX10_moveAll_51 zfX10_153 rfl rfl rfl ?_
  refine zV_iast (pc := 54) dX10_moveAll_54 rfl (by decide) (by decide) (inRd rfl) (hm9 _ _) ?_
  refine zV_mem (fun m11 e12 => zV_ok (fun hm11 => ?_))
  replace h := h m11 e12 hm11
  refine zV_aloadr_n (pc := 55) dX10_moveAll_55 rfl 0 rfl ?_
  refine zV_getR (pc := 56) (b := 130) dX10_moveAll_56 zfX10_108 rfl rfl rfl ?_
  refine zV_iconst (pc := 59) dX10_moveAll_59 ?_
  refine zV_aloadr_n (pc := 60) dX10_moveAll_60 rfl 0 rfl ?_
  refine zV_getI (pc := 61) (kz := 10) dX10_moveAll_61 zfX10_296 rfl rfl rfl ?_
  refine zV_iast (pc := 64) dX10_moveAll_64 rfl (by decide) (by decide) (inRd rfl) (hm11 _ _) ?_
  refine zV_mem (fun m13 e14 => zV_ok (fun hm13 => ?_))
  replace h := h m13 e14 hm13
  refine zV_aloadr_n (pc := 65) dX10_moveAll_65 rfl 0 rfl ?_
  refine zV_aloadr_n (pc := 66) dX10_moveAll_66 rfl 0 rfl ?_
  refine zV_getR (pc := 67) (b := 130) dX10_moveAll_67 zfX10_108 rfl rfl rfl ?_
  refine zV_bipush (pc := 70) dX10_moveAll_70 (by decide) ?_
  refine zV_iload_n (pc := 72) dX10_moveAll_72 rfl 1 rfl ?_
  refine zV_callV (pc := 73) (mc := mX10_move) (As := [rr K 130, .int (iz 6), .int (iz x1)]) (rest := []) dX10_moveAll_73 zcX10_406 ziX10_move zsX10_move rfl rfl rfl rfl (Nat.le_of_ble_eq_true rfl) h (fun r15 m16 hr15 h => zV_ok (fun hm16 => ?_))
  replace h := h hr15 hm16
  refine zV_aloadr_n (pc := 76) dX10_moveAll_76 rfl 0 rfl ?_
  refine zV_aloadr_n (pc := 77) dX10_moveAll_77 rfl 0 rfl ?_
  refine zV_getR (pc := 78) (b := 99) dX10_moveAll_78 zfX10_13 rfl rfl rfl ?_
  refine zV_bipush (pc := 81) dX10_moveAll_81 (by decide) ?_
  refine zV_iload_n (pc := 83) dX10_moveAll_83 rfl 1 rfl ?_
  refine zV_callV (pc := 84) (mc := mX10_move) (As := [rr K 99, .int (iz 84), .int (iz x1)]) (rest := []) dX10_moveAll_84 zcX10_406 ziX10_move zsX10_move rfl rfl rfl rfl (Nat.le_of_ble_eq_true rfl) h (fun r17 m18 hr17 h => zV_ok (fun hm18 => ?_))
  replace h := h hr17 hm18
  refine zV_aloadr_n (pc := 87) dX10_moveAll_87 rfl 0 rfl ?_
  refine zV_aloadr_n (pc := 88) dX10_moveAll_88 rfl 0 rfl ?_
  refine zV_getR (pc := 89) (b := 100) dX10_moveAll_89 zfX10_17 rfl rfl rfl ?_
  refine zV_bipush (pc := 92) dX10_moveAll_92 (by decide) ?_
  refine zV_iload_n (pc := 94) dX10_moveAll_94 rfl 1 rfl ?_
  refine zV_callV (pc := 95) (mc := mX10_move) (As := [rr K 100, .int (iz 100), .int (iz x1)]) (rest := []) dX10_moveAll_95 zcX10_406 ziX10_move zsX10_move rfl rfl rfl rfl (Nat.le_of_ble_eq_true rfl) h (fun r19 m20 hr19 h => zV_ok (fun hm20 => ?_))
  replace h := h hr19 hm20
  refine zV_aloadr_n (pc := 98) dX10_moveAll_98 rfl 0 rfl ?_
  refine zV_aloadr_n (pc := 99) dX10_moveAll_99 rfl 0 rfl ?_
  refine zV_getR (pc := 100) (b := 101) dX10_moveAll_100 zfX10_20 rfl rfl rfl ?_
  refine zV_bipush (pc := 103) dX10_moveAll_103 (by decide) ?_
  refine zV_iload_n (pc := 105) dX10_moveAll_105 rfl 1 rfl ?_
  refine zV_callV (pc := 106) (mc := mX10_move) (As := [rr K 101, .int (iz 20), .int (iz x1)]) (rest := []) dX10_moveAll_106 zcX10_406 ziX10_move zsX10_move rfl rfl rfl rfl (Nat.le_of_ble_eq_true rfl) h (fun r21 m22 hr21 h => zV_ok (fun hm22 => ?_))
  replace h := h hr21 hm22
  refine zV_aloadr_n (pc := 109) dX10_moveAll_109 rfl 0 rfl ?_
  refine zV_aloadr_n (pc := 110) dX10_moveAll_110 rfl 0 rfl ?_
  refine zV_getR (pc := 111) (b := 102) dX10_moveAll_111 zfX10_23 rfl rfl rfl ?_
  refine zV_bipush (pc := 114) dX10_moveAll_114 (by decide) ?_
  refine zV_iload_n (pc := 116) dX10_moveAll_116 rfl 1 rfl ?_
  refine zV_callV (pc := 117) (mc := mX10_move) (As := [rr K 102, .int (iz 12), .int (iz x1)]) (rest := []) dX10_moveAll_117 zcX10_406 ziX10_move zsX10_move rfl rfl rfl rfl (Nat.le_of_ble_eq_true rfl) h (fun r23 m24 hr23 h => zV_ok (fun hm24 => ?_))
  replace h := h hr23 hm24
  refine zV_aloadr_n (pc := 120) dX10_moveAll_120 rfl 0 rfl ?_
  refine zV_aloadr_n (pc := 121) dX10_moveAll_121 rfl 0 rfl ?_
  refine zV_getR (pc := 122) (b := 103) dX10_moveAll_122 zfX10_26 rfl rfl rfl ?_
  refine zV_iconst (pc := 125) dX10_moveAll_125 ?_
  refine zV_iload_n (pc := 126) dX10_moveAll_126 rfl 1 rfl ?_
  refine zV_callV (pc := 127) (mc := mX10_move) (As := [rr K 103, .int (iz 3), .int (iz x1)]) (rest := []) dX10_moveAll_127 zcX10_406 ziX10_move zsX10_move rfl rfl rfl rfl (Nat.le_of_ble_eq_true rfl) h (fun r25 m26 hr25 h => zV_ok (fun hm26 => ?_))
  replace h := h hr25 hm26
  refine zV_aloadr_n (pc := 130) dX10_moveAll_130 rfl 0 rfl ?_
  refine zV_aloadr_n (pc := 131) dX10_moveAll_131 rfl 0 rfl ?_
  refine zV_getR (pc := 132) (b := 104) dX10_moveAll_132 zfX10_29 rfl rfl rfl ?_
  refine zV_bipush (pc := 135) dX10_moveAll_135 (by decide) ?_
  refine zV_iload_n (pc := 137) dX10_moveAll_137 rfl 1 rfl ?_
  refine zV_callV (pc := 138) (mc := mX10_move) (As := [rr K 104, .int (iz 8), .int (iz x1)]) (rest := []) dX10_moveAll_138 zcX10_406 ziX10_move zsX10_move rfl rfl rfl rfl (Nat.le_of_ble_eq_true rfl) h (fun r27 m28 hr27 h => zV_ok (fun hm28 => ?_))
  replace h := h hr27 hm28
  refine zV_aloadr_n (pc := 141) dX10_moveAll_141 rfl 0 rfl ?_
  refine zV_aloadr_n (pc := 142) dX10_moveAll_142 rfl 0 rfl ?_
  refine zV_getR (pc := 143) (b := 105) dX10_moveAll_143 zfX10_32 rfl rfl rfl ?_
  refine zV_sipush (pc := 146) dX10_moveAll_146 (by decide) ?_
  refine zV_iload_n (pc := 149) dX10_moveAll_149 rfl 1 rfl ?_
  refine zV_callV (pc := 150) (mc := mX10_move) (As := [rr K 105, .int (iz 230), .int (iz x1)]) (rest := []) dX10_moveAll_150 zcX10_406 ziX10_move zsX10_move rfl rfl rfl rfl (Nat.le_of_ble_eq_true rfl) h (fun r29 m30 hr29 h => zV_ok (fun hm30 => ?_))
  replace h := h hr29 hm30
  exact zV_vret (pc := 153) rfl dX10_moveAll_153 h

set_option maxRecDepth 100000 in
set_option maxHeartbeats 4000000 in
theorem vc_X10_keep_0 {K : zCx} {d : Nat}  (m0 : zM) {Q : Int → zM → Prop}  (h : zok m0 → zCt K (d + 2) mX10_moveAll [rr K 98, .int (iz 1)] m0 (fun r1 m2 => inR r1 → zok m2 → ∀ m3 : zM, m3 = sI m2 98 56 1 → zok m3 → (Q 1 m3))) : zV K mX10_keep (d + 3) 0 [(0, rr K 98)] [] m0 Q := by
  refine zV_ok (fun hm0 => ?_)
  replace h := h hm0
  refine zV_aloadr_n (pc := 0) dX10_keep_0 rfl 0 rfl ?_
  refine zV_iconst (pc := 1) dX10_keep_1 ?_
  refine zV_callV (pc := 2) (mc := mX10_moveAll) (As := [.int (iz 1)]) (rest := []) dX10_keep_2 zcX10_410 ziX10_moveAll zsX10_moveAll rfl rfl rfl rfl (Nat.le_of_ble_eq_true rfl) h (fun r1 m2 hr1 h => zV_ok (fun hm2 => ?_))
  replace h := h hr1 hm2
  refine zV_aloadr_n (pc := 5) dX10_keep_5 rfl 0 rfl ?_
  refine zV_iconst (pc := 6) dX10_keep_6 ?_
  refine zV_putI (pc := 7) (kz := 56) dX10_keep_7 zpX10_413 rfl rfl rfl (z01 (Or.inr rfl)).1 (z01 (Or.inr rfl)).2.1 (z01 (Or.inr rfl)).2.2 ?_
  refine zV_mem (fun m3 e4 => zV_ok (fun hm3 => ?_))
  replace h := h m3 e4 hm3
  refine zV_iconst (pc := 10) dX10_keep_10 ?_
  exact zV_iret (pc := 11) rfl dX10_keep_11 (inRd rfl) h

set_option maxRecDepth 100000 in
set_option maxHeartbeats 4000000 in
theorem vc_X10_again_0 {K : zCx} {d : Nat}  (m0 : zM) {Q : Int → zM → Prop}  (h : zok m0 → ((m0.1 98 56) = 0 → Q (-3) m0) ∧ (¬ ((m0.1 98 56) = 0) → zCt K (d + 2) mX10_moveAll [rr K 98, .int (iz 0)] m0 (fun r2 m3 => inR r2 → zok m3 → ∀ m4 : zM, m4 = sI m3 98 0 (m3.1 130 0) → zok m4 → (∀ m6 : zM, m6 = sI m4 98 1 (m4.1 130 1) → zok m6 → (∀ m8 : zM, m8 = sI m6 98 2 (m6.1 130 2) → zok m8 → (∀ m10 : zM, m10 = sI m8 98 4 (m8.1 130 3) → zok m10 → (∀ m12 : zM, m12 = sI m10 98 7 (m10.1 130 4) → zok m12 → (∀ m14 : zM, m14 = sI m12 98 10 (m12.1 130 5) → zok m14 → (Q 1 m14))))))))) : zV K mX10_again (d + 3) 0 [(0, rr K 98)] [] m0 Q := by
  refine zV_ok (fun hm0 => ?_)
  replace h := h hm0
  refine zV_aloadr_n (pc := 0) dX10_again_0 rfl 0 rfl ?_
  refine zV_getI (pc := 1) (kz := 56) dX10_again_1 zfX10_413 rfl rfl rfl ?_
  refine zV_if_ne (pc := 4) (tgt := 10) dX10_again_4 (by decide) (hm0 _ _) (fun c1 => ?_) (fun c1 => ?_)
  · skip
    replace h := h.2 c1
    refine zV_aloadr_n (pc := 10) dX10_again_10 rfl 0 rfl ?_
    refine zV_iconst (pc := 11) dX10_again_11 ?_
    refine zV_callV (pc := 12) (mc := mX10_moveAll) (As := [.int (iz 0)]) (rest := []) dX10_again_12 zcX10_410 ziX10_moveAll zsX10_moveAll rfl rfl rfl rfl (Nat.le_of_ble_eq_true rfl) h (fun r2 m3 hr2 h => zV_ok (fun hm3 => ?_))
    replace h := h hr2 hm3
    refine zV_aloadr_n (pc := 15) dX10_again_15 rfl 0 rfl ?_
    refine zV_aloadr_n (pc := 16) dX10_again_16 rfl 0 rfl ?_
    refine zV_getR (pc := 17) (b := 130) dX10_again_17 zfX10_108 rfl rfl rfl ?_
    refine zV_iconst (pc := 20) dX10_again_20 ?_
    refine zV_iald (pc := 21) dX10_again_21 rfl (by decide) (by decide) (inRd rfl) ?_
    refine zV_putI (pc := 22) (kz := 0) dX10_again_22 zpX10_7 rfl rfl rfl (hm3 _ _) rfl rfl ?_
    refine zV_mem (fun m4 e5 => zV_ok (fun hm4 => ?_))
    replace h := h m4 e5 hm4
    refine zV_aloadr_n (pc := 25) dX10_again_25 rfl 0 rfl ?_
    refine zV_aloadr_n (pc := 26) dX10_again_26 rfl 0 rfl ?_
    refine zV_getR (pc := 27) (b := 130) dX10_again_27 zfX10_108 rfl rfl rfl ?_
    refine zV_iconst (pc := 30) dX10_again_30 ?_
    refine zV_iald (pc := 31) dX10_again_31 rfl (by decide) (by decide) (inRd rfl) ?_
    refine zV_putI (pc := 32) (kz := 1) dX10_again_32 zpX10_159 rfl rfl rfl (hm4 _ _) rfl rfl ?_
    refine zV_mem (fun m6 e7 => zV_ok (fun hm6 => ?_))
    replace h := h m6 e7 hm6
    refine zV_aloadr_n (pc := 35) dX10_again_35 rfl 0 rfl ?_
    refine zV_aloadr_n (pc := 36) dX10_again_36 rfl 0 rfl ?_
    refine zV_getR (pc := 37) (b := 130) dX10_again_37 zfX10_108 rfl rfl rfl ?_
    refine zV_iconst (pc := 40) dX10_again_40 ?_
    refine zV_iald (pc := 41) dX10_again_41 rfl (by decide) (by decide) (inRd rfl) ?_
    refine zV_putI (pc := 42) (kz := 2) dX10_again_42 zpX10_128 rfl rfl rfl (hm6 _ _) rfl rfl ?_
    refine zV_mem (fun m8 e9 => zV_ok (fun hm8 => ?_))
    replace h := h m8 e9 hm8
    refine zV_aloadr_n (pc := 45) dX10_again_45 rfl 0 rfl ?_
    refine zV_aloadr_n (pc := 46) dX10_again_46 rfl 0 rfl ?_
    refine zV_getR (pc := 47) (b := 130) dX10_again_47 zfX10_108 rfl rfl rfl ?_
    refine zV_iconst (pc := 50) dX10_again_50 ?_
    refine zV_iald (pc := 51) dX10_again_51 rfl (by decide) (by decide) (inRd rfl) ?_
    refine zV_putI (pc := 52) (kz := 4) dX10_again_52 zpX10_111 rfl rfl rfl (hm8 _ _) rfl rfl ?_
    refine zV_mem (fun m10 e11 => zV_ok (fun hm10 => ?_))
    replace h := h m10 e11 hm10
    refine zV_aloadr_n (pc := 55) dX10_again_55 rfl 0 rfl ?_
    refine zV_aloadr_n (pc := 56) dX10_again_56 rfl 0 rfl ?_
    refine zV_getR (pc := 57) (b := 130) dX10_again_57 zfX10_108 rfl rfl rfl ?_
    refine zV_iconst (pc := 60) dX10_again_60 ?_
    refine zV_iald (pc := 61) dX10_again_61 rfl (by decide) (by decide) (inRd rfl) ?_
    refine zV_putI (pc := 62) (kz := 7) dX10_again_62 zpX10_153 rfl rfl rfl (hm10 _ _) rfl rfl ?_
    refine zV_mem (fun m12 e13 => zV_ok (fun hm12 => ?_))
    replace h := h m12 e13 hm12
    refine zV_aloadr_n (pc := 65) dX10_again_65 rfl 0 rfl ?_
    refine zV_aloadr_n (pc := 66) dX10_again_66 rfl 0 rfl ?_
    refine zV_getR (pc := 67) (b := 130) dX10_again_67 zfX10_108 rfl rfl rfl ?_
    refine zV_iconst (pc := 70) dX10_again_70 ?_
    refine zV_iald (pc := 71) dX10_again_71 rfl (by decide) (by decide) (inRd rfl) ?_
    refine zV_putI (pc := 72) (kz := 10) dX10_again_72 zpX10_296 rfl rfl rfl (hm12 _ _) rfl rfl ?_
    refine zV_mem (fun m14 e15 => zV_ok (fun hm14 => ?_))
    replace h := h m14 e15 hm14
    refine zV_iconst (pc := 75) dX10_again_75 ?_
    exact zV_iret (pc := 76) rfl dX10_again_76 (inRd rfl) h
  · replace c1 := Classical.not_not.mp c1
    replace h := h.1 c1
    refine zV_bipush (pc := 7) dX10_again_7 (by decide) ?_
    exact zV_iret (pc := 9) rfl dX10_again_9 (inRd rfl) h
