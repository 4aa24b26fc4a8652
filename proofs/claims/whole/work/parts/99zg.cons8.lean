/-! PRINTED by gen/build99.py: the constructors -/
theorem k_X8_7 {K : zCx} {d : Nat} {lI lR : zLl} : zCs K (d + 1) 2 229 mX8_init [rr K 7] 8 lI lR (10, lI, (7, 1, 9) :: (7, 0, 8) :: lR) := by
  refine zCs.of (by decide +kernel) rfl (Nat.le_of_ble_eq_true rfl) ?_
  refine zs_aload (pc := 0) (a := 7) dX8_init_0 rfl 0 rfl ?_
  refine zs_obj (pc := 1) dX8_init_1 zoX8 zoI1 zoI2 (Nat.le_of_ble_eq_true rfl) (by omega) ?_
  refine zs_aload (pc := 4) (a := 7) dX8_init_4 rfl 0 rfl ?_
  refine zs_sipush (pc := 5) dX8_init_5 (by decide) ?_
  refine zs_newI (pc := 8) 220 9 8 1 220 dX8_init_8 zaI rfl (by decide) rfl (by decide) (by decide) ⟨by decide, rfl, rfl, rfl⟩ ?_
  refine zs_putR (pc := 10) 0 0 dX8_init_10 zvX8_9 rfl (by decide) rfl rfl rfl rfl ?_
  refine zs_aload (pc := 13) (a := 7) dX8_init_13 rfl 0 rfl ?_
  refine zs_bipush (pc := 14) dX8_init_14 (by decide) ?_
  refine zs_newI (pc := 16) 9 10 9 2 229 dX8_init_16 zaI rfl (by decide) rfl (by decide) (by decide) ⟨by decide, rfl, rfl, rfl⟩ ?_
  refine zs_putR (pc := 18) 1 1 dX8_init_18 zvX8_15 rfl (by decide) rfl rfl rfl rfl ?_
  exact zs_ret (pc := 21) rfl dX8_init_21 (by decide) (by decide) rfl
theorem k_X4_1 {K : zCx} {d : Nat} {lI lR : zLl} : zCs K (d + 2) 18 464 mX4_init [rr K 1] 2 lI lR (20, (1, 10, 10) :: (6, 4, (-1)) :: (6, 3, (-1)) :: (6, 2, (-1)) :: (6, 1, (-1)) :: (6, 0, (-1)) :: lI, (2, 9, 19) :: (2, 8, 18) :: (2, 7, 17) :: (2, 6, 16) :: (2, 5, 15) :: (2, 4, 14) :: (2, 3, 13) :: (2, 2, 12) :: (2, 1, 11) :: (2, 0, 10) :: (1, 5, 7) :: (7, 1, 9) :: (7, 0, 8) :: (1, 4, 6) :: (1, 3, 5) :: (1, 2, 4) :: (1, 1, 3) :: (1, 0, 2) :: lR) := by
  refine zCs.of (by decide +kernel) rfl (Nat.le_of_ble_eq_true rfl) ?_
  refine zs_aload (pc := 0) (a := 1) dX4_init_0 rfl 0 rfl ?_
  refine zs_obj (pc := 1) dX4_init_1 zoX4 zoI1 zoI2 (Nat.le_of_ble_eq_true rfl) (by omega) ?_
  refine zs_aload (pc := 4) (a := 1) dX4_init_4 rfl 0 rfl ?_
  refine zs_bipush (pc := 5) dX4_init_5 (by decide) ?_
  refine zs_newQ (pc := 7) 10 3 2 1 10 dX4_init_7 zqX4_9 rfl (by decide) rfl (by decide) (by decide) ⟨by decide, rfl, rfl, rfl⟩ ?_
  refine zs_putR (pc := 10) 0 0 dX4_init_10 zvX4_11 rfl (by decide) rfl rfl rfl rfl ?_
  refine zs_aload (pc := 13) (a := 1) dX4_init_13 rfl 0 rfl ?_
  refine zs_bipush (pc := 14) dX4_init_14 (by decide) ?_
  refine zs_newI (pc := 16) 84 4 3 2 94 dX4_init_16 zaI rfl (by decide) rfl (by decide) (by decide) ⟨by decide, rfl, rfl, rfl⟩ ?_
  refine zs_putR (pc := 18) 1 1 dX4_init_18 zvX4_17 rfl (by decide) rfl rfl rfl rfl ?_
  refine zs_aload (pc := 21) (a := 1) dX4_init_21 rfl 0 rfl ?_
  refine zs_bipush (pc := 22) dX4_init_22 (by decide) ?_
  refine zs_newI (pc := 24) 6 5 4 3 100 dX4_init_24 zaI rfl (by decide) rfl (by decide) (by decide) ⟨by decide, rfl, rfl, rfl⟩ ?_
  refine zs_putR (pc := 26) 2 2 dX4_init_26 zvX4_21 rfl (by decide) rfl rfl rfl rfl ?_
  refine zs_aload (pc := 29) (a := 1) dX4_init_29 rfl 0 rfl ?_
  refine zs_bipush (pc := 30) dX4_init_30 (by decide) ?_
  refine zs_newI (pc := 32) 6 6 5 4 106 dX4_init_32 zaI rfl (by decide) rfl (by decide) (by decide) ⟨by decide, rfl, rfl, rfl⟩ ?_
  refine zs_putR (pc := 34) 3 3 dX4_init_34 zvX4_24 rfl (by decide) rfl rfl rfl rfl ?_
  refine zs_aload (pc := 37) (a := 1) dX4_init_37 rfl 0 rfl ?_
  refine zs_iconst (pc := 38) dX4_init_38 ?_
  refine zs_newI (pc := 39) 5 7 6 5 111 dX4_init_39 zaI rfl (by decide) rfl (by decide) (by decide) ⟨by decide, rfl, rfl, rfl⟩ ?_
  refine zs_dup (pc := 41) dX4_init_41 rfl ?_
  refine zs_iconst (pc := 42) dX4_init_42 ?_
  refine zs_iconst (pc := 43) dX4_init_43 ?_
  refine zs_iast (pc := 44) 5 dX4_init_44 rfl (by decide) (by decide) (by decide) ⟨by decide, by decide⟩ ?_
  refine zs_dup (pc := 45) dX4_init_45 rfl ?_
  refine zs_iconst (pc := 46) dX4_init_46 ?_
  refine zs_iconst (pc := 47) dX4_init_47 ?_
  refine zs_iast (pc := 48) 5 dX4_init_48 rfl (by decide) (by decide) (by decide) ⟨by decide, by decide⟩ ?_
  refine zs_dup (pc := 49) dX4_init_49 rfl ?_
  refine zs_iconst (pc := 50) dX4_init_50 ?_
  refine zs_iconst (pc := 51) dX4_init_51 ?_
  refine zs_iast (pc := 52) 5 dX4_init_52 rfl (by decide) (by decide) (by decide) ⟨by decide, by decide⟩ ?_
  refine zs_dup (pc := 53) dX4_init_53 rfl ?_
  refine zs_iconst (pc := 54) dX4_init_54 ?_
  refine zs_iconst (pc := 55) dX4_init_55 ?_
  refine zs_iast (pc := 56) 5 dX4_init_56 rfl (by decide) (by decide) (by decide) ⟨by decide, by decide⟩ ?_
  refine zs_dup (pc := 57) dX4_init_57 rfl ?_
  refine zs_iconst (pc := 58) dX4_init_58 ?_
  refine zs_iconst (pc := 59) dX4_init_59 ?_
  refine zs_iast (pc := 60) 5 dX4_init_60 rfl (by decide) (by decide) (by decide) ⟨by decide, by decide⟩ ?_
  refine zs_putR (pc := 61) 4 4 dX4_init_61 zvX4_27 rfl (by decide) rfl rfl rfl rfl ?_
  refine zs_aload (pc := 64) (a := 1) dX4_init_64 rfl 0 rfl ?_
  refine zs_newO (pc := 65) 8 4 8 7 6 115 dX4_init_65 zwX4_30 rfl (by decide) (by decide) ⟨by decide, rfl, rfl, rfl⟩ ?_
  refine zs_dup (pc := 68) dX4_init_68 rfl ?_
  refine zs_callN (pc := 69) (As := []) (rest := [rr K 7, rr K 1]) 8 344 dX4_init_69 zcX4_32 ziX8_init rfl rfl rfl rfl (Nat.le_of_ble_eq_true rfl) (k_X8_7 (d := d + 0)) ⟨rfl, rfl⟩ (by decide) (by decide) ?_
  refine zs_putR (pc := 72) 5 5 dX4_init_72 zvX4_33 rfl (by decide) rfl rfl rfl rfl ?_
  refine zs_aload (pc := 75) (a := 1) dX4_init_75 rfl 0 rfl ?_
  refine zs_bipush (pc := 76) dX4_init_76 (by decide) ?_
  refine zs_putI (pc := 78) 10 10 dX4_init_78 zvX4_37 rfl (by decide) rfl rfl rfl rfl ?_
  refine zs_iconst (pc := 81) dX4_init_81 ?_
  refine zs_istore (pc := 82) (loc' := [(1, .int (iz 0)), (0, rr K 1)]) dX4_init_82 rfl (by decide) rfl ?_
  refine zs_iload (pc := 83) dX4_init_83 rfl 0 rfl ?_
  refine zs_bipush (pc := 84) dX4_init_84 (by decide) ?_
  refine zs_ge_no (pc := 86) (tgt := 108) dX4_init_86 (by decide) ⟨by decide, by decide⟩ ⟨by decide, by decide⟩ (by decide) ?_
  refine zs_aload (pc := 89) (a := 1) dX4_init_89 rfl 1 rfl ?_
  refine zs_getR (pc := 90) 0 (b := 2) dX4_init_90 zfX4_11 rfl (by decide) rfl rfl ?_
  refine zs_iload (pc := 93) dX4_init_93 rfl 0 rfl ?_
  refine zs_newO (pc := 94) 3 12 11 10 9 356 dX4_init_94 zwX4_9 rfl (by decide) (by decide) ⟨by decide, rfl, rfl, rfl⟩ ?_
  refine zs_dup (pc := 97) dX4_init_97 rfl ?_
  refine zs_callN (pc := 98) (As := []) (rest := [rr K 10, .int (iz 0), rr K 2]) 9 356 dX4_init_98 zcX4_41 ziX3_init rfl rfl rfl rfl (Nat.le_of_ble_eq_true rfl) (k_X3 (d := d + 0)) ⟨rfl, rfl⟩ (by decide) (by decide) ?_
  refine zs_aast (pc := 101) 10 12 dX4_init_101 rfl (by decide) rfl (by decide) (by decide) (by decide) ⟨by decide, by decide⟩ ?_
  refine zs_iinc (pc := 102) (loc' := [(1, .int (iz 1)), (0, rr K 1)]) dX4_init_102 0 rfl (by decide) rfl ?_
  refine zs_goto (pc := 105) (tgt := 83) dX4_init_105 (by decide) ?_
  refine zs_iload (pc := 83) dX4_init_83 rfl 0 rfl ?_
  refine zs_bipush (pc := 84) dX4_init_84 (by decide) ?_
  refine zs_ge_no (pc := 86) (tgt := 108) dX4_init_86 (by decide) ⟨by decide, by decide⟩ ⟨by decide, by decide⟩ (by decide) ?_
  refine zs_aload (pc := 89) (a := 1) dX4_init_89 rfl 1 rfl ?_
  refine zs_getR (pc := 90) 0 (b := 2) dX4_init_90 zfX4_11 rfl (by decide) rfl rfl ?_
  refine zs_iload (pc := 93) dX4_init_93 rfl 0 rfl ?_
  refine zs_newO (pc := 94) 3 12 12 11 10 368 dX4_init_94 zwX4_9 rfl (by decide) (by decide) ⟨by decide, rfl, rfl, rfl⟩ ?_
  refine zs_dup (pc := 97) dX4_init_97 rfl ?_
  refine zs_callN (pc := 98) (As := []) (rest := [rr K 11, .int (iz 1), rr K 2]) 10 368 dX4_init_98 zcX4_41 ziX3_init rfl rfl rfl rfl (Nat.le_of_ble_eq_true rfl) (k_X3 (d := d + 0)) ⟨rfl, rfl⟩ (by decide) (by decide) ?_
  refine zs_aast (pc := 101) 10 12 dX4_init_101 rfl (by decide) rfl (by decide) (by decide) (by decide) ⟨by decide, by decide⟩ ?_
  refine zs_iinc (pc := 102) (loc' := [(1, .int (iz 2)), (0, rr K 1)]) dX4_init_102 0 rfl (by decide) rfl ?_
  refine zs_goto (pc := 105) (tgt := 83) dX4_init_105 (by decide) ?_
  refine zs_iload (pc := 83) dX4_init_83 rfl 0 rfl ?_
  refine zs_bipush (pc := 84) dX4_init_84 (by decide) ?_
  refine zs_ge_no (pc := 86) (tgt := 108) dX4_init_86 (by decide) ⟨by decide, by decide⟩ ⟨by decide, by decide⟩ (by decide) ?_
  refine zs_aload (pc := 89) (a := 1) dX4_init_89 rfl 1 rfl ?_
  refine zs_getR (pc := 90) 0 (b := 2) dX4_init_90 zfX4_11 rfl (by decide) rfl rfl ?_
  refine zs_iload (pc := 93) dX4_init_93 rfl 0 rfl ?_
  refine zs_newO (pc := 94) 3 12 13 12 11 380 dX4_init_94 zwX4_9 rfl (by decide) (by decide) ⟨by decide, rfl, rfl, rfl⟩ ?_
  refine zs_dup (pc := 97) dX4_init_97 rfl ?_
  refine zs_callN (pc := 98) (As := []) (rest := [rr K 12, .int (iz 2), rr K 2]) 11 380 dX4_init_98 zcX4_41 ziX3_init rfl rfl rfl rfl (Nat.le_of_ble_eq_true rfl) (k_X3 (d := d + 0)) ⟨rfl, rfl⟩ (by decide) (by decide) ?_
  refine zs_aast (pc := 101) 10 12 dX4_init_101 rfl (by decide) rfl (by decide) (by decide) (by decide) ⟨by decide, by decide⟩ ?_
  refine zs_iinc (pc := 102) (loc' := [(1, .int (iz 3)), (0, rr K 1)]) dX4_init_102 0 rfl (by decide) rfl ?_
  refine zs_goto (pc := 105) (tgt := 83) dX4_init_105 (by decide) ?_
  refine zs_iload (pc := 83) dX4_init_83 rfl 0 rfl ?_
  refine zs_bipush (pc := 84) dX4_init_84 (by decide) ?_
  refine zs_ge_no (pc := 86) (tgt := 108) dX4_init_86 (by decide) ⟨by decide, by decide⟩ ⟨by decide, by decide⟩ (by decide) ?_
  refine zs_aload (pc := 89) (a := 1) dX4_init_89 rfl 1 rfl ?_
  refine zs_getR (pc := 90) 0 (b := 2) dX4_init_90 zfX4_11 rfl (by decide) rfl rfl ?_
  refine zs_iload (pc := 93) dX4_init_93 rfl 0 rfl ?_
  refine zs_newO (pc := 94) 3 12 14 13 12 392 dX4_init_94 zwX4_9 rfl (by decide) (by decide) ⟨by decide, rfl, rfl, rfl⟩ ?_
  refine zs_dup (pc := 97) dX4_init_97 rfl ?_
  refine zs_callN (pc := 98) (As := []) (rest := [rr K 13, .int (iz 3), rr K 2]) 12 392 dX4_init_98 zcX4_41 ziX3_init rfl rfl rfl rfl (Nat.le_of_ble_eq_true rfl) (k_X3 (d := d + 0)) ⟨rfl, rfl⟩ (by decide) (by decide) ?_
  refine zs_aast (pc := 101) 10 12 dX4_init_101 rfl (by decide) rfl (by decide) (by decide) (by decide) ⟨by decide, by decide⟩ ?_
  refine zs_iinc (pc := 102) (loc' := [(1, .int (iz 4)), (0, rr K 1)]) dX4_init_102 0 rfl (by decide) rfl ?_
  refine zs_goto (pc := 105) (tgt := 83) dX4_init_105 (by decide) ?_
  refine zs_iload (pc := 83) dX4_init_83 rfl 0 rfl ?_
  refine zs_bipush (pc := 84) dX4_init_84 (by decide) ?_
  refine zs_ge_no (pc := 86) (tgt := 108) dX4_init_86 (by decide) ⟨by decide, by decide⟩ ⟨by decide, by decide⟩ (by decide) ?_
  refine zs_aload (pc := 89) (a := 1) dX4_init_89 rfl 1 rfl ?_
  refine zs_getR (pc := 90) 0 (b := 2) dX4_init_90 zfX4_11 rfl (by decide) rfl rfl ?_
  refine zs_iload (pc := 93) dX4_init_93 rfl 0 rfl ?_
  refine zs_newO (pc := 94) 3 12 15 14 13 404 dX4_init_94 zwX4_9 rfl (by decide) (by decide) ⟨by decide, rfl, rfl, rfl⟩ ?_
  refine zs_dup (pc := 97) dX4_init_97 rfl ?_
  refine zs_callN (pc := 98) (As := []) (rest := [rr K 14, .int (iz 4), rr K 2]) 13 404 dX4_init_98 zcX4_41 ziX3_init rfl rfl rfl rfl (Nat.le_of_ble_eq_true rfl) (k_X3 (d := d + 0)) ⟨rfl, rfl⟩ (by decide) (by decide) ?_
  refine zs_aast (pc := 101) 10 12 dX4_init_101 rfl (by decide) rfl (by decide) (by decide) (by decide) ⟨by decide, by decide⟩ ?_
  refine zs_iinc (pc := 102) (loc' := [(1, .int (iz 5)), (0, rr K 1)]) dX4_init_102 0 rfl (by decide) rfl ?_
  refine zs_goto (pc := 105) (tgt := 83) dX4_init_105 (by decide) ?_
  refine zs_iload (pc := 83) dX4_init_83 rfl 0 rfl ?_
  refine zs_bipush (pc := 84) dX4_init_84 (by decide) ?_
  refine zs_ge_no (pc := 86) (tgt := 108) dX4_init_86 (by decide) ⟨by decide, by decide⟩ ⟨by decide, by decide⟩ (by decide) ?_
  refine zs_aload (pc := 89) (a := 1) dX4_init_89 rfl 1 rfl ?_
  refine zs_getR (pc := 90) 0 (b := 2) dX4_init_90 zfX4_11 rfl (by decide) rfl rfl ?_
  refine zs_iload (pc := 93) dX4_init_93 rfl 0 rfl ?_
  refine zs_newO (pc := 94) 3 12 16 15 14 416 dX4_init_94 zwX4_9 rfl (by decide) (by decide) ⟨by decide, rfl, rfl, rfl⟩ ?_
  refine zs_dup (pc := 97) dX4_init_97 rfl ?_
  refine zs_callN (pc := 98) (As := []) (rest := [rr K 15, .int (iz 5), rr K 2]) 14 416 dX4_init_98 zcX4_41 ziX3_init rfl rfl rfl rfl (Nat.le_of_ble_eq_true rfl) (k_X3 (d := d + 0)) ⟨rfl, rfl⟩ (by decide) (by decide) ?_
  refine zs_aast (pc := 101) 10 12 dX4_init_101 rfl (by decide) rfl (by decide) (by decide) (by decide) ⟨by decide, by decide⟩ ?_
  refine zs_iinc (pc := 102) (loc' := [(1, .int (iz 6)), (0, rr K 1)]) dX4_init_102 0 rfl (by decide) rfl ?_
  refine zs_goto (pc := 105) (tgt := 83) dX4_init_105 (by decide) ?_
  refine zs_iload (pc := 83) dX4_init_83 rfl 0 rfl ?_
  refine zs_bipush (pc := 84) dX4_init_84 (by decide) ?_
  refine zs_ge_no (pc := 86) (tgt := 108) dX4_init_86 (by decide) ⟨by decide, by decide⟩ ⟨by decide, by decide⟩ (by decide) ?_
  refine zs_aload (pc := 89) (a := 1) dX4_init_89 rfl 1 rfl ?_
  refine zs_getR (pc := 90) 0 (b := 2) dX4_init_90 zfX4_11 rfl (by decide) rfl rfl ?_
  refine zs_iload (pc := 93) dX4_init_93 rfl 0 rfl ?_
  refine zs_newO (pc := 94) 3 12 17 16 15 428 dX4_init_94 zwX4_9 rfl (by decide) (by decide) ⟨by decide, rfl, rfl, rfl⟩ ?_
  refine zs_dup (pc := 97) dX4_init_97 rfl ?_
  refine zs_callN (pc := 98) (As := []) (rest := [rr K 16, .int (iz 6), rr K 2]) 15 428 dX4_init_98 zcX4_41 ziX3_init rfl rfl rfl rfl (Nat.le_of_ble_eq_true rfl) (k_X3 (d := d + 0)) ⟨rfl, rfl⟩ (by decide) (by decide) ?_
  refine zs_aast (pc := 101) 10 12 dX4_init_101 rfl (by decide) rfl (by decide) (by decide) (by decide) ⟨by decide, by decide⟩ ?_
  refine zs_iinc (pc := 102) (loc' := [(1, .int (iz 7)), (0, rr K 1)]) dX4_init_102 0 rfl (by decide) rfl ?_
  refine zs_goto (pc := 105) (tgt := 83) dX4_init_105 (by decide) ?_
  refine zs_iload (pc := 83) dX4_init_83 rfl 0 rfl ?_
  refine zs_bipush (pc := 84) dX4_init_84 (by decide) ?_
  refine zs_ge_no (pc := 86) (tgt := 108) dX4_init_86 (by decide) ⟨by decide, by decide⟩ ⟨by decide, by decide⟩ (by decide) ?_
  refine zs_aload (pc := 89) (a := 1) dX4_init_89 rfl 1 rfl ?_
  refine zs_getR (pc := 90) 0 (b := 2) dX4_init_90 zfX4_11 rfl (by decide) rfl rfl ?_
  refine zs_iload (pc := 93) dX4_init_93 rfl 0 rfl ?_
  refine zs_newO (pc := 94) 3 12 18 17 16 440 dX4_init_94 zwX4_9 rfl (by decide) (by decide) ⟨by decide, rfl, rfl, rfl⟩ ?_
  refine zs_dup (pc := 97) dX4_init_97 rfl ?_
  refine zs_callN (pc := 98) (As := []) (rest := [rr K 17, .int (iz 7), rr K 2]) 16 440 dX4_init_98 zcX4_41 ziX3_init rfl rfl rfl rfl (Nat.le_of_ble_eq_true rfl) (k_X3 (d := d + 0)) ⟨rfl, rfl⟩ (by decide) (by decide) ?_
  refine zs_aast (pc := 101) 10 12 dX4_init_101 rfl (by decide) rfl (by decide) (by decide) (by decide) ⟨by decide, by decide⟩ ?_
  refine zs_iinc (pc := 102) (loc' := [(1, .int (iz 8)), (0, rr K 1)]) dX4_init_102 0 rfl (by decide) rfl ?_
  refine zs_goto (pc := 105) (tgt := 83) dX4_init_105 (by decide) ?_
  refine zs_iload (pc := 83) dX4_init_83 rfl 0 rfl ?_
  refine zs_bipush (pc := 84) dX4_init_84 (by decide) ?_
  refine zs_ge_no (pc := 86) (tgt := 108) dX4_init_86 (by decide) ⟨by decide, by decide⟩ ⟨by decide, by decide⟩ (by decide) ?_
  refine zs_aload (pc := 89) (a := 1) dX4_init_89 rfl 1 rfl ?_
  refine zs_getR (pc := 90) 0 (b := 2) dX4_init_90 zfX4_11 rfl (by decide) rfl rfl ?_
  refine zs_iload (pc := 93) dX4_init_93 rfl 0 rfl ?_
  refine zs_newO (pc := 94) 3 12 19 18 17 452 dX4_init_94 zwX4_9 rfl (by decide) (by decide) ⟨by decide, rfl, rfl, rfl⟩ ?_
  refine zs_dup (pc := 97) dX4_init_97 rfl ?_
  refine zs_callN (pc := 98) (As := []) (rest := [rr K 18, .int (iz 8), rr K 2]) 17 452 dX4_init_98 zcX4_41 ziX3_init rfl rfl rfl rfl (Nat.le_of_ble_eq_true rfl) (k_X3 (d := d + 0)) ⟨rfl, rfl⟩ (by decide) (by decide) ?_
  refine zs_aast (pc := 101) 10 12 dX4_init_101 rfl (by decide) rfl (by decide) (by decide) (by decide) ⟨by decide, by decide⟩ ?_
  refine zs_iinc (pc := 102) (loc' := [(1, .int (iz 9)), (0, rr K 1)]) dX4_init_102 0 rfl (by decide) rfl ?_
  refine zs_goto (pc := 105) (tgt := 83) dX4_init_105 (by decide) ?_
  refine zs_iload (pc := 83) dX4_init_83 rfl 0 rfl ?_
  refine zs_bipush (pc := 84) dX4_init_84 (by decide) ?_
  refine zs_ge_no (pc := 86) (tgt := 108) dX4_init_86 (by decide) ⟨by decide, by decide⟩ ⟨by decide, by decide⟩ (by decide) ?_
  refine zs_aload (pc := 89) (a := 1) dX4_init_89 rfl 1 rfl ?_
  refine zs_getR (pc := 90) 0 (b := 2) dX4_init_90 zfX4_11 rfl (by decide) rfl rfl ?_
  refine zs_iload (pc := 93) dX4_init_93 rfl 0 rfl ?_
  refine zs_newO (pc := 94) 3 12 20 19 18 464 dX4_init_94 zwX4_9 rfl (by decide) (by decide) ⟨by decide, rfl, rfl, rfl⟩ ?_
  refine zs_dup (pc := 97) dX4_init_97 rfl ?_
  refine zs_callN (pc := 98) (As := []) (rest := [rr K 19, .int (iz 9), rr K 2]) 18 464 dX4_init_98 zcX4_41 ziX3_init rfl rfl rfl rfl (Nat.le_of_ble_eq_true rfl) (k_X3 (d := d + 0)) ⟨rfl, rfl⟩ (by decide) (by decide) ?_
  refine zs_aast (pc := 101) 10 12 dX4_init_101 rfl (by decide) rfl (by decide) (by decide) (by decide) ⟨by decide, by decide⟩ ?_
  refine zs_iinc (pc := 102) (loc' := [(1, .int (iz 10)), (0, rr K 1)]) dX4_init_102 0 rfl (by decide) rfl ?_
  refine zs_goto (pc := 105) (tgt := 83) dX4_init_105 (by decide) ?_
  refine zs_iload (pc := 83) dX4_init_83 rfl 0 rfl ?_
  refine zs_bipush (pc := 84) dX4_init_84 (by decide) ?_
  refine zs_ge_yes (pc := 86) (tgt := 108) dX4_init_86 (by decide) ⟨by decide, by decide⟩ ⟨by decide, by decide⟩ (by decide) ?_
  exact zs_ret (pc := 108) rfl dX4_init_108 (by decide) (by decide) rfl
theorem k_X8_26 {K : zCx} {d : Nat} {lI lR : zLl} : zCs K (d + 1) 2 229 mX8_init [rr K 26] 27 lI lR (29, lI, (26, 1, 28) :: (26, 0, 27) :: lR) := by
  refine zCs.of (by decide +kernel) rfl (Nat.le_of_ble_eq_true rfl) ?_
  refine zs_aload (pc := 0) (a := 26) dX8_init_0 rfl 0 rfl ?_
  refine zs_obj (pc := 1) dX8_init_1 zoX8 zoI1 zoI2 (Nat.le_of_ble_eq_true rfl) (by omega) ?_
  refine zs_aload (pc := 4) (a := 26) dX8_init_4 rfl 0 rfl ?_
  refine zs_sipush (pc := 5) dX8_init_5 (by decide) ?_
  refine zs_newI (pc := 8) 220 28 27 1 220 dX8_init_8 zaI rfl (by decide) rfl (by decide) (by decide) ⟨by decide, rfl, rfl, rfl⟩ ?_
  refine zs_putR (pc := 10) 0 0 dX8_init_10 zvX8_9 rfl (by decide) rfl rfl rfl rfl ?_
  refine zs_aload (pc := 13) (a := 26) dX8_init_13 rfl 0 rfl ?_
  refine zs_bipush (pc := 14) dX8_init_14 (by decide) ?_
  refine zs_newI (pc := 16) 9 29 28 2 229 dX8_init_16 zaI rfl (by decide) rfl (by decide) (by decide) ⟨by decide, rfl, rfl, rfl⟩ ?_
  refine zs_putR (pc := 18) 1 1 dX8_init_18 zvX8_15 rfl (by decide) rfl rfl rfl rfl ?_
  exact zs_ret (pc := 21) rfl dX8_init_21 (by decide) (by decide) rfl
theorem k_X4_20 {K : zCx} {d : Nat} {lI lR : zLl} : zCs K (d + 2) 18 464 mX4_init [rr K 20] 21 lI lR (39, (20, 10, 10) :: (25, 4, (-1)) :: (25, 3, (-1)) :: (25, 2, (-1)) :: (25, 1, (-1)) :: (25, 0, (-1)) :: lI, (21, 9, 38) :: (21, 8, 37) :: (21, 7, 36) :: (21, 6, 35) :: (21, 5, 34) :: (21, 4, 33) :: (21, 3, 32) :: (21, 2, 31) :: (21, 1, 30) :: (21, 0, 29) :: (20, 5, 26) :: (26, 1, 28) :: (26, 0, 27) :: (20, 4, 25) :: (20, 3, 24) :: (20, 2, 23) :: (20, 1, 22) :: (20, 0, 21) :: lR) := by
  refine zCs.of (by decide +kernel) rfl (Nat.le_of_ble_eq_true rfl) ?_
  refine zs_aload (pc := 0) (a := 20) dX4_init_0 rfl 0 rfl ?_
  refine zs_obj (pc := 1) dX4_init_1 zoX4 zoI1 zoI2 (Nat.le_of_ble_eq_true rfl) (by omega) ?_
  refine zs_aload (pc := 4) (a := 20) dX4_init_4 rfl 0 rfl ?_
  refine zs_bipush (pc := 5) dX4_init_5 (by decide) ?_
  refine zs_newQ (pc := 7) 10 22 21 1 10 dX4_init_7 zqX4_9 rfl (by decide) rfl (by decide) (by decide) ⟨by decide, rfl, rfl, rfl⟩ ?_
  refine zs_putR (pc := 10) 0 0 dX4_init_10 zvX4_11 rfl (by decide) rfl rfl rfl rfl ?_
  refine zs_aload (pc := 13) (a := 20) dX4_init_13 rfl 0 rfl ?_
  refine zs_bipush (pc := 14) dX4_init_14 (by decide) ?_
  refine zs_newI (pc := 16) 84 23 22 2 94 dX4_init_16 zaI rfl (by decide) rfl (by decide) (by decide) ⟨by decide, rfl, rfl, rfl⟩ ?_
  refine zs_putR (pc := 18) 1 1 dX4_init_18 zvX4_17 rfl (by decide) rfl rfl rfl rfl ?_
  refine zs_aload (pc := 21) (a := 20) dX4_init_21 rfl 0 rfl ?_
  refine zs_bipush (pc := 22) dX4_init_22 (by decide) ?_
  refine zs_newI (pc := 24) 6 24 23 3 100 dX4_init_24 zaI rfl (by decide) rfl (by decide) (by decide) ⟨by decide, rfl, rfl, rfl⟩ ?_
  refine zs_putR (pc := 26) 2 2 dX4_init_26 zvX4_21 rfl (by decide) rfl rfl rfl rfl ?_
  refine zs_aload (pc := 29) (a := 20) dX4_init_29 rfl 0 rfl ?_
  refine zs_bipush (pc := 30) dX4_init_30 (by decide) ?_
  refine zs_newI (pc := 32) 6 25 24 4 106 dX4_init_32 zaI rfl (by decide) rfl (by decide) (by decide) ⟨by decide, rfl, rfl, rfl⟩ ?_
  refine zs_putR (pc := 34) 3 3 dX4_init_34 zvX4_24 rfl (by decide) rfl rfl rfl rfl ?_
  refine zs_aload (pc := 37) (a := 20) dX4_init_37 rfl 0 rfl ?_
  refine zs_iconst (pc := 38) dX4_init_38 ?_
  refine zs_newI (pc := 39) 5 26 25 5 111 dX4_init_39 zaI rfl (by decide) rfl (by decide) (by decide) ⟨by decide, rfl, rfl, rfl⟩ ?_
  refine zs_dup (pc := 41) dX4_init_41 rfl ?_
  refine zs_iconst (pc := 42) dX4_init_42 ?_
  refine zs_iconst (pc := 43) dX4_init_43 ?_
  refine zs_iast (pc := 44) 5 dX4_init_44 rfl (by decide) (by decide) (by decide) ⟨by decide, by decide⟩ ?_
  refine zs_dup (pc := 45) dX4_init_45 rfl ?_
  refine zs_iconst (pc := 46) dX4_init_46 ?_
  refine zs_iconst (pc := 47) dX4_init_47 ?_
  refine zs_iast (pc := 48) 5 dX4_init_48 rfl (by decide) (by decide) (by decide) ⟨by decide, by decide⟩ ?_
  refine zs_dup (pc := 49) dX4_init_49 rfl ?_
  refine zs_iconst (pc := 50) dX4_init_50 ?_
  refine zs_iconst (pc := 51) dX4_init_51 ?_
  refine zs_iast (pc := 52) 5 dX4_init_52 rfl (by decide) (by decide) (by decide) ⟨by decide, by decide⟩ ?_
  refine zs_dup (pc := 53) dX4_init_53 rfl ?_
  refine zs_iconst (pc := 54) dX4_init_54 ?_
  refine zs_iconst (pc := 55) dX4_init_55 ?_
  refine zs_iast (pc := 56) 5 dX4_init_56 rfl (by decide) (by decide) (by decide) ⟨by decide, by decide⟩ ?_
  refine zs_dup (pc := 57) dX4_init_57 rfl ?_
  refine zs_iconst (pc := 58) dX4_init_58 ?_
  refine zs_iconst (pc := 59) dX4_init_59 ?_
  refine zs_iast (pc := 60) 5 dX4_init_60 rfl (by decide) (by decide) (by decide) ⟨by decide, by decide⟩ ?_
  refine zs_putR (pc := 61) 4 4 dX4_init_61 zvX4_27 rfl (by decide) rfl rfl rfl rfl ?_
  refine zs_aload (pc := 64) (a := 20) dX4_init_64 rfl 0 rfl ?_
  refine zs_newO (pc := 65) 8 4 27 26 6 115 dX4_init_65 zwX4_30 rfl (by decide) (by decide) ⟨by decide, rfl, rfl, rfl⟩ ?_
  refine zs_dup (pc := 68) dX4_init_68 rfl ?_
  refine zs_callN (pc := 69) (As := []) (rest := [rr K 26, rr K 20]) 8 344 dX4_init_69 zcX4_32 ziX8_init rfl rfl rfl rfl (Nat.le_of_ble_eq_true rfl) (k_X8_26 (d := d + 0)) ⟨rfl, rfl⟩ (by decide) (by decide) ?_
  refine zs_putR (pc := 72) 5 5 dX4_init_72 zvX4_33 rfl (by decide) rfl rfl rfl rfl ?_
  refine zs_aload (pc := 75) (a := 20) dX4_init_75 rfl 0 rfl ?_
  refine zs_bipush (pc := 76) dX4_init_76 (by decide) ?_
  refine zs_putI (pc := 78) 10 10 dX4_init_78 zvX4_37 rfl (by decide) rfl rfl rfl rfl ?_
  refine zs_iconst (pc := 81) dX4_init_81 ?_
  refine zs_istore (pc := 82) (loc' := [(1, .int (iz 0)), (0, rr K 20)]) dX4_init_82 rfl (by decide) rfl ?_
  refine zs_iload (pc := 83) dX4_init_83 rfl 0 rfl ?_
  refine zs_bipush (pc := 84) dX4_init_84 (by decide) ?_
  refine zs_ge_no (pc := 86) (tgt := 108) dX4_init_86 (by decide) ⟨by decide, by decide⟩ ⟨by decide, by decide⟩ (by decide) ?_
  refine zs_aload (pc := 89) (a := 20) dX4_init_89 rfl 1 rfl ?_
  refine zs_getR (pc := 90) 0 (b := 21) dX4_init_90 zfX4_11 rfl (by decide) rfl rfl ?_
  refine zs_iload (pc := 93) dX4_init_93 rfl 0 rfl ?_
  refine zs_newO (pc := 94) 3 12 30 29 9 356 dX4_init_94 zwX4_9 rfl (by decide) (by decide) ⟨by decide, rfl, rfl, rfl⟩ ?_
  refine zs_dup (pc := 97) dX4_init_97 rfl ?_
  refine zs_callN (pc := 98) (As := []) (rest := [rr K 29, .int (iz 0), rr K 21]) 9 356 dX4_init_98 zcX4_41 ziX3_init rfl rfl rfl rfl (Nat.le_of_ble_eq_true rfl) (k_X3 (d := d + 0)) ⟨rfl, rfl⟩ (by decide) (by decide) ?_
  refine zs_aast (pc := 101) 10 12 dX4_init_101 rfl (by decide) rfl (by decide) (by decide) (by decide) ⟨by decide, by decide⟩ ?_
  refine zs_iinc (pc := 102) (loc' := [(1, .int (iz 1)), (0, rr K 20)]) dX4_init_102 0 rfl (by decide) rfl ?_
  refine zs_goto (pc := 105) (tgt := 83) dX4_init_105 (by decide) ?_
  refine zs_iload (pc := 83) dX4_init_83 rfl 0 rfl ?_
  refine zs_bipush (pc := 84) dX4_init_84 (by decide) ?_
  refine zs_ge_no (pc := 86) (tgt := 108) dX4_init_86 (by decide) ⟨by decide, by decide⟩ ⟨by decide, by decide⟩ (by decide) ?_
  refine zs_aload (pc := 89) (a := 20) dX4_init_89 rfl 1 rfl ?_
  refine zs_getR (pc := 90) 0 (b := 21) dX4_init_90 zfX4_11 rfl (by decide) rfl rfl ?_
  refine zs_iload (pc := 93) dX4_init_93 rfl 0 rfl ?_
  refine zs_newO (pc := 94) 3 12 31 30 10 368 dX4_init_94 zwX4_9 rfl (by decide) (by decide) ⟨by decide, rfl, rfl, rfl⟩ ?_
  refine zs_dup (pc := 97) dX4_init_97 rfl ?_
  refine zs_callN (pc := 98) (As := []) (rest := [rr K 30, .int (iz 1), rr K 21]) 10 368 dX4_init_98 zcX4_41 ziX3_init rfl rfl rfl rfl (Nat.le_of_ble_eq_true rfl) (k_X3 (d := d + 0)) ⟨rfl, rfl⟩ (by decide) (by decide) ?_
  refine zs_aast (pc := 101) 10 12 dX4_init_101 rfl (by decide) rfl (by decide) (by decide) (by decide) ⟨by decide, by decide⟩ ?_
  refine zs_iinc (pc := 102) (loc' := [(1, .int (iz 2)), (0, rr K 20)]) dX4_init_102 0 rfl (by decide) rfl ?_
  refine zs_goto (pc := 105) (tgt := 83) dX4_init_105 (by decide) ?_
  refine zs_iload (pc := 83) dX4_init_83 rfl 0 rfl ?_
  refine zs_bipush (pc := 84) dX4_init_84 (by decide) ?_
  refine zs_ge_no (pc := 86) (tgt := 108) dX4_init_86 (by decide) ⟨by decide, by decide⟩ ⟨by decide, by decide⟩ (by decide) ?_
  refine zs_aload (pc := 89) (a := 20) dX4_init_89 rfl 1 rfl ?_
  refine zs_getR (pc := 90) 0 (b := 21) dX4_init_90 zfX4_11 rfl (by decide) rfl rfl ?_
  refine zs_iload (pc := 93) dX4_init_93 rfl 0 rfl ?_
  refine zs_newO (pc := 94) 3 12 32 31 11 380 dX4_init_94 zwX4_9 rfl (by decide) (by decide) ⟨by decide, rfl, rfl, rfl⟩ ?_
  refine zs_dup (pc := 97) dX4_init_97 rfl ?_
  refine zs_callN (pc := 98) (As := []) (rest := [rr K 31, .int (iz 2), rr K 21]) 11 380 dX4_init_98 zcX4_41 ziX3_init rfl rfl rfl rfl (Nat.le_of_ble_eq_true rfl) (k_X3 (d := d + 0)) ⟨rfl, rfl⟩ (by decide) (by decide) ?_
  refine zs_aast (pc := 101) 10 12 dX4_init_101 rfl (by decide) rfl (by decide) (by decide) (by decide) ⟨by decide, by decide⟩ ?_
  refine zs_iinc (pc := 102) (loc' := [(1, .int (iz 3)), (0, rr K 20)]) dX4_init_102 0 rfl (by decide) rfl ?_
  refine zs_goto (pc := 105) (tgt := 83) dX4_init_105 (by decide) ?_
  refine zs_iload (pc := 83) dX4_init_83 rfl 0 rfl ?_
  refine zs_bipush (pc := 84) dX4_init_84 (by decide) ?_
  refine zs_ge_no (pc := 86) (tgt := 108) dX4_init_86 (by decide) ⟨by decide, by decide⟩ ⟨by decide, by decide⟩ (by decide) ?_
  refine zs_aload (pc := 89) (a := 20) dX4_init_89 rfl 1 rfl ?_
  refine zs_getR (pc := 90) 0 (b := 21) dX4_init_90 zfX4_11 rfl (by decide) rfl rfl ?_
  refine zs_iload (pc := 93) dX4_init_93 rfl 0 rfl ?_
  refine zs_newO (pc := 94) 3 12 33 32 12 392 dX4_init_94 zwX4_9 rfl (by decide) (by decide) ⟨by decide, rfl, rfl, rfl⟩ ?_
  refine zs_dup (pc := 97) dX4_init_97 rfl ?_
  refine zs_callN (pc := 98) (As := []) (rest := [rr K 32, .int (iz 3), rr K 21]) 12 392 dX4_init_98 zcX4_41 ziX3_init rfl rfl rfl rfl (Nat.le_of_ble_eq_true rfl) (k_X3 (d := d + 0)) ⟨rfl, rfl⟩ (by decide) (by decide) ?_
  refine zs_aast (pc := 101) 10 12 dX4_init_101 rfl (by decide) rfl (by decide) (by decide) (by decide) ⟨by decide, by decide⟩ ?_
  refine zs_iinc (pc := 102) (loc' := [(1, .int (iz 4)), (0, rr K 20)]) dX4_init_102 0 rfl (by decide) rfl ?_
  refine zs_goto (pc := 105) (tgt := 83) dX4_init_105 (by decide) ?_
  refine zs_iload (pc := 83) dX4_init_83 rfl 0 rfl ?_
  refine zs_bipush (pc := 84) dX4_init_84 (by decide) ?_
  refine zs_ge_no (pc := 86) (tgt := 108) dX4_init_86 (by decide) ⟨by decide, by decide⟩ ⟨by decide, by decide⟩ (by decide) ?_
  refine zs_aload (pc := 89) (a := 20) dX4_init_89 rfl 1 rfl ?_
  refine zs_getR (pc := 90) 0 (b := 21) dX4_init_90 zfX4_11 rfl (by decide) rfl rfl ?_
  refine zs_iload (pc := 93) dX4_init_93 rfl 0 rfl ?_
  refine zs_newO (pc := 94) 3 12 34 33 13 404 dX4_init_94 zwX4_9 rfl (by decide) (by decide) ⟨by decide, rfl, rfl, rfl⟩ ?_
  refine zs_dup (pc := 97) dX4_init_97 rfl ?_
  refine zs_callN (pc := 98) (As := []) (rest := [rr K 33, .int (iz 4), rr K 21]) 13 404 dX4_init_98 zcX4_41 ziX3_init rfl rfl rfl rfl (Nat.le_of_ble_eq_true rfl) (k_X3 (d := d + 0)) ⟨rfl, rfl⟩ (by decide) (by decide) ?_
  refine zs_aast (pc := 101) 10 12 dX4_init_101 rfl (by decide) rfl (by decide) (by decide) (by decide) ⟨by decide, by decide⟩ ?_
  refine zs_iinc (pc := 102) (loc' := [(1, .int (iz 5)), (0, rr K 20)]) dX4_init_102 0 rfl (by decide) rfl ?_
  refine zs_goto (pc := 105) (tgt := 83) dX4_init_105 (by decide) ?_
  refine zs_iload (pc := 83) dX4_init_83 rfl 0 rfl ?_
  refine zs_bipush (pc := 84) dX4_init_84 (by decide) ?_
  refine zs_ge_no (pc := 86) (tgt := 108) dX4_init_86 (by decide) ⟨by decide, by decide⟩ ⟨by decide, by decide⟩ (by decide) ?_
  refine zs_aload (pc := 89) (a := 20) dX4_init_89 rfl 1 rfl ?_
  refine zs_getR (pc := 90) 0 (b := 21) dX4_init_90 zfX4_11 rfl (by decide) rfl rfl ?_
  refine zs_iload (pc := 93) dX4_init_93 rfl 0 rfl ?_
  refine zs_newO (pc := 94) 3 12 35 34 14 416 dX4_init_94 zwX4_9 rfl (by decide) (by decide) ⟨by decide, rfl, rfl, rfl⟩ ?_
  refine zs_dup (pc := 97) dX4_init_97 rfl ?_
  refine zs_callN (pc := 98) (As := []) (rest := [rr K 34, .int (iz 5), rr K 21]) 14 416 dX4_init_98 zcX4_41 ziX3_init rfl rfl rfl rfl (Nat.le_of_ble_eq_true rfl) (k_X3 (d := d + 0)) ⟨rfl, rfl⟩ (by decide) (by decide) ?_
  refine zs_aast (pc := 101) 10 12 dX4_init_101 rfl (by decide) rfl (by decide) (by decide) (by decide) ⟨by decide, by decide⟩ ?_
  refine zs_iinc (pc := 102) (loc' := [(1, .int (iz 6)), (0, rr K 20)]) dX4_init_102 0 rfl (by decide) rfl ?_
  refine zs_goto (pc := 105) (tgt := 83) dX4_init_105 (by decide) ?_
  refine zs_iload (pc := 83) dX4_init_83 rfl 0 rfl ?_
  refine zs_bipush (pc := 84) dX4_init_84 (by decide) ?_
  refine zs_ge_no (pc := 86) (tgt := 108) dX4_init_86 (by decide) ⟨by decide, by decide⟩ ⟨by decide, by decide⟩ (by decide) ?_
  refine zs_aload (pc := 89) (a := 20) dX4_init_89 rfl 1 rfl ?_
  refine zs_getR (pc := 90) 0 (b := 21) dX4_init_90 zfX4_11 rfl (by decide) rfl rfl ?_
  refine zs_iload (pc := 93) dX4_init_93 rfl 0 rfl ?_
  refine zs_newO (pc := 94) 3 12 36 35 15 428 dX4_init_94 zwX4_9 rfl (by decide) (by decide) ⟨by decide, rfl, rfl, rfl⟩ ?_
  refine zs_dup (pc := 97) dX4_init_97 rfl ?_
  refine zs_callN (pc := 98) (As := []) (rest := [rr K 35, .int (iz 6), rr K 21]) 15 428 dX4_init_98 zcX4_41 ziX3_init rfl rfl rfl rfl (Nat.le_of_ble_eq_true rfl) (k_X3 (d := d + 0)) ⟨rfl, rfl⟩ (by decide) (by decide) ?_
  refine zs_aast (pc := 101) 10 12 dX4_init_101 rfl (by decide) rfl (by decide) (by decide) (by decide) ⟨by decide, by decide⟩ ?_
  refine zs_iinc (pc := 102) (loc' := [(1, .int (iz 7)), (0, rr K 20)]) dX4_init_102 0 rfl (by decide) rfl ?_
  refine zs_goto (pc := 105) (tgt := 83) dX4_init_105 (by decide) ?_
  refine zs_iload (pc := 83) dX4_init_83 rfl 0 rfl ?_
  refine zs_bipush (pc := 84) dX4_init_84 (by decide) ?_
  refine zs_ge_no (pc := 86) (tgt := 108) dX4_init_86 (by decide) ⟨by decide, by decide⟩ ⟨by decide, by decide⟩ (by decide) ?_
  refine zs_aload (pc := 89) (a := 20) dX4_init_89 rfl 1 rfl ?_
  refine zs_getR (pc := 90) 0 (b := 21) dX4_init_90 zfX4_11 rfl (by decide) rfl rfl ?_
  refine zs_iload (pc := 93) dX4_init_93 rfl 0 rfl ?_
  refine zs_newO (pc := 94) 3 12 37 36 16 440 dX4_init_94 zwX4_9 rfl (by decide) (by decide) ⟨by decide, rfl, rfl, rfl⟩ ?_
  refine zs_dup (pc := 97) dX4_init_97 rfl ?_
  refine zs_callN (pc := 98) (As := []) (rest := [rr K 36, .int (iz 7), rr K 21]) 16 440 dX4_init_98 zcX4_41 ziX3_init rfl rfl rfl rfl (Nat.le_of_ble_eq_true rfl) (k_X3 (d := d + 0)) ⟨rfl, rfl⟩ (by decide) (by decide) ?_
  refine zs_aast (pc := 101) 10 12 dX4_init_101 rfl (by decide) rfl (by decide) (by decide) (by decide) ⟨by decide, by decide⟩ ?_
  refine zs_iinc (pc := 102) (loc' := [(1, .int (iz 8)), (0, rr K 20)]) dX4_init_102 0 rfl (by decide) rfl ?_
  refine zs_goto (pc := 105) (tgt := 83) dX4_init_105 (by decide) ?_
  refine zs_iload (pc := 83) dX4_init_83 rfl 0 rfl ?_
  refine zs_bipush (pc := 84) dX4_init_84 (by decide) ?_
  refine zs_ge_no (pc := 86) (tgt := 108) dX4_init_86 (by decide) ⟨by decide, by decide⟩ ⟨by decide, by decide⟩ (by decide) ?_
  refine zs_aload (pc := 89) (a := 20) dX4_init_89 rfl 1 rfl ?_
  refine zs_getR (pc := 90) 0 (b := 21) dX4_init_90 zfX4_11 rfl (by decide) rfl rfl ?_
  refine zs_iload (pc := 93) dX4_init_93 rfl 0 rfl ?_
  refine zs_newO (pc := 94) 3 12 38 37 17 452 dX4_init_94 zwX4_9 rfl (by decide) (by decide) ⟨by decide, rfl, rfl, rfl⟩ ?_
  refine zs_dup (pc := 97) dX4_init_97 rfl ?_
  refine zs_callN (pc := 98) (As := []) (rest := [rr K 37, .int (iz 8), rr K 21]) 17 452 dX4_init_98 zcX4_41 ziX3_init rfl rfl rfl rfl (Nat.le_of_ble_eq_true rfl) (k_X3 (d := d + 0)) ⟨rfl, rfl⟩ (by decide) (by decide) ?_
  refine zs_aast (pc := 101) 10 12 dX4_init_101 rfl (by decide) rfl (by decide) (by decide) (by decide) ⟨by decide, by decide⟩ ?_
  refine zs_iinc (pc := 102) (loc' := [(1, .int (iz 9)), (0, rr K 20)]) dX4_init_102 0 rfl (by decide) rfl ?_
  refine zs_goto (pc := 105) (tgt := 83) dX4_init_105 (by decide) ?_
  refine zs_iload (pc := 83) dX4_init_83 rfl 0 rfl ?_
  refine zs_bipush (pc := 84) dX4_init_84 (by decide) ?_
  refine zs_ge_no (pc := 86) (tgt := 108) dX4_init_86 (by decide) ⟨by decide, by decide⟩ ⟨by decide, by decide⟩ (by decide) ?_
  refine zs_aload (pc := 89) (a := 20) dX4_init_89 rfl 1 rfl ?_
  refine zs_getR (pc := 90) 0 (b := 21) dX4_init_90 zfX4_11 rfl (by decide) rfl rfl ?_
  refine zs_iload (pc := 93) dX4_init_93 rfl 0 rfl ?_
  refine zs_newO (pc := 94) 3 12 39 38 18 464 dX4_init_94 zwX4_9 rfl (by decide) (by decide) ⟨by decide, rfl, rfl, rfl⟩ ?_
  refine zs_dup (pc := 97) dX4_init_97 rfl ?_
  refine zs_callN (pc := 98) (As := []) (rest := [rr K 38, .int (iz 9), rr K 21]) 18 464 dX4_init_98 zcX4_41 ziX3_init rfl rfl rfl rfl (Nat.le_of_ble_eq_true rfl) (k_X3 (d := d + 0)) ⟨rfl, rfl⟩ (by decide) (by decide) ?_
  refine zs_aast (pc := 101) 10 12 dX4_init_101 rfl (by decide) rfl (by decide) (by decide) (by decide) ⟨by decide, by decide⟩ ?_
  refine zs_iinc (pc := 102) (loc' := [(1, .int (iz 10)), (0, rr K 20)]) dX4_init_102 0 rfl (by decide) rfl ?_
  refine zs_goto (pc := 105) (tgt := 83) dX4_init_105 (by decide) ?_
  refine zs_iload (pc := 83) dX4_init_83 rfl 0 rfl ?_
  refine zs_bipush (pc := 84) dX4_init_84 (by decide) ?_
  refine zs_ge_yes (pc := 86) (tgt := 108) dX4_init_86 (by decide) ⟨by decide, by decide⟩ ⟨by decide, by decide⟩ (by decide) ?_
  exact zs_ret (pc := 108) rfl dX4_init_108 (by decide) (by decide) rfl
theorem k_X1_39 {K : zCx} {d : Nat} {lI lR : zLl} : zCs K (d + 1) 12 314 mX1_init [rr K 39] 43 lI lR (55, lI, (39, 15, 51) :: (39, 10, 50) :: (39, 9, 49) :: (39, 8, 48) :: (39, 7, 47) :: (39, 6, 46) :: (39, 5, 45) :: (39, 4, 44) :: (39, 3, 43) :: (39, 2, 42) :: (39, 1, 41) :: (39, 0, 40) :: lR) := by
  refine zCs.of (by decide +kernel) rfl (Nat.le_of_ble_eq_true rfl) ?_
  refine zs_aload (pc := 0) (a := 39) dX1_init_0 rfl 0 rfl ?_
  refine zs_obj (pc := 1) dX1_init_1 zoX1 zoI1 zoI2 (Nat.le_of_ble_eq_true rfl) (by omega) ?_
  refine zs_aload (pc := 4) (a := 39) dX1_init_4 rfl 0 rfl ?_
  refine zs_iconst (pc := 5) dX1_init_5 ?_
  refine zs_newI (pc := 6) 5 44 40 1 5 dX1_init_6 zaI rfl (by decide) rfl (by decide) (by decide) ⟨by decide, rfl, rfl, rfl⟩ ?_
  refine zs_putR (pc := 8) 0 0 dX1_init_8 zvX1_9 rfl (by decide) rfl rfl rfl rfl ?_
  refine zs_aload (pc := 11) (a := 39) dX1_init_11 rfl 0 rfl ?_
  refine zs_iconst (pc := 12) dX1_init_12 ?_
  refine zs_newI (pc := 13) 5 45 41 2 10 dX1_init_13 zaI rfl (by decide) rfl (by decide) (by decide) ⟨by decide, rfl, rfl, rfl⟩ ?_
  refine zs_putR (pc := 15) 1 1 dX1_init_15 zvX1_15 rfl (by decide) rfl rfl rfl rfl ?_
  refine zs_aload (pc := 18) (a := 39) dX1_init_18 rfl 0 rfl ?_
  refine zs_iconst (pc := 19) dX1_init_19 ?_
  refine zs_newI (pc := 20) 5 46 42 3 15 dX1_init_20 zaI rfl (by decide) rfl (by decide) (by decide) ⟨by decide, rfl, rfl, rfl⟩ ?_
  refine zs_putR (pc := 22) 2 2 dX1_init_22 zvX1_18 rfl (by decide) rfl rfl rfl rfl ?_
  refine zs_aload (pc := 25) (a := 39) dX1_init_25 rfl 0 rfl ?_
  refine zs_bipush (pc := 26) dX1_init_26 (by decide) ?_
  refine zs_newI (pc := 28) 10 47 43 4 25 dX1_init_28 zaI rfl (by decide) rfl (by decide) (by decide) ⟨by decide, rfl, rfl, rfl⟩ ?_
  refine zs_putR (pc := 30) 3 3 dX1_init_30 zvX1_21 rfl (by decide) rfl rfl rfl rfl ?_
  refine zs_aload (pc := 33) (a := 39) dX1_init_33 rfl 0 rfl ?_
  refine zs_bipush (pc := 34) dX1_init_34 (by decide) ?_
  refine zs_newI (pc := 36) 10 48 44 5 35 dX1_init_36 zaI rfl (by decide) rfl (by decide) (by decide) ⟨by decide, rfl, rfl, rfl⟩ ?_
  refine zs_putR (pc := 38) 4 4 dX1_init_38 zvX1_24 rfl (by decide) rfl rfl rfl rfl ?_
  refine zs_aload (pc := 41) (a := 39) dX1_init_41 rfl 0 rfl ?_
  refine zs_bipush (pc := 42) dX1_init_42 (by decide) ?_
  refine zs_newI (pc := 44) 10 49 45 6 45 dX1_init_44 zaI rfl (by decide) rfl (by decide) (by decide) ⟨by decide, rfl, rfl, rfl⟩ ?_
  refine zs_putR (pc := 46) 5 5 dX1_init_46 zvX1_27 rfl (by decide) rfl rfl rfl rfl ?_
  refine zs_aload (pc := 49) (a := 39) dX1_init_49 rfl 0 rfl ?_
  refine zs_bipush (pc := 50) dX1_init_50 (by decide) ?_
  refine zs_newI (pc := 52) 10 50 46 7 55 dX1_init_52 zaI rfl (by decide) rfl (by decide) (by decide) ⟨by decide, rfl, rfl, rfl⟩ ?_
  refine zs_putR (pc := 54) 6 6 dX1_init_54 zvX1_30 rfl (by decide) rfl rfl rfl rfl ?_
  refine zs_aload (pc := 57) (a := 39) dX1_init_57 rfl 0 rfl ?_
  refine zs_bipush (pc := 58) dX1_init_58 (by decide) ?_
  refine zs_newI (pc := 60) 10 51 47 8 65 dX1_init_60 zaI rfl (by decide) rfl (by decide) (by decide) ⟨by decide, rfl, rfl, rfl⟩ ?_
  refine zs_putR (pc := 62) 7 7 dX1_init_62 zvX1_33 rfl (by decide) rfl rfl rfl rfl ?_
  refine zs_aload (pc := 65) (a := 39) dX1_init_65 rfl 0 rfl ?_
  refine zs_bipush (pc := 66) dX1_init_66 (by decide) ?_
  refine zs_newI (pc := 68) 10 52 48 9 75 dX1_init_68 zaI rfl (by decide) rfl (by decide) (by decide) ⟨by decide, rfl, rfl, rfl⟩ ?_
  refine zs_putR (pc := 70) 8 8 dX1_init_70 zvX1_36 rfl (by decide) rfl rfl rfl rfl ?_
  refine zs_aload (pc := 73) (a := 39) dX1_init_73 rfl 0 rfl ?_
  refine zs_bipush (pc := 74) dX1_init_74 (by decide) ?_
  refine zs_newI (pc := 76) 10 53 49 10 85 dX1_init_76 zaI rfl (by decide) rfl (by decide) (by decide) ⟨by decide, rfl, rfl, rfl⟩ ?_
  refine zs_putR (pc := 78) 9 9 dX1_init_78 zvX1_39 rfl (by decide) rfl rfl rfl rfl ?_
  refine zs_aload (pc := 81) (a := 39) dX1_init_81 rfl 0 rfl ?_
  refine zs_sipush (pc := 82) dX1_init_82 (by decide) ?_
  refine zs_newL (pc := 85) 145 54 50 11 230 dX1_init_85 zaL rfl (by decide) rfl (by decide) (by decide) ⟨by decide, rfl, rfl, rfl⟩ ?_
  refine zs_putR (pc := 87) 10 10 dX1_init_87 zvX1_42 rfl (by decide) rfl rfl rfl rfl ?_
  refine zs_aload (pc := 90) (a := 39) dX1_init_90 rfl 0 rfl ?_
  refine zs_bipush (pc := 91) dX1_init_91 (by decide) ?_
  refine zs_newI (pc := 93) 84 55 51 12 314 dX1_init_93 zaI rfl (by decide) rfl (by decide) (by decide) ⟨by decide, rfl, rfl, rfl⟩ ?_
  refine zs_putR (pc := 95) 15 15 dX1_init_95 zvX1_46 rfl (by decide) rfl rfl rfl rfl ?_
  exact zs_ret (pc := 98) rfl dX1_init_98 (by decide) (by decide) rfl
theorem k_X8_73 {K : zCx} {d : Nat} {lI lR : zLl} : zCs K (d + 1) 2 229 mX8_init [rr K 73] 62 lI lR (64, lI, (73, 1, 75) :: (73, 0, 74) :: lR) := by
  refine zCs.of (by decide +kernel) rfl (Nat.le_of_ble_eq_true rfl) ?_
  refine zs_aload (pc := 0) (a := 73) dX8_init_0 rfl 0 rfl ?_
  refine zs_obj (pc := 1) dX8_init_1 zoX8 zoI1 zoI2 (Nat.le_of_ble_eq_true rfl) (by omega) ?_
  refine zs_aload (pc := 4) (a := 73) dX8_init_4 rfl 0 rfl ?_
  refine zs_sipush (pc := 5) dX8_init_5 (by decide) ?_
  refine zs_newI (pc := 8) 220 63 74 1 220 dX8_init_8 zaI rfl (by decide) rfl (by decide) (by decide) ⟨by decide, rfl, rfl, rfl⟩ ?_
  refine zs_putR (pc := 10) 0 0 dX8_init_10 zvX8_9 rfl (by decide) rfl rfl rfl rfl ?_
  refine zs_aload (pc := 13) (a := 73) dX8_init_13 rfl 0 rfl ?_
  refine zs_bipush (pc := 14) dX8_init_14 (by decide) ?_
  refine zs_newI (pc := 16) 9 64 75 2 229 dX8_init_16 zaI rfl (by decide) rfl (by decide) (by decide) ⟨by decide, rfl, rfl, rfl⟩ ?_
  refine zs_putR (pc := 18) 1 1 dX8_init_18 zvX8_15 rfl (by decide) rfl rfl rfl rfl ?_
  exact zs_ret (pc := 21) rfl dX8_init_21 (by decide) (by decide) rfl
theorem k_X4_67 {K : zCx} {d : Nat} {lI lR : zLl} : zCs K (d + 2) 18 464 mX4_init [rr K 67] 56 lI lR (74, (67, 10, 10) :: (72, 4, (-1)) :: (72, 3, (-1)) :: (72, 2, (-1)) :: (72, 1, (-1)) :: (72, 0, (-1)) :: lI, (68, 9, 85) :: (68, 8, 84) :: (68, 7, 83) :: (68, 6, 82) :: (68, 5, 81) :: (68, 4, 80) :: (68, 3, 79) :: (68, 2, 78) :: (68, 1, 77) :: (68, 0, 76) :: (67, 5, 73) :: (73, 1, 75) :: (73, 0, 74) :: (67, 4, 72) :: (67, 3, 71) :: (67, 2, 70) :: (67, 1, 69) :: (67, 0, 68) :: lR) := by
  refine zCs.of (by decide +kernel) rfl (Nat.le_of_ble_eq_true rfl) ?_
  refine zs_aload (pc := 0) (a := 67) dX4_init_0 rfl 0 rfl ?_
  refine zs_obj (pc := 1) dX4_init_1 zoX4 zoI1 zoI2 (Nat.le_of_ble_eq_true rfl) (by omega) ?_
  refine zs_aload (pc := 4) (a := 67) dX4_init_4 rfl 0 rfl ?_
  refine zs_bipush (pc := 5) dX4_init_5 (by decide) ?_
  refine zs_newQ (pc := 7) 10 57 68 1 10 dX4_init_7 zqX4_9 rfl (by decide) rfl (by decide) (by decide) ⟨by decide, rfl, rfl, rfl⟩ ?_
  refine zs_putR (pc := 10) 0 0 dX4_init_10 zvX4_11 rfl (by decide) rfl rfl rfl rfl ?_
  refine zs_aload (pc := 13) (a := 67) dX4_init_13 rfl 0 rfl ?_
  refine zs_bipush (pc := 14) dX4_init_14 (by decide) ?_
  refine zs_newI (pc := 16) 84 58 69 2 94 dX4_init_16 zaI rfl (by decide) rfl (by decide) (by decide) ⟨by decide, rfl, rfl, rfl⟩ ?_
  refine zs_putR (pc := 18) 1 1 dX4_init_18 zvX4_17 rfl (by decide) rfl rfl rfl rfl ?_
  refine zs_aload (pc := 21) (a := 67) dX4_init_21 rfl 0 rfl ?_
  refine zs_bipush (pc := 22) dX4_init_22 (by decide) ?_
  refine zs_newI (pc := 24) 6 59 70 3 100 dX4_init_24 zaI rfl (by decide) rfl (by decide) (by decide) ⟨by decide, rfl, rfl, rfl⟩ ?_
  refine zs_putR (pc := 26) 2 2 dX4_init_26 zvX4_21 rfl (by decide) rfl rfl rfl rfl ?_
  refine zs_aload (pc := 29) (a := 67) dX4_init_29 rfl 0 rfl ?_
  refine zs_bipush (pc := 30) dX4_init_30 (by decide) ?_
  refine zs_newI (pc := 32) 6 60 71 4 106 dX4_init_32 zaI rfl (by decide) rfl (by decide) (by decide) ⟨by decide, rfl, rfl, rfl⟩ ?_
  refine zs_putR (pc := 34) 3 3 dX4_init_34 zvX4_24 rfl (by decide) rfl rfl rfl rfl ?_
  refine zs_aload (pc := 37) (a := 67) dX4_init_37 rfl 0 rfl ?_
  refine zs_iconst (pc := 38) dX4_init_38 ?_
  refine zs_newI (pc := 39) 5 61 72 5 111 dX4_init_39 zaI rfl (by decide) rfl (by decide) (by decide) ⟨by decide, rfl, rfl, rfl⟩ ?_
  refine zs_dup (pc := 41) dX4_init_41 rfl ?_
  refine zs_iconst (pc := 42) dX4_init_42 ?_
  refine zs_iconst (pc := 43) dX4_init_43 ?_
  refine zs_iast (pc := 44) 5 dX4_init_44 rfl (by decide) (by decide) (by decide) ⟨by decide, by decide⟩ ?_
  refine zs_dup (pc := 45) dX4_init_45 rfl ?_
  refine zs_iconst (pc := 46) dX4_init_46 ?_
  refine zs_iconst (pc := 47) dX4_init_47 ?_
  refine zs_iast (pc := 48) 5 dX4_init_48 rfl (by decide) (by decide) (by decide) ⟨by decide, by decide⟩ ?_
  refine zs_dup (pc := 49) dX4_init_49 rfl ?_
  refine zs_iconst (pc := 50) dX4_init_50 ?_
  refine zs_iconst (pc := 51) dX4_init_51 ?_
  refine zs_iast (pc := 52) 5 dX4_init_52 rfl (by decide) (by decide) (by decide) ⟨by decide, by decide⟩ ?_
  refine zs_dup (pc := 53) dX4_init_53 rfl ?_
  refine zs_iconst (pc := 54) dX4_init_54 ?_
  refine zs_iconst (pc := 55) dX4_init_55 ?_
  refine zs_iast (pc := 56) 5 dX4_init_56 rfl (by decide) (by decide) (by decide) ⟨by decide, by decide⟩ ?_
  refine zs_dup (pc := 57) dX4_init_57 rfl ?_
  refine zs_iconst (pc := 58) dX4_init_58 ?_
  refine zs_iconst (pc := 59) dX4_init_59 ?_
  refine zs_iast (pc := 60) 5 dX4_init_60 rfl (by decide) (by decide) (by decide) ⟨by decide, by decide⟩ ?_
  refine zs_putR (pc := 61) 4 4 dX4_init_61 zvX4_27 rfl (by decide) rfl rfl rfl rfl ?_
  refine zs_aload (pc := 64) (a := 67) dX4_init_64 rfl 0 rfl ?_
  refine zs_newO (pc := 65) 8 4 62 73 6 115 dX4_init_65 zwX4_30 rfl (by decide) (by decide) ⟨by decide, rfl, rfl, rfl⟩ ?_
  refine zs_dup (pc := 68) dX4_init_68 rfl ?_
  refine zs_callN (pc := 69) (As := []) (rest := [rr K 73, rr K 67]) 8 344 dX4_init_69 zcX4_32 ziX8_init rfl rfl rfl rfl (Nat.le_of_ble_eq_true rfl) (k_X8_73 (d := d + 0)) ⟨rfl, rfl⟩ (by decide) (by decide) ?_
  refine zs_putR (pc := 72) 5 5 dX4_init_72 zvX4_33 rfl (by decide) rfl rfl rfl rfl ?_
  refine zs_aload (pc := 75) (a := 67) dX4_init_75 rfl 0 rfl ?_
  refine zs_bipush (pc := 76) dX4_init_76 (by decide) ?_
  refine zs_putI (pc := 78) 10 10 dX4_init_78 zvX4_37 rfl (by decide) rfl rfl rfl rfl ?_
  refine zs_iconst (pc := 81) dX4_init_81 ?_
  refine zs_istore (pc := 82) (loc' := [(1, .int (iz 0)), (0, rr K 67)]) dX4_init_82 rfl (by decide) rfl ?_
  refine zs_iload (pc := 83) dX4_init_83 rfl 0 rfl ?_
  refine zs_bipush (pc := 84) dX4_init_84 (by decide) ?_
  refine zs_ge_no (pc := 86) (tgt := 108) dX4_init_86 (by decide) ⟨by decide, by decide⟩ ⟨by decide, by decide⟩ (by decide) ?_
  refine zs_aload (pc := 89) (a := 67) dX4_init_89 rfl 1 rfl ?_
  refine zs_getR (pc := 90) 0 (b := 68) dX4_init_90 zfX4_11 rfl (by decide) rfl rfl ?_
  refine zs_iload (pc := 93) dX4_init_93 rfl 0 rfl ?_
  refine zs_newO (pc := 94) 3 12 65 76 9 356 dX4_init_94 zwX4_9 rfl (by decide) (by decide) ⟨by decide, rfl, rfl, rfl⟩ ?_
  refine zs_dup (pc := 97) dX4_init_97 rfl ?_
  refine zs_callN (pc := 98) (As := []) (rest := [rr K 76, .int (iz 0), rr K 68]) 9 356 dX4_init_98 zcX4_41 ziX3_init rfl rfl rfl rfl (Nat.le_of_ble_eq_true rfl) (k_X3 (d := d + 0)) ⟨rfl, rfl⟩ (by decide) (by decide) ?_
  refine zs_aast (pc := 101) 10 12 dX4_init_101 rfl (by decide) rfl (by decide) (by decide) (by decide) ⟨by decide, by decide⟩ ?_
  refine zs_iinc (pc := 102) (loc' := [(1, .int (iz 1)), (0, rr K 67)]) dX4_init_102 0 rfl (by decide) rfl ?_
  refine zs_goto (pc := 105) (tgt := 83) dX4_init_105 (by decide) ?_
  refine zs_iload (pc := 83) dX4_init_83 rfl 0 rfl ?_
  refine zs_bipush (pc := 84) dX4_init_84 (by decide) ?_
  refine zs_ge_no (pc := 86) (tgt := 108) dX4_init_86 (by decide) ⟨by decide, by decide⟩ ⟨by decide, by decide⟩ (by decide) ?_
  refine zs_aload (pc := 89) (a := 67) dX4_init_89 rfl 1 rfl ?_
  refine zs_getR (pc := 90) 0 (b := 68) dX4_init_90 zfX4_11 rfl (by decide) rfl rfl ?_
  refine zs_iload (pc := 93) dX4_init_93 rfl 0 rfl ?_
  refine zs_newO (pc := 94) 3 12 66 77 10 368 dX4_init_94 zwX4_9 rfl (by decide) (by decide) ⟨by decide, rfl, rfl, rfl⟩ ?_
  refine zs_dup (pc := 97) dX4_init_97 rfl ?_
  refine zs_callN (pc := 98) (As := []) (rest := [rr K 77, .int (iz 1), rr K 68]) 10 368 dX4_init_98 zcX4_41 ziX3_init rfl rfl rfl rfl (Nat.le_of_ble_eq_true rfl) (k_X3 (d := d + 0)) ⟨rfl, rfl⟩ (by decide) (by decide) ?_
  refine zs_aast (pc := 101) 10 12 dX4_init_101 rfl (by decide) rfl (by decide) (by decide) (by decide) ⟨by decide, by decide⟩ ?_
  refine zs_iinc (pc := 102) (loc' := [(1, .int (iz 2)), (0, rr K 67)]) dX4_init_102 0 rfl (by decide) rfl ?_
  refine zs_goto (pc := 105) (tgt := 83) dX4_init_105 (by decide) ?_
  refine zs_iload (pc := 83) dX4_init_83 rfl 0 rfl ?_
  refine zs_bipush (pc := 84) dX4_init_84 (by decide) ?_
  refine zs_ge_no (pc := 86) (tgt := 108) dX4_init_86 (by decide) ⟨by decide, by decide⟩ ⟨by decide, by decide⟩ (by decide) ?_
  refine zs_aload (pc := 89) (a := 67) dX4_init_89 rfl 1 rfl ?_
  refine zs_getR (pc := 90) 0 (b := 68) dX4_init_90 zfX4_11 rfl (by decide) rfl rfl ?_
  refine zs_iload (pc := 93) dX4_init_93 rfl 0 rfl ?_
  refine zs_newO (pc := 94) 3 12 67 78 11 380 dX4_init_94 zwX4_9 rfl (by decide) (by decide) ⟨by decide, rfl, rfl, rfl⟩ ?_
  refine zs_dup (pc := 97) dX4_init_97 rfl ?_
  refine zs_callN (pc := 98) (As := []) (rest := [rr K 78, .int (iz 2), rr K 68]) 11 380 dX4_init_98 zcX4_41 ziX3_init rfl rfl rfl rfl (Nat.le_of_ble_eq_true rfl) (k_X3 (d := d + 0)) ⟨rfl, rfl⟩ (by decide) (by decide) ?_
  refine zs_aast (pc := 101) 10 12 dX4_init_101 rfl (by decide) rfl (by decide) (by decide) (by decide) ⟨by decide, by decide⟩ ?_
  refine zs_iinc (pc := 102) (loc' := [(1, .int (iz 3)), (0, rr K 67)]) dX4_init_102 0 rfl (by decide) rfl ?_
  refine zs_goto (pc := 105) (tgt := 83) dX4_init_105 (by decide) ?_
  refine zs_iload (pc := 83) dX4_init_83 rfl 0 rfl ?_
  refine zs_bipush (pc := 84) dX4_init_84 (by decide) ?_
  refine zs_ge_no (pc := 86) (tgt := 108) dX4_init_86 (by decide) ⟨by decide, by decide⟩ ⟨by decide, by decide⟩ (by decide) ?_
  refine zs_aload (pc := 89) (a := 67) dX4_init_89 rfl 1 rfl ?_
  refine zs_getR (pc := 90) 0 (b := 68) dX4_init_90 zfX4_11 rfl (by decide) rfl rfl ?_
  refine zs_iload (pc := 93) dX4_init_93 rfl 0 rfl ?_
  refine zs_newO (pc := 94) 3 12 68 79 12 392 dX4_init_94 zwX4_9 rfl (by decide) (by decide) ⟨by decide, rfl, rfl, rfl⟩ ?_
  refine zs_dup (pc := 97) dX4_init_97 rfl ?_
  refine zs_callN (pc := 98) (As := []) (rest := [rr K 79, .int (iz 3), rr K 68]) 12 392 dX4_init_98 zcX4_41 ziX3_init rfl rfl rfl rfl (Nat.le_of_ble_eq_true rfl) (k_X3 (d := d + 0)) ⟨rfl, rfl⟩ (by decide) (by decide) ?_
  refine zs_aast (pc := 101) 10 12 dX4_init_101 rfl (by decide) rfl (by decide) (by decide) (by decide) ⟨by decide, by decide⟩ ?_
  refine zs_iinc (pc := 102) (loc' := [(1, .int (iz 4)), (0, rr K 67)]) dX4_init_102 0 rfl (by decide) rfl ?_
  refine zs_goto (pc := 105) (tgt := 83) dX4_init_105 (by decide) ?_
  refine zs_iload (pc := 83) dX4_init_83 rfl 0 rfl ?_
  refine zs_bipush (pc := 84) dX4_init_84 (by decide) ?_
  refine zs_ge_no (pc := 86) (tgt := 108) dX4_init_86 (by decide) ⟨by decide, by decide⟩ ⟨by decide, by decide⟩ (by decide) ?_
  refine zs_aload (pc := 89) (a := 67) dX4_init_89 rfl 1 rfl ?_
  refine zs_getR (pc := 90) 0 (b := 68) dX4_init_90 zfX4_11 rfl (by decide) rfl rfl ?_
  refine zs_iload (pc := 93) dX4_init_93 rfl 0 rfl ?_
  refine zs_newO (pc := 94) 3 12 69 80 13 404 dX4_init_94 zwX4_9 rfl (by decide) (by decide) ⟨by decide, rfl, rfl, rfl⟩ ?_
  refine zs_dup (pc := 97) dX4_init_97 rfl ?_
  refine zs_callN (pc := 98) (As := []) (rest := [rr K 80, .int (iz 4), rr K 68]) 13 404 dX4_init_98 zcX4_41 ziX3_init rfl rfl rfl rfl (Nat.le_of_ble_eq_true rfl) (k_X3 (d := d + 0)) ⟨rfl, rfl⟩ (by decide) (by decide) ?_
  refine zs_aast (pc := 101) 10 12 dX4_init_101 rfl (by decide) rfl (by decide) (by decide) (by decide) ⟨by decide, by decide⟩ ?_
  refine zs_iinc (pc := 102) (loc' := [(1, .int (iz 5)), (0, rr K 67)]) dX4_init_102 0 rfl (by decide) rfl ?_
  refine zs_goto (pc := 105) (tgt := 83) dX4_init_105 (by decide) ?_
  refine zs_iload (pc := 83) dX4_init_83 rfl 0 rfl ?_
  refine zs_bipush (pc := 84) dX4_init_84 (by decide) ?_
  refine zs_ge_no (pc := 86) (tgt := 108) dX4_init_86 (by decide) ⟨by decide, by decide⟩ ⟨by decide, by decide⟩ (by decide) ?_
  refine zs_aload (pc := 89) (a := 67) dX4_init_89 rfl 1 rfl ?_
  refine zs_getR (pc := 90) 0 (b := 68) dX4_init_90 zfX4_11 rfl (by decide) rfl rfl ?_
  refine zs_iload (pc := 93) dX4_init_93 rfl 0 rfl ?_
  refine zs_newO (pc := 94) 3 12 70 81 14 416 dX4_init_94 zwX4_9 rfl (by decide) (by decide) ⟨by decide, rfl, rfl, rfl⟩ ?_
  refine zs_dup (pc := 97) dX4_init_97 rfl ?_
  refine zs_callN (pc := 98) (As := []) (rest := [rr K 81, .int (iz 5), rr K 68]) 14 416 dX4_init_98 zcX4_41 ziX3_init rfl rfl rfl rfl (Nat.le_of_ble_eq_true rfl) (k_X3 (d := d + 0)) ⟨rfl, rfl⟩ (by decide) (by decide) ?_
  refine zs_aast (pc := 101) 10 12 dX4_init_101 rfl (by decide) rfl (by decide) (by decide) (by decide) ⟨by decide, by decide⟩ ?_
  refine zs_iinc (pc := 102) (loc' := [(1, .int (iz 6)), (0, rr K 67)]) dX4_init_102 0 rfl (by decide) rfl ?_
  refine zs_goto (pc := 105) (tgt := 83) dX4_init_105 (by decide) ?_
  refine zs_iload (pc := 83) dX4_init_83 rfl 0 rfl ?_
  refine zs_bipush (pc := 84) dX4_init_84 (by decide) ?_
  refine zs_ge_no (pc := 86) (tgt := 108) dX4_init_86 (by decide) ⟨by decide, by decide⟩ ⟨by decide, by decide⟩ (by decide) ?_
  refine zs_aload (pc := 89) (a := 67) dX4_init_89 rfl 1 rfl ?_
  refine zs_getR (pc := 90) 0 (b := 68) dX4_init_90 zfX4_11 rfl (by decide) rfl rfl ?_
  refine zs_iload (pc := 93) dX4_init_93 rfl 0 rfl ?_
  refine zs_newO (pc := 94) 3 12 71 82 15 428 dX4_init_94 zwX4_9 rfl (by decide) (by decide) ⟨by decide, rfl, rfl, rfl⟩ ?_
  refine zs_dup (pc := 97) dX4_init_97 rfl ?_
  refine zs_callN (pc := 98) (As := []) (rest := [rr K 82, .int (iz 6), rr K 68]) 15 428 dX4_init_98 zcX4_41 ziX3_init rfl rfl rfl rfl (Nat.le_of_ble_eq_true rfl) (k_X3 (d := d + 0)) ⟨rfl, rfl⟩ (by decide) (by decide) ?_
  refine zs_aast (pc := 101) 10 12 dX4_init_101 rfl (by decide) rfl (by decide) (by decide) (by decide) ⟨by decide, by decide⟩ ?_
  refine zs_iinc (pc := 102) (loc' := [(1, .int (iz 7)), (0, rr K 67)]) dX4_init_102 0 rfl (by decide) rfl ?_
  refine zs_goto (pc := 105) (tgt := 83) dX4_init_105 (by decide) ?_
  refine zs_iload (pc := 83) dX4_init_83 rfl 0 rfl ?_
  refine zs_bipush (pc := 84) dX4_init_84 (by decide) ?_
  refine zs_ge_no (pc := 86) (tgt := 108) dX4_init_86 (by decide) ⟨by decide, by decide⟩ ⟨by decide, by decide⟩ (by decide) ?_
  refine zs_aload (pc := 89) (a := 67) dX4_init_89 rfl 1 rfl ?_
  refine zs_getR (pc := 90) 0 (b := 68) dX4_init_90 zfX4_11 rfl (by decide) rfl rfl ?_
  refine zs_iload (pc := 93) dX4_init_93 rfl 0 rfl ?_
  refine zs_newO (pc := 94) 3 12 72 83 16 440 dX4_init_94 zwX4_9 rfl (by decide) (by decide) ⟨by decide, rfl, rfl, rfl⟩ ?_
  refine zs_dup (pc := 97) dX4_init_97 rfl ?_
  refine zs_callN (pc := 98) (As := []) (rest := [rr K 83, .int (iz 7), rr K 68]) 16 440 dX4_init_98 zcX4_41 ziX3_init rfl rfl rfl rfl (Nat.le_of_ble_eq_true rfl) (k_X3 (d := d + 0)) ⟨rfl, rfl⟩ (by decide) (by decide) ?_
  refine zs_aast (pc := 101) 10 12 dX4_init_101 rfl (by decide) rfl (by decide) (by decide) (by decide) ⟨by decide, by decide⟩ ?_
  refine zs_iinc (pc := 102) (loc' := [(1, .int (iz 8)), (0, rr K 67)]) dX4_init_102 0 rfl (by decide) rfl ?_
  refine zs_goto (pc := 105) (tgt := 83) dX4_init_105 (by decide) ?_
  refine zs_iload (pc := 83) dX4_init_83 rfl 0 rfl ?_
  refine zs_bipush (pc := 84) dX4_init_84 (by decide) ?_
  refine zs_ge_no (pc := 86) (tgt := 108) dX4_init_86 (by decide) ⟨by decide, by decide⟩ ⟨by decide, by decide⟩ (by decide) ?_
  refine zs_aload (pc := 89) (a := 67) dX4_init_89 rfl 1 rfl ?_
  refine zs_getR (pc := 90) 0 (b := 68) dX4_init_90 zfX4_11 rfl (by decide) rfl rfl ?_
  refine zs_iload (pc := 93) dX4_init_93 rfl 0 rfl ?_
  refine zs_newO (pc := 94) 3 12 73 84 17 452 dX4_init_94 zwX4_9 rfl (by decide) (by decide) ⟨by decide, rfl, rfl, rfl⟩ ?_
  refine zs_dup (pc := 97) dX4_init_97 rfl ?_
  refine zs_callN (pc := 98) (As := []) (rest := [rr K 84, .int (iz 8), rr K 68]) 17 452 dX4_init_98 zcX4_41 ziX3_init rfl rfl rfl rfl (Nat.le_of_ble_eq_true rfl) (k_X3 (d := d + 0)) ⟨rfl, rfl⟩ (by decide) (by decide) ?_
  refine zs_aast (pc := 101) 10 12 dX4_init_101 rfl (by decide) rfl (by decide) (by decide) (by decide) ⟨by decide, by decide⟩ ?_
  refine zs_iinc (pc := 102) (loc' := [(1, .int (iz 9)), (0, rr K 67)]) dX4_init_102 0 rfl (by decide) rfl ?_
  refine zs_goto (pc := 105) (tgt := 83) dX4_init_105 (by decide) ?_
  refine zs_iload (pc := 83) dX4_init_83 rfl 0 rfl ?_
  refine zs_bipush (pc := 84) dX4_init_84 (by decide) ?_
  refine zs_ge_no (pc := 86) (tgt := 108) dX4_init_86 (by decide) ⟨by decide, by decide⟩ ⟨by decide, by decide⟩ (by decide) ?_
  refine zs_aload (pc := 89) (a := 67) dX4_init_89 rfl 1 rfl ?_
  refine zs_getR (pc := 90) 0 (b := 68) dX4_init_90 zfX4_11 rfl (by decide) rfl rfl ?_
  refine zs_iload (pc := 93) dX4_init_93 rfl 0 rfl ?_
  refine zs_newO (pc := 94) 3 12 74 85 18 464 dX4_init_94 zwX4_9 rfl (by decide) (by decide) ⟨by decide, rfl, rfl, rfl⟩ ?_
  refine zs_dup (pc := 97) dX4_init_97 rfl ?_
  refine zs_callN (pc := 98) (As := []) (rest := [rr K 85, .int (iz 9), rr K 68]) 18 464 dX4_init_98 zcX4_41 ziX3_init rfl rfl rfl rfl (Nat.le_of_ble_eq_true rfl) (k_X3 (d := d + 0)) ⟨rfl, rfl⟩ (by decide) (by decide) ?_
  refine zs_aast (pc := 101) 10 12 dX4_init_101 rfl (by decide) rfl (by decide) (by decide) (by decide) ⟨by decide, by decide⟩ ?_
  refine zs_iinc (pc := 102) (loc' := [(1, .int (iz 10)), (0, rr K 67)]) dX4_init_102 0 rfl (by decide) rfl ?_
  refine zs_goto (pc := 105) (tgt := 83) dX4_init_105 (by decide) ?_
  refine zs_iload (pc := 83) dX4_init_83 rfl 0 rfl ?_
  refine zs_bipush (pc := 84) dX4_init_84 (by decide) ?_
  refine zs_ge_yes (pc := 86) (tgt := 108) dX4_init_86 (by decide) ⟨by decide, by decide⟩ ⟨by decide, by decide⟩ (by decide) ?_
  exact zs_ret (pc := 108) rfl dX4_init_108 (by decide) (by decide) rfl
theorem k_X7_64 {K : zCx} {d : Nat} {lI lR : zLl} : zCs K (d + 3) 35 845 mX7_init [rr K 64] 40 lI lR (75, (67, 10, 10) :: (72, 4, (-1)) :: (72, 3, (-1)) :: (72, 2, (-1)) :: (72, 1, (-1)) :: (72, 0, (-1)) :: lI, (64, 6, 86) :: (64, 5, 67) :: (68, 9, 85) :: (68, 8, 84) :: (68, 7, 83) :: (68, 6, 82) :: (68, 5, 81) :: (68, 4, 80) :: (68, 3, 79) :: (68, 2, 78) :: (68, 1, 77) :: (68, 0, 76) :: (67, 5, 73) :: (73, 1, 75) :: (73, 0, 74) :: (67, 4, 72) :: (67, 3, 71) :: (67, 2, 70) :: (67, 1, 69) :: (67, 0, 68) :: (64, 2, 39) :: (39, 15, 51) :: (39, 10, 50) :: (39, 9, 49) :: (39, 8, 48) :: (39, 7, 47) :: (39, 6, 46) :: (39, 5, 45) :: (39, 4, 44) :: (39, 3, 43) :: (39, 2, 42) :: (39, 1, 41) :: (39, 0, 40) :: (64, 1, 66) :: (64, 0, 65) :: lR) := by
  refine zCs.of (by decide +kernel) rfl (Nat.le_of_ble_eq_true rfl) ?_
  refine zs_aload (pc := 0) (a := 64) dX7_init_0 rfl 0 rfl ?_
  refine zs_obj (pc := 1) dX7_init_1 zoX7 zoI1 zoI2 (Nat.le_of_ble_eq_true rfl) (by omega) ?_
  refine zs_aload (pc := 4) (a := 64) dX7_init_4 rfl 0 rfl ?_
  refine zs_iconst (pc := 5) dX7_init_5 ?_
  refine zs_newI (pc := 6) 4 41 65 1 4 dX7_init_6 zaI rfl (by decide) rfl (by decide) (by decide) ⟨by decide, rfl, rfl, rfl⟩ ?_
  refine zs_putR (pc := 8) 0 0 dX7_init_8 zvX7_9 rfl (by decide) rfl rfl rfl rfl ?_
  refine zs_aload (pc := 11) (a := 64) dX7_init_11 rfl 0 rfl ?_
  refine zs_iconst (pc := 12) dX7_init_12 ?_
  refine zs_newI (pc := 13) 4 42 66 2 8 dX7_init_13 zaI rfl (by decide) rfl (by decide) (by decide) ⟨by decide, rfl, rfl, rfl⟩ ?_
  refine zs_putR (pc := 15) 1 1 dX7_init_15 zvX7_15 rfl (by decide) rfl rfl rfl rfl ?_
  refine zs_aload (pc := 18) (a := 64) dX7_init_18 rfl 0 rfl ?_
  refine zs_newO (pc := 19) 1 16 43 39 3 24 dX7_init_19 zwX7_18 rfl (by decide) (by decide) ⟨by decide, rfl, rfl, rfl⟩ ?_
  refine zs_dup (pc := 22) dX7_init_22 rfl ?_
  refine zs_callN (pc := 23) (As := []) (rest := [rr K 39, rr K 64]) 15 338 dX7_init_23 zcX7_20 ziX1_init rfl rfl rfl rfl (Nat.le_of_ble_eq_true rfl) (k_X1_39 (d := d + 1)) ⟨rfl, rfl⟩ (by decide) (by decide) ?_
  refine zs_putR (pc := 26) 2 2 dX7_init_26 zvX7_21 rfl (by decide) rfl rfl rfl rfl ?_
  refine zs_aload (pc := 29) (a := 64) dX7_init_29 rfl 0 rfl ?_
  refine zs_newO (pc := 30) 4 11 56 67 16 349 dX7_init_30 zwX7_25 rfl (by decide) (by decide) ⟨by decide, rfl, rfl, rfl⟩ ?_
  refine zs_dup (pc := 33) dX7_init_33 rfl ?_
  refine zs_call (pc := 34) (As := []) (rest := [rr K 67, rr K 64]) 34 813 dX7_init_34 zcX7_27 ziX4_init rfl rfl rfl rfl (Nat.le_of_ble_eq_true rfl) (k_X4_67 (d := d + 0)) ⟨rfl, rfl⟩ (by decide) (by decide) ?_
  refine zs_putR (pc := 37) 5 5 dX7_init_37 zvX7_28 rfl (by decide) rfl rfl rfl rfl ?_
  refine zs_aload (pc := 40) (a := 64) dX7_init_40 rfl 0 rfl ?_
  refine zs_bipush (pc := 41) dX7_init_41 (by decide) ?_
  refine zs_newI (pc := 43) 32 75 86 35 845 dX7_init_43 zaI rfl (by decide) rfl (by decide) (by decide) ⟨by decide, rfl, rfl, rfl⟩ ?_
  refine zs_putR (pc := 45) 6 6 dX7_init_45 zvX7_32 rfl (by decide) rfl rfl rfl rfl ?_
  exact zs_ret (pc := 48) rfl dX7_init_48 (by decide) (by decide) rfl
theorem k_X6_52 {K : zCx} {d : Nat} {lI lR : zLl} : zCs K (d + 1) 3 40 mX6_init [rr K 52] 76 lI lR (79, lI, (52, 2, 55) :: (52, 1, 54) :: (52, 0, 53) :: lR) := by
  refine zCs.of (by decide +kernel) rfl (Nat.le_of_ble_eq_true rfl) ?_
  refine zs_aload (pc := 0) (a := 52) dX6_init_0 rfl 0 rfl ?_
  refine zs_obj (pc := 1) dX6_init_1 zoX6 zoI1 zoI2 (Nat.le_of_ble_eq_true rfl) (by omega) ?_
  refine zs_aload (pc := 4) (a := 52) dX6_init_4 rfl 0 rfl ?_
  refine zs_bipush (pc := 5) dX6_init_5 (by decide) ?_
  refine zs_newI (pc := 7) 10 77 53 1 10 dX6_init_7 zaI rfl (by decide) rfl (by decide) (by decide) ⟨by decide, rfl, rfl, rfl⟩ ?_
  refine zs_putR (pc := 9) 0 0 dX6_init_9 zvX6_9 rfl (by decide) rfl rfl rfl rfl ?_
  refine zs_aload (pc := 12) (a := 52) dX6_init_12 rfl 0 rfl ?_
  refine zs_iconst (pc := 13) dX6_init_13 ?_
  refine zs_newI (pc := 14) 5 78 54 2 15 dX6_init_14 zaI rfl (by decide) rfl (by decide) (by decide) ⟨by decide, rfl, rfl, rfl⟩ ?_
  refine zs_putR (pc := 16) 1 1 dX6_init_16 zvX6_15 rfl (by decide) rfl rfl rfl rfl ?_
  refine zs_aload (pc := 19) (a := 52) dX6_init_19 rfl 0 rfl ?_
  refine zs_bipush (pc := 20) dX6_init_20 (by decide) ?_
  refine zs_newI (pc := 22) 25 79 55 3 40 dX6_init_22 zaI rfl (by decide) rfl (by decide) (by decide) ⟨by decide, rfl, rfl, rfl⟩ ?_
  refine zs_putR (pc := 24) 2 2 dX6_init_24 zvX6_18 rfl (by decide) rfl rfl rfl rfl ?_
  exact zs_ret (pc := 27) rfl dX6_init_27 (by decide) (by decide) rfl
theorem k_X8_58 {K : zCx} {d : Nat} {lI lR : zLl} : zCs K (d + 1) 2 229 mX8_init [rr K 58] 82 lI lR (84, lI, (58, 1, 60) :: (58, 0, 59) :: lR) := by
  refine zCs.of (by decide +kernel) rfl (Nat.le_of_ble_eq_true rfl) ?_
  refine zs_aload (pc := 0) (a := 58) dX8_init_0 rfl 0 rfl ?_
  refine zs_obj (pc := 1) dX8_init_1 zoX8 zoI1 zoI2 (Nat.le_of_ble_eq_true rfl) (by omega) ?_
  refine zs_aload (pc := 4) (a := 58) dX8_init_4 rfl 0 rfl ?_
  refine zs_sipush (pc := 5) dX8_init_5 (by decide) ?_
  refine zs_newI (pc := 8) 220 83 59 1 220 dX8_init_8 zaI rfl (by decide) rfl (by decide) (by decide) ⟨by decide, rfl, rfl, rfl⟩ ?_
  refine zs_putR (pc := 10) 0 0 dX8_init_10 zvX8_9 rfl (by decide) rfl rfl rfl rfl ?_
  refine zs_aload (pc := 13) (a := 58) dX8_init_13 rfl 0 rfl ?_
  refine zs_bipush (pc := 14) dX8_init_14 (by decide) ?_
  refine zs_newI (pc := 16) 9 84 60 2 229 dX8_init_16 zaI rfl (by decide) rfl (by decide) (by decide) ⟨by decide, rfl, rfl, rfl⟩ ?_
  refine zs_putR (pc := 18) 1 1 dX8_init_18 zvX8_15 rfl (by decide) rfl rfl rfl rfl ?_
  exact zs_ret (pc := 21) rfl dX8_init_21 (by decide) (by decide) rfl
theorem k_X5_56 {K : zCx} {d : Nat} {lI lR : zLl} : zCs K (d + 2) 7 1116 mX5_init [rr K 56] 80 lI lR (87, lI, (56, 5, 63) :: (56, 4, 62) :: (56, 3, 61) :: (56, 1, 58) :: (58, 1, 60) :: (58, 0, 59) :: (56, 0, 57) :: lR) := by
  refine zCs.of (by decide +kernel) rfl (Nat.le_of_ble_eq_true rfl) ?_
  refine zs_aload (pc := 0) (a := 56) dX5_init_0 rfl 0 rfl ?_
  refine zs_obj (pc := 1) dX5_init_1 zoX5 zoI1 zoI2 (Nat.le_of_ble_eq_true rfl) (by omega) ?_
  refine zs_aload (pc := 4) (a := 56) dX5_init_4 rfl 0 rfl ?_
  refine zs_sipush (pc := 5) dX5_init_5 (by decide) ?_
  refine zs_newI (pc := 8) 220 81 57 1 220 dX5_init_8 zaI rfl (by decide) rfl (by decide) (by decide) ⟨by decide, rfl, rfl, rfl⟩ ?_
  refine zs_putR (pc := 10) 0 0 dX5_init_10 zvX5_9 rfl (by decide) rfl rfl rfl rfl ?_
  refine zs_aload (pc := 13) (a := 56) dX5_init_13 rfl 0 rfl ?_
  refine zs_newO (pc := 14) 8 4 82 58 2 224 dX5_init_14 zwX5_15 rfl (by decide) (by decide) ⟨by decide, rfl, rfl, rfl⟩ ?_
  refine zs_dup (pc := 17) dX5_init_17 rfl ?_
  refine zs_callN (pc := 18) (As := []) (rest := [rr K 58, rr K 56]) 4 453 dX5_init_18 zcX5_17 ziX8_init rfl rfl rfl rfl (Nat.le_of_ble_eq_true rfl) (k_X8_58 (d := d + 0)) ⟨rfl, rfl⟩ (by decide) (by decide) ?_
  refine zs_putR (pc := 21) 1 1 dX5_init_21 zvX5_18 rfl (by decide) rfl rfl rfl rfl ?_
  refine zs_aload (pc := 24) (a := 56) dX5_init_24 rfl 0 rfl ?_
  refine zs_sipush (pc := 25) dX5_init_25 (by decide) ?_
  refine zs_newI (pc := 28) 221 85 61 5 674 dX5_init_28 zaI rfl (by decide) rfl (by decide) (by decide) ⟨by decide, rfl, rfl, rfl⟩ ?_
  refine zs_putR (pc := 30) 3 3 dX5_init_30 zvX5_22 rfl (by decide) rfl rfl rfl rfl ?_
  refine zs_aload (pc := 33) (a := 56) dX5_init_33 rfl 0 rfl ?_
  refine zs_sipush (pc := 34) dX5_init_34 (by decide) ?_
  refine zs_newI (pc := 37) 221 86 62 6 895 dX5_init_37 zaI rfl (by decide) rfl (by decide) (by decide) ⟨by decide, rfl, rfl, rfl⟩ ?_
  refine zs_putR (pc := 39) 4 4 dX5_init_39 zvX5_25 rfl (by decide) rfl rfl rfl rfl ?_
  refine zs_aload (pc := 42) (a := 56) dX5_init_42 rfl 0 rfl ?_
  refine zs_sipush (pc := 43) dX5_init_43 (by decide) ?_
  refine zs_newI (pc := 46) 221 87 63 7 1116 dX5_init_46 zaI rfl (by decide) rfl (by decide) (by decide) ⟨by decide, rfl, rfl, rfl⟩ ?_
  refine zs_putR (pc := 48) 5 5 dX5_init_48 zvX5_28 rfl (by decide) rfl rfl rfl rfl ?_
  exact zs_ret (pc := 51) rfl dX5_init_51 (by decide) (by decide) rfl
theorem k_X2_87 {K : zCx} {d : Nat} {lI lR : zLl} : zCs K (d + 1) 6 180 mX2_init [rr K 87] 88 lI lR (94, (92, 3, (-1)) :: (92, 2, (-1)) :: (92, 1, (-1)) :: (92, 0, (-1)) :: (91, 3, (-1)) :: (91, 2, (-1)) :: (91, 1, (-1)) :: (91, 0, (-1)) :: (88, 3, (-1)) :: (88, 2, (-1)) :: (88, 1, (-1)) :: (88, 0, (-1)) :: lI, (87, 5, 93) :: (87, 4, 92) :: (87, 3, 91) :: (87, 2, 90) :: (87, 1, 89) :: (87, 0, 88) :: lR) := by
  refine zCs.of (by decide +kernel) rfl (Nat.le_of_ble_eq_true rfl) ?_
  refine zs_aload (pc := 0) (a := 87) dX2_init_0 rfl 0 rfl ?_
  refine zs_obj (pc := 1) dX2_init_1 zoX2 zoI1 zoI2 (Nat.le_of_ble_eq_true rfl) (by omega) ?_
  refine zs_aload (pc := 4) (a := 87) dX2_init_4 rfl 0 rfl ?_
  refine zs_iconst (pc := 5) dX2_init_5 ?_
  refine zs_newI (pc := 6) 4 89 88 1 4 dX2_init_6 zaI rfl (by decide) rfl (by decide) (by decide) ⟨by decide, rfl, rfl, rfl⟩ ?_
  refine zs_dup (pc := 8) dX2_init_8 rfl ?_
  refine zs_iconst (pc := 9) dX2_init_9 ?_
  refine zs_iconst (pc := 10) dX2_init_10 ?_
  refine zs_iast (pc := 11) 4 dX2_init_11 rfl (by decide) (by decide) (by decide) ⟨by decide, by decide⟩ ?_
  refine zs_dup (pc := 12) dX2_init_12 rfl ?_
  refine zs_iconst (pc := 13) dX2_init_13 ?_
  refine zs_iconst (pc := 14) dX2_init_14 ?_
  refine zs_iast (pc := 15) 4 dX2_init_15 rfl (by decide) (by decide) (by decide) ⟨by decide, by decide⟩ ?_
  refine zs_dup (pc := 16) dX2_init_16 rfl ?_
  refine zs_iconst (pc := 17) dX2_init_17 ?_
  refine zs_iconst (pc := 18) dX2_init_18 ?_
  refine zs_iast (pc := 19) 4 dX2_init_19 rfl (by decide) (by decide) (by decide) ⟨by decide, by decide⟩ ?_
  refine zs_dup (pc := 20) dX2_init_20 rfl ?_
  refine zs_iconst (pc := 21) dX2_init_21 ?_
  refine zs_iconst (pc := 22) dX2_init_22 ?_
  refine zs_iast (pc := 23) 4 dX2_init_23 rfl (by decide) (by decide) (by decide) ⟨by decide, by decide⟩ ?_
  refine zs_putR (pc := 24) 0 0 dX2_init_24 zvX2_9 rfl (by decide) rfl rfl rfl rfl ?_
  refine zs_aload (pc := 27) (a := 87) dX2_init_27 rfl 0 rfl ?_
  refine zs_iconst (pc := 28) dX2_init_28 ?_
  refine zs_newI (pc := 29) 4 90 89 2 8 dX2_init_29 zaI rfl (by decide) rfl (by decide) (by decide) ⟨by decide, rfl, rfl, rfl⟩ ?_
  refine zs_putR (pc := 31) 1 1 dX2_init_31 zvX2_15 rfl (by decide) rfl rfl rfl rfl ?_
  refine zs_aload (pc := 34) (a := 87) dX2_init_34 rfl 0 rfl ?_
  refine zs_sipush (pc := 35) dX2_init_35 (by decide) ?_
  refine zs_newI (pc := 38) 160 91 90 3 168 dX2_init_38 zaI rfl (by decide) rfl (by decide) (by decide) ⟨by decide, rfl, rfl, rfl⟩ ?_
  refine zs_putR (pc := 40) 2 2 dX2_init_40 zvX2_18 rfl (by decide) rfl rfl rfl rfl ?_
  refine zs_aload (pc := 43) (a := 87) dX2_init_43 rfl 0 rfl ?_
  refine zs_iconst (pc := 44) dX2_init_44 ?_
  refine zs_newI (pc := 45) 4 92 91 4 172 dX2_init_45 zaI rfl (by decide) rfl (by decide) (by decide) ⟨by decide, rfl, rfl, rfl⟩ ?_
  refine zs_dup (pc := 47) dX2_init_47 rfl ?_
  refine zs_iconst (pc := 48) dX2_init_48 ?_
  refine zs_iconst (pc := 49) dX2_init_49 ?_
  refine zs_iast (pc := 50) 4 dX2_init_50 rfl (by decide) (by decide) (by decide) ⟨by decide, by decide⟩ ?_
  refine zs_dup (pc := 51) dX2_init_51 rfl ?_
  refine zs_iconst (pc := 52) dX2_init_52 ?_
  refine zs_iconst (pc := 53) dX2_init_53 ?_
  refine zs_iast (pc := 54) 4 dX2_init_54 rfl (by decide) (by decide) (by decide) ⟨by decide, by decide⟩ ?_
  refine zs_dup (pc := 55) dX2_init_55 rfl ?_
  refine zs_iconst (pc := 56) dX2_init_56 ?_
  refine zs_iconst (pc := 57) dX2_init_57 ?_
  refine zs_iast (pc := 58) 4 dX2_init_58 rfl (by decide) (by decide) (by decide) ⟨by decide, by decide⟩ ?_
  refine zs_dup (pc := 59) dX2_init_59 rfl ?_
  refine zs_iconst (pc := 60) dX2_init_60 ?_
  refine zs_iconst (pc := 61) dX2_init_61 ?_
  refine zs_iast (pc := 62) 4 dX2_init_62 rfl (by decide) (by decide) (by decide) ⟨by decide, by decide⟩ ?_
  refine zs_putR (pc := 63) 3 3 dX2_init_63 zvX2_21 rfl (by decide) rfl rfl rfl rfl ?_
  refine zs_aload (pc := 66) (a := 87) dX2_init_66 rfl 0 rfl ?_
  refine zs_iconst (pc := 67) dX2_init_67 ?_
  refine zs_newI (pc := 68) 4 93 92 5 176 dX2_init_68 zaI rfl (by decide) rfl (by decide) (by decide) ⟨by decide, rfl, rfl, rfl⟩ ?_
  refine zs_dup (pc := 70) dX2_init_70 rfl ?_
  refine zs_iconst (pc := 71) dX2_init_71 ?_
  refine zs_iconst (pc := 72) dX2_init_72 ?_
  refine zs_iast (pc := 73) 4 dX2_init_73 rfl (by decide) (by decide) (by decide) ⟨by decide, by decide⟩ ?_
  refine zs_dup (pc := 74) dX2_init_74 rfl ?_
  refine zs_iconst (pc := 75) dX2_init_75 ?_
  refine zs_iconst (pc := 76) dX2_init_76 ?_
  refine zs_iast (pc := 77) 4 dX2_init_77 rfl (by decide) (by decide) (by decide) ⟨by decide, by decide⟩ ?_
  refine zs_dup (pc := 78) dX2_init_78 rfl ?_
  refine zs_iconst (pc := 79) dX2_init_79 ?_
  refine zs_iconst (pc := 80) dX2_init_80 ?_
  refine zs_iast (pc := 81) 4 dX2_init_81 rfl (by decide) (by decide) (by decide) ⟨by decide, by decide⟩ ?_
  refine zs_dup (pc := 82) dX2_init_82 rfl ?_
  refine zs_iconst (pc := 83) dX2_init_83 ?_
  refine zs_iconst (pc := 84) dX2_init_84 ?_
  refine zs_iast (pc := 85) 4 dX2_init_85 rfl (by decide) (by decide) (by decide) ⟨by decide, by decide⟩ ?_
  refine zs_putR (pc := 86) 4 4 dX2_init_86 zvX2_24 rfl (by decide) rfl rfl rfl rfl ?_
  refine zs_aload (pc := 89) (a := 87) dX2_init_89 rfl 0 rfl ?_
  refine zs_iconst (pc := 90) dX2_init_90 ?_
  refine zs_newI (pc := 91) 4 94 93 6 180 dX2_init_91 zaI rfl (by decide) rfl (by decide) (by decide) ⟨by decide, rfl, rfl, rfl⟩ ?_
  refine zs_putR (pc := 93) 5 5 dX2_init_93 zvX2_27 rfl (by decide) rfl rfl rfl rfl ?_
  exact zs_ret (pc := 96) rfl dX2_init_96 (by decide) (by decide) rfl
theorem k_X0_94 {K : zCx} {d : Nat} {lI lR : zLl} : zCs K (d + 1) 1 30 mX0_init [rr K 94] 95 lI lR (96, lI, (94, 0, 95) :: lR) := by
  refine zCs.of (by decide +kernel) rfl (Nat.le_of_ble_eq_true rfl) ?_
  refine zs_aload (pc := 0) (a := 94) dX0_init_0 rfl 0 rfl ?_
  refine zs_obj (pc := 1) dX0_init_1 zoX0 zoI1 zoI2 (Nat.le_of_ble_eq_true rfl) (by omega) ?_
  refine zs_aload (pc := 4) (a := 94) dX0_init_4 rfl 0 rfl ?_
  refine zs_bipush (pc := 5) dX0_init_5 (by decide) ?_
  refine zs_newI (pc := 7) 30 96 95 1 30 dX0_init_7 zaI rfl (by decide) rfl (by decide) (by decide) ⟨by decide, rfl, rfl, rfl⟩ ?_
  refine zs_putR (pc := 9) 0 0 dX0_init_9 zvX0_9 rfl (by decide) rfl rfl rfl rfl ?_
  exact zs_ret (pc := 12) rfl dX0_init_12 (by decide) (by decide) rfl
theorem k_X9_0 {K : zCx} {d : Nat} {lI lR : zLl} : zCs K (d + 4) 97 3204 mX9_init [rr K 0] 1 lI lR (98, (0, 11, 0) :: (0, 10, 0) :: (92, 3, (-1)) :: (92, 2, (-1)) :: (92, 1, (-1)) :: (92, 0, (-1)) :: (91, 3, (-1)) :: (91, 2, (-1)) :: (91, 1, (-1)) :: (91, 0, (-1)) :: (88, 3, (-1)) :: (88, 2, (-1)) :: (88, 1, (-1)) :: (88, 0, (-1)) :: (67, 10, 10) :: (72, 4, (-1)) :: (72, 3, (-1)) :: (72, 2, (-1)) :: (72, 1, (-1)) :: (72, 0, (-1)) :: (20, 10, 10) :: (25, 4, (-1)) :: (25, 3, (-1)) :: (25, 2, (-1)) :: (25, 1, (-1)) :: (25, 0, (-1)) :: (1, 10, 10) :: (6, 4, (-1)) :: (6, 3, (-1)) :: (6, 2, (-1)) :: (6, 1, (-1)) :: (6, 0, (-1)) :: lI, (0, 9, 97) :: (0, 8, 96) :: (0, 7, 94) :: (94, 0, 95) :: (0, 6, 87) :: (87, 5, 93) :: (87, 4, 92) :: (87, 3, 91) :: (87, 2, 90) :: (87, 1, 89) :: (87, 0, 88) :: (0, 5, 56) :: (56, 5, 63) :: (56, 4, 62) :: (56, 3, 61) :: (56, 1, 58) :: (58, 1, 60) :: (58, 0, 59) :: (56, 0, 57) :: (0, 4, 52) :: (52, 2, 55) :: (52, 1, 54) :: (52, 0, 53) :: (0, 3, 39) :: (0, 2, 64) :: (64, 6, 86) :: (64, 5, 67) :: (68, 9, 85) :: (68, 8, 84) :: (68, 7, 83) :: (68, 6, 82) :: (68, 5, 81) :: (68, 4, 80) :: (68, 3, 79) :: (68, 2, 78) :: (68, 1, 77) :: (68, 0, 76) :: (67, 5, 73) :: (73, 1, 75) :: (73, 0, 74) :: (67, 4, 72) :: (67, 3, 71) :: (67, 2, 70) :: (67, 1, 69) :: (67, 0, 68) :: (64, 2, 39) :: (39, 15, 51) :: (39, 10, 50) :: (39, 9, 49) :: (39, 8, 48) :: (39, 7, 47) :: (39, 6, 46) :: (39, 5, 45) :: (39, 4, 44) :: (39, 3, 43) :: (39, 2, 42) :: (39, 1, 41) :: (39, 0, 40) :: (64, 1, 66) :: (64, 0, 65) :: (0, 1, 20) :: (21, 9, 38) :: (21, 8, 37) :: (21, 7, 36) :: (21, 6, 35) :: (21, 5, 34) :: (21, 4, 33) :: (21, 3, 32) :: (21, 2, 31) :: (21, 1, 30) :: (21, 0, 29) :: (20, 5, 26) :: (26, 1, 28) :: (26, 0, 27) :: (20, 4, 25) :: (20, 3, 24) :: (20, 2, 23) :: (20, 1, 22) :: (20, 0, 21) :: (0, 0, 1) :: (2, 9, 19) :: (2, 8, 18) :: (2, 7, 17) :: (2, 6, 16) :: (2, 5, 15) :: (2, 4, 14) :: (2, 3, 13) :: (2, 2, 12) :: (2, 1, 11) :: (2, 0, 10) :: (1, 5, 7) :: (7, 1, 9) :: (7, 0, 8) :: (1, 4, 6) :: (1, 3, 5) :: (1, 2, 4) :: (1, 1, 3) :: (1, 0, 2) :: lR) := by
  refine zCs.of (by decide +kernel) rfl (Nat.le_of_ble_eq_true rfl) ?_
  refine zs_aload (pc := 0) (a := 0) dX9_init_0 rfl 0 rfl ?_
  refine zs_obj (pc := 1) dX9_init_1 zoX9 zoI1 zoI2 (Nat.le_of_ble_eq_true rfl) (by omega) ?_
  refine zs_aload (pc := 4) (a := 0) dX9_init_4 rfl 0 rfl ?_
  refine zs_newO (pc := 5) 4 11 2 1 1 11 dX9_init_5 zwX9_7 rfl (by decide) (by decide) ⟨by decide, rfl, rfl, rfl⟩ ?_
  refine zs_dup (pc := 8) dX9_init_8 rfl ?_
  refine zs_call (pc := 9) (As := []) (rest := [rr K 1, rr K 0]) 19 475 dX9_init_9 zcX9_9 ziX4_init rfl rfl rfl rfl (Nat.le_of_ble_eq_true rfl) (k_X4_1 (d := d + 1)) ⟨rfl, rfl⟩ (by decide) (by decide) ?_
  refine zs_putR (pc := 12) 0 0 dX9_init_12 zvX9_10 rfl (by decide) rfl rfl rfl rfl ?_
  refine zs_aload (pc := 15) (a := 0) dX9_init_15 rfl 0 rfl ?_
  refine zs_newO (pc := 16) 4 11 21 20 20 486 dX9_init_16 zwX9_7 rfl (by decide) (by decide) ⟨by decide, rfl, rfl, rfl⟩ ?_
  refine zs_dup (pc := 19) dX9_init_19 rfl ?_
  refine zs_call (pc := 20) (As := []) (rest := [rr K 20, rr K 0]) 38 950 dX9_init_20 zcX9_9 ziX4_init rfl rfl rfl rfl (Nat.le_of_ble_eq_true rfl) (k_X4_20 (d := d + 1)) ⟨rfl, rfl⟩ (by decide) (by decide) ?_
  refine zs_putR (pc := 23) 1 1 dX9_init_23 zvX9_16 rfl (by decide) rfl rfl rfl rfl ?_
  refine zs_aload (pc := 26) (a := 0) dX9_init_26 rfl 0 rfl ?_
  refine zs_newO (pc := 27) 7 7 40 64 39 957 dX9_init_27 zwX9_19 rfl (by decide) (by decide) ⟨by decide, rfl, rfl, rfl⟩ ?_
  refine zs_dup (pc := 30) dX9_init_30 rfl ?_
  refine zs_callN (pc := 31) (As := []) (rest := [rr K 64, rr K 0]) 74 1802 dX9_init_31 zcX9_21 ziX7_init rfl rfl rfl rfl (Nat.le_of_ble_eq_true rfl) (k_X7_64 (d := d + 0)) ⟨rfl, rfl⟩ (by decide) (by decide) ?_
  refine zs_putR (pc := 34) 2 2 dX9_init_34 zvX9_22 rfl (by decide) rfl rfl rfl rfl ?_
  refine zs_aload (pc := 37) (a := 0) dX9_init_37 rfl 0 rfl ?_
  refine zs_aload (pc := 38) (a := 0) dX9_init_38 rfl 0 rfl ?_
  refine zs_getR (pc := 39) 2 (b := 64) dX9_init_39 zfX9_22 rfl (by decide) rfl rfl ?_
  refine zs_getR (pc := 42) 2 (b := 39) dX9_init_42 zfX9_26 rfl (by decide) rfl rfl ?_
  refine zs_putR (pc := 45) 3 3 dX9_init_45 zvX9_30 rfl (by decide) rfl rfl rfl rfl ?_
  refine zs_aload (pc := 48) (a := 0) dX9_init_48 rfl 0 rfl ?_
  refine zs_newO (pc := 49) 6 7 76 52 75 1809 dX9_init_49 zwX9_31 rfl (by decide) (by decide) ⟨by decide, rfl, rfl, rfl⟩ ?_
  refine zs_dup (pc := 52) dX9_init_52 rfl ?_
  refine zs_callN (pc := 53) (As := []) (rest := [rr K 52, rr K 0]) 78 1849 dX9_init_53 zcX9_33 ziX6_init rfl rfl rfl rfl (Nat.le_of_ble_eq_true rfl) (k_X6_52 (d := d + 2)) ⟨rfl, rfl⟩ (by decide) (by decide) ?_
  refine zs_putR (pc := 56) 4 4 dX9_init_56 zvX9_34 rfl (by decide) rfl rfl rfl rfl ?_
  refine zs_aload (pc := 59) (a := 0) dX9_init_59 rfl 0 rfl ?_
  refine zs_newO (pc := 60) 5 9 80 56 79 1858 dX9_init_60 zwX9_38 rfl (by decide) (by decide) ⟨by decide, rfl, rfl, rfl⟩ ?_
  refine zs_dup (pc := 63) dX9_init_63 rfl ?_
  refine zs_callN (pc := 64) (As := []) (rest := [rr K 56, rr K 0]) 86 2974 dX9_init_64 zcX9_40 ziX5_init rfl rfl rfl rfl (Nat.le_of_ble_eq_true rfl) (k_X5_56 (d := d + 1)) ⟨rfl, rfl⟩ (by decide) (by decide) ?_
  refine zs_putR (pc := 67) 5 5 dX9_init_67 zvX9_41 rfl (by decide) rfl rfl rfl rfl ?_
  refine zs_aload (pc := 70) (a := 0) dX9_init_70 rfl 0 rfl ?_
  refine zs_newO (pc := 71) 2 6 88 87 87 2980 dX9_init_71 zwX9_45 rfl (by decide) (by decide) ⟨by decide, rfl, rfl, rfl⟩ ?_
  refine zs_dup (pc := 74) dX9_init_74 rfl ?_
  refine zs_callN (pc := 75) (As := []) (rest := [rr K 87, rr K 0]) 93 3160 dX9_init_75 zcX9_47 ziX2_init rfl rfl rfl rfl (Nat.le_of_ble_eq_true rfl) (k_X2_87 (d := d + 2)) ⟨rfl, rfl⟩ (by decide) (by decide) ?_
  refine zs_putR (pc := 78) 6 6 dX9_init_78 zvX9_48 rfl (by decide) rfl rfl rfl rfl ?_
  refine zs_aload (pc := 81) (a := 0) dX9_init_81 rfl 0 rfl ?_
  refine zs_newO (pc := 82) 0 6 95 94 94 3166 dX9_init_82 zwX9_52 rfl (by decide) (by decide) ⟨by decide, rfl, rfl, rfl⟩ ?_
  refine zs_dup (pc := 85) dX9_init_85 rfl ?_
  refine zs_callN (pc := 86) (As := []) (rest := [rr K 94, rr K 0]) 95 3196 dX9_init_86 zcX9_54 ziX0_init rfl rfl rfl rfl (Nat.le_of_ble_eq_true rfl) (k_X0_94 (d := d + 2)) ⟨rfl, rfl⟩ (by decide) (by decide) ?_
  refine zs_putR (pc := 89) 7 7 dX9_init_89 zvX9_55 rfl (by decide) rfl rfl rfl rfl ?_
  refine zs_aload (pc := 92) (a := 0) dX9_init_92 rfl 0 rfl ?_
  refine zs_iconst (pc := 93) dX9_init_93 ?_
  refine zs_newI (pc := 94) 4 97 96 96 3200 dX9_init_94 zaI rfl (by decide) rfl (by decide) (by decide) ⟨by decide, rfl, rfl, rfl⟩ ?_
  refine zs_putR (pc := 96) 8 8 dX9_init_96 zvX9_59 rfl (by decide) rfl rfl rfl rfl ?_
  refine zs_aload (pc := 99) (a := 0) dX9_init_99 rfl 0 rfl ?_
  refine zs_iconst (pc := 100) dX9_init_100 ?_
  refine zs_newI (pc := 101) 4 98 97 97 3204 dX9_init_101 zaI rfl (by decide) rfl (by decide) (by decide) ⟨by decide, rfl, rfl, rfl⟩ ?_
  refine zs_putR (pc := 103) 9 9 dX9_init_103 zvX9_63 rfl (by decide) rfl rfl rfl rfl ?_
  refine zs_aload (pc := 106) (a := 0) dX9_init_106 rfl 0 rfl ?_
  refine zs_iconst (pc := 107) dX9_init_107 ?_
  refine zs_putI (pc := 108) 10 10 dX9_init_108 zvX9_66 rfl (by decide) rfl rfl rfl rfl ?_
  refine zs_aload (pc := 111) (a := 0) dX9_init_111 rfl 0 rfl ?_
  refine zs_iconst (pc := 112) dX9_init_112 ?_
  refine zs_putI (pc := 113) 11 11 dX9_init_113 zvX9_70 rfl (by decide) rfl rfl rfl rfl ?_
  exact zs_ret (pc := 116) rfl dX9_init_116 (by decide) (by decide) rfl
theorem k_X10_98 {K : zCx} {d : Nat} {lI lR : zLl} : zCs K (d + 1) 32 20752 mX10_init [rr K 98] 99 lI lR (131, (125, 3, (-1)) :: (125, 2, (-1)) :: (125, 1, (-1)) :: (125, 0, (-1)) :: (122, 3, (-1)) :: (122, 2, (-1)) :: (122, 1, (-1)) :: (122, 0, (-1)) :: (103, 2, (-1)) :: (103, 1, (-1)) :: (103, 0, (-1)) :: (98, 0, 10) :: lI, (98, 59, 130) :: (98, 57, 129) :: (98, 53, 128) :: (98, 49, 127) :: (98, 48, 126) :: (98, 47, 125) :: (98, 46, 124) :: (98, 45, 123) :: (98, 44, 122) :: (98, 43, 121) :: (98, 41, 120) :: (98, 38, 119) :: (98, 37, 118) :: (98, 36, 117) :: (98, 35, 116) :: (98, 34, 115) :: (98, 31, 114) :: (98, 30, 113) :: (98, 29, 112) :: (98, 22, 111) :: (98, 17, 110) :: (98, 16, 109) :: (98, 15, 108) :: (98, 14, 107) :: (98, 13, 106) :: (98, 12, 105) :: (98, 11, 104) :: (98, 9, 103) :: (98, 8, 102) :: (98, 6, 101) :: (98, 5, 100) :: (98, 3, 99) :: lR) := by
  refine zCs.of (by decide +kernel) rfl (Nat.le_of_ble_eq_true rfl) ?_
  refine zs_aload (pc := 0) (a := 98) dX10_init_0 rfl 0 rfl ?_
  refine zs_obj (pc := 1) dX10_init_1 zoX10 zoI1 zoI2 (Nat.le_of_ble_eq_true rfl) (by omega) ?_
  refine zs_aload (pc := 4) (a := 98) dX10_init_4 rfl 0 rfl ?_
  refine zs_bipush (pc := 5) dX10_init_5 (by decide) ?_
  refine zs_putI (pc := 7) 0 0 dX10_init_7 zvX10_7 rfl (by decide) rfl rfl rfl rfl ?_
  refine zs_aload (pc := 10) (a := 98) dX10_init_10 rfl 0 rfl ?_
  refine zs_bipush (pc := 11) dX10_init_11 (by decide) ?_
  refine zs_newI (pc := 13) 84 100 99 1 84 dX10_init_13 zaI rfl (by decide) rfl (by decide) (by decide) ⟨by decide, rfl, rfl, rfl⟩ ?_
  refine zs_putR (pc := 15) 3 3 dX10_init_15 zvX10_13 rfl (by decide) rfl rfl rfl rfl ?_
  refine zs_aload (pc := 18) (a := 98) dX10_init_18 rfl 0 rfl ?_
  refine zs_bipush (pc := 19) dX10_init_19 (by decide) ?_
  refine zs_newI (pc := 21) 100 101 100 2 184 dX10_init_21 zaI rfl (by decide) rfl (by decide) (by decide) ⟨by decide, rfl, rfl, rfl⟩ ?_
  refine zs_putR (pc := 23) 5 5 dX10_init_23 zvX10_17 rfl (by decide) rfl rfl rfl rfl ?_
  refine zs_aload (pc := 26) (a := 98) dX10_init_26 rfl 0 rfl ?_
  refine zs_bipush (pc := 27) dX10_init_27 (by decide) ?_
  refine zs_newI (pc := 29) 20 102 101 3 204 dX10_init_29 zaI rfl (by decide) rfl (by decide) (by decide) ⟨by decide, rfl, rfl, rfl⟩ ?_
  refine zs_putR (pc := 31) 6 6 dX10_init_31 zvX10_20 rfl (by decide) rfl rfl rfl rfl ?_
  refine zs_aload (pc := 34) (a := 98) dX10_init_34 rfl 0 rfl ?_
  refine zs_bipush (pc := 35) dX10_init_35 (by decide) ?_
  refine zs_newI (pc := 37) 12 103 102 4 216 dX10_init_37 zaI rfl (by decide) rfl (by decide) (by decide) ⟨by decide, rfl, rfl, rfl⟩ ?_
  refine zs_putR (pc := 39) 8 8 dX10_init_39 zvX10_23 rfl (by decide) rfl rfl rfl rfl ?_
  refine zs_aload (pc := 42) (a := 98) dX10_init_42 rfl 0 rfl ?_
  refine zs_iconst (pc := 43) dX10_init_43 ?_
  refine zs_newI (pc := 44) 3 104 103 5 219 dX10_init_44 zaI rfl (by decide) rfl (by decide) (by decide) ⟨by decide, rfl, rfl, rfl⟩ ?_
  refine zs_dup (pc := 46) dX10_init_46 rfl ?_
  refine zs_iconst (pc := 47) dX10_init_47 ?_
  refine zs_iconst (pc := 48) dX10_init_48 ?_
  refine zs_iast (pc := 49) 3 dX10_init_49 rfl (by decide) (by decide) (by decide) ⟨by decide, by decide⟩ ?_
  refine zs_dup (pc := 50) dX10_init_50 rfl ?_
  refine zs_iconst (pc := 51) dX10_init_51 ?_
  refine zs_iconst (pc := 52) dX10_init_52 ?_
  refine zs_iast (pc := 53) 3 dX10_init_53 rfl (by decide) (by decide) (by decide) ⟨by decide, by decide⟩ ?_
  refine zs_dup (pc := 54) dX10_init_54 rfl ?_
  refine zs_iconst (pc := 55) dX10_init_55 ?_
  refine zs_iconst (pc := 56) dX10_init_56 ?_
  refine zs_iast (pc := 57) 3 dX10_init_57 rfl (by decide) (by decide) (by decide) ⟨by decide, by decide⟩ ?_
  refine zs_putR (pc := 58) 9 9 dX10_init_58 zvX10_26 rfl (by decide) rfl rfl rfl rfl ?_
  refine zs_aload (pc := 61) (a := 98) dX10_init_61 rfl 0 rfl ?_
  refine zs_bipush (pc := 62) dX10_init_62 (by decide) ?_
  refine zs_newI (pc := 64) 8 105 104 6 227 dX10_init_64 zaI rfl (by decide) rfl (by decide) (by decide) ⟨by decide, rfl, rfl, rfl⟩ ?_
  refine zs_putR (pc := 66) 11 11 dX10_init_66 zvX10_29 rfl (by decide) rfl rfl rfl rfl ?_
  refine zs_aload (pc := 69) (a := 98) dX10_init_69 rfl 0 rfl ?_
  refine zs_sipush (pc := 70) dX10_init_70 (by decide) ?_
  refine zs_newI (pc := 73) 230 106 105 7 457 dX10_init_73 zaI rfl (by decide) rfl (by decide) (by decide) ⟨by decide, rfl, rfl, rfl⟩ ?_
  refine zs_putR (pc := 75) 12 12 dX10_init_75 zvX10_32 rfl (by decide) rfl rfl rfl rfl ?_
  refine zs_aload (pc := 78) (a := 98) dX10_init_78 rfl 0 rfl ?_
  refine zs_iconst (pc := 79) dX10_init_79 ?_
  refine zs_newI (pc := 80) 5 107 106 8 462 dX10_init_80 zaI rfl (by decide) rfl (by decide) (by decide) ⟨by decide, rfl, rfl, rfl⟩ ?_
  refine zs_putR (pc := 82) 13 13 dX10_init_82 zvX10_35 rfl (by decide) rfl rfl rfl rfl ?_
  refine zs_aload (pc := 85) (a := 98) dX10_init_85 rfl 0 rfl ?_
  refine zs_iconst (pc := 86) dX10_init_86 ?_
  refine zs_newI (pc := 87) 5 108 107 9 467 dX10_init_87 zaI rfl (by decide) rfl (by decide) (by decide) ⟨by decide, rfl, rfl, rfl⟩ ?_
  refine zs_putR (pc := 89) 14 14 dX10_init_89 zvX10_38 rfl (by decide) rfl rfl rfl rfl ?_
  refine zs_aload (pc := 92) (a := 98) dX10_init_92 rfl 0 rfl ?_
  refine zs_iconst (pc := 93) dX10_init_93 ?_
  refine zs_newI (pc := 94) 5 109 108 10 472 dX10_init_94 zaI rfl (by decide) rfl (by decide) (by decide) ⟨by decide, rfl, rfl, rfl⟩ ?_
  refine zs_putR (pc := 96) 15 15 dX10_init_96 zvX10_41 rfl (by decide) rfl rfl rfl rfl ?_
  refine zs_aload (pc := 99) (a := 98) dX10_init_99 rfl 0 rfl ?_
  refine zs_sipush (pc := 100) dX10_init_100 (by decide) ?_
  refine zs_newI (pc := 103) 9261 110 109 11 9733 dX10_init_103 zaI rfl (by decide) rfl (by decide) (by decide) ⟨by decide, rfl, rfl, rfl⟩ ?_
  refine zs_putR (pc := 105) 16 16 dX10_init_105 zvX10_44 rfl (by decide) rfl rfl rfl rfl ?_
  refine zs_aload (pc := 108) (a := 98) dX10_init_108 rfl 0 rfl ?_
  refine zs_sipush (pc := 109) dX10_init_109 (by decide) ?_
  refine zs_newI (pc := 112) 9261 111 110 12 18994 dX10_init_112 zaI rfl (by decide) rfl (by decide) (by decide) ⟨by decide, rfl, rfl, rfl⟩ ?_
  refine zs_putR (pc := 114) 17 17 dX10_init_114 zvX10_47 rfl (by decide) rfl rfl rfl rfl ?_
  refine zs_aload (pc := 117) (a := 98) dX10_init_117 rfl 0 rfl ?_
  refine zs_sipush (pc := 118) dX10_init_118 (by decide) ?_
  refine zs_newI (pc := 121) 220 112 111 13 19214 dX10_init_121 zaI rfl (by decide) rfl (by decide) (by decide) ⟨by decide, rfl, rfl, rfl⟩ ?_
  refine zs_putR (pc := 123) 22 22 dX10_init_123 zvX10_50 rfl (by decide) rfl rfl rfl rfl ?_
  refine zs_aload (pc := 126) (a := 98) dX10_init_126 rfl 0 rfl ?_
  refine zs_sipush (pc := 127) dX10_init_127 (by decide) ?_
  refine zs_newI (pc := 130) 230 113 112 14 19444 dX10_init_130 zaI rfl (by decide) rfl (by decide) (by decide) ⟨by decide, rfl, rfl, rfl⟩ ?_
  refine zs_putR (pc := 132) 29 29 dX10_init_132 zvX10_53 rfl (by decide) rfl rfl rfl rfl ?_
  refine zs_aload (pc := 135) (a := 98) dX10_init_135 rfl 0 rfl ?_
  refine zs_sipush (pc := 136) dX10_init_136 (by decide) ?_
  refine zs_newI (pc := 139) 230 114 113 15 19674 dX10_init_139 zaI rfl (by decide) rfl (by decide) (by decide) ⟨by decide, rfl, rfl, rfl⟩ ?_
  refine zs_putR (pc := 141) 30 30 dX10_init_141 zvX10_56 rfl (by decide) rfl rfl rfl rfl ?_
  refine zs_aload (pc := 144) (a := 98) dX10_init_144 rfl 0 rfl ?_
  refine zs_bipush (pc := 145) dX10_init_145 (by decide) ?_
  refine zs_newI (pc := 147) 8 115 114 16 19682 dX10_init_147 zaI rfl (by decide) rfl (by decide) (by decide) ⟨by decide, rfl, rfl, rfl⟩ ?_
  refine zs_putR (pc := 149) 31 31 dX10_init_149 zvX10_59 rfl (by decide) rfl rfl rfl rfl ?_
  refine zs_aload (pc := 152) (a := 98) dX10_init_152 rfl 0 rfl ?_
  refine zs_sipush (pc := 153) dX10_init_153 (by decide) ?_
  refine zs_newI (pc := 156) 230 116 115 17 19912 dX10_init_156 zaI rfl (by decide) rfl (by decide) (by decide) ⟨by decide, rfl, rfl, rfl⟩ ?_
  refine zs_putR (pc := 158) 34 34 dX10_init_158 zvX10_62 rfl (by decide) rfl rfl rfl rfl ?_
  refine zs_aload (pc := 161) (a := 98) dX10_init_161 rfl 0 rfl ?_
  refine zs_iconst (pc := 162) dX10_init_162 ?_
  refine zs_newI (pc := 163) 4 117 116 18 19916 dX10_init_163 zaI rfl (by decide) rfl (by decide) (by decide) ⟨by decide, rfl, rfl, rfl⟩ ?_
  refine zs_putR (pc := 165) 35 35 dX10_init_165 zvX10_65 rfl (by decide) rfl rfl rfl rfl ?_
  refine zs_aload (pc := 168) (a := 98) dX10_init_168 rfl 0 rfl ?_
  refine zs_iconst (pc := 169) dX10_init_169 ?_
  refine zs_newI (pc := 170) 4 118 117 19 19920 dX10_init_170 zaI rfl (by decide) rfl (by decide) (by decide) ⟨by decide, rfl, rfl, rfl⟩ ?_
  refine zs_putR (pc := 172) 36 36 dX10_init_172 zvX10_68 rfl (by decide) rfl rfl rfl rfl ?_
  refine zs_aload (pc := 175) (a := 98) dX10_init_175 rfl 0 rfl ?_
  refine zs_iconst (pc := 176) dX10_init_176 ?_
  refine zs_newI (pc := 177) 4 119 118 20 19924 dX10_init_177 zaI rfl (by decide) rfl (by decide) (by decide) ⟨by decide, rfl, rfl, rfl⟩ ?_
  refine zs_putR (pc := 179) 37 37 dX10_init_179 zvX10_71 rfl (by decide) rfl rfl rfl rfl ?_
  refine zs_aload (pc := 182) (a := 98) dX10_init_182 rfl 0 rfl ?_
  refine zs_iconst (pc := 183) dX10_init_183 ?_
  refine zs_newI (pc := 184) 4 120 119 21 19928 dX10_init_184 zaI rfl (by decide) rfl (by decide) (by decide) ⟨by decide, rfl, rfl, rfl⟩ ?_
  refine zs_putR (pc := 186) 38 38 dX10_init_186 zvX10_74 rfl (by decide) rfl rfl rfl rfl ?_
  refine zs_aload (pc := 189) (a := 98) dX10_init_189 rfl 0 rfl ?_
  refine zs_bipush (pc := 190) dX10_init_190 (by decide) ?_
  refine zs_newI (pc := 192) 8 121 120 22 19936 dX10_init_192 zaI rfl (by decide) rfl (by decide) (by decide) ⟨by decide, rfl, rfl, rfl⟩ ?_
  refine zs_putR (pc := 194) 41 41 dX10_init_194 zvX10_77 rfl (by decide) rfl rfl rfl rfl ?_
  refine zs_aload (pc := 197) (a := 98) dX10_init_197 rfl 0 rfl ?_
  refine zs_bipush (pc := 198) dX10_init_198 (by decide) ?_
  refine zs_newI (pc := 200) 100 122 121 23 20036 dX10_init_200 zaI rfl (by decide) rfl (by decide) (by decide) ⟨by decide, rfl, rfl, rfl⟩ ?_
  refine zs_putR (pc := 202) 43 43 dX10_init_202 zvX10_80 rfl (by decide) rfl rfl rfl rfl ?_
  refine zs_aload (pc := 205) (a := 98) dX10_init_205 rfl 0 rfl ?_
  refine zs_iconst (pc := 206) dX10_init_206 ?_
  refine zs_newI (pc := 207) 4 123 122 24 20040 dX10_init_207 zaI rfl (by decide) rfl (by decide) (by decide) ⟨by decide, rfl, rfl, rfl⟩ ?_
  refine zs_dup (pc := 209) dX10_init_209 rfl ?_
  refine zs_iconst (pc := 210) dX10_init_210 ?_
  refine zs_iconst (pc := 211) dX10_init_211 ?_
  refine zs_iast (pc := 212) 4 dX10_init_212 rfl (by decide) (by decide) (by decide) ⟨by decide, by decide⟩ ?_
  refine zs_dup (pc := 213) dX10_init_213 rfl ?_
  refine zs_iconst (pc := 214) dX10_init_214 ?_
  refine zs_iconst (pc := 215) dX10_init_215 ?_
  refine zs_iast (pc := 216) 4 dX10_init_216 rfl (by decide) (by decide) (by decide) ⟨by decide, by decide⟩ ?_
  refine zs_dup (pc := 217) dX10_init_217 rfl ?_
  refine zs_iconst (pc := 218) dX10_init_218 ?_
  refine zs_iconst (pc := 219) dX10_init_219 ?_
  refine zs_iast (pc := 220) 4 dX10_init_220 rfl (by decide) (by decide) (by decide) ⟨by decide, by decide⟩ ?_
  refine zs_dup (pc := 221) dX10_init_221 rfl ?_
  refine zs_iconst (pc := 222) dX10_init_222 ?_
  refine zs_iconst (pc := 223) dX10_init_223 ?_
  refine zs_iast (pc := 224) 4 dX10_init_224 rfl (by decide) (by decide) (by decide) ⟨by decide, by decide⟩ ?_
  refine zs_putR (pc := 225) 44 44 dX10_init_225 zvX10_83 rfl (by decide) rfl rfl rfl rfl ?_
  refine zs_aload (pc := 228) (a := 98) dX10_init_228 rfl 0 rfl ?_
  refine zs_iconst (pc := 229) dX10_init_229 ?_
  refine zs_newI (pc := 230) 4 124 123 25 20044 dX10_init_230 zaI rfl (by decide) rfl (by decide) (by decide) ⟨by decide, rfl, rfl, rfl⟩ ?_
  refine zs_putR (pc := 232) 45 45 dX10_init_232 zvX10_86 rfl (by decide) rfl rfl rfl rfl ?_
  refine zs_aload (pc := 235) (a := 98) dX10_init_235 rfl 0 rfl ?_
  refine zs_sipush (pc := 236) dX10_init_236 (by decide) ?_
  refine zs_newL (pc := 239) 160 125 124 26 20204 dX10_init_239 zaL rfl (by decide) rfl (by decide) (by decide) ⟨by decide, rfl, rfl, rfl⟩ ?_
  refine zs_putR (pc := 241) 46 46 dX10_init_241 zvX10_89 rfl (by decide) rfl rfl rfl rfl ?_
  refine zs_aload (pc := 244) (a := 98) dX10_init_244 rfl 0 rfl ?_
  refine zs_iconst (pc := 245) dX10_init_245 ?_
  refine zs_newI (pc := 246) 4 126 125 27 20208 dX10_init_246 zaI rfl (by decide) rfl (by decide) (by decide) ⟨by decide, rfl, rfl, rfl⟩ ?_
  refine zs_dup (pc := 248) dX10_init_248 rfl ?_
  refine zs_iconst (pc := 249) dX10_init_249 ?_
  refine zs_iconst (pc := 250) dX10_init_250 ?_
  refine zs_iast (pc := 251) 4 dX10_init_251 rfl (by decide) (by decide) (by decide) ⟨by decide, by decide⟩ ?_
  refine zs_dup (pc := 252) dX10_init_252 rfl ?_
  refine zs_iconst (pc := 253) dX10_init_253 ?_
  refine zs_iconst (pc := 254) dX10_init_254 ?_
  refine zs_iast (pc := 255) 4 dX10_init_255 rfl (by decide) (by decide) (by decide) ⟨by decide, by decide⟩ ?_
  refine zs_dup (pc := 256) dX10_init_256 rfl ?_
  refine zs_iconst (pc := 257) dX10_init_257 ?_
  refine zs_iconst (pc := 258) dX10_init_258 ?_
  refine zs_iast (pc := 259) 4 dX10_init_259 rfl (by decide) (by decide) (by decide) ⟨by decide, by decide⟩ ?_
  refine zs_dup (pc := 260) dX10_init_260 rfl ?_
  refine zs_iconst (pc := 261) dX10_init_261 ?_
  refine zs_iconst (pc := 262) dX10_init_262 ?_
  refine zs_iast (pc := 263) 4 dX10_init_263 rfl (by decide) (by decide) (by decide) ⟨by decide, by decide⟩ ?_
  refine zs_putR (pc := 264) 47 47 dX10_init_264 zvX10_93 rfl (by decide) rfl rfl rfl rfl ?_
  refine zs_aload (pc := 267) (a := 98) dX10_init_267 rfl 0 rfl ?_
  refine zs_iconst (pc := 268) dX10_init_268 ?_
  refine zs_newI (pc := 269) 4 127 126 28 20212 dX10_init_269 zaI rfl (by decide) rfl (by decide) (by decide) ⟨by decide, rfl, rfl, rfl⟩ ?_
  refine zs_putR (pc := 271) 48 48 dX10_init_271 zvX10_96 rfl (by decide) rfl rfl rfl rfl ?_
  refine zs_aload (pc := 274) (a := 98) dX10_init_274 rfl 0 rfl ?_
  refine zs_iconst (pc := 275) dX10_init_275 ?_
  refine zs_newI (pc := 276) 4 128 127 29 20216 dX10_init_276 zaI rfl (by decide) rfl (by decide) (by decide) ⟨by decide, rfl, rfl, rfl⟩ ?_
  refine zs_putR (pc := 278) 49 49 dX10_init_278 zvX10_99 rfl (by decide) rfl rfl rfl rfl ?_
  refine zs_aload (pc := 281) (a := 98) dX10_init_281 rfl 0 rfl ?_
  refine zs_bipush (pc := 282) dX10_init_282 (by decide) ?_
  refine zs_newI (pc := 284) 30 129 128 30 20246 dX10_init_284 zaI rfl (by decide) rfl (by decide) (by decide) ⟨by decide, rfl, rfl, rfl⟩ ?_
  refine zs_putR (pc := 286) 53 53 dX10_init_286 zvX10_102 rfl (by decide) rfl rfl rfl rfl ?_
  refine zs_aload (pc := 289) (a := 98) dX10_init_289 rfl 0 rfl ?_
  refine zs_sipush (pc := 290) dX10_init_290 (by decide) ?_
  refine zs_newI (pc := 293) 500 130 129 31 20746 dX10_init_293 zaI rfl (by decide) rfl (by decide) (by decide) ⟨by decide, rfl, rfl, rfl⟩ ?_
  refine zs_putR (pc := 295) 57 57 dX10_init_295 zvX10_105 rfl (by decide) rfl rfl rfl rfl ?_
  refine zs_aload (pc := 298) (a := 98) dX10_init_298 rfl 0 rfl ?_
  refine zs_bipush (pc := 299) dX10_init_299 (by decide) ?_
  refine zs_newI (pc := 301) 6 131 130 32 20752 dX10_init_301 zaI rfl (by decide) rfl (by decide) (by decide) ⟨by decide, rfl, rfl, rfl⟩ ?_
  refine zs_putR (pc := 303) 59 59 dX10_init_303 zvX10_108 rfl (by decide) rfl rfl rfl rfl ?_
  exact zs_ret (pc := 306) rfl dX10_init_306 (by decide) (by decide) rfl
