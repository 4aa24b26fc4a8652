/-! ===== ACTS: numbers that run over ===== -/
def zw (v : Int) : Int := (iz v).toInt
def zdv (x y : Int) : Int := (iz x / iz y).toInt
theorem izw (v : Int) : iz (zw v) = iz v := iz_of _
theorem inR_zw (v : Int) : inR (zw v) := inR_of _
section ZWR
variable {K : zCx} {mi : zMi} {d pc : Nat} {loc : List (Nat × Value)} {stk : List Value} {m : zM} {Q : Int → zM → Prop}
theorem zV_iretw {r : Int} (hret : mi.2.2.2 = some .int) (hd : decode mi.2.1 pc = .ok (.ireturn, 1)) (k : Q (zw r) m) : zV K mi d pc loc [.int (iz r)] m Q := by
  rw [← izw r]
  exact zV_iret hret hd (inR_zw r) k
theorem zV_idivw {x y : Int} (hd : decode mi.2.1 pc = .ok (.idiv, 1)) (hy : inR y) (h0 : y ≠ 0) (k : zV K mi d (pc + 1) loc (.int (iz (zdv x y)) :: stk) m Q) : zV K mi d pc loc (.int (iz y) :: .int (iz x) :: stk) m Q := by
  intro p e s mt args below meth c F H locs ls hR hl
  obtain ⟨hx, hb, hr, hml, hown, hts, hlk, hK⟩ := id F
  refine lv_idiv hx hb hd (fun q => h0 ((iz_eq hy inR_0).mp q)) ?_
  have e : iz x / iz y = iz (zdv x y) := (iz_of _).symm
  rw [e]
  exact k p _ s mt args below meth c F H locs ls hR hl
end ZWR

set_option maxRecDepth 100000 in
set_option maxHeartbeats 4000000 in
theorem vcw_X0_run_0 {K : zCx} {d : Nat} (x1 : Int) (x2 : Int) (x3 : Int) (x4 : Int) (m0 : zM) {Q : Int → zM → Prop} (hx1 : inR x1) (hx2 : inR x2) (hx3 : inR x3) (hx4 : inR x4) (h : zok m0 → zV K mX0_run (d + 2) 6 [(0, rr K 94), (2, .int (iz x2)), (3, .int (iz x3)), (4, .int (iz x4)), (5, .int (iz x1)), (6, .int (iz 0))] [] m0 Q) : zV K mX0_run (d + 2) 0 [(0, rr K 94), (1, .int (iz x1)), (2, .int (iz x2)), (3, .int (iz x3)), (4, .int (iz x4))] [] m0 Q := by
  refine zV_ok (fun hm0 => ?_)
  replace h := h hm0
  refine zV_iload_n (pc := 0) dX0_run_0 rfl 1 rfl ?_
  refine zV_istore (pc := 1) (loc' := [(5, .int (iz x1)), (0, rr K 94), (1, .int (iz x1)), (2, .int (iz x2)), (3, .int (iz x3)), (4, .int (iz x4))]) dX0_run_1 (by decide) rfl ?_
  refine zV_iconst (pc := 3) dX0_run_3 ?_
  refine zV_istore (pc := 4) (loc' := [(6, .int (iz 0)), (5, .int (iz x1)), (0, rr K 94), (1, .int (iz x1)), (2, .int (iz x2)), (3, .int (iz x3)), (4, .int (iz x4))]) dX0_run_4 (by decide) rfl ?_
  exact zV_sub [2, 4, 5, 6, 1, 0] rfl h
set_option maxRecDepth 100000 in
set_option maxHeartbeats 4000000 in
theorem vcw_X0_run_6 {K : zCx} {d : Nat} (x2 : Int) (x3 : Int) (x4 : Int) (x5 : Int) (x6 : Int) (m0 : zM) {Q : Int → zM → Prop} (hx2 : inR x2) (hx3 : inR x3) (hx4 : inR x4) (hx5 : inR x5) (hx6 : inR x6) (h : zok m0 → (6 < x6 → zV K mX0_run (d + 2) 45 [(0, rr K 94), (2, .int (iz x2)), (3, .int (iz x3)), (4, .int (iz x4)), (5, .int (iz x5))] [] m0 Q) ∧ (¬ (6 < x6) → (x5 ≤ 0 → zV K mX0_run (d + 2) 45 [(0, rr K 94), (2, .int (iz x2)), (3, .int (iz x3)), (4, .int (iz x4)), (5, .int (iz x5))] [] m0 Q) ∧ (¬ (x5 ≤ 0) → 0 ≤ ((x5 * 4) + x2) ∧ ((x5 * 4) + x2) < 28 ∧ (inR (zOw.getD (((x5 * 4) + x2)).toNat 0) ∧ (((zOw.getD (((x5 * 4) + x2)).toNat 0) = 0 → 0 ≤ x5 ∧ x5 < 7 ∧ (∀ v9 : Int, v9 = (zAb.getD (x5).toNat 0) → (zV K mX0_run (d + 2) 6 [(0, rr K 94), (2, .int (iz x2)), (3, .int (iz x3)), (4, .int (iz x4)), (5, .int (iz v9)), (6, .int (iz (x6 + 1)))] [] m0 Q))) ∧ (¬ ((zOw.getD (((x5 * 4) + x2)).toNat 0) = 0) → zV K mX0_run (d + 2) 45 [(0, rr K 94), (2, .int (iz x2)), (3, .int (iz x3)), (4, .int (iz x4)), (5, .int (iz x5))] [] m0 Q)))))) : zV K mX0_run (d + 2) 6 [(0, rr K 94), (2, .int (iz x2)), (3, .int (iz x3)), (4, .int (iz x4)), (5, .int (iz x5)), (6, .int (iz x6))] [] m0 Q := by
  refine zV_ok (fun hm0 => ?_)
  replace h := h hm0
  refine zV_iload (pc := 6) dX0_run_6 5 rfl ?_
  refine zV_bipush (pc := 8) dX0_run_8 (by decide) ?_
  refine zV_icmp_gt (pc := 10) (tgt := 45) dX0_run_10 (by decide) hx6 (inRd rfl) (fun c1 => ?_) (fun c1 => ?_)
  · skip
    replace h := h.1 c1
    exact zV_sub [0, 1, 2, 3, 4] rfl h
  · skip
    replace h := h.2 c1
    refine zV_iload (pc := 13) dX0_run_13 4 rfl ?_
    refine zV_if_le (pc := 15) (tgt := 45) dX0_run_15 (by decide) hx5 (fun c2 => ?_) (fun c2 => ?_)
    · skip
      replace h := h.1 c2
      exact zV_sub [0, 1, 2, 3, 4] rfl h
    · skip
      replace h := h.2 c2
      refine zV_gets (pc := 18) (j := 1) (nm := "OWN") (N := 0) (f := fun _ => .null) dX0_run_18 (zmem 1129 (by decide +kernel) (by decide +kernel)) (fun s q => q.2.1.1) ?_
      refine zV_iload (pc := 21) dX0_run_21 4 rfl ?_
      refine zV_iconst (pc := 23) dX0_run_23 ?_
      refine zV_imul (pc := 24) dX0_run_24 ?_
      refine zV_iload_n (pc := 25) dX0_run_25 rfl 1 rfl ?_
      refine zV_iadd (pc := 26) dX0_run_26 ?_
      obtain ⟨o3, o4, h⟩ := h
      refine zV_ialdX (pc := 27) (j := 1) (N := 28) (f := zOw) dX0_run_27 (fun s q => q.2.1.2) o3 o4 (inR_ix o3 o4 rfl) ?_
      obtain ⟨o5, h⟩ := h
      refine zV_if_ne (pc := 28) (tgt := 45) dX0_run_28 (by decide) o5 (fun c6 => ?_) (fun c6 => ?_)
      · skip
        replace h := h.2 c6
        exact zV_sub [0, 1, 2, 3, 4] rfl h
      · replace c6 := Classical.not_not.mp c6
        replace h := h.1 c6
        refine zV_gets (pc := 31) (j := 0) (nm := "ABOVE") (N := 0) (f := fun _ => .null) dX0_run_31 (zmem 1114 (by decide +kernel) (by decide +kernel)) (fun s q => q.1.1) ?_
        refine zV_iload (pc := 34) dX0_run_34 4 rfl ?_
        obtain ⟨o7, o8, h⟩ := h
        refine zV_ialdX (pc := 36) (j := 0) (N := 7) (f := zAb) dX0_run_36 (fun s q => q.1.2) o7 o8 (inR_ix o7 o8 rfl) ?_
        refine zV_name (fun v9 e10 => ?_)
        replace h := h v9 e10
        refine zV_istore (pc := 37) (loc' := [(5, .int (iz v9)), (0, rr K 94), (2, .int (iz x2)), (3, .int (iz x3)), (4, .int (iz x4)), (6, .int (iz x6))]) dX0_run_37 (by decide) rfl ?_
        refine zV_iinc (pc := 39) (loc' := [(6, .int (iz (x6 + 1))), (5, .int (iz v9)), (0, rr K 94), (2, .int (iz x2)), (3, .int (iz x3)), (4, .int (iz x4))]) dX0_run_39 5 rfl (by decide) rfl ?_
        refine zV_goto (pc := 42) (tgt := 6) dX0_run_42 (by decide) ?_
        exact zV_sub [2, 3, 4, 5, 1, 0] rfl h
set_option maxRecDepth 100000 in
set_option maxHeartbeats 4000000 in
theorem vcw_X0_run_45 {K : zCx} {d : Nat} (x2 : Int) (x3 : Int) (x4 : Int) (x5 : Int) (m0 : zM) {Q : Int → zM → Prop} (hx2 : inR x2) (hx3 : inR x3) (hx4 : inR x4) (hx5 : inR x5) (h : zok m0 → ((m0.1 94 5) = 0 → (x5 < 0 → Q (zw 0) m0) ∧ (¬ (x5 < 0) → (x4 < 40 → 0 ≤ ((x5 * 4) + x2) ∧ ((x5 * 4) + x2) < 28 ∧ (∀ v6 : Int, v6 = (zOw.getD (((x5 * 4) + x2)).toNat 0) → (0 ≤ x5 ∧ x5 < 7 ∧ (∀ v10 : Int, v10 = (zAb.getD (x5).toNat 0) → (∀ v12 : Int, v12 = (x4 + 1) → (zCt K (d + 1) mX0_note [rr K 94, .int (iz v6)] m0 (fun r14 m15 => inR r14 → zok m15 → inR v6 ∧ ((v6 = 10 → Q (zw (x3 + (m15.1 94 4))) m15) ∧ (v6 = 11 → zCt K (d + 1) mX0_run [rr K 94, .int (iz (m15.1 94 2)), .int (iz 0), .int (iz x3), .int (iz v12)] m15 (fun r18 m19 => inR r18 → zok m19 → Q (zw (r18 * 2)) m19)) ∧ (v6 = 12 → zCt K (d + 1) mX0_parted [rr K 94, .int (iz x3)] m15 (fun r20 m21 => inR r20 → zok m21 → Q (zw r20) m21)) ∧ (v6 = 13 → zCt K (d + 1) mX0_run [rr K 94, .int (iz (m15.1 94 2)), .int (iz 1), .int (iz x3), .int (iz v12)] m15 (fun r22 m23 => inR r22 → zok m23 → Q (zw (zxor r22 (m23.1 94 3))) m23)) ∧ (v6 = 20 → zCt K (d + 1) mX0_run [rr K 94, .int (iz v10), .int (iz 0), .int (iz x3), .int (iz v12)] m15 (fun r24 m25 => inR r24 → zok m25 → Q (zw (r24 - 3)) m25)) ∧ (v6 = 30 → zCt K (d + 1) mX0_run [rr K 94, .int (iz v10), .int (iz 1), .int (iz x3), .int (iz v12)] m15 (fun r26 m27 => inR r26 → zok m27 → zCt K (d + 1) mX0_run [rr K 94, .int (iz (m27.1 94 2)), .int (iz 0), .int (iz 2), .int (iz v12)] m27 (fun r28 m29 => inR r28 → zok m29 → Q (zw (r26 + r28)) m29))) ∧ (v6 = 31 → zCt K (d + 1) mX0_run [rr K 94, .int (iz v10), .int (iz 3), .int (iz x3), .int (iz v12)] m15 (fun r30 m31 => inR r30 → zok m31 → Q (zw (r30 * 5)) m31)) ∧ (v6 = 40 → zCt K (d + 1) mX0_run [rr K 94, .int (iz v10), .int (iz 0), .int (iz x3), .int (iz v12)] m15 (fun r32 m33 => inR r32 → zok m33 → Q (zw (zxor r32 (m33.1 94 4))) m33)) ∧ (v6 = 41 → zCt K (d + 1) mX0_run [rr K 94, .int (iz v10), .int (iz 2), .int (iz (x3 - 1)), .int (iz v12)] m15 (fun r34 m35 => inR r34 → zok m35 → Q (zw r34) m35)) ∧ (v6 = 50 → zCt K (d + 1) mX0_run [rr K 94, .int (iz v10), .int (iz 1), .int (iz x3), .int (iz v12)] m15 (fun r36 m37 => inR r36 → zok m37 → Q (zw (0 - r36)) m37)) ∧ (v6 = 60 → zCt K (d + 1) mX0_run [rr K 94, .int (iz v10), .int (iz 3), .int (iz x3), .int (iz v12)] m15 (fun r38 m39 => inR r38 → zok m39 → zCt K (d + 1) mX0_run [rr K 94, .int (iz (m39.1 94 2)), .int (iz 2), .int (iz ((m39.1 94 3) + 1)), .int (iz v12)] m39 (fun r40 m41 => inR r40 → zok m41 → Q (zw (r38 + r40)) m41))) ∧ (v6 = 70 → zCt K (d + 1) mX0_run [rr K 94, .int (iz v10), .int (iz 0), .int (iz x3), .int (iz v12)] m15 (fun r42 m43 => inR r42 → zok m43 → Q (zw (r42 * 7)) m43)) ∧ ((¬ v6 = 10 ∧ ¬ v6 = 11 ∧ ¬ v6 = 12 ∧ ¬ v6 = 13 ∧ ¬ v6 = 20 ∧ ¬ v6 = 30 ∧ ¬ v6 = 31 ∧ ¬ v6 = 40 ∧ ¬ v6 = 41 ∧ ¬ v6 = 50 ∧ ¬ v6 = 60 ∧ ¬ v6 = 70) → Q (zw 0) m15))))))))) ∧ (¬ (x4 < 40) → Q (zw 0) m0))) ∧ (¬ ((m0.1 94 5) = 0) → Q (zw 0) m0)) : zV K mX0_run (d + 2) 45 [(0, rr K 94), (2, .int (iz x2)), (3, .int (iz x3)), (4, .int (iz x4)), (5, .int (iz x5))] [] m0 Q := by
  refine zV_ok (fun hm0 => ?_)
  replace h := h hm0
  refine zV_aloadr_n (pc := 45) dX0_run_45 rfl 0 rfl ?_
  refine zV_getI (pc := 46) (kz := 5) dX0_run_46 zfX0_32 rfl rfl rfl ?_
  refine zV_if_ne (pc := 49) (tgt := 64) dX0_run_49 (by decide) (hm0 _ _) (fun c1 => ?_) (fun c1 => ?_)
  · skip
    replace h := h.2 c1
    refine zV_iconst (pc := 64) dX0_run_64 ?_
    exact zV_iretw (pc := 65) rfl dX0_run_65 h
  · replace c1 := Classical.not_not.mp c1
    replace h := h.1 c1
    refine zV_iload (pc := 52) dX0_run_52 4 rfl ?_
    refine zV_if_lt (pc := 54) (tgt := 64) dX0_run_54 (by decide) hx5 (fun c2 => ?_) (fun c2 => ?_)
    · skip
      replace h := h.1 c2
      refine zV_iconst (pc := 64) dX0_run_64 ?_
      exact zV_iretw (pc := 65) rfl dX0_run_65 h
    · skip
      replace h := h.2 c2
      refine zV_iload (pc := 57) dX0_run_57 3 rfl ?_
      refine zV_bipush (pc := 59) dX0_run_59 (by decide) ?_
      refine zV_icmp_lt (pc := 61) (tgt := 66) dX0_run_61 (by decide) hx4 (inRd rfl) (fun c3 => ?_) (fun c3 => ?_)
      · skip
        replace h := h.1 c3
        refine zV_gets (pc := 66) (j := 1) (nm := "OWN") (N := 0) (f := fun _ => .null) dX0_run_66 (zmem 1129 (by decide +kernel) (by decide +kernel)) (fun s q => q.2.1.1) ?_
        refine zV_iload (pc := 69) dX0_run_69 4 rfl ?_
        refine zV_iconst (pc := 71) dX0_run_71 ?_
        refine zV_imul (pc := 72) dX0_run_72 ?_
        refine zV_iload_n (pc := 73) dX0_run_73 rfl 1 rfl ?_
        refine zV_iadd (pc := 74) dX0_run_74 ?_
        obtain ⟨o4, o5, h⟩ := h
        refine zV_ialdX (pc := 75) (j := 1) (N := 28) (f := zOw) dX0_run_75 (fun s q => q.2.1.2) o4 o5 (inR_ix o4 o5 rfl) ?_
        refine zV_name (fun v6 e7 => ?_)
        replace h := h v6 e7
        refine zV_istore (pc := 76) (loc' := [(6, .int (iz v6)), (0, rr K 94), (2, .int (iz x2)), (3, .int (iz x3)), (4, .int (iz x4)), (5, .int (iz x5))]) dX0_run_76 (by decide) rfl ?_
        refine zV_gets (pc := 78) (j := 0) (nm := "ABOVE") (N := 0) (f := fun _ => .null) dX0_run_78 (zmem 1114 (by decide +kernel) (by decide +kernel)) (fun s q => q.1.1) ?_
        refine zV_iload (pc := 81) dX0_run_81 5 rfl ?_
        obtain ⟨o8, o9, h⟩ := h
        refine zV_ialdX (pc := 83) (j := 0) (N := 7) (f := zAb) dX0_run_83 (fun s q => q.1.2) o8 o9 (inR_ix o8 o9 rfl) ?_
        refine zV_name (fun v10 e11 => ?_)
        replace h := h v10 e11
        refine zV_istore (pc := 84) (loc' := [(7, .int (iz v10)), (6, .int (iz v6)), (0, rr K 94), (2, .int (iz x2)), (3, .int (iz x3)), (4, .int (iz x4)), (5, .int (iz x5))]) dX0_run_84 (by decide) rfl ?_
        refine zV_iload (pc := 86) dX0_run_86 5 rfl ?_
        refine zV_iconst (pc := 88) dX0_run_88 ?_
        refine zV_iadd (pc := 89) dX0_run_89 ?_
        refine zV_name (fun v12 e13 => ?_)
        replace h := h v12 e13
        refine zV_istore (pc := 90) (loc' := [(8, .int (iz v12)), (7, .int (iz v10)), (6, .int (iz v6)), (0, rr K 94), (2, .int (iz x2)), (3, .int (iz x3)), (4, .int (iz x4)), (5, .int (iz x5))]) dX0_run_90 (by decide) rfl ?_
        refine zV_aloadr_n (pc := 92) dX0_run_92 rfl 3 rfl ?_
        refine zV_iload (pc := 93) dX0_run_93 2 rfl ?_
        refine zV_callV (pc := 95) (mc := mX0_note) (As := [.int (iz v6)]) (rest := []) dX0_run_95 zcX0_46 ziX0_note zsX0_note rfl rfl rfl rfl (Nat.le_of_ble_eq_true rfl) h (fun r14 m15 hr14 h => zV_ok (fun hm15 => ?_))
        replace h := h hr14 hm15
        refine zV_iload (pc := 98) dX0_run_98 2 rfl ?_
        obtain ⟨o16, h⟩ := h
        have c17 : v6 = 10 ∨ v6 = 11 ∨ v6 = 12 ∨ v6 = 13 ∨ v6 = 20 ∨ v6 = 30 ∨ v6 = 31 ∨ v6 = 40 ∨ v6 = 41 ∨ v6 = 50 ∨ v6 = 60 ∨ v6 = 70 ∨ (¬ v6 = 10 ∧ ¬ v6 = 11 ∧ ¬ v6 = 12 ∧ ¬ v6 = 13 ∧ ¬ v6 = 20 ∧ ¬ v6 = 30 ∧ ¬ v6 = 31 ∧ ¬ v6 = 40 ∧ ¬ v6 = 41 ∧ ¬ v6 = 50 ∧ ¬ v6 = 60 ∧ ¬ v6 = 70) := by omega
        rcases c17 with c17 | c17 | c17 | c17 | c17 | c17 | c17 | c17 | c17 | c17 | c17 | c17 | c17
        · refine zV_lsw (pc := 100) (tgt := 208) (off := 108) dX0_run_100 (by decide) o16 (by rw [c17]; rfl) (by decide) ?_
          replace h := h.1 c17
          refine zV_iload_n (pc := 208) dX0_run_208 rfl 5 rfl ?_
          refine zV_aloadr_n (pc := 209) dX0_run_209 rfl 3 rfl ?_
          refine zV_getI (pc := 210) (kz := 4) dX0_run_210 zfX0_31 rfl rfl rfl ?_
          refine zV_iadd (pc := 213) dX0_run_213 ?_
          exact zV_iretw (pc := 214) rfl dX0_run_214 h
        · refine zV_lsw (pc := 100) (tgt := 215) (off := 115) dX0_run_100 (by decide) o16 (by rw [c17]; rfl) (by decide) ?_
          replace h := h.2.1 c17
          refine zV_aloadr_n (pc := 215) dX0_run_215 rfl 3 rfl ?_
          refine zV_aloadr_n (pc := 216) dX0_run_216 rfl 3 rfl ?_
          refine zV_getI (pc := 217) (kz := 2) dX0_run_217 zfX0_21 rfl rfl rfl ?_
          refine zV_iconst (pc := 220) dX0_run_220 ?_
          refine zV_iload_n (pc := 221) dX0_run_221 rfl 5 rfl ?_
          refine zV_iload (pc := 222) dX0_run_222 0 rfl ?_
          refine zV_callV (pc := 224) (mc := mX0_run) (As := [.int (iz (m15.1 94 2)), .int (iz 0), .int (iz x3), .int (iz v12)]) (rest := []) dX0_run_224 zcX0_36 ziX0_run zsX0_run rfl rfl rfl rfl (Nat.le_of_ble_eq_true rfl) h (fun r18 m19 hr18 h => zV_ok (fun hm19 => ?_))
          replace h := h hr18 hm19
          refine zV_iconst (pc := 227) dX0_run_227 ?_
          refine zV_imul (pc := 228) dX0_run_228 ?_
          exact zV_iretw (pc := 229) rfl dX0_run_229 h
        · refine zV_lsw (pc := 100) (tgt := 230) (off := 130) dX0_run_100 (by decide) o16 (by rw [c17]; rfl) (by decide) ?_
          replace h := h.2.2.1 c17
          refine zV_aloadr_n (pc := 230) dX0_run_230 rfl 3 rfl ?_
          refine zV_iload_n (pc := 231) dX0_run_231 rfl 5 rfl ?_
          refine zV_callV (pc := 232) (mc := mX0_parted) (As := [.int (iz x3)]) (rest := []) dX0_run_232 zcX0_50 ziX0_parted zsX0_parted rfl rfl rfl rfl (Nat.le_of_ble_eq_true rfl) h (fun r20 m21 hr20 h => zV_ok (fun hm21 => ?_))
          replace h := h hr20 hm21
          exact zV_iretw (pc := 235) rfl dX0_run_235 h
        · refine zV_lsw (pc := 100) (tgt := 236) (off := 136) dX0_run_100 (by decide) o16 (by rw [c17]; rfl) (by decide) ?_
          replace h := h.2.2.2.1 c17
          refine zV_aloadr_n (pc := 236) dX0_run_236 rfl 3 rfl ?_
          refine zV_aloadr_n (pc := 237) dX0_run_237 rfl 3 rfl ?_
          refine zV_getI (pc := 238) (kz := 2) dX0_run_238 zfX0_21 rfl rfl rfl ?_
          refine zV_iconst (pc := 241) dX0_run_241 ?_
          refine zV_iload_n (pc := 242) dX0_run_242 rfl 5 rfl ?_
          refine zV_iload (pc := 243) dX0_run_243 0 rfl ?_
          refine zV_callV (pc := 245) (mc := mX0_run) (As := [.int (iz (m15.1 94 2)), .int (iz 1), .int (iz x3), .int (iz v12)]) (rest := []) dX0_run_245 zcX0_36 ziX0_run zsX0_run rfl rfl rfl rfl (Nat.le_of_ble_eq_true rfl) h (fun r22 m23 hr22 h => zV_ok (fun hm23 => ?_))
          replace h := h hr22 hm23
          refine zV_aloadr_n (pc := 248) dX0_run_248 rfl 3 rfl ?_
          refine zV_getI (pc := 249) (kz := 3) dX0_run_249 zfX0_25 rfl rfl rfl ?_
          refine zV_ixor (pc := 252) dX0_run_252 ?_
          exact zV_iretw (pc := 253) rfl dX0_run_253 h
        · refine zV_lsw (pc := 100) (tgt := 254) (off := 154) dX0_run_100 (by decide) o16 (by rw [c17]; rfl) (by decide) ?_
          replace h := h.2.2.2.2.1 c17
          refine zV_aloadr_n (pc := 254) dX0_run_254 rfl 3 rfl ?_
          refine zV_iload (pc := 255) dX0_run_255 1 rfl ?_
          refine zV_iconst (pc := 257) dX0_run_257 ?_
          refine zV_iload_n (pc := 258) dX0_run_258 rfl 5 rfl ?_
          refine zV_iload (pc := 259) dX0_run_259 0 rfl ?_
          refine zV_callV (pc := 261) (mc := mX0_run) (As := [.int (iz v10), .int (iz 0), .int (iz x3), .int (iz v12)]) (rest := []) dX0_run_261 zcX0_36 ziX0_run zsX0_run rfl rfl rfl rfl (Nat.le_of_ble_eq_true rfl) h (fun r24 m25 hr24 h => zV_ok (fun hm25 => ?_))
          replace h := h hr24 hm25
          refine zV_iconst (pc := 264) dX0_run_264 ?_
          refine zV_isub (pc := 265) dX0_run_265 ?_
          exact zV_iretw (pc := 266) rfl dX0_run_266 h
        · refine zV_lsw (pc := 100) (tgt := 267) (off := 167) dX0_run_100 (by decide) o16 (by rw [c17]; rfl) (by decide) ?_
          replace h := h.2.2.2.2.2.1 c17
          refine zV_aloadr_n (pc := 267) dX0_run_267 rfl 3 rfl ?_
          refine zV_iload (pc := 268) dX0_run_268 1 rfl ?_
          refine zV_iconst (pc := 270) dX0_run_270 ?_
          refine zV_iload_n (pc := 271) dX0_run_271 rfl 5 rfl ?_
          refine zV_iload (pc := 272) dX0_run_272 0 rfl ?_
          refine zV_callV (pc := 274) (mc := mX0_run) (As := [.int (iz v10), .int (iz 1), .int (iz x3), .int (iz v12)]) (rest := []) dX0_run_274 zcX0_36 ziX0_run zsX0_run rfl rfl rfl rfl (Nat.le_of_ble_eq_true rfl) h (fun r26 m27 hr26 h => zV_ok (fun hm27 => ?_))
          replace h := h hr26 hm27
          refine zV_aloadr_n (pc := 277) dX0_run_277 rfl 3 rfl ?_
          refine zV_aloadr_n (pc := 278) dX0_run_278 rfl 3 rfl ?_
          refine zV_getI (pc := 279) (kz := 2) dX0_run_279 zfX0_21 rfl rfl rfl ?_
          refine zV_iconst (pc := 282) dX0_run_282 ?_
          refine zV_iconst (pc := 283) dX0_run_283 ?_
          refine zV_iload (pc := 284) dX0_run_284 0 rfl ?_
          refine zV_callV (pc := 286) (mc := mX0_run) (As := [.int (iz (m27.1 94 2)), .int (iz 0), .int (iz 2), .int (iz v12)]) (rest := [.int (iz r26)]) dX0_run_286 zcX0_36 ziX0_run zsX0_run rfl rfl rfl rfl (Nat.le_of_ble_eq_true rfl) h (fun r28 m29 hr28 h => zV_ok (fun hm29 => ?_))
          replace h := h hr28 hm29
          refine zV_iadd (pc := 289) dX0_run_289 ?_
          exact zV_iretw (pc := 290) rfl dX0_run_290 h
        · refine zV_lsw (pc := 100) (tgt := 291) (off := 191) dX0_run_100 (by decide) o16 (by rw [c17]; rfl) (by decide) ?_
          replace h := h.2.2.2.2.2.2.1 c17
          refine zV_aloadr_n (pc := 291) dX0_run_291 rfl 3 rfl ?_
          refine zV_iload (pc := 292) dX0_run_292 1 rfl ?_
          refine zV_iconst (pc := 294) dX0_run_294 ?_
          refine zV_iload_n (pc := 295) dX0_run_295 rfl 5 rfl ?_
          refine zV_iload (pc := 296) dX0_run_296 0 rfl ?_
          refine zV_callV (pc := 298) (mc := mX0_run) (As := [.int (iz v10), .int (iz 3), .int (iz x3), .int (iz v12)]) (rest := []) dX0_run_298 zcX0_36 ziX0_run zsX0_run rfl rfl rfl rfl (Nat.le_of_ble_eq_true rfl) h (fun r30 m31 hr30 h => zV_ok (fun hm31 => ?_))
          replace h := h hr30 hm31
          refine zV_iconst (pc := 301) dX0_run_301 ?_
          refine zV_imul (pc := 302) dX0_run_302 ?_
          exact zV_iretw (pc := 303) rfl dX0_run_303 h
        · refine zV_lsw (pc := 100) (tgt := 304) (off := 204) dX0_run_100 (by decide) o16 (by rw [c17]; rfl) (by decide) ?_
          replace h := h.2.2.2.2.2.2.2.1 c17
          refine zV_aloadr_n (pc := 304) dX0_run_304 rfl 3 rfl ?_
          refine zV_iload (pc := 305) dX0_run_305 1 rfl ?_
          refine zV_iconst (pc := 307) dX0_run_307 ?_
          refine zV_iload_n (pc := 308) dX0_run_308 rfl 5 rfl ?_
          refine zV_iload (pc := 309) dX0_run_309 0 rfl ?_
          refine zV_callV (pc := 311) (mc := mX0_run) (As := [.int (iz v10), .int (iz 0), .int (iz x3), .int (iz v12)]) (rest := []) dX0_run_311 zcX0_36 ziX0_run zsX0_run rfl rfl rfl rfl (Nat.le_of_ble_eq_true rfl) h (fun r32 m33 hr32 h => zV_ok (fun hm33 => ?_))
          replace h := h hr32 hm33
          refine zV_aloadr_n (pc := 314) dX0_run_314 rfl 3 rfl ?_
          refine zV_getI (pc := 315) (kz := 4) dX0_run_315 zfX0_31 rfl rfl rfl ?_
          refine zV_ixor (pc := 318) dX0_run_318 ?_
          exact zV_iretw (pc := 319) rfl dX0_run_319 h
        · refine zV_lsw (pc := 100) (tgt := 320) (off := 220) dX0_run_100 (by decide) o16 (by rw [c17]; rfl) (by decide) ?_
          replace h := h.2.2.2.2.2.2.2.2.1 c17
          refine zV_aloadr_n (pc := 320) dX0_run_320 rfl 3 rfl ?_
          refine zV_iload (pc := 321) dX0_run_321 1 rfl ?_
          refine zV_iconst (pc := 323) dX0_run_323 ?_
          refine zV_iload_n (pc := 324) dX0_run_324 rfl 5 rfl ?_
          refine zV_iconst (pc := 325) dX0_run_325 ?_
          refine zV_isub (pc := 326) dX0_run_326 ?_
          refine zV_iload (pc := 327) dX0_run_327 0 rfl ?_
          refine zV_callV (pc := 329) (mc := mX0_run) (As := [.int (iz v10), .int (iz 2), .int (iz (x3 - 1)), .int (iz v12)]) (rest := []) dX0_run_329 zcX0_36 ziX0_run zsX0_run rfl rfl rfl rfl (Nat.le_of_ble_eq_true rfl) h (fun r34 m35 hr34 h => zV_ok (fun hm35 => ?_))
          replace h := h hr34 hm35
          exact zV_iretw (pc := 332) rfl dX0_run_332 h
        · refine zV_lsw (pc := 100) (tgt := 333) (off := 233) dX0_run_100 (by decide) o16 (by rw [c17]; rfl) (by decide) ?_
          replace h := h.2.2.2.2.2.2.2.2.2.1 c17
          refine zV_iconst (pc := 333) dX0_run_333 ?_
          refine zV_aloadr_n (pc := 334) dX0_run_334 rfl 3 rfl ?_
          refine zV_iload (pc := 335) dX0_run_335 1 rfl ?_
          refine zV_iconst (pc := 337) dX0_run_337 ?_
          refine zV_iload_n (pc := 338) dX0_run_338 rfl 5 rfl ?_
          refine zV_iload (pc := 339) dX0_run_339 0 rfl ?_
          refine zV_callV (pc := 341) (mc := mX0_run) (As := [.int (iz v10), .int (iz 1), .int (iz x3), .int (iz v12)]) (rest := [.int (iz 0)]) dX0_run_341 zcX0_36 ziX0_run zsX0_run rfl rfl rfl rfl (Nat.le_of_ble_eq_true rfl) h (fun r36 m37 hr36 h => zV_ok (fun hm37 => ?_))
          replace h := h hr36 hm37
          refine zV_isub (pc := 344) dX0_run_344 ?_
          exact zV_iretw (pc := 345) rfl dX0_run_345 h
        · refine zV_lsw (pc := 100) (tgt := 346) (off := 246) dX0_run_100 (by decide) o16 (by rw [c17]; rfl) (by decide) ?_
          replace h := h.2.2.2.2.2.2.2.2.2.2.1 c17
          refine zV_aloadr_n (pc := 346) dX0_run_346 rfl 3 rfl ?_
          refine zV_iload (pc := 347) dX0_run_347 1 rfl ?_
          refine zV_iconst (pc := 349) dX0_run_349 ?_
          refine zV_iload_n (pc := 350) dX0_run_350 rfl 5 rfl ?_
          refine zV_iload (pc := 351) dX0_run_351 0 rfl ?_
          refine zV_callV (pc := 353) (mc := mX0_run) (As := [.int (iz v10), .int (iz 3), .int (iz x3), .int (iz v12)]) (rest := []) dX0_run_353 zcX0_36 ziX0_run zsX0_run rfl rfl rfl rfl (Nat.le_of_ble_eq_true rfl) h (fun r38 m39 hr38 h => zV_ok (fun hm39 => ?_))
          replace h := h hr38 hm39
          refine zV_aloadr_n (pc := 356) dX0_run_356 rfl 3 rfl ?_
          refine zV_aloadr_n (pc := 357) dX0_run_357 rfl 3 rfl ?_
          refine zV_getI (pc := 358) (kz := 2) dX0_run_358 zfX0_21 rfl rfl rfl ?_
          refine zV_iconst (pc := 361) dX0_run_361 ?_
          refine zV_aloadr_n (pc := 362) dX0_run_362 rfl 3 rfl ?_
          refine zV_getI (pc := 363) (kz := 3) dX0_run_363 zfX0_25 rfl rfl rfl ?_
          refine zV_iconst (pc := 366) dX0_run_366 ?_
          refine zV_iadd (pc := 367) dX0_run_367 ?_
          refine zV_iload (pc := 368) dX0_run_368 0 rfl ?_
          refine zV_callV (pc := 370) (mc := mX0_run) (As := [.int (iz (m39.1 94 2)), .int (iz 2), .int (iz ((m39.1 94 3) + 1)), .int (iz v12)]) (rest := [.int (iz r38)]) dX0_run_370 zcX0_36 ziX0_run zsX0_run rfl rfl rfl rfl (Nat.le_of_ble_eq_true rfl) h (fun r40 m41 hr40 h => zV_ok (fun hm41 => ?_))
          replace h := h hr40 hm41
          refine zV_iadd (pc := 373) dX0_run_373 ?_
          exact zV_iretw (pc := 374) rfl dX0_run_374 h
        · refine zV_lsw (pc := 100) (tgt := 375) (off := 275) dX0_run_100 (by decide) o16 (by rw [c17]; rfl) (by decide) ?_
          replace h := h.2.2.2.2.2.2.2.2.2.2.2.1 c17
          refine zV_aloadr_n (pc := 375) dX0_run_375 rfl 3 rfl ?_
          refine zV_iload (pc := 376) dX0_run_376 1 rfl ?_
          refine zV_iconst (pc := 378) dX0_run_378 ?_
          refine zV_iload_n (pc := 379) dX0_run_379 rfl 5 rfl ?_
          refine zV_iload (pc := 380) dX0_run_380 0 rfl ?_
          refine zV_callV (pc := 382) (mc := mX0_run) (As := [.int (iz v10), .int (iz 0), .int (iz x3), .int (iz v12)]) (rest := []) dX0_run_382 zcX0_36 ziX0_run zsX0_run rfl rfl rfl rfl (Nat.le_of_ble_eq_true rfl) h (fun r42 m43 hr42 h => zV_ok (fun hm43 => ?_))
          replace h := h hr42 hm43
          refine zV_bipush (pc := 385) dX0_run_385 (by decide) ?_
          refine zV_imul (pc := 387) dX0_run_387 ?_
          exact zV_iretw (pc := 388) rfl dX0_run_388 h
        · replace h := h.2.2.2.2.2.2.2.2.2.2.2.2 c17
          obtain ⟨q0, q1, q2, q3, q4, q5, q6, q7, q8, q9, q10, q11⟩ := c17
          refine zV_lsw (pc := 100) (tgt := 389) (off := 289) dX0_run_100 (by decide) o16 (by simp [Op.lookupswitch.offset, Ne.symm q0, Ne.symm q1, Ne.symm q2, Ne.symm q3, Ne.symm q4, Ne.symm q5, Ne.symm q6, Ne.symm q7, Ne.symm q8, Ne.symm q9, Ne.symm q10, Ne.symm q11]) (by decide) ?_
          refine zV_iconst (pc := 389) dX0_run_389 ?_
          exact zV_iretw (pc := 390) rfl dX0_run_390 h
      · skip
        replace h := h.2 c3
        refine zV_iconst (pc := 64) dX0_run_64 ?_
        exact zV_iretw (pc := 65) rfl dX0_run_65 h

set_option maxRecDepth 100000 in
set_option maxHeartbeats 4000000 in
theorem vcw_X0_parted_0 {K : zCx} {d : Nat} (x1 : Int) (m0 : zM) {Q : Int → zM → Prop} (hx1 : inR x1) (h : zok m0 → ∀ v1 : Int, v1 = ((m0.1 94 4) - (m0.1 94 3)) → (inR v1 ∧ ((v1 = 0 → ∀ m9 : zM, m9 = sI m0 94 5 1 → zok m9 → ((v1 = 0 → Q (zw 0) m9) ∧ (¬ (v1 = 0) → v1 ≠ 0 ∧ (Q (zw (zdv x1 v1)) m9)))) ∧ (¬ (v1 = 0) → ∀ m5 : zM, m5 = sI m0 94 5 0 → zok m5 → ((v1 = 0 → Q (zw 0) m5) ∧ (¬ (v1 = 0) → v1 ≠ 0 ∧ (Q (zw (zdv x1 v1)) m5))))))) : zV K mX0_parted (d + 1) 0 [(0, rr K 94), (1, .int (iz x1))] [] m0 Q := by
  refine zV_ok (fun hm0 => ?_)
  replace h := h hm0
  refine zV_aloadr_n (pc := 0) dX0_parted_0 rfl 0 rfl ?_
  refine zV_getI (pc := 1) (kz := 4) dX0_parted_1 zfX0_31 rfl rfl rfl ?_
  refine zV_aloadr_n (pc := 4) dX0_parted_4 rfl 0 rfl ?_
  refine zV_getI (pc := 5) (kz := 3) dX0_parted_5 zfX0_25 rfl rfl rfl ?_
  refine zV_isub (pc := 8) dX0_parted_8 ?_
  refine zV_name (fun v1 e2 => ?_)
  replace h := h v1 e2
  refine zV_istore_n (pc := 9) (loc' := [(2, .int (iz v1)), (0, rr K 94), (1, .int (iz x1))]) dX0_parted_9 rfl (by decide) rfl ?_
  refine zV_aloadr_n (pc := 10) dX0_parted_10 rfl 1 rfl ?_
  refine zV_iload_n (pc := 11) dX0_parted_11 rfl 0 rfl ?_
  obtain ⟨o3, h⟩ := h
  refine zV_if_ne (pc := 12) (tgt := 19) dX0_parted_12 (by decide) o3 (fun c4 => ?_) (fun c4 => ?_)
  · skip
    replace h := h.2 c4
    refine zV_iconst (pc := 19) dX0_parted_19 ?_
    refine zV_putI (pc := 20) (kz := 5) dX0_parted_20 zpX0_32 rfl rfl rfl (z01 (Or.inl rfl)).1 (z01 (Or.inl rfl)).2.1 (z01 (Or.inl rfl)).2.2 ?_
    refine zV_mem (fun m5 e6 => zV_ok (fun hm5 => ?_))
    replace h := h m5 e6 hm5
    refine zV_iload_n (pc := 23) dX0_parted_23 rfl 0 rfl ?_
    refine zV_if_ne (pc := 24) (tgt := 31) dX0_parted_24 (by decide) o3 (fun c7 => ?_) (fun c7 => ?_)
    · skip
      replace h := h.2 c7
      refine zV_iload_n (pc := 31) dX0_parted_31 rfl 2 rfl ?_
      refine zV_iload_n (pc := 32) dX0_parted_32 rfl 0 rfl ?_
      obtain ⟨o8, h⟩ := h
      refine zV_idivw (pc := 33) dX0_parted_33 o3 o8 ?_
      exact zV_iretw (pc := 34) rfl dX0_parted_34 h
    · replace c7 := Classical.not_not.mp c7
      replace h := h.1 c7
      refine zV_iconst (pc := 27) dX0_parted_27 ?_
      refine zV_goto (pc := 28) (tgt := 34) dX0_parted_28 (by decide) ?_
      exact zV_iretw (pc := 34) rfl dX0_parted_34 h
  · replace c4 := Classical.not_not.mp c4
    replace h := h.1 c4
    refine zV_iconst (pc := 15) dX0_parted_15 ?_
    refine zV_goto (pc := 16) (tgt := 20) dX0_parted_16 (by decide) ?_
    refine zV_putI (pc := 20) (kz := 5) dX0_parted_20 zpX0_32 rfl rfl rfl (z01 (Or.inr rfl)).1 (z01 (Or.inr rfl)).2.1 (z01 (Or.inr rfl)).2.2 ?_
    refine zV_mem (fun m9 e10 => zV_ok (fun hm9 => ?_))
    replace h := h m9 e10 hm9
    refine zV_iload_n (pc := 23) dX0_parted_23 rfl 0 rfl ?_
    refine zV_if_ne (pc := 24) (tgt := 31) dX0_parted_24 (by decide) o3 (fun c11 => ?_) (fun c11 => ?_)
    · skip
      replace h := h.2 c11
      refine zV_iload_n (pc := 31) dX0_parted_31 rfl 2 rfl ?_
      refine zV_iload_n (pc := 32) dX0_parted_32 rfl 0 rfl ?_
      obtain ⟨o12, h⟩ := h
      refine zV_idivw (pc := 33) dX0_parted_33 o3 o12 ?_
      exact zV_iretw (pc := 34) rfl dX0_parted_34 h
    · replace c11 := Classical.not_not.mp c11
      replace h := h.1 c11
      refine zV_iconst (pc := 27) dX0_parted_27 ?_
      refine zV_goto (pc := 28) (tgt := 34) dX0_parted_28 (by decide) ?_
      exact zV_iretw (pc := 34) rfl dX0_parted_34 h

set_option maxRecDepth 100000 in
set_option maxHeartbeats 4000000 in
theorem vcw_X10_flowsIt_0 {K : zCx} {d : Nat} (x1 : Int) (m0 : zM) {Q : Int → zM → Prop} (hx1 : inR x1) (h : zok m0 → ((m0.1 98 50) = 6 → zCt K (d + 1) mX10_ran [rr K 98, .int (iz 70)] m0 (fun r2 m3 => inR r2 → zok m3 → zV K mX10_flowsIt (d + 2) 15 [(0, rr K 98), (1, .int (iz x1))] [] m3 Q)) ∧ (¬ ((m0.1 98 50) = 6) → zV K mX10_flowsIt (d + 2) 15 [(0, rr K 98), (1, .int (iz x1))] [] m0 Q)) : zV K mX10_flowsIt (d + 2) 0 [(0, rr K 98), (1, .int (iz x1))] [] m0 Q := by
  refine zV_ok (fun hm0 => ?_)
  replace h := h hm0
  refine zV_aloadr_n (pc := 0) dX10_flowsIt_0 rfl 0 rfl ?_
  refine zV_getI (pc := 1) (kz := 50) dX10_flowsIt_1 zfX10_369 rfl rfl rfl ?_
  refine zV_bipush (pc := 4) dX10_flowsIt_4 (by decide) ?_
  refine zV_icmp_ne (pc := 6) (tgt := 15) dX10_flowsIt_6 (by decide) (hm0 _ _) (inRd rfl) (fun c1 => ?_) (fun c1 => ?_)
  · skip
    replace h := h.2 c1
    exact zV_sub [0, 1] rfl h
  · replace c1 := Classical.not_not.mp c1
    replace h := h.1 c1
    refine zV_aloadr_n (pc := 9) dX10_flowsIt_9 rfl 0 rfl ?_
    refine zV_bipush (pc := 10) dX10_flowsIt_10 (by decide) ?_
    refine zV_callV (pc := 12) (mc := mX10_ran) (As := [.int (iz 70)]) (rest := []) dX10_flowsIt_12 zcX10_372 ziX10_ran zsX10_ran rfl rfl rfl rfl (Nat.le_of_ble_eq_true rfl) h (fun r2 m3 hr2 h => zV_ok (fun hm3 => ?_))
    replace h := h hr2 hm3
    exact zV_sub [0, 1] rfl h
set_option maxRecDepth 100000 in
set_option maxHeartbeats 4000000 in
theorem vcw_X10_flowsIt_15 {K : zCx} {d : Nat} (x1 : Int) (m0 : zM) {Q : Int → zM → Prop} (hx1 : inR x1) (h : zok m0 → ((m0.1 98 50) = 3 → zCt K (d + 1) mX10_ran [rr K 98, .int (iz 40)] m0 (fun r2 m3 => inR r2 → zok m3 → zV K mX10_flowsIt (d + 2) 29 [(0, rr K 98), (1, .int (iz x1))] [] m3 Q)) ∧ (¬ ((m0.1 98 50) = 3) → zV K mX10_flowsIt (d + 2) 29 [(0, rr K 98), (1, .int (iz x1))] [] m0 Q)) : zV K mX10_flowsIt (d + 2) 15 [(0, rr K 98), (1, .int (iz x1))] [] m0 Q := by
  refine zV_ok (fun hm0 => ?_)
  replace h := h hm0
  refine zV_aloadr_n (pc := 15) dX10_flowsIt_15 rfl 0 rfl ?_
  refine zV_getI (pc := 16) (kz := 50) dX10_flowsIt_16 zfX10_369 rfl rfl rfl ?_
  refine zV_iconst (pc := 19) dX10_flowsIt_19 ?_
  refine zV_icmp_ne (pc := 20) (tgt := 29) dX10_flowsIt_20 (by decide) (hm0 _ _) (inRd rfl) (fun c1 => ?_) (fun c1 => ?_)
  · skip
    replace h := h.2 c1
    exact zV_sub [0, 1] rfl h
  · replace c1 := Classical.not_not.mp c1
    replace h := h.1 c1
    refine zV_aloadr_n (pc := 23) dX10_flowsIt_23 rfl 0 rfl ?_
    refine zV_bipush (pc := 24) dX10_flowsIt_24 (by decide) ?_
    refine zV_callV (pc := 26) (mc := mX10_ran) (As := [.int (iz 40)]) (rest := []) dX10_flowsIt_26 zcX10_372 ziX10_ran zsX10_ran rfl rfl rfl rfl (Nat.le_of_ble_eq_true rfl) h (fun r2 m3 hr2 h => zV_ok (fun hm3 => ?_))
    replace h := h hr2 hm3
    exact zV_sub [0, 1] rfl h
set_option maxRecDepth 100000 in
set_option maxHeartbeats 4000000 in
theorem vcw_X10_flowsIt_29 {K : zCx} {d : Nat} (x1 : Int) (m0 : zM) {Q : Int → zM → Prop} (hx1 : inR x1) (h : zok m0 → ((1 ≤ (m0.1 98 50) ∧ (m0.1 98 50) ≤ 3) → zCt K (d + 1) mX10_ran [rr K 98, .int (iz 20)] m0 (fun r4 m5 => inR r4 → zok m5 → zV K mX10_flowsIt (d + 2) 47 [(0, rr K 98), (1, .int (iz x1))] [] m5 Q)) ∧ (¬ ((1 ≤ (m0.1 98 50) ∧ (m0.1 98 50) ≤ 3)) → zV K mX10_flowsIt (d + 2) 47 [(0, rr K 98), (1, .int (iz x1))] [] m0 Q)) : zV K mX10_flowsIt (d + 2) 29 [(0, rr K 98), (1, .int (iz x1))] [] m0 Q := by
  refine zV_ok (fun hm0 => ?_)
  replace h := h hm0
  refine zV_aloadr_n (pc := 29) dX10_flowsIt_29 rfl 0 rfl ?_
  refine zV_getI (pc := 30) (kz := 50) dX10_flowsIt_30 zfX10_369 rfl rfl rfl ?_
  refine zV_iconst (pc := 33) dX10_flowsIt_33 ?_
  refine zV_iconst (pc := 34) dX10_flowsIt_34 ?_
  refine zV_callSf (pc := 35) (mc := mX10_in) (As := [.int (iz (m0.1 98 50)), .int (iz 1), .int (iz 3)]) (rest := []) dX10_flowsIt_35 zcX10_114 ztX10_in rfl rfl (Nat.le_of_ble_eq_true rfl) (c_X10_in (hm0 _ _) (inRd rfl) (inRd rfl)) (fun hr1 => ?_)
  refine zV_if_eq (pc := 38) (tgt := 47) dX10_flowsIt_38 (by decide) (inR_b2i _) (fun c3 => ?_) (fun c3 => ?_)
  · replace c3 := b2i_fp c3
    replace h := h.2 c3
    exact zV_sub [0, 1] rfl h
  · replace c3 := b2i_tp c3
    replace h := h.1 c3
    refine zV_aloadr_n (pc := 41) dX10_flowsIt_41 rfl 0 rfl ?_
    refine zV_bipush (pc := 42) dX10_flowsIt_42 (by decide) ?_
    refine zV_callV (pc := 44) (mc := mX10_ran) (As := [.int (iz 20)]) (rest := []) dX10_flowsIt_44 zcX10_372 ziX10_ran zsX10_ran rfl rfl rfl rfl (Nat.le_of_ble_eq_true rfl) h (fun r4 m5 hr4 h => zV_ok (fun hm5 => ?_))
    replace h := h hr4 hm5
    exact zV_sub [0, 1] rfl h
set_option maxRecDepth 100000 in
set_option maxHeartbeats 4000000 in
theorem vcw_X10_flowsIt_47 {K : zCx} {d : Nat} (x1 : Int) (m0 : zM) {Q : Int → zM → Prop} (hx1 : inR x1) (h : zok m0 → zCt K (d + 1) mX10_ran [rr K 98, .int (iz 10)] m0 (fun r1 m2 => inR r1 → zok m2 → ∀ v5 : Int, v5 = (if (1 ≤ (m2.1 98 50) ∧ (m2.1 98 50) ≤ 3) then 3 else 0) → (∀ v7 : Int, v7 = ((x1 + (m2.1 98 52)) - v5) → (((m2.1 98 50) = 3 → Q (zw (zxor v7 (m2.1 98 52))) m2) ∧ (¬ ((m2.1 98 50) = 3) → ((m2.1 98 50) = 6 → Q (zw (v7 * 7)) m2) ∧ (¬ ((m2.1 98 50) = 6) → Q (zw v7) m2)))))) : zV K mX10_flowsIt (d + 2) 47 [(0, rr K 98), (1, .int (iz x1))] [] m0 Q := by
  refine zV_ok (fun hm0 => ?_)
  replace h := h hm0
  refine zV_aloadr_n (pc := 47) dX10_flowsIt_47 rfl 0 rfl ?_
  refine zV_bipush (pc := 48) dX10_flowsIt_48 (by decide) ?_
  refine zV_callV (pc := 50) (mc := mX10_ran) (As := [.int (iz 10)]) (rest := []) dX10_flowsIt_50 zcX10_372 ziX10_ran zsX10_ran rfl rfl rfl rfl (Nat.le_of_ble_eq_true rfl) h (fun r1 m2 hr1 h => zV_ok (fun hm2 => ?_))
  replace h := h hr1 hm2
  refine zV_iload_n (pc := 53) dX10_flowsIt_53 rfl 1 rfl ?_
  refine zV_aloadr_n (pc := 54) dX10_flowsIt_54 rfl 0 rfl ?_
  refine zV_getI (pc := 55) (kz := 52) dX10_flowsIt_55 zfX10_375 rfl rfl rfl ?_
  refine zV_iadd (pc := 58) dX10_flowsIt_58 ?_
  refine zV_aloadr_n (pc := 59) dX10_flowsIt_59 rfl 0 rfl ?_
  refine zV_getI (pc := 60) (kz := 50) dX10_flowsIt_60 zfX10_369 rfl rfl rfl ?_
  refine zV_iconst (pc := 63) dX10_flowsIt_63 ?_
  refine zV_iconst (pc := 64) dX10_flowsIt_64 ?_
  refine zV_callSf (pc := 65) (mc := mX10_in) (As := [.int (iz (m2.1 98 50)), .int (iz 1), .int (iz 3)]) (rest := [.int (iz (x1 + (m2.1 98 52)))]) dX10_flowsIt_65 zcX10_114 ztX10_in rfl rfl (Nat.le_of_ble_eq_true rfl) (c_X10_in (hm2 _ _) (inRd rfl) (inRd rfl)) (fun hr3 => ?_)
  have key : ∀ v5 : Int, v5 = (if (1 ≤ (m2.1 98 50) ∧ (m2.1 98 50) ≤ 3) then 3 else 0) → zV K mX10_flowsIt (d + 2) 76 [(0, rr K 98)] [.int (iz v5), .int (iz (x1 + (m2.1 98 52)))] m2 Q := by
    intro v5 e6
    replace h := h v5 e6
    have hrv5 : inR v5 := by rw [e6]; (repeat' split) <;> first | with_reducible exact (inRd rfl)
    refine zV_isub (pc := 76) dX10_flowsIt_76 ?_
    refine zV_name (fun v7 e8 => ?_)
    replace h := h v7 e8
    refine zV_istore_n (pc := 77) (loc' := [(2, .int (iz v7)), (0, rr K 98)]) dX10_flowsIt_77 rfl (by decide) rfl ?_
    refine zV_aloadr_n (pc := 78) dX10_flowsIt_78 rfl 1 rfl ?_
    refine zV_getI (pc := 79) (kz := 50) dX10_flowsIt_79 zfX10_369 rfl rfl rfl ?_
    refine zV_iconst (pc := 82) dX10_flowsIt_82 ?_
    refine zV_icmp_ne (pc := 83) (tgt := 95) dX10_flowsIt_83 (by decide) (hm2 _ _) (inRd rfl) (fun c9 => ?_) (fun c9 => ?_)
    · skip
      replace h := h.2 c9
      refine zV_aloadr_n (pc := 95) dX10_flowsIt_95 rfl 1 rfl ?_
      refine zV_getI (pc := 96) (kz := 50) dX10_flowsIt_96 zfX10_369 rfl rfl rfl ?_
      refine zV_bipush (pc := 99) dX10_flowsIt_99 (by decide) ?_
      refine zV_icmp_ne (pc := 101) (tgt := 111) dX10_flowsIt_101 (by decide) (hm2 _ _) (inRd rfl) (fun c10 => ?_) (fun c10 => ?_)
      · skip
        replace h := h.2 c10
        refine zV_iload_n (pc := 111) dX10_flowsIt_111 rfl 0 rfl ?_
        exact zV_iretw (pc := 112) rfl dX10_flowsIt_112 h
      · replace c10 := Classical.not_not.mp c10
        replace h := h.1 c10
        refine zV_iload_n (pc := 104) dX10_flowsIt_104 rfl 0 rfl ?_
        refine zV_bipush (pc := 105) dX10_flowsIt_105 (by decide) ?_
        refine zV_imul (pc := 107) dX10_flowsIt_107 ?_
        refine zV_goto (pc := 108) (tgt := 112) dX10_flowsIt_108 (by decide) ?_
        exact zV_iretw (pc := 112) rfl dX10_flowsIt_112 h
    · replace c9 := Classical.not_not.mp c9
      replace h := h.1 c9
      refine zV_iload_n (pc := 86) dX10_flowsIt_86 rfl 0 rfl ?_
      refine zV_aloadr_n (pc := 87) dX10_flowsIt_87 rfl 1 rfl ?_
      refine zV_getI (pc := 88) (kz := 52) dX10_flowsIt_88 zfX10_375 rfl rfl rfl ?_
      refine zV_ixor (pc := 91) dX10_flowsIt_91 ?_
      refine zV_goto (pc := 92) (tgt := 112) dX10_flowsIt_92 (by decide) ?_
      exact zV_iretw (pc := 112) rfl dX10_flowsIt_112 h
  refine zV_if_eq (pc := 68) (tgt := 75) dX10_flowsIt_68 (by decide) (inR_b2i _) (fun c11 => ?_) (fun c11 => ?_)
  · replace c11 := b2i_fp c11
    refine zV_iconst (pc := 75) dX10_flowsIt_75 ?_
    exact zV_sub [0] rfl (key _ (if_neg c11).symm)
  · replace c11 := b2i_tp c11
    refine zV_iconst (pc := 71) dX10_flowsIt_71 ?_
    refine zV_goto (pc := 72) (tgt := 76) dX10_flowsIt_72 (by decide) ?_
    exact zV_sub [0] rfl (key _ (if_pos c11).symm)

set_option maxRecDepth 100000 in
set_option maxHeartbeats 4000000 in
theorem vcw_X10_partRests_0 {K : zCx} {d : Nat} (x1 : Int) (m0 : zM) {Q : Int → zM → Prop} (hx1 : inR x1) (h : zok m0 → zCt K (d + 2) mX10_ran [rr K 98, .int (iz 11)] m0 (fun r1 m2 => inR r1 → zok m2 → zCt K (d + 2) mX10_flowsIt [rr K 98, .int (iz x1)] m2 (fun r3 m4 => inR r3 → zok m4 → Q (zw (r3 * 2)) m4))) : zV K mX10_partRests (d + 3) 0 [(0, rr K 98), (1, .int (iz x1))] [] m0 Q := by
  refine zV_ok (fun hm0 => ?_)
  replace h := h hm0
  refine zV_aloadr_n (pc := 0) dX10_partRests_0 rfl 0 rfl ?_
  refine zV_bipush (pc := 1) dX10_partRests_1 (by decide) ?_
  refine zV_callV (pc := 3) (mc := mX10_ran) (As := [.int (iz 11)]) (rest := []) dX10_partRests_3 zcX10_372 ziX10_ran zsX10_ran rfl rfl rfl rfl (Nat.le_of_ble_eq_true rfl) h (fun r1 m2 hr1 h => zV_ok (fun hm2 => ?_))
  replace h := h hr1 hm2
  refine zV_aloadr_n (pc := 6) dX10_partRests_6 rfl 0 rfl ?_
  refine zV_iload_n (pc := 7) dX10_partRests_7 rfl 1 rfl ?_
  refine zV_callV (pc := 8) (mc := mX10_flowsIt) (As := [.int (iz x1)]) (rest := []) dX10_partRests_8 zcX10_378 ziX10_flowsIt zsX10_flowsIt rfl rfl rfl rfl (Nat.le_of_ble_eq_true rfl) h (fun r3 m4 hr3 h => zV_ok (fun hm4 => ?_))
  replace h := h hr3 hm4
  refine zV_iconst (pc := 11) dX10_partRests_11 ?_
  refine zV_imul (pc := 12) dX10_partRests_12 ?_
  exact zV_iretw (pc := 13) rfl dX10_partRests_13 h

set_option maxRecDepth 100000 in
set_option maxHeartbeats 4000000 in
theorem vcw_X10_restsIt_0 {K : zCx} {d : Nat} (x1 : Int) (m0 : zM) {Q : Int → zM → Prop} (hx1 : inR x1) (h : zok m0 → ((m0.1 98 50) = 2 → zCt K (d + 3) mX10_ran [rr K 98, .int (iz 30)] m0 (fun r2 m3 => inR r2 → zok m3 → zCt K (d + 3) mX10_partRests [rr K 98, .int (iz x1)] m3 (fun r4 m5 => inR r4 → zok m5 → zCt K (d + 3) mX10_flowsIt [rr K 98, .int (iz 2)] m5 (fun r6 m7 => inR r6 → zok m7 → Q (zw (r4 + r6)) m7)))) ∧ (¬ ((m0.1 98 50) = 2) → ((m0.1 98 50) = 3 → zCt K (d + 3) mX10_ran [rr K 98, .int (iz 30)] m0 (fun r16 m17 => inR r16 → zok m17 → zCt K (d + 3) mX10_partRests [rr K 98, .int (iz x1)] m17 (fun r18 m19 => inR r18 → zok m19 → zCt K (d + 3) mX10_flowsIt [rr K 98, .int (iz 2)] m19 (fun r20 m21 => inR r20 → zok m21 → Q (zw (r18 + r20)) m21)))) ∧ (¬ ((m0.1 98 50) = 3) → ((m0.1 98 50) = 4 → zCt K (d + 3) mX10_ran [rr K 98, .int (iz 50)] m0 (fun r12 m13 => inR r12 → zok m13 → zCt K (d + 3) mX10_partRests [rr K 98, .int (iz x1)] m13 (fun r14 m15 => inR r14 → zok m15 → Q (zw (-r14)) m15))) ∧ (¬ ((m0.1 98 50) = 4) → zCt K (d + 3) mX10_partRests [rr K 98, .int (iz x1)] m0 (fun r10 m11 => inR r10 → zok m11 → Q (zw r10) m11))))) : zV K mX10_restsIt (d + 4) 0 [(0, rr K 98), (1, .int (iz x1))] [] m0 Q := by
  refine zV_ok (fun hm0 => ?_)
  replace h := h hm0
  refine zV_aloadr_n (pc := 0) dX10_restsIt_0 rfl 0 rfl ?_
  refine zV_getI (pc := 1) (kz := 50) dX10_restsIt_1 zfX10_369 rfl rfl rfl ?_
  refine zV_iconst (pc := 4) dX10_restsIt_4 ?_
  refine zV_icmp_eq (pc := 5) (tgt := 16) dX10_restsIt_5 (by decide) (hm0 _ _) (inRd rfl) (fun c1 => ?_) (fun c1 => ?_)
  · skip
    replace h := h.1 c1
    refine zV_aloadr_n (pc := 16) dX10_restsIt_16 rfl 0 rfl ?_
    refine zV_bipush (pc := 17) dX10_restsIt_17 (by decide) ?_
    refine zV_callV (pc := 19) (mc := mX10_ran) (As := [.int (iz 30)]) (rest := []) dX10_restsIt_19 zcX10_372 ziX10_ran zsX10_ran rfl rfl rfl rfl (Nat.le_of_ble_eq_true rfl) h (fun r2 m3 hr2 h => zV_ok (fun hm3 => ?_))
    replace h := h hr2 hm3
    refine zV_aloadr_n (pc := 22) dX10_restsIt_22 rfl 0 rfl ?_
    refine zV_iload_n (pc := 23) dX10_restsIt_23 rfl 1 rfl ?_
    refine zV_callV (pc := 24) (mc := mX10_partRests) (As := [.int (iz x1)]) (rest := []) dX10_restsIt_24 zcX10_381 ziX10_partRests zsX10_partRests rfl rfl rfl rfl (Nat.le_of_ble_eq_true rfl) h (fun r4 m5 hr4 h => zV_ok (fun hm5 => ?_))
    replace h := h hr4 hm5
    refine zV_istore_n (pc := 27) (loc' := [(2, .int (iz r4)), (0, rr K 98), (1, .int (iz x1))]) dX10_restsIt_27 rfl (by decide) rfl ?_
    refine zV_iload_n (pc := 28) dX10_restsIt_28 rfl 0 rfl ?_
    refine zV_aloadr_n (pc := 29) dX10_restsIt_29 rfl 1 rfl ?_
    refine zV_iconst (pc := 30) dX10_restsIt_30 ?_
    refine zV_callV (pc := 31) (mc := mX10_flowsIt) (As := [.int (iz 2)]) (rest := [.int (iz r4)]) dX10_restsIt_31 zcX10_378 ziX10_flowsIt zsX10_flowsIt rfl rfl rfl rfl (Nat.le_of_ble_eq_true rfl) h (fun r6 m7 hr6 h => zV_ok (fun hm7 => ?_))
    replace h := h hr6 hm7
    refine zV_iadd (pc := 34) dX10_restsIt_34 ?_
    exact zV_iretw (pc := 35) rfl dX10_restsIt_35 h
  · skip
    replace h := h.2 c1
    refine zV_aloadr_n (pc := 8) dX10_restsIt_8 rfl 0 rfl ?_
    refine zV_getI (pc := 9) (kz := 50) dX10_restsIt_9 zfX10_369 rfl rfl rfl ?_
    refine zV_iconst (pc := 12) dX10_restsIt_12 ?_
    refine zV_icmp_ne (pc := 13) (tgt := 36) dX10_restsIt_13 (by decide) (hm0 _ _) (inRd rfl) (fun c8 => ?_) (fun c8 => ?_)
    · skip
      replace h := h.2 c8
      refine zV_aloadr_n (pc := 36) dX10_restsIt_36 rfl 0 rfl ?_
      refine zV_getI (pc := 37) (kz := 50) dX10_restsIt_37 zfX10_369 rfl rfl rfl ?_
      refine zV_iconst (pc := 40) dX10_restsIt_40 ?_
      refine zV_icmp_ne (pc := 41) (tgt := 57) dX10_restsIt_41 (by decide) (hm0 _ _) (inRd rfl) (fun c9 => ?_) (fun c9 => ?_)
      · skip
        replace h := h.2 c9
        refine zV_aloadr_n (pc := 57) dX10_restsIt_57 rfl 0 rfl ?_
        refine zV_iload_n (pc := 58) dX10_restsIt_58 rfl 1 rfl ?_
        refine zV_callV (pc := 59) (mc := mX10_partRests) (As := [.int (iz x1)]) (rest := []) dX10_restsIt_59 zcX10_381 ziX10_partRests zsX10_partRests rfl rfl rfl rfl (Nat.le_of_ble_eq_true rfl) h (fun r10 m11 hr10 h => zV_ok (fun hm11 => ?_))
        replace h := h hr10 hm11
        exact zV_iretw (pc := 62) rfl dX10_restsIt_62 h
      · replace c9 := Classical.not_not.mp c9
        replace h := h.1 c9
        refine zV_aloadr_n (pc := 44) dX10_restsIt_44 rfl 0 rfl ?_
        refine zV_bipush (pc := 45) dX10_restsIt_45 (by decide) ?_
        refine zV_callV (pc := 47) (mc := mX10_ran) (As := [.int (iz 50)]) (rest := []) dX10_restsIt_47 zcX10_372 ziX10_ran zsX10_ran rfl rfl rfl rfl (Nat.le_of_ble_eq_true rfl) h (fun r12 m13 hr12 h => zV_ok (fun hm13 => ?_))
        replace h := h hr12 hm13
        refine zV_aloadr_n (pc := 50) dX10_restsIt_50 rfl 0 rfl ?_
        refine zV_iload_n (pc := 51) dX10_restsIt_51 rfl 1 rfl ?_
        refine zV_callV (pc := 52) (mc := mX10_partRests) (As := [.int (iz x1)]) (rest := []) dX10_restsIt_52 zcX10_381 ziX10_partRests zsX10_partRests rfl rfl rfl rfl (Nat.le_of_ble_eq_true rfl) h (fun r14 m15 hr14 h => zV_ok (fun hm15 => ?_))
        replace h := h hr14 hm15
        refine zV_ineg (pc := 55) dX10_restsIt_55 ?_
        exact zV_iretw (pc := 56) rfl dX10_restsIt_56 h
    · replace c8 := Classical.not_not.mp c8
      replace h := h.1 c8
      refine zV_aloadr_n (pc := 16) dX10_restsIt_16 rfl 0 rfl ?_
      refine zV_bipush (pc := 17) dX10_restsIt_17 (by decide) ?_
      refine zV_callV (pc := 19) (mc := mX10_ran) (As := [.int (iz 30)]) (rest := []) dX10_restsIt_19 zcX10_372 ziX10_ran zsX10_ran rfl rfl rfl rfl (Nat.le_of_ble_eq_true rfl) h (fun r16 m17 hr16 h => zV_ok (fun hm17 => ?_))
      replace h := h hr16 hm17
      refine zV_aloadr_n (pc := 22) dX10_restsIt_22 rfl 0 rfl ?_
      refine zV_iload_n (pc := 23) dX10_restsIt_23 rfl 1 rfl ?_
      refine zV_callV (pc := 24) (mc := mX10_partRests) (As := [.int (iz x1)]) (rest := []) dX10_restsIt_24 zcX10_381 ziX10_partRests zsX10_partRests rfl rfl rfl rfl (Nat.le_of_ble_eq_true rfl) h (fun r18 m19 hr18 h => zV_ok (fun hm19 => ?_))
      replace h := h hr18 hm19
      refine zV_istore_n (pc := 27) (loc' := [(2, .int (iz r18)), (0, rr K 98), (1, .int (iz x1))]) dX10_restsIt_27 rfl (by decide) rfl ?_
      refine zV_iload_n (pc := 28) dX10_restsIt_28 rfl 0 rfl ?_
      refine zV_aloadr_n (pc := 29) dX10_restsIt_29 rfl 1 rfl ?_
      refine zV_iconst (pc := 30) dX10_restsIt_30 ?_
      refine zV_callV (pc := 31) (mc := mX10_flowsIt) (As := [.int (iz 2)]) (rest := [.int (iz r18)]) dX10_restsIt_31 zcX10_378 ziX10_flowsIt zsX10_flowsIt rfl rfl rfl rfl (Nat.le_of_ble_eq_true rfl) h (fun r20 m21 hr20 h => zV_ok (fun hm21 => ?_))
      replace h := h hr20 hm21
      refine zV_iadd (pc := 34) dX10_restsIt_34 ?_
      exact zV_iretw (pc := 35) rfl dX10_restsIt_35 h

set_option maxRecDepth 100000 in
set_option maxHeartbeats 4000000 in
theorem vcw_X10_partsIt_0 {K : zCx} {d : Nat} (x1 : Int) (m0 : zM) {Q : Int → zM → Prop} (hx1 : inR x1) (h : zok m0 → ((m0.1 98 50) = 3 → zCt K (d + 1) mX10_ran [rr K 98, .int (iz 41)] m0 (fun r9 m10 => inR r9 → zok m10 → ∀ v11 : Int, v11 = (x1 - 1) → (zCt K (d + 1) mX10_ran [rr K 98, .int (iz 12)] m10 (fun r13 m14 => inR r13 → zok m14 → ((m14.1 98 52) = (m14.1 98 51) → ∀ m18 : zM, m18 = sI m14 98 55 1 → zok m18 → (Q (zw 0) m18)) ∧ (¬ ((m14.1 98 52) = (m14.1 98 51)) → inR ((m14.1 98 52) - (m14.1 98 51)) ∧ (((m14.1 98 52) - (m14.1 98 51)) ≠ 0 ∧ (Q (zw (zdv v11 ((m14.1 98 52) - (m14.1 98 51)))) m14))))))) ∧ (¬ ((m0.1 98 50) = 3) → zCt K (d + 1) mX10_ran [rr K 98, .int (iz 12)] m0 (fun r2 m3 => inR r2 → zok m3 → ((m3.1 98 52) = (m3.1 98 51) → ∀ m7 : zM, m7 = sI m3 98 55 1 → zok m7 → (Q (zw 0) m7)) ∧ (¬ ((m3.1 98 52) = (m3.1 98 51)) → inR ((m3.1 98 52) - (m3.1 98 51)) ∧ (((m3.1 98 52) - (m3.1 98 51)) ≠ 0 ∧ (Q (zw (zdv x1 ((m3.1 98 52) - (m3.1 98 51)))) m3)))))) : zV K mX10_partsIt (d + 2) 0 [(0, rr K 98), (1, .int (iz x1))] [] m0 Q := by
  refine zV_ok (fun hm0 => ?_)
  replace h := h hm0
  refine zV_iload_n (pc := 0) dX10_partsIt_0 rfl 1 rfl ?_
  refine zV_istore_n (pc := 1) (loc' := [(2, .int (iz x1)), (0, rr K 98), (1, .int (iz x1))]) dX10_partsIt_1 rfl (by decide) rfl ?_
  refine zV_aloadr_n (pc := 2) dX10_partsIt_2 rfl 1 rfl ?_
  refine zV_getI (pc := 3) (kz := 50) dX10_partsIt_3 zfX10_369 rfl rfl rfl ?_
  refine zV_iconst (pc := 6) dX10_partsIt_6 ?_
  refine zV_icmp_ne (pc := 7) (tgt := 20) dX10_partsIt_7 (by decide) (hm0 _ _) (inRd rfl) (fun c1 => ?_) (fun c1 => ?_)
  · skip
    replace h := h.2 c1
    refine zV_aloadr_n (pc := 20) dX10_partsIt_20 rfl 1 rfl ?_
    refine zV_bipush (pc := 21) dX10_partsIt_21 (by decide) ?_
    refine zV_callV (pc := 23) (mc := mX10_ran) (As := [.int (iz 12)]) (rest := []) dX10_partsIt_23 zcX10_372 ziX10_ran zsX10_ran rfl rfl rfl rfl (Nat.le_of_ble_eq_true rfl) h (fun r2 m3 hr2 h => zV_ok (fun hm3 => ?_))
    replace h := h hr2 hm3
    refine zV_aloadr_n (pc := 26) dX10_partsIt_26 rfl 1 rfl ?_
    refine zV_getI (pc := 27) (kz := 52) dX10_partsIt_27 zfX10_375 rfl rfl rfl ?_
    refine zV_aloadr_n (pc := 30) dX10_partsIt_30 rfl 1 rfl ?_
    refine zV_getI (pc := 31) (kz := 51) dX10_partsIt_31 zfX10_384 rfl rfl rfl ?_
    refine zV_icmp_ne (pc := 34) (tgt := 44) dX10_partsIt_34 (by decide) (hm3 _ _) (hm3 _ _) (fun c4 => ?_) (fun c4 => ?_)
    · skip
      replace h := h.2 c4
      refine zV_iload_n (pc := 44) dX10_partsIt_44 rfl 0 rfl ?_
      refine zV_aloadr_n (pc := 45) dX10_partsIt_45 rfl 1 rfl ?_
      refine zV_getI (pc := 46) (kz := 52) dX10_partsIt_46 zfX10_375 rfl rfl rfl ?_
      refine zV_aloadr_n (pc := 49) dX10_partsIt_49 rfl 1 rfl ?_
      refine zV_getI (pc := 50) (kz := 51) dX10_partsIt_50 zfX10_384 rfl rfl rfl ?_
      refine zV_isub (pc := 53) dX10_partsIt_53 ?_
      obtain ⟨o5, h⟩ := h
      obtain ⟨o6, h⟩ := h
      refine zV_idivw (pc := 54) dX10_partsIt_54 o5 o6 ?_
      exact zV_iretw (pc := 55) rfl dX10_partsIt_55 h
    · replace c4 := Classical.not_not.mp c4
      replace h := h.1 c4
      refine zV_aloadr_n (pc := 37) dX10_partsIt_37 rfl 1 rfl ?_
      refine zV_iconst (pc := 38) dX10_partsIt_38 ?_
      refine zV_putI (pc := 39) (kz := 55) dX10_partsIt_39 zpX10_387 rfl rfl rfl (z01 (Or.inr rfl)).1 (z01 (Or.inr rfl)).2.1 (z01 (Or.inr rfl)).2.2 ?_
      refine zV_mem (fun m7 e8 => zV_ok (fun hm7 => ?_))
      replace h := h m7 e8 hm7
      refine zV_iconst (pc := 42) dX10_partsIt_42 ?_
      exact zV_iretw (pc := 43) rfl dX10_partsIt_43 h
  · replace c1 := Classical.not_not.mp c1
    replace h := h.1 c1
    refine zV_aloadr_n (pc := 10) dX10_partsIt_10 rfl 1 rfl ?_
    refine zV_bipush (pc := 11) dX10_partsIt_11 (by decide) ?_
    refine zV_callV (pc := 13) (mc := mX10_ran) (As := [.int (iz 41)]) (rest := []) dX10_partsIt_13 zcX10_372 ziX10_ran zsX10_ran rfl rfl rfl rfl (Nat.le_of_ble_eq_true rfl) h (fun r9 m10 hr9 h => zV_ok (fun hm10 => ?_))
    replace h := h hr9 hm10
    refine zV_iload_n (pc := 16) dX10_partsIt_16 rfl 2 rfl ?_
    refine zV_iconst (pc := 17) dX10_partsIt_17 ?_
    refine zV_isub (pc := 18) dX10_partsIt_18 ?_
    refine zV_name (fun v11 e12 => ?_)
    replace h := h v11 e12
    refine zV_istore_n (pc := 19) (loc' := [(2, .int (iz v11)), (0, rr K 98), (1, .int (iz x1))]) dX10_partsIt_19 rfl (by decide) rfl ?_
    refine zV_aloadr_n (pc := 20) dX10_partsIt_20 rfl 1 rfl ?_
    refine zV_bipush (pc := 21) dX10_partsIt_21 (by decide) ?_
    refine zV_callV (pc := 23) (mc := mX10_ran) (As := [.int (iz 12)]) (rest := []) dX10_partsIt_23 zcX10_372 ziX10_ran zsX10_ran rfl rfl rfl rfl (Nat.le_of_ble_eq_true rfl) h (fun r13 m14 hr13 h => zV_ok (fun hm14 => ?_))
    replace h := h hr13 hm14
    refine zV_aloadr_n (pc := 26) dX10_partsIt_26 rfl 1 rfl ?_
    refine zV_getI (pc := 27) (kz := 52) dX10_partsIt_27 zfX10_375 rfl rfl rfl ?_
    refine zV_aloadr_n (pc := 30) dX10_partsIt_30 rfl 1 rfl ?_
    refine zV_getI (pc := 31) (kz := 51) dX10_partsIt_31 zfX10_384 rfl rfl rfl ?_
    refine zV_icmp_ne (pc := 34) (tgt := 44) dX10_partsIt_34 (by decide) (hm14 _ _) (hm14 _ _) (fun c15 => ?_) (fun c15 => ?_)
    · skip
      replace h := h.2 c15
      refine zV_iload_n (pc := 44) dX10_partsIt_44 rfl 0 rfl ?_
      refine zV_aloadr_n (pc := 45) dX10_partsIt_45 rfl 1 rfl ?_
      refine zV_getI (pc := 46) (kz := 52) dX10_partsIt_46 zfX10_375 rfl rfl rfl ?_
      refine zV_aloadr_n (pc := 49) dX10_partsIt_49 rfl 1 rfl ?_
      refine zV_getI (pc := 50) (kz := 51) dX10_partsIt_50 zfX10_384 rfl rfl rfl ?_
      refine zV_isub (pc := 53) dX10_partsIt_53 ?_
      obtain ⟨o16, h⟩ := h
      obtain ⟨o17, h⟩ := h
      refine zV_idivw (pc := 54) dX10_partsIt_54 o16 o17 ?_
      exact zV_iretw (pc := 55) rfl dX10_partsIt_55 h
    · replace c15 := Classical.not_not.mp c15
      replace h := h.1 c15
      refine zV_aloadr_n (pc := 37) dX10_partsIt_37 rfl 1 rfl ?_
      refine zV_iconst (pc := 38) dX10_partsIt_38 ?_
      refine zV_putI (pc := 39) (kz := 55) dX10_partsIt_39 zpX10_387 rfl rfl rfl (z01 (Or.inr rfl)).1 (z01 (Or.inr rfl)).2.1 (z01 (Or.inr rfl)).2.2 ?_
      refine zV_mem (fun m18 e19 => zV_ok (fun hm18 => ?_))
      replace h := h m18 e19 hm18
      refine zV_iconst (pc := 42) dX10_partsIt_42 ?_
      exact zV_iretw (pc := 43) rfl dX10_partsIt_43 h

set_option maxRecDepth 100000 in
set_option maxHeartbeats 4000000 in
theorem vcw_X10_errsIt_0 {K : zCx} {d : Nat} (x1 : Int) (m0 : zM) {Q : Int → zM → Prop} (hx1 : inR x1) (h : zok m0 → ((m0.1 98 50) = 2 → zCt K (d + 5) mX10_ran [rr K 98, .int (iz 31)] m0 (fun r2 m3 => inR r2 → zok m3 → zCt K (d + 5) mX10_partErrs [rr K 98, .int (iz x1)] m3 (fun r4 m5 => inR r4 → zok m5 → Q (zw (r4 * 5)) m5))) ∧ (¬ ((m0.1 98 50) = 2) → ((m0.1 98 50) = 3 → zCt K (d + 5) mX10_ran [rr K 98, .int (iz 31)] m0 (fun r16 m17 => inR r16 → zok m17 → zCt K (d + 5) mX10_partErrs [rr K 98, .int (iz x1)] m17 (fun r18 m19 => inR r18 → zok m19 → Q (zw (r18 * 5)) m19))) ∧ (¬ ((m0.1 98 50) = 3) → ((m0.1 98 50) = 5 → zCt K (d + 5) mX10_ran [rr K 98, .int (iz 60)] m0 (fun r10 m11 => inR r10 → zok m11 → zCt K (d + 5) mX10_partErrs [rr K 98, .int (iz x1)] m11 (fun r12 m13 => inR r12 → zok m13 → zCt K (d + 5) mX10_partsIt [rr K 98, .int (iz ((m13.1 98 51) + 1))] m13 (fun r14 m15 => inR r14 → zok m15 → Q (zw (r12 + r14)) m15)))) ∧ (¬ ((m0.1 98 50) = 5) → zCt K (d + 5) mX10_partErrs [rr K 98, .int (iz x1)] m0 (fun r8 m9 => inR r8 → zok m9 → Q (zw r8) m9))))) : zV K mX10_errsIt (d + 6) 0 [(0, rr K 98), (1, .int (iz x1))] [] m0 Q := by
  refine zV_ok (fun hm0 => ?_)
  replace h := h hm0
  refine zV_aloadr_n (pc := 0) dX10_errsIt_0 rfl 0 rfl ?_
  refine zV_getI (pc := 1) (kz := 50) dX10_errsIt_1 zfX10_369 rfl rfl rfl ?_
  refine zV_iconst (pc := 4) dX10_errsIt_4 ?_
  refine zV_icmp_eq (pc := 5) (tgt := 16) dX10_errsIt_5 (by decide) (hm0 _ _) (inRd rfl) (fun c1 => ?_) (fun c1 => ?_)
  · skip
    replace h := h.1 c1
    refine zV_aloadr_n (pc := 16) dX10_errsIt_16 rfl 0 rfl ?_
    refine zV_bipush (pc := 17) dX10_errsIt_17 (by decide) ?_
    refine zV_callV (pc := 19) (mc := mX10_ran) (As := [.int (iz 31)]) (rest := []) dX10_errsIt_19 zcX10_372 ziX10_ran zsX10_ran rfl rfl rfl rfl (Nat.le_of_ble_eq_true rfl) h (fun r2 m3 hr2 h => zV_ok (fun hm3 => ?_))
    replace h := h hr2 hm3
    refine zV_aloadr_n (pc := 22) dX10_errsIt_22 rfl 0 rfl ?_
    refine zV_iload_n (pc := 23) dX10_errsIt_23 rfl 1 rfl ?_
    refine zV_callV (pc := 24) (mc := mX10_partErrs) (As := [.int (iz x1)]) (rest := []) dX10_errsIt_24 zcX10_394 ziX10_partErrs zsX10_partErrs rfl rfl rfl rfl (Nat.le_of_ble_eq_true rfl) h (fun r4 m5 hr4 h => zV_ok (fun hm5 => ?_))
    replace h := h hr4 hm5
    refine zV_iconst (pc := 27) dX10_errsIt_27 ?_
    refine zV_imul (pc := 28) dX10_errsIt_28 ?_
    exact zV_iretw (pc := 29) rfl dX10_errsIt_29 h
  · skip
    replace h := h.2 c1
    refine zV_aloadr_n (pc := 8) dX10_errsIt_8 rfl 0 rfl ?_
    refine zV_getI (pc := 9) (kz := 50) dX10_errsIt_9 zfX10_369 rfl rfl rfl ?_
    refine zV_iconst (pc := 12) dX10_errsIt_12 ?_
    refine zV_icmp_ne (pc := 13) (tgt := 30) dX10_errsIt_13 (by decide) (hm0 _ _) (inRd rfl) (fun c6 => ?_) (fun c6 => ?_)
    · skip
      replace h := h.2 c6
      refine zV_aloadr_n (pc := 30) dX10_errsIt_30 rfl 0 rfl ?_
      refine zV_getI (pc := 31) (kz := 50) dX10_errsIt_31 zfX10_369 rfl rfl rfl ?_
      refine zV_iconst (pc := 34) dX10_errsIt_34 ?_
      refine zV_icmp_ne (pc := 35) (tgt := 63) dX10_errsIt_35 (by decide) (hm0 _ _) (inRd rfl) (fun c7 => ?_) (fun c7 => ?_)
      · skip
        replace h := h.2 c7
        refine zV_aloadr_n (pc := 63) dX10_errsIt_63 rfl 0 rfl ?_
        refine zV_iload_n (pc := 64) dX10_errsIt_64 rfl 1 rfl ?_
        refine zV_callV (pc := 65) (mc := mX10_partErrs) (As := [.int (iz x1)]) (rest := []) dX10_errsIt_65 zcX10_394 ziX10_partErrs zsX10_partErrs rfl rfl rfl rfl (Nat.le_of_ble_eq_true rfl) h (fun r8 m9 hr8 h => zV_ok (fun hm9 => ?_))
        replace h := h hr8 hm9
        exact zV_iretw (pc := 68) rfl dX10_errsIt_68 h
      · replace c7 := Classical.not_not.mp c7
        replace h := h.1 c7
        refine zV_aloadr_n (pc := 38) dX10_errsIt_38 rfl 0 rfl ?_
        refine zV_bipush (pc := 39) dX10_errsIt_39 (by decide) ?_
        refine zV_callV (pc := 41) (mc := mX10_ran) (As := [.int (iz 60)]) (rest := []) dX10_errsIt_41 zcX10_372 ziX10_ran zsX10_ran rfl rfl rfl rfl (Nat.le_of_ble_eq_true rfl) h (fun r10 m11 hr10 h => zV_ok (fun hm11 => ?_))
        replace h := h hr10 hm11
        refine zV_aloadr_n (pc := 44) dX10_errsIt_44 rfl 0 rfl ?_
        refine zV_iload_n (pc := 45) dX10_errsIt_45 rfl 1 rfl ?_
        refine zV_callV (pc := 46) (mc := mX10_partErrs) (As := [.int (iz x1)]) (rest := []) dX10_errsIt_46 zcX10_394 ziX10_partErrs zsX10_partErrs rfl rfl rfl rfl (Nat.le_of_ble_eq_true rfl) h (fun r12 m13 hr12 h => zV_ok (fun hm13 => ?_))
        replace h := h hr12 hm13
        refine zV_istore_n (pc := 49) (loc' := [(2, .int (iz r12)), (0, rr K 98), (1, .int (iz x1))]) dX10_errsIt_49 rfl (by decide) rfl ?_
        refine zV_iload_n (pc := 50) dX10_errsIt_50 rfl 0 rfl ?_
        refine zV_aloadr_n (pc := 51) dX10_errsIt_51 rfl 1 rfl ?_
        refine zV_aloadr_n (pc := 52) dX10_errsIt_52 rfl 1 rfl ?_
        refine zV_getI (pc := 53) (kz := 51) dX10_errsIt_53 zfX10_384 rfl rfl rfl ?_
        refine zV_iconst (pc := 56) dX10_errsIt_56 ?_
        refine zV_iadd (pc := 57) dX10_errsIt_57 ?_
        refine zV_callV (pc := 58) (mc := mX10_partsIt) (As := [.int (iz ((m13.1 98 51) + 1))]) (rest := [.int (iz r12)]) dX10_errsIt_58 zcX10_397 ziX10_partsIt zsX10_partsIt rfl rfl rfl rfl (Nat.le_of_ble_eq_true rfl) h (fun r14 m15 hr14 h => zV_ok (fun hm15 => ?_))
        replace h := h hr14 hm15
        refine zV_iadd (pc := 61) dX10_errsIt_61 ?_
        exact zV_iretw (pc := 62) rfl dX10_errsIt_62 h
    · replace c6 := Classical.not_not.mp c6
      replace h := h.1 c6
      refine zV_aloadr_n (pc := 16) dX10_errsIt_16 rfl 0 rfl ?_
      refine zV_bipush (pc := 17) dX10_errsIt_17 (by decide) ?_
      refine zV_callV (pc := 19) (mc := mX10_ran) (As := [.int (iz 31)]) (rest := []) dX10_errsIt_19 zcX10_372 ziX10_ran zsX10_ran rfl rfl rfl rfl (Nat.le_of_ble_eq_true rfl) h (fun r16 m17 hr16 h => zV_ok (fun hm17 => ?_))
      replace h := h hr16 hm17
      refine zV_aloadr_n (pc := 22) dX10_errsIt_22 rfl 0 rfl ?_
      refine zV_iload_n (pc := 23) dX10_errsIt_23 rfl 1 rfl ?_
      refine zV_callV (pc := 24) (mc := mX10_partErrs) (As := [.int (iz x1)]) (rest := []) dX10_errsIt_24 zcX10_394 ziX10_partErrs zsX10_partErrs rfl rfl rfl rfl (Nat.le_of_ble_eq_true rfl) h (fun r18 m19 hr18 h => zV_ok (fun hm19 => ?_))
      replace h := h hr18 hm19
      refine zV_iconst (pc := 27) dX10_errsIt_27 ?_
      refine zV_imul (pc := 28) dX10_errsIt_28 ?_
      exact zV_iretw (pc := 29) rfl dX10_errsIt_29 h
