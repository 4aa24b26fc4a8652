/-! ===== the law's loop ===== -/
theorem zl_sub {K : zCx} {b L : Nat} {xs : Nat → Int32} {pc : Nat} {loc loc' : List (Nat × Value)} {stk : List Value} {m : zM} (ks : List Nat) (hs : lv_pick loc ks = loc') (k : zLj K b L xs pc loc' stk m) : zLj K b L xs pc loc stk m := by
  intro p e s mt below meth c F hK hh H locs ls hR hl
  exact k p e s mt below meth c F hK hh H locs ls hR (lv_sub hl ks hs)
section LP
variable {K : zCx} {b L : Nat} {xs : Nat → Int32} {m : zM}
theorem zl_sw {n i x : Int} (hx : inR x) (h0 : 0 ≤ i) (hi : i + 6 ≤ (L : Int)) (hL : L ≤ 384) (h : zInv n m) (hn : 0 ≤ n ∧ n ≤ 100) (kk : ∀ m2, zInv (n + 1) m2 → zLj K b L xs 1508 [(0, .ref b), (1, rr K 0), (2, rr K 98), (3, .int (iz i))] [] m2) (k0 : zLj K b L xs 1508 [(0, .ref b), (1, rr K 0), (2, rr K 98), (3, .int (iz i))] [] m) : zLj K b L xs 33 [(0, .ref b), (1, rr K 0), (2, rr K 98), (3, .int (iz i))] [.int (iz x)] m := by
  by_cases ho : x < 0 ∨ 41 < x
  · exact zl_tswOut (pc := 33) (tgt := 1508) dL_law_33 hx ho (by decide) k0
  · have hc : x = 0 ∨ x = 1 ∨ x = 2 ∨ x = 3 ∨ x = 4 ∨ x = 5 ∨ x = 6 ∨ x = 7 ∨ x = 8 ∨ x = 9 ∨ x = 10 ∨ x = 11 ∨ x = 12 ∨ x = 13 ∨ x = 14 ∨ x = 15 ∨ x = 16 ∨ x = 17 ∨ x = 18 ∨ x = 19 ∨ x = 20 ∨ x = 21 ∨ x = 22 ∨ x = 23 ∨ x = 24 ∨ x = 25 ∨ x = 26 ∨ x = 27 ∨ x = 28 ∨ x = 29 ∨ x = 30 ∨ x = 31 ∨ x = 32 ∨ x = 33 ∨ x = 34 ∨ x = 35 ∨ x = 36 ∨ x = 37 ∨ x = 38 ∨ x = 39 ∨ x = 40 ∨ x = 41 := by omega
    rcases hc with e | e | e | e | e | e | e | e | e | e | e | e | e | e | e | e | e | e | e | e | e | e | e | e | e | e | e | e | e | e | e | e | e | e | e | e | e | e | e | e | e | e
    · exact zl_tswIn (pc := 33) (v := 0) (tgt := 216) dL_law_33 e (inRd rfl) (by decide) (by decide) rfl (by decide) (kL_0 h0 hi hL h hn kk)
    · exact zl_tswIn (pc := 33) (v := 1) (tgt := 239) dL_law_33 e (inRd rfl) (by decide) (by decide) rfl (by decide) (kL_1 h0 hi hL h hn kk)
    · exact zl_tswIn (pc := 33) (v := 2) (tgt := 302) dL_law_33 e (inRd rfl) (by decide) (by decide) rfl (by decide) (kL_2 h0 hi hL h hn kk)
    · exact zl_tswIn (pc := 33) (v := 3) (tgt := 335) dL_law_33 e (inRd rfl) (by decide) (by decide) rfl (by decide) (kL_3 h0 hi hL h hn kk)
    · exact zl_tswIn (pc := 33) (v := 4) (tgt := 368) dL_law_33 e (inRd rfl) (by decide) (by decide) rfl (by decide) (kL_4 h0 hi hL h hn kk)
    · exact zl_tswIn (pc := 33) (v := 5) (tgt := 401) dL_law_33 e (inRd rfl) (by decide) (by decide) rfl (by decide) (kL_5 h0 hi hL h hn kk)
    · exact zl_tswIn (pc := 33) (v := 6) (tgt := 414) dL_law_33 e (inRd rfl) (by decide) (by decide) rfl (by decide) (kL_6 h0 hi hL h hn kk)
    · exact zl_tswIn (pc := 33) (v := 7) (tgt := 437) dL_law_33 e (inRd rfl) (by decide) (by decide) rfl (by decide) (kL_7 h0 hi hL h hn kk)
    · exact zl_tswIn (pc := 33) (v := 8) (tgt := 460) dL_law_33 e (inRd rfl) (by decide) (by decide) rfl (by decide) (kL_8 h0 hi hL h hn kk)
    · exact zl_tswIn (pc := 33) (v := 9) (tgt := 503) dL_law_33 e (inRd rfl) (by decide) (by decide) rfl (by decide) (kL_9 h0 hi hL h hn kk)
    · exact zl_tswIn (pc := 33) (v := 10) (tgt := 536) dL_law_33 e (inRd rfl) (by decide) (by decide) rfl (by decide) (kL_10 h0 hi hL h hn kk)
    · exact zl_tswIn (pc := 33) (v := 11) (tgt := 569) dL_law_33 e (inRd rfl) (by decide) (by decide) rfl (by decide) (kL_11 h0 hi hL h hn kk)
    · exact zl_tswIn (pc := 33) (v := 12) (tgt := 592) dL_law_33 e (inRd rfl) (by decide) (by decide) rfl (by decide) (kL_12 h0 hi hL h hn kk)
    · exact zl_tswIn (pc := 33) (v := 13) (tgt := 625) dL_law_33 e (inRd rfl) (by decide) (by decide) rfl (by decide) (kL_13 h0 hi hL h hn kk)
    · exact zl_tswIn (pc := 33) (v := 14) (tgt := 658) dL_law_33 e (inRd rfl) (by decide) (by decide) rfl (by decide) (kL_14 h0 hi hL h hn kk)
    · exact zl_tswIn (pc := 33) (v := 15) (tgt := 721) dL_law_33 e (inRd rfl) (by decide) (by decide) rfl (by decide) (kL_15 h0 hi hL h hn kk)
    · exact zl_tswIn (pc := 33) (v := 16) (tgt := 734) dL_law_33 e (inRd rfl) (by decide) (by decide) rfl (by decide) (kL_16 h0 hi hL h hn kk)
    · exact zl_tswIn (pc := 33) (v := 17) (tgt := 747) dL_law_33 e (inRd rfl) (by decide) (by decide) rfl (by decide) (kL_17 h0 hi hL h hn kk)
    · exact zl_tswIn (pc := 33) (v := 18) (tgt := 770) dL_law_33 e (inRd rfl) (by decide) (by decide) rfl (by decide) (kL_18 h0 hi hL h hn kk)
    · exact zl_tswIn (pc := 33) (v := 19) (tgt := 793) dL_law_33 e (inRd rfl) (by decide) (by decide) rfl (by decide) (kL_19 h0 hi hL h hn kk)
    · exact zl_tswIn (pc := 33) (v := 20) (tgt := 836) dL_law_33 e (inRd rfl) (by decide) (by decide) rfl (by decide) (kL_20 h0 hi hL h hn kk)
    · exact zl_tswIn (pc := 33) (v := 21) (tgt := 859) dL_law_33 e (inRd rfl) (by decide) (by decide) rfl (by decide) (kL_21 h0 hi hL h hn kk)
    · exact zl_tswIn (pc := 33) (v := 22) (tgt := 872) dL_law_33 e (inRd rfl) (by decide) (by decide) rfl (by decide) (kL_22 h0 hi hL h hn kk)
    · exact zl_tswIn (pc := 33) (v := 23) (tgt := 905) dL_law_33 e (inRd rfl) (by decide) (by decide) rfl (by decide) (kL_23 h0 hi hL h hn kk)
    · exact zl_tswIn (pc := 33) (v := 24) (tgt := 948) dL_law_33 e (inRd rfl) (by decide) (by decide) rfl (by decide) (kL_24 h0 hi hL h hn kk)
    · exact zl_tswIn (pc := 33) (v := 25) (tgt := 961) dL_law_33 e (inRd rfl) (by decide) (by decide) rfl (by decide) (kL_25 h0 hi hL h hn kk)
    · exact zl_tswIn (pc := 33) (v := 26) (tgt := 1010) dL_law_33 e (inRd rfl) (by decide) (by decide) rfl (by decide) (kL_26 h0 hi hL h hn kk)
    · exact zl_tswIn (pc := 33) (v := 27) (tgt := 1043) dL_law_33 e (inRd rfl) (by decide) (by decide) rfl (by decide) (kL_27 h0 hi hL h hn kk)
    · exact zl_tswIn (pc := 33) (v := 28) (tgt := 1076) dL_law_33 e (inRd rfl) (by decide) (by decide) rfl (by decide) (kL_28 h0 hi hL h hn kk)
    · exact zl_tswIn (pc := 33) (v := 29) (tgt := 1089) dL_law_33 e (inRd rfl) (by decide) (by decide) rfl (by decide) (kL_29 h0 hi hL h hn kk)
    · exact zl_tswIn (pc := 33) (v := 30) (tgt := 1122) dL_law_33 e (inRd rfl) (by decide) (by decide) rfl (by decide) (kL_30 h0 hi hL h hn kk)
    · exact zl_tswIn (pc := 33) (v := 31) (tgt := 1135) dL_law_33 e (inRd rfl) (by decide) (by decide) rfl (by decide) (kL_31 h0 hi hL h hn kk)
    · exact zl_tswIn (pc := 33) (v := 32) (tgt := 1178) dL_law_33 e (inRd rfl) (by decide) (by decide) rfl (by decide) (kL_32 h0 hi hL h hn kk)
    · exact zl_tswIn (pc := 33) (v := 33) (tgt := 1221) dL_law_33 e (inRd rfl) (by decide) (by decide) rfl (by decide) (kL_33 h0 hi hL h hn kk)
    · exact zl_tswIn (pc := 33) (v := 34) (tgt := 1264) dL_law_33 e (inRd rfl) (by decide) (by decide) rfl (by decide) (kL_34 h0 hi hL h hn kk)
    · exact zl_tswIn (pc := 33) (v := 35) (tgt := 1317) dL_law_33 e (inRd rfl) (by decide) (by decide) rfl (by decide) (kL_35 h0 hi hL h hn kk)
    · exact zl_tswIn (pc := 33) (v := 36) (tgt := 1360) dL_law_33 e (inRd rfl) (by decide) (by decide) rfl (by decide) (kL_36 h0 hi hL h hn kk)
    · exact zl_tswIn (pc := 33) (v := 37) (tgt := 1393) dL_law_33 e (inRd rfl) (by decide) (by decide) rfl (by decide) (kL_37 h0 hi hL h hn kk)
    · exact zl_tswIn (pc := 33) (v := 38) (tgt := 1436) dL_law_33 e (inRd rfl) (by decide) (by decide) rfl (by decide) (kL_38 h0 hi hL h hn kk)
    · exact zl_tswIn (pc := 33) (v := 39) (tgt := 1459) dL_law_33 e (inRd rfl) (by decide) (by decide) rfl (by decide) (kL_39 h0 hi hL h hn kk)
    · exact zl_tswIn (pc := 33) (v := 40) (tgt := 1482) dL_law_33 e (inRd rfl) (by decide) (by decide) rfl (by decide) (kL_40 h0 hi hL h hn kk)
    · exact zl_tswIn (pc := 33) (v := 41) (tgt := 1495) dL_law_33 e (inRd rfl) (by decide) (by decide) rfl (by decide) (kL_41 h0 hi hL h hn kk)
theorem law_loop (hL : L ≤ 384) : ∀ (g n : Nat) (m : zM), n + g = 65 → zInv n m → zLj K b L xs 18 [(0, .ref b), (1, rr K 0), (2, rr K 98), (3, .int (iz (6 * (n : Int))))] [] m := by
  intro g
  induction g with
  | zero =>
    intro n m hg h
    refine zl_iload_n (pc := 18) dL_law_18 rfl 3 rfl ?_
    refine zl_aload_n (pc := 19) dL_law_19 rfl 0 rfl ?_
    refine zl_slen (pc := 20) dL_law_20 ?_
    refine zl_bipush (pc := 21) dL_law_21 (by decide) ?_
    refine zl_isub (pc := 23) dL_law_23 ?_
    refine zl_icmp_gt (pc := 24) (tgt := 1514) dL_law_24 (by decide) ⟨by omega, by omega⟩ ⟨by omega, by omega⟩ (fun _ => ?_) (fun q => absurd (by omega) q)
    refine zl_iconst (pc := 1514) dL_law_1514 ?_
    exact zl_ret (pc := 1515) dL_law_1515
  | succ g ih =>
    intro n m hg h
    refine zl_iload_n (pc := 18) dL_law_18 rfl 3 rfl ?_
    refine zl_aload_n (pc := 19) dL_law_19 rfl 0 rfl ?_
    refine zl_slen (pc := 20) dL_law_20 ?_
    refine zl_bipush (pc := 21) dL_law_21 (by decide) ?_
    refine zl_isub (pc := 23) dL_law_23 ?_
    refine zl_icmp_gt (pc := 24) (tgt := 1514) dL_law_24 (by decide) ⟨by omega, by omega⟩ ⟨by omega, by omega⟩ (fun _ => ?_) (fun q => ?_)
    · refine zl_iconst (pc := 1514) dL_law_1514 ?_
      exact zl_ret (pc := 1515) dL_law_1515
    · have nxt : ∀ m2, zInv ((n : Int) + 1) m2 → zLj K b L xs 1508 [(0, .ref b), (1, rr K 0), (2, rr K 98), (3, .int (iz (6 * (n : Int))))] [] m2 := by
        intro m2 h2
        refine zl_iinc (pc := 1508) (loc' := [(3, .int (iz (6 * (n : Int) + 6))), (0, .ref b), (1, rr K 0), (2, rr K 98)]) dL_law_1508 3 rfl (by decide) rfl ?_
        refine zl_goto (pc := 1511) (tgt := 18) dL_law_1511 (by decide) ?_
        have := ih (n + 1) m2 (by omega) h2
        rw [show 6 * (((n + 1 : Nat) : Int)) = 6 * (n : Int) + 6 by omega] at this
        exact zl_sub [1, 2, 3, 0] rfl this
      refine zl_aload_n (pc := 27) dL_law_27 rfl 0 rfl ?_
      refine zl_iload_n (pc := 28) dL_law_28 rfl 3 rfl ?_
      refine zl_sld (pc := 29) dL_law_29 (by omega) (by omega) ⟨by omega, by omega⟩ ?_
      refine zl_bipush (pc := 30) dL_law_30 (by decide) ?_
      refine zl_iand (pc := 32) dL_law_32 ?_
      exact zl_sw (inR_zand _ _) (by omega) (by omega) hL h ⟨by omega, by omega⟩ nxt (nxt m ⟨h.1, ⟨h.2.1.1, by have := h.2.1.2; omega⟩, h.2.2⟩)
end LP
