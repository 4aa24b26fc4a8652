set_option maxRecDepth 100000 in
set_option maxHeartbeats 4000000 in
theorem vc_X10_in_0 {K : zCx} {d : Nat} (x0 : Int) (x1 : Int) (x2 : Int) (m0 : zM) {Q : Int → zM → Prop} (hx0 : inR x0) (hx1 : inR x1) (hx2 : inR x2) (h : zok m0 → (x0 < x1 → Q 0 m0) ∧ (¬ (x0 < x1) → (x2 < x0 → Q 0 m0) ∧ (¬ (x2 < x0) → Q 1 m0))) : zV K mX10_in (d + 1) 0 [(0, .int (iz x0)), (1, .int (iz x1)), (2, .int (iz x2))] [] m0 Q := by
  refine zV_ok (fun hm0 => ?_)
  have h := h hm0
  refine zV_iload_n (pc := 0) dX10_in_0 rfl 0 rfl ?_
  refine zV_iload_n (pc := 1) dX10_in_1 rfl 1 rfl ?_
  refine zV_icmp_lt (pc := 2) (tgt := 14) dX10_in_2 (by decide) hx0 hx1 (fun c1 => ?_) (fun c1 => ?_)
  · skip
    have h := h.1 c1
    refine zV_iconst (pc := 14) dX10_in_14 ?_
    exact zV_zret (pc := 15) rfl dX10_in_15 (Or.inl rfl) h
  · skip
    have h := h.2 c1
    refine zV_iload_n (pc := 5) dX10_in_5 rfl 0 rfl ?_
    refine zV_iload_n (pc := 6) dX10_in_6 rfl 2 rfl ?_
    refine zV_icmp_gt (pc := 7) (tgt := 14) dX10_in_7 (by decide) hx0 hx2 (fun c2 => ?_) (fun c2 => ?_)
    · skip
      have h := h.1 c2
      refine zV_iconst (pc := 14) dX10_in_14 ?_
      exact zV_zret (pc := 15) rfl dX10_in_15 (Or.inl rfl) h
    · skip
      have h := h.2 c2
      refine zV_iconst (pc := 10) dX10_in_10 ?_
      refine zV_goto (pc := 11) (tgt := 15) dX10_in_11 (by decide) ?_
      exact zV_zret (pc := 15) rfl dX10_in_15 (Or.inr rfl) h

theorem c_X10_in {K : zCx} {d : Nat} {x0 : Int} {x1 : Int} {x2 : Int} {m0 : zM} (hx0 : inR x0) (hx1 : inR x1) (hx2 : inR x2) : zCt K (d + 1) mX10_in [.int (iz x0), .int (iz x1), .int (iz x2)] m0 (fun r m1 => r = b2i (decide (x1 ≤ x0 ∧ x0 ≤ x2)) ∧ m1 = m0) := by
  refine zCt.of (by decide) (Nat.le_of_ble_eq_true rfl) (vc_X10_in_0 (d := d) x0 x1 x2 m0 hx0 hx1 hx2 (fun hm => ?_))
  (repeat' (first | exact zpred (hok _ _) (by assumption) | apply And.intro | intro _)) <;> first | rfl | exact (b2i_p (by omega)).symm | exact (b2i_n (by omega)).symm | exact b2i_iff (by constructor <;> intro _ <;> omega) | (subst_vars; omega) | omega | assumption | ((repeat' split) <;> first | rfl | omega)

set_option maxRecDepth 100000 in
set_option maxHeartbeats 4000000 in
theorem vc_X10_isState_0 {K : zCx} {d : Nat} (x0 : Int) (m0 : zM) {Q : Int → zM → Prop} (hx0 : inR x0) (h : zok m0 → Q (b2i (decide (0 ≤ x0 ∧ x0 ≤ 9260))) m0) : zV K mX10_isState (d + 2) 0 [(0, .int (iz x0))] [] m0 Q := by
  refine zV_ok (fun hm0 => ?_)
  have h := h hm0
  refine zV_iload_n (pc := 0) dX10_isState_0 rfl 0 rfl ?_
  refine zV_iconst (pc := 1) dX10_isState_1 ?_
  refine zV_sipush (pc := 2) dX10_isState_2 (by decide) ?_
  refine zV_callSf (pc := 5) (mc := mX10_in) (As := [.int (iz x0), .int (iz 0), .int (iz 9260)]) (rest := []) dX10_isState_5 zcX10_114 ztX10_in rfl rfl (Nat.le_of_ble_eq_true rfl) (c_X10_in hx0 (inRd rfl) (inRd rfl)) (fun hr1 => ?_)
  exact zV_zret (pc := 8) rfl dX10_isState_8 (b2i_01 _) h

theorem c_X10_isState {K : zCx} {d : Nat} {x0 : Int} {m0 : zM} (hx0 : inR x0) : zCt K (d + 2) mX10_isState [.int (iz x0)] m0 (fun r m1 => r = b2i (decide (0 ≤ x0 ∧ x0 ≤ 9260)) ∧ m1 = m0) := by
  refine zCt.of (by decide) (Nat.le_of_ble_eq_true rfl) (vc_X10_isState_0 (d := d) x0 m0 hx0 (fun hm => ?_))
  (repeat' (first | exact zpred (hok _ _) (by assumption) | apply And.intro | intro _)) <;> first | rfl | exact (b2i_p (by omega)).symm | exact (b2i_n (by omega)).symm | exact b2i_iff (by constructor <;> intro _ <;> omega) | (subst_vars; omega) | omega | assumption | ((repeat' split) <;> first | rfl | omega)

set_option maxRecDepth 100000 in
set_option maxHeartbeats 4000000 in
theorem vc_X10_isCorner_0 {K : zCx} {d : Nat} (x0 : Int) (m0 : zM) {Q : Int → zM → Prop} (hx0 : inR x0) (h : zok m0 → Q (b2i (decide (0 ≤ x0 ∧ x0 ≤ 8))) m0) : zV K mX10_isCorner (d + 2) 0 [(0, .int (iz x0))] [] m0 Q := by
  refine zV_ok (fun hm0 => ?_)
  have h := h hm0
  refine zV_iload_n (pc := 0) dX10_isCorner_0 rfl 0 rfl ?_
  refine zV_iconst (pc := 1) dX10_isCorner_1 ?_
  refine zV_bipush (pc := 2) dX10_isCorner_2 (by decide) ?_
  refine zV_callSf (pc := 4) (mc := mX10_in) (As := [.int (iz x0), .int (iz 0), .int (iz 8)]) (rest := []) dX10_isCorner_4 zcX10_114 ztX10_in rfl rfl (Nat.le_of_ble_eq_true rfl) (c_X10_in hx0 (inRd rfl) (inRd rfl)) (fun hr1 => ?_)
  exact zV_zret (pc := 7) rfl dX10_isCorner_7 (b2i_01 _) h

theorem c_X10_isCorner {K : zCx} {d : Nat} {x0 : Int} {m0 : zM} (hx0 : inR x0) : zCt K (d + 2) mX10_isCorner [.int (iz x0)] m0 (fun r m1 => r = b2i (decide (0 ≤ x0 ∧ x0 ≤ 8)) ∧ m1 = m0) := by
  refine zCt.of (by decide) (Nat.le_of_ble_eq_true rfl) (vc_X10_isCorner_0 (d := d) x0 m0 hx0 (fun hm => ?_))
  (repeat' (first | exact zpred (hok _ _) (by assumption) | apply And.intro | intro _)) <;> first | rfl | exact (b2i_p (by omega)).symm | exact (b2i_n (by omega)).symm | exact b2i_iff (by constructor <;> intro _ <;> omega) | (subst_vars; omega) | omega | assumption | ((repeat' split) <;> first | rfl | omega)

set_option maxRecDepth 100000 in
set_option maxHeartbeats 4000000 in
theorem vc_X10_isNode_0 {K : zCx} {d : Nat} (x0 : Int) (m0 : zM) {Q : Int → zM → Prop} (hx0 : inR x0) (h : zok m0 → Q (b2i (decide (0 ≤ x0 ∧ x0 ≤ 4))) m0) : zV K mX10_isNode (d + 2) 0 [(0, .int (iz x0))] [] m0 Q := by
  refine zV_ok (fun hm0 => ?_)
  have h := h hm0
  refine zV_iload_n (pc := 0) dX10_isNode_0 rfl 0 rfl ?_
  refine zV_iconst (pc := 1) dX10_isNode_1 ?_
  refine zV_iconst (pc := 2) dX10_isNode_2 ?_
  refine zV_callSf (pc := 3) (mc := mX10_in) (As := [.int (iz x0), .int (iz 0), .int (iz 4)]) (rest := []) dX10_isNode_3 zcX10_114 ztX10_in rfl rfl (Nat.le_of_ble_eq_true rfl) (c_X10_in hx0 (inRd rfl) (inRd rfl)) (fun hr1 => ?_)
  exact zV_zret (pc := 6) rfl dX10_isNode_6 (b2i_01 _) h

theorem c_X10_isNode {K : zCx} {d : Nat} {x0 : Int} {m0 : zM} (hx0 : inR x0) : zCt K (d + 2) mX10_isNode [.int (iz x0)] m0 (fun r m1 => r = b2i (decide (0 ≤ x0 ∧ x0 ≤ 4)) ∧ m1 = m0) := by
  refine zCt.of (by decide) (Nat.le_of_ble_eq_true rfl) (vc_X10_isNode_0 (d := d) x0 m0 hx0 (fun hm => ?_))
  (repeat' (first | exact zpred (hok _ _) (by assumption) | apply And.intro | intro _)) <;> first | rfl | exact (b2i_p (by omega)).symm | exact (b2i_n (by omega)).symm | exact b2i_iff (by constructor <;> intro _ <;> omega) | (subst_vars; omega) | omega | assumption | ((repeat' split) <;> first | rfl | omega)

set_option maxRecDepth 100000 in
set_option maxHeartbeats 4000000 in
theorem vc_X10_isShelf_0 {K : zCx} {d : Nat} (x0 : Int) (m0 : zM) {Q : Int → zM → Prop} (hx0 : inR x0) (h : zok m0 → Q (b2i (decide (0 ≤ x0 ∧ x0 ≤ 3))) m0) : zV K mX10_isShelf (d + 2) 0 [(0, .int (iz x0))] [] m0 Q := by
  refine zV_ok (fun hm0 => ?_)
  have h := h hm0
  refine zV_iload_n (pc := 0) dX10_isShelf_0 rfl 0 rfl ?_
  refine zV_iconst (pc := 1) dX10_isShelf_1 ?_
  refine zV_iconst (pc := 2) dX10_isShelf_2 ?_
  refine zV_callSf (pc := 3) (mc := mX10_in) (As := [.int (iz x0), .int (iz 0), .int (iz 3)]) (rest := []) dX10_isShelf_3 zcX10_114 ztX10_in rfl rfl (Nat.le_of_ble_eq_true rfl) (c_X10_in hx0 (inRd rfl) (inRd rfl)) (fun hr1 => ?_)
  exact zV_zret (pc := 6) rfl dX10_isShelf_6 (b2i_01 _) h

theorem c_X10_isShelf {K : zCx} {d : Nat} {x0 : Int} {m0 : zM} (hx0 : inR x0) : zCt K (d + 2) mX10_isShelf [.int (iz x0)] m0 (fun r m1 => r = b2i (decide (0 ≤ x0 ∧ x0 ≤ 3)) ∧ m1 = m0) := by
  refine zCt.of (by decide) (Nat.le_of_ble_eq_true rfl) (vc_X10_isShelf_0 (d := d) x0 m0 hx0 (fun hm => ?_))
  (repeat' (first | exact zpred (hok _ _) (by assumption) | apply And.intro | intro _)) <;> first | rfl | exact (b2i_p (by omega)).symm | exact (b2i_n (by omega)).symm | exact b2i_iff (by constructor <;> intro _ <;> omega) | (subst_vars; omega) | omega | assumption | ((repeat' split) <;> first | rfl | omega)

set_option maxRecDepth 100000 in
set_option maxHeartbeats 4000000 in
theorem vc_X10_isLawful_0 {K : zCx} {d : Nat} (x0 : Int) (m0 : zM) {Q : Int → zM → Prop} (hx0 : inR x0) (h : zok m0 → Q (b2i (decide (1 ≤ x0 ∧ x0 ≤ 3))) m0) : zV K mX10_isLawful (d + 2) 0 [(0, .int (iz x0))] [] m0 Q := by
  refine zV_ok (fun hm0 => ?_)
  have h := h hm0
  refine zV_iload_n (pc := 0) dX10_isLawful_0 rfl 0 rfl ?_
  refine zV_iconst (pc := 1) dX10_isLawful_1 ?_
  refine zV_iconst (pc := 2) dX10_isLawful_2 ?_
  refine zV_callSf (pc := 3) (mc := mX10_in) (As := [.int (iz x0), .int (iz 1), .int (iz 3)]) (rest := []) dX10_isLawful_3 zcX10_114 ztX10_in rfl rfl (Nat.le_of_ble_eq_true rfl) (c_X10_in hx0 (inRd rfl) (inRd rfl)) (fun hr1 => ?_)
  exact zV_zret (pc := 6) rfl dX10_isLawful_6 (b2i_01 _) h

theorem c_X10_isLawful {K : zCx} {d : Nat} {x0 : Int} {m0 : zM} (hx0 : inR x0) : zCt K (d + 2) mX10_isLawful [.int (iz x0)] m0 (fun r m1 => r = b2i (decide (1 ≤ x0 ∧ x0 ≤ 3)) ∧ m1 = m0) := by
  refine zCt.of (by decide) (Nat.le_of_ble_eq_true rfl) (vc_X10_isLawful_0 (d := d) x0 m0 hx0 (fun hm => ?_))
  (repeat' (first | exact zpred (hok _ _) (by assumption) | apply And.intro | intro _)) <;> first | rfl | exact (b2i_p (by omega)).symm | exact (b2i_n (by omega)).symm | exact b2i_iff (by constructor <;> intro _ <;> omega) | (subst_vars; omega) | omega | assumption | ((repeat' split) <;> first | rfl | omega)

set_option maxRecDepth 100000 in
set_option maxHeartbeats 4000000 in
theorem vc_X10_isGated_0 {K : zCx} {d : Nat} (x0 : Int) (m0 : zM) {Q : Int → zM → Prop} (hx0 : inR x0) (h : zok m0 → Q (b2i (decide (2 ≤ x0 ∧ x0 ≤ 3))) m0) : zV K mX10_isGated (d + 2) 0 [(0, .int (iz x0))] [] m0 Q := by
  refine zV_ok (fun hm0 => ?_)
  have h := h hm0
  refine zV_iload_n (pc := 0) dX10_isGated_0 rfl 0 rfl ?_
  refine zV_iconst (pc := 1) dX10_isGated_1 ?_
  refine zV_iconst (pc := 2) dX10_isGated_2 ?_
  refine zV_callSf (pc := 3) (mc := mX10_in) (As := [.int (iz x0), .int (iz 2), .int (iz 3)]) (rest := []) dX10_isGated_3 zcX10_114 ztX10_in rfl rfl (Nat.le_of_ble_eq_true rfl) (c_X10_in hx0 (inRd rfl) (inRd rfl)) (fun hr1 => ?_)
  exact zV_zret (pc := 6) rfl dX10_isGated_6 (b2i_01 _) h

theorem c_X10_isGated {K : zCx} {d : Nat} {x0 : Int} {m0 : zM} (hx0 : inR x0) : zCt K (d + 2) mX10_isGated [.int (iz x0)] m0 (fun r m1 => r = b2i (decide (2 ≤ x0 ∧ x0 ≤ 3)) ∧ m1 = m0) := by
  refine zCt.of (by decide) (Nat.le_of_ble_eq_true rfl) (vc_X10_isGated_0 (d := d) x0 m0 hx0 (fun hm => ?_))
  (repeat' (first | exact zpred (hok _ _) (by assumption) | apply And.intro | intro _)) <;> first | rfl | exact (b2i_p (by omega)).symm | exact (b2i_n (by omega)).symm | exact b2i_iff (by constructor <;> intro _ <;> omega) | (subst_vars; omega) | omega | assumption | ((repeat' split) <;> first | rfl | omega)

set_option maxRecDepth 100000 in
set_option maxHeartbeats 4000000 in
theorem vc_X10_isPart_0 {K : zCx} {d : Nat} (x1 : Int) (m0 : zM) {Q : Int → zM → Prop} (hx1 : inR x1) (h : zok m0 → inR ((m0.1 98 4) - 1) ∧ (Q (b2i (decide (0 ≤ x1 ∧ x1 ≤ ((m0.1 98 4) - 1)))) m0)) : zV K mX10_isPart (d + 2) 0 [(0, rr K 98), (1, .int (iz x1))] [] m0 Q := by
  refine zV_ok (fun hm0 => ?_)
  have h := h hm0
  refine zV_iload_n (pc := 0) dX10_isPart_0 rfl 1 rfl ?_
  refine zV_iconst (pc := 1) dX10_isPart_1 ?_
  refine zV_aloadr_n (pc := 2) dX10_isPart_2 rfl 0 rfl ?_
  refine zV_getI (pc := 3) dX10_isPart_3 zfX10_111 rfl rfl rfl ?_
  refine zV_iconst (pc := 6) dX10_isPart_6 ?_
  refine zV_isub (pc := 7) dX10_isPart_7 ?_
  obtain ⟨o1, h⟩ := h
  refine zV_callSf (pc := 8) (mc := mX10_in) (As := [.int (iz x1), .int (iz 0), .int (iz ((m0.1 98 4) - 1))]) (rest := []) dX10_isPart_8 zcX10_114 ztX10_in rfl rfl (Nat.le_of_ble_eq_true rfl) (c_X10_in hx1 (inRd rfl) o1) (fun hr2 => ?_)
  exact zV_zret (pc := 11) rfl dX10_isPart_11 (b2i_01 _) h

theorem c_X10_isPart {K : zCx} {d : Nat} {x1 : Int} {m0 : zM} (hx1 : inR x1) (hok : zok m0) (hp2 : 0 ≤ m0.1 98 4) : zCt K (d + 2) mX10_isPart [rr K 98, .int (iz x1)] m0 (fun r m1 => r = b2i (decide (0 ≤ x1 ∧ x1 < m0.1 98 4)) ∧ m1 = m0) := by
  refine zCt.of (by decide) (Nat.le_of_ble_eq_true rfl) (vc_X10_isPart_0 (d := d) x1 m0 hx1 (fun hm => ?_))
  (repeat' (first | exact zpred (hok _ _) (by assumption) | apply And.intro | intro _)) <;> first | rfl | exact (b2i_p (by omega)).symm | exact (b2i_n (by omega)).symm | exact b2i_iff (by constructor <;> intro _ <;> omega) | (subst_vars; omega) | omega | assumption | ((repeat' split) <;> first | rfl | omega)

set_option maxRecDepth 100000 in
set_option maxHeartbeats 4000000 in
theorem vc_X10_its_0 {K : zCx} {d : Nat} (x1 : Int) (x2 : Int) (m0 : zM) {Q : Int → zM → Prop} (hx1 : inR x1) (hx2 : inR x2) (h : zok m0 → 0 ≤ ((10 * x1) + x2) ∧ ((10 * x1) + x2) < 100 ∧ (Q (m0.1 100 ((10 * x1) + x2)) m0)) : zV K mX10_its (d + 1) 0 [(0, rr K 98), (1, .int (iz x1)), (2, .int (iz x2))] [] m0 Q := by
  refine zV_ok (fun hm0 => ?_)
  have h := h hm0
  refine zV_aloadr_n (pc := 0) dX10_its_0 rfl 0 rfl ?_
  refine zV_getR (pc := 1) (b := 100) dX10_its_1 zfX10_17 rfl rfl rfl ?_
  refine zV_bipush (pc := 4) dX10_its_4 (by decide) ?_
  refine zV_iload_n (pc := 6) dX10_its_6 rfl 1 rfl ?_
  refine zV_imul (pc := 7) dX10_its_7 ?_
  refine zV_iload_n (pc := 8) dX10_its_8 rfl 2 rfl ?_
  refine zV_iadd (pc := 9) dX10_its_9 ?_
  obtain ⟨o1, o2, h⟩ := h
  refine zV_iald (pc := 10) dX10_its_10 rfl o1 o2 (inR_ix o1 o2 rfl) ?_
  exact zV_iret (pc := 11) rfl dX10_its_11 (hm0 _ _) h

theorem c_X10_its {K : zCx} {d : Nat} {x1 : Int} {x2 : Int} {m0 : zM} (hx2 : inR x2) (hx1 : inR x1) (hok : zok m0) (hp3 : 0 ≤ 10 * x1 + x2) (hp4 : 10 * x1 + x2 < 100) : zCt K (d + 1) mX10_its [rr K 98, .int (iz x1), .int (iz x2)] m0 (fun r m1 => r = (m0.1 100 (10 * x1 + x2)) ∧ m1 = m0) := by
  refine zCt.of (by decide) (Nat.le_of_ble_eq_true rfl) (vc_X10_its_0 (d := d) x1 x2 m0 hx1 hx2 (fun hm => ?_))
  (repeat' (first | exact zpred (hok _ _) (by assumption) | apply And.intro | intro _)) <;> first | rfl | exact (b2i_p (by omega)).symm | exact (b2i_n (by omega)).symm | exact b2i_iff (by constructor <;> intro _ <;> omega) | (subst_vars; omega) | omega | assumption | ((repeat' split) <;> first | rfl | omega)

set_option maxRecDepth 100000 in
set_option maxHeartbeats 4000000 in
theorem vc_X10_isLaw_0 {K : zCx} {d : Nat} (x1 : Int) (m0 : zM) {Q : Int → zM → Prop} (hx1 : inR x1) (h : zok m0 → (x1 < 0 → Q 0 m0) ∧ (¬ (x1 < 0) → ((m0.1 98 2) ≤ (Int.tdiv x1 100) → Q 0 m0) ∧ (¬ ((m0.1 98 2) ≤ (Int.tdiv x1 100)) → (5 < (Int.tmod (Int.tdiv x1 10) 10) → Q 0 m0) ∧ (¬ (5 < (Int.tmod (Int.tdiv x1 10) 10)) → Q 1 m0)))) : zV K mX10_isLaw (d + 1) 0 [(0, rr K 98), (1, .int (iz x1))] [] m0 Q := by
  refine zV_ok (fun hm0 => ?_)
  have h := h hm0
  refine zV_iload_n (pc := 0) dX10_isLaw_0 rfl 1 rfl ?_
  refine zV_if_lt (pc := 1) (tgt := 30) dX10_isLaw_1 (by decide) hx1 (fun c1 => ?_) (fun c1 => ?_)
  · skip
    have h := h.1 c1
    refine zV_iconst (pc := 30) dX10_isLaw_30 ?_
    exact zV_zret (pc := 31) rfl dX10_isLaw_31 (Or.inl rfl) h
  · skip
    have h := h.2 c1
    refine zV_iload_n (pc := 4) dX10_isLaw_4 rfl 1 rfl ?_
    refine zV_bipush (pc := 5) dX10_isLaw_5 (by decide) ?_
    refine zV_idiv (pc := 7) dX10_isLaw_7 hx1 (inRd rfl) (by decide) (fun q => absurd q.2 (by decide)) ?_
    refine zV_aloadr_n (pc := 8) dX10_isLaw_8 rfl 0 rfl ?_
    refine zV_getI (pc := 9) dX10_isLaw_9 zfX10_128 rfl rfl rfl ?_
    refine zV_icmp_ge (pc := 12) (tgt := 30) dX10_isLaw_12 (by decide) (inR_tdiv hx1 (by decide)) (hm0 _ _) (fun c2 => ?_) (fun c2 => ?_)
    · skip
      have h := h.1 c2
      refine zV_iconst (pc := 30) dX10_isLaw_30 ?_
      exact zV_zret (pc := 31) rfl dX10_isLaw_31 (Or.inl rfl) h
    · skip
      have h := h.2 c2
      refine zV_iload_n (pc := 15) dX10_isLaw_15 rfl 1 rfl ?_
      refine zV_bipush (pc := 16) dX10_isLaw_16 (by decide) ?_
      refine zV_idiv (pc := 18) dX10_isLaw_18 hx1 (inRd rfl) (by decide) (fun q => absurd q.2 (by decide)) ?_
      refine zV_bipush (pc := 19) dX10_isLaw_19 (by decide) ?_
      refine zV_irem (pc := 21) dX10_isLaw_21 (inR_tdiv hx1 (by decide)) (inRd rfl) (by decide) (fun q => absurd q.2 (by decide)) ?_
      refine zV_iconst (pc := 22) dX10_isLaw_22 ?_
      refine zV_icmp_gt (pc := 23) (tgt := 30) dX10_isLaw_23 (by decide) (inR_tmod (inR_tdiv hx1 (by decide)) (by decide)) (inRd rfl) (fun c3 => ?_) (fun c3 => ?_)
      · skip
        have h := h.1 c3
        refine zV_iconst (pc := 30) dX10_isLaw_30 ?_
        exact zV_zret (pc := 31) rfl dX10_isLaw_31 (Or.inl rfl) h
      · skip
        have h := h.2 c3
        refine zV_iconst (pc := 26) dX10_isLaw_26 ?_
        refine zV_goto (pc := 27) (tgt := 31) dX10_isLaw_27 (by decide) ?_
        exact zV_zret (pc := 31) rfl dX10_isLaw_31 (Or.inr rfl) h

theorem c_X10_isLaw {K : zCx} {d : Nat} {x1 : Int} {m0 : zM} (hx1 : inR x1) (hok : zok m0) : zCt K (d + 1) mX10_isLaw [rr K 98, .int (iz x1)] m0 (fun r m1 => r = b2i (decide (0 ≤ x1 ∧ Int.tdiv x1 100 < m0.1 98 2 ∧ Int.tmod (Int.tdiv x1 10) 10 ≤ 5)) ∧ m1 = m0) := by
  refine zCt.of (by decide) (Nat.le_of_ble_eq_true rfl) (vc_X10_isLaw_0 (d := d) x1 m0 hx1 (fun hm => ?_))
  (repeat' (first | exact zpred (hok _ _) (by assumption) | apply And.intro | intro _)) <;> first | rfl | exact (b2i_p (by omega)).symm | exact (b2i_n (by omega)).symm | exact b2i_iff (by constructor <;> intro _ <;> omega) | (subst_vars; omega) | omega | assumption | ((repeat' split) <;> first | rfl | omega)

set_option maxRecDepth 100000 in
set_option maxHeartbeats 4000000 in
theorem vc_X10_isLetter_0 {K : zCx} {d : Nat} (x0 : Int) (m0 : zM) {Q : Int → zM → Prop} (hx0 : inR x0) (h : zok m0 → (x0 < 97 → Q 0 m0) ∧ (¬ (x0 < 97) → (122 < x0 → Q 0 m0) ∧ (¬ (122 < x0) → Q 1 m0))) : zV K mX10_isLetter (d + 1) 0 [(0, .int (iz x0))] [] m0 Q := by
  refine zV_ok (fun hm0 => ?_)
  have h := h hm0
  refine zV_iload_n (pc := 0) dX10_isLetter_0 rfl 0 rfl ?_
  refine zV_bipush (pc := 1) dX10_isLetter_1 (by decide) ?_
  refine zV_icmp_lt (pc := 3) (tgt := 16) dX10_isLetter_3 (by decide) hx0 (inRd rfl) (fun c1 => ?_) (fun c1 => ?_)
  · skip
    have h := h.1 c1
    refine zV_iconst (pc := 16) dX10_isLetter_16 ?_
    exact zV_zret (pc := 17) rfl dX10_isLetter_17 (Or.inl rfl) h
  · skip
    have h := h.2 c1
    refine zV_iload_n (pc := 6) dX10_isLetter_6 rfl 0 rfl ?_
    refine zV_bipush (pc := 7) dX10_isLetter_7 (by decide) ?_
    refine zV_icmp_gt (pc := 9) (tgt := 16) dX10_isLetter_9 (by decide) hx0 (inRd rfl) (fun c2 => ?_) (fun c2 => ?_)
    · skip
      have h := h.1 c2
      refine zV_iconst (pc := 16) dX10_isLetter_16 ?_
      exact zV_zret (pc := 17) rfl dX10_isLetter_17 (Or.inl rfl) h
    · skip
      have h := h.2 c2
      refine zV_iconst (pc := 12) dX10_isLetter_12 ?_
      refine zV_goto (pc := 13) (tgt := 17) dX10_isLetter_13 (by decide) ?_
      exact zV_zret (pc := 17) rfl dX10_isLetter_17 (Or.inr rfl) h

theorem c_X10_isLetter {K : zCx} {d : Nat} {x0 : Int} {m0 : zM} (hx0 : inR x0) : zCt K (d + 1) mX10_isLetter [.int (iz x0)] m0 (fun r m1 => r = b2i (decide (97 ≤ x0 ∧ x0 ≤ 122)) ∧ m1 = m0) := by
  refine zCt.of (by decide) (Nat.le_of_ble_eq_true rfl) (vc_X10_isLetter_0 (d := d) x0 m0 hx0 (fun hm => ?_))
  (repeat' (first | exact zpred (hok _ _) (by assumption) | apply And.intro | intro _)) <;> first | rfl | exact (b2i_p (by omega)).symm | exact (b2i_n (by omega)).symm | exact b2i_iff (by constructor <;> intro _ <;> omega) | (subst_vars; omega) | omega | assumption | ((repeat' split) <;> first | rfl | omega)

set_option maxRecDepth 100000 in
set_option maxHeartbeats 4000000 in
theorem vc_X10_isDigit_0 {K : zCx} {d : Nat} (x0 : Int) (m0 : zM) {Q : Int → zM → Prop} (hx0 : inR x0) (h : zok m0 → (x0 < 48 → Q 0 m0) ∧ (¬ (x0 < 48) → (57 < x0 → Q 0 m0) ∧ (¬ (57 < x0) → Q 1 m0))) : zV K mX10_isDigit (d + 1) 0 [(0, .int (iz x0))] [] m0 Q := by
  refine zV_ok (fun hm0 => ?_)
  have h := h hm0
  refine zV_iload_n (pc := 0) dX10_isDigit_0 rfl 0 rfl ?_
  refine zV_bipush (pc := 1) dX10_isDigit_1 (by decide) ?_
  refine zV_icmp_lt (pc := 3) (tgt := 16) dX10_isDigit_3 (by decide) hx0 (inRd rfl) (fun c1 => ?_) (fun c1 => ?_)
  · skip
    have h := h.1 c1
    refine zV_iconst (pc := 16) dX10_isDigit_16 ?_
    exact zV_zret (pc := 17) rfl dX10_isDigit_17 (Or.inl rfl) h
  · skip
    have h := h.2 c1
    refine zV_iload_n (pc := 6) dX10_isDigit_6 rfl 0 rfl ?_
    refine zV_bipush (pc := 7) dX10_isDigit_7 (by decide) ?_
    refine zV_icmp_gt (pc := 9) (tgt := 16) dX10_isDigit_9 (by decide) hx0 (inRd rfl) (fun c2 => ?_) (fun c2 => ?_)
    · skip
      have h := h.1 c2
      refine zV_iconst (pc := 16) dX10_isDigit_16 ?_
      exact zV_zret (pc := 17) rfl dX10_isDigit_17 (Or.inl rfl) h
    · skip
      have h := h.2 c2
      refine zV_iconst (pc := 12) dX10_isDigit_12 ?_
      refine zV_goto (pc := 13) (tgt := 17) dX10_isDigit_13 (by decide) ?_
      exact zV_zret (pc := 17) rfl dX10_isDigit_17 (Or.inr rfl) h

theorem c_X10_isDigit {K : zCx} {d : Nat} {x0 : Int} {m0 : zM} (hx0 : inR x0) : zCt K (d + 1) mX10_isDigit [.int (iz x0)] m0 (fun r m1 => r = b2i (decide (48 ≤ x0 ∧ x0 ≤ 57)) ∧ m1 = m0) := by
  refine zCt.of (by decide) (Nat.le_of_ble_eq_true rfl) (vc_X10_isDigit_0 (d := d) x0 m0 hx0 (fun hm => ?_))
  (repeat' (first | exact zpred (hok _ _) (by assumption) | apply And.intro | intro _)) <;> first | rfl | exact (b2i_p (by omega)).symm | exact (b2i_n (by omega)).symm | exact b2i_iff (by constructor <;> intro _ <;> omega) | (subst_vars; omega) | omega | assumption | ((repeat' split) <;> first | rfl | omega)

set_option maxRecDepth 100000 in
set_option maxHeartbeats 4000000 in
theorem vc_X10_isGood_0 {K : zCx} {d : Nat}  (m0 : zM) {Q : Int → zM → Prop}  (h : zok m0 → (0 ≤ (m0.1 98 28) → Q 0 m0) ∧ (¬ (0 ≤ (m0.1 98 28)) → Q 1 m0)) : zV K mX10_isGood (d + 1) 0 [(0, rr K 98)] [] m0 Q := by
  refine zV_ok (fun hm0 => ?_)
  have h := h hm0
  refine zV_aloadr_n (pc := 0) dX10_isGood_0 rfl 0 rfl ?_
  refine zV_getI (pc := 1) dX10_isGood_1 zfX10_223 rfl rfl rfl ?_
  refine zV_if_ge (pc := 4) (tgt := 11) dX10_isGood_4 (by decide) (hm0 _ _) (fun c1 => ?_) (fun c1 => ?_)
  · skip
    have h := h.1 c1
    refine zV_iconst (pc := 11) dX10_isGood_11 ?_
    exact zV_zret (pc := 12) rfl dX10_isGood_12 (Or.inl rfl) h
  · skip
    have h := h.2 c1
    refine zV_iconst (pc := 7) dX10_isGood_7 ?_
    refine zV_goto (pc := 8) (tgt := 12) dX10_isGood_8 (by decide) ?_
    exact zV_zret (pc := 12) rfl dX10_isGood_12 (Or.inr rfl) h

theorem c_X10_isGood {K : zCx} {d : Nat}  {m0 : zM} (hok : zok m0) : zCt K (d + 1) mX10_isGood [rr K 98] m0 (fun r m1 => r = b2i (decide (m0.1 98 28 < 0)) ∧ m1 = m0) := by
  refine zCt.of (by decide) (Nat.le_of_ble_eq_true rfl) (vc_X10_isGood_0 (d := d)  m0  (fun hm => ?_))
  (repeat' (first | exact zpred (hok _ _) (by assumption) | apply And.intro | intro _)) <;> first | rfl | exact (b2i_p (by omega)).symm | exact (b2i_n (by omega)).symm | exact b2i_iff (by constructor <;> intro _ <;> omega) | (subst_vars; omega) | omega | assumption | ((repeat' split) <;> first | rfl | omega)

set_option maxRecDepth 100000 in
set_option maxHeartbeats 4000000 in
theorem vc_X10_isWord_0 {K : zCx} {d : Nat} (l1 : Int64) (m0 : zM) {Q : Int → zM → Prop}  (h : zok m0 → ((m0.1 98 24) = 1 → (((lg_cmp (m0.2.1 98 27) l1).toInt) = 0 → Q 1 m0) ∧ (¬ (((lg_cmp (m0.2.1 98 27) l1).toInt) = 0) → Q 0 m0)) ∧ (¬ ((m0.1 98 24) = 1) → Q 0 m0)) : zV K mX10_isWord (d + 1) 0 [(0, rr K 98), (1, .long l1)] [] m0 Q := by
  refine zV_ok (fun hm0 => ?_)
  have h := h hm0
  refine zV_aloadr_n (pc := 0) dX10_isWord_0 rfl 0 rfl ?_
  refine zV_getI (pc := 1) dX10_isWord_1 zfX10_206 rfl rfl rfl ?_
  refine zV_iconst (pc := 4) dX10_isWord_4 ?_
  refine zV_icmp_ne (pc := 5) (tgt := 21) dX10_isWord_5 (by decide) (hm0 _ _) (inRd rfl) (fun c1 => ?_) (fun c1 => ?_)
  · skip
    have h := h.2 c1
    refine zV_iconst (pc := 21) dX10_isWord_21 ?_
    exact zV_zret (pc := 22) rfl dX10_isWord_22 (Or.inl rfl) h
  · have c1 := Classical.not_not.mp c1
    have h := h.1 c1
    refine zV_aloadr_n (pc := 8) dX10_isWord_8 rfl 0 rfl ?_
    refine zV_getL (pc := 9) dX10_isWord_9 zfX10_202 rfl rfl rfl ?_
    refine zV_lload_n (pc := 12) dX10_isWord_12 rfl 1 rfl ?_
    refine zV_lcmp (pc := 13) dX10_isWord_13 ?_
    refine zV_if_ne (pc := 14) (tgt := 21) dX10_isWord_14 (by decide) (inR_of _) (fun c2 => ?_) (fun c2 => ?_)
    · skip
      have h := h.2 c2
      refine zV_iconst (pc := 21) dX10_isWord_21 ?_
      exact zV_zret (pc := 22) rfl dX10_isWord_22 (Or.inl rfl) h
    · have c2 := Classical.not_not.mp c2
      have h := h.1 c2
      refine zV_iconst (pc := 17) dX10_isWord_17 ?_
      refine zV_goto (pc := 18) (tgt := 22) dX10_isWord_18 (by decide) ?_
      exact zV_zret (pc := 22) rfl dX10_isWord_22 (Or.inr rfl) h

theorem c_X10_isWord {K : zCx} {d : Nat} {l1 : Int64} {m0 : zM} (hok : zok m0) : zCt K (d + 1) mX10_isWord [rr K 98, .long l1] m0 (fun r m1 => r = b2i (decide (m0.1 98 24 = 1 ∧ m0.2.1 98 27 = l1)) ∧ m1 = m0) := by
  refine zCt.of (by decide) (Nat.le_of_ble_eq_true rfl) (vc_X10_isWord_0 (d := d) l1 m0  (fun hm => ?_))
  (repeat' (first | apply And.intro | intro _)) <;> simp_all [lgc0, b2i]

set_option maxRecDepth 100000 in
set_option maxHeartbeats 4000000 in
theorem vc_X10_isMark_0 {K : zCx} {d : Nat} (x1 : Int) (m0 : zM) {Q : Int → zM → Prop} (hx1 : inR x1) (h : zok m0 → ((m0.1 98 24) = 3 → (((lg_cmp (m0.2.1 98 27) (iz x1).toInt64).toInt) = 0 → Q 1 m0) ∧ (¬ (((lg_cmp (m0.2.1 98 27) (iz x1).toInt64).toInt) = 0) → Q 0 m0)) ∧ (¬ ((m0.1 98 24) = 3) → Q 0 m0)) : zV K mX10_isMark (d + 1) 0 [(0, rr K 98), (1, .int (iz x1))] [] m0 Q := by
  refine zV_ok (fun hm0 => ?_)
  have h := h hm0
  refine zV_aloadr_n (pc := 0) dX10_isMark_0 rfl 0 rfl ?_
  refine zV_getI (pc := 1) dX10_isMark_1 zfX10_206 rfl rfl rfl ?_
  refine zV_iconst (pc := 4) dX10_isMark_4 ?_
  refine zV_icmp_ne (pc := 5) (tgt := 22) dX10_isMark_5 (by decide) (hm0 _ _) (inRd rfl) (fun c1 => ?_) (fun c1 => ?_)
  · skip
    have h := h.2 c1
    refine zV_iconst (pc := 22) dX10_isMark_22 ?_
    exact zV_zret (pc := 23) rfl dX10_isMark_23 (Or.inl rfl) h
  · have c1 := Classical.not_not.mp c1
    have h := h.1 c1
    refine zV_aloadr_n (pc := 8) dX10_isMark_8 rfl 0 rfl ?_
    refine zV_getL (pc := 9) dX10_isMark_9 zfX10_202 rfl rfl rfl ?_
    refine zV_iload_n (pc := 12) dX10_isMark_12 rfl 1 rfl ?_
    refine zV_i2l (pc := 13) dX10_isMark_13 ?_
    refine zV_lcmp (pc := 14) dX10_isMark_14 ?_
    refine zV_if_ne (pc := 15) (tgt := 22) dX10_isMark_15 (by decide) (inR_of _) (fun c2 => ?_) (fun c2 => ?_)
    · skip
      have h := h.2 c2
      refine zV_iconst (pc := 22) dX10_isMark_22 ?_
      exact zV_zret (pc := 23) rfl dX10_isMark_23 (Or.inl rfl) h
    · have c2 := Classical.not_not.mp c2
      have h := h.1 c2
      refine zV_iconst (pc := 18) dX10_isMark_18 ?_
      refine zV_goto (pc := 19) (tgt := 23) dX10_isMark_19 (by decide) ?_
      exact zV_zret (pc := 23) rfl dX10_isMark_23 (Or.inr rfl) h

theorem c_X10_isMark {K : zCx} {d : Nat} {x1 : Int} {m0 : zM} (hx1 : inR x1) (hok : zok m0) : zCt K (d + 1) mX10_isMark [rr K 98, .int (iz x1)] m0 (fun r m1 => r = b2i (decide (m0.1 98 24 = 3 ∧ m0.2.1 98 27 = (iz x1).toInt64)) ∧ m1 = m0) := by
  refine zCt.of (by decide) (Nat.le_of_ble_eq_true rfl) (vc_X10_isMark_0 (d := d) x1 m0 hx1 (fun hm => ?_))
  (repeat' (first | apply And.intro | intro _)) <;> simp_all [lgc0, b2i]

set_option maxRecDepth 100000 in
set_option maxHeartbeats 4000000 in
theorem vc_X10_lacksSort_0 {K : zCx} {d : Nat} (x1 : Int) (x2 : Int) (m0 : zM) {Q : Int → zM → Prop} (hx1 : inR x1) (hx2 : inR x2) (h : zok m0 → 0 ≤ x1 ∧ x1 < 4 ∧ ((0 ≤ (m0.1 122 x1) → ((m0.1 122 x1) = x2 → Q 0 m0) ∧ (¬ ((m0.1 122 x1) = x2) → Q (-13) m0)) ∧ (¬ (0 ≤ (m0.1 122 x1)) → Q (-11) m0))) : zV K mX10_lacksSort (d + 1) 0 [(0, rr K 98), (1, .int (iz x1)), (2, .int (iz x2))] [] m0 Q := by
  refine zV_ok (fun hm0 => ?_)
  have h := h hm0
  refine zV_aloadr_n (pc := 0) dX10_lacksSort_0 rfl 0 rfl ?_
  refine zV_getR (pc := 1) (b := 122) dX10_lacksSort_1 zfX10_83 rfl rfl rfl ?_
  refine zV_iload_n (pc := 4) dX10_lacksSort_4 rfl 1 rfl ?_
  obtain ⟨o1, o2, h⟩ := h
  refine zV_iald (pc := 5) dX10_lacksSort_5 rfl o1 o2 (inR_ix o1 o2 rfl) ?_
  refine zV_if_ge (pc := 6) (tgt := 14) dX10_lacksSort_6 (by decide) (hm0 _ _) (fun c3 => ?_) (fun c3 => ?_)
  · skip
    have h := h.1 c3
    refine zV_aloadr_n (pc := 14) dX10_lacksSort_14 rfl 0 rfl ?_
    refine zV_getR (pc := 15) (b := 122) dX10_lacksSort_15 zfX10_83 rfl rfl rfl ?_
    refine zV_iload_n (pc := 18) dX10_lacksSort_18 rfl 1 rfl ?_
    refine zV_iald (pc := 19) dX10_lacksSort_19 rfl o1 o2 (inR_ix o1 o2 rfl) ?_
    refine zV_iload_n (pc := 20) dX10_lacksSort_20 rfl 2 rfl ?_
    refine zV_icmp_eq (pc := 21) (tgt := 29) dX10_lacksSort_21 (by decide) (hm0 _ _) hx2 (fun c4 => ?_) (fun c4 => ?_)
    · skip
      have h := h.1 c4
      refine zV_iconst (pc := 29) dX10_lacksSort_29 ?_
      exact zV_iret (pc := 30) rfl dX10_lacksSort_30 (inRd rfl) h
    · skip
      have h := h.2 c4
      refine zV_bipush (pc := 24) dX10_lacksSort_24 (by decide) ?_
      refine zV_goto (pc := 26) (tgt := 30) dX10_lacksSort_26 (by decide) ?_
      exact zV_iret (pc := 30) rfl dX10_lacksSort_30 (inRd rfl) h
  · skip
    have h := h.2 c3
    refine zV_bipush (pc := 9) dX10_lacksSort_9 (by decide) ?_
    refine zV_goto (pc := 11) (tgt := 30) dX10_lacksSort_11 (by decide) ?_
    exact zV_iret (pc := 30) rfl dX10_lacksSort_30 (inRd rfl) h

theorem c_X10_lacksSort {K : zCx} {d : Nat} {x1 : Int} {x2 : Int} {m0 : zM} (hx1 : inR x1) (hx2 : inR x2) (hok : zok m0) (hp3 : 0 ≤ x1) (hp4 : x1 < 4) : zCt K (d + 1) mX10_lacksSort [rr K 98, .int (iz x1), .int (iz x2)] m0 (fun r m1 => r = (if m0.1 122 x1 < 0 then -11 else if m0.1 122 x1 = x2 then 0 else -13) ∧ m1 = m0) := by
  refine zCt.of (by decide) (Nat.le_of_ble_eq_true rfl) (vc_X10_lacksSort_0 (d := d) x1 x2 m0 hx1 hx2 (fun hm => ?_))
  (repeat' (first | exact zpred (hok _ _) (by assumption) | apply And.intro | intro _)) <;> first | rfl | exact (b2i_p (by omega)).symm | exact (b2i_n (by omega)).symm | exact b2i_iff (by constructor <;> intro _ <;> omega) | (subst_vars; omega) | omega | assumption | ((repeat' split) <;> first | rfl | omega)

set_option maxRecDepth 100000 in
set_option maxHeartbeats 4000000 in
theorem vc_X10_joins_0 {K : zCx} {d : Nat} (x0 : Int) (m0 : zM) {Q : Int → zM → Prop} (hx0 : inR x0) (h : zok m0 → (x0 = 8 → Q 1 m0) ∧ (¬ (x0 = 8) → (x0 = 9 → Q 1 m0) ∧ (¬ (x0 = 9) → ((14 ≤ x0 ∧ x0 ≤ 17) → Q 1 m0) ∧ (¬ ((14 ≤ x0 ∧ x0 ≤ 17)) → Q 0 m0)))) : zV K mX10_joins (d + 2) 0 [(0, .int (iz x0))] [] m0 Q := by
  refine zV_ok (fun hm0 => ?_)
  have h := h hm0
  refine zV_iload_n (pc := 0) dX10_joins_0 rfl 0 rfl ?_
  refine zV_bipush (pc := 1) dX10_joins_1 (by decide) ?_
  refine zV_icmp_eq (pc := 3) (tgt := 23) dX10_joins_3 (by decide) hx0 (inRd rfl) (fun c1 => ?_) (fun c1 => ?_)
  · skip
    have h := h.1 c1
    refine zV_iconst (pc := 23) dX10_joins_23 ?_
    refine zV_goto (pc := 24) (tgt := 28) dX10_joins_24 (by decide) ?_
    exact zV_zret (pc := 28) rfl dX10_joins_28 (Or.inr rfl) h
  · skip
    have h := h.2 c1
    refine zV_iload_n (pc := 6) dX10_joins_6 rfl 0 rfl ?_
    refine zV_bipush (pc := 7) dX10_joins_7 (by decide) ?_
    refine zV_icmp_eq (pc := 9) (tgt := 23) dX10_joins_9 (by decide) hx0 (inRd rfl) (fun c2 => ?_) (fun c2 => ?_)
    · skip
      have h := h.1 c2
      refine zV_iconst (pc := 23) dX10_joins_23 ?_
      refine zV_goto (pc := 24) (tgt := 28) dX10_joins_24 (by decide) ?_
      exact zV_zret (pc := 28) rfl dX10_joins_28 (Or.inr rfl) h
    · skip
      have h := h.2 c2
      refine zV_iload_n (pc := 12) dX10_joins_12 rfl 0 rfl ?_
      refine zV_bipush (pc := 13) dX10_joins_13 (by decide) ?_
      refine zV_bipush (pc := 15) dX10_joins_15 (by decide) ?_
      refine zV_callSf (pc := 17) (mc := mX10_in) (As := [.int (iz x0), .int (iz 14), .int (iz 17)]) (rest := []) dX10_joins_17 zcX10_114 ztX10_in rfl rfl (Nat.le_of_ble_eq_true rfl) (c_X10_in hx0 (inRd rfl) (inRd rfl)) (fun hr3 => ?_)
      refine zV_if_eq (pc := 20) (tgt := 27) dX10_joins_20 (by decide) (inR_b2i _) (fun c5 => ?_) (fun c5 => ?_)
      · have c5 := b2i_fp c5
        have h := h.2 c5
        refine zV_iconst (pc := 27) dX10_joins_27 ?_
        exact zV_zret (pc := 28) rfl dX10_joins_28 (Or.inl rfl) h
      · have c5 := b2i_tp c5
        have h := h.1 c5
        refine zV_iconst (pc := 23) dX10_joins_23 ?_
        refine zV_goto (pc := 24) (tgt := 28) dX10_joins_24 (by decide) ?_
        exact zV_zret (pc := 28) rfl dX10_joins_28 (Or.inr rfl) h

theorem c_X10_joins {K : zCx} {d : Nat} {x0 : Int} {m0 : zM} (hx0 : inR x0) : zCt K (d + 2) mX10_joins [.int (iz x0)] m0 (fun r m1 => r = b2i (decide (x0 = 8 ∨ x0 = 9 ∨ (14 ≤ x0 ∧ x0 ≤ 17))) ∧ m1 = m0) := by
  refine zCt.of (by decide) (Nat.le_of_ble_eq_true rfl) (vc_X10_joins_0 (d := d) x0 m0 hx0 (fun hm => ?_))
  (repeat' (first | exact zpred (hok _ _) (by assumption) | apply And.intro | intro _)) <;> first | rfl | exact (b2i_p (by omega)).symm | exact (b2i_n (by omega)).symm | exact b2i_iff (by constructor <;> intro _ <;> omega) | (subst_vars; omega) | omega | assumption | ((repeat' split) <;> first | rfl | omega)

set_option maxRecDepth 100000 in
set_option maxHeartbeats 4000000 in
theorem vc_X10_isRow_0 {K : zCx} {d : Nat} (x1 : Int) (x2 : Int) (m0 : zM) {Q : Int → zM → Prop} (hx1 : inR x1) (hx2 : inR x2) (h : zok m0 → inR ((m0.1 98 42) - 1) ∧ (((0 ≤ x1 ∧ x1 ≤ ((m0.1 98 42) - 1)) → ((0 ≤ x2 ∧ x2 ≤ 1) → Q 1 m0) ∧ (¬ ((0 ≤ x2 ∧ x2 ≤ 1)) → Q 0 m0)) ∧ (¬ ((0 ≤ x1 ∧ x1 ≤ ((m0.1 98 42) - 1))) → Q 0 m0))) : zV K mX10_isRow (d + 2) 0 [(0, rr K 98), (1, .int (iz x1)), (2, .int (iz x2))] [] m0 Q := by
  refine zV_ok (fun hm0 => ?_)
  have h := h hm0
  refine zV_iload_n (pc := 0) dX10_isRow_0 rfl 1 rfl ?_
  refine zV_iconst (pc := 1) dX10_isRow_1 ?_
  refine zV_aloadr_n (pc := 2) dX10_isRow_2 rfl 0 rfl ?_
  refine zV_getI (pc := 3) dX10_isRow_3 zfX10_340 rfl rfl rfl ?_
  refine zV_iconst (pc := 6) dX10_isRow_6 ?_
  refine zV_isub (pc := 7) dX10_isRow_7 ?_
  obtain ⟨o1, h⟩ := h
  refine zV_callSf (pc := 8) (mc := mX10_in) (As := [.int (iz x1), .int (iz 0), .int (iz ((m0.1 98 42) - 1))]) (rest := []) dX10_isRow_8 zcX10_114 ztX10_in rfl rfl (Nat.le_of_ble_eq_true rfl) (c_X10_in hx1 (inRd rfl) o1) (fun hr2 => ?_)
  refine zV_if_eq (pc := 11) (tgt := 27) dX10_isRow_11 (by decide) (inR_b2i _) (fun c4 => ?_) (fun c4 => ?_)
  · have c4 := b2i_fp c4
    have h := h.2 c4
    refine zV_iconst (pc := 27) dX10_isRow_27 ?_
    exact zV_zret (pc := 28) rfl dX10_isRow_28 (Or.inl rfl) h
  · have c4 := b2i_tp c4
    have h := h.1 c4
    refine zV_iload_n (pc := 14) dX10_isRow_14 rfl 2 rfl ?_
    refine zV_iconst (pc := 15) dX10_isRow_15 ?_
    refine zV_iconst (pc := 16) dX10_isRow_16 ?_
    refine zV_callSf (pc := 17) (mc := mX10_in) (As := [.int (iz x2), .int (iz 0), .int (iz 1)]) (rest := []) dX10_isRow_17 zcX10_114 ztX10_in rfl rfl (Nat.le_of_ble_eq_true rfl) (c_X10_in hx2 (inRd rfl) (inRd rfl)) (fun hr5 => ?_)
    refine zV_if_eq (pc := 20) (tgt := 27) dX10_isRow_20 (by decide) (inR_b2i _) (fun c7 => ?_) (fun c7 => ?_)
    · have c7 := b2i_fp c7
      have h := h.2 c7
      refine zV_iconst (pc := 27) dX10_isRow_27 ?_
      exact zV_zret (pc := 28) rfl dX10_isRow_28 (Or.inl rfl) h
    · have c7 := b2i_tp c7
      have h := h.1 c7
      refine zV_iconst (pc := 23) dX10_isRow_23 ?_
      refine zV_goto (pc := 24) (tgt := 28) dX10_isRow_24 (by decide) ?_
      exact zV_zret (pc := 28) rfl dX10_isRow_28 (Or.inr rfl) h

theorem c_X10_isRow {K : zCx} {d : Nat} {x1 : Int} {x2 : Int} {m0 : zM} (hx1 : inR x1) (hx2 : inR x2) (hok : zok m0) (hp3 : 0 ≤ m0.1 98 42) : zCt K (d + 2) mX10_isRow [rr K 98, .int (iz x1), .int (iz x2)] m0 (fun r m1 => r = b2i (decide ((0 ≤ x1 ∧ x1 < m0.1 98 42) ∧ (0 ≤ x2 ∧ x2 ≤ 1))) ∧ m1 = m0) := by
  refine zCt.of (by decide) (Nat.le_of_ble_eq_true rfl) (vc_X10_isRow_0 (d := d) x1 x2 m0 hx1 hx2 (fun hm => ?_))
  (repeat' (first | exact zpred (hok _ _) (by assumption) | apply And.intro | intro _)) <;> first | rfl | exact (b2i_p (by omega)).symm | exact (b2i_n (by omega)).symm | exact b2i_iff (by constructor <;> intro _ <;> omega) | (subst_vars; omega) | omega | assumption | ((repeat' split) <;> first | rfl | omega)

set_option maxRecDepth 100000 in
set_option maxHeartbeats 4000000 in
theorem vc_X10_isUnder_0 {K : zCx} {d : Nat} (x0 : Int) (x1 : Int) (m0 : zM) {Q : Int → zM → Prop} (hx0 : inR x0) (hx1 : inR x1) (h : zok m0 → (x1 = 0 → Q 1 m0) ∧ (¬ (x1 = 0) → (x0 = x1 → Q 1 m0) ∧ (¬ (x0 = x1) → (x1 = 1 → ((2 ≤ x0 ∧ x0 ≤ 3) → Q 1 m0) ∧ (¬ ((2 ≤ x0 ∧ x0 ≤ 3)) → (x1 = 2 → (x0 = 3 → Q 1 m0) ∧ (¬ (x0 = 3) → Q 0 m0)) ∧ (¬ (x1 = 2) → Q 0 m0))) ∧ (¬ (x1 = 1) → (x1 = 2 → (x0 = 3 → Q 1 m0) ∧ (¬ (x0 = 3) → Q 0 m0)) ∧ (¬ (x1 = 2) → Q 0 m0))))) : zV K mX10_isUnder (d + 2) 0 [(0, .int (iz x0)), (1, .int (iz x1))] [] m0 Q := by
  refine zV_ok (fun hm0 => ?_)
  have h := h hm0
  refine zV_iload_n (pc := 0) dX10_isUnder_0 rfl 1 rfl ?_
  refine zV_if_eq (pc := 1) (tgt := 33) dX10_isUnder_1 (by decide) hx1 (fun c1 => ?_) (fun c1 => ?_)
  · skip
    have h := h.1 c1
    refine zV_iconst (pc := 33) dX10_isUnder_33 ?_
    refine zV_goto (pc := 34) (tgt := 38) dX10_isUnder_34 (by decide) ?_
    exact zV_zret (pc := 38) rfl dX10_isUnder_38 (Or.inr rfl) h
  · skip
    have h := h.2 c1
    refine zV_iload_n (pc := 4) dX10_isUnder_4 rfl 0 rfl ?_
    refine zV_iload_n (pc := 5) dX10_isUnder_5 rfl 1 rfl ?_
    refine zV_icmp_eq (pc := 6) (tgt := 33) dX10_isUnder_6 (by decide) hx0 hx1 (fun c2 => ?_) (fun c2 => ?_)
    · skip
      have h := h.1 c2
      refine zV_iconst (pc := 33) dX10_isUnder_33 ?_
      refine zV_goto (pc := 34) (tgt := 38) dX10_isUnder_34 (by decide) ?_
      exact zV_zret (pc := 38) rfl dX10_isUnder_38 (Or.inr rfl) h
    · skip
      have h := h.2 c2
      refine zV_iload_n (pc := 9) dX10_isUnder_9 rfl 1 rfl ?_
      refine zV_iconst (pc := 10) dX10_isUnder_10 ?_
      refine zV_icmp_ne (pc := 11) (tgt := 23) dX10_isUnder_11 (by decide) hx1 (inRd rfl) (fun c3 => ?_) (fun c3 => ?_)
      · skip
        have h := h.2 c3
        refine zV_iload_n (pc := 23) dX10_isUnder_23 rfl 1 rfl ?_
        refine zV_iconst (pc := 24) dX10_isUnder_24 ?_
        refine zV_icmp_ne (pc := 25) (tgt := 37) dX10_isUnder_25 (by decide) hx1 (inRd rfl) (fun c4 => ?_) (fun c4 => ?_)
        · skip
          have h := h.2 c4
          refine zV_iconst (pc := 37) dX10_isUnder_37 ?_
          exact zV_zret (pc := 38) rfl dX10_isUnder_38 (Or.inl rfl) h
        · have c4 := Classical.not_not.mp c4
          have h := h.1 c4
          refine zV_iload_n (pc := 28) dX10_isUnder_28 rfl 0 rfl ?_
          refine zV_iconst (pc := 29) dX10_isUnder_29 ?_
          refine zV_icmp_ne (pc := 30) (tgt := 37) dX10_isUnder_30 (by decide) hx0 (inRd rfl) (fun c5 => ?_) (fun c5 => ?_)
          · skip
            have h := h.2 c5
            refine zV_iconst (pc := 37) dX10_isUnder_37 ?_
            exact zV_zret (pc := 38) rfl dX10_isUnder_38 (Or.inl rfl) h
          · have c5 := Classical.not_not.mp c5
            have h := h.1 c5
            refine zV_iconst (pc := 33) dX10_isUnder_33 ?_
            refine zV_goto (pc := 34) (tgt := 38) dX10_isUnder_34 (by decide) ?_
            exact zV_zret (pc := 38) rfl dX10_isUnder_38 (Or.inr rfl) h
      · have c3 := Classical.not_not.mp c3
        have h := h.1 c3
        refine zV_iload_n (pc := 14) dX10_isUnder_14 rfl 0 rfl ?_
        refine zV_iconst (pc := 15) dX10_isUnder_15 ?_
        refine zV_iconst (pc := 16) dX10_isUnder_16 ?_
        refine zV_callSf (pc := 17) (mc := mX10_in) (As := [.int (iz x0), .int (iz 2), .int (iz 3)]) (rest := []) dX10_isUnder_17 zcX10_114 ztX10_in rfl rfl (Nat.le_of_ble_eq_true rfl) (c_X10_in hx0 (inRd rfl) (inRd rfl)) (fun hr6 => ?_)
        refine zV_if_ne (pc := 20) (tgt := 33) dX10_isUnder_20 (by decide) (inR_b2i _) (fun c8 => ?_) (fun c8 => ?_)
        · have c8 := b2i_tp c8
          have h := h.1 c8
          refine zV_iconst (pc := 33) dX10_isUnder_33 ?_
          refine zV_goto (pc := 34) (tgt := 38) dX10_isUnder_34 (by decide) ?_
          exact zV_zret (pc := 38) rfl dX10_isUnder_38 (Or.inr rfl) h
        · have c8 := b2i_fn c8
          have h := h.2 c8
          refine zV_iload_n (pc := 23) dX10_isUnder_23 rfl 1 rfl ?_
          refine zV_iconst (pc := 24) dX10_isUnder_24 ?_
          refine zV_icmp_ne (pc := 25) (tgt := 37) dX10_isUnder_25 (by decide) hx1 (inRd rfl) (fun c9 => ?_) (fun c9 => ?_)
          · skip
            have h := h.2 c9
            refine zV_iconst (pc := 37) dX10_isUnder_37 ?_
            exact zV_zret (pc := 38) rfl dX10_isUnder_38 (Or.inl rfl) h
          · have c9 := Classical.not_not.mp c9
            have h := h.1 c9
            refine zV_iload_n (pc := 28) dX10_isUnder_28 rfl 0 rfl ?_
            refine zV_iconst (pc := 29) dX10_isUnder_29 ?_
            refine zV_icmp_ne (pc := 30) (tgt := 37) dX10_isUnder_30 (by decide) hx0 (inRd rfl) (fun c10 => ?_) (fun c10 => ?_)
            · skip
              have h := h.2 c10
              refine zV_iconst (pc := 37) dX10_isUnder_37 ?_
              exact zV_zret (pc := 38) rfl dX10_isUnder_38 (Or.inl rfl) h
            · have c10 := Classical.not_not.mp c10
              have h := h.1 c10
              refine zV_iconst (pc := 33) dX10_isUnder_33 ?_
              refine zV_goto (pc := 34) (tgt := 38) dX10_isUnder_34 (by decide) ?_
              exact zV_zret (pc := 38) rfl dX10_isUnder_38 (Or.inr rfl) h

theorem c_X10_isUnder {K : zCx} {d : Nat} {x0 : Int} {x1 : Int} {m0 : zM} (hx0 : inR x0) (hx1 : inR x1) : zCt K (d + 2) mX10_isUnder [.int (iz x0), .int (iz x1)] m0 (fun r m1 => r = b2i (decide (x1 = 0 ∨ x0 = x1 ∨ (x1 = 1 ∧ 2 ≤ x0 ∧ x0 ≤ 3) ∨ (x1 = 2 ∧ x0 = 3))) ∧ m1 = m0) := by
  refine zCt.of (by decide) (Nat.le_of_ble_eq_true rfl) (vc_X10_isUnder_0 (d := d) x0 x1 m0 hx0 hx1 (fun hm => ?_))
  (repeat' (first | exact zpred (hok _ _) (by assumption) | apply And.intro | intro _)) <;> first | rfl | exact (b2i_p (by omega)).symm | exact (b2i_n (by omega)).symm | exact b2i_iff (by constructor <;> intro _ <;> omega) | (subst_vars; omega) | omega | assumption | ((repeat' split) <;> first | rfl | omega)

set_option maxRecDepth 100000 in
set_option maxHeartbeats 4000000 in
theorem vc_X9_within_0 {K : zCx} {d : Nat} (x0 : Int) (x1 : Int) (x2 : Int) (m0 : zM) {Q : Int → zM → Prop} (hx0 : inR x0) (hx1 : inR x1) (hx2 : inR x2) (h : zok m0 → (x0 < x1 → Q 0 m0) ∧ (¬ (x0 < x1) → (x2 < x0 → Q 0 m0) ∧ (¬ (x2 < x0) → Q 1 m0))) : zV K mX9_within (d + 1) 0 [(0, .int (iz x0)), (1, .int (iz x1)), (2, .int (iz x2))] [] m0 Q := by
  refine zV_ok (fun hm0 => ?_)
  have h := h hm0
  refine zV_iload_n (pc := 0) dX9_within_0 rfl 0 rfl ?_
  refine zV_iload_n (pc := 1) dX9_within_1 rfl 1 rfl ?_
  refine zV_icmp_lt (pc := 2) (tgt := 14) dX9_within_2 (by decide) hx0 hx1 (fun c1 => ?_) (fun c1 => ?_)
  · skip
    have h := h.1 c1
    refine zV_iconst (pc := 14) dX9_within_14 ?_
    exact zV_zret (pc := 15) rfl dX9_within_15 (Or.inl rfl) h
  · skip
    have h := h.2 c1
    refine zV_iload_n (pc := 5) dX9_within_5 rfl 0 rfl ?_
    refine zV_iload_n (pc := 6) dX9_within_6 rfl 2 rfl ?_
    refine zV_icmp_gt (pc := 7) (tgt := 14) dX9_within_7 (by decide) hx0 hx2 (fun c2 => ?_) (fun c2 => ?_)
    · skip
      have h := h.1 c2
      refine zV_iconst (pc := 14) dX9_within_14 ?_
      exact zV_zret (pc := 15) rfl dX9_within_15 (Or.inl rfl) h
    · skip
      have h := h.2 c2
      refine zV_iconst (pc := 10) dX9_within_10 ?_
      refine zV_goto (pc := 11) (tgt := 15) dX9_within_11 (by decide) ?_
      exact zV_zret (pc := 15) rfl dX9_within_15 (Or.inr rfl) h

theorem c_X9_within {K : zCx} {d : Nat} {x0 : Int} {x1 : Int} {x2 : Int} {m0 : zM} (hx0 : inR x0) (hx1 : inR x1) (hx2 : inR x2) : zCt K (d + 1) mX9_within [.int (iz x0), .int (iz x1), .int (iz x2)] m0 (fun r m1 => r = b2i (decide (x1 ≤ x0 ∧ x0 ≤ x2)) ∧ m1 = m0) := by
  refine zCt.of (by decide) (Nat.le_of_ble_eq_true rfl) (vc_X9_within_0 (d := d) x0 x1 x2 m0 hx0 hx1 hx2 (fun hm => ?_))
  (repeat' (first | exact zpred (hok _ _) (by assumption) | apply And.intro | intro _)) <;> first | rfl | exact (b2i_p (by omega)).symm | exact (b2i_n (by omega)).symm | exact b2i_iff (by constructor <;> intro _ <;> omega) | (subst_vars; omega) | omega | assumption | ((repeat' split) <;> first | rfl | omega)

set_option maxRecDepth 100000 in
set_option maxHeartbeats 4000000 in
theorem vc_X9_isState_0 {K : zCx} {d : Nat} (x0 : Int) (m0 : zM) {Q : Int → zM → Prop} (hx0 : inR x0) (h : zok m0 → Q (b2i (decide (0 ≤ x0 ∧ x0 ≤ 9260))) m0) : zV K mX9_isState (d + 2) 0 [(0, .int (iz x0))] [] m0 Q := by
  refine zV_ok (fun hm0 => ?_)
  have h := h hm0
  refine zV_iload_n (pc := 0) dX9_isState_0 rfl 0 rfl ?_
  refine zV_iconst (pc := 1) dX9_isState_1 ?_
  refine zV_sipush (pc := 2) dX9_isState_2 (by decide) ?_
  refine zV_callSf (pc := 5) (mc := mX9_within) (As := [.int (iz x0), .int (iz 0), .int (iz 9260)]) (rest := []) dX9_isState_5 zcX9_74 ztX9_within rfl rfl (Nat.le_of_ble_eq_true rfl) (c_X9_within hx0 (inRd rfl) (inRd rfl)) (fun hr1 => ?_)
  exact zV_zret (pc := 8) rfl dX9_isState_8 (b2i_01 _) h

theorem c_X9_isState {K : zCx} {d : Nat} {x0 : Int} {m0 : zM} (hx0 : inR x0) : zCt K (d + 2) mX9_isState [.int (iz x0)] m0 (fun r m1 => r = b2i (decide (0 ≤ x0 ∧ x0 ≤ 9260)) ∧ m1 = m0) := by
  refine zCt.of (by decide) (Nat.le_of_ble_eq_true rfl) (vc_X9_isState_0 (d := d) x0 m0 hx0 (fun hm => ?_))
  (repeat' (first | exact zpred (hok _ _) (by assumption) | apply And.intro | intro _)) <;> first | rfl | exact (b2i_p (by omega)).symm | exact (b2i_n (by omega)).symm | exact b2i_iff (by constructor <;> intro _ <;> omega) | (subst_vars; omega) | omega | assumption | ((repeat' split) <;> first | rfl | omega)

set_option maxRecDepth 100000 in
set_option maxHeartbeats 4000000 in
theorem vc_X9_isCorner_0 {K : zCx} {d : Nat} (x0 : Int) (m0 : zM) {Q : Int → zM → Prop} (hx0 : inR x0) (h : zok m0 → Q (b2i (decide (0 ≤ x0 ∧ x0 ≤ 8))) m0) : zV K mX9_isCorner (d + 2) 0 [(0, .int (iz x0))] [] m0 Q := by
  refine zV_ok (fun hm0 => ?_)
  have h := h hm0
  refine zV_iload_n (pc := 0) dX9_isCorner_0 rfl 0 rfl ?_
  refine zV_iconst (pc := 1) dX9_isCorner_1 ?_
  refine zV_bipush (pc := 2) dX9_isCorner_2 (by decide) ?_
  refine zV_callSf (pc := 4) (mc := mX9_within) (As := [.int (iz x0), .int (iz 0), .int (iz 8)]) (rest := []) dX9_isCorner_4 zcX9_74 ztX9_within rfl rfl (Nat.le_of_ble_eq_true rfl) (c_X9_within hx0 (inRd rfl) (inRd rfl)) (fun hr1 => ?_)
  exact zV_zret (pc := 7) rfl dX9_isCorner_7 (b2i_01 _) h

theorem c_X9_isCorner {K : zCx} {d : Nat} {x0 : Int} {m0 : zM} (hx0 : inR x0) : zCt K (d + 2) mX9_isCorner [.int (iz x0)] m0 (fun r m1 => r = b2i (decide (0 ≤ x0 ∧ x0 ≤ 8)) ∧ m1 = m0) := by
  refine zCt.of (by decide) (Nat.le_of_ble_eq_true rfl) (vc_X9_isCorner_0 (d := d) x0 m0 hx0 (fun hm => ?_))
  (repeat' (first | exact zpred (hok _ _) (by assumption) | apply And.intro | intro _)) <;> first | rfl | exact (b2i_p (by omega)).symm | exact (b2i_n (by omega)).symm | exact b2i_iff (by constructor <;> intro _ <;> omega) | (subst_vars; omega) | omega | assumption | ((repeat' split) <;> first | rfl | omega)

set_option maxRecDepth 100000 in
set_option maxHeartbeats 4000000 in
theorem vc_X9_hasLaw_0 {K : zCx} {d : Nat} (x0 : Int) (m0 : zM) {Q : Int → zM → Prop} (hx0 : inR x0) (h : zok m0 → (x0 = 1 → Q 1 m0) ∧ (¬ (x0 = 1) → (x0 = 2 → Q 1 m0) ∧ (¬ (x0 = 2) → (x0 = 3 → Q 1 m0) ∧ (¬ (x0 = 3) → Q 0 m0)))) : zV K mX9_hasLaw (d + 1) 0 [(0, .int (iz x0))] [] m0 Q := by
  refine zV_ok (fun hm0 => ?_)
  have h := h hm0
  refine zV_iload_n (pc := 0) dX9_hasLaw_0 rfl 0 rfl ?_
  refine zV_iconst (pc := 1) dX9_hasLaw_1 ?_
  refine zV_icmp_eq (pc := 2) (tgt := 15) dX9_hasLaw_2 (by decide) hx0 (inRd rfl) (fun c1 => ?_) (fun c1 => ?_)
  · skip
    have h := h.1 c1
    refine zV_iconst (pc := 15) dX9_hasLaw_15 ?_
    refine zV_goto (pc := 16) (tgt := 20) dX9_hasLaw_16 (by decide) ?_
    exact zV_zret (pc := 20) rfl dX9_hasLaw_20 (Or.inr rfl) h
  · skip
    have h := h.2 c1
    refine zV_iload_n (pc := 5) dX9_hasLaw_5 rfl 0 rfl ?_
    refine zV_iconst (pc := 6) dX9_hasLaw_6 ?_
    refine zV_icmp_eq (pc := 7) (tgt := 15) dX9_hasLaw_7 (by decide) hx0 (inRd rfl) (fun c2 => ?_) (fun c2 => ?_)
    · skip
      have h := h.1 c2
      refine zV_iconst (pc := 15) dX9_hasLaw_15 ?_
      refine zV_goto (pc := 16) (tgt := 20) dX9_hasLaw_16 (by decide) ?_
      exact zV_zret (pc := 20) rfl dX9_hasLaw_20 (Or.inr rfl) h
    · skip
      have h := h.2 c2
      refine zV_iload_n (pc := 10) dX9_hasLaw_10 rfl 0 rfl ?_
      refine zV_iconst (pc := 11) dX9_hasLaw_11 ?_
      refine zV_icmp_ne (pc := 12) (tgt := 19) dX9_hasLaw_12 (by decide) hx0 (inRd rfl) (fun c3 => ?_) (fun c3 => ?_)
      · skip
        have h := h.2 c3
        refine zV_iconst (pc := 19) dX9_hasLaw_19 ?_
        exact zV_zret (pc := 20) rfl dX9_hasLaw_20 (Or.inl rfl) h
      · have c3 := Classical.not_not.mp c3
        have h := h.1 c3
        refine zV_iconst (pc := 15) dX9_hasLaw_15 ?_
        refine zV_goto (pc := 16) (tgt := 20) dX9_hasLaw_16 (by decide) ?_
        exact zV_zret (pc := 20) rfl dX9_hasLaw_20 (Or.inr rfl) h

theorem c_X9_hasLaw {K : zCx} {d : Nat} {x0 : Int} {m0 : zM} (hx0 : inR x0) : zCt K (d + 1) mX9_hasLaw [.int (iz x0)] m0 (fun r m1 => r = b2i (decide (x0 = 1 ∨ x0 = 2 ∨ x0 = 3)) ∧ m1 = m0) := by
  refine zCt.of (by decide) (Nat.le_of_ble_eq_true rfl) (vc_X9_hasLaw_0 (d := d) x0 m0 hx0 (fun hm => ?_))
  (repeat' (first | exact zpred (hok _ _) (by assumption) | apply And.intro | intro _)) <;> first | rfl | exact (b2i_p (by omega)).symm | exact (b2i_n (by omega)).symm | exact b2i_iff (by constructor <;> intro _ <;> omega) | (subst_vars; omega) | omega | assumption | ((repeat' split) <;> first | rfl | omega)

set_option maxRecDepth 100000 in
set_option maxHeartbeats 4000000 in
theorem vc_X9_hasGate_0 {K : zCx} {d : Nat} (x0 : Int) (m0 : zM) {Q : Int → zM → Prop} (hx0 : inR x0) (h : zok m0 → (x0 = 2 → Q 1 m0) ∧ (¬ (x0 = 2) → (x0 = 3 → Q 1 m0) ∧ (¬ (x0 = 3) → Q 0 m0))) : zV K mX9_hasGate (d + 1) 0 [(0, .int (iz x0))] [] m0 Q := by
  refine zV_ok (fun hm0 => ?_)
  have h := h hm0
  refine zV_iload_n (pc := 0) dX9_hasGate_0 rfl 0 rfl ?_
  refine zV_iconst (pc := 1) dX9_hasGate_1 ?_
  refine zV_icmp_eq (pc := 2) (tgt := 10) dX9_hasGate_2 (by decide) hx0 (inRd rfl) (fun c1 => ?_) (fun c1 => ?_)
  · skip
    have h := h.1 c1
    refine zV_iconst (pc := 10) dX9_hasGate_10 ?_
    refine zV_goto (pc := 11) (tgt := 15) dX9_hasGate_11 (by decide) ?_
    exact zV_zret (pc := 15) rfl dX9_hasGate_15 (Or.inr rfl) h
  · skip
    have h := h.2 c1
    refine zV_iload_n (pc := 5) dX9_hasGate_5 rfl 0 rfl ?_
    refine zV_iconst (pc := 6) dX9_hasGate_6 ?_
    refine zV_icmp_ne (pc := 7) (tgt := 14) dX9_hasGate_7 (by decide) hx0 (inRd rfl) (fun c2 => ?_) (fun c2 => ?_)
    · skip
      have h := h.2 c2
      refine zV_iconst (pc := 14) dX9_hasGate_14 ?_
      exact zV_zret (pc := 15) rfl dX9_hasGate_15 (Or.inl rfl) h
    · have c2 := Classical.not_not.mp c2
      have h := h.1 c2
      refine zV_iconst (pc := 10) dX9_hasGate_10 ?_
      refine zV_goto (pc := 11) (tgt := 15) dX9_hasGate_11 (by decide) ?_
      exact zV_zret (pc := 15) rfl dX9_hasGate_15 (Or.inr rfl) h

theorem c_X9_hasGate {K : zCx} {d : Nat} {x0 : Int} {m0 : zM} (hx0 : inR x0) : zCt K (d + 1) mX9_hasGate [.int (iz x0)] m0 (fun r m1 => r = b2i (decide (x0 = 2 ∨ x0 = 3)) ∧ m1 = m0) := by
  refine zCt.of (by decide) (Nat.le_of_ble_eq_true rfl) (vc_X9_hasGate_0 (d := d) x0 m0 hx0 (fun hm => ?_))
  (repeat' (first | exact zpred (hok _ _) (by assumption) | apply And.intro | intro _)) <;> first | rfl | exact (b2i_p (by omega)).symm | exact (b2i_n (by omega)).symm | exact b2i_iff (by constructor <;> intro _ <;> omega) | (subst_vars; omega) | omega | assumption | ((repeat' split) <;> first | rfl | omega)

set_option maxRecDepth 100000 in
set_option maxHeartbeats 4000000 in
theorem vc_X9_areEnds_0 {K : zCx} {d : Nat} (x0 : Int) (m0 : zM) {Q : Int → zM → Prop} (hx0 : inR x0) (h : zok m0 → ((0 ≤ x0 ∧ x0 ≤ 99) → ∀ v4 : Int, v4 = (Int.tdiv x0 10) → (∀ v6 : Int, v6 = (Int.tmod x0 10) → ((5 ≤ v4 → Q 0 m0) ∧ (¬ (5 ≤ v4) → (5 ≤ v6 → Q 0 m0) ∧ (¬ (5 ≤ v6) → (v4 = v6 → Q 0 m0) ∧ (¬ (v4 = v6) → Q 1 m0)))))) ∧ (¬ ((0 ≤ x0 ∧ x0 ≤ 99)) → Q 0 m0)) : zV K mX9_areEnds (d + 2) 0 [(0, .int (iz x0))] [] m0 Q := by
  refine zV_ok (fun hm0 => ?_)
  have h := h hm0
  refine zV_iload_n (pc := 0) dX9_areEnds_0 rfl 0 rfl ?_
  refine zV_iconst (pc := 1) dX9_areEnds_1 ?_
  refine zV_bipush (pc := 2) dX9_areEnds_2 (by decide) ?_
  refine zV_callSf (pc := 4) (mc := mX9_within) (As := [.int (iz x0), .int (iz 0), .int (iz 99)]) (rest := []) dX9_areEnds_4 zcX9_74 ztX9_within rfl rfl (Nat.le_of_ble_eq_true rfl) (c_X9_within hx0 (inRd rfl) (inRd rfl)) (fun hr1 => ?_)
  refine zV_if_ne (pc := 7) (tgt := 12) dX9_areEnds_7 (by decide) (inR_b2i _) (fun c3 => ?_) (fun c3 => ?_)
  · have c3 := b2i_tp c3
    have h := h.1 c3
    refine zV_iload_n (pc := 12) dX9_areEnds_12 rfl 0 rfl ?_
    refine zV_bipush (pc := 13) dX9_areEnds_13 (by decide) ?_
    refine zV_idiv (pc := 15) dX9_areEnds_15 hx0 (inRd rfl) (by decide) (fun q => absurd q.2 (by decide)) ?_
    refine zV_name (fun v4 e5 => ?_)
    have h := h v4 e5
    have hrv4 : inR v4 := by rw [e5]; exact (inR_tdiv hx0 (by decide))
    refine zV_istore_n (pc := 16) (loc' := [(1, .int (iz v4)), (0, .int (iz x0))]) dX9_areEnds_16 rfl (by decide) rfl ?_
    refine zV_iload_n (pc := 17) dX9_areEnds_17 rfl 1 rfl ?_
    refine zV_bipush (pc := 18) dX9_areEnds_18 (by decide) ?_
    refine zV_irem (pc := 20) dX9_areEnds_20 hx0 (inRd rfl) (by decide) (fun q => absurd q.2 (by decide)) ?_
    refine zV_name (fun v6 e7 => ?_)
    have h := h v6 e7
    have hrv6 : inR v6 := by rw [e7]; exact (inR_tmod hx0 (by decide))
    refine zV_istore_n (pc := 21) (loc' := [(2, .int (iz v6)), (1, .int (iz v4)), (0, .int (iz x0))]) dX9_areEnds_21 rfl (by decide) rfl ?_
    refine zV_iload_n (pc := 22) dX9_areEnds_22 rfl 1 rfl ?_
    refine zV_iconst (pc := 23) dX9_areEnds_23 ?_
    refine zV_icmp_ge (pc := 24) (tgt := 41) dX9_areEnds_24 (by decide) hrv4 (inRd rfl) (fun c8 => ?_) (fun c8 => ?_)
    · skip
      have h := h.1 c8
      refine zV_iconst (pc := 41) dX9_areEnds_41 ?_
      exact zV_zret (pc := 42) rfl dX9_areEnds_42 (Or.inl rfl) h
    · skip
      have h := h.2 c8
      refine zV_iload_n (pc := 27) dX9_areEnds_27 rfl 0 rfl ?_
      refine zV_iconst (pc := 28) dX9_areEnds_28 ?_
      refine zV_icmp_ge (pc := 29) (tgt := 41) dX9_areEnds_29 (by decide) hrv6 (inRd rfl) (fun c9 => ?_) (fun c9 => ?_)
      · skip
        have h := h.1 c9
        refine zV_iconst (pc := 41) dX9_areEnds_41 ?_
        exact zV_zret (pc := 42) rfl dX9_areEnds_42 (Or.inl rfl) h
      · skip
        have h := h.2 c9
        refine zV_iload_n (pc := 32) dX9_areEnds_32 rfl 1 rfl ?_
        refine zV_iload_n (pc := 33) dX9_areEnds_33 rfl 0 rfl ?_
        refine zV_icmp_eq (pc := 34) (tgt := 41) dX9_areEnds_34 (by decide) hrv4 hrv6 (fun c10 => ?_) (fun c10 => ?_)
        · skip
          have h := h.1 c10
          refine zV_iconst (pc := 41) dX9_areEnds_41 ?_
          exact zV_zret (pc := 42) rfl dX9_areEnds_42 (Or.inl rfl) h
        · skip
          have h := h.2 c10
          refine zV_iconst (pc := 37) dX9_areEnds_37 ?_
          refine zV_goto (pc := 38) (tgt := 42) dX9_areEnds_38 (by decide) ?_
          exact zV_zret (pc := 42) rfl dX9_areEnds_42 (Or.inr rfl) h
  · have c3 := b2i_fn c3
    have h := h.2 c3
    refine zV_iconst (pc := 10) dX9_areEnds_10 ?_
    exact zV_zret (pc := 11) rfl dX9_areEnds_11 (Or.inl rfl) h

theorem c_X9_areEnds {K : zCx} {d : Nat} {x0 : Int} {m0 : zM} (hx0 : inR x0) : zCt K (d + 2) mX9_areEnds [.int (iz x0)] m0 (fun r m1 => r = b2i (decide ((0 ≤ x0 ∧ x0 ≤ 99) ∧ Int.tdiv x0 10 < 5 ∧ Int.tmod x0 10 < 5 ∧ ¬ Int.tdiv x0 10 = Int.tmod x0 10)) ∧ m1 = m0) := by
  refine zCt.of (by decide) (Nat.le_of_ble_eq_true rfl) (vc_X9_areEnds_0 (d := d) x0 m0 hx0 (fun hm => ?_))
  (repeat' (first | exact zpred (hok _ _) (by assumption) | apply And.intro | intro _)) <;> first | rfl | exact (b2i_p (by omega)).symm | exact (b2i_n (by omega)).symm | exact b2i_iff (by constructor <;> intro _ <;> omega) | (subst_vars; omega) | omega | assumption | ((repeat' split) <;> first | rfl | omega)

set_option maxRecDepth 100000 in
set_option maxHeartbeats 4000000 in
theorem vc_X4_hasPart_0 {K : zCx} {d : Nat} (pl : Int) (x1 : Int) (m0 : zM) {Q : Int → zM → Prop} (hpl : zPl pl) (hx1 : inR x1) (h : zok m0 → inR ((m0.1 pl 6) - 1) ∧ (Q (b2i (decide (0 ≤ x1 ∧ x1 ≤ ((m0.1 pl 6) - 1)))) m0)) : zV K mX4_hasPart (d + 2) 0 [(0, rr K pl), (1, .int (iz x1))] [] m0 Q := by
  refine zV_ok (fun hm0 => ?_)
  have h := h hm0
  refine zV_iload_n (pc := 0) dX4_hasPart_0 rfl 1 rfl ?_
  refine zV_iconst (pc := 1) dX4_hasPart_1 ?_
  refine zV_aloadr_n (pc := 2) dX4_hasPart_2 rfl 0 rfl ?_
  refine zV_getI (pc := 3) dX4_hasPart_3 zfX4_65 (zPl_s0 hpl) rfl rfl ?_
  refine zV_iconst (pc := 6) dX4_hasPart_6 ?_
  refine zV_isub (pc := 7) dX4_hasPart_7 ?_
  obtain ⟨o1, h⟩ := h
  refine zV_callSNf (pc := 8) (mc := mX9_within) (As := [.int (iz x1), .int (iz 0), .int (iz ((m0.1 pl 6) - 1))]) (rest := []) dX4_hasPart_8 zcX4_71 ztX9_within rfl rfl (Nat.le_of_ble_eq_true rfl) (c_X9_within hx1 (inRd rfl) o1) (fun hr2 => ?_)
  exact zV_zret (pc := 11) rfl dX4_hasPart_11 (b2i_01 _) h

theorem c_X4_hasPart {K : zCx} {d : Nat} {pl : Int} {x1 : Int} {m0 : zM} (hpl : zPl pl) (hx1 : inR x1) (hok : zok m0) (hp3 : 0 ≤ m0.1 pl 6) : zCt K (d + 2) mX4_hasPart [rr K pl, .int (iz x1)] m0 (fun r m1 => r = b2i (decide (0 ≤ x1 ∧ x1 < m0.1 pl 6)) ∧ m1 = m0) := by
  refine zCt.of (by decide) (Nat.le_of_ble_eq_true rfl) (vc_X4_hasPart_0 (d := d) pl x1 m0 hpl hx1 (fun hm => ?_))
  (repeat' (first | exact zpred (hok _ _) (by assumption) | apply And.intro | intro _)) <;> first | rfl | exact (b2i_p (by omega)).symm | exact (b2i_n (by omega)).symm | exact b2i_iff (by constructor <;> intro _ <;> omega) | (subst_vars; omega) | omega | assumption | ((repeat' split) <;> first | rfl | omega)

set_option maxRecDepth 100000 in
set_option maxHeartbeats 4000000 in
theorem vc_X4_isLaw_0 {K : zCx} {d : Nat} (pl : Int) (x1 : Int) (m0 : zM) {Q : Int → zM → Prop} (hpl : zPl pl) (hx1 : inR x1) (h : zok m0 → (x1 < 0 → Q 0 m0) ∧ (¬ (x1 < 0) → ((m0.1 pl 7) ≤ (Int.tdiv x1 100) → Q 0 m0) ∧ (¬ ((m0.1 pl 7) ≤ (Int.tdiv x1 100)) → (5 < (Int.tmod (Int.tdiv x1 10) 10) → Q 0 m0) ∧ (¬ (5 < (Int.tmod (Int.tdiv x1 10) 10)) → Q 1 m0)))) : zV K mX4_isLaw (d + 1) 0 [(0, rr K pl), (1, .int (iz x1))] [] m0 Q := by
  refine zV_ok (fun hm0 => ?_)
  have h := h hm0
  refine zV_iload_n (pc := 0) dX4_isLaw_0 rfl 1 rfl ?_
  refine zV_if_lt (pc := 1) (tgt := 30) dX4_isLaw_1 (by decide) hx1 (fun c1 => ?_) (fun c1 => ?_)
  · skip
    have h := h.1 c1
    refine zV_iconst (pc := 30) dX4_isLaw_30 ?_
    exact zV_zret (pc := 31) rfl dX4_isLaw_31 (Or.inl rfl) h
  · skip
    have h := h.2 c1
    refine zV_iload_n (pc := 4) dX4_isLaw_4 rfl 1 rfl ?_
    refine zV_bipush (pc := 5) dX4_isLaw_5 (by decide) ?_
    refine zV_idiv (pc := 7) dX4_isLaw_7 hx1 (inRd rfl) (by decide) (fun q => absurd q.2 (by decide)) ?_
    refine zV_aloadr_n (pc := 8) dX4_isLaw_8 rfl 0 rfl ?_
    refine zV_getI (pc := 9) dX4_isLaw_9 zfX4_56 (zPl_s0 hpl) rfl rfl ?_
    refine zV_icmp_ge (pc := 12) (tgt := 30) dX4_isLaw_12 (by decide) (inR_tdiv hx1 (by decide)) (hm0 _ _) (fun c2 => ?_) (fun c2 => ?_)
    · skip
      have h := h.1 c2
      refine zV_iconst (pc := 30) dX4_isLaw_30 ?_
      exact zV_zret (pc := 31) rfl dX4_isLaw_31 (Or.inl rfl) h
    · skip
      have h := h.2 c2
      refine zV_iload_n (pc := 15) dX4_isLaw_15 rfl 1 rfl ?_
      refine zV_bipush (pc := 16) dX4_isLaw_16 (by decide) ?_
      refine zV_idiv (pc := 18) dX4_isLaw_18 hx1 (inRd rfl) (by decide) (fun q => absurd q.2 (by decide)) ?_
      refine zV_bipush (pc := 19) dX4_isLaw_19 (by decide) ?_
      refine zV_irem (pc := 21) dX4_isLaw_21 (inR_tdiv hx1 (by decide)) (inRd rfl) (by decide) (fun q => absurd q.2 (by decide)) ?_
      refine zV_iconst (pc := 22) dX4_isLaw_22 ?_
      refine zV_icmp_gt (pc := 23) (tgt := 30) dX4_isLaw_23 (by decide) (inR_tmod (inR_tdiv hx1 (by decide)) (by decide)) (inRd rfl) (fun c3 => ?_) (fun c3 => ?_)
      · skip
        have h := h.1 c3
        refine zV_iconst (pc := 30) dX4_isLaw_30 ?_
        exact zV_zret (pc := 31) rfl dX4_isLaw_31 (Or.inl rfl) h
      · skip
        have h := h.2 c3
        refine zV_iconst (pc := 26) dX4_isLaw_26 ?_
        refine zV_goto (pc := 27) (tgt := 31) dX4_isLaw_27 (by decide) ?_
        exact zV_zret (pc := 31) rfl dX4_isLaw_31 (Or.inr rfl) h

theorem c_X4_isLaw {K : zCx} {d : Nat} {pl : Int} {x1 : Int} {m0 : zM} (hpl : zPl pl) (hx1 : inR x1) (hok : zok m0) : zCt K (d + 1) mX4_isLaw [rr K pl, .int (iz x1)] m0 (fun r m1 => r = b2i (decide (0 ≤ x1 ∧ Int.tdiv x1 100 < m0.1 pl 7 ∧ Int.tmod (Int.tdiv x1 10) 10 ≤ 5)) ∧ m1 = m0) := by
  refine zCt.of (by decide) (Nat.le_of_ble_eq_true rfl) (vc_X4_isLaw_0 (d := d) pl x1 m0 hpl hx1 (fun hm => ?_))
  (repeat' (first | exact zpred (hok _ _) (by assumption) | apply And.intro | intro _)) <;> first | rfl | exact (b2i_p (by omega)).symm | exact (b2i_n (by omega)).symm | exact b2i_iff (by constructor <;> intro _ <;> omega) | (subst_vars; omega) | omega | assumption | ((repeat' split) <;> first | rfl | omega)

set_option maxRecDepth 100000 in
set_option maxHeartbeats 4000000 in
theorem vc_X3_isOpen_0 {K : zCx} {d : Nat} (q : Int) (m0 : zM) {Q : Int → zM → Prop} (hq : zsh q = some (6, 12)) (h : zok m0 → ((m0.1 q 11) = 0 → Q 0 m0) ∧ (¬ ((m0.1 q 11) = 0) → Q 1 m0)) : zV K mX3_isOpen (d + 1) 0 [(0, rr K q)] [] m0 Q := by
  refine zV_ok (fun hm0 => ?_)
  have h := h hm0
  refine zV_aloadr_n (pc := 0) dX3_isOpen_0 rfl 0 rfl ?_
  refine zV_getI (pc := 1) dX3_isOpen_1 zfX3_52 hq rfl rfl ?_
  refine zV_if_eq (pc := 4) (tgt := 11) dX3_isOpen_4 (by decide) (hm0 _ _) (fun c1 => ?_) (fun c1 => ?_)
  · skip
    have h := h.1 c1
    refine zV_iconst (pc := 11) dX3_isOpen_11 ?_
    exact zV_zret (pc := 12) rfl dX3_isOpen_12 (Or.inl rfl) h
  · skip
    have h := h.2 c1
    refine zV_iconst (pc := 7) dX3_isOpen_7 ?_
    refine zV_goto (pc := 8) (tgt := 12) dX3_isOpen_8 (by decide) ?_
    exact zV_zret (pc := 12) rfl dX3_isOpen_12 (Or.inr rfl) h

theorem c_X3_isOpen {K : zCx} {d : Nat} {q : Int} {m0 : zM} (hq : zsh q = some (6, 12)) (hok : zok m0) : zCt K (d + 1) mX3_isOpen [rr K q] m0 (fun r m1 => r = b2i (decide (¬ m0.1 q 11 = 0)) ∧ m1 = m0) := by
  refine zCt.of (by decide) (Nat.le_of_ble_eq_true rfl) (vc_X3_isOpen_0 (d := d) q m0 hq (fun hm => ?_))
  (repeat' (first | exact zpred (hok _ _) (by assumption) | apply And.intro | intro _)) <;> first | rfl | exact (b2i_p (by omega)).symm | exact (b2i_n (by omega)).symm | exact b2i_iff (by constructor <;> intro _ <;> omega) | (subst_vars; omega) | omega | assumption | ((repeat' split) <;> first | rfl | omega)

set_option maxRecDepth 100000 in
set_option maxHeartbeats 4000000 in
theorem vc_X3_thing_0 {K : zCx} {d : Nat} (q : Int) (m0 : zM) {Q : Int → zM → Prop} (hq : zsh q = some (6, 12)) (h : zok m0 → ((m0.1 q 4) = 0 → Q (m0.1 q 0) m0) ∧ (¬ ((m0.1 q 4) = 0) → Q 6 m0)) : zV K mX3_thing (d + 1) 0 [(0, rr K q)] [] m0 Q := by
  refine zV_ok (fun hm0 => ?_)
  have h := h hm0
  refine zV_aloadr_n (pc := 0) dX3_thing_0 rfl 0 rfl ?_
  refine zV_getI (pc := 1) dX3_thing_1 zfX3_24 hq rfl rfl ?_
  refine zV_if_ne (pc := 4) (tgt := 14) dX3_thing_4 (by decide) (hm0 _ _) (fun c1 => ?_) (fun c1 => ?_)
  · skip
    have h := h.2 c1
    refine zV_bipush (pc := 14) dX3_thing_14 (by decide) ?_
    exact zV_iret (pc := 16) rfl dX3_thing_16 (inRd rfl) h
  · have c1 := Classical.not_not.mp c1
    have h := h.1 c1
    refine zV_aloadr_n (pc := 7) dX3_thing_7 rfl 0 rfl ?_
    refine zV_getI (pc := 8) dX3_thing_8 zfX3_9 hq rfl rfl ?_
    refine zV_goto (pc := 11) (tgt := 16) dX3_thing_11 (by decide) ?_
    exact zV_iret (pc := 16) rfl dX3_thing_16 (hm0 _ _) h

theorem c_X3_thing {K : zCx} {d : Nat} {q : Int} {m0 : zM} (hq : zsh q = some (6, 12)) (hok : zok m0) : zCt K (d + 1) mX3_thing [rr K q] m0 (fun r m1 => r = (if m0.1 q 4 = 0 then m0.1 q 0 else 6) ∧ m1 = m0) := by
  refine zCt.of (by decide) (Nat.le_of_ble_eq_true rfl) (vc_X3_thing_0 (d := d) q m0 hq (fun hm => ?_))
  (repeat' (first | exact zpred (hok _ _) (by assumption) | apply And.intro | intro _)) <;> first | rfl | exact (b2i_p (by omega)).symm | exact (b2i_n (by omega)).symm | exact b2i_iff (by constructor <;> intro _ <;> omega) | (subst_vars; omega) | omega | assumption | ((repeat' split) <;> first | rfl | omega)

set_option maxRecDepth 100000 in
set_option maxHeartbeats 4000000 in
theorem vc_X2_refusal_0 {K : zCx} {d : Nat} (x1 : Int) (x2 : Int) (m0 : zM) {Q : Int → zM → Prop} (hx1 : inR x1) (hx2 : inR x2) (h : zok m0 → 0 ≤ x1 ∧ x1 < 4 ∧ ((0 ≤ (m0.1 88 x1) → ((m0.1 88 x1) = x2 → Q 0 m0) ∧ (¬ ((m0.1 88 x1) = x2) → Q (-13) m0)) ∧ (¬ (0 ≤ (m0.1 88 x1)) → Q (-11) m0))) : zV K mX2_refusal (d + 1) 0 [(0, rr K 87), (1, .int (iz x1)), (2, .int (iz x2))] [] m0 Q := by
  refine zV_ok (fun hm0 => ?_)
  have h := h hm0
  refine zV_aloadr_n (pc := 0) dX2_refusal_0 rfl 0 rfl ?_
  refine zV_getR (pc := 1) (b := 88) dX2_refusal_1 zfX2_9 rfl rfl rfl ?_
  refine zV_iload_n (pc := 4) dX2_refusal_4 rfl 1 rfl ?_
  obtain ⟨o1, o2, h⟩ := h
  refine zV_iald (pc := 5) dX2_refusal_5 rfl o1 o2 (inR_ix o1 o2 rfl) ?_
  refine zV_if_ge (pc := 6) (tgt := 12) dX2_refusal_6 (by decide) (hm0 _ _) (fun c3 => ?_) (fun c3 => ?_)
  · skip
    have h := h.1 c3
    refine zV_aloadr_n (pc := 12) dX2_refusal_12 rfl 0 rfl ?_
    refine zV_getR (pc := 13) (b := 88) dX2_refusal_13 zfX2_9 rfl rfl rfl ?_
    refine zV_iload_n (pc := 16) dX2_refusal_16 rfl 1 rfl ?_
    refine zV_iald (pc := 17) dX2_refusal_17 rfl o1 o2 (inR_ix o1 o2 rfl) ?_
    refine zV_iload_n (pc := 18) dX2_refusal_18 rfl 2 rfl ?_
    refine zV_icmp_ne (pc := 19) (tgt := 26) dX2_refusal_19 (by decide) (hm0 _ _) hx2 (fun c4 => ?_) (fun c4 => ?_)
    · skip
      have h := h.2 c4
      refine zV_bipush (pc := 26) dX2_refusal_26 (by decide) ?_
      exact zV_iret (pc := 28) rfl dX2_refusal_28 (inRd rfl) h
    · have c4 := Classical.not_not.mp c4
      have h := h.1 c4
      refine zV_iconst (pc := 22) dX2_refusal_22 ?_
      refine zV_goto (pc := 23) (tgt := 28) dX2_refusal_23 (by decide) ?_
      exact zV_iret (pc := 28) rfl dX2_refusal_28 (inRd rfl) h
  · skip
    have h := h.2 c3
    refine zV_bipush (pc := 9) dX2_refusal_9 (by decide) ?_
    exact zV_iret (pc := 11) rfl dX2_refusal_11 (inRd rfl) h

theorem c_X2_refusal {K : zCx} {d : Nat} {x1 : Int} {x2 : Int} {m0 : zM} (hx1 : inR x1) (hx2 : inR x2) (hok : zok m0) (hp3 : 0 ≤ x1) (hp4 : x1 < 4) : zCt K (d + 1) mX2_refusal [rr K 87, .int (iz x1), .int (iz x2)] m0 (fun r m1 => r = (if m0.1 88 x1 < 0 then -11 else if m0.1 88 x1 = x2 then 0 else -13) ∧ m1 = m0) := by
  refine zCt.of (by decide) (Nat.le_of_ble_eq_true rfl) (vc_X2_refusal_0 (d := d) x1 x2 m0 hx1 hx2 (fun hm => ?_))
  (repeat' (first | exact zpred (hok _ _) (by assumption) | apply And.intro | intro _)) <;> first | rfl | exact (b2i_p (by omega)).symm | exact (b2i_n (by omega)).symm | exact b2i_iff (by constructor <;> intro _ <;> omega) | (subst_vars; omega) | omega | assumption | ((repeat' split) <;> first | rfl | omega)

set_option maxRecDepth 100000 in
set_option maxHeartbeats 4000000 in
theorem vc_X2_hasItem_0 {K : zCx} {d : Nat} (x1 : Int) (x2 : Int) (m0 : zM) {Q : Int → zM → Prop} (hx1 : inR x1) (hx2 : inR x2) (h : zok m0 → 0 ≤ x1 ∧ x1 < 4 ∧ (inR ((m0.1 89 x1) - 1) ∧ (Q (b2i (decide (0 ≤ x2 ∧ x2 ≤ ((m0.1 89 x1) - 1)))) m0))) : zV K mX2_hasItem (d + 2) 0 [(0, rr K 87), (1, .int (iz x1)), (2, .int (iz x2))] [] m0 Q := by
  refine zV_ok (fun hm0 => ?_)
  have h := h hm0
  refine zV_iload_n (pc := 0) dX2_hasItem_0 rfl 2 rfl ?_
  refine zV_iconst (pc := 1) dX2_hasItem_1 ?_
  refine zV_aloadr_n (pc := 2) dX2_hasItem_2 rfl 0 rfl ?_
  refine zV_getR (pc := 3) (b := 89) dX2_hasItem_3 zfX2_15 rfl rfl rfl ?_
  refine zV_iload_n (pc := 6) dX2_hasItem_6 rfl 1 rfl ?_
  obtain ⟨o1, o2, h⟩ := h
  refine zV_iald (pc := 7) dX2_hasItem_7 rfl o1 o2 (inR_ix o1 o2 rfl) ?_
  refine zV_iconst (pc := 8) dX2_hasItem_8 ?_
  refine zV_isub (pc := 9) dX2_hasItem_9 ?_
  obtain ⟨o3, h⟩ := h
  refine zV_callSNf (pc := 10) (mc := mX9_within) (As := [.int (iz x2), .int (iz 0), .int (iz ((m0.1 89 x1) - 1))]) (rest := []) dX2_hasItem_10 zcX2_30 ztX9_within rfl rfl (Nat.le_of_ble_eq_true rfl) (c_X9_within hx2 (inRd rfl) o3) (fun hr4 => ?_)
  exact zV_zret (pc := 13) rfl dX2_hasItem_13 (b2i_01 _) h

theorem c_X2_hasItem {K : zCx} {d : Nat} {x1 : Int} {x2 : Int} {m0 : zM} (hx1 : inR x1) (hx2 : inR x2) (hok : zok m0) (hp3 : 0 ≤ x1) (hp4 : x1 < 4) (hp5 : 0 ≤ m0.1 89 x1) : zCt K (d + 2) mX2_hasItem [rr K 87, .int (iz x1), .int (iz x2)] m0 (fun r m1 => r = b2i (decide (0 ≤ x2 ∧ x2 < m0.1 89 x1)) ∧ m1 = m0) := by
  refine zCt.of (by decide) (Nat.le_of_ble_eq_true rfl) (vc_X2_hasItem_0 (d := d) x1 x2 m0 hx1 hx2 (fun hm => ?_))
  (repeat' (first | exact zpred (hok _ _) (by assumption) | apply And.intro | intro _)) <;> first | rfl | exact (b2i_p (by omega)).symm | exact (b2i_n (by omega)).symm | exact b2i_iff (by constructor <;> intro _ <;> omega) | (subst_vars; omega) | omega | assumption | ((repeat' split) <;> first | rfl | omega)

set_option maxRecDepth 100000 in
set_option maxHeartbeats 4000000 in
theorem vc_X2_itemAt_0 {K : zCx} {d : Nat} (x1 : Int) (x2 : Int) (m0 : zM) {Q : Int → zM → Prop} (hx1 : inR x1) (hx2 : inR x2) (h : zok m0 → 0 ≤ ((x1 * 40) + x2) ∧ ((x1 * 40) + x2) < 160 ∧ (Q (m0.1 90 ((x1 * 40) + x2)) m0)) : zV K mX2_itemAt (d + 1) 0 [(0, rr K 87), (1, .int (iz x1)), (2, .int (iz x2))] [] m0 Q := by
  refine zV_ok (fun hm0 => ?_)
  have h := h hm0
  refine zV_aloadr_n (pc := 0) dX2_itemAt_0 rfl 0 rfl ?_
  refine zV_getR (pc := 1) (b := 90) dX2_itemAt_1 zfX2_18 rfl rfl rfl ?_
  refine zV_iload_n (pc := 4) dX2_itemAt_4 rfl 1 rfl ?_
  refine zV_bipush (pc := 5) dX2_itemAt_5 (by decide) ?_
  refine zV_imul (pc := 7) dX2_itemAt_7 ?_
  refine zV_iload_n (pc := 8) dX2_itemAt_8 rfl 2 rfl ?_
  refine zV_iadd (pc := 9) dX2_itemAt_9 ?_
  obtain ⟨o1, o2, h⟩ := h
  refine zV_iald (pc := 10) dX2_itemAt_10 rfl o1 o2 (inR_ix o1 o2 rfl) ?_
  exact zV_iret (pc := 11) rfl dX2_itemAt_11 (hm0 _ _) h

theorem c_X2_itemAt {K : zCx} {d : Nat} {x1 : Int} {x2 : Int} {m0 : zM} (hx2 : inR x2) (hx1 : inR x1) (hok : zok m0) (hp3 : 0 ≤ x1 * 40 + x2) (hp4 : x1 * 40 + x2 < 160) : zCt K (d + 1) mX2_itemAt [rr K 87, .int (iz x1), .int (iz x2)] m0 (fun r m1 => r = (m0.1 90 (x1 * 40 + x2)) ∧ m1 = m0) := by
  refine zCt.of (by decide) (Nat.le_of_ble_eq_true rfl) (vc_X2_itemAt_0 (d := d) x1 x2 m0 hx1 hx2 (fun hm => ?_))
  (repeat' (first | exact zpred (hok _ _) (by assumption) | apply And.intro | intro _)) <;> first | rfl | exact (b2i_p (by omega)).symm | exact (b2i_n (by omega)).symm | exact b2i_iff (by constructor <;> intro _ <;> omega) | (subst_vars; omega) | omega | assumption | ((repeat' split) <;> first | rfl | omega)

set_option maxRecDepth 100000 in
set_option maxHeartbeats 4000000 in
theorem vc_X2_holdsRow_0 {K : zCx} {d : Nat} (x1 : Int) (m0 : zM) {Q : Int → zM → Prop} (hx1 : inR x1) (h : zok m0 → 0 ≤ x1 ∧ x1 < 4 ∧ (((m0.1 92 x1) < 0 → Q 0 m0) ∧ (¬ ((m0.1 92 x1) < 0) → Q 1 m0))) : zV K mX2_holdsRow (d + 1) 0 [(0, rr K 87), (1, .int (iz x1))] [] m0 Q := by
  refine zV_ok (fun hm0 => ?_)
  have h := h hm0
  refine zV_aloadr_n (pc := 0) dX2_holdsRow_0 rfl 0 rfl ?_
  refine zV_getR (pc := 1) (b := 92) dX2_holdsRow_1 zfX2_24 rfl rfl rfl ?_
  refine zV_iload_n (pc := 4) dX2_holdsRow_4 rfl 1 rfl ?_
  obtain ⟨o1, o2, h⟩ := h
  refine zV_iald (pc := 5) dX2_holdsRow_5 rfl o1 o2 (inR_ix o1 o2 rfl) ?_
  refine zV_if_lt (pc := 6) (tgt := 13) dX2_holdsRow_6 (by decide) (hm0 _ _) (fun c3 => ?_) (fun c3 => ?_)
  · skip
    have h := h.1 c3
    refine zV_iconst (pc := 13) dX2_holdsRow_13 ?_
    exact zV_zret (pc := 14) rfl dX2_holdsRow_14 (Or.inl rfl) h
  · skip
    have h := h.2 c3
    refine zV_iconst (pc := 9) dX2_holdsRow_9 ?_
    refine zV_goto (pc := 10) (tgt := 14) dX2_holdsRow_10 (by decide) ?_
    exact zV_zret (pc := 14) rfl dX2_holdsRow_14 (Or.inr rfl) h

theorem c_X2_holdsRow {K : zCx} {d : Nat} {x1 : Int} {m0 : zM} (hx1 : inR x1) (hok : zok m0) (hp2 : 0 ≤ x1) (hp3 : x1 < 4) : zCt K (d + 1) mX2_holdsRow [rr K 87, .int (iz x1)] m0 (fun r m1 => r = b2i (decide (0 ≤ m0.1 92 x1)) ∧ m1 = m0) := by
  refine zCt.of (by decide) (Nat.le_of_ble_eq_true rfl) (vc_X2_holdsRow_0 (d := d) x1 m0 hx1 (fun hm => ?_))
  (repeat' (first | exact zpred (hok _ _) (by assumption) | apply And.intro | intro _)) <;> first | rfl | exact (b2i_p (by omega)).symm | exact (b2i_n (by omega)).symm | exact b2i_iff (by constructor <;> intro _ <;> omega) | (subst_vars; omega) | omega | assumption | ((repeat' split) <;> first | rfl | omega)

set_option maxRecDepth 100000 in
set_option maxHeartbeats 4000000 in
theorem vc_X1_stateNow_0 {K : zCx} {d : Nat}  (m0 : zM) {Q : Int → zM → Prop}  (h : zok m0 → inR (((((m0.1 40 2) * 21) + (m0.1 40 3)) * 21) + (m0.1 40 4)) ∧ (Q (((((m0.1 40 2) * 21) + (m0.1 40 3)) * 21) + (m0.1 40 4)) m0)) : zV K mX1_stateNow (d + 1) 0 [(0, rr K 39)] [] m0 Q := by
  refine zV_ok (fun hm0 => ?_)
  have h := h hm0
  refine zV_aloadr_n (pc := 0) dX1_stateNow_0 rfl 0 rfl ?_
  refine zV_getR (pc := 1) (b := 40) dX1_stateNow_1 zfX1_9 rfl rfl rfl ?_
  refine zV_iconst (pc := 4) dX1_stateNow_4 ?_
  refine zV_iald (pc := 5) dX1_stateNow_5 rfl (by decide) (by decide) (inRd rfl) ?_
  refine zV_bipush (pc := 6) dX1_stateNow_6 (by decide) ?_
  refine zV_imul (pc := 8) dX1_stateNow_8 ?_
  refine zV_aloadr_n (pc := 9) dX1_stateNow_9 rfl 0 rfl ?_
  refine zV_getR (pc := 10) (b := 40) dX1_stateNow_10 zfX1_9 rfl rfl rfl ?_
  refine zV_iconst (pc := 13) dX1_stateNow_13 ?_
  refine zV_iald (pc := 14) dX1_stateNow_14 rfl (by decide) (by decide) (inRd rfl) ?_
  refine zV_iadd (pc := 15) dX1_stateNow_15 ?_
  refine zV_bipush (pc := 16) dX1_stateNow_16 (by decide) ?_
  refine zV_imul (pc := 18) dX1_stateNow_18 ?_
  refine zV_aloadr_n (pc := 19) dX1_stateNow_19 rfl 0 rfl ?_
  refine zV_getR (pc := 20) (b := 40) dX1_stateNow_20 zfX1_9 rfl rfl rfl ?_
  refine zV_iconst (pc := 23) dX1_stateNow_23 ?_
  refine zV_iald (pc := 24) dX1_stateNow_24 rfl (by decide) (by decide) (inRd rfl) ?_
  refine zV_iadd (pc := 25) dX1_stateNow_25 ?_
  obtain ⟨o1, h⟩ := h
  exact zV_iret (pc := 26) rfl dX1_stateNow_26 o1 h

theorem c_X1_stateNow {K : zCx} {d : Nat}  {m0 : zM} (hok : zok m0) (hp1 : 0 ≤ m0.1 40 2 ∧ m0.1 40 2 ≤ 20) (hp2 : 0 ≤ m0.1 40 3 ∧ m0.1 40 3 ≤ 20) (hp3 : 0 ≤ m0.1 40 4 ∧ m0.1 40 4 ≤ 20) : zCt K (d + 1) mX1_stateNow [rr K 39] m0 (fun r m1 => r = (((m0.1 40 2 * 21 + m0.1 40 3) * 21 + m0.1 40 4)) ∧ m1 = m0) := by
  refine zCt.of (by decide) (Nat.le_of_ble_eq_true rfl) (vc_X1_stateNow_0 (d := d)  m0  (fun hm => ?_))
  (repeat' (first | exact zpred (hok _ _) (by assumption) | apply And.intro | intro _)) <;> first | rfl | exact (b2i_p (by omega)).symm | exact (b2i_n (by omega)).symm | exact b2i_iff (by constructor <;> intro _ <;> omega) | (subst_vars; omega) | omega | assumption | ((repeat' split) <;> first | rfl | omega)

set_option maxRecDepth 100000 in
set_option maxHeartbeats 4000000 in
theorem vc_X1_modeOf_0 {K : zCx} {d : Nat} (q0 : Int) (m0 : zM) {Q : Int → zM → Prop} (hq0 : zsh q0 = some (6, 12)) (h : zok m0 → ((m0.1 q0 0) = 4 → Q 0 m0) ∧ (¬ ((m0.1 q0 0) = 4) → ((m0.1 q0 4) = 1 → Q 0 m0) ∧ (¬ ((m0.1 q0 4) = 1) → ((m0.1 q0 4) = 2 → Q 4 m0) ∧ (¬ ((m0.1 q0 4) = 2) → ((m0.1 q0 0) = 5 → Q 3 m0) ∧ (¬ ((m0.1 q0 0) = 5) → ((m0.1 q0 0) = 1 → Q 1 m0) ∧ (¬ ((m0.1 q0 0) = 1) → Q 2 m0)))))) : zV K mX1_modeOf (d + 1) 0 [(0, rr K q0)] [] m0 Q := by
  refine zV_ok (fun hm0 => ?_)
  have h := h hm0
  refine zV_aloadr_n (pc := 0) dX1_modeOf_0 rfl 0 rfl ?_
  refine zV_getI (pc := 1) dX1_modeOf_1 zfX1_86 hq0 rfl rfl ?_
  refine zV_iconst (pc := 4) dX1_modeOf_4 ?_
  refine zV_icmp_eq (pc := 5) (tgt := 16) dX1_modeOf_5 (by decide) (hm0 _ _) (inRd rfl) (fun c1 => ?_) (fun c1 => ?_)
  · skip
    have h := h.1 c1
    refine zV_iconst (pc := 16) dX1_modeOf_16 ?_
    exact zV_iret (pc := 17) rfl dX1_modeOf_17 (inRd rfl) h
  · skip
    have h := h.2 c1
    refine zV_aloadr_n (pc := 8) dX1_modeOf_8 rfl 0 rfl ?_
    refine zV_getI (pc := 9) dX1_modeOf_9 zfX1_89 hq0 rfl rfl ?_
    refine zV_iconst (pc := 12) dX1_modeOf_12 ?_
    refine zV_icmp_ne (pc := 13) (tgt := 18) dX1_modeOf_13 (by decide) (hm0 _ _) (inRd rfl) (fun c2 => ?_) (fun c2 => ?_)
    · skip
      have h := h.2 c2
      refine zV_aloadr_n (pc := 18) dX1_modeOf_18 rfl 0 rfl ?_
      refine zV_getI (pc := 19) dX1_modeOf_19 zfX1_89 hq0 rfl rfl ?_
      refine zV_iconst (pc := 22) dX1_modeOf_22 ?_
      refine zV_icmp_ne (pc := 23) (tgt := 28) dX1_modeOf_23 (by decide) (hm0 _ _) (inRd rfl) (fun c3 => ?_) (fun c3 => ?_)
      · skip
        have h := h.2 c3
        refine zV_aloadr_n (pc := 28) dX1_modeOf_28 rfl 0 rfl ?_
        refine zV_getI (pc := 29) dX1_modeOf_29 zfX1_86 hq0 rfl rfl ?_
        refine zV_iconst (pc := 32) dX1_modeOf_32 ?_
        refine zV_icmp_ne (pc := 33) (tgt := 38) dX1_modeOf_33 (by decide) (hm0 _ _) (inRd rfl) (fun c4 => ?_) (fun c4 => ?_)
        · skip
          have h := h.2 c4
          refine zV_aloadr_n (pc := 38) dX1_modeOf_38 rfl 0 rfl ?_
          refine zV_getI (pc := 39) dX1_modeOf_39 zfX1_86 hq0 rfl rfl ?_
          refine zV_iconst (pc := 42) dX1_modeOf_42 ?_
          refine zV_icmp_ne (pc := 43) (tgt := 50) dX1_modeOf_43 (by decide) (hm0 _ _) (inRd rfl) (fun c5 => ?_) (fun c5 => ?_)
          · skip
            have h := h.2 c5
            refine zV_iconst (pc := 50) dX1_modeOf_50 ?_
            exact zV_iret (pc := 51) rfl dX1_modeOf_51 (inRd rfl) h
          · have c5 := Classical.not_not.mp c5
            have h := h.1 c5
            refine zV_iconst (pc := 46) dX1_modeOf_46 ?_
            refine zV_goto (pc := 47) (tgt := 51) dX1_modeOf_47 (by decide) ?_
            exact zV_iret (pc := 51) rfl dX1_modeOf_51 (inRd rfl) h
        · have c4 := Classical.not_not.mp c4
          have h := h.1 c4
          refine zV_iconst (pc := 36) dX1_modeOf_36 ?_
          exact zV_iret (pc := 37) rfl dX1_modeOf_37 (inRd rfl) h
      · have c3 := Classical.not_not.mp c3
        have h := h.1 c3
        refine zV_iconst (pc := 26) dX1_modeOf_26 ?_
        exact zV_iret (pc := 27) rfl dX1_modeOf_27 (inRd rfl) h
    · have c2 := Classical.not_not.mp c2
      have h := h.1 c2
      refine zV_iconst (pc := 16) dX1_modeOf_16 ?_
      exact zV_iret (pc := 17) rfl dX1_modeOf_17 (inRd rfl) h

theorem c_X1_modeOf {K : zCx} {d : Nat} {q0 : Int} {m0 : zM} (hq0 : zsh q0 = some (6, 12)) (hok : zok m0) : zCt K (d + 1) mX1_modeOf [rr K q0] m0 (fun r m1 => r = (if m0.1 q0 0 = 4 ∨ m0.1 q0 4 = 1 then 0 else if m0.1 q0 4 = 2 then 4 else if m0.1 q0 0 = 5 then 3 else if m0.1 q0 0 = 1 then 1 else 2) ∧ m1 = m0) := by
  refine zCt.of (by decide) (Nat.le_of_ble_eq_true rfl) (vc_X1_modeOf_0 (d := d) q0 m0 hq0 (fun hm => ?_))
  (repeat' (first | exact zpred (hok _ _) (by assumption) | apply And.intro | intro _)) <;> first | rfl | exact (b2i_p (by omega)).symm | exact (b2i_n (by omega)).symm | exact b2i_iff (by constructor <;> intro _ <;> omega) | (subst_vars; omega) | omega | assumption | ((repeat' split) <;> first | rfl | omega)

set_option maxRecDepth 100000 in
set_option maxHeartbeats 4000000 in
theorem vc_X5_isDigit_0 {K : zCx} {d : Nat} (x0 : Int) (m0 : zM) {Q : Int → zM → Prop} (hx0 : inR x0) (h : zok m0 → Q (b2i (decide (48 ≤ x0 ∧ x0 ≤ 57))) m0) : zV K mX5_isDigit (d + 2) 0 [(0, .int (iz x0))] [] m0 Q := by
  refine zV_ok (fun hm0 => ?_)
  have h := h hm0
  refine zV_iload_n (pc := 0) dX5_isDigit_0 rfl 0 rfl ?_
  refine zV_bipush (pc := 1) dX5_isDigit_1 (by decide) ?_
  refine zV_bipush (pc := 3) dX5_isDigit_3 (by decide) ?_
  refine zV_callSNf (pc := 5) (mc := mX9_within) (As := [.int (iz x0), .int (iz 48), .int (iz 57)]) (rest := []) dX5_isDigit_5 zcX5_103 ztX9_within rfl rfl (Nat.le_of_ble_eq_true rfl) (c_X9_within hx0 (inRd rfl) (inRd rfl)) (fun hr1 => ?_)
  exact zV_zret (pc := 8) rfl dX5_isDigit_8 (b2i_01 _) h

theorem c_X5_isDigit {K : zCx} {d : Nat} {x0 : Int} {m0 : zM} (hx0 : inR x0) : zCt K (d + 2) mX5_isDigit [.int (iz x0)] m0 (fun r m1 => r = b2i (decide (48 ≤ x0 ∧ x0 ≤ 57)) ∧ m1 = m0) := by
  refine zCt.of (by decide) (Nat.le_of_ble_eq_true rfl) (vc_X5_isDigit_0 (d := d) x0 m0 hx0 (fun hm => ?_))
  (repeat' (first | exact zpred (hok _ _) (by assumption) | apply And.intro | intro _)) <;> first | rfl | exact (b2i_p (by omega)).symm | exact (b2i_n (by omega)).symm | exact b2i_iff (by constructor <;> intro _ <;> omega) | (subst_vars; omega) | omega | assumption | ((repeat' split) <;> first | rfl | omega)

set_option maxRecDepth 100000 in
set_option maxHeartbeats 4000000 in
theorem vc_X5_isLetter_0 {K : zCx} {d : Nat} (x0 : Int) (m0 : zM) {Q : Int → zM → Prop} (hx0 : inR x0) (h : zok m0 → Q (b2i (decide (97 ≤ x0 ∧ x0 ≤ 122))) m0) : zV K mX5_isLetter (d + 2) 0 [(0, .int (iz x0))] [] m0 Q := by
  refine zV_ok (fun hm0 => ?_)
  have h := h hm0
  refine zV_iload_n (pc := 0) dX5_isLetter_0 rfl 0 rfl ?_
  refine zV_bipush (pc := 1) dX5_isLetter_1 (by decide) ?_
  refine zV_bipush (pc := 3) dX5_isLetter_3 (by decide) ?_
  refine zV_callSNf (pc := 5) (mc := mX9_within) (As := [.int (iz x0), .int (iz 97), .int (iz 122)]) (rest := []) dX5_isLetter_5 zcX5_103 ztX9_within rfl rfl (Nat.le_of_ble_eq_true rfl) (c_X9_within hx0 (inRd rfl) (inRd rfl)) (fun hr1 => ?_)
  exact zV_zret (pc := 8) rfl dX5_isLetter_8 (b2i_01 _) h

theorem c_X5_isLetter {K : zCx} {d : Nat} {x0 : Int} {m0 : zM} (hx0 : inR x0) : zCt K (d + 2) mX5_isLetter [.int (iz x0)] m0 (fun r m1 => r = b2i (decide (97 ≤ x0 ∧ x0 ≤ 122)) ∧ m1 = m0) := by
  refine zCt.of (by decide) (Nat.le_of_ble_eq_true rfl) (vc_X5_isLetter_0 (d := d) x0 m0 hx0 (fun hm => ?_))
  (repeat' (first | exact zpred (hok _ _) (by assumption) | apply And.intro | intro _)) <;> first | rfl | exact (b2i_p (by omega)).symm | exact (b2i_n (by omega)).symm | exact b2i_iff (by constructor <;> intro _ <;> omega) | (subst_vars; omega) | omega | assumption | ((repeat' split) <;> first | rfl | omega)
