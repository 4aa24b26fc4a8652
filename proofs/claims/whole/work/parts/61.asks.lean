/-! ===== calls that only ask: both sides ===== -/
section ASK
variable {K : zCx} {d : Nat} {n : Int} {m : zM}
theorem o_flow {p s c : Int} (ip : inR p) (is : inR s) (ic : inR c) (h : zInv n m) (hn : 0 ≤ n ∧ n ≤ 100) : zOk K (d + 12) mX9_flow mX10_flow [.int (iz p), .int (iz s), .int (iz c)] n m :=
  zOk.q (F := zqFlow (pv m.1) p s c) (N := 0) h hn (by omega) ((c_X9_flow (d := d + 7) ip is ic h.1.1.1 h.1.2).mono (fun r m1 q => ⟨q.1, q.2.mono zXS_XX⟩))
    (fun m1 _ e hC _ => (c_X10_flow (d := d + 9) ip is ic e h.1.1.1 hC).mono (fun r m2 q => ⟨q.1, q.2.2.d⟩))
theorem o_tick {s c : Int} (is : inR s) (ic : inR c) (h : zInv n m) (hn : 0 ≤ n ∧ n ≤ 100) : zOk K (d + 12) mX9_tick mX10_tick [.int (iz s), .int (iz c)] n m :=
  zOk.q (F := zqTick (pv m.1) s c) (N := 0) h hn (by omega) ((c_X9_tick (d := d + 7) is ic h.1.1.1 h.1.2).mono (fun r m1 q => ⟨q.1, q.2.mono zXS_XX⟩))
    (fun m1 _ e hC _ => (c_X10_tick (d := d + 8) is ic e h.1.1.1 hC).mono (fun r m2 q => ⟨q.1, q.2.d⟩))
theorem o_goes {c w : Int} (ic : inR c) (iw : inR w) (h : zInv n m) (hn : 0 ≤ n ∧ n ≤ 100) : zOk K (d + 12) mX9_goes mX10_goes [.int (iz c), .int (iz w)] n m :=
  zOk.q (F := zqGoes (pv m.1) c w) (N := 1) h hn (by omega) ((c_X9_goes (d := d + 7) ic iw h.1.1.1 h.1.2).mono (fun r m1 q => ⟨q.1, q.2.mono zXS_XX⟩))
    (fun m1 _ e hC hB => (c_X10_goes (d := d + 7) ic iw e h.1.1.1 hC (by omega)).mono (fun r m2 q => ⟨q.1, q.2.d⟩))
theorem o_rests {c : Int} (ic : inR c) (h : zInv n m) (hn : 0 ≤ n ∧ n ≤ 100) : zOk K (d + 12) mX9_rests mX10_rests [.int (iz c)] n m :=
  zOk.q (F := zqRests (pv m.1) c) (N := 0) h hn (by omega) ((c_X9_rests (d := d + 2) ic h.1.1.1 h.1.2).mono (fun r m1 q => ⟨q.1, q.2.mono zXR_XX⟩))
    (fun m1 _ e hC _ => (c_X10_rests (d := d + 8) ic e h.1.1.1 hC).mono (fun r m2 q => ⟨q.1, q.2.d⟩))
theorem o_restAt {c i : Int} (ic : inR c) (ii : inR i) (h : zInv n m) (hn : 0 ≤ n ∧ n ≤ 100) : zOk K (d + 12) mX9_restAt mX10_restAt [.int (iz c), .int (iz i)] n m :=
  zOk.q (F := zqRestAt (pv m.1) c i) (N := 0) h hn (by omega) ((c_X9_restAt (d := d + 2) ic ii h.1.1.1 h.1.2).mono (fun r m1 q => ⟨q.1, q.2.mono zXR_XX⟩))
    (fun m1 _ e hC _ => (c_X10_restAt (d := d + 8) ic ii e h.1.1.1 hC).mono (fun r m2 q => ⟨q.1, q.2.d⟩))
theorem o_gain {w c : Int} (iw : inR w) (ic : inR c) (h : zInv n m) (hn : 0 ≤ n ∧ n ≤ 100) : zOk K (d + 12) mX9_gain mX10_gain [.int (iz w), .int (iz c)] n m :=
  zOk.q (F := zqGain (pv m.1) w c) (N := 2) h hn (by omega) ((c_X9_gain (d := d + 7) iw ic h.1.1.1 h.1.2).mono (fun r m1 q => ⟨q.1, q.2.mono zXS_XX⟩))
    (fun m1 _ e hC hB => (c_X10_gain (d := d + 7) iw ic e h.1.1.1 hC (by omega)).mono (fun r m2 q => ⟨q.1, q.2.d⟩))
theorem o_missed (h : zInv n m) (hn : 0 ≤ n ∧ n ≤ 100) : zOk K (d + 12) mX9_missed mX10_missed [] n m :=
  zOk.q (F := zmiss (pv m.1)) (N := 9) h hn (by omega) ((c_X9_missed (d := d + 5) h.1.1.1 h.1.1.2.1 h.1.2).mono (fun r m1 q => ⟨q.1, q.2.mono zXS_XX⟩))
    (fun m1 _ e hC hB => (c_X10_missed (d := d + 5) e h.1.1.1 h.1.1.2.1 hC (by omega)).mono (fun r m2 q => ⟨q.1, q.2.d⟩))
theorem o_worst {w : Int} (iw : inR w) (h : zInv n m) (hn : 0 ≤ n ∧ n ≤ 100) : zOk K (d + 12) mX9_worst mX10_worst [.int (iz w)] n m :=
  zOk.q (F := zqWorst (pv m.1) w) (N := 9) h hn (by omega) ((c_X9_worst (d := d + 5) iw h.1.1.1 h.1.1.2.1 h.1.2).mono (fun r m1 q => ⟨q.1, q.2.mono zXS_XX⟩))
    (fun m1 _ e hC hB => (c_X10_worst (d := d + 6) iw e h.1.1.1 h.1.1.2.1 hC (by omega)).mono (fun r m2 q => ⟨q.1, q.2.d⟩))
theorem o_holds {c : Int} (ic : inR c) (h : zInv n m) (hn : 0 ≤ n ∧ n ≤ 100) : zOk K (d + 12) mX9_holds mX10_holds [.int (iz c)] n m :=
  zOk.q (F := zqHolds (pv m.1) c) (N := 9) h hn (by omega) ((c_X9_holds (d := d + 6) ic h.1.1.1 h.1.1.2.1 h.1.2).mono (fun r m1 q => ⟨q.1, q.2.mono zXS_XX⟩))
    (fun m1 _ e hC hB => (c_X10_holds (d := d + 6) ic e h.1.1.1 h.1.1.2.1 hC (by omega)).mono (fun r m2 q => ⟨q.1, q.2.d⟩))
theorem o_sizing {w : Int} (iw : inR w) (h : zInv n m) (hn : 0 ≤ n ∧ n ≤ 100) : zOk K (d + 12) mX9_sizing mX10_sizing [.int (iz w)] n m :=
  zOk.q (F := zqSizing (pv m.1) w) (N := 2400) h hn (by omega) (c_X9_sizing (d := d + 4) iw h.1.1.1 h.1.1.2.1 h.1.1.2.2 h.1.2)
    (fun m1 _ e hC hB => c_X10_sizing (d := d + 4) iw e h.1.1.1 h.1.1.2.1 h.1.1.2.2 hC hB)
theorem o_far {p up : Int} (ip : inR p) (iu : inR up) (h : zInv n m) (hn : 0 ≤ n ∧ n ≤ 100) : zOk K (d + 12) mX9_far mX10_far [.int (iz p), .int (iz up)] n m :=
  zOk.q (F := zqFar (pv m.1) p up) (N := 200) h hn (by omega) (c_X9_far (d := d + 4) ip iu h.1.1.1 h.1.1.2.1 h.1.2)
    (fun m1 _ e hC hB => c_X10_far (d := d + 5) ip iu e h.1.1.1 h.1.1.2.1 hC hB)
theorem o_falls {p how : Int} (ip : inR p) (ih : inR how) (h : zInv n m) (hn : 0 ≤ n ∧ n ≤ 100) : zOk K (d + 12) mX9_falls mX10_falls [.int (iz p), .int (iz how)] n m :=
  zOk.q (F := zqFalls (pv m.1) p how) (N := 200) h hn (by omega) (c_X9_falls (d := d + 4) ip ih h.1.1.1 h.1.1.2.1 h.1.2)
    (fun m1 _ e hC hB => c_X10_falls (d := d + 5) ip ih e h.1.1.1 h.1.1.2.1 hC hB)
theorem o_help (h : zInv n m) (hn : 0 ≤ n ∧ n ≤ 100) : zOk K (d + 12) mX9_help mX10_help [] n m :=
  zOk.q (F := zqHelp (pv m.1)) (N := 5000) h hn (by omega) (c_X9_help (d := d + 3) h.1.1.1 h.1.1.2.1 h.1.2)
    (fun m1 _ e hC hB => c_X10_help (d := d + 4) e h.1.1.1 h.1.1.2.1 hC hB)
theorem o_which (h : zInv n m) (hn : 0 ≤ n ∧ n ≤ 100) : zOk K (d + 12) mX9_which mX10_which [] n m :=
  zOk.q (F := zqWhich (pv m.1)) (N := 10000) h hn (by omega) (c_X9_which (d := d + 4) h.1.1.1 h.1.1.2.1 h.1.2)
    (fun m1 _ e hC hB => c_X10_which (d := d + 5) e h.1.1.1 hC hB)
theorem o_judge (h : zInv n m) (hn : 0 ≤ n ∧ n ≤ 100) : zOk K (d + 12) mX9_judge mX10_judge [] n m := by
  obtain ⟨r1, r2, r3⟩ := h.2.2.2.1
  have eN : (((m.1 98 42).toNat : Nat) : Int) = m.1 98 42 := by omega
  refine zOk.q (F := zjl (pv m.1) (fun j => m.1 120 (2 * (j : Int))) (fun j => m.1 120 (2 * (j : Int) + 1)) (m.1 98 42).toNat (m.1 98 42).toNat 0) (N := 9) h hn (by omega) (c_X9_judge (d := d + 4) (N := (m.1 98 42).toNat) h.1.1.1 h.1.1.2.1 h.1.1.2.2 h.1.2 (by omega) (by rw [eN]; exact r1) (fun j hj => r3 (j : Int) (by omega) (by omega)))
    (fun m1 f e hC hB => c_X10_judge (d := d + 5) (N := (m.1 98 42).toNat) e h.1.1.1 h.1.1.2.1 h.1.1.2.2 hC hB (by omega) ?_ (fun j hj => ?_))
  · rw [eN, f.1 _ _ (by unfold zXX; omega)]
  · rw [f.1 _ _ (by unfold zXX; omega), f.1 _ _ (by unfold zXX; omega)]
    exact ⟨rfl, rfl⟩
/-! calls that read a number -/
theorem zGd.rf {m : zM} (h : zCame m) : zGd 0 m m := (zGo.rf h).d
theorem o_row {i w : Int} (ii : inR i) (iw : inR w) (h : zInv n m) (hn : 0 ≤ n ∧ n ≤ 100) : zOk K (d + 12) mX9_row mX10_row [.int (iz i), .int (iz w)] n m := by
  obtain ⟨r1, r2, r3⟩ := h.2.2.2.1
  refine zOk.q (F := if (0 ≤ i ∧ i < m.1 98 42) ∧ (0 ≤ w ∧ w ≤ 1) then m.1 120 (2 * i + w) else -9) (N := 0) h hn (by omega) ?_ (fun m1 f e hC hB => ?_)
  · refine zCt.of (by decide) (Nat.le_of_ble_eq_true rfl) (vc_X9_row_0 (d := d + 10) i w m ii iw (fun _ => ?_))
    rw [r1]
    refine ⟨inR_b (A := 1000) (by omega) (by omega) rfl, fun q1 => ⟨fun q2 => ⟨fun z => ⟨by omega, by omega, ?_, zFl.rf⟩, fun z => ⟨by omega, by omega, ?_, zFl.rf⟩⟩, fun q2 => ⟨(if_neg (fun y => q2 y.2)).symm, zFl.rf⟩⟩, fun q1 => ⟨(if_neg (fun y => q1 ⟨y.1.1, by omega⟩)).symm, zFl.rf⟩⟩
    · rw [if_pos ⟨⟨q1.1, by omega⟩, q2⟩, (r3 i (by omega) (by omega)).1, z, Int.add_zero]
    · rw [if_pos ⟨⟨q1.1, by omega⟩, q2⟩, (r3 i (by omega) (by omega)).2, show w = 1 by omega]
  · refine zCt.of (by decide) (Nat.le_of_ble_eq_true rfl) (vc_X10_row_0 (d := d + 9) i w m1 ii iw (fun _ => ?_))
    rw [f.1 98 42 (by unfold zXX; omega)]
    refine ⟨r2.1, fun q => ⟨by omega, by omega, ?_, zGd.rf hC⟩, fun q => ⟨(if_neg q).symm, zGd.rf hC⟩⟩
    rw [if_pos q, f.1 _ _ (by unfold zXX; omega)]
theorem o_trace {i : Int} (ii : inR i) (h : zInv n m) (hn : 0 ≤ n ∧ n ≤ 100) : zOk K (d + 12) mX9_trace mX10_trace [.int (iz i)] n m := by
  obtain ⟨r1, r2, r3⟩ := h.2.2.2.2.2.2
  refine zOk.q (F := if 0 ≤ i ∧ i ≤ m.1 98 54 - 1 then m.1 128 i else -3) (N := 0) h hn (by omega) ?_ (fun m1 f e hC hB => ?_)
  · refine zCt.of (by decide) (Nat.le_of_ble_eq_true rfl) (vc_X9_trace_0 (d := d + 10) i m ii (fun _ => ?_))
    rw [r1]
    refine ⟨inR_b (A := 1000) (by omega) (by omega) rfl, fun q => ⟨by omega, by omega, ?_, zFl.rf⟩, fun q => ⟨(if_neg q).symm, zFl.rf⟩⟩
    rw [if_pos q, r3 i (by omega) (by omega)]
  · refine zCt.of (by decide) (Nat.le_of_ble_eq_true rfl) (vc_X10_trace_0 (d := d + 10) i m1 ii (fun _ => ?_))
    rw [f.1 98 54 (by unfold zXX; omega)]
    refine ⟨inR_b (A := 1000) (by omega) (by omega) rfl, fun q => ⟨by omega, by omega, ?_, zGd.rf hC⟩, fun q => ⟨(if_neg q).symm, zGd.rf hC⟩⟩
    rw [if_pos q, f.1 _ _ (by unfold zXX; omega)]
def zqPartOf (P : F2) (p w : Int) : Int := if 0 ≤ p ∧ p < P 98 4 then (if 0 ≤ w ∧ w ≤ 8 then (if w = 0 then zp P p 0 else if w = 1 then 10 * zp P p 1 + zp P p 2 else zp P p (w + 1)) else -1) else -1
theorem o_partOf {p w : Int} (ip : inR p) (iw : inR w) (h : zInv n m) (hn : 0 ≤ n ∧ n ≤ 100) : zOk K (d + 12) mX9_partOf mX10_partOf [.int (iz p), .int (iz w)] n m := by
  have hW := h.1.1.1
  have hR := h.1.2
  have h4 := hW.2.2.2.1
  refine zOk.q (F := zqPartOf (pv m.1) p w) (N := 0) h hn (by omega) ?_ (fun m1 f e hC hB => ?_)
  · refine zCt.of (by decide) (Nat.le_of_ble_eq_true rfl) (vc_X9_partOf_0 (d := d + 9) p w m ip iw (fun hz => ?_))
    have e6 : m.1 1 6 = pv m.1 98 4 := hR.1.2.2.2.1
    rw [e6]
    refine ⟨h4.1, fun hp => ⟨hp.1, by omega, ?_⟩, fun hp => ⟨(if_neg hp).symm, zFl.rf⟩⟩
    have ep : ∀ k, 0 ≤ k ∧ k < 10 → m.1 (10 + p) k = zp (pv m.1) p k := fun k hk => by rw [show (10 + p : Int) = 1 + 9 + p by omega]; exact hR.1.part hp.1 hp.2 k hk
    obtain ⟨g0, g1, g2, -⟩ := wf_part hW hp.1 hp.2
    have qq : ∀ v, v = zqPartOf (pv m.1) p w → v = zqPartOf (pv m.1) p w ∧ zFl zXX m m := fun v hv => ⟨hv, zFl.rf⟩
    have e1 : zqPartOf (pv m.1) p w = (if 0 ≤ w ∧ w ≤ 8 then (if w = 0 then zp (pv m.1) p 0 else if w = 1 then 10 * zp (pv m.1) p 1 + zp (pv m.1) p 2 else zp (pv m.1) p (w + 1)) else -1) := if_pos hp
    refine (zCt.of (by decide) (Nat.le_of_ble_eq_true rfl) (vc_X3_told_0 (d := d + 10) (10 + p) w m (zPn1_s hp.1 (by omega)) iw (Q := fun r m1 => r = zqPartOf (pv m.1) p w ∧ zFl zXX m m1) (fun _ => ?_))).mono (fun r m1 h _ _ => h)
    rw [ep 0 (by omega), ep 1 (by omega), ep 2 (by omega), ep 3 (by omega), ep 4 (by omega), ep 5 (by omega), ep 6 (by omega), ep 7 (by omega), ep 8 (by omega), ep 9 (by omega)]
    refine ⟨fun z => qq _ ?_, fun z => ⟨inR_b (A := 1000) (by omega) (by omega) rfl, qq _ ?_⟩, fun z => qq _ ?_, fun z => qq _ ?_, fun z => qq _ ?_, fun z => qq _ ?_, fun z => qq _ ?_, fun z => qq _ ?_, fun z => qq _ ?_, fun z => qq _ ?_⟩
    · rw [e1, if_pos (by omega), if_pos z]
    · rw [e1, if_pos (by omega), if_neg (by omega), if_pos z]; omega
    · rw [e1, if_pos (by omega), if_neg (by omega), if_neg (by omega), z]; rfl
    · rw [e1, if_pos (by omega), if_neg (by omega), if_neg (by omega), z]; rfl
    · rw [e1, if_pos (by omega), if_neg (by omega), if_neg (by omega), z]; rfl
    · rw [e1, if_pos (by omega), if_neg (by omega), if_neg (by omega), z]; rfl
    · rw [e1, if_pos (by omega), if_neg (by omega), if_neg (by omega), z]; rfl
    · rw [e1, if_pos (by omega), if_neg (by omega), if_neg (by omega), z]; rfl
    · rw [e1, if_pos (by omega), if_neg (by omega), if_neg (by omega), z]; rfl
    · rw [e1, if_neg (by omega)]
  · refine zCt.of (by decide) (Nat.le_of_ble_eq_true rfl) (vc_X10_partOf_0 (d := d + 9) p w m1 ip iw (fun hz => ?_))
    rw [pv_f e (by omega)]
    have qq : ∀ v, v = zqPartOf (pv m.1) p w → v = zqPartOf (pv m.1) p w ∧ zGd 0 m1 m1 := fun v hv => ⟨hv, zGd.rf hC⟩
    refine ⟨h4.1, fun hp => ?_, fun hp => qq _ (if_neg hp).symm⟩
    obtain ⟨g0, g1, g2, -⟩ := wf_part hW hp.1 hp.2
    have e1 : zqPartOf (pv m.1) p w = (if 0 ≤ w ∧ w ≤ 8 then (if w = 0 then zp (pv m.1) p 0 else if w = 1 then 10 * zp (pv m.1) p 1 + zp (pv m.1) p 2 else zp (pv m.1) p (w + 1)) else -1) := if_pos hp
    have ep : ∀ k, m1.1 100 (10 * p + k) = zp (pv m.1) p k := fun k => pv_r e (by omega) _
    rw [ep 0, ep 1, ep 2, ep (w + 1)]
    refine ⟨fun hw => ⟨fun z => ⟨by omega, by omega, qq _ ?_⟩, fun z => ⟨fun y => ⟨by omega, by omega, by omega, by omega, inR_b (A := 1000) (by omega) (by omega) rfl, qq _ ?_⟩, fun y => ⟨inR_b (A := 1000) (by omega) (by omega) rfl, by omega, by omega, qq _ ?_⟩⟩⟩, fun hw => qq _ ?_⟩
    · rw [e1, if_pos hw, if_pos z]
    · rw [e1, if_pos hw, if_neg z, if_pos y]
    · rw [e1, if_pos hw, if_neg z, if_neg y]
    · rw [e1, if_neg hw]
def zbk (P : F2) : Nat → Int
  | 0 => 0
  | k + 1 => zbk P k + (if zp P (k : Int) 4 ≤ 0 then 0 else 1)
theorem zbk_b (P : F2) : ∀ k : Nat, 0 ≤ zbk P k ∧ zbk P k ≤ k := by
  intro k
  induction k with
  | zero => exact ⟨Int.le_refl _, Int.le_refl _⟩
  | succ k ih =>
    have e : zbk P (k + 1) = zbk P k + (if zp P (k : Int) 4 ≤ 0 then 0 else 1) := rfl
    rw [e]
    split <;> omega
def zqMany (P : F2) (r t b w : Int) : Int := if w = 0 then P 98 4 else if w = 1 then P 98 2 else if w = 2 then P 98 10 else if w = 3 then (zoc P : Int) else if w = 4 then P 98 7 else if w = 5 then r else if w = 6 then t else if w = 7 then b else if w = 8 then P 98 0 else if w = 9 then P 98 1 else if w = 10 then zbk P (P 98 4).toNat else -1
theorem o_many {w : Int} (iw : inR w) (h : zInv n m) (hn : 0 ≤ n ∧ n ≤ 100) : zOk K (d + 12) mX9_many mX10_many [.int (iz w)] n m := by
  have hW := h.1.1.1
  have hR := h.1.2
  have h4 := hW.2.2.2.1
  refine zOk.q (F := zqMany (pv m.1) (m.1 98 42) (m.1 98 23) (m.1 98 54) w) (N := 0) h hn (by omega) ?_ (fun m1 f e hC hB => ?_)
  · refine zCt.of (by decide) (Nat.le_of_ble_eq_true rfl) (vc_X9_many_0 (d := d + 9) w m iw (fun hz => ?_))
    obtain ⟨⟨p1, p2, p3, p4, p5, -⟩, w1, -⟩ := hR
    have w1 : m.1 7 2 = pv m.1 98 10 := w1
    rw [p1, p2, p3, p4, p5, w1, h.2.2.2.1.1, h.2.2.2.2.1.1, h.2.2.2.2.2.2.1]
    have qq : ∀ v, v = zqMany (pv m.1) (m.1 98 42) (m.1 98 23) (m.1 98 54) w → v = zqMany (pv m.1) (m.1 98 42) (m.1 98 23) (m.1 98 54) w ∧ zFl zXX m m := fun v hv => ⟨hv, zFl.rf⟩
    refine ⟨fun z => qq _ ?_, fun z => qq _ ?_, fun z => qq _ ?_, fun z => ?_, fun z => qq _ ?_, fun z => qq _ ?_, fun z => qq _ ?_, fun z => qq _ ?_, fun z => qq _ ?_, fun z => qq _ ?_, fun z => ?_, fun z => qq _ ?_⟩
    · rw [z]; rfl
    · rw [z]; rfl
    · rw [z]; rfl
    · refine (c_X4_openCount (d := d + 9) (Or.inl rfl) hW h.1.2.1).mono (fun r m1 q _ _ => ?_)
      rw [q.1, q.2, z]
      exact ⟨rfl, zFl.rf⟩
    · rw [z]; rfl
    · rw [z]; rfl
    · rw [z]; rfl
    · rw [z]; rfl
    · rw [z]; rfl
    · rw [z]; rfl
    · have loop : ∀ (k j : Nat), (j : Int) + k = pv m.1 98 4 → zV K mX4_brokenCount (d + 11) 4 [(0, rr K 1), (1, .int (iz (zbk (pv m.1) j))), (2, .int (iz (j : Int)))] [] m (fun r m1 => r = zbk (pv m.1) (pv m.1 98 4).toNat ∧ m1 = m) := by
        intro k
        induction k with
        | zero =>
          intro j hj
          have hb := zbk_b (pv m.1) j
          refine vc_X4_brokenCount_4 _ _ 1 m (inR_b (A := 1000) (by omega) (by omega) rfl) (inR_b (A := 1000) (by omega) (by omega) rfl) (Or.inl rfl) (fun _ => ?_)
          rw [p4]
          refine ⟨fun _ => ⟨by rw [show (pv m.1 98 4).toNat = j by omega], rfl⟩, fun q => absurd (by omega) q⟩
        | succ k ih =>
          intro j hj
          have hb := zbk_b (pv m.1) j
          have e4 : m.1 (1 + 9 + (j : Int)) 4 = zp (pv m.1) (j : Int) 4 := h.1.2.1.part (by omega) (by omega) 4 (by omega)
          obtain ⟨-, -, -, -, g4, -⟩ := wf_part hW (show 0 ≤ (j : Int) by omega) (show (j : Int) < pv m.1 98 4 by omega)
          refine vc_X4_brokenCount_4 _ _ 1 m (inR_b (A := 1000) (by omega) (by omega) rfl) (inR_b (A := 1000) (by omega) (by omega) rfl) (Or.inl rfl) (fun _ => ?_)
          rw [p4, e4]
          refine ⟨fun q => absurd q (by omega), fun _ => ⟨by omega, by omega, fun v4 ev => ?_⟩⟩
          have : v4 = zbk (pv m.1) (j + 1) := by
            have e : zbk (pv m.1) (j + 1) = zbk (pv m.1) j + (if zp (pv m.1) (j : Int) 4 ≤ 0 then 0 else 1) := rfl
            rw [e, ev]
            by_cases y : zp (pv m.1) (j : Int) 4 = 0
            · rw [if_pos y, if_pos (by omega)]; omega
            · rw [if_neg y, if_neg (by omega)]
          rw [this]
          exact ih (j + 1) (by omega)
      refine (zCt.of (by decide) (Nat.le_of_ble_eq_true rfl) (vc_X4_brokenCount_0 (d := d + 10) 1 m (Or.inl rfl) (fun _ => loop (pv m.1 98 4).toNat 0 (by omega)))).mono (fun r m1 q _ _ => ?_)
      rw [q.1, q.2, z]
      exact ⟨rfl, zFl.rf⟩
    · unfold zqMany
      rw [if_neg (by omega), if_neg (by omega), if_neg (by omega), if_neg (by omega), if_neg (by omega), if_neg (by omega), if_neg (by omega), if_neg (by omega), if_neg (by omega), if_neg (by omega), if_neg (by omega)]
  · refine zCt.of (by decide) (Nat.le_of_ble_eq_true rfl) (vc_X10_many_0 (d := d + 10) w m1 iw (fun hz => ?_))
    rw [pv_f e (k := 4) (by omega), pv_f e (k := 2) (by omega), pv_f e (k := 10) (by omega), pv_f e (k := 7) (by omega), pv_f e (k := 0) (by omega), pv_f e (k := 1) (by omega), f.1 98 42 (by unfold zXX; omega), f.1 98 23 (by unfold zXX; omega), f.1 98 54 (by unfold zXX; omega)]
    have qq : ∀ v, v = zqMany (pv m.1) (m.1 98 42) (m.1 98 23) (m.1 98 54) w → v = zqMany (pv m.1) (m.1 98 42) (m.1 98 23) (m.1 98 54) w ∧ zGd 0 m1 m1 := fun v hv => ⟨hv, zGd.rf hC⟩
    refine ⟨fun z => qq _ ?_, fun z => qq _ ?_, fun z => qq _ ?_, fun z => ?_, fun z => qq _ ?_, fun z => qq _ ?_, fun z => qq _ ?_, fun z => qq _ ?_, fun z => qq _ ?_, fun z => qq _ ?_, fun z => ?_, fun z => qq _ ?_⟩
    · rw [z]; rfl
    · rw [z]; rfl
    · rw [z]; rfl
    · refine (c_X10_openMany (d := d + 10) e hW).mono (fun r m2 q _ _ => ?_)
      rw [q.1, q.2, z]
      exact ⟨rfl, zGd.rf hC⟩
    · rw [z]; rfl
    · rw [z]; rfl
    · rw [z]; rfl
    · rw [z]; rfl
    · rw [z]; rfl
    · rw [z]; rfl
    · have loop : ∀ (k j : Nat), (j : Int) + k = pv m.1 98 4 → zV K mX10_many (d + 12) 114 [(0, rr K 98), (2, .int (iz (zbk (pv m.1) j))), (3, .int (iz (j : Int)))] [] m1 (fun r m2 => r = zbk (pv m.1) (pv m.1 98 4).toNat ∧ zGd 0 m1 m2) := by
        intro k
        induction k with
        | zero =>
          intro j hj
          have hb := zbk_b (pv m.1) j
          refine vc_X10_many_114 (d := d + 10) _ _ m1 (inR_b (A := 1000) (by omega) (by omega) rfl) (inR_b (A := 1000) (by omega) (by omega) rfl) (fun _ => ?_)
          rw [pv_f e (by omega)]
          refine ⟨fun _ => ⟨by rw [show (pv m.1 98 4).toNat = j by omega], zGd.rf hC⟩, fun q => absurd (by omega) q⟩
        | succ k ih =>
          intro j hj
          have hb := zbk_b (pv m.1) j
          refine vc_X10_many_114 (d := d + 10) _ _ m1 (inR_b (A := 1000) (by omega) (by omega) rfl) (inR_b (A := 1000) (by omega) (by omega) rfl) (fun _ => ?_)
          rw [pv_f e (by omega), pv_r e (by omega)]
          refine ⟨fun q => absurd q (by omega), fun _ => ⟨by omega, by omega, fun v6 e6 v8 e8 => ?_⟩⟩
          have : v8 = zbk (pv m.1) (j + 1) := by rw [e8, e6]; rfl
          rw [this]
          exact ih (j + 1) (by omega)
      rw [z]
      exact loop (pv m.1 98 4).toNat 0 (by omega)
    · unfold zqMany
      rw [if_neg (by omega), if_neg (by omega), if_neg (by omega), if_neg (by omega), if_neg (by omega), if_neg (by omega), if_neg (by omega), if_neg (by omega), if_neg (by omega), if_neg (by omega), if_neg (by omega)]
end ASK
