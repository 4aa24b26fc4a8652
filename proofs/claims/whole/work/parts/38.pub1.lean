/-! ===== flow, tick, goes, missed, worst, holds: both sides in the same words ===== -/
def zqFlow (P : F2) (p s c : Int) : Int := if (0 ≤ p ∧ p < P 98 4) ∧ (0 ≤ s ∧ s ≤ 9260) ∧ (0 ≤ c ∧ c ≤ 8) then zflow P (zlv P s) c p else -999999
def zqTick (P : F2) (s c : Int) : Int := if (0 ≤ s ∧ s ≤ 9260) ∧ (0 ≤ c ∧ c ≤ 8) then ztick P c s else -1
noncomputable def zqGoes (P : F2) (c w : Int) : Int := if (0 ≤ c ∧ c ≤ 8) ∧ (0 ≤ w ∧ w ≤ 2) then (if w = 0 then zE P c else if w = 1 then zPa P c else zRg P c) else -1
noncomputable def zqWorst (P : F2) (w : Int) : Int := if 0 ≤ w ∧ w < P 98 10 then zworst P w.toNat 9 0 else -1
noncomputable def zqHolds (P : F2) (c : Int) : Int := if 0 ≤ c ∧ c ≤ 8 then zheld P c else -1
theorem zworst_r (P : F2) (i : Nat) : ∀ n k, zworst P i n k = -3 ∨ 0 ≤ zworst P i n k := by
  intro n
  induction n with
  | zero => intro k; exact Or.inl rfl
  | succ n ih =>
    intro k
    unfold zworst
    split
    · exact ih (k + 1)
    · exact Or.inr (by omega)
section PB
variable {K : zCx} {P : F2} {m0 : zM}
theorem c_X10_flow {d : Nat} {p s c : Int} (ip : inR p) (is : inR s) (ic : inR c) (hP : pv m0.1 = P) (hW : zWf P) (hC : zCame m0) : zCt K (d + 3) mX10_flow [rr K 98, .int (iz p), .int (iz s), .int (iz c)] m0 (fun r m1 => r = zqFlow P p s c ∧ zFr zSc m0 m1 ∧ zGo 0 m0 m1) := by
  have h4 := hW.2.2.2.1
  have e4 : m0.1 98 4 = P 98 4 := pv_f hP (by omega)
  have bad : ¬ ((0 ≤ p ∧ p < P 98 4) ∧ (0 ≤ s ∧ s ≤ 9260) ∧ (0 ≤ c ∧ c ≤ 8)) → -999999 = zqFlow P p s c ∧ zFr zSc m0 m0 ∧ zGo 0 m0 m0 := fun z => ⟨(if_neg z).symm, zFr.rf, zGo.rf hC⟩
  refine zCt.of (by decide) (Nat.le_of_ble_eq_true rfl) (vc_X10_flow_0 (d := d) p s c m0 ip is ic (fun _ => ?_))
  rw [e4]
  refine ⟨by omega, fun q1 => ⟨fun q2 => ⟨fun q3 => ?_, fun q3 => bad (fun z => q3 z.2.2)⟩, fun q2 => bad (fun z => q2 z.2.1)⟩, fun q1 => bad (fun z => q1 z.1)⟩
  refine (c_X10_stand (d := d + 1) hP q2).mono (fun _ m2 h => ?_)
  obtain ⟨-, f2, l2⟩ := h
  intro _ _
  have hP2 : pv m2.1 = P := (f2.mono zTk_Sc).pv.trans hP
  refine (c_X10_flows (d := d) hP2 hW q1.1 q1.2 q3 (fun k a b => by rw [l2 k a b]; exact zlv_le hW q2 k)).mono (fun r m3 h => ?_)
  obtain ⟨h1, h2⟩ := h
  subst h2
  intro _ _
  have n3 : ∀ a k, ¬ (106 ≤ a ∧ a ≤ 108) → m3.1 a k = m0.1 a k := fun a k z => f2.1 a k z
  refine ⟨?_, f2.mono zTk_Sc, f2.mono zTk_Sc, ⟨fun t a b => by rw [n3 _ _ (by omega), n3 _ _ (by omega)]; exact hC.1 t a b, by rw [n3 _ _ (by omega)]; exact hC.2⟩, by rw [n3 _ _ (by omega)]; omega⟩
  rw [h1]
  unfold zqFlow
  rw [if_pos ⟨q1, q2, q3⟩]
  exact zflow_lv hW q1.1 q1.2 (fun k a b => l2 k a b)
theorem c_X10_tick {d : Nat} {s c : Int} (is : inR s) (ic : inR c) (hP : pv m0.1 = P) (hW : zWf P) (hC : zCame m0) : zCt K (d + 4) mX10_tick [rr K 98, .int (iz s), .int (iz c)] m0 (fun r m1 => r = zqTick P s c ∧ zGo 0 m0 m1) := by
  have bad : ¬ ((0 ≤ s ∧ s ≤ 9260) ∧ (0 ≤ c ∧ c ≤ 8)) → -1 = zqTick P s c ∧ zGo 0 m0 m0 := fun z => ⟨(if_neg z).symm, zGo.rf hC⟩
  refine zCt.of (by decide) (Nat.le_of_ble_eq_true rfl) (vc_X10_tick_0 (d := d) s c m0 is ic (fun _ => ⟨fun q2 => ⟨fun q3 => ?_, fun q3 => bad (fun z => q3 z.2)⟩, fun q2 => bad (fun z => q2 z.1)⟩))
  refine (c_X10_ticks (d := d) hP hW q2 q3).mono (fun r m3 h => ?_)
  obtain ⟨h1, f2⟩ := h
  intro _ _
  have n3 : ∀ a k, ¬ (106 ≤ a ∧ a ≤ 108) → m3.1 a k = m0.1 a k := fun a k z => f2.1 a k z
  refine ⟨?_, f2.mono zTk_Sc, ⟨fun t a b => by rw [n3 _ _ (by omega), n3 _ _ (by omega)]; exact hC.1 t a b, by rw [n3 _ _ (by omega)]; exact hC.2⟩, by rw [n3 _ _ (by omega)]; omega⟩
  unfold zqTick
  rw [if_pos ⟨q2, q3⟩]
  exact h1
theorem c_X10_goes {d : Nat} {c w : Int} (ic : inR c) (iw : inR w) (hP : pv m0.1 = P) (hW : zWf P) (hC : zCame m0) (hB : m0.1 98 18 ≤ 1999999990) : zCt K (d + 5) mX10_goes [rr K 98, .int (iz c), .int (iz w)] m0 (fun r m1 => r = zqGoes P c w ∧ zGo 1 m0 m1) := by
  have bad : ¬ ((0 ≤ c ∧ c ≤ 8) ∧ (0 ≤ w ∧ w ≤ 2)) → -1 = zqGoes P c w ∧ zGo 1 m0 m0 := fun z => ⟨(if_neg z).symm, (zGo.rf hC).le (by omega)⟩
  refine zCt.of (by decide) (Nat.le_of_ble_eq_true rfl) (vc_X10_goes_0 (d := d) c w m0 ic iw (fun _ => ⟨fun q2 => ⟨fun q3 => ?_, fun q3 => bad (fun z => q3 z.2)⟩, fun q2 => bad (fun z => q2 z.1)⟩))
  refine (c_X10_go (d := d) hP hW q2 hC (by omega)).mono (fun r m3 h => ?_)
  obtain ⟨-, g1, g2, g3, g4, g5, g6⟩ := h
  intro _ _
  have hg : zGo 1 m0 m3 := ⟨g1, g3, by omega⟩
  unfold zqGoes
  rw [if_pos ⟨q2, q3⟩]
  exact ⟨fun z => ⟨by rw [if_pos z]; exact g4, hg⟩, fun z => ⟨fun y => ⟨by rw [if_neg z, if_pos y]; exact g5, hg⟩, fun y => ⟨by rw [if_neg z, if_neg y]; exact g6, hg⟩⟩⟩
theorem zBS_XS : ∀ a k, zBS a k → zXS a k := fun a k h => Or.inl h
theorem zS40_XS : ∀ a k, zS40 a k → zXS a k := fun a k h => by rcases h with h | h <;> exact Or.inl ⟨by omega, by omega⟩
theorem c_X9_flow {d : Nat} {p s c : Int} (ip : inR p) (is : inR s) (ic : inR c) (hW : zWf P) (hR : RQ m0 1 P) : zCt K (d + 5) mX9_flow [rr K 0, .int (iz p), .int (iz s), .int (iz c)] m0 (fun r m1 => r = zqFlow P p s c ∧ zFl zXS m0 m1) := by
  have h4 := hW.2.2.2.1
  have bad : ¬ ((0 ≤ p ∧ p < P 98 4) ∧ (0 ≤ s ∧ s ≤ 9260) ∧ (0 ≤ c ∧ c ≤ 8)) → -999999 = zqFlow P p s c ∧ zFl zXS m0 m0 := fun z => ⟨(if_neg z).symm, zFl.rf⟩
  refine zCt.of (by decide) (Nat.le_of_ble_eq_true rfl) (vc_X9_flow_0 (d := d) p s c m0 ip is ic (fun _ => ?_))
  rw [hR.1.2.2.2.1, hR.1.1]
  refine ⟨by omega, fun q1 => ⟨fun q2 => ⟨fun q3 => ?_, fun q3 => bad (fun z => q3 z.2.2)⟩, fun q2 => bad (fun z => q2 z.2.1)⟩, fun q1 => bad (fun z => q1 z.1)⟩
  refine (c_X1_setUp (d := d) (Or.inl rfl) hW hR.1 q3 hW.1).mono (fun _ m2 h => ?_)
  obtain ⟨-, f2, b2, l0, l1⟩ := h
  intro _ _
  refine (c_X1_place (d := d + 3) q2 l0 l1).mono (fun _ m3 h => ?_)
  obtain ⟨-, f3, l3⟩ := h
  intro _ _
  have n3 : ∀ a k, ¬ (a = 40 ∨ a = 41) → m3.1 a k = m2.1 a k := fun a k z => f3.1 a k z
  have b3 : zBe m3 P c := b2.kept (fun a k z => n3 a k (by omega)) (by rw [f3.2])
  refine (c_X1_through (d := d + 3) hW b3 q1.1 q1.2 q3 (fun k a b => by rw [l3 k a b]; exact zlv_le hW q2 k)).mono (fun r m4 h => ?_)
  obtain ⟨h1, h2⟩ := h
  subst h2
  intro _ _
  refine ⟨?_, (f2.mono zBS_XS).tr (f3.l.mono zS40_XS)⟩
  rw [h1]
  unfold zqFlow
  rw [if_pos ⟨q1, q2, q3⟩]
  exact zflow_lv hW q1.1 q1.2 (fun k a b => l3 k a b)
theorem c_X9_tick {d : Nat} {s c : Int} (is : inR s) (ic : inR c) (hW : zWf P) (hR : RQ m0 1 P) : zCt K (d + 5) mX9_tick [rr K 0, .int (iz s), .int (iz c)] m0 (fun r m1 => r = zqTick P s c ∧ zFl zXS m0 m1) := by
  have bad : ¬ ((0 ≤ s ∧ s ≤ 9260) ∧ (0 ≤ c ∧ c ≤ 8)) → -1 = zqTick P s c ∧ zFl zXS m0 m0 := fun z => ⟨(if_neg z).symm, zFl.rf⟩
  refine zCt.of (by decide) (Nat.le_of_ble_eq_true rfl) (vc_X9_tick_0 (d := d) s c m0 is ic (fun _ => ?_))
  rw [hR.1.1]
  refine ⟨fun q2 => ⟨fun q3 => ?_, fun q3 => bad (fun z => q3 z.2)⟩, fun q2 => bad (fun z => q2 z.1)⟩
  refine (c_X1_setUp (d := d) (Or.inl rfl) hW hR.1 q3 hW.1).mono (fun _ m2 h => ?_)
  obtain ⟨-, f2, b2, l0, l1⟩ := h
  intro _ _
  refine (c_X1_place (d := d + 3) q2 l0 l1).mono (fun _ m3 h => ?_)
  obtain ⟨-, f3, l3⟩ := h
  intro _ _
  have n3 : ∀ a k, ¬ (a = 40 ∨ a = 41) → m3.1 a k = m2.1 a k := fun a k z => f3.1 a k z
  have b3 : zBe m3 P c := b2.kept (fun a k z => n3 a k (by omega)) (by rw [f3.2])
  refine (c_X1_move (d := d + 2) hW b3 q3 q2 l3).mono (fun r m4 h => ?_)
  obtain ⟨-, f4, l4⟩ := h
  intro _ _
  have ht := ztick_le P c s
  rw [l4 2 (by omega) (by omega), l4 3 (by omega) (by omega), l4 4 (by omega) (by omega), zlv_state ht]
  refine ⟨zlv_le hW ht 2, zlv_le hW ht 3, zlv_le hW ht 4, ?_, ((f2.mono zBS_XS).tr (f3.l.mono zS40_XS)).tr (f4.l.mono zS40_XS)⟩
  unfold zqTick
  rw [if_pos ⟨q2, q3⟩]
theorem c_X9_goes {d : Nat} {c w : Int} (ic : inR c) (iw : inR w) (hW : zWf P) (hR : RQ m0 1 P) : zCt K (d + 5) mX9_goes [rr K 0, .int (iz c), .int (iz w)] m0 (fun r m1 => r = zqGoes P c w ∧ zFl zXS m0 m1) := by
  have bad : ¬ ((0 ≤ c ∧ c ≤ 8) ∧ (0 ≤ w ∧ w ≤ 2)) → -1 = zqGoes P c w ∧ zFl zXS m0 m0 := fun z => ⟨(if_neg z).symm, zFl.rf⟩
  refine zCt.of (by decide) (Nat.le_of_ble_eq_true rfl) (vc_X9_goes_0 (d := d) c w m0 ic iw (fun _ => ?_))
  rw [hR.1.1]
  refine ⟨fun q2 => ⟨fun q3 => ?_, fun q3 => bad (fun z => q3 z.2)⟩, fun q2 => bad (fun z => q2 z.1)⟩
  refine (c_X1_setUp (d := d) (Or.inl rfl) hW hR.1 q2 hW.1).mono (fun _ m2 h => ?_)
  obtain ⟨-, f2, b2, l0, l1⟩ := h
  intro _ _
  have e9 : m2.1 1 9 = P 98 1 := by rw [f2.1 _ _ (by unfold zBS; omega)]; exact hR.1.2.1
  rw [e9]
  refine (c_X1_walk (d := d + 1) hW b2 q2 l0 l1).mono (fun r m3 h => ?_)
  obtain ⟨-, w1, w2, w3, w4, w5, w6, w7⟩ := h
  intro _ _
  have hg : zFl zXS m0 m3 := (f2.tr w1).mono zBS_XS
  unfold zqGoes
  rw [if_pos ⟨q2, q3⟩]
  exact ⟨fun z => ⟨by rw [if_pos z]; exact w5, hg⟩, fun z => ⟨fun y => ⟨by rw [if_neg z, if_pos y]; exact w6, hg⟩, fun y => ⟨by rw [if_neg z, if_neg y]; exact w7, hg⟩⟩⟩
theorem c_X9_missed {d : Nat} (hW : zWf P) (hWi : zWish P) (hR : RQ m0 1 P) : zCt K (d + 7) mX9_missed [rr K 0] m0 (fun r m1 => r = zmiss P ∧ zFl zXS m0 m1) :=
  zCt.of (by decide) (Nat.le_of_ble_eq_true rfl) (vc_X9_missed_0 (d := d) m0 (fun _ => (c_X7_missing (d := d) (Or.inl rfl) hW hWi hR).mono (fun _ _ h _ _ => h)))
theorem c_X9_holds {d : Nat} {c : Int} (ic : inR c) (hW : zWf P) (hWi : zWish P) (hR : RQ m0 1 P) : zCt K (d + 6) mX9_holds [rr K 0, .int (iz c)] m0 (fun r m1 => r = zqHolds P c ∧ zFl zXS m0 m1) :=
  zCt.of (by decide) (Nat.le_of_ble_eq_true rfl) (vc_X9_holds_0 (d := d) c m0 ic (fun _ => ⟨fun q => (c_X7_holding (d := d) (Or.inl rfl) hW q hWi hR).mono (fun _ _ h _ _ => ⟨by unfold zqHolds; rw [if_pos q]; exact h.1, h.2⟩), fun q => ⟨(if_neg q).symm, zFl.rf⟩⟩))
theorem c_X9_worst {d : Nat} {w : Int} (iw : inR w) (hW : zWf P) (hWi : zWish P) (hR : RQ m0 1 P) : zCt K (d + 7) mX9_worst [rr K 0, .int (iz w)] m0 (fun r m1 => r = zqWorst P w ∧ zFl zXS m0 m1) := by
  have hcn := hWi.1
  refine zCt.of (by decide) (Nat.le_of_ble_eq_true rfl) (vc_X9_worst_0 (d := d) w m0 iw (fun _ => ?_))
  have e : m0.1 7 2 = P 98 10 := hR.2.1
  rw [e]
  refine ⟨inR_b (A := 10) (by omega) (by omega) rfl, fun q => ?_, fun q => ⟨(if_neg (by omega)).symm, zFl.rf⟩⟩
  have hw : ((w.toNat : Nat) : Int) = w := by omega
  have hc := c_X7_firstMiss (K := K) (d := d) (i := w.toNat) (Or.inl rfl) hW hWi (by omega) hR
  rw [hw] at hc
  refine hc.mono (fun r m1 h => ?_)
  obtain ⟨h1, h2⟩ := h
  intro _ _
  unfold zqWorst
  rw [if_pos (by omega)]
  have hr := zworst_r P w.toNat 9 0
  refine ⟨fun z => ⟨?_, h2⟩, fun z => ⟨?_, h2⟩⟩
  · rw [h1] at z ⊢
    split
    · rename_i y; rw [if_pos y] at z; omega
    · rfl
  · rw [h1] at z
    rcases hr with hr | hr
    · exact hr.symm
    · rw [if_neg (by omega)] at z; exact absurd hr z
end PB
