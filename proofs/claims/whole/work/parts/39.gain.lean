/-! ===== gain, both sides; the reference's rests ===== -/
theorem pv_sI {m : zM} {a k v : Int} (h : (a = 98 ∧ 0 ≤ k ∧ k ≤ 17) ∨ (99 ≤ a ∧ a ≤ 105)) : pv (sI m a k v).1 = zup (pv m.1) a k v := by
  funext b j
  unfold pv zup
  rw [sI_at]
  by_cases hb : b = a ∧ j = k
  · rw [if_pos hb, if_pos hb, hb.1, hb.2, if_pos h]
  · rw [if_neg hb, if_neg hb]
def zFd (P : F2) (f : Int) : F2 := zup P 98 0 f
theorem zFd_ne {P : F2} {f a k : Int} (h : ¬ (a = 98 ∧ k = 0)) : zFd P f a k = P a k := if_neg h
theorem zFd_f {P : F2} {f : Int} : zFd P f 98 0 = f := by unfold zFd zup; rw [if_pos ⟨rfl, rfl⟩]
theorem zFd_zp {P : F2} {f : Int} (p k : Int) : zp (zFd P f) p k = zp P p k := zFd_ne (by omega)
theorem zFd_wf {P : F2} {f : Int} (hW : zWf P) (hf : 0 ≤ f ∧ f ≤ 20) : zWf (zFd P f) := by
  obtain ⟨h1, h2, h3, h4, h5, h6, h7, h8, h9, h10⟩ := hW
  have n : ∀ a k, ¬ (a = 98 ∧ k = 0) → zFd P f a k = P a k := fun a k h => zFd_ne h
  refine ⟨by rw [zFd_f]; exact hf, by rw [n _ _ (by omega)]; exact h2, by rw [n _ _ (by omega)]; exact h3, by rw [n _ _ (by omega)]; exact h4, by rw [n _ _ (by omega)]; exact h5, fun i a b => by rw [n _ _ (by omega)] at *; exact h6 i a b, fun p a b => ?_, fun p a b => ?_, fun k a b => ?_, fun i a b => by rw [n _ _ (by omega)]; exact h10 i a b⟩
  · rw [n _ _ (by omega)] at b
    have := h7 p a b
    unfold zPartOk at this ⊢
    simp only [zFd_zp, n 98 2 (by omega)]
    exact this
  · rw [n _ _ (by omega)] at b
    have := h8 p a b
    unfold zOpenOk at this ⊢
    rw [n _ _ (by omega), n _ _ (by omega)]
    exact this
  · rw [n _ _ (by omega)] at b
    have := h9 k a b
    rw [n _ _ (by omega), n _ _ (by omega), n _ _ (by omega)]
    exact this
theorem zFd_wt {P : F2} {f n : Int} : ∀ k, zwt (zFd P f) n k = zwt P n k := by
  intro k
  induction k with
  | zero => rfl
  | succ k ih => unfold zwt; rw [ih]; simp only [zFd_zp]
theorem zFd_be {P : F2} {f c : Int} {m : zM} (h : zBe m P c) : zBe m (zFd P f) c := by
  obtain ⟨h1, h2, h3, h4, h5⟩ := h
  have n : ∀ a k, ¬ (a = 98 ∧ k = 0) → zFd P f a k = P a k := fun a k h => zFd_ne h
  refine ⟨by rw [n _ _ (by omega)]; exact h1, h2, fun i a b => by rw [n _ _ (by omega)] at *; exact h3 i a b, fun p a b => ?_, fun q a b => by rw [n _ _ (by omega), zFd_wt]; exact h5 q a b⟩
  rw [n _ _ (by omega)] at b
  have := h4 p a b
  unfold zBp zmode at this ⊢
  simp only [zFd_zp]
  exact this
noncomputable def zqGain (P : F2) (n c : Int) : Int := if (0 ≤ n ∧ n ≤ 4) ∧ (0 ≤ c ∧ c ≤ 8) then (if P 98 0 = 20 then -98 else zlv (zFd P (P 98 0 + 1)) (zE (zFd P (P 98 0 + 1)) c) n - zlv P (zE P c) n) else -99
section GN
variable {K : zCx} {P : F2} {m0 : zM}
theorem c_X10_gain {d : Nat} {n c : Int} (i1 : inR n) (i2 : inR c) (hP : pv m0.1 = P) (hW : zWf P) (hC : zCame m0) (hB : m0.1 98 18 ≤ 1999999990) : zCt K (d + 5) mX10_gain [rr K 98, .int (iz n), .int (iz c)] m0 (fun r m1 => r = zqGain P n c ∧ zGo 2 m0 m1) := by
  have bad : ¬ ((0 ≤ n ∧ n ≤ 4) ∧ (0 ≤ c ∧ c ≤ 8)) → -99 = zqGain P n c ∧ zGo 2 m0 m0 := fun z => ⟨(if_neg z).symm, (zGo.rf hC).le (by omega)⟩
  have e0 : m0.1 98 0 = P 98 0 := pv_f hP (by omega)
  have hf := hW.1
  refine zCt.of (by decide) (Nat.le_of_ble_eq_true rfl) (vc_X10_gain_0 (d := d) n c m0 i1 i2 (fun _ => ⟨fun q1 => ⟨fun q2 => ?_, fun q2 => bad (fun z => q2 z.2)⟩, fun q1 => bad (fun z => q1 z.1)⟩))
  rw [e0]
  refine ⟨fun q3 => ⟨by unfold zqGain; rw [if_pos ⟨q1, q2⟩, if_pos q3], (zGo.rf hC).le (by omega)⟩, fun q3 => ?_⟩
  refine (c_X10_go (d := d) hP hW q2 hC (by omega)).mono (fun _ m9 h => ?_)
  obtain ⟨-, g1, g2, g3, g4, g5, g6⟩ := h
  intro _ _
  have hP9 : pv m9.1 = P := g1.pv.trans hP
  rw [g4]
  refine (c_X10_stand (d := d + 3) hP9 (zE_facts hW).1).mono (fun _ m11 h => ?_)
  obtain ⟨-, f11, l11⟩ := h
  intro _ _
  have n11 : ∀ a k, ¬ (106 ≤ a ∧ a ≤ 108) → m11.1 a k = m9.1 a k := fun a k z => f11.1 a k z
  have hP11 : pv m11.1 = P := (f11.mono zTk_Sc).pv.trans hP9
  have e11 : m11.1 98 0 = P 98 0 := pv_f hP11 (by omega)
  refine ⟨q1.1, by omega, fun v14 e14 => ?_⟩
  rw [e11]
  refine ⟨inR_b (A := 100) (by omega) (by omega) rfl, fun m17 e17 _ => ?_⟩
  have hP17 : pv m17.1 = zFd P (P 98 0 + 1) := by rw [e17, pv_sI (Or.inl ⟨rfl, by omega, by omega⟩), hP11]; rfl
  have hW17 : zWf (zFd P (P 98 0 + 1)) := zFd_wf hW (by omega)
  have r17 : m17.1 98 18 = m9.1 98 18 := by rw [e17, sI_ne (Or.inr (by omega)), n11 _ _ (by omega)]
  have C17 : zCame m17 := by
    refine ⟨fun t a b => ?_, by rw [r17]; exact g3.2⟩
    rw [r17, e17, sI_ne (Or.inl (by omega)), n11 _ _ (by omega)]
    exact g3.1 t a b
  refine (c_X10_go (d := d) hP17 hW17 q2 C17 (by omega)).mono (fun _ m20 h => ?_)
  obtain ⟨-, k1, k2, k3, k4, k5, k6⟩ := h
  intro _ _
  have hP20 : pv m20.1 = zFd P (P 98 0 + 1) := k1.pv.trans hP17
  rw [k4]
  refine (c_X10_stand (d := d + 3) hP20 (zE_facts hW17).1).mono (fun _ m22 h => ?_)
  obtain ⟨-, f22, l22⟩ := h
  intro _ _ v23 e23
  have n22 : ∀ a k, ¬ (106 ≤ a ∧ a ≤ 108) → m22.1 a k = m20.1 a k := fun a k z => f22.1 a k z
  have e22 : m22.1 98 0 = P 98 0 + 1 := by
    have : m22.1 98 0 = zFd P (P 98 0 + 1) 98 0 := pv_f ((f22.mono zTk_Sc).pv.trans hP20) (by omega)
    rw [this, zFd_f]
  rw [e22]
  have a1 := zlv_le hW (zE_facts (c := c) hW).1 n
  have a2 := zlv_le hW17 (zE_facts (c := c) hW17).1 n
  rw [l11 n q1.1 q1.2] at e14
  rw [l22 n q1.1 q1.2] at e23
  refine ⟨inR_b (A := 100) (by omega) (by omega) rfl, fun m26 e26 _ => ⟨inR_b (A := 100) (by omega) (by omega) rfl, ?_, ⟨fun a k z => ?_, ?_⟩, ⟨fun t a b => ?_, ?_⟩, ?_⟩⟩
  · unfold zqGain; rw [if_pos ⟨q1, q2⟩, if_neg q3, e14, e23]
  · by_cases h98 : a = 98 ∧ k = 0
    · rw [h98.1, h98.2, e26, sI_eq, e0]; omega
    · rw [e26, sI_ne (by omega), n22 _ _ (fun y => z (zTk_Sc _ _ y)), k1.1 a k z, e17, sI_ne (by omega), n11 _ _ (fun y => z (zTk_Sc _ _ y)), g1.1 a k z]
  · rw [e26]; show m22.2 = m0.2; rw [f22.2, k1.2, e17]; show m11.2 = m0.2; rw [f11.2, g1.2]
  · rw [e26, sI_ne (Or.inl (by omega)), sI_ne (Or.inr (by omega)), n22 _ _ (by omega), n22 _ _ (by omega)]; exact k3.1 t a b
  · rw [e26, sI_ne (Or.inr (by omega)), n22 _ _ (by omega)]; exact k3.2
  · rw [e26, sI_ne (Or.inr (by omega)), n22 _ _ (by omega), k2, r17, g2]; omega
theorem zXS_T : zFl zXS m0 m0 := zFl.rf
theorem c_X9_gain {d : Nat} {n c : Int} (i1 : inR n) (i2 : inR c) (hW : zWf P) (hR : RQ m0 1 P) : zCt K (d + 5) mX9_gain [rr K 0, .int (iz n), .int (iz c)] m0 (fun r m1 => r = zqGain P n c ∧ zFl zXS m0 m1) := by
  have bad : ¬ ((0 ≤ n ∧ n ≤ 4) ∧ (0 ≤ c ∧ c ≤ 8)) → -99 = zqGain P n c ∧ zFl zXS m0 m0 := fun z => ⟨(if_neg z).symm, zFl.rf⟩
  have hf := hW.1
  refine zCt.of (by decide) (Nat.le_of_ble_eq_true rfl) (vc_X9_gain_0 (d := d) n c m0 i1 i2 (fun _ => ⟨fun q1 => ⟨fun q2 => ?_, fun q2 => bad (fun z => q2 z.2)⟩, fun q1 => bad (fun z => q1 z.1)⟩))
  rw [hR.1.1]
  refine ⟨fun q3 => ?_, fun q3 => ⟨by unfold zqGain; rw [if_pos ⟨q1, q2⟩, if_pos (by omega)], zFl.rf⟩⟩
  have hW1 : zWf (zFd P (P 98 0 + 1)) := zFd_wf hW (by omega)
  have s1 : zFd P (P 98 0 + 1) 98 1 = P 98 1 := zFd_ne (by omega)
  refine (c_X1_setUp (d := d) (Or.inl rfl) hW hR.1 q2 (by omega)).mono (fun _ m9 h => ?_)
  obtain ⟨-, f9, b9, l0, l1⟩ := h
  intro _ _
  have e9 : m9.1 1 9 = zFd P (P 98 0 + 1) 98 1 := by rw [s1, f9.1 _ _ (by unfold zBS; omega)]; exact hR.1.2.1
  rw [e9]
  refine (c_X1_walk (d := d + 1) hW1 (zFd_be b9) q2 l0 (by rw [zFd_f]; exact l1)).mono (fun _ m11 h => ?_)
  obtain ⟨-, w1, w2, w3, w4, w5, w6, w7⟩ := h
  intro _ _
  refine ⟨q1.1, by omega, fun v14 e14 => ?_⟩
  rw [w4 n q1.1 q1.2] at e14
  have hF11 : zFl zXS m0 m11 := (f9.tr w1).mono zBS_XS
  have hR11 := hR.fl hW (Or.inl rfl) hF11
  rw [hR11.1.1]
  refine (c_X1_setUp (d := d) (Or.inl rfl) hW hR11.1 q2 hW.1).mono (fun _ m17 h => ?_)
  obtain ⟨-, f17, b17, k0, k1⟩ := h
  intro _ _
  have e17 : m17.1 1 9 = P 98 1 := by rw [f17.1 _ _ (by unfold zBS; omega)]; exact hR11.1.2.1
  rw [e17]
  refine (c_X1_walk (d := d + 1) hW b17 q2 k0 k1).mono (fun _ m19 h => ?_)
  obtain ⟨-, y1, y2, y3, y4, y5, y6, y7⟩ := h
  intro _ _
  have a1 := zlv_le hW (zE_facts (c := c) hW).1 n
  have a2 := zlv_le hW1 (zE_facts (c := c) hW1).1 n
  rw [y4 n q1.1 q1.2]
  refine ⟨inR_b (A := 100) (by omega) (by omega) rfl, ?_, hF11.tr ((f17.tr y1).mono zBS_XS)⟩
  unfold zqGain; rw [if_pos ⟨q1, q2⟩, if_neg (by omega), e14]
/-- how many STATES below n are at REST -/
def zrN (P : F2) (c : Int) : Nat → Int
  | 0 => 0
  | k + 1 => zrN P c k + (if ztick P c (k : Int) = (k : Int) then 1 else 0)
theorem zrN_le (P : F2) (c : Int) : ∀ k : Nat, 0 ≤ zrN P c k ∧ zrN P c k ≤ k := by
  intro k
  induction k with
  | zero => exact ⟨Int.le_refl _, Int.le_refl _⟩
  | succ k ih => unfold zrN; split <;> omega
def zqRests (P : F2) (c : Int) : Int := if 0 ≤ c ∧ c ≤ 8 then zrN P c 9261 else -1
theorem t_rests_13 {d : Nat} {Q : Int → zM → Prop} {c : Int} (hP : pv m0.1 = P) (hW : zWf P) (hc : 0 ≤ c ∧ c ≤ 8) (hQ : ∀ m', zFr zTk m0 m' → Q (zrN P c 9261) m') :
    ∀ (n k : Nat), k + n = 9261 → ∀ m : zM, zFr zTk m0 m → zV K mX10_rests (d + 4) 13 [(0, rr K 98), (1, .int (iz c)), (2, .int (iz (zrN P c k))), (3, .int (iz (k : Int)))] [] m Q := by
  intro n
  induction n with
  | zero =>
    intro k hk m hF
    have hr := zrN_le P c k
    have hk9 : k = 9261 := by omega
    subst hk9
    exact vc_X10_rests_13 _ _ _ m (inR_b (A := 10) (by omega) (by omega) rfl) (inR_b (A := 10000) (by omega) (by omega) rfl) (inR_b (A := 10000) (by omega) (by omega) rfl) (fun _ => ⟨fun _ => hQ m hF, fun q => absurd (by omega) q⟩)
  | succ n ih =>
    intro k hk m hF
    have hr := zrN_le P c k
    refine vc_X10_rests_13 _ _ _ m (inR_b (A := 10) (by omega) (by omega) rfl) (inR_b (A := 10000) (by omega) (by omega) rfl) (inR_b (A := 10000) (by omega) (by omega) rfl) (fun _ => ⟨fun q => absurd q (by omega), fun _ => ?_⟩)
    refine (c_X10_ticks (d := d) ((hF.mono zTk_Sc).pv.trans hP) hW ⟨by omega, by omega⟩ hc).mono (fun r m3 h => ?_)
    obtain ⟨h1, h2⟩ := h
    intro _ _ v4 e4 v6 e6
    have hv : v6 = zrN P c (k + 1) := by rw [e6, e4, h1]; rfl
    rw [hv]
    exact ih (k + 1) (by omega) m3 (hF.tr h2)
theorem zGo_tk {m m1 : zM} (hC : zCame m) (f : zFr zTk m m1) : zGo 0 m m1 := by
  have n3 : ∀ a k, ¬ (106 ≤ a ∧ a ≤ 108) → m1.1 a k = m.1 a k := fun a k z => f.1 a k z
  exact ⟨f.mono zTk_Sc, ⟨fun t a b => by rw [n3 _ _ (by omega), n3 _ _ (by omega)]; exact hC.1 t a b, by rw [n3 _ _ (by omega)]; exact hC.2⟩, by rw [n3 _ _ (by omega)]; omega⟩
theorem c_X10_rests {d : Nat} {c : Int} (ic : inR c) (hP : pv m0.1 = P) (hW : zWf P) (hC : zCame m0) : zCt K (d + 4) mX10_rests [rr K 98, .int (iz c)] m0 (fun r m1 => r = zqRests P c ∧ zGo 0 m0 m1) :=
  zCt.of (by decide) (Nat.le_of_ble_eq_true rfl) (vc_X10_rests_0 (d := d) c m0 ic (fun _ => ⟨fun q => t_rests_13 hP hW q (fun m' h => ⟨by unfold zqRests; rw [if_pos q], zGo_tk hC h⟩) 9261 0 (by omega) m0 zFr.rf, fun q => ⟨(if_neg q).symm, zGo.rf hC⟩⟩))
/-- the i-th of those from k on -/
def zrA (P : F2) (c : Int) : Nat → Nat → Int → Int
  | 0, _, _ => -3
  | n + 1, k, i => if ztick P c (k : Int) = (k : Int) then (if i = 0 then (k : Int) else zrA P c n (k + 1) (i - 1)) else zrA P c n (k + 1) i
def zqRestAt (P : F2) (c i : Int) : Int := if 0 ≤ c ∧ c ≤ 8 then (if i < 0 then -3 else zrA P c 9261 0 i) else -1
theorem t_restAt_14 {d : Nat} {Q : Int → zM → Prop} {c i : Int} (ii : inR i) (hi : 0 ≤ i) (hP : pv m0.1 = P) (hW : zWf P) (hc : 0 ≤ c ∧ c ≤ 8) (R : Int) (hQ : ∀ m', zFr zTk m0 m' → Q R m') :
    ∀ (n k : Nat), k + n = 9261 → ∀ (l : Int), 0 ≤ l → l ≤ i → zrA P c n k l = R → ∀ m : zM, zFr zTk m0 m → zV K mX10_restAt (d + 4) 14 [(0, rr K 98), (1, .int (iz c)), (2, .int (iz i)), (3, .int (iz l)), (4, .int (iz (k : Int)))] [] m Q := by
  have := ii.2
  intro n
  induction n with
  | zero =>
    intro k hk l l0 l1 hR m hF
    have hR : R = -3 := hR.symm
    subst hR
    exact vc_X10_restAt_14 _ _ _ _ m (inR_b (A := 10) (by omega) (by omega) rfl) ii ⟨by omega, by omega⟩ (inR_b (A := 10000) (by omega) (by omega) rfl) (fun _ => ⟨fun _ => hQ m hF, fun q => absurd (by omega) q⟩)
  | succ n ih =>
    intro k hk l l0 l1 hR m hF
    refine vc_X10_restAt_14 _ _ _ _ m (inR_b (A := 10) (by omega) (by omega) rfl) ii ⟨by omega, by omega⟩ (inR_b (A := 10000) (by omega) (by omega) rfl) (fun _ => ⟨fun q => absurd q (by omega), fun _ => ⟨fun q => absurd q (by omega), fun _ => ?_⟩⟩)
    refine (c_X10_ticks (d := d) ((hF.mono zTk_Sc).pv.trans hP) hW ⟨by omega, by omega⟩ hc).mono (fun r m3 h => ?_)
    obtain ⟨h1, h2⟩ := h
    intro _ _
    rw [h1]
    unfold zrA at hR
    refine ⟨fun q => ?_, fun q => ?_⟩
    · rw [if_pos q] at hR
      refine ⟨fun z => ?_, fun z => ?_⟩
      · rw [if_pos z] at hR
        rw [hR]
        exact hQ m3 (hF.tr h2)
      · rw [if_neg z] at hR
        exact ih (k + 1) (by omega) (l + (-1)) (by omega) (by omega) hR m3 (hF.tr h2)
    · rw [if_neg q] at hR
      exact ih (k + 1) (by omega) l l0 l1 hR m3 (hF.tr h2)
theorem c_X10_restAt {d : Nat} {c i : Int} (ic : inR c) (ii : inR i) (hP : pv m0.1 = P) (hW : zWf P) (hC : zCame m0) : zCt K (d + 4) mX10_restAt [rr K 98, .int (iz c), .int (iz i)] m0 (fun r m1 => r = zqRestAt P c i ∧ zGo 0 m0 m1) := by
  refine zCt.of (by decide) (Nat.le_of_ble_eq_true rfl) (vc_X10_restAt_0 (d := d) c i m0 ic ii (fun _ => ⟨fun q => ?_, fun q => ⟨(if_neg q).symm, zGo.rf hC⟩⟩))
  by_cases hi : 0 ≤ i
  · exact t_restAt_14 ii hi hP hW q (zrA P c 9261 0 i) (fun m' h => ⟨by unfold zqRestAt; rw [if_pos q, if_neg (by omega)], zGo_tk hC h⟩) 9261 0 (by omega) i hi (Int.le_refl _) rfl m0 zFr.rf
  · refine vc_X10_restAt_14 _ _ _ _ m0 (inR_b (A := 10) (by omega) (by omega) rfl) ii ii (inR_b (A := 10000) (by omega) (by omega) rfl) (fun _ => ⟨fun z => absurd z (by omega), fun _ => ⟨fun _ => ⟨by unfold zqRestAt; rw [if_pos q, if_pos (by omega)], zGo.rf hC⟩, fun z => absurd (by omega) z⟩⟩)
end GN
