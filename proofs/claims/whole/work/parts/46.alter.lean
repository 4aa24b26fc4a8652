/-! ===== a PLAN with one number of a PART otherwise ===== -/
theorem zup_at {f : F2} {a k v b j : Int} : zup f a k v b j = if b = a ∧ j = k then v else f b j := rfl
theorem zup_up {f : F2} {a k v u : Int} : zup (zup f a k u) a k v = zup f a k v := by
  funext b j
  rw [zup_at, zup_at, zup_at]
  split <;> rfl
theorem zup_id {f : F2} {a k v : Int} (h : f a k = v) : zup f a k v = f := by
  funext b j
  rw [zup_at]
  split
  · rename_i q; rw [q.1, q.2]; exact h.symm
  · rfl
def zPt (P : F2) (p k v : Int) : F2 := zup P 100 (10 * p + k) v
section PT
variable {P : F2} {p k v u : Int}
theorem zPt_zp {q j : Int} (hk : 0 ≤ k ∧ k < 10) (hj : 0 ≤ j ∧ j < 10) : zp (zPt P p k v) q j = if q = p ∧ j = k then v else zp P q j := by
  unfold zp zPt
  rw [zup_at]
  by_cases h : q = p ∧ j = k
  · rw [if_pos h, if_pos ⟨rfl, by omega⟩]
  · rw [if_neg h, if_neg (by omega)]
theorem zPt_ne {a j : Int} (h : a ≠ 100) : zPt P p k v a j = P a j := by unfold zPt; rw [zup_at, if_neg (fun z => h z.1)]
theorem zPt_pt : zPt (zPt P p k u) p k v = zPt P p k v := zup_up
theorem zPt_id (h : zp P p k = v) : zPt P p k v = P := zup_id h
theorem zWf.parts {P' : F2} (hW : zWf P) (h : ∀ a k, a ≠ 100 → P' a k = P a k) (hp : ∀ p, 0 ≤ p → p < P 98 4 → zPartOk P' p) : zWf P' := by
  obtain ⟨h1, h2, h3, h4, h5, h6, h7, h8, h9, h10⟩ := hW
  have e98 : ∀ k, P' 98 k = P 98 k := fun k => h 98 k (by decide)
  have e99 : ∀ k, P' 99 k = P 99 k := fun k => h 99 k (by decide)
  have e101 : ∀ k, P' 101 k = P 101 k := fun k => h 101 k (by decide)
  have e102 : ∀ k, P' 102 k = P 102 k := fun k => h 102 k (by decide)
  have e103 : ∀ k, P' 103 k = P 103 k := fun k => h 103 k (by decide)
  exact ⟨by rw [e98]; exact h1, by rw [e98]; exact h2, by rw [e98]; exact h3, by rw [e98]; exact h4, by rw [e98]; exact h5, fun i a b => by rw [e98] at b; rw [e99]; exact h6 i a b, fun p a b => hp p a (by rw [e98] at b; exact b), fun p a b => by rw [e98] at b; unfold zOpenOk; rw [e101, e101]; exact h8 p a b, fun k a b => by rw [e98] at b; rw [e98, e102, e102]; exact h9 k a b, fun i a b => by rw [e103]; exact h10 i a b⟩
theorem zWish.parts {P' : F2} (hWi : zWish P) (h : ∀ a k, a ≠ 100 → P' a k = P a k) : zWish P' := by
  have e98 : P' 98 10 = P 98 10 := h 98 10 (by decide)
  have e104 : P' 104 = P 104 := funext (fun k => h 104 k (by decide))
  have e105 : P' 105 = P 105 := funext (fun k => h 105 k (by decide))
  have : zWish P' = zWish P := by unfold zWish zwM zwb; rw [e98, e104, e105]
  rw [this]
  exact hWi
theorem zWf.pt3 (hW : zWf P) (hv : 1 ≤ v ∧ v ≤ 9) : zWf (zPt P p 3 v) := by
  refine hW.parts (fun a j h => zPt_ne h) (fun q a b => ?_)
  obtain ⟨g0, g1, g2, g3, g4, g5, g6, g7⟩ := wf_part hW a b
  have e : ∀ j, 0 ≤ j ∧ j < 10 → j ≠ 3 → zp (zPt P p 3 v) q j = zp P q j := fun j hj h3 => by rw [zPt_zp (by omega) hj, if_neg (fun z => h3 z.2)]
  have e3 : 1 ≤ zp (zPt P p 3 v) q 3 ∧ zp (zPt P p 3 v) q 3 ≤ 9 := by rw [zPt_zp (by omega) (by omega)]; split; exact hv; exact g3
  unfold zPartOk
  rw [e 0 (by omega) (by omega), e 1 (by omega) (by omega), e 2 (by omega) (by omega), e 4 (by omega) (by omega), e 5 (by omega) (by omega), e 6 (by omega) (by omega), e 7 (by omega) (by omega), e 8 (by omega) (by omega), e 9 (by omega) (by omega), zPt_ne (by decide)]
  exact ⟨g0, g1, g2, e3, g4, g5, g6, g7⟩
theorem zWf.pt4 (hW : zWf P) (hv : 0 ≤ v ∧ v ≤ 2) : zWf (zPt P p 4 v) := by
  refine hW.parts (fun a j h => zPt_ne h) (fun q a b => ?_)
  obtain ⟨g0, g1, g2, g3, g4, g5, g6, g7⟩ := wf_part hW a b
  have e : ∀ j, 0 ≤ j ∧ j < 10 → j ≠ 4 → zp (zPt P p 4 v) q j = zp P q j := fun j hj h3 => by rw [zPt_zp (by omega) hj, if_neg (fun z => h3 z.2)]
  have e4 : 0 ≤ zp (zPt P p 4 v) q 4 ∧ zp (zPt P p 4 v) q 4 ≤ 2 := by rw [zPt_zp (by omega) (by omega)]; split; exact hv; exact g4
  unfold zPartOk
  rw [e 0 (by omega) (by omega), e 1 (by omega) (by omega), e 2 (by omega) (by omega), e 3 (by omega) (by omega), e 5 (by omega) (by omega), e 6 (by omega) (by omega), e 7 (by omega) (by omega), e 8 (by omega) (by omega), e 9 (by omega) (by omega), zPt_ne (by decide)]
  exact ⟨g0, g1, g2, g3, e4, g5, g6, g7⟩
theorem zWish.pt (hWi : zWish P) : zWish (zPt P p k v) := hWi.parts (fun _ _ h => zPt_ne h)
theorem RW.parts {P' : F2} {m : zM} {w : Int} (hR : RW m w P) (h : ∀ a k, a ≠ 100 → P' a k = P a k) : RW m w P' := by
  have e98 : P' 98 10 = P 98 10 := h 98 10 (by decide)
  have e104 : P' 104 = P 104 := funext (fun k => h 104 k (by decide))
  have e105 : P' 105 = P 105 := funext (fun k => h 105 k (by decide))
  have : RW m w P' = RW m w P := by unfold RW zwM zwb; rw [e98, e104, e105]
  rw [this]
  exact hR
theorem RP.parts {P' : F2} {m m' : zM} {pl : Int} (hR : RP m pl P) (h : ∀ a k, a ≠ 100 → P' a k = P a k) (hm : ∀ a k, ¬ (pl + 9 ≤ a ∧ k < 10) → m'.1 a k = m.1 a k) (hp : ∀ p k, 0 ≤ p → p < P 98 4 → 0 ≤ k → k < 10 → m'.1 (pl + 9 + p) k = zp P' p k) : RP m' pl P' := by
  obtain ⟨h1, h2, h3, h4, h5, h6, h7, h8, h9, h10⟩ := hR
  have e98 : ∀ k, P' 98 k = P 98 k := fun k => h 98 k (by decide)
  have e99 : ∀ k, P' 99 k = P 99 k := fun k => h 99 k (by decide)
  have e101 : ∀ k, P' 101 k = P 101 k := fun k => h 101 k (by decide)
  have e102 : ∀ k, P' 102 k = P 102 k := fun k => h 102 k (by decide)
  have e103 : ∀ k, P' 103 k = P 103 k := fun k => h 103 k (by decide)
  refine ⟨by rw [e98, hm _ _ (by omega)]; exact h1, by rw [e98, hm _ _ (by omega)]; exact h2, by rw [e98, hm _ _ (by omega)]; exact h3, by rw [e98, hm _ _ (by omega)]; exact h4, by rw [e98, hm _ _ (by omega)]; exact h5, fun i a b => by rw [e98] at b; rw [e99, hm _ _ (by omega)]; exact h6 i a b, fun p k a b c e => hp p k a (by rw [e98] at b; exact b) c e, fun p a b => by rw [e98] at b; rw [e101, e101, hm _ _ (by omega), hm _ _ (by omega)]; exact h8 p a b, fun k a b => by rw [e98] at b; rw [e102, e102, hm _ _ (by omega), hm _ _ (by omega)]; exact h9 k a b, fun i a b => by rw [e103, hm _ _ (by omega)]; exact h10 i a b⟩
theorem RQ.pt {m m' : zM} {pl : Int} (hR : RQ m pl P) (hp : 0 ≤ p ∧ p < 10) (hk : 0 ≤ k ∧ k < 10) (e : m' = sI m (pl + 9 + p) k v) : RQ m' pl (zPt P p k v) := by
  refine ⟨hR.1.parts (fun a j h => zPt_ne h) (fun a j h => by rw [e, sI_ne (by omega)]) (fun q j q0 q1 j0 j1 => ?_), RW.parts (hR.2.kept (fun a j h1 h2 => by rw [e, sI_ne (Or.inl (by omega))])) (fun a j h => zPt_ne h)⟩
  rw [e, sI_at, zPt_zp hk ⟨j0, j1⟩]
  by_cases z : q = p ∧ j = k
  · rw [if_pos z, if_pos (by omega)]
  · rw [if_neg z, if_neg (by omega)]
    exact hR.1.part q0 q1 j ⟨j0, j1⟩
end PT
/-! the frames of what only asks: on the class's side, on the reference's -/
def zXX (a _k : Int) : Prop := (39 ≤ a ∧ a ≤ 55) ∨ (64 ≤ a ∧ a ≤ 86)
theorem zXS_XX : ∀ a k, zXS a k → zXX a k := fun a k h => by unfold zXS at h; unfold zXX; omega
theorem zXR_XX : ∀ a k, zXR a k → zXX a k := fun a k h => by unfold zXR zXS at h; unfold zXX; omega
theorem RQ.xx {P : F2} {m m' : zM} {pl : Int} (hW : zWf P) (hpl : pl = 1 ∨ pl = 20) (h : RQ m pl P) (hf : zFl zXX m m') : RQ m' pl P := h.kept hW (fun a k x y => hf.1 a k (by unfold zXX; omega))
def zSd (a k : Int) : Prop := zSc a k ∨ (a = 98 ∧ 39 ≤ k ∧ k ≤ 40) ∨ (116 ≤ a ∧ a ≤ 119) ∨ a = 121
def zSe (a k : Int) : Prop := zSd a k ∨ a = 100
def zGd (n : Int) (m m1 : zM) : Prop := zFr zSd m m1 ∧ zCame m1 ∧ m1.1 98 18 ≤ m.1 98 18 + n
def zGe (n : Int) (m m1 : zM) : Prop := zFr zSe m m1 ∧ zCame m1 ∧ m1.1 98 18 ≤ m.1 98 18 + n
theorem zCame.k {m m' : zM} (h : zCame m) (h1 : ∀ t, m'.1 109 t = m.1 109 t) (h2 : m'.1 98 18 = m.1 98 18) : zCame m' := ⟨fun t a b => by rw [h1, h2]; exact h.1 t a b, by rw [h2]; exact h.2⟩
theorem zGe.put {n : Int} {m m1 m2 : zM} {a k v : Int} (h : zGe n m m1) (e : m2 = sI m1 a k v) (hs : zSe a k) (hn : ¬ zSc a k) : zGe n m m2 := by
  unfold zSc at hn
  refine ⟨h.1.put e hs, h.2.1.k (fun t => ?_) ?_, ?_⟩
  · rw [e, sI_ne (by omega)]
  · rw [e, sI_ne (by omega)]
  · rw [e, sI_ne (by omega)]; exact h.2.2
theorem zGe.tr {a b : Int} {m m1 m2 : zM} (h : zGe a m m1) (h2 : zGe b m1 m2) : zGe (a + b) m m2 := ⟨h.1.tr h2.1, h2.2.1, by have := h.2.2; have := h2.2.2; omega⟩
theorem zGe.le {a b : Int} {m m1 : zM} (h : zGe a m m1) (hab : a ≤ b) : zGe b m m1 := ⟨h.1, h.2.1, by have := h.2.2; omega⟩
theorem zGe.rf {m : zM} (h : zCame m) : zGe 0 m m := ⟨zFr.rf, h, by omega⟩
theorem zGo.e {n : Int} {m m1 : zM} (h : zGo n m m1) : zGe n m m1 := ⟨h.1.mono (fun _ _ q => Or.inl (Or.inl q)), h.2⟩
theorem zGo.d {n : Int} {m m1 : zM} (h : zGo n m m1) : zGd n m m1 := ⟨h.1.mono (fun _ _ q => Or.inl q), h.2⟩
theorem zGd.e {n : Int} {m m1 : zM} (h : zGd n m m1) : zGe n m m1 := ⟨h.1.mono (fun _ _ q => Or.inl q), h.2⟩
theorem zGd.le {a b : Int} {m m1 : zM} (h : zGd a m m1) (hab : a ≤ b) : zGd b m m1 := ⟨h.1, h.2.1, by have := h.2.2; omega⟩
theorem zGe.back {n : Int} {m m1 : zM} (h : zGe n m m1) (hp : pv m1.1 = pv m.1) : zGd n m m1 := by
  refine ⟨⟨fun a k q => ?_, h.1.2⟩, h.2⟩
  by_cases z : a = 100
  · have := congrFun (congrFun hp a) k
    rw [pv_at (Or.inr (by omega)), pv_at (Or.inr (by omega))] at this
    exact this
  · exact h.1.1 a k (fun y => y.elim q z)
theorem zGd.pv {n : Int} {m m1 : zM} (h : zGd n m m1) : pv m1.1 = pv m.1 := pv_eq (fun a k q => h.1.1 a k (by unfold zSd zSc; omega))
theorem pv_pt {P : F2} {m m' : zM} {p k v : Int} (hP : pv m.1 = P) (e : m' = sI m 100 (10 * p + k) v) : pv m'.1 = zPt P p k v := by
  rw [e, pv_sI (Or.inr (by omega)), hP]; rfl
/-! ===== far, falls ===== -/
noncomputable def zfr (P : F2) (p w : Int) : Nat → Int → Int
  | 0, n => n
  | k + 1, n => if (1 ≤ zp P p 3 + w * (n + 1) ∧ zp P p 3 + w * (n + 1) ≤ 9) ∧ zmiss (zPt P p 3 (zp P p 3 + w * (n + 1))) = 0 then zfr P p w k (n + 1) else n
noncomputable def zqFar (P : F2) (p up : Int) : Int := if 0 ≤ p ∧ p < P 98 4 then (if zmiss P = 0 then zfr P p (if up = 0 then -1 else 1) 9 0 else -5) else -1
noncomputable def zqFalls (P : F2) (p how : Int) : Int := if 0 ≤ p ∧ p < P 98 4 then (if 1 ≤ how ∧ how ≤ 2 then zand (zmiss (zPt P p 4 how)) (zxor (zmiss (zPt P p 4 0)) (-1)) else -1) else -1
section XF
variable {K : zCx} {P : F2} {m0 : zM}
theorem t_reach_22 {d : Nat} {Q : Int → zM → Prop} {p w : Int} (hW : zWf P) (hWi : zWish P) (hR : RQ m0 1 P) (h0 : 0 ≤ p) (h1 : p < P 98 4) (hw : w = 1 ∨ w = -1) :
    ∀ (k n : Nat), k + n = 9 → ∀ (m : zM) (u : Int), zFl zXX m0 m → RQ m 67 (zPt P p 3 u) → (1 ≤ u ∧ u ≤ 9) → (∀ m', zFl zXX m0 m' → Q (zfr P p w k (n : Int)) m') → zV K mX7_reach (d + 7) 22 [(0, rr K 64), (1, rr K 1), (2, .int (iz p)), (3, .int (iz w)), (4, .int (iz ((n : Int) + 1)))] [] m Q := by
  have h4 := hW.2.2.2.1
  have ip : inR p := inR_b (A := 10) (by omega) (by omega) rfl
  have iw : inR w := inR_b (A := 10) (by omega) (by omega) rfl
  intro k
  induction k with
  | zero =>
    intro n hn m u hF _ _ hQ
    have : n = 9 := by omega
    subst this
    exact vc_X7_reach_22 p w _ 1 m ip iw (inR_b (A := 100) (by omega) (by omega) rfl) (Or.inl rfl) (fun _ => ⟨fun _ => hQ m hF, fun q => absurd (by omega) q⟩)
  | succ k ih =>
    intro n hn m u hF hT hu hQ
    have hR1 := hR.xx hW (Or.inl rfl) hF
    have e3 : m.1 (1 + 9 + p) 3 = zp P p 3 := hR1.1.part h0 h1 3 (by omega)
    obtain ⟨-, -, -, g3, -⟩ := wf_part hW h0 h1
    refine vc_X7_reach_22 p w _ 1 m ip iw (inR_b (A := 100) (by omega) (by omega) rfl) (Or.inl rfl) (fun _ => ⟨fun q => absurd q (by omega), fun _ => ⟨h0, by omega, fun v4 e4 => ?_⟩⟩)
    have ev : v4 = zp P p 3 + w * ((n : Int) + 1) := by rw [e4, e3, Int.mul_comm]
    have hiv : inR v4 := by rcases hw with rfl | rfl <;> exact inR_b (A := 1000) (by omega) (by omega) rfl
    have hfr : zfr P p w (k + 1) (n : Int) = if (1 ≤ zp P p 3 + w * ((n : Int) + 1) ∧ zp P p 3 + w * ((n : Int) + 1) ≤ 9) ∧ zmiss (zPt P p 3 (zp P p 3 + w * ((n : Int) + 1))) = 0 then zfr P p w k ((n : Int) + 1) else n := rfl
    rw [← ev] at hfr
    have en : (n : Int) + 1 - 1 = n := by omega
    refine ⟨hiv, fun hv m10 e10 _ => ?_, fun hv => ⟨inR_b (A := 1000) (by omega) (by omega) rfl, ?_⟩⟩
    · rw [show (76 + p : Int) = 67 + 9 + p by omega] at e10
      have hT10 : RQ m10 67 (zPt P p 3 v4) := by
        have := hT.pt (p := p) (k := 3) (v := v4) (by omega) (by omega) e10
        rw [zPt_pt] at this
        exact this
      have hF10 : zFl zXX m0 m10 := hF.put e10 (Or.inr (by omega))
      refine (c_X7_allMet (d := d) (Or.inr (Or.inr rfl)) (hW.pt3 hv) hWi.pt hT10).mono (fun r12 m13 h => ?_)
      obtain ⟨hr, f13⟩ := h
      intro _ _
      have hF13 : zFl zXX m0 m13 := hF10.tr (f13.mono zXS_XX)
      have hT13 : RQ m13 67 (zPt P p 3 v4) := hT10.fl (hW.pt3 hv) (Or.inr (Or.inr rfl)) f13
      refine ⟨fun z => ⟨inR_b (A := 1000) (by omega) (by omega) rfl, ?_⟩, fun z => ih (n + 1) (by omega) m13 v4 hF13 hT13 hv (fun m' hm' => ?_)⟩
      · have hz : ¬ zmiss (zPt P p 3 v4) = 0 := b2i_fp (by rw [← hr]; exact z)
        have := hQ m13 hF13
        rw [hfr, if_neg (fun y => hz y.2)] at this
        rw [en]
        exact this
      · have hz : zmiss (zPt P p 3 v4) = 0 := b2i_tp (by rw [← hr]; exact z)
        have := hQ m' hm'
        rw [hfr, if_pos ⟨hv, hz⟩] at this
        exact this
    · have := hQ m hF
      rw [hfr, if_neg (fun y => hv y.1)] at this
      rw [en]
      exact this
theorem c_X9_far {d : Nat} {p up : Int} (ip : inR p) (iu : inR up) (hW : zWf P) (hWi : zWish P) (hR : RQ m0 1 P) : zCt K (d + 8) mX9_far [rr K 0, .int (iz p), .int (iz up)] m0 (fun r m1 => r = zqFar P p up ∧ zFl zXX m0 m1) := by
  have h4 := hW.2.2.2.1
  have e6 : m0.1 1 6 = P 98 4 := hR.1.2.2.2.1
  refine zCt.of (by decide) (Nat.le_of_ble_eq_true rfl) (vc_X9_far_0 (d := d) p up m0 ip iu (fun _ => ?_))
  rw [e6]
  refine ⟨h4.1, fun hp v5 e5 => ?_, fun hp => ⟨(if_neg hp).symm, zFl.rf⟩⟩
  have hq : zqFar P p up = if zmiss P = 0 then zfr P p v5 9 0 else -5 := by unfold zqFar; rw [if_pos hp, ← e5]
  have hv5 : v5 = 1 ∨ v5 = -1 := by rw [e5]; split <;> omega
  have iv : inR v5 := inR_b (A := 10) (by omega) (by omega) rfl
  obtain ⟨-, -, -, g3, -⟩ := wf_part hW hp.1 hp.2
  refine (zCt.of (by decide) (Nat.le_of_ble_eq_true rfl) (vc_X7_reach_0 (d := d) 1 p v5 m0 (Or.inl rfl) ip iv (Q := fun r m1 => r = zqFar P p up ∧ zFl zXX m0 m1) (fun _ => ?_))).mono (fun r m1 h _ _ => h)
  refine (c_X7_allMet (d := d) (Or.inl rfl) hW hWi hR).mono (fun r1 m2 h => ?_)
  obtain ⟨hr, f2⟩ := h
  intro _ _
  refine ⟨fun z => ⟨?_, f2.mono zXS_XX⟩, fun z => ?_⟩
  · rw [hq, if_neg (b2i_fp (by rw [← hr]; exact z))]
  · have hz : zmiss P = 0 := b2i_tp (by rw [← hr]; exact z)
    have hR2 : RQ m2 1 P := hR.fl hW (Or.inl rfl) f2
    refine (c_X4_copyFrom (d := d + 3) (Or.inr (Or.inr rfl)) (Or.inl rfl) (by decide) hW hWi hR2).mono (fun r4 m5 h => ?_)
    obtain ⟨-, f5, hT5⟩ := h
    intro _ _
    have hF5 : zFl zXX m0 m5 := (f2.mono zXS_XX).tr (f5.l.mono (fun a k h => by unfold zXX; omega))
    refine t_reach_22 hW hWi hR hp.1 hp.2 hv5 9 0 (by omega) m5 (zp P p 3) hF5 (by rw [zPt_id rfl]; exact hT5) g3 (fun m' hm' => ⟨?_, hm'⟩)
    rw [hq, if_pos hz]
    rfl
theorem c_X9_falls {d : Nat} {p how : Int} (ip : inR p) (ih : inR how) (hW : zWf P) (hWi : zWish P) (hR : RQ m0 1 P) : zCt K (d + 8) mX9_falls [rr K 0, .int (iz p), .int (iz how)] m0 (fun r m1 => r = zqFalls P p how ∧ zFl zXX m0 m1) := by
  have h4 := hW.2.2.2.1
  have e6 : m0.1 1 6 = P 98 4 := hR.1.2.2.2.1
  refine zCt.of (by decide) (Nat.le_of_ble_eq_true rfl) (vc_X9_falls_0 (d := d) p how m0 ip ih (fun _ => ?_))
  rw [e6]
  refine ⟨h4.1, fun hp => ⟨fun hh => ?_, fun hh => ⟨?_, zFl.rf⟩⟩, fun hp => ⟨(if_neg hp).symm, zFl.rf⟩⟩
  · refine (zCt.of (by decide) (Nat.le_of_ble_eq_true rfl) (vc_X7_fallen_0 (d := d) 1 p how m0 (Or.inl rfl) ip ih (Q := fun r m1 => r = zqFalls P p how ∧ zFl zXX m0 m1) (fun _ => ?_))).mono (fun r m1 h _ _ => h)
    refine (c_X4_copyFrom (d := d + 3) (Or.inr (Or.inr rfl)) (Or.inl rfl) (by decide) hW hWi hR).mono (fun r1 m2 h => ?_)
    obtain ⟨-, f2, hT2⟩ := h
    intro _ _
    have hF2 : zFl zXX m0 m2 := f2.l.mono (fun a k h => by unfold zXX; omega)
    refine ⟨hp.1, by omega, fun m5 e5 _ => ?_⟩
    rw [show (76 + p : Int) = 67 + 9 + p by omega] at e5 ⊢
    have hT5 := hT2.pt (p := p) (k := 4) (v := how) (by omega) (by omega) e5
    have hF5 : zFl zXX m0 m5 := hF2.put e5 (Or.inr (by omega))
    have hW5 : zWf (zPt P p 4 how) := hW.pt4 (by omega)
    refine (c_X7_missing (d := d) (Or.inr (Or.inr rfl)) hW5 hWi.pt hT5).mono (fun r7 m8 h => ?_)
    obtain ⟨hr7, f8⟩ := h
    intro _ _ m9 e9 _
    have hT9 : RQ m9 67 (zPt P p 4 0) := by
      have := (hT5.fl hW5 (Or.inr (Or.inr rfl)) f8).pt (p := p) (k := 4) (v := 0) (by omega) (by omega) e9
      rw [zPt_pt] at this
      exact this
    have hF9 : zFl zXX m0 m9 := (hF5.tr (f8.mono zXS_XX)).put e9 (Or.inr (by omega))
    refine (c_X7_missing (d := d) (Or.inr (Or.inr rfl)) (hW.pt4 (by omega)) hWi.pt hT9).mono (fun r11 m12 h => ?_)
    obtain ⟨hr11, f12⟩ := h
    intro _ _
    refine ⟨?_, hF9.tr (f12.mono zXS_XX)⟩
    unfold zqFalls
    rw [if_pos hp, if_pos hh, hr7, hr11]
  · unfold zqFalls
    rw [if_pos hp, if_neg hh]
theorem t_far_33 {d : Nat} {p up w : Int} (hP : pv m0.1 = P) (hW : zWf P) (hWi : zWish P) (h0 : 0 ≤ p) (h1 : p < P 98 4) (iu : inR up) (hw : w = if up = 0 then -1 else 1) (hB : m0.1 98 18 ≤ 1000000000) :
    ∀ (k n : Nat), k + n = 9 → ∀ (m : zM) (u : Int), zGe (9 * (n : Int) + 9) m0 m → pv m.1 = zPt P p 3 u → (1 ≤ u ∧ u ≤ 9) → zV K mX10_far (d + 7) 33 [(0, rr K 98), (1, .int (iz p)), (2, .int (iz up)), (3, .int (iz (zp P p 3))), (4, .int (iz (n : Int))), (5, .int (iz 1))] [] m (fun r m1 => r = zfr P p w k (n : Int) ∧ zGd 200 m0 m1) := by
  have h4 := hW.2.2.2.1
  have ip : inR p := inR_b (A := 10) (by omega) (by omega) rfl
  obtain ⟨-, -, -, g3, -⟩ := wf_part hW h0 h1
  have i3 : inR (zp P p 3) := inR_b (A := 10) (by omega) (by omega) rfl
  have fin : ∀ (n : Nat) (m : zM) (u R : Int), n ≤ 10 → zGe 200 m0 m → pv m.1 = zPt P p 3 u → R = n → zV K mX10_far (d + 7) 33 [(0, rr K 98), (1, .int (iz p)), (2, .int (iz up)), (3, .int (iz (zp P p 3))), (4, .int (iz (n : Int))), (5, .int (iz 0))] [] m (fun r m1 => r = R ∧ zGd 200 m0 m1) := by
    intro n m u R hn hG hm hR
    refine vc_X10_far_33 p up (zp P p 3) n 0 m ip iu i3 (inR_b (A := 100) (by omega) (by omega) rfl) (inRd rfl) (fun _ => ⟨fun _ => ⟨by omega, by omega, fun m4 e4 _ => ⟨hR.symm, zGe.back (hG.put e4 (Or.inr rfl) (by unfold zSc; omega)) ?_⟩⟩, fun q => absurd rfl q⟩)
    rw [pv_pt hm e4, zPt_pt, zPt_id rfl, hP]
  intro k
  induction k with
  | zero =>
    intro n hn m u hG hm hu
    have : n = 9 := by omega
    subst this
    refine vc_X10_far_33 p up (zp P p 3) _ 1 m ip iu i3 (inR_b (A := 100) (by omega) (by omega) rfl) (inRd rfl) (fun _ => ⟨fun q => absurd q (by decide), fun _ v6 e6 => ⟨?_, fun v11 e11 => ?_⟩⟩)
    · rw [e6]; split <;> exact inR_b (A := 1000) (by omega) (by omega) rfl
    · have hv : ¬ (1 ≤ v6 ∧ v6 ≤ 9) := by rw [e6]; split <;> omega
      rw [b2i_n hv] at e11
      refine ⟨fun q => ?_, fun q => absurd e11 q⟩
      rw [e11]
      exact fin 9 m u _ (by omega) (hG.le (by omega)) hm rfl
  | succ k ih =>
    intro n hn m u hG hm hu
    refine vc_X10_far_33 p up (zp P p 3) _ 1 m ip iu i3 (inR_b (A := 100) (by omega) (by omega) rfl) (inRd rfl) (fun _ => ⟨fun q => absurd q (by decide), fun _ v6 e6 => ⟨?_, fun v11 e11 => ?_⟩⟩)
    · rw [e6]; split <;> exact inR_b (A := 1000) (by omega) (by omega) rfl
    · have ev : v6 = zp P p 3 + w * ((n : Int) + 1) := by rw [e6, hw]; split <;> omega
      have hfr : zfr P p w (k + 1) (n : Int) = if (1 ≤ zp P p 3 + w * ((n : Int) + 1) ∧ zp P p 3 + w * ((n : Int) + 1) ≤ 9) ∧ zmiss (zPt P p 3 (zp P p 3 + w * ((n : Int) + 1))) = 0 then zfr P p w k ((n : Int) + 1) else n := rfl
      rw [← ev] at hfr
      refine ⟨fun q => ?_, fun q => ⟨by omega, by omega, fun m16 e16 _ => ?_⟩⟩
      · have hv : ¬ (1 ≤ v6 ∧ v6 ≤ 9) := b2i_fp (by rw [← e11]; exact q)
        rw [q, hfr, if_neg (fun y => hv y.1)]
        exact fin n m u _ (by omega) (hG.le (by omega)) hm rfl
      · have hv : 1 ≤ v6 ∧ v6 ≤ 9 := b2i_tp (by rw [← e11]; exact q)
        have hm16 : pv m16.1 = zPt P p 3 v6 := by rw [pv_pt hm e16, zPt_pt]
        have hG16 := hG.put e16 (Or.inr rfl) (by unfold zSc; omega)
        refine (c_X10_missing (d := d) hm16 (hW.pt3 hv) hWi.pt hG16.2.1 (by have := hG16.2.2; omega)).mono (fun r18 m19 h => ?_)
        obtain ⟨hr, g19⟩ := h
        intro _ _ v20 e20 v22 e22 v24 e24
        have hm19 : pv m19.1 = zPt P p 3 v6 := by rw [g19.1.pv]; exact hm16
        have hG19 := hG16.tr g19.e
        by_cases z : r18 = 0
        · rw [if_pos z] at e20
          rw [e20, if_neg (by decide)] at e22
          have e : v24 = ((n + 1 : Nat) : Int) := by omega
          rw [e20, e, hfr, if_pos ⟨hv, by rw [← hr]; exact z⟩]
          exact ih (n + 1) (by omega) m19 v6 (hG19.le (by omega)) hm19 hv
        · rw [if_neg z] at e20
          rw [e20, if_pos rfl] at e22
          have e : v24 = (n : Int) := by omega
          rw [e20, e, hfr, if_neg (fun y => z (by rw [hr]; exact y.2))]
          exact fin n m19 v6 _ (by omega) (hG19.le (by omega)) hm19 rfl
theorem c_X10_far {d : Nat} {p up : Int} (ip : inR p) (iu : inR up) (hP : pv m0.1 = P) (hW : zWf P) (hWi : zWish P) (hC : zCame m0) (hB : m0.1 98 18 ≤ 1000000000) : zCt K (d + 7) mX10_far [rr K 98, .int (iz p), .int (iz up)] m0 (fun r m1 => r = zqFar P p up ∧ zGd 200 m0 m1) := by
  have h4 := hW.2.2.2.1
  have e4 : m0.1 98 4 = P 98 4 := pv_f hP (by omega)
  have hC0 := ((zGo.rf hC).d).le (show (0 : Int) ≤ 200 by omega)
  refine zCt.of (by decide) (Nat.le_of_ble_eq_true rfl) (vc_X10_far_0 (d := d) p up m0 ip iu (fun _ => ?_))
  rw [e4]
  refine ⟨h4.1, fun hp => ?_, fun hp => ⟨(if_neg hp).symm, hC0⟩⟩
  obtain ⟨-, -, -, g3, -⟩ := wf_part hW hp.1 hp.2
  refine (c_X10_missing (d := d) hP hW hWi hC (by omega)).mono (fun r5 m6 h => ?_)
  obtain ⟨hr, g6⟩ := h
  intro _ _
  have hm6 : pv m6.1 = P := by rw [g6.1.pv]; exact hP
  have hq : zqFar P p up = if zmiss P = 0 then zfr P p (if up = 0 then -1 else 1) 9 0 else -5 := by unfold zqFar; rw [if_pos hp]
  refine ⟨fun z => ⟨by omega, by omega, fun v12 e12 => ?_⟩, fun z => ⟨?_, g6.d.le (by omega)⟩⟩
  · have ev : v12 = zp P p 3 := by rw [e12, pv_r hm6 (by omega)]; rfl
    rw [ev, hq, if_pos (by rw [← hr]; exact z)]
    exact t_far_33 hP hW hWi hp.1 hp.2 iu rfl hB 9 0 (by omega) m6 (zp P p 3) (g6.e.le (by omega)) (by rw [zPt_id rfl]; exact hm6) g3
  · rw [hq, if_neg (by rw [← hr]; exact z)]
theorem c_X10_falls {d : Nat} {p how : Int} (ip : inR p) (ih : inR how) (hP : pv m0.1 = P) (hW : zWf P) (hWi : zWish P) (hC : zCame m0) (hB : m0.1 98 18 ≤ 1000000000) : zCt K (d + 7) mX10_falls [rr K 98, .int (iz p), .int (iz how)] m0 (fun r m1 => r = zqFalls P p how ∧ zGd 200 m0 m1) := by
  have h4 := hW.2.2.2.1
  have e4 : m0.1 98 4 = P 98 4 := pv_f hP (by omega)
  have hC0 := ((zGo.rf hC).d).le (show (0 : Int) ≤ 200 by omega)
  refine zCt.of (by decide) (Nat.le_of_ble_eq_true rfl) (vc_X10_falls_0 (d := d) p how m0 ip ih (fun _ => ?_))
  rw [e4]
  refine ⟨h4.1, fun hp => ⟨fun hh => ⟨by omega, by omega, fun v12 e12 => ⟨by omega, by omega, fun m16 e16 _ => ?_⟩⟩, fun hh => ⟨?_, hC0⟩⟩, fun hp => ⟨(if_neg hp).symm, hC0⟩⟩
  · have hm16 : pv m16.1 = zPt P p 4 0 := pv_pt hP e16
    have hG16 := (zGe.rf hC).put e16 (Or.inr rfl) (by unfold zSc; omega)
    refine (c_X10_missing (d := d) hm16 (hW.pt4 (by omega)) hWi.pt hG16.2.1 (by have := hG16.2.2; omega)).mono (fun r18 m19 h => ?_)
    obtain ⟨hr18, g19⟩ := h
    intro _ _ m20 e20 _
    have hm20 : pv m20.1 = zPt P p 4 how := by rw [pv_pt (g19.1.pv.trans hm16) e20, zPt_pt]
    have hG20 := (hG16.tr g19.e).put e20 (Or.inr rfl) (by unfold zSc; omega)
    refine (c_X10_missing (d := d) hm20 (hW.pt4 (by omega)) hWi.pt hG20.2.1 (by have := hG20.2.2; omega)).mono (fun r22 m23 h => ?_)
    obtain ⟨hr22, g23⟩ := h
    intro _ _ m24 e24 _
    have hG24 := (hG20.tr g23.e).put e24 (Or.inr rfl) (by unfold zSc; omega)
    have hv : v12 = zp P p 4 := by rw [e12, pv_r hP (by omega)]; rfl
    refine ⟨?_, (zGe.back hG24 ?_).le (by omega)⟩
    · unfold zqFalls
      rw [if_pos hp, if_pos hh, hr18, hr22]
    · rw [pv_pt (g23.1.pv.trans hm20) e24, zPt_pt, zPt_id hv.symm, hP]
  · unfold zqFalls
    rw [if_pos hp, if_neg hh]
end XF
