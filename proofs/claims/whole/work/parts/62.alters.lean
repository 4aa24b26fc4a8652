/-! ===== calls that alter the plan: both sides ===== -/
def zPv (a k : Int) : Prop := (a = 98 ∧ 0 ≤ k ∧ k ≤ 17) ∨ (99 ≤ a ∧ a ≤ 105)
def zPn (a _k : Int) : Prop := 1 ≤ a ∧ a ≤ 19
section AL
variable {P P' : F2} {p v : Int}
theorem zoN_c (h : ∀ k, P' 101 k = P 101 k) : ∀ k, zoN P' k = zoN P k := by
  intro k
  induction k with
  | zero => rfl
  | succ k ih => rw [zoN_s, zoN_s, ih, h]
theorem zoc_c (h : ∀ k, P' 101 k = P 101 k) (h4 : P' 98 4 = P 98 4) : zoc P' = zoc P := by unfold zoc; rw [h4, zoN_c h]
theorem zWish.c (hWi : zWish P) (h10 : P' 98 10 = P 98 10) (h104 : ∀ k, P' 104 k = P 104 k) (h105 : ∀ k, P' 105 k = P 105 k) : zWish P' := by
  have e104 : P' 104 = P 104 := funext h104
  have e105 : P' 105 = P 105 := funext h105
  have : zWish P' = zWish P := by unfold zWish zwM zwb; rw [h10, e104, e105]
  rw [this]
  exact hWi
theorem RW.c {m : zM} {w : Int} (hR : RW m w P) (h10 : P' 98 10 = P 98 10) (h104 : ∀ k, P' 104 k = P 104 k) (h105 : ∀ k, P' 105 k = P 105 k) : RW m w P' := by
  have e104 : P' 104 = P 104 := funext h104
  have e105 : P' 105 = P 105 := funext h105
  have : RW m w P' = RW m w P := by unfold RW zwM zwb; rw [h10, e104, e105]
  rw [this]
  exact hR
theorem zPartOk.c (h : zPartOk P p) (h100 : ∀ k, P' 100 k = P 100 k) (h2 : P 98 2 ≤ P' 98 2) : zPartOk P' p := by
  have e : ∀ k, zp P' p k = zp P p k := fun k => h100 _
  obtain ⟨g0, g1, g2, g3, g4, g5, g6, g7⟩ := h
  unfold zPartOk
  rw [e, e, e, e, e, e, e, e, e, e]
  exact ⟨g0, g1, g2, g3, g4, fun z => ⟨⟨(g5 z).1.1, by have := (g5 z).1.2; omega⟩, (g5 z).2⟩, g6, g7⟩
theorem zGoodP.parts (h : zGoodP P) (hW : zWf P') (he : ∀ a k, a ≠ 100 → P' a k = P a k) : zGoodP P' := ⟨hW, h.2.1.parts he, by rw [zoc_c (fun k => he 101 k (by decide)) (he 98 4 (by decide))]; exact h.2.2⟩
end AL
section AM
variable {K : zCx} {d : Nat} {n : Int} {m : zM}
theorem zOk.pl {x y : zMi} {as : List Value} {F : Int} {P' : F2} (h : zInv n m) (hG : zGoodP P') (h9 : zCt K d x (rr K 0 :: as) m (fun r m1 => r = F ∧ zFr zPn m m1 ∧ RQ m1 1 P'))
    (h10 : ∀ m1, pv m1.1 = pv m.1 → zFr zPn m m1 → zCt K d y (rr K 98 :: as) m1 (fun r m2 => r = F ∧ zFr zPv m1 m2 ∧ pv m2.1 = P')) : zOk K d x y as n m := by
  refine h9.mono (fun r m1 q => ?_)
  obtain ⟨hr, f, hR⟩ := q
  have e1 : pv m1.1 = pv m.1 := pv_eq (fun a k q => f.1 a k (by unfold zPn; omega))
  refine (h10 m1 e1 f).mono (fun r' m2 q => ⟨by rw [hr, q.1], ?_⟩)
  obtain ⟨-, g, e2⟩ := q
  have e18 : m2.1 98 18 = m.1 98 18 := by rw [g.1 _ _ (by unfold zPv; omega), f.1 _ _ (by unfold zPn; omega)]
  refine h.plan ((f.l.mono (fun a k q => Or.inr (Or.inl q))).tr (g.l.mono (fun a k q => Or.inr (Or.inr (Or.inr q))))) (by rw [e2]; exact hG) ?_ (h.2.1.1.k (fun t => by rw [g.1 _ _ (by unfold zPv; omega), f.1 _ _ (by unfold zPn; omega)]) e18) (by omega)
  rw [e2]
  exact hR.kept hG.1 (fun a k x y => g.1 a k (by unfold zPv; omega))
theorem zOk.no {x y : zMi} {as : List Value} {F : Int} (h : zInv n m) (h9 : zCt K d x (rr K 0 :: as) m (fun r m1 => r = F ∧ m1 = m))
    (h10 : ∀ m1, pv m1.1 = pv m.1 → zFr zPn m m1 → zCt K d y (rr K 98 :: as) m1 (fun r m2 => r = F ∧ m2 = m1)) : zOk K d x y as n m :=
  zOk.pl (P' := pv m.1) h h.1.1 (h9.mono (fun r m1 q => ⟨q.1, by rw [q.2]; exact zFr.rf, by rw [q.2]; exact h.1.2⟩)) (fun m1 e f => (h10 m1 e f).mono (fun r m2 q => ⟨q.1, by rw [q.2]; exact zFr.rf, by rw [q.2]; exact e⟩))
theorem o_size {p v : Int} (ip : inR p) (iv : inR v) (h : zInv n m) : zOk K (d + 12) mX9_size mX10_size [.int (iz p), .int (iz v)] n m := by
  have hW := h.1.1.1
  have hR := h.1.2
  have h4 := hW.2.2.2.1
  have e6 : m.1 1 6 = pv m.1 98 4 := hR.1.2.2.2.1
  by_cases hv : (0 ≤ p ∧ p < pv m.1 98 4) ∧ (1 ≤ v ∧ v ≤ 9)
  · refine zOk.pl (F := zp (pv m.1) p 3) (P' := zPt (pv m.1) p 3 v) h (h.1.1.parts (hW.pt3 hv.2) (fun a k q => zPt_ne q)) ?_ (fun m1 e f => ?_)
    · refine zCt.of (by decide) (Nat.le_of_ble_eq_true rfl) (vc_X9_size_0 (d := d + 9) p v m ip iv (fun _ => ?_))
      rw [e6]
      refine ⟨h4.1, fun _ => ⟨fun _ => ⟨by omega, by omega, fun v10 e10 m12 e12 _ => ?_⟩, fun q => absurd hv.2 q⟩, fun q => absurd hv.1 q⟩
      rw [show (10 + p : Int) = 1 + 9 + p by omega] at e10 e12
      exact ⟨by rw [e10]; exact hR.1.part hv.1.1 hv.1.2 3 (by omega), zFr.rf.put e12 (by unfold zPn; omega), hR.pt (by omega) (by omega) e12⟩
    · refine zCt.of (by decide) (Nat.le_of_ble_eq_true rfl) (vc_X10_size_0 (d := d + 9) p v m1 ip iv (fun _ => ?_))
      rw [pv_f e (by omega)]
      refine ⟨h4.1, fun _ => ⟨fun _ => ⟨by omega, by omega, fun v12 e12 => ⟨by omega, by omega, fun m16 e16 _ => ⟨by rw [e12]; exact pv_r e (by omega) _, zFr.rf.put e16 (by unfold zPv; omega), pv_pt e e16⟩⟩⟩, fun q => absurd hv.2 q⟩, fun q => absurd hv.1 q⟩
  · refine zOk.no (F := -1) h ?_ (fun m1 e f => ?_)
    · refine zCt.of (by decide) (Nat.le_of_ble_eq_true rfl) (vc_X9_size_0 (d := d + 9) p v m ip iv (fun _ => ?_))
      rw [e6]
      exact ⟨h4.1, fun q1 => ⟨fun q2 => absurd ⟨q1, q2⟩ hv, fun _ => ⟨rfl, rfl⟩⟩, fun _ => ⟨rfl, rfl⟩⟩
    · refine zCt.of (by decide) (Nat.le_of_ble_eq_true rfl) (vc_X10_size_0 (d := d + 9) p v m1 ip iv (fun _ => ?_))
      rw [pv_f e (by omega)]
      exact ⟨h4.1, fun q1 => ⟨fun q2 => absurd ⟨q1, q2⟩ hv, fun _ => ⟨rfl, rfl⟩⟩, fun _ => ⟨rfl, rfl⟩⟩
theorem o_breaks {p v : Int} (ip : inR p) (iv : inR v) (h : zInv n m) : zOk K (d + 12) mX9_breaks mX10_breaks [.int (iz p), .int (iz v)] n m := by
  have hW := h.1.1.1
  have hR := h.1.2
  have h4 := hW.2.2.2.1
  have e6 : m.1 1 6 = pv m.1 98 4 := hR.1.2.2.2.1
  by_cases hv : (0 ≤ p ∧ p < pv m.1 98 4) ∧ (0 ≤ v ∧ v ≤ 2)
  · refine zOk.pl (F := zp (pv m.1) p 4) (P' := zPt (pv m.1) p 4 v) h (h.1.1.parts (hW.pt4 hv.2) (fun a k q => zPt_ne q)) ?_ (fun m1 e f => ?_)
    · refine zCt.of (by decide) (Nat.le_of_ble_eq_true rfl) (vc_X9_breaks_0 (d := d + 9) p v m ip iv (fun _ => ?_))
      rw [e6]
      refine ⟨h4.1, fun _ => ⟨fun _ => ⟨by omega, by omega, fun v10 e10 m12 e12 _ => ?_⟩, fun q => absurd hv.2 q⟩, fun q => absurd hv.1 q⟩
      rw [show (10 + p : Int) = 1 + 9 + p by omega] at e10 e12
      exact ⟨by rw [e10]; exact hR.1.part hv.1.1 hv.1.2 4 (by omega), zFr.rf.put e12 (by unfold zPn; omega), hR.pt (by omega) (by omega) e12⟩
    · refine zCt.of (by decide) (Nat.le_of_ble_eq_true rfl) (vc_X10_breaks_0 (d := d + 9) p v m1 ip iv (fun _ => ?_))
      rw [pv_f e (by omega)]
      refine ⟨h4.1, fun _ => ⟨fun _ => ⟨by omega, by omega, fun v12 e12 => ⟨by omega, by omega, fun m16 e16 _ => ⟨by rw [e12]; exact pv_r e (by omega) _, zFr.rf.put e16 (by unfold zPv; omega), pv_pt e e16⟩⟩⟩, fun q => absurd hv.2 q⟩, fun q => absurd hv.1 q⟩
  · refine zOk.no (F := -1) h ?_ (fun m1 e f => ?_)
    · refine zCt.of (by decide) (Nat.le_of_ble_eq_true rfl) (vc_X9_breaks_0 (d := d + 9) p v m ip iv (fun _ => ?_))
      rw [e6]
      exact ⟨h4.1, fun q1 => ⟨fun q2 => absurd ⟨q1, q2⟩ hv, fun _ => ⟨rfl, rfl⟩⟩, fun _ => ⟨rfl, rfl⟩⟩
    · refine zCt.of (by decide) (Nat.le_of_ble_eq_true rfl) (vc_X10_breaks_0 (d := d + 9) p v m1 ip iv (fun _ => ?_))
      rw [pv_f e (by omega)]
      exact ⟨h4.1, fun q1 => ⟨fun q2 => absurd ⟨q1, q2⟩ hv, fun _ => ⟨rfl, rfl⟩⟩, fun _ => ⟨rfl, rfl⟩⟩
theorem zup_nq {f : F2} {a k v b j : Int} (h : ¬ (b = a ∧ j = k)) : zup f a k v b j = f b j := if_neg h
theorem zup_eq {f : F2} {a k v : Int} : zup f a k v a k = v := if_pos ⟨rfl, rfl⟩
/-- a field of the plan alone -/
theorem zGoodP.f98 {P : F2} {k v : Int} (h : zGoodP P) (hk : (k = 0 ∧ 0 ≤ v ∧ v ≤ 20) ∨ (k = 1 ∧ 0 ≤ v ∧ v ≤ 9260)) : zGoodP (zup P 98 k v) := by
  have hn : ∀ a j, ¬ (a = 98 ∧ j = k) → zup P 98 k v a j = P a j := fun a j q => zup_nq q
  obtain ⟨h1, h2, h3, h4, h5, h6, h7, h8, h9, h10⟩ := h.1
  refine ⟨⟨?_, ?_, by rw [hn _ _ (by omega)]; exact h3, by rw [hn _ _ (by omega)]; exact h4, by rw [hn _ _ (by omega)]; exact h5, fun i a b => ?_, fun p a b => ?_, fun p a b => ?_, fun j a b => ?_, fun i a b => by rw [hn _ _ (by omega)]; exact h10 i a b⟩, h.2.1.c (hn _ _ (by omega)) (fun j => hn _ _ (by omega)) (fun j => hn _ _ (by omega)), by rw [zoc_c (fun j => hn _ _ (by omega)) (hn _ _ (by omega))]; exact h.2.2⟩
  · rw [zup_at]; split <;> omega
  · rw [zup_at]; split <;> omega
  · rw [hn _ _ (by omega)] at b; rw [hn _ _ (by omega)]; exact h6 i a b
  · rw [hn _ _ (by omega)] at b; exact (h7 p a b).c (fun j => hn _ _ (by omega)) (by rw [hn _ _ (by omega)]; omega)
  · rw [hn _ _ (by omega)] at b; unfold zOpenOk; rw [hn _ _ (by omega), hn _ _ (by omega)]; exact h8 p a b
  · rw [hn _ _ (by omega)] at b; rw [hn 98 4 (by omega), hn 102 _ (by omega), hn 102 _ (by omega)]; exact h9 j a b
theorem RQ.f98 {P : F2} {m1 : zM} {k j v : Int} (h : RQ m 1 P) (hk : (k = 0 ∧ j = 10) ∨ (k = 1 ∧ j = 9)) (e : m1 = sI m 1 j v) : RQ m1 1 (zup P 98 k v) := by
  have hn : ∀ a i, ¬ (a = 98 ∧ i = k) → zup P 98 k v a i = P a i := fun a i q => zup_nq q
  have hm : ∀ a i, ¬ (a = 1 ∧ i = j) → m1.1 a i = m.1 a i := fun a i q => by rw [e, sI_ne (by omega)]
  obtain ⟨⟨h1, h2, h3, h4, h5, h6, h7, h8, h9, h10⟩, hw⟩ := h
  refine ⟨⟨?_, ?_, by rw [hm _ _ (by omega), hn _ _ (by omega)]; exact h3, by rw [hm _ _ (by omega), hn _ _ (by omega)]; exact h4, by rw [hm _ _ (by omega), hn _ _ (by omega)]; exact h5, fun i a b => ?_, fun p i a b c d => ?_, fun p a b => ?_, fun i a b => ?_, fun i a b => by rw [hm _ _ (by omega), hn _ _ (by omega)]; exact h10 i a b⟩, RW.c (hw.kept (fun a i x y => hm a i (by omega))) (hn _ _ (by omega)) (fun i => hn _ _ (by omega)) (fun i => hn _ _ (by omega))⟩
  · rw [e, sI_at, zup_at]
    by_cases z : k = 0
    · rw [if_pos (by omega), if_pos (by omega)]
    · rw [if_neg (by omega), if_neg (by omega)]; exact h1
  · rw [e, sI_at, zup_at]
    by_cases z : k = 1
    · rw [if_pos (by omega), if_pos (by omega)]
    · rw [if_neg (by omega), if_neg (by omega)]; exact h2
  · rw [hn _ _ (by omega)] at b; rw [hm _ _ (by omega), hn _ _ (by omega)]; exact h6 i a b
  · rw [hn _ _ (by omega)] at b; rw [hm _ _ (by omega)]; show _ = zup P 98 k v 100 _; rw [hn _ _ (by omega)]; exact h7 p i a b c d
  · rw [hn _ _ (by omega)] at b; rw [hm _ _ (by omega), hm _ _ (by omega), hn _ _ (by omega), hn _ _ (by omega)]; exact h8 p a b
  · rw [hn _ _ (by omega)] at b; rw [hm _ _ (by omega), hm _ _ (by omega), hn _ _ (by omega), hn _ _ (by omega)]; exact h9 i a b
theorem pv_up {P : F2} {m1 m2 : zM} {a k v : Int} (hP : pv m1.1 = P) (h : zPv a k) (e : m2 = sI m1 a k v) : pv m2.1 = zup P a k v := by rw [e, pv_sI h, hP]
theorem o_feedAt {v : Int} (iv : inR v) (h : zInv n m) : zOk K (d + 12) mX9_feedAt mX10_feedAt [.int (iz v)] n m := by
  have hR := h.1.2
  by_cases hv : 0 ≤ v ∧ v ≤ 20
  · refine zOk.pl (F := pv m.1 98 0) (P' := zup (pv m.1) 98 0 v) h (h.1.1.f98 (Or.inl ⟨rfl, hv⟩)) ?_ (fun m1 e f => ?_)
    · exact zCt.of (by decide) (Nat.le_of_ble_eq_true rfl) (vc_X9_feedAt_0 (d := d + 10) v m iv (fun _ => ⟨fun _ v4 e4 m6 e6 _ => ⟨by rw [e4]; exact hR.1.1, zFr.rf.put e6 (by unfold zPn; omega), hR.f98 (Or.inl ⟨rfl, rfl⟩) e6⟩, fun q => absurd hv q⟩))
    · exact zCt.of (by decide) (Nat.le_of_ble_eq_true rfl) (vc_X10_feedAt_0 (d := d + 10) v m1 iv (fun _ => ⟨fun _ v4 e4 m6 e6 _ => ⟨by rw [e4]; exact pv_f e (by omega), zFr.rf.put e6 (by unfold zPv; omega), pv_up e (by unfold zPv; omega) e6⟩, fun q => absurd hv q⟩))
  · exact zOk.no (F := -1) h (zCt.of (by decide) (Nat.le_of_ble_eq_true rfl) (vc_X9_feedAt_0 (d := d + 10) v m iv (fun _ => ⟨fun q => absurd q hv, fun _ => ⟨rfl, rfl⟩⟩))) (fun m1 e f => zCt.of (by decide) (Nat.le_of_ble_eq_true rfl) (vc_X10_feedAt_0 (d := d + 10) v m1 iv (fun _ => ⟨fun q => absurd q hv, fun _ => ⟨rfl, rfl⟩⟩)))
theorem o_start {v : Int} (iv : inR v) (h : zInv n m) : zOk K (d + 12) mX9_start mX10_start [.int (iz v)] n m := by
  have hR := h.1.2
  by_cases hv : 0 ≤ v ∧ v ≤ 9260
  · refine zOk.pl (F := pv m.1 98 1) (P' := zup (pv m.1) 98 1 v) h (h.1.1.f98 (Or.inr ⟨rfl, hv⟩)) ?_ (fun m1 e f => ?_)
    · exact zCt.of (by decide) (Nat.le_of_ble_eq_true rfl) (vc_X9_start_0 (d := d + 9) v m iv (fun _ => ⟨fun _ v4 e4 m6 e6 _ => ⟨by rw [e4]; exact hR.1.2.1, zFr.rf.put e6 (by unfold zPn; omega), hR.f98 (Or.inr ⟨rfl, rfl⟩) e6⟩, fun q => absurd hv q⟩))
    · exact zCt.of (by decide) (Nat.le_of_ble_eq_true rfl) (vc_X10_start_0 (d := d + 9) v m1 iv (fun _ => ⟨fun _ v4 e4 m6 e6 _ => ⟨by rw [e4]; exact pv_f e (by omega), zFr.rf.put e6 (by unfold zPv; omega), pv_up e (by unfold zPv; omega) e6⟩, fun q => absurd hv q⟩))
  · exact zOk.no (F := -1) h (zCt.of (by decide) (Nat.le_of_ble_eq_true rfl) (vc_X9_start_0 (d := d + 9) v m iv (fun _ => ⟨fun q => absurd q hv, fun _ => ⟨rfl, rfl⟩⟩))) (fun m1 e f => zCt.of (by decide) (Nat.le_of_ble_eq_true rfl) (vc_X10_start_0 (d := d + 9) v m1 iv (fun _ => ⟨fun q => absurd q hv, fun _ => ⟨rfl, rfl⟩⟩)))
/-! measured(node, level) -/
theorem zGoodP.f103 {P : F2} {k v : Int} (h : zGoodP P) (hv : -1 ≤ v ∧ v ≤ 20) : zGoodP (zup P 103 k v) := by
  have hn : ∀ a j, ¬ a = 103 → zup P 103 k v a j = P a j := fun a j q => zup_nq (fun z => q z.1)
  obtain ⟨h1, h2, h3, h4, h5, h6, h7, h8, h9, h10⟩ := h.1
  refine ⟨⟨by rw [hn _ _ (by omega)]; exact h1, by rw [hn _ _ (by omega)]; exact h2, by rw [hn _ _ (by omega)]; exact h3, by rw [hn _ _ (by omega)]; exact h4, by rw [hn _ _ (by omega)]; exact h5, fun i a b => ?_, fun p a b => ?_, fun p a b => ?_, fun j a b => ?_, fun i a b => ?_⟩, h.2.1.c (hn _ _ (by omega)) (fun j => hn _ _ (by omega)) (fun j => hn _ _ (by omega)), by rw [zoc_c (fun j => hn _ _ (by omega)) (hn _ _ (by omega))]; exact h.2.2⟩
  · rw [hn _ _ (by omega)] at b; rw [hn _ _ (by omega)]; exact h6 i a b
  · rw [hn _ _ (by omega)] at b; exact (h7 p a b).c (fun j => hn _ _ (by omega)) (by rw [hn _ _ (by omega)]; omega)
  · rw [hn _ _ (by omega)] at b; unfold zOpenOk; rw [hn _ _ (by omega), hn _ _ (by omega)]; exact h8 p a b
  · rw [hn _ _ (by omega)] at b; rw [hn 98 4 (by omega), hn 102 _ (by omega), hn 102 _ (by omega)]; exact h9 j a b
  · rw [zup_at]; split
    · exact hv
    · exact h10 i a b
theorem RQ.f103 {P : F2} {m1 : zM} {k v : Int} (h : RQ m 1 P) (e : m1 = sI m 6 (k + 2) v) : RQ m1 1 (zup P 103 k v) := by
  have hn : ∀ a i, ¬ a = 103 → zup P 103 k v a i = P a i := fun a i q => zup_nq (fun z => q z.1)
  have hm : ∀ a i, ¬ a = 6 → m1.1 a i = m.1 a i := fun a i q => by rw [e, sI_ne (Or.inl q)]
  obtain ⟨⟨h1, h2, h3, h4, h5, h6, h7, h8, h9, h10⟩, hw⟩ := h
  refine ⟨⟨by rw [hm _ _ (by omega), hn _ _ (by omega)]; exact h1, by rw [hm _ _ (by omega), hn _ _ (by omega)]; exact h2, by rw [hm _ _ (by omega), hn _ _ (by omega)]; exact h3, by rw [hm _ _ (by omega), hn _ _ (by omega)]; exact h4, by rw [hm _ _ (by omega), hn _ _ (by omega)]; exact h5, fun i a b => ?_, fun p i a b c d => ?_, fun p a b => ?_, fun i a b => ?_, fun i a b => ?_⟩, RW.c (hw.kept (fun a i x y => hm a i (by omega))) (hn _ _ (by omega)) (fun i => hn _ _ (by omega)) (fun i => hn _ _ (by omega))⟩
  · rw [hn _ _ (by omega)] at b; rw [hm _ _ (by omega), hn _ _ (by omega)]; exact h6 i a b
  · rw [hn _ _ (by omega)] at b; rw [hm _ _ (by omega)]; show _ = zup P 103 k v 100 _; rw [hn _ _ (by omega)]; exact h7 p i a b c d
  · rw [hn _ _ (by omega)] at b; rw [hm _ _ (by omega), hm _ _ (by omega), hn _ _ (by omega), hn _ _ (by omega)]; exact h8 p a b
  · rw [hn _ _ (by omega)] at b; rw [hm _ _ (by omega), hm _ _ (by omega), hn _ _ (by omega), hn _ _ (by omega)]; exact h9 i a b
  · rw [e, show (1 + 5 : Int) = 6 by omega, sI_at, zup_at]
    by_cases z : i = k
    · rw [if_pos (by omega), if_pos (by omega)]
    · rw [if_neg (by omega), if_neg (by omega)]; exact h10 i a b
theorem o_measured {w v : Int} (iw : inR w) (iv : inR v) (h : zInv n m) : zOk K (d + 12) mX9_measured mX10_measured [.int (iz w), .int (iz v)] n m := by
  have hR := h.1.2
  by_cases hv : (2 ≤ w ∧ w ≤ 4) ∧ (-1 ≤ v ∧ v ≤ 20)
  · refine zOk.pl (F := pv m.1 103 (w - 2)) (P' := zup (pv m.1) 103 (w - 2) v) h (h.1.1.f103 hv.2) ?_ (fun m1 e f => ?_)
    · refine zCt.of (by decide) (Nat.le_of_ble_eq_true rfl) (vc_X9_measured_0 (d := d + 10) w v m iw iv (fun _ => ⟨fun _ => ⟨fun _ => ⟨by omega, by omega, fun v9 e9 m11 e11 _ => ⟨?_, zFr.rf.put e11 (by unfold zPn; omega), ?_⟩⟩, fun q => absurd hv.2 q⟩, fun q => absurd hv.1 q⟩))
      · have := hR.1.2.2.2.2.2.2.2.2.2 (w - 2) (by omega) (by omega)
        rw [show w - 2 + 2 = w by omega] at this
        rw [e9]; exact this
      · exact hR.f103 (by rw [show w - 2 + 2 = w by omega]; exact e11)
    · exact zCt.of (by decide) (Nat.le_of_ble_eq_true rfl) (vc_X10_measured_0 (d := d + 10) w v m1 iw iv (fun _ => ⟨fun _ => ⟨fun _ => ⟨by omega, by omega, fun v9 e9 m11 e11 _ => ⟨by rw [e9]; exact pv_r e (by omega) _, zFr.rf.put e11 (by unfold zPv; omega), pv_up e (by unfold zPv; omega) e11⟩⟩, fun q => absurd hv.2 q⟩, fun q => absurd hv.1 q⟩))
  · exact zOk.no (F := -9) h (zCt.of (by decide) (Nat.le_of_ble_eq_true rfl) (vc_X9_measured_0 (d := d + 10) w v m iw iv (fun _ => ⟨fun q1 => ⟨fun q2 => absurd ⟨q1, q2⟩ hv, fun _ => ⟨rfl, rfl⟩⟩, fun _ => ⟨rfl, rfl⟩⟩))) (fun m1 e f => zCt.of (by decide) (Nat.le_of_ble_eq_true rfl) (vc_X10_measured_0 (d := d + 10) w v m1 iw iv (fun _ => ⟨fun q1 => ⟨fun q2 => absurd ⟨q1, q2⟩ hv, fun _ => ⟨rfl, rfl⟩⟩, fun _ => ⟨rfl, rfl⟩⟩)))
/-! change(part, what) -/
def zCh (P : F2) (p w : Int) : F2 := zup (zup (zup P 102 (2 * P 98 7) p) 102 (2 * P 98 7 + 1) w) 98 7 (P 98 7 + 1)
theorem zCh_ne {P : F2} {p w a k : Int} (h : ¬ a = 102) (h2 : ¬ (a = 98 ∧ k = 7)) : zCh P p w a k = P a k := by unfold zCh; rw [zup_nq (by omega), zup_nq (by omega), zup_nq (by omega)]
theorem zCh_7 {P : F2} {p w : Int} : zCh P p w 98 7 = P 98 7 + 1 := zup_eq
theorem zCh_102 {P : F2} {p w k : Int} : zCh P p w 102 k = if k = 2 * P 98 7 + 1 then w else if k = 2 * P 98 7 then p else P 102 k := by
  unfold zCh
  rw [zup_nq (by omega), zup_at, zup_at]
  by_cases z : k = 2 * P 98 7 + 1
  · rw [if_pos ⟨rfl, z⟩, if_pos z]
  · rw [if_neg (fun y => z y.2), if_neg z]
    by_cases z2 : k = 2 * P 98 7
    · rw [if_pos ⟨rfl, z2⟩, if_pos z2]
    · rw [if_neg (fun y => z2 y.2), if_neg z2]
theorem zGoodP.ch {P : F2} {p w : Int} (h : zGoodP P) (hp : 0 ≤ p ∧ p < P 98 4) (hw : 0 ≤ w ∧ w ≤ 2) (h7 : P 98 7 < 6) : zGoodP (zCh P p w) := by
  have hn : ∀ a j, ¬ a = 102 → ¬ (a = 98 ∧ j = 7) → zCh P p w a j = P a j := fun a j q q2 => zCh_ne q q2
  obtain ⟨h1, h2, h3, h4, h5, h6, h7', h8, h9, h10⟩ := h.1
  refine ⟨⟨by rw [hn _ _ (by omega) (by omega)]; exact h1, by rw [hn _ _ (by omega) (by omega)]; exact h2, by rw [hn _ _ (by omega) (by omega)]; exact h3, by rw [hn _ _ (by omega) (by omega)]; exact h4, by rw [zCh_7]; omega, fun i a b => ?_, fun p a b => ?_, fun p a b => ?_, fun j a b => ?_, fun i a b => by rw [hn _ _ (by omega) (by omega)]; exact h10 i a b⟩, h.2.1.c (hn _ _ (by omega) (by omega)) (fun j => hn _ _ (by omega) (by omega)) (fun j => hn _ _ (by omega) (by omega)), by rw [zoc_c (fun j => hn _ _ (by omega) (by omega)) (hn _ _ (by omega) (by omega))]; exact h.2.2⟩
  · rw [hn _ _ (by omega) (by omega)] at b; rw [hn _ _ (by omega) (by omega)]; exact h6 i a b
  · rw [hn _ _ (by omega) (by omega)] at b; exact (h7' p a b).c (fun j => hn _ _ (by omega) (by omega)) (by rw [hn _ _ (by omega) (by omega)]; omega)
  · rw [hn _ _ (by omega) (by omega)] at b; unfold zOpenOk; rw [hn _ _ (by omega) (by omega), hn _ _ (by omega) (by omega)]; exact h8 p a b
  · rw [zCh_7] at b
    rw [hn 98 4 (by omega) (by omega), zCh_102, zCh_102]
    by_cases z : j = P 98 7
    · rw [if_neg (by omega), if_pos (by omega), if_pos (by omega)]; exact ⟨hp, hw⟩
    · rw [if_neg (by omega), if_neg (by omega), if_neg (by omega), if_neg (by omega)]; exact h9 j a (by omega)
theorem RQ.ch {P : F2} {m1 : zM} {p w : Int} (h : RQ m 1 P) (h7 : P 98 7 = m.1 1 8) (h0 : 0 ≤ P 98 7) (hm : ∀ a i, ¬ ((a = 4 ∧ i = P 98 7) ∨ (a = 5 ∧ i = P 98 7) ∨ (a = 1 ∧ i = 8)) → m1.1 a i = m.1 a i) (e4 : m1.1 4 (P 98 7) = p) (e5 : m1.1 5 (P 98 7) = w) (e8 : m1.1 1 8 = P 98 7 + 1) : RQ m1 1 (zCh P p w) := by
  have hn : ∀ a j, ¬ a = 102 → ¬ (a = 98 ∧ j = 7) → zCh P p w a j = P a j := fun a j q q2 => zCh_ne q q2
  obtain ⟨⟨h1, h2, h3, h4, h5, h6, h7', h8, h9, h10⟩, hw⟩ := h
  refine ⟨⟨by rw [hm _ _ (by omega), hn _ _ (by omega) (by omega)]; exact h1, by rw [hm _ _ (by omega), hn _ _ (by omega) (by omega)]; exact h2, by rw [hm _ _ (by omega), hn _ _ (by omega) (by omega)]; exact h3, by rw [hm _ _ (by omega), hn _ _ (by omega) (by omega)]; exact h4, by rw [zCh_7]; exact e8, fun i a b => ?_, fun p i a b c d => ?_, fun p a b => ?_, fun i a b => ?_, fun i a b => by rw [hm _ _ (by omega), hn _ _ (by omega) (by omega)]; exact h10 i a b⟩, RW.c (hw.kept (fun a i x y => hm a i (by omega))) (hn _ _ (by omega) (by omega)) (fun i => hn _ _ (by omega) (by omega)) (fun i => hn _ _ (by omega) (by omega))⟩
  · rw [hn _ _ (by omega) (by omega)] at b; rw [hm _ _ (by omega), hn _ _ (by omega) (by omega)]; exact h6 i a b
  · rw [hn _ _ (by omega) (by omega)] at b; rw [hm _ _ (by omega)]; show _ = zCh P _ w 100 _; rw [hn _ _ (by omega) (by omega)]; exact h7' p i a b c d
  · rw [hn _ _ (by omega) (by omega)] at b; rw [hm _ _ (by omega), hm _ _ (by omega), hn _ _ (by omega) (by omega), hn _ _ (by omega) (by omega)]; exact h8 p a b
  · rw [zCh_7] at b
    rw [zCh_102, zCh_102]
    by_cases z : i = P 98 7
    · rw [if_neg (by omega), if_pos (by omega), if_pos (by omega), z]; exact ⟨e4, e5⟩
    · rw [if_neg (by omega), if_neg (by omega), if_neg (by omega), if_neg (by omega), hm _ _ (by omega), hm _ _ (by omega)]; exact h9 i a (by omega)
theorem o_change {p w : Int} (ip : inR p) (iw : inR w) (h : zInv n m) : zOk K (d + 12) mX9_change mX10_change [.int (iz p), .int (iz w)] n m := by
  have hW := h.1.1.1
  have hR := h.1.2
  have h4 := hW.2.2.2.1
  have h5 := hW.2.2.2.2.1
  have e6 : m.1 1 6 = pv m.1 98 4 := hR.1.2.2.2.1
  have e8 : m.1 1 8 = pv m.1 98 7 := hR.1.2.2.2.2.1
  by_cases hv : ((0 ≤ p ∧ p < pv m.1 98 4) ∧ (0 ≤ w ∧ w ≤ 2)) ∧ pv m.1 98 7 < 6
  · refine zOk.pl (F := pv m.1 98 7) (P' := zCh (pv m.1) p w) h (h.1.1.ch hv.1.1 hv.1.2 hv.2) ?_ (fun m1 e f => ?_)
    · refine zCt.of (by decide) (Nat.le_of_ble_eq_true rfl) (vc_X9_change_0 (d := d + 9) p w m ip iw (fun _ => ?_))
      rw [e6, e8]
      refine ⟨h4.1, fun _ => ⟨fun _ => ⟨fun _ => ⟨by omega, by omega, fun m11 e11 _ => ?_⟩, fun q => absurd hv.2 q⟩, fun q => absurd hv.1.2 q⟩, fun q => absurd hv.1.1 q⟩
      have a8 : m11.1 1 8 = pv m.1 98 7 := by rw [e11, sI_ne (Or.inl (by omega))]; exact e8
      rw [a8]
      refine ⟨by omega, by omega, fun m15 e15 _ => ?_⟩
      have b8 : m15.1 1 8 = pv m.1 98 7 := by rw [e15, sI_ne (Or.inl (by omega))]; exact a8
      rw [b8]
      refine ⟨inR_b (A := 1000) (by omega) (by omega) rfl, fun m18 e18 _ => ?_⟩
      have c8 : m18.1 1 8 = pv m.1 98 7 + 1 := by rw [e18, sI_eq]
      rw [c8]
      refine ⟨inR_b (A := 1000) (by omega) (by omega) rfl, by omega, ((zFr.rf.put e11 (by unfold zPn; omega)).put e15 (by unfold zPn; omega)).put e18 (by unfold zPn; omega), hR.ch e8.symm h5.1 (fun a i q => ?_) ?_ ?_ c8⟩
      · rw [e18, sI_ne (by omega), e15, sI_ne (by omega), e11, sI_ne (by omega)]
      · rw [e18, sI_ne (Or.inl (by omega)), e15, sI_ne (Or.inl (by omega)), e11, sI_eq]
      · rw [e18, sI_ne (Or.inl (by omega)), e15, sI_eq]
    · refine zCt.of (by decide) (Nat.le_of_ble_eq_true rfl) (vc_X10_change_0 (d := d + 9) p w m1 ip iw (fun _ => ?_))
      have e7 : m1.1 98 7 = pv m.1 98 7 := pv_f e (by omega)
      rw [pv_f e (k := 4) (by omega), e7]
      refine ⟨h4.1, fun _ => ⟨fun _ => ⟨fun q => absurd q (by omega), fun _ => ⟨by omega, by omega, fun m11 e11 _ => ?_⟩⟩, fun q => absurd hv.1.2 q⟩, fun q => absurd hv.1.1 q⟩
      have a8 : m11.1 98 7 = pv m.1 98 7 := by rw [e11, sI_ne (Or.inl (by omega))]; exact e7
      rw [a8]
      refine ⟨by omega, by omega, fun m15 e15 _ => ?_⟩
      have b8 : m15.1 98 7 = pv m.1 98 7 := by rw [e15, sI_ne (Or.inl (by omega))]; exact a8
      rw [b8]
      refine ⟨inR_b (A := 1000) (by omega) (by omega) rfl, fun m18 e18 _ => ?_⟩
      have c8 : m18.1 98 7 = pv m.1 98 7 + 1 := by rw [e18, sI_eq]
      rw [c8]
      exact ⟨inR_b (A := 1000) (by omega) (by omega) rfl, by omega, ((zFr.rf.put e11 (by unfold zPv; omega)).put e15 (by unfold zPv; omega)).put e18 (by unfold zPv; omega), pv_up (pv_up (pv_up e (by unfold zPv; omega) e11) (by unfold zPv; omega) e15) (by unfold zPv; omega) e18⟩
  · refine zOk.no (F := if (0 ≤ p ∧ p < pv m.1 98 4) ∧ (0 ≤ w ∧ w ≤ 2) then -2 else -1) h ?_ (fun m1 e f => ?_)
    · refine zCt.of (by decide) (Nat.le_of_ble_eq_true rfl) (vc_X9_change_0 (d := d + 9) p w m ip iw (fun _ => ?_))
      rw [e6, e8]
      exact ⟨h4.1, fun q1 => ⟨fun q2 => ⟨fun q3 => absurd ⟨⟨q1, q2⟩, q3⟩ hv, fun q3 => ⟨(if_pos ⟨q1, q2⟩).symm, rfl⟩⟩, fun q2 => ⟨(if_neg (fun z => q2 z.2)).symm, rfl⟩⟩, fun q1 => ⟨(if_neg (fun z => q1 z.1)).symm, rfl⟩⟩
    · refine zCt.of (by decide) (Nat.le_of_ble_eq_true rfl) (vc_X10_change_0 (d := d + 9) p w m1 ip iw (fun _ => ?_))
      rw [pv_f e (k := 4) (by omega), pv_f e (k := 7) (by omega)]
      exact ⟨h4.1, fun q1 => ⟨fun q2 => ⟨fun q3 => ⟨(if_pos ⟨q1, q2⟩).symm, rfl⟩, fun q3 => absurd ⟨⟨q1, q2⟩, by omega⟩ hv⟩, fun q2 => ⟨(if_neg (fun z => q2 z.2)).symm, rfl⟩⟩, fun q1 => ⟨(if_neg (fun z => q1 z.1)).symm, rfl⟩⟩
end AM
