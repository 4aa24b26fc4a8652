/-! ===== put, shelf, taken: both sides ===== -/
section HS2
variable {K : zCx} {d : Nat} {n : Int} {m : zM}
theorem o_put {s i v : Int} (is : inR s) (ii : inR i) (iv : inR v) (h : zInv n m) (hn : 0 ≤ n ∧ n ≤ 100) : zOk K (d + 12) mX9_put mX10_put [.int (iz s), .int (iz i), .int (iz v)] n m := by
  obtain ⟨hs, hl, hh⟩ := h.2.2.2.2.2.1
  by_cases h1 : 0 ≤ s ∧ s ≤ 3
  · obtain ⟨⟨a1, a2, a3⟩, b1, b2, b3⟩ := hs s h1.1 (by omega)
    by_cases hv : 0 ≤ m.1 122 s ∧ (0 ≤ i ∧ i < m.1 123 s)
    · -- what is laid there
      have ref : ∀ m1 w, inR w → m1 = sI m 90 (s * 40 + i) w → w = (if m.1 122 s = 0 then zi2b v else (if m.1 122 s = 1 then zi2s v else v)) → zCt K (d + 12) mX10_put (rr K 98 :: [.int (iz s), .int (iz i), .int (iz v)]) m1 (fun r' m2 => r' = 1 ∧ zInv (n + 1) m2) := by
        intro m1 w iw e1 ew
        have n1 : ∀ a k, ¬ (a = 90 ∧ k = s * 40 + i) → m1.1 a k = m.1 a k := fun a k q => by rw [e1, sI_ne (by omega)]
        have fin : ∀ m2, m2 = sL m1 124 ((40 * s) + i) (iz w).toInt64 → zInv (n + 1) m2 := by
          intro m2 e2
          have nI : ∀ a k, m2.1 a k = m1.1 a k := fun a k => by rw [e2]; rfl
          have nL : ∀ a k, m2.2.1 a k = if a = 124 ∧ k = 40 * s + i then (iz w).toInt64 else m.2.1 a k := fun a k => by rw [e2, sL_at, e1]; rfl
          refine h.host ⟨fun a k q => by rw [nI, n1 _ _ (by unfold zSH at q; omega)], fun a k q => by rw [nL, if_neg (by unfold zSH at q; omega)]⟩ ⟨fun s' x y => ?_, fun k x y => ?_, fun s' x y => ?_⟩
          · have := hs s' x y
            unfold zIHs at this ⊢
            rw [nI, nI, nI, nI, n1 _ _ (by omega), n1 _ _ (by omega), n1 _ _ (by omega), n1 _ _ (by omega)]
            exact this
          · rw [nL, nI]
            by_cases z : k = 40 * s + i
            · rw [if_pos ⟨rfl, z⟩, e1, show k = s * 40 + i by omega, sI_eq]
            · rw [if_neg (fun q => z q.2), n1 _ _ (by omega)]; exact hl k x y
          · have := hh s' x y
            unfold zIHh at this ⊢
            rw [nI, nI, nI, nI, nI, nI, n1 _ _ (by omega), n1 _ _ (by omega), n1 _ _ (by omega), n1 _ _ (by omega), n1 _ _ (by omega), n1 _ _ (by omega)]
            exact this
        refine zCt.of (by decide) (Nat.le_of_ble_eq_true rfl) (vc_X10_put_0 (d := d + 9) s i v m1 is ii iv (fun _ => ?_))
        rw [n1 122 s (by omega), n1 123 s (by omega)]
        refine ⟨fun _ => ⟨by omega, by omega, fun _ => ⟨inR_b (A := 1000) (by omega) (by omega) rfl, fun _ => ⟨fun z => ⟨by omega, by omega, fun m2 e2 _ => ⟨rfl, fin m2 ?_⟩⟩, fun z => ⟨fun y => ⟨by omega, by omega, fun m2 e2 _ => ⟨rfl, fin m2 ?_⟩⟩, fun y => ⟨by omega, by omega, fun m2 e2 _ => ⟨rfl, fin m2 ?_⟩⟩⟩⟩, fun q => absurd (by omega) q⟩, fun q => absurd hv.1 q⟩, fun q => absurd h1 q⟩
        · rw [ew, if_pos z]; exact e2
        · rw [ew, if_neg z, if_pos y]; exact e2
        · rw [ew, if_neg z, if_neg y]; exact e2
      refine zCt.of (by decide) (Nat.le_of_ble_eq_true rfl) (vc_X9_put_0 (d := d + 9) s i v m is ii iv (fun _ => ?_))
      rw [a1, b1]
      refine ⟨fun _ => ⟨by omega, by omega, fun _ => ⟨by omega, by omega, by omega, fun _ => ?_, fun q => absurd hv.2 q⟩, fun q => absurd hv.1 q⟩, fun q => absurd h1 q⟩
      refine (zCt.of (by decide) (Nat.le_of_ble_eq_true rfl) (vc_X2_write_0 (d := d + 10) s i v m is ii iv (Q := fun r m1 => ∃ w, inR w ∧ m1 = sI m 90 (s * 40 + i) w ∧ w = (if m.1 122 s = 0 then zi2b v else (if m.1 122 s = 1 then zi2s v else v))) (fun _ => ?_))).mono (fun r m1 q _ _ => ?_)
      · rw [a1]
        refine ⟨by omega, by omega, fun v3 e3 => ⟨by omega, by omega, fun m7 e7 _ => ⟨v3, ?_, e7, e3⟩⟩⟩
        rw [e3]
        split
        · exact inR_zi2b v
        · split
          · exact inR_zi2s v
          · exact iv
      · obtain ⟨w, iw, e1, ew⟩ := q
        exact ref m1 w iw e1 ew
    · refine zOk.no (F := if 0 ≤ m.1 122 s then -12 else -11) h ?_ (fun m1 e f => ?_)
      · refine zCt.of (by decide) (Nat.le_of_ble_eq_true rfl) (vc_X9_put_0 (d := d + 9) s i v m is ii iv (fun _ => ?_))
        rw [a1, b1]
        exact ⟨fun _ => ⟨by omega, by omega, fun z => ⟨by omega, by omega, by omega, fun y => absurd ⟨z, y⟩ hv, fun _ => ⟨(if_pos z).symm, rfl⟩⟩, fun z => ⟨(if_neg z).symm, rfl⟩⟩, fun q => absurd h1 q⟩
      · refine zCt.of (by decide) (Nat.le_of_ble_eq_true rfl) (vc_X10_put_0 (d := d + 9) s i v m1 is ii iv (fun _ => ?_))
        rw [f.1 122 s (by unfold zPn; omega), f.1 123 s (by unfold zPn; omega)]
        exact ⟨fun _ => ⟨by omega, by omega, fun z => ⟨inR_b (A := 1000) (by omega) (by omega) rfl, fun y => absurd ⟨z, y.1, by omega⟩ hv, fun _ => ⟨(if_pos z).symm, rfl⟩⟩, fun z => ⟨(if_neg z).symm, rfl⟩⟩, fun q => absurd h1 q⟩
  · exact zOk.no (F := -1) h (zCt.of (by decide) (Nat.le_of_ble_eq_true rfl) (vc_X9_put_0 (d := d + 9) s i v m is ii iv (fun _ => ⟨fun q => absurd q h1, fun _ => ⟨rfl, rfl⟩⟩))) (fun m1 e f => zCt.of (by decide) (Nat.le_of_ble_eq_true rfl) (vc_X10_put_0 (d := d + 9) s i v m1 is ii iv (fun _ => ⟨fun q => absurd q h1, fun _ => ⟨rfl, rfl⟩⟩)))
/-! shelf(shelf, what, n) -/
theorem o_shelf {s w v : Int} (is : inR s) (iw : inR w) (iv : inR v) (h : zInv n m) (hn : 0 ≤ n ∧ n ≤ 100) : zOk K (d + 12) mX9_shelf mX10_shelf [.int (iz s), .int (iz w), .int (iz v)] n m := by
  obtain ⟨hs, hl, hh⟩ := h.2.2.2.2.2.1
  have hW := h.1.1.1
  have hR := h.1.2
  have h4 := hW.2.2.2.1
  have e6 : m.1 1 6 = pv m.1 98 4 := hR.1.2.2.2.1
  by_cases hv : (0 ≤ s ∧ s ≤ 3) ∧ (0 ≤ w ∧ w ≤ 2) ∧ (w = 0 → 0 ≤ v ∧ v < pv m.1 98 4) ∧ (w = 1 → 0 ≤ v ∧ v ≤ 3)
  · -- the new state of a shelf
    have fin : ∀ (m1 m2 : zM), zFr (fun a k => (a = 91 ∨ a = 92 ∨ a = 93) ∧ k = s) m m1 → zFr (fun a k => (a = 125 ∨ a = 126 ∨ a = 127) ∧ k = s) m1 m2 → zIHh m2 s → zInv (n + 1) m2 := by
      intro m1 m2 f g hx
      have nn : ∀ a k, ¬ ((a = 91 ∨ a = 92 ∨ a = 93 ∨ a = 125 ∨ a = 126 ∨ a = 127) ∧ k = s) → m2.1 a k = m.1 a k := fun a k q => by rw [g.1 a k (by omega), f.1 a k (by omega)]
      have nL : ∀ a k, m2.2.1 a k = m.2.1 a k := fun a k => by rw [g.2, f.2]
      refine h.host ⟨fun a k q => nn a k (by unfold zSH at q; omega), fun a k q => nL a k⟩ ⟨fun s' x y => ?_, fun k x y => by rw [nL, nn _ _ (by omega)]; exact hl k x y, fun s' x y => ?_⟩
      · have := hs s' x y
        unfold zIHs at this ⊢
        rw [nn 88 _ (by omega), nn 122 _ (by omega), nn 89 _ (by omega), nn 123 _ (by omega)]
        exact this
      · by_cases z : s' = s
        · rw [z]; exact hx
        · have := hh s' x y
          unfold zIHh at this ⊢
          rw [nn 125 _ (by omega), nn 91 _ (by omega), nn 92 _ (by omega), nn 126 _ (by omega), nn 93 _ (by omega), nn 127 _ (by omega)]
          exact this
    -- the reference, behind the class
    have ref : ∀ m1, zFr (fun a k => (a = 91 ∨ a = 92 ∨ a = 93) ∧ k = s) m m1 → (w = 0 → m1.1 91 s = v ∧ m1.1 92 s = -1) → (w = 1 → m1.1 91 s = -1 ∧ m1.1 92 s = m.1 88 v ∧ m1.1 93 s = m.1 89 v) → (w = 2 → m1.1 91 s = -1 ∧ m1.1 92 s = -1) → zCt K (d + 12) mX10_shelf (rr K 98 :: [.int (iz s), .int (iz w), .int (iz v)]) m1 (fun r' m2 => r' = 1 ∧ zInv (n + 1) m2) := by
      intro m1 f q0 q1 q2
      have n1 : ∀ a k, ¬ (a = 91 ∨ a = 92 ∨ a = 93) → m1.1 a k = m.1 a k := fun a k q => f.1 a k (by omega)
      have e1 : pv m1.1 = pv m.1 := pv_eq (fun a k q => n1 a k (by omega))
      have body : zV K mX10_shelf (d + 12) 42 [(0, rr K 98), (1, .int (iz s)), (2, .int (iz w)), (3, .int (iz v))] [] m1 (fun r' m2 => r' = 1 ∧ zInv (n + 1) m2) := by
        refine vc_X10_shelf_42 (d := d + 9) s w v m1 is iw iv (fun _ => ⟨fun w2 => ⟨by omega, by omega, fun m4 e4 _ => ⟨fun q => absurd q (by omega), fun _ m7 e7 _ => ⟨fun q => absurd q (by omega), fun _ m10 e10 _ => ⟨rfl, fin m1 m10 f (((zFr.rf.put e4 (by omega)).put e7 (by omega)).put e10 (by omega)) (Or.inl ?_)⟩⟩⟩⟩, fun w2 => ⟨fun w1 => ⟨by omega, by omega, fun v51 e51 => ⟨by omega, by omega, fun m55 e55 _ v57 e57 m59 e59 _ v61 e61 m63 e63 _ => ⟨rfl, fin m1 m63 f (((zFr.rf.put e55 (by omega)).put e59 (by omega)).put e63 (by omega)) ?_⟩⟩⟩, fun w1 => ⟨by omega, by omega, fun m28 e28 _ => ⟨fun q => absurd q w1, fun _ m31 e31 _ => ⟨fun q => absurd q w1, fun _ m34 e34 _ => ⟨rfl, fin m1 m34 f (((zFr.rf.put e28 (by omega)).put e31 (by omega)).put e34 (by omega)) (Or.inr (Or.inl ?_))⟩⟩⟩⟩⟩⟩)
        · have q := q2 w2
          refine ⟨by rw [e10, sI_ne (by omega), e7, sI_ne (by omega), e4, sI_eq], ?_, ?_⟩
          · rw [e10, sI_ne (by omega), e7, sI_ne (by omega), e4, sI_ne (by omega)]; exact q.1
          · rw [e10, sI_ne (by omega), e7, sI_ne (by omega), e4, sI_ne (by omega)]; exact q.2
        · have q := q1 w1
          have hv1 := hv.2.2.2 w1
          obtain ⟨⟨a1, a2, a3⟩, b1, b2, b3⟩ := hs v hv1.1 (by omega)
          rw [if_pos w1] at e57 e61
          have c122 : m1.1 122 v = m.1 122 v := n1 _ _ (by omega)
          have g57 : v57 = m.1 122 v := by rw [e57, e55, sI_ne (by omega)]; exact c122
          have g61 : v61 = m.1 123 v := by rw [e61, e59, sI_ne (by omega), e55, sI_ne (by omega)]; exact n1 _ _ (by omega)
          rw [c122] at e51
          have g125 : m63.1 125 s = v51 := by rw [e63, sI_ne (by omega), e59, sI_ne (by omega), e55, sI_eq]
          have g126 : m63.1 126 s = m.1 122 v := by rw [e63, sI_ne (by omega), e59, sI_eq, g57]
          have g127 : m63.1 127 s = m.1 123 v := by rw [e63, sI_eq, g61]
          have gg : ∀ a, a < 100 → m63.1 a s = m1.1 a s := fun a ha => by rw [e63, sI_ne (by omega), e59, sI_ne (by omega), e55, sI_ne (by omega)]
          unfold zIHh
          rw [g125, g126, g127, gg 91 (by omega), gg 92 (by omega), gg 93 (by omega), q.1, q.2.1, q.2.2, a1, b1]
          by_cases z : 0 ≤ m.1 122 v
          · rw [if_pos z, w1] at e51
            exact Or.inr (Or.inr ⟨e51, rfl, rfl, ⟨z, a3⟩, rfl⟩)
          · rw [if_neg z] at e51
            exact Or.inl ⟨e51, rfl, by omega⟩
        · have q := q0 (by omega)
          have hv0 := hv.2.2.1 (by omega)
          have gg : ∀ a, a < 100 → m34.1 a s = m1.1 a s := fun a ha => by rw [e34, sI_ne (by omega), e31, sI_ne (by omega), e28, sI_ne (by omega)]
          rw [gg 91 (by omega), gg 92 (by omega), q.1, q.2]
          refine ⟨by rw [e34, sI_ne (by omega), e31, sI_ne (by omega), e28, sI_eq]; omega, by rw [e34, sI_ne (by omega), e31, sI_eq], hv0.1, rfl⟩
      refine zCt.of (by decide) (Nat.le_of_ble_eq_true rfl) (vc_X10_shelf_0 (d := d + 9) s w v m1 is iw iv (fun _ => ?_))
      rw [pv_f e1 (by omega)]
      exact ⟨fun _ => ⟨fun _ => ⟨fun w0 => ⟨h4.1, fun _ => ⟨fun q => absurd q (by omega), fun _ => body⟩, fun q => absurd (hv.2.2.1 w0) q⟩, fun w0 => ⟨fun w1 => ⟨fun _ => body, fun q => absurd (hv.2.2.2 w1) q⟩, fun w1 => body⟩⟩, fun q => absurd hv.2.1 q⟩, fun q => absurd hv.1 q⟩
    have hold0 : w = 0 → zCt K (d + 11) mX2_holdPart [rr K 87, .int (iz s), .int (iz v)] m (fun r m1 => inR r → zok m1 → zCt K (d + 12) mX10_shelf (rr K 98 :: [.int (iz s), .int (iz w), .int (iz v)]) m1 (fun r' m2 => r' = 1 ∧ zInv (n + 1) m2)) := by
      intro w0
      refine zCt.of (by decide) (Nat.le_of_ble_eq_true rfl) (vc_X2_holdPart_0 (d := d + 10) s v m is iv (fun _ => ⟨by omega, by omega, fun m3 e3 _ m5 e5 _ _ _ => ref m5 ((zFr.rf.put e3 (by omega)).put e5 (by omega)) (fun _ => ⟨?_, ?_⟩) (fun q => absurd q (by omega)) (fun q => absurd q (by omega))⟩))
      · rw [e5, sI_ne (by omega), e3, sI_eq]
      · rw [e5, sI_eq]
    have hold1 : w = 1 → zCt K (d + 11) mX2_holdRow [rr K 87, .int (iz s), .int (iz v)] m (fun r m1 => inR r → zok m1 → zCt K (d + 12) mX10_shelf (rr K 98 :: [.int (iz s), .int (iz w), .int (iz v)]) m1 (fun r' m2 => r' = 1 ∧ zInv (n + 1) m2)) := by
      intro w1
      have hv1 := hv.2.2.2 w1
      refine zCt.of (by decide) (Nat.le_of_ble_eq_true rfl) (vc_X2_holdRow_0 (d := d + 10) s v m is iv (fun _ => ⟨by omega, by omega, fun m3 e3 _ => ⟨by omega, by omega, fun m7 e7 _ m9 e9 _ _ _ => ref m9 (((zFr.rf.put e3 (by omega)).put e7 (by omega)).put e9 (by omega)) (fun q => absurd q (by omega)) (fun _ => ⟨?_, ?_, ?_⟩) (fun q => absurd q (by omega))⟩⟩))
      · rw [e9, sI_ne (by omega), e7, sI_ne (by omega), e3, sI_eq]
      · rw [e9, sI_ne (by omega), e7, sI_eq, e3, sI_ne (by omega)]
      · rw [e9, sI_eq, e7, sI_ne (by omega), e3, sI_ne (by omega)]
    have hold2 : w = 2 → zCt K (d + 11) mX2_holdNothing [rr K 87, .int (iz s)] m (fun r m1 => inR r → zok m1 → zCt K (d + 12) mX10_shelf (rr K 98 :: [.int (iz s), .int (iz w), .int (iz v)]) m1 (fun r' m2 => r' = 1 ∧ zInv (n + 1) m2)) := by
      intro w2
      refine zCt.of (by decide) (Nat.le_of_ble_eq_true rfl) (vc_X2_holdNothing_0 (d := d + 10) s m is (fun _ => ⟨by omega, by omega, fun m3 e3 _ m5 e5 _ _ _ => ref m5 ((zFr.rf.put e3 (by omega)).put e5 (by omega)) (fun q => absurd q (by omega)) (fun q => absurd q (by omega)) (fun _ => ⟨?_, ?_⟩)⟩))
      · rw [e5, sI_ne (by omega), e3, sI_eq]
      · rw [e5, sI_eq]
    refine zCt.of (by decide) (Nat.le_of_ble_eq_true rfl) (vc_X9_shelf_0 (d := d + 9) s w v m is iw iv (fun _ => ?_))
    rw [e6]
    refine ⟨fun _ => ⟨fun _ => ⟨fun w0 => ⟨h4.1, fun _ => ⟨fun q => absurd q (by omega), fun _ => ⟨fun _ => hold0 w0, fun q => absurd w0 q⟩⟩, fun q => absurd (hv.2.2.1 w0) q⟩, fun w0 => ⟨fun w1 => ⟨fun _ => ⟨fun q => absurd q w0, fun _ => ⟨fun _ => hold1 w1, fun q => absurd w1 q⟩⟩, fun q => absurd (hv.2.2.2 w1) q⟩, fun w1 => ⟨fun q => absurd q w0, fun _ => ⟨fun q => absurd q w1, fun _ => hold2 (by omega)⟩⟩⟩⟩, fun q => absurd hv.2.1 q⟩, fun q => absurd hv.1 q⟩
  · refine zOk.no (F := -1) h ?_ (fun m1 e f => ?_)
    · refine zCt.of (by decide) (Nat.le_of_ble_eq_true rfl) (vc_X9_shelf_0 (d := d + 9) s w v m is iw iv (fun _ => ?_))
      rw [e6]
      exact ⟨fun z1 => ⟨fun z2 => ⟨fun w0 => ⟨h4.1, fun z3 => absurd ⟨z1, z2, fun _ => z3, fun q => absurd q (by omega)⟩ hv, fun _ => ⟨rfl, rfl⟩⟩, fun w0 => ⟨fun w1 => ⟨fun z3 => absurd ⟨z1, z2, fun q => absurd q w0, fun _ => z3⟩ hv, fun _ => ⟨rfl, rfl⟩⟩, fun w1 => absurd ⟨z1, z2, fun q => absurd q w0, fun q => absurd q w1⟩ hv⟩⟩, fun _ => ⟨rfl, rfl⟩⟩, fun _ => ⟨rfl, rfl⟩⟩
    · refine zCt.of (by decide) (Nat.le_of_ble_eq_true rfl) (vc_X10_shelf_0 (d := d + 9) s w v m1 is iw iv (fun _ => ?_))
      rw [pv_f e (by omega)]
      exact ⟨fun z1 => ⟨fun z2 => ⟨fun w0 => ⟨h4.1, fun z3 => absurd ⟨z1, z2, fun _ => z3, fun q => absurd q (by omega)⟩ hv, fun _ => ⟨rfl, rfl⟩⟩, fun w0 => ⟨fun w1 => ⟨fun z3 => absurd ⟨z1, z2, fun q => absurd q w0, fun _ => z3⟩ hv, fun _ => ⟨rfl, rfl⟩⟩, fun w1 => absurd ⟨z1, z2, fun q => absurd q w0, fun q => absurd q w1⟩ hv⟩⟩, fun _ => ⟨rfl, rfl⟩⟩, fun _ => ⟨rfl, rfl⟩⟩
/-! taken(shelf, as) -/
abbrev zUn (k w : Int) : Prop := w = 0 ∨ k = w ∨ (w = 1 ∧ 2 ≤ k ∧ k ≤ 3) ∨ (w = 2 ∧ k = 3)
theorem c_X0_isUnder {k w : Int} (hk : 1 ≤ k ∧ k ≤ 6) (iw : inR w) (hw : 0 ≤ w ∧ w ≤ 6) : zCt K (d + 1) mX0_isUnder [rr K 94, .int (iz k), .int (iz w)] m (fun r m1 => ((r = 1 ∧ zUn k w) ∨ (r = 0 ∧ ¬ zUn k w)) ∧ m1 = m) := by
  have step : ∀ (x y : Int), (0 ≤ y ∧ y ≤ 6) → (0 ≤ x ∧ x ≤ 4) → (x = w → zUn k w) → (¬ x = w → zV K mX0_isUnder (d + 1) 5 [(2, .int (iz w)), (3, .int (iz (zAb.getD x.toNat 0))), (4, .int (iz (y + 1)))] [] m (fun r m1 => ((r = 1 ∧ zUn k w) ∨ (r = 0 ∧ ¬ zUn k w)) ∧ m1 = m)) → zV K mX0_isUnder (d + 1) 5 [(2, .int (iz w)), (3, .int (iz x)), (4, .int (iz y))] [] m (fun r m1 => ((r = 1 ∧ zUn k w) ∨ (r = 0 ∧ ¬ zUn k w)) ∧ m1 = m) := by
    intro x y hy hx h1 h2
    exact vc_X0_isUnder_5 w x y m iw (inR_b (A := 1000) (by omega) (by omega) rfl) (inR_b (A := 1000) (by omega) (by omega) rfl) (fun _ => ⟨fun q => absurd q (by omega), fun _ => ⟨fun q => absurd q (by omega), fun _ => ⟨fun z => ⟨Or.inl ⟨rfl, h1 z⟩, rfl⟩, fun z => ⟨by omega, by omega, fun v e => by rw [e]; exact h2 z⟩⟩⟩⟩)
  have stop : ∀ (y : Int), (0 ≤ y ∧ y ≤ 6) → ¬ zUn k w → zV K mX0_isUnder (d + 1) 5 [(2, .int (iz w)), (3, .int (iz (-1))), (4, .int (iz y))] [] m (fun r m1 => ((r = 1 ∧ zUn k w) ∨ (r = 0 ∧ ¬ zUn k w)) ∧ m1 = m) := by
    intro y hy h1
    exact vc_X0_isUnder_5 w (-1) y m iw (inRd rfl) (inR_b (A := 1000) (by omega) (by omega) rfl) (fun _ => ⟨fun q => absurd q (by omega), fun _ => ⟨fun _ => ⟨Or.inr ⟨rfl, h1⟩, rfl⟩, fun q => absurd (by decide) q⟩⟩)
  have first : ∀ (x : Int), (1 ≤ x ∧ x ≤ 6) → (x = w → zUn k w) → (¬ x = w → zV K mX0_isUnder (d + 1) 5 [(2, .int (iz w)), (3, .int (iz (zAb.getD x.toNat 0))), (4, .int (iz (0 + 1)))] [] m (fun r m1 => ((r = 1 ∧ zUn k w) ∨ (r = 0 ∧ ¬ zUn k w)) ∧ m1 = m)) → zV K mX0_isUnder (d + 1) 5 [(2, .int (iz w)), (3, .int (iz x)), (4, .int (iz 0))] [] m (fun r m1 => ((r = 1 ∧ zUn k w) ∨ (r = 0 ∧ ¬ zUn k w)) ∧ m1 = m) := by
    intro x hx h1 h2
    exact vc_X0_isUnder_5 w x 0 m iw (inR_b (A := 1000) (by omega) (by omega) rfl) (inRd rfl) (fun _ => ⟨fun q => absurd q (by omega), fun _ => ⟨fun q => absurd q (by omega), fun _ => ⟨fun z => ⟨Or.inl ⟨rfl, h1 z⟩, rfl⟩, fun z => ⟨by omega, by omega, fun v e => by rw [e]; exact h2 z⟩⟩⟩⟩)
  refine zCt.of (by decide) (Nat.le_of_ble_eq_true rfl) (vc_X0_isUnder_0 (d := d) k w m (inR_b (A := 1000) (by omega) (by omega) rfl) iw (fun _ => ?_))
  refine first k hk (fun z => Or.inr (Or.inl z)) (fun z => ?_)
  have hk' : k = 1 ∨ k = 2 ∨ k = 3 ∨ k = 4 ∨ k = 5 ∨ k = 6 := by omega
  rcases hk' with rfl | rfl | rfl | rfl | rfl | rfl
  · exact step 0 1 (by omega) (by omega) (fun y => by unfold zUn; omega) (fun y => stop _ (by omega) (by unfold zUn; omega))
  · exact step 1 1 (by omega) (by omega) (fun y => by unfold zUn; omega) (fun y => step 0 2 (by omega) (by omega) (fun y => by unfold zUn; omega) (fun y => stop _ (by omega) (by unfold zUn; omega)))
  · exact step 2 1 (by omega) (by omega) (fun y => by unfold zUn; omega) (fun y => step 1 2 (by omega) (by omega) (fun y => by unfold zUn; omega) (fun y => step 0 3 (by omega) (by omega) (fun y => by unfold zUn; omega) (fun y => stop _ (by omega) (by unfold zUn; omega))))
  · exact step 0 1 (by omega) (by omega) (fun y => by unfold zUn; omega) (fun y => stop _ (by omega) (by unfold zUn; omega))
  · exact step 0 1 (by omega) (by omega) (fun y => by unfold zUn; omega) (fun y => stop _ (by omega) (by unfold zUn; omega))
  · exact step 0 1 (by omega) (by omega) (fun y => by unfold zUn; omega) (fun y => stop _ (by omega) (by unfold zUn; omega))
/-- the thing on a shelf: -1 nothing, 9 a row, else the kind -/
def zTh (m : zM) (s : Int) : Int := if m.1 125 s = 0 then (if 0 ≤ m.1 126 s ∧ m.1 126 s < m.1 98 4 then (if m.1 100 (10 * m.1 126 s + 4) ≤ 0 then m.1 100 (10 * m.1 126 s + 0) else 6) else -1) else if 0 ≤ m.1 125 s then 9 else -1
def zqTk (m : zM) (s w : Int) : Int := if zTh m s < 0 then -11 else if zTh m s = 9 then (if w = 10 + m.1 126 s then m.1 127 s else -13) else if w ≤ 6 ∧ zUn (zTh m s) w then m.1 126 s else -13
theorem c_X10_kindOn {s : Int} (hs : 0 ≤ s ∧ s ≤ 3) (h4 : 0 ≤ m.1 98 4 ∧ m.1 98 4 ≤ 10) : zCt K (d + 3) mX10_kindOn [rr K 98, .int (iz s)] m (fun r m1 => r = zTh m s ∧ m1 = m) := by
  refine zCt.of (by decide) (Nat.le_of_ble_eq_true rfl) (vc_X10_kindOn_0 (d := d) s m (inR_b (A := 1000) (by omega) (by omega) rfl) (fun _ => ⟨by omega, by omega, ?_⟩))
  unfold zTh
  refine ⟨fun z v4 e4 => ?_, fun z => ⟨fun y => ⟨by rw [if_neg z, if_pos y], rfl⟩, fun y => ⟨by rw [if_neg z, if_neg y], rfl⟩⟩⟩
  rw [if_pos z]
  subst e4
  refine ⟨h4.1, fun y => ⟨by omega, by omega, fun x => ⟨by omega, by omega, ?_, rfl⟩, fun x => ⟨?_, rfl⟩⟩, fun y => ⟨(if_neg y).symm, rfl⟩⟩
  · rw [if_pos y, if_pos x]
  · rw [if_pos y, if_neg x]
theorem o_taken {s w : Int} (is : inR s) (iw : inR w) (h : zInv n m) (hn : 0 ≤ n ∧ n ≤ 100) : zOk K (d + 12) mX9_taken mX10_taken [.int (iz s), .int (iz w)] n m := by
  obtain ⟨hs, hl, hh⟩ := h.2.2.2.2.2.1
  have hW := h.1.1.1
  have hR := h.1.2
  have h4 := hW.2.2.2.1
  have e6 : m.1 1 6 = pv m.1 98 4 := hR.1.2.2.2.1
  have e4 : m.1 98 4 = pv m.1 98 4 := pv_f rfl (by omega)
  by_cases hv : (0 ≤ s ∧ s ≤ 3) ∧ ((0 ≤ w ∧ w ≤ 6) ∨ (10 ≤ w ∧ w ≤ 13))
  · have hx := hh s hv.1.1 (by omega)
    refine zOk.q (F := zqTk m s w) (N := 0) h hn (by omega) ?_ (fun m1 f e hC hB => ?_)
    · refine zCt.of (by decide) (Nat.le_of_ble_eq_true rfl) (vc_X9_taken_0 (d := d + 9) s w m is iw (fun _ => ?_))
      refine ⟨fun _ => ⟨fun _ => ?_, fun z => ⟨fun _ => ?_, fun q => absurd (by omega) q⟩⟩, fun q => absurd hv.1 q⟩
      all_goals
        refine ⟨by omega, by omega, ?_⟩
        rw [e6]
        unfold zqTk
        rcases hx with ⟨x1, x2, x3⟩ | ⟨x1, x2, x3, x4⟩ | ⟨x1, x2, x3, x4, x5⟩
        · have t : zTh m s = -1 := by unfold zTh; rw [x1, if_neg (by omega), if_neg (by omega)]
          rw [t, x2, x3, if_pos (by omega)]
          exact ⟨fun q => absurd q (by omega), fun _ => ⟨by omega, by omega, fun v ev => ⟨h4.1, fun q => absurd q (by omega), fun _ => ⟨rfl, zFl.rf⟩⟩⟩⟩
        · rw [x4]
          refine ⟨fun q => absurd q (by omega), fun _ => ⟨by omega, by omega, fun v ev => ?_⟩⟩
          subst ev
          refine ⟨h4.1, fun z => ?_, fun z => ?_⟩
          · have g := wf_part hW z.1 z.2
            have g0 := g.1
            have g4 := g.2.2.2.2.1
            have t0 : m.1 100 (10 * m.1 126 s + 0) = zp (pv m.1) (m.1 91 s) 0 := by rw [← x2]; exact pv_r rfl (by omega) _
            have t4 : m.1 100 (10 * m.1 126 s + 4) = zp (pv m.1) (m.1 91 s) 4 := by rw [← x2]; exact pv_r rfl (by omega) _
            have t : zTh m s = if zp (pv m.1) (m.1 91 s) 4 = 0 then zp (pv m.1) (m.1 91 s) 0 else 6 := by
              unfold zTh
              rw [if_pos x1, e4, ← x2, if_pos z, x2, t0, t4, x2]
              by_cases y : zp (pv m.1) (m.1 126 s) 4 = 0
              · rw [if_pos y, if_pos (by omega)]
              · rw [if_neg y, if_neg (by rw [← x2] at y ⊢; omega)]
            have c4 : m.1 (10 + m.1 91 s) 4 = zp (pv m.1) (m.1 91 s) 4 := by rw [show (10 + m.1 91 s : Int) = 1 + 9 + m.1 91 s by omega]; exact hR.1.part z.1 z.2 4 (by omega)
            have c0 : m.1 (10 + m.1 91 s) 0 = zp (pv m.1) (m.1 91 s) 0 := by rw [show (10 + m.1 91 s : Int) = 1 + 9 + m.1 91 s by omega]; exact hR.1.part z.1 z.2 0 (by omega)
            have tr : 1 ≤ zTh m s ∧ zTh m s ≤ 6 := by rw [t]; split <;> omega
            rw [c4, c0, ← t, if_neg (by omega), if_neg (by omega)]
            refine ⟨fun y => ⟨(if_neg (fun q => by have := q.1; omega)).symm, zFl.rf⟩, fun y => ⟨by omega, by omega, ?_⟩⟩
            refine (c_X0_isUnder (d := d + 10) tr iw (by omega)).mono (fun r m26 q _ _ => ?_)
            obtain ⟨q, hm⟩ := q
            rw [hm]
            rcases q with ⟨hr, hu⟩ | ⟨hr, hu⟩
            · exact ⟨fun q => absurd q (by omega), fun _ => ⟨by rw [if_pos ⟨by omega, hu⟩]; exact x2, zFl.rf⟩⟩
            · exact ⟨fun _ => ⟨(if_neg (fun q => hu q.2)).symm, zFl.rf⟩, fun q => absurd hr q⟩
          · have t : zTh m s = -1 := by unfold zTh; rw [if_pos x1, e4, ← x2, if_neg z]
            rw [t, if_pos (by omega)]
            exact ⟨rfl, zFl.rf⟩
        · have t : zTh m s = 9 := by unfold zTh; rw [x1, if_neg (by omega), if_pos (by omega)]
          rw [t, if_neg (by omega), if_pos rfl, x3, x5]
          exact ⟨fun _ => ⟨by omega, by omega, inR_b (A := 1000) (by omega) (by omega) rfl, fun q => ⟨(if_pos q).symm, zFl.rf⟩, fun q => ⟨(if_neg q).symm, zFl.rf⟩⟩, fun q => absurd (by omega) q⟩
    · have n1 : ∀ a k, ¬ zXX a k → m1.1 a k = m.1 a k := fun a k q => f.1 a k q
      have tm : zTh m1 s = zTh m s := by
        unfold zTh
        rw [n1 125 _ (by unfold zXX; omega), n1 126 _ (by unfold zXX; omega), n1 98 4 (by unfold zXX; omega), n1 100 _ (by unfold zXX; omega), n1 100 _ (by unfold zXX; omega)]
      refine zCt.of (by decide) (Nat.le_of_ble_eq_true rfl) (vc_X10_taken_0 (d := d + 8) s w m1 is iw (fun _ => ?_))
      refine ⟨fun _ => ⟨fun _ => ?_, fun z => ⟨fun _ => ?_, fun q => absurd (by omega) q⟩⟩, fun q => absurd hv.1 q⟩
      all_goals
        refine (c_X10_kindOn (d := d + 8) hv.1 (by rw [n1 98 4 (by unfold zXX; omega), e4]; exact h4)).mono (fun r7 m8 q _ hz => ?_)
        obtain ⟨hr, hm⟩ := q
        rw [hr, hm, tm, n1 126 _ (by unfold zXX; omega), n1 127 _ (by unfold zXX; omega)]
        unfold zqTk
        refine ⟨fun z => ?_, fun z => ⟨by rw [if_pos (by omega)], zGd.rf hC⟩⟩
        rw [if_neg (by omega)]
        refine ⟨fun y => ?_, fun y => ?_⟩
        · rw [if_pos y]
          refine ⟨by omega, by omega, ?_, fun q => ⟨(if_pos q).symm, zGd.rf hC⟩, fun q => ⟨(if_neg q).symm, zGd.rf hC⟩⟩
          rcases hx with ⟨x1, x2, x3⟩ | ⟨x1, x2, x3, x4⟩ | ⟨x1, x2, x3, x4, x5⟩
          · exfalso
            have t : zTh m s = -1 := by unfold zTh; rw [x1, if_neg (by omega), if_neg (by omega)]
            omega
          · exfalso
            have : zTh m s ≤ 6 := by
              unfold zTh
              rw [if_pos x1]
              split
              · rename_i z0
                have z0' : 0 ≤ m.1 126 s ∧ m.1 126 s < pv m.1 98 4 := by rw [← e4]; exact z0
                have g0 := (wf_part hW z0'.1 z0'.2).1
                have t0 : m.1 100 (10 * m.1 126 s + 0) = zp (pv m.1) (m.1 126 s) 0 := pv_r rfl (by omega) _
                split
                · rw [t0]; omega
                · omega
              · omega
            omega
          · rw [← x3]; exact inR_b (A := 1000) (by omega) (by omega) rfl
        · rw [if_neg y]
          refine ⟨fun x => ⟨(if_neg (fun q => by have := q.1; omega)).symm, zGd.rf hC⟩, fun x => ⟨fun u => ⟨by omega, by omega, (if_pos ⟨by omega, u⟩).symm, zGd.rf hC⟩, fun u => ⟨(if_neg (fun q => u q.2)).symm, zGd.rf hC⟩⟩⟩
  · refine zOk.no (F := -1) h ?_ (fun m1 e f => ?_)
    · exact zCt.of (by decide) (Nat.le_of_ble_eq_true rfl) (vc_X9_taken_0 (d := d + 9) s w m is iw (fun _ => ⟨fun z1 => ⟨fun z2 => absurd ⟨z1, Or.inl z2⟩ hv, fun z2 => ⟨fun z3 => absurd ⟨z1, Or.inr z3⟩ hv, fun _ => ⟨rfl, rfl⟩⟩⟩, fun _ => ⟨rfl, rfl⟩⟩))
    · exact zCt.of (by decide) (Nat.le_of_ble_eq_true rfl) (vc_X10_taken_0 (d := d + 8) s w m1 is iw (fun _ => ⟨fun z1 => ⟨fun z2 => absurd ⟨z1, Or.inl z2⟩ hv, fun z2 => ⟨fun z3 => absurd ⟨z1, Or.inr z3⟩ hv, fun _ => ⟨rfl, rfl⟩⟩⟩, fun _ => ⟨rfl, rfl⟩⟩))
end HS2
