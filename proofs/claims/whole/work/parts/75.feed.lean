/-! ===== feed(): both sides ===== -/
theorem zby_256 : ∀ n : Fin 256, (Int64.ofBitVec (BitVec.ofNat 64 n.val)).toInt32.toInt = (n.val : Int) := by decide +kernel
theorem zby_le (y : Int64) : 0 ≤ (y &&& (255 : Int64)).toInt32.toInt ∧ (y &&& (255 : Int64)).toInt32.toInt ≤ 255 := by
  have h1 : (y &&& (255 : Int64)).toBitVec.toNat < 256 := by
    have : (y &&& (255 : Int64)).toBitVec = y.toBitVec &&& 255#64 := rfl
    rw [this, BitVec.toNat_and]
    have := Nat.and_le_right (n := y.toBitVec.toNat) (m := (255#64).toNat)
    have e : (255#64).toNat = 255 := rfl
    omega
  have h2 : y &&& (255 : Int64) = Int64.ofBitVec (BitVec.ofNat 64 (y &&& (255 : Int64)).toBitVec.toNat) := by
    rw [BitVec.ofNat_toNat, BitVec.setWidth_eq]
    rfl
  have h3 := zby_256 ⟨(y &&& (255 : Int64)).toBitVec.toNat, h1⟩
  have h3 : (Int64.ofBitVec (BitVec.ofNat 64 (y &&& (255 : Int64)).toBitVec.toNat)).toInt32.toInt = (((y &&& (255 : Int64)).toBitVec.toNat : Nat) : Int) := h3
  rw [← h2] at h3
  omega
def zby (l : Int64) (k : Int) : Int := (((((l).toUInt64 >>> ((iz (8 * k)).toInt64.toUInt64 &&& Int64.toUInt64 63)).toInt64 &&& (255 : Int64))).toInt32.toInt)
theorem zby_r (l : Int64) (k : Int) : 0 ≤ zby l k ∧ zby l k ≤ 255 := zby_le _
section FEED
variable {K : zCx} {d : Nat} {n : Int} {m : zM}
theorem o_feed {l : Int64} {c : Int} (ic : inR c) (h : zInv n m) (hn : 0 ≤ n ∧ n ≤ 100) : zOk K (d + 12) mX9_feed mX10_feed [.long l, .int (iz c)] n m := by
  obtain ⟨⟨hG, hR⟩, h2, h3, h4, h5, h6, h7⟩ := id h
  obtain ⟨t1, t2, t3, t4⟩ := h5
  by_cases hv : (1 ≤ c ∧ c ≤ 8) ∧ m.1 98 23 + c ≤ 220
  · have ref : ∀ m1, zFr (fun a k => a = 57 ∨ (a = 56 ∧ k = 2)) m m1 → m1.1 56 2 = m.1 98 23 + c → (∀ i, 0 ≤ i → i < m.1 98 23 → m1.1 57 i = m.1 57 i) → (∀ i, 0 ≤ i → i < c → m1.1 57 (m.1 98 23 + i) = zby l i) → zCt K (d + 12) mX10_feed (rr K 98 :: [.long l, .int (iz c)]) m1 (fun r' m2 => r' = m.1 98 23 + c ∧ zInv (n + 1) m2) := by
      intro m1 f e2 hlo hhi
      have n1 : ∀ a k, ¬ (a = 57 ∨ (a = 56 ∧ k = 2)) → m1.1 a k = m.1 a k := fun a k q => f.1 a k q
      have loop : ∀ (g k : Nat), (k : Int) + g = c → ∀ m', zFr (fun a k => a = 111 ∨ (a = 98 ∧ k = 23)) m1 m' → m'.1 98 23 = m.1 98 23 + k → (∀ i, 0 ≤ i → i < m.1 98 23 → m'.1 111 i = m.1 111 i) → (∀ i, 0 ≤ i → i < (k : Int) → m'.1 111 (m.1 98 23 + i) = zby l i) → zV K mX10_feed (d + 12) 30 [(0, rr K 98), (1, .long l), (3, .int (iz c)), (4, .int (iz (k : Int)))] [] m' (fun r' m2 => r' = m.1 98 23 + c ∧ zInv (n + 1) m2) := by
        intro g
        induction g with
        | zero =>
          intro k hk m' hF e23 hl' hh'
          refine vc_X10_feed_30 (d := d + 10) l c _ m' ic (inR_b (A := 1000) (by omega) (by omega) rfl) (fun _ => ⟨fun _ => ⟨by rw [e23]; omega, ?_⟩, fun q => absurd (by omega) q⟩)
          have nn : ∀ a k, ¬ (a = 57 ∨ (a = 56 ∧ k = 2) ∨ a = 111 ∨ (a = 98 ∧ k = 23)) → m'.1 a k = m.1 a k := fun a k q => by rw [hF.1 a k (by omega), n1 a k (by omega)]
          have ep : pv m'.1 = pv m.1 := pv_eq (fun a k q => nn a k (by omega))
          refine ⟨⟨by rw [ep]; exact hG, by rw [ep]; exact hR.kept hG.1 (fun a k x y => nn a k (by omega))⟩, ⟨h2.1.k (fun t => nn _ _ (by omega)) (nn _ _ (by omega)), by rw [nn _ _ (by omega)]; have := h2.2; omega⟩, h3.k (fun a k q => nn a k (by omega)), h4.k (fun a k q => nn a k (by omega)), ⟨?_, by rw [e23]; omega, fun i x y => ?_, by rw [nn _ _ (by omega)]; exact t4⟩, h6.k (fun a k q => nn a k (by omega)) (fun k => by rw [hF.2, f.2]), h7.k (fun a k q => nn a k (by omega))⟩
          · rw [hF.1 _ _ (by omega), e2, e23]; omega
          · rw [e23] at y
            rw [hF.1 57 i (by omega)]
            by_cases z : i < m.1 98 23
            · rw [hlo i x z, hl' i x z]; exact t3 i x z
            · have a1 := hhi (i - m.1 98 23) (by omega) (by omega)
              have a2 := hh' (i - m.1 98 23) (by omega) (by omega)
              rw [show m.1 98 23 + (i - m.1 98 23) = i by omega] at a1 a2
              rw [a1, a2]
              exact ⟨rfl, zby_r _ _⟩
        | succ g ih =>
          intro k hk m' hF e23 hl' hh'
          refine vc_X10_feed_30 (d := d + 10) l c _ m' ic (inR_b (A := 1000) (by omega) (by omega) rfl) (fun _ => ⟨fun q => absurd q (by omega), fun _ => ?_⟩)
          rw [e23]
          refine ⟨by omega, by omega, fun m4 e4 _ => ?_⟩
          have e23' : m4.1 98 23 = m.1 98 23 + k := by rw [e4, sI_ne (by omega)]; exact e23
          rw [e23']
          refine ⟨inR_b (A := 1000) (by omega) (by omega) rfl, fun m7 e7 _ => ih (k + 1) (by omega) m7 ((hF.put e4 (Or.inl rfl)).put e7 (Or.inr ⟨rfl, rfl⟩)) (by rw [e7, sI_eq]; omega) (fun i x y => ?_) (fun i x y => ?_)⟩
          · rw [e7, sI_ne (by omega), e4, sI_ne (by omega)]; exact hl' i x y
          · rw [e7, sI_ne (by omega), e4, sI_at]
            by_cases z : i = k
            · rw [if_pos (by omega), z]; rfl
            · rw [if_neg (by omega)]; exact hh' i x (by omega)
      refine zCt.of (by decide) (Nat.le_of_ble_eq_true rfl) (vc_X10_feed_0 (d := d + 10) l c m1 ic (fun _ => ?_))
      rw [n1 98 23 (by omega)]
      refine ⟨fun _ => ⟨inR_b (A := 1000) (by omega) (by omega) rfl, fun _ => loop c.toNat 0 (by omega) m1 zFr.rf (by rw [n1 98 23 (by omega)]; show _ = _ + (0 : Int); omega) (fun i x y => n1 _ _ (by omega)) (fun i x y => absurd y (by omega)), fun q => absurd hv.2 q⟩, fun q => absurd hv.1 q⟩
    have loop : ∀ (g k : Nat), (k : Int) + g = c → ∀ m', zFr (fun a k => a = 57 ∨ (a = 56 ∧ k = 2)) m m' → m'.1 56 2 = m.1 98 23 + k → (∀ i, 0 ≤ i → i < m.1 98 23 → m'.1 57 i = m.1 57 i) → (∀ i, 0 ≤ i → i < (k : Int) → m'.1 57 (m.1 98 23 + i) = zby l i) → zV K mX5_take (d + 11) 3 [(0, rr K 56), (1, .long l), (3, .int (iz c)), (4, .int (iz (k : Int)))] [] m' (fun r m1 => inR r → zok m1 → zCt K (d + 12) mX10_feed (rr K 98 :: [.long l, .int (iz c)]) m1 (fun r' m2 => r' = m1.1 56 2 ∧ zInv (n + 1) m2)) := by
      intro g
      induction g with
      | zero =>
        intro k hk m' hF e2 hl' hh'
        refine vc_X5_take_3 (d := d + 10) l c _ m' ic (inR_b (A := 1000) (by omega) (by omega) rfl) (fun _ => ⟨fun _ _ _ => ?_, fun q => absurd (by omega) q⟩)
        refine (ref m' hF (by rw [e2]; omega) hl' (fun i x y => hh' i x (by omega))).mono (fun r' m2 q => ⟨?_, q.2⟩)
        rw [q.1, e2]; omega
      | succ g ih =>
        intro k hk m' hF e2 hl' hh'
        refine vc_X5_take_3 (d := d + 10) l c _ m' ic (inR_b (A := 1000) (by omega) (by omega) rfl) (fun _ => ⟨fun q => absurd q (by omega), fun _ => ?_⟩)
        rw [e2]
        refine ⟨fun q => absurd q (by omega), fun _ => ⟨by omega, by omega, fun m5 e5 _ => ?_⟩⟩
        have e2' : m5.1 56 2 = m.1 98 23 + k := by rw [e5, sI_ne (by omega)]; exact e2
        rw [e2']
        refine ⟨inR_b (A := 1000) (by omega) (by omega) rfl, fun m8 e8 _ => ih (k + 1) (by omega) m8 ((hF.put e5 (Or.inl rfl)).put e8 (Or.inr ⟨rfl, rfl⟩)) (by rw [e8, sI_eq]; omega) (fun i x y => ?_) (fun i x y => ?_)⟩
        · rw [e8, sI_ne (by omega), e5, sI_ne (by omega)]; exact hl' i x y
        · rw [e8, sI_ne (by omega), e5, sI_at]
          by_cases z : i = k
          · rw [if_pos (by omega), z]; rfl
          · rw [if_neg (by omega)]; exact hh' i x (by omega)
    refine zCt.of (by decide) (Nat.le_of_ble_eq_true rfl) (vc_X9_feed_0 (d := d + 10) l c m ic (fun _ => ?_))
    rw [t1]
    refine ⟨fun _ => ⟨inR_b (A := 1000) (by omega) (by omega) rfl, fun _ => ?_, fun q => absurd hv.2 q⟩, fun q => absurd hv.1 q⟩
    exact zCt.of (by decide) (Nat.le_of_ble_eq_true rfl) (vc_X5_take_0 (d := d + 10) l c m ic (fun _ => loop c.toNat 0 (by omega) m zFr.rf (by rw [t1]; show _ = _ + (0 : Int); omega) (fun i x y => rfl) (fun i x y => absurd y (by omega))))
  · refine zOk.no (F := if 1 ≤ c ∧ c ≤ 8 then -2 else -1) h ?_ (fun m1 e f => ?_)
    · refine zCt.of (by decide) (Nat.le_of_ble_eq_true rfl) (vc_X9_feed_0 (d := d + 10) l c m ic (fun _ => ?_))
      rw [t1]
      exact ⟨fun z => ⟨inR_b (A := 1000) (by omega) (by omega) rfl, fun y => absurd ⟨z, y⟩ hv, fun _ => ⟨(if_pos z).symm, rfl⟩⟩, fun z => ⟨(if_neg z).symm, rfl⟩⟩
    · refine zCt.of (by decide) (Nat.le_of_ble_eq_true rfl) (vc_X10_feed_0 (d := d + 10) l c m1 ic (fun _ => ?_))
      rw [f.1 98 23 (by unfold zPn; omega)]
      exact ⟨fun z => ⟨inR_b (A := 1000) (by omega) (by omega) rfl, fun y => absurd ⟨z, y⟩ hv, fun _ => ⟨(if_pos z).symm, rfl⟩⟩, fun z => ⟨(if_neg z).symm, rfl⟩⟩
end FEED
