/-! ===== SHEETS and SHELVES: both sides ===== -/
theorem zlg_back {x : Int} (h : inR x) : ((iz x).toInt64.toInt32).toInt = x := by rw [Int32.toInt32_toInt64, iz_toInt h]
theorem zlg_int {x : Int} (h : inR x) : (iz x).toInt64.toInt = x := by rw [Int32.toInt_toInt64, iz_toInt h]
theorem zlg_lt {x : Int} {c : Int64} (h : inR x) : (lg_cmp (iz x).toInt64 c).toInt < 0 ↔ x < c.toInt := by
  have e := zlg_int h
  unfold lg_cmp
  by_cases h1 : (iz x).toInt64 > c
  · rw [if_pos h1]
    have h2 : c.toInt < (iz x).toInt64.toInt := Int64.lt_iff_toInt_lt.mp h1
    rw [e] at h2
    have h3 : (1 : Int32).toInt = 1 := rfl
    rw [h3]
    omega
  · rw [if_neg h1]
    have h2 : ¬ c.toInt < (iz x).toInt64.toInt := fun z => h1 (Int64.lt_iff_toInt_lt.mpr z)
    rw [e] at h2
    by_cases h4 : (iz x).toInt64 = c
    · rw [if_pos h4]
      have h5 : c.toInt = x := by rw [← h4, e]
      have h3 : (0 : Int32).toInt = 0 := rfl
      rw [h3]
      omega
    · rw [if_neg h4]
      have h5 : ¬ c.toInt = x := fun z => h4 (Int64.toInt_inj.mp (by rw [e, z]))
      have h3 : (-1 : Int32).toInt = -1 := rfl
      rw [h3]
      omega
theorem zlg_gt {x : Int} {c : Int64} (h : inR x) : 0 < (lg_cmp (iz x).toInt64 c).toInt ↔ c.toInt < x := by
  have e := zlg_int h
  unfold lg_cmp
  by_cases h1 : (iz x).toInt64 > c
  · rw [if_pos h1]
    have h2 : c.toInt < (iz x).toInt64.toInt := Int64.lt_iff_toInt_lt.mp h1
    rw [e] at h2
    have h3 : (1 : Int32).toInt = 1 := rfl
    rw [h3]
    omega
  · rw [if_neg h1]
    have h2 : ¬ c.toInt < (iz x).toInt64.toInt := fun z => h1 (Int64.lt_iff_toInt_lt.mpr z)
    rw [e] at h2
    by_cases h4 : (iz x).toInt64 = c
    · rw [if_pos h4]
      have h3 : (0 : Int32).toInt = 0 := rfl
      rw [h3]
      omega
    · rw [if_neg h4]
      have h3 : (-1 : Int32).toInt = -1 := rfl
      rw [h3]
      omega
section HST
variable {K : zCx} {d : Nat} {n : Int} {m : zM}
def zSH (a _k : Int) : Prop := (88 ≤ a ∧ a ≤ 93) ∨ (122 ≤ a ∧ a ≤ 127)
theorem zInv.host {m2 : zM} (h : zInv n m) (f : zFl zSH m m2) (hH : zIH m2) : zInv (n + 1) m2 := by
  obtain ⟨⟨hG, hR⟩, h2, h3, h4, h5, -, h7⟩ := h
  have e2 : pv m2.1 = pv m.1 := pv_eq (fun a k x => f.1 a k (by unfold zSH; omega))
  have e18 : m2.1 98 18 = m.1 98 18 := f.1 _ _ (by unfold zSH; omega)
  refine ⟨⟨by rw [e2]; exact hG, ?_⟩, ⟨h2.1.k (fun t => f.1 _ _ (by unfold zSH; omega)) e18, by have := h2.2; omega⟩, h3.k (fun a k x => f.1 a k ?_), h4.k (fun a k x => f.1 a k ?_), h5.k (fun a k x => f.1 a k ?_), hH, h7.k (fun a k x => f.1 a k ?_)⟩
  · rw [e2]; exact hR.kept hG.1 (fun a k x y => f.1 a k (by unfold zSH; omega))
  · unfold zSH; omega
  · unfold zSH; omega
  · unfold zSH; omega
  · unfold zSH; omega
theorem o_item {s t i : Int} (is : inR s) (it : inR t) (ii : inR i) (h : zInv n m) (hn : 0 ≤ n ∧ n ≤ 100) : zOk K (d + 12) mX9_item mX10_item [.int (iz s), .int (iz t), .int (iz i)] n m := by
  obtain ⟨hs, hl, -⟩ := h.2.2.2.2.2.1
  refine zOk.q (F := if 0 ≤ s ∧ s ≤ 3 then (if 0 ≤ t ∧ t ≤ 3 then (if m.1 122 s < 0 then -11 else if m.1 122 s = t then (if 0 ≤ i ∧ i < m.1 123 s then m.1 90 (s * 40 + i) else -12) else -13) else -1) else -1) (N := 0) h hn (by omega) ?_ (fun m1 f e hC hB => ?_)
  · refine zCt.of (by decide) (Nat.le_of_ble_eq_true rfl) (vc_X9_item_0 (d := d + 9) s t i m is it ii (fun _ => ?_))
    refine ⟨fun z1 => ?_, fun z1 => ⟨(if_neg z1).symm, zFl.rf⟩⟩
    rw [if_pos z1]
    obtain ⟨⟨a1, a2, a3⟩, b1, b2, b3⟩ := hs s z1.1 (by omega)
    rw [a1, b1]
    refine ⟨fun z2 => ⟨by omega, by omega, fun v e => ?_⟩, fun z2 => ⟨(if_neg z2).symm, zFl.rf⟩⟩
    rw [if_pos z2]
    by_cases y1 : m.1 122 s < 0
    · rw [if_pos y1] at e ⊢
      exact ⟨fun q => absurd q (by omega), fun _ => ⟨e, zFl.rf⟩⟩
    · rw [if_neg y1] at e ⊢
      by_cases y2 : m.1 122 s = t
      · rw [if_pos y2] at e ⊢
        refine ⟨fun _ => ⟨by omega, by omega, by omega, fun z3 => ⟨by omega, by omega, (if_pos z3).symm, zFl.rf⟩, fun z3 => ⟨(if_neg z3).symm, zFl.rf⟩⟩, fun q => absurd e q⟩
      · rw [if_neg y2] at e ⊢
        exact ⟨fun q => absurd q (by omega), fun _ => ⟨e, zFl.rf⟩⟩
  · refine zCt.of (by decide) (Nat.le_of_ble_eq_true rfl) (vc_X10_item_0 (d := d + 9) s t i m1 is it ii (fun hz => ?_))
    have n1 : ∀ a k, ¬ zXX a k → m1.1 a k = m.1 a k := fun a k q => f.1 a k q
    rw [n1 122 _ (by unfold zXX; omega), n1 123 _ (by unfold zXX; omega), f.2 124 _ (by unfold zXX; omega)]
    refine ⟨fun z1 => ?_, fun z1 => ⟨(if_neg z1).symm, zGd.rf hC⟩⟩
    rw [if_pos z1]
    obtain ⟨⟨a1, a2, a3⟩, b1, b2, b3⟩ := hs s z1.1 (by omega)
    refine ⟨fun z2 => ⟨by omega, by omega, fun v e => ?_⟩, fun z2 => ⟨(if_neg z2).symm, zGd.rf hC⟩⟩
    rw [if_pos z2]
    by_cases y1 : m.1 122 s < 0
    · rw [if_pos y1] at e ⊢
      exact ⟨fun q => absurd q (by omega), fun _ => ⟨e, zGd.rf hC⟩⟩
    · rw [if_neg y1] at e ⊢
      by_cases y2 : m.1 122 s = t
      · rw [if_pos y2] at e ⊢
        refine ⟨fun _ => ⟨by omega, by omega, inR_b (A := 1000) (by omega) (by omega) rfl, fun z3 => ⟨by omega, by omega, ?_, zGd.rf hC⟩, fun z3 => ⟨(if_neg (fun q => z3 ⟨q.1, by omega⟩)).symm, zGd.rf hC⟩⟩, fun q => absurd e q⟩
        rw [if_pos ⟨z3.1, by omega⟩, hl _ (by omega) (by omega), zlg_back (by rw [← n1 90 _ (by unfold zXX; omega)]; exact hz _ _), show 40 * s + i = s * 40 + i by omega]
      · rw [if_neg y2] at e ⊢
        exact ⟨fun q => absurd q (by omega), fun _ => ⟨e, zGd.rf hC⟩⟩
theorem o_sheet {s t l : Int} (is : inR s) (it : inR t) (il : inR l) (h : zInv n m) (hn : 0 ≤ n ∧ n ≤ 100) : zOk K (d + 12) mX9_sheet mX10_sheet [.int (iz s), .int (iz t), .int (iz l)] n m := by
  obtain ⟨hs, hl, hh⟩ := h.2.2.2.2.2.1
  by_cases hv : (0 ≤ s ∧ s ≤ 3) ∧ (-1 ≤ t ∧ t ≤ 3) ∧ (0 ≤ t → 0 ≤ l ∧ l ≤ 40)
  · -- the reference
    have ref : ∀ m1, zFr (fun a k => (a = 88 ∧ k = s) ∨ (a = 89 ∧ k = s) ∨ (a = 90 ∧ s * 40 ≤ k ∧ k < s * 40 + 40)) m m1 → m1.1 88 s = t → m1.1 89 s = (if 0 ≤ t then l else 0) → (∀ k, s * 40 ≤ k → k < s * 40 + 40 → m1.1 90 k = 0) → zCt K (d + 12) mX10_sheet (rr K 98 :: [.int (iz s), .int (iz t), .int (iz l)]) m1 (fun r' m2 => r' = 1 ∧ zInv (n + 1) m2) := by
      intro m1 f h88 h89 h90
      have loop : ∀ (m3 : zM), zFr (fun a k => (a = 122 ∧ k = s) ∨ (a = 123 ∧ k = s)) m1 m3 → m3.1 122 s = t → m3.1 123 s = (if 0 ≤ t then l else 0) → ∀ (k j : Nat), j + k = 40 → ∀ m', zFl (fun a k => a = 124 ∧ 40 * s ≤ k ∧ k < 40 * s + 40) m3 m' → (∀ i, m'.1 124 i = m3.1 124 i) → (∀ i, 40 * s ≤ i → i < 40 * s + j → m'.2.1 124 i = 0) → zV K mX10_sheet (d + 12) 64 [(0, rr K 98), (1, .int (iz s)), (4, .int (iz (j : Int)))] [] m' (fun r' m2 => r' = 1 ∧ zInv (n + 1) m2) := by
        intro m3 f3 e122 e123 k
        induction k with
        | zero =>
          intro j hj m' f' g' hz
          refine vc_X10_sheet_64 (d := d + 9) s _ m' is (inR_b (A := 1000) (by omega) (by omega) rfl) (fun _ => ⟨fun _ => ⟨rfl, ?_⟩, fun q => absurd (by omega) q⟩)
          have nI : ∀ a i, ¬ ((a = 88 ∧ i = s) ∨ (a = 89 ∧ i = s) ∨ (a = 90 ∧ s * 40 ≤ i ∧ i < s * 40 + 40) ∨ (a = 122 ∧ i = s) ∨ (a = 123 ∧ i = s) ∨ a = 124) → m'.1 a i = m.1 a i := fun a i q => by rw [f'.1 a i (by omega), f3.1 a i (by omega), f.1 a i (by omega)]
          have nL : ∀ a i, ¬ (a = 124 ∧ 40 * s ≤ i ∧ i < 40 * s + 40) → m'.2.1 a i = m.2.1 a i := fun a i q => by rw [f'.2 a i q, f3.2, f.2]
          refine h.host ⟨fun a i q => ?_, fun a i q => nL a i (by unfold zSH at q; omega)⟩ ⟨fun s' x y => ?_, fun i x y => ?_, fun s' x y => ?_⟩
          · by_cases z : a = 124
            · rw [z, g', f3.1 _ _ (by omega), f.1 _ _ (by omega)]
            · exact nI a i (by unfold zSH at q; omega)
          · by_cases z : s' = s
            · unfold zIHs
              rw [z, f'.1 88 s (by omega), f3.1 88 s (by omega), f'.1 89 s (by omega), f3.1 89 s (by omega), f'.1 122 s (by omega), f'.1 123 s (by omega), h88, h89, e122, e123]
              refine ⟨⟨rfl, by omega⟩, rfl, ?_⟩
              by_cases y0 : 0 ≤ t
              · rw [if_pos y0]; exact hv.2.2 y0
              · rw [if_neg y0]; omega
            · have := hs s' x y
              unfold zIHs at this ⊢
              rw [nI _ _ (by omega), nI _ _ (by omega), nI _ _ (by omega), nI _ _ (by omega)]
              exact this
          · by_cases z : 40 * s ≤ i ∧ i < 40 * s + 40
            · rw [hz i z.1 (by omega), f'.1 90 i (by omega), f3.1 90 i (by omega), h90 i (by omega) (by omega)]; rfl
            · rw [nL _ _ (by omega), nI _ _ (by omega)]; exact hl i x y
          · have := hh s' x y
            unfold zIHh at this ⊢
            rw [nI 125 _ (by omega), nI 91 _ (by omega), nI 92 _ (by omega), nI 126 _ (by omega), nI 93 _ (by omega), nI 127 _ (by omega)]
            exact this
        | succ k ih =>
          intro j hj m' f' g' hz
          refine vc_X10_sheet_64 (d := d + 9) s _ m' is (inR_b (A := 1000) (by omega) (by omega) rfl) (fun _ => ⟨fun q => absurd q (by omega), fun _ => ⟨by omega, by omega, fun m4 e4 _ => ih (j + 1) (by omega) m4 (f'.putL e4 ⟨rfl, by omega, by omega⟩) (fun i => by rw [e4]; exact g' i) (fun i x y => ?_)⟩⟩)
          rw [e4, sL_at]
          by_cases z : i = 40 * s + (j : Int)
          · rw [if_pos ⟨rfl, z⟩]
          · rw [if_neg (fun q => z q.2)]; exact hz i x (by omega)
      have go : ∀ mA mB : zM, ∀ v, v = (if 0 ≤ t then l else 0) → mA = sI m1 122 s t → mB = sI mA 123 s v → zV K mX10_sheet (d + 12) 64 [(0, rr K 98), (1, .int (iz s)), (4, .int (iz 0))] [] mB (fun r' m2 => r' = 1 ∧ zInv (n + 1) m2) := by
        intro mA mB v ev eA eB
        refine loop mB ((zFr.rf.put eA (Or.inl ⟨rfl, rfl⟩)).put eB (Or.inr ⟨rfl, rfl⟩)) (by rw [eB, sI_ne (Or.inl (by omega)), eA, sI_eq]) (by rw [eB, sI_eq, ev]) 40 0 (by omega) mB zFl.rf (fun i => rfl) (fun i x y => absurd y (by omega))
      refine zCt.of (by decide) (Nat.le_of_ble_eq_true rfl) (vc_X10_sheet_0 (d := d + 9) s t l m1 is it il (fun _ => ?_))
      refine ⟨fun _ => ⟨fun _ => ⟨fun t0 => ⟨fun _ => ⟨by omega, by omega, fun mA eA _ v ev mB eB _ => go mA mB v ev eA eB⟩, fun q => absurd t0 q⟩, fun t0 => ⟨fun _ => ⟨fun q => absurd q t0, fun _ => ⟨fun _ => ⟨by omega, by omega, fun mA eA _ v ev mB eB _ => go mA mB v ev eA eB⟩, fun q => absurd (hv.2.2 (by omega)).1 q⟩⟩, fun q => absurd (hv.2.2 (by omega)).2 q⟩⟩, fun q => absurd hv.2.1 q⟩, fun q => absurd hv.1 q⟩
    -- the class
    have lay : zCt K (d + 11) mX2_lay [rr K 87, .int (iz s), .int (iz t), .int (iz l)] m (fun r m1 => r = 0 ∧ zFr (fun a k => (a = 88 ∧ k = s) ∨ (a = 89 ∧ k = s) ∨ (a = 90 ∧ s * 40 ≤ k ∧ k < s * 40 + 40)) m m1 ∧ m1.1 88 s = t ∧ m1.1 89 s = (if 0 ≤ t then l else 0) ∧ ∀ k, s * 40 ≤ k → k < s * 40 + 40 → m1.1 90 k = 0) := by
      refine zCt.of (by decide) (Nat.le_of_ble_eq_true rfl) (vc_X2_lay_0 (d := d + 10) s t l m is it il (fun _ => ⟨by omega, by omega, fun m3 e3 _ v5 e5 m7 e7 _ => ?_⟩))
      have loop : ∀ (k j : Nat), j + k = 40 → ∀ m', zFr (fun a k => a = 90 ∧ s * 40 ≤ k ∧ k < s * 40 + 40) m7 m' → (∀ i, s * 40 ≤ i → i < s * 40 + j → m'.1 90 i = 0) → zV K mX2_lay (d + 11) 25 [(0, rr K 87), (1, .int (iz s)), (4, .int (iz (j : Int)))] [] m' (fun r m1 => r = 0 ∧ zFr (fun a k => (a = 88 ∧ k = s) ∨ (a = 89 ∧ k = s) ∨ (a = 90 ∧ s * 40 ≤ k ∧ k < s * 40 + 40)) m m1 ∧ m1.1 88 s = t ∧ m1.1 89 s = (if 0 ≤ t then l else 0) ∧ ∀ k, s * 40 ≤ k → k < s * 40 + 40 → m1.1 90 k = 0) := by
        intro k
        induction k with
        | zero =>
          intro j hj m' f' hz
          refine vc_X2_lay_25 (d := d + 10) s _ m' is (inR_b (A := 1000) (by omega) (by omega) rfl) (fun _ => ⟨fun _ => ⟨rfl, ((zFr.rf.put e3 (by omega)).put e7 (by omega)).tr (f'.mono (fun a k q => Or.inr (Or.inr q))), ?_, ?_, fun k x y => hz k x (by omega)⟩, fun q => absurd (by omega) q⟩)
          · rw [f'.1 _ _ (by omega), e7, sI_ne (Or.inl (by omega)), e3, sI_eq]
          · rw [f'.1 _ _ (by omega), e7, sI_eq, e5]
        | succ k ih =>
          intro j hj m' f' hz
          refine vc_X2_lay_25 (d := d + 10) s _ m' is (inR_b (A := 1000) (by omega) (by omega) rfl) (fun _ => ⟨fun q => absurd q (by omega), fun _ => ⟨by omega, by omega, fun m4 e4 _ => ih (j + 1) (by omega) m4 (f'.put e4 ⟨rfl, by omega, by omega⟩) (fun i x y => ?_)⟩⟩)
          rw [e4, sI_at]
          by_cases z : i = s * 40 + (j : Int)
          · rw [if_pos ⟨rfl, z⟩]
          · rw [if_neg (fun q => z q.2)]; exact hz i x (by omega)
      exact loop 40 0 (by omega) m7 zFr.rf (fun i x y => absurd y (by omega))
    have fin : zCt K (d + 11) mX2_lay [rr K 87, .int (iz s), .int (iz t), .int (iz l)] m (fun r m1 => inR r → zok m1 → zCt K (d + 12) mX10_sheet (rr K 98 :: [.int (iz s), .int (iz t), .int (iz l)]) m1 (fun r' m2 => r' = 1 ∧ zInv (n + 1) m2)) := lay.mono (fun r m1 q _ _ => ref m1 q.2.1 q.2.2.1 q.2.2.2.1 q.2.2.2.2)
    refine zCt.of (by decide) (Nat.le_of_ble_eq_true rfl) (vc_X9_sheet_0 (d := d + 10) s t l m is it il (fun _ => ?_))
    exact ⟨fun _ => ⟨fun _ => ⟨fun t0 => ⟨fun _ => fin, fun q => absurd t0 q⟩, fun t0 => ⟨fun _ => ⟨fun q => absurd q t0, fun _ => ⟨fun _ => fin, fun q => absurd (hv.2.2 (by omega)).1 q⟩⟩, fun q => absurd (hv.2.2 (by omega)).2 q⟩⟩, fun q => absurd hv.2.1 q⟩, fun q => absurd hv.1 q⟩
  · refine zOk.no (F := if (0 ≤ s ∧ s ≤ 3) ∧ (-1 ≤ t ∧ t ≤ 3) ∧ l < 0 then -14 else -1) h ?_ (fun m1 e f => ?_)
    · refine zCt.of (by decide) (Nat.le_of_ble_eq_true rfl) (vc_X9_sheet_0 (d := d + 10) s t l m is it il (fun _ => ?_))
      exact ⟨fun z1 => ⟨fun z2 => ⟨fun t0 => absurd ⟨z1, z2, fun q => absurd q (by omega)⟩ hv, fun t0 => ⟨fun z3 => ⟨fun q => absurd q t0, fun _ => ⟨fun z4 => absurd ⟨z1, z2, fun _ => ⟨z4, z3⟩⟩ hv, fun z4 => ⟨(if_pos ⟨z1, z2, by omega⟩).symm, rfl⟩⟩⟩, fun z3 => ⟨(if_neg (by omega)).symm, rfl⟩⟩⟩, fun z2 => ⟨(if_neg (fun q => z2 q.2.1)).symm, rfl⟩⟩, fun z1 => ⟨(if_neg (fun q => z1 q.1)).symm, rfl⟩⟩
    · refine zCt.of (by decide) (Nat.le_of_ble_eq_true rfl) (vc_X10_sheet_0 (d := d + 9) s t l m1 is it il (fun _ => ?_))
      exact ⟨fun z1 => ⟨fun z2 => ⟨fun t0 => absurd ⟨z1, z2, fun q => absurd q (by omega)⟩ hv, fun t0 => ⟨fun z3 => ⟨fun q => absurd q t0, fun _ => ⟨fun z4 => absurd ⟨z1, z2, fun _ => ⟨z4, z3⟩⟩ hv, fun z4 => ⟨(if_pos ⟨z1, z2, by omega⟩).symm, rfl⟩⟩⟩, fun z3 => ⟨(if_neg (by omega)).symm, rfl⟩⟩⟩, fun z2 => ⟨(if_neg (fun q => z2 q.2.1)).symm, rfl⟩⟩, fun z1 => ⟨(if_neg (fun q => z1 q.1)).symm, rfl⟩⟩
end HST
