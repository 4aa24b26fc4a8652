/-! ===== table(): both sides ===== -/
def zTb (P : F2) (g : Int → Int) : F2 := fun a k => if a = 99 ∧ 21 * P 98 2 ≤ k ∧ k < 21 * P 98 2 + 21 then g (k - 21 * P 98 2) else if a = 98 ∧ k = 2 then P 98 2 + 1 else P a k
section TBL
variable {P : F2} {g : Int → Int}
theorem zTb_2 : zTb P g 98 2 = P 98 2 + 1 := by unfold zTb; rw [if_neg (by omega), if_pos (by omega)]
theorem zTb_ne {a k : Int} (h1 : ¬ (a = 99 ∧ 21 * P 98 2 ≤ k)) (h2 : ¬ (a = 98 ∧ k = 2)) : zTb P g a k = P a k := by unfold zTb; rw [if_neg (by omega), if_neg h2]
theorem zTb_99 {k : Int} (h : 0 ≤ k ∧ k < 21) : zTb P g 99 (21 * P 98 2 + k) = g k := by unfold zTb; rw [if_pos (by omega), show 21 * P 98 2 + k - 21 * P 98 2 = k by omega]
theorem zGoodP.tb (h : zGoodP P) (hg : ∀ k, 0 ≤ k → k < 21 → 0 ≤ g k ∧ g k ≤ 30) (ht : P 98 2 < 4) : zGoodP (zTb P g) := by
  have hn : ∀ a j, ¬ (a = 99 ∧ 21 * P 98 2 ≤ j) → ¬ (a = 98 ∧ j = 2) → zTb P g a j = P a j := fun a j => zTb_ne
  obtain ⟨h1, h2, h3, h4, h5, h6, h7, h8, h9, h10⟩ := h.1
  refine ⟨⟨by rw [hn _ _ (by omega) (by omega)]; exact h1, by rw [hn _ _ (by omega) (by omega)]; exact h2, by rw [zTb_2]; omega, by rw [hn _ _ (by omega) (by omega)]; exact h4, by rw [hn _ _ (by omega) (by omega)]; exact h5, fun i a b => ?_, fun p a b => ?_, fun p a b => ?_, fun j a b => ?_, fun i a b => by rw [hn _ _ (by omega) (by omega)]; exact h10 i a b⟩, h.2.1.c (hn _ _ (by omega) (by omega)) (fun j => hn _ _ (by omega) (by omega)) (fun j => hn _ _ (by omega) (by omega)), by rw [zoc_c (fun j => hn _ _ (by omega) (by omega)) (hn _ _ (by omega) (by omega))]; exact h.2.2⟩
  · rw [zTb_2] at b
    by_cases z : i < 21 * P 98 2
    · rw [hn _ _ (by omega) (by omega)]; exact h6 i a z
    · have := zTb_99 (P := P) (g := g) (k := i - 21 * P 98 2) (by omega)
      rw [show 21 * P 98 2 + (i - 21 * P 98 2) = i by omega] at this
      rw [this]
      exact hg _ (by omega) (by omega)
  · rw [hn _ _ (by omega) (by omega)] at b; exact (h7 p a b).c (fun j => hn _ _ (by omega) (by omega)) (by rw [zTb_2]; omega)
  · rw [hn _ _ (by omega) (by omega)] at b; unfold zOpenOk; rw [hn _ _ (by omega) (by omega), hn _ _ (by omega) (by omega)]; exact h8 p a b
  · rw [hn _ _ (by omega) (by omega)] at b; rw [hn 98 4 (by omega) (by omega), hn 102 _ (by omega) (by omega), hn 102 _ (by omega) (by omega)]; exact h9 j a b
end TBL
section TBM
variable {K : zCx} {d : Nat} {n : Int} {m : zM}
def zTk1 (m : zM) (s : Int) : Nat → Bool
  | 0 => decide (m.1 123 s = 21)
  | k + 1 => zTk1 m s k && decide (0 ≤ m.1 90 (s * 40 + (k : Int)) ∧ m.1 90 (s * 40 + (k : Int)) ≤ 30)
theorem zTk1_s {s : Int} (k : Nat) : zTk1 m s (k + 1) = (zTk1 m s k && decide (0 ≤ m.1 90 (s * 40 + (k : Int)) ∧ m.1 90 (s * 40 + (k : Int)) ≤ 30)) := rfl
theorem zTk1_f {s : Int} {k : Nat} (h : zTk1 m s k = false) : ∀ j, zTk1 m s (k + j) = false := by
  intro j
  induction j with
  | zero => exact h
  | succ j ih => rw [show k + (j + 1) = (k + j) + 1 by omega, zTk1_s, ih, Bool.false_and]
theorem zTk1_t {s : Int} : ∀ k : Nat, zTk1 m s k = true → ∀ j : Nat, j < k → 0 ≤ m.1 90 (s * 40 + (j : Int)) ∧ m.1 90 (s * 40 + (j : Int)) ≤ 30 := by
  intro k
  induction k with
  | zero => intro _ j hj; exact absurd hj (Nat.not_lt_zero _)
  | succ k ih =>
    intro h j hj
    rw [zTk1_s, Bool.and_eq_true] at h
    by_cases e : j = k
    · subst e; exact of_decide_eq_true h.2
    · exact ih h.1 j (by omega)
theorem c_X2_isTable {s : Int} (hs : 0 ≤ s ∧ s ≤ 3) (h89 : m.1 89 s = m.1 123 s) : zCt K (d + 2) mX2_isTable [rr K 87, .int (iz s)] m (fun r m1 => r = b2i (zTk1 m s 21) ∧ m1 = m) := by
  have is : inR s := inR_b (A := 1000) (by omega) (by omega) rfl
  refine zCt.of (by decide) (Nat.le_of_ble_eq_true rfl) (vc_X2_isTable_0 (d := d) s m is (fun _ => ⟨by omega, by omega, ?_⟩))
  rw [h89]
  have loop : ∀ (f k : Nat), k + f = 21 → zTk1 m s k = true → zV K mX2_isTable (d + 2) 15 [(0, rr K 87), (1, .int (iz s)), (2, .int (iz (k : Int)))] [] m (fun r m1 => r = b2i (zTk1 m s 21) ∧ m1 = m) := by
    intro f
    induction f with
    | zero => exact fun k hk ht => vc_X2_isTable_15 s _ m is (inR_b (A := 1000) (by omega) (by omega) rfl) (fun _ => ⟨fun _ => ⟨by rw [show k = 21 by omega] at ht; rw [ht]; rfl, rfl⟩, fun q => absurd (by omega) q⟩)
    | succ f ih =>
      intro k hk ht
      have hs1 := zTk1_s (m := m) (s := s) k
      rw [ht, Bool.true_and] at hs1
      refine vc_X2_isTable_15 s _ m is (inR_b (A := 1000) (by omega) (by omega) rfl) (fun _ => ⟨fun q => absurd q (by omega), fun _ => ⟨by omega, by omega, fun z => ih (k + 1) (by omega) (by rw [hs1, decide_eq_true z]), fun z => ⟨?_, rfl⟩⟩⟩)
      rw [decide_eq_false z] at hs1
      have := zTk1_f hs1 (21 - (k + 1))
      rw [show k + 1 + (21 - (k + 1)) = 21 by omega] at this
      rw [this]
      rfl
  refine ⟨fun z => loop 21 0 (by omega) (decide_eq_true z), fun z => ⟨?_, rfl⟩⟩
  have := zTk1_f (m := m) (s := s) (k := 0) (decide_eq_false z) 21
  rw [Nat.zero_add] at this
  rw [this]
  rfl
theorem o_table {s : Int} (is : inR s) (h : zInv n m) : zOk K (d + 12) mX9_table mX10_table [.int (iz s)] n m := by
  obtain ⟨hs, hl, -⟩ := h.2.2.2.2.2.1
  have hG := h.1.1
  have hW := hG.1
  have hR := h.1.2
  have h3 := hW.2.2.1
  have e7 : m.1 1 7 = pv m.1 98 2 := hR.1.2.2.1
  have t0 : (0 : Int64).toInt = 0 := rfl
  have t30 : (30 : Int64).toInt = 30 := rfl
  by_cases hv : 0 ≤ s ∧ s ≤ 3
  · obtain ⟨⟨a1, a2, a3⟩, b1, b2, b3⟩ := hs s hv.1 (by omega)
    by_cases hx : m.1 122 s = 0
    · -- the reference up to the copying
      have refl : ∀ (m1 : zM) (Q : Int → zM → Prop), pv m1.1 = pv m.1 → zFr zPn m m1 → (zTk1 m s 21 = false → Q (-4) m1) → (zTk1 m s 21 = true → pv m.1 98 2 = 4 → Q (-2) m1) → (zTk1 m s 21 = true → ¬ pv m.1 98 2 = 4 → zV K mX10_table (d + 12) 122 [(0, rr K 98), (1, .int (iz s)), (4, .int (iz 0))] [] m1 Q) → zCt K (d + 12) mX10_table [rr K 98, .int (iz s)] m1 Q := by
        intro m1 Q e f q4 q2 qc
        have n1 : ∀ a k, ¬ (1 ≤ a ∧ a ≤ 19) → m1.1 a k = m.1 a k := fun a k q => f.1 a k q
        refine zCt.of (by decide) (Nat.le_of_ble_eq_true rfl) (vc_X10_table_0 (d := d + 9) s m1 is (fun hzo => ?_))
        rw [n1 122 s (by omega), n1 123 s (by omega)]
        refine ⟨fun _ => ⟨by omega, by omega, fun v8 e8 => ?_⟩, fun q => absurd hv q⟩
        rw [if_neg (by omega), if_pos hx] at e8
        refine ⟨fun _ => ⟨by omega, by omega, fun v13 e13 => ?_⟩, fun q => absurd e8 q⟩
        have ev : v13 = b2i (zTk1 m s 0) := by
          rw [e13]
          by_cases z : m.1 123 s = 21
          · rw [if_pos z]; show 1 = b2i (decide (m.1 123 s = 21)); rw [b2i_p z]
          · rw [if_neg z]; show 0 = b2i (decide (m.1 123 s = 21)); rw [b2i_n z]
        rw [ev]
        have loop : ∀ (f k : Nat), k + f = 21 → zV K mX10_table (d + 12) 42 [(0, rr K 98), (1, .int (iz s)), (3, .int (iz (b2i (zTk1 m s k)))), (4, .int (iz (k : Int)))] [] m1 Q := by
          intro f'
          induction f' with
          | zero =>
            intro k hk
            have ek : k = 21 := by omega
            subst ek
            refine vc_X10_table_42 (d := d + 9) s _ _ m1 is (inR_b2i _) (inR_b (A := 1000) (by omega) (by omega) rfl) (fun _ => ⟨fun _ => ?_, fun q => absurd (by omega) q⟩)
            rw [pv_f e (by omega)]
            exact ⟨fun z => q4 (Bool.eq_false_iff.mpr (b2i_f z)), fun z => ⟨fun y => q2 (b2i_t z) y, fun y => qc (b2i_t z) y⟩⟩
          | succ f' ih =>
            intro k hk
            have hs1 := zTk1_s (m := m) (s := s) k
            have hih := ih (k + 1) (by omega)
            have eL : m1.2.1 124 ((40 * s) + (k : Int)) = (iz (m.1 90 (s * 40 + (k : Int)))).toInt64 := by rw [f.2, hl _ (by omega) (by omega), show (40 * s) + (k : Int) = s * 40 + (k : Int) by omega]
            have iv : inR (m.1 90 (s * 40 + (k : Int))) := by rw [← n1 90 _ (by omega)]; exact hzo _ _
            refine vc_X10_table_42 (d := d + 9) s _ _ m1 is (inR_b2i _) (inR_b (A := 1000) (by omega) (by omega) rfl) (fun _ => ⟨fun q => absurd q (by omega), fun _ => ⟨fun z => ?_, fun z => ⟨by omega, by omega, fun v7 ev7 => ?_⟩⟩⟩)
            · have hf : zTk1 m s k = false := Bool.eq_false_iff.mpr (b2i_f z)
              rw [hs1, hf, Bool.false_and] at hih
              exact hih
            · have ht : zTk1 m s k = true := b2i_t z
              rw [ht, Bool.true_and] at hs1
              have e : v7 = b2i (zTk1 m s (k + 1)) := by
                rw [ev7, eL, hs1]
                by_cases y1 : (lg_cmp (iz (m.1 90 (s * 40 + (k : Int)))).toInt64 (0 : Int64)).toInt < 0
                · rw [if_pos y1, b2i_n]
                  have := (zlg_lt iv).mp y1
                  rw [t0] at this
                  omega
                · rw [if_neg y1]
                  have y1' : ¬ m.1 90 (s * 40 + (k : Int)) < 0 := fun q => y1 ((zlg_lt iv).mpr (by rw [t0]; exact q))
                  by_cases y2 : 0 < (lg_cmp (iz (m.1 90 (s * 40 + (k : Int)))).toInt64 (30 : Int64)).toInt
                  · rw [if_pos y2, b2i_n]
                    have := (zlg_gt iv).mp y2
                    rw [t30] at this
                    omega
                  · rw [if_neg y2, b2i_p]
                    have y2' : ¬ 30 < m.1 90 (s * 40 + (k : Int)) := fun q => y2 ((zlg_gt iv).mpr (by rw [t30]; exact q))
                    omega
              rw [e]
              exact hih
        exact loop 21 0 (by omega)
      by_cases ht : zTk1 m s 21 = true
      · have hit := zTk1_t 21 ht
        by_cases h4 : pv m.1 98 2 < 4
        · refine zOk.pl (F := pv m.1 98 2) (P' := zTb (pv m.1) (fun k => m.1 90 (s * 40 + k))) h (hG.tb (fun k x y => ?_) h4) ?_ (fun m1 e f => ?_)
          · have := hit k.toNat (by omega)
            rw [show ((k.toNat : Nat) : Int) = k by omega] at this
            exact this
          · refine zCt.of (by decide) (Nat.le_of_ble_eq_true rfl) (vc_X9_table_0 (d := d + 9) s m is (fun _ => ?_))
            rw [a1]
            refine ⟨fun _ => ⟨by omega, by omega, fun v8 e8 => ?_⟩, fun q => absurd hv q⟩
            rw [if_neg (by omega), if_pos hx] at e8
            refine ⟨fun _ => ?_, fun q => absurd e8 q⟩
            refine (c_X2_isTable (d := d + 9) hv b1).mono (fun r m12 q => ?_)
            obtain ⟨hr, hm⟩ := q
            rw [hm, hr, ht, e7]
            intro _ _
            refine ⟨fun q => absurd q (by decide), fun _ => ⟨fun _ => ?_, fun q => absurd h4 q⟩⟩
            have loop : ∀ (f k : Nat), k + f = 21 → ∀ m', zFr (fun a j => a = 3 ∧ pv m.1 98 2 * 21 ≤ j) m m' → (∀ j, 0 ≤ j → j < (k : Int) → m'.1 3 (pv m.1 98 2 * 21 + j) = m.1 90 (s * 40 + j)) → zV K mX9_table (d + 12) 57 [(0, rr K 0), (1, .int (iz s)), (3, .int (iz (k : Int)))] [] m' (fun r m1 => r = pv m.1 98 2 ∧ zFr zPn m m1 ∧ RQ m1 1 (zTb (pv m.1) (fun k => m.1 90 (s * 40 + k)))) := by
              intro f
              induction f with
              | zero =>
                intro k hk m' hF hj
                have c7 : m'.1 1 7 = pv m.1 98 2 := by rw [hF.1 _ _ (by omega)]; exact e7
                refine vc_X9_table_57 (d := d + 9) s _ m' is (inR_b (A := 1000) (by omega) (by omega) rfl) (fun _ => ⟨fun _ => ?_, fun q => absurd (by omega) q⟩)
                rw [c7]
                refine ⟨inR_b (A := 1000) (by omega) (by omega) rfl, fun m3 e3 _ => ?_⟩
                have d7 : m3.1 1 7 = pv m.1 98 2 + 1 := by rw [e3, sI_eq]
                rw [d7]
                have nn : ∀ a j, ¬ (a = 3 ∧ pv m.1 98 2 * 21 ≤ j) → ¬ (a = 1 ∧ j = 7) → m3.1 a j = m.1 a j := fun a j x y => by rw [e3, sI_ne (by omega), hF.1 a j x]
                have hn : ∀ a j, ¬ (a = 99 ∧ 21 * pv m.1 98 2 ≤ j) → ¬ (a = 98 ∧ j = 2) → zTb (pv m.1) (fun k => m.1 90 (s * 40 + k)) a j = pv m.1 a j := fun a j => zTb_ne
                refine ⟨inR_b (A := 1000) (by omega) (by omega) rfl, by omega, (hF.mono (fun a k q => by unfold zPn; omega)).put e3 (by unfold zPn; omega), ?_⟩
                obtain ⟨⟨r1, r2, r3, r4, r5, r6, r7, r8, r9, r10⟩, hw⟩ := hR
                refine ⟨⟨by rw [nn _ _ (by omega) (by omega), hn _ _ (by omega) (by omega)]; exact r1, by rw [nn _ _ (by omega) (by omega), hn _ _ (by omega) (by omega)]; exact r2, by rw [zTb_2]; exact d7, by rw [nn _ _ (by omega) (by omega), hn _ _ (by omega) (by omega)]; exact r4, by rw [nn _ _ (by omega) (by omega), hn _ _ (by omega) (by omega)]; exact r5, fun i a b => ?_, fun p i a b c d => ?_, fun p a b => ?_, fun i a b => ?_, fun i a b => by rw [nn _ _ (by omega) (by omega), hn _ _ (by omega) (by omega)]; exact r10 i a b⟩, RW.c (hw.kept (fun a i x y => nn a i (by omega) (by omega))) (hn _ _ (by omega) (by omega)) (fun i => hn _ _ (by omega) (by omega)) (fun i => hn _ _ (by omega) (by omega))⟩
                · rw [zTb_2] at b
                  by_cases z : i < 21 * pv m.1 98 2
                  · rw [nn _ _ (by omega) (by omega), hn _ _ (by omega) (by omega)]; exact r6 i a z
                  · have := zTb_99 (P := pv m.1) (g := fun k => m.1 90 (s * 40 + k)) (k := i - 21 * pv m.1 98 2) (by omega)
                    rw [show 21 * pv m.1 98 2 + (i - 21 * pv m.1 98 2) = i by omega] at this
                    rw [this, e3, show (1 + 2 : Int) = 3 by omega, sI_ne (by omega)]
                    have hjj := hj (i - 21 * pv m.1 98 2) (by omega) (by omega)
                    rw [show pv m.1 98 2 * 21 + (i - 21 * pv m.1 98 2) = i by omega] at hjj
                    exact hjj
                · rw [hn _ _ (by omega) (by omega)] at b; rw [nn _ _ (by omega) (by omega)]; show _ = zTb (pv m.1) _ 100 _; rw [hn _ _ (by omega) (by omega)]; exact r7 p i a b c d
                · rw [hn _ _ (by omega) (by omega)] at b; rw [nn _ _ (by omega) (by omega), nn _ _ (by omega) (by omega), hn _ _ (by omega) (by omega), hn _ _ (by omega) (by omega)]; exact r8 p a b
                · rw [hn _ _ (by omega) (by omega)] at b; rw [nn _ _ (by omega) (by omega), nn _ _ (by omega) (by omega), hn _ _ (by omega) (by omega), hn _ _ (by omega) (by omega)]; exact r9 i a b
              | succ f ih =>
                intro k hk m' hF hj
                have c7 : m'.1 1 7 = pv m.1 98 2 := by rw [hF.1 _ _ (by omega)]; exact e7
                refine vc_X9_table_57 (d := d + 9) s _ m' is (inR_b (A := 1000) (by omega) (by omega) rfl) (fun _ => ⟨fun q => absurd q (by omega), fun _ => ⟨by omega, by omega, ?_⟩⟩)
                rw [c7]
                refine ⟨by omega, by omega, fun m12 e12 _ => ih (k + 1) (by omega) m12 (hF.put e12 ⟨rfl, by omega⟩) (fun j x y => ?_)⟩
                rw [e12, sI_at]
                by_cases z : j = k
                · rw [if_pos (by omega), z, hF.1 _ _ (by omega)]
                · rw [if_neg (by omega)]; exact hj j x (by omega)
            exact loop 21 0 (by omega) m zFr.rf (fun j x y => absurd y (by omega))
          · refine refl m1 _ e f (fun q => by rw [ht] at q; exact absurd q (by decide)) (fun _ q => absurd q (by omega)) (fun _ _ => ?_)
            have n1 : ∀ a k, ¬ (1 ≤ a ∧ a ≤ 19) → m1.1 a k = m.1 a k := fun a k q => f.1 a k q
            have c2 : m1.1 98 2 = pv m.1 98 2 := pv_f e (by omega)
            have f2 : m1.2 = m.2 := f.2
            have loop : ∀ (f k : Nat), k + f = 21 → ∀ m', zFr (fun a j => a = 99 ∧ 21 * pv m.1 98 2 ≤ j ∧ j < 21 * pv m.1 98 2 + 21) m1 m' → (∀ j, 0 ≤ j → j < (k : Int) → m'.1 99 (21 * pv m.1 98 2 + j) = m.1 90 (s * 40 + j)) → zV K mX10_table (d + 12) 122 [(0, rr K 98), (1, .int (iz s)), (4, .int (iz (k : Int)))] [] m' (fun r m2 => r = pv m.1 98 2 ∧ zFr zPv m1 m2 ∧ pv m2.1 = zTb (pv m.1) (fun k => m.1 90 (s * 40 + k))) := by
              intro f
              induction f with
              | zero =>
                intro k hk m' hF hj
                have d2 : m'.1 98 2 = pv m.1 98 2 := by rw [hF.1 _ _ (by omega)]; exact c2
                refine vc_X10_table_122 (d := d + 9) s _ m' is (inR_b (A := 1000) (by omega) (by omega) rfl) (fun _ => ⟨fun _ => ?_, fun q => absurd (by omega) q⟩)
                rw [d2]
                refine ⟨inR_b (A := 1000) (by omega) (by omega) rfl, fun m3 e3 _ => ?_⟩
                have g2 : m3.1 98 2 = pv m.1 98 2 + 1 := by rw [e3, sI_eq]
                rw [g2]
                refine ⟨inR_b (A := 1000) (by omega) (by omega) rfl, by omega, (hF.mono (fun a k q => by unfold zPv; omega)).put e3 (by unfold zPv; omega), ?_⟩
                funext a i
                by_cases hin : (a = 98 ∧ 0 ≤ i ∧ i ≤ 17) ∨ (99 ≤ a ∧ a ≤ 105)
                · rw [pv_at hin]
                  by_cases z1 : a = 99 ∧ 21 * pv m.1 98 2 ≤ i ∧ i < 21 * pv m.1 98 2 + 21
                  · have : zTb (pv m.1) (fun k => m.1 90 (s * 40 + k)) a i = m.1 90 (s * 40 + (i - 21 * pv m.1 98 2)) := if_pos z1
                    rw [this, z1.1, e3, sI_ne (by omega)]
                    have hjj := hj (i - 21 * pv m.1 98 2) (by omega) (by omega)
                    rw [show 21 * pv m.1 98 2 + (i - 21 * pv m.1 98 2) = i by omega] at hjj
                    exact hjj
                  · by_cases z2 : a = 98 ∧ i = 2
                    · rw [z2.1, z2.2, zTb_2]; exact g2
                    · have : zTb (pv m.1) (fun k => m.1 90 (s * 40 + k)) a i = pv m.1 a i := by unfold zTb; rw [if_neg z1, if_neg z2]
                      rw [this, e3, sI_ne (by omega), hF.1 a i z1, ← e]
                      exact (pv_at hin).symm
                · have h1 : ∀ f : F2, pv f a i = 0 := fun f => if_neg hin
                  have : zTb (pv m.1) (fun k => m.1 90 (s * 40 + k)) a i = pv m.1 a i := by unfold zTb; rw [if_neg (by omega), if_neg (by omega)]
                  rw [this, h1, h1]
              | succ f ih =>
                intro k hk m' hF hj
                have d2 : m'.1 98 2 = pv m.1 98 2 := by rw [hF.1 _ _ (by omega)]; exact c2
                refine vc_X10_table_122 (d := d + 9) s _ m' is (inR_b (A := 1000) (by omega) (by omega) rfl) (fun hzo => ⟨fun q => absurd q (by omega), fun _ => ⟨by omega, by omega, ?_⟩⟩)
                have eL : m'.2.1 124 ((40 * s) + (k : Int)) = (iz (m.1 90 (s * 40 + (k : Int)))).toInt64 := by rw [hF.2, f2, hl _ (by omega) (by omega), show (40 * s) + (k : Int) = s * 40 + (k : Int) by omega]
                have iv : inR (m.1 90 (s * 40 + (k : Int))) := by rw [← n1 90 _ (by omega), ← hF.1 90 _ (by omega)]; exact hzo _ _
                rw [d2, eL, zlg_back iv]
                refine ⟨by omega, by omega, fun m10 e10 _ => ih (k + 1) (by omega) m10 (hF.put e10 ⟨rfl, by omega, by omega⟩) (fun j x y => ?_)⟩
                rw [e10, sI_at]
                by_cases z : j = k
                · rw [if_pos (by omega), z]
                · rw [if_neg (by omega)]; exact hj j x (by omega)
            exact loop 21 0 (by omega) m1 zFr.rf (fun j x y => absurd y (by omega))
        · refine zOk.no (F := -2) h ?_ (fun m1 e f => refl m1 _ e f (fun q => by rw [ht] at q; exact absurd q (by decide)) (fun _ _ => ⟨rfl, rfl⟩) (fun _ q => absurd (by omega) q))
          refine zCt.of (by decide) (Nat.le_of_ble_eq_true rfl) (vc_X9_table_0 (d := d + 9) s m is (fun _ => ?_))
          rw [a1]
          refine ⟨fun _ => ⟨by omega, by omega, fun v8 e8 => ?_⟩, fun q => absurd hv q⟩
          rw [if_neg (by omega), if_pos hx] at e8
          refine ⟨fun _ => ?_, fun q => absurd e8 q⟩
          refine (c_X2_isTable (d := d + 9) hv b1).mono (fun r m12 q => ?_)
          obtain ⟨hr, hm⟩ := q
          rw [hm, hr, ht, e7]
          intro _ _
          exact ⟨fun q => absurd q (by decide), fun _ => ⟨fun q => absurd q h4, fun _ => ⟨rfl, rfl⟩⟩⟩
      · refine zOk.no (F := -4) h ?_ (fun m1 e f => refl m1 _ e f (fun _ => ⟨rfl, rfl⟩) (fun q => absurd q ht) (fun q => absurd q ht))
        refine zCt.of (by decide) (Nat.le_of_ble_eq_true rfl) (vc_X9_table_0 (d := d + 9) s m is (fun _ => ?_))
        rw [a1]
        refine ⟨fun _ => ⟨by omega, by omega, fun v8 e8 => ?_⟩, fun q => absurd hv q⟩
        rw [if_neg (by omega), if_pos hx] at e8
        refine ⟨fun _ => ?_, fun q => absurd e8 q⟩
        refine (c_X2_isTable (d := d + 9) hv b1).mono (fun r m12 q => ?_)
        obtain ⟨hr, hm⟩ := q
        rw [hm, hr, Bool.eq_false_iff.mpr ht]
        intro _ _
        exact ⟨fun _ => ⟨rfl, rfl⟩, fun q => absurd rfl q⟩
    · refine zOk.no (F := if m.1 122 s < 0 then -11 else -13) h ?_ (fun m1 e f => ?_)
      · refine zCt.of (by decide) (Nat.le_of_ble_eq_true rfl) (vc_X9_table_0 (d := d + 9) s m is (fun _ => ?_))
        rw [a1]
        refine ⟨fun _ => ⟨by omega, by omega, fun v8 e8 => ?_⟩, fun q => absurd hv q⟩
        rw [if_neg hx] at e8
        exact ⟨fun q => by rw [e8] at q; (split at q) <;> omega, fun _ => ⟨e8, rfl⟩⟩
      · refine zCt.of (by decide) (Nat.le_of_ble_eq_true rfl) (vc_X10_table_0 (d := d + 9) s m1 is (fun _ => ?_))
        rw [f.1 122 s (by unfold zPn; omega)]
        refine ⟨fun _ => ⟨by omega, by omega, fun v8 e8 => ?_⟩, fun q => absurd hv q⟩
        rw [if_neg hx] at e8
        exact ⟨fun q => by rw [e8] at q; (split at q) <;> omega, fun _ => ⟨e8, rfl⟩⟩
  · exact zOk.no (F := -1) h (zCt.of (by decide) (Nat.le_of_ble_eq_true rfl) (vc_X9_table_0 (d := d + 9) s m is (fun _ => ⟨fun q => absurd q hv, fun _ => ⟨rfl, rfl⟩⟩))) (fun m1 e f => zCt.of (by decide) (Nat.le_of_ble_eq_true rfl) (vc_X10_table_0 (d := d + 9) s m1 is (fun _ => ⟨fun q => absurd q hv, fun _ => ⟨rfl, rfl⟩⟩)))
end TBM
