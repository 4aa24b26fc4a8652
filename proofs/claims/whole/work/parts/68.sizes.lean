/-! ===== sizes(), table(): both sides ===== -/
def zsP (P : F2) (g : Nat → Int) (p : Int) : Nat → F2
  | 0 => P
  | k + 1 => if (1 ≤ g k ∧ g k ≤ 9) ∧ p + (k : Int) < P 98 4 then zPt (zsP P g p k) (p + (k : Int)) 3 (g k) else zsP P g p k
def zsC (P : F2) (g : Nat → Int) (p : Int) : Nat → Int
  | 0 => 0
  | k + 1 => if (1 ≤ g k ∧ g k ≤ 9) ∧ p + (k : Int) < P 98 4 then zsC P g p k + 1 else zsC P g p k
def zsQ (P : F2) (g : Nat → Int) (p i len : Int) : Nat → Nat → Int × F2
  | 0, k => (zsC P g p k, zsP P g p k)
  | f + 1, k => if 0 ≤ i + (k : Int) ∧ i + (k : Int) < len then zsQ P g p i len f (k + 1) else (-12, zsP P g p k)
section SZS
variable {P : F2} {g : Nat → Int} {p i len : Int}
theorem zsP_s (k : Nat) : zsP P g p (k + 1) = if (1 ≤ g k ∧ g k ≤ 9) ∧ p + (k : Int) < P 98 4 then zPt (zsP P g p k) (p + (k : Int)) 3 (g k) else zsP P g p k := rfl
theorem zsC_s (k : Nat) : zsC P g p (k + 1) = if (1 ≤ g k ∧ g k ≤ 9) ∧ p + (k : Int) < P 98 4 then zsC P g p k + 1 else zsC P g p k := rfl
theorem zsC_b : ∀ k : Nat, 0 ≤ zsC P g p k ∧ zsC P g p k ≤ k := by
  intro k
  induction k with
  | zero => exact ⟨Int.le_refl _, Int.le_refl _⟩
  | succ k ih => rw [zsC_s]; split <;> omega
theorem zsP_ne {a j : Int} (h : a ≠ 100) : ∀ k : Nat, zsP P g p k a j = P a j := by
  intro k
  induction k with
  | zero => rfl
  | succ k ih =>
    rw [zsP_s]
    split
    · rw [zPt_ne h]; exact ih
    · exact ih
theorem zsP_wf (hW : zWf P) : ∀ k : Nat, zWf (zsP P g p k) := by
  intro k
  induction k with
  | zero => exact hW
  | succ k ih =>
    rw [zsP_s]
    split
    · rename_i z; exact ih.pt3 z.1
    · exact ih
theorem zsQ_good (hG : zGoodP P) : ∀ (f k : Nat), zGoodP (zsQ P g p i len f k).2 := by
  intro f
  induction f with
  | zero => intro k; exact hG.parts (zsP_wf hG.1 k) (fun a j h => zsP_ne h k)
  | succ f ih =>
    intro k
    unfold zsQ
    split
    · exact ih (k + 1)
    · exact hG.parts (zsP_wf hG.1 k) (fun a j h => zsP_ne h k)
theorem zsQ_s (f k : Nat) : zsQ P g p i len (f + 1) k = if 0 ≤ i + (k : Int) ∧ i + (k : Int) < len then zsQ P g p i len f (k + 1) else (-12, zsP P g p k) := rfl
end SZS
section SZT
variable {K : zCx} {d : Nat} {n : Int} {m : zM}
theorem o_sizes {p s i c : Int} (ip : inR p) (is : inR s) (ii : inR i) (ic : inR c) (h : zInv n m) : zOk K (d + 12) mX9_sizes mX10_sizes [.int (iz p), .int (iz s), .int (iz i), .int (iz c)] n m := by
  obtain ⟨hs, hl, -⟩ := h.2.2.2.2.2.1
  have hG := h.1.1
  have hW := hG.1
  have hR := h.1.2
  have h4 := hW.2.2.2.1
  have e6 : m.1 1 6 = pv m.1 98 4 := hR.1.2.2.2.1
  by_cases hv : (0 ≤ p ∧ p < pv m.1 98 4) ∧ (0 ≤ s ∧ s ≤ 3) ∧ (0 ≤ c ∧ c ≤ 10)
  · obtain ⟨⟨a1, a2, a3⟩, b1, b2, b3⟩ := hs s hv.2.1.1 (by omega)
    by_cases hx : m.1 122 s = 1
    · refine zOk.pl (F := (zsQ (pv m.1) (fun k => m.1 90 (s * 40 + (i + (k : Int)))) p i (m.1 123 s) c.toNat 0).1) (P' := (zsQ (pv m.1) (fun k => m.1 90 (s * 40 + (i + (k : Int)))) p i (m.1 123 s) c.toNat 0).2) h (zsQ_good hG _ _) ?_ (fun m1 e f => ?_)
      · refine zCt.of (by decide) (Nat.le_of_ble_eq_true rfl) (vc_X9_sizes_0 (d := d + 9) p s i c m ip is ii ic (fun hz => ?_))
        rw [e6, a1]
        refine ⟨fun _ => ⟨h4.1, fun _ => ⟨fun _ => ⟨by omega, by omega, fun v15 e15 => ?_⟩, fun q => absurd hv.2.2 q⟩, fun q => absurd hv.1 q⟩, fun q => absurd hv.2.1 q⟩
        rw [if_neg (by omega), if_pos hx] at e15
        refine ⟨fun _ => ?_, fun q => absurd e15 q⟩
        have loop : ∀ (f k : Nat), k + f = c.toNat → (k = 0 ∨ (0 ≤ i ∧ i + (k : Int) ≤ m.1 123 s)) → ∀ m', zFr zPn m m' → RQ m' 1 (zsP (pv m.1) (fun k => m.1 90 (s * 40 + (i + (k : Int)))) p k) → zV K mX9_sizes (d + 12) 58 [(0, rr K 0), (1, .int (iz p)), (2, .int (iz s)), (3, .int (iz i)), (4, .int (iz c)), (6, .int (iz (zsC (pv m.1) (fun k => m.1 90 (s * 40 + (i + (k : Int)))) p k))), (7, .int (iz (k : Int)))] [] m' (fun r m1 => r = (zsQ (pv m.1) (fun k => m.1 90 (s * 40 + (i + (k : Int)))) p i (m.1 123 s) f k).1 ∧ zFr zPn m m1 ∧ RQ m1 1 (zsQ (pv m.1) (fun k => m.1 90 (s * 40 + (i + (k : Int)))) p i (m.1 123 s) f k).2) := by
          intro f
          induction f with
          | zero =>
            intro k hk hk2 m' hF hR'
            have hb := zsC_b (P := pv m.1) (g := fun k => m.1 90 (s * 40 + (i + (k : Int)))) (p := p) k
            exact vc_X9_sizes_58 (d := d + 9) p s i c _ _ m' ip is ii ic (inR_b (A := 1000) (by omega) (by omega) rfl) (inR_b (A := 1000) (by omega) (by omega) rfl) (fun _ => ⟨fun _ => ⟨rfl, hF, hR'⟩, fun q => absurd (by omega) q⟩)
          | succ f ih =>
            intro k hk hk2 m' hF hR'
            have hb := zsC_b (P := pv m.1) (g := fun k => m.1 90 (s * 40 + (i + (k : Int)))) (p := p) k
            have n' : ∀ a j, ¬ (1 ≤ a ∧ a ≤ 19) → m'.1 a j = m.1 a j := fun a j q => hF.1 a j q
            have e6' : m'.1 1 6 = pv m.1 98 4 := by rw [hR'.1.2.2.2.1]; exact zsP_ne (by decide) k
            have hik : inR (i + (k : Int)) := by
              rcases hk2 with z | z
              · rw [z]; show inR (i + 0); rw [Int.add_zero]; exact ii
              · exact inR_b (A := 1000) (by omega) (by omega) rfl
            refine vc_X9_sizes_58 (d := d + 9) p s i c _ _ m' ip is ii ic (inR_b (A := 1000) (by omega) (by omega) rfl) (inR_b (A := 1000) (by omega) (by omega) rfl) (fun _ => ⟨fun q => absurd q (by omega), fun _ => ⟨hik, by omega, by omega, ?_⟩⟩)
            rw [n' 89 s (by omega), b1, zsQ_s]
            refine ⟨by omega, fun z => ⟨by omega, by omega, fun v13 e13 => ?_⟩, fun z => ?_⟩
            · rw [if_pos z]
              rw [n' 90 _ (by omega)] at e13
              have hs1 := zsP_s (P := pv m.1) (g := fun k => m.1 90 (s * 40 + (i + (k : Int)))) (p := p) k
              have hs2 := zsC_s (P := pv m.1) (g := fun k => m.1 90 (s * 40 + (i + (k : Int)))) (p := p) k
              rw [← e13] at hs1 hs2
              have hi0 : k + 1 = 0 ∨ (0 ≤ i ∧ i + ((k + 1 : Nat) : Int) ≤ m.1 123 s) := by
                rcases hk2 with y | y
                · right; subst y; omega
                · right; omega
              have skip : ¬ ((1 ≤ v13 ∧ v13 ≤ 9) ∧ p + (k : Int) < pv m.1 98 4) → zV K mX9_sizes (d + 12) 58 [(0, rr K 0), (1, .int (iz p)), (2, .int (iz s)), (3, .int (iz i)), (4, .int (iz c)), (6, .int (iz (zsC (pv m.1) (fun k => m.1 90 (s * 40 + (i + (k : Int)))) p k))), (7, .int (iz ((k : Int) + 1)))] [] m' (fun r m1 => r = (zsQ (pv m.1) (fun k => m.1 90 (s * 40 + (i + (k : Int)))) p i (m.1 123 s) f (k + 1)).1 ∧ zFr zPn m m1 ∧ RQ m1 1 (zsQ (pv m.1) (fun k => m.1 90 (s * 40 + (i + (k : Int)))) p i (m.1 123 s) f (k + 1)).2) := by
                intro y
                rw [if_neg y] at hs1 hs2
                have := ih (k + 1) (by omega) hi0 m' hF (by rw [hs1]; exact hR')
                rw [hs2] at this
                exact this
              refine ⟨fun y => ⟨inR_b (A := 1000) (by omega) (by omega) rfl, ?_⟩, fun y => skip (fun q => y q.1)⟩
              rw [e6']
              refine ⟨h4.1, fun x => ⟨by omega, by omega, fun m25 e25 _ => ?_⟩, fun x => skip (fun q => x ⟨by omega, q.2⟩)⟩
              rw [if_pos ⟨y, x.2⟩] at hs1 hs2
              rw [show (10 + (p + (k : Int))) = 1 + 9 + (p + (k : Int)) by omega] at e25
              have := ih (k + 1) (by omega) hi0 m25 (hF.put e25 (by unfold zPn; omega)) (by rw [hs1]; exact hR'.pt (by omega) (by omega) e25)
              rw [hs2] at this
              exact this
            · rw [if_neg z]
              exact ⟨rfl, hF, hR'⟩
        exact loop c.toNat 0 (by omega) (Or.inl rfl) m zFr.rf hR
      · refine zCt.of (by decide) (Nat.le_of_ble_eq_true rfl) (vc_X10_sizes_0 (d := d + 9) p s i c m1 ip is ii ic (fun hz => ?_))
        have n1 : ∀ a j, ¬ (1 ≤ a ∧ a ≤ 19) → m1.1 a j = m.1 a j := fun a j q => f.1 a j q
        have f2 : m1.2 = m.2 := f.2
        rw [pv_f e (by omega), n1 122 s (by omega)]
        refine ⟨h4.1, fun _ => ⟨fun _ => ⟨fun _ => ⟨by omega, by omega, fun v15 e15 => ?_⟩, fun q => absurd hv.2.2 q⟩, fun q => absurd hv.2.1 q⟩, fun q => absurd hv.1 q⟩
        rw [if_neg (by omega), if_pos hx] at e15
        refine ⟨fun _ => ?_, fun q => absurd e15 q⟩
        have h1 : (1 : Int64).toInt = 1 := rfl
        have h9 : (9 : Int64).toInt = 9 := rfl
        have loop : ∀ (f k : Nat), k + f = c.toNat → (k = 0 ∨ 0 ≤ i) → ∀ m', zFr zPv m1 m' → pv m'.1 = zsP (pv m.1) (fun k => m.1 90 (s * 40 + (i + (k : Int)))) p k → zV K mX10_sizes (d + 12) 50 [(0, rr K 98), (1, .int (iz p)), (2, .int (iz s)), (3, .int (iz i)), (4, .int (iz c)), (6, .int (iz (zsC (pv m.1) (fun k => m.1 90 (s * 40 + (i + (k : Int)))) p k))), (7, .int (iz (k : Int)))] [] m' (fun r m2 => r = (zsQ (pv m.1) (fun k => m.1 90 (s * 40 + (i + (k : Int)))) p i (m.1 123 s) f k).1 ∧ zFr zPv m1 m2 ∧ pv m2.1 = (zsQ (pv m.1) (fun k => m.1 90 (s * 40 + (i + (k : Int)))) p i (m.1 123 s) f k).2) := by
          intro f
          induction f with
          | zero =>
            intro k hk hk2 m' hF hP'
            have hb := zsC_b (P := pv m.1) (g := fun k => m.1 90 (s * 40 + (i + (k : Int)))) (p := p) k
            exact vc_X10_sizes_50 (d := d + 9) p s i c _ _ m' ip is ii ic (inR_b (A := 1000) (by omega) (by omega) rfl) (inR_b (A := 1000) (by omega) (by omega) rfl) (fun _ => ⟨fun _ => ⟨rfl, hF, hP'⟩, fun q => absurd (by omega) q⟩)
          | succ f ih =>
            intro k hk hk2 m' hF hP'
            have hb := zsC_b (P := pv m.1) (g := fun k => m.1 90 (s * 40 + (i + (k : Int)))) (p := p) k
            have n' : ∀ a j, ¬ zPv a j → ¬ (1 ≤ a ∧ a ≤ 19) → m'.1 a j = m.1 a j := fun a j q q2 => by rw [hF.1 a j q, n1 a j q2]
            have e4' : m'.1 98 4 = pv m.1 98 4 := by rw [pv_f hP' (by omega)]; exact zsP_ne (by decide) k
            refine vc_X10_sizes_50 (d := d + 9) p s i c _ _ m' ip is ii ic (inR_b (A := 1000) (by omega) (by omega) rfl) (inR_b (A := 1000) (by omega) (by omega) rfl) (fun hzo => ⟨fun q => absurd q (by omega), fun _ => ?_⟩)
            rw [n' 123 s (by unfold zPv; omega) (by omega), zsQ_s, e4']
            refine ⟨fun z => ?_, fun z => ⟨by omega, by omega, inR_b (A := 1000) (by omega) (by omega) rfl, fun y => ⟨by omega, by omega, ?_⟩, fun y => ?_⟩⟩
            · rw [if_neg (by rcases hk2 with q | q <;> omega)]; exact ⟨rfl, hF, hP'⟩
            · rw [if_pos (by omega)]
              have eL : m'.2.1 124 (((40 * s) + i) + (k : Int)) = (iz (m.1 90 (s * 40 + (i + (k : Int))))).toInt64 := by
                rw [hF.2, f2, hl _ (by omega) (by omega), show ((40 * s) + i) + (k : Int) = s * 40 + (i + (k : Int)) by omega]
              have iv : inR (m.1 90 (s * 40 + (i + (k : Int)))) := by rw [← n' 90 _ (by unfold zPv; omega) (by omega)]; exact hzo _ _
              rw [eL, zlg_lt iv, zlg_gt iv, h1, h9, zlg_back iv]
              have hs1 := zsP_s (P := pv m.1) (g := fun k => m.1 90 (s * 40 + (i + (k : Int)))) (p := p) k
              have hs2 := zsC_s (P := pv m.1) (g := fun k => m.1 90 (s * 40 + (i + (k : Int)))) (p := p) k
              have skip : ¬ ((1 ≤ m.1 90 (s * 40 + (i + (k : Int))) ∧ m.1 90 (s * 40 + (i + (k : Int))) ≤ 9) ∧ p + (k : Int) < pv m.1 98 4) → zV K mX10_sizes (d + 12) 50 [(0, rr K 98), (1, .int (iz p)), (2, .int (iz s)), (3, .int (iz i)), (4, .int (iz c)), (6, .int (iz (zsC (pv m.1) (fun k => m.1 90 (s * 40 + (i + (k : Int)))) p k))), (7, .int (iz ((k : Int) + 1)))] [] m' (fun r m2 => r = (zsQ (pv m.1) (fun k => m.1 90 (s * 40 + (i + (k : Int)))) p i (m.1 123 s) f (k + 1)).1 ∧ zFr zPv m1 m2 ∧ pv m2.1 = (zsQ (pv m.1) (fun k => m.1 90 (s * 40 + (i + (k : Int)))) p i (m.1 123 s) f (k + 1)).2) := by
                intro y
                rw [if_neg y] at hs1 hs2
                have := ih (k + 1) (by omega) (Or.inr (by omega)) m' hF (by rw [hs1]; exact hP')
                rw [hs2] at this
                exact this
              refine ⟨fun y1 => skip (by omega), fun y1 => ⟨fun y2 => skip (by omega), fun y2 => ⟨inR_b (A := 1000) (by omega) (by omega) rfl, h4.1, fun x => ⟨by omega, by omega, fun m18 e18 _ => ?_⟩, fun x => skip (by omega)⟩⟩⟩
              rw [if_pos ⟨by omega, x.2⟩] at hs1 hs2
              have := ih (k + 1) (by omega) (Or.inr (by omega)) m18 (hF.put e18 (by unfold zPv; omega)) (by rw [hs1]; exact pv_pt hP' e18)
              rw [hs2] at this
              exact this
            · rw [if_neg (by omega)]; exact ⟨rfl, hF, hP'⟩
        exact loop c.toNat 0 (by omega) (Or.inl rfl) m1 zFr.rf e
    · refine zOk.no (F := if m.1 122 s < 0 then -11 else -13) h ?_ (fun m1 e f => ?_)
      · refine zCt.of (by decide) (Nat.le_of_ble_eq_true rfl) (vc_X9_sizes_0 (d := d + 9) p s i c m ip is ii ic (fun hz => ?_))
        rw [e6, a1]
        refine ⟨fun _ => ⟨h4.1, fun _ => ⟨fun _ => ⟨by omega, by omega, fun v15 e15 => ?_⟩, fun q => absurd hv.2.2 q⟩, fun q => absurd hv.1 q⟩, fun q => absurd hv.2.1 q⟩
        rw [if_neg hx] at e15
        exact ⟨fun q => by rw [e15] at q; (split at q) <;> omega, fun _ => ⟨e15, rfl⟩⟩
      · refine zCt.of (by decide) (Nat.le_of_ble_eq_true rfl) (vc_X10_sizes_0 (d := d + 9) p s i c m1 ip is ii ic (fun hz => ?_))
        rw [pv_f e (by omega), f.1 122 s (by unfold zPn; omega)]
        refine ⟨h4.1, fun _ => ⟨fun _ => ⟨fun _ => ⟨by omega, by omega, fun v15 e15 => ?_⟩, fun q => absurd hv.2.2 q⟩, fun q => absurd hv.2.1 q⟩, fun q => absurd hv.1 q⟩
        rw [if_neg hx] at e15
        exact ⟨fun q => by rw [e15] at q; (split at q) <;> omega, fun _ => ⟨e15, rfl⟩⟩
  · refine zOk.no (F := -1) h ?_ (fun m1 e f => ?_)
    · refine zCt.of (by decide) (Nat.le_of_ble_eq_true rfl) (vc_X9_sizes_0 (d := d + 9) p s i c m ip is ii ic (fun hz => ?_))
      rw [e6]
      exact ⟨fun z1 => ⟨h4.1, fun z2 => ⟨fun z3 => absurd ⟨z2, z1, z3⟩ hv, fun _ => ⟨rfl, rfl⟩⟩, fun _ => ⟨rfl, rfl⟩⟩, fun _ => ⟨rfl, rfl⟩⟩
    · refine zCt.of (by decide) (Nat.le_of_ble_eq_true rfl) (vc_X10_sizes_0 (d := d + 9) p s i c m1 ip is ii ic (fun hz => ?_))
      rw [pv_f e (by omega)]
      exact ⟨h4.1, fun z1 => ⟨fun z2 => ⟨fun z3 => absurd ⟨z1, z2, z3⟩ hv, fun _ => ⟨rfl, rfl⟩⟩, fun _ => ⟨rfl, rfl⟩⟩, fun _ => ⟨rfl, rfl⟩⟩
end SZT
