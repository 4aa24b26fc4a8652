/-! ===== SIZING, the class; sizing(), prove() ===== -/
section XSZ
variable {K : zCx} {P : F2} {m0 : zM}
def zXq (P : F2) (m0 : zM) (s : Int) (m : zM) : Prop := s = (if zbr P (zRo P) < 0 then 0 else 1) ∧ zFl zXX m0 m ∧ m.1 64 3 = (zoc P : Int) ∧ (∀ j : Nat, j < zoc P → m.1 65 j = zop P j) ∧ (0 ≤ zbr P (zRo P) → m.1 64 4 = zsm P (zbr P (zRo P)) ∧ ∀ j : Nat, j < zoc P → m.1 66 j = zdg P (zbr P (zRo P)) j)
def zXs (P : F2) (m0 m : zM) : Prop := zFl zXX m0 m ∧ (∃ u, RQ m 67 (zRw P u)) ∧ m.1 64 3 = (zoc P : Int) ∧ ∀ j : Nat, j < zoc P → m.1 65 j = zop P j
theorem c_X7_findSizing {d : Nat} (hW : zWf P) (hWi : zWish P) (hO : zoc P ≤ 4) (hR : RQ m0 1 P) : zCt K (d + 7) mX7_findSizing [rr K 64, rr K 1] m0 (zXq P m0) := by
  obtain ⟨hR0, hR1, hR2⟩ := zRo_b hW hO
  have h4 := hW.2.2.2.1
  have hpl : zPl 1 := Or.inl rfl
  have hpl67 : zPl 67 := Or.inr (Or.inr rfl)
  have hlo : ∀ r : Int, zSm (zfm P) (zoc P) ≤ zsm P r ∧ zsm P r ≤ zSm (zto P) (zoc P) := fun r => ⟨zSm_le _ (fun i hi => (zdg_r (r := r) hW hi).1), zSm_le _ (fun i hi => (zdg_r (r := r) hW hi).2.1)⟩
  have hmb := zSm_b (f := zto P) (zoc P) (fun i hi => by have := zwd_r hW hi; omega)
  have hlb := zSm_b (f := zfm P) (zoc P) (fun i hi => by have := zwd_r hW hi; omega)
  have xx : ∀ {m m' : zM}, zXs P m0 m → zFr (fun a _ => a = 66) m m' → zXs P m0 m' := by
    intro m m' h f
    obtain ⟨a, ⟨u, b⟩, c, e⟩ := h
    have n : ∀ a k, ¬ a = 66 → m'.1 a k = m.1 a k := fun a k q => f.1 a k q
    refine ⟨a.tr (f.l.mono (fun a k q => by unfold zXX; omega)), ⟨u, b.1.kept (fun a k x y => n a k (by omega)) ?_, b.2.kept (fun a k x y => n a k (by omega))⟩, by rw [n _ _ (by omega)]; exact c, fun j hj => by rw [n _ _ (by omega)]; exact e j hj⟩
    rw [zRw_ne (by decide)]; omega
  -- the rows of one sum, all sums
  have sums : ∀ (n1 : Nat) (s : Int), s + n1 = zSm (zto P) (zoc P) + 1 → 0 ≤ s → (∀ q : Nat, q < zRo P → zmiss (zRw P (zdg P (q : Int))) = 0 → s ≤ zsm P q) → ∀ m, zXs P m0 m →
      zV K mX7_findSizing (d + 7) 89 [(0, rr K 64), (1, rr K 1), (2, .int (iz (zRo P : Int))), (4, .int (iz (zSm (zto P) (zoc P)))), (5, .int (iz s))] [] m (zXq P m0) := by
    intro n1
    induction n1 with
    | zero =>
      intro s hs s0 hI m hX
      refine vc_X7_findSizing_89 _ _ s 1 m (inR_b (A := 1000) (by omega) (by omega) rfl) (inR_b (A := 1000) (by omega) (by omega) rfl) (inR_b (A := 1000) (by omega) (by omega) rfl) hpl (fun _ => ⟨fun _ => ?_, fun q => absurd (by omega) q⟩)
      have hno : zbr P (zRo P) < 0 := by
        apply Classical.byContradiction
        intro z
        obtain ⟨a, b, -⟩ := (zbr_spec P (zRo P)).2 (by omega)
        have e : ((zbr P (zRo P)).toNat : Int) = zbr P (zRo P) := by omega
        have := hI (zbr P (zRo P)).toNat (by omega) (by rw [e]; exact b)
        have := (hlo ((zbr P (zRo P)).toNat : Int)).2
        omega
      exact ⟨(if_pos hno).symm, hX.1, hX.2.2.1, hX.2.2.2, fun z => absurd z (by omega)⟩
    | succ n1 ih =>
      intro s hs s0 hI m hX
      have rows : ∀ (n2 row : Nat), row + n2 = zRo P → (∀ q : Nat, q < zRo P → zmiss (zRw P (zdg P (q : Int))) = 0 → s < zsm P q ∨ (zsm P q = s ∧ row ≤ q)) → ∀ m, zXs P m0 m →
          zV K mX7_findSizing (d + 7) 99 [(0, rr K 64), (1, rr K 1), (2, .int (iz (zRo P : Int))), (4, .int (iz (zSm (zto P) (zoc P)))), (5, .int (iz s)), (6, .int (iz (row : Int)))] [] m (zXq P m0) := by
        intro n2
        induction n2 with
        | zero =>
          intro row hrow hJ m hX
          refine vc_X7_findSizing_99 _ _ s _ 1 m (inR_b (A := 1000) (by omega) (by omega) rfl) (inR_b (A := 1000) (by omega) (by omega) rfl) (inR_b (A := 1000) (by omega) (by omega) rfl) (inR_b (A := 1000) (by omega) (by omega) rfl) hpl (fun _ => ⟨fun _ => ih (s + 1) (by omega) (by omega) (fun q hq hg => ?_) m hX, fun q => absurd (by omega) q⟩)
          have := hJ q hq hg
          omega
        | succ n2 ih2 =>
          intro row hrow hJ m hX
          obtain ⟨xF, ⟨u, xT⟩, x2, x65⟩ := id hX
          have hR1' := hR.xx hW (Or.inl rfl) xF
          refine vc_X7_findSizing_99 _ _ s _ 1 m (inR_b (A := 1000) (by omega) (by omega) rfl) (inR_b (A := 1000) (by omega) (by omega) rfl) (inR_b (A := 1000) (by omega) (by omega) rfl) (inR_b (A := 1000) (by omega) (by omega) rfl) hpl (fun _ => ⟨fun q => absurd q (by omega), fun _ => ?_⟩)
          refine (c_X7_choose (d := d + 4) (r := (row : Int)) (by omega) hW hR1' hO x2 x65).mono (fun r2 m3 h => ?_)
          obtain ⟨hr2, f3, h66⟩ := h
          have hr2' : r2 = zsm P (row : Int) := hr2
          intro _ _
          have hX3 := xx hX f3
          refine ⟨fun z => ?_, fun z => ih2 (row + 1) (by omega) (fun q hq hg => ?_) m3 hX3⟩
          · have sets : ∀ (n3 k : Nat), k + n3 = zoc P → ∀ m', zXs P m0 m' → (∀ j : Nat, j < zoc P → m'.1 66 j = zdg P (row : Int) j) → (∃ u : Nat → Int, RQ m' 67 (zRw P (fun i => if i < k then zdg P (row : Int) i else u i))) →
                zV K mX7_findSizing (d + 7) 123 [(0, rr K 64), (1, rr K 1), (2, .int (iz (zRo P : Int))), (4, .int (iz (zSm (zto P) (zoc P)))), (5, .int (iz s)), (6, .int (iz (row : Int))), (7, .int (iz (k : Int)))] [] m' (zXq P m0) := by
              intro n3
              induction n3 with
              | zero =>
                intro k hk m' hX' y66 hT
                obtain ⟨u', hT⟩ := hT
                obtain ⟨yF, -, y2, y65⟩ := id hX'
                have eR : zRw P (fun i => if i < k then zdg P (row : Int) i else u' i) = zRw P (zdg P (row : Int)) := zRw_congr (fun i hi => if_pos (by omega))
                rw [eR] at hT
                have hW' : zWf (zRw P (zdg P (row : Int))) := zRw_wf hW (fun i hi => by have := zdg_r (r := (row : Int)) hW hi; omega)
                refine vc_X7_findSizing_123 _ _ s _ _ 1 m' (inR_b (A := 1000) (by omega) (by omega) rfl) (inR_b (A := 1000) (by omega) (by omega) rfl) (inR_b (A := 1000) (by omega) (by omega) rfl) (inR_b (A := 1000) (by omega) (by omega) rfl) (inR_b (A := 1000) (by omega) (by omega) rfl) hpl (fun _ => ⟨fun _ => ?_, fun q => absurd (by omega) q⟩)
                refine (c_X7_allMet (d := d) hpl67 hW' (zRw_wish hWi) hT).mono (fun r5 m6 h => ?_)
                obtain ⟨hr5, f6⟩ := h
                intro _ _
                have n6 : ∀ a k, ¬ zXS a k → m6.1 a k = m'.1 a k := fun a k q => f6.1 a k q
                have hX6 : zXs P m0 m6 := ⟨yF.tr (f6.mono zXS_XX), ⟨_, hT.fl hW' hpl67 f6⟩, by rw [n6 _ _ (by unfold zXS; omega)]; exact y2, fun j hj => by rw [n6 _ _ (by unfold zXS; omega)]; exact y65 j hj⟩
                refine ⟨fun z5 => ih2 (row + 1) (by omega) (fun q hq hg => ?_) m6 hX6, fun z5 m7 e7 _ => ?_⟩
                · have hz : ¬ zmiss (zRw P (zdg P (row : Int))) = 0 := b2i_fp (by rw [← hr5]; exact z5)
                  have hj := hJ q hq hg
                  by_cases e : q = row
                  · subst e; exact absurd hg hz
                  · omega
                · have hz : zmiss (zRw P (zdg P (row : Int))) = 0 := b2i_tp (by rw [← hr5]; exact z5)
                  have hb : zbr P (zRo P) = (row : Int) := zbr_uni (by omega) hz (fun q hq hg => by have := hJ q hq hg; omega)
                  have n7 : ∀ a k, ¬ (a = 64 ∧ k = 4) → m7.1 a k = m6.1 a k := fun a k q => by rw [e7, sI_ne (by omega)]
                  unfold zXq
                  rw [hb]
                  refine ⟨(if_neg (by omega)).symm, hX6.1.put e7 (Or.inr (by omega)), by rw [n7 _ _ (by omega)]; exact hX6.2.2.1, fun j hj => by rw [n7 _ _ (by omega)]; exact hX6.2.2.2 j hj, fun _ => ⟨by rw [e7, sI_eq]; omega, fun j hj => ?_⟩⟩
                  rw [n7 _ _ (by omega), n6 _ _ (by unfold zXS; omega)]
                  exact y66 j hj
              | succ n3 ih3 =>
                intro k hk m' hX' y66 hT
                obtain ⟨u', hT⟩ := hT
                obtain ⟨yF, -, y2, y65⟩ := id hX'
                have hp := zop_r hW (show k < zoc P by omega)
                refine vc_X7_findSizing_123 _ _ s _ _ 1 m' (inR_b (A := 1000) (by omega) (by omega) rfl) (inR_b (A := 1000) (by omega) (by omega) rfl) (inR_b (A := 1000) (by omega) (by omega) rfl) (inR_b (A := 1000) (by omega) (by omega) rfl) (inR_b (A := 1000) (by omega) (by omega) rfl) hpl (fun _ => ⟨fun q => absurd q (by omega), fun _ => ⟨by omega, by omega, ?_⟩⟩)
                rw [y65 k (by omega), y66 k (by omega), show (76 + zop P k : Int) = 67 + 9 + zop P k by omega]
                refine ⟨by omega, by omega, fun m11 e11 _ => ?_⟩
                have n11 : ∀ a k, ¬ (67 ≤ a ∧ a ≤ 85) → m11.1 a k = m'.1 a k := fun a k q => by rw [e11, sI_ne (by omega)]
                have hT11 := hT.pt (p := zop P k) (k := 3) (v := zdg P (row : Int) k) (by omega) (by omega) e11
                rw [zRw_up hW (by omega)] at hT11
                have eR : zRw P (fun i => if i = k then zdg P (row : Int) k else if i < k then zdg P (row : Int) i else u' i) = zRw P (fun i => if i < k + 1 then zdg P (row : Int) i else u' i) := by
                  refine zRw_congr (fun i hi => ?_)
                  by_cases y1 : i = k
                  · rw [if_pos y1, if_pos (by omega), y1]
                  · by_cases y3 : i < k
                    · rw [if_neg y1, if_pos y3, if_pos (by omega)]
                    · rw [if_neg y1, if_neg y3, if_neg (by omega)]
                rw [eR] at hT11
                exact ih3 (k + 1) (by omega) m11 ⟨yF.put e11 (Or.inr (by omega)), ⟨_, hT11⟩, by rw [n11 _ _ (by omega)]; exact y2, fun j hj => by rw [n11 _ _ (by omega)]; exact y65 j hj⟩ (fun j hj => by rw [n11 _ _ (by omega)]; exact y66 j hj) ⟨_, hT11⟩
            obtain ⟨-, ⟨u3, hT3⟩, -, -⟩ := id hX3
            refine sets (zoc P) 0 (by omega) m3 hX3 h66 ⟨u3, ?_⟩
            rw [zRw_congr (w' := u3) (fun i hi => if_neg (Nat.not_lt_zero _))]
            exact hT3
          · have hj := hJ q hq hg
            by_cases e : q = row
            · subst e; omega
            · omega
      refine vc_X7_findSizing_89 _ _ s 1 m (inR_b (A := 1000) (by omega) (by omega) rfl) (inR_b (A := 1000) (by omega) (by omega) rfl) (inR_b (A := 1000) (by omega) (by omega) rfl) hpl (fun _ => ⟨fun q => absurd q (by omega), fun _ => rows (zRo P) 0 (by omega) (fun q hq hg => ?_) m hX⟩)
      have := hI q hq hg
      omega
  refine zCt.of (by decide) (Nat.le_of_ble_eq_true rfl) (vc_X7_findSizing_0 (d := d) 1 m0 hpl (fun _ => ?_))
  refine (c_X7_listOpen (d := d + 4) hW hR hO).mono (fun r1 m2 h => ?_)
  obtain ⟨-, f2, h2, h65⟩ := h
  intro _ _
  have hR2 : RQ m2 1 P := hR.kept hW (fun a k x y => f2.1 a k (by unfold zSl; omega))
  refine (c_X4_copyFrom (d := d + 3) hpl67 hpl (by decide) hW hWi hR2).mono (fun r3 m4 h => ?_)
  obtain ⟨-, f4, hT4⟩ := h
  intro _ _
  have n4 : ∀ a k, ¬ (67 ≤ a ∧ a ≤ 85) → m4.1 a k = m2.1 a k := fun a k q => f4.1 a k (fun z => q (by omega))
  have hX4 : zXs P m0 m4 := by
    refine ⟨(f2.l.mono (fun a k q => by unfold zSl at q; unfold zXX; omega)).tr (f4.l.mono (fun a k q => by unfold zXX; omega)), ⟨fun i => zp P (zop P i) 3, by rw [zRw_id hW (fun i hi => rfl)]; exact hT4⟩, by rw [n4 _ _ (by omega)]; exact h2, fun j hj => by rw [n4 _ _ (by omega)]; exact h65 j hj⟩
  have hR4 := hR.xx hW (Or.inl rfl) hX4.1
  have head : ∀ (n k : Nat), k + n = zoc P → zV K mX7_findSizing (d + 7) 23 [(0, rr K 64), (1, rr K 1), (2, .int (iz (zpf P k))), (3, .int (iz (zSm (zfm P) k))), (4, .int (iz (zSm (zto P) k))), (5, .int (iz (k : Int)))] [] m4 (zXq P m0) := by
    intro n
    have hb : ∀ k : Nat, k ≤ zoc P → (1 ≤ zpf P k ∧ zpf P k ≤ 256) ∧ (0 ≤ zSm (zfm P) k ∧ zSm (zfm P) k ≤ 36) ∧ (0 ≤ zSm (zto P) k ∧ zSm (zto P) k ≤ 36) := by
      intro k hk
      have h1 := zpf_b hW k hk
      have h2 : (4 : Int) ^ k ≤ 256 := by
        have h : k = 0 ∨ k = 1 ∨ k = 2 ∨ k = 3 ∨ k = 4 := by omega
        rcases h with h | h | h | h | h <;> rw [h] <;> decide
      have h3 := zSm_b (f := zfm P) k (fun i hi => by have := zwd_r hW (show i < zoc P by omega); omega)
      have h4 := zSm_b (f := zto P) k (fun i hi => by have := zwd_r hW (show i < zoc P by omega); omega)
      omega
    induction n with
    | zero =>
      intro k hk
      have hbk := hb k (by omega)
      have ek : k = zoc P := by omega
      subst ek
      refine vc_X7_findSizing_23 _ _ _ _ 1 m4 (inR_b (A := 1000) (by omega) (by omega) rfl) (inR_b (A := 1000) (by omega) (by omega) rfl) (inR_b (A := 1000) (by omega) (by omega) rfl) (inR_b (A := 1000) (by omega) (by omega) rfl) hpl (fun _ => ⟨fun _ => ?_, fun q => absurd (by rw [hX4.2.2.1]; omega) q⟩)
      rw [hR0]
      have hle := (hlo 0)
      exact sums (zSm (zto P) (zoc P) + 1 - zSm (zfm P) (zoc P)).toNat _ (by omega) (by omega) (fun q hq hg => (hlo (q : Int)).1) m4 hX4
    | succ n ih =>
      intro k hk
      have hbk := hb k (by omega)
      have hp := zop_r hW (show k < zoc P by omega)
      have e65 := hX4.2.2.2 k (by omega)
      have hop := hR4.1.2.2.2.2.2.2.2.1 (zop P k) hp.1.1 hp.1.2
      have e2 := hX4.2.2.1
      refine vc_X7_findSizing_23 _ _ _ _ 1 m4 (inR_b (A := 1000) (by omega) (by omega) rfl) (inR_b (A := 1000) (by omega) (by omega) rfl) (inR_b (A := 1000) (by omega) (by omega) rfl) (inR_b (A := 1000) (by omega) (by omega) rfl) hpl (fun _ => ⟨fun q => absurd q (by omega), fun _ => ⟨by omega, by omega, ?_⟩⟩)
      rw [e65, hop.1, hop.2]
      refine ⟨by omega, by omega, fun v6 e6 v8 e8 v10 e10 => ?_⟩
      have a1 : v6 = zpf P (k + 1) := e6
      have a2 : v8 = zSm (zfm P) (k + 1) := e8
      have a3 : v10 = zSm (zto P) (k + 1) := e10
      rw [a1, a2, a3]
      exact ih (k + 1) (by omega)
  exact head (zoc P) 0 (by omega)
/-! sizing(what) -/
noncomputable def zqSizing (P : F2) (w : Int) : Int := if -1 ≤ w ∧ w ≤ (zoc P : Int) - 1 then (if zbr P (zRo P) < 0 then -3 else if 0 ≤ w then zdg P (zbr P (zRo P)) w.toNat else zsm P (zbr P (zRo P))) else -1
theorem c_X9_sizing {d : Nat} {w : Int} (iw : inR w) (hW : zWf P) (hWi : zWish P) (hO : zoc P ≤ 4) (hR : RQ m0 1 P) : zCt K (d + 8) mX9_sizing [rr K 0, .int (iz w)] m0 (fun r m1 => r = zqSizing P w ∧ zFl zXX m0 m1) := by
  refine zCt.of (by decide) (Nat.le_of_ble_eq_true rfl) (vc_X9_sizing_0 (d := d) w m0 iw (fun _ => ?_))
  refine (c_X4_openCount (d := d + 5) (Or.inl rfl) hW hR.1).mono (fun r1 m2 h => ?_)
  obtain ⟨hr1, hm2⟩ := h
  subst hm2
  rw [hr1]
  intro _ _
  refine ⟨inR_b (A := 100) (by omega) (by omega) rfl, fun hw => ?_, fun hw => ⟨(if_neg hw).symm, zFl.rf⟩⟩
  refine (c_X7_findSizing (d := d) hW hWi hO hR).mono (fun r7 m8 h => ?_)
  obtain ⟨hr7, f8, -, -, h8⟩ := h
  intro _ _
  unfold zqSizing
  rw [if_pos hw]
  by_cases z : zbr P (zRo P) < 0
  · rw [if_pos z] at hr7
    rw [if_pos z]
    exact ⟨fun _ => ⟨rfl, f8⟩, fun q => absurd hr7 q⟩
  · rw [if_neg z] at hr7
    rw [if_neg z]
    refine ⟨fun q => absurd hr7 (by omega), fun _ => ⟨fun w0 => ⟨w0, by omega, ?_, f8⟩, fun w0 => ⟨?_, f8⟩⟩⟩
    · rw [if_pos w0]
      have := (h8 (by omega)).2 w.toNat (by omega)
      rw [show ((w.toNat : Nat) : Int) = w by omega] at this
      exact this
    · rw [if_neg w0]; exact (h8 (by omega)).1
theorem c_X10_sizing {d : Nat} {w : Int} (iw : inR w) (hP : pv m0.1 = P) (hW : zWf P) (hWi : zWish P) (hO : zoc P ≤ 4) (hC : zCame m0) (hB : m0.1 98 18 ≤ 1000000000) : zCt K (d + 8) mX10_sizing [rr K 98, .int (iz w)] m0 (fun r m1 => r = zqSizing P w ∧ zGd 2400 m0 m1) := by
  have hC0 := ((zGo.rf hC).d).le (show (0 : Int) ≤ 2400 by omega)
  refine zCt.of (by decide) (Nat.le_of_ble_eq_true rfl) (vc_X10_sizing_0 (d := d) w m0 iw (fun _ => ?_))
  refine (c_X10_openMany (d := d + 6) hP hW).mono (fun r1 m2 h => ?_)
  obtain ⟨hr1, hm2⟩ := h
  subst hm2
  rw [hr1]
  intro _ _
  refine ⟨inR_b (A := 100) (by omega) (by omega) rfl, fun hw => ?_, fun hw => ⟨(if_neg hw).symm, hC0⟩⟩
  refine (c_X10_findSizing (d := d) hP hW hWi hO hC hB).mono (fun r7 m8 h => ?_)
  obtain ⟨hr7, f8, -, -, h40, h8⟩ := h
  intro _ _
  unfold zqSizing
  rw [if_pos hw]
  by_cases z : zbr P (zRo P) < 0
  · rw [if_pos z] at hr7
    rw [if_pos z]
    exact ⟨fun _ => ⟨rfl, f8⟩, fun q => absurd hr7 q⟩
  · rw [if_neg z] at hr7
    rw [if_neg z]
    refine ⟨fun q => absurd hr7 (by omega), fun _ => ⟨fun w0 => ⟨w0, by omega, ?_, f8⟩, fun w0 => ⟨?_, f8⟩⟩⟩
    · rw [if_pos w0]
      have := h8 (by omega) w.toNat (by omega)
      rw [show ((w.toNat : Nat) : Int) = w by omega] at this
      exact this
    · rw [if_neg w0, h40]; exact if_neg z
/-! prove() -/
noncomputable def zqProve (P : F2) : Int := if zbr P (zRo P) < 0 then -3 else (zoc P : Int)
def zXP (a k : Int) : Prop := zXX a k ∨ (a = 0 ∧ k = 10) ∨ a = 96 ∨ a = 97
theorem c_X9_prove {d : Nat} (hW : zWf P) (hWi : zWish P) (hO : zoc P ≤ 4) (hR : RQ m0 1 P) : zCt K (d + 8) mX9_prove [rr K 0] m0 (fun r m1 => r = zqProve P ∧ ((zbr P (zRo P) < 0 ∧ zFl zXX m0 m1) ∨ (0 ≤ zbr P (zRo P) ∧ zFl zXP m0 m1 ∧ m1.1 0 10 = (zoc P : Int) ∧ ∀ j : Nat, j < zoc P → m1.1 96 j = zop P j ∧ m1.1 97 j = zdg P (zbr P (zRo P)) j))) := by
  refine zCt.of (by decide) (Nat.le_of_ble_eq_true rfl) (vc_X9_prove_0 (d := d) m0 (fun _ => ?_))
  refine (c_X7_findSizing (d := d) hW hWi hO hR).mono (fun r1 m2 h => ?_)
  obtain ⟨hr1, f2, h2, h65, h8⟩ := h
  intro _ _
  by_cases z : zbr P (zRo P) < 0
  · rw [if_pos z] at hr1
    exact ⟨fun _ => ⟨(if_pos z).symm, Or.inl ⟨z, f2⟩⟩, fun q => absurd hr1 q⟩
  · rw [if_neg z] at hr1
    refine ⟨fun q => absurd hr1 (by omega), fun _ m4 e4 _ => ?_⟩
    rw [h2] at e4
    have hz := h8 (by omega)
    have n4 : ∀ a k, ¬ (a = 0 ∧ k = 10) → m4.1 a k = m2.1 a k := fun a k q => by rw [e4, sI_ne (by omega)]
    have loop : ∀ (n k : Nat), k + n = zoc P → ∀ m, zFr (fun a _ => a = 96 ∨ a = 97) m4 m → (∀ j : Nat, j < k → m.1 96 j = zop P j ∧ m.1 97 j = zdg P (zbr P (zRo P)) j) → zV K mX9_prove (d + 8) 30 [(0, rr K 0), (1, .int (iz (k : Int)))] [] m (fun r m1 => r = zqProve P ∧ ((zbr P (zRo P) < 0 ∧ zFl zXX m0 m1) ∨ (0 ≤ zbr P (zRo P) ∧ zFl zXP m0 m1 ∧ m1.1 0 10 = (zoc P : Int) ∧ ∀ j : Nat, j < zoc P → m1.1 96 j = zop P j ∧ m1.1 97 j = zdg P (zbr P (zRo P)) j))) := by
      intro n
      induction n with
      | zero =>
        intro k hk m hF hj
        have e10 : m.1 0 10 = (zoc P : Int) := by rw [hF.1 _ _ (by omega), e4, sI_eq]
        refine vc_X9_prove_30 _ m (inR_b (A := 100) (by omega) (by omega) rfl) (fun _ => ⟨fun _ => ⟨?_, Or.inr ⟨by omega, ?_, e10, fun j hj' => hj j (by omega)⟩⟩, fun q => absurd (by omega) q⟩)
        · rw [e10]; exact (if_neg z).symm
        · exact zFl.tr (S := zXP) (zFl.put (S := zXP) (f2.mono (fun a k q => Or.inl q)) e4 (Or.inr (Or.inl ⟨rfl, rfl⟩))) (hF.l.mono (fun a k q => Or.inr (Or.inr q)))
      | succ n ih =>
        intro k hk m hF hj
        have nn : ∀ a k, ¬ (a = 96 ∨ a = 97) → m.1 a k = m4.1 a k := fun a k q => hF.1 a k q
        have e10 : m.1 0 10 = (zoc P : Int) := by rw [nn _ _ (by omega), e4, sI_eq]
        have e65 : m.1 65 (k : Int) = zop P k := by rw [nn _ _ (by omega), n4 _ _ (by omega)]; exact h65 k (by omega)
        refine vc_X9_prove_30 _ m (inR_b (A := 100) (by omega) (by omega) rfl) (fun _ => ⟨fun q => absurd q (by omega), fun _ => ⟨by omega, by omega, fun m5 e5 _ m6 e6 _ => ih (k + 1) (by omega) m6 ((hF.put e5 (Or.inl rfl)).put e6 (Or.inr rfl)) (fun j hj' => ?_)⟩⟩)
        have e66 : m5.1 66 (k : Int) = zdg P (zbr P (zRo P)) k := by rw [e5, sI_ne (Or.inl (by omega)), nn _ _ (by omega), n4 _ _ (by omega)]; exact hz.2 k (by omega)
        by_cases y : j = k
        · rw [y, e6, sI_ne (Or.inl (by omega)), sI_eq, e66, e5, sI_eq]; exact ⟨e65, rfl⟩
        · rw [e6, sI_ne (Or.inl (by omega)), sI_ne (Or.inr (by omega)), e5, sI_ne (Or.inr (by omega)), sI_ne (Or.inl (by omega))]; exact hj j (by omega)
    exact loop (zoc P) 0 (by omega) m4 zFr.rf (fun j hj => absurd hj (Nat.not_lt_zero _))
def zSP (a k : Int) : Prop := (a = 98 ∧ k = 42) ∨ a = 120
theorem c_X10_prove {d : Nat} (hP : pv m0.1 = P) (hW : zWf P) (hWi : zWish P) (hO : zoc P ≤ 4) (hC : zCame m0) (hB : m0.1 98 18 ≤ 1000000000) : zCt K (d + 8) mX10_prove [rr K 98] m0 (fun r m1 => r = zqProve P ∧ ((zbr P (zRo P) < 0 ∧ zGd 2400 m0 m1) ∨ (0 ≤ zbr P (zRo P) ∧ (∃ m', zGd 2400 m0 m' ∧ zFr zSP m' m1) ∧ m1.1 98 42 = (zoc P : Int) ∧ ∀ j : Nat, j < zoc P → m1.1 120 (2 * (j : Int)) = zop P j ∧ m1.1 120 (2 * (j : Int) + 1) = zdg P (zbr P (zRo P)) j))) := by
  refine zCt.of (by decide) (Nat.le_of_ble_eq_true rfl) (vc_X10_prove_0 (d := d) m0 (fun _ => ?_))
  refine (c_X10_findSizing (d := d) hP hW hWi hO hC hB).mono (fun r1 m2 h => ?_)
  obtain ⟨hr1, f2, h39, h116, h40, h8⟩ := h
  intro _ _
  by_cases z : zbr P (zRo P) < 0
  · rw [if_pos z] at hr1
    exact ⟨fun _ => ⟨(if_pos z).symm, Or.inl ⟨z, f2⟩⟩, fun q => absurd hr1 q⟩
  · rw [if_neg z] at hr1
    refine ⟨fun q => absurd hr1 (by omega), fun _ m4 e4 _ => ?_⟩
    rw [h39] at e4
    have hz := h8 (by omega)
    have n4 : ∀ a k, ¬ (a = 98 ∧ k = 42) → m4.1 a k = m2.1 a k := fun a k q => by rw [e4, sI_ne (by omega)]
    have loop : ∀ (n k : Nat), k + n = zoc P → ∀ m, zFr (fun a _ => a = 120) m4 m → (∀ j : Nat, j < k → m.1 120 (2 * (j : Int)) = zop P j ∧ m.1 120 (2 * (j : Int) + 1) = zdg P (zbr P (zRo P)) j) → zV K mX10_prove (d + 8) 20 [(0, rr K 98), (1, .int (iz (k : Int)))] [] m (fun r m1 => r = zqProve P ∧ ((zbr P (zRo P) < 0 ∧ zGd 2400 m0 m1) ∨ (0 ≤ zbr P (zRo P) ∧ (∃ m', zGd 2400 m0 m' ∧ zFr zSP m' m1) ∧ m1.1 98 42 = (zoc P : Int) ∧ ∀ j : Nat, j < zoc P → m1.1 120 (2 * (j : Int)) = zop P j ∧ m1.1 120 (2 * (j : Int) + 1) = zdg P (zbr P (zRo P)) j))) := by
      intro n
      induction n with
      | zero =>
        intro k hk m hF hj
        have e42 : m.1 98 42 = (zoc P : Int) := by rw [hF.1 _ _ (by omega), e4, sI_eq]
        have e39 : m.1 98 39 = (zoc P : Int) := by rw [hF.1 _ _ (by omega), n4 _ _ (by omega)]; exact h39
        refine vc_X10_prove_20 _ m (inR_b (A := 100) (by omega) (by omega) rfl) (fun _ => ⟨fun _ => ⟨?_, Or.inr ⟨by omega, ⟨m2, f2, ?_⟩, e42, fun j hj' => hj j (by omega)⟩⟩, fun q => absurd (by omega) q⟩)
        · rw [e42]; exact (if_neg z).symm
        · exact (zFr.rf.put e4 (Or.inl ⟨rfl, rfl⟩)).tr (hF.mono (fun a k q => Or.inr q))
      | succ n ih =>
        intro k hk m hF hj
        have nn : ∀ a k, ¬ a = 120 → m.1 a k = m4.1 a k := fun a k q => hF.1 a k q
        have e39 : m.1 98 39 = (zoc P : Int) := by rw [nn _ _ (by omega), n4 _ _ (by omega)]; exact h39
        have e116 : m.1 116 (k : Int) = zop P k := by rw [nn _ _ (by omega), n4 _ _ (by omega)]; exact h116 k (by omega)
        refine vc_X10_prove_20 _ m (inR_b (A := 100) (by omega) (by omega) rfl) (fun _ => ⟨fun q => absurd q (by omega), fun _ => ⟨by omega, by omega, by omega, by omega, fun m6 e6 _ => ⟨by omega, by omega, fun m10 e10 _ => ih (k + 1) (by omega) m10 ((hF.put e6 rfl).put e10 rfl) (fun j hj' => ?_)⟩⟩⟩)
        have e118 : m6.1 118 (k : Int) = zdg P (zbr P (zRo P)) k := by rw [e6, sI_ne (Or.inl (by omega)), nn _ _ (by omega), n4 _ _ (by omega)]; exact hz k (by omega)
        by_cases y : j = k
        · rw [y, e10, sI_ne (Or.inr (by omega)), sI_eq, e118, e6, sI_eq]; exact ⟨e116, rfl⟩
        · rw [e10, sI_ne (Or.inr (by omega)), sI_ne (Or.inr (by omega)), e6, sI_ne (Or.inr (by omega)), sI_ne (Or.inr (by omega))]; exact hj j (by omega)
    exact loop (zoc P) 0 (by omega) m4 zFr.rf (fun j hj => absurd hj (Nat.not_lt_zero _))
end XSZ
