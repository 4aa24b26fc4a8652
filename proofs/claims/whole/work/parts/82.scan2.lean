/-! ===== the class's scan of all tokens ===== -/
def zSC (a k : Int) : Prop := a = 61 ∨ a = 62 ∨ a = 63 ∨ (a = 56 ∧ k = 8)
def zFil (m : zM) (t : Int → Int) (n : Int) (i : Nat) : Prop := ∀ j : Nat, j < i → m.1 61 j = zts t n (ztx t n j) ∧ m.1 62 j = ztq t n (ztx t n j) ∧ m.1 63 j = ztv t n (ztx t n j)
section SCAN
variable {K : zCx} {d : Nat} {m : zM} {t : Int → Int} {n : Int}
theorem t_scan_7 {E : Nat} (hn : 0 ≤ n ∧ n ≤ 220) (hT : ∀ k, m.1 57 k = t k) (hN : m.1 56 2 = n) (hE : (E : Int) ≤ 220) (hE0 : zts t n (ztx t n E) = 0) (hE1 : ∀ j : Nat, j < E → zts t n (ztx t n j) ≠ 0) :
    ∀ (g i : Nat), i + g = E → ∀ m', zFr zSC m m' → m'.1 56 8 = ztx t n i → zFil m' t n i → zV K mX5_scan (d + 8) 7 [(0, rr K 56), (1, .int (iz (i : Int)))] [] m' (fun _ m2 => zFr zSC m m2 ∧ zFil m2 t n (E + 1)) := by
  intro g
  induction g with
  | zero =>
    intro i hi m' hF h8 hfil
    have hiE : i = E := by omega
    have hx := ztx_b (t := t) hn.1 i
    have hqb := ztq_b (t := t) hx.2
    have hz : n ≤ ztq t n (ztx t n i) := zts_0.mp (by rw [hiE]; exact hE0)
    refine vc_X5_scan_7 (d := d + 3) (i : Int) m' ⟨by omega, by omega⟩ (fun _ => ⟨fun q => absurd q (by omega), fun _ => ?_⟩)
    have fin : ∀ (y : Int) (m1 : zM), y = ztq t n (ztx t n i) → zFr zSC m m1 → m1.1 56 8 = y → zFil m1 t n i → ∀ m4, m4 = sI m1 62 i y → ∀ m6, m6 = sI m4 63 i 0 → m6.1 56 2 ≤ m6.1 56 8 ∧ ∀ m9, m9 = sI m6 61 i 0 → m9.1 61 i = 0 ∧ zFr zSC m m9 ∧ zFil m9 t n (E + 1) := by
      intro y m1 hy hF1 h81 hf1 m4 e4 m6 e6
      have e2 : m1.1 56 2 = n := by rw [hF1.1 56 2 (by unfold zSC; omega)]; exact hN
      refine ⟨?_, fun m9 e9 => ⟨by rw [e9, sI_eq], ((hF1.put e4 (Or.inr (Or.inl rfl))).put e6 (Or.inr (Or.inr (Or.inl rfl)))).put e9 (Or.inl rfl), fun j hj => ?_⟩⟩
      · rw [e6, sI_ne (by omega), sI_ne (by omega), e4, sI_ne (by omega), sI_ne (by omega), e2, h81]; omega
      · by_cases hji : j = i
        · subst hji
          refine ⟨?_, ?_, ?_⟩
          · rw [e9, sI_eq, hiE]; exact hE0.symm
          · rw [e9, sI_ne (by omega), e6, sI_ne (by omega), e4, sI_eq, hy]
          · rw [e9, sI_ne (by omega), e6, sI_eq]; unfold ztv; rw [if_neg (by rw [hiE, hE0]; decide)]
        · have hb := hf1 j (by omega)
          refine ⟨?_, ?_, ?_⟩
          · rw [e9, sI_ne (by omega), e6, sI_ne (by omega), e4, sI_ne (by omega)]; exact hb.1
          · rw [e9, sI_ne (by omega), e6, sI_ne (by omega), e4, sI_ne (by omega)]; exact hb.2.1
          · rw [e9, sI_ne (by omega), e6, sI_ne (by omega), e4, sI_ne (by omega)]; exact hb.2.2
    have skip : ∀ (f : Nat) (y : Int), y + f = n → ztx t n i ≤ y → ztq t n (ztx t n i) = zru (zbl t) n y → ∀ m1, zFr zSC m m1 → m1.1 56 8 = y → zFil m1 t n i → zV K mX5_scan (d + 8) 14 [(0, rr K 56), (1, .int (iz (i : Int)))] [] m1 (fun _ m2 => zFr zSC m m2 ∧ zFil m2 t n (E + 1)) := by
      intro f
      induction f with
      | zero =>
        intro y hf h0 hr m1 hF1 h81 hf1
        have e2 : m1.1 56 2 = n := by rw [hF1.1 56 2 (by unfold zSC; omega)]; exact hN
        rw [zru_end (p := zbl t) (show n ≤ y by omega)] at hr
        refine vc_X5_scan_14 (d := d + 3) (i : Int) m1 ⟨by omega, by omega⟩ (fun _ => ?_)
        rw [e2, h81]
        refine ⟨fun _ => ⟨by omega, by omega, fun m4 e4 _ m6 e6 _ => ?_⟩, fun q => absurd (show n ≤ y by omega) q⟩
        have hh := fin y m1 hr.symm hF1 h81 hf1 m4 e4 m6 e6
        exact ⟨fun _ m9 e9 _ => ⟨fun _ => (hh.2 m9 e9).2, fun q => absurd (hh.2 m9 e9).1 q⟩, fun q => absurd hh.1 q⟩
      | succ f ih =>
        intro y hf h0 hr m1 hF1 h81 hf1
        have e2 : m1.1 56 2 = n := by rw [hF1.1 56 2 (by unfold zSC; omega)]; exact hN
        have e1 : m1.1 57 y = t y := by rw [hF1.1 57 y (by unfold zSC; omega)]; exact hT y
        refine vc_X5_scan_14 (d := d + 3) (i : Int) m1 ⟨by omega, by omega⟩ (fun _ => ?_)
        rw [e2, h81, e1]
        refine ⟨fun q => absurd q (by omega), fun _ => ⟨by omega, by omega, fun hc => ⟨⟨by omega, by omega⟩, fun m3 e3 _ => ih (y + 1) (by omega) (by omega) (by rw [hr, zru_go (by omega) (decide_eq_true hc)]) m3 (hF1.put e3 (Or.inr (Or.inr (Or.inr ⟨rfl, rfl⟩)))) (by rw [e3, sI_eq]) (fun j hj => ?_)⟩, fun hc => ⟨by omega, by omega, fun m4 e4 _ m6 e6 _ => ?_⟩⟩⟩
        · have hb := hf1 j hj
          exact ⟨by rw [e3, sI_ne (by omega)]; exact hb.1, by rw [e3, sI_ne (by omega)]; exact hb.2.1, by rw [e3, sI_ne (by omega)]; exact hb.2.2⟩
        · rw [zru_no (p := zbl t) (fun q => hc (of_decide_eq_true q))] at hr
          have hh := fin y m1 hr.symm hF1 h81 hf1 m4 e4 m6 e6
          exact ⟨fun _ m9 e9 _ => ⟨fun _ => (hh.2 m9 e9).2, fun q => absurd (hh.2 m9 e9).1 q⟩, fun q => absurd hh.1 q⟩
    exact skip (n - ztx t n i).toNat _ (by omega) (Int.le_refl _) rfl m' hF h8 hfil
  | succ g ihg =>
    intro i hi m' hF h8 hfil
    have hx := ztx_b (t := t) hn.1 i
    have hqb := ztq_b (t := t) hx.2
    have hS := hE1 i (by omega)
    have hz : ¬ n ≤ ztq t n (ztx t n i) := fun q => hS (zts_0.mpr q)
    refine vc_X5_scan_7 (d := d + 3) (i : Int) m' ⟨by omega, by omega⟩ (fun _ => ⟨fun q => absurd q (by omega), fun _ => ?_⟩)
    have fin : ∀ (y : Int) (m1 : zM), y = ztq t n (ztx t n i) → zFr zSC m m1 → m1.1 56 8 = y → zFil m1 t n i → ∀ m4, m4 = sI m1 62 i y → ∀ m6, m6 = sI m4 63 i 0 → ¬ m6.1 56 2 ≤ m6.1 56 8 ∧ zCt K (d + 7) mX5_scanOne [rr K 56, .int (iz (i : Int)), .int (iz (m6.1 56 8))] m6 (fun r12 m13 => inR r12 → zok m13 → ∀ m14 : zM, m14 = sI m13 61 i r12 → zok m14 → (((m14.1 61 i) = 0 → zFr zSC m m14 ∧ zFil m14 t n (E + 1)) ∧ (¬ ((m14.1 61 i) = 0) → zV K mX5_scan (d + 8) 7 [(0, rr K 56), (1, .int (iz ((i : Int) + 1)))] [] m14 (fun _ m2 => zFr zSC m m2 ∧ zFil m2 t n (E + 1))))) := by
      intro y m1 hy hF1 h81 hf1 m4 e4 m6 e6
      have e2 : m1.1 56 2 = n := by rw [hF1.1 56 2 (by unfold zSC; omega)]; exact hN
      have e28 : m6.1 56 8 = ztq t n (ztx t n i) := by rw [e6, sI_ne (by omega), e4, sI_ne (by omega), h81, hy]
      have e22 : m6.1 56 2 = n := by rw [e6, sI_ne (by omega), e4, sI_ne (by omega), e2]
      have hF6 : zFr zSC m m6 := (hF1.put e4 (Or.inr (Or.inl rfl))).put e6 (Or.inr (Or.inr (Or.inl rfl)))
      refine ⟨by rw [e22, e28]; exact hz, ?_⟩
      rw [e28]
      refine (c_X5_scanOne (m := m6) (t := t) (n := n) (x := ztx t n i) (x1 := (i : Int)) ⟨by omega, by omega⟩ hn (fun k => by rw [hF6.1 57 k (by unfold zSC; omega)]; exact hT k) e22 hx hz e28 (by rw [e6, sI_eq])).mono (fun r m13 q _ _ m14 e14 _ => ?_)
      obtain ⟨q1, q2, q3, q4⟩ := q
      have e61 : m14.1 61 i = zts t n (ztx t n i) := by rw [e14, sI_eq, q1]
      refine ⟨fun z => absurd z (by rw [e61]; exact hS), fun _ => ?_⟩
      refine ihg (i + 1) (by omega) m14 ((hF6.tr (q4.mono (fun a k z => by unfold zS1 at z; unfold zSC; omega))).put e14 (Or.inl rfl)) (by rw [e14, sI_ne (by omega), q2]; rfl) (fun j hj => ?_)
      by_cases hji : j = i
      · subst hji
        refine ⟨e61, ?_, ?_⟩
        · rw [e14, sI_ne (by omega), q4.1 _ _ (by unfold zS1; omega), e6, sI_ne (by omega), e4, sI_eq, hy]
        · rw [e14, sI_ne (by omega), q3]
      · have hb := hf1 j (by omega)
        refine ⟨?_, ?_, ?_⟩
        · rw [e14, sI_ne (by omega), q4.1 _ _ (by unfold zS1; omega), e6, sI_ne (by omega), e4, sI_ne (by omega)]; exact hb.1
        · rw [e14, sI_ne (by omega), q4.1 _ _ (by unfold zS1; omega), e6, sI_ne (by omega), e4, sI_ne (by omega)]; exact hb.2.1
        · rw [e14, sI_ne (by omega), q4.1 _ _ (by unfold zS1; omega), e6, sI_ne (by omega), e4, sI_ne (by omega)]; exact hb.2.2
    have skip : ∀ (f : Nat) (y : Int), y + f = n → ztx t n i ≤ y → ztq t n (ztx t n i) = zru (zbl t) n y → ∀ m1, zFr zSC m m1 → m1.1 56 8 = y → zFil m1 t n i → zV K mX5_scan (d + 8) 14 [(0, rr K 56), (1, .int (iz (i : Int)))] [] m1 (fun _ m2 => zFr zSC m m2 ∧ zFil m2 t n (E + 1)) := by
      intro f
      induction f with
      | zero =>
        intro y hf h0 hr m1 hF1 h81 hf1
        rw [zru_end (p := zbl t) (show n ≤ y by omega)] at hr
        omega
      | succ f ih =>
        intro y hf h0 hr m1 hF1 h81 hf1
        have e2 : m1.1 56 2 = n := by rw [hF1.1 56 2 (by unfold zSC; omega)]; exact hN
        have e1 : m1.1 57 y = t y := by rw [hF1.1 57 y (by unfold zSC; omega)]; exact hT y
        refine vc_X5_scan_14 (d := d + 3) (i : Int) m1 ⟨by omega, by omega⟩ (fun _ => ?_)
        rw [e2, h81, e1]
        refine ⟨fun q => absurd q (by omega), fun _ => ⟨by omega, by omega, fun hc => ⟨⟨by omega, by omega⟩, fun m3 e3 _ => ih (y + 1) (by omega) (by omega) (by rw [hr, zru_go (by omega) (decide_eq_true hc)]) m3 (hF1.put e3 (Or.inr (Or.inr (Or.inr ⟨rfl, rfl⟩)))) (by rw [e3, sI_eq]) (fun j hj => ?_)⟩, fun hc => ⟨by omega, by omega, fun m4 e4 _ m6 e6 _ => ?_⟩⟩⟩
        · have hb := hf1 j hj
          exact ⟨by rw [e3, sI_ne (by omega)]; exact hb.1, by rw [e3, sI_ne (by omega)]; exact hb.2.1, by rw [e3, sI_ne (by omega)]; exact hb.2.2⟩
        · rw [zru_no (p := zbl t) (fun q => hc (of_decide_eq_true q))] at hr
          have hh := fin y m1 hr.symm hF1 h81 hf1 m4 e4 m6 e6
          exact ⟨fun q => absurd q hh.1, fun _ => hh.2⟩
    exact skip (n - ztx t n i).toNat _ (by omega) (Int.le_refl _) rfl m' hF h8 hfil
theorem c_X5_scan {E : Nat} (hn : 0 ≤ n ∧ n ≤ 220) (hT : ∀ k, m.1 57 k = t k) (hN : m.1 56 2 = n) (hE : (E : Int) ≤ 220) (hE0 : zts t n (ztx t n E) = 0) (hE1 : ∀ j : Nat, j < E → zts t n (ztx t n j) ≠ 0) : zCt K (d + 8) mX5_scan [rr K 56] m (fun _ m2 => zFr zSC m m2 ∧ zFil m2 t n (E + 1)) := by
  refine zCt.of (by decide) (Nat.le_of_ble_eq_true rfl) (vc_X5_scan_0 (d := d + 3) m (fun _ m1 e1 _ => ?_))
  exact t_scan_7 hn hT hN hE hE0 hE1 E 0 (by omega) m1 (zFr.rf.put e1 (Or.inr (Or.inr (Or.inr ⟨rfl, rfl⟩)))) (by rw [e1, sI_eq]; rfl) (fun j hj => absurd hj (by omega))
end SCAN
