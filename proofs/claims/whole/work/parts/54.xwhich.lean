/-! ===== which(), the class ===== -/
noncomputable def zF1 (Y : F2) (i s : Int) : Bool := zany (fun v => !decide (v = s) && zmsB (zPt Y i 3 v)) 9 1
section WX
variable {K : zCx} {P : F2} {m0 : zM}
theorem c_X7_someSizeFits {d : Nat} {i : Int} {Y : F2} (h0 : 0 ≤ i) (h1 : i < P 98 4) (hW : zWf P) (hR : RQ m0 1 P) (hWY : zWf Y) (hT : RQ m0 67 Y) (hY : zp Y i 3 = zp P i 3) : zCt K (d + 6) mX7_someSizeFits [rr K 64, rr K 1, .int (iz i)] m0 (fun r m1 => r = b2i (zF1 Y i (zp P i 3)) ∧ zFl zXX m0 m1 ∧ RQ m1 67 Y) := by
  have hpl : zPl 1 := Or.inl rfl
  have hpl67 : zPl 67 := Or.inr (Or.inr rfl)
  have h4 := hW.2.2.2.1
  have ii : inR i := inR_b (A := 1000) (by omega) (by omega) rfl
  have ea : (76 + i : Int) = 67 + 9 + i := by omega
  have fin : ∀ (b : Bool) (w u : Int) (m : zM), inR w → (9 < w ∨ b = true) → zFl zXX m0 m → RQ m 67 (zPt Y i 3 u) → zV K mX7_someSizeFits (d + 6) 5 [(0, rr K 64), (1, rr K 1), (2, .int (iz i)), (3, .int (iz (b2i b))), (4, .int (iz w))] [] m (fun r m1 => r = b2i b ∧ zFl zXX m0 m1 ∧ RQ m1 67 Y) := by
    intro b w u m iw hor hF hT'
    have e3 : m.1 (1 + 9 + i) 3 = zp P i 3 := (hR.xx hW (Or.inl rfl) hF).1.part h0 h1 3 (by omega)
    have hfin : ∀ m4, m4 = sI m (67 + 9 + i) 3 (zp P i 3) → zFl zXX m0 m4 ∧ RQ m4 67 Y := by
      intro m4 e4
      refine ⟨hF.put e4 (Or.inr (by omega)), ?_⟩
      have := hT'.pt (p := i) (k := 3) (v := zp P i 3) (by omega) (by omega) e4
      rw [zPt_pt, zPt_id hY] at this
      exact this
    refine vc_X7_someSizeFits_5 i (b2i b) w 1 m ii (inR_b2i b) iw hpl (fun _ => ?_)
    rw [e3, ea]
    refine ⟨fun _ => ⟨by omega, by omega, fun m4 e4 _ => ⟨b2i_01 b, rfl, hfin m4 e4⟩⟩, fun q => ⟨fun z => ?_, fun _ => ⟨by omega, by omega, fun m10 e10 _ => ⟨b2i_01 b, rfl, hfin m10 e10⟩⟩⟩⟩
    rcases hor with h | h
    · exact absurd h q
    · rw [h] at z; exact absurd z (by decide)
  have loop : ∀ (n : Nat) (v u : Int), v + n = 10 → 1 ≤ v → ∀ m, zFl zXX m0 m → RQ m 67 (zPt Y i 3 u) → zV K mX7_someSizeFits (d + 6) 5 [(0, rr K 64), (1, rr K 1), (2, .int (iz i)), (3, .int (iz 0)), (4, .int (iz v))] [] m (fun r m1 => r = b2i (zany (fun v => !decide (v = zp P i 3) && zmsB (zPt Y i 3 v)) n v) ∧ zFl zXX m0 m1 ∧ RQ m1 67 Y) := by
    intro n
    induction n with
    | zero =>
      intro v u hv v1 m hF hT'
      exact fin false v u m (inR_b (A := 1000) (by omega) (by omega) rfl) (Or.inl (by omega)) hF hT'
    | succ n ih =>
      intro v u hv v1 m hF hT'
      have e3 : m.1 (1 + 9 + i) 3 = zp P i 3 := (hR.xx hW (Or.inl rfl) hF).1.part h0 h1 3 (by omega)
      refine vc_X7_someSizeFits_5 i 0 v 1 m ii (inRd rfl) (inR_b (A := 1000) (by omega) (by omega) rfl) hpl (fun _ => ?_)
      rw [e3, ea, zany_s]
      refine ⟨fun q => absurd q (by omega), fun _ => ⟨fun _ => ⟨by omega, by omega, fun z => ?_, fun z m16 e16 _ => ?_⟩, fun q => absurd rfl q⟩⟩
      · rw [decide_eq_true z, Bool.not_true, Bool.false_and, Bool.false_or]
        exact ih (v + 1) u (by omega) (by omega) m hF hT'
      · have hT16 : RQ m16 67 (zPt Y i 3 v) := by
          have := hT'.pt (p := i) (k := 3) (v := v) (by omega) (by omega) e16
          rw [zPt_pt] at this
          exact this
        have hF16 : zFl zXX m0 m16 := hF.put e16 (Or.inr (by omega))
        have hW16 : zWf (zPt Y i 3 v) := hWY.pt3 (by omega)
        refine (c_X7_isAsMeasured (d := d) hW16 hT16).mono (fun r18 m19 h => ?_)
        obtain ⟨hr, f19⟩ := h
        intro _ _
        rw [hr, decide_eq_false z, Bool.not_false, Bool.true_and]
        have hF19 := hF16.tr (f19.mono zXS_XX)
        have hT19 := hT16.fl hW16 hpl67 f19
        by_cases hb : zmsB (zPt Y i 3 v) = true
        · rw [hb, Bool.true_or]
          exact fin true (v + 1) v m19 (inR_b (A := 1000) (by omega) (by omega) rfl) (Or.inr rfl) hF19 hT19
        · have hb' : zmsB (zPt Y i 3 v) = false := Bool.eq_false_iff.mpr hb
          rw [hb', Bool.false_or]
          exact ih (v + 1) v (by omega) (by omega) m19 hF19 hT19
  exact zCt.of (by decide) (Nat.le_of_ble_eq_true rfl) (vc_X7_someSizeFits_0 (d := d) 1 i m0 hpl ii (fun _ => loop 9 1 (zp Y i 3) (by omega) (by omega) m0 zFl.rf (by rw [zPt_id rfl]; exact hT)))
theorem zF1_E1 {i : Int} (h : zmsB P = false) : zF1 P i (zp P i 3) = zE1 P i := by
  rw [Bool.eq_iff_iff]
  unfold zF1 zE1
  rw [zany_iff, zany_iff]
  constructor
  · rintro ⟨x, a, b, c⟩
    rw [Bool.and_eq_true] at c
    exact ⟨x, a, b, c.2⟩
  · rintro ⟨x, a, b, c⟩
    refine ⟨x, a, b, ?_⟩
    rw [Bool.and_eq_true]
    refine ⟨?_, c⟩
    by_cases e : x = zp P i 3
    · rw [zPt_id e.symm, h] at c
      exact absurd c (by decide)
    · rw [decide_eq_false e]; rfl
theorem zF1_E2 {a b : Int} (hab : a ≠ b) (h1 : zE1 P a = false) (h2 : zE1 P b = false) (v : Int) (hv : 1 ≤ v ∧ v ≤ 9) : (!decide (v = zp P a 3) && zF1 (zPt P a 3 v) b (zp P b 3)) = zany (fun u => zmsB (zPt (zPt P a 3 v) b 3 u)) 9 1 := by
  rw [Bool.eq_iff_iff, Bool.and_eq_true]
  unfold zF1
  rw [zany_iff, zany_iff]
  have n1 : ∀ x, 1 ≤ x → x ≤ 9 → ¬ zmsB (zPt P a 3 x) = true := fun x q1 q2 q3 => by
    have : zE1 P a = true := (zany_iff 9 1).mpr ⟨x, q1, by omega, q3⟩
    rw [h1] at this; exact absurd this (by decide)
  have n2 : ∀ x, 1 ≤ x → x ≤ 9 → ¬ zmsB (zPt P b 3 x) = true := fun x q1 q2 q3 => by
    have : zE1 P b = true := (zany_iff 9 1).mpr ⟨x, q1, by omega, q3⟩
    rw [h2] at this; exact absurd this (by decide)
  constructor
  · rintro ⟨-, x, q1, q2, q3⟩
    rw [Bool.and_eq_true] at q3
    exact ⟨x, q1, q2, q3.2⟩
  · rintro ⟨x, q1, q2, q3⟩
    refine ⟨?_, x, q1, q2, ?_⟩
    · by_cases e : v = zp P a 3
      · rw [zPt_id (p := a) (k := 3) e.symm] at q3
        exact absurd q3 (n2 x (by omega) (by omega))
      · rw [decide_eq_false e]; rfl
    · rw [Bool.and_eq_true]
      refine ⟨?_, q3⟩
      by_cases e : x = zp P b 3
      · rw [zPt_com hab, zPt_id (p := b) (k := 3) e.symm] at q3
        exact absurd q3 (n1 v hv.1 hv.2)
      · rw [decide_eq_false e]; rfl
theorem c_X9_which {d : Nat} (hW : zWf P) (hWi : zWish P) (hR : RQ m0 1 P) : zCt K (d + 8) mX9_which [rr K 0] m0 (fun r m1 => r = zqWhich P ∧ zFl zXX m0 m1) := by
  have hpl : zPl 1 := Or.inl rfl
  have hpl67 : zPl 67 := Or.inr (Or.inr rfl)
  have h4 := hW.2.2.2.1
  refine zCt.of (by decide) (Nat.le_of_ble_eq_true rfl) (vc_X9_which_0 (d := d) m0 (fun _ => ?_))
  refine (zCt.of (by decide) (Nat.le_of_ble_eq_true rfl) (vc_X7_suspects_0 (d := d) 1 m0 hpl (Q := fun r m1 => r = zqWhich P ∧ zFl zXX m0 m1) (fun _ => ?_))).mono (fun r m1 h _ _ => h)
  refine (c_X4_copyFrom (d := d + 3) hpl67 hpl (by decide) hW hWi hR).mono (fun r1 m2 h => ?_)
  obtain ⟨-, f2, hT2⟩ := h
  intro _ _
  have hF2 : zFl zXX m0 m2 := f2.l.mono (fun a k q => by unfold zXX; omega)
  refine (c_X7_isAsMeasured (d := d + 1) hW hT2).mono (fun r3 m4 h => ?_)
  obtain ⟨hr3, f4⟩ := h
  intro _ _
  have hF4 := hF2.tr (f4.mono zXS_XX)
  have hT4 := hT2.fl hW hpl67 f4
  refine ⟨fun z => ?_, fun z => ⟨(if_pos (b2i_t (by rw [← hr3]; exact z))).symm, hF4⟩⟩
  have hms : zmsB P = false := Bool.eq_false_iff.mpr (b2i_f (by rw [← hr3]; exact z))
  have eq : zqWhich P = zW1 P (P 98 4).toNat 0 := if_neg (b2i_f (by rw [← hr3]; exact z))
  rw [eq]
  -- two PARTS
  have two : (∀ q : Nat, (q : Int) < P 98 4 → zE1 P (q : Int) = false) → ∀ (n b : Nat), (b : Int) + n = P 98 4 → 1 ≤ b → ∀ m, zFl zXX m0 m → RQ m 67 P → zV K mX7_suspects (d + 7) 48 [(0, rr K 64), (1, rr K 1), (2, .int (iz (b : Int)))] [] m (fun r m1 => r = zW2 P n b ∧ zFl zXX m0 m1) := by
    intro hE n
    induction n with
    | zero =>
      intro b hb b1 m hF hT
      have e6 : m.1 1 6 = P 98 4 := (hR.xx hW (Or.inl rfl) hF).1.2.2.2.1
      exact vc_X7_suspects_48 _ 1 m (inR_b (A := 1000) (by omega) (by omega) rfl) hpl (fun _ => ⟨fun _ => ⟨rfl, hF⟩, fun q => absurd (by omega) q⟩)
    | succ n ih =>
      intro b hb b1 m hF hT
      have e6 : m.1 1 6 = P 98 4 := (hR.xx hW (Or.inl rfl) hF).1.2.2.2.1
      have es : zW2 P (n + 1) b = if zW3 P b b 0 < 0 then zW2 P n (b + 1) else zW3 P b b 0 := rfl
      have inner : ∀ (n' a : Nat), a + n' = b → ∀ m, zFl zXX m0 m → RQ m 67 P → zV K mX7_suspects (d + 7) 58 [(0, rr K 64), (1, rr K 1), (2, .int (iz (b : Int))), (3, .int (iz (a : Int)))] [] m (fun r m1 => r = (if zW3 P b n' a < 0 then zW2 P n (b + 1) else zW3 P b n' a) ∧ zFl zXX m0 m1) := by
        intro n'
        induction n' with
        | zero =>
          intro a ha m hF hT
          rw [if_pos (show zW3 P b 0 a < 0 by show (-1 : Int) < 0; decide)]
          exact vc_X7_suspects_58 _ _ 1 m (inR_b (A := 1000) (by omega) (by omega) rfl) (inR_b (A := 1000) (by omega) (by omega) rfl) hpl (fun _ => ⟨fun _ => ih (b + 1) (by omega) (by omega) m hF hT, fun q => absurd (by omega) q⟩)
        | succ n' ih' =>
          intro a ha m hF hT
          have e1 : zW3 P b (n' + 1) a = if zE2 P (a : Int) (b : Int) = true then zor (zshl 1 (a : Int)) (zshl 1 (b : Int)) else zW3 P b n' (a + 1) := rfl
          obtain ⟨-, -, -, g3, -⟩ := wf_part hW (show 0 ≤ (a : Int) by omega) (show (a : Int) < P 98 4 by omega)
          have h10 := zor_10 ⟨a, by omega⟩ ⟨b, by omega⟩
          have h10 : 0 ≤ zor (zshl 1 (a : Int)) (zshl 1 (b : Int)) := h10
          have ea : (76 + (a : Int)) = 67 + 9 + (a : Int) := by omega
          -- the sizes of the lower one
          have szs : ∀ (k : Nat) (v u : Int), v + k = 10 → 1 ≤ v → (zE2 P (a : Int) (b : Int) = zany (fun v => zany (fun u => zmsB (zPt (zPt P (a : Int) 3 v) (b : Int) 3 u)) 9 1) k v) → ∀ m, zFl zXX m0 m → RQ m 67 (zPt P (a : Int) 3 u) → (1 ≤ u ∧ u ≤ 9) → zV K mX7_suspects (d + 7) 66 [(0, rr K 64), (1, rr K 1), (2, .int (iz (b : Int))), (3, .int (iz (a : Int))), (4, .int (iz v))] [] m (fun r m1 => r = (if zW3 P b (n' + 1) a < 0 then zW2 P n (b + 1) else zW3 P b (n' + 1) a) ∧ zFl zXX m0 m1) := by
            intro k
            induction k with
            | zero =>
              intro v u hv v1 hz m hF hT hu
              have e3 : m.1 (1 + 9 + (a : Int)) 3 = zp P (a : Int) 3 := (hR.xx hW (Or.inl rfl) hF).1.part (by omega) (by omega) 3 (by omega)
              refine vc_X7_suspects_66 _ _ v 1 m (inR_b (A := 1000) (by omega) (by omega) rfl) (inR_b (A := 1000) (by omega) (by omega) rfl) (inR_b (A := 1000) (by omega) (by omega) rfl) hpl (fun _ => ⟨fun _ => ⟨by omega, by omega, fun m4 e4 _ => ?_⟩, fun q => absurd (by omega) q⟩)
              rw [e3, ea] at e4
              have hT4 : RQ m4 67 P := by
                have := hT.pt (p := (a : Int)) (k := 3) (v := zp P (a : Int) 3) (by omega) (by omega) e4
                rw [zPt_pt, zPt_id rfl] at this
                exact this
              have hz' : zE2 P (a : Int) (b : Int) = false := hz
              rw [if_neg (by rw [hz']; decide)] at e1
              rw [e1]
              exact ih' (a + 1) (by omega) m4 (hF.put e4 (Or.inr (by omega))) hT4
            | succ k ihk =>
              intro v u hv v1 hz m hF hT hu
              have hR1 := hR.xx hW (Or.inl rfl) hF
              have e3 : m.1 (1 + 9 + (a : Int)) 3 = zp P (a : Int) 3 := hR1.1.part (by omega) (by omega) 3 (by omega)
              have hE2 := zF1_E2 (P := P) (a := (a : Int)) (b := (b : Int)) (by omega) (hE a (by omega)) (hE b (by omega)) v (by omega)
              rw [zany_s, ← hE2] at hz
              refine vc_X7_suspects_66 _ _ v 1 m (inR_b (A := 1000) (by omega) (by omega) rfl) (inR_b (A := 1000) (by omega) (by omega) rfl) (inR_b (A := 1000) (by omega) (by omega) rfl) hpl (fun _ => ⟨fun q => absurd q (by omega), fun _ => ⟨by omega, by omega, ?_⟩⟩)
              rw [e3, ea]
              refine ⟨fun y => ?_, fun y m9 e9 _ => ?_⟩
              · rw [decide_eq_true y, Bool.not_true, Bool.false_and, Bool.false_or] at hz
                exact ihk (v + 1) u (by omega) (by omega) hz m hF hT hu
              · rw [decide_eq_false y, Bool.not_false, Bool.true_and] at hz
                have hT9 : RQ m9 67 (zPt P (a : Int) 3 v) := by
                  have := hT.pt (p := (a : Int)) (k := 3) (v := v) (by omega) (by omega) e9
                  rw [zPt_pt] at this
                  exact this
                have hF9 : zFl zXX m0 m9 := hF.put e9 (Or.inr (by omega))
                refine (c_X7_someSizeFits (d := d) (i := (b : Int)) (by omega) (by omega) hW (hR.xx hW (Or.inl rfl) hF9) (hW.pt3 (by omega)) hT9 (by rw [zPt_zp (by omega) (by omega), if_neg (by omega)])).mono (fun r11 m12 h => ?_)
                obtain ⟨hr11, f12, hT12⟩ := h
                intro _ _
                refine ⟨fun x => ?_, fun x => ?_⟩
                · have hf : zF1 (zPt P (a : Int) 3 v) (b : Int) (zp P (b : Int) 3) = false := Bool.eq_false_iff.mpr (b2i_f (by rw [← hr11]; exact x))
                  rw [hf, Bool.false_or] at hz
                  exact ihk (v + 1) v (by omega) (by omega) hz m12 (hF9.tr f12) hT12 (by omega)
                · have ht : zF1 (zPt P (a : Int) 3 v) (b : Int) (zp P (b : Int) 3) = true := b2i_t (by rw [← hr11]; exact x)
                  rw [ht, Bool.true_or] at hz
                  rw [if_pos hz] at e1
                  rw [e1, if_neg (by omega)]
                  exact ⟨rfl, hF9.tr f12⟩
          exact vc_X7_suspects_58 _ _ 1 m (inR_b (A := 1000) (by omega) (by omega) rfl) (inR_b (A := 1000) (by omega) (by omega) rfl) hpl (fun _ => ⟨fun q => absurd q (by omega), fun _ => szs 9 1 (zp P (a : Int) 3) (by omega) (by omega) rfl m hF (by rw [zPt_id rfl]; exact hT) g3⟩)
      rw [es]
      exact vc_X7_suspects_48 _ 1 m (inR_b (A := 1000) (by omega) (by omega) rfl) hpl (fun _ => ⟨fun q => absurd q (by omega), fun _ => inner b 0 (by omega) m hF hT⟩)
  have one : ∀ (n a : Nat), (a : Int) + n = P 98 4 → (∀ q : Nat, q < a → zE1 P (q : Int) = false) → ∀ m, zFl zXX m0 m → RQ m 67 P → zV K mX7_suspects (d + 7) 19 [(0, rr K 64), (1, rr K 1), (2, .int (iz (a : Int)))] [] m (fun r m1 => r = zW1 P n a ∧ zFl zXX m0 m1) := by
    intro n
    induction n with
    | zero =>
      intro a ha hE m hF hT
      have e6 : m.1 1 6 = P 98 4 := (hR.xx hW (Or.inl rfl) hF).1.2.2.2.1
      have e0 : zW1 P 0 a = zW2 P (P 98 4).toNat 0 := rfl
      rw [e0]
      refine vc_X7_suspects_19 _ 1 m (inR_b (A := 1000) (by omega) (by omega) rfl) hpl (fun _ => ⟨fun _ => ?_, fun q => absurd (by omega) q⟩)
      by_cases z0 : P 98 4 = 0
      · refine vc_X7_suspects_48 _ 1 m (inRd rfl) hpl (fun _ => ⟨fun _ => ⟨?_, hF⟩, fun q => absurd (by omega) q⟩)
        rw [z0]; rfl
      · have e1 : zW2 P (P 98 4).toNat 0 = zW2 P ((P 98 4).toNat - 1) 1 := by
          rw [show (P 98 4).toNat = ((P 98 4).toNat - 1) + 1 by omega]
          show (if zW3 P 0 0 0 < 0 then zW2 P ((P 98 4).toNat - 1) 1 else zW3 P 0 0 0) = _
          rw [if_pos (show zW3 P 0 0 0 < 0 by show (-1 : Int) < 0; decide)]
          rfl
        rw [e1]
        exact two (fun q hq => hE q (by omega)) ((P 98 4).toNat - 1) 1 (by omega) (by omega) m hF hT
    | succ n ih =>
      intro a ha hE m hF hT
      have hR1 := hR.xx hW (Or.inl rfl) hF
      have e6 : m.1 1 6 = P 98 4 := hR1.1.2.2.2.1
      have es : zW1 P (n + 1) a = if zE1 P (a : Int) = true then zshl 1 (a : Int) else zW1 P n (a + 1) := rfl
      refine vc_X7_suspects_19 _ 1 m (inR_b (A := 1000) (by omega) (by omega) rfl) hpl (fun _ => ⟨fun q => absurd q (by omega), fun _ => ?_⟩)
      refine (c_X7_someSizeFits (d := d) (i := (a : Int)) (by omega) (by omega) hW hR1 hW hT rfl).mono (fun r2 m3 h => ?_)
      obtain ⟨hr2, f3, hT3⟩ := h
      rw [zF1_E1 hms] at hr2
      intro _ _
      refine ⟨fun x => ?_, fun x => ?_⟩
      · have hf : zE1 P (a : Int) = false := Bool.eq_false_iff.mpr (b2i_f (by rw [← hr2]; exact x))
        rw [if_neg (by rw [hf]; decide)] at es
        rw [es]
        refine ih (a + 1) (by omega) (fun q hq => ?_) m3 (hF.tr f3) hT3
        by_cases e : q = a
        · rw [e]; exact hf
        · exact hE q (by omega)
      · rw [if_pos (b2i_t (by rw [← hr2]; exact x))] at es
        exact ⟨es.symm, hF.tr f3⟩
  exact one (P 98 4).toNat 0 (by omega) (fun q hq => absurd hq (Nat.not_lt_zero _)) m4 hF4 hT4
end WX
