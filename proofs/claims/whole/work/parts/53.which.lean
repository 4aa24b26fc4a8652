/-! ===== which() ===== -/
noncomputable def zmsK (P : F2) : Nat → Bool
  | 0 => true
  | k + 1 => zmsK P k && (decide (P 103 (k : Int) < 0) || decide (P 103 (k : Int) = zlv P (zE P 4) (2 + (k : Int))))
/-- whether THE END in the middle CORNER is as it was measured -/
noncomputable def zmsB (P : F2) : Bool := zmsK P 3
def zany (f : Int → Bool) : Nat → Int → Bool
  | 0, _ => false
  | n + 1, v => f v || zany f n (v + 1)
theorem zany_iff {f : Int → Bool} : ∀ (n : Nat) (v : Int), zany f n v = true ↔ ∃ x, v ≤ x ∧ x < v + n ∧ f x = true := by
  intro n
  induction n with
  | zero => intro v; exact ⟨fun h => absurd h (by show ¬ false = true; decide), fun ⟨x, a, b, _⟩ => by omega⟩
  | succ n ih =>
    intro v
    show (f v || zany f n (v + 1)) = true ↔ _
    rw [Bool.or_eq_true, ih]
    constructor
    · rintro (h | ⟨x, a, b, c⟩)
      · exact ⟨v, by omega, by omega, h⟩
      · exact ⟨x, by omega, by omega, c⟩
    · rintro ⟨x, a, b, c⟩
      by_cases e : x = v
      · subst e; exact Or.inl c
      · exact Or.inr ⟨x, by omega, by omega, c⟩
noncomputable def zE1 (P : F2) (a : Int) : Bool := zany (fun v => zmsB (zPt P a 3 v)) 9 1
noncomputable def zE2 (P : F2) (a b : Int) : Bool := zany (fun v => zany (fun u => zmsB (zPt (zPt P a 3 v) b 3 u)) 9 1) 9 1
noncomputable def zW3 (P : F2) (b : Nat) : Nat → Nat → Int
  | 0, _ => -1
  | k + 1, a => if zE2 P (a : Int) (b : Int) = true then zor (zshl 1 (a : Int)) (zshl 1 (b : Int)) else zW3 P b k (a + 1)
noncomputable def zW2 (P : F2) : Nat → Nat → Int
  | 0, _ => -3
  | k + 1, b => if zW3 P b b 0 < 0 then zW2 P k (b + 1) else zW3 P b b 0
noncomputable def zW1 (P : F2) : Nat → Nat → Int
  | 0, _ => zW2 P (P 98 4).toNat 0
  | k + 1, a => if zE1 P (a : Int) = true then zshl 1 (a : Int) else zW1 P k (a + 1)
noncomputable def zqWhich (P : F2) : Int := if zmsB P = true then 0 else zW1 P (P 98 4).toNat 0
theorem zor_10 : ∀ a b : Fin 10, 0 ≤ zor (zshl 1 (a.val : Int)) (zshl 1 (b.val : Int)) := by decide +kernel
theorem zPt_com {P : F2} {a b v u : Int} (h : a ≠ b) : zPt (zPt P a 3 v) b 3 u = zPt (zPt P b 3 u) a 3 v := by
  funext c k
  unfold zPt
  rw [zup_at, zup_at, zup_at, zup_at]
  by_cases z1 : c = 100 ∧ k = 10 * b + 3
  · rw [if_pos z1, if_neg (by omega), if_pos z1]
  · rw [if_neg z1, if_neg z1]
section WH
variable {K : zCx} {P : F2} {m0 : zM}
theorem zmsK_s (k : Nat) : zmsK P (k + 1) = (zmsK P k && (decide (P 103 (k : Int) < 0) || decide (P 103 (k : Int) = zlv P (zE P 4) (2 + (k : Int))))) := rfl
theorem zmsK_f {k : Nat} (h : zmsK P k = false) : ∀ n, zmsK P (k + n) = false := by
  intro n
  induction n with
  | zero => exact h
  | succ n ih => rw [show k + (n + 1) = (k + n) + 1 by omega, zmsK_s, ih, Bool.false_and]
theorem c_X10_isAsMeasured {d : Nat} (hP : pv m0.1 = P) (hW : zWf P) (hC : zCame m0) (hB : m0.1 98 18 ≤ 1999999990) : zCt K (d + 5) mX10_isAsMeasured [rr K 98] m0 (fun r m1 => r = b2i (zmsB P) ∧ zGo 1 m0 m1) := by
  have hc : (0 : Int) ≤ 4 ∧ (4 : Int) ≤ 8 := by omega
  refine zCt.of (by decide) (Nat.le_of_ble_eq_true rfl) (vc_X10_isAsMeasured_0 (d := d) m0 (fun _ => ?_))
  refine (c_X10_go (d := d) hP hW hc hC (by omega)).mono (fun r m2 h => ?_)
  obtain ⟨-, g1, g2, g3, g4, g5, g6⟩ := h
  intro _ _
  have hP2 : pv m2.1 = P := g1.pv.trans hP
  obtain ⟨f1, f2, f3⟩ := zE_facts (c := 4) hW
  rw [g4]
  refine (c_X10_stand (d := d + 3) hP2 f1).mono (fun r m4 h => ?_)
  obtain ⟨-, q1, q2⟩ := h
  intro _ _
  have hP4 : pv m4.1 = P := (q1.mono zTk_Sc).pv.trans hP2
  have nt : ∀ a k, ¬ (106 ≤ a ∧ a ≤ 108) → m4.1 a k = m2.1 a k := fun a k z => q1.1 a k z
  have hG : zGo 1 m0 m4 := ⟨g1.tr (q1.mono zTk_Sc), g3.k (fun t => nt _ _ (by omega)) (nt _ _ (by omega)), by rw [nt _ _ (by omega)]; omega⟩
  have loop : ∀ (n k : Nat), k + n = 3 → zV K mX10_isAsMeasured (d + 5) 17 [(0, rr K 98), (1, .int (iz (b2i (zmsK P k)))), (2, .int (iz (k : Int)))] [] m4 (fun r m1 => r = b2i (zmsB P) ∧ zGo 1 m0 m1) := by
    intro n
    induction n with
    | zero => exact fun k hk => vc_X10_isAsMeasured_17 _ _ m4 (inR_b2i _) (inR_b (A := 1000) (by omega) (by omega) rfl) (fun _ => ⟨fun _ => ⟨b2i_01 _, by rw [show k = 3 by omega]; rfl, hG⟩, fun q => absurd (by omega) q⟩)
    | succ n ih =>
      intro k hk
      have e103 : m4.1 103 (k : Int) = P 103 (k : Int) := pv_r hP4 (by omega) _
      have e106 : m4.1 106 (2 + (k : Int)) = zlv P (zE P 4) (2 + (k : Int)) := q2 _ (by omega) (by omega)
      have hs := zmsK_s (P := P) k
      have hn := ih (k + 1) (by omega)
      refine vc_X10_isAsMeasured_17 _ _ m4 (inR_b2i _) (inR_b (A := 1000) (by omega) (by omega) rfl) (fun _ => ⟨fun q => absurd q (by omega), fun _ => ⟨fun z => ?_, fun z => ⟨by omega, by omega, ?_⟩⟩⟩)
      · have hf : zmsK P k = false := Bool.eq_false_iff.mpr (b2i_f z)
        rw [hs, hf, Bool.false_and] at hn
        exact hn
      · have ht : zmsK P k = true := b2i_t z
        rw [ht, Bool.true_and] at hs
        rw [e103, e106]
        refine ⟨fun y => ?_, fun y => ⟨by omega, by omega, fun v9 e9 => ?_⟩⟩
        · rw [decide_eq_true y, Bool.true_or] at hs
          rw [hs] at hn
          exact hn
        · rw [decide_eq_false y, Bool.false_or] at hs
          have : v9 = b2i (zmsK P (k + 1)) := by
            rw [e9, hs]
            by_cases x : P 103 (k : Int) = zlv P (zE P 4) (2 + (k : Int))
            · rw [if_pos x, b2i_p x]
            · rw [if_neg x, b2i_n x]
          rw [this]
          exact hn
  exact loop 3 0 (by omega)
theorem c_X7_isAsMeasured {d : Nat} {Y : F2} (hW : zWf Y) (hT : RQ m0 67 Y) : zCt K (d + 5) mX7_isAsMeasured [rr K 64] m0 (fun r m1 => r = b2i (zmsB Y) ∧ zFl zXS m0 m1) := by
  have hpl67 : zPl 67 := Or.inr (Or.inr rfl)
  have hc : (0 : Int) ≤ 4 ∧ (4 : Int) ≤ 8 := by omega
  refine zCt.of (by decide) (Nat.le_of_ble_eq_true rfl) (vc_X7_isAsMeasured_0 (d := d) m0 (fun _ => ?_))
  rw [hT.1.1]
  refine (c_X1_setUp (d := d) hpl67 hW hT.1 hc hW.1).mono (fun _ m2 h => ?_)
  obtain ⟨-, f2, b2, l0, l1⟩ := h
  intro _ _
  have e9 : m2.1 67 9 = Y 98 1 := by rw [f2.1 _ _ (by unfold zBS; omega)]; exact hT.1.2.1
  rw [e9]
  refine (c_X1_walk (d := d + 1) hW b2 hc l0 l1).mono (fun r m3 h => ?_)
  obtain ⟨-, w1, w2, w3, w4, w5, w6, w7⟩ := h
  intro _ _
  have hg : zFl zXS m0 m3 := (f2.tr w1).mono zBS_XS
  have hT3 : RQ m3 67 Y := hT.fl hW hpl67 hg
  have loop : ∀ (n k : Nat), k + n = 3 → zmsK Y k = true → ∀ x : Int, x = 2 + (k : Int) → zV K mX7_isAsMeasured (d + 5) 35 [(0, rr K 64), (1, .int (iz x))] [] m3 (fun r m1 => r = b2i (zmsB Y) ∧ zFl zXS m0 m1) := by
    intro n
    induction n with
    | zero =>
      intro k hk ht x ex
      refine vc_X7_isAsMeasured_35 x m3 (inR_b (A := 1000) (by omega) (by omega) rfl) (fun _ => ⟨fun _ => ⟨?_, hg⟩, fun q => absurd (by omega) q⟩)
      rw [show k = 3 by omega] at ht
      unfold zmsB
      rw [ht]
      rfl
    | succ n ih =>
      intro k hk ht x ex
      have e72 : m3.1 72 x = Y 103 (k : Int) := by rw [ex, Int.add_comm]; exact hT3.1.2.2.2.2.2.2.2.2.2 (k : Int) (by omega) (by omega)
      have e40 : m3.1 40 x = zlv Y (zE Y 4) (2 + (k : Int)) := by rw [ex]; exact w4 _ (by omega) (by omega)
      have hs := zmsK_s (P := Y) k
      rw [ht, Bool.true_and] at hs
      refine vc_X7_isAsMeasured_35 x m3 (inR_b (A := 1000) (by omega) (by omega) rfl) (fun _ => ⟨fun q => absurd q (by omega), fun _ => ⟨by omega, by omega, ?_⟩⟩)
      rw [e72, e40]
      refine ⟨fun y => ih (k + 1) (by omega) ?_ _ (by omega), fun y => ⟨fun y2 => ih (k + 1) (by omega) ?_ _ (by omega), fun y2 => ⟨?_, hg⟩⟩⟩
      · rw [hs, decide_eq_true y, Bool.true_or]
      · rw [hs, decide_eq_true y2, Bool.or_true]
      · rw [decide_eq_false y, decide_eq_false y2, Bool.or_self] at hs
        have := zmsK_f hs (3 - (k + 1))
        rw [show k + 1 + (3 - (k + 1)) = 3 by omega] at this
        unfold zmsB
        rw [this]
        rfl
  exact loop 3 0 (by omega) rfl 2 (by omega)
theorem zany_s {f : Int → Bool} (n : Nat) (v : Int) : zany f (n + 1) v = (f v || zany f n (v + 1)) := rfl
/-- explains(a, b), one PART alone -/
theorem c_X10_explains1 {d : Nat} {a : Int} (h0 : 0 ≤ a) (h1 : a < P 98 4) (hP : pv m0.1 = P) (hW : zWf P) (hC : zCame m0) (hB : m0.1 98 18 ≤ 1100000000) : zCt K (d + 6) mX10_explains [rr K 98, .int (iz a), .int (iz (-1))] m0 (fun r m1 => r = b2i (zE1 P a) ∧ zGd 9 m0 m1) := by
  have h4 := hW.2.2.2.1
  have ia : inR a := inR_b (A := 1000) (by omega) (by omega) rfl
  obtain ⟨-, -, -, g3, -⟩ := wf_part hW h0 h1
  have i3 : inR (zp P a 3) := inR_b (A := 1000) (by omega) (by omega) rfl
  have fin : ∀ (b : Bool) (w u : Int) (m : zM), inR w → (10 ≤ w ∨ b = true) → zGe 9 m0 m → pv m.1 = zPt P a 3 u → zV K mX10_explains (d + 6) 29 [(0, rr K 98), (1, .int (iz a)), (2, .int (iz (-1))), (3, .int (iz (zp P a 3))), (4, .int (iz 0)), (5, .int (iz (b2i b))), (6, .int (iz w))] [] m (fun r m1 => r = b2i b ∧ zGd 9 m0 m1) := by
    intro b w u m iw hor hG hm
    have hfin : ∀ m4, m4 = sI m 100 ((10 * a) + 3) (zp P a 3) → zGd 9 m0 m4 := fun m4 e4 => (hG.put e4 (Or.inr rfl) (by unfold zSc; omega)).back (by rw [pv_pt hm e4, zPt_pt, zPt_id rfl, hP])
    refine vc_X10_explains_29 a (-1) (zp P a 3) 0 (b2i b) w m ia (inRd rfl) i3 (inRd rfl) (inR_b2i b) iw (fun _ => ⟨fun _ => ⟨by omega, by omega, fun m4 e4 _ => ⟨fun _ => ⟨b2i_01 b, rfl, hfin m4 e4⟩, fun q => absurd (by decide) q⟩⟩, fun q => ⟨fun z => ?_, fun _ => ⟨by omega, by omega, fun m16 e16 _ => ⟨fun _ => ⟨b2i_01 b, rfl, hfin m16 e16⟩, fun q => absurd (by decide) q⟩⟩⟩⟩)
    rcases hor with h | h
    · exact absurd h q
    · rw [h] at z; exact absurd z (by decide)
  have loop : ∀ (n : Nat) (v u : Int), v + n = 10 → 1 ≤ v → ∀ m, zGe (v - 1) m0 m → pv m.1 = zPt P a 3 u → zV K mX10_explains (d + 6) 29 [(0, rr K 98), (1, .int (iz a)), (2, .int (iz (-1))), (3, .int (iz (zp P a 3))), (4, .int (iz 0)), (5, .int (iz 0)), (6, .int (iz v))] [] m (fun r m1 => r = b2i (zany (fun v => zmsB (zPt P a 3 v)) n v) ∧ zGd 9 m0 m1) := by
    intro n
    induction n with
    | zero =>
      intro v u hv v1 m hG hm
      exact fin false v u m (inR_b (A := 1000) (by omega) (by omega) rfl) (Or.inl (by omega)) (hG.le (by omega)) hm
    | succ n ih =>
      intro v u hv v1 m hG hm
      have iv : inR v := inR_b (A := 1000) (by omega) (by omega) rfl
      refine vc_X10_explains_29 a (-1) (zp P a 3) 0 0 v m ia (inRd rfl) i3 (inRd rfl) (inRd rfl) iv (fun _ => ⟨fun q => absurd q (by omega), fun _ => ⟨fun _ => ⟨by omega, by omega, fun m27 e27 _ => ?_⟩, fun q => absurd rfl q⟩⟩)
      have hm27 : pv m27.1 = zPt P a 3 v := by rw [pv_pt hm e27, zPt_pt]
      have hG27 := hG.put e27 (Or.inr rfl) (by unfold zSc; omega)
      refine vc_X10_explains_57 a (-1) (zp P a 3) 0 0 v 1 m27 ia (inRd rfl) i3 (inRd rfl) (inRd rfl) iv (inRd rfl) (fun _ w ew => ?_)
      rw [if_neg (by decide)] at ew
      subst ew
      refine ⟨fun q => absurd q (by decide), fun _ => ⟨fun _ => ⟨fun _ => ?_, fun q => absurd (by decide) q⟩, fun q => absurd rfl q⟩⟩
      refine (c_X10_isAsMeasured (d := d) hm27 (hW.pt3 (by omega)) hG27.2.1 (by have := hG27.2.2; omega)).mono (fun r6 m7 h => ?_)
      obtain ⟨hr6, g7⟩ := h
      intro _ _
      rw [hr6]
      have hG7 := hG27.tr g7.e
      have hm7 := g7.1.pv.trans hm27
      refine vc_X10_explains_57 a (-1) (zp P a 3) 0 _ v (1 + 1) m7 ia (inRd rfl) i3 (inRd rfl) (inR_b2i _) iv (inRd rfl) (fun _ w ew => ?_)
      rw [if_neg (by decide)] at ew
      subst ew
      refine ⟨fun _ => ?_, fun q => absurd (by decide) q⟩
      rw [zany_s]
      by_cases hb : zmsB (zPt P a 3 v) = true
      · rw [hb, Bool.true_or]
        exact fin true (v + 1) v m7 (inR_b (A := 1000) (by omega) (by omega) rfl) (Or.inr rfl) (hG7.le (by omega)) hm7
      · have hb' : zmsB (zPt P a 3 v) = false := Bool.eq_false_iff.mpr hb
        rw [hb', Bool.false_or]
        exact ih (v + 1) v (by omega) (by omega) m7 (hG7.le (by omega)) hm7
  refine zCt.of (by decide) (Nat.le_of_ble_eq_true rfl) (vc_X10_explains_0 (d := d) a (-1) m0 ia (inRd rfl) (fun _ => ⟨by omega, by omega, fun v5 e5 => ⟨fun q => absurd q (by decide), fun _ => ?_⟩⟩))
  rw [pv_r hP (by omega)] at e5
  rw [show v5 = zp P a 3 from e5]
  exact loop 9 1 (zp P a 3) (by omega) (by omega) m0 ((zGe.rf hC).le (by omega)) (by rw [zPt_id rfl, hP])
/-- explains(a, b), two PARTS -/
theorem c_X10_explains2 {d : Nat} {a b : Int} (h0 : 0 ≤ a) (hab : a < b) (h1 : b < P 98 4) (hP : pv m0.1 = P) (hW : zWf P) (hC : zCame m0) (hB : m0.1 98 18 ≤ 1100000000) : zCt K (d + 6) mX10_explains [rr K 98, .int (iz a), .int (iz b)] m0 (fun r m1 => r = b2i (zE2 P a b) ∧ zGd 81 m0 m1) := by
  have h4 := hW.2.2.2.1
  have ia : inR a := inR_b (A := 1000) (by omega) (by omega) rfl
  have ib : inR b := inR_b (A := 1000) (by omega) (by omega) rfl
  obtain ⟨-, -, -, g3, -⟩ := wf_part hW h0 (show a < P 98 4 by omega)
  obtain ⟨-, -, -, k3, -⟩ := wf_part hW (show 0 ≤ b by omega) h1
  have i3 : inR (zp P a 3) := inR_b (A := 1000) (by omega) (by omega) rfl
  have j3 : inR (zp P b 3) := inR_b (A := 1000) (by omega) (by omega) rfl
  have hne : a ≠ b := by omega
  have fin : ∀ (t : Bool) (w v u : Int) (m : zM), inR w → (10 ≤ w ∨ t = true) → zGe 81 m0 m → pv m.1 = zPt (zPt P a 3 v) b 3 u → zV K mX10_explains (d + 6) 29 [(0, rr K 98), (1, .int (iz a)), (2, .int (iz b)), (3, .int (iz (zp P a 3))), (4, .int (iz (zp P b 3))), (5, .int (iz (b2i t))), (6, .int (iz w))] [] m (fun r m1 => r = b2i t ∧ zGd 81 m0 m1) := by
    intro t w v u m iw hor hG hm
    have hfin : ∀ m4, m4 = sI m 100 ((10 * a) + 3) (zp P a 3) → ∀ m10, m10 = sI m4 100 ((10 * b) + 3) (zp P b 3) → zGd 81 m0 m10 := fun m4 e4 m10 e10 => ((hG.put e4 (Or.inr rfl) (by unfold zSc; omega)).put e10 (Or.inr rfl) (by unfold zSc; omega)).back (by rw [pv_pt (pv_pt hm e4) e10, zPt_com hne, zPt_pt, zPt_com hne, zPt_pt, zPt_id (P := P) (p := b) (k := 3) rfl, zPt_id (p := a) (k := 3) rfl, hP])
    refine vc_X10_explains_29 a b (zp P a 3) (zp P b 3) (b2i t) w m ia ib i3 j3 (inR_b2i t) iw (fun _ => ⟨fun _ => ⟨by omega, by omega, fun m4 e4 _ => ⟨fun q => absurd q (by omega), fun _ => ⟨by omega, by omega, fun m10 e10 _ => ⟨b2i_01 t, rfl, hfin m4 e4 m10 e10⟩⟩⟩⟩, fun q => ⟨fun z => ?_, fun _ => ⟨by omega, by omega, fun m4 e4 _ => ⟨fun q => absurd q (by omega), fun _ => ⟨by omega, by omega, fun m10 e10 _ => ⟨b2i_01 t, rfl, hfin m4 e4 m10 e10⟩⟩⟩⟩⟩⟩)
    rcases hor with h | h
    · exact absurd h q
    · rw [h] at z; exact absurd z (by decide)
  have loop : ∀ (n : Nat) (v w u : Int), v + n = 10 → 1 ≤ v → ∀ m, zGe (9 * (v - 1)) m0 m → pv m.1 = zPt (zPt P a 3 w) b 3 u → zV K mX10_explains (d + 6) 29 [(0, rr K 98), (1, .int (iz a)), (2, .int (iz b)), (3, .int (iz (zp P a 3))), (4, .int (iz (zp P b 3))), (5, .int (iz 0)), (6, .int (iz v))] [] m (fun r m1 => r = b2i (zany (fun v => zany (fun u => zmsB (zPt (zPt P a 3 v) b 3 u)) 9 1) n v) ∧ zGd 81 m0 m1) := by
    intro n
    induction n with
    | zero =>
      intro v w u hv v1 m hG hm
      exact fin false v w u m (inR_b (A := 1000) (by omega) (by omega) rfl) (Or.inl (by omega)) (hG.le (by omega)) hm
    | succ n ih =>
      intro v w u hv v1 m hG hm
      have iv : inR v := inR_b (A := 1000) (by omega) (by omega) rfl
      refine vc_X10_explains_29 a b (zp P a 3) (zp P b 3) 0 v m ia ib i3 j3 (inRd rfl) iv (fun _ => ⟨fun q => absurd q (by omega), fun _ => ⟨fun _ => ⟨by omega, by omega, fun m27 e27 _ => ?_⟩, fun q => absurd rfl q⟩⟩)
      have hm27 : pv m27.1 = zPt (zPt P a 3 v) b 3 u := by rw [pv_pt hm e27, zPt_com (by omega), zPt_pt, zPt_com (by omega)]
      have hG27 := hG.put e27 (Or.inr rfl) (by unfold zSc; omega)
      have inner : ∀ (n' : Nat) (x y : Int), x + n' = 10 → 1 ≤ x → ∀ m, zGe (9 * (v - 1) + (x - 1)) m0 m → pv m.1 = zPt (zPt P a 3 v) b 3 y → zV K mX10_explains (d + 6) 57 [(0, rr K 98), (1, .int (iz a)), (2, .int (iz b)), (3, .int (iz (zp P a 3))), (4, .int (iz (zp P b 3))), (5, .int (iz 0)), (6, .int (iz v)), (7, .int (iz x))] [] m (fun r m1 => r = b2i (zany (fun u => zmsB (zPt (zPt P a 3 v) b 3 u)) n' x || zany (fun v => zany (fun u => zmsB (zPt (zPt P a 3 v) b 3 u)) 9 1) n (v + 1)) ∧ zGd 81 m0 m1) := by
        intro n'
        induction n' with
        | zero =>
          intro x y hx x1 m hG hm
          refine vc_X10_explains_57 a b (zp P a 3) (zp P b 3) 0 v x m ia ib i3 j3 (inRd rfl) iv (inR_b (A := 1000) (by omega) (by omega) rfl) (fun _ t et => ?_)
          rw [if_pos (by omega)] at et
          subst et
          refine ⟨fun _ => ?_, fun q => absurd (by omega) q⟩
          exact ih (v + 1) v y (by omega) (by omega) m (hG.le (by omega)) hm
        | succ n' ih' =>
          intro x y hx x1 m hG hm
          refine vc_X10_explains_57 a b (zp P a 3) (zp P b 3) 0 v x m ia ib i3 j3 (inRd rfl) iv (inR_b (A := 1000) (by omega) (by omega) rfl) (fun _ t et => ?_)
          rw [if_pos (by omega)] at et
          subst et
          refine ⟨fun q => absurd q (by omega), fun _ => ⟨fun _ => ⟨fun q => absurd q (by omega), fun _ => ⟨by omega, by omega, fun m10 e10 _ => ?_⟩⟩, fun q => absurd rfl q⟩⟩
          have hm10 : pv m10.1 = zPt (zPt P a 3 v) b 3 x := by rw [pv_pt hm e10, zPt_pt]
          have hG10 := hG.put e10 (Or.inr rfl) (by unfold zSc; omega)
          refine (c_X10_isAsMeasured (d := d) hm10 ((hW.pt3 (by omega)).pt3 (by omega)) hG10.2.1 (by have := hG10.2.2; omega)).mono (fun r12 m13 h => ?_)
          obtain ⟨hr12, g13⟩ := h
          intro _ _
          rw [hr12]
          have hG13 := hG10.tr g13.e
          have hm13 := g13.1.pv.trans hm10
          rw [zany_s]
          by_cases hb : zmsB (zPt (zPt P a 3 v) b 3 x) = true
          · rw [hb, Bool.true_or, Bool.true_or]
            refine vc_X10_explains_57 a b (zp P a 3) (zp P b 3) _ v (x + 1) m13 ia ib i3 j3 (inR_b2i _) iv (inR_b (A := 1000) (by omega) (by omega) rfl) (fun _ t et => ⟨fun _ => ?_, fun _ => ⟨fun q => absurd q (by decide), fun _ => ?_⟩⟩)
            · exact fin true (v + 1) v x m13 (inR_b (A := 1000) (by omega) (by omega) rfl) (Or.inr rfl) (hG13.le (by omega)) hm13
            · exact fin true (v + 1) v x m13 (inR_b (A := 1000) (by omega) (by omega) rfl) (Or.inr rfl) (hG13.le (by omega)) hm13
          · have hb' : zmsB (zPt (zPt P a 3 v) b 3 x) = false := Bool.eq_false_iff.mpr hb
            rw [hb', Bool.false_or]
            exact ih' (x + 1) x (by omega) (by omega) m13 (hG13.le (by omega)) hm13
      rw [zany_s]
      exact inner 9 1 u (by omega) (by omega) m27 (hG27.le (by omega)) hm27
  refine zCt.of (by decide) (Nat.le_of_ble_eq_true rfl) (vc_X10_explains_0 (d := d) a b m0 ia ib (fun _ => ⟨by omega, by omega, fun v5 e5 => ⟨fun _ => ⟨by omega, by omega, fun v12 e12 => ?_⟩, fun q => absurd (by omega) q⟩⟩))
  rw [pv_r hP (by omega)] at e5 e12
  rw [show v5 = zp P a 3 from e5, show v12 = zp P b 3 from e12]
  exact loop 9 1 (zp P a 3) (zp P b 3) (by omega) (by omega) m0 ((zGe.rf hC).le (by omega)) (by rw [zPt_id (p := a) (k := 3) rfl, zPt_id (p := b) (k := 3) rfl, hP])
theorem c_X10_which {d : Nat} (hP : pv m0.1 = P) (hW : zWf P) (hC : zCame m0) (hB : m0.1 98 18 ≤ 1000000000) : zCt K (d + 7) mX10_which [rr K 98] m0 (fun r m1 => r = zqWhich P ∧ zGd 10000 m0 m1) := by
  have h4 := hW.2.2.2.1
  refine zCt.of (by decide) (Nat.le_of_ble_eq_true rfl) (vc_X10_which_0 (d := d) m0 (fun _ => ?_))
  refine (c_X10_isAsMeasured (d := d + 1) hP hW hC (by omega)).mono (fun r1 m2 h => ?_)
  obtain ⟨hr1, g2⟩ := h
  intro _ _
  have two : ∀ (n b : Nat), (b : Int) + n = P 98 4 → ∀ m, zGd (91 + 810 * (b : Int)) m0 m → zV K mX10_which (d + 7) 40 [(0, rr K 98), (1, .int (iz (b : Int)))] [] m (fun r m1 => r = zW2 P n b ∧ zGd 10000 m0 m1) := by
    intro n
    induction n with
    | zero =>
      intro b hb m hG
      have e4 : m.1 98 4 = P 98 4 := pv_f (hG.pv.trans hP) (by omega)
      exact vc_X10_which_40 _ m (inR_b (A := 1000) (by omega) (by omega) rfl) (fun _ => ⟨fun _ => ⟨rfl, hG.le (by omega)⟩, fun q => absurd (by omega) q⟩)
    | succ n ih =>
      intro b hb m hG
      have e4 : m.1 98 4 = P 98 4 := pv_f (hG.pv.trans hP) (by omega)
      have es : zW2 P (n + 1) b = if zW3 P b b 0 < 0 then zW2 P n (b + 1) else zW3 P b b 0 := rfl
      have inner : ∀ (n' a : Nat), a + n' = b → ∀ m, zGd (91 + 810 * (b : Int) + 81 * (a : Int)) m0 m → zV K mX10_which (d + 7) 50 [(0, rr K 98), (1, .int (iz (b : Int))), (2, .int (iz (a : Int)))] [] m (fun r m1 => r = (if zW3 P b n' a < 0 then zW2 P n (b + 1) else zW3 P b n' a) ∧ zGd 10000 m0 m1) := by
        intro n'
        induction n' with
        | zero =>
          intro a ha m hG
          rw [if_pos (show zW3 P b 0 a < 0 by show (-1 : Int) < 0; decide)]
          exact vc_X10_which_50 _ _ m (inR_b (A := 1000) (by omega) (by omega) rfl) (inR_b (A := 1000) (by omega) (by omega) rfl) (fun _ => ⟨fun _ => ih (b + 1) (by omega) m (hG.le (by omega)), fun q => absurd (by omega) q⟩)
        | succ n' ih' =>
          intro a ha m hG
          have e1 : zW3 P b (n' + 1) a = if zE2 P (a : Int) (b : Int) = true then zor (zshl 1 (a : Int)) (zshl 1 (b : Int)) else zW3 P b n' (a + 1) := rfl
          refine vc_X10_which_50 _ _ m (inR_b (A := 1000) (by omega) (by omega) rfl) (inR_b (A := 1000) (by omega) (by omega) rfl) (fun _ => ⟨fun q => absurd q (by omega), fun _ => ?_⟩)
          refine (c_X10_explains2 (d := d) (a := (a : Int)) (b := (b : Int)) (by omega) (by omega) (by omega) (hG.pv.trans hP) hW hG.2.1 (by have := hG.2.2; omega)).mono (fun r2 m3 h => ?_)
          obtain ⟨hr2, g3⟩ := h
          intro _ _
          refine ⟨fun z => ?_, fun z => ?_⟩
          · rw [if_neg (b2i_f (by rw [← hr2]; exact z))] at e1
            rw [e1]
            exact ih' (a + 1) (by omega) m3 ((hG.tr g3).le (by omega))
          · rw [if_pos (b2i_t (by rw [← hr2]; exact z))] at e1
            have h10 := zor_10 ⟨a, by omega⟩ ⟨b, by omega⟩
            have h10 : 0 ≤ zor (zshl 1 (a : Int)) (zshl 1 (b : Int)) := h10
            rw [e1, if_neg (by omega)]
            exact ⟨rfl, (hG.tr g3).le (by omega)⟩
      rw [es]
      exact vc_X10_which_40 _ m (inR_b (A := 1000) (by omega) (by omega) rfl) (fun _ => ⟨fun q => absurd q (by omega), fun _ => inner b 0 (by omega) m (hG.le (by omega))⟩)
  have one : ∀ (n a : Nat), (a : Int) + n = P 98 4 → ∀ m, zGd (1 + 9 * (a : Int)) m0 m → zV K mX10_which (d + 7) 11 [(0, rr K 98), (1, .int (iz (a : Int)))] [] m (fun r m1 => r = zW1 P n a ∧ zGd 10000 m0 m1) := by
    intro n
    induction n with
    | zero =>
      intro a ha m hG
      have e4 : m.1 98 4 = P 98 4 := pv_f (hG.pv.trans hP) (by omega)
      exact vc_X10_which_11 _ m (inR_b (A := 1000) (by omega) (by omega) rfl) (fun _ => ⟨fun _ => two (P 98 4).toNat 0 (by omega) m (hG.le (by omega)), fun q => absurd (by omega) q⟩)
    | succ n ih =>
      intro a ha m hG
      have e4 : m.1 98 4 = P 98 4 := pv_f (hG.pv.trans hP) (by omega)
      have es : zW1 P (n + 1) a = if zE1 P (a : Int) = true then zshl 1 (a : Int) else zW1 P n (a + 1) := rfl
      refine vc_X10_which_11 _ m (inR_b (A := 1000) (by omega) (by omega) rfl) (fun _ => ⟨fun q => absurd q (by omega), fun _ => ?_⟩)
      refine (c_X10_explains1 (d := d) (a := (a : Int)) (by omega) (by omega) (hG.pv.trans hP) hW hG.2.1 (by have := hG.2.2; omega)).mono (fun r2 m3 h => ?_)
      obtain ⟨hr2, g3⟩ := h
      intro _ _
      refine ⟨fun z => ?_, fun z => ?_⟩
      · rw [if_neg (b2i_f (by rw [← hr2]; exact z))] at es
        rw [es]
        exact ih (a + 1) (by omega) m3 ((hG.tr g3).le (by omega))
      · rw [if_pos (b2i_t (by rw [← hr2]; exact z))] at es
        exact ⟨es.symm, (hG.tr g3).le (by omega)⟩
  refine ⟨fun z => ?_, fun z => ⟨(if_pos (b2i_t (by rw [← hr1]; exact z))).symm, g2.d.le (by omega)⟩⟩
  have e : zqWhich P = zW1 P (P 98 4).toNat 0 := if_neg (b2i_f (by rw [← hr1]; exact z))
  rw [e]
  exact one (P 98 4).toNat 0 (by omega) m2 (g2.d.le (by omega))
end WH
