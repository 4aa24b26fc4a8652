/-! ===== the class: a plan in its cells; the bench ===== -/
/-- the plan at pl (1 now, 20 kept, 67 trial) holds P -/
def RP (m : zM) (pl : Int) (P : F2) : Prop :=
  m.1 pl 10 = P 98 0 ∧ m.1 pl 9 = P 98 1 ∧ m.1 pl 7 = P 98 2 ∧ m.1 pl 6 = P 98 4 ∧ m.1 pl 8 = P 98 7 ∧
  (∀ i, 0 ≤ i → i < 21 * P 98 2 → m.1 (pl + 2) i = P 99 i) ∧ (∀ p k, 0 ≤ p → p < P 98 4 → 0 ≤ k → k < 10 → m.1 (pl + 9 + p) k = zp P p k) ∧
  (∀ p, 0 ≤ p → p < P 98 4 → m.1 (pl + 9 + p) 10 = P 101 (2 * p) ∧ m.1 (pl + 9 + p) 11 = P 101 (2 * p + 1)) ∧
  (∀ k, 0 ≤ k → k < P 98 7 → m.1 (pl + 3) k = P 102 (2 * k) ∧ m.1 (pl + 4) k = P 102 (2 * k + 1)) ∧ (∀ i, 0 ≤ i → i < 3 → m.1 (pl + 5) (i + 2) = P 103 i)
theorem RP.kept {m m' : zM} {pl : Int} {P : F2} (h : RP m pl P) (hf : ∀ a k, pl ≤ a → a ≤ pl + 18 → m'.1 a k = m.1 a k) (hp : P 98 4 ≤ 10) : RP m' pl P := by
  obtain ⟨h1, h2, h3, h4, h5, h6, h7, h8, h9, h10⟩ := h
  refine ⟨by rw [hf _ _ (by omega) (by omega)]; exact h1, by rw [hf _ _ (by omega) (by omega)]; exact h2, by rw [hf _ _ (by omega) (by omega)]; exact h3, by rw [hf _ _ (by omega) (by omega)]; exact h4, by rw [hf _ _ (by omega) (by omega)]; exact h5, fun i a b => by rw [hf _ _ (by omega) (by omega)]; exact h6 i a b, fun p k a b c e => by rw [hf _ _ (by omega) (by omega)]; exact h7 p k a b c e, fun p a b => by rw [hf _ _ (by omega) (by omega), hf _ _ (by omega) (by omega)]; exact h8 p a b, fun k a b => by rw [hf _ _ (by omega) (by omega), hf _ _ (by omega) (by omega)]; exact h9 k a b, fun i a b => by rw [hf _ _ (by omega) (by omega)]; exact h10 i a b⟩
def zmode (P : F2) (p : Int) : Int := if zp P p 0 = 4 ∨ zp P p 4 = 1 then 0 else if zp P p 4 = 2 then 4 else if zp P p 0 = 5 then 3 else if zp P p 0 = 1 then 1 else 2
def zBp (m : zM) (P : F2) (c p : Int) : Prop := m.1 44 p = zp P p 1 ∧ m.1 45 p = zp P p 2 ∧ m.1 43 p = zmode P p ∧ (zmode P p = 3 → m.1 49 p = zp P p 3) ∧
  (zmode P p = 1 ∨ zmode P p = 2 → m.1 47 p = zp P p 5 * 21 ∧ m.1 48 p = zp P p 6 * (c / 3 - 1) ∧ m.1 49 p = zp P (if zp P p 0 = 3 then zp P p 9 else p) 3 * (10 + (zp P p 7 - 5) * (c % 3 - 1)) ∧ m.1 46 p = (if zmode P p = 2 then zp P p 8 else 0))
/-- the bench is set up for P in a corner -/
def zBe (m : zM) (P : F2) (c : Int) : Prop := m.1 39 11 = P 98 4 ∧ zsh m.2.2 = some (0, 84) ∧ (∀ i, 0 ≤ i → i < 21 * P 98 2 → m.1 m.2.2 i = P 99 i) ∧ (∀ p, 0 ≤ p → p < P 98 4 → zBp m P c p) ∧ (∀ n, 0 ≤ n → n ≤ 4 → m.1 42 n = zwt P n (P 98 4).toNat)
theorem t10 (v : Int) : Int.tdiv (v * 10) 10 = v := Int.mul_tdiv_cancel v (by decide)
theorem t0 (n : Int) : Int.tdiv (0 * n) 10 = 0 := by rw [Int.zero_mul]; rfl
theorem zfl3_0 {P : F2} {lv : Int → Int} {c p d : Int} : zfl3 P lv c p d 0 = 0 := by
  unfold zfl3
  rw [t0]
  have h1 : (if 0 ≤ d then (0 : Int) else -0) = 0 := by split <;> rfl
  rw [h1]
  split
  · rfl
  · exact t0 _
section XB
variable {K : zCx} {P : F2} {c p : Int} {m0 : zM}
theorem c_X1_throughW {d : Nat} (hW : zWf P) (hB : zBe m0 P c) (h0 : 0 ≤ p) (h1 : p < P 98 4) (hc : 0 ≤ c ∧ c ≤ 8) (l1 : 0 ≤ m0.1 40 (zp P p 1) ∧ m0.1 40 (zp P p 1) ≤ 20) (l2 : 0 ≤ m0.1 40 (zp P p 2) ∧ m0.1 40 (zp P p 2) ≤ 20) (l8 : zmode P p = 2 → 0 ≤ m0.1 40 (zp P p 8) ∧ m0.1 40 (zp P p 8) ≤ 20) : zCt K (d + 1) mX1_through [rr K 39, .int (iz p)] m0 (fun r m1 => r = zflow P (m0.1 40) c p ∧ m1 = m0) := by
  obtain ⟨b1, b2, b3, b4, b5⟩ := hB
  obtain ⟨p1, p2, p3, p4, p5⟩ := b4 p h0 h1
  obtain ⟨g0, g1, g2, g3, g4, g5, g6, g7⟩ := wf_part hW h0 h1
  have h4 := hW.2.2.2.1
  have h2 := hW.2.2.1
  refine zCt.of (by decide) (Nat.le_of_ble_eq_true rfl) (vc_X1_through_0 (d := d) p m0 (inR_b (A := 10) (by omega) (by omega) rfl) (fun hm => ?_))
  rw [p1, p2, p3]
  refine ⟨h0, by omega, by omega, by omega, by omega, by omega, fun v7 e7 => ?_⟩
  have hfe : zflow P (m0.1 40) c p = zfl0 P (m0.1 40) c p v7 := by rw [e7]; rfl
  have hv7 : -20 ≤ v7 ∧ v7 ≤ 20 := by omega
  rw [hfe]
  unfold zfl0
  refine ⟨fun q3 => ?_, fun q3 => ⟨fun q4 => ?_, fun q4 => ⟨fun q0 => ?_, fun q0 => ?_⟩⟩⟩
  · have hm3 : zp P p 0 = 5 ∧ zp P p 4 = 0 := by unfold zmode at q3; (repeat' split at q3) <;> omega
    rw [p4 q3, if_pos (by omega), if_neg (by omega), if_pos hm3.1]
    exact ⟨rfl, rfl⟩
  · have hm4 : ¬ zp P p 0 = 4 ∧ zp P p 4 = 2 := by unfold zmode at q4; (repeat' split at q4) <;> omega
    rw [if_neg (by omega), if_neg (by omega), if_neg hm4.1]
    exact ⟨inR_b (A := 800) (by omega) (by omega) rfl, rfl, rfl⟩
  · have hm0 : zp P p 0 = 4 ∨ zp P p 4 = 1 := by unfold zmode at q0; (repeat' split at q0) <;> omega
    refine ⟨?_, rfl⟩
    (repeat' split) <;> omega
  · have hml : zp P p 0 ≤ 3 ∧ zp P p 4 = 0 ∧ (zmode P p = 1 ↔ zp P p 0 = 1) ∧ (zmode P p = 1 ∨ zmode P p = 2) := by
      unfold zmode at q3 q4 q0 ⊢
      (repeat' split at q3) <;> (repeat' split) <;> omega
    obtain ⟨hk, hb0, hm1, hm12⟩ := hml
    obtain ⟨q47, q48, q49, q46⟩ := p5 hm12
    have hg5 := g5 hk
    have hn := znum_le hW h0 h1 hk hc hv7
    have ht := wf_twin hW h0 h1
    rw [if_pos (by omega), if_neg (by omega), if_neg (by omega)]
    refine ⟨inR_b (A := 20) (by omega) (by omega) rfl, fun q7 => ⟨?_, rfl⟩, fun q7 => ⟨b2, fun v15 e15 => ?_⟩⟩
    · unfold zfl1 zfl2
      rw [if_pos q7]
      have : (if znum P c p v7 < 0 then (0 : Int) else 0) = 0 := by split <;> rfl
      rw [this, Int.zero_mul, zfl3_0]
    · have hv15 : 0 ≤ v15 ∧ v15 ≤ 20 := by rw [e15]; split <;> omega
      rw [q47, q48, q49, q46]
      refine ⟨by omega, by omega, fun v19 e19 => ?_⟩
      have htab : m0.1 m0.2.2 (zp P p 5 * 21 + v15) = P 99 (21 * zp P p 5 + v15) := by
        rw [b3 _ (by omega) (by omega), show zp P p 5 * 21 + v15 = 21 * zp P p 5 + v15 by omega]
      have hnum : v19 = znum P c p v7 := by rw [e19, htab, e15]; rfl
      have hzf : zfl1 P (m0.1 40) c p v7 = zfl2 P (m0.1 40) c p v7 (if v19 < 0 then 0 else v19) := by
        unfold zfl1
        rw [if_neg q7, hnum]
      refine ⟨inR_b (A := 35) (by omega) (by omega) rfl, fun qp => ?_, fun qp => ⟨?_, rfl⟩⟩
      · have hf := zfac (c := c) hg5.2.2
        have a1 : 0 ≤ v19 * zp P (if zp P p 0 = 3 then zp P p 9 else p) 3 ∧ v19 * zp P (if zp P p 0 = 3 then zp P p 9 else p) 3 ≤ 35 * 9 := zmulb (by omega) (by omega) (by omega) ht.2
        have a2 := zmulb a1.1 a1.2 hf.1 hf.2
        rw [Int.mul_assoc] at a2
        have a3 := ztd a2.1 a2.2 10 (by decide)
        have e00 : (if v19 < 0 then (0 : Int) else v19) = v19 := if_neg (by omega)
        rw [hzf, e00]
        refine ⟨inR_b (A := 5000) (by omega) (by omega) rfl, fun v24 e24 v26 e26 => ?_⟩
        have hv26 : -5000 ≤ v26 ∧ v26 ≤ 5000 := by rw [e26]; split <;> omega
        unfold zfl2 zfl3
        rw [Int.mul_assoc, ← e24, ← e26]
        refine ⟨fun qm => ?_, fun qm => ?_⟩
        · have hk1 : ¬ zp P p 0 = 1 := by omega
          have hg := g6 (by omega)
          have lg := l8 qm
          rw [if_pos qm, if_neg hk1]
          refine ⟨by omega, by omega, fun v34 e34 => ?_⟩
          rw [← e34]
          refine ⟨fun qq => ⟨inR_b (A := 5000) (by omega) (by omega) rfl, ?_, rfl⟩, fun qq => ?_⟩
          · by_cases h10 : v34 ≤ 10
            · have : v34 = 10 := by omega
              rw [if_pos h10, this, t10]
            · rw [if_neg h10, t10]
          · have h7 := zmula hv26.1 hv26.2 (show 0 ≤ v34 by omega) (show v34 ≤ 20 by omega)
            refine ⟨inR_b (A := 100000) (by omega) (by omega) rfl, ?_, rfl⟩
            rw [if_pos (by omega)]
        · have hk1 : zp P p 0 = 1 := by omega
          rw [if_pos hk1]
          exact ⟨fun _ => ⟨inR_b (A := 5000) (by omega) (by omega) rfl, rfl, rfl⟩, fun qq => absurd (by omega) qq⟩
      · rw [hzf]
        have : (if v19 < 0 then (0 : Int) else v19) = 0 := by split <;> omega
        rw [this]
        unfold zfl2
        rw [Int.zero_mul, zfl3_0]
theorem c_X1_through {d : Nat} (hW : zWf P) (hB : zBe m0 P c) (h0 : 0 ≤ p) (h1 : p < P 98 4) (hc : 0 ≤ c ∧ c ≤ 8) (hlv : ∀ k, 0 ≤ k → k ≤ 4 → 0 ≤ m0.1 40 k ∧ m0.1 40 k ≤ 20) : zCt K (d + 1) mX1_through [rr K 39, .int (iz p)] m0 (fun r m1 => r = zflow P (m0.1 40) c p ∧ m1 = m0) := by
  obtain ⟨g0, g1, g2, g3, g4, g5, g6, g7⟩ := wf_part hW h0 h1
  refine c_X1_throughW hW hB h0 h1 hc (hlv _ g1.1 g1.2) (hlv _ g2.1 g2.2) (fun q => ?_)
  have hg := g6 (by unfold zmode at q; (repeat' split at q) <;> omega)
  exact hlv _ hg.1 hg.2
end XB
