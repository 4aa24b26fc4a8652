section MT2
variable {K : zCx} {P : F2} {c s : Int} {m0 : zM}
theorem t_ticks_34 {d : Nat} {Q : Int → zM → Prop} (hP : pv m0.1 = P) (hW : zWf P) (hs : 0 ≤ s ∧ s ≤ 9260) (hc : 0 ≤ c ∧ c ≤ 8) (hQ : ∀ m', zFr zTk m0 m' → Q (ztick P c s) m') :
    ∀ (n k : Nat), (k : Int) + n = P 98 4 → ∀ m : zM, zFr zTk m0 m → (∀ n, 0 ≤ n → n ≤ 4 → m.1 106 n = zlv P s n) → (∀ n, 0 ≤ n → n ≤ 4 → m.1 107 n = znet P (zlv P s) c n k) → (∀ n, 0 ≤ n → n ≤ 4 → m.1 108 n = zwt P n k) →
      zV K mX10_ticks (d + 3) 34 [(0, rr K 98), (2, .int (iz c)), (3, .int (iz (k : Int)))] [] m Q := by
  have h4 := hW.2.2.2.1
  have hlz : ∀ q, 0 ≤ zlv P s q ∧ zlv P s q ≤ 20 := fun q => zlv_le hW hs q
  intro n
  induction n with
  | zero =>
    intro k hk m hF hl hn hw
    have hPm : pv m.1 = P := (hF.mono zTk_Sc).pv.trans hP
    have hparts : m.1 98 4 = P 98 4 := pv_f hPm (by omega)
    have hkk : (P 98 4).toNat = k := by omega
    refine vc_X10_ticks_34 c k m (inR_b (A := 10) (by omega) (by omega) rfl) (inR_b (A := 10) (by omega) (by omega) rfl) (fun hm => ⟨fun _ => ?_, fun q => absurd (by omega) q⟩)
    exact t_ticks_156 hW hs hc hl (by rw [hkk]; exact hn) (by rw [hkk]; exact hw) (hQ m hF)
  | succ n ih =>
    intro k hk m hF hl hn hw
    have hPm : pv m.1 = P := (hF.mono zTk_Sc).pv.trans hP
    have hparts : m.1 98 4 = P 98 4 := pv_f hPm (by omega)
    have hz : ∀ p k, m.1 100 (10 * p + k) = zp P p k := fun p k => pv_r hPm (by omega) _
    obtain ⟨g0, g1, g2, g3, g4, g5, g6, g7⟩ := wf_part (p := (k : Int)) hW (by omega) (by omega)
    have hfl := zflow_le (p := (k : Int)) hW (by omega) (by omega) hc (fun q _ _ => hlz q)
    refine vc_X10_ticks_34 c k m (inR_b (A := 10) (by omega) (by omega) rfl) (inR_b (A := 10) (by omega) (by omega) rfl) (fun hm => ⟨fun q => absurd q (by omega), fun _ => ?_⟩)
    have hlm : ∀ q, 0 ≤ q → q ≤ 4 → 0 ≤ m.1 106 q ∧ m.1 106 q ≤ 20 := fun q a b => by rw [hl q a b]; exact hlz q
    have hfe : zflow P (m.1 106) c k = zflow P (zlv P s) c k := zflow_lv hW (by omega) (by omega) (fun q a b => hl q a b)
    refine (c_X10_flows (d := d) hPm hW (by omega) (by omega) hc hlm).mono (fun r m3 h => ?_)
    obtain ⟨hr, hm3⟩ := h
    subst hm3
    rw [hfe] at hr
    intro _ _
    have n1 := znet_le (n := zp P k 1) hW hc (fun q _ _ => hlz q) k (by omega)
    have n2 := znet_le (n := zp P k 2) hW hc (fun q _ _ => hlz q) k (by omega)
    have w1 := zwt_le (n := zp P k 1) hW k (by omega)
    have w2 := zwt_le (n := zp P k 2) hW k (by omega)
    have a1 := hn _ g1.1 g1.2
    have a2 := hn _ g2.1 g2.2
    have b1 := hw _ g1.1 g1.2
    have b2 := hw _ g2.1 g2.2
    refine ⟨by omega, by omega, fun v8 e8 => ⟨by omega, by omega, fun v14 e14 => ?_⟩⟩
    rw [hz] at e8 e14
    subst e8; subst e14
    refine ⟨by omega, by omega, inR_b (A := 100000) (by omega) (by omega) rfl, fun m19 e19 _ => ⟨by omega, by omega, ?_, fun m24 e24 _ => ?_⟩⟩
    · rw [e19, sI_at]
      split
      · exact inR_b (A := 100000) (by omega) (by omega) rfl
      · exact inR_b (A := 100000) (by omega) (by omega) rfl
    have tk7 : ∀ k, zTk 107 k := fun k => ⟨by omega, by omega⟩
    have tk8 : ∀ k, zTk 108 k := fun k => ⟨by omega, by omega⟩
    have hF24 : zFr zTk m0 m24 := (hF.put e19 (tk7 _)).put e24 (tk7 _)
    have hz24 : ∀ p k, m24.1 100 (10 * p + k) = zp P p k := fun p k => pv_r ((hF24.mono zTk_Sc).pv.trans hP) (by omega) _
    have l24 : ∀ n, 0 ≤ n → n ≤ 4 → m24.1 106 n = zlv P s n := fun n x y => by rw [e24, sI_ne (Or.inl (by omega)), e19, sI_ne (Or.inl (by omega))]; exact hl n x y
    have n24 : ∀ n, 0 ≤ n → n ≤ 4 → m24.1 107 n = znet P (zlv P s) c n (k + 1) := by
      intro n x y
      have := hn n x y
      rw [e24, sI_at, e19, sI_at, sI_at]
      unfold znet
      by_cases q2 : zp P k 2 = n
      · by_cases q1 : zp P k 1 = n
        · simp only [q1, q2, and_self, if_true]; rw [this, hr]
        · have q3 : ¬ n = zp P k 1 := fun z => q1 z.symm
          simp only [q2, q1, q3, and_self, and_false, if_true, if_false]; rw [this, hr]
      · have q4 : ¬ n = zp P k 2 := fun z => q2 z.symm
        by_cases q1 : zp P k 1 = n
        · simp only [q1, q2, q4, and_self, and_false, if_true, if_false]; rw [this, hr]
        · have q3 : ¬ n = zp P k 1 := fun z => q1 z.symm
          simp only [q2, q1, q3, q4, and_false, if_false]; rw [this]
    have w24 : ∀ n, 0 ≤ n → n ≤ 4 → m24.1 108 n = zwt P n k := fun n x y => by rw [e24, sI_ne (Or.inl (by omega)), e19, sI_ne (Or.inl (by omega))]; exact hw n x y
    have c1 := w24 _ g1.1 g1.2
    have c2 := w24 _ g2.1 g2.2
    -- the weights: 'more' is added at both ends
    have fin : ∀ (v : Int) (m55 m58 : zM), 0 ≤ v → v ≤ 9 → v = (if zp P k 0 = 4 ∧ zp P k 4 = 0 then zp P k 3 else 0) → m55 = sI m24 108 (zp P k 1) (m24.1 108 (zp P k 1) + v) → m58 = sI m55 108 (zp P k 2) (m55.1 108 (zp P k 2) + v) → zV K mX10_ticks (d + 3) 34 [(0, rr K 98), (2, .int (iz c)), (3, .int (iz ((k : Int) + 1)))] [] m58 Q := by
      intro v m55 m58 v0 v9 ev e55 e58
      refine ih (k + 1) (by omega) m58 ((hF24.put e55 (tk8 _)).put e58 (tk8 _)) (fun n x y => ?_) (fun n x y => ?_) (fun n x y => ?_)
      · rw [e58, sI_ne (Or.inl (by omega)), e55, sI_ne (Or.inl (by omega))]; exact l24 n x y
      · rw [e58, sI_ne (Or.inl (by omega)), e55, sI_ne (Or.inl (by omega))]; exact n24 n x y
      · have := w24 n x y
        have ev2 : (if zp P k 0 = 4 ∧ zp P k 4 = 0 then (if zp P k 1 = n then zp P k 3 else 0) + (if zp P k 2 = n then zp P k 3 else 0) else 0) = (if zp P k 1 = n then v else 0) + (if zp P k 2 = n then v else 0) := by
          rw [ev]
          split
          · rfl
          · (repeat' split) <;> rfl
        unfold zwt
        rw [ev2, e58, sI_at, e55, sI_at, sI_at]
        by_cases q2 : zp P k 2 = n
        · by_cases q1 : zp P k 1 = n
          · simp only [q1, q2, and_self, if_true]; rw [this]; omega
          · have q3 : ¬ n = zp P k 1 := fun z => q1 z.symm
            simp only [q2, q1, q3, and_self, and_false, if_true, if_false]; rw [this]; omega
        · have q4 : ¬ n = zp P k 2 := fun z => q2 z.symm
          by_cases q1 : zp P k 1 = n
          · simp only [q1, q2, q4, and_self, and_false, if_true, if_false]; rw [this]; omega
          · have q3 : ¬ n = zp P k 1 := fun z => q1 z.symm
            simp only [q2, q1, q3, q4, and_false, if_false]; rw [this]; omega
    have okw : ∀ (v : Int) (m55 : zM), 0 ≤ v → v ≤ 9 → m55 = sI m24 108 (zp P k 1) (m24.1 108 (zp P k 1) + v) → inR (m55.1 108 (zp P k 2) + v) := by
      intro v m55 v0 v9 e55
      rw [e55, sI_at]
      split
      · exact inR_b (A := 10000) (by omega) (by omega) rfl
      · exact inR_b (A := 10000) (by omega) (by omega) rfl
    simp only [hz24]
    refine ⟨by omega, by omega, fun k4 => ⟨by omega, by omega, fun k0 => ⟨by omega, by omega, fun v52 e52 => ⟨inR_b (A := 10000) (by omega) (by omega) rfl, fun m55 e55 _ => ⟨okw v52 m55 (by omega) (by omega) e55, fun m58 e58 _ => ?_⟩⟩⟩, fun k0 => ⟨inR_b (A := 10000) (by omega) (by omega) rfl, fun m43 e43 _ => ⟨okw 0 m43 (by omega) (by omega) e43, fun m46 e46 _ => ?_⟩⟩⟩, fun k4 => ⟨inR_b (A := 10000) (by omega) (by omega) rfl, fun m32 e32 _ => ⟨okw 0 m32 (by omega) (by omega) e32, fun m35 e35 _ => ?_⟩⟩⟩
    · exact fin v52 m55 m58 (by omega) (by omega) (by rw [if_pos ⟨k4, k0⟩]; exact e52) e55 e58
    · exact fin 0 m43 m46 (by omega) (by omega) (by rw [if_neg (fun z => k0 z.2)]) e43 e46
    · exact fin 0 m32 m35 (by omega) (by omega) (by rw [if_neg (fun z => k4 z.1)]) e32 e35
theorem t_ticks_7 {d : Nat} {Q : Int → zM → Prop} (hP : pv m0.1 = P) (hW : zWf P) (hs : 0 ≤ s ∧ s ≤ 9260) (hc : 0 ≤ c ∧ c ≤ 8) (hQ : ∀ m', zFr zTk m0 m' → Q (ztick P c s) m') :
    ∀ (n : Nat) (k : Int), 0 ≤ k → k + n = 5 → ∀ m : zM, zFr zTk m0 m → (∀ n, 0 ≤ n → n ≤ 4 → m.1 106 n = zlv P s n) → (∀ n, 0 ≤ n → n < k → m.1 107 n = 0) → (∀ n, 0 ≤ n → n < k → m.1 108 n = 4) →
      zV K mX10_ticks (d + 3) 7 [(0, rr K 98), (2, .int (iz c)), (3, .int (iz k))] [] m Q := by
  have h4 := hW.2.2.2.1
  intro n
  induction n with
  | zero =>
    intro k k0 hk m hF hl hn hw
    refine vc_X10_ticks_7 c k m (inR_b (A := 10) (by omega) (by omega) rfl) (inR_b (A := 10) (by omega) (by omega) rfl) (fun hm => ⟨fun _ => ?_, fun q => absurd (by omega) q⟩)
    exact t_ticks_34 hP hW hs hc hQ (P 98 4).toNat 0 (by omega) m hF hl (fun n x y => by rw [hn n x (by omega)]; rfl) (fun n x y => by rw [hw n x (by omega)]; rfl)
  | succ n ih =>
    intro k k0 hk m hF hl hn hw
    refine vc_X10_ticks_7 c k m (inR_b (A := 10) (by omega) (by omega) rfl) (inR_b (A := 10) (by omega) (by omega) rfl) (fun hm => ⟨fun q => absurd q (by omega), fun _ => ⟨by omega, by omega, fun m4 e4 _ m6 e6 _ => ?_⟩⟩)
    refine ih (k + 1) (by omega) (by omega) m6 ((hF.put e4 ⟨by omega, by omega⟩).put e6 ⟨by omega, by omega⟩) (fun n x y => ?_) (fun n x y => ?_) (fun n x y => ?_)
    · rw [e6, sI_ne (Or.inl (by omega)), e4, sI_ne (Or.inl (by omega))]; exact hl n x y
    · rw [e6, sI_ne (Or.inl (by omega)), e4, sI_at]
      split
      · rfl
      · exact hn n x (by omega)
    · rw [e6, sI_at]
      split
      · rfl
      · rw [e4, sI_ne (Or.inl (by omega))]; exact hw n x (by omega)
/-- ticks(state, corner) -/
theorem c_X10_ticks {d : Nat} (hP : pv m0.1 = P) (hW : zWf P) (hs : 0 ≤ s ∧ s ≤ 9260) (hc : 0 ≤ c ∧ c ≤ 8) : zCt K (d + 3) mX10_ticks [rr K 98, .int (iz s), .int (iz c)] m0 (fun r m1 => r = ztick P c s ∧ zFr zTk m0 m1) := by
  refine zCt.of (by decide) (Nat.le_of_ble_eq_true rfl) (vc_X10_ticks_0 (d := d) s c m0 (inR_b (A := 9260) (by omega) (by omega) rfl) (inR_b (A := 10) (by omega) (by omega) rfl) (fun hm => ?_))
  refine (c_X10_stand (d := d + 1) hP hs).mono (fun r m2 h => ?_)
  obtain ⟨-, hF, hl⟩ := h
  intro _ _
  exact t_ticks_7 hP hW hs hc (fun m' h => ⟨rfl, h⟩) 5 0 (by omega) (by omega) m2 hF hl (fun n x y => absurd y (by omega)) (fun n x y => absurd y (by omega))
end MT2
