/-! ===== the reference: held, missing ===== -/
noncomputable def zhs (P : F2) (c : Int) (i : Nat) : Bool := zholds (zval P c) (zwM P (i : Int))
noncomputable def zmetN (P : F2) : Nat → Nat → Bool
  | 0, _ => true
  | k + 1, i => zmetN P k i && zhs P (k : Int) i
/-- whether a WISH is MET -/
noncomputable def zmet (P : F2) (i : Nat) : Bool := zmetN P 9 i
noncomputable def zmiss (P : F2) : Int := zbs (fun i => !zmet P i) (P 98 10).toNat
noncomputable def zheld (P : F2) (c : Int) : Int := zbs (zhs P c) (P 98 10).toNat
/-- behind what only walks: the plan stands, n more rounds at most -/
def zGo (n : Int) (m m1 : zM) : Prop := zFr zSc m m1 ∧ zCame m1 ∧ m1.1 98 18 ≤ m.1 98 18 + n
theorem zGo.tr {a b : Int} {m m1 m2 : zM} (h : zGo a m m1) (h2 : zGo b m1 m2) : zGo (a + b) m m2 := ⟨h.1.tr h2.1, h2.2.1, by have := h.2.2; have := h2.2.2; omega⟩
theorem zGo.le {a b : Int} {m m1 : zM} (h : zGo a m m1) (hab : a ≤ b) : zGo b m m1 := ⟨h.1, h.2.1, by have := h.2.2; omega⟩
theorem zGo.rf {m : zM} (h : zCame m) : zGo 0 m m := ⟨zFr.rf, h, by omega⟩
section MM
variable {K : zCx} {P : F2} {c : Int} {m0 : zM}
theorem t_held_17 {d : Nat} {Q : Int → zM → Prop} (hP : pv m0.1 = P) (hW : zWf P) (hc : 0 ≤ c ∧ c ≤ 8) (hWi : zWish P) (hS : zStood P c m0) (hQ : ∀ m', zFr zS115 m0 m' → Q (zheld P c) m') :
    ∀ (n k : Nat), k + n = (P 98 10).toNat → ∀ m : zM, zFr zS115 m0 m → zV K mX10_held (d + 5) 17 [(0, rr K 98), (1, .int (iz c)), (2, .int (iz (zbs (zhs P c) k))), (3, .int (iz (k : Int)))] [] m Q := by
  have hcn := hWi.1
  intro n
  induction n with
  | zero =>
    intro k hk m hF
    have hPm : pv m.1 = P := (hF.mono zS115_Sc).pv.trans hP
    have e10 : m.1 98 10 = P 98 10 := pv_f hPm (by omega)
    have hb := zbs_nn (zhs P c) (n := k) (by omega)
    refine vc_X10_held_17 c _ k m (inR_b (A := 10) (by omega) (by omega) rfl) (inR_b (A := 256) (by omega) (by omega) rfl) (inR_b (A := 10) (by omega) (by omega) rfl) (fun hm => ⟨fun _ => ?_, fun q => absurd (by omega) q⟩)
    have hq := hQ m hF
    unfold zheld at hq
    have : (P 98 10).toNat = k := by omega
    rw [this] at hq
    exact hq
  | succ n ih =>
    intro k hk m hF
    have hPm : pv m.1 = P := (hF.mono zS115_Sc).pv.trans hP
    have e10 : m.1 98 10 = P 98 10 := pv_f hPm (by omega)
    have hb := zbs_nn (zhs P c) (n := k) (by omega)
    have hSm : zStood P c m := ⟨fun k a b => by rw [hF.1 _ _ (by unfold zS115; omega)]; exact hS.1 k a b, by rw [hF.1 _ _ (by unfold zS115; omega)]; exact hS.2.1, by rw [hF.1 _ _ (by unfold zS115; omega)]; exact hS.2.2⟩
    refine vc_X10_held_17 c _ k m (inR_b (A := 10) (by omega) (by omega) rfl) (inR_b (A := 256) (by omega) (by omega) rfl) (inR_b (A := 10) (by omega) (by omega) rfl) (fun hm => ⟨fun q => absurd q (by omega), fun _ => ?_⟩)
    refine (c_X10_holdsIn (d := d) (w := (k : Int)) hPm hW hc hWi ⟨by omega, by omega⟩ hSm).mono (fun r m3 h => ?_)
    obtain ⟨h1, h2⟩ := h
    intro _ _ v4 e4 v6 e6
    have hv : v6 = zbs (zhs P c) (k + 1) := by
      rw [e6, e4, ← zbs_succ (zhs P c) (k := k) (by omega), h1]
      congr 1
      have : zholds (zval P c) (zwM P (k : Int)) = zhs P c k := rfl
      rw [this]
      cases zhs P c k <;> simp [b2i]
    rw [hv]
    exact ih (k + 1) (by omega) m3 (hF.tr h2)
/-- held(corner) -/
theorem c_X10_held {d : Nat} (hP : pv m0.1 = P) (hW : zWf P) (hc : 0 ≤ c ∧ c ≤ 8) (hWi : zWish P) (hC : zCame m0) (hB : m0.1 98 18 ≤ 2000000000) : zCt K (d + 5) mX10_held [rr K 98, .int (iz c)] m0 (fun r m1 => r = zheld P c ∧ zGo 1 m0 m1) := by
  refine zCt.of (by decide) (Nat.le_of_ble_eq_true rfl) (vc_X10_held_0 (d := d) c m0 (inR_b (A := 10) (by omega) (by omega) rfl) (fun hm => ?_))
  refine (c_X10_go (d := d) hP hW hc hC hB).mono (fun r m2 h => ?_)
  obtain ⟨-, g1, g2, g3, g4, g5, g6⟩ := h
  intro _ _
  have hP2 : pv m2.1 = P := g1.pv.trans hP
  obtain ⟨f1, f2, f3⟩ := zE_facts (c := c) hW
  rw [g4]
  refine (c_X10_stand (d := d + 3) hP2 f1).mono (fun r m4 h => ?_)
  obtain ⟨-, q1, q2⟩ := h
  intro _ _
  have nt : ∀ a k, ¬ (106 ≤ a ∧ a ≤ 108) → m4.1 a k = m2.1 a k := fun a k z => q1.1 a k z
  have hS4 : zStood P c m4 := ⟨q2, by rw [nt _ _ (by omega)]; exact g5, by rw [nt _ _ (by omega)]; exact g6⟩
  have hP4 : pv m4.1 = P := (q1.mono zTk_Sc).pv.trans hP2
  have main := t_held_17 (K := K) (d := d) (Q := fun r m1 => r = zheld P c ∧ zGo 1 m0 m1) hP4 hW hc hWi hS4 (fun m' h => ⟨rfl, (g1.tr (q1.mono zTk_Sc)).tr (h.mono zS115_Sc), ?_, ?_⟩) (P 98 10).toNat 0 (by omega) m4 zFr.rf
  · exact main
  · have n5 : ∀ a k, ¬ a = 115 → m'.1 a k = m4.1 a k := fun a k z => h.1 a k z
    refine ⟨fun t a b => ?_, ?_⟩
    · rw [n5 _ _ (by omega), n5 _ _ (by omega), nt _ _ (by omega), nt _ _ (by omega)]
      exact g3.1 t a b
    · rw [n5 _ _ (by omega), nt _ _ (by omega)]
      exact g3.2
  · rw [h.1 _ _ (by unfold zS115; omega), nt _ _ (by omega), g2]
    exact Int.le_refl _
theorem t_missing_11 {d : Nat} {Q : Int → zM → Prop} (hP : pv m0.1 = P) (hW : zWf P) (hWi : zWish P) (hB : m0.1 98 18 ≤ 1999999990) (hQ : ∀ m', zGo 9 m0 m' → Q (zmiss P) m') :
    ∀ (n k : Nat), k + n = 9 → ∀ m : zM, zGo k m0 m → zV K mX10_missing (d + 6) 11 [(0, rr K 98), (1, .int (iz (zbs (zmetN P k) (P 98 10).toNat))), (2, .int (iz (k : Int)))] [] m Q := by
  have hcn := hWi.1
  have hn8 : (P 98 10).toNat ≤ 8 := by omega
  intro n
  induction n with
  | zero =>
    intro k hk m hG
    have hPm : pv m.1 = P := hG.1.pv.trans hP
    have e10 : m.1 98 10 = P 98 10 := pv_f hPm (by omega)
    have hk9 : k = 9 := by omega
    subst hk9
    have hb := zbs_nn (zmetN P 9) hn8
    refine vc_X10_missing_11 _ _ m (inR_b (A := 256) (by omega) (by omega) rfl) (inR_b (A := 10) (by omega) (by omega) rfl) (fun hm => ⟨fun _ => ?_, fun q => absurd (by omega) q⟩)
    have hs := zshl_8 ⟨(P 98 10).toNat, by omega⟩
    have e1 : ((P 98 10).toNat : Int) = P 98 10 := by omega
    have hs2 : zshl 1 (P 98 10) = ((2 ^ (P 98 10).toNat : Nat) : Int) := by rw [← e1]; exact hs
    rw [e10, hs2, ← zbs_all, zbs_andn _ _ hn8]
    have : zbs (fun i => true && !zmetN P 9 i) (P 98 10).toNat = zmiss P := zbs_congr (fun i _ => by simp [zmet])
    rw [this]
    exact hQ m hG
  | succ n ih =>
    intro k hk m hG
    have hPm : pv m.1 = P := hG.1.pv.trans hP
    have hb := zbs_nn (zmetN P k) hn8
    have hG3 := hG.2.2
    refine vc_X10_missing_11 _ _ m (inR_b (A := 256) (by omega) (by omega) rfl) (inR_b (A := 10) (by omega) (by omega) rfl) (fun hm => ⟨fun q => absurd q (by omega), fun _ => ?_⟩)
    refine (c_X10_held (d := d) (c := (k : Int)) hPm hW ⟨by omega, by omega⟩ hWi hG.2.1 (by omega)).mono (fun r m3 h => ?_)
    obtain ⟨h1, h2⟩ := h
    intro _ _ v4 e4
    have hv : v4 = zbs (zmetN P (k + 1)) (P 98 10).toNat := by
      rw [e4, h1]
      unfold zheld
      rw [zbs_and _ _ hn8]
      exact zbs_congr (fun i _ => rfl)
    rw [hv]
    exact ih (k + 1) (by omega) m3 (hG.tr h2)
/-- missing() -/
theorem c_X10_missing {d : Nat} (hP : pv m0.1 = P) (hW : zWf P) (hWi : zWish P) (hC : zCame m0) (hB : m0.1 98 18 ≤ 1999999990) : zCt K (d + 6) mX10_missing [rr K 98] m0 (fun r m1 => r = zmiss P ∧ zGo 9 m0 m1) := by
  have hcn := hWi.1
  have e10 : m0.1 98 10 = P 98 10 := pv_f hP (by omega)
  refine zCt.of (by decide) (Nat.le_of_ble_eq_true rfl) (vc_X10_missing_0 (d := d) m0 (fun hm v1 e1 => ?_))
  have hs := zshl_8 ⟨(P 98 10).toNat, by omega⟩
  have e2 : ((P 98 10).toNat : Int) = P 98 10 := by omega
  have hs2 : zshl 1 (P 98 10) = ((2 ^ (P 98 10).toNat : Nat) : Int) := by rw [← e2]; exact hs
  have hv : v1 = zbs (zmetN P 0) (P 98 10).toNat := by
    rw [e1, e10, hs2, ← zbs_all]
    exact zbs_congr (fun i _ => rfl)
  rw [hv]
  exact t_missing_11 hP hW hWi hB (fun m' h => ⟨rfl, h⟩) 9 0 (by omega) m0 (zGo.rf hC)
theorem c_X10_missed {d : Nat} (hP : pv m0.1 = P) (hW : zWf P) (hWi : zWish P) (hC : zCame m0) (hB : m0.1 98 18 ≤ 1999999990) : zCt K (d + 7) mX10_missed [rr K 98] m0 (fun r m1 => r = zmiss P ∧ zGo 9 m0 m1) :=
  zCt.of (by decide) (Nat.le_of_ble_eq_true rfl) (vc_X10_missed_0 (d := d) m0 (fun _ => (c_X10_missing (d := d) hP hW hWi hC hB).mono (fun _ _ h _ _ => h)))
theorem c_X10_holds {d : Nat} (hci : inR c) (hP : pv m0.1 = P) (hW : zWf P) (hWi : zWish P) (hC : zCame m0) (hB : m0.1 98 18 ≤ 1999999990) : zCt K (d + 6) mX10_holds [rr K 98, .int (iz c)] m0 (fun r m1 => r = (if 0 ≤ c ∧ c ≤ 8 then zheld P c else -1) ∧ zGo 9 m0 m1) :=
  zCt.of (by decide) (Nat.le_of_ble_eq_true rfl) (vc_X10_holds_0 (d := d) c m0 hci (fun _ => ⟨fun q => (c_X10_held (d := d) hP hW q hWi hC (by omega)).mono (fun _ _ h _ _ => ⟨by rw [if_pos q]; exact h.1, h.2.le (by omega)⟩), fun q => ⟨by rw [if_neg q], (zGo.rf hC).le (by omega)⟩⟩))
/-- WORST: the first corner from k on in which it doesn't hold -/
noncomputable def zworst (P : F2) (i : Nat) : Nat → Nat → Int
  | 0, _ => -3
  | n + 1, k => if zhs P (k : Int) i = true then zworst P i n (k + 1) else (k : Int)
theorem t_worst_18 {d : Nat} {Q : Int → zM → Prop} {i : Nat} (hP : pv m0.1 = P) (hW : zWf P) (hWi : zWish P) (hB : m0.1 98 18 ≤ 1999999990) (hi : (i : Int) < P 98 10) (W : Int) (hQ : ∀ m', zGo 9 m0 m' → Q W m') :
    ∀ (n k : Nat), k + n = 9 → zworst P i n k = W → ∀ m : zM, zGo k m0 m → zV K mX10_worst (d + 6) 18 [(0, rr K 98), (1, .int (iz (i : Int))), (2, .int (iz (k : Int)))] [] m Q := by
  have hcn := hWi.1
  have hn8 : (P 98 10).toNat ≤ 8 := by omega
  intro n
  induction n with
  | zero =>
    intro k hk hw m hG
    refine vc_X10_worst_18 _ _ m (inR_b (A := 256) (by omega) (by omega) rfl) (inR_b (A := 10) (by omega) (by omega) rfl) (fun hm => ⟨fun _ => ?_, fun q => absurd (by omega) q⟩)
    have : W = -3 := hw.symm
    rw [← this]
    exact hQ m (hG.le (by omega))
  | succ n ih =>
    intro k hk hw m hG
    have hPm : pv m.1 = P := hG.1.pv.trans hP
    have hG3 := hG.2.2
    refine vc_X10_worst_18 _ _ m (inR_b (A := 256) (by omega) (by omega) rfl) (inR_b (A := 10) (by omega) (by omega) rfl) (fun hm => ⟨fun q => absurd q (by omega), fun _ => ?_⟩)
    refine (c_X10_held (d := d) (c := (k : Int)) hPm hW ⟨by omega, by omega⟩ hWi hG.2.1 (by omega)).mono (fun r m3 h => ?_)
    obtain ⟨h1, h2⟩ := h
    intro _ _
    rw [h1]
    unfold zheld
    rw [zbs_get (zhs P (k : Int)) hn8 (by omega)]
    unfold zworst at hw
    by_cases hh : zhs P (k : Int) i = true
    · rw [if_pos hh] at hw ⊢
      exact ⟨fun q => absurd q (by omega), fun _ => ih (k + 1) (by omega) hw m3 (hG.tr h2)⟩
    · rw [if_neg hh] at hw ⊢
      exact ⟨fun _ => by rw [hw]; exact hQ m3 ((hG.tr h2).le (by omega)), fun q => absurd rfl q⟩
theorem c_X10_worst {d : Nat} {w : Int} (hwi : inR w) (hP : pv m0.1 = P) (hW : zWf P) (hWi : zWish P) (hC : zCame m0) (hB : m0.1 98 18 ≤ 1999999990) : zCt K (d + 6) mX10_worst [rr K 98, .int (iz w)] m0 (fun r m1 => r = (if 0 ≤ w ∧ w < P 98 10 then zworst P w.toNat 9 0 else -1) ∧ zGo 9 m0 m1) := by
  have hcn := hWi.1
  have e10 : m0.1 98 10 = P 98 10 := pv_f hP (by omega)
  refine zCt.of (by decide) (Nat.le_of_ble_eq_true rfl) (vc_X10_worst_0 (d := d) w m0 hwi (fun hm => ?_))
  rw [e10]
  refine ⟨inR_b (A := 10) (by omega) (by omega) rfl, fun q => ?_, fun q => ⟨by rw [if_neg (by omega)], (zGo.rf hC).le (by omega)⟩⟩
  have hw : ((w.toNat : Nat) : Int) = w := by omega
  rw [if_pos (by omega)]
  have main := t_worst_18 (K := K) (d := d) (i := w.toNat) (Q := fun r m1 => r = zworst P w.toNat 9 0 ∧ zGo 9 m0 m1) hP hW hWi hB (by omega) (zworst P w.toNat 9 0) (fun m' h => ⟨rfl, h⟩) 9 0 (by omega) rfl m0 (zGo.rf hC)
  rw [hw] at main
  exact main
end MM
