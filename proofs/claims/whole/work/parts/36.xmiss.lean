/-! ===== the class: holding, missing, allMet, firstMiss ===== -/
def zXS (a _k : Int) : Prop := (39 ≤ a ∧ a ≤ 51) ∨ a = 86
/-- a plan of the class holds P, wishes and all -/
def RQ (m : zM) (pl : Int) (P : F2) : Prop := RP m pl P ∧ RW m (pl + 6) P
theorem RQ.kept {m m' : zM} {pl : Int} {P : F2} (hW : zWf P) (h : RQ m pl P) (hf : ∀ a k, pl ≤ a → a ≤ pl + 18 → m'.1 a k = m.1 a k) : RQ m' pl P :=
  ⟨h.1.kept hf hW.2.2.2.1.2, h.2.kept (fun a k x y => hf a k (by omega) (by omega))⟩
theorem RQ.fl {m m' : zM} {pl : Int} {P : F2} (hW : zWf P) (hpl : zPl pl) (h : RQ m pl P) (hf : zFl zXS m m') : RQ m' pl P := h.kept hW (fun a k x y => hf.1 a k (by have := zPl_r hpl; unfold zXS; omega))
section XM
variable {K : zCx} {P : F2} {c : Int} {m0 : zM}
theorem t_holding_41 {d : Nat} {Q : Int → zM → Prop} {pl : Int} (hpl : zPl pl) (hW : zWf P) (hc : 0 ≤ c ∧ c ≤ 8) (hWi : zWish P) (hR : RQ m0 pl P) (hX : zXd P c m0) (hQ : ∀ m', zFr zS86 m0 m' → Q (zheld P c) m') :
    ∀ (n k : Nat), k + n = (P 98 10).toNat → ∀ m : zM, zFr zS86 m0 m → zV K mX7_holding (d + 5) 41 [(0, rr K 64), (1, rr K pl), (3, .int (iz (zbs (zhs P c) k))), (4, .int (iz (k : Int)))] [] m Q := by
  have hcn := hWi.1
  have hplr := zPl_r hpl
  intro n
  induction n with
  | zero =>
    intro k hk m hF
    have e10 : m.1 (pl + 6) 2 = P 98 10 := by rw [hF.1 _ _ (by unfold zS86; omega)]; exact hR.2.1
    have hb := zbs_nn (zhs P c) (n := k) (by omega)
    refine vc_X7_holding_41 _ k pl m (inR_b (A := 256) (by omega) (by omega) rfl) (inR_b (A := 10) (by omega) (by omega) rfl) hpl (fun _ => ⟨fun _ => ?_, fun q => absurd (by omega) q⟩)
    have hq := hQ m hF
    unfold zheld at hq
    have : (P 98 10).toNat = k := by omega
    rw [this] at hq
    exact hq
  | succ n ih =>
    intro k hk m hF
    have e10 : m.1 (pl + 6) 2 = P 98 10 := by rw [hF.1 _ _ (by unfold zS86; omega)]; exact hR.2.1
    have hb := zbs_nn (zhs P c) (n := k) (by omega)
    have hRm : RQ m pl P := hR.kept hW (fun a k x y => hF.1 _ _ (by unfold zS86; omega))
    refine vc_X7_holding_41 _ k pl m (inR_b (A := 256) (by omega) (by omega) rfl) (inR_b (A := 10) (by omega) (by omega) rfl) hpl (fun _ => ⟨fun q => absurd q (by omega), fun _ => ?_⟩)
    refine (c_X7_isTrue (d := d + 1) (i := k) (zPl_wi hpl) hW hc hWi (by omega) hRm.2 (hX.kept hF)).mono (fun r m3 h => ?_)
    obtain ⟨h1, h2⟩ := h
    intro _ _ v4 e4
    have hv : v4 = zbs (zhs P c) (k + 1) := by
      rw [e4, ← zbs_succ (zhs P c) (k := k) (by omega), h1]
      cases hh : zhs P c k with
      | true => simp [b2i]
      | false =>
        have hz := zor_256 ⟨_, zbN_256 (zhs P c) (n := k) (by omega)⟩ ⟨0, by decide⟩
        have hz2 : zor (zbs (zhs P c) k) 0 = zbs (zhs P c) k := by unfold zbs; rw [show (0 : Int) = ((0 : Nat) : Int) from rfl, hz]; simp
        simp [b2i, hz2]
    rw [hv]
    exact ih (k + 1) (by omega) m3 (hF.tr h2)
/-- holding(plan, corner) -/
theorem c_X7_holding {d : Nat} {pl : Int} (hpl : zPl pl) (hW : zWf P) (hc : 0 ≤ c ∧ c ≤ 8) (hWi : zWish P) (hR : RQ m0 pl P) : zCt K (d + 5) mX7_holding [rr K 64, rr K pl, .int (iz c)] m0 (fun r m1 => r = zheld P c ∧ zFl zXS m0 m1) := by
  have hcn := hWi.1
  have hplr := zPl_r hpl
  refine zCt.of (by decide) (Nat.le_of_ble_eq_true rfl) (vc_X7_holding_0 (d := d) pl c m0 hpl (inR_b (A := 10) (by omega) (by omega) rfl) (fun _ => ?_))
  rw [hR.2.1, hR.1.1]
  refine ⟨fun q => ⟨?_, zFl.rf⟩, fun _ => ?_⟩
  · unfold zheld
    rw [q]
    rfl
  · refine (c_X1_setUp (d := d) hpl hW hR.1 hc hW.1).mono (fun _ m3 h => ?_)
    obtain ⟨-, f3, b3, l0, l1⟩ := h
    intro _ _
    have hR3 : RQ m3 pl P := hR.kept hW (fun a k x y => f3.1 _ _ (by unfold zBS; omega))
    rw [hR3.1.2.1]
    refine (c_X1_walk (d := d + 1) hW b3 hc l0 l1).mono (fun _ m5 h => ?_)
    obtain ⟨-, w1, w2, w3, w4, w5, w6, w7⟩ := h
    intro _ _
    have hR5 : RQ m5 pl P := hR3.kept hW (fun a k x y => w1.1 _ _ (by unfold zBS; omega))
    exact t_holding_41 hpl hW hc hWi hR5 ⟨w3, w4, w6, w7⟩ (fun m' h => ⟨rfl, ((f3.tr w1).mono (fun a k z => Or.inl z)).tr (h.l.mono (fun a k z => Or.inr z))⟩) (P 98 10).toNat 0 (by omega) m5 zFr.rf
theorem zall_eq (hWi : zWish P) : zshl 1 (P 98 10) - 1 = zbs (fun _ => true) (P 98 10).toNat := by
  have hcn := hWi.1
  have hs := zshl_8 ⟨(P 98 10).toNat, by omega⟩
  have e2 : ((P 98 10).toNat : Int) = P 98 10 := by omega
  have hs2 : zshl 1 (P 98 10) = ((2 ^ (P 98 10).toNat : Nat) : Int) := by rw [← e2]; exact hs
  rw [hs2, ← zbs_all]
theorem c_X8_all {d : Nat} {w : Int} (hw : zWi w) (hWi : zWish P) (he : m0.1 w 2 = P 98 10) : zCt K (d + 1) mX8_all [rr K w] m0 (fun r m1 => r = zbs (fun _ => true) (P 98 10).toNat ∧ m1 = m0) := by
  have hcn := hWi.1
  have hb := zbs_nn (fun _ => true) (n := (P 98 10).toNat) (by omega)
  refine zCt.of (by decide) (Nat.le_of_ble_eq_true rfl) (vc_X8_all_0 (d := d) w m0 hw (fun _ => ?_))
  rw [he, zall_eq hWi]
  exact ⟨inR_b (A := 256) (by omega) (by omega) rfl, rfl, rfl⟩
theorem zmetN_anti {P : F2} {i k : Nat} : ∀ n, zmetN P (k + n) i = true → zmetN P k i = true := by
  intro n
  induction n with
  | zero => exact fun h => h
  | succ n ih =>
    intro h
    have h2 : (zmetN P (k + n) i && zhs P ((k + n : Nat) : Int) i) = true := h
    exact ih ((Bool.and_eq_true _ _).mp h2).1
theorem t_missing_4 {d : Nat} {Q : Int → zM → Prop} {pl : Int} (hpl : zPl pl) (hW : zWf P) (hWi : zWish P) (hR : RQ m0 pl P) (hQ : ∀ m', zFl zXS m0 m' → Q (zmiss P) m') :
    ∀ (n k : Nat), k + n = 9 → ∀ m : zM, zFl zXS m0 m → zV K mX7_missing (d + 6) 4 [(0, rr K 64), (1, rr K pl), (2, .int (iz (zbs (fun i => !zmetN P k i) (P 98 10).toNat))), (3, .int (iz (k : Int)))] [] m Q := by
  have hcn := hWi.1
  have hn8 : (P 98 10).toNat ≤ 8 := by omega
  intro n
  induction n with
  | zero =>
    intro k hk m hF
    have hk9 : k = 9 := by omega
    subst hk9
    have hb := zbs_nn (fun i => !zmetN P 9 i) hn8
    refine vc_X7_missing_4 _ _ pl m (inR_b (A := 256) (by omega) (by omega) rfl) (inR_b (A := 10) (by omega) (by omega) rfl) hpl (fun _ => ⟨fun _ => hQ m hF, fun q => absurd (by omega) q⟩)
  | succ n ih =>
    intro k hk m hF
    have hRm := hR.fl hW hpl hF
    have hb := zbs_nn (fun i => !zmetN P k i) hn8
    refine vc_X7_missing_4 _ _ pl m (inR_b (A := 256) (by omega) (by omega) rfl) (inR_b (A := 10) (by omega) (by omega) rfl) hpl (fun _ => ⟨fun q => absurd q (by omega), fun _ => ?_⟩)
    refine (c_X8_all (d := d + 4) (zPl_wi hpl) hWi hRm.2.1).mono (fun r m3 h => ?_)
    obtain ⟨h1, h2⟩ := h
    subst h2
    intro _ _
    rw [h1]
    refine ⟨fun q => ?_, fun _ => ?_⟩
    · have hall : ∀ i, i < (P 98 10).toNat → zmetN P k i = false := fun i hi => by
        have := zbs_inj q i hi
        simpa using this
      have : zbs (fun i => !zmetN P k i) (P 98 10).toNat = zmiss P := zbs_congr (fun i hi => by
        have h9 : zmet P i = false := by
          cases hm : zmet P i with
          | false => rfl
          | true =>
            have hm : zmetN P 9 i = true := hm
            rw [show 9 = k + (9 - k) by omega] at hm
            exact absurd (zmetN_anti (9 - k) hm) (by rw [hall i hi]; decide)
        rw [hall i hi, h9])
      rw [this]
      exact hQ m3 hF
    · refine (c_X8_all (d := d + 4) (zPl_wi hpl) hWi hRm.2.1).mono (fun r5 m6 h => ?_)
      obtain ⟨g1, g2⟩ := h
      subst g2
      intro _ _
      refine (c_X7_holding (d := d) (c := (k : Int)) hpl hW ⟨by omega, by omega⟩ hWi hRm).mono (fun r7 m8 h => ?_)
      obtain ⟨k1, k2⟩ := h
      intro _ _ v9 e9
      have hv : v9 = zbs (fun i => !zmetN P (k + 1) i) (P 98 10).toNat := by
        rw [e9, g1, k1]
        unfold zheld
        rw [zbs_andn _ _ hn8, zbs_or _ _ hn8]
        exact zbs_congr (fun i _ => by
          show (!zmetN P k i || (true && !zhs P (k : Int) i)) = !(zmetN P k i && zhs P (k : Int) i)
          cases zmetN P k i <;> cases zhs P (k : Int) i <;> rfl)
      rw [hv]
      exact ih (k + 1) (by omega) m8 (hF.tr k2)
/-- missing(plan) -/
theorem c_X7_missing {d : Nat} {pl : Int} (hpl : zPl pl) (hW : zWf P) (hWi : zWish P) (hR : RQ m0 pl P) : zCt K (d + 6) mX7_missing [rr K 64, rr K pl] m0 (fun r m1 => r = zmiss P ∧ zFl zXS m0 m1) := by
  refine zCt.of (by decide) (Nat.le_of_ble_eq_true rfl) (vc_X7_missing_0 (d := d) pl m0 hpl (fun _ => ?_))
  have h := t_missing_4 (K := K) (d := d) (Q := fun r m1 => r = zmiss P ∧ zFl zXS m0 m1) hpl hW hWi hR (fun m' h => ⟨rfl, h⟩) 9 0 (by omega) m0 zFl.rf
  have e : zbs (fun i => !zmetN P 0 i) (P 98 10).toNat = 0 := zbs_zero.mpr (fun i _ => rfl)
  rw [e] at h
  exact h
theorem t_allMet_2 {d : Nat} {Q : Int → zM → Prop} {pl : Int} (hpl : zPl pl) (hW : zWf P) (hWi : zWish P) (hR : RQ m0 pl P) (hQ : ∀ m', zFl zXS m0 m' → Q (b2i (decide (zmiss P = 0))) m') :
    ∀ (n k : Nat), k + n = 9 → (∀ i, i < (P 98 10).toNat → zmetN P k i = true) → ∀ m : zM, zFl zXS m0 m → zV K mX7_allMet (d + 6) 2 [(0, rr K 64), (1, rr K pl), (2, .int (iz (k : Int)))] [] m Q := by
  have hcn := hWi.1
  have hn8 : (P 98 10).toNat ≤ 8 := by omega
  intro n
  induction n with
  | zero =>
    intro k hk hall m hF
    have hk9 : k = 9 := by omega
    subst hk9
    refine vc_X7_allMet_2 _ pl m (inR_b (A := 10) (by omega) (by omega) rfl) hpl (fun _ => ⟨fun _ => ?_, fun q => absurd (by omega) q⟩)
    have hq := hQ m hF
    have hz : zmiss P = 0 := zbs_zero.mpr (fun i hi => by show (!zmetN P 9 i) = false; rw [hall i hi]; rfl)
    rw [b2i_p hz] at hq
    exact hq
  | succ n ih =>
    intro k hk hall m hF
    have hRm := hR.fl hW hpl hF
    refine vc_X7_allMet_2 _ pl m (inR_b (A := 10) (by omega) (by omega) rfl) hpl (fun _ => ⟨fun q => absurd q (by omega), fun _ => ?_⟩)
    refine (c_X7_holding (d := d) (c := (k : Int)) hpl hW ⟨by omega, by omega⟩ hWi hRm).mono (fun r7 m8 h => ?_)
    obtain ⟨k1, k2⟩ := h
    intro _ _
    have hF8 := hF.tr k2
    have hR8 := hR.fl hW hpl hF8
    refine (c_X8_all (d := d + 4) (zPl_wi hpl) hWi hR8.2.1).mono (fun r m9 h => ?_)
    obtain ⟨h1, h2⟩ := h
    subst h2
    intro _ _
    rw [k1, h1]
    unfold zheld
    refine ⟨fun q => ?_, fun q => ?_⟩
    · have hh : ∀ i, i < (P 98 10).toNat → zhs P (k : Int) i = true := fun i hi => zbs_inj q i hi
      exact ih (k + 1) (by omega) (fun i hi => by show (zmetN P k i && zhs P (k : Int) i) = true; rw [hall i hi, hh i hi]; rfl) m9 hF8
    · have hq := hQ m9 hF8
      have hz : ¬ zmiss P = 0 := fun hz => q (zbs_congr (fun i hi => by
        have h9 : (!zmetN P 9 i) = false := zbs_zero.mp hz i hi
        have h9 : zmetN P 9 i = true := by simpa using h9
        rw [show 9 = (k + 1) + (8 - k) by omega] at h9
        have h10 : (zmetN P k i && zhs P (k : Int) i) = true := zmetN_anti (8 - k) h9
        exact ((Bool.and_eq_true _ _).mp h10).2))
      rw [b2i_n hz] at hq
      exact hq
/-- allMet(plan) -/
theorem c_X7_allMet {d : Nat} {pl : Int} (hpl : zPl pl) (hW : zWf P) (hWi : zWish P) (hR : RQ m0 pl P) : zCt K (d + 6) mX7_allMet [rr K 64, rr K pl] m0 (fun r m1 => r = b2i (decide (zmiss P = 0)) ∧ zFl zXS m0 m1) :=
  zCt.of (by decide) (Nat.le_of_ble_eq_true rfl) (vc_X7_allMet_0 (d := d) pl m0 hpl (fun _ => t_allMet_2 hpl hW hWi hR (fun _ h => ⟨rfl, h⟩) 9 0 (by omega) (fun _ _ => rfl) m0 zFl.rf))
theorem t_firstMiss_2 {d : Nat} {Q : Int → zM → Prop} {pl : Int} {i : Nat} (hpl : zPl pl) (hW : zWf P) (hWi : zWish P) (hi : (i : Int) < P 98 10) (hR : RQ m0 pl P) (W : Int) (hQ : ∀ m', zFl zXS m0 m' → Q (if W = -3 then -1 else W) m') :
    ∀ (n k : Nat), k + n = 9 → zworst P i n k = W → ∀ m : zM, zFl zXS m0 m → zV K mX7_firstMiss (d + 6) 2 [(0, rr K 64), (1, rr K pl), (2, .int (iz (i : Int))), (3, .int (iz (k : Int)))] [] m Q := by
  have hcn := hWi.1
  have hn8 : (P 98 10).toNat ≤ 8 := by omega
  intro n
  induction n with
  | zero =>
    intro k hk hw m hF
    refine vc_X7_firstMiss_2 _ _ pl m (inR_b (A := 10) (by omega) (by omega) rfl) (inR_b (A := 10) (by omega) (by omega) rfl) hpl (fun _ => ⟨fun _ => ?_, fun q => absurd (by omega) q⟩)
    have : W = -3 := hw.symm
    have hq := hQ m hF
    rw [if_pos this] at hq
    exact hq
  | succ n ih =>
    intro k hk hw m hF
    have hRm := hR.fl hW hpl hF
    refine vc_X7_firstMiss_2 _ _ pl m (inR_b (A := 10) (by omega) (by omega) rfl) (inR_b (A := 10) (by omega) (by omega) rfl) hpl (fun _ => ⟨fun q => absurd q (by omega), fun _ => ?_⟩)
    refine (c_X7_holding (d := d) (c := (k : Int)) hpl hW ⟨by omega, by omega⟩ hWi hRm).mono (fun r m3 h => ?_)
    obtain ⟨h1, h2⟩ := h
    intro _ _
    rw [h1]
    unfold zheld
    rw [zbs_get (zhs P (k : Int)) hn8 (by omega)]
    unfold zworst at hw
    by_cases hh : zhs P (k : Int) i = true
    · rw [if_pos hh] at hw ⊢
      exact ⟨fun q => absurd q (by omega), fun _ => ih (k + 1) (by omega) hw m3 (hF.tr h2)⟩
    · rw [if_neg hh] at hw ⊢
      have hq := hQ m3 (hF.tr h2)
      rw [if_neg (by omega)] at hq
      exact ⟨fun _ => by rw [hw]; exact hq, fun q => absurd rfl q⟩
/-- firstMiss(plan, wish) -/
theorem c_X7_firstMiss {d : Nat} {pl : Int} {i : Nat} (hpl : zPl pl) (hW : zWf P) (hWi : zWish P) (hi : (i : Int) < P 98 10) (hR : RQ m0 pl P) : zCt K (d + 6) mX7_firstMiss [rr K 64, rr K pl, .int (iz (i : Int))] m0 (fun r m1 => r = (if zworst P i 9 0 = -3 then -1 else zworst P i 9 0) ∧ zFl zXS m0 m1) := by
  have hcn := hWi.1
  exact zCt.of (by decide) (Nat.le_of_ble_eq_true rfl) (vc_X7_firstMiss_0 (d := d) pl i m0 hpl (inR_b (A := 10) (by omega) (by omega) rfl) (fun _ => t_firstMiss_2 hpl hW hWi hi hR (zworst P i 9 0) (fun _ h => ⟨rfl, h⟩) 9 0 (by omega) rfl m0 zFl.rf))
end XM
