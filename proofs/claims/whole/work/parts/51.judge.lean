/-! ===== judge() ===== -/
def zntA (x : Int) : Int :=
  let v1 := zand (zxor x (-1)) (x - 1)
  let v4 := if v1 ≤ 65536 then 1 else (1 + 16)
  let v6 := if v1 ≤ 65536 then v1 else (zushr v1 16)
  let v8 := if v6 ≤ 256 then v4 else (v4 + 8)
  let v10 := if v6 ≤ 256 then v6 else (zushr v6 8)
  let v12 := if v10 ≤ 16 then v8 else (v8 + 4)
  let v14 := if v10 ≤ 16 then v10 else (zushr v10 4)
  let v16 := if v14 ≤ 4 then v12 else (v12 + 2)
  let v18 := if v14 ≤ 4 then v14 else (zushr v14 2)
  v16 + (zushr v18 1)
def zntz (x : Int) : Int := if 0 < zand (zxor x (-1)) (x - 1) then zntA x else zand (zand (zxor x (-1)) (x - 1)) 32
theorem zntz_ok : ∀ x : Fin 256, x.val ≠ 0 → (0 ≤ zntz (x.val : Int) ∧ zntz (x.val : Int) < 8) ∧ x.val.testBit (zntz (x.val : Int)).toNat = true ∧ ∀ i : Fin 8, i.val < (zntz (x.val : Int)).toNat → x.val.testBit i.val = false := by decide +kernel
theorem pfNtz : plainFor mJ6_numberOfTrailingZeros_0f7a4.1 = true := by decide +kernel
theorem pfBc : plainFor mJ6_bitCount_0f7a4.1 = true := by decide +kernel
def zfi (f : Nat → Bool) : Nat → Nat → Int
  | 0, _ => 0
  | k + 1, i => if f i = true then 20 + (i : Int) else zfi f k (i + 1)
theorem zfi_at {f : Nat → Bool} : ∀ (k i t : Nat), i ≤ t → t < i + k → f t = true → (∀ j, i ≤ j → j < t → f j = false) → zfi f k i = 20 + (t : Int) := by
  intro k
  induction k with
  | zero => intro i t a b; omega
  | succ k ih =>
    intro i t a b ht hj
    unfold zfi
    by_cases e : i = t
    · subst e; rw [if_pos ht]
    · rw [if_neg (by rw [hj i (Nat.le_refl _) (by omega)]; decide)]
      exact ih (i + 1) t (by omega) (by omega) ht (fun j x y => hj j (by omega) y)
theorem zfi_0 {f : Nat → Bool} : ∀ (k i : Nat), (∀ j, i ≤ j → j < i + k → f j = false) → zfi f k i = 0 := by
  intro k
  induction k with
  | zero => intro i _; rfl
  | succ k ih =>
    intro i hj
    unfold zfi
    rw [if_neg (by rw [hj i (Nat.le_refl _) (by omega)]; decide)]
    exact ih (i + 1) (fun j x y => hj j (by omega) (by omega))
noncomputable def zjf (Y : F2) : Int := zfi (fun i => !zmet Y i) (Y 98 10).toNat 0
noncomputable def zjl (P : F2) (rp rs : Nat → Int) (N : Nat) : Nat → Nat → Int
  | 0, _ => if N < zoc P then 11 else zjf (zRw P rs)
  | k + 1, i => if i < zoc P ∧ rp i = zop P i ∧ zfm P i ≤ rs i ∧ rs i ≤ zto P i then zjl P rp rs N k (i + 1) else (i : Int) + 1
section XJ
variable {K : zCx} {P : F2} {m0 : zM} {rp rs : Nat → Int} {N : Nat}
theorem c_J6_ntz {d : Nat} {x : Int} (hx : 1 ≤ x ∧ x ≤ 255) : zCt K (d + 1) mJ6_numberOfTrailingZeros_0f7a4 [.int (iz x)] m0 (fun r m1 => r = zntz x ∧ m1 = m0) := by
  have hb := zntz_ok ⟨x.toNat, by omega⟩ (by show x.toNat ≠ 0; omega)
  have ex : ((x.toNat : Nat) : Int) = x := by omega
  have hr : 0 ≤ zntz x ∧ zntz x < 8 := by
    have := hb.1
    rw [show ((⟨x.toNat, by omega⟩ : Fin 256).val : Int) = x from ex] at this
    exact this
  refine zCt.ofF pfNtz (Nat.le_of_ble_eq_true rfl) (vc_J6_numberOfTrailingZeros_0f7a4_0 (d := d) x m0 (inR_b (A := 1000) (by omega) (by omega) rfl) (fun _ v1 e1 => ?_))
  subst e1
  refine ⟨fun z v4 e4 v6 e6 v8 e8 v10 e10 v12 e12 v14 e14 v16 e16 v18 e18 => ?_, fun z => ⟨(if_neg z).symm, rfl⟩⟩
  have e : v16 + zushr v18 1 = zntz x := by
    unfold zntz
    rw [if_pos z]
    subst e4 e6 e8 e10 e12 e14 e16 e18
    rfl
  rw [e]
  exact ⟨inR_b (A := 1000) (by omega) (by omega) rfl, rfl, rfl⟩
theorem zjf_ntz {Y : F2} (hWi : zWish Y) (h : ¬ zmiss Y = 0) : 1 ≤ zmiss Y ∧ zmiss Y ≤ 255 ∧ zjf Y = 20 + zntz (zmiss Y) := by
  have hn := hWi.1
  have hlt := zbN_256 (fun i => !zmet Y i) (n := (Y 98 10).toNat) (by omega)
  have ez : zmiss Y = ((zbN (fun i => !zmet Y i) (Y 98 10).toNat : Nat) : Int) := rfl
  have h1 : 1 ≤ zmiss Y ∧ zmiss Y ≤ 255 := by omega
  have hb := zntz_ok ⟨zbN (fun i => !zmet Y i) (Y 98 10).toNat, hlt⟩ (by show zbN (fun i => !zmet Y i) (Y 98 10).toNat ≠ 0; omega)
  obtain ⟨b1, b2, b3⟩ := hb
  have b1 : 0 ≤ zntz (zmiss Y) ∧ zntz (zmiss Y) < 8 := b1
  have b2 : (zbN (fun i => !zmet Y i) (Y 98 10).toNat).testBit (zntz (zmiss Y)).toNat = true := b2
  have b3 : ∀ i : Fin 8, i.val < (zntz (zmiss Y)).toNat → (zbN (fun i => !zmet Y i) (Y 98 10).toNat).testBit i.val = false := b3
  rw [zbN_bit, Bool.and_eq_true] at b2
  have b4 := of_decide_eq_true b2.1
  refine ⟨h1.1, h1.2, ?_⟩
  unfold zjf
  rw [zfi_at (Y 98 10).toNat 0 (zntz (zmiss Y)).toNat (by omega) (by omega) b2.2 (fun j _ hj => ?_)]
  · omega
  · have := b3 ⟨j, by omega⟩ hj
    rw [zbN_bit] at this
    have hd : decide (j < (Y 98 10).toNat) = true := decide_eq_true (by omega)
    have this : (decide (j < (Y 98 10).toNat) && (fun i => !zmet Y i) j) = false := this
    rw [hd, Bool.true_and] at this
    exact this
theorem zjf_0 {Y : F2} (h : zmiss Y = 0) : zjf Y = 0 := by
  have := (zbs_zero (f := fun i => !zmet Y i) (n := (Y 98 10).toNat)).mp h
  exact zfi_0 _ _ (fun j _ hj => this j (by omega))
theorem zjl_s (k i : Nat) : zjl P rp rs N (k + 1) i = if i < zoc P ∧ rp i = zop P i ∧ zfm P i ≤ rs i ∧ rs i ≤ zto P i then zjl P rp rs N k (i + 1) else (i : Int) + 1 := rfl
theorem c_X7_missingWith {d : Nat} (hW : zWf P) (hWi : zWish P) (hO : zoc P ≤ 4) (hR : RQ m0 1 P) (h2 : m0.1 64 3 = (zoc P : Int)) (h65 : ∀ j : Nat, j < zoc P → m0.1 65 j = zop P j) (h97 : ∀ j : Nat, j < zoc P → m0.1 97 j = rs j) (hrs : ∀ j : Nat, j < zoc P → 1 ≤ rs j ∧ rs j ≤ 9) :
    zCt K (d + 7) mX7_missingWith [rr K 64, rr K 1, rr K 97] m0 (fun r m1 => r = zmiss (zRw P rs) ∧ zFl zXX m0 m1) := by
  have hpl : zPl 1 := Or.inl rfl
  have hpl67 : zPl 67 := Or.inr (Or.inr rfl)
  have h4 := hW.2.2.2.1
  refine zCt.of (by decide) (Nat.le_of_ble_eq_true rfl) (vc_X7_missingWith_0 (d := d) 1 97 4 m0 hpl rfl (fun _ => ?_))
  refine (c_X4_copyFrom (d := d + 3) hpl67 hpl (by decide) hW hWi hR).mono (fun r1 m2 h => ?_)
  obtain ⟨-, f2, hT2⟩ := h
  intro _ _
  have n2 : ∀ a k, ¬ (67 ≤ a ∧ a ≤ 85) → m2.1 a k = m0.1 a k := fun a k q => f2.1 a k (fun z => q (by omega))
  have hW' : zWf (zRw P rs) := zRw_wf hW hrs
  have loop : ∀ (n k : Nat), k + n = zoc P → ∀ m, zFr (fun a _ => 67 ≤ a ∧ a ≤ 85) m2 m → RQ m 67 (zRw P (fun i => if i < k then rs i else zp P (zop P i) 3)) → zV K mX7_missingWith (d + 7) 10 [(0, rr K 64), (2, rr K 97), (3, .int (iz (k : Int)))] [] m (fun r m1 => r = zmiss (zRw P rs) ∧ zFl zXX m0 m1) := by
    intro n
    induction n with
    | zero =>
      intro k hk m hF hT
      have nn : ∀ a k, ¬ (67 ≤ a ∧ a ≤ 85) → m.1 a k = m0.1 a k := fun a k q => by rw [hF.1 a k q, n2 a k q]
      have e2 : m.1 64 3 = (zoc P : Int) := by rw [nn _ _ (by omega)]; exact h2
      have eR : zRw P (fun i => if i < k then rs i else zp P (zop P i) 3) = zRw P rs := zRw_congr (fun i hi => if_pos (by omega))
      rw [eR] at hT
      refine vc_X7_missingWith_10 _ 1 97 4 m (inR_b (A := 1000) (by omega) (by omega) rfl) hpl rfl (fun _ => ⟨fun _ => ?_, fun q => absurd (by omega) q⟩)
      refine (c_X7_missing (d := d) hpl67 hW' (zRw_wish hWi) hT).mono (fun r m1 h _ _ => ⟨h.1, ?_⟩)
      exact ((f2.tr hF).l.mono (fun a k q => by unfold zXX; omega)).tr (h.2.mono zXS_XX)
    | succ n ih =>
      intro k hk m hF hT
      have nn : ∀ a k, ¬ (67 ≤ a ∧ a ≤ 85) → m.1 a k = m0.1 a k := fun a k q => by rw [hF.1 a k q, n2 a k q]
      have e2 : m.1 64 3 = (zoc P : Int) := by rw [nn _ _ (by omega)]; exact h2
      have e65 : m.1 65 (k : Int) = zop P k := by rw [nn _ _ (by omega)]; exact h65 k (by omega)
      have e97 : m.1 97 (k : Int) = rs k := by rw [nn _ _ (by omega)]; exact h97 k (by omega)
      have hp := zop_r hW (show k < zoc P by omega)
      refine vc_X7_missingWith_10 _ 1 97 4 m (inR_b (A := 1000) (by omega) (by omega) rfl) hpl rfl (fun _ => ⟨fun q => absurd q (by omega), fun _ => ⟨inRd rfl, fun q => absurd q (by omega), fun _ => ⟨by omega, by omega, ?_⟩⟩⟩)
      rw [e65, e97, show (76 + zop P k : Int) = 67 + 9 + zop P k by omega]
      refine ⟨by omega, by omega, by omega, by omega, fun m14 e14 _ => ?_⟩
      have hT14 := hT.pt (p := zop P k) (k := 3) (v := rs k) (by omega) (by omega) e14
      rw [zRw_up hW (by omega)] at hT14
      have eR : zRw P (fun i => if i = k then rs k else if i < k then rs i else zp P (zop P i) 3) = zRw P (fun i => if i < k + 1 then rs i else zp P (zop P i) 3) := by
        refine zRw_congr (fun i hi => ?_)
        by_cases y1 : i = k
        · rw [if_pos y1, if_pos (by omega), y1]
        · by_cases y3 : i < k
          · rw [if_neg y1, if_pos y3, if_pos (by omega)]
          · rw [if_neg y1, if_neg y3, if_neg (by omega)]
      rw [eR] at hT14
      exact ih (k + 1) (by omega) m14 (hF.put e14 (by omega)) hT14
  refine loop (zoc P) 0 (by omega) m2 zFr.rf ?_
  rw [zRw_id hW (fun i hi => if_neg (Nat.not_lt_zero _))]
  exact hT2
theorem c_X9_judge {d : Nat} (hW : zWf P) (hWi : zWish P) (hO : zoc P ≤ 4) (hR : RQ m0 1 P) (hN : N ≤ 4) (h10 : m0.1 0 10 = (N : Int)) (hrow : ∀ j : Nat, j < N → m0.1 96 j = rp j ∧ m0.1 97 j = rs j) :
    zCt K (d + 8) mX9_judge [rr K 0] m0 (fun r m1 => r = zjl P rp rs N N 0 ∧ zFl zXX m0 m1) := by
  have hpl : zPl 1 := Or.inl rfl
  have h4 := hW.2.2.2.1
  refine zCt.of (by decide) (Nat.le_of_ble_eq_true rfl) (vc_X9_judge_0 (d := d) m0 (fun hz0 => ?_))
  refine (c_X7_listOpen (d := d + 5) hW hR hO).mono (fun r1 m2 h => ?_)
  obtain ⟨-, f2, h2, h65⟩ := h
  intro _ hz2
  have n2 : ∀ a k, ¬ zSl a k → m2.1 a k = m0.1 a k := fun a k q => f2.1 a k q
  have hF2 : zFl zXX m0 m2 := f2.l.mono (fun a k q => by unfold zSl at q; unfold zXX; omega)
  have hR2 := hR.xx hW (Or.inl rfl) hF2
  have e10 : m2.1 0 10 = (N : Int) := by rw [n2 _ _ (by unfold zSl; omega)]; exact h10
  have hrow2 : ∀ j : Nat, j < N → m2.1 96 j = rp j ∧ m2.1 97 j = rs j := fun j hj => by rw [n2 _ _ (by unfold zSl; omega), n2 _ _ (by unfold zSl; omega)]; exact hrow j hj
  have loop : ∀ (n k : Nat), k + n = N → (∀ j : Nat, j < k → j < zoc P ∧ zfm P j ≤ rs j ∧ rs j ≤ zto P j) → zV K mX9_judge (d + 8) 13 [(0, rr K 0), (1, .int (iz (k : Int)))] [] m2 (fun r m1 => r = zjl P rp rs N n k ∧ zFl zXX m0 m1) := by
    intro n
    induction n with
    | zero =>
      intro k hk hj
      refine vc_X9_judge_13 _ m2 (inR_b (A := 1000) (by omega) (by omega) rfl) (fun _ => ⟨fun _ => ?_, fun q => absurd (by omega) q⟩)
      have ej : zjl P rp rs N 0 k = if N < zoc P then 11 else zjf (zRw P rs) := rfl
      rw [h2, e10, ej]
      refine ⟨fun z => ?_, fun z => ⟨(if_pos (by omega)).symm, hF2⟩⟩
      rw [if_neg (show ¬ N < zoc P by omega)]
      have hrs : ∀ j : Nat, j < zoc P → 1 ≤ rs j ∧ rs j ≤ 9 := fun j hj' => by have h1 := hj j (by omega); have h3 := zwd_r hW h1.1; omega
      refine (c_X7_missingWith (d := d) (rs := rs) hW hWi hO hR2 h2 h65 (fun j hj' => (hrow2 j (by omega)).2) hrs).mono (fun r3 m4 h => ?_)
      obtain ⟨hr3, f4⟩ := h
      intro _ _
      refine ⟨fun z3 => ⟨(zjf_0 (by rw [← hr3]; exact z3)).symm, hF2.tr f4⟩, fun z3 => ?_⟩
      have hq := zjf_ntz (zRw_wish (w := rs) hWi) (by rw [← hr3]; exact z3)
      rw [hr3]
      have hb := zntz_ok ⟨(zmiss (zRw P rs)).toNat, by omega⟩ (by show (zmiss (zRw P rs)).toNat ≠ 0; omega)
      have hb1 := hb.1
      rw [show ((⟨(zmiss (zRw P rs)).toNat, by omega⟩ : Fin 256).val : Int) = zmiss (zRw P rs) by show ((zmiss (zRw P rs)).toNat : Int) = _; omega] at hb1
      refine (c_J6_ntz (d := d + 6) ⟨hq.1, hq.2.1⟩).mono (fun r6 m7 h => ?_)
      obtain ⟨hr6, hm7⟩ := h
      subst hm7
      intro _ _
      rw [hr6]
      exact ⟨inR_b (A := 1000) (by omega) (by omega) rfl, hq.2.2.symm, hF2.tr f4⟩
    | succ n ih =>
      intro k hk hj
      have hrk := hrow2 k (by omega)
      refine vc_X9_judge_13 _ m2 (inR_b (A := 1000) (by omega) (by omega) rfl) (fun _ => ⟨fun q => absurd q (by omega), fun _ => ⟨by omega, by omega, ?_⟩⟩)
      rw [zjl_s]
      refine (zCt.of (by decide) (Nat.le_of_ble_eq_true rfl) (vc_X7_isRight_0 (d := d + 5) 1 (k : Int) (m2.1 96 (k : Int)) (m2.1 97 (k : Int)) m2 hpl (inR_b (A := 1000) (by omega) (by omega) rfl) (hz2 _ _) (hz2 _ _) (Q := fun r m1 => r = b2i (decide (k < zoc P ∧ rp k = zop P k ∧ zfm P k ≤ rs k ∧ rs k ≤ zto P k)) ∧ m1 = m2) (fun _ => ?_))).mono (fun r11 m12 h => ?_)
      · rw [h2, hrk.1, hrk.2]
        refine ⟨fun z => ⟨(b2i_n (by omega)).symm, rfl⟩, fun z => ⟨by omega, by omega, ?_⟩⟩
        rw [h65 k (by omega)]
        refine ⟨fun z1 => ?_, fun z1 => ⟨(b2i_n (fun y => z1 y.2.1.symm)).symm, rfl⟩⟩
        have hp := zop_r hW (show k < zoc P by omega)
        have hop := hR2.1.2.2.2.2.2.2.2.1 (zop P k) hp.1.1 hp.1.2
        rw [← z1, hop.1, hop.2]
        refine ⟨by omega, by omega, b2i_iff ⟨fun y => ⟨by omega, rfl, y.1, y.2⟩, fun y => y.2.2⟩, rfl⟩
      · obtain ⟨hr, hm⟩ := h
        rw [hm]
        intro _ _
        refine ⟨fun z => ⟨inR_b (A := 1000) (by omega) (by omega) rfl, ?_, hF2⟩, fun z => ?_⟩
        · rw [if_neg (b2i_fp (by rw [← hr]; exact z))]
        · have hc := b2i_tp (by rw [← hr]; exact z)
          rw [if_pos hc]
          refine ih (k + 1) (by omega) (fun j hj' => ?_)
          by_cases y : j = k
          · rw [y]; exact ⟨hc.1, hc.2.2⟩
          · exact hj j (by omega)
  exact loop N 0 (by omega) (fun j hj => absurd hj (Nat.not_lt_zero _))
theorem c_X10_judge {d : Nat} (hP : pv m0.1 = P) (hW : zWf P) (hWi : zWish P) (hO : zoc P ≤ 4) (hC : zCame m0) (hB : m0.1 98 18 ≤ 1000000000) (hN : N ≤ 4) (h42 : m0.1 98 42 = (N : Int)) (hrow : ∀ j : Nat, j < N → m0.1 120 (2 * (j : Int)) = rp j ∧ m0.1 120 (2 * (j : Int) + 1) = rs j) :
    zCt K (d + 7) mX10_judge [rr K 98] m0 (fun r m1 => r = zjl P rp rs N N 0 ∧ zGd 9 m0 m1) := by
  have h4 := hW.2.2.2.1
  refine zCt.of (by decide) (Nat.le_of_ble_eq_true rfl) (vc_X10_judge_0 (d := d) m0 (fun hz0 => ?_))
  refine (c_X10_gather (d := d + 4) hP hW hO).mono (fun r1 m2 h => ?_)
  obtain ⟨-, f2, h39, h116⟩ := h
  intro _ hz2
  have n2 : ∀ a k, ¬ zSg a k → m2.1 a k = m0.1 a k := fun a k q => f2.1 a k q
  have hG2 : zGe 0 m0 m2 := (zGe.rf hC).fr f2 (fun a k q => ⟨by unfold zSg at q; unfold zSe zSd; omega, by unfold zSg at q; unfold zSc; omega⟩)
  have hm2 : pv m2.1 = P := by rw [← hP]; exact pv_eq (fun a k q => n2 a k (by unfold zSg; omega))
  have e42 : m2.1 98 42 = (N : Int) := by rw [n2 _ _ (by unfold zSg; omega)]; exact h42
  have hrow2 : ∀ j : Nat, j < N → m2.1 120 (2 * (j : Int)) = rp j ∧ m2.1 120 (2 * (j : Int) + 1) = rs j := fun j hj => by rw [n2 _ _ (by unfold zSg; omega), n2 _ _ (by unfold zSg; omega)]; exact hrow j hj
  have hG2d : zGd 9 m0 m2 := (hG2.back (by rw [hm2, hP])).le (by omega)
  -- the first wish that is missed
  have bits : ∀ (m : zM) (Y : F2), zWish Y → m.1 98 10 = Y 98 10 → zGd 9 m0 m → ∀ (n i : Nat), (i : Int) + n = Y 98 10 → zV K mX10_judge (d + 7) 162 [(0, rr K 98), (1, .int (iz (zmiss Y))), (2, .int (iz (i : Int)))] [] m (fun r m1 => r = zfi (fun i => !zmet Y i) n i ∧ zGd 9 m0 m1) := by
    intro m Y hY e10 hG n
    have hb := zbs_nn (fun i => !zmet Y i) (n := (Y 98 10).toNat) (by have := hY.1; omega)
    have iz1 : inR (zmiss Y) := inR_b (A := 1000) (show -1000 ≤ zbs (fun i => !zmet Y i) (Y 98 10).toNat by omega) (show zbs (fun i => !zmet Y i) (Y 98 10).toNat ≤ 1000 by omega) rfl
    have hY1 := hY.1
    induction n with
    | zero => exact fun i hi => vc_X10_judge_162 _ _ m iz1 (inR_b (A := 1000) (by omega) (by omega) rfl) (fun _ => ⟨fun _ => ⟨rfl, hG⟩, fun q => absurd (by omega) q⟩)
    | succ n ih =>
      intro i hi
      have hg : zand (zshr (zmiss Y) (i : Int)) 1 = if (!zmet Y i) = true then 1 else 0 := zbs_get (fun i => !zmet Y i) (n := (Y 98 10).toNat) (i := i) (by omega) (by omega)
      have es : zfi (fun i => !zmet Y i) (n + 1) i = if (!zmet Y i) = true then 20 + (i : Int) else zfi (fun i => !zmet Y i) n (i + 1) := rfl
      refine vc_X10_judge_162 _ _ m iz1 (inR_b (A := 1000) (by omega) (by omega) rfl) (fun _ => ⟨fun q => absurd q (by omega), fun _ => ?_⟩)
      rw [hg, es]
      by_cases z : (!zmet Y i) = true
      · rw [if_pos z, if_pos z]
        exact ⟨fun _ => ⟨inR_b (A := 1000) (by omega) (by omega) rfl, rfl, hG⟩, fun q => absurd rfl q⟩
      · rw [if_neg z, if_neg z]
        exact ⟨fun q => absurd q (by decide), fun _ => ih (i + 1) (by omega)⟩
  have loop : ∀ (n k : Nat), k + n = N → (∀ j : Nat, j < k → j < zoc P ∧ zfm P j ≤ rs j ∧ rs j ≤ zto P j) → zV K mX10_judge (d + 7) 6 [(0, rr K 98), (1, .int (iz (k : Int)))] [] m2 (fun r m1 => r = zjl P rp rs N n k ∧ zGd 9 m0 m1) := by
    intro n
    induction n with
    | zero =>
      intro k hk hj
      refine vc_X10_judge_6 _ m2 (inR_b (A := 1000) (by omega) (by omega) rfl) (fun _ => ⟨fun _ => ?_, fun q => absurd (by omega) q⟩)
      have ej : zjl P rp rs N 0 k = if N < zoc P then 11 else zjf (zRw P rs) := rfl
      rw [h39, e42, ej]
      refine ⟨fun z => ?_, fun z => ⟨(if_pos (by omega)).symm, hG2d⟩⟩
      rw [if_neg (show ¬ N < zoc P by omega)]
      have hrs : ∀ j : Nat, j < zoc P → 1 ≤ rs j ∧ rs j ≤ 9 := fun j hj' => by have h1 := hj j (by omega); have h3 := zwd_r hW h1.1; omega
      have cp : ∀ (n' k' : Nat), k' + n' = zoc P → ∀ m, zFr (fun a _ => a = 117) m2 m → (∀ j : Nat, j < k' → m.1 117 j = rs j) → zV K mX10_judge (d + 7) 109 [(0, rr K 98), (1, .int (iz (k' : Int)))] [] m (fun r m1 => r = zjf (zRw P rs) ∧ zGd 9 m0 m1) := by
        intro n'
        induction n' with
        | zero =>
          intro k' hk' m hF hv
          have nn : ∀ a k, ¬ a = 117 → m.1 a k = m2.1 a k := fun a k q => hF.1 a k q
          have c39 : m.1 98 39 = (zoc P : Int) := by rw [nn _ _ (by omega)]; exact h39
          have c116 : ∀ j : Nat, j < zoc P → m.1 116 j = zop P j := fun j hj' => by rw [nn _ _ (by omega)]; exact (h116 j hj').1
          have c119 : ∀ j : Nat, j < zoc P → m.1 119 j = zp P (zop P j) 3 := fun j hj' => by rw [nn _ _ (by omega)]; exact (h116 j hj').2
          have hm : pv m.1 = zRw P (fun j => zp P (zop P j) 3) := by rw [zRw_id hW (fun i hi => rfl), ← hm2]; exact pv_eq (fun a k q => nn a k (by omega))
          have hG := hG2.fr hF (fun a k q => ⟨Or.inl (Or.inr (Or.inr (Or.inl (by omega)))), by unfold zSc; omega⟩)
          refine vc_X10_judge_109 _ m (inR_b (A := 1000) (by omega) (by omega) rfl) (fun _ => ⟨fun _ => ?_, fun q => absurd (by omega) q⟩)
          refine (c_X10_setSizes (d := d + 5) (u := fun j => zp P (zop P j) 3) (v := rs) (a1 := 117) (n1 := 4) rfl (by omega) (Or.inl rfl) hW hO hm c39 c116 (fun j hj' => hv j (by omega))).mono (fun r2 m3 h => ?_)
          obtain ⟨-, f3, hm3⟩ := h
          intro _ _
          have hG3 := hG.fr f3 (fun a k q => ⟨Or.inr q, by unfold zSc; omega⟩)
          refine (c_X10_missing (d := d) hm3 (zRw_wf hW hrs) (zRw_wish hWi) hG3.2.1 (by have := hG3.2.2; omega)).mono (fun r4 m5 h => ?_)
          obtain ⟨hr4, g5⟩ := h
          intro _ _
          have hG5 := hG3.tr g5.e
          have n5 : ∀ a k, ¬ zSc a k → ¬ a = 100 → m5.1 a k = m.1 a k := fun a k q q2 => by rw [g5.1.1 a k q, f3.1 a k q2]
          refine (c_X10_setSizes (d := d + 5) (u := rs) (v := fun j => zp P (zop P j) 3) (a1 := 119) (n1 := 4) rfl (by omega) (Or.inr rfl) hW hO (g5.1.pv.trans hm3) (by rw [n5 _ _ (by unfold zSc; omega) (by omega)]; exact c39) (fun j hj' => by rw [n5 _ _ (by unfold zSc; omega) (by omega)]; exact c116 j hj') (fun j hj' => by rw [n5 _ _ (by unfold zSc; omega) (by omega)]; exact c119 j hj')).mono (fun r6 m7 h => ?_)
          obtain ⟨-, f7, hm7⟩ := h
          intro _ _
          rw [zRw_id hW (fun i hi => rfl)] at hm7
          have hG7 : zGd 9 m0 m7 := ((hG5.fr f7 (fun a k q => ⟨Or.inr q, by unfold zSc; omega⟩)).back (by rw [hm7, hP])).le (by omega)
          have hwi := hWi.1
          have e10 : (zRw P rs) 98 10 = P 98 10 := zRw_ne (by decide)
          rw [hr4]
          exact bits m7 (zRw P rs) (zRw_wish hWi) (by rw [e10]; exact pv_f hm7 (by omega)) hG7 ((zRw P rs) 98 10).toNat 0 (by rw [e10]; omega)
        | succ n' ih' =>
          intro k' hk' m hF hv
          have nn : ∀ a k, ¬ a = 117 → m.1 a k = m2.1 a k := fun a k q => hF.1 a k q
          have c39 : m.1 98 39 = (zoc P : Int) := by rw [nn _ _ (by omega)]; exact h39
          have c120 : m.1 120 (2 * (k' : Int) + 1) = rs k' := by rw [nn _ _ (by omega)]; exact (hrow2 k' (by omega)).2
          refine vc_X10_judge_109 _ m (inR_b (A := 1000) (by omega) (by omega) rfl) (fun _ => ⟨fun q => absurd q (by omega), fun _ => ⟨by omega, by omega, by omega, by omega, fun m12 e12 _ => ih' (k' + 1) (by omega) m12 (hF.put e12 rfl) (fun j hj' => ?_)⟩⟩)
          by_cases y : j = k'
          · rw [y, e12, sI_eq]; exact c120
          · rw [e12, sI_ne (Or.inr (by omega))]; exact hv j (by omega)
      exact cp (zoc P) 0 (by omega) m2 zFr.rf (fun j hj' => absurd hj' (Nat.not_lt_zero _))
    | succ n ih =>
      intro k hk hj
      have hrk := hrow2 k (by omega)
      refine vc_X10_judge_6 _ m2 (inR_b (A := 1000) (by omega) (by omega) rfl) (fun _ => ⟨fun q => absurd q (by omega), fun _ => ?_⟩)
      rw [zjl_s, h39]
      refine ⟨fun z => ⟨inR_b (A := 1000) (by omega) (by omega) rfl, (if_neg (fun y => absurd y.1 (by omega))).symm, hG2d⟩, fun z => ?_⟩
      have hp := zop_r hW (show k < zoc P by omega)
      rw [hrk.1, hrk.2, (h116 k (by omega)).1, pv_r hm2 (by omega), pv_r hm2 (by omega)]
      refine ⟨by omega, by omega, by omega, by omega, fun z1 => ⟨by omega, by omega, by omega, by omega, by omega, by omega, fun z2 => ?_, fun z2 => ⟨inR_b (A := 1000) (by omega) (by omega) rfl, (if_neg (fun y => z2 y.2.2)).symm, hG2d⟩⟩, fun z1 => ⟨inR_b (A := 1000) (by omega) (by omega) rfl, (if_neg (fun y => z1 y.2.1)).symm, hG2d⟩⟩
      rw [if_pos ⟨by omega, z1, z2⟩]
      refine ih (k + 1) (by omega) (fun j hj' => ?_)
      by_cases y : j = k
      · rw [y]; exact ⟨by omega, z2⟩
      · exact hj j (by omega)
  exact loop N 0 (by omega) (fun j hj => absurd hj (Nat.not_lt_zero _))
end XJ
