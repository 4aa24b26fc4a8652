/-! ===== open(), prove(), alterRow(): both sides ===== -/
def zOpn (P : F2) (p f t : Int) : F2 := zup (zup P 101 (2 * p) f) 101 (2 * p + 1) t
section OPN
variable {K : zCx} {d : Nat} {n : Int} {m : zM} {P : F2} {p f t : Int}
theorem zOpn_ne {a k : Int} (h : ¬ a = 101) : zOpn P p f t a k = P a k := by unfold zOpn; rw [zup_nq (by omega), zup_nq (by omega)]
theorem zOpn_1 {k : Int} : zOpn P p f t 101 k = if k = 2 * p + 1 then t else if k = 2 * p then f else P 101 k := by
  unfold zOpn
  rw [zup_at, zup_at]
  by_cases z : k = 2 * p + 1
  · rw [if_pos ⟨rfl, z⟩, if_pos z]
  · rw [if_neg (fun y => z y.2), if_neg z]
    by_cases z2 : k = 2 * p
    · rw [if_pos ⟨rfl, z2⟩, if_pos z2]
    · rw [if_neg (fun y => z2 y.2), if_neg z2]
theorem zOpn_N (hp : 0 ≤ p) : ∀ k : Nat, zoN (zOpn P p f t) k + (if p < (k : Int) ∧ 0 < P 101 (2 * p + 1) then 1 else 0) = zoN P k + (if p < (k : Int) ∧ 0 < t then 1 else 0) := by
  intro k
  induction k with
  | zero => rw [if_neg (by omega), if_neg (by omega)]; rfl
  | succ k ih =>
    rw [zoN_s, zoN_s, zOpn_1]
    by_cases z : (k : Int) = p
    · rw [if_neg (by omega), if_neg (by omega)] at ih
      rw [if_pos (show 2 * (k : Int) + 1 = 2 * p + 1 by omega), z]
      by_cases a : 0 < t
      · by_cases b : 0 < P 101 (2 * p + 1)
        · rw [if_pos a, if_pos b, if_pos (by omega), if_pos (by omega)]; omega
        · rw [if_pos a, if_neg b, if_neg (by omega), if_pos (by omega)]; omega
      · by_cases b : 0 < P 101 (2 * p + 1)
        · rw [if_neg a, if_pos b, if_pos (by omega), if_neg (by omega)]; omega
        · rw [if_neg a, if_neg b, if_neg (by omega), if_neg (by omega)]; omega
    · rw [if_neg (show ¬ 2 * (k : Int) + 1 = 2 * p + 1 by omega), if_neg (show ¬ 2 * (k : Int) + 1 = 2 * p by omega)]
      by_cases y : p < (k : Int)
      · by_cases a : 0 < t
        · by_cases b : 0 < P 101 (2 * p + 1)
          · rw [if_pos (by omega), if_pos (by omega)] at ih
            rw [if_pos (show p < ((k + 1 : Nat) : Int) ∧ 0 < P 101 (2 * p + 1) by omega), if_pos (show p < ((k + 1 : Nat) : Int) ∧ 0 < t by omega)]; omega
          · rw [if_neg (by omega), if_pos (by omega)] at ih
            rw [if_neg (show ¬ (p < ((k + 1 : Nat) : Int) ∧ 0 < P 101 (2 * p + 1)) by omega), if_pos (show p < ((k + 1 : Nat) : Int) ∧ 0 < t by omega)]; omega
        · by_cases b : 0 < P 101 (2 * p + 1)
          · rw [if_pos (by omega), if_neg (by omega)] at ih
            rw [if_pos (show p < ((k + 1 : Nat) : Int) ∧ 0 < P 101 (2 * p + 1) by omega), if_neg (show ¬ (p < ((k + 1 : Nat) : Int) ∧ 0 < t) by omega)]; omega
          · rw [if_neg (by omega), if_neg (by omega)] at ih
            rw [if_neg (show ¬ (p < ((k + 1 : Nat) : Int) ∧ 0 < P 101 (2 * p + 1)) by omega), if_neg (show ¬ (p < ((k + 1 : Nat) : Int) ∧ 0 < t) by omega)]; omega
      · rw [if_neg (by omega), if_neg (by omega)] at ih
        rw [if_neg (show ¬ (p < ((k + 1 : Nat) : Int) ∧ 0 < P 101 (2 * p + 1)) by omega), if_neg (show ¬ (p < ((k + 1 : Nat) : Int) ∧ 0 < t) by omega)]; omega
theorem zGoodP.opn (h : zGoodP P) (hp : 0 ≤ p ∧ p < P 98 4) (ht : (f = 0 ∧ t = 0) ∨ (1 ≤ f ∧ f ≤ t ∧ t ≤ 9 ∧ t - f ≤ 3)) (hc : t = 0 ∨ ¬ P 101 (2 * p + 1) = 0 ∨ zoc P < 4) : zGoodP (zOpn P p f t) := by
  have hn : ∀ a j, ¬ a = 101 → zOpn P p f t a j = P a j := fun a j q => zOpn_ne q
  obtain ⟨h1, h2, h3, h4, h5, h6, h7, h8, h9, h10⟩ := h.1
  refine ⟨⟨by rw [hn _ _ (by omega)]; exact h1, by rw [hn _ _ (by omega)]; exact h2, by rw [hn _ _ (by omega)]; exact h3, by rw [hn _ _ (by omega)]; exact h4, by rw [hn _ _ (by omega)]; exact h5, fun i a b => ?_, fun p a b => ?_, fun q a b => ?_, fun j a b => ?_, fun i a b => by rw [hn _ _ (by omega)]; exact h10 i a b⟩, h.2.1.c (hn _ _ (by omega)) (fun j => hn _ _ (by omega)) (fun j => hn _ _ (by omega)), ?_⟩
  · rw [hn _ _ (by omega)] at b; rw [hn _ _ (by omega)]; exact h6 i a b
  · rw [hn _ _ (by omega)] at b; exact (h7 p a b).c (fun j => hn _ _ (by omega)) (by rw [hn _ _ (by omega)]; omega)
  · rw [hn _ _ (by omega)] at b
    unfold zOpenOk
    rw [zOpn_1, zOpn_1]
    by_cases z : q = p
    · rw [if_neg (by omega), if_pos (by omega), if_pos (by omega)]; exact ht
    · rw [if_neg (by omega), if_neg (by omega), if_neg (by omega), if_neg (by omega)]; exact h8 q a b
  · rw [hn _ _ (by omega)] at b; rw [hn 98 4 (by omega), hn 102 _ (by omega), hn 102 _ (by omega)]; exact h9 j a b
  · have e := zOpn_N (P := P) (f := f) (t := t) hp.1 (P 98 4).toNat
    have ho := h8 p hp.1 hp.2
    unfold zOpenOk at ho
    have hz := h.2.2
    unfold zoc at hz hc ⊢
    rw [hn _ _ (by omega)]
    by_cases a : 0 < t
    · by_cases b : 0 < P 101 (2 * p + 1)
      · rw [if_pos (by omega), if_pos (by omega)] at e; omega
      · rw [if_neg (by omega), if_pos (by omega)] at e; omega
    · by_cases b : 0 < P 101 (2 * p + 1)
      · rw [if_pos (by omega), if_neg (by omega)] at e; omega
      · rw [if_neg (by omega), if_neg (by omega)] at e; omega
theorem RQ.opn {m1 m2 : zM} (h : RQ m 1 P) (hp : 0 ≤ p ∧ p < 10) (e1 : m1 = sI m (1 + 9 + p) 10 f) (e2 : m2 = sI m1 (1 + 9 + p) 11 t) : RQ m2 1 (zOpn P p f t) := by
  have hn : ∀ a j, ¬ a = 101 → zOpn P p f t a j = P a j := fun a j q => zOpn_ne q
  have hm : ∀ a i, ¬ (a = 1 + 9 + p ∧ 10 ≤ i) → m2.1 a i = m.1 a i := fun a i q => by rw [e2, sI_ne (by omega), e1, sI_ne (by omega)]
  obtain ⟨⟨h1, h2, h3, h4, h5, h6, h7, h8, h9, h10⟩, hw⟩ := h
  refine ⟨⟨by rw [hm _ _ (by omega), hn _ _ (by omega)]; exact h1, by rw [hm _ _ (by omega), hn _ _ (by omega)]; exact h2, by rw [hm _ _ (by omega), hn _ _ (by omega)]; exact h3, by rw [hm _ _ (by omega), hn _ _ (by omega)]; exact h4, by rw [hm _ _ (by omega), hn _ _ (by omega)]; exact h5, fun i a b => ?_, fun p i a b c d => ?_, fun q a b => ?_, fun i a b => ?_, fun i a b => by rw [hm _ _ (by omega), hn _ _ (by omega)]; exact h10 i a b⟩, RW.c (hw.kept (fun a i x y => hm a i (by omega))) (hn _ _ (by omega)) (fun i => hn _ _ (by omega)) (fun i => hn _ _ (by omega))⟩
  · rw [hn _ _ (by omega)] at b; rw [hm _ _ (by omega), hn _ _ (by omega)]; exact h6 i a b
  · rw [hn _ _ (by omega)] at b; rw [hm _ _ (by omega)]; show _ = zOpn P _ f t 100 _; rw [hn _ _ (by omega)]; exact h7 p i a b c d
  · rw [hn _ _ (by omega)] at b
    rw [zOpn_1, zOpn_1]
    by_cases z : q = p
    · rw [if_neg (by omega), if_pos (by omega), if_pos (by omega), z]
      exact ⟨by rw [e2, sI_ne (Or.inr (by omega)), e1, sI_eq], by rw [e2, sI_eq]⟩
    · rw [if_neg (by omega), if_neg (by omega), if_neg (by omega), if_neg (by omega), hm _ _ (by omega), hm _ _ (by omega)]; exact h8 q a b
  · rw [hn _ _ (by omega)] at b; rw [hm _ _ (by omega), hm _ _ (by omega), hn _ _ (by omega), hn _ _ (by omega)]; exact h9 i a b
theorem o_open {p fr t : Int} (ip : inR p) (if' : inR fr) (it : inR t) (h : zInv n m) : zOk K (d + 12) mX9_open mX10_open [.int (iz p), .int (iz fr), .int (iz t)] n m := by
  have hG := h.1.1
  have hW := hG.1
  have hR := h.1.2
  have h4 := hW.2.2.2.1
  have hO := hG.2.2
  have e6 : m.1 1 6 = pv m.1 98 4 := hR.1.2.2.2.1
  by_cases hA : (0 ≤ p ∧ p < pv m.1 98 4) ∧ (t = 0 ∨ ((1 ≤ fr ∧ fr ≤ 9) ∧ (fr ≤ t ∧ t ≤ 9) ∧ t - fr ≤ 3))
  · have ho := hW.2.2.2.2.2.2.2.1 p hA.1.1 hA.1.2
    unfold zOpenOk at ho
    have eop : m.1 (10 + p) 11 = pv m.1 101 (2 * p + 1) := by rw [show (10 + p : Int) = 1 + 9 + p by omega]; exact (hR.1.2.2.2.2.2.2.2.1 p hA.1.1 hA.1.2).2
    by_cases hF : ¬ t = 0 ∧ pv m.1 101 (2 * p + 1) = 0 ∧ zoc (pv m.1) = 4
    · refine zOk.no (F := -2) h ?_ (fun m1 e f => ?_)
      · refine zCt.of (by decide) (Nat.le_of_ble_eq_true rfl) (vc_X9_open_0 (d := d + 9) p fr t m ip if' it (fun _ => ?_))
        rw [e6, eop]
        refine ⟨h4.1, fun _ => ⟨fun q => absurd q hF.1, fun _ => ⟨fun _ => ⟨fun _ => ⟨inR_b (A := 1000) (by omega) (by omega) rfl, fun _ => ⟨by omega, by omega, fun q => absurd hF.2.1 q, fun _ => ?_⟩, fun q => absurd (by omega) q⟩, fun q => absurd (by omega) q⟩, fun q => absurd (by omega) q⟩⟩, fun q => absurd hA.1 q⟩
        refine (c_X4_openCount (d := d + 9) (Or.inl rfl) hW hR.1).mono (fun r m1 q _ _ => ?_)
        rw [q.1, q.2]
        exact ⟨fun y => absurd y (by omega), fun _ => ⟨rfl, rfl⟩⟩
      · refine zCt.of (by decide) (Nat.le_of_ble_eq_true rfl) (vc_X10_open_0 (d := d + 9) p fr t m1 ip if' it (fun _ => ?_))
        rw [pv_f e (by omega), pv_r e (by omega)]
        refine ⟨h4.1, fun _ => ⟨fun q => absurd q hF.1, fun _ => ⟨fun _ => ⟨fun _ => ⟨inR_b (A := 1000) (by omega) (by omega) rfl, fun _ => ⟨fun q => absurd q hF.1, fun _ => ⟨by omega, by omega, fun _ => ?_, fun q => absurd hF.2.1 q⟩⟩, fun q => absurd (by omega) q⟩, fun q => absurd (by omega) q⟩, fun q => absurd (by omega) q⟩⟩, fun q => absurd hA.1 q⟩
        refine (c_X10_openMany (d := d + 10) e hW).mono (fun r m2 q _ _ => ?_)
        rw [q.1, q.2]
        exact ⟨fun _ => ⟨rfl, rfl⟩, fun y => absurd (by omega) y⟩
    · have hG' : zGoodP (zOpn (pv m.1) p (if t = 0 then 0 else fr) t) := hG.opn hA.1 (by by_cases z : t = 0
                                                                                         · rw [if_pos z]; exact Or.inl ⟨rfl, z⟩
                                                                                         · rw [if_neg z]; exact Or.inr (by omega)) (by omega)
      refine zOk.pl (F := (zoc (zOpn (pv m.1) p (if t = 0 then 0 else fr) t) : Int)) (P' := zOpn (pv m.1) p (if t = 0 then 0 else fr) t) h hG' ?_ (fun m1 e f => ?_)
      · have fin : ∀ (v : Int) (mA mB : zM), v = (if t = 0 then 0 else fr) → mA = sI m (10 + p) 10 v → mB = sI mA (10 + p) 11 t → zCt K (d + 11) mX4_openCount [rr K 1] mB (fun r m1 => inR r → zok m1 → r = (zoc (zOpn (pv m.1) p (if t = 0 then 0 else fr) t) : Int) ∧ zFr zPn m m1 ∧ RQ m1 1 (zOpn (pv m.1) p (if t = 0 then 0 else fr) t)) := by
          intro v mA mB ev eA eB
          rw [show (10 + p : Int) = 1 + 9 + p by omega] at eA eB
          rw [ev] at eA
          have hRB := hR.opn (p := p) (by omega) eA eB
          have hfr : zFr zPn m mB := (zFr.rf.put eA (by unfold zPn; omega)).put eB (by unfold zPn; omega)
          refine (c_X4_openCount (d := d + 9) (Or.inl rfl) hG'.1 hRB.1).mono (fun r m1 q _ _ => ?_)
          rw [q.1, q.2]
          exact ⟨rfl, hfr, hRB⟩
        refine zCt.of (by decide) (Nat.le_of_ble_eq_true rfl) (vc_X9_open_0 (d := d + 9) p fr t m ip if' it (fun _ => ?_))
        rw [e6, eop]
        refine ⟨h4.1, fun _ => ⟨fun _ => ⟨by omega, by omega, fun v8 e8 m10 e10 _ m12 e12 _ => fin v8 m10 m12 e8 e10 e12⟩, fun t0 => ⟨fun _ => ⟨fun _ => ⟨inR_b (A := 1000) (by omega) (by omega) rfl, fun _ => ⟨by omega, by omega, fun _ v30 e30 m32 e32 _ m34 e34 _ => fin v30 m32 m34 e30 e32 e34, fun q => ?_⟩, fun q => absurd (by omega) q⟩, fun q => absurd (by omega) q⟩, fun q => absurd (by omega) q⟩⟩, fun q => absurd hA.1 q⟩
        refine (c_X4_openCount (d := d + 9) (Or.inl rfl) hW hR.1).mono (fun r m1 y _ _ => ?_)
        rw [y.1, y.2]
        exact ⟨fun _ v42 e42 m44 e44 _ m46 e46 _ => fin v42 m44 m46 e42 e44 e46, fun x => absurd ⟨t0, Classical.not_not.mp q, by omega⟩ hF⟩
      · have fin : ∀ (v : Int) (mA mB : zM), v = (if t = 0 then 0 else fr) → mA = sI m1 101 (2 * p) v → mB = sI mA 101 (2 * p + 1) t → zCt K (d + 11) mX10_openMany [rr K 98] mB (fun r m2 => inR r → zok m2 → r = (zoc (zOpn (pv m.1) p (if t = 0 then 0 else fr) t) : Int) ∧ zFr zPv m1 m2 ∧ pv m2.1 = zOpn (pv m.1) p (if t = 0 then 0 else fr) t) := by
          intro v mA mB ev eA eB
          rw [ev] at eA
          have hmB : pv mB.1 = zOpn (pv m.1) p (if t = 0 then 0 else fr) t := pv_up (pv_up e (by unfold zPv; omega) eA) (by unfold zPv; omega) eB
          have hfr : zFr zPv m1 mB := (zFr.rf.put eA (by unfold zPv; omega)).put eB (by unfold zPv; omega)
          refine (c_X10_openMany (d := d + 10) hmB hG'.1).mono (fun r m2 q _ _ => ?_)
          rw [q.1, q.2]
          exact ⟨rfl, hfr, hmB⟩
        refine zCt.of (by decide) (Nat.le_of_ble_eq_true rfl) (vc_X10_open_0 (d := d + 9) p fr t m1 ip if' it (fun _ => ?_))
        rw [pv_f e (by omega), pv_r e (by omega)]
        refine ⟨h4.1, fun _ => ⟨fun t0 => ⟨fun _ v7 e7 => ⟨by omega, by omega, fun m11 e11 _ => ⟨by omega, by omega, fun m15 e15 _ => fin v7 m11 m15 e7 e11 e15⟩⟩, fun q => absurd t0 q⟩, fun t0 => ⟨fun _ => ⟨fun _ => ⟨inR_b (A := 1000) (by omega) (by omega) rfl, fun _ => ⟨fun q => absurd q t0, fun _ => ⟨by omega, by omega, fun q => ?_, fun _ v73 e73 => ⟨by omega, by omega, fun m77 e77 _ m79 e79 _ => fin v73 m77 m79 e73 e77 e79⟩⟩⟩, fun q => absurd (by omega) q⟩, fun q => absurd (by omega) q⟩, fun q => absurd (by omega) q⟩⟩, fun q => absurd hA.1 q⟩
        refine (c_X10_openMany (d := d + 10) e hW).mono (fun r m2 y _ _ => ?_)
        rw [y.1, y.2]
        exact ⟨fun x => absurd ⟨t0, q, by omega⟩ hF, fun _ v87 e87 => ⟨by omega, by omega, fun m91 e91 _ m93 e93 _ => fin v87 m91 m93 e87 e91 e93⟩⟩
  · refine zOk.no (F := -1) h ?_ (fun m1 e f => ?_)
    · refine zCt.of (by decide) (Nat.le_of_ble_eq_true rfl) (vc_X9_open_0 (d := d + 9) p fr t m ip if' it (fun _ => ?_))
      rw [e6]
      exact ⟨h4.1, fun q1 => ⟨fun q2 => absurd ⟨q1, Or.inl q2⟩ hA, fun q2 => ⟨fun q3 => ⟨fun q4 => ⟨inR_b (A := 1000) (by omega) (by omega) rfl, fun q5 => absurd ⟨q1, Or.inr ⟨q3, q4, by omega⟩⟩ hA, fun _ => ⟨rfl, rfl⟩⟩, fun _ => ⟨rfl, rfl⟩⟩, fun _ => ⟨rfl, rfl⟩⟩⟩, fun _ => ⟨rfl, rfl⟩⟩
    · refine zCt.of (by decide) (Nat.le_of_ble_eq_true rfl) (vc_X10_open_0 (d := d + 9) p fr t m1 ip if' it (fun _ => ?_))
      rw [pv_f e (by omega)]
      exact ⟨h4.1, fun q1 => ⟨fun q2 => absurd ⟨q1, Or.inl q2⟩ hA, fun q2 => ⟨fun q3 => ⟨fun q4 => ⟨inR_b (A := 1000) (by omega) (by omega) rfl, fun q5 => absurd ⟨q1, Or.inr ⟨q3, q4, q5⟩⟩ hA, fun _ => ⟨rfl, rfl⟩⟩, fun _ => ⟨rfl, rfl⟩⟩, fun _ => ⟨rfl, rfl⟩⟩⟩, fun _ => ⟨rfl, rfl⟩⟩
/-! rows -/
theorem zInv.rows {N : Int} {m1 m2 m3 : zM} (h : zInv n m) (f : zFl zXP m m1) (g : zGd N m1 m2) (q : zFr zSP m2 m3) (hN : N ≤ 20000) (hr : zIR m3) : zInv (n + 1) m3 := by
  obtain ⟨⟨hG, hR⟩, h2, h3, -, h5, h6, h7⟩ := h
  have ee : ∀ a k, ¬ zXP a k → ¬ zSd a k → ¬ zSP a k → m3.1 a k = m.1 a k := fun a k x y z => by rw [q.1 a k z, g.1.1 a k y, f.1 a k x]
  have e2 : pv m3.1 = pv m.1 := pv_eq (fun a k x => ee a k (by unfold zXP zXX; omega) (by unfold zSd zSc; omega) (by unfold zSP; omega))
  have e18 : m3.1 98 18 = m2.1 98 18 := q.1 _ _ (by unfold zSP; omega)
  refine ⟨⟨by rw [e2]; exact hG, ?_⟩, ⟨g.2.1.k (fun t => q.1 _ _ (by unfold zSP; omega)) e18, ?_⟩, h3.k (fun a k x => ee a k ?_ ?_ ?_), hr, h5.k (fun a k x => ee a k ?_ ?_ ?_), h6.k (fun a k x => ee a k ?_ ?_ ?_) (fun k => ?_), h7.k (fun a k x => ee a k ?_ ?_ ?_)⟩
  · rw [e2]; exact hR.kept hG.1 (fun a k x y => ee a k (by unfold zXP zXX; omega) (by unfold zSd zSc; omega) (by unfold zSP; omega))
  · have := g.2.2
    rw [f.1 98 18 (by unfold zXP zXX; omega)] at this
    have := h2.2
    omega
  · unfold zXP zXX; omega
  · unfold zSd zSc; omega
  · unfold zSP; omega
  · unfold zXP zXX; omega
  · unfold zSd zSc; omega
  · unfold zSP; omega
  · unfold zXP zXX; omega
  · unfold zSd zSc; omega
  · unfold zSP; omega
  · rw [q.2, g.1.2]; exact f.2 124 k (by unfold zXP zXX; omega)
  · unfold zXP zXX; omega
  · unfold zSd zSc; omega
  · unfold zSP; omega
theorem zXP_pv {m1 : zM} (f : zFl zXP m m1) : pv m1.1 = pv m.1 := pv_eq (fun a k q => f.1 a k (by unfold zXP zXX; omega))
theorem zXP_C {m1 : zM} (h : zInv n m) (hn : 0 ≤ n ∧ n ≤ 100) (f : zFl zXP m m1) : zCame m1 ∧ m1.1 98 18 ≤ 1000000000 := by
  have e18 : m1.1 98 18 = m.1 98 18 := f.1 98 18 (by unfold zXP zXX; omega)
  have := h.2.1.2
  exact ⟨h.2.1.1.k (fun t => f.1 109 t (by unfold zXP zXX; omega)) e18, by omega⟩
theorem o_prove (h : zInv n m) (hn : 0 ≤ n ∧ n ≤ 100) : zOk K (d + 12) mX9_prove mX10_prove [] n m := by
  refine (c_X9_prove (d := d + 4) h.1.1.1 h.1.1.2.1 h.1.1.2.2 h.1.2).mono (fun r m1 q => ?_)
  obtain ⟨hr, q⟩ := q
  rcases q with ⟨hz, f⟩ | ⟨hz, f, e10, hj⟩
  · have f' : zFl zXP m m1 := f.mono (fun a k x => Or.inl x)
    have hc := zXP_C h hn f'
    refine (c_X10_prove (d := d + 4) (zXP_pv f') h.1.1.1 h.1.1.2.1 h.1.1.2.2 hc.1 hc.2).mono (fun r' m2 q => ⟨by rw [hr, q.1], ?_⟩)
    rcases q.2 with ⟨-, g⟩ | ⟨y, -⟩
    · exact h.query f g (by omega)
    · omega
  · have hc := zXP_C h hn f
    refine (c_X10_prove (d := d + 4) (zXP_pv f) h.1.1.1 h.1.1.2.1 h.1.1.2.2 hc.1 hc.2).mono (fun r' m2 q => ⟨by rw [hr, q.1], ?_⟩)
    rcases q.2 with ⟨y, -⟩ | ⟨-, ⟨m', g, g2⟩, e42, hj2⟩
    · omega
    · refine h.rows f g g2 (by omega) ⟨?_, ?_, fun j a b => ?_⟩
      · rw [e42, g2.1 _ _ (by unfold zSP; omega), g.1.1 _ _ (by unfold zSd zSc; omega)]; exact e10
      · have := h.1.1.2.2; rw [e42]; omega
      · rw [e42] at b
        have q1 := hj j.toNat (by omega)
        have q2 := hj2 j.toNat (by omega)
        rw [show ((j.toNat : Nat) : Int) = j by omega] at q1 q2
        rw [q2.1, q2.2, g2.1 _ _ (by unfold zSP; omega), g.1.1 _ _ (by unfold zSd zSc; omega), g2.1 _ _ (by unfold zSP; omega), g.1.1 _ _ (by unfold zSd zSc; omega)]
        exact q1
theorem o_alterRow {i w v : Int} (ii : inR i) (iw : inR w) (iv : inR v) (h : zInv n m) (hn : 0 ≤ n ∧ n ≤ 100) : zOk K (d + 12) mX9_alterRow mX10_alterRow [.int (iz i), .int (iz w), .int (iz v)] n m := by
  obtain ⟨r1, r2, r3⟩ := h.2.2.2.1
  by_cases hv : (0 ≤ i ∧ i < m.1 98 42) ∧ (0 ≤ w ∧ w ≤ 1)
  · have r3i := r3 i hv.1.1 hv.1.2
    have key : ∀ m1, zFr (fun a k => (a = 96 ∧ k = i ∧ w = 0) ∨ (a = 97 ∧ k = i ∧ w = 1)) m m1 → (w = 0 → m1.1 96 i = v) → (w = 1 → m1.1 97 i = v) → zCt K (d + 12) mX10_alterRow (rr K 98 :: [.int (iz i), .int (iz w), .int (iz v)]) m1 (fun r' m2 => r' = m.1 120 (2 * i + w) ∧ zInv (n + 1) m2) := by
      intro m1 f h96 h97
      have nn : ∀ a k, ¬ (a = 96 ∨ a = 97) → m1.1 a k = m.1 a k := fun a k q => f.1 a k (by omega)
      refine zCt.of (by decide) (Nat.le_of_ble_eq_true rfl) (vc_X10_alterRow_0 (d := d + 9) i w v m1 ii iw iv (fun _ => ?_))
      rw [nn 98 42 (by omega)]
      refine ⟨r2.1, fun _ => ⟨by omega, by omega, fun v7 e7 m9 e9 _ => ⟨by rw [e7, nn _ _ (by omega)], ?_⟩⟩, fun q => absurd hv q⟩
      have f' : zFl zXP m m1 := f.l.mono (fun a k q => by unfold zXP; omega)
      refine h.rows f' (zGd.rf (zXP_C h hn f').1) (zFr.rf.put e9 (Or.inr rfl)) (by omega) ⟨?_, ?_, fun j a b => ?_⟩
      · rw [e9, sI_ne (by omega), sI_ne (by omega), nn _ _ (by omega), nn _ _ (by omega)]; exact r1
      · rw [e9, sI_ne (by omega), nn _ _ (by omega)]; exact r2
      · rw [e9, sI_ne (by omega), nn _ _ (by omega)] at b
        have r3j := r3 j a b
        have g96 : m9.1 96 j = m1.1 96 j := by rw [e9, sI_ne (by omega)]
        have g97 : m9.1 97 j = m1.1 97 j := by rw [e9, sI_ne (by omega)]
        rw [g96, g97]
        by_cases z : j = i
        · subst z
          by_cases y : w = 0
          · rw [h96 y, f.1 97 j (by omega), e9, y, Int.add_zero, sI_eq, sI_ne (by omega), nn _ _ (by omega)]
            exact ⟨rfl, r3j.2⟩
          · have y1 : w = 1 := by omega
            rw [h97 y1, f.1 96 j (by omega), e9, y1, sI_eq, sI_ne (by omega), nn _ _ (by omega)]
            exact ⟨r3j.1, rfl⟩
        · rw [f.1 96 j (by omega), f.1 97 j (by omega), e9, sI_ne (by omega), sI_ne (by omega), nn _ _ (by omega), nn _ _ (by omega)]
          exact r3j
    refine zCt.of (by decide) (Nat.le_of_ble_eq_true rfl) (vc_X9_alterRow_0 (d := d + 10) i w v m ii iw iv (fun _ => ?_))
    rw [r1]
    refine ⟨inR_b (A := 1000) (by omega) (by omega) rfl, fun _ => ⟨fun _ => ⟨fun z => ⟨by omega, by omega, fun v20 e20 => ⟨fun _ m25 e25 _ => ?_, fun q => absurd z q⟩⟩, fun z => ⟨by omega, by omega, fun v11 e11 => ⟨fun q => absurd q z, fun _ m14 e14 _ => ?_⟩⟩⟩, fun q => absurd hv.2 q⟩, fun q => absurd ⟨hv.1.1, by omega⟩ q⟩
    · refine (key m25 (zFr.rf.put e25 (Or.inl ⟨rfl, rfl, z⟩)) (fun _ => by rw [e25, sI_eq]) (fun q => absurd q (by omega))).mono (fun r' m2 q => ⟨?_, q.2⟩)
      rw [q.1, e20, r3i.1, z, Int.add_zero]
    · refine (key m14 (zFr.rf.put e14 (Or.inr ⟨rfl, rfl, by omega⟩)) (fun q => absurd q z) (fun _ => by rw [e14, sI_eq])).mono (fun r' m2 q => ⟨?_, q.2⟩)
      rw [q.1, e11, r3i.2, show w = 1 by omega]
  · refine zOk.q (F := -9) (N := 0) h hn (by omega) ?_ (fun m1 f e hC hB => ?_)
    · refine zCt.of (by decide) (Nat.le_of_ble_eq_true rfl) (vc_X9_alterRow_0 (d := d + 10) i w v m ii iw iv (fun _ => ?_))
      rw [r1]
      exact ⟨inR_b (A := 1000) (by omega) (by omega) rfl, fun q1 => ⟨fun q2 => absurd ⟨⟨q1.1, by omega⟩, q2⟩ hv, fun _ => ⟨rfl, zFl.rf⟩⟩, fun _ => ⟨rfl, zFl.rf⟩⟩
    · refine zCt.of (by decide) (Nat.le_of_ble_eq_true rfl) (vc_X10_alterRow_0 (d := d + 9) i w v m1 ii iw iv (fun _ => ?_))
      rw [f.1 98 42 (by unfold zXX; omega)]
      exact ⟨r2.1, fun q => absurd q hv, fun _ => ⟨rfl, zGd.rf hC⟩⟩
end OPN
