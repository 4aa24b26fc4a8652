/-! ===== frames; the reference's ticks ===== -/
def zFr (S : Int → Int → Prop) (m m' : zM) : Prop := (∀ a k, ¬ S a k → m'.1 a k = m.1 a k) ∧ m'.2 = m.2
theorem zFr.rf {S : Int → Int → Prop} {m : zM} : zFr S m m := ⟨fun _ _ _ => rfl, rfl⟩
theorem zFr.tr {S : Int → Int → Prop} {m m1 m2 : zM} (h : zFr S m m1) (h2 : zFr S m1 m2) : zFr S m m2 := ⟨fun a k q => (h2.1 a k q).trans (h.1 a k q), h2.2.trans h.2⟩
theorem zFr.mono {S S' : Int → Int → Prop} {m m1 : zM} (h : zFr S m m1) (hs : ∀ a k, S a k → S' a k) : zFr S' m m1 := ⟨fun a k q => h.1 a k (fun z => q (hs a k z)), h.2⟩
theorem sI_at {m : zM} {a k v b j : Int} : (sI m a k v).1 b j = if b = a ∧ j = k then v else m.1 b j := rfl
theorem sI_eq {m : zM} {a k v : Int} : (sI m a k v).1 a k = v := by rw [sI_at, if_pos ⟨rfl, rfl⟩]
theorem sI_ne {m : zM} {a k v b j : Int} (h : b ≠ a ∨ j ≠ k) : (sI m a k v).1 b j = m.1 b j := by
  rw [sI_at, if_neg]
  intro q
  rcases h with h | h
  · exact h q.1
  · exact h q.2
theorem zFr.one {S : Int → Int → Prop} {m : zM} {a k v : Int} (h : S a k) : zFr S m (sI m a k v) := ⟨fun b j q => sI_ne (by
  by_cases hb : b = a
  · by_cases hj : j = k
    · subst hb; subst hj; exact absurd h q
    · exact Or.inr hj
  · exact Or.inl hb), rfl⟩
theorem zFr.put {S : Int → Int → Prop} {m m1 m2 : zM} {a k v : Int} (h : zFr S m m1) (e : m2 = sI m1 a k v) (hs : S a k) : zFr S m m2 := by
  rw [e]
  exact h.tr (zFr.one hs)
/-- the reference's own scratch -/
def zTk (a _k : Int) : Prop := 106 ≤ a ∧ a ≤ 108
def zSc (a k : Int) : Prop := (106 ≤ a ∧ a ≤ 110) ∨ a = 115 ∨ (a = 98 ∧ 18 ≤ k ∧ k ≤ 21)
theorem zTk_Sc : ∀ a k, zTk a k → zSc a k := fun a k h => Or.inl ⟨h.1, by have := h.2; omega⟩
theorem zFr.pv {m m' : zM} (h : zFr zSc m m') : pv m'.1 = pv m.1 := pv_eq (fun a k q => h.1 a k (by unfold zSc; omega))
section ZF2
variable {P : F2} {lv : Int → Int} {c p d n : Int}
theorem zfl3_leg (hk : 0 ≤ zp P p 7 ∧ zp P p 7 ≤ 9) (hn : 0 ≤ n ∧ n ≤ 315) (hg : zp P p 0 = 1 ∨ (0 ≤ lv (zp P p 8) ∧ lv (zp P p 8) ≤ 20)) : -4725 ≤ zfl3 P lv c p d n ∧ zfl3 P lv c p d n ≤ 4725 := by
  rcases hg with hg | hg
  · have h := zfl3_le (lv := fun _ => 0) (c := c) (d := d) hk hn (fun _ => ⟨by omega, by omega⟩)
    unfold zfl3 at h ⊢
    simp only [if_pos hg] at h ⊢
    exact h
  · have h := zfl3_le (lv := fun _ => lv (zp P p 8)) (c := c) (d := d) hk hn (fun _ => hg)
    exact h
theorem zflow_le (hW : zWf P) (h0 : 0 ≤ p) (h1 : p < P 98 4) (hc : 0 ≤ c ∧ c ≤ 8) (hl : ∀ k, 0 ≤ k → k ≤ 4 → 0 ≤ lv k ∧ lv k ≤ 20) : -4725 ≤ zflow P lv c p ∧ zflow P lv c p ≤ 4725 := by
  obtain ⟨g0, g1, g2, g3, g4, g5, g6, g7⟩ := wf_part hW h0 h1
  have l1 := hl _ g1.1 g1.2
  have l2 := hl _ g2.1 g2.2
  unfold zflow zfl0
  split
  · split
    · omega
    · split
      · omega
      · have hk : zp P p 0 ≤ 3 := by omega
        have ht := wf_twin hW h0 h1
        have hn := znum_le hW h0 h1 hk hc (e := lv (zp P p 1) - lv (zp P p 2)) (by omega)
        unfold zfl1 zfl2
        refine zfl3_leg (g5 hk).2.2 ?_ ?_
        · have hv : 0 ≤ (if znum P c p (lv (zp P p 1) - lv (zp P p 2)) < 0 then 0 else if lv (zp P p 1) - lv (zp P p 2) = 0 then 0 else znum P c p (lv (zp P p 1) - lv (zp P p 2))) ∧ (if znum P c p (lv (zp P p 1) - lv (zp P p 2)) < 0 then 0 else if lv (zp P p 1) - lv (zp P p 2) = 0 then 0 else znum P c p (lv (zp P p 1) - lv (zp P p 2))) ≤ 35 := by (repeat' split) <;> omega
          exact zmulb hv.1 hv.2 (by omega) ht.2
        · by_cases hz : zp P p 0 = 1
          · exact Or.inl hz
          · have h6 := g6 (by omega)
            exact Or.inr (hl _ h6.1 h6.2)
  · (repeat' split) <;> omega
theorem zflow_lv {lv' : Int → Int} (hW : zWf P) (h0 : 0 ≤ p) (h1 : p < P 98 4) (hl : ∀ k, 0 ≤ k → k ≤ 4 → lv k = lv' k) : zflow P lv c p = zflow P lv' c p := by
  obtain ⟨g0, g1, g2, g3, g4, g5, g6, g7⟩ := wf_part hW h0 h1
  unfold zflow
  rw [hl _ g1.1 g1.2, hl _ g2.1 g2.2]
  unfold zfl0
  split
  · split
    · rfl
    · split
      · rfl
      · unfold zfl1 zfl2 zfl3
        by_cases hz : zp P p 0 = 1
        · simp only [if_pos hz]
        · have h6 := g6 (by omega)
          rw [hl _ h6.1 h6.2]
  · rfl
end ZF2
def znet (P : F2) (lv : Int → Int) (c n : Int) : Nat → Int
  | 0 => 0
  | k + 1 => (if zp P k 2 = n then (if zp P k 1 = n then znet P lv c n k - zflow P lv c k else znet P lv c n k) + zflow P lv c k else (if zp P k 1 = n then znet P lv c n k - zflow P lv c k else znet P lv c n k))
def zwt (P : F2) (n : Int) : Nat → Int
  | 0 => 4
  | k + 1 => zwt P n k + (if zp P k 0 = 4 ∧ zp P k 4 = 0 then (if zp P k 1 = n then zp P k 3 else 0) + (if zp P k 2 = n then zp P k 3 else 0) else 0)
def zmv (l net w : Int) : Int := if 0 ≤ l + Int.tdiv net w then (if l + Int.tdiv net w ≤ 20 then l + Int.tdiv net w else 20) else 0
def zmvn (P : F2) (c s n : Int) : Int := zmv (zlv P s n) (znet P (zlv P s) c n (P 98 4).toNat) (zwt P n (P 98 4).toNat)
/-- the STATE a TICK behind -/
def ztick (P : F2) (c s : Int) : Int := 21 * (21 * zmvn P c s 2 + zmvn P c s 3) + zmvn P c s 4
theorem zmv_le (l net w : Int) : 0 ≤ zmv l net w ∧ zmv l net w ≤ 20 := by unfold zmv; (repeat' split) <;> omega
theorem ztick_le (P : F2) (c s : Int) : 0 ≤ ztick P c s ∧ ztick P c s ≤ 9260 := by
  have h2 := zmv_le (zlv P s 2) (znet P (zlv P s) c 2 (P 98 4).toNat) (zwt P 2 (P 98 4).toNat)
  have h3 := zmv_le (zlv P s 3) (znet P (zlv P s) c 3 (P 98 4).toNat) (zwt P 3 (P 98 4).toNat)
  have h4 := zmv_le (zlv P s 4) (znet P (zlv P s) c 4 (P 98 4).toNat) (zwt P 4 (P 98 4).toNat)
  unfold ztick zmvn
  omega
theorem zlv_le {P : F2} (hW : zWf P) {s : Int} (hs : 0 ≤ s ∧ s ≤ 9260) (n : Int) : 0 ≤ zlv P s n ∧ zlv P s n ≤ 20 := by
  have := hW.1
  unfold zlv
  (repeat' split) <;> omega
theorem znet_le {P : F2} {lv : Int → Int} {c n : Int} (hW : zWf P) (hc : 0 ≤ c ∧ c ≤ 8) (hl : ∀ k, 0 ≤ k → k ≤ 4 → 0 ≤ lv k ∧ lv k ≤ 20) : ∀ k : Nat, (k : Int) ≤ P 98 4 → -(4725 * (k : Int)) ≤ znet P lv c n k ∧ znet P lv c n k ≤ 4725 * (k : Int) := by
  intro k
  induction k with
  | zero => intro _; unfold znet; omega
  | succ k ih =>
    intro h
    have h1 := ih (by omega)
    have h2 := zflow_le (p := (k : Int)) hW (by omega) (by omega) hc hl
    unfold znet
    (repeat' split) <;> omega
theorem zwt_le {P : F2} {n : Int} (hW : zWf P) : ∀ k : Nat, (k : Int) ≤ P 98 4 → 4 ≤ zwt P n k ∧ zwt P n k ≤ 4 + 18 * (k : Int) := by
  intro k
  induction k with
  | zero => intro _; unfold zwt; omega
  | succ k ih =>
    intro h
    have h1 := ih (by omega)
    have h2 := (wf_part (p := (k : Int)) hW (by omega) (by omega)).2.2.2.1
    unfold zwt
    (repeat' split) <;> omega
theorem znet_lv {P : F2} {lv lv' : Int → Int} {c n : Int} (hW : zWf P) (hl : ∀ k, 0 ≤ k → k ≤ 4 → lv k = lv' k) : ∀ k : Nat, (k : Int) ≤ P 98 4 → znet P lv c n k = znet P lv' c n k := by
  intro k
  induction k with
  | zero => intro _; rfl
  | succ k ih =>
    intro h
    have h1 := ih (by omega)
    have h2 := zflow_lv (p := (k : Int)) (c := c) hW (by omega) (by omega) hl
    unfold znet
    rw [h1, h2]
section MT
variable {K : zCx} {P : F2} {c s : Int} {m0 : zM}
theorem c_X10_stand {d : Nat} (hP : pv m0.1 = P) (hs : 0 ≤ s ∧ s ≤ 9260) : zCt K (d + 1) mX10_stand [rr K 98, .int (iz s)] m0 (fun r m1 => r = 0 ∧ zFr zTk m0 m1 ∧ ∀ n, 0 ≤ n → n ≤ 4 → m1.1 106 n = zlv P s n) := by
  refine zCt.of (by decide) (Nat.le_of_ble_eq_true rfl) (vc_X10_stand_0 (d := d) s m0 (inR_b (A := 9260) (by omega) (by omega) rfl) (fun hm m1 e1 _ m3 e3 _ m5 e5 _ m7 e7 _ m9 e9 _ => ⟨rfl, ?_, ?_⟩))
  · have tk : ∀ k, zTk 106 k := fun k => ⟨by omega, by omega⟩
    exact ((((zFr.rf.put e1 (tk _)).put e3 (tk _)).put e5 (tk _)).put e7 (tk _)).put e9 (tk _)
  · intro n h0 h4
    have hf : m0.1 98 0 = P 98 0 := pv_f hP (by omega)
    have d1 : Int.tdiv s 441 = s / 441 := Int.tdiv_eq_ediv_of_nonneg hs.1
    have d2 : Int.tdiv s 21 = s / 21 := Int.tdiv_eq_ediv_of_nonneg hs.1
    have d3 : Int.tmod (s / 21) 21 = s / 21 % 21 := Int.tmod_eq_emod_of_nonneg (by omega)
    have d4 : Int.tmod s 21 = s % 21 := Int.tmod_eq_emod_of_nonneg hs.1
    have hn : n = 0 ∨ n = 1 ∨ n = 2 ∨ n = 3 ∨ n = 4 := by omega
    subst e9; subst e7; subst e5; subst e3; subst e1
    rcases hn with rfl | rfl | rfl | rfl | rfl <;> simp [sI_at, zlv, hf, d1, d2, d3, d4]
theorem t_ticks_156 {d : Nat} {Q : Int → zM → Prop} (hW : zWf P) (hs : 0 ≤ s ∧ s ≤ 9260) (hc : 0 ≤ c ∧ c ≤ 8) (hl : ∀ n, 0 ≤ n → n ≤ 4 → m0.1 106 n = zlv P s n) (hn : ∀ n, 0 ≤ n → n ≤ 4 → m0.1 107 n = znet P (zlv P s) c n (P 98 4).toNat) (hw : ∀ n, 0 ≤ n → n ≤ 4 → m0.1 108 n = zwt P n (P 98 4).toNat) (hQ : Q (ztick P c s) m0) :
    zV K mX10_ticks (d + 3) 156 [(0, rr K 98), (3, .int (iz 0)), (4, .int (iz 2))] [] m0 Q := by
  have h4 := hW.2.2.2.1
  have key : ∀ (n x : Int), 2 ≤ n → n ≤ 4 → 0 ≤ x → x ≤ 500 → (∀ y, y = 21 * x + zmvn P c s n → zV K mX10_ticks (d + 3) 156 [(0, rr K 98), (3, .int (iz y)), (4, .int (iz (n + 1)))] [] m0 Q) → zV K mX10_ticks (d + 3) 156 [(0, rr K 98), (3, .int (iz x)), (4, .int (iz n))] [] m0 Q := by
    intro n x h1 h2 h3 h5 k
    have hnl := znet_le (n := n) hW hc (fun q _ _ => zlv_le hW hs q) (P 98 4).toNat (by omega)
    have hwl := zwt_le (n := n) hW (P 98 4).toNat (by omega)
    have hll := zlv_le hW hs n
    refine vc_X10_ticks_156 x n m0 (inR_b (A := 500) (by omega) (by omega) rfl) (inR_b (A := 5) (by omega) (by omega) rfl) (fun hm => ⟨fun q => absurd q (by omega), fun _ => ⟨by omega, by omega, ?_⟩⟩)
    rw [hl n (by omega) h2, hn n (by omega) h2, hw n (by omega) h2]
    refine ⟨by omega, fun q => absurd q.2 (by omega), fun v6 e6 => ?_⟩
    have hq := ztda (a := znet P (zlv P s) c n (P 98 4).toNat) (A := 47250) (by omega) (by omega) (zwt P n (P 98 4).toNat) (by omega)
    refine ⟨inR_b (A := 50000) (by omega) (by omega) rfl, fun q v10 e10 v12 e12 => ?_, fun q v15 e15 => ?_⟩
    · refine k v12 ?_
      rw [e12, e10]
      unfold zmvn zmv
      rw [← e6, if_pos q]
    · refine k v15 ?_
      rw [e15]
      unfold zmvn zmv
      rw [← e6, if_neg q]
  have m2 := zmv_le (zlv P s 2) (znet P (zlv P s) c 2 (P 98 4).toNat) (zwt P 2 (P 98 4).toNat)
  have m3 := zmv_le (zlv P s 3) (znet P (zlv P s) c 3 (P 98 4).toNat) (zwt P 3 (P 98 4).toNat)
  have e2 : zmvn P c s 2 = zmv (zlv P s 2) (znet P (zlv P s) c 2 (P 98 4).toNat) (zwt P 2 (P 98 4).toNat) := rfl
  have e3 : zmvn P c s 3 = zmv (zlv P s 3) (znet P (zlv P s) c 3 (P 98 4).toNat) (zwt P 3 (P 98 4).toNat) := rfl
  refine key 2 0 (by omega) (by omega) (by omega) (by omega) (fun y ey => ?_)
  refine key 3 y (by omega) (by omega) (by omega) (by omega) (fun y2 ey2 => ?_)
  refine key 4 y2 (by omega) (by omega) (by omega) (by omega) (fun y3 ey3 => ?_)
  have ht : y3 = ztick P c s := by unfold ztick; omega
  have hle := ztick_le P c s
  refine vc_X10_ticks_156 y3 (4 + 1) m0 (inR_b (A := 9260) (by omega) (by omega) rfl) (inR_b (A := 5) (by omega) (by omega) rfl) (fun hm => ⟨fun _ => by rw [ht]; exact hQ, fun q => absurd (by omega) q⟩)
end MT
