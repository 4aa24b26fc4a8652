/-! ===== the reference's parser: values, sums, comparisons ===== -/
def zRv (a k : Int) : Prop := (a = 98 ∧ ((24 ≤ k ∧ k ≤ 28) ∨ k = 32)) ∨ a = 112
def zMem (m m' : zM) (cs : List Int) : Prop := m'.1 98 32 = m.1 98 32 + cs.length ∧ (∀ k, k < m.1 98 32 → m'.1 112 k = m.1 112 k) ∧ zseg (m'.1 112) (m.1 98 32) cs.length = cs
theorem zMem.nil {m m' : zM} (h3 : m'.1 98 32 = m.1 98 32) (h59 : ∀ k, m'.1 112 k = m.1 112 k) : zMem m m' [] := ⟨by rw [h3]; show _ = _ + (0 : Int); omega, fun k _ => h59 k, rfl⟩
theorem zMem.tr {m m1 m2 : zM} {a b : List Int} (h : zMem m m1 a) (h2 : zMem m1 m2 b) : zMem m m2 (a ++ b) := by
  obtain ⟨p1, p2, p3⟩ := h
  obtain ⟨q1, q2, q3⟩ := h2
  refine ⟨?_, fun k hk => ?_, ?_⟩
  · rw [q1, p1, List.length_append]; omega
  · rw [q2 k (by omega), p2 k hk]
  · rw [List.length_append, zseg_add, ← p1, q3]
    have : zseg (m2.1 112) (m.1 98 32) a.length = zseg (m1.1 112) (m.1 98 32) a.length := zseg_congr (fun i h1 h2 => q2 i (by omega))
    rw [this, p3]
/-- the tape, in the reference -/
def zTa (t : Int → Int) (n : Int) (m : zM) : Prop := (0 ≤ n ∧ n ≤ 220) ∧ (∀ k, 0 ≤ k → k < n → 0 ≤ t k ∧ t k ≤ 255) ∧ (∀ k, m.1 111 k = t k) ∧ m.1 98 23 = n
abbrev tS (t : Int → Int) (n : Int) (i : Nat) : Int := zts t n (ztx t n i)
abbrev tV (t : Int → Int) (n : Int) (i : Nat) : Int := ztv t n (ztx t n i)
abbrev tQ (t : Int → Int) (n : Int) (i : Nat) : Int := ztq t n (ztx t n i)
def zMt (t : Int → Int) (n : Int) (m : zM) (i : Nat) : Prop := zRT m t n (ztx t n i)
/-- no fault yet, and the token i is the next -/
def zMo (t : Int → Int) (n : Int) (m : zM) (i : Nat) : Prop := m.1 98 28 = -1 ∧ zMt t n m i
def zPm (t : Int → Int) (n : Int) (m : zM) (i : Nat) (g : Nat × Option (List Int)) (jj : Int) (m' : zM) : Prop := zFl zRv m m' ∧ (∀ c, g.2 = some c → zMo t n m' g.1 ∧ zMem m m' c) ∧ (g.2 = none → m'.1 98 28 = tQ t n g.1 ∧ m.1 98 32 ≤ m'.1 98 32 ∧ m'.1 98 32 + i ≤ m.1 98 32 + g.1 + jj)
section MV
variable {K : zCx} {d : Nat} {m m' : zM} {t : Int → Int} {n : Int} {i : Nat}
theorem zTa.k (h : zTa t n m) (h1 : ∀ k, m'.1 111 k = m.1 111 k) (h2 : m'.1 98 23 = m.1 98 23) : zTa t n m' := ⟨h.1, h.2.1, fun k => by rw [h1]; exact h.2.2.1 k, by rw [h2]; exact h.2.2.2⟩
theorem zTa.f (h : zTa t n m) (hF : zFl zRv m m') : zTa t n m' := h.k (fun k => hF.1 _ _ (by unfold zRv; omega)) (hF.1 _ _ (by unfold zRv; omega))
theorem zMt.k (h : zMt t n m i) (hi : ∀ k, 24 ≤ k → k ≤ 27 → m'.1 98 k = m.1 98 k) (hl : m'.2.1 98 27 = m.2.1 98 27) : zMt t n m' i := by
  unfold zMt zRT
  rw [hi 24 (by omega) (by omega), hi 25 (by omega) (by omega), hi 26 (by omega) (by omega), hl]
  exact h
theorem tQ_nn (hn : 0 ≤ n) (i : Nat) : 0 ≤ tQ t n i ∧ tQ t n i ≤ n := by
  have := ztx_b (t := t) hn i
  have := ztq_b (t := t) this.2
  show 0 ≤ ztq t n (ztx t n i) ∧ ztq t n (ztx t n i) ≤ n
  omega
theorem zMt.w (h : zMt t n m i) (j : Nat) (hj : j < 9) {v : Int64} (hv : Int64.ofInt (zwh j) = v) (s : Int) (hs : 10 + (j : Int) = s) : (m.1 98 24 = 1 ∧ m.2.1 98 27 = v) ↔ tS t n i = s := by rw [← hv, ← hs]; exact h.2.2.2.1 j hj
theorem zMt.mk (h : zMt t n m i) (c s : Int) (hc : c ∈ zmks) (hs : zsgn c = s) : (m.1 98 24 = 3 ∧ m.2.1 98 27 = (iz c).toInt64) ↔ tS t n i = s := by rw [← hs]; exact h.2.2.2.2.1 c hc
theorem c_adv (hT : zTa t n m) (hm : zMt t n m i) : zCt K (d + 2) mX10_advance [rr K 98] m (fun _ m' => zFl zAv m m' ∧ zMt t n m' (i + 1)) := by
  have hb := ztx_b (t := t) hT.1.1 (i + 1)
  exact (c_X10_advance (d := d) hT.1 hT.2.1 hT.2.2.1 hT.2.2.2 hb hm.2.1).mono (fun _ m' q => q)
theorem zAvRw {m m' : zM} (h : zFl zAv m m') : zFl zRv m m' := h.mono (fun a k z => by unfold zAv at z; unfold zRv; omega)
theorem zAvMem {m m' : zM} (h : zFl zAv m m') : zMem m m' [] := zMem.nil (h.1 _ _ (by unfold zAv; omega)) (fun k => h.1 _ _ (by unfold zAv; omega))
theorem c_X10_faulty (hm : zMo t n m i) : zCt K (d + 1) mX10_faulty [rr K 98] m (fun _ m' => m' = sI m 98 28 (tQ t n i)) := by
  refine zCt.of (by decide) (Nat.le_of_ble_eq_true rfl) (vc_X10_faulty_0 (d := d) m (fun _ v1 e1 m3 e3 _ => ?_))
  rw [if_neg (by rw [hm.1]; decide), hm.2.1] at e1
  rw [e3, e1]
theorem c_want1 {x : Int} (hx : inR x) (h0 : x ≠ 0) (hT : zTa t n m) (hm : zMo t n m i) : zCt K (d + 4) mX10_want [rr K 98, .int (iz x)] m (fun _ m' => zFl zAv m m' ∧ zMo t n m' (i + 1)) := by
  refine zCt.of (by decide) (Nat.le_of_ble_eq_true rfl) (vc_X10_want_0 (d := d + 1) x m hx (fun _ => ⟨fun _ => ⟨fun q => absurd q h0, fun _ => ?_⟩, fun q => absurd (by rw [hm.1]; decide) q⟩))
  exact (c_adv (d := d + 1) hT hm.2).mono (fun _ m8 q _ _ => ⟨q.1, by rw [q.1.1 _ _ (by unfold zAv; omega)]; exact hm.1, q.2⟩)
theorem c_want0 (hm : zMo t n m i) : zCt K (d + 4) mX10_want [rr K 98, .int (iz 0)] m (fun _ m' => m' = sI m 98 28 (tQ t n i)) := by
  refine zCt.of (by decide) (Nat.le_of_ble_eq_true rfl) (vc_X10_want_0 (d := d + 1) 0 m (inRd rfl) (fun _ => ⟨fun _ => ⟨fun _ => ?_, fun q => absurd rfl q⟩, fun q => absurd (by rw [hm.1]; decide) q⟩))
  exact (c_X10_faulty (d := d + 2) hm).mono (fun _ m8 q _ _ => q)
theorem c_wantF {x : Int} (hx : inR x) (hf : 0 ≤ m.1 98 28) : zCt K (d + 4) mX10_want [rr K 98, .int (iz x)] m (fun _ m' => m' = m) :=
  zCt.of (by decide) (Nat.le_of_ble_eq_true rfl) (vc_X10_want_0 (d := d + 1) x m hx (fun _ => ⟨fun q => absurd q (by omega), fun _ => rfl⟩))
theorem c_X10_emit {x : Int} (hu : 0 ≤ m.1 98 32 ∧ m.1 98 32 < 230) : zCt K (d + 1) mX10_emit [rr K 98, .int (iz x)] m (fun _ m' => zFl zRv m m' ∧ (∀ k, k ≠ 32 → m'.1 98 k = m.1 98 k) ∧ m'.2 = m.2 ∧ zMem m m' [(iz x).toInt]) := by
  have e : iz x = iz (iz x).toInt := (iz_of _).symm
  rw [e]
  refine zCt.of (by decide) (Nat.le_of_ble_eq_true rfl) (vc_X10_emit_0 (d := d) (iz x).toInt m (inR_of _) (fun _ => ⟨hu.1, hu.2, fun m3 e3 _ => ?_⟩))
  have e32 : m3.1 98 32 = m.1 98 32 := by rw [e3, sI_ne (by omega)]
  rw [e32]
  refine ⟨⟨by omega, by omega⟩, fun m6 e6 _ => ⟨(zFl.rf.put e3 (Or.inr rfl)).put e6 (Or.inl ⟨rfl, Or.inr rfl⟩), fun k hk => by rw [e6, sI_ne (by omega), e3, sI_ne (by omega)], by rw [e6, sI_2, e3, sI_2], ⟨by rw [e6, sI_eq]; rfl, fun k hk => by rw [e6, sI_ne (by omega), e3, sI_ne (by omega)], ?_⟩⟩⟩
  show [m6.1 112 (m.1 98 32)] = _
  rw [e6, sI_ne (by omega), e3, sI_eq, ← e]
theorem c_wantNumber {x : Int} (hx : 0 ≤ x ∧ x ≤ 999) (hT : zTa t n m) (hm : zMo t n m i) : zCt K (d + 5) mX10_wantNumber [rr K 98, .int (iz x)] m (fun r m' => (tS t n i = 2 ∧ tV t n i ≤ x → r = tV t n i ∧ zFl zAv m m' ∧ zMo t n m' (i + 1)) ∧ (¬ (tS t n i = 2 ∧ tV t n i ≤ x) → m' = sI m 98 28 (tQ t n i))) := by
  obtain ⟨r1, r2, r3, r4, r5, r6, r7⟩ := hm.2
  have hb := ztx_b (t := t) hT.1.1 i
  have hq := ztq_b (t := t) hb.2
  have he := zte_b (t := t) hb.2
  have hn := hT.1
  refine zCt.of (by decide) (Nat.le_of_ble_eq_true rfl) (vc_X10_wantNumber_0 (d := d + 1) x m ⟨by omega, by omega⟩ (fun _ v1 e1 => ⟨fun hk => ⟨?_, fun h3 => ?_, fun h3 v10 e10 => ?_⟩, fun hk => ?_⟩))
  · rw [r1, r2]; exact ⟨by omega, by omega⟩
  · refine (c_want0 (d := d) hm).mono (fun _ m9 q _ _ => ⟨fun z => ?_, fun _ => q⟩)
    have := r6.mpr z.1
    omega
  · have h2 : tS t n i = 2 := r6.mp ⟨hk, by omega⟩
    have hv : v1 = tV t n i := by rw [e1]; exact r7 h2
    by_cases hc : x < v1
    · rw [if_pos hc] at e10
      rw [e10]
      exact (c_want0 (d := d) hm).mono (fun _ m9 q _ _ => ⟨fun z => by omega, fun _ => q⟩)
    · rw [if_neg hc] at e10
      rw [e10]
      exact (c_want1 (d := d) (inRd rfl) (by decide) hT hm).mono (fun _ m9 q _ _ => ⟨fun _ => ⟨hv, q⟩, fun z => absurd ⟨h2, by omega⟩ z⟩)
  · refine (c_want0 (d := d) hm).mono (fun _ m9 q _ _ => ⟨fun z => ?_, fun _ => q⟩)
    have := r6.mpr z.1
    omega
theorem c_wantValue {E : Nat} (h0 : tS t n E = 0) (hi : i ≤ E) (hT : zTa t n m) (hm : zMo t n m i) (hu : 0 ≤ m.1 98 32 ∧ m.1 98 32 < 229) : zCt K (d + 6) mX10_wantValue [rr K 98] m (fun _ m' => zPm t n m i (gV (tS t n) (tV t n) i) 1 m') := by
  have w4 := hm.2.w 4 (by decide) (v := 286610) (by decide) 14 rfl
  have w5 := hm.2.w 5 (by decide) (v := 127274) (by decide) 15 rfl
  have w6 := hm.2.w 6 (by decide) (v := 315743) (by decide) 16 rfl
  have w7 := hm.2.w 7 (by decide) (v := 361240) (by decide) 17 rfl
  have w8 := hm.2.w 8 (by decide) (v := 121882) (by decide) 18 rfl
  have hn := hT.1
  have vb : ∀ j, 0 ≤ tV t n j ∧ tV t n j ≤ 999 := fun j => ztv_b (ztx_b hn.1 j).2
  -- a number is wanted, then a sign is written
  have num : ∀ (p : Nat) (m1 : zM) (x v : Int) (g : Nat × Option (List Int)), zFl zRv m m1 → zMem m m1 [] → zMo t n m1 p → i ≤ p → p ≤ i + 1 → (0 ≤ x ∧ x ≤ 999) → (0 ≤ v ∧ v ≤ 1000) → g = (if tS t n p = 2 ∧ tV t n p ≤ x then (p + 1, some [v + tV t n p]) else (p, none)) → zCt K (d + 5) mX10_wantNumber [rr K 98, .int (iz x)] m1 (fun r12 m13 => inR r12 → zok m13 → zCt K (d + 5) mX10_emit [rr K 98, .int (iz (v + r12))] m13 (fun r16 m17 => inR r16 → zok m17 → zPm t n m i g 1 m17)) := by
    intro p m1 x v g hF1 hM1 hm1 hp0 hp1 hx hv hg
    have u1 : m1.1 98 32 = m.1 98 32 := by have := hM1.1; simpa using this
    refine (c_wantNumber (d := d) hx (hT.f hF1) hm1).mono (fun r m13 q _ _ => ?_)
    by_cases hc : tS t n p = 2 ∧ tV t n p ≤ x
    · obtain ⟨q1, q2, q3⟩ := q.1 hc
      rw [q1]
      have u2 : m13.1 98 32 = m.1 98 32 := by rw [q2.1 _ _ (by unfold zAv; omega)]; exact u1
      refine (c_X10_emit (d := d + 4) (m := m13) (by rw [u2]; omega)).mono (fun _ m17 s _ _ => ?_)
      obtain ⟨s1, s2, s3, s4⟩ := s
      have hvp := vb p
      rw [iz_toInt (inR_b (A := 3000) (by omega) (by omega) rfl)] at s4
      rw [hg, if_pos hc]
      refine ⟨(hF1.tr (zAvRw q2)).tr s1, fun c hcc => ?_, fun z => by cases z⟩
      cases hcc
      exact ⟨⟨by rw [s2 _ (by omega)]; exact q3.1, q3.2.k (fun k a b => s2 k (by omega)) (by rw [s3])⟩, by have := (hM1.tr (zAvMem q2)).tr s4; simpa using this⟩
    · have e13 := q.2 hc
      have u2 : m13.1 98 32 = m.1 98 32 := by rw [e13, sI_ne (by omega)]; exact u1
      refine (c_X10_emit (d := d + 4) (m := m13) (by rw [u2]; omega)).mono (fun _ m17 s _ _ => ?_)
      obtain ⟨s1, s2, s3, s4⟩ := s
      rw [hg, if_neg hc]
      refine ⟨(hF1.put e13 (Or.inl ⟨rfl, Or.inl (by omega)⟩)).tr s1, fun c hcc => (by cases hcc), fun _ => ⟨by rw [s2 _ (by omega), e13, sI_eq], ?_, ?_⟩⟩
      · rw [s4.1, u2]; show _ ≤ _ + (1 : Int); omega
      · rw [s4.1, u2]; show _ + (1 : Int) + _ ≤ _; show m.1 98 32 + 1 + (i : Int) ≤ m.1 98 32 + (p : Int) + 1; omega
  have pre : ∀ (x v : Int) (g : Nat × Option (List Int)), (0 ≤ x ∧ x ≤ 999) → (0 ≤ v ∧ v ≤ 1000) → g = (if tS t n (i + 1) = 2 ∧ tV t n (i + 1) ≤ x then (i + 2, some [v + tV t n (i + 1)]) else (i + 1, none)) → zCt K (d + 5) mX10_advance [rr K 98] m (fun r8 m9 => inR r8 → zok m9 → zCt K (d + 5) mX10_wantNumber [rr K 98, .int (iz x)] m9 (fun r12 m13 => inR r12 → zok m13 → zCt K (d + 5) mX10_emit [rr K 98, .int (iz (v + r12))] m13 (fun r16 m17 => inR r16 → zok m17 → zPm t n m i g 1 m17))) := by
    intro x v g hx hv hg
    refine (c_adv (d := d + 3) hT hm.2).mono (fun _ m9 q _ _ => ?_)
    exact num (i + 1) m9 x v g (zAvRw q.1) (zAvMem q.1) ⟨by rw [q.1.1 _ _ (by unfold zAv; omega)]; exact hm.1, q.2⟩ (by omega) (by omega) hx hv hg
  have one : ∀ (v : Int) (g : Nat × Option (List Int)), (0 ≤ v ∧ v ≤ 1000) → g = (i + 1, some [v]) → zCt K (d + 5) mX10_emit [rr K 98, .int (iz v)] m (fun r38 m39 => inR r38 → zok m39 → zCt K (d + 5) mX10_advance [rr K 98] m39 (fun r40 m41 => inR r40 → zok m41 → zPm t n m i g 1 m41)) := by
    intro v g hv hg
    refine (c_X10_emit (d := d + 4) (m := m) (by omega)).mono (fun _ m39 s _ _ => ?_)
    obtain ⟨s1, s2, s3, s4⟩ := s
    rw [iz_toInt (inR_b (A := 3000) (by omega) (by omega) rfl)] at s4
    refine (c_adv (d := d + 3) (i := i) (hT.f s1) (hm.2.k (fun k a b => s2 k (by omega)) (by rw [s3]))).mono (fun _ m41 q _ _ => ?_)
    rw [hg]
    refine ⟨s1.tr (zAvRw q.1), fun c hcc => ?_, fun z => by cases z⟩
    cases hcc
    exact ⟨⟨by rw [q.1.1 _ _ (by unfold zAv; omega), s2 _ (by omega)]; exact hm.1, q.2⟩, by have := s4.tr (zAvMem q.1); simpa using this⟩
  refine zCt.of (by decide) (Nat.le_of_ble_eq_true rfl) (vc_X10_wantValue_0 (d := d + 1) m (fun _ => ⟨fun hw => ?_, fun h4 => ⟨fun hw => ?_, fun h5 => ⟨fun hw => ?_, fun h6 => ⟨fun hw => ?_, fun h7 => ⟨fun hw => ?_, fun h8 => ?_⟩⟩⟩⟩⟩))
  · intro v6 e6
    rw [b2i_p hw] at e6
    have hs := w4.mp hw
    refine (pre 4 200 (gV (tS t n) (tV t n) i) (by omega) (by omega) ?_).mono (fun _ m9 q a b v10 e10 => ?_)
    · unfold gV; rw [if_neg (by omega), if_pos hs]
    · rw [e6, if_neg (by decide)] at e10
      rw [e10]
      refine (q a b).mono (fun r m13 q2 a b v14 e14 => ?_)
      rw [e6, if_neg (by decide)] at e14
      rw [e14]
      exact q2 a b
  · intro v6 e6
    rw [b2i_n h4] at e6
    have hs := w5.mp hw
    refine (pre 9 300 (gV (tS t n) (tV t n) i) (by omega) (by omega) ?_).mono (fun _ m9 q a b v10 e10 => ?_)
    · unfold gV; rw [if_neg (by omega), if_neg (by omega), if_pos hs]
    · rw [e6, if_pos rfl] at e10
      rw [e10]
      refine (q a b).mono (fun r m13 q2 a b v14 e14 => ?_)
      rw [e6, if_pos rfl] at e14
      rw [e14]
      exact q2 a b
  · have hs := w6.mp hw
    refine ⟨fun _ => one 400 _ (by omega) ?_, fun z => absurd hw z⟩
    unfold gV; rw [if_neg (by omega), if_neg (by omega), if_neg (by omega), if_pos hs]
  · have hs := w7.mp hw
    refine ⟨fun z => absurd z h6, fun _ v31 e31 => ?_⟩
    rw [if_pos hw] at e31
    rw [e31]
    refine one 401 _ (by omega) ?_
    unfold gV; rw [if_neg (by omega), if_neg (by omega), if_neg (by omega), if_neg (by omega), if_pos hs]
  · have hs := w8.mp hw
    refine ⟨fun z => absurd z h6, fun _ v31 e31 => ?_⟩
    rw [if_neg h7] at e31
    rw [e31]
    refine one 402 _ (by omega) ?_
    unfold gV; rw [if_neg (by omega), if_neg (by omega), if_neg (by omega), if_neg (by omega), if_neg (by omega), if_pos hs]
  · have n4 : ¬ tS t n i = 14 := fun z => h4 (w4.mpr (by omega))
    have n5 : ¬ tS t n i = 15 := fun z => h5 (w5.mpr (by omega))
    have n6 : ¬ tS t n i = 16 := fun z => h6 (w6.mpr (by omega))
    have n7 : ¬ tS t n i = 17 := fun z => h7 (w7.mpr (by omega))
    have n8 : ¬ tS t n i = 18 := fun z => h8 (w8.mpr (by omega))
    refine num i m 999 1000 _ zFl.rf (zMem.nil rfl (fun _ => rfl)) hm (by omega) (by omega) (by omega) (by omega) ?_
    have hv := vb i
    unfold gV
    by_cases h2 : tS t n i = 2
    · rw [if_pos h2, if_pos ⟨h2, hv.2⟩]
    · rw [if_neg h2, if_neg n4, if_neg n5, if_neg n6, if_neg n7, if_neg n8, if_neg (fun z => h2 z.1)]
end MV
