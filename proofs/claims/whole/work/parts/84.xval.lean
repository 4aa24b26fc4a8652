/-! ===== the class's parser: values, sums, comparisons ===== -/
def zPx (a k : Int) : Prop := (a = 56 ∧ (k = 6 ∨ k = 7)) ∨ (a = 58 ∧ k = 3) ∨ a = 59
def zAat (S : Nat → Int) (m : zM) (i : Nat) : Prop := m.1 56 6 = i ∧ m.1 56 7 = S i
def zAap (m m' : zM) (cs : List Int) : Prop := m'.1 58 3 = m.1 58 3 + cs.length ∧ (∀ k, k < m.1 58 3 → m'.1 59 k = m.1 59 k) ∧ (zseg (m'.1 59) (m.1 58 3) cs.length).map zxm = cs
theorem zseg_add {f : Int → Int} {n k : Nat} : ∀ {b : Int}, zseg f b (n + k) = zseg f b n ++ zseg f (b + n) k := by
  induction n with
  | zero => intro b; rw [Nat.zero_add]; show _ = [] ++ zseg f (b + 0) k; rw [Int.add_zero]; rfl
  | succ n ih =>
    intro b
    rw [show n + 1 + k = (n + k) + 1 by omega]
    show f b :: zseg f (b + 1) (n + k) = (f b :: zseg f (b + 1) n) ++ _
    rw [ih, show b + 1 + (n : Int) = b + ((n + 1 : Nat) : Int) by omega]
    rfl
theorem zAap.nil {m m' : zM} (h3 : m'.1 58 3 = m.1 58 3) (h59 : ∀ k, m'.1 59 k = m.1 59 k) : zAap m m' [] := ⟨by rw [h3]; show _ = _ + (0 : Int); omega, fun k _ => h59 k, rfl⟩
theorem zAap.tr {m m1 m2 : zM} {a b : List Int} (h : zAap m m1 a) (h2 : zAap m1 m2 b) : zAap m m2 (a ++ b) := by
  obtain ⟨p1, p2, p3⟩ := h
  obtain ⟨q1, q2, q3⟩ := h2
  refine ⟨?_, fun k hk => ?_, ?_⟩
  · rw [q1, p1, List.length_append]; omega
  · rw [q2 k (by omega), p2 k hk]
  · rw [List.length_append, zseg_add, List.map_append, ← p1, q3]
    have : zseg (m2.1 59) (m.1 58 3) a.length = zseg (m1.1 59) (m.1 58 3) a.length := zseg_congr (fun i h1 h2 => q2 i (by omega))
    rw [this, p3]
def zPo (S : Nat → Int) (m : zM) (g : Nat × Option (List Int)) (r : Int) (m' : zM) : Prop := zFr zPx m m' ∧ zAat S m' g.1 ∧ (∀ c, g.2 = some c → r = 1 ∧ zAap m m' c) ∧ (g.2 = none → r = 0)
section XV
variable {K : zCx} {d : Nat} {m : zM} {S V : Nat → Int} {E : Nat}
theorem c_X5_step {i : Nat} (hD : ∀ j : Nat, j ≤ E → m.1 61 j = S j ∧ m.1 63 j = V j) (hE : E ≤ 220) (hat : zAat S m i) (hi : i < E) (hSi : S i ≠ 0) : zCt K (d + 1) mX5_step [rr K 56] m (fun _ m' => zFr zPx m m' ∧ zAat S m' (i + 1) ∧ zAap m m' []) := by
  refine zCt.of (by decide) (Nat.le_of_ble_eq_true rfl) (vc_X5_step_0 (d := d) m (fun _ => ?_))
  rw [hat.1, hat.2]
  refine ⟨fun q => absurd q hSi, fun _ => ⟨fun q => absurd q (by omega), fun _ => ⟨⟨by omega, by omega⟩, fun m12 e12 _ => ?_⟩⟩⟩
  have e6 : m12.1 56 6 = (i : Int) + 1 := by rw [e12, sI_eq]
  rw [e6]
  refine ⟨by omega, by omega, fun m16 e16 _ => ⟨(zFr.rf.put e12 (Or.inl ⟨rfl, Or.inl rfl⟩)).put e16 (Or.inl ⟨rfl, Or.inr rfl⟩), ⟨by rw [e16, sI_ne (by omega), e6]; omega, ?_⟩, zAap.nil (by rw [e16, sI_ne (by omega), e12, sI_ne (by omega)]) (fun k => by rw [e16, sI_ne (by omega), e12, sI_ne (by omega)])⟩⟩
  rw [e16, sI_eq, e12, sI_ne (by omega)]
  exact (hD (i + 1) (by omega)).1
theorem c_X8_add58 {x1 x2 : Int} (h1 : 0 ≤ x1 ∧ x1 ≤ 100) (h2 : 0 ≤ x2 ∧ x2 ≤ 999) (hu : 0 ≤ m.1 58 3 ∧ m.1 58 3 < 220) : zCt K (d + 1) mX8_add [rr K 58, .int (iz x1), .int (iz x2)] m (fun _ m' => zFr zPx m m' ∧ (∀ k, m'.1 56 k = m.1 56 k) ∧ zAap m m' [zxm (x1 * 1000 + x2)]) := by
  refine zCt.of (by decide) (Nat.le_of_ble_eq_true rfl) (vc_X8_add_0 (d := d) 58 x1 x2 m (by unfold zWi; omega) ⟨by omega, by omega⟩ ⟨by omega, by omega⟩ (fun _ => ⟨fun _ => ⟨hu.1, hu.2, ⟨by omega, by omega⟩, fun m5 e5 _ => ?_⟩, fun q => absurd hu.2 q⟩))
  have e5 : m5 = sI m 59 (m.1 58 3) (x1 * 1000 + x2) := e5
  have e3 : m5.1 58 3 = m.1 58 3 := by rw [e5, sI_ne (by omega)]
  rw [e3]
  refine ⟨⟨by omega, by omega⟩, fun m8 e8 _ => ⟨(zFr.rf.put e5 (Or.inr (Or.inr rfl))).put e8 (Or.inr (Or.inl ⟨rfl, rfl⟩)), fun k => by rw [e8, sI_ne (by omega), e5, sI_ne (by omega)], ⟨by rw [e8, sI_eq]; rfl, fun k hk => by rw [e8, sI_ne (by omega), e5, sI_ne (by omega)], ?_⟩⟩⟩
  show [zxm (m8.1 59 (m.1 58 3))] = _
  rw [e8, sI_ne (by omega), e5, sI_eq]
theorem zD.k {m m' : zM} (hD : ∀ j : Nat, j ≤ E → m.1 61 j = S j ∧ m.1 63 j = V j) (hF : zFr zPx m m') : ∀ j : Nat, j ≤ E → m'.1 61 j = S j ∧ m'.1 63 j = V j := fun j hj => ⟨by rw [hF.1 _ _ (by unfold zPx; omega)]; exact (hD j hj).1, by rw [hF.1 _ _ (by unfold zPx; omega)]; exact (hD j hj).2⟩
theorem zAat.k {m m' : zM} {i : Nat} (h : zAat S m i) (e : ∀ k, m'.1 56 k = m.1 56 k) : zAat S m' i := ⟨by rw [e]; exact h.1, by rw [e]; exact h.2⟩
/-- add, then step -/
theorem c_addstep {x1 x2 : Int} {i : Nat} {Q : Int → zM → Prop} (h0 : S E = 0) (hD : ∀ j : Nat, j ≤ E → m.1 61 j = S j ∧ m.1 63 j = V j) (hE : E ≤ 220) (h1 : 0 ≤ x1 ∧ x1 ≤ 100) (h2 : 0 ≤ x2 ∧ x2 ≤ 999) (hat : zAat S m i) (hi : i ≤ E) (hSi : S i ≠ 0) (hu : 0 ≤ m.1 58 3 ∧ m.1 58 3 ≤ i) (k : ∀ r m', zFr zPx m m' → zAat S m' (i + 1) → zAap m m' [zxm (x1 * 1000 + x2)] → Q r m') : zCt K (d + 1) mX8_add [rr K 58, .int (iz x1), .int (iz x2)] m (fun _ m' => zCt K (d + 1) mX5_step [rr K 56] m' Q) := by
  have hi := gE h0 hi hSi
  refine (c_X8_add58 h1 h2 (by omega)).mono (fun _ m' q => ?_)
  obtain ⟨q1, q2, q3⟩ := q
  refine (c_X5_step (zD.k hD q1) hE (hat.k q2) hi hSi).mono (fun r m2 p => ?_)
  exact k r m2 (q1.tr p.1) p.2.1 (by have := q3.tr p.2.2; simpa using this)
theorem c_X5_numbered {x1 x2 : Int} {i : Nat} (h0 : S E = 0) (hV : ∀ j, 0 ≤ V j ∧ V j ≤ 999) (hD : ∀ j : Nat, j ≤ E → m.1 61 j = S j ∧ m.1 63 j = V j) (hE : E ≤ 220) (h1 : 0 ≤ x1 ∧ x1 ≤ 100) (h2 : 0 ≤ x2 ∧ x2 ≤ 999) (hat : zAat S m i) (hi : i ≤ E) (hu : 0 ≤ m.1 58 3 ∧ m.1 58 3 ≤ i) : zCt K (d + 2) mX5_numbered [rr K 56, .int (iz x1), .int (iz x2)] m (zPo S m (if S i = 2 ∧ V i ≤ x2 then (i + 1, some [zxm (x1 * 1000 + V i)]) else (i, none))) := by
  refine zCt.of (by decide) (Nat.le_of_ble_eq_true rfl) (vc_X5_numbered_0 (d := d) x1 x2 m ⟨by omega, by omega⟩ ⟨by omega, by omega⟩ (fun _ => ?_))
  rw [hat.1, hat.2, (hD i hi).2]
  refine ⟨fun hs => ⟨by omega, by omega, fun hv => ?_, fun hv => ?_⟩, fun hs => ?_⟩
  · rw [if_pos ⟨hs, hv⟩]
    refine (c_addstep (d := d) (Q := fun _ m8 => zPo S m (i + 1, some [zxm (x1 * 1000 + V i)]) 1 m8) h0 hD hE h1 (hV i) hat hi (by omega) hu (fun r m' a b c => ⟨a, b, fun c' q => by cases q; exact ⟨rfl, c⟩, fun q => by cases q⟩)).mono (fun _ m6 q _ _ => q.mono (fun _ _ z _ _ => z))
  · rw [if_neg (fun q => hv q.2)]
    exact ⟨zFr.rf, hat, fun c q => (by cases q), fun _ => rfl⟩
  · rw [if_neg (fun q => hs q.1)]
    exact ⟨zFr.rf, hat, fun c q => (by cases q), fun _ => rfl⟩
theorem c_X5_plain {x1 : Int} {i : Nat} (h0 : S E = 0) (hD : ∀ j : Nat, j ≤ E → m.1 61 j = S j ∧ m.1 63 j = V j) (hE : E ≤ 220) (h1 : 0 ≤ x1 ∧ x1 ≤ 100) (hat : zAat S m i) (hi : i ≤ E) (hSi : S i ≠ 0) (hu : 0 ≤ m.1 58 3 ∧ m.1 58 3 ≤ i) : zCt K (d + 2) mX5_plain [rr K 56, .int (iz x1)] m (zPo S m (i + 1, some [zxm (x1 * 1000 + 0)])) := by
  refine zCt.of (by decide) (Nat.le_of_ble_eq_true rfl) (vc_X5_plain_0 (d := d) x1 m ⟨by omega, by omega⟩ (fun _ => ?_))
  exact (c_addstep (d := d) (Q := fun _ m8 => zPo S m (i + 1, some [zxm (x1 * 1000 + 0)]) 1 m8) h0 hD hE h1 ⟨by omega, by omega⟩ hat hi hSi hu (fun r m' a b c => ⟨a, b, fun c' q => by cases q; exact ⟨rfl, c⟩, fun q => by cases q⟩)).mono (fun _ m6 q _ _ => q.mono (fun _ _ z _ _ => z))
theorem zPo.r {g : Nat × Option (List Int)} {r : Int} {m' : zM} (h : zPo S m g r m') : r = 0 ∨ r = 1 := by
  cases hg : g.2 with
  | none => exact Or.inl (h.2.2.2 hg)
  | some c => exact Or.inr (h.2.2.1 c hg).1
theorem zxm_0 {v : Int} (h : 0 ≤ v ∧ v ≤ 999) : zxm (0 * 1000 + v) = 1000 + v := by unfold zxm; (repeat' split) <;> omega
theorem zxm_1 {v : Int} (h : 0 ≤ v ∧ v ≤ 4) : zxm (1 * 1000 + v) = 200 + v := by unfold zxm; (repeat' split) <;> omega
theorem zxm_2 {v : Int} (h : 0 ≤ v ∧ v ≤ 9) : zxm (2 * 1000 + v) = 300 + v := by unfold zxm; (repeat' split) <;> omega
theorem c_X5_value {i : Nat} (h0 : S E = 0) (hV : ∀ j, 0 ≤ V j ∧ V j ≤ 999) (hD : ∀ j : Nat, j ≤ E → m.1 61 j = S j ∧ m.1 63 j = V j) (hE : E ≤ 220) (hat : zAat S m i) (hi : i ≤ E) (hu : 0 ≤ m.1 58 3 ∧ m.1 58 3 ≤ i) : zCt K (d + 3) mX5_value [rr K 56] m (zPo S m (gV S V i)) := by
  have no : (∀ w, w = 2 ∨ 14 ≤ w ∧ w ≤ 18 → S i ≠ w) → zPo S m (gV S V i) 0 m := by
    intro h
    have e : gV S V i = (i, none) := by
      unfold gV
      rw [if_neg (h 2 (by omega)), if_neg (h 14 (by omega)), if_neg (h 15 (by omega)), if_neg (h 16 (by omega)), if_neg (h 17 (by omega)), if_neg (h 18 (by omega))]
    rw [e]
    exact ⟨zFr.rf, hat, fun c q => (by cases q), fun _ => rfl⟩
  have two : ∀ (w x1 x2 : Int) (hw : S i = w) (hne : S i ≠ 0) (h1 : 0 ≤ x1 ∧ x1 ≤ 100) (h2 : 0 ≤ x2 ∧ x2 ≤ 999) (hg : gV S V i = if S (i + 1) = 2 ∧ V (i + 1) ≤ x2 then (i + 2, some [zxm (x1 * 1000 + V (i + 1))]) else (i + 1, none)), zCt K (d + 2) mX5_step [rr K 56] m (fun r5 m6 => inR r5 → zok m6 → zCt K (d + 2) mX5_numbered [rr K 56, .int (iz x1), .int (iz x2)] m6 (fun r7 m8 => inR r7 → zok m8 → (r7 = 0 ∨ r7 = 1) ∧ zPo S m (gV S V i) r7 m8)) := by
    intro w x1 x2 hw hne h1 h2 hg
    have hi2 := gE h0 hi hne
    refine (c_X5_step (d := d + 1) hD hE hat hi2 hne).mono (fun _ m6 q _ _ => ?_)
    obtain ⟨q1, q2, q3⟩ := q
    have h3 : m6.1 58 3 = m.1 58 3 := by have := q3.1; simpa using this
    refine (c_X5_numbered (d := d) (m := m6) (i := i + 1) h0 hV (zD.k hD q1) hE h1 h2 q2 (by omega) (by rw [h3]; omega)).mono (fun r m8 p _ _ => ⟨p.r, ?_⟩)
    rw [hg]
    obtain ⟨p1, p2, p3, p4⟩ := p
    by_cases hc : S (i + 1) = 2 ∧ V (i + 1) ≤ x2
    · rw [if_pos hc] at p2 p3 p4 ⊢
      refine ⟨q1.tr p1, p2, fun c hcc => ⟨(p3 c hcc).1, ?_⟩, p4⟩
      have := q3.tr (p3 c hcc).2
      simpa using this
    · rw [if_neg hc] at p2 p3 p4 ⊢
      exact ⟨q1.tr p1, p2, fun c hcc => (by cases hcc), p4⟩
  refine zCt.of (by decide) (Nat.le_of_ble_eq_true rfl) (vc_X5_value_0 (d := d) m (fun _ => ?_))
  rw [hat.2]
  refine ⟨fun h => ?_, fun h => no (by omega), fun h => no (by omega), fun h => no (by omega), fun h => no (by omega), fun h => no (by omega), fun h => no (by omega), fun h => no (by omega), fun h => no (by omega), fun h => no (by omega), fun h => no (by omega), fun h => no (by omega), fun h => ?_, fun h => ?_, fun h => ?_, fun h => ?_, fun h => ?_, fun h => no (by omega)⟩
  · refine (c_X5_numbered (d := d) (m := m) (i := i) h0 hV hD hE (x1 := 0) (x2 := 999) (by omega) (by omega) hat hi hu).mono (fun r m3 p _ _ => ⟨p.r, ?_⟩)
    have e : gV S V i = (i + 1, some [1000 + V i]) := by unfold gV; rw [if_pos h]
    rw [if_pos ⟨h, (hV i).2⟩, zxm_0 (hV i)] at p
    rw [e]; exact p
  · refine two 14 1 4 h (by omega) (by omega) (by omega) ?_
    unfold gV
    rw [if_neg (by omega), if_pos h]
    by_cases hc : S (i + 1) = 2 ∧ V (i + 1) ≤ 4
    · rw [if_pos hc, if_pos hc, zxm_1 ⟨(hV _).1, hc.2⟩]
    · rw [if_neg hc, if_neg hc]
  · refine two 15 2 9 h (by omega) (by omega) (by omega) ?_
    unfold gV
    rw [if_neg (by omega), if_neg (by omega), if_pos h]
    by_cases hc : S (i + 1) = 2 ∧ V (i + 1) ≤ 9
    · rw [if_pos hc, if_pos hc, zxm_2 ⟨(hV _).1, hc.2⟩]
    · rw [if_neg hc, if_neg hc]
  · refine (c_X5_plain (d := d) (x1 := 3) h0 hD hE (by omega) hat hi (by omega) hu).mono (fun r m3 p _ _ => ⟨p.r, ?_⟩)
    have e : gV S V i = (i + 1, some [400]) := by unfold gV; rw [if_neg (by omega), if_neg (by omega), if_neg (by omega), if_pos h]
    rw [e]; exact p
  · refine (c_X5_plain (d := d) (x1 := 4) h0 hD hE (by omega) hat hi (by omega) hu).mono (fun r m3 p _ _ => ⟨p.r, ?_⟩)
    have e : gV S V i = (i + 1, some [401]) := by unfold gV; rw [if_neg (by omega), if_neg (by omega), if_neg (by omega), if_neg (by omega), if_pos h]
    rw [e]; exact p
  · refine (c_X5_plain (d := d) (x1 := 5) h0 hD hE (by omega) hat hi (by omega) hu).mono (fun r m3 p _ _ => ⟨p.r, ?_⟩)
    have e : gV S V i = (i + 1, some [402]) := by unfold gV; rw [if_neg (by omega), if_neg (by omega), if_neg (by omega), if_neg (by omega), if_neg (by omega), if_pos h]
    rw [e]; exact p
end XV
