/-! ===== the reference's read ===== -/
def zRrd (a k : Int) : Prop := (a = 98 ∧ ((24 ≤ k ∧ k ≤ 28) ∨ k = 32 ∨ k = 33)) ∨ a = 112 ∨ a = 113 ∨ a = 114
def zRre (a k : Int) : Prop := (a = 98 ∧ ((23 ≤ k ∧ k ≤ 28) ∨ k = 32 ∨ k = 33 ∨ k = 10)) ∨ a = 112 ∨ a = 113 ∨ a = 114 ∨ a = 104 ∨ a = 105
/-- where the i-th row begins, by the ends f -/
def zbg (f : Int → Int) (i : Int) : Int := if i = 0 then 0 else f (i - 1)
def zRow (f g : Int → Int) (u : Int) (ws : List (List Int)) : Prop := ∀ i : Nat, i < ws.length → (0 ≤ zbg f i ∧ zbg f i ≤ f i ∧ f i ≤ u) ∧ zseg g (zbg f i) (f i - zbg f i).toNat = ws.getD i []
section MR
variable {K : zCx} {d : Nat} {m : zM} {t : Int → Int} {n : Int} {i E : Nat}
theorem c_wantCond (h0 : tS t n E = 0) (hE : E ≤ 220) (hi : i ≤ E) (hT : zTa t n m) (hm : zMo t n m i) (hu : 0 ≤ m.1 98 32 ∧ m.1 98 32 ≤ i) : zCt K (d + 9) mX10_wantCond [rr K 98] m (fun _ m2 => zFl zRcd m m2 ∧ (∀ A, (gL (tS t n) (tV t n) false 222 0 false false 0 i []).2 = some A → zMo t n m2 (gL (tS t n) (tV t n) false 222 0 false false 0 i []).1 ∧ zMem m m2 A) ∧ ((gL (tS t n) (tV t n) false 222 0 false false 0 i []).2 = none → m2.1 98 28 = tQ t n (gL (tS t n) (tV t n) false 222 0 false false 0 i []).1)) := by
  refine zCt.of (by decide) (Nat.le_of_ble_eq_true rfl) (vc_X10_wantCond_0 (d := d + 1) m (fun _ m1 e1 _ => ?_))
  have e32 : m1.1 98 32 = m.1 98 32 := by rw [e1, sI_ne (by omega)]
  have e33 : m1.1 98 33 = 0 := by rw [e1, sI_eq]
  have hF1 : zFl zRcd m m1 := zFl.rf.put e1 (Or.inl ⟨rfl, Or.inr (Or.inr rfl)⟩)
  have hm1 : zMo t n m1 i := ⟨by rw [e1, sI_ne (by omega)]; exact hm.1, hm.2.k (fun k a b => by rw [e1, sI_ne (by omega)]) (by rw [e1, sI_2])⟩
  have hmm : zMem m m1 [] := zMem.nil e32 (fun k => by rw [e1, sI_ne (by omega)])
  refine t_wc (m0 := m) h0 hE hT hu.1 222 0 false false 0 i [] [] m1 m1 _ (by omega) hi (by omega) (Or.inl rfl) hF1 hm1 (zMem.nil rfl (fun _ => rfl)) ⟨e33, rfl⟩ (by omega) (by omega) ?_ ?_
  · intro hg m2 hF2 h28 _ _
    exact ⟨hF2, fun A z => (by rw [hg] at z; cases z), fun _ => h28⟩
  · intro j a2 e' c' m2 hgl n12 n11 hjE hF2 hmo2 hme2 hst2 hle2 hU2
    have w11 := hmo2.2.w 1 (by decide) (v := 423) (by decide) 11 rfl
    have w12 := hmo2.2.w 2 (by decide) (v := 1111) (by decide) 12 rfl
    refine vc_X10_wantCond_11 (d := d + 1) _ 0 1 m2 (inRd rfl) (inRd rfl) (inRd rfl) (fun _ => ⟨fun q => absurd q (by decide), fun _ => ⟨fun _ => ⟨fun _ => ⟨fun q => absurd (w12.mp q) n12, fun _ => ⟨fun q => absurd (w11.mp q) n11, fun _ => ⟨fun _ => ?_, fun q => absurd (Int.le_refl _) q⟩⟩⟩, fun q => absurd rfl q⟩, fun q => absurd (by rw [hmo2.1]; decide) q⟩⟩)
    have s33 := hst2.1
    refine vc_X10_wantCond_11 (d := d + 1) _ 0 0 m2 (inRd rfl) (inRd rfl) (inRd rfl) (fun _ => ⟨fun _ => ?_, fun q => absurd rfl q⟩)
    refine (c_settleW (d := d + 6) (x := 9) (inRd rfl) [] (gb1 c' 8 ++ gb1 e' 9) (Or.inl rfl) gb1_m9 (by rw [gb1_rev, ← List.append_assoc]; exact hst2) (by omega) (by omega)).mono (fun _ m3 q _ _ => ?_)
    obtain ⟨q1, q2, q3, q4⟩ := q
    rw [hgl]
    refine ⟨hF2.tr (zRx_c q1), fun A z => ?_, fun z => (by cases z)⟩
    cases z
    exact ⟨hmo2.x q1 q4, by have := (hmm.tr hme2).tr q3; simpa using this⟩
theorem zRow.add {f g f' g' : Int → Int} {u u' : Int} {ws : List (List Int)} {A : List Int} (h : zRow f g u ws) (hu : u = zbg f ws.length) (h0 : 0 ≤ u) (hu' : u' = u + A.length) (hf : ∀ k, k < (ws.length : Int) → f' k = f k) (hf' : f' ws.length = u') (hg : ∀ k, k < u → g' k = g k) (hA : zseg g' u A.length = A) : zRow f' g' u' (ws ++ [A]) := by
  intro i hi
  rw [List.length_append] at hi
  have hi : i < ws.length + 1 := hi
  have eb : zbg f' i = zbg f i := by
    unfold zbg
    split
    · rfl
    · exact hf _ (by omega)
  rw [eb]
  by_cases hiw : i = ws.length
  · subst hiw
    rw [hf', ← hu, hu', show (u + A.length - u).toNat = A.length by omega]
    refine ⟨by omega, ?_⟩
    rw [hA]
    simp [List.getD]
  · have hil : i < ws.length := by omega
    obtain ⟨q1, q2⟩ := h i hil
    rw [hf i (by omega)]
    refine ⟨by omega, ?_⟩
    have : zseg g' (zbg f i) (f i - zbg f i).toNat = zseg g (zbg f i) (f i - zbg f i).toNat := zseg_congr (fun k a b => hg k (by omega))
    rw [this, q2]
    simp [List.getD, List.getElem?_append_left hil]
theorem t_read_156 {x1 : Int} (hx : inR x1) (Q : Int → zM → Prop) : ∀ (g k : Nat) (m1 : zM), (k : Int) + g = m.1 98 32 → m.1 98 32 ≤ 230 → zFr (fun a _ => a = 105) m m1 → (∀ j, 0 ≤ j → j < (k : Int) → m1.1 105 j = m.1 112 j) → (∀ m2, zFr (fun a _ => a = 105) m m2 → (∀ j, 0 ≤ j → j < m.1 98 32 → m2.1 105 j = m.1 112 j) → Q x1 m2) → zV K mX10_read (d + 10) 156 [(0, rr K 98), (1, .int (iz x1)), (2, .int (iz (k : Int)))] [] m1 Q := by
  intro g
  induction g with
  | zero =>
    intro k m1 h1 h2 hF hc hQ
    have e32 : m1.1 98 32 = m.1 98 32 := hF.1 _ _ (by omega)
    refine vc_X10_read_156 (d := d + 1) x1 _ m1 hx ⟨by omega, by omega⟩ (fun _ => ⟨fun _ => hQ m1 hF (fun j a b => hc j a (by omega)), fun q => absurd (by omega) q⟩)
  | succ g ih =>
    intro k m1 h1 h2 hF hc hQ
    have e32 : m1.1 98 32 = m.1 98 32 := hF.1 _ _ (by omega)
    refine vc_X10_read_156 (d := d + 1) x1 _ m1 hx ⟨by omega, by omega⟩ (fun _ => ⟨fun q => absurd q (by omega), fun _ => ⟨by omega, by omega, fun m4 e4 _ => ih (k + 1) m4 (by omega) h2 (hF.put e4 rfl) (fun j a b => ?_) hQ⟩⟩)
    rw [e4, sI_at]
    by_cases z : j = k
    · rw [if_pos (by omega), z]; exact hF.1 _ _ (by omega)
    · rw [if_neg (by omega)]; exact hc j a (by omega)
theorem t_read_131 {x1 : Int} (hx : 0 ≤ x1 ∧ x1 ≤ 8) (Q : Int → zM → Prop) : ∀ (g k : Nat) (m1 : zM), (k : Int) + g = x1 → (0 ≤ m.1 98 32 ∧ m.1 98 32 ≤ 230) → zFr (fun a _ => a = 104) m m1 → (∀ j, 0 ≤ j → j < (k : Int) → m1.1 104 j = m.1 114 j) → (∀ m2, zFr (fun a _ => a = 104 ∨ a = 105) m m2 → (∀ j, 0 ≤ j → j < x1 → m2.1 104 j = m.1 114 j) → (∀ j, 0 ≤ j → j < m.1 98 32 → m2.1 105 j = m.1 112 j) → Q x1 m2) → zV K mX10_read (d + 10) 131 [(0, rr K 98), (1, .int (iz x1)), (2, .int (iz (k : Int)))] [] m1 Q := by
  intro g
  induction g with
  | zero =>
    intro k m1 h1 h2 hF hc hQ
    have e32 : m1.1 98 32 = m.1 98 32 := hF.1 _ _ (by omega)
    refine vc_X10_read_131 (d := d + 1) x1 _ m1 ⟨by omega, by omega⟩ ⟨by omega, by omega⟩ (fun _ => ⟨fun _ => ?_, fun q => absurd (by omega) q⟩)
    refine t_read_156 (m := m1) ⟨by omega, by omega⟩ Q (m.1 98 32).toNat 0 m1 (by rw [e32]; omega) (by omega) zFr.rf (fun j a b => absurd b (by show ¬ j < (0 : Int); omega)) (fun m2 q1 q2 => hQ m2 ((hF.mono (fun a k z => Or.inl z)).tr (q1.mono (fun a k z => Or.inr z))) (fun j a b => ?_) (fun j a b => ?_))
    · rw [q1.1 _ _ (by omega)]; exact hc j a (by omega)
    · rw [q2 j a (by omega)]; exact hF.1 _ _ (by omega)
  | succ g ih =>
    intro k m1 h1 h2 hF hc hQ
    refine vc_X10_read_131 (d := d + 1) x1 _ m1 ⟨by omega, by omega⟩ ⟨by omega, by omega⟩ (fun _ => ⟨fun q => absurd q (by omega), fun _ => ⟨by omega, by omega, fun m4 e4 _ => ih (k + 1) m4 (by omega) h2 (hF.put e4 rfl) (fun j a b => ?_) hQ⟩⟩)
    rw [e4, sI_at]
    by_cases z : j = k
    · rw [if_pos (by omega), z]; exact hF.1 _ _ (by omega)
    · rw [if_neg (by omega)]; exact hc j a (by omega)
/-- what read does in the reference -/
def zRdM (t : Int → Int) (n : Int) (m : zM) (g : Nat × Option (List (List Int))) (r : Int) (m2 : zM) : Prop := zFl zRre m m2 ∧ m2.1 98 23 = 0 ∧ (∀ ws, g.2 = some ws → r = ws.length ∧ m2.1 98 10 = ws.length ∧ zRow (m2.1 104) (m2.1 105) 230 ws) ∧ (g.2 = none → r = -100 - tQ t n g.1 ∧ m2.1 98 10 = m.1 98 10 ∧ (∀ k, m2.1 104 k = m.1 104 k) ∧ ∀ k, m2.1 105 k = m.1 105 k)
theorem t_read_21 (h0 : tS t n E = 0) (hE : E ≤ 220) (hT : zTa t n m) : ∀ (f nw i : Nat) (ws : List (List Int)) (m' : zM), f + nw = 9 → nw ≤ 8 → nw = ws.length → i ≤ E → zFl zRrd m m' → zMo t n m' i → zRow (m'.1 114) (m'.1 112) (m'.1 98 32) ws → m'.1 98 32 = zbg (m'.1 114) ws.length → 0 ≤ m'.1 98 32 → m'.1 98 32 ≤ i → zV K mX10_read (d + 10) 21 [(0, rr K 98), (1, .int (iz (nw : Int)))] [] m' (zRdM t n m (gW (tS t n) (tV t n) false f nw i ws)) := by
  have nn := hT.1
  have up : ∀ {a b : zM}, zFl zRcd a b → zFl zRrd a b := fun h => h.mono (fun a k z => by unfold zRcd at z; unfold zRrd; omega)
  have rf : ∀ (g : Nat × Option (List (List Int))) (x1 : Int) (m2 : zM), g.2 = none → inR x1 → zFl zRrd m m2 → m2.1 98 28 = tQ t n g.1 → zV K mX10_read (d + 10) 21 [(0, rr K 98), (1, .int (iz x1))] [] m2 (zRdM t n m g) := by
    intro g x1 m2 hg hx hF h28
    have hq := tQ_nn (t := t) nn.1 g.1
    have fin : ∀ m3, m3 = sI m2 98 23 0 → (¬ (m3.1 98 28 < 0)) ∧ inR (-100 - m3.1 98 28) ∧ zRdM t n m g (-100 - m3.1 98 28) m3 := by
      intro m3 e3
      have e28 : m3.1 98 28 = tQ t n g.1 := by rw [e3, sI_ne (by omega)]; exact h28
      rw [e28]
      refine ⟨by omega, ⟨by omega, by omega⟩, (hF.mono (fun a k z => by unfold zRrd at z; unfold zRre; omega)).put e3 (Or.inl ⟨rfl, Or.inl (by omega)⟩), by rw [e3, sI_eq], fun ws z => (by rw [hg] at z; cases z), fun _ => ⟨rfl, ?_, fun k => ?_, fun k => ?_⟩⟩
      · rw [e3, sI_ne (by omega)]; exact hF.1 _ _ (by unfold zRrd; omega)
      · rw [e3, sI_ne (by omega)]; exact hF.1 _ _ (by unfold zRrd; omega)
      · rw [e3, sI_ne (by omega)]; exact hF.1 _ _ (by unfold zRrd; omega)
    refine vc_X10_read_21 (d := d + 1) x1 m2 hx (fun _ => ⟨fun _ m3 e3 _ => ⟨fun q => absurd q (fin m3 e3).1, fun _ => (fin m3 e3).2⟩, fun _ => ⟨fun q => absurd q (by omega), fun _ m3 e3 _ => ⟨fun q => absurd q (fin m3 e3).1, fun _ => (fin m3 e3).2⟩⟩⟩)
  intro f
  induction f with
  | zero => intro nw i ws m' h1 h2; omega
  | succ f ih =>
    intro nw i ws m' h1 h18 h2 hi hF hmo hrow hub hu0 hu
    have hT' : zTa t n m' := hT.k (fun k => hF.1 _ _ (by unfold zRrd; omega)) (hF.1 _ _ (by unfold zRrd; omega))
    have w10 := hmo.2.w 0 (by decide) (v := 459791) (by decide) 10 rfl
    have hk0 : m'.1 98 24 = 0 ↔ tS t n i = 0 := hmo.2.2.2.1
    refine vc_X10_read_21 (d := d + 1) (nw : Int) m' ⟨by omega, by omega⟩ (fun _ => ⟨fun hk m2 e2 _ => ?_, fun hk => ⟨fun _ v23 e23 => ?_, fun q => absurd (by rw [hmo.1]; decide) q⟩⟩)
    · rw [gW_end (hk0.mp hk)]
      have e28 : m2.1 98 28 = -1 := by rw [e2, sI_ne (by omega)]; exact hmo.1
      refine ⟨fun _ m7 e7 _ => ?_, fun q => absurd (by rw [e28]; decide) q⟩
      have e32 : m7.1 98 32 = m'.1 98 32 := by rw [e7, sI_ne (by omega), e2, sI_ne (by omega)]
      have e114 : ∀ k, m7.1 114 k = m'.1 114 k := fun k => by rw [e7, sI_ne (by omega), e2, sI_ne (by omega)]
      have e112 : ∀ k, m7.1 112 k = m'.1 112 k := fun k => by rw [e7, sI_ne (by omega), e2, sI_ne (by omega)]
      have hF7 : zFl zRre m m7 := (((hF.mono (fun a k z => by unfold zRrd at z; unfold zRre; omega)).put e2 (Or.inl ⟨rfl, Or.inl (by omega)⟩)).put e7 (Or.inl ⟨rfl, Or.inr (Or.inr (Or.inr rfl))⟩))
      refine t_read_131 (m := m7) ⟨by omega, by omega⟩ _ nw 0 m7 (by show (0 : Int) + nw = nw; omega) (by rw [e32]; omega) zFr.rf (fun j a b => absurd b (by show ¬ j < (0 : Int); omega)) (fun m9 q1 q2 q3 => ?_)
      refine ⟨hF7.tr ((q1.mono (fun a k z => by unfold zRre; omega)).l), by rw [q1.1 _ _ (by omega), e7, sI_ne (by omega), e2, sI_eq], fun ws' z => ?_, fun z => (by cases z)⟩
      cases z
      refine ⟨by omega, by rw [q1.1 _ _ (by omega), e7, sI_eq]; omega, fun j hj => ?_⟩
      obtain ⟨r1, r2⟩ := hrow j hj
      have ef : m9.1 104 j = m'.1 114 j := by rw [q2 j (by omega) (by omega)]; exact e114 _
      have eb : zbg (m9.1 104) j = zbg (m'.1 114) j := by
        unfold zbg
        split
        · rfl
        · rw [q2 _ (by omega) (by omega)]; exact e114 _
      rw [ef, eb]
      refine ⟨by omega, ?_⟩
      rw [← r2]
      exact zseg_congr (fun k a b => by rw [q3 k (by omega) (by rw [e32]; omega)]; exact e112 k)
    · have hs : ¬ tS t n i = 0 := fun z => hk (hk0.mpr z)
      by_cases hno : nw = 8 ∨ tS t n i ≠ 10
      · have ev : v23 = 0 := by
          rw [e23]
          by_cases hw : m'.1 98 24 = 1 ∧ m'.2.1 98 27 = 459791
          · rw [if_pos hw, if_pos (by have := w10.mp hw; omega)]
          · rw [if_neg hw]
        rw [ev, gW_no hs hno]
        refine (c_want0 (d := d + 5) hmo).mono (fun _ m26 q _ _ => ?_)
        have e28 : m26.1 98 28 = tQ t n i := by rw [q, sI_eq]
        have hq := tQ_nn (t := t) nn.1 i
        have hF26 : zFl zRrd m m26 := hF.put q (Or.inl ⟨rfl, Or.inl (by omega)⟩)
        exact ⟨fun z => absurd z (by omega), fun _ => ⟨fun z => absurd z (by omega), fun _ => rf (i, none) nw m26 rfl ⟨by omega, by omega⟩ hF26 e28⟩⟩
      · have hw := w10.mpr (by omega)
        have ev : v23 = 1 := by rw [e23, if_pos hw, if_neg (by omega)]
        rw [ev]
        have hj := gE (S := tS t n) h0 hi hs
        have hgb := @gL_b (tS t n) (tV t n) E h0 false 222 0 false false 0 (i + 1) [] (by omega)
        refine (c_want1 (d := d + 5) (inRd rfl) (by decide) hT' hmo).mono (fun _ m26 q _ _ => ⟨fun _ => ?_, fun z => absurd (by rw [q.2.1]; decide) z⟩)
        have hF26 : zFl zRrd m m26 := hF.tr (up (zAv_c q.1))
        have u26 : m26.1 98 32 = m'.1 98 32 := q.1.1 _ _ (by unfold zAv; omega)
        refine (c_wantCond (d := d) (m := m26) (i := i + 1) h0 hE (by omega) (hT'.c (zAv_c q.1)) q.2 (by rw [u26]; omega)).mono (fun _ m38 p _ _ => ?_)
        obtain ⟨p1, p2, p3⟩ := p
        have hF38 := hF26.tr (up p1)
        cases hg : (gL (tS t n) (tV t n) false 222 0 false false 0 (i + 1) []).2 with
        | none =>
          have e28 := p3 hg
          have hq := tQ_nn (t := t) nn.1 (gL (tS t n) (tV t n) false 222 0 false false 0 (i + 1) []).1
          rw [gW_bad hs hno hg]
          refine (c_wantF (d := d + 5) (inR_b2i _) (by omega)).mono (fun _ m42 r _ _ => ?_)
          rw [r]
          exact ⟨fun z => absurd z (by omega), fun _ => rf (_, none) nw m38 rfl ⟨by omega, by omega⟩ hF38 e28⟩
        | some A =>
          obtain ⟨b1, b2⟩ := p2 A hg
          have hl := hgb.2.2 A hg
          have hl : A.length + (i + 1) ≤ 0 + 0 + 0 + 0 + (gL (tS t n) (tV t n) false 222 0 false false 0 (i + 1) []).1 := hl
          rw [gW_ok hs hno hg]
          have k59 := b1.2.mk 59 9 (by decide) (by decide)
          have hT38 : zTa t n m38 := (hT'.c (zAv_c q.1)).c p1
          by_cases h9 : tS t n (gL (tS t n) (tV t n) false 222 0 false false 0 (i + 1) []).1 = 9
          · rw [if_pos h9, b2i_p (k59.mpr h9)]
            have hj2 := gE (S := tS t n) h0 hgb.2.1 (by omega)
            refine (c_want1 (d := d + 5) (inRd rfl) (by decide) hT38 b1).mono (fun _ m42 r _ _ => ⟨fun _ => ⟨by omega, by omega, fun m48 e48 _ => ?_⟩, fun z => absurd (by rw [r.2.1]; decide) z⟩)
            have u42 : m42.1 98 32 = m'.1 98 32 + A.length := by rw [r.1.1 _ _ (by unfold zAv; omega), b2.1, u26]
            have f114 : ∀ k, m42.1 114 k = m'.1 114 k := fun k => by rw [r.1.1 _ _ (by unfold zAv; omega), p1.1 _ _ (by unfold zRcd; omega), q.1.1 _ _ (by unfold zAv; omega)]
            have f112 : ∀ k, m42.1 112 k = m38.1 112 k := fun k => r.1.1 _ _ (by unfold zAv; omega)
            have g32 : m48.1 98 32 = m'.1 98 32 + A.length := by rw [e48, sI_ne (by omega)]; exact u42
            have gF : m48.1 112 = m38.1 112 := funext (fun k => by rw [e48, sI_ne (by omega)]; exact f112 k)
            have g114 : m48.1 114 ws.length = m'.1 98 32 + A.length := by rw [e48, show (nw : Int) = ws.length by omega, sI_eq]; exact u42
            refine ih (nw + 1) _ (ws ++ [A]) m48 (by omega) (by omega) (by rw [List.length_append]; show _ = _ + 1; omega) hj2 ((hF38.tr (up (zAv_c r.1))).put e48 (Or.inr (Or.inr (Or.inr rfl)))) ⟨by rw [e48, sI_ne (by omega)]; exact r.2.1, r.2.2.k (fun k a b => by rw [e48, sI_ne (by omega)]) (by rw [e48, sI_2])⟩ ?_ ?_ (by omega) (by omega)
            · rw [g32]
              refine zRow.add hrow hub hu0 rfl (fun k hk' => by rw [e48, sI_ne (by omega)]; exact f114 k) g114 (fun k hk' => ?_) ?_
              · rw [gF, b2.2.1 k (by rw [u26]; exact hk')]; exact q.1.1 _ _ (by unfold zAv; omega)
              · rw [gF, ← u26]; exact b2.2.2
            · rw [g32, List.length_append]
              show _ = zbg (m48.1 114) ((ws.length + 1 : Nat) : Int)
              unfold zbg
              rw [if_neg (by omega), show ((ws.length + 1 : Nat) : Int) - 1 = ws.length by omega]
              exact g114.symm
          · rw [if_neg h9, b2i_n (fun z => h9 (k59.mp z))]
            refine (c_want0 (d := d + 5) b1).mono (fun _ m42 r _ _ => ?_)
            have e28 : m42.1 98 28 = tQ t n (gL (tS t n) (tV t n) false 222 0 false false 0 (i + 1) []).1 := by rw [r, sI_eq]
            have hq := tQ_nn (t := t) nn.1 (gL (tS t n) (tV t n) false 222 0 false false 0 (i + 1) []).1
            exact ⟨fun z => absurd z (by omega), fun _ => rf (_, none) nw m42 rfl ⟨by omega, by omega⟩ (hF38.put r (Or.inl ⟨rfl, Or.inl (by omega)⟩)) e28⟩
theorem c_X10_read (h0 : tS t n E = 0) (hE : E ≤ 220) (hT : zTa t n m) : zCt K (d + 10) mX10_read [rr K 98] m (zRdM t n m (gW (tS t n) (tV t n) false 9 0 0 [])) := by
  refine zCt.of (by decide) (Nat.le_of_ble_eq_true rfl) (vc_X10_read_0 (d := d + 1) m (fun _ m1 e1 _ m3 e3 _ m5 e5 _ => ?_))
  have hF5 : zFl zRrd m m5 := ((zFl.rf.put e1 (Or.inl ⟨rfl, Or.inl (by omega)⟩)).put e3 (Or.inl ⟨rfl, Or.inl (by omega)⟩)).put e5 (Or.inl ⟨rfl, Or.inr (Or.inl rfl)⟩)
  refine (c_X10_advance (d := d + 7) (m := m5) (t := t) (n := n) (x := 0) hT.1 hT.2.1 (fun k => by rw [hF5.1 _ _ (by unfold zRrd; omega)]; exact hT.2.2.1 k) (by rw [hF5.1 _ _ (by unfold zRrd; omega)]; exact hT.2.2.2) ⟨by omega, hT.1.1⟩ (by rw [e5, sI_ne (by omega), e3, sI_eq])).mono (fun _ m8 q _ _ => ?_)
  have e32 : m8.1 98 32 = 0 := by rw [q.1.1 _ _ (by unfold zAv; omega), e5, sI_eq]
  have e28 : m8.1 98 28 = -1 := by rw [q.1.1 _ _ (by unfold zAv; omega), e5, sI_ne (by omega), e3, sI_ne (by omega), e1, sI_eq]
  exact t_read_21 h0 hE hT 9 0 0 [] m8 rfl (by decide) rfl (by omega) (hF5.tr (q.1.mono (fun a k z => by unfold zAv at z; unfold zRrd; omega))) ⟨e28, q.2⟩ (fun i hi => absurd hi (by show ¬ i < 0; omega)) (by rw [e32]; rfl) (by omega) (by rw [e32]; omega)
end MR
