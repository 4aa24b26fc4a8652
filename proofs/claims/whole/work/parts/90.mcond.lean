/-! ===== the reference's parser: conditions ===== -/
def zRcd (a k : Int) : Prop := (a = 98 ∧ ((24 ≤ k ∧ k ≤ 28) ∨ k = 32 ∨ k = 33)) ∨ a = 112 ∨ a = 113
def zW10 (W : List Int) : Prop := W = [] ∨ ∃ W1, W = W1 ++ [10]
theorem zW10.x {W : List Int} {x : Int} (h : zW10 W) : W = [] ∨ ∃ W1 w, W = W1 ++ [w] ∧ (w = 10 ∨ x < w) := by
  rcases h with h | ⟨W1, h⟩
  · exact Or.inl h
  · exact Or.inr ⟨W1, 10, h, Or.inl rfl⟩
theorem gb1_len (c : Bool) (v : Int) : (gb1 c v).length ≤ 1 := by
  cases c with
  | false => exact Nat.zero_le _
  | true => exact Nat.le_refl _
theorem zW10.e {W : List Int} {e : Bool} {x : Int} (h : zW10 W) (hx : x < 9) : W ++ gb1 e 9 = [] ∨ ∃ W1 w, W ++ gb1 e 9 = W1 ++ [w] ∧ (w = 10 ∨ x < w) := by
  cases e with
  | false => show W ++ [] = [] ∨ ∃ W1 w, W ++ [] = W1 ++ [w] ∧ _; rw [List.append_nil]; exact h.x
  | true => exact Or.inr ⟨W, 9, rfl, Or.inr hx⟩
theorem zW10.ec {W : List Int} {e c : Bool} {x : Int} (h : zW10 W) (hx : x < 8) : W ++ gb1 e 9 ++ gb1 c 8 = [] ∨ ∃ W1 w, W ++ gb1 e 9 ++ gb1 c 8 = W1 ++ [w] ∧ (w = 10 ∨ x < w) := by
  cases c with
  | false => show W ++ gb1 e 9 ++ [] = [] ∨ ∃ W1 w, W ++ gb1 e 9 ++ [] = W1 ++ [w] ∧ _; rw [List.append_nil]; exact h.e (by omega)
  | true => exact Or.inr ⟨W ++ gb1 e 9, 8, rfl, Or.inr hx⟩
theorem gb1_rev (e c : Bool) : (gb1 c 8 ++ gb1 e 9).reverse = gb1 e 9 ++ gb1 c 8 := by cases e <;> cases c <;> rfl
theorem gb1_r1 (c : Bool) : (gb1 c 8).reverse = gb1 c 8 := by cases c <;> rfl
theorem gb1_m8 {c : Bool} {x : Int} (hx : 8 ≤ x) : ∀ r ∈ gb1 c 8, 7 ≤ r ∧ r ≤ 9 ∧ r ≤ x := by
  intro r hr
  cases c with
  | false => cases hr
  | true => have : r = 8 := by simpa [gb1] using hr
            omega
theorem gb1_m9 {e c : Bool} : ∀ r ∈ gb1 c 8 ++ gb1 e 9, 7 ≤ r ∧ r ≤ 9 ∧ r ≤ 9 := by
  intro r hr
  rcases List.mem_append.mp hr with h | h
  · have := gb1_m8 (x := 9) (by decide) r h; omega
  · cases e with
    | false => cases h
    | true => have : r = 9 := by simpa [gb1] using h
              omega
theorem rep_m7 {k : Nat} : ∀ r ∈ List.replicate k (7 : Int), 7 ≤ r ∧ r ≤ 9 ∧ r ≤ 7 := by
  intro r hr
  have := List.eq_of_mem_replicate hr
  omega
section MC
variable {K : zCx} {d : Nat} {m0 : zM} {t : Int → Int} {n : Int} {E : Nat}
theorem zMo.x {m m' : zM} {i : Nat} (h : zMo t n m i) (hF : zFl zRx m m') (h2 : m'.2 = m.2) : zMo t n m' i := ⟨by rw [hF.1 _ _ (by unfold zRx; omega)]; exact h.1, h.2.k (fun k a b => hF.1 _ _ (by unfold zRx; omega)) (by rw [h2])⟩
theorem zRx_c {m m' : zM} (h : zFl zRx m m') : zFl zRcd m m' := h.mono (fun a k z => by unfold zRx at z; unfold zRcd; omega)
theorem zRv_c {m m' : zM} (h : zFl zRv m m') : zFl zRcd m m' := h.mono (fun a k z => by unfold zRv at z; unfold zRcd; omega)
theorem zRh_c {m m' : zM} (h : zFl zRh m m') : zFl zRcd m m' := h.mono (fun a k z => by unfold zRh at z; unfold zRcd; omega)
theorem zAv_c {m m' : zM} (h : zFl zAv m m') : zFl zRcd m m' := h.mono (fun a k z => by unfold zAv at z; unfold zRcd; omega)
theorem zTa.c {m m' : zM} (h : zTa t n m) (hF : zFl zRcd m m') : zTa t n m' := h.k (fun k => hF.1 _ _ (by unfold zRcd; omega)) (hF.1 _ _ (by unfold zRcd; omega))
theorem zSta.k {m m' : zM} {W : List Int} (h : zSta m W) (h1 : m'.1 98 33 = m.1 98 33) (h2 : ∀ k, m'.1 113 k = m.1 113 k) : zSta m' W := ⟨by rw [h1]; exact h.1, by rw [show m'.1 113 = m.1 113 from funext h2]; exact h.2⟩
theorem t_flt {b x2 : Int} {m2 : zM} {Q : Int → zM → Prop} (hb : inR b) (hx2 : inR x2) (hf : 0 ≤ m2.1 98 28) (h33 : 0 ≤ m2.1 98 33) (h32 : 0 ≤ m2.1 98 32) (hU : m2.1 98 32 + m2.1 98 33 < 230) (hq : ∀ m3, zFl zRx m2 m3 → m2.1 98 32 ≤ m3.1 98 32 → m3.1 98 32 < 230 → Q 0 m3) : zV K mX10_wantCond (d + 9) 11 [(0, rr K 98), (1, .int (iz b)), (2, .int (iz x2)), (3, .int (iz 1))] [] m2 Q := by
  refine vc_X10_wantCond_11 (d := d + 1) b x2 1 m2 hb hx2 (inRd rfl) (fun _ => ⟨fun q => absurd q (by decide), fun _ => ⟨fun q => absurd q (by omega), fun _ => ?_⟩⟩)
  exact (c_settleF (d := d + 6) (inRd rfl) h33 h32 hU).mono (fun _ m3 q _ _ => hq m3 q.1 q.2.2.1 (by omega))
theorem t_wc (h0 : tS t n E = 0) (hE : E ≤ 220) (hT0 : zTa t n m0) (hm0 : 0 ≤ m0.1 98 32) : ∀ (f b : Nat) (e c : Bool) (k i : Nat) (a W0 : List Int) (mb m' : zM) (Q : Int → zM → Prop), b ≤ 4 → i ≤ E → E + 1 ≤ f + i → zW10 W0 → zFl zRcd m0 m' → zMo t n m' i → zMem mb m' a → zSta m' (W0 ++ gb1 e 9 ++ gb1 c 8 ++ List.replicate k 7) → m0.1 98 32 ≤ m'.1 98 32 → m'.1 98 32 + m'.1 98 33 ≤ i →
    ((gL (tS t n) (tV t n) false f b e c k i a).2 = none → ∀ m2, zFl zRcd m0 m2 → m2.1 98 28 = tQ t n (gL (tS t n) (tV t n) false f b e c k i a).1 → m0.1 98 32 ≤ m2.1 98 32 → m2.1 98 32 < 230 → Q 0 m2) →
    (∀ (j : Nat) (a2 : List Int) (e' c' : Bool) (m2 : zM), gL (tS t n) (tV t n) false f b e c k i a = (j, some (a2 ++ gb1 c' 8 ++ gb1 e' 9)) → ¬ tS t n j = 12 → ¬ tS t n j = 11 → j ≤ E → zFl zRcd m0 m2 → zMo t n m2 j → zMem mb m2 a2 → zSta m2 (W0 ++ gb1 e' 9 ++ gb1 c' 8) → m0.1 98 32 ≤ m2.1 98 32 → m2.1 98 32 + m2.1 98 33 ≤ j → zV K mX10_wantCond (d + 9) 11 [(0, rr K 98), (1, .int (iz (b : Int))), (2, .int (iz 0)), (3, .int (iz 1))] [] m2 Q) →
    zV K mX10_wantCond (d + 9) 11 [(0, rr K 98), (1, .int (iz (b : Int))), (2, .int (iz 1)), (3, .int (iz 1))] [] m' Q := by
  have nn := hT0.1.1
  intro f
  induction f with
  | zero => intro b e c k i a W0 mb m' Q _ h1 h2; omega
  | succ f ih =>
    intro b e c k i a W0 mb m' Q hb hi hf hW hF hmo hme hst hle hU hQf hQs
    have hT := hT0.c hF
    have h33 : m'.1 98 33 = (W0 ++ gb1 e 9 ++ gb1 c 8 ++ List.replicate k 7).length := hst.1
    have w13 := hmo.2.w 3 (by decide) (v := 10631) (by decide) 13 rfl
    have k3 := hmo.2.mk 40 3 (by decide) (by decide)
    have hbr : inR (b : Int) := ⟨by omega, by omega⟩
    -- a fault, on the loop's head
    have fl : ∀ (b' x2 : Int) (m2 : zM), inR b' → inR x2 → zFl zRcd m0 m2 → (gL (tS t n) (tV t n) false (f + 1) b e c k i a).2 = none → m2.1 98 28 = tQ t n (gL (tS t n) (tV t n) false (f + 1) b e c k i a).1 → 0 ≤ m2.1 98 33 → m0.1 98 32 ≤ m2.1 98 32 → m2.1 98 32 + m2.1 98 33 < 230 → zV K mX10_wantCond (d + 9) 11 [(0, rr K 98), (1, .int (iz b')), (2, .int (iz x2)), (3, .int (iz 1))] [] m2 Q := by
      intro b' x2 m2 hb' hx2 hF2 hg h28 g33 g32 hU2
      refine t_flt hb' hx2 (by rw [h28]; exact (tQ_nn nn _).1) g33 (by omega) hU2 (fun m3 q1 q2 q3 => ?_)
      exact hQf hg m3 (hF2.tr (zRx_c q1)) (by rw [q1.1 _ _ (by unfold zRx; omega)]; exact h28) (by omega) q3
    by_cases h13 : tS t n i = 13
    · have hj := gE (S := tS t n) h0 hi (by omega)
      rw [gL_not h13] at hQf hQs
      refine vc_X10_wantCond_11 (d := d + 1) b 1 1 m' hbr (inRd rfl) (inRd rfl) (fun _ => ⟨fun q => absurd q (by decide), fun _ => ⟨fun _ => ⟨fun q => absurd q (by decide), fun _ => ⟨fun _ => ?_, fun q => absurd (w13.mpr h13) q⟩⟩, fun q => absurd (by rw [hmo.1]; decide) q⟩⟩)
      refine (c_hold (d := d + 3) (x := 7) (inRd rfl) hT hmo hst (by omega)).mono (fun _ m2 q _ _ => ?_)
      obtain ⟨q1, q2, q3, q4⟩ := q
      have u32 : m2.1 98 32 = m'.1 98 32 := q1.1 _ _ (by unfold zRh; omega)
      have u33 : m2.1 98 33 = m'.1 98 33 + 1 := by rw [q3.1, h33, List.length_append]; rfl
      refine ih b e c (k + 1) (i + 1) a W0 mb m2 Q hb (by omega) (by omega) hW (hF.tr (zRh_c q1)) q2 (by have := hme.tr q4; simpa using this) ?_ (by omega) (by omega) hQf hQs
      rw [List.append_assoc, ← List.replicate_succ'] at q3
      exact q3
    · have hob := gO_b (S := tS t n) (V := tV t n) h0 false (f := f) (b := b) hi
      -- after the operand
      have ao : ∀ (b' : Int) (x : List Int) (m1 : zM), b' = b → (gO (tS t n) (tV t n) false f b i).2 = some x → zFl zRcd m0 m1 → zMo t n m1 (gO (tS t n) (tV t n) false f b i).1 → zMem mb m1 (a ++ x ++ List.replicate k 7) → zSta m1 (W0 ++ gb1 e 9 ++ gb1 c 8) → m0.1 98 32 ≤ m1.1 98 32 → m1.1 98 32 + m1.1 98 33 ≤ (gO (tS t n) (tV t n) false f b i).1 → zV K mX10_wantCond (d + 9) 11 [(0, rr K 98), (1, .int (iz b')), (2, .int (iz 0)), (3, .int (iz 1))] [] m1 Q := by
        intro b' x m1 hb' hg hF1 hmo1 hme1 hst1 hle1 hU1
        subst hb'
        rw [gL_some h13 hg] at hQf hQs
        have hx := hob.2.2 x hg
        generalize (gO (tS t n) (tV t n) false f b i).1 = j at hmo1 hx hob hU1 hQf hQs ⊢
        have hgn : gnt false k = List.replicate k 7 := rfl
        rw [hgn] at hQf hQs
        have hT1 := hT0.c hF1
        have w11 := hmo1.2.w 1 (by decide) (v := 423) (by decide) 11 rfl
        have w12 := hmo1.2.w 2 (by decide) (v := 1111) (by decide) 12 rfl
        have s33 : m1.1 98 33 = (W0 ++ gb1 e 9 ++ gb1 c 8).length := hst1.1
        by_cases h12 : tS t n j = 12
        · rw [if_pos h12] at hQf hQs
          have hw := w12.mpr h12
          have hj := gE (S := tS t n) h0 hob.2.1 (by omega)
          refine vc_X10_wantCond_11 (d := d + 1) b 0 1 m1 hbr (inRd rfl) (inRd rfl) (fun _ => ⟨fun q => absurd q (by decide), fun _ => ⟨fun _ => ⟨fun _ => ⟨fun _ v15 e15 => ?_, fun q => absurd hw q⟩, fun q => absurd rfl q⟩, fun q => absurd (by rw [hmo1.1]; decide) q⟩⟩)
          rw [if_pos hw] at e15
          rw [e15]
          refine (c_settleW (d := d + 6) (x := 8) (inRd rfl) (W0 ++ gb1 e 9) (gb1 c 8) (hW.e (by decide)) (gb1_m8 (by decide)) (by rw [gb1_r1]; exact hst1) (by omega) (by omega)).mono (fun _ m18 q _ _ => ?_)
          obtain ⟨q1, q2, q3, q4⟩ := q
          have v33 : m18.1 98 33 = (W0 ++ gb1 e 9).length := q2.1
          have v32 := q3.1
          have l33 : (W0 ++ gb1 e 9 ++ gb1 c 8).length = (W0 ++ gb1 e 9).length + (gb1 c 8).length := List.length_append
          refine (c_hold (d := d + 3) (x := 8) (inRd rfl) (hT1.c (zRx_c q1)) (hmo1.x q1 q4) q2 (by omega)).mono (fun _ m20 p _ _ => ?_)
          obtain ⟨p1, p2, p3, p4⟩ := p
          have u32 : m20.1 98 32 = m18.1 98 32 := p1.1 _ _ (by unfold zRh; omega)
          have u33 : m20.1 98 33 = m18.1 98 33 + 1 := by rw [p3.1, v33, List.length_append]; rfl
          refine ih b e true 0 (j + 1) _ W0 mb m20 Q hb hj (by omega) hW ((hF1.tr (zRx_c q1)).tr (zRh_c p1)) p2 (by have := (hme1.tr q3).tr p4; simpa using this) ?_ (by omega) (by omega) hQf hQs
          show zSta m20 (W0 ++ gb1 e 9 ++ [8] ++ [])
          rw [List.append_nil]; exact p3
        · rw [if_neg h12] at hQf hQs
          by_cases h11 : tS t n j = 11
          · rw [if_pos h11] at hQf hQs
            have hw := w11.mpr h11
            have hnw : ¬ (m1.1 98 24 = 1 ∧ m1.2.1 98 27 = 1111) := fun z => h12 (w12.mp z)
            have hj := gE (S := tS t n) h0 hob.2.1 (by omega)
            refine vc_X10_wantCond_11 (d := d + 1) b 0 1 m1 hbr (inRd rfl) (inRd rfl) (fun _ => ⟨fun q => absurd q (by decide), fun _ => ⟨fun _ => ⟨fun _ => ⟨fun q => absurd q hnw, fun _ => ⟨fun _ v15 e15 => ?_, fun q => absurd hw q⟩⟩, fun q => absurd rfl q⟩, fun q => absurd (by rw [hmo1.1]; decide) q⟩⟩)
            rw [if_neg hnw] at e15
            rw [e15]
            refine (c_settleW (d := d + 6) (x := 9) (inRd rfl) W0 (gb1 c 8 ++ gb1 e 9) hW.x gb1_m9 (by rw [gb1_rev, ← List.append_assoc]; exact hst1) (by omega) (by omega)).mono (fun _ m18 q _ _ => ?_)
            obtain ⟨q1, q2, q3, q4⟩ := q
            have v33 : m18.1 98 33 = W0.length := q2.1
            have v32 := q3.1
            have l33 : (W0 ++ gb1 e 9 ++ gb1 c 8).length = W0.length + (gb1 e 9).length + (gb1 c 8).length := by rw [List.length_append, List.length_append]
            have l32 : (gb1 c 8 ++ gb1 e 9).length = (gb1 c 8).length + (gb1 e 9).length := List.length_append
            refine (c_hold (d := d + 3) (x := 9) (inRd rfl) (hT1.c (zRx_c q1)) (hmo1.x q1 q4) q2 (by omega)).mono (fun _ m20 p _ _ => ?_)
            obtain ⟨p1, p2, p3, p4⟩ := p
            have u32 : m20.1 98 32 = m18.1 98 32 := p1.1 _ _ (by unfold zRh; omega)
            have u33 : m20.1 98 33 = m18.1 98 33 + 1 := by rw [p3.1, v33, List.length_append]; rfl
            refine ih b true false 0 (j + 1) _ W0 mb m20 Q hb hj (by omega) hW ((hF1.tr (zRx_c q1)).tr (zRh_c p1)) p2 (by have := (hme1.tr q3).tr p4; simpa using this) ?_ (by omega) (by omega) hQf hQs
            show zSta m20 (W0 ++ [9] ++ [] ++ [])
            rw [List.append_nil, List.append_nil]; exact p3
          · rw [if_neg h11] at hQf hQs
            exact hQs j (a ++ x ++ List.replicate k 7) e c m1 rfl h12 h11 hob.2.1 hF1 hmo1 hme1 hst1 hle1 hU1
      have hlk : (W0 ++ gb1 e 9 ++ gb1 c 8 ++ List.replicate k 7).length = (W0 ++ gb1 e 9 ++ gb1 c 8).length + k := by rw [List.length_append, List.length_replicate]
      have hn13 : ¬ (m'.1 98 24 = 1 ∧ m'.2.1 98 27 = 10631) := fun z => h13 (w13.mp z)
      by_cases h3 : tS t n i = 3
      · have hk3 := k3.mpr h3
        have hj := gE (S := tS t n) h0 hi (by omega)
        refine vc_X10_wantCond_11 (d := d + 1) b 1 1 m' hbr (inRd rfl) (inRd rfl) (fun _ => ⟨fun q => absurd q (by decide), fun _ => ⟨fun _ => ⟨fun q => absurd q (by decide), fun _ => ⟨fun q => absurd q hn13, fun _ => ⟨fun _ => ⟨fun h4 => ?_, fun h4 => ?_⟩, fun q => absurd hk3 q⟩⟩⟩, fun q => absurd (by rw [hmo.1]; decide) q⟩⟩)
        · have ego : gO (tS t n) (tV t n) false f b i = (i, none) := by unfold gO; rw [if_pos h3, if_neg (by omega)]
          have egl : gL (tS t n) (tV t n) false (f + 1) b e c k i a = (i, none) := by rw [gL_none h13 (by rw [ego]), ego]
          refine (c_X10_faulty (d := d + 7) hmo).mono (fun _ m60 q _ _ => ?_)
          refine fl b 1 m60 hbr (inRd rfl) (hF.put q (Or.inl ⟨rfl, Or.inl (by omega)⟩)) (by rw [egl]) (by rw [egl, q, sI_eq]) ?_ ?_ ?_
          · rw [q, sI_ne (by omega)]; omega
          · rw [q, sI_ne (by omega)]; exact hle
          · rw [q, sI_ne (by omega), sI_ne (by omega)]; omega
        · refine (c_hold (d := d + 3) (x := 10) (inRd rfl) hT hmo hst (by omega)).mono (fun _ m58 q _ _ => ?_)
          obtain ⟨q1, q2, q3, q4⟩ := q
          have u32 : m58.1 98 32 = m'.1 98 32 := q1.1 _ _ (by unfold zRh; omega)
          have u33 : m58.1 98 33 = m'.1 98 33 + 1 := by rw [q3.1, h33, List.length_append]; rfl
          have hF58 := hF.tr (zRh_c q1)
          have hgb := @gL_b (tS t n) (tV t n) E h0 false f (b + 1) false false 0 (i + 1) [] (by omega)
          refine ih (b + 1) false false 0 (i + 1) [] (W0 ++ gb1 e 9 ++ gb1 c 8 ++ List.replicate k 7 ++ [10]) m58 m58 Q (by omega) hj (by omega) (Or.inr ⟨_, rfl⟩) hF58 q2 (zMem.nil rfl (fun _ => rfl)) ?_ (by omega) (by omega) ?_ ?_
          · show zSta m58 (W0 ++ gb1 e 9 ++ gb1 c 8 ++ List.replicate k 7 ++ [10] ++ [] ++ [] ++ [])
            rw [List.append_nil, List.append_nil, List.append_nil]; exact q3
          · intro hg m2 hF2 h28 g32 g32'
            have ego : gO (tS t n) (tV t n) false f b i = ((gL (tS t n) (tV t n) false f (b + 1) false false 0 (i + 1) []).1, none) := by unfold gO; rw [if_pos h3, if_pos (by omega), hg]
            have egl : gL (tS t n) (tV t n) false (f + 1) b e c k i a = ((gL (tS t n) (tV t n) false f (b + 1) false false 0 (i + 1) []).1, none) := by rw [gL_none h13 (by rw [ego]), ego]
            exact hQf (by rw [egl]) m2 hF2 (by rw [egl]; exact h28) g32 g32'
          · intro j a2 e' c' m2 hgl n12 n11 hjE hF2 hmo2 hme2 hst2 hle2 hU2
            have w11 := hmo2.2.w 1 (by decide) (v := 423) (by decide) 11 rfl
            have w12 := hmo2.2.w 2 (by decide) (v := 1111) (by decide) 12 rfl
            have s33 : m2.1 98 33 = (W0 ++ gb1 e 9 ++ gb1 c 8 ++ List.replicate k 7 ++ [10] ++ gb1 e' 9 ++ gb1 c' 8).length := hst2.1
            refine vc_X10_wantCond_11 (d := d + 1) _ 0 1 m2 ⟨by omega, by omega⟩ (inRd rfl) (inRd rfl) (fun _ => ⟨fun q => absurd q (by decide), fun _ => ⟨fun _ => ⟨fun _ => ⟨fun q => absurd (w12.mp q) n12, fun _ => ⟨fun q => absurd (w11.mp q) n11, fun _ => ⟨fun q => absurd q (by omega), fun _ => ?_⟩⟩⟩, fun q => absurd rfl q⟩, fun q => absurd (by rw [hmo2.1]; decide) q⟩⟩)
            refine (c_settleW (d := d + 6) (x := 9) (inRd rfl) (W0 ++ gb1 e 9 ++ gb1 c 8 ++ List.replicate k 7 ++ [10]) (gb1 c' 8 ++ gb1 e' 9) (Or.inr ⟨_, 10, rfl, Or.inl rfl⟩) gb1_m9 (by rw [gb1_rev, ← List.append_assoc]; exact hst2) (by omega) (by omega)).mono (fun _ m27 p _ _ => ?_)
            obtain ⟨p1, p2, p3, p4⟩ := p
            have v33 : m27.1 98 33 = ((W0 ++ gb1 e 9 ++ gb1 c 8).length : Int) + k + 1 := by rw [p2.1, List.length_append, hlk]; show (((W0 ++ gb1 e 9 ++ gb1 c 8).length + k + 1 : Nat) : Int) = _; omega
            have v32 := p3.1
            have l33 : (W0 ++ gb1 e 9 ++ gb1 c 8 ++ List.replicate k 7 ++ [10] ++ gb1 e' 9 ++ gb1 c' 8).length = (W0 ++ gb1 e 9 ++ gb1 c 8).length + k + 1 + (gb1 e' 9).length + (gb1 c' 8).length := by rw [List.length_append, List.length_append, List.length_append, hlk]; rfl
            have l32 : (gb1 c' 8 ++ gb1 e' 9).length = (gb1 c' 8).length + (gb1 e' 9).length := List.length_append
            refine ⟨⟨by omega, by omega⟩, fun m29 e29 _ => ?_⟩
            have hF29 : zFl zRcd m0 m29 := (hF2.tr (zRx_c p1)).put e29 (Or.inl ⟨rfl, Or.inr (Or.inr rfl)⟩)
            have x33 : m29.1 98 33 = ((W0 ++ gb1 e 9 ++ gb1 c 8).length : Int) + k := by rw [e29, sI_eq, v33]; omega
            have x32 : m29.1 98 32 = m27.1 98 32 := by rw [e29, sI_ne (by omega)]
            have hs29 : zSta m29 (W0 ++ gb1 e 9 ++ gb1 c 8 ++ List.replicate k 7) := by
              refine ⟨by rw [x33, hlk]; omega, ?_⟩
              rw [show m29.1 113 = m27.1 113 from funext (fun k => by rw [e29, sI_ne (by omega)])]
              exact (zseg_last p2.2).1
            have hmo27 := hmo2.x p1 p4
            have hmo29 : zMo t n m29 j := ⟨by rw [e29, sI_ne (by omega)]; exact hmo27.1, hmo27.2.k (fun k a b => by rw [e29, sI_ne (by omega)]) (by rw [e29, sI_2])⟩
            have hme29 : zMem m58 m29 (a2 ++ gb1 c' 8 ++ gb1 e' 9) := by
              have h279 : zMem m27 m29 [] := zMem.nil x32 (fun k => by rw [e29, sI_ne (by omega)])
              have := (hme2.tr p3).tr h279
              simpa using this
            have k41 := hmo29.2.mk 41 4 (by decide) (by decide)
            have eb : (((b + 1 : Nat) : Int) + (-1)) = (b : Int) := by omega
            by_cases h4' : tS t n j = 4
            · rw [b2i_p (k41.mpr h4')]
              have hj2 := gE (S := tS t n) h0 hjE (by omega)
              refine (c_want1 (d := d + 4) (inRd rfl) (by decide) (hT0.c hF29) hmo29).mono (fun _ m34 r _ _ => ?_)
              have hs34 : zSta m34 (W0 ++ gb1 e 9 ++ gb1 c 8 ++ List.replicate k 7) := hs29.k (r.1.1 _ _ (by unfold zAv; omega)) (fun k => r.1.1 _ _ (by unfold zAv; omega))
              have y32 : m34.1 98 32 = m29.1 98 32 := r.1.1 _ _ (by unfold zAv; omega)
              have y33 : m34.1 98 33 = m29.1 98 33 := r.1.1 _ _ (by unfold zAv; omega)
              refine (c_settleW (d := d + 6) (x := 7) (inRd rfl) (W0 ++ gb1 e 9 ++ gb1 c 8) (List.replicate k 7) (hW.ec (by decide)) rep_m7 (by rw [List.reverse_replicate]; exact hs34) (by omega) (by omega)).mono (fun _ m36 s _ _ => ?_)
              obtain ⟨s1, s2, s3, s4⟩ := s
              have z32 := s3.1
              rw [List.length_replicate] at z32
              have z33 : m36.1 98 33 = (W0 ++ gb1 e 9 ++ gb1 c 8).length := s2.1
              have ego : gO (tS t n) (tV t n) false f b i = (j + 1, some (a2 ++ gb1 c' 8 ++ gb1 e' 9)) := by
                unfold gO
                rw [if_pos h3, if_pos (by omega), hgl]
                show (if tS t n j = 4 then _ else _) = _
                rw [if_pos h4']
              refine ao _ (a2 ++ gb1 c' 8 ++ gb1 e' 9) m36 eb (by rw [ego]) ((hF29.tr (zAv_c r.1)).tr (zRx_c s1)) (by rw [ego]; exact r.2.x s1 s4) ?_ s2 (by omega) (by rw [ego]; show _ ≤ ((j + 1 : Nat) : Int); omega)
              have := (((hme.tr q4).tr hme29).tr (zAvMem r.1)).tr s3
              simpa using this
            · rw [b2i_n (fun z => h4' (k41.mp z))]
              refine (c_want0 (d := d + 4) hmo29).mono (fun _ m34 r _ _ => ?_)
              have y32 : m34.1 98 32 = m29.1 98 32 := by rw [r, sI_ne (by omega)]
              have y33 : m34.1 98 33 = m29.1 98 33 := by rw [r, sI_ne (by omega)]
              have y28 : m34.1 98 28 = tQ t n j := by rw [r, sI_eq]
              have ego : gO (tS t n) (tV t n) false f b i = (j, none) := by
                unfold gO
                rw [if_pos h3, if_pos (by omega), hgl]
                show (if tS t n j = 4 then _ else _) = _
                rw [if_neg h4']
              have egl : gL (tS t n) (tV t n) false (f + 1) b e c k i a = (j, none) := by rw [gL_none h13 (by rw [ego]), ego]
              refine (c_settleF (d := d + 6) (x := 7) (inRd rfl) (by omega) (by omega) (by omega)).mono (fun _ m36 s _ _ => ?_)
              obtain ⟨s1, s2, s3, s4, s5⟩ := s
              exact fl _ 0 m36 ⟨by omega, by omega⟩ (inRd rfl) ((hF29.put r (Or.inl ⟨rfl, Or.inl (by omega)⟩)).tr (zRx_c s1)) (by rw [egl]) (by rw [egl, s1.1 _ _ (by unfold zRx; omega)]; exact y28) s2 (by omega) (by omega)
      · have hn3 : ¬ (m'.1 98 24 = 3 ∧ m'.2.1 98 27 = (iz 40).toInt64) := fun z => h3 (k3.mp z)
        have ego : gO (tS t n) (tV t n) false f b i = gC (tS t n) (tV t n) i := by unfold gO; rw [if_neg h3]
        have hcb := gC_b (S := tS t n) (V := tV t n) h0 hi
        refine vc_X10_wantCond_11 (d := d + 1) b 1 1 m' hbr (inRd rfl) (inRd rfl) (fun _ => ⟨fun q => absurd q (by decide), fun _ => ⟨fun _ => ⟨fun q => absurd q (by decide), fun _ => ⟨fun q => absurd q hn13, fun _ => ⟨fun q => absurd q hn3, fun _ => ?_⟩⟩⟩, fun q => absurd (by rw [hmo.1]; decide) q⟩⟩)
        refine (c_wantAsk (d := d) h0 hE hi hT hmo (by omega)).mono (fun _ m53 p _ _ => ?_)
        obtain ⟨p1, p2, p3⟩ := p
        have y33 : m53.1 98 33 = m'.1 98 33 := p1.1 _ _ (by unfold zRv; omega)
        have hs53 : zSta m53 (W0 ++ gb1 e 9 ++ gb1 c 8 ++ List.replicate k 7) := hst.k y33 (fun k => p1.1 _ _ (by unfold zRv; omega))
        cases hg : (gC (tS t n) (tV t n) i).2 with
        | none =>
          obtain ⟨b1, b2, b3⟩ := p3 hg
          have egl : gL (tS t n) (tV t n) false (f + 1) b e c k i a = ((gC (tS t n) (tV t n) i).1, none) := by rw [gL_none h13 (by rw [ego]; exact hg), ego]
          refine (c_settleF (d := d + 6) (x := 7) (inRd rfl) (by omega) (by omega) (by omega)).mono (fun _ m55 s _ _ => ?_)
          obtain ⟨s1, s2, s3, s4, s5⟩ := s
          exact fl _ 0 m55 hbr (inRd rfl) ((hF.tr (zRv_c p1)).tr (zRx_c s1)) (by rw [egl]) (by rw [egl, s1.1 _ _ (by unfold zRx; omega)]; exact b1) s2 (by omega) (by omega)
        | some x =>
          obtain ⟨b1, b2⟩ := p2 x hg
          have hx := hcb.2.2 x hg
          have x32 := b2.1
          refine (c_settleW (d := d + 6) (x := 7) (inRd rfl) (W0 ++ gb1 e 9 ++ gb1 c 8) (List.replicate k 7) (hW.ec (by decide)) rep_m7 (by rw [List.reverse_replicate]; exact hs53) (by omega) (by omega)).mono (fun _ m55 s _ _ => ?_)
          obtain ⟨s1, s2, s3, s4⟩ := s
          have z32 := s3.1
          rw [List.length_replicate] at z32
          have z33 : m55.1 98 33 = (W0 ++ gb1 e 9 ++ gb1 c 8).length := s2.1
          refine ao _ x m55 rfl (by rw [ego]; exact hg) ((hF.tr (zRv_c p1)).tr (zRx_c s1)) (by rw [ego]; exact b1.x s1 s4) ?_ s2 (by omega) (by rw [ego]; omega)
          have := (hme.tr b2).tr s3
          simpa using this
end MC
