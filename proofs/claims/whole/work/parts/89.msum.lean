/-! ===== the reference's parser: sums, comparisons, waiting signs ===== -/
section MS
variable {K : zCx} {d : Nat} {m m' : zM} {t : Int → Int} {n : Int} {i E : Nat}
theorem c_wantSum (h0 : tS t n E = 0) (hE : E ≤ 220) (hi : i ≤ E) (hT : zTa t n m) (hm : zMo t n m i) (hu : 0 ≤ m.1 98 32 ∧ m.1 98 32 ≤ i) : zCt K (d + 7) mX10_wantSum [rr K 98] m (fun _ m' => zPm t n m i (gS (tS t n) (tV t n) i) 2 m') := by
  have nn := hT.1.1
  have flt : ∀ (m2 : zM) (Q : Int → zM → Prop), 0 ≤ m2.1 98 28 → Q 0 m2 → zV K mX10_wantSum (d + 7) 4 [(0, rr K 98)] [] m2 Q := fun m2 Q h hq => vc_X10_wantSum_4 (d := d + 1) m2 (fun _ => ⟨fun q => absurd q (by omega), fun _ => hq⟩)
  have loop : ∀ (f j : Nat) (a : List Int) (m' : zM), E + 1 ≤ f + j → i ≤ j → j ≤ E → zFl zRv m m' → zMo t n m' j → zMem m m' a → a.length + i ≤ j → zV K mX10_wantSum (d + 7) 4 [(0, rr K 98)] [] m' (fun _ m2 => zPm t n m i (gT (tS t n) (tV t n) f j a) 2 m2) := by
    intro f
    induction f with
    | zero => intro j a m' h1 _ h2; omega
    | succ f ih =>
      intro j a m' hf hij hj hF hmo hme hal
      have hp := hmo.2.mk 43 5 (by decide) (by decide)
      refine vc_X10_wantSum_4 (d := d + 1) m' (fun _ => ⟨fun _ => ⟨fun hk => ?_, fun hk => ?_⟩, fun q => absurd (by rw [hmo.1]; decide) q⟩)
      · have h5 := hp.mp hk
        have hj1 := gE (S := tS t n) h0 hj (by omega)
        have hvb := gV_b (S := tS t n) (V := tV t n) h0 (show j + 1 ≤ E by omega)
        refine (c_adv (d := d + 4) (hT.f hF) hmo.2).mono (fun _ m8 q _ _ => ?_)
        have hF8 := hF.tr (zAvRw q.1)
        have u8 : m8.1 98 32 = m.1 98 32 + a.length := by rw [q.1.1 _ _ (by unfold zAv; omega)]; exact hme.1
        refine (c_wantValue (d := d) (m := m8) (i := j + 1) h0 (by omega) (hT.f hF8) ⟨by rw [q.1.1 _ _ (by unfold zAv; omega)]; exact hmo.1, q.2⟩ (by rw [u8]; omega)).mono (fun _ m10 p _ _ => ?_)
        obtain ⟨p1, p2, p3⟩ := p
        have hF10 := hF8.tr p1
        cases hg : (gV (tS t n) (tV t n) (j + 1)).2 with
        | none =>
          obtain ⟨b1, b2, b3⟩ := p3 hg
          refine (c_X10_emit (d := d + 5) (m := m10) (by rw [u8] at b2 b3; omega)).mono (fun _ m12 s _ _ => ?_)
          obtain ⟨s1, s2, s3, s4⟩ := s
          have e : gT (tS t n) (tV t n) (f + 1) j a = ((gV (tS t n) (tV t n) (j + 1)).1, none) := by
            show (if tS t n j = 5 then _ else _) = _
            rw [if_pos h5, hg]
          have e28 : m12.1 98 28 = tQ t n (gV (tS t n) (tV t n) (j + 1)).1 := by rw [s2 _ (by omega)]; exact b1
          have e32 : m12.1 98 32 = m10.1 98 32 + 1 := s4.1
          refine flt m12 _ (by rw [e28]; exact (tQ_nn nn _).1) ?_
          rw [e]
          refine ⟨hF10.tr s1, fun c z => (by cases z), fun _ => ⟨e28, by rw [u8] at b2; omega, ?_⟩⟩
          rw [u8] at b3
          show m12.1 98 32 + (i : Int) ≤ m.1 98 32 + ((gV (tS t n) (tV t n) (j + 1)).1 : Int) + 2
          omega
        | some c =>
          obtain ⟨b1, b2⟩ := p2 c hg
          have hc := hvb.2.2 c hg
          have hl : c.length = 1 := hc.1
          have u10 : m10.1 98 32 = m.1 98 32 + a.length + 1 := by rw [b2.1, u8, hl]; omega
          refine (c_X10_emit (d := d + 5) (m := m10) (x := 14) (by rw [u10]; omega)).mono (fun _ m12 s _ _ => ?_)
          obtain ⟨s1, s2, s3, s4⟩ := s
          have s4 : zMem m10 m12 [14] := s4
          have e : gT (tS t n) (tV t n) (f + 1) j a = gT (tS t n) (tV t n) f (gV (tS t n) (tV t n) (j + 1)).1 (a ++ c ++ [14]) := by
            show (if tS t n j = 5 then _ else _) = _
            rw [if_pos h5, hg]
          rw [e]
          refine ih _ (a ++ c ++ [14]) m12 (by omega) (by omega) hvb.2.1 (hF10.tr s1) ⟨by rw [s2 _ (by omega)]; exact b1.1, b1.2.k (fun k x y => s2 k (by omega)) (by rw [s3])⟩ (by have := ((hme.tr (zAvMem q.1)).tr b2).tr s4; simpa using this) ?_
          simp only [List.length_append, List.length_cons, List.length_nil, hl]
          omega
      · have h5 : ¬ tS t n j = 5 := fun z => hk (hp.mpr z)
        have e : gT (tS t n) (tV t n) (f + 1) j a = (j, some a) := by
          show (if tS t n j = 5 then _ else _) = _
          rw [if_neg h5]
        rw [e]
        exact ⟨hF, fun c z => (by cases z; exact ⟨hmo, hme⟩), fun z => (by cases z)⟩
  have hvb := gV_b (S := tS t n) (V := tV t n) h0 hi
  refine zCt.of (by decide) (Nat.le_of_ble_eq_true rfl) (vc_X10_wantSum_0 (d := d + 1) m (fun _ => ?_))
  refine (c_wantValue (d := d) h0 hi hT hm (by omega)).mono (fun _ m2 p _ _ => ?_)
  obtain ⟨p1, p2, p3⟩ := p
  cases hg : (gV (tS t n) (tV t n) i).2 with
  | none =>
    obtain ⟨b1, b2, b3⟩ := p3 hg
    have e : gS (tS t n) (tV t n) i = ((gV (tS t n) (tV t n) i).1, none) := by unfold gS; rw [hg]
    refine flt m2 _ (by rw [b1]; exact (tQ_nn nn _).1) ?_
    rw [e]
    refine ⟨p1, fun c z => (by cases z), fun _ => ⟨b1, b2, ?_⟩⟩
    show m2.1 98 32 + (i : Int) ≤ m.1 98 32 + ((gV (tS t n) (tV t n) i).1 : Int) + 2
    omega
  | some c =>
    obtain ⟨b1, b2⟩ := p2 c hg
    have hc := hvb.2.2 c hg
    have e : gS (tS t n) (tV t n) i = gT (tS t n) (tV t n) 221 (gV (tS t n) (tV t n) i).1 c := by unfold gS; rw [hg]
    rw [e]
    exact loop 221 _ c m2 (by omega) hvb.1 hvb.2.1 p1 b1 b2 (by rw [hc.1]; omega)
theorem c_wantAsk (h0 : tS t n E = 0) (hE : E ≤ 220) (hi : i ≤ E) (hT : zTa t n m) (hm : zMo t n m i) (hu : 0 ≤ m.1 98 32 ∧ m.1 98 32 ≤ i) : zCt K (d + 8) mX10_wantAsk [rr K 98] m (fun _ m' => zPm t n m i (gC (tS t n) (tV t n) i) 3 m') := by
  have nn := hT.1.1
  have hsb := gS_b (S := tS t n) (V := tV t n) h0 hi
  refine zCt.of (by decide) (Nat.le_of_ble_eq_true rfl) (vc_X10_wantAsk_0 (d := d + 1) m (fun _ => ?_))
  refine (c_wantSum (d := d) h0 hE hi hT hm hu).mono (fun _ m2 p _ _ => ?_)
  obtain ⟨p1, p2, p3⟩ := p
  cases hg : (gS (tS t n) (tV t n) i).2 with
  | none =>
    obtain ⟨b1, b2, b3⟩ := p3 hg
    have hf : 0 ≤ m2.1 98 28 := by rw [b1]; exact (tQ_nn nn _).1
    have e : gC (tS t n) (tV t n) i = ((gS (tS t n) (tV t n) i).1, none) := by unfold gC; rw [hg]
    rw [e]
    have fin : zPm t n m i ((gS (tS t n) (tV t n) i).1, none) 3 m2 := ⟨p1, fun c z => (by cases z), fun _ => ⟨b1, b2, by
      show m2.1 98 32 + (i : Int) ≤ m.1 98 32 + ((gS (tS t n) (tV t n) i).1 : Int) + 3
      omega⟩⟩
    have go : ∀ v : Int, (v = 0 ∨ v = 1) → ∀ Q : zM → Prop, Q m2 → ∀ R : Int → zM → Prop, zCt K (d + 7) mX10_want [rr K 98, .int (iz v)] m2 (fun r m41 => inR r → zok m41 → ((m41.1 98 28 < 0) → R r m41) ∧ (¬ (m41.1 98 28 < 0) → Q m41)) := by
      intro v hv Q hQ R
      refine (c_wantF (d := d + 3) (by rcases hv with rfl | rfl <;> exact inRd rfl) hf).mono (fun _ m41 q _ _ => ?_)
      rw [q]
      exact ⟨fun z => absurd z (by omega), fun _ => hQ⟩
    exact ⟨fun _ v hv => go v (by rw [hv]; exact Or.inr rfl) _ fin _, fun _ => ⟨fun _ v hv => go v (by rw [hv]; exact Or.inr rfl) _ fin _, fun _ v11 _ v13 hv => go v13 (by rw [hv]; split <;> omega) _ fin _⟩⟩
  | some a =>
    obtain ⟨b1, b2⟩ := p2 a hg
    have ha := hsb.2.2 a hg
    have k6 := b1.2.mk 60 6 (by decide) (by decide)
    have k7 := b1.2.mk 61 7 (by decide) (by decide)
    have k8 := b1.2.mk 62 8 (by decide) (by decide)
    have go : ∀ op : Int, 6 ≤ tS t n (gS (tS t n) (tV t n) i).1 ∧ tS t n (gS (tS t n) (tV t n) i).1 ≤ 8 → op = tS t n (gS (tS t n) (tV t n) i).1 + 9 → zCt K (d + 7) mX10_want [rr K 98, .int (iz 1)] m2 (fun r m41 => inR r → zok m41 → ((m41.1 98 28 < 0) → zCt K (d + 7) mX10_wantSum [rr K 98] m41 (fun r45 m46 => inR r45 → zok m46 → zCt K (d + 7) mX10_emit [rr K 98, .int (iz op)] m46 (fun r47 m48 => inR r47 → zok m48 → zPm t n m i (gC (tS t n) (tV t n) i) 3 m48))) ∧ (¬ (m41.1 98 28 < 0) → zPm t n m i (gC (tS t n) (tV t n) i) 3 m41)) := by
      intro op h68 hop
      have hj := gE (S := tS t n) h0 hsb.2.1 (by omega)
      have hwb := gS_b (S := tS t n) (V := tV t n) h0 (show (gS (tS t n) (tV t n) i).1 + 1 ≤ E by omega)
      refine (c_want1 (d := d + 3) (inRd rfl) (by decide) (hT.f p1) b1).mono (fun _ m41 q _ _ => ⟨fun _ => ?_, fun z => absurd (by rw [q.2.1]; decide) z⟩)
      have hF41 := p1.tr (zAvRw q.1)
      have u41 : m41.1 98 32 = m.1 98 32 + a.length := by rw [q.1.1 _ _ (by unfold zAv; omega)]; exact b2.1
      refine (c_wantSum (d := d) (m := m41) (i := (gS (tS t n) (tV t n) i).1 + 1) h0 hE (by omega) (hT.f hF41) q.2 (by rw [u41]; omega)).mono (fun _ m46 w _ _ => ?_)
      obtain ⟨w1, w2, w3⟩ := w
      have hF46 := hF41.tr w1
      cases hg2 : (gS (tS t n) (tV t n) ((gS (tS t n) (tV t n) i).1 + 1)).2 with
      | none =>
        obtain ⟨c1, c2, c3⟩ := w3 hg2
        have e : gC (tS t n) (tV t n) i = ((gS (tS t n) (tV t n) ((gS (tS t n) (tV t n) i).1 + 1)).1, none) := by
          unfold gC
          rw [hg]
          show (if _ then _ else _) = _
          rw [if_pos h68, hg2]
        rw [u41] at c2 c3
        refine (c_X10_emit (d := d + 6) (m := m46) (by omega)).mono (fun _ m48 s _ _ => ?_)
        obtain ⟨s1, s2, s3, s4⟩ := s
        have e32 : m48.1 98 32 = m46.1 98 32 + 1 := s4.1
        rw [e]
        refine ⟨hF46.tr s1, fun c z => (by cases z), fun _ => ⟨by rw [s2 _ (by omega)]; exact c1, by omega, ?_⟩⟩
        show m48.1 98 32 + (i : Int) ≤ m.1 98 32 + ((gS (tS t n) (tV t n) ((gS (tS t n) (tV t n) i).1 + 1)).1 : Int) + 3
        omega
      | some b =>
        obtain ⟨c1, c2⟩ := w2 b hg2
        have hb := hwb.2.2 b hg2
        have e : gC (tS t n) (tV t n) i = ((gS (tS t n) (tV t n) ((gS (tS t n) (tV t n) i).1 + 1)).1, some (a ++ b ++ [tS t n (gS (tS t n) (tV t n) i).1 + 9])) := by
          unfold gC
          rw [hg]
          show (if _ then _ else _) = _
          rw [if_pos h68, hg2]
        have u46 : m46.1 98 32 = m.1 98 32 + a.length + b.length := by rw [c2.1, u41]
        refine (c_X10_emit (d := d + 6) (m := m46) (by rw [u46]; omega)).mono (fun _ m48 s _ _ => ?_)
        obtain ⟨s1, s2, s3, s4⟩ := s
        rw [hop, iz_toInt (inR_b (A := 3000) (by omega) (by omega) rfl)] at s4
        rw [e]
        refine ⟨hF46.tr s1, fun c z => ?_, fun z => (by cases z)⟩
        cases z
        exact ⟨⟨by rw [s2 _ (by omega)]; exact c1.1, c1.2.k (fun k x y => s2 k (by omega)) (by rw [s3])⟩, by have := ((b2.tr (zAvMem q.1)).tr c2).tr s4; simpa using this⟩
    refine ⟨fun h v hv => ?_, fun h6 => ⟨fun h v hv => ?_, fun h7 v11 e11 v13 e13 => ?_⟩⟩
    · have hs := k6.mp h
      have : v = 1 := hv
      rw [this]
      exact go 15 (by omega) (by omega)
    · have hs := k7.mp h
      have : v = 1 := hv
      rw [this]
      exact go 16 (by omega) (by omega)
    · by_cases h8 : m2.1 98 24 = 3 ∧ m2.2.1 98 27 = (iz 62).toInt64
      · have hs := k8.mp h8
        rw [if_pos h8] at e11
        rw [e11] at e13 ⊢
        have : v13 = 1 := e13
        rw [this]
        exact go 17 (by omega) (by omega)
      · rw [if_neg h8] at e11
        rw [e11] at e13 ⊢
        have : v13 = 0 := e13
        rw [this]
        have n6 : ¬ tS t n (gS (tS t n) (tV t n) i).1 = 6 := fun z => h6 (k6.mpr z)
        have n7 : ¬ tS t n (gS (tS t n) (tV t n) i).1 = 7 := fun z => h7 (k7.mpr z)
        have n8 : ¬ tS t n (gS (tS t n) (tV t n) i).1 = 8 := fun z => h8 (k8.mpr z)
        have e : gC (tS t n) (tV t n) i = ((gS (tS t n) (tV t n) i).1, none) := by
          unfold gC
          rw [hg]
          show (if _ then _ else _) = _
          rw [if_neg (by omega)]
        refine (c_want0 (d := d + 3) b1).mono (fun _ m16 q _ _ => ?_)
        have e28 : m16.1 98 28 = tQ t n (gS (tS t n) (tV t n) i).1 := by rw [q, sI_eq]
        refine ⟨fun z => absurd z (by rw [e28]; have := (tQ_nn (t := t) nn (gS (tS t n) (tV t n) i).1).1; omega), fun _ => ?_⟩
        rw [e]
        have e32 : m16.1 98 32 = m.1 98 32 + a.length := by rw [q, sI_ne (by omega)]; exact b2.1
        refine ⟨p1.put q (Or.inl ⟨rfl, Or.inl (by omega)⟩), fun c z => (by cases z), fun _ => ⟨e28, by omega, ?_⟩⟩
        show m16.1 98 32 + (i : Int) ≤ m.1 98 32 + ((gS (tS t n) (tV t n) i).1 : Int) + 3
        omega
end MS
/-- the signs that wait -/
def zSta (m : zM) (W : List Int) : Prop := m.1 98 33 = W.length ∧ zseg (m.1 113) 0 W.length = W
def zRx (a k : Int) : Prop := (a = 98 ∧ (k = 32 ∨ k = 33)) ∨ a = 112
section ST
variable {K : zCx} {d : Nat} {m m' : zM} {t : Int → Int} {n : Int} {i E : Nat}
theorem zseg_last {f : Int → Int} {W : List Int} {w : Int} (h : zseg f 0 (W ++ [w]).length = W ++ [w]) : zseg f 0 W.length = W ∧ f W.length = w := by
  rw [List.length_append, zseg_add] at h
  have h := List.append_inj h (by
    have : ∀ (g : Int → Int) (k : Nat) (b : Int), (zseg g b k).length = k := by
      intro g k
      induction k with
      | zero => exact fun _ => rfl
      | succ k ih => intro b; show (zseg g (b + 1) k).length + 1 = k + 1; rw [ih]
    exact this _ _ _)
  refine ⟨h.1, ?_⟩
  have h2 : [f (0 + (W.length : Int))] = [w] := h.2
  have h3 := List.head_eq_of_cons_eq h2
  rw [Int.zero_add] at h3
  exact h3
theorem c_settle {x : Int} (hx : inR x) (W0 : List Int) (hW : W0 = [] ∨ ∃ W1 w, W0 = W1 ++ [w] ∧ (w = 10 ∨ x < w)) : ∀ (R : List Int), (∀ r ∈ R, 7 ≤ r ∧ r ≤ 9 ∧ r ≤ x) → ∀ (m1 : zM), zFl zRx m m1 → zSta m1 (W0 ++ R.reverse) → 0 ≤ m1.1 98 32 → m1.1 98 32 + m1.1 98 33 < 230 → ∀ a, zMem m m1 a → m1.2 = m.2 → zV K mX10_settle (d + 2) 0 [(0, rr K 98), (1, .int (iz x))] [] m1 (fun _ m2 => zFl zRx m m2 ∧ zSta m2 W0 ∧ zMem m m2 (a ++ R) ∧ m2.2 = m.2) := by
  intro R
  induction R with
  | nil =>
    intro _ m1 hF hs h32 hU a ha h2
    rw [List.reverse_nil, List.append_nil] at hs
    refine vc_X10_settle_0 (d := d) x m1 hx (fun _ => ⟨fun _ => ⟨hF, hs, by rw [List.append_nil]; exact ha, h2⟩, fun h33 => ?_⟩)
    rcases hW with e | ⟨W1, w, e, hw⟩
    · exfalso; have := hs.1; rw [e] at this; have : m1.1 98 33 = 0 := this; omega
    · have hs' := hs
      rw [e] at hs'
      have hl := zseg_last hs'.2
      have e33 : m1.1 98 33 = (W1.length : Int) + 1 := by rw [hs'.1, List.length_append]; rfl
      have hlen : (0 : Int) ≤ W1.length := by omega
      have etop : m1.1 113 (m1.1 98 33 - 1) = w := by rw [e33, show (W1.length : Int) + 1 - 1 = W1.length by omega]; exact hl.2
      rw [etop]
      refine ⟨by omega, by omega, fun _ => ⟨hF, hs, by rw [List.append_nil]; exact ha, h2⟩, fun n10 => ⟨fun _ => ⟨hF, hs, by rw [List.append_nil]; exact ha, h2⟩, fun z => ?_⟩⟩
      rcases hw with hw | hw
      · exact absurd hw n10
      · exact absurd hw z
  | cons p R ih =>
    intro hR m1 hF hs h32 hU a ha h2
    rw [List.reverse_cons, ← List.append_assoc] at hs
    have hl := zseg_last hs.2
    have hp := hR p (List.mem_cons_self)
    have e33 : m1.1 98 33 = ((W0 ++ R.reverse).length : Int) + 1 := by rw [hs.1, List.length_append]; rfl
    have hlen : (0 : Int) ≤ ((W0 ++ R.reverse).length : Int) := by omega
    have etop : m1.1 113 (m1.1 98 33 - 1) = p := by rw [e33, show ((W0 ++ R.reverse).length : Int) + 1 - 1 = (W0 ++ R.reverse).length by omega]; exact hl.2
    refine vc_X10_settle_0 (d := d) x m1 hx (fun _ => ⟨fun q => absurd q (by omega), fun _ => ?_⟩)
    rw [etop]
    refine ⟨by omega, by omega, fun q => absurd q (by omega), fun _ => ⟨fun q => absurd q (by omega), fun _ => ⟨⟨by omega, by omega⟩, fun m7 e7 _ => ?_⟩⟩⟩
    have f33 : m7.1 98 33 = (W0 ++ R.reverse).length := by rw [e7, sI_eq, e33]; omega
    have f113 : m7.1 113 (m7.1 98 33) = p := by rw [f33, e7, sI_ne (by omega)]; exact hl.2
    have f32 : m7.1 98 32 = m1.1 98 32 := by rw [e7, sI_ne (by omega)]
    rw [f113]
    refine ⟨by omega, by omega, ?_⟩
    refine (c_X10_emit (d := d) (m := m7) (x := p) (by omega)).mono (fun _ m12 s _ _ => ?_)
    obtain ⟨s1, s2, s3, s4⟩ := s
    have hpr : inR p := ⟨by omega, by omega⟩
    rw [iz_toInt hpr] at s4
    have g33 : m12.1 98 33 = (W0 ++ R.reverse).length := by rw [s2 _ (by omega)]; exact f33
    have g32 : m12.1 98 32 = m1.1 98 32 + 1 := by rw [s4.1, f32]; rfl
    have g113 : m12.1 113 = m1.1 113 := funext (fun k => by rw [s1.1 _ _ (by unfold zRv; omega), e7, sI_ne (by omega)])
    have hF12 : zFl zRx m m12 := by
      refine (hF.put e7 (Or.inl ⟨rfl, Or.inr rfl⟩)).tr ⟨fun b k z => ?_, fun b k z => by rw [s3]⟩
      by_cases hb : b = 98
      · subst hb; exact s2 k (fun y => z (Or.inl ⟨rfl, Or.inl y⟩))
      · exact s1.1 b k (by unfold zRv; unfold zRx at z; omega)
    have hm12 : zMem m m12 (a ++ [p]) := by
      have h17 : zMem m1 m7 [] := zMem.nil f32 (fun k => by rw [e7, sI_ne (by omega)])
      have := (ha.tr h17).tr s4
      simpa using this
    have := ih (fun r hr => hR r (List.mem_cons_of_mem _ hr)) m12 hF12 ⟨g33, by rw [g113]; exact hl.1⟩ (by omega) (by rw [g33, g32]; omega) (a ++ [p]) hm12 (by rw [s3, e7, sI_2, h2])
    rw [List.append_assoc] at this
    exact this
theorem c_settleW {x : Int} (hx : inR x) (W0 R : List Int) (hW : W0 = [] ∨ ∃ W1 w, W0 = W1 ++ [w] ∧ (w = 10 ∨ x < w)) (hR : ∀ r ∈ R, 7 ≤ r ∧ r ≤ 9 ∧ r ≤ x) (hs : zSta m (W0 ++ R.reverse)) (h0 : 0 ≤ m.1 98 32) (hU : m.1 98 32 + m.1 98 33 < 230) : zCt K (d + 2) mX10_settle [rr K 98, .int (iz x)] m (fun _ m2 => zFl zRx m m2 ∧ zSta m2 W0 ∧ zMem m m2 R ∧ m2.2 = m.2) :=
  zCt.of (by decide) (Nat.le_of_ble_eq_true rfl) (zV_mono (c_settle hx W0 hW R hR m zFl.rf hs h0 hU [] (zMem.nil rfl (fun _ => rfl)) rfl) (fun _ _ q => q))
theorem t_settleF {x : Int} (hx : inR x) : ∀ (g : Nat) (m1 : zM), m1.1 98 33 = g → zFl zRx m m1 → 0 ≤ m.1 98 32 → m.1 98 32 ≤ m1.1 98 32 → m1.1 98 32 + m1.1 98 33 = m.1 98 32 + m.1 98 33 → m.1 98 32 + m.1 98 33 < 230 → m1.2 = m.2 → zV K mX10_settle (d + 2) 0 [(0, rr K 98), (1, .int (iz x))] [] m1 (fun _ m2 => zFl zRx m m2 ∧ 0 ≤ m2.1 98 33 ∧ m.1 98 32 ≤ m2.1 98 32 ∧ m2.1 98 32 + m2.1 98 33 = m.1 98 32 + m.1 98 33 ∧ m2.2 = m.2) := by
  intro g
  induction g with
  | zero =>
    intro m1 h33 hF h32 hle hU hU2 h2
    have h33 : m1.1 98 33 = 0 := h33
    exact vc_X10_settle_0 (d := d) x m1 hx (fun _ => ⟨fun _ => ⟨hF, by omega, hle, hU, h2⟩, fun q => absurd (by omega) q⟩)
  | succ g ih =>
    intro m1 h33 hF h32 hle hU hU2 h2
    refine vc_X10_settle_0 (d := d) x m1 hx (fun hok => ⟨fun q => absurd q (by omega), fun _ => ⟨by omega, by omega, fun _ => ⟨hF, by omega, hle, hU, h2⟩, fun _ => ⟨fun _ => ⟨hF, by omega, hle, hU, h2⟩, fun _ => ⟨⟨by omega, by omega⟩, fun m7 e7 _ => ?_⟩⟩⟩⟩)
    have f33 : m7.1 98 33 = (g : Int) := by rw [e7, sI_eq, h33]; omega
    have f32 : m7.1 98 32 = m1.1 98 32 := by rw [e7, sI_ne (by omega)]
    refine ⟨by omega, by omega, ?_⟩
    refine (c_X10_emit (d := d) (m := m7) (by omega)).mono (fun _ m12 s _ _ => ?_)
    obtain ⟨s1, s2, s3, s4⟩ := s
    have g33 : m12.1 98 33 = (g : Int) := by rw [s2 _ (by omega)]; exact f33
    have g32 : m12.1 98 32 = m1.1 98 32 + 1 := by rw [s4.1, f32]; rfl
    refine ih m12 g33 ?_ h32 (by omega) (by omega) hU2 (by rw [s3, e7, sI_2, h2])
    refine (hF.put e7 (Or.inl ⟨rfl, Or.inr rfl⟩)).tr ⟨fun b k z => ?_, fun b k z => by rw [s3]⟩
    by_cases hb : b = 98
    · subst hb; exact s2 k (fun y => z (Or.inl ⟨rfl, Or.inl y⟩))
    · exact s1.1 b k (by unfold zRv; unfold zRx at z; omega)
theorem c_settleF {x : Int} (hx : inR x) (h33 : 0 ≤ m.1 98 33) (h32 : 0 ≤ m.1 98 32) (hU : m.1 98 32 + m.1 98 33 < 230) : zCt K (d + 2) mX10_settle [rr K 98, .int (iz x)] m (fun _ m2 => zFl zRx m m2 ∧ 0 ≤ m2.1 98 33 ∧ m.1 98 32 ≤ m2.1 98 32 ∧ m2.1 98 32 + m2.1 98 33 = m.1 98 32 + m.1 98 33 ∧ m2.2 = m.2) :=
  zCt.of (by decide) (Nat.le_of_ble_eq_true rfl) (t_settleF hx (m.1 98 33).toNat m (by omega) zFl.rf h32 (Int.le_refl _) rfl hU rfl)
def zRh (a k : Int) : Prop := (a = 98 ∧ ((24 ≤ k ∧ k ≤ 27) ∨ k = 33)) ∨ a = 113
theorem c_hold {x : Int} {W : List Int} (hx : inR x) (hT : zTa t n m) (hm : zMo t n m i) (hs : zSta m W) (hW : W.length < 230) : zCt K (d + 5) mX10_hold [rr K 98, .int (iz x)] m (fun _ m' => zFl zRh m m' ∧ zMo t n m' (i + 1) ∧ zSta m' (W ++ [x]) ∧ zMem m m' []) := by
  refine zCt.of (by decide) (Nat.le_of_ble_eq_true rfl) (vc_X10_hold_0 (d := d + 2) x m hx (fun _ => ?_))
  rw [hs.1]
  refine ⟨by omega, by omega, fun m3 e3 _ => ?_⟩
  have f33 : m3.1 98 33 = W.length := by rw [e3, sI_ne (by omega)]; exact hs.1
  rw [f33]
  refine ⟨⟨by omega, by omega⟩, fun m6 e6 _ => ?_⟩
  have hF6 : zFl zRh m m6 := (zFl.rf.put e3 (Or.inr rfl)).put e6 (Or.inl ⟨rfl, Or.inr rfl⟩)
  have s98 : ∀ k, k ≠ 33 → m6.1 98 k = m.1 98 k := fun k hk => by rw [e6, sI_ne (by omega), e3, sI_ne (by omega)]
  refine (c_adv (d := d + 2) (hT.k (fun k => hF6.1 _ _ (by unfold zRh; omega)) (s98 _ (by omega))) (hm.2.k (fun k a b => s98 k (by omega)) (by rw [e6, sI_2, e3, sI_2]))).mono (fun _ m9 q _ _ => ?_)
  have hF9 : zFl zRh m m9 := hF6.tr (q.1.mono (fun a k z => by unfold zAv at z; unfold zRh; omega))
  have g113 : ∀ k, m9.1 113 k = m3.1 113 k := fun k => by rw [q.1.1 _ _ (by unfold zAv; omega), e6, sI_ne (by omega)]
  refine ⟨hF9, ⟨by rw [q.1.1 _ _ (by unfold zAv; omega), s98 _ (by omega)]; exact hm.1, q.2⟩, ⟨by rw [q.1.1 _ _ (by unfold zAv; omega), e6, sI_eq, List.length_append]; rfl, ?_⟩, zMem.nil (hF9.1 _ _ (by unfold zRh; omega)) (fun k => hF9.1 _ _ (by unfold zRh; omega))⟩
  rw [List.length_append, zseg_add]
  have e1 : zseg (m9.1 113) 0 W.length = W := by
    rw [← hs.2]
    have : (zseg (m.1 113) 0 W.length).length = W.length := by rw [hs.2]
    rw [this]
    exact zseg_congr (fun k a b => by rw [g113, e3, sI_ne (by omega)])
  rw [e1]
  show W ++ [m9.1 113 (0 + (W.length : Int))] = _
  rw [Int.zero_add, g113, e3, sI_eq]
end ST
