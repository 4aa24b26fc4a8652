/-! ===== the class's parser: sums, comparisons, conditions ===== -/
section XC
variable {K : zCx} {d : Nat} {m : zM} {S V : Nat → Int} {E : Nat}
theorem zPo.pre {m0 : zM} {a : List Int} {g g' : Nat × Option (List Int)} {r : Int} {m' : zM} (hF : zFr zPx m0 m) (ha : zAap m0 m a) (h : zPo S m g r m') (e1 : g'.1 = g.1) (e2 : ∀ c, g'.2 = some c → ∃ b, g.2 = some b ∧ c = a ++ b) (e3 : g'.2 = none → g.2 = none) : zPo S m0 g' r m' := by
  obtain ⟨p1, p2, p3, p4⟩ := h
  refine ⟨hF.tr p1, by rw [e1]; exact p2, fun c hc => ?_, fun hn => p4 (e3 hn)⟩
  obtain ⟨b, hb, rfl⟩ := e2 c hc
  exact ⟨(p3 b hb).1, ha.tr (p3 b hb).2⟩
theorem c_X5_sum {i : Nat} (h0 : S E = 0) (hV : ∀ j, 0 ≤ V j ∧ V j ≤ 999) (hD : ∀ j : Nat, j ≤ E → m.1 61 j = S j ∧ m.1 63 j = V j) (hE : E ≤ 220) (hat : zAat S m i) (hi : i ≤ E) (hu : 0 ≤ m.1 58 3 ∧ m.1 58 3 ≤ i) : zCt K (d + 4) mX5_sum [rr K 56] m (zPo S m (gS S V i)) := by
  have loop : ∀ (f j : Nat) (a : List Int) (x : Nat) (m' : zM), x + f = 221 → 2 * x ≤ j → j ≤ E → zFr zPx m m' → zAat S m' j → zAap m m' a → m.1 58 3 + a.length ≤ j → zV K mX5_sum (d + 4) 11 [(0, rr K 56), (1, .int (iz (x : Int)))] [] m' (zPo S m (gT S V f j a)) := by
    intro f
    induction f with
    | zero => intro j a x m' h1 h2 h3; omega
    | succ f ih =>
      intro j a x m' h1 h2 h3 hF hat' hap hul
      refine vc_X5_sum_11 (d := d) (x : Int) m' ⟨by omega, by omega⟩ (fun _ => ⟨fun q => absurd q (by omega), fun _ => ?_⟩)
      rw [hat'.2]
      refine ⟨fun h5 => ?_, fun h5 => ?_⟩
      · have hj := gE h0 h3 (by omega)
        refine (c_X5_step (d := d + 2) (zD.k hD hF) hE hat' hj (by omega)).mono (fun _ m4 q _ _ => ?_)
        obtain ⟨q1, q2, q3⟩ := q
        have e3 : m4.1 58 3 = m.1 58 3 + a.length := by have := q3.1; rw [hap.1] at this; simpa using this
        have hvb := gV_b (V := V) h0 (show j + 1 ≤ E by omega)
        refine (c_X5_value (d := d) (m := m4) (i := j + 1) h0 hV (zD.k (zD.k hD hF) q1) hE q2 (by omega) (by rw [e3]; omega)).mono (fun r m6 p _ _ => ?_)
        obtain ⟨p1, p2, p3, p4⟩ := p
        have hF6 : zFr zPx m m6 := (hF.tr q1).tr p1
        refine ⟨fun hr => ?_, fun hr => ?_⟩
        · cases hg : (gV S V (j + 1)).2 with
          | some c => have := (p3 c hg).1; omega
          | none =>
            have e : gT S V (f + 1) j a = ((gV S V (j + 1)).1, none) := by unfold gT; rw [if_pos h5, hg]
            rw [e]
            exact ⟨hF6, p2, fun c q => (by cases q), fun _ => rfl⟩
        · cases hg : (gV S V (j + 1)).2 with
          | none => exact absurd (p4 hg) hr
          | some c =>
            have hc := hvb.2.2 c hg
            have hap6 : zAap m m6 (a ++ c) := by have := (hap.tr q3).tr (p3 c hg).2; simpa using this
            have e36 : m6.1 58 3 = m.1 58 3 + a.length + 1 := by rw [hap6.1, List.length_append, hc.1]; omega
            have e : gT S V (f + 1) j a = gT S V f (gV S V (j + 1)).1 (a ++ c ++ [14]) := by
              show (if S j = 5 then _ else _) = _
              rw [if_pos h5, hg]
            rw [e]
            refine (c_X8_add58 (d := d + 2) (m := m6) (x1 := 6) (x2 := 0) (by omega) (by omega) (by rw [e36]; omega)).mono (fun _ m9 s _ _ => ?_)
            obtain ⟨s1, s2, s3⟩ := s
            refine ih (gV S V (j + 1)).1 (a ++ c ++ [14]) (x + 1) m9 (by omega) (by omega) hvb.2.1 (hF6.tr s1) (p2.k s2) (hap6.tr s3) ?_
            simp only [List.length_append, List.length_cons, List.length_nil, hc.1]
            omega
      · have e : gT S V (f + 1) j a = (j, some a) := by
          show (if S j = 5 then _ else _) = _
          rw [if_neg h5]
        rw [e]
        exact ⟨hF, hat', fun c q => (by cases q; exact ⟨rfl, hap⟩), fun q => (by cases q)⟩
  have hvb := gV_b (V := V) h0 hi
  refine zCt.of (by decide) (Nat.le_of_ble_eq_true rfl) (vc_X5_sum_0 (d := d) m (fun _ => ?_))
  refine (c_X5_value (d := d) h0 hV hD hE hat hi hu).mono (fun r m2 p _ _ => ?_)
  obtain ⟨p1, p2, p3, p4⟩ := p
  refine ⟨fun hr => ?_, fun hr => ?_⟩
  · cases hg : (gV S V i).2 with
    | some c => have := (p3 c hg).1; omega
    | none =>
      have e : gS S V i = ((gV S V i).1, none) := by unfold gS; rw [hg]
      rw [e]
      exact ⟨p1, p2, fun c q => (by cases q), fun _ => rfl⟩
  · cases hg : (gV S V i).2 with
    | none => exact absurd (p4 hg) hr
    | some c =>
      have hc := hvb.2.2 c hg
      have e : gS S V i = gT S V 221 (gV S V i).1 c := by unfold gS; rw [hg]
      rw [e]
      exact loop 221 (gV S V i).1 c 0 m2 (by omega) (by omega) hvb.2.1 p1 p2 (p3 c hg).2 (by rw [hc.1]; omega)
theorem c_X5_comparison {i : Nat} (h0 : S E = 0) (hV : ∀ j, 0 ≤ V j ∧ V j ≤ 999) (hD : ∀ j : Nat, j ≤ E → m.1 61 j = S j ∧ m.1 63 j = V j) (hE : E ≤ 220) (hat : zAat S m i) (hi : i ≤ E) (hu : 0 ≤ m.1 58 3 ∧ m.1 58 3 ≤ i) : zCt K (d + 5) mX5_comparison [rr K 56] m (zPo S m (gC S V i)) := by
  have hsb := gS_b (V := V) h0 hi
  refine zCt.of (by decide) (Nat.le_of_ble_eq_true rfl) (vc_X5_comparison_0 (d := d) m (fun _ => ?_))
  refine (c_X5_sum (d := d) h0 hV hD hE hat hi hu).mono (fun r m2 p _ _ => ?_)
  obtain ⟨p1, p2, p3, p4⟩ := p
  cases hg : (gS S V i).2 with
  | none =>
    have e : gC S V i = ((gS S V i).1, none) := by unfold gC; rw [hg]
    rw [e]
    refine ⟨fun _ => ⟨p1, p2, fun c q => (by cases q), fun _ => rfl⟩, fun q => absurd (p4 hg) q⟩
  | some a =>
    have hc := hsb.2.2 a hg
    obtain ⟨p31, p32⟩ := p3 a hg
    refine ⟨fun q => by omega, fun _ v4 e4 => ?_⟩
    rw [p2.2] at e4 ⊢
    have go : 6 ≤ S (gS S V i).1 ∧ S (gS S V i).1 ≤ 8 → zxm (v4 * 1000 + 0) = S (gS S V i).1 + 9 → (0 ≤ v4 ∧ v4 ≤ 100) → zCt K (d + 4) mX5_step [rr K 56] m2 (fun r7 m8 => inR r7 → zok m8 → zCt K (d + 4) mX5_sum [rr K 56] m8 (fun r9 m10 => inR r9 → zok m10 → (r9 = 0 → zPo S m (gC S V i) 0 m10) ∧ (¬ (r9 = 0) → zCt K (d + 4) mX8_add [rr K 58, .int (iz v4), .int (iz 0)] m10 (fun r12 m13 => inR r12 → zok m13 → zPo S m (gC S V i) 1 m13)))) := by
      intro h68 hx hv4
      have hj := gE h0 hsb.2.1 (by omega)
      have hwb := gS_b (V := V) h0 (show (gS S V i).1 + 1 ≤ E by omega)
      refine (c_X5_step (d := d + 3) (zD.k hD p1) hE p2 hj (by omega)).mono (fun _ m8 q _ _ => ?_)
      obtain ⟨q1, q2, q3⟩ := q
      have e3 : m8.1 58 3 = m.1 58 3 + a.length := by have := q3.1; rw [p32.1] at this; simpa using this
      refine (c_X5_sum (d := d) (m := m8) (i := (gS S V i).1 + 1) h0 hV (zD.k (zD.k hD p1) q1) hE q2 (by omega) (by rw [e3]; omega)).mono (fun r9 m10 s _ _ => ?_)
      obtain ⟨s1, s2, s3, s4⟩ := s
      have hF : zFr zPx m m10 := (p1.tr q1).tr s1
      cases hg2 : (gS S V ((gS S V i).1 + 1)).2 with
      | none =>
        have e : gC S V i = ((gS S V ((gS S V i).1 + 1)).1, none) := by
          unfold gC
          rw [hg]
          show (if _ then _ else _) = _
          rw [if_pos h68, hg2]
        rw [e]
        exact ⟨fun _ => ⟨hF, s2, fun c q => (by cases q), fun _ => rfl⟩, fun q => absurd (s4 hg2) q⟩
      | some b =>
        have hc2 := hwb.2.2 b hg2
        have e : gC S V i = ((gS S V ((gS S V i).1 + 1)).1, some (a ++ b ++ [S (gS S V i).1 + 9])) := by
          unfold gC
          rw [hg]
          show (if _ then _ else _) = _
          rw [if_pos h68, hg2]
        rw [e]
        refine ⟨fun q => by have := (s3 b hg2).1; omega, fun _ => ?_⟩
        have hap : zAap m m10 (a ++ b) := by have := (p32.tr q3).tr (s3 b hg2).2; simpa using this
        refine (c_X8_add58 (d := d + 3) (m := m10) (x1 := v4) (x2 := 0) hv4 (by omega) (by rw [hap.1, List.length_append]; omega)).mono (fun _ m13 w _ _ => ?_)
        obtain ⟨w1, w2, w3⟩ := w
        rw [hx] at w3
        exact ⟨hF.tr w1, s2.k w2, fun c q => (by cases q; exact ⟨rfl, hap.tr w3⟩), fun q => (by cases q)⟩
    refine ⟨fun h => go (by omega) (by rw [e4, if_pos h, h]; decide) (by rw [e4, if_pos h]; omega), fun h6 => ⟨fun h => go (by omega) (by rw [e4, if_neg h6, if_pos h, h]; decide) (by rw [e4, if_neg h6, if_pos h]; omega), fun h7 => ⟨fun h => go (by omega) (by rw [e4, if_neg h6, if_neg h7, h]; decide) (by rw [e4, if_neg h6, if_neg h7]; omega), fun h8 => ?_⟩⟩⟩
    have e : gC S V i = ((gS S V i).1, none) := by
      unfold gC
      rw [hg]
      show (if _ then _ else _) = _
      rw [if_neg (by omega)]
    rw [e]
    exact ⟨p1, p2, fun c q => (by cases q), fun _ => rfl⟩
end XC
