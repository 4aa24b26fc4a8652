/-! ===== the class's parser: conditions ===== -/
def gbi (e : Bool) : Int := if e then 1 else 0
section XD
variable {K : zCx} {S V : Nat → Int} {E : Nat}
theorem gO_b (h0 : S E = 0) (r : Bool) {f b i : Nat} (hi : i ≤ E) : i ≤ (gO S V r f b i).1 ∧ (gO S V r f b i).1 ≤ E ∧ ∀ x, (gO S V r f b i).2 = some x → x.length + i ≤ (gO S V r f b i).1 := by
  unfold gO
  split
  · have h1 := @gE S E h0 i hi (by omega)
    split
    · obtain ⟨p, q, s⟩ := @gL_b S V E h0 r f (b + 1) false false 0 (i + 1) [] (by omega)
      cases hg : (gL S V r f (b + 1) false false 0 (i + 1) []).2 with
      | none => exact ⟨by show i ≤ (gL S V r f (b + 1) false false 0 (i + 1) []).1; omega, q, fun c q => by cases q⟩
      | some o =>
        have hs := s o hg
        dsimp only
        split
        · next h4 =>
          have h5 := @gE S E h0 _ q (by omega)
          refine ⟨by show i ≤ (gL S V r f (b + 1) false false 0 (i + 1) []).1 + 1; omega, h5, fun x hx => ?_⟩
          cases hx
          have hs : o.length + (i + 1) ≤ 0 + 0 + 0 + 0 + (gL S V r f (b + 1) false false 0 (i + 1) []).1 := hs
          show o.length + i ≤ (gL S V r f (b + 1) false false 0 (i + 1) []).1 + 1
          omega
        · exact ⟨by show i ≤ (gL S V r f (b + 1) false false 0 (i + 1) []).1; omega, q, fun c q => by cases q⟩
    · exact ⟨Nat.le_refl _, hi, fun c q => by cases q⟩
  · exact @gC_b S V E h0 i hi
theorem gbi_r (e : Bool) : inR (gbi e) := by cases e <;> exact ⟨by decide, by decide⟩
theorem t_X5_cond (h0 : S E = 0) (hV : ∀ j, 0 ≤ V j ∧ V j ≤ 999) (hE : E ≤ 220) : ∀ (f dd b : Nat) (e c : Bool) (k i : Nat) (a : List Int) (x4 : Nat) (m0 m' : zM), E + 1 ≤ f + i → b ≤ 4 → 2 * (4 - b) ≤ dd → (∀ j : Nat, j ≤ E → m0.1 61 j = S j ∧ m0.1 63 j = V j) → zFr zPx m0 m' → zAat S m' i → zAap m0 m' a → 0 ≤ m0.1 58 3 → m0.1 58 3 + a.length + k + (gb1 e 9).length + (gb1 c 8).length ≤ i → k + 1 ≤ i → x4 + 1 ≤ i → i ≤ E →
    zV K mX5_cond (dd + 8) 21 [(0, rr K 56), (1, .int (iz (b : Int))), (2, .int (iz (gbi e))), (3, .int (iz (gbi c))), (4, .int (iz (x4 : Int))), (5, .int (iz ((k % 2 : Nat) : Int))), (6, .int (iz (k : Int)))] [] m' (zPo S m0 (gL S V true f b e c k i a)) := by
  intro f
  induction f with
  | zero => intro dd b e c k i a x4 m0 m' h1 _ _ _ _ _ _ _ _ _ _ h2; omega
  | succ f ih =>
    intro dd b e c k i a x4 m0 m' hf hb hdd hD hF hat hap hu0 hul hk hx4 hi
    have hD' := zD.k hD hF
    have hu' : 0 ≤ m'.1 58 3 ∧ m'.1 58 3 + k + (gb1 e 9).length + (gb1 c 8).length ≤ i := by rw [hap.1]; omega
    have hkr : inR ((k % 2 : Nat) : Int) := ⟨by omega, by omega⟩
    by_cases h13 : S i = 13
    · rw [gL_not h13]
      have hj := gE h0 hi (by omega)
      refine vc_X5_cond_21 (d := dd + 2) _ _ _ _ _ _ m' ⟨by omega, by omega⟩ (gbi_r e) (gbi_r c) ⟨by omega, by omega⟩ hkr ⟨by omega, by omega⟩ (fun _ => ?_)
      rw [hat.2]
      refine ⟨fun q => absurd q (by omega), fun _ => ⟨fun _ v17 e17 => ?_, fun q => absurd h13 q⟩⟩
      refine (c_X5_step (d := dd + 6) hD' hE hat hj (by omega)).mono (fun _ m2 q _ _ => ?_)
      obtain ⟨q1, q2, q3⟩ := q
      have hv : v17 = (((k + 1) % 2 : Nat) : Int) := by rw [e17]; split <;> omega
      rw [hv]
      exact ih dd b e c (k + 1) (i + 1) a x4 m0 m2 (by omega) hb hdd hD (hF.tr q1) q2 (by have := hap.tr q3; simpa using this) hu0 (by omega) (by omega) (by omega) (by omega)
    · have hob := gO_b (V := V) h0 true (f := f) (b := b) hi
      have aft : ∀ (x : List Int) (m1 : zM), (gO S V true f b i).2 = some x → zFr zPx m0 m1 → zAat S m1 (gO S V true f b i).1 → zAap m0 m1 (a ++ x) → zV K mX5_cond (dd + 8) 88 [(0, rr K 56), (1, .int (iz (b : Int))), (2, .int (iz (gbi e))), (3, .int (iz (gbi c))), (4, .int (iz (x4 : Int))), (5, .int (iz ((k % 2 : Nat) : Int)))] [] m1 (zPo S m0 (gL S V true (f + 1) b e c k i a)) := by
        intro x m1 hg hF1 hat1 hap1
        have hx := hob.2.2 x hg
        rw [gL_some h13 hg]
        generalize (gO S V true f b i).1 = j at hat1 hx hob ⊢
        have hkl := gnt_b true k
        have k150a : S j = 12 → ∀ m3, zFr zPx m0 m3 → zAat S m3 j → zAap m0 m3 (a ++ x ++ gnt true k ++ gb1 c 8) → zV K mX5_cond (dd + 8) 150 [(0, rr K 56), (1, .int (iz (b : Int))), (2, .int (iz (gbi e))), (3, .int (iz 1)), (4, .int (iz (x4 : Int)))] [] m3 (zPo S m0 (gL S V true f b e true 0 (j + 1) (a ++ x ++ gnt true k ++ gb1 c 8))) := by
          intro h12 m3 hF3 hat3 hap3
          have hj := gE h0 hob.2.1 (by omega)
          refine vc_X5_cond_150 (d := dd + 2) _ _ _ _ m3 ⟨by omega, by omega⟩ (gbi_r e) (inRd rfl) ⟨by omega, by omega⟩ (fun _ v1 e1 => ⟨fun q => absurd q (by decide), fun _ => ?_⟩)
          rw [if_neg (by decide)] at e1
          refine (c_X5_step (d := dd + 6) (zD.k hD hF3) hE hat3 hj (by omega)).mono (fun _ m5 q _ _ => ?_)
          obtain ⟨q1, q2, q3⟩ := q
          rw [e1]
          refine vc_X5_cond_7 (d := dd + 2) _ _ _ _ m5 ⟨by omega, by omega⟩ (gbi_r e) (inRd rfl) ⟨by omega, by omega⟩ (fun _ => ⟨fun q => absurd q (by omega), fun _ => ?_⟩)
          refine ih dd b e true 0 (j + 1) _ (x4 + 1) m0 m5 (by omega) hb hdd hD (hF3.tr q1) q2 (by have := hap3.tr q3; simpa using this) hu0 ?_ (by omega) (by omega) (by omega)
          simp only [List.length_append]
          have : (gb1 true 8).length = 1 := rfl
          omega
        have k150b : ¬ S j = 12 → ∀ m3, zFr zPx m0 m3 → zAat S m3 j → zAap m0 m3 (a ++ x ++ gnt true k ++ gb1 c 8 ++ gb1 e 9) → zV K mX5_cond (dd + 8) 150 [(0, rr K 56), (1, .int (iz (b : Int))), (2, .int (iz (gbi e))), (3, .int (iz 0)), (4, .int (iz (x4 : Int)))] [] m3 (zPo S m0 (if S j = 11 then gL S V true f b true false 0 (j + 1) (a ++ x ++ gnt true k ++ gb1 c 8 ++ gb1 e 9) else (j, some (a ++ x ++ gnt true k ++ gb1 c 8 ++ gb1 e 9)))) := by
          intro h12 m3 hF3 hat3 hap3
          refine vc_X5_cond_150 (d := dd + 2) _ _ _ _ m3 ⟨by omega, by omega⟩ (gbi_r e) (inRd rfl) ⟨by omega, by omega⟩ (fun _ v1 e1 => ⟨fun _ => ?_, fun q => absurd rfl q⟩)
          rw [if_pos rfl, hat3.2] at e1
          by_cases h11 : S j = 11
          · rw [if_pos h11] at e1 ⊢
            have hj := gE h0 hob.2.1 (by omega)
            refine ⟨fun q => absurd q (by omega), fun _ => ?_⟩
            refine (c_X5_step (d := dd + 6) (zD.k hD hF3) hE hat3 hj (by omega)).mono (fun _ m5 q _ _ => ?_)
            obtain ⟨q1, q2, q3⟩ := q
            rw [e1]
            refine vc_X5_cond_7 (d := dd + 2) _ _ _ _ m5 ⟨by omega, by omega⟩ (inRd rfl) (inRd rfl) ⟨by omega, by omega⟩ (fun _ => ⟨fun q => absurd q (by omega), fun _ => ?_⟩)
            refine ih dd b true false 0 (j + 1) _ (x4 + 1) m0 m5 (by omega) hb hdd hD (hF3.tr q1) q2 (by have := hap3.tr q3; simpa using this) hu0 ?_ (by omega) (by omega) (by omega)
            simp only [List.length_append]
            have : (gb1 true 9).length = 1 := rfl
            have : (gb1 false 8).length = 0 := rfl
            omega
          · rw [if_neg h11] at e1 ⊢
            exact ⟨fun _ => ⟨hF3, hat3, fun cc q => (by cases q; exact ⟨rfl, hap3⟩), fun q => (by cases q)⟩, fun q => absurd e1 q⟩
        have k117 : ∀ m3, zFr zPx m0 m3 → zAat S m3 j → zAap m0 m3 (a ++ x ++ gnt true k ++ gb1 c 8) → zV K mX5_cond (dd + 8) 117 [(0, rr K 56), (1, .int (iz (b : Int))), (2, .int (iz (gbi e))), (4, .int (iz (x4 : Int)))] [] m3 (zPo S m0 (if S j = 12 then gL S V true f b e true 0 (j + 1) (a ++ x ++ gnt true k ++ gb1 c 8) else if S j = 11 then gL S V true f b true false 0 (j + 1) (a ++ x ++ gnt true k ++ gb1 c 8 ++ gb1 e 9) else (j, some (a ++ x ++ gnt true k ++ gb1 c 8 ++ gb1 e 9)))) := by
          intro m3 hF3 hat3 hap3
          refine vc_X5_cond_117 (d := dd + 2) _ _ _ m3 ⟨by omega, by omega⟩ (gbi_r e) ⟨by omega, by omega⟩ (fun _ v1 e1 => ?_)
          rw [hat3.2] at e1
          by_cases h12 : S j = 12
          · rw [if_pos h12] at e1 ⊢
            rw [e1]
            exact ⟨fun _ => k150a h12 m3 hF3 hat3 hap3, fun _ => ⟨fun q => absurd q (by decide), fun _ => k150a h12 m3 hF3 hat3 hap3⟩⟩
          · rw [if_neg h12] at e1 ⊢
            rw [e1]
            cases e with
            | false => exact ⟨fun _ => k150b h12 m3 hF3 hat3 (by have : gb1 false 9 = [] := rfl; rw [this, List.append_nil]; exact hap3), fun q => absurd rfl q⟩
            | true =>
              refine ⟨fun q => absurd q (by decide), fun _ => ⟨fun _ => ?_, fun q => absurd rfl q⟩⟩
              have l9 : (gb1 true 9).length = 1 := rfl
              refine (c_X8_add58 (d := dd + 6) (m := m3) (x1 := 12) (x2 := 0) (by omega) (by omega) (by rw [hap3.1]; simp only [List.length_append]; omega)).mono (fun _ m6 w _ _ => ?_)
              obtain ⟨w1, w2, w3⟩ := w
              exact k150b h12 m6 (hF3.tr w1) (hat3.k w2) (hap3.tr w3)
        have k103 : ∀ m2, zFr zPx m0 m2 → zAat S m2 j → zAap m0 m2 (a ++ x ++ gnt true k) → zV K mX5_cond (dd + 8) 103 [(0, rr K 56), (1, .int (iz (b : Int))), (2, .int (iz (gbi e))), (3, .int (iz (gbi c))), (4, .int (iz (x4 : Int)))] [] m2 (zPo S m0 (if S j = 12 then gL S V true f b e true 0 (j + 1) (a ++ x ++ gnt true k ++ gb1 c 8) else if S j = 11 then gL S V true f b true false 0 (j + 1) (a ++ x ++ gnt true k ++ gb1 c 8 ++ gb1 e 9) else (j, some (a ++ x ++ gnt true k ++ gb1 c 8 ++ gb1 e 9)))) := by
          intro m2 hF2 hat2 hap2
          refine vc_X5_cond_103 (d := dd + 2) _ _ _ _ m2 ⟨by omega, by omega⟩ (gbi_r e) (gbi_r c) ⟨by omega, by omega⟩ (fun _ => ?_)
          cases c with
          | false => exact ⟨fun _ => k117 m2 hF2 hat2 (by have : gb1 false 8 = [] := rfl; rw [this, List.append_nil]; exact hap2), fun q => absurd rfl q⟩
          | true =>
            refine ⟨fun q => absurd q (by decide), fun _ => ?_⟩
            have l8 : (gb1 true 8).length = 1 := rfl
            refine (c_X8_add58 (d := dd + 6) (m := m2) (x1 := 11) (x2 := 0) (by omega) (by omega) (by rw [hap2.1]; simp only [List.length_append]; omega)).mono (fun _ m6 w _ _ => ?_)
            obtain ⟨w1, w2, w3⟩ := w
            exact k117 m6 (hF2.tr w1) (hat2.k w2) (hap2.tr w3)
        refine vc_X5_cond_88 (d := dd + 2) _ _ _ _ _ m1 ⟨by omega, by omega⟩ (gbi_r e) (gbi_r c) ⟨by omega, by omega⟩ hkr (fun _ => ⟨fun hz => ?_, fun hz => ?_⟩)
        · refine k103 m1 hF1 hat1 ?_
          have : gnt true k = [] := by show (if k % 2 = 1 then _ else _) = _; rw [if_neg (by omega)]
          rw [this, List.append_nil]; exact hap1
        · have hk1 : gnt true k = [7] := by show (if k % 2 = 1 then _ else _) = _; rw [if_pos (by omega)]
          refine (c_X8_add58 (d := dd + 6) (m := m1) (x1 := 10) (x2 := 0) (by omega) (by omega) (by rw [hap1.1]; simp only [List.length_append]; omega)).mono (fun _ m6 w _ _ => ?_)
          obtain ⟨w1, w2, w3⟩ := w
          exact k103 m6 (hF1.tr w1) (hat1.k w2) (by rw [hk1]; exact hap1.tr w3)
      have fin : ∀ (r : Int) (m1 : zM), zPo S m' (gO S V true f b i) r m1 → (r = 0 → zPo S m0 (gL S V true (f + 1) b e c k i a) 0 m1) ∧ (¬ (r = 0) → zV K mX5_cond (dd + 8) 88 [(0, rr K 56), (1, .int (iz (b : Int))), (2, .int (iz (gbi e))), (3, .int (iz (gbi c))), (4, .int (iz (x4 : Int))), (5, .int (iz ((k % 2 : Nat) : Int)))] [] m1 (zPo S m0 (gL S V true (f + 1) b e c k i a))) := by
        intro r m1 p
        obtain ⟨p1, p2, p3, p4⟩ := p
        cases hg : (gO S V true f b i).2 with
        | none =>
          refine ⟨fun _ => ?_, fun q => absurd (p4 hg) q⟩
          rw [gL_none h13 hg]
          exact ⟨hF.tr p1, p2, fun c q => (by cases q), fun _ => rfl⟩
        | some x =>
          have hx := p3 x hg
          exact ⟨fun q => absurd q (by omega), fun _ => aft x m1 hg (hF.tr p1) p2 (hap.tr hx.2)⟩
      have hbr : S i = 3 → zCt K (dd + 7) mX5_bracket [rr K 56, .int (iz (b : Int))] m' (zPo S m' (gO S V true f b i)) := by
        intro h3
        have hj := gE h0 hi (by omega)
        refine zCt.of (by decide) (Nat.le_of_ble_eq_true rfl) (vc_X5_bracket_0 (d := dd + 1) (b : Int) m' ⟨by omega, by omega⟩ (fun _ => ⟨fun hb4 => ?_, fun hb4 => ?_⟩))
        · have hgl := @gL_b S V E h0 true f (b + 1) false false 0 (i + 1) [] (by omega)
          refine (c_X5_step (d := dd + 5) hD' hE hat hj (by omega)).mono (fun _ m3 q _ _ => ?_)
          obtain ⟨q1, q2, q3⟩ := q
          have e3 : m3.1 58 3 = m'.1 58 3 := by have := q3.1; simpa using this
          have hcd : zCt K (dd + 6) mX5_cond [rr K 56, .int (iz ((b : Int) + 1))] m3 (zPo S m3 (gL S V true f (b + 1) false false 0 (i + 1) [])) := by
            obtain ⟨d2, rfl⟩ : ∃ d2, dd = d2 + 2 := ⟨dd - 2, by omega⟩
            refine zCt.of (by decide) (Nat.le_of_ble_eq_true rfl) (vc_X5_cond_0 (d := d2 + 2) ((b : Int) + 1) m3 ⟨by omega, by omega⟩ (fun _ => ?_))
            refine vc_X5_cond_7 (d := d2 + 2) _ _ _ _ m3 ⟨by omega, by omega⟩ (inRd rfl) (inRd rfl) (inRd rfl) (fun _ => ⟨fun q => absurd q (by decide), fun _ => ?_⟩)
            exact ih d2 (b + 1) false false 0 (i + 1) [] 0 m3 m3 (by omega) (by omega) (by omega) (zD.k hD' q1) zFr.rf q2 (zAap.nil rfl (fun _ => rfl)) (by rw [e3]; omega) (by
              have : (gb1 false 8).length = 0 := rfl
              have : (gb1 false 9).length = 0 := rfl
              have : ([] : List Int).length = 0 := rfl
              rw [e3]; omega) (by omega) (by omega) (by omega)
          refine hcd.mono (fun r m5 p _ _ => ?_)
          obtain ⟨p1, p2, p3, p4⟩ := p
          unfold gO
          rw [if_pos h3, if_pos (by omega)]
          cases hg : (gL S V true f (b + 1) false false 0 (i + 1) []).2 with
          | none => exact ⟨fun _ => ⟨q1.tr p1, p2, fun c q => (by cases q), fun _ => rfl⟩, fun q => absurd (p4 hg) q⟩
          | some o =>
            obtain ⟨r1, r2⟩ := p3 o hg
            refine ⟨fun q => absurd q (by omega), fun _ => ?_⟩
            rw [p2.2]
            dsimp only
            refine ⟨fun h4 => ?_, fun h4 => ?_⟩
            · rw [if_pos h4]
              have hj2 := gE h0 hgl.2.1 (by omega)
              refine (c_X5_step (d := dd + 5) (zD.k hD' (q1.tr p1)) hE p2 hj2 (by omega)).mono (fun _ m9 s _ _ => ?_)
              obtain ⟨s1, s2, s3⟩ := s
              exact ⟨(q1.tr p1).tr s1, s2, fun c q => (by cases q; exact ⟨rfl, by have := (q3.tr r2).tr s3; simpa using this⟩), fun q => (by cases q)⟩
            · rw [if_neg h4]
              exact ⟨q1.tr p1, p2, fun c q => (by cases q), fun _ => rfl⟩
        · unfold gO
          rw [if_pos h3, if_neg (by omega)]
          exact ⟨zFr.rf, hat, fun c q => (by cases q), fun _ => rfl⟩
      have hcm : ¬ S i = 3 → zCt K (dd + 7) mX5_comparison [rr K 56] m' (zPo S m' (gO S V true f b i)) := by
        intro h3
        unfold gO
        rw [if_neg h3]
        exact c_X5_comparison (d := dd + 2) h0 hV hD' hE hat hi (by omega)
      refine vc_X5_cond_21 (d := dd + 2) _ _ _ _ _ _ m' ⟨by omega, by omega⟩ (gbi_r e) (gbi_r c) ⟨by omega, by omega⟩ hkr ⟨by omega, by omega⟩ (fun _ => ?_)
      rw [hat.2]
      exact ⟨fun q => absurd q (by omega), fun _ => ⟨fun q => absurd q h13, fun _ => ⟨fun h3 => (hbr h3).mono (fun r m1 p _ _ => fin r m1 p), fun h3 => (hcm h3).mono (fun r m1 p _ _ => fin r m1 p)⟩⟩⟩
theorem c_X5_cond {d i : Nat} {m : zM} (h0 : S E = 0) (hV : ∀ j, 0 ≤ V j ∧ V j ≤ 999) (hE : E ≤ 220) (hD : ∀ j : Nat, j ≤ E → m.1 61 j = S j ∧ m.1 63 j = V j) (hat : zAat S m i) (hi : i ≤ E) (h1 : 1 ≤ i) (hu : 0 ≤ m.1 58 3 ∧ m.1 58 3 ≤ i) : zCt K (d + 16) mX5_cond [rr K 56, .int (iz 0)] m (zPo S m (gL S V true 222 0 false false 0 i [])) := by
  refine zCt.of (by decide) (Nat.le_of_ble_eq_true rfl) (vc_X5_cond_0 (d := d + 10) 0 m (inRd rfl) (fun _ => ?_))
  refine vc_X5_cond_7 (d := d + 10) _ _ _ _ m (inRd rfl) (inRd rfl) (inRd rfl) (inRd rfl) (fun _ => ⟨fun q => absurd q (by decide), fun _ => ?_⟩)
  refine t_X5_cond h0 hV hE 222 (d + 8) 0 false false 0 i [] 0 m m (by omega) (by omega) (by omega) hD zFr.rf hat (zAap.nil rfl (fun _ => rfl)) hu.1 ?_ (by omega) (by omega) hi
  show m.1 58 3 + 0 + 0 + 0 + 0 ≤ (i : Int)
  omega
end XD
