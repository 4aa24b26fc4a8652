/-! ===== the class's parser: all wishes ===== -/
theorem zV_mono {K : zCx} {mi : zMi} {d pc : Nat} {loc : List (Nat × Value)} {stk : List Value} {m : zM} {Q Q' : Int → zM → Prop} (h : zV K mi d pc loc stk m Q) (hq : ∀ r m', Q r m' → Q' r m') : zV K mi d pc loc stk m Q' := by
  intro p e s mt args below meth cd F H locs ls hR hl T hT X
  obtain ⟨t, a1, o, b1, b2, ⟨r, m', c1, c2, c3, c4⟩, b4⟩ := h p e s mt args below meth cd F H locs ls hR hl T hT X
  exact ⟨t, a1, o, b1, b2, ⟨r, m', c1, c2, hq r m' c3, c4⟩, b4⟩
def gW (S V : Nat → Int) (r : Bool) : Nat → Nat → Nat → List (List Int) → Nat × Option (List (List Int))
  | 0, _, i, _ => (i, none)
  | f + 1, n, i, ws => if S i = 0 then (i, some ws) else if n = 8 ∨ S i ≠ 10 then (i, none) else (match (gL S V r 222 0 false false 0 (i + 1) []).2 with
    | none => ((gL S V r 222 0 false false 0 (i + 1) []).1, none)
    | some A => if S (gL S V r 222 0 false false 0 (i + 1) []).1 = 9 then gW S V r f (n + 1) ((gL S V r 222 0 false false 0 (i + 1) []).1 + 1) (ws ++ [A]) else ((gL S V r 222 0 false false 0 (i + 1) []).1, none))
section GW
variable {S V : Nat → Int} {r : Bool} {f n i : Nat} {ws : List (List Int)}
theorem gW_end (h : S i = 0) : gW S V r (f + 1) n i ws = (i, some ws) := by
  show (if S i = 0 then _ else _) = _
  rw [if_pos h]
theorem gW_no (h : ¬ S i = 0) (h2 : n = 8 ∨ S i ≠ 10) : gW S V r (f + 1) n i ws = (i, none) := by
  show (if S i = 0 then _ else _) = _
  rw [if_neg h, if_pos h2]
theorem gW_bad (h : ¬ S i = 0) (h2 : ¬ (n = 8 ∨ S i ≠ 10)) (h3 : (gL S V r 222 0 false false 0 (i + 1) []).2 = none) : gW S V r (f + 1) n i ws = ((gL S V r 222 0 false false 0 (i + 1) []).1, none) := by
  show (if S i = 0 then _ else _) = _
  rw [if_neg h, if_neg h2]
  generalize gL S V r 222 0 false false 0 (i + 1) [] = g at h3 ⊢
  rw [h3]
theorem gW_ok {A : List Int} (h : ¬ S i = 0) (h2 : ¬ (n = 8 ∨ S i ≠ 10)) (h3 : (gL S V r 222 0 false false 0 (i + 1) []).2 = some A) : gW S V r (f + 1) n i ws = if S (gL S V r 222 0 false false 0 (i + 1) []).1 = 9 then gW S V r f (n + 1) ((gL S V r 222 0 false false 0 (i + 1) []).1 + 1) (ws ++ [A]) else ((gL S V r 222 0 false false 0 (i + 1) []).1, none) := by
  show (if S i = 0 then _ else _) = _
  rw [if_neg h, if_neg h2]
  generalize gL S V r 222 0 false false 0 (i + 1) [] = g at h3 ⊢
  rw [h3]
end GW
theorem gW_b {S V : Nat → Int} {E : Nat} (h0 : S E = 0) (r : Bool) : ∀ (f n i : Nat) (ws : List (List Int)), i ≤ E → (gW S V r f n i ws).1 ≤ E := by
  intro f
  induction f with
  | zero => intro n i ws hi; exact hi
  | succ f ih =>
    intro n i ws hi
    by_cases h : S i = 0
    · rw [gW_end h]; exact hi
    · by_cases h2 : n = 8 ∨ S i ≠ 10
      · rw [gW_no h h2]; exact hi
      · have hj := gE h0 hi h
        have hb := @gL_b S V E h0 r 222 0 false false 0 (i + 1) [] (by omega)
        cases hg : (gL S V r 222 0 false false 0 (i + 1) []).2 with
        | none => rw [gW_bad h h2 hg]; exact hb.2.1
        | some A =>
          rw [gW_ok h h2 hg]
          split
          · have h5 := @gE S E h0 _ hb.2.1 (by omega)
            exact ih _ _ _ h5
          · exact hb.2.1
def zDrf (m : zM) (ws : List (List Int)) : Prop := m.1 58 2 = ws.length ∧ m.1 60 0 = 0 ∧ m.1 60 ws.length = m.1 58 3 ∧ ∀ i : Nat, i < ws.length → (0 ≤ m.1 60 i ∧ m.1 60 i ≤ m.1 60 (i + 1) ∧ m.1 60 (i + 1) ≤ m.1 58 3) ∧ (zseg (m.1 59) (m.1 60 i) (m.1 60 (i + 1) - m.1 60 i).toNat).map zxm = ws.getD i []
def zPy (a k : Int) : Prop := (a = 56 ∧ (k = 6 ∨ k = 7)) ∨ (a = 58 ∧ (k = 2 ∨ k = 3)) ∨ a = 59 ∨ (a = 60 ∧ k ≠ 0)
section XP
variable {K : zCx} {d : Nat} {m : zM} {S V : Nat → Int} {E : Nat}
theorem c_X8_close58 (h : 0 ≤ m.1 58 2 ∧ m.1 58 2 < 8) : zCt K (d + 1) mX8_close [rr K 58] m (fun _ m' => ∃ m3, m3 = sI m 58 2 (m.1 58 2 + 1) ∧ m' = sI m3 60 (m.1 58 2 + 1) (m.1 58 3)) := by
  refine zCt.of (by decide) (Nat.le_of_ble_eq_true rfl) (vc_X8_close_0 (d := d) 58 m (by unfold zWi; omega) (fun _ => ⟨fun _ => ⟨⟨by omega, by omega⟩, fun m3 e3 _ => ?_⟩, fun q => absurd h.2 q⟩))
  have e2 : m3.1 58 2 = m.1 58 2 + 1 := by rw [e3, sI_eq]
  have e33 : m3.1 58 3 = m.1 58 3 := by rw [e3, sI_ne (by omega)]
  rw [e2, e33]
  exact ⟨by omega, by omega, fun m7 e7 _ => ⟨m3, e3, e7⟩⟩
theorem zDrf.add {m m1 m2 : zM} {ws : List (List Int)} {A : List Int} (hw : ws.length < 8) (hu : 0 ≤ m.1 58 3) (h : zDrf m ws) (hF : zFr zPx m m1) (ha : zAap m m1 A) (hs : ∃ m3, m3 = sI m1 58 2 (m1.1 58 2 + 1) ∧ m2 = sI m3 60 (m1.1 58 2 + 1) (m1.1 58 3)) : zDrf m2 (ws ++ [A]) ∧ m2.1 58 3 = m.1 58 3 + A.length := by
  obtain ⟨m3, e3, e2⟩ := hs
  obtain ⟨h1, h2, h3, h4⟩ := h
  have n2 : m1.1 58 2 = ws.length := by rw [hF.1 _ _ (by unfold zPx; omega)]; exact h1
  have b60 : ∀ k : Int, k ≠ (ws.length : Int) + 1 → m2.1 60 k = m.1 60 k := fun k hk => by rw [e2, sI_ne (by omega), e3, sI_ne (by omega), hF.1 _ _ (by unfold zPx; omega)]
  have b60' : m2.1 60 ((ws.length : Int) + 1) = m.1 58 3 + A.length := by rw [e2, n2, sI_eq, ha.1]
  have b59 : ∀ k, m2.1 59 k = m1.1 59 k := fun k => by rw [e2, sI_ne (by omega), e3, sI_ne (by omega)]
  have b3 : m2.1 58 3 = m.1 58 3 + A.length := by rw [e2, sI_ne (by omega), e3, sI_ne (by omega), ha.1]
  have f59 : m2.1 59 = m1.1 59 := funext b59
  refine ⟨⟨?_, by rw [b60 0 (by omega)]; exact h2, ?_, fun i hi => ?_⟩, b3⟩
  · rw [e2, sI_ne (by omega), e3, sI_eq, n2, List.length_append]; rfl
  · rw [b3, List.length_append]; exact b60'
  · rw [List.length_append] at hi
    have hi : i < ws.length + 1 := hi
    by_cases hiw : i = ws.length
    · subst hiw
      rw [b60', b60 _ (by omega), h3, b3]
      refine ⟨by omega, ?_⟩
      rw [f59, show (m.1 58 3 + A.length - m.1 58 3).toNat = A.length by omega, ha.2.2]
      simp [List.getD]
    · have hil : i < ws.length := by omega
      obtain ⟨q1, q2⟩ := h4 i hil
      rw [b60 _ (by omega), b60 _ (by omega), b3]
      refine ⟨by omega, ?_⟩
      have : zseg (m2.1 59) (m.1 60 i) (m.1 60 (i + 1) - m.1 60 i).toNat = zseg (m.1 59) (m.1 60 i) (m.1 60 (i + 1) - m.1 60 i).toNat := zseg_congr (fun k a b => by rw [b59]; exact ha.2.1 k (by omega))
      rw [this, q2]
      simp [List.getD, List.getElem?_append_left hil]
theorem t_X5_parse (h0 : S E = 0) (hV : ∀ j, 0 ≤ V j ∧ V j ≤ 999) (hE : E ≤ 220) (hD : ∀ j : Nat, j ≤ E → m.1 61 j = S j ∧ m.1 63 j = V j) :
    ∀ (f n i : Nat) (ws : List (List Int)) (m' : zM), f + n = 9 → n ≤ 8 → n = ws.length → i ≤ E → zFr zPy m m' → zAat S m' i → zDrf m' ws → 0 ≤ m'.1 58 3 → m'.1 58 3 ≤ i → zV K mX5_parse (d + 21) 28 [(0, rr K 56), (1, .int (iz (n : Int)))] [] m' (fun r m2 => zFr zPy m m2 ∧ (∀ ws', (gW S V true f n i ws).2 = some ws' → r = -1 ∧ zDrf m2 ws' ∧ 0 ≤ m2.1 58 3 ∧ m2.1 58 3 ≤ 220 ∧ ws'.length ≤ 8) ∧ ((gW S V true f n i ws).2 = none → r = m.1 62 ((gW S V true f n i ws).1 : Int))) := by
  have hDk : ∀ m', zFr zPy m m' → ∀ j : Nat, j ≤ E → m'.1 61 j = S j ∧ m'.1 63 j = V j := fun m' hF j hj => ⟨by rw [hF.1 _ _ (by unfold zPy; omega)]; exact (hD j hj).1, by rw [hF.1 _ _ (by unfold zPy; omega)]; exact (hD j hj).2⟩
  have up : ∀ {a b : zM}, zFr zPx a b → zFr zPy a b := fun h => h.mono (fun a k z => by unfold zPx at z; unfold zPy; omega)
  have bad : ∀ (g : Nat × Option (List (List Int))) (m2 : zM), g.2 = none → g.1 ≤ E → zFr zPy m m2 → m2.1 56 6 = g.1 → (0 ≤ m2.1 56 6 ∧ m2.1 56 6 < 221 ∧ (zFr zPy m m2 ∧ (∀ ws', g.2 = some ws' → m2.1 62 (m2.1 56 6) = -1 ∧ zDrf m2 ws' ∧ 0 ≤ m2.1 58 3 ∧ m2.1 58 3 ≤ 220 ∧ ws'.length ≤ 8) ∧ (g.2 = none → m2.1 62 (m2.1 56 6) = m.1 62 (g.1 : Int)))) := by
    intro g m2 hg hb hF h6
    rw [h6]
    exact ⟨by omega, by omega, hF, fun ws' q => (by rw [hg] at q; cases q), fun _ => hF.1 _ _ (by unfold zPy; omega)⟩
  intro f
  induction f with
  | zero =>
    intro n i ws m' h1 h18 h2 hi hF hat hdr hu0 hu
    omega
  | succ f ih =>
    intro n i ws m' h1 h18 h2 hi hF hat hdr hu0 hu
    refine vc_X5_parse_28 (d := d) (n : Int) m' ⟨by omega, by omega⟩ (fun _ => ⟨fun q => absurd q (by omega), fun _ => ?_⟩)
    rw [hat.2]
    refine ⟨fun hs => ?_, fun hs => ⟨fun h8 => ?_, fun h8 => ⟨fun h10 => ?_, fun h10 => ?_⟩⟩⟩
    · rw [gW_end hs]
      exact ⟨hF, fun ws' q => (by cases q; exact ⟨rfl, hdr, hu0, by omega, by omega⟩), fun q => (by cases q)⟩
    · rw [gW_no hs (Or.inl (by omega))]
      exact bad (i, none) m' rfl hi hF hat.1
    · have hj := gE h0 hi hs
      have h2' : ¬ (n = 8 ∨ S i ≠ 10) := by omega
      have hgb := @gL_b S V E h0 true 222 0 false false 0 (i + 1) [] (by omega)
      refine (c_X5_step (d := d + 19) (hDk m' hF) hE hat hj (by omega)).mono (fun _ m8 q _ _ => ?_)
      obtain ⟨q1, q2, q3⟩ := q
      have e3 : m8.1 58 3 = m'.1 58 3 := by have := q3.1; simpa using this
      have hF8 := hF.tr (up q1)
      refine (c_X5_cond (d := d + 4) (m := m8) (i := i + 1) h0 hV hE (hDk m8 hF8) q2 (by omega) (by omega) (by rw [e3]; omega)).mono (fun r9 m10 p _ _ => ?_)
      obtain ⟨p1, p2, p3, p4⟩ := p
      have hF10 := hF8.tr (up p1)
      cases hg : (gL S V true 222 0 false false 0 (i + 1) []).2 with
      | none =>
        rw [gW_bad hs h2' hg]
        exact ⟨fun _ => bad (_, none) m10 rfl hgb.2.1 hF10 p2.1, fun q => absurd (p4 hg) q⟩
      | some A =>
        obtain ⟨r1, r2⟩ := p3 A hg
        have hlen := hgb.2.2 A hg
        have hlen : A.length + (i + 1) ≤ 0 + 0 + 0 + 0 + (gL S V true 222 0 false false 0 (i + 1) []).1 := hlen
        rw [gW_ok hs h2' hg]
        refine ⟨fun q => absurd q (by omega), fun _ => ?_⟩
        rw [p2.2]
        refine ⟨fun h9 => ?_, fun h9 => ?_⟩
        · rw [if_pos h9]
          have hj2 := gE h0 hgb.2.1 (by omega)
          have hap : zAap m' m10 A := by have := q3.tr r2; simpa using this
          have hFx : zFr zPx m' m10 := q1.tr p1
          have n2 : m10.1 58 2 = ws.length := by rw [hFx.1 _ _ (by unfold zPx; omega)]; exact hdr.1
          refine (c_X8_close58 (d := d + 19) (m := m10) (by rw [n2]; omega)).mono (fun _ m16 w _ _ => ?_)
          obtain ⟨z1, z2⟩ := zDrf.add (by omega) hu0 hdr hFx hap w
          obtain ⟨m3, w1, w2⟩ := w
          have hF16 : zFr zPy m m16 := (hF10.put w1 (Or.inr (Or.inl ⟨rfl, Or.inl rfl⟩))).put w2 (Or.inr (Or.inr (Or.inr ⟨rfl, by rw [n2]; omega⟩)))
          have hat16 : zAat S m16 (gL S V true 222 0 false false 0 (i + 1) []).1 := p2.k (fun k => by rw [w2, sI_ne (by omega), w1, sI_ne (by omega)])
          refine (c_X5_step (d := d + 19) (hDk m16 hF16) hE hat16 hj2 (by omega)).mono (fun _ m18 s _ _ => ?_)
          obtain ⟨s1, s2, s3⟩ := s
          have f3 : m18.1 58 3 = m16.1 58 3 := by have := s3.1; simpa using this
          have f59 : ∀ k, k < m16.1 58 3 → m18.1 59 k = m16.1 59 k := s3.2.1
          refine ih (n + 1) _ (ws ++ [A]) m18 (by omega) (by omega) (by rw [List.length_append]; show _ = _ + 1; omega) hj2 (hF16.tr (up s1)) s2 ?_ (by rw [f3, z2]; omega) (by rw [f3, z2]; omega)
          obtain ⟨y1, y2, y3, y4⟩ := z1
          have f60 : ∀ k, m18.1 60 k = m16.1 60 k := fun k => s1.1 _ _ (by unfold zPx; omega)
          refine ⟨by rw [s1.1 _ _ (by unfold zPx; omega)]; exact y1, by rw [f60]; exact y2, by rw [f60, f3]; exact y3, fun j hj' => ?_⟩
          obtain ⟨x1, x2⟩ := y4 j hj'
          rw [f60, f60, f3]
          refine ⟨x1, ?_⟩
          rw [← x2]
          exact congrArg _ (zseg_congr (fun k a b => f59 k (by omega)))
        · rw [if_neg h9]
          exact bad (_, none) m10 rfl hgb.2.1 hF10 p2.1
    · rw [gW_no hs (Or.inr h10)]
      exact bad (i, none) m' rfl hi hF hat.1
end XP
def zPz (a k : Int) : Prop := (a = 56 ∧ (k = 6 ∨ k = 7 ∨ k = 8)) ∨ (a = 58 ∧ (k = 2 ∨ k = 3)) ∨ a = 59 ∨ (a = 60 ∧ k ≠ 0) ∨ (61 ≤ a ∧ a ≤ 63)
theorem c_X5_parse {K : zCx} {d : Nat} {m : zM} {t : Int → Int} {n : Int} {E : Nat} (hn : 0 ≤ n ∧ n ≤ 220) (hT : ∀ k, m.1 57 k = t k) (hN : m.1 56 2 = n) (h60 : m.1 60 0 = 0) (hE : E ≤ 220) (h0 : zts t n (ztx t n E) = 0) (h1 : ∀ j : Nat, j < E → zts t n (ztx t n j) ≠ 0) : zCt K (d + 21) mX5_parse [rr K 56] m (fun r m2 => zFr zPz m m2 ∧ (∀ ws', (gW (fun j => zts t n (ztx t n j)) (fun j => ztv t n (ztx t n j)) true 9 0 0 []).2 = some ws' → r = -1 ∧ zDrf m2 ws' ∧ 0 ≤ m2.1 58 3 ∧ m2.1 58 3 ≤ 220 ∧ ws'.length ≤ 8) ∧ ((gW (fun j => zts t n (ztx t n j)) (fun j => ztv t n (ztx t n j)) true 9 0 0 []).2 = none → r = ztq t n (ztx t n (gW (fun j => zts t n (ztx t n j)) (fun j => ztv t n (ztx t n j)) true 9 0 0 []).1))) := by
  refine zCt.of (by decide) (Nat.le_of_ble_eq_true rfl) (vc_X5_parse_0 (d := d) m (fun _ => ?_))
  refine (c_X5_scan (d := d + 12) hn hT hN (by omega) h0 h1).mono (fun _ m2 q _ _ => ?_)
  obtain ⟨q1, q2⟩ := q
  have hcl : zCt K (d + 20) mX8_clear [rr K 58] m2 (fun _ m4 => ∃ m1, m1 = sI m2 58 2 0 ∧ m4 = sI m1 58 3 0) := zCt.of (by decide) (Nat.le_of_ble_eq_true rfl) (vc_X8_clear_0 (d := d + 19) 58 m2 (by unfold zWi; omega) (fun _ m1 e1 _ m3 e3 _ => ⟨m1, e1, e3⟩))
  refine hcl.mono (fun _ m4 w _ _ m5 e5 _ m7 e7 _ => ?_)
  obtain ⟨m1, w1, w2⟩ := w
  have hF7 : zFr zPz m m7 := (((((q1.mono (fun a k z => by unfold zSC at z; unfold zPz; omega)).put w1 (Or.inr (Or.inl ⟨rfl, Or.inl rfl⟩))).put w2 (Or.inr (Or.inl ⟨rfl, Or.inr rfl⟩))).put e5 (Or.inl ⟨rfl, Or.inl rfl⟩)).put e7 (Or.inl ⟨rfl, Or.inr (Or.inl rfl)⟩))
  have c6 : ∀ a k, 60 ≤ a → m7.1 a k = m2.1 a k := fun a k h => by rw [e7, sI_ne (by omega), e5, sI_ne (by omega), w2, sI_ne (by omega), w1, sI_ne (by omega)]
  have e61 : m5.1 61 0 = zts t n (ztx t n 0) := by rw [e5, sI_ne (by omega), w2, sI_ne (by omega), w1, sI_ne (by omega)]; exact (q2 0 (by omega)).1
  have e3 : m7.1 58 3 = 0 := by rw [e7, sI_ne (by omega), e5, sI_ne (by omega), w2, sI_eq]
  have hz : m7.1 60 0 = 0 := by rw [c6 _ _ (by omega), q1.1 _ _ (by unfold zSC; omega)]; exact h60
  have key := t_X5_parse (K := K) (d := d) (m := m7) (S := fun j => zts t n (ztx t n j)) (V := fun j => ztv t n (ztx t n j)) (E := E) h0 (fun j => ztv_b (ztx_b hn.1 j).2) hE (fun j hj => ⟨by rw [c6 _ _ (by omega)]; exact (q2 j (by omega)).1, by rw [c6 _ _ (by omega)]; exact (q2 j (by omega)).2.2⟩) 9 0 0 [] m7 rfl (by decide) rfl (by omega) zFr.rf ⟨by rw [e7, sI_ne (by omega), e5, sI_eq]; rfl, by rw [e7, sI_eq, e61]⟩ ⟨by rw [e7, sI_ne (by omega), e5, sI_ne (by omega), w2, sI_ne (by omega), w1, sI_eq]; rfl, hz, by rw [e3]; exact hz, fun i hi => absurd hi (by show ¬ i < 0; omega)⟩ (by omega) (by rw [e3]; omega)
  have gb := gW_b (S := fun j => zts t n (ztx t n j)) (V := fun j => ztv t n (ztx t n j)) h0 true 9 0 0 [] (Nat.zero_le E)
  refine zV_mono key (fun r m2' p => ⟨hF7.tr (p.1.mono (fun a k z => by unfold zPy at z; unfold zPz; omega)), p.2.1, fun hg => ?_⟩)
  rw [p.2.2 hg, c6 _ _ (by omega)]
  exact (q2 _ (by omega)).2.1
