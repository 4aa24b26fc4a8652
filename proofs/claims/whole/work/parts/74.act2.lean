section AC2
variable {K : zCx} {d : Nat} {n : Int} {m : zM}
def zSX (a k : Int) : Prop := a = 94 ∨ a = 95 ∨ (a = 98 ∧ 50 ≤ k ∧ k ≤ 55) ∨ a = 128
theorem zInv.act {m2 : zM} (h : zInv n m) (f : zFr zSX m m2) (hA : zIA m2) : zInv (n + 1) m2 := by
  obtain ⟨⟨hG, hR⟩, h2, h3, h4, h5, h6, -⟩ := h
  have e2 : pv m2.1 = pv m.1 := pv_eq (fun a k x => f.1 a k (by unfold zSX; omega))
  have e18 : m2.1 98 18 = m.1 98 18 := f.1 _ _ (by unfold zSX; omega)
  refine ⟨⟨by rw [e2]; exact hG, ?_⟩, ⟨h2.1.k (fun t => f.1 _ _ (by unfold zSX; omega)) e18, by have := h2.2; omega⟩, h3.k (fun a k x => f.1 a k ?_), h4.k (fun a k x => f.1 a k ?_), h5.k (fun a k x => f.1 a k ?_), h6.k (fun a k x => f.1 a k ?_) (fun k => by rw [f.2]), hA⟩
  · rw [e2]; exact hR.kept hG.1 (fun a k x y => f.1 a k (by unfold zSX; omega))
  · unfold zSX; omega
  · unfold zSX; omega
  · unfold zSX; omega
  · unfold zSX; omega
theorem zTc_0 {m1 : zM} (h : m1.1 94 1 = 0) : zTc m1 [] := ⟨h, fun i hi => absurd hi (Nat.not_lt_zero _)⟩
theorem zTm_0 {m1 : zM} (h : m1.1 98 54 = 0) : zTm m1 [] := ⟨h, fun i hi => absurd hi (Nat.not_lt_zero _)⟩
/-- the class's act, once the thing is known -/
theorem c_X0_answer {q nb w x : Int} (hq : zsh q = some (6, 12)) (hq94 : q < 94) (hk : 1 ≤ (if m.1 q 4 = 0 then m.1 q 0 else 6) ∧ (if m.1 q 4 = 0 then m.1 q 0 else 6) ≤ 6) (hn : (0 ≤ nb ∧ nb ≤ 9) ∧ (1 ≤ m.1 q 3 ∧ m.1 q 3 ≤ 9)) (hw : 0 ≤ w ∧ w ≤ 3) (ix : inR x) (h1 : m.1 94 1 = 0) : zCt K (d + 48) mX0_answer [rr K 94, rr K q, .int (iz nb), .int (iz w), .int (iz x)] m (fun r m1 => r = vA (if m.1 q 4 = 0 then m.1 q 0 else 6) (m.1 q 3) nb w x ∧ zFr (fun a _ => a = 94 ∨ a = 95) m m1 ∧ zTc m1 (tA (if m.1 q 4 = 0 then m.1 q 0 else 6) w)) := by
  generalize hK : (if m.1 q 4 = 0 then m.1 q 0 else 6) = k at hk ⊢
  refine zCt.of (by decide) (Nat.le_of_ble_eq_true rfl) (vc_X0_answer_0 (d := d) q nb w x m hq (inR_b (A := 1000) (by omega) (by omega) rfl) (inR_b (A := 1000) (by omega) (by omega) rfl) ix (fun _ m3 e3 _ m5 e5 _ m7 e7 _ m9 e9 _ => ?_))
  rw [hK] at e3
  have s3 : m5.1 q 3 = m.1 q 3 := by rw [e5, sI_ne (by omega), e3, sI_ne (by omega)]
  rw [s3] at e7
  have f9 : zFr (fun a _ => a = 94 ∨ a = 95) m m9 := (((zFr.rf.put e3 (Or.inl rfl)).put e5 (Or.inl rfl)).put e7 (Or.inl rfl)).put e9 (Or.inl rfl)
  have a1 : m9.1 94 1 = 0 := by rw [e9, sI_ne (by omega), e7, sI_ne (by omega), e5, sI_ne (by omega), e3, sI_ne (by omega)]; exact h1
  have a2 : m9.1 94 2 = k := by rw [e9, sI_ne (by omega), e7, sI_ne (by omega), e5, sI_ne (by omega), e3, sI_eq]
  have a3 : m9.1 94 3 = nb := by rw [e9, sI_ne (by omega), e7, sI_ne (by omega), e5, sI_eq]
  have a4 : m9.1 94 4 = m.1 q 3 := by rw [e9, sI_ne (by omega), e7, sI_eq]
  have a5 : m9.1 94 5 = 0 := by rw [e9, sI_eq]
  have hT9 := zTc_0 a1
  have sub : ∀ {m1 : zM}, zFr zSm5 m9 m1 → zFr (fun a _ => a = 94 ∨ a = 95) m m1 := fun g => f9.tr (g.mono (fun a k q => by unfold zSm5 zSn at q; omega))
  have h4 : w = 0 ∨ w = 1 ∨ w = 2 ∨ w = 3 := by omega
  rcases h4 with rfl | rfl | rfl | rfl
  · rw [a2]
    refine (c_runF (d := d + 43) (by omega) ix (by omega) a5 hT9 (by decide)).mono (fun r m1 q _ _ => ?_)
    obtain ⟨hr, g, hT⟩ := q
    have e : m1.1 94 5 = 0 := by rw [g.1 94 5 (by unfold zSn; omega)]; exact a5
    rw [e]
    refine ⟨fun _ => ⟨?_, sub (g.mono (fun a k q => Or.inl q)), hT⟩, fun q => absurd rfl q⟩
    rw [hr, a4]; rfl
  · rw [a2]
    refine (c_runR (d := d + 41) (y := k) (by omega) (by omega) ix (by omega) a5 hT9 (by decide)).mono (fun r m1 q _ _ => ?_)
    obtain ⟨hr, g, hT⟩ := q
    have e : m1.1 94 5 = 0 := by rw [g.1 94 5 (by unfold zSn; omega)]; exact a5
    rw [a2] at hT
    rw [e]
    refine ⟨fun _ => ⟨?_, sub (g.mono (fun a k q => Or.inl q)), hT⟩, fun q => absurd rfl q⟩
    rw [hr, a2, a4]; rfl
  · rw [a2]
    refine (c_runP (d := d + 44) (y := k) (by omega) (by rw [a3, a4]; exact hn) ix (by omega) a5 hT9 (by decide)).mono (fun r m1 q _ _ => ?_)
    obtain ⟨hr, g, hT, h5⟩ := q
    rw [a3, a4] at h5 hr
    have hv : vA k (m.1 q 3) nb 2 x = if m.1 q 3 = nb then -15 else vP k (m.1 q 3) nb x := rfl
    rw [h5, hv]
    by_cases z : m.1 q 3 = nb
    · rw [if_pos z, if_pos z]
      exact ⟨fun q => absurd q (by decide), fun _ => ⟨rfl, sub g, hT⟩⟩
    · rw [if_neg z, if_neg z]
      exact ⟨fun _ => ⟨hr, sub g, hT⟩, fun q => absurd rfl q⟩
  · refine (c_runE (d := d + 39) (by omega) (by rw [a3, a4]; exact hn) ix (by omega) a5 hT9 (by decide)).mono (fun r m1 q _ _ => ?_)
    obtain ⟨hr, g, hT, h5⟩ := q
    rw [a2, a3, a4] at h5 hr
    rw [a2] at hT
    have hv : vA k (m.1 q 3) nb 3 x = if k = 5 ∧ m.1 q 3 = nb then -15 else vE k (m.1 q 3) nb x := rfl
    rw [h5, hv]
    by_cases z : k = 5 ∧ m.1 q 3 = nb
    · rw [if_pos z, if_pos z]
      exact ⟨fun q => absurd q (by decide), fun _ => ⟨rfl, sub g, hT⟩⟩
    · rw [if_neg z, if_neg z]
      exact ⟨fun _ => ⟨hr, sub g, hT⟩, fun q => absurd rfl q⟩
theorem zIA_of {m1 m2 : zM} {T : List Int} (hl : T.length ≤ 30) (hT : zTc m1 T) (f : zFr (fun a k => (a = 98 ∧ 50 ≤ k ∧ k ≤ 55) ∨ a = 128) m1 m2) (hM : zTm m2 T) : zIA m2 := by
  refine ⟨?_, by rw [hM.1]; omega, fun i a b => ?_⟩
  · rw [f.1 _ _ (by omega), hT.1, hM.1]
  · rw [hM.1] at b
    have h1 := hT.2 i.toNat (by omega)
    have h2 := hM.2 i.toNat (by omega)
    rw [show ((i.toNat : Nat) : Int) = i by omega] at h1 h2
    rw [f.1 _ _ (by omega), h1, h2]
theorem o_act {s w x : Int} (is : inR s) (iw : inR w) (ix : inR x) (h : zInv n m) : zOk K (d + 49) mX9_act mX10_act [.int (iz s), .int (iz w), .int (iz x)] n m := by
  obtain ⟨hs, hl, hh⟩ := h.2.2.2.2.2.1
  have hW := h.1.1.1
  have hR := h.1.2
  have h4 := hW.2.2.2.1
  have e6 : m.1 1 6 = pv m.1 98 4 := hR.1.2.2.2.1
  have e4 : m.1 98 4 = pv m.1 98 4 := pv_f rfl (by omega)
  -- nothing acts
  have none : ∀ m1, m1 = sI m 94 1 0 → (((0 ≤ s ∧ s ≤ 3) ∧ (0 ≤ w ∧ w ≤ 3)) → ¬ (1 ≤ zTh m s ∧ zTh m s ≤ 6)) → zCt K (d + 49) mX10_act (rr K 98 :: [.int (iz s), .int (iz w), .int (iz x)]) m1 (fun r' m2 => r' = 0 ∧ zInv (n + 1) m2) := by
    intro m1 e1 hno
    have n1 : ∀ a k, ¬ a = 94 → m1.1 a k = m.1 a k := fun a k q => by rw [e1, sI_ne (by omega)]
    refine zCt.of (by decide) (Nat.le_of_ble_eq_true rfl) (vc_X10_act_0 (d := d + 42) s w x m1 is iw ix (fun _ m2 e2 _ => ?_))
    have fin : zInv (n + 1) m2 := by
      refine h.act ((zFr.rf.put e1 (Or.inl rfl)).put e2 (by unfold zSX; omega)) ?_
      exact zIA_of (T := []) (m1 := m1) (by decide) (zTc_0 (by rw [e1, sI_eq])) (zFr.rf.put e2 (by omega)) (zTm_0 (by rw [e2, sI_eq]))
    refine ⟨fun z1 => ⟨fun z2 => ?_, fun _ => ⟨rfl, fin⟩⟩, fun _ => ⟨rfl, fin⟩⟩
    have n2 : ∀ a k, ¬ a = 94 → ¬ (a = 98 ∧ k = 54) → m2.1 a k = m.1 a k := fun a k q q2 => by rw [e2, sI_ne (by omega), n1 a k q]
    have tm : zTh m2 s = zTh m s := by
      unfold zTh
      rw [n2 125 _ (by omega) (by omega), n2 126 _ (by omega) (by omega), n2 98 4 (by omega) (by omega), n2 100 _ (by omega) (by omega), n2 100 _ (by omega) (by omega)]
    refine (c_X10_kindOn (d := d + 45) z1 (by rw [n2 98 4 (by omega) (by omega), e4]; exact h4)).mono (fun r m3 q _ _ => ?_)
    obtain ⟨hr, hm⟩ := q
    rw [hr, hm, tm]
    exact ⟨fun q => absurd q (hno ⟨z1, z2⟩), fun _ => ⟨rfl, fin⟩⟩
  refine zCt.of (by decide) (Nat.le_of_ble_eq_true rfl) (vc_X9_act_0 (d := d) s w x m is iw ix (fun _ m1 e1 _ => ?_))
  have n1 : ∀ a k, ¬ a = 94 → m1.1 a k = m.1 a k := fun a k q => by rw [e1, sI_ne (by omega)]
  rw [n1 92 s (by omega), n1 91 s (by omega), n1 1 6 (by omega), e6]
  refine ⟨fun z1 => ⟨fun z2 => ⟨by omega, by omega, fun z3 => ?_, fun z3 => ⟨by omega, by omega, fun v16 e16 => ⟨h4.1, fun z4 => ⟨by omega, by omega, ?_⟩, fun z4 => ?_⟩⟩⟩, fun z2 => none m1 e1 (fun q => absurd q.2 z2)⟩, fun z1 => none m1 e1 (fun q => absurd q.1 z1)⟩
  · have hx := hh s z1.1 (by omega)
    refine none m1 e1 (fun _ => ?_)
    rcases hx with ⟨x1, x2, x3⟩ | ⟨x1, x2, x3, x4⟩ | ⟨x1, x2, x3, x4, x5⟩
    · omega
    · omega
    · have t : zTh m s = 9 := by unfold zTh; rw [x1, if_neg (by omega), if_pos (by omega)]
      omega
  · have hx := hh s z1.1 (by omega)
    rcases hx with ⟨x1, x2, x3⟩ | ⟨x1, x2, x3, x4⟩ | ⟨x1, x2, x3, x4, x5⟩
    · omega
    · subst e16
      have g := wf_part hW z4.1 z4.2
      have g0 := g.1
      have g3 := g.2.2.2.1
      have g4 := g.2.2.2.2.1
      have c : ∀ k, 0 ≤ k ∧ k < 10 → m1.1 (10 + m.1 91 s) k = zp (pv m.1) (m.1 91 s) k := fun k hk => by rw [n1 _ _ (by omega), show (10 + m.1 91 s : Int) = 1 + 9 + m.1 91 s by omega]; exact hR.1.part z4.1 z4.2 k hk
      have ez : ∀ j, m.1 100 (10 * m.1 126 s + j) = zp (pv m.1) (m.1 91 s) j := fun j => by rw [← x2]; exact pv_r rfl (by omega) _
      have t : zTh m s = if zp (pv m.1) (m.1 91 s) 4 = 0 then zp (pv m.1) (m.1 91 s) 0 else 6 := by
        unfold zTh
        rw [if_pos x1, e4, ← x2, if_pos z4, x2, ez 0, ez 4, x2]
        by_cases y : zp (pv m.1) (m.1 126 s) 4 = 0
        · rw [if_pos y, if_pos (by omega)]
        · rw [if_neg y, if_neg (by rw [← x2] at y ⊢; omega)]
      have tr : 1 ≤ zTh m s ∧ zTh m s ≤ 6 := by rw [t]; split <;> omega
      have ek : (if m1.1 (10 + m.1 91 s) 4 = 0 then m1.1 (10 + m.1 91 s) 0 else 6) = zTh m s := by rw [t, c 4 (by omega), c 0 (by omega)]
      refine (c_X0_answer (d := d) (q := 10 + m.1 91 s) (nb := m.1 91 s) (zPn1_s z4.1 (by omega)) (by omega) (by rw [ek]; exact tr) (by rw [c 3 (by omega)]; omega) z2 ix (by rw [e1, sI_eq])).mono (fun r m3 q => ?_)
      obtain ⟨hr, f3, hT3⟩ := q
      rw [ek, c 3 (by omega)] at hr
      rw [ek] at hT3
      intro _ _
      have f3m : zFr (fun a _ => a = 94 ∨ a = 95) m m3 := (zFr.rf.put e1 (Or.inl rfl)).tr f3
      have n3 : ∀ a k, ¬ (a = 94 ∨ a = 95) → m3.1 a k = m.1 a k := fun a k q => f3m.1 a k q
      refine zCt.of (by decide) (Nat.le_of_ble_eq_true rfl) (vc_X10_act_0 (d := d + 42) s w x m3 is iw ix (fun _ m4 e4' _ => ?_))
      refine ⟨fun _ => ⟨fun _ => ?_, fun q => absurd z2 q⟩, fun q => absurd z1 q⟩
      have n4 : ∀ a k, ¬ (a = 94 ∨ a = 95) → ¬ (a = 98 ∧ k = 54) → m4.1 a k = m.1 a k := fun a k q q2 => by rw [e4', sI_ne (by omega), n3 a k q]
      have tm : zTh m4 s = zTh m s := by
        unfold zTh
        rw [n4 125 _ (by omega) (by omega), n4 126 _ (by omega) (by omega), n4 98 4 (by omega) (by omega), n4 100 _ (by omega) (by omega), n4 100 _ (by omega) (by omega)]
      have h4m : 0 ≤ m4.1 98 4 ∧ m4.1 98 4 ≤ 10 := by rw [n4 98 4 (by omega) (by omega), e4]; exact h4
      refine (c_X10_kindOn (d := d + 45) z1 h4m).mono (fun r5 m5 q _ _ => ?_)
      obtain ⟨hr5, hm5⟩ := q
      rw [hr5, hm5, tm]
      refine ⟨fun _ => ?_, fun q => absurd tr q⟩
      refine (c_X10_kindOn (d := d + 45) z1 h4m).mono (fun r6 m6 q _ _ => ?_)
      obtain ⟨hr6, hm6⟩ := q
      rw [hr6, hm6, tm]
      intro m16 e16 _
      refine ⟨by omega, by omega, fun m20 e20 _ => ?_⟩
      have c126 : m16.1 126 s = m.1 91 s := by rw [e16, sI_ne (by omega), n4 126 _ (by omega) (by omega)]; exact x2.symm
      rw [c126] at e20
      have c51 : m20.1 98 51 = m.1 91 s := by rw [e20, sI_eq]
      rw [c51]
      have c100 : m20.1 100 (10 * m.1 91 s + 3) = zp (pv m.1) (m.1 91 s) 3 := by rw [e20, sI_ne (by omega), e16, sI_ne (by omega), n4 100 _ (by omega) (by omega)]; exact pv_r rfl (by omega) _
      rw [c100]
      refine ⟨by omega, by omega, fun m26 e26 _ m28 e28 _ => ?_⟩
      have b50 : m28.1 98 50 = zTh m s := by rw [e28, sI_ne (by omega), e26, sI_ne (by omega), e20, sI_ne (by omega), e16, sI_eq]
      have b51 : m28.1 98 51 = m.1 91 s := by rw [e28, sI_ne (by omega), e26, sI_ne (by omega)]; exact c51
      have b52 : m28.1 98 52 = zp (pv m.1) (m.1 91 s) 3 := by rw [e28, sI_ne (by omega), e26, sI_eq]
      have b54 : m28.1 98 54 = 0 := by rw [e28, sI_ne (by omega), e26, sI_ne (by omega), e20, sI_ne (by omega), e16, sI_ne (by omega), e4', sI_eq]
      have b55 : m28.1 98 55 = 0 := by rw [e28, sI_eq]
      have f28 : zFr (fun a k => (a = 98 ∧ 50 ≤ k ∧ k ≤ 55) ∨ a = 128) m3 m28 := ((((zFr.rf.put e4' (by omega)).put e16 (by omega)).put e20 (by omega)).put e26 (by omega)).put e28 (by omega)
      have hT28 := zTm_0 b54
      have fin : ∀ m9, zFr zSr5 m28 m9 → zTm m9 (tA (zTh m s) w) → zInv (n + 1) m9 := by
        intro m9 g hM
        have g' : zFr (fun a k => (a = 98 ∧ 50 ≤ k ∧ k ≤ 55) ∨ a = 128) m3 m9 := f28.tr (g.mono (fun a k q => by unfold zSr5 zSr at q; omega))
        have hal := tA_l (zTh m s) w
        exact h.act ((f3m.mono (fun a k q => by unfold zSX; omega)).tr (g'.mono (fun a k q => by unfold zSX; omega))) (zIA_of (by omega) hT3 g' hM)
      rw [hr]
      have hk28 : 1 ≤ m28.1 98 50 ∧ m28.1 98 50 ≤ 6 := by rw [b50]; exact tr
      have hn28 : (0 ≤ m28.1 98 51 ∧ m28.1 98 51 ≤ 9) ∧ (1 ≤ m28.1 98 52 ∧ m28.1 98 52 ≤ 9) := by rw [b51, b52]; omega
      refine ⟨fun w0 => ?_, fun w0 => ⟨fun w1 => ?_, fun w1 => ⟨fun w2 => ?_, fun w2 => ?_⟩⟩⟩
      · subst w0
        refine (c_X10_flowsIt (d := d + 46) hk28 ix hT28 (by decide)).mono (fun r9 m9 q _ _ => ?_)
        obtain ⟨hr9, g9, hM9⟩ := q
        rw [b50] at hM9
        rw [b50, b52] at hr9
        have e : m9.1 98 55 = 0 := by rw [g9.1 98 55 (by unfold zSr; omega)]; exact b55
        rw [e]
        exact ⟨fun _ => ⟨by rw [hr9]; rfl, fin m9 (g9.mono (fun a k q => Or.inl q)) hM9⟩, fun q => absurd rfl q⟩
      · subst w1
        refine (c_X10_restsIt (d := d + 44) hk28 ix hT28 (by decide)).mono (fun r9 m9 q _ _ => ?_)
        obtain ⟨hr9, g9, hM9⟩ := q
        rw [b50] at hM9
        rw [b50, b52] at hr9
        have e : m9.1 98 55 = 0 := by rw [g9.1 98 55 (by unfold zSr; omega)]; exact b55
        rw [e]
        exact ⟨fun _ => ⟨by rw [hr9]; rfl, fin m9 (g9.mono (fun a k q => Or.inl q)) hM9⟩, fun q => absurd rfl q⟩
      · subst w2
        refine (c_X10_partsIt (d := d + 46) hn28 ix b55 hT28 (by decide)).mono (fun r9 m9 q _ _ => ?_)
        obtain ⟨hr9, g9, hM9, h5⟩ := q
        rw [b50] at hM9
        rw [b50, b51, b52] at hr9
        rw [b51, b52] at h5
        have hv : vA (zTh m s) (zp (pv m.1) (m.1 91 s) 3) (m.1 91 s) 2 x = if zp (pv m.1) (m.1 91 s) 3 = m.1 91 s then -15 else vP (zTh m s) (zp (pv m.1) (m.1 91 s) 3) (m.1 91 s) x := rfl
        rw [h5, hv]
        by_cases z : zp (pv m.1) (m.1 91 s) 3 = m.1 91 s
        · rw [if_pos z, if_pos z]
          exact ⟨fun q => absurd q (by decide), fun _ => ⟨rfl, fin m9 g9 hM9⟩⟩
        · rw [if_neg z, if_neg z]
          exact ⟨fun _ => ⟨hr9, fin m9 g9 hM9⟩, fun q => absurd rfl q⟩
      · have w3 : w = 3 := by omega
        subst w3
        refine (c_X10_errsIt (d := d + 42) hk28 hn28 ix b55 hT28 (by decide)).mono (fun r9 m9 q _ _ => ?_)
        obtain ⟨hr9, g9, hM9, h5⟩ := q
        rw [b50] at hM9
        rw [b50, b51, b52] at hr9 h5
        have hv : vA (zTh m s) (zp (pv m.1) (m.1 91 s) 3) (m.1 91 s) 3 x = if zTh m s = 5 ∧ zp (pv m.1) (m.1 91 s) 3 = m.1 91 s then -15 else vE (zTh m s) (zp (pv m.1) (m.1 91 s) 3) (m.1 91 s) x := rfl
        rw [h5, hv]
        by_cases z : zTh m s = 5 ∧ zp (pv m.1) (m.1 91 s) 3 = m.1 91 s
        · rw [if_pos z, if_pos z]
          exact ⟨fun q => absurd q (by decide), fun _ => ⟨rfl, fin m9 g9 hM9⟩⟩
        · rw [if_neg z, if_neg z]
          exact ⟨fun _ => ⟨hr9, fin m9 g9 hM9⟩, fun q => absurd rfl q⟩
    · omega
  · have hx := hh s z1.1 (by omega)
    subst e16
    refine none m1 e1 (fun _ => ?_)
    rcases hx with ⟨x1, x2, x3⟩ | ⟨x1, x2, x3, x4⟩ | ⟨x1, x2, x3, x4, x5⟩
    · have t : zTh m s = -1 := by unfold zTh; rw [x1, if_neg (by omega), if_neg (by omega)]
      omega
    · have t : zTh m s = -1 := by unfold zTh; rw [if_pos x1, e4, ← x2, if_neg z4]
      omega
    · omega
end AC2
