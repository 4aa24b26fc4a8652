/-! ===== ACTS: the class's bodies ===== -/
theorem zw_id {v : Int} (h : inR v) : zw v = v := iz_toInt h
theorem zw_zw (v : Int) : zw (zw v) = zw v := zw_id (inR_zw v)
theorem zw_add (a b : Int) : zw (zw a + b) = zw (a + b) := by unfold zw; rw [← iz_add, iz_of, iz_add]
theorem zw_sub (a b : Int) : zw (zw a - b) = zw (a - b) := by unfold zw; rw [← iz_sub, iz_of, iz_sub]
theorem zw_mul (a b : Int) : zw (zw a * b) = zw (a * b) := by unfold zw; rw [← iz_mul, iz_of, iz_mul]
theorem zxor_w (a b : Int) : zxor (zw a) b = zxor a b := by unfold zxor; rw [izw]
theorem zw_xor (a b : Int) : zw (zxor a b) = zxor a b := zw_id (inR_of _)
theorem zdv_w (a b : Int) : zdv (zw a) b = zdv a b := by unfold zdv; rw [izw]
theorem zw_dv (a b : Int) : zw (zdv a b) = zdv a b := zw_id (inR_of _)
theorem zw_0 : zw 0 = 0 := rfl
def zTc (m : zM) (L : List Int) : Prop := m.1 94 1 = (L.length : Int) ∧ ∀ i : Nat, i < L.length → m.1 95 (i : Int) = L.getD i 0
def zSn (a k : Int) : Prop := (a = 94 ∧ k = 1) ∨ a = 95
theorem getD_app {L : List Int} {b : Int} {i : Nat} (h : i < L.length + 1) : (L ++ [b]).getD i 0 = if i = L.length then b else L.getD i 0 := by
  by_cases z : i = L.length
  · subst z
    rw [if_pos rfl]
    simp
  · rw [if_neg z]
    simp only [List.getD_eq_getElem?_getD]
    rw [List.getElem?_append_left (by omega)]
section ACB
variable {K : zCx} {d : Nat} {m : zM}
theorem c_X0_note {b : Int} {L : List Int} (hT : zTc m L) (hL : L.length < 30) (ib : inR b) : zCt K (d + 1) mX0_note [rr K 94, .int (iz b)] m (fun r m1 => r = 0 ∧ zFr zSn m m1 ∧ zTc m1 (L ++ [b])) := by
  refine zCt.of (by decide) (Nat.le_of_ble_eq_true rfl) (vc_X0_note_0 (d := d) b m ib (fun _ => ?_))
  rw [hT.1]
  refine ⟨fun _ => ⟨by omega, by omega, fun m4 e4 _ => ?_⟩, fun q => absurd (by omega) q⟩
  have e1 : m4.1 94 1 = (L.length : Int) := by rw [e4, sI_ne (by omega)]; exact hT.1
  rw [e1]
  refine ⟨inR_b (A := 1000) (by omega) (by omega) rfl, fun m7 e7 _ => ⟨rfl, (zFr.rf.put e4 (Or.inr rfl)).put e7 (Or.inl ⟨rfl, rfl⟩), ?_, fun i hi => ?_⟩⟩
  · rw [e7, sI_eq, List.length_append]; rfl
  · rw [List.length_append] at hi
    have hi' : i < L.length + 1 := hi
    rw [getD_app hi', e7, sI_ne (by omega), e4, sI_at]
    by_cases z : i = L.length
    · rw [if_pos z, if_pos ⟨rfl, by omega⟩]
    · rw [if_neg z, if_neg (by omega)]; exact hT.2 i (by omega)
def zat : Nat → Int → Int → Int
  | 0, x, _ => x
  | f + 1, x, w => if x ≤ 0 then x else if zOw.getD (((x * 4) + w)).toNat 0 = 0 then zat f (zAb.getD x.toNat 0) w else x
theorem zAb_r : ∀ x : Fin 7, 1 ≤ x.val → 0 ≤ zAb.getD x.val 0 ∧ zAb.getD x.val 0 ≤ 6 := by decide
theorem zOw_r : ∀ x : Fin 28, 0 ≤ zOw.getD x.val 0 ∧ zOw.getD x.val 0 ≤ 70 := by decide
theorem t_run_6 {Q : Int → zM → Prop} {w x dep : Int} (hw : 0 ≤ w ∧ w ≤ 3) (ix : inR x) (id : inR dep) : ∀ (f : Nat) (y c : Int), 0 ≤ y ∧ y ≤ 6 → c + f = 7 → 0 ≤ c → zV K mX0_run (d + 2) 45 [(0, rr K 94), (2, .int (iz w)), (3, .int (iz x)), (4, .int (iz dep)), (5, .int (iz (zat f y w)))] [] m Q → zV K mX0_run (d + 2) 6 [(0, rr K 94), (2, .int (iz w)), (3, .int (iz x)), (4, .int (iz dep)), (5, .int (iz y)), (6, .int (iz c))] [] m Q := by
  intro f
  induction f with
  | zero => exact fun y c hy hc h0 k => vc_X0_run_6 w x dep y c m (inR_b (A := 1000) (by omega) (by omega) rfl) ix id (inR_b (A := 1000) (by omega) (by omega) rfl) (inR_b (A := 1000) (by omega) (by omega) rfl) (fun _ => ⟨fun _ => k, fun q => absurd (by omega) q⟩)
  | succ f ih =>
    intro y c hy hc h0 k
    unfold zat at k
    refine vc_X0_run_6 w x dep y c m (inR_b (A := 1000) (by omega) (by omega) rfl) ix id (inR_b (A := 1000) (by omega) (by omega) rfl) (inR_b (A := 1000) (by omega) (by omega) rfl) (fun _ => ⟨fun q => absurd q (by omega), fun _ => ⟨fun z => ?_, fun z => ⟨by omega, by omega, ?_, fun z2 => ⟨by omega, by omega, fun v e => ?_⟩, fun z2 => ?_⟩⟩⟩)
    · rw [if_pos z] at k; exact k
    · have := zOw_r ⟨((y * 4) + w).toNat, by omega⟩
      have : 0 ≤ zOw.getD ((y * 4) + w).toNat 0 ∧ zOw.getD ((y * 4) + w).toNat 0 ≤ 70 := this
      exact inR_b (A := 1000) (by omega) (by omega) rfl
    · rw [if_neg z, if_pos z2] at k
      have := zAb_r ⟨y.toNat, by omega⟩ (by show 1 ≤ y.toNat; omega)
      have : 0 ≤ zAb.getD y.toNat 0 ∧ zAb.getD y.toNat 0 ≤ 6 := this
      rw [e]
      exact ih _ (c + 1) this (by omega) (by omega) k
    · rw [if_neg z, if_neg z2] at k; exact k
theorem c_run_of {Q : Int → zM → Prop} {y w x dep : Int} (hy : 0 ≤ y ∧ y ≤ 6) (hw : 0 ≤ w ∧ w ≤ 3) (ix : inR x) (hd : 0 ≤ dep ∧ dep < 40) (k : zV K mX0_run (d + 2) 45 [(0, rr K 94), (2, .int (iz w)), (3, .int (iz x)), (4, .int (iz dep)), (5, .int (iz (zat 7 y w)))] [] m Q) : zCt K (d + 2) mX0_run [rr K 94, .int (iz y), .int (iz w), .int (iz x), .int (iz dep)] m Q :=
  zCt.of (by decide) (Nat.le_of_ble_eq_true rfl) (vc_X0_run_0 (d := d) y w x dep m (inR_b (A := 1000) (by omega) (by omega) rfl) (inR_b (A := 1000) (by omega) (by omega) rfl) ix (inR_b (A := 1000) (by omega) (by omega) rfl) (fun _ => t_run_6 hw ix (inR_b (A := 1000) (by omega) (by omega) rfl) 7 y 0 hy (by omega) (by omega) k))
theorem b_run_10 {x2 x3 x4 x5 : Int} {L : List Int} {Q : Int → zM → Prop} (hb : zOw.getD (((x5 * 4) + x2)).toNat 0 = 10) (hr : (0 ≤ x5 ∧ x5 ≤ 6) ∧ (0 ≤ x2 ∧ x2 ≤ 3)) (i3 : inR x3) (h4 : 0 ≤ x4 ∧ x4 < 40) (hf : m.1 94 5 = 0) (hT : zTc m L) (hL : L.length < 30)
    (k : ∀ m15 : zM, zFr zSn m m15 → zTc m15 (L ++ [10]) → Q (zw (x3 + (m15.1 94 4))) m15) : zV K mX0_run (d + 2) 45 [(0, rr K 94), (2, .int (iz x2)), (3, .int (iz x3)), (4, .int (iz x4)), (5, .int (iz x5))] [] m Q := by
  refine vcw_X0_run_45 (d := d) x2 x3 x4 x5 m (inR_b (A := 1000) (by omega) (by omega) rfl) i3 (inR_b (A := 1000) (by omega) (by omega) rfl) (inR_b (A := 1000) (by omega) (by omega) rfl) (fun _ => ⟨fun _ => ⟨fun q => absurd q (by omega), fun _ => ⟨fun _ => ⟨by omega, by omega, fun v6 e6 => ⟨by omega, by omega, fun v10 e10 v12 e12 => ?_⟩⟩, fun q => absurd h4.2 q⟩⟩, fun q => absurd hf q⟩)
  rw [hb] at e6
  rw [e6]
  subst e10 e12
  refine (c_X0_note (d := d) hT hL (inRd rfl)).mono (fun r14 m15 q _ _ => ?_)
  have hk := k m15 q.2.1 q.2.2
  exact ⟨inRd rfl, fun _ => hk, fun q => absurd q (by omega), fun q => absurd q (by omega), fun q => absurd q (by omega), fun q => absurd q (by omega), fun q => absurd q (by omega), fun q => absurd q (by omega), fun q => absurd q (by omega), fun q => absurd q (by omega), fun q => absurd q (by omega), fun q => absurd q (by omega), fun q => absurd q (by omega), fun q => absurd q (by omega)⟩
theorem b_run_11 {x2 x3 x4 x5 : Int} {L : List Int} {Q : Int → zM → Prop} (hb : zOw.getD (((x5 * 4) + x2)).toNat 0 = 11) (hr : (0 ≤ x5 ∧ x5 ≤ 6) ∧ (0 ≤ x2 ∧ x2 ≤ 3)) (i3 : inR x3) (h4 : 0 ≤ x4 ∧ x4 < 40) (hf : m.1 94 5 = 0) (hT : zTc m L) (hL : L.length < 30)
    (k : ∀ m15 : zM, zFr zSn m m15 → zTc m15 (L ++ [11]) → zCt K (d + 1) mX0_run [rr K 94, .int (iz (m15.1 94 2)), .int (iz 0), .int (iz x3), .int (iz (x4 + 1))] m15 (fun r m2 => inR r → zok m2 → Q (zw (r * 2)) m2)) : zV K mX0_run (d + 2) 45 [(0, rr K 94), (2, .int (iz x2)), (3, .int (iz x3)), (4, .int (iz x4)), (5, .int (iz x5))] [] m Q := by
  refine vcw_X0_run_45 (d := d) x2 x3 x4 x5 m (inR_b (A := 1000) (by omega) (by omega) rfl) i3 (inR_b (A := 1000) (by omega) (by omega) rfl) (inR_b (A := 1000) (by omega) (by omega) rfl) (fun _ => ⟨fun _ => ⟨fun q => absurd q (by omega), fun _ => ⟨fun _ => ⟨by omega, by omega, fun v6 e6 => ⟨by omega, by omega, fun v10 e10 v12 e12 => ?_⟩⟩, fun q => absurd h4.2 q⟩⟩, fun q => absurd hf q⟩)
  rw [hb] at e6
  rw [e6]
  subst e10 e12
  refine (c_X0_note (d := d) hT hL (inRd rfl)).mono (fun r14 m15 q _ _ => ?_)
  have hk := k m15 q.2.1 q.2.2
  exact ⟨inRd rfl, fun q => absurd q (by omega), fun _ => hk, fun q => absurd q (by omega), fun q => absurd q (by omega), fun q => absurd q (by omega), fun q => absurd q (by omega), fun q => absurd q (by omega), fun q => absurd q (by omega), fun q => absurd q (by omega), fun q => absurd q (by omega), fun q => absurd q (by omega), fun q => absurd q (by omega), fun q => absurd q (by omega)⟩
theorem b_run_12 {x2 x3 x4 x5 : Int} {L : List Int} {Q : Int → zM → Prop} (hb : zOw.getD (((x5 * 4) + x2)).toNat 0 = 12) (hr : (0 ≤ x5 ∧ x5 ≤ 6) ∧ (0 ≤ x2 ∧ x2 ≤ 3)) (i3 : inR x3) (h4 : 0 ≤ x4 ∧ x4 < 40) (hf : m.1 94 5 = 0) (hT : zTc m L) (hL : L.length < 30)
    (k : ∀ m15 : zM, zFr zSn m m15 → zTc m15 (L ++ [12]) → zCt K (d + 1) mX0_parted [rr K 94, .int (iz x3)] m15 (fun r m2 => inR r → zok m2 → Q (zw r) m2)) : zV K mX0_run (d + 2) 45 [(0, rr K 94), (2, .int (iz x2)), (3, .int (iz x3)), (4, .int (iz x4)), (5, .int (iz x5))] [] m Q := by
  refine vcw_X0_run_45 (d := d) x2 x3 x4 x5 m (inR_b (A := 1000) (by omega) (by omega) rfl) i3 (inR_b (A := 1000) (by omega) (by omega) rfl) (inR_b (A := 1000) (by omega) (by omega) rfl) (fun _ => ⟨fun _ => ⟨fun q => absurd q (by omega), fun _ => ⟨fun _ => ⟨by omega, by omega, fun v6 e6 => ⟨by omega, by omega, fun v10 e10 v12 e12 => ?_⟩⟩, fun q => absurd h4.2 q⟩⟩, fun q => absurd hf q⟩)
  rw [hb] at e6
  rw [e6]
  subst e10 e12
  refine (c_X0_note (d := d) hT hL (inRd rfl)).mono (fun r14 m15 q _ _ => ?_)
  have hk := k m15 q.2.1 q.2.2
  exact ⟨inRd rfl, fun q => absurd q (by omega), fun q => absurd q (by omega), fun _ => hk, fun q => absurd q (by omega), fun q => absurd q (by omega), fun q => absurd q (by omega), fun q => absurd q (by omega), fun q => absurd q (by omega), fun q => absurd q (by omega), fun q => absurd q (by omega), fun q => absurd q (by omega), fun q => absurd q (by omega), fun q => absurd q (by omega)⟩
theorem b_run_13 {x2 x3 x4 x5 : Int} {L : List Int} {Q : Int → zM → Prop} (hb : zOw.getD (((x5 * 4) + x2)).toNat 0 = 13) (hr : (0 ≤ x5 ∧ x5 ≤ 6) ∧ (0 ≤ x2 ∧ x2 ≤ 3)) (i3 : inR x3) (h4 : 0 ≤ x4 ∧ x4 < 40) (hf : m.1 94 5 = 0) (hT : zTc m L) (hL : L.length < 30)
    (k : ∀ m15 : zM, zFr zSn m m15 → zTc m15 (L ++ [13]) → zCt K (d + 1) mX0_run [rr K 94, .int (iz (m15.1 94 2)), .int (iz 1), .int (iz x3), .int (iz (x4 + 1))] m15 (fun r m2 => inR r → zok m2 → Q (zw (zxor r (m2.1 94 3))) m2)) : zV K mX0_run (d + 2) 45 [(0, rr K 94), (2, .int (iz x2)), (3, .int (iz x3)), (4, .int (iz x4)), (5, .int (iz x5))] [] m Q := by
  refine vcw_X0_run_45 (d := d) x2 x3 x4 x5 m (inR_b (A := 1000) (by omega) (by omega) rfl) i3 (inR_b (A := 1000) (by omega) (by omega) rfl) (inR_b (A := 1000) (by omega) (by omega) rfl) (fun _ => ⟨fun _ => ⟨fun q => absurd q (by omega), fun _ => ⟨fun _ => ⟨by omega, by omega, fun v6 e6 => ⟨by omega, by omega, fun v10 e10 v12 e12 => ?_⟩⟩, fun q => absurd h4.2 q⟩⟩, fun q => absurd hf q⟩)
  rw [hb] at e6
  rw [e6]
  subst e10 e12
  refine (c_X0_note (d := d) hT hL (inRd rfl)).mono (fun r14 m15 q _ _ => ?_)
  have hk := k m15 q.2.1 q.2.2
  exact ⟨inRd rfl, fun q => absurd q (by omega), fun q => absurd q (by omega), fun q => absurd q (by omega), fun _ => hk, fun q => absurd q (by omega), fun q => absurd q (by omega), fun q => absurd q (by omega), fun q => absurd q (by omega), fun q => absurd q (by omega), fun q => absurd q (by omega), fun q => absurd q (by omega), fun q => absurd q (by omega), fun q => absurd q (by omega)⟩
theorem b_run_20 {x2 x3 x4 x5 : Int} {L : List Int} {Q : Int → zM → Prop} (hb : zOw.getD (((x5 * 4) + x2)).toNat 0 = 20) (hr : (0 ≤ x5 ∧ x5 ≤ 6) ∧ (0 ≤ x2 ∧ x2 ≤ 3)) (i3 : inR x3) (h4 : 0 ≤ x4 ∧ x4 < 40) (hf : m.1 94 5 = 0) (hT : zTc m L) (hL : L.length < 30)
    (k : ∀ m15 : zM, zFr zSn m m15 → zTc m15 (L ++ [20]) → zCt K (d + 1) mX0_run [rr K 94, .int (iz (zAb.getD (x5).toNat 0)), .int (iz 0), .int (iz x3), .int (iz (x4 + 1))] m15 (fun r m2 => inR r → zok m2 → Q (zw (r - 3)) m2)) : zV K mX0_run (d + 2) 45 [(0, rr K 94), (2, .int (iz x2)), (3, .int (iz x3)), (4, .int (iz x4)), (5, .int (iz x5))] [] m Q := by
  refine vcw_X0_run_45 (d := d) x2 x3 x4 x5 m (inR_b (A := 1000) (by omega) (by omega) rfl) i3 (inR_b (A := 1000) (by omega) (by omega) rfl) (inR_b (A := 1000) (by omega) (by omega) rfl) (fun _ => ⟨fun _ => ⟨fun q => absurd q (by omega), fun _ => ⟨fun _ => ⟨by omega, by omega, fun v6 e6 => ⟨by omega, by omega, fun v10 e10 v12 e12 => ?_⟩⟩, fun q => absurd h4.2 q⟩⟩, fun q => absurd hf q⟩)
  rw [hb] at e6
  rw [e6]
  subst e10 e12
  refine (c_X0_note (d := d) hT hL (inRd rfl)).mono (fun r14 m15 q _ _ => ?_)
  have hk := k m15 q.2.1 q.2.2
  exact ⟨inRd rfl, fun q => absurd q (by omega), fun q => absurd q (by omega), fun q => absurd q (by omega), fun q => absurd q (by omega), fun _ => hk, fun q => absurd q (by omega), fun q => absurd q (by omega), fun q => absurd q (by omega), fun q => absurd q (by omega), fun q => absurd q (by omega), fun q => absurd q (by omega), fun q => absurd q (by omega), fun q => absurd q (by omega)⟩
theorem b_run_30 {x2 x3 x4 x5 : Int} {L : List Int} {Q : Int → zM → Prop} (hb : zOw.getD (((x5 * 4) + x2)).toNat 0 = 30) (hr : (0 ≤ x5 ∧ x5 ≤ 6) ∧ (0 ≤ x2 ∧ x2 ≤ 3)) (i3 : inR x3) (h4 : 0 ≤ x4 ∧ x4 < 40) (hf : m.1 94 5 = 0) (hT : zTc m L) (hL : L.length < 30)
    (k : ∀ m15 : zM, zFr zSn m m15 → zTc m15 (L ++ [30]) → zCt K (d + 1) mX0_run [rr K 94, .int (iz (zAb.getD (x5).toNat 0)), .int (iz 1), .int (iz x3), .int (iz (x4 + 1))] m15 (fun r m2 => inR r → zok m2 → zCt K (d + 1) mX0_run [rr K 94, .int (iz (m2.1 94 2)), .int (iz 0), .int (iz 2), .int (iz (x4 + 1))] m2 (fun r2 m3 => inR r2 → zok m3 → Q (zw (r + r2)) m3))) : zV K mX0_run (d + 2) 45 [(0, rr K 94), (2, .int (iz x2)), (3, .int (iz x3)), (4, .int (iz x4)), (5, .int (iz x5))] [] m Q := by
  refine vcw_X0_run_45 (d := d) x2 x3 x4 x5 m (inR_b (A := 1000) (by omega) (by omega) rfl) i3 (inR_b (A := 1000) (by omega) (by omega) rfl) (inR_b (A := 1000) (by omega) (by omega) rfl) (fun _ => ⟨fun _ => ⟨fun q => absurd q (by omega), fun _ => ⟨fun _ => ⟨by omega, by omega, fun v6 e6 => ⟨by omega, by omega, fun v10 e10 v12 e12 => ?_⟩⟩, fun q => absurd h4.2 q⟩⟩, fun q => absurd hf q⟩)
  rw [hb] at e6
  rw [e6]
  subst e10 e12
  refine (c_X0_note (d := d) hT hL (inRd rfl)).mono (fun r14 m15 q _ _ => ?_)
  have hk := k m15 q.2.1 q.2.2
  exact ⟨inRd rfl, fun q => absurd q (by omega), fun q => absurd q (by omega), fun q => absurd q (by omega), fun q => absurd q (by omega), fun q => absurd q (by omega), fun _ => hk, fun q => absurd q (by omega), fun q => absurd q (by omega), fun q => absurd q (by omega), fun q => absurd q (by omega), fun q => absurd q (by omega), fun q => absurd q (by omega), fun q => absurd q (by omega)⟩
theorem b_run_31 {x2 x3 x4 x5 : Int} {L : List Int} {Q : Int → zM → Prop} (hb : zOw.getD (((x5 * 4) + x2)).toNat 0 = 31) (hr : (0 ≤ x5 ∧ x5 ≤ 6) ∧ (0 ≤ x2 ∧ x2 ≤ 3)) (i3 : inR x3) (h4 : 0 ≤ x4 ∧ x4 < 40) (hf : m.1 94 5 = 0) (hT : zTc m L) (hL : L.length < 30)
    (k : ∀ m15 : zM, zFr zSn m m15 → zTc m15 (L ++ [31]) → zCt K (d + 1) mX0_run [rr K 94, .int (iz (zAb.getD (x5).toNat 0)), .int (iz 3), .int (iz x3), .int (iz (x4 + 1))] m15 (fun r m2 => inR r → zok m2 → Q (zw (r * 5)) m2)) : zV K mX0_run (d + 2) 45 [(0, rr K 94), (2, .int (iz x2)), (3, .int (iz x3)), (4, .int (iz x4)), (5, .int (iz x5))] [] m Q := by
  refine vcw_X0_run_45 (d := d) x2 x3 x4 x5 m (inR_b (A := 1000) (by omega) (by omega) rfl) i3 (inR_b (A := 1000) (by omega) (by omega) rfl) (inR_b (A := 1000) (by omega) (by omega) rfl) (fun _ => ⟨fun _ => ⟨fun q => absurd q (by omega), fun _ => ⟨fun _ => ⟨by omega, by omega, fun v6 e6 => ⟨by omega, by omega, fun v10 e10 v12 e12 => ?_⟩⟩, fun q => absurd h4.2 q⟩⟩, fun q => absurd hf q⟩)
  rw [hb] at e6
  rw [e6]
  subst e10 e12
  refine (c_X0_note (d := d) hT hL (inRd rfl)).mono (fun r14 m15 q _ _ => ?_)
  have hk := k m15 q.2.1 q.2.2
  exact ⟨inRd rfl, fun q => absurd q (by omega), fun q => absurd q (by omega), fun q => absurd q (by omega), fun q => absurd q (by omega), fun q => absurd q (by omega), fun q => absurd q (by omega), fun _ => hk, fun q => absurd q (by omega), fun q => absurd q (by omega), fun q => absurd q (by omega), fun q => absurd q (by omega), fun q => absurd q (by omega), fun q => absurd q (by omega)⟩
theorem b_run_40 {x2 x3 x4 x5 : Int} {L : List Int} {Q : Int → zM → Prop} (hb : zOw.getD (((x5 * 4) + x2)).toNat 0 = 40) (hr : (0 ≤ x5 ∧ x5 ≤ 6) ∧ (0 ≤ x2 ∧ x2 ≤ 3)) (i3 : inR x3) (h4 : 0 ≤ x4 ∧ x4 < 40) (hf : m.1 94 5 = 0) (hT : zTc m L) (hL : L.length < 30)
    (k : ∀ m15 : zM, zFr zSn m m15 → zTc m15 (L ++ [40]) → zCt K (d + 1) mX0_run [rr K 94, .int (iz (zAb.getD (x5).toNat 0)), .int (iz 0), .int (iz x3), .int (iz (x4 + 1))] m15 (fun r m2 => inR r → zok m2 → Q (zw (zxor r (m2.1 94 4))) m2)) : zV K mX0_run (d + 2) 45 [(0, rr K 94), (2, .int (iz x2)), (3, .int (iz x3)), (4, .int (iz x4)), (5, .int (iz x5))] [] m Q := by
  refine vcw_X0_run_45 (d := d) x2 x3 x4 x5 m (inR_b (A := 1000) (by omega) (by omega) rfl) i3 (inR_b (A := 1000) (by omega) (by omega) rfl) (inR_b (A := 1000) (by omega) (by omega) rfl) (fun _ => ⟨fun _ => ⟨fun q => absurd q (by omega), fun _ => ⟨fun _ => ⟨by omega, by omega, fun v6 e6 => ⟨by omega, by omega, fun v10 e10 v12 e12 => ?_⟩⟩, fun q => absurd h4.2 q⟩⟩, fun q => absurd hf q⟩)
  rw [hb] at e6
  rw [e6]
  subst e10 e12
  refine (c_X0_note (d := d) hT hL (inRd rfl)).mono (fun r14 m15 q _ _ => ?_)
  have hk := k m15 q.2.1 q.2.2
  exact ⟨inRd rfl, fun q => absurd q (by omega), fun q => absurd q (by omega), fun q => absurd q (by omega), fun q => absurd q (by omega), fun q => absurd q (by omega), fun q => absurd q (by omega), fun q => absurd q (by omega), fun _ => hk, fun q => absurd q (by omega), fun q => absurd q (by omega), fun q => absurd q (by omega), fun q => absurd q (by omega), fun q => absurd q (by omega)⟩
theorem b_run_41 {x2 x3 x4 x5 : Int} {L : List Int} {Q : Int → zM → Prop} (hb : zOw.getD (((x5 * 4) + x2)).toNat 0 = 41) (hr : (0 ≤ x5 ∧ x5 ≤ 6) ∧ (0 ≤ x2 ∧ x2 ≤ 3)) (i3 : inR x3) (h4 : 0 ≤ x4 ∧ x4 < 40) (hf : m.1 94 5 = 0) (hT : zTc m L) (hL : L.length < 30)
    (k : ∀ m15 : zM, zFr zSn m m15 → zTc m15 (L ++ [41]) → zCt K (d + 1) mX0_run [rr K 94, .int (iz (zAb.getD (x5).toNat 0)), .int (iz 2), .int (iz (x3 - 1)), .int (iz (x4 + 1))] m15 (fun r m2 => inR r → zok m2 → Q (zw r) m2)) : zV K mX0_run (d + 2) 45 [(0, rr K 94), (2, .int (iz x2)), (3, .int (iz x3)), (4, .int (iz x4)), (5, .int (iz x5))] [] m Q := by
  refine vcw_X0_run_45 (d := d) x2 x3 x4 x5 m (inR_b (A := 1000) (by omega) (by omega) rfl) i3 (inR_b (A := 1000) (by omega) (by omega) rfl) (inR_b (A := 1000) (by omega) (by omega) rfl) (fun _ => ⟨fun _ => ⟨fun q => absurd q (by omega), fun _ => ⟨fun _ => ⟨by omega, by omega, fun v6 e6 => ⟨by omega, by omega, fun v10 e10 v12 e12 => ?_⟩⟩, fun q => absurd h4.2 q⟩⟩, fun q => absurd hf q⟩)
  rw [hb] at e6
  rw [e6]
  subst e10 e12
  refine (c_X0_note (d := d) hT hL (inRd rfl)).mono (fun r14 m15 q _ _ => ?_)
  have hk := k m15 q.2.1 q.2.2
  exact ⟨inRd rfl, fun q => absurd q (by omega), fun q => absurd q (by omega), fun q => absurd q (by omega), fun q => absurd q (by omega), fun q => absurd q (by omega), fun q => absurd q (by omega), fun q => absurd q (by omega), fun q => absurd q (by omega), fun _ => hk, fun q => absurd q (by omega), fun q => absurd q (by omega), fun q => absurd q (by omega), fun q => absurd q (by omega)⟩
theorem b_run_50 {x2 x3 x4 x5 : Int} {L : List Int} {Q : Int → zM → Prop} (hb : zOw.getD (((x5 * 4) + x2)).toNat 0 = 50) (hr : (0 ≤ x5 ∧ x5 ≤ 6) ∧ (0 ≤ x2 ∧ x2 ≤ 3)) (i3 : inR x3) (h4 : 0 ≤ x4 ∧ x4 < 40) (hf : m.1 94 5 = 0) (hT : zTc m L) (hL : L.length < 30)
    (k : ∀ m15 : zM, zFr zSn m m15 → zTc m15 (L ++ [50]) → zCt K (d + 1) mX0_run [rr K 94, .int (iz (zAb.getD (x5).toNat 0)), .int (iz 1), .int (iz x3), .int (iz (x4 + 1))] m15 (fun r m2 => inR r → zok m2 → Q (zw (0 - r)) m2)) : zV K mX0_run (d + 2) 45 [(0, rr K 94), (2, .int (iz x2)), (3, .int (iz x3)), (4, .int (iz x4)), (5, .int (iz x5))] [] m Q := by
  refine vcw_X0_run_45 (d := d) x2 x3 x4 x5 m (inR_b (A := 1000) (by omega) (by omega) rfl) i3 (inR_b (A := 1000) (by omega) (by omega) rfl) (inR_b (A := 1000) (by omega) (by omega) rfl) (fun _ => ⟨fun _ => ⟨fun q => absurd q (by omega), fun _ => ⟨fun _ => ⟨by omega, by omega, fun v6 e6 => ⟨by omega, by omega, fun v10 e10 v12 e12 => ?_⟩⟩, fun q => absurd h4.2 q⟩⟩, fun q => absurd hf q⟩)
  rw [hb] at e6
  rw [e6]
  subst e10 e12
  refine (c_X0_note (d := d) hT hL (inRd rfl)).mono (fun r14 m15 q _ _ => ?_)
  have hk := k m15 q.2.1 q.2.2
  exact ⟨inRd rfl, fun q => absurd q (by omega), fun q => absurd q (by omega), fun q => absurd q (by omega), fun q => absurd q (by omega), fun q => absurd q (by omega), fun q => absurd q (by omega), fun q => absurd q (by omega), fun q => absurd q (by omega), fun q => absurd q (by omega), fun _ => hk, fun q => absurd q (by omega), fun q => absurd q (by omega), fun q => absurd q (by omega)⟩
theorem b_run_60 {x2 x3 x4 x5 : Int} {L : List Int} {Q : Int → zM → Prop} (hb : zOw.getD (((x5 * 4) + x2)).toNat 0 = 60) (hr : (0 ≤ x5 ∧ x5 ≤ 6) ∧ (0 ≤ x2 ∧ x2 ≤ 3)) (i3 : inR x3) (h4 : 0 ≤ x4 ∧ x4 < 40) (hf : m.1 94 5 = 0) (hT : zTc m L) (hL : L.length < 30)
    (k : ∀ m15 : zM, zFr zSn m m15 → zTc m15 (L ++ [60]) → zCt K (d + 1) mX0_run [rr K 94, .int (iz (zAb.getD (x5).toNat 0)), .int (iz 3), .int (iz x3), .int (iz (x4 + 1))] m15 (fun r m2 => inR r → zok m2 → zCt K (d + 1) mX0_run [rr K 94, .int (iz (m2.1 94 2)), .int (iz 2), .int (iz ((m2.1 94 3) + 1)), .int (iz (x4 + 1))] m2 (fun r2 m3 => inR r2 → zok m3 → Q (zw (r + r2)) m3))) : zV K mX0_run (d + 2) 45 [(0, rr K 94), (2, .int (iz x2)), (3, .int (iz x3)), (4, .int (iz x4)), (5, .int (iz x5))] [] m Q := by
  refine vcw_X0_run_45 (d := d) x2 x3 x4 x5 m (inR_b (A := 1000) (by omega) (by omega) rfl) i3 (inR_b (A := 1000) (by omega) (by omega) rfl) (inR_b (A := 1000) (by omega) (by omega) rfl) (fun _ => ⟨fun _ => ⟨fun q => absurd q (by omega), fun _ => ⟨fun _ => ⟨by omega, by omega, fun v6 e6 => ⟨by omega, by omega, fun v10 e10 v12 e12 => ?_⟩⟩, fun q => absurd h4.2 q⟩⟩, fun q => absurd hf q⟩)
  rw [hb] at e6
  rw [e6]
  subst e10 e12
  refine (c_X0_note (d := d) hT hL (inRd rfl)).mono (fun r14 m15 q _ _ => ?_)
  have hk := k m15 q.2.1 q.2.2
  exact ⟨inRd rfl, fun q => absurd q (by omega), fun q => absurd q (by omega), fun q => absurd q (by omega), fun q => absurd q (by omega), fun q => absurd q (by omega), fun q => absurd q (by omega), fun q => absurd q (by omega), fun q => absurd q (by omega), fun q => absurd q (by omega), fun q => absurd q (by omega), fun _ => hk, fun q => absurd q (by omega), fun q => absurd q (by omega)⟩
theorem b_run_70 {x2 x3 x4 x5 : Int} {L : List Int} {Q : Int → zM → Prop} (hb : zOw.getD (((x5 * 4) + x2)).toNat 0 = 70) (hr : (0 ≤ x5 ∧ x5 ≤ 6) ∧ (0 ≤ x2 ∧ x2 ≤ 3)) (i3 : inR x3) (h4 : 0 ≤ x4 ∧ x4 < 40) (hf : m.1 94 5 = 0) (hT : zTc m L) (hL : L.length < 30)
    (k : ∀ m15 : zM, zFr zSn m m15 → zTc m15 (L ++ [70]) → zCt K (d + 1) mX0_run [rr K 94, .int (iz (zAb.getD (x5).toNat 0)), .int (iz 0), .int (iz x3), .int (iz (x4 + 1))] m15 (fun r m2 => inR r → zok m2 → Q (zw (r * 7)) m2)) : zV K mX0_run (d + 2) 45 [(0, rr K 94), (2, .int (iz x2)), (3, .int (iz x3)), (4, .int (iz x4)), (5, .int (iz x5))] [] m Q := by
  refine vcw_X0_run_45 (d := d) x2 x3 x4 x5 m (inR_b (A := 1000) (by omega) (by omega) rfl) i3 (inR_b (A := 1000) (by omega) (by omega) rfl) (inR_b (A := 1000) (by omega) (by omega) rfl) (fun _ => ⟨fun _ => ⟨fun q => absurd q (by omega), fun _ => ⟨fun _ => ⟨by omega, by omega, fun v6 e6 => ⟨by omega, by omega, fun v10 e10 v12 e12 => ?_⟩⟩, fun q => absurd h4.2 q⟩⟩, fun q => absurd hf q⟩)
  rw [hb] at e6
  rw [e6]
  subst e10 e12
  refine (c_X0_note (d := d) hT hL (inRd rfl)).mono (fun r14 m15 q _ _ => ?_)
  have hk := k m15 q.2.1 q.2.2
  exact ⟨inRd rfl, fun q => absurd q (by omega), fun q => absurd q (by omega), fun q => absurd q (by omega), fun q => absurd q (by omega), fun q => absurd q (by omega), fun q => absurd q (by omega), fun q => absurd q (by omega), fun q => absurd q (by omega), fun q => absurd q (by omega), fun q => absurd q (by omega), fun q => absurd q (by omega), fun _ => hk, fun q => absurd q (by omega)⟩
end ACB
