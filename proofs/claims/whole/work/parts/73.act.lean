/-! ===== act(): both sides ===== -/
def vF (k s x : Int) : Int := if k = 3 then zxor (x + s - 3) s else if k = 6 then zw ((x + s) * 7) else if k = 1 ∨ k = 2 then zw (x + s - 3) else zw (x + s)
def tF (k : Int) : List Int := if k = 3 then [40, 20, 10] else if k = 6 then [70, 10] else if k = 1 ∨ k = 2 then [20, 10] else [10]
def vB (k s x : Int) : Int := zw (vF k s x * 2)
def vR (y k s x : Int) : Int := if y = 2 ∨ y = 3 then zw (vB k s x + vF k s 2) else if y = 4 then zw (0 - vB k s x) else vB k s x
def tR (y k : Int) : List Int := if y = 2 ∨ y = 3 then [30] ++ ([11] ++ tF k) ++ tF k else if y = 4 then [50] ++ ([11] ++ tF k) else [11] ++ tF k
def vP (y s n x : Int) : Int := if s = n then 0 else if y = 3 then zdv (x - 1) (s - n) else zdv x (s - n)
def tP (y : Int) : List Int := if y = 3 then [41, 12] else [12]
def vD (k s n x : Int) : Int := zxor (vR k k s x) n
def vE (k s n x : Int) : Int := if k = 2 ∨ k = 3 then zw (vD k s n x * 5) else if k = 5 then zw (vD k s n x + vP k s n (n + 1)) else vD k s n x
def tE (k : Int) : List Int := if k = 2 ∨ k = 3 then [31] ++ ([13] ++ tR k k) else if k = 5 then [60] ++ ([13] ++ tR k k) ++ tP k else [13] ++ tR k k
theorem tF_l (k : Int) : (tF k).length ≤ 3 := by unfold tF; (repeat' split) <;> decide
theorem tP_l (k : Int) : (tP k).length ≤ 2 := by unfold tP; (repeat' split) <;> decide
theorem tR_l (y k : Int) : (tR y k).length ≤ 8 := by
  have := tF_l k
  unfold tR
  (repeat' split) <;> simp only [List.length_append, List.length_cons, List.length_nil] <;> omega
theorem tE_l (k : Int) : (tE k).length ≤ 12 := by
  have := tR_l k k
  have := tP_l k
  unfold tE
  (repeat' split) <;> simp only [List.length_append, List.length_cons, List.length_nil] <;> omega
theorem inR_vF (k s x : Int) : inR (vF k s x) := by unfold vF; (repeat' split) <;> exact inR_of _
theorem inR_vR (y k s x : Int) : inR (vR y k s x) := by unfold vR vB; (repeat' split) <;> exact inR_of _
section ACF
variable {K : zCx} {d : Nat} {m : zM} {L : List Int} {x dep : Int}
theorem c_runF0 {y : Int} (hy : y = 0 ∨ y = 4 ∨ y = 5) (ix : inR x) (hd : 0 ≤ dep ∧ dep < 40) (hf : m.1 94 5 = 0) (hT : zTc m L) (hL : L.length < 30) : zCt K (d + 2) mX0_run [rr K 94, .int (iz y), .int (iz 0), .int (iz x), .int (iz dep)] m (fun r m1 => r = zw (x + m.1 94 4) ∧ zFr zSn m m1 ∧ zTc m1 (L ++ [10])) := by
  refine c_run_of (by omega) (by omega) ix hd ?_
  have e : zat 7 y 0 = 0 := by rcases hy with rfl | rfl | rfl <;> rfl
  rw [e]
  refine b_run_10 rfl (by omega) ix hd hf hT hL (fun m15 f hT' => ⟨?_, f, hT'⟩)
  rw [f.1 94 4 (by unfold zSn; omega)]
theorem c_runF1 {y : Int} (hy : y = 1 ∨ y = 2) (ix : inR x) (hd : 0 ≤ dep ∧ dep < 39) (hf : m.1 94 5 = 0) (hT : zTc m L) (hL : L.length < 29) : zCt K (d + 3) mX0_run [rr K 94, .int (iz y), .int (iz 0), .int (iz x), .int (iz dep)] m (fun r m1 => r = zw (x + m.1 94 4 - 3) ∧ zFr zSn m m1 ∧ zTc m1 (L ++ [20, 10])) := by
  refine c_run_of (by omega) (by omega) ix (by omega) ?_
  have e : zat 7 y 0 = 1 := by rcases hy with rfl | rfl <;> rfl
  rw [e]
  refine b_run_20 rfl (by omega) ix (by omega) hf hT (by omega) (fun m15 f hT' => ?_)
  refine (c_runF0 (d := d) (y := 0) (Or.inl rfl) ix (by omega) (by rw [f.1 94 5 (by unfold zSn; omega)]; exact hf) hT' (by rw [List.length_append]; show L.length + 1 < 30; omega)).mono (fun r m2 q _ _ => ⟨?_, f.tr q.2.1, ?_⟩)
  · rw [q.1, zw_sub, f.1 94 4 (by unfold zSn; omega)]
  · have := q.2.2
    rw [List.append_assoc] at this
    exact this
theorem c_runF {y : Int} (hy : 0 ≤ y ∧ y ≤ 6) (ix : inR x) (hd : 0 ≤ dep ∧ dep < 38) (hf : m.1 94 5 = 0) (hT : zTc m L) (hL : L.length < 28) : zCt K (d + 4) mX0_run [rr K 94, .int (iz y), .int (iz 0), .int (iz x), .int (iz dep)] m (fun r m1 => r = vF y (m.1 94 4) x ∧ zFr zSn m m1 ∧ zTc m1 (L ++ tF y)) := by
  by_cases h3 : y = 3
  · subst h3
    refine c_run_of (by omega) (by omega) ix (by omega) ?_
    rw [show zat 7 3 0 = 3 from rfl]
    refine b_run_40 rfl (by omega) ix (by omega) hf hT (by omega) (fun m15 f hT' => ?_)
    rw [show zAb.getD (3 : Int).toNat 0 = 2 from rfl]
    refine (c_runF1 (d := d) (y := 2) (Or.inr rfl) ix (by omega) (by rw [f.1 94 5 (by unfold zSn; omega)]; exact hf) hT' (by rw [List.length_append]; show L.length + 1 < 29; omega)).mono (fun r m2 q _ _ => ⟨?_, f.tr q.2.1, ?_⟩)
    · rw [q.1, zw_xor, zxor_w, q.2.1.1 94 4 (by unfold zSn; omega), f.1 94 4 (by unfold zSn; omega)]; rfl
    · have := q.2.2
      rw [List.append_assoc] at this
      exact this
  · by_cases h6 : y = 6
    · subst h6
      refine c_run_of (by omega) (by omega) ix (by omega) ?_
      rw [show zat 7 6 0 = 6 from rfl]
      refine b_run_70 rfl (by omega) ix (by omega) hf hT (by omega) (fun m15 f hT' => ?_)
      rw [show zAb.getD (6 : Int).toNat 0 = 0 from rfl]
      refine (c_runF0 (d := d + 1) (y := 0) (Or.inl rfl) ix (by omega) (by rw [f.1 94 5 (by unfold zSn; omega)]; exact hf) hT' (by rw [List.length_append]; show L.length + 1 < 30; omega)).mono (fun r m2 q _ _ => ⟨?_, f.tr q.2.1, ?_⟩)
      · rw [q.1, zw_mul, f.1 94 4 (by unfold zSn; omega)]; rfl
      · have := q.2.2
        rw [List.append_assoc] at this
        exact this
    · by_cases h12 : y = 1 ∨ y = 2
      · refine (c_runF1 (d := d + 1) h12 ix (by omega) hf hT (by omega)).mono (fun r m2 q => ⟨?_, q.2.1, ?_⟩)
        · rw [q.1]; unfold vF; rw [if_neg h3, if_neg h6, if_pos h12]
        · unfold tF; rw [if_neg h3, if_neg h6, if_pos h12]; exact q.2.2
      · refine (c_runF0 (d := d + 2) (y := y) (by omega) ix (by omega) hf hT (by omega)).mono (fun r m2 q => ⟨?_, q.2.1, ?_⟩)
        · rw [q.1]; unfold vF; rw [if_neg h3, if_neg h6, if_neg h12]
        · unfold tF; rw [if_neg h3, if_neg h6, if_neg h12]; exact q.2.2
theorem c_runB {y : Int} (hy : y = 0 ∨ y = 1 ∨ y = 5 ∨ y = 6) (hk : 1 ≤ m.1 94 2 ∧ m.1 94 2 ≤ 6) (ix : inR x) (hd : 0 ≤ dep ∧ dep < 37) (hf : m.1 94 5 = 0) (hT : zTc m L) (hL : L.length < 27) : zCt K (d + 5) mX0_run [rr K 94, .int (iz y), .int (iz 1), .int (iz x), .int (iz dep)] m (fun r m1 => r = vB (m.1 94 2) (m.1 94 4) x ∧ zFr zSn m m1 ∧ zTc m1 (L ++ ([11] ++ tF (m.1 94 2)))) := by
  refine c_run_of (by omega) (by omega) ix (by omega) ?_
  have e : zat 7 y 1 = 0 := by rcases hy with rfl | rfl | rfl | rfl <;> rfl
  rw [e]
  refine b_run_11 rfl (by omega) ix (by omega) hf hT (by omega) (fun m15 f hT' => ?_)
  have e2 : m15.1 94 2 = m.1 94 2 := f.1 94 2 (by unfold zSn; omega)
  rw [e2]
  refine (c_runF (d := d) (by omega) ix (by omega) (by rw [f.1 94 5 (by unfold zSn; omega)]; exact hf) hT' (by rw [List.length_append]; show L.length + 1 < 28; omega)).mono (fun r m2 q _ _ => ⟨?_, f.tr q.2.1, ?_⟩)
  · rw [q.1, f.1 94 4 (by unfold zSn; omega)]; rfl
  · have := q.2.2
    rw [List.append_assoc] at this
    exact this
theorem c_runR {y : Int} (hy : 0 ≤ y ∧ y ≤ 6) (hk : 1 ≤ m.1 94 2 ∧ m.1 94 2 ≤ 6) (ix : inR x) (hd : 0 ≤ dep ∧ dep < 36) (hf : m.1 94 5 = 0) (hT : zTc m L) (hL : L.length < 20) : zCt K (d + 6) mX0_run [rr K 94, .int (iz y), .int (iz 1), .int (iz x), .int (iz dep)] m (fun r m1 => r = vR y (m.1 94 2) (m.1 94 4) x ∧ zFr zSn m m1 ∧ zTc m1 (L ++ tR y (m.1 94 2))) := by
  have htF := tF_l (m.1 94 2)
  by_cases h23 : y = 2 ∨ y = 3
  · refine c_run_of (by omega) (by omega) ix (by omega) ?_
    have e : zat 7 y 1 = 2 := by rcases h23 with rfl | rfl <;> rfl
    rw [e]
    refine b_run_30 rfl (by omega) ix (by omega) hf hT (by omega) (fun m15 f hT' => ?_)
    have e2 : m15.1 94 2 = m.1 94 2 := f.1 94 2 (by unfold zSn; omega)
    have e4 : m15.1 94 4 = m.1 94 4 := f.1 94 4 (by unfold zSn; omega)
    have e5 : m15.1 94 5 = 0 := by rw [f.1 94 5 (by unfold zSn; omega)]; exact hf
    rw [show zAb.getD (2 : Int).toNat 0 = 1 from rfl]
    refine (c_runB (d := d) (y := 1) (by omega) (by rw [e2]; exact hk) ix (by omega) e5 hT' (by rw [List.length_append]; show L.length + 1 < 27; omega)).mono (fun r m2 q => ?_)
    obtain ⟨hr, f2, hT2⟩ := q
    rw [e2, e4] at hr
    rw [e2] at hT2
    intro _ _
    have g2 : m2.1 94 2 = m.1 94 2 := by rw [f2.1 94 2 (by unfold zSn; omega)]; exact e2
    have g4 : m2.1 94 4 = m.1 94 4 := by rw [f2.1 94 4 (by unfold zSn; omega)]; exact e4
    rw [g2]
    refine (c_runF (d := d + 1) (x := 2) (by omega) (inRd rfl) (by omega) (by rw [f2.1 94 5 (by unfold zSn; omega)]; exact e5) hT2 (by simp only [List.length_append, List.length_cons, List.length_nil]; omega)).mono (fun r2 m3 q2 _ _ => ⟨?_, (f.tr f2).tr q2.2.1, ?_⟩)
    · rw [hr, q2.1, g4]; unfold vR; rw [if_pos h23]
    · unfold tR
      rw [if_pos h23]
      have := q2.2.2
      simp only [List.append_assoc] at this ⊢
      exact this
  · by_cases h4 : y = 4
    · refine c_run_of (by omega) (by omega) ix (by omega) ?_
      have e : zat 7 y 1 = 4 := by rw [h4]; rfl
      rw [e]
      refine b_run_50 rfl (by omega) ix (by omega) hf hT (by omega) (fun m15 f hT' => ?_)
      have e2 : m15.1 94 2 = m.1 94 2 := f.1 94 2 (by unfold zSn; omega)
      have e4 : m15.1 94 4 = m.1 94 4 := f.1 94 4 (by unfold zSn; omega)
      rw [show zAb.getD (4 : Int).toNat 0 = 0 from rfl]
      refine (c_runB (d := d) (y := 0) (by omega) (by rw [e2]; exact hk) ix (by omega) (by rw [f.1 94 5 (by unfold zSn; omega)]; exact hf) hT' (by rw [List.length_append]; show L.length + 1 < 27; omega)).mono (fun r m2 q _ _ => ⟨?_, f.tr q.2.1, ?_⟩)
      · rw [q.1, e2, e4]; unfold vR; rw [if_neg h23, if_pos h4]
      · unfold tR
        rw [if_neg h23, if_pos h4]
        have := q.2.2
        rw [e2] at this
        simp only [List.append_assoc] at this ⊢
        exact this
    · refine (c_runB (d := d + 1) (y := y) (by omega) hk ix (by omega) hf hT (by omega)).mono (fun r m2 q => ⟨?_, q.2.1, ?_⟩)
      · rw [q.1]; unfold vR; rw [if_neg h23, if_neg h4]
      · unfold tR; rw [if_neg h23, if_neg h4]; exact q.2.2
def zSm5 (a k : Int) : Prop := zSn a k ∨ (a = 94 ∧ k = 5)
theorem c_runP0 {y : Int} (hy : y = 0 ∨ y = 1 ∨ y = 2 ∨ y = 4 ∨ y = 5 ∨ y = 6) (hn : (0 ≤ m.1 94 3 ∧ m.1 94 3 ≤ 9) ∧ (1 ≤ m.1 94 4 ∧ m.1 94 4 ≤ 9)) (hd : 0 ≤ dep ∧ dep < 40) (hf : m.1 94 5 = 0) (hT : zTc m L) (hL : L.length < 30) : zCt K (d + 2) mX0_run [rr K 94, .int (iz y), .int (iz 2), .int (iz x), .int (iz dep)] m (fun r m1 => r = (if m.1 94 4 = m.1 94 3 then 0 else zdv x (m.1 94 4 - m.1 94 3)) ∧ zFr zSm5 m m1 ∧ zTc m1 (L ++ [12]) ∧ m1.1 94 5 = (if m.1 94 4 = m.1 94 3 then 1 else 0)) := by
  rw [← izw x]
  refine c_run_of (by omega) (by omega) (inR_zw x) hd ?_
  have e : zat 7 y 2 = 0 := by rcases hy with rfl | rfl | rfl | rfl | rfl | rfl <;> rfl
  rw [e]
  refine b_run_12 rfl (by omega) (inR_zw x) hd hf hT hL (fun m15 f hT' => ?_)
  have e3 : m15.1 94 3 = m.1 94 3 := f.1 94 3 (by unfold zSn; omega)
  have e4 : m15.1 94 4 = m.1 94 4 := f.1 94 4 (by unfold zSn; omega)
  refine zCt.of (by decide) (Nat.le_of_ble_eq_true rfl) (vcw_X0_parted_0 (d := d) (zw x) m15 (inR_zw x) (fun _ v1 e1 => ?_))
  rw [e3, e4] at e1
  have tc : ∀ m9 v, m9 = sI m15 94 5 v → zTc m9 (L ++ [12]) := fun m9 v e9 => ⟨by rw [e9, sI_ne (by omega)]; exact hT'.1, fun i hi => by rw [e9, sI_ne (by omega)]; exact hT'.2 i hi⟩
  have fr : ∀ m9 v, m9 = sI m15 94 5 v → zFr zSm5 m m9 := fun m9 v e9 => (f.mono (fun a k q => Or.inl q)).put e9 (Or.inr ⟨rfl, rfl⟩)
  refine ⟨inR_b (A := 1000) (by omega) (by omega) rfl, fun z m9 e9 _ => ⟨fun _ => ?_, fun q => absurd z q⟩, fun z m5 e5 _ => ⟨fun q => absurd q z, fun _ => ⟨z, ?_⟩⟩⟩
  · intro _ _
    rw [if_pos (by omega), if_pos (by omega)]
    exact ⟨rfl, fr m9 1 e9, tc m9 1 e9, by rw [e9, sI_eq]⟩
  · intro _ _
    rw [if_neg (by omega), if_neg (by omega)]
    exact ⟨by rw [zw_zw, zw_dv, zdv_w, e1], fr m5 0 e5, tc m5 0 e5, by rw [e5, sI_eq]⟩
theorem c_runP {y : Int} (hy : 0 ≤ y ∧ y ≤ 6) (hn : (0 ≤ m.1 94 3 ∧ m.1 94 3 ≤ 9) ∧ (1 ≤ m.1 94 4 ∧ m.1 94 4 ≤ 9)) (ix : inR x) (hd : 0 ≤ dep ∧ dep < 39) (hf : m.1 94 5 = 0) (hT : zTc m L) (hL : L.length < 29) : zCt K (d + 3) mX0_run [rr K 94, .int (iz y), .int (iz 2), .int (iz x), .int (iz dep)] m (fun r m1 => r = vP y (m.1 94 4) (m.1 94 3) x ∧ zFr zSm5 m m1 ∧ zTc m1 (L ++ tP y) ∧ m1.1 94 5 = (if m.1 94 4 = m.1 94 3 then 1 else 0)) := by
  by_cases h3 : y = 3
  · subst h3
    refine c_run_of (by omega) (by omega) ix (by omega) ?_
    rw [show zat 7 3 2 = 3 from rfl]
    refine b_run_41 rfl (by omega) ix (by omega) hf hT (by omega) (fun m15 f hT' => ?_)
    have e3 : m15.1 94 3 = m.1 94 3 := f.1 94 3 (by unfold zSn; omega)
    have e4 : m15.1 94 4 = m.1 94 4 := f.1 94 4 (by unfold zSn; omega)
    rw [show zAb.getD (3 : Int).toNat 0 = 2 from rfl]
    refine (c_runP0 (d := d) (y := 2) (x := x - 1) (by omega) (by rw [e3, e4]; exact hn) (by omega) (by rw [f.1 94 5 (by unfold zSn; omega)]; exact hf) hT' (by rw [List.length_append]; show L.length + 1 < 30; omega)).mono (fun r m2 q _ _ => ⟨?_, (f.mono (fun a k q => Or.inl q)).tr q.2.1, ?_, ?_⟩)
    · rw [q.1, e3, e4]
      unfold vP
      by_cases z : m.1 94 4 = m.1 94 3
      · rw [if_pos z, if_pos z]; rfl
      · rw [if_neg z, if_neg z, zw_dv]; rfl
    · have := q.2.2.1
      rw [List.append_assoc] at this
      exact this
    · rw [q.2.2.2, e3, e4]
  · refine (c_runP0 (d := d + 1) (y := y) (x := x) (by omega) hn (by omega) hf hT (by omega)).mono (fun r m2 q => ⟨?_, q.2.1, ?_, q.2.2.2⟩)
    · rw [q.1]; unfold vP; rw [if_neg h3]
    · unfold tP; rw [if_neg h3]; exact q.2.2.1
theorem c_runD {y : Int} (hy : y = 0 ∨ y = 1 ∨ y = 4 ∨ y = 6) (hk : 1 ≤ m.1 94 2 ∧ m.1 94 2 ≤ 6) (ix : inR x) (hd : 0 ≤ dep ∧ dep < 35) (hf : m.1 94 5 = 0) (hT : zTc m L) (hL : L.length < 19) : zCt K (d + 7) mX0_run [rr K 94, .int (iz y), .int (iz 3), .int (iz x), .int (iz dep)] m (fun r m1 => r = vD (m.1 94 2) (m.1 94 4) (m.1 94 3) x ∧ zFr zSn m m1 ∧ zTc m1 (L ++ ([13] ++ tR (m.1 94 2) (m.1 94 2)))) := by
  refine c_run_of (by omega) (by omega) ix (by omega) ?_
  have e : zat 7 y 3 = 0 := by rcases hy with rfl | rfl | rfl | rfl <;> rfl
  rw [e]
  refine b_run_13 rfl (by omega) ix (by omega) hf hT (by omega) (fun m15 f hT' => ?_)
  have e2 : m15.1 94 2 = m.1 94 2 := f.1 94 2 (by unfold zSn; omega)
  have e4 : m15.1 94 4 = m.1 94 4 := f.1 94 4 (by unfold zSn; omega)
  rw [e2]
  refine (c_runR (d := d) (y := m.1 94 2) (by omega) (by rw [e2]; exact hk) ix (by omega) (by rw [f.1 94 5 (by unfold zSn; omega)]; exact hf) hT' (by rw [List.length_append]; show L.length + 1 < 20; omega)).mono (fun r m2 q _ _ => ⟨?_, f.tr q.2.1, ?_⟩)
  · rw [q.1, e2, e4, zw_xor, q.2.1.1 94 3 (by unfold zSn; omega), f.1 94 3 (by unfold zSn; omega)]; rfl
  · have := q.2.2
    rw [List.append_assoc, e2] at this
    exact this
theorem c_runE (hk : 1 ≤ m.1 94 2 ∧ m.1 94 2 ≤ 6) (hn : (0 ≤ m.1 94 3 ∧ m.1 94 3 ≤ 9) ∧ (1 ≤ m.1 94 4 ∧ m.1 94 4 ≤ 9)) (ix : inR x) (hd : 0 ≤ dep ∧ dep < 30) (hf : m.1 94 5 = 0) (hT : zTc m L) (hL : L.length < 10) : zCt K (d + 8) mX0_run [rr K 94, .int (iz (m.1 94 2)), .int (iz 3), .int (iz x), .int (iz dep)] m (fun r m1 => r = vE (m.1 94 2) (m.1 94 4) (m.1 94 3) x ∧ zFr zSm5 m m1 ∧ zTc m1 (L ++ tE (m.1 94 2)) ∧ m1.1 94 5 = (if m.1 94 2 = 5 ∧ m.1 94 4 = m.1 94 3 then 1 else 0)) := by
  have htR := tR_l (m.1 94 2) (m.1 94 2)
  by_cases h23 : m.1 94 2 = 2 ∨ m.1 94 2 = 3
  · refine c_run_of (by omega) (by omega) ix (by omega) ?_
    have e : zat 7 (m.1 94 2) 3 = 2 := by rcases h23 with h | h <;> rw [h] <;> rfl
    rw [e]
    refine b_run_31 rfl (by omega) ix (by omega) hf hT (by omega) (fun m15 f hT' => ?_)
    have e2 : m15.1 94 2 = m.1 94 2 := f.1 94 2 (by unfold zSn; omega)
    have e3 : m15.1 94 3 = m.1 94 3 := f.1 94 3 (by unfold zSn; omega)
    have e4 : m15.1 94 4 = m.1 94 4 := f.1 94 4 (by unfold zSn; omega)
    have e5 : m15.1 94 5 = 0 := by rw [f.1 94 5 (by unfold zSn; omega)]; exact hf
    rw [show zAb.getD (2 : Int).toNat 0 = 1 from rfl]
    refine (c_runD (d := d) (y := 1) (by omega) (by rw [e2]; exact hk) ix (by omega) e5 hT' (by rw [List.length_append]; show L.length + 1 < 19; omega)).mono (fun r m2 q _ _ => ⟨?_, (f.tr q.2.1).mono (fun a k q => Or.inl q), ?_, ?_⟩)
    · rw [q.1, e2, e3, e4]; unfold vE; rw [if_pos h23]
    · unfold tE
      rw [if_pos h23]
      have := q.2.2
      rw [e2] at this
      simp only [List.append_assoc] at this ⊢
      exact this
    · rw [if_neg (by omega), q.2.1.1 94 5 (by unfold zSn; omega)]; exact e5
  · by_cases h5 : m.1 94 2 = 5
    · refine c_run_of (by omega) (by omega) ix (by omega) ?_
      have e : zat 7 (m.1 94 2) 3 = 5 := by rw [h5]; rfl
      rw [e]
      refine b_run_60 rfl (by omega) ix (by omega) hf hT (by omega) (fun m15 f hT' => ?_)
      have e2 : m15.1 94 2 = m.1 94 2 := f.1 94 2 (by unfold zSn; omega)
      have e3 : m15.1 94 3 = m.1 94 3 := f.1 94 3 (by unfold zSn; omega)
      have e4 : m15.1 94 4 = m.1 94 4 := f.1 94 4 (by unfold zSn; omega)
      have e5 : m15.1 94 5 = 0 := by rw [f.1 94 5 (by unfold zSn; omega)]; exact hf
      rw [show zAb.getD (5 : Int).toNat 0 = 0 from rfl]
      refine (c_runD (d := d) (y := 0) (by omega) (by rw [e2]; exact hk) ix (by omega) e5 hT' (by rw [List.length_append]; show L.length + 1 < 19; omega)).mono (fun r m2 q => ?_)
      obtain ⟨hr, f2, hT2⟩ := q
      rw [e2, e3, e4] at hr
      rw [e2] at hT2
      intro _ _
      have g2 : m2.1 94 2 = m.1 94 2 := by rw [f2.1 94 2 (by unfold zSn; omega)]; exact e2
      have g3 : m2.1 94 3 = m.1 94 3 := by rw [f2.1 94 3 (by unfold zSn; omega)]; exact e3
      have g4 : m2.1 94 4 = m.1 94 4 := by rw [f2.1 94 4 (by unfold zSn; omega)]; exact e4
      have g5 : m2.1 94 5 = 0 := by rw [f2.1 94 5 (by unfold zSn; omega)]; exact e5
      rw [g2, g3]
      refine (c_runP (d := d + 4) (y := m.1 94 2) (x := m.1 94 3 + 1) (by omega) (by rw [g3, g4]; exact hn) (inR_b (A := 1000) (by omega) (by omega) rfl) (by omega) g5 hT2 (by simp only [List.length_append, List.length_cons, List.length_nil]; omega)).mono (fun r2 m3 q2 _ _ => ⟨?_, ((f.tr f2).mono (fun a k q => Or.inl q)).tr q2.2.1, ?_, ?_⟩)
      · rw [hr, q2.1, g3, g4]; unfold vE; rw [if_neg h23, if_pos h5]
      · unfold tE
        rw [if_neg h23, if_pos h5]
        have := q2.2.2.1
        simp only [List.append_assoc] at this ⊢
        exact this
      · rw [q2.2.2.2, g3, g4]
        by_cases z : m.1 94 4 = m.1 94 3
        · rw [if_pos z, if_pos ⟨h5, z⟩]
        · rw [if_neg z, if_neg (fun q => z q.2)]
    · refine (c_runD (d := d + 1) (y := m.1 94 2) (by omega) hk ix (by omega) hf hT (by omega)).mono (fun r m2 q => ⟨?_, q.2.1.mono (fun a k q => Or.inl q), ?_, ?_⟩)
      · rw [q.1]; unfold vE; rw [if_neg h23, if_neg h5]
      · unfold tE; rw [if_neg h23, if_neg h5]; exact q.2.2
      · rw [if_neg (fun z => h5 z.1), q.2.1.1 94 5 (by unfold zSn; omega)]; exact hf
end ACF
def vA (k s n w x : Int) : Int := if w = 0 then vF k s x else if w = 1 then vR k k s x else if w = 2 then (if s = n then -15 else vP k s n x) else if k = 5 ∧ s = n then -15 else vE k s n x
def tA (k w : Int) : List Int := if w = 0 then tF k else if w = 1 then tR k k else if w = 2 then tP k else tE k
theorem tA_l (k w : Int) : (tA k w).length ≤ 12 := by
  have := tF_l k
  have := tR_l k k
  have := tP_l k
  have := tE_l k
  unfold tA
  (repeat' split) <;> omega
section ACM
variable {K : zCx} {d : Nat} {m : zM} {L : List Int} {x : Int}
def zTm (m : zM) (L : List Int) : Prop := m.1 98 54 = (L.length : Int) ∧ ∀ i : Nat, i < L.length → m.1 128 (i : Int) = L.getD i 0
def zSr (a k : Int) : Prop := (a = 98 ∧ k = 54) ∨ a = 128
theorem c_X10_ran {b : Int} (hT : zTm m L) (hL : L.length < 30) (ib : inR b) : zCt K (d + 1) mX10_ran [rr K 98, .int (iz b)] m (fun r m1 => r = 0 ∧ zFr zSr m m1 ∧ zTm m1 (L ++ [b])) := by
  refine zCt.of (by decide) (Nat.le_of_ble_eq_true rfl) (vc_X10_ran_0 (d := d) b m ib (fun _ => ?_))
  rw [hT.1]
  refine ⟨fun q => absurd q (by omega), fun _ => ⟨by omega, by omega, fun m4 e4 _ => ?_⟩⟩
  have e1 : m4.1 98 54 = (L.length : Int) := by rw [e4, sI_ne (by omega)]; exact hT.1
  rw [e1]
  refine ⟨inR_b (A := 1000) (by omega) (by omega) rfl, fun m7 e7 _ => ⟨rfl, (zFr.rf.put e4 (Or.inr rfl)).put e7 (Or.inl ⟨rfl, rfl⟩), ?_, fun i hi => ?_⟩⟩
  · rw [e7, sI_eq, List.length_append]; rfl
  · rw [List.length_append] at hi
    have hi' : i < L.length + 1 := hi
    rw [getD_app hi', e7, sI_ne (by omega), e4, sI_at]
    by_cases z : i = L.length
    · rw [if_pos z, if_pos ⟨rfl, by omega⟩]
    · rw [if_neg z, if_neg (by omega)]; exact hT.2 i (by omega)
theorem t_flowsIt_47 {Q : Int → zM → Prop} (ix : inR x) (hT : zTm m L) (hL : L.length < 30) (hQ : ∀ m2, zFr zSr m m2 → zTm m2 (L ++ [10]) → Q (vF (m.1 98 50) (m.1 98 52) x) m2) : zV K mX10_flowsIt (d + 2) 47 [(0, rr K 98), (1, .int (iz x))] [] m Q := by
  refine vcw_X10_flowsIt_47 (d := d) x m ix (fun _ => ?_)
  refine (c_X10_ran (d := d) hT hL (inRd rfl)).mono (fun r m2 q => ?_)
  obtain ⟨-, f, hT2⟩ := q
  intro _ _ v5 e5 v7 e7
  have hq := hQ m2 f hT2
  have e50 : m2.1 98 50 = m.1 98 50 := f.1 _ _ (by unfold zSr; omega)
  have e52 : m2.1 98 52 = m.1 98 52 := f.1 _ _ (by unfold zSr; omega)
  rw [e50] at e5
  rw [e52] at e7
  rw [e50, e52]
  unfold vF at hq
  refine ⟨fun z => ?_, fun z => ⟨fun y => ?_, fun y => ?_⟩⟩
  · rw [if_pos (by omega)] at e5
    rw [if_pos z] at hq
    rw [zw_xor, e7, e5]; exact hq
  · rw [if_neg (by omega)] at e5
    rw [if_neg z, if_pos y] at hq
    rw [e7, e5, Int.sub_zero]; exact hq
  · rw [if_neg z, if_neg y] at hq
    by_cases u : m.1 98 50 = 1 ∨ m.1 98 50 = 2
    · rw [if_pos (by omega)] at e5
      rw [if_pos u] at hq
      rw [e7, e5]; exact hq
    · rw [if_neg (by omega)] at e5
      rw [if_neg u] at hq
      rw [e7, e5, Int.sub_zero]; exact hq
theorem c_X10_flowsIt (hk : 1 ≤ m.1 98 50 ∧ m.1 98 50 ≤ 6) (ix : inR x) (hT : zTm m L) (hL : L.length < 27) : zCt K (d + 2) mX10_flowsIt [rr K 98, .int (iz x)] m (fun r m1 => r = vF (m.1 98 50) (m.1 98 52) x ∧ zFr zSr m m1 ∧ zTm m1 (L ++ tF (m.1 98 50))) := by
  have a47 : ∀ (m' : zM) (L' : List Int), zFr zSr m m' → zTm m' L' → L'.length < 30 → L' ++ [10] = L ++ tF (m.1 98 50) → zV K mX10_flowsIt (d + 2) 47 [(0, rr K 98), (1, .int (iz x))] [] m' (fun r m1 => r = vF (m.1 98 50) (m.1 98 52) x ∧ zFr zSr m m1 ∧ zTm m1 (L ++ tF (m.1 98 50))) := by
    intro m' L' f hT' hL' el
    refine t_flowsIt_47 ix hT' hL' (fun m2 g hT2 => ⟨?_, f.tr g, by rw [← el]; exact hT2⟩)
    rw [f.1 98 50 (by unfold zSr; omega), f.1 98 52 (by unfold zSr; omega)]
  have a29 : ∀ (m' : zM) (L' : List Int), zFr zSr m m' → zTm m' L' → L'.length < 29 → ((1 ≤ m.1 98 50 ∧ m.1 98 50 ≤ 3) → L' ++ [20, 10] = L ++ tF (m.1 98 50)) → (¬ (1 ≤ m.1 98 50 ∧ m.1 98 50 ≤ 3) → L' ++ [10] = L ++ tF (m.1 98 50)) → zV K mX10_flowsIt (d + 2) 29 [(0, rr K 98), (1, .int (iz x))] [] m' (fun r m1 => r = vF (m.1 98 50) (m.1 98 52) x ∧ zFr zSr m m1 ∧ zTm m1 (L ++ tF (m.1 98 50))) := by
    intro m' L' f hT' hL' e1 e2
    refine vc_X10_flowsIt_29 (d := d) x m' ix (fun _ => ?_)
    rw [f.1 98 50 (by unfold zSr; omega)]
    refine ⟨fun z => ?_, fun z => a47 m' L' f hT' (by omega) (e2 z)⟩
    refine (c_X10_ran (d := d) hT' (by omega) (inRd rfl)).mono (fun r m2 q _ _ => ?_)
    refine a47 m2 (L' ++ [20]) (f.tr q.2.1) q.2.2 (by rw [List.length_append]; show L'.length + 1 < 30; omega) ?_
    rw [List.append_assoc]
    exact e1 z
  have a15 : ∀ (m' : zM) (L' : List Int), zFr zSr m m' → zTm m' L' → L'.length < 28 → (m.1 98 50 = 3 → L' = L) → (¬ m.1 98 50 = 3 → (1 ≤ m.1 98 50 ∧ m.1 98 50 ≤ 3) → L' ++ [20, 10] = L ++ tF (m.1 98 50)) → (¬ (1 ≤ m.1 98 50 ∧ m.1 98 50 ≤ 3) → L' ++ [10] = L ++ tF (m.1 98 50)) → zV K mX10_flowsIt (d + 2) 15 [(0, rr K 98), (1, .int (iz x))] [] m' (fun r m1 => r = vF (m.1 98 50) (m.1 98 52) x ∧ zFr zSr m m1 ∧ zTm m1 (L ++ tF (m.1 98 50))) := by
    intro m' L' f hT' hL' e0 e1 e2
    refine vc_X10_flowsIt_15 (d := d) x m' ix (fun _ => ?_)
    rw [f.1 98 50 (by unfold zSr; omega)]
    refine ⟨fun z => ?_, fun z => a29 m' L' f hT' (by omega) (e1 z) e2⟩
    refine (c_X10_ran (d := d) hT' (by omega) (inRd rfl)).mono (fun r m2 q _ _ => ?_)
    refine a29 m2 (L' ++ [40]) (f.tr q.2.1) q.2.2 (by rw [List.length_append]; show L'.length + 1 < 29; omega) (fun _ => ?_) (fun q => absurd (by omega) q)
    rw [List.append_assoc, e0 z, z]
    rfl
  refine zCt.of (by decide) (Nat.le_of_ble_eq_true rfl) (vc_X10_flowsIt_0 (d := d) x m ix (fun _ => ⟨fun z => ?_, fun z => ?_⟩))
  · refine (c_X10_ran (d := d) hT (by omega) (inRd rfl)).mono (fun r m2 q _ _ => ?_)
    refine a15 m2 (L ++ [70]) q.2.1 q.2.2 (by rw [List.length_append]; show L.length + 1 < 28; omega) (fun q => absurd q (by omega)) (fun _ q => absurd q (by omega)) (fun _ => ?_)
    rw [List.append_assoc, z]
    rfl
  · refine a15 m L zFr.rf hT (by omega) (fun _ => rfl) (fun h3 h13 => ?_) (fun h13 => ?_)
    · have : m.1 98 50 = 1 ∨ m.1 98 50 = 2 := by omega
      unfold tF; rw [if_neg h3, if_neg z, if_pos this]
    · unfold tF; rw [if_neg (by omega), if_neg z, if_neg (by omega)]
theorem c_X10_partRests (hk : 1 ≤ m.1 98 50 ∧ m.1 98 50 ≤ 6) (ix : inR x) (hT : zTm m L) (hL : L.length < 26) : zCt K (d + 3) mX10_partRests [rr K 98, .int (iz x)] m (fun r m1 => r = vB (m.1 98 50) (m.1 98 52) x ∧ zFr zSr m m1 ∧ zTm m1 (L ++ ([11] ++ tF (m.1 98 50)))) := by
  refine zCt.of (by decide) (Nat.le_of_ble_eq_true rfl) (vcw_X10_partRests_0 (d := d) x m ix (fun _ => ?_))
  refine (c_X10_ran (d := d + 1) hT (by omega) (inRd rfl)).mono (fun r m2 q => ?_)
  obtain ⟨-, f, hT2⟩ := q
  intro _ _
  have e50 : m2.1 98 50 = m.1 98 50 := f.1 _ _ (by unfold zSr; omega)
  refine (c_X10_flowsIt (d := d) (by rw [e50]; exact hk) ix hT2 (by rw [List.length_append]; show L.length + 1 < 27; omega)).mono (fun r3 m4 q _ _ => ⟨?_, f.tr q.2.1, ?_⟩)
  · rw [q.1, e50, f.1 98 52 (by unfold zSr; omega)]; rfl
  · have := q.2.2
    rw [List.append_assoc, e50] at this
    exact this
theorem c_X10_restsIt (hk : 1 ≤ m.1 98 50 ∧ m.1 98 50 ≤ 6) (ix : inR x) (hT : zTm m L) (hL : L.length < 18) : zCt K (d + 4) mX10_restsIt [rr K 98, .int (iz x)] m (fun r m1 => r = vR (m.1 98 50) (m.1 98 50) (m.1 98 52) x ∧ zFr zSr m m1 ∧ zTm m1 (L ++ tR (m.1 98 50) (m.1 98 50))) := by
  have htF := tF_l (m.1 98 50)
  have two : (m.1 98 50 = 2 ∨ m.1 98 50 = 3) → zCt K (d + 3) mX10_ran [rr K 98, .int (iz 30)] m (fun r2 m3 => inR r2 → zok m3 → zCt K (d + 3) mX10_partRests [rr K 98, .int (iz x)] m3 (fun r4 m5 => inR r4 → zok m5 → zCt K (d + 3) mX10_flowsIt [rr K 98, .int (iz 2)] m5 (fun r6 m7 => inR r6 → zok m7 → zw (r4 + r6) = vR (m.1 98 50) (m.1 98 50) (m.1 98 52) x ∧ zFr zSr m m7 ∧ zTm m7 (L ++ tR (m.1 98 50) (m.1 98 50))))) := by
    intro h23
    refine (c_X10_ran (d := d + 2) hT (by omega) (inRd rfl)).mono (fun r m2 q => ?_)
    obtain ⟨-, f, hT2⟩ := q
    intro _ _
    have e50 : m2.1 98 50 = m.1 98 50 := f.1 _ _ (by unfold zSr; omega)
    have e52 : m2.1 98 52 = m.1 98 52 := f.1 _ _ (by unfold zSr; omega)
    refine (c_X10_partRests (d := d) (by rw [e50]; exact hk) ix hT2 (by rw [List.length_append]; show L.length + 1 < 26; omega)).mono (fun r4 m5 q => ?_)
    obtain ⟨hr, f5, hT5⟩ := q
    rw [e50, e52] at hr
    rw [e50] at hT5
    intro _ _
    have g50 : m5.1 98 50 = m.1 98 50 := by rw [f5.1 _ _ (by unfold zSr; omega)]; exact e50
    have g52 : m5.1 98 52 = m.1 98 52 := by rw [f5.1 _ _ (by unfold zSr; omega)]; exact e52
    refine (c_X10_flowsIt (d := d + 1) (x := 2) (by rw [g50]; exact hk) (inRd rfl) hT5 (by simp only [List.length_append, List.length_cons, List.length_nil]; omega)).mono (fun r6 m7 q _ _ => ⟨?_, (f.tr f5).tr q.2.1, ?_⟩)
    · rw [hr, q.1, g50, g52]; unfold vR; rw [if_pos h23]
    · unfold tR
      rw [if_pos h23]
      have := q.2.2
      rw [g50] at this
      simp only [List.append_assoc] at this ⊢
      exact this
  refine zCt.of (by decide) (Nat.le_of_ble_eq_true rfl) (vcw_X10_restsIt_0 (d := d) x m ix (fun _ => ⟨fun z => two (Or.inl z), fun z => ⟨fun z3 => two (Or.inr z3), fun z3 => ⟨fun z4 => ?_, fun z4 => ?_⟩⟩⟩))
  · refine (c_X10_ran (d := d + 2) hT (by omega) (inRd rfl)).mono (fun r m2 q => ?_)
    obtain ⟨-, f, hT2⟩ := q
    intro _ _
    have e50 : m2.1 98 50 = m.1 98 50 := f.1 _ _ (by unfold zSr; omega)
    have e52 : m2.1 98 52 = m.1 98 52 := f.1 _ _ (by unfold zSr; omega)
    refine (c_X10_partRests (d := d) (by rw [e50]; exact hk) ix hT2 (by rw [List.length_append]; show L.length + 1 < 26; omega)).mono (fun r4 m5 q _ _ => ⟨?_, f.tr q.2.1, ?_⟩)
    · rw [q.1, e50, e52]; unfold vR; rw [if_neg (by omega), if_pos z4, Int.zero_sub]
    · unfold tR
      rw [if_neg (by omega), if_pos z4]
      have := q.2.2
      rw [e50] at this
      simp only [List.append_assoc] at this ⊢
      exact this
  · refine (c_X10_partRests (d := d) hk ix hT (by omega)).mono (fun r4 m5 q _ _ => ⟨?_, q.2.1, ?_⟩)
    · rw [q.1]; unfold vR; rw [if_neg (by omega), if_neg z4]; exact zw_zw _
    · unfold tR; rw [if_neg (by omega), if_neg z4]; exact q.2.2
def zSr5 (a k : Int) : Prop := zSr a k ∨ (a = 98 ∧ k = 55)
theorem c_X10_partsIt (hn : (0 ≤ m.1 98 51 ∧ m.1 98 51 ≤ 9) ∧ (1 ≤ m.1 98 52 ∧ m.1 98 52 ≤ 9)) (ix : inR x) (h55 : m.1 98 55 = 0) (hT : zTm m L) (hL : L.length < 28) : zCt K (d + 2) mX10_partsIt [rr K 98, .int (iz x)] m (fun r m1 => r = vP (m.1 98 50) (m.1 98 52) (m.1 98 51) x ∧ zFr zSr5 m m1 ∧ zTm m1 (L ++ tP (m.1 98 50)) ∧ m1.1 98 55 = (if m.1 98 52 = m.1 98 51 then 1 else 0)) := by
  have last : ∀ (m3 : zM) (L3 : List Int) (y : Int), zFr zSr m m3 → zTm m3 L3 → L3.length < 30 → L3 ++ [12] = L ++ tP (m.1 98 50) → (¬ m.1 98 52 = m.1 98 51 → zdv y (m.1 98 52 - m.1 98 51) = vP (m.1 98 50) (m.1 98 52) (m.1 98 51) x) → zCt K (d + 1) mX10_ran [rr K 98, .int (iz 12)] m3 (fun r13 m14 => inR r13 → zok m14 → ((m14.1 98 52) = (m14.1 98 51) → ∀ m18 : zM, m18 = sI m14 98 55 1 → zok m18 → (zw 0 = vP (m.1 98 50) (m.1 98 52) (m.1 98 51) x ∧ zFr zSr5 m m18 ∧ zTm m18 (L ++ tP (m.1 98 50)) ∧ m18.1 98 55 = (if m.1 98 52 = m.1 98 51 then 1 else 0))) ∧ (¬ ((m14.1 98 52) = (m14.1 98 51)) → inR ((m14.1 98 52) - (m14.1 98 51)) ∧ (((m14.1 98 52) - (m14.1 98 51)) ≠ 0 ∧ (zw (zdv y ((m14.1 98 52) - (m14.1 98 51))) = vP (m.1 98 50) (m.1 98 52) (m.1 98 51) x ∧ zFr zSr5 m m14 ∧ zTm m14 (L ++ tP (m.1 98 50)) ∧ m14.1 98 55 = (if m.1 98 52 = m.1 98 51 then 1 else 0))))) := by
    intro m3 L3 y f hT3 hL3 el hv
    refine (c_X10_ran (d := d) hT3 hL3 (inRd rfl)).mono (fun r m14 q => ?_)
    obtain ⟨-, g, hT14⟩ := q
    rw [el] at hT14
    intro _ _
    have e51 : m14.1 98 51 = m.1 98 51 := by rw [g.1 _ _ (by unfold zSr; omega), f.1 _ _ (by unfold zSr; omega)]
    have e52 : m14.1 98 52 = m.1 98 52 := by rw [g.1 _ _ (by unfold zSr; omega), f.1 _ _ (by unfold zSr; omega)]
    have e55 : m14.1 98 55 = 0 := by rw [g.1 _ _ (by unfold zSr; omega), f.1 _ _ (by unfold zSr; omega)]; exact h55
    have hF : zFr zSr5 m m14 := (f.tr g).mono (fun a k q => Or.inl q)
    rw [e51, e52]
    refine ⟨fun z m18 e18 _ => ⟨?_, hF.put e18 (Or.inr ⟨rfl, rfl⟩), ⟨by rw [e18, sI_ne (by omega)]; exact hT14.1, fun i hi => by rw [e18, sI_ne (by omega)]; exact hT14.2 i hi⟩, by rw [if_pos z, e18, sI_eq]⟩, fun z => ⟨inR_b (A := 1000) (by omega) (by omega) rfl, by omega, by rw [zw_dv]; exact hv z, hF, hT14, by rw [if_neg z]; exact e55⟩⟩
    unfold vP
    rw [if_pos z]
    rfl
  refine zCt.of (by decide) (Nat.le_of_ble_eq_true rfl) (vcw_X10_partsIt_0 (d := d) x m ix (fun _ => ⟨fun z => ?_, fun z => ?_⟩))
  · refine (c_X10_ran (d := d) hT (by omega) (inRd rfl)).mono (fun r m2 q => ?_)
    obtain ⟨-, f, hT2⟩ := q
    intro _ _ v11 e11
    refine last m2 (L ++ [41]) v11 f hT2 (by rw [List.length_append]; show L.length + 1 < 30; omega) ?_ (fun y => ?_)
    · rw [List.append_assoc]; unfold tP; rw [if_pos z]; rfl
    · unfold vP; rw [if_neg y, if_pos z, e11]
  · refine last m L x zFr.rf hT (by omega) ?_ (fun y => ?_)
    · unfold tP; rw [if_neg z]
    · unfold vP; rw [if_neg y, if_neg z]
theorem c_X10_partErrs (hk : 1 ≤ m.1 98 50 ∧ m.1 98 50 ≤ 6) (ix : inR x) (hT : zTm m L) (hL : L.length < 17) : zCt K (d + 5) mX10_partErrs [rr K 98, .int (iz x)] m (fun r m1 => r = vD (m.1 98 50) (m.1 98 52) (m.1 98 51) x ∧ zFr zSr m m1 ∧ zTm m1 (L ++ ([13] ++ tR (m.1 98 50) (m.1 98 50)))) := by
  refine zCt.of (by decide) (Nat.le_of_ble_eq_true rfl) (vc_X10_partErrs_0 (d := d) x m ix (fun _ => ?_))
  refine (c_X10_ran (d := d + 3) hT (by omega) (inRd rfl)).mono (fun r m2 q => ?_)
  obtain ⟨-, f, hT2⟩ := q
  intro _ _
  have e50 : m2.1 98 50 = m.1 98 50 := f.1 _ _ (by unfold zSr; omega)
  refine (c_X10_restsIt (d := d) (by rw [e50]; exact hk) ix hT2 (by rw [List.length_append]; show L.length + 1 < 18; omega)).mono (fun r3 m4 q _ _ => ⟨?_, f.tr q.2.1, ?_⟩)
  · rw [q.1, e50, f.1 98 52 (by unfold zSr; omega), q.2.1.1 98 51 (by unfold zSr; omega), f.1 98 51 (by unfold zSr; omega)]; rfl
  · have := q.2.2
    rw [List.append_assoc, e50] at this
    exact this
theorem c_X10_errsIt (hk : 1 ≤ m.1 98 50 ∧ m.1 98 50 ≤ 6) (hn : (0 ≤ m.1 98 51 ∧ m.1 98 51 ≤ 9) ∧ (1 ≤ m.1 98 52 ∧ m.1 98 52 ≤ 9)) (ix : inR x) (h55 : m.1 98 55 = 0) (hT : zTm m L) (hL : L.length < 10) : zCt K (d + 6) mX10_errsIt [rr K 98, .int (iz x)] m (fun r m1 => r = vE (m.1 98 50) (m.1 98 52) (m.1 98 51) x ∧ zFr zSr5 m m1 ∧ zTm m1 (L ++ tE (m.1 98 50)) ∧ m1.1 98 55 = (if m.1 98 50 = 5 ∧ m.1 98 52 = m.1 98 51 then 1 else 0)) := by
  have htR := tR_l (m.1 98 50) (m.1 98 50)
  have two : (m.1 98 50 = 2 ∨ m.1 98 50 = 3) → zCt K (d + 5) mX10_ran [rr K 98, .int (iz 31)] m (fun r2 m3 => inR r2 → zok m3 → zCt K (d + 5) mX10_partErrs [rr K 98, .int (iz x)] m3 (fun r4 m5 => inR r4 → zok m5 → zw (r4 * 5) = vE (m.1 98 50) (m.1 98 52) (m.1 98 51) x ∧ zFr zSr5 m m5 ∧ zTm m5 (L ++ tE (m.1 98 50)) ∧ m5.1 98 55 = (if m.1 98 50 = 5 ∧ m.1 98 52 = m.1 98 51 then 1 else 0))) := by
    intro h23
    refine (c_X10_ran (d := d + 4) hT (by omega) (inRd rfl)).mono (fun r m2 q => ?_)
    obtain ⟨-, f, hT2⟩ := q
    intro _ _
    have e50 : m2.1 98 50 = m.1 98 50 := f.1 _ _ (by unfold zSr; omega)
    have e51 : m2.1 98 51 = m.1 98 51 := f.1 _ _ (by unfold zSr; omega)
    have e52 : m2.1 98 52 = m.1 98 52 := f.1 _ _ (by unfold zSr; omega)
    refine (c_X10_partErrs (d := d) (by rw [e50]; exact hk) ix hT2 (by rw [List.length_append]; show L.length + 1 < 17; omega)).mono (fun r4 m5 q _ _ => ⟨?_, (f.tr q.2.1).mono (fun a k q => Or.inl q), ?_, ?_⟩)
    · rw [q.1, e50, e51, e52]; unfold vE; rw [if_pos h23]
    · unfold tE
      rw [if_pos h23]
      have := q.2.2
      rw [e50] at this
      simp only [List.append_assoc] at this ⊢
      exact this
    · rw [if_neg (by omega), q.2.1.1 98 55 (by unfold zSr; omega), f.1 98 55 (by unfold zSr; omega)]; exact h55
  refine zCt.of (by decide) (Nat.le_of_ble_eq_true rfl) (vcw_X10_errsIt_0 (d := d) x m ix (fun _ => ⟨fun z => two (Or.inl z), fun z => ⟨fun z3 => two (Or.inr z3), fun z3 => ⟨fun z5 => ?_, fun z5 => ?_⟩⟩⟩))
  · refine (c_X10_ran (d := d + 4) hT (by omega) (inRd rfl)).mono (fun r m2 q => ?_)
    obtain ⟨-, f, hT2⟩ := q
    intro _ _
    have e50 : m2.1 98 50 = m.1 98 50 := f.1 _ _ (by unfold zSr; omega)
    have e51 : m2.1 98 51 = m.1 98 51 := f.1 _ _ (by unfold zSr; omega)
    have e52 : m2.1 98 52 = m.1 98 52 := f.1 _ _ (by unfold zSr; omega)
    refine (c_X10_partErrs (d := d) (by rw [e50]; exact hk) ix hT2 (by rw [List.length_append]; show L.length + 1 < 17; omega)).mono (fun r4 m5 q => ?_)
    obtain ⟨hr, f5, hT5⟩ := q
    rw [e50, e51, e52] at hr
    rw [e50] at hT5
    intro _ _
    have g50 : m5.1 98 50 = m.1 98 50 := by rw [f5.1 _ _ (by unfold zSr; omega)]; exact e50
    have g51 : m5.1 98 51 = m.1 98 51 := by rw [f5.1 _ _ (by unfold zSr; omega)]; exact e51
    have g52 : m5.1 98 52 = m.1 98 52 := by rw [f5.1 _ _ (by unfold zSr; omega)]; exact e52
    have g55 : m5.1 98 55 = 0 := by rw [f5.1 _ _ (by unfold zSr; omega), f.1 _ _ (by unfold zSr; omega)]; exact h55
    rw [g51]
    refine (c_X10_partsIt (d := d + 3) (x := m.1 98 51 + 1) (by rw [g51, g52]; exact hn) (inR_b (A := 1000) (by omega) (by omega) rfl) g55 hT5 (by simp only [List.length_append, List.length_cons, List.length_nil]; omega)).mono (fun r6 m7 q _ _ => ⟨?_, ((f.tr f5).mono (fun a k q => Or.inl q)).tr q.2.1, ?_, ?_⟩)
    · rw [hr, q.1, g50, g51, g52]; unfold vE; rw [if_neg (by omega), if_pos z5]
    · unfold tE
      rw [if_neg (by omega), if_pos z5]
      have := q.2.2.1
      rw [g50] at this
      simp only [List.append_assoc] at this ⊢
      exact this
    · rw [q.2.2.2, g51, g52]
      by_cases y : m.1 98 52 = m.1 98 51
      · rw [if_pos y, if_pos ⟨z5, y⟩]
      · rw [if_neg y, if_neg (fun q => y q.2)]
  · refine (c_X10_partErrs (d := d) hk ix hT (by omega)).mono (fun r4 m5 q _ _ => ⟨?_, q.2.1.mono (fun a k q => Or.inl q), ?_, ?_⟩)
    · rw [q.1]; unfold vE; rw [if_neg (by omega), if_neg z5]; exact zw_xor _ _
    · unfold tE; rw [if_neg (by omega), if_neg z5]; exact q.2.2
    · rw [if_neg (fun y => z5 y.1), q.2.1.1 98 55 (by unfold zSr; omega)]; exact h55
end ACM
