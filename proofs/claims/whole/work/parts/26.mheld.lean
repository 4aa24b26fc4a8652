/-! ===== the reference: wishes in a corner ===== -/
section MH
variable {K : zCx} {P : F2} {c : Int} {m0 : zM}
theorem c_X10_joined {d : Nat} {s a b : Int} (hs : zjs s) (ha : inR a) (hb : inR b) (hp : s = 14 → inR (a + b)) : zCt K (d + 1) mX10_joined [.int (iz s), .int (iz a), .int (iz b)] m0 (fun r m1 => r = zjoin s a b ∧ m1 = m0) := by
  unfold zjs at hs
  refine zCt.of (by decide) (Nat.le_of_ble_eq_true rfl) (vc_X10_joined_0 (d := d) s a b m0 (inR_b (A := 20) (by omega) (by omega) rfl) ha hb (fun hm => ?_))
  unfold zjoin
  refine ⟨fun e => ⟨by rw [if_pos e], rfl⟩, fun e => ⟨by rw [if_neg (by omega), if_pos e], rfl⟩, fun e => by omega, fun e => by omega, fun e => by omega, fun e => by omega, fun e => ⟨hp e, by rw [if_neg (by omega), if_neg (by omega), if_pos e], rfl⟩, fun e => ?_, fun e => ?_, fun e => ?_⟩
  · rw [if_neg (by omega), if_neg (by omega), if_neg (by omega), if_pos e]
    exact ⟨fun q => ⟨by rw [if_neg (by omega)], rfl⟩, fun q => ⟨by rw [if_pos (by omega)], rfl⟩⟩
  · rw [if_neg (by omega), if_neg (by omega), if_neg (by omega), if_neg (by omega), if_pos e]
    exact ⟨fun q => ⟨by rw [if_pos q], rfl⟩, fun q => ⟨by rw [if_neg q], rfl⟩⟩
  · rw [if_neg (by omega), if_neg (by omega), if_neg (by omega), if_neg (by omega), if_neg (by omega)]
    exact ⟨fun q => ⟨by rw [if_neg (by omega)], rfl⟩, fun q => ⟨by rw [if_pos (by omega)], rfl⟩⟩
/-- the end of a corner stands: its levels, pace and ring -/
def zStood (P : F2) (c : Int) (m : zM) : Prop := (∀ n, 0 ≤ n → n ≤ 4 → m.1 106 n = zlv P (zE P c) n) ∧ m.1 98 20 = zPa P c ∧ m.1 98 21 = zRg P c
theorem c_X10_valueOf {d : Nat} {s : Int} (hP : pv m0.1 = P) (hW : zWf P) (hc : 0 ≤ c ∧ c ≤ 8) (hs : zvs s) (hS : zStood P c m0) : zCt K (d + 3) mX10_valueOf [rr K 98, .int (iz s), .int (iz c)] m0 (fun r m1 => r = zval P c s ∧ m1 = m0) := by
  obtain ⟨s1, s2, s3⟩ := hS
  obtain ⟨f1, f2, f3⟩ := zE_facts (c := c) hW
  have h4 := hW.2.2.2.1
  have e4 : m0.1 98 4 = P 98 4 := pv_f hP (by omega)
  have e0 : m0.1 98 0 = P 98 0 := pv_f hP (by omega)
  unfold zvs at hs
  refine zCt.of (by decide) (Nat.le_of_ble_eq_true rfl) (vc_X10_valueOf_0 (d := d) s c m0 (inR_b (A := 2000) (by omega) (by omega) rfl) (inR_b (A := 10) (by omega) (by omega) rfl) (fun hm => ?_))
  unfold zval
  refine ⟨fun q1 => ?_, fun q1 => ⟨inR_b (A := 2000) (by omega) (by omega) rfl, by rw [if_neg q1], rfl⟩⟩
  rw [if_pos q1]
  refine ⟨fun q2 => ?_, fun q2 => ?_⟩
  · rw [if_pos q2]
    refine ⟨fun q3 => ⟨by omega, by omega, by rw [if_pos q3]; exact s1 _ (by omega) (by omega), rfl⟩, fun q3 => ⟨inR_b (A := 2000) (by omega) (by omega) rfl, by omega, fun q4 => ?_, fun q4 => ⟨by rw [if_neg q3, if_neg (by rw [← e4]; exact q4)], rfl⟩⟩⟩
    rw [e4] at q4
    refine (c_X10_flows (d := d) (p := s - 300) hP hW (by omega) (by omega) hc (fun k a b => by rw [s1 k a b]; exact zlv_le hW f1 k)).mono (fun r m1 h => ?_)
    obtain ⟨h1, h2⟩ := h
    intro _ _
    refine ⟨?_, h2⟩
    rw [if_neg q3, if_pos q4, h1]
    exact zflow_lv hW (by omega) (by omega) (fun k a b => s1 k a b)
  · rw [if_neg q2]
    refine ⟨fun q3 => ⟨by rw [if_pos q3]; exact s2, rfl⟩, fun q3 => ⟨fun q4 => ⟨by rw [if_neg q3, if_pos q4]; exact s3, rfl⟩, fun q4 => ⟨by rw [if_neg q3, if_neg q4]; exact e0, rfl⟩⟩⟩
def zsa (f : Int → Int) : List Int → Prop
  | [] => True
  | v :: r => f (r.length : Int) = v ∧ zsa f r
theorem zsa_congr {f g : Int → Int} : ∀ {st : List Int}, (∀ k : Int, 0 ≤ k → k < st.length → f k = g k) → zsa f st → zsa g st := by
  intro st
  induction st with
  | nil => intro _ _; exact trivial
  | cons v r ih =>
    intro h hs
    refine ⟨?_, ih (fun k a b => h k a (by simp; omega)) hs.2⟩
    rw [← h _ (by omega) (by simp; omega)]
    exact hs.1
def zS115 (a _k : Int) : Prop := a = 115
theorem zS115_Sc : ∀ a k, zS115 a k → zSc a k := fun a k h => Or.inr (Or.inl h)
theorem zsum_mem {st : List Int} {v : Int} (h : v ∈ st) : -zsum st ≤ v ∧ v ≤ zsum st := by
  induction st with
  | nil => cases h
  | cons w r ih =>
    have hn := zsum_nn r
    rw [zsum_cons]
    rcases List.mem_cons.mp h with h | h
    · subst h; split <;> omega
    · have := ih h; split <;> omega
theorem t_holdsIn_20 {d : Nat} {Q : Int → zM → Prop} {w : Int} (hP : pv m0.1 = P) (hW : zWf P) (hc : 0 ≤ c ∧ c ≤ 8) (hw : 0 ≤ w ∧ w < 8) (hend : P 104 w ≤ 230) (hS : zStood P c m0) (F : List Int)
    (hQ : ∀ m', zFr zS115 m0 m' → Q (if F.headD 0 = 1 then 1 else 0) m') :
    ∀ (n : Nat) (x : Int), 0 ≤ x → x + n = P 104 w → ∀ (m : zM) (T : List Bool) (st : List Int), zFr zS115 m0 m → zstk T st → T.length ≤ 230 → zsa (m.1 115) st → ztR 230 (zseg (P 105) x n) T [true] → zev (zval P c) (zseg (P 105) x n) st = F → zsum st ≤ 10000 * x →
      zV K mX10_holdsIn (d + 4) 20 [(0, rr K 98), (1, .int (iz w)), (2, .int (iz c)), (3, .int (iz (st.length : Int))), (4, .int (iz x))] [] m Q := by
  intro n
  induction n with
  | zero =>
    intro x hx0 hx m T st hF hk hlen hsa ht hev hsu
    have hPm : pv m.1 = P := (hF.mono zS115_Sc).pv.trans hP
    have he : m.1 104 w = P 104 w := pv_r hPm (by omega) _
    have hTe : T = [true] := ht
    subst hTe
    have hlen2 := zstk_len hk
    refine vc_X10_holdsIn_20 w c st.length x m (inR_b (A := 10) (by omega) (by omega) rfl) (inR_b (A := 10) (by omega) (by omega) rfl) (inR_b (A := 230) (by omega) (by omega) rfl) (inR_b (A := 230) (by omega) (by omega) rfl) (fun hm => ⟨hw.1, hw.2, fun _ => ?_, fun q => absurd (by omega) q⟩)
    have hst : st = F := hev
    subst hst
    cases st with
    | nil => cases hlen2
    | cons v r =>
      have hr : r = [] := by
        have h1 : (v :: r).length = 1 := hlen2
        simpa using h1
      subst hr
      have h0 : m.1 115 0 = v := hsa.1
      have hq := hQ m hF
      refine ⟨fun q => ?_, fun q => ?_⟩
      · have e : (if [v].headD 0 = 1 then (1 : Int) else 0) = 1 := if_pos (by show v = 1; omega)
        rw [e] at hq; exact hq
      · have e : (if [v].headD 0 = 1 then (1 : Int) else 0) = 0 := if_neg (by show ¬ v = 1; omega)
        rw [e] at hq; exact hq
  | succ n ih =>
    intro x hx0 hx m T st hF hk hlen hsa ht hev hsu
    have hPm : pv m.1 = P := (hF.mono zS115_Sc).pv.trans hP
    have he : m.1 104 w = P 104 w := pv_r hPm (by omega) _
    have hcode : m.1 105 x = P 105 x := pv_r hPm (by omega) _
    have hSm : zStood P c m := ⟨fun k a b => by rw [hF.1 _ _ (by unfold zS115; omega)]; exact hS.1 k a b, by rw [hF.1 _ _ (by unfold zS115; omega)]; exact hS.2.1, by rw [hF.1 _ _ (by unfold zS115; omega)]; exact hS.2.2⟩
    have hlen2 := zstk_len hk
    obtain ⟨U, t1, t2, t3⟩ := ht
    have hso := zstep_ok (env := zval P c) t1 hk (fun hv => zval_le hW hc hv)
    obtain ⟨k1, k2, k3⟩ := hso
    have hev2 : zev (zval P c) (zseg (P 105) (x + 1) n) (zstep (zval P c) st (P 105 x)) = F := hev
    have hUl := zstk_len k1
    have ss : ∀ k, zS115 115 k := fun k => rfl
    refine vc_X10_holdsIn_20 w c st.length x m (inR_b (A := 10) (by omega) (by omega) rfl) (inR_b (A := 10) (by omega) (by omega) rfl) (inR_b (A := 230) (by omega) (by omega) rfl) (inR_b (A := 230) (by omega) (by omega) rfl) (fun hm => ⟨hw.1, hw.2, fun q => absurd q (by omega), fun _ => ⟨hx0, by omega, fun v7 e7 => ?_⟩⟩)
    rw [hcode] at e7
    subst e7
    rcases k3 with ⟨hc7, y, r, est, hy, enew⟩ | ⟨hj, y, z, r, est, hyz, enew⟩ | ⟨hv, h7, hnj, enew⟩
    · subst est
      rw [enew] at k1 k2 hev2 hUl
      have hl : ((y :: r).length : Int) - 1 = r.length := by simp
      have h115 : m.1 115 (r.length : Int) = y := hsa.1
      have hl1 : (y :: r).length ≤ 230 := by omega
      refine ⟨fun _ => ⟨by omega, by rw [hl]; simp at hl1; omega, by rw [hl, h115]; exact inR_b (A := 10) (by omega) (by omega) rfl, fun m30 e30 _ => ?_⟩, fun q => absurd hc7 q⟩
      rw [hl, h115] at e30
      have hle : ((y :: r).length : Int) = (((1 - y) :: r).length : Int) := by simp
      rw [hle]
      refine ih (x + 1) (by omega) (by omega) m30 U _ (hF.put e30 (ss _)) k1 (by omega) ?_ t3 hev2 (by omega)
      rw [e30]
      exact ⟨sI_eq, zsa_congr (fun k a b => (sI_ne (Or.inr (by omega))).symm) hsa.2⟩
    · subst est
      rw [enew] at k1 k2 hev2 hUl
      have hj' : P 105 x = 8 ∨ P 105 x = 9 ∨ (14 ≤ P 105 x ∧ P 105 x ≤ 17) := hj
      have hl : ((y :: z :: r).length : Int) + (-1) = (r.length : Int) + 1 := by simp; omega
      have hl3 : ((y :: z :: r).length : Int) + (-1) - 1 = (r.length : Int) := by omega
      have hl1 : (y :: z :: r).length ≤ 230 := by omega
      have hl2 : r.length + 2 ≤ 230 := by simpa using hl1
      have ey : m.1 115 ((r.length : Int) + 1) = y := by
        have := hsa.1
        simpa using this
      have ez : m.1 115 (r.length : Int) = z := hsa.2.1
      have by1 := zsum_mem (st := y :: z :: r) (v := y) (by simp)
      have bz1 := zsum_mem (st := y :: z :: r) (v := z) (by simp)
      refine ⟨fun q => absurd q (by omega), fun _ => ⟨fun _ => ⟨by omega, by omega, by omega, by omega, ?_⟩, fun q => absurd hj' q⟩⟩
      rw [hl3, hl, ey, ez]
      refine (c_X10_joined (d := d + 2) hj (inR_b (A := 2300000) (by omega) (by omega) rfl) (inR_b (A := 2300000) (by omega) (by omega) rfl) (fun _ => inR_b (A := 4600000) (by omega) (by omega) rfl)).mono (fun r23 m24 h => ?_)
      obtain ⟨h1, h2⟩ := h
      intro _ _ m25 e25 _
      subst h2
      rw [h1] at e25
      have hle : (r.length : Int) + 1 = ((zjoin (P 105 x) z y :: r).length : Int) := by simp
      rw [hle]
      refine ih (x + 1) (by omega) (by omega) m25 U _ (hF.put e25 (ss _)) k1 (by omega) ?_ t3 hev2 (by omega)
      rw [e25]
      exact ⟨sI_eq, zsa_congr (fun k a b => (sI_ne (Or.inr (by omega))).symm) hsa.2.2⟩
    · rw [enew] at k1 k2 hev2 hUl
      have hnj' : ¬ (P 105 x = 8 ∨ P 105 x = 9 ∨ (14 ≤ P 105 x ∧ P 105 x ≤ 17)) := hnj
      refine ⟨fun q => absurd q h7, fun _ => ⟨fun q => absurd q hnj', fun _ => ?_⟩⟩
      refine (c_X10_valueOf (d := d) hPm hW hc hv hSm).mono (fun r13 m14 h => ?_)
      obtain ⟨h1, h2⟩ := h
      subst h2
      intro _ _
      have hul : st.length + 1 ≤ 230 := by
        have : (zval P c (P 105 x) :: st).length = U.length := hUl
        simp at this
        omega
      refine ⟨by omega, by omega, fun m17 e17 _ => ?_⟩
      rw [h1] at e17
      have hle : (st.length : Int) + 1 = ((zval P c (P 105 x) :: st).length : Int) := by simp
      rw [hle]
      refine ih (x + 1) (by omega) (by omega) m17 U _ (hF.put e17 (ss _)) k1 (by omega) ?_ t3 hev2 (by omega)
      rw [e17]
      exact ⟨sI_eq, zsa_congr (fun k a b => (sI_ne (Or.inr (by omega))).symm) hsa⟩
/-- holdsIn(w, corner) -/
theorem c_X10_holdsIn {d : Nat} {w : Int} (hP : pv m0.1 = P) (hW : zWf P) (hc : 0 ≤ c ∧ c ≤ 8) (hWi : zWish P) (hw : 0 ≤ w ∧ w < P 98 10) (hS : zStood P c m0) : zCt K (d + 4) mX10_holdsIn [rr K 98, .int (iz w), .int (iz c)] m0 (fun r m1 => r = b2i (zholds (zval P c) (zwM P w)) ∧ zFr zS115 m0 m1) := by
  obtain ⟨c1, c2⟩ := hWi
  obtain ⟨⟨b1, b2, b3⟩, b4⟩ := c2 w hw.1 hw.2
  have main : zV K mX10_holdsIn (d + 4) 20 [(0, rr K 98), (1, .int (iz w)), (2, .int (iz c)), (3, .int (iz 0)), (4, .int (iz (zwb P w)))] [] m0 (fun r m1 => r = b2i (zholds (zval P c) (zwM P w)) ∧ zFr zS115 m0 m1) := by
    refine t_holdsIn_20 hP hW hc ⟨hw.1, by omega⟩ b3 hS (zev (zval P c) (zwM P w) []) (fun m' h => ⟨?_, h⟩) (P 104 w - zwb P w).toNat (zwb P w) b1 (by omega) m0 [] [] zFr.rf trivial (by decide) trivial b4 rfl (by show (0 : Int) ≤ _; omega)
    unfold zholds
    by_cases hz : (zev (zval P c) (zwM P w) []).headD 0 = 1
    · rw [if_pos hz, hz]; rfl
    · rw [if_neg hz]
      have : ((zev (zval P c) (zwM P w) []).headD 0 == 1) = false := by simpa using hz
      rw [this]; rfl
  refine zCt.of (by decide) (Nat.le_of_ble_eq_true rfl) (vc_X10_holdsIn_0 (d := d) w c m0 (inR_b (A := 10) (by omega) (by omega) rfl) (inR_b (A := 10) (by omega) (by omega) rfl) (fun hm => ⟨fun q => ?_, fun q => ⟨by omega, by omega, fun v4 e4 => ?_⟩⟩))
  · have : zwb P w = 0 := if_pos q
    rw [this] at main
    exact main
  · have h1 : m0.1 104 (w - 1) = P 104 (w - 1) := pv_r hP (by omega) _
    have : zwb P w = v4 := by rw [e4, h1]; exact if_neg q
    rw [this] at main
    exact main
end MH
