/-! ===== the class: wishes in a corner ===== -/
/-- a step of the class as a sign -/
def zxm (st : Int) : Int := if st / 1000 = 0 then 1000 + st % 1000 else if st / 1000 = 1 then (if st % 1000 ≤ 4 then 200 + st % 1000 else 0) else if st / 1000 = 2 then (if st % 1000 ≤ 9 then 300 + st % 1000 else 0) else if st / 1000 = 3 then 400 else if st / 1000 = 4 then 401 else if st / 1000 = 5 then 402 else if st / 1000 = 6 then 14 else if st / 1000 = 7 then 15 else if st / 1000 = 8 then 16 else if st / 1000 = 9 then 17 else if st / 1000 = 10 then 7 else if st / 1000 = 11 then 8 else if st / 1000 = 12 then 9 else 0
theorem zxm_7 {st : Int} (h : zxm st = 7) : st / 1000 = 10 := by unfold zxm at h; (repeat' split at h) <;> omega
theorem zxm_j {st : Int} (h : zjs (zxm st)) : (6 ≤ st / 1000 ∧ st / 1000 ≤ 12 ∧ ¬ st / 1000 = 10) := by unfold zjs zxm at h; (repeat' split at h) <;> omega
theorem zxm_v {st : Int} (h : zvs (zxm st)) : 0 ≤ st / 1000 ∧ st / 1000 ≤ 5 := by unfold zvs zxm at h; (repeat' split at h) <;> omega
def zwX (m : zM) (w i : Int) : List Int := (zseg (m.1 (w + 1)) (m.1 (w + 2) i) (m.1 (w + 2) (i + 1) - m.1 (w + 2) i).toNat).map zxm
/-- the row of wishes at w says what the wishes of P say -/
def RW (m : zM) (w : Int) (P : F2) : Prop := m.1 w 2 = P 98 10 ∧ (0 ≤ m.1 w 3 ∧ m.1 w 3 ≤ 220) ∧ m.1 (w + 2) 0 = 0 ∧ ∀ i, 0 ≤ i → i < P 98 10 → (0 ≤ m.1 (w + 2) i ∧ m.1 (w + 2) i ≤ m.1 (w + 2) (i + 1) ∧ m.1 (w + 2) (i + 1) ≤ m.1 w 3) ∧ ztR 32 (zwX m w i) [] [true] ∧ ∀ env : Int → Int, zholds env (zwX m w i) = zholds env (zwM P i)
theorem RW.kept {m m' : zM} {w : Int} {P : F2} (h : RW m w P) (hf : ∀ a k, w ≤ a → a ≤ w + 2 → m'.1 a k = m.1 a k) : RW m' w P := by
  have e0 : m'.1 w = m.1 w := funext (fun k => hf _ _ (by omega) (by omega))
  have e1 : m'.1 (w + 1) = m.1 (w + 1) := funext (fun k => hf _ _ (by omega) (by omega))
  have e2 : m'.1 (w + 2) = m.1 (w + 2) := funext (fun k => hf _ _ (by omega) (by omega))
  have e3 : ∀ i, zwX m' w i = zwX m w i := fun i => by unfold zwX; rw [e1, e2]
  obtain ⟨h1, h2, h3, h4⟩ := h
  refine ⟨by rw [e0]; exact h1, by rw [e0]; exact h2, by rw [e2]; exact h3, fun i a b => ?_⟩
  rw [e0, e2, e3]
  exact h4 i a b
/-- the end of a corner stands on the bench -/
def zXd (P : F2) (c : Int) (m : zM) : Prop := zBe m P c ∧ zLs m P (zE P c) ∧ m.1 39 13 = zPa P c ∧ m.1 39 14 = zRg P c
def zS86 (a _k : Int) : Prop := a = 86
section XH
variable {K : zCx} {P : F2} {c : Int} {m0 : zM}
theorem zXd.kept {m m' : zM} (h : zXd P c m) (hf : zFr zS86 m m') : zXd P c m' := by
  have nf : ∀ a k, ¬ a = 86 → m'.1 a k = m.1 a k := fun a k z => hf.1 a k z
  have n86 : m.2.2 ≠ 86 := fun z => by have h2 := h.1.2.1; rw [z] at h2; exact absurd h2 (by decide)
  obtain ⟨⟨b1, b2, b3, b4, b5⟩, h2, h3, h4⟩ := h
  refine ⟨⟨by rw [nf _ _ (by omega)]; exact b1, by rw [hf.2]; exact b2, fun i x y => by rw [hf.2, nf _ _ n86]; exact b3 i x y, fun p x y => ?_, fun n x y => by rw [nf _ _ (by omega)]; exact b5 n x y⟩, fun n x y => by rw [nf _ _ (by omega)]; exact h2 n x y, by rw [nf _ _ (by omega)]; exact h3, by rw [nf _ _ (by omega)]; exact h4⟩
  obtain ⟨q1, q2, q3, q4, q5⟩ := b4 p x y
  exact ⟨by rw [nf _ _ (by omega)]; exact q1, by rw [nf _ _ (by omega)]; exact q2, by rw [nf _ _ (by omega)]; exact q3, fun z => by rw [nf _ _ (by omega)]; exact q4 z, fun z => by rw [nf _ _ (by omega), nf _ _ (by omega), nf _ _ (by omega), nf _ _ (by omega)]; exact q5 z⟩
theorem c_X7_joined {d : Nat} {st a b : Int} (hs : zjs (zxm st)) (ha : inR a) (hb : inR b) (hp : inR (a + b)) : zCt K (d + 1) mX7_joined [.int (iz (st / 1000)), .int (iz a), .int (iz b)] m0 (fun r m1 => r = zjoin (zxm st) a b ∧ m1 = m0) := by
  have hr := zxm_j hs
  refine zCt.of (by decide) (Nat.le_of_ble_eq_true rfl) (vc_X7_joined_0 (d := d) _ a b m0 (inR_b (A := 20) (by omega) (by omega) rfl) ha hb (fun _ => ?_))
  have hc : st / 1000 = 6 ∨ st / 1000 = 7 ∨ st / 1000 = 8 ∨ st / 1000 = 9 ∨ st / 1000 = 11 ∨ st / 1000 = 12 := by omega
  rcases hc with h | h | h | h | h | h
  · have e : zxm st = 14 := by unfold zxm; simp [h]
    rw [h, e]
    exact ⟨fun _ => ⟨hp, rfl, rfl⟩, fun z => by omega, fun z => by omega, fun z => by omega, fun z => by omega, fun z => by omega, fun z => by omega⟩
  · have e : zxm st = 15 := by unfold zxm; simp [h]
    rw [h, e]
    refine ⟨fun z => by omega, fun _ => ⟨fun q => ⟨?_, rfl⟩, fun q => ⟨?_, rfl⟩⟩, fun z => by omega, fun z => by omega, fun z => by omega, fun z => by omega, fun z => by omega⟩
    · show 0 = (if a < b then (1 : Int) else 0); rw [if_neg (by omega)]
    · show 1 = (if a < b then (1 : Int) else 0); rw [if_pos (by omega)]
  · have e : zxm st = 16 := by unfold zxm; simp [h]
    rw [h, e]
    refine ⟨fun z => by omega, fun z => by omega, fun _ => ⟨fun q => ⟨?_, rfl⟩, fun q => ⟨?_, rfl⟩⟩, fun z => by omega, fun z => by omega, fun z => by omega, fun z => by omega⟩
    · show 1 = (if a = b then (1 : Int) else 0); rw [if_pos q]
    · show 0 = (if a = b then (1 : Int) else 0); rw [if_neg q]
  · have e : zxm st = 17 := by unfold zxm; simp [h]
    rw [h, e]
    refine ⟨fun z => by omega, fun z => by omega, fun z => by omega, fun _ => ⟨fun q => ⟨?_, rfl⟩, fun q => ⟨?_, rfl⟩⟩, fun z => by omega, fun z => by omega, fun z => by omega⟩
    · show 0 = (if b < a then (1 : Int) else 0); rw [if_neg (by omega)]
    · show 1 = (if b < a then (1 : Int) else 0); rw [if_pos (by omega)]
  · have e : zxm st = 8 := by unfold zxm; simp [h]
    rw [h, e]
    exact ⟨fun z => by omega, fun z => by omega, fun z => by omega, fun z => by omega, fun z => by omega, fun _ => ⟨rfl, rfl⟩, fun z => by omega⟩
  · have e : zxm st = 9 := by unfold zxm; simp [h]
    rw [h, e]
    exact ⟨fun z => by omega, fun z => by omega, fun z => by omega, fun z => by omega, fun z => by omega, fun z => by omega, fun _ => ⟨rfl, rfl⟩⟩
theorem c_X7_valueOf {d : Nat} {st : Int} (hW : zWf P) (hc : 0 ≤ c ∧ c ≤ 8) (hX : zXd P c m0) (hv : zvs (zxm st)) : zCt K (d + 2) mX7_valueOf [rr K 64, .int (iz (st / 1000)), .int (iz (st % 1000))] m0 (fun r m1 => r = zval P c (zxm st) ∧ m1 = m0) := by
  obtain ⟨hB, hL, h13, h14⟩ := hX
  obtain ⟨f1, f2, f3⟩ := zE_facts (c := c) hW
  have hr := zxm_v hv
  have h4 := hW.2.2.2.1
  have e11 := hB.1
  refine zCt.of (by decide) (Nat.le_of_ble_eq_true rfl) (vc_X7_valueOf_0 (d := d) _ _ m0 (inR_b (A := 20) (by omega) (by omega) rfl) (inR_b (A := 1000) (by omega) (by omega) rfl) (fun _ => ?_))
  have hcs : st / 1000 = 0 ∨ st / 1000 = 1 ∨ st / 1000 = 2 ∨ st / 1000 = 3 ∨ st / 1000 = 4 ∨ st / 1000 = 5 := by omega
  rcases hcs with h | h | h | h | h | h
  · have e : zxm st = 1000 + st % 1000 := by unfold zxm; simp [h]
    rw [h]
    refine ⟨fun _ => ⟨?_, rfl⟩, fun z => by omega, fun z => by omega, fun z => by omega, fun z => by omega, fun z => by omega⟩
    rw [e]; unfold zval; rw [if_neg (by omega)]; omega
  · have hn : st % 1000 ≤ 4 := by unfold zvs zxm at hv; (repeat' split at hv) <;> omega
    have e : zxm st = 200 + st % 1000 := by unfold zxm; simp [h, hn]
    rw [h]
    refine ⟨fun z => by omega, fun _ => ⟨fun q => absurd q (by omega), fun _ => ⟨by omega, by omega, ?_, rfl⟩⟩, fun z => by omega, fun z => by omega, fun z => by omega, fun z => by omega⟩
    rw [e]; unfold zval; rw [if_pos (by omega), if_pos (by omega), if_pos (by omega), hL _ (by omega) hn]
    congr 1; omega
  · have hn : st % 1000 ≤ 9 := by unfold zvs zxm at hv; (repeat' split at hv) <;> omega
    have e : zxm st = 300 + st % 1000 := by unfold zxm; simp [h, hn]
    rw [h]
    refine ⟨fun z => by omega, fun z => by omega, fun _ => ⟨fun q => ⟨?_, rfl⟩, fun q => ?_⟩, fun z => by omega, fun z => by omega, fun z => by omega⟩
    · rw [e]; unfold zval; rw [if_pos (by omega), if_pos (by omega), if_neg (by omega), if_neg (by omega)]
    · refine (c_X1_through (d := d) (p := st % 1000) hW hB (by omega) (by omega) hc (fun k x y => by rw [hL k x y]; exact zlv_le hW f1 k)).mono (fun r m1 g => ?_)
      obtain ⟨g1, g2⟩ := g
      intro _ _
      refine ⟨?_, g2⟩
      rw [e]; unfold zval; rw [if_pos (by omega), if_pos (by omega), if_neg (by omega), if_pos (by omega), g1, show 300 + st % 1000 - 300 = st % 1000 by omega]
      exact zflow_lv hW (by omega) (by omega) (fun k x y => hL k x y)
  · have e : zxm st = 400 := by unfold zxm; simp [h]
    rw [h]
    refine ⟨fun z => by omega, fun z => by omega, fun z => by omega, fun _ => ⟨?_, rfl⟩, fun z => by omega, fun z => by omega⟩
    rw [e, h13]; rfl
  · have e : zxm st = 401 := by unfold zxm; simp [h]
    rw [h]
    refine ⟨fun z => by omega, fun z => by omega, fun z => by omega, fun z => by omega, fun _ => ⟨?_, rfl⟩, fun z => by omega⟩
    rw [e, h14]; rfl
  · have e : zxm st = 402 := by unfold zxm; simp [h]
    rw [h]
    refine ⟨fun z => by omega, fun z => by omega, fun z => by omega, fun z => by omega, fun z => by omega, fun _ => ⟨?_, rfl⟩⟩
    rw [e, hL 1 (by omega) (by omega)]; rfl
theorem t_isTrue_10 {d : Nat} {Q : Int → zM → Prop} {w i : Int} (hw : zWi w) (hW : zWf P) (hc : 0 ≤ c ∧ c ≤ 8) (hi : 0 ≤ i ∧ i < 8) (hend : m0.1 (w + 2) (i + 1) ≤ 220) (hX : zXd P c m0) (F : List Int)
    (hQ : ∀ m', zFr zS86 m0 m' → Q (if F.headD 0 = 1 then 1 else 0) m') :
    ∀ (n : Nat) (x : Int), 0 ≤ x → x + n = m0.1 (w + 2) (i + 1) → ∀ (m : zM) (T : List Bool) (st : List Int), zFr zS86 m0 m → zstk T st → T.length ≤ 32 → zsa (m.1 86) st → ztR 32 ((zseg (m0.1 (w + 1)) x n).map zxm) T [true] → zev (zval P c) ((zseg (m0.1 (w + 1)) x n).map zxm) st = F → zsum st ≤ 10000 * x →
      zV K mX7_isTrue (d + 3) 10 [(0, rr K 64), (1, rr K w), (2, .int (iz i)), (3, .int (iz (st.length : Int))), (4, .int (iz x))] [] m Q := by
  have hwr : w = 7 ∨ w = 26 ∨ w = 58 ∨ w = 73 := hw
  intro n
  induction n with
  | zero =>
    intro x hx0 hx m T st hF hk hlen hsa ht hev hsu
    have nf : ∀ a k, ¬ a = 86 → m.1 a k = m0.1 a k := fun a k z => hF.1 a k z
    have he : m.1 (w + 2) (i + 1) = m0.1 (w + 2) (i + 1) := nf _ _ (by omega)
    have hTe : T = [true] := ht
    subst hTe
    have hlen2 := zstk_len hk
    refine vc_X7_isTrue_10 i st.length x w m (inR_b (A := 10) (by omega) (by omega) rfl) (inR_b (A := 230) (by omega) (by omega) rfl) (inR_b (A := 230) (by omega) (by omega) rfl) hw (fun _ => ⟨by omega, by omega, fun _ => ?_, fun q => absurd (by omega) q⟩)
    have hst : st = F := hev
    subst hst
    cases st with
    | nil => cases hlen2
    | cons v r =>
      have hr : r = [] := by
        have h1 : (v :: r).length = 1 := hlen2
        simpa using h1
      subst hr
      have h0 : m.1 86 0 = v := hsa.1
      have hv := hk.1 rfl
      have hq := hQ m hF
      refine ⟨fun q => ?_, fun q => ?_⟩
      · have e : (if [v].headD 0 = 1 then (1 : Int) else 0) = 0 := if_neg (by show ¬ v = 1; omega)
        rw [e] at hq; exact hq
      · have e : (if [v].headD 0 = 1 then (1 : Int) else 0) = 1 := if_pos (by show v = 1; omega)
        rw [e] at hq; exact hq
  | succ n ih =>
    intro x hx0 hx m T st hF hk hlen hsa ht hev hsu
    have nf : ∀ a k, ¬ a = 86 → m.1 a k = m0.1 a k := fun a k z => hF.1 a k z
    have he : m.1 (w + 2) (i + 1) = m0.1 (w + 2) (i + 1) := nf _ _ (by omega)
    have hcode : m.1 (w + 1) x = m0.1 (w + 1) x := nf _ _ (by omega)
    have hXm := hX.kept hF
    have hlen2 := zstk_len hk
    obtain ⟨U, t1, t2, t3⟩ := ht
    generalize hs : m0.1 (w + 1) x = s at t1 hcode hev
    have hso := zstep_ok (env := zval P c) t1 hk (fun hv => zval_le hW hc hv)
    obtain ⟨k1, k2, k3⟩ := hso
    have hev2 : zev (zval P c) ((zseg (m0.1 (w + 1)) (x + 1) n).map zxm) (zstep (zval P c) st (zxm s)) = F := by
      have h0 : zev (zval P c) ((zseg (m0.1 (w + 1)) x (n + 1)).map zxm) st = F := by rw [← hev]
      have h1 : (zseg (m0.1 (w + 1)) x (n + 1)).map zxm = zxm (m0.1 (w + 1) x) :: (zseg (m0.1 (w + 1)) (x + 1) n).map zxm := rfl
      rw [h1, hs] at h0
      exact h0
    have hUl := zstk_len k1
    have ss : ∀ k, zS86 86 k := fun k => rfl
    have hs0 : 0 ≤ s := by
      rcases k3 with ⟨h7, -⟩ | ⟨hj, -⟩ | ⟨hv, -⟩
      · have := zxm_7 h7; omega
      · have := zxm_j hj; omega
      · have := zxm_v hv; omega
    have hsu9 : s / 1000 ≤ 12 := by
      rcases k3 with ⟨h7, -⟩ | ⟨hj, -⟩ | ⟨hv, -⟩
      · have := zxm_7 h7; omega
      · have := zxm_j hj; omega
      · have := zxm_v hv; omega
    have next : ∀ (m' : zM) (y : Int), zV K mX7_isTrue (d + 3) 10 [(0, rr K 64), (1, rr K w), (2, .int (iz i)), (3, .int (iz y)), (4, .int (iz (x + 1)))] [] m' Q → 0 ≤ y → y ≤ 32 → zV K mX7_isTrue (d + 3) 145 [(0, rr K 64), (1, rr K w), (2, .int (iz i)), (3, .int (iz y)), (4, .int (iz x))] [] m' Q := by
      intro m' y h a b
      exact vc_X7_isTrue_145 i y x w m' (inR_b (A := 10) (by omega) (by omega) rfl) (inR_b (A := 230) (by omega) (by omega) rfl) (inR_b (A := 230) (by omega) (by omega) rfl) hw (fun _ => h)
    refine vc_X7_isTrue_10 i st.length x w m (inR_b (A := 10) (by omega) (by omega) rfl) (inR_b (A := 230) (by omega) (by omega) rfl) (inR_b (A := 230) (by omega) (by omega) rfl) hw (fun _ => ⟨by omega, by omega, fun q => absurd q (by omega), fun _ => ⟨hx0, by omega, fun v7 e7 => ?_⟩⟩)
    rw [hcode] at e7 ⊢
    rw [Int.tdiv_eq_ediv_of_nonneg hs0] at e7
    rw [Int.tmod_eq_emod_of_nonneg hs0]
    subst e7
    rcases k3 with ⟨hc7, y, r, est, hy, enew⟩ | ⟨hj, y, z, r, est, hyz, enew⟩ | ⟨hv, h7, hnj, enew⟩
    · have h10 := zxm_7 hc7
      subst est
      rw [enew] at k1 k2 hev2 hUl
      have hl : ((y :: r).length : Int) - 1 = r.length := by simp
      have h86 : m.1 86 (r.length : Int) = y := hsa.1
      have hl1 : (y :: r).length ≤ 32 := by omega
      have hl2 : r.length + 1 ≤ 32 := by simpa using hl1
      have hl3 : ((y :: r).length : Int) = (r.length : Int) + 1 := by simp
      refine ⟨fun _ => ?_, fun q => absurd (by omega) q⟩
      refine vc_X7_isTrue_78 i _ x _ w m (inR_b (A := 10) (by omega) (by omega) rfl) (inR_b (A := 230) (by omega) (by omega) rfl) (inR_b (A := 230) (by omega) (by omega) rfl) (inR_b (A := 20) (by omega) (by omega) rfl) hw (fun _ => ⟨fun _ => ⟨fun q => absurd q (by omega), fun _ => ⟨by omega, by omega, by rw [hl, h86]; exact inR_b (A := 10) (by omega) (by omega) rfl, fun m30 e30 _ => ?_⟩⟩, fun q => absurd h10 q⟩)
      rw [hl, h86] at e30
      refine next m30 _ ?_ (by omega) (by omega)
      have hle : ((y :: r).length : Int) = (((1 - y) :: r).length : Int) := by simp
      rw [hle]
      refine ih (x + 1) (by omega) (by omega) m30 U _ (hF.put e30 (ss _)) k1 (by omega) ?_ t3 hev2 (by omega)
      rw [e30]
      exact ⟨sI_eq, zsa_congr (fun k a b => (sI_ne (Or.inr (by omega))).symm) hsa.2⟩
    · have hjr := zxm_j hj
      subst est
      rw [enew] at k1 k2 hev2 hUl
      have hl3 : ((y :: z :: r).length : Int) = (r.length : Int) + 2 := by simp; omega
      have hl : ((y :: z :: r).length : Int) + (-1) = (r.length : Int) + 1 := by omega
      have hl4 : ((y :: z :: r).length : Int) + (-1) - 1 = (r.length : Int) := by omega
      have hl1 : (y :: z :: r).length ≤ 32 := by omega
      have hl2 : r.length + 2 ≤ 32 := by simpa using hl1
      have ey : m.1 86 ((r.length : Int) + 1) = y := by
        have := hsa.1
        simpa using this
      have ez : m.1 86 (r.length : Int) = z := hsa.2.1
      have by1 := zsum_mem (st := y :: z :: r) (v := y) (by simp)
      have bz1 := zsum_mem (st := y :: z :: r) (v := z) (by simp)
      refine ⟨fun _ => ?_, fun q => absurd hjr.1 q⟩
      refine vc_X7_isTrue_78 i _ x _ w m (inR_b (A := 10) (by omega) (by omega) rfl) (inR_b (A := 230) (by omega) (by omega) rfl) (inR_b (A := 230) (by omega) (by omega) rfl) (inR_b (A := 20) (by omega) (by omega) rfl) hw (fun _ => ⟨fun q => absurd q hjr.2.2, fun _ => ?_⟩)
      refine vc_X7_isTrue_110 i _ x _ w m (inR_b (A := 10) (by omega) (by omega) rfl) (inR_b (A := 230) (by omega) (by omega) rfl) (inR_b (A := 230) (by omega) (by omega) rfl) (inR_b (A := 20) (by omega) (by omega) rfl) hw (fun _ => ⟨fun q => absurd q (by omega), fun _ => ⟨by omega, by omega, by omega, by omega, ?_⟩⟩)
      rw [hl4, hl, ey, ez]
      refine (c_X7_joined (d := d + 1) hj (inR_b (A := 2300000) (by omega) (by omega) rfl) (inR_b (A := 2300000) (by omega) (by omega) rfl) (inR_b (A := 4600000) (by omega) (by omega) rfl)).mono (fun r23 m24 h => ?_)
      obtain ⟨h1, h2⟩ := h
      intro _ _ m25 e25 _
      subst h2
      rw [h1] at e25
      refine next m25 _ ?_ (by omega) (by omega)
      have hle : (r.length : Int) + 1 = ((zjoin (zxm s) z y :: r).length : Int) := by simp
      rw [hle]
      refine ih (x + 1) (by omega) (by omega) m25 U _ (hF.put e25 (ss _)) k1 (by omega) ?_ t3 hev2 (by omega)
      rw [e25]
      exact ⟨sI_eq, zsa_congr (fun k a b => (sI_ne (Or.inr (by omega))).symm) hsa.2.2⟩
    · have hvr := zxm_v hv
      rw [enew] at k1 k2 hev2 hUl
      have hul : st.length + 1 ≤ 32 := by
        have : (zval P c (zxm s) :: st).length = U.length := hUl
        simp at this
        omega
      refine ⟨fun q => absurd q (by omega), fun _ => ⟨fun q => absurd q (by omega), fun _ => ?_⟩⟩
      refine (c_X7_valueOf (d := d) hW hc hXm hv).mono (fun r13 m14 h => ?_)
      obtain ⟨h1, h2⟩ := h
      subst h2
      intro _ _
      refine ⟨by omega, by omega, fun m17 e17 _ => ?_⟩
      rw [h1] at e17
      refine next m17 _ ?_ (by omega) (by omega)
      have hle : (st.length : Int) + 1 = ((zval P c (zxm s) :: st).length : Int) := by simp
      rw [hle]
      refine ih (x + 1) (by omega) (by omega) m17 U _ (hF.put e17 (ss _)) k1 (by omega) ?_ t3 hev2 (by omega)
      rw [e17]
      exact ⟨sI_eq, zsa_congr (fun k a b => (sI_ne (Or.inr (by omega))).symm) hsa⟩
/-- isTrue(wishes, wish) -/
theorem c_X7_isTrue {d : Nat} {w : Int} {i : Nat} (hw : zWi w) (hW : zWf P) (hc : 0 ≤ c ∧ c ≤ 8) (hWi : zWish P) (hi : (i : Int) < P 98 10) (hR : RW m0 w P) (hX : zXd P c m0) : zCt K (d + 3) mX7_isTrue [rr K 64, rr K w, .int (iz (i : Int))] m0 (fun r m1 => r = b2i (zhs P c i) ∧ zFr zS86 m0 m1) := by
  have hcn := hWi.1
  obtain ⟨h1, h2, h3, h4⟩ := hR
  obtain ⟨⟨b1, b2, b3⟩, b4, b5⟩ := h4 (i : Int) (by omega) hi
  refine zCt.of (by decide) (Nat.le_of_ble_eq_true rfl) (vc_X7_isTrue_0 (d := d) w i m0 hw (inR_b (A := 10) (by omega) (by omega) rfl) (fun _ => ⟨by omega, by omega, fun v3 e3 => ?_⟩))
  subst e3
  refine t_isTrue_10 hw hW hc ⟨by omega, by omega⟩ (by omega) hX (zev (zval P c) (zwX m0 w i) []) (fun m' h => ⟨?_, h⟩) (m0.1 (w + 2) ((i : Int) + 1) - m0.1 (w + 2) i).toNat (m0.1 (w + 2) i) b1 (by omega) m0 [] [] zFr.rf trivial (by decide) trivial b4 rfl (by show (0 : Int) ≤ _; omega)
  have : zhs P c i = zholds (zval P c) (zwX m0 w i) := (b5 (zval P c)).symm
  rw [this]
  unfold zholds
  by_cases hz : (zev (zval P c) (zwX m0 w i) []).headD 0 = 1
  · rw [if_pos hz, hz]; rfl
  · rw [if_neg hz]
    have : ((zev (zval P c) (zwX m0 w i) []).headD 0 == 1) = false := by simpa using hz
    rw [this]; rfl
end XH
