/-! ===== the state of both, between two calls ===== -/
/-- the numbers of a plan that count -/
def zIn (a k : Int) : Prop := (a = 98 ∧ (k = 0 ∨ k = 1 ∨ k = 2 ∨ k = 4 ∨ k = 7 ∨ k = 10)) ∨ (a = 99 ∧ 0 ≤ k ∧ k < 84) ∨ (a = 100 ∧ 0 ≤ k ∧ k < 100) ∨ (a = 101 ∧ 0 ≤ k ∧ k < 20) ∨ (a = 102 ∧ 0 ≤ k ∧ k < 12) ∨ (a = 103 ∧ 0 ≤ k ∧ k < 3) ∨ (a = 104 ∧ 0 ≤ k ∧ k < 8) ∨ (a = 105 ∧ 0 ≤ k ∧ k < 230)
def zSame (P P' : F2) : Prop := ∀ a k, zIn a k → P' a k = P a k
section SA
variable {P P' : F2}
theorem zSame.sy (h : zSame P P') : zSame P' P := fun a k q => (h a k q).symm
theorem zSame.tr {P'' : F2} (h : zSame P P') (h2 : zSame P' P'') : zSame P P'' := fun a k q => (h2 a k q).trans (h a k q)
theorem zSame.f (h : zSame P P') {k : Int} (hk : k = 0 ∨ k = 1 ∨ k = 2 ∨ k = 4 ∨ k = 7 ∨ k = 10) : P' 98 k = P 98 k := h 98 k (Or.inl ⟨rfl, hk⟩)
theorem zSame.pz (h : zSame P P') {p k : Int} (hp : 0 ≤ p ∧ p < 10) (hk : 0 ≤ k ∧ k < 10) : zp P' p k = zp P p k := h 100 _ (by unfold zIn; omega)
theorem zSame.o (h : zSame P P') {k : Int} (hk : 0 ≤ k ∧ k < 20) : P' 101 k = P 101 k := h 101 k (by unfold zIn; omega)
theorem zSame.wf (h : zSame P P') (hW : zWf P) : zWf P' := by
  obtain ⟨h1, h2, h3, h4, h5, h6, h7, h8, h9, h10⟩ := hW
  have e0 := h.f (k := 0) (by omega)
  have e1 := h.f (k := 1) (by omega)
  have e2 := h.f (k := 2) (by omega)
  have e4 := h.f (k := 4) (by omega)
  have e7 := h.f (k := 7) (by omega)
  refine ⟨by rw [e0]; exact h1, by rw [e1]; exact h2, by rw [e2]; exact h3, by rw [e4]; exact h4, by rw [e7]; exact h5, fun i a b => ?_, fun p a b => ?_, fun p a b => ?_, fun k a b => ?_, fun i a b => ?_⟩
  · rw [e2] at b; rw [h 99 i (by unfold zIn; omega)]; exact h6 i a b
  · rw [e4] at b
    have e : ∀ k, 0 ≤ k ∧ k < 10 → zp P' p k = zp P p k := fun k hk => h.pz ⟨a, by omega⟩ hk
    unfold zPartOk
    rw [e 0 (by omega), e 1 (by omega), e 2 (by omega), e 3 (by omega), e 4 (by omega), e 5 (by omega), e 6 (by omega), e 7 (by omega), e 8 (by omega), e 9 (by omega), e2]
    exact h7 p a b
  · rw [e4] at b; unfold zOpenOk; rw [h.o (by omega), h.o (by omega)]; exact h8 p a b
  · rw [e7] at b; rw [e4, h 102 _ (by unfold zIn; omega), h 102 _ (by unfold zIn; omega)]; exact h9 k a b
  · rw [h 103 i (by unfold zIn; omega)]; exact h10 i a b
theorem zSame.wb (h : zSame P P') {i : Int} (hi : 0 ≤ i ∧ i < 8) : zwb P' i = zwb P i := by
  unfold zwb
  split
  · rfl
  · exact h 104 _ (by unfold zIn; omega)
theorem zSame.wM (h : zSame P P') {i : Int} (hi : 0 ≤ i ∧ i < 8) (hb : 0 ≤ zwb P i ∧ zwb P i ≤ P 104 i ∧ P 104 i ≤ 230) : zwM P' i = zwM P i := by
  unfold zwM
  rw [h.wb hi, h 104 i (by unfold zIn; omega)]
  exact zseg_congr (fun k a b => h 105 k (by unfold zIn; omega))
theorem zSame.wi (h : zSame P P') (hWi : zWish P) : zWish P' := by
  obtain ⟨h1, h2⟩ := hWi
  have e := h.f (k := 10) (by omega)
  refine ⟨by rw [e]; exact h1, fun i a b => ?_⟩
  rw [e] at b
  obtain ⟨q1, q2⟩ := h2 i a b
  rw [h.wb ⟨a, by omega⟩, h 104 i (by unfold zIn; omega), h.wM ⟨a, by omega⟩ q1]
  exact ⟨q1, q2⟩
theorem zSame.oN (h : zSame P P') : ∀ k : Nat, k ≤ 10 → zoN P' k = zoN P k := by
  intro k
  induction k with
  | zero => exact fun _ => rfl
  | succ k ih => intro hk; rw [zoN_s, zoN_s, ih (by omega), h.o (by omega)]
theorem zSame.oc (h : zSame P P') (hW : zWf P) : zoc P' = zoc P := by
  unfold zoc
  rw [h.f (k := 4) (by omega)]
  exact h.oN _ (by have := hW.2.2.2.1; omega)
theorem zSame.rp {m : zM} {pl : Int} (h : zSame P P') (hW : zWf P) (hR : RP m pl P) : RP m pl P' := by
  obtain ⟨h1, h2, h3, h4, h5, h6, h7, h8, h9, h10⟩ := hR
  have e0 := h.f (k := 0) (by omega)
  have e1 := h.f (k := 1) (by omega)
  have e2 := h.f (k := 2) (by omega)
  have e4 := h.f (k := 4) (by omega)
  have e7 := h.f (k := 7) (by omega)
  have w4 := hW.2.2.2.1
  have w2 := hW.2.2.1
  have w7 := hW.2.2.2.2.1
  refine ⟨by rw [e0]; exact h1, by rw [e1]; exact h2, by rw [e2]; exact h3, by rw [e4]; exact h4, by rw [e7]; exact h5, fun i a b => ?_, fun p k a b c d => ?_, fun p a b => ?_, fun k a b => ?_, fun i a b => ?_⟩
  · rw [e2] at b; rw [h 99 i (by unfold zIn; omega)]; exact h6 i a b
  · rw [e4] at b; rw [h.pz (by omega) (by omega)]; exact h7 p k a b c d
  · rw [e4] at b; rw [h.o (by omega), h.o (by omega)]; exact h8 p a b
  · rw [e7] at b; rw [h 102 _ (by unfold zIn; omega), h 102 _ (by unfold zIn; omega)]; exact h9 k a b
  · rw [h 103 i (by unfold zIn; omega)]; exact h10 i a b
theorem zSame.rq {m : zM} {pl : Int} (h : zSame P P') (hW : zWf P) (hWi : zWish P) (hR : RQ m pl P) : RQ m pl P' := by
  refine ⟨h.rp hW hR.1, ?_⟩
  obtain ⟨r1, r2, r3, r4⟩ := hR.2
  have e := h.f (k := 10) (by omega)
  have hw := hWi.1
  refine ⟨by rw [e]; exact r1, r2, r3, fun i a b => ?_⟩
  rw [e] at b
  obtain ⟨q1, q2, q3⟩ := r4 i a b
  refine ⟨q1, q2, ?_⟩
  rw [h.wM ⟨a, by omega⟩ (hWi.2 i a b).1]
  exact q3
end SA
/-- the plan that the reference has kept -/
def zKp (f : F2) : F2 := fun a k => if a = 98 then (if k = 0 then f 129 0 else if k = 1 then f 129 1 else if k = 2 then f 129 2 else if k = 4 then f 129 3 else if k = 7 then f 129 4 else if k = 10 then f 129 5 else 0) else if a = 99 then f 129 (6 + k) else if a = 100 then f 129 (90 + k) else if a = 101 then f 129 (190 + k) else if a = 102 then f 129 (210 + k) else if a = 103 then f 129 (222 + k) else if a = 104 then f 129 (225 + k) else if a = 105 then f 129 (233 + k) else 0
theorem zKp_k {f g : F2} (h : ∀ k, g 129 k = f 129 k) : zKp g = zKp f := by
  funext a k
  unfold zKp
  rw [h, h, h, h, h, h, h, h, h, h, h, h, h]
def zGoodP (P : F2) : Prop := zWf P ∧ zWish P ∧ zoc P ≤ 4
def zIP (m : zM) : Prop := zGoodP (pv m.1) ∧ RQ m 1 (pv m.1)
def zIC (n : Int) (m : zM) : Prop := zCame m ∧ m.1 98 18 ≤ 20000 * n
def zIK (m : zM) : Prop := m.1 0 11 = m.1 98 56 ∧ (m.1 98 56 = 0 ∨ (m.1 98 56 = 1 ∧ zGoodP (zKp m.1) ∧ RQ m 20 (zKp m.1)))
def zIR (m : zM) : Prop := m.1 0 10 = m.1 98 42 ∧ (0 ≤ m.1 98 42 ∧ m.1 98 42 ≤ 4) ∧ ∀ j, 0 ≤ j → j < m.1 98 42 → m.1 96 j = m.1 120 (2 * j) ∧ m.1 97 j = m.1 120 (2 * j + 1)
def zIT (m : zM) : Prop := m.1 56 2 = m.1 98 23 ∧ (0 ≤ m.1 98 23 ∧ m.1 98 23 ≤ 220) ∧ (∀ i, 0 ≤ i → i < m.1 98 23 → m.1 57 i = m.1 111 i ∧ 0 ≤ m.1 111 i ∧ m.1 111 i ≤ 255) ∧ m.1 60 0 = 0
def zIHs (m : zM) (s : Int) : Prop := (m.1 88 s = m.1 122 s ∧ -1 ≤ m.1 122 s ∧ m.1 122 s ≤ 3) ∧ (m.1 89 s = m.1 123 s ∧ 0 ≤ m.1 123 s ∧ m.1 123 s ≤ 40)
def zIHh (m : zM) (s : Int) : Prop := (m.1 125 s = -1 ∧ m.1 91 s = -1 ∧ m.1 92 s = -1) ∨ (m.1 125 s = 0 ∧ m.1 91 s = m.1 126 s ∧ 0 ≤ m.1 91 s ∧ m.1 92 s = -1) ∨ (m.1 125 s = 1 ∧ m.1 91 s = -1 ∧ m.1 92 s = m.1 126 s ∧ (0 ≤ m.1 92 s ∧ m.1 92 s ≤ 3) ∧ m.1 93 s = m.1 127 s)
def zIH (m : zM) : Prop := (∀ s, 0 ≤ s → s < 4 → zIHs m s) ∧ (∀ i, 0 ≤ i → i < 160 → m.2.1 124 i = (iz (m.1 90 i)).toInt64) ∧ ∀ s, 0 ≤ s → s < 4 → zIHh m s
def zIA (m : zM) : Prop := m.1 94 1 = m.1 98 54 ∧ (0 ≤ m.1 98 54 ∧ m.1 98 54 ≤ 30) ∧ ∀ i, 0 ≤ i → i < m.1 98 54 → m.1 95 i = m.1 128 i
def zInv (n : Int) (m : zM) : Prop := zIP m ∧ zIC n m ∧ zIK m ∧ zIR m ∧ zIT m ∧ zIH m ∧ zIA m
section IV
variable {n : Int} {m m' : zM}
theorem zIK.k (h : zIK m) (hf : ∀ a k, ((a = 0 ∧ k = 11) ∨ (a = 98 ∧ k = 56) ∨ a = 129 ∨ (20 ≤ a ∧ a ≤ 38)) → m'.1 a k = m.1 a k) : zIK m' := by
  have e : zKp m'.1 = zKp m.1 := zKp_k (fun k => hf _ _ (by omega))
  refine ⟨by rw [hf _ _ (by omega), hf _ _ (by omega)]; exact h.1, ?_⟩
  rw [hf _ _ (by omega), e]
  rcases h.2 with h0 | ⟨h1, h2, h3⟩
  · exact Or.inl h0
  · exact Or.inr ⟨h1, h2, h3.kept h2.1 (fun a k x y => hf a k (by omega))⟩
theorem zIR.k (h : zIR m) (hf : ∀ a k, ((a = 0 ∧ k = 10) ∨ (a = 98 ∧ k = 42) ∨ a = 96 ∨ a = 97 ∨ a = 120) → m'.1 a k = m.1 a k) : zIR m' := by
  refine ⟨by rw [hf _ _ (by omega), hf _ _ (by omega)]; exact h.1, by rw [hf _ _ (by omega)]; exact h.2.1, fun j a b => ?_⟩
  rw [hf 98 42 (by omega)] at b
  rw [hf _ _ (by omega), hf _ _ (by omega), hf _ _ (by omega), hf _ _ (by omega)]
  exact h.2.2 j a b
theorem zIT.k (h : zIT m) (hf : ∀ a k, ((a = 56 ∧ k = 2) ∨ (a = 98 ∧ k = 23) ∨ a = 57 ∨ a = 111 ∨ (a = 60 ∧ k = 0)) → m'.1 a k = m.1 a k) : zIT m' := by
  refine ⟨by rw [hf _ _ (by omega), hf _ _ (by omega)]; exact h.1, by rw [hf _ _ (by omega)]; exact h.2.1, fun j a b => ?_, by rw [hf _ _ (by omega)]; exact h.2.2.2⟩
  rw [hf 98 23 (by omega)] at b
  rw [hf _ _ (by omega), hf _ _ (by omega)]
  exact h.2.2.1 j a b
theorem zIH.k (h : zIH m) (hf : ∀ a k, ((88 ≤ a ∧ a ≤ 93) ∨ a = 122 ∨ a = 123 ∨ (125 ≤ a ∧ a ≤ 127)) → m'.1 a k = m.1 a k) (hl : ∀ k, m'.2.1 124 k = m.2.1 124 k) : zIH m' := by
  refine ⟨fun s a b => ?_, fun i a b => by rw [hl, hf _ _ (by omega)]; exact h.2.1 i a b, fun s a b => ?_⟩
  · unfold zIHs
    rw [hf 88 _ (by omega), hf 122 _ (by omega), hf 89 _ (by omega), hf 123 _ (by omega)]
    exact h.1 s a b
  · unfold zIHh
    rw [hf 125 _ (by omega), hf 91 _ (by omega), hf 92 _ (by omega), hf 126 _ (by omega), hf 93 _ (by omega), hf 127 _ (by omega)]
    exact h.2.2 s a b
theorem zIA.k (h : zIA m) (hf : ∀ a k, ((a = 94 ∧ k = 1) ∨ (a = 98 ∧ k = 54) ∨ a = 95 ∨ a = 128) → m'.1 a k = m.1 a k) : zIA m' := by
  refine ⟨by rw [hf _ _ (by omega), hf _ _ (by omega)]; exact h.1, by rw [hf _ _ (by omega)]; exact h.2.1, fun j a b => ?_⟩
  rw [hf 98 54 (by omega)] at b
  rw [hf _ _ (by omega), hf _ _ (by omega)]
  exact h.2.2 j a b
/-- what a call that alters the plan, or only asks, may touch -/
def zU (a k : Int) : Prop := zXX a k ∨ (1 ≤ a ∧ a ≤ 19) ∨ zSd a k ∨ (a = 98 ∧ 0 ≤ k ∧ k ≤ 17) ∨ (99 ≤ a ∧ a ≤ 105)
theorem zInv.plan (h : zInv n m) (f : zFl zU m m') (hG : zGoodP (pv m'.1)) (hR : RQ m' 1 (pv m'.1)) (hC : zCame m') (hB : m'.1 98 18 ≤ m.1 98 18 + 20000) : zInv (n + 1) m' := by
  obtain ⟨-, h2, h3, h4, h5, h6, h7⟩ := h
  refine ⟨⟨hG, hR⟩, ⟨hC, by have := h2.2; omega⟩, h3.k (fun a k q => f.1 a k ?_), h4.k (fun a k q => f.1 a k ?_), h5.k (fun a k q => f.1 a k ?_), h6.k (fun a k q => f.1 a k ?_) (fun k => f.2 124 k ?_), h7.k (fun a k q => f.1 a k ?_)⟩ <;> (unfold zU zXX zSd zSc; omega)
theorem zInv.query {N : Int} {m1 m2 : zM} (h : zInv n m) (f : zFl zXX m m1) (g : zGd N m1 m2) (hN : N ≤ 20000) : zInv (n + 1) m2 := by
  obtain ⟨⟨hG, hR⟩, h2, -⟩ := id h
  have e1 : pv m1.1 = pv m.1 := pv_eq (fun a k q => f.1 a k (by unfold zXX; omega))
  have e2 : pv m2.1 = pv m.1 := g.pv.trans e1
  have hf : zFl zU m m2 := (f.mono (fun a k q => Or.inl q)).tr (g.1.l.mono (fun a k q => Or.inr (Or.inr (Or.inl q))))
  refine h.plan hf (by rw [e2]; exact hG) ?_ g.2.1 ?_
  · rw [e2]
    exact (hR.xx hG.1 (Or.inl rfl) f).kept hG.1 (fun a k x y => g.1.1 a k (by unfold zSd zSc; omega))
  · have := g.2.2
    rw [f.1 98 18 (by unfold zXX; omega)] at this
    omega
end IV
/-- a call on both sides -/
def zOk (K : zCx) (d : Nat) (x y : zMi) (as : List Value) (n : Int) (m : zM) : Prop := zCt K d x (rr K 0 :: as) m (fun r m1 => zCt K d y (rr K 98 :: as) m1 (fun r' m2 => r' = r ∧ zInv (n + 1) m2))
theorem zOk.q {K : zCx} {d : Nat} {x y : zMi} {as : List Value} {n N F : Int} {m : zM} (h : zInv n m) (hn : 0 ≤ n ∧ n ≤ 100) (hN : N ≤ 20000) (h9 : zCt K d x (rr K 0 :: as) m (fun r m1 => r = F ∧ zFl zXX m m1))
    (h10 : ∀ m1, zFl zXX m m1 → pv m1.1 = pv m.1 → zCame m1 → m1.1 98 18 ≤ 1000000000 → zCt K d y (rr K 98 :: as) m1 (fun r m2 => r = F ∧ zGd N m1 m2)) : zOk K d x y as n m := by
  refine h9.mono (fun r m1 hr => ?_)
  obtain ⟨hr, f⟩ := hr
  have e1 : pv m1.1 = pv m.1 := pv_eq (fun a k q => f.1 a k (by unfold zXX; omega))
  have e18 : m1.1 98 18 = m.1 98 18 := f.1 98 18 (by unfold zXX; omega)
  have hc := h.2.1
  refine (h10 m1 f e1 (hc.1.k (fun t => f.1 109 t (by unfold zXX; omega)) e18) (by rw [e18]; have := hc.2; omega)).mono (fun r' m2 hr' => ⟨by rw [hr, hr'.1], h.query f hr'.2 hN⟩)
