/-! ===== keep(), again(), table(): both sides ===== -/
section KEEP
variable {K : zCx} {d : Nat} {n : Int} {m : zM}
theorem c_X10_move1 {a p : Int} {c : Nat} {n1 : Nat} (ha : zsh a = some (0, n1)) (hne : a ≠ 129 ∧ a ≠ 98) (hc : c ≤ n1) (hp : m.1 98 58 = p) (h0 : 0 ≤ p) (h5 : p + c ≤ 500) : zCt K (d + 1) mX10_move [rr K 98, rr K a, .int (iz (c : Int)), .int (iz 1)] m (fun r m1 => r = 0 ∧ zFr (fun b k => (b = 98 ∧ k = 58) ∨ (b = 129 ∧ p ≤ k ∧ k < p + c)) m m1 ∧ m1.1 98 58 = p + c ∧ ∀ k, 0 ≤ k → k < (c : Int) → m1.1 129 (p + k) = m.1 a k) := by
  have ic : inR (c : Int) := inR_b (A := 1000) (by omega) (by omega) rfl
  have loop : ∀ (f k : Nat), k + f = c → ∀ m', zFr (fun b k => (b = 98 ∧ k = 58) ∨ (b = 129 ∧ p ≤ k ∧ k < p + c)) m m' → m'.1 98 58 = p + k → (∀ j, 0 ≤ j → j < (k : Int) → m'.1 129 (p + j) = m.1 a j) → zV K mX10_move (d + 1) 3 [(0, rr K 98), (1, rr K a), (2, .int (iz (c : Int))), (3, .int (iz 1)), (4, .int (iz (k : Int)))] [] m' (fun r m1 => r = 0 ∧ zFr (fun b k => (b = 98 ∧ k = 58) ∨ (b = 129 ∧ p ≤ k ∧ k < p + c)) m m1 ∧ m1.1 98 58 = p + c ∧ ∀ k, 0 ≤ k → k < (c : Int) → m1.1 129 (p + k) = m.1 a k) := by
    intro f
    induction f with
    | zero => exact fun k hk m' hF e hj => vc_X10_move_3 _ 1 _ a n1 m' ic (inRd rfl) (inR_b (A := 1000) (by omega) (by omega) rfl) ha (fun _ => ⟨fun _ => ⟨rfl, hF, by rw [e]; omega, fun j x y => hj j x (by omega)⟩, fun q => absurd (by omega) q⟩)
    | succ f ih =>
      intro k hk m' hF e hj
      refine vc_X10_move_3 _ 1 _ a n1 m' ic (inRd rfl) (inR_b (A := 1000) (by omega) (by omega) rfl) ha (fun _ => ⟨fun q => absurd q (by omega), fun _ => ⟨fun q => absurd q (by decide), fun _ => ⟨by omega, by omega, ?_⟩⟩⟩)
      rw [e]
      refine ⟨by omega, by omega, fun m16 e16 _ => ?_⟩
      have e58 : m16.1 98 58 = p + k := by rw [e16, sI_ne (by omega)]; exact e
      rw [e58]
      refine ⟨inR_b (A := 1000) (by omega) (by omega) rfl, fun m19 e19 _ => ih (k + 1) (by omega) m19 ((hF.put e16 (by omega)).put e19 (by omega)) (by rw [e19, sI_eq]; omega) (fun j x y => ?_)⟩
      rw [e19, sI_ne (by omega), e16, sI_at]
      by_cases z : j = k
      · rw [if_pos (by omega), z, hF.1 _ _ (by omega)]
      · rw [if_neg (by omega)]; exact hj j x (by omega)
  exact zCt.of (by decide) (Nat.le_of_ble_eq_true rfl) (vc_X10_move_0 (d := d) a n1 _ 1 m ha ic (inRd rfl) (fun _ => loop c 0 (by omega) m zFr.rf (by rw [hp]; show p = p + 0; omega) (fun j x y => absurd y (by omega))))
theorem c_X10_move0 {a p : Int} {c : Nat} {n1 : Nat} (ha : zsh a = some (0, n1)) (hne : a ≠ 129 ∧ a ≠ 98) (hc : c ≤ n1) (hp : m.1 98 58 = p) (h0 : 0 ≤ p) (h5 : p + c ≤ 500) : zCt K (d + 1) mX10_move [rr K 98, rr K a, .int (iz (c : Int)), .int (iz 0)] m (fun r m1 => r = 0 ∧ zFr (fun b k => (b = 98 ∧ k = 58) ∨ (b = a ∧ 0 ≤ k ∧ k < c)) m m1 ∧ m1.1 98 58 = p + c ∧ ∀ k, 0 ≤ k → k < (c : Int) → m1.1 a k = m.1 129 (p + k)) := by
  have ic : inR (c : Int) := inR_b (A := 1000) (by omega) (by omega) rfl
  have loop : ∀ (f k : Nat), k + f = c → ∀ m', zFr (fun b k => (b = 98 ∧ k = 58) ∨ (b = a ∧ 0 ≤ k ∧ k < c)) m m' → m'.1 98 58 = p + k → (∀ j, 0 ≤ j → j < (k : Int) → m'.1 a j = m.1 129 (p + j)) → zV K mX10_move (d + 1) 3 [(0, rr K 98), (1, rr K a), (2, .int (iz (c : Int))), (3, .int (iz 0)), (4, .int (iz (k : Int)))] [] m' (fun r m1 => r = 0 ∧ zFr (fun b k => (b = 98 ∧ k = 58) ∨ (b = a ∧ 0 ≤ k ∧ k < c)) m m1 ∧ m1.1 98 58 = p + c ∧ ∀ k, 0 ≤ k → k < (c : Int) → m1.1 a k = m.1 129 (p + k)) := by
    intro f
    induction f with
    | zero => exact fun k hk m' hF e hj => vc_X10_move_3 _ 0 _ a n1 m' ic (inRd rfl) (inR_b (A := 1000) (by omega) (by omega) rfl) ha (fun _ => ⟨fun _ => ⟨rfl, hF, by rw [e]; omega, fun j x y => hj j x (by omega)⟩, fun q => absurd (by omega) q⟩)
    | succ f ih =>
      intro k hk m' hF e hj
      refine vc_X10_move_3 _ 0 _ a n1 m' ic (inRd rfl) (inR_b (A := 1000) (by omega) (by omega) rfl) ha (fun _ => ⟨fun q => absurd q (by omega), fun _ => ⟨fun _ => ?_, fun q => absurd rfl q⟩⟩)
      rw [e]
      refine ⟨by omega, by omega, by omega, by omega, fun m7 e7 _ => ?_⟩
      have e58 : m7.1 98 58 = p + k := by rw [e7, sI_ne (by omega)]; exact e
      rw [e58]
      refine ⟨inR_b (A := 1000) (by omega) (by omega) rfl, fun m10 e10 _ => ih (k + 1) (by omega) m10 ((hF.put e7 (by omega)).put e10 (by omega)) (by rw [e10, sI_eq]; omega) (fun j x y => ?_)⟩
      rw [e10, sI_ne (by omega), e7, sI_at]
      by_cases z : j = k
      · rw [if_pos (by omega), z, hF.1 _ _ (by omega)]
      · rw [if_neg (by omega)]; exact hj j x (by omega)
  exact zCt.of (by decide) (Nat.le_of_ble_eq_true rfl) (vc_X10_move_0 (d := d) a n1 _ 0 m ha ic (inRd rfl) (fun _ => loop c 0 (by omega) m zFr.rf (by rw [hp]; show p = p + 0; omega) (fun j x y => absurd y (by omega))))
def zSK (a k : Int) : Prop := (a = 98 ∧ k = 58) ∨ a = 129 ∨ a = 130
theorem c_X10_moveAll1 : zCt K (d + 2) mX10_moveAll [rr K 98, .int (iz 1)] m (fun r m1 => r = 0 ∧ zFr zSK m m1 ∧ zSame m.1 (zKp m1.1)) := by
  refine zCt.of (by decide) (Nat.le_of_ble_eq_true rfl) (vc_X10_moveAll_0 (d := d) 1 m (inRd rfl) (fun _ m1 e1 _ m3 e3 _ m5 e5 _ m7 e7 _ m9 e9 _ m11 e11 _ m13 e13 _ => ?_))
  have f13 : zFr (fun a k => (a = 98 ∧ k = 58) ∨ a = 130) m m13 := ((((((zFr.rf.put e1 (by omega)).put e3 (by omega)).put e5 (by omega)).put e7 (by omega)).put e9 (by omega)).put e11 (by omega)).put e13 (by omega)
  have p13 : m13.1 98 58 = 0 := by rw [e13, sI_ne (by omega), e11, sI_ne (by omega), e9, sI_ne (by omega), e7, sI_ne (by omega), e5, sI_ne (by omega), e3, sI_ne (by omega), e1, sI_eq]
  have g : ∀ (k : Int), 0 ≤ k ∧ k ≤ 17 → m1.1 98 k = m.1 98 k ∧ m3.1 98 k = m.1 98 k ∧ m5.1 98 k = m.1 98 k ∧ m7.1 98 k = m.1 98 k ∧ m9.1 98 k = m.1 98 k ∧ m11.1 98 k = m.1 98 k := by
    intro k hk
    have a1 : m1.1 98 k = m.1 98 k := by rw [e1, sI_ne (by omega)]
    have a3 : m3.1 98 k = m.1 98 k := by rw [e3, sI_ne (by omega)]; exact a1
    have a5 : m5.1 98 k = m.1 98 k := by rw [e5, sI_ne (by omega)]; exact a3
    have a7 : m7.1 98 k = m.1 98 k := by rw [e7, sI_ne (by omega)]; exact a5
    have a9 : m9.1 98 k = m.1 98 k := by rw [e9, sI_ne (by omega)]; exact a7
    have a11 : m11.1 98 k = m.1 98 k := by rw [e11, sI_ne (by omega)]; exact a9
    exact ⟨a1, a3, a5, a7, a9, a11⟩
  have q0 : m13.1 130 0 = m.1 98 0 := by rw [e13, sI_ne (by omega), e11, sI_ne (by omega), e9, sI_ne (by omega), e7, sI_ne (by omega), e5, sI_ne (by omega), e3, sI_eq]; exact (g 0 (by omega)).1
  have q1 : m13.1 130 1 = m.1 98 1 := by rw [e13, sI_ne (by omega), e11, sI_ne (by omega), e9, sI_ne (by omega), e7, sI_ne (by omega), e5, sI_eq]; exact (g 1 (by omega)).2.1
  have q2 : m13.1 130 2 = m.1 98 2 := by rw [e13, sI_ne (by omega), e11, sI_ne (by omega), e9, sI_ne (by omega), e7, sI_eq]; exact (g 2 (by omega)).2.2.1
  have q3 : m13.1 130 3 = m.1 98 4 := by rw [e13, sI_ne (by omega), e11, sI_ne (by omega), e9, sI_eq]; exact (g 4 (by omega)).2.2.2.1
  have q4 : m13.1 130 4 = m.1 98 7 := by rw [e13, sI_ne (by omega), e11, sI_eq]; exact (g 7 (by omega)).2.2.2.2.1
  have q5 : m13.1 130 5 = m.1 98 10 := by rw [e13, sI_eq]; exact (g 10 (by omega)).2.2.2.2.2
  refine (c_X10_move1 (d := d) (a := 130) (c := 6) (n1 := 6) rfl (by omega) (by omega) p13 (by omega) (by omega)).mono (fun r16 m16 h => ?_)
  obtain ⟨-, f16, p16, v16⟩ := h
  intro _ _
  refine (c_X10_move1 (d := d) (a := 99) (c := 84) (n1 := 84) rfl (by omega) (by omega) p16 (by omega) (by omega)).mono (fun r18 m18 h => ?_)
  obtain ⟨-, f18, p18, v18⟩ := h
  intro _ _
  refine (c_X10_move1 (d := d) (a := 100) (c := 100) (n1 := 100) rfl (by omega) (by omega) p18 (by omega) (by omega)).mono (fun r20 m20 h => ?_)
  obtain ⟨-, f20, p20, v20⟩ := h
  intro _ _
  refine (c_X10_move1 (d := d) (a := 101) (c := 20) (n1 := 20) rfl (by omega) (by omega) p20 (by omega) (by omega)).mono (fun r22 m22 h => ?_)
  obtain ⟨-, f22, p22, v22⟩ := h
  intro _ _
  refine (c_X10_move1 (d := d) (a := 102) (c := 12) (n1 := 12) rfl (by omega) (by omega) p22 (by omega) (by omega)).mono (fun r24 m24 h => ?_)
  obtain ⟨-, f24, p24, v24⟩ := h
  intro _ _
  refine (c_X10_move1 (d := d) (a := 103) (c := 3) (n1 := 3) rfl (by omega) (by omega) p24 (by omega) (by omega)).mono (fun r26 m26 h => ?_)
  obtain ⟨-, f26, p26, v26⟩ := h
  intro _ _
  refine (c_X10_move1 (d := d) (a := 104) (c := 8) (n1 := 8) rfl (by omega) (by omega) p26 (by omega) (by omega)).mono (fun r28 m28 h => ?_)
  obtain ⟨-, f28, p28, v28⟩ := h
  intro _ _
  refine (c_X10_move1 (d := d) (a := 105) (c := 230) (n1 := 230) rfl (by omega) (by omega) p28 (by omega) (by omega)).mono (fun r30 m30 h => ?_)
  obtain ⟨-, f30, p30, v30⟩ := h
  intro _ _
  have s30 : ∀ k, k < 233 → m30.1 129 k = m28.1 129 k := fun k hk => f30.1 _ _ (by omega)
  have s28 : ∀ k, k < 225 → m28.1 129 k = m26.1 129 k := fun k hk => f28.1 _ _ (by omega)
  have s26 : ∀ k, k < 222 → m26.1 129 k = m24.1 129 k := fun k hk => f26.1 _ _ (by omega)
  have s24 : ∀ k, k < 210 → m24.1 129 k = m22.1 129 k := fun k hk => f24.1 _ _ (by omega)
  have s22 : ∀ k, k < 190 → m22.1 129 k = m20.1 129 k := fun k hk => f22.1 _ _ (by omega)
  have s20 : ∀ k, k < 90 → m20.1 129 k = m18.1 129 k := fun k hk => f20.1 _ _ (by omega)
  have s18 : ∀ k, k < 6 → m18.1 129 k = m16.1 129 k := fun k hk => f18.1 _ _ (by omega)
  have t16 : ∀ a k, ¬ (a = 98 ∧ k = 58) → ¬ a = 129 → ¬ a = 130 → m16.1 a k = m.1 a k := fun a k x y z => by rw [f16.1 a k (by omega), f13.1 a k (by omega)]
  have t18 : ∀ a k, ¬ (a = 98 ∧ k = 58) → ¬ a = 129 → ¬ a = 130 → m18.1 a k = m.1 a k := fun a k x y z => by rw [f18.1 a k (by omega)]; exact t16 a k x y z
  have t20 : ∀ a k, ¬ (a = 98 ∧ k = 58) → ¬ a = 129 → ¬ a = 130 → m20.1 a k = m.1 a k := fun a k x y z => by rw [f20.1 a k (by omega)]; exact t18 a k x y z
  have t22 : ∀ a k, ¬ (a = 98 ∧ k = 58) → ¬ a = 129 → ¬ a = 130 → m22.1 a k = m.1 a k := fun a k x y z => by rw [f22.1 a k (by omega)]; exact t20 a k x y z
  have t24 : ∀ a k, ¬ (a = 98 ∧ k = 58) → ¬ a = 129 → ¬ a = 130 → m24.1 a k = m.1 a k := fun a k x y z => by rw [f24.1 a k (by omega)]; exact t22 a k x y z
  have t26 : ∀ a k, ¬ (a = 98 ∧ k = 58) → ¬ a = 129 → ¬ a = 130 → m26.1 a k = m.1 a k := fun a k x y z => by rw [f26.1 a k (by omega)]; exact t24 a k x y z
  have t28 : ∀ a k, ¬ (a = 98 ∧ k = 58) → ¬ a = 129 → ¬ a = 130 → m28.1 a k = m.1 a k := fun a k x y z => by rw [f28.1 a k (by omega)]; exact t26 a k x y z
  refine ⟨rfl, ((((((((f13.mono ?_).tr (f16.mono ?_)).tr (f18.mono ?_)).tr (f20.mono ?_)).tr (f22.mono ?_)).tr (f24.mono ?_)).tr (f26.mono ?_)).tr (f28.mono ?_)).tr (f30.mono ?_), fun a k hk => ?_⟩
  · intro a k q; unfold zSK; omega
  · intro a k q; unfold zSK; omega
  · intro a k q; unfold zSK; omega
  · intro a k q; unfold zSK; omega
  · intro a k q; unfold zSK; omega
  · intro a k q; unfold zSK; omega
  · intro a k q; unfold zSK; omega
  · intro a k q; unfold zSK; omega
  · intro a k q; unfold zSK; omega
  · have low : ∀ k, 0 ≤ k → k < 6 → m30.1 129 k = m13.1 130 k := fun k x y => by
      rw [s30 k (by omega), s28 k (by omega), s26 k (by omega), s24 k (by omega), s22 k (by omega), s20 k (by omega), s18 k (by omega)]
      have := v16 k x (by omega)
      rw [Int.zero_add] at this
      exact this
    rcases hk with ⟨rfl, hk⟩ | ⟨rfl, x, y⟩ | ⟨rfl, x, y⟩ | ⟨rfl, x, y⟩ | ⟨rfl, x, y⟩ | ⟨rfl, x, y⟩ | ⟨rfl, x, y⟩ | ⟨rfl, x, y⟩
    · rcases hk with rfl | rfl | rfl | rfl | rfl | rfl
      · show m30.1 129 0 = _; rw [low 0 (by omega) (by omega)]; exact q0
      · show m30.1 129 1 = _; rw [low 1 (by omega) (by omega)]; exact q1
      · show m30.1 129 2 = _; rw [low 2 (by omega) (by omega)]; exact q2
      · show m30.1 129 3 = _; rw [low 3 (by omega) (by omega)]; exact q3
      · show m30.1 129 4 = _; rw [low 4 (by omega) (by omega)]; exact q4
      · show m30.1 129 5 = _; rw [low 5 (by omega) (by omega)]; exact q5
    · show m30.1 129 (6 + k) = _
      rw [s30 _ (by omega), s28 _ (by omega), s26 _ (by omega), s24 _ (by omega), s22 _ (by omega), s20 _ (by omega)]
      have := v18 k x (by omega)
      rw [show (0 + ((6 : Nat) : Int)) + k = 6 + k by omega] at this
      rw [this]; exact t16 99 k (by omega) (by omega) (by omega)
    · show m30.1 129 (90 + k) = _
      rw [s30 _ (by omega), s28 _ (by omega), s26 _ (by omega), s24 _ (by omega), s22 _ (by omega)]
      have := v20 k x (by omega)
      rw [show (0 + ((6 : Nat) : Int) + ((84 : Nat) : Int)) + k = 90 + k by omega] at this
      rw [this]; exact t18 100 k (by omega) (by omega) (by omega)
    · show m30.1 129 (190 + k) = _
      rw [s30 _ (by omega), s28 _ (by omega), s26 _ (by omega), s24 _ (by omega)]
      have := v22 k x (by omega)
      rw [show (0 + ((6 : Nat) : Int) + ((84 : Nat) : Int) + ((100 : Nat) : Int)) + k = 190 + k by omega] at this
      rw [this]; exact t20 101 k (by omega) (by omega) (by omega)
    · show m30.1 129 (210 + k) = _
      rw [s30 _ (by omega), s28 _ (by omega), s26 _ (by omega)]
      have := v24 k x (by omega)
      rw [show (0 + ((6 : Nat) : Int) + ((84 : Nat) : Int) + ((100 : Nat) : Int) + ((20 : Nat) : Int)) + k = 210 + k by omega] at this
      rw [this]; exact t22 102 k (by omega) (by omega) (by omega)
    · show m30.1 129 (222 + k) = _
      rw [s30 _ (by omega), s28 _ (by omega)]
      have := v26 k x (by omega)
      rw [show (0 + ((6 : Nat) : Int) + ((84 : Nat) : Int) + ((100 : Nat) : Int) + ((20 : Nat) : Int) + ((12 : Nat) : Int)) + k = 222 + k by omega] at this
      rw [this]; exact t24 103 k (by omega) (by omega) (by omega)
    · show m30.1 129 (225 + k) = _
      rw [s30 _ (by omega)]
      have := v28 k x (by omega)
      rw [show (0 + ((6 : Nat) : Int) + ((84 : Nat) : Int) + ((100 : Nat) : Int) + ((20 : Nat) : Int) + ((12 : Nat) : Int) + ((3 : Nat) : Int)) + k = 225 + k by omega] at this
      rw [this]; exact t26 104 k (by omega) (by omega) (by omega)
    · show m30.1 129 (233 + k) = _
      have := v30 k x (by omega)
      rw [show (0 + ((6 : Nat) : Int) + ((84 : Nat) : Int) + ((100 : Nat) : Int) + ((20 : Nat) : Int) + ((12 : Nat) : Int) + ((3 : Nat) : Int) + ((8 : Nat) : Int)) + k = 233 + k by omega] at this
      rw [this]; exact t28 105 k (by omega) (by omega) (by omega)
def zSA (a k : Int) : Prop := (a = 98 ∧ k = 58) ∨ a = 130 ∨ (99 ≤ a ∧ a ≤ 105)
theorem c_X10_moveAll0 : zCt K (d + 2) mX10_moveAll [rr K 98, .int (iz 0)] m (fun r m1 => r = 0 ∧ zFr zSA m m1 ∧ (∀ k, 0 ≤ k → k < 6 → m1.1 130 k = m.1 129 k) ∧ ∀ a k, zIn a k → a ≠ 98 → m1.1 a k = zKp m.1 a k) := by
  refine zCt.of (by decide) (Nat.le_of_ble_eq_true rfl) (vc_X10_moveAll_0 (d := d) 0 m (inRd rfl) (fun _ m1 e1 _ m3 e3 _ m5 e5 _ m7 e7 _ m9 e9 _ m11 e11 _ m13 e13 _ => ?_))
  have f13 : zFr (fun a k => (a = 98 ∧ k = 58) ∨ a = 130) m m13 := ((((((zFr.rf.put e1 (by omega)).put e3 (by omega)).put e5 (by omega)).put e7 (by omega)).put e9 (by omega)).put e11 (by omega)).put e13 (by omega)
  have p13 : m13.1 98 58 = 0 := by rw [e13, sI_ne (by omega), e11, sI_ne (by omega), e9, sI_ne (by omega), e7, sI_ne (by omega), e5, sI_ne (by omega), e3, sI_ne (by omega), e1, sI_eq]
  refine (c_X10_move0 (d := d) (a := 130) (c := 6) (n1 := 6) rfl (by omega) (by omega) p13 (by omega) (by omega)).mono (fun r16 m16 h => ?_)
  obtain ⟨-, f16, p16, v16⟩ := h
  intro _ _
  refine (c_X10_move0 (d := d) (a := 99) (c := 84) (n1 := 84) rfl (by omega) (by omega) p16 (by omega) (by omega)).mono (fun r18 m18 h => ?_)
  obtain ⟨-, f18, p18, v18⟩ := h
  intro _ _
  refine (c_X10_move0 (d := d) (a := 100) (c := 100) (n1 := 100) rfl (by omega) (by omega) p18 (by omega) (by omega)).mono (fun r20 m20 h => ?_)
  obtain ⟨-, f20, p20, v20⟩ := h
  intro _ _
  refine (c_X10_move0 (d := d) (a := 101) (c := 20) (n1 := 20) rfl (by omega) (by omega) p20 (by omega) (by omega)).mono (fun r22 m22 h => ?_)
  obtain ⟨-, f22, p22, v22⟩ := h
  intro _ _
  refine (c_X10_move0 (d := d) (a := 102) (c := 12) (n1 := 12) rfl (by omega) (by omega) p22 (by omega) (by omega)).mono (fun r24 m24 h => ?_)
  obtain ⟨-, f24, p24, v24⟩ := h
  intro _ _
  refine (c_X10_move0 (d := d) (a := 103) (c := 3) (n1 := 3) rfl (by omega) (by omega) p24 (by omega) (by omega)).mono (fun r26 m26 h => ?_)
  obtain ⟨-, f26, p26, v26⟩ := h
  intro _ _
  refine (c_X10_move0 (d := d) (a := 104) (c := 8) (n1 := 8) rfl (by omega) (by omega) p26 (by omega) (by omega)).mono (fun r28 m28 h => ?_)
  obtain ⟨-, f28, p28, v28⟩ := h
  intro _ _
  refine (c_X10_move0 (d := d) (a := 105) (c := 230) (n1 := 230) rfl (by omega) (by omega) p28 (by omega) (by omega)).mono (fun r30 m30 h => ?_)
  obtain ⟨-, f30, p30, v30⟩ := h
  intro _ _
  have t13 : ∀ k, m13.1 129 k = m.1 129 k := fun k => f13.1 _ _ (by omega)
  have t16 : ∀ k, m16.1 129 k = m.1 129 k := fun k => by rw [f16.1 _ _ (by omega)]; exact t13 k
  have t18 : ∀ k, m18.1 129 k = m.1 129 k := fun k => by rw [f18.1 _ _ (by omega)]; exact t16 k
  have t20 : ∀ k, m20.1 129 k = m.1 129 k := fun k => by rw [f20.1 _ _ (by omega)]; exact t18 k
  have t22 : ∀ k, m22.1 129 k = m.1 129 k := fun k => by rw [f22.1 _ _ (by omega)]; exact t20 k
  have t24 : ∀ k, m24.1 129 k = m.1 129 k := fun k => by rw [f24.1 _ _ (by omega)]; exact t22 k
  have t26 : ∀ k, m26.1 129 k = m.1 129 k := fun k => by rw [f26.1 _ _ (by omega)]; exact t24 k
  have t28 : ∀ k, m28.1 129 k = m.1 129 k := fun k => by rw [f28.1 _ _ (by omega)]; exact t26 k
  have s30 : ∀ a k, ¬ a = 98 → ¬ a = 105 → m30.1 a k = m28.1 a k := fun a k x y => f30.1 _ _ (by omega)
  have s28 : ∀ a k, ¬ a = 98 → ¬ a = 104 → m28.1 a k = m26.1 a k := fun a k x y => f28.1 _ _ (by omega)
  have s26 : ∀ a k, ¬ a = 98 → ¬ a = 103 → m26.1 a k = m24.1 a k := fun a k x y => f26.1 _ _ (by omega)
  have s24 : ∀ a k, ¬ a = 98 → ¬ a = 102 → m24.1 a k = m22.1 a k := fun a k x y => f24.1 _ _ (by omega)
  have s22 : ∀ a k, ¬ a = 98 → ¬ a = 101 → m22.1 a k = m20.1 a k := fun a k x y => f22.1 _ _ (by omega)
  have s20 : ∀ a k, ¬ a = 98 → ¬ a = 100 → m20.1 a k = m18.1 a k := fun a k x y => f20.1 _ _ (by omega)
  have s18 : ∀ a k, ¬ a = 98 → ¬ a = 99 → m18.1 a k = m16.1 a k := fun a k x y => f18.1 _ _ (by omega)
  refine ⟨rfl, ((((((((f13.mono ?_).tr (f16.mono ?_)).tr (f18.mono ?_)).tr (f20.mono ?_)).tr (f22.mono ?_)).tr (f24.mono ?_)).tr (f26.mono ?_)).tr (f28.mono ?_)).tr (f30.mono ?_), fun k x y => ?_, fun a k hk hne => ?_⟩
  · intro a k q; unfold zSA; omega
  · intro a k q; unfold zSA; omega
  · intro a k q; unfold zSA; omega
  · intro a k q; unfold zSA; omega
  · intro a k q; unfold zSA; omega
  · intro a k q; unfold zSA; omega
  · intro a k q; unfold zSA; omega
  · intro a k q; unfold zSA; omega
  · intro a k q; unfold zSA; omega
  · rw [s30 _ _ (by omega) (by omega), s28 _ _ (by omega) (by omega), s26 _ _ (by omega) (by omega), s24 _ _ (by omega) (by omega), s22 _ _ (by omega) (by omega), s20 _ _ (by omega) (by omega), s18 _ _ (by omega) (by omega), v16 k x (by omega), Int.zero_add]
    exact t13 k
  · rcases hk with ⟨rfl, hk⟩ | ⟨rfl, x, y⟩ | ⟨rfl, x, y⟩ | ⟨rfl, x, y⟩ | ⟨rfl, x, y⟩ | ⟨rfl, x, y⟩ | ⟨rfl, x, y⟩ | ⟨rfl, x, y⟩
    · exact absurd rfl hne
    · show _ = m.1 129 (6 + k)
      rw [s30 _ _ (by omega) (by omega), s28 _ _ (by omega) (by omega), s26 _ _ (by omega) (by omega), s24 _ _ (by omega) (by omega), s22 _ _ (by omega) (by omega), s20 _ _ (by omega) (by omega), v18 k x (by omega), t16, show (0 + ((6 : Nat) : Int)) + k = 6 + k by omega]
    · show _ = m.1 129 (90 + k)
      rw [s30 _ _ (by omega) (by omega), s28 _ _ (by omega) (by omega), s26 _ _ (by omega) (by omega), s24 _ _ (by omega) (by omega), s22 _ _ (by omega) (by omega), v20 k x (by omega), t18, show (0 + ((6 : Nat) : Int) + ((84 : Nat) : Int)) + k = 90 + k by omega]
    · show _ = m.1 129 (190 + k)
      rw [s30 _ _ (by omega) (by omega), s28 _ _ (by omega) (by omega), s26 _ _ (by omega) (by omega), s24 _ _ (by omega) (by omega), v22 k x (by omega), t20, show (0 + ((6 : Nat) : Int) + ((84 : Nat) : Int) + ((100 : Nat) : Int)) + k = 190 + k by omega]
    · show _ = m.1 129 (210 + k)
      rw [s30 _ _ (by omega) (by omega), s28 _ _ (by omega) (by omega), s26 _ _ (by omega) (by omega), v24 k x (by omega), t22, show (0 + ((6 : Nat) : Int) + ((84 : Nat) : Int) + ((100 : Nat) : Int) + ((20 : Nat) : Int)) + k = 210 + k by omega]
    · show _ = m.1 129 (222 + k)
      rw [s30 _ _ (by omega) (by omega), s28 _ _ (by omega) (by omega), v26 k x (by omega), t24, show (0 + ((6 : Nat) : Int) + ((84 : Nat) : Int) + ((100 : Nat) : Int) + ((20 : Nat) : Int) + ((12 : Nat) : Int)) + k = 222 + k by omega]
    · show _ = m.1 129 (225 + k)
      rw [s30 _ _ (by omega) (by omega), v28 k x (by omega), t26, show (0 + ((6 : Nat) : Int) + ((84 : Nat) : Int) + ((100 : Nat) : Int) + ((20 : Nat) : Int) + ((12 : Nat) : Int) + ((3 : Nat) : Int)) + k = 225 + k by omega]
    · show _ = m.1 129 (233 + k)
      rw [v30 k x (by omega), t28, show (0 + ((6 : Nat) : Int) + ((84 : Nat) : Int) + ((100 : Nat) : Int) + ((20 : Nat) : Int) + ((12 : Nat) : Int) + ((3 : Nat) : Int) + ((8 : Nat) : Int)) + k = 233 + k by omega]
theorem pv_same (f : F2) : zSame (pv f) f := fun a k h => (pv_at (by unfold zIn at h; omega)).symm
theorem zSame.good {P P' : F2} (h : zSame P P') (hG : zGoodP P) : zGoodP P' := ⟨h.wf hG.1, h.wi hG.2.1, by rw [h.oc hG.1]; exact hG.2.2⟩
theorem o_keep (h : zInv n m) : zOk K (d + 12) mX9_keep mX10_keep [] n m := by
  obtain ⟨⟨hG, hR⟩, h2, h3, h4, h5, h6, h7⟩ := id h
  refine zCt.of (by decide) (Nat.le_of_ble_eq_true rfl) (vc_X9_keep_0 (d := d + 8) m (fun _ => ?_))
  refine (c_X4_copyFrom (d := d + 8) (Or.inr (Or.inl rfl)) (Or.inl rfl) (by decide) hG.1 hG.2.1 hR).mono (fun r1 m2 q => ?_)
  obtain ⟨-, f2, hR2⟩ := q
  intro _ _ m3 e3 _
  have f3 : zFr (fun a k => (20 ≤ a ∧ a ≤ 38) ∨ (a = 0 ∧ k = 11)) m m3 := (f2.mono (fun a k q => by omega)).put e3 (by omega)
  have hR3 : RQ m3 20 (pv m.1) := hR2.kept hG.1 (fun a k x y => by rw [e3, sI_ne (by omega)])
  refine zCt.of (by decide) (Nat.le_of_ble_eq_true rfl) (vc_X10_keep_0 (d := d + 9) m3 (fun _ => ?_))
  refine (c_X10_moveAll1 (d := d + 9)).mono (fun r4 m4 q => ?_)
  obtain ⟨-, f4, hS⟩ := q
  intro _ _ m5 e5 _
  have nn : ∀ a k, ¬ ((20 ≤ a ∧ a ≤ 38) ∨ (a = 0 ∧ k = 11) ∨ (a = 98 ∧ (k = 58 ∨ k = 56)) ∨ a = 129 ∨ a = 130) → m5.1 a k = m.1 a k := fun a k q => by rw [e5, sI_ne (by omega), f4.1 a k (by unfold zSK; omega), f3.1 a k (by omega)]
  have nL : ∀ a k, m5.2.1 a k = m.2.1 a k := fun a k => by rw [e5]; show m4.2.1 a k = _; rw [f4.2, f3.2]
  have ep : pv m5.1 = pv m.1 := pv_eq (fun a k q => nn a k (by omega))
  have hS5 : zSame (pv m.1) (zKp m5.1) := by
    have hk : zKp m5.1 = zKp m4.1 := zKp_k (fun k => by rw [e5, sI_ne (by omega)])
    rw [hk]
    have e3p : zSame (pv m.1) m3.1 := fun a k q => by rw [f3.1 a k (by unfold zIn at q; omega)]; exact pv_same m.1 a k q
    exact e3p.tr hS
  refine ⟨rfl, ⟨by rw [ep]; exact hG, ?_⟩, ⟨h2.1.k (fun t => nn _ _ (by omega)) (nn _ _ (by omega)), by rw [nn _ _ (by omega)]; have := h2.2; omega⟩, ⟨?_, Or.inr ⟨by rw [e5, sI_eq], hS5.good hG, hS5.rq hG.1 hG.2.1 ?_⟩⟩, h4.k (fun a k q => nn a k (by omega)), h5.k (fun a k q => nn a k (by omega)), h6.k (fun a k q => nn a k (by omega)) (fun k => nL _ _), h7.k (fun a k q => nn a k (by omega))⟩
  · rw [ep]; exact hR.kept hG.1 (fun a k x y => nn a k (by omega))
  · rw [e5, sI_ne (by omega), sI_eq, f4.1 _ _ (by unfold zSK; omega), e3, sI_eq]
  · exact hR3.kept hG.1 (fun a k x y => by rw [e5, sI_ne (by omega), f4.1 a k (by unfold zSK; omega)])
theorem o_again (h : zInv n m) : zOk K (d + 12) mX9_again mX10_again [] n m := by
  obtain ⟨⟨hG, hR⟩, h2, h3, h4, h5, h6, h7⟩ := id h
  rcases h3.2 with h0 | ⟨h1, hGk, hRk⟩
  · refine zOk.no (F := -3) h ?_ (fun m1 e f => ?_)
    · exact zCt.of (by decide) (Nat.le_of_ble_eq_true rfl) (vc_X9_again_0 (d := d + 8) m (fun _ => ⟨fun _ => ⟨rfl, rfl⟩, fun q => absurd (by rw [h3.1]; exact h0) q⟩))
    · exact zCt.of (by decide) (Nat.le_of_ble_eq_true rfl) (vc_X10_again_0 (d := d + 9) m1 (fun _ => ⟨fun _ => ⟨rfl, rfl⟩, fun q => absurd (by rw [f.1 _ _ (by unfold zPn; omega)]; exact h0) q⟩))
  · refine zCt.of (by decide) (Nat.le_of_ble_eq_true rfl) (vc_X9_again_0 (d := d + 8) m (fun _ => ⟨fun q => absurd q (by rw [h3.1]; omega), fun _ => ?_⟩))
    refine (c_X4_copyFrom (d := d + 8) (Or.inl rfl) (Or.inr (Or.inl rfl)) (by decide) hGk.1 hGk.2.1 hRk).mono (fun r1 m2 q => ?_)
    obtain ⟨-, f2, hR2⟩ := q
    intro _ _
    have n2 : ∀ a k, ¬ (1 ≤ a ∧ a ≤ 19) → m2.1 a k = m.1 a k := fun a k q => f2.1 a k (by omega)
    refine zCt.of (by decide) (Nat.le_of_ble_eq_true rfl) (vc_X10_again_0 (d := d + 9) m2 (fun _ => ⟨fun q => absurd q (by rw [n2 _ _ (by omega)]; omega), fun _ => ?_⟩))
    refine (c_X10_moveAll0 (d := d + 9)).mono (fun r3 m3 q => ?_)
    obtain ⟨-, f3, c3, v3⟩ := q
    intro _ _ m4 e4 _ m6 e6 _ m8 e8 _ m10 e10 _ m12 e12 _ m14 e14 _
    have n14 : ∀ a k, ¬ (a = 98 ∧ (k = 0 ∨ k = 1 ∨ k = 2 ∨ k = 4 ∨ k = 7 ∨ k = 10)) → m14.1 a k = m3.1 a k := fun a k q => by rw [e14, sI_ne (by omega), e12, sI_ne (by omega), e10, sI_ne (by omega), e8, sI_ne (by omega), e6, sI_ne (by omega), e4, sI_ne (by omega)]
    have nn : ∀ a k, ¬ ((1 ≤ a ∧ a ≤ 19) ∨ (a = 98 ∧ (k = 0 ∨ k = 1 ∨ k = 2 ∨ k = 4 ∨ k = 7 ∨ k = 10 ∨ k = 58)) ∨ a = 130 ∨ (99 ≤ a ∧ a ≤ 105)) → m14.1 a k = m.1 a k := fun a k q => by rw [n14 a k (by omega), f3.1 a k (by unfold zSA; omega), n2 a k (by omega)]
    have nL : ∀ a k, m14.2.1 a k = m.2.1 a k := fun a k => by rw [e14, e12, e10, e8, e6, e4]; show m3.2.1 a k = _; rw [f3.2, f2.2]
    have c130 : ∀ k, m14.1 130 k = m3.1 130 k := fun k => n14 130 k (by omega)
    have g0 : m14.1 98 0 = m.1 129 0 := by rw [e14, sI_ne (by omega), e12, sI_ne (by omega), e10, sI_ne (by omega), e8, sI_ne (by omega), e6, sI_ne (by omega), e4, sI_eq, c3 0 (by omega) (by omega), n2 _ _ (by omega)]
    have g1 : m14.1 98 1 = m.1 129 1 := by rw [e14, sI_ne (by omega), e12, sI_ne (by omega), e10, sI_ne (by omega), e8, sI_ne (by omega), e6, sI_eq, e4, sI_ne (by omega), c3 1 (by omega) (by omega), n2 _ _ (by omega)]
    have g2 : m14.1 98 2 = m.1 129 2 := by rw [e14, sI_ne (by omega), e12, sI_ne (by omega), e10, sI_ne (by omega), e8, sI_eq, e6, sI_ne (by omega), e4, sI_ne (by omega), c3 2 (by omega) (by omega), n2 _ _ (by omega)]
    have g4 : m14.1 98 4 = m.1 129 3 := by rw [e14, sI_ne (by omega), e12, sI_ne (by omega), e10, sI_eq, e8, sI_ne (by omega), e6, sI_ne (by omega), e4, sI_ne (by omega), c3 3 (by omega) (by omega), n2 _ _ (by omega)]
    have g7 : m14.1 98 7 = m.1 129 4 := by rw [e14, sI_ne (by omega), e12, sI_eq, e10, sI_ne (by omega), e8, sI_ne (by omega), e6, sI_ne (by omega), e4, sI_ne (by omega), c3 4 (by omega) (by omega), n2 _ _ (by omega)]
    have g10 : m14.1 98 10 = m.1 129 5 := by rw [e14, sI_eq, e12, sI_ne (by omega), e10, sI_ne (by omega), e8, sI_ne (by omega), e6, sI_ne (by omega), e4, sI_ne (by omega), c3 5 (by omega) (by omega), n2 _ _ (by omega)]
    have hk2 : zKp m2.1 = zKp m.1 := zKp_k (fun k => n2 _ _ (by omega))
    have hS : zSame (zKp m.1) (pv m14.1) := by
      intro a k q
      rw [pv_at (by unfold zIn at q; omega)]
      by_cases z : a = 98
      · subst z
        have hk : k = 0 ∨ k = 1 ∨ k = 2 ∨ k = 4 ∨ k = 7 ∨ k = 10 := by unfold zIn at q; omega
        rcases hk with rfl | rfl | rfl | rfl | rfl | rfl
        · exact g0
        · exact g1
        · exact g2
        · exact g4
        · exact g7
        · exact g10
      · rw [n14 a k (by omega), v3 a k q z, hk2]
    have hR14 : RQ m14 1 (zKp m.1) := hR2.kept hGk.1 (fun a k x y => by rw [n14 a k (by omega), f3.1 a k (by unfold zSA; omega)])
    have hkk : zKp m14.1 = zKp m.1 := zKp_k (fun k => nn _ _ (by omega))
    refine ⟨rfl, ⟨hS.good hGk, hS.rq hGk.1 hGk.2.1 hR14⟩, ⟨h2.1.k (fun t => nn _ _ (by omega)) (nn _ _ (by omega)), by rw [nn _ _ (by omega)]; have := h2.2; omega⟩, h3.k (fun a k q => nn a k (by omega)), h4.k (fun a k q => nn a k (by omega)), h5.k (fun a k q => nn a k (by omega)), h6.k (fun a k q => nn a k (by omega)) (fun k => nL _ _), h7.k (fun a k q => nn a k (by omega))⟩
end KEEP
