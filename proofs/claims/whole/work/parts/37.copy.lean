/-! ===== the class: copies of parts, wishes, plans ===== -/
theorem sC_at {m : zM} {sa sp da dp n b j : Int} : (sC m sa sp da dp n).1 b j = if b = da ∧ dp ≤ j ∧ j < dp + n then m.1 sa (sp + (j - dp)) else m.1 b j := rfl
theorem sC_in {m : zM} {sa da n j : Int} (h0 : 0 ≤ j) (h1 : j < n) : (sC m sa 0 da 0 n).1 da j = m.1 sa j := by
  rw [sC_at, if_pos ⟨rfl, by omega, by omega⟩, show (0 : Int) + (j - 0) = j by omega]
theorem sC_ne {m : zM} {sa sp da dp n b j : Int} (h : b ≠ da) : (sC m sa sp da dp n).1 b j = m.1 b j := by rw [sC_at, if_neg (fun z => h z.1)]
theorem zFr.cp {S : Int → Int → Prop} {m m1 m2 : zM} {sa sp da dp n : Int} (h : zFr S m m1) (e : m2 = sC m1 sa sp da dp n) (hs : ∀ k, S da k) : zFr S m m2 := by
  rw [e]
  refine h.tr ⟨fun b j q => ?_, rfl⟩
  rw [sC_ne]
  intro z
  rw [z] at q
  exact q (hs j)
section XC
variable {K : zCx} {P : F2} {m0 : zM}
theorem c_X3_copyFrom {d : Nat} {q q1 : Int} (hq : zsh q = some (6, 12)) (hq1 : zsh q1 = some (6, 12)) (hne : q1 ≠ q) : zCt K (d + 1) mX3_copyFrom [rr K q, rr K q1] m0 (fun r m1 => r = 0 ∧ zFr (fun a _ => a = q) m0 m1 ∧ ∀ k, 0 ≤ k → k < 12 → m1.1 q k = m0.1 q1 k) := by
  refine zCt.of (by decide) (Nat.le_of_ble_eq_true rfl) (vc_X3_copyFrom_0 (d := d) q q1 m0 hq hq1 (fun _ m1 e1 _ m3 e3 _ m5 e5 _ m7 e7 _ m9 e9 _ m11 e11 _ m13 e13 _ m15 e15 _ m17 e17 _ m19 e19 _ m21 e21 _ m23 e23 _ => ⟨rfl, ?_, fun k h0 h1 => ?_⟩))
  · exact (((((((((((zFr.rf.put e1 rfl).put e3 rfl).put e5 rfl).put e7 rfl).put e9 rfl).put e11 rfl).put e13 rfl).put e15 rfl).put e17 rfl).put e19 rfl).put e21 rfl).put e23 rfl
  · have hk : k = 0 ∨ k = 1 ∨ k = 2 ∨ k = 3 ∨ k = 4 ∨ k = 5 ∨ k = 6 ∨ k = 7 ∨ k = 8 ∨ k = 9 ∨ k = 10 ∨ k = 11 := by omega
    have n1 : ∀ j, m1.1 q1 j = m0.1 q1 j := fun j => by rw [e1, sI_ne (Or.inl hne)]
    have n3 : ∀ j, m3.1 q1 j = m0.1 q1 j := fun j => by rw [e3, sI_ne (Or.inl hne), n1]
    have n5 : ∀ j, m5.1 q1 j = m0.1 q1 j := fun j => by rw [e5, sI_ne (Or.inl hne), n3]
    have n7 : ∀ j, m7.1 q1 j = m0.1 q1 j := fun j => by rw [e7, sI_ne (Or.inl hne), n5]
    have n9 : ∀ j, m9.1 q1 j = m0.1 q1 j := fun j => by rw [e9, sI_ne (Or.inl hne), n7]
    have n11 : ∀ j, m11.1 q1 j = m0.1 q1 j := fun j => by rw [e11, sI_ne (Or.inl hne), n9]
    have n13 : ∀ j, m13.1 q1 j = m0.1 q1 j := fun j => by rw [e13, sI_ne (Or.inl hne), n11]
    have n15 : ∀ j, m15.1 q1 j = m0.1 q1 j := fun j => by rw [e15, sI_ne (Or.inl hne), n13]
    have n17 : ∀ j, m17.1 q1 j = m0.1 q1 j := fun j => by rw [e17, sI_ne (Or.inl hne), n15]
    have n19 : ∀ j, m19.1 q1 j = m0.1 q1 j := fun j => by rw [e19, sI_ne (Or.inl hne), n17]
    have n21 : ∀ j, m21.1 q1 j = m0.1 q1 j := fun j => by rw [e21, sI_ne (Or.inl hne), n19]
    rw [n1] at e3; rw [n3] at e5; rw [n5] at e7; rw [n7] at e9; rw [n9] at e11; rw [n11] at e13; rw [n13] at e15; rw [n15] at e17; rw [n17] at e19; rw [n19] at e21; rw [n21] at e23
    rw [e23, sI_at, e21, sI_at, e19, sI_at, e17, sI_at, e15, sI_at, e13, sI_at, e11, sI_at, e9, sI_at, e7, sI_at, e5, sI_at, e3, sI_at, e1, sI_at]
    rcases hk with rfl | rfl | rfl | rfl | rfl | rfl | rfl | rfl | rfl | rfl | rfl | rfl <;> simp
theorem c_X8_copyFrom {d : Nat} {w w1 : Int} (hw : zWi w) (hw1 : zWi w1) (hne : w ≠ w1) (hWi : zWish P) (hR : RW m0 w1 P) : zCt K (d + 1) mX8_copyFrom [rr K w, rr K w1] m0 (fun r m1 => r = 0 ∧ zFr (fun a _ => w ≤ a ∧ a ≤ w + 2) m0 m1 ∧ RW m1 w P) := by
  have hcn := hWi.1
  have hwr : w = 7 ∨ w = 26 ∨ w = 58 ∨ w = 73 := hw
  have hwr1 : w1 = 7 ∨ w1 = 26 ∨ w1 = 58 ∨ w1 = 73 := hw1
  obtain ⟨r1, r2, r3, r4⟩ := hR
  refine zCt.of (by decide) (Nat.le_of_ble_eq_true rfl) (vc_X8_copyFrom_0 (d := d) w w1 m0 hw hw1 (fun _ m1 e1 _ m3 e3 _ => ?_))
  have a3 : m3.1 w 3 = m0.1 w1 3 := by rw [e3, sI_eq, e1, sI_ne (Or.inl (by omega))]
  have a2 : m3.1 w 2 = m0.1 w1 2 := by rw [e3, sI_ne (Or.inr (by omega)), e1, sI_eq]
  have o3 : ∀ a k, ¬ a = w → m3.1 a k = m0.1 a k := fun a k z => by rw [e3, sI_ne (Or.inl z), e1, sI_ne (Or.inl z)]
  rw [a3]
  refine ⟨by omega, by omega, r2.1, by omega, by omega, fun m10 e10 _ => ?_⟩
  have b2 : m10.1 w 2 = m0.1 w1 2 := by rw [e10, sC_ne (by omega)]; exact a2
  rw [b2, r1]
  refine ⟨inR_b (A := 10) (by omega) (by omega) rfl, by omega, by omega, by omega, by omega, by omega, fun m18 e18 _ => ?_⟩
  have s18 : ∀ k, 0 ≤ k → k < m0.1 w1 3 → m18.1 (w + 1) k = m0.1 (w1 + 1) k := fun k x y => by
    rw [e18, sC_ne (by omega), e10, sC_in x y, o3 _ _ (by omega)]
  have g18 : ∀ k, 0 ≤ k → k < P 98 10 + 1 → m18.1 (w + 2) k = m0.1 (w1 + 2) k := fun k x y => by
    rw [e18, sC_in x y, e10, sC_ne (by omega), o3 _ _ (by omega)]
  have c2 : m18.1 w 2 = P 98 10 := by rw [e18, sC_ne (by omega), b2]; exact r1
  have c3 : m18.1 w 3 = m0.1 w1 3 := by rw [e18, sC_ne (by omega), e10, sC_ne (by omega)]; exact a3
  refine ⟨rfl, (((zFr.rf.put e1 ⟨by omega, by omega⟩).put e3 ⟨by omega, by omega⟩).cp e10 (fun k => ⟨by omega, by omega⟩)).cp e18 (fun k => ⟨by omega, by omega⟩), c2, by rw [c3]; exact r2, by rw [g18 0 (by omega) (by omega)]; exact r3, fun i x y => ?_⟩
  obtain ⟨⟨q1, q2, q3⟩, q4, q5⟩ := r4 i x y
  rw [g18 i x (by omega), g18 (i + 1) (by omega) (by omega), c3]
  have e : zwX m18 w i = zwX m0 w1 i := by
    unfold zwX
    rw [g18 i x (by omega), g18 (i + 1) (by omega) (by omega), zseg_congr (g := m0.1 (w1 + 1)) (fun k a b => s18 k (by omega) (by omega))]
  rw [e]
  exact ⟨⟨q1, q2, q3⟩, q4, q5⟩
theorem t_copyParts_10 {d : Nat} {Q : Int → zM → Prop} {pl pl1 : Int} (hpl : zPl pl) (hpl1 : zPl pl1) (hne : pl ≠ pl1) {N : Int} (hN : 0 ≤ N ∧ N ≤ 10) (h6 : m0.1 pl 6 = N)
    (hQ : ∀ m', zFr (fun a _ => pl + 9 ≤ a ∧ a ≤ pl + 18) m0 m' → (∀ p k, 0 ≤ p → p < N → 0 ≤ k → k < 12 → m'.1 (pl + 9 + p) k = m0.1 (pl1 + 9 + p) k) → Q 0 m') :
    ∀ (n : Nat) (k : Int), 0 ≤ k → k + n = N → ∀ m : zM, zFr (fun a _ => pl + 9 ≤ a ∧ a ≤ pl + 18) m0 m → (∀ p j, 0 ≤ p → p < k → 0 ≤ j → j < 12 → m.1 (pl + 9 + p) j = m0.1 (pl1 + 9 + p) j) →
      zV K mX4_copyParts (d + 2) 10 [(0, rr K pl), (1, rr K pl1), (2, .int (iz k))] [] m Q := by
  have hr := zPl_r hpl
  have hr1 := zPl_r hpl1
  intro n
  induction n with
  | zero =>
    intro k k0 hk m hF hp
    have e6 : m.1 pl 6 = N := by rw [hF.1 _ _ (by omega)]; exact h6
    refine vc_X4_copyParts_10 k pl pl1 m (inR_b (A := 10) (by omega) (by omega) rfl) hpl hpl1 (fun _ => ⟨fun _ => hQ m hF (fun p j a b c e => hp p j a (by omega) c e), fun q => absurd (by omega) q⟩)
  | succ n ih =>
    intro k k0 hk m hF hp
    have e6 : m.1 pl 6 = N := by rw [hF.1 _ _ (by omega)]; exact h6
    refine vc_X4_copyParts_10 k pl pl1 m (inR_b (A := 10) (by omega) (by omega) rfl) hpl hpl1 (fun _ => ⟨fun q => absurd q (by omega), fun _ => ⟨k0, by omega, ?_⟩⟩)
    refine (c_X3_copyFrom (d := d) (zPl_sp hpl k0 (by omega)) (zPl_sp hpl1 k0 (by omega)) (by omega)).mono (fun _ m5 h => ?_)
    obtain ⟨-, hf, hc⟩ := h
    intro _ _
    have n5 : ∀ a j, ¬ a = pl + 9 + k → m5.1 a j = m.1 a j := fun a j z => hf.1 a j z
    refine ih (k + 1) (by omega) (by omega) m5 (hF.tr (hf.mono (fun a j z => ⟨by omega, by omega⟩))) (fun p j a b c e => ?_)
    by_cases hpk : p = k
    · subst hpk
      rw [hc j c e, hF.1 _ _ (by omega)]
    · rw [n5 _ _ (by omega)]
      exact hp p j a (by omega) c e
/-- copyParts(other) -/
theorem c_X4_copyParts {d : Nat} {pl pl1 : Int} (hpl : zPl pl) (hpl1 : zPl pl1) (hne : pl ≠ pl1) (hN : 0 ≤ m0.1 pl1 6 ∧ m0.1 pl1 6 ≤ 10) : zCt K (d + 2) mX4_copyParts [rr K pl, rr K pl1] m0 (fun r m1 => r = 0 ∧ zFr (fun a k => (a = pl ∧ k = 6) ∨ (pl + 9 ≤ a ∧ a ≤ pl + 18)) m0 m1 ∧ m1.1 pl 6 = m0.1 pl1 6 ∧ ∀ p k, 0 ≤ p → p < m0.1 pl1 6 → 0 ≤ k → k < 12 → m1.1 (pl + 9 + p) k = m0.1 (pl1 + 9 + p) k) := by
  have hr := zPl_r hpl
  have hr1 := zPl_r hpl1
  refine zCt.of (by decide) (Nat.le_of_ble_eq_true rfl) (vc_X4_copyParts_0 (d := d) pl pl1 m0 hpl hpl1 (fun _ m1 e1 _ => ?_))
  refine t_copyParts_10 (m0 := m1) (N := m0.1 pl1 6) hpl hpl1 hne hN (by rw [e1, sI_eq]) (fun m' h1 h2 => ⟨rfl, (zFr.rf.put e1 (Or.inl ⟨rfl, rfl⟩)).tr (h1.mono (fun a j z => Or.inr z)), ?_, fun p k a b c e => ?_⟩) (m0.1 pl1 6).toNat 0 (by omega) (by omega) m1 zFr.rf (fun p j a b c e => absurd b (by omega))
  · rw [h1.1 _ _ (by omega), e1, sI_eq]
  · rw [h2 p k a b c e, e1, sI_ne (Or.inl (by omega))]
/-- copyFrom(other): the plan at pl becomes the one at pl1 -/
theorem c_X4_copyFrom {d : Nat} {pl pl1 : Int} (hpl : zPl pl) (hpl1 : zPl pl1) (hne : pl ≠ pl1) (hW : zWf P) (hWi : zWish P) (hR : RQ m0 pl1 P) : zCt K (d + 3) mX4_copyFrom [rr K pl, rr K pl1] m0 (fun r m1 => r = 0 ∧ zFr (fun a _ => pl ≤ a ∧ a ≤ pl + 18) m0 m1 ∧ RQ m1 pl P) := by
  have hr := zPl_r hpl
  have hr1 := zPl_r hpl1
  obtain ⟨⟨h1, h2, h3, h4, h5, h6, h7, h8, h9, h10⟩, hRW⟩ := hR
  have w4 := hW.2.2.2.1
  have w2 := hW.2.2.1
  have w7 := hW.2.2.2.2.1
  refine zCt.of (by decide) (Nat.le_of_ble_eq_true rfl) (vc_X4_copyFrom_0 (d := d) pl pl1 m0 hpl hpl1 (fun _ => ?_))
  refine (c_X4_copyParts (d := d) hpl hpl1 hne (by omega)).mono (fun _ m2 h => ?_)
  obtain ⟨-, f2, p2, q2⟩ := h
  intro _ _
  have f2' : zFr (fun a _ => pl ≤ a ∧ a ≤ pl + 18) m0 m2 := f2.mono (fun a k z => by rcases z with z | z <;> exact ⟨by omega, by omega⟩)
  refine ⟨by omega, by omega, by omega, by omega, by omega, fun m8 e8 _ => ⟨by omega, by omega, by omega, by omega, by omega, fun m15 e15 _ => ⟨by omega, by omega, by omega, by omega, by omega, fun m22 e22 _ => ⟨by omega, by omega, by omega, by omega, by omega, fun m29 e29 _ => ?_⟩⟩⟩⟩
  have f29 : zFr (fun a _ => pl ≤ a ∧ a ≤ pl + 18) m0 m29 := (((f2'.cp e8 (fun k => ⟨by omega, by omega⟩)).cp e15 (fun k => ⟨by omega, by omega⟩)).cp e22 (fun k => ⟨by omega, by omega⟩)).cp e29 (fun k => ⟨by omega, by omega⟩)
  have hRW29 : RW m29 (pl1 + 6) P := hRW.kept (fun a k x y => f29.1 _ _ (by omega))
  refine (c_X8_copyFrom (d := d + 1) (zPl_wi hpl) (zPl_wi hpl1) (by omega) hWi hRW29).mono (fun _ m32 h => ?_)
  obtain ⟨-, f32, rw32⟩ := h
  intro _ _ m33 e33 _ m35 e35 _ m37 e37 _ m39 e39 _
  have n32 : ∀ a k, ¬ (pl + 6 ≤ a ∧ a ≤ pl + 6 + 2) → m32.1 a k = m29.1 a k := fun a k z => f32.1 a k z
  have f32' : zFr (fun a _ => pl ≤ a ∧ a ≤ pl + 18) m0 m32 := f29.tr (f32.mono (fun a k z => ⟨by omega, by omega⟩))
  have f39 : zFr (fun a _ => pl ≤ a ∧ a ≤ pl + 18) m0 m39 := (((f32'.put e33 ⟨by omega, by omega⟩).put e35 ⟨by omega, by omega⟩).put e37 ⟨by omega, by omega⟩).put e39 ⟨by omega, by omega⟩
  have n39 : ∀ a k, ¬ a = pl → m39.1 a k = m32.1 a k := fun a k z => by rw [e39, sI_ne (Or.inl z), e37, sI_ne (Or.inl z), e35, sI_ne (Or.inl z), e33, sI_ne (Or.inl z)]
  have src : ∀ k, m32.1 pl1 k = m0.1 pl1 k := fun k => f32'.1 _ _ (by omega)
  have s33 : ∀ k, m33.1 pl1 k = m0.1 pl1 k := fun k => by rw [e33, sI_ne (Or.inl (by omega)), src]
  have s35 : ∀ k, m35.1 pl1 k = m0.1 pl1 k := fun k => by rw [e35, sI_ne (Or.inl (by omega)), s33]
  have s37 : ∀ k, m37.1 pl1 k = m0.1 pl1 k := fun k => by rw [e37, sI_ne (Or.inl (by omega)), s35]
  have arr : ∀ k, 0 ≤ k → (k < 84 → m39.1 (pl + 2) k = m0.1 (pl1 + 2) k) ∧ (k < 6 → m39.1 (pl + 3) k = m0.1 (pl1 + 3) k ∧ m39.1 (pl + 4) k = m0.1 (pl1 + 4) k) ∧ (k < 5 → m39.1 (pl + 5) k = m0.1 (pl1 + 5) k) := by
    intro k k0
    refine ⟨fun hk => ?_, fun hk => ⟨?_, ?_⟩, fun hk => ?_⟩
    · rw [n39 _ _ (by omega), n32 _ _ (by omega), e29, sC_ne (by omega), e22, sC_ne (by omega), e15, sC_ne (by omega), e8, sC_in k0 hk, f2'.1 _ _ (by omega)]
    · rw [n39 _ _ (by omega), n32 _ _ (by omega), e29, sC_ne (by omega), e22, sC_ne (by omega), e15, sC_in k0 hk, e8, sC_ne (by omega), f2'.1 _ _ (by omega)]
    · rw [n39 _ _ (by omega), n32 _ _ (by omega), e29, sC_ne (by omega), e22, sC_in k0 hk, e15, sC_ne (by omega), e8, sC_ne (by omega), f2'.1 _ _ (by omega)]
    · rw [n39 _ _ (by omega), n32 _ _ (by omega), e29, sC_in k0 hk, e22, sC_ne (by omega), e15, sC_ne (by omega), e8, sC_ne (by omega), f2'.1 _ _ (by omega)]
  have prt : ∀ p k, 0 ≤ p → p < P 98 4 → 0 ≤ k → k < 12 → m39.1 (pl + 9 + p) k = m0.1 (pl1 + 9 + p) k := by
    intro p k a b c e
    rw [n39 _ _ (by omega), n32 _ _ (by omega), e29, sC_ne (by omega), e22, sC_ne (by omega), e15, sC_ne (by omega), e8, sC_ne (by omega)]
    exact q2 p k a (by omega) c e
  refine ⟨rfl, f39, ⟨?_, ?_, ?_, ?_, ?_, fun i a b => ?_, fun p k a b c e => ?_, fun p a b => ?_, fun k a b => ?_, fun i a b => ?_⟩, rw32.kept (fun a k x y => n39 a k (by omega))⟩
  · rw [e39, sI_eq, s37]; exact h1
  · rw [e39, sI_ne (Or.inr (by omega)), e37, sI_eq, s35]; exact h2
  · rw [e39, sI_ne (Or.inr (by omega)), e37, sI_ne (Or.inr (by omega)), e35, sI_ne (Or.inr (by omega)), e33, sI_eq, src]; exact h3
  · rw [e39, sI_ne (Or.inr (by omega)), e37, sI_ne (Or.inr (by omega)), e35, sI_ne (Or.inr (by omega)), e33, sI_ne (Or.inr (by omega)), n32 _ _ (by omega), e29, sC_ne (by omega), e22, sC_ne (by omega), e15, sC_ne (by omega), e8, sC_ne (by omega), p2]; exact h4
  · rw [e39, sI_ne (Or.inr (by omega)), e37, sI_ne (Or.inr (by omega)), e35, sI_eq, s33]; exact h5
  · rw [(arr i a).1 (by omega)]; exact h6 i a b
  · rw [prt p k a b c (by omega)]; exact h7 p k a b c e
  · rw [prt p 10 a b (by omega) (by omega), prt p 11 a b (by omega) (by omega)]; exact h8 p a b
  · rw [((arr k a).2.1 (by omega)).1, ((arr k a).2.1 (by omega)).2]; exact h9 k a b
  · rw [(arr (i + 2) (by omega)).2.2 (by omega)]; exact h10 i a b
end XC
