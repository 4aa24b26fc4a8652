/-! ===== part(): both sides ===== -/
def zNf (kind e size law gate k : Int) : Int := if k = 0 then kind else if k = 1 then Int.tdiv e 10 else if k = 2 then Int.tmod e 10 else if k = 3 then size else if k = 4 then 0 else if k = 5 then (if 1 ≤ kind ∧ kind ≤ 3 then Int.tdiv law 100 else -9) else if k = 6 then (if 1 ≤ kind ∧ kind ≤ 3 then Int.tmod (Int.tdiv law 10) 10 else -9) else if k = 7 then (if 1 ≤ kind ∧ kind ≤ 3 then Int.tmod law 10 else -9) else if k = 8 then (if 2 ≤ kind ∧ kind ≤ 3 then Int.tmod gate 10 else -9) else (if kind = 3 then Int.tdiv gate 10 else -9)
def zNew (P : F2) (f : Int → Int) : F2 := fun a j => if a = 100 ∧ 10 * P 98 4 ≤ j ∧ j < 10 * P 98 4 + 10 then f (j - 10 * P 98 4) else if a = 101 ∧ (j = 2 * P 98 4 ∨ j = 2 * P 98 4 + 1) then 0 else if a = 98 ∧ j = 4 then P 98 4 + 1 else P a j
section NEW
variable {P : F2} {f : Int → Int}
theorem zNew_4 : zNew P f 98 4 = P 98 4 + 1 := by unfold zNew; rw [if_neg (by omega), if_neg (by omega), if_pos (by omega)]
theorem zNew_ne {a j : Int} (h1 : ¬ (a = 100 ∧ 10 * P 98 4 ≤ j)) (h2 : ¬ (a = 101 ∧ 2 * P 98 4 ≤ j)) (h3 : ¬ (a = 98 ∧ j = 4)) : zNew P f a j = P a j := by unfold zNew; rw [if_neg (by omega), if_neg (by omega), if_neg h3]
theorem zNew_p {k : Int} (hk : 0 ≤ k ∧ k < 10) : zp (zNew P f) (P 98 4) k = f k := by
  unfold zp zNew
  rw [if_pos (by omega), show 10 * P 98 4 + k - 10 * P 98 4 = k by omega]
theorem zNew_zp {p k : Int} (hp : p < P 98 4) (hk : 0 ≤ k ∧ k < 10) : zp (zNew P f) p k = zp P p k := by
  unfold zp
  exact zNew_ne (by omega) (by omega) (by omega)
def zNok (P : F2) (f : Int → Int) : Prop := (1 ≤ f 0 ∧ f 0 ≤ 5) ∧ (0 ≤ f 1 ∧ f 1 ≤ 4) ∧ (0 ≤ f 2 ∧ f 2 ≤ 4) ∧ (1 ≤ f 3 ∧ f 3 ≤ 9) ∧ (0 ≤ f 4 ∧ f 4 ≤ 2) ∧
  (f 0 ≤ 3 → (0 ≤ f 5 ∧ f 5 < P 98 2) ∧ (0 ≤ f 6 ∧ f 6 ≤ 5) ∧ (0 ≤ f 7 ∧ f 7 ≤ 9)) ∧ (f 0 = 2 ∨ f 0 = 3 → 0 ≤ f 8 ∧ f 8 ≤ 4) ∧ (f 0 = 3 → 0 ≤ f 9 ∧ f 9 < P 98 4)
theorem zGoodP.new (h : zGoodP P) (hf : zNok P f) (hN : P 98 4 < 10) : zGoodP (zNew P f) := by
  have hn : ∀ a j, ¬ (a = 100 ∧ 10 * P 98 4 ≤ j) → ¬ (a = 101 ∧ 2 * P 98 4 ≤ j) → ¬ (a = 98 ∧ j = 4) → zNew P f a j = P a j := fun a j => zNew_ne
  obtain ⟨h1, h2, h3, h4, h5, h6, h7, h8, h9, h10⟩ := h.1
  refine ⟨⟨by rw [hn _ _ (by omega) (by omega) (by omega)]; exact h1, by rw [hn _ _ (by omega) (by omega) (by omega)]; exact h2, by rw [hn _ _ (by omega) (by omega) (by omega)]; exact h3, by rw [zNew_4]; omega, by rw [hn _ _ (by omega) (by omega) (by omega)]; exact h5, fun i a b => ?_, fun p a b => ?_, fun p a b => ?_, fun j a b => ?_, fun i a b => by rw [hn _ _ (by omega) (by omega) (by omega)]; exact h10 i a b⟩, h.2.1.c (hn _ _ (by omega) (by omega) (by omega)) (fun j => hn _ _ (by omega) (by omega) (by omega)) (fun j => hn _ _ (by omega) (by omega) (by omega)), ?_⟩
  · rw [hn _ _ (by omega) (by omega) (by omega)] at b; rw [hn _ _ (by omega) (by omega) (by omega)]; exact h6 i a b
  · rw [zNew_4] at b
    unfold zPartOk
    rw [hn 98 2 (by omega) (by omega) (by omega)]
    by_cases z : p = P 98 4
    · rw [z, zNew_p (by omega), zNew_p (by omega), zNew_p (by omega), zNew_p (by omega), zNew_p (by omega), zNew_p (by omega), zNew_p (by omega), zNew_p (by omega), zNew_p (by omega), zNew_p (by omega)]
      exact hf
    · have e : ∀ k, 0 ≤ k ∧ k < 10 → zp (zNew P f) p k = zp P p k := fun k hk => zNew_zp (by omega) hk
      rw [e 0 (by omega), e 1 (by omega), e 2 (by omega), e 3 (by omega), e 4 (by omega), e 5 (by omega), e 6 (by omega), e 7 (by omega), e 8 (by omega), e 9 (by omega)]
      exact h7 p a (by omega)
  · rw [zNew_4] at b
    unfold zOpenOk
    by_cases z : p = P 98 4
    · left
      unfold zNew
      rw [if_neg (by omega), if_pos (by omega), if_neg (by omega), if_pos (by omega)]
      exact ⟨rfl, rfl⟩
    · rw [hn _ _ (by omega) (by omega) (by omega), hn _ _ (by omega) (by omega) (by omega)]; exact h8 p a (by omega)
  · rw [hn 98 7 (by omega) (by omega) (by omega)] at b
    rw [zNew_4, hn 102 _ (by omega) (by omega) (by omega), hn 102 _ (by omega) (by omega) (by omega)]
    have := h9 j a b
    omega
  · unfold zoc
    rw [zNew_4, show (P 98 4 + 1).toNat = (P 98 4).toNat + 1 by omega, zoN_s]
    have e : ∀ k : Nat, (k : Int) ≤ P 98 4 → zoN (zNew P f) k = zoN P k := by
      intro k
      induction k with
      | zero => exact fun _ => rfl
      | succ k ih => intro hk; rw [zoN_s, zoN_s, ih (by omega), hn _ _ (by omega) (by omega) (by omega)]
    have e0 : zNew P f 101 (2 * ((P 98 4).toNat : Int) + 1) = 0 := by unfold zNew; rw [if_neg (by omega), if_pos (by omega)]
    rw [e _ (by omega), e0, if_neg (by omega)]
    exact h.2.2
end NEW
section NEX
variable {K : zCx} {d : Nat} {n : Int} {m : zM}
theorem c_X3_become {q kind e size law gate : Int} (hq : zsh q = some (6, 12)) (i1 : inR kind) (i2 : inR e) (i3 : inR size) (i4 : inR law) (i5 : inR gate) : zCt K (d + 2) mX3_become [rr K q, .int (iz kind), .int (iz e), .int (iz size), .int (iz law), .int (iz gate)] m (fun r m1 => r = 0 ∧ zFr (fun a _ => a = q) m m1 ∧ (∀ k, 0 ≤ k → k < 10 → m1.1 q k = zNf kind e size law gate k) ∧ m1.1 q 10 = 0 ∧ m1.1 q 11 = 0) := by
  refine zCt.of (by decide) (Nat.le_of_ble_eq_true rfl) (vc_X3_become_0 (d := d) q kind e size law gate m hq i1 i2 i3 i4 i5 (fun _ m1 e1 _ m3 e3 _ m5 e5 _ m7 e7 _ m9 e9 _ v13 e13 m15 e15 _ v19 e19 m21 e21 _ v25 e25 m27 e27 _ v31 e31 m33 e33 _ v35 e35 m37 e37 _ m39 e39 _ m41 e41 _ => ?_))
  have k9 : m9.1 q 0 = kind := by rw [e9, sI_ne (by omega), e7, sI_ne (by omega), e5, sI_ne (by omega), e3, sI_ne (by omega), e1, sI_eq]
  have k15 : m15.1 q 0 = kind := by rw [e15, sI_ne (by omega)]; exact k9
  have k21 : m21.1 q 0 = kind := by rw [e21, sI_ne (by omega)]; exact k15
  have k27 : m27.1 q 0 = kind := by rw [e27, sI_ne (by omega)]; exact k21
  have k33 : m33.1 q 0 = kind := by rw [e33, sI_ne (by omega)]; exact k27
  rw [k9] at e13
  rw [k15] at e19
  rw [k21] at e25
  rw [k27] at e31
  rw [k33] at e35
  have ii : ∀ (x y : Int), (if kind = 1 ∨ kind = 2 ∨ kind = 3 then x else y) = if 1 ≤ kind ∧ kind ≤ 3 then x else y := fun x y => by
    by_cases z : 1 ≤ kind ∧ kind ≤ 3
    · rw [if_pos z, if_pos (by omega)]
    · rw [if_neg z, if_neg (by omega)]
  have jj : ∀ (x y : Int), (if kind = 2 ∨ kind = 3 then x else y) = if 2 ≤ kind ∧ kind ≤ 3 then x else y := fun x y => by
    by_cases z : 2 ≤ kind ∧ kind ≤ 3
    · rw [if_pos z, if_pos (by omega)]
    · rw [if_neg z, if_neg (by omega)]
  rw [ii] at e13 e19 e25
  rw [jj] at e31
  refine ⟨rfl, (((((((((((zFr.rf.put e1 rfl).put e3 rfl).put e5 rfl).put e7 rfl).put e9 rfl).put e15 rfl).put e21 rfl).put e27 rfl).put e33 rfl).put e37 rfl).put e39 rfl).put e41 rfl, fun k h0 h1 => ?_, by rw [e41, sI_ne (by omega), e39, sI_eq], by rw [e41, sI_eq]⟩
  have hk : k = 0 ∨ k = 1 ∨ k = 2 ∨ k = 3 ∨ k = 4 ∨ k = 5 ∨ k = 6 ∨ k = 7 ∨ k = 8 ∨ k = 9 := by omega
  have top : ∀ k, k ≤ 9 → m41.1 q k = m37.1 q k := fun k hk => by rw [e41, sI_ne (by omega), e39, sI_ne (by omega)]
  rw [top k (by omega)]
  rcases hk with rfl | rfl | rfl | rfl | rfl | rfl | rfl | rfl | rfl | rfl
  · rw [e37, sI_ne (by omega)]; exact k33
  · rw [e37, sI_ne (by omega), e33, sI_ne (by omega), e27, sI_ne (by omega), e21, sI_ne (by omega), e15, sI_ne (by omega), e9, sI_ne (by omega), e7, sI_ne (by omega), e5, sI_ne (by omega), e3, sI_eq]; rfl
  · rw [e37, sI_ne (by omega), e33, sI_ne (by omega), e27, sI_ne (by omega), e21, sI_ne (by omega), e15, sI_ne (by omega), e9, sI_ne (by omega), e7, sI_ne (by omega), e5, sI_eq]; rfl
  · rw [e37, sI_ne (by omega), e33, sI_ne (by omega), e27, sI_ne (by omega), e21, sI_ne (by omega), e15, sI_ne (by omega), e9, sI_ne (by omega), e7, sI_eq]; rfl
  · rw [e37, sI_ne (by omega), e33, sI_ne (by omega), e27, sI_ne (by omega), e21, sI_ne (by omega), e15, sI_ne (by omega), e9, sI_eq]; rfl
  · rw [e37, sI_ne (by omega), e33, sI_ne (by omega), e27, sI_ne (by omega), e21, sI_ne (by omega), e15, sI_eq, e13]; rfl
  · rw [e37, sI_ne (by omega), e33, sI_ne (by omega), e27, sI_ne (by omega), e21, sI_eq, e19]; rfl
  · rw [e37, sI_ne (by omega), e33, sI_ne (by omega), e27, sI_eq, e25]; rfl
  · rw [e37, sI_ne (by omega), e33, sI_eq, e31]; rfl
  · rw [e37, sI_eq, e35]; rfl
def zGt (P : F2) (kind gate : Int) : Prop := 0 ≤ gate ∧ Int.tmod gate 10 ≤ 4 ∧ ((kind = 2 ∧ Int.tdiv gate 10 = 0) ∨ (¬ kind = 2 ∧ Int.tdiv gate 10 < P 98 4 ∧ (zp P (Int.tdiv gate 10) 0 = 2 ∨ zp P (Int.tdiv gate 10) 0 = 3)))
theorem c_X4_isGate {P : F2} {kind gate : Int} (i1 : inR kind) (i2 : inR gate) (hW : zWf P) (hR : RQ m 1 P) : zCt K (d + 3) mX4_isGate [rr K 1, .int (iz kind), .int (iz gate)] m (fun r m1 => ((r = 1 ∧ zGt P kind gate) ∨ (r = 0 ∧ ¬ zGt P kind gate)) ∧ m1 = m) := by
  have h4 := hW.2.2.2.1
  have e6 : m.1 1 6 = P 98 4 := hR.1.2.2.2.1
  refine zCt.of (by decide) (Nat.le_of_ble_eq_true rfl) (vc_X4_isGate_0 (d := d) 1 kind gate m (Or.inl rfl) i1 i2 (fun _ => ?_))
  rw [e6]
  refine ⟨fun z => ⟨Or.inr ⟨rfl, fun y => by have := y.1; omega⟩, rfl⟩, fun z => ⟨fun z1 v3 e3 => ?_, fun z1 => ⟨Or.inr ⟨rfl, fun y => by have := y.2.1; omega⟩, rfl⟩⟩⟩
  have hd : 0 ≤ Int.tdiv gate 10 := Int.tdiv_nonneg (by omega) (by decide)
  subst e3
  refine ⟨fun z2 => ⟨fun z3 => ⟨Or.inl ⟨rfl, by omega, by omega, Or.inl ⟨z2, z3⟩⟩, rfl⟩, fun z3 => ⟨Or.inr ⟨rfl, fun y => ?_⟩, rfl⟩⟩, fun z2 => ⟨h4.1, fun z3 => ⟨by omega, by omega, ?_⟩, fun z3 => ⟨Or.inr ⟨rfl, fun y => ?_⟩, rfl⟩⟩⟩
  · rcases y.2.2 with y | y
    · exact z3 y.2
    · exact y.1 z2
  · have e0 : m.1 (1 + 9 + Int.tdiv gate 10) 0 = zp P (Int.tdiv gate 10) 0 := hR.1.part z3.1 z3.2 0 (by omega)
    rw [e0]
    refine ⟨fun y => ⟨Or.inl ⟨rfl, by omega, by omega, Or.inr ⟨z2, z3.2, y⟩⟩, rfl⟩, fun y => ⟨Or.inr ⟨rfl, fun x => ?_⟩, rfl⟩⟩
    rcases x.2.2 with x | x
    · exact z2 x.1
    · exact y x.2.2
  · rcases y.2.2 with y | y
    · exact z2 y.1
    · exact z3 ⟨hd, y.2.1⟩
theorem c_X10_isGate {P : F2} {kind gate : Int} (i1 : inR kind) (i2 : inR gate) (hW : zWf P) (hP : pv m.1 = P) : zCt K (d + 3) mX10_isGate [rr K 98, .int (iz kind), .int (iz gate)] m (fun r m1 => ((r = 1 ∧ zGt P kind gate) ∨ (r = 0 ∧ ¬ zGt P kind gate)) ∧ m1 = m) := by
  have h4 := hW.2.2.2.1
  refine zCt.of (by decide) (Nat.le_of_ble_eq_true rfl) (vc_X10_isGate_0 (d := d) kind gate m i1 i2 (fun _ => ?_))
  rw [pv_f hP (by omega)]
  refine ⟨fun z => ⟨Or.inr ⟨rfl, fun y => by have := y.1; omega⟩, rfl⟩, fun z => ?_⟩
  have hd : 0 ≤ Int.tdiv gate 10 := Int.tdiv_nonneg (by omega) (by decide)
  have hm : 0 ≤ Int.tmod gate 10 := Int.tmod_nonneg 10 (by omega)
  refine ⟨fun z1 v3 e3 => ?_, fun z1 => ⟨Or.inr ⟨rfl, fun y => by have := y.2.1; omega⟩, rfl⟩⟩
  subst e3
  refine ⟨fun z2 => ⟨fun z3 => ⟨Or.inl ⟨rfl, by omega, by omega, Or.inl ⟨z2, z3⟩⟩, rfl⟩, fun z3 => ⟨Or.inr ⟨rfl, fun y => ?_⟩, rfl⟩⟩, fun z2 => ⟨h4.1, fun z3 => ⟨by omega, by omega, ?_⟩, fun z3 => ⟨Or.inr ⟨rfl, fun y => ?_⟩, rfl⟩⟩⟩
  · rcases y.2.2 with y | y
    · exact z3 y.2
    · exact y.1 z2
  · have e0 : m.1 100 (10 * Int.tdiv gate 10 + 0) = zp P (Int.tdiv gate 10) 0 := pv_r hP (by omega) _
    rw [e0]
    refine ⟨fun y => ⟨Or.inl ⟨rfl, by omega, by omega, Or.inr ⟨z2, z3.2, by omega⟩⟩, rfl⟩, fun y => ⟨Or.inr ⟨rfl, fun x => ?_⟩, rfl⟩⟩
    rcases x.2.2 with x | x
    · exact z2 x.1
    · have := x.2.2; omega
  · rcases y.2.2 with y | y
    · exact z2 y.1
    · exact z3 ⟨hd, y.2.1⟩
def zLw1 (P : F2) (law : Int) : Prop := 0 ≤ law ∧ Int.tdiv law 100 < P 98 2 ∧ Int.tmod (Int.tdiv law 10) 10 ≤ 5
def zEn (e : Int) : Prop := (0 ≤ e ∧ e ≤ 99) ∧ Int.tdiv e 10 < 5 ∧ Int.tmod e 10 < 5 ∧ ¬ Int.tdiv e 10 = Int.tmod e 10
def zNv (P : F2) (kind e size law gate : Int) : Prop := (1 ≤ kind ∧ kind ≤ 5) ∧ zEn e ∧ (1 ≤ size ∧ size ≤ 9) ∧ (kind ≤ 3 → zLw1 P law) ∧ (kind = 2 ∨ kind = 3 → zGt P kind gate)
theorem zNv_ok {P : F2} {kind e size law gate : Int} (h : zNv P kind e size law gate) : zNok P (zNf kind e size law gate) := by
  obtain ⟨h1, h2, h3, h4, h5⟩ := h
  obtain ⟨e1, e2, e3, e4⟩ := h2
  have a1 : 0 ≤ Int.tdiv e 10 := Int.tdiv_nonneg (by omega) (by decide)
  have a2 : 0 ≤ Int.tmod e 10 := Int.tmod_nonneg 10 (by omega)
  have f0 : zNf kind e size law gate 0 = kind := rfl
  have f1 : zNf kind e size law gate 1 = Int.tdiv e 10 := rfl
  have f2 : zNf kind e size law gate 2 = Int.tmod e 10 := rfl
  have f3 : zNf kind e size law gate 3 = size := rfl
  have f4 : zNf kind e size law gate 4 = 0 := rfl
  have f5 : zNf kind e size law gate 5 = (if 1 ≤ kind ∧ kind ≤ 3 then Int.tdiv law 100 else -9) := rfl
  have f6 : zNf kind e size law gate 6 = (if 1 ≤ kind ∧ kind ≤ 3 then Int.tmod (Int.tdiv law 10) 10 else -9) := rfl
  have f7 : zNf kind e size law gate 7 = (if 1 ≤ kind ∧ kind ≤ 3 then Int.tmod law 10 else -9) := rfl
  have f8 : zNf kind e size law gate 8 = (if 2 ≤ kind ∧ kind ≤ 3 then Int.tmod gate 10 else -9) := rfl
  have f9 : zNf kind e size law gate 9 = (if kind = 3 then Int.tdiv gate 10 else -9) := rfl
  unfold zNok
  rw [f0, f1, f2, f3, f4, f5, f6, f7, f8, f9]
  refine ⟨h1, by omega, by omega, h3, by omega, fun z => ?_, fun z => ?_, fun z => ?_⟩
  · obtain ⟨l1, l2, l3⟩ := h4 z
    have b1 : 0 ≤ Int.tdiv law 100 := Int.tdiv_nonneg (by omega) (by decide)
    have b2 : 0 ≤ Int.tdiv law 10 := Int.tdiv_nonneg (by omega) (by decide)
    have b3 : 0 ≤ Int.tmod (Int.tdiv law 10) 10 := Int.tmod_nonneg 10 b2
    have b4 : 0 ≤ Int.tmod law 10 := Int.tmod_nonneg 10 l1
    have b5 : Int.tmod law 10 < 10 := Int.tmod_lt_of_pos law (by decide)
    rw [if_pos (by omega), if_pos (by omega), if_pos (by omega)]
    omega
  · obtain ⟨g1, g2, g3⟩ := h5 z
    have b1 : 0 ≤ Int.tmod gate 10 := Int.tmod_nonneg 10 g1
    rw [if_pos (by omega)]
    omega
  · obtain ⟨g1, g2, g3⟩ := h5 (Or.inr z)
    have b1 : 0 ≤ Int.tdiv gate 10 := Int.tdiv_nonneg g1 (by decide)
    rw [if_pos z]
    rcases g3 with g3 | g3
    · omega
    · exact ⟨b1, g3.2.1⟩
theorem zEn_44 {e : Int} : zEn e ↔ ((0 ≤ e ∧ e ≤ 44) ∧ (0 ≤ Int.tmod e 10 ∧ Int.tmod e 10 ≤ 4) ∧ ¬ Int.tdiv e 10 = Int.tmod e 10) := by
  unfold zEn
  constructor
  · rintro ⟨h1, h2, h3, h4⟩
    have b1 : 0 ≤ Int.tmod e 10 := Int.tmod_nonneg 10 h1.1
    have e1 : Int.tdiv e 10 = e / 10 := Int.tdiv_eq_ediv_of_nonneg h1.1
    have e2 : Int.tmod e 10 = e % 10 := Int.tmod_eq_emod_of_nonneg h1.1
    refine ⟨?_, by omega, h4⟩
    rw [e1] at h2
    rw [e2] at h3
    omega
  · rintro ⟨h1, h2, h3⟩
    have e1 : Int.tdiv e 10 = e / 10 := Int.tdiv_eq_ediv_of_nonneg h1.1
    refine ⟨by omega, by rw [e1]; omega, by omega, h3⟩
theorem o_part {kind e size law gate : Int} (i1 : inR kind) (i2 : inR e) (i3 : inR size) (i4 : inR law) (i5 : inR gate) (h : zInv n m) : zOk K (d + 12) mX9_part mX10_part [.int (iz kind), .int (iz e), .int (iz size), .int (iz law), .int (iz gate)] n m := by
  have hG := h.1.1
  have hW := hG.1
  have hR := h.1.2
  have h4 := hW.2.2.2.1
  have e6 : m.1 1 6 = pv m.1 98 4 := hR.1.2.2.2.1
  have e7 : m.1 1 7 = pv m.1 98 2 := hR.1.2.2.1
  by_cases hv : zNv (pv m.1) kind e size law gate
  · by_cases hN : pv m.1 98 4 < 10
    · refine zOk.pl (F := pv m.1 98 4) (P' := zNew (pv m.1) (zNf kind e size law gate)) h (hG.new (zNv_ok hv) hN) ?_ (fun m1 ee f => ?_)
      · have fin : zCt K (d + 11) mX3_become [rr K (10 + pv m.1 98 4), .int (iz kind), .int (iz e), .int (iz size), .int (iz law), .int (iz gate)] m (fun r m3 => inR r → zok m3 → inR ((m3.1 1 6) + 1) ∧ (∀ m4 : zM, m4 = sI m3 1 6 ((m3.1 1 6) + 1) → zok m4 → (inR ((m4.1 1 6) - 1) ∧ ((m4.1 1 6) - 1 = pv m.1 98 4 ∧ zFr zPn m m4 ∧ RQ m4 1 (zNew (pv m.1) (zNf kind e size law gate)))))) := by
          refine (c_X3_become (d := d + 9) (zPn1_s h4.1 (by omega)) i1 i2 i3 i4 i5).mono (fun r m3 q => ?_)
          obtain ⟨-, f3, hf, h10, h11⟩ := q
          intro _ _
          have n3 : ∀ a k, ¬ a = 10 + pv m.1 98 4 → m3.1 a k = m.1 a k := fun a k q => f3.1 a k q
          have a6 : m3.1 1 6 = pv m.1 98 4 := by rw [n3 _ _ (by omega)]; exact e6
          rw [a6]
          refine ⟨inR_b (A := 1000) (by omega) (by omega) rfl, fun m4 e4 _ => ?_⟩
          have b6 : m4.1 1 6 = pv m.1 98 4 + 1 := by rw [e4, sI_eq]
          rw [b6]
          have n4 : ∀ a k, ¬ (a = 1 ∧ k = 6) → m4.1 a k = m3.1 a k := fun a k q => by rw [e4, sI_ne (by omega)]
          have n5 : ∀ a k, ¬ (a = 1 ∧ k = 6) → ¬ a = 10 + pv m.1 98 4 → m4.1 a k = m.1 a k := fun a k q q2 => by rw [n4 a k q, n3 a k q2]
          refine ⟨inR_b (A := 1000) (by omega) (by omega) rfl, by omega, (f3.mono (fun a k q => by unfold zPn; omega)).put e4 (by unfold zPn; omega), ?_⟩
          have hn : ∀ a j, ¬ (a = 100 ∧ 10 * pv m.1 98 4 ≤ j) → ¬ (a = 101 ∧ 2 * pv m.1 98 4 ≤ j) → ¬ (a = 98 ∧ j = 4) → zNew (pv m.1) (zNf kind e size law gate) a j = pv m.1 a j := fun a j => zNew_ne
          obtain ⟨⟨r1, r2, r3, r4, r5, r6, r7, r8, r9, r10⟩, hw⟩ := hR
          refine ⟨⟨by rw [n5 _ _ (by omega) (by omega), hn _ _ (by omega) (by omega) (by omega)]; exact r1, by rw [n5 _ _ (by omega) (by omega), hn _ _ (by omega) (by omega) (by omega)]; exact r2, by rw [n5 _ _ (by omega) (by omega), hn _ _ (by omega) (by omega) (by omega)]; exact r3, by rw [zNew_4]; exact b6, by rw [n5 _ _ (by omega) (by omega), hn _ _ (by omega) (by omega) (by omega)]; exact r5, fun i a b => ?_, fun p i a b c d => ?_, fun p a b => ?_, fun i a b => ?_, fun i a b => by rw [n5 _ _ (by omega) (by omega), hn _ _ (by omega) (by omega) (by omega)]; exact r10 i a b⟩, RW.c (hw.kept (fun a i x y => n5 a i (by omega) (by omega))) (hn _ _ (by omega) (by omega) (by omega)) (fun i => hn _ _ (by omega) (by omega) (by omega)) (fun i => hn _ _ (by omega) (by omega) (by omega))⟩
          · rw [hn _ _ (by omega) (by omega) (by omega)] at b; rw [n5 _ _ (by omega) (by omega), hn _ _ (by omega) (by omega) (by omega)]; exact r6 i a b
          · rw [zNew_4] at b
            by_cases z : p = pv m.1 98 4
            · rw [z, zNew_p ⟨c, d⟩, n4 _ _ (by omega), show (1 + 9 + pv m.1 98 4 : Int) = 10 + pv m.1 98 4 by omega]; exact hf i c d
            · rw [zNew_zp (by omega) ⟨c, d⟩, n5 _ _ (by omega) (by omega)]; exact r7 p i a (by omega) c d
          · rw [zNew_4] at b
            by_cases z : p = pv m.1 98 4
            · have z1 : zNew (pv m.1) (zNf kind e size law gate) 101 (2 * p) = 0 := by unfold zNew; rw [if_neg (by omega), if_pos (by omega)]
              have z2 : zNew (pv m.1) (zNf kind e size law gate) 101 (2 * p + 1) = 0 := by unfold zNew; rw [if_neg (by omega), if_pos (by omega)]
              rw [z1, z2, n4 _ _ (by omega), n4 _ _ (by omega), show (1 + 9 + p : Int) = 10 + pv m.1 98 4 by omega]
              exact ⟨h10, h11⟩
            · rw [hn _ _ (by omega) (by omega) (by omega), hn _ _ (by omega) (by omega) (by omega), n5 _ _ (by omega) (by omega), n5 _ _ (by omega) (by omega)]; exact r8 p a (by omega)
          · rw [hn 98 7 (by omega) (by omega) (by omega)] at b; rw [n5 _ _ (by omega) (by omega), n5 _ _ (by omega) (by omega), hn _ _ (by omega) (by omega) (by omega), hn _ _ (by omega) (by omega) (by omega)]; exact r9 i a b
        refine zCt.of (by decide) (Nat.le_of_ble_eq_true rfl) (vc_X9_part_0 (d := d + 8) kind e size law gate m i1 i2 i3 i4 i5 (fun _ => ?_))
        rw [e6, e7]
        refine ⟨fun _ => ⟨fun _ => ⟨fun _ => ⟨fun z => ⟨fun _ => ⟨fun z2 => ?_, fun z2 => ⟨fun _ => ⟨by omega, by omega, fin⟩, fun q => absurd hN q⟩⟩, fun q => absurd (hv.2.2.2.1 (by omega)) q⟩, fun z => ⟨fun z2 => absurd (Or.inr z2) z, fun z2 => ⟨fun _ => ⟨by omega, by omega, fin⟩, fun q => absurd hN q⟩⟩⟩, fun q => absurd hv.2.2.1 q⟩, fun q => absurd hv.2.1 q⟩, fun q => absurd hv.1 q⟩
        refine (c_X4_isGate (d := d + 8) i1 i5 hW hR).mono (fun r m3 q => ?_)
        obtain ⟨hr, hm⟩ := q
        rw [hm, e6]
        intro _ _
        rcases hr with ⟨hr, -⟩ | ⟨-, hr⟩
        · exact ⟨fun q => absurd q (by omega), fun _ => ⟨fun _ => ⟨by omega, by omega, fin⟩, fun q => absurd hN q⟩⟩
        · exact absurd (hv.2.2.2.2 z2) hr
      · have fin : zV K mX10_part (d + 12) 87 [(0, rr K 98), (1, .int (iz kind)), (2, .int (iz e)), (3, .int (iz size)), (4, .int (iz law)), (5, .int (iz gate))] [] m1 (fun r m2 => r = pv m.1 98 4 ∧ zFr zPv m1 m2 ∧ pv m2.1 = zNew (pv m.1) (zNf kind e size law gate)) := by
          have b4 : m1.1 98 4 = pv m.1 98 4 := pv_f ee (by omega)
          refine vc_X10_part_87 (d := d + 8) kind e size law gate m1 i1 i2 i3 i4 i5 (fun _ => ⟨fun q => absurd q (by omega), fun _ v2 e2 => ⟨by omega, by omega, fun m6 e6 _ => ⟨by omega, by omega, fun m10 e10 _ => ⟨by omega, by omega, fun m14 e14 _ => ⟨by omega, by omega, fun m18 e18 _ => ⟨by omega, by omega, fun m22 e22 _ v26 e26 => ⟨by omega, by omega, fun m30 e30 _ v34 e34 => ⟨by omega, by omega, fun m38 e38 _ v42 e42 => ⟨by omega, by omega, fun m46 e46 _ v50 e50 => ⟨by omega, by omega, fun m54 e54 _ v56 e56 => ⟨by omega, by omega, fun m60 e60 _ => ?_⟩⟩⟩⟩⟩⟩⟩⟩⟩⟩⟩)
          have c4 : m60.1 98 4 = pv m.1 98 4 := by rw [e60, sI_ne (by omega), e54, sI_ne (by omega), e46, sI_ne (by omega), e38, sI_ne (by omega), e30, sI_ne (by omega), e22, sI_ne (by omega), e18, sI_ne (by omega), e14, sI_ne (by omega), e10, sI_ne (by omega), e6, sI_ne (by omega)]; exact b4
          rw [c4]
          refine ⟨by omega, by omega, fun m64 e64 _ => ?_⟩
          have d4 : m64.1 98 4 = pv m.1 98 4 := by rw [e64, sI_ne (by omega)]; exact c4
          rw [d4]
          refine ⟨by omega, by omega, fun m68 e68 _ => ?_⟩
          have f4 : m68.1 98 4 = pv m.1 98 4 := by rw [e68, sI_ne (by omega)]; exact d4
          rw [f4]
          refine ⟨inR_b (A := 1000) (by omega) (by omega) rfl, fun m71 e71 _ => ?_⟩
          have g4 : m71.1 98 4 = pv m.1 98 4 + 1 := by rw [e71, sI_eq]
          rw [g4]
          have ev : v2 = 10 * pv m.1 98 4 := by rw [e2, b4]
          subst ev
          have hfr : zFr (fun a j => (a = 100 ∧ 10 * pv m.1 98 4 ≤ j ∧ j < 10 * pv m.1 98 4 + 10) ∨ (a = 101 ∧ (j = 2 * pv m.1 98 4 ∨ j = 2 * pv m.1 98 4 + 1)) ∨ (a = 98 ∧ j = 4)) m1 m71 := ((((((((((((zFr.rf.put e6 (by omega)).put e10 (by omega)).put e14 (by omega)).put e18 (by omega)).put e22 (by omega)).put e30 (by omega)).put e38 (by omega)).put e46 (by omega)).put e54 (by omega)).put e60 (by omega)).put e64 (by omega)).put e68 (by omega)).put e71 (by omega)
          refine ⟨inR_b (A := 1000) (by omega) (by omega) rfl, by omega, hfr.mono (fun a k q => by unfold zPv; omega), ?_⟩
          have top : ∀ j, m71.1 100 j = m60.1 100 j := fun j => by rw [e71, sI_ne (by omega), e68, sI_ne (by omega), e64, sI_ne (by omega)]
          have val : ∀ k, 0 ≤ k → k < 10 → m71.1 100 (10 * pv m.1 98 4 + k) = zNf kind e size law gate k := by
            intro k k0 k1
            have hk : k = 0 ∨ k = 1 ∨ k = 2 ∨ k = 3 ∨ k = 4 ∨ k = 5 ∨ k = 6 ∨ k = 7 ∨ k = 8 ∨ k = 9 := by omega
            rw [top]
            rcases hk with rfl | rfl | rfl | rfl | rfl | rfl | rfl | rfl | rfl | rfl
            · rw [e60, sI_ne (by omega), e54, sI_ne (by omega), e46, sI_ne (by omega), e38, sI_ne (by omega), e30, sI_ne (by omega), e22, sI_ne (by omega), e18, sI_ne (by omega), e14, sI_ne (by omega), e10, sI_ne (by omega), e6, sI_eq]; rfl
            · rw [e60, sI_ne (by omega), e54, sI_ne (by omega), e46, sI_ne (by omega), e38, sI_ne (by omega), e30, sI_ne (by omega), e22, sI_ne (by omega), e18, sI_ne (by omega), e14, sI_ne (by omega), e10, sI_eq]; rfl
            · rw [e60, sI_ne (by omega), e54, sI_ne (by omega), e46, sI_ne (by omega), e38, sI_ne (by omega), e30, sI_ne (by omega), e22, sI_ne (by omega), e18, sI_ne (by omega), e14, sI_eq]; rfl
            · rw [e60, sI_ne (by omega), e54, sI_ne (by omega), e46, sI_ne (by omega), e38, sI_ne (by omega), e30, sI_ne (by omega), e22, sI_ne (by omega), e18, sI_eq]; rfl
            · rw [e60, sI_ne (by omega), e54, sI_ne (by omega), e46, sI_ne (by omega), e38, sI_ne (by omega), e30, sI_ne (by omega), e22, sI_eq]; rfl
            · rw [e60, sI_ne (by omega), e54, sI_ne (by omega), e46, sI_ne (by omega), e38, sI_ne (by omega), e30, sI_eq, e26]; rfl
            · rw [e60, sI_ne (by omega), e54, sI_ne (by omega), e46, sI_ne (by omega), e38, sI_eq, e34]; rfl
            · rw [e60, sI_ne (by omega), e54, sI_ne (by omega), e46, sI_eq, e42]; rfl
            · rw [e60, sI_ne (by omega), e54, sI_eq, e50]; rfl
            · rw [e60, sI_eq, e56]; rfl
          funext a i
          by_cases hin : (a = 98 ∧ 0 ≤ i ∧ i ≤ 17) ∨ (99 ≤ a ∧ a ≤ 105)
          · rw [pv_at hin]
            by_cases z1 : a = 100 ∧ 10 * pv m.1 98 4 ≤ i ∧ i < 10 * pv m.1 98 4 + 10
            · have : zNew (pv m.1) (zNf kind e size law gate) a i = zNf kind e size law gate (i - 10 * pv m.1 98 4) := if_pos z1
              rw [this, z1.1, ← val _ (by omega) (by omega), show 10 * pv m.1 98 4 + (i - 10 * pv m.1 98 4) = i by omega]
            · by_cases z2 : a = 101 ∧ (i = 2 * pv m.1 98 4 ∨ i = 2 * pv m.1 98 4 + 1)
              · have : zNew (pv m.1) (zNf kind e size law gate) a i = 0 := by unfold zNew; rw [if_neg z1, if_pos z2]
                rw [this, e71, sI_ne (by omega), e68, sI_at]
                by_cases y : a = 101 ∧ i = 2 * pv m.1 98 4 + 1
                · rw [if_pos y]
                · rw [if_neg y, e64, sI_at, if_pos ⟨z2.1, by omega⟩]
              · by_cases z3 : a = 98 ∧ i = 4
                · rw [z3.1, z3.2, zNew_4]; exact g4
                · have : zNew (pv m.1) (zNf kind e size law gate) a i = pv m.1 a i := by unfold zNew; rw [if_neg z1, if_neg z2, if_neg z3]
                  rw [this, hfr.1 a i (by omega), ← ee]
                  exact (pv_at hin).symm
          · have h1 : ∀ f : F2, pv f a i = 0 := fun f => if_neg hin
            have : zNew (pv m.1) (zNf kind e size law gate) a i = pv m.1 a i := by unfold zNew; rw [if_neg (by omega), if_neg (by omega), if_neg (by omega)]
            rw [this, h1, h1]
        have hE := zEn_44.mp hv.2.1
        refine zCt.of (by decide) (Nat.le_of_ble_eq_true rfl) (vc_X10_part_0 (d := d + 8) kind e size law gate m1 i1 i2 i3 i4 i5 (fun _ => ?_))
        rw [pv_f ee (k := 2) (by omega)]
        refine ⟨fun _ => ⟨fun _ => ⟨fun _ => ⟨fun q => absurd q hE.2.2, fun _ => ⟨fun _ => ⟨fun z => ⟨fun _ => ⟨fun z2 => ?_, fun z2 => fin⟩, fun q => absurd (hv.2.2.2.1 (by omega)) q⟩, fun z => ⟨fun z2 => absurd (by omega) z, fun z2 => fin⟩⟩, fun q => absurd hv.2.2.1 q⟩⟩, fun q => absurd hE.2.1 q⟩, fun q => absurd hE.1 q⟩, fun q => absurd hv.1 q⟩
        refine (c_X10_isGate (d := d + 8) i1 i5 hW ee).mono (fun r m3 q => ?_)
        obtain ⟨hr, hm⟩ := q
        rw [hm]
        intro _ _
        rcases hr with ⟨hr, -⟩ | ⟨-, hr⟩
        · exact ⟨fun q => absurd q (by omega), fun _ => fin⟩
        · exact absurd (hv.2.2.2.2 (by omega)) hr
    · refine zOk.no (F := -2) h ?_ (fun m1 ee f => ?_)
      · refine zCt.of (by decide) (Nat.le_of_ble_eq_true rfl) (vc_X9_part_0 (d := d + 8) kind e size law gate m i1 i2 i3 i4 i5 (fun _ => ?_))
        rw [e6, e7]
        refine ⟨fun _ => ⟨fun _ => ⟨fun _ => ⟨fun z => ⟨fun _ => ⟨fun z2 => ?_, fun z2 => ⟨fun q => absurd q hN, fun _ => ⟨rfl, rfl⟩⟩⟩, fun q => absurd (hv.2.2.2.1 (by omega)) q⟩, fun z => ⟨fun z2 => absurd (Or.inr z2) z, fun z2 => ⟨fun q => absurd q hN, fun _ => ⟨rfl, rfl⟩⟩⟩⟩, fun q => absurd hv.2.2.1 q⟩, fun q => absurd hv.2.1 q⟩, fun q => absurd hv.1 q⟩
        refine (c_X4_isGate (d := d + 8) i1 i5 hW hR).mono (fun r m3 q => ?_)
        obtain ⟨hr, hm⟩ := q
        rw [hm, e6]
        intro _ _
        rcases hr with ⟨hr, -⟩ | ⟨-, hr⟩
        · exact ⟨fun q => absurd q (by omega), fun _ => ⟨fun q => absurd q hN, fun _ => ⟨rfl, rfl⟩⟩⟩
        · exact absurd (hv.2.2.2.2 z2) hr
      · have fin : zV K mX10_part (d + 12) 87 [(0, rr K 98), (1, .int (iz kind)), (2, .int (iz e)), (3, .int (iz size)), (4, .int (iz law)), (5, .int (iz gate))] [] m1 (fun r m2 => r = -2 ∧ m2 = m1) := by
          have b4 : m1.1 98 4 = pv m.1 98 4 := pv_f ee (by omega)
          exact vc_X10_part_87 (d := d + 8) kind e size law gate m1 i1 i2 i3 i4 i5 (fun _ => ⟨fun _ => ⟨rfl, rfl⟩, fun q => absurd (by omega) q⟩)
        have hE := zEn_44.mp hv.2.1
        refine zCt.of (by decide) (Nat.le_of_ble_eq_true rfl) (vc_X10_part_0 (d := d + 8) kind e size law gate m1 i1 i2 i3 i4 i5 (fun _ => ?_))
        rw [pv_f ee (k := 2) (by omega)]
        refine ⟨fun _ => ⟨fun _ => ⟨fun _ => ⟨fun q => absurd q hE.2.2, fun _ => ⟨fun _ => ⟨fun z => ⟨fun _ => ⟨fun z2 => ?_, fun z2 => fin⟩, fun q => absurd (hv.2.2.2.1 (by omega)) q⟩, fun z => ⟨fun z2 => absurd (by omega) z, fun z2 => fin⟩⟩, fun q => absurd hv.2.2.1 q⟩⟩, fun q => absurd hE.2.1 q⟩, fun q => absurd hE.1 q⟩, fun q => absurd hv.1 q⟩
        refine (c_X10_isGate (d := d + 8) i1 i5 hW ee).mono (fun r m3 q => ?_)
        obtain ⟨hr, hm⟩ := q
        rw [hm]
        intro _ _
        rcases hr with ⟨hr, -⟩ | ⟨-, hr⟩
        · exact ⟨fun q => absurd q (by omega), fun _ => fin⟩
        · exact absurd (hv.2.2.2.2 (by omega)) hr
  · refine zOk.no (F := -1) h ?_ (fun m1 ee f => ?_)
    · refine zCt.of (by decide) (Nat.le_of_ble_eq_true rfl) (vc_X9_part_0 (d := d + 8) kind e size law gate m i1 i2 i3 i4 i5 (fun _ => ?_))
      rw [e6, e7]
      refine ⟨fun z1 => ⟨fun z2 => ⟨fun z3 => ⟨fun z4 => ⟨fun z5 => ⟨fun z6 => ?_, fun z6 => absurd ⟨z1, z2, z3, fun _ => z5, fun q => absurd q z6⟩ hv⟩, fun _ => ⟨rfl, rfl⟩⟩, fun z4 => ⟨fun z2 => absurd (Or.inr z2) z4, fun z6 => absurd ⟨z1, z2, z3, fun q => absurd (by omega) z4, fun q => absurd q z6⟩ hv⟩⟩, fun _ => ⟨rfl, rfl⟩⟩, fun _ => ⟨rfl, rfl⟩⟩, fun _ => ⟨rfl, rfl⟩⟩
      refine (c_X4_isGate (d := d + 8) i1 i5 hW hR).mono (fun r m3 q => ?_)
      obtain ⟨hr, hm⟩ := q
      rw [hm]
      intro _ _
      rcases hr with ⟨-, hr⟩ | ⟨hr, -⟩
      · exact absurd ⟨z1, z2, z3, fun _ => z5, fun _ => hr⟩ hv
      · exact ⟨fun _ => ⟨rfl, rfl⟩, fun q => absurd hr q⟩
    · refine zCt.of (by decide) (Nat.le_of_ble_eq_true rfl) (vc_X10_part_0 (d := d + 8) kind e size law gate m1 i1 i2 i3 i4 i5 (fun _ => ?_))
      rw [pv_f ee (k := 2) (by omega)]
      refine ⟨fun z1 => ⟨fun z2 => ⟨fun z2b => ⟨fun _ => ⟨rfl, rfl⟩, fun z2c => ⟨fun z3 => ⟨fun z4 => ⟨fun z5 => ⟨fun z6 => ?_, fun z6 => absurd ⟨z1, zEn_44.mpr ⟨z2, z2b, z2c⟩, z3, fun _ => z5, fun q => absurd (by omega) z6⟩ hv⟩, fun _ => ⟨rfl, rfl⟩⟩, fun z4 => ⟨fun z6 => absurd (by omega) z4, fun z6 => absurd ⟨z1, zEn_44.mpr ⟨z2, z2b, z2c⟩, z3, fun q => absurd (by omega) z4, fun q => absurd (by omega) z6⟩ hv⟩⟩, fun _ => ⟨rfl, rfl⟩⟩⟩, fun _ => ⟨rfl, rfl⟩⟩, fun _ => ⟨rfl, rfl⟩⟩, fun _ => ⟨rfl, rfl⟩⟩
      refine (c_X10_isGate (d := d + 8) i1 i5 hW ee).mono (fun r m3 q => ?_)
      obtain ⟨hr, hm⟩ := q
      rw [hm]
      intro _ _
      rcases hr with ⟨-, hr⟩ | ⟨hr, -⟩
      · exact absurd ⟨z1, zEn_44.mpr ⟨z2, z2b, z2c⟩, z3, fun _ => z5, fun _ => hr⟩ hv
      · exact ⟨fun _ => ⟨rfl, rfl⟩, fun q => absurd hr q⟩
end NEX
