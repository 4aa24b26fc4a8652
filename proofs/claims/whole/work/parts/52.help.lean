/-! ===== help() ===== -/
def zbtc (x : Int) : Int :=
  let v1 := x - (zand (zushr x 1) 1431655765)
  let v3 := (zand v1 858993459) + (zand (zushr v1 2) 858993459)
  let v5 := zand (v3 + (zushr v3 4)) 252645135
  let v7 := v5 + (zushr v5 8)
  let v9 := v7 + (zushr v7 16)
  zand v9 63
def zbcN (x : Int) : Nat → Int
  | 0 => 0
  | k + 1 => zbcN x k + zand (zshr x (k : Int)) 1
theorem zbtc_ok : ∀ x : Fin 64, zbtc (x.val : Int) = zbcN (x.val : Int) 10 := by decide +kernel
theorem zbcN_ok : ∀ (x : Fin 64) (k : Fin 11), 0 ≤ zbcN (x.val : Int) k.val ∧ zbcN (x.val : Int) k.val ≤ 10 := by decide +kernel
/-- a change done to a PART -/
def zsuf (P : F2) (p w : Int) : F2 := if w = 0 then zPt P p 4 1 else if w = 1 then zPt (zPt P p 1 (zp P p 2)) p 2 (zp P p 1) else zPt P p 3 (10 - zp P p 3)
def zchg (P : F2) (s : Int) : Nat → F2
  | 0 => P
  | k + 1 => if zand (zshr s (k : Int)) 1 = 0 then zchg P s k else zsuf (zchg P s k) (P 102 (2 * (k : Int))) (P 102 (2 * (k : Int) + 1))
def zcc (P : F2) : Nat := (P 98 7).toNat
noncomputable def zhs1 (P : F2) (few : Int) : Nat → Nat → Int
  | 0, _ => -1
  | k + 1, s => if zbcN (s : Int) 10 = few ∧ zmiss (zchg P (s : Int) (zcc P)) = 0 then (s : Int) else zhs1 P few k (s + 1)
noncomputable def zhlp (P : F2) : Nat → Nat → Int
  | 0, _ => -3
  | k + 1, n => if zhs1 P (n : Int) (2 ^ zcc P) 0 < 0 then zhlp P k (n + 1) else zhs1 P (n : Int) (2 ^ zcc P) 0
noncomputable def zqHelp (P : F2) : Int := zhlp P (zcc P + 1) 0
section HP
variable {P : F2} {p v w s : Int}
theorem zWf.pt12 (hW : zWf P) {k : Int} (hk : k = 1 ∨ k = 2) (hv : 0 ≤ v ∧ v ≤ 4) : zWf (zPt P p k v) := by
  refine hW.parts (fun a j h => zPt_ne h) (fun q a b => ?_)
  obtain ⟨g0, g1, g2, g3, g4, g5, g6, g7⟩ := wf_part hW a b
  have e : ∀ j, 0 ≤ j ∧ j < 10 → j ≠ k → zp (zPt P p k v) q j = zp P q j := fun j hj h3 => by rw [zPt_zp (by omega) hj, if_neg (fun z => h3 z.2)]
  have e1 : 0 ≤ zp (zPt P p k v) q 1 ∧ zp (zPt P p k v) q 1 ≤ 4 := by rw [zPt_zp (by omega) (by omega)]; split; exact hv; exact g1
  have e2 : 0 ≤ zp (zPt P p k v) q 2 ∧ zp (zPt P p k v) q 2 ≤ 4 := by rw [zPt_zp (by omega) (by omega)]; split; exact hv; exact g2
  unfold zPartOk
  rw [e 0 (by omega) (by omega), e 3 (by omega) (by omega), e 4 (by omega) (by omega), e 5 (by omega) (by omega), e 6 (by omega) (by omega), e 7 (by omega) (by omega), e 8 (by omega) (by omega), e 9 (by omega) (by omega), zPt_ne (by decide)]
  exact ⟨g0, e1, e2, g3, g4, g5, g6, g7⟩
theorem zsuf_ne {a k : Int} (h : a ≠ 100) : zsuf P p w a k = P a k := by
  unfold zsuf
  (repeat' split) <;> simp only [zPt_ne h]
theorem zsuf_wf (hW : zWf P) (h0 : 0 ≤ p) (h1 : p < P 98 4) : zWf (zsuf P p w) := by
  obtain ⟨g0, g1, g2, g3, g4, g5, g6, g7⟩ := wf_part hW h0 h1
  unfold zsuf
  split
  · exact hW.pt4 (by omega)
  · split
    · exact (hW.pt12 (Or.inl rfl) g2).pt12 (Or.inr rfl) g1
    · exact hW.pt3 (by omega)
theorem zchg_s (k : Nat) : zchg P s (k + 1) = if zand (zshr s (k : Int)) 1 = 0 then zchg P s k else zsuf (zchg P s k) (P 102 (2 * (k : Int))) (P 102 (2 * (k : Int) + 1)) := rfl
theorem zchg_ne {a j : Int} (h : a ≠ 100) : ∀ k : Nat, zchg P s k a j = P a j := by
  intro k
  induction k with
  | zero => rfl
  | succ k ih =>
    rw [zchg_s]
    split
    · exact ih
    · rw [zsuf_ne h]; exact ih
theorem zchg_wf (hW : zWf P) : ∀ k : Nat, k ≤ zcc P → zWf (zchg P s k) := by
  have h5 := hW.2.2.2.2.1
  intro k
  induction k with
  | zero => exact fun _ => hW
  | succ k ih =>
    intro hk
    unfold zcc at hk
    rw [zchg_s]
    split
    · exact ih (by unfold zcc; omega)
    · have hc := (hW.2.2.2.2.2.2.2.2.1 (k : Int) (by omega) (by omega)).1
      exact zsuf_wf (ih (by unfold zcc; omega)) hc.1 (by rw [zchg_ne (by decide)]; exact hc.2)
theorem zchg_wish (hWi : zWish P) (k : Nat) : zWish (zchg P s k) := hWi.parts (fun _ _ h => zchg_ne h k)
theorem zcc_b (hW : zWf P) : (zcc P : Int) = P 98 7 ∧ zcc P ≤ 6 ∧ (2 : Nat) ^ zcc P ≤ 64 ∧ zshl 1 (P 98 7) = ((2 ^ zcc P : Nat) : Int) := by
  have h5 := hW.2.2.2.2.1
  have e : (zcc P : Int) = P 98 7 := by unfold zcc; omega
  have h6 : zcc P ≤ 6 := by omega
  refine ⟨e, h6, Nat.pow_le_pow_right (by omega) h6, ?_⟩
  have := zshl_8 ⟨zcc P, by omega⟩
  rw [← e]
  exact this
end HP
section HQ
variable {K : zCx} {P : F2} {m0 : zM}
theorem c_J6_bitCount {d : Nat} {x : Nat} (hx : x < 64) : zCt K (d + 1) mJ6_bitCount_0f7a4 [.int (iz (x : Int))] m0 (fun r m1 => r = zbcN (x : Int) 10 ∧ m1 = m0) := by
  refine zCt.ofF pfBc (Nat.le_of_ble_eq_true rfl) (vc_J6_bitCount_0f7a4_0 (d := d) (x : Int) m0 (inR_b (A := 1000) (by omega) (by omega) rfl) (fun _ v1 e1 v3 e3 v5 e5 v7 e7 v9 e9 => ⟨?_, rfl⟩))
  have e : zand v9 63 = zbtc (x : Int) := by subst e1 e3 e5 e7 e9; rfl
  rw [e]
  exact zbtc_ok ⟨x, hx⟩
theorem c_X10_bits {d : Nat} {x : Nat} (hx : x < 64) : zCt K (d + 1) mX10_bits [.int (iz (x : Int))] m0 (fun r m1 => r = zbcN (x : Int) 10 ∧ m1 = m0) := by
  have loop : ∀ (n k : Nat), k + n = 10 → zV K mX10_bits (d + 1) 4 [(0, .int (iz (x : Int))), (1, .int (iz (zbcN (x : Int) k))), (2, .int (iz (k : Int)))] [] m0 (fun r m1 => r = zbcN (x : Int) 10 ∧ m1 = m0) := by
    intro n
    induction n with
    | zero =>
      intro k hk
      have hb := zbcN_ok ⟨x, hx⟩ ⟨k, by omega⟩
      have hb : 0 ≤ zbcN (x : Int) k ∧ zbcN (x : Int) k ≤ 10 := hb
      exact vc_X10_bits_4 _ _ _ m0 (inR_b (A := 1000) (by omega) (by omega) rfl) (inR_b (A := 1000) (by omega) (by omega) rfl) (inR_b (A := 1000) (by omega) (by omega) rfl) (fun _ => ⟨fun _ => ⟨by rw [show k = 10 by omega], rfl⟩, fun q => absurd (by omega) q⟩)
    | succ n ih =>
      intro k hk
      have hb := zbcN_ok ⟨x, hx⟩ ⟨k, by omega⟩
      have hb : 0 ≤ zbcN (x : Int) k ∧ zbcN (x : Int) k ≤ 10 := hb
      refine vc_X10_bits_4 _ _ _ m0 (inR_b (A := 1000) (by omega) (by omega) rfl) (inR_b (A := 1000) (by omega) (by omega) rfl) (inR_b (A := 1000) (by omega) (by omega) rfl) (fun _ => ⟨fun q => absurd q (by omega), fun _ v2 e2 => ?_⟩)
      have e : v2 = zbcN (x : Int) (k + 1) := e2
      rw [e]
      exact ih (k + 1) (by omega)
  exact zCt.of (by decide) (Nat.le_of_ble_eq_true rfl) (vc_X10_bits_0 (d := d) (x : Int) m0 (inR_b (A := 1000) (by omega) (by omega) rfl) (fun _ => loop 10 0 (by omega)))
/-- suffer(change), of a PART of the trial -/
theorem c_X3_suffer {d : Nat} {p w : Int} {Y : F2} (hW : zWf Y) (hT : RQ m0 67 Y) (h0 : 0 ≤ p) (h1 : p < Y 98 4) (hw : 0 ≤ w ∧ w ≤ 2) : zCt K (d + 1) mX3_suffer [rr K (76 + p), .int (iz w)] m0 (fun r m1 => r = 0 ∧ zFr (fun a _ => 67 ≤ a ∧ a ≤ 85) m0 m1 ∧ RQ m1 67 (zsuf Y p w)) := by
  have h4 := hW.2.2.2.1
  have hs : zsh (76 + p) = some (6, 12) := zPn67_s h0 (by omega)
  have ea : (76 + p : Int) = 67 + 9 + p := by omega
  obtain ⟨g0, g1, g2, g3, g4, g5, g6, g7⟩ := wf_part hW h0 h1
  refine zCt.of (by decide) (Nat.le_of_ble_eq_true rfl) (vc_X3_suffer_0 (d := d) (76 + p) w m0 hs (inR_b (A := 1000) (by omega) (by omega) rfl) (fun _ => ?_))
  rw [ea]
  have e1 : m0.1 (67 + 9 + p) 1 = zp Y p 1 := hT.1.part h0 h1 1 (by omega)
  have e2 : m0.1 (67 + 9 + p) 2 = zp Y p 2 := hT.1.part h0 h1 2 (by omega)
  have e3 : m0.1 (67 + 9 + p) 3 = zp Y p 3 := hT.1.part h0 h1 3 (by omega)
  unfold zsuf
  refine ⟨fun z m12 e12 _ => ⟨rfl, zFr.rf.put e12 (by omega), ?_⟩, fun z => ⟨fun z1 v6 e6 m8 e8 _ m10 e10 _ => ⟨rfl, (zFr.rf.put e8 (by omega)).put e10 (by omega), ?_⟩, fun z1 => ⟨?_, fun m4 e4 _ => ⟨rfl, zFr.rf.put e4 (by omega), ?_⟩⟩⟩⟩
  · rw [if_pos z]
    exact hT.pt (by omega) (by omega) e12
  · rw [if_neg z, if_pos z1]
    rw [e2] at e8
    rw [e6, e1] at e10
    exact (hT.pt (by omega) (by omega) e8).pt (by omega) (by omega) e10
  · rw [e3]; exact inR_b (A := 1000) (by omega) (by omega) rfl
  · rw [if_neg z, if_neg z1]
    rw [e3] at e4
    exact hT.pt (by omega) (by omega) e4
theorem c_X7_helps {d : Nat} {s : Nat} {Y : F2} (hs : s < 64) (hW : zWf P) (hWi : zWish P) (hR : RQ m0 1 P) (hT : RQ m0 67 Y) (hY : ∀ a k, a ≠ 100 → Y a k = P a k) :
    zCt K (d + 7) mX7_helps [rr K 64, rr K 1, .int (iz (s : Int))] m0 (fun r m1 => r = b2i (decide (zmiss (zchg P (s : Int) (zcc P)) = 0)) ∧ zFl zXX m0 m1 ∧ ∃ Y', RQ m1 67 Y' ∧ ∀ a k, a ≠ 100 → Y' a k = P a k) := by
  have hpl : zPl 1 := Or.inl rfl
  have hpl67 : zPl 67 := Or.inr (Or.inr rfl)
  have h4 := hW.2.2.2.1
  have h5 := hW.2.2.2.2.1
  obtain ⟨hcc, hc6, -, -⟩ := zcc_b hW
  have is : inR (s : Int) := inR_b (A := 1000) (by omega) (by omega) rfl
  refine zCt.of (by decide) (Nat.le_of_ble_eq_true rfl) (vc_X7_helps_0 (d := d) 1 (s : Int) m0 hpl is (fun _ => ?_))
  have e16 : m0.1 1 6 = P 98 4 := hR.1.2.2.2.1
  refine (c_X4_copyParts (d := d + 4) hpl67 hpl (by decide) (by rw [e16]; exact h4)).mono (fun r1 m2 h => ?_)
  obtain ⟨-, f2, c6, cp⟩ := h
  intro _ _
  have n2 : ∀ a k, ¬ ((a = 67 ∧ k = 6) ∨ (67 + 9 ≤ a ∧ a ≤ 67 + 18)) → m2.1 a k = m0.1 a k := fun a k q => f2.1 a k q
  have e98 : ∀ k, Y 98 k = P 98 k := fun k => hY 98 k (by decide)
  have hT2 : RQ m2 67 P := by
    obtain ⟨⟨t1, t2, t3, t4, t5, t6, t7, t8, t9, t10⟩, tw⟩ := hT
    rw [e16] at cp c6
    refine ⟨⟨?_, ?_, ?_, by rw [c6], ?_, fun i a b => ?_, fun p k a b c e => ?_, fun p a b => ?_, fun k a b => ?_, fun i a b => ?_⟩, ?_⟩
    · rw [n2 _ _ (by omega), t1, e98]
    · rw [n2 _ _ (by omega), t2, e98]
    · rw [n2 _ _ (by omega), t3, e98]
    · rw [n2 _ _ (by omega), t5, e98]
    · rw [n2 _ _ (by omega), t6 i a (by rw [e98]; exact b), hY 99 i (by decide)]
    · rw [cp p k a b c (by omega)]; exact hR.1.part a b k ⟨c, e⟩
    · rw [cp p 10 a b (by omega) (by omega), cp p 11 a b (by omega) (by omega)]; exact hR.1.2.2.2.2.2.2.2.1 p a b
    · rw [n2 _ _ (by omega), n2 _ _ (by omega), (t9 k a (by rw [e98]; exact b)).1, (t9 k a (by rw [e98]; exact b)).2, hY 102 _ (by decide), hY 102 _ (by decide)]; exact ⟨rfl, rfl⟩
    · rw [n2 _ _ (by omega), t10 i a b, hY 103 i (by decide)]
    · exact RW.parts (tw.kept (fun a k x y => n2 a k (by omega))) (fun a k h => (hY a k h).symm)
  have hF2 : zFl zXX m0 m2 := f2.l.mono (fun a k q => by unfold zXX; omega)
  have loop : ∀ (n k : Nat), k + n = zcc P → ∀ m, zFl zXX m0 m → RQ m 67 (zchg P (s : Int) k) → zV K mX7_helps (d + 7) 10 [(0, rr K 64), (1, rr K 1), (2, .int (iz (s : Int))), (3, .int (iz (k : Int)))] [] m (fun r m1 => r = b2i (decide (zmiss (zchg P (s : Int) (zcc P)) = 0)) ∧ zFl zXX m0 m1 ∧ ∃ Y', RQ m1 67 Y' ∧ ∀ a k, a ≠ 100 → Y' a k = P a k) := by
    intro n
    induction n with
    | zero =>
      intro k hk m hF hT'
      have hR1 := hR.xx hW (Or.inl rfl) hF
      have e8 : m.1 1 8 = P 98 7 := hR1.1.2.2.2.2.1
      have ek : k = zcc P := by omega
      subst ek
      have hWc : zWf (zchg P (s : Int) (zcc P)) := zchg_wf hW _ (Nat.le_refl _)
      refine vc_X7_helps_10 _ _ 1 m is (inR_b (A := 1000) (by omega) (by omega) rfl) hpl (fun _ => ⟨fun _ => ?_, fun q => absurd (by omega) q⟩)
      refine (c_X7_allMet (d := d) hpl67 hWc (zchg_wish hWi _) hT').mono (fun r2 m3 h => ?_)
      obtain ⟨hr, f3⟩ := h
      intro _ _
      rw [hr]
      exact ⟨b2i_01 _, rfl, hF.tr (f3.mono zXS_XX), _, hT'.fl hWc hpl67 f3, fun a k h => zchg_ne h _⟩
    | succ n ih =>
      intro k hk m hF hT'
      have hR1 := hR.xx hW (Or.inl rfl) hF
      have e8 : m.1 1 8 = P 98 7 := hR1.1.2.2.2.2.1
      have hch := hR1.1.2.2.2.2.2.2.2.2.1 (k : Int) (by omega) (by omega)
      have hcr := hW.2.2.2.2.2.2.2.2.1 (k : Int) (by omega) (by omega)
      refine vc_X7_helps_10 _ _ 1 m is (inR_b (A := 1000) (by omega) (by omega) rfl) hpl (fun _ => ⟨fun q => absurd q (by omega), fun _ => ⟨fun z => ?_, fun z => ⟨by omega, by omega, ?_⟩⟩⟩)
      · refine ih (k + 1) (by omega) m hF ?_
        rw [zchg_s, if_pos z]
        exact hT'
      · rw [hch.1, hch.2]
        refine ⟨by omega, by omega, ?_⟩
        refine (c_X3_suffer (d := d + 5) (zchg_wf hW k (by omega)) hT' hcr.1.1 (by rw [zchg_ne (by decide)]; exact hcr.1.2) hcr.2).mono (fun r10 m11 h => ?_)
        obtain ⟨-, f11, hT11⟩ := h
        intro _ _
        refine ih (k + 1) (by omega) m11 (hF.tr (f11.l.mono (fun a k q => by unfold zXX; omega))) ?_
        rw [zchg_s, if_neg z]
        exact hT11
  exact loop (zcc P) 0 (by omega) m2 hF2 hT2
theorem c_X9_help {d : Nat} (hW : zWf P) (hWi : zWish P) (hR : RQ m0 1 P) : zCt K (d + 9) mX9_help [rr K 0] m0 (fun r m1 => r = zqHelp P ∧ zFl zXX m0 m1) := by
  have hpl : zPl 1 := Or.inl rfl
  obtain ⟨hcc, hc6, hc64, hsh⟩ := zcc_b hW
  have hpl67 : zPl 67 := Or.inr (Or.inr rfl)
  refine zCt.of (by decide) (Nat.le_of_ble_eq_true rfl) (vc_X9_help_0 (d := d) m0 (fun _ => ?_))
  refine (zCt.of (by decide) (Nat.le_of_ble_eq_true rfl) (vc_X7_fewestChanges_0 (d := d) 1 m0 hpl (Q := fun r m1 => r = zqHelp P ∧ zFl zXX m0 m1) (fun _ => ?_))).mono (fun r m1 h _ _ => h)
  refine (c_X4_copyFrom (d := d + 4) hpl67 hpl (by decide) hW hWi hR).mono (fun r1 m2 h => ?_)
  obtain ⟨-, f2, hT2⟩ := h
  intro _ _
  have hF2 : zFl zXX m0 m2 := f2.l.mono (fun a k q => by unfold zXX; omega)
  have few : ∀ (n f : Nat), f + n = zcc P + 1 → ∀ m, zFl zXX m0 m → (∃ Y, RQ m 67 Y ∧ ∀ a k, a ≠ 100 → Y a k = P a k) → zV K mX7_fewestChanges (d + 8) 10 [(0, rr K 64), (1, rr K 1), (2, .int (iz (f : Int)))] [] m (fun r m1 => r = zhlp P n f ∧ zFl zXX m0 m1) := by
    intro n
    induction n with
    | zero =>
      intro f hf m hF _
      have e8 : m.1 1 8 = P 98 7 := (hR.xx hW (Or.inl rfl) hF).1.2.2.2.2.1
      exact vc_X7_fewestChanges_10 _ 1 m (inR_b (A := 1000) (by omega) (by omega) rfl) hpl (fun _ => ⟨fun _ => ⟨rfl, hF⟩, fun q => absurd (by omega) q⟩)
    | succ n ih =>
      intro f hf m hF hY
      have e8 : m.1 1 8 = P 98 7 := (hR.xx hW (Or.inl rfl) hF).1.2.2.2.2.1
      have es : zhlp P (n + 1) f = if zhs1 P (f : Int) (2 ^ zcc P) 0 < 0 then zhlp P n (f + 1) else zhs1 P (f : Int) (2 ^ zcc P) 0 := rfl
      have sets : ∀ (n' s : Nat), s + n' = 2 ^ zcc P → ∀ m, zFl zXX m0 m → (∃ Y, RQ m 67 Y ∧ ∀ a k, a ≠ 100 → Y a k = P a k) → zV K mX7_fewestChanges (d + 8) 20 [(0, rr K 64), (1, rr K 1), (2, .int (iz (f : Int))), (3, .int (iz (s : Int)))] [] m (fun r m1 => r = (if zhs1 P (f : Int) n' s < 0 then zhlp P n (f + 1) else zhs1 P (f : Int) n' s) ∧ zFl zXX m0 m1) := by
        intro n'
        induction n' with
        | zero =>
          intro s hs m hF hY
          have e8 : m.1 1 8 = P 98 7 := (hR.xx hW (Or.inl rfl) hF).1.2.2.2.2.1
          refine vc_X7_fewestChanges_20 _ _ 1 m (inR_b (A := 1000) (by omega) (by omega) rfl) (inR_b (A := 1000) (by omega) (by omega) rfl) hpl (fun _ => ⟨fun _ => ?_, fun q => absurd (by rw [e8, hsh]; omega) q⟩)
          rw [if_pos (show zhs1 P (f : Int) 0 s < 0 by show (-1 : Int) < 0; decide)]
          exact ih (f + 1) (by omega) m hF hY
        | succ n' ih' =>
          intro s hs m hF hY
          have hR1 := hR.xx hW (Or.inl rfl) hF
          have e8 : m.1 1 8 = P 98 7 := hR1.1.2.2.2.2.1
          have e1 : zhs1 P (f : Int) (n' + 1) s = if zbcN (s : Int) 10 = (f : Int) ∧ zmiss (zchg P (s : Int) (zcc P)) = 0 then (s : Int) else zhs1 P (f : Int) n' (s + 1) := rfl
          refine vc_X7_fewestChanges_20 _ _ 1 m (inR_b (A := 1000) (by omega) (by omega) rfl) (inR_b (A := 1000) (by omega) (by omega) rfl) hpl (fun _ => ⟨fun q => absurd q (by rw [e8, hsh]; omega), fun _ => ?_⟩)
          refine (c_J6_bitCount (d := d + 6) (x := s) (by omega)).mono (fun r2 m3 h => ?_)
          obtain ⟨hr2, hm3⟩ := h
          rw [hm3, hr2]
          intro _ _
          refine ⟨fun z => ?_, fun z => ?_⟩
          · obtain ⟨Y, hT, hYe⟩ := hY
            refine (c_X7_helps (d := d) (s := s) (by omega) hW hWi hR1 hT hYe).mono (fun r5 m6 h => ?_)
            obtain ⟨hr5, f6, hY6⟩ := h
            intro _ _
            refine ⟨fun z5 => ?_, fun z5 => ?_⟩
            · rw [if_neg (fun y => b2i_fp (by rw [← hr5]; exact z5) y.2)] at e1
              rw [e1]
              exact ih' (s + 1) (by omega) m6 (hF.tr f6) hY6
            · rw [if_pos ⟨z, b2i_tp (by rw [← hr5]; exact z5)⟩] at e1
              rw [e1, if_neg (by omega)]
              exact ⟨rfl, hF.tr f6⟩
          · rw [if_neg (fun y => z y.1)] at e1
            rw [e1]
            exact ih' (s + 1) (by omega) m hF hY
      rw [es]
      exact vc_X7_fewestChanges_10 _ 1 m (inR_b (A := 1000) (by omega) (by omega) rfl) hpl (fun _ => ⟨fun q => absurd q (by omega), fun _ => sets (2 ^ zcc P) 0 (by omega) m hF hY⟩)
  exact few (zcc P + 1) 0 (by omega) m2 hF2 ⟨P, hT2, fun _ _ _ => rfl⟩
theorem c_X10_helps {d : Nat} {s : Nat} (hs : s < 64) (hP : pv m0.1 = P) (hW : zWf P) (hWi : zWish P) (hC : zCame m0) (hB : m0.1 98 18 ≤ 1100000000) : zCt K (d + 7) mX10_helps [rr K 98, .int (iz (s : Int))] m0 (fun r m1 => r = b2i (decide (zmiss (zchg P (s : Int) (zcc P)) = 0)) ∧ zGd 9 m0 m1) := by
  have h4 := hW.2.2.2.1
  obtain ⟨hcc, hc6, -, -⟩ := zcc_b hW
  have is : inR (s : Int) := inR_b (A := 1000) (by omega) (by omega) rfl
  -- all is put back
  have back : ∀ (b : Bool) (n k : Nat), k + n = 100 → ∀ m, zGe 9 m0 m → (∀ j, 0 ≤ j → j < 100 → m.1 121 j = P 100 j) → (∀ j, ¬ ((k : Int) ≤ j ∧ j < 100) → m.1 100 j = P 100 j) → (∀ a j, ((a = 98 ∧ 0 ≤ j ∧ j ≤ 17) ∨ (99 ≤ a ∧ a ≤ 105)) → a ≠ 100 → m.1 a j = m0.1 a j) → zV K mX10_helps (d + 7) 180 [(0, rr K 98), (2, .int (iz (b2i b))), (3, .int (iz (k : Int)))] [] m (fun r m1 => r = b2i b ∧ zGd 9 m0 m1) := by
    intro b n
    have ib : inR (b2i b) := inR_b2i b
    induction n with
    | zero =>
      intro k hk m hG h121 h100 hel
      refine vc_X10_helps_180 _ _ m ib (inR_b (A := 1000) (by omega) (by omega) rfl) (fun _ => ⟨fun _ => ⟨b2i_01 b, rfl, hG.back (pv_eq (fun a j q => ?_))⟩, fun q => absurd (by omega) q⟩)
      by_cases z : a = 100
      · rw [z, h100 j (by omega)]; exact (pv_r hP (by omega) j).symm
      · exact hel a j q z
    | succ n ih =>
      intro k hk m hG h121 h100 hel
      refine vc_X10_helps_180 _ _ m ib (inR_b (A := 1000) (by omega) (by omega) rfl) (fun _ => ⟨fun q => absurd q (by omega), fun _ => ⟨by omega, by omega, fun m5 e5 _ => ih (k + 1) (by omega) m5 (hG.put e5 (Or.inr rfl) (by unfold zSc; omega)) (fun j a c => ?_) (fun j q => ?_) (fun a j q z => ?_)⟩⟩)
      · rw [e5, sI_ne (Or.inl (by omega))]; exact h121 j a c
      · rw [e5, sI_at]
        by_cases y : j = k
        · rw [if_pos ⟨rfl, y⟩, y]; exact h121 _ (by omega) (by omega)
        · rw [if_neg (fun z => y z.2)]; exact h100 j (by omega)
      · rw [e5, sI_ne (Or.inl z)]; exact hel a j q z
  have done : ∀ (n k : Nat), k + n = zcc P → ∀ m, zGe 0 m0 m → (∀ j, 0 ≤ j → j < 100 → m.1 121 j = P 100 j) → pv m.1 = zchg P (s : Int) k → (∀ j, ¬ (0 ≤ j ∧ j < 100) → m.1 100 j = P 100 j) → zV K mX10_helps (d + 7) 28 [(0, rr K 98), (1, .int (iz (s : Int))), (2, .int (iz (k : Int)))] [] m (fun r m1 => r = b2i (decide (zmiss (zchg P (s : Int) (zcc P)) = 0)) ∧ zGd 9 m0 m1) := by
    intro n
    induction n with
    | zero =>
      intro k hk m hG h121 hm h100
      have e7 : m.1 98 7 = P 98 7 := by rw [pv_f hm (by omega)]; exact zchg_ne (by decide) k
      have ek : k = zcc P := by omega
      subst ek
      have hWc : zWf (zchg P (s : Int) (zcc P)) := zchg_wf hW _ (Nat.le_refl _)
      refine vc_X10_helps_28 _ _ m is (inR_b (A := 1000) (by omega) (by omega) rfl) (fun _ => ⟨fun _ => ?_, fun q => absurd (by omega) q⟩)
      refine (c_X10_missing (d := d) hm hWc (zchg_wish hWi _) hG.2.1 (by have := hG.2.2; omega)).mono (fun r2 m3 h => ?_)
      obtain ⟨hr, g3⟩ := h
      intro _ _ v4 e4
      have ev : v4 = b2i (decide (zmiss (zchg P (s : Int) (zcc P)) = 0)) := by
        rw [e4, hr]
        by_cases z : zmiss (zchg P (s : Int) (zcc P)) = 0
        · rw [if_pos z, b2i_p z]
        · rw [if_neg z, b2i_n z]
      rw [ev]
      have n3 : ∀ a j, ¬ zSc a j → m3.1 a j = m.1 a j := fun a j q => g3.1.1 a j q
      have hm3 : pv m3.1 = zchg P (s : Int) (zcc P) := g3.1.pv.trans hm
      refine back _ 100 0 (by omega) m3 ((hG.tr g3.e).le (by omega)) (fun j a b => by rw [n3 _ _ (by unfold zSc; omega)]; exact h121 j a b) (fun j q => by rw [n3 _ _ (by unfold zSc; omega)]; exact h100 j (by omega)) (fun a j q z => ?_)
      have h1 : m3.1 a j = zchg P (s : Int) (zcc P) a j := by rw [← hm3]; exact (pv_at q).symm
      rw [h1, zchg_ne z, ← hP]
      exact pv_at q
    | succ n ih =>
      intro k hk m hG h121 hm h100
      have e98 : ∀ j, 0 ≤ j ∧ j ≤ 17 → m.1 98 j = P 98 j := fun j hj => by rw [pv_f hm hj]; exact zchg_ne (by decide) k
      have e7 := e98 7 (by omega)
      have e102 : ∀ j, m.1 102 j = P 102 j := fun j => by rw [pv_r hm (by omega)]; exact zchg_ne (by decide) k
      have hcr := hW.2.2.2.2.2.2.2.2.1 (k : Int) (by omega) (by omega)
      have hWk : zWf (zchg P (s : Int) k) := zchg_wf hW k (by omega)
      obtain ⟨g0, g1, g2, g3, g4, g5, g6, g7⟩ := wf_part hWk hcr.1.1 (by rw [zchg_ne (by decide)]; exact hcr.1.2)
      have ep : ∀ j, m.1 100 (10 * P 102 (2 * (k : Int)) + j) = zp (zchg P (s : Int) k) (P 102 (2 * (k : Int))) j := fun j => pv_r hm (by omega) _
      have next : ∀ (m' : zM), zGe 0 m0 m' → (∀ j, m'.1 121 j = m.1 121 j) → pv m'.1 = zchg P (s : Int) (k + 1) → (∀ j, ¬ (0 ≤ j ∧ j < 100) → m'.1 100 j = m.1 100 j) → zV K mX10_helps (d + 7) 28 [(0, rr K 98), (1, .int (iz (s : Int))), (2, .int (iz ((k : Int) + 1)))] [] m' (fun r m1 => r = b2i (decide (zmiss (zchg P (s : Int) (zcc P)) = 0)) ∧ zGd 9 m0 m1) :=
        fun m' hG' a b c => ih (k + 1) (by omega) m' hG' (fun j x y => by rw [a]; exact h121 j x y) b (fun j q => by rw [c j q]; exact h100 j q)
      refine vc_X10_helps_28 _ _ m is (inR_b (A := 1000) (by omega) (by omega) rfl) (fun _ => ⟨fun q => absurd q (by omega), fun _ => ⟨by omega, by omega, fun v9 e9 => ?_⟩⟩)
      rw [e102] at e9
      refine ⟨fun z => ⟨fun q => absurd q (by decide), fun _ => ⟨fun q => absurd q (by decide), fun _ => ⟨fun q => absurd q (by decide), fun _ => next m hG (fun _ => rfl) (by rw [zchg_s, if_pos z]; exact hm) (fun _ _ => rfl)⟩⟩⟩, fun z => ⟨by omega, by omega, fun v14 e14 => ?_⟩⟩
      rw [e102] at e14
      have ec : zchg P (s : Int) (k + 1) = zsuf (zchg P (s : Int) k) (P 102 (2 * (k : Int))) v14 := by rw [zchg_s, if_neg z, e14]
      subst e9
      unfold zsuf at ec
      refine ⟨fun z0 => ⟨by omega, by omega, fun m36 e36 _ => ?_⟩, fun z0 => ⟨fun z1 => ⟨by omega, by omega, fun v26 e26 => ⟨by omega, by omega, fun m30 e30 _ m32 e32 _ => ?_⟩⟩, fun z1 => ⟨fun z2 => ⟨by omega, by omega, ?_, fun m22 e22 _ => ?_⟩, fun z2 => absurd hcr.2 (by omega)⟩⟩⟩
      · rw [if_pos z0] at ec
        refine next m36 (hG.put e36 (Or.inr rfl) (by unfold zSc; omega)) (fun j => by rw [e36, sI_ne (Or.inl (by omega))]) (by rw [ec]; exact pv_pt hm e36) (fun j q => by rw [e36, sI_ne (Or.inr (by omega))])
      · rw [if_neg z0, if_pos z1] at ec
        rw [ep 2] at e30
        rw [ep 1] at e26
        rw [e26] at e32
        refine next m32 ((hG.put e30 (Or.inr rfl) (by unfold zSc; omega)).put e32 (Or.inr rfl) (by unfold zSc; omega)) (fun j => by rw [e32, sI_ne (Or.inl (by omega)), e30, sI_ne (Or.inl (by omega))]) (by rw [ec]; exact pv_pt (pv_pt hm e30) e32) (fun j q => by rw [e32, sI_ne (Or.inr (by omega)), e30, sI_ne (Or.inr (by omega))])
      · rw [ep 3]; exact inR_b (A := 1000) (by omega) (by omega) rfl
      · rw [if_neg z0, if_neg z1] at ec
        rw [ep 3] at e22
        refine next m22 (hG.put e22 (Or.inr rfl) (by unfold zSc; omega)) (fun j => by rw [e22, sI_ne (Or.inl (by omega))]) (by rw [ec]; exact pv_pt hm e22) (fun j q => by rw [e22, sI_ne (Or.inr (by omega))])
  have save : ∀ (n k : Nat), k + n = 100 → ∀ m, zFr (fun a _ => a = 121) m0 m → (∀ j, 0 ≤ j → j < (k : Int) → m.1 121 j = P 100 j) → zV K mX10_helps (d + 7) 2 [(0, rr K 98), (1, .int (iz (s : Int))), (2, .int (iz (k : Int)))] [] m (fun r m1 => r = b2i (decide (zmiss (zchg P (s : Int) (zcc P)) = 0)) ∧ zGd 9 m0 m1) := by
    intro n
    induction n with
    | zero =>
      intro k hk m hF h121
      refine vc_X10_helps_2 _ _ m is (inR_b (A := 1000) (by omega) (by omega) rfl) (fun _ => ⟨fun _ => ?_, fun q => absurd (by omega) q⟩)
      refine done (zcc P) 0 (by omega) m ((zGe.rf hC).fr hF (fun a k q => ⟨Or.inl (Or.inr (Or.inr (Or.inr q))), by unfold zSc; omega⟩)) (fun j a b => h121 j a (by omega)) ?_ (fun j q => ?_)
      · rw [← hP]; exact pv_eq (fun a k q => hF.1 a k (by omega))
      · rw [hF.1 _ _ (by omega)]; exact pv_r hP (by omega) j
    | succ n ih =>
      intro k hk m hF h121
      refine vc_X10_helps_2 _ _ m is (inR_b (A := 1000) (by omega) (by omega) rfl) (fun _ => ⟨fun q => absurd q (by omega), fun _ => ⟨by omega, by omega, fun m4 e4 _ => ih (k + 1) (by omega) m4 (hF.put e4 rfl) (fun j a b => ?_)⟩⟩)
      rw [e4, sI_at]
      by_cases y : j = k
      · rw [if_pos ⟨rfl, y⟩, y, hF.1 _ _ (by omega)]; exact pv_r hP (by omega) _
      · rw [if_neg (fun z => y z.2)]; exact h121 j a (by omega)
  exact zCt.of (by decide) (Nat.le_of_ble_eq_true rfl) (vc_X10_helps_0 (d := d) (s : Int) m0 is (fun _ => save 100 0 (by omega) m0 zFr.rf (fun j a b => absurd b (by omega))))
theorem zGd.tr {a b : Int} {m m1 m2 : zM} (h : zGd a m m1) (h2 : zGd b m1 m2) : zGd (a + b) m m2 := ⟨h.1.tr h2.1, h2.2.1, by have := h.2.2; have := h2.2.2; omega⟩
theorem c_X10_help {d : Nat} (hP : pv m0.1 = P) (hW : zWf P) (hWi : zWish P) (hC : zCame m0) (hB : m0.1 98 18 ≤ 1000000000) : zCt K (d + 8) mX10_help [rr K 98] m0 (fun r m1 => r = zqHelp P ∧ zGd 5000 m0 m1) := by
  obtain ⟨hcc, hc6, hc64, hsh⟩ := zcc_b hW
  have few : ∀ (n f : Nat), f + n = zcc P + 1 → ∀ m, zGd (576 * (f : Int)) m0 m → zV K mX10_help (d + 8) 2 [(0, rr K 98), (1, .int (iz (f : Int)))] [] m (fun r m1 => r = zhlp P n f ∧ zGd 5000 m0 m1) := by
    intro n
    induction n with
    | zero =>
      intro f hf m hG
      have e7 : m.1 98 7 = P 98 7 := pv_f (hG.pv.trans hP) (by omega)
      exact vc_X10_help_2 _ m (inR_b (A := 1000) (by omega) (by omega) rfl) (fun _ => ⟨fun _ => ⟨rfl, hG.le (by omega)⟩, fun q => absurd (by omega) q⟩)
    | succ n ih =>
      intro f hf m hG
      have e7 : m.1 98 7 = P 98 7 := pv_f (hG.pv.trans hP) (by omega)
      have es : zhlp P (n + 1) f = if zhs1 P (f : Int) (2 ^ zcc P) 0 < 0 then zhlp P n (f + 1) else zhs1 P (f : Int) (2 ^ zcc P) 0 := rfl
      have sets : ∀ (n' s : Nat), s + n' = 2 ^ zcc P → ∀ m, zGd (576 * (f : Int) + 9 * (s : Int)) m0 m → zV K mX10_help (d + 8) 12 [(0, rr K 98), (1, .int (iz (f : Int))), (2, .int (iz (s : Int)))] [] m (fun r m1 => r = (if zhs1 P (f : Int) n' s < 0 then zhlp P n (f + 1) else zhs1 P (f : Int) n' s) ∧ zGd 5000 m0 m1) := by
        intro n'
        induction n' with
        | zero =>
          intro s hs m hG
          have e7 : m.1 98 7 = P 98 7 := pv_f (hG.pv.trans hP) (by omega)
          refine vc_X10_help_12 _ _ m (inR_b (A := 1000) (by omega) (by omega) rfl) (inR_b (A := 1000) (by omega) (by omega) rfl) (fun _ => ⟨fun _ => ?_, fun q => absurd (by rw [e7, hsh]; omega) q⟩)
          rw [if_pos (show zhs1 P (f : Int) 0 s < 0 by show (-1 : Int) < 0; decide)]
          exact ih (f + 1) (by omega) m (hG.le (by omega))
        | succ n' ih' =>
          intro s hs m hG
          have hm := hG.pv.trans hP
          have e7 : m.1 98 7 = P 98 7 := pv_f hm (by omega)
          have e1 : zhs1 P (f : Int) (n' + 1) s = if zbcN (s : Int) 10 = (f : Int) ∧ zmiss (zchg P (s : Int) (zcc P)) = 0 then (s : Int) else zhs1 P (f : Int) n' (s + 1) := rfl
          refine vc_X10_help_12 _ _ m (inR_b (A := 1000) (by omega) (by omega) rfl) (inR_b (A := 1000) (by omega) (by omega) rfl) (fun _ => ⟨fun q => absurd q (by rw [e7, hsh]; omega), fun _ => ?_⟩)
          refine (c_X10_bits (d := d + 6) (x := s) (by omega)).mono (fun r2 m3 h => ?_)
          obtain ⟨hr2, hm3⟩ := h
          rw [hm3, hr2]
          intro _ _
          refine ⟨fun z => ?_, fun z => ?_⟩
          · refine (c_X10_helps (d := d) (s := s) (by omega) hm hW hWi hG.2.1 (by have := hG.2.2; omega)).mono (fun r5 m6 h => ?_)
            obtain ⟨hr5, g6⟩ := h
            intro _ _
            refine ⟨fun z5 => ?_, fun z5 => ?_⟩
            · rw [if_neg (fun y => b2i_fp (by rw [← hr5]; exact z5) y.2)] at e1
              rw [e1]
              exact ih' (s + 1) (by omega) m6 ((hG.tr g6).le (by omega))
            · rw [if_pos ⟨z, b2i_tp (by rw [← hr5]; exact z5)⟩] at e1
              rw [e1, if_neg (by omega)]
              exact ⟨rfl, (hG.tr g6).le (by omega)⟩
          · rw [if_neg (fun y => z y.1)] at e1
            rw [e1]
            exact ih' (s + 1) (by omega) m (hG.le (by omega))
      rw [es]
      exact vc_X10_help_2 _ m (inR_b (A := 1000) (by omega) (by omega) rfl) (fun _ => ⟨fun q => absurd q (by omega), fun _ => sets (2 ^ zcc P) 0 (by omega) m (hG.le (by omega))⟩)
  exact zCt.of (by decide) (Nat.le_of_ble_eq_true rfl) (vc_X10_help_0 (d := d) m0 (fun _ => few (zcc P + 1) 0 (by omega) m0 (((zGo.rf hC).d).le (by omega))))
end HQ
