/-! ===== the OPEN PARTS, in their order ===== -/
def zoN (P : F2) : Nat → Nat
  | 0 => 0
  | k + 1 => zoN P k + (if 0 < P 101 (2 * (k : Int) + 1) then 1 else 0)
def zon (P : F2) (j : Nat) : Nat → Int
  | 0 => 0
  | k + 1 => if 0 < P 101 (2 * (k : Int) + 1) ∧ zoN P k = j then (k : Int) else zon P j k
def zop (P : F2) (j : Nat) : Int := zon P j (P 98 4).toNat
def zoc (P : F2) : Nat := zoN P (P 98 4).toNat
section OP
variable {P : F2}
theorem zoN_s (k : Nat) : zoN P (k + 1) = zoN P k + (if 0 < P 101 (2 * (k : Int) + 1) then 1 else 0) := rfl
theorem zoN_le : ∀ n k : Nat, zoN P k ≤ zoN P (k + n) := by
  intro n
  induction n with
  | zero => exact fun k => Nat.le_refl _
  | succ n ih =>
    intro k
    have := ih k
    rw [show k + (n + 1) = (k + n) + 1 by omega, zoN_s]
    omega
theorem zoN_mono {a b : Nat} (h : a ≤ b) : zoN P a ≤ zoN P b := by
  have := zoN_le (P := P) (b - a) a
  rw [show a + (b - a) = b by omega] at this
  exact this
theorem zoN_lt {a b : Nat} (h : a < b) (ho : 0 < P 101 (2 * (a : Int) + 1)) : zoN P a < zoN P b := by
  have := zoN_mono (P := P) (show a + 1 ≤ b by omega)
  rw [zoN_s, if_pos ho] at this
  omega
theorem zon_at : ∀ (k q : Nat), q < k → 0 < P 101 (2 * (q : Int) + 1) → zon P (zoN P q) k = q := by
  intro k
  induction k with
  | zero => exact fun q h => absurd h (by omega)
  | succ k ih =>
    intro q hq ho
    unfold zon
    by_cases e : q = k
    · subst e; rw [if_pos ⟨ho, rfl⟩]
    · have := zoN_lt (P := P) (show q < k by omega) ho
      rw [if_neg (by omega)]
      exact ih q (by omega) ho
theorem zoN_ex : ∀ (k j : Nat), j < zoN P k → ∃ q : Nat, q < k ∧ 0 < P 101 (2 * (q : Int) + 1) ∧ zoN P q = j := by
  intro k
  induction k with
  | zero => exact fun j h => absurd h (Nat.not_lt_zero _)
  | succ k ih =>
    intro j hj
    by_cases h : j < zoN P k
    · obtain ⟨q, a, b, c⟩ := ih j h
      exact ⟨q, by omega, b, c⟩
    · rw [zoN_s] at hj
      by_cases ho : 0 < P 101 (2 * (k : Int) + 1)
      · rw [if_pos ho] at hj
        exact ⟨k, by omega, ho, by omega⟩
      · rw [if_neg ho] at hj
        omega
theorem zop_ex {j : Nat} (hW : zWf P) (hj : j < zoc P) : ∃ q : Nat, zop P j = q ∧ (q : Int) < P 98 4 ∧ 0 < P 101 (2 * (q : Int) + 1) ∧ zoN P q = j := by
  obtain ⟨q, a, b, c⟩ := zoN_ex _ _ hj
  have h4 := hW.2.2.2.1
  refine ⟨q, ?_, by omega, b, c⟩
  unfold zop
  rw [← c]
  exact zon_at _ q a b
theorem zop_at {q : Nat} (hq : (q : Int) < P 98 4) (ho : 0 < P 101 (2 * (q : Int) + 1)) : zop P (zoN P q) = q ∧ zoN P q < zoc P := ⟨zon_at _ q (by omega) ho, zoN_lt (by omega) ho⟩
theorem zop_r {j : Nat} (hW : zWf P) (hj : j < zoc P) : (0 ≤ zop P j ∧ zop P j < P 98 4) ∧ 1 ≤ P 101 (2 * zop P j) ∧ P 101 (2 * zop P j) ≤ P 101 (2 * zop P j + 1) ∧ P 101 (2 * zop P j + 1) ≤ 9 ∧ P 101 (2 * zop P j + 1) - P 101 (2 * zop P j) ≤ 3 := by
  obtain ⟨q, e, a, b, -⟩ := zop_ex hW hj
  rw [e]
  have := hW.2.2.2.2.2.2.2.1 (q : Int) (by omega) a
  unfold zOpenOk at this
  omega
/-- the PLAN with a row of SIZES for its OPEN PARTS -/
def zRw (P : F2) (w : Nat → Int) : F2 := fun a k => if a = 100 ∧ (0 ≤ k ∧ k < 10 * P 98 4 ∧ k % 10 = 3) ∧ 0 < P 101 (2 * (k / 10) + 1) then w (zoN P (k / 10).toNat) else P a k
theorem zRw_ne {w : Nat → Int} {a k : Int} (h : a ≠ 100) : zRw P w a k = P a k := if_neg (fun z => h z.1)
theorem zRw_congr {w w' : Nat → Int} (h : ∀ i, i < zoc P → w i = w' i) : zRw P w = zRw P w' := by
  funext a k
  unfold zRw
  split
  · rename_i z
    have e : ((k / 10).toNat : Int) = k / 10 := by omega
    have := (zop_at (P := P) (q := (k / 10).toNat) (by omega) (by rw [e]; exact z.2.2)).2
    exact h _ this
  · rfl
theorem zRw_up {w : Nat → Int} {j : Nat} {x : Int} (hW : zWf P) (hj : j < zoc P) : zPt (zRw P w) (zop P j) 3 x = zRw P (fun i => if i = j then x else w i) := by
  obtain ⟨q, e, a, b, c⟩ := zop_ex hW hj
  funext d k
  unfold zPt
  rw [zup_at, e]
  unfold zRw
  by_cases z : d = 100 ∧ k = 10 * (q : Int) + 3
  · have e1 : k / 10 = q := by omega
    rw [if_pos z, if_pos ⟨z.1, by omega, by rw [e1]; exact b⟩, e1]
    rw [show ((q : Int)).toNat = q by omega]
    exact (if_pos c).symm
  · rw [if_neg z]
    by_cases y : d = 100 ∧ (0 ≤ k ∧ k < 10 * P 98 4 ∧ k % 10 = 3) ∧ 0 < P 101 (2 * (k / 10) + 1)
    · rw [if_pos y, if_pos y]
      have e1 : ((k / 10).toNat : Int) = k / 10 := by omega
      have h1 := (zop_at (P := P) (q := (k / 10).toNat) (by omega) (by rw [e1]; exact y.2.2)).1
      refine (if_neg (fun h2 => ?_)).symm
      rw [h2, e] at h1
      omega
    · rw [if_neg y, if_neg y]
theorem zRw_id {w : Nat → Int} (hW : zWf P) (h : ∀ i, i < zoc P → w i = zp P (zop P i) 3) : zRw P w = P := by
  funext a k
  unfold zRw
  split
  · rename_i z
    have e : ((k / 10).toNat : Int) = k / 10 := by omega
    have h1 := zop_at (P := P) (q := (k / 10).toNat) (by omega) (by rw [e]; exact z.2.2)
    rw [h _ h1.2, h1.1, z.1]
    unfold zp
    rw [e, show 10 * (k / 10) + 3 = k by omega]
  · rfl
theorem zRw_zp {w : Nat → Int} {q j : Int} (h0 : 0 ≤ q) (h1 : q < P 98 4) (hj : 0 ≤ j ∧ j < 10) : zp (zRw P w) q j = if j = 3 ∧ 0 < P 101 (2 * q + 1) then w (zoN P q.toNat) else zp P q j := by
  unfold zp zRw
  have e : (10 * q + j) / 10 = q := by omega
  rw [e]
  by_cases z : j = 3 ∧ 0 < P 101 (2 * q + 1)
  · rw [if_pos z, if_pos ⟨rfl, by omega, z.2⟩]
  · rw [if_neg z, if_neg (fun y => z ⟨by omega, y.2.2⟩)]
theorem zRw_wf {w : Nat → Int} (hW : zWf P) (hw : ∀ i, i < zoc P → 1 ≤ w i ∧ w i ≤ 9) : zWf (zRw P w) := by
  refine hW.parts (fun a j h => zRw_ne h) (fun q a b => ?_)
  obtain ⟨g0, g1, g2, g3, g4, g5, g6, g7⟩ := wf_part hW a b
  have e : ∀ j, 0 ≤ j ∧ j < 10 → j ≠ 3 → zp (zRw P w) q j = zp P q j := fun j hj h3 => by rw [zRw_zp a b hj, if_neg (fun z => h3 z.1)]
  have e3 : 1 ≤ zp (zRw P w) q 3 ∧ zp (zRw P w) q 3 ≤ 9 := by
    rw [zRw_zp a b (by omega)]
    split
    · rename_i z
      have eq : (q.toNat : Int) = q := by omega
      exact hw _ (zop_at (P := P) (q := q.toNat) (by omega) (by rw [eq]; exact z.2)).2
    · exact g3
  unfold zPartOk
  rw [e 0 (by omega) (by omega), e 1 (by omega) (by omega), e 2 (by omega) (by omega), e 4 (by omega) (by omega), e 5 (by omega) (by omega), e 6 (by omega) (by omega), e 7 (by omega) (by omega), e 8 (by omega) (by omega), e 9 (by omega) (by omega), zRw_ne (by decide)]
  exact ⟨g0, g1, g2, e3, g4, g5, g6, g7⟩
theorem zRw_wish {w : Nat → Int} (hWi : zWish P) : zWish (zRw P w) := hWi.parts (fun _ _ h => zRw_ne h)
end OP
section OQ
variable {K : zCx} {P : F2} {m0 : zM}
theorem c_X4_openCount {d : Nat} {pl : Int} (hpl : zPl pl) (hW : zWf P) (hR : RP m0 pl P) : zCt K (d + 2) mX4_openCount [rr K pl] m0 (fun r m1 => r = (zoc P : Int) ∧ m1 = m0) := by
  have h4 := hW.2.2.2.1
  have e6 : m0.1 pl 6 = P 98 4 := hR.2.2.2.1
  have loop : ∀ (n k : Nat), (k : Int) + n = P 98 4 → zV K mX4_openCount (d + 2) 4 [(0, rr K pl), (1, .int (iz (zoN P k : Int))), (2, .int (iz (k : Int)))] [] m0 (fun r m1 => r = (zoc P : Int) ∧ m1 = m0) := by
    have hb : ∀ k : Nat, zoN P k ≤ k := by
      intro k
      induction k with
      | zero => exact Nat.le_refl _
      | succ k ih => rw [zoN_s]; split <;> omega
    intro n
    induction n with
    | zero =>
      intro k hk
      have := hb k
      refine vc_X4_openCount_4 _ _ pl m0 (inR_b (A := 100) (by omega) (by omega) rfl) (inR_b (A := 100) (by omega) (by omega) rfl) hpl (fun _ => ⟨fun _ => ⟨?_, rfl⟩, fun q => absurd (by omega) q⟩)
      unfold zoc
      rw [show (P 98 4).toNat = k by omega]
    | succ n ih =>
      intro k hk
      have := hb k
      have e11 := (hR.2.2.2.2.2.2.2.1 (k : Int) (by omega) (by omega)).2
      have hok := hW.2.2.2.2.2.2.2.1 (k : Int) (by omega) (by omega)
      unfold zOpenOk at hok
      refine vc_X4_openCount_4 _ _ pl m0 (inR_b (A := 100) (by omega) (by omega) rfl) (inR_b (A := 100) (by omega) (by omega) rfl) hpl (fun _ => ⟨fun q => absurd q (by omega), fun _ => ⟨by omega, by omega, fun v6 e => ?_⟩⟩)
      have ev : v6 = (zoN P (k + 1) : Int) := by
        rw [e, e11, zoN_s]
        by_cases z : 0 < P 101 (2 * (k : Int) + 1)
        · rw [if_pos z, if_pos (by omega)]; omega
        · rw [if_neg z, if_neg (by omega)]; omega
      rw [ev]
      exact ih (k + 1) (by omega)
  exact zCt.of (by decide) (Nat.le_of_ble_eq_true rfl) (vc_X4_openCount_0 (d := d) pl m0 hpl (fun _ => loop (P 98 4).toNat 0 (by omega)))
theorem zoN_b (P : F2) : ∀ k : Nat, zoN P k ≤ k := by
  intro k
  induction k with
  | zero => exact Nat.le_refl _
  | succ k ih => rw [zoN_s]; split <;> omega
theorem c_X10_openMany {d : Nat} (hP : pv m0.1 = P) (hW : zWf P) : zCt K (d + 1) mX10_openMany [rr K 98] m0 (fun r m1 => r = (zoc P : Int) ∧ m1 = m0) := by
  have h4 := hW.2.2.2.1
  have e4 : m0.1 98 4 = P 98 4 := pv_f hP (by omega)
  have loop : ∀ (n k : Nat), (k : Int) + n = P 98 4 → zV K mX10_openMany (d + 1) 4 [(0, rr K 98), (1, .int (iz (zoN P k : Int))), (2, .int (iz (k : Int)))] [] m0 (fun r m1 => r = (zoc P : Int) ∧ m1 = m0) := by
    intro n
    induction n with
    | zero =>
      intro k hk
      have := zoN_b P k
      refine vc_X10_openMany_4 _ _ m0 (inR_b (A := 100) (by omega) (by omega) rfl) (inR_b (A := 100) (by omega) (by omega) rfl) (fun _ => ⟨fun _ => ⟨?_, rfl⟩, fun q => absurd (by omega) q⟩)
      unfold zoc
      rw [show (P 98 4).toNat = k by omega]
    | succ n ih =>
      intro k hk
      have := zoN_b P k
      refine vc_X10_openMany_4 _ _ m0 (inR_b (A := 100) (by omega) (by omega) rfl) (inR_b (A := 100) (by omega) (by omega) rfl) (fun _ => ⟨fun q => absurd q (by omega), fun _ => ⟨by omega, by omega, fun v4 e v6 e' => ?_⟩⟩)
      rw [pv_r hP (by omega)] at e
      have ev : v6 = (zoN P (k + 1) : Int) := by
        rw [e', e, zoN_s]
        by_cases z : 0 < P 101 (2 * (k : Int) + 1)
        · rw [if_pos z, if_neg (by omega)]; omega
        · rw [if_neg z, if_pos (by omega)]; omega
      rw [ev]
      exact ih (k + 1) (by omega)
  exact zCt.of (by decide) (Nat.le_of_ble_eq_true rfl) (vc_X10_openMany_0 (d := d) m0 (fun _ => loop (P 98 4).toNat 0 (by omega)))
def zSg (a k : Int) : Prop := (a = 98 ∧ k = 39) ∨ a = 116 ∨ a = 119
theorem c_X10_gather {d : Nat} (hP : pv m0.1 = P) (hW : zWf P) (hO : zoc P ≤ 4) : zCt K (d + 2) mX10_gather [rr K 98] m0 (fun r m1 => r = 0 ∧ zFr zSg m0 m1 ∧ m1.1 98 39 = (zoc P : Int) ∧ ∀ j : Nat, j < zoc P → m1.1 116 j = zop P j ∧ m1.1 119 j = zp P (zop P j) 3) := by
  have h4 := hW.2.2.2.1
  have loop : ∀ (n k : Nat), (k : Int) + n = P 98 4 → ∀ m : zM, zFr zSg m0 m → m.1 98 39 = (zoN P k : Int) → (∀ q : Nat, q < k → 0 < P 101 (2 * (q : Int) + 1) → m.1 116 (zoN P q : Int) = q ∧ m.1 119 (zoN P q : Int) = zp P q 3) → zV K mX10_gather (d + 2) 7 [(0, rr K 98), (1, .int (iz (k : Int)))] [] m (fun r m1 => r = 0 ∧ zFr zSg m0 m1 ∧ m1.1 98 39 = (zoc P : Int) ∧ ∀ j : Nat, j < zoc P → m1.1 116 j = zop P j ∧ m1.1 119 j = zp P (zop P j) 3) := by
    intro n
    induction n with
    | zero =>
      intro k hk m hF h39 hq
      have e4 : m.1 98 4 = P 98 4 := by rw [hF.1 _ _ (by unfold zSg; omega)]; exact pv_f hP (by omega)
      have ek : (P 98 4).toNat = k := by omega
      refine vc_X10_gather_7 _ m (inR_b (A := 100) (by omega) (by omega) rfl) (fun _ => ⟨fun _ => ⟨rfl, hF, by rw [h39]; unfold zoc; rw [ek], fun j hj => ?_⟩, fun q => absurd (by omega) q⟩)
      obtain ⟨q, e, a, b, c⟩ := zop_ex hW hj
      rw [e, ← c]
      exact hq q (by omega) b
    | succ n ih =>
      intro k hk m hF h39 hq
      have e4 : m.1 98 4 = P 98 4 := by rw [hF.1 _ _ (by unfold zSg; omega)]; exact pv_f hP (by omega)
      have e101 : m.1 101 (2 * (k : Int) + 1) = P 101 (2 * (k : Int) + 1) := by rw [hF.1 _ _ (by unfold zSg; omega)]; exact pv_r hP (by omega) _
      refine vc_X10_gather_7 _ m (inR_b (A := 100) (by omega) (by omega) rfl) (fun _ => ⟨fun q => absurd q (by omega), fun _ => ⟨by omega, by omega, fun z => ?_, fun z => ?_⟩⟩)
      · have z' : ¬ 0 < P 101 (2 * (k : Int) + 1) := by omega
        refine ih (k + 1) (by omega) m hF (by rw [h39, zoN_s, if_neg z', Nat.add_zero]) (fun q a b => hq q ?_ b)
        by_cases y : q = k
        · subst y; exact absurd b z'
        · omega
      · have z' : 0 < P 101 (2 * (k : Int) + 1) := by omega
        have hlt : zoN P k < zoc P := (zop_at (P := P) (q := k) (by omega) z').2
        rw [h39]
        refine ⟨by omega, by omega, fun m7 e7 _ => ⟨by omega, by omega, ?_⟩⟩
        have a39 : m7.1 98 39 = (zoN P k : Int) := by rw [e7, sI_ne (Or.inl (by omega))]; exact h39
        rw [a39]
        refine ⟨by omega, by omega, fun m15 e15 _ => ?_⟩
        have b39 : m15.1 98 39 = (zoN P k : Int) := by rw [e15, sI_ne (Or.inl (by omega))]; exact a39
        rw [b39]
        refine ⟨inR_b (A := 100) (by omega) (by omega) rfl, fun m18 e18 _ => ?_⟩
        have hF18 : zFr zSg m0 m18 := ((hF.put e7 (Or.inr (Or.inl rfl))).put e15 (Or.inr (Or.inr rfl))).put e18 (Or.inl ⟨rfl, rfl⟩)
        refine ih (k + 1) (by omega) m18 hF18 (by rw [e18, sI_eq, zoN_s, if_pos z']; omega) (fun q a b => ?_)
        have g116 : m18.1 116 (zoN P q : Int) = m7.1 116 (zoN P q : Int) := by rw [e18, sI_ne (Or.inl (by omega)), e15, sI_ne (Or.inl (by omega))]
        have g119 : m18.1 119 (zoN P q : Int) = m15.1 119 (zoN P q : Int) := by rw [e18, sI_ne (Or.inl (by omega))]
        rw [g116, g119]
        by_cases y : q = k
        · subst y
          rw [e7, sI_eq, e15, sI_eq]
          refine ⟨rfl, ?_⟩
          rw [e7, sI_ne (Or.inl (by omega)), hF.1 _ _ (by unfold zSg; omega)]
          exact pv_r hP (by omega) _
        · have := zoN_lt (P := P) (show q < k by omega) b
          rw [e15, sI_ne (Or.inr (by omega)), e7, sI_ne (Or.inr (by omega)), sI_ne (Or.inl (by omega))]
          exact hq q (by omega) b
  refine zCt.of (by decide) (Nat.le_of_ble_eq_true rfl) (vc_X10_gather_0 (d := d) m0 (fun _ m1 e1 _ => ?_))
  exact loop (P 98 4).toNat 0 (by omega) m1 (zFr.rf.put e1 (Or.inl ⟨rfl, rfl⟩)) (by rw [e1, sI_eq]; rfl) (fun q a => absurd a (Nat.not_lt_zero _))
def zSl (a k : Int) : Prop := (a = 64 ∧ k = 3) ∨ a = 65
theorem c_X7_listOpen {d : Nat} (hW : zWf P) (hR : RQ m0 1 P) (hO : zoc P ≤ 4) : zCt K (d + 2) mX7_listOpen [rr K 64, rr K 1] m0 (fun r m1 => r = 0 ∧ zFr zSl m0 m1 ∧ m1.1 64 3 = (zoc P : Int) ∧ ∀ j : Nat, j < zoc P → m1.1 65 j = zop P j) := by
  have h4 := hW.2.2.2.1
  have hpl : zPl 1 := Or.inl rfl
  have loop : ∀ (n k : Nat), (k : Int) + n = P 98 4 → ∀ m : zM, zFr zSl m0 m → m.1 64 3 = (zoN P k : Int) → (∀ q : Nat, q < k → 0 < P 101 (2 * (q : Int) + 1) → m.1 65 (zoN P q : Int) = q) → zV K mX7_listOpen (d + 2) 7 [(0, rr K 64), (1, rr K 1), (2, .int (iz (k : Int)))] [] m (fun r m1 => r = 0 ∧ zFr zSl m0 m1 ∧ m1.1 64 3 = (zoc P : Int) ∧ ∀ j : Nat, j < zoc P → m1.1 65 j = zop P j) := by
    intro n
    induction n with
    | zero =>
      intro k hk m hF h2 hq
      have e6 : m.1 1 6 = P 98 4 := by rw [hF.1 _ _ (by unfold zSl; omega)]; exact hR.1.2.2.2.1
      have ek : (P 98 4).toNat = k := by omega
      refine vc_X7_listOpen_7 _ 1 m (inR_b (A := 100) (by omega) (by omega) rfl) hpl (fun _ => ⟨fun _ => ⟨rfl, hF, by rw [h2]; unfold zoc; rw [ek], fun j hj => ?_⟩, fun q => absurd (by omega) q⟩)
      obtain ⟨q, e, a, b, c⟩ := zop_ex hW hj
      rw [e, ← c]
      exact hq q (by omega) b
    | succ n ih =>
      intro k hk m hF h2 hq
      have e6 : m.1 1 6 = P 98 4 := by rw [hF.1 _ _ (by unfold zSl; omega)]; exact hR.1.2.2.2.1
      have e11 : m.1 (1 + 9 + (k : Int)) 11 = P 101 (2 * (k : Int) + 1) := by rw [hF.1 _ _ (by unfold zSl; omega)]; exact (hR.1.2.2.2.2.2.2.2.1 (k : Int) (by omega) (by omega)).2
      have hok := hW.2.2.2.2.2.2.2.1 (k : Int) (by omega) (by omega)
      unfold zOpenOk at hok
      have hm : zoN P k ≤ zoc P := zoN_mono (by omega)
      refine vc_X7_listOpen_7 _ 1 m (inR_b (A := 100) (by omega) (by omega) rfl) hpl (fun _ => ⟨fun q => absurd q (by omega), fun _ => ⟨fun z4 => ⟨rfl, hF, ?_, fun j hj => ?_⟩, fun z4 => ⟨by omega, by omega, ?_⟩⟩⟩)
      · omega
      · obtain ⟨q, e, a, b, c⟩ := zop_ex hW hj
        rw [e, ← c]
        refine hq q ?_ b
        by_cases y : q < k
        · exact y
        · have := zoN_mono (P := P) (show k ≤ q by omega)
          omega
      · rw [e11, h2]
        refine ⟨fun z => ⟨by omega, by omega, fun m10 e10 _ => ?_⟩, fun z => ?_⟩
        · have z' : 0 < P 101 (2 * (k : Int) + 1) := by omega
          have hlt : zoN P k < zoc P := (zop_at (P := P) (q := k) (by omega) z').2
          have a2 : m10.1 64 3 = (zoN P k : Int) := by rw [e10, sI_ne (Or.inl (by omega))]; exact h2
          rw [a2]
          refine ⟨inR_b (A := 100) (by omega) (by omega) rfl, fun m13 e13 _ => ?_⟩
          have hF13 : zFr zSl m0 m13 := (hF.put e10 (Or.inr rfl)).put e13 (Or.inl ⟨rfl, rfl⟩)
          refine ih (k + 1) (by omega) m13 hF13 (by rw [e13, sI_eq, zoN_s, if_pos z']; omega) (fun q a b => ?_)
          rw [e13, sI_ne (Or.inl (by omega)), e10]
          by_cases y : q = k
          · subst y; rw [sI_eq]
          · have := zoN_lt (P := P) (show q < k by omega) b
            rw [sI_ne (Or.inr (by omega))]
            exact hq q (by omega) b
        · have z' : ¬ 0 < P 101 (2 * (k : Int) + 1) := by omega
          refine ih (k + 1) (by omega) m hF (by rw [h2, zoN_s, if_neg z', Nat.add_zero]) (fun q a b => hq q ?_ b)
          by_cases y : q = k
          · subst y; exact absurd b z'
          · omega
  refine zCt.of (by decide) (Nat.le_of_ble_eq_true rfl) (vc_X7_listOpen_0 (d := d) 1 m0 hpl (fun _ m1 e1 _ => ?_))
  exact loop (P 98 4).toNat 0 (by omega) m1 (zFr.rf.put e1 (Or.inl ⟨rfl, rfl⟩)) (by rw [e1, sI_eq]; rfl) (fun q a => absurd a (Nat.not_lt_zero _))
/-- setSizes(to) -/
theorem c_X10_setSizes {d : Nat} {a1 : Int} {n1 : Nat} {u v : Nat → Int} (ha : zsh a1 = some (0, n1)) (hn1 : 4 ≤ n1) (ha1 : a1 = 117 ∨ a1 = 119) (hW : zWf P) (hO : zoc P ≤ 4) (hP : pv m0.1 = zRw P u) (h39 : m0.1 98 39 = (zoc P : Int)) (h116 : ∀ j : Nat, j < zoc P → m0.1 116 j = zop P j) (hv : ∀ j : Nat, j < zoc P → m0.1 a1 j = v j) :
    zCt K (d + 1) mX10_setSizes [rr K 98, rr K a1] m0 (fun r m1 => r = 0 ∧ zFr (fun a _ => a = 100) m0 m1 ∧ pv m1.1 = zRw P v) := by
  have h4 := hW.2.2.2.1
  have loop : ∀ (n k : Nat), k + n = zoc P → ∀ m : zM, zFr (fun a _ => a = 100) m0 m → pv m.1 = zRw P (fun i => if i < k then v i else u i) → zV K mX10_setSizes (d + 1) 2 [(0, rr K 98), (1, rr K a1), (2, .int (iz (k : Int)))] [] m (fun r m1 => r = 0 ∧ zFr (fun a _ => a = 100) m0 m1 ∧ pv m1.1 = zRw P v) := by
    intro n
    induction n with
    | zero =>
      intro k hk m hF hm
      have e39 : m.1 98 39 = (zoc P : Int) := by rw [hF.1 _ _ (by omega)]; exact h39
      refine vc_X10_setSizes_2 _ a1 n1 m (inR_b (A := 100) (by omega) (by omega) rfl) ha (fun _ => ⟨fun _ => ⟨rfl, hF, ?_⟩, fun q => absurd (by omega) q⟩)
      rw [hm]
      exact zRw_congr (fun i hi => if_pos (by omega))
    | succ n ih =>
      intro k hk m hF hm
      have e39 : m.1 98 39 = (zoc P : Int) := by rw [hF.1 _ _ (by omega)]; exact h39
      have e116 : m.1 116 (k : Int) = zop P k := by rw [hF.1 _ _ (by omega)]; exact h116 k (by omega)
      have ea : m.1 a1 (k : Int) = v k := by rw [hF.1 _ _ (by omega)]; exact hv k (by omega)
      have hr := zop_r hW (show k < zoc P by omega)
      refine vc_X10_setSizes_2 _ a1 n1 m (inR_b (A := 100) (by omega) (by omega) rfl) ha (fun _ => ⟨fun q => absurd q (by omega), fun _ => ⟨by omega, by omega, by omega, by omega, ?_⟩⟩)
      rw [e116, ea]
      refine ⟨by omega, by omega, fun m8 e8 _ => ih (k + 1) (by omega) m8 (hF.put e8 rfl) ?_⟩
      rw [pv_pt hm e8, zRw_up hW (by omega)]
      refine zRw_congr (fun i hi => ?_)
      show (if i = k then v k else if i < k then v i else u i) = if i < k + 1 then v i else u i
      by_cases z : i = k
      · rw [if_pos z, if_pos (by omega), z]
      · by_cases y : i < k
        · rw [if_neg z, if_pos y, if_pos (by omega)]
        · rw [if_neg z, if_neg y, if_neg (by omega)]
  refine zCt.of (by decide) (Nat.le_of_ble_eq_true rfl) (vc_X10_setSizes_0 (d := d) a1 n1 m0 ha (fun _ => loop (zoc P) 0 (by omega) m0 zFr.rf ?_))
  rw [hP]
  exact zRw_congr (fun i hi => (if_neg (by omega)).symm)
end OQ
