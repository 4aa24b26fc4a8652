/-! ===== drop(): both sides ===== -/
def zdl (P : F2) (q : Int) : Nat → Nat
  | 0 => 0
  | k + 1 => if P 102 (2 * (k : Int)) = q then zdl P q k else zdl P q k + 1
def zda (P : F2) (q : Int) : Nat → Int → Int
  | 0 => P 102
  | k + 1 => if P 102 (2 * (k : Int)) = q then zda P q k else fun j => if j = 2 * (zdl P q k : Int) + 1 then P 102 (2 * (k : Int) + 1) else if j = 2 * (zdl P q k : Int) then P 102 (2 * (k : Int)) else zda P q k j
section DRP
variable {P : F2} {q : Int}
theorem zdl_s (k : Nat) : zdl P q (k + 1) = if P 102 (2 * (k : Int)) = q then zdl P q k else zdl P q k + 1 := rfl
theorem zda_s (k : Nat) : zda P q (k + 1) = if P 102 (2 * (k : Int)) = q then zda P q k else fun j => if j = 2 * (zdl P q k : Int) + 1 then P 102 (2 * (k : Int) + 1) else if j = 2 * (zdl P q k : Int) then P 102 (2 * (k : Int)) else zda P q k j := rfl
theorem zdl_le : ∀ k : Nat, zdl P q k ≤ k := by
  intro k
  induction k with
  | zero => exact Nat.le_refl _
  | succ k ih => rw [zdl_s]; split <;> omega
theorem zda_hi : ∀ (k : Nat) (j : Int), 2 * (k : Int) ≤ j → zda P q k j = P 102 j := by
  intro k
  induction k with
  | zero => intro j _; rfl
  | succ k ih =>
    intro j hj
    have := zdl_le (P := P) (q := q) k
    rw [zda_s]
    split
    · exact ih j (by omega)
    · show (if j = 2 * (zdl P q k : Int) + 1 then _ else if j = 2 * (zdl P q k : Int) then _ else zda P q k j) = _
      rw [if_neg (by omega), if_neg (by omega)]
      exact ih j (by omega)
theorem zda_lo : ∀ (k j : Nat), j < zdl P q k → ∃ i : Nat, i < k ∧ zda P q k (2 * (j : Int)) = P 102 (2 * (i : Int)) ∧ zda P q k (2 * (j : Int) + 1) = P 102 (2 * (i : Int) + 1) ∧ ¬ P 102 (2 * (i : Int)) = q := by
  intro k
  induction k with
  | zero => intro j hj; exact absurd hj (Nat.not_lt_zero _)
  | succ k ih =>
    intro j hj
    rw [zdl_s] at hj
    rw [zda_s]
    by_cases z : P 102 (2 * (k : Int)) = q
    · rw [if_pos z] at hj ⊢
      obtain ⟨i, a, b⟩ := ih j hj
      exact ⟨i, by omega, b⟩
    · rw [if_neg z] at hj ⊢
      by_cases y : j = zdl P q k
      · refine ⟨k, by omega, ?_, ?_, z⟩
        · show (if 2 * (j : Int) = 2 * (zdl P q k : Int) + 1 then _ else if 2 * (j : Int) = 2 * (zdl P q k : Int) then _ else zda P q k (2 * (j : Int))) = _
          rw [if_neg (by omega), if_pos (by omega)]
        · show (if 2 * (j : Int) + 1 = 2 * (zdl P q k : Int) + 1 then _ else if 2 * (j : Int) + 1 = 2 * (zdl P q k : Int) then _ else zda P q k (2 * (j : Int) + 1)) = _
          rw [if_pos (by omega)]
      · obtain ⟨i, a, b, c, e⟩ := ih j (by omega)
        refine ⟨i, by omega, ?_, ?_, e⟩
        · show (if 2 * (j : Int) = 2 * (zdl P q k : Int) + 1 then _ else if 2 * (j : Int) = 2 * (zdl P q k : Int) then _ else zda P q k (2 * (j : Int))) = _
          rw [if_neg (by omega), if_neg (by omega)]; exact b
        · show (if 2 * (j : Int) + 1 = 2 * (zdl P q k : Int) + 1 then _ else if 2 * (j : Int) + 1 = 2 * (zdl P q k : Int) then _ else zda P q k (2 * (j : Int) + 1)) = _
          rw [if_neg (by omega), if_neg (by omega)]; exact c
/-- the plan without its last PART -/
def zDr (P : F2) : F2 := fun a j => if a = 102 then zda P (P 98 4 - 1) (zcc P) j else if a = 98 ∧ j = 4 then P 98 4 - 1 else if a = 98 ∧ j = 7 then (zdl P (P 98 4 - 1) (zcc P) : Int) else if a = 101 ∧ (j = 2 * (P 98 4 - 1) ∨ j = 2 * (P 98 4 - 1) + 1) then 0 else P a j
theorem zDr_4 : zDr P 98 4 = P 98 4 - 1 := by unfold zDr; rw [if_neg (by omega), if_pos (by omega)]
theorem zDr_7 : zDr P 98 7 = (zdl P (P 98 4 - 1) (zcc P) : Int) := by unfold zDr; rw [if_neg (by omega), if_neg (by omega), if_pos (by omega)]
theorem zDr_102 {j : Int} : zDr P 102 j = zda P (P 98 4 - 1) (zcc P) j := by unfold zDr; rw [if_pos rfl]
theorem zDr_ne {a j : Int} (h1 : ¬ a = 102) (h2 : ¬ (a = 98 ∧ (j = 4 ∨ j = 7))) (h3 : ¬ (a = 101 ∧ 2 * (P 98 4 - 1) ≤ j)) : zDr P a j = P a j := by unfold zDr; rw [if_neg h1, if_neg (by omega), if_neg (by omega), if_neg (by omega)]
theorem zGoodP.dr (h : zGoodP P) (hN : 0 < P 98 4) : zGoodP (zDr P) := by
  have hn : ∀ a j, ¬ a = 102 → ¬ (a = 98 ∧ (j = 4 ∨ j = 7)) → ¬ (a = 101 ∧ 2 * (P 98 4 - 1) ≤ j) → zDr P a j = P a j := fun a j => zDr_ne
  have hcb := zcc_b h.1
  obtain ⟨h1, h2, h3, h4, h5, h6, h7, h8, h9, h10⟩ := h.1
  have hl := zdl_le (P := P) (q := P 98 4 - 1) (zcc P)
  refine ⟨⟨by rw [hn _ _ (by omega) (by omega) (by omega)]; exact h1, by rw [hn _ _ (by omega) (by omega) (by omega)]; exact h2, by rw [hn _ _ (by omega) (by omega) (by omega)]; exact h3, by rw [zDr_4]; omega, by rw [zDr_7]; omega, fun i a b => ?_, fun p a b => ?_, fun p a b => ?_, fun j a b => ?_, fun i a b => by rw [hn _ _ (by omega) (by omega) (by omega)]; exact h10 i a b⟩, h.2.1.c (hn _ _ (by omega) (by omega) (by omega)) (fun j => hn _ _ (by omega) (by omega) (by omega)) (fun j => hn _ _ (by omega) (by omega) (by omega)), ?_⟩
  · rw [hn _ _ (by omega) (by omega) (by omega)] at b; rw [hn _ _ (by omega) (by omega) (by omega)]; exact h6 i a b
  · rw [zDr_4] at b; exact (h7 p a (by omega)).c (fun j => hn _ _ (by omega) (by omega) (by omega)) (by rw [hn _ _ (by omega) (by omega) (by omega)]; omega)
  · rw [zDr_4] at b; unfold zOpenOk; rw [hn _ _ (by omega) (by omega) (by omega), hn _ _ (by omega) (by omega) (by omega)]; exact h8 p a (by omega)
  · rw [zDr_7] at b
    rw [zDr_4, zDr_102, zDr_102]
    obtain ⟨i, x, y, z, w⟩ := zda_lo (P := P) (q := P 98 4 - 1) (zcc P) j.toNat (by omega)
    rw [show ((j.toNat : Nat) : Int) = j by omega] at y z
    have := h9 (i : Int) (by omega) (by omega)
    rw [y, z]
    omega
  · unfold zoc
    rw [zDr_4]
    have e : ∀ k : Nat, (k : Int) ≤ P 98 4 - 1 → zoN (zDr P) k = zoN P k := by
      intro k
      induction k with
      | zero => exact fun _ => rfl
      | succ k ih => intro hk; rw [zoN_s, zoN_s, ih (by omega), hn _ _ (by omega) (by omega) (by omega)]
    rw [e _ (by omega)]
    have := zoN_mono (P := P) (show (P 98 4 - 1).toNat ≤ (P 98 4).toNat by omega)
    have := h.2.2
    unfold zoc at this
    omega
end DRP
section DRQ
variable {K : zCx} {d : Nat} {n : Int} {m : zM}
theorem o_drop (h : zInv n m) : zOk K (d + 12) mX9_drop mX10_drop [] n m := by
  have hG := h.1.1
  have hW := hG.1
  have hR := h.1.2
  have h4 := hW.2.2.2.1
  have e6 : m.1 1 6 = pv m.1 98 4 := hR.1.2.2.2.1
  have hcb := zcc_b hW
  have h5 := hW.2.2.2.2.1
  by_cases h0 : pv m.1 98 4 = 0
  · refine zOk.no (F := -3) h ?_ (fun m1 e f => ?_)
    · refine zCt.of (by decide) (Nat.le_of_ble_eq_true rfl) (vc_X9_drop_0 (d := d + 10) m (fun _ => ?_))
      rw [e6]
      exact ⟨fun _ => ⟨rfl, rfl⟩, fun q => absurd h0 q⟩
    · refine zCt.of (by decide) (Nat.le_of_ble_eq_true rfl) (vc_X10_drop_0 (d := d + 11) m1 (fun _ => ?_))
      rw [pv_f e (by omega)]
      exact ⟨fun _ => ⟨rfl, rfl⟩, fun q => absurd h0 q⟩
  · refine zOk.pl (F := pv m.1 98 4 - 1) (P' := zDr (pv m.1)) h (hG.dr (by omega)) ?_ (fun m1 e f => ?_)
    · refine zCt.of (by decide) (Nat.le_of_ble_eq_true rfl) (vc_X9_drop_0 (d := d + 10) m (fun _ => ?_))
      rw [e6]
      refine ⟨fun q => absurd q h0, fun _ => ⟨inR_b (A := 1000) (by omega) (by omega) rfl, fun m3 e3 _ => ?_⟩⟩
      have a6 : m3.1 1 6 = pv m.1 98 4 - 1 := by rw [e3, sI_eq]
      rw [a6]
      have n3 : ∀ a k, ¬ (a = 1 ∧ k = 6) → m3.1 a k = m.1 a k := fun a k q => by rw [e3, sI_ne (by omega)]
      have a8 : m3.1 1 8 = pv m.1 98 7 := by rw [n3 _ _ (by omega)]; exact hR.1.2.2.2.2.1
      have iq : inR (pv m.1 98 4 - 1) := inR_b (A := 1000) (by omega) (by omega) rfl
      have loop : ∀ (k j : Nat), j + k = zcc (pv m.1) → ∀ m', zFr (fun a _ => a = 4 ∨ a = 5) m3 m' → (∀ i : Nat, i < zcc (pv m.1) → m'.1 4 (i : Int) = zda (pv m.1) (pv m.1 98 4 - 1) j (2 * (i : Int)) ∧ m'.1 5 (i : Int) = zda (pv m.1) (pv m.1 98 4 - 1) j (2 * (i : Int) + 1)) → zV K mX4_dropChangesOf (d + 11) 4 [(0, rr K 1), (1, .int (iz (pv m.1 98 4 - 1))), (2, .int (iz (zdl (pv m.1) (pv m.1 98 4 - 1) j : Int))), (3, .int (iz (j : Int)))] [] m' (fun r m5 => r = 0 ∧ zFr (fun a k => a = 4 ∨ a = 5 ∨ (a = 1 ∧ k = 8)) m3 m5 ∧ m5.1 1 8 = (zdl (pv m.1) (pv m.1 98 4 - 1) (zcc (pv m.1)) : Int) ∧ ∀ i : Nat, i < zcc (pv m.1) → m5.1 4 (i : Int) = zda (pv m.1) (pv m.1 98 4 - 1) (zcc (pv m.1)) (2 * (i : Int)) ∧ m5.1 5 (i : Int) = zda (pv m.1) (pv m.1 98 4 - 1) (zcc (pv m.1)) (2 * (i : Int) + 1)) := by
        intro k
        induction k with
        | zero =>
          intro j hj m' hF hi
          have hl := zdl_le (P := pv m.1) (q := pv m.1 98 4 - 1) j
          have b8 : m'.1 1 8 = pv m.1 98 7 := by rw [hF.1 _ _ (by omega)]; exact a8
          have ej : j = zcc (pv m.1) := by omega
          subst ej
          refine vc_X4_dropChangesOf_4 _ _ _ 1 m' iq (inR_b (A := 1000) (by omega) (by omega) rfl) (inR_b (A := 1000) (by omega) (by omega) rfl) (Or.inl rfl) (fun _ => ⟨fun _ m2 e2 _ => ⟨rfl, (hF.mono (fun a k q => by omega)).put e2 (by omega), by rw [e2, sI_eq], fun i hi' => ?_⟩, fun q => absurd (by omega) q⟩)
          rw [e2, sI_ne (Or.inl (by omega)), sI_ne (Or.inl (by omega))]
          exact hi i hi'
        | succ k ih =>
          intro j hj m' hF hi
          have hl := zdl_le (P := pv m.1) (q := pv m.1 98 4 - 1) j
          have b8 : m'.1 1 8 = pv m.1 98 7 := by rw [hF.1 _ _ (by omega)]; exact a8
          have hij := hi j (by omega)
          rw [zda_hi j _ (by omega), zda_hi j _ (by omega)] at hij
          refine vc_X4_dropChangesOf_4 _ _ _ 1 m' iq (inR_b (A := 1000) (by omega) (by omega) rfl) (inR_b (A := 1000) (by omega) (by omega) rfl) (Or.inl rfl) (fun _ => ⟨fun q => absurd q (by omega), fun _ => ⟨by omega, by omega, ?_⟩⟩)
          rw [show (1 + 3 : Int) = 4 by omega, show (1 + 4 : Int) = 5 by omega, hij.1]
          have hih := ih (j + 1) (by omega)
          rw [zdl_s, zda_s] at hih
          refine ⟨fun z => ?_, fun z => ⟨by omega, by omega, fun m9 e9 _ m11 e11 _ => ?_⟩⟩
          · rw [if_pos z, if_pos z] at hih
            exact hih m' hF hi
          · rw [if_neg z, if_neg z] at hih
            have c5 : m9.1 5 (j : Int) = pv m.1 102 (2 * (j : Int) + 1) := by rw [e9, sI_ne (Or.inl (by omega))]; exact hij.2
            rw [c5] at e11
            refine hih m11 ((hF.put e9 (Or.inl rfl)).put e11 (Or.inr rfl)) (fun i hi' => ?_)
            have hii := hi i hi'
            have v4 : m11.1 4 (i : Int) = if i = zdl (pv m.1) (pv m.1 98 4 - 1) j then pv m.1 102 (2 * (j : Int)) else m'.1 4 (i : Int) := by
              rw [e11, sI_ne (Or.inl (by omega)), e9, sI_at]
              by_cases y : i = zdl (pv m.1) (pv m.1 98 4 - 1) j
              · rw [if_pos y, if_pos (by omega)]
              · rw [if_neg y, if_neg (by omega)]
            have v5 : m11.1 5 (i : Int) = if i = zdl (pv m.1) (pv m.1 98 4 - 1) j then pv m.1 102 (2 * (j : Int) + 1) else m'.1 5 (i : Int) := by
              rw [e11, sI_at, e9, sI_ne (Or.inl (by omega))]
              by_cases y : i = zdl (pv m.1) (pv m.1 98 4 - 1) j
              · rw [if_pos y, if_pos (by omega)]
              · rw [if_neg y, if_neg (by omega)]
            rw [v4, v5]
            by_cases y : i = zdl (pv m.1) (pv m.1 98 4 - 1) j
            · rw [if_pos y, if_pos y, if_neg (by omega), if_pos (by omega), if_pos (by omega)]
              exact ⟨rfl, rfl⟩
            · rw [if_neg y, if_neg y, if_neg (by omega), if_neg (by omega), if_neg (by omega), if_neg (by omega)]
              exact hii
      refine (zCt.of (by decide) (Nat.le_of_ble_eq_true rfl) (vc_X4_dropChangesOf_0 (d := d + 10) 1 (pv m.1 98 4 - 1) m3 (Or.inl rfl) iq (fun _ => loop (zcc (pv m.1)) 0 (by omega) m3 zFr.rf (fun i hi => ?_)))).mono (fun r m5 q => ?_)
      · rw [n3 _ _ (by omega), n3 _ _ (by omega)]
        exact hR.1.2.2.2.2.2.2.2.2.1 (i : Int) (by omega) (by omega)
      · obtain ⟨-, f5, e8, hi⟩ := q
        intro _ _
        have g6 : m5.1 1 6 = pv m.1 98 4 - 1 := by rw [f5.1 _ _ (by omega)]; exact a6
        have n5 : ∀ a k, ¬ (a = 4 ∨ a = 5 ∨ (a = 1 ∧ (k = 8 ∨ k = 6))) → m5.1 a k = m.1 a k := fun a k q => by rw [f5.1 a k (by omega), n3 a k (by omega)]
        have hn : ∀ a j, ¬ a = 102 → ¬ (a = 98 ∧ (j = 4 ∨ j = 7)) → ¬ (a = 101 ∧ 2 * (pv m.1 98 4 - 1) ≤ j) → zDr (pv m.1) a j = pv m.1 a j := fun a j => zDr_ne
        have hl := zdl_le (P := pv m.1) (q := pv m.1 98 4 - 1) (zcc (pv m.1))
        refine ⟨g6, (zFr.rf.put e3 (by unfold zPn; omega)).tr (f5.mono (fun a k q => by unfold zPn; omega)), ?_⟩
        obtain ⟨⟨h1, h2, h3, h4', h5', h6, h7, h8, h9, h10⟩, hw⟩ := hR
        refine ⟨⟨by rw [n5 _ _ (by omega), hn _ _ (by omega) (by omega) (by omega)]; exact h1, by rw [n5 _ _ (by omega), hn _ _ (by omega) (by omega) (by omega)]; exact h2, by rw [n5 _ _ (by omega), hn _ _ (by omega) (by omega) (by omega)]; exact h3, by rw [zDr_4]; exact g6, by rw [zDr_7]; exact e8, fun i a b => ?_, fun p i a b c d => ?_, fun p a b => ?_, fun i a b => ?_, fun i a b => by rw [n5 _ _ (by omega), hn _ _ (by omega) (by omega) (by omega)]; exact h10 i a b⟩, RW.c (hw.kept (fun a i x y => n5 a i (by omega))) (hn _ _ (by omega) (by omega) (by omega)) (fun i => hn _ _ (by omega) (by omega) (by omega)) (fun i => hn _ _ (by omega) (by omega) (by omega))⟩
        · rw [hn _ _ (by omega) (by omega) (by omega)] at b; rw [n5 _ _ (by omega), hn _ _ (by omega) (by omega) (by omega)]; exact h6 i a b
        · rw [zDr_4] at b; rw [n5 _ _ (by omega)]; show _ = zDr (pv m.1) 100 _; rw [hn _ _ (by omega) (by omega) (by omega)]; exact h7 p i a (by omega) c d
        · rw [zDr_4] at b; rw [n5 _ _ (by omega), n5 _ _ (by omega), hn _ _ (by omega) (by omega) (by omega), hn _ _ (by omega) (by omega) (by omega)]; exact h8 p a (by omega)
        · rw [zDr_7] at b
          have := hi i.toNat (by omega)
          rw [show ((i.toNat : Nat) : Int) = i by omega] at this
          rw [zDr_102, zDr_102]
          exact this
    · refine zCt.of (by decide) (Nat.le_of_ble_eq_true rfl) (vc_X10_drop_0 (d := d + 11) m1 (fun _ => ?_))
      rw [pv_f e (by omega)]
      refine ⟨fun q => absurd q h0, fun _ => ⟨inR_b (A := 1000) (by omega) (by omega) rfl, fun m3 e3 _ => ?_⟩⟩
      have n3 : ∀ a k, ¬ (a = 98 ∧ k = 4) → m3.1 a k = m1.1 a k := fun a k q => by rw [e3, sI_ne (by omega)]
      have a4 : m3.1 98 4 = pv m.1 98 4 - 1 := by rw [e3, sI_eq]
      have a7 : m3.1 98 7 = pv m.1 98 7 := by rw [n3 _ _ (by omega)]; exact pv_f e (by omega)
      have loop : ∀ (k j : Nat), j + k = zcc (pv m.1) → ∀ m', zFr (fun a _ => a = 102) m3 m' → (∀ i : Int, m'.1 102 i = zda (pv m.1) (pv m.1 98 4 - 1) j i) → zV K mX10_drop (d + 12) 24 [(0, rr K 98), (1, .int (iz (zdl (pv m.1) (pv m.1 98 4 - 1) j : Int))), (2, .int (iz (j : Int)))] [] m' (fun r m5 => r = pv m.1 98 4 - 1 ∧ zFr zPv m1 m5 ∧ pv m5.1 = zDr (pv m.1)) := by
        intro k
        induction k with
        | zero =>
          intro j hj m' hF hi
          have hl := zdl_le (P := pv m.1) (q := pv m.1 98 4 - 1) j
          have nn : ∀ a k, ¬ a = 102 → m'.1 a k = m3.1 a k := fun a k q => hF.1 a k q
          have b7 : m'.1 98 7 = pv m.1 98 7 := by rw [nn _ _ (by omega)]; exact a7
          have b4 : m'.1 98 4 = pv m.1 98 4 - 1 := by rw [nn _ _ (by omega)]; exact a4
          have ej : j = zcc (pv m.1) := by omega
          subst ej
          refine vc_X10_drop_24 (d := d + 11) _ _ m' (inR_b (A := 1000) (by omega) (by omega) rfl) (inR_b (A := 1000) (by omega) (by omega) rfl) (fun _ => ⟨fun _ m2 e2 _ => ?_, fun q => absurd (by omega) q⟩)
          have c4 : m2.1 98 4 = pv m.1 98 4 - 1 := by rw [e2, sI_ne (by omega)]; exact b4
          rw [c4]
          refine ⟨by omega, by omega, fun m6 e6 _ => ?_⟩
          have d4 : m6.1 98 4 = pv m.1 98 4 - 1 := by rw [e6, sI_ne (by omega)]; exact c4
          rw [d4]
          refine ⟨by omega, by omega, fun m10 e10 _ => ⟨by rw [e10, sI_ne (by omega)]; exact d4, ?_, ?_⟩⟩
          · exact ((((zFr.rf.put e3 (by unfold zPv; omega)).tr (hF.mono (fun a k q => by unfold zPv; omega))).put e2 (by unfold zPv; omega)).put e6 (by unfold zPv; omega)).put e10 (by unfold zPv; omega)
          · funext a i
            by_cases hin : (a = 98 ∧ 0 ≤ i ∧ i ≤ 17) ∨ (99 ≤ a ∧ a ≤ 105)
            · rw [pv_at hin]
              by_cases z1 : a = 102
              · rw [z1, zDr_102, e10, sI_ne (by omega), e6, sI_ne (by omega), e2, sI_ne (by omega)]; exact hi i
              · by_cases z2 : a = 98 ∧ i = 4
                · rw [z2.1, z2.2, zDr_4, e10, sI_ne (by omega)]; exact d4
                · by_cases z3 : a = 98 ∧ i = 7
                  · rw [z3.1, z3.2, zDr_7, e10, sI_ne (by omega), e6, sI_ne (by omega), e2, sI_eq]
                  · by_cases z4 : a = 101 ∧ (i = 2 * (pv m.1 98 4 - 1) ∨ i = 2 * (pv m.1 98 4 - 1) + 1)
                    · have : zDr (pv m.1) a i = 0 := by unfold zDr; rw [if_neg z1, if_neg z2, if_neg z3, if_pos z4]
                      rw [this, e10, sI_at]
                      by_cases y : a = 101 ∧ i = 2 * (pv m.1 98 4 - 1) + 1
                      · rw [if_pos y]
                      · rw [if_neg y, e6, sI_at, if_pos ⟨z4.1, by omega⟩]
                    · have : zDr (pv m.1) a i = pv m.1 a i := by unfold zDr; rw [if_neg z1, if_neg z2, if_neg z3, if_neg z4]
                      rw [this, e10, sI_ne (by omega), e6, sI_ne (by omega), e2, sI_ne (by omega), nn _ _ z1, n3 _ _ z2, ← e]
                      exact (pv_at hin).symm
            · have h1 : ∀ f : F2, pv f a i = 0 := fun f => if_neg hin
              rw [h1, zDr_ne (by omega) (by omega) (by omega), h1]
        | succ k ih =>
          intro j hj m' hF hi
          have hl := zdl_le (P := pv m.1) (q := pv m.1 98 4 - 1) j
          have nn : ∀ a k, ¬ a = 102 → m'.1 a k = m3.1 a k := fun a k q => hF.1 a k q
          have b7 : m'.1 98 7 = pv m.1 98 7 := by rw [nn _ _ (by omega)]; exact a7
          have b4 : m'.1 98 4 = pv m.1 98 4 - 1 := by rw [nn _ _ (by omega)]; exact a4
          have hij : m'.1 102 (2 * (j : Int)) = pv m.1 102 (2 * (j : Int)) := by rw [hi, zda_hi j _ (by omega)]
          have hij1 : m'.1 102 (2 * (j : Int) + 1) = pv m.1 102 (2 * (j : Int) + 1) := by rw [hi, zda_hi j _ (by omega)]
          refine vc_X10_drop_24 (d := d + 11) _ _ m' (inR_b (A := 1000) (by omega) (by omega) rfl) (inR_b (A := 1000) (by omega) (by omega) rfl) (fun _ => ⟨fun q => absurd q (by omega), fun _ => ⟨by omega, by omega, ?_⟩⟩)
          rw [hij, b4]
          have hih := ih (j + 1) (by omega)
          rw [zdl_s, zda_s] at hih
          refine ⟨fun z => ?_, fun z => ⟨by omega, by omega, fun m17 e17 _ => ⟨by omega, by omega, by omega, by omega, fun m23 e23 _ => ?_⟩⟩⟩
          · rw [if_pos z, if_pos z] at hih
            exact hih m' hF hi
          · rw [if_neg z, if_neg z] at hih
            have c5 : m17.1 102 (2 * (j : Int) + 1) = pv m.1 102 (2 * (j : Int) + 1) := by rw [e17, sI_ne (Or.inr (by omega))]; exact hij1
            rw [c5] at e23
            refine hih m23 ((hF.put e17 rfl).put e23 rfl) (fun i => ?_)
            show _ = (if i = 2 * (zdl (pv m.1) (pv m.1 98 4 - 1) j : Int) + 1 then _ else if i = 2 * (zdl (pv m.1) (pv m.1 98 4 - 1) j : Int) then _ else _)
            rw [e23, sI_at, e17, sI_at]
            by_cases y1 : i = 2 * (zdl (pv m.1) (pv m.1 98 4 - 1) j : Int) + 1
            · rw [if_pos ⟨rfl, y1⟩, if_pos y1]
            · rw [if_neg (fun q => y1 q.2), if_neg y1]
              by_cases y2 : i = 2 * (zdl (pv m.1) (pv m.1 98 4 - 1) j : Int)
              · rw [if_pos ⟨rfl, y2⟩, if_pos y2]
              · rw [if_neg (fun q => y2 q.2), if_neg y2]; exact hi i
      refine loop (zcc (pv m.1)) 0 (by omega) m3 zFr.rf (fun i => ?_)
      rw [n3 _ _ (by omega)]
      exact pv_r e (by omega) i
end DRQ
