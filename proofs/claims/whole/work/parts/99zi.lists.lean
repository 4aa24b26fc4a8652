/-! PRINTED by gen/build99.py: the law's first steps: both are made -/
def zFI : zLl := [(125, 3, (-1)), (125, 2, (-1)), (125, 1, (-1)), (125, 0, (-1)), (122, 3, (-1)), (122, 2, (-1)), (122, 1, (-1)), (122, 0, (-1)), (103, 2, (-1)), (103, 1, (-1)), (103, 0, (-1)), (98, 0, 10), (0, 11, 0), (0, 10, 0), (92, 3, (-1)), (92, 2, (-1)), (92, 1, (-1)), (92, 0, (-1)), (91, 3, (-1)), (91, 2, (-1)), (91, 1, (-1)), (91, 0, (-1)), (88, 3, (-1)), (88, 2, (-1)), (88, 1, (-1)), (88, 0, (-1)), (67, 10, 10), (72, 4, (-1)), (72, 3, (-1)), (72, 2, (-1)), (72, 1, (-1)), (72, 0, (-1)), (20, 10, 10), (25, 4, (-1)), (25, 3, (-1)), (25, 2, (-1)), (25, 1, (-1)), (25, 0, (-1)), (1, 10, 10), (6, 4, (-1)), (6, 3, (-1)), (6, 2, (-1)), (6, 1, (-1)), (6, 0, (-1))]
def zFR : zLl := [(98, 59, 130), (98, 57, 129), (98, 53, 128), (98, 49, 127), (98, 48, 126), (98, 47, 125), (98, 46, 124), (98, 45, 123), (98, 44, 122), (98, 43, 121), (98, 41, 120), (98, 38, 119), (98, 37, 118), (98, 36, 117), (98, 35, 116), (98, 34, 115), (98, 31, 114), (98, 30, 113), (98, 29, 112), (98, 22, 111), (98, 17, 110), (98, 16, 109), (98, 15, 108), (98, 14, 107), (98, 13, 106), (98, 12, 105), (98, 11, 104), (98, 9, 103), (98, 8, 102), (98, 6, 101), (98, 5, 100), (98, 3, 99), (0, 9, 97), (0, 8, 96), (0, 7, 94), (94, 0, 95), (0, 6, 87), (87, 5, 93), (87, 4, 92), (87, 3, 91), (87, 2, 90), (87, 1, 89), (87, 0, 88), (0, 5, 56), (56, 5, 63), (56, 4, 62), (56, 3, 61), (56, 1, 58), (58, 1, 60), (58, 0, 59), (56, 0, 57), (0, 4, 52), (52, 2, 55), (52, 1, 54), (52, 0, 53), (0, 3, 39), (0, 2, 64), (64, 6, 86), (64, 5, 67), (68, 9, 85), (68, 8, 84), (68, 7, 83), (68, 6, 82), (68, 5, 81), (68, 4, 80), (68, 3, 79), (68, 2, 78), (68, 1, 77), (68, 0, 76), (67, 5, 73), (73, 1, 75), (73, 0, 74), (67, 4, 72), (67, 3, 71), (67, 2, 70), (67, 1, 69), (67, 0, 68), (64, 2, 39), (39, 15, 51), (39, 10, 50), (39, 9, 49), (39, 8, 48), (39, 7, 47), (39, 6, 46), (39, 5, 45), (39, 4, 44), (39, 3, 43), (39, 2, 42), (39, 1, 41), (39, 0, 40), (64, 1, 66), (64, 0, 65), (0, 1, 20), (21, 9, 38), (21, 8, 37), (21, 7, 36), (21, 6, 35), (21, 5, 34), (21, 4, 33), (21, 3, 32), (21, 2, 31), (21, 1, 30), (21, 0, 29), (20, 5, 26), (26, 1, 28), (26, 0, 27), (20, 4, 25), (20, 3, 24), (20, 2, 23), (20, 1, 22), (20, 0, 21), (0, 0, 1), (2, 9, 19), (2, 8, 18), (2, 7, 17), (2, 6, 16), (2, 5, 15), (2, 4, 14), (2, 3, 13), (2, 2, 12), (2, 1, 11), (2, 0, 10), (1, 5, 7), (7, 1, 9), (7, 0, 8), (1, 4, 6), (1, 3, 5), (1, 2, 4), (1, 1, 3), (1, 0, 2)]
theorem zIu_no {l : zLl} {a k : Int} (h : ∀ e ∈ l, ¬ (a = e.1 ∧ k = e.2.1)) : zIu l a k = 0 := by
  induction l with
  | nil => rfl
  | cons e l ih =>
    show (if _ then _ else _) = _
    rw [if_neg (h e List.mem_cons_self)]
    exact ih (fun x hx => h x (List.mem_cons_of_mem _ hx))
theorem zRu_no {l : zLl} {a k : Int} (h : ∀ e ∈ l, ¬ (a = e.1 ∧ k = e.2.1)) : zRu l a k = none := by
  induction l with
  | nil => rfl
  | cons e l ih =>
    show (if _ then _ else _) = _
    rw [if_neg (h e List.mem_cons_self)]
    exact ih (fun x hx => h x (List.mem_cons_of_mem _ hx))
theorem zFI_1 : ∀ e ∈ zFI, zIu zFI e.1 e.2.1 = zI0 e.1 e.2.1 := by decide +kernel
theorem zFI_2 : ∀ a : Nat, a < 131 → ∀ k : Nat, k < 60 → zI0 (a : Int) (k : Int) = 0 ∨ ∃ e ∈ zFI, (a : Int) = e.1 ∧ (k : Int) = e.2.1 := by decide +kernel
theorem zI0_in {a k : Int} (h : zI0 a k ≠ 0) : 0 ≤ a ∧ a < 131 ∧ 0 ≤ k ∧ k < 60 := by
  unfold zI0 at h
  split at h
  · omega
  · split at h
    · omega
    · split at h
      · omega
      · split at h
        · omega
        · split at h
          · omega
          · exact absurd rfl h
theorem zFI_eq : zIu zFI = zI0 := by
  funext a k
  by_cases h : ∃ e ∈ zFI, a = e.1 ∧ k = e.2.1
  · obtain ⟨e, he, rfl, rfl⟩ := h
    exact zFI_1 e he
  · have h1 : zIu zFI a k = 0 := zIu_no (fun e he q => h ⟨e, he, q⟩)
    rw [h1]
    by_cases h2 : zI0 a k = 0
    · exact h2.symm
    · exfalso
      obtain ⟨q1, q2, q3, q4⟩ := zI0_in h2
      have := zFI_2 a.toNat (by omega) k.toNat (by omega)
      rw [Int.toNat_of_nonneg q1, Int.toNat_of_nonneg q3] at this
      rcases this with e | e
      · exact h2 e
      · exact h e
theorem zFR_1 : ∀ e ∈ zFR, zRu zFR e.1 e.2.1 = zR 51 e.1 e.2.1 := by decide +kernel
theorem zFR_2 : ∀ a : Nat, a < 131 → ∀ k : Nat, k < 60 → zR 51 (a : Int) (k : Int) = none ∨ ∃ e ∈ zFR, (a : Int) = e.1 ∧ (k : Int) = e.2.1 := by decide +kernel
theorem zRL_len : zRL.length = 131 ∧ ∀ i : Nat, i < 131 → (zRL.getD i []).length ≤ 60 := by decide +kernel
theorem zR51_in {a k : Int} (h : zR 51 a k ≠ none) : 0 ≤ a ∧ a < 131 ∧ 0 ≤ k ∧ k < 60 := by
  unfold zR at h
  split at h
  · rename_i q
    have : zBn = 39 := rfl
    omega
  · split at h
    · exact absurd rfl h
    · rename_i q
      by_cases h1 : a.toNat < 131
      · by_cases h2 : k.toNat < 60
        · omega
        · have := zRL_len.2 a.toNat h1
          rw [List.getD_eq_getElem?_getD, List.getElem?_eq_none (by omega)] at h
          exact absurd rfl h
      · rw [List.getD_eq_getElem?_getD (l := zRL), List.getElem?_eq_none (by rw [zRL_len.1]; omega)] at h
        exact absurd rfl h
theorem zFR_eq : zRu zFR = zR 51 := by
  funext a k
  by_cases h : ∃ e ∈ zFR, a = e.1 ∧ k = e.2.1
  · obtain ⟨e, he, rfl, rfl⟩ := h
    exact zFR_1 e he
  · have h1 : zRu zFR a k = none := zRu_no (fun e he q => h ⟨e, he, q⟩)
    rw [h1]
    by_cases h2 : zR 51 a k = none
    · exact h2.symm
    · exfalso
      obtain ⟨q1, q2, q3, q4⟩ := zR51_in h2
      have := zFR_2 a.toNat (by omega) k.toNat (by omega)
      rw [Int.toNat_of_nonneg q1, Int.toNat_of_nonneg q3] at this
      rcases this with e | e
      · exact h2 e
      · exact h e
theorem zwL_7 : zNwO R_law 7 9 12 := ⟨RX9, TX9, tyX9, zmem 93 (by decide +kernel) (by decide +kernel), zmem 94 (by decide +kernel) (by decide +kernel), znX9_init.1, zinX9, tyX9_ok, rfl, by decide +kernel⟩
theorem zwL_10 : zNwO R_law 10 10 60 := ⟨RX10, TX10, tyX10, zmem 1160 (by decide +kernel) (by decide +kernel), zmem 1161 (by decide +kernel) (by decide +kernel), znX10_init.1, zinX10, tyX10_ok, rfl, by decide +kernel⟩
theorem zcL_9 : zCall R_law 9 mX9_init 0 := ⟨zmem 95 (by decide +kernel) (by decide +kernel), znX9_init.1, znX9_init.2, by decide +kernel, by decide⟩
theorem zcL_12 : zCall R_law 12 mX10_init 0 := ⟨zmem 1162 (by decide +kernel) (by decide +kernel), znX10_init.1, znX10_init.2, by decide +kernel, by decide⟩
