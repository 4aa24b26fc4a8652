/-! ===== what both are at first ===== -/
def zI0 (a k : Int) : Int := if a = 98 ∧ k = 0 then 10 else if (a = 1 ∨ a = 20 ∨ a = 67) ∧ k = 10 then 10 else if (a = 6 ∨ a = 25 ∨ a = 72) ∧ (0 ≤ k ∧ k < 5) then -1 else if a = 103 ∧ (0 ≤ k ∧ k < 3) then -1 else if (a = 88 ∨ a = 91 ∨ a = 92 ∨ a = 122 ∨ a = 125) ∧ (0 ≤ k ∧ k < 4) then -1 else 0
def zm0 : zM := (zI0, fun _ _ => 0, 51)
theorem zI0_0 {a k : Int} (h : ¬ (a = 98 ∧ k = 0) ∧ ¬ ((a = 1 ∨ a = 20 ∨ a = 67) ∧ k = 10) ∧ ¬ (a = 6 ∨ a = 25 ∨ a = 72) ∧ ¬ a = 103 ∧ ¬ (a = 88 ∨ a = 91 ∨ a = 92 ∨ a = 122 ∨ a = 125)) : zm0.1 a k = 0 := by
  show zI0 a k = 0
  unfold zI0
  rw [if_neg h.1, if_neg h.2.1, if_neg (fun z => h.2.2.1 z.1), if_neg (fun z => h.2.2.2.1 z.1), if_neg (fun z => h.2.2.2.2 z.1)]
theorem zI0_m {a k : Int} (h : ((a = 6 ∨ a = 25 ∨ a = 72) ∧ (0 ≤ k ∧ k < 5)) ∨ (a = 103 ∧ (0 ≤ k ∧ k < 3)) ∨ ((a = 88 ∨ a = 91 ∨ a = 92 ∨ a = 122 ∨ a = 125) ∧ (0 ≤ k ∧ k < 4))) : zm0.1 a k = -1 := by
  show zI0 a k = -1
  unfold zI0
  rw [if_neg (by omega), if_neg (by omega)]
  (repeat' split) <;> omega
theorem zInv_0 : zInv 0 zm0 := by
  have p0 : ∀ a k, (a = 98 ∧ 0 ≤ k ∧ k ≤ 17) ∨ (99 ≤ a ∧ a ≤ 105) → pv zm0.1 a k = zm0.1 a k := fun a k h => pv_at h
  have e0 : pv zm0.1 98 0 = 10 := by rw [p0 _ _ (by omega)]; rfl
  have e1 : pv zm0.1 98 1 = 0 := by rw [p0 _ _ (by omega)]; exact zI0_0 (by omega)
  have e2 : pv zm0.1 98 2 = 0 := by rw [p0 _ _ (by omega)]; exact zI0_0 (by omega)
  have e4 : pv zm0.1 98 4 = 0 := by rw [p0 _ _ (by omega)]; exact zI0_0 (by omega)
  have e7 : pv zm0.1 98 7 = 0 := by rw [p0 _ _ (by omega)]; exact zI0_0 (by omega)
  have e10 : pv zm0.1 98 10 = 0 := by rw [p0 _ _ (by omega)]; exact zI0_0 (by omega)
  have e103 : ∀ i, 0 ≤ i → i < 3 → pv zm0.1 103 i = -1 := fun i a b => by rw [p0 _ _ (by omega)]; exact zI0_m (by omega)
  refine ⟨⟨⟨⟨by rw [e0]; omega, by rw [e1]; omega, by rw [e2]; omega, by rw [e4]; omega, by rw [e7]; omega, fun i a b => by rw [e2] at b; omega, fun p a b => by rw [e4] at b; omega, fun p a b => by rw [e4] at b; omega, fun k a b => by rw [e7] at b; omega, fun i a b => by rw [e103 i a b]; omega⟩, ⟨by rw [e10]; omega, fun i a b => by rw [e10] at b; omega⟩, ?_⟩, ⟨⟨?_, ?_, ?_, ?_, ?_, fun i a b => by rw [e2] at b; omega, fun p k a b => by rw [e4] at b; omega, fun p a b => by rw [e4] at b; omega, fun k a b => by rw [e7] at b; omega, fun i a b => ?_⟩, ?_, ⟨?_, ?_⟩, ?_, fun i a b => by rw [e10] at b; omega⟩⟩, ⟨⟨fun t a b => ?_, ?_⟩, ?_⟩, ⟨?_, Or.inl ?_⟩, ⟨?_, ?_, fun j a b => ?_⟩, ⟨?_, ?_, fun i a b => ?_, ?_⟩, ⟨fun s a b => ⟨⟨?_, ?_⟩, ⟨?_, ?_⟩⟩, fun i a b => ?_, fun s a b => Or.inl ⟨?_, ?_, ?_⟩⟩, ⟨?_, ?_, fun i a b => ?_⟩⟩
  · unfold zoc; rw [e4]; exact Nat.zero_le _
  · rw [e0]; rfl
  · rw [e1]; exact zI0_0 (by omega)
  · rw [e2]; exact zI0_0 (by omega)
  · rw [e4]; exact zI0_0 (by omega)
  · rw [e7]; exact zI0_0 (by omega)
  · rw [e103 i a b]; exact zI0_m (by omega)
  · rw [e10]; exact zI0_0 (by omega)
  · rw [zI0_0 (by omega)]; omega
  · rw [zI0_0 (by omega)]; omega
  · exact zI0_0 (by omega)
  · rw [zI0_0 (by omega), zI0_0 (by omega)]; omega
  · rw [zI0_0 (by omega)]; omega
  · rw [zI0_0 (by omega)]; omega
  · rw [zI0_0 (by omega), zI0_0 (by omega)]
  · exact zI0_0 (by omega)
  · rw [zI0_0 (by omega), zI0_0 (by omega)]
  · rw [zI0_0 (by omega)]; omega
  · rw [zI0_0 (by omega)] at b; omega
  · rw [zI0_0 (by omega), zI0_0 (by omega)]
  · rw [zI0_0 (by omega)]; omega
  · rw [zI0_0 (by omega)] at b; omega
  · exact zI0_0 (by omega)
  · rw [zI0_m (by omega), zI0_m (by omega)]
  · rw [zI0_m (by omega)]; omega
  · rw [zI0_0 (by omega), zI0_0 (by omega)]
  · rw [zI0_0 (by omega)]; omega
  · rw [zI0_0 (by omega)]; rfl
  · exact zI0_m (by omega)
  · exact zI0_m (by omega)
  · exact zI0_m (by omega)
  · rw [zI0_0 (by omega), zI0_0 (by omega)]
  · rw [zI0_0 (by omega)]; omega
  · rw [zI0_0 (by omega)] at b; omega
