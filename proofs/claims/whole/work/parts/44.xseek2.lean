section XZ
variable {K : zCx} {P : F2} {c : Int} {m0 : zM}
def zstay (m : zM) (x i : Int) : Prop := m.1 54 i = x → zmv (m.1 40 i) (m.1 55 (5 * x + i)) (m.1 42 i) = m.1 40 i
theorem c_X6_stay {d : Nat} {x : Int} (hx : 2 ≤ x ∧ x ≤ 4) (hl : ∀ k, 0 ≤ k → k ≤ x → 0 ≤ m0.1 40 k ∧ m0.1 40 k ≤ 20) (hw : ∀ k, 2 ≤ k → k ≤ x → 1 ≤ m0.1 42 k) (hs : ∀ k, 2 ≤ k → k ≤ x → -50000 ≤ m0.1 55 (5 * x + k) ∧ m0.1 55 (5 * x + k) ≤ 50000) :
    zCt K (d + 2) mX6_stay [rr K 52, rr K 39, .int (iz x)] m0 (fun r m1 => m1 = m0 ∧ ((r = 1 ∧ ∀ i, 2 ≤ i → i ≤ x → zstay m0 x i) ∨ (r = 0 ∧ ∃ i, 2 ≤ i ∧ i ≤ x ∧ ¬ zstay m0 x i))) := by
  refine zCt.of (by decide) (Nat.le_of_ble_eq_true rfl) (vc_X6_stay_0 (d := d) x m0 (inR_b (A := 10) (by omega) (by omega) rfl) (fun _ => ?_))
  have loop : ∀ (n k : Nat), (k : Int) + n = x + 1 → 2 ≤ k → (∀ i, 2 ≤ i → i < (k : Int) → zstay m0 x i) → zV K mX6_stay (d + 2) 2 [(0, rr K 52), (1, rr K 39), (2, .int (iz x)), (3, .int (iz (k : Int)))] [] m0 (fun r m1 => m1 = m0 ∧ ((r = 1 ∧ ∀ i, 2 ≤ i → i ≤ x → zstay m0 x i) ∨ (r = 0 ∧ ∃ i, 2 ≤ i ∧ i ≤ x ∧ ¬ zstay m0 x i))) := by
    intro n
    induction n with
    | zero => exact fun k hk k2 h => vc_X6_stay_2 x k m0 (inR_b (A := 10) (by omega) (by omega) rfl) (inR_b (A := 10) (by omega) (by omega) rfl) (fun _ => ⟨fun _ => ⟨rfl, Or.inl ⟨rfl, fun i a b => h i a (by omega)⟩⟩, fun q => absurd (by omega) q⟩)
    | succ n ih =>
      intro k hk k2 h
      refine vc_X6_stay_2 x k m0 (inR_b (A := 10) (by omega) (by omega) rfl) (inR_b (A := 10) (by omega) (by omega) rfl) (fun _ => ⟨fun q => absurd q (by omega), fun _ => ⟨by omega, by omega, fun q => ⟨by omega, by omega, ?_⟩, fun q => ih (k + 1) (by omega) (by omega) (fun i a b => ?_)⟩⟩)
      · have e5 : x * 5 + (k : Int) = 5 * x + k := by omega
        rw [e5]
        refine (c_X1_moved (d := d) (m0 := m0) (n := k) ⟨by omega, by omega⟩ (hl _ (by omega) (by omega)) (hw _ (by omega) (by omega)) (hs _ (by omega) (by omega))).mono (fun r m5 h' => ?_)
        obtain ⟨h1, h2⟩ := h'
        subst h2
        intro _ _
        refine ⟨fun z => ih (k + 1) (by omega) (by omega) (fun i a b => ?_), fun z => ⟨rfl, Or.inr ⟨rfl, k, by omega, by omega, fun y => z (by rw [h1]; exact y q)⟩⟩⟩
        by_cases e : i = k
        · rw [e]; exact fun _ => by rw [← h1]; exact z
        · exact h i a (by omega)
      · by_cases e : i = k
        · rw [e]; exact fun y => absurd y q
        · exact h i a (by omega)
  exact loop (x - 1).toNat 2 (by omega) (by omega) (fun i a b => absurd b (by omega))
def zfs (m : zM) : F3 := (m.1 52 4, m.1 52 5, m.1 52 6)
theorem c_X6_note {d : Nat} {s w : Int} (hs : 0 ≤ s ∧ s ≤ 9260) (hw : m0.1 52 3 = w) (h6 : m0.1 52 6 = 0) (hf : 0 ≤ m0.1 52 4 ∧ m0.1 52 4 ≤ 100000) (ht : ztick P c s = s) :
    zCt K (d + 1) mX6_note [rr K 52, .int (iz s)] m0 (fun r m1 => r = 0 ∧ zFr (fun a k => a = 52 ∧ 4 ≤ k) m0 m1 ∧ zfs m1 = zs1 P c w s (zfs m0)) := by
  refine zCt.of (by decide) (Nat.le_of_ble_eq_true rfl) (vc_X6_note_0 (d := d) s m0 (inR_b (A := 9260) (by omega) (by omega) rfl) (fun _ => ⟨fun q m5 e5 _ m7 e7 _ => ?_, fun q => ⟨inR_b (A := 1000000) (by omega) (by omega) rfl, fun m3 e3 _ => ⟨rfl, zFr.rf.put e3 ⟨rfl, by omega⟩, ?_⟩⟩⟩))
  · have g4 : m7.1 52 4 = m0.1 52 4 := by rw [e7, sI_ne (Or.inr (by omega)), e5, sI_ne (Or.inr (by omega))]
    refine ⟨inR_b (A := 1000000) (by omega) (by omega) rfl, fun m10 e10 _ => ⟨rfl, ((zFr.rf.put e5 ⟨rfl, by omega⟩).put e7 ⟨rfl, by omega⟩).put e10 ⟨rfl, by omega⟩, ?_⟩⟩
    have a4 : m10.1 52 4 = m0.1 52 4 + 1 := by rw [e10, sI_eq, g4]
    have a5 : m10.1 52 5 = s := by rw [e10, sI_ne (Or.inr (by omega)), e7, sI_eq]
    have a6 : m10.1 52 6 = 1 := by rw [e10, sI_ne (Or.inr (by omega)), e7, sI_ne (Or.inr (by omega)), e5, sI_eq]
    unfold zfs zs1
    rw [if_pos ⟨h6, ht⟩, a4, a5, a6, if_pos (by omega), if_pos (by omega)]
  · have a4 : m3.1 52 4 = m0.1 52 4 + 1 := by rw [e3, sI_eq]
    have a5 : m3.1 52 5 = m0.1 52 5 := by rw [e3, sI_ne (Or.inr (by omega))]
    have a6 : m3.1 52 6 = 0 := by rw [e3, sI_ne (Or.inr (by omega)), h6]
    unfold zfs zs1
    rw [if_pos ⟨h6, ht⟩, a4, a5, a6, if_neg (by omega), if_neg (by omega)]
end XZ
