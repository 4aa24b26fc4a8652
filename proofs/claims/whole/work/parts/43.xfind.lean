/-! ===== RESTS: the search over STATES ===== -/
def zck (P : F2) (c s j : Int) : Prop := ∀ i, 2 ≤ i → i ≤ 4 → zst P i (P 98 4).toNat = j → zmvn P c s i = zlv P s i
theorem zrest_iff {P : F2} {c s : Int} (hs : 0 ≤ s ∧ s ≤ 9260) : ztick P c s = s ↔ ∀ i, 2 ≤ i → i ≤ 4 → zmvn P c s i = zlv P s i := by
  obtain ⟨t2, t3, t4⟩ := zlv_tick (P := P) (c := c) (s := s)
  constructor
  · intro h i a b
    rw [h] at t2 t3 t4
    have : i = 2 ∨ i = 3 ∨ i = 4 := by omega
    rcases this with rfl | rfl | rfl
    · exact t2.symm
    · exact t3.symm
    · exact t4.symm
  · intro h
    have h2 := h 2 (by omega) (by omega)
    have h3 := h 3 (by omega) (by omega)
    have h4 := h 4 (by omega) (by omega)
    have := zlv_state (P := P) hs
    unfold ztick
    rw [h2, h3, h4]
    omega
theorem zrest_ck {P : F2} {c s : Int} (hW : zWf P) (hs : 0 ≤ s ∧ s ≤ 9260) : ztick P c s = s ↔ zck P c s 2 ∧ zck P c s 3 ∧ zck P c s 4 := by
  rw [zrest_iff hs]
  have h4 := hW.2.2.2.1
  constructor
  · exact fun h => ⟨fun i a b _ => h i a b, fun i a b _ => h i a b, fun i a b _ => h i a b⟩
  · intro h i a b
    have := zst_facts (n := i) hW ⟨by omega, b⟩ (P 98 4).toNat (by omega)
    have hz : zst P i (P 98 4).toNat = 2 ∨ zst P i (P 98 4).toNat = 3 ∨ zst P i (P 98 4).toNat = 4 := by omega
    rcases hz with z | z | z
    · exact h.1 i a b z
    · exact h.2.1 i a b z
    · exact h.2.2 i a b z
abbrev F3 : Type := Int × Int × Int
def zs1 (P : F2) (c w k : Int) (t : F3) : F3 := if t.2.2 = 0 ∧ ztick P c k = k then (t.1 + 1, (if t.1 = w then k else t.2.1), (if t.1 = w then 1 else 0)) else t
def zsf (P : F2) (c w : Int) : Nat → Nat → F3 → F3
  | 0, _, t => t
  | n + 1, k, t => zsf P c w n (k + 1) (zs1 P c w k t)
section SF
variable {P : F2} {c w : Int}
theorem zsf_app : ∀ (n1 n2 k : Nat) (t : F3), zsf P c w (n1 + n2) k t = zsf P c w n2 (k + n1) (zsf P c w n1 k t) := by
  intro n1
  induction n1 with
  | zero => intro n2 k t; rw [Nat.zero_add]; rfl
  | succ n1 ih =>
    intro n2 k t
    rw [Nat.succ_add]
    show zsf P c w (n1 + n2) (k + 1) (zs1 P c w k t) = zsf P c w n2 (k + (n1 + 1)) (zsf P c w n1 (k + 1) (zs1 P c w k t))
    rw [ih, show k + 1 + n1 = k + (n1 + 1) by omega]
theorem zsf_skip : ∀ (n k : Nat) (t : F3), (∀ s : Nat, k ≤ s → s < k + n → ¬ ztick P c s = s) → zsf P c w n k t = t := by
  intro n
  induction n with
  | zero => intro k t _; rfl
  | succ n ih =>
    intro k t h
    show zsf P c w n (k + 1) (zs1 P c w k t) = t
    have : zs1 P c w k t = t := if_neg (fun z => h k (by omega) (by omega) z.2)
    rw [this]
    exact ih (k + 1) t (fun s a b => h s (by omega) (by omega))
theorem zsf_hit : ∀ (n k : Nat) (t : F3), ¬ t.2.2 = 0 → zsf P c w n k t = t := by
  intro n
  induction n with
  | zero => intro k t _; rfl
  | succ n ih =>
    intro k t h
    show zsf P c w n (k + 1) (zs1 P c w k t) = t
    have : zs1 P c w k t = t := if_neg (fun z => h z.1)
    rw [this]
    exact ih (k + 1) t h
end SF
