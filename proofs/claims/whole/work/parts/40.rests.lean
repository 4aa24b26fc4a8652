/-! ===== the class: RESTS ===== -/
def zmx (a b : Int) : Int := if a < b then b else a
/-- the NODE with whose LEVEL the FLOW of a PART is known -/
def zkn (P : F2) (p : Int) : Int := if zmode P p = 0 ∨ zmx (zp P p 1) (zp P p 2) < 2 then 0 else if zmode P p = 2 then zmx (zmx (zp P p 1) (zp P p 2)) (zp P p 8) else zmx (zp P p 1) (zp P p 2)
def zst (P : F2) (n : Int) : Nat → Int
  | 0 => n
  | k + 1 => if ¬ zkn P k = 0 ∧ (zp P k 1 = n ∨ zp P k 2 = n) then zmx (zst P n k) (zkn P k) else zst P n k
def zadd (P : F2) (lv : Int → Int) (c n p : Int) : Int := (if zp P p 2 = n then zflow P lv c p else 0) - (if zp P p 1 = n then zflow P lv c p else 0)
def zrw (P : F2) (lv : Int → Int) (c n node : Int) : Nat → Int
  | 0 => 0
  | k + 1 => zrw P lv c n node k + (if 2 ≤ zkn P k ∧ zkn P k ≤ node then zadd P lv c n k else 0)
def zr1 (P : F2) (lv : Int → Int) (c n node : Int) : Nat → Int
  | 0 => 0
  | k + 1 => zr1 P lv c n node k + (if zkn P k = node then zadd P lv c n k else 0)
theorem zmx_le (a b : Int) : a ≤ zmx a b ∧ b ≤ zmx a b ∧ (zmx a b = a ∨ zmx a b = b) := by unfold zmx; split <;> omega
section RS
variable {P : F2} {lv lv' : Int → Int} {c n node p : Int}
theorem znet_ad (k : Nat) : znet P lv c n (k + 1) = znet P lv c n k + zadd P lv c n k := by
  unfold zadd
  conv => lhs; unfold znet
  (repeat' split) <;> omega
theorem zr_add (h : 2 ≤ node) : ∀ k : Nat, zrw P lv c n node k = zrw P lv c n (node - 1) k + zr1 P lv c n node k := by
  intro k
  induction k with
  | zero => rfl
  | succ k ih =>
    unfold zrw zr1
    rw [ih]
    (repeat' split) <;> omega
theorem zr_1 : ∀ k : Nat, zrw P lv c n 1 k = 0 := by
  intro k
  induction k with
  | zero => rfl
  | succ k ih => unfold zrw; rw [ih]; split <;> omega
theorem zkn_facts (hW : zWf P) (h0 : 0 ≤ p) (h1 : p < P 98 4) : zkn P p = 0 ∨ (2 ≤ zkn P p ∧ zkn P p ≤ 4 ∧ zp P p 1 ≤ zkn P p ∧ zp P p 2 ≤ zkn P p ∧ ¬ zmode P p = 0 ∧ (zmode P p = 2 → zp P p 8 ≤ zkn P p)) := by
  obtain ⟨g0, g1, g2, g3, g4, g5, g6, g7⟩ := wf_part hW h0 h1
  have a := zmx_le (zp P p 1) (zp P p 2)
  have b := zmx_le (zmx (zp P p 1) (zp P p 2)) (zp P p 8)
  unfold zkn
  split
  · exact Or.inl rfl
  · right
    split
    · rename_i h2
      have : zp P p 0 = 2 ∨ zp P p 0 = 3 := by
        unfold zmode at h2
        (repeat' split at h2) <;> omega
      have := g6 this
      omega
    · omega
theorem zflow_still (h : zmode P p = 0) : zflow P lv c p = 0 := by
  have hm0 : zp P p 0 = 4 ∨ zp P p 4 = 1 := by
    unfold zmode at h
    (repeat' split at h) <;> omega
  unfold zflow zfl0
  (repeat' split) <;> omega
theorem zadd_kn0 (hW : zWf P) (h0 : 0 ≤ p) (h1 : p < P 98 4) (hn : 2 ≤ n) (h : zkn P p = 0) : zadd P lv c n p = 0 := by
  obtain ⟨g0, g1, g2, g3, g4, g5, g6, g7⟩ := wf_part hW h0 h1
  have a := zmx_le (zp P p 1) (zp P p 2)
  have b := zmx_le (zmx (zp P p 1) (zp P p 2)) (zp P p 8)
  unfold zkn at h
  by_cases q : zmode P p = 0
  · unfold zadd; rw [zflow_still q]; (repeat' split) <;> omega
  · have : zmx (zp P p 1) (zp P p 2) < 2 := by
      (repeat' split at h) <;> omega
    unfold zadd
    rw [if_neg (by omega), if_neg (by omega)]
    rfl
theorem zadd_out (h1 : ¬ zp P p 1 = n) (h2 : ¬ zp P p 2 = n) : zadd P lv c n p = 0 := by unfold zadd; rw [if_neg h1, if_neg h2]; rfl
theorem zst_facts (hW : zWf P) (hn : 0 ≤ n ∧ n ≤ 4) : ∀ k : Nat, (k : Int) ≤ P 98 4 → n ≤ zst P n k ∧ zst P n k ≤ 4 ∧ ∀ q : Nat, q < k → (zp P q 1 = n ∨ zp P q 2 = n) → zkn P q ≤ zst P n k := by
  intro k
  induction k with
  | zero => intro _; exact ⟨Int.le_refl _, hn.2, fun q hq => absurd hq (by omega)⟩
  | succ k ih =>
    intro h
    obtain ⟨i1, i2, i3⟩ := ih (by omega)
    have hk := zkn_facts (p := (k : Int)) hW (by omega) (by omega)
    have b := zmx_le (zst P n k) (zkn P k)
    unfold zst
    split
    · refine ⟨by omega, by omega, fun q hq z => ?_⟩
      by_cases e : q = k
      · subst e; exact b.2.1
      · have := i3 q (by omega) z; omega
    · rename_i hno
      refine ⟨i1, i2, fun q hq z => ?_⟩
      by_cases e : q = k
      · subst e
        by_cases z0 : zkn P q = 0
        · omega
        · exact absurd ⟨z0, z⟩ hno
      · exact i3 q (by omega) z
theorem zflow_dep (hW : zWf P) (h0 : 0 ≤ p) (h1 : p < P 98 4) (hk : ¬ zkn P p = 0) (hl : ∀ k, 0 ≤ k → k ≤ zkn P p → lv k = lv' k) : zflow P lv c p = zflow P lv' c p := by
  obtain ⟨g0, g1, g2, g3, g4, g5, g6, g7⟩ := wf_part hW h0 h1
  have hf := zkn_facts hW h0 h1
  unfold zflow
  rw [hl _ g1.1 (by omega), hl _ g2.1 (by omega)]
  unfold zfl0
  split
  · split
    · rfl
    · split
      · rfl
      · unfold zfl1 zfl2 zfl3
        by_cases hz : zp P p 0 = 1
        · simp only [if_pos hz]
        · have h6 := g6 (by omega)
          have hm : zmode P p = 2 := by unfold zmode; (repeat' split) <;> omega
          rw [hl _ h6.1 (by omega)]
  · rfl
theorem zadd_dep (hW : zWf P) (h0 : 0 ≤ p) (h1 : p < P 98 4) (hk : ¬ zkn P p = 0) (hl : ∀ k, 0 ≤ k → k ≤ zkn P p → lv k = lv' k) : zadd P lv c n p = zadd P lv' c n p := by
  unfold zadd; rw [zflow_dep hW h0 h1 hk hl]
theorem zrw_dep (hW : zWf P) (hl : ∀ k, 0 ≤ k → k ≤ node → lv k = lv' k) : ∀ k : Nat, (k : Int) ≤ P 98 4 → zrw P lv c n node k = zrw P lv' c n node k := by
  intro k
  induction k with
  | zero => intro _; rfl
  | succ k ih =>
    intro h
    unfold zrw
    rw [ih (by omega)]
    split
    · rename_i z
      rw [zadd_dep hW (by omega) (by omega) (by omega) (fun q a b => hl q a (by omega))]
    · rfl
theorem zrw_net (hW : zWf P) (hn : 2 ≤ n ∧ n ≤ 4) : ∀ k : Nat, (k : Int) ≤ P 98 4 → (∀ q : Nat, q < k → (zp P q 1 = n ∨ zp P q 2 = n) → zkn P q ≤ node) → zrw P lv c n node k = znet P lv c n k := by
  intro k
  induction k with
  | zero => intro _ _; rfl
  | succ k ih =>
    intro h hq
    rw [znet_ad]
    unfold zrw
    rw [ih (by omega) (fun q a b => hq q (by omega) b)]
    have hk := zkn_facts (p := (k : Int)) hW (by omega) (by omega)
    split
    · rfl
    · rename_i z
      by_cases t : zp P k 1 = n ∨ zp P k 2 = n
      · have := hq k (by omega) t
        rw [zadd_kn0 hW (by omega) (by omega) hn.1 (by omega)]
      · rw [zadd_out (fun e => t (Or.inl e)) (fun e => t (Or.inr e))]
theorem zadd_le (hW : zWf P) (h0 : 0 ≤ p) (h1 : p < P 98 4) (hc : 0 ≤ c ∧ c ≤ 8) (hl : ∀ k, 0 ≤ k → k ≤ 4 → 0 ≤ lv k ∧ lv k ≤ 20) : -4725 ≤ zadd P lv c n p ∧ zadd P lv c n p ≤ 4725 := by
  have := zflow_le hW h0 h1 hc hl
  unfold zadd
  (repeat' split) <;> omega
theorem zrw_le (hW : zWf P) (hc : 0 ≤ c ∧ c ≤ 8) (hl : ∀ k, 0 ≤ k → k ≤ 4 → 0 ≤ lv k ∧ lv k ≤ 20) : ∀ k : Nat, (k : Int) ≤ P 98 4 → -(4725 * (k : Int)) ≤ zrw P lv c n node k ∧ zrw P lv c n node k ≤ 4725 * (k : Int) := by
  intro k
  induction k with
  | zero => intro _; unfold zrw; omega
  | succ k ih =>
    intro h
    have h1 := ih (by omega)
    have h2 := zadd_le (n := n) (p := (k : Int)) hW (by omega) (by omega) hc hl
    unfold zrw
    split <;> omega
theorem zr1_le (hW : zWf P) (hc : 0 ≤ c ∧ c ≤ 8) (hl : ∀ k, 0 ≤ k → k ≤ 4 → 0 ≤ lv k ∧ lv k ≤ 20) : ∀ k : Nat, (k : Int) ≤ P 98 4 → -(4725 * (k : Int)) ≤ zr1 P lv c n node k ∧ zr1 P lv c n node k ≤ 4725 * (k : Int) := by
  intro k
  induction k with
  | zero => intro _; unfold zr1; omega
  | succ k ih =>
    intro h
    have h1 := ih (by omega)
    have h2 := zadd_le (n := n) (p := (k : Int)) hW (by omega) (by omega) hc hl
    unfold zr1
    split <;> omega
end RS
