/-! ===== the words of the document, over a plan P (by the reference's own addresses: 98 fields, 99 tables, 100 parts, 101 open, 102 changes, 103 measured) ===== -/
abbrev F2 : Type := Int → Int → Int
def pv (f : F2) : F2 := fun a k => if (a = 98 ∧ 0 ≤ k ∧ k ≤ 17) ∨ (99 ≤ a ∧ a ≤ 105) then f a k else 0
theorem pv_at {f : F2} {a k : Int} (h : (a = 98 ∧ 0 ≤ k ∧ k ≤ 17) ∨ (99 ≤ a ∧ a ≤ 105)) : pv f a k = f a k := if_pos h
theorem pv_r {f P : F2} (hP : pv f = P) {a : Int} (h : 99 ≤ a ∧ a ≤ 105) (k : Int) : f a k = P a k := by rw [← hP, pv_at (Or.inr h)]
theorem pv_f {f P : F2} (hP : pv f = P) {k : Int} (h : 0 ≤ k ∧ k ≤ 17) : f 98 k = P 98 k := by rw [← hP, pv_at (Or.inl ⟨rfl, h⟩)]
theorem pv_eq {f g : F2} (h : ∀ a k, ((a = 98 ∧ 0 ≤ k ∧ k ≤ 17) ∨ (99 ≤ a ∧ a ≤ 105)) → f a k = g a k) : pv f = pv g := by
  funext a k
  unfold pv
  split
  · exact h a k (by assumption)
  · rfl
def zp (P : F2) (p k : Int) : Int := P 100 (10 * p + k)
def zlv (P : F2) (s n : Int) : Int := if n = 1 then P 98 0 else if n = 2 then s / 441 else if n = 3 then s / 21 % 21 else if n = 4 then s % 21 else 0
def zfl3 (P : F2) (lv : Int → Int) (c p d n : Int) : Int :=
  if zp P p 0 = 1 then (if 0 ≤ d then Int.tdiv (n * (10 + (zp P p 7 - 5) * (c % 3 - 1))) 10 else - Int.tdiv (n * (10 + (zp P p 7 - 5) * (c % 3 - 1))) 10)
  else Int.tdiv ((if 0 ≤ d then Int.tdiv (n * (10 + (zp P p 7 - 5) * (c % 3 - 1))) 10 else - Int.tdiv (n * (10 + (zp P p 7 - 5) * (c % 3 - 1))) 10) * (if lv (zp P p 8) ≤ 10 then lv (zp P p 8) else 10)) 10
def zfl2 (P : F2) (lv : Int → Int) (c p d n : Int) : Int := zfl3 P lv c p d (n * zp P (if zp P p 0 = 3 then zp P p 9 else p) 3)
def znum (P : F2) (c p d : Int) : Int := P 99 (21 * zp P p 5 + (if 0 ≤ d then d else -d)) + zp P p 6 * (c / 3 - 1)
def zfl1 (P : F2) (lv : Int → Int) (c p d : Int) : Int := zfl2 P lv c p d (if znum P c p d < 0 then 0 else if d = 0 then 0 else znum P c p d)
def zfl0 (P : F2) (lv : Int → Int) (c p d : Int) : Int :=
  if zp P p 4 ≤ 0 then (if zp P p 0 = 4 then 0 else if zp P p 0 = 5 then zp P p 3 else zfl1 P lv c p d) else if zp P p 4 = 1 then 0 else if zp P p 0 = 4 then 0 else 40 * d
/-- FLOW of a PART at LEVELS, in a CORNER -/
def zflow (P : F2) (lv : Int → Int) (c p : Int) : Int := zfl0 P lv c p (lv (zp P p 1) - lv (zp P p 2))
def zPartOk (P : F2) (p : Int) : Prop := (1 ≤ zp P p 0 ∧ zp P p 0 ≤ 5) ∧ (0 ≤ zp P p 1 ∧ zp P p 1 ≤ 4) ∧ (0 ≤ zp P p 2 ∧ zp P p 2 ≤ 4) ∧ (1 ≤ zp P p 3 ∧ zp P p 3 ≤ 9) ∧ (0 ≤ zp P p 4 ∧ zp P p 4 ≤ 2) ∧
  (zp P p 0 ≤ 3 → (0 ≤ zp P p 5 ∧ zp P p 5 < P 98 2) ∧ (0 ≤ zp P p 6 ∧ zp P p 6 ≤ 5) ∧ (0 ≤ zp P p 7 ∧ zp P p 7 ≤ 9)) ∧ (zp P p 0 = 2 ∨ zp P p 0 = 3 → 0 ≤ zp P p 8 ∧ zp P p 8 ≤ 4) ∧ (zp P p 0 = 3 → 0 ≤ zp P p 9 ∧ zp P p 9 < p)
def zOpenOk (P : F2) (p : Int) : Prop := (P 101 (2 * p) = 0 ∧ P 101 (2 * p + 1) = 0) ∨ (1 ≤ P 101 (2 * p) ∧ P 101 (2 * p) ≤ P 101 (2 * p + 1) ∧ P 101 (2 * p + 1) ≤ 9 ∧ P 101 (2 * p + 1) - P 101 (2 * p) ≤ 3)
def zWf (P : F2) : Prop := (0 ≤ P 98 0 ∧ P 98 0 ≤ 20) ∧ (0 ≤ P 98 1 ∧ P 98 1 ≤ 9260) ∧ (0 ≤ P 98 2 ∧ P 98 2 ≤ 4) ∧ (0 ≤ P 98 4 ∧ P 98 4 ≤ 10) ∧ (0 ≤ P 98 7 ∧ P 98 7 ≤ 6) ∧
  (∀ i, 0 ≤ i → i < 21 * P 98 2 → 0 ≤ P 99 i ∧ P 99 i ≤ 30) ∧ (∀ p, 0 ≤ p → p < P 98 4 → zPartOk P p) ∧ (∀ p, 0 ≤ p → p < P 98 4 → zOpenOk P p) ∧
  (∀ k, 0 ≤ k → k < P 98 7 → (0 ≤ P 102 (2 * k) ∧ P 102 (2 * k) < P 98 4) ∧ (0 ≤ P 102 (2 * k + 1) ∧ P 102 (2 * k + 1) ≤ 2)) ∧ (∀ i, 0 ≤ i → i < 3 → -1 ≤ P 103 i ∧ P 103 i ≤ 20)
theorem zmulb {a b A B : Int} (ha : 0 ≤ a) (hA : a ≤ A) (hb : 0 ≤ b) (hB : b ≤ B) : 0 ≤ a * b ∧ a * b ≤ A * B := ⟨Int.mul_nonneg ha hb, Int.mul_le_mul hA hB hb (by omega)⟩
theorem zmula {a b A B : Int} (ha : -A ≤ a) (hA : a ≤ A) (hb : 0 ≤ b) (hB : b ≤ B) : -(A * B) ≤ a * b ∧ a * b ≤ A * B := by
  have hA0 : 0 ≤ A := by omega
  constructor
  · have h1 := Int.mul_le_mul_of_nonneg_right ha hb
    have h2 : A * b ≤ A * B := Int.mul_le_mul_of_nonneg_left hB hA0
    rw [Int.neg_mul] at h1
    omega
  · have h1 := Int.mul_le_mul_of_nonneg_right hA hb
    have h2 : A * b ≤ A * B := Int.mul_le_mul_of_nonneg_left hB hA0
    omega
theorem ztd {a A : Int} (h0 : 0 ≤ a) (h1 : a ≤ A) (n : Int) (hn : 0 < n) : 0 ≤ a.tdiv n ∧ a.tdiv n ≤ A := by
  rw [Int.tdiv_eq_ediv_of_nonneg h0]
  have := Int.ediv_nonneg h0 (Int.le_of_lt hn)
  have := Int.ediv_le_self n h0
  omega
theorem ztda {a A : Int} (h0 : -A ≤ a) (h1 : a ≤ A) (n : Int) (hn : 0 < n) : -A ≤ a.tdiv n ∧ a.tdiv n ≤ A := by
  by_cases hp : 0 ≤ a
  · have := ztd hp h1 n hn
    omega
  · have := ztd (a := -a) (A := A) (by omega) (by omega) n hn
    rw [Int.neg_tdiv] at this
    omega
theorem zmod3 {c : Int} (h : 0 ≤ c ∧ c ≤ 8) : Int.tmod c 3 = c % 3 := Int.tmod_eq_emod_of_nonneg h.1
theorem zdiv3 {c : Int} (h : 0 ≤ c ∧ c ≤ 8) : Int.tdiv c 3 = c / 3 := Int.tdiv_eq_ediv_of_nonneg h.1
section ZF
variable {P : F2} {lv : Int → Int} {c p d n : Int}
theorem zfac (hk : 0 ≤ zp P p 7 ∧ zp P p 7 ≤ 9) : 0 ≤ 10 + (zp P p 7 - 5) * (c % 3 - 1) ∧ 10 + (zp P p 7 - 5) * (c % 3 - 1) ≤ 15 := by
  have h3 : c % 3 = 0 ∨ c % 3 = 1 ∨ c % 3 = 2 := by omega
  rcases h3 with h | h | h <;> rw [h] <;> omega
theorem zfl3_le (hk : 0 ≤ zp P p 7 ∧ zp P p 7 ≤ 9) (hn : 0 ≤ n ∧ n ≤ 315) (hl : ∀ k, 0 ≤ lv k ∧ lv k ≤ 20) : -4725 ≤ zfl3 P lv c p d n ∧ zfl3 P lv c p d n ≤ 4725 := by
  have h1 := zfac (c := c) hk
  have h2 := zmulb hn.1 hn.2 h1.1 h1.2
  have h3 := ztd h2.1 h2.2 10 (by decide)
  have h4 := hl (zp P p 8)
  unfold zfl3
  split
  · split <;> omega
  · have h5 : -4725 ≤ (if 0 ≤ d then Int.tdiv (n * (10 + (zp P p 7 - 5) * (c % 3 - 1))) 10 else - Int.tdiv (n * (10 + (zp P p 7 - 5) * (c % 3 - 1))) 10) ∧ (if 0 ≤ d then Int.tdiv (n * (10 + (zp P p 7 - 5) * (c % 3 - 1))) 10 else - Int.tdiv (n * (10 + (zp P p 7 - 5) * (c % 3 - 1))) 10) ≤ 4725 := by split <;> omega
    have h6 : 0 ≤ (if lv (zp P p 8) ≤ 10 then lv (zp P p 8) else 10) ∧ (if lv (zp P p 8) ≤ 10 then lv (zp P p 8) else 10) ≤ 10 := by split <;> omega
    generalize (if 0 ≤ d then Int.tdiv (n * (10 + (zp P p 7 - 5) * (c % 3 - 1))) 10 else - Int.tdiv (n * (10 + (zp P p 7 - 5) * (c % 3 - 1))) 10) = v at h5 ⊢
    generalize (if lv (zp P p 8) ≤ 10 then lv (zp P p 8) else 10) = g at h6 ⊢
    have h7 := zmula h5.1 h5.2 h6.1 h6.2
    have h8 := ztda h7.1 h7.2 10 (by decide)
    have h9 : v * g = v * g := rfl
    by_cases hv : 0 ≤ v
    · have q1 : v * g ≤ v * 10 := Int.mul_le_mul_of_nonneg_left h6.2 hv
      have q2 : 0 ≤ v * g := Int.mul_nonneg hv h6.1
      rw [Int.tdiv_eq_ediv_of_nonneg q2]
      omega
    · have q1 : (-v) * g ≤ (-v) * 10 := Int.mul_le_mul_of_nonneg_left h6.2 (by omega)
      have q2 : 0 ≤ (-v) * g := Int.mul_nonneg (by omega) h6.1
      have q3 := Int.neg_tdiv (-(v * g)) 10
      rw [Int.neg_neg] at q3
      rw [Int.neg_mul] at q1 q2
      rw [q3, Int.tdiv_eq_ediv_of_nonneg q2]
      omega
end ZF
