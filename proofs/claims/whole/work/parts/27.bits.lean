def zbN (f : Nat → Bool) : Nat → Nat
  | 0 => 0
  | k + 1 => zbN f k + (if f k = true then 2 ^ k else 0)
theorem zbN_s (f : Nat → Bool) (k : Nat) : zbN f (k + 1) = zbN f k + (if f k = true then 2 ^ k else 0) := rfl
def zbs (f : Nat → Bool) (n : Nat) : Int := (zbN f n : Int)
theorem zbN_lt (f : Nat → Bool) (n : Nat) : zbN f n < 2 ^ n := by
  induction n with
  | zero => exact Nat.one_pos
  | succ n ih =>
    unfold zbN
    rw [Nat.pow_succ]
    split <;> omega
theorem zbN_bit (f : Nat → Bool) (n i : Nat) : (zbN f n).testBit i = (decide (i < n) && f i) := by
  induction n with
  | zero => simp [zbN]
  | succ n ih =>
    unfold zbN
    have hl := zbN_lt f n
    rcases Nat.lt_trichotomy i n with h | h | h
    · have h1 : i < n + 1 := by omega
      split
      · rw [Nat.add_comm, Nat.testBit_two_pow_add_gt h, ih]; simp [h, h1]
      · rw [Nat.add_zero, ih]; simp [h, h1]
    · subst h
      have h0 : (zbN f i).testBit i = false := Nat.testBit_lt_two_pow hl
      split
      · rename_i hf
        rw [Nat.add_comm, Nat.testBit_two_pow_add_eq, h0]; simp [hf]
      · rename_i hf
        rw [Nat.add_zero, h0]; simp [hf]
    · have h1 : ¬ i < n + 1 := by omega
      have h2 : zbN f n + (if f n = true then 2 ^ n else 0) < 2 ^ i := by
        have h3 : 2 ^ (n + 1) ≤ 2 ^ i := Nat.pow_le_pow_right (by omega) (by omega)
        rw [Nat.pow_succ] at h3
        split <;> omega
      rw [Nat.testBit_lt_two_pow h2]; simp [h1]
theorem zbN_256 (f : Nat → Bool) {n : Nat} (h : n ≤ 8) : zbN f n < 256 := Nat.lt_of_lt_of_le (zbN_lt f n) (Nat.le_trans (Nat.pow_le_pow_right (by omega) h) (by decide))
theorem zbN_congr {f g : Nat → Bool} {n : Nat} (h : ∀ i, i < n → f i = g i) : zbN f n = zbN g n := by
  induction n with
  | zero => rfl
  | succ n ih => unfold zbN; rw [ih (fun i hi => h i (by omega)), h n (by omega)]
theorem zbs_congr {f g : Nat → Bool} {n : Nat} (h : ∀ i, i < n → f i = g i) : zbs f n = zbs g n := by unfold zbs; rw [zbN_congr h]
theorem zbs_and (f g : Nat → Bool) {n : Nat} (h : n ≤ 8) : zand (zbs f n) (zbs g n) = zbs (fun i => f i && g i) n := by
  have := zand_256 ⟨_, zbN_256 f h⟩ ⟨_, zbN_256 g h⟩
  unfold zbs
  rw [this]
  congr 1
  apply Nat.eq_of_testBit_eq
  intro i
  rw [Nat.testBit_and, zbN_bit, zbN_bit, zbN_bit]
  by_cases hi : i < n <;> simp [hi]
theorem zbs_or (f g : Nat → Bool) {n : Nat} (h : n ≤ 8) : zor (zbs f n) (zbs g n) = zbs (fun i => f i || g i) n := by
  have := zor_256 ⟨_, zbN_256 f h⟩ ⟨_, zbN_256 g h⟩
  unfold zbs
  rw [this]
  congr 1
  apply Nat.eq_of_testBit_eq
  intro i
  rw [Nat.testBit_or, zbN_bit, zbN_bit, zbN_bit]
  by_cases hi : i < n <;> simp [hi]
theorem zbs_andn (f g : Nat → Bool) {n : Nat} (h : n ≤ 8) : zand (zbs f n) (zxor (zbs g n) (-1)) = zbs (fun i => f i && !g i) n := by
  have := zandn_256 ⟨_, zbN_256 f h⟩ ⟨_, zbN_256 g h⟩
  unfold zbs
  rw [this]
  congr 1
  apply Nat.eq_of_testBit_eq
  intro i
  have h255 : Nat.testBit 255 i = decide (i < 8) := by
    rw [show (255 : Nat) = 2 ^ 8 - 1 by decide, Nat.testBit_two_pow_sub_one]
  rw [Nat.testBit_and, Nat.testBit_xor, zbN_bit, zbN_bit, zbN_bit, h255]
  by_cases hi : i < n
  · have : i < 8 := by omega
    simp [hi, this]
  · simp [hi]
theorem zbs_all {n : Nat} : zbs (fun _ => true) n = (2 ^ n : Nat) - 1 := by
  unfold zbs
  induction n with
  | zero => rfl
  | succ n ih =>
    unfold zbN
    rw [if_pos rfl, Nat.pow_succ]
    have := zbN_lt (fun _ => true) n
    have hp : 0 < 2 ^ n := Nat.pos_of_ne_zero (by simp)
    omega
theorem zbs_succ (f : Nat → Bool) {k : Nat} (h : k < 8) : zor (zbs f k) (if f k = true then zshl 1 (k : Int) else 0) = zbs f (k + 1) := by
  have hs := zshl_8 ⟨k, by omega⟩
  have h256 := zbN_256 f (n := k) (by omega)
  have hp : 2 ^ k < 256 := Nat.lt_of_le_of_lt (Nat.pow_le_pow_right (by omega) (show k ≤ 7 by omega)) (by decide)
  unfold zbs
  split
  · rename_i hf
    rw [hs]
    have := zor_256 ⟨_, h256⟩ ⟨2 ^ k, hp⟩
    rw [this]
    congr 1
    rw [zbN_s, if_pos hf]
    apply Nat.eq_of_testBit_eq
    intro i
    have hl := zbN_lt f k
    rw [Nat.testBit_or, Nat.testBit_two_pow, Nat.add_comm]
    rcases Nat.lt_trichotomy i k with q | q | q
    · rw [Nat.testBit_two_pow_add_gt q]
      have : ¬ k = i := by omega
      simp [this]
    · subst q
      rw [Nat.testBit_two_pow_add_eq, Nat.testBit_lt_two_pow hl]
      simp
    · have h3 : 2 ^ (k + 1) ≤ 2 ^ i := Nat.pow_le_pow_right (by omega) (by omega)
      rw [Nat.pow_succ] at h3
      rw [Nat.testBit_lt_two_pow (show 2 ^ k + zbN f k < 2 ^ i by omega), Nat.testBit_lt_two_pow (show zbN f k < 2 ^ i by omega)]
      have : ¬ k = i := by omega
      simp [this]
  · rename_i hf
    have := zor_256 ⟨_, h256⟩ ⟨0, by decide⟩
    rw [show (0 : Int) = ((0 : Nat) : Int) from rfl, this]
    simp [zbN, hf]
theorem zbs_get (f : Nat → Bool) {n i : Nat} (h : n ≤ 8) (hi : i < n) : zand (zshr (zbs f n) (i : Int)) 1 = if f i = true then 1 else 0 := by
  have := zshr_256 ⟨_, zbN_256 f h⟩ ⟨i, by omega⟩
  unfold zbs
  rw [this, zbN_bit]
  simp [hi]
theorem zbs_nn (f : Nat → Bool) {n : Nat} (h : n ≤ 8) : 0 ≤ zbs f n ∧ zbs f n < 256 := by
  have := zbN_256 f h
  unfold zbs
  omega
theorem zbs_zero {f : Nat → Bool} {n : Nat} : zbs f n = 0 ↔ ∀ i, i < n → f i = false := by
  constructor
  · intro h i hi
    have h0 : zbN f n = 0 := by unfold zbs at h; omega
    have := zbN_bit f n i
    rw [h0] at this
    simp [hi] at this
    exact this
  · intro h
    have : zbs f n = zbs (fun _ => false) n := zbs_congr h
    rw [this]
    unfold zbs
    have : ∀ n, zbN (fun _ => false) n = 0 := by
      intro n
      induction n with
      | zero => rfl
      | succ n ih => unfold zbN; rw [ih]; rfl
    rw [this]; rfl
theorem zbs_inj {f g : Nat → Bool} {n : Nat} (h : zbs f n = zbs g n) : ∀ i, i < n → f i = g i := by
  intro i hi
  have h0 : zbN f n = zbN g n := by unfold zbs at h; omega
  have h1 := zbN_bit f n i
  have h2 := zbN_bit g n i
  rw [h0, h2] at h1
  simp [hi] at h1
  exact h1.symm
