/-! ===== tokens of a tape t of n letters ===== -/
def zrun (p : Int → Bool) : Nat → Int → Int
  | 0, x => x
  | f + 1, x => if p x then zrun p f (x + 1) else x
def zru (p : Int → Bool) (n x : Int) : Int := zrun p (n - x).toNat x
theorem zru_end {p : Int → Bool} {n x : Int} (h : n ≤ x) : zru p n x = x := by
  unfold zru
  rw [show (n - x).toNat = 0 by omega]
  rfl
theorem zru_go {p : Int → Bool} {n x : Int} (h : x < n) (hp : p x = true) : zru p n x = zru p n (x + 1) := by
  unfold zru
  rw [show (n - x).toNat = (n - (x + 1)).toNat + 1 by omega]
  show (if p x = true then _ else _) = _
  rw [if_pos hp]
theorem zru_no {p : Int → Bool} {n x : Int} (hp : ¬ p x = true) : zru p n x = x := by
  unfold zru
  cases (n - x).toNat with
  | zero => rfl
  | succ f =>
    show (if p x = true then _ else _) = _
    rw [if_neg hp]
theorem zrun_b {p : Int → Bool} : ∀ (f : Nat) (x : Int), x ≤ zrun p f x ∧ zrun p f x ≤ x + f ∧ ∀ k, x ≤ k → k < zrun p f x → p k = true := by
  intro f
  induction f with
  | zero => exact fun x => ⟨Int.le_refl x, by show x ≤ x + 0; omega, fun k h1 h2 => absurd (show k < x from h2) (by omega)⟩
  | succ f ih =>
    intro x
    by_cases hp : p x = true
    · have e : zrun p (f + 1) x = zrun p f (x + 1) := if_pos hp
      rw [e]
      obtain ⟨a, b, c⟩ := ih (x + 1)
      refine ⟨by omega, by omega, fun k h1 h2 => ?_⟩
      by_cases hk : k = x
      · rw [hk]; exact hp
      · exact c k (by omega) h2
    · have e : zrun p (f + 1) x = x := if_neg hp
      rw [e]
      exact ⟨by omega, by omega, fun k h1 h2 => by omega⟩
theorem zru_b {p : Int → Bool} {n x : Int} (h : x ≤ n) : x ≤ zru p n x ∧ zru p n x ≤ n ∧ ∀ k, x ≤ k → k < zru p n x → p k = true := by
  obtain ⟨a, b, c⟩ := zrun_b (p := p) (n - x).toNat x
  exact ⟨a, by unfold zru; omega, c⟩
def zbl (t : Int → Int) (k : Int) : Bool := decide (t k = 32)
def zdi (t : Int → Int) (k : Int) : Bool := decide (48 ≤ t k ∧ t k ≤ 57)
def zle (t : Int → Int) (k : Int) : Bool := decide (97 ≤ t k ∧ t k ≤ 122)
def zthh (t : Int → Int) (q : Int) : Nat → Int
  | 0 => 0
  | k + 1 => 27 * zthh t q k + (t (q + k) - 96)
def zdn (t : Int → Int) (q : Int) : Nat → Int
  | 0 => 0
  | k + 1 => 10 * zdn t q k + (t (q + k) - 48)
def zsgn (c : Int) : Int := if c = 40 then 3 else if c = 41 then 4 else if c = 43 then 5 else if c = 59 then 9 else if c = 60 then 6 else if c = 61 then 7 else if c = 62 then 8 else 1
def ztwd (h : Int) : Int := if h = 459791 then 10 else if h = 423 then 11 else if h = 1111 then 12 else if h = 10631 then 13 else if h = 286610 then 14 else if h = 127274 then 15 else if h = 315743 then 16 else if h = 361240 then 17 else if h = 121882 then 18 else 1
/-- the token behind x: its place, its end, its sort, its number -/
def ztq (t : Int → Int) (n x : Int) : Int := zru (zbl t) n x
def zte (t : Int → Int) (n x : Int) : Int := if n ≤ ztq t n x then ztq t n x else if zdi t (ztq t n x) then zru (zdi t) n (ztq t n x) else if zle t (ztq t n x) then zru (zle t) n (ztq t n x) else ztq t n x + 1
def zts (t : Int → Int) (n x : Int) : Int := if n ≤ ztq t n x then 0 else if zdi t (ztq t n x) then (if zte t n x - ztq t n x ≤ 3 then 2 else 1) else if zle t (ztq t n x) then ztwd (zthh t (ztq t n x) (zte t n x - ztq t n x).toNat) else zsgn (t (ztq t n x))
def ztv (t : Int → Int) (n x : Int) : Int := if zts t n x = 2 then zdn t (ztq t n x) (zte t n x - ztq t n x).toNat else 0
/-- where the token i begins to be looked for -/
def ztx (t : Int → Int) (n : Int) : Nat → Int
  | 0 => 0
  | i + 1 => zte t n (ztx t n i)
theorem ztq_b {t : Int → Int} {n x : Int} (h : x ≤ n) : x ≤ ztq t n x ∧ ztq t n x ≤ n := ⟨(zru_b h).1, (zru_b h).2.1⟩
theorem zte_b {t : Int → Int} {n x : Int} (h : x ≤ n) : ztq t n x ≤ zte t n x ∧ zte t n x ≤ n ∧ (ztq t n x < n → ztq t n x < zte t n x) := by
  have hq := ztq_b (t := t) h
  unfold zte
  split
  · exact ⟨by omega, by omega, fun _ => by omega⟩
  · split
    · next h1 h2 =>
      have := zru_b (p := zdi t) hq.2
      have e : zru (zdi t) n (ztq t n x) = zru (zdi t) n (ztq t n x + 1) := zru_go (by omega) h2
      have := zru_b (p := zdi t) (show ztq t n x + 1 ≤ n by omega)
      exact ⟨by omega, by omega, fun _ => by omega⟩
    · split
      · next h1 h2 h3 =>
        have := zru_b (p := zle t) hq.2
        have e : zru (zle t) n (ztq t n x) = zru (zle t) n (ztq t n x + 1) := zru_go (by omega) h3
        have := zru_b (p := zle t) (show ztq t n x + 1 ≤ n by omega)
        exact ⟨by omega, by omega, fun _ => by omega⟩
      · exact ⟨by omega, by omega, fun _ => by omega⟩
theorem ztwd_b (h : Int) : 1 ≤ ztwd h ∧ ztwd h ≤ 18 ∧ ztwd h ≠ 2 ∧ (ztwd h < 3 ∨ 9 < ztwd h) := by unfold ztwd; (repeat' split) <;> omega
theorem zsgn_b (h : Int) : 1 ≤ zsgn h ∧ zsgn h ≤ 9 ∧ zsgn h ≠ 2 := by unfold zsgn; (repeat' split) <;> omega
theorem zts_0 {t : Int → Int} {n x : Int} : zts t n x = 0 ↔ n ≤ ztq t n x := by
  unfold zts
  have := ztwd_b (zthh t (ztq t n x) (zte t n x - ztq t n x).toNat)
  have := zsgn_b (t (ztq t n x))
  (repeat' split) <;> omega
theorem zts_b {t : Int → Int} {n x : Int} : 0 ≤ zts t n x ∧ zts t n x ≤ 18 := by
  unfold zts
  have := ztwd_b (zthh t (ztq t n x) (zte t n x - ztq t n x).toNat)
  have := zsgn_b (t (ztq t n x))
  (repeat' split) <;> omega
theorem ztx_b {t : Int → Int} {n : Int} (hn : 0 ≤ n) : ∀ i : Nat, 0 ≤ ztx t n i ∧ ztx t n i ≤ n := by
  intro i
  induction i with
  | zero => exact ⟨Int.le_refl 0, hn⟩
  | succ i ih =>
    have a := ztq_b (t := t) ih.2
    have b := zte_b (t := t) ih.2
    show 0 ≤ zte t n (ztx t n i) ∧ zte t n (ztx t n i) ≤ n
    exact ⟨by omega, b.2.1⟩
/-- tokens that are no end take letters -/
theorem ztx_i {t : Int → Int} {n : Int} (hn : 0 ≤ n) : ∀ i : Nat, (∀ j : Nat, j < i → zts t n (ztx t n j) ≠ 0) → (i : Int) ≤ ztx t n i := by
  intro i
  induction i with
  | zero => exact fun _ => Int.le_refl 0
  | succ i ih =>
    intro h
    have h1 := ih (fun j hj => h j (by omega))
    have h2 := h i (by omega)
    have hx := (ztx_b (t := t) hn i).2
    have a := ztq_b (t := t) hx
    have b := zte_b (t := t) hx
    have c : ¬ n ≤ ztq t n (ztx t n i) := fun q => h2 (zts_0.mpr q)
    have := b.2.2 (by omega)
    show ((i + 1 : Nat) : Int) ≤ zte t n (ztx t n i)
    omega
theorem zdn_b {t : Int → Int} {q : Int} {k : Nat} (h : ∀ j, q ≤ j → j < q + k → zdi t j = true) : 0 ≤ zdn t q k ∧ zdn t q k < 10 ^ k := by
  induction k with
  | zero => exact ⟨Int.le_refl 0, show (0 : Int) < 1 by decide⟩
  | succ k ih =>
    obtain ⟨a, b⟩ := ih (fun j h1 h2 => h j h1 (by omega))
    have c := of_decide_eq_true (h (q + k) (by omega) (by omega))
    have e : zdn t q (k + 1) = 10 * zdn t q k + (t (q + k) - 48) := rfl
    have e2 : (10 : Int) ^ (k + 1) = 10 ^ k * 10 := Int.pow_succ 10 k
    rw [e, e2]
    omega
theorem zthh_pos {t : Int → Int} {q : Int} {k : Nat} (h : ∀ j, q ≤ j → j < q + k → zle t j = true) : 0 ≤ zthh t q k ∧ (0 < k → 0 < zthh t q k) ∧ zthh t q k < 27 ^ k := by
  induction k with
  | zero => exact ⟨Int.le_refl 0, fun h => absurd h (by omega), show (0 : Int) < 1 by decide⟩
  | succ k ih =>
    obtain ⟨a, a2, b⟩ := ih (fun j h1 h2 => h j h1 (by omega))
    have c := of_decide_eq_true (h (q + k) (by omega) (by omega))
    have e : zthh t q (k + 1) = 27 * zthh t q k + (t (q + k) - 96) := rfl
    have e2 : (27 : Int) ^ (k + 1) = 27 ^ k * 27 := Int.pow_succ 27 k
    rw [e, e2]
    exact ⟨by omega, fun _ => by omega, by omega⟩
theorem zthh_inj {t t' : Int → Int} {q q' : Int} : ∀ k k' : Nat, (∀ j, q ≤ j → j < q + k → zle t j = true) → (∀ j, q' ≤ j → j < q' + k' → zle t' j = true) → zthh t q k = zthh t' q' k' → k = k' ∧ ∀ j : Nat, j < k → t (q + j) = t' (q' + j) := by
  intro k
  induction k with
  | zero =>
    intro k' _ h' e
    have := (zthh_pos h').2.1
    have e0 : zthh t q 0 = 0 := rfl
    rw [e0] at e
    exact ⟨by omega, fun j hj => absurd hj (by omega)⟩
  | succ k ih =>
    intro k' h h' e
    cases k' with
    | zero =>
      have := (zthh_pos h).2.1 (by omega)
      have e0 : zthh t' q' 0 = 0 := rfl
      omega
    | succ k' =>
      have c := of_decide_eq_true (h (q + k) (by omega) (by omega))
      have c' := of_decide_eq_true (h' (q' + k') (by omega) (by omega))
      have e1 : zthh t q (k + 1) = 27 * zthh t q k + (t (q + k) - 96) := rfl
      have e2 : zthh t' q' (k' + 1) = 27 * zthh t' q' k' + (t' (q' + k') - 96) := rfl
      rw [e1, e2] at e
      obtain ⟨a, b⟩ := ih k' (fun j h1 h2 => h j h1 (by omega)) (fun j h1 h2 => h' j h1 (by omega)) (by omega)
      refine ⟨by omega, fun j hj => ?_⟩
      by_cases hk : j = k
      · subst hk; subst a; omega
      · exact b j (by omega)
def zwh (i : Nat) : Int := [459791, 423, 1111, 10631, 286610, 127274, 315743, 361240, 121882].getD i 0
theorem zwh_c : ∀ i, i < 9 → zthh (fun j => zch i j.toNat) 0 (zwl i) = zwh i ∧ 0 < zwh i ∧ zwh i < 531441 := by decide +kernel
theorem zthh_mono {t : Int → Int} {q : Int} {k k' : Nat} (h : ∀ j, q ≤ j → j < q + k' → zle t j = true) (hk : k ≤ k') : zthh t q k ≤ zthh t q k' := by
  induction k' with
  | zero => rw [show k = 0 by omega]; exact Int.le_refl _
  | succ k' ih =>
    by_cases e : k = k' + 1
    · subst e; exact Int.le_refl _
    · have a := ih (fun j h1 h2 => h j h1 (by omega)) (by omega)
      have b := (zthh_pos (fun j h1 h2 => h j h1 (by omega) : ∀ j, q ≤ j → j < q + k' → zle t j = true)).1
      have c := of_decide_eq_true (h (q + k') (by omega) (by omega))
      have e1 : zthh t q (k' + 1) = 27 * zthh t q k' + (t (q + k') - 96) := rfl
      omega
/-- a word of the nine, by its hash -/
theorem zSpl_h {t : Int → Int} {q e : Int} {i : Nat} (hi : i < 9) (hqe : q ≤ e) (h : ∀ j, q ≤ j → j < e → zle t j = true) : zSpl t e i q ↔ zthh t q (e - q).toNat = zwh i := by
  have hc := zwh_c i hi
  have hl : ∀ j, (0 : Int) ≤ j → j < 0 + (zwl i : Nat) → zle (fun j => zch i j.toNat) j = true := by
    intro j h1 h2
    have := (zch_b i hi j.toNat (by omega)).1
    exact decide_eq_true this
  have hh : ∀ j, q ≤ j → j < q + ((e - q).toNat : Nat) → zle t j = true := fun j h1 h2 => h j h1 (by omega)
  constructor
  · intro ⟨a, b⟩
    rw [← hc.1]
    have : ∀ k : Nat, k ≤ zwl i → zthh t q k = zthh (fun j => zch i j.toNat) 0 k := by
      intro k
      induction k with
      | zero => exact fun _ => rfl
      | succ k ih =>
        intro hk
        show 27 * zthh t q k + (t (q + k) - 96) = 27 * zthh _ 0 k + (zch i ((0 : Int) + k).toNat - 96)
        rw [ih (by omega), b k (by omega), show ((0 : Int) + k).toNat = k by omega]
    rw [show (e - q).toNat = zwl i by omega]
    exact this _ (Nat.le_refl _)
  · intro a
    rw [← hc.1] at a
    obtain ⟨b, c⟩ := zthh_inj _ _ hh hl a
    refine ⟨by omega, fun j hj => ?_⟩
    have := c j (by omega)
    rw [this, show ((0 : Int) + j).toNat = j by omega]
