/-! numbers: an int of the machine stands for a whole number -/
def iz (z : Int) : Int32 := Int32.ofInt z
def inR (z : Int) : Prop := -2147483648 ≤ z ∧ z ≤ 2147483647
theorem iz_toInt {z : Int} (h : inR z) : (iz z).toInt = z := Int32.toInt_ofInt_of_le (by have := h.1; omega) (by have := h.2; omega)
theorem iz_of (x : Int32) : iz x.toInt = x := Int32.ofInt_toInt x
theorem inR_of (x : Int32) : inR x.toInt := ⟨by have := x.le_toInt; omega, by have := x.toInt_lt; omega⟩
theorem iz_lt {x y : Int} (hx : inR x) (hy : inR y) : iz x < iz y ↔ x < y := by rw [Int32.lt_iff_toInt_lt, iz_toInt hx, iz_toInt hy]
theorem iz_le {x y : Int} (hx : inR x) (hy : inR y) : iz x ≤ iz y ↔ x ≤ y := by rw [Int32.le_iff_toInt_le, iz_toInt hx, iz_toInt hy]
theorem iz_eq {x y : Int} (hx : inR x) (hy : inR y) : iz x = iz y ↔ x = y := by rw [← Int32.toInt_inj, iz_toInt hx, iz_toInt hy]
theorem iz_add (x y : Int) : iz x + iz y = iz (x + y) := (Int32.ofInt_add x y).symm
theorem iz_sub (x y : Int) : iz x - iz y = iz (x - y) := (Int32.ofInt_sub x y).symm
theorem iz_mul (x y : Int) : iz x * iz y = iz (x * y) := (Int32.ofInt_mul x y).symm
theorem iz_neg (x : Int) : - iz x = iz (-x) := (Int32.ofInt_neg x).symm
theorem iz_0 : iz 0 = 0 := rfl
theorem inR_0 : inR 0 := ⟨by omega, by omega⟩
theorem iz_clamp {i : Int} (h0 : 0 ≤ i) (h : inR i) : (iz i).toNatClampNeg = i.toNat := by
  show (iz i).toInt.toNat = i.toNat
  rw [iz_toInt h]
theorem iz_in {i : Int} {n : Nat} (h0 : 0 ≤ i) (h1 : i < n) (h : inR i) : vp_in (iz i) n := by
  rw [vp_in_iff, iz_toInt h]
  exact ⟨h0, h1⟩
theorem iz_div {x y : Int} (hx : inR x) (hy : inR y) (ho : ¬ (x = -2147483648 ∧ y = -1)) : iz x / iz y = iz (x.tdiv y) := by
  apply Int32.toInt_inj.mp
  by_cases h : y = -1
  · rw [Int32.toInt_div_of_ne_left _ _ (fun e => ho ⟨by rw [← iz_toInt hx, e]; rfl, h⟩), iz_toInt hx, iz_toInt hy, iz_toInt]
    subst h
    have := hx.1
    have := hx.2
    have hn : ¬ x = -2147483648 := fun e => ho ⟨e, rfl⟩
    have e : x.tdiv (-1) = -x := by rw [Int.tdiv_neg, Int.tdiv_one]
    rw [e]
    exact ⟨by omega, by omega⟩
  · rw [Int32.toInt_div_of_ne_right _ _ (fun e => h (by rw [← iz_toInt hy, e]; rfl)), iz_toInt hx, iz_toInt hy, iz_toInt]
    have h1 := hx.1
    have h2 := hx.2
    have h3 : (x.tdiv y).natAbs ≤ x.natAbs := by rw [Int.natAbs_tdiv]; exact Nat.div_le_self _ _
    by_cases h4 : x = -2147483648
    · by_cases h5 : y = 0
      · subst h5; rw [Int.tdiv_zero]; exact ⟨by omega, by omega⟩
      · have h6 : (x.tdiv y).natAbs ≤ 2147483648 := by omega
        by_cases h7 : x.tdiv y = 2147483648
        · have h8 := Int.natAbs_tdiv x y
          by_cases h9 : y.natAbs = 1
          · have : y = 1 := by omega
            subst this
            rw [Int.tdiv_one] at h7
            omega
          · have h10 : x.natAbs / y.natAbs ≤ x.natAbs / 2 := Nat.div_le_div_left (by omega) (by omega)
            have h11 : x.natAbs = 2147483648 := by omega
            rw [h11] at h10 h8
            rw [h7] at h8
            have h12 : (2147483648 : Int).natAbs = 2147483648 := rfl
            rw [h12] at h8
            have h8 : 2147483648 = 2147483648 / y.natAbs := h8
            rw [← h8] at h10
            exact absurd h10 (by decide)
        · exact ⟨by omega, by omega⟩
    · exact ⟨by omega, by omega⟩
theorem inR_tdiv {x y : Int} (hx : inR x) (h0 : 0 < y) : inR (x.tdiv y) := by
  have h3 : (x.tdiv y).natAbs ≤ x.natAbs := by rw [Int.natAbs_tdiv]; exact Nat.div_le_self _ _
  have h1 := hx.1
  have h2 := hx.2
  by_cases hp : 0 ≤ x
  · have := Int.tdiv_nonneg hp (Int.le_of_lt h0)
    exact ⟨by omega, by omega⟩
  · have : x.tdiv y ≤ 0 := by
      have h5 := Int.tdiv_nonneg (a := -x) (b := y) (by omega) (Int.le_of_lt h0)
      rw [Int.neg_tdiv] at h5
      omega
    exact ⟨by omega, by omega⟩
theorem iz_rem {x y : Int} (hx : inR x) (hy : inR y) (ho : ¬ (x = -2147483648 ∧ y = -1)) : iz x - iz x / iz y * iz y = iz (x.tmod y) := by
  rw [iz_div hx hy ho, iz_mul, iz_sub]
  congr 1
  have := Int.mul_tdiv_add_tmod x y
  rw [Int.mul_comm] at this
  omega
/-! the world: the cells of the class and of the reference, by places -/
/-- the cells by their places: kind (0 ints, 1 longs, 2 parts, 3 + class) and size -/
def zshL : List (Nat × Nat) := [(12, 12), (7, 11), (2, 10), (0, 84), (0, 6), (0, 6), (0, 5), (11, 4), (0, 220), (0, 9), (6, 12), (6, 12), (6, 12), (6, 12), (6, 12), (6, 12), (6, 12), (6, 12), (6, 12), (6, 12), (7, 11), (2, 10), (0, 84), (0, 6), (0, 6), (0, 5), (11, 4), (0, 220), (0, 9), (6, 12), (6, 12), (6, 12), (6, 12), (6, 12), (6, 12), (6, 12), (6, 12), (6, 12), (6, 12), (4, 16), (0, 5), (0, 5), (0, 5), (0, 10), (0, 10), (0, 10), (0, 10), (0, 10), (0, 10), (0, 10), (1, 145), (0, 84), (9, 7), (0, 10), (0, 5), (0, 25), (8, 9), (0, 220), (11, 4), (0, 220), (0, 9), (0, 221), (0, 221), (0, 221), (10, 7), (0, 4), (0, 4), (7, 11), (2, 10), (0, 84), (0, 6), (0, 6), (0, 5), (11, 4), (0, 220), (0, 9), (6, 12), (6, 12), (6, 12), (6, 12), (6, 12), (6, 12), (6, 12), (6, 12), (6, 12), (6, 12), (0, 32), (5, 6), (0, 4), (0, 4), (0, 160), (0, 4), (0, 4), (0, 4), (3, 6), (0, 30), (0, 4), (0, 4), (13, 60), (0, 84), (0, 100), (0, 20), (0, 12), (0, 3), (0, 8), (0, 230), (0, 5), (0, 5), (0, 5), (0, 9261), (0, 9261), (0, 220), (0, 230), (0, 230), (0, 8), (0, 230), (0, 4), (0, 4), (0, 4), (0, 4), (0, 8), (0, 100), (0, 4), (0, 4), (1, 160), (0, 4), (0, 4), (0, 4), (0, 30), (0, 500), (0, 6)]
def zN : Nat := 131
/-- what refers to what, once all is made -/
def zRL : List (List Int) := [[1, 20, 64, 39, 52, 56, 87, 94, 96, 97, -1, -1], [2, 3, 4, 5, 6, 7, -1, -1, -1, -1, -1], [10, 11, 12, 13, 14, 15, 16, 17, 18, 19], [], [], [], [], [8, 9, -1, -1], [], [], [-1, -1, -1, -1, -1, -1, -1, -1, -1, -1, -1, -1], [-1, -1, -1, -1, -1, -1, -1, -1, -1, -1, -1, -1], [-1, -1, -1, -1, -1, -1, -1, -1, -1, -1, -1, -1], [-1, -1, -1, -1, -1, -1, -1, -1, -1, -1, -1, -1], [-1, -1, -1, -1, -1, -1, -1, -1, -1, -1, -1, -1], [-1, -1, -1, -1, -1, -1, -1, -1, -1, -1, -1, -1], [-1, -1, -1, -1, -1, -1, -1, -1, -1, -1, -1, -1], [-1, -1, -1, -1, -1, -1, -1, -1, -1, -1, -1, -1], [-1, -1, -1, -1, -1, -1, -1, -1, -1, -1, -1, -1], [-1, -1, -1, -1, -1, -1, -1, -1, -1, -1, -1, -1], [21, 22, 23, 24, 25, 26, -1, -1, -1, -1, -1], [29, 30, 31, 32, 33, 34, 35, 36, 37, 38], [], [], [], [], [27, 28, -1, -1], [], [], [-1, -1, -1, -1, -1, -1, -1, -1, -1, -1, -1, -1], [-1, -1, -1, -1, -1, -1, -1, -1, -1, -1, -1, -1], [-1, -1, -1, -1, -1, -1, -1, -1, -1, -1, -1, -1], [-1, -1, -1, -1, -1, -1, -1, -1, -1, -1, -1, -1], [-1, -1, -1, -1, -1, -1, -1, -1, -1, -1, -1, -1], [-1, -1, -1, -1, -1, -1, -1, -1, -1, -1, -1, -1], [-1, -1, -1, -1, -1, -1, -1, -1, -1, -1, -1, -1], [-1, -1, -1, -1, -1, -1, -1, -1, -1, -1, -1, -1], [-1, -1, -1, -1, -1, -1, -1, -1, -1, -1, -1, -1], [-1, -1, -1, -1, -1, -1, -1, -1, -1, -1, -1, -1], [40, 41, 42, 43, 44, 45, 46, 47, 48, 49, 50, -1, -1, -1, -1, 51], [], [], [], [], [], [], [], [], [], [], [], [], [53, 54, 55, -1, -1, -1, -1], [], [], [], [57, 58, -1, 61, 62, 63, -1, -1, -1], [], [59, 60, -1, -1], [], [], [], [], [], [65, 66, 39, -1, -1, 67, 86], [], [], [68, 69, 70, 71, 72, 73, -1, -1, -1, -1, -1], [76, 77, 78, 79, 80, 81, 82, 83, 84, 85], [], [], [], [], [74, 75, -1, -1], [], [], [-1, -1, -1, -1, -1, -1, -1, -1, -1, -1, -1, -1], [-1, -1, -1, -1, -1, -1, -1, -1, -1, -1, -1, -1], [-1, -1, -1, -1, -1, -1, -1, -1, -1, -1, -1, -1], [-1, -1, -1, -1, -1, -1, -1, -1, -1, -1, -1, -1], [-1, -1, -1, -1, -1, -1, -1, -1, -1, -1, -1, -1], [-1, -1, -1, -1, -1, -1, -1, -1, -1, -1, -1, -1], [-1, -1, -1, -1, -1, -1, -1, -1, -1, -1, -1, -1], [-1, -1, -1, -1, -1, -1, -1, -1, -1, -1, -1, -1], [-1, -1, -1, -1, -1, -1, -1, -1, -1, -1, -1, -1], [-1, -1, -1, -1, -1, -1, -1, -1, -1, -1, -1, -1], [], [88, 89, 90, 91, 92, 93], [], [], [], [], [], [], [95, -1, -1, -1, -1, -1], [], [], [], [-1, -1, -1, 99, -1, 100, 101, -1, 102, 103, -1, 104, 105, 106, 107, 108, 109, 110, -1, -1, -1, -1, 111, -1, -1, -1, -1, -1, -1, 112, 113, 114, -1, -1, 115, 116, 117, 118, 119, -1, -1, 120, -1, 121, 122, 123, 124, 125, 126, 127, -1, -1, -1, 128, -1, -1, -1, 129, -1, 130], [], [], [], [], [], [], [], [], [], [], [], [], [], [], [], [], [], [], [], [], [], [], [], [], [], [], [], [], [], [], [], []]
def zkdL : List (List Nat) := [[2, 0, 0, 0, 0, 0], [2, 2, 2, 2, 2, 2, 2, 2, 2, 2, 2, 0, 0, 0, 0, 2], [2, 2, 2, 2, 2, 2], [0, 0, 0, 0, 0, 0, 0, 0, 0, 0, 0, 0], [2, 2, 2, 2, 2, 2, 0, 0, 0, 0, 0], [2, 2, 0, 2, 2, 2, 0, 0, 0], [2, 2, 2, 0, 0, 0, 0], [2, 2, 2, 0, 0, 2, 2], [2, 2, 0, 0], [2, 2, 2, 2, 2, 2, 2, 2, 2, 2, 0, 0], [0, 0, 0, 2, 0, 2, 2, 0, 2, 2, 0, 2, 2, 2, 2, 2, 2, 2, 0, 0, 0, 0, 2, 0, 0, 0, 0, 1, 0, 2, 2, 2, 0, 0, 2, 2, 2, 2, 2, 0, 0, 2, 0, 2, 2, 2, 2, 2, 2, 2, 0, 0, 0, 2, 0, 0, 0, 2, 0, 2]]
def zBn : Int := 39
/-- where the cell of a place lies, counted from the first that is made -/
def zph (a : Int) : Nat := if 39 ≤ a ∧ a ≤ 51 then a.toNat + 3 else if 52 ≤ a ∧ a ≤ 63 then a.toNat + 23 else if 64 ≤ a ∧ a ≤ 66 then a.toNat - 25 else if 67 ≤ a ∧ a ≤ 86 then a.toNat - 12 else a.toNat
def zlo (j : Nat) : Int := if 42 ≤ j ∧ j ≤ 54 then (j : Int) - 3 else if 75 ≤ j ∧ j ≤ 86 then (j : Int) - 23 else if 39 ≤ j ∧ j ≤ 41 then (j : Int) + 25 else if 55 ≤ j ∧ j ≤ 74 then (j : Int) + 12 else (j : Int)
theorem zph_c {a : Int} (h : 0 ≤ a) : (39 ≤ a ∧ a ≤ 51 ∧ (zph a : Int) = a + 3) ∨ (52 ≤ a ∧ a ≤ 63 ∧ (zph a : Int) = a + 23) ∨ (64 ≤ a ∧ a ≤ 66 ∧ (zph a : Int) = a - 25) ∨ (67 ≤ a ∧ a ≤ 86 ∧ (zph a : Int) = a - 12) ∨ ((a < 39 ∨ 86 < a) ∧ (zph a : Int) = a) := by
  unfold zph
  (repeat' split) <;> omega
theorem zlo_c (j : Nat) : (42 ≤ j ∧ j ≤ 54 ∧ zlo j = (j : Int) - 3) ∨ (75 ≤ j ∧ j ≤ 86 ∧ zlo j = (j : Int) - 23) ∨ (39 ≤ j ∧ j ≤ 41 ∧ zlo j = (j : Int) + 25) ∨ (55 ≤ j ∧ j ≤ 74 ∧ zlo j = (j : Int) + 12) ∨ ((j < 39 ∨ 86 < j) ∧ zlo j = (j : Int)) := by
  unfold zlo
  (repeat' split) <;> omega
theorem zph_zlo (j : Nat) : zph (zlo j) = j := by
  have h1 := zlo_c j
  have h2 := zph_c (a := zlo j) (by omega)
  omega
theorem zlo_zph {a : Int} (h : 0 ≤ a) : zlo (zph a) = a := by
  have h1 := zph_c h
  have h2 := zlo_c (zph a)
  omega
abbrev zCx : Type := Launch × va_G × (ClassId × ClassId × ClassId) × Heap × (Nat → Nat)
abbrev zM : Type := (Int → Int → Int) × (Int → Int → Int64) × Int
def zB (K : zCx) : Nat := K.2.2.2.1.size
def rr (K : zCx) (a : Int) : Value := .ref (zB K + zph a)
def zad (K : zCx) (r : Option Int) : Option Nat := r.map fun b => zB K + zph b
def zup (f : Int → Int → Int) (a k v : Int) : Int → Int → Int := fun b j => if b = a ∧ j = k then v else f b j
def zupL (f : Int → Int → Int64) (a k : Int) (v : Int64) : Int → Int → Int64 := fun b j => if b = a ∧ j = k then v else f b j
def sI (m : zM) (a k v : Int) : zM := (zup m.1 a k v, m.2)
def sL (m : zM) (a k : Int) (v : Int64) : zM := (m.1, zupL m.2.1 a k v, m.2.2)
def sT (m : zM) (t : Int) : zM := (m.1, m.2.1, t)
def zsh (a : Int) : Option (Nat × Nat) := if a < 0 then none else zshL[a.toNat]?
def zkd (c k : Nat) : Nat := (zkdL.getD c []).getD k 0
def zR (t a k : Int) : Option Int := if a = zBn ∧ k = 15 then some t else if a < 0 ∨ k < 0 then none else
  match (zRL.getD a.toNat []).getD k.toNat (-1) with
  | .ofNat n => some n
  | .negSucc _ => none
def zsv (K : zCx) (I : Int → Int → Int) (L : Int → Int → Int64) (R : Int → Int → Option Int) (c : Nat) (a : Int) (k : Nat) : Value := match zkd c k with
  | 0 => .int (iz (I a k))
  | 1 => .long (L a k)
  | _ => va_rf (zad K (R a k))
def zent (K : zCx) (I : Int → Int → Int) (L : Int → Int → Int64) (R : Int → Int → Option Int) (a : Int) : va_E := match zsh a with
  | some (0, n) => .inl (K.2.2.1.1, n, .inl (fun j => iz (I a j)))
  | some (1, n) => .inl (K.2.2.1.2.1, n, .inr (.inl (fun j => L a j)))
  | some (2, n) => .inl (K.2.2.1.2.2, n, .inr (.inr (.inr (.inr (fun j => zad K (R a j))))))
  | some (c + 3, n) => .inr (c, (List.range n).map (zsv K I L R c a))
  | none => .inr (99, [])
def zws (K : zCx) (n : Nat) (I : Int → Int → Int) (L : Int → Int → Int64) (R : Int → Int → Option Int) : va_W := (List.range n).map (fun j => (zB K + j, zent K I L R (zlo j)))
def zwm (K : zCx) (m : zM) : va_W := zws K zN m.1 m.2.1 (zR m.2.2)
theorem zsh_nn {a : Int} {x : Nat × Nat} (h : zsh a = some x) : 0 ≤ a := by
  unfold zsh at h
  split at h
  · cases h
  · omega
theorem zsh_get {a : Int} {x : Nat × Nat} (h : zsh a = some x) : zshL[a.toNat]? = some x := by
  unfold zsh at h
  split at h
  · cases h
  · exact h
theorem zsh_lt {a : Int} {x : Nat × Nat} (h : zsh a = some x) : a.toNat < zN := by
  have h1 := (List.getElem?_eq_some_iff.mp (zsh_get h)).1
  have h2 : zshL.length = zN := by decide +kernel
  omega
theorem zsh_ltZ {a : Int} {x : Nat × Nat} (h : zsh a = some x) : a < (zN : Int) := by
  have h1 := zsh_lt h
  have h2 := zsh_nn h
  omega
theorem zph_lt {a : Int} {x : Nat × Nat} (h : zsh a = some x) : zph a < zN := by
  have h1 := zsh_lt h
  have h2 := zph_c (zsh_nn h)
  have h3 : zN = 131 := rfl
  omega
theorem zws_get {K : zCx} {n : Nat} {I : Int → Int → Int} {L : Int → Int → Int64} {R : Int → Int → Option Int} {a : Int} (h0 : 0 ≤ a) (hn : zph a < n) : (zws K n I L R)[zph a]? = some (zB K + zph a, zent K I L R a) := by
  unfold zws
  rw [List.getElem?_map, List.getElem?_range hn]
  show some (zB K + zph a, zent K I L R (zlo (zph a))) = _
  rw [zlo_zph h0]
theorem zent_congr {K : zCx} {I I' : Int → Int → Int} {L L' : Int → Int → Int64} {R R' : Int → Int → Option Int} {a : Int} (h1 : ∀ k, I a k = I' a k) (h2 : ∀ k, L a k = L' a k) (h3 : ∀ k, R a k = R' a k) : zent K I L R a = zent K I' L' R' a := by
  have e1 : I a = I' a := funext h1
  have e2 : L a = L' a := funext h2
  have e3 : R a = R' a := funext h3
  have e4 : ∀ c, zsv K I L R c a = zsv K I' L' R' c a := fun c => by funext k; unfold zsv; rw [e1, e2, e3]
  unfold zent
  split <;> simp only [e1, e2, e3, e4]
theorem zws_set {K : zCx} {n : Nat} {I I' : Int → Int → Int} {L L' : Int → Int → Int64} {R R' : Int → Int → Option Int} {a : Int} (h0 : 0 ≤ a) (h : ∀ b, b ≠ a → (∀ k, I b k = I' b k) ∧ (∀ k, L b k = L' b k) ∧ (∀ k, R b k = R' b k)) : (zws K n I L R).set (zph a) (zB K + (zph a), zent K I' L' R' a) = zws K n I' L' R' := by
  unfold zws
  apply List.ext_getElem?
  intro i
  rw [List.getElem?_set]
  by_cases hi : (zph a) = i
  · subst hi
    rw [if_pos rfl]
    by_cases hn : (zph a) < n
    · rw [if_pos (by simpa using hn), List.getElem?_map, List.getElem?_range hn]
      show _ = some (zB K + zph a, zent K I' L' R' (zlo (zph a)))
      rw [zlo_zph h0]
    · rw [if_neg (by simpa using hn), List.getElem?_map, List.getElem?_eq_none (by simpa using hn)]
      rfl
  · rw [if_neg hi, List.getElem?_map, List.getElem?_map]
    cases hj : (List.range n)[i]? with
    | none => rfl
    | some j =>
      have : j = i := by
        have hl := (List.getElem?_eq_some_iff.mp hj).1
        rw [List.getElem?_range (by simpa using hl)] at hj
        exact (Option.some.inj hj).symm
      subst this
      obtain ⟨q1, q2, q3⟩ := h (zlo j) (fun e => hi (by rw [← e, zph_zlo]))
      show some (zB K + j, _) = some (zB K + j, _)
      rw [zent_congr q1 q2 q3]
def zA (K : zCx) : Nat → Prop := fun q => zB K ≤ q
theorem zws_D {K : zCx} {n : Nat} {I : Int → Int → Int} {L : Int → Int → Int64} {R : Int → Int → Option Int} : va_D (zA K) (zws K n I L R) := by
  have key : ∀ (i : Nat) (p : Nat × va_E), (zws K n I L R)[i]? = some p → p.1 = zB K + i := by
    intro i p h
    unfold zws at h
    rw [List.getElem?_map] at h
    cases hj : (List.range n)[i]? with
    | none => rw [hj] at h; cases h
    | some j =>
      have : j = i := by
        have hl := (List.getElem?_eq_some_iff.mp hj).1
        rw [List.getElem?_range (by simpa using hl)] at hj
        exact (Option.some.inj hj).symm
      subst this
      rw [hj] at h
      cases h
      rfl
  refine ⟨fun i j p q hp hq e => ?_, fun k q hq => ?_⟩
  · have h1 := key i p hp
    have h2 := key j q hq
    omega
  · have h1 := key k q hq
    show zB K ≤ q.1
    omega

/-! the words that every method stands on -/
def zW : List Cond := lw_tbl.filter goodWord
def zNest : List Cond := [(Jvm.Cond.methodLinkNest "SizedParts$Plan" (32 : Nat) ({ cls := "SizedParts$Wishes", name := "<init>", desc := "()V" } : Jvm.MethodName) "SizedParts"), (Jvm.Cond.methodLinkNest "SizedParts$Plan" (41 : Nat) ({ cls := "SizedParts$Part", name := "<init>", desc := "()V" } : Jvm.MethodName) "SizedParts"), (Jvm.Cond.methodLinkNest "SizedParts" (21 : Nat) ({ cls := "SizedParts$Search", name := "<init>", desc := "()V" } : Jvm.MethodName) "SizedParts"), (Jvm.Cond.methodLinkNest "SizedParts$Search" (20 : Nat) ({ cls := "SizedParts$Bench", name := "<init>", desc := "()V" } : Jvm.MethodName) "SizedParts"), (Jvm.Cond.methodLinkNest "SizedParts" (33 : Nat) ({ cls := "SizedParts$Rests", name := "<init>", desc := "()V" } : Jvm.MethodName) "SizedParts"), (Jvm.Cond.methodLinkNest "SizedParts" (40 : Nat) ({ cls := "SizedParts$Reader", name := "<init>", desc := "()V" } : Jvm.MethodName) "SizedParts"), (Jvm.Cond.methodLinkNest "SizedParts$Reader" (17 : Nat) ({ cls := "SizedParts$Wishes", name := "<init>", desc := "()V" } : Jvm.MethodName) "SizedParts"), (Jvm.Cond.methodLinkNest "SizedParts" (47 : Nat) ({ cls := "SizedParts$Host", name := "<init>", desc := "()V" } : Jvm.MethodName) "SizedParts"), (Jvm.Cond.methodLinkNest "SizedParts" (54 : Nat) ({ cls := "SizedParts$Acts", name := "<init>", desc := "()V" } : Jvm.MethodName) "SizedParts"), (Jvm.Cond.methodLinkNest "SizedParts$Host" (30 : Nat) ({ cls := "SizedParts", name := "within", desc := "(III)Z" } : Jvm.MethodName) "SizedParts"), (Jvm.Cond.methodLinkNest "SizedParts$Plan" (71 : Nat) ({ cls := "SizedParts", name := "within", desc := "(III)Z" } : Jvm.MethodName) "SizedParts"), (Jvm.Cond.methodLinkNest "SizedParts$Plan" (82 : Nat) ({ cls := "SizedParts", name := "hasGate", desc := "(I)Z" } : Jvm.MethodName) "SizedParts"), (Jvm.Cond.methodLinkNest "SizedParts$Part" (27 : Nat) ({ cls := "SizedParts", name := "hasLaw", desc := "(I)Z" } : Jvm.MethodName) "SizedParts"), (Jvm.Cond.methodLinkNest "SizedParts$Part" (40 : Nat) ({ cls := "SizedParts", name := "hasGate", desc := "(I)Z" } : Jvm.MethodName) "SizedParts"), (Jvm.Cond.methodLinkNest "SizedParts$Reader" (103 : Nat) ({ cls := "SizedParts", name := "within", desc := "(III)Z" } : Jvm.MethodName) "SizedParts"), (Jvm.Cond.methodLinkNest "SizedParts$Search" (149 : Nat) ({ cls := "SizedParts", name := "within", desc := "(III)Z" } : Jvm.MethodName) "SizedParts")]
theorem zmem {w : Cond} (i : Nat) (h : lw_tbl[i]? = some w) (hg : goodWord w = true) : w ∈ zW := List.mem_filter.mpr ⟨List.mem_of_getElem? h, hg⟩
theorem zW_good {y : MethodName} {b : ByteArray} {n : Nat} {r : Option FieldType} (h : Cond.code y b n r ∈ zW) {ws : List Cond} (hz : ∀ w ∈ zW, w ∈ ws) : GoodIn ws (Cond.code y b n r :: zW) := by
  intro w hw
  rcases List.mem_cons.mp hw with rfl | hw
  · exact ⟨hz _ h, good_of_word (List.mem_filter.mp h).2⟩
  · exact ⟨hz _ hw, good_of_word (List.mem_filter.mp hw).2⟩
