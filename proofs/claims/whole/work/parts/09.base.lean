/-! references of ours on the stack and in the locals; small words for what is asked -/
section ZR2
variable {K : zCx} {mi : zMi} {d pc : Nat} {loc : List (Nat × Value)} {stk : List Value} {m : zM} {Q : Int → zM → Prop}
theorem zV_aloadr_n {k4 : Fin 4} {i : Nat} {a : Int} (hd : decode mi.2.1 pc = .ok (.aload_n k4, 1)) (hi : (k4 : Nat) = i) (j : Nat) (hj : loc[j]? = some (i, rr K a)) (k : zV K mi d (pc + 1) loc (rr K a :: stk) m Q) : zV K mi d pc loc stk m Q := zV_aload_n hd hi j hj k
theorem zV_aloadr {i : Nat} {a : Int} (hd : decode mi.2.1 pc = .ok (.aload i, 2)) (j : Nat) (hj : loc[j]? = some (i, rr K a)) (k : zV K mi d (pc + 2) loc (rr K a :: stk) m Q) : zV K mi d pc loc stk m Q := zV_aload hd j hj k
theorem zV_astorer_n {k4 : Fin 4} {i : Nat} {a : Int} {loc' : List (Nat × Value)} (hd : decode mi.2.1 pc = .ok (.astore_n k4, 1)) (hi : (k4 : Nat) = i) (hn : i < mi.2.2.1) (hl' : (i, rr K a) :: loc.filter (fun q => !(q.1 == i) && !(q.1 + 1 == i && q.2.category == 2)) = loc') (k : zV K mi d (pc + 1) loc' stk m Q) : zV K mi d pc loc (rr K a :: stk) m Q := zV_astore_n hd hi hn hl' k
theorem zV_astorer {i : Nat} {a : Int} {loc' : List (Nat × Value)} (hd : decode mi.2.1 pc = .ok (.astore i, 2)) (hn : i < mi.2.2.1) (hl' : (i, rr K a) :: loc.filter (fun q => !(q.1 == i) && !(q.1 + 1 == i && q.2.category == 2)) = loc') (k : zV K mi d (pc + 2) loc' stk m Q) : zV K mi d pc loc (rr K a :: stk) m Q := zV_astore hd hn hl' k
end ZR2
theorem inRd {z : Int} (h : decide (-2147483648 ≤ z ∧ z ≤ 2147483647) = true) : inR z := show (-2147483648 ≤ z ∧ z ≤ 2147483647) from of_decide_eq_true h
theorem inR_ix {i n : Int} (h0 : 0 ≤ i) (h1 : i < n) (hn : decide (n ≤ 2147483647) = true) : inR i := ⟨by omega, by have := of_decide_eq_true hn; omega⟩
theorem inR_tmod {x y : Int} (hx : inR x) (h0 : 0 < y) : inR (x.tmod y) := by
  have h3 : (x.tmod y).natAbs ≤ x.natAbs := by rw [Int.natAbs_tmod]; exact Nat.mod_le _ _
  have h1 := hx.1
  have h2 := hx.2
  by_cases hp : 0 ≤ x
  · have := Int.tmod_nonneg y hp
    exact ⟨by omega, by omega⟩
  · have h5 := Int.tmod_nonneg (a := -x) y (by omega)
    rw [Int.neg_tmod] at h5
    exact ⟨by omega, by omega⟩
def zok (m : zM) : Prop := ∀ a k, inR (m.1 a k)
def b2i (b : Bool) : Int := cond b 1 0
theorem b2i_01 (b : Bool) : b2i b = 0 ∨ b2i b = 1 := by cases b; exact Or.inl rfl; exact Or.inr rfl
theorem inR_b2i (b : Bool) : inR (b2i b) := by cases b <;> exact ⟨by decide, by decide⟩
theorem b2i_t {b : Bool} (h : b2i b ≠ 0) : b = true := by cases b; exact absurd rfl h; rfl
theorem b2i_f {b : Bool} (h : b2i b = 0) : ¬ b = true := by cases b <;> simp_all [b2i]
theorem b2i_p {p : Prop} {i : Decidable p} (h : p) : b2i (@decide p i) = 1 := by rw [decide_eq_true h]; rfl
theorem b2i_n {p : Prop} {i : Decidable p} (h : ¬ p) : b2i (@decide p i) = 0 := by rw [decide_eq_false h]; rfl
theorem b2i_tp {p : Prop} {i : Decidable p} (h : b2i (@decide p i) ≠ 0) : p := of_decide_eq_true (b2i_t h)
theorem b2i_fp {p : Prop} {i : Decidable p} (h : b2i (@decide p i) = 0) : ¬ p := fun q => b2i_f h (decide_eq_true q)
/-! the three plans, the four rows of wishes, the parts -/
def zPl (pl : Int) : Prop := pl = 1 ∨ pl = 20 ∨ pl = 67
def zWi (w : Int) : Prop := w = 7 ∨ w = 26 ∨ w = 58 ∨ w = 73
theorem zPl_s0 {pl : Int} (h : zPl pl) : zsh pl = some (7, 11) := by rcases h with rfl | rfl | rfl <;> rfl
theorem zPl_s1 {pl : Int} (h : zPl pl) : zsh (pl + 1) = some (2, 10) := by rcases h with rfl | rfl | rfl <;> rfl
theorem zPl_s2 {pl : Int} (h : zPl pl) : zsh (pl + 2) = some (0, 84) := by rcases h with rfl | rfl | rfl <;> rfl
theorem zPl_s3 {pl : Int} (h : zPl pl) : zsh (pl + 3) = some (0, 6) := by rcases h with rfl | rfl | rfl <;> rfl
theorem zPl_s4 {pl : Int} (h : zPl pl) : zsh (pl + 4) = some (0, 6) := by rcases h with rfl | rfl | rfl <;> rfl
theorem zPl_s5 {pl : Int} (h : zPl pl) : zsh (pl + 5) = some (0, 5) := by rcases h with rfl | rfl | rfl <;> rfl
theorem zPl_s6 {pl : Int} (h : zPl pl) : zsh (pl + 6) = some (11, 4) := by rcases h with rfl | rfl | rfl <;> rfl
theorem zPl_s7 {pl : Int} (h : zPl pl) : zsh (pl + 7) = some (0, 220) := by rcases h with rfl | rfl | rfl <;> rfl
theorem zPl_s8 {pl : Int} (h : zPl pl) : zsh (pl + 8) = some (0, 9) := by rcases h with rfl | rfl | rfl <;> rfl
theorem zPl_r0 {pl t : Int} (h : zPl pl) : zR t pl 0 = some (pl + 1) := by rcases h with rfl | rfl | rfl <;> rfl
theorem zPl_r1 {pl t : Int} (h : zPl pl) : zR t pl 1 = some (pl + 2) := by rcases h with rfl | rfl | rfl <;> rfl
theorem zPl_r2 {pl t : Int} (h : zPl pl) : zR t pl 2 = some (pl + 3) := by rcases h with rfl | rfl | rfl <;> rfl
theorem zPl_r3 {pl t : Int} (h : zPl pl) : zR t pl 3 = some (pl + 4) := by rcases h with rfl | rfl | rfl <;> rfl
theorem zPl_r4 {pl t : Int} (h : zPl pl) : zR t pl 4 = some (pl + 5) := by rcases h with rfl | rfl | rfl <;> rfl
theorem zPl_r5 {pl t : Int} (h : zPl pl) : zR t pl 5 = some (pl + 6) := by rcases h with rfl | rfl | rfl <;> rfl
theorem zPl_wi {pl : Int} (h : zPl pl) : zWi (pl + 6) := by rcases h with rfl | rfl | rfl <;> (unfold zWi; decide)
theorem zPl_p {pl t i : Int} (h : zPl pl) (h0 : 0 ≤ i) (h1 : i < 10) : zR t (pl + 1) i = some (pl + 9 + i) := by
  have hi : i = 0 ∨ i = 1 ∨ i = 2 ∨ i = 3 ∨ i = 4 ∨ i = 5 ∨ i = 6 ∨ i = 7 ∨ i = 8 ∨ i = 9 := by omega
  rcases h with rfl | rfl | rfl <;> rcases hi with rfl | rfl | rfl | rfl | rfl | rfl | rfl | rfl | rfl | rfl <;> rfl
theorem zPl_sp {pl i : Int} (h : zPl pl) (h0 : 0 ≤ i) (h1 : i < 10) : zsh (pl + 9 + i) = some (6, 12) := by
  have hi : i = 0 ∨ i = 1 ∨ i = 2 ∨ i = 3 ∨ i = 4 ∨ i = 5 ∨ i = 6 ∨ i = 7 ∨ i = 8 ∨ i = 9 := by omega
  rcases h with rfl | rfl | rfl <;> rcases hi with rfl | rfl | rfl | rfl | rfl | rfl | rfl | rfl | rfl | rfl <;> rfl
theorem zWi_s0 {w : Int} (h : zWi w) : zsh w = some (11, 4) := by rcases h with rfl | rfl | rfl | rfl <;> rfl
theorem zWi_s1 {w : Int} (h : zWi w) : zsh (w + 1) = some (0, 220) := by rcases h with rfl | rfl | rfl | rfl <;> rfl
theorem zWi_s2 {w : Int} (h : zWi w) : zsh (w + 2) = some (0, 9) := by rcases h with rfl | rfl | rfl | rfl <;> rfl
theorem zWi_r0 {w t : Int} (h : zWi w) : zR t w 0 = some (w + 1) := by rcases h with rfl | rfl | rfl | rfl <;> rfl
theorem zWi_r1 {w t : Int} (h : zWi w) : zR t w 1 = some (w + 2) := by rcases h with rfl | rfl | rfl | rfl <;> rfl
