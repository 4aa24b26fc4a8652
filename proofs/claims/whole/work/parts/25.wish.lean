/-! ===== wishes: rows of signs, values first (7 not, 8 and, 9 or, 14 +, 15 <, 16 =, 17 >; else a value) ===== -/
theorem zEnd_ex {P : F2} {c s0 : Int} (h : 0 ≤ s0 ∧ s0 ≤ 9260) : ∃ N j, zEnd P c s0 N j ∧ N ≤ 9261 := by
  have key : ∀ n : Nat, (∀ a b, a < b → b < n → zit P c s0 a ≠ zit P c s0 b) ∨ ∃ N j, zEnd P c s0 N j ∧ N < n := by
    intro n
    induction n with
    | zero => exact Or.inl (fun a b _ h => absurd h (by omega))
    | succ n ih =>
      rcases ih with ih | ⟨N, j, h1, h2⟩
      · by_cases hx : ∃ j, j < n ∧ zit P c s0 n = zit P c s0 j
        · obtain ⟨j, hj, he⟩ := hx
          exact Or.inr ⟨n, j, ⟨hj, he, ih⟩, by omega⟩
        · refine Or.inl (fun a b h1 h2 => ?_)
          rcases Nat.lt_or_ge b n with h3 | h3
          · exact ih a b h1 h3
          · have : b = n := by omega
            subst this
            exact fun z => hx ⟨a, h1, z.symm⟩
      · exact Or.inr ⟨N, j, h1, by omega⟩
  rcases key 9262 with h1 | ⟨N, j, h1, h2⟩
  · have := pigeon 9261 (fun i => (zit P c s0 i).toNat) 9262 (fun i _ => by
      have := zit_le (P := P) (c := c) h i
      show (zit P c s0 i).toNat < 9261
      omega) (fun a b q1 q2 q => h1 a b q1 q2 (by
      have q : (zit P c s0 a).toNat = (zit P c s0 b).toNat := q
      have := zit_le (P := P) (c := c) h a
      have := zit_le (P := P) (c := c) h b
      omega))
    omega
  · exact ⟨N, j, h1, by omega⟩
theorem zE_facts {P : F2} {c : Int} (hW : zWf P) : (0 ≤ zE P c ∧ zE P c ≤ 9260) ∧ (0 ≤ zPa P c ∧ zPa P c ≤ 9261) ∧ (1 ≤ zRg P c ∧ zRg P c ≤ 9261) := by
  obtain ⟨N, j, h1, h2⟩ := zEnd_ex (P := P) (c := c) hW.2.1
  have hw := zwalk_eq h1
  have hj := h1.1
  refine ⟨zit_le hW.2.1 _, ?_, ?_⟩
  · unfold zPa; rw [hw]; omega
  · unfold zRg; rw [hw]; omega
noncomputable def zval (P : F2) (c code : Int) : Int := if code < 1000 then (if code < 400 then (if code < 300 then zlv P (zE P c) (code - 200) else if 0 ≤ code - 300 ∧ code - 300 < P 98 4 then zflow P (zlv P (zE P c)) c (code - 300) else 0) else if code = 400 then zPa P c else if code = 401 then zRg P c else P 98 0) else code - 1000
/-- the signs that are values -/
def zvs (c : Int) : Prop := (200 ≤ c ∧ c ≤ 204) ∨ (300 ≤ c ∧ c ≤ 309) ∨ (400 ≤ c ∧ c ≤ 402) ∨ (1000 ≤ c ∧ c ≤ 1999)
theorem zval_le {P : F2} {c code : Int} (hW : zWf P) (hc : 0 ≤ c ∧ c ≤ 8) (hv : zvs code) : -10000 ≤ zval P c code ∧ zval P c code ≤ 10000 := by
  obtain ⟨f1, f2, f3⟩ := zE_facts (c := c) hW
  have hf := hW.1
  unfold zval
  unfold zvs at hv
  split
  · split
    · split
      · have := zlv_le hW f1 (code - 200); omega
      · split
        · have := zflow_le (p := code - 300) (lv := zlv P (zE P c)) hW (by omega) (by omega) hc (fun k _ _ => zlv_le hW f1 k); omega
        · omega
    · (repeat' split) <;> omega
  · omega
def zjs (c : Int) : Prop := c = 8 ∨ c = 9 ∨ (14 ≤ c ∧ c ≤ 17)
def zjoin (c a b : Int) : Int := if c = 8 then zand a b else if c = 9 then zor a b else if c = 14 then a + b else if c = 15 then (if a < b then 1 else 0) else if c = 16 then (if a = b then 1 else 0) else (if b < a then 1 else 0)
def zstep (env : Int → Int) (st : List Int) (c : Int) : List Int :=
  if c = 7 then (match st with
    | x :: r => (1 - x) :: r
    | [] => [])
  else if c = 8 ∨ c = 9 ∨ (14 ≤ c ∧ c ≤ 17) then (match st with
    | y :: x :: r => zjoin c x y :: r
    | r => r)
  else env c :: st
def zev (env : Int → Int) : List Int → List Int → List Int
  | [], st => st
  | c :: r, st => zev env r (zstep env st c)
theorem zev_app (env : Int → Int) (a b st : List Int) : zev env (a ++ b) st = zev env b (zev env a st) := by
  induction a generalizing st with
  | nil => rfl
  | cons c r ih => exact ih _
/-- kinds of what stands on the stack: true a truth, false a number -/
def ztS (T : List Bool) (c : Int) : Option (List Bool) :=
  if c = 7 then (match T with
    | true :: r => some (true :: r)
    | _ => none)
  else if c = 8 ∨ c = 9 then (match T with
    | true :: true :: r => some (true :: r)
    | _ => none)
  else if c = 14 then (match T with
    | false :: false :: r => some (false :: r)
    | _ => none)
  else if 15 ≤ c ∧ c ≤ 17 then (match T with
    | false :: false :: r => some (true :: r)
    | _ => none)
  else if (200 ≤ c ∧ c ≤ 204) ∨ (300 ≤ c ∧ c ≤ 309) ∨ (400 ≤ c ∧ c ≤ 402) ∨ (1000 ≤ c ∧ c ≤ 1999) then some (false :: T) else none
/-- a row of signs takes kinds T to T', with at most h on the stack -/
def ztR (h : Nat) : List Int → List Bool → List Bool → Prop
  | [], T, T' => T = T'
  | c :: r, T, T' => ∃ U, ztS T c = some U ∧ U.length ≤ h ∧ ztR h r U T'
theorem ztR_app {h : Nat} {a b : List Int} {T T1 T2 : List Bool} (h1 : ztR h a T T1) (h2 : ztR h b T1 T2) : ztR h (a ++ b) T T2 := by
  induction a generalizing T with
  | nil => cases h1; exact h2
  | cons c r ih =>
    obtain ⟨U, q1, q2, q3⟩ := h1
    exact ⟨U, q1, q2, ih q3⟩
theorem ztR_mono {h h' : Nat} (hh : h ≤ h') {a : List Int} {T T1 : List Bool} (h1 : ztR h a T T1) : ztR h' a T T1 := by
  induction a generalizing T with
  | nil => exact h1
  | cons c r ih =>
    obtain ⟨U, q1, q2, q3⟩ := h1
    exact ⟨U, q1, by omega, ih q3⟩
def zstk : List Bool → List Int → Prop
  | [], [] => True
  | t :: T, v :: st => (t = true → v = 0 ∨ v = 1) ∧ zstk T st
  | _, _ => False
theorem zstk_len : ∀ {T : List Bool} {st : List Int}, zstk T st → st.length = T.length := by
  intro T
  induction T with
  | nil => intro st h; cases st with
    | nil => rfl
    | cons v st => exact absurd h (fun z => z)
  | cons t T ih => intro st h; cases st with
    | nil => exact absurd h (fun z => z)
    | cons v st => simp [ih h.2]
def zsum : List Int → Int
  | [] => 0
  | v :: r => (if 0 ≤ v then v else -v) + zsum r
theorem zsum_cons {v : Int} {r : List Int} : zsum (v :: r) = (if 0 ≤ v then v else -v) + zsum r := rfl
theorem zsum_nn : ∀ st, 0 ≤ zsum st := by
  intro st
  induction st with
  | nil => exact Int.le_refl _
  | cons v r ih => unfold zsum; split <;> omega
theorem zand01 {a b : Int} (ha : a = 0 ∨ a = 1) (hb : b = 0 ∨ b = 1) : zand a b = (if a = 1 ∧ b = 1 then 1 else 0) := by rcases ha with rfl | rfl <;> rcases hb with rfl | rfl <;> decide
theorem zor01 {a b : Int} (ha : a = 0 ∨ a = 1) (hb : b = 0 ∨ b = 1) : zor a b = (if a = 1 ∨ b = 1 then 1 else 0) := by rcases ha with rfl | rfl <;> rcases hb with rfl | rfl <;> decide
/-- what a sign needs and does, on a stack of the right kinds -/
theorem zstep_ok {env : Int → Int} {T U : List Bool} {st : List Int} {c : Int} (hT : ztS T c = some U) (hs : zstk T st) (he : zvs c → -10000 ≤ env c ∧ env c ≤ 10000) : zstk U (zstep env st c) ∧ zsum (zstep env st c) ≤ zsum st + 10000 ∧
    ((c = 7 ∧ ∃ x r, st = x :: r ∧ (x = 0 ∨ x = 1) ∧ zstep env st c = (1 - x) :: r) ∨ (zjs c ∧ ∃ y x r, st = y :: x :: r ∧ (c = 8 ∨ c = 9 → (x = 0 ∨ x = 1) ∧ (y = 0 ∨ y = 1)) ∧ zstep env st c = zjoin c x y :: r) ∨ (zvs c ∧ ¬ c = 7 ∧ ¬ zjs c ∧ zstep env st c = env c :: st)) := by
  unfold ztS at hT
  unfold zstep
  split at hT
  · rename_i h7
    rw [if_pos h7]
    split at hT
    · rename_i T'
      cases hT
      cases st with
      | nil => exact absurd hs (fun z => z)
      | cons x r =>
        have hx := hs.1 rfl
        refine ⟨⟨fun _ => by omega, hs.2⟩, ?_, Or.inl ⟨h7, x, r, rfl, hx, rfl⟩⟩
        show zsum ((1 - x) :: r) ≤ zsum (x :: r) + 10000
        simp only [zsum_cons]
        (repeat' split) <;> omega
    · cases hT
  · rename_i h7
    rw [if_neg h7]
    split at hT
    · rename_i h8
      rw [if_pos (by omega)]
      split at hT
      · cases hT
        cases st with
        | nil => exact absurd hs (fun z => z)
        | cons y st => cases st with
          | nil => exact absurd hs.2 (fun z => z)
          | cons x r =>
            have hy := hs.1 rfl
            have hx := hs.2.1 rfl
            have hz : zjoin c x y = 0 ∨ zjoin c x y = 1 := by
              unfold zjoin
              rcases h8 with h8 | h8
              · rw [if_pos h8, zand01 hx hy]; split <;> omega
              · rw [if_neg (by omega), if_pos h8, zor01 hx hy]; split <;> omega
            refine ⟨⟨fun _ => hz, hs.2.2⟩, ?_, Or.inr (Or.inl ⟨by unfold zjs; omega, y, x, r, rfl, fun _ => ⟨hx, hy⟩, rfl⟩)⟩
            show zsum (zjoin c x y :: r) ≤ zsum (y :: x :: r) + 10000
            simp only [zsum_cons]
            (repeat' split) <;> omega
      · cases hT
    · rename_i h8
      split at hT
      · rename_i h14
        rw [if_pos (by omega)]
        split at hT
        · cases hT
          cases st with
          | nil => exact absurd hs (fun z => z)
          | cons y st => cases st with
            | nil => exact absurd hs.2 (fun z => z)
            | cons x r =>
              refine ⟨⟨(fun z => by cases z), hs.2.2⟩, ?_, Or.inr (Or.inl ⟨by unfold zjs; omega, y, x, r, rfl, fun z => absurd z h8, rfl⟩)⟩
              show zsum (zjoin c x y :: r) ≤ zsum (y :: x :: r) + 10000
              have : zjoin c x y = x + y := by unfold zjoin; rw [if_neg (by omega), if_neg (by omega), if_pos h14]
              rw [this]
              simp only [zsum_cons]
              (repeat' split) <;> omega
        · cases hT
      · rename_i h14
        split at hT
        · rename_i h15
          rw [if_pos (by omega)]
          split at hT
          · cases hT
            cases st with
            | nil => exact absurd hs (fun z => z)
            | cons y st => cases st with
              | nil => exact absurd hs.2 (fun z => z)
              | cons x r =>
                have hz : zjoin c x y = 0 ∨ zjoin c x y = 1 := by
                  unfold zjoin
                  rw [if_neg (by omega), if_neg (by omega), if_neg (by omega)]
                  (repeat' split) <;> omega
                refine ⟨⟨fun _ => hz, hs.2.2⟩, ?_, Or.inr (Or.inl ⟨by unfold zjs; omega, y, x, r, rfl, fun z => absurd z h8, rfl⟩)⟩
                show zsum (zjoin c x y :: r) ≤ zsum (y :: x :: r) + 10000
                simp only [zsum_cons]
                (repeat' split) <;> omega
          · cases hT
        · rename_i h15
          split at hT
          · rename_i hv
            cases hT
            have hj : ¬ (c = 8 ∨ c = 9 ∨ (14 ≤ c ∧ c ≤ 17)) := by omega
            rw [if_neg hj]
            have hv' : zvs c := hv
            refine ⟨⟨(fun z => by cases z), hs⟩, ?_, Or.inr (Or.inr ⟨hv', h7, hj, rfl⟩)⟩
            have := he hv'
            show zsum (env c :: st) ≤ zsum st + 10000
            simp only [zsum_cons]
            (repeat' split) <;> omega
          · cases hT
/-- the signs from b to e of a row -/
def zseg (f : Int → Int) (b : Int) : Nat → List Int
  | 0 => []
  | n + 1 => f b :: zseg f (b + 1) n
theorem zseg_congr {f g : Int → Int} {n : Nat} : ∀ {b : Int}, (∀ i, b ≤ i → i < b + n → f i = g i) → zseg f b n = zseg g b n := by
  induction n with
  | zero => intro b _; rfl
  | succ n ih =>
    intro b h
    unfold zseg
    rw [h b (by omega) (by omega), ih (fun i h1 h2 => h i (by omega) (by omega))]
def zwb (P : F2) (i : Int) : Int := if i = 0 then 0 else P 104 (i - 1)
/-- the signs of the reference's i-th wish -/
def zwM (P : F2) (i : Int) : List Int := zseg (P 105) (zwb P i) (P 104 i - zwb P i).toNat
def zWish (P : F2) : Prop := (0 ≤ P 98 10 ∧ P 98 10 ≤ 8) ∧ ∀ i, 0 ≤ i → i < P 98 10 → (0 ≤ zwb P i ∧ zwb P i ≤ P 104 i ∧ P 104 i ≤ 230) ∧ ztR 230 (zwM P i) [] [true]
/-- whether the COND of a wish holds in a corner -/
def zholds (env : Int → Int) (cs : List Int) : Bool := (zev env cs []).headD 0 == 1
