/-! ===== the grammar of wishes, over sorts S and numbers V of tokens ===== -/
section GRAM
variable (S V : Nat → Int)
def gV (i : Nat) : Nat × Option (List Int) :=
  if S i = 2 then (i + 1, some [1000 + V i])
  else if S i = 14 then (if S (i + 1) = 2 ∧ V (i + 1) ≤ 4 then (i + 2, some [200 + V (i + 1)]) else (i + 1, none))
  else if S i = 15 then (if S (i + 1) = 2 ∧ V (i + 1) ≤ 9 then (i + 2, some [300 + V (i + 1)]) else (i + 1, none))
  else if S i = 16 then (i + 1, some [400]) else if S i = 17 then (i + 1, some [401]) else if S i = 18 then (i + 1, some [402]) else (i, none)
def gT : Nat → Nat → List Int → Nat × Option (List Int)
  | 0, i, _ => (i, none)
  | f + 1, i, a => if S i = 5 then (match (gV S V (i + 1)).2 with
    | some c => gT f (gV S V (i + 1)).1 (a ++ c ++ [14])
    | none => ((gV S V (i + 1)).1, none)) else (i, some a)
def gS (i : Nat) : Nat × Option (List Int) := match (gV S V i).2 with
  | some c => gT S V 221 (gV S V i).1 c
  | none => ((gV S V i).1, none)
def gC (i : Nat) : Nat × Option (List Int) := match (gS S V i).2 with
  | none => ((gS S V i).1, none)
  | some a => if 6 ≤ S (gS S V i).1 ∧ S (gS S V i).1 ≤ 8 then (match (gS S V ((gS S V i).1 + 1)).2 with
    | some b => ((gS S V ((gS S V i).1 + 1)).1, some (a ++ b ++ [S (gS S V i).1 + 9]))
    | none => ((gS S V ((gS S V i).1 + 1)).1, none)) else ((gS S V i).1, none)
def gnt (r : Bool) (k : Nat) : List Int := if r then (if k % 2 = 1 then [7] else []) else List.replicate k 7
def gb1 (c : Bool) (v : Int) : List Int := if c then [v] else []
def gL (r : Bool) : Nat → Nat → Bool → Bool → Nat → Nat → List Int → Nat × Option (List Int)
  | 0, _, _, _, _, i, _ => (i, none)
  | f + 1, b, e, c, k, i, a =>
    if S i = 13 then gL r f b e c (k + 1) (i + 1) a
    else
      let o : Nat × Option (List Int) := if S i = 3 then (if b < 4 then (match (gL r f (b + 1) false false 0 (i + 1) []).2 with
        | some o => if S (gL r f (b + 1) false false 0 (i + 1) []).1 = 4 then ((gL r f (b + 1) false false 0 (i + 1) []).1 + 1, some o) else ((gL r f (b + 1) false false 0 (i + 1) []).1, none)
        | none => ((gL r f (b + 1) false false 0 (i + 1) []).1, none)) else (i, none)) else gC S V i
      match o.2 with
      | none => (o.1, none)
      | some x => if S o.1 = 12 then gL r f b e true 0 (o.1 + 1) (a ++ x ++ gnt r k ++ gb1 c 8) else if S o.1 = 11 then gL r f b true false 0 (o.1 + 1) (a ++ x ++ gnt r k ++ gb1 c 8 ++ gb1 e 9) else (o.1, some (a ++ x ++ gnt r k ++ gb1 c 8 ++ gb1 e 9))
/-- the operand at i -/
def gO (r : Bool) (f b i : Nat) : Nat × Option (List Int) := if S i = 3 then (if b < 4 then (match (gL S V r f (b + 1) false false 0 (i + 1) []).2 with
        | some o => if S (gL S V r f (b + 1) false false 0 (i + 1) []).1 = 4 then ((gL S V r f (b + 1) false false 0 (i + 1) []).1 + 1, some o) else ((gL S V r f (b + 1) false false 0 (i + 1) []).1, none)
        | none => ((gL S V r f (b + 1) false false 0 (i + 1) []).1, none)) else (i, none)) else gC S V i
variable {S V}
theorem gL_not {r : Bool} {f b k i : Nat} {e c : Bool} {a : List Int} (h : S i = 13) : gL S V r (f + 1) b e c k i a = gL S V r f b e c (k + 1) (i + 1) a := by
  show (if S i = 13 then _ else _) = _
  rw [if_pos h]
theorem gL_op {r : Bool} {f b k i : Nat} {e c : Bool} {a : List Int} (h : ¬ S i = 13) : gL S V r (f + 1) b e c k i a = (match (gO S V r f b i).2 with
      | none => ((gO S V r f b i).1, none)
      | some x => if S (gO S V r f b i).1 = 12 then gL S V r f b e true 0 ((gO S V r f b i).1 + 1) (a ++ x ++ gnt r k ++ gb1 c 8) else if S (gO S V r f b i).1 = 11 then gL S V r f b true false 0 ((gO S V r f b i).1 + 1) (a ++ x ++ gnt r k ++ gb1 c 8 ++ gb1 e 9) else ((gO S V r f b i).1, some (a ++ x ++ gnt r k ++ gb1 c 8 ++ gb1 e 9))) := by
  show (if S i = 13 then _ else _) = _
  rw [if_neg h]
  rfl
theorem gL_none {r : Bool} {f b k i : Nat} {e c : Bool} {a : List Int} (h : ¬ S i = 13) (ho : (gO S V r f b i).2 = none) : gL S V r (f + 1) b e c k i a = ((gO S V r f b i).1, none) := by
  rw [gL_op h]
  generalize gO S V r f b i = o at ho ⊢
  rw [ho]
theorem gL_some {r : Bool} {f b k i : Nat} {e c : Bool} {a x : List Int} (h : ¬ S i = 13) (ho : (gO S V r f b i).2 = some x) : gL S V r (f + 1) b e c k i a = if S (gO S V r f b i).1 = 12 then gL S V r f b e true 0 ((gO S V r f b i).1 + 1) (a ++ x ++ gnt r k ++ gb1 c 8) else if S (gO S V r f b i).1 = 11 then gL S V r f b true false 0 ((gO S V r f b i).1 + 1) (a ++ x ++ gnt r k ++ gb1 c 8 ++ gb1 e 9) else ((gO S V r f b i).1, some (a ++ x ++ gnt r k ++ gb1 c 8 ++ gb1 e 9)) := by
  rw [gL_op h]
  generalize gO S V r f b i = o at ho ⊢
  rw [ho]
section BND
variable {E : Nat}
theorem gE (h0 : S E = 0) {i : Nat} (hi : i ≤ E) (h : S i ≠ 0) : i < E := by
  rcases Nat.lt_or_ge i E with q | q
  · exact q
  · exact absurd (by rw [show i = E by omega]; exact h0) h
theorem gV_b (h0 : S E = 0) {i : Nat} (hi : i ≤ E) : i ≤ (gV S V i).1 ∧ (gV S V i).1 ≤ E ∧ ∀ c, (gV S V i).2 = some c → c.length = 1 ∧ i < (gV S V i).1 := by
  have g0 := @gE S E h0 i hi
  unfold gV
  split
  · have := g0 (by omega); exact ⟨by omega, by omega, fun c q => by cases q; exact ⟨rfl, by omega⟩⟩
  · split
    · have h1 := g0 (by omega)
      split
      · next h => have h2 := @gE S E h0 (i + 1) (by omega) (by omega); exact ⟨by omega, by omega, fun c q => by cases q; exact ⟨rfl, by omega⟩⟩
      · exact ⟨by omega, by omega, fun c q => by cases q⟩
    · split
      · have h1 := g0 (by omega)
        split
        · next h => have h2 := @gE S E h0 (i + 1) (by omega) (by omega); exact ⟨by omega, by omega, fun c q => by cases q; exact ⟨rfl, by omega⟩⟩
        · exact ⟨by omega, by omega, fun c q => by cases q⟩
      · split
        · have := g0 (by omega); exact ⟨by omega, by omega, fun c q => by cases q; exact ⟨rfl, by omega⟩⟩
        · split
          · have := g0 (by omega); exact ⟨by omega, by omega, fun c q => by cases q; exact ⟨rfl, by omega⟩⟩
          · split
            · have := g0 (by omega); exact ⟨by omega, by omega, fun c q => by cases q; exact ⟨rfl, by omega⟩⟩
            · exact ⟨by omega, by omega, fun c q => by cases q⟩
theorem gT_b (h0 : S E = 0) : ∀ (f i : Nat) (a : List Int), i ≤ E → i ≤ (gT S V f i a).1 ∧ (gT S V f i a).1 ≤ E ∧ ∀ c, (gT S V f i a).2 = some c → c.length + i ≤ a.length + (gT S V f i a).1 := by
  intro f
  induction f with
  | zero => intro i a hi; exact ⟨Nat.le_refl _, hi, fun c q => by cases q⟩
  | succ f ih =>
    intro i a hi
    unfold gT
    split
    · have h1 := @gE S E h0 i hi (by omega)
      have hv := @gV_b S V E h0 (i + 1) (by omega)
      cases hg : (gV S V (i + 1)).2 with
      | none => exact ⟨by show i ≤ (gV S V (i + 1)).1; omega, hv.2.1, fun c q => by cases q⟩
      | some c =>
        have h3 := hv.2.2 c hg
        obtain ⟨p, q, s⟩ := ih (gV S V (i + 1)).1 (a ++ c ++ [14]) hv.2.1
        refine ⟨by show i ≤ (gT S V f (gV S V (i + 1)).1 (a ++ c ++ [14])).1; omega, q, fun c' hc => ?_⟩
        have := s c' hc
        simp only [List.length_append, List.length_cons, List.length_nil] at this
        show c'.length + i ≤ a.length + (gT S V f (gV S V (i + 1)).1 (a ++ c ++ [14])).1
        omega
    · exact ⟨Nat.le_refl _, hi, fun c q => by cases q; exact Nat.le_refl _⟩
theorem gS_b (h0 : S E = 0) {i : Nat} (hi : i ≤ E) : i ≤ (gS S V i).1 ∧ (gS S V i).1 ≤ E ∧ ∀ c, (gS S V i).2 = some c → c.length + i ≤ (gS S V i).1 := by
  have hv := @gV_b S V E h0 i hi
  unfold gS
  cases hg : (gV S V i).2 with
  | none => exact ⟨hv.1, hv.2.1, fun c q => by cases q⟩
  | some c =>
    have h3 := hv.2.2 c hg
    obtain ⟨p, q, s⟩ := @gT_b S V E h0 221 (gV S V i).1 c hv.2.1
    refine ⟨by show i ≤ (gT S V 221 (gV S V i).1 c).1; omega, q, fun c' hc => ?_⟩
    have := s c' hc
    show c'.length + i ≤ (gT S V 221 (gV S V i).1 c).1
    omega
theorem gC_b (h0 : S E = 0) {i : Nat} (hi : i ≤ E) : i ≤ (gC S V i).1 ∧ (gC S V i).1 ≤ E ∧ ∀ c, (gC S V i).2 = some c → c.length + i ≤ (gC S V i).1 := by
  have hv := @gS_b S V E h0 i hi
  unfold gC
  cases hg : (gS S V i).2 with
  | none => exact ⟨hv.1, hv.2.1, fun c q => by cases q⟩
  | some a =>
    have h3 := hv.2.2 a hg
    dsimp only
    split
    · have h1 := @gE S E h0 (gS S V i).1 hv.2.1 (by omega)
      have hw := @gS_b S V E h0 ((gS S V i).1 + 1) (by omega)
      cases hg2 : (gS S V ((gS S V i).1 + 1)).2 with
      | none => exact ⟨by show i ≤ (gS S V ((gS S V i).1 + 1)).1; omega, hw.2.1, fun c q => by cases q⟩
      | some b =>
        have h4 := hw.2.2 b hg2
        refine ⟨by show i ≤ (gS S V ((gS S V i).1 + 1)).1; omega, hw.2.1, fun c q => ?_⟩
        cases q
        simp only [List.length_append, List.length_cons, List.length_nil]
        omega
    · exact ⟨hv.1, hv.2.1, fun c q => by cases q⟩
theorem gnt_b (r : Bool) (k : Nat) : (gnt r k).length ≤ k := by
  unfold gnt
  split
  · split
    · show 1 ≤ k; omega
    · exact Nat.zero_le _
  · rw [List.length_replicate]; exact Nat.le_refl _
theorem gL_b (h0 : S E = 0) (r : Bool) : ∀ (f b : Nat) (e c : Bool) (k i : Nat) (a : List Int), i ≤ E → i ≤ (gL S V r f b e c k i a).1 ∧ (gL S V r f b e c k i a).1 ≤ E ∧ ∀ A, (gL S V r f b e c k i a).2 = some A → A.length + i ≤ a.length + k + (gb1 e 9).length + (gb1 c 8).length + (gL S V r f b e c k i a).1 := by
  intro f
  induction f with
  | zero => intro b e c k i a hi; exact ⟨Nat.le_refl _, hi, fun c q => by cases q⟩
  | succ f ih =>
    intro b e c k i a hi
    by_cases h13 : S i = 13
    · rw [gL_not h13]
      have h1 := @gE S E h0 i hi (by omega)
      obtain ⟨p, q, s⟩ := ih b e c (k + 1) (i + 1) a (by omega)
      exact ⟨by omega, q, fun A hA => by have := s A hA; omega⟩
    · have ho : i ≤ (gO S V r f b i).1 ∧ (gO S V r f b i).1 ≤ E ∧ ∀ x, (gO S V r f b i).2 = some x → x.length + i ≤ (gO S V r f b i).1 := by
        unfold gO
        split
        · have h1 := @gE S E h0 i hi (by omega)
          split
          · obtain ⟨p, q, s⟩ := ih (b + 1) false false 0 (i + 1) [] (by omega)
            cases hg : (gL S V r f (b + 1) false false 0 (i + 1) []).2 with
            | none => exact ⟨by show i ≤ (gL S V r f (b + 1) false false 0 (i + 1) []).1; omega, q, fun c q => by cases q⟩
            | some o =>
              have hs := s o hg
              dsimp only
              split
              · next h4 =>
                have h5 := @gE S E h0 _ q (by omega)
                refine ⟨by show i ≤ (gL S V r f (b + 1) false false 0 (i + 1) []).1 + 1; omega, h5, fun x hx => ?_⟩
                cases hx
                have hs : o.length + (i + 1) ≤ 0 + 0 + 0 + 0 + (gL S V r f (b + 1) false false 0 (i + 1) []).1 := hs
                show o.length + i ≤ (gL S V r f (b + 1) false false 0 (i + 1) []).1 + 1
                omega
              · exact ⟨by show i ≤ (gL S V r f (b + 1) false false 0 (i + 1) []).1; omega, q, fun c q => by cases q⟩
          · exact ⟨Nat.le_refl _, hi, fun c q => by cases q⟩
        · exact @gC_b S V E h0 i hi
      cases hg : (gO S V r f b i).2 with
      | none => rw [gL_none h13 hg]; exact ⟨ho.1, ho.2.1, fun c q => by cases q⟩
      | some x =>
        rw [gL_some h13 hg]
        have hx := ho.2.2 x hg
        have hk := gnt_b r k
        have l1 : (gb1 true 8).length = 1 := rfl
        have l2 : (gb1 true 9).length = 1 := rfl
        have l3 : (gb1 false 8).length = 0 := rfl
        split
        · have h5 := @gE S E h0 _ ho.2.1 (by omega)
          obtain ⟨p, q, s⟩ := ih b e true 0 ((gO S V r f b i).1 + 1) (a ++ x ++ gnt r k ++ gb1 c 8) (by omega)
          refine ⟨by omega, q, fun A hA => ?_⟩
          have := s A hA
          simp only [List.length_append] at this
          omega
        · split
          · have h5 := @gE S E h0 _ ho.2.1 (by omega)
            obtain ⟨p, q, s⟩ := ih b true false 0 ((gO S V r f b i).1 + 1) (a ++ x ++ gnt r k ++ gb1 c 8 ++ gb1 e 9) (by omega)
            refine ⟨by omega, q, fun A hA => ?_⟩
            have := s A hA
            simp only [List.length_append] at this
            omega
          · refine ⟨ho.1, ho.2.1, fun A hA => ?_⟩
            cases hA
            simp only [List.length_append]
            omega
end BND
end GRAM
