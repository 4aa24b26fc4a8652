/-! ===== both grammars say the same; their signs fit ===== -/
def zZq (a b : List Int) : Prop := ∀ (env : Int → Int) (st : List Int), zev env a st = zev env b st
theorem zZq.rf {a : List Int} : zZq a a := fun _ _ => rfl
theorem zZq.ap {a a' b b' : List Int} (h : zZq a a') (h2 : zZq b b') : zZq (a ++ b) (a' ++ b') := fun env st => by rw [zev_app, zev_app, h, h2]
theorem zNN (env : Int → Int) (st : List Int) : zev env [7, 7] st = st := by
  cases st with
  | nil => rfl
  | cons x r =>
    show (1 - (1 - x)) :: r = x :: r
    rw [show (1 - (1 - x)) = x by omega]
theorem gnt_q : ∀ k : Nat, zZq (gnt true k) (gnt false k) ∧ zZq (gnt true (k + 1)) (gnt false (k + 1)) := by
  intro k
  induction k with
  | zero => exact ⟨zZq.rf, zZq.rf⟩
  | succ k ih =>
    refine ⟨ih.2, fun env st => ?_⟩
    have e1 : gnt true (k + 1 + 1) = gnt true k := by
      show (if (k + 1 + 1) % 2 = 1 then _ else _) = (if k % 2 = 1 then _ else _)
      by_cases h : k % 2 = 1
      · rw [if_pos h, if_pos (by omega)]
      · rw [if_neg h, if_neg (by omega)]
    have e2 : gnt false (k + 1 + 1) = [7, 7] ++ gnt false k := rfl
    rw [e1, e2, zev_app, zNN]
    exact ih.1 env st
def gRel {α : Type} (R : α → α → Prop) (g g' : Nat × Option α) : Prop := g.1 = g'.1 ∧ (∀ A, g.2 = some A → ∃ A', g'.2 = some A' ∧ R A A') ∧ (g.2 = none → g'.2 = none)
theorem gRel.refl {α : Type} {R : α → α → Prop} (hR : ∀ a, R a a) (g : Nat × Option α) : gRel R g g := ⟨rfl, fun A h => ⟨A, h, hR A⟩, fun h => h⟩
section G2
variable {S V : Nat → Int}
theorem gL_q : ∀ (f b : Nat) (e c : Bool) (k i : Nat) (a a' : List Int), zZq a a' → gRel zZq (gL S V true f b e c k i a) (gL S V false f b e c k i a') := by
  intro f
  induction f with
  | zero => intro b e c k i a a' _; exact ⟨rfl, fun A h => (by cases h), fun _ => rfl⟩
  | succ f ih =>
    intro b e c k i a a' ha
    by_cases h13 : S i = 13
    · rw [gL_not h13, gL_not h13]; exact ih b e c (k + 1) (i + 1) a a' ha
    · have ho : gRel zZq (gO S V true f b i) (gO S V false f b i) := by
        unfold gO
        split
        · split
          · obtain ⟨p1, p2, p3⟩ := ih (b + 1) false false 0 (i + 1) [] [] zZq.rf
            cases hg : (gL S V true f (b + 1) false false 0 (i + 1) []).2 with
            | none =>
              rw [p3 hg]
              exact ⟨p1, fun A h => (by cases h), fun _ => rfl⟩
            | some A =>
              obtain ⟨A', q1, q2⟩ := p2 A hg
              rw [q1]
              dsimp only
              rw [← p1]
              split
              · exact ⟨rfl, fun B h => (by cases h; exact ⟨A', rfl, q2⟩), fun h => (by cases h)⟩
              · exact ⟨rfl, fun B h => (by cases h), fun _ => rfl⟩
          · exact ⟨rfl, fun A h => (by cases h), fun _ => rfl⟩
        · exact gRel.refl (fun _ => zZq.rf) _
      obtain ⟨p1, p2, p3⟩ := ho
      cases hg : (gO S V true f b i).2 with
      | none => rw [gL_none h13 hg, gL_none h13 (p3 hg)]; exact ⟨p1, fun A h => (by cases h), fun _ => rfl⟩
      | some x =>
        obtain ⟨x', q1, q2⟩ := p2 x hg
        rw [gL_some h13 hg, gL_some h13 q1, ← p1]
        have h1 : zZq (a ++ x ++ gnt true k ++ gb1 c 8) (a' ++ x' ++ gnt false k ++ gb1 c 8) := ((ha.ap q2).ap (gnt_q k).1).ap zZq.rf
        have h2 : zZq (a ++ x ++ gnt true k ++ gb1 c 8 ++ gb1 e 9) (a' ++ x' ++ gnt false k ++ gb1 c 8 ++ gb1 e 9) := h1.ap zZq.rf
        split
        · exact ih _ _ _ _ _ _ _ h1
        · split
          · exact ih _ _ _ _ _ _ _ h2
          · exact ⟨rfl, fun B h => (by cases h; exact ⟨_, rfl, h2⟩), fun h => (by cases h)⟩
/-- kinds of what waits -/
def gst (b : Bool) : List Bool := if b then [true] else []
theorem zt1 {h : Nat} {c : Int} {T U : List Bool} (h1 : ztS T c = some U) (h2 : U.length ≤ h) : ztR h [c] T U := ⟨U, h1, h2, rfl⟩
theorem ztS_v {T : List Bool} {c : Int} (hc : (200 ≤ c ∧ c ≤ 204) ∨ (300 ≤ c ∧ c ≤ 309) ∨ (400 ≤ c ∧ c ≤ 402) ∨ (1000 ≤ c ∧ c ≤ 1999)) : ztS T c = some (false :: T) := by
  unfold ztS
  rw [if_neg (by omega), if_neg (by omega), if_neg (by omega), if_neg (by omega), if_pos hc]
theorem gV_t {h i : Nat} {c : List Int} {T : List Bool} (hV : ∀ j, 0 ≤ V j ∧ V j ≤ 999) (hh : T.length + 1 ≤ h) (hg : (gV S V i).2 = some c) : ztR h c T (false :: T) := by
  have h0 := hV i
  have h1 := hV (i + 1)
  unfold gV at hg
  (repeat' split at hg) <;> cases hg <;> exact zt1 (ztS_v (by omega)) hh
theorem gT_t {h : Nat} {T : List Bool} (hV : ∀ j, 0 ≤ V j ∧ V j ≤ 999) (hh : T.length + 2 ≤ h) : ∀ (f i : Nat) (a c : List Int), ztR h a T (false :: T) → (gT S V f i a).2 = some c → ztR h c T (false :: T) := by
  intro f
  induction f with
  | zero => intro i a c _ hg; cases hg
  | succ f ih =>
    intro i a c ha hg
    unfold gT at hg
    split at hg
    · cases hv : (gV S V (i + 1)).2 with
      | none => rw [hv] at hg; cases hg
      | some x =>
        rw [hv] at hg
        exact ih _ _ _ (ztR_app (ztR_app ha (gV_t (T := false :: T) hV (by show T.length + 1 + 1 ≤ h; omega) hv)) (zt1 (U := false :: T) rfl (by show T.length + 1 ≤ h; omega))) hg
    · cases hg; exact ha
theorem gS_t {h i : Nat} {c : List Int} {T : List Bool} (hV : ∀ j, 0 ≤ V j ∧ V j ≤ 999) (hh : T.length + 2 ≤ h) (hg : (gS S V i).2 = some c) : ztR h c T (false :: T) := by
  unfold gS at hg
  cases hv : (gV S V i).2 with
  | none => rw [hv] at hg; cases hg
  | some x => rw [hv] at hg; exact gT_t hV hh _ _ _ _ (gV_t hV (by omega) hv) hg
theorem gC_t {h i : Nat} {c : List Int} {T : List Bool} (hV : ∀ j, 0 ≤ V j ∧ V j ≤ 999) (hh : T.length + 3 ≤ h) (hg : (gC S V i).2 = some c) : ztR h c T (true :: T) := by
  unfold gC at hg
  cases hv : (gS S V i).2 with
  | none => rw [hv] at hg; cases hg
  | some a =>
    rw [hv] at hg
    dsimp only at hg
    split at hg
    · next h68 =>
      cases hw : (gS S V ((gS S V i).1 + 1)).2 with
      | none => rw [hw] at hg; cases hg
      | some b =>
        rw [hw] at hg
        cases hg
        refine ztR_app (ztR_app (gS_t hV (by omega) hv) (gS_t (T := false :: T) hV (by show T.length + 1 + 2 ≤ h; omega) hw)) (zt1 ?_ (by show T.length + 1 ≤ h; omega))
        unfold ztS
        rw [if_neg (by omega), if_neg (by omega), if_neg (by omega), if_pos (by omega)]
    · cases hg
theorem rep_t {h : Nat} {T : List Bool} (hh : T.length + 1 ≤ h) : ∀ k : Nat, ztR h (List.replicate k 7) (true :: T) (true :: T) := by
  intro k
  induction k with
  | zero => rfl
  | succ k ih => exact ⟨true :: T, rfl, hh, ih⟩
theorem gnt_t {h k : Nat} {T : List Bool} (r : Bool) (hh : T.length + 1 ≤ h) : ztR h (gnt r k) (true :: T) (true :: T) := by
  cases r with
  | false => exact rep_t hh k
  | true =>
    show ztR h (if k % 2 = 1 then [7] else []) _ _
    split
    · exact zt1 rfl hh
    · rfl
theorem gb8_t {h : Nat} {T : List Bool} (c : Bool) (hh : T.length + 2 ≤ h) : ztR h (gb1 c 8) (true :: (gst c ++ T)) (true :: T) := by
  cases c with
  | false => rfl
  | true => exact zt1 rfl (by show T.length + 1 ≤ h; omega)
theorem gb9_t {h : Nat} {T : List Bool} (c : Bool) (hh : T.length + 2 ≤ h) : ztR h (gb1 c 9) (true :: (gst c ++ T)) (true :: T) := by
  cases c with
  | false => rfl
  | true => exact zt1 rfl (by show T.length + 1 ≤ h; omega)
theorem gst_l (c : Bool) : (gst c).length ≤ 1 := by cases c <;> decide
theorem gL_t {h : Nat} (r : Bool) (hV : ∀ j, 0 ≤ V j ∧ V j ≤ 999) : ∀ (f b : Nat) (e c : Bool) (k i : Nat) (a A : List Int) (T : List Bool), b ≤ 4 → T.length + 2 * (5 - b) + 3 ≤ h → ztR h a T (gst c ++ (gst e ++ T)) → (gL S V r f b e c k i a).2 = some A → ztR h A T (true :: T) := by
  intro f
  induction f with
  | zero => intro b e c k i a A T _ _ _ hg; cases hg
  | succ f ih =>
    intro b e c k i a A T hb hh ha hg
    by_cases h13 : S i = 13
    · rw [gL_not h13] at hg; exact ih b e c (k + 1) (i + 1) a A T hb hh ha hg
    · have l1 := gst_l c
      have l2 := gst_l e
      have hl : (gst c ++ (gst e ++ T)).length = (gst c).length + ((gst e).length + T.length) := by rw [List.length_append, List.length_append]
      have hl2 : (gst e ++ T).length = (gst e).length + T.length := List.length_append
      have ho : ∀ x, (gO S V r f b i).2 = some x → ztR h x (gst c ++ (gst e ++ T)) (true :: (gst c ++ (gst e ++ T))) := by
        intro x hx
        unfold gO at hx
        split at hx
        · split at hx
          · cases hv : (gL S V r f (b + 1) false false 0 (i + 1) []).2 with
            | none => rw [hv] at hx; cases hx
            | some o =>
              rw [hv] at hx
              dsimp only at hx
              split at hx
              · cases hx
                exact ih (b + 1) false false 0 (i + 1) [] _ (gst c ++ (gst e ++ T)) (by omega) (by omega) rfl hv
              · cases hx
          · cases hx
        · exact gC_t hV (by omega) hx
      cases hv : (gO S V r f b i).2 with
      | none => rw [gL_none h13 hv] at hg; cases hg
      | some x =>
        rw [gL_some h13 hv] at hg
        have t1 : ztR h (a ++ x ++ gnt r k ++ gb1 c 8) T (true :: (gst e ++ T)) := ztR_app (ztR_app (ztR_app ha (ho x hv)) (gnt_t r (by omega))) (gb8_t c (by omega))
        have t2 : ztR h (a ++ x ++ gnt r k ++ gb1 c 8 ++ gb1 e 9) T (true :: T) := ztR_app t1 (gb9_t e (by omega))
        split at hg
        · exact ih b e true 0 _ _ A T hb hh t1 hg
        · split at hg
          · exact ih b true false 0 _ _ A T hb hh t2 hg
          · cases hg; exact t2
/-- rows of wishes that say the same, and fit -/
def zWq (ws ws' : List (List Int)) : Prop := ws.length = ws'.length ∧ ∀ j : Nat, j < ws.length → ztR 32 (ws.getD j []) [] [true] ∧ ztR 230 (ws'.getD j []) [] [true] ∧ zZq (ws.getD j []) (ws'.getD j [])
theorem gW_q (hV : ∀ j, 0 ≤ V j ∧ V j ≤ 999) : ∀ (f n i : Nat) (ws ws' : List (List Int)), zWq ws ws' → gRel zWq (gW S V true f n i ws) (gW S V false f n i ws') := by
  intro f
  induction f with
  | zero => intro n i ws ws' _; exact ⟨rfl, fun A h => (by cases h), fun _ => rfl⟩
  | succ f ih =>
    intro n i ws ws' hw
    by_cases h : S i = 0
    · rw [gW_end h, gW_end h]
      exact ⟨rfl, fun A z => (by cases z; exact ⟨ws', rfl, hw⟩), fun z => (by cases z)⟩
    · by_cases h2 : n = 8 ∨ S i ≠ 10
      · rw [gW_no h h2, gW_no h h2]; exact ⟨rfl, fun A z => (by cases z), fun _ => rfl⟩
      · obtain ⟨p1, p2, p3⟩ := gL_q (S := S) (V := V) 222 0 false false 0 (i + 1) [] [] zZq.rf
        cases hg : (gL S V true 222 0 false false 0 (i + 1) []).2 with
        | none => rw [gW_bad h h2 hg, gW_bad h h2 (p3 hg)]; exact ⟨p1, fun A z => (by cases z), fun _ => rfl⟩
        | some A =>
          obtain ⟨A', q1, q2⟩ := p2 A hg
          rw [gW_ok h h2 hg, gW_ok h h2 q1, ← p1]
          split
          · refine ih _ _ _ _ ⟨by rw [List.length_append, List.length_append, hw.1]; rfl, fun j hj => ?_⟩
            rw [List.length_append] at hj
            have hj : j < ws.length + 1 := hj
            by_cases hjw : j = ws.length
            · have e1 : (ws ++ [A]).getD j [] = A := by subst hjw; simp [List.getD]
              have e2 : (ws' ++ [A']).getD j [] = A' := by rw [hjw, hw.1]; simp [List.getD]
              rw [e1, e2]
              exact ⟨gL_t true hV 222 0 false false 0 (i + 1) [] A [] (by omega) (by show 0 + 2 * (5 - 0) + 3 ≤ 32; omega) rfl hg, gL_t false hV 222 0 false false 0 (i + 1) [] A' [] (by omega) (by show 0 + 2 * (5 - 0) + 3 ≤ 230; omega) rfl q1, q2⟩
            · have h1 : j < ws.length := by omega
              have h1' : j < ws'.length := by rw [← hw.1]; exact h1
              have e1 : (ws ++ [A]).getD j [] = ws.getD j [] := by simp [List.getD, List.getElem?_append_left h1]
              have e2 : (ws' ++ [A']).getD j [] = ws'.getD j [] := by simp [List.getD, List.getElem?_append_left h1']
              rw [e1, e2]
              exact hw.2 j h1
          · exact ⟨rfl, fun A z => (by cases z), fun _ => rfl⟩
end G2
