/-! ===== SIZING ===== -/
def zsm (P : F2) (r : Int) : Int := zSm (zdg P r) (zoc P)
/-- the best row among the first ones; -1: none of them is met -/
noncomputable def zbr (P : F2) : Nat → Int
  | 0 => -1
  | r + 1 => if (zbr P r < 0 ∨ zsm P (r : Int) < zsm P (zbr P r)) ∧ zmiss (zRw P (zdg P (r : Int))) = 0 then (r : Int) else zbr P r
noncomputable def zbS (P : F2) (r : Nat) : Int := if zbr P r < 0 then -1 else zsm P (zbr P r)
theorem zbr_s (P : F2) (r : Nat) : zbr P (r + 1) = if (zbr P r < 0 ∨ zsm P (r : Int) < zsm P (zbr P r)) ∧ zmiss (zRw P (zdg P (r : Int))) = 0 then (r : Int) else zbr P r := rfl
theorem zbr_spec (P : F2) : ∀ r : Nat, (zbr P r < 0 → ∀ q : Nat, q < r → ¬ zmiss (zRw P (zdg P (q : Int))) = 0) ∧ (0 ≤ zbr P r → zbr P r < r ∧ zmiss (zRw P (zdg P (zbr P r))) = 0 ∧ ∀ q : Nat, q < r → zmiss (zRw P (zdg P (q : Int))) = 0 → zsm P (zbr P r) < zsm P q ∨ (zsm P (zbr P r) = zsm P q ∧ zbr P r ≤ q)) := by
  intro r
  induction r with
  | zero => exact ⟨fun _ q h => absurd h (Nat.not_lt_zero _), fun h => absurd h (by show ¬ (0 : Int) ≤ -1; decide)⟩
  | succ r ih =>
    obtain ⟨i1, i2⟩ := ih
    rw [zbr_s]
    by_cases z : (zbr P r < 0 ∨ zsm P (r : Int) < zsm P (zbr P r)) ∧ zmiss (zRw P (zdg P (r : Int))) = 0
    · rw [if_pos z]
      refine ⟨fun h => absurd h (by omega), fun _ => ⟨by omega, z.2, fun q hq hg => ?_⟩⟩
      by_cases e : q = r
      · subst e; exact Or.inr ⟨rfl, Int.le_refl _⟩
      · by_cases y : zbr P r < 0
        · exact absurd hg (i1 y q (by omega))
        · have := (i2 (by omega)).2.2 q (by omega) hg
          rcases z.1 with h | h
          · exact absurd h y
          · exact Or.inl (by omega)
    · rw [if_neg z]
      refine ⟨fun h q hq hg => ?_, fun h => ⟨by have := (i2 h).1; omega, (i2 h).2.1, fun q hq hg => ?_⟩⟩
      · by_cases e : q = r
        · subst e; exact z ⟨Or.inl h, hg⟩
        · exact i1 h q (by omega) hg
      · by_cases e : q = r
        · subst e
          have hb := (i2 h).1
          by_cases y : zsm P (q : Int) < zsm P (zbr P q)
          · exact absurd ⟨Or.inr y, hg⟩ z
          · by_cases y2 : zsm P (zbr P q) < zsm P (q : Int)
            · exact Or.inl y2
            · exact Or.inr ⟨by omega, by omega⟩
        · exact (i2 h).2.2 q (by omega) hg
theorem zbr_uni {P : F2} {R row : Nat} (h1 : row < R) (h2 : zmiss (zRw P (zdg P (row : Int))) = 0) (h3 : ∀ q : Nat, q < R → zmiss (zRw P (zdg P (q : Int))) = 0 → zsm P (row : Int) < zsm P q ∨ (zsm P (row : Int) = zsm P q ∧ row ≤ q)) : zbr P R = row := by
  obtain ⟨i1, i2⟩ := zbr_spec P R
  by_cases z : zbr P R < 0
  · exact absurd h2 (i1 z row h1)
  · obtain ⟨a, b, c⟩ := i2 (by omega)
    have e : ((zbr P R).toNat : Int) = zbr P R := by omega
    have c1 := c row h1 h2
    have c2 := h3 (zbr P R).toNat (by omega) (by rw [e]; exact b)
    rw [e] at c2
    omega
theorem zGe.fr {n : Int} {m m1 m2 : zM} {S : Int → Int → Prop} (h : zGe n m m1) (f : zFr S m1 m2) (hs : ∀ a k, S a k → zSe a k ∧ ¬ zSc a k) : zGe n m m2 := by
  have h18 : m2.1 98 18 = m1.1 98 18 := f.1 98 18 (fun q => (hs _ _ q).2 (by unfold zSc; omega))
  exact ⟨h.1.tr (f.mono (fun a k q => (hs a k q).1)), h.2.1.k (fun t => f.1 109 t (fun q => (hs _ _ q).2 (by unfold zSc; omega))) h18, by rw [h18]; exact h.2.2⟩
section ZS
variable {K : zCx} {P : F2} {m0 : zM}
def zFs (P : F2) (m0 m : zM) (r : Nat) (n : Int) : Prop := zGe n m0 m ∧ (∃ u, pv m.1 = zRw P u) ∧ m.1 98 39 = (zoc P : Int) ∧ (∀ j : Nat, j < zoc P → m.1 116 j = zop P j ∧ m.1 119 j = zp P (zop P j) 3) ∧ m.1 98 40 = zbS P r ∧ (0 ≤ zbr P r → ∀ j : Nat, j < zoc P → m.1 118 j = zdg P (zbr P r) j)
def zFq (P : F2) (m0 : zM) (s : Int) (m : zM) : Prop := s = (if zbr P (zRo P) < 0 then 0 else 1) ∧ zGd 2400 m0 m ∧ m.1 98 39 = (zoc P : Int) ∧ (∀ j : Nat, j < zoc P → m.1 116 j = zop P j) ∧ m.1 98 40 = zbS P (zRo P) ∧ (0 ≤ zbr P (zRo P) → ∀ j : Nat, j < zoc P → m.1 118 j = zdg P (zbr P (zRo P)) j)
theorem zsm_b (hW : zWf P) (hO : zoc P ≤ 4) (r : Int) : 0 ≤ zsm P r ∧ zsm P r ≤ 36 := by
  have := zSm_b (f := zdg P r) (zoc P) (fun i hi => by have := zdg_r (r := r) hW hi; omega)
  unfold zsm
  omega
theorem zbS_lt (hW : zWf P) (hO : zoc P ≤ 4) (r : Nat) : zbS P r < 0 ↔ zbr P r < 0 := by
  have := zsm_b hW hO (zbr P r)
  unfold zbS
  split <;> omega
theorem zRw_101 {u : Nat → Int} {m : zM} (h : pv m.1 = zRw P u) (k : Int) : m.1 101 k = P 101 k := by rw [pv_r h (by omega)]; exact zRw_ne (by decide)
theorem c_X10_findSizing {d : Nat} (hP : pv m0.1 = P) (hW : zWf P) (hWi : zWish P) (hO : zoc P ≤ 4) (hC : zCame m0) (hB : m0.1 98 18 ≤ 1000000000) : zCt K (d + 7) mX10_findSizing [rr K 98] m0 (zFq P m0) := by
  obtain ⟨-, hR1, hR2⟩ := zRo_b hW hO
  -- the end
  have fin : ∀ m, zFs P m0 m (zRo P) 2400 → zV K mX10_findSizing (d + 7) 46 [(0, rr K 98), (1, .int (iz 0))] [] m (zFq P m0) := by
    intro m hS
    obtain ⟨hG, ⟨u, hu⟩, h39, h116, h40, h118⟩ := hS
    refine vc_X10_findSizing_46 0 m (inRd rfl) (fun _ => ⟨fun _ => ?_, fun q => absurd rfl q⟩)
    refine (c_X10_setSizes (d := d + 5) (u := u) (v := fun j => zp P (zop P j) 3) (a1 := 119) (n1 := 4) rfl (by omega) (Or.inr rfl) hW hO hu h39 (fun j hj => (h116 j hj).1) (fun j hj => (h116 j hj).2)).mono (fun r2 m3 h => ?_)
    obtain ⟨-, f3, hm3⟩ := h
    rw [zRw_id hW (fun i hi => rfl)] at hm3
    have n3 : ∀ a k, ¬ a = 100 → m3.1 a k = m.1 a k := fun a k q => f3.1 a k q
    have hG3 : zGd 2400 m0 m3 := (hG.fr f3 (fun a k q => ⟨Or.inr q, by unfold zSc; omega⟩)).back (by rw [hm3, hP])
    intro _ _
    have e40 : m3.1 98 40 = zbS P (zRo P) := by rw [n3 _ _ (by omega)]; exact h40
    have hl := zbS_lt hW hO (zRo P)
    have rest : m3.1 98 39 = (zoc P : Int) ∧ (∀ j : Nat, j < zoc P → m3.1 116 j = zop P j) ∧ m3.1 98 40 = zbS P (zRo P) ∧ (0 ≤ zbr P (zRo P) → ∀ j : Nat, j < zoc P → m3.1 118 j = zdg P (zbr P (zRo P)) j) := ⟨by rw [n3 _ _ (by omega)]; exact h39, fun j hj => by rw [n3 _ _ (by omega)]; exact (h116 j hj).1, e40, fun z j hj => by rw [n3 _ _ (by omega)]; exact h118 z j hj⟩
    rw [e40]
    exact ⟨fun z => ⟨(if_pos (hl.mp z)).symm, hG3, rest⟩, fun z => ⟨(if_neg (fun y => z (hl.mpr y))).symm, hG3, rest⟩⟩
  have loop : ∀ (n r : Nat), r + (n + 1) = zRo P → ∀ m, zFs P m0 m r (9 * (r : Int)) → (∀ j : Nat, j < zoc P → m.1 117 j = zdg P (r : Int) j) → zV K mX10_findSizing (d + 7) 46 [(0, rr K 98), (1, .int (iz 1))] [] m (zFq P m0) := by
    intro n
    induction n with
    | zero | succ n ih =>
      intro r hr m hS h117
      obtain ⟨hG, ⟨u, hu⟩, h39, h116, h40, h118⟩ := hS
      have hl := zbS_lt hW hO r
      have hsb := zsm_b hW hO (r : Int)
      have hq0 : zqt P (zoc P) (r : Int) = 0 := (zqt_0 hW r).mpr (by omega)
      -- on to the next row
      have rise : ∀ m1, zFs P m0 m1 (r + 1) (9 * (r : Int) + 9) → (∀ j : Nat, j < zoc P → m1.1 117 j = zdg P (r : Int) j) → zCt K (d + 6) mX10_rises [rr K 98] m1 (fun s m2 => inR s → zok m2 → zV K mX10_findSizing (d + 7) 46 [(0, rr K 98), (1, .int (iz s))] [] m2 (zFq P m0)) := by
        intro m1 hS1 hd1
        obtain ⟨g1, ⟨u1, k1⟩, a39, a116, a40, a118⟩ := hS1
        refine (c_X10_rises (d := d + 5) (r := (r : Int)) (by omega) hW hO a39 (fun j hj => (a116 j hj).1) (zRw_101 k1) hd1).mono (fun s m2 h => ?_)
        obtain ⟨f2, hs⟩ := h
        intro _ _
        have n2 : ∀ a k, ¬ a = 117 → m2.1 a k = m1.1 a k := fun a k q => f2.1 a k q
        have hS2 : zFs P m0 m2 (r + 1) (9 * (r : Int) + 9) := ⟨g1.fr f2 (fun a k q => ⟨Or.inl (Or.inr (Or.inr (Or.inl (by omega)))), by unfold zSc; omega⟩), ⟨u1, by rw [← k1]; exact pv_eq (fun a k q => n2 a k (by omega))⟩, by rw [n2 _ _ (by omega)]; exact a39, fun j hj => by rw [n2 _ _ (by omega), n2 _ _ (by omega)]; exact a116 j hj, by rw [n2 _ _ (by omega)]; exact a40, fun z j hj => by rw [n2 _ _ (by omega)]; exact a118 z j hj⟩
        have hqr := zqt_0 hW (r + 1)
        rw [show ((r + 1 : Nat) : Int) = (r : Int) + 1 by omega] at hqr
        rcases hs with ⟨s1, hq, hd2⟩ | ⟨s0, hq⟩
        · rw [hq0] at hq
          have := hqr.mp hq
          first
          | omega
          | (rw [s1]
             exact ih (r + 1) (by omega) m2 ⟨hS2.1.le (by omega), hS2.2⟩ hd2)
        · have : ¬ r + 1 < zRo P := fun z => by have := hqr.mpr z; omega
          rw [s0]
          have hS3 := hS2
          rw [show r + 1 = zRo P by omega] at hS3
          exact fin m2 ⟨hS3.1.le (by omega), hS3.2⟩
      -- when the row is no better
      have skip : (¬ zbr P r < 0 ∧ zbS P r ≤ zsm P (r : Int)) → zFs P m0 m (r + 1) (9 * (r : Int) + 9) := by
        intro z
        have e : zbr P (r + 1) = zbr P r := by
          rw [zbr_s, if_neg]
          intro y
          have : zbS P r = zsm P (zbr P r) := if_neg z.1
          rcases y.1 with h | h
          · exact z.1 h
          · omega
        have eS : zbS P (r + 1) = zbS P r := by unfold zbS; rw [e]
        exact ⟨hG.le (by omega), ⟨u, hu⟩, h39, h116, by rw [eS]; exact h40, by rw [e]; exact h118⟩
      -- when it is tried
      have try1 : (zbr P r < 0 ∨ zsm P (r : Int) < zsm P (zbr P r)) → zCt K (d + 6) mX10_setSizes [rr K 98, rr K 117] m (fun r3 m4 => inR r3 → zok m4 → zCt K (d + 6) mX10_missing [rr K 98] m4 (fun r5 m6 => inR r5 → zok m6 → (r5 = 0 → ∀ m10 : zM, m10 = sI m6 98 40 (zsm P (r : Int)) → zok m10 → (zV K mX10_findSizing (d + 7) 114 [(0, rr K 98), (3, .int (iz 0))] [] m10 (zFq P m0))) ∧ (¬ (r5 = 0) → zCt K (d + 6) mX10_rises [rr K 98] m6 (fun r8 m9 => inR r8 → zok m9 → zV K mX10_findSizing (d + 7) 46 [(0, rr K 98), (1, .int (iz r8))] [] m9 (zFq P m0))))) := by
        intro zb
        refine (c_X10_setSizes (d := d + 5) (u := u) (v := zdg P (r : Int)) (a1 := 117) (n1 := 4) rfl (by omega) (Or.inl rfl) hW hO hu h39 (fun j hj => (h116 j hj).1) h117).mono (fun r3 m4 h => ?_)
        obtain ⟨-, f4, hm4⟩ := h
        have n4 : ∀ a k, ¬ a = 100 → m4.1 a k = m.1 a k := fun a k q => f4.1 a k q
        have hG4 := hG.fr f4 (fun a k q => ⟨Or.inr q, by unfold zSc; omega⟩)
        intro _ _
        refine (c_X10_missing (d := d) hm4 (zRw_wf hW (fun i hi => by have := zdg_r (r := (r : Int)) hW hi; omega)) (zRw_wish hWi) hG4.2.1 (by have := hG4.2.2; omega)).mono (fun r5 m6 h => ?_)
        obtain ⟨hr5, g6⟩ := h
        intro _ _
        have n6 : ∀ a k, ¬ zSc a k → ¬ a = 100 → m6.1 a k = m.1 a k := fun a k q q2 => by rw [g6.1.1 a k q, n4 a k q2]
        have hm6 : pv m6.1 = zRw P (zdg P (r : Int)) := g6.1.pv.trans hm4
        have hG6 := hG4.tr g6.e
        have b39 : m6.1 98 39 = (zoc P : Int) := by rw [n6 _ _ (by unfold zSc; omega) (by omega)]; exact h39
        have b116 : ∀ j : Nat, j < zoc P → m6.1 116 j = zop P j ∧ m6.1 119 j = zp P (zop P j) 3 := fun j hj => by rw [n6 _ _ (by unfold zSc; omega) (by omega), n6 _ _ (by unfold zSc; omega) (by omega)]; exact h116 j hj
        have b117 : ∀ j : Nat, j < zoc P → m6.1 117 j = zdg P (r : Int) j := fun j hj => by rw [n6 _ _ (by unfold zSc; omega) (by omega)]; exact h117 j hj
        refine ⟨fun z m10 e10 _ => ?_, fun z => rise m6 ⟨hG6, ⟨_, hm6⟩, b39, b116, ?_, fun y j hj => ?_⟩ b117⟩
        · have eb : zbr P (r + 1) = (r : Int) := by rw [zbr_s, if_pos ⟨zb, by rw [← hr5]; exact z⟩]
          have eS : zbS P (r + 1) = zsm P (r : Int) := by unfold zbS; rw [eb, if_neg (by omega)]
          have hG10 := hG6.put e10 (Or.inl (Or.inr (Or.inl (by omega)))) (by unfold zSc; omega)
          have cp : ∀ (n' k : Nat), k + n' = zoc P → ∀ m', zFr (fun a _ => a = 118) m10 m' → (∀ j : Nat, j < k → m'.1 118 j = zdg P (r : Int) j) → zV K mX10_findSizing (d + 7) 114 [(0, rr K 98), (3, .int (iz (k : Int)))] [] m' (zFq P m0) := by
            intro n'
            induction n' with
            | zero =>
              intro k hk m' hF' hj'
              have nn : ∀ a k, ¬ a = 118 → m'.1 a k = m10.1 a k := fun a k q => hF'.1 a k q
              have m10n : ∀ a k, ¬ (a = 98 ∧ k = 40) → m10.1 a k = m6.1 a k := fun a k q => by rw [e10, sI_ne (by omega)]
              have c39 : m'.1 98 39 = (zoc P : Int) := by rw [nn _ _ (by omega), m10n _ _ (by omega)]; exact b39
              refine vc_X10_findSizing_114 _ m' (inR_b (A := 100) (by omega) (by omega) rfl) (fun _ => ⟨fun _ => ?_, fun q => absurd (by omega) q⟩)
              refine rise m' ⟨hG10.fr hF' (fun a k q => ⟨Or.inl (Or.inr (Or.inr (Or.inl (by omega)))), by unfold zSc; omega⟩), ⟨zdg P (r : Int), ?_⟩, c39, fun j hj => ?_, ?_, fun y j hj => ?_⟩ (fun j hj => ?_)
              · rw [← hm6]; exact pv_eq (fun a k q => by rw [nn _ _ (by omega), m10n _ _ (by omega)])
              · rw [nn _ _ (by omega), m10n _ _ (by omega), nn _ _ (by omega), m10n _ _ (by omega)]; exact b116 j hj
              · rw [nn _ _ (by omega), e10, sI_eq, eS]
              · rw [eb]; exact hj' j (by omega)
              · rw [nn _ _ (by omega), m10n _ _ (by omega)]; exact b117 j hj
            | succ n' ih' =>
              intro k hk m' hF' hj'
              have nn : ∀ a k, ¬ a = 118 → m'.1 a k = m10.1 a k := fun a k q => hF'.1 a k q
              have m10n : ∀ a k, ¬ (a = 98 ∧ k = 40) → m10.1 a k = m6.1 a k := fun a k q => by rw [e10, sI_ne (by omega)]
              have c39 : m'.1 98 39 = (zoc P : Int) := by rw [nn _ _ (by omega), m10n _ _ (by omega)]; exact b39
              have c117 : m'.1 117 (k : Int) = zdg P (r : Int) k := by rw [nn _ _ (by omega), m10n _ _ (by omega)]; exact b117 k (by omega)
              refine vc_X10_findSizing_114 _ m' (inR_b (A := 100) (by omega) (by omega) rfl) (fun _ => ⟨fun q => absurd q (by omega), fun _ => ⟨by omega, by omega, fun m6' e6' _ => ih' (k + 1) (by omega) m6' (hF'.put e6' rfl) (fun j hj => ?_)⟩⟩)
              by_cases y : j = k
              · rw [y, e6', sI_eq]; exact c117
              · rw [e6', sI_ne (Or.inr (by omega))]; exact hj' j (by omega)
          exact cp (zoc P) 0 (by omega) m10 zFr.rf (fun j hj => absurd hj (Nat.not_lt_zero _))
        · have eb : zbr P (r + 1) = zbr P r := by rw [zbr_s, if_neg (fun y => z (by rw [hr5]; exact y.2))]
          have eS : zbS P (r + 1) = zbS P r := by unfold zbS; rw [eb]
          rw [eS, n6 _ _ (by unfold zSc; omega) (by omega)]
          exact h40
        · have eb : zbr P (r + 1) = zbr P r := by rw [zbr_s, if_neg (fun y => z (by rw [hr5]; exact y.2))]
          rw [eb] at y ⊢
          rw [n6 _ _ (by unfold zSc; omega) (by omega)]
          exact h118 y j hj
      -- the sum of the row
      have sum : ∀ (n' k : Nat), k + n' = zoc P → zV K mX10_findSizing (d + 7) 54 [(0, rr K 98), (2, .int (iz (zSm (zdg P (r : Int)) k))), (3, .int (iz (k : Int)))] [] m (zFq P m0) := by
        intro n'
        induction n' with
        | zero =>
          intro k hk
          have ek : k = zoc P := by omega
          have es : zSm (zdg P (r : Int)) k = zsm P (r : Int) := by rw [ek]; rfl
          rw [es]
          refine vc_X10_findSizing_54 _ _ m (inR_b (A := 100) (by omega) (by omega) rfl) (inR_b (A := 100) (by omega) (by omega) rfl) (fun _ => ⟨fun _ => ?_, fun q => absurd (by omega) q⟩)
          rw [h40]
          refine ⟨fun z => try1 (Or.inl (hl.mp z)), fun z => ?_⟩
          have hbs : zbS P r = zsm P (zbr P r) := if_neg (fun y => z (hl.mpr y))
          exact ⟨fun y => rise m (skip ⟨fun x => z (hl.mpr x), y⟩) h117, fun y => try1 (Or.inr (by omega))⟩
        | succ n' ih' =>
          intro k hk
          have hb := zSm_b (f := zdg P (r : Int)) k (fun i hi => by have := zdg_r (r := (r : Int)) hW (show i < zoc P by omega); omega)
          refine vc_X10_findSizing_54 _ _ m (inR_b (A := 100) (by omega) (by omega) rfl) (inR_b (A := 100) (by omega) (by omega) rfl) (fun _ => ⟨fun q => absurd q (by omega), fun _ => ⟨by omega, by omega, fun v26 e26 => ?_⟩⟩)
          rw [h117 k (by omega)] at e26
          rw [e26]
          exact ih' (k + 1) (by omega)
      exact vc_X10_findSizing_46 1 m (inRd rfl) (fun _ => ⟨fun q => absurd q (by decide), fun _ => sum (zoc P) 0 (by omega)⟩)
  refine zCt.of (by decide) (Nat.le_of_ble_eq_true rfl) (vc_X10_findSizing_0 (d := d) m0 (fun _ => ?_))
  refine (c_X10_gather (d := d + 4) hP hW hO).mono (fun r1 m2 h => ?_)
  obtain ⟨-, f2, h39, h116⟩ := h
  intro _ _
  have hG2 : zGe 0 m0 m2 := (zGe.rf hC).fr f2 (fun a k q => ⟨by unfold zSg at q; unfold zSe zSd; omega, by unfold zSg at q; unfold zSc; omega⟩)
  have hm2 : pv m2.1 = P := by rw [← hP]; exact pv_eq (fun a k q => f2.1 a k (by unfold zSg; omega))
  have ini : ∀ (n' k : Nat), k + n' = zoc P → ∀ m, zFr (fun a _ => a = 117) m2 m → (∀ j : Nat, j < k → m.1 117 j = zdg P ((0 : Nat) : Int) j) → zV K mX10_findSizing (d + 7) 6 [(0, rr K 98), (1, .int (iz (k : Int)))] [] m (zFq P m0) := by
    intro n'
    induction n' with
    | zero =>
      intro k hk m hF hj
      have nn : ∀ a k, ¬ a = 117 → m.1 a k = m2.1 a k := fun a k q => hF.1 a k q
      have c39 : m.1 98 39 = (zoc P : Int) := by rw [nn _ _ (by omega)]; exact h39
      refine vc_X10_findSizing_6 _ m (inR_b (A := 100) (by omega) (by omega) rfl) (fun _ => ⟨fun _ m3 e3 _ => ?_, fun q => absurd (by omega) q⟩)
      have m3n : ∀ a k, ¬ (a = 98 ∧ k = 40) → m3.1 a k = m.1 a k := fun a k q => by rw [e3, sI_ne (by omega)]
      refine loop (zRo P - 1) 0 (by omega) m3 ⟨((hG2.fr hF (fun a k q => ⟨Or.inl (Or.inr (Or.inr (Or.inl (by omega)))), by unfold zSc; omega⟩)).put e3 (Or.inl (Or.inr (Or.inl (by omega)))) (by unfold zSc; omega)).le (by omega), ⟨fun j => zp P (zop P j) 3, ?_⟩, by rw [m3n _ _ (by omega)]; exact c39, fun j hj' => by rw [m3n _ _ (by omega), m3n _ _ (by omega), nn _ _ (by omega), nn _ _ (by omega)]; exact h116 j hj', by rw [e3, sI_eq]; rfl, fun y => absurd y (by show ¬ (0 : Int) ≤ -1; decide)⟩ (fun j hj' => ?_)
      · rw [zRw_id hW (fun i hi => rfl), ← hm2]
        exact pv_eq (fun a k q => by rw [m3n _ _ (by omega), nn _ _ (by omega)])
      · rw [m3n _ _ (by omega)]; exact hj j (by omega)
    | succ n' ih' =>
      intro k hk m hF hj
      have nn : ∀ a k, ¬ a = 117 → m.1 a k = m2.1 a k := fun a k q => hF.1 a k q
      have c39 : m.1 98 39 = (zoc P : Int) := by rw [nn _ _ (by omega)]; exact h39
      have c116 : m.1 116 (k : Int) = zop P k := by rw [nn _ _ (by omega)]; exact (h116 k (by omega)).1
      have hp := zop_r hW (show k < zoc P by omega)
      have h4 := hW.2.2.2.1
      refine vc_X10_findSizing_6 _ m (inR_b (A := 100) (by omega) (by omega) rfl) (fun _ => ⟨fun q => absurd q (by omega), fun _ => ⟨by omega, by omega, ?_⟩⟩)
      rw [c116]
      refine ⟨by omega, by omega, fun m8 e8 _ => ih' (k + 1) (by omega) m8 (hF.put e8 rfl) (fun j hj' => ?_)⟩
      by_cases y : j = k
      · rw [y, e8, sI_eq, nn _ _ (by omega), pv_r hm2 (by omega)]
        have hz : ∀ i, zqt P i ((0 : Nat) : Int) = 0 := by
          intro i
          induction i with
          | zero => rfl
          | succ i ihz => rw [zqt_s, ihz, Int.zero_ediv]
        unfold zdg
        rw [hz, Int.zero_emod, Int.add_zero]
        rfl
      · rw [e8, sI_ne (Or.inr (by omega))]; exact hj j (by omega)
  exact ini (zoc P) 0 (by omega) m2 zFr.rf (fun j hj => absurd hj (Nat.not_lt_zero _))
end ZS
