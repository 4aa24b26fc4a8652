/-! ===== from a state on: the end, its pace and ring ===== -/
theorem pigeon : ∀ (N : Nat) (f : Nat → Nat) (n : Nat), (∀ i, i < n → f i < N) → (∀ i j, i < j → j < n → f i ≠ f j) → n ≤ N := by
  intro N
  induction N with
  | zero =>
    intro f n h _
    rcases Nat.eq_zero_or_pos n with h0 | h0
    · omega
    · exact absurd (h 0 h0) (by omega)
  | succ N ih =>
    intro f n h hd
    by_cases hx : ∃ i, i < n ∧ f i = N
    · obtain ⟨i0, hi, he⟩ := hx
      have := ih (fun i => if i < i0 then f i else f (i + 1)) (n - 1) (fun i hi2 => by
        show (if i < i0 then f i else f (i + 1)) < N
        split
        · have h1 := h i (by omega)
          have h2 := hd i i0 (by assumption) hi
          omega
        · have h1 := h (i + 1) (by omega)
          have h2 := hd i0 (i + 1) (by omega) (by omega)
          omega) (fun i j hij hj => by
        show (if i < i0 then f i else f (i + 1)) ≠ (if j < i0 then f j else f (j + 1))
        split
        · split
          · exact hd i j hij (by omega)
          · exact hd i (j + 1) (by omega) (by omega)
        · split
          · exact absurd hij (by omega)
          · exact hd (i + 1) (j + 1) (by omega) (by omega))
      omega
    · have := ih f n (fun i hi => by
        have h1 := h i hi
        rcases Nat.lt_or_ge (f i) N with h2 | h2
        · exact h2
        · exact absurd ⟨i, hi, by omega⟩ hx) hd
      omega
def zit (P : F2) (c s0 : Int) : Nat → Int
  | 0 => s0
  | n + 1 => ztick P c (zit P c s0 n)
theorem zit_le {P : F2} {c s0 : Int} (h : 0 ≤ s0 ∧ s0 ≤ 9260) : ∀ n, 0 ≤ zit P c s0 n ∧ zit P c s0 n ≤ 9260 := by
  intro n
  cases n with
  | zero => exact h
  | succ n => exact ztick_le _ _ _
def zEnd (P : F2) (c s0 : Int) (N j : Nat) : Prop := j < N ∧ zit P c s0 N = zit P c s0 j ∧ ∀ a b, a < b → b < N → zit P c s0 a ≠ zit P c s0 b
theorem zEnd_one {P : F2} {c s0 : Int} {N j N' j' : Nat} (h : zEnd P c s0 N j) (h' : zEnd P c s0 N' j') : N = N' ∧ j = j' := by
  obtain ⟨h1, h2, h3⟩ := h
  obtain ⟨g1, g2, g3⟩ := h'
  have hN : N = N' := by
    rcases Nat.lt_trichotomy N N' with q | q | q
    · exact absurd h2.symm (g3 j N h1 q)
    · exact q
    · exact absurd g2.symm (h3 j' N' g1 q)
  subst hN
  refine ⟨rfl, ?_⟩
  rcases Nat.lt_trichotomy j j' with q | q | q
  · exact absurd (h2.symm.trans g2) (h3 j j' q g1)
  · exact q
  · exact absurd (g2.symm.trans h2) (h3 j' j q h1)
noncomputable def zwalk (P : F2) (c s0 : Int) : Nat × Nat := @dite _ (∃ q : Nat × Nat, zEnd P c s0 q.1 q.2) (Classical.propDecidable _) (fun h => Classical.choose h) (fun _ => (0, 0))
theorem zwalk_eq {P : F2} {c s0 : Int} {N j : Nat} (h : zEnd P c s0 N j) : zwalk P c s0 = (N, j) := by
  have hx : ∃ q : Nat × Nat, zEnd P c s0 q.1 q.2 := ⟨(N, j), h⟩
  have h1 : zwalk P c s0 = Classical.choose hx := dif_pos hx
  have h2 := Classical.choose_spec hx
  rw [← h1] at h2
  obtain ⟨e1, e2⟩ := zEnd_one h2 h
  exact Prod.ext e1 e2
/-- THE END, PACE, RING in a corner from THE START on -/
noncomputable def zE (P : F2) (c : Int) : Int := zit P c (P 98 1) (zwalk P c (P 98 1)).1
noncomputable def zPa (P : F2) (c : Int) : Int := (zwalk P c (P 98 1)).2
noncomputable def zRg (P : F2) (c : Int) : Int := (zwalk P c (P 98 1)).1 - (zwalk P c (P 98 1)).2
def zCame (m : zM) : Prop := (∀ t, 0 ≤ t → t ≤ 9260 → m.1 109 t ≤ m.1 98 18) ∧ 0 ≤ m.1 98 18
section MG
variable {K : zCx} {P : F2} {c : Int} {m0 : zM}
theorem t_go_17 {d : Nat} {Q : Int → zM → Prop} {R : Int} (hP : pv m0.1 = P) (hW : zWf P) (hc : 0 ≤ c ∧ c ≤ 8) (hR : 0 ≤ R)
    (hQ : ∀ m', zFr zSc m0 m' → m'.1 98 18 = R → (∀ t, 0 ≤ t → t ≤ 9260 → m'.1 109 t ≤ R) → m'.1 98 19 = zE P c → m'.1 98 20 = zPa P c → m'.1 98 21 = zRg P c → Q 0 m') :
    ∀ (k n : Nat), n + k = 9262 → ∀ m : zM, zFr zSc m0 m → m.1 98 18 = R → (∀ t, 0 ≤ t → t ≤ 9260 → m.1 109 t ≤ R) → (∀ i, i < n → m.1 109 (zit P c (P 98 1) i) = R ∧ m.1 110 (zit P c (P 98 1) i) = i) → (∀ t, 0 ≤ t → t ≤ 9260 → m.1 109 t = R → ∃ i, i < n ∧ zit P c (P 98 1) i = t) → (∀ a b, a < b → b < n → zit P c (P 98 1) a ≠ zit P c (P 98 1) b) →
      zV K mX10_go (d + 4) 17 [(0, rr K 98), (1, .int (iz c)), (2, .int (iz (zit P c (P 98 1) n))), (3, .int (iz (n : Int)))] [] m Q := by
  have hst := hW.2.1
  have hil := fun n => zit_le (P := P) (c := c) hst n
  have hpig : ∀ n : Nat, (∀ a b, a < b → b < n → zit P c (P 98 1) a ≠ zit P c (P 98 1) b) → n ≤ 9261 := by
    intro n h
    refine pigeon 9261 (fun i => (zit P c (P 98 1) i).toNat) n (fun i _ => ?_) (fun a b h1 h2 q => h a b h1 h2 ?_)
    · have := hil i
      show (zit P c (P 98 1) i).toNat < 9261
      omega
    · have q : (zit P c (P 98 1) a).toNat = (zit P c (P 98 1) b).toNat := q
      have := hil a
      have := hil b
      omega
  intro k
  induction k with
  | zero =>
    intro n hn m hF hr hcm hmk hmr hds
    have := hpig n hds
    omega
  | succ k ih =>
    intro n hn m hF hr hcm hmk hmr hds
    have hn1 := hpig n hds
    have hs := hil n
    have hPm : pv m.1 = P := hF.pv.trans hP
    have sc : ∀ k, 18 ≤ k → k ≤ 21 → zSc 98 k := fun k a b => Or.inr (Or.inr ⟨rfl, a, b⟩)
    refine vc_X10_go_17 c _ n m (inR_b (A := 10) (by omega) (by omega) rfl) (inR_b (A := 9260) (by omega) (by omega) rfl) (inR_b (A := 10000) (by omega) (by omega) rfl) (fun hm => ⟨by omega, by omega, fun q m4 e4 _ m6 e6 _ => ?_, fun q m11 e11 _ m13 e13 _ => ?_⟩)
    · obtain ⟨j, hj, ej⟩ := hmr _ hs.1 hs.2 (q.trans hr)
      have hend : zEnd P c (P 98 1) n j := ⟨hj, ej.symm, hds⟩
      have hw := zwalk_eq hend
      have hb : m.1 110 (zit P c (P 98 1) n) = j := by rw [← ej]; exact (hmk j hj).2
      have h20 : m6.1 98 20 = j := by rw [e6, sI_eq, e4, sI_ne (Or.inl (by omega))]; exact hb
      rw [h20]
      refine ⟨inR_b (A := 10000) (by omega) (by omega) rfl, fun m9 e9 _ => ?_⟩
      refine hQ m9 (((hF.put e4 (sc _ (by omega) (by omega))).put e6 (sc _ (by omega) (by omega))).put e9 (sc _ (by omega) (by omega))) ?_ (fun t a b => ?_) ?_ ?_ ?_
      · rw [e9, sI_ne (Or.inr (by omega)), e6, sI_ne (Or.inr (by omega)), e4, sI_ne (Or.inr (by omega))]; exact hr
      · rw [e9, sI_ne (Or.inl (by omega)), e6, sI_ne (Or.inl (by omega)), e4, sI_ne (Or.inl (by omega))]; exact hcm t a b
      · rw [e9, sI_ne (Or.inr (by omega)), e6, sI_ne (Or.inr (by omega)), e4, sI_eq]; unfold zE; rw [hw]
      · rw [e9, sI_ne (Or.inr (by omega)), h20]; unfold zPa; rw [hw]
      · rw [e9, sI_eq]; unfold zRg; rw [hw]
    · have h13 : m13.1 98 18 = R := by rw [e13, sI_ne (Or.inl (by omega)), e11, sI_ne (Or.inl (by omega))]; exact hr
      have hF13 : zFr zSc m0 m13 := (hF.put e11 (Or.inl ⟨by omega, by omega⟩)).put e13 (Or.inl ⟨by omega, by omega⟩)
      have a13 : ∀ t, m13.1 109 t = if t = zit P c (P 98 1) n then R else m.1 109 t := by
        intro t
        rw [e13, sI_ne (Or.inl (by omega)), e11, sI_at, hr]
        by_cases ht : t = zit P c (P 98 1) n
        · simp [ht]
        · simp [ht]
      have b13 : ∀ t, m13.1 110 t = if t = zit P c (P 98 1) n then (n : Int) else m.1 110 t := by
        intro t
        rw [e13, sI_at, e11, sI_at]
        by_cases ht : t = zit P c (P 98 1) n
        · simp [ht]
        · simp [ht]
      refine (c_X10_ticks (d := d) (hF13.pv.trans hP) hW hs hc).mono (fun r m16 h => ?_)
      obtain ⟨hr16, hF16⟩ := h
      intro _ _
      subst hr16
      have nt : ∀ a k, ¬ (106 ≤ a ∧ a ≤ 108) → m16.1 a k = m13.1 a k := fun a k z => hF16.1 a k z
      refine ih (n + 1) (by omega) m16 (hF13.tr (hF16.mono zTk_Sc)) (by rw [nt _ _ (by omega)]; exact h13) (fun t a b => ?_) (fun i hi => ?_) (fun t a b e => ?_) (fun a b h1 h2 => ?_)
      · rw [nt _ _ (by omega), a13]
        split
        · omega
        · exact hcm t a b
      · rw [nt _ _ (by omega), nt _ _ (by omega), a13, b13]
        rcases Nat.lt_or_ge i n with h1 | h1
        · have h2 := hmk i h1
          have h3 : zit P c (P 98 1) i ≠ zit P c (P 98 1) n := fun z => q (by rw [← z, hr]; exact h2.1)
          rw [if_neg h3, if_neg h3]
          exact h2
        · have : i = n := by omega
          subst this
          rw [if_pos rfl, if_pos rfl]
          exact ⟨rfl, rfl⟩
      · rw [nt _ _ (by omega), a13] at e
        by_cases ht : t = zit P c (P 98 1) n
        · exact ⟨n, by omega, ht.symm⟩
        · rw [if_neg ht] at e
          obtain ⟨i, hi, he⟩ := hmr t a b e
          exact ⟨i, by omega, he⟩
      · rcases Nat.lt_or_ge b n with h3 | h3
        · exact hds a b h1 h3
        · have : b = n := by omega
          subst this
          intro z
          exact q (by rw [← z, hr]; exact (hmk a h1).1)
/-- go(corner) -/
theorem c_X10_go {d : Nat} (hP : pv m0.1 = P) (hW : zWf P) (hc : 0 ≤ c ∧ c ≤ 8) (hC : zCame m0) (hB : m0.1 98 18 ≤ 2000000000) : zCt K (d + 4) mX10_go [rr K 98, .int (iz c)] m0 (fun r m1 => r = 0 ∧ zFr zSc m0 m1 ∧ m1.1 98 18 = m0.1 98 18 + 1 ∧ zCame m1 ∧ m1.1 98 19 = zE P c ∧ m1.1 98 20 = zPa P c ∧ m1.1 98 21 = zRg P c) := by
  have hst := hW.2.1
  obtain ⟨hC1, hC0⟩ := hC
  refine zCt.of (by decide) (Nat.le_of_ble_eq_true rfl) (vc_X10_go_0 (d := d) c m0 (inR_b (A := 10) (by omega) (by omega) rfl) (fun hm => ⟨inR_b (A := 2000000001) (by omega) (by omega) rfl, fun m2 e2 _ v4 e4 => ?_⟩))
  have hF2 : zFr zSc m0 m2 := zFr.rf.put e2 (Or.inr (Or.inr ⟨rfl, by omega, by omega⟩))
  have hv : v4 = P 98 1 := by rw [e4]; exact pv_f (hF2.pv.trans hP) (by omega)
  subst hv
  refine t_go_17 (R := m0.1 98 18 + 1) hP hW hc (by omega) (fun m' g1 g2 g3 g4 g5 g6 => ⟨rfl, g1, g2, ⟨fun t a b => by rw [g2]; exact g3 t a b, by omega⟩, g4, g5, g6⟩) 9262 0 (by omega) m2 hF2 (by rw [e2, sI_eq]) (fun t a b => ?_) (fun i hi => absurd hi (by omega)) (fun t a b e => ?_) (fun a b h1 h2 => absurd h2 (by omega))
  · rw [e2, sI_ne (Or.inl (by omega))]
    have := hC1 t a b
    omega
  · rw [e2, sI_ne (Or.inl (by omega))] at e
    have := hC1 t a b
    omega
end MG
