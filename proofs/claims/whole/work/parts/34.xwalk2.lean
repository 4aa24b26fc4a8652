/-! ===== the class: walk ===== -/
theorem zit_add {P : F2} {c s0 : Int} {N j : Nat} (h : zit P c s0 N = zit P c s0 j) : ∀ k, zit P c s0 (N + k) = zit P c s0 (j + k) := by
  intro k
  induction k with
  | zero => exact h
  | succ k ih => show ztick P c (zit P c s0 (N + k)) = ztick P c (zit P c s0 (j + k)); rw [ih]
section XV
variable {K : zCx} {P : F2} {c : Int} {m0 : zM}
theorem c_fillL {d : Nat} {a : Int} {n : Nat} (ha : zsh a = some (1, n)) (hn : n ≤ 100000) : zCt K (d + 1) mJ7_fill_d0a16 [rr K a, .long (0 : Int64)] m0 (fun r m1 => r = 0 ∧ m1.1 = m0.1 ∧ m1.2.2 = m0.2.2 ∧ (∀ b k, ¬ b = a → m1.2.1 b k = m0.2.1 b k) ∧ ∀ k, 0 ≤ k → k < (n : Int) → m1.2.1 a k = 0) := by
  have loop : ∀ (q : Nat) (k : Int), 0 ≤ k → k + q = n → ∀ m : zM, m.1 = m0.1 → m.2.2 = m0.2.2 → (∀ b k, ¬ b = a → m.2.1 b k = m0.2.1 b k) → (∀ j, 0 ≤ j → j < k → m.2.1 a j = 0) → zV K mJ7_fill_d0a16 (d + 1) 6 [(0, rr K a), (1, .long (0 : Int64)), (3, .int (iz k)), (4, .int (iz (n : Int)))] [] m (fun r m1 => r = 0 ∧ m1.1 = m0.1 ∧ m1.2.2 = m0.2.2 ∧ (∀ b k, ¬ b = a → m1.2.1 b k = m0.2.1 b k) ∧ ∀ k, 0 ≤ k → k < (n : Int) → m1.2.1 a k = 0) := by
    intro q
    induction q with
    | zero =>
      intro k hk0 hk m h1 h2 h3 hj
      refine vc_J7_fill_d0a16_6 0 k n a n m (inR_b (A := 100000) (by omega) (by omega) rfl) (inR_b (A := 100000) (by omega) (by omega) rfl) ha (fun _ => ⟨fun _ => ⟨rfl, h1, h2, h3, fun j x y => hj j x (by omega)⟩, fun z => absurd (by omega) z⟩)
    | succ q ih =>
      intro k hk0 hk m h1 h2 h3 hj
      refine vc_J7_fill_d0a16_6 0 k n a n m (inR_b (A := 100000) (by omega) (by omega) rfl) (inR_b (A := 100000) (by omega) (by omega) rfl) ha (fun _ => ⟨fun z => absurd z (by omega), fun _ => ⟨hk0, by omega, fun m4 e4 _ => ?_⟩⟩)
      refine ih (k + 1) (by omega) (by omega) m4 (by rw [e4]; exact h1) (by rw [e4]; exact h2) (fun b j q => ?_) (fun j x y => ?_)
      · rw [e4, sL_at, if_neg (fun z => q z.1)]; exact h3 b j q
      · rw [e4, sL_at]
        by_cases hjk : j = k
        · simp [hjk]
        · simp [hjk]; exact hj j x (by omega)
  refine zCt.of (by decide) (Nat.le_of_ble_eq_true rfl) (vc_J7_fill_d0a16_0 (d := d) a n 0 m0 ha (fun _ v1 e1 => ?_))
  rw [e1]
  exact loop n 0 (by omega) (by omega) m0 rfl rfl (fun _ _ _ => rfl) (fun j x y => absurd y (by omega))
/-- behind a walk -/
def zWk (P : F2) (c : Int) (m m1 : zM) : Prop := zFl zBS m m1 ∧ m1.2.2 = m.2.2 ∧ zBe m1 P c ∧ zLs m1 P (zE P c) ∧ m1.1 39 12 = zE P c ∧ m1.1 39 13 = zPa P c ∧ m1.1 39 14 = zRg P c
theorem t_walk_94 {d : Nat} {Q : Int → zM → Prop} {N j : Nat} (hW : zWf P) (hc : 0 ≤ c ∧ c ≤ 8) (hend : zEnd P c (P 98 1) (N + 1) j) (hN : N + 1 ≤ 9261) (hQ : ∀ m', zWk P c m0 m' → Q 0 m') :
    ∀ (q r : Nat), r + q = N + 1 - j → 1 ≤ r → ∀ m : zM, zFl zBS m0 m → m.2.2 = m0.2.2 → zBe m P c → zLs m P (zit P c (P 98 1) (N + 1 + r)) →
      zV K mX1_walk (d + 3) 94 [(0, rr K 39), (3, .int (iz (N : Int))), (4, .int (iz (zit P c (P 98 1) (N + 1)))), (5, .int (iz (r : Int)))] [] m Q := by
  have hj := hend.1
  have hil := fun n => zit_le (P := P) (c := c) hW.2.1 n
  have hw := zwalk_eq hend
  have hper := zit_add hend.2.1
  intro q
  have fin : ∀ (r : Nat) (m : zM), r = N + 1 - j → zFl zBS m0 m → m.2.2 = m0.2.2 → zBe m P c → zLs m P (zit P c (P 98 1) (N + 1 + r)) → ∀ m2 m4 m7 : zM, m2 = sI m 39 12 (zit P c (P 98 1) (N + 1)) → m4 = sI m2 39 14 (r : Int) → m7 = sI m4 39 13 ((N : Int) + 1 - r) → Q 0 m7 := by
    intro r m hr hF hT hB hL m2 m4 m7 e2 e4 e7
    have es : zit P c (P 98 1) (N + 1 + r) = zE P c := by
      unfold zE
      rw [hw, hper r, show j + r = N + 1 by omega]
    have ee : zE P c = zit P c (P 98 1) (N + 1) := by unfold zE; rw [hw]
    rw [es] at hL
    have b39 : ∀ k, zBS 39 k := fun k => ⟨by omega, by omega⟩
    have n7 : ∀ a k, ¬ (a = 39 ∧ 12 ≤ k) → m7.1 a k = m.1 a k := by
      intro a k z
      rw [e7, sI_ne (by omega), e4, sI_ne (by omega), e2, sI_ne (by omega)]
    refine hQ m7 ⟨((hF.put e2 (b39 _)).put e4 (b39 _)).put e7 (b39 _), by rw [e7, e4, e2]; exact hT, hB.kept (fun a k z => n7 a k (by omega)) (by rw [e7, e4, e2]; rfl), fun n a b => by rw [n7 _ _ (by omega)]; exact hL n a b, ?_, ?_, ?_⟩
    · rw [e7, sI_ne (Or.inr (by omega)), e4, sI_ne (Or.inr (by omega)), e2, sI_eq]; exact ee.symm
    · rw [e7, sI_eq]; unfold zPa; rw [hw]; show (N : Int) + 1 - r = (j : Int); omega
    · rw [e7, sI_ne (Or.inr (by omega)), e4, sI_eq]; unfold zRg; rw [hw]; show (r : Int) = ((N + 1 : Nat) : Int) - (j : Int); omega
  induction q with
  | zero =>
    intro r hr h1 m hF hT hB hL
    have hi := hil (N + 1)
    have hi2 := hil (N + 1 + r)
    have l2 := hL 2 (by omega) (by omega)
    have l3 := hL 3 (by omega) (by omega)
    have l4 := hL 4 (by omega) (by omega)
    have z2 := zlv_le hW hi2 2
    have z3 := zlv_le hW hi2 3
    have z4 := zlv_le hW hi2 4
    have est := zlv_state (P := P) hi2
    have hre : r = N + 1 - j := by omega
    have eqs : zit P c (P 98 1) (N + 1 + r) = zit P c (P 98 1) (N + 1) := by rw [hper r, show j + r = N + 1 by omega]
    refine vc_X1_walk_94 N _ r m (inR_b (A := 10000) (by omega) (by omega) rfl) (inR_b (A := 10000) (by omega) (by omega) rfl) (inR_b (A := 10000) (by omega) (by omega) rfl) (fun _ => ⟨fun _ m2 e2 _ m4 e4 _ => ⟨inR_b (A := 10000) (by omega) (by omega) rfl, fun m7 e7 _ => fin r m hre hF hT hB hL m2 m4 m7 e2 e4 e7⟩, fun _ => ?_⟩)
    rw [l2, l3, l4]
    refine ⟨z2, z3, z4, fun _ m2 e2 _ m4 e4 _ => ⟨inR_b (A := 10000) (by omega) (by omega) rfl, fun m7 e7 _ => fin r m hre hF hT hB hL m2 m4 m7 e2 e4 e7⟩, fun z => absurd (by rw [est, eqs]) z⟩
  | succ q ih =>
    intro r hr h1 m hF hT hB hL
    have hi := hil (N + 1)
    have hi2 := hil (N + 1 + r)
    have l2 := hL 2 (by omega) (by omega)
    have l3 := hL 3 (by omega) (by omega)
    have l4 := hL 4 (by omega) (by omega)
    have z2 := zlv_le hW hi2 2
    have z3 := zlv_le hW hi2 3
    have z4 := zlv_le hW hi2 4
    have est := zlv_state (P := P) hi2
    have hne : zit P c (P 98 1) (N + 1 + r) ≠ zit P c (P 98 1) (N + 1) := by
      rw [hper r, hend.2.1]
      exact fun z => hend.2.2 j (j + r) (by omega) (by omega) z.symm
    refine vc_X1_walk_94 N _ r m (inR_b (A := 10000) (by omega) (by omega) rfl) (inR_b (A := 10000) (by omega) (by omega) rfl) (inR_b (A := 10000) (by omega) (by omega) rfl) (fun _ => ⟨fun z => absurd z (by omega), fun _ => ?_⟩)
    rw [l2, l3, l4]
    refine ⟨z2, z3, z4, fun z => absurd (by rw [est] at z; exact z) hne, fun _ => ?_⟩
    refine (c_X1_move (d := d) hW hB hc hi2 hL).mono (fun _ m3 h => ?_)
    obtain ⟨-, hf, hL3⟩ := h
    intro _ _
    have n3 : ∀ a k, ¬ (a = 40 ∨ a = 41) → m3.1 a k = m.1 a k := fun a k z => hf.1 a k z
    exact ih (r + 1) (by omega) (by omega) m3 (hF.tr (hf.l.mono (fun a k z => by rcases z with z | z <;> exact ⟨by omega, by omega⟩))) (by rw [hf.2]; exact hT) (hB.kept (fun a k z => n3 a k (by omega)) (by rw [hf.2])) hL3
theorem t_walk_17 {d : Nat} {Q : Int → zM → Prop} (hW : zWf P) (hc : 0 ≤ c ∧ c ≤ 8) (hQ : ∀ m', zWk P c m0 m' → Q 0 m') :
    ∀ (k n : Nat), n + k = 9262 → ∀ m : zM, zFl zBS m0 m → m.2.2 = m0.2.2 → zBe m P c → zLs m P (zit P c (P 98 1) n) → (∀ t, 0 ≤ t → t ≤ 9260 → (zseen m t = true ↔ ∃ i, i < n ∧ zit P c (P 98 1) i = t)) → (∀ a b, a < b → b ≤ n → zit P c (P 98 1) a ≠ zit P c (P 98 1) b) →
      zV K mX1_walk (d + 3) 17 [(0, rr K 39), (2, .int (iz (zit P c (P 98 1) n))), (3, .int (iz (n : Int)))] [] m Q := by
  have hil := fun n => zit_le (P := P) (c := c) hW.2.1 n
  have hpig : ∀ n : Nat, (∀ a b, a < b → b ≤ n → zit P c (P 98 1) a ≠ zit P c (P 98 1) b) → n + 1 ≤ 9261 := by
    intro n h
    refine pigeon 9261 (fun i => (zit P c (P 98 1) i).toNat) (n + 1) (fun i _ => ?_) (fun a b h1 h2 q => h a b h1 (by omega) ?_)
    · have := hil i
      show (zit P c (P 98 1) i).toNat < 9261
      omega
    · have q : (zit P c (P 98 1) a).toNat = (zit P c (P 98 1) b).toNat := q
      have := hil a
      have := hil b
      omega
  intro k
  induction k with
  | zero =>
    intro n hn m hF hT hB hL hsn hds
    have := hpig n hds
    omega
  | succ k ih =>
    intro n hn m hF hT hB hL hsn hds
    have hn1 := hpig n hds
    have hs := hil n
    have hs1 := hil (n + 1)
    have d1 : Int.tdiv (zit P c (P 98 1) n) 64 = zit P c (P 98 1) n / 64 := Int.tdiv_eq_ediv_of_nonneg hs.1
    have d2 : Int.tdiv (zit P c (P 98 1) (n + 1)) 64 = zit P c (P 98 1) (n + 1) / 64 := Int.tdiv_eq_ediv_of_nonneg hs1.1
    refine vc_X1_walk_17 _ n m (inR_b (A := 10000) (by omega) (by omega) rfl) (inR_b (A := 10000) (by omega) (by omega) rfl) (fun _ => ⟨fun z => absurd z (by omega), fun _ => ⟨by rw [d1]; omega, by rw [d1]; omega, fun m4 e4 _ => ?_⟩⟩)
    have s4 : ∀ t, 0 ≤ t → zseen m4 t = (zseen m t || decide (zit P c (P 98 1) n = t)) := fun t ht => zseen_set hs.1 e4 ht
    have i4 : m4.1 = m.1 := by rw [e4]; rfl
    have t4 : m4.2.2 = m.2.2 := by rw [e4]; rfl
    have hB4 : zBe m4 P c := hB.kept (fun a k _ => by rw [i4]) t4
    have hL4 : zLs m4 P (zit P c (P 98 1) n) := fun n a b => by rw [i4]; exact hL n a b
    have f4 : zFl zBS m0 m4 := hF.putL e4 ⟨by omega, by omega⟩
    refine (c_X1_move (d := d) hW hB4 hc hs hL4).mono (fun _ m7 h => ?_)
    obtain ⟨-, hf, hL7⟩ := h
    intro _ _
    have hL7 : zLs m7 P (zit P c (P 98 1) (n + 1)) := hL7
    have n7 : ∀ a k, ¬ (a = 40 ∨ a = 41) → m7.1 a k = m4.1 a k := fun a k z => hf.1 a k z
    have l7 : m7.2 = m4.2 := hf.2
    have hB7 : zBe m7 P c := hB4.kept (fun a k z => n7 a k (by omega)) (by rw [l7])
    have f7 : zFl zBS m0 m7 := f4.tr (hf.l.mono (fun a k z => by rcases z with z | z <;> exact ⟨by omega, by omega⟩))
    have t7 : m7.2.2 = m0.2.2 := by rw [l7, t4]; exact hT
    have s7 : ∀ t, 0 ≤ t → t ≤ 9260 → (zseen m7 t = true ↔ ∃ i, i < n + 1 ∧ zit P c (P 98 1) i = t) := by
      intro t a b
      have : zseen m7 t = zseen m4 t := by unfold zseen; rw [l7]
      rw [this, s4 t a]
      constructor
      · intro z
        rcases Bool.or_eq_true _ _ |>.mp z with z | z
        · obtain ⟨i, hi, he⟩ := (hsn t a b).mp z
          exact ⟨i, by omega, he⟩
        · exact ⟨n, by omega, of_decide_eq_true z⟩
      · intro ⟨i, hi, he⟩
        rcases Nat.lt_or_ge i n with h1 | h1
        · rw [(hsn t a b).mpr ⟨i, h1, he⟩]; rfl
        · have : i = n := by omega
          subst this
          rw [decide_eq_true he, Bool.or_true]
    have l2 := hL7 2 (by omega) (by omega)
    have l3 := hL7 3 (by omega) (by omega)
    have l4 := hL7 4 (by omega) (by omega)
    rw [l2, l3, l4]
    refine ⟨zlv_le hW hs1 2, zlv_le hW hs1 3, zlv_le hW hs1 4, fun v13 e13 => ?_⟩
    rw [zlv_state hs1] at e13
    subst e13
    -- the end is found: n + 1
    have found : ∀ j, j ≤ n → zit P c (P 98 1) (n + 1) = zit P c (P 98 1) j → zEnd P c (P 98 1) (n + 1) j := fun j hj he => ⟨by omega, he, fun a b h1 h2 => hds a b h1 (by omega)⟩
    have again : ∀ j, j ≤ n → zit P c (P 98 1) (n + 1) = zit P c (P 98 1) j → ¬ zit P c (P 98 1) (n + 1) = zit P c (P 98 1) n → zCt K (d + 2) mX1_move [rr K 39] m7 (fun r17 m18 => inR r17 → zok m18 → zV K mX1_walk (d + 3) 94 [(0, rr K 39), (3, .int (iz (n : Int))), (4, .int (iz (zit P c (P 98 1) (n + 1)))), (5, .int (iz 1))] [] m18 Q) := by
      intro j hj he hne
      refine (c_X1_move (d := d) hW hB7 hc hs1 hL7).mono (fun _ m8 h => ?_)
      obtain ⟨-, hf8, hL8⟩ := h
      intro _ _
      have n8 : ∀ a k, ¬ (a = 40 ∨ a = 41) → m8.1 a k = m7.1 a k := fun a k z => hf8.1 a k z
      exact t_walk_94 hW hc (found j hj he) hn1 hQ (n + 1 - j - 1) 1 (by omega) (by omega) m8 (f7.tr (hf8.l.mono (fun a k z => by rcases z with z | z <;> exact ⟨by omega, by omega⟩))) (by rw [hf8.2]; exact t7) (hB7.kept (fun a k z => n8 a k (by omega)) (by rw [hf8.2])) hL8
    refine ⟨fun q => ⟨fun _ => ?_, fun z => absurd q z⟩, fun q => ⟨by rw [d2]; omega, by rw [d2]; omega, fun z => ?_, fun z => ⟨fun z2 => absurd z2 q, fun _ => ?_⟩⟩⟩
    · have hfix : zit P c (P 98 1) (n + 1 + 1) = zit P c (P 98 1) (n + 1) := by
        show ztick P c (zit P c (P 98 1) (n + 1)) = _
        rw [q]
        exact q
      refine t_walk_94 hW hc (found n (Nat.le_refl n) q) hn1 hQ (n + 1 - n - 1) 1 (by omega) (by omega) m7 f7 t7 hB7 ?_
      rw [hfix]
      exact hL7
    · have hns : zseen m7 (zit P c (P 98 1) (n + 1)) = false := (zseen_test hs1.1).mp z
      have hno : ¬ ∃ i, i < n + 1 ∧ zit P c (P 98 1) i = zit P c (P 98 1) (n + 1) := fun hx => by
        rw [(s7 _ hs1.1 hs1.2).mpr hx] at hns
        cases hns
      refine ih (n + 1) (by omega) m7 f7 t7 hB7 hL7 s7 (fun a b h1 h2 => ?_)
      rcases Nat.lt_or_ge b (n + 1) with h3 | h3
      · exact hds a b h1 (by omega)
      · have : b = n + 1 := by omega
        subst this
        exact fun z => hno ⟨a, h1, z⟩
    · have hys : zseen m7 (zit P c (P 98 1) (n + 1)) = true := by
        cases hb : zseen m7 (zit P c (P 98 1) (n + 1)) with
        | true => rfl
        | false => exact absurd ((zseen_test hs1.1).mpr hb) z
      obtain ⟨i, hi, he⟩ := (s7 _ hs1.1 hs1.2).mp hys
      exact again i (by omega) he.symm q
/-- walk(from), from THE START -/
theorem c_X1_walk {d : Nat} (hW : zWf P) (hB : zBe m0 P c) (hc : 0 ≤ c ∧ c ≤ 8) (h0 : m0.1 40 0 = 0) (h1 : m0.1 40 1 = P 98 0) : zCt K (d + 3) mX1_walk [rr K 39, .int (iz (P 98 1))] m0 (fun r m1 => r = 0 ∧ zWk P c m0 m1) := by
  have hst := hW.2.1
  refine zCt.of (by decide) (Nat.le_of_ble_eq_true rfl) (vc_X1_walk_0 (d := d) _ m0 (inR_b (A := 10000) (by omega) (by omega) rfl) (fun _ => ?_))
  refine (c_fillL (d := d + 1) (a := 50) (n := 145) rfl (by decide)).mono (fun _ m2 h => ?_)
  obtain ⟨-, i2, t2, o2, z2⟩ := h
  intro _ _
  refine (c_X1_place (d := d + 1) hst (by rw [i2]; exact h0) (by rw [i2]; exact h1)).mono (fun _ m4 h => ?_)
  obtain ⟨-, hf4, hL4⟩ := h
  intro _ _
  have n4 : ∀ a k, ¬ (a = 40 ∨ a = 41) → m4.1 a k = m0.1 a k := fun a k z => by rw [hf4.1 a k z, i2]
  have f4 : zFl zBS m0 m4 := by
    refine ⟨fun a k z => n4 a k (fun w => z (by rcases w with w | w <;> exact ⟨by omega, by omega⟩)), fun a k z => ?_⟩
    rw [hf4.2]
    exact o2 a k (fun w => z ⟨by omega, by omega⟩)
  have t4 : m4.2.2 = m0.2.2 := by rw [hf4.2]; exact t2
  refine t_walk_17 hW hc (fun m' h => ⟨rfl, h⟩) 9262 0 (by omega) m4 f4 t4 (hB.kept (fun a k z => n4 a k (by omega)) t4) hL4 (fun t a b => ?_) (fun a b h1 h2 => absurd h2 (by omega))
  have : zseen m4 t = false := by
    unfold zseen
    rw [hf4.2, z2 _ (by omega) (by omega)]
    exact zsb_zero _
  rw [this]
  exact ⟨(fun z => by cases z), (fun ⟨i, hi, _⟩ => absurd hi (by omega))⟩
end XV
