theorem zCt.ofF {K : zCx} {d : Nat} {mi : zMi} {as : List Value} {m : zM} {Q : Int → zM → Prop} (hp : plainFor mi.1 = true) (hl : (lg_sl as).length ≤ mi.2.2.1) (h : zV K mi d 0 (lv_args 0 as) [] m Q) : zCt K d mi as m Q := by
  unfold zCt Met
  refine MetFree.of_bodySF (code := mi.2.1) (maxLocals := mi.2.2.1) (ret := mi.2.2.2) hp ?_ ?_
  · intro args s m h hn
    obtain ⟨meth, c, h1, h2, h3, h4, h5, h6, -, -⟩ := Cond.code_spec hn (atoms_spec (ws := zws1 mi) h _ List.mem_cons_self)
    exact ⟨meth, c, h1, h2, h3, h4, h5, h6⟩
  · intro p e s mt args below meth c s₁ B hml hv _
    have hh0 : s₁.heap = s.heap := by rw [B.state]; rfl
    obtain ⟨rfl, hR, hK⟩ := hv
    have hts := atoms_spec (ws := zws1 mi) B.pre
    have body := h p e s mt _ below meth c ⟨B.exec, B.bytes, B.returns, hml, findClass_of_methodNamed B.named, fun w hw => hts w (List.mem_cons_of_mem _ hw), B.notSynchronized, hK⟩ _ _ _ hR (lv_entry as hl)
    rw [← lg_entry_eq] at body
    obtain ⟨t, a1, o, b1, b2, b3⟩ := body s₁ hh0 (Stand.of_body B)
    exact ⟨t, o, a1, b1, b2, ⟨b3.1, b3.2⟩⟩
theorem pfMax : plainFor mJ9_max_7cf53.1 = true := by decide +kernel
theorem pfFm : plainFor mJ9_floorMod_7cf53.1 = true := by decide +kernel
section XR
variable {K : zCx} {P : F2} {c : Int} {m0 : zM}
theorem c_J9_max {d : Nat} {a b : Int} (ia : inR a) (ib : inR b) : zCt K (d + 1) mJ9_max_7cf53 [.int (iz a), .int (iz b)] m0 (fun r m1 => r = zmx a b ∧ m1 = m0) :=
  zCt.ofF pfMax (Nat.le_of_ble_eq_true rfl) (vc_J9_max_7cf53_0 (d := d) a b m0 ia ib (fun _ => ⟨fun q => ⟨(if_pos q).symm, rfl⟩, fun q => ⟨(if_neg q).symm, rfl⟩⟩))
def zSo (a _k : Int) : Prop := a = 53 ∨ a = 54
theorem zBe.so {m m' : zM} (h : zBe m P c) (hf : ∀ a k, ¬ (a = 40 ∨ a = 41 ∨ (52 ≤ a ∧ a ≤ 55)) → m'.1 a k = m.1 a k) (hT : m'.2.2 = m.2.2) : zBe m' P c := by
  obtain ⟨h1, h2, h3, h4, h5⟩ := h
  have n40 : m.2.2 ≠ 40 := fun z => by rw [z] at h2; exact absurd h2 (by decide)
  have n41 : m.2.2 ≠ 41 := fun z => by rw [z] at h2; exact absurd h2 (by decide)
  have n52 : m.2.2 ≠ 52 := fun z => by rw [z] at h2; exact absurd h2 (by decide)
  have n53 : m.2.2 ≠ 53 := fun z => by rw [z] at h2; exact absurd h2 (by decide)
  have n54 : m.2.2 ≠ 54 := fun z => by rw [z] at h2; exact absurd h2 (by decide)
  have n55 : m.2.2 ≠ 55 := fun z => by rw [z] at h2; exact absurd h2 (by decide)
  refine ⟨by rw [hf _ _ (by omega)]; exact h1, by rw [hT]; exact h2, fun i a b => by rw [hT, hf _ _ (by omega)]; exact h3 i a b, fun p a b => ?_, fun n a b => by rw [hf _ _ (by omega)]; exact h5 n a b⟩
  obtain ⟨q1, q2, q3, q4, q5⟩ := h4 p a b
  exact ⟨by rw [hf _ _ (by omega)]; exact q1, by rw [hf _ _ (by omega)]; exact q2, by rw [hf _ _ (by omega)]; exact q3, fun z => by rw [hf _ _ (by omega)]; exact q4 z, fun z => by rw [hf _ _ (by omega), hf _ _ (by omega), hf _ _ (by omega), hf _ _ (by omega)]; exact q5 z⟩
theorem t_order_22 {d : Nat} {Q : Int → zM → Prop} (hW : zWf P) (hB : zBe m0 P c)
    (hQ : ∀ m', zFr zSo m0 m' → (∀ p, 0 ≤ p → p < P 98 4 → m'.1 53 p = zkn P p) → (∀ n, 0 ≤ n → n ≤ 4 → m'.1 54 n = zst P n (P 98 4).toNat) → Q 0 m') :
    ∀ (n k : Nat), (k : Int) + n = P 98 4 → ∀ m : zM, zFr zSo m0 m → (∀ p, 0 ≤ p → p < (k : Int) → m.1 53 p = zkn P p) → (∀ n, 0 ≤ n → n ≤ 4 → m.1 54 n = zst P n k) → zV K mX6_order (d + 2) 22 [(0, rr K 52), (1, rr K 39), (2, .int (iz (k : Int)))] [] m Q := by
  have h4 := hW.2.2.2.1
  intro n
  induction n with
  | zero =>
    intro k hk m hF h53 h54
    have hcn : m.1 39 11 = P 98 4 := by rw [hF.1 _ _ (by unfold zSo; omega)]; exact hB.1
    have hkk : (P 98 4).toNat = k := by omega
    exact vc_X6_order_22 k m (inR_b (A := 10) (by omega) (by omega) rfl) (fun _ => ⟨fun _ => hQ m hF (fun p a b => h53 p a (by omega)) (by rw [hkk]; exact h54), fun q => absurd (by omega) q⟩)
  | succ n ih =>
    intro k hk m hF h53 h54
    have nf : ∀ a j, ¬ (a = 53 ∨ a = 54) → m.1 a j = m0.1 a j := fun a j q => hF.1 a j q
    have hcn : m.1 39 11 = P 98 4 := by rw [nf _ _ (by omega)]; exact hB.1
    obtain ⟨g0, g1, g2, g3, g4, g5, g6, g7⟩ := wf_part (p := (k : Int)) hW (by omega) (by omega)
    obtain ⟨p1, p2, p3, p4, p5⟩ := hB.2.2.2.1 (k : Int) (by omega) (by omega)
    have e44 : m.1 44 k = zp P k 1 := by rw [nf _ _ (by omega)]; exact p1
    have e45 : m.1 45 k = zp P k 2 := by rw [nf _ _ (by omega)]; exact p2
    have e43 : m.1 43 k = zmode P k := by rw [nf _ _ (by omega)]; exact p3
    have hmx := zmx_le (zp P k 1) (zp P k 2)
    have hstep0 : ∀ m11 : zM, zkn P k = 0 → m11 = sI m 53 k 0 → zV K mX6_order (d + 2) 22 [(0, rr K 52), (1, rr K 39), (2, .int (iz ((k : Int) + 1)))] [] m11 Q := by
      intro m11 hz e11
      refine ih (k + 1) (by omega) m11 (hF.put e11 (Or.inl rfl)) (fun p a b => ?_) (fun n a b => ?_)
      · rw [e11, sI_at]
        split
        · rename_i hh
          rw [hh.2, hz]
        · exact h53 p a (by omega)
      · rw [e11, sI_ne (Or.inl (by omega)), h54 n a b]
        conv => rhs; unfold zst
        rw [if_neg (fun z => z.1 hz)]
    have hstep : ∀ (r : Int) (m15 : zM), zkn P k = r → ¬ r = 0 → 2 ≤ r → r ≤ 4 → m15 = sI m 53 k r → (0 ≤ zp P k 1 ∧ zp P k 1 < 5 ∧ (zCt K (d + 1) mJ9_max_7cf53 [.int (iz (m15.1 54 (zp P k 1))), .int (iz r)] m15 (fun r19 m20 => inR r19 → zok m20 → ∀ m21 : zM, m21 = sI m20 54 (zp P k 1) r19 → zok m21 → (0 ≤ zp P k 2 ∧ zp P k 2 < 5 ∧ (zCt K (d + 1) mJ9_max_7cf53 [.int (iz (m21.1 54 (zp P k 2))), .int (iz r)] m21 (fun r25 m26 => inR r25 → zok m26 → ∀ m27 : zM, m27 = sI m26 54 (zp P k 2) r25 → zok m27 → (zV K mX6_order (d + 2) 22 [(0, rr K 52), (1, rr K 39), (2, .int (iz ((k : Int) + 1)))] [] m27 Q))))))) := by
      intro r m15 hkn r0 r2 r4 e15
      have s1 := zst_facts (n := zp P k 1) hW g1 k (by omega)
      have s2 := zst_facts (n := zp P k 2) hW g2 k (by omega)
      have f15 : m15.1 54 (zp P k 1) = zst P (zp P k 1) k := by rw [e15, sI_ne (Or.inl (by omega))]; exact h54 _ g1.1 g1.2
      refine ⟨g1.1, by omega, ?_⟩
      rw [f15]
      refine (c_J9_max (d := d) (inR_b (A := 10) (by omega) (by omega) rfl) (inR_b (A := 10) (by omega) (by omega) rfl)).mono (fun r19 m20 h => ?_)
      obtain ⟨h19, h20⟩ := h
      subst h20
      intro _ _ m21 e21 _
      have b19 := zmx_le (zst P (zp P k 1) k) r
      have f21 : m21.1 54 (zp P k 2) = if zp P k 2 = zp P k 1 then r19 else zst P (zp P k 2) k := by
        rw [e21, sI_at]
        by_cases q : zp P k 2 = zp P k 1
        · rw [if_pos ⟨rfl, q⟩, if_pos q]
        · rw [if_neg (fun z => q z.2), if_neg q, e15, sI_ne (Or.inl (by omega))]; exact h54 _ g2.1 g2.2
      have f21b : 0 ≤ m21.1 54 (zp P k 2) ∧ m21.1 54 (zp P k 2) ≤ 4 := by rw [f21]; split <;> omega
      refine ⟨g2.1, by omega, ?_⟩
      refine (c_J9_max (d := d) (inR_b (A := 10) (by omega) (by omega) rfl) (inR_b (A := 10) (by omega) (by omega) rfl)).mono (fun r25 m26 h => ?_)
      obtain ⟨h25, h26⟩ := h
      subst h26
      intro _ _ m27 e27 _
      refine ih (k + 1) (by omega) m27 (((hF.put e15 (Or.inl rfl)).put e21 (Or.inr rfl)).put e27 (Or.inr rfl)) (fun p a b => ?_) (fun n a b => ?_)
      · rw [e27, sI_ne (Or.inl (by omega)), e21, sI_ne (Or.inl (by omega)), e15, sI_at]
        split
        · rename_i hh
          rw [hh.2, hkn]
        · exact h53 p a (by omega)
      · conv => rhs; unfold zst
        rw [hkn, e27, sI_at, h25, f21, e21, sI_at, e15, sI_ne (Or.inl (by omega)), h54 n a b, h19]
        by_cases q2 : n = zp P k 2
        · by_cases q1 : n = zp P k 1
          · have q12 : zp P k 2 = zp P k 1 := by omega
            rw [if_pos ⟨rfl, q2⟩, if_pos q12, if_pos ⟨r0, Or.inl q1.symm⟩, q1]
            unfold zmx
            (repeat' split) <;> omega
          · have q12 : ¬ zp P k 2 = zp P k 1 := by omega
            rw [if_pos ⟨rfl, q2⟩, if_neg q12, if_pos ⟨r0, Or.inr q2.symm⟩, q2]
        · rw [if_neg (fun z => q2 z.2)]
          by_cases q1 : n = zp P k 1
          · rw [if_pos ⟨rfl, q1⟩, if_pos ⟨r0, Or.inl q1.symm⟩, q1]
          · rw [if_neg (fun z => q1 z.2), if_neg (fun z => z.2.elim (fun y => q1 y.symm) (fun y => q2 y.symm))]
    refine vc_X6_order_22 k m (inR_b (A := 10) (by omega) (by omega) rfl) (fun _ => ⟨fun q => absurd q (by omega), fun _ => ⟨by omega, by omega, fun v4 e4 v6 e6 => ?_⟩⟩)
    rw [e44] at e4
    rw [e45] at e6
    subst e4
    subst e6
    refine (c_J9_max (d := d) (inR_b (A := 10) (by omega) (by omega) rfl) (inR_b (A := 10) (by omega) (by omega) rfl)).mono (fun r8 m9 h => ?_)
    obtain ⟨h8, h9⟩ := h
    subst h9
    intro _ _
    rw [e43]
    refine ⟨fun q m11 e11 _ => hstep0 m11 (by unfold zkn; rw [if_pos (Or.inl q)]) e11, fun q => ⟨fun q2 => ⟨fun q3 => ?_, fun q3 m15 e15 _ => ?_⟩, fun q2 m45 e45' _ => hstep0 m45 (by unfold zkn; rw [if_pos (Or.inr (by omega))]) e45'⟩⟩
    · have hg : zp P k 0 = 2 ∨ zp P k 0 = 3 := by
        unfold zmode at q3
        (repeat' split at q3) <;> omega
      have h6 := g6 hg
      have e46 : m9.1 46 k = zp P k 8 := by rw [nf _ _ (by omega), (p5 (Or.inr q3)).2.2.2, if_pos q3]
      rw [e46]
      have b29 := zmx_le r8 (zp P k 8)
      refine (c_J9_max (d := d) (inR_b (A := 10) (by omega) (by omega) rfl) (inR_b (A := 10) (by omega) (by omega) rfl)).mono (fun r29 m30 h => ?_)
      obtain ⟨h29, h30⟩ := h
      subst h30
      intro _ _ m31 e31 _
      exact hstep r29 m31 (by unfold zkn; rw [if_neg (by omega), if_pos q3, ← h8]; exact h29.symm) (by omega) (by omega) (by omega) e31
    · exact hstep r8 m15 (by unfold zkn; rw [if_neg (by omega), if_neg q3]; exact h8.symm) (by omega) (by omega) (by omega) e15
theorem t_order_2 {d : Nat} {Q : Int → zM → Prop}
    (hQ : ∀ m', zFr zSo m0 m' → (∀ n, 0 ≤ n → n ≤ 4 → m'.1 54 n = n) → zV K mX6_order (d + 2) 22 [(0, rr K 52), (1, rr K 39), (2, .int (iz 0))] [] m' Q) :
    ∀ (n k : Nat), k + n = 5 → ∀ m : zM, zFr zSo m0 m → (∀ i, 0 ≤ i → i < (k : Int) → m.1 54 i = i) → zV K mX6_order (d + 2) 2 [(0, rr K 52), (1, rr K 39), (2, .int (iz (k : Int)))] [] m Q := by
  intro n
  induction n with
  | zero => exact fun k hk m hF h => vc_X6_order_2 k m (inR_b (A := 10) (by omega) (by omega) rfl) (fun _ => ⟨fun _ => hQ m hF (fun n a b => h n a (by omega)), fun q => absurd (by omega) q⟩)
  | succ n ih =>
    intro k hk m hF h
    refine vc_X6_order_2 k m (inR_b (A := 10) (by omega) (by omega) rfl) (fun _ => ⟨fun q => absurd q (by omega), fun _ => ⟨by omega, by omega, fun m4 e4 _ => ih (k + 1) (by omega) m4 (hF.put e4 (Or.inr rfl)) (fun i a b => ?_)⟩⟩)
    rw [e4, sI_at]
    split
    · rename_i hh; exact hh.2.symm
    · exact h i a (by omega)
theorem c_X6_order {d : Nat} (hW : zWf P) (hB : zBe m0 P c) : zCt K (d + 2) mX6_order [rr K 52, rr K 39] m0 (fun r m1 => r = 0 ∧ zFr zSo m0 m1 ∧ (∀ p, 0 ≤ p → p < P 98 4 → m1.1 53 p = zkn P p) ∧ (∀ n, 0 ≤ n → n ≤ 4 → m1.1 54 n = zst P n (P 98 4).toNat)) := by
  have h4 := hW.2.2.2.1
  refine zCt.of (by decide) (Nat.le_of_ble_eq_true rfl) (vc_X6_order_0 (d := d) m0 (fun _ => t_order_2 (fun m' hF h => ?_) 5 0 (by omega) m0 zFr.rf (fun i a b => absurd b (by omega))))
  have hB' : zBe m' P c := hB.so (fun a k z => hF.1 a k (by unfold zSo; omega)) (by rw [hF.2])
  refine t_order_22 hW hB' (fun m'' f a b => ⟨rfl, hF.tr f, a, b⟩) (P 98 4).toNat 0 (by omega) m' zFr.rf (fun p a b => absurd b (by omega)) (fun n a b => by rw [h n a b]; rfl)
end XR
