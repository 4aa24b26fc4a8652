/-! ===== the class: move, walk ===== -/
def zLs (m : zM) (P : F2) (s : Int) : Prop := ∀ n, 0 ≤ n → n ≤ 4 → m.1 40 n = zlv P s n
def zS40 (a _k : Int) : Prop := a = 40 ∨ a = 41
theorem zBe.kept {m m' : zM} {P : F2} {c : Int} (h : zBe m P c) (hf : ∀ a k, ¬ (a = 40 ∨ a = 41 ∨ (a = 39 ∧ 12 ≤ k)) → m'.1 a k = m.1 a k) (hT : m'.2.2 = m.2.2) : zBe m' P c := by
  obtain ⟨h1, h2, h3, h4, h5⟩ := h
  have n40 : m.2.2 ≠ 40 := fun z => by rw [z] at h2; exact absurd h2 (by decide)
  have n41 : m.2.2 ≠ 41 := fun z => by rw [z] at h2; exact absurd h2 (by decide)
  have n39 : m.2.2 ≠ 39 := fun z => by rw [z] at h2; exact absurd h2 (by decide)
  refine ⟨by rw [hf _ _ (by omega)]; exact h1, by rw [hT]; exact h2, fun i a b => by rw [hT, hf _ _ (by omega)]; exact h3 i a b, fun p a b => ?_, fun n a b => by rw [hf _ _ (by omega)]; exact h5 n a b⟩
  obtain ⟨q1, q2, q3, q4, q5⟩ := h4 p a b
  exact ⟨by rw [hf _ _ (by omega)]; exact q1, by rw [hf _ _ (by omega)]; exact q2, by rw [hf _ _ (by omega)]; exact q3, fun z => by rw [hf _ _ (by omega)]; exact q4 z, fun z => by rw [hf _ _ (by omega), hf _ _ (by omega), hf _ _ (by omega), hf _ _ (by omega)]; exact q5 z⟩
theorem zlv_tick {P : F2} {c s : Int} : zlv P (ztick P c s) 2 = zmvn P c s 2 ∧ zlv P (ztick P c s) 3 = zmvn P c s 3 ∧ zlv P (ztick P c s) 4 = zmvn P c s 4 := by
  have h2 := zmv_le (zlv P s 2) (znet P (zlv P s) c 2 (P 98 4).toNat) (zwt P 2 (P 98 4).toNat)
  have h3 := zmv_le (zlv P s 3) (znet P (zlv P s) c 3 (P 98 4).toNat) (zwt P 3 (P 98 4).toNat)
  have h4 := zmv_le (zlv P s 4) (znet P (zlv P s) c 4 (P 98 4).toNat) (zwt P 4 (P 98 4).toNat)
  have e2 : zmvn P c s 2 = zmv (zlv P s 2) (znet P (zlv P s) c 2 (P 98 4).toNat) (zwt P 2 (P 98 4).toNat) := rfl
  have e3 : zmvn P c s 3 = zmv (zlv P s 3) (znet P (zlv P s) c 3 (P 98 4).toNat) (zwt P 3 (P 98 4).toNat) := rfl
  have e4 : zmvn P c s 4 = zmv (zlv P s 4) (znet P (zlv P s) c 4 (P 98 4).toNat) (zwt P 4 (P 98 4).toNat) := rfl
  refine ⟨?_, ?_, ?_⟩
  · show (ztick P c s) / 441 = _; unfold ztick; omega
  · show (ztick P c s) / 21 % 21 = _; unfold ztick; omega
  · show (ztick P c s) % 21 = _; unfold ztick; omega
theorem zlv_state {P : F2} {s : Int} (h : 0 ≤ s ∧ s ≤ 9260) : (zlv P s 2 * 21 + zlv P s 3) * 21 + zlv P s 4 = s := by
  show (s / 441 * 21 + s / 21 % 21) * 21 + s % 21 = s
  omega
section XW
variable {K : zCx} {P : F2} {c : Int} {m0 : zM}
theorem c_X1_place {d : Nat} {s : Int} (hs : 0 ≤ s ∧ s ≤ 9260) (h0 : m0.1 40 0 = 0) (h1 : m0.1 40 1 = P 98 0) : zCt K (d + 1) mX1_place [rr K 39, .int (iz s)] m0 (fun r m1 => r = 0 ∧ zFr zS40 m0 m1 ∧ zLs m1 P s) := by
  refine zCt.of (by decide) (Nat.le_of_ble_eq_true rfl) (vc_X1_place_0 (d := d) s m0 (inR_b (A := 9260) (by omega) (by omega) rfl) (fun _ m1 e1 _ m3 e3 _ m5 e5 _ => ⟨rfl, ?_, fun n a b => ?_⟩))
  · exact ((zFr.rf.put e1 (Or.inl rfl)).put e3 (Or.inl rfl)).put e5 (Or.inl rfl)
  · have d1 : Int.tdiv s 441 = s / 441 := Int.tdiv_eq_ediv_of_nonneg hs.1
    have d2 : Int.tdiv s 21 = s / 21 := Int.tdiv_eq_ediv_of_nonneg hs.1
    have d3 : Int.tmod (s / 21) 21 = s / 21 % 21 := Int.tmod_eq_emod_of_nonneg (by omega)
    have d4 : Int.tmod s 21 = s % 21 := Int.tmod_eq_emod_of_nonneg hs.1
    have hn : n = 0 ∨ n = 1 ∨ n = 2 ∨ n = 3 ∨ n = 4 := by omega
    subst e5; subst e3; subst e1
    rcases hn with rfl | rfl | rfl | rfl | rfl <;> simp [sI_at, zlv, h0, h1, d1, d2, d3, d4]
theorem c_X1_moved {d : Nat} {n x : Int} (hn : 0 ≤ n ∧ n ≤ 4) (hl : 0 ≤ m0.1 40 n ∧ m0.1 40 n ≤ 20) (hw : 1 ≤ m0.1 42 n) (hx : -50000 ≤ x ∧ x ≤ 50000) : zCt K (d + 1) mX1_moved [rr K 39, .int (iz n), .int (iz x)] m0 (fun r m1 => r = zmv (m0.1 40 n) x (m0.1 42 n) ∧ m1 = m0) := by
  refine zCt.of (by decide) (Nat.le_of_ble_eq_true rfl) (vc_X1_moved_0 (d := d) n x m0 (inR_b (A := 10) (by omega) (by omega) rfl) (inR_b (A := 50000) (by omega) (by omega) rfl) (fun _ => ⟨hn.1, by omega, fun v3 e3 => ⟨fun q => absurd q (by omega), fun _ => ⟨by omega, fun z => absurd z.2 (by omega), fun v13 e13 => ?_⟩⟩⟩))
  have hq := ztda (a := x) (A := 50000) (by omega) (by omega) v3 (by omega)
  refine ⟨inR_b (A := 60000) (by omega) (by omega) rfl, ?_⟩
  unfold zmv
  rw [← e3, ← e13]
  refine ⟨fun q => ⟨fun q2 => ⟨by rw [if_pos q, if_pos q2], rfl⟩, fun q2 => ⟨by rw [if_pos q, if_neg q2], rfl⟩⟩, fun q => ⟨by rw [if_neg q], rfl⟩⟩
theorem t_move_10 {d : Nat} {Q : Int → zM → Prop} {s : Int} (hW : zWf P) (hB : zBe m0 P c) (hc : 0 ≤ c ∧ c ≤ 8) (hs : 0 ≤ s ∧ s ≤ 9260) (hL : zLs m0 P s)
    (hk : ∀ m', zFr (fun a _ => a = 41) m0 m' → (∀ n, 0 ≤ n → n ≤ 4 → m'.1 41 n = znet P (zlv P s) c n (P 98 4).toNat) → zV K mX1_move (d + 2) 74 [(0, rr K 39), (1, .int (iz 2))] [] m' Q) :
    ∀ (n k : Nat), (k : Int) + n = P 98 4 → ∀ m : zM, zFr (fun a _ => a = 41) m0 m → (∀ n, 0 ≤ n → n ≤ 4 → m.1 41 n = znet P (zlv P s) c n k) → zV K mX1_move (d + 2) 10 [(0, rr K 39), (1, .int (iz (k : Int)))] [] m Q := by
  have h4 := hW.2.2.2.1
  have hlz : ∀ q, 0 ≤ zlv P s q ∧ zlv P s q ≤ 20 := fun q => zlv_le hW hs q
  intro n
  induction n with
  | zero =>
    intro k hkn m hF hn
    have hcn : m.1 39 11 = P 98 4 := by rw [hF.1 _ _ (by decide)]; exact hB.1
    refine vc_X1_move_10 k m (inR_b (A := 10) (by omega) (by omega) rfl) (fun _ => ⟨fun _ => ?_, fun q => absurd (by omega) q⟩)
    have hkk : (P 98 4).toNat = k := by omega
    exact hk m hF (by rw [hkk]; exact hn)
  | succ n ih =>
    intro k hkn m hF hn
    have nf : ∀ a j, ¬ a = 41 → m.1 a j = m0.1 a j := fun a j q => hF.1 a j q
    have hcn : m.1 39 11 = P 98 4 := by rw [nf _ _ (by omega)]; exact hB.1
    have hBm : zBe m P c := hB.kept (fun a j q => nf a j (by omega)) (by rw [hF.2])
    obtain ⟨g0, g1, g2, g3, g4, g5, g6, g7⟩ := wf_part (p := (k : Int)) hW (by omega) (by omega)
    obtain ⟨p1, p2, p3, p4, p5⟩ := hBm.2.2.2.1 (k : Int) (by omega) (by omega)
    have hfl := zflow_le (p := (k : Int)) hW (by omega) (by omega) hc (fun q _ _ => hlz q)
    have a1 := hn _ g1.1 g1.2
    have a2 := hn _ g2.1 g2.2
    have n1 := znet_le (n := zp P k 1) hW hc (fun q _ _ => hlz q) k (by omega)
    have n2 := znet_le (n := zp P k 2) hW hc (fun q _ _ => hlz q) k (by omega)
    refine vc_X1_move_10 k m (inR_b (A := 10) (by omega) (by omega) rfl) (fun _ => ⟨fun q => absurd q (by omega), fun _ => ⟨by omega, by omega, fun q0 => ?_, fun q0 => ?_⟩⟩)
    · refine ih (k + 1) (by omega) m hF (fun n x y => ?_)
      have hz : zflow P (zlv P s) c k = 0 := by
        have hm0 : zp P k 0 = 4 ∨ zp P k 4 = 1 := by
          rw [p3] at q0
          unfold zmode at q0
          (repeat' split at q0) <;> omega
        unfold zflow zfl0
        (repeat' split) <;> omega
      unfold znet
      rw [hz, hn n x y]
      (repeat' split) <;> omega
    · have hlm : ∀ q, 0 ≤ q → q ≤ 4 → 0 ≤ m.1 40 q ∧ m.1 40 q ≤ 20 := fun q a b => by rw [nf _ _ (by omega), hL q a b]; exact hlz q
      refine (c_X1_through (d := d) hW hBm (by omega) (by omega) hc hlm).mono (fun r m6 h => ?_)
      obtain ⟨hr, hm6⟩ := h
      subst hm6
      have hfe : zflow P (m6.1 40) c k = zflow P (zlv P s) c k := zflow_lv hW (by omega) (by omega) (fun q a b => by rw [nf _ _ (by omega)]; exact hL q a b)
      rw [hfe] at hr
      intro _ _
      rw [p1]
      refine ⟨by omega, by omega, inR_b (A := 100000) (by omega) (by omega) rfl, fun m10 e10 _ => ?_⟩
      have p2' : m10.1 45 k = zp P k 2 := by rw [e10, sI_ne (Or.inl (by omega))]; exact p2
      rw [p2']
      refine ⟨by omega, by omega, ?_, fun m15 e15 _ => ?_⟩
      · rw [e10, sI_at]
        split
        · exact inR_b (A := 100000) (by omega) (by omega) rfl
        · exact inR_b (A := 100000) (by omega) (by omega) rfl
      · refine ih (k + 1) (by omega) m15 ((hF.put e10 rfl).put e15 rfl) (fun n x y => ?_)
        have := hn n x y
        rw [e15, sI_at, e10, sI_at, sI_at]
        unfold znet
        by_cases q2 : zp P k 2 = n
        · by_cases q1 : zp P k 1 = n
          · simp only [q1, q2, and_self, if_true]; rw [this, hr]
          · have q3 : ¬ n = zp P k 1 := fun z => q1 z.symm
            simp only [q2, q1, q3, and_self, and_false, if_true, if_false]; rw [this, hr]
        · have q4 : ¬ n = zp P k 2 := fun z => q2 z.symm
          by_cases q1 : zp P k 1 = n
          · simp only [q1, q2, q4, and_self, and_false, if_true, if_false]; rw [this, hr]
          · have q3 : ¬ n = zp P k 1 := fun z => q1 z.symm
            simp only [q2, q1, q3, q4, and_false, if_false]; rw [this]
theorem t_move_74 {d : Nat} {Q : Int → zM → Prop} {s : Int} {m1 : zM} (hW : zWf P) (hc : 0 ≤ c ∧ c ≤ 8) (hs : 0 ≤ s ∧ s ≤ 9260) (hL : zLs m1 P s) (hw : ∀ n, 0 ≤ n → n ≤ 4 → m1.1 42 n = zwt P n (P 98 4).toNat) (hn : ∀ n, 0 ≤ n → n ≤ 4 → m1.1 41 n = znet P (zlv P s) c n (P 98 4).toNat)
    (hQ : ∀ m', zFr (fun a _ => a = 40) m1 m' → zLs m' P (ztick P c s) → Q 0 m') : zV K mX1_move (d + 2) 74 [(0, rr K 39), (1, .int (iz 2))] [] m1 Q := by
  have h4 := hW.2.2.2.1
  obtain ⟨t2, t3, t4⟩ := zlv_tick (P := P) (c := c) (s := s)
  have key : ∀ (n : Int) (m : zM), 2 ≤ n → n ≤ 4 → zFr (fun a _ => a = 40) m1 m → m.1 40 n = zlv P s n → (∀ m', m' = sI m 40 n (zmvn P c s n) → zV K mX1_move (d + 2) 74 [(0, rr K 39), (1, .int (iz (n + 1)))] [] m' Q) → zV K mX1_move (d + 2) 74 [(0, rr K 39), (1, .int (iz n))] [] m Q := by
    intro n m a b hF hl k
    have nf : ∀ a j, ¬ a = 40 → m.1 a j = m1.1 a j := fun a j q => hF.1 a j q
    have hnl := znet_le (n := n) hW hc (fun q _ _ => zlv_le hW hs q) (P 98 4).toNat (by omega)
    have hwl := zwt_le (n := n) hW (P 98 4).toNat (by omega)
    have hll := zlv_le hW hs n
    have e41 : m.1 41 n = znet P (zlv P s) c n (P 98 4).toNat := by rw [nf _ _ (by omega)]; exact hn n (by omega) b
    have e42 : m.1 42 n = zwt P n (P 98 4).toNat := by rw [nf _ _ (by omega)]; exact hw n (by omega) b
    refine vc_X1_move_74 n m (inR_b (A := 10) (by omega) (by omega) rfl) (fun _ => ⟨fun q => absurd q (by omega), fun _ => ⟨by omega, by omega, ?_⟩⟩)
    refine (c_X1_moved (d := d) (m0 := m) (n := n) ⟨by omega, b⟩ (by omega) (by omega) (by omega)).mono (fun r m5 h => ?_)
    obtain ⟨h1, h2⟩ := h
    subst h2
    intro _ _ m6 e6 _
    refine k m6 ?_
    rw [e6, h1, hl, e41, e42]
    rfl
  refine key 2 m1 (by omega) (by omega) zFr.rf (hL 2 (by omega) (by omega)) (fun ma ea => ?_)
  have fa : zFr (fun a _ => a = 40) m1 ma := zFr.rf.put ea rfl
  refine key 3 ma (by omega) (by omega) fa (by rw [ea, sI_ne (Or.inr (by omega))]; exact hL 3 (by omega) (by omega)) (fun mb eb => ?_)
  have fb : zFr (fun a _ => a = 40) m1 mb := fa.put eb rfl
  refine key 4 mb (by omega) (by omega) fb (by rw [eb, sI_ne (Or.inr (by omega)), ea, sI_ne (Or.inr (by omega))]; exact hL 4 (by omega) (by omega)) (fun mc ec => ?_)
  have fc : zFr (fun a _ => a = 40) m1 mc := fb.put ec rfl
  refine vc_X1_move_74 (4 + 1) mc (inR_b (A := 10) (by omega) (by omega) rfl) (fun _ => ⟨fun _ => hQ mc fc (fun n a b => ?_), fun q => absurd (by omega) q⟩)
  have hnn : n = 0 ∨ n = 1 ∨ n = 2 ∨ n = 3 ∨ n = 4 := by omega
  rcases hnn with rfl | rfl | rfl | rfl | rfl
  · rw [ec, sI_ne (Or.inr (by omega)), eb, sI_ne (Or.inr (by omega)), ea, sI_ne (Or.inr (by omega)), hL 0 (by omega) (by omega)]; rfl
  · rw [ec, sI_ne (Or.inr (by omega)), eb, sI_ne (Or.inr (by omega)), ea, sI_ne (Or.inr (by omega)), hL 1 (by omega) (by omega)]; rfl
  · rw [ec, sI_ne (Or.inr (by omega)), eb, sI_ne (Or.inr (by omega)), ea, sI_eq]; exact t2.symm
  · rw [ec, sI_ne (Or.inr (by omega)), eb, sI_eq]; exact t3.symm
  · rw [ec, sI_eq]; exact t4.symm
/-- move(): a TICK -/
theorem c_X1_move {d : Nat} {s : Int} (hW : zWf P) (hB : zBe m0 P c) (hc : 0 ≤ c ∧ c ≤ 8) (hs : 0 ≤ s ∧ s ≤ 9260) (hL : zLs m0 P s) : zCt K (d + 2) mX1_move [rr K 39] m0 (fun r m1 => r = 0 ∧ zFr zS40 m0 m1 ∧ zLs m1 P (ztick P c s)) := by
  have h4 := hW.2.2.2.1
  refine zCt.of (by decide) (Nat.le_of_ble_eq_true rfl) (vc_X1_move_0 (d := d) m0 (fun _ => ?_))
  refine (c_fill (d := d) (a := 41) (n := 5) rfl (by decide) inR_0).mono (fun r m2 h => ?_)
  obtain ⟨-, hf2, h41⟩ := h
  intro _ _
  have n2 : ∀ a j, ¬ a = 41 → m2.1 a j = m0.1 a j := fun a j q => hf2.1 a j q
  have hB2 : zBe m2 P c := hB.kept (fun a j q => n2 a j (by omega)) (by rw [hf2.2])
  have hL2 : zLs m2 P s := fun n a b => by rw [n2 _ _ (by omega)]; exact hL n a b
  refine t_move_10 hW hB2 hc hs hL2 (fun m' hF hn => ?_) (P 98 4).toNat 0 (by omega) m2 zFr.rf (fun n a b => by rw [h41 n a (by omega)]; rfl)
  have n3 : ∀ a j, ¬ a = 41 → m'.1 a j = m2.1 a j := fun a j q => hF.1 a j q
  refine t_move_74 hW hc hs (fun n a b => by rw [n3 _ _ (by omega)]; exact hL2 n a b) (fun n a b => by rw [n3 _ _ (by omega)]; exact hB2.2.2.2.2 n a b) hn (fun m'' h1 h2 => ⟨rfl, ?_, h2⟩)
  exact ((hf2.mono (fun a j q => Or.inr q)).tr (hF.mono (fun a j q => Or.inr q))).tr (h1.mono (fun a j q => Or.inl q))
end XW
