theorem zflow_leK {P : F2} {lv : Int → Int} {c p x : Int} (hW : zWf P) (h0 : 0 ≤ p) (h1 : p < P 98 4) (hc : 0 ≤ c ∧ c ≤ 8) (hk : ¬ zkn P p = 0) (hx : zkn P p ≤ x) (hl : ∀ k, 0 ≤ k → k ≤ x → 0 ≤ lv k ∧ lv k ≤ 20) : -4725 ≤ zflow P lv c p ∧ zflow P lv c p ≤ 4725 := by
  rw [zflow_dep (lv' := fun q => if q ≤ x then lv q else 0) hW h0 h1 hk (fun q a b => (if_pos (by omega)).symm)]
  refine zflow_le hW h0 h1 hc (fun q a b => ?_)
  by_cases z : q ≤ x
  · simp only [if_pos z]; exact hl q a z
  · simp only [if_neg z]; omega
theorem zrw_leK {P : F2} {lv : Int → Int} {c n x y : Int} (hW : zWf P) (hc : 0 ≤ c ∧ c ≤ 8) (hy : y ≤ x) (hl : ∀ k, 0 ≤ k → k ≤ x → 0 ≤ lv k ∧ lv k ≤ 20) (k : Nat) (hk : (k : Int) ≤ P 98 4) : -(4725 * (k : Int)) ≤ zrw P lv c n y k ∧ zrw P lv c n y k ≤ 4725 * (k : Int) := by
  rw [zrw_dep (lv' := fun q => if q ≤ x then lv q else 0) hW (fun q a b => (if_pos (by omega)).symm) k hk]
  refine zrw_le hW hc (fun q a b => ?_) k hk
  by_cases z : q ≤ x
  · simp only [if_pos z]; exact hl q a z
  · simp only [if_neg z]; omega
section XK
variable {K : zCx} {P : F2} {c : Int} {m0 : zM}
def zS55 (x : Int) (a k : Int) : Prop := a = 55 ∧ 5 * x ≤ k ∧ k < 5 * x + 5
theorem t_addF_51 {d : Nat} {Q : Int → zM → Prop} {x : Int} (hx : 2 ≤ x ∧ x ≤ 4) (hW : zWf P) (hB : zBe m0 P c) (hc : 0 ≤ c ∧ c ≤ 8) (h53 : ∀ p, 0 ≤ p → p < P 98 4 → m0.1 53 p = zkn P p) (hl : ∀ k, 0 ≤ k → k ≤ x → 0 ≤ m0.1 40 k ∧ m0.1 40 k ≤ 20)
    (hQ : ∀ m', zFr (zS55 x) m0 m' → (∀ n, 0 ≤ n → n ≤ 4 → m'.1 55 (5 * x + n) = zrw P (m0.1 40) c n x (P 98 4).toNat) → Q 0 m') :
    ∀ (n k : Nat), (k : Int) + n = P 98 4 → ∀ m : zM, zFr (zS55 x) m0 m → (∀ n, 0 ≤ n → n ≤ 4 → m.1 55 (5 * x + n) = zrw P (m0.1 40) c n (x - 1) (P 98 4).toNat + zr1 P (m0.1 40) c n x k) → zV K mX6_addFlows (d + 2) 51 [(0, rr K 52), (1, rr K 39), (2, .int (iz x)), (3, .int (iz (x * 5))), (4, .int (iz (k : Int)))] [] m Q := by
  have h4 := hW.2.2.2.1
  intro n
  induction n with
  | zero =>
    intro k hk m hF h55
    have hcn : m.1 39 11 = P 98 4 := by rw [hF.1 _ _ (by unfold zS55; omega)]; exact hB.1
    have hkk : (P 98 4).toNat = k := by omega
    refine vc_X6_addFlows_51 x (x * 5) k m (inR_b (A := 10) (by omega) (by omega) rfl) (inR_b (A := 100) (by omega) (by omega) rfl) (inR_b (A := 10) (by omega) (by omega) rfl) (fun _ => ⟨fun _ => hQ m hF (fun n a b => ?_), fun q => absurd (by omega) q⟩)
    rw [h55 n a b, hkk]; exact (zr_add hx.1 k).symm
  | succ n ih =>
    intro k hk m hF h55
    have nf : ∀ a j, ¬ a = 55 → m.1 a j = m0.1 a j := fun a j q => hF.1 a j (fun z => q z.1)
    have hcn : m.1 39 11 = P 98 4 := by rw [nf _ _ (by omega)]; exact hB.1
    have hBm : zBe m P c := hB.so (fun a j q => nf a j (by omega)) (by rw [hF.2])
    have e40 : m.1 40 = m0.1 40 := funext (fun j => nf 40 j (by omega))
    obtain ⟨g0, g1, g2, g3, g4, g5, g6, g7⟩ := wf_part (p := (k : Int)) hW (by omega) (by omega)
    obtain ⟨p1, p2, p3, p4, p5⟩ := hBm.2.2.2.1 (k : Int) (by omega) (by omega)
    have e53 : m.1 53 k = zkn P k := by rw [nf _ _ (by omega)]; exact h53 _ (by omega) (by omega)
    refine vc_X6_addFlows_51 x (x * 5) k m (inR_b (A := 10) (by omega) (by omega) rfl) (inR_b (A := 100) (by omega) (by omega) rfl) (inR_b (A := 10) (by omega) (by omega) rfl) (fun _ => ⟨fun q => absurd q (by omega), fun _ => ⟨by omega, by omega, ?_⟩⟩)
    rw [e53]
    refine ⟨fun q => ?_, fun q => ih (k + 1) (by omega) m hF (fun n a b => ?_)⟩
    · have hkf := zkn_facts (p := (k : Int)) hW (by omega) (by omega)
      have hfl := zflow_leK (p := (k : Int)) (x := x) hW (by omega) (by omega) hc (by omega) (by omega) hl
      refine (c_X1_throughW (d := d) hW hBm (by omega) (by omega) hc (by rw [e40]; exact hl _ (by omega) (by omega)) (by rw [e40]; exact hl _ (by omega) (by omega)) (fun q8 => ?_)).mono (fun r m6 h => ?_)
      · have hg := g6 (by unfold zmode at q8; (repeat' split at q8) <;> omega)
        rw [e40]; exact hl _ (by omega) (by omega)
      obtain ⟨hr, hm6⟩ := h
      subst hm6
      rw [e40] at hr
      intro _ _
      have a1 := zrw_leK (n := zp P k 1) (x := x) (y := x - 1) hW hc (by omega) hl (P 98 4).toNat (by omega)
      have a2 := zrw_leK (n := zp P k 1) (x := x) (y := x) hW hc (by omega) hl k (by omega)
      have a3 := zrw_leK (n := zp P k 1) (x := x) (y := x - 1) hW hc (by omega) hl k (by omega)
      have a4 := zr_add (P := P) (lv := m0.1 40) (c := c) (n := zp P k 1) hx.1 k
      have b1 := zrw_leK (n := zp P k 2) (x := x) (y := x - 1) hW hc (by omega) hl (P 98 4).toNat (by omega)
      have b2 := zrw_leK (n := zp P k 2) (x := x) (y := x) hW hc (by omega) hl k (by omega)
      have b3 := zrw_leK (n := zp P k 2) (x := x) (y := x - 1) hW hc (by omega) hl k (by omega)
      have b4 := zr_add (P := P) (lv := m0.1 40) (c := c) (n := zp P k 2) hx.1 k
      have v1 := h55 _ g1.1 g1.2
      have v2 := h55 _ g2.1 g2.2
      have x1 : x * 5 + zp P k 1 = 5 * x + zp P k 1 := by omega
      have x2 : x * 5 + zp P k 2 = 5 * x + zp P k 2 := by omega
      rw [p1, x1]
      refine ⟨by omega, by omega, inR_b (A := 1000000) (by omega) (by omega) rfl, fun m10 e10 _ => ?_⟩
      have p2' : m10.1 45 k = zp P k 2 := by rw [e10, sI_ne (Or.inl (by omega))]; exact p2
      rw [p2', x2]
      have v10 : m10.1 55 (5 * x + zp P k 2) = if zp P k 2 = zp P k 1 then m6.1 55 (5 * x + zp P k 1) - r else m6.1 55 (5 * x + zp P k 2) := by
        rw [e10, sI_at]
        by_cases z : zp P k 2 = zp P k 1
        · rw [if_pos ⟨rfl, by omega⟩, if_pos z]
        · rw [if_neg (by omega), if_neg z]
      refine ⟨by omega, by omega, by rw [v10]; split <;> exact inR_b (A := 1000000) (by omega) (by omega) rfl, fun m15 e15 _ => ?_⟩
      refine ih (k + 1) (by omega) m15 ((hF.put e10 ⟨rfl, by omega, by omega⟩).put e15 ⟨rfl, by omega, by omega⟩) (fun n a b => ?_)
      have hn := h55 n a b
      conv => rhs; unfold zr1
      rw [if_pos q, e15, sI_at, v10, e10, sI_at, hr]
      unfold zadd
      by_cases q2 : zp P k 2 = n
      · by_cases q1 : zp P k 1 = n
        · rw [if_pos ⟨rfl, by omega⟩, if_pos (by omega), if_pos q2, if_pos q1, q1]; omega
        · rw [if_pos ⟨rfl, by omega⟩, if_neg (by omega), if_pos q2, if_neg q1, q2]; omega
      · rw [if_neg (by omega)]
        by_cases q1 : zp P k 1 = n
        · rw [if_pos ⟨rfl, by omega⟩, if_neg q2, if_pos q1, q1]; omega
        · rw [if_neg (by omega), if_neg q2, if_neg q1]; omega
    · rw [h55 n a b]
      conv => rhs; unfold zr1
      rw [if_neg q]; omega
theorem t_addF_7 {d : Nat} {Q : Int → zM → Prop} {x : Int} (hx : 2 ≤ x ∧ x ≤ 4) (b : Int → Int) (hb : ∀ n, 0 ≤ n → n ≤ 4 → b n = if x = 2 then 0 else m0.1 55 (5 * (x - 1) + n))
    (hQ : ∀ m', zFr (zS55 x) m0 m' → (∀ n, 0 ≤ n → n ≤ 4 → m'.1 55 (5 * x + n) = b n) → zV K mX6_addFlows (d + 2) 51 [(0, rr K 52), (1, rr K 39), (2, .int (iz x)), (3, .int (iz (x * 5))), (4, .int (iz 0))] [] m' Q) :
    ∀ (n k : Nat), k + n = 5 → ∀ m : zM, zFr (zS55 x) m0 m → (∀ n, 0 ≤ n → n < (k : Int) → m.1 55 (5 * x + n) = b n) → zV K mX6_addFlows (d + 2) 7 [(0, rr K 52), (1, rr K 39), (2, .int (iz x)), (3, .int (iz (x * 5))), (4, .int (iz (k : Int)))] [] m Q := by
  intro n
  induction n with
  | zero => exact fun k hk m hF h => vc_X6_addFlows_7 x (x * 5) k m (inR_b (A := 10) (by omega) (by omega) rfl) (inR_b (A := 100) (by omega) (by omega) rfl) (inR_b (A := 10) (by omega) (by omega) rfl) (fun _ => ⟨fun _ => hQ m hF (fun n a b => h n a (by omega)), fun q => absurd (by omega) q⟩)
  | succ n ih =>
    intro k hk m hF h
    have hbk := hb (k : Int) (by omega) (by omega)
    have step : ∀ (v : Int) (m11 : zM), v = b k → m11 = sI m 55 (x * 5 + k) v → zV K mX6_addFlows (d + 2) 7 [(0, rr K 52), (1, rr K 39), (2, .int (iz x)), (3, .int (iz (x * 5))), (4, .int (iz ((k : Int) + 1)))] [] m11 Q := by
      intro v m11 hv e
      refine ih (k + 1) (by omega) m11 (hF.put e ⟨rfl, by omega, by omega⟩) (fun n a b => ?_)
      rw [e, sI_at]
      by_cases z : n = k
      · rw [if_pos ⟨rfl, by omega⟩, z]; exact hv
      · rw [if_neg (by omega)]; exact h n a (by omega)
    refine vc_X6_addFlows_7 x (x * 5) k m (inR_b (A := 10) (by omega) (by omega) rfl) (inR_b (A := 100) (by omega) (by omega) rfl) (inR_b (A := 10) (by omega) (by omega) rfl) (fun _ => ⟨fun q => absurd q (by omega), fun _ => ⟨fun q => ⟨by omega, by omega, fun m11 e _ => step 0 m11 (by rw [hbk, if_pos q]) e⟩, fun q => ⟨by omega, by omega, by omega, by omega, fun m7 e _ => step _ m7 ?_ e⟩⟩⟩)
    have ex : x * 5 - 5 + (k : Int) = 5 * (x - 1) + k := by omega
    rw [hbk, if_neg q, hF.1 _ _ (by unfold zS55; omega), ex]
theorem c_X6_addFlows {d : Nat} {x : Int} (hx : 2 ≤ x ∧ x ≤ 4) (hW : zWf P) (hB : zBe m0 P c) (hc : 0 ≤ c ∧ c ≤ 8) (h53 : ∀ p, 0 ≤ p → p < P 98 4 → m0.1 53 p = zkn P p) (hl : ∀ k, 0 ≤ k → k ≤ x → 0 ≤ m0.1 40 k ∧ m0.1 40 k ≤ 20)
    (hr : 3 ≤ x → ∀ n, 0 ≤ n → n ≤ 4 → m0.1 55 (5 * (x - 1) + n) = zrw P (m0.1 40) c n (x - 1) (P 98 4).toNat) :
    zCt K (d + 2) mX6_addFlows [rr K 52, rr K 39, .int (iz x)] m0 (fun r m1 => r = 0 ∧ zFr (zS55 x) m0 m1 ∧ (∀ n, 0 ≤ n → n ≤ 4 → m1.1 55 (5 * x + n) = zrw P (m0.1 40) c n x (P 98 4).toNat)) := by
  have h4 := hW.2.2.2.1
  refine zCt.of (by decide) (Nat.le_of_ble_eq_true rfl) (vc_X6_addFlows_0 (d := d) x m0 (inR_b (A := 10) (by omega) (by omega) rfl) (fun _ v1 e1 => ?_))
  subst e1
  refine t_addF_7 hx (fun n => zrw P (m0.1 40) c n (x - 1) (P 98 4).toNat) (fun n a b => ?_) (fun m' hF h => ?_) 5 0 (by omega) m0 zFr.rf (fun n a b => absurd b (by omega))
  · by_cases z : x = 2
    · rw [if_pos z, z]; exact zr_1 _
    · rw [if_neg z, hr (by omega) n a b]
  · have nf : ∀ a j, ¬ a = 55 → m'.1 a j = m0.1 a j := fun a j q => hF.1 a j (fun z => q z.1)
    have e40 : m'.1 40 = m0.1 40 := funext (fun j => nf 40 j (by omega))
    refine t_addF_51 hx hW (hB.so (fun a j q => nf a j (by omega)) (by rw [hF.2])) hc (fun p a b => by rw [nf _ _ (by omega)]; exact h53 p a b) (by rw [e40]; exact hl) (fun m'' f z => ⟨rfl, hF.tr f, by rw [e40] at z; exact z⟩) (P 98 4).toNat 0 (by omega) m' zFr.rf (fun n a b => ?_)
    rw [h n a b, e40]; exact (Int.add_zero _).symm
end XK
