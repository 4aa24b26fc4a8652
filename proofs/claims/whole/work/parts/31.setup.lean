/-! ===== the class: the bench is set up ===== -/
def zFl (S : Int → Int → Prop) (m m' : zM) : Prop := (∀ a k, ¬ S a k → m'.1 a k = m.1 a k) ∧ (∀ a k, ¬ S a k → m'.2.1 a k = m.2.1 a k)
theorem zFl.rf {S : Int → Int → Prop} {m : zM} : zFl S m m := ⟨fun _ _ _ => rfl, fun _ _ _ => rfl⟩
theorem zFl.tr {S : Int → Int → Prop} {m m1 m2 : zM} (h : zFl S m m1) (h2 : zFl S m1 m2) : zFl S m m2 := ⟨fun a k q => (h2.1 a k q).trans (h.1 a k q), fun a k q => (h2.2 a k q).trans (h.2 a k q)⟩
theorem zFl.mono {S S' : Int → Int → Prop} {m m1 : zM} (h : zFl S m m1) (hs : ∀ a k, S a k → S' a k) : zFl S' m m1 := ⟨fun a k q => h.1 a k (fun z => q (hs a k z)), fun a k q => h.2 a k (fun z => q (hs a k z))⟩
theorem zFr.l {S : Int → Int → Prop} {m m1 : zM} (h : zFr S m m1) : zFl S m m1 := ⟨h.1, fun a k _ => by rw [h.2]⟩
theorem zFl.put {S : Int → Int → Prop} {m m1 m2 : zM} {a k v : Int} (h : zFl S m m1) (e : m2 = sI m1 a k v) (hs : S a k) : zFl S m m2 := by
  rw [e]
  exact h.tr (zFr.one hs).l
theorem sL_at {m : zM} {a k b j : Int} {v : Int64} : (sL m a k v).2.1 b j = if b = a ∧ j = k then v else m.2.1 b j := rfl
theorem zFl.putL {S : Int → Int → Prop} {m m1 m2 : zM} {a k : Int} {v : Int64} (h : zFl S m m1) (e : m2 = sL m1 a k v) (hs : S a k) : zFl S m m2 := by
  rw [e]
  refine h.tr ⟨fun _ _ _ => rfl, fun b j q => ?_⟩
  rw [sL_at, if_neg]
  intro z
  rw [z.1, z.2] at q
  exact q hs
def zBS (a _k : Int) : Prop := 39 ≤ a ∧ a ≤ 51
section XS
variable {K : zCx} {P : F2} {c : Int} {m0 : zM}
theorem c_fill {d : Nat} {a v : Int} {n : Nat} (ha : zsh a = some (0, n)) (hn : n ≤ 100000) (hv : inR v) : zCt K (d + 1) mJ7_fill_53178 [rr K a, .int (iz v)] m0 (fun r m1 => r = 0 ∧ zFr (fun b _ => b = a) m0 m1 ∧ ∀ k, 0 ≤ k → k < (n : Int) → m1.1 a k = v) := by
  have loop : ∀ (q : Nat) (k : Int), 0 ≤ k → k + q = n → ∀ m : zM, zFr (fun b _ => b = a) m0 m → (∀ j, 0 ≤ j → j < k → m.1 a j = v) → zV K mJ7_fill_53178 (d + 1) 5 [(0, rr K a), (1, .int (iz v)), (2, .int (iz k)), (3, .int (iz (n : Int)))] [] m (fun r m1 => r = 0 ∧ zFr (fun b _ => b = a) m0 m1 ∧ ∀ k, 0 ≤ k → k < (n : Int) → m1.1 a k = v) := by
    intro q
    induction q with
    | zero =>
      intro k hk0 hk m hF hj
      refine vc_J7_fill_53178_5 v k n a n m hv (inR_b (A := 100000) (by omega) (by omega) rfl) (inR_b (A := 100000) (by omega) (by omega) rfl) ha (fun _ => ⟨fun _ => ⟨rfl, hF, fun j x y => hj j x (by omega)⟩, fun z => absurd (by omega) z⟩)
    | succ q ih =>
      intro k hk0 hk m hF hj
      refine vc_J7_fill_53178_5 v k n a n m hv (inR_b (A := 100000) (by omega) (by omega) rfl) (inR_b (A := 100000) (by omega) (by omega) rfl) ha (fun _ => ⟨fun z => absurd z (by omega), fun _ => ⟨hk0, by omega, fun m4 e4 _ => ?_⟩⟩)
      refine ih (k + 1) (by omega) (by omega) m4 (hF.put e4 rfl) (fun j x y => ?_)
      rw [e4, sI_at]
      by_cases hjk : j = k
      · simp [hjk]
      · simp [hjk]; exact hj j x (by omega)
  refine zCt.of (by decide) (Nat.le_of_ble_eq_true rfl) (vc_J7_fill_53178_0 (d := d) a n v m0 ha hv (fun _ v1 e1 => ?_))
  rw [e1]
  exact loop n 0 (by omega) (by omega) m0 zFr.rf (fun j x y => absurd y (by omega))
theorem zPl_r {pl : Int} (h : zPl pl) : pl = 1 ∨ pl = 20 ∨ pl = 67 := h
theorem RP.part {pl p : Int} (h : RP m0 pl P) (h0 : 0 ≤ p) (h1 : p < P 98 4) (k : Int) (hk : 0 ≤ k ∧ k < 10) : m0.1 (pl + 9 + p) k = zp P p k := h.2.2.2.2.2.2.1 p k h0 h1 hk.1 hk.2
def zLw (P : F2) (c p : Int) (m : zM) : Prop := m.1 47 p = zp P p 5 * 21 ∧ m.1 48 p = zp P p 6 * (c / 3 - 1) ∧ m.1 49 p = zp P (if zp P p 0 = 3 then zp P p 9 else p) 3 * (10 + (zp P p 7 - 5) * (c % 3 - 1)) ∧ m.1 46 p = (if m.1 43 p = 2 then zp P p 8 else 0)
def zS4 (p a k : Int) : Prop := 46 ≤ a ∧ a ≤ 49 ∧ k = p
theorem c_X1_setUpLaw {d : Nat} {pl p : Int} (hpl : zPl pl) (hW : zWf P) (hR : RP m0 pl P) (hc : 0 ≤ c ∧ c ≤ 8) (h0 : 0 ≤ p) (h1 : p < P 98 4) (hk : zp P p 0 ≤ 3) : zCt K (d + 3) mX1_setUpLaw [rr K 39, rr K pl, .int (iz p), .int (iz (Int.tdiv c 3 - 1)), .int (iz (Int.tmod c 3 - 1))] m0 (fun r m1 => r = 0 ∧ zFr (zS4 p) m0 m1 ∧ zLw P c p m1) := by
  obtain ⟨g0, g1, g2, g3, g4, g5, g6, g7⟩ := wf_part hW h0 h1
  have h4 := hW.2.2.2.1
  have h2 := hW.2.2.1
  have hlaw := g5 hk
  have ht := wf_twin hW h0 h1
  have hplr := zPl_r hpl
  have hf := zfac (c := c) hlaw.2.2
  have h3 : c / 3 = 0 ∨ c / 3 = 1 ∨ c / 3 = 2 := by omega
  have hrp := fun k hk => hR.part h0 h1 k hk
  have e6 : m0.1 pl 6 = P 98 4 := hR.2.2.2.1
  have b72 : ∀ z : Int, z = zp P (if zp P p 0 = 3 then zp P p 9 else p) 3 → zV K mX1_setUpLaw (d + 3) 72 [(0, rr K 39), (2, .int (iz p)), (3, .int (iz (Int.tdiv c 3 - 1))), (4, .int (iz (Int.tmod c 3 - 1))), (5, rr K (pl + 9 + p)), (7, .int (iz z))] [] m0 (fun r m1 => r = 0 ∧ zFr (zS4 p) m0 m1 ∧ zLw P c p m1) := by
    intro z hz
    rw [← hz] at ht
    rw [zdiv3 hc, zmod3 hc]
    refine vc_X1_setUpLaw_72 p (c / 3 - 1) (c % 3 - 1) z pl m0 (inR_b (A := 10) (by omega) (by omega) rfl) (inR_b (A := 10) (by omega) (by omega) rfl) (inR_b (A := 10) (by omega) (by omega) rfl) (inR_b (A := 10) (by omega) (by omega) rfl) hpl h0 (by omega) (fun hm => ?_)
    rw [hrp 5 (by omega)]
    refine ⟨h0, by omega, inR_b (A := 100) (by omega) (by omega) rfl, fun m4 e4 _ => ?_⟩
    have f4 : zFr (zS4 p) m0 m4 := zFr.rf.put e4 ⟨by omega, by omega, rfl⟩
    have nn : ∀ (m : zM), zFr (zS4 p) m0 m → ∀ k, 0 ≤ k ∧ k < 10 → m.1 (pl + 9 + p) k = zp P p k := fun m h k hk => by rw [h.1 _ _ (by unfold zS4; omega)]; exact hrp k hk
    rw [nn m4 f4 6 (by omega)]
    refine ⟨by rcases h3 with h | h | h <;> rw [h] <;> exact inR_b (A := 10) (by omega) (by omega) rfl, fun m7 e7 _ => ?_⟩
    have f7 : zFr (zS4 p) m0 m7 := f4.put e7 ⟨by omega, by omega, rfl⟩
    rw [nn m7 f7 7 (by omega)]
    have q1 := zmulb (show 0 ≤ z by omega) ht.2 hf.1 hf.2
    refine ⟨inR_b (A := 1000) (by omega) (by omega) rfl, fun m10 e10 _ v12 e12 m14 e14 _ => ?_⟩
    have f10 : zFr (zS4 p) m0 m10 := f7.put e10 ⟨by omega, by omega, rfl⟩
    rw [nn m10 f10 8 (by omega)] at e12
    refine ⟨rfl, f10.put e14 ⟨by omega, by omega, rfl⟩, ?_, ?_, ?_, ?_⟩
    · rw [e14, sI_ne (Or.inl (by omega)), e10, sI_ne (Or.inl (by omega)), e7, sI_ne (Or.inl (by omega)), e4, sI_eq]
    · rw [e14, sI_ne (Or.inl (by omega)), e10, sI_ne (Or.inl (by omega)), e7, sI_eq]
    · rw [e14, sI_ne (Or.inl (by omega)), e10, sI_eq, hz]
    · rw [e14, sI_eq, sI_ne (Or.inl (by omega)), e12]
  refine zCt.of (by decide) (Nat.le_of_ble_eq_true rfl) (vc_X1_setUpLaw_0 (d := d) pl p _ _ m0 hpl (inR_b (A := 10) (by omega) (by omega) rfl) (by rw [zdiv3 hc]; exact inR_b (A := 10) (by omega) (by omega) rfl) (by rw [zmod3 hc]; exact inR_b (A := 10) (by omega) (by omega) rfl) (fun hm => ?_))
  rw [hrp 0 (by omega), hrp 9 (by omega), hrp 3 (by omega), e6]
  refine ⟨h0, by omega, fun v3 e3 => ?_⟩
  by_cases k3 : zp P p 0 = 3
  · have hw := g7 k3
    rw [if_pos k3, if_neg (by omega), if_neg (by omega)] at e3
    refine ⟨fun q => absurd q (by omega), fun _ => ⟨by omega, by omega, fun v14 e14 => b72 v14 ?_⟩⟩
    rw [if_pos k3, e14]
    exact hR.part hw.1 (by omega) 3 (by omega)
  · rw [if_neg k3] at e3
    exact ⟨fun _ v4 e4 => b72 v4 (by rw [if_neg k3]; exact e4), fun q => absurd e3 q⟩
theorem zmode_01234 (P : F2) (p : Int) : 0 ≤ zmode P p ∧ zmode P p ≤ 4 := by unfold zmode; (repeat' split) <;> omega
theorem t_setUp_41 {d : Nat} {Q : Int → zM → Prop} {pl : Int} (hpl : zPl pl) (hW : zWf P) (hR : RP m0 pl P) (hc : 0 ≤ c ∧ c ≤ 8)
    (hQ : ∀ m', zFl zBS m0 m' → m'.2.2 = m0.2.2 → m'.1 40 0 = m0.1 40 0 → m'.1 40 1 = m0.1 40 1 → (∀ p, 0 ≤ p → p < P 98 4 → zBp m' P c p) → (∀ n, 0 ≤ n → n ≤ 4 → m'.1 42 n = zwt P n (P 98 4).toNat) → m'.1 39 11 = P 98 4 → Q 0 m') :
    ∀ (n k : Nat), (k : Int) + n = P 98 4 → ∀ m : zM, zFl zBS m0 m → m.2.2 = m0.2.2 → m.1 40 0 = m0.1 40 0 → m.1 40 1 = m0.1 40 1 → (∀ p : Int, 0 ≤ p → p < (k : Int) → zBp m P c p) → (∀ n, 0 ≤ n → n ≤ 4 → m.1 42 n = zwt P n k) → m.1 39 11 = P 98 4 →
      zV K mX1_setUp (d + 4) 41 [(0, rr K 39), (1, rr K pl), (2, .int (iz c)), (4, .int (iz (k : Int)))] [] m Q := by
  have h4 := hW.2.2.2.1
  have hplr := zPl_r hpl
  intro n
  induction n with
  | zero =>
    intro k hk m hF hT h400 h401 hb hw hcn
    refine vc_X1_setUp_41 c k pl m (inR_b (A := 10) (by omega) (by omega) rfl) (inR_b (A := 10) (by omega) (by omega) rfl) hpl (fun _ => ⟨fun _ => ?_, fun q => absurd (by omega) q⟩)
    have hkk : (P 98 4).toNat = k := by omega
    exact hQ m hF hT h400 h401 (fun p x y => hb p x (by omega)) (by rw [hkk]; exact hw) hcn
  | succ n ih =>
    intro k hk m hF hT h400 h401 hb hw hcn
    obtain ⟨g0, g1, g2, g3, g4, g5, g6, g7⟩ := wf_part (p := (k : Int)) hW (by omega) (by omega)
    have pk : ∀ m1 : zM, zFl zBS m0 m1 → ∀ j, 0 ≤ j ∧ j < 10 → m1.1 (pl + 9 + k) j = zp P k j := fun m1 h j hj => by
      rw [h.1 _ _ (by unfold zBS; omega)]; exact hR.part (by omega) (by omega) j hj
    have pkt : ∀ m1 : zM, zFl zBS m0 m1 → RP m1 pl P := fun m1 h => hR.kept (fun a j x y => h.1 _ _ (by unfold zBS; omega)) (by omega)
    have w1 := zwt_le (n := zp P k 1) hW k (by omega)
    have w2 := zwt_le (n := zp P k 2) hW k (by omega)
    refine vc_X1_setUp_41 c k pl m (inR_b (A := 10) (by omega) (by omega) rfl) (inR_b (A := 10) (by omega) (by omega) rfl) hpl (fun _ => ⟨fun q => absurd q (by omega), fun _ => ⟨by omega, by omega, fun m4 e4 _ m6 e6 _ m10 e10 _ m12 e12 _ => ?_⟩⟩)
    have f4 : zFl zBS m0 m4 := hF.put e4 ⟨by omega, by omega⟩
    have f6 : zFl zBS m0 m6 := f4.put e6 ⟨by omega, by omega⟩
    have f10 : zFl zBS m0 m10 := f6.put e10 ⟨by omega, by omega⟩
    have f12 : zFl zBS m0 m12 := f10.put e12 ⟨by omega, by omega⟩
    rw [pk m hF 1 (by omega)] at e4
    rw [pk m4 f4 2 (by omega)] at e6
    rw [pk m6 f6 0 (by omega), pk m6 f6 4 (by omega)] at e10
    have e10 : m10 = sI m6 43 k (zmode P k) := e10
    rw [pk m10 f10 3 (by omega)] at e12
    -- what stands behind the four writes
    have base : ∀ (a j : Int), ¬ (43 ≤ a ∧ a ≤ 49 ∧ j = k) → m12.1 a j = m.1 a j := by
      intro a j q
      rw [e12, sI_ne (by omega), e10, sI_ne (by omega), e6, sI_ne (by omega), e4, sI_ne (by omega)]
    have c44 : m12.1 44 k = zp P k 1 := by rw [e12, sI_ne (Or.inl (by omega)), e10, sI_ne (Or.inl (by omega)), e6, sI_ne (Or.inl (by omega)), e4, sI_eq]
    have c45 : m12.1 45 k = zp P k 2 := by rw [e12, sI_ne (Or.inl (by omega)), e10, sI_ne (Or.inl (by omega)), e6, sI_eq]
    have c43 : m12.1 43 k = zmode P k := by rw [e12, sI_ne (Or.inl (by omega)), e10, sI_eq]
    have c49 : m12.1 49 k = zp P k 3 := by rw [e12, sI_eq]
    have t12 : m12.2.2 = m0.2.2 := by rw [e12, e10, e6, e4]; exact hT
    -- the tail: weights, and on
    have tail : ∀ m1 : zM, zFr (zS4 k) m12 m1 → zBp m1 P c k → zV K mX1_setUp (d + 4) 146 [(0, rr K 39), (1, rr K pl), (2, .int (iz c)), (4, .int (iz (k : Int))), (5, rr K (pl + 9 + k))] [] m1 Q := by
      intro m1 hf hbp
      have f1 : zFl zBS m0 m1 := f12.tr (hf.l.mono (fun a j q => ⟨by have := q.1; omega, by have := q.2.1; omega⟩))
      have fin : ∀ m2 : zM, zFl (fun a _ => a = 42) m1 m2 → m2.2.2 = m1.2.2 → (∀ n, 0 ≤ n → n ≤ 4 → m2.1 42 n = zwt P n (k + 1)) → zV K mX1_setUp (d + 4) 41 [(0, rr K 39), (1, rr K pl), (2, .int (iz c)), (4, .int (iz ((k : Int) + 1)))] [] m2 Q := by
        intro m2 hf2 hT2 hw2
        have n2 : ∀ a j, ¬ a = 42 → m2.1 a j = m1.1 a j := fun a j q => hf2.1 a j q
        have n1 : ∀ a j : Int, ¬ (46 ≤ a ∧ a ≤ 49 ∧ j = (k : Int)) → m1.1 a j = m12.1 a j := fun a j q => hf.1 a j q
        refine ih (k + 1) (by omega) m2 (f1.tr (hf2.mono (fun a j q => ⟨by omega, by omega⟩))) (by rw [hT2, hf.2]; exact t12) ?_ ?_ (fun p x y => ?_) hw2 ?_
        · rw [n2 _ _ (by omega), n1 _ _ (by omega), base _ _ (by omega)]; exact h400
        · rw [n2 _ _ (by omega), n1 _ _ (by omega), base _ _ (by omega)]; exact h401
        · by_cases hpk : p = k
          · subst hpk
            obtain ⟨q1, q2, q3, q4, q5⟩ := hbp
            exact ⟨by rw [n2 _ _ (by omega)]; exact q1, by rw [n2 _ _ (by omega)]; exact q2, by rw [n2 _ _ (by omega)]; exact q3, fun z => by rw [n2 _ _ (by omega)]; exact q4 z, fun z => by rw [n2 _ _ (by omega), n2 _ _ (by omega), n2 _ _ (by omega), n2 _ _ (by omega)]; exact q5 z⟩
          · have st : ∀ a, 43 ≤ a → a ≤ 49 → m2.1 a p = m.1 a p := fun a x y => by rw [n2 _ _ (by omega), n1 _ _ (by omega), base _ _ (by omega)]
            obtain ⟨q1, q2, q3, q4, q5⟩ := hb p x (by omega)
            exact ⟨by rw [st _ (by omega) (by omega)]; exact q1, by rw [st _ (by omega) (by omega)]; exact q2, by rw [st _ (by omega) (by omega)]; exact q3, fun z => by rw [st _ (by omega) (by omega)]; exact q4 z, fun z => by rw [st _ (by omega) (by omega), st _ (by omega) (by omega), st _ (by omega) (by omega), st _ (by omega) (by omega)]; exact q5 z⟩
        · rw [n2 _ _ (by omega), n1 _ _ (by omega), base _ _ (by omega)]; exact hcn
      have w42 : ∀ n, 0 ≤ n → n ≤ 4 → m1.1 42 n = zwt P n k := fun n x y => by rw [hf.1 _ _ (by unfold zS4; omega), base _ _ (by omega)]; exact hw n x y
      have u1 := w42 _ g1.1 g1.2
      have u2 := w42 _ g2.1 g2.2
      refine vc_X1_setUp_146 c k pl m1 (inR_b (A := 10) (by omega) (by omega) rfl) (inR_b (A := 10) (by omega) (by omega) rfl) hpl (by omega) (by omega) (fun _ => ?_)
      rw [pk m1 f1 0 (by omega), pk m1 f1 4 (by omega), pk m1 f1 1 (by omega), pk m1 f1 3 (by omega)]
      refine ⟨fun k4 => ⟨fun k0 => ⟨by omega, by omega, inR_b (A := 10000) (by omega) (by omega) rfl, fun m20 e20 _ => ?_⟩, fun k0 => ?_⟩, fun k4 => ?_⟩
      · have f20 : zFl zBS m0 m20 := f1.put e20 ⟨by omega, by omega⟩
        rw [pk m20 f20 2 (by omega), pk m20 f20 3 (by omega)]
        refine ⟨by omega, by omega, ?_, fun m30 e30 _ => ?_⟩
        · rw [e20, sI_at]
          split
          · exact inR_b (A := 10000) (by omega) (by omega) rfl
          · exact inR_b (A := 10000) (by omega) (by omega) rfl
        · refine fin m30 ((zFl.rf.put e20 rfl).put e30 rfl) (by rw [e30, e20]; rfl) (fun n x y => ?_)
          have := w42 n x y
          unfold zwt
          rw [if_pos ⟨k4, k0⟩, e30, sI_at, e20, sI_at, sI_at]
          by_cases q2 : zp P k 2 = n
          · by_cases q1 : zp P k 1 = n
            · simp only [q1, q2, and_self, if_true]; rw [this]; omega
            · have q3 : ¬ n = zp P k 1 := fun z => q1 z.symm
              simp only [q2, q1, q3, and_self, and_false, if_true, if_false]; rw [this]; omega
          · have q4 : ¬ n = zp P k 2 := fun z => q2 z.symm
            by_cases q1 : zp P k 1 = n
            · simp only [q1, q2, q4, and_self, and_false, if_true, if_false]; rw [this]; omega
            · have q3 : ¬ n = zp P k 1 := fun z => q1 z.symm
              simp only [q2, q1, q3, q4, and_false, if_false]; rw [this]; omega
      · refine fin m1 zFl.rf rfl (fun n x y => ?_)
        unfold zwt
        rw [if_neg (fun z => k0 z.2), w42 n x y]; omega
      · refine fin m1 zFl.rf rfl (fun n x y => ?_)
        unfold zwt
        rw [if_neg (fun z => k4 z.1), w42 n x y]; omega
    have law : zmode P k = 1 ∨ zmode P k = 2 → zV K mX1_setUp (d + 4) 129 [(0, rr K 39), (1, rr K pl), (2, .int (iz c)), (4, .int (iz (k : Int))), (5, rr K (pl + 9 + k))] [] m12 Q := by
      intro hm12
      have hk3 : zp P k 0 ≤ 3 := by
        unfold zmode at hm12
        (repeat' split at hm12) <;> omega
      refine vc_X1_setUp_129 c k pl m12 (inR_b (A := 10) (by omega) (by omega) rfl) (inR_b (A := 10) (by omega) (by omega) rfl) hpl (by omega) (by omega) (fun _ => ?_)
      refine (c_X1_setUpLaw (d := d) hpl hW (pkt m12 f12) hc (by omega) (by omega) hk3).mono (fun r m1 h => ?_)
      obtain ⟨-, hf, l1, l2, l3, l4⟩ := h
      intro _ _
      have n1 : ∀ a j, ¬ (46 ≤ a ∧ a ≤ 49 ∧ j = (k : Int)) → m1.1 a j = m12.1 a j := fun a j q => hf.1 a j q
      have m43 : m1.1 43 k = zmode P k := by rw [n1 _ _ (by omega)]; exact c43
      rw [m43] at l4
      exact tail m1 hf ⟨by rw [n1 _ _ (by omega)]; exact c44, by rw [n1 _ _ (by omega)]; exact c45, m43, fun z => absurd z (by omega), fun _ => ⟨l1, l2, l3, l4⟩⟩
    rw [c43]
    refine ⟨fun q => law (Or.inl q), fun q => ⟨fun q2 => law (Or.inr q2), fun q2 => ?_⟩⟩
    exact tail m12 zFr.rf ⟨c44, c45, c43, fun _ => c49, fun z => absurd z (by omega)⟩
/-- setUp(plan, corner, feedLevel) -/
theorem c_X1_setUp {d : Nat} {pl f : Int} (hpl : zPl pl) (hW : zWf P) (hR : RP m0 pl P) (hc : 0 ≤ c ∧ c ≤ 8) (hf : 0 ≤ f ∧ f ≤ 20) : zCt K (d + 4) mX1_setUp [rr K 39, rr K pl, .int (iz c), .int (iz f)] m0 (fun r m1 => r = 0 ∧ zFl zBS m0 m1 ∧ zBe m1 P c ∧ m1.1 40 0 = 0 ∧ m1.1 40 1 = f) := by
  have h4 := hW.2.2.2.1
  have hplr := zPl_r hpl
  refine zCt.of (by decide) (Nat.le_of_ble_eq_true rfl) (vc_X1_setUp_0 (d := d) pl c f m0 hpl (inR_b (A := 10) (by omega) (by omega) rfl) (inR_b (A := 20) (by omega) (by omega) rfl) (fun _ m1 e1 _ m3 e3 _ m5 e5 _ m7 e7 _ => ?_))
  have f1 : zFl zBS m0 m1 := zFl.rf.put e1 ⟨by omega, by omega⟩
  have f3 : zFl zBS m0 m3 := f1.tr ⟨fun a j _ => by rw [e3]; rfl, fun a j _ => by rw [e3]; rfl⟩
  have f5 : zFl zBS m0 m5 := f3.put e5 ⟨by omega, by omega⟩
  have f7 : zFl zBS m0 m7 := f5.put e7 ⟨by omega, by omega⟩
  refine (c_fill (d := d + 2) (a := 42) (n := 5) rfl (by decide) (inR_b (A := 10) (by omega) (by omega) rfl)).mono (fun r m10 h => ?_)
  obtain ⟨-, hf10, h42⟩ := h
  intro _ _
  have n10 : ∀ a j, ¬ a = 42 → m10.1 a j = m7.1 a j := fun a j q => hf10.1 a j q
  have f10 : zFl zBS m0 m10 := f7.tr (hf10.l.mono (fun a j q => ⟨by omega, by omega⟩))
  have t10 : m10.2.2 = pl + 2 := by rw [hf10.2, e7, e5, e3]; rfl
  have hR10 : RP m10 pl P := hR.kept (fun a j x y => f10.1 _ _ (by unfold zBS; omega)) (by omega)
  have z0 : m10.1 40 0 = 0 := by rw [n10 _ _ (by omega), e7, sI_ne (Or.inr (by omega)), e5, sI_eq]
  have z1 : m10.1 40 1 = f := by rw [n10 _ _ (by omega), e7, sI_eq]
  have c11 : m10.1 39 11 = P 98 4 := by rw [n10 _ _ (by omega), e7, sI_ne (Or.inl (by omega)), e5, sI_ne (Or.inl (by omega)), e3]; show m1.1 39 11 = _; rw [e1, sI_eq]; exact hR.2.2.2.1
  refine t_setUp_41 hpl hW hR10 hc (fun m' g1 g2 g3 g4 g5 g6 g7 => ⟨rfl, f10.tr g1, ⟨g7, ?_, ?_, g5, g6⟩, by rw [g3]; exact z0, by rw [g4]; exact z1⟩) (P 98 4).toNat 0 (by omega) m10 zFl.rf rfl rfl rfl (fun p x y => absurd y (by omega)) (fun n x y => by rw [h42 n x (by omega)]; rfl) c11
  · rw [g2, t10]; exact zPl_s2 hpl
  · intro i x y
    rw [g2, t10, g1.1 _ _ (by unfold zBS; omega)]
    exact hR10.2.2.2.2.2.1 i x y
end XS
