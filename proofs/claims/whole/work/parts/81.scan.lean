/-! ===== the class's scan ===== -/
theorem ztE {t : Int → Int} {n : Int} (hn : 0 ≤ n) : ∃ E : Nat, (E : Int) ≤ n ∧ zts t n (ztx t n E) = 0 ∧ ∀ j : Nat, j < E → zts t n (ztx t n j) ≠ 0 := by
  have key : ∀ k : Nat, (∀ j : Nat, j < k → zts t n (ztx t n j) ≠ 0) ∨ ∃ E : Nat, E < k ∧ zts t n (ztx t n E) = 0 ∧ ∀ j : Nat, j < E → zts t n (ztx t n j) ≠ 0 := by
    intro k
    induction k with
    | zero => exact Or.inl (fun j hj => absurd hj (by omega))
    | succ k ih =>
      rcases ih with ih | ⟨E, a, b, c⟩
      · by_cases h : zts t n (ztx t n k) = 0
        · exact Or.inr ⟨k, by omega, h, ih⟩
        · refine Or.inl (fun j hj => ?_)
          by_cases hk : j = k
          · rw [hk]; exact h
          · exact ih j (by omega)
      · exact Or.inr ⟨E, by omega, b, c⟩
  rcases key (n.toNat + 1) with h | ⟨E, a, b, c⟩
  · have h1 := ztx_i hn (n.toNat + 1) h
    have h2 := (ztx_b (t := t) hn (n.toNat + 1)).2
    omega
  · exact ⟨E, by omega, b, c⟩
section SCAN
variable {K : zCx} {d : Nat} {m : zM} {t : Int → Int} {n x : Int}
theorem c_X5_sign {c : Int} (hc : inR c) : zCt K (d + 1) mX5_sign [.int (iz c)] m (fun r m1 => r = zsgn c ∧ m1 = m) := by
  refine zCt.of (by decide) (Nat.le_of_ble_eq_true rfl) (vc_X5_sign_0 (d := d) c m hc (fun _ => ?_))
  have e : ∀ v : Int, c = v → ∀ w : Int, w = zsgn v → (w = zsgn c ∧ m = m) := fun v h w q => ⟨by rw [h, q], rfl⟩
  refine ⟨fun h => e _ h _ rfl, fun h => e _ h _ rfl, fun h => e _ h _ rfl, fun h => e _ h _ rfl, fun h => e _ h _ rfl, fun h => e _ h _ rfl, fun h => e _ h _ rfl, fun h => e _ h _ rfl, fun h => e _ h _ rfl, fun h => e _ h _ rfl, fun h => e _ h _ rfl, fun h => e _ h _ rfl, fun h => e _ h _ rfl, fun h => e _ h _ rfl, fun h => e _ h _ rfl, fun h => e _ h _ rfl, fun h => e _ h _ rfl, fun h => e _ h _ rfl, fun h => e _ h _ rfl, fun h => e _ h _ rfl, fun h => e _ h _ rfl, fun h => e _ h _ rfl, fun h => e _ h _ rfl, fun h => ⟨?_, rfl⟩⟩
  unfold zsgn
  (repeat' split) <;> omega
theorem c_X5_word {x1 : Int} (hx : 0 ≤ x1 ∧ x1 ≤ m.1 56 8) (h8 : m.1 56 8 ≤ 220) (hl : ∀ j, x1 ≤ j → j < m.1 56 8 → zle (m.1 57) j = true) : zCt K (d + 6) mX5_word [rr K 56, .int (iz x1)] m (fun r m1 => r = ztwd (zthh (m.1 57) x1 (m.1 56 8 - x1).toNat) ∧ m1 = m) := by
  have sp : ∀ i : Nat, i < 9 → zCt K (d + 5) mX5_spells [rr K 56, .int (iz x1), .ref (K.2.2.2.2 (10 + i))] m (fun r m1 => (r = 0 → zthh (m.1 57) x1 (m.1 56 8 - x1).toNat ≠ zwh i) ∧ (r ≠ 0 → ztwd (zthh (m.1 57) x1 (m.1 56 8 - x1).toNat) = 10 + i) ∧ m1 = m) := by
    intro i hi
    refine (c_X5_spells hi hx.1 (by omega) (by omega) h8).mono (fun r m1 q => ?_)
    have hs := zSpl_h (t := m.1 57) hi hx.2 hl
    obtain ⟨a, b, c⟩ := q
    refine ⟨fun z y => ?_, fun z => ?_, c⟩
    · have := a (hs.mpr y); omega
    · refine (ztwd_i hi).mpr ?_
      by_cases y : zthh (m.1 57) x1 (m.1 56 8 - x1).toNat = zwh i
      · exact y
      · exact absurd (b (fun q => y (hs.mp q))) z
  refine zCt.of (by decide) (Nat.le_of_ble_eq_true rfl) (vc_X5_word_0 (d := d + 3) x1 m ⟨by omega, by omega⟩ (fun _ => ?_))
  refine (sp 0 (by decide)).mono (fun r m1 q _ _ => ?_); obtain ⟨a0, b0, rfl⟩ := q
  refine ⟨fun z => ?_, fun z => ⟨(b0 z).symm, rfl⟩⟩; have a0 := a0 z
  refine (sp 1 (by decide)).mono (fun r m1 q _ _ => ?_); obtain ⟨a1, b1, rfl⟩ := q
  refine ⟨fun z => ?_, fun z => ⟨(b1 z).symm, rfl⟩⟩; have a1 := a1 z
  refine (sp 2 (by decide)).mono (fun r m1 q _ _ => ?_); obtain ⟨a2, b2, rfl⟩ := q
  refine ⟨fun z => ?_, fun z => ⟨(b2 z).symm, rfl⟩⟩; have a2 := a2 z
  refine (sp 3 (by decide)).mono (fun r m1 q _ _ => ?_); obtain ⟨a3, b3, rfl⟩ := q
  refine ⟨fun z => ?_, fun z => ⟨(b3 z).symm, rfl⟩⟩; have a3 := a3 z
  refine (sp 4 (by decide)).mono (fun r m1 q _ _ => ?_); obtain ⟨a4, b4, rfl⟩ := q
  refine ⟨fun z => ?_, fun z => ⟨(b4 z).symm, rfl⟩⟩; have a4 := a4 z
  refine (sp 5 (by decide)).mono (fun r m1 q _ _ => ?_); obtain ⟨a5, b5, rfl⟩ := q
  refine ⟨fun z => ?_, fun z => ⟨(b5 z).symm, rfl⟩⟩; have a5 := a5 z
  refine (sp 6 (by decide)).mono (fun r m1 q _ _ => ?_); obtain ⟨a6, b6, rfl⟩ := q
  refine ⟨fun z => ?_, fun z => ⟨(b6 z).symm, rfl⟩⟩; have a6 := a6 z
  refine (sp 7 (by decide)).mono (fun r m1 q _ _ => ?_); obtain ⟨a7, b7, rfl⟩ := q
  refine ⟨fun z => ?_, fun z => ⟨(b7 z).symm, rfl⟩⟩; have a7 := a7 z
  refine (sp 8 (by decide)).mono (fun r m1 q _ _ => ?_); obtain ⟨a8, b8, rfl⟩ := q
  refine ⟨fun z => ⟨?_, rfl⟩, fun z => ⟨(b8 z).symm, rfl⟩⟩; have a8 := a8 z
  have a0 : _ ≠ (459791 : Int) := a0
  have a1 : _ ≠ (423 : Int) := a1
  have a2 : _ ≠ (1111 : Int) := a2
  have a3 : _ ≠ (10631 : Int) := a3
  have a4 : _ ≠ (286610 : Int) := a4
  have a5 : _ ≠ (127274 : Int) := a5
  have a6 : _ ≠ (315743 : Int) := a6
  have a7 : _ ≠ (361240 : Int) := a7
  have a8 : _ ≠ (121882 : Int) := a8
  unfold ztwd
  rw [if_neg a0, if_neg a1, if_neg a2, if_neg a3, if_neg a4, if_neg a5, if_neg a6, if_neg a7, if_neg a8]
def zS1 (x1 a k : Int) : Prop := (a = 56 ∧ k = 8) ∨ (a = 63 ∧ k = x1)
theorem t_so_word {x1 : Int} (hn : 0 ≤ n ∧ n ≤ 220) (hT : ∀ k, m.1 57 k = t k) (hN : m.1 56 2 = n) (hx : 0 ≤ x ∧ x ≤ n) (hq : ¬ n ≤ ztq t n x) (hl : (97 ≤ t (ztq t n x) ∧ t (ztq t n x) ≤ 122)) (h63 : m.1 63 x1 = 0) :
    ∀ (g : Nat) (y : Int), y + g = n → ztq t n x ≤ y → ∀ m', zFr (zS1 x1) m m' → m'.1 56 8 = y → m'.1 63 x1 = 0 → (∀ j, ztq t n x ≤ j → j < y → zle t j = true) → zru (zle t) n (ztq t n x) = zru (zle t) n y → zV K mX5_scanOne (d + 7) 118 [(0, rr K 56), (2, .int (iz (ztq t n x)))] [] m' (fun r m2 => r = zts t n x ∧ m2.1 56 8 = zte t n x ∧ m2.1 63 x1 = ztv t n x ∧ zFr (zS1 x1) m m2) := by
  have hqb := ztq_b (t := t) hx.2
  have hl' : zle t (ztq t n x) = true := decide_eq_true hl
  have hd' : ¬ zdi t (ztq t n x) = true := fun q => by have := of_decide_eq_true q; omega
  have ee : zte t n x = zru (zle t) n (ztq t n x) := by unfold zte; rw [if_neg hq, if_neg hd', if_pos hl']
  have es : zts t n x = ztwd (zthh t (ztq t n x) (zte t n x - ztq t n x).toNat) := by unfold zts; rw [if_neg hq, if_neg hd', if_pos hl']
  have hb := ztwd_b (zthh t (ztq t n x) (zte t n x - ztq t n x).toNat)
  have ev : ztv t n x = 0 := by unfold ztv; rw [if_neg (by rw [es]; exact hb.2.2.1)]
  have fin : ∀ (y : Int) (m' : zM), ztq t n x ≤ y → y ≤ n → zFr (zS1 x1) m m' → m'.1 56 8 = y → m'.1 63 x1 = 0 → (∀ j, ztq t n x ≤ j → j < y → zle t j = true) → zru (zle t) n (ztq t n x) = y → zCt K (d + 6) mX5_word [rr K 56, .int (iz (ztq t n x))] m' (fun r2 m3 => inR r2 → zok m3 → r2 = zts t n x ∧ m3.1 56 8 = zte t n x ∧ m3.1 63 x1 = ztv t n x ∧ zFr (zS1 x1) m m3) := by
    intro y m' h0 h1 hF h8 h6 hl2 hr
    have eT : m'.1 57 = t := funext (fun k => by rw [hF.1 57 k (by unfold zS1; omega)]; exact hT k)
    refine (c_X5_word (m := m') (x1 := ztq t n x) ⟨by omega, by omega⟩ (by omega) (fun j a b => by rw [eT]; exact hl2 j a (by omega))).mono (fun r m3 q _ _ => ?_)
    obtain ⟨q1, rfl⟩ := q
    refine ⟨?_, by rw [h8, ee, hr], by rw [h6, ev], hF⟩
    rw [q1, es, eT, h8, ee, hr]
  intro g
  induction g with
  | zero =>
    intro y hg h0 m' hF h8 h6 hl2 hr
    have e2 : m'.1 56 2 = n := by rw [hF.1 56 2 (by unfold zS1; omega)]; exact hN
    rw [zru_end (p := zle t) (show n ≤ y by omega)] at hr
    refine vc_X5_scanOne_118 (d := d + 3) (ztq t n x) m' ⟨by omega, by omega⟩ (fun _ => ?_)
    rw [e2, h8]
    exact ⟨fun _ => fin y m' h0 (by omega) hF h8 h6 hl2 hr, fun q => absurd (show n ≤ y by omega) q⟩
  | succ g ih =>
    intro y hg h0 m' hF h8 h6 hl2 hr
    have e2 : m'.1 56 2 = n := by rw [hF.1 56 2 (by unfold zS1; omega)]; exact hN
    have e1 : m'.1 57 y = t y := by rw [hF.1 57 y (by unfold zS1; omega)]; exact hT y
    refine vc_X5_scanOne_118 (d := d + 3) (ztq t n x) m' ⟨by omega, by omega⟩ (fun _ => ?_)
    rw [e2, h8, e1]
    refine ⟨fun q => absurd q (by omega), fun _ => ⟨by omega, by omega, fun hc => ⟨⟨by omega, by omega⟩, fun m9 e9 _ => ?_⟩, fun hc => ?_⟩⟩
    · have hp : zle t y = true := decide_eq_true hc
      refine ih (y + 1) (by omega) (by omega) m9 (hF.put e9 (Or.inl ⟨rfl, rfl⟩)) (by rw [e9, sI_eq]) (by rw [e9, sI_ne (by omega)]; exact h6) (fun j a b => ?_) (by rw [hr, zru_go (by omega) hp])
      by_cases hj : j = y
      · rw [hj]; exact hp
      · exact hl2 j a (by omega)
    · rw [zru_no (p := zle t) (fun q => hc (of_decide_eq_true q))] at hr
      exact fin y m' h0 (by omega) hF h8 h6 hl2 hr
theorem t_so_num {x1 : Int} (hx1 : 0 ≤ x1 ∧ x1 < 221) (hn : 0 ≤ n ∧ n ≤ 220) (hT : ∀ k, m.1 57 k = t k) (hN : m.1 56 2 = n) (hx : 0 ≤ x ∧ x ≤ n) (hq : ¬ n ≤ ztq t n x) (hl : (48 ≤ t (ztq t n x) ∧ t (ztq t n x) ≤ 57)) (h63 : m.1 63 x1 = 0) :
    ∀ (g : Nat) (y : Int), y + g = n → ztq t n x ≤ y → ∀ m', zFr (zS1 x1) m m' → m'.1 56 8 = y → m'.1 63 x1 = 0 → (∀ j, ztq t n x ≤ j → j < y → zdi t j = true) → zru (zdi t) n (ztq t n x) = zru (zdi t) n y → zV K mX5_scanOne (d + 7) 12 [(0, rr K 56), (1, .int (iz x1)), (2, .int (iz (ztq t n x)))] [] m' (fun r m2 => r = zts t n x ∧ m2.1 56 8 = zte t n x ∧ m2.1 63 x1 = ztv t n x ∧ zFr (zS1 x1) m m2) := by
  have hqb := ztq_b (t := t) hx.2
  have hd' : zdi t (ztq t n x) = true := decide_eq_true hl
  have ee : zte t n x = zru (zdi t) n (ztq t n x) := by unfold zte; rw [if_neg hq, if_pos hd']
  have es : zts t n x = if zte t n x - ztq t n x ≤ 3 then 2 else 1 := by unfold zts; rw [if_neg hq, if_pos hd']
  have fin2 : ∀ (e : Int), zte t n x = e → e - ztq t n x ≤ 3 → ztq t n x ≤ e → e ≤ n → (∀ j, ztq t n x ≤ j → j < e → zdi t j = true) → ∀ (g : Nat) (z : Int), z + g = e → ztq t n x ≤ z → ∀ m', zFr (zS1 x1) m m' → m'.1 56 8 = e → m'.1 63 x1 = zdn t (ztq t n x) (z - ztq t n x).toNat → zV K mX5_scanOne (d + 7) 65 [(0, rr K 56), (1, .int (iz x1)), (3, .int (iz z))] [] m' (fun r m2 => r = zts t n x ∧ m2.1 56 8 = zte t n x ∧ m2.1 63 x1 = ztv t n x ∧ zFr (zS1 x1) m m2) := by
    intro e he h3 hqe hen hdg g
    have es2 : zts t n x = 2 := by rw [es, if_pos (by omega)]
    induction g with
    | zero =>
      intro z hg h0 m' hF h8 h6
      refine vc_X5_scanOne_65 (d := d + 3) x1 z m' ⟨by omega, by omega⟩ ⟨by omega, by omega⟩ (fun _ => ?_)
      rw [h8]
      refine ⟨fun _ => ⟨es2.symm, by rw [he], ?_, hF⟩, fun q => absurd (by omega) q⟩
      rw [h6]; unfold ztv; rw [if_pos es2, he, show z = e by omega]
    | succ g ih =>
      intro z hg h0 m' hF h8 h6
      have e1 : m'.1 57 z = t z := by rw [hF.1 57 z (by unfold zS1; omega)]; exact hT z
      have hb := zdn_b (t := t) (q := ztq t n x) (k := (z - ztq t n x).toNat) (fun j a b => hdg j a (by omega))
      have hpw := zpw10 (z - ztq t n x).toNat (by omega)
      have h1000 : (10 : Int) ^ 3 = 1000 := by decide
      have hdz := of_decide_eq_true (hdg z h0 (by omega))
      refine vc_X5_scanOne_65 (d := d + 3) x1 z m' ⟨by omega, by omega⟩ ⟨by omega, by omega⟩ (fun _ => ?_)
      rw [h8, h6, e1]
      refine ⟨fun q => absurd q (by omega), fun _ => ⟨hx1.1, hx1.2, by omega, by omega, ⟨by omega, by omega⟩, fun m7 e7 _ => ih (z + 1) (by omega) (by omega) m7 (hF.put e7 (Or.inr ⟨rfl, rfl⟩)) (by rw [e7, sI_ne (by omega)]; exact h8) ?_⟩⟩
      rw [e7, sI_eq, show (z + 1 - ztq t n x).toNat = (z - ztq t n x).toNat + 1 by omega]
      show _ = 10 * zdn t (ztq t n x) (z - ztq t n x).toNat + (t (ztq t n x + ((z - ztq t n x).toNat : Nat)) - 48)
      rw [show ztq t n x + (((z - ztq t n x).toNat : Nat) : Int) = z by omega]
      omega
  have fin : ∀ (y : Int) (m' : zM), ztq t n x ≤ y → y ≤ n → zFr (zS1 x1) m m' → m'.1 56 8 = y → m'.1 63 x1 = 0 → (∀ j, ztq t n x ≤ j → j < y → zdi t j = true) → zru (zdi t) n (ztq t n x) = y → inR (y - ztq t n x) ∧ (y - ztq t n x ≤ 3 → zV K mX5_scanOne (d + 7) 65 [(0, rr K 56), (1, .int (iz x1)), (3, .int (iz (ztq t n x)))] [] m' (fun r m2 => r = zts t n x ∧ m2.1 56 8 = zte t n x ∧ m2.1 63 x1 = ztv t n x ∧ zFr (zS1 x1) m m2)) ∧ (¬ (y - ztq t n x ≤ 3) → (1 : Int) = zts t n x ∧ y = zte t n x ∧ m'.1 63 x1 = ztv t n x ∧ zFr (zS1 x1) m m') := by
    intro y m' h0 h1 hF h8 h6 hl2 hr
    refine ⟨⟨by omega, by omega⟩, fun h3 => ?_, fun h3 => ?_⟩
    · refine fin2 y (by rw [ee, hr]) h3 h0 h1 hl2 (y - ztq t n x).toNat (ztq t n x) (by omega) (Int.le_refl _) m' hF h8 ?_
      rw [h6, show (ztq t n x - ztq t n x).toNat = 0 by omega]; rfl
    · have es1 : zts t n x = 1 := by rw [es, if_neg (by rw [ee, hr]; exact h3)]
      refine ⟨es1.symm, by rw [ee, hr], ?_, hF⟩
      rw [h6]; unfold ztv; rw [if_neg (by omega)]
  intro g
  induction g with
  | zero =>
    intro y hg h0 m' hF h8 h6 hl2 hr
    have e2 : m'.1 56 2 = n := by rw [hF.1 56 2 (by unfold zS1; omega)]; exact hN
    rw [zru_end (p := zdi t) (show n ≤ y by omega)] at hr
    refine vc_X5_scanOne_12 (d := d + 3) x1 (ztq t n x) m' ⟨by omega, by omega⟩ ⟨by omega, by omega⟩ (fun _ => ?_)
    have hf := fin y m' h0 (by omega) hF h8 h6 hl2 hr
    rw [e2, h8]
    exact ⟨fun _ => ⟨hf.1, hf.2.1, hf.2.2⟩, fun q => absurd (show n ≤ y by omega) q⟩
  | succ g ih =>
    intro y hg h0 m' hF h8 h6 hl2 hr
    have e2 : m'.1 56 2 = n := by rw [hF.1 56 2 (by unfold zS1; omega)]; exact hN
    have e1 : m'.1 57 y = t y := by rw [hF.1 57 y (by unfold zS1; omega)]; exact hT y
    refine vc_X5_scanOne_12 (d := d + 3) x1 (ztq t n x) m' ⟨by omega, by omega⟩ ⟨by omega, by omega⟩ (fun _ => ?_)
    rw [e2, h8, e1]
    refine ⟨fun q => absurd q (by omega), fun _ => ⟨by omega, by omega, fun hc => ⟨⟨by omega, by omega⟩, fun m9 e9 _ => ?_⟩, fun hc => ?_⟩⟩
    · have hp : zdi t y = true := decide_eq_true hc
      refine ih (y + 1) (by omega) (by omega) m9 (hF.put e9 (Or.inl ⟨rfl, rfl⟩)) (by rw [e9, sI_eq]) (by rw [e9, sI_ne (by omega)]; exact h6) (fun j a b => ?_) (by rw [hr, zru_go (by omega) hp])
      by_cases hj : j = y
      · rw [hj]; exact hp
      · exact hl2 j a (by omega)
    · rw [zru_no (p := zdi t) (fun q => hc (of_decide_eq_true q))] at hr
      have hf := fin y m' h0 (by omega) hF h8 h6 hl2 hr
      exact ⟨hf.1, hf.2.1, hf.2.2⟩
theorem c_X5_scanOne {x1 : Int} (hx1 : 0 ≤ x1 ∧ x1 < 221) (hn : 0 ≤ n ∧ n ≤ 220) (hT : ∀ k, m.1 57 k = t k) (hN : m.1 56 2 = n) (hx : 0 ≤ x ∧ x ≤ n) (hq : ¬ n ≤ ztq t n x) (h8 : m.1 56 8 = ztq t n x) (h63 : m.1 63 x1 = 0) : zCt K (d + 7) mX5_scanOne [rr K 56, .int (iz x1), .int (iz (ztq t n x))] m (fun r m2 => r = zts t n x ∧ m2.1 56 8 = zte t n x ∧ m2.1 63 x1 = ztv t n x ∧ zFr (zS1 x1) m m2) := by
  have hqb := ztq_b (t := t) hx.2
  refine zCt.of (by decide) (Nat.le_of_ble_eq_true rfl) (vc_X5_scanOne_0 (d := d + 3) x1 (ztq t n x) m ⟨by omega, by omega⟩ ⟨by omega, by omega⟩ (fun hok => ?_))
  have hir := hok 57 (ztq t n x)
  rw [hT, h8]
  rw [hT] at hir
  refine ⟨by omega, by omega, fun hdg => ?_, fun hdg => ⟨fun hl => ?_, fun hl => ⟨⟨by omega, by omega⟩, fun m9 e9 _ => ?_⟩⟩⟩
  · exact t_so_num hx1 hn hT hN hx hq hdg h63 (n - ztq t n x).toNat _ (by omega) (Int.le_refl _) m zFr.rf h8 h63 (fun j a b => by omega) rfl
  · exact t_so_word hn hT hN hx hq hl h63 (n - ztq t n x).toNat _ (by omega) (Int.le_refl _) m zFr.rf h8 h63 (fun j a b => by omega) rfl
  · have hl' : ¬ zle t (ztq t n x) = true := fun q => hl (of_decide_eq_true q)
    have hd' : ¬ zdi t (ztq t n x) = true := fun q => hdg (of_decide_eq_true q)
    have ee : zte t n x = ztq t n x + 1 := by unfold zte; rw [if_neg hq, if_neg hd', if_neg hl']
    have es : zts t n x = zsgn (t (ztq t n x)) := by unfold zts; rw [if_neg hq, if_neg hd', if_neg hl']
    have hb := zsgn_b (t (ztq t n x))
    have ev : ztv t n x = 0 := by unfold ztv; rw [if_neg (by rw [es]; exact hb.2.2)]
    rw [show m9.1 57 (ztq t n x) = t (ztq t n x) by rw [e9, sI_ne (by omega)]; exact hT _]
    refine (c_X5_sign hir).mono (fun r m2 q _ _ => ?_)
    obtain ⟨q1, rfl⟩ := q
    exact ⟨by rw [q1, es], by rw [e9, sI_eq, ee], by rw [e9, sI_ne (by omega), h63, ev], zFr.rf.put e9 (Or.inl ⟨rfl, rfl⟩)⟩
end SCAN
