/-! ===== read(): both sides ===== -/
def zBut (P P' : F2) : Prop := ∀ a k, ((a = 98 ∧ (k = 0 ∨ k = 1 ∨ k = 2 ∨ k = 4 ∨ k = 7)) ∨ (99 ≤ a ∧ a ≤ 103)) → P' a k = P a k
section BT
variable {P P' : F2}
theorem zBut.f (h : zBut P P') {k : Int} (hk : k = 0 ∨ k = 1 ∨ k = 2 ∨ k = 4 ∨ k = 7) : P' 98 k = P 98 k := h 98 k (Or.inl ⟨rfl, hk⟩)
theorem zBut.r (h : zBut P P') {a : Int} (ha : 99 ≤ a ∧ a ≤ 103) (k : Int) : P' a k = P a k := h a k (Or.inr ha)
theorem zBut.pz (h : zBut P P') (p k : Int) : zp P' p k = zp P p k := h.r (by omega) _
theorem zBut.wf (h : zBut P P') (hW : zWf P) : zWf P' := by
  obtain ⟨h1, h2, h3, h4, h5, h6, h7, h8, h9, h10⟩ := hW
  have e0 := h.f (k := 0) (by omega)
  have e1 := h.f (k := 1) (by omega)
  have e2 := h.f (k := 2) (by omega)
  have e4 := h.f (k := 4) (by omega)
  have e7 := h.f (k := 7) (by omega)
  refine ⟨by rw [e0]; exact h1, by rw [e1]; exact h2, by rw [e2]; exact h3, by rw [e4]; exact h4, by rw [e7]; exact h5, fun i a b => ?_, fun p a b => ?_, fun p a b => ?_, fun k a b => ?_, fun i a b => ?_⟩
  · rw [e2] at b; rw [h.r (by omega)]; exact h6 i a b
  · rw [e4] at b
    unfold zPartOk
    rw [h.pz p 0, h.pz p 1, h.pz p 2, h.pz p 3, h.pz p 4, h.pz p 5, h.pz p 6, h.pz p 7, h.pz p 8, h.pz p 9, e2]
    exact h7 p a b
  · rw [e4] at b; unfold zOpenOk; rw [h.r (by omega), h.r (by omega)]; exact h8 p a b
  · rw [e7] at b; rw [e4, h.r (by omega), h.r (by omega)]; exact h9 k a b
  · rw [h.r (by omega)]; exact h10 i a b
theorem zBut.oN (h : zBut P P') : ∀ k : Nat, zoN P' k = zoN P k := by
  intro k
  induction k with
  | zero => rfl
  | succ k ih => rw [zoN_s, zoN_s, ih, h.r (by omega)]
theorem zBut.oc (h : zBut P P') : zoc P' = zoc P := by
  unfold zoc
  rw [h.f (k := 4) (by omega)]
  exact h.oN _
theorem zBut.rp {m m' : zM} (h : zBut P P') (hW : zWf P) (hR : RP m 1 P) (hf : ∀ a k, 1 ≤ a → a ≤ 19 → ¬ (7 ≤ a ∧ a ≤ 9) → m'.1 a k = m.1 a k) : RP m' 1 P' := by
  obtain ⟨h1, h2, h3, h4, h5, h6, h7, h8, h9, h10⟩ := hR
  have e0 := h.f (k := 0) (by omega)
  have e1 := h.f (k := 1) (by omega)
  have e2 := h.f (k := 2) (by omega)
  have e4 := h.f (k := 4) (by omega)
  have e7 := h.f (k := 7) (by omega)
  have w4 := hW.2.2.2.1
  have w2 := hW.2.2.1
  have w7 := hW.2.2.2.2.1
  have g : ∀ a k, 1 ≤ a → a ≤ 6 ∨ (10 ≤ a ∧ a ≤ 19) → m'.1 a k = m.1 a k := fun a k x y => hf a k x (by omega) (by omega)
  refine ⟨by rw [e0, g _ _ (by omega) (by omega)]; exact h1, by rw [e1, g _ _ (by omega) (by omega)]; exact h2, by rw [e2, g _ _ (by omega) (by omega)]; exact h3, by rw [e4, g _ _ (by omega) (by omega)]; exact h4, by rw [e7, g _ _ (by omega) (by omega)]; exact h5, fun i a b => ?_, fun p k a b c d => ?_, fun p a b => ?_, fun k a b => ?_, fun i a b => ?_⟩
  · rw [e2] at b; rw [h.r (by omega), g _ _ (by omega) (by omega)]; exact h6 i a b
  · rw [e4] at b; rw [h.pz, g _ _ (by omega) (by omega)]; exact h7 p k a b c d
  · rw [e4] at b; rw [h.r (by omega), h.r (by omega), g _ _ (by omega) (by omega), g _ _ (by omega) (by omega)]; exact h8 p a b
  · rw [e7] at b; rw [h.r (by omega), h.r (by omega), g _ _ (by omega) (by omega), g _ _ (by omega) (by omega)]; exact h9 k a b
  · rw [h.r (by omega), g _ _ (by omega) (by omega)]; exact h10 i a b
end BT
/-- the wishes of the class's draft, as a plan's -/
def zP0 (m : zM) : F2 := fun a k => if a = 98 then m.1 58 2 else if a = 104 then m.1 60 (k + 1) else if a = 105 then zxm (m.1 59 k) else 0
theorem zseg_map {f : Int → Int} {g : Int → Int} : ∀ (n : Nat) (b : Int), zseg (fun k => g (f k)) b n = (zseg f b n).map g := by
  intro n
  induction n with
  | zero => exact fun _ => rfl
  | succ n ih =>
    intro b
    show g (f b) :: zseg (fun k => g (f k)) (b + 1) n = g (f b) :: (zseg f (b + 1) n).map g
    rw [ih]
theorem zP0_wb {m : zM} (h0 : m.1 60 0 = 0) (i : Int) : zwb (zP0 m) i = m.1 60 i := by
  unfold zwb
  split
  · next h => rw [h, h0]
  · show m.1 60 (i - 1 + 1) = _
    rw [show i - 1 + 1 = i by omega]
theorem zP0_wM {m : zM} (h0 : m.1 60 0 = 0) (i : Int) : zwM (zP0 m) i = (zseg (m.1 59) (m.1 60 i) (m.1 60 (i + 1) - m.1 60 i).toNat).map zxm := by
  unfold zwM
  rw [zP0_wb h0, ← zseg_map]
  rfl
theorem zP0_ok {m : zM} {ws ws' : List (List Int)} (h : zDrf m ws) (hq : zWq ws ws') (hu : 0 ≤ m.1 58 3 ∧ m.1 58 3 ≤ 220) (hl : ws.length ≤ 8) : zWish (zP0 m) ∧ RW m 58 (zP0 m) := by
  obtain ⟨h1, h2, h3, h4⟩ := h
  have e10 : zP0 m 98 10 = ws.length := h1
  have key : ∀ i, 0 ≤ i → i < (ws.length : Int) → (0 ≤ m.1 60 i ∧ m.1 60 i ≤ m.1 60 (i + 1) ∧ m.1 60 (i + 1) ≤ m.1 58 3) ∧ zwM (zP0 m) i = ws.getD i.toNat [] := by
    intro i a b
    obtain ⟨q1, q2⟩ := h4 i.toNat (by omega)
    rw [show ((i.toNat : Nat) : Int) = i by omega] at q1 q2
    exact ⟨q1, by rw [zP0_wM h2, q2]⟩
  refine ⟨⟨by rw [e10]; omega, fun i a b => ?_⟩, ⟨rfl, hu, h2, fun i a b => ?_⟩⟩
  · rw [e10] at b
    obtain ⟨q1, q2⟩ := key i a b
    rw [zP0_wb h2, q2]
    refine ⟨⟨q1.1, q1.2.1, ?_⟩, ztR_mono (by omega) (hq.2 i.toNat (by omega)).1⟩
    show m.1 60 (i + 1) ≤ 230
    omega
  · rw [e10] at b
    obtain ⟨q1, q2⟩ := key i a b
    have e : zwX m 58 i = zwM (zP0 m) i := by rw [zP0_wM h2]; rfl
    rw [e]
    exact ⟨q1, by rw [q2]; exact (hq.2 i.toNat (by omega)).1, fun env => rfl⟩
theorem RW.sw {m m' : zM} {P P' : F2} {w : Int} (h : RW m w P) (hf : ∀ a k, w ≤ a → a ≤ w + 2 → m'.1 a k = m.1 a k) (e : P' 98 10 = P 98 10) (hs : ∀ i, 0 ≤ i → i < P 98 10 → ∀ env, zholds env (zwM P i) = zholds env (zwM P' i)) : RW m' w P' := by
  obtain ⟨h1, h2, h3, h4⟩ := h.kept hf
  refine ⟨by rw [e]; exact h1, h2, h3, fun i a b => ?_⟩
  rw [e] at b
  obtain ⟨q1, q2, q3⟩ := h4 i a b
  exact ⟨q1, q2, fun env => by rw [q3, hs i a b]⟩
/-! the tokens know the tape only as far as it goes -/
section CG
variable {t t' : Int → Int} {n : Int}
theorem zrun_c {p p' : Int → Bool} : ∀ (f : Nat) (x : Int), (∀ k, x ≤ k → k < x + f → p k = p' k) → zrun p f x = zrun p' f x := by
  intro f
  induction f with
  | zero => exact fun _ _ => rfl
  | succ f ih =>
    intro x h
    show (if p x then _ else _) = (if p' x then _ else _)
    rw [h x (by omega) (by omega), ih (x + 1) (fun k a b => h k (by omega) (by omega))]
theorem zru_c {p p' : Int → Bool} {x : Int} (h : ∀ k, x ≤ k → k < n → p k = p' k) : zru p n x = zru p' n x := by
  unfold zru
  exact zrun_c _ _ (fun k a b => h k a (by omega))
theorem ztq_c (h : ∀ k, 0 ≤ k → k < n → t k = t' k) {x : Int} (hx : 0 ≤ x) : ztq t n x = ztq t' n x := by
  unfold ztq
  exact zru_c (fun k a b => by unfold zbl; rw [h k (by omega) b])
theorem zthh_c {q : Int} : ∀ k : Nat, (∀ j, q ≤ j → j < q + k → t j = t' j) → zthh t q k = zthh t' q k := by
  intro k
  induction k with
  | zero => exact fun _ => rfl
  | succ k ih =>
    intro h
    show 27 * zthh t q k + (t (q + k) - 96) = 27 * zthh t' q k + (t' (q + k) - 96)
    rw [ih (fun j a b => h j a (by omega)), h (q + k) (by omega) (by omega)]
theorem zdn_c {q : Int} : ∀ k : Nat, (∀ j, q ≤ j → j < q + k → t j = t' j) → zdn t q k = zdn t' q k := by
  intro k
  induction k with
  | zero => exact fun _ => rfl
  | succ k ih =>
    intro h
    show 10 * zdn t q k + (t (q + k) - 48) = 10 * zdn t' q k + (t' (q + k) - 48)
    rw [ih (fun j a b => h j a (by omega)), h (q + k) (by omega) (by omega)]
theorem zte_c (h : ∀ k, 0 ≤ k → k < n → t k = t' k) {x : Int} (hx : 0 ≤ x ∧ x ≤ n) : zte t n x = zte t' n x := by
  have hq := ztq_c h hx.1
  have hb := ztq_b (t := t') hx.2
  unfold zte
  rw [hq]
  by_cases h1 : n ≤ ztq t' n x
  · rw [if_pos h1, if_pos h1]
  · rw [if_neg h1, if_neg h1]
    have e1 : zdi t (ztq t' n x) = zdi t' (ztq t' n x) := by unfold zdi; rw [h _ (by omega) (by omega)]
    have e2 : zle t (ztq t' n x) = zle t' (ztq t' n x) := by unfold zle; rw [h _ (by omega) (by omega)]
    have e3 : zru (zdi t) n (ztq t' n x) = zru (zdi t') n (ztq t' n x) := zru_c (fun k a b => by unfold zdi; rw [h k (by omega) b])
    have e4 : zru (zle t) n (ztq t' n x) = zru (zle t') n (ztq t' n x) := zru_c (fun k a b => by unfold zle; rw [h k (by omega) b])
    rw [e1, e2, e3, e4]
theorem zts_c (h : ∀ k, 0 ≤ k → k < n → t k = t' k) {x : Int} (hx : 0 ≤ x ∧ x ≤ n) : zts t n x = zts t' n x := by
  have hq := ztq_c h hx.1
  have he := zte_c h hx
  have hb := ztq_b (t := t') hx.2
  have hb2 := zte_b (t := t') hx.2
  unfold zts
  rw [hq, he]
  by_cases h1 : n ≤ ztq t' n x
  · rw [if_pos h1, if_pos h1]
  · rw [if_neg h1, if_neg h1]
    have e1 : zdi t (ztq t' n x) = zdi t' (ztq t' n x) := by unfold zdi; rw [h _ (by omega) (by omega)]
    have e2 : zle t (ztq t' n x) = zle t' (ztq t' n x) := by unfold zle; rw [h _ (by omega) (by omega)]
    rw [e1, e2, h (ztq t' n x) (by omega) (by omega), zthh_c (t := t) (t' := t') (zte t' n x - ztq t' n x).toNat (fun j a b => h j (by omega) (by omega))]
theorem ztv_c (h : ∀ k, 0 ≤ k → k < n → t k = t' k) {x : Int} (hx : 0 ≤ x ∧ x ≤ n) : ztv t n x = ztv t' n x := by
  have hq := ztq_c h hx.1
  have he := zte_c h hx
  have hb := ztq_b (t := t') hx.2
  have hb2 := zte_b (t := t') hx.2
  unfold ztv
  rw [zts_c h hx, hq, he, zdn_c (t := t) (t' := t') (zte t' n x - ztq t' n x).toNat (fun j a b => h j (by omega) (by omega))]
theorem ztx_c (hn : 0 ≤ n) (h : ∀ k, 0 ≤ k → k < n → t k = t' k) : ∀ i : Nat, ztx t n i = ztx t' n i := by
  intro i
  induction i with
  | zero => rfl
  | succ i ih =>
    show zte t n (ztx t n i) = zte t' n (ztx t' n i)
    rw [ih]
    exact zte_c h (ztx_b hn i)
end CG
theorem o_read {K : zCx} {d : Nat} {n : Int} {m : zM} (h : zInv n m) (hn : 0 ≤ n ∧ n ≤ 100) : zOk K (d + 22) mX9_read mX10_read [] n m := by
  obtain ⟨⟨hG, hR⟩, h2, h3, h4, h5, h6, h7⟩ := id h
  obtain ⟨t1, t2, t3, t4⟩ := h5
  have hag : ∀ k, 0 ≤ k → k < m.1 98 23 → m.1 57 k = m.1 111 k := fun k a b => (t3 k a b).1
  have hS : (fun j => zts (m.1 57) (m.1 98 23) (ztx (m.1 57) (m.1 98 23) j)) = tS (m.1 111) (m.1 98 23) := funext (fun j => by rw [ztx_c t2.1 hag]; exact zts_c hag (ztx_b t2.1 j))
  have hV : (fun j => ztv (m.1 57) (m.1 98 23) (ztx (m.1 57) (m.1 98 23) j)) = tV (m.1 111) (m.1 98 23) := funext (fun j => by rw [ztx_c t2.1 hag]; exact ztv_c hag (ztx_b t2.1 j))
  have hQ : ∀ j : Nat, ztq (m.1 57) (m.1 98 23) (ztx (m.1 57) (m.1 98 23) j) = tQ (m.1 111) (m.1 98 23) j := fun j => by rw [ztx_c t2.1 hag]; exact ztq_c hag (ztx_b t2.1 j).1
  obtain ⟨E, hE1, hE2, hE3⟩ := ztE (t := m.1 57) (n := m.1 98 23) t2.1
  have hE0 : tS (m.1 111) (m.1 98 23) E = 0 := by rw [← congrFun hS E]; exact hE2
  have vb : ∀ j, 0 ≤ tV (m.1 111) (m.1 98 23) j ∧ tV (m.1 111) (m.1 98 23) j ≤ 999 := fun j => ztv_b (ztx_b t2.1 j).2
  obtain ⟨g1, g2, g3⟩ := gW_q (S := tS (m.1 111) (m.1 98 23)) (V := tV (m.1 111) (m.1 98 23)) vb 9 0 0 [] [] ⟨rfl, fun j hj => absurd hj (by show ¬ j < 0; omega)⟩
  have hTa : ∀ m1 : zM, (∀ k, m1.1 111 k = m.1 111 k) → m1.1 98 23 = m.1 98 23 → zTa (m.1 111) (m.1 98 23) m1 := fun m1 x y => ⟨t2, fun k a b => (t3 k a b).2, x, y⟩
  refine zCt.of (by decide) (Nat.le_of_ble_eq_true rfl) (vc_X9_read_0 (d := d) m (fun _ => ?_))
  refine (c_X5_parse (d := d) (t := m.1 57) t2 (fun _ => rfl) t1 t4 (by omega) hE2 hE3).mono (fun r m2 q _ _ m3 e3 _ => ?_)
  rw [hS, hV] at q
  obtain ⟨q1, q2, q3⟩ := q
  cases hg : (gW (tS (m.1 111) (m.1 98 23)) (tV (m.1 111) (m.1 98 23)) true 9 0 0 []).2 with
  | none =>
    have hr := q3 hg
    rw [hQ] at hr
    have hq0 := tQ_nn (t := m.1 111) (n := m.1 98 23) t2.1 (gW (tS (m.1 111) (m.1 98 23)) (tV (m.1 111) (m.1 98 23)) true 9 0 0 []).1
    refine ⟨fun z => absurd z (by omega), fun _ => ⟨⟨by omega, by omega⟩, ?_⟩⟩
    have nc : ∀ a k, ¬ ((56 ≤ a ∧ a ≤ 63)) → m3.1 a k = m.1 a k := fun a k z => by rw [e3, sI_ne (by omega)]; exact q1.1 a k (by unfold zPz; omega)
    refine (c_X10_read (d := d + 12) (m := m3) (t := m.1 111) (n := m.1 98 23) (E := E) hE0 (by omega) (hTa m3 (fun k => nc _ _ (by omega)) (nc _ _ (by omega)))).mono (fun r' m4 p => ?_)
    obtain ⟨p1, p2, p3, p4⟩ := p
    obtain ⟨s1, s2, s3, s4⟩ := p4 (g3 hg)
    refine ⟨by rw [s1, hr, g1], ?_⟩
    have nn : ∀ a k, ¬ (56 ≤ a ∧ a ≤ 63) → ¬ zRre a k → m4.1 a k = m.1 a k := fun a k x y => by rw [p1.1 a k y]; exact nc a k x
    have ep : pv m4.1 = pv m.1 := pv_eq (fun a k z => by
      by_cases c1 : a = 98 ∧ k = 10
      · rw [c1.1, c1.2, s2]; exact nc _ _ (by omega)
      · by_cases c2 : a = 104
        · rw [c2, s3]; exact nc _ _ (by omega)
        · by_cases c3 : a = 105
          · rw [c3, s4]; exact nc _ _ (by omega)
          · exact nn a k (by omega) (by unfold zRre; omega))
    have nl : ∀ k, m4.2.1 124 k = m.2.1 124 k := fun k => by rw [p1.2 _ _ (by unfold zRre; omega), e3, sI_2, q1.2]
    have nx : ∀ a k, ¬ (56 ≤ a ∧ a ≤ 63) → ¬ ((a = 98 ∧ ((23 ≤ k ∧ k ≤ 28) ∨ k = 32 ∨ k = 33 ∨ k = 10)) ∨ a = 112 ∨ a = 113 ∨ a = 114 ∨ a = 104 ∨ a = 105) → m4.1 a k = m.1 a k := nn
    refine ⟨⟨by rw [ep]; exact hG, by rw [ep]; exact hR.kept hG.1 (fun a k x y => nx a k (by omega) (by omega))⟩, ⟨h2.1.k (fun t => nx _ _ (by omega) (by omega)) (nx _ _ (by omega) (by omega)), by rw [nx _ _ (by omega) (by omega)]; have := h2.2; omega⟩, h3.k (fun a k z => nx a k (by omega) (by omega)), h4.k (fun a k z => nx a k (by omega) (by omega)), ⟨?_, by rw [p2]; omega, fun i x y => ?_, ?_⟩, h6.k (fun a k z => nx a k (by omega) (by omega)) nl, h7.k (fun a k z => nx a k (by omega) (by omega))⟩
    · rw [p2, p1.1 _ _ (by unfold zRre; omega), e3, sI_eq]
    · rw [p2] at y; omega
    · rw [p1.1 _ _ (by unfold zRre; omega), e3, sI_ne (by omega), q1.1 _ _ (by unfold zPz; omega)]; exact t4
  | some ws =>
    obtain ⟨r1, r2, r3, r4, r5⟩ := q2 ws hg
    obtain ⟨ws', w1, w2⟩ := g2 ws hg
    have f3 : ∀ a k, a ≠ 56 → m3.1 a k = m2.1 a k := fun a k z => by rw [e3, sI_ne (by omega)]
    have hd3 : zDrf m3 ws := by
      unfold zDrf
      rw [f3 58 _ (by omega), f3 58 _ (by omega), show m3.1 59 = m2.1 59 from funext (fun k => f3 _ _ (by omega)), show m3.1 60 = m2.1 60 from funext (fun k => f3 _ _ (by omega))]
      exact r2
    have hok := zP0_ok hd3 w2 (by rw [f3 _ _ (by omega)]; omega) r5
    refine ⟨fun _ => ?_, fun z => absurd (by omega) z⟩
    refine (c_X8_copyFrom (d := d + 20) (w := 7) (w1 := 58) (by unfold zWi; omega) (by unfold zWi; omega) (by omega) hok.1 hok.2).mono (fun _ m7 q _ _ => ?_)
    obtain ⟨-, c1, c2⟩ := q
    have nc : ∀ a k, ¬ (56 ≤ a ∧ a ≤ 63) → ¬ (7 ≤ a ∧ a ≤ 9) → m7.1 a k = m.1 a k := fun a k z y => by rw [c1.1 a k (by omega), e3, sI_ne (by omega)]; exact q1.1 a k (by unfold zPz; omega)
    have e72 : m7.1 7 2 = ws.length := by rw [c2.1]; exact hd3.1
    rw [e72]
    refine (c_X10_read (d := d + 12) (m := m7) (t := m.1 111) (n := m.1 98 23) (E := E) hE0 (by omega) (hTa m7 (fun k => nc _ _ (by omega) (by omega)) (nc _ _ (by omega) (by omega)))).mono (fun r' m4 p => ?_)
    obtain ⟨p1, p2, p3, p4⟩ := p
    obtain ⟨s1, s2, s3⟩ := p3 ws' w1
    refine ⟨by rw [s1, w2.1], ?_⟩
    have nx : ∀ a k, ¬ (56 ≤ a ∧ a ≤ 63) → ¬ (7 ≤ a ∧ a ≤ 9) → ¬ ((a = 98 ∧ ((23 ≤ k ∧ k ≤ 28) ∨ k = 32 ∨ k = 33 ∨ k = 10)) ∨ a = 112 ∨ a = 113 ∨ a = 114 ∨ a = 104 ∨ a = 105) → m4.1 a k = m.1 a k := fun a k x y z => by rw [p1.1 a k z]; exact nc a k x y
    have nl : ∀ k, m4.2.1 124 k = m.2.1 124 k := fun k => by rw [p1.2 _ _ (by unfold zRre; omega), c1.2, e3, sI_2, q1.2]
    have hbt : zBut (pv m.1) (pv m4.1) := fun a k z => by
      have : (a = 98 ∧ 0 ≤ k ∧ k ≤ 17) ∨ (99 ≤ a ∧ a ≤ 105) := by omega
      rw [pv_at this, pv_at this]
      exact nx a k (by omega) (by omega) (by omega)
    have ep10 : pv m4.1 98 10 = ws.length := by rw [pv_at (by omega), s2, w2.1]
    have e104 : ∀ k, pv m4.1 104 k = m4.1 104 k := fun k => pv_at (by omega)
    have e105 : pv m4.1 105 = m4.1 105 := funext (fun k => pv_at (by omega))
    have ewb : ∀ i, zwb (pv m4.1) i = zbg (m4.1 104) i := fun i => by unfold zwb zbg; split; rfl; exact e104 _
    have key : ∀ i, 0 ≤ i → i < (ws.length : Int) → (0 ≤ zwb (pv m4.1) i ∧ zwb (pv m4.1) i ≤ pv m4.1 104 i ∧ pv m4.1 104 i ≤ 230) ∧ zwM (pv m4.1) i = ws'.getD i.toNat [] := by
      intro i a b
      obtain ⟨y1, y2⟩ := s3 i.toNat (by have := w2.1; omega)
      rw [show ((i.toNat : Nat) : Int) = i by omega] at y1 y2
      rw [ewb, e104]
      refine ⟨y1, ?_⟩
      unfold zwM
      rw [ewb, e104, e105, y2]
    have hWi : zWish (pv m4.1) := by
      refine ⟨by rw [ep10]; omega, fun i a b => ?_⟩
      rw [ep10] at b
      obtain ⟨y1, y2⟩ := key i a b
      exact ⟨y1, by rw [y2]; exact (w2.2 i.toNat (by omega)).2.1⟩
    have hRW : RW m4 7 (pv m4.1) := by
      refine RW.sw c2 (fun a k x y => p1.1 a k (by unfold zRre; omega)) (by rw [ep10]; exact hd3.1.symm) (fun i a b env => ?_)
      have b : i < (ws.length : Int) := by have e : zP0 m3 98 10 = ws.length := hd3.1; omega
      obtain ⟨y1, y2⟩ := key i a b
      obtain ⟨z1, z2⟩ := hd3.2.2.2 i.toNat (by omega)
      rw [show ((i.toNat : Nat) : Int) = i by omega] at z2
      rw [y2, zP0_wM hd3.2.1, z2]
      unfold zholds
      rw [(w2.2 i.toNat (by omega)).2.2 env []]
    refine ⟨⟨⟨hbt.wf hG.1, hWi, by rw [hbt.oc]; exact hG.2.2⟩, hbt.rp hG.1 hR.1 (fun a k x y z => nx a k (by omega) z (by omega)), hRW⟩, ⟨h2.1.k (fun t => nx _ _ (by omega) (by omega) (by omega)) (nx _ _ (by omega) (by omega) (by omega)), by rw [nx _ _ (by omega) (by omega) (by omega)]; have := h2.2; omega⟩, h3.k (fun a k z => nx a k (by omega) (by omega) (by omega)), h4.k (fun a k z => nx a k (by omega) (by omega) (by omega)), ⟨?_, by rw [p2]; omega, fun i x y => ?_, ?_⟩, h6.k (fun a k z => nx a k (by omega) (by omega) (by omega)) nl, h7.k (fun a k z => nx a k (by omega) (by omega) (by omega))⟩
    · rw [p2, p1.1 _ _ (by unfold zRre; omega), c1.1 _ _ (by omega), e3, sI_eq]
    · rw [p2] at y; omega
    · rw [p1.1 _ _ (by unfold zRre; omega), c1.1 _ _ (by omega), e3, sI_ne (by omega), q1.1 _ _ (by unfold zPz; omega)]; exact t4
