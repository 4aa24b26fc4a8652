theorem z01 {v : Int} (h : v = 0 ∨ v = 1) : inR v ∧ narrow .boolean (.int (iz v)) = .int (iz v) ∧ fits .boolean (.int (iz v)) = true := by rcases h with rfl | rfl <;> exact ⟨⟨by decide, by decide⟩, rfl, rfl⟩
theorem b2i_fn {p : Prop} {i : Decidable p} (h : ¬ (b2i (@decide p i) ≠ 0)) : ¬ p := b2i_fp (Classical.not_not.mp h)
theorem zPn1_p {t i : Int} (h0 : 0 ≤ i) (h1 : i < 10) : zR t 2 i = some (10 + i) := by
  have hi : i = 0 ∨ i = 1 ∨ i = 2 ∨ i = 3 ∨ i = 4 ∨ i = 5 ∨ i = 6 ∨ i = 7 ∨ i = 8 ∨ i = 9 := by omega
  rcases hi with rfl | rfl | rfl | rfl | rfl | rfl | rfl | rfl | rfl | rfl <;> rfl
theorem zPn1_s {i : Int} (h0 : 0 ≤ i) (h1 : i < 10) : zsh (10 + i) = some (6, 12) := by
  have hi : i = 0 ∨ i = 1 ∨ i = 2 ∨ i = 3 ∨ i = 4 ∨ i = 5 ∨ i = 6 ∨ i = 7 ∨ i = 8 ∨ i = 9 := by omega
  rcases hi with rfl | rfl | rfl | rfl | rfl | rfl | rfl | rfl | rfl | rfl <;> rfl
theorem zPn20_p {t i : Int} (h0 : 0 ≤ i) (h1 : i < 10) : zR t 21 i = some (29 + i) := by
  have hi : i = 0 ∨ i = 1 ∨ i = 2 ∨ i = 3 ∨ i = 4 ∨ i = 5 ∨ i = 6 ∨ i = 7 ∨ i = 8 ∨ i = 9 := by omega
  rcases hi with rfl | rfl | rfl | rfl | rfl | rfl | rfl | rfl | rfl | rfl <;> rfl
theorem zPn20_s {i : Int} (h0 : 0 ≤ i) (h1 : i < 10) : zsh (29 + i) = some (6, 12) := by
  have hi : i = 0 ∨ i = 1 ∨ i = 2 ∨ i = 3 ∨ i = 4 ∨ i = 5 ∨ i = 6 ∨ i = 7 ∨ i = 8 ∨ i = 9 := by omega
  rcases hi with rfl | rfl | rfl | rfl | rfl | rfl | rfl | rfl | rfl | rfl <;> rfl
theorem zPn67_p {t i : Int} (h0 : 0 ≤ i) (h1 : i < 10) : zR t 68 i = some (76 + i) := by
  have hi : i = 0 ∨ i = 1 ∨ i = 2 ∨ i = 3 ∨ i = 4 ∨ i = 5 ∨ i = 6 ∨ i = 7 ∨ i = 8 ∨ i = 9 := by omega
  rcases hi with rfl | rfl | rfl | rfl | rfl | rfl | rfl | rfl | rfl | rfl <;> rfl
theorem zPn67_s {i : Int} (h0 : 0 ≤ i) (h1 : i < 10) : zsh (76 + i) = some (6, 12) := by
  have hi : i = 0 ∨ i = 1 ∨ i = 2 ∨ i = 3 ∨ i = 4 ∨ i = 5 ∨ i = 6 ∨ i = 7 ∨ i = 8 ∨ i = 9 := by omega
  rcases hi with rfl | rfl | rfl | rfl | rfl | rfl | rfl | rfl | rfl | rfl <;> rfl
/-- a stretch of numbers is copied -/
def sC (m : zM) (sa sp da dp n : Int) : zM := (fun b j => if b = da ∧ dp ≤ j ∧ j < dp + n then m.1 sa (sp + (j - dp)) else m.1 b j, m.2)
theorem zV_copy {K : zCx} {mi : zMi} {d pc idx n0 n1 : Nat} {loc : List (Nat × Value)} {m : zM} {Q : Int → zM → Prop} {sa sp da dp n : Int} (hd : decode mi.2.1 pc = .ok (.invokestatic idx, 3)) (hw : Cond.methodLink mi.1.cls idx arraycopyName ∈ zW) (hs : zsh sa = some (0, n0)) (hs1 : zsh da = some (0, n1)) (i1 : inR sp) (i2 : inR dp) (i3 : inR n) (h1 : 0 ≤ sp) (h2 : 0 ≤ dp) (h3 : 0 ≤ n) (h4 : sp + n ≤ n0) (h5 : dp + n ≤ n1)
    (kk : zV K mi (d + 1) (pc + 3) loc [] (sC m sa sp da dp n) Q) : zV K mi (d + 1) pc loc [.int (iz n), .int (iz dp), rr K da, .int (iz sp), rr K sa] m Q := by
  intro p e s mt args below meth cd F H locs ls hR hl
  obtain ⟨hx, hb, hr, hml, hown, hts, hlk, hK⟩ := id F
  have he := zwm_get (K := K) (m := m) hs
  rw [zent_i hs] at he
  have he1 := zwm_get (K := K) (m := m) hs1
  rw [zent_i hs1] at he1
  have nf : nativeFrameWords "java/lang/System" "arraycopy" 5 ≤ 29 := by decide +kernel
  refine va_copyi (D := K.2.1) (ty := .int) hx hb (hml.trans hl.1.symm) hown (hts _ hw) (hts (Cond.native arraycopyName) (zmem 863 (by decide +kernel) (by decide +kernel))) (hts (Cond.static arraycopyName) (zmem 862 (by decide +kernel) (by decide +kernel))) (hts (Cond.initialized "java/lang/System") (zmem 91 (by decide +kernel) (by decide +kernel))) hK.1 hR.1 zws_D hR.2.1 (zph sa) (zph da) 0 0 he he1 rfl rfl rfl (fun q => absurd ((iz_lt i1 inR_0).mp q) (by omega)) (fun q => absurd ((iz_lt i2 inR_0).mp q) (by omega)) (fun q => absurd ((iz_lt i3 inR_0).mp q) (by omega)) (by rw [iz_clamp h1 i1, iz_clamp h3 i3]; omega) (by rw [iz_clamp h2 i2, iz_clamp h3 i3]; omega) (fun _ _ => rfl) (by show 1 ≤ d + 1; omega) (by show 0 + (nativeFrameWords "java/lang/System" "arraycopy" 5 + 11) ≤ 40 * (d + 1); omega) hd (fun H1 locs1 hP1 hD1 hS1 => ?_)
  refine kk p e s mt args below meth cd F H1 locs1 ls ⟨?_, hS1, fun a k => ?_⟩ hl
  · have e1 : (fun j : Nat => iz ((sC m sa sp da dp n).1 da j)) = va_cpy (fun j : Nat => iz (m.1 sa j)) (fun j : Nat => iz (m.1 da j)) (iz sp).toNatClampNeg (iz dp).toNatClampNeg (iz n).toNatClampNeg := by
      funext j
      rw [iz_clamp h1 i1, iz_clamp h2 i2, iz_clamp h3 i3]
      unfold sC va_cpy
      by_cases hj : dp.toNat ≤ j ∧ j < dp.toNat + n.toNat
      · have q : dp ≤ (j : Int) ∧ (j : Int) < dp + n := by omega
        have e : ((sp.toNat + (j - dp.toNat) : Nat) : Int) = sp + ((j : Int) - dp) := by omega
        simp only [hj, q, and_self, if_true, e]
      · have q : ¬ (dp ≤ (j : Int) ∧ (j : Int) < dp + n) := by omega
        have q2 : ¬ (da = da ∧ dp ≤ (j : Int) ∧ (j : Int) < dp + n) := fun z => q z.2
        simp only [if_neg hj, q, and_false, if_false]
    have e2 : (zwm K m).set (zph da) (zB K + (zph da), zent K (sC m sa sp da dp n).1 m.2.1 (zR m.2.2) da) = zwm K (sC m sa sp da dp n) := zws_set (zsh_nn hs1) (fun b hb => ⟨fun j => by unfold sC; simp [hb], fun _ => rfl, fun _ => rfl⟩)
    rw [← e2, zent_i hs1, e1]
    exact hP1
  · show inR (if _ then _ else _)
    split
    · exact hR.2.2 _ _
    · exact hR.2.2 _ _
theorem zpred {x : Int} (h : inR x) (h0 : 0 ≤ x) : inR (x - 1) := ⟨by omega, by have := h.2; omega⟩
theorem b2i_iff {p q : Prop} {i : Decidable p} {j : Decidable q} (h : p ↔ q) : b2i (@decide p i) = b2i (@decide q j) := by
  by_cases hp : p
  · rw [b2i_p hp, b2i_p (h.mp hp)]
  · rw [b2i_n hp, b2i_n (fun q => hp (h.mpr q))]
theorem lgc0 {x y : Int64} : (lg_cmp x y).toInt = 0 ↔ x = y := by
  unfold lg_cmp
  constructor
  · intro h
    (repeat' split at h) <;> simp_all
  · intro h
    subst h
    (repeat' split) <;> simp_all
section ZR3
variable {K : zCx} {mi : zMi} {d pc : Nat} {loc : List (Nat × Value)} {stk : List Value} {m : zM} {Q : Int → zM → Prop}
theorem zV_callVf {mc : zMi} {idx c n n0 : Nat} {a : Int} {As rest : List Value} {R : Int} {M : zM} (hd : decode mi.2.1 pc = .ok (.invokevirtual idx, 3)) (hc : zCall mi.1.cls idx mc n) (hin : Cond.instanceMethod mc.1 ∈ zW) (hse : Cond.selects mc.1.cls mc.1 mc.1 ∈ zW) (hs : zsh a = some (c + 3, n0)) (hC : (vwCl[c]?).map (fun q => q.1) = some mc.1.cls) (hst : stk = As.reverse ++ rr K a :: rest) (hn : As.length = n) (hw : (rest.map fun v => v.category).sum ≤ 8) (hM : zCt K d mc (rr K a :: As) m (fun r m1 => r = R ∧ m1 = M))
    (kk : inR R → zV K mi (d + 1) (pc + 3) loc (zpu mc.2.2.2 R rest) M Q) : zV K mi (d + 1) pc loc stk m Q := zV_callV hd hc hin hse hs hC hst hn hw hM (fun r m' hr e => by obtain ⟨e1, e2⟩ := e; subst e1; subst e2; exact kk hr)
theorem zV_callSf {mc : zMi} {idx n : Nat} {As rest : List Value} {R : Int} {M : zM} (hd : decode mi.2.1 pc = .ok (.invokestatic idx, 3)) (hc : zCall mi.1.cls idx mc n) (hin : Cond.static mc.1 ∈ zW) (hst : stk = As.reverse ++ rest) (hn : As.length = n) (hw : (rest.map fun v => v.category).sum ≤ 8) (hM : zCt K d mc As m (fun r m1 => r = R ∧ m1 = M))
    (kk : inR R → zV K mi (d + 1) (pc + 3) loc (zpu mc.2.2.2 R rest) M Q) : zV K mi (d + 1) pc loc stk m Q := zV_callS hd hc hin hst hn hw hM (fun r m' hr e => by obtain ⟨e1, e2⟩ := e; subst e1; subst e2; exact kk hr)
theorem zV_callSNf {mc : zMi} {idx n : Nat} {As rest : List Value} {R : Int} {M : zM} (hd : decode mi.2.1 pc = .ok (.invokestatic idx, 3)) (hc : zCallN mi.1.cls idx mc n) (hin : Cond.static mc.1 ∈ zW) (hst : stk = As.reverse ++ rest) (hn : As.length = n) (hw : (rest.map fun v => v.category).sum ≤ 8) (hM : zCt K d mc As m (fun r m1 => r = R ∧ m1 = M))
    (kk : inR R → zV K mi (d + 1) (pc + 3) loc (zpu mc.2.2.2 R rest) M Q) : zV K mi (d + 1) pc loc stk m Q := zV_callSN hd hc hin hst hn hw hM (fun r m' hr e => by obtain ⟨e1, e2⟩ := e; subst e1; subst e2; exact kk hr)
end ZR3
