/-! ===== constructors: more rows ===== -/
section ZN3
variable {K : zCx} {mi : zMi} {d cN sN pc : Nat} {loc : List (Nat × Value)} {stk : List Value} {g : zG} {c1 c2 : Nat} {Q : zG → Prop}
theorem zn_dup {v : Value} (hd : decode mi.2.1 pc = .ok (.dup, 1)) (hc : v.category = 1) (k : zNj K mi d cN sN (pc + 1) loc (v :: v :: stk) g c1 c2 Q) : zNj K mi d cN sN pc loc (v :: stk) g c1 c2 Q := by
  intro p e s mt args below meth c F hnm H locs ls hR hl
  obtain ⟨hx, hb, hr, hml, hown, hts, hlk, hK⟩ := id F
  refine lv_dup hx hb hd hc ?_
  exact k p e s mt args below meth c F hnm H locs ls hR hl
theorem zn_iast {a i v : Int} {n : Nat} (hd : decode mi.2.1 pc = .ok (.iastore, 1)) (hs : zsh a = some (0, n)) (ha : (zph a) < g.1) (h0 : 0 ≤ i) (h1 : i < (n : Int)) (hi : inR i) (kk : zNj K mi d cN sN (pc + 1) loc stk (g.1, zup g.2.1 a i v, g.2.2) c1 c2 Q) : zNj K mi d cN sN pc loc (.int (iz v) :: .int (iz i) :: rr K a :: stk) g c1 c2 Q := by
  intro p e s mt args below meth cd F hnm H locs ls hR hl
  obtain ⟨hx, hb, hr, hml, hown, hts, hlk, hK⟩ := id F
  obtain ⟨hP, hS, hsz⟩ := id hR
  have ha0 := zsh_nn hs
  have he := zws_get (K := K) (n := g.1) (I := g.2.1) (L := g.2.2.1) (R := g.2.2.2) ha0 ha
  rw [zent_i hs] at he
  have hin := iz_in (n := n) h0 h1 hi
  have hD : va_D (zA K) (zws K g.1 g.2.1 g.2.2.1 g.2.2.2) := zws_D
  refine W.iast hx hb (hP (zph a) _ he) ((hK.1.2 0 _ rfl).1 n (fun j => .int (iz (g.2.1 a j)))) (fun q => by cases q) (by show ¬ (_ < 0 ∨ (arrV _ _ _).slots.size ≤ _); rw [arrV_size]; exact hin) rfl rfl hd fun H1 e1 z oq => ?_
  refine kk p e s mt args below meth cd F hnm H1 _ ls ⟨?_, hS.put z oq (hD.2 (zph a) _ he), by rw [z]; exact hsz⟩ hl
  have hset := zws_set (K := K) (n := g.1) (I := g.2.1) (I' := zup g.2.1 a i v) (L := g.2.2.1) (L' := g.2.2.1) (R := g.2.2.2) (R' := g.2.2.2) ha0 (fun b hb => ⟨fun k => by unfold zup; rw [if_neg (fun q => hb q.1)], fun _ => rfl, fun _ => rfl⟩)
  show va_P K.2.1 vwCl (zws K g.1 (zup g.2.1 a i v) g.2.2.1 g.2.2.2) H1
  rw [← hset, zent_i hs]
  have hf : (fun j : Nat => iz (zup g.2.1 a i v a j)) = upd (fun j : Nat => iz (g.2.1 a j)) (iz i).toNatClampNeg (iz v) := by
    funext j
    rw [iz_clamp h0 hi]
    unfold zup upd
    by_cases hj : j = i.toNat
    · have : (j : Int) = i := by omega
      simp [hj, Int.toNat_of_nonneg h0]
    · have : ¬ (j : Int) = i := by omega
      simp [hj, this]
  rw [hf]
  refine hP.set hD he ?_ oq
  show H1[zB K + (zph a)]? = some (vp_cell _ _)
  rw [e1]
  rw [vp_cell_i, vp_cell_i, arrV_store]
  congr 2
  funext q
  by_cases hq : q = (iz i).toNatClampNeg
  · subst hq
    simp [updV, upd]
  · simp [updV, upd, hq]
theorem zn_newL {n : Int} {N : Nat} (hd : decode mi.2.1 pc = .ok (.newarray .long, 2)) (harr : Cond.arrayClass (newarray.typeOf .long) ∈ zW) (hN : n = N) (hb : N ≤ 10000) (hsh : zsh (zlo g.1) = some (1, N)) (hz : ∀ j, g.2.2.1 (zlo g.1) j = 0) (hc : c1 + 1 ≤ cN) (hs : c2 + N ≤ sN) (k : zNj K mi d cN sN (pc + 2) loc (rr K (zlo g.1) :: stk) (g.1 + 1, g.2) (c1 + 1) (c2 + N) Q) : zNj K mi d cN sN pc loc (.int (iz n) :: stk) g c1 c2 Q := by
  intro p e s mt args below meth c F hnm H locs ls hR hl
  obtain ⟨hx, hb', hr, hml, hown, hts, hlk, hK⟩ := id F
  obtain ⟨hP, hS, hsz⟩ := id hR
  have hi : inR n := ⟨by omega, by omega⟩
  have h0 : ¬ iz n < 0 := fun q => by have := (iz_lt hi inR_0).mp q; omega
  have hcl : (iz n).toNatClampNeg = N := by rw [iz_clamp (by omega) hi]; omega
  refine va_newaK hx hb' (hts _ harr) rfl hd rfl h0 hcl (by show N * 8 ≤ 536870912; omega) hc hs rfl fun H1 cA e1 z1 o1 hAr hNm => ?_
  have hcA : cA = K.2.2.1.2.1 := by
    have := (hK.1.2 1 _ rfl).2
    exact Option.some.inj (hNm.symm.trans this)
  have hk : ∀ (q : Nat) (x : Nat × va_E), (zws K g.1 g.2.1 g.2.2.1 g.2.2.2)[q]? = some x → H1[x.1]? = H[x.1]? := fun q x hx => o1 x.1 ((hP q x hx).lt)
  have hent : zent K g.2.1 g.2.2.1 g.2.2.2 (zlo g.1) = .inl (K.2.2.1.2.1, N, .inr (.inl (fun _ => 0))) := by
    rw [zent_l hsh]
    have : (fun j : Nat => g.2.2.1 (zlo g.1) j) = fun _ => 0 := funext (fun j => hz j)
    rw [this]
  have key := k p e s mt args below meth c F hnm H1 locs ls ⟨?_, ⟨Nat.le_trans hS.1 (by omega), fun x h1 h2 => (o1 x (Nat.lt_of_lt_of_le h1 hS.1)).trans (hS.2.1 x h1 h2), hS.2.2⟩, by rw [z1, hsz]; show zB K + g.1 + 1 = zB K + (g.1 + 1); omega⟩ hl
  · have er : rr K (zlo g.1) = .ref H.size := by rw [hsz]; show Value.ref (zB K + zph (zlo g.1)) = _; rw [zph_zlo]
    rw [er] at key
    exact key
  · show va_P K.2.1 vwCl (zws K (g.1 + 1) g.2.1 g.2.2.1 g.2.2.2) H1
    rw [zws_succ]
    refine (hP.kept hk).app (fun q x hx => ?_)
    have hq : q < 1 := (List.getElem?_eq_some_iff.mp hx).1
    rw [show q = 0 by omega] at hx
    cases hx
    rw [hent, ← hcA, ← hsz]
    exact e1
end ZN3
