/-! ===== constructors: a new object, a field ===== -/
section ZN5
variable {K : zCx} {mi : zMi} {d cN sN pc : Nat} {loc : List (Nat × Value)} {stk : List Value} {g : zG} {c1 c2 : Nat} {Q : zG → Prop}
theorem zn_newO {idx ci N : Nat} {C : String} {T : u_T} (ty : Nat → FieldType) (hd : decode mi.2.1 pc = .ok (.new idx, 3)) (hcl : Cond.classLink mi.1.cls idx C ∈ zW) (hin : Cond.instantiable C N ∈ zW) (hini : Cond.initialized C ∈ zW) (hu : ∀ w ∈ u_ws C T N, w ∈ zW) (hty : ∀ k, k < N → parseFieldDescriptor (T k).2.2.1 = some (ty k)) (hC : vwCl[ci]? = some (C, T, N)) (hsh : zsh (zlo g.1) = some (ci + 3, N)) (hk0 : ∀ k, k < N → defaultValue (ty k) = (match zkd ci k with
      | 0 => .int 0
      | 1 => .long 0
      | _ => .null)) (hzI : ∀ j, g.2.1 (zlo g.1) j = 0) (hzL : ∀ j, g.2.2.1 (zlo g.1) j = 0) (hzR : ∀ j, g.2.2.2 (zlo g.1) j = none) (hc : c1 + 1 ≤ cN) (hs : c2 + N ≤ sN) (k : zNj K mi d cN sN (pc + 3) loc (rr K (zlo g.1) :: stk) (g.1 + 1, g.2) (c1 + 1) (c2 + N) Q) : zNj K mi d cN sN pc loc stk g c1 c2 Q := by
  intro p e s mt args below meth c F hnm H locs ls hR hl
  obtain ⟨hx, hb', hr, hml, hown, hts, hlk, hK⟩ := id F
  obtain ⟨hP, hS, hsz⟩ := id hR
  have hKn := hK.1.1 ci _ hC
  refine W.newcK hx hb' hown (hts _ hcl) (hts _ hin) (hts _ hini) rfl hd hc hs hKn.2.1 rfl fun H1 kC hkC e1 z1 o1 => ?_
  have hk : ∀ (q : Nat) (x : Nat × va_E), (zws K g.1 g.2.1 g.2.2.1 g.2.2.2)[q]? = some x → H1[x.1]? = H[x.1]? := fun q x hx => o1 x.1 ((hP q x hx).lt)
  have key := k p e s mt args below meth c F hnm H1 locs ls ⟨?_, ⟨Nat.le_trans hS.1 (by omega), fun x h1 h2 => (o1 x (Nat.lt_of_lt_of_le h1 hS.1)).trans (hS.2.1 x h1 h2), hS.2.2⟩, by rw [z1, hsz]; show zB K + g.1 + 1 = zB K + (g.1 + 1); omega⟩ hl
  · have er : rr K (zlo g.1) = .ref H.size := by rw [hsz]; show Value.ref (zB K + zph (zlo g.1)) = _; rw [zph_zlo]
    rw [er] at key
    exact key
  · show va_P K.2.1 vwCl (zws K (g.1 + 1) g.2.1 g.2.2.1 g.2.2.2) H1
    rw [zws_succ]
    refine (hP.kept hk).app (fun q x hx => ?_)
    have hq : q < 1 := (List.getElem?_eq_some_iff.mp hx).1
    rw [show q = 0 by omega] at hx
    cases hx
    rw [zent_o hsh, ← hsz]
    refine ⟨_, hC, (u_born ty hts hu hKn hkC e1 hty).to (fun j hj => ?_)⟩
    rw [hk0 j hj]
    unfold vp_V
    rw [List.getD_eq_getElem?_getD, List.getElem?_map, List.getElem?_range hj]
    show _ = zsv K g.2.1 g.2.2.1 g.2.2.2 ci (zlo g.1) j
    unfold zsv
    rw [hzI, hzL, hzR]
    rfl
end ZN5
