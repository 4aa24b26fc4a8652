/-! ===== constructors: Object's own ===== -/
section ZN4
variable {K : zCx} {mi : zMi} {d cN sN pc : Nat} {loc : List (Nat × Value)} {stk : List Value} {g : zG} {c1 c2 : Nat} {Q : zG → Prop}
theorem zn_objInit {idx a : Nat} (hd : decode mi.2.1 pc = .ok (.invokespecial idx, 3)) (hw : Cond.methodLink mi.1.cls idx Lib.objectInit ∈ zW) (h1 : Cond.instanceMethod Lib.objectInit ∈ zW) (h2 : Cond.code Lib.objectInit ⟨#[0xb1]⟩ 1 none ∈ zW) (hc : (stk.map fun v => v.category).sum ≤ 8) (hd1 : 1 ≤ d) (k : zNj K mi d cN sN (pc + 3) loc stk g c1 c2 Q) : zNj K mi d cN sN pc loc (.ref a :: stk) g c1 c2 Q := by
  intro p e s mt args below meth c F hnm H locs ls hR hl
  obtain ⟨hx, hb, hr, hml, hown, hts, hlk, hK⟩ := id F
  refine W.objInit hx hb hown (hts _ hw) (hts _ h1) (hts _ h2) rfl (by rw [hml]; exact hl.1) rfl hd hd1 ?_ ?_
  · show 2 * 0 + (stk.map fun v => v.category).sum + 12 ≤ 40 * d
    omega
  · exact k p e s mt args below meth c F hnm H locs ls hR hl
end ZN4
