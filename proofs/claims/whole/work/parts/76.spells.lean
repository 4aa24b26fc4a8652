/-! ===== texts of the class: length and letters ===== -/
section ZX
variable {K : zCx} {mi : zMi} {d pc : Nat} {loc : List (Nat × Value)} {stk : List Value} {m : zM} {Q : Int → zM → Prop}
theorem zV_getZ {idx : Nat} {C nm ds : String} {v : Value} (hd : decode mi.2.1 pc = .ok (.getstatic idx, 3)) (hw : Cond.fieldLink mi.1.cls idx C nm ds ∈ zW) (hE : ∀ s, zExt K s → va_Z C nm ds v (zA K) s K.2.2.2.1) (kk : zV K mi d (pc + 3) loc (v :: stk) m Q) : zV K mi d pc loc stk m Q := by
  intro p e s mt args below meth cd F H locs ls hR hl
  obtain ⟨hx, hb, hr, hml, hown, hts, hlk, hK⟩ := id F
  obtain ⟨cf, kf, fi, f, a, cell, h1, h2, h3, h4, h5, h6, h7, h8⟩ := hE s hK.2.2
  exact W.gets hx hb hown (hts _ hw) h1 h2 h3 h4 (by rw [hR.2.1.2.1 a (Array.getElem?_eq_some_iff.mp h5).1 h8]; exact h5) (fun e => by rw [e] at h6; cases h6) h7 rfl hd (kk p e s mt args below meth cd F H locs ls hR hl)
theorem zV_getZq {idx : Nat} {C nm ds : String} (hd : decode mi.2.1 pc = .ok (.getstatic idx, 3)) (hw : Cond.fieldLink mi.1.cls idx C nm ds ∈ zW) (hE : ∀ s, zExt K s → va_Zq C nm ds (zA K) s K.2.2.2.1) (k0 : zV K mi d (pc + 3) loc (.null :: stk) m Q) (k1 : ∀ t, zV K mi d (pc + 3) loc (.ref t :: stk) m Q) : zV K mi d pc loc stk m Q := by
  intro p e s mt args below meth cd F H locs ls hR hl
  obtain ⟨hx, hb, hr, hml, hown, hts, hlk, hK⟩ := id F
  rcases hE s hK.2.2 with hZ | ⟨t, hZ⟩
  · obtain ⟨cf, kf, fi, f, a, cell, h1, h2, h3, h4, h5, h6, h7, h8⟩ := hZ
    exact W.gets hx hb hown (hts _ hw) h1 h2 h3 h4 (by rw [hR.2.1.2.1 a (Array.getElem?_eq_some_iff.mp h5).1 h8]; exact h5) (fun e => by rw [e] at h6; cases h6) h7 rfl hd (k0 p e s mt args below meth cd F H locs ls hR hl)
  · obtain ⟨cf, kf, fi, f, a, cell, h1, h2, h3, h4, h5, h6, h7, h8⟩ := hZ
    exact W.gets hx hb hown (hts _ hw) h1 h2 h3 h4 (by rw [hR.2.1.2.1 a (Array.getElem?_eq_some_iff.mp h5).1 h8]; exact h5) (fun e => by rw [e] at h6; cases h6) h7 rfl hd (k1 t p e s mt args below meth cd F H locs ls hR hl)
theorem zV_getO {idx q : Nat} {o nm ds : String} {v : Value} (hd : decode mi.2.1 pc = .ok (.getfield idx, 3)) (hw : Cond.fieldLink mi.1.cls idx o nm ds ∈ zW) (hE : ∀ s, zExt K s → va_OF o nm ds v q (zA K) s K.2.2.2.1) (kk : zV K mi d (pc + 3) loc (v :: stk) m Q) : zV K mi d pc loc (.ref q :: stk) m Q := by
  intro p e s mt args below meth cd F H locs ls hR hl
  obtain ⟨hx, hb, hr, hml, hown, hts, hlk, hK⟩ := id F
  obtain ⟨cf, k, fi, f, cell, h1, h2, h3, h4, h5, h6⟩ := (hE s hK.2.2).kept hR.2.1.2.1
  exact W.getf hx hb hown (hts _ hw) h1 h2 h3 h4 (v := v) h5 rfl rfl hd (kk p e s mt args below meth cd F H locs ls hR hl)
theorem zV_alenX {t N : Nat} {ty : FieldType} {f : Nat → Value} (hd : decode mi.2.1 pc = .ok (.arraylength, 1)) (hE : ∀ s, zExt K s → va_T ty t N f (zA K) s K.2.2.2.1) (kk : zV K mi d (pc + 1) loc (.int (iz N) :: stk) m Q) : zV K mi d pc loc (.ref t :: stk) m Q := by
  intro p e s mt args below meth cd F H locs ls hR hl
  obtain ⟨hx, hb, hr, hml, hown, hts, hlk, hK⟩ := id F
  obtain ⟨cell, h1, h2, h3, h4, h5, h6, h7⟩ := hE s hK.2.2
  have hv : Int32.ofNat N = iz N := rfl
  exact W.alen (n := iz N) hx hb (by rw [hR.2.1.2.1 t (Array.getElem?_eq_some_iff.mp h1).1 h7]; exact h1) h2 (by rw [h5]; exact hv) rfl rfl hd (kk p e s mt args below meth cd F H locs ls hR hl)
theorem zV_baldX {t N : Nat} {i : Int} {f : Nat → Value} (hd : decode mi.2.1 pc = .ok (.baload, 1)) (hE : ∀ s, zExt K s → va_T .byte t N f (zA K) s K.2.2.2.1) (h0 : 0 ≤ i) (h1 : i < (N : Int)) (hi : inR i) (kk : zV K mi d (pc + 1) loc (f i.toNat :: stk) m Q) : zV K mi d pc loc (.int (iz i) :: .ref t :: stk) m Q := by
  intro p e s mt args below meth cd F H locs ls hR hl
  obtain ⟨hx, hb, hr, hml, hown, hts, hlk, hK⟩ := id F
  obtain ⟨cell, g1, g2, g3, g4, g5, g6, g7⟩ := hE s hK.2.2
  have hlt : i.toNat < N := by omega
  refine W.bald (v := f i.toNat) hx hb (by rw [hR.2.1.2.1 _ (Array.getElem?_eq_some_iff.mp g1).1 g7]; exact g1) g2 g3 ?_ ?_ rfl rfl hd (kk p e s mt args below meth cd F H locs ls hR hl)
  · rw [iz_clamp h0 hi]
    intro q
    rcases q with q | q
    · have := (iz_lt hi inR_0).mp q
      omega
    · omega
  · rw [iz_clamp h0 hi]
    exact g6 _ hlt
theorem zV_callVX {mc : zMi} {idx n q : Nat} {As rest : List Value} {Q' : Int → zM → Prop} (hd : decode mi.2.1 pc = .ok (.invokevirtual idx, 3)) (hc : zCall mi.1.cls idx mc n) (hin : Cond.instanceMethod mc.1 ∈ zW) (hse : Cond.selects mc.1.cls mc.1 mc.1 ∈ zW) (hE : ∀ s, zExt K s → va_O mc.1.cls q (zA K) s K.2.2.2.1) (hst : stk = As.reverse ++ .ref q :: rest) (hn : As.length = n) (hw : (rest.map fun v => v.category).sum ≤ 8) (hM : zCt K d mc (.ref q :: As) m Q')
    (kk : ∀ r m', inR r → Q' r m' → zV K mi (d + 1) (pc + 3) loc (zpu mc.2.2.2 r rest) m' Q) : zV K mi (d + 1) pc loc stk m Q := by
  subst hst
  intro p e s mt args below meth cd F H locs ls hR hl
  obtain ⟨hx, hb, hr, hml, hown, hts, hlk, hK⟩ := id F
  obtain ⟨g1, g2, g3, g4, g5⟩ := hc
  obtain ⟨cell, r1, r2, r3, -⟩ := (hE s hK.2.2).kept hR.2.1.2.1
  have hrecv : ∃ cell : Cell, H[q]? = some cell ∧ cell.vm.isStatics = false ∧ s.vm.findClass mc.1.cls = some cell.cls := ⟨cell, r1, r2, r3⟩
  refine zback (va_runV (As := As) (rest := rest) (C := mc.1.cls) (bytes := mc.2.1) (maxL := mc.2.2.1) (ret := mc.2.2.2) ⟨hx, hb, hml, hown, hts⟩ hM ⟨callB_of n hts (zW_good g3 (fun _ h => h)) rfl rfl rfl (hts _ g2) (hts _ g1) g4 ⟨Nat.le_refl _, by show 8 + (mc.2.2.1 + 11) + 40 * d ≤ 40 * (d + 1); omega⟩, hts _ hin, hts _ hse⟩ ⟨zPc.blind, hrecv, fun U hU hW => ⟨rfl, by rw [hU]; exact hR.nil, hK.warm hW⟩⟩ rfl hn hl.1 rfl (lv_room hw) hd ⟨Nat.le_refl _, Nat.le_refl _⟩) hR (fun r m' H1 locs1 hi hq hR1 => ?_)
  exact kk r m' hi hq p e s mt args below meth cd F H1 locs1 ls hR1 hl
end ZX
