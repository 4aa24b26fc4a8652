/-! ===== the law's loop: its judgement and its rows ===== -/
def zLj (K : zCx) (b L : Nat) (xs : Nat → Int32) (pc : Nat) (loc : List (Nat × Value)) (stk : List Value) (m : zM) : Prop :=
  ∀ (p : Program) (e : Env) (s : State) (mt : MethodId) (below : List Frame) (meth : Method) (c : Code), lw_At p s mt meth c b L xs → zK K s → s.heap = K.2.2.2.1 →
    ∀ (H : Heap) (locs : List Loc) (ls : Array Slot), zRel K m H locs → lv_has ls 4 loc → W p K.1 e room_1 s mt #[Value.ref b] below meth c H locs 600000 7302250 (lw_Z below #[Value.ref b] s) (F0 mt pc ls stk)
section LW
variable {K : zCx} {b L : Nat} {xs : Nat → Int32} {pc : Nat} {loc : List (Nat × Value)} {stk : List Value} {m : zM}
theorem zl_iconst {n : Int} (hd : decode code pc = .ok (.iconst n, 1)) (k : zLj K b L xs (pc + 1) loc (.int (iz n) :: stk) m) : zLj K b L xs pc loc stk m := by
  intro p e s mt below meth c F hK hh H locs ls hR hl
  obtain ⟨hx, hb, hr, hml, hown, hts, hX, hbl, hlk, hgv⟩ := id F
  refine lv_iconst hx hb hd rfl ?_
  exact k p e s mt below meth c F hK hh H locs ls hR hl
theorem zl_bipush {n : Int} (hd : decode code pc = .ok (.bipush n, 2)) (hv : (Int8.ofInt n).toInt32 = iz n) (k : zLj K b L xs (pc + 2) loc (.int (iz n) :: stk) m) : zLj K b L xs pc loc stk m := by
  intro p e s mt below meth c F hK hh H locs ls hR hl
  obtain ⟨hx, hb, hr, hml, hown, hts, hX, hbl, hlk, hgv⟩ := id F
  refine lv_bipush hx hb hd hv ?_
  exact k p e s mt below meth c F hK hh H locs ls hR hl
theorem zl_iload_n {k4 : Fin 4} {i : Nat} {x : Int32} (hd : decode code pc = .ok (.iload_n k4, 1)) (hi : (k4 : Nat) = i) (j : Nat) (hj : loc[j]? = some (i, .int x)) (k : zLj K b L xs (pc + 1) loc (.int x :: stk) m) : zLj K b L xs pc loc stk m := by
  intro p e s mt below meth c F hK hh H locs ls hR hl
  obtain ⟨hx, hb, hr, hml, hown, hts, hX, hbl, hlk, hgv⟩ := id F
  refine lv_iload_n hx hb hd hi (lv_at hl j hj) ?_
  exact k p e s mt below meth c F hK hh H locs ls hR hl
theorem zl_aload_n {k4 : Fin 4} {i : Nat} {x : Nat} (hd : decode code pc = .ok (.aload_n k4, 1)) (hi : (k4 : Nat) = i) (j : Nat) (hj : loc[j]? = some (i, .ref x)) (k : zLj K b L xs (pc + 1) loc (.ref x :: stk) m) : zLj K b L xs pc loc stk m := by
  intro p e s mt below meth c F hK hh H locs ls hR hl
  obtain ⟨hx, hb, hr, hml, hown, hts, hX, hbl, hlk, hgv⟩ := id F
  refine lv_aload_n hx hb hd hi (lv_at hl j hj) ?_
  exact k p e s mt below meth c F hK hh H locs ls hR hl
theorem zl_iadd {x y : Int} (hd : decode code pc = .ok (.iadd, 1)) (k : zLj K b L xs (pc + 1) loc (.int (iz (x + y)) :: stk) m) : zLj K b L xs pc loc (.int (iz y) :: .int (iz x) :: stk) m := by
  intro p e s mt below meth c F hK hh H locs ls hR hl
  obtain ⟨hx, hb, hr, hml, hown, hts, hX, hbl, hlk, hgv⟩ := id F
  refine lv_iadd hx hb hd ?_
  rw [iz_add]
  exact k p e s mt below meth c F hK hh H locs ls hR hl
theorem zl_isub {x y : Int} (hd : decode code pc = .ok (.isub, 1)) (k : zLj K b L xs (pc + 1) loc (.int (iz (x - y)) :: stk) m) : zLj K b L xs pc loc (.int (iz y) :: .int (iz x) :: stk) m := by
  intro p e s mt below meth c F hK hh H locs ls hR hl
  obtain ⟨hx, hb, hr, hml, hown, hts, hX, hbl, hlk, hgv⟩ := id F
  refine lv_isub hx hb hd ?_
  rw [iz_sub]
  exact k p e s mt below meth c F hK hh H locs ls hR hl
theorem zl_slen (hd : decode code pc = .ok (.arraylength, 1)) (k : zLj K b L xs (pc + 1) loc (.int (iz L) :: stk) m) : zLj K b L xs pc loc (.ref b :: stk) m := by
  intro p e s mt below meth c F hK hh H locs ls hR hl
  obtain ⟨hx, hb, hr, hml, hown, hts, hX, hbl, hlk, hgv⟩ := id F
  have hv : Int32.ofNat L = iz L := rfl
  refine va_slen hx hb hX hbl (A := zA K) (by unfold zA zB; rw [← hh]; omega) (by rw [hh]; exact hR.2.1) hd ?_
  rw [hv]
  exact k p e s mt below meth c F hK hh H locs ls hR hl
/-- the j-th number of the script -/
theorem zl_sld {i : Int} (hd : decode code pc = .ok (.iaload, 1)) (h0 : 0 ≤ i) (h1 : i < (L : Int)) (hi : inR i) (k : zLj K b L xs (pc + 1) loc (.int (iz (xs i.toNat).toInt) :: stk) m) : zLj K b L xs pc loc (.int (iz i) :: .ref b :: stk) m := by
  intro p e s mt below meth c F hK hh H locs ls hR hl
  obtain ⟨hx, hb, hr, hml, hown, hts, hX, hbl, hlk, hgv⟩ := id F
  refine va_sld hx hb hX hbl (A := zA K) (by unfold zA zB; rw [← hh]; omega) (by rw [hh]; exact hR.2.1) (iz_in h0 h1 hi) hd ?_
  rw [iz_clamp h0 hi, ← iz_of (xs i.toNat)]
  exact k p e s mt below meth c F hK hh H locs ls hR hl
theorem zl_iand {x y : Int} (hd : decode code pc = .ok (.iand, 1))  (k : zLj K b L xs (pc + 1) loc (.int (iz (zand x y)) :: stk) m) : zLj K b L xs pc loc (.int (iz y) :: .int (iz x) :: stk) m := by
  intro p e s mt below meth c F hK hh H locs ls hR hl
  obtain ⟨hx, hb, hr, hml, hown, hts, hX, hbl, hlk, hgv⟩ := id F
  refine lv_iand hx hb hd ?_
  rw [show iz x &&& iz y = iz (zand x y) from (iz_of _).symm]
  exact k p e s mt below meth c F hK hh H locs ls hR hl
theorem zl_i2l {x : Int} (hd : decode code pc = .ok (.i2l, 1))  (k : zLj K b L xs (pc + 1) loc (.long (iz x).toInt64 :: stk) m) : zLj K b L xs pc loc (.int (iz x) :: stk) m := by
  intro p e s mt below meth c F hK hh H locs ls hR hl
  obtain ⟨hx, hb, hr, hml, hown, hts, hX, hbl, hlk, hgv⟩ := id F
  refine lv_i2l hx hb hd rfl ?_
  exact k p e s mt below meth c F hK hh H locs ls hR hl
theorem zl_lshl {x : Int64} {y : Int} (hd : decode code pc = .ok (.lshl, 1))  (k : zLj K b L xs (pc + 1) loc (.long (x <<< ((iz y).toInt64 &&& 63)) :: stk) m) : zLj K b L xs pc loc (.int (iz y) :: .long x :: stk) m := by
  intro p e s mt below meth c F hK hh H locs ls hR hl
  obtain ⟨hx, hb, hr, hml, hown, hts, hX, hbl, hlk, hgv⟩ := id F
  refine lv_lshl hx hb hd rfl ?_
  exact k p e s mt below meth c F hK hh H locs ls hR hl
theorem zl_land {x y : Int64} (hd : decode code pc = .ok (.land, 1))  (k : zLj K b L xs (pc + 1) loc (.long (x &&& y) :: stk) m) : zLj K b L xs pc loc (.long y :: .long x :: stk) m := by
  intro p e s mt below meth c F hK hh H locs ls hR hl
  obtain ⟨hx, hb, hr, hml, hown, hts, hX, hbl, hlk, hgv⟩ := id F
  refine lv_land hx hb hd ?_
  exact k p e s mt below meth c F hK hh H locs ls hR hl
theorem zl_lor {x y : Int64} (hd : decode code pc = .ok (.lor, 1))  (k : zLj K b L xs (pc + 1) loc (.long (x ||| y) :: stk) m) : zLj K b L xs pc loc (.long y :: .long x :: stk) m := by
  intro p e s mt below meth c F hK hh H locs ls hR hl
  obtain ⟨hx, hb, hr, hml, hown, hts, hX, hbl, hlk, hgv⟩ := id F
  refine lv_lor hx hb hd ?_
  exact k p e s mt below meth c F hK hh H locs ls hR hl
theorem zl_goto {off : Int} {tgt : Nat} (hd : decode code pc = .ok (.goto off, 3)) (ht : (pc : Int) + off = (tgt : Int)) (k : zLj K b L xs tgt loc (stk) m) : zLj K b L xs pc loc (stk) m := by
  intro p e s mt below meth c F hK hh H locs ls hR hl
  obtain ⟨hx, hb, hr, hml, hown, hts, hX, hbl, hlk, hgv⟩ := id F
  refine lv_goto hx hb hd ht ?_
  exact k p e s mt below meth c F hK hh H locs ls hR hl
theorem zl_if_eq {x off : Int} {tgt : Nat} (hd : decode code pc = .ok (.ifCond .eq off, 3)) (ht : (pc : Int) + off = (tgt : Int)) (hx1 : inR x) (kt : x = 0 → zLj K b L xs tgt loc stk m) (kf : ¬ (x = 0) → zLj K b L xs (pc + 3) loc stk m) : zLj K b L xs pc loc (.int (iz x) :: stk) m := by
  intro p e s mt below meth c F hK hh H locs ls hR hl
  obtain ⟨hx, hb, hr, hml, hown, hts, hX, hbl, hlk, hgv⟩ := id F
  exact lv_if_eq hx hb hd ht (fun q => kt ((iz_eq hx1 inR_0).mp q) p e s mt below meth c F hK hh H locs ls hR hl) (fun q => kf (fun z => q ((iz_eq hx1 inR_0).mpr z)) p e s mt below meth c F hK hh H locs ls hR hl)
theorem zl_if_ne {x off : Int} {tgt : Nat} (hd : decode code pc = .ok (.ifCond .ne off, 3)) (ht : (pc : Int) + off = (tgt : Int)) (hx1 : inR x) (kt : x ≠ 0 → zLj K b L xs tgt loc stk m) (kf : ¬ (x ≠ 0) → zLj K b L xs (pc + 3) loc stk m) : zLj K b L xs pc loc (.int (iz x) :: stk) m := by
  intro p e s mt below meth c F hK hh H locs ls hR hl
  obtain ⟨hx, hb, hr, hml, hown, hts, hX, hbl, hlk, hgv⟩ := id F
  exact lv_if_ne hx hb hd ht (fun q => kt (fun z => q ((iz_eq hx1 inR_0).mpr z)) p e s mt below meth c F hK hh H locs ls hR hl) (fun q => kf (fun z => z ((iz_eq hx1 inR_0).mp q)) p e s mt below meth c F hK hh H locs ls hR hl)
theorem zl_icmp_gt {x y off : Int} {tgt : Nat} (hd : decode code pc = .ok (.if_icmp .gt off, 3)) (ht : (pc : Int) + off = (tgt : Int)) (hx1 : inR x) (hy : inR y) (kt : y < x → zLj K b L xs tgt loc stk m) (kf : ¬ (y < x) → zLj K b L xs (pc + 3) loc stk m) : zLj K b L xs pc loc (.int (iz y) :: .int (iz x) :: stk) m := by
  intro p e s mt below meth c F hK hh H locs ls hR hl
  obtain ⟨hx, hb, hr, hml, hown, hts, hX, hbl, hlk, hgv⟩ := id F
  exact lv_icmp_gt hx hb hd ht (fun q => kt ((iz_lt hy hx1).mp q) p e s mt below meth c F hK hh H locs ls hR hl) (fun q => kf (fun z => q ((iz_lt hy hx1).mpr z)) p e s mt below meth c F hK hh H locs ls hR hl)
theorem zl_icmp_eq {x y off : Int} {tgt : Nat} (hd : decode code pc = .ok (.if_icmp .eq off, 3)) (ht : (pc : Int) + off = (tgt : Int)) (hx1 : inR x) (hy : inR y) (kt : x = y → zLj K b L xs tgt loc stk m) (kf : ¬ (x = y) → zLj K b L xs (pc + 3) loc stk m) : zLj K b L xs pc loc (.int (iz y) :: .int (iz x) :: stk) m := by
  intro p e s mt below meth c F hK hh H locs ls hR hl
  obtain ⟨hx, hb, hr, hml, hown, hts, hX, hbl, hlk, hgv⟩ := id F
  exact lv_icmp_eq hx hb hd ht (fun q => kt ((iz_eq hx1 hy).mp q) p e s mt below meth c F hK hh H locs ls hR hl) (fun q => kf (fun z => q ((iz_eq hx1 hy).mpr z)) p e s mt below meth c F hK hh H locs ls hR hl)
theorem zl_icmp_ne {x y off : Int} {tgt : Nat} (hd : decode code pc = .ok (.if_icmp .ne off, 3)) (ht : (pc : Int) + off = (tgt : Int)) (hx1 : inR x) (hy : inR y) (kt : x ≠ y → zLj K b L xs tgt loc stk m) (kf : ¬ (x ≠ y) → zLj K b L xs (pc + 3) loc stk m) : zLj K b L xs pc loc (.int (iz y) :: .int (iz x) :: stk) m := by
  intro p e s mt below meth c F hK hh H locs ls hR hl
  obtain ⟨hx, hb, hr, hml, hown, hts, hX, hbl, hlk, hgv⟩ := id F
  exact lv_icmp_ne hx hb hd ht (fun q => kt (fun z => q ((iz_eq hx1 hy).mpr z)) p e s mt below meth c F hK hh H locs ls hR hl) (fun q => kf (fun z => z ((iz_eq hx1 hy).mp q)) p e s mt below meth c F hK hh H locs ls hR hl)
theorem zl_tswOut {dflt lo hi x : Int} {offs : Array Int} {len tgt : Nat} (hd : decode code pc = .ok (.tableswitch dflt lo hi offs, len)) (hx1 : inR x) (h : x < lo ∨ hi < x) (ht : (pc : Int) + dflt = (tgt : Int)) (k : zLj K b L xs tgt loc stk m) : zLj K b L xs pc loc (.int (iz x) :: stk) m := by
  intro p e s mt below meth c F hK hh H locs ls hR hl
  obtain ⟨hx, hb, hr, hml, hown, hts, hX, hbl, hlk, hgv⟩ := id F
  refine lv_tableOut hx hb hd (by rw [iz_toInt hx1]; exact h) ht ?_
  exact k p e s mt below meth c F hK hh H locs ls hR hl
theorem zl_tswIn {dflt lo hi x v off : Int} {offs : Array Int} {len tgt : Nat} (hd : decode code pc = .ok (.tableswitch dflt lo hi offs, len)) (hv : x = v) (hx1 : inR v) (h1 : ¬ v < lo) (h2 : ¬ hi < v) (ho : offs[(v - lo).toNat]? = some off) (ht : (pc : Int) + off = (tgt : Int)) (k : zLj K b L xs tgt loc stk m) : zLj K b L xs pc loc (.int (iz x) :: stk) m := by
  subst hv
  intro p e s mt below meth c F hK hh H locs ls hR hl
  obtain ⟨hx, hb, hr, hml, hown, hts, hX, hbl, hlk, hgv⟩ := id F
  refine lv_tableIn hx hb hd (by rw [iz_toInt hx1]; exact h1) (by rw [iz_toInt hx1]; exact h2) (by rw [iz_toInt hx1]; exact ho) ht ?_
  exact k p e s mt below meth c F hK hh H locs ls hR hl
theorem zl_iinc {i : Nat} {n x : Int} {loc' : List (Nat × Value)} (hd : decode code pc = .ok (.iinc i n, 3)) (j : Nat) (hj : loc[j]? = some (i, .int (iz x))) (hn : i < 4) (hl' : (i, Value.int (iz (x + n))) :: loc.filter (fun q => !(q.1 == i) && !(q.1 + 1 == i && q.2.category == 2)) = loc') (k : zLj K b L xs (pc + 3) loc' stk m) : zLj K b L xs pc loc stk m := by
  intro p e s mt below meth c F hK hh H locs ls hR hl
  obtain ⟨hx, hb, hr, hml, hown, hts, hX, hbl, hlk, hgv⟩ := id F
  refine lv_iinc hx hb hd hl hj (iz_add x n) hn hl' (fun ls hl => ?_)
  exact k p e s mt below meth c F hK hh H locs ls hR hl
theorem zl_ldc2 {i : Nat} {v : Int64} (hd : decode code pc = .ok (.ldc2_w i, 3)) (hw : Cond.constantLong R_law i v ∈ zW) (k : zLj K b L xs (pc + 3) loc (.long v :: stk) m) : zLj K b L xs pc loc (stk) m := by
  intro p e s mt below meth c F hK hh H locs ls hR hl
  obtain ⟨hx, hb, hr, hml, hown, hts, hX, hbl, hlk, hgv⟩ := id F
  refine lv_ldc2 hx hb hown (hts _ (List.mem_filter.mp hw).1) hd ?_
  exact k p e s mt below meth c F hK hh H locs ls hR hl
theorem zl_call {mc : zMi} {idx c n n0 d : Nat} {a : Int} {As rest : List Value} {Q' : Int → zM → Prop} (hd : decode code pc = .ok (.invokevirtual idx, 3)) (hc : zCall R_law idx mc n) (hin : Cond.instanceMethod mc.1 ∈ zW) (hse : Cond.selects mc.1.cls mc.1 mc.1 ∈ zW) (hs : zsh a = some (c + 3, n0)) (hC : (vwCl[c]?).map (fun q => q.1) = some mc.1.cls) (hst : stk = As.reverse ++ rr K a :: rest) (hn : As.length = n) (hw : (rest.map fun v => v.category).sum ≤ 8) (hdd : d ≤ 1000) (hM : zCt K d mc (rr K a :: As) m Q')
    (kk : ∀ r m', inR r → Q' r m' → zLj K b L xs (pc + 3) loc (zpu mc.2.2.2 r rest) m') : zLj K b L xs pc loc stk m := by
  subst hst
  intro p e s mt below meth cd F hK hh H locs ls hR hl
  obtain ⟨hx, hb, hr, hml, hown, hts0, hX, hbl, hlk, hgv⟩ := id F
  have hts : ∀ w ∈ zW, w.before #[Value.ref b] s = true := fun w hw => hts0 w (List.mem_filter.mp hw).1
  obtain ⟨g1, g2, g3, g4, g5⟩ := hc
  have he := zwm_get (K := K) (m := m) hs
  rw [zent_o hs] at he
  cases hq : vwCl[c]? with
  | none => rw [hq] at hC; cases hC
  | some q =>
    rw [hq] at hC
    have hC : q.1 = mc.1.cls := Option.some.inj hC
    have hrecv := va_recv hK.1 hR.1 hq he
    rw [hC] at hrecv
    refine zback (va_runV (As := As) (rest := rest) (C := mc.1.cls) (bytes := mc.2.1) (maxL := mc.2.2.1) (ret := mc.2.2.2) ⟨hx, hb, hml, hown, hts⟩ hM ⟨callB_of n hts (zW_good g3 (fun _ h => h)) rfl rfl rfl (hts _ g2) (hts _ g1) g4 ⟨by show d + 1 ≤ 2048; omega, by show 8 + (mc.2.2.1 + 11) + 40 * d ≤ 84000; omega⟩, hts _ hin, hts _ hse⟩ ⟨zPc.blind, hrecv, fun U hU hW => ⟨rfl, by rw [hU]; exact hR.nil, hK.warm hW⟩⟩ rfl hn hl.1 rfl (lv_room hw) hd ⟨Nat.le_refl _, Nat.le_refl _⟩) hR (fun r m' H1 locs1 hi hq hR1 => ?_)
    exact kk r m' hi hq p e s mt below meth cd F hK hh H1 locs1 ls hR1 hl
theorem zl_ret (hd : decode code pc = .ok (.ireturn, 1)) : zLj K b L xs pc loc [.int (iz 1)] m := by
  intro p e s mt below meth c F hK hh H locs ls hR hl
  obtain ⟨hx, hb, hr, hml, hown, hts, hX, hbl, hlk, hgv⟩ := id F
  refine va_forget (fun q hq => ?_) (lw_ret hx hb hr hlk hd)
  have := hR.2.1.2.2 q hq
  unfold zA zB at this
  rw [hh]
  exact this
end LW
