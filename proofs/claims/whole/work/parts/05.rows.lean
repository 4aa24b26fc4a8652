def zi2c (x : Int) : Int := (((iz x).toUInt32 % 65536).toInt32).toInt
theorem inR_zi2c (x : Int) : inR (zi2c x) := inR_of _
def zi2s (x : Int) : Int := ((iz x).toInt16.toInt32).toInt
theorem inR_zi2s (x : Int) : inR (zi2s x) := inR_of _
def zi2b (x : Int) : Int := ((iz x).toInt8.toInt32).toInt
theorem inR_zi2b (x : Int) : inR (zi2b x) := inR_of _
def zushr (x y : Int) : Int := ((iz x).toUInt32 >>> ((iz y).toUInt32 &&& Int32.toUInt32 31)).toInt32.toInt
theorem inR_zushr (x y : Int) : inR (zushr x y) := inR_of _
def zshr (x y : Int) : Int := (iz x >>> (iz y &&& 31)).toInt
theorem inR_zshr (x y : Int) : inR (zshr x y) := inR_of _
def zshl (x y : Int) : Int := (iz x <<< (iz y &&& 31)).toInt
theorem inR_zshl (x y : Int) : inR (zshl x y) := inR_of _
def zxor (x y : Int) : Int := (iz x ^^^ iz y).toInt
theorem inR_zxor (x y : Int) : inR (zxor x y) := inR_of _
def zor (x y : Int) : Int := (iz x ||| iz y).toInt
theorem inR_zor (x y : Int) : inR (zor x y) := inR_of _
def zand (x y : Int) : Int := (iz x &&& iz y).toInt
theorem inR_zand (x y : Int) : inR (zand x y) := inR_of _
section ZR
variable {K : zCx} {mi : zMi} {d pc : Nat} {loc : List (Nat × Value)} {stk : List Value} {m : zM} {Q : Int → zM → Prop}
theorem zV_iconst {n : Int} (hd : decode mi.2.1 pc = .ok (.iconst n, 1))  (k : zV K mi d (pc + 1) loc (.int (iz n) :: stk) m Q) : zV K mi d pc loc (stk) m Q := by
  intro p e s mt args below meth c F H locs ls hR hl
  obtain ⟨hx, hb, hr, hml, hown, hts, hlk, hK⟩ := id F
  refine lv_iconst hx hb hd rfl ?_
  exact k p e s mt args below meth c F H locs ls hR hl
theorem zV_bipush {n : Int} (hd : decode mi.2.1 pc = .ok (.bipush n, 2)) (hv : (Int8.ofInt n).toInt32 = iz n) (k : zV K mi d (pc + 2) loc (.int (iz n) :: stk) m Q) : zV K mi d pc loc (stk) m Q := by
  intro p e s mt args below meth c F H locs ls hR hl
  obtain ⟨hx, hb, hr, hml, hown, hts, hlk, hK⟩ := id F
  refine lv_bipush hx hb hd hv ?_
  exact k p e s mt args below meth c F H locs ls hR hl
theorem zV_sipush {n : Int} (hd : decode mi.2.1 pc = .ok (.sipush n, 3)) (hv : (Int16.ofInt n).toInt32 = iz n) (k : zV K mi d (pc + 3) loc (.int (iz n) :: stk) m Q) : zV K mi d pc loc (stk) m Q := by
  intro p e s mt args below meth c F H locs ls hR hl
  obtain ⟨hx, hb, hr, hml, hown, hts, hlk, hK⟩ := id F
  refine lv_sipush hx hb hd hv ?_
  exact k p e s mt args below meth c F H locs ls hR hl
theorem zV_lconst {n : Fin 2} {v : Int64} (hd : decode mi.2.1 pc = .ok (.lconst n, 1)) (hv : Int64.ofNat (n : Nat) = v) (k : zV K mi d (pc + 1) loc (.long v :: stk) m Q) : zV K mi d pc loc (stk) m Q := by
  intro p e s mt args below meth c F H locs ls hR hl
  obtain ⟨hx, hb, hr, hml, hown, hts, hlk, hK⟩ := id F
  refine lv_lconst hx hb hd hv ?_
  exact k p e s mt args below meth c F H locs ls hR hl
theorem zV_ldc {i : Nat} {v : Int} (hd : decode mi.2.1 pc = .ok (.ldc i, 2)) (hw : Cond.constant mi.1.cls i (iz v) ∈ zW) (k : zV K mi d (pc + 2) loc (.int (iz v) :: stk) m Q) : zV K mi d pc loc (stk) m Q := by
  intro p e s mt args below meth c F H locs ls hR hl
  obtain ⟨hx, hb, hr, hml, hown, hts, hlk, hK⟩ := id F
  refine lv_ldc hx hb hown (hts _ hw) hd ?_
  exact k p e s mt args below meth c F H locs ls hR hl
theorem zV_ldcw {i : Nat} {v : Int} (hd : decode mi.2.1 pc = .ok (.ldc_w i, 3)) (hw : Cond.constant mi.1.cls i (iz v) ∈ zW) (k : zV K mi d (pc + 3) loc (.int (iz v) :: stk) m Q) : zV K mi d pc loc (stk) m Q := by
  intro p e s mt args below meth c F H locs ls hR hl
  obtain ⟨hx, hb, hr, hml, hown, hts, hlk, hK⟩ := id F
  refine lv_ldcw hx hb hown (hts _ hw) hd ?_
  exact k p e s mt args below meth c F H locs ls hR hl
theorem zV_ldc2 {i : Nat} {v : Int64} (hd : decode mi.2.1 pc = .ok (.ldc2_w i, 3)) (hw : Cond.constantLong mi.1.cls i v ∈ zW) (k : zV K mi d (pc + 3) loc (.long v :: stk) m Q) : zV K mi d pc loc (stk) m Q := by
  intro p e s mt args below meth c F H locs ls hR hl
  obtain ⟨hx, hb, hr, hml, hown, hts, hlk, hK⟩ := id F
  refine lv_ldc2 hx hb hown (hts _ hw) hd ?_
  exact k p e s mt args below meth c F H locs ls hR hl
theorem zV_iload_n {k4 : Fin 4} {i : Nat} {x : Int32} (hd : decode mi.2.1 pc = .ok (.iload_n k4, 1)) (hi : (k4 : Nat) = i) (j : Nat) (hj : loc[j]? = some (i, .int x)) (k : zV K mi d (pc + 1) loc (.int x :: stk) m Q) : zV K mi d pc loc (stk) m Q := by
  intro p e s mt args below meth c F H locs ls hR hl
  obtain ⟨hx, hb, hr, hml, hown, hts, hlk, hK⟩ := id F
  refine lv_iload_n hx hb hd hi (lv_at hl j hj) ?_
  exact k p e s mt args below meth c F H locs ls hR hl
theorem zV_iload {i : Nat} {x : Int32} (hd : decode mi.2.1 pc = .ok (.iload i, 2)) (j : Nat) (hj : loc[j]? = some (i, .int x)) (k : zV K mi d (pc + 2) loc (.int x :: stk) m Q) : zV K mi d pc loc (stk) m Q := by
  intro p e s mt args below meth c F H locs ls hR hl
  obtain ⟨hx, hb, hr, hml, hown, hts, hlk, hK⟩ := id F
  refine lv_iload hx hb hd (lv_at hl j hj) ?_
  exact k p e s mt args below meth c F H locs ls hR hl
theorem zV_lload_n {k4 : Fin 4} {i : Nat} {x : Int64} (hd : decode mi.2.1 pc = .ok (.lload_n k4, 1)) (hi : (k4 : Nat) = i) (j : Nat) (hj : loc[j]? = some (i, .long x)) (k : zV K mi d (pc + 1) loc (.long x :: stk) m Q) : zV K mi d pc loc (stk) m Q := by
  intro p e s mt args below meth c F H locs ls hR hl
  obtain ⟨hx, hb, hr, hml, hown, hts, hlk, hK⟩ := id F
  refine lv_lload_n hx hb hd hi (lv_at hl j hj) ?_
  exact k p e s mt args below meth c F H locs ls hR hl
theorem zV_lload {i : Nat} {x : Int64} (hd : decode mi.2.1 pc = .ok (.lload i, 2)) (j : Nat) (hj : loc[j]? = some (i, .long x)) (k : zV K mi d (pc + 2) loc (.long x :: stk) m Q) : zV K mi d pc loc (stk) m Q := by
  intro p e s mt args below meth c F H locs ls hR hl
  obtain ⟨hx, hb, hr, hml, hown, hts, hlk, hK⟩ := id F
  refine lv_lload hx hb hd (lv_at hl j hj) ?_
  exact k p e s mt args below meth c F H locs ls hR hl
theorem zV_aload_n {k4 : Fin 4} {i : Nat} {x : Nat} (hd : decode mi.2.1 pc = .ok (.aload_n k4, 1)) (hi : (k4 : Nat) = i) (j : Nat) (hj : loc[j]? = some (i, .ref x)) (k : zV K mi d (pc + 1) loc (.ref x :: stk) m Q) : zV K mi d pc loc (stk) m Q := by
  intro p e s mt args below meth c F H locs ls hR hl
  obtain ⟨hx, hb, hr, hml, hown, hts, hlk, hK⟩ := id F
  refine lv_aload_n hx hb hd hi (lv_at hl j hj) ?_
  exact k p e s mt args below meth c F H locs ls hR hl
theorem zV_aload {i : Nat} {x : Nat} (hd : decode mi.2.1 pc = .ok (.aload i, 2)) (j : Nat) (hj : loc[j]? = some (i, .ref x)) (k : zV K mi d (pc + 2) loc (.ref x :: stk) m Q) : zV K mi d pc loc (stk) m Q := by
  intro p e s mt args below meth c F H locs ls hR hl
  obtain ⟨hx, hb, hr, hml, hown, hts, hlk, hK⟩ := id F
  refine lv_aload hx hb hd (lv_at hl j hj) ?_
  exact k p e s mt args below meth c F H locs ls hR hl
theorem zV_istore_n {k4 : Fin 4} {i : Nat} {x : Int32} {loc' : List (Nat × Value)} (hd : decode mi.2.1 pc = .ok (.istore_n k4, 1)) (hi : (k4 : Nat) = i) (hn : i < mi.2.2.1) (hl' : (i, Value.int x) :: loc.filter (fun q => !(q.1 == i) && !(q.1 + 1 == i && q.2.category == 2)) = loc') (k : zV K mi d (pc + 1) loc' stk m Q) : zV K mi d pc loc (.int x :: stk) m Q := by
  intro p e s mt args below meth c F H locs ls hR hl
  obtain ⟨hx, hb, hr, hml, hown, hts, hlk, hK⟩ := id F
  refine lv_istore_n hx hb hd hi hl hn hl' (fun ls hl => ?_)
  exact k p e s mt args below meth c F H locs ls hR hl
theorem zV_istore {i : Nat} {x : Int32} {loc' : List (Nat × Value)} (hd : decode mi.2.1 pc = .ok (.istore i, 2)) (hn : i < mi.2.2.1) (hl' : (i, Value.int x) :: loc.filter (fun q => !(q.1 == i) && !(q.1 + 1 == i && q.2.category == 2)) = loc') (k : zV K mi d (pc + 2) loc' stk m Q) : zV K mi d pc loc (.int x :: stk) m Q := by
  intro p e s mt args below meth c F H locs ls hR hl
  obtain ⟨hx, hb, hr, hml, hown, hts, hlk, hK⟩ := id F
  refine lv_istore hx hb hd hl hn hl' (fun ls hl => ?_)
  exact k p e s mt args below meth c F H locs ls hR hl
theorem zV_astore_n {k4 : Fin 4} {i : Nat} {x : Nat} {loc' : List (Nat × Value)} (hd : decode mi.2.1 pc = .ok (.astore_n k4, 1)) (hi : (k4 : Nat) = i) (hn : i < mi.2.2.1) (hl' : (i, Value.ref x) :: loc.filter (fun q => !(q.1 == i) && !(q.1 + 1 == i && q.2.category == 2)) = loc') (k : zV K mi d (pc + 1) loc' stk m Q) : zV K mi d pc loc (.ref x :: stk) m Q := by
  intro p e s mt args below meth c F H locs ls hR hl
  obtain ⟨hx, hb, hr, hml, hown, hts, hlk, hK⟩ := id F
  refine lv_astore_n hx hb hd hi hl hn hl' (fun ls hl => ?_)
  exact k p e s mt args below meth c F H locs ls hR hl
theorem zV_astore {i : Nat} {x : Nat} {loc' : List (Nat × Value)} (hd : decode mi.2.1 pc = .ok (.astore i, 2)) (hn : i < mi.2.2.1) (hl' : (i, Value.ref x) :: loc.filter (fun q => !(q.1 == i) && !(q.1 + 1 == i && q.2.category == 2)) = loc') (k : zV K mi d (pc + 2) loc' stk m Q) : zV K mi d pc loc (.ref x :: stk) m Q := by
  intro p e s mt args below meth c F H locs ls hR hl
  obtain ⟨hx, hb, hr, hml, hown, hts, hlk, hK⟩ := id F
  refine lv_astore hx hb hd hl hn hl' (fun ls hl => ?_)
  exact k p e s mt args below meth c F H locs ls hR hl
theorem zV_lstore_n {k4 : Fin 4} {i : Nat} {x : Int64} {loc' : List (Nat × Value)} (hd : decode mi.2.1 pc = .ok (.lstore_n k4, 1)) (hi : (k4 : Nat) = i) (hn : i + 1 < mi.2.2.1) (hl' : (i, Value.long x) :: loc.filter (fun q => !(q.1 == i) && (!(q.1 == i + 1) && !(q.1 + 1 == i && q.2.category == 2))) = loc') (k : zV K mi d (pc + 1) loc' stk m Q) : zV K mi d pc loc (.long x :: stk) m Q := by
  intro p e s mt args below meth c F H locs ls hR hl
  obtain ⟨hx, hb, hr, hml, hown, hts, hlk, hK⟩ := id F
  refine lv_lstore_n hx hb hd hi hl hn hl' (fun ls hl => ?_)
  exact k p e s mt args below meth c F H locs ls hR hl
theorem zV_lstore {i : Nat} {x : Int64} {loc' : List (Nat × Value)} (hd : decode mi.2.1 pc = .ok (.lstore i, 2)) (hn : i + 1 < mi.2.2.1) (hl' : (i, Value.long x) :: loc.filter (fun q => !(q.1 == i) && (!(q.1 == i + 1) && !(q.1 + 1 == i && q.2.category == 2))) = loc') (k : zV K mi d (pc + 2) loc' stk m Q) : zV K mi d pc loc (.long x :: stk) m Q := by
  intro p e s mt args below meth c F H locs ls hR hl
  obtain ⟨hx, hb, hr, hml, hown, hts, hlk, hK⟩ := id F
  refine lv_lstore hx hb hd hl hn hl' (fun ls hl => ?_)
  exact k p e s mt args below meth c F H locs ls hR hl
theorem zV_iinc {i : Nat} {n x : Int} {loc' : List (Nat × Value)} (hd : decode mi.2.1 pc = .ok (.iinc i n, 3)) (j : Nat) (hj : loc[j]? = some (i, .int (iz x))) (hn : i < mi.2.2.1) (hl' : (i, Value.int (iz (x + n))) :: loc.filter (fun q => !(q.1 == i) && !(q.1 + 1 == i && q.2.category == 2)) = loc') (k : zV K mi d (pc + 3) loc' stk m Q) : zV K mi d pc loc stk m Q := by
  intro p e s mt args below meth c F H locs ls hR hl
  obtain ⟨hx, hb, hr, hml, hown, hts, hlk, hK⟩ := id F
  refine lv_iinc hx hb hd hl hj (iz_add x n) hn hl' (fun ls hl => ?_)
  exact k p e s mt args below meth c F H locs ls hR hl
theorem zV_iadd {x y : Int} (hd : decode mi.2.1 pc = .ok (.iadd, 1))  (k : zV K mi d (pc + 1) loc (.int (iz (x + y)) :: stk) m Q) : zV K mi d pc loc (.int (iz y) :: .int (iz x) :: stk) m Q := by
  intro p e s mt args below meth c F H locs ls hR hl
  obtain ⟨hx, hb, hr, hml, hown, hts, hlk, hK⟩ := id F
  refine lv_iadd hx hb hd ?_
  rw [iz_add]
  exact k p e s mt args below meth c F H locs ls hR hl
theorem zV_isub {x y : Int} (hd : decode mi.2.1 pc = .ok (.isub, 1))  (k : zV K mi d (pc + 1) loc (.int (iz (x - y)) :: stk) m Q) : zV K mi d pc loc (.int (iz y) :: .int (iz x) :: stk) m Q := by
  intro p e s mt args below meth c F H locs ls hR hl
  obtain ⟨hx, hb, hr, hml, hown, hts, hlk, hK⟩ := id F
  refine lv_isub hx hb hd ?_
  rw [iz_sub]
  exact k p e s mt args below meth c F H locs ls hR hl
theorem zV_imul {x y : Int} (hd : decode mi.2.1 pc = .ok (.imul, 1))  (k : zV K mi d (pc + 1) loc (.int (iz (x * y)) :: stk) m Q) : zV K mi d pc loc (.int (iz y) :: .int (iz x) :: stk) m Q := by
  intro p e s mt args below meth c F H locs ls hR hl
  obtain ⟨hx, hb, hr, hml, hown, hts, hlk, hK⟩ := id F
  refine lv_imul hx hb hd ?_
  rw [iz_mul]
  exact k p e s mt args below meth c F H locs ls hR hl
theorem zV_ineg {x : Int} (hd : decode mi.2.1 pc = .ok (.ineg, 1))  (k : zV K mi d (pc + 1) loc (.int (iz (-x)) :: stk) m Q) : zV K mi d pc loc (.int (iz x) :: stk) m Q := by
  intro p e s mt args below meth c F H locs ls hR hl
  obtain ⟨hx, hb, hr, hml, hown, hts, hlk, hK⟩ := id F
  refine lv_ineg hx hb hd ?_
  rw [iz_neg]
  exact k p e s mt args below meth c F H locs ls hR hl
theorem zV_iand {x y : Int} (hd : decode mi.2.1 pc = .ok (.iand, 1))  (k : zV K mi d (pc + 1) loc (.int (iz (zand x y)) :: stk) m Q) : zV K mi d pc loc (.int (iz y) :: .int (iz x) :: stk) m Q := by
  intro p e s mt args below meth c F H locs ls hR hl
  obtain ⟨hx, hb, hr, hml, hown, hts, hlk, hK⟩ := id F
  refine lv_iand hx hb hd ?_
  rw [show iz x &&& iz y = iz (zand x y) from (iz_of _).symm]
  exact k p e s mt args below meth c F H locs ls hR hl
theorem zV_ior {x y : Int} (hd : decode mi.2.1 pc = .ok (.ior, 1))  (k : zV K mi d (pc + 1) loc (.int (iz (zor x y)) :: stk) m Q) : zV K mi d pc loc (.int (iz y) :: .int (iz x) :: stk) m Q := by
  intro p e s mt args below meth c F H locs ls hR hl
  obtain ⟨hx, hb, hr, hml, hown, hts, hlk, hK⟩ := id F
  refine lv_ior hx hb hd ?_
  rw [show iz x ||| iz y = iz (zor x y) from (iz_of _).symm]
  exact k p e s mt args below meth c F H locs ls hR hl
theorem zV_ixor {x y : Int} (hd : decode mi.2.1 pc = .ok (.ixor, 1))  (k : zV K mi d (pc + 1) loc (.int (iz (zxor x y)) :: stk) m Q) : zV K mi d pc loc (.int (iz y) :: .int (iz x) :: stk) m Q := by
  intro p e s mt args below meth c F H locs ls hR hl
  obtain ⟨hx, hb, hr, hml, hown, hts, hlk, hK⟩ := id F
  refine lv_ixor hx hb hd ?_
  rw [show iz x ^^^ iz y = iz (zxor x y) from (iz_of _).symm]
  exact k p e s mt args below meth c F H locs ls hR hl
theorem zV_ishl {x y : Int} (hd : decode mi.2.1 pc = .ok (.ishl, 1))  (k : zV K mi d (pc + 1) loc (.int (iz (zshl x y)) :: stk) m Q) : zV K mi d pc loc (.int (iz y) :: .int (iz x) :: stk) m Q := by
  intro p e s mt args below meth c F H locs ls hR hl
  obtain ⟨hx, hb, hr, hml, hown, hts, hlk, hK⟩ := id F
  refine lv_ishl hx hb hd ?_
  rw [show iz x <<< (iz y &&& 31) = iz (zshl x y) from (iz_of _).symm]
  exact k p e s mt args below meth c F H locs ls hR hl
theorem zV_ishr {x y : Int} (hd : decode mi.2.1 pc = .ok (.ishr, 1))  (k : zV K mi d (pc + 1) loc (.int (iz (zshr x y)) :: stk) m Q) : zV K mi d pc loc (.int (iz y) :: .int (iz x) :: stk) m Q := by
  intro p e s mt args below meth c F H locs ls hR hl
  obtain ⟨hx, hb, hr, hml, hown, hts, hlk, hK⟩ := id F
  refine lv_ishr hx hb hd ?_
  rw [show iz x >>> (iz y &&& 31) = iz (zshr x y) from (iz_of _).symm]
  exact k p e s mt args below meth c F H locs ls hR hl
theorem zV_iushr {x y : Int} (hd : decode mi.2.1 pc = .ok (.iushr, 1))  (k : zV K mi d (pc + 1) loc (.int (iz (zushr x y)) :: stk) m Q) : zV K mi d pc loc (.int (iz y) :: .int (iz x) :: stk) m Q := by
  intro p e s mt args below meth c F H locs ls hR hl
  obtain ⟨hx, hb, hr, hml, hown, hts, hlk, hK⟩ := id F
  refine lv_iushr hx hb hd (iz_of _).symm ?_
  exact k p e s mt args below meth c F H locs ls hR hl
theorem zV_idiv {x y : Int} (hd : decode mi.2.1 pc = .ok (.idiv, 1)) (hx1 : inR x) (hy : inR y) (h0 : y ≠ 0) (ho : ¬ (x = -2147483648 ∧ y = -1)) (k : zV K mi d (pc + 1) loc (.int (iz (x.tdiv y)) :: stk) m Q) : zV K mi d pc loc (.int (iz y) :: .int (iz x) :: stk) m Q := by
  intro p e s mt args below meth c F H locs ls hR hl
  obtain ⟨hx, hb, hr, hml, hown, hts, hlk, hK⟩ := id F
  refine lv_idiv hx hb hd (fun q => h0 ((iz_eq hy inR_0).mp q)) ?_
  rw [iz_div hx1 hy ho]
  exact k p e s mt args below meth c F H locs ls hR hl
theorem zV_irem {x y : Int} (hd : decode mi.2.1 pc = .ok (.irem, 1)) (hx1 : inR x) (hy : inR y) (h0 : y ≠ 0) (ho : ¬ (x = -2147483648 ∧ y = -1)) (k : zV K mi d (pc + 1) loc (.int (iz (x.tmod y)) :: stk) m Q) : zV K mi d pc loc (.int (iz y) :: .int (iz x) :: stk) m Q := by
  intro p e s mt args below meth c F H locs ls hR hl
  obtain ⟨hx, hb, hr, hml, hown, hts, hlk, hK⟩ := id F
  refine lv_irem hx hb hd (fun q => h0 ((iz_eq hy inR_0).mp q)) ?_
  rw [iz_rem hx1 hy ho]
  exact k p e s mt args below meth c F H locs ls hR hl
theorem zV_i2b {x : Int} (hd : decode mi.2.1 pc = .ok (.i2b, 1))  (k : zV K mi d (pc + 1) loc (.int (iz (zi2b x)) :: stk) m Q) : zV K mi d pc loc (.int (iz x) :: stk) m Q := by
  intro p e s mt args below meth c F H locs ls hR hl
  obtain ⟨hx, hb, hr, hml, hown, hts, hlk, hK⟩ := id F
  refine lv_i2b hx hb hd (iz_of _).symm ?_
  exact k p e s mt args below meth c F H locs ls hR hl
theorem zV_i2s {x : Int} (hd : decode mi.2.1 pc = .ok (.i2s, 1))  (k : zV K mi d (pc + 1) loc (.int (iz (zi2s x)) :: stk) m Q) : zV K mi d pc loc (.int (iz x) :: stk) m Q := by
  intro p e s mt args below meth c F H locs ls hR hl
  obtain ⟨hx, hb, hr, hml, hown, hts, hlk, hK⟩ := id F
  refine lv_i2s hx hb hd (iz_of _).symm ?_
  exact k p e s mt args below meth c F H locs ls hR hl
theorem zV_i2c {x : Int} (hd : decode mi.2.1 pc = .ok (.i2c, 1))  (k : zV K mi d (pc + 1) loc (.int (iz (zi2c x)) :: stk) m Q) : zV K mi d pc loc (.int (iz x) :: stk) m Q := by
  intro p e s mt args below meth c F H locs ls hR hl
  obtain ⟨hx, hb, hr, hml, hown, hts, hlk, hK⟩ := id F
  refine lv_i2c hx hb hd (iz_of _).symm ?_
  exact k p e s mt args below meth c F H locs ls hR hl
theorem zV_i2l {x : Int} (hd : decode mi.2.1 pc = .ok (.i2l, 1))  (k : zV K mi d (pc + 1) loc (.long (iz x).toInt64 :: stk) m Q) : zV K mi d pc loc (.int (iz x) :: stk) m Q := by
  intro p e s mt args below meth c F H locs ls hR hl
  obtain ⟨hx, hb, hr, hml, hown, hts, hlk, hK⟩ := id F
  refine lv_i2l hx hb hd rfl ?_
  exact k p e s mt args below meth c F H locs ls hR hl
theorem zV_l2i {x : Int64} (hd : decode mi.2.1 pc = .ok (.l2i, 1))  (k : zV K mi d (pc + 1) loc (.int (iz x.toInt32.toInt) :: stk) m Q) : zV K mi d pc loc (.long x :: stk) m Q := by
  intro p e s mt args below meth c F H locs ls hR hl
  obtain ⟨hx, hb, hr, hml, hown, hts, hlk, hK⟩ := id F
  refine lv_l2i hx hb hd (iz_of _).symm ?_
  exact k p e s mt args below meth c F H locs ls hR hl
theorem zV_ladd {x y : Int64} (hd : decode mi.2.1 pc = .ok (.ladd, 1))  (k : zV K mi d (pc + 1) loc (.long (x + y) :: stk) m Q) : zV K mi d pc loc (.long y :: .long x :: stk) m Q := by
  intro p e s mt args below meth c F H locs ls hR hl
  obtain ⟨hx, hb, hr, hml, hown, hts, hlk, hK⟩ := id F
  refine lv_ladd hx hb hd ?_
  exact k p e s mt args below meth c F H locs ls hR hl
theorem zV_lsub {x y : Int64} (hd : decode mi.2.1 pc = .ok (.lsub, 1))  (k : zV K mi d (pc + 1) loc (.long (x - y) :: stk) m Q) : zV K mi d pc loc (.long y :: .long x :: stk) m Q := by
  intro p e s mt args below meth c F H locs ls hR hl
  obtain ⟨hx, hb, hr, hml, hown, hts, hlk, hK⟩ := id F
  refine lv_lsub hx hb hd ?_
  exact k p e s mt args below meth c F H locs ls hR hl
theorem zV_lmul {x y : Int64} (hd : decode mi.2.1 pc = .ok (.lmul, 1))  (k : zV K mi d (pc + 1) loc (.long (x * y) :: stk) m Q) : zV K mi d pc loc (.long y :: .long x :: stk) m Q := by
  intro p e s mt args below meth c F H locs ls hR hl
  obtain ⟨hx, hb, hr, hml, hown, hts, hlk, hK⟩ := id F
  refine lv_lmul hx hb hd ?_
  exact k p e s mt args below meth c F H locs ls hR hl
theorem zV_land {x y : Int64} (hd : decode mi.2.1 pc = .ok (.land, 1))  (k : zV K mi d (pc + 1) loc (.long (x &&& y) :: stk) m Q) : zV K mi d pc loc (.long y :: .long x :: stk) m Q := by
  intro p e s mt args below meth c F H locs ls hR hl
  obtain ⟨hx, hb, hr, hml, hown, hts, hlk, hK⟩ := id F
  refine lv_land hx hb hd ?_
  exact k p e s mt args below meth c F H locs ls hR hl
theorem zV_lor {x y : Int64} (hd : decode mi.2.1 pc = .ok (.lor, 1))  (k : zV K mi d (pc + 1) loc (.long (x ||| y) :: stk) m Q) : zV K mi d pc loc (.long y :: .long x :: stk) m Q := by
  intro p e s mt args below meth c F H locs ls hR hl
  obtain ⟨hx, hb, hr, hml, hown, hts, hlk, hK⟩ := id F
  refine lv_lor hx hb hd ?_
  exact k p e s mt args below meth c F H locs ls hR hl
theorem zV_lshl {x : Int64} {y : Int} (hd : decode mi.2.1 pc = .ok (.lshl, 1))  (k : zV K mi d (pc + 1) loc (.long (x <<< ((iz y).toInt64 &&& 63)) :: stk) m Q) : zV K mi d pc loc (.int (iz y) :: .long x :: stk) m Q := by
  intro p e s mt args below meth c F H locs ls hR hl
  obtain ⟨hx, hb, hr, hml, hown, hts, hlk, hK⟩ := id F
  refine lv_lshl hx hb hd rfl ?_
  exact k p e s mt args below meth c F H locs ls hR hl
theorem zV_lushr {x : Int64} {y : Int} (hd : decode mi.2.1 pc = .ok (.lushr, 1))  (k : zV K mi d (pc + 1) loc (.long (x.toUInt64 >>> ((iz y).toInt64.toUInt64 &&& Int64.toUInt64 63)).toInt64 :: stk) m Q) : zV K mi d pc loc (.int (iz y) :: .long x :: stk) m Q := by
  intro p e s mt args below meth c F H locs ls hR hl
  obtain ⟨hx, hb, hr, hml, hown, hts, hlk, hK⟩ := id F
  refine lv_lushr hx hb hd rfl ?_
  exact k p e s mt args below meth c F H locs ls hR hl
theorem zV_lcmp {x y : Int64} (hd : decode mi.2.1 pc = .ok (.lcmp, 1)) (k : zV K mi d (pc + 1) loc (.int (iz (lg_cmp x y).toInt) :: stk) m Q) : zV K mi d pc loc (.long y :: .long x :: stk) m Q := by
  intro p e s mt args below meth c F H locs ls hR hl
  obtain ⟨hx, hb, hr, hml, hown, hts, hlk, hK⟩ := id F
  refine W.lcmp hx hb hd ?_
  rw [← iz_of (lg_cmp x y)]
  exact k p e s mt args below meth c F H locs ls hR hl
theorem zV_dup {v : Value} (hd : decode mi.2.1 pc = .ok (.dup, 1)) (hc : v.category = 1) (k : zV K mi d (pc + 1) loc (v :: v :: stk) m Q) : zV K mi d pc loc (v :: stk) m Q := by
  intro p e s mt args below meth c F H locs ls hR hl
  obtain ⟨hx, hb, hr, hml, hown, hts, hlk, hK⟩ := id F
  refine lv_dup hx hb hd hc ?_
  exact k p e s mt args below meth c F H locs ls hR hl
theorem zV_pop {v : Value} (hd : decode mi.2.1 pc = .ok (.pop, 1)) (hc : v.category = 1) (k : zV K mi d (pc + 1) loc (stk) m Q) : zV K mi d pc loc (v :: stk) m Q := by
  intro p e s mt args below meth c F H locs ls hR hl
  obtain ⟨hx, hb, hr, hml, hown, hts, hlk, hK⟩ := id F
  refine lv_pop hx hb hd hc ?_
  exact k p e s mt args below meth c F H locs ls hR hl
theorem zV_dup2 {v w : Value} (hd : decode mi.2.1 pc = .ok (.dup2, 1)) (hc : v.category = 1) (hc2 : w.category = 1) (k : zV K mi d (pc + 1) loc (v :: w :: v :: w :: stk) m Q) : zV K mi d pc loc (v :: w :: stk) m Q := by
  intro p e s mt args below meth c F H locs ls hR hl
  obtain ⟨hx, hb, hr, hml, hown, hts, hlk, hK⟩ := id F
  refine lv_dup2_11 hx hb hd hc hc2 ?_
  exact k p e s mt args below meth c F H locs ls hR hl
theorem zV_goto {off : Int} {tgt : Nat} (hd : decode mi.2.1 pc = .ok (.goto off, 3)) (ht : (pc : Int) + off = (tgt : Int)) (k : zV K mi d tgt loc (stk) m Q) : zV K mi d pc loc (stk) m Q := by
  intro p e s mt args below meth c F H locs ls hR hl
  obtain ⟨hx, hb, hr, hml, hown, hts, hlk, hK⟩ := id F
  refine lv_goto hx hb hd ht ?_
  exact k p e s mt args below meth c F H locs ls hR hl
theorem zV_if_eq {x off : Int} {tgt : Nat} (hd : decode mi.2.1 pc = .ok (.ifCond .eq off, 3)) (ht : (pc : Int) + off = (tgt : Int)) (hx1 : inR x) (kt : x = 0 → zV K mi d tgt loc stk m Q) (kf : ¬ (x = 0) → zV K mi d (pc + 3) loc stk m Q) : zV K mi d pc loc (.int (iz x) :: stk) m Q := by
  intro p e s mt args below meth c F H locs ls hR hl
  obtain ⟨hx, hb, hr, hml, hown, hts, hlk, hK⟩ := id F
  exact lv_if_eq hx hb hd ht (fun q => kt ((iz_eq hx1 inR_0).mp q) p e s mt args below meth c F H locs ls hR hl) (fun q => kf (fun z => q ((iz_eq hx1 inR_0).mpr z)) p e s mt args below meth c F H locs ls hR hl)
theorem zV_icmp_eq {x y off : Int} {tgt : Nat} (hd : decode mi.2.1 pc = .ok (.if_icmp .eq off, 3)) (ht : (pc : Int) + off = (tgt : Int)) (hx1 : inR x) (hy : inR y) (kt : x = y → zV K mi d tgt loc stk m Q) (kf : ¬ (x = y) → zV K mi d (pc + 3) loc stk m Q) : zV K mi d pc loc (.int (iz y) :: .int (iz x) :: stk) m Q := by
  intro p e s mt args below meth c F H locs ls hR hl
  obtain ⟨hx, hb, hr, hml, hown, hts, hlk, hK⟩ := id F
  exact lv_icmp_eq hx hb hd ht (fun q => kt ((iz_eq hx1 hy).mp q) p e s mt args below meth c F H locs ls hR hl) (fun q => kf (fun z => q ((iz_eq hx1 hy).mpr z)) p e s mt args below meth c F H locs ls hR hl)
theorem zV_if_ne {x off : Int} {tgt : Nat} (hd : decode mi.2.1 pc = .ok (.ifCond .ne off, 3)) (ht : (pc : Int) + off = (tgt : Int)) (hx1 : inR x) (kt : x ≠ 0 → zV K mi d tgt loc stk m Q) (kf : ¬ (x ≠ 0) → zV K mi d (pc + 3) loc stk m Q) : zV K mi d pc loc (.int (iz x) :: stk) m Q := by
  intro p e s mt args below meth c F H locs ls hR hl
  obtain ⟨hx, hb, hr, hml, hown, hts, hlk, hK⟩ := id F
  exact lv_if_ne hx hb hd ht (fun q => kt (fun z => q ((iz_eq hx1 inR_0).mpr z)) p e s mt args below meth c F H locs ls hR hl) (fun q => kf (fun z => z ((iz_eq hx1 inR_0).mp q)) p e s mt args below meth c F H locs ls hR hl)
theorem zV_icmp_ne {x y off : Int} {tgt : Nat} (hd : decode mi.2.1 pc = .ok (.if_icmp .ne off, 3)) (ht : (pc : Int) + off = (tgt : Int)) (hx1 : inR x) (hy : inR y) (kt : x ≠ y → zV K mi d tgt loc stk m Q) (kf : ¬ (x ≠ y) → zV K mi d (pc + 3) loc stk m Q) : zV K mi d pc loc (.int (iz y) :: .int (iz x) :: stk) m Q := by
  intro p e s mt args below meth c F H locs ls hR hl
  obtain ⟨hx, hb, hr, hml, hown, hts, hlk, hK⟩ := id F
  exact lv_icmp_ne hx hb hd ht (fun q => kt (fun z => q ((iz_eq hx1 hy).mpr z)) p e s mt args below meth c F H locs ls hR hl) (fun q => kf (fun z => z ((iz_eq hx1 hy).mp q)) p e s mt args below meth c F H locs ls hR hl)
theorem zV_if_lt {x off : Int} {tgt : Nat} (hd : decode mi.2.1 pc = .ok (.ifCond .lt off, 3)) (ht : (pc : Int) + off = (tgt : Int)) (hx1 : inR x) (kt : x < 0 → zV K mi d tgt loc stk m Q) (kf : ¬ (x < 0) → zV K mi d (pc + 3) loc stk m Q) : zV K mi d pc loc (.int (iz x) :: stk) m Q := by
  intro p e s mt args below meth c F H locs ls hR hl
  obtain ⟨hx, hb, hr, hml, hown, hts, hlk, hK⟩ := id F
  exact lv_if_lt hx hb hd ht (fun q => kt ((iz_lt hx1 inR_0).mp q) p e s mt args below meth c F H locs ls hR hl) (fun q => kf (fun z => q ((iz_lt hx1 inR_0).mpr z)) p e s mt args below meth c F H locs ls hR hl)
theorem zV_icmp_lt {x y off : Int} {tgt : Nat} (hd : decode mi.2.1 pc = .ok (.if_icmp .lt off, 3)) (ht : (pc : Int) + off = (tgt : Int)) (hx1 : inR x) (hy : inR y) (kt : x < y → zV K mi d tgt loc stk m Q) (kf : ¬ (x < y) → zV K mi d (pc + 3) loc stk m Q) : zV K mi d pc loc (.int (iz y) :: .int (iz x) :: stk) m Q := by
  intro p e s mt args below meth c F H locs ls hR hl
  obtain ⟨hx, hb, hr, hml, hown, hts, hlk, hK⟩ := id F
  exact lv_icmp_lt hx hb hd ht (fun q => kt ((iz_lt hx1 hy).mp q) p e s mt args below meth c F H locs ls hR hl) (fun q => kf (fun z => q ((iz_lt hx1 hy).mpr z)) p e s mt args below meth c F H locs ls hR hl)
theorem zV_if_ge {x off : Int} {tgt : Nat} (hd : decode mi.2.1 pc = .ok (.ifCond .ge off, 3)) (ht : (pc : Int) + off = (tgt : Int)) (hx1 : inR x) (kt : 0 ≤ x → zV K mi d tgt loc stk m Q) (kf : ¬ (0 ≤ x) → zV K mi d (pc + 3) loc stk m Q) : zV K mi d pc loc (.int (iz x) :: stk) m Q := by
  intro p e s mt args below meth c F H locs ls hR hl
  obtain ⟨hx, hb, hr, hml, hown, hts, hlk, hK⟩ := id F
  exact lv_if_ge hx hb hd ht (fun q => kt ((iz_le inR_0 hx1).mp q) p e s mt args below meth c F H locs ls hR hl) (fun q => kf (fun z => q ((iz_le inR_0 hx1).mpr z)) p e s mt args below meth c F H locs ls hR hl)
theorem zV_icmp_ge {x y off : Int} {tgt : Nat} (hd : decode mi.2.1 pc = .ok (.if_icmp .ge off, 3)) (ht : (pc : Int) + off = (tgt : Int)) (hx1 : inR x) (hy : inR y) (kt : y ≤ x → zV K mi d tgt loc stk m Q) (kf : ¬ (y ≤ x) → zV K mi d (pc + 3) loc stk m Q) : zV K mi d pc loc (.int (iz y) :: .int (iz x) :: stk) m Q := by
  intro p e s mt args below meth c F H locs ls hR hl
  obtain ⟨hx, hb, hr, hml, hown, hts, hlk, hK⟩ := id F
  exact lv_icmp_ge hx hb hd ht (fun q => kt ((iz_le hy hx1).mp q) p e s mt args below meth c F H locs ls hR hl) (fun q => kf (fun z => q ((iz_le hy hx1).mpr z)) p e s mt args below meth c F H locs ls hR hl)
theorem zV_if_gt {x off : Int} {tgt : Nat} (hd : decode mi.2.1 pc = .ok (.ifCond .gt off, 3)) (ht : (pc : Int) + off = (tgt : Int)) (hx1 : inR x) (kt : 0 < x → zV K mi d tgt loc stk m Q) (kf : ¬ (0 < x) → zV K mi d (pc + 3) loc stk m Q) : zV K mi d pc loc (.int (iz x) :: stk) m Q := by
  intro p e s mt args below meth c F H locs ls hR hl
  obtain ⟨hx, hb, hr, hml, hown, hts, hlk, hK⟩ := id F
  exact lv_if_gt hx hb hd ht (fun q => kt ((iz_lt inR_0 hx1).mp q) p e s mt args below meth c F H locs ls hR hl) (fun q => kf (fun z => q ((iz_lt inR_0 hx1).mpr z)) p e s mt args below meth c F H locs ls hR hl)
theorem zV_icmp_gt {x y off : Int} {tgt : Nat} (hd : decode mi.2.1 pc = .ok (.if_icmp .gt off, 3)) (ht : (pc : Int) + off = (tgt : Int)) (hx1 : inR x) (hy : inR y) (kt : y < x → zV K mi d tgt loc stk m Q) (kf : ¬ (y < x) → zV K mi d (pc + 3) loc stk m Q) : zV K mi d pc loc (.int (iz y) :: .int (iz x) :: stk) m Q := by
  intro p e s mt args below meth c F H locs ls hR hl
  obtain ⟨hx, hb, hr, hml, hown, hts, hlk, hK⟩ := id F
  exact lv_icmp_gt hx hb hd ht (fun q => kt ((iz_lt hy hx1).mp q) p e s mt args below meth c F H locs ls hR hl) (fun q => kf (fun z => q ((iz_lt hy hx1).mpr z)) p e s mt args below meth c F H locs ls hR hl)
theorem zV_if_le {x off : Int} {tgt : Nat} (hd : decode mi.2.1 pc = .ok (.ifCond .le off, 3)) (ht : (pc : Int) + off = (tgt : Int)) (hx1 : inR x) (kt : x ≤ 0 → zV K mi d tgt loc stk m Q) (kf : ¬ (x ≤ 0) → zV K mi d (pc + 3) loc stk m Q) : zV K mi d pc loc (.int (iz x) :: stk) m Q := by
  intro p e s mt args below meth c F H locs ls hR hl
  obtain ⟨hx, hb, hr, hml, hown, hts, hlk, hK⟩ := id F
  exact lv_if_le hx hb hd ht (fun q => kt ((iz_le hx1 inR_0).mp q) p e s mt args below meth c F H locs ls hR hl) (fun q => kf (fun z => q ((iz_le hx1 inR_0).mpr z)) p e s mt args below meth c F H locs ls hR hl)
theorem zV_icmp_le {x y off : Int} {tgt : Nat} (hd : decode mi.2.1 pc = .ok (.if_icmp .le off, 3)) (ht : (pc : Int) + off = (tgt : Int)) (hx1 : inR x) (hy : inR y) (kt : x ≤ y → zV K mi d tgt loc stk m Q) (kf : ¬ (x ≤ y) → zV K mi d (pc + 3) loc stk m Q) : zV K mi d pc loc (.int (iz y) :: .int (iz x) :: stk) m Q := by
  intro p e s mt args below meth c F H locs ls hR hl
  obtain ⟨hx, hb, hr, hml, hown, hts, hlk, hK⟩ := id F
  exact lv_icmp_le hx hb hd ht (fun q => kt ((iz_le hx1 hy).mp q) p e s mt args below meth c F H locs ls hR hl) (fun q => kf (fun z => q ((iz_le hx1 hy).mpr z)) p e s mt args below meth c F H locs ls hR hl)
theorem zV_tswOut {dflt lo hi x : Int} {offs : Array Int} {len tgt : Nat} (hd : decode mi.2.1 pc = .ok (.tableswitch dflt lo hi offs, len)) (hx1 : inR x) (h : x < lo ∨ hi < x) (ht : (pc : Int) + dflt = (tgt : Int)) (k : zV K mi d tgt loc stk m Q) : zV K mi d pc loc (.int (iz x) :: stk) m Q := by
  intro p e s mt args below meth c F H locs ls hR hl
  obtain ⟨hx, hb, hr, hml, hown, hts, hlk, hK⟩ := id F
  refine lv_tableOut hx hb hd (by rw [iz_toInt hx1]; exact h) ht ?_
  exact k p e s mt args below meth c F H locs ls hR hl
theorem zV_tswIn {dflt lo hi x v off : Int} {offs : Array Int} {len tgt : Nat} (hd : decode mi.2.1 pc = .ok (.tableswitch dflt lo hi offs, len)) (hv : x = v) (hx1 : inR v) (h1 : ¬ v < lo) (h2 : ¬ hi < v) (ho : offs[(v - lo).toNat]? = some off) (ht : (pc : Int) + off = (tgt : Int)) (k : zV K mi d tgt loc stk m Q) : zV K mi d pc loc (.int (iz x) :: stk) m Q := by
  subst hv
  intro p e s mt args below meth c F H locs ls hR hl
  obtain ⟨hx, hb, hr, hml, hown, hts, hlk, hK⟩ := id F
  refine lv_tableIn hx hb hd (by rw [iz_toInt hx1]; exact h1) (by rw [iz_toInt hx1]; exact h2) (by rw [iz_toInt hx1]; exact ho) ht ?_
  exact k p e s mt args below meth c F H locs ls hR hl
theorem zV_lsw {dflt x off : Int} {ps : Array (Int × Int)} {len tgt : Nat} (hd : decode mi.2.1 pc = .ok (.lookupswitch dflt ps, len)) (hp : (ps.toList.zip (ps.toList.drop 1)).all (fun (a, next) => a.1 < next.1) = true) (hx1 : inR x) (ho : Op.lookupswitch.offset ps.toList dflt x = off) (ht : (pc : Int) + off = (tgt : Int)) (k : zV K mi d tgt loc stk m Q) : zV K mi d pc loc (.int (iz x) :: stk) m Q := by
  intro p e s mt args below meth c F H locs ls hR hl
  obtain ⟨hx, hb, hr, hml, hown, hts, hlk, hK⟩ := id F
  refine lv_lookup hx hb hd hp (by rw [iz_toInt hx1]; exact ho) ht ?_
  exact k p e s mt args below meth c F H locs ls hR hl
theorem zV_name {x : Int} (k : ∀ y, y = x → zV K mi d pc loc (.int (iz y) :: stk) m Q) : zV K mi d pc loc (.int (iz x) :: stk) m Q := k x rfl
theorem zV_mem (k : ∀ m', m' = m → zV K mi d pc loc stk m' Q) : zV K mi d pc loc stk m Q := k m rfl
theorem zV_sub {loc' : List (Nat × Value)} (ks : List Nat) (hs : lv_pick loc ks = loc') (k : zV K mi d pc loc' stk m Q) : zV K mi d pc loc stk m Q := by
  intro p e s mt args below meth c F H locs ls hR hl
  obtain ⟨hx, hb, hr, hml, hown, hts, hlk, hK⟩ := id F
  exact k p e s mt args below meth c F H locs ls hR (lv_sub hl ks hs)
theorem zV_ok (k : (∀ a k, inR (m.1 a k)) → zV K mi d pc loc stk m Q) : zV K mi d pc loc stk m Q := by
  intro p e s mt args below meth c F H locs ls hR hl
  obtain ⟨hx, hb, hr, hml, hown, hts, hlk, hK⟩ := id F
  exact k hR.2.2 p e s mt args below meth c F H locs ls hR hl
theorem zV_post {Q' : Int → zM → Prop} (h : ∀ r m', Q' r m' → Q r m') (k : zV K mi d pc loc stk m Q') : zV K mi d pc loc stk m Q := by
  intro p e s mt args below meth c F H locs ls hR hl T hT X
  obtain ⟨t, h1, o, h2, h3, ⟨r, m', e1, e2, e3, e4⟩, h4⟩ := k p e s mt args below meth c F H locs ls hR hl T hT X
  exact ⟨t, h1, o, h2, h3, ⟨r, m', e1, e2, h r m' e3, e4⟩, h4⟩
theorem zrel_ret {t : State} {H : Heap} {locs : List Loc} (ht : t.heap = H) (hR : zRel K m H locs) : zRel K m t.heap [] := by rw [ht]; exact hR.nil
theorem zV_iret {r : Int} (hret : mi.2.2.2 = some .int) (hd : decode mi.2.1 pc = .ok (.ireturn, 1)) (hi : inR r) (k : Q r m) : zV K mi d pc loc [.int (iz r)] m Q := by
  intro p e s mt args below meth c F H locs ls hR hl
  obtain ⟨hx, hb, hr, hml, hown, hts, hlk, hK⟩ := id F
  exact W.iret hx hb (hr.trans hret) (fun t ht hW => ⟨r, m, by rw [hret]; rfl, hi, k, zrel_ret ht hR⟩) (fun q hq => hR.2.1.2.2 q hq) hd hlk
theorem zV_zret {r : Int} (hret : mi.2.2.2 = some .boolean) (hd : decode mi.2.1 pc = .ok (.ireturn, 1)) (hi : r = 0 ∨ r = 1) (k : Q r m) : zV K mi d pc loc [.int (iz r)] m Q := by
  intro p e s mt args below meth c F H locs ls hR hl
  obtain ⟨hx, hb, hr, hml, hown, hts, hlk, hK⟩ := id F
  exact W.zret hx hb (hr.trans hret) (by rcases hi with rfl | rfl <;> rfl) (fun t ht hW => ⟨r, m, by rw [hret]; rfl, by rcases hi with rfl | rfl <;> exact ⟨by omega, by omega⟩, k, zrel_ret ht hR⟩) (fun q hq => hR.2.1.2.2 q hq) hd hlk
theorem zV_nret {r : Int} {ty : FieldType} (hret : mi.2.2.2 = some ty) (hd : decode mi.2.1 pc = .ok (.ireturn, 1)) (hn : narrow ty (.int (iz r)) = .int (iz r)) (hi : inR r) (k : Q r m) : zV K mi d pc loc [.int (iz r)] m Q := by
  intro p e s mt args below meth c F H locs ls hR hl
  obtain ⟨hx, hb, hr, hml, hown, hts, hlk, hK⟩ := id F
  exact W.zret hx hb (hr.trans hret) hn (fun t ht hW => ⟨r, m, by rw [hret]; rfl, hi, k, zrel_ret ht hR⟩) (fun q hq => hR.2.1.2.2 q hq) hd hlk
theorem zV_vret (hret : mi.2.2.2 = none) (hd : decode mi.2.1 pc = .ok (.return_, 1)) (k : Q 0 m) : zV K mi d pc loc [] m Q := by
  intro p e s mt args below meth c F H locs ls hR hl
  obtain ⟨hx, hb, hr, hml, hown, hts, hlk, hK⟩ := id F
  exact W.vret hx hb (hr.trans hret) (fun t ht hW => ⟨0, m, by rw [hret]; rfl, inR_0, k, zrel_ret ht hR⟩) (fun q hq => hR.2.1.2.2 q hq) hd hlk
end ZR
