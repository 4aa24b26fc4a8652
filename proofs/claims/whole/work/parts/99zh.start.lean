/-! PRINTED by gen/build99h.py: what is known at the law's entry -/
def zFlt : List Cond := flatC (Jvm.Cond.and given_1 narrow_1)
theorem zfl_ab : ∀ j : Nat, j < 7 → (Cond.eq (.elem (.static "SizedParts$Acts" "ABOVE" "[I") (.int (Int32.ofNat j))) (.int (iz (zAb.getD j 0)))) ∈ zFlt := by decide +kernel
theorem zfl_ow : ∀ j : Nat, j < 28 → (Cond.eq (.elem (.static "SizedParts$Acts" "OWN" "[I") (.int (Int32.ofNat j))) (.int (iz (zOw.getD j 0)))) ∈ zFlt := by decide +kernel
theorem zfl_1 : (Cond.arrayOf (.static "SizedParts$Acts" "ABOVE" "[I") .int) ∈ zFlt ∧ (Cond.eq (.length (.static "SizedParts$Acts" "ABOVE" "[I")) (.int (Int32.ofNat 7))) ∈ zFlt ∧ (Cond.arrayOf (.static "SizedParts$Acts" "OWN" "[I") .int) ∈ zFlt ∧ (Cond.eq (.length (.static "SizedParts$Acts" "OWN" "[I")) (.int (Int32.ofNat 28))) ∈ zFlt := by decide +kernel
theorem zfl_2 : (Cond.eq (.static "java/lang/String" "COMPACT_STRINGS" "Z") (.int 1)) ∈ zFlt ∧ (Cond.isRef (.static "jdk/internal/util/Preconditions" "SIOOBE_FORMATTER" "Ljava/util/function/BiFunction;")) ∈ zFlt := by decide +kernel
def zTxm (i : Nat) : Term := .string "SizedParts$Reader" (zTx.getD i (0, "")).1
theorem zfl_s1 : ∀ i : Nat, i < 9 → (Cond.exactly (zTxm i) "java/lang/String") ∈ zFlt ∧ (Cond.eq (.field (zTxm i) "java/lang/String" "coder" "B") (.int 0)) ∈ zFlt ∧ (Cond.arrayOf (.field (zTxm i) "java/lang/String" "value" "[B") .byte) ∈ zFlt ∧ (Cond.eq (.length (.field (zTxm i) "java/lang/String" "value" "[B")) (.int (Int32.ofNat (zLen.getD i 0)))) ∈ zFlt := by decide +kernel
theorem zfl_s2 : ∀ i : Nat, i < 9 → ∀ j : Nat, j < zLen.getD i 0 → (Cond.eq (.elem (.field (zTxm i) "java/lang/String" "value" "[B") (.int (Int32.ofNat j))) (.int ((zByt.getD i []).getD j 0))) ∈ zFlt := by decide +kernel
theorem zfl_s3 : ∀ i : Nat, i < 9 → ∀ j : Nat, j < 9 → i ≠ j → (Cond.not (Cond.eq (zTxm i) (zTxm j))) ∈ zFlt ∨ (Cond.not (Cond.eq (zTxm j) (zTxm i))) ∈ zFlt := by decide +kernel
theorem zfl_s4 : ∀ i : Nat, i < 9 → zLen.getD i 0 < 2 ^ 31 := by decide +kernel
theorem zfl_s5 : ∀ i : Nat, i < 9 → (Cond.stringRef "SizedParts$Reader" (zTx.getD i (0, "")).1 (zTx.getD i (0, "")).2) ∈ lw_tbl := by decide +kernel
theorem zfl_n : ∀ w ∈ zNest, w ∈ lw_tbl ∧ w.onTables = true := by decide +kernel
theorem zK_start {p : Program} {s : State} {mt : MethodId} {meth : Method} {c : Code} {b L : Nat} {xs : Nat → Int32} (l : Launch) (C0 : lw_At p s mt meth c b L xs) : ∃ K : zCx, K.1 = l ∧ K.2.2.2.1 = s.heap ∧ zK K s ∧ va_AO "SizedParts$Part" s := by
  obtain ⟨hx, hb, hr, hml, hown, hts, hX, hbl, hlocks, hgv⟩ := C0
  have hgf : ∀ w ∈ zFlt, w.before #[Value.ref b] s = true := flat_of_before _ hgv
  have hm : ∀ {w : Cond} (i : Nat), lw_tbl[i]? = some w → w.before #[Value.ref b] s = true := fun i h => hts _ (List.mem_of_getElem? h)
  have hzw : ∀ w ∈ zW, w.before #[Value.ref b] s = true := fun w hw => hts w (List.mem_filter.mp hw).1
  obtain ⟨c0, i0, k0⟩ := u_known (C := RX0) (T := TX0) (N := 6) (n := 6) hzw zinX0 (hm 457 (by decide +kernel))
  obtain ⟨c1, i1, k1⟩ := u_known (C := RX1) (T := TX1) (N := 16) (n := 16) hzw zinX1 (hm 260 (by decide +kernel))
  obtain ⟨c2, i2, k2⟩ := u_known (C := RX2) (T := TX2) (N := 6) (n := 6) hzw zinX2 (hm 428 (by decide +kernel))
  obtain ⟨c3, i3, k3⟩ := u_known (C := RX3) (T := TX3) (N := 12) (n := 12) hzw zinX3 (hm 133 (by decide +kernel))
  obtain ⟨c4, i4, k4⟩ := u_known (C := RX4) (T := TX4) (N := 11) (n := 11) hzw zinX4 (hm 102 (by decide +kernel))
  obtain ⟨c5, i5, k5⟩ := u_known (C := RX5) (T := TX5) (N := 9) (n := 9) hzw zinX5 (hm 390 (by decide +kernel))
  obtain ⟨c6, i6, k6⟩ := u_known (C := RX6) (T := TX6) (N := 7) (n := 7) hzw zinX6 (hm 359 (by decide +kernel))
  obtain ⟨c7, i7, k7⟩ := u_known (C := RX7) (T := TX7) (N := 7) (n := 7) hzw zinX7 (hm 254 (by decide +kernel))
  obtain ⟨c8, i8, k8⟩ := u_known (C := RX8) (T := TX8) (N := 4) (n := 4) hzw zinX8 (hm 110 (by decide +kernel))
  obtain ⟨c9, i9, k9⟩ := u_known (C := RX9) (T := TX9) (N := 12) (n := 12) hzw zinX9 (hm 94 (by decide +kernel))
  obtain ⟨c10, i10, k10⟩ := u_known (C := RX10) (T := TX10) (N := 60) (n := 60) hzw zinX10 (hm 1161 (by decide +kernel))
  obtain ⟨dC, dI, hKc⟩ : ∃ (dC : Nat → ClassId) (dI : Nat → Nat → Nat), ∀ (k : Nat) (q : vw_C), vwCl[k]? = some q → u_Kn s q.1 q.2.1 q.2.2 (dC k) (dI k) := by
    refine ⟨fun k => match k with | 0 => c0 | 1 => c1 | 2 => c2 | 3 => c3 | 4 => c4 | 5 => c5 | 6 => c6 | 7 => c7 | 8 => c8 | 9 => c9 | _ => c10, fun k => match k with | 0 => i0 | 1 => i1 | 2 => i2 | 3 => i3 | 4 => i4 | 5 => i5 | 6 => i6 | 7 => i7 | 8 => i8 | 9 => i9 | _ => i10, ?_⟩
    intro k q hq
    match k, hq with
    | 0, hq => cases hq; exact k0
    | 1, hq => cases hq; exact k1
    | 2, hq => cases hq; exact k2
    | 3, hq => cases hq; exact k3
    | 4, hq => cases hq; exact k4
    | 5, hq => cases hq; exact k5
    | 6, hq => cases hq; exact k6
    | 7, hq => cases hq; exact k7
    | 8, hq => cases hq; exact k8
    | 9, hq => cases hq; exact k9
    | 10, hq => cases hq; exact k10
    | k + 11, hq => simp [vwCl] at hq
  have hAO : va_AO "SizedParts$Part" s := va_AO.of (hm 108 (by decide +kernel))
  obtain ⟨a1, kA1, cm1, y1, y2, y3⟩ := Cond.arrayClass_spec (hzw _ zaI)
  obtain ⟨a2, kA2, cm2, z1, z2, z3⟩ := Cond.arrayClass_spec (hzw _ zaL)
  obtain ⟨cm3, a3, kA3, x1, x2, x3, x4, x5⟩ := Cond.arrayOver_spec hAO
  have hA : ∀ a : Nat, a < s.heap.size → ¬ (fun q : Nat => s.heap.size ≤ q) a := fun a h => Nat.not_le.mpr h
  obtain ⟨t0, e0, hT0⟩ := va_Tof (tm := .static "SizedParts$Acts" "ABOVE" "[I") (ty := .int) (N := 7) (f := fun j => .int (iz (zAb.getD j 0))) (A := fun q : Nat => s.heap.size ≤ q) (by decide) (hgf _ zfl_1.1) (va_eqt (hgf _ zfl_1.2.1)) (fun j hj => va_eqt (hgf _ (zfl_ab j hj))) hA
  obtain ⟨t1, e1, hT1⟩ := va_Tof (tm := .static "SizedParts$Acts" "OWN" "[I") (ty := .int) (N := 28) (f := fun j => .int (iz (zOw.getD j 0))) (A := fun q : Nat => s.heap.size ≤ q) (by decide) (hgf _ zfl_1.2.2.1) (va_eqt (hgf _ zfl_1.2.2.2)) (fun j hj => va_eqt (hgf _ (zfl_ow j hj))) hA
  have hZ0 := va_Zref (A := fun q : Nat => s.heap.size ≤ q) (hm 1115 (by decide +kernel)) (hm 83 (by decide +kernel)) e0 hA
  have hZ1 := va_Zref (A := fun q : Nat => s.heap.size ≤ q) (hm 1130 (by decide +kernel)) (hm 83 (by decide +kernel)) e1 hA
  have hZ2 := va_Zof (A := fun q : Nat => s.heap.size ≤ q) (hm 763 (by decide +kernel)) (hm 87 (by decide +kernel)) (va_eqi (hgf _ zfl_2.1)) hA
  have hZ3 := va_Zqof (A := fun q : Nat => s.heap.size ≤ q) (hm 779 (by decide +kernel)) (hm 89 (by decide +kernel)) (hgf _ zfl_2.2) hA
  obtain ⟨aK, aV, hS, hSt⟩ := vk_Sof (N := 9) (tm := zTxm) (len := zLen) (byt := zByt) (A := fun q : Nat => s.heap.size ≤ q) zfl_s4 (fun i hi => hgf _ (zfl_s1 i hi).1) (fun i hi => hgf _ (zfl_s1 i hi).2.1) (fun i hi => hgf _ (zfl_s1 i hi).2.2.1) (fun i hi => hgf _ (zfl_s1 i hi).2.2.2) (fun i hi j hj => hgf _ (zfl_s2 i hi j hj)) (fun i j hi hj hn => (zfl_s3 i hi j hj hn).imp (hgf _) (hgf _)) hA
  obtain ⟨ad, d0, d1, dk, dv⟩ : ∃ ad : Nat → Nat, ad 0 = t0 ∧ ad 1 = t1 ∧ (∀ i, i < 9 → ad (10 + i) = aK i) ∧ (∀ i, i < 9 → ad (30 + i) = aV i) := by
    refine ⟨fun n => if n = 0 then t0 else if n = 1 then t1 else if n < 30 then aK (n - 10) else aV (n - 30), rfl, rfl, fun i hi => ?_, fun i hi => ?_⟩
    · show (if _ then _ else if _ then _ else if _ then _ else _) = _
      rw [if_neg (by omega), if_neg (by omega), if_pos (by omega), show 10 + i - 10 = i by omega]
    · show (if _ then _ else if _ then _ else if _ then _ else _) = _
      rw [if_neg (by omega), if_neg (by omega), if_neg (by omega), show 30 + i - 30 = i by omega]
  refine ⟨(l, (dC, dI), (a1, a2, a3), s.heap, ad), rfl, rfl, ⟨⟨hKc, fun k q hq => ?_⟩, fun w hw => va_Nw.of (zfl_n w hw).2 (hts w (zfl_n w hw).1), ?_⟩, hAO⟩
  · match k, hq with
    | 0, hq => cases hq; exact ⟨fun n z => ⟨fun k h => (by cases h), kA1, y2, cm1, y3⟩, y1⟩
    | 1, hq => cases hq; exact ⟨fun n z => ⟨fun k h => (by cases h), kA2, z2, cm2, z3⟩, z1⟩
    | 2, hq => cases hq; exact ⟨fun n z => ⟨fun k h => (by cases h), kA3, x3, cm3, x4⟩, kA3, cm3, x3, x4, x1, x5⟩
    | k + 3, hq => simp [zty] at hq
  · refine ⟨⟨?_, ?_⟩, ⟨?_, ?_⟩, hZ2, hZ3, ⟨fun i hi => ?_, fun i j hi hj e => ?_⟩, fun i hi => ?_⟩
    · show va_Z _ _ _ (.ref (ad 0)) _ _ _
      rw [d0]; exact hZ0
    · show va_T _ (ad 0) _ _ _ _ _
      rw [d0]; exact hT0
    · show va_Z _ _ _ (.ref (ad 1)) _ _ _
      rw [d1]; exact hZ1
    · show va_T _ (ad 1) _ _ _ _ _
      rw [d1]; exact hT1
    · show va_O _ (ad (10 + i)) _ _ _ ∧ va_OF _ _ _ _ (ad (10 + i)) _ _ _ ∧ va_OF _ _ _ (.ref (ad (30 + i))) (ad (10 + i)) _ _ _ ∧ va_T _ (ad (30 + i)) _ _ _ _ _
      rw [dk i hi, dv i hi]; exact hS.1 i hi
    · have e : ad (10 + i) = ad (10 + j) := e
      rw [dk i hi, dk j hj] at e
      exact hS.2 i j hi hj e
    · show vk_R _ _ _ (ad (10 + i)) _
      rw [dk i hi]
      exact vk_R.of (hts _ (zfl_s5 i hi)) (hSt i hi)
