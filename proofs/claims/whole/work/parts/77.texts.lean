/-! ===== String.length and charAt at the nine words; spells ===== -/
def zch (i j : Nat) : Int := ((zByt.getD i []).getD j 0).toInt
def zwl (i : Nat) : Nat := zLen.getD i 0
theorem zwl_b : ∀ i, i < 9 → 2 ≤ zwl i ∧ zwl i ≤ 4 := by decide +kernel
theorem zch_b : ∀ i, i < 9 → ∀ j, j < zwl i → (97 ≤ zch i j ∧ zch i j ≤ 122) ∧ zi2c (zand (zch i j) 255) = zch i j := by decide +kernel
theorem zsr_b : ∀ n : Nat, n < 5 → zshr n 0 = n := by decide +kernel
theorem znar (r : Int) (h : 97 ≤ r ∧ r ≤ 122) : narrow .char (.int (iz r)) = .int (iz r) := by
  obtain ⟨h1, h2⟩ := h
  have : r = 97 ∨ r = 98 ∨ r = 99 ∨ r = 100 ∨ r = 101 ∨ r = 102 ∨ r = 103 ∨ r = 104 ∨ r = 105 ∨ r = 106 ∨ r = 107 ∨ r = 108 ∨ r = 109 ∨ r = 110 ∨ r = 111 ∨ r = 112 ∨ r = 113 ∨ r = 114 ∨ r = 115 ∨ r = 116 ∨ r = 117 ∨ r = 118 ∨ r = 119 ∨ r = 120 ∨ r = 121 ∨ r = 122 := by omega
  rcases this with e | e | e | e | e | e | e | e | e | e | e | e | e | e | e | e | e | e | e | e | e | e | e | e | e | e <;> (subst e; rfl)
theorem zcJ0_335 : zCall RJ0 335 mJ0_coder_7d493 0 := ⟨zmem 758 (by decide +kernel) (by decide +kernel), znJ0_coder_7d493.1, znJ0_coder_7d493.2, by decide +kernel, by decide⟩
theorem zcJ0_492 : zCall RJ0 492 mJ0_isLatin1_aae02 0 := ⟨zmem 768 (by decide +kernel) (by decide +kernel), znJ0_isLatin1_aae02.1, znJ0_isLatin1_aae02.2, by decide +kernel, by decide⟩
theorem zcJ0_495 : zCall RJ0 495 mJ1_charAt_3b067 2 := ⟨zmem 772 (by decide +kernel) (by decide +kernel), znJ1_charAt_3b067.1, znJ1_charAt_3b067.2, by decide +kernel, by decide⟩
theorem zcJ1_9 : zCall RJ1 9 mJ0_checkIndex_df160 2 := ⟨zmem 775 (by decide +kernel) (by decide +kernel), znJ0_checkIndex_df160.1, znJ0_checkIndex_df160.2, by decide +kernel, by decide⟩
theorem zcJ0_1059 : zCall RJ0 1059 mJ3_checkIndex_8e157 3 := ⟨zmem 780 (by decide +kernel) (by decide +kernel), znJ3_checkIndex_8e157.1, znJ3_checkIndex_8e157.2, by decide +kernel, by decide⟩
theorem zwJ0_38 : Cond.fieldLink RJ0 38 "java/lang/String" "COMPACT_STRINGS" "Z" ∈ zW := zmem 762 (by decide +kernel) (by decide +kernel)
theorem zwJ0_1053 : Cond.fieldLink RJ0 1053 "jdk/internal/util/Preconditions" "SIOOBE_FORMATTER" "Ljava/util/function/BiFunction;" ∈ zW := zmem 778 (by decide +kernel) (by decide +kernel)
theorem zwJ0_9 : Cond.fieldLink RJ0 9 "java/lang/String" "value" "[B" ∈ zW := zmem 1756 (by decide +kernel) (by decide +kernel)
theorem zwJ0_15 : Cond.fieldLink RJ0 15 "java/lang/String" "coder" "B" ∈ zW := zmem 1757 (by decide +kernel) (by decide +kernel)
section ZX
variable {K : zCx} {d : Nat} {m : zM}
theorem zE_str {s : State} (h : zExt K s) {i : Nat} (hi : i < 9) : va_O "java/lang/String" (K.2.2.2.2 (10 + i)) (zA K) s K.2.2.2.1 ∧ va_OF "java/lang/String" "coder" "B" (.int (iz 0)) (K.2.2.2.2 (10 + i)) (zA K) s K.2.2.2.1 ∧ va_OF "java/lang/String" "value" "[B" (.ref (K.2.2.2.2 (30 + i))) (K.2.2.2.2 (10 + i)) (zA K) s K.2.2.2.1 ∧ va_T .byte (K.2.2.2.2 (30 + i)) (zwl i) (fun j => .int ((zByt.getD i []).getD j 0)) (zA K) s K.2.2.2.1 := h.2.2.2.2.1.1 i hi
theorem zE_cs {s : State} (h : zExt K s) : va_Z "java/lang/String" "COMPACT_STRINGS" "Z" (.int (iz 1)) (zA K) s K.2.2.2.1 := h.2.2.1
theorem zE_sq {s : State} (h : zExt K s) : va_Zq "jdk/internal/util/Preconditions" "SIOOBE_FORMATTER" "Ljava/util/function/BiFunction;" (zA K) s K.2.2.2.1 := h.2.2.2.1
theorem c_J3_check {j n : Int} {v : Value} (hv : v = .null ∨ ∃ t, v = .ref t) (h0 : 0 ≤ j) (h1 : j < n) (hj : inR j) (hn : inR n) : zCt K (d + 1) mJ3_checkIndex_8e157 [.int (iz j), .int (iz n), v] m (fun r m1 => r = j ∧ m1 = m) := by
  have key : ∀ w : Value, zV K mJ3_checkIndex_8e157 (d + 1) 0 [(0, .int (iz j)), (1, .int (iz n)), (2, w)] [] m (fun r m1 => r = j ∧ m1 = m) := by
    intro w
    refine zV_iload_n (pc := 0) dJ3_checkIndex_8e157_0 rfl 0 rfl ?_
    refine zV_if_lt (pc := 1) (tgt := 9) dJ3_checkIndex_8e157_1 (by decide) hj (fun c => by omega) (fun _ => ?_)
    refine zV_iload_n (pc := 4) dJ3_checkIndex_8e157_4 rfl 0 rfl ?_
    refine zV_iload_n (pc := 5) dJ3_checkIndex_8e157_5 rfl 1 rfl ?_
    refine zV_icmp_lt (pc := 6) (tgt := 16) dJ3_checkIndex_8e157_6 (by decide) hj hn (fun _ => ?_) (fun c => by omega)
    refine zV_iload_n (pc := 16) dJ3_checkIndex_8e157_16 rfl 0 rfl ?_
    exact zV_iret (pc := 17) rfl dJ3_checkIndex_8e157_17 hj ⟨rfl, rfl⟩
  rcases hv with rfl | ⟨t, rfl⟩
  · exact zCt.of (by decide) (Nat.le_of_ble_eq_true rfl) (key _)
  · exact zCt.of (by decide) (Nat.le_of_ble_eq_true rfl) (key _)
theorem c_J0_check {j n : Int} (h0 : 0 ≤ j) (h1 : j < n) (hj : inR j) (hn : inR n) : zCt K (d + 2) mJ0_checkIndex_df160 [.int (iz j), .int (iz n)] m (fun r m1 => r = 0 ∧ m1 = m) := by
  refine zCt.of (by decide) (Nat.le_of_ble_eq_true rfl) ?_
  refine zV_iload_n (pc := 0) dJ0_checkIndex_df160_0 rfl 0 rfl ?_
  refine zV_iload_n (pc := 1) dJ0_checkIndex_df160_1 rfl 1 rfl ?_
  have key : ∀ w : Value, (w = .null ∨ ∃ t, w = .ref t) → zV K mJ0_checkIndex_df160 (d + 2) 5 [(0, .int (iz j)), (1, .int (iz n))] [w, .int (iz n), .int (iz j)] m (fun r m1 => r = 0 ∧ m1 = m) := by
    intro w hw
    refine zV_callSf (pc := 5) (mc := mJ3_checkIndex_8e157) (As := [.int (iz j), .int (iz n), w]) (rest := []) dJ0_checkIndex_df160_5 zcJ0_1059 ztJ3_checkIndex_8e157 rfl rfl (Nat.le_of_ble_eq_true rfl) (c_J3_check (d := d) hw h0 h1 hj hn) (fun _ => ?_)
    refine zV_pop (pc := 8) dJ0_checkIndex_df160_8 rfl ?_
    exact zV_vret (pc := 9) rfl dJ0_checkIndex_df160_9 ⟨rfl, rfl⟩
  exact zV_getZq (pc := 2) dJ0_checkIndex_df160_2 zwJ0_1053 (fun s h => zE_sq h) (key _ (Or.inl rfl)) (fun t => key _ (Or.inr ⟨t, rfl⟩))
theorem c_J1_charAt {i : Nat} {j : Int} (hi : i < 9) (h0 : 0 ≤ j) (h1 : j < (zwl i : Int)) : zCt K (d + 3) mJ1_charAt_3b067 [.ref (K.2.2.2.2 (30 + i)), .int (iz j)] m (fun r m1 => r = zch i j.toNat ∧ m1 = m) := by
  have hb := zwl_b i hi
  have hc := zch_b i hi j.toNat (by omega)
  have hj : inR j := ⟨by omega, by omega⟩
  have hn : inR (zwl i : Int) := ⟨by omega, by omega⟩
  refine zCt.of (by decide) (Nat.le_of_ble_eq_true rfl) ?_
  refine zV_iload_n (pc := 0) dJ1_charAt_3b067_0 rfl 1 rfl ?_
  refine zV_aload_n (pc := 1) dJ1_charAt_3b067_1 rfl 0 rfl ?_
  refine zV_alenX (pc := 2) dJ1_charAt_3b067_2 (fun s h => (zE_str h hi).2.2.2) ?_
  refine zV_callSf (pc := 3) (mc := mJ0_checkIndex_df160) (As := [.int (iz j), .int (iz (zwl i : Int))]) (rest := []) dJ1_charAt_3b067_3 zcJ1_9 ztJ0_checkIndex_df160 rfl rfl (Nat.le_of_ble_eq_true rfl) (c_J0_check (d := d) h0 h1 hj hn) (fun _ => ?_)
  refine zV_aload_n (pc := 6) dJ1_charAt_3b067_6 rfl 0 rfl ?_
  refine zV_iload_n (pc := 7) dJ1_charAt_3b067_7 rfl 1 rfl ?_
  refine zV_baldX (pc := 8) dJ1_charAt_3b067_8 (fun s h => (zE_str h hi).2.2.2) h0 h1 hj ?_
  have e : (zByt.getD i []).getD j.toNat 0 = iz (zch i j.toNat) := (Int32.ofInt_toInt _).symm
  show zV _ _ _ _ _ [.int ((zByt.getD i []).getD j.toNat 0)] _ _
  rw [e]
  refine zV_sipush (pc := 9) dJ1_charAt_3b067_9 (by decide) ?_
  refine zV_iand (pc := 12) dJ1_charAt_3b067_12 ?_
  refine zV_i2c (pc := 13) dJ1_charAt_3b067_13 ?_
  rw [hc.2]
  exact zV_nret (pc := 14) rfl dJ1_charAt_3b067_14 (znar _ hc.1) ⟨by omega, by omega⟩ ⟨rfl, rfl⟩
theorem c_J0_isLatin1 {i : Nat} (hi : i < 9) : zCt K (d + 1) mJ0_isLatin1_aae02 [.ref (K.2.2.2.2 (10 + i))] m (fun r m1 => r = 1 ∧ m1 = m) := by
  refine zCt.of (by decide) (Nat.le_of_ble_eq_true rfl) ?_
  refine zV_getZ (pc := 0) dJ0_isLatin1_aae02_0 zwJ0_38 (fun s h => zE_cs h) ?_
  refine zV_if_eq (pc := 3) (tgt := 17) dJ0_isLatin1_aae02_3 (by decide) (inRd rfl) (fun c => by omega) (fun _ => ?_)
  refine zV_aload_n (pc := 6) dJ0_isLatin1_aae02_6 rfl 0 rfl ?_
  refine zV_getO (pc := 7) dJ0_isLatin1_aae02_7 zwJ0_15 (fun s h => (zE_str h hi).2.1) ?_
  refine zV_if_ne (pc := 10) (tgt := 17) dJ0_isLatin1_aae02_10 (by decide) (inRd rfl) (fun c => absurd rfl c) (fun _ => ?_)
  refine zV_iconst (pc := 13) dJ0_isLatin1_aae02_13 ?_
  refine zV_goto (pc := 14) (tgt := 18) dJ0_isLatin1_aae02_14 (by decide) ?_
  exact zV_zret (pc := 18) rfl dJ0_isLatin1_aae02_18 (Or.inr rfl) ⟨rfl, rfl⟩
theorem c_J0_coder {i : Nat} (hi : i < 9) : zCt K (d + 1) mJ0_coder_7d493 [.ref (K.2.2.2.2 (10 + i))] m (fun r m1 => r = 0 ∧ m1 = m) := by
  refine zCt.of (by decide) (Nat.le_of_ble_eq_true rfl) ?_
  refine zV_getZ (pc := 0) dJ0_coder_7d493_0 zwJ0_38 (fun s h => zE_cs h) ?_
  refine zV_if_eq (pc := 3) (tgt := 13) dJ0_coder_7d493_3 (by decide) (inRd rfl) (fun c => by omega) (fun _ => ?_)
  refine zV_aload_n (pc := 6) dJ0_coder_7d493_6 rfl 0 rfl ?_
  refine zV_getO (pc := 7) dJ0_coder_7d493_7 zwJ0_15 (fun s h => (zE_str h hi).2.1) ?_
  refine zV_goto (pc := 10) (tgt := 14) dJ0_coder_7d493_10 (by decide) ?_
  exact zV_nret (pc := 14) rfl dJ0_coder_7d493_14 rfl (inRd rfl) ⟨rfl, rfl⟩
theorem c_J0_length {i : Nat} (hi : i < 9) : zCt K (d + 2) mJ0_length_8abf5 [.ref (K.2.2.2.2 (10 + i))] m (fun r m1 => r = (zwl i : Int) ∧ m1 = m) := by
  have hb := zwl_b i hi
  refine zCt.of (by decide) (Nat.le_of_ble_eq_true rfl) ?_
  refine zV_aload_n (pc := 0) dJ0_length_8abf5_0 rfl 0 rfl ?_
  refine zV_getO (pc := 1) dJ0_length_8abf5_1 zwJ0_9 (fun s h => (zE_str h hi).2.2.1) ?_
  refine zV_alenX (pc := 4) dJ0_length_8abf5_4 (fun s h => (zE_str h hi).2.2.2) ?_
  refine zV_aload_n (pc := 5) dJ0_length_8abf5_5 rfl 0 rfl ?_
  refine zV_callVX (pc := 6) (mc := mJ0_coder_7d493) (As := []) (rest := [.int (iz (zwl i : Int))]) dJ0_length_8abf5_6 zcJ0_335 ziJ0_coder_7d493 zsJ0_coder_7d493 (fun s h => (zE_str h hi).1) rfl rfl (Nat.le_of_ble_eq_true rfl) (c_J0_coder (d := d) hi) (fun r m' _ e => ?_)
  obtain ⟨rfl, rfl⟩ := e
  refine zV_ishr (pc := 9) dJ0_length_8abf5_9 ?_
  rw [zsr_b (zwl i) (by omega)]
  exact zV_iret (pc := 10) rfl dJ0_length_8abf5_10 ⟨by omega, by omega⟩ ⟨rfl, rfl⟩
theorem c_J0_charAt {i : Nat} {j : Int} (hi : i < 9) (h0 : 0 ≤ j) (h1 : j < (zwl i : Int)) : zCt K (d + 4) mJ0_charAt_5068e [.ref (K.2.2.2.2 (10 + i)), .int (iz j)] m (fun r m1 => r = zch i j.toNat ∧ m1 = m) := by
  have hb := zwl_b i hi
  have hc := zch_b i hi j.toNat (by omega)
  refine zCt.of (by decide) (Nat.le_of_ble_eq_true rfl) ?_
  refine zV_aload_n (pc := 0) dJ0_charAt_5068e_0 rfl 0 rfl ?_
  refine zV_callVX (pc := 1) (mc := mJ0_isLatin1_aae02) (As := []) (rest := []) dJ0_charAt_5068e_1 zcJ0_492 ziJ0_isLatin1_aae02 zsJ0_isLatin1_aae02 (fun s h => (zE_str h hi).1) rfl rfl (Nat.le_of_ble_eq_true rfl) (c_J0_isLatin1 (d := d + 2) hi) (fun r m' _ e => ?_)
  obtain ⟨rfl, rfl⟩ := e
  refine zV_if_eq (pc := 4) (tgt := 16) dJ0_charAt_5068e_4 (by decide) (inRd rfl) (fun c => by omega) (fun _ => ?_)
  refine zV_aload_n (pc := 7) dJ0_charAt_5068e_7 rfl 0 rfl ?_
  refine zV_getO (pc := 8) dJ0_charAt_5068e_8 zwJ0_9 (fun s h => (zE_str h hi).2.2.1) ?_
  refine zV_iload_n (pc := 11) dJ0_charAt_5068e_11 rfl 1 rfl ?_
  refine zV_callSf (pc := 12) (mc := mJ1_charAt_3b067) (As := [.ref (K.2.2.2.2 (30 + i)), .int (iz j)]) (rest := []) dJ0_charAt_5068e_12 zcJ0_495 ztJ1_charAt_3b067 rfl rfl (Nat.le_of_ble_eq_true rfl) (c_J1_charAt (d := d) hi h0 h1) (fun _ => ?_)
  exact zV_nret (pc := 15) rfl dJ0_charAt_5068e_15 (znar _ hc.1) ⟨by omega, by omega⟩ ⟨rfl, rfl⟩
/-- the word i stands at x and ends at e -/
def zSpl (t : Int → Int) (e : Int) (i : Nat) (x : Int) : Prop := e - x = (zwl i : Int) ∧ ∀ j : Nat, j < zwl i → t (x + j) = zch i j
theorem t_X5_spells {i : Nat} {x : Int} (hi : i < 9) (h0 : 0 ≤ x) (h1 : m.1 56 8 ≤ 220) (hlen : m.1 56 8 - x = (zwl i : Int)) : ∀ (n : Nat) (j : Nat), j + n = zwl i → (∀ k : Nat, k < j → m.1 57 (x + k) = zch i k) →
    zV K mX5_spells (d + 5) 17 [(3, .int (iz (j : Int))), (0, rr K 56), (1, .int (iz x)), (2, .ref (K.2.2.2.2 (10 + i)))] [] m (fun r m1 => (zSpl (m.1 57) (m.1 56 8) i x → r = 1) ∧ (¬ zSpl (m.1 57) (m.1 56 8) i x → r = 0) ∧ m1 = m) := by
  have hb := zwl_b i hi
  intro n
  induction n with
  | zero =>
    intro j hj hk
    refine zV_iload_n (pc := 17) dX5_spells_17 rfl 0 rfl ?_
    refine zV_aload_n (pc := 18) dX5_spells_18 rfl 3 rfl ?_
    refine zV_callVX (pc := 19) (mc := mJ0_length_8abf5) (As := []) (rest := [.int (iz (j : Int))]) dX5_spells_19 zcX5_129 ziJ0_length_8abf5 zsJ0_length_8abf5 (fun s h => (zE_str h hi).1) rfl rfl (Nat.le_of_ble_eq_true rfl) (c_J0_length (d := d + 2) hi) (fun r m' _ e => ?_)
    obtain ⟨rfl, rfl⟩ := e
    refine zV_icmp_ge (pc := 22) (tgt := 49) dX5_spells_22 (by decide) ⟨by omega, by omega⟩ ⟨by omega, by omega⟩ (fun _ => ?_) (fun c => by omega)
    refine zV_iconst (pc := 49) dX5_spells_49 ?_
    exact zV_zret (pc := 50) rfl dX5_spells_50 (Or.inr rfl) ⟨fun _ => rfl, fun q => absurd ⟨hlen, fun k hk' => hk k (by omega)⟩ q, rfl⟩
  | succ n ih =>
    intro j hj hk
    refine zV_ok (fun hm => ?_)
    refine zV_iload_n (pc := 17) dX5_spells_17 rfl 0 rfl ?_
    refine zV_aload_n (pc := 18) dX5_spells_18 rfl 3 rfl ?_
    refine zV_callVX (pc := 19) (mc := mJ0_length_8abf5) (As := []) (rest := [.int (iz (j : Int))]) dX5_spells_19 zcX5_129 ziJ0_length_8abf5 zsJ0_length_8abf5 (fun s h => (zE_str h hi).1) rfl rfl (Nat.le_of_ble_eq_true rfl) (c_J0_length (d := d + 2) hi) (fun r m' _ e => ?_)
    obtain ⟨rfl, rfl⟩ := e
    refine zV_icmp_ge (pc := 22) (tgt := 49) dX5_spells_22 (by decide) ⟨by omega, by omega⟩ ⟨by omega, by omega⟩ (fun c => by omega) (fun _ => ?_)
    refine zV_aloadr_n (pc := 25) dX5_spells_25 rfl 1 rfl ?_
    refine zV_getR (pc := 26) (b := 57) dX5_spells_26 zfX5_9 rfl rfl rfl ?_
    refine zV_iload_n (pc := 29) dX5_spells_29 rfl 2 rfl ?_
    refine zV_iload_n (pc := 30) dX5_spells_30 rfl 0 rfl ?_
    refine zV_iadd (pc := 31) dX5_spells_31 ?_
    refine zV_iald (pc := 32) (n := 220) dX5_spells_32 rfl (by omega) (by omega) ⟨by omega, by omega⟩ ?_
    refine zV_aload_n (pc := 33) dX5_spells_33 rfl 3 rfl ?_
    refine zV_iload_n (pc := 34) dX5_spells_34 rfl 0 rfl ?_
    refine zV_callVX (pc := 35) (mc := mJ0_charAt_5068e) (As := [.int (iz (j : Int))]) (rest := [.int (iz (m'.1 57 (x + (j : Int))))]) dX5_spells_35 zcX5_134 ziJ0_charAt_5068e zsJ0_charAt_5068e (fun s h => (zE_str h hi).1) rfl rfl (Nat.le_of_ble_eq_true rfl) (c_J0_charAt (d := d) hi (by omega) (by omega)) (fun r m2 hr e => ?_)
    obtain ⟨rfl, rfl⟩ := e
    have hjj : (j : Int).toNat = j := by omega
    refine zV_icmp_eq (pc := 38) (tgt := 43) dX5_spells_38 (by decide) (hm _ _) hr (fun c => ?_) (fun c => ?_)
    · refine zV_iinc (pc := 43) (loc' := [(3, .int (iz ((j : Int) + 1))), (0, rr K 56), (1, .int (iz x)), (2, .ref (K.2.2.2.2 (10 + i)))]) dX5_spells_43 0 rfl (by decide) rfl ?_
      refine zV_goto (pc := 46) (tgt := 17) dX5_spells_46 (by decide) ?_
      refine ih (j + 1) (by omega) (fun k hk' => ?_)
      by_cases hkj : k = j
      · subst hkj; rw [c, hjj]
      · exact hk k (by omega)
    · refine zV_iconst (pc := 41) dX5_spells_41 ?_
      exact zV_zret (pc := 42) rfl dX5_spells_42 (Or.inl rfl) ⟨fun q => absurd (by rw [hjj]; exact q.2 j (by omega)) c, fun _ => rfl, rfl⟩
theorem c_X5_spells {i : Nat} {x : Int} (hi : i < 9) (h0 : 0 ≤ x) (hx : x ≤ 220) (h2 : 0 ≤ m.1 56 8) (h1 : m.1 56 8 ≤ 220) : zCt K (d + 5) mX5_spells [rr K 56, .int (iz x), .ref (K.2.2.2.2 (10 + i))] m (fun r m1 => (zSpl (m.1 57) (m.1 56 8) i x → r = 1) ∧ (¬ zSpl (m.1 57) (m.1 56 8) i x → r = 0) ∧ m1 = m) := by
  have hb := zwl_b i hi
  refine zCt.of (by decide) (Nat.le_of_ble_eq_true rfl) ?_
  refine zV_aloadr_n (pc := 0) dX5_spells_0 rfl 0 rfl ?_
  refine zV_getI (pc := 1) (kz := 8) dX5_spells_1 zfX5_83 rfl rfl rfl ?_
  refine zV_iload_n (pc := 4) dX5_spells_4 rfl 1 rfl ?_
  refine zV_isub (pc := 5) dX5_spells_5 ?_
  refine zV_aload_n (pc := 6) dX5_spells_6 rfl 2 rfl ?_
  refine zV_callVX (pc := 7) (mc := mJ0_length_8abf5) (As := []) (rest := [.int (iz (m.1 56 8 - x))]) dX5_spells_7 zcX5_129 ziJ0_length_8abf5 zsJ0_length_8abf5 (fun s h => (zE_str h hi).1) rfl rfl (Nat.le_of_ble_eq_true rfl) (c_J0_length (d := d + 2) hi) (fun r m' _ e => ?_)
  obtain ⟨rfl, rfl⟩ := e
  refine zV_icmp_eq (pc := 10) (tgt := 15) dX5_spells_10 (by decide) ⟨by omega, by omega⟩ ⟨by omega, by omega⟩ (fun c => ?_) (fun c => ?_)
  · refine zV_iconst (pc := 15) dX5_spells_15 ?_
    refine zV_istore_n (pc := 16) (loc' := [(3, .int (iz 0)), (0, rr K 56), (1, .int (iz x)), (2, .ref (K.2.2.2.2 (10 + i)))]) dX5_spells_16 rfl (by decide) rfl ?_
    exact t_X5_spells hi h0 h1 c (zwl i) 0 (by omega) (fun k hk => by omega)
  · refine zV_iconst (pc := 13) dX5_spells_13 ?_
    exact zV_zret (pc := 14) rfl dX5_spells_14 (Or.inl rfl) ⟨fun q => absurd q.1 c, fun _ => rfl, rfl⟩
end ZX
