/-! ===== bits of longs ===== -/
def zsb (x : Int64) (i : Nat) : Bool := x.toBitVec.getLsbD i
theorem za1 : ∀ i : Fin 64, ((((iz (i.val : Int)).toInt64.toUInt64 &&& Int64.toUInt64 63) % 64).toBitVec.toNat) = i.val := by decide +kernel
theorem za2 : ∀ i : Fin 64, ((((iz (i.val : Int)).toInt64 &&& 63).toBitVec.smod 64#64).toNat) = i.val := by decide +kernel
theorem zsb_shr (x : Int64) {i : Nat} (hi : i < 64) : ((x.toUInt64 >>> ((iz (i : Int)).toInt64.toUInt64 &&& Int64.toUInt64 63)).toInt64).toBitVec = x.toBitVec >>> i := by
  have h := za1 ⟨i, hi⟩
  show x.toBitVec >>> ((((iz (i : Int)).toInt64.toUInt64 &&& Int64.toUInt64 63) % 64).toBitVec) = _
  rw [BitVec.ushiftRight_eq', h]
theorem zsb_test (x : Int64) {i : Nat} (hi : i < 64) : (lg_cmp ((x.toUInt64 >>> ((iz (i : Int)).toInt64.toUInt64 &&& Int64.toUInt64 63)).toInt64 &&& (1 : Int64)) (0 : Int64)).toInt = 0 ↔ zsb x i = false := by
  rw [lgc0, ← Int64.toBitVec_inj]
  have h : ((x.toUInt64 >>> ((iz (i : Int)).toInt64.toUInt64 &&& Int64.toUInt64 63)).toInt64 &&& (1 : Int64)).toBitVec = (x.toBitVec >>> i) &&& 1#64 := by
    rw [← zsb_shr x hi]; rfl
  rw [h, BitVec.and_one_eq_setWidth_ofBool_getLsbD]
  have h2 : (x.toBitVec >>> i).getLsbD 0 = zsb x i := by rw [BitVec.getLsbD_ushiftRight, Nat.add_zero]; rfl
  rw [h2]
  cases zsb x i with
  | false => exact ⟨fun _ => rfl, fun _ => by decide⟩
  | true => exact ⟨fun h => absurd h (by decide), fun h => by cases h⟩
theorem zsb_set (x : Int64) {i j : Nat} (hi : i < 64) (hj : j < 64) : zsb (x ||| ((1 : Int64) <<< ((iz (i : Int)).toInt64 &&& 63))) j = (zsb x j || decide (i = j)) := by
  have h := za2 ⟨i, hi⟩
  unfold zsb
  have e : (x ||| ((1 : Int64) <<< ((iz (i : Int)).toInt64 &&& 63))).toBitVec = x.toBitVec ||| (1#64 <<< i) := by
    show x.toBitVec ||| ((1#64) <<< (((iz (i : Int)).toInt64 &&& 63).toBitVec.smod 64#64)) = _
    rw [BitVec.shiftLeft_eq', h]
  rw [e, BitVec.getLsbD_or, BitVec.getLsbD_shiftLeft]
  congr 1
  by_cases hij : i = j
  · subst hij
    simp [hi]
  · by_cases hlt : j < i
    · simp [hlt, hij]
    · have : (1#64).getLsbD (j - i) = false := by
        rw [BitVec.getLsbD_one]
        simp
        omega
      simp [this, hij]
theorem zsb_zero (i : Nat) : zsb 0 i = false := by unfold zsb; show (0#64).getLsbD i = false; simp
/-- which states were seen -/
def zseen (m : zM) (s : Int) : Bool := zsb (m.2.1 50 (s / 64)) (s % 64).toNat
theorem zseen_test {m : zM} {s : Int} (h0 : 0 ≤ s) : (lg_cmp (((m.2.1 50 (Int.tdiv s 64)).toUInt64 >>> ((iz (Int.tmod s 64)).toInt64.toUInt64 &&& Int64.toUInt64 63)).toInt64 &&& (1 : Int64)) (0 : Int64)).toInt = 0 ↔ zseen m s = false := by
  rw [Int.tdiv_eq_ediv_of_nonneg h0, Int.tmod_eq_emod_of_nonneg h0]
  have e : s % 64 = ((s % 64).toNat : Int) := by omega
  have := zsb_test (m.2.1 50 (s / 64)) (i := (s % 64).toNat) (by omega)
  rw [← e] at this
  exact this
theorem zseen_set {m m' : zM} {s : Int} (h0 : 0 ≤ s) (e : m' = sL m 50 (Int.tdiv s 64) ((m.2.1 50 (Int.tdiv s 64)) ||| ((1 : Int64) <<< ((iz (Int.tmod s 64)).toInt64 &&& 63)))) {t : Int} (ht : 0 ≤ t) : zseen m' t = (zseen m t || decide (s = t)) := by
  rw [Int.tdiv_eq_ediv_of_nonneg h0, Int.tmod_eq_emod_of_nonneg h0] at e
  have e1 : s % 64 = ((s % 64).toNat : Int) := by omega
  unfold zseen
  rw [e, sL_at]
  by_cases hd : t / 64 = s / 64
  · rw [if_pos ⟨rfl, hd⟩, e1]
    have := zsb_set (m.2.1 50 (s / 64)) (i := (s % 64).toNat) (j := (t % 64).toNat) (by omega) (by omega)
    rw [this, hd]
    congr 1
    by_cases hst : s = t
    · subst hst; simp
    · have : ¬ (s % 64).toNat = (t % 64).toNat := by omega
      simp [hst, this]
  · rw [if_neg (fun z => hd z.2)]
    have : ¬ s = t := fun z => hd (by rw [z])
    simp [this]
