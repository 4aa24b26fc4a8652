/-! ===== rows of SIZES by their numbers, the last SIZE running fastest ===== -/
def zfm (P : F2) (i : Nat) : Int := P 101 (2 * zop P i)
def zto (P : F2) (i : Nat) : Int := P 101 (2 * zop P i + 1)
def zwd (P : F2) (i : Nat) : Int := zto P i - zfm P i + 1
def zqt (P : F2) : Nat → Int → Int
  | 0, r => r
  | k + 1, r => zqt P k r / zwd P (zoc P - 1 - k)
def zdg (P : F2) (r : Int) (i : Nat) : Int := zfm P i + zqt P (zoc P - 1 - i) r % zwd P i
def zSm (f : Nat → Int) : Nat → Int
  | 0 => 0
  | k + 1 => zSm f k + f k
def zpe (P : F2) : Nat → Int
  | 0 => 1
  | k + 1 => zpe P k * zwd P (zoc P - 1 - k)
def zpf (P : F2) : Nat → Int
  | 0 => 1
  | k + 1 => zpf P k * zwd P k
section RD
variable {P : F2}
theorem zwd_r {i : Nat} (hW : zWf P) (hi : i < zoc P) : (1 ≤ zfm P i ∧ zfm P i ≤ 9) ∧ (1 ≤ zto P i ∧ zto P i ≤ 9) ∧ (1 ≤ zwd P i ∧ zwd P i ≤ 4) := by
  have := zop_r hW hi
  unfold zwd zfm zto
  omega
theorem zqt_s (k : Nat) (r : Int) : zqt P (k + 1) r = zqt P k r / zwd P (zoc P - 1 - k) := rfl
theorem zqt_nn (hW : zWf P) {r : Int} (hr : 0 ≤ r) : ∀ k : Nat, k ≤ zoc P → 0 ≤ zqt P k r ∧ zqt P k r ≤ r := by
  intro k
  induction k with
  | zero => exact fun _ => ⟨hr, Int.le_refl _⟩
  | succ k ih =>
    intro hk
    have h := ih (by omega)
    have hw := zwd_r hW (show zoc P - 1 - k < zoc P by omega)
    rw [zqt_s]
    have h1 := Int.ediv_nonneg h.1 (show 0 ≤ zwd P (zoc P - 1 - k) by omega)
    have h2 := Int.ediv_le_self (zwd P (zoc P - 1 - k)) h.1
    omega
theorem zqt_eq {a b : Int} {k : Nat} (h : zqt P k a = zqt P k b) : ∀ n, zqt P (k + n) a = zqt P (k + n) b := by
  intro n
  induction n with
  | zero => exact h
  | succ n ih => rw [show k + (n + 1) = (k + n) + 1 by omega, zqt_s, zqt_s, ih]
theorem zdg_r {i : Nat} {r : Int} (hW : zWf P) (hi : i < zoc P) : zfm P i ≤ zdg P r i ∧ zdg P r i ≤ zto P i ∧ 1 ≤ zdg P r i ∧ zdg P r i ≤ 9 := by
  have hw := zwd_r hW hi
  have h1 := Int.emod_nonneg (zqt P (zoc P - 1 - i) r) (show zwd P i ≠ 0 by omega)
  have h2 := Int.emod_lt_of_pos (zqt P (zoc P - 1 - i) r) (show 0 < zwd P i by omega)
  have e : zwd P i = zto P i - zfm P i + 1 := rfl
  unfold zdg
  omega
theorem zcar {a w : Int} (hw : 1 ≤ w ∧ w ≤ 4) : (a % w = w - 1 → (a + 1) % w = 0 ∧ (a + 1) / w = a / w + 1) ∧ (¬ a % w = w - 1 → (a + 1) % w = a % w + 1 ∧ (a + 1) / w = a / w) := by
  have h : w = 1 ∨ w = 2 ∨ w = 3 ∨ w = 4 := by omega
  rcases h with rfl | rfl | rfl | rfl <;> omega
theorem zpe_s (k : Nat) : zpe P (k + 1) = zpe P k * zwd P (zoc P - 1 - k) := rfl
theorem zpe_r (hW : zWf P) : ∀ k : Nat, k ≤ zoc P → 1 ≤ zpe P k := by
  intro k
  induction k with
  | zero => exact fun _ => Int.le_refl _
  | succ k ih =>
    intro hk
    have h := ih (by omega)
    have hw := zwd_r hW (show zoc P - 1 - k < zoc P by omega)
    rw [zpe_s]
    have := Int.mul_le_mul h hw.2.2.1 (by decide) (by omega)
    omega
theorem zqt_pe (hW : zWf P) {r : Int} (hr : 0 ≤ r) : ∀ k : Nat, k ≤ zoc P → zqt P k r = r / zpe P k := by
  intro k
  induction k with
  | zero => intro _; exact (Int.ediv_one r).symm
  | succ k ih =>
    intro hk
    have := zpe_r hW k (by omega)
    rw [zqt_s, ih (by omega), zpe_s, Int.ediv_ediv_of_nonneg (by omega)]
theorem zpf_pe (hO : zoc P ≤ 4) : zpf P (zoc P) = zpe P (zoc P) := by
  have h : zoc P = 0 ∨ zoc P = 1 ∨ zoc P = 2 ∨ zoc P = 3 ∨ zoc P = 4 := by omega
  have e : ∀ k, zpe P (k + 1) = zpe P k * zwd P (zoc P - 1 - k) := fun k => rfl
  have f : ∀ k, zpf P (k + 1) = zpf P k * zwd P k := fun k => rfl
  have e0 : zpe P 0 = 1 := rfl
  have f0 : zpf P 0 = 1 := rfl
  have e1 := e 0
  have e2 := e 1
  have e3 := e 2
  have e4 := e 3
  have f1 := f 0
  have f2 := f 1
  have f3 := f 2
  have f4 := f 3
  rcases h with h | h | h | h | h <;> rw [h] at e1 e2 e3 e4 ⊢
  · rfl
  · rw [e1, f1, e0, f0]
  · rw [e2, f2, e1, f1, e0, f0]
    show 1 * zwd P 0 * zwd P 1 = 1 * zwd P 1 * zwd P 0
    ac_rfl
  · rw [e3, f3, e2, f2, e1, f1, e0, f0]
    show 1 * zwd P 0 * zwd P 1 * zwd P 2 = 1 * zwd P 2 * zwd P 1 * zwd P 0
    ac_rfl
  · rw [e4, f4, e3, f3, e2, f2, e1, f1, e0, f0]
    show 1 * zwd P 0 * zwd P 1 * zwd P 2 * zwd P 3 = 1 * zwd P 3 * zwd P 2 * zwd P 1 * zwd P 0
    ac_rfl
/-- how many rows there are -/
def zRo (P : F2) : Nat := (zpe P (zoc P)).toNat
theorem zpf_b (hW : zWf P) : ∀ k : Nat, k ≤ zoc P → 1 ≤ zpf P k ∧ zpf P k ≤ 4 ^ k := by
  intro k
  induction k with
  | zero => exact fun _ => ⟨Int.le_refl _, Int.le_refl _⟩
  | succ k ih =>
    intro hk
    have h := ih (by omega)
    have hw := zwd_r hW (show k < zoc P by omega)
    have e : zpf P (k + 1) = zpf P k * zwd P k := rfl
    rw [e, Int.pow_succ]
    have h1 := Int.mul_le_mul h.1 hw.2.2.1 (by decide) (by omega)
    have h2 := Int.mul_le_mul h.2 hw.2.2.2 (by omega) (by omega)
    exact ⟨by omega, h2⟩
theorem zRo_b (hW : zWf P) (hO : zoc P ≤ 4) : zpf P (zoc P) = (zRo P : Int) ∧ 1 ≤ zRo P ∧ zRo P ≤ 256 := by
  have h1 := zpe_r hW (zoc P) (Nat.le_refl _)
  have h2 := zpf_b hW (zoc P) (Nat.le_refl _)
  have h3 := zpf_pe hO
  have h4 : (4 : Int) ^ (zoc P) ≤ 256 := by
    have h : zoc P = 0 ∨ zoc P = 1 ∨ zoc P = 2 ∨ zoc P = 3 ∨ zoc P = 4 := by omega
    rcases h with h | h | h | h | h <;> rw [h] <;> decide
  unfold zRo
  omega
theorem zqt_0 (hW : zWf P) (r : Nat) : zqt P (zoc P) (r : Int) = 0 ↔ r < zRo P := by
  have h1 := zpe_r hW (zoc P) (Nat.le_refl _)
  rw [zqt_pe hW (by omega) _ (Nat.le_refl _)]
  unfold zRo
  have h2 := Int.emod_add_mul_ediv (r : Int) (zpe P (zoc P))
  have h3 := Int.emod_lt_of_pos (r : Int) (show 0 < zpe P (zoc P) by omega)
  constructor
  · intro h
    rw [h, Int.mul_zero] at h2
    omega
  · intro h
    exact Int.ediv_eq_zero_of_lt (by omega) (by omega)
theorem zSm_congr {f g : Nat → Int} : ∀ n : Nat, (∀ i, i < n → f i = g i) → zSm f n = zSm g n := by
  intro n
  induction n with
  | zero => exact fun _ => rfl
  | succ n ih =>
    intro h
    have e : ∀ f : Nat → Int, zSm f (n + 1) = zSm f n + f n := fun _ => rfl
    rw [e, e, ih (fun i hi => h i (by omega)), h n (by omega)]
theorem zSm_le {f g : Nat → Int} : ∀ n : Nat, (∀ i, i < n → f i ≤ g i) → zSm f n ≤ zSm g n := by
  intro n
  induction n with
  | zero => exact fun _ => Int.le_refl _
  | succ n ih =>
    intro h
    have e : ∀ f : Nat → Int, zSm f (n + 1) = zSm f n + f n := fun _ => rfl
    have := ih (fun i hi => h i (by omega))
    have := h n (by omega)
    rw [e, e]
    omega
theorem zSm_b {f : Nat → Int} : ∀ n : Nat, (∀ i, i < n → 0 ≤ f i ∧ f i ≤ 9) → 0 ≤ zSm f n ∧ zSm f n ≤ 9 * (n : Int) := by
  intro n
  induction n with
  | zero => intro _; show (0 : Int) ≤ 0 ∧ (0 : Int) ≤ 9 * ((0 : Nat) : Int); omega
  | succ n ih =>
    intro h
    have e : zSm f (n + 1) = zSm f n + f n := rfl
    have := ih (fun i hi => h i (by omega))
    have := h n (by omega)
    rw [e]
    omega
theorem zSm_m {f : Nat → Int} {n : Nat} (h : ∀ i, i < n → 0 ≤ f i) : ∀ k : Nat, k ≤ n → zSm f k ≤ zSm f n := by
  induction n with
  | zero => intro k hk; rw [show k = 0 by omega]; exact Int.le_refl _
  | succ n ih =>
    intro k hk
    by_cases e : k = n + 1
    · rw [e]; exact Int.le_refl _
    · have := ih (fun i hi => h i (by omega)) k (by omega)
      have h2 := h n (by omega)
      have e : zSm f (n + 1) = zSm f n + f n := rfl
      omega
end RD
section RE
variable {K : zCx} {P : F2} {m0 : zM}
theorem zxor_nn : ∀ (x : Fin 256) (w : Fin 5), 0 ≤ zxor (x.val : Int) (w.val : Int) := by decide +kernel
theorem c_J9_floorMod {d : Nat} {a w : Int} (ha : 0 ≤ a ∧ a ≤ 255) (hw : 1 ≤ w ∧ w ≤ 4) : zCt K (d + 1) mJ9_floorMod_7cf53 [.int (iz a), .int (iz w)] m0 (fun r m1 => r = a % w ∧ m1 = m0) := by
  refine zCt.ofF pfFm (Nat.le_of_ble_eq_true rfl) (vc_J9_floorMod_7cf53_0 (d := d) a w m0 (inR_b (A := 255) (by omega) (by omega) rfl) (inR_b (A := 255) (by omega) (by omega) rfl) (fun _ => ⟨by omega, by omega, fun v3 e3 => ?_⟩))
  have e : v3 = a % w := by rw [e3]; exact Int.tmod_eq_emod_of_nonneg ha.1
  have hx : 0 ≤ zxor a w := by
    have := zxor_nn ⟨a.toNat, by omega⟩ ⟨w.toNat, by omega⟩
    rw [show ((⟨a.toNat, by omega⟩ : Fin 256).val : Int) = a by show (a.toNat : Int) = a; omega, show ((⟨w.toNat, by omega⟩ : Fin 5).val : Int) = w by show (w.toNat : Int) = w; omega] at this
    exact this
  have h1 := Int.emod_nonneg a (show w ≠ 0 by omega)
  have h2 := Int.emod_lt_of_pos a (show 0 < w by omega)
  exact ⟨fun _ => ⟨inR_b (A := 255) (by omega) (by omega) rfl, e, rfl⟩, fun q => absurd hx q⟩
theorem c_X7_choose {d : Nat} {r : Int} (hr : 0 ≤ r ∧ r ≤ 255) (hW : zWf P) (hR : RQ m0 1 P) (hO : zoc P ≤ 4) (h2 : m0.1 64 3 = (zoc P : Int)) (h65 : ∀ j : Nat, j < zoc P → m0.1 65 j = zop P j) :
    zCt K (d + 2) mX7_choose [rr K 64, rr K 1, .int (iz r)] m0 (fun s m1 => s = zSm (zdg P r) (zoc P) ∧ zFr (fun a _ => a = 66) m0 m1 ∧ ∀ j : Nat, j < zoc P → m1.1 66 j = zdg P r j) := by
  have h4 := hW.2.2.2.1
  have hpl : zPl 1 := Or.inl rfl
  have hsb := zSm_b (f := zdg P r) (zoc P) (fun i hi => by have := zdg_r (r := r) hW hi; omega)
  have loop : ∀ (k : Nat), k ≤ zoc P → ∀ m : zM, zFr (fun a _ => a = 66) m0 m → (∀ j : Nat, k ≤ j → j < zoc P → m.1 66 j = zdg P r j) → ∀ x3 x4 : Int, x3 = zSm (zdg P r) (zoc P) - zSm (zdg P r) k → x4 = zqt P (zoc P - k) r → zV K mX7_choose (d + 2) 13 [(0, rr K 64), (1, rr K 1), (3, .int (iz x3)), (4, .int (iz x4)), (5, .int (iz ((k : Int) - 1)))] [] m (fun s m1 => s = zSm (zdg P r) (zoc P) ∧ zFr (fun a _ => a = 66) m0 m1 ∧ ∀ j : Nat, j < zoc P → m1.1 66 j = zdg P r j) := by
    intro k
    induction k with
    | zero =>
      intro _ m hF hj x3 x4 e3 e4
      have hq := zqt_nn hW hr.1 (zoc P - 0) (by omega)
      have e0 : zSm (zdg P r) 0 = 0 := rfl
      refine vc_X7_choose_13 x3 x4 _ 1 m (inR_b (A := 1000) (by omega) (by omega) rfl) (inR_b (A := 1000) (by omega) (by omega) rfl) (inR_b (A := 1000) (by omega) (by omega) rfl) hpl (fun _ => ⟨fun _ => ⟨by omega, hF, fun j h => hj j (by omega) h⟩, fun q => absurd (by omega) q⟩)
    | succ k ih =>
      intro hk m hF hj x3 x4 e3 e4
      have hq := zqt_nn hW hr.1 (zoc P - (k + 1)) (by omega)
      have hm := zSm_m (f := zdg P r) (n := zoc P) (fun i hi => by have := zdg_r (r := r) hW hi; omega)
      have hm1 := hm (k + 1) (by omega)
      have hm0 := hm 0 (by omega)
      have es : zSm (zdg P r) (k + 1) = zSm (zdg P r) k + zdg P r k := rfl
      have e0 : zSm (zdg P r) 0 = 0 := rfl
      have hmk := zSm_b (f := zdg P r) k (fun i hi => by have := zdg_r (r := r) hW (show i < zoc P by omega); omega)
      have hmk1 := zSm_b (f := zdg P r) (k + 1) (fun i hi => by have := zdg_r (r := r) hW (show i < zoc P by omega); omega)
      have hw := zwd_r hW (show k < zoc P by omega)
      have hd := zdg_r (r := r) hW (show k < zoc P by omega)
      have hp := zop_r hW (show k < zoc P by omega)
      have ek : (((k + 1 : Nat) : Int)) - 1 = (k : Int) := by omega
      have e65 : m.1 65 (k : Int) = zop P k := by rw [hF.1 _ _ (by omega)]; exact h65 k (by omega)
      have hn : ∀ j, m.1 (1 + 9 + zop P k) j = m0.1 (1 + 9 + zop P k) j := fun j => hF.1 _ _ (by omega)
      have hop := hR.1.2.2.2.2.2.2.2.1 (zop P k) hp.1.1 hp.1.2
      rw [ek]
      refine vc_X7_choose_13 x3 x4 _ 1 m (inR_b (A := 1000) (by omega) (by omega) rfl) (inR_b (A := 1000) (by omega) (by omega) rfl) (inR_b (A := 1000) (by omega) (by omega) rfl) hpl (fun _ => ⟨fun q => absurd q (by omega), fun _ => ⟨by omega, by omega, ?_⟩⟩)
      rw [e65]
      refine ⟨by omega, by omega, ?_⟩
      rw [hn, hn, hop.1, hop.2]
      intro v6 e6
      have ev : v6 = zwd P k := e6
      have hmx : zmx v6 1 = zwd P k := by unfold zmx; split <;> omega
      refine (c_J9_max (d := d) (inR_b (A := 1000) (by omega) (by omega) rfl) (inR_b (A := 1000) (by omega) (by omega) rfl)).mono (fun r8 m9 h => ?_)
      obtain ⟨hr8, hm9⟩ := h
      subst hm9
      rw [hmx] at hr8
      rw [hr8]
      intro _ _
      refine (c_J9_floorMod (d := d) (by omega) hw.2.2).mono (fun r10 m11 h => ?_)
      obtain ⟨hr10, hm11⟩ := h
      subst hm11
      have eq : zqt P (zoc P - (k + 1)) r = zqt P (zoc P - 1 - k) r := by rw [show zoc P - (k + 1) = zoc P - 1 - k by omega]
      have ed : P 101 (2 * zop P k) + r10 = zdg P r k := by rw [hr10, e4, eq]; rfl
      rw [ed]
      intro _ _
      refine ⟨inR_b (A := 1000) (by omega) (by omega) rfl, fun m13 e13 _ => ?_⟩
      refine (c_J9_max (d := d) (inR_b (A := 1000) (by omega) (by omega) rfl) (inR_b (A := 1000) (by omega) (by omega) rfl)).mono (fun r15 m16 h => ?_)
      obtain ⟨hr15, hm16⟩ := h
      subst hm16
      rw [hmx] at hr15
      rw [hr15]
      intro _ _
      refine ⟨by omega, by omega, fun v19 e19 v21 e21 => ?_⟩
      have f66 : m16.1 66 (k : Int) = zdg P r k := by rw [e13, sI_eq]
      rw [f66] at e21
      have eg : (k : Int) + -1 = (k : Int) - 1 := by omega
      rw [eg]
      refine ih (by omega) m16 (hF.put e13 rfl) (fun j a b => ?_) v21 v19 (by omega) ?_
      · by_cases z : j = k
        · rw [z]; exact f66
        · rw [e13, sI_ne (Or.inr (by omega))]; exact hj j (by omega) b
      · rw [e19, e4, show zoc P - k = (zoc P - (k + 1)) + 1 by omega, zqt_s, show zoc P - 1 - (zoc P - (k + 1)) = k by omega]
        exact Int.tdiv_eq_ediv_of_nonneg hq.1
  refine zCt.of (by decide) (Nat.le_of_ble_eq_true rfl) (vc_X7_choose_0 (d := d) 1 r m0 hpl (inR_b (A := 1000) (by omega) (by omega) rfl) (fun _ v1 e1 => ?_))
  rw [e1, h2]
  exact loop (zoc P) (Nat.le_refl _) m0 zFr.rf (fun j a b => absurd b (by omega)) 0 r (by omega) (by rw [Nat.sub_self]; rfl)
theorem c_X10_rises {d : Nat} {r : Int} (hr : 0 ≤ r ∧ r ≤ 255) (hW : zWf P) (hO : zoc P ≤ 4) (h39 : m0.1 98 39 = (zoc P : Int)) (h116 : ∀ j : Nat, j < zoc P → m0.1 116 j = zop P j) (h101 : ∀ k, m0.1 101 k = P 101 k) (h117 : ∀ j : Nat, j < zoc P → m0.1 117 j = zdg P r j) :
    zCt K (d + 1) mX10_rises [rr K 98] m0 (fun s m1 => zFr (fun a _ => a = 117) m0 m1 ∧ ((s = 1 ∧ zqt P (zoc P) (r + 1) = zqt P (zoc P) r ∧ ∀ j : Nat, j < zoc P → m1.1 117 j = zdg P (r + 1) j) ∨ (s = 0 ∧ zqt P (zoc P) (r + 1) = zqt P (zoc P) r + 1))) := by
  have loop : ∀ (k : Nat), k ≤ zoc P → ∀ m : zM, zFr (fun a _ => a = 117) m0 m → (∀ j : Nat, j < k → m.1 117 j = zdg P r j) → (∀ j : Nat, k ≤ j → j < zoc P → m.1 117 j = zdg P (r + 1) j) → zqt P (zoc P - k) (r + 1) = zqt P (zoc P - k) r + 1 → zV K mX10_rises (d + 1) 7 [(0, rr K 98), (1, .int (iz ((k : Int) - 1)))] [] m (fun s m1 => zFr (fun a _ => a = 117) m0 m1 ∧ ((s = 1 ∧ zqt P (zoc P) (r + 1) = zqt P (zoc P) r ∧ ∀ j : Nat, j < zoc P → m1.1 117 j = zdg P (r + 1) j) ∨ (s = 0 ∧ zqt P (zoc P) (r + 1) = zqt P (zoc P) r + 1))) := by
    intro k
    induction k with
    | zero =>
      intro _ m hF hlo hhi hq
      refine vc_X10_rises_7 _ m (inR_b (A := 1000) (by omega) (by omega) rfl) (fun _ => ⟨fun _ => ⟨fun q => absurd q (by omega), fun _ => ⟨hF, Or.inr ⟨rfl, hq⟩⟩⟩, fun q => absurd (by omega) q⟩)
    | succ k ih =>
      intro hk m hF hlo hhi hq
      have ek : (((k + 1 : Nat) : Int)) - 1 = (k : Int) := by omega
      have hw := zwd_r hW (show k < zoc P by omega)
      have hp := zop_r hW (show k < zoc P by omega)
      have h4 := hW.2.2.2.1
      have e116 : m.1 116 (k : Int) = zop P k := by rw [hF.1 _ _ (by omega)]; exact h116 k (by omega)
      have n101 : ∀ j, m.1 101 j = P 101 j := fun j => by rw [hF.1 _ _ (by omega)]; exact h101 j
      have e117 := hlo k (by omega)
      have hd := zdg_r (r := r) hW (show k < zoc P by omega)
      have hd1 := zdg_r (r := r + 1) hW (show k < zoc P by omega)
      have eq : zoc P - (k + 1) = zoc P - 1 - k := by omega
      rw [eq] at hq
      have hcar := zcar (a := zqt P (zoc P - 1 - k) r) hw.2.2
      have eg : zdg P r k = zfm P k + zqt P (zoc P - 1 - k) r % zwd P k := rfl
      have eg1 : zdg P (r + 1) k = zfm P k + (zqt P (zoc P - 1 - k) r + 1) % zwd P k := by rw [← hq]; rfl
      have ew : zwd P k = zto P k - zfm P k + 1 := rfl
      have es : ∀ x, zqt P (zoc P - k) x = zqt P (zoc P - 1 - k) x / zwd P k := fun x => by rw [show zoc P - k = (zoc P - 1 - k) + 1 by omega, zqt_s, show zoc P - 1 - (zoc P - 1 - k) = k by omega]
      rw [ek]
      refine vc_X10_rises_7 _ m (inR_b (A := 1000) (by omega) (by omega) rfl) (fun _ => ⟨fun q => absurd q (by omega), fun _ => ⟨by omega, by omega, ?_⟩⟩)
      rw [e116, n101, n101, e117]
      refine ⟨by omega, by omega, fun z => ⟨by omega, by omega, fun m19 e19 _ => ?_⟩, fun z => ⟨fun _ => ⟨inR_b (A := 1000) (by omega) (by omega) rfl, fun m15 e15 _ => ⟨hF.put e15 rfl, Or.inl ⟨rfl, ?_, fun j hj => ?_⟩⟩⟩, fun q => absurd (by omega) q⟩⟩
      · have z' : zdg P r k = zto P k := z
        have hc := hcar.1 (by omega)
        have eg' : (k : Int) + -1 = (k : Int) - 1 := by omega
        rw [eg']
        refine ih (by omega) m19 (hF.put e19 rfl) (fun j hj => ?_) (fun j a b => ?_) ?_
        · rw [e19, sI_ne (Or.inr (by omega))]; exact hlo j (by omega)
        · by_cases y : j = k
          · rw [y, e19, sI_eq, eg1, hc.1]; unfold zfm; omega
          · rw [e19, sI_ne (Or.inr (by omega))]; exact hhi j (by omega) b
        · rw [es, es, hq, hc.2]
      · have z' : ¬ zdg P r k = zto P k := z
        have hc := hcar.2 (by omega)
        have := zqt_eq (P := P) (a := r + 1) (b := r) (k := zoc P - k) (by rw [es, es, hq, hc.2]) k
        rw [show zoc P - k + k = zoc P by omega] at this
        exact this
      · have z' : ¬ zdg P r k = zto P k := z
        have hc := hcar.2 (by omega)
        by_cases y : j = k
        · rw [y, e15, sI_eq, eg1, hc.1]; omega
        · rw [e15, sI_ne (Or.inr (by omega))]
          by_cases y2 : j < k
          · rw [hlo j (by omega)]
            have := zqt_eq (P := P) (a := r + 1) (b := r) (k := zoc P - k) (by rw [es, es, hq, hc.2]) (k - 1 - j)
            rw [show zoc P - k + (k - 1 - j) = zoc P - 1 - j by omega] at this
            unfold zdg
            rw [this]
          · exact hhi j (by omega) hj
  refine zCt.of (by decide) (Nat.le_of_ble_eq_true rfl) (vc_X10_rises_0 (d := d) m0 (fun _ v1 e1 => ?_))
  rw [e1, h39]
  exact loop (zoc P) (Nat.le_refl _) m0 zFr.rf (fun j hj => h117 j hj) (fun j a b => absurd b (by omega)) (by rw [Nat.sub_self]; rfl)
end RE
