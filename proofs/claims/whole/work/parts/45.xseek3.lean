/-! ===== RESTS: seek and find ===== -/
section SG
variable {P : F2} {c w : Int}
theorem zsf_le : ∀ (n k : Nat) (t : F3), t.1 ≤ (zsf P c w n k t).1 ∧ (zsf P c w n k t).1 ≤ t.1 + (n : Int) := by
  intro n
  induction n with
  | zero =>
    intro k t
    show t.1 ≤ t.1 ∧ t.1 ≤ t.1 + ((0 : Nat) : Int)
    omega
  | succ n ih =>
    intro k t
    have h := ih (k + 1) (zs1 P c w k t)
    have h2 : t.1 ≤ (zs1 P c w k t).1 ∧ (zs1 P c w k t).1 ≤ t.1 + 1 := by
      unfold zs1
      split
      · show t.1 ≤ t.1 + 1 ∧ t.1 + 1 ≤ t.1 + 1
        omega
      · omega
    show t.1 ≤ (zsf P c w n (k + 1) (zs1 P c w k t)).1 ∧ (zsf P c w n (k + 1) (zs1 P c w k t)).1 ≤ t.1 + ((n + 1 : Nat) : Int)
    omega
def zsz (x : Int) : Nat := if x = 2 then 9261 else if x = 3 then 441 else if x = 4 then 21 else 1
theorem zsz_s {x : Int} (hx : 2 ≤ x ∧ x ≤ 4) : zsz x = 21 * zsz (x + 1) := by
  have : x = 2 ∨ x = 3 ∨ x = 4 := by omega
  rcases this with rfl | rfl | rfl <;> rfl
theorem zlv_blk {x : Int} (hx : 2 ≤ x ∧ x ≤ 4) {B l s : Nat} (hB : B % zsz x = 0) (h9 : B + zsz x ≤ 9261) (hl : l ≤ 20) (h1 : B + l * zsz (x + 1) ≤ s) (h2 : s < B + l * zsz (x + 1) + zsz (x + 1)) : zlv P s x = l ∧ (B + l * zsz (x + 1)) % zsz (x + 1) = 0 := by
  have : x = 2 ∨ x = 3 ∨ x = 4 := by omega
  rcases this with rfl | rfl | rfl
  · have e1 : zsz 2 = 9261 := rfl
    have e2 : zsz (2 + 1) = 441 := rfl
    rw [e1] at hB h9
    rw [e2] at h1 h2 ⊢
    have e : zlv P s 2 = (s : Int) / 441 := rfl
    rw [e]
    omega
  · have e1 : zsz 3 = 441 := rfl
    have e2 : zsz (3 + 1) = 21 := rfl
    rw [e1] at hB h9
    rw [e2] at h1 h2 ⊢
    have e : zlv P s 3 = (s : Int) / 21 % 21 := rfl
    rw [e]
    omega
  · have e1 : zsz 4 = 21 := rfl
    have e2 : zsz (4 + 1) = 1 := rfl
    rw [e1] at hB h9
    rw [e2] at h1 h2 ⊢
    have e : zlv P s 4 = (s : Int) % 21 := rfl
    rw [e]
    omega
end SG
section XY
variable {K : zCx} {P : F2} {c : Int} {m0 : zM}
def zSS (x a k : Int) : Prop := (a = 40 ∧ x ≤ k) ∨ (a = 52 ∧ 4 ≤ k) ∨ (a = 55 ∧ 5 * x ≤ k)
def zSp (P : F2) (c w x : Int) (B : Nat) (m : zM) : Prop :=
  zBe m P c ∧ (∀ p, 0 ≤ p → p < P 98 4 → m.1 53 p = zkn P p) ∧ (∀ n, 0 ≤ n → n ≤ 4 → m.1 54 n = zst P n (P 98 4).toNat) ∧ m.1 40 0 = 0 ∧ m.1 40 1 = P 98 0 ∧
  (∀ k, 2 ≤ k → k < x → 0 ≤ m.1 40 k ∧ m.1 40 k ≤ 20) ∧ (3 ≤ x → ∀ n, 0 ≤ n → n ≤ 4 → m.1 55 (5 * (x - 1) + n) = zrw P (m.1 40) c n (x - 1) (P 98 4).toNat) ∧ m.1 52 3 = w ∧ m.1 52 6 = 0 ∧ (0 ≤ m.1 52 4 ∧ m.1 52 4 ≤ (B : Int)) ∧
  (B % zsz x = 0 ∧ B + zsz x ≤ 9261) ∧ (∀ s : Nat, B ≤ s → s < B + zsz x → (∀ k, 2 ≤ k → k < x → zlv P s k = m.1 40 k) ∧ ∀ j, 2 ≤ j → j < x → zck P c s j)
def zSq (P : F2) (c w x : Int) (B : Nat) (m m' : zM) : Prop := zFr (zSS x) m m' ∧ zfs m' = zsf P c w (zsz x) B (zfs m)
theorem c_X6_seekG {d : Nat} {x w : Int} {B : Nat} (hx : 2 ≤ x ∧ x ≤ 4) (hW : zWf P) (hc : 0 ≤ c ∧ c ≤ 8) (h0 : zSp P c w x B m0)
    (hcall : x < 4 → ∀ (B' : Nat) (m : zM), zSp P c w (x + 1) B' m → zCt K (d + 2) mX6_seek [rr K 52, rr K 39, .int (iz (x + 1))] m (fun r m1 => r = 0 ∧ zSq P c w (x + 1) B' m m1)) :
    zCt K (d + 3) mX6_seek [rr K 52, rr K 39, .int (iz x)] m0 (fun r m1 => r = 0 ∧ zSq P c w x B m0 m1) := by
  obtain ⟨hB, h53, h54, l0, l1, l2, hrow, h3, h6, hfd, hbk, hblk⟩ := h0
  have hN := hW.2.2.2.1
  have hf0 := hW.1
  have hs21 := zsz_s hx
  have ix : inR x := inR_b (A := 10) (by omega) (by omega) rfl
  have loop : ∀ (n l : Nat), l + n = 21 → ∀ m : zM, zFr (zSS x) m0 m → zfs m = zsf P c w (l * zsz (x + 1)) B (zfs m0) → zV K mX6_seek (d + 3) 8 [(0, rr K 52), (1, rr K 39), (2, .int (iz x)), (3, .int (iz (l : Int)))] [] m (fun r m1 => r = 0 ∧ zSq P c w x B m0 m1) := by
    intro n
    induction n with
    | zero =>
      intro l hl m hF hz
      refine vc_X6_seek_8 x l m ix (inR_b (A := 100) (by omega) (by omega) rfl) (fun _ => ⟨fun _ => ⟨rfl, hF, ?_⟩, fun q => absurd (by omega) q⟩)
      rw [hs21, hz, show l = 21 by omega]
    | succ n ih =>
      intro l hl m hF hz
      have hmul : (l + 1) * zsz (x + 1) = l * zsz (x + 1) + zsz (x + 1) := Nat.succ_mul l _
      have hle : (l + 1) * zsz (x + 1) ≤ 21 * zsz (x + 1) := Nat.mul_le_mul_right _ (by omega)
      have hne : ∀ m' : zM, zFr (zSS x) m0 m' → zfs m' = zsf P c w (zsz (x + 1)) (B + l * zsz (x + 1)) (zfs m) → zV K mX6_seek (d + 3) 8 [(0, rr K 52), (1, rr K 39), (2, .int (iz x)), (3, .int (iz ((l : Int) + 1)))] [] m' (fun r m1 => r = 0 ∧ zSq P c w x B m0 m1) := by
        intro m' hF' hz'
        refine ih (l + 1) (by omega) m' hF' ?_
        rw [hmul, zsf_app, ← hz]
        exact hz'
      refine vc_X6_seek_8 x l m ix (inR_b (A := 100) (by omega) (by omega) rfl) (fun _ => ⟨fun q => absurd q (by omega), fun _ => ⟨fun q6 => ⟨by omega, by omega, fun m5 e5 _ => ?_⟩, fun q6 => ⟨rfl, hF, ?_⟩⟩⟩)
      · have hF5 : zFr (zSS x) m0 m5 := hF.put e5 (Or.inl ⟨rfl, Int.le_refl _⟩)
        have n5 : ∀ a k, ¬ zSS x a k → m5.1 a k = m0.1 a k := hF5.1
        have hB5 : zBe m5 P c := hB.so (fun a k q => n5 a k (by unfold zSS; omega)) (by rw [hF5.2])
        have L5x : m5.1 40 x = l := by rw [e5, sI_eq]
        have L5 : ∀ k, 0 ≤ k → k < x → m5.1 40 k = m0.1 40 k := fun k a b => n5 40 k (by unfold zSS; omega)
        have hl5 : ∀ k, 0 ≤ k → k ≤ x → 0 ≤ m5.1 40 k ∧ m5.1 40 k ≤ 20 := by
          intro k a b
          by_cases z : k = x
          · rw [z, L5x]; omega
          · rw [L5 k a (by omega)]
            by_cases z0 : k = 0
            · rw [z0, l0]; omega
            · by_cases z1 : k = 1
              · rw [z1, l1]; exact hf0
              · exact l2 k (by omega) (by omega)
        refine (c_X6_addFlows (d := d) hx hW hB5 hc (fun p a b => by rw [n5 _ _ (by unfold zSS; omega)]; exact h53 p a b) hl5 (fun h3x n a b => ?_)).mono (fun r7 m8 h => ?_)
        · rw [n5 _ _ (by unfold zSS; omega), hrow h3x n a b]
          exact zrw_dep hW (fun k a b => (L5 k a (by omega)).symm) _ (by omega)
        obtain ⟨h7, f8, h8⟩ := h
        intro _ _
        have hF8 : zFr (zSS x) m0 m8 := hF5.tr (f8.mono (fun a k h => Or.inr (Or.inr ⟨h.1, h.2.1⟩)))
        have n8 : ∀ a k, ¬ zSS x a k → m8.1 a k = m0.1 a k := hF8.1
        have hB8 : zBe m8 P c := hB.so (fun a k q => n8 a k (by unfold zSS; omega)) (by rw [hF8.2])
        have e40 : m8.1 40 = m5.1 40 := funext (fun k => f8.1 40 k (by unfold zS55; omega))
        have g52 : ∀ k, m8.1 52 k = m.1 52 k := fun k => by rw [f8.1 52 k (by unfold zS55; omega), e5, sI_ne (Or.inl (by omega))]
        have z8 : zfs m8 = zfs m := by unfold zfs; rw [g52, g52, g52]
        have hfm : zfs m = (m.1 52 4, m.1 52 5, m.1 52 6) := rfl
        have hfb := zsf_le (P := P) (c := c) (w := w) (l * zsz (x + 1)) B (zfs m0)
        rw [← hz] at hfb
        have hfb1 : m0.1 52 4 ≤ m.1 52 4 ∧ m.1 52 4 ≤ m0.1 52 4 + ((l * zsz (x + 1) : Nat) : Int) := hfb
        have lvl : ∀ s : Nat, B + l * zsz (x + 1) ≤ s → s < B + l * zsz (x + 1) + zsz (x + 1) → ∀ k, 0 ≤ k → k ≤ x → m5.1 40 k = zlv P s k := by
          intro s a b k k0 kx
          by_cases z : k = x
          · rw [z, L5x]; exact (zlv_blk hx hbk.1 hbk.2 (by omega) a b).1.symm
          · rw [L5 k k0 (by omega)]
            by_cases z0 : k = 0
            · rw [z0, l0]; rfl
            · by_cases z1 : k = 1
              · rw [z1, l1]; rfl
              · exact ((hblk s (by omega) (by omega)).1 k (by omega) (by omega)).symm
        have emv : ∀ s : Nat, B + l * zsz (x + 1) ≤ s → s < B + l * zsz (x + 1) + zsz (x + 1) → ∀ i, 2 ≤ i → i ≤ x → zst P i (P 98 4).toNat = x → zmv (m8.1 40 i) (m8.1 55 (5 * x + i)) (m8.1 42 i) = zmvn P c s i := by
          intro s a b i i2 ix' z
          have lv := lvl s a b
          have hsf := zst_facts (n := i) hW ⟨by omega, by omega⟩ (P 98 4).toNat (by omega)
          rw [e40, lv i (by omega) ix', h8 i (by omega) (by omega), hB8.2.2.2.2 i (by omega) (by omega), zrw_dep hW lv _ (by omega), zrw_net hW ⟨i2, by omega⟩ _ (by omega) (fun q hq t => by have := hsf.2.2 q hq t; omega)]
          rfl
        have e8i : ∀ s : Nat, B + l * zsz (x + 1) ≤ s → s < B + l * zsz (x + 1) + zsz (x + 1) → ∀ i, 2 ≤ i → i ≤ x → m8.1 40 i = zlv P s i := fun s a b i i2 ix' => by rw [e40]; exact lvl s a b i (by omega) ix'
        have e54 : ∀ i, 2 ≤ i → i ≤ x → m8.1 54 i = zst P i (P 98 4).toNat := fun i i2 ix' => by rw [n8 _ _ (by unfold zSS; omega)]; exact h54 i (by omega) (by omega)
        refine (c_X6_stay (d := d) hx (by rw [e40]; exact hl5) (fun k a b => ?_) (fun k a b => ?_)).mono (fun r9 m10 h => ?_)
        · rw [hB8.2.2.2.2 k (by omega) (by omega)]
          have := zwt_le (n := k) hW (P 98 4).toNat (by omega)
          omega
        · rw [h8 k (by omega) (by omega)]
          have := zrw_leK (n := k) (x := x) (y := x) hW hc (by omega) hl5 (P 98 4).toNat (by omega)
          omega
        obtain ⟨e10, hst⟩ := h
        rw [e10]
        intro _ _
        refine ⟨fun r0 => hne m8 hF8 ?_, fun r0 => ?_⟩
        · rcases hst with ⟨h1, -⟩ | ⟨-, i, i2, ixx, hni⟩
          · omega
          · rw [z8]
            refine (zsf_skip _ _ _ (fun s a b hrest => hni ?_)).symm
            intro z
            rw [emv s a b i i2 ixx ((e54 i i2 ixx).symm.trans z), e8i s a b i i2 ixx]
            exact (zrest_iff ⟨by omega, by omega⟩).mp hrest i i2 (by omega)
        · have hall : ∀ i, 2 ≤ i → i ≤ x → zstay m8 x i := by
            rcases hst with ⟨-, h1⟩ | ⟨h1, -⟩
            · exact h1
            · exact absurd h1 r0
          have hck : ∀ s : Nat, B + l * zsz (x + 1) ≤ s → s < B + l * zsz (x + 1) + zsz (x + 1) → zck P c s x := by
            intro s a b i i2 i4 z
            have hsf := zst_facts (n := i) hW ⟨by omega, by omega⟩ (P 98 4).toNat (by omega)
            have ixx : i ≤ x := by omega
            rw [← emv s a b i i2 ixx z, ← e8i s a b i i2 ixx]
            exact hall i i2 ixx ((e54 i i2 ixx).trans z)
          refine ⟨fun x4 => ?_, fun x4 => ?_⟩
          · have ex : x = 4 := by omega
            have e1 : zsz (x + 1) = 1 := by rw [ex]; rfl
            have hsub : B + l * zsz (x + 1) < B + l * zsz (x + 1) + zsz (x + 1) := by omega
            have hlv := e8i (B + l * zsz (x + 1)) (Nat.le_refl _) hsub
            have v2 := hlv 2 (by omega) (by omega)
            have v3 := hlv 3 (by omega) (by omega)
            have v4 := hlv 4 (by omega) (by omega)
            have hsr : 0 ≤ ((B + l * zsz (x + 1) : Nat) : Int) ∧ ((B + l * zsz (x + 1) : Nat) : Int) ≤ 9260 := by omega
            have hst4 := zlv_state (P := P) hsr
            have b2 := zlv_le hW hsr 2
            have b3 := zlv_le hW hsr 3
            have b4 := zlv_le hW hsr 4
            have es : (m8.1 40 2 * 21 + m8.1 40 3) * 21 + m8.1 40 4 = ((B + l * zsz (x + 1) : Nat) : Int) := by rw [v2, v3, v4]; exact hst4
            rw [es]
            refine ⟨by omega, by omega, by omega, ?_⟩
            have hb := (hblk (B + l * zsz (x + 1)) (by omega) (by omega)).2
            refine (c_X6_note (d := d + 1) (P := P) (c := c) (w := w) hsr (by rw [n8 _ _ (by unfold zSS; omega)]; exact h3) (by rw [g52]; exact q6) (by rw [g52]; omega) ((zrest_ck hW hsr).mpr ⟨hb 2 (by omega) (by omega), hb 3 (by omega) (by omega), by rw [← ex]; exact hck _ (Nat.le_refl _) hsub⟩)).mono (fun r18 m19 h => ?_)
            obtain ⟨-, f19, z19⟩ := h
            intro _ _
            refine hne m19 (hF8.tr (f19.mono (fun a k h => Or.inr (Or.inl h)))) ?_
            rw [z19, z8, e1]
            rfl
          · have hzp : 0 < zsz (x + 1) := by unfold zsz; (repeat' split) <;> omega
            have hsub := zlv_blk (P := P) (s := B + l * zsz (x + 1)) hx hbk.1 hbk.2 (l := l) (by omega) (Nat.le_refl _) (by omega)
            refine (hcall (by omega) (B + l * zsz (x + 1)) m8 ⟨hB8, fun p a b => by rw [n8 _ _ (by unfold zSS; omega)]; exact h53 p a b, fun n a b => by rw [n8 _ _ (by unfold zSS; omega)]; exact h54 n a b, by rw [n8 _ _ (by unfold zSS; omega)]; exact l0, by rw [n8 _ _ (by unfold zSS; omega)]; exact l1, fun k a b => by rw [e40]; exact hl5 k (by omega) (by omega), fun _ n a b => ?_, by rw [n8 _ _ (by unfold zSS; omega)]; exact h3, by rw [g52]; exact q6, by rw [g52]; omega, ⟨hsub.2, by omega⟩, fun s a b => ⟨fun k k2 kx => (e8i s a b k k2 (by omega)).symm, fun j j2 jx => ?_⟩⟩).mono (fun r20 m21 h => ?_)
            · have e : x + 1 - 1 = x := by omega
              rw [e, h8 n a b, e40]
            · by_cases z : j = x
              · rw [z]; exact hck s a b
              · exact (hblk s (by omega) (by omega)).2 j j2 (by omega)
            obtain ⟨-, f21, z21⟩ := h
            intro _ _
            refine hne m21 (hF8.tr (f21.mono (fun a k h => ?_))) ?_
            · unfold zSS at h ⊢; omega
            · rw [z21, z8]
      · rw [hs21, show 21 * zsz (x + 1) = l * zsz (x + 1) + (n + 1) * zsz (x + 1) by rw [← Nat.add_mul, hl], zsf_app, ← hz]
        exact (zsf_hit _ _ _ q6).symm
  refine zCt.of (by decide) (Nat.le_of_ble_eq_true rfl) (vc_X6_seek_0 (d := d) x m0 ix (fun _ => ⟨fun _ => loop 21 0 (by omega) m0 zFr.rf ?_, fun q => absurd hx.2 q⟩))
  rw [Nat.zero_mul]
  rfl
theorem c_X6_seek4 {d : Nat} {w : Int} {B : Nat} (hW : zWf P) (hc : 0 ≤ c ∧ c ≤ 8) (h0 : zSp P c w 4 B m0) : zCt K (d + 3) mX6_seek [rr K 52, rr K 39, .int (iz 4)] m0 (fun r m1 => r = 0 ∧ zSq P c w 4 B m0 m1) :=
  c_X6_seekG (by omega) hW hc h0 (fun h => absurd h (by omega))
theorem c_X6_seek3 {d : Nat} {w : Int} {B : Nat} (hW : zWf P) (hc : 0 ≤ c ∧ c ≤ 8) (h0 : zSp P c w 3 B m0) : zCt K (d + 4) mX6_seek [rr K 52, rr K 39, .int (iz 3)] m0 (fun r m1 => r = 0 ∧ zSq P c w 3 B m0 m1) :=
  c_X6_seekG (d := d + 1) (by omega) hW hc h0 (fun _ _ _ h => c_X6_seek4 (d := d) hW hc h)
theorem c_X6_seek2 {d : Nat} {w : Int} {B : Nat} (hW : zWf P) (hc : 0 ≤ c ∧ c ≤ 8) (h0 : zSp P c w 2 B m0) : zCt K (d + 5) mX6_seek [rr K 52, rr K 39, .int (iz 2)] m0 (fun r m1 => r = 0 ∧ zSq P c w 2 B m0 m1) :=
  c_X6_seekG (d := d + 2) (by omega) hW hc h0 (fun _ _ _ h => c_X6_seek3 (d := d) hW hc h)
def zSR (a _k : Int) : Prop := a = 40 ∨ (52 ≤ a ∧ a ≤ 55)
theorem c_X6_find {d : Nat} {w : Int} (iw : inR w) (hW : zWf P) (hc : 0 ≤ c ∧ c ≤ 8) (hB : zBe m0 P c) (l0 : m0.1 40 0 = 0) (l1 : m0.1 40 1 = P 98 0) :
    zCt K (d + 9) mX6_find [rr K 52, rr K 39, .int (iz w)] m0 (fun r m1 => r = 0 ∧ zFr zSR m0 m1 ∧ zfs m1 = zsf P c w 9261 0 (0, m0.1 52 5, 0)) := by
  refine zCt.of (by decide) (Nat.le_of_ble_eq_true rfl) (vc_X6_find_0 (d := d) w m0 iw (fun _ m1 e1 _ m3 e3 _ m5 e5 _ => ?_))
  have f5 : zFr zSR m0 m5 := ((zFr.rf.put e1 (Or.inr (by omega))).put e3 (Or.inr (by omega))).put e5 (Or.inr (by omega))
  have hB5 : zBe m5 P c := hB.so (fun a k q => f5.1 a k (by unfold zSR; omega)) (by rw [f5.2])
  have a3 : m5.1 52 3 = w := by rw [e5, sI_ne (Or.inr (by omega)), e3, sI_ne (Or.inr (by omega)), e1, sI_eq]
  have a4 : m5.1 52 4 = 0 := by rw [e5, sI_ne (Or.inr (by omega)), e3, sI_eq]
  have a5 : m5.1 52 5 = m0.1 52 5 := by rw [e5, sI_ne (Or.inr (by omega)), e3, sI_ne (Or.inr (by omega)), e1, sI_ne (Or.inr (by omega))]
  have a6 : m5.1 52 6 = 0 := by rw [e5, sI_eq]
  have b0 : m5.1 40 0 = 0 := by rw [e5, sI_ne (Or.inl (by omega)), e3, sI_ne (Or.inl (by omega)), e1, sI_ne (Or.inl (by omega))]; exact l0
  have b1 : m5.1 40 1 = P 98 0 := by rw [e5, sI_ne (Or.inl (by omega)), e3, sI_ne (Or.inl (by omega)), e1, sI_ne (Or.inl (by omega))]; exact l1
  refine (c_X6_order (d := d + 6) hW hB5).mono (fun r7 m8 h => ?_)
  obtain ⟨-, f8, h53, h54⟩ := h
  have n8 : ∀ a k, ¬ (a = 53 ∨ a = 54) → m8.1 a k = m5.1 a k := fun a k q => f8.1 a k q
  intro _ _
  refine (c_X6_seek2 (d := d + 3) (w := w) (B := 0) hW hc ⟨hB5.so (fun a k q => n8 a k (by omega)) (by rw [f8.2]), h53, h54, by rw [n8 _ _ (by omega)]; exact b0, by rw [n8 _ _ (by omega)]; exact b1, fun k a b => absurd b (by omega), fun h => absurd h (by omega), by rw [n8 _ _ (by omega)]; exact a3, by rw [n8 _ _ (by omega)]; exact a6, by rw [n8 _ _ (by omega), a4]; omega, ⟨Nat.zero_mod _, by rw [show zsz 2 = 9261 from rfl]; omega⟩, fun s a b => ⟨fun k k2 kx => absurd kx (by omega), fun j j2 jx => absurd jx (by omega)⟩⟩).mono (fun r9 m10 h => ?_)
  obtain ⟨-, f10, z10⟩ := h
  intro _ _
  refine ⟨rfl, (f5.tr (f8.mono (fun a k h => ?_))).tr (f10.mono (fun a k h => ?_)), ?_⟩
  · unfold zSo at h; unfold zSR; omega
  · unfold zSS at h; unfold zSR; omega
  · rw [z10]
    have : zfs m8 = (0, m0.1 52 5, 0) := by unfold zfs; rw [n8 _ _ (by omega), n8 _ _ (by omega), n8 _ _ (by omega), a4, a5, a6]
    rw [this]
    rfl
/-! what the search counts, and where it stops -/
theorem zsf_count : ∀ (n k : Nat) (a b : Int), 0 ≤ a → zsf P c (-1) n k (a, b, 0) = (a + zrN P c (k + n) - zrN P c k, b, 0) := by
  intro n
  induction n with
  | zero =>
    intro k a b _
    show (a, b, (0 : Int)) = (a + zrN P c k - zrN P c k, b, 0)
    rw [show a + zrN P c k - zrN P c k = a by omega]
  | succ n ih =>
    intro k a b ha
    show zsf P c (-1) n (k + 1) (zs1 P c (-1) k (a, b, 0)) = _
    have e : k + 1 + n = k + (n + 1) := by omega
    have hN : zrN P c (k + 1) = zrN P c k + (if ztick P c (k : Int) = (k : Int) then 1 else 0) := rfl
    by_cases z : ztick P c (k : Int) = (k : Int)
    · have hs : zs1 P c (-1) k (a, b, 0) = (a + 1, b, 0) := by
        unfold zs1
        rw [if_pos ⟨rfl, z⟩]
        show (a + 1, (if a = -1 then (k : Int) else b), (if a = -1 then (1 : Int) else 0)) = _
        rw [if_neg (by omega), if_neg (by omega)]
      rw [hs, ih (k + 1) (a + 1) b (by omega), e, hN, if_pos z, show a + 1 + zrN P c (k + (n + 1)) - (zrN P c k + 1) = a + zrN P c (k + (n + 1)) - zrN P c k by omega]
    · have hs : zs1 P c (-1) k (a, b, 0) = (a, b, 0) := by
        unfold zs1
        rw [if_neg (fun q => z q.2)]
      rw [hs, ih (k + 1) a b ha, e, hN, if_neg z, Int.add_zero]
theorem zsf_at {w : Int} : ∀ (n k : Nat) (a b : Int), a ≤ w → ((zsf P c w n k (a, b, 0)).2.2 = 0 → zrA P c n k (w - a) = -3) ∧ (¬ (zsf P c w n k (a, b, 0)).2.2 = 0 → zrA P c n k (w - a) = (zsf P c w n k (a, b, 0)).2.1) := by
  intro n
  induction n with
  | zero => intro k a b _; exact ⟨fun _ => rfl, fun h => absurd rfl h⟩
  | succ n ih =>
    intro k a b ha
    have he : zsf P c w (n + 1) k (a, b, 0) = zsf P c w n (k + 1) (zs1 P c w k (a, b, 0)) := rfl
    have hA : zrA P c (n + 1) k (w - a) = if ztick P c (k : Int) = (k : Int) then (if w - a = 0 then (k : Int) else zrA P c n (k + 1) (w - a - 1)) else zrA P c n (k + 1) (w - a) := rfl
    rw [he, hA]
    by_cases z : ztick P c (k : Int) = (k : Int)
    · rw [if_pos z]
      by_cases y : a = w
      · have hs : zs1 P c w k (a, b, 0) = (a + 1, (k : Int), 1) := by
          unfold zs1
          rw [if_pos ⟨rfl, z⟩]
          show (a + 1, (if a = w then (k : Int) else b), (if a = w then (1 : Int) else 0)) = _
          rw [if_pos y, if_pos y]
        rw [hs, zsf_hit _ _ _ (show ¬ (1 : Int) = 0 by decide), if_pos (by omega)]
        exact ⟨fun h => absurd (show (1 : Int) = 0 from h) (by decide), fun _ => rfl⟩
      · have hs : zs1 P c w k (a, b, 0) = (a + 1, b, 0) := by
          unfold zs1
          rw [if_pos ⟨rfl, z⟩]
          show (a + 1, (if a = w then (k : Int) else b), (if a = w then (1 : Int) else 0)) = _
          rw [if_neg y, if_neg y]
        rw [hs, if_neg (by omega), show w - a - 1 = w - (a + 1) by omega]
        exact ih (k + 1) (a + 1) b (by omega)
    · have hs : zs1 P c w k (a, b, 0) = (a, b, 0) := by
        unfold zs1
        rw [if_neg (fun q => z q.2)]
      rw [hs, if_neg z]
      exact ih (k + 1) a b ha
def zXR (a k : Int) : Prop := zXS a k ∨ (52 ≤ a ∧ a ≤ 55)
theorem zXS_XR : ∀ a k, zXS a k → zXR a k := fun _ _ h => Or.inl h
theorem c_X9_rests {d : Nat} {c : Int} (ic : inR c) (hW : zWf P) (hR : RQ m0 1 P) : zCt K (d + 10) mX9_rests [rr K 0, .int (iz c)] m0 (fun r m1 => r = zqRests P c ∧ zFl zXR m0 m1) := by
  refine zCt.of (by decide) (Nat.le_of_ble_eq_true rfl) (vc_X9_rests_0 (d := d) c m0 ic (fun _ => ⟨fun hc => ?_, fun hc => ⟨(if_neg hc).symm, zFl.rf⟩⟩))
  have e10 : m0.1 1 10 = P 98 0 := hR.1.1
  rw [e10]
  refine (c_X1_setUp (d := d + 5) (Or.inl rfl) hW hR.1 hc hW.1).mono (fun r4 m5 h => ?_)
  obtain ⟨-, f5, hB5, l0, l1⟩ := h
  intro _ _
  refine (c_X6_find (d := d) (w := -1) (inRd rfl) hW hc hB5 l0 l1).mono (fun r6 m7 h => ?_)
  obtain ⟨-, f7, z7⟩ := h
  intro _ _
  rw [zsf_count _ _ _ _ (Int.le_refl _)] at z7
  have : m7.1 52 4 = 0 + zrN P c (0 + 9261) - zrN P c 0 := congrArg (fun t : F3 => t.1) z7
  refine ⟨?_, (f5.mono (fun a k h => Or.inl (zBS_XS a k h))).tr (f7.l.mono (fun a k h => ?_))⟩
  · rw [this]
    unfold zqRests
    rw [if_pos hc, Nat.zero_add, Int.zero_add]
    show zrN P c 9261 - 0 = _
    omega
  · unfold zSR at h; unfold zXS; omega
theorem c_X9_restAt {d : Nat} {c i : Int} (ic : inR c) (ii : inR i) (hW : zWf P) (hR : RQ m0 1 P) : zCt K (d + 10) mX9_restAt [rr K 0, .int (iz c), .int (iz i)] m0 (fun r m1 => r = zqRestAt P c i ∧ zFl zXR m0 m1) := by
  have hzA : ∀ (n k : Nat) (i : Int), (n : Int) ≤ i → zrA P c n k i = -3 := by
    intro n
    induction n with
    | zero => intro k i _; rfl
    | succ n ih =>
      intro k i hi
      unfold zrA
      rw [if_neg (show ¬ i = 0 by omega), ih (k + 1) (i - 1) (by omega), ih (k + 1) i (by omega)]
      split <;> rfl
  refine zCt.of (by decide) (Nat.le_of_ble_eq_true rfl) (vc_X9_restAt_0 (d := d) c i m0 ic ii (fun _ => ⟨fun hc => ⟨fun hi => ?_, fun hi => ⟨?_, zFl.rf⟩⟩, fun hc => ⟨(if_neg hc).symm, zFl.rf⟩⟩))
  · have e10 : m0.1 1 10 = P 98 0 := hR.1.1
    rw [e10]
    refine (c_X1_setUp (d := d + 5) (Or.inl rfl) hW hR.1 hc hW.1).mono (fun r4 m5 h => ?_)
    obtain ⟨-, f5, hB5, l0, l1⟩ := h
    intro _ _
    refine (c_X6_find (d := d) (w := i) ii hW hc hB5 l0 l1).mono (fun r6 m7 h => ?_)
    obtain ⟨-, f7, z7⟩ := h
    intro _ _
    have hz := zsf_at (P := P) (c := c) (w := i) 9261 0 0 (m5.1 52 5) hi.1
    rw [← z7, Int.sub_zero] at hz
    have hq : zqRestAt P c i = zrA P c 9261 0 i := by unfold zqRestAt; rw [if_pos hc, if_neg (by omega)]
    have hf : zFl zXR m0 m7 := (f5.mono (fun a k h => Or.inl (zBS_XS a k h))).tr (f7.l.mono (fun a k h => by unfold zSR at h; unfold zXS; omega))
    exact ⟨fun q => ⟨by rw [hq]; exact (hz.1 q).symm, hf⟩, fun q => ⟨by rw [hq]; exact (hz.2 q).symm, hf⟩⟩
  · unfold zqRestAt
    rw [if_pos hc]
    by_cases h : i < 0
    · rw [if_pos h]
    · rw [if_neg h, hzA 9261 0 i (by omega)]
end XY
