/-! ===== the reference's advance ===== -/
def zAv (a k : Int) : Prop := a = 98 ∧ 24 ≤ k ∧ k ≤ 27
section ADV
variable {K : zCx} {d : Nat} {m : zM} {t : Int → Int} {n x : Int}
theorem sL_1 {m : zM} {a k : Int} {v : Int64} {b j : Int} : (sL m a k v).1 b j = m.1 b j := rfl
theorem sI_2 {m : zM} {a k v : Int} : (sI m a k v).2 = m.2 := rfl
theorem sL_eq {m : zM} {a k : Int} {v : Int64} : (sL m a k v).2.1 a k = v := by rw [sL_at, if_pos ⟨rfl, rfl⟩]
theorem t_adv_word (hn : 0 ≤ n ∧ n ≤ 220) (ht : ∀ k, 0 ≤ k → k < n → 0 ≤ t k ∧ t k ≤ 255) (hT : ∀ k, m.1 111 k = t k) (hN : m.1 98 23 = n) (hx : 0 ≤ x ∧ x ≤ n) (hq : ¬ n ≤ ztq t n x) (hl : (97 ≤ t (ztq t n x) ∧ t (ztq t n x) ≤ 122)) :
    ∀ (g : Nat) (x1 : Int), x1 + g = n → ztq t n x ≤ x1 → ∀ m', zFl zAv m m' → m'.1 98 24 = 1 → m'.1 98 25 = ztq t n x → (x1 - ztq t n x ≤ 8 → m'.2.1 98 27 = Int64.ofInt (zthh t (ztq t n x) (x1 - ztq t n x).toNat)) → zru (zle t) n (ztq t n x) = zru (zle t) n x1 → zV K mX10_advance (d + 2) 73 [(0, rr K 98), (1, .int (iz x1))] [] m' (fun _ m2 => zFl zAv m m2 ∧ zRT m2 t n x) := by
  have hqb := ztq_b (t := t) hx.2
  have fin : ∀ (x1 : Int) (m' : zM), ztq t n x ≤ x1 → zFl zAv m m' → m'.1 98 24 = 1 → m'.1 98 25 = ztq t n x → (x1 - ztq t n x ≤ 8 → m'.2.1 98 27 = Int64.ofInt (zthh t (ztq t n x) (x1 - ztq t n x).toNat)) → zru (zle t) n (ztq t n x) = x1 → ∀ v m4, v = (if x1 - ztq t n x ≤ 8 then m'.2.1 98 27 else 0) → m4 = sL m' 98 27 v → ∀ m6, m6 = sI m4 98 26 x1 → zFl zAv m m6 ∧ zRT m6 t n x := by
    intro x1 m' h0 hF h4 h5 h7 hr v m4 hv e4 m6 e6
    refine ⟨(hF.putL e4 ⟨rfl, by omega, by omega⟩).put e6 ⟨rfl, by omega, by omega⟩, zRT.word hx.2 hq hl ?_ ?_ ?_ ?_⟩
    · rw [e6, sI_ne (by omega), e4, sL_1]; exact h5
    · rw [e6, sI_eq, hr]
    · rw [e6, sI_ne (by omega), e4, sL_1]; exact h4
    · rw [e6, sI_2, e4, sL_eq, hv, hr]
      by_cases h8 : x1 - ztq t n x ≤ 8
      · rw [if_pos h8, if_pos h8]; exact h7 h8
      · rw [if_neg h8, if_neg h8]
  intro g
  induction g with
  | zero =>
    intro x1 hg h0 m' hF h4 h5 h7 hr
    have e23 : m'.1 98 23 = n := by rw [hF.1 98 23 (by unfold zAv; omega)]; exact hN
    rw [zru_end (p := zle t) (show n ≤ x1 by omega)] at hr
    refine vc_X10_advance_73 (d := d) x1 m' ⟨by omega, by omega⟩ (fun _ => ?_)
    rw [e23, h5]
    refine ⟨fun _ => ⟨⟨by omega, by omega⟩, fun h8 m4 e4 _ m6 e6 _ => fin x1 m' h0 hF h4 h5 h7 hr _ m4 (by rw [if_pos h8]) e4 m6 e6, fun h8 m4 e4 _ m6 e6 _ => fin x1 m' h0 hF h4 h5 h7 hr _ m4 (by rw [if_neg h8]) e4 m6 e6⟩, fun q => absurd (show n ≤ x1 by omega) q⟩
  | succ g ih =>
    intro x1 hg h0 m' hF h4 h5 h7 hr
    have e23 : m'.1 98 23 = n := by rw [hF.1 98 23 (by unfold zAv; omega)]; exact hN
    have e1 : m'.1 111 x1 = t x1 := by rw [hF.1 111 x1 (by unfold zAv; omega)]; exact hT x1
    refine vc_X10_advance_73 (d := d) x1 m' ⟨by omega, by omega⟩ (fun _ => ?_)
    rw [e23, h5, e1]
    refine ⟨fun q => absurd q (by omega), fun _ => ⟨by omega, by omega, fun hc => ⟨⟨by omega, by omega⟩, fun h8 m9 e9 _ => ?_, fun h8 m9 e9 _ => ?_⟩, fun hc => ?_⟩⟩
    · have hp : zle t x1 = true := decide_eq_true hc
      refine ih (x1 + 1) (by omega) (by omega) m9 (hF.putL e9 ⟨rfl, by omega, by omega⟩) (by rw [e9, sL_1]; exact h4) (by rw [e9, sL_1]; exact h5) (fun q => by omega) (by rw [hr, zru_go (by omega) hp])
    · have hp : zle t x1 = true := decide_eq_true hc
      refine ih (x1 + 1) (by omega) (by omega) m9 (hF.putL e9 ⟨rfl, by omega, by omega⟩) (by rw [e9, sL_1]; exact h4) (by rw [e9, sL_1]; exact h5) (fun q => ?_) (by rw [hr, zru_go (by omega) hp])
      have hb := ht x1 (by omega) (by omega)
      rw [e9, sL_eq, h7 (by omega), zof_iz ⟨by omega, by omega⟩, show (x1 + 1 - ztq t n x).toNat = (x1 - ztq t n x).toNat + 1 by omega]
      show _ = Int64.ofInt (27 * zthh t (ztq t n x) (x1 - ztq t n x).toNat + (t (ztq t n x + ((x1 - ztq t n x).toNat : Nat)) - 96))
      rw [show ztq t n x + (((x1 - ztq t n x).toNat : Nat) : Int) = x1 by omega, ← Int.add_sub_assoc, Int64.ofInt_sub, Int64.ofInt_add, Int64.ofInt_mul]
      rfl
    · have hp : ¬ zle t x1 = true := fun q => hc (of_decide_eq_true q)
      rw [zru_no hp] at hr
      exact ⟨⟨by omega, by omega⟩, fun h8 m4 e4 _ m6 e6 _ => fin x1 m' h0 hF h4 h5 h7 hr _ m4 (by rw [if_pos h8]) e4 m6 e6, fun h8 m4 e4 _ m6 e6 _ => fin x1 m' h0 hF h4 h5 h7 hr _ m4 (by rw [if_neg h8]) e4 m6 e6⟩
theorem t_adv_num (hn : 0 ≤ n ∧ n ≤ 220) (ht : ∀ k, 0 ≤ k → k < n → 0 ≤ t k ∧ t k ≤ 255) (hT : ∀ k, m.1 111 k = t k) (hN : m.1 98 23 = n) (hx : 0 ≤ x ∧ x ≤ n) (hq : ¬ n ≤ ztq t n x) (hl : (48 ≤ t (ztq t n x) ∧ t (ztq t n x) ≤ 57)) :
    ∀ (g : Nat) (x1 : Int), x1 + g = n → ztq t n x ≤ x1 → ∀ m', zFl zAv m m' → m'.1 98 24 = 2 → m'.1 98 25 = ztq t n x → (x1 - ztq t n x ≤ 3 → m'.2.1 98 27 = Int64.ofInt (zdn t (ztq t n x) (x1 - ztq t n x).toNat)) → zru (zdi t) n (ztq t n x) = zru (zdi t) n x1 → zV K mX10_advance (d + 2) 181 [(0, rr K 98), (1, .int (iz x1))] [] m' (fun _ m2 => zFl zAv m m2 ∧ zRT m2 t n x) := by
  have hqb := ztq_b (t := t) hx.2
  have fin : ∀ (x1 : Int) (m' : zM), ztq t n x ≤ x1 → zFl zAv m m' → m'.1 98 24 = 2 → m'.1 98 25 = ztq t n x → (x1 - ztq t n x ≤ 3 → m'.2.1 98 27 = Int64.ofInt (zdn t (ztq t n x) (x1 - ztq t n x).toNat)) → zru (zdi t) n (ztq t n x) = x1 → ∀ m6, m6 = sI m' 98 26 x1 → zFl zAv m m6 ∧ zRT m6 t n x := by
    intro x1 m' h0 hF h4 h5 h7 hr m6 e6
    refine ⟨hF.put e6 ⟨rfl, by omega, by omega⟩, zRT.num hx.2 hq hl ?_ ?_ ?_ ?_⟩
    · rw [e6, sI_ne (by omega)]; exact h5
    · rw [e6, sI_eq, hr]
    · rw [e6, sI_ne (by omega)]; exact h4
    · rw [e6, sI_2, hr]; exact h7
  intro g
  induction g with
  | zero =>
    intro x1 hg h0 m' hF h4 h5 h7 hr
    have e23 : m'.1 98 23 = n := by rw [hF.1 98 23 (by unfold zAv; omega)]; exact hN
    rw [zru_end (p := zdi t) (show n ≤ x1 by omega)] at hr
    refine vc_X10_advance_181 (d := d) x1 m' ⟨by omega, by omega⟩ (fun _ => ?_)
    rw [e23]
    exact ⟨fun _ m6 e6 _ => fin x1 m' h0 hF h4 h5 h7 hr m6 e6, fun q => absurd (show n ≤ x1 by omega) q⟩
  | succ g ih =>
    intro x1 hg h0 m' hF h4 h5 h7 hr
    have e23 : m'.1 98 23 = n := by rw [hF.1 98 23 (by unfold zAv; omega)]; exact hN
    have e1 : m'.1 111 x1 = t x1 := by rw [hF.1 111 x1 (by unfold zAv; omega)]; exact hT x1
    refine vc_X10_advance_181 (d := d) x1 m' ⟨by omega, by omega⟩ (fun _ => ?_)
    rw [e23, h5, e1]
    refine ⟨fun q => absurd q (by omega), fun _ => ⟨by omega, by omega, fun hc => ⟨⟨by omega, by omega⟩, fun h8 m9 e9 _ => ?_, fun h8 m9 e9 _ => ?_⟩, fun hc => ?_⟩⟩
    · have hp : zdi t x1 = true := decide_eq_true hc
      refine ih (x1 + 1) (by omega) (by omega) m9 (hF.putL e9 ⟨rfl, by omega, by omega⟩) (by rw [e9, sL_1]; exact h4) (by rw [e9, sL_1]; exact h5) (fun q => by omega) (by rw [hr, zru_go (by omega) hp])
    · have hp : zdi t x1 = true := decide_eq_true hc
      refine ih (x1 + 1) (by omega) (by omega) m9 (hF.putL e9 ⟨rfl, by omega, by omega⟩) (by rw [e9, sL_1]; exact h4) (by rw [e9, sL_1]; exact h5) (fun q => ?_) (by rw [hr, zru_go (by omega) hp])
      have hb := ht x1 (by omega) (by omega)
      rw [e9, sL_eq, h7 (by omega), zof_iz ⟨by omega, by omega⟩, show (x1 + 1 - ztq t n x).toNat = (x1 - ztq t n x).toNat + 1 by omega]
      show _ = Int64.ofInt (10 * zdn t (ztq t n x) (x1 - ztq t n x).toNat + (t (ztq t n x + ((x1 - ztq t n x).toNat : Nat)) - 48))
      rw [show ztq t n x + (((x1 - ztq t n x).toNat : Nat) : Int) = x1 by omega, ← Int.add_sub_assoc, Int64.ofInt_sub, Int64.ofInt_add, Int64.ofInt_mul]
      rfl
    · have hp : ¬ zdi t x1 = true := fun q => hc (of_decide_eq_true q)
      rw [zru_no hp] at hr
      exact fun m6 e6 _ => fin x1 m' h0 hF h4 h5 h7 hr m6 e6
theorem t_adv_5 (hn : 0 ≤ n ∧ n ≤ 220) (ht : ∀ k, 0 ≤ k → k < n → 0 ≤ t k ∧ t k ≤ 255) (hT : ∀ k, m.1 111 k = t k) (hN : m.1 98 23 = n) (hx : 0 ≤ x ∧ x ≤ n) :
    ∀ (g : Nat) (x1 : Int), x1 + g = n → x ≤ x1 → ztq t n x = zru (zbl t) n x1 → zV K mX10_advance (d + 2) 5 [(0, rr K 98), (1, .int (iz x1))] [] m (fun _ m2 => zFl zAv m m2 ∧ zRT m2 t n x) := by
  intro g
  induction g with
  | zero =>
    intro x1 hg h0 hr
    rw [zru_end (p := zbl t) (show n ≤ x1 by omega)] at hr
    refine vc_X10_advance_5 (d := d) x1 m ⟨by omega, by omega⟩ (fun _ => ?_)
    rw [hN]
    refine ⟨fun _ m2 e2 _ m4 e4 _ => ?_, fun q => absurd (show n ≤ x1 by omega) q⟩
    have e23 : m4.1 98 23 = n := by rw [e4, sL_1, e2, sI_ne (by omega)]; exact hN
    rw [e23]
    refine ⟨fun _ m5 e5 _ m6 e6 _ => ⟨(((zFl.rf.put e2 ⟨rfl, by omega, by omega⟩).putL e4 ⟨rfl, by omega, by omega⟩).put e5 ⟨rfl, by omega, by omega⟩).put e6 ⟨rfl, by omega, by omega⟩, zRT.end_ (by omega) ?_ ?_ ?_⟩, fun q => absurd (by omega) q⟩
    · rw [e6, sI_ne (by omega), e5, sI_ne (by omega), e4, sL_1, e2, sI_eq, hr]
    · rw [e6, sI_eq, hr]
    · rw [e6, sI_ne (by omega), e5, sI_eq]
  | succ g ih =>
    intro x1 hg h0 hr
    refine vc_X10_advance_5 (d := d) x1 m ⟨by omega, by omega⟩ (fun _ => ?_)
    rw [hN, hT x1]
    refine ⟨fun q => absurd q (by omega), fun _ => ⟨by omega, by omega, fun hc => ih (x1 + 1) (by omega) (by omega) (by rw [hr, zru_go (by omega) (decide_eq_true hc)]), fun hc m2 e2 _ m4 e4 _ => ?_⟩⟩
    rw [zru_no (p := zbl t) (fun q => hc (of_decide_eq_true q))] at hr
    have e23 : m4.1 98 23 = n := by rw [e4, sL_1, e2, sI_ne (by omega)]; exact hN
    have e1 : m4.1 111 x1 = t x1 := by rw [e4, sL_1, e2, sI_ne (by omega)]; exact hT x1
    have e25 : m4.1 98 25 = ztq t n x := by rw [e4, sL_1, e2, sI_eq, hr]
    have hF : zFl zAv m m4 := (zFl.rf.put e2 ⟨rfl, by omega, by omega⟩).putL e4 ⟨rfl, by omega, by omega⟩
    have e27 : m4.2.1 98 27 = 0 := by rw [e4, sL_eq]
    have hb := ht x1 (by omega) (by omega)
    have hz : (x1 - ztq t n x).toNat = 0 := by omega
    have hi : t (ztq t n x) = t x1 := by rw [hr]
    rw [e23, e1]
    refine ⟨fun q => absurd q (by omega), fun _ => ⟨fun hl m5 e5 _ => ?_, fun hl => ⟨fun hdg m5 e5 _ => ?_, fun hdg m5 e5 _ m6 e6 _ => ⟨⟨by omega, by omega⟩, fun m7 e7 _ => ?_⟩⟩⟩⟩
    · refine t_adv_word hn ht hT hN hx (by omega) (by rw [hi]; exact hl) (g + 1) x1 hg (by omega) m5 (hF.put e5 ⟨rfl, by omega, by omega⟩) (by rw [e5, sI_eq]) (by rw [e5, sI_ne (by omega)]; exact e25) (fun _ => ?_) (by rw [hr])
      rw [hz, e5, sI_2, e27]; rfl
    · refine t_adv_num hn ht hT hN hx (by omega) (by rw [hi]; exact hdg) (g + 1) x1 hg (by omega) m5 (hF.put e5 ⟨rfl, by omega, by omega⟩) (by rw [e5, sI_eq]) (by rw [e5, sI_ne (by omega)]; exact e25) (fun _ => ?_) (by rw [hr])
      rw [hz, e5, sI_2, e27]; rfl
    · have e15 : m5.1 111 x1 = t x1 := by rw [e5, sI_ne (by omega)]; exact e1
      rw [e15] at e6
      refine ⟨((hF.put e5 ⟨rfl, by omega, by omega⟩).putL e6 ⟨rfl, by omega, by omega⟩).put e7 ⟨rfl, by omega, by omega⟩, zRT.mark (by omega) (by rw [hi]; exact hl) (by rw [hi]; exact hdg) (by rw [hi]; exact ⟨by omega, by omega⟩) ?_ ?_ ?_ ?_⟩
      · rw [e7, sI_ne (by omega), e6, sL_1, e5, sI_ne (by omega)]; exact e25
      · rw [e7, sI_eq, hr]
      · rw [e7, sI_ne (by omega), e6, sL_1, e5, sI_eq]
      · rw [e7, sI_2, e6, sL_eq, hi]
theorem c_X10_advance (hn : 0 ≤ n ∧ n ≤ 220) (ht : ∀ k, 0 ≤ k → k < n → 0 ≤ t k ∧ t k ≤ 255) (hT : ∀ k, m.1 111 k = t k) (hN : m.1 98 23 = n) (hx : 0 ≤ x ∧ x ≤ n) (h6 : m.1 98 26 = x) : zCt K (d + 2) mX10_advance [rr K 98] m (fun _ m2 => zFl zAv m m2 ∧ zRT m2 t n x) := by
  refine zCt.of (by decide) (Nat.le_of_ble_eq_true rfl) (vc_X10_advance_0 (d := d) m (fun _ v1 e1 => ?_))
  rw [e1, h6]
  exact t_adv_5 hn ht hT hN hx (n - x).toNat x (by omega) (Int.le_refl _) rfl
end ADV
