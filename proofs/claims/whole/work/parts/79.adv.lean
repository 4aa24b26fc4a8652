/-! ===== the reference's token ===== -/
def zmks : List Int := [40, 41, 43, 59, 60, 61, 62]
def zRT (m : zM) (t : Int → Int) (n x : Int) : Prop := m.1 98 25 = ztq t n x ∧ m.1 98 26 = zte t n x ∧ (m.1 98 24 = 0 ↔ zts t n x = 0) ∧ (∀ i : Nat, i < 9 → ((m.1 98 24 = 1 ∧ m.2.1 98 27 = Int64.ofInt (zwh i)) ↔ zts t n x = 10 + i)) ∧ (∀ c, c ∈ zmks → ((m.1 98 24 = 3 ∧ m.2.1 98 27 = (iz c).toInt64) ↔ zts t n x = zsgn c)) ∧ ((m.1 98 24 = 2 ∧ m.1 98 26 - m.1 98 25 ≤ 3) ↔ zts t n x = 2) ∧ (zts t n x = 2 → (m.2.1 98 27).toInt32.toInt = ztv t n x)
theorem zof_inj {a b : Int} (ha : 0 ≤ a ∧ a < 1000000000000) (hb : 0 ≤ b ∧ b < 1000000000000) (h : Int64.ofInt a = Int64.ofInt b) : a = b := by
  have e := congrArg Int64.toInt h
  rw [Int64.toInt_ofInt_of_le (by omega) (by omega), Int64.toInt_ofInt_of_le (by omega) (by omega)] at e
  exact e
theorem zof_iz {a : Int} (h : inR a) : (iz a).toInt64 = Int64.ofInt a := by
  have e := zlg_int h
  rw [← Int64.ofInt_toInt (iz a).toInt64, e]
theorem zof_32 {a : Int} (h : inR a) : (Int64.ofInt a).toInt32.toInt = a := by rw [← zof_iz h]; exact zlg_back h
theorem ztwd_i {h : Int} {i : Nat} (hi : i < 9) : ztwd h = 10 + i ↔ h = zwh i := by
  have hc : i = 0 ∨ i = 1 ∨ i = 2 ∨ i = 3 ∨ i = 4 ∨ i = 5 ∨ i = 6 ∨ i = 7 ∨ i = 8 := by omega
  rcases hc with rfl | rfl | rfl | rfl | rfl | rfl | rfl | rfl | rfl <;> (first | rw [show zwh 0 = 459791 from rfl] | rw [show zwh 1 = 423 from rfl] | rw [show zwh 2 = 1111 from rfl] | rw [show zwh 3 = 10631 from rfl] | rw [show zwh 4 = 286610 from rfl] | rw [show zwh 5 = 127274 from rfl] | rw [show zwh 6 = 315743 from rfl] | rw [show zwh 7 = 361240 from rfl] | rw [show zwh 8 = 121882 from rfl]) <;> (unfold ztwd; constructor <;> intro q) <;> first | (subst q; rfl) | ((repeat' split at q) <;> omega)
theorem zpw27 : ∀ k : Nat, k < 9 → (27 : Int) ^ k ≤ 27 ^ 8 := by decide +kernel
theorem zpw10 : ∀ k : Nat, k < 4 → (10 : Int) ^ k ≤ 10 ^ 3 := by decide +kernel
theorem zsgn_i {a c : Int} (hc : c ∈ zmks) : zsgn a = zsgn c ↔ a = c := by
  have hc : c = 40 ∨ c = 41 ∨ c = 43 ∨ c = 59 ∨ c = 60 ∨ c = 61 ∨ c = 62 := by
    simp only [zmks, List.mem_cons, List.mem_nil_iff, or_false] at hc
    exact hc
  constructor
  · intro h
    rcases hc with rfl | rfl | rfl | rfl | rfl | rfl | rfl <;> (unfold zsgn at h; simp only [if_pos, if_neg] at h; (repeat' split at h) <;> omega)
  · intro h; rw [h]
theorem zsgn_3 {c : Int} (hc : c ∈ zmks) : 3 ≤ zsgn c ∧ zsgn c ≤ 9 := by
  have hc : c = 40 ∨ c = 41 ∨ c = 43 ∨ c = 59 ∨ c = 60 ∨ c = 61 ∨ c = 62 := by
    simp only [zmks, List.mem_cons, List.mem_nil_iff, or_false] at hc
    exact hc
  rcases hc with rfl | rfl | rfl | rfl | rfl | rfl | rfl <;> decide
theorem zmk_r {c : Int} (hc : c ∈ zmks) : inR c := by
  have hc : c = 40 ∨ c = 41 ∨ c = 43 ∨ c = 59 ∨ c = 60 ∨ c = 61 ∨ c = 62 := by
    simp only [zmks, List.mem_cons, List.mem_nil_iff, or_false] at hc
    exact hc
  exact ⟨by omega, by omega⟩
section RT
variable {m : zM} {t : Int → Int} {n x : Int}
theorem zRT.end_ (hq : n ≤ ztq t n x) (h5 : m.1 98 25 = ztq t n x) (h6 : m.1 98 26 = ztq t n x) (h4 : m.1 98 24 = 0) : zRT m t n x := by
  have e := zts_0.mpr hq
  refine ⟨h5, ?_, ⟨fun _ => e, fun _ => h4⟩, fun i hi => ⟨fun q => by omega, fun q => by omega⟩, fun c hc => ⟨fun q => by omega, fun q => by have := zsgn_3 hc; omega⟩, ⟨fun q => by omega, fun q => by omega⟩, fun q => by omega⟩
  rw [h6]; unfold zte; rw [if_pos hq]
theorem zRT.mark (hq : ¬ n ≤ ztq t n x) (hl : ¬ (97 ≤ t (ztq t n x) ∧ t (ztq t n x) ≤ 122)) (hd : ¬ (48 ≤ t (ztq t n x) ∧ t (ztq t n x) ≤ 57)) (hr : inR (t (ztq t n x))) (h5 : m.1 98 25 = ztq t n x) (h6 : m.1 98 26 = ztq t n x + 1) (h4 : m.1 98 24 = 3) (h7 : m.2.1 98 27 = (iz (t (ztq t n x))).toInt64) : zRT m t n x := by
  have hl' : ¬ zle t (ztq t n x) = true := fun q => hl (of_decide_eq_true q)
  have hd' : ¬ zdi t (ztq t n x) = true := fun q => hd (of_decide_eq_true q)
  have ee : zte t n x = ztq t n x + 1 := by unfold zte; rw [if_neg hq, if_neg hd', if_neg hl']
  have es : zts t n x = zsgn (t (ztq t n x)) := by unfold zts; rw [if_neg hq, if_neg hd', if_neg hl']
  have hb := zsgn_b (t (ztq t n x))
  refine ⟨h5, by rw [h6, ee], ⟨fun q => by omega, fun q => by omega⟩, fun i hi => ⟨fun q => by omega, fun q => by omega⟩, fun c hc => ?_, ⟨fun q => by omega, fun q => by omega⟩, fun q => by omega⟩
  rw [es, zsgn_i hc, h4, h7]
  constructor
  · intro q
    have e := congrArg Int64.toInt q.2
    rw [zlg_int hr, zlg_int (zmk_r hc)] at e
    exact e
  · intro q; rw [q]; exact ⟨rfl, rfl⟩
theorem zRT.word (hn : x ≤ n) (hq : ¬ n ≤ ztq t n x) (hl : (97 ≤ t (ztq t n x) ∧ t (ztq t n x) ≤ 122)) (h5 : m.1 98 25 = ztq t n x) (h6 : m.1 98 26 = zru (zle t) n (ztq t n x)) (h4 : m.1 98 24 = 1) (h7 : m.2.1 98 27 = if zru (zle t) n (ztq t n x) - ztq t n x ≤ 8 then Int64.ofInt (zthh t (ztq t n x) (zru (zle t) n (ztq t n x) - ztq t n x).toNat) else 0) : zRT m t n x := by
  have hl' : zle t (ztq t n x) = true := decide_eq_true hl
  have hd' : ¬ zdi t (ztq t n x) = true := fun q => by have := of_decide_eq_true q; omega
  have ee : zte t n x = zru (zle t) n (ztq t n x) := by unfold zte; rw [if_neg hq, if_neg hd', if_pos hl']
  have es : zts t n x = ztwd (zthh t (ztq t n x) (zte t n x - ztq t n x).toNat) := by unfold zts; rw [if_neg hq, if_neg hd', if_pos hl']
  have hb := ztwd_b (zthh t (ztq t n x) (zte t n x - ztq t n x).toNat)
  have hru := zru_b (p := zle t) (ztq_b (t := t) hn).2
  have hle := hru.2.2
  refine ⟨h5, by rw [h6, ee], ⟨fun q => by omega, fun q => by omega⟩, fun i hi => ?_, fun c hc => ⟨fun q => by omega, fun q => by have := zsgn_3 hc; omega⟩, ⟨fun q => by omega, fun q => by omega⟩, fun q => by omega⟩
  rw [es, ztwd_i hi, h4, h7, ee]
  have hw := zwh_c i hi
  by_cases h8 : zru (zle t) n (ztq t n x) - ztq t n x ≤ 8
  · rw [if_pos h8]
    have hp := zthh_pos (t := t) (q := ztq t n x) (k := (zru (zle t) n (ztq t n x) - ztq t n x).toNat) (fun j h1 h2 => hle j h1 (by omega))
    have hpw : (27 : Int) ^ (zru (zle t) n (ztq t n x) - ztq t n x).toNat ≤ 27 ^ 8 := zpw27 _ (by omega)
    have : (27 : Int) ^ 8 = 282429536481 := by decide
    constructor
    · intro q; exact zof_inj (by omega) (by omega) q.2
    · intro q; rw [q]; exact ⟨rfl, rfl⟩
  · rw [if_neg h8]
    have h5' := zthh_mono (t := t) (q := ztq t n x) (k := 5) (k' := (zru (zle t) n (ztq t n x) - ztq t n x).toNat) (fun j h1 h2 => hle j h1 (by omega)) (by omega)
    have c0 := of_decide_eq_true (hle (ztq t n x + (0 : Nat)) (by omega) (by omega))
    have c1 := of_decide_eq_true (hle (ztq t n x + (1 : Nat)) (by omega) (by omega))
    have c2 := of_decide_eq_true (hle (ztq t n x + (2 : Nat)) (by omega) (by omega))
    have c3 := of_decide_eq_true (hle (ztq t n x + (3 : Nat)) (by omega) (by omega))
    have c4 := of_decide_eq_true (hle (ztq t n x + (4 : Nat)) (by omega) (by omega))
    have e5 : zthh t (ztq t n x) 5 = 27 * (27 * (27 * (27 * (27 * 0 + (t (ztq t n x + (0 : Nat)) - 96)) + (t (ztq t n x + (1 : Nat)) - 96)) + (t (ztq t n x + (2 : Nat)) - 96)) + (t (ztq t n x + (3 : Nat)) - 96)) + (t (ztq t n x + (4 : Nat)) - 96) := rfl
    constructor
    · intro q
      have := zof_inj (a := 0) (b := zwh i) (by omega) (by omega) q.2
      omega
    · intro q; omega
theorem zRT.num (hn : x ≤ n) (hq : ¬ n ≤ ztq t n x) (hd : (48 ≤ t (ztq t n x) ∧ t (ztq t n x) ≤ 57)) (h5 : m.1 98 25 = ztq t n x) (h6 : m.1 98 26 = zru (zdi t) n (ztq t n x)) (h4 : m.1 98 24 = 2) (h7 : zru (zdi t) n (ztq t n x) - ztq t n x ≤ 3 → m.2.1 98 27 = Int64.ofInt (zdn t (ztq t n x) (zru (zdi t) n (ztq t n x) - ztq t n x).toNat)) : zRT m t n x := by
  have hd' : zdi t (ztq t n x) = true := decide_eq_true hd
  have ee : zte t n x = zru (zdi t) n (ztq t n x) := by unfold zte; rw [if_neg hq, if_pos hd']
  have es : zts t n x = if zte t n x - ztq t n x ≤ 3 then 2 else 1 := by unfold zts; rw [if_neg hq, if_pos hd']
  have hru := zru_b (p := zdi t) (ztq_b (t := t) hn).2
  have h12 : zts t n x = 1 ∨ zts t n x = 2 := by rw [es]; split <;> omega
  refine ⟨h5, by rw [h6, ee], ⟨fun q => by omega, fun q => by omega⟩, fun i hi => ⟨fun q => by omega, fun q => by omega⟩, fun c hc => ⟨fun q => by omega, fun q => by have := zsgn_3 hc; omega⟩, ?_, fun q => ?_⟩
  · rw [es, h4, h5, h6, ee]
    constructor
    · intro q; rw [if_pos q.2]
    · intro q; refine ⟨rfl, ?_⟩; split at q <;> omega
  · have h3 : zte t n x - ztq t n x ≤ 3 := by rw [es] at q; split at q <;> omega
    rw [ee] at h3
    rw [h7 h3]
    unfold ztv
    rw [if_pos q, ee]
    have hb := zdn_b (t := t) (q := ztq t n x) (k := (zru (zdi t) n (ztq t n x) - ztq t n x).toNat) (fun j h1 h2 => hru.2.2 j h1 (by omega))
    have hpw : (10 : Int) ^ (zru (zdi t) n (ztq t n x) - ztq t n x).toNat ≤ 10 ^ 3 := zpw10 _ (by omega)
    have : (10 : Int) ^ 3 = 1000 := by decide
    exact zof_32 ⟨by omega, by omega⟩
theorem ztv_b (hn : x ≤ n) : 0 ≤ ztv t n x ∧ ztv t n x ≤ 999 := by
  unfold ztv
  split
  · next q =>
    have hz : ¬ n ≤ ztq t n x := fun z => by have := zts_0.mpr z; omega
    have hw := ztwd_b (zthh t (ztq t n x) (zte t n x - ztq t n x).toNat)
    have hs := zsgn_b (t (ztq t n x))
    have hdi : zdi t (ztq t n x) = true ∧ zte t n x - ztq t n x ≤ 3 := by
      unfold zts at q
      rw [if_neg hz] at q
      (repeat' split at q) <;> first | omega | exact ⟨by assumption, by assumption⟩
    have ee : zte t n x = zru (zdi t) n (ztq t n x) := by unfold zte; rw [if_neg hz, if_pos hdi.1]
    have hru := zru_b (p := zdi t) (ztq_b (t := t) hn).2
    have hb := zdn_b (t := t) (q := ztq t n x) (k := (zte t n x - ztq t n x).toNat) (fun j h1 h2 => hru.2.2 j h1 (by rw [ee] at h2; omega))
    have hpw : (10 : Int) ^ (zte t n x - ztq t n x).toNat ≤ 10 ^ 3 := zpw10 _ (by omega)
    have : (10 : Int) ^ 3 = 1000 := by decide
    omega
  · omega
end RT
