/-! ===== the reference: flows, ticks ===== -/
theorem inR_b {z A : Int} (h0 : -A ≤ z) (h1 : z ≤ A) (hA : decide (A ≤ 2147483647) = true) : inR z := by
  have := of_decide_eq_true hA
  exact ⟨by omega, by omega⟩
section MF
variable {K : zCx} {P : F2} {c p : Int} {m0 : zM}
theorem wf_part (hW : zWf P) (h0 : 0 ≤ p) (h1 : p < P 98 4) : zPartOk P p := hW.2.2.2.2.2.2.1 p h0 h1
theorem wf_twin (hW : zWf P) (h0 : 0 ≤ p) (h1 : p < P 98 4) : 1 ≤ zp P (if zp P p 0 = 3 then zp P p 9 else p) 3 ∧ zp P (if zp P p 0 = 3 then zp P p 9 else p) 3 ≤ 9 := by
  have hp := wf_part hW h0 h1
  split
  · have h3 := hp.2.2.2.2.2.2.2 (by assumption)
    exact (wf_part hW h3.1 (by omega)).2.2.2.1
  · exact hp.2.2.2.1
theorem znum_le (hW : zWf P) (h0 : 0 ≤ p) (h1 : p < P 98 4) (hk : zp P p 0 ≤ 3) (hc : 0 ≤ c ∧ c ≤ 8) {e : Int} (he : -20 ≤ e ∧ e ≤ 20) : -5 ≤ znum P c p e ∧ znum P c p e ≤ 35 := by
  have hp := (wf_part hW h0 h1).2.2.2.2.2.1 hk
  have hv : 0 ≤ (if 0 ≤ e then e else -e) ∧ (if 0 ≤ e then e else -e) ≤ 20 := by split <;> omega
  have ht := hW.2.2.2.2.2.1 (21 * zp P p 5 + (if 0 ≤ e then e else -e)) (by omega) (by omega)
  have h3 : c / 3 = 0 ∨ c / 3 = 1 ∨ c / 3 = 2 := by omega
  unfold znum
  rcases h3 with h | h | h <;> rw [h] <;> omega
theorem t_flows_180 {d : Nat} {Q : Int → zM → Prop} {e n : Int} (hP : pv m0.1 = P) (hW : zWf P) (h0 : 0 ≤ p) (h1 : p < P 98 4) (hc : 0 ≤ c ∧ c ≤ 8) (hlv : ∀ k, 0 ≤ k → k ≤ 4 → 0 ≤ m0.1 106 k ∧ m0.1 106 k ≤ 20) (hk : zp P p 0 ≤ 3) (he : -20 ≤ e ∧ e ≤ 20) (hn : 0 ≤ n ∧ n ≤ 315) (hQ : Q (zfl3 P (m0.1 106) c p e n) m0) :
    zV K mX10_flows (d + 2) 180 [(0, rr K 98), (1, .int (iz p)), (2, .int (iz c)), (3, .int (iz (zp P p 0))), (4, .int (iz e)), (5, .int (iz n))] [] m0 Q := by
  obtain ⟨g0, g1, g2, g3, g4, g5, g6, g7⟩ := wf_part hW h0 h1
  have h4 := hW.2.2.2.1
  have hz : ∀ p k, m0.1 100 (10 * p + k) = zp P p k := fun p k => pv_r hP (by omega) _
  refine vc_X10_flows_180 p c _ e n m0 (inR_b (A := 10) (by omega) (by omega) rfl) (inR_b (A := 10) (by omega) (by omega) rfl) (inR_b (A := 10) (by omega) (by omega) rfl) (inR_b (A := 20) (by omega) (by omega) rfl) (inR_b (A := 315) (by omega) (by omega) rfl) (fun hm => ?_)
  simp only [hz, zmod3 hc]
  have hf := zfac (c := c) (g5 hk).2.2
  have q1 := zmulb hn.1 hn.2 hf.1 hf.2
  have q2 := ztd q1.1 q1.2 10 (by decide)
  refine ⟨by omega, by omega, inR_b (A := 4725) (by omega) (by omega) rfl, fun v6 e6 v8 e8 => ⟨fun k1 => ?_, fun k1 => ?_⟩⟩
  · have hv : -4725 ≤ v8 ∧ v8 ≤ 4725 := by rw [e8, e6]; split <;> omega
    refine ⟨inR_b hv.1 hv.2 rfl, ?_⟩
    rw [zfl3, if_pos k1, ← e6, ← e8] at hQ
    exact hQ
  · have hg := g6 (by omega)
    refine ⟨by omega, by omega, by omega, by omega, fun v17 e17 v19 e19 => ?_⟩
    have hl := hlv _ hg.1 hg.2
    have hv : -4725 ≤ v8 ∧ v8 ≤ 4725 := by rw [e8, e6]; split <;> omega
    have hw : 0 ≤ v19 ∧ v19 ≤ 10 := by rw [e19, e17]; split <;> omega
    have h7 := zmula hv.1 hv.2 hw.1 hw.2
    refine ⟨inR_b h7.1 h7.2 rfl, ?_⟩
    rw [zfl3, if_neg k1, ← e6, ← e8, ← e17, ← e19] at hQ
    exact hQ
theorem t_flows_154 {d : Nat} {Q : Int → zM → Prop} {e n : Int} (hP : pv m0.1 = P) (hW : zWf P) (h0 : 0 ≤ p) (h1 : p < P 98 4) (hc : 0 ≤ c ∧ c ≤ 8) (hlv : ∀ k, 0 ≤ k → k ≤ 4 → 0 ≤ m0.1 106 k ∧ m0.1 106 k ≤ 20) (hk : zp P p 0 ≤ 3) (he : -20 ≤ e ∧ e ≤ 20) (hn : 0 ≤ n ∧ n ≤ 35) (hQ : Q (zfl2 P (m0.1 106) c p e n) m0) :
    zV K mX10_flows (d + 2) 154 [(0, rr K 98), (1, .int (iz p)), (2, .int (iz c)), (3, .int (iz (zp P p 0))), (4, .int (iz e)), (5, .int (iz n))] [] m0 Q := by
  obtain ⟨g0, g1, g2, g3, g4, g5, g6, g7⟩ := wf_part hW h0 h1
  have h4 := hW.2.2.2.1
  have hz : ∀ p k, m0.1 100 (10 * p + k) = zp P p k := fun p k => pv_r hP (by omega) _
  have ht := wf_twin hW h0 h1
  have q1 := zmulb hn.1 hn.2 (by omega) ht.2
  refine vc_X10_flows_154 p c _ e n m0 (inR_b (A := 10) (by omega) (by omega) rfl) (inR_b (A := 10) (by omega) (by omega) rfl) (inR_b (A := 10) (by omega) (by omega) rfl) (inR_b (A := 20) (by omega) (by omega) rfl) (inR_b (A := 315) (by omega) (by omega) rfl) (fun hm => ?_)
  simp only [hz]
  unfold zfl2 at hQ
  refine ⟨fun k3 => ?_, fun k3 => ?_⟩
  · have hw := g7 k3
    rw [if_pos k3] at hQ q1
    refine ⟨by omega, by omega, by omega, by omega, fun v ev => ?_⟩
    subst ev
    exact t_flows_180 hP hW h0 h1 hc hlv hk he q1 hQ
  · rw [if_neg k3] at hQ q1
    refine ⟨by omega, by omega, fun v ev => ?_⟩
    subst ev
    exact t_flows_180 hP hW h0 h1 hc hlv hk he q1 hQ
theorem t_flows_92 {d : Nat} {Q : Int → zM → Prop} {e : Int} (hP : pv m0.1 = P) (hW : zWf P) (h0 : 0 ≤ p) (h1 : p < P 98 4) (hc : 0 ≤ c ∧ c ≤ 8) (hlv : ∀ k, 0 ≤ k → k ≤ 4 → 0 ≤ m0.1 106 k ∧ m0.1 106 k ≤ 20) (hk : zp P p 0 ≤ 3) (he : -20 ≤ e ∧ e ≤ 20) (hQ : Q (zfl1 P (m0.1 106) c p e) m0) :
    zV K mX10_flows (d + 2) 92 [(0, rr K 98), (1, .int (iz p)), (2, .int (iz c)), (3, .int (iz (zp P p 0))), (4, .int (iz e))] [] m0 Q := by
  obtain ⟨g0, g1, g2, g3, g4, g5, g6, g7⟩ := wf_part hW h0 h1
  have h4 := hW.2.2.2.1
  have h2 := hW.2.2.1
  have hz : ∀ p k, m0.1 100 (10 * p + k) = zp P p k := fun p k => pv_r hP (by omega) _
  have hy : ∀ k, m0.1 99 k = P 99 k := fun k => pv_r hP (by omega) _
  have hn := znum_le hW h0 h1 hk hc he
  have hl := (g5 hk).1
  refine vc_X10_flows_92 p c _ e m0 (inR_b (A := 10) (by omega) (by omega) rfl) (inR_b (A := 10) (by omega) (by omega) rfl) (inR_b (A := 10) (by omega) (by omega) rfl) (inR_b (A := 20) (by omega) (by omega) rfl) (fun hm => ?_)
  simp only [hz, hy, zdiv3 hc]
  refine ⟨by omega, by omega, fun v5 e5 => ?_⟩
  have hv : 0 ≤ v5 ∧ v5 ≤ 20 := by rw [e5]; split <;> omega
  refine ⟨by omega, by omega, by omega, by omega, fun v13 e13 => ?_⟩
  rw [e5] at e13
  have e13 : v13 = znum P c p e := e13
  unfold zfl1 at hQ
  rw [← e13] at hQ hn
  refine ⟨inR_b (A := 35) (by omega) (by omega) rfl, fun q => ?_, fun q v17 e17 => ?_⟩
  · rw [if_pos q] at hQ
    exact t_flows_154 hP hW h0 h1 hc hlv hk he (by omega) hQ
  · rw [if_neg q, ← e17] at hQ
    exact t_flows_154 hP hW h0 h1 hc hlv hk he (by rw [e17]; split <;> omega) hQ
/-- flows(p, corner) at the levels that stand -/
theorem c_X10_flows {d : Nat} (hP : pv m0.1 = P) (hW : zWf P) (h0 : 0 ≤ p) (h1 : p < P 98 4) (hc : 0 ≤ c ∧ c ≤ 8) (hlv : ∀ k, 0 ≤ k → k ≤ 4 → 0 ≤ m0.1 106 k ∧ m0.1 106 k ≤ 20) : zCt K (d + 2) mX10_flows [rr K 98, .int (iz p), .int (iz c)] m0 (fun r m1 => r = zflow P (m0.1 106) c p ∧ m1 = m0) := by
  obtain ⟨g0, g1, g2, g3, g4, g5, g6, g7⟩ := wf_part hW h0 h1
  have h4 := hW.2.2.2.1
  have hz : ∀ p k, m0.1 100 (10 * p + k) = zp P p k := fun p k => pv_r hP (by omega) _
  refine zCt.of (by decide) (Nat.le_of_ble_eq_true rfl) (vc_X10_flows_0 (d := d) p c m0 (inR_b (A := 10) (by omega) (by omega) rfl) (inR_b (A := 10) (by omega) (by omega) rfl) (fun hm => ?_))
  simp only [hz]
  have l1 := hlv _ g1.1 g1.2
  have l2 := hlv _ g2.1 g2.2
  refine ⟨by omega, by omega, fun v5 e5 => ⟨by omega, by omega, by omega, by omega, by omega, by omega, by omega, by omega, fun v19 e19 => ⟨by omega, by omega, ?_⟩⟩⟩
  subst e5
  have hv : -20 ≤ v19 ∧ v19 ≤ 20 := by omega
  have hf : zflow P (m0.1 106) c p = zfl0 P (m0.1 106) c p v19 := by rw [e19]; rfl
  rw [hf]
  unfold zfl0
  refine ⟨fun q => ?_, fun q => ?_⟩
  · simp only [if_pos q]
    refine ⟨fun k4 => ⟨fun _ => ⟨(if_pos k4).symm, trivial⟩, fun z => absurd k4 z⟩, fun k4 => ⟨fun k5 => ⟨fun z => absurd z k4, fun _ => ⟨by omega, by omega, ?_, trivial⟩⟩, fun k5 => ?_⟩⟩
    · rw [if_neg k4, if_pos k5]
    · refine t_flows_92 hP hW h0 h1 hc hlv (by omega) hv ⟨?_, rfl⟩
      rw [if_neg k4, if_neg k5]
  · simp only [if_neg q]
    refine ⟨by omega, by omega, fun k1 => ⟨(if_pos k1).symm, trivial⟩, fun k1 => ⟨fun k4 => ⟨?_, trivial⟩, fun k4 => ⟨inR_b (A := 800) (by omega) (by omega) rfl, ?_, trivial⟩⟩⟩
    · rw [if_neg k1, if_pos k4]
    · rw [if_neg k1, if_neg k4]
end MF
