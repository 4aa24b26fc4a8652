/-! the law's first steps (text of gen/law99.txt, numbers by gen/build99.py) -/
def zLg (K : zCx) (b L : Nat) (xs : Nat → Int32) (pc : Nat) (loc : List (Nat × Value)) (stk : List Value) (k : Nat) (lI lR : zLl) (c1 c2 : Nat) : Prop :=
  zBd k lI → zBd k lR → ∀ (p : Program) (e : Env) (s : State) (mt : MethodId) (below : List Frame) (meth : Method) (c : Code), lw_At p s mt meth c b L xs → zK K s → s.heap = K.2.2.2.1 → va_AO "SizedParts$Part" s →
    ∀ (H : Heap) (locs : List Loc) (ls : Array Slot), zRn K (zgs (k, lI, lR)) H locs → lv_has ls 4 loc → W p K.1 e room_1 s mt #[Value.ref b] below meth c H locs c1 c2 (lw_Z below #[Value.ref b] s) (F0 mt pc ls stk)
section LG
variable {K : zCx} {b L : Nat} {xs : Nat → Int32} {pc : Nat} {loc : List (Nat × Value)} {stk : List Value} {k : Nat} {lI lR : zLl} {c1 c2 : Nat}
theorem zg_dup {v : Value} (hd : decode code pc = .ok (.dup, 1)) (hc : v.category = 1) (kk : zLg K b L xs (pc + 1) loc (v :: v :: stk) k lI lR c1 c2) : zLg K b L xs pc loc (v :: stk) k lI lR c1 c2 := by
  intro q1 q2 p e s mt below meth c F hK hh hAO H locs ls hR hl
  obtain ⟨hx, hb, hr, hml, hown, hts, hX, hbl, hlk, hgv⟩ := id F
  refine lv_dup hx hb hd hc ?_
  exact kk q1 q2 p e s mt below meth c F hK hh hAO H locs ls hR hl
theorem zg_astore {k4 : Fin 4} {i : Nat} {x : Nat} {loc' : List (Nat × Value)} (hd : decode code pc = .ok (.astore_n k4, 1)) (hi : (k4 : Nat) = i) (hn : i < 4) (hl' : (i, Value.ref x) :: loc.filter (fun q => !(q.1 == i) && !(q.1 + 1 == i && q.2.category == 2)) = loc') (kk : zLg K b L xs (pc + 1) loc' stk k lI lR c1 c2) : zLg K b L xs pc loc (.ref x :: stk) k lI lR c1 c2 := by
  intro q1 q2 p e s mt below meth c F hK hh hAO H locs ls hR hl
  obtain ⟨hx, hb, hr, hml, hown, hts, hX, hbl, hlk, hgv⟩ := id F
  refine lv_astore_n hx hb hd hi hl hn hl' (fun ls hl => ?_)
  exact kk q1 q2 p e s mt below meth c F hK hh hAO H locs ls hR hl
theorem zl_istore_n {m : zM} {k4 : Fin 4} {i : Nat} {x : Int32} {loc' : List (Nat × Value)} (hd : decode code pc = .ok (.istore_n k4, 1)) (hi : (k4 : Nat) = i) (hn : i < 4) (hl' : (i, Value.int x) :: loc.filter (fun q => !(q.1 == i) && !(q.1 + 1 == i && q.2.category == 2)) = loc') (kk : zLj K b L xs (pc + 1) loc' stk m) : zLj K b L xs pc loc (.int x :: stk) m := by
  intro p e s mt below meth c F hK hh H locs ls hR hl
  obtain ⟨hx, hb, hr, hml, hown, hts, hX, hbl, hlk, hgv⟩ := id F
  refine lv_istore_n hx hb hd hi hl hn hl' (fun ls hl => ?_)
  exact kk p e s mt below meth c F hK hh H locs ls hR hl
theorem zg_newO {idx : Nat} (ci N k2 : Nat) (x : Int) (a1 a2 : Nat) (hd : decode code pc = .ok (.new idx, 3)) (hw : zNwO R_law idx ci N) (hsh : zsh x = some (ci + 3, N)) (hc : c1 + 1 ≤ 600000) (hs : c2 + N ≤ 7302250) (hq : zlo k = x ∧ k + 1 = k2 ∧ c1 + 1 = a1 ∧ c2 + N = a2) (kk : zLg K b L xs (pc + 3) loc (rr K x :: stk) k2 lI lR a1 a2) : zLg K b L xs pc loc stk k lI lR c1 c2 := by
  obtain ⟨rfl, rfl, rfl, rfl⟩ := hq
  obtain ⟨C, T, ty, hcl, hin, hini, hu, hty, hC, hk0⟩ := hw
  intro q1 q2 p e s mt below meth c F hK hh hAO H locs ls hR hl
  obtain ⟨hx, hb, hr, hml, hown, hts0, hX, hbl, hlk, hgv⟩ := id F
  have hts : ∀ w ∈ zW, w.before #[Value.ref b] s = true := fun w hw => hts0 w (List.mem_filter.mp hw).1
  obtain ⟨hP, hS, hsz⟩ := id hR
  have hsz : H.size = zB K + k := hsz
  have hKn := hK.1.1 ci _ hC
  refine W.newcK hx hb hown (hts _ hcl) (hts _ hin) (hts _ hini) rfl hd hc hs hKn.2.1 rfl fun H1 kC hkC e1 z1 o1 => ?_
  have hk : ∀ (q : Nat) (x : Nat × va_E), (zws K k (zIu lI) (fun _ _ => 0) (zRu lR))[q]? = some x → H1[x.1]? = H[x.1]? := fun q x hx => o1 x.1 ((hP q x hx).lt)
  have key := kk q1.up q2.up p e s mt below meth c F hK hh hAO H1 locs ls ⟨?_, ⟨Nat.le_trans hS.1 (by omega), fun x h1 h2 => (o1 x (Nat.lt_of_lt_of_le h1 hS.1)).trans (hS.2.1 x h1 h2), hS.2.2⟩, by rw [z1, hsz]; show zB K + k + 1 = zB K + (k + 1); omega⟩ hl
  · have er : rr K (zlo k) = .ref H.size := by rw [hsz]; show Value.ref (zB K + zph (zlo k)) = _; rw [zph_zlo]
    rw [er] at key
    exact key
  · show va_P K.2.1 vwCl (zws K (k + 1) (zIu lI) (fun _ _ => 0) (zRu lR)) H1
    rw [zws_succ]
    refine va_P.app (va_P.kept hP hk) (fun q x hx => ?_)
    have hq : q < 1 := (List.getElem?_eq_some_iff.mp hx).1
    rw [show q = 0 by omega] at hx
    cases hx
    rw [zent_o hsh, ← hsz]
    refine ⟨_, hC, (u_born ty hts hu hKn hkC e1 hty).to (fun j hj => ?_)⟩
    rw [hk0 j hj]
    unfold vp_V
    rw [List.getD_eq_getElem?_getD, List.getElem?_map, List.getElem?_range hj]
    show _ = zsv K (zIu lI) (fun _ _ => 0) (zRu lR) ci (zlo k) j
    unfold zsv
    rw [zIu_0 q1, zRu_0 q2]
    rfl
theorem zg_call {mc : zMi} {idx n c1' c2' d : Nat} {a : Int} {As rest : List Value} {k' : Nat} {lI' lR' : zLl} (a1 a2 : Nat) (hd : decode code pc = .ok (.invokespecial idx, 3)) (hc : zCall R_law idx mc n) (hin : Cond.instanceMethod mc.1 ∈ zW) (hnm : mc.1.name = "<init>") (hret : mc.2.2.2 = none) (hst : stk = As.reverse ++ rr K a :: rest) (hn : As.length = n) (hw : (rest.map fun v => v.category).sum ≤ 8) (hdd : d ≤ 1000) (hM : zCs K d c1' c2' mc (rr K a :: As) k lI lR (k', lI', lR')) (hq : c1 + c1' = a1 ∧ c2 + c2' = a2) (hc1 : c1 + c1' ≤ 600000) (hc2 : c2 + c2' ≤ 7302250) (kk : zLg K b L xs (pc + 3) loc rest k' lI' lR' a1 a2) : zLg K b L xs pc loc stk k lI lR c1 c2 := by
  obtain ⟨rfl, rfl⟩ := hq
  subst hst
  intro q1 q2 p e s mt below meth cd F hK hh hAO H locs ls hR hl
  obtain ⟨hx, hb, hr, hml, hown, hts0, hX, hbl, hlk, hgv⟩ := id F
  have hts : ∀ w ∈ zW, w.before #[Value.ref b] s = true := fun w hw => hts0 w (List.mem_filter.mp hw).1
  obtain ⟨g1, g2, g3, g4, g5⟩ := hc
  obtain ⟨mcn, mcc, mcl, mcr⟩ := mc
  have hret : mcr = none := hret
  subst hret
  refine zbackN (va_runI (As := As) (rest := rest) (bytes := mcc) (maxL := mcl) ⟨hx, hb, hml, hown, hts⟩ (hM q1 q2) ⟨callB_of n hts (zW_good g3 (fun _ h => h)) rfl rfl rfl (hts _ g2) (hts _ g1) g4 ⟨by show d + 1 ≤ 2048; omega, by have g5 : mcl ≤ 21 := g5; show 8 + (mcl + 11) + 40 * d ≤ 84000; omega⟩, hnm, hts _ hin⟩ ⟨zPn2.blind, fun U hU hW => ⟨rfl, by rw [hU]; exact hR.nil, hK.warm hW, va_AO.moved hW.alike hAO⟩⟩ rfl hn hl.1 rfl (lv_room hw) hd ⟨hc1, hc2⟩) hR (fun g' H1 locs1 hq hR1 => ?_)
  obtain ⟨rfl, h1, h2⟩ := hq
  exact kk h1 h2 p e s mt below meth cd F hK hh hAO H1 locs1 ls hR1 hl
theorem zI0_r (a k : Int) : inR (zI0 a k) := by
  unfold zI0
  (repeat' split) <;> exact ⟨by omega, by omega⟩
theorem zg_end (hI : zIu lI = zI0) (hRr : zRu lR = zR 51) (hc : c1 ≤ 600000) (hs : c2 ≤ 7302250) (kk : zLj K b L xs pc loc stk zm0) : zLg K b L xs pc loc stk 131 lI lR c1 c2 := by
  intro q1 q2 p e s mt below meth c F hK hh hAO H locs ls hR hl
  refine W.widen (k := 600000) (n := 7302250) hc hs ?_
  refine kk p e s mt below meth c F hK hh H locs ls ⟨?_, hR.2.1, zI0_r⟩ hl
  have h1 : va_P K.2.1 vwCl (zws K 131 (zIu lI) (fun _ _ => 0) (zRu lR)) H := hR.1
  rw [hI, hRr] at h1
  exact h1
end LG
theorem law_start {K : zCx} {b L : Nat} {xs : Nat → Int32} (hL : L ≤ 384) : zLg K b L xs 0 [(0, .ref b)] [] 0 [] [] 0 0 := by
  refine zg_newO (pc := 0) 9 12 1 0 1 12 dL_law_0 zwL_7 rfl (by decide) (by decide) ⟨by decide, rfl, rfl, rfl⟩ ?_
  refine zg_dup (pc := 3) dL_law_3 rfl ?_
  refine zg_call (pc := 4) (As := []) (rest := [rr K 0]) 98 3216 dL_law_4 zcL_9 ziX9_init rfl rfl rfl rfl (Nat.le_of_ble_eq_true rfl) (by decide) (k_X9_0 (d := 0)) ⟨rfl, rfl⟩ (by decide) (by decide) ?_
  refine zg_astore (pc := 7) (loc' := [(1, rr K 0), (0, .ref b)]) dL_law_7 rfl (by decide) rfl ?_
  refine zg_newO (pc := 8) 10 60 99 98 99 3276 dL_law_8 zwL_10 rfl (by decide) (by decide) ⟨by decide, rfl, rfl, rfl⟩ ?_
  refine zg_dup (pc := 11) dL_law_11 rfl ?_
  refine zg_call (pc := 12) (As := []) (rest := [rr K 98]) 131 24028 dL_law_12 zcL_12 ziX10_init rfl rfl rfl rfl (Nat.le_of_ble_eq_true rfl) (by decide) (k_X10_98 (d := 0)) ⟨rfl, rfl⟩ (by decide) (by decide) ?_
  refine zg_astore (pc := 15) (loc' := [(2, rr K 98), (1, rr K 0), (0, .ref b)]) dL_law_15 rfl (by decide) rfl ?_
  refine zg_end zFI_eq zFR_eq (by decide) (by decide) ?_
  refine zl_iconst (pc := 16) dL_law_16 ?_
  refine zl_istore_n (pc := 17) (loc' := [(3, .int (iz 0)), (2, rr K 98), (1, rr K 0), (0, .ref b)]) dL_law_17 rfl (by decide) rfl ?_
  have h := law_loop (K := K) (b := b) (xs := xs) hL 65 0 zm0 (by omega) zInv_0
  exact zl_sub [3, 2, 1, 0] rfl h
theorem whole_start {p : Program} {e : Env} {s : State} {m : MethodId} {below : List Frame} {meth : Method} {c : Code} (l : Launch) (hflags : l.flags = flags0) {b L : Nat} {xs : Nat → Int32} (hL : L ≤ 384) (C0 : lw_At p s m meth c b L xs) : W p l e room_1 s m #[Value.ref b] below meth c s.heap [] 0 0 (lw_Z below #[Value.ref b] s) (entryFrame m ([Value.ref b] : List Value).toArray 4) := by
  obtain ⟨K, rfl, hh, hK, hAO⟩ := zK_start l C0
  have hl := lv_entry ([.ref b]) (n := 4) (Nat.le_of_ble_eq_true rfl)
  rw [lg_entry_eq]
  have hn : ∀ k : Nat, zBd k [] := fun k e he => by cases he
  exact law_start hL (hn 0) (hn 0) p e s m below meth c C0 hK hh.symm hAO s.heap [] _ ⟨fun k q h => (by cases h), (by rw [hh]; exact va_S.rf), (by unfold zB; rw [hh]; rfl)⟩ hl
