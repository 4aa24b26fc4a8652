/-! ===== constructors: fields, arrays of parts, calls ===== -/
def zFldC (own : String) (idx c k : Nat) (ty : FieldType) : Prop := ∃ (C : String) (T : u_T) (N : Nat), vwCl[c]? = some (C, T, N) ∧ k < N ∧ Cond.fieldLink own idx (T k).1 (T k).2.1 (T k).2.2.1 ∈ zW ∧ (∀ w ∈ u_ws C T N, w ∈ zW) ∧
  (∃ ty0 : Nat → FieldType, ∀ k, k < N → parseFieldDescriptor (T k).2.2.1 = some (ty0 k)) ∧ (∀ a, a < N → ∀ b, b < N → a ≠ b → (T a).2.1 ≠ (T b).2.1) ∧ ((T k).2.2.2 = false ∨ ((T k).2.2.2 = true ∧ (T k).1 = own)) ∧ parseFieldDescriptor (T k).2.2.1 = some ty
theorem zPn2.blind {K : zCx} {as : List Value} {g : zG} : FrameBlind (zPn2 K as g) := fun a U f mk h => ⟨h.1, h.2.1, zK.same (s := U) (U := U.calling f mk a) rfl h.2.2.1, va_AO.moved (u := U) (U := U.calling f mk a) (Vm.Alike.refl _) h.2.2.2⟩
section ZN6
variable {K : zCx} {mi : zMi} {d cN sN pc : Nat} {loc : List (Nat × Value)} {stk : List Value} {g : zG} {c1 c2 : Nat} {Q : zG → Prop}
theorem zn_put {idx c k n : Nat} {a : Int} {v : Value} {ty : FieldType} {I' : Int → Int → Int} {R' : Int → Int → Option Int} (hd : decode mi.2.1 pc = .ok (.putfield idx, 3)) (hf : zFldC mi.1.cls idx c k ty) (hs : zsh a = some (c + 3, n)) (ha : (zph a) < g.1) (hna : narrow ty v = v) (hfit : fits ty v = true) (hI : ∀ b, b ≠ a → ∀ j, g.2.1 b j = I' b j) (hRr : ∀ b, b ≠ a → ∀ j, g.2.2.2 b j = R' b j) (hv : zsv K I' g.2.2.1 R' c a k = v) (ho : ∀ j, j ≠ k → zsv K g.2.1 g.2.2.1 g.2.2.2 c a j = zsv K I' g.2.2.1 R' c a j) (kk : zNj K mi d cN sN (pc + 3) loc stk (g.1, I', g.2.2.1, R') c1 c2 Q) : zNj K mi d cN sN pc loc (v :: rr K a :: stk) g c1 c2 Q := by
  intro p e s mt args below meth cd F hnm H locs ls hR hl
  obtain ⟨hx, hb, hr, hml, hown, hts, hlk, hK⟩ := id F
  obtain ⟨hP, hS0, hsz⟩ := id hR
  obtain ⟨C, T, N, hc, hk, hlink, hin, ⟨ty0, hty⟩, hnms, hfin, hpd⟩ := hf
  have hn := zsh_cls hs hc
  subst hn
  have he := zws_get (K := K) (n := g.1) (I := g.2.1) (L := g.2.2.1) (R := g.2.2.2) (zsh_nn hs) ha
  rw [zent_o hs] at he
  have hD : va_D (zA K) (zws K g.1 g.2.1 g.2.2.1 g.2.2.2) := zws_D
  have hap := va_apart (own := mi.1.cls) hts hin ty0 hty hnms hK.1 hc
  obtain ⟨r, h1, cell, q1, q2, q3, q4⟩ := hP (zph a) _ he
  have hr2 : r = (C, T, N) := Option.some.inj (h1.symm.trans hc)
  subst hr2
  obtain ⟨hS, hfc, kC, hkC, hkind⟩ := hK.1.1 c _ hc
  obtain ⟨cf, kf, fi, f, hi, hsl⟩ := hS k hk
  have hlay := hts _ (hin _ (u_in_lay hk))
  unfold u_lay at hlay
  have hst := (u_facts hfc hkC (u_lays hts hin hk) hi).1
  have hlen : k < ((List.range N).map (zsv K g.2.1 g.2.2.1 g.2.2.2 c a)).length := by simpa using hk
  rcases hfin with hfin | ⟨hfin, hdecl⟩
  · rw [if_neg (by rw [hfin]; decide)] at hlay
    have h6 := u_store hfc hkC hkind hlay hi hpd hna hfit
    refine W.putK hx hb (f := f) ⟨hown, hts _ hlink, ⟨_, _, _, hi⟩, hst⟩ (by rw [q2]; exact h6) q1 q3 (by rw [hsl]; exact k2_hasslot (q4 k hk)) rfl rfl hd fun H' e1 e2 e3 => ?_
    rw [hsl] at e1 ⊢
    have hP1 : va_P K.2.1 vwCl ((zws K g.1 g.2.1 g.2.2.1 g.2.2.2).set (zph a) (zB K + (zph a), .inr (c, ((List.range N).map (zsv K g.2.1 g.2.2.1 g.2.2.2 c a)).set k v))) H' := hP.set hD he ⟨_, hc, t_OB.to (V := updV (vp_V ((List.range N).map (zsv K g.2.1 g.2.2.1 g.2.2.2 c a))) k v) ⟨_, e1, q2, q3, t_set q4 hap hk v⟩ (fun j _ => vp_updV_set hlen v j)⟩ e3
    refine kk p e s mt args below meth cd F hnm H' _ ls ⟨?_, hS0.put e2 e3 (hD.2 (zph a) _ he), by rw [e2]; exact hsz⟩ hl
    show va_P K.2.1 vwCl (zws K g.1 I' g.2.2.1 R') H'
    rw [← zws_set (I := g.2.1) (L := g.2.2.1) (R := g.2.2.2) (zsh_nn hs) (fun b hb => ⟨hI b hb, fun _ => rfl, hRr b hb⟩), zent_o hs, ← zfs_set (k := k) (F := zsv K g.2.1 g.2.2.1 g.2.2.2 c a) ho, hv]
    exact hP1
  · rw [if_pos hfin] at hlay
    have hcf : mt.cls = cf := by
      obtain ⟨_, _, c', _, _, _, -, -, hf', -, -, -, hown2, -⟩ := Cond.laysFinal_spec hlay
      have e1 : c' = cf := by have := hi.symm.trans hf'; simp at this; exact this.1.symm
      have hown2 : s.vm.findClass (T k).1 = some c' := hown2
      rw [hdecl] at hown2
      rw [← e1]; exact Option.some.inj (hown.symm.trans hown2)
    have h6 := u_fits hfc hkC hkind (Or.inr hlay) hi hpd hna hfit
    refine W.putFinK hx hb hown (hts _ hlink) hi hst hcf hnm.1 (by rw [q2]; exact h6) q1 q3 (by rw [hsl]; exact k2_hasslot (q4 k hk)) rfl rfl hd fun H' e1 e2 e3 => ?_
    rw [hsl] at e1 ⊢
    have hP1 : va_P K.2.1 vwCl ((zws K g.1 g.2.1 g.2.2.1 g.2.2.2).set (zph a) (zB K + (zph a), .inr (c, ((List.range N).map (zsv K g.2.1 g.2.2.1 g.2.2.2 c a)).set k v))) H' := hP.set hD he ⟨_, hc, t_OB.to (V := updV (vp_V ((List.range N).map (zsv K g.2.1 g.2.2.1 g.2.2.2 c a))) k v) ⟨_, e1, q2, q3, t_set q4 hap hk v⟩ (fun j _ => vp_updV_set hlen v j)⟩ e3
    refine kk p e s mt args below meth cd F hnm H' _ ls ⟨?_, hS0.put e2 e3 (hD.2 (zph a) _ he), by rw [e2]; exact hsz⟩ hl
    show va_P K.2.1 vwCl (zws K g.1 I' g.2.2.1 R') H'
    rw [← zws_set (I := g.2.1) (L := g.2.2.1) (R := g.2.2.2) (zsh_nn hs) (fun b hb => ⟨hI b hb, fun _ => rfl, hRr b hb⟩), zent_o hs, ← zfs_set (k := k) (F := zsv K g.2.1 g.2.2.1 g.2.2.2 c a) ho, hv]
    exact hP1
theorem zn_getR {idx c k n : Nat} {a b : Int} (hd : decode mi.2.1 pc = .ok (.getfield idx, 3)) (hf : zFld mi.1.cls idx c k) (hs : zsh a = some (c + 3, n)) (ha : (zph a) < g.1) (h0 : zkd c k = 2) (hb0 : g.2.2.2 a (k : Int) = some b) (kk : zNj K mi d cN sN (pc + 3) loc (rr K b :: stk) g c1 c2 Q) : zNj K mi d cN sN pc loc (rr K a :: stk) g c1 c2 Q := by
  intro p e s mt args below meth cd F hnm H locs ls hR hl
  obtain ⟨hx, hb, hr, hml, hown, hts, hlk, hK⟩ := id F
  obtain ⟨C, T, N, hc, hk, hlink, hin⟩ := hf
  have hn := zsh_cls hs hc
  subst hn
  have he := zws_get (K := K) (n := g.1) (I := g.2.1) (L := g.2.2.1) (R := g.2.2.2) (zsh_nn hs) ha
  rw [zent_o hs] at he
  refine va_get (D := K.2.1) (ci := c) (v := rr K b) (C := C) (T := T) (N := N) hx hb hts hin hown hK.1 hR.1 (zph a) he hc k hk (hts _ hlink) (fun _ h => h) ?_ hd (kk p e s mt args below meth cd F hnm H locs ls hR hl)
  rw [zfs_get hk]
  unfold zsv
  rw [h0, hb0]
  rfl
theorem zn_newQ {idx : Nat} {n : Int} {N : Nat} (hd : decode mi.2.1 pc = .ok (.anewarray idx, 3)) (hcl : Cond.classLink mi.1.cls idx "SizedParts$Part" ∈ zW) (hN : n = N) (hb : N ≤ 10000) (hsh : zsh (zlo g.1) = some (2, N)) (hz : ∀ j, g.2.2.2 (zlo g.1) j = none) (hc : c1 + 1 ≤ cN) (hs : c2 + N ≤ sN) (k : zNj K mi d cN sN (pc + 3) loc (rr K (zlo g.1) :: stk) (g.1 + 1, g.2) (c1 + 1) (c2 + N) Q) : zNj K mi d cN sN pc loc (.int (iz n) :: stk) g c1 c2 Q := by
  intro p e s mt args below meth c F hnm H locs ls hR hl
  obtain ⟨hx, hb', hr, hml, hown, hts, hlk, hK⟩ := id F
  obtain ⟨hP, hS, hsz⟩ := id hR
  have hi : inR n := ⟨by omega, by omega⟩
  have h0 : ¬ iz n < 0 := fun q => by have := (iz_lt hi inR_0).mp q; omega
  have hcl2 : (iz n).toNatClampNeg = N := by rw [iz_clamp (by omega) hi]; omega
  refine W.anew hx hb' hown (hts _ hcl) (va_AO.use hnm.2) rfl hd rfl h0 (by rw [hcl2]; omega) hc (by rw [hcl2]; exact hs) fun cA kA comp f1 f2 f3 f4 => ?_
  rw [hcl2]
  generalize hH1 : H.push ({ cls := cA, slots := Array.replicate N .null, vm := .none } : Cell) = H1
  have z1 : H1.size = H.size + 1 := by rw [← hH1, Array.size_push]
  have e1 : H1[H.size]? = some (arrV cA N (fun _ => .null)) := by rw [← hH1, Array.getElem?_push_size, ← arrV_new]
  have o1 : ∀ q : Nat, q < H.size → H1[q]? = H[q]? := fun q hq => by rw [← hH1, Array.getElem?_push, if_neg (Nat.ne_of_lt hq)]
  have hcA : cA = K.2.2.1.2.2 := by
    obtain ⟨kA2, comp2, w1, w2, w3, w4⟩ := (hK.1.2 2 _ rfl).2
    exact Option.some.inj (f1.symm.trans w4)
  have hk : ∀ (q : Nat) (x : Nat × va_E), (zws K g.1 g.2.1 g.2.2.1 g.2.2.2)[q]? = some x → H1[x.1]? = H[x.1]? := fun q x hx => o1 x.1 ((hP q x hx).lt)
  have hent : zent K g.2.1 g.2.2.1 g.2.2.2 (zlo g.1) = .inl (K.2.2.1.2.2, N, .inr (.inr (.inr (.inr (fun _ => none))))) := by
    rw [zent_q hsh]
    have : (fun j : Nat => zad K (g.2.2.2 (zlo g.1) j)) = fun _ => none := funext (fun j => by rw [hz]; rfl)
    rw [this]
  have key := k p e s mt args below meth c F hnm H1 locs ls ⟨?_, ⟨Nat.le_trans hS.1 (by omega), fun x h1 h2 => (o1 x (Nat.lt_of_lt_of_le h1 hS.1)).trans (hS.2.1 x h1 h2), hS.2.2⟩, by rw [z1, hsz]; show zB K + g.1 + 1 = zB K + (g.1 + 1); omega⟩ hl
  · have er : rr K (zlo g.1) = .ref H.size := by rw [hsz]; show Value.ref (zB K + zph (zlo g.1)) = _; rw [zph_zlo]
    rw [er] at key
    exact key
  · show va_P K.2.1 vwCl (zws K (g.1 + 1) g.2.1 g.2.2.1 g.2.2.2) H1
    rw [zws_succ]
    refine (hP.kept hk).app (fun q x hx => ?_)
    have hq : q < 1 := (List.getElem?_eq_some_iff.mp hx).1
    rw [show q = 0 by omega] at hx
    cases hx
    rw [hent, ← hcA, ← hsz]
    show H1[H.size]? = some (vp_cell _ _)
    rw [vp_cell_q]
    exact e1
theorem zn_aast {a i x : Int} {n nx : Nat} {R' : Int → Int → Option Int} (hd : decode mi.2.1 pc = .ok (.aastore, 1)) (hs : zsh a = some (2, n)) (ha : (zph a) < g.1) (hsx : zsh x = some (3 + 3, nx)) (hxa : (zph x) < g.1) (h0 : 0 ≤ i) (h1 : i < (n : Int)) (hi : inR i) (hRr : ∀ b j, R' b j = if b = a ∧ j = i then some x else g.2.2.2 b j) (kk : zNj K mi d cN sN (pc + 1) loc stk (g.1, g.2.1, g.2.2.1, R') c1 c2 Q) : zNj K mi d cN sN pc loc (rr K x :: .int (iz i) :: rr K a :: stk) g c1 c2 Q := by
  intro p e s mt args below meth cd F hnm H locs ls hR hl
  obtain ⟨hx, hb, hr, hml, hown, hts, hlk, hK⟩ := id F
  obtain ⟨hP, hS, hsz⟩ := id hR
  have ha0 := zsh_nn hs
  have he := zws_get (K := K) (n := g.1) (I := g.2.1) (L := g.2.2.1) (R := g.2.2.2) ha0 ha
  rw [zent_q hs] at he
  have hex := zws_get (K := K) (n := g.1) (I := g.2.1) (L := g.2.2.1) (R := g.2.2.2) (zsh_nn hsx) hxa
  rw [zent_o hsx] at hex
  have hin := iz_in (n := n) h0 h1 hi
  have hD : va_D (zA K) (zws K g.1 g.2.1 g.2.2.1 g.2.2.2) := zws_D
  have hlt : (iz i).toNatClampNeg < n := Nat.not_le.mp fun q => hin (Or.inr q)
  have h00 : ¬ iz i < 0 := fun q => hin (Or.inl q)
  obtain ⟨r', hr', cellV, g1, g2, g3, -⟩ := hP (zph x) _ hex
  have hcl3 : vwCl[3]? = some r' := hr'
  have hr3 : r'.1 = "SizedParts$Part" := by
    have e3 : (vwCl[3]?).map (fun q => q.1) = some "SizedParts$Part" := by decide +kernel
    rw [hcl3] at e3
    exact Option.some.inj e3
  have hcls := (hK.1.1 3 r' hcl3).2
  rw [hr3] at hcls
  obtain ⟨kA, comp, k1, k2, k3, -⟩ := (hK.1.2 2 _ rfl).2
  have hcomp : comp = K.2.1.1 3 := Option.some.inj (k3.symm.trans hcls.1)
  subst hcomp
  obtain ⟨kC, hkC, -⟩ := hcls.2
  refine W.aast hx hb (hP (zph a) _ he) (fun q h => by cases h) (fun h => by cases h) k1 k2 rfl hkC ⟨h00, by show _ < (arrV _ _ _).slots.size; rw [arrV_size]; exact hlt⟩ g1 (fun q h => by rw [g3] at h; cases h) (by rw [g2]; exact hkC) (by rw [g2]; exact va_assign hcls) rfl rfl hd fun H1 e z oq => ?_
  refine kk p _ s mt args below meth cd F hnm H1 _ ls ⟨?_, hS.put z oq (hD.2 (zph a) _ he), by rw [z]; exact hsz⟩ hl
  have hset := zws_set (K := K) (n := g.1) (I := g.2.1) (I' := g.2.1) (L := g.2.2.1) (L' := g.2.2.1) (R := g.2.2.2) (R' := R') ha0 (fun b hb => ⟨fun _ => rfl, fun _ => rfl, fun k => by rw [hRr, if_neg (fun q => hb q.1)]⟩)
  show va_P K.2.1 vwCl (zws K g.1 g.2.1 g.2.2.1 R') H1
  rw [← hset, zent_q hs]
  have hf : (fun j : Nat => zad K (R' a j)) = va_up (fun j : Nat => zad K (g.2.2.2 a j)) (iz i).toNatClampNeg (some (zB K + (zph x))) := by
    funext j
    rw [iz_clamp h0 hi, hRr]
    unfold va_up
    by_cases hj : j = i.toNat
    · have : (j : Int) = i := by omega
      rw [if_pos ⟨rfl, this⟩, if_pos hj]
      rfl
    · have : ¬ (j : Int) = i := by omega
      rw [if_neg (fun q => this q.2), if_neg hj]
  rw [hf]
  refine hP.set hD he ?_ oq
  show H1[zB K + (zph a)]? = some (vp_cell _ _)
  rw [e]
  rw [vp_cell_q, vp_cell_q, arrV_store]
  congr 2
  funext q
  by_cases hq : q = (iz i).toNatClampNeg
  · subst hq
    simp [updV, va_up, va_rf]
  · simp [updV, va_up, hq]
theorem zn_iload_n {k4 : Fin 4} {i : Nat} {x : Int32} (hd : decode mi.2.1 pc = .ok (.iload_n k4, 1)) (hi : (k4 : Nat) = i) (j : Nat) (hj : loc[j]? = some (i, .int x)) (k : zNj K mi d cN sN (pc + 1) loc (.int x :: stk) g c1 c2 Q) : zNj K mi d cN sN pc loc stk g c1 c2 Q := by
  intro p e s mt args below meth c F hnm H locs ls hR hl
  obtain ⟨hx, hb, hr, hml, hown, hts, hlk, hK⟩ := id F
  refine lv_iload_n hx hb hd hi (lv_at hl j hj) ?_
  exact k p e s mt args below meth c F hnm H locs ls hR hl
theorem zn_istore_n {k4 : Fin 4} {i : Nat} {x : Int32} {loc' : List (Nat × Value)} (hd : decode mi.2.1 pc = .ok (.istore_n k4, 1)) (hi : (k4 : Nat) = i) (hn : i < mi.2.2.1) (hl' : (i, Value.int x) :: loc.filter (fun q => !(q.1 == i) && !(q.1 + 1 == i && q.2.category == 2)) = loc') (k : zNj K mi d cN sN (pc + 1) loc' stk g c1 c2 Q) : zNj K mi d cN sN pc loc (.int x :: stk) g c1 c2 Q := by
  intro p e s mt args below meth c F hnm H locs ls hR hl
  obtain ⟨hx, hb, hr, hml, hown, hts, hlk, hK⟩ := id F
  refine lv_istore_n hx hb hd hi hl hn hl' (fun ls hl => ?_)
  exact k p e s mt args below meth c F hnm H locs ls hR hl
theorem zn_iinc {i : Nat} {n x : Int} {loc' : List (Nat × Value)} (hd : decode mi.2.1 pc = .ok (.iinc i n, 3)) (j : Nat) (hj : loc[j]? = some (i, .int (iz x))) (hn : i < mi.2.2.1) (hl' : (i, Value.int (iz (x + n))) :: loc.filter (fun q => !(q.1 == i) && !(q.1 + 1 == i && q.2.category == 2)) = loc') (k : zNj K mi d cN sN (pc + 3) loc' stk g c1 c2 Q) : zNj K mi d cN sN pc loc stk g c1 c2 Q := by
  intro p e s mt args below meth c F hnm H locs ls hR hl
  obtain ⟨hx, hb, hr, hml, hown, hts, hlk, hK⟩ := id F
  refine lv_iinc hx hb hd hl hj (iz_add x n) hn hl' (fun ls hl => ?_)
  exact k p e s mt args below meth c F hnm H locs ls hR hl
theorem zn_goto {off : Int} {tgt : Nat} (hd : decode mi.2.1 pc = .ok (.goto off, 3)) (ht : (pc : Int) + off = (tgt : Int)) (k : zNj K mi d cN sN tgt loc stk g c1 c2 Q) : zNj K mi d cN sN pc loc stk g c1 c2 Q := by
  intro p e s mt args below meth c F hnm H locs ls hR hl
  obtain ⟨hx, hb, hr, hml, hown, hts, hlk, hK⟩ := id F
  refine lv_goto hx hb hd ht ?_
  exact k p e s mt args below meth c F hnm H locs ls hR hl
theorem zn_icmp_ge {x y off : Int} {tgt : Nat} (hd : decode mi.2.1 pc = .ok (.if_icmp .ge off, 3)) (ht : (pc : Int) + off = (tgt : Int)) (hx1 : inR x) (hy : inR y) (kt : y ≤ x → zNj K mi d cN sN tgt loc stk g c1 c2 Q) (kf : ¬ (y ≤ x) → zNj K mi d cN sN (pc + 3) loc stk g c1 c2 Q) : zNj K mi d cN sN pc loc (.int (iz y) :: .int (iz x) :: stk) g c1 c2 Q := by
  intro p e s mt args below meth c F hnm H locs ls hR hl
  obtain ⟨hx, hb, hr, hml, hown, hts, hlk, hK⟩ := id F
  exact lv_icmp_ge hx hb hd ht (fun q => kt ((iz_le hy hx1).mp q) p e s mt args below meth c F hnm H locs ls hR hl) (fun q => kf (fun z => q ((iz_le hy hx1).mpr z)) p e s mt args below meth c F hnm H locs ls hR hl)
/-! calls of constructors -/
theorem zbackN {p : Program} {e : Env} {R : Room} {s : State} {mt : MethodId} {args : Array Value} {below : List Frame} {meth : Method} {c : Code} {H : Heap} {locs : List Loc} {cells slots mc ms : Nat} {Qs : State → Prop} {pc : Nat} {ls : Array Slot} {st0 rest : List Value} {a : Array Value} {Q' : zG → Prop}
    (hr : va_Run p K.1 e R s mt args below meth c H locs cells slots mc ms (F0 mt pc ls st0) rest (zQn K Q' a) (zA K)) (hR : zRn K g H locs)
    (kk : ∀ (g' : zG) (H1 : Heap) (locs1 : List Loc), Q' g' → zRn K g' H1 locs1 → W p K.1 e R s mt args below meth c H1 locs1 (cells + mc) (slots + ms) Qs (F0 mt (pc + 3) ls rest)) : W p K.1 e R s mt args below meth c H locs cells slots Qs (F0 mt pc ls st0) := by
  intro T hT X
  obtain ⟨v, st₀, t, T', L, h0, X', hL, e1, e2, ⟨g', hv, hq, hRel⟩, st⟩ := hr T hT X
  cases hv
  obtain ⟨t2, a1, b1⟩ := kk g' T'.heap (locs ++ L) hq ⟨by rw [e1]; exact hRel.1, ⟨by rw [e1]; exact hRel.2.1.1, by rw [e1]; exact hRel.2.1.2.1, fun q hq => by
      rcases List.mem_append.mp hq with h | h
      · exact hR.2.1.2.2 q h
      · exact hL q h⟩, by rw [e1]; exact hRel.2.2⟩ T' rfl X'
  exact ⟨t2, st t2 a1, b1⟩
theorem zRn.nil {H : Heap} {locs : List Loc} (h : zRn K g H locs) : zRn K g H [] := ⟨h.1, ⟨h.2.1.1, h.2.1.2.1, fun _ h => by cases h⟩, h.2.2⟩
theorem zn_call {mc : zMi} {idx n c1' c2' : Nat} {a : Int} {As rest : List Value} {Q' : zG → Prop} (hd : decode mi.2.1 pc = .ok (.invokespecial idx, 3)) (hc : zCall mi.1.cls idx mc n) (hin : Cond.instanceMethod mc.1 ∈ zW) (hnm : mc.1.name = "<init>") (hret : mc.2.2.2 = none) (hst : stk = As.reverse ++ rr K a :: rest) (hn : As.length = n) (hw : (rest.map fun v => v.category).sum ≤ 8) (hM : zCn K d c1' c2' mc (rr K a :: As) g Q') (hc1 : c1 + c1' ≤ cN) (hc2 : c2 + c2' ≤ sN)
    (kk : ∀ g', Q' g' → zNj K mi (d + 1) cN sN (pc + 3) loc rest g' (c1 + c1') (c2 + c2') Q) : zNj K mi (d + 1) cN sN pc loc stk g c1 c2 Q := by
  subst hst
  intro p e s mt args below meth cd F hnm2 H locs ls hR hl
  obtain ⟨hx, hb, hr, hml, hown, hts, hlk, hK⟩ := id F
  obtain ⟨g1, g2, g3, g4, g5⟩ := hc
  obtain ⟨mcn, mcc, mcl, mcr⟩ := mc
  have hret : mcr = none := hret
  subst hret
  refine zbackN (va_runI (As := As) (rest := rest) (bytes := mcc) (maxL := mcl) ⟨hx, hb, hml, hown, hts⟩ hM ⟨callB_of n hts (zW_good g3 (fun _ h => h)) rfl rfl rfl (hts _ g2) (hts _ g1) g4 ⟨Nat.le_refl _, by have g5 : mcl ≤ 21 := g5; show 8 + (mcl + 11) + 40 * d ≤ 40 * (d + 1); omega⟩, hnm, hts _ hin⟩ ⟨zPn2.blind, fun U hU hW => ⟨rfl, by rw [hU]; exact hR.nil, hK.warm hW, va_AO.moved hW.alike hnm2.2⟩⟩ rfl hn hl.1 rfl (lv_room hw) hd ⟨hc1, hc2⟩) hR (fun g' H1 locs1 hq hR1 => ?_)
  exact kk g' hq p e s mt args below meth cd F hnm2 H1 locs1 ls hR1 hl
theorem zn_callN {mc : zMi} {idx n c1' c2' : Nat} {a : Int} {As rest : List Value} {Q' : zG → Prop} (hd : decode mi.2.1 pc = .ok (.invokespecial idx, 3)) (hc : zCallN mi.1.cls idx mc n) (hin : Cond.instanceMethod mc.1 ∈ zW) (hnm : mc.1.name = "<init>") (hret : mc.2.2.2 = none) (hst : stk = As.reverse ++ rr K a :: rest) (hn : As.length = n) (hw : (rest.map fun v => v.category).sum ≤ 8) (hM : zCn K d c1' c2' mc (rr K a :: As) g Q') (hc1 : c1 + c1' ≤ cN) (hc2 : c2 + c2' ≤ sN)
    (kk : ∀ g', Q' g' → zNj K mi (d + 1) cN sN (pc + 3) loc rest g' (c1 + c1') (c2 + c2') Q) : zNj K mi (d + 1) cN sN pc loc stk g c1 c2 Q := by
  subst hst
  intro p e s mt args below meth cd F hnm2 H locs ls hR hl
  obtain ⟨hx, hb, hr, hml, hown, hts, hlk, hK⟩ := id F
  obtain ⟨g1, g2, g3, g4, g5⟩ := hc
  obtain ⟨mcn, mcc, mcl, mcr⟩ := mc
  have hret : mcr = none := hret
  subst hret
  refine zbackN (va_runIN (As := As) (rest := rest) (bytes := mcc) (maxL := mcl) ⟨hx, hb, hml, hown, hts⟩ hM ⟨va_cnB n hts (zW_good g3 (fun _ h => h)) rfl rfl rfl (hK.2.1 _ g1) (hts _ g2) g4 ⟨Nat.le_refl _, by have g5 : mcl ≤ 21 := g5; show 8 + (mcl + 11) + 40 * d ≤ 40 * (d + 1); omega⟩, hnm, hts _ hin⟩ ⟨zPn2.blind, fun U hU hW => ⟨rfl, by rw [hU]; exact hR.nil, hK.warm hW, va_AO.moved hW.alike hnm2.2⟩⟩ rfl hn hl.1 rfl (lv_room hw) hd ⟨hc1, hc2⟩) hR (fun g' H1 locs1 hq hR1 => ?_)
  exact kk g' hq p e s mt args below meth cd F hnm2 H1 locs1 ls hR1 hl
end ZN6
