/-! ===== constructors: the world grows ===== -/
abbrev zG : Type := Nat × (Int → Int → Int) × (Int → Int → Int64) × (Int → Int → Option Int)
def zrn (d cN sN : Nat) : Room := { frames := d, cells := cN, slots := sN, locals := 40 * d }
def zRn (K : zCx) (g : zG) (H : Heap) (locs : List Loc) : Prop := va_P K.2.1 vwCl (zws K g.1 g.2.1 g.2.2.1 g.2.2.2) H ∧ va_S (zA K) K.2.2.2.1 H locs ∧ H.size = zB K + g.1
def zQn (K : zCx) (Q : zG → Prop) : Array Value → State → Outcome → State → Prop := fun _ _ o t => ∃ g : zG, o = .returned none ∧ Q g ∧ zRn K g t.heap []
def zNj (K : zCx) (mi : zMi) (d cN sN pc : Nat) (loc : List (Nat × Value)) (stk : List Value) (g : zG) (c1 c2 : Nat) (Q : zG → Prop) : Prop :=
  ∀ (p : Program) (e : Env) (s : State) (mt : MethodId) (args : Array Value) (below : List Frame) (meth : Method) (c : Code), zFx K mi p s mt args meth c → (meth.name = "<init>" ∧ va_AO "SizedParts$Part" s) →
    ∀ (H : Heap) (locs : List Loc) (ls : Array Slot), zRn K g H locs → lv_has ls mi.2.2.1 loc →
      W p K.1 e (zrn d cN sN) s mt args below meth c H locs c1 c2 (MQ below (zQn K Q) args s cN sN (zA K)) (F0 mt pc ls stk)
def zPn2 (K : zCx) (as : List Value) (g : zG) : Array Value → State → Prop := fun a U => a = as.toArray ∧ zRn K g U.heap [] ∧ zK K U ∧ va_AO "SizedParts$Part" U
def zCn (K : zCx) (d cN sN : Nat) (mi : zMi) (as : List Value) (g : zG) (Q : zG → Prop) : Prop :=
  Met K.1 mi.1 (zws1 mi) (zrn d cN sN) (zPn2 K as g) (zQn K Q) cN sN (zA K)
theorem zCn.of {K : zCx} {d cN sN : Nat} {mi : zMi} {as : List Value} {g : zG} {Q : zG → Prop} (hp : plainName mi.1.cls = true) (hnm : mi.1.name = "<init>") (hl : (lg_sl as).length ≤ mi.2.2.1) (h : zNj K mi d cN sN 0 (lv_args 0 as) [] g 0 0 Q) : zCn K d cN sN mi as g Q := by
  refine Met.ofW (cc := mi.2.1) (maxL := mi.2.2.1) (ret := mi.2.2.2) hp rfl ?_
  intro p e s mt args below meth c s₁ B hml hv
  obtain ⟨rfl, hR, hK, hAO⟩ := hv
  have hts := atoms_spec (ws := zws1 mi) B.pre
  rw [lg_entry_eq]
  exact h p e s mt _ below meth c ⟨B.exec, B.bytes, B.returns, hml, findClass_of_methodNamed B.named, fun w hw => hts w (List.mem_cons_of_mem _ hw), B.notSynchronized, hK⟩ ⟨(name_of_methodNamed B.named B.method).1.trans hnm, hAO⟩ _ _ _ hR (lv_entry as hl)
section ZN
variable {K : zCx} {mi : zMi} {d cN sN pc : Nat} {loc : List (Nat × Value)} {stk : List Value} {g : zG} {c1 c2 : Nat} {Q : zG → Prop}
theorem zn_iconst {n : Int} (hd : decode mi.2.1 pc = .ok (.iconst n, 1)) (k : zNj K mi d cN sN (pc + 1) loc (.int (iz n) :: stk) g c1 c2 Q) : zNj K mi d cN sN pc loc stk g c1 c2 Q := by
  intro p e s mt args below meth c F hnm H locs ls hR hl
  obtain ⟨hx, hb, hr, hml, hown, hts, hlk, hK⟩ := id F
  refine lv_iconst hx hb hd rfl ?_
  exact k p e s mt args below meth c F hnm H locs ls hR hl
theorem zn_bipush {n : Int} (hd : decode mi.2.1 pc = .ok (.bipush n, 2)) (hv : (Int8.ofInt n).toInt32 = iz n) (k : zNj K mi d cN sN (pc + 2) loc (.int (iz n) :: stk) g c1 c2 Q) : zNj K mi d cN sN pc loc stk g c1 c2 Q := by
  intro p e s mt args below meth c F hnm H locs ls hR hl
  obtain ⟨hx, hb, hr, hml, hown, hts, hlk, hK⟩ := id F
  refine lv_bipush hx hb hd hv ?_
  exact k p e s mt args below meth c F hnm H locs ls hR hl
theorem zn_sipush {n : Int} (hd : decode mi.2.1 pc = .ok (.sipush n, 3)) (hv : (Int16.ofInt n).toInt32 = iz n) (k : zNj K mi d cN sN (pc + 3) loc (.int (iz n) :: stk) g c1 c2 Q) : zNj K mi d cN sN pc loc stk g c1 c2 Q := by
  intro p e s mt args below meth c F hnm H locs ls hR hl
  obtain ⟨hx, hb, hr, hml, hown, hts, hlk, hK⟩ := id F
  refine lv_sipush hx hb hd hv ?_
  exact k p e s mt args below meth c F hnm H locs ls hR hl
theorem zn_aload_n {k4 : Fin 4} {i : Nat} {x : Nat} (hd : decode mi.2.1 pc = .ok (.aload_n k4, 1)) (hi : (k4 : Nat) = i) (j : Nat) (hj : loc[j]? = some (i, .ref x)) (k : zNj K mi d cN sN (pc + 1) loc (.ref x :: stk) g c1 c2 Q) : zNj K mi d cN sN pc loc stk g c1 c2 Q := by
  intro p e s mt args below meth c F hnm H locs ls hR hl
  obtain ⟨hx, hb, hr, hml, hown, hts, hlk, hK⟩ := id F
  refine lv_aload_n hx hb hd hi (lv_at hl j hj) ?_
  exact k p e s mt args below meth c F hnm H locs ls hR hl
theorem zn_vret (hret : mi.2.2.2 = none) (hd : decode mi.2.1 pc = .ok (.return_, 1)) (hc : c1 ≤ cN) (hs : c2 ≤ sN) (k : Q g) : zNj K mi d cN sN pc loc [] g c1 c2 Q := by
  intro p e s mt args below meth c F hnm H locs ls hR hl
  obtain ⟨hx, hb, hr, hml, hown, hts, hlk, hK⟩ := id F
  refine W.widen (k := cN) (n := sN) hc hs ?_
  exact W.vret hx hb (hr.trans hret) (fun t ht hW => ⟨g, rfl, k, by rw [ht]; exact ⟨hR.1, ⟨hR.2.1.1, hR.2.1.2.1, fun _ h => by cases h⟩, hR.2.2⟩⟩) hR.2.1.2.2 hd
end ZN
section ZN2
variable {K : zCx} {mi : zMi} {d cN sN pc : Nat} {loc : List (Nat × Value)} {stk : List Value} {g : zG} {c1 c2 : Nat} {Q : zG → Prop}
theorem zws_succ {k : Nat} {I : Int → Int → Int} {L : Int → Int → Int64} {R : Int → Int → Option Int} : zws K (k + 1) I L R = zws K k I L R ++ [(zB K + k, zent K I L R (zlo k))] := by
  unfold zws
  rw [List.range_succ, List.map_append]
  rfl
theorem zsh_nat {k : Nat} {x : Nat × Nat} (h : zshL[k]? = some x) : zsh (k : Int) = some x := by
  unfold zsh
  rw [if_neg (by omega)]
  exact h
theorem zn_newI {n : Int} {N : Nat} (hd : decode mi.2.1 pc = .ok (.newarray .int, 2)) (harr : Cond.arrayClass (newarray.typeOf .int) ∈ zW) (hN : n = N) (hb : N ≤ 10000) (hsh : zsh (zlo g.1) = some (0, N)) (hz : ∀ j, g.2.1 (zlo g.1) j = 0) (hc : c1 + 1 ≤ cN) (hs : c2 + N ≤ sN) (k : zNj K mi d cN sN (pc + 2) loc (rr K (zlo g.1) :: stk) (g.1 + 1, g.2) (c1 + 1) (c2 + N) Q) : zNj K mi d cN sN pc loc (.int (iz n) :: stk) g c1 c2 Q := by
  intro p e s mt args below meth c F hnm H locs ls hR hl
  obtain ⟨hx, hb', hr, hml, hown, hts, hlk, hK⟩ := id F
  obtain ⟨hP, hS, hsz⟩ := id hR
  have hi : inR n := ⟨by omega, by omega⟩
  have h0 : ¬ iz n < 0 := fun q => by have := (iz_lt hi inR_0).mp q; omega
  have hcl : (iz n).toNatClampNeg = N := by rw [iz_clamp (by omega) hi]; omega
  refine va_newaK hx hb' (hts _ harr) rfl hd rfl h0 hcl (by show N * 4 ≤ 536870912; omega) hc hs rfl fun H1 cA e1 z1 o1 hAr hNm => ?_
  have hcA : cA = K.2.2.1.1 := by
    have := (hK.1.2 0 _ rfl).2
    exact Option.some.inj (hNm.symm.trans this)
  have hk : ∀ (q : Nat) (x : Nat × va_E), (zws K g.1 g.2.1 g.2.2.1 g.2.2.2)[q]? = some x → H1[x.1]? = H[x.1]? := fun q x hx => o1 x.1 ((hP q x hx).lt)
  have hent : zent K g.2.1 g.2.2.1 g.2.2.2 (zlo g.1) = .inl (K.2.2.1.1, N, .inl (fun _ => 0)) := by
    rw [zent_i hsh]
    have : (fun j : Nat => iz (g.2.1 (zlo g.1) j)) = fun _ => 0 := funext (fun j => by rw [hz]; rfl)
    rw [this]
  have key := k p e s mt args below meth c F hnm H1 locs ls ⟨?_, ⟨Nat.le_trans hS.1 (by omega), fun x h1 h2 => (o1 x (Nat.lt_of_lt_of_le h1 hS.1)).trans (hS.2.1 x h1 h2), hS.2.2⟩, by rw [z1, hsz]; show zB K + g.1 + 1 = zB K + (g.1 + 1); omega⟩ hl
  · have er : rr K (zlo g.1) = .ref H.size := by rw [hsz]; show Value.ref (zB K + zph (zlo g.1)) = _; rw [zph_zlo]
    rw [er] at key
    exact key
  · show va_P K.2.1 vwCl (zws K (g.1 + 1) g.2.1 g.2.2.1 g.2.2.2) H1
    rw [zws_succ]
    refine (hP.kept hk).app (fun q x hx => ?_)
    have hq : q < 1 := (List.getElem?_eq_some_iff.mp hx).1
    rw [show q = 0 by omega] at hx
    cases hx
    rw [hent, ← hcA, ← hsz]
    exact e1
end ZN2
