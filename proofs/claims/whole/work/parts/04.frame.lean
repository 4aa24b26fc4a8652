/-! ===== the judgement: a method of ours, its locals, its stack, the memory ===== -/
abbrev zMi : Type := MethodName × ByteArray × Nat × Option FieldType
def zty (K : zCx) : List (ClassId × FieldType) := [(K.2.2.1.1, .int), (K.2.2.1.2.1, .long), (K.2.2.1.2.2, .object "SizedParts$Part")]
/-- what lies outside: two static rows of numbers, nine texts -/
def zAb : List Int := [-1, 0, 1, 2, 0, 0, 0]
def zOw : List Int := [10, 11, 12, 13, 20, 0, 0, 0, 0, 30, 0, 31, 40, 0, 41, 0, 0, 50, 0, 0, 0, 0, 0, 60, 70, 0, 0, 0]
def zTx : List (Nat × String) := [(107, "wish"), (113, "or"), (115, "and"), (117, "not"), (119, "node"), (121, "flow"), (123, "pace"), (125, "ring"), (127, "feed")]
def zLen : List Nat := zTx.map fun q => q.2.length
def zByt : List (List Int32) := zTx.map fun q => q.2.toList.map fun ch => Int32.ofNat ch.toNat
def zExt (K : zCx) (s : State) : Prop :=
  (va_Z "SizedParts$Acts" "ABOVE" "[I" (.ref (K.2.2.2.2 0)) (zA K) s K.2.2.2.1 ∧ va_T .int (K.2.2.2.2 0) 7 (fun j => .int (iz (zAb.getD j 0))) (zA K) s K.2.2.2.1) ∧
  (va_Z "SizedParts$Acts" "OWN" "[I" (.ref (K.2.2.2.2 1)) (zA K) s K.2.2.2.1 ∧ va_T .int (K.2.2.2.2 1) 28 (fun j => .int (iz (zOw.getD j 0))) (zA K) s K.2.2.2.1) ∧
  va_Z "java/lang/String" "COMPACT_STRINGS" "Z" (.int 1) (zA K) s K.2.2.2.1 ∧ va_Zq "jdk/internal/util/Preconditions" "SIOOBE_FORMATTER" "Ljava/util/function/BiFunction;" (zA K) s K.2.2.2.1 ∧
  vk_S 9 zLen zByt (fun i => K.2.2.2.2 (10 + i)) (fun i => K.2.2.2.2 (30 + i)) (zA K) s K.2.2.2.1 ∧
  ∀ i : Nat, i < 9 → vk_R "SizedParts$Reader" (zTx.getD i (0, "")).1 (zTx.getD i (0, "")).2 (K.2.2.2.2 (10 + i)) s
def zK (K : zCx) (s : State) : Prop := va_K K.2.1 vwCl (zty K) s ∧ (∀ w ∈ zNest, va_Nw w s) ∧ zExt K s
theorem zK.same {K : zCx} {s U : State} (hv : s.vm = U.vm) (h : zK K s) : zK K U := by
  obtain ⟨h1, h2, ⟨⟨a1, a2⟩, ⟨b1, b2⟩, c1, c2, d1, e1⟩⟩ := h
  have hal : s.vm.Alike U.vm := by rw [hv]; exact Vm.Alike.refl _
  have hq : va_Zq "jdk/internal/util/Preconditions" "SIOOBE_FORMATTER" "Ljava/util/function/BiFunction;" (zA K) U K.2.2.2.1 := by
    rcases c2 with c2 | ⟨t, c2⟩
    · exact Or.inl (c2.moved hal)
    · exact Or.inr ⟨t, c2.moved hal⟩
  refine ⟨va_K.moved hal h1, fun w hw => va_Nw.same ?_ hv (h2 w hw), ⟨a1.moved hal, a2.moved hal⟩, ⟨b1.moved hal, b2.moved hal⟩, c1.moved hal, hq, d1.moved hal, fun i hi => (e1 i hi).same hv.symm⟩
  have : zNest.all (fun w => w.onTables) = true := by decide +kernel
  exact List.all_eq_true.mp this w hw
def zIsN (w : Cond) : Bool := match w with
  | .methodLinkNest .. => true
  | _ => false
theorem zNest_warm {s U : State} (hW : s.WarmedH U.vm) : ∀ w ∈ zNest, va_Nw w s → va_Nw w U := by
  intro w hw h
  have h0 : zNest.all zIsN = true := by decide +kernel
  have h1 : zIsN w = true := List.all_eq_true.mp h0 w hw
  cases w with
  | methodLinkNest a i x hh => exact va_Nw.warmM hW h
  | _ => cases h1
theorem zK.warm {K : zCx} {s U : State} (hW : s.WarmedH U.vm) (h : zK K s) : zK K U := by
  obtain ⟨h1, h2, ⟨⟨a1, a2⟩, ⟨b1, b2⟩, c1, c2, d1, e1⟩⟩ := h
  have hal : s.vm.Alike U.vm := hW.alike
  have hq : va_Zq "jdk/internal/util/Preconditions" "SIOOBE_FORMATTER" "Ljava/util/function/BiFunction;" (zA K) U K.2.2.2.1 := by
    rcases c2 with c2 | ⟨t, c2⟩
    · exact Or.inl (c2.moved hal)
    · exact Or.inr ⟨t, c2.moved hal⟩
  exact ⟨va_K.moved hal h1, fun w hw => zNest_warm hW w hw (h2 w hw), ⟨a1.moved hal, a2.moved hal⟩, ⟨b1.moved hal, b2.moved hal⟩, c1.moved hal, hq, d1.moved hal, fun i hi => (e1 i hi).warm hW⟩
def zrm (d : Nat) : Room := { frames := d, cells := 0, slots := 0, locals := 40 * d }
def zrv (ret : Option FieldType) (r : Int) : Option Value := match ret with
  | none => none
  | some _ => some (.int (iz r))
def zRel (K : zCx) (m : zM) (H : Heap) (locs : List Loc) : Prop := va_P K.2.1 vwCl (zwm K m) H ∧ va_S (zA K) K.2.2.2.1 H locs ∧ ∀ a k, inR (m.1 a k)
theorem zRel.nil {K : zCx} {m : zM} {H : Heap} {locs : List Loc} (h : zRel K m H locs) : zRel K m H [] := ⟨h.1, ⟨h.2.1.1, h.2.1.2.1, fun _ h => by cases h⟩, h.2.2⟩
def zQc (K : zCx) (ret : Option FieldType) (Q : Int → zM → Prop) : Array Value → State → Outcome → State → Prop := fun _ _ o t => ∃ (r : Int) (m' : zM), o = .returned (zrv ret r) ∧ inR r ∧ Q r m' ∧ zRel K m' t.heap []
def zFx (K : zCx) (mi : zMi) (p : Program) (s : State) (mt : MethodId) (args : Array Value) (meth : Method) (c : Code) : Prop :=
  p.tables.exec = Jvm.exec ∧ c.code = mi.2.1 ∧ meth.sig.returnType = mi.2.2.2 ∧ c.maxLocals = mi.2.2.1 ∧ s.vm.findClass mi.1.cls = some mt.cls ∧ (∀ w ∈ zW, w.before args s = true) ∧ meth.locks = false ∧ zK K s
def zV (K : zCx) (mi : zMi) (d pc : Nat) (loc : List (Nat × Value)) (stk : List Value) (m : zM) (Q : Int → zM → Prop) : Prop :=
  ∀ (p : Program) (e : Env) (s : State) (mt : MethodId) (args : Array Value) (below : List Frame) (meth : Method) (c : Code), zFx K mi p s mt args meth c →
    ∀ (H : Heap) (locs : List Loc) (ls : Array Slot), zRel K m H locs → lv_has ls mi.2.2.1 loc →
      W p K.1 e (zrm d) s mt args below meth c H locs 0 0 (MQ below (zQc K mi.2.2.2 Q) args s 0 0 (zA K)) (F0 mt pc ls stk)
def zPc (K : zCx) (as : List Value) (m : zM) : Array Value → State → Prop := fun a U => a = as.toArray ∧ zRel K m U.heap [] ∧ zK K U
def zws1 (mi : zMi) : List Cond := Cond.code mi.1 mi.2.1 mi.2.2.1 mi.2.2.2 :: zW
def zCt (K : zCx) (d : Nat) (mi : zMi) (as : List Value) (m : zM) (Q : Int → zM → Prop) : Prop :=
  Met K.1 mi.1 (zws1 mi) (zrm d) (zPc K as m) (zQc K mi.2.2.2 Q) 0 0 (zA K)
theorem zCt.of {K : zCx} {d : Nat} {mi : zMi} {as : List Value} {m : zM} {Q : Int → zM → Prop} (hp : plainName mi.1.cls = true) (hl : (lg_sl as).length ≤ mi.2.2.1) (h : zV K mi d 0 (lv_args 0 as) [] m Q) : zCt K d mi as m Q := by
  refine Met.ofW (cc := mi.2.1) (maxL := mi.2.2.1) (ret := mi.2.2.2) hp rfl ?_
  intro p e s mt args below meth c s₁ B hml hv
  obtain ⟨rfl, hR, hK⟩ := hv
  have hts := atoms_spec (ws := zws1 mi) B.pre
  rw [lg_entry_eq]
  exact h p e s mt _ below meth c ⟨B.exec, B.bytes, B.returns, hml, findClass_of_methodNamed B.named, fun w hw => hts w (List.mem_cons_of_mem _ hw), B.notSynchronized, hK⟩ _ _ _ hR (lv_entry as hl)
theorem zPc.blind {K : zCx} {as : List Value} {m : zM} : FrameBlind (zPc K as m) := fun a U g mk h => ⟨h.1, h.2.1, zK.same (s := U) (U := U.calling g mk a) rfl h.2.2⟩
