/-! ===== constructors: the world as two lists of what was written ===== -/
abbrev zLl : Type := List (Int × Int × Int)
def zIu : zLl → Int → Int → Int
  | [], _, _ => 0
  | e :: l, a, j => if a = e.1 ∧ j = e.2.1 then e.2.2 else zIu l a j
def zRu : zLl → Int → Int → Option Int
  | [], _, _ => none
  | e :: l, a, j => if a = e.1 ∧ j = e.2.1 then some e.2.2 else zRu l a j
def zBd (k : Nat) (l : zLl) : Prop := ∀ e ∈ l, zph e.1 < k
theorem zBd.cons {k : Nat} {a f v : Int} {l : zLl} (ha : zph a < k) (h : zBd k l) : zBd k ((a, f, v) :: l) := by
  intro e he
  rcases List.mem_cons.mp he with rfl | he
  · exact ha
  · exact h e he
theorem zBd.up {k : Nat} {l : zLl} (h : zBd k l) : zBd (k + 1) l := fun e he => by have := h e he; omega
theorem zIu_0 {k : Nat} {l : zLl} (h : zBd k l) : ∀ j, zIu l (zlo k) j = 0 := by
  intro j
  induction l with
  | nil => rfl
  | cons e l ih =>
    have h1 := h e (List.mem_cons_self)
    show (if _ then _ else _) = _
    rw [if_neg (fun q => by rw [← q.1, zph_zlo] at h1; omega)]
    exact ih (fun x hx => h x (List.mem_cons_of_mem _ hx))
theorem zRu_0 {k : Nat} {l : zLl} (h : zBd k l) : ∀ j, zRu l (zlo k) j = none := by
  intro j
  induction l with
  | nil => rfl
  | cons e l ih =>
    have h1 := h e (List.mem_cons_self)
    show (if _ then _ else _) = _
    rw [if_neg (fun q => by rw [← q.1, zph_zlo] at h1; omega)]
    exact ih (fun x hx => h x (List.mem_cons_of_mem _ hx))
theorem zIu_cons {a f v : Int} {l : zLl} : zIu ((a, f, v) :: l) = zup (zIu l) a f v := rfl
abbrev zGs : Type := Nat × zLl × zLl
def zgs (G : zGs) : zG := (G.1, zIu G.2.1, fun _ _ => 0, zRu G.2.2)
def zQs (E : zGs) : zG → Prop := fun g => g = zgs E ∧ zBd E.1 E.2.1 ∧ zBd E.1 E.2.2
def zNs (K : zCx) (mi : zMi) (d cN sN pc : Nat) (loc : List (Nat × Value)) (stk : List Value) (k : Nat) (lI lR : zLl) (c1 c2 : Nat) (E : zGs) : Prop :=
  zBd k lI → zBd k lR → zNj K mi d cN sN pc loc stk (zgs (k, lI, lR)) c1 c2 (zQs E)
theorem zFldC.of {own : String} {idx c k : Nat} {ty : FieldType} {C : String} {T : u_T} {N : Nat} (h : zFld own idx c k) (hc : vwCl[c]? = some (C, T, N)) (ht : ∃ ty0 : Nat → FieldType, ∀ k, k < N → parseFieldDescriptor (T k).2.2.1 = some (ty0 k)) (hn : ∀ a, a < N → ∀ b, b < N → a ≠ b → (T a).2.1 ≠ (T b).2.1) (hf : (T k).2.2.2 = false ∨ ((T k).2.2.2 = true ∧ (T k).1 = own)) (hp : parseFieldDescriptor (T k).2.2.1 = some ty) : zFldC own idx c k ty := by
  obtain ⟨C', T', N', h1, h2, h3, h4⟩ := h
  cases h1.symm.trans hc
  exact ⟨C, T, N, hc, h2, h3, h4, ht, hn, hf, hp⟩
def zCs (K : zCx) (d cN sN : Nat) (mi : zMi) (as : List Value) (k : Nat) (lI lR : zLl) (E : zGs) : Prop :=
  zBd k lI → zBd k lR → zCn K d cN sN mi as (zgs (k, lI, lR)) (zQs E)
theorem zCs.of {K : zCx} {d cN sN : Nat} {mi : zMi} {as : List Value} {k : Nat} {lI lR : zLl} {E : zGs} (hp : plainName mi.1.cls = true) (hnm : mi.1.name = "<init>") (hl : (lg_sl as).length ≤ mi.2.2.1) (h : zNs K mi d cN sN 0 (lv_args 0 as) [] k lI lR 0 0 E) : zCs K d cN sN mi as k lI lR E := fun h1 h2 => zCn.of hp hnm hl (h h1 h2)
section ZN7
variable {K : zCx} {mi : zMi} {d cN sN pc : Nat} {loc : List (Nat × Value)} {stk : List Value} {k : Nat} {lI lR : zLl} {c1 c2 : Nat} {E : zGs}
theorem zs_iconst {n : Int} (hd : decode mi.2.1 pc = .ok (.iconst n, 1)) (kk : zNs K mi d cN sN (pc + 1) loc (.int (iz n) :: stk) k lI lR c1 c2 E) : zNs K mi d cN sN pc loc stk k lI lR c1 c2 E := fun h1 h2 => zn_iconst hd (kk h1 h2)
theorem zs_bipush {n : Int} (hd : decode mi.2.1 pc = .ok (.bipush n, 2)) (hv : (Int8.ofInt n).toInt32 = iz n) (kk : zNs K mi d cN sN (pc + 2) loc (.int (iz n) :: stk) k lI lR c1 c2 E) : zNs K mi d cN sN pc loc stk k lI lR c1 c2 E := fun h1 h2 => zn_bipush hd hv (kk h1 h2)
theorem zs_sipush {n : Int} (hd : decode mi.2.1 pc = .ok (.sipush n, 3)) (hv : (Int16.ofInt n).toInt32 = iz n) (kk : zNs K mi d cN sN (pc + 3) loc (.int (iz n) :: stk) k lI lR c1 c2 E) : zNs K mi d cN sN pc loc stk k lI lR c1 c2 E := fun h1 h2 => zn_sipush hd hv (kk h1 h2)
theorem zs_aload {k4 : Fin 4} {i : Nat} {a : Int} (hd : decode mi.2.1 pc = .ok (.aload_n k4, 1)) (hi : (k4 : Nat) = i) (j : Nat) (hj : loc[j]? = some (i, rr K a)) (kk : zNs K mi d cN sN (pc + 1) loc (rr K a :: stk) k lI lR c1 c2 E) : zNs K mi d cN sN pc loc stk k lI lR c1 c2 E := fun h1 h2 => zn_aload_n hd hi j hj (kk h1 h2)
theorem zs_iload {k4 : Fin 4} {i : Nat} {x : Int32} (hd : decode mi.2.1 pc = .ok (.iload_n k4, 1)) (hi : (k4 : Nat) = i) (j : Nat) (hj : loc[j]? = some (i, .int x)) (kk : zNs K mi d cN sN (pc + 1) loc (.int x :: stk) k lI lR c1 c2 E) : zNs K mi d cN sN pc loc stk k lI lR c1 c2 E := fun h1 h2 => zn_iload_n hd hi j hj (kk h1 h2)
theorem zs_istore {k4 : Fin 4} {i : Nat} {x : Int32} {loc' : List (Nat × Value)} (hd : decode mi.2.1 pc = .ok (.istore_n k4, 1)) (hi : (k4 : Nat) = i) (hn : i < mi.2.2.1) (hl' : (i, Value.int x) :: loc.filter (fun q => !(q.1 == i) && !(q.1 + 1 == i && q.2.category == 2)) = loc') (kk : zNs K mi d cN sN (pc + 1) loc' stk k lI lR c1 c2 E) : zNs K mi d cN sN pc loc (.int x :: stk) k lI lR c1 c2 E := fun h1 h2 => zn_istore_n hd hi hn hl' (kk h1 h2)
theorem zs_iinc {i : Nat} {n x : Int} {loc' : List (Nat × Value)} (hd : decode mi.2.1 pc = .ok (.iinc i n, 3)) (j : Nat) (hj : loc[j]? = some (i, .int (iz x))) (hn : i < mi.2.2.1) (hl' : (i, Value.int (iz (x + n))) :: loc.filter (fun q => !(q.1 == i) && !(q.1 + 1 == i && q.2.category == 2)) = loc') (kk : zNs K mi d cN sN (pc + 3) loc' stk k lI lR c1 c2 E) : zNs K mi d cN sN pc loc stk k lI lR c1 c2 E := fun h1 h2 => zn_iinc hd j hj hn hl' (kk h1 h2)
theorem zs_goto {off : Int} {tgt : Nat} (hd : decode mi.2.1 pc = .ok (.goto off, 3)) (ht : (pc : Int) + off = (tgt : Int)) (kk : zNs K mi d cN sN tgt loc stk k lI lR c1 c2 E) : zNs K mi d cN sN pc loc stk k lI lR c1 c2 E := fun h1 h2 => zn_goto hd ht (kk h1 h2)
theorem zs_ge_no {x y off : Int} {tgt : Nat} (hd : decode mi.2.1 pc = .ok (.if_icmp .ge off, 3)) (ht : (pc : Int) + off = (tgt : Int)) (hx1 : inR x) (hy : inR y) (h : x < y) (kk : zNs K mi d cN sN (pc + 3) loc stk k lI lR c1 c2 E) : zNs K mi d cN sN pc loc (.int (iz y) :: .int (iz x) :: stk) k lI lR c1 c2 E := fun h1 h2 => zn_icmp_ge hd ht hx1 hy (fun q => absurd q (by omega)) (fun _ => kk h1 h2)
theorem zs_ge_yes {x y off : Int} {tgt : Nat} (hd : decode mi.2.1 pc = .ok (.if_icmp .ge off, 3)) (ht : (pc : Int) + off = (tgt : Int)) (hx1 : inR x) (hy : inR y) (h : y ≤ x) (kk : zNs K mi d cN sN tgt loc stk k lI lR c1 c2 E) : zNs K mi d cN sN pc loc (.int (iz y) :: .int (iz x) :: stk) k lI lR c1 c2 E := fun h1 h2 => zn_icmp_ge hd ht hx1 hy (fun _ => kk h1 h2) (fun q => absurd h q)
theorem zs_dup {v : Value} (hd : decode mi.2.1 pc = .ok (.dup, 1)) (hc : v.category = 1) (kk : zNs K mi d cN sN (pc + 1) loc (v :: v :: stk) k lI lR c1 c2 E) : zNs K mi d cN sN pc loc (v :: stk) k lI lR c1 c2 E := fun h1 h2 => zn_dup hd hc (kk h1 h2)
theorem zs_obj {idx : Nat} {a : Int} (hd : decode mi.2.1 pc = .ok (.invokespecial idx, 3)) (hw : Cond.methodLink mi.1.cls idx Lib.objectInit ∈ zW) (h1 : Cond.instanceMethod Lib.objectInit ∈ zW) (h2 : Cond.code Lib.objectInit ⟨#[0xb1]⟩ 1 none ∈ zW) (hc : (stk.map fun v => v.category).sum ≤ 8) (hd1 : 1 ≤ d) (kk : zNs K mi d cN sN (pc + 3) loc stk k lI lR c1 c2 E) : zNs K mi d cN sN pc loc (rr K a :: stk) k lI lR c1 c2 E := fun q1 q2 => zn_objInit hd hw h1 h2 hc hd1 (kk q1 q2)
theorem zs_ret (hret : mi.2.2.2 = none) (hd : decode mi.2.1 pc = .ok (.return_, 1)) (hc : c1 ≤ cN) (hs : c2 ≤ sN) (he : (k, lI, lR) = E) : zNs K mi d cN sN pc loc [] k lI lR c1 c2 E := by
  subst he
  exact fun h1 h2 => zn_vret hret hd hc hs ⟨rfl, h1, h2⟩
theorem zs_newI {n : Int} (N k2 : Nat) (x : Int) (a1 a2 : Nat) (hd : decode mi.2.1 pc = .ok (.newarray .int, 2)) (harr : Cond.arrayClass (newarray.typeOf .int) ∈ zW) (hN : n = N) (hb : N ≤ 10000) (hsh : zsh x = some (0, N)) (hc : c1 + 1 ≤ cN) (hs : c2 + N ≤ sN) (hq : zlo k = x ∧ k + 1 = k2 ∧ c1 + 1 = a1 ∧ c2 + N = a2) (kk : zNs K mi d cN sN (pc + 2) loc (rr K x :: stk) k2 lI lR a1 a2 E) : zNs K mi d cN sN pc loc (.int (iz n) :: stk) k lI lR c1 c2 E := by
  obtain ⟨rfl, rfl, rfl, rfl⟩ := hq
  exact fun h1 h2 => zn_newI (g := zgs (k, lI, lR)) hd harr hN hb hsh (zIu_0 h1) hc hs (kk h1.up h2.up)
theorem zs_newL {n : Int} (N k2 : Nat) (x : Int) (a1 a2 : Nat) (hd : decode mi.2.1 pc = .ok (.newarray .long, 2)) (harr : Cond.arrayClass (newarray.typeOf .long) ∈ zW) (hN : n = N) (hb : N ≤ 10000) (hsh : zsh x = some (1, N)) (hc : c1 + 1 ≤ cN) (hs : c2 + N ≤ sN) (hq : zlo k = x ∧ k + 1 = k2 ∧ c1 + 1 = a1 ∧ c2 + N = a2) (kk : zNs K mi d cN sN (pc + 2) loc (rr K x :: stk) k2 lI lR a1 a2 E) : zNs K mi d cN sN pc loc (.int (iz n) :: stk) k lI lR c1 c2 E := by
  obtain ⟨rfl, rfl, rfl, rfl⟩ := hq
  exact fun h1 h2 => zn_newL (g := zgs (k, lI, lR)) hd harr hN hb hsh (fun _ => rfl) hc hs (kk h1.up h2.up)
theorem zs_newQ {idx : Nat} {n : Int} (N k2 : Nat) (x : Int) (a1 a2 : Nat) (hd : decode mi.2.1 pc = .ok (.anewarray idx, 3)) (hcl : Cond.classLink mi.1.cls idx "SizedParts$Part" ∈ zW) (hN : n = N) (hb : N ≤ 10000) (hsh : zsh x = some (2, N)) (hc : c1 + 1 ≤ cN) (hs : c2 + N ≤ sN) (hq : zlo k = x ∧ k + 1 = k2 ∧ c1 + 1 = a1 ∧ c2 + N = a2) (kk : zNs K mi d cN sN (pc + 3) loc (rr K x :: stk) k2 lI lR a1 a2 E) : zNs K mi d cN sN pc loc (.int (iz n) :: stk) k lI lR c1 c2 E := by
  obtain ⟨rfl, rfl, rfl, rfl⟩ := hq
  exact fun h1 h2 => zn_newQ (g := zgs (k, lI, lR)) hd hcl hN hb hsh (zRu_0 h2) hc hs (kk h1.up h2.up)
/-- what a class is known by, for new -/
def zNwO (own : String) (idx ci N : Nat) : Prop := ∃ (C : String) (T : u_T) (ty : Nat → FieldType), Cond.classLink own idx C ∈ zW ∧ Cond.instantiable C N ∈ zW ∧ Cond.initialized C ∈ zW ∧ (∀ w ∈ u_ws C T N, w ∈ zW) ∧ (∀ k, k < N → parseFieldDescriptor (T k).2.2.1 = some (ty k)) ∧ vwCl[ci]? = some (C, T, N) ∧ ∀ k, k < N → defaultValue (ty k) = (match zkd ci k with
      | 0 => .int 0
      | 1 => .long 0
      | _ => .null)
theorem zs_newO {idx : Nat} (ci N k2 : Nat) (x : Int) (a1 a2 : Nat) (hd : decode mi.2.1 pc = .ok (.new idx, 3)) (hw : zNwO mi.1.cls idx ci N) (hsh : zsh x = some (ci + 3, N)) (hc : c1 + 1 ≤ cN) (hs : c2 + N ≤ sN) (hq : zlo k = x ∧ k + 1 = k2 ∧ c1 + 1 = a1 ∧ c2 + N = a2) (kk : zNs K mi d cN sN (pc + 3) loc (rr K x :: stk) k2 lI lR a1 a2 E) : zNs K mi d cN sN pc loc stk k lI lR c1 c2 E := by
  obtain ⟨rfl, rfl, rfl, rfl⟩ := hq
  obtain ⟨C, T, ty, w1, w2, w3, w4, w5, w6, w7⟩ := hw
  exact fun h1 h2 => zn_newO (g := zgs (k, lI, lR)) ty hd w1 w2 w3 w4 w5 w6 hsh w7 (zIu_0 h1) (fun _ => rfl) (zRu_0 h2) hc hs (kk h1.up h2.up)
theorem zs_iast {a i v : Int} (n : Nat) (hd : decode mi.2.1 pc = .ok (.iastore, 1)) (hs : zsh a = some (0, n)) (ha : (zph a) < k) (h0 : 0 ≤ i) (h1 : i < (n : Int)) (hi : inR i) (kk : zNs K mi d cN sN (pc + 1) loc stk k ((a, i, v) :: lI) lR c1 c2 E) : zNs K mi d cN sN pc loc (.int (iz v) :: .int (iz i) :: rr K a :: stk) k lI lR c1 c2 E := fun q1 q2 => zn_iast (g := zgs (k, lI, lR)) hd hs ha h0 h1 hi (kk (q1.cons ha) q2)
theorem zs_putI {idx c : Nat} (f : Nat) (fz : Int) {n : Nat} {a v : Int} {ty : FieldType} (hd : decode mi.2.1 pc = .ok (.putfield idx, 3)) (hf : zFldC mi.1.cls idx c f ty) (hs : zsh a = some (c + 3, n)) (ha : (zph a) < k) (h0 : zkd c f = 0) (hna : narrow ty (.int (iz v)) = .int (iz v)) (hfit : fits ty (.int (iz v)) = true) (hz : (f : Int) = fz) (kk : zNs K mi d cN sN (pc + 3) loc stk k ((a, fz, v) :: lI) lR c1 c2 E) : zNs K mi d cN sN pc loc (.int (iz v) :: rr K a :: stk) k lI lR c1 c2 E := by
  subst hz
  intro q1 q2
  refine zn_put (g := zgs (k, lI, lR)) (I' := zIu ((a, (f : Int), v) :: lI)) (R' := zRu lR) hd hf hs ha hna hfit (fun b hb j => zup_ne hb j) (fun _ _ _ => rfl) ?_ (fun j hj => ?_) (kk (q1.cons ha) q2)
  · rw [zIu_cons]
    unfold zsv zup
    rw [h0]
    simp
  · show zsv K (zIu lI) _ (zRu lR) c a j = _
    rw [zIu_cons]
    unfold zsv zup
    have : ¬ ((j : Int) = (f : Int)) := by omega
    simp [this]
theorem zs_putR {idx c : Nat} (f : Nat) (fz : Int) {n : Nat} {a x : Int} {ty : FieldType} (hd : decode mi.2.1 pc = .ok (.putfield idx, 3)) (hf : zFldC mi.1.cls idx c f ty) (hs : zsh a = some (c + 3, n)) (ha : (zph a) < k) (h0 : zkd c f = 2) (hna : narrow ty (rr K x) = rr K x) (hfit : fits ty (rr K x) = true) (hz : (f : Int) = fz) (kk : zNs K mi d cN sN (pc + 3) loc stk k lI ((a, fz, x) :: lR) c1 c2 E) : zNs K mi d cN sN pc loc (rr K x :: rr K a :: stk) k lI lR c1 c2 E := by
  subst hz
  intro q1 q2
  refine zn_put (g := zgs (k, lI, lR)) (I' := zIu lI) (R' := zRu ((a, (f : Int), x) :: lR)) hd hf hs ha hna hfit (fun _ _ _ => rfl) (fun b hb j => ?_) ?_ (fun j hj => ?_) (kk q1 (q2.cons ha))
  · show zRu lR b j = if _ then _ else _
    rw [if_neg (fun q => hb q.1)]
  · have e : zRu ((a, (f : Int), x) :: lR) a (f : Int) = some x := by
      show (if _ then _ else _) = _
      rw [if_pos ⟨rfl, rfl⟩]
    unfold zsv
    rw [h0, e]
    rfl
  · have e : zRu ((a, (f : Int), x) :: lR) a (j : Int) = zRu lR a (j : Int) := by
      show (if _ then _ else _) = _
      rw [if_neg (fun q => by have q2 : (j : Int) = (f : Int) := q.2; omega)]
    show zsv K (zIu lI) _ (zRu lR) c a j = _
    unfold zsv
    rw [e]
theorem zs_getR {idx c : Nat} (f : Nat) {n : Nat} {a b : Int} (hd : decode mi.2.1 pc = .ok (.getfield idx, 3)) (hf : zFld mi.1.cls idx c f) (hs : zsh a = some (c + 3, n)) (ha : (zph a) < k) (h0 : zkd c f = 2) (hb0 : zRu lR a (f : Int) = some b) (kk : zNs K mi d cN sN (pc + 3) loc (rr K b :: stk) k lI lR c1 c2 E) : zNs K mi d cN sN pc loc (rr K a :: stk) k lI lR c1 c2 E := fun q1 q2 => zn_getR (g := zgs (k, lI, lR)) hd hf hs ha h0 hb0 (kk q1 q2)
theorem zs_aast {a i x : Int} (n nx : Nat) (hd : decode mi.2.1 pc = .ok (.aastore, 1)) (hs : zsh a = some (2, n)) (ha : (zph a) < k) (hsx : zsh x = some (3 + 3, nx)) (hxa : (zph x) < k) (h0 : 0 ≤ i) (h1 : i < (n : Int)) (hi : inR i) (kk : zNs K mi d cN sN (pc + 1) loc stk k lI ((a, i, x) :: lR) c1 c2 E) : zNs K mi d cN sN pc loc (rr K x :: .int (iz i) :: rr K a :: stk) k lI lR c1 c2 E := fun q1 q2 => zn_aast (g := zgs (k, lI, lR)) (R' := zRu ((a, i, x) :: lR)) hd hs ha hsx hxa h0 h1 hi (fun _ _ => rfl) (kk q1 (q2.cons ha))
theorem zs_call {mc : zMi} {idx n c1' c2' : Nat} {a : Int} {As rest : List Value} {k' : Nat} {lI' lR' : zLl} (a1 a2 : Nat) (hd : decode mi.2.1 pc = .ok (.invokespecial idx, 3)) (hc : zCall mi.1.cls idx mc n) (hin : Cond.instanceMethod mc.1 ∈ zW) (hnm : mc.1.name = "<init>") (hret : mc.2.2.2 = none) (hst : stk = As.reverse ++ rr K a :: rest) (hn : As.length = n) (hw : (rest.map fun v => v.category).sum ≤ 8) (hM : zCs K d c1' c2' mc (rr K a :: As) k lI lR (k', lI', lR')) (hq : c1 + c1' = a1 ∧ c2 + c2' = a2) (hc1 : c1 + c1' ≤ cN) (hc2 : c2 + c2' ≤ sN) (kk : zNs K mi (d + 1) cN sN (pc + 3) loc rest k' lI' lR' a1 a2 E) : zNs K mi (d + 1) cN sN pc loc stk k lI lR c1 c2 E := by
  obtain ⟨rfl, rfl⟩ := hq
  intro q1 q2
  refine zn_call hd hc hin hnm hret hst hn hw (hM q1 q2) hc1 hc2 (fun g' hq => ?_)
  obtain ⟨rfl, h1, h2⟩ := hq
  exact kk h1 h2
theorem zs_callN {mc : zMi} {idx n c1' c2' : Nat} {a : Int} {As rest : List Value} {k' : Nat} {lI' lR' : zLl} (a1 a2 : Nat) (hd : decode mi.2.1 pc = .ok (.invokespecial idx, 3)) (hc : zCallN mi.1.cls idx mc n) (hin : Cond.instanceMethod mc.1 ∈ zW) (hnm : mc.1.name = "<init>") (hret : mc.2.2.2 = none) (hst : stk = As.reverse ++ rr K a :: rest) (hn : As.length = n) (hw : (rest.map fun v => v.category).sum ≤ 8) (hM : zCs K d c1' c2' mc (rr K a :: As) k lI lR (k', lI', lR')) (hq : c1 + c1' = a1 ∧ c2 + c2' = a2) (hc1 : c1 + c1' ≤ cN) (hc2 : c2 + c2' ≤ sN) (kk : zNs K mi (d + 1) cN sN (pc + 3) loc rest k' lI' lR' a1 a2 E) : zNs K mi (d + 1) cN sN pc loc stk k lI lR c1 c2 E := by
  obtain ⟨rfl, rfl⟩ := hq
  intro q1 q2
  refine zn_callN hd hc hin hnm hret hst hn hw (hM q1 q2) hc1 hc2 (fun g' hq => ?_)
  obtain ⟨rfl, h1, h2⟩ := hq
  exact kk h1 h2
end ZN7
