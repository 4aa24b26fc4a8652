/-! ===== rows of fields, arrays, calls ===== -/
theorem zcls_all : ∀ x ∈ zshL, x.1 < 3 ∨ (vwCl[x.1 - 3]?).map (fun q => q.2.2) = some x.2 := by decide +kernel
theorem zsh_cls {a : Int} {c n : Nat} (h : zsh a = some (c + 3, n)) {C : String} {T : u_T} {N : Nat} (hc : vwCl[c]? = some (C, T, N)) : N = n := by
  rcases zcls_all _ (List.mem_of_getElem? (zsh_get h)) with h1 | h1
  · have : c + 3 < 3 := h1
    omega
  · have h2 : (vwCl[c]?).map (fun q => q.2.2) = some n := h1
    rw [hc] at h2
    exact Option.some.inj h2
def zFld (own : String) (idx c k : Nat) : Prop := ∃ (C : String) (T : u_T) (N : Nat), vwCl[c]? = some (C, T, N) ∧ k < N ∧ Cond.fieldLink own idx (T k).1 (T k).2.1 (T k).2.2.1 ∈ zW ∧ ∀ w ∈ u_ws C T N, w ∈ zW
def zFldP (own : String) (idx c k : Nat) (ty : FieldType) : Prop := ∃ (C : String) (T : u_T) (N : Nat), vwCl[c]? = some (C, T, N) ∧ k < N ∧ Cond.fieldLink own idx (T k).1 (T k).2.1 (T k).2.2.1 ∈ zW ∧ (∀ w ∈ u_ws C T N, w ∈ zW) ∧
  (∃ ty0 : Nat → FieldType, ∀ k, k < N → parseFieldDescriptor (T k).2.2.1 = some (ty0 k)) ∧ (∀ a, a < N → ∀ b, b < N → a ≠ b → (T a).2.1 ≠ (T b).2.1) ∧ (T k).2.2.2 = false ∧ parseFieldDescriptor (T k).2.2.1 = some ty
theorem zfs_set {n k : Nat} {F G : Nat → Value} (h : ∀ j, j ≠ k → F j = G j) : ((List.range n).map F).set k (G k) = (List.range n).map G := by
  apply List.ext_getElem?
  intro i
  rw [List.getElem?_set]
  by_cases hi : k = i
  · subst hi
    rw [if_pos rfl]
    by_cases hn : k < n
    · rw [if_pos (by simpa using hn), List.getElem?_map, List.getElem?_range hn]; rfl
    · rw [if_neg (by simpa using hn), List.getElem?_map, List.getElem?_eq_none (by simpa using hn)]; rfl
  · rw [if_neg hi, List.getElem?_map, List.getElem?_map]
    cases hj : (List.range n)[i]? with
    | none => rfl
    | some j =>
      have : j = i := by
        have hl := (List.getElem?_eq_some_iff.mp hj).1
        rw [List.getElem?_range (by simpa using hl)] at hj
        exact (Option.some.inj hj).symm
      subst this
      exact congrArg some (h j (fun e => hi e.symm))
theorem zfs_get {n k : Nat} {F : Nat → Value} (h : k < n) : ((List.range n).map F)[k]? = some (F k) := by rw [List.getElem?_map, List.getElem?_range h]; rfl
section ZX
variable {K : zCx} {m : zM} {I : Int → Int → Int} {L : Int → Int → Int64} {R : Int → Int → Option Int} {a : Int} {c n : Nat}
theorem zent_o (h : zsh a = some (c + 3, n)) : zent K I L R a = .inr (c, (List.range n).map (zsv K I L R c a)) := by unfold zent; rw [h]
theorem zent_i (h : zsh a = some (0, n)) : zent K I L R a = .inl (K.2.2.1.1, n, .inl (fun j => iz (I a j))) := by unfold zent; rw [h]
theorem zent_l (h : zsh a = some (1, n)) : zent K I L R a = .inl (K.2.2.1.2.1, n, .inr (.inl (fun j => L a j))) := by unfold zent; rw [h]
theorem zent_q (h : zsh a = some (2, n)) : zent K I L R a = .inl (K.2.2.1.2.2, n, .inr (.inr (.inr (.inr (fun j => zad K (R a j)))))) := by unfold zent; rw [h]
theorem zwm_get {x : Nat × Nat} (h : zsh a = some x) : (zwm K m)[(zph a)]? = some (zB K + (zph a), zent K m.1 m.2.1 (zR m.2.2) a) := zws_get (zsh_nn h) (zph_lt h)
theorem zup_ne {f : Int → Int → Int} {a k v b : Int} (h : b ≠ a) (j : Int) : f b j = zup f a k v b j := by unfold zup; rw [if_neg (fun q => h q.1)]
theorem zupL_ne {f : Int → Int → Int64} {a k : Int} {v : Int64} {b : Int} (h : b ≠ a) (j : Int) : f b j = zupL f a k v b j := by unfold zupL; rw [if_neg (fun q => h q.1)]
theorem zwm_sI {k v : Int} (h0 : 0 ≤ a) : (zwm K m).set (zph a) (zB K + (zph a), zent K (zup m.1 a k v) m.2.1 (zR m.2.2) a) = zwm K (sI m a k v) := zws_set h0 (fun b hb => ⟨fun j => zup_ne hb j, fun _ => rfl, fun _ => rfl⟩)
theorem zwm_sL {k : Int} {v : Int64} (h0 : 0 ≤ a) : (zwm K m).set (zph a) (zB K + (zph a), zent K m.1 (zupL m.2.1 a k v) (zR m.2.2) a) = zwm K (sL m a k v) := zws_set h0 (fun b hb => ⟨fun _ => rfl, fun j => zupL_ne hb j, fun _ => rfl⟩)
theorem zR_ne {t t' b : Int} (h : b ≠ zBn) (j : Int) : zR t b j = zR t' b j := by
  have h1 : ¬ (b = zBn ∧ j = 15) := fun q => h q.1
  unfold zR
  simp only [if_neg h1]
theorem zwm_sT {t : Int} : (zwm K m).set (zph zBn) (zB K + (zph zBn), zent K m.1 m.2.1 (zR t) zBn) = zwm K (sT m t) := zws_set (by decide) (fun b hb => ⟨fun _ => rfl, fun _ => rfl, fun j => zR_ne hb j⟩)
theorem inR_zup {f : Int → Int → Int} {a k v : Int} (h : ∀ a k, inR (f a k)) (hv : inR v) : ∀ b j, inR (zup f a k v b j) := by
  intro b j
  unfold zup
  split
  · exact hv
  · exact h b j
end ZX
section ZR
variable {K : zCx} {mi : zMi} {d pc : Nat} {loc : List (Nat × Value)} {stk : List Value} {m : zM} {Q : Int → zM → Prop}
theorem zV_getI {idx c k n : Nat} {a kz : Int} (hd : decode mi.2.1 pc = .ok (.getfield idx, 3)) (hf : zFld mi.1.cls idx c k) (hs : zsh a = some (c + 3, n)) (h0 : zkd c k = 0) (hz : (k : Int) = kz) (kk : zV K mi d (pc + 3) loc (.int (iz (m.1 a kz)) :: stk) m Q) : zV K mi d pc loc (rr K a :: stk) m Q := by
  intro p e s mt args below meth cd F H locs ls hR hl
  obtain ⟨hx, hb, hr, hml, hown, hts, hlk, hK⟩ := id F
  obtain ⟨C, T, N, hc, hk, hlink, hin⟩ := hf
  have hn := zsh_cls hs hc
  subst hn
  have he := zwm_get (K := K) (m := m) hs
  rw [zent_o hs] at he
  refine va_get (D := K.2.1) (ci := c) (v := .int (iz (m.1 a kz))) (C := C) (T := T) (N := N) hx hb hts hin hown hK.1 hR.1 (zph a) he hc k hk (hts _ hlink) (fun _ h => h) ?_ hd (kk p e s mt args below meth cd F H locs ls hR hl)
  rw [zfs_get hk]
  unfold zsv
  rw [h0, hz]
  rfl
theorem zV_getL {idx c k n : Nat} {a kz : Int} (hd : decode mi.2.1 pc = .ok (.getfield idx, 3)) (hf : zFld mi.1.cls idx c k) (hs : zsh a = some (c + 3, n)) (h0 : zkd c k = 1) (hz : (k : Int) = kz) (kk : zV K mi d (pc + 3) loc (.long (m.2.1 a kz) :: stk) m Q) : zV K mi d pc loc (rr K a :: stk) m Q := by
  intro p e s mt args below meth cd F H locs ls hR hl
  obtain ⟨hx, hb, hr, hml, hown, hts, hlk, hK⟩ := id F
  obtain ⟨C, T, N, hc, hk, hlink, hin⟩ := hf
  have hn := zsh_cls hs hc
  subst hn
  have he := zwm_get (K := K) (m := m) hs
  rw [zent_o hs] at he
  refine va_get (D := K.2.1) (ci := c) (v := .long (m.2.1 a kz)) (C := C) (T := T) (N := N) hx hb hts hin hown hK.1 hR.1 (zph a) he hc k hk (hts _ hlink) (fun _ h => h) ?_ hd (kk p e s mt args below meth cd F H locs ls hR hl)
  rw [zfs_get hk]
  unfold zsv
  rw [h0, hz]
  rfl
theorem zV_getR {idx c k n : Nat} {a b : Int} (hd : decode mi.2.1 pc = .ok (.getfield idx, 3)) (hf : zFld mi.1.cls idx c k) (hs : zsh a = some (c + 3, n)) (h0 : zkd c k = 2) (hb0 : zR m.2.2 a (k : Int) = some b) (kk : zV K mi d (pc + 3) loc (rr K b :: stk) m Q) : zV K mi d pc loc (rr K a :: stk) m Q := by
  intro p e s mt args below meth cd F H locs ls hR hl
  obtain ⟨hx, hb, hr, hml, hown, hts, hlk, hK⟩ := id F
  obtain ⟨C, T, N, hc, hk, hlink, hin⟩ := hf
  have hn := zsh_cls hs hc
  subst hn
  have he := zwm_get (K := K) (m := m) hs
  rw [zent_o hs] at he
  refine va_get (D := K.2.1) (ci := c) (v := rr K b) (C := C) (T := T) (N := N) hx hb hts hin hown hK.1 hR.1 (zph a) he hc k hk (hts _ hlink) (fun _ h => h) ?_ hd (kk p e s mt args below meth cd F H locs ls hR hl)
  rw [zfs_get hk]
  unfold zsv
  rw [h0, hb0]
  rfl
theorem zV_putI {idx c k n : Nat} {a kz v : Int} {ty : FieldType} (hd : decode mi.2.1 pc = .ok (.putfield idx, 3)) (hf : zFldP mi.1.cls idx c k ty) (hs : zsh a = some (c + 3, n)) (h0 : zkd c k = 0) (hz : (k : Int) = kz) (hv : inR v) (hna : narrow ty (.int (iz v)) = .int (iz v)) (hfit : fits ty (.int (iz v)) = true) (kk : zV K mi d (pc + 3) loc stk (sI m a kz v) Q) : zV K mi d pc loc (.int (iz v) :: rr K a :: stk) m Q := by
  intro p e s mt args below meth cd F H locs ls hR hl
  obtain ⟨hx, hb, hr, hml, hown, hts, hlk, hK⟩ := id F
  obtain ⟨C, T, N, hc, hk, hlink, hin, ⟨ty0, hty⟩, hnm, hfin, hpd⟩ := hf
  have hn := zsh_cls hs hc
  subst hn
  have he := zwm_get (K := K) (m := m) hs
  rw [zent_o hs] at he
  refine va_put (D := K.2.1) (ci := c) (v := .int (iz v)) (C := C) (T := T) (N := N) hx hb hts hin ty0 hty hnm hown hK.1 hR.1 zws_D hR.2.1 (zph a) he hc k hk (hts _ hlink) (fun _ h => h) hfin hpd hna hfit (by simpa using hk) hd (fun H1 locs1 hP1 hD1 hS1 => ?_)
  refine kk p e s mt args below meth cd F H1 locs1 ls ⟨?_, hS1, inR_zup hR.2.2 hv⟩ hl
  rw [← zwm_sI (zsh_nn hs), zent_o hs, ← zfs_set (k := k) (F := zsv K m.1 m.2.1 (zR m.2.2) c a)]
  · have : zsv K (zup m.1 a kz v) m.2.1 (zR m.2.2) c a k = .int (iz v) := by
      unfold zsv zup
      rw [h0, hz]
      simp
    rw [this]
    exact hP1
  · intro j hj
    unfold zsv zup
    have : ¬ ((j : Int) = kz) := by omega
    simp [this]
theorem zV_putL {idx c k n : Nat} {a kz : Int} {v : Int64} (hd : decode mi.2.1 pc = .ok (.putfield idx, 3)) (hf : zFldP mi.1.cls idx c k .long) (hs : zsh a = some (c + 3, n)) (h0 : zkd c k = 1) (hz : (k : Int) = kz) (kk : zV K mi d (pc + 3) loc stk (sL m a kz v) Q) : zV K mi d pc loc (.long v :: rr K a :: stk) m Q := by
  intro p e s mt args below meth cd F H locs ls hR hl
  obtain ⟨hx, hb, hr, hml, hown, hts, hlk, hK⟩ := id F
  obtain ⟨C, T, N, hc, hk, hlink, hin, ⟨ty0, hty⟩, hnm, hfin, hpd⟩ := hf
  have hn := zsh_cls hs hc
  subst hn
  have he := zwm_get (K := K) (m := m) hs
  rw [zent_o hs] at he
  refine va_put (D := K.2.1) (ci := c) (v := .long v) (C := C) (T := T) (N := N) hx hb hts hin ty0 hty hnm hown hK.1 hR.1 zws_D hR.2.1 (zph a) he hc k hk (hts _ hlink) (fun _ h => h) hfin hpd rfl rfl (by simpa using hk) hd (fun H1 locs1 hP1 hD1 hS1 => ?_)
  refine kk p e s mt args below meth cd F H1 locs1 ls ⟨?_, hS1, hR.2.2⟩ hl
  rw [← zwm_sL (zsh_nn hs), zent_o hs, ← zfs_set (k := k) (F := zsv K m.1 m.2.1 (zR m.2.2) c a)]
  · have : zsv K m.1 (zupL m.2.1 a kz v) (zR m.2.2) c a k = .long v := by
      unfold zsv zupL
      rw [h0, hz]
      simp
    rw [this]
    exact hP1
  · intro j hj
    unfold zsv zupL
    have : ¬ ((j : Int) = kz) := by omega
    simp [this]
/-- Bench.tables: the one reference that is set anew -/
theorem zV_putT {idx n : Nat} {b : Int} (hd : decode mi.2.1 pc = .ok (.putfield idx, 3)) (hf : zFldP mi.1.cls idx 1 15 (.array .int)) (hs : zsh zBn = some (1 + 3, n)) (kk : zV K mi d (pc + 3) loc stk (sT m b) Q) : zV K mi d pc loc (rr K b :: rr K zBn :: stk) m Q := by
  intro p e s mt args below meth cd F H locs ls hR hl
  obtain ⟨hx, hb, hr, hml, hown, hts, hlk, hK⟩ := id F
  obtain ⟨C, T, N, hc, hk, hlink, hin, ⟨ty0, hty⟩, hnm, hfin, hpd⟩ := hf
  have hn := zsh_cls hs hc
  subst hn
  have he := zwm_get (K := K) (m := m) hs
  rw [zent_o hs] at he
  refine va_put (D := K.2.1) (ci := 1) (v := rr K b) (C := C) (T := T) (N := N) hx hb hts hin ty0 hty hnm hown hK.1 hR.1 zws_D hR.2.1 (zph zBn) he hc 15 hk (hts _ hlink) (fun _ h => h) hfin hpd rfl rfl (by simpa using hk) hd (fun H1 locs1 hP1 hD1 hS1 => ?_)
  refine kk p e s mt args below meth cd F H1 locs1 ls ⟨?_, hS1, hR.2.2⟩ hl
  rw [← zwm_sT, zent_o hs, ← zfs_set (k := 15) (F := zsv K m.1 m.2.1 (zR m.2.2) 1 zBn)]
  · exact hP1
  · intro j hj
    unfold zsv zR
    have : ¬ ((j : Int) = 15) := by omega
    simp [this]
theorem zV_iald {a i : Int} {n : Nat} (hd : decode mi.2.1 pc = .ok (.iaload, 1)) (hs : zsh a = some (0, n)) (h0 : 0 ≤ i) (h1 : i < (n : Int)) (hi : inR i) (kk : zV K mi d (pc + 1) loc (.int (iz (m.1 a i)) :: stk) m Q) : zV K mi d pc loc (.int (iz i) :: rr K a :: stk) m Q := by
  intro p e s mt args below meth cd F H locs ls hR hl
  obtain ⟨hx, hb, hr, hml, hown, hts, hlk, hK⟩ := id F
  have he := zwm_get (K := K) (m := m) hs
  rw [zent_i hs] at he
  refine va_iald (D := K.2.1) hx hb hK.1 hR.1 (zph a) 0 he rfl (iz_in h0 h1 hi) hd ?_
  rw [iz_clamp h0 hi, Int.toNat_of_nonneg h0]
  exact kk p e s mt args below meth cd F H locs ls hR hl
theorem zV_lald {a i : Int} {n : Nat} (hd : decode mi.2.1 pc = .ok (.laload, 1)) (hs : zsh a = some (1, n)) (h0 : 0 ≤ i) (h1 : i < (n : Int)) (hi : inR i) (kk : zV K mi d (pc + 1) loc (.long (m.2.1 a i) :: stk) m Q) : zV K mi d pc loc (.int (iz i) :: rr K a :: stk) m Q := by
  intro p e s mt args below meth cd F H locs ls hR hl
  obtain ⟨hx, hb, hr, hml, hown, hts, hlk, hK⟩ := id F
  have he := zwm_get (K := K) (m := m) hs
  rw [zent_l hs] at he
  refine va_lald (D := K.2.1) hx hb hK.1 hR.1 (zph a) 1 he rfl (iz_in h0 h1 hi) hd ?_
  rw [iz_clamp h0 hi, Int.toNat_of_nonneg h0]
  exact kk p e s mt args below meth cd F H locs ls hR hl
theorem zV_aald {a i b : Int} {n : Nat} (hd : decode mi.2.1 pc = .ok (.aaload, 1)) (hs : zsh a = some (2, n)) (h0 : 0 ≤ i) (h1 : i < (n : Int)) (hi : inR i) (hb0 : zR m.2.2 a i = some b) (kk : zV K mi d (pc + 1) loc (rr K b :: stk) m Q) : zV K mi d pc loc (.int (iz i) :: rr K a :: stk) m Q := by
  intro p e s mt args below meth cd F H locs ls hR hl
  obtain ⟨hx, hb, hr, hml, hown, hts, hlk, hK⟩ := id F
  have he := zwm_get (K := K) (m := m) hs
  rw [zent_q hs] at he
  refine va_aldq (D := K.2.1) hx hb hK.1 hR.1 (zph a) 2 he rfl (iz_in h0 h1 hi) hd ?_
  rw [iz_clamp h0 hi, Int.toNat_of_nonneg h0, hb0]
  exact kk p e s mt args below meth cd F H locs ls hR hl
theorem zV_iast {a i v : Int} {n : Nat} (hd : decode mi.2.1 pc = .ok (.iastore, 1)) (hs : zsh a = some (0, n)) (h0 : 0 ≤ i) (h1 : i < (n : Int)) (hi : inR i) (hv : inR v) (kk : zV K mi d (pc + 1) loc stk (sI m a i v) Q) : zV K mi d pc loc (.int (iz v) :: .int (iz i) :: rr K a :: stk) m Q := by
  intro p e s mt args below meth cd F H locs ls hR hl
  obtain ⟨hx, hb, hr, hml, hown, hts, hlk, hK⟩ := id F
  have he := zwm_get (K := K) (m := m) hs
  rw [zent_i hs] at he
  refine va_iast (D := K.2.1) hx hb hK.1 hR.1 zws_D hR.2.1 (zph a) 0 he rfl (iz_in h0 h1 hi) hd (fun H1 locs1 hP1 hD1 hS1 => ?_)
  refine kk p e s mt args below meth cd F H1 locs1 ls ⟨?_, hS1, inR_zup hR.2.2 hv⟩ hl
  rw [← zwm_sI (zsh_nn hs), zent_i hs]
  have : (fun j : Nat => iz (zup m.1 a i v a j)) = upd (fun j : Nat => iz (m.1 a j)) (iz i).toNatClampNeg (iz v) := by
    funext j
    rw [iz_clamp h0 hi]
    unfold zup upd
    by_cases hj : j = i.toNat
    · have : (j : Int) = i := by omega
      simp [hj, Int.toNat_of_nonneg h0]
    · have : ¬ (j : Int) = i := by omega
      simp [hj, this]
  rw [this]
  exact hP1
theorem zV_last {a i : Int} {v : Int64} {n : Nat} (hd : decode mi.2.1 pc = .ok (.lastore, 1)) (hs : zsh a = some (1, n)) (h0 : 0 ≤ i) (h1 : i < (n : Int)) (hi : inR i) (kk : zV K mi d (pc + 1) loc stk (sL m a i v) Q) : zV K mi d pc loc (.long v :: .int (iz i) :: rr K a :: stk) m Q := by
  intro p e s mt args below meth cd F H locs ls hR hl
  obtain ⟨hx, hb, hr, hml, hown, hts, hlk, hK⟩ := id F
  have he := zwm_get (K := K) (m := m) hs
  rw [zent_l hs] at he
  refine va_last (D := K.2.1) hx hb hK.1 hR.1 zws_D hR.2.1 (zph a) 1 he rfl (iz_in h0 h1 hi) hd (fun H1 locs1 hP1 hD1 hS1 => ?_)
  refine kk p e s mt args below meth cd F H1 locs1 ls ⟨?_, hS1, hR.2.2⟩ hl
  rw [← zwm_sL (zsh_nn hs), zent_l hs]
  have : (fun j : Nat => zupL m.2.1 a i v a j) = vp_updL (fun j : Nat => m.2.1 a j) (iz i).toNatClampNeg v := by
    funext j
    rw [iz_clamp h0 hi]
    unfold zupL vp_updL
    by_cases hj : j = i.toNat
    · have : (j : Int) = i := by omega
      simp [hj, Int.toNat_of_nonneg h0]
    · have : ¬ (j : Int) = i := by omega
      simp [hj, this]
  rw [this]
  exact hP1
theorem zV_alen {a : Int} {t n : Nat} (hd : decode mi.2.1 pc = .ok (.arraylength, 1)) (hs : zsh a = some (t, n)) (ht : t < 2) (kk : zV K mi d (pc + 1) loc (.int (iz n) :: stk) m Q) : zV K mi d pc loc (rr K a :: stk) m Q := by
  intro p e s mt args below meth cd F H locs ls hR hl
  obtain ⟨hx, hb, hr, hml, hown, hts, hlk, hK⟩ := id F
  have he := zwm_get (K := K) (m := m) hs
  have hv : Int32.ofNat n = iz n := rfl
  match t, hs, ht with
  | 0, hs, _ =>
    rw [zent_i hs] at he
    exact va_alen (D := K.2.1) hx hb hK.1 hR.1 (zph a) 0 he rfl hv hd (kk p e s mt args below meth cd F H locs ls hR hl)
  | 1, hs, _ =>
    rw [zent_l hs] at he
    exact va_alen (D := K.2.1) hx hb hK.1 hR.1 (zph a) 1 he rfl hv hd (kk p e s mt args below meth cd F H locs ls hR hl)
/-! calls -/
def zCall (own : String) (idx : Nat) (mc : zMi) (n : Nat) : Prop := Cond.methodLink own idx mc.1 ∈ zW ∧ Cond.initialized mc.1.cls ∈ zW ∧ Cond.code mc.1 mc.2.1 mc.2.2.1 mc.2.2.2 ∈ zW ∧ (mc.1.cls ≠ "java/lang/invoke/MethodHandle" ∧ mc.1.cls ≠ "java/lang/invoke/VarHandle" ∧ (parseMethodDescriptor mc.1.desc).map (fun d => d.parameters.length) = some n) ∧ mc.2.2.1 ≤ 21
def zCallN (own : String) (idx : Nat) (mc : zMi) (n : Nat) : Prop := Cond.methodLinkNest own idx mc.1 "SizedParts" ∈ zNest ∧ Cond.initialized mc.1.cls ∈ zW ∧ Cond.code mc.1 mc.2.1 mc.2.2.1 mc.2.2.2 ∈ zW ∧ (mc.1.cls ≠ "java/lang/invoke/MethodHandle" ∧ mc.1.cls ≠ "java/lang/invoke/VarHandle" ∧ (parseMethodDescriptor mc.1.desc).map (fun d => d.parameters.length) = some n) ∧ mc.2.2.1 ≤ 21
/-- what comes back from a call lies on the stack -/
def zpu (ret : Option FieldType) (r : Int) (rest : List Value) : List Value := (zrv ret r).toList ++ rest
theorem zback {p : Program} {e : Env} {R : Room} {s : State} {mt : MethodId} {args : Array Value} {below : List Frame} {meth : Method} {c : Code} {H : Heap} {locs : List Loc} {cells slots : Nat} {Qs : State → Prop} {pc : Nat} {ls : Array Slot} {st0 rest : List Value} {a : Array Value} {ret : Option FieldType} {Q' : Int → zM → Prop} {m : zM}
    (hr : va_Run p K.1 e R s mt args below meth c H locs cells slots 0 0 (F0 mt pc ls st0) rest (zQc K ret Q' a) (zA K)) (hR : zRel K m H locs)
    (kk : ∀ (r : Int) (m' : zM) (H1 : Heap) (locs1 : List Loc), inR r → Q' r m' → zRel K m' H1 locs1 → W p K.1 e R s mt args below meth c H1 locs1 cells slots Qs (F0 mt (pc + 3) ls (zpu ret r rest))) : W p K.1 e R s mt args below meth c H locs cells slots Qs (F0 mt pc ls st0) := by
  intro T hT X
  obtain ⟨v, st₀, t, T', L, h0, X', hL, e1, e2, ⟨r, m', hv, hi, hq, hRel⟩, st⟩ := hr T hT X
  cases hv
  obtain ⟨t2, a1, b1⟩ := kk r m' T'.heap (locs ++ L) hi hq ⟨by rw [e1]; exact hRel.1, ⟨by rw [e1]; exact hRel.2.1.1, by rw [e1]; exact hRel.2.1.2.1, fun q hq => by
      rcases List.mem_append.mp hq with h | h
      · exact hR.2.1.2.2 q h
      · exact hL q h⟩, hRel.2.2⟩ T' rfl X'
  exact ⟨t2, st t2 a1, b1⟩
theorem zV_callV {mc : zMi} {idx c n n0 : Nat} {a : Int} {As rest : List Value} {Q' : Int → zM → Prop} (hd : decode mi.2.1 pc = .ok (.invokevirtual idx, 3)) (hc : zCall mi.1.cls idx mc n) (hin : Cond.instanceMethod mc.1 ∈ zW) (hse : Cond.selects mc.1.cls mc.1 mc.1 ∈ zW) (hs : zsh a = some (c + 3, n0)) (hC : (vwCl[c]?).map (fun q => q.1) = some mc.1.cls) (hst : stk = As.reverse ++ rr K a :: rest) (hn : As.length = n) (hw : (rest.map fun v => v.category).sum ≤ 8) (hM : zCt K d mc (rr K a :: As) m Q')
    (kk : ∀ r m', inR r → Q' r m' → zV K mi (d + 1) (pc + 3) loc (zpu mc.2.2.2 r rest) m' Q) : zV K mi (d + 1) pc loc stk m Q := by
  subst hst
  intro p e s mt args below meth cd F H locs ls hR hl
  obtain ⟨hx, hb, hr, hml, hown, hts, hlk, hK⟩ := id F
  obtain ⟨g1, g2, g3, g4, g5⟩ := hc
  have he := zwm_get (K := K) (m := m) hs
  rw [zent_o hs] at he
  cases hq : vwCl[c]? with
  | none => rw [hq] at hC; cases hC
  | some q =>
    rw [hq] at hC
    have hC : q.1 = mc.1.cls := Option.some.inj hC
    have hrecv := va_recv hK.1 hR.1 hq he
    rw [hC] at hrecv
    refine zback (va_runV (As := As) (rest := rest) (C := mc.1.cls) (bytes := mc.2.1) (maxL := mc.2.2.1) (ret := mc.2.2.2) ⟨hx, hb, hml, hown, hts⟩ hM ⟨callB_of n hts (zW_good g3 (fun _ h => h)) rfl rfl rfl (hts _ g2) (hts _ g1) g4 ⟨Nat.le_refl _, by show 8 + (mc.2.2.1 + 11) + 40 * d ≤ 40 * (d + 1); omega⟩, hts _ hin, hts _ hse⟩ ⟨zPc.blind, hrecv, fun U hU hW => ⟨rfl, by rw [hU]; exact hR.nil, hK.warm hW⟩⟩ rfl hn hl.1 rfl (lv_room hw) hd ⟨Nat.le_refl _, Nat.le_refl _⟩) hR (fun r m' H1 locs1 hi hq hR1 => ?_)
    exact kk r m' hi hq p e s mt args below meth cd F H1 locs1 ls hR1 hl
theorem zV_callS {mc : zMi} {idx n : Nat} {As rest : List Value} {Q' : Int → zM → Prop} (hd : decode mi.2.1 pc = .ok (.invokestatic idx, 3)) (hc : zCall mi.1.cls idx mc n) (hin : Cond.static mc.1 ∈ zW) (hst : stk = As.reverse ++ rest) (hn : As.length = n) (hw : (rest.map fun v => v.category).sum ≤ 8) (hM : zCt K d mc As m Q')
    (kk : ∀ r m', inR r → Q' r m' → zV K mi (d + 1) (pc + 3) loc (zpu mc.2.2.2 r rest) m' Q) : zV K mi (d + 1) pc loc stk m Q := by
  subst hst
  intro p e s mt args below meth cd F H locs ls hR hl
  obtain ⟨hx, hb, hr, hml, hown, hts, hlk, hK⟩ := id F
  obtain ⟨g1, g2, g3, g4, g5⟩ := hc
  refine zback (va_runS (As := As) (rest := rest) (bytes := mc.2.1) (maxL := mc.2.2.1) (ret := mc.2.2.2) ⟨hx, hb, hml, hown, hts⟩ hM ⟨callB_of n hts (zW_good g3 (fun _ h => h)) rfl rfl rfl (hts _ g2) (hts _ g1) g4 ⟨Nat.le_refl _, by show 8 + (mc.2.2.1 + 11) + 40 * d ≤ 40 * (d + 1); omega⟩, hts _ hin⟩ ⟨zPc.blind, fun U hU hW => ⟨rfl, by rw [hU]; exact hR.nil, hK.warm hW⟩⟩ rfl hn hl.1 rfl (lv_room hw) hd ⟨Nat.le_refl _, Nat.le_refl _⟩) hR (fun r m' H1 locs1 hi hq hR1 => ?_)
  exact kk r m' hi hq p e s mt args below meth cd F H1 locs1 ls hR1 hl
theorem zV_callSN {mc : zMi} {idx n : Nat} {As rest : List Value} {Q' : Int → zM → Prop} (hd : decode mi.2.1 pc = .ok (.invokestatic idx, 3)) (hc : zCallN mi.1.cls idx mc n) (hin : Cond.static mc.1 ∈ zW) (hst : stk = As.reverse ++ rest) (hn : As.length = n) (hw : (rest.map fun v => v.category).sum ≤ 8) (hM : zCt K d mc As m Q')
    (kk : ∀ r m', inR r → Q' r m' → zV K mi (d + 1) (pc + 3) loc (zpu mc.2.2.2 r rest) m' Q) : zV K mi (d + 1) pc loc stk m Q := by
  subst hst
  intro p e s mt args below meth cd F H locs ls hR hl
  obtain ⟨hx, hb, hr, hml, hown, hts, hlk, hK⟩ := id F
  obtain ⟨g1, g2, g3, g4, g5⟩ := hc
  refine zback (va_runSN (As := As) (rest := rest) (bytes := mc.2.1) (maxL := mc.2.2.1) (ret := mc.2.2.2) ⟨hx, hb, hml, hown, hts⟩ hM ⟨va_cnB n hts (zW_good g3 (fun _ h => h)) rfl rfl rfl (hK.2.1 _ g1) (hts _ g2) g4 ⟨Nat.le_refl _, by show 8 + (mc.2.2.1 + 11) + 40 * d ≤ 40 * (d + 1); omega⟩, hts _ hin, trivial⟩ ⟨zPc.blind, fun U hU hW => ⟨rfl, by rw [hU]; exact hR.nil, hK.warm hW⟩⟩ rfl hn hl.1 rfl (lv_room hw) hd ⟨Nat.le_refl _, Nat.le_refl _⟩) hR (fun r m' H1 locs1 hi hq hR1 => ?_)
  exact kk r m' hi hq p e s mt args below meth cd F H1 locs1 ls hR1 hl
/-! what lies outside -/
theorem zV_gets {idx j N : Nat} {nm : String} {f : Nat → Value} (hd : decode mi.2.1 pc = .ok (.getstatic idx, 3)) (hw : Cond.fieldLink mi.1.cls idx "SizedParts$Acts" nm "[I" ∈ zW) (hE : ∀ s, zExt K s → va_Z "SizedParts$Acts" nm "[I" (.ref (K.2.2.2.2 j)) (zA K) s K.2.2.2.1) (kk : zV K mi d (pc + 3) loc (.ref (K.2.2.2.2 j) :: stk) m Q) : zV K mi d pc loc stk m Q := by
  intro p e s mt args below meth cd F H locs ls hR hl
  obtain ⟨hx, hb, hr, hml, hown, hts, hlk, hK⟩ := id F
  obtain ⟨cf, kf, fi, f, a, cell, h1, h2, h3, h4, h5, h6, h7, h8⟩ := hE s hK.2.2
  exact W.gets hx hb hown (hts _ hw) h1 h2 h3 h4 (by rw [hR.2.1.2.1 a (Array.getElem?_eq_some_iff.mp h5).1 h8]; exact h5) (fun e => by rw [e] at h6; cases h6) h7 rfl hd (kk p e s mt args below meth cd F H locs ls hR hl)
theorem zV_ialdX {j N : Nat} {i : Int} {f : List Int} (hd : decode mi.2.1 pc = .ok (.iaload, 1)) (hE : ∀ s, zExt K s → va_T .int (K.2.2.2.2 j) N (fun j => .int (iz (f.getD j 0))) (zA K) s K.2.2.2.1) (h0 : 0 ≤ i) (h1 : i < (N : Int)) (hi : inR i) (kk : zV K mi d (pc + 1) loc (.int (iz (f.getD i.toNat 0)) :: stk) m Q) : zV K mi d pc loc (.int (iz i) :: .ref (K.2.2.2.2 j) :: stk) m Q := by
  intro p e s mt args below meth cd F H locs ls hR hl
  obtain ⟨hx, hb, hr, hml, hown, hts, hlk, hK⟩ := id F
  obtain ⟨cell, g1, g2, g3, g4, g5, g6, g7⟩ := hE s hK.2.2
  have hlt : i.toNat < N := by omega
  refine W.iald (v := .int (iz (f.getD i.toNat 0))) hx hb (by rw [hR.2.1.2.1 _ (Array.getElem?_eq_some_iff.mp g1).1 g7]; exact g1) g2 g3 ?_ ?_ rfl rfl hd (kk p e s mt args below meth cd F H locs ls hR hl)
  · rw [iz_clamp h0 hi]
    intro q
    rcases q with q | q
    · have := (iz_lt hi inR_0).mp q
      omega
    · omega
  · rw [iz_clamp h0 hi]
    exact g6 _ hlt
theorem zV_ldcS {idx j : Nat} {tx : String} (hd : decode mi.2.1 pc = .ok (.ldc idx, 2)) (hj : j < 9) (hi : zTx.getD j (0, "") = (idx, tx)) (hc : mi.1.cls = "SizedParts$Reader") (kk : zV K mi d (pc + 2) loc (.ref (K.2.2.2.2 (10 + j)) :: stk) m Q) : zV K mi d pc loc stk m Q := by
  intro p e s mt args below meth cd F H locs ls hR hl
  obtain ⟨hx, hb, hr, hml, hown, hts, hlk, hK⟩ := id F
  have h1 := hK.2.2.2.2.2.2.2 j hj
  rw [hi, ← hc] at h1
  exact va_ldcS hx hb hown h1 hd (kk p e s mt args below meth cd F H locs ls hR hl)
end ZR
theorem zCt.mono {K : zCx} {d : Nat} {mi : zMi} {as : List Value} {m : zM} {Q Q' : Int → zM → Prop} (h : zCt K d mi as m Q) (hq : ∀ r m', Q r m' → Q' r m') : zCt K d mi as m Q' := by
  intro p e ha hcs hck s mt args below hf happ hP _
  obtain ⟨n, o, h1, h2, h3, ⟨⟨r, m', e1, e2, e3, e4⟩, h5⟩⟩ := h p e ha hcs hck s mt args below hf happ hP trivial
  exact ⟨n, o, h1, h2, h3, ⟨⟨r, m', e1, e2, hq r m' e3, e4⟩, h5⟩⟩
