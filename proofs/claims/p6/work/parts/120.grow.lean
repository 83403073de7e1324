/-- worlds that grow -/
def zGo (w : zWd) (H0 : Heap) (M : zMem) (H : Heap) (locs : List Loc) : Prop := zP w M H ∧ va_S (zAb w) H0 H locs
def zwn (w : zWd) (sh : Nat → (Nat → Int32) → va_E) (n : Nat) : zWd := (w.1, w.2.1, sh, w.2.2.2.1, n)
/-- one cell as it is now, the others as they will be -/
def zsk (sh : Nat → (Nat → Int32) → va_E) (k : Nat) (E : va_E) : Nat → (Nat → Int32) → va_E := fun c => if c = k then fun _ => E else sh c
theorem zsk_eq {sh : Nat → (Nat → Int32) → va_E} {k : Nat} {E : va_E} {f : Nat → Int32} : zsk sh k E k f = E := by unfold zsk; rw [if_pos rfl]
theorem zsk_ne {sh : Nat → (Nat → Int32) → va_E} {k c : Nat} {E : va_E} (h : c ≠ k) : zsk sh k E c = sh c := by unfold zsk; rw [if_neg h]
theorem zwn_get {w : zWd} {sh : Nat → (Nat → Int32) → va_E} {n k : Nat} {M : zMem} (hk : k < n) : (zws (zwn w sh n) M)[k]? = some (w.2.2.2.1 + k, sh k (M k)) := zws_get (w := zwn w sh n) hk
theorem zws_len {w : zWd} {sh : Nat → (Nat → Int32) → va_E} {n : Nat} {M : zMem} : (zws (zwn w sh n) M).length = n := by simp [zws, zwn]
theorem zws_Db (w : zWd) (M : zMem) : va_D (zAb w) (zws w M) := ⟨(zws_D w M).1, fun k q h => by
  obtain ⟨j, -, e⟩ := (zws_D w M).2 k q h
  show w.2.2.2.1 ≤ q.1
  rw [e]
  exact Nat.le_add_right _ _⟩
theorem zws_cast {w : zWd} {sh sh' : Nat → (Nat → Int32) → va_E} {n : Nat} {M M' : zMem} (h : ∀ c, c < n → sh c (M c) = sh' c (M' c)) : zws (zwn w sh n) M = zws (zwn w sh' n) M' := by
  apply List.ext_getElem?
  intro i
  by_cases hi : i < n
  · rw [zwn_get hi, zwn_get hi, h i hi]
  · rw [List.getElem?_eq_none (by rw [zws_len]; omega), List.getElem?_eq_none (by rw [zws_len]; omega)]
theorem zGo_cast {w : zWd} {sh sh' : Nat → (Nat → Int32) → va_E} {n : Nat} {M M' : zMem} {H0 H : Heap} {locs : List Loc} (h : ∀ c, c < n → sh c (M c) = sh' c (M' c)) (hG : zGo (zwn w sh n) H0 M H locs) : zGo (zwn w sh' n) H0 M' H locs := by
  refine ⟨?_, hG.2⟩
  have := hG.1
  unfold zP at this ⊢
  rw [← zws_cast h]
  exact this
theorem zws_push {w : zWd} {sh : Nat → (Nat → Int32) → va_E} {n : Nat} {M : zMem} : zws (zwn w sh (n + 1)) M = zws (zwn w sh n) M ++ [(w.2.2.2.1 + n, sh n (M n))] := by
  apply List.ext_getElem?
  intro i
  by_cases hi : i < n
  · rw [zwn_get (by omega), List.getElem?_append_left (by rw [zws_len]; exact hi), zwn_get hi]
  · by_cases e : i = n
    · subst e
      rw [zwn_get (by omega), List.getElem?_append_right (by rw [zws_len]; omega), zws_len, Nat.sub_self]
      rfl
    · rw [List.getElem?_eq_none (by rw [zws_len]; omega), List.getElem?_eq_none (by rw [List.length_append, zws_len]; simp; omega)]
theorem zws_put {w : zWd} {sh : Nat → (Nat → Int32) → va_E} {n k : Nat} {M : zMem} {E : va_E} (hk : k < n) : (zws (zwn w sh n) M).set k (w.2.2.2.1 + k, E) = zws (zwn w (zsk sh k E) n) M := by
  apply List.ext_getElem?
  intro i
  by_cases hi : i < n
  · rw [zwn_get hi]
    by_cases e : i = k
    · subst e
      rw [List.getElem?_set_self (by rw [zws_len]; exact hi), zsk_eq]
    · rw [List.getElem?_set_ne (fun h => e h.symm), zwn_get hi, zsk_ne e]
  · rw [List.getElem?_eq_none (by rw [List.length_set, zws_len]; omega), List.getElem?_eq_none (by rw [zws_len]; omega)]
section ZG
variable {p : Program} {l : Launch} {e : Env} {R : Room} {s : State} {m : MethodId} {args : Array Value} {below : List Frame} {meth : Method} {c : Code} {H H0 : Heap} {locs : List Loc} {cells slots : Nat} {Q : State → Prop} {cc : ByteArray} {pc : Nat} {ls : Array Slot} {rest : List Value} {w : zWd} {M : zMem} {own : String} {sh : Nat → (Nat → Int32) → va_E} {n : Nat}
/-- no more cells than were paid for -/
theorem zub {g : JFrame} (kk : H.size ≤ s.heap.size + cells → W p l e R s m args below meth c H locs cells slots Q g) : W p l e R s m args below meth c H locs cells slots Q g := fun T hT X => kk (by
  have h := X.same.2.2.1
  rw [← hT]
  exact h) T hT X
theorem zlb (hP : zP (zwn w sh n) M H) (h0 : 0 < n) : w.2.2.2.1 + n ≤ H.size := by
  have := (hP (n - 1) _ (zwn_get (by omega))).lt
  dsimp only at this
  omega
/-- a new cell's address is the next one -/
theorem znext {E : va_E} {q : Nat} (hP : va_P w.1 vwCl (zws (zwn w sh n) M ++ [(q, E)]) H) (hD : va_D (zAb w) (zws (zwn w sh n) M ++ [(q, E)])) (hub : H.size ≤ w.2.2.2.1 + n + 1) : q = w.2.2.2.1 + n := by
  have hq : (zws (zwn w sh n) M ++ [(q, E)])[n]? = some (q, E) := by
    rw [List.getElem?_append_right (by rw [zws_len]; omega), zws_len, Nat.sub_self]; rfl
  have h1 := (hP n _ hq).lt
  have h2 : w.2.2.2.1 ≤ q := hD.2 n _ hq
  dsimp only at h1
  refine Classical.byContradiction (fun hne => ?_)
  have hj : q - w.2.2.2.1 < n := by omega
  have hg : (zws (zwn w sh n) M ++ [(q, E)])[q - w.2.2.2.1]? = some (w.2.2.2.1 + (q - w.2.2.2.1), sh (q - w.2.2.2.1) (M (q - w.2.2.2.1))) := by
    rw [List.getElem?_append_left (by rw [zws_len]; exact hj), zwn_get hj]
  have := hD.1 _ _ _ _ hg hq (by dsimp only; omega)
  omega
theorem zg_new {ci index N : Nat} {C : String} {T : u_T} {ty0 : Nat → FieldType} {fs : List Value} (X : zX w p s m args c cc own) (hG : zGo (zwn w sh n) H0 M H locs) (hH0 : w.2.2.2.1 ≤ H0.size) (hcs : s.heap.size + cells = w.2.2.2.1 + n) (hc : vwCl[ci]? = some (C, T, N)) (hin : ∀ u ∈ u_ws C T N, u ∈ zU) (hty : ∀ k, k < N → parseFieldDescriptor (T k).2.2.1 = some (ty0 k)) (hcl : Cond.classLink own index C ∈ zU) (hins : Cond.instantiable C N ∈ zU) (hini : Cond.initialized C ∈ zU) (hfs : ∀ j, j < N → defaultValue (ty0 j) = vp_V fs j) (hcells : cells + 1 ≤ R.cells) (hslots : slots + N ≤ R.slots) (hdg : decode cc pc = .ok (.new index, 3))
    (kk : ∀ H1 : Heap, zGo (zwn w (zsk sh n (.inr (ci, fs))) (n + 1)) H0 M H1 locs → W p l e R s m args below meth c H1 locs (cells + 1) (slots + N) Q (F0 m (pc + 3) ls (.ref (w.2.2.2.1 + n) :: rest))) : W p l e R s m args below meth c H locs cells slots Q (F0 m pc ls rest) := by
  obtain ⟨hx, hb, hown, hts, hK⟩ := X
  refine va_new (D := w.1) (ci := ci) (fs := fs) (C := C) (T := T) (N := N) hx hb hts hin ty0 hty hown (hts _ hcl) (hts _ hins) (hts _ hini) hK.1 hG.1 (zws_Db (zwn w sh n) M) hG.2 (fun q h => Nat.le_trans hH0 h) hc hfs hcells hslots hdg (fun q H1 hP hD hS => ?_)
  refine zub (fun hub => ?_)
  have e := znext (w := w) hP hD (by omega)
  subst e
  refine kk H1 ⟨?_, hS⟩
  unfold zP
  rw [zws_push, zsk_eq, zws_cast (sh := zsk sh n (.inr (ci, fs))) (sh' := sh) (M' := M) (fun c hc => by rw [zsk_ne (by omega)])]
  exact hP
theorem zg_newa {N t : Nat} {nn : Int32} {atype : ArrayType} {ty : FieldType} (X : zX w p s m args c cc own) (hG : zGo (zwn w sh n) H0 M H locs) (hH0 : w.2.2.2.1 ≤ H0.size) (hcs : s.heap.size + cells = w.2.2.2.1 + n) (harr : Cond.arrayClass (newarray.typeOf atype) ∈ zU) (hty : newarray.typeOf atype = ty) (ht : (ztys w)[t]? = some (w.2.1 t, ty)) (hra : ∀ cA, va_RA s cA ty = (s.vm.findClass ("[" ++ ty.toString) = some cA)) (ha : ∀ cA : ClassId, vp_cell cA (N, .inl fun _ => 0) = arrV cA N (fun _ => defaultValue ty)) (hn : ¬ nn < 0) (hN : nn.toNatClampNeg = N) (hbytes : N * componentBytes ty ≤ 536870912) (hsh : sh n (M n) = .inl (w.2.1 t, N, .inl fun _ => 0)) (hcells : cells + 1 ≤ R.cells) (hslots : slots + N ≤ R.slots) (hdg : decode cc pc = .ok (.newarray atype, 2))
    (kk : ∀ H1 : Heap, zGo (zwn w sh (n + 1)) H0 M H1 locs → W p l e R s m args below meth c H1 locs (cells + 1) (slots + N) Q (F0 m (pc + 2) ls (.ref (w.2.2.2.1 + n) :: rest))) : W p l e R s m args below meth c H locs cells slots Q (F0 m pc ls (.int nn :: rest)) := by
  obtain ⟨hx, hb, hown, hts, hK⟩ := X
  refine va_newa (D := w.1) (atype := atype) (a0 := (N, .inl fun _ => 0)) hx hb (hts _ harr) hty hK.1 hG.1 (zws_Db (zwn w sh n) M) hG.2 (fun q h => Nat.le_trans hH0 h) ha hn hN hbytes hcells hslots hdg (fun q cA H1 hK1 hP hD hS => ?_)
  refine zub (fun hub => ?_)
  have e := znext (w := w) hP hD (by omega)
  subst e
  have r1 := (hK1.2 (ztys w).length (cA, ty) (by rw [List.getElem?_append_right (Nat.le_refl _), Nat.sub_self]; rfl)).2
  have r2 := (hK.1.2 t _ ht).2
  rw [hra] at r1
  dsimp only at r2
  rw [hra] at r2
  have ec : cA = w.2.1 t := Option.some.inj (r1.symm.trans r2)
  subst ec
  refine kk H1 ⟨?_, hS⟩
  unfold zP
  rw [zws_push, hsh]
  exact hP
theorem zg_newq {N t index : Nat} {nn : Int32} {C : String} (X : zX w p s m args c cc own) (hG : zGo (zwn w sh n) H0 M H locs) (hH0 : w.2.2.2.1 ≤ H0.size) (hcs : s.heap.size + cells = w.2.2.2.1 + n) (hao : va_AO C s) (hcl : Cond.classLink own index C ∈ zU) (ht : (ztys w)[t]? = some (w.2.1 t, .object C)) (hn : ¬ nn < 0) (hN : nn.toNatClampNeg = N) (hbytes : N * 4 ≤ 536870912) (hcells : cells + 1 ≤ R.cells) (hslots : slots + N ≤ R.slots) (hdg : decode cc pc = .ok (.anewarray index, 3))
    (kk : ∀ H1 : Heap, zGo (zwn w (zsk sh n (.inl (w.2.1 t, N, .inr (.inr (.inr (.inr fun _ => none)))))) (n + 1)) H0 M H1 locs → W p l e R s m args below meth c H1 locs (cells + 1) (slots + N) Q (F0 m (pc + 3) ls (.ref (w.2.2.2.1 + n) :: rest))) : W p l e R s m args below meth c H locs cells slots Q (F0 m pc ls (.int nn :: rest)) := by
  obtain ⟨hx, hb, hown, hts, hK⟩ := X
  refine va_newq (D := w.1) hx hb hown (hts _ hcl) hao hK.1 hG.1 (zws_Db (zwn w sh n) M) hG.2 (fun q h => Nat.le_trans hH0 h) hn hN hbytes hcells hslots hdg (fun q cA H1 hK1 hP hD hS => ?_)
  refine zub (fun hub => ?_)
  have e := znext (w := w) hP hD (by omega)
  subst e
  obtain ⟨-, -, -, -, -, r1⟩ := (hK1.2 (ztys w).length (cA, .object C) (by rw [List.getElem?_append_right (Nat.le_refl _), Nat.sub_self]; rfl)).2
  obtain ⟨-, -, -, -, -, r2⟩ := (hK.1.2 t _ ht).2
  have ec : cA = w.2.1 t := Option.some.inj (r1.symm.trans r2)
  subst ec
  refine kk H1 ⟨?_, hS⟩
  unfold zP
  rw [zws_push, zsk_eq, zws_cast (sh := zsk sh n _) (sh' := sh) (M' := M) (fun c hc => by rw [zsk_ne (by omega)])]
  exact hP
theorem zg_putF {k ci index N : Nat} {C : String} {T : u_T} {ty0 : Nat → FieldType} {ty : FieldType} {fs : List Value} {v : Value} (X : zX w p s m args c cc own) (hmi : meth.name = "<init>") (hG : zGo (zwn w sh n) H0 M H locs) (hk : k < n) (hI : sh k (M k) = .inr (ci, fs)) (hc : vwCl[ci]? = some (C, T, N)) (hin : ∀ u ∈ u_ws C T N, u ∈ zU) (hty : ∀ k, k < N → parseFieldDescriptor (T k).2.2.1 = some (ty0 k)) (hnm : ∀ a, a < N → ∀ b, b < N → a ≠ b → (T a).2.1 ≠ (T b).2.1) (j : Nat) (hj : j < N) (hd1 : (T j).1 = C) (hd2 : (T j).1 = own) (hl : Cond.fieldLink own index C (T j).2.1 (T j).2.2.1 ∈ zU) (hfin : (T j).2.2.2 = true) (hty1 : ty0 j = ty) (hn : narrow ty v = v) (hfit : fits ty v = true) (hlen : fs.length = N) (hdg : decode cc pc = .ok (.putfield index, 3))
    (kk : ∀ (H1 : Heap) (locs1 : List Loc), zGo (zwn w (zsk sh k (.inr (ci, fs.set j v))) n) H0 M H1 locs1 → W p l e R s m args below meth c H1 locs1 cells slots Q (F0 m (pc + 3) ls rest)) : W p l e R s m args below meth c H locs cells slots Q (F0 m pc ls (v :: .ref (w.2.2.2.1 + k) :: rest)) := by
  obtain ⟨hx, hb, hown, hts, hK⟩ := X
  refine va_putF (D := w.1) (ci := ci) (v := v) (ty := ty) (C := C) (T := T) (N := N) (Ts := zU) hx hb hts hin ty0 hty hnm hown hK.1 hG.1 (zws_Db (zwn w sh n) M) hG.2 k (by rw [zwn_get hk, hI]) hc j hj (hts _ hl) (fun x h => by rw [hd1] at h; exact h) hfin hmi hd2 (by rw [hty j hj, hty1]) hn hfit (by rw [hlen]; exact hj) hdg (fun H1 locs1 hP _ hS => ?_)
  refine kk H1 locs1 ⟨?_, hS⟩
  rw [zws_put hk] at hP
  exact hP
theorem zg_put {k ci index N : Nat} {C : String} {T : u_T} {ty0 : Nat → FieldType} {ty : FieldType} {fs : List Value} {v : Value} (X : zX w p s m args c cc own) (hG : zGo (zwn w sh n) H0 M H locs) (hk : k < n) (hI : sh k (M k) = .inr (ci, fs)) (hc : vwCl[ci]? = some (C, T, N)) (hin : ∀ u ∈ u_ws C T N, u ∈ zU) (hty : ∀ k, k < N → parseFieldDescriptor (T k).2.2.1 = some (ty0 k)) (hnm : ∀ a, a < N → ∀ b, b < N → a ≠ b → (T a).2.1 ≠ (T b).2.1) (j : Nat) (hj : j < N) (hd1 : (T j).1 = C) (hl : Cond.fieldLink own index C (T j).2.1 (T j).2.2.1 ∈ zU) (hfin : (T j).2.2.2 = false) (hty1 : ty0 j = ty) (hn : narrow ty v = v) (hfit : fits ty v = true) (hlen : fs.length = N) (hdg : decode cc pc = .ok (.putfield index, 3))
    (kk : ∀ (H1 : Heap) (locs1 : List Loc), zGo (zwn w (zsk sh k (.inr (ci, fs.set j v))) n) H0 M H1 locs1 → W p l e R s m args below meth c H1 locs1 cells slots Q (F0 m (pc + 3) ls rest)) : W p l e R s m args below meth c H locs cells slots Q (F0 m pc ls (v :: .ref (w.2.2.2.1 + k) :: rest)) := by
  obtain ⟨hx, hb, hown, hts, hK⟩ := X
  refine va_put (D := w.1) (ci := ci) (v := v) (ty := ty) (C := C) (T := T) (N := N) (Ts := zU) hx hb hts hin ty0 hty hnm hown hK.1 hG.1 (zws_Db (zwn w sh n) M) hG.2 k (by rw [zwn_get hk, hI]) hc j hj (hts _ hl) (fun x h => by rw [hd1] at h; exact h) hfin (by rw [hty j hj, hty1]) hn hfit (by rw [hlen]; exact hj) hdg (fun H1 locs1 hP _ hS => ?_)
  refine kk H1 locs1 ⟨?_, hS⟩
  rw [zws_put hk] at hP
  exact hP
theorem zg_get {k ci index N : Nat} {C : String} {T : u_T} {fs : List Value} {v : Value} (X : zX w p s m args c cc own) (hG : zGo (zwn w sh n) H0 M H locs) (hk : k < n) (hI : sh k (M k) = .inr (ci, fs)) (hc : vwCl[ci]? = some (C, T, N)) (hin : ∀ u ∈ u_ws C T N, u ∈ zU) (j : Nat) (hj : j < N) (hd1 : (T j).1 = C) (hl : Cond.fieldLink own index C (T j).2.1 (T j).2.2.1 ∈ zU) (hv : fs[j]? = some v) (hdg : decode cc pc = .ok (.getfield index, 3))
    (kk : W p l e R s m args below meth c H locs cells slots Q (F0 m (pc + 3) ls (v :: rest))) : W p l e R s m args below meth c H locs cells slots Q (F0 m pc ls (.ref (w.2.2.2.1 + k) :: rest)) := by
  obtain ⟨hx, hb, hown, hts, hK⟩ := X
  exact va_get (D := w.1) (ci := ci) (v := v) (C := C) (T := T) (N := N) (Ts := zU) hx hb hts hin hown hK.1 hG.1 k (by rw [zwn_get hk, hI]) hc j hj (hts _ hl) (fun x h => by rw [hd1] at h; exact h) hv hdg kk
theorem zg_iast {k N : Nat} {f : Nat → Int32} {i x : Int32} (X : zX w p s m args c cc own) (hG : zGo (zwn w sh n) H0 M H locs) (hk : k < n) (hI : sh k (M k) = .inl (w.2.1 1, N, .inl f)) (hi : vp_in i N) (hdg : decode cc pc = .ok (.iastore, 1))
    (kk : ∀ (H1 : Heap) (locs1 : List Loc), zGo (zwn w (zsk sh k (.inl (w.2.1 1, N, .inl (upd f i.toNatClampNeg x)))) n) H0 M H1 locs1 → W p l e R s m args below meth c H1 locs1 cells slots Q (F0 m (pc + 1) ls rest)) : W p l e R s m args below meth c H locs cells slots Q (F0 m pc ls (.int x :: .int i :: .ref (w.2.2.2.1 + k) :: rest)) := by
  obtain ⟨hx, hb, hown, hts, hK⟩ := X
  refine va_iast (D := w.1) hx hb hK.1 hG.1 (zws_Db (zwn w sh n) M) hG.2 k 1 (by rw [zwn_get hk, hI]) rfl hi hdg (fun H1 locs1 hP _ hS => ?_)
  refine kk H1 locs1 ⟨?_, hS⟩
  rw [zws_put hk] at hP
  exact hP
theorem zg_astq {k N t qk ci : Nat} {r : vw_C} {vs : List Value} {f : Nat → Option Nat} {i : Int32} (X : zX w p s m args c cc own) (hG : zGo (zwn w sh n) H0 M H locs) (hk : k < n) (hI : sh k (M k) = .inl (w.2.1 t, N, .inr (.inr (.inr (.inr f))))) (ht : (ztys w)[t]? = some (w.2.1 t, .object r.1)) (hqk : qk < n) (hv : sh qk (M qk) = .inr (ci, vs)) (hc : vwCl[ci]? = some r) (hi : vp_in i N) (hdg : decode cc pc = .ok (.aastore, 1))
    (kk : ∀ (H1 : Heap) (locs1 : List Loc), zGo (zwn w (zsk sh k (.inl (w.2.1 t, N, .inr (.inr (.inr (.inr (va_up f i.toNatClampNeg (some (w.2.2.2.1 + qk))))))))) n) H0 M H1 locs1 → W p l e R s m args below meth c H1 locs1 cells slots Q (F0 m (pc + 1) ls rest)) : W p l e R s m args below meth c H locs cells slots Q (F0 m pc ls (.ref (w.2.2.2.1 + qk) :: .int i :: .ref (w.2.2.2.1 + k) :: rest)) := by
  obtain ⟨hx, hb, hown, hts, hK⟩ := X
  refine va_astq (D := w.1) hx hb hK.1 hG.1 (zws_Db (zwn w sh n) M) hG.2 k t qk ci (by rw [zwn_get hk, hI]) ht (by rw [zwn_get hqk, hv]) hc hi hdg (fun H1 locs1 hP _ hS => ?_)
  refine kk H1 locs1 ⟨?_, hS⟩
  rw [zws_put hk] at hP
  exact hP
end ZG
/-- contracts of constructors -/
def zKo (w : zWd) (s : State) : Prop := zK w s ∧ va_AO "HandToHand$Bench" s ∧ va_AO "HandToHand$Sheet" s
theorem zKo.warm {w : zWd} {s U : State} (h : zKo w s) (hV : s.WarmedH U.vm) (hk : zFr w s U.heap) : zKo w U := ⟨h.1.warm hV hk, h.2.1.moved hV.alike, h.2.2.moved hV.alike⟩
theorem zKo.same {w : zWd} {s U : State} (h : zKo w s) (hV : s.vm = U.vm) (hh : U.heap = s.heap) : zKo w U := ⟨h.1.same hV hh, h.2.1.moved (by rw [hV]; exact Vm.Alike.refl U.vm), h.2.2.moved (by rw [hV]; exact Vm.Alike.refl U.vm)⟩
def zPc (w : zWd) (av : List Value) (M : zMem) : Array Value → State → Prop := va_Pc av (fun U => U.heap.size = w.2.2.2.1 + w.2.2.2.2 ∧ zP w M U.heap ∧ zKo w U)
abbrev zRc (fr lo mc ms : Nat) : Room := { frames := fr, cells := mc, slots := ms, locals := lo }
abbrev zMc (l : Launch) (y : MethodName) (cc : ByteArray) (mL : Nat) (fr lo mc ms : Nat) (w : zWd) (av : List Value) (M : zMem) (w' : zWd) (post : zMem → Prop) : Prop :=
  Met l y (.code y cc mL none :: zU) (zRc fr lo mc ms) (zPc w av M) (va_Qv post (zB w') (zAb w)) mc ms (zAb w)
theorem zPc_blind (w : zWd) (av : List Value) (M : zMem) : FrameBlind (zPc w av M) := fun a U g mk q => by obtain ⟨q0, q1, qP, qK⟩ := q; exact ⟨q0, q1, qP, qK.same (U := U.calling g mk a) rfl rfl⟩
theorem zMetC {l : Launch} {y : MethodName} {cc : ByteArray} {mL fr lo mc ms : Nat} {w : zWd} {av : List Value} {M : zMem} {Qc : Array Value → State → Outcome → State → Prop} (hy : plainName y.cls = true) (hin : y.name = "<init>") (hlen : (lg_sl av).length ≤ mL)
    (body : ∀ (p : Program) (e : Env) (s : State) (m : MethodId) (below : List Frame) (meth : Method) (c : Code), zX w p s m av.toArray c cc y.cls → zKo w s → meth.name = "<init>" → meth.sig.returnType = none → meth.locks = false → c.maxLocals = mL → s.heap.size = w.2.2.2.1 + w.2.2.2.2 → zGo w s.heap M s.heap [] → ∀ ls : Array Slot, lv_has ls mL (lv_args 0 av) → W p l e (zRc fr lo mc ms) s m av.toArray below meth c s.heap [] 0 0 (MQ below Qc av.toArray s mc ms (zAb w)) (F0 m 0 ls [])) :
    Met l y (.code y cc mL none :: zU) (zRc fr lo mc ms) (zPc w av M) Qc mc ms (zAb w) := by
  refine Met.ofW (cc := cc) (maxL := mL) (ret := none) hy rfl ?_
  intro p e s m args below meth c s₁ B hml hv
  obtain ⟨rfl, hsz, hP, hK⟩ := hv
  have hts := atoms_spec (ws := .code y cc mL none :: zU) B.pre
  have hl := lv_entry av (n := mL) hlen
  have hnm : meth.name = "<init>" := (name_of_methodNamed B.named B.method).1.trans hin
  rw [lg_entry_eq]
  exact body p e s m below meth c ⟨B.exec, B.bytes, findClass_of_methodNamed B.named, fun u hu => hts u (List.mem_cons_of_mem _ hu), hK.1⟩ hK hnm B.returns B.notSynchronized hml hsz ⟨hP, va_S.rf⟩ _ hl
section ZH
variable {p : Program} {l : Launch} {e : Env} {R : Room} {s : State} {m : MethodId} {args : Array Value} {below : List Frame} {meth : Method} {c : Code} {H H0 : Heap} {locs : List Loc} {cells slots : Nat} {Q : State → Prop} {cc : ByteArray} {pc : Nat} {ls : Array Slot} {rest : List Value} {w : zWd} {M : zMem} {own : String} {sh : Nat → (Nat → Int32) → va_E} {n : Nat}
variable {y : MethodName} {b : ByteArray} {mL k na idx fr lo nL mc ms : Nat} {r : Option FieldType} {lv : List (Nat × Value)} {st As : List Value} {w' : zWd} {post : zMem → Prop}
theorem zFr.go (hF : s.heap.size ≤ H0.size ∧ zFr w s H0) (hS : va_S (zAb w) H0 H locs) : zFr w s H := fun a ha hn => (hS.2.1 a (Nat.lt_of_lt_of_le ha hF.1) hn).trans (hF.2 a ha hn)
theorem zPcS (hK : zKo w s) (hP : zP w M H) (hF : zFr w s H) (hsz : H.size = w.2.2.2.1 + w.2.2.2.2) : PreS s H (zPc w As M) As :=
  ⟨zPc_blind w _ M, fun U hU hV => ⟨rfl, by rw [hU]; exact hsz, by rw [hU]; exact hP, hK.warm hV (by rw [hU]; exact hF)⟩⟩
/-- a constructor is called -/
theorem zg_ctor (X : zX w p s m args c cc own) (hK : zKo w s) (hml : c.maxLocals = nL) (hl : lv_has ls nL lv) (hG : zGo (zwn w sh n) H0 M H locs) (h0 : 0 < n) (hcs : s.heap.size + cells = w.2.2.2.1 + n) (hlink : Cond.methodLink own idx y ∈ zU) (hinst : Cond.instanceMethod y ∈ zU) (hini : Cond.initialized y.cls ∈ zU) (hcode : Cond.code y b mL none ∈ zU) (hy : y.name = "<init>") (hd : y.cls ≠ "java/lang/invoke/MethodHandle" ∧ y.cls ≠ "java/lang/invoke/VarHandle" ∧ (parseMethodDescriptor y.desc).map (fun d => d.parameters.length) = some na)
    (hM : zMc l y b mL fr lo mc ms (zwn w sh n) (.ref (w.2.2.2.1 + k) :: As) M w' post) (hb' : w'.2.2.2.1 = w.2.2.2.1) (hn : As.length = na) (hR : fr + 1 ≤ R.frames ∧ 8 + (mL + 11) + lo ≤ R.locals) (hf : cells + mc ≤ R.cells ∧ slots + ms ≤ R.slots) (hst : st = As.reverse ++ .ref (w.2.2.2.1 + k) :: rest) (hcat : (rest.map fun v => v.category).sum ≤ 8) (hdg : decode cc pc = .ok (.invokespecial idx, 3))
    (kk : ∀ (M1 : zMem) (H1 : Heap) (locs1 : List Loc), post M1 → zGo w' H0 M1 H1 locs1 → W p l e R s m args below meth c H1 locs1 (cells + mc) (slots + ms) Q (F0 m (pc + 3) ls rest)) (hF0 : s.heap.size ≤ H0.size ∧ zFr w s H0 := by exact ⟨Nat.le_refl _, fun _ _ _ => rfl⟩) : W p l e R s m args below meth c H locs cells slots Q (F0 m pc ls st) := by
  refine zub (fun hub => ?_)
  have hlb := zlb hG.1 h0
  obtain ⟨hx, hb, hown, hts, hK0⟩ := X
  refine va_callv (va_runI (b := w.2.2.2.1 + k) (As := As) (rest := rest) ⟨hx, hb, hml, hown, hts⟩ hM (cwI na hts (zgood hcode) rfl rfl rfl (hts _ hini) (hts _ hlink) (hts _ hinst) hy hd hR) (zPcS (w := zwn w sh n) (As := .ref (w.2.2.2.1 + k) :: As) ⟨hK0, hK.2⟩ hG.1 (zFr.go (w := w) hF0 hG.2) (by show H.size = w.2.2.2.1 + n; omega)) rfl hn hl.1 hst (lv_room hcat) hdg hf) hG.2 (fun q _ h => h) (fun q h => h) (fun M1 t H1 locs1 ht _ hp hB _ _ hS => ?_)
  refine kk M1 H1 locs1 hp ⟨by rw [← ht]; exact hB, ?_⟩
  unfold zAb at hS ⊢
  rw [hb']
  exact hS
theorem zg_ctorN {host : String} (X : zX w p s m args c cc own) (hK : zKo w s) (hml : c.maxLocals = nL) (hl : lv_has ls nL lv) (hG : zGo (zwn w sh n) H0 M H locs) (h0 : 0 < n) (hcs : s.heap.size + cells = w.2.2.2.1 + n) (hlink : (own, idx, y, host) ∈ zN) (hinst : Cond.instanceMethod y ∈ zU) (hini : Cond.initialized y.cls ∈ zU) (hcode : Cond.code y b mL none ∈ zU) (hy : y.name = "<init>") (hd : y.cls ≠ "java/lang/invoke/MethodHandle" ∧ y.cls ≠ "java/lang/invoke/VarHandle" ∧ (parseMethodDescriptor y.desc).map (fun d => d.parameters.length) = some na)
    (hM : zMc l y b mL fr lo mc ms (zwn w sh n) (.ref (w.2.2.2.1 + k) :: As) M w' post) (hb' : w'.2.2.2.1 = w.2.2.2.1) (hn : As.length = na) (hR : fr + 1 ≤ R.frames ∧ 8 + (mL + 11) + lo ≤ R.locals) (hf : cells + mc ≤ R.cells ∧ slots + ms ≤ R.slots) (hst : st = As.reverse ++ .ref (w.2.2.2.1 + k) :: rest) (hcat : (rest.map fun v => v.category).sum ≤ 8) (hdg : decode cc pc = .ok (.invokespecial idx, 3))
    (kk : ∀ (M1 : zMem) (H1 : Heap) (locs1 : List Loc), post M1 → zGo w' H0 M1 H1 locs1 → W p l e R s m args below meth c H1 locs1 (cells + mc) (slots + ms) Q (F0 m (pc + 3) ls rest)) (hF0 : s.heap.size ≤ H0.size ∧ zFr w s H0 := by exact ⟨Nat.le_refl _, fun _ _ _ => rfl⟩) : W p l e R s m args below meth c H locs cells slots Q (F0 m pc ls st) := by
  refine zub (fun hub => ?_)
  have hlb := zlb hG.1 h0
  obtain ⟨hx, hb, hown, hts, hK0⟩ := X
  refine va_callv (va_runIN (b := w.2.2.2.1 + k) (As := As) (rest := rest) ⟨hx, hb, hml, hown, hts⟩ hM ⟨va_cnB na hts (zgood hcode) rfl rfl rfl (hK0.2.1 _ hlink) (hts _ hini) hd hR, hy, hts _ hinst⟩ (zPcS (w := zwn w sh n) (As := .ref (w.2.2.2.1 + k) :: As) ⟨hK0, hK.2⟩ hG.1 (zFr.go (w := w) hF0 hG.2) (by show H.size = w.2.2.2.1 + n; omega)) rfl hn hl.1 hst (lv_room hcat) hdg hf) hG.2 (fun q _ h => h) (fun q h => h) (fun M1 t H1 locs1 ht _ hp hB _ _ hS => ?_)
  refine kk M1 H1 locs1 hp ⟨by rw [← ht]; exact hB, ?_⟩
  unfold zAb at hS ⊢
  rw [hb']
  exact hS
/-- a method is called while the world still grows -/
theorem zg_callv {ci N : Nat} {C : String} {T : u_T} {fs : (Nat → Int32) → List Value} {nn fr' lo' : Nat} (X : zX w p s m args c cc own) (hml : c.maxLocals = nL) (hl : lv_has ls nL lv) (hG : zGo w H0 M H locs) (hI : zI_o w k ci fs) (hc : vwCl[ci]? = some (C, T, N)) (hC : zCV own idx C y b mL r nn)
    (hM : Met l y (.code y b mL r :: zU) (zRm fr' lo') (zPre w (.ref (zad w k) :: As) M) (va_Qv post (zB w) (zA w)) 0 0 (zA w)) (hn : As.length = nn) (hR : fr' + 1 ≤ R.frames ∧ 8 + (mL + 11) + lo' ≤ R.locals) (hf : cells ≤ R.cells ∧ slots ≤ R.slots) (hst : st = As.reverse ++ .ref (zad w k) :: rest) (hcat : (rest.map fun v => v.category).sum ≤ 8) (hdg : decode cc pc = .ok (.invokevirtual idx, 3))
    (kk : ∀ (M1 : zMem) (H1 : Heap) (locs1 : List Loc), post M1 → zGo w H0 M1 H1 locs1 → W p l e R s m args below meth c H1 locs1 cells slots Q (F0 m (pc + 3) ls rest)) (hF0 : s.heap.size ≤ H0.size ∧ zFr w s H0 := by exact ⟨Nat.le_refl _, fun _ _ _ => rfl⟩) : W p l e R s m args below meth c H locs cells slots Q (F0 m pc ls st) := by
  obtain ⟨hx, hb, hown, hts, hK⟩ := X
  refine va_callv (va_runV (As := As) (rest := rest) ⟨hx, hb, hml, hown, hts⟩ hM (cwV nn hts hC.1 rfl rfl rfl hC.2 hR) (zPreV hK hG.1 (zFr.go hF0 hG.2) hI hc) rfl hn hl.1 hst (lv_room hcat) hdg ⟨hf.1, hf.2⟩) hG.2 (fun q _ h => ?_) (fun q h => ?_) (fun M1 t H1 locs1 ht _ hp hB _ _ hS => ?_)
  · obtain ⟨j, -, e⟩ := h
    show w.2.2.2.1 ≤ q
    rw [e]; exact Nat.le_add_right _ _
  · obtain ⟨j, -, e⟩ := h
    show w.2.2.2.1 ≤ q
    rw [e]; exact Nat.le_add_right _ _
  · exact kk M1 H1 locs1 hp ⟨by rw [← ht]; exact hB, hS⟩
theorem zg_vret (X : zX w p s m args c cc own) (hr : meth.sig.returnType = none) (hlk : meth.locks = false) (hb' : w'.2.2.2.1 = w.2.2.2.1) (hG : zGo w' s.heap M H locs) (h : post M) (hdg : decode cc pc = .ok (.return_, 1)) : W p l e R s m args below meth c H locs cells slots (MQ below (va_Qv post (zB w') (zAb w)) args s cells slots (zAb w)) (F0 m pc ls []) := by
  obtain ⟨hx, hb, hown, hts, hK⟩ := X
  have hS : va_S (zAb w) s.heap H locs := by
    have := hG.2
    unfold zAb at this ⊢
    rw [hb'] at this
    exact this
  refine W.vret hx hb hr (fun t ht hV => ⟨⟨M, rfl, h, ?_⟩, hS.F ht⟩) hS.2.2 hdg hlk
  unfold zB
  rw [ht]
  exact hG.1
end ZH
