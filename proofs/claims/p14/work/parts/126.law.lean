/-- both worlds, at the law -/
def zLw (w1 w2 : zWd) (s : State) (M W : zMem) (H : Heap) (locs : List Loc) : Prop := zP w1 M H ∧ zP w2 W H ∧ va_S (fun q => s.heap.size ≤ q) s.heap H locs
def zLa (w1 w2 : zWd) (s : State) : Prop := w1.2.2.2.1 = s.heap.size ∧ w1.2.2.2.1 + w1.2.2.2.2 ≤ w2.2.2.2.1
theorem zP.kept {w : zWd} {M : zMem} {H H1 : Heap} (hP : zP w M H) (hk : ∀ k, k < w.2.2.2.2 → H1[zad w k]? = H[zad w k]?) : zP w M H1 := by
  unfold zP at hP ⊢
  refine va_P.kept hP (fun k x hx => ?_)
  obtain ⟨j, hj, e⟩ := (zws_D w M).2 k x hx
  rw [e]
  exact hk j hj
theorem zP.at {w : zWd} {M : zMem} {H : Heap} (hP : zP w M H) {k : Nat} (hk : k < w.2.2.2.2) : zad w k < H.size := (hP k _ (zws_get hk)).lt
section ZL
variable {p : Program} {l : Launch} {e : Env} {R : Room} {s : State} {m : MethodId} {args : Array Value} {below : List Frame} {meth : Method} {c : Code} {H : Heap} {locs : List Loc} {cells slots : Nat} {Q : State → Prop} {cc : ByteArray} {pc : Nat} {ls : Array Slot} {rest : List Value} {w1 w2 : zWd} {M W' : zMem} {own : String}
variable {y : MethodName} {b : ByteArray} {mL n idx fr lo nL : Nat} {r : Option FieldType} {lv : List (Nat × Value)} {st As : List Value}
theorem zl_run {w : zWd} {k ci N : Nat} {C : String} {T : u_T} {fs : (Nat → Int32) → List Value} {Qc : Array Value → State → Outcome → State → Prop} (X : zX w p s m args c cc own) (hml : c.maxLocals = nL) (hl : lv_has ls nL lv) (hP : zP w M H) (hS : va_S (fun q => s.heap.size ≤ q) s.heap H locs) (hI : zI_o w k ci fs) (hc : vwCl[ci]? = some (C, T, N)) (hC : zCV own idx C y b mL r n)
    (hM : Met l y (.code y b mL r :: zU) (zRm fr lo) (zPre w (.ref (zad w k) :: As) M) Qc 0 0 (zA w)) (hn : As.length = n) (hR : fr + 1 ≤ R.frames ∧ 8 + (mL + 11) + lo ≤ R.locals) (hf : cells ≤ R.cells ∧ slots ≤ R.slots) (hst : st = As.reverse ++ .ref (zad w k) :: rest) (hcat : (rest.map fun v => v.category).sum ≤ 8) (hdg : decode cc pc = .ok (.invokevirtual idx, 3)) :
    va_Run p l e R s m args below meth c H locs cells slots 0 0 (F0 m pc ls st) rest (Qc (Value.ref (zad w k) :: As).toArray) (zA w) := by
  obtain ⟨hx, hb, hown, hts, hK⟩ := X
  exact va_runV (As := As) (rest := rest) ⟨hx, hb, hml, hown, hts⟩ hM (cwV n hts hC.1 rfl rfl rfl hC.2 hR) (zPreV hK hP (fun a ha _ => hS.2.1 a ha (Nat.not_le.mpr ha)) hI hc) rfl hn hl.1 hst (lv_room hcat) hdg ⟨hf.1, hf.2⟩
theorem zl_in1 (hA : zLa w1 w2 s) {q : Nat} (h : zA w1 q) : s.heap.size ≤ q := by
  obtain ⟨j, -, e⟩ := h
  have := hA.1
  unfold zad at e
  omega
theorem zl_in2 (hA : zLa w1 w2 s) {q : Nat} (h : zA w2 q) : s.heap.size ≤ q := by
  obtain ⟨j, -, e⟩ := h
  have := hA.1
  have := hA.2
  unfold zad at e
  omega
theorem zl_keep2 (hA : zLa w1 w2 s) {H1 : Heap} (hP : zP w2 W' H) (hk : ∀ q : Nat, q < H.size → ¬ zA w1 q → H1[q]? = H[q]?) : zP w2 W' H1 := hP.kept (fun k hk2 => hk _ (hP.at hk2) (fun z => by
  obtain ⟨j, hj, e⟩ := z
  have := hA.2
  unfold zad at e
  omega))
theorem zl_keep1 (hA : zLa w1 w2 s) {H1 : Heap} (hP : zP w1 M H) (hk : ∀ q : Nat, q < H.size → ¬ zA w2 q → H1[q]? = H[q]?) : zP w1 M H1 := hP.kept (fun k hk2 => hk _ (hP.at hk2) (fun z => by
  obtain ⟨j, hj, e⟩ := z
  have := hA.2
  unfold zad at e
  omega))
theorem zl_1i {post : Int32 → zMem → Prop} {a : Array Value} (hA : zLa w1 w2 s) (hL : zLw w1 w2 s M W' H locs) (hr : va_Run p l e R s m args below meth c H locs cells slots 0 0 (F0 m pc ls st) rest (va_Qi post (zB w1) (zA w1) a) (zA w1))
    (kk : ∀ (r : Int32) (M : zMem) (H : Heap) (locs : List Loc), post r M → zLw w1 w2 s M W' H locs → W p l e R s m args below meth c H locs cells slots Q (F0 m (pc + 3) ls (.int r :: rest))) : W p l e R s m args below meth c H locs cells slots Q (F0 m pc ls st) :=
  va_calli hr hL.2.2 (fun q _ h => zl_in1 hA h) (fun q h => zl_in1 hA h) (fun r M1 t H1 locs1 ht _ hp hB _ hk hS => kk r M1 H1 locs1 hp ⟨by rw [← ht]; exact hB, zl_keep2 hA hL.2.1 hk, hS⟩)
theorem zl_1l {post : Int64 → zMem → Prop} {a : Array Value} (hA : zLa w1 w2 s) (hL : zLw w1 w2 s M W' H locs) (hr : va_Run p l e R s m args below meth c H locs cells slots 0 0 (F0 m pc ls st) rest (va_Ql post (zB w1) (zA w1) a) (zA w1))
    (kk : ∀ (r : Int64) (M : zMem) (H : Heap) (locs : List Loc), post r M → zLw w1 w2 s M W' H locs → W p l e R s m args below meth c H locs cells slots Q (F0 m (pc + 3) ls (.long r :: rest))) : W p l e R s m args below meth c H locs cells slots Q (F0 m pc ls st) :=
  va_calll hr hL.2.2 (fun q _ h => zl_in1 hA h) (fun q h => zl_in1 hA h) (fun r M1 t H1 locs1 ht _ hp hB _ hk hS => kk r M1 H1 locs1 hp ⟨by rw [← ht]; exact hB, zl_keep2 hA hL.2.1 hk, hS⟩)
theorem zl_2i {post : Int32 → zMem → Prop} {a : Array Value} (hA : zLa w1 w2 s) (hL : zLw w1 w2 s M W' H locs) (hr : va_Run p l e R s m args below meth c H locs cells slots 0 0 (F0 m pc ls st) rest (va_Qi post (zB w2) (zA w2) a) (zA w2))
    (kk : ∀ (r : Int32) (W' : zMem) (H : Heap) (locs : List Loc), post r W' → zLw w1 w2 s M W' H locs → W p l e R s m args below meth c H locs cells slots Q (F0 m (pc + 3) ls (.int r :: rest))) : W p l e R s m args below meth c H locs cells slots Q (F0 m pc ls st) :=
  va_calli hr hL.2.2 (fun q _ h => zl_in2 hA h) (fun q h => zl_in2 hA h) (fun r M1 t H1 locs1 ht _ hp hB _ hk hS => kk r M1 H1 locs1 hp ⟨zl_keep1 hA hL.1 hk, by rw [← ht]; exact hB, hS⟩)
theorem zl_2l {post : Int64 → zMem → Prop} {a : Array Value} (hA : zLa w1 w2 s) (hL : zLw w1 w2 s M W' H locs) (hr : va_Run p l e R s m args below meth c H locs cells slots 0 0 (F0 m pc ls st) rest (va_Ql post (zB w2) (zA w2) a) (zA w2))
    (kk : ∀ (r : Int64) (W' : zMem) (H : Heap) (locs : List Loc), post r W' → zLw w1 w2 s M W' H locs → W p l e R s m args below meth c H locs cells slots Q (F0 m (pc + 3) ls (.long r :: rest))) : W p l e R s m args below meth c H locs cells slots Q (F0 m pc ls st) :=
  va_calll hr hL.2.2 (fun q _ h => zl_in2 hA h) (fun q h => zl_in2 hA h) (fun r M1 t H1 locs1 ht _ hp hB _ hk hS => kk r M1 H1 locs1 hp ⟨zl_keep1 hA hL.1 hk, by rw [← ht]; exact hB, hS⟩)
/-- an int of the script -/
theorem zl_ld {sc L i k : Nat} {xs : Nat → Int32} (hx : p.tables.exec = Jvm.exec) (hb : c.code = cc) (hX : va_X sc L xs s s.heap) (hbl : sc < s.heap.size) (hL : zLw w1 w2 s M W' H locs) (hi : i + k < L) (hLs : L < 2147483648) (hdg : decode cc pc = .ok (.iaload, 1))
    (kk : W p l e R s m args below meth c H locs cells slots Q (F0 m (pc + 1) ls (.int (xs (i + k)) :: rest))) : W p l e R s m args below meth c H locs cells slots Q (F0 m pc ls (.int (nI i + nI k) :: .ref sc :: rest)) := by
  have e1 : nI i + nI k = nI (i + k) := q_add i k
  rw [e1]
  refine va_sld hx hb hX hbl (A := fun q => s.heap.size ≤ q) (Nat.not_le.mpr hbl) hL.2.2 (vp_in_nI hi hLs) hdg ?_
  rw [nI_clamp (by omega)]
  exact kk
theorem zl_ld0 {sc L i : Nat} {xs : Nat → Int32} (hx : p.tables.exec = Jvm.exec) (hb : c.code = cc) (hX : va_X sc L xs s s.heap) (hbl : sc < s.heap.size) (hL : zLw w1 w2 s M W' H locs) (hi : i < L) (hLs : L < 2147483648) (hdg : decode cc pc = .ok (.iaload, 1))
    (kk : W p l e R s m args below meth c H locs cells slots Q (F0 m (pc + 1) ls (.int (xs i) :: rest))) : W p l e R s m args below meth c H locs cells slots Q (F0 m pc ls (.int (nI i) :: .ref sc :: rest)) := by
  refine va_sld hx hb hX hbl (A := fun q => s.heap.size ≤ q) (Nat.not_le.mpr hbl) hL.2.2 (vp_in_nI hi hLs) hdg ?_
  rw [nI_clamp (by omega)]
  exact kk
end ZL
