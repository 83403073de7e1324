abbrev zMem : Type := Nat → Nat → Int32
def zset (M : zMem) (k : Nat) (f : Nat → Int32) : zMem := fun a => if a = k then f else M a
def zup (M : zMem) (k j : Nat) (x : Int32) : zMem := zset M k (upd (M k) j x)
/-- a world: classes and slots, array classes, the shape of each cell, the first address, how many cells -/
abbrev zWd : Type := va_G × (Nat → ClassId) × (Nat → (Nat → Int32) → va_E) × Nat × Nat
def zad (w : zWd) (k : Nat) : Nat := w.2.2.2.1 + k
def zws (w : zWd) (M : zMem) : va_W := (List.range w.2.2.2.2).map fun k => (zad w k, w.2.2.1 k (M k))
def zA (w : zWd) : Nat → Prop := fun q => ∃ k, k < w.2.2.2.2 ∧ q = zad w k
def ztys (w : zWd) : List (ClassId × FieldType) := [(w.2.1 0, .byte), (w.2.1 1, .int), (w.2.1 2, .boolean), (w.2.1 3, .object "HandToHand$Bench"), (w.2.1 4, .object "HandToHand$Sheet")]
def zAb (w : zWd) : Nat → Prop := fun q => w.2.2.2.1 ≤ q
/-- the words of the text: where the class's string constants lie, what they hold -/
def zsa (w : zWd) (i : Nat) : Nat := w.2.1 (100 + i)
def zsv (w : zWd) (i : Nat) : Nat := w.2.1 (200 + i)
def zsL : List Nat := [5, 5, 4, 3, 4, 4, 5, 4, 4, 5, 0]
def zsB : List (List Int32) := [[112, 105, 101, 99, 101], [119, 104, 111, 108, 101], [115, 111, 114, 116], [114, 111, 119], [104, 97, 110, 100], [119, 97, 108, 107], [108, 101, 97, 114, 110], [98, 97, 99, 107], [122, 111, 110, 101], [102, 105, 120, 101, 100], []]
def zsI : List Nat := [187, 189, 190, 192, 193, 195, 196, 197, 199, 201, 203]
def zsT : List String := ["piece", "whole", "sort", "row", "hand", "walk", "learn", "back", "zone", "fixed", ""]
def zStr (w : zWd) (U : State) (H : Heap) : Prop := vk_S 11 zsL zsB (zsa w) (zsv w) (zAb w) U H ∧ (∀ i, i < 11 → vk_R "HandToHand$Reader" (zsI.getD i 0) (zsT.getD i "") (zsa w i) U) ∧ va_Z "java/lang/String" "COMPACT_STRINGS" "Z" (.int 1) (zAb w) U H ∧ va_Zq "jdk/internal/util/Preconditions" "SIOOBE_FORMATTER" "Ljava/util/function/BiFunction;" (zAb w) U H
/-- what lies below the world is as it was -/
def zFr (w : zWd) (s : State) (H : Heap) : Prop := ∀ a : Nat, a < s.heap.size → ¬ zAb w a → H[a]? = s.heap[a]?
theorem zStr.go {w : zWd} {s U : State} (h : zStr w s s.heap) (hV : s.WarmedH U.vm) (hk : zFr w s U.heap) : zStr w U U.heap := ⟨(vk_S.moved hV.alike h.1).kept hk, fun i hi => vk_R.warm hV (h.2.1 i hi), (va_Z.moved hV.alike h.2.2.1).kept hk, (va_Zq.moved hV.alike h.2.2.2).kept hk⟩
theorem zStr.same {w : zWd} {s U : State} (h : zStr w s s.heap) (hV : s.vm = U.vm) (hh : U.heap = s.heap) : zStr w U U.heap := by
  have hA : s.vm.Alike U.vm := by rw [hV]; exact Vm.Alike.refl U.vm
  rw [hh]
  exact ⟨vk_S.moved hA h.1, fun i hi => vk_R.same hV.symm (h.2.1 i hi), va_Z.moved hA h.2.2.1, va_Zq.moved hA h.2.2.2⟩
def zK (w : zWd) (s : State) : Prop := va_K w.1 vwCl (ztys w) s ∧ (∀ q ∈ zN, va_Nw (.methodLinkNest q.1 q.2.1 q.2.2.1 q.2.2.2) s) ∧ zStr w s s.heap
theorem zK.warm {w : zWd} {s U : State} (h : zK w s) (hV : s.WarmedH U.vm) (hk : zFr w s U.heap) : zK w U := ⟨va_K.moved hV.alike h.1, fun q hq => va_Nw.warmM hV (h.2.1 q hq), h.2.2.go hV hk⟩
theorem zK.same {w : zWd} {s U : State} (h : zK w s) (hV : s.vm = U.vm) (hh : U.heap = s.heap) : zK w U := ⟨va_K.moved (by rw [hV]; exact Vm.Alike.refl U.vm) h.1, fun q hq => va_Nw.same rfl hV (h.2.1 q hq), h.2.2.same hV hh⟩
def zP (w : zWd) (M : zMem) (H : Heap) : Prop := va_P w.1 vwCl (zws w M) H
def zWo (w : zWd) (H0 : Heap) (M : zMem) (H : Heap) (locs : List Loc) : Prop := zP w M H ∧ va_S (zA w) H0 H locs
theorem zad_inj {w : zWd} {a b : Nat} (h : zad w a = zad w b) : a = b := by unfold zad at h; omega
theorem zws_get {w : zWd} {M : zMem} {k : Nat} (hk : k < w.2.2.2.2) : (zws w M)[k]? = some (zad w k, w.2.2.1 k (M k)) := by
  unfold zws
  rw [List.getElem?_map, List.getElem?_range hk]
  rfl
theorem zws_D (w : zWd) (M : zMem) : va_D (zA w) (zws w M) := by
  have hlen : (zws w M).length = w.2.2.2.2 := by simp [zws]
  have key : ∀ (i : Nat) (p : Nat × va_E), (zws w M)[i]? = some p → i < w.2.2.2.2 ∧ p.1 = zad w i := by
    intro i p h
    have hi : i < w.2.2.2.2 := by
      rw [← hlen]
      exact (List.getElem?_eq_some_iff.mp h).1
    rw [zws_get hi] at h
    exact ⟨hi, by rw [← Option.some.inj h]⟩
  refine ⟨fun i j p q hi hj e => ?_, fun k q h => ?_⟩
  · have h1 := (key i p hi).2
    have h2 := (key j q hj).2
    exact zad_inj (w := w) (by rw [← h1, ← h2, e])
  · exact ⟨k, (key k q h).1, (key k q h).2⟩
theorem zws_set {w : zWd} {M : zMem} {k : Nat} {f : Nat → Int32} {x : va_E} (hx : w.2.2.1 k f = x) : (zws w M).set k (zad w k, x) = zws w (zset M k f) := by
  subst hx
  apply List.ext_getElem?
  intro i
  by_cases hi : i < w.2.2.2.2
  · rw [zws_get hi]
    by_cases hk : i = k
    · subst hk
      rw [List.getElem?_set_self (by simp [zws]; exact hi)]
      simp [zset]
    · rw [List.getElem?_set_ne (fun h => hk h.symm), zws_get hi]
      simp [zset, hk]
  · rw [List.getElem?_eq_none (by simp [zws]; omega), List.getElem?_eq_none (by simp [zws]; omega)]
/-- what stays the same through a method's walk -/
def zX (w : zWd) (p : Program) (s : State) (m : MethodId) (args : Array Value) (c : Code) (cc : ByteArray) (own : String) : Prop :=
  p.tables.exec = Jvm.exec ∧ c.code = cc ∧ s.vm.findClass own = some m.cls ∧ (∀ u ∈ zU, u.before args s = true) ∧ zK w s
def zI_o (w : zWd) (k ci : Nat) (fs : (Nat → Int32) → List Value) : Prop := k < w.2.2.2.2 ∧ ∀ f, w.2.2.1 k f = .inr (ci, fs f)
def zI_a (w : zWd) (k n : Nat) : Prop := k < w.2.2.2.2 ∧ ∀ f, w.2.2.1 k f = .inl (w.2.1 1, n, .inl f)
def zI_b (w : zWd) (k n : Nat) : Prop := k < w.2.2.2.2 ∧ ∀ f, w.2.2.1 k f = .inl (w.2.1 0, n, .inl f)
def zI_z (w : zWd) (k n : Nat) : Prop := k < w.2.2.2.2 ∧ ∀ f, w.2.2.1 k f = .inl (w.2.1 2, n, .inl f)
section ZR
variable {p : Program} {l : Launch} {e : Env} {R : Room} {s : State} {m : MethodId} {args : Array Value} {below : List Frame} {meth : Method} {c : Code} {H H0 : Heap} {locs : List Loc} {cells slots : Nat} {Q : State → Prop} {cc : ByteArray} {pc : Nat} {ls : Array Slot} {rest : List Value} {w : zWd} {M : zMem} {own : String}
theorem zget {k ci index N : Nat} {C : String} {T : u_T} {fs : (Nat → Int32) → List Value} {v : Value} (X : zX w p s m args c cc own) (hW : zWo w H0 M H locs) (hI : zI_o w k ci fs) (hc : vwCl[ci]? = some (C, T, N)) (hin : ∀ u ∈ u_ws C T N, u ∈ zU) (j : Nat) (hj : j < N) (hd1 : (T j).1 = C) (hl : Cond.fieldLink own index C (T j).2.1 (T j).2.2.1 ∈ zU) (hv : (fs (M k))[j]? = some v) (hdg : decode cc pc = .ok (.getfield index, 3))
    (kk : W p l e R s m args below meth c H locs cells slots Q (F0 m (pc + 3) ls (v :: rest))) : W p l e R s m args below meth c H locs cells slots Q (F0 m pc ls (.ref (zad w k) :: rest)) := by
  obtain ⟨hx, hb, hown, hts, hK⟩ := X
  exact va_get (D := w.1) (ci := ci) (v := v) (C := C) (T := T) (N := N) (Ts := zU) hx hb hts hin hown hK.1 hW.1 k (by rw [zws_get hI.1, hI.2]) hc j hj (hts _ hl) (fun x h => by rw [hd1] at h; exact h) hv hdg kk
theorem zput {k ci index N : Nat} {C : String} {T : u_T} {ty0 : Nat → FieldType} {ty : FieldType} {fs : (Nat → Int32) → List Value} {x : Int32} (X : zX w p s m args c cc own) (hW : zWo w H0 M H locs) (hI : zI_o w k ci fs) (hc : vwCl[ci]? = some (C, T, N)) (hin : ∀ u ∈ u_ws C T N, u ∈ zU) (hty : ∀ k, k < N → parseFieldDescriptor (T k).2.2.1 = some (ty0 k)) (hnm : ∀ a, a < N → ∀ b, b < N → a ≠ b → (T a).2.1 ≠ (T b).2.1) (j : Nat) (hj : j < N) (hd1 : (T j).1 = C) (hl : Cond.fieldLink own index C (T j).2.1 (T j).2.2.1 ∈ zU) (hfin : (T j).2.2.2 = false) (hty1 : ty0 j = ty) (hn : narrow ty (.int x) = .int x) (hfit : fits ty (.int x) = true) (hlen : ∀ f, (fs f).length = N) (hs : ∀ f, (fs f).set j (.int x) = fs (upd f j x)) (hdg : decode cc pc = .ok (.putfield index, 3))
    (kk : ∀ (H1 : Heap) (locs1 : List Loc) (M1 : zMem), M1 = zup M k j x → zWo w H0 M1 H1 locs1 → W p l e R s m args below meth c H1 locs1 cells slots Q (F0 m (pc + 3) ls rest)) : W p l e R s m args below meth c H locs cells slots Q (F0 m pc ls (.int x :: .ref (zad w k) :: rest)) := by
  obtain ⟨hx, hb, hown, hts, hK⟩ := X
  refine va_put (D := w.1) (ci := ci) (v := .int x) (ty := ty) (C := C) (T := T) (N := N) (Ts := zU) hx hb hts hin ty0 hty hnm hown hK.1 hW.1 (zws_D w M) hW.2 k (by rw [zws_get hI.1, hI.2]) hc j hj (hts _ hl) (fun x h => by rw [hd1] at h; exact h) hfin (by rw [hty j hj, hty1]) hn hfit (by rw [hlen]; exact hj) hdg (fun H1 locs1 hP _ hS => ?_)
  refine kk H1 locs1 _ rfl ⟨?_, hS⟩
  have e1 : w.2.2.1 k (upd (M k) j x) = .inr (ci, (fs (M k)).set j (.int x)) := by rw [hI.2, hs]
  rw [zws_set e1] at hP
  exact hP
theorem ziald {k n : Nat} {i : Int32} (X : zX w p s m args c cc own) (hW : zWo w H0 M H locs) (hI : zI_a w k n) (hi : vp_in i n) (hdg : decode cc pc = .ok (.iaload, 1))
    (kk : W p l e R s m args below meth c H locs cells slots Q (F0 m (pc + 1) ls (.int (M k i.toNatClampNeg) :: rest))) : W p l e R s m args below meth c H locs cells slots Q (F0 m pc ls (.int i :: .ref (zad w k) :: rest)) := by
  obtain ⟨hx, hb, hown, hts, hK⟩ := X
  exact va_iald (D := w.1) hx hb hK.1 hW.1 k 1 (by rw [zws_get hI.1, hI.2]) rfl hi hdg kk
theorem zbald {k n : Nat} {i : Int32} (X : zX w p s m args c cc own) (hW : zWo w H0 M H locs) (hI : zI_b w k n) (hi : vp_in i n) (hdg : decode cc pc = .ok (.baload, 1))
    (kk : W p l e R s m args below meth c H locs cells slots Q (F0 m (pc + 1) ls (.int (M k i.toNatClampNeg) :: rest))) : W p l e R s m args below meth c H locs cells slots Q (F0 m pc ls (.int i :: .ref (zad w k) :: rest)) := by
  obtain ⟨hx, hb, hown, hts, hK⟩ := X
  exact va_bald (D := w.1) hx hb hK.1 hW.1 k 0 (by rw [zws_get hI.1, hI.2]) rfl hi hdg kk
theorem zzald {k n : Nat} {i : Int32} (X : zX w p s m args c cc own) (hW : zWo w H0 M H locs) (hI : zI_z w k n) (hi : vp_in i n) (hdg : decode cc pc = .ok (.baload, 1))
    (kk : W p l e R s m args below meth c H locs cells slots Q (F0 m (pc + 1) ls (.int (M k i.toNatClampNeg) :: rest))) : W p l e R s m args below meth c H locs cells slots Q (F0 m pc ls (.int i :: .ref (zad w k) :: rest)) := by
  obtain ⟨hx, hb, hown, hts, hK⟩ := X
  exact va_zald (D := w.1) hx hb hK.1 hW.1 k 2 (by rw [zws_get hI.1, hI.2]) rfl hi hdg kk
theorem ziast {k n : Nat} {i x : Int32} (X : zX w p s m args c cc own) (hW : zWo w H0 M H locs) (hI : zI_a w k n) (hi : vp_in i n) (hdg : decode cc pc = .ok (.iastore, 1))
    (kk : ∀ (H1 : Heap) (locs1 : List Loc) (M1 : zMem), M1 = zup M k i.toNatClampNeg x → zWo w H0 M1 H1 locs1 → W p l e R s m args below meth c H1 locs1 cells slots Q (F0 m (pc + 1) ls rest)) : W p l e R s m args below meth c H locs cells slots Q (F0 m pc ls (.int x :: .int i :: .ref (zad w k) :: rest)) := by
  obtain ⟨hx, hb, hown, hts, hK⟩ := X
  refine va_iast (D := w.1) hx hb hK.1 hW.1 (zws_D w M) hW.2 k 1 (by rw [zws_get hI.1, hI.2]) rfl hi hdg (fun H1 locs1 hP _ hS => ?_)
  refine kk H1 locs1 _ rfl ⟨?_, hS⟩
  rw [zws_set (hI.2 _)] at hP
  exact hP
theorem zbast {k n : Nat} {i x : Int32} (X : zX w p s m args c cc own) (hW : zWo w H0 M H locs) (hI : zI_b w k n) (hi : vp_in i n) (hdg : decode cc pc = .ok (.bastore, 1))
    (kk : ∀ (H1 : Heap) (locs1 : List Loc) (M1 : zMem), M1 = zup M k i.toNatClampNeg (vp_nar .byte x) → zWo w H0 M1 H1 locs1 → W p l e R s m args below meth c H1 locs1 cells slots Q (F0 m (pc + 1) ls rest)) : W p l e R s m args below meth c H locs cells slots Q (F0 m pc ls (.int x :: .int i :: .ref (zad w k) :: rest)) := by
  obtain ⟨hx, hb, hown, hts, hK⟩ := X
  refine va_bast (D := w.1) hx hb hK.1 hW.1 (zws_D w M) hW.2 k 0 (by rw [zws_get hI.1, hI.2]) rfl hi hdg (fun H1 locs1 hP _ hS => ?_)
  refine kk H1 locs1 _ rfl ⟨?_, hS⟩
  rw [zws_set (hI.2 _)] at hP
  exact hP
theorem zzast {k n : Nat} {i x : Int32} (X : zX w p s m args c cc own) (hW : zWo w H0 M H locs) (hI : zI_z w k n) (hi : vp_in i n) (hdg : decode cc pc = .ok (.bastore, 1))
    (kk : ∀ (H1 : Heap) (locs1 : List Loc) (M1 : zMem), M1 = zup M k i.toNatClampNeg (vp_nar .boolean x) → zWo w H0 M1 H1 locs1 → W p l e R s m args below meth c H1 locs1 cells slots Q (F0 m (pc + 1) ls rest)) : W p l e R s m args below meth c H locs cells slots Q (F0 m pc ls (.int x :: .int i :: .ref (zad w k) :: rest)) := by
  obtain ⟨hx, hb, hown, hts, hK⟩ := X
  refine va_zast (D := w.1) hx hb hK.1 hW.1 (zws_D w M) hW.2 k 2 (by rw [zws_get hI.1, hI.2]) rfl hi hdg (fun H1 locs1 hP _ hS => ?_)
  refine kk H1 locs1 _ rfl ⟨?_, hS⟩
  rw [zws_set (hI.2 _)] at hP
  exact hP
end ZR
-- contracts
def zPre (w : zWd) (av : List Value) (M : zMem) : Array Value → State → Prop := va_Pc av (fun U => zP w M U.heap ∧ zK w U)
def zB (w : zWd) (M : zMem) (t : State) : Prop := zP w M t.heap
def zRm (fr lo : Nat) : Room := { frames := fr, cells := 0, slots := 0, locals := lo }
abbrev zMi (l : Launch) (y : MethodName) (cc : ByteArray) (mL : Nat) (ret : Option FieldType) (fr lo : Nat) (w : zWd) (av : List Value) (M : zMem) (post : Int32 → zMem → Prop) : Prop :=
  Met l y (.code y cc mL ret :: zU) (zRm fr lo) (zPre w av M) (va_Qi post (zB w) (zA w)) 0 0 (zA w)
abbrev zMl (l : Launch) (y : MethodName) (cc : ByteArray) (mL : Nat) (ret : Option FieldType) (fr lo : Nat) (w : zWd) (av : List Value) (M : zMem) (post : Int64 → zMem → Prop) : Prop :=
  Met l y (.code y cc mL ret :: zU) (zRm fr lo) (zPre w av M) (va_Ql post (zB w) (zA w)) 0 0 (zA w)
abbrev zMv (l : Launch) (y : MethodName) (cc : ByteArray) (mL : Nat) (ret : Option FieldType) (fr lo : Nat) (w : zWd) (av : List Value) (M : zMem) (post : zMem → Prop) : Prop :=
  Met l y (.code y cc mL ret :: zU) (zRm fr lo) (zPre w av M) (va_Qv post (zB w) (zA w)) 0 0 (zA w)
theorem zMet {l : Launch} {y : MethodName} {cc : ByteArray} {mL : Nat} {ret : Option FieldType} {fr lo : Nat} {w : zWd} {av : List Value} {M : zMem} {Qc : Array Value → State → Outcome → State → Prop} (hy : plainName y.cls = true) (hlen : (lg_sl av).length ≤ mL)
    (body : ∀ (p : Program) (e : Env) (s : State) (m : MethodId) (below : List Frame) (meth : Method) (c : Code), zX w p s m av.toArray c cc y.cls → meth.sig.returnType = ret → meth.locks = false → c.maxLocals = mL → zWo w s.heap M s.heap [] → ∀ ls : Array Slot, lv_has ls mL (lv_args 0 av) → W p l e (zRm fr lo) s m av.toArray below meth c s.heap [] 0 0 (MQ below Qc av.toArray s 0 0 (zA w)) (F0 m 0 ls [])) :
    Met l y (.code y cc mL ret :: zU) (zRm fr lo) (zPre w av M) Qc 0 0 (zA w) := by
  refine Met.ofW (cc := cc) (maxL := mL) (ret := ret) hy rfl ?_
  intro p e s m args below meth c s₁ B hml hv
  obtain ⟨rfl, hP, hK⟩ := hv
  have hts := atoms_spec (ws := .code y cc mL ret :: zU) B.pre
  have hl := lv_entry av (n := mL) hlen
  rw [lg_entry_eq]
  exact body p e s m below meth c ⟨B.exec, B.bytes, findClass_of_methodNamed B.named, fun u hu => hts u (List.mem_cons_of_mem _ hu), hK⟩ B.returns B.notSynchronized hml ⟨hP, va_S.rf⟩ _ hl
section ZE
variable {p : Program} {l : Launch} {e : Env} {R : Room} {s : State} {m : MethodId} {args : Array Value} {below : List Frame} {meth : Method} {c : Code} {H H0 : Heap} {locs : List Loc} {cells slots : Nat} {Q : State → Prop} {cc : ByteArray} {pc : Nat} {ls : Array Slot} {rest : List Value} {w : zWd} {M : zMem} {own : String}
theorem zWo.B (hW : zWo w s.heap M H locs) {t : State} (ht : t.heap = H) : zB w M t := by unfold zB; rw [ht]; exact hW.1
theorem zreti {post : Int32 → zMem → Prop} {v : Int32} (X : zX w p s m args c cc own) (hr : meth.sig.returnType = some .int) (hlk : meth.locks = false) (hW : zWo w s.heap M H locs) (h : post v M) (hdg : decode cc pc = .ok (.ireturn, 1)) : W p l e R s m args below meth c H locs cells slots (MQ below (va_Qi post (zB w) (zA w)) args s cells slots (zA w)) (F0 m pc ls [.int v]) := by
  obtain ⟨hx, hb, hown, hts, hK⟩ := X
  exact W.iret (v := v) hx hb hr (fun t ht hV => ⟨⟨v, M, rfl, h, hW.B ht⟩, hW.2.F ht⟩) hW.2.2.2 hdg hlk
theorem zretz {post : Int32 → zMem → Prop} {v : Int32} (X : zX w p s m args c cc own) (hr : meth.sig.returnType = some .boolean) (hlk : meth.locks = false) (hW : zWo w s.heap M H locs) (hn : narrow .boolean (.int v) = .int v) (h : post v M) (hdg : decode cc pc = .ok (.ireturn, 1)) : W p l e R s m args below meth c H locs cells slots (MQ below (va_Qi post (zB w) (zA w)) args s cells slots (zA w)) (F0 m pc ls [.int v]) := by
  obtain ⟨hx, hb, hown, hts, hK⟩ := X
  exact W.zret (v := v) hx hb hr hn (fun t ht hV => ⟨⟨v, M, rfl, h, hW.B ht⟩, hW.2.F ht⟩) hW.2.2.2 hdg hlk
theorem zretl {post : Int64 → zMem → Prop} {v : Int64} (X : zX w p s m args c cc own) (hr : meth.sig.returnType = some .long) (hlk : meth.locks = false) (hW : zWo w s.heap M H locs) (h : post v M) (hdg : decode cc pc = .ok (.lreturn, 1)) : W p l e R s m args below meth c H locs cells slots (MQ below (va_Ql post (zB w) (zA w)) args s cells slots (zA w)) (F0 m pc ls [.long v]) := by
  obtain ⟨hx, hb, hown, hts, hK⟩ := X
  exact W.lret (v := v) hx hb hr (fun t ht hV => ⟨⟨v, M, rfl, h, hW.B ht⟩, hW.2.F ht⟩) hW.2.2.2 hdg hlk
theorem zretv {post : zMem → Prop} (X : zX w p s m args c cc own) (hr : meth.sig.returnType = none) (hlk : meth.locks = false) (hW : zWo w s.heap M H locs) (h : post M) (hdg : decode cc pc = .ok (.return_, 1)) : W p l e R s m args below meth c H locs cells slots (MQ below (va_Qv post (zB w) (zA w)) args s cells slots (zA w)) (F0 m pc ls []) := by
  obtain ⟨hx, hb, hown, hts, hK⟩ := X
  exact W.vret hx hb hr (fun t ht hV => ⟨⟨M, rfl, h, hW.B ht⟩, hW.2.F ht⟩) hW.2.2.2 hdg hlk
theorem zgood {y : MethodName} {b : ByteArray} {n : Nat} {r : Option FieldType} (h : Cond.code y b n r ∈ zU) : GoodIn zU (.code y b n r :: zU) := by
  intro u hu
  rcases List.mem_cons.mp hu with rfl | hu
  · exact ⟨h, good_of_word (zU_good _ h)⟩
  · exact ⟨hu, good_of_word (zU_good _ hu)⟩
theorem zgoodV {y : MethodName} {b : ByteArray} {n idx : Nat} {r : Option FieldType} {own C : String} (h1 : Cond.methodLink own idx y ∈ zU) (h2 : Cond.instanceMethod y ∈ zU) (h3 : Cond.selects C y y ∈ zU) (h4 : Cond.initialized C ∈ zU) (h : Cond.code y b n r ∈ zU) : GoodIn zU (wsV own idx C y (.code y b n r :: zU)) := by
  intro u hu
  unfold wsV at hu
  rcases List.mem_append.mp hu with hu | hu
  · have hm : u ∈ zU := by
      simp only [List.mem_cons, List.not_mem_nil, or_false] at hu
      rcases hu with rfl | rfl | rfl | rfl <;> assumption
    exact ⟨hm, good_of_word (zU_good _ hm)⟩
  · exact zgood h u hu
theorem zgoodS {y : MethodName} {b : ByteArray} {n idx : Nat} {r : Option FieldType} {own : String} (h1 : Cond.methodLink own idx y ∈ zU) (h2 : Cond.static y ∈ zU) (h4 : Cond.initialized own ∈ zU) (h : Cond.code y b n r ∈ zU) : GoodIn zU (wsS own idx y (.code y b n r :: zU)) := by
  intro u hu
  unfold wsS at hu
  rcases List.mem_append.mp hu with hu | hu
  · have hm : u ∈ zU := by
      simp only [List.mem_cons, List.not_mem_nil, or_false] at hu
      rcases hu with rfl | rfl | rfl <;> assumption
    exact ⟨hm, good_of_word (zU_good _ hm)⟩
  · exact zgood h u hu
/-- the words of one call -/
def zCV (own : String) (idx : Nat) (C : String) (y : MethodName) (b : ByteArray) (mL : Nat) (r : Option FieldType) (n : Nat) : Prop := GoodIn zU (wsV own idx C y (.code y b mL r :: zU)) ∧ (y.cls = C ∧ y.cls ≠ "java/lang/invoke/MethodHandle" ∧ y.cls ≠ "java/lang/invoke/VarHandle" ∧ (parseMethodDescriptor y.desc).map (fun d => d.parameters.length) = some n)
def zCS (own : String) (idx : Nat) (y : MethodName) (b : ByteArray) (mL : Nat) (r : Option FieldType) (n : Nat) : Prop := GoodIn zU (wsS own idx y (.code y b mL r :: zU)) ∧ (y.cls = own ∧ y.cls ≠ "java/lang/invoke/MethodHandle" ∧ y.cls ≠ "java/lang/invoke/VarHandle" ∧ (parseMethodDescriptor y.desc).map (fun d => d.parameters.length) = some n)
def zCN (own : String) (idx : Nat) (host : String) (y : MethodName) (b : ByteArray) (mL : Nat) (r : Option FieldType) (n : Nat) : Prop := (own, idx, y, host) ∈ zN ∧ Cond.code y b mL r ∈ zU ∧ Cond.static y ∈ zU ∧ Cond.initialized y.cls ∈ zU ∧ (y.cls ≠ "java/lang/invoke/MethodHandle" ∧ y.cls ≠ "java/lang/invoke/VarHandle" ∧ (parseMethodDescriptor y.desc).map (fun d => d.parameters.length) = some n)
theorem zPre_blind (w : zWd) (av : List Value) (M : zMem) : FrameBlind (zPre w av M) := fun a U g mk q => by obtain ⟨q0, qP, qK⟩ := q; exact ⟨q0, qP, qK.same (U := U.calling g mk a) rfl rfl⟩
theorem zA_b {w : zWd} {q : Nat} (h : zA w q) : zAb w q := by
  obtain ⟨k, -, e⟩ := h
  unfold zad at e
  show w.2.2.2.1 ≤ q
  omega
theorem zWo.fr (hW : zWo w s.heap M H locs) : zFr w s H := fun a ha hn => hW.2.2.1 a ha (fun z => hn (zA_b z))
theorem zPreV {k ci N : Nat} {C : String} {T : u_T} {fs : (Nat → Int32) → List Value} {As : List Value} (hK : zK w s) (hP : zP w M H) (hF : zFr w s H) (hI : zI_o w k ci fs) (hc : vwCl[ci]? = some (C, T, N)) : PreV s H C (zad w k) (zPre w (.ref (zad w k) :: As) M) As :=
  ⟨zPre_blind w _ M, va_recv hK.1 hP (ci := ci) (q0 := k) hc (by rw [zws_get hI.1, hI.2]), fun U hU hV => ⟨rfl, by rw [hU]; exact hP, hK.warm hV (by rw [hU]; exact hF)⟩⟩
theorem zPreS {As : List Value} (hK : zK w s) (hP : zP w M H) (hF : zFr w s H) : PreS s H (zPre w As M) As :=
  ⟨zPre_blind w _ M, fun U hU hV => ⟨rfl, by rw [hU]; exact hP, hK.warm hV (by rw [hU]; exact hF)⟩⟩
variable {y : MethodName} {b : ByteArray} {mL n idx fr lo nL : Nat} {r : Option FieldType} {lv : List (Nat × Value)} {st As : List Value}
theorem zcalli {post : Int32 → zMem → Prop} (hr : va_Run p l e R s m args below meth c H locs cells slots 0 0 (F0 m pc ls st) rest (va_Qi post (zB w) (zA w) As.toArray) (zA w)) (hW : zWo w H0 M H locs)
    (kk : ∀ (r : Int32) (M : zMem) (H : Heap) (locs : List Loc), post r M → zWo w H0 M H locs → W p l e R s m args below meth c H locs cells slots Q (F0 m (pc + 3) ls (.int r :: rest))) : W p l e R s m args below meth c H locs cells slots Q (F0 m pc ls st) :=
  va_calli hr hW.2 (fun _ _ h => h) (fun _ h => h) (fun r M1 t H1 locs1 ht _ hp hB _ _ hS => kk r M1 H1 locs1 hp ⟨by rw [← ht]; exact hB, hS⟩)
theorem zcalll {post : Int64 → zMem → Prop} (hr : va_Run p l e R s m args below meth c H locs cells slots 0 0 (F0 m pc ls st) rest (va_Ql post (zB w) (zA w) As.toArray) (zA w)) (hW : zWo w H0 M H locs)
    (kk : ∀ (r : Int64) (M : zMem) (H : Heap) (locs : List Loc), post r M → zWo w H0 M H locs → W p l e R s m args below meth c H locs cells slots Q (F0 m (pc + 3) ls (.long r :: rest))) : W p l e R s m args below meth c H locs cells slots Q (F0 m pc ls st) :=
  va_calll hr hW.2 (fun _ _ h => h) (fun _ h => h) (fun r M1 t H1 locs1 ht _ hp hB _ _ hS => kk r M1 H1 locs1 hp ⟨by rw [← ht]; exact hB, hS⟩)
theorem zcallv {post : zMem → Prop} (hr : va_Run p l e R s m args below meth c H locs cells slots 0 0 (F0 m pc ls st) rest (va_Qv post (zB w) (zA w) As.toArray) (zA w)) (hW : zWo w H0 M H locs)
    (kk : ∀ (M : zMem) (H : Heap) (locs : List Loc), post M → zWo w H0 M H locs → W p l e R s m args below meth c H locs cells slots Q (F0 m (pc + 3) ls rest)) : W p l e R s m args below meth c H locs cells slots Q (F0 m pc ls st) :=
  va_callv hr hW.2 (fun _ _ h => h) (fun _ h => h) (fun M1 t H1 locs1 ht _ hp hB _ _ hS => kk M1 H1 locs1 hp ⟨by rw [← ht]; exact hB, hS⟩)
theorem zrunV {k ci N : Nat} {C : String} {T : u_T} {fs : (Nat → Int32) → List Value} {Qc : Array Value → State → Outcome → State → Prop} (X : zX w p s m args c cc own) (hml : c.maxLocals = nL) (hl : lv_has ls nL lv) (hW : zWo w s.heap M H locs) (hI : zI_o w k ci fs) (hc : vwCl[ci]? = some (C, T, N)) (hC : zCV own idx C y b mL r n)
    (hM : Met l y (.code y b mL r :: zU) (zRm fr lo) (zPre w (.ref (zad w k) :: As) M) Qc 0 0 (zA w)) (hn : As.length = n) (hR : fr + 1 ≤ R.frames ∧ 8 + (mL + 11) + lo ≤ R.locals) (hf : cells ≤ R.cells ∧ slots ≤ R.slots) (hst : st = As.reverse ++ .ref (zad w k) :: rest) (hcat : (rest.map fun v => v.category).sum ≤ 8) (hdg : decode cc pc = .ok (.invokevirtual idx, 3)) :
    va_Run p l e R s m args below meth c H locs cells slots 0 0 (F0 m pc ls st) rest (Qc (Value.ref (zad w k) :: As).toArray) (zA w) := by
  obtain ⟨hx, hb, hown, hts, hK⟩ := X
  exact va_runV (As := As) (rest := rest) ⟨hx, hb, hml, hown, hts⟩ hM (cwV n hts hC.1 rfl rfl rfl hC.2 hR) (zPreV hK hW.1 hW.fr hI hc) rfl hn hl.1 hst (lv_room hcat) hdg ⟨hf.1, hf.2⟩
theorem zrunS {Qc : Array Value → State → Outcome → State → Prop} (X : zX w p s m args c cc own) (hml : c.maxLocals = nL) (hl : lv_has ls nL lv) (hW : zWo w s.heap M H locs) (hC : zCS own idx y b mL r n)
    (hM : Met l y (.code y b mL r :: zU) (zRm fr lo) (zPre w As M) Qc 0 0 (zA w)) (hn : As.length = n) (hR : fr + 1 ≤ R.frames ∧ 8 + (mL + 11) + lo ≤ R.locals) (hf : cells ≤ R.cells ∧ slots ≤ R.slots) (hst : st = As.reverse ++ rest) (hcat : (rest.map fun v => v.category).sum ≤ 8) (hdg : decode cc pc = .ok (.invokestatic idx, 3)) :
    va_Run p l e R s m args below meth c H locs cells slots 0 0 (F0 m pc ls st) rest (Qc As.toArray) (zA w) := by
  obtain ⟨hx, hb, hown, hts, hK⟩ := X
  exact va_runS (As := As) (rest := rest) ⟨hx, hb, hml, hown, hts⟩ hM (cwS n hts hC.1 rfl rfl rfl hC.2 hR) (zPreS hK hW.1 hW.fr) rfl hn hl.1 hst (lv_room hcat) hdg ⟨hf.1, hf.2⟩
theorem zrunSN {host : String} {Qc : Array Value → State → Outcome → State → Prop} (X : zX w p s m args c cc own) (hml : c.maxLocals = nL) (hl : lv_has ls nL lv) (hW : zWo w s.heap M H locs) (hC : zCN own idx host y b mL r n)
    (hM : Met l y (.code y b mL r :: zU) (zRm fr lo) (zPre w As M) Qc 0 0 (zA w)) (hn : As.length = n) (hR : fr + 1 ≤ R.frames ∧ 8 + (mL + 11) + lo ≤ R.locals) (hf : cells ≤ R.cells ∧ slots ≤ R.slots) (hst : st = As.reverse ++ rest) (hcat : (rest.map fun v => v.category).sum ≤ 8) (hdg : decode cc pc = .ok (.invokestatic idx, 3)) :
    va_Run p l e R s m args below meth c H locs cells slots 0 0 (F0 m pc ls st) rest (Qc As.toArray) (zA w) := by
  obtain ⟨hx, hb, hown, hts, hK⟩ := X
  exact va_runSN (As := As) (rest := rest) ⟨hx, hb, hml, hown, hts⟩ hM ⟨va_cnB n hts (zgood hC.2.1) rfl rfl rfl (hK.2.1 _ hC.1) (hts _ hC.2.2.2.1) hC.2.2.2.2 hR, hts _ hC.2.2.1, trivial⟩ (zPreS hK hW.1 hW.fr) rfl hn hl.1 hst (lv_room hcat) hdg ⟨hf.1, hf.2⟩
end ZE
/-- loops: n rounds at most -/
def zlp0 (B : (zMem → Prop) → zMem → Prop) (n : Nat) : zMem → Prop := Nat.rec (fun _ => False) (fun _ J => B J) n
def zlp1 {α : Type} (B : (α → zMem → Prop) → α → zMem → Prop) (n : Nat) : α → zMem → Prop := Nat.rec (fun _ _ => False) (fun _ J => B J) n
def zlp2 {α β : Type} (B : (α → β → zMem → Prop) → α → β → zMem → Prop) (n : Nat) : α → β → zMem → Prop := Nat.rec (fun _ _ _ => False) (fun _ J => B J) n
def zlp3 {α β γ : Type} (B : (α → β → γ → zMem → Prop) → α → β → γ → zMem → Prop) (n : Nat) : α → β → γ → zMem → Prop := Nat.rec (fun _ _ _ _ => False) (fun _ J => B J) n
def zlp4 {α β γ δ : Type} (B : (α → β → γ → δ → zMem → Prop) → α → β → γ → δ → zMem → Prop) (n : Nat) : α → β → γ → δ → zMem → Prop := Nat.rec (fun _ _ _ _ _ => False) (fun _ J => B J) n
def zlp5 {α β γ δ ε : Type} (B : (α → β → γ → δ → ε → zMem → Prop) → α → β → γ → δ → ε → zMem → Prop) (n : Nat) : α → β → γ → δ → ε → zMem → Prop := Nat.rec (fun _ _ _ _ _ _ => False) (fun _ J => B J) n
theorem zlp0_r {B : (zMem → Prop) → zMem → Prop} (I : Nat → zMem → Prop) (hB : ∀ n M, I n M → ∀ J : zMem → Prop, (∀ n' M', n' < n → I n' M' → J M') → B J M) {n : Nat} {M : zMem} (h : I n M) : ∃ k, zlp0 B k M := by
  have key : ∀ N n M, n < N → I n M → zlp0 B N M := by
    intro N
    induction N with
    | zero => intro n M h; exact absurd h (Nat.not_lt_zero _)
    | succ N ih => intro n M hn hI; exact hB n M hI _ (fun n' M' h1 h2 => ih n' M' (by omega) h2)
  exact ⟨n + 1, key _ n M (Nat.lt_succ_self n) h⟩
theorem zlp1_r {α : Type} {B : (α → zMem → Prop) → α → zMem → Prop} (I : Nat → α → zMem → Prop) (hB : ∀ n a M, I n a M → ∀ J : α → zMem → Prop, (∀ n' a' M', n' < n → I n' a' M' → J a' M') → B J a M) {n : Nat} {a : α} {M : zMem} (h : I n a M) : ∃ k, zlp1 B k a M := by
  have key : ∀ N n a M, n < N → I n a M → zlp1 B N a M := by
    intro N
    induction N with
    | zero => intro n a M h; exact absurd h (Nat.not_lt_zero _)
    | succ N ih => intro n a M hn hI; exact hB n a M hI _ (fun n' a' M' h1 h2 => ih n' a' M' (by omega) h2)
  exact ⟨n + 1, key _ n a M (Nat.lt_succ_self n) h⟩
theorem zlp2_r {α β : Type} {B : (α → β → zMem → Prop) → α → β → zMem → Prop} (I : Nat → α → β → zMem → Prop) (hB : ∀ n a b M, I n a b M → ∀ J : α → β → zMem → Prop, (∀ n' a' b' M', n' < n → I n' a' b' M' → J a' b' M') → B J a b M) {n : Nat} {a : α} {b : β} {M : zMem} (h : I n a b M) : ∃ k, zlp2 B k a b M := by
  have key : ∀ N n a b M, n < N → I n a b M → zlp2 B N a b M := by
    intro N
    induction N with
    | zero => intro n a b M h; exact absurd h (Nat.not_lt_zero _)
    | succ N ih => intro n a b M hn hI; exact hB n a b M hI _ (fun n' a' b' M' h1 h2 => ih n' a' b' M' (by omega) h2)
  exact ⟨n + 1, key _ n a b M (Nat.lt_succ_self n) h⟩
theorem zlp3_r {α β γ : Type} {B : (α → β → γ → zMem → Prop) → α → β → γ → zMem → Prop} (I : Nat → α → β → γ → zMem → Prop) (hB : ∀ n a b c M, I n a b c M → ∀ J : α → β → γ → zMem → Prop, (∀ n' a' b' c' M', n' < n → I n' a' b' c' M' → J a' b' c' M') → B J a b c M) {n : Nat} {a : α} {b : β} {c : γ} {M : zMem} (h : I n a b c M) : ∃ k, zlp3 B k a b c M := by
  have key : ∀ N n a b c M, n < N → I n a b c M → zlp3 B N a b c M := by
    intro N
    induction N with
    | zero => intro n a b c M h; exact absurd h (Nat.not_lt_zero _)
    | succ N ih => intro n a b c M hn hI; exact hB n a b c M hI _ (fun n' a' b' c' M' h1 h2 => ih n' a' b' c' M' (by omega) h2)
  exact ⟨n + 1, key _ n a b c M (Nat.lt_succ_self n) h⟩
theorem zlp4_r {α β γ δ : Type} {B : (α → β → γ → δ → zMem → Prop) → α → β → γ → δ → zMem → Prop} (I : Nat → α → β → γ → δ → zMem → Prop) (hB : ∀ n a b c d M, I n a b c d M → ∀ J : α → β → γ → δ → zMem → Prop, (∀ n' a' b' c' d' M', n' < n → I n' a' b' c' d' M' → J a' b' c' d' M') → B J a b c d M) {n : Nat} {a : α} {b : β} {c : γ} {d : δ} {M : zMem} (h : I n a b c d M) : ∃ k, zlp4 B k a b c d M := by
  have key : ∀ N n a b c d M, n < N → I n a b c d M → zlp4 B N a b c d M := by
    intro N
    induction N with
    | zero => intro n a b c d M h; exact absurd h (Nat.not_lt_zero _)
    | succ N ih => intro n a b c d M hn hI; exact hB n a b c d M hI _ (fun n' a' b' c' d' M' h1 h2 => ih n' a' b' c' d' M' (by omega) h2)
  exact ⟨n + 1, key _ n a b c d M (Nat.lt_succ_self n) h⟩
theorem zlp5_r {α β γ δ ε : Type} {B : (α → β → γ → δ → ε → zMem → Prop) → α → β → γ → δ → ε → zMem → Prop} (I : Nat → α → β → γ → δ → ε → zMem → Prop) (hB : ∀ n a b c d e M, I n a b c d e M → ∀ J : α → β → γ → δ → ε → zMem → Prop, (∀ n' a' b' c' d' e' M', n' < n → I n' a' b' c' d' e' M' → J a' b' c' d' e' M') → B J a b c d e M) {n : Nat} {a : α} {b : β} {c : γ} {d : δ} {e : ε} {M : zMem} (h : I n a b c d e M) : ∃ k, zlp5 B k a b c d e M := by
  have key : ∀ N n a b c d e M, n < N → I n a b c d e M → zlp5 B N a b c d e M := by
    intro N
    induction N with
    | zero => intro n a b c d e M h; exact absurd h (Nat.not_lt_zero _)
    | succ N ih => intro n a b c d e M hn hI; exact hB n a b c d e M hI _ (fun n' a' b' c' d' e' M' h1 h2 => ih n' a' b' c' d' e' M' (by omega) h2)
  exact ⟨n + 1, key _ n a b c d e M (Nat.lt_succ_self n) h⟩
