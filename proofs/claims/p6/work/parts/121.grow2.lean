/-- two shapes of one cell -/
def zEq (E E' : va_E) : Prop := E = E' ∨ ∃ (cA : ClassId) (N : Nat) (f g : Nat → Option Nat), E = .inl (cA, N, .inr (.inr (.inr (.inr f)))) ∧ E' = .inl (cA, N, .inr (.inr (.inr (.inr g)))) ∧ ∀ j, j < N → f j = g j
theorem zEq.at {D : va_G} {cl : List vw_C} {a : Nat} {E E' : va_E} {H : Heap} (h : zEq E E') (p : va_at D cl (a, E) H) : va_at D cl (a, E') H := by
  rcases h with rfl | ⟨cA, N, f, g, rfl, rfl, e⟩
  · exact p
  · have e1 : vp_cell cA (N, .inr (.inr (.inr (.inr f)))) = vp_cell cA (N, .inr (.inr (.inr (.inr g)))) := by
      rw [vp_cell_q, vp_cell_q]
      unfold arrV
      have : (fun j : Fin N => va_rf (f j.val)) = (fun j : Fin N => va_rf (g j.val)) := by
        funext j
        rw [e j.val j.isLt]
      rw [this]
    show H[a]? = some (vp_cell _ _)
    have p' : H[a]? = some (vp_cell cA (N, .inr (.inr (.inr (.inr f))))) := p
    rw [p', e1]
theorem zGo_castE {w : zWd} {sh sh' : Nat → (Nat → Int32) → va_E} {n : Nat} {M M' : zMem} {H0 H : Heap} {locs : List Loc} (h : ∀ c, c < n → zEq (sh c (M c)) (sh' c (M' c))) (hG : zGo (zwn w sh n) H0 M H locs) : zGo (zwn w sh' n) H0 M' H locs := by
  refine ⟨fun k q hq => ?_, hG.2⟩
  have hk : k < n := by
    have := (List.getElem?_eq_some_iff.mp hq).1
    rw [zws_len] at this
    exact this
  rw [zwn_get hk] at hq
  cases hq
  exact (h k hk).at (hG.1 k _ (zwn_get hk))
section ZO
variable {p : Program} {l : Launch} {e : Env} {R : Room} {s : State} {m : MethodId} {args : Array Value} {below : List Frame} {meth : Method} {c : Code} {H H0 : Heap} {locs : List Loc} {cells slots : Nat} {Q : State → Prop} {cc : ByteArray} {pc idx nL a : Nat} {ls : Array Slot} {rest : List Value} {w : zWd} {own : String} {lv : List (Nat × Value)}
theorem zg_obj (X : zX w p s m args c cc own) (hml : c.maxLocals = nL) (hl : lv_has ls nL lv) (hlink : Cond.methodLink own idx ⟨"java/lang/Object", "<init>", "()V"⟩ ∈ zU) (hinst : Cond.instanceMethod ⟨"java/lang/Object", "<init>", "()V"⟩ ∈ zU) (hcode : Cond.code ⟨"java/lang/Object", "<init>", "()V"⟩ object_method_1_code 1 none ∈ zU) (hR : 1 ≤ R.frames ∧ (rest.map fun v => v.category).sum + 12 ≤ R.locals) (hdg : decode cc pc = .ok (.invokespecial idx, 3))
    (kk : W p l e R s m args below meth c H locs cells slots Q (F0 m (pc + 3) ls rest)) : W p l e R s m args below meth c H locs cells slots Q (F0 m pc ls (.ref a :: rest)) := by
  obtain ⟨hx, hb, hown, hts, hK⟩ := X
  refine W.objInit hx hb hown (hts _ hlink) (hts _ hinst) (hts _ hcode) rfl (by rw [hml]; exact hl.1) rfl hdg hR.1 (by show 2 * 0 + _ + 12 ≤ _; omega) ?_
  exact W.eq (g2 := F0 m (pc + 3) ls rest) rfl kk
end ZO
theorem zt_1 (w : zWd) : (ztys w)[1]? = some (w.2.1 1, .int) := rfl
theorem zt_0 (w : zWd) : (ztys w)[0]? = some (w.2.1 0, .byte) := rfl
theorem zt_2 (w : zWd) : (ztys w)[2]? = some (w.2.1 2, .boolean) := rfl
theorem zt_3 (w : zWd) : (ztys w)[3]? = some (w.2.1 3, .object "HandToHand$Bench") := rfl
theorem zt_4 (w : zWd) : (ztys w)[4]? = some (w.2.1 4, .object "HandToHand$Sheet") := rfl
theorem zsk_fin {w : zWd} {sh : Nat → (Nat → Int32) → va_E} {k n : Nat} {E : va_E} {M : zMem} {H0 H : Heap} {locs : List Loc} (hF : sh k (M k) = E) (hG : zGo (zwn w (zsk sh k E) n) H0 M H locs) : zGo (zwn w sh n) H0 M H locs := by
  refine zGo_cast (fun c _ => ?_) hG
  by_cases q : c = k
  · subst q; rw [zsk_eq, hF]
  · rw [zsk_ne q]
theorem zsk_re {w : zWd} {sh : Nat → (Nat → Int32) → va_E} {k n : Nat} {E E' E'' : va_E} {M : zMem} {H0 H : Heap} {locs : List Loc} (e : E' = E'') (hG : zGo (zwn w (zsk (zsk sh k E) k E') n) H0 M H locs) : zGo (zwn w (zsk sh k E'') n) H0 M H locs := by
  subst e
  refine zGo_cast (fun c _ => ?_) hG
  by_cases q : c = k
  · subst q; rw [zsk_eq, zsk_eq]
  · rw [zsk_ne q, zsk_ne q, zsk_ne q]
/-- the first i of a row of numbers are laid -/
def zpre (L : Nat → Int32) (i : Nat) : Nat → Int32 := fun j => if j < i then L j else 0
theorem zpre_0 (L : Nat → Int32) : zpre L 0 = fun _ => 0 := by funext j; unfold zpre; rw [if_neg (by omega)]
theorem zpre_s (L : Nat → Int32) (i : Nat) : upd (zpre L i) i (L i) = zpre L (i + 1) := by
  funext j
  by_cases e : j = i
  · subst e; rw [upd_eq]; unfold zpre; rw [if_pos (by omega)]
  · rw [upd_ne e]
    unfold zpre
    by_cases q : j < i
    · rw [if_pos q, if_pos (by omega)]
    · rw [if_neg q, if_neg (by omega)]
section ZI
variable {p : Program} {l : Launch} {e : Env} {R : Room} {s : State} {m : MethodId} {args : Array Value} {below : List Frame} {meth : Method} {c : Code} {H H0 : Heap} {locs : List Loc} {cells slots : Nat} {Q : State → Prop} {cc : ByteArray} {pc : Nat} {ls : Array Slot} {rest : List Value} {w : zWd} {M : zMem} {own : String} {sh : Nat → (Nat → Int32) → va_E} {n : Nat}
theorem zg_ist {k N : Nat} {i x : Int32} (L : Nat → Int32) (j : Nat) (X : zX w p s m args c cc own) (hG : zGo (zwn w (zsk sh k (.inl (w.2.1 1, N, .inl (zpre L j)))) n) H0 M H locs) (hk : k < n) (hij : i.toNatClampNeg = j) (hx : x = L j) (hi : vp_in i N) (hdg : decode cc pc = .ok (.iastore, 1))
    (kk : ∀ (H1 : Heap) (locs1 : List Loc), zGo (zwn w (zsk sh k (.inl (w.2.1 1, N, .inl (zpre L (j + 1))))) n) H0 M H1 locs1 → W p l e R s m args below meth c H1 locs1 cells slots Q (F0 m (pc + 1) ls rest)) : W p l e R s m args below meth c H locs cells slots Q (F0 m pc ls (.int x :: .int i :: .ref (w.2.2.2.1 + k) :: rest)) := by
  refine zg_iast X hG hk zsk_eq hi hdg (fun H1 locs1 hG1 => kk H1 locs1 (zsk_re ?_ hG1))
  rw [hij, hx, zpre_s]
end ZI
theorem zsk_pre {w : zWd} {sh : Nat → (Nat → Int32) → va_E} {k n N : Nat} {L : Nat → Int32} {M : zMem} {H0 H : Heap} {locs : List Loc} (hF : sh k (M k) = .inl (w.2.1 1, N, .inl (M k))) (hL : ∀ j, j < N → L j = M k j) (hG : zGo (zwn w (zsk sh k (.inl (w.2.1 1, N, .inl (zpre L N)))) n) H0 M H locs) : zGo (zwn w sh n) H0 M H locs := by
  refine ⟨fun c q hq => ?_, hG.2⟩
  have hc : c < n := by
    have := (List.getElem?_eq_some_iff.mp hq).1
    rw [zws_len] at this
    exact this
  have h1 := hG.1 c _ (zwn_get hc)
  rw [zwn_get hc] at hq
  cases hq
  by_cases e : c = k
  · subst e
    rw [zsk_eq] at h1
    rw [hF]
    have h2 : H[w.2.2.2.1 + c]? = some (vp_cell (w.2.1 1) (N, .inl (zpre L N))) := h1
    show H[w.2.2.2.1 + c]? = some (vp_cell (w.2.1 1) (N, .inl (M c)))
    rw [h2, vp_cell_i, vp_cell_i]
    unfold arrV
    have : (fun j : Fin N => Value.int (zpre L N j.val)) = (fun j : Fin N => Value.int (M c j.val)) := by
      funext j
      unfold zpre
      rw [if_pos j.isLt, hL j.val j.isLt]
    rw [this]
  · rw [zsk_ne e] at h1
    exact h1
theorem zsk_swap {w : zWd} {sh : Nat → (Nat → Int32) → va_E} {k j n : Nat} {E E' : va_E} {M : zMem} {H0 H : Heap} {locs : List Loc} (h : k ≠ j) (hG : zGo (zwn w (zsk (zsk sh k E) j E') n) H0 M H locs) : zGo (zwn w (zsk (zsk sh j E') k E) n) H0 M H locs := by
  refine zGo_cast (fun c _ => ?_) hG
  by_cases q : c = k
  · subst q; rw [zsk_ne h, zsk_eq, zsk_eq]
  · by_cases q2 : c = j
    · subst q2; rw [zsk_eq, zsk_ne q, zsk_eq]
    · rw [zsk_ne q2, zsk_ne q, zsk_ne q, zsk_ne q2]
theorem zsk_add {w : zWd} {sh : Nat → (Nat → Int32) → va_E} {j n : Nat} {E : va_E} {M : zMem} {H0 H : Heap} {locs : List Loc} (h : n ≤ j) (hG : zGo (zwn w sh n) H0 M H locs) : zGo (zwn w (zsk sh j E) n) H0 M H locs :=
  zGo_cast (fun c hc => by rw [zsk_ne (by omega)]) hG
