theorem DW_once {k z p0 n H L : Nat} {t1 t2 : Bool} {a : Int32} {M M' : zMem} (r : rin k z p0 M) (d : DW k M n H L t1 t2) (h : rOc k a M true M') : rin k z p0 M' ∧ DW k M' n H L t1 t2 := by
  obtain ⟨s1, e⟩ := rOc_in r h
  exact ⟨s1, d.mv (fun i h1 _ => by rw [e, zup_ne (by omega)]) (fun j h1 h2 => by rw [e, zup_eq, upd_ne (by omega)])⟩
theorem DW_on {k z p0 n H L j : Nat} {hi : Int32} {t1 t2 : Bool} {M M' : zMem} (r : rin k z p0 M) (d : DW k M n H L t1 t2) (hj : (j = 2 ∧ hi = 5) ∨ (j = 3 ∧ hi = 99)) (h : rOn k z j hi M true M') : rin k z p0 M' ∧ DW k M' n H L t1 t2 := by
  obtain ⟨M1, r1, h⟩ := bnd_t h
  obtain ⟨s1, f1, -, lo, hi'⟩ := rN_in r r1
  have d1 := d.tk f1
  generalize hX : zup M1 (k + 1) j (M1 k 9) = X at h
  have sX : rin k z p0 X := rin_mv s1 (by rw [← hX, zup_ne (by omega)]) (by rw [← hX, zup_ne (by omega)])
  obtain ⟨s2, f2⟩ := rS_in sX h
  refine ⟨s2, DW.tk ?_ f2⟩
  obtain ⟨⟨b1, b2, b3, b4⟩, en, eH, eL, w2, w3, w4, w5, hr, hu, hp, he, es, k12, k12', k4⟩ := d1
  have x1 : ∀ i, i ≠ j → X (k + 1) i = M1 (k + 1) i := fun i hi => by rw [← hX, zup_eq, upd_ne hi]
  have xj : X (k + 1) j = M1 k 9 := by rw [← hX, zup_eq, upd_eq]
  have xk : ∀ i, i = 0 ∨ i = 2 ∨ i = 3 ∨ i = 4 ∨ i = 5 → X (k + i) = M1 (k + i) := fun i hi => by rw [← hX, zup_ne (by omega)]
  have x0 : X k = M1 k := xk 0 (by omega)
  have y2 : ∃ a, a ≤ 5 ∧ X (k + 1) 2 = nI a := by
    rcases hj with ⟨rfl, rfl⟩ | ⟨rfl, rfl⟩
    · obtain ⟨v, hv, ev⟩ := nI_of2 (x := M1 k 9) (M := 5) (n := 5) rfl lo hi'
      exact ⟨v, hv, by rw [xj]; exact ev⟩
    · rw [x1 2 (by omega)]; exact w2
  have y3 : ∃ a, a ≤ 99 ∧ X (k + 1) 3 = nI a := by
    rcases hj with ⟨rfl, rfl⟩ | ⟨rfl, rfl⟩
    · rw [x1 3 (by omega)]; exact w3
    · obtain ⟨v, hv, ev⟩ := nI_of2 (x := M1 k 9) (M := 99) (n := 99) rfl lo hi'
      exact ⟨v, hv, by rw [xj]; exact ev⟩
  exact ⟨⟨b1, b2, b3, b4⟩, by rw [x1 0 (by omega)]; exact en, by rw [x1 1 (by omega)]; exact eH, by rw [x1 6 (by omega)]; exact eL, y2, y3, by rw [x1 4 (by omega)]; exact w4, by rw [x1 5 (by omega)]; exact w5, by rw [xk 2 (by omega)]; exact hr, by rw [xk 3 (by omega)]; exact hu, by rw [xk 4 (by omega)]; exact hp, by rw [x1 4 (by omega), xk 5 (by omega)]; exact he, by rw [x0]; exact es, by rw [x0]; exact k12, by rw [x0]; exact k12', by rw [x0, x1 4 (by omega)]; exact k4⟩
theorem rWi_in {k : Nat} {lo hi : Int32} {M M' : zMem} (h : rWi k lo hi M true M') : M' = M ∧ ¬ M k 9 < lo ∧ M k 9 ≤ hi := by
  rcases h with ⟨-, h, -⟩ | ⟨c1, c2, -, e⟩
  · cases h
  · exact ⟨e, c1, c2⟩
theorem rSi_in {k : Nat} {M M' : zMem} (h : rSi k M true M') : M' = M := by
  rcases h with ⟨-, h, -⟩ | ⟨-, -, e⟩
  · cases h
  · exact e
/-- the row, its first i numbers read -/
theorem DW_rowl {k z p0 n H : Nat} {t1 t2 : Bool} : ∀ m i M M', i + m = 6 → 1 ≤ i → rin k z p0 M → DW k M n H i t1 t2 → rRl k z m i M true M' → rin k z p0 M' ∧ ∃ L, DW k M' n H L t1 t2 := by
  intro m
  induction m with
  | zero =>
    intro i M M' hi h1 r d h
    rcases h with ⟨-, h, -⟩ | ⟨-, h⟩
    · cases h
    · rw [rSi_in h]; exact ⟨r, _, d⟩
  | succ m ih =>
    intro i M M' hi h1 r d h
    rcases h with ⟨-, h⟩ | ⟨c7, h⟩
    · rw [rSi_in h]; exact ⟨r, _, d⟩
    · obtain ⟨M0, hw, h2⟩ := bnd_t h
      obtain ⟨e1, lo, hi'⟩ := rWi_in hw
      rw [e1] at h2
      obtain ⟨v, hv, ev⟩ := nI_of2 (x := M k 9) (M := 2) (n := 2) rfl lo hi'
      rw [ev] at h2
      generalize hX : zup (zup M (k + 2) i (nI v)) (k + 1) 6 (nI (i + 1)) = X at h2
      obtain ⟨M2, ht, h3⟩ := bnd_t h2
      have sX : rin k z p0 X := rin_mv r (by rw [← hX, zup_ne (by omega), zup_ne (by omega)]) (by rw [← hX, zup_ne (by omega), zup_ne (by omega)])
      obtain ⟨s2, f2⟩ := tkn_in sX ht
      refine ih (i + 1) M2 M' (by omega) (by omega) s2 (DW.tk ?_ f2) h3
      obtain ⟨⟨b1, b2, b3, b4⟩, en, eH, eL, w2, w3, w4, w5, hr, hu, hp, he, es, k12, k12', k4⟩ := d
      have x1 : ∀ j, j ≠ 6 → X (k + 1) j = M (k + 1) j := fun j hj => by rw [← hX, zup_eq, upd_ne hj, zup_ne (by omega)]
      have xk : ∀ j, j = 0 ∨ j = 3 ∨ j = 4 ∨ j = 5 → X (k + j) = M (k + j) := fun j hj => by rw [← hX, zup_ne (by omega), zup_ne (by omega)]
      have x0 : X k = M k := xk 0 (by omega)
      have x2 : X (k + 2) = upd (M (k + 2)) i (nI v) := by rw [← hX, zup_ne (by omega), zup_eq]
      refine ⟨⟨b1, b2, by omega, by omega⟩, by rw [x1 0 (by omega)]; exact en, by rw [x1 1 (by omega)]; exact eH, by rw [← hX, zup_eq, upd_eq], by rw [x1 2 (by omega)]; exact w2, by rw [x1 3 (by omega)]; exact w3, by rw [x1 4 (by omega)]; exact w4, by rw [x1 5 (by omega)]; exact w5, fun j hj => ?_, by rw [xk 3 (by omega)]; exact hu, by rw [xk 4 (by omega)]; exact hp, by rw [x1 4 (by omega), xk 5 (by omega)]; exact he, by rw [x0]; exact es, by rw [x0]; exact k12, by rw [x0]; exact k12', by rw [x0, x1 4 (by omega)]; exact k4⟩
      rw [x2]
      by_cases e : j = i
      · exact ⟨v, by omega, by rw [e, upd_eq]⟩
      · rw [upd_ne e]; exact hr j (by omega)
theorem DW_row {k z p0 n H L : Nat} {t1 t2 : Bool} {M M' : zMem} (r : rin k z p0 M) (d : DW k M n H L t1 t2) (hL : L = 1) (h : rRo k z M true M') : rin k z p0 M' ∧ ∃ L', DW k M' n H L' t1 t2 := by
  subst hL
  obtain ⟨M1, r1, h⟩ := bnd_t h
  obtain ⟨s1, f1, -, lo, hi⟩ := rN_in r r1
  have d1 := d.tk f1
  obtain ⟨v, hv, ev⟩ := nI_of2 (x := M1 k 9) (M := 2) (n := 2) rfl lo hi
  rw [ev] at h
  generalize hX : zup M1 (k + 2) 0 (nI v) = X at h
  obtain ⟨M2, ht, h⟩ := bnd_t h
  have sX : rin k z p0 X := rin_mv s1 (by rw [← hX, zup_ne (by omega)]) (by rw [← hX, zup_ne (by omega)])
  obtain ⟨s2, f2⟩ := tkn_in sX ht
  refine DW_rowl 5 1 M2 M' (by omega) (by omega) s2 (DW.tk ?_ f2) h
  obtain ⟨⟨b1, b2, b3, b4⟩, en, eH, eL, w2, w3, w4, w5, hr, hu, hp, he, es, k12, k12', k4⟩ := d1
  have xk : ∀ j, j = 0 ∨ j = 1 ∨ j = 3 ∨ j = 4 ∨ j = 5 → X (k + j) = M1 (k + j) := fun j hj => by rw [← hX, zup_ne (by omega)]
  have x0 : X k = M1 k := xk 0 (by omega)
  have x1 : X (k + 1) = M1 (k + 1) := xk 1 (by omega)
  have x2 : X (k + 2) = upd (M1 (k + 2)) 0 (nI v) := by rw [← hX, zup_eq]
  refine ⟨⟨b1, b2, b3, b4⟩, by rw [x1]; exact en, by rw [x1]; exact eH, by rw [x1]; exact eL, by rw [x1]; exact w2, by rw [x1]; exact w3, by rw [x1]; exact w4, by rw [x1]; exact w5, fun j hj => ?_, by rw [xk 3 (by omega)]; exact hu, by rw [xk 4 (by omega)]; exact hp, by rw [x1, xk 5 (by omega)]; exact he, by rw [x0]; exact es, by rw [x0]; exact k12, by rw [x0]; exact k12', by rw [x0, x1]; exact k4⟩
  rw [x2, show j = 0 by omega, upd_eq]
  exact ⟨v, by omega, rfl⟩
/-- ends: from h on, m left, the one ahead at lo at least -/
theorem rEn_in {k z p0 n : Nat} (n8 : n ≤ 8) : ∀ m h lo M M', 1 ≤ lo → lo < 2147483648 → rin k z p0 M → rEn k z n m h (nI lo) M true M' → ∃ X, rS k z X true M' ∧ rin k z p0 X ∧ (∀ j, j ≠ 6 → j ≠ 7 → j ≠ 8 → j ≠ 9 → X k j = M k j) ∧ (∀ d, d ≠ k → d ≠ k + 5 → X d = M d) ∧ (∀ j, h ≤ j → j < h + m → ∃ v, 1 ≤ v ∧ v ≤ n ∧ X (k + 5) j = nI v) ∧ ∀ j, (j < h ∨ h + m ≤ j) → X (k + 5) j = M (k + 5) j := by
  intro m
  induction m with
  | zero => intro h lo M M' _ _ r hh; exact ⟨M, hh, r, fun _ _ _ _ _ => rfl, fun _ _ _ => rfl, fun j h1 h2 => absurd h2 (by omega), fun _ _ => rfl⟩
  | succ m ih =>
    intro h lo M M' hlo hlo2 r hh
    obtain ⟨M1, r1, hh⟩ := bnd_t hh
    obtain ⟨s1, f1, -, l1, h1⟩ := rN_in r r1
    obtain ⟨v, hv, ev⟩ := nI_of (x := M1 k 9) (fun q => l1 (Int32.lt_of_lt_of_le q (nI_pos' hlo2)))
    rw [ev] at l1 h1
    have v1 : lo ≤ v := by
      rcases Nat.lt_or_ge v lo with u | u
      · exact absurd ((nI_ltI hv hlo2).mpr u) l1
      · exact u
    have v2 : v ≤ n := (nI_leI hv (by omega)).mp h1
    have s2 : rin k z p0 (zup M1 (k + 5) h (M1 k 9)) := rin_mv s1 (by rw [zup_ne (by omega)]) (by rw [zup_ne (by omega)])
    rw [ev] at hh s2
    obtain ⟨X, x1, x2, x3, x4, x5, x6⟩ := ih (h + 1) v _ M' (by omega) hv s2 hh
    refine ⟨X, x1, x2, fun j a b c d => ?_, fun d h1 h2 => ?_, fun j h1 h2 => ?_, fun j hj => ?_⟩
    · rw [x3 j a b c d, zup_ne (by omega)]; exact f1.2 j a b c d
    · rw [x4 d h1 h2, zup_ne h2]; exact f1.1 d h1
    · by_cases e : j = h
      · exact ⟨v, by omega, v2, by rw [x6 j (by omega), zup_eq, e, upd_eq]⟩
      · exact x5 j (by omega) (by omega)
    · rw [x6 j (by omega), zup_eq, upd_ne (by omega), f1.1 _ (by omega)]
theorem DW_ends {k z p0 n H L a : Nat} {t1 t2 : Bool} {M M' : zMem} (ha : 1 ≤ a ∧ a ≤ 2) (r : rin k z p0 M) (d : DW k M n H L t1 t2) (h : rEs k z n H (nI a) M true M') : rin k z p0 M' ∧ DW k M' n H L t1 t2 := by
  unfold rEs at h
  generalize hY : zup (zup (zup M k 12 1) k 13 1) (k + 1) 4 (nI a) = Y at h
  have sY : rin k z p0 Y := rin_mv r (by rw [← hY, zup_ne (by omega), zup_eq, upd_ne (by omega), zup_eq, upd_ne (by omega)]) (by rw [← hY, zup_ne (by omega), zup_eq, upd_ne (by omega), zup_eq, upd_ne (by omega)])
  obtain ⟨⟨b1, b2, b3, b4⟩, en, eH, eL, w2, w3, w4, w5, hr, hu, hp, he, es, k12, k12', k4⟩ := d
  obtain ⟨X, hS, sX, xj, xd, xv, xo⟩ := rEn_in b1 (H - 1) 0 1 Y M' (by omega) (by omega) sY h
  obtain ⟨s4, f4⟩ := rS_in sX hS
  refine ⟨s4, DW.tk ?_ f4⟩
  have x1 : ∀ j, j ≠ 4 → X (k + 1) j = M (k + 1) j := fun j hj => by rw [xd _ (by omega) (by omega), ← hY, zup_eq, upd_ne hj, zup_ne (by omega), zup_ne (by omega)]
  have x14 : X (k + 1) 4 = nI a := by rw [xd _ (by omega) (by omega), ← hY, zup_eq, upd_eq]
  have xk : ∀ i, i = 2 ∨ i = 3 ∨ i = 4 → X (k + i) = M (k + i) := fun i hi => by rw [xd _ (by omega) (by omega), ← hY, zup_ne (by omega), zup_ne (by omega), zup_ne (by omega)]
  have x11 : X k 11 = M k 11 := by rw [xj 11 (by omega) (by omega) (by omega) (by omega), ← hY, zup_ne (by omega), zup_eq, upd_ne (by omega), zup_eq, upd_ne (by omega)]
  have x12 : X k 12 = 1 := by rw [xj 12 (by omega) (by omega) (by omega) (by omega), ← hY, zup_ne (by omega), zup_eq, upd_ne (by omega), zup_eq, upd_eq]
  have x13 : X k 13 = 1 := by rw [xj 13 (by omega) (by omega) (by omega) (by omega), ← hY, zup_ne (by omega), zup_eq, upd_eq]
  exact ⟨⟨b1, b2, b3, b4⟩, by rw [x1 0 (by omega)]; exact en, by rw [x1 1 (by omega)]; exact eH, by rw [x1 6 (by omega)]; exact eL, by rw [x1 2 (by omega)]; exact w2, by rw [x1 3 (by omega)]; exact w3, ⟨a, ha.2, x14⟩, by rw [x1 5 (by omega)]; exact w5, by rw [xk 2 (by omega)]; exact hr, by rw [xk 3 (by omega)]; exact hu, by rw [xk 4 (by omega)]; exact hp, fun _ h hh => xv h (by omega) (by omega), by rw [x11]; exact es, fun w => absurd (x12.symm.trans w) (by decide), fun _ => Or.inr (Or.inr (Or.inr (by rw [x13]; decide))), fun w => absurd (x13.symm.trans w) (by decide)⟩
def nmb (a b c d : Bool) : Nat := (if a = true then 8 else 0) + (if b = true then 32 else 0) + (if c = true then 64 else 0) + (if d = true then 128 else 0)
theorem nm_or : ∀ a b c d : Bool, (nI (nmb a b c d) ||| ((1 : Int32) <<< ((3 : Int32) &&& 31)) = nI (nmb true b c d)) ∧ (nI (nmb a b c d) ||| ((1 : Int32) <<< ((5 : Int32) &&& 31)) = nI (nmb a true c d)) ∧ (nI (nmb a b c d) ||| ((1 : Int32) <<< ((6 : Int32) &&& 31)) = nI (nmb a b true d)) ∧ (nI (nmb a b c d) ||| ((1 : Int32) <<< ((7 : Int32) &&& 31)) = nI (nmb a b c true)) ∧ ((((nI (nmb a b c d)) >>> ((3 : Int32) &&& 31)) &&& 1) = 1 ↔ a = true) := by decide
/-- the row has one number until it is told -/
def DN (k : Nat) (M : zMem) (L : Nat) : Prop := ∃ a b c d, M k 10 = nI (nmb a b c d) ∧ (a = false → L = 1)
theorem DN.mv {k L : Nat} {M M' : zMem} (h : DN k M L) (e : M' k 10 = M k 10) : DN k M' L := by
  unfold DN at h ⊢
  rw [e]; exact h
theorem DN.tk {k L : Nat} {M M' : zMem} (h : DN k M L) (f : tkf k M M') : DN k M' L := h.mv (f.2 10 (by omega) (by omega) (by omega) (by omega))
theorem rOc_10 {k L : Nat} {x : Int32} {M M' : zMem} (h : rOc k x M true M') (d : DN k M L) (hx : x = 3 ∨ x = 5 ∨ x = 6 ∨ x = 7) : (x = 3 → L = 1) ∧ (∀ L', (x ≠ 3 → L' = L) → DN k M' L') := by
  obtain ⟨a, b, c, e, e10, hL⟩ := d
  obtain ⟨n3, n5, n6, n7, nb⟩ := nm_or a b c e
  rcases h with ⟨-, h, -⟩ | ⟨c1, -, e1⟩
  · cases h
  rw [e10] at c1 e1
  have q10 : M' k 10 = nI (nmb a b c e) ||| (1 <<< (x &&& 31)) := by rw [e1, zup_eq, upd_eq]
  rcases hx with rfl | rfl | rfl | rfl
  · refine ⟨fun _ => hL (by
      cases a with
      | false => rfl
      | true => exact absurd (nb.mpr rfl) c1), fun L' _ => ⟨true, b, c, e, by rw [q10]; exact n3, fun w => by cases w⟩⟩
  · exact ⟨fun w => absurd w (by decide), fun L' h => ⟨a, true, c, e, by rw [q10]; exact n5, by rw [h (by decide)]; exact hL⟩⟩
  · exact ⟨fun w => absurd w (by decide), fun L' h => ⟨a, b, true, e, by rw [q10]; exact n6, by rw [h (by decide)]; exact hL⟩⟩
  · exact ⟨fun w => absurd w (by decide), fun L' h => ⟨a, b, c, true, by rw [q10]; exact n7, by rw [h (by decide)]; exact hL⟩⟩
