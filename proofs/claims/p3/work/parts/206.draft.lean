def stb (t1 t2 : Bool) : Nat := (if t1 = true then 2 else 0) + (if t2 = true then 4 else 0)
/-- what has been told so far is well: n pieces, H hands, L in the row, sorts 1 and 2 told -/
def DW (k : Nat) (M : zMem) (n H L : Nat) (t1 t2 : Bool) : Prop :=
  (n ≤ 8 ∧ H ≤ 5 ∧ 1 ≤ L ∧ L ≤ 6) ∧ M (k + 1) 0 = nI n ∧ M (k + 1) 1 = nI H ∧ M (k + 1) 6 = nI L ∧ (∃ a, a ≤ 5 ∧ M (k + 1) 2 = nI a) ∧ (∃ a, a ≤ 99 ∧ M (k + 1) 3 = nI a) ∧ (∃ a, a ≤ 2 ∧ M (k + 1) 4 = nI a) ∧ (∃ a, a < 256 ∧ M (k + 1) 5 = nI a) ∧
  (∀ i, i < L → ∃ s, s < 3 ∧ M (k + 2) i = nI s) ∧ (∀ s p, (s = 0 ∨ (s = 1 ∧ t1 = true) ∨ (s = 2 ∧ t2 = true)) → p < n → ∃ u, u ≤ 6 ∧ M (k + 3) (s * 8 + p) = nI u) ∧ (∀ h p, h < H → p < n → ∃ c, 1 ≤ c ∧ c ≤ 9 ∧ M (k + 4) (h * 8 + p) = nI c) ∧ (¬ M (k + 1) 4 = 0 → ∀ h, h + 1 < H → ∃ e, 1 ≤ e ∧ e ≤ n ∧ M (k + 5) h = nI e) ∧
  M k 11 = nI (stb t1 t2) ∧ (M k 12 = 0 → t1 = false ∧ t2 = false ∧ H = 0 ∧ M k 13 = 0) ∧ (¬ M k 12 = 0 → t1 = true ∨ t2 = true ∨ 0 < H ∨ ¬ M k 13 = 0) ∧ (M k 13 = 0 → M (k + 1) 4 = 0)
theorem DW.mv {k n H L : Nat} {t1 t2 : Bool} {M M' : zMem} (h : DW k M n H L t1 t2) (e : ∀ i, 1 ≤ i → i ≤ 5 → M' (k + i) = M (k + i)) (e2 : ∀ j, 11 ≤ j → j ≤ 13 → M' k j = M k j) : DW k M' n H L t1 t2 := by
  unfold DW at h ⊢
  rw [e 1 (by omega) (by omega), e 2 (by omega) (by omega), e 3 (by omega) (by omega), e 4 (by omega) (by omega), e 5 (by omega) (by omega), e2 11 (by omega) (by omega), e2 12 (by omega) (by omega), e2 13 (by omega) (by omega)]
  exact h
theorem DW.tk {k n H L : Nat} {t1 t2 : Bool} {M M' : zMem} (h : DW k M n H L t1 t2) (f : tkf k M M') : DW k M' n H L t1 t2 := h.mv (fun i h1 _ => f.1 _ (by omega)) (fun j h1 h2 => f.2 j (by omega) (by omega) (by omega) (by omega))
theorem rS_in {k z p0 : Nat} {M M' : zMem} (r : rin k z p0 M) (h : rS k z M true M') : rin k z p0 M' ∧ tkf k M M' := by
  obtain ⟨b1, M1, h1, h⟩ := h
  rcases h with ⟨-, h, -⟩ | ⟨rfl, h⟩
  · cases h
  · obtain ⟨r1, f1⟩ := tkn_in r h1
    rcases h with ⟨-, h, -⟩ | ⟨-, -, rfl⟩
    · cases h
    · exact ⟨r1, f1⟩
theorem bnd_t {A B : zMem → Bool → zMem → Prop} {M M' : zMem} (h : bnd A B M true M') : ∃ M1, A M true M1 ∧ B M1 true M' := by
  obtain ⟨b1, M1, h1, h⟩ := h
  rcases h with ⟨-, h, -⟩ | ⟨rfl, h⟩
  · cases h
  · exact ⟨M1, h1, h⟩
theorem rin_mv {k z p0 : Nat} {M M' : zMem} (r : rin k z p0 M) (e5 : M' k 5 = M k 5) (e6 : M' k 6 = M k 6) : rin k z p0 M' := by
  unfold rin at r ⊢
  rw [e5, e6]; exact r
theorem DW_piece {k z p0 n H L : Nat} {t1 t2 : Bool} {M M' : zMem} (r : rin k z p0 M) (d : DW k M n H L t1 t2) (h : rPi k z M true M') : rin k z p0 M' ∧ DW k M' (n + 1) H L t1 t2 := by
  rcases h with ⟨-, h, -⟩ | ⟨c12, cn, h⟩
  · cases h
  obtain ⟨M1, r1, h⟩ := bnd_t h
  obtain ⟨s1, f1, -, lo, hi⟩ := rN_in r r1
  obtain ⟨v, hv, ev⟩ := nI_of2 (x := M1 k 9) (M := 6) (n := 6) rfl lo hi
  have d1 := d.tk f1
  have c1 : M1 k 12 = 0 := by rw [f1.2 12 (by omega) (by omega) (by omega) (by omega)]; exact c12
  obtain ⟨⟨b1, b2, b3, b4⟩, en, eH, eL, w2, w3, w4, w5, hr, hu, hp, he, es, k12, k12', k4⟩ := d1
  obtain ⟨q1, q2, q3, q4⟩ := k12 c1
  have n8 : n < 8 := by
    rw [(show M (k + 1) 0 = nI n from d.2.1)] at cn
    exact (nI_ltI (b := 8) (by omega) (by omega)).mp cn
  rw [en, q_ix (by omega), ev, nI_1] at h
  generalize hX : zup (zup M1 (k + 3) n (nI v)) (k + 1) 0 (nI (n + 1)) = X at h
  have sX : rin k z p0 X := rin_mv s1 (by rw [← hX, zup_ne (by omega), zup_ne (by omega)]) (by rw [← hX, zup_ne (by omega), zup_ne (by omega)])
  obtain ⟨s2, f2⟩ := rS_in sX h
  refine ⟨s2, DW.tk ?_ f2⟩
  have x1 : ∀ j, j ≠ 0 → X (k + 1) j = M1 (k + 1) j := fun j hj => by rw [← hX, zup_eq, upd_ne hj, zup_ne (by omega)]
  have xk : ∀ i, i = 0 ∨ i = 2 ∨ i = 4 ∨ i = 5 → X (k + i) = M1 (k + i) := fun i hi => by rw [← hX, zup_ne (by omega), zup_ne (by omega)]
  have x0 : X k = M1 k := xk 0 (by omega)
  refine ⟨⟨by omega, b2, b3, b4⟩, ?_, by rw [x1 1 (by omega)]; exact eH, by rw [x1 6 (by omega)]; exact eL, by rw [x1 2 (by omega)]; exact w2, by rw [x1 3 (by omega)]; exact w3, by rw [x1 4 (by omega)]; exact w4, by rw [x1 5 (by omega)]; exact w5, by rw [xk 2 (by omega)]; exact hr, fun s p hs hpn => ?_, fun h p hh _ => absurd hh (by omega), fun w h hh => absurd hh (by omega), by rw [x0]; exact es, by rw [x0]; exact k12, by rw [x0]; exact k12', by rw [x0, x1 4 (by omega)]; exact k4⟩
  · rw [← hX, zup_eq, upd_eq]
  · have hs0 : s = 0 := by
      rcases hs with w | w | w
      · exact w
      · rw [q1] at w; exact absurd w.2 (by decide)
      · rw [q2] at w; exact absurd w.2 (by decide)
    subst hs0
    have x3 : X (k + 3) = upd (M1 (k + 3)) n (nI v) := by rw [← hX, zup_ne (by omega), zup_eq]
    rw [x3]
    by_cases e : p = n
    · exact ⟨v, hv, by rw [e, show 0 * 8 + n = n by omega, upd_eq]⟩
    · rw [upd_ne (by omega)]
      exact hu 0 p (Or.inl rfl) (by omega)
theorem w_bits : ∀ w, w < 256 → ∀ p, p < 8 → ∃ w', w' < 256 ∧ nI w ||| ((1 : Int32) <<< (nI p &&& 31)) = nI w' := by
  have : ∀ w, w < 256 → ∀ p, p < 8 → ix (nI w ||| ((1 : Int32) <<< (nI p &&& 31))) < 256 ∧ nI w ||| ((1 : Int32) <<< (nI p &&& 31)) = nI (ix (nI w ||| ((1 : Int32) <<< (nI p &&& 31)))) := by decide +kernel
  intro w hw p hp
  exact ⟨_, (this w hw p hp).1, (this w hw p hp).2⟩
theorem DW_whole {k z p0 n H L : Nat} {t1 t2 : Bool} {M M' : zMem} (r : rin k z p0 M) (d : DW k M n H L t1 t2) (h : rWh k z M true M') : rin k z p0 M' ∧ DW k M' n H L t1 t2 := by
  obtain ⟨M1, r1, h⟩ := bnd_t h
  obtain ⟨s1, f1, -, lo, hi⟩ := rN_in r r1
  have d1 := d.tk f1
  rcases h with ⟨-, h, -⟩ | ⟨-, h⟩
  · cases h
  generalize hX : zup M1 (k + 1) 5 ((M1 (k + 1) 5) ||| (1 <<< ((M1 k 9) &&& 31))) = X at h
  have sX : rin k z p0 X := rin_mv s1 (by rw [← hX, zup_ne (by omega)]) (by rw [← hX, zup_ne (by omega)])
  obtain ⟨s2, f2⟩ := rS_in sX h
  refine ⟨s2, DW.tk ?_ f2⟩
  obtain ⟨⟨b1, b2, b3, b4⟩, en, eH, eL, w2, w3, w4, ⟨a, a1, a2⟩, hr, hu, hp, he, es, k12, k12', k4⟩ := d1
  have x1 : ∀ j, j ≠ 5 → X (k + 1) j = M1 (k + 1) j := fun j hj => by rw [← hX, zup_eq, upd_ne hj]
  have xk : ∀ i, i = 0 ∨ i = 2 ∨ i = 3 ∨ i = 4 ∨ i = 5 → X (k + i) = M1 (k + i) := fun i hi => by rw [← hX, zup_ne (by omega)]
  have x0 : X k = M1 k := xk 0 (by omega)
  refine ⟨⟨b1, b2, b3, b4⟩, by rw [x1 0 (by omega)]; exact en, by rw [x1 1 (by omega)]; exact eH, by rw [x1 6 (by omega)]; exact eL, by rw [x1 2 (by omega)]; exact w2, by rw [x1 3 (by omega)]; exact w3, by rw [x1 4 (by omega)]; exact w4, ?_, by rw [xk 2 (by omega)]; exact hr, by rw [xk 3 (by omega)]; exact hu, by rw [xk 4 (by omega)]; exact hp, by rw [x1 4 (by omega), xk 5 (by omega)]; exact he, by rw [x0]; exact es, by rw [x0]; exact k12, by rw [x0]; exact k12', by rw [x0, x1 4 (by omega)]; exact k4⟩
  have hn0 : M (k + 1) 0 = nI n := d.2.1
  rw [hn0] at hi
  have hn1 : n ≠ 0 := fun e => by
    subst e
    exact lo (Int32.lt_of_le_of_lt hi (by decide))
  have e1 : nI n - 1 = nI (n - 1) := q_sub (a := n) (b := 1) (by omega)
  rw [e1] at hi
  obtain ⟨v, hv, ev⟩ := nI_of lo
  rw [ev] at hi
  have := (nI_leI (by omega) (by omega)).mp hi
  obtain ⟨w', hw1, hw2⟩ := w_bits a a1 v (by omega)
  exact ⟨w', hw1, by rw [← hX, zup_eq, upd_eq, a2, ev]; exact hw2⟩
/-- m numbers have come into a cell -/
theorem rNs_in {k z p0 c lo hi : Nat} {C : zMem → Bool → zMem → Prop} (hlo : lo < 2147483648) (hhi : hi < 2147483648) (hc : c ≠ k) : ∀ m i M M', rin k z p0 M → rNs k z c (nI lo) (nI hi) C m i M true M' → ∃ X, C X true M' ∧ rin k z p0 X ∧ (∀ j, j ≠ 6 → j ≠ 7 → j ≠ 8 → j ≠ 9 → X k j = M k j) ∧ (∀ d, d ≠ k → d ≠ c → X d = M d) ∧ (∀ j, i ≤ j → j < i + m → ∃ v, lo ≤ v ∧ v ≤ hi ∧ X c j = nI v) ∧ ∀ j, (j < i ∨ i + m ≤ j) → X c j = M c j := by
  intro m
  induction m with
  | zero => intro i M M' r h; exact ⟨M, h, r, fun _ _ _ _ _ => rfl, fun _ _ _ => rfl, fun j h1 h2 => absurd h2 (by omega), fun _ _ => rfl⟩
  | succ m ih =>
    intro i M M' r h
    obtain ⟨M1, r1, h⟩ := bnd_t h
    obtain ⟨s1, f1, -, l1, h1⟩ := rN_in r r1
    obtain ⟨v, hv, ev⟩ := nI_of (x := M1 k 9) (fun q => l1 (Int32.lt_of_lt_of_le q (nI_pos' hlo)))
    rw [ev] at l1 h1
    have v1 : lo ≤ v := by
      rcases Nat.lt_or_ge v lo with u | u
      · exact absurd ((nI_ltI hv hlo).mpr u) l1
      · exact u
    have v2 : v ≤ hi := (nI_leI hv hhi).mp h1
    have s2 : rin k z p0 (zup M1 c i (M1 k 9)) := rin_mv s1 (by rw [zup_ne (Ne.symm hc)]) (by rw [zup_ne (Ne.symm hc)])
    obtain ⟨X, x1, x2, x3, x4, x5, x6⟩ := ih (i + 1) _ M' s2 h
    refine ⟨X, x1, x2, fun j a b c' d => ?_, fun d h1 h2 => ?_, fun j h1 h2 => ?_, fun j hj => ?_⟩
    · rw [x3 j a b c' d, zup_ne (Ne.symm hc)]; exact f1.2 j a b c' d
    · rw [x4 d h1 h2, zup_ne h2]; exact f1.1 d h1
    · by_cases e : j = i
      · exact ⟨v, v1, v2, by rw [x6 j (by omega), zup_eq, e, upd_eq, ev]⟩
      · exact x5 j (by omega) (by omega)
    · rw [x6 j (by omega), zup_eq, upd_ne (by omega), f1.1 c hc]
theorem st_or : ∀ t1 t2 : Bool, (nI (stb t1 t2) ||| ((1 : Int32) <<< (nI 1 &&& 31)) = nI (stb true t2)) ∧ (nI (stb t1 t2) ||| ((1 : Int32) <<< (nI 2 &&& 31)) = nI (stb t1 true)) := by decide
theorem DW_sort {k z p0 n H L : Nat} {t1 t2 : Bool} {M M' : zMem} (r : rin k z p0 M) (d : DW k M n H L t1 t2) (h : rSo k z n M true M') : rin k z p0 M' ∧ ∃ t1' t2', DW k M' n H L t1' t2' := by
  obtain ⟨M2, r1, h⟩ := bnd_t h
  have s0 : rin k z p0 (zup M k 12 1) := rin_mv r (by rw [zup_eq, upd_ne (by omega)]) (by rw [zup_eq, upd_ne (by omega)])
  obtain ⟨s1, f1, -, lo, hi⟩ := rN_in s0 r1
  rcases h with ⟨-, h, -⟩ | ⟨-, h⟩
  · cases h
  obtain ⟨s, hs, es9⟩ := nI_of2 (x := M2 k 9) (M := 2) (n := 2) rfl (fun q => lo (Int32.lt_trans q (by decide))) hi
  have hs1 : 1 ≤ s := by
    rw [es9] at lo
    rcases Nat.lt_or_ge s 1 with u | u
    · exact absurd ((nI_ltI (b := 1) (by omega) (by omega)).mpr u) lo
    · exact u
  rw [es9, q_ix (by omega)] at h
  have s3 : rin k z p0 (zup M2 k 11 ((M2 k 11) ||| (1 <<< (nI s &&& 31)))) := rin_mv s1 (by rw [zup_eq, upd_ne (by omega)]) (by rw [zup_eq, upd_ne (by omega)])
  obtain ⟨X, hS, sX, xj, xd, xv, xo⟩ := rNs_in (lo := 0) (hi := 6) (by omega) (by omega) (by omega) n (s * 8) _ M' s3 h
  obtain ⟨s4, f4⟩ := rS_in sX hS
  obtain ⟨⟨b1, b2, b3, b4⟩, en, eH, eL, w2, w3, w4, w5, hr, hu, hp, he, es, k12, k12', k4⟩ := d
  have xM : ∀ i, i = 1 ∨ i = 2 ∨ i = 4 ∨ i = 5 → X (k + i) = M (k + i) := fun i hi => by rw [xd _ (by omega) (by omega), zup_ne (by omega), f1.1 _ (by omega), zup_ne (by omega)]
  have x11 : X k 11 = nI (stb t1 t2) ||| (1 <<< (nI s &&& 31)) := by
    rw [xj 11 (by omega) (by omega) (by omega) (by omega), zup_eq, upd_eq, f1.2 11 (by omega) (by omega) (by omega) (by omega), zup_eq, upd_ne (by omega), es]
  have x12 : X k 12 = 1 := by rw [xj 12 (by omega) (by omega) (by omega) (by omega), zup_eq, upd_ne (by omega), f1.2 12 (by omega) (by omega) (by omega) (by omega), zup_eq, upd_eq]
  have x13 : X k 13 = M k 13 := by rw [xj 13 (by omega) (by omega) (by omega) (by omega), zup_eq, upd_ne (by omega), f1.2 13 (by omega) (by omega) (by omega) (by omega), zup_eq, upd_ne (by omega)]
  have xc : ∀ j, (j < s * 8 ∨ s * 8 + n ≤ j) → X (k + 3) j = M (k + 3) j := fun j hj => by rw [xo j hj, zup_ne (by omega), f1.1 _ (by omega), zup_ne (by omega)]
  have all : ∀ u1 u2, X k 11 = nI (stb u1 u2) → (u1 = true ∨ u2 = true) → (∀ s' p, (s' = 0 ∨ (s' = 1 ∧ u1 = true) ∨ (s' = 2 ∧ u2 = true)) → p < n → ∃ u, u ≤ 6 ∧ X (k + 3) (s' * 8 + p) = nI u) → DW k X n H L u1 u2 := fun u1 u2 h11 ht hun => by
    refine ⟨⟨b1, b2, b3, b4⟩, by rw [xM 1 (by omega)]; exact en, by rw [xM 1 (by omega)]; exact eH, by rw [xM 1 (by omega)]; exact eL, by rw [xM 1 (by omega)]; exact w2, by rw [xM 1 (by omega)]; exact w3, by rw [xM 1 (by omega)]; exact w4, by rw [xM 1 (by omega)]; exact w5, by rw [xM 2 (by omega)]; exact hr, hun, by rw [xM 4 (by omega)]; exact hp, by rw [xM 1 (by omega), xM 5 (by omega)]; exact he, h11, fun w => absurd (x12.symm.trans w) (by decide), fun _ => ht.elim Or.inl (fun w => Or.inr (Or.inl w)), by rw [x13, xM 1 (by omega)]; exact k4⟩
  refine ⟨s4, ?_⟩
  rcases (show s = 1 ∨ s = 2 by omega) with rfl | rfl
  · refine ⟨true, t2, DW.tk (all true t2 (by rw [x11]; exact (st_or t1 t2).1) (Or.inl rfl) (fun s' p hs' hpn => ?_)) f4⟩
    by_cases e : s' = 1
    · subst e
      obtain ⟨v, -, v2, v3⟩ := xv (1 * 8 + p) (by omega) (by omega)
      exact ⟨v, v2, v3⟩
    · rw [xc _ (by omega)]
      refine hu s' p ?_ hpn
      rcases hs' with w | w | w
      · exact Or.inl w
      · exact absurd w.1 e
      · exact Or.inr (Or.inr w)
  · refine ⟨t1, true, DW.tk (all t1 true (by rw [x11]; exact (st_or t1 t2).2) (Or.inr rfl) (fun s' p hs' hpn => ?_)) f4⟩
    by_cases e : s' = 2
    · subst e
      obtain ⟨v, -, v2, v3⟩ := xv (2 * 8 + p) (by omega) (by omega)
      exact ⟨v, v2, v3⟩
    · rw [xc _ (by omega)]
      refine hu s' p ?_ hpn
      rcases hs' with w | w | w
      · exact Or.inl w
      · exact Or.inr (Or.inl w)
      · exact absurd w.1 e
theorem DW_hand {k z p0 n H L : Nat} {t1 t2 : Bool} {M M' : zMem} (r : rin k z p0 M) (d : DW k M n H L t1 t2) (h : rHa k z n H M true M') : rin k z p0 M' ∧ DW k M' n (H + 1) L t1 t2 := by
  rcases h with ⟨-, h, -⟩ | ⟨c13, cH, h⟩
  · cases h
  obtain ⟨⟨b1, b2, b3, b4⟩, en, eH, eL, w2, w3, w4, w5, hr, hu, hp, he, es, k12, k12', k4⟩ := d
  have hH : H < 5 := by
    rw [eH] at cH
    exact (nI_ltI (b := 5) (by omega) (by omega)).mp cH
  have s0 : rin k z p0 (zup M k 12 1) := rin_mv r (by rw [zup_eq, upd_ne (by omega)]) (by rw [zup_eq, upd_ne (by omega)])
  obtain ⟨X, hS, sX, xj, xd, xv, xo⟩ := rNs_in (lo := 1) (hi := 9) (by omega) (by omega) (by omega) n (H * 8) _ M' s0 h
  have xM : ∀ i, i = 1 ∨ i = 2 ∨ i = 3 ∨ i = 5 → X (k + i) = M (k + i) := fun i hi => by rw [xd _ (by omega) (by omega), zup_ne (by omega)]
  have e1 : X (k + 1) 1 + 1 = nI (H + 1) := by rw [xM 1 (by omega), eH, nI_1]
  rw [e1] at hS
  generalize hY : zup X (k + 1) 1 (nI (H + 1)) = Y at hS
  have sY : rin k z p0 Y := rin_mv sX (by rw [← hY, zup_ne (by omega)]) (by rw [← hY, zup_ne (by omega)])
  obtain ⟨s4, f4⟩ := rS_in sY hS
  refine ⟨s4, DW.tk ?_ f4⟩
  have y1 : ∀ j, j ≠ 1 → Y (k + 1) j = M (k + 1) j := fun j hj => by rw [← hY, zup_eq, upd_ne hj, xM 1 (by omega)]
  have yk : ∀ i, i = 2 ∨ i = 3 ∨ i = 5 → Y (k + i) = M (k + i) := fun i hi => by rw [← hY, zup_ne (by omega)]; exact xM i (by omega)
  have y4 : Y (k + 4) = X (k + 4) := by rw [← hY, zup_ne (by omega)]
  have y0 : Y k = X k := by rw [← hY, zup_ne (by omega)]
  have y12 : Y k 12 = 1 := by rw [y0, xj 12 (by omega) (by omega) (by omega) (by omega), zup_eq, upd_eq]
  have y11 : Y k 11 = M k 11 := by rw [y0, xj 11 (by omega) (by omega) (by omega) (by omega), zup_eq, upd_ne (by omega)]
  have y13 : Y k 13 = M k 13 := by rw [y0, xj 13 (by omega) (by omega) (by omega) (by omega), zup_eq, upd_ne (by omega)]
  refine ⟨⟨b1, by omega, b3, b4⟩, by rw [y1 0 (by omega)]; exact en, by rw [← hY, zup_eq, upd_eq], by rw [y1 6 (by omega)]; exact eL, by rw [y1 2 (by omega)]; exact w2, by rw [y1 3 (by omega)]; exact w3, by rw [y1 4 (by omega)]; exact w4, by rw [y1 5 (by omega)]; exact w5, by rw [yk 2 (by omega)]; exact hr, by rw [yk 3 (by omega)]; exact hu, fun h p hh hpn => ?_, fun w => absurd (by rw [y1 4 (by omega)]; exact k4 c13) w, by rw [y11]; exact es, fun w => absurd (y12.symm.trans w) (by decide), fun _ => Or.inr (Or.inr (Or.inl (by omega))), by rw [y13, y1 4 (by omega)]; exact k4⟩
  rw [y4]
  by_cases e : h = H
  · rw [e]
    exact xv (H * 8 + p) (by omega) (by omega)
  · rw [xo _ (by omega), zup_ne (by omega)]
    exact hp h p (by omega) hpn
