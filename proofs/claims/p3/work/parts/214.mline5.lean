/-- the sign, its token at hand -/
theorem mt_signA {k z p0 : Nat} {M1 M' W : zMem} {b : Bool} {Q : zMem → Prop} (a : AT k M1 W) (s : WS k z M1 W) (r : rin k z p0 M1) (h : rSi k M1 b M') (ht : ∀ W', b = true → M' = M1 → tkw W W' → NXT k z M' W' → Q W') (hf : ∀ W', b = false → tkw W W' → BAD k M' W' → Q W') : wpJ_Model_readLine_218 Q W := by
  unfold wpJ_Model_readLine_218
  refine ⟨fun w => absurd a.1 w, fun _ => ⟨fun c => ?_, fun c => ?_⟩⟩
  · rw [a.2.2.2.1] at c
    rcases h with ⟨d, -⟩ | ⟨-, hb, rfl⟩
    · exact absurd c d
    · exact mt_nx a.1 a.2.1 s r (fun W' f h => ht W' hb rfl f h)
  · rw [a.2.2.2.1] at c
    rcases h with ⟨-, hb, rfl⟩ | ⟨d, -⟩
    · have bd := BAD_fs (k := k) (c := 2) (M := M1) (W := W) a.2.2.1 (by omega) (by omega)
      exact e_fails (c := nI 2) a.1 (mt_next_no bd.w (hf _ hb tkw.fs bd))
    · exact absurd d c
theorem mt_on {k z p0 n H L j : Nat} {hi : Int32} {t1 t2 : Bool} {M M' W : zMem} {b : Bool} {Q : zMem → Prop} (hj : (j = 2 ∧ hi = 5) ∨ (j = 3 ∧ hi = 99)) (a : AT k M W) (s : WS k z M W) (r : rin k z p0 M) (d : DW k M n H L t1 t2) (e : EQ k M W n H L t1 t2) (h : rOn k z j hi M b M') (q : PL k z M' W b Q) : wp_Model_next W (fun W1 => wp_Model_number 0 hi W1 (fun v W2 => vp_in (nI j) 100 ∧ ∀ W3 : zMem, W3 = zup W2 5 (ix (nI j)) v → wp_Model_next W3 (fun W4 => wpJ_Model_readLine_218 Q W4))) := by
  have hD : b = true → DW k M' n H L t1 t2 := fun hb => (DW_on r d hj (by rw [hb] at h; exact h)).2
  have j3 : j = 2 ∨ j = 3 := by rcases hj with w | w <;> omega
  obtain ⟨b1, M1, h1, h⟩ := h
  rw [q_ix (by omega)]
  refine mt_nx a.1 a.2.1 s r (fun W1 f1 n1 => mt_numN n1 s.2.1 h1 (fun hb1 a1 => ⟨vp_in_nI (by omega) (by omega), fun W3 e3 => ?_⟩) (fun W2 hb1 f2 bd => ⟨vp_in_nI (by omega) (by omega), fun W3 e3 => ?_⟩))
  · subst hb1
    rcases h with ⟨h, -⟩ | ⟨-, h⟩
    · cases h
    obtain ⟨s1, g1, -⟩ := rN_in r h1
    have e1 := e.tk g1 f1
    generalize hX : zup M1 (k + 1) j (M1 k 9) = X at h
    have lX : lf k M X := g1.lf.tr (by rw [← hX]; exact lf.up (by omega) (by omega))
    have lW : lw W W3 := f1.l.tr (by rw [e3]; exact lw.u5)
    refine mt_end (X := X) (by rw [e3, zup_ne (by omega)]; exact a1.1) (by rw [e3, zup_ne (by omega), ← hX, zup_ne (by omega)]; exact a1.2.1) (s.mv lX lW) (rin_mv s1 (by rw [← hX, zup_ne (by omega)]) (by rw [← hX, zup_ne (by omega)])) h lW ?_ hD q
    obtain ⟨i0, i1, i2, i3, i4, i5, i6, i7⟩ := e1
    have xk : ∀ i, i = 0 ∨ i = 2 ∨ i = 3 ∨ i = 4 ∨ i = 5 → X (k + i) = M1 (k + i) := fun i hi => by rw [← hX, zup_ne (by omega)]
    have x0 : X k = M1 k := xk 0 (by omega)
    have y5 : ∀ i, i ≠ j → W3 5 i = W1 5 i := fun i hi => by rw [e3, zup_eq, upd_ne hi]
    have yk : W3 0 = W1 0 := by rw [e3, zup_ne (by omega)]
    refine ⟨fun i hi => ?_, fun i hi => by rw [y5 _ (by omega), xk 2 (by omega)]; exact i1 i hi, fun s' p hs hp => by rw [y5 _ (by omega), xk 3 (by omega)]; exact i2 s' p hs hp, fun h p hh hp => by rw [y5 _ (by omega), xk 4 (by omega)]; exact i3 h p hh hp, fun w h hh => ?_, by rw [yk, x0]; exact i5, by rw [yk, x0]; exact i6, by rw [yk, x0]; exact i7⟩
    · by_cases w : i = j
      · rw [w, e3, zup_eq, upd_eq, ← hX, zup_eq, upd_eq]
      · rw [y5 i w, ← hX, zup_eq, upd_ne w]; exact i0 i hi
    · rw [y5 _ (by omega), xk 5 (by omega)]
      exact i4 (by rw [← hX, zup_eq, upd_ne (by omega)] at w; exact w) h hh
  · subst hb1
    rcases h with ⟨-, hb, hM⟩ | ⟨h, -⟩
    · exact mt_endb hb (by rw [hM, e3]; exact bd.kb kb.u5) ((f1.tr f2).l.tr (by rw [e3]; exact lw.u5)) q
    · cases h
theorem mt_endsL {k z p0 n H L a : Nat} {t1 t2 : Bool} {M M' W : zMem} {b : Bool} {Q : zMem → Prop} (ha : 1 ≤ a ∧ a ≤ 2) (at0 : AT k M W) (s : WS k z M W) (r : rin k z p0 M) (d : DW k M n H L t1 t2) (e : EQ k M W n H L t1 t2) (h : rEs k z n H (nI a) M b M') (q : PL k z M' W b Q) : ∀ W1, W1 = zup W 5 4 (nI a) → wp_Model_readEnds W1 (fun W2 => wpJ_Model_readLine_218 Q W2) := by
  intro W1 e1
  have hD : b = true → DW k M' n H L t1 t2 := fun hb => (DW_ends ha r d (by rw [hb] at h; exact h)).2
  obtain ⟨⟨d1, d2, d3, d4⟩, en, eH, -⟩ := id d
  unfold rEs at h
  generalize hY : zup (zup (zup M k 12 1) k 13 1) (k + 1) 4 (nI a) = Y at h
  have yj : ∀ j, j ≠ 12 → j ≠ 13 → Y k j = M k j := fun j j1 j2 => by rw [← hY, zup_ne (by omega), zup_eq, upd_ne j2, zup_eq, upd_ne j1]
  have yc : ∀ c, c ≠ k → c ≠ k + 1 → Y c = M c := fun c c1 c2 => by rw [← hY, zup_ne c2, zup_ne c1, zup_ne c1]
  have y1 : ∀ j, j ≠ 4 → Y (k + 1) j = M (k + 1) j := fun j hj => by rw [← hY, zup_eq, upd_ne hj, zup_ne (by omega), zup_ne (by omega)]
  have y14 : Y (k + 1) 4 = nI a := by rw [← hY, zup_eq, upd_eq]
  have y13 : Y k 13 = 1 := by rw [← hY, zup_ne (by omega), zup_eq, upd_eq]
  have rY : rin k z p0 Y := rin_mv r (yj 5 (by omega) (by omega)) (yj 6 (by omega) (by omega))
  have fY : lf k M Y := by
    intro c hc
    exact yc c (by omega) (by omega)
  intro W2 e2
  have l2 : lw W W2 := by rw [e2, e1]; exact lw.u5.tr (lw.u0 (by omega))
  have w3 : W2 0 3 = 0 := by rw [e2, zup_eq, upd_ne (by omega), e1, zup_ne (by omega)]; exact at0.1
  have w5 : W2 0 5 = Y k 6 := by rw [e2, zup_eq, upd_ne (by omega), e1, zup_ne (by omega), yj 6 (by omega) (by omega)]; exact at0.2.1
  have c5 : ∀ j, j ≠ 4 → W2 5 j = W 5 j := fun j hj => by rw [e2, zup_ne (by omega), e1, zup_eq, upd_ne hj]
  have c54 : W2 5 4 = nI a := by rw [e2, zup_ne (by omega), e1, zup_eq, upd_eq]
  have eq2 : ∀ (X W' : zMem), l5 W2 W' → (∀ j, (j < 20 ∨ 20 + (H - 1) ≤ j) → W' 5 j = W2 5 j) → (∀ j, j < H - 1 → W' 5 (20 + j) = X (k + 5) j) → (∀ c, c ≠ k → c ≠ k + 5 → X c = Y c) → (∀ j, j ≠ 6 → j ≠ 7 → j ≠ 8 → j ≠ 9 → X k j = Y k j) → EQ k X W' n H L t1 t2 := fun X W' l j0 j1 x0 x1 => by
    obtain ⟨i0, i1, i2, i3, i4, i5, i6, i7⟩ := e
    refine ⟨fun j hj => ?_, fun i hi => by rw [j0 _ (by omega), c5 _ (by omega), x0 _ (by omega) (by omega), yc _ (by omega) (by omega)]; exact i1 i hi, fun s' p hs hp => by rw [j0 _ (by omega), c5 _ (by omega), x0 _ (by omega) (by omega), yc _ (by omega) (by omega)]; exact i2 s' p hs hp, fun h p hh hp => by rw [j0 _ (by omega), c5 _ (by omega), x0 _ (by omega) (by omega), yc _ (by omega) (by omega)]; exact i3 h p hh hp, fun _ h hh => j1 h (by omega), ?_, ?_, ?_⟩
    · rw [j0 j (by omega), x0 _ (by omega) (by omega)]
      by_cases w : j = 4
      · rw [w, c54, y14]
      · rw [c5 j w, y1 j w]; exact i0 j hj
    · rw [l.2 13 (by omega), e2, zup_eq, upd_ne (by omega), e1, zup_ne (by omega), x1 10 (by omega) (by omega) (by omega) (by omega), yj 10 (by omega) (by omega)]; exact i5
    · rw [l.2 14 (by omega), e2, zup_eq, upd_ne (by omega), e1, zup_ne (by omega), x1 11 (by omega) (by omega) (by omega) (by omega), yj 11 (by omega) (by omega)]; exact i6
    · rw [l.2 15 (by omega), e2, zup_eq, upd_eq, x1 13 (by omega) (by omega) (by omega) (by omega), y13]
  refine mt_nx w3 w5 (s.mv fY l2) rY (fun W3 f3 n3 => ?_)
  have wn : ∀ W' : zMem, (∀ j, (j < 20 ∨ 20 + (H - 1) ≤ j) → W' 5 j = W2 5 j) → W' 5 (ix 0) = nI n ∧ W' 5 (ix 1) = nI H := fun W' j0 => by
    have z0 : (ix 0 : Nat) = 0 := rfl
    have z1 : (ix 1 : Nat) = 1 := rfl
    rw [z0, z1, j0 0 (by omega), j0 1 (by omega), c5 0 (by omega), c5 1 (by omega)]
    exact ⟨(e.1 0 (by omega)).trans en, (e.1 1 (by omega)).trans eH⟩
  refine zlp1_r (fun m x W' => ∃ i, x = nI i ∧ i ≤ H ∧ m = H - i ∧ (∀ j, (j < 20 ∨ 20 + (H - 1) ≤ j) → W' 5 j = W2 5 j) ∧ ((b = false ∧ BAD k M' W' ∧ lw W W') ∨ ∃ X lo, NXT k z X W' ∧ rin k z p0 X ∧ rEn k z n (H - 1 - i) i lo X b M' ∧ (i = 0 → lo = 1) ∧ (0 < i → lo = W' 5 (20 + i - 1)) ∧ l5 W2 W' ∧ (∀ j, j < i → W' 5 (20 + j) = X (k + 5) j) ∧ i ≤ (H - 1) ∧ (∀ c, c ≠ k → c ≠ k + 5 → X c = Y c) ∧ (∀ j, j ≠ 6 → j ≠ 7 → j ≠ 8 → j ≠ 9 → X k j = Y k j))) ?_ (n := H) ⟨0, rfl, by omega, rfl, fun j _ => by rw [f3.1 5 (by omega)], Or.inr ⟨Y, 1, n3, rY, h, fun _ => rfl, fun w => absurd w (by omega), f3.l5, fun j hj => absurd hj (by omega), by omega, fun _ _ _ => rfl, fun _ _ _ _ _ => rfl⟩⟩
  rintro m x W' ⟨i, rfl, hi, rfl, g0, hcase⟩ J hJ
  obtain ⟨wn0, wn1⟩ := wn W' g0
  unfold wpB_Model_readEnds_11
  rw [wn1]
  have le : (nI H - 1 ≤ nI i) ↔ H - 1 ≤ i := by
    rcases Nat.eq_zero_or_pos H with h0 | h0
    · subst h0
      exact ⟨fun _ => by omega, fun _ => Int32.le_trans (show nI 0 - 1 ≤ 0 by decide) (nI_pos' (by omega))⟩
    · have e : nI H - 1 = nI (H - 1) := q_sub (a := H) (b := 1) h0
      rw [e]
      exact nI_leI (by omega) (by omega)
  have e20 : (20 : Int32) + nI i = nI (20 + i) := q_add 20 i
  rcases hcase with ⟨hb, bd, l⟩ | ⟨X, lo, n', r', h', lo0, lo1, l, g1, iH, g2, g4⟩
  · have bj : ∀ x : Int32, i < H - 1 → wpJ_Model_readEnds_42 J (fun W2 => wpJ_Model_readLine_218 Q W2) (nI i) x W' := fun x hi2 => by
      refine ⟨vp_in_nI (n := 0) (by omega) (by omega), mt_num_bad bd.w ?_⟩
      rw [e20, q_ix (by omega)]
      refine ⟨vp_in_nI (by omega) (by omega), fun W6 e6 => ?_⟩
      have b6 : BAD k M' W6 := by rw [e6]; exact bd.kb kb.u5
      refine mt_next_no b6.w (fun y ey => ?_)
      rw [ey, nI_1]
      exact hJ (H - (i + 1)) _ _ (by omega) ⟨i + 1, rfl, by omega, rfl, fun j hj => by rw [e6, zup_eq, upd_ne (by omega)]; exact g0 j hj, Or.inl ⟨hb, b6, l.tr (by rw [e6]; exact lw.u5)⟩⟩
    refine ⟨vp_in_nI (n := 1) (by omega) (by omega), fun _ => mt_sign_bad bd.w (q.2 W' hb l bd), fun c => ⟨fun c0 => ?_, fun _ => bj _ ?_⟩⟩
    · have i0 : i ≠ 0 := fun w => c0 (by rw [w]; rfl)
      have hi2 : i < H - 1 := by
        rcases Nat.lt_or_ge i (H - 1) with u | u
        · exact u
        · exact absurd (le.mpr u) c
      rw [e20, show nI (20 + i) - 1 = nI (20 + i - 1) from q_sub (a := 20 + i) (b := 1) (by omega)]
      exact ⟨vp_in_nI (by omega) (by omega), bj _ hi2⟩
    · rcases Nat.lt_or_ge i (H - 1) with u | u
      · exact u
      · exact absurd (le.mpr u) c
  · have goj : i < H - 1 → wpJ_Model_readEnds_42 J (fun W2 => wpJ_Model_readLine_218 Q W2) (nI i) lo W' := fun hi2 => by
      obtain ⟨f, ef⟩ : ∃ f, H - 1 - i = f + 1 := ⟨H - 1 - i - 1, by omega⟩
      rw [ef] at h'
      obtain ⟨b1, M1, h1, h2⟩ := h'
      refine ⟨vp_in_nI (n := 0) (by omega) (by omega), ?_⟩
      rw [wn0, e20, q_ix (by omega)]
      refine mt_numN n' s.2.1 h1 (fun hb1 a1 => ⟨vp_in_nI (by omega) (by omega), fun W6 e6 => ?_⟩) (fun W5 hb1 f5 bd => ⟨vp_in_nI (by omega) (by omega), fun W6 e6 => ?_⟩)
      · subst hb1
        rcases h2 with ⟨h2, -⟩ | ⟨-, h2⟩
        · cases h2
        obtain ⟨r1, tk1, -⟩ := rN_in r' h1
        have w6 : l5 W2 W6 := l.tr (by rw [e6]; exact l5_u)
        generalize hZ : zup M1 (k + 5) i (M1 k 9) = Z at h2
        have lZ : lf k M Z := by
          intro c hc
          rw [← hZ, zup_ne (by omega), tk1.1 c (by omega), g2 c (by omega) (by omega)]
          exact yc c (by omega) (by omega)
        have rZ : rin k z p0 Z := rin_mv r1 (by rw [← hZ, zup_ne (by omega)]) (by rw [← hZ, zup_ne (by omega)])
        refine mt_nx (M := Z) (by rw [e6, zup_ne (by omega)]; exact a1.1) (by rw [e6, zup_ne (by omega), ← hZ, zup_ne (by omega)]; exact a1.2.1) (s.mv lZ (l2.tr w6.l)) rZ (fun W7 f7 n7 y ey => ?_)
        rw [ey, nI_1]
        have v5 : W7 5 = W6 5 := f7.1 5 (by omega)
        refine hJ (H - (i + 1)) _ _ (by omega) ⟨i + 1, rfl, by omega, rfl, fun j hj => by rw [v5, e6, zup_eq, upd_ne (by omega)]; exact g0 j hj, Or.inr ⟨Z, M1 k 9, n7, rZ, by rw [show H - 1 - (i + 1) = f by omega]; exact h2, fun w => absurd w (by omega), fun _ => ?_, w6.tr f7.l5, fun j hj => ?_, by omega, fun c c1 c2 => ?_, fun j j1 j2 j3 j4 => ?_⟩⟩
        · rw [v5, e6, zup_eq, show 20 + (i + 1) - 1 = 20 + i by omega, upd_eq]
        · rw [v5, e6, zup_eq]
          by_cases w : j = i
          · rw [w, upd_eq, ← hZ, zup_eq, upd_eq]
          · rw [upd_ne (by omega), ← hZ, zup_eq, upd_ne w, tk1.1 _ (by omega)]
            exact g1 j (by omega)
        · rw [← hZ, zup_ne c2, tk1.1 c c1]; exact g2 c c1 c2
        · rw [← hZ, zup_ne (by omega), tk1.2 j j1 j2 j3 j4]; exact g4 j j1 j2 j3 j4
      · subst hb1
        rcases h2 with ⟨-, hb, hM⟩ | ⟨h2, -⟩
        · have b6 : BAD k M' W6 := by rw [hM, e6]; exact bd.kb kb.u5
          refine mt_next_no b6.w (fun y ey => ?_)
          rw [ey, nI_1]
          exact hJ (H - (i + 1)) _ _ (by omega) ⟨i + 1, rfl, by omega, rfl, fun j hj => by rw [e6, zup_eq, upd_ne (by omega), f5.1 5 (by omega)]; exact g0 j hj, Or.inl ⟨hb, b6, ((l2.tr l.l).tr f5.l).tr (by rw [e6]; exact lw.u5)⟩⟩
        · cases h2
    refine ⟨vp_in_nI (n := 1) (by omega) (by omega), fun c => ?_, fun c => ⟨fun c0 => ?_, fun c0 => ?_⟩⟩
    · have hi2 := le.mp c
      rw [show H - 1 - i = 0 by omega] at h'
      have lX : lf k M X := by
        intro c hc
        rw [g2 c (by omega) (by omega)]
        exact yc c (by omega) (by omega)
      exact mt_fin (n := n) (H := H) (L := L) (t1 := t1) (t2 := t2) n' (s.mv lX (l2.tr l.l)) r' h' (l2.tr l.l) (eq2 X W' l g0 (fun j hj => g1 j (by omega)) g2 g4) hD q
    · have i0 : 0 < i := by
        rcases Nat.eq_zero_or_pos i with w | w
        · exact absurd (by rw [w]; rfl) c0
        · exact w
      have hi2 : i < H - 1 := by
        rcases Nat.lt_or_ge i (H - 1) with u | u
        · exact u
        · exact absurd (le.mpr u) c
      rw [e20, show nI (20 + i) - 1 = nI (20 + i - 1) from q_sub (a := 20 + i) (b := 1) (by omega), q_ix (by omega), ← lo1 i0]
      exact ⟨vp_in_nI (by omega) (by omega), goj hi2⟩
    · have i0 : i = 0 := (nI_eq (b := 0) (by omega) (by omega)).mp c0
      have hi2 : i < H - 1 := by
        rcases Nat.lt_or_ge i (H - 1) with u | u
        · exact u
        · exact absurd (le.mpr u) c
      rw [← lo0 i0]
      exact goj hi2
