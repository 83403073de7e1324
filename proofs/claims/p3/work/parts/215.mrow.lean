theorem mt_rowL {k z p0 n H : Nat} {t1 t2 : Bool} {M M' W : zMem} {b : Bool} {Q : zMem → Prop} (at0 : AT k M W) (s : WS k z M W) (r : rin k z p0 M) (d : DW k M n H 1 t1 t2) (e : EQ k M W n H 1 t1 t2) (h : rRo k z M b M') (q : PL k z M' W b Q) : wp_Model_readRow W (fun W2 => wpJ_Model_readLine_218 Q W2) := by
  have hD : b = true → ∃ L', DW k M' n H L' t1 t2 := fun hb => (DW_row r d rfl (by rw [hb] at h; exact h)).2
  refine mt_nx at0.1 at0.2.1 s r (fun W1 f1 n1 => ⟨vp_in_nI (n := 6) (by omega) (by omega), fun W3 e3 => ?_⟩)
  have e3' : W3 = zup W1 5 6 0 := e3
  have l3 : lw W W3 := f1.l.tr (by rw [e3']; exact lw.u5)
  have n3 : NXT k z M W3 := by
    obtain ⟨p, p1, p2, p3⟩ := n1
    refine ⟨p, p1, p2, ?_⟩
    unfold nT at p3 ⊢
    rw [e3', zup_ne (by omega)]; exact p3
  have c5 : ∀ j, j ≠ 6 → W3 5 j = W 5 j := fun j hj => by rw [e3', zup_eq, upd_ne hj, f1.1 5 (by omega)]
  have c56 : W3 5 6 = 0 := by rw [e3', zup_eq, upd_eq]
  have c0 : ∀ j, (j < 3 ∨ 8 < j) → W3 0 j = W 0 j := fun j hj => by rw [e3', zup_ne (by omega)]; exact f1.2 j hj
  -- what the row is when i numbers have come
  have eqi : ∀ (i : Nat) (X W' : zMem), l5 W3 W' → (∀ j, (j < 6 ∨ (6 < j ∧ j < 10) ∨ 16 ≤ j) → W' 5 j = W3 5 j) → W' 5 6 = nI i → (∀ j, j < i → W' 5 (10 + j) = X (k + 2) j) → X (k + 1) 6 = nI i → (∀ j, j ≠ 6 → X (k + 1) j = M (k + 1) j) → (∀ c, c ≠ k → c ≠ k + 1 → c ≠ k + 2 → X c = M c) → (∀ j, j ≠ 6 → j ≠ 7 → j ≠ 8 → j ≠ 9 → X k j = M k j) → EQ k X W' n H i t1 t2 := fun i X W' l j0 j6 j1 x6 x1 xc xk => by
    obtain ⟨i0, i1, i2, i3, i4, i5, i6, i7⟩ := e
    refine ⟨fun j hj => ?_, fun j hj => j1 j hj, fun s' p hs hp => by rw [j0 _ (by omega), c5 _ (by omega), xc _ (by omega) (by omega) (by omega)]; exact i2 s' p hs hp, fun h p hh hp => by rw [j0 _ (by omega), c5 _ (by omega), xc _ (by omega) (by omega) (by omega)]; exact i3 h p hh hp, fun w h hh => ?_, by rw [l.2 13 (by omega), c0 13 (by omega), xk 10 (by omega) (by omega) (by omega) (by omega)]; exact i5, by rw [l.2 14 (by omega), c0 14 (by omega), xk 11 (by omega) (by omega) (by omega) (by omega)]; exact i6, by rw [l.2 15 (by omega), c0 15 (by omega), xk 13 (by omega) (by omega) (by omega) (by omega)]; exact i7⟩
    · by_cases w : j = 6
      · rw [w, j6, x6]
      · rw [j0 j (by omega), c5 j w, x1 j w]; exact i0 j hj
    · have hH : H ≤ 5 := d.1.2.1
      rw [j0 _ (by omega), c5 _ (by omega), xc _ (by omega) (by omega) (by omega)]
      exact i4 (by rw [x1 4 (by omega)] at w; exact w) h hh
  have dd : ∀ (i : Nat) (X : zMem), i ≤ 6 → X (k + 1) 6 = nI i → tkf k X M' ∨ M' = X → b = true → DW k M' n H i t1 t2 := fun i X hi x6 hx hb => by
    obtain ⟨L', dv⟩ := hD hb
    have e6 : M' (k + 1) 6 = X (k + 1) 6 := by
      rcases hx with f | f
      · rw [f.1 (k + 1) (by omega)]
      · rw [f]
    have b6 := dv.1.2.2.2
    have : i = L' := (nI_eq (by omega) (by omega)).mp (x6.symm.trans (e6.symm.trans dv.2.2.2.1))
    rw [this]; exact dv
  refine zlp1_r (fun m x W' => (x = 0 ∨ x = 1) ∧ ((b = false ∧ BAD k M' W' ∧ lw W W') ∨ (m = 7 ∧ x = 1 ∧ W' = W3) ∨ ∃ i X, 1 ≤ i ∧ i ≤ 6 ∧ m = 7 - i ∧ AT k X W' ∧ rin k z p0 X ∧ (x = 1 ↔ X k 7 = 2) ∧ rRl k z (6 - i) i X b M' ∧ l5 W3 W' ∧ (∀ j, (j < 6 ∨ (6 < j ∧ j < 10) ∨ 16 ≤ j) → W' 5 j = W3 5 j) ∧ W' 5 6 = nI i ∧ (∀ j, j < i → W' 5 (10 + j) = X (k + 2) j) ∧ X (k + 1) 6 = nI i ∧ (∀ j, j ≠ 6 → X (k + 1) j = M (k + 1) j) ∧ (∀ c, c ≠ k → c ≠ k + 1 → c ≠ k + 2 → X c = M c) ∧ (∀ j, j ≠ 6 → j ≠ 7 → j ≠ 8 → j ≠ 9 → X k j = M k j))) ?_ (n := 7) ⟨Or.inr rfl, Or.inr (Or.inl ⟨rfl, rfl, rfl⟩)⟩
  rintro m x W' ⟨hx, hcase⟩ J hJ
  unfold wpB_Model_readRow_14
  have badJ91 : ∀ W5 : zMem, 0 < m → b = false → BAD k M' W5 → lw W W5 → wpJ_Model_readRow_91 J (fun W2 => wpJ_Model_readLine_218 Q W2) W5 := fun W5 hm hb bd l => mt_next_no bd.w ⟨fun _ => hJ 0 _ _ hm ⟨Or.inl rfl, Or.inl ⟨hb, bd, l⟩⟩, fun _ => hJ 0 _ _ hm ⟨Or.inr rfl, Or.inl ⟨hb, bd, l⟩⟩⟩
  have nx91 : ∀ (i : Nat) (X W5 : zMem), 1 ≤ i → i ≤ 6 → 7 - i < m → W5 0 3 = 0 → W5 0 5 = X k 6 → rin k z p0 X → bnd (tkn k z) (rRl k z (6 - i) i) X b M' → l5 W3 W5 → (∀ j, (j < 6 ∨ (6 < j ∧ j < 10) ∨ 16 ≤ j) → W5 5 j = W3 5 j) → W5 5 6 = nI i → (∀ j, j < i → W5 5 (10 + j) = X (k + 2) j) → X (k + 1) 6 = nI i → (∀ j, j ≠ 6 → X (k + 1) j = M (k + 1) j) → (∀ c, c ≠ k → c ≠ k + 1 → c ≠ k + 2 → X c = M c) → (∀ j, j ≠ 6 → j ≠ 7 → j ≠ 8 → j ≠ 9 → X k j = M k j) → wpJ_Model_readRow_91 J (fun W2 => wpJ_Model_readLine_218 Q W2) W5 := fun i X W5 i1 i6 hm w3 w5 rX hB l j0 j6 j1 x6 x1 xc xk => by
    have lX : lf k M X := fun c hc => xc c (by omega) (by omega) (by omega)
    have sX : WS k z X W5 := s.mv lX (l3.tr l.l)
    refine mt_nx w3 w5 sX rX (fun W6 f6 n6 => ?_)
    obtain ⟨b4, M4, t4, h4⟩ := hB
    obtain ⟨q1, q2⟩ := nx_tkn s.2.1 n6 t4
    rcases h4 with ⟨rfl, hb, hM⟩ | ⟨rfl, h4⟩
    · have bd : BAD k M' W6 := by rw [hM]; exact q2 rfl
      have ll : lw W W6 := (l3.tr l.l).tr f6.l
      exact ⟨fun _ => hJ 0 _ _ (by omega) ⟨Or.inl rfl, Or.inl ⟨hb, bd, ll⟩⟩, fun _ => hJ 0 _ _ (by omega) ⟨Or.inr rfl, Or.inl ⟨hb, bd, ll⟩⟩⟩
    · have a4 := q1 rfl
      obtain ⟨r4, g4⟩ := tkn_in rX t4
      have v5 : W6 5 = W5 5 := f6.1 5 (by omega)
      have st : ∀ x : Int32, (x = 0 ∨ x = 1) → (x = 1 ↔ M4 k 7 = 2) → J x W6 := fun x hx hx2 => hJ (7 - i) _ _ hm ⟨hx, Or.inr (Or.inr ⟨i, M4, i1, i6, rfl, a4, r4, hx2, h4, l.tr f6.l5, by rw [v5]; exact j0, by rw [v5]; exact j6, fun j hj => by rw [v5, g4.1 (k + 2) (by omega)]; exact j1 j hj, by rw [g4.1 (k + 1) (by omega)]; exact x6, fun j hj => by rw [g4.1 (k + 1) (by omega)]; exact x1 j hj, fun c c1 c2 c3 => by rw [g4.1 c c1]; exact xc c c1 c2 c3, fun j a b c d => by rw [g4.2 j a b c d]; exact xk j a b c d⟩)⟩
      rw [a4.2.2.2.1]
      exact ⟨fun c => st 0 (Or.inl rfl) ⟨fun w => absurd w (by decide), fun w => absurd w c⟩, fun c => st 1 (Or.inr rfl) ⟨fun _ => c, fun _ => rfl⟩⟩
  rcases hcase with ⟨hb, bd, l⟩ | ⟨rfl, rfl, rfl⟩ | ⟨i, X, i1, i6, rfl, aX, rX, hx2, hR, l, j0, j6, j1, x6, x1, xc, xk⟩
  · exact ⟨fun _ => mt_sign_bad bd.w (q.2 W' hb l bd), fun _ => ⟨fun _ => mt_sign_bad bd.w (q.2 W' hb l bd), fun w => absurd w bd.w.ne⟩⟩
  · refine ⟨fun w => absurd w (by decide), fun _ => ⟨fun w => ?_, fun w3 => ?_⟩⟩
    · have hw : bw W' := by
        obtain ⟨p, p1, p2, p3, p4⟩ := n3
        rcases p4 with ⟨-, c3, -⟩ | ⟨-, c3, -⟩
        · exact absurd c3 w
        · exact ⟨1, by omega, by omega, c3⟩
      obtain ⟨b1, M1, h1, h2⟩ := h
      obtain ⟨c1, c2⟩ := first_bad s.2.1 n3 hw h1
      rcases h2 with ⟨-, hb, hM⟩ | ⟨hb, -⟩
      · exact mt_sign_bad hw (q.2 W' hb l3 (by rw [hM]; exact c2))
      · rw [hb] at c1; cases c1
    · have go : wpJ_Model_readRow_50 J (fun W2 => wpJ_Model_readLine_218 Q W2) W' := by
        obtain ⟨b1, M1, h1, h2⟩ := h
        refine mt_numN n3 s.2.1 h1 (fun hb1 a1 => ?_) (fun W5 hb1 f5 bd => ?_)
        · subst hb1
          rcases h2 with ⟨h2, -⟩ | ⟨-, h2⟩
          · cases h2
          obtain ⟨r1, g1, -⟩ := rN_in r h1
          have z6 : W' 5 (ix 6) = 0 := c56
          refine ⟨fun w => absurd a1.1 w, fun _ => ⟨vp_in_nI (n := 6) (by omega) (by omega), by rw [z6]; exact vp_in_nI (n := 10) (by omega) (by omega), fun W8 e8 => ⟨vp_in_nI (n := 6) (by omega) (by omega), vp_in_nI (n := 6) (by omega) (by omega), fun W9 e9 => ?_⟩⟩⟩
          rw [z6] at e8
          have e8' : W8 = zup W' 5 10 (M1 k 9) := e8
          have y6 : W8 5 (ix 6) = 0 := by rw [e8', zup_eq]; exact (upd_ne (show (6 : Nat) ≠ 10 by omega)).trans c56
          rw [y6] at e9
          have e9' : W9 = zup (zup W' 5 10 (M1 k 9)) 5 6 (nI 1) := by rw [e9, e8']; rfl
          generalize hX : zup M1 (k + 2) 0 (M1 k 9) = X at h2
          have e16 : M (k + 1) 6 = nI 1 := d.2.2.2.1
          refine nx91 1 X W9 (by omega) (by omega) (by omega) (by rw [e9', zup_ne (by omega), zup_ne (by omega)]; exact a1.1) (by rw [e9', zup_ne (by omega), zup_ne (by omega), ← hX, zup_ne (by omega)]; exact a1.2.1) (rin_mv r1 (by rw [← hX, zup_ne (by omega)]) (by rw [← hX, zup_ne (by omega)])) h2 (by rw [e9']; exact l5_u.tr l5_u) (fun j hj => by rw [e9', zup_eq, upd_ne (by omega), zup_eq, upd_ne (by omega)]) (by rw [e9', zup_eq, upd_eq]) (fun j hj => ?_) (by rw [← hX, zup_ne (by omega), g1.1 (k + 1) (by omega)]; exact e16) (fun j hj => by rw [← hX, zup_ne (by omega), g1.1 (k + 1) (by omega)]) (fun c c1 c2 c3 => by rw [← hX, zup_ne c3, g1.1 c c1]) (fun j a b c d => by rw [← hX, zup_ne (by omega), g1.2 j a b c d])
          rw [show j = 0 by omega, e9', zup_eq, upd_ne (by omega), zup_eq, upd_eq, ← hX, zup_eq, upd_eq]
        · subst hb1
          rcases h2 with ⟨-, hb, hM⟩ | ⟨h2, -⟩
          · exact ⟨fun _ => badJ91 W5 (by omega) hb (by rw [hM]; exact bd) (l3.tr f5.l), fun w => absurd w bd.w.ne⟩
          · cases h2
      refine ⟨fun _ => go, fun _ => ⟨vp_in_nI (n := 6) (by omega) (by omega), fun _ => go, fun w => ?_⟩⟩
      have z6 : W' 5 (ix 6) = 0 := c56
      rw [z6] at w
      exact absurd w (by decide)
  · have lX : lf k M X := fun c hc => xc c (by omega) (by omega) (by omega)
    have lW : lw W W' := l3.tr l.l
    have sX : WS k z X W' := s.mv lX lW
    refine ⟨fun w => ?_, fun w => ⟨fun v => absurd aX.1 v, fun _ => ?_⟩⟩
    · have c7 : ¬ X k 7 = 2 := fun v => by rw [w] at hx2; exact absurd (hx2.mpr v) (by decide)
      have hS : rSi k X b M' := by
        cases h6 : 6 - i with
        | zero =>
          rw [h6] at hR
          rcases hR with ⟨v, -⟩ | ⟨-, v⟩
          · exact absurd v c7
          · exact v
        | succ m =>
          rw [h6] at hR
          rcases hR with ⟨-, v⟩ | ⟨v, -⟩
          · exact v
          · exact absurd v c7
      refine mt_signA aX sX rX hS (fun W2 hb hM f2 n2 => q.1 W2 hb (lW.tr f2.l) n2 ⟨n, H, i, t1, t2, dd i X i6 x6 (Or.inr hM) hb, ?_⟩) (fun W2 hb f2 bd => q.2 W2 hb (lW.tr f2.l) bd)
      rw [hM]
      exact (eqi i X W' l j0 j6 j1 x6 x1 xc xk).mv (fun _ _ _ => rfl) ⟨rfl, rfl, rfl⟩ f2
    · have c7 : X k 7 = 2 := hx2.mp (hx.resolve_left w)
      have z6 : W' 5 (ix 6) = nI i := j6
      refine ⟨fun v => absurd (by rw [aX.2.2.2.1]; exact c7) v, fun _ => ⟨vp_in_nI (n := 6) (by omega) (by omega), fun v => ?_, fun v => ?_⟩⟩
      · rw [z6] at v
        have i5 : i < 6 := by
          rcases Nat.lt_or_ge i 6 with u | u
          · exact u
          · exact absurd (by rw [show i = 6 by omega]; rfl) v
        obtain ⟨m, em⟩ : ∃ m, 6 - i = m + 1 := ⟨6 - i - 1, by omega⟩
        rw [em] at hR
        rcases hR with ⟨u, -⟩ | ⟨-, hR⟩
        · exact absurd c7 u
        obtain ⟨b1, M1, hw, h2⟩ := hR
        refine mt_num aX (Or.inr ⟨c7, hw⟩) (fun hb1 e1 => ?_) (fun W5 hb1 f5 bd => ?_)
        · subst hb1
          rcases h2 with ⟨h2, -⟩ | ⟨-, h2⟩
          · cases h2
          rw [e1] at h2
          have e10 : (10 : Int32) + nI i = nI (10 + i) := q_add 10 i
          rw [z6, e10, q_ix (by omega)]
          refine ⟨fun u => absurd aX.1 u, fun _ => ⟨vp_in_nI (n := 6) (by omega) (by omega), vp_in_nI (by omega) (by omega), fun W8 e8 => ⟨vp_in_nI (n := 6) (by omega) (by omega), vp_in_nI (n := 6) (by omega) (by omega), fun W9 e9 => ?_⟩⟩⟩
          have y6 : W8 5 (ix 6) = nI i := by rw [e8, zup_eq]; exact (upd_ne (show (6 : Nat) ≠ 10 + i by omega)).trans j6
          rw [y6, nI_1] at e9
          have e9' : W9 = zup (zup W' 5 (10 + i) (X k 9)) 5 6 (nI (i + 1)) := by rw [e9, e8]; rfl
          generalize hX : zup (zup X (k + 2) i (X k 9)) (k + 1) 6 (nI (i + 1)) = X2 at h2
          refine nx91 (i + 1) X2 W9 (by omega) (by omega) (by omega) (by rw [e9', zup_ne (by omega), zup_ne (by omega)]; exact aX.1) (by rw [e9', zup_ne (by omega), zup_ne (by omega), ← hX, zup_ne (by omega), zup_ne (by omega)]; exact aX.2.1) (rin_mv rX (by rw [← hX, zup_ne (by omega), zup_ne (by omega)]) (by rw [← hX, zup_ne (by omega), zup_ne (by omega)])) (by rw [show 6 - (i + 1) = m by omega]; exact h2) (l.tr (by rw [e9']; exact l5_u.tr l5_u)) (fun j hj => by rw [e9', zup_eq, upd_ne (by omega), zup_eq, upd_ne (by omega)]; exact j0 j hj) (by rw [e9', zup_eq, upd_eq]) (fun j hj => ?_) (by rw [← hX, zup_eq, upd_eq]) (fun j hj => by rw [← hX, zup_eq, upd_ne hj, zup_ne (by omega)]; exact x1 j hj) (fun c c1 c2 c3 => by rw [← hX, zup_ne c2, zup_ne c3]; exact xc c c1 c2 c3) (fun j a b c d => by rw [← hX, zup_ne (by omega), zup_ne (by omega)]; exact xk j a b c d)
          rw [e9', zup_eq, upd_ne (by omega), zup_eq, ← hX, zup_ne (by omega), zup_eq]
          by_cases u : j = i
          · rw [u, upd_eq, upd_eq]
          · rw [upd_ne (by omega), upd_ne u]; exact j1 j (by omega)
        · subst hb1
          rcases h2 with ⟨-, hb, hM⟩ | ⟨h2, -⟩
          · exact ⟨fun _ => badJ91 W5 (by omega) hb (by rw [hM]; exact bd) (lW.tr f5.l), fun u => absurd u bd.w.ne⟩
          · cases h2
      · rw [z6] at v
        have i6' : i = 6 := (nI_eq (b := 6) (by omega) (by omega)).mp v
        subst i6'
        have hR' : rRl k z 0 6 X b M' := hR
        rcases hR' with ⟨-, hb, hM⟩ | ⟨u, -⟩
        · have bd := BAD_fs (k := k) (c := 5) (M := X) (W := W') aX.2.2.1 (by omega) (by omega)
          have bd' : BAD k M' (wfs (nI 5) W') := by rw [hM]; exact bd
          exact e_fails (c := nI 5) aX.1 (mt_num_bad bd.w ⟨fun _ => badJ91 _ (by omega) hb bd' (lW.tr tkw.fs.l), fun u => absurd u bd.w.ne⟩)
        · exact absurd c7 u
