theorem AT.mv {k : Nat} {M M' W : zMem} (a : AT k M W) (e : ∀ j, 6 ≤ j → j ≤ 9 → M' k j = M k j) : AT k M' W := by
  unfold AT at a ⊢
  rw [e 6 (by omega) (by omega), e 7 (by omega) (by omega), e 8 (by omega) (by omega), e 9 (by omega) (by omega)]; exact a
theorem stb_inj : ∀ a b c d : Bool, nI (stb a b) = nI (stb c d) → a = c ∧ b = d := by decide
theorem mt_fin {k z p0 n H L : Nat} {t1 t2 : Bool} {X M' W W3 : zMem} {b : Bool} {Q : zMem → Prop} (n3 : NXT k z X W3) (s : WS k z X W3) (r : rin k z p0 X) (h : rS k z X b M') (l : lw W W3) (e : EQ k X W3 n H L t1 t2) (hD : b = true → DW k M' n H L t1 t2) (q : PL k z M' W b Q) : wpJ_Model_readLine_218 Q W3 :=
  mt_sign n3 s r h (fun W' hb f' n' => q.1 W' hb (l.tr f'.l) n' ⟨_, _, _, _, _, hD hb, e.tk (rS_in r (by rw [hb] at h; exact h)).2 f'⟩) (fun W' hb f' bd => q.2 W' hb (l.tr f'.l) bd)
theorem first_bad {k z : Nat} {B : zMem → Bool → zMem → Prop} {X M' W : zMem} {b : Bool} (hz : z ≤ 400) (n : NXT k z X W) (hw : bw W) (h : bnd (tkn k z) B X b M') : b = false ∧ BAD k M' W := by
  obtain ⟨b1, M1, t, h⟩ := h
  obtain ⟨n1, n2⟩ := nx_tkn hz n t
  rcases h with ⟨rfl, hb, hM⟩ | ⟨hb, -⟩
  · exact ⟨hb, by rw [hM]; exact n2 rfl⟩
  · exact absurd (n1 hb).1 hw.ne
theorem mt_sort {k z p0 n H L : Nat} {t1 t2 : Bool} {M M' W : zMem} {b : Bool} {Q : zMem → Prop} (a : AT k M W) (s : WS k z M W) (r : rin k z p0 M) (d : DW k M n H L t1 t2) (e : EQ k M W n H L t1 t2) (h : rSo k z n M b M') (q : PL k z M' W b Q) : wp_Model_readSort W (fun W1 => wpJ_Model_readLine_218 Q W1) := by
  have hD : b = true → ∃ u1 u2, DW k M' n H L u1 u2 := fun hb => (DW_sort r d (by rw [hb] at h; exact h)).2
  obtain ⟨⟨d1, d2, d3, d4⟩, en, -⟩ := id d
  have es : M k 11 = nI (stb t1 t2) := d.2.2.2.2.2.2.2.2.2.2.2.2.1
  have w0 : W 5 (ix 0) = nI n := (e.1 0 (by omega)).trans en
  obtain ⟨b1, M2, h1, h⟩ := h
  generalize hM0 : zup M k 12 1 = M0 at h1
  have m0 : ∀ j, j ≠ 12 → M0 k j = M k j := fun j hj => by rw [← hM0, zup_eq, upd_ne hj]
  have mc : ∀ c, c ≠ k → M0 c = M c := fun c hc => by rw [← hM0, zup_ne hc]
  have a0 : AT k M0 W := a.mv (fun j _ _ => m0 j (by omega))
  have r0 : rin k z p0 M0 := rin_mv r (m0 5 (by omega)) (m0 6 (by omega))
  have f0 : lf k M M0 := by rw [← hM0]; exact lf.up (by omega) (by omega)
  have s0 : WS k z M0 W := s.mv f0 lw.rf
  have e0 : EQ k M0 W n H L t1 t2 := e.mv (fun i h1 _ => mc _ (by omega)) ⟨m0 10 (by omega), m0 11 (by omega), m0 13 (by omega)⟩ tkw.rf
  have badt : ∀ (x : Nat) (W2 : zMem), 1 ≤ x → x ≤ 2 → b = false → BAD k M' W2 → lw W W2 → W2 5 0 = nI n → wpJ_Model_readSort_35 (fun W1 => wpJ_Model_readLine_218 Q W1) (nI x) W2 := fun x W2 x1 x2 hb bd l wn => by
    refine ⟨fun _ W5 e5 => ?_, fun w => absurd w bd.w.ne⟩
    have k5 : kb W2 W5 := by rw [e5]; exact kb.u0 (by omega)
    have b5 := bd.kb k5
    refine mt_next_no b5.w ⟨vp_in_nI (n := 0) (by omega) (by omega), ?_⟩
    have wn5 : W5 5 (ix 0) = nI n := by rw [e5, zup_ne (by omega)]; exact wn
    have e38 : 30 + 8 * nI x = nI (30 + 8 * x) := by rw [show (8 : Int32) = nI 8 from rfl, q_mul, show (30 : Int32) = nI 30 from rfl, q_add]
    rw [wn5, e38]
    exact mt_nums_bad b5.w (by omega) (fun W8 k8 _ => mt_sign_bad (k8.w b5.w) (q.2 W8 hb ((l.tr k5.1).tr k8.1) (b5.kb k8)))
  refine mt_nx a0.1 a0.2.1 s0 r0 (fun W1 f1 n1 => mt_numN n1 s.2.1 h1 (fun hb1 a1 => ?_) (fun W2 hb1 f2 bd => ?_))
  · subst hb1
    rcases h with ⟨h, -⟩ | ⟨-, h⟩
    · cases h
    obtain ⟨s1, g1, -, lo, hi⟩ := rN_in r0 h1
    obtain ⟨s', hs, es9⟩ := nI_of2 (x := M2 k 9) (M := 2) (n := 2) rfl (fun q => lo (Int32.lt_trans q (by decide))) hi
    have hs1 : 1 ≤ s' := by
      rw [es9] at lo
      rcases Nat.lt_or_ge s' 1 with u | u
      · exact absurd ((nI_ltI (b := 1) (by omega) (by omega)).mpr u) lo
      · exact u
    have e1 := e0.tk g1 f1
    have w14 : W1 0 14 = M2 k 11 := e1.2.2.2.2.2.2.1
    have w50 : W1 5 0 = nI n := by rw [f1.1 5 (by omega)]; exact w0
    rw [es9] at h ⊢
    refine ⟨fun w => absurd a1.1 w, fun _ => ⟨fun c => ?_, fun c => ?_⟩⟩
    · rw [w14] at c
      rcases h with ⟨c', -⟩ | ⟨-, h⟩
      · exact absurd c' c
      refine ⟨fun w => absurd a1.1 w, fun _ W10 e10 => ?_⟩
      rw [w14] at e10
      rw [q_ix (by omega)] at h
      generalize hX : zup M2 k 11 ((M2 k 11) ||| (1 <<< (nI s' &&& 31))) = X at h
      have lX : lf k M X := f0.tr (g1.lf.tr (by rw [← hX]; exact lf.up (by omega) (by omega)))
      have lW : lw W W10 := f1.l.tr (by rw [e10]; exact lw.u0 (by omega))
      have rX : rin k z p0 X := rin_mv s1 (by rw [← hX, zup_eq, upd_ne (by omega)]) (by rw [← hX, zup_eq, upd_ne (by omega)])
      refine mt_nx (M := X) (by rw [e10, zup_eq, upd_ne (by omega)]; exact a1.1) (by rw [e10, zup_eq, upd_ne (by omega), ← hX, zup_eq, upd_ne (by omega)]; exact a1.2.1) (s.mv lX lW) rX (fun W11 f11 n11 => ⟨vp_in_nI (n := 0) (by omega) (by omega), ?_⟩)
      have v5 : W11 5 = W1 5 := by rw [f11.1 5 (by omega), e10, zup_ne (by omega)]
      have e38 : 30 + 8 * nI s' = nI (30 + 8 * s') := by rw [show (8 : Int32) = nI 8 from rfl, q_mul, show (30 : Int32) = nI 30 from rfl, q_add]
      rw [show W11 5 (ix 0) = nI n by rw [v5]; exact w50, e38]
      have lW11 : lw W W11 := lW.tr f11.l
      refine mt_nums n11 (s.mv lX lW11) rX h (by omega) (by omega) (by omega) (fun X' W' hC nn rr l j0 j1 j2 j3 j4 => ?_) (fun W' hb bd l _ => mt_sign_bad bd.w (q.2 W' hb (lW11.tr l) bd))
      have lX' : lf k M X' := lX.tr (fun c hc => j2 c (by omega) (by omega))
      obtain ⟨i0, i1, i2, i3, i4, i5, i6, i7⟩ := e1
      have xM : ∀ i, i = 1 ∨ i = 2 ∨ i = 4 ∨ i = 5 → X' (k + i) = M2 (k + i) := fun i hi => by rw [j2 _ (by omega) (by omega), ← hX, zup_ne (by omega)]
      have x3 : ∀ j, (j < s' * 8 ∨ s' * 8 + n ≤ j) → X' (k + 3) j = M2 (k + 3) j := fun j hj => by rw [j3 j hj, ← hX, zup_ne (by omega)]
      have y5 : ∀ j, (j < 30 + 8 * s' ∨ 30 + 8 * s' + n ≤ j) → W' 5 j = W1 5 j := fun j hj => by rw [j0 j hj, v5]
      have x11 : X' k 11 = nI (stb t1 t2) ||| (1 <<< (nI s' &&& 31)) := by
        rw [j4 11 (by omega) (by omega) (by omega) (by omega), ← hX, zup_eq, upd_eq, g1.2 11 (by omega) (by omega) (by omega) (by omega), m0 11 (by omega), es]
      have z14 : W' 0 14 = X' k 11 := by
        rw [l.2 14 (by omega), f11.2 14 (by omega), e10, zup_eq, upd_eq, x11, g1.2 11 (by omega) (by omega) (by omega) (by omega), m0 11 (by omega), es]
      have z13 : W' 0 13 = X' k 10 := by
        rw [l.2 13 (by omega), f11.2 13 (by omega), e10, zup_eq, upd_ne (by omega), j4 10 (by omega) (by omega) (by omega) (by omega), ← hX, zup_eq, upd_ne (by omega)]; exact i5
      have z15 : W' 0 15 = X' k 13 := by
        rw [l.2 15 (by omega), f11.2 15 (by omega), e10, zup_eq, upd_ne (by omega), j4 13 (by omega) (by omega) (by omega) (by omega), ← hX, zup_eq, upd_ne (by omega)]; exact i7
      have eqq : ∀ u1 u2 : Bool, (∀ s'' p, (s'' = 0 ∨ (s'' = 1 ∧ u1 = true) ∨ (s'' = 2 ∧ u2 = true)) → p < n → W' 5 (30 + 8 * s'' + p) = X' (k + 3) (s'' * 8 + p)) → EQ k X' W' n H L u1 u2 := fun u1 u2 hu => by
        refine ⟨fun j hj => by rw [y5 j (by omega), xM 1 (by omega)]; exact i0 j hj, fun i hi => by rw [y5 _ (by omega), xM 2 (by omega)]; exact i1 i hi, hu, fun h p hh hp => by rw [y5 _ (by omega), xM 4 (by omega)]; exact i3 h p hh hp, fun w h hh => ?_, z13, z14, z15⟩
        rw [y5 _ (by omega), xM 5 (by omega)]
        exact i4 (by rw [xM 1 (by omega)] at w; exact w) h hh
      have unit : ∀ s'' p, s'' ≠ s' → s'' < 3 → (s'' = 0 ∨ (s'' = 1 ∧ t1 = true) ∨ (s'' = 2 ∧ t2 = true)) → p < n → W' 5 (30 + 8 * s'' + p) = X' (k + 3) (s'' * 8 + p) := fun s'' p hne h3 ht hp => by
        rw [y5 _ (by omega), x3 _ (by omega)]
        exact i2 s'' p ht hp
      have own : ∀ p, p < n → W' 5 (30 + 8 * s' + p) = X' (k + 3) (s' * 8 + p) := fun p hp => j1 p hp
      have dd : ∀ u1 u2 : Bool, X' k 11 = nI (stb u1 u2) → b = true → DW k M' n H L u1 u2 := fun u1 u2 h11 hb => by
        obtain ⟨v1, v2, dv⟩ := hD hb
        have f := (rS_in rr (by rw [hb] at hC; exact hC)).2
        have : nI (stb u1 u2) = nI (stb v1 v2) := by
          rw [← h11, ← f.2 11 (by omega) (by omega) (by omega) (by omega)]
          exact dv.2.2.2.2.2.2.2.2.2.2.2.2.1
        obtain ⟨c1, c2⟩ := stb_inj _ _ _ _ this
        rw [c1, c2]; exact dv
      have sW : WS k z X' W' := s.mv lX' (lW11.tr l.l)
      rcases (show s' = 1 ∨ s' = 2 by omega) with hs' | hs'
      · subst hs'
        have q11 : X' k 11 = nI (stb true t2) := by rw [x11]; exact (st_or t1 t2).1
        refine mt_fin (n := n) (H := H) (L := L) (t1 := true) (t2 := t2) nn sW rr hC (lW11.tr l.l) (eqq true t2 (fun s'' p ht hp => ?_)) (dd true t2 q11) q
        by_cases w : s'' = 1
        · subst w; exact own p hp
        · exact unit s'' p w (by omega) (by
            rcases ht with u | u | u
            · exact Or.inl u
            · exact absurd u.1 w
            · exact Or.inr (Or.inr u)) hp
      · subst hs'
        have q11 : X' k 11 = nI (stb t1 true) := by rw [x11]; exact (st_or t1 t2).2
        refine mt_fin (n := n) (H := H) (L := L) (t1 := t1) (t2 := true) nn sW rr hC (lW11.tr l.l) (eqq t1 true (fun s'' p ht hp => ?_)) (dd t1 true q11) q
        by_cases w : s'' = 2
        · subst w; exact own p hp
        · exact unit s'' p w (by omega) (by
            rcases ht with u | u | u
            · exact Or.inl u
            · exact Or.inr (Or.inl u)
            · exact absurd u.1 w) hp
    · rw [w14] at c
      rcases h with ⟨-, hb, hM⟩ | ⟨c', -⟩
      · have bd := BAD_fs (k := k) (c := 4) (M := M2) (W := W1) a1.2.2.1 (by omega) (by omega)
        exact e_fails (c := nI 4) a1.1 (badt s' _ hs1 hs hb (by rw [hM]; exact bd) (f1.l.tr tkw.fs.l) (by unfold wfs; rw [zup_ne (by omega), zup_ne (by omega)]; exact w50))
      · exact absurd c c'
  · subst hb1
    rcases h with ⟨-, hb, hM⟩ | ⟨h, -⟩
    · exact ⟨fun _ => badt 1 _ (by omega) (by omega) hb (by rw [hM]; exact bd) (f1.tr f2).l (by rw [f2.1 5 (by omega), f1.1 5 (by omega)]; exact w0), fun w => absurd w bd.w.ne⟩
    · cases h
theorem mt_handL {k z p0 n H L : Nat} {t1 t2 : Bool} {M M' W : zMem} {b : Bool} {Q : zMem → Prop} (a : AT k M W) (s : WS k z M W) (r : rin k z p0 M) (d : DW k M n H L t1 t2) (e : EQ k M W n H L t1 t2) (h : rHa k z n H M b M') (q : PL k z M' W b Q) : wp_Model_readHand W (fun W1 => wpJ_Model_readLine_218 Q W1) := by
  have hD : b = true → DW k M' n (H + 1) L t1 t2 := fun hb => (DW_hand r d (by rw [hb] at h; exact h)).2
  obtain ⟨⟨d1, d2, d3, d4⟩, en, eH, -⟩ := id d
  have w0 : W 5 (ix 0) = nI n := (e.1 0 (by omega)).trans en
  have w1 : W 5 (ix 1) = nI H := (e.1 1 (by omega)).trans eH
  have w15 : W 0 15 = M k 13 := e.2.2.2.2.2.2.2
  have k4 := d.2.2.2.2.2.2.2.2.2.2.2.2.2.2.2
  have e60 : ∀ x : Nat, 60 + 8 * nI x = nI (60 + 8 * x) := fun x => by rw [show (8 : Int32) = nI 8 from rfl, q_mul, show (60 : Int32) = nI 60 from rfl, q_add]
  unfold wp_Model_readHand
  rw [w1, w15]
  rcases h with ⟨hc, hb, hM⟩ | ⟨c13, cH, h⟩
  · have bad : wpJ_Model_readHand_17 (fun W1 => wpJ_Model_readLine_218 Q W1) W := by
      have bd := BAD_fs (k := k) (c := 5) (M := M) (W := W) a.2.2.1 (by omega) (by omega)
      have bd' : BAD k M' (wfs (nI 5) W) := by rw [hM]; exact bd
      have v1 : wfs (nI 5) W 5 (ix 1) = nI H := by unfold wfs; rw [zup_ne (by omega), zup_ne (by omega)]; exact w1
      have tail : ∀ x : Nat, x ≤ 5 → wp_Model_numbers (nI (60 + 8 * x)) 0 1 9 (wfs (nI 5) W) (fun zm5 => vp_in 1 100 ∧ vp_in 1 100 ∧ ∀ zm7 : zMem, zm7 = zup zm5 5 (ix 1) ((zm5 5 (ix 1)) + 1) → wpJ_Model_readLine_218 Q zm7) := fun x hx => by
        refine mt_nums_bad (m := 0) bd.w (by omega) (fun W8 k8 _ => ⟨vp_in_nI (n := 1) (by omega) (by omega), vp_in_nI (n := 1) (by omega) (by omega), fun W9 e9 => ?_⟩)
        have k9 : kb (wfs (nI 5) W) W9 := k8.tr (by rw [e9]; exact kb.u5)
        exact mt_sign_bad (k9.w bd.w) (q.2 W9 hb (tkw.fs.l.tr k9.1) (bd'.kb k9))
      refine e_fails (c := nI 5) a.1 (mt_next_no bd.w ⟨vp_in_nI (n := 1) (by omega) (by omega), fun _ => ⟨fun _ => ?_, fun w => absurd w bd.w.ne⟩, fun _ => ⟨vp_in_nI (n := 1) (by omega) (by omega), fun _ => ?_, fun w => absurd w bd.w.ne⟩⟩)
      · exact tail 0 (by omega)
      · rw [v1, e60]; exact tail H (by omega)
    refine ⟨vp_in_nI (n := 1) (by omega) (by omega), fun _ => bad, fun cH => ⟨fun c13 => ?_, fun _ => bad⟩⟩
    exfalso
    rcases hc with w | w
    · exact w c13
    · exact w (by rw [eH]; exact (nI_ltI (b := 5) (by omega) (by omega)).mpr (by
        rcases Nat.lt_or_ge H 5 with u | u
        · exact u
        · exact absurd (by rw [show H = 5 by omega]; rfl) cH))
  · have hH : H < 5 := by
      rw [eH] at cH
      exact (nI_ltI (b := 5) (by omega) (by omega)).mp cH
    refine ⟨vp_in_nI (n := 1) (by omega) (by omega), fun c5 => ?_, fun _ => ⟨fun _ => ?_, fun w => absurd c13 w⟩⟩
    · have := (nI_eq (b := 5) (by omega) (by omega)).mp c5
      omega
    generalize hM0 : zup M k 12 1 = M0 at h
    have m0 : ∀ j, j ≠ 12 → M0 k j = M k j := fun j hj => by rw [← hM0, zup_eq, upd_ne hj]
    have mc : ∀ c, c ≠ k → M0 c = M c := fun c hc => by rw [← hM0, zup_ne hc]
    have a0 : AT k M0 W := a.mv (fun j _ _ => m0 j (by omega))
    have r0 : rin k z p0 M0 := rin_mv r (m0 5 (by omega)) (m0 6 (by omega))
    have f0 : lf k M M0 := by rw [← hM0]; exact lf.up (by omega) (by omega)
    have s0 : WS k z M0 W := s.mv f0 lw.rf
    refine mt_nx a0.1 a0.2.1 s0 r0 (fun W1 f1 n1 => ?_)
    have v5 : W1 5 = W 5 := f1.1 5 (by omega)
    rw [v5, w1]
    refine ⟨vp_in_nI (n := 1) (by omega) (by omega), fun c5 => ?_, fun _ => ⟨vp_in_nI (n := 1) (by omega) (by omega), ?_⟩⟩
    · have := (nI_leI (a := 5) (by omega) (by omega)).mp c5
      omega
    rw [e60, w0]
    have badt : ∀ W', b = false → BAD k M' W' → lw W W' → vp_in 1 100 ∧ vp_in 1 100 ∧ ∀ zm16 : zMem, zm16 = zup W' 5 (ix 1) ((W' 5 (ix 1)) + 1) → wpJ_Model_readLine_218 Q zm16 := fun W' hb bd l => ⟨vp_in_nI (n := 1) (by omega) (by omega), vp_in_nI (n := 1) (by omega) (by omega), fun W9 e9 => by
      have b9 : BAD k M' W9 := by rw [e9]; exact bd.kb kb.u5
      exact mt_sign_bad b9.w (q.2 W9 hb (l.tr (by rw [e9]; exact lw.u5)) b9)⟩
    refine ⟨fun w => ?_, fun _ => ⟨vp_in_nI (n := 0) (by omega) (by omega), ?_⟩⟩
    · have hw : bw W1 := by
        obtain ⟨p, p1, p2, p3, p4⟩ := n1
        rcases p4 with ⟨-, c3, -⟩ | ⟨-, c3, -⟩
        · exact absurd c3 w
        · exact ⟨1, by omega, by omega, c3⟩
      have bb : b = false ∧ BAD k M' W1 := by
        cases n with
        | zero =>
          have h' : rS k z (zup M0 (k + 1) 1 (M0 (k + 1) 1 + 1)) b M' := h
          refine first_bad s.2.1 ?_ hw h'
          obtain ⟨p, p1, p2, p3⟩ := n1
          exact ⟨p, p1, by rw [zup_ne (by omega)]; exact p2, by rw [zup_ne (by omega)]; exact p3⟩
        | succ n =>
          obtain ⟨b1, M1, h1, h2⟩ := h
          obtain ⟨c1, c2⟩ := first_bad s.2.1 n1 hw h1
          rcases h2 with ⟨-, hb, hM⟩ | ⟨hb, -⟩
          · exact ⟨hb, by rw [hM]; exact c2⟩
          · rw [hb] at c1; cases c1
      refine mt_nums_bad (m := 0) hw (by omega) (fun W8 k8 _ => badt W8 bb.1 (bb.2.kb k8) (f1.l.tr k8.1))
    · refine mt_nums n1 (s0.mv (fun _ _ => rfl) f1.l) r0 h (by omega) (by omega) (by omega) (fun X' W' hC nn rr l j0 j1 j2 j3 j4 => ⟨vp_in_nI (n := 1) (by omega) (by omega), vp_in_nI (n := 1) (by omega) (by omega), fun W9 e9 => ?_⟩) (fun W' hb bd l _ => badt W' hb bd (f1.l.tr l))
      have xM : ∀ i, i = 1 ∨ i = 2 ∨ i = 3 ∨ i = 5 → X' (k + i) = M (k + i) := fun i hi => by rw [j2 _ (by omega) (by omega)]; exact mc _ (by omega)
      have y5 : ∀ j, (j < 60 + 8 * H ∨ 60 + 8 * H + n ≤ j) → W' 5 j = W 5 j := fun j hj => by rw [j0 j hj, v5]
      have u1 : X' (k + 1) 1 + 1 = nI (H + 1) := by rw [xM 1 (by omega), eH, nI_1]
      have u2 : W' 5 (ix 1) + 1 = nI (H + 1) := by rw [y5 (ix 1) (by show ix (nI 1) < _ ∨ _; rw [q_ix (by omega)]; omega), w1, nI_1]
      rw [u1] at hC
      rw [u2] at e9
      have e9' : W9 = zup W' 5 1 (nI (H + 1)) := e9
      generalize hX : zup X' (k + 1) 1 (nI (H + 1)) = X at hC
      have lX : lf k M X := by
        intro c hc
        rw [← hX, zup_ne (by omega), j2 c (by omega) (by omega)]; exact mc c (by omega)
      have lW : lw W W9 := (f1.l.tr l.l).tr (by rw [e9']; exact lw.u5)
      have rX : rin k z p0 X := rin_mv rr (by rw [← hX, zup_ne (by omega)]) (by rw [← hX, zup_ne (by omega)])
      have nX : NXT k z X W9 := by
        obtain ⟨p, p1, p2, p3⟩ := nn
        refine ⟨p, p1, by rw [← hX, zup_ne (by omega)]; exact p2, ?_⟩
        rw [show X (k + 6) = X' (k + 6) by rw [← hX, zup_ne (by omega)]]
        unfold nT at p3 ⊢
        rw [e9', zup_ne (by omega)]; exact p3
      refine mt_fin (n := n) (H := H + 1) (L := L) (t1 := t1) (t2 := t2) nX (s.mv lX lW) rX hC lW ?_ hD q
      obtain ⟨i0, i1, i2, i3, i4, i5, i6, i7⟩ := e
      have xk : ∀ i, i = 2 ∨ i = 3 ∨ i = 5 → X (k + i) = M (k + i) := fun i hi => by rw [← hX, zup_ne (by omega)]; exact xM i (by omega)
      have xs : ∀ j, j = 10 ∨ j = 11 ∨ j = 13 → X k j = M k j := fun j hj => by rw [← hX, zup_ne (by omega), j4 j (by omega) (by omega) (by omega) (by omega), m0 j (by omega)]
      have ys : ∀ j, 13 ≤ j → j ≤ 15 → W9 0 j = W 0 j := fun j h1 h2 => by rw [e9', zup_ne (by omega), l.2 j (by omega), f1.2 j (by omega)]
      have z5 : ∀ j, j ≠ 1 → W9 5 j = W' 5 j := fun j hj => by rw [e9', zup_eq, upd_ne hj]
      refine ⟨fun j hj => ?_, fun i hi => by rw [z5 _ (by omega), y5 _ (by omega), xk 2 (by omega)]; exact i1 i hi, fun s'' p ht hp => by rw [z5 _ (by omega), y5 _ (by omega), xk 3 (by omega)]; exact i2 s'' p ht hp, fun h p hh hp => ?_, fun w => absurd (by rw [← hX, zup_eq, upd_ne (by omega), xM 1 (by omega)]; exact k4 c13) w, by rw [ys 13 (by omega) (by omega), xs 10 (by omega)]; exact i5, by rw [ys 14 (by omega) (by omega), xs 11 (by omega)]; exact i6, by rw [ys 15 (by omega) (by omega), xs 13 (by omega)]; exact i7⟩
      · by_cases w : j = 1
        · subst w
          rw [e9', zup_eq, upd_eq, ← hX, zup_eq, upd_eq]
        · rw [z5 j w, y5 j (by omega), ← hX, zup_eq, upd_ne w, xM 1 (by omega)]; exact i0 j hj
      · rw [z5 _ (by omega), show X (k + 4) = X' (k + 4) by rw [← hX, zup_ne (by omega)]]
        by_cases w : h = H
        · rw [w]; exact j1 p hp
        · rw [y5 _ (by omega), j3 _ (by omega), mc _ (by omega)]
          exact i3 h p (by omega) hp
