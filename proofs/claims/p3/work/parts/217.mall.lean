theorem stb_ij : ∀ a b c d : Bool, nI (stb a b) = nI (stb c d) → a = c ∧ b = d := by decide
theorem DW_un {k n H L n' H' L' : Nat} {t1 t2 u1 u2 : Bool} {M : zMem} (a : DW k M n H L t1 t2) (b : DW k M n' H' L' u1 u2) : n = n' ∧ H = H' ∧ L = L' ∧ t1 = u1 ∧ t2 = u2 := by
  obtain ⟨⟨b1, b2, b3, b4⟩, en, eH, eL, -⟩ := id a
  obtain ⟨⟨c1, c2, c3, c4⟩, fn, fH, fL, -⟩ := id b
  have e11 := a.2.2.2.2.2.2.2.2.2.2.2.2.1
  have f11 := b.2.2.2.2.2.2.2.2.2.2.2.2.1
  exact ⟨(nI_eq (by omega) (by omega)).mp (en.symm.trans fn), (nI_eq (by omega) (by omega)).mp (eH.symm.trans fH), (nI_eq (by omega) (by omega)).mp (eL.symm.trans fL), stb_ij _ _ _ _ (e11.symm.trans f11)⟩
theorem mt_lines {k z f0 n0 H0 L0 : Nat} {u1 u2 : Bool} {M M' W : zMem} {K : Int32 → zMem → Prop} {Q : Int32 → zMem → Prop} (h : rAl k z f0 M M') (d0 : DA k z 0 M n0 H0 L0 u1 u2) (e0 : EQ k M W n0 H0 L0 u1 u2) (nx : NXT k z M W) (s0 : WS k z M W) (m3 : M k 3 = 0) (m1 : M k 1 = 0)
    (hb : ∀ x W', BAD k M' W' → lw W W' → lf k M M' → K x W')
    (hg : ∀ W' n H L t1 t2, M' k 1 = 0 → W' 0 3 = 0 → DA k z 0 M' n H L t1 t2 → EQ k M' W' n H L t1 t2 → lw W W' → lf k M M' → K (M' k 3) W') : ∃ m, zlp1 (wpB_Model_text_62 K Q) m 0 W := by
  refine zlp1_r (fun m x W' => (BAD k M' W' ∧ lw W W' ∧ lf k M M') ∨ ∃ X, rAl k z m X M' ∧ (∃ n H L t1 t2, DA k z 0 X n H L t1 t2 ∧ EQ k X W' n H L t1 t2) ∧ NXT k z X W' ∧ WS k z X W' ∧ lw W W' ∧ lf k M X ∧ x = X k 3 ∧ X k 1 = 0) ?_ (n := f0) (Or.inr ⟨M, h, ⟨n0, H0, L0, u1, u2, d0, e0⟩, nx, s0, lw.rf, fun _ _ => rfl, m3.symm, m1⟩)
  rintro m x W' hc J hJ
  unfold wpB_Model_text_62
  rcases hc with ⟨bd, l, f⟩ | ⟨X, hR, ⟨n, H, L, t1, t2, dX, eX⟩, nX, sX, l, f, hx, x1⟩
  · exact ⟨fun _ => hb x W' bd l f, fun w => absurd w bd.w.ne⟩
  · cases m with
    | zero => exact absurd hR (fun h => h)
    | succ m =>
      obtain ⟨b1, M1, t, hR⟩ := hR
      obtain ⟨q1, q2⟩ := nx_tkn sX.2.1 nX t
      obtain ⟨g1, g2, -⟩ := gd_tkn _ _ _ t
      rcases hR with ⟨rfl, rfl⟩ | ⟨rfl, c7, rfl⟩ | ⟨rfl, c7, n', H', b2, M2, en, n8, eH, H5, hL, h2⟩
      · have bd := q2 rfl
        exact ⟨fun _ => hb x W' bd l (f.tr g1), fun w => absurd w bd.w.ne⟩
      · have a1 := q1 rfl
        obtain ⟨r1, f1⟩ := tkn_in dX.1 t
        refine ⟨fun w => absurd a1.1 w, fun _ => ⟨fun _ => ?_, fun w => absurd (a1.2.2.2.1.trans c7) w⟩⟩
        rw [hx, ← f1.2 3 (by omega) (by omega) (by omega) (by omega)]
        exact hg W' n H L t1 t2 ((g2 rfl).trans x1) a1.1 ⟨r1, dX.2.1.tk f1, dX.2.2.tk f1⟩ (eX.tk f1 tkw.rf) l (f.tr g1)
      · have a1 := q1 rfl
        obtain ⟨r1, f1⟩ := tkn_in dX.1 t
        have d1 : DA k z 0 M1 n H L t1 t2 := ⟨r1, dX.2.1.tk f1, dX.2.2.tk f1⟩
        have e1 : EQ k M1 W' n H L t1 t2 := eX.tk f1 tkw.rf
        have s1 : WS k z M1 W' := sX.mv g1 lw.rf
        obtain ⟨⟨v1, v2, v3, v4⟩, fn, fH, -⟩ := id d1.2.1
        have hn : n' = n := (nI_eq (by omega) (by omega)).mp (en.symm.trans fn)
        have hH : H' = H := (nI_eq (by omega) (by omega)).mp (eH.symm.trans fH)
        subst hn hH
        obtain ⟨y1, y2, -⟩ := gd_rLi _ _ _ hL
        refine ⟨fun w => absurd a1.1 w, fun _ => ⟨fun w => absurd (a1.2.2.2.1.symm.trans w) c7, fun _ => mt_line a1 s1 d1 e1 hL ⟨fun W2 hb2 l2 n2 hde => ?_, fun W2 hb2 l2 bd y ey => ?_⟩⟩⟩
        · subst hb2
          rcases h2 with ⟨w, -⟩ | ⟨-, h2⟩
          · cases w
          obtain ⟨n3, H3, L3, t13, t23, d3⟩ := DA_line d1 hL
          obtain ⟨n4, H4, L4, t14, t24, d4, e4⟩ := hde
          obtain ⟨i1, i2, i3, i4, i5⟩ := DW_un d3.2.1 d4
          subst i1 i2 i3 i4 i5
          intro y ey
          refine hJ m _ _ (by omega) (Or.inr ⟨M2, h2, ⟨_, _, _, _, _, d3, e4⟩, n2, s1.mv y1 l2, l.tr l2, (f.tr g1).tr y1, ?_, (y2 rfl).trans ((g2 rfl).trans x1)⟩)
          rw [ey, hx, ← f1.2 3 (by omega) (by omega) (by omega) (by omega)]
          rcases hL with ⟨-, w, -⟩ | ⟨-, nm, -, -, hL⟩
          · cases w
          · have := (ge_rLn _ _ _ hL).2.1 rfl
            rw [this, zup_eq, upd_eq]
        · subst hb2
          rcases h2 with ⟨-, rfl⟩ | ⟨w, -⟩
          · exact hJ m _ _ (by omega) (Or.inl ⟨bd, l.tr l2, (f.tr g1).tr y1⟩)
          · cases w
theorem st_bitI : ∀ t1 t2 : Bool, ∀ s, s < 3 → 0 < s → ((((nI (stb t1 t2) >>> (nI s &&& 31)) &&& 1) = 0) ↔ ¬ (s = 0 ∨ (s = 1 ∧ t1 = true) ∨ (s = 2 ∧ t2 = true))) := by decide
theorem mt_wholeFault {k n H L : Nat} {t1 t2 : Bool} {M W : zMem} {Q : Int32 → zMem → Prop} (d : DW k M n H L t1 t2) (e : EQ k M W n H L t1 t2)
    (h6 : (n = 0 ∨ H = 0) → Q 6 W)
    (h7 : 0 < n → 0 < H → (∃ s, s < 3 ∧ ∀ p, p < n → us k M t1 t2 s p = 0) → ∀ W', (∀ c, c ≠ 5 → W' c = W c) → Q 7 W')
    (h1 : 0 < n → 0 < H → (∀ s, s < 3 → ∃ p, p < n ∧ us k M t1 t2 s p ≠ 0) → ∀ W', (∀ c, c ≠ 5 → W' c = W c) → (∀ j, (j < 38 ∨ 54 ≤ j) → W' 5 j = W 5 j) → (∀ s p, s < 3 → p < n → W' 5 (30 + 8 * s + p) = us k M t1 t2 s p) → Q 0 W') : wp_Model_wholeFault W Q := by
  obtain ⟨⟨b1, b2, b3, b4⟩, en, eH, -⟩ := id d
  have es := d.2.2.2.2.2.2.2.2.2.2.2.2.1
  obtain ⟨i0, i1, i2, i3, i4, i5, i6, i7⟩ := e
  have w0 : W 5 (ix 0) = nI n := (i0 0 (by omega)).trans en
  have w1 : W 5 (ix 1) = nI H := (i0 1 (by omega)).trans eH
  unfold wp_Model_wholeFault
  rw [w0, w1]
  refine ⟨vp_in_nI (n := 0) (by omega) (by omega), fun c => h6 (Or.inl ((nI_eq (b := 0) (by omega) (by omega)).mp c)), fun c => ⟨vp_in_nI (n := 1) (by omega) (by omega), fun c2 => ?_, fun c2 => h6 (Or.inr ((nI_eq (b := 0) (by omega) (by omega)).mp c2))⟩⟩
  have n0 : 0 < n := by
    rcases Nat.eq_zero_or_pos n with w | w
    · rw [w] at c; exact absurd rfl c
    · exact w
  have H0 : 0 < H := by
    rcases Nat.eq_zero_or_pos H with w | w
    · rw [w] at c2; exact absurd rfl c2
    · exact w
  refine zlp1_r (fun m x W' => ∃ s, x = nI s ∧ s ≤ 3 ∧ m = 3 - s ∧ (∀ c, c ≠ 5 → W' c = W c) ∧ (∀ j, (j < 38 ∨ 30 + 8 * s ≤ j) → W' 5 j = W 5 j) ∧ (∀ s' p, s' < s → p < n → W' 5 (30 + 8 * s' + p) = us k M t1 t2 s' p) ∧ ∀ s', s' < s → ∃ p, p < n ∧ us k M t1 t2 s' p ≠ 0) ?_ (n := 3) ⟨0, rfl, by omega, rfl, fun _ _ => rfl, fun _ _ => rfl, fun _ _ h => absurd h (by omega), fun _ h => absurd h (by omega)⟩
  rintro m x W1 ⟨s, rfl, hs, rfl, f1, f2, f3, f4⟩ J hJ
  unfold wpB_Model_wholeFault_23
  refine ⟨fun c => ?_, fun c => ?_⟩
  · have := (nI_leI (a := 3) (by omega) (by omega)).mp c
    have e3 : s = 3 := by omega
    subst e3
    exact h1 n0 H0 f4 W1 f1 (fun j hj => f2 j (by omega)) (fun s p hs hp => f3 s p hs hp)
  · have s3 : s < 3 := by
      rcases Nat.lt_or_ge s 3 with w | w
      · exact w
      · exact absurd ((nI_leI (a := 3) (by omega) (by omega)).mpr w) c
    refine zlp2_r (fun m x2 x3 W' => ∃ p S, x3 = nI p ∧ p ≤ n ∧ m = n - p ∧ x2 = nI S ∧ S ≤ 6 * p ∧ (S = 0 ↔ ∀ p', p' < p → us k M t1 t2 s p' = 0) ∧ (∀ c, c ≠ 5 → W' c = W c) ∧ (∀ j, (j < 38 ∨ 30 + 8 * (s + 1) ≤ j) → W' 5 j = W 5 j) ∧ (∀ j, p ≤ j → j < n → W' 5 (30 + 8 * s + j) = W 5 (30 + 8 * s + j)) ∧ (∀ s' p, s' < s → p < n → W' 5 (30 + 8 * s' + p) = us k M t1 t2 s' p) ∧ ∀ p', p' < p → W' 5 (30 + 8 * s + p') = us k M t1 t2 s p') ?_ (n := n) ⟨0, 0, rfl, by omega, rfl, rfl, by omega, ⟨fun _ _ h => absurd h (by omega), fun _ => rfl⟩, f1, fun j hj => f2 j (by omega), fun j _ hj => f2 _ (by omega), f3, fun _ h => absurd h (by omega)⟩
    rintro m' x2 x3 W' ⟨p, S, rfl, hp, rfl, rfl, hS, hS0, g1, g2, g3, g4, g5⟩ J' hJ'
    unfold wpB_Model_wholeFault_32
    have v0 : W' 5 (ix 0) = nI n := by
      have : W' 5 (ix 0) = W 5 (ix 0) := g2 0 (by omega)
      rw [this]; exact w0
    rw [v0]
    refine ⟨vp_in_nI (n := 0) (by omega) (by omega), fun c => ?_, fun c => ?_⟩
    · have hp2 : p = n := by
        have := (nI_leI (by omega) (by omega)).mp c
        omega
      subst hp2
      refine ⟨fun c0 y ey => ?_, fun c0 => ?_⟩
      · rw [ey, nI_1]
        have S0 : ¬ S = 0 := fun w => c0 (by rw [w]; rfl)
        refine hJ (3 - (s + 1)) _ _ (by omega) ⟨s + 1, rfl, by omega, rfl, g1, g2, fun s' p' hs' hp' => ?_, fun s' hs' => ?_⟩
        · rcases Nat.lt_or_ge s' s with w | w
          · exact g4 s' p' w hp'
          · rw [show s' = s by omega]; exact g5 p' hp'
        · rcases Nat.lt_or_ge s' s with w | w
          · exact f4 s' w
          · rw [show s' = s by omega]
            exact Classical.byContradiction (fun no => S0 (hS0.mpr (fun p' hp' => Classical.byContradiction (fun w => no ⟨p', hp', w⟩))))
      · have S0 : S = 0 := (nI_eq (b := 0) (by omega) (by omega)).mp c0
        exact h7 n0 H0 ⟨s, s3, hS0.mp S0⟩ W' g1
    · have hp2 : p < n := by
        rcases Nat.lt_or_ge p n with w | w
        · exact w
        · exact absurd ((nI_leI (by omega) (by omega)).mpr w) c
      have eix : (30 : Int32) + 8 * nI s + nI p = nI (30 + 8 * s + p) := by
        rw [show (8 : Int32) = nI 8 from rfl, show (30 : Int32) = nI 30 from rfl, q_mul, q_add, q_add]
      obtain ⟨u, u6, eu⟩ := us_nI d (s := s) (p := p) s3 hp2
      -- one more unit
      have step : ∀ W2 : zMem, (∀ c, c ≠ 5 → W2 c = W c) → (∀ j, (j < 38 ∨ 30 + 8 * (s + 1) ≤ j) → W2 5 j = W 5 j) → (∀ j, j ≠ 30 + 8 * s + p → W2 5 j = W' 5 j) → W2 5 (30 + 8 * s + p) = us k M t1 t2 s p → wpJ_Model_wholeFault_80 (fun (zx5 : Int32) (zm4 : zMem) => (¬ zx5 = 0 → ∀ zx6 : Int32, zx6 = nI s + 1 → J zx6 zm4) ∧ (zx5 = 0 → Q 7 zm4)) J' Q (nI s) (nI S) (nI p) W2 := fun W2 k1 k2 k3 k4 => by
        unfold wpJ_Model_wholeFault_80
        rw [eix, q_ix (by omega), k4, eu, q_add]
        refine ⟨vp_in_nI (by omega) (by omega), fun y ey y2 ey2 => ?_⟩
        rw [ey, ey2, nI_1]
        refine hJ' (n - (p + 1)) _ _ _ (by omega) ⟨p + 1, S + u, rfl, by omega, rfl, rfl, by omega, ⟨fun w p' hp' => ?_, fun w => ?_⟩, k1, k2, fun j hj hj2 => by rw [k3 _ (by omega)]; exact g3 j (by omega) hj2, fun s' p' hs' hp' => by rw [k3 _ (by omega)]; exact g4 s' p' hs' hp', fun p' hp' => ?_⟩
        · rcases Nat.lt_or_ge p' p with v | v
          · exact hS0.mp (by omega) p' v
          · rw [show p' = p by omega, eu, show u = 0 by omega]; rfl
        · have z1 : S = 0 := hS0.mpr (fun p' hp' => w p' (by omega))
          have z2 := w p (by omega)
          rw [eu] at z2
          have : u = 0 := (nI_eq (b := 0) (by omega) (by omega)).mp z2
          omega
        · rcases Nat.lt_or_ge p' p with v | v
          · rw [k3 _ (by omega)]; exact g5 p' v
          · rw [show p' = p by omega]; exact k4
      have told : (s = 0 ∨ (s = 1 ∧ t1 = true) ∨ (s = 2 ∧ t2 = true)) → W' 5 (30 + 8 * s + p) = us k M t1 t2 s p := fun w => by
        rw [g3 p (Nat.le_refl _) hp2, i2 s p w hp2]
        unfold us
        rw [if_pos w]
      have e14 : W' 0 14 = nI (stb t1 t2) := by rw [g1 0 (by omega), i6]; exact es
      rw [e14]
      refine ⟨fun c => ?_, fun c => ⟨fun c3 => ?_, fun c3 => ?_⟩⟩
      · have s0 : s = 0 := by
          have := (nI_leI (b := 0) (by omega) (by omega)).mp c
          omega
        exact step W' g1 g2 (fun _ _ => rfl) (told (Or.inl s0))
      · have s0 : 0 < s := by
          rcases Nat.eq_zero_or_pos s with w | w
          · exact absurd (by rw [w]; decide) c
          · exact w
        exact step W' g1 g2 (fun _ _ => rfl) (told (Classical.byContradiction (fun w => c3 ((st_bitI t1 t2 s s3 s0).mpr w))))
      · have s0 : 0 < s := by
          rcases Nat.eq_zero_or_pos s with w | w
          · exact absurd (by rw [w]; decide) c
          · exact w
        have nt := (st_bitI t1 t2 s s3 s0).mp c3
        have e30 : (30 : Int32) + nI p = nI (30 + p) := q_add 30 p
        rw [eix, e30, q_ix (by omega), q_ix (by omega)]
        refine ⟨vp_in_nI (by omega) (by omega), vp_in_nI (by omega) (by omega), fun W2 e2 => step W2 (fun c hc => by rw [e2, zup_ne hc]; exact g1 c hc) (fun j hj => by rw [e2, zup_eq, upd_ne (by omega)]; exact g2 j hj) (fun j hj => by rw [e2, zup_eq, upd_ne hj]) ?_⟩
        rw [e2, zup_eq, upd_eq, g2 _ (by omega)]
        have := i2 0 p (Or.inl rfl) hp2
        rw [show 30 + p = 30 + 8 * 0 + p by omega, this]
        unfold us
        rw [if_neg nt]
        congr 1
        omega
