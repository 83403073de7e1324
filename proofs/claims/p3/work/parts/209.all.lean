theorem st_bit : ∀ t1 t2 : Bool, ∀ s, s < 3 → (((nI (stb t1 t2) >>> (nI s &&& 31)) &&& 1) = 0 ↔ ¬ ((s = 1 ∧ t1 = true) ∨ (s = 2 ∧ t2 = true))) := by decide
/-- the units of a sort, when all is told -/
def us (k : Nat) (M : zMem) (t1 t2 : Bool) (s p : Nat) : Int32 := if s = 0 ∨ (s = 1 ∧ t1 = true) ∨ (s = 2 ∧ t2 = true) then M (k + 3) (s * 8 + p) else M (k + 3) p
theorem us_nI {k n H L : Nat} {t1 t2 : Bool} {M : zMem} (d : DW k M n H L t1 t2) {s p : Nat} (hs : s < 3) (hp : p < n) : ∃ u, u ≤ 6 ∧ us k M t1 t2 s p = nI u := by
  unfold us
  split
  · rename_i h
    exact d.2.2.2.2.2.2.2.2.2.1 s p h hp
  · obtain ⟨u, u1, u2⟩ := d.2.2.2.2.2.2.2.2.2.1 0 p (Or.inl rfl) hp
    exact ⟨u, u1, by rw [← u2]; congr 1; omega⟩
theorem xt_complete {k z n H L : Nat} {t1 t2 : Bool} {M : zMem} {Q : Int32 → zMem → Prop} (d : DW k M n H L t1 t2) (h5 : M k 5 = nI z)
    (hQ6 : (n = 0 ∨ H = 0) → Q 0 (zup (zup M k 1 6) k 2 (nI z)))
    (hQ7 : 0 < n → 0 < H → (∃ s, s < 3 ∧ ∀ p, p < n → us k M t1 t2 s p = 0) → ∀ X, lf k M X → X k 1 = 7 → X k 2 = nI z → (∀ j, j ≠ 1 → j ≠ 2 → X k j = M k j) → Q 0 X)
    (hQ1 : 0 < n → 0 < H → (∀ s, s < 3 → ∃ p, p < n ∧ us k M t1 t2 s p ≠ 0) → ∀ X, lf k M X → X k = M k → X (k + 1) = M (k + 1) → X (k + 2) = M (k + 2) → X (k + 4) = M (k + 4) → (∀ s p, s < 3 → p < n → X (k + 3) (s * 8 + p) = us k M t1 t2 s p) → (∀ h, h < H → X (k + 5) h = if M (k + 1) 4 = 0 ∨ h = H - 1 then nI n else M (k + 5) h) → Q 1 X) : wp_Reader_isComplete k M Q := by
  obtain ⟨⟨b1, b2, b3, b4⟩, en, eH, -⟩ := id d
  have es := d.2.2.2.2.2.2.2.2.2.2.2.2.1
  have six : (n = 0 ∨ H = 0) → wp_Reader_refuse k 6 (M k 5) M (fun zr2 zm1 => zbo zr2 ∧ Q zr2 zm1) := fun h M1 e1 M2 e2 => by
    refine ⟨zbo_0, ?_⟩
    rw [e2, e1, h5]
    exact hQ6 h
  unfold wp_Reader_isComplete
  rw [en, eH]
  refine ⟨fun c => six (Or.inl ((nI_eq (b := 0) (by omega) (by omega)).mp c)), fun c => ⟨fun c2 => ?_, fun c2 => six (Or.inr ((nI_eq (b := 0) (by omega) (by omega)).mp c2))⟩⟩
  have n0 : 0 < n := by
    rcases Nat.eq_zero_or_pos n with w | w
    · rw [w] at c; exact absurd rfl c
    · exact w
  have H0 : 0 < H := by
    rcases Nat.eq_zero_or_pos H with w | w
    · rw [w] at c2; exact absurd rfl c2
    · exact w
  refine zlp1_r (fun m x X => ∃ s, x = nI s ∧ s ≤ 3 ∧ m = 3 - s ∧ (∀ c, c ≠ k + 3 → X c = M c) ∧ (∀ s' p, s' < s → p < n → X (k + 3) (s' * 8 + p) = us k M t1 t2 s' p) ∧ (∀ j, (j < 8 ∨ 8 * s ≤ j) → X (k + 3) j = M (k + 3) j) ∧ ∀ s', s' < s → ∃ p, p < n ∧ us k M t1 t2 s' p ≠ 0) ?_ (n := 3) ⟨0, rfl, by omega, rfl, fun _ _ => rfl, fun _ _ h => absurd h (by omega), fun _ _ => rfl, fun _ h => absurd h (by omega)⟩
  rintro m x X ⟨s, rfl, hs, rfl, f1, f2, f3, f4⟩ J hJ
  unfold wpB_Reader_isComplete_33
  refine ⟨fun c => ?_, fun c => ?_⟩
  · have := (nI_leI (a := 3) (by omega) (by omega)).mp c
    have e3 : s = 3 := by omega
    subst e3
    refine xt_fillEnds (n := n) (H := H) (by rw [f1 (k + 1) (by omega)]; exact en) (by rw [f1 (k + 1) (by omega)]; exact eH) b2 (fun Y a1 a2 a3 => ?_)
    refine hQ1 n0 H0 f4 Y (fun c hc => by rw [a3 c (by omega), f1 c (by omega)]) (by rw [a3 k (by omega), f1 k (by omega)]) (by rw [a3 (k + 1) (by omega), f1 (k + 1) (by omega)]) (by rw [a3 (k + 2) (by omega), f1 (k + 2) (by omega)]) (by rw [a3 (k + 4) (by omega), f1 (k + 4) (by omega)]) (fun s p hs hp => by rw [a3 (k + 3) (by omega)]; exact f2 s p hs hp) (fun h hh => ?_)
    have := a1 h hh
    rw [f1 (k + 1) (by omega), show k + 1 + 4 = k + 5 by omega, f1 (k + 5) (by omega)] at this
    exact this
  · have hs2 : s < 3 := (nI_ltI (b := 3) (by omega) (by omega)).mp (Int32.not_le.mp c)
    have bit := st_bit t1 t2 s hs2
    have x11 : X k 11 = nI (stb t1 t2) := by rw [f1 k (by omega)]; exact es
    have step : ∀ Y : zMem, (∀ c, c ≠ k + 3 → Y c = M c) → (∀ s' p, s' < s + 1 → p < n → Y (k + 3) (s' * 8 + p) = us k M t1 t2 s' p) → (∀ j, (j < 8 ∨ 8 * (s + 1) ≤ j) → Y (k + 3) j = M (k + 3) j) → wpJ_Reader_isComplete_77 k J Q (nI s) Y := fun Y g1 g2 g3 => by
      unfold wpJ_Reader_isComplete_77
      have yn : Y (k + 1) 0 = nI n := by rw [g1 (k + 1) (by omega)]; exact en
      refine xt_pieceFrom (p := 0) yn b1 hs2 (by omega) ?_
      rw [yn, show k + 1 + 2 = k + 3 by omega, show n - 0 = n by omega]
      have pl := sp_pf_le (fun i => Y (k + 3) (s * 8 + i)) n 0
      have pp := sp_pf_pos (fun i => Y (k + 3) (s * 8 + i)) n 0
      have pa := sp_pf_all (fun i => Y (k + 3) (s * 8 + i)) n 0
      generalize sp_pf (fun i => Y (k + 3) (s * 8 + i)) n 0 = q at pl pp pa
      refine ⟨fun w y ey => ?_, fun w M2 e2 M3 e3 => ⟨zbo_0, ?_⟩⟩
      · have hq : q < n := by
          rcases Nat.lt_or_ge q n with u | u
          · exact u
          · exact absurd (by rw [show q = n by omega]) w
        rw [ey, nI_1]
        refine hJ (3 - (s + 1)) _ _ (by omega) ⟨s + 1, rfl, by omega, rfl, g1, g2, g3, fun s' hs' => ?_⟩
        rcases Nat.lt_or_ge s' s with u | u
        · exact f4 s' u
        · have e : s' = s := by omega
          subst e
          have := pp (by omega)
          rw [g2 s' q (by omega) hq] at this
          exact ⟨q, hq, fun e0 => by rw [e0] at this; exact absurd this (by decide)⟩
      · have hq : q = n := (nI_eq (by omega) (by omega)).mp w
        have yk : Y k = M k := g1 k (by omega)
        refine hQ7 n0 H0 ⟨s, hs2, fun p hp => ?_⟩ M3 ?_ ?_ ?_ ?_
        · have := pa p (by omega) (by omega)
          rw [g2 s p (by omega) hp] at this
          obtain ⟨u, u1, u2⟩ := us_nI d hs2 hp
          rw [u2] at this ⊢
          rcases Nat.eq_zero_or_pos u with v | v
          · rw [v]; rfl
          · exact absurd ((nI_0lt (by omega)).mpr v) this
        · intro c hc
          rw [e3, zup_ne (by omega), e2, zup_ne (by omega)]; exact g1 c (by omega)
        · rw [e3, zup_eq, upd_ne (by omega), e2, zup_eq, upd_eq]
        · rw [e3, zup_eq, upd_eq, yk]; exact h5
        · intro j j1 j2
          rw [e3, zup_eq, upd_ne j2, e2, zup_eq, upd_ne j1, yk]
    have keep : (s = 0 ∨ (s = 1 ∧ t1 = true) ∨ (s = 2 ∧ t2 = true)) → wpJ_Reader_isComplete_77 k J Q (nI s) X := fun hc => step X f1 (fun s' p hs' hp => by
      rcases Nat.lt_or_ge s' s with u | u
      · exact f2 s' p u hp
      · have e : s' = s := by omega
        subst e
        unfold us
        rw [if_pos hc]
        exact f3 _ (by omega)) (fun j hj => f3 j (by omega))
    rw [x11]
    refine ⟨fun w => keep ?_, fun w => ⟨fun v => keep (Or.inl ?_), fun v => ⟨?_, fun Y eY => step Y (fun c hc => ?_) (fun s' p hs' hp => ?_) (fun j hj => ?_)⟩⟩⟩
    · rcases Classical.em ((s = 1 ∧ t1 = true) ∨ (s = 2 ∧ t2 = true)) with u | u
      · exact Or.inr u
      · exact absurd (bit.mpr u) w
    · have := (nI_leI (b := 0) (by omega) (by omega)).mp v
      omega
    · have e8 : nI s * 8 = nI (s * 8) := by rw [show (8 : Int32) = nI 8 from rfl, q_mul]
      rw [e8]
      refine ⟨by decide, nI_pos (by omega), by decide, by decide, ?_⟩
      rw [q_ix (by omega)]
      show s * 8 + ix (nI 8) ≤ 24
      rw [q_ix (by omega)]
      omega
    · rw [eY, zcopy_ne hc]; exact f1 c hc
    · have s0 : s ≠ 0 := fun e => v (by rw [e]; decide)
      have e8 : nI s * 8 = nI (s * 8) := by rw [show (8 : Int32) = nI 8 from rfl, q_mul]
      rw [eY, e8]
      rcases Nat.lt_or_ge s' s with u | u
      · show zcopyM X (k + 3) (k + 3) (nI 0) (nI (s * 8)) (nI 8) (k + 3) (s' * 8 + p) = _
        rw [zcopy_out (by omega) (by omega) (by omega) (by omega)]
        exact f2 s' p u hp
      · have e : s' = s := by omega
        subst e
        show zcopyM X (k + 3) (k + 3) (nI 0) (nI (s' * 8)) (nI 8) (k + 3) (s' * 8 + p) = _
        rw [zcopy_in (by omega) (by omega) (by omega) (by omega) (by omega)]
        unfold us
        rw [if_neg (fun q => q.elim s0 (bit.mp w)), show 0 + (s' * 8 + p - s' * 8) = p by omega]
        exact f3 p (by omega)
    · have s0 : s ≠ 0 := fun e => v (by rw [e]; decide)
      have e8 : nI s * 8 = nI (s * 8) := by rw [show (8 : Int32) = nI 8 from rfl, q_mul]
      rw [eY, e8]
      show zcopyM X (k + 3) (k + 3) (nI 0) (nI (s * 8)) (nI 8) (k + 3) j = _
      rw [zcopy_out (by omega) (by omega) (by omega) (by omega)]
      exact f3 j (by omega)
theorem tk_e_st {T : Nat → Int32} {z q : Nat} (ho : tk_o T z q) (hk : tk_k T z q ≠ 0) : q + 1 ≤ tk_e T z q := by
  have hqz : q < z := by
    unfold tk_k at hk
    split at hk
    · assumption
    · exact absurd rfl hk
  rcases ho with h | h | ⟨h, -⟩ | ⟨h, -⟩
  · exact absurd h hk
  · unfold tk_e; rw [if_neg (by omega), if_neg (by omega), if_pos h]; omega
  · have hl : isL (T q) = true := by
      unfold tk_k at h
      rw [if_pos hqz] at h
      split at h
      · omega
      · split at h
        · assumption
        · split at h <;> omega
    unfold tk_e
    rw [if_pos h, tk_s_go hqz hl]
    exact (tk_s_le _ _).1
  · have hf : isF (T q) = true := by
      unfold tk_k at h
      rw [if_pos hqz] at h
      split at h
      · omega
      · split at h
        · omega
        · split at h
          · assumption
          · omega
    unfold tk_e
    rw [if_neg (by omega), if_pos h, tk_s_go hqz hf]
    exact (tk_s_le _ _).1
theorem tk_k_b {T : Nat → Int32} {z q : Nat} : tk_k T z q ≤ 4 := by
  unfold tk_k
  split
  · split
    · omega
    · split
      · omega
      · split <;> omega
  · omega
theorem tkn_st {k z i : Nat} {M M1 : zMem} (r : rin k z i M) (h : tkn k z M true M1) (h7 : ¬ M1 k 7 = 0) : rin k z (i + 1) M1 := by
  obtain ⟨r1, -⟩ := tkn_in r h
  obtain ⟨p, hp, e6, h⟩ := h
  obtain ⟨r5, rz, p', ⟨hp0, hpz⟩, e6'⟩ := r
  have ep : p' = p := (nI_eq (by omega) (by omega)).mp (e6'.symm.trans e6)
  subst ep
  rcases h with ⟨-, ho, f, a6, a7, -⟩ | ⟨h, -⟩
  · have hk : tk_k (M (k + 6)) z (tk_q (M (k + 6)) z p') ≠ 0 := fun e => h7 (by rw [a7, e]; rfl)
    have hq := tk_q_b (T := M (k + 6)) hp
    have hb := tk_e_b (T := M (k + 6)) hq.2
    have hs := tk_e_st ho hk
    exact ⟨r1.1, rz, _, ⟨by omega, hb.2⟩, a6⟩
  · cases h
theorem tkn_nm {k z : Nat} {M M1 : zMem} (h : tkn k z M true M1) (h7 : M1 k 7 = 1) : ∃ nm, nm < 10 ∧ M1 k 9 = nI nm := by
  obtain ⟨p, hp, e6, h⟩ := h
  rcases h with ⟨-, ho, -, -, a7, -, a9⟩ | ⟨h, -⟩
  · have hk : tk_k (M (k + 6)) z (tk_q (M (k + 6)) z p) = 1 := (nI_eq (by have := tk_k_b (T := M (k + 6)) (z := z) (q := tk_q (M (k + 6)) z p); omega) (by omega)).mp (a7.symm.trans h7)
    have a9 := a9 (Or.inl hk)
    rcases ho with h | h | ⟨-, h⟩ | ⟨h, -⟩
    · omega
    · omega
    · exact ⟨_, h, by rw [a9]; unfold tk_v; rw [if_pos hk]⟩
    · omega
  · cases h
/-- line by line: f lines at most -/
def rAl (k z : Nat) : Nat → zMem → zMem → Prop
  | 0 => fun _ _ => False
  | f + 1 => fun M M' => ∃ b1 M1, tkn k z M b1 M1 ∧ ((b1 = false ∧ M' = M1) ∨ (b1 = true ∧ M1 k 7 = 0 ∧ M' = M1) ∨ (b1 = true ∧ ¬ M1 k 7 = 0 ∧ ∃ n H b2 M2, M1 (k + 1) 0 = nI n ∧ n ≤ 8 ∧ M1 (k + 1) 1 = nI H ∧ H ≤ 5 ∧ rLi k z n H M1 b2 M2 ∧ ((b2 = false ∧ M' = M2) ∨ (b2 = true ∧ rAl k z f M2 M'))))
theorem xt_lines {k z n0 H0 L0 : Nat} {u1 u2 : Bool} {M : zMem} {Q : Int32 → zMem → Prop} (d : DA k z 0 M n0 H0 L0 u1 u2)
    (hQ : ∀ M', rAl k z 401 M M' → (¬ M' k 1 = 0 → Q 0 M') ∧ (M' k 1 = 0 → wp_Reader_isComplete k M' (fun zr12 zm11 => (zr12 = 0 → Q 0 zm11) ∧ (¬ zr12 = 0 → Q 1 zm11)))) : ∃ n, zlp2 (wpB_Reader_readAll_51 k Q) n 1 0 M := by
  refine zlp2_r (fun m x1 x2 M' => ∃ i, x2 = nI i ∧ i ≤ 401 ∧ m = 401 - i ∧ ((x1 = 0 ∧ (¬ M' k 1 = 0 → Q 0 M') ∧ (M' k 1 = 0 → wp_Reader_isComplete k M' (fun zr12 zm11 => (zr12 = 0 → Q 0 zm11) ∧ (¬ zr12 = 0 → Q 1 zm11)))) ∨ (x1 = 1 ∧ (∃ n H L t1 t2, DA k z i M' n H L t1 t2) ∧ ∀ M'', rAl k z (401 - i) M' M'' → (¬ M'' k 1 = 0 → Q 0 M'') ∧ (M'' k 1 = 0 → wp_Reader_isComplete k M'' (fun zr12 zm11 => (zr12 = 0 → Q 0 zm11) ∧ (¬ zr12 = 0 → Q 1 zm11)))))) ?_ (n := 401) ⟨0, rfl, by omega, rfl, Or.inr ⟨rfl, ⟨_, _, _, _, _, d⟩, hQ⟩⟩
  rintro m x1 x2 M' ⟨i, rfl, hi, rfl, hc⟩ J hJ
  unfold wpB_Reader_readAll_51
  rcases hc with ⟨rfl, hq⟩ | ⟨rfl, ⟨n, H, L, t1, t2, da⟩, rQ⟩
  · exact ⟨fun _ => hq, fun _ => ⟨fun _ => hq, fun w => absurd rfl w⟩⟩
  · obtain ⟨r, dw, dn⟩ := da
    have hi2 : i ≤ 400 := by
      obtain ⟨-, rz, p, ⟨h1, h2⟩, -⟩ := r
      omega
    refine ⟨fun c => ?_, fun c => ⟨fun w => absurd w (by decide), fun _ => ?_⟩⟩
    · have := (nI_ltI (a := 400) (by omega) (by omega)).mp c
      omega
    obtain ⟨f, ef⟩ : ∃ f, 401 - i = f + 1 := ⟨400 - i, by omega⟩
    have ef2 : 401 - (i + 1) = f := by omega
    rw [ef] at rQ
    refine xt_tkn r (fun b1 M1 h1 => ?_)
    cases b1 with
    | false =>
      refine ⟨fun _ y ey => ?_, fun w => absurd rfl w⟩
      rw [ey, nI_1]
      exact hJ (401 - (i + 1)) _ _ _ (by omega) ⟨i + 1, rfl, by omega, rfl, Or.inl ⟨rfl, rQ M1 ⟨false, M1, h1, Or.inl ⟨rfl, rfl⟩⟩⟩⟩
    | true =>
      refine ⟨fun w => absurd w (by decide), fun _ => ⟨fun c7 y ey => ?_, fun c7 => ?_⟩⟩
      · rw [ey, nI_1]
        exact hJ (401 - (i + 1)) _ _ _ (by omega) ⟨i + 1, rfl, by omega, rfl, Or.inl ⟨rfl, rQ M1 ⟨true, M1, h1, Or.inr (Or.inl ⟨rfl, c7, rfl⟩)⟩⟩⟩
      · obtain ⟨-, f1⟩ := tkn_in r h1
        have r1 := tkn_st r h1 c7
        have d1 : DA k z (i + 1) M1 n H L t1 t2 := ⟨r1, dw.tk f1, dn.tk f1⟩
        obtain ⟨⟨b1, b2, b3, b4⟩, en, eH, -⟩ := id d1.2.1
        have hnm : ∃ nm, M1 k 7 = 1 → nm < 10 ∧ M1 k 9 = nI nm := by
          by_cases w : M1 k 7 = 1
          · obtain ⟨nm, a, b⟩ := tkn_nm h1 w
            exact ⟨nm, fun _ => ⟨a, b⟩⟩
          · exact ⟨0, fun v => absurd v w⟩
        obtain ⟨nm, hnm⟩ := hnm
        refine xt_line (nm := nm) r1 en b1 eH b2 hnm (fun b2' M2 h2 => ?_)
        cases b2' with
        | false =>
          refine ⟨fun _ y ey => ?_, fun w => absurd rfl w⟩
          rw [ey, nI_1]
          exact hJ (401 - (i + 1)) _ _ _ (by omega) ⟨i + 1, rfl, by omega, rfl, Or.inl ⟨rfl, rQ M2 ⟨true, M1, h1, Or.inr (Or.inr ⟨rfl, c7, n, H, false, M2, en, b1, eH, b2, h2, Or.inl ⟨rfl, rfl⟩⟩)⟩⟩⟩
        | true =>
          refine ⟨fun w => absurd w (by decide), fun _ y ey => ?_⟩
          rw [ey, nI_1]
          exact hJ (401 - (i + 1)) _ _ _ (by omega) ⟨i + 1, rfl, by omega, rfl, Or.inr ⟨rfl, DA_line d1 h2, fun M'' h => rQ M'' ⟨true, M1, h1, Or.inr (Or.inr ⟨rfl, c7, n, H, true, M2, en, b1, eH, b2, h2, Or.inr ⟨rfl, by rw [ef2] at h; exact h⟩⟩)⟩⟩⟩
