/-- what stands behind the first number of a row -/
def rRl (k z : Nat) : Nat → Nat → zMem → Bool → zMem → Prop
  | 0, _ => fun M b M' => (M k 7 = 2 ∧ b = false ∧ M' = rfs k 5 M) ∨ (¬ M k 7 = 2 ∧ rSi k M b M')
  | m + 1, i => fun M b M' => (¬ M k 7 = 2 ∧ rSi k M b M') ∨ (M k 7 = 2 ∧ bnd (rWi k 0 2) (fun M1 => bnd (tkn k z) (rRl k z m (i + 1)) (zup (zup M1 (k + 2) i (M1 k 9)) (k + 1) 6 (nI (i + 1)))) M b M')
def rRo (k z : Nat) : zMem → Bool → zMem → Prop := bnd (rN k z 0 2) (fun M1 => bnd (tkn k z) (rRl k z 5 1) (zup M1 (k + 2) 0 (M1 k 9)))
theorem xt_row {k z p0 : Nat} {M : zMem} {Q : Int32 → zMem → Prop} (r : rin k z p0 M) (hQ : ∀ b M', rRo k z M b M' → Q (b2i b) M') : wp_Reader_readRow k M Q := by
  refine xt_number r (fun b1 M1 r1 => ?_)
  cases b1 with
  | false => exact ⟨fun w => absurd rfl w, fun _ => hQ false M1 ⟨false, M1, r1, Or.inl ⟨rfl, rfl, rfl⟩⟩⟩
  | true =>
    obtain ⟨s1, f1, -⟩ := rN_in r r1
    refine ⟨fun _ => ⟨vp_in_nI (n := 0) (by omega) (by omega), fun M3 e3 => ?_⟩, fun w => absurd w (by decide)⟩
    have e3' : M3 = zup M1 (k + 2) 0 (M1 k 9) := e3
    have s3 : rin k z p0 M3 := by
      unfold rin
      rw [e3', zup_ne (by omega)]; exact s1
    have hQ3 : ∀ b M', bnd (tkn k z) (rRl k z 5 1) M3 b M' → Q (b2i b) M' := fun b M' h => hQ b M' ⟨true, M1, r1, Or.inr ⟨rfl, by
      show bnd (tkn k z) (rRl k z 5 1) (zup M1 (k + 2) 0 (M1 k 9)) b M'
      rw [← e3']; exact h⟩⟩
    refine xt_tkn s3 (fun b4 M4 r4 => ?_)
    have fin : ∀ (M' : zMem), (∀ b M'', rSi k M' b M'' → Q (b2i b) M'') → wp_Reader_isSign k M' (fun zr18 zm17 => (zr18 = 0 → Q 0 zm17) ∧ (¬ zr18 = 0 → Q 1 zm17)) := fun M' h => xt_isSign (fun b M'' hs => by
      have q := h b M'' hs
      cases b with
      | false => exact ⟨fun _ => q, fun w => absurd rfl w⟩
      | true => exact ⟨fun w => absurd w (by decide), fun _ => q⟩)
    refine zlp2_r (fun m x1 x2 M' => ∃ i, x2 = nI i ∧ 1 ≤ i ∧ i ≤ 6 ∧ m = 6 - i ∧ ((x1 = 0 ∧ Q 0 M') ∨ (x1 = 1 ∧ rin k z p0 M' ∧ ∀ b M'', rRl k z (6 - i) i M' b M'' → Q (b2i b) M''))) ?_ (n := 5) ⟨1, rfl, by omega, by omega, rfl, ?_⟩
    · rintro m x1 x2 M' ⟨i, rfl, hi1, hi, rfl, hc⟩ J hJ
      unfold wpB_Reader_readRow_31 wpJ_Reader_readRow_94
      rcases hc with ⟨rfl, hq⟩ | ⟨rfl, ri, rQ⟩
      · exact ⟨fun _ => ⟨fun _ => ⟨fun _ => hq, fun w => absurd rfl w⟩, fun w => absurd rfl w⟩, fun _ => ⟨fun _ => ⟨fun _ => ⟨fun _ => hq, fun w => absurd rfl w⟩, fun w => absurd rfl w⟩, fun w => absurd rfl w⟩⟩
      · refine ⟨fun c => ⟨fun w => absurd w (by decide), fun _ => ?_⟩, fun c => ⟨fun w => absurd w (by decide), fun _ => ⟨fun d => ⟨fun w => absurd w (by decide), fun _ => ⟨fun _ => ⟨fun w => absurd w (by decide), fun _ => fin M' (fun b M'' h => ?_)⟩, fun w => absurd w d⟩⟩, fun d => ?_⟩⟩⟩
        · have := (nI_leI (a := 6) (by omega) (by omega)).mp c
          rw [show 6 - i = 0 by omega] at rQ
          exact ⟨fun d => ⟨fun w => absurd w (by decide), fun _ => fin M' (fun b M'' h => rQ b M'' (Or.inr ⟨d, h⟩))⟩, fun d => e_refuse ⟨zbo_0, rQ false _ (Or.inl ⟨d, rfl, rfl⟩)⟩⟩
        · rcases Nat.lt_or_ge i 6 with u | u
          · obtain ⟨m, em⟩ : ∃ m, 6 - i = m + 1 := ⟨6 - i - 1, by omega⟩
            rw [em] at rQ
            exact rQ b M'' (Or.inl ⟨d, h⟩)
          · exact absurd ((nI_leI (a := 6) (by omega) (by omega)).mpr u) c
        · have hi6 : i < 6 := (nI_ltI (b := 6) (by omega) (by omega)).mp (Int32.not_le.mp c)
          obtain ⟨m, em⟩ : ∃ m, 6 - i = m + 1 := ⟨6 - i - 1, by omega⟩
          rw [em] at rQ
          refine xt_within (fun b6 M6 r6 => ?_)
          cases b6 with
          | false => exact ⟨fun w => absurd rfl w, fun _ => rQ false M6 (Or.inr ⟨d, false, M6, r6, Or.inl ⟨rfl, rfl, rfl⟩⟩)⟩
          | true =>
            have e6 : M6 = M' := by
              rcases r6 with ⟨-, h, -⟩ | ⟨-, -, -, h⟩
              · cases h
              · exact h
            rw [q_ix (by omega)]
            refine ⟨fun _ => ⟨vp_in_nI (by omega) (by omega), fun M8 e8 M9 e9 => ?_⟩, fun w => absurd w (by decide)⟩
            rw [nI_1] at e9
            have e9' : M9 = zup (zup M6 (k + 2) i (M6 k 9)) (k + 1) 6 (nI (i + 1)) := by rw [e9, e8]
            have s9 : rin k z p0 M9 := by
              unfold rin
              rw [e9', zup_ne (by omega), zup_ne (by omega), e6]; exact ri
            refine xt_tkn s9 (fun b10 M10 r10 y ey => ?_)
            rw [ey, nI_1]
            refine hJ (6 - (i + 1)) _ _ _ (by omega) ⟨i + 1, rfl, by omega, by omega, rfl, ?_⟩
            cases b10 with
            | false => exact Or.inl ⟨rfl, rQ false M10 (Or.inr ⟨d, true, M6, r6, Or.inr ⟨rfl, by dsimp only; rw [← e9']; exact ⟨false, M10, r10, Or.inl ⟨rfl, rfl, rfl⟩⟩⟩⟩)⟩
            | true => exact Or.inr ⟨rfl, (tkn_in s9 r10).1, fun b M'' h => rQ b M'' (Or.inr ⟨d, true, M6, r6, Or.inr ⟨rfl, by dsimp only; rw [← e9']; exact ⟨true, M10, r10, Or.inr ⟨rfl, by rw [show m = 6 - (i + 1) by omega]; exact h⟩⟩⟩⟩)⟩
    · cases b4 with
      | false => exact Or.inl ⟨rfl, hQ3 false M4 ⟨false, M4, r4, Or.inl ⟨rfl, rfl, rfl⟩⟩⟩
      | true => exact Or.inr ⟨rfl, (tkn_in s3 r4).1, fun b M'' h => hQ3 b M'' ⟨true, M4, r4, Or.inr ⟨rfl, h⟩⟩⟩
/-- ends -/
def rEn (k z n : Nat) : Nat → Nat → Int32 → zMem → Bool → zMem → Prop
  | 0, _, _ => rS k z
  | m + 1, h, lo => bnd (rN k z lo (nI n)) (fun M1 => rEn k z n m (h + 1) (M1 k 9) (zup M1 (k + 5) h (M1 k 9)))
def rEs (k z n H : Nat) (rule : Int32) (M : zMem) (b : Bool) (M' : zMem) : Prop := rEn k z n (H - 1) 0 1 (zup (zup (zup M k 12 1) k 13 1) (k + 1) 4 rule) b M'
theorem xt_ends {k z p0 n H : Nat} {rule : Int32} {M : zMem} {Q : Int32 → zMem → Prop} (r : rin k z p0 M) (hn : M (k + 1) 0 = nI n) (n8 : n ≤ 8) (hH : M (k + 1) 1 = nI H) (H5 : H ≤ 5) (hQ : ∀ b M', rEs k z n H rule M b M' → Q (b2i b) M') : wp_Reader_readEnds k rule M Q := by
  intro M1 e1 M2 e2 M3 e3
  have e3' : M3 = zup (zup (zup M k 12 1) k 13 1) (k + 1) 4 rule := by rw [e3, e2, e1]
  have s3 : rin k z p0 M3 := by
    unfold rin
    rw [e3', zup_ne (by omega), zup_eq, upd_ne (by omega), upd_ne (by omega), zup_eq, upd_ne (by omega), upd_ne (by omega)]; exact r
  have n3 : M3 (k + 1) 0 = nI n := by rw [e3', zup_eq, upd_ne (by omega), zup_ne (by omega), zup_ne (by omega)]; exact hn
  have H3 : M3 (k + 1) 1 = nI H := by rw [e3', zup_eq, upd_ne (by omega), zup_ne (by omega), zup_ne (by omega)]; exact hH
  have hQ3 : ∀ b M', rEn k z n (H - 1) 0 1 M3 b M' → Q (b2i b) M' := fun b M' h => hQ b M' (by unfold rEs; rw [← e3']; exact h)
  refine zlp2_r (fun m x2 x3 M' => ∃ i, x3 = nI i ∧ i ≤ H ∧ m = H - i ∧ rin k z p0 M' ∧ M' (k + 1) 0 = nI n ∧ M' (k + 1) 1 = nI H ∧ ∀ b M'', rEn k z n (H - 1 - i) i x2 M' b M'' → Q (b2i b) M'') ?_ (n := H) ⟨0, rfl, by omega, rfl, s3, n3, H3, hQ3⟩
  rintro m x2 x3 M' ⟨i, rfl, hi, rfl, ri, rn, rH, rQ⟩ J hJ
  unfold wpB_Reader_readEnds_22
  rw [rn, rH]
  refine ⟨fun c => ?_, fun c => ?_⟩
  · have : H - 1 ≤ i := by
      rcases Nat.eq_zero_or_pos H with h0 | h0
      · omega
      · have e : nI H - 1 = nI (H - 1) := q_sub h0
        rw [e] at c
        exact (nI_leI (by omega) (by omega)).mp c
    rw [show H - 1 - i = 0 by omega] at rQ
    exact xt_sign ri (fun b M'' h => ⟨b2i_bo b, rQ b M'' h⟩)
  · have hi2 : i < H - 1 := by
      rcases Nat.eq_zero_or_pos H with h0 | h0
      · subst h0
        exact absurd (show nI 0 - 1 ≤ nI i from Int32.le_trans (show nI 0 - 1 ≤ 0 by decide) (nI_pos' (by omega))) c
      · have e : nI H - 1 = nI (H - 1) := q_sub h0
        rw [e] at c
        exact (nI_ltI (by omega) (by omega)).mp (Int32.not_le.mp c)
    obtain ⟨m, em⟩ : ∃ m, H - 1 - i = m + 1 := ⟨H - 1 - i - 1, by omega⟩
    rw [em] at rQ
    refine xt_number ri (fun b1 M8 r8 => ?_)
    cases b1 with
    | false => exact ⟨fun w => absurd rfl w, fun _ => rQ false M8 ⟨false, M8, r8, Or.inl ⟨rfl, rfl, rfl⟩⟩⟩
    | true =>
      obtain ⟨s8, f8, -⟩ := rN_in ri r8
      rw [q_ix (by omega)]
      refine ⟨fun _ x8 ex8 => ⟨vp_in_nI (by omega) (by omega), fun Ma ea y ey => ?_⟩, fun w => absurd w (by decide)⟩
      rw [ey, nI_1]
      refine hJ (H - (i + 1)) _ _ _ (by omega) ⟨i + 1, rfl, by omega, rfl, ?_, ?_, ?_, fun b M'' h => rQ b M'' ⟨true, M8, r8, Or.inr ⟨rfl, ?_⟩⟩⟩
      · unfold rin
        rw [ea, zup_ne (by omega)]; exact s8
      · rw [ea, zup_ne (by omega), f8.1 (k + 1) (by omega)]; exact rn
      · rw [ea, zup_ne (by omega), f8.1 (k + 1) (by omega)]; exact rH
      · show rEn k z n m (i + 1) (M8 k 9) (zup M8 (k + 5) i (M8 k 9)) b M''
        rw [← ea, show m = H - 1 - (i + 1) by omega, ← ex8]; exact h
/-- a line, its name read -/
def rLn (k z n H : Nat) (nm : Nat) : zMem → Bool → zMem → Prop := match nm with
  | 0 => rPi k z
  | 1 => rWh k z
  | 2 => rSo k z n
  | 3 => bnd (rOc k 3) (rRo k z)
  | 4 => rHa k z n H
  | 5 => bnd (rOc k 5) (rOn k z 2 5)
  | 6 => bnd (rOc k 6) (rOn k z 3 99)
  | 7 => bnd (rOc k 7) (rS k z)
  | 8 => bnd (rOc k 7) (rEs k z n H 1)
  | _ => bnd (rOc k 7) (rEs k z n H 2)
def rLi (k z n H : Nat) (M : zMem) (b : Bool) (M' : zMem) : Prop := (¬ M k 7 = 1 ∧ b = false ∧ M' = rfs k 2 M) ∨ (M k 7 = 1 ∧ ∃ nm, nm < 10 ∧ M k 9 = nI nm ∧ rLn k z n H nm (zup M k 3 (M k 3 + 1)) b M')
theorem xt_2 {k z p0 : Nat} {a : Int32} {M : zMem} {A : zMem → Bool → zMem → Prop} {X : zMem → (Int32 → zMem → Prop) → Prop} {Q : Int32 → zMem → Prop} (r : rin k z p0 M) (hX : ∀ M1 (Q1 : Int32 → zMem → Prop), rin k z p0 M1 → M1 (k + 1) = M (k + 1) → (∀ b M', A M1 b M' → Q1 (b2i b) M') → X M1 Q1) (hQ : ∀ b M', bnd (rOc k a) A M b M' → Q (b2i b) M') : wp_Reader_readOnce k a M (fun zr10 zm9 => (zr10 = 0 → Q 0 zm9) ∧ (¬ zr10 = 0 → X zm9 (fun zr12 zm11 => (zr12 = 0 → Q 0 zm11) ∧ (¬ zr12 = 0 → Q 1 zm11)))) := by
  refine xt_once (fun b1 M1 r1 => ?_)
  cases b1 with
  | false => exact ⟨fun _ => hQ false M1 ⟨false, M1, r1, Or.inl ⟨rfl, rfl, rfl⟩⟩, fun w => absurd rfl w⟩
  | true =>
    obtain ⟨s1, e1⟩ := rOc_in r r1
    refine ⟨fun w => absurd w (by decide), fun _ => hX M1 _ s1 (by rw [e1, zup_ne (by omega)]) (fun b M' h => ?_)⟩
    have q := hQ b M' ⟨true, M1, r1, Or.inr ⟨rfl, h⟩⟩
    cases b with
    | false => exact ⟨fun _ => q, fun w => absurd rfl w⟩
    | true => exact ⟨fun w => absurd w (by decide), fun _ => q⟩
theorem xt_line {k z p0 n H nm : Nat} {M : zMem} {Q : Int32 → zMem → Prop} (r : rin k z p0 M) (hn : M (k + 1) 0 = nI n) (n8 : n ≤ 8) (hH : M (k + 1) 1 = nI H) (H5 : H ≤ 5) (h7 : M k 7 = 1 → nm < 10 ∧ M k 9 = nI nm) (hQ : ∀ b M', rLi k z n H M b M' → Q (b2i b) M') : wp_Reader_readLine k M Q := by
  refine ⟨fun c M1 e1 x ex => ?_, fun c => e_refuse ⟨zbo_0, hQ false _ (Or.inl ⟨c, rfl, rfl⟩)⟩⟩
  obtain ⟨hnm, e9⟩ := h7 c
  have s1 : rin k z p0 M1 := by
    unfold rin
    rw [e1, zup_eq, upd_ne (by omega), upd_ne (by omega)]; exact r
  have n1 : M1 (k + 1) 0 = nI n := by rw [e1, zup_ne (by omega)]; exact hn
  have H1 : M1 (k + 1) 1 = nI H := by rw [e1, zup_ne (by omega)]; exact hH
  have e91 : M1 k 9 = nI nm := by rw [e1, zup_eq, upd_ne (by omega)]; exact e9
  rw [e91] at ex
  have hQ1 : ∀ b M', rLn k z n H nm M1 b M' → Q (b2i b) M' := fun b M' h => hQ b M' (Or.inr ⟨c, nm, hnm, e9, by rw [← e1]; exact h⟩)
  have ne : ∀ j, j < 10 → x = nI j → nm = j := fun j hj w => (nI_eq (by omega) (by omega)).mp (ex.symm.trans w)
  refine ⟨fun w => ?_, fun w => ?_, fun w => ?_, fun w => ?_, fun w => ?_, fun w => ?_, fun w => ?_, fun w => ?_, fun w => ?_, fun w => ?_, fun w0 w1 w2 w3 w4 w5 w6 w7 w8 w9 => ?_⟩
  · have := ne 0 (by omega) w
    subst this
    exact xt_piece s1 n1 n8 (fun b M' h => ⟨b2i_bo b, hQ1 b M' h⟩)
  · have := ne 1 (by omega) w
    subst this
    exact xt_whole s1 (fun b M' h => ⟨b2i_bo b, hQ1 b M' h⟩)
  · have := ne 2 (by omega) w
    subst this
    exact xt_sort s1 n1 n8 (fun b M' h => ⟨b2i_bo b, hQ1 b M' h⟩)
  · have := ne 3 (by omega) w
    subst this
    exact xt_2 (X := wp_Reader_readRow k) s1 (fun M2 Q1 s2 _ h => xt_row s2 h) hQ1
  · have := ne 4 (by omega) w
    subst this
    exact xt_handL s1 n1 n8 H1 H5 (fun b M' h => ⟨b2i_bo b, hQ1 b M' h⟩)
  · have := ne 5 (by omega) w
    subst this
    exact xt_2 (X := wp_Reader_readWalk k) s1 (fun M2 Q1 s2 _ h => xt_walk s2 h) hQ1
  · have := ne 6 (by omega) w
    subst this
    exact xt_2 (X := wp_Reader_readLearn k) s1 (fun M2 Q1 s2 _ h => xt_learn s2 h) hQ1
  · have := ne 7 (by omega) w
    subst this
    exact xt_2 (X := wp_Reader_readSign k) s1 (fun M2 Q1 s2 _ h => xt_sign s2 h) hQ1
  · have := ne 8 (by omega) w
    subst this
    exact xt_2 (X := wp_Reader_readEnds k 1) s1 (fun M2 Q1 s2 e2 h => xt_ends s2 (by rw [e2]; exact n1) n8 (by rw [e2]; exact H1) H5 h) hQ1
  · have := ne 9 (by omega) w
    subst this
    exact xt_2 (X := wp_Reader_readEnds k 2) s1 (fun M2 Q1 s2 e2 h => xt_ends s2 (by rw [e2]; exact n1) n8 (by rw [e2]; exact H1) H5 h) hQ1
  · rcases (show nm = 0 ∨ nm = 1 ∨ nm = 2 ∨ nm = 3 ∨ nm = 4 ∨ nm = 5 ∨ nm = 6 ∨ nm = 7 ∨ nm = 8 ∨ nm = 9 by omega) with rfl | rfl | rfl | rfl | rfl | rfl | rfl | rfl | rfl | rfl
    · exact absurd ex w0
    · exact absurd ex w1
    · exact absurd ex w2
    · exact absurd ex w3
    · exact absurd ex w4
    · exact absurd ex w5
    · exact absurd ex w6
    · exact absurd ex w7
    · exact absurd ex w8
    · exact absurd ex w9
