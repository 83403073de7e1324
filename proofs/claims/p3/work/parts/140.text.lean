theorem xt_text0 {M : zMem} {Q : Int32 → zMem → Prop} (e50 : M 11 5 = 0) (hQ : ∀ M', (∀ k, (k < 11 ∨ 14 ≤ k) → M' k = M k) → M' 11 1 = 6 → M' 11 5 = 0 → Q (-10) M') : wp_Main_text M Q := by
  unfold wp_Main_text wp_Reader_readAll wp_Told_clear
  intro m1 f1 m2 f2 m3 f3 m4 f4 m5 f5 m6 f6 m7 f7 m8 f8 n1 g1 n2 g2 n3 g3 n4 g4 n5 g5 n6 g6 n7 g7
  refine ⟨vp_in_nI (n := 0) (by omega) (by omega), fun A gA => ?_⟩
  have a11 : A 11 = m8 11 := by rw [gA, zup_ne (by omega), g7, zup_ne (by omega), g6, zup_ne (by omega), g5, zup_ne (by omega), g4, zup_ne (by omega), g3, zup_ne (by omega), g2, zup_ne (by omega), g1, zup_ne (by omega)]
  have a12 : A (11 + 1) 0 = 0 := by
    rw [gA, zup_ne (by omega), g7, g6, g5, g4, g3, g2, g1]
    simp (disch := omega) only [zup_eq, upd_ne, upd_eq]
  have ak : ∀ k, (k < 11 ∨ 14 ≤ k) → A k = M k := fun k hk => by
    rw [gA, zup_ne (by omega), g7, zup_ne (by omega), g6, zup_ne (by omega), g5, zup_ne (by omega), g4, zup_ne (by omega), g3, zup_ne (by omega), g2, zup_ne (by omega), g1, zup_ne (by omega), f8, zup_ne (by omega), f7, zup_ne (by omega), f6, zup_ne (by omega), f5, zup_ne (by omega), f4, zup_ne (by omega), f3, zup_ne (by omega), f2, zup_ne (by omega), f1, zup_ne (by omega)]
  have x5 : A 11 5 = 0 := by
    rw [a11, f8, f7, f6, f5, f4, f3, f2, f1]
    simp (disch := omega) only [zup_eq, upd_ne, upd_eq]
    exact e50
  have x6 : A 11 6 = 0 := by
    rw [a11, f8, f7, f6, f5, f4, f3, f2, f1]
    simp (disch := omega) only [zup_eq, upd_ne, upd_eq]
  have x1 : A 11 1 = 0 := by
    rw [a11, f8, f7, f6, f5, f4, f3, f2, f1]
    simp (disch := omega) only [zup_eq, upd_ne, upd_eq]
  clear gA g7 g6 g5 g4 g3 g2 g1 f8 f7 f6 f5 f4 f3 f2 f1
  generalize eB : zup (zup A 11 8 (A 11 6)) 11 7 0 = B
  have b11 : ∀ j, j ≠ 7 → j ≠ 8 → B 11 j = A 11 j := fun j h1 h2 => by rw [← eB]; simp (disch := omega) only [zup_eq, upd_ne]
  have b7 : B 11 7 = 0 := by rw [← eB]; simp (disch := omega) only [zup_eq, upd_eq]
  have bk : ∀ k, k ≠ 11 → B k = A k := fun k hk => by rw [← eB, zup_ne hk, zup_ne hk]
  refine zlp2_r (fun m x y M' => (m = 1 ∧ x = 1 ∧ y = 0 ∧ M' = A) ∨ (m = 0 ∧ x = 0 ∧ y = 1 ∧ M' = B)) ?_ (n := 1) (Or.inl ⟨rfl, rfl, rfl, rfl⟩)
  rintro m x y M' h J hJ
  rcases h with ⟨rfl, rfl, rfl, eA⟩ | ⟨rfl, rfl, rfl, eB2⟩
  · rw [eA]
    refine ⟨fun q => absurd q (by decide), fun _ => ⟨fun q => absurd q (by decide), fun _ => ?_⟩⟩
    refine zlp0_r (fun m M2 => M2 = A ∧ m = 0) ?_ (n := 0) ⟨rfl, rfl⟩
    rintro m M2 ⟨em, -⟩ J' hJ'
    rw [em]
    refine ⟨fun _ => ?_, fun q => absurd (by rw [x5, x6]; exact Int32.le_refl 0) q⟩
    intro M5 e5
    have y5 : M5 11 5 = 0 := by rw [e5, zup_eq, upd_ne (by omega)]; exact x5
    have y6 : M5 11 6 = 0 := by rw [e5, zup_eq, upd_ne (by omega)]; exact x6
    refine ⟨fun q => absurd (show M5 11 6 < M5 11 5 from q) (by rw [y5, y6]; decide), fun _ M6 e6 => ?_⟩
    have eM6 : M6 = B := by rw [e6, e5]; exact eB
    rw [eM6]
    refine ⟨fun q => absurd q (by decide), fun _ => ⟨fun _ v ev => ?_, fun q => absurd b7 q⟩⟩
    exact hJ 0 _ _ _ (by omega) (Or.inr ⟨rfl, rfl, by rw [ev]; rfl, rfl⟩)
  · rw [eB2]
    refine ⟨fun q => absurd q (by decide), fun _ => ⟨fun _ => ⟨fun q => absurd (by rw [b11 1 (by omega) (by omega)]; exact x1) q, fun _ => ?_⟩, fun q => absurd rfl q⟩⟩
    refine ⟨fun _ => ?_, fun q => absurd (by rw [bk (11 + 1) (by omega)]; exact a12) q⟩
    intro M2 e2 M3 e3
    have z5 : B 11 5 = 0 := by rw [b11 5 (by omega) (by omega)]; exact x5
    refine ⟨Or.inl rfl, fun _ => ?_, fun q => absurd rfl q⟩
    intro M4 e4
    refine ⟨fun q => absurd rfl q, fun _ => ?_⟩
    have w2 : M4 11 2 = 0 := by
      rw [e4, e3]
      simp (disch := omega) only [zup_eq, upd_ne, upd_eq]
      exact z5
    rw [w2]
    refine hQ M4 (fun k hk => ?_) ?_ ?_
    · rw [e4, zup_ne (by omega), e3, zup_ne (by omega), e2, zup_ne (by omega), bk k (by omega)]; exact ak k hk
    · rw [e4, e3, e2]
      simp (disch := omega) only [zup_eq, upd_ne, upd_eq]
    · rw [e4, zup_eq, upd_eq]
theorem mw_text0 {W : zMem} {Q : Int32 → zMem → Prop} (e1 : W 0 1 = 0) (hQ : ∀ W', (∀ k, k ≠ 0 → k ≠ 5 → W' k = W k) → W' 0 1 = 0 → W' 0 2 = 6 → (∀ j, 9 ≤ j → j ≠ 13 → j ≠ 14 → j ≠ 15 → W' 0 j = W 0 j) → Q (-10) W') : wp_Model_text W Q := by
  intro m1 f1 m2 f2 m3 f3 m4 f4 m5 f5
  have k5 : ∀ k, k ≠ 0 → m5 k = W k := fun k hk => by rw [f5, zup_ne hk, f4, zup_ne hk, f3, zup_ne hk, f2, zup_ne hk, f1, zup_ne hk]
  have o5 : m5 0 3 = 0 ∧ m5 0 5 = 0 ∧ m5 0 1 = 0 := by
    rw [f5, f4, f3, f2, f1]
    simp (disch := omega) only [zup_eq, upd_ne, upd_eq]
    exact ⟨trivial, trivial, e1⟩
  have j5 : ∀ j, 9 ≤ j → j ≠ 13 → j ≠ 14 → j ≠ 15 → m5 0 j = W 0 j := fun j h1 h2 h3 h4 => by
    rw [f5, f4, f3, f2, f1]
    simp (disch := omega) only [zup_eq, upd_ne]
  clear f5 f4 f3 f2 f1
  refine zlp1_r (fun m x W' => ∃ h, x = nI h ∧ h ≤ 100 ∧ m = 100 - h ∧ (0 < h → W' 5 0 = 0) ∧ (∀ k, k ≠ 5 → W' k = m5 k)) ?_ (n := 100) ⟨0, rfl, by omega, rfl, fun q => absurd q (by omega), fun _ _ => rfl⟩
  rintro m x W1 ⟨h, rfl, hh, rfl, i1, i2⟩ J hJ
  refine ⟨fun c => ?_, fun c => ?_⟩
  · have := (nI_leI (a := 100) (by omega) (by omega)).mp c
    have p0 := i1 (by omega)
    have q0 : W1 0 = m5 0 := i2 0 (by omega)
    refine ⟨fun _ => ?_, fun q => absurd (by rw [q0, o5.1]; exact Int32.le_refl 0) q⟩
    refine zlp0_r (fun m M' => M' = W1 ∧ m = 0) ?_ (n := 0) ⟨rfl, rfl⟩
    rintro m M' ⟨em, -⟩ J' hJ'
    rw [em]
    have le1 : W1 0 1 ≤ W1 0 5 := by rw [q0, o5.2.2, o5.2.1]; exact Int32.le_refl 0
    refine ⟨fun _ => ⟨fun _ => ?_, fun q => absurd q (by decide)⟩, fun q => absurd le1 q⟩
    intro W2 w2
    have le2 : W2 0 1 ≤ W2 0 5 := by rw [w2, zup_eq, upd_ne (by omega), upd_ne (by omega)]; exact le1
    refine ⟨fun _ W3 w3 => ⟨fun q => absurd rfl q, fun _ W4 w4 => ?_⟩, fun q => absurd le2 q⟩
    have v0 : ∀ j, j ≠ 6 → j ≠ 7 → j ≠ 8 → W4 0 j = m5 0 j := fun j h6 h7 h8 => by
      rw [w4, w3, w2]
      simp (disch := omega) only [zup_eq, upd_ne]
      rw [q0]
    have v7 : W4 0 7 = 0 := by rw [w4, zup_eq, upd_eq]
    have vk : ∀ k, k ≠ 0 → W4 k = W1 k := fun k hk => by rw [w4, zup_ne hk, w3, zup_ne hk, w2, zup_ne hk]
    refine zlp1_r (fun m x W' => x = 0 ∧ W' = W4 ∧ m = 0) ?_ (n := 0) ⟨rfl, rfl, rfl⟩
    rintro m x W' ⟨ex, ew, -⟩ J2 hJ2
    rw [ex, ew]
    refine ⟨fun q => absurd (by rw [v0 3 (by omega) (by omega) (by omega)]; exact o5.1) q, fun _ => ⟨fun _ => ?_, fun q => absurd v7 q⟩⟩
    refine ⟨fun q => absurd (by rw [v0 3 (by omega) (by omega) (by omega)]; exact o5.1) q, fun _ W5 w5 => ?_⟩
    have p5 : W5 5 0 = 0 := by rw [w5, zup_ne (by omega), vk 5 (by omega)]; exact p0
    have t3 : W5 0 3 = 0 := by rw [w5, zup_eq, upd_ne (by omega), v0 3 (by omega) (by omega) (by omega)]; exact o5.1
    have t1 : W4 0 1 = 0 := by rw [v0 1 (by omega) (by omega) (by omega)]; exact o5.2.2
    refine ⟨vp_in_nI (n := 0) (by omega) (by omega), fun _ => ⟨fun q => absurd q (by decide), fun _ => ?_⟩, fun q => absurd p5 q⟩
    refine ⟨fun q => absurd t3 q, fun _ W6 w6 W7 w7 => ?_⟩
    intro W8 w8 W9 w9
    have u3 : W9 0 3 = 6 := by
      rw [w9, w8, w7, w6]
      simp (disch := omega) only [zup_eq, upd_ne, upd_eq]
    have u4 : W9 0 4 = 0 := by
      rw [w9, w8, w7, w6, w5]
      simp (disch := omega) only [zup_eq, upd_ne, upd_eq]
      exact t1
    refine ⟨fun q => absurd q (by rw [u3]; decide), fun _ => ?_⟩
    rw [u4]
    refine hQ W9 (fun k h0 h5 => ?_) ?_ ?_ (fun j h9 h13 h14 h15 => ?_)
    · rw [w9, zup_ne h0, w8, zup_ne h0, w7, zup_ne h0, w6, zup_ne h0, w5, zup_ne h0, vk k h0, i2 k h5, k5 k h0]
    · rw [w9, w8]
      simp (disch := omega) only [zup_eq, upd_ne, upd_eq]
    · rw [w9, w8, w7, w6]
      simp (disch := omega) only [zup_eq, upd_ne, upd_eq]
    · rw [w9, w8, w7, w6, w5]
      simp (disch := omega) only [zup_eq, upd_ne]
      rw [v0 j (by omega) (by omega) (by omega)]
      exact j5 j h9 h13 h14 h15
  · have hh2 : h < 100 := (nI_ltI (b := 100) (by omega) (by omega)).mp (Int32.not_le.mp c)
    rw [q_ix (by omega)]
    refine ⟨fun d => ⟨vp_in_nI (by omega) (by omega), fun W2 w2 y ey => ?_⟩, fun d => ⟨vp_in_nI (by omega) (by omega), fun W2 w2 y ey => ?_⟩⟩
    all_goals
      rw [ey, nI_1]
      refine hJ (100 - (h + 1)) _ _ (by omega) ⟨h + 1, rfl, by omega, rfl, fun _ => ?_, fun k hk => by rw [w2, zup_ne hk]; exact i2 k hk⟩
    · rw [w2, zup_eq]
      by_cases z : h = 0
      · rw [z, upd_eq]
      · rw [upd_ne (by omega)]; exact i1 (by omega)
    · have z : h = 6 := (nI_eq (b := 6) (by omega) (by omega)).mp d
      rw [w2, zup_eq, upd_ne (by omega)]; exact i1 (by omega)
