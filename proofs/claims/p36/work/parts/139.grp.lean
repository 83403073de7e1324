theorem sub_le {y H z : Nat} (hy : y < 2147483648) (hH : H ≤ 5) (hz : z ≤ 5) : nI y ≤ nI H - nI z ↔ y + z ≤ H := by
  by_cases c : z ≤ H
  · rw [q_sub c, nI_leI hy (by omega)]
    omega
  · have e : nI H - nI z = -nI (z - H) := by
      rcases (show H = 0 ∨ H = 1 ∨ H = 2 ∨ H = 3 ∨ H = 4 by omega) with rfl | rfl | rfl | rfl | rfl <;> rcases (show z = 0 ∨ z = 1 ∨ z = 2 ∨ z = 3 ∨ z = 4 ∨ z = 5 by omega) with rfl | rfl | rfl | rfl | rfl | rfl <;> first | decide | omega
    rw [e, q_nle (by omega) (by omega) hy]
    exact ⟨fun h => h.elim, fun h => absurd h (by omega)⟩
theorem mw_read0 {n H L i l y z : Nat} {a3 : Int32} {M W : zMem} {Q : Int32 → zMem → Prop} (vt : sp_vt M 1 n H L) (r : rt0 W M n H L) (st : pst W M n H L) (hi : i < 4) (hl : l < 3) (hy : y < 2147483648) (hz : z ≤ 5) (hs : W 16 i = -4)
    (h0 : ¬ y + z ≤ H → Q (-1) W) (h1 : y + z ≤ H → ∀ W1, W1 0 24 = 1 → pr W1 M n H → awf W W1 → Q 0 (zup W1 0 39 (if z = 0 then 0 else 1))) : wp_Model_read (nI i) (nI l) a3 (nI y) (nI z) W Q := by
  obtain ⟨⟨n1, n8, H1, H5, L1, L6⟩, hn, hH, -⟩ := id vt
  refine in_yes (hi := 3) rfl (by omega) (by omega) ⟨fun q => absurd q (by decide), fun _ => in_yes (hi := 2) rfl (by omega) (by omega) ⟨fun q => absurd q (by decide), fun _ => ⟨fun q => absurd q (nI_pos hy), fun _ => ?_⟩⟩⟩
  refine in_yes (hi := 5) rfl (by omega) (by omega) ⟨fun q => absurd q (by decide), fun _ => ⟨vp_in_nI (n := 1) (by omega) (by omega), ?_⟩⟩
  rw [show ix 1 = 1 from rfl, r.2.1, q_l64 hy, q_l64 (by omega), q_l64 (by omega), lN_add]
  refine ⟨fun c => ?_, fun c => h0 (fun q => c (Eq.mpr (cmp_le (y + z) H (by omega) (by omega)) q))⟩
  have hle := Eq.mp (cmp_le (y + z) H (by omega) (by omega)) c
  refine mt_awake vt r st (fun W1 h24 hp f => ?_)
  have w40 : W1 4 0 = nI n := by rw [f.1 4 (by omega) (by omega) (by omega) (by omega)]; exact r.1
  have w16 : W1 16 i = -4 := by rw [f.1 16 (by omega) (by omega) (by omega) (by omega)]; exact hs
  have last : ∀ x, Q 0 (zup W1 0 39 x) → ∃ k, zlp1 (wpB_Model_read_234 (nI i) (nI l) a3 (nI y) (nI z) x 0 Q) k 0 W1 := by
    intro x hx
    refine zlp1_r (fun m x W' => x = 0 ∧ W' = W1 ∧ m = 0) ?_ (n := 0) ⟨rfl, rfl, rfl⟩
    rintro m x' W' ⟨rfl, rfl, rfl⟩ J hJ
    refine ⟨vp_in_nI (n := 0) (by omega) (by omega), fun _ W2 e2 => by rw [e2]; exact hx, fun c => ?_⟩
    rw [show ix 0 = 0 from rfl, w40, Int32.mul_zero] at c
    exact absurd (Int32.le_refl 0) c
  refine zlp4_r (fun m x6 x7 x8 x9 W' => W' = W1 ∧ x7 = 0 ∧ ((m = 1 ∧ x6 = 0 ∧ x8 = 1 ∧ x9 = 0) ∨ (m = 0 ∧ x6 = 1 ∧ z ≠ 0))) ?_ (n := 1) ⟨rfl, rfl, Or.inl ⟨rfl, rfl, rfl, rfl⟩⟩
  rintro m x6 x7 x8 x9 W' ⟨rfl, rfl, hx⟩ J hJ
  refine ⟨vp_in_nI (n := 0) (by omega) (by omega), ?_⟩
  rw [show ix 0 = 0 from rfl, w40, q_mul]
  rcases hx with ⟨rfl, rfl, rfl, rfl⟩ | ⟨rfl, rfl, hz0⟩
  · refine ⟨fun c => ?_, fun c => ⟨fun q => absurd rfl q, fun _ => ⟨vp_in_nI (by omega) (by omega), ?_⟩⟩⟩
    · have hnz : n * z ≤ 8 * 5 := Nat.mul_le_mul n8 hz
      have c' := (nI_leI (b := 0) (by omega) (by omega)).mp c
      have z0 : z = 0 := by
        rcases Nat.eq_zero_or_pos z with q | q
        · exact q
        · have := Nat.mul_le_mul n1 q
          omega
      refine last 0 ?_
      have := h1 hle _ h24 hp f
      rw [if_pos z0] at this
      exact this
    · rw [q_ix (by omega)]
      refine ⟨fun q => absurd w16 q, fun _ => ⟨fun _ x ex => ?_, fun q => absurd q (by decide)⟩⟩
      refine hJ 0 _ _ _ _ _ (by omega) ⟨rfl, rfl, Or.inr ⟨rfl, rfl, fun z0 => c ?_⟩⟩
      rw [z0, Nat.mul_zero]
      exact Int32.le_refl _
  · have k : ∃ k, zlp1 (wpB_Model_read_234 (nI i) (nI l) a3 (nI y) (nI z) 1 0 Q) k 0 W' := last 1 (by
      have := h1 hle _ h24 hp f
      rw [if_neg hz0] at this
      exact this)
    exact ⟨fun _ => k, fun _ => ⟨fun _ => k, fun q => absurd q (by decide)⟩⟩
theorem p_read0 {n H L : Nat} {M W : zMem} {a1 a2 a3 a4 a5 : Int32} {P : zMem → zMem → Prop} (vt : sp_vt M 1 n H L) (r : rt0 W M n H L) (st : pst W M n H L) (hs : ∀ i, i < 4 → M (81 + 2 * i) 0 = -1 ∧ W 16 i = -4) (h81 : ∀ i, i < 4 → M (81 + 2 * i) 1 = 0) (hP0 : P M W)
    (hP : ∀ x W1, W1 0 24 = 1 → pr W1 M n H → awf W W1 → (x = 0 ∨ x = 1) → P (zup M 0 13 x) (zup W1 0 39 x)) : wp_Main_read a1 a2 a3 a4 a5 M (fun x M' => wp_Model_read a1 a2 a3 a4 a5 W (fun y W' => x = y ∧ P M' W')) := by
  obtain ⟨⟨n1, n8, H1, H5, L1, L6⟩, hn, hH, -⟩ := id vt
  refine xt_isSheet (fun i hi ei => ⟨fun q => absurd q (by decide), fun _ => ?_⟩) (fun nh => ⟨fun _ => in_no (hi := 3) rfl nh ⟨fun _ => ⟨rfl, hP0⟩, fun q => absurd rfl q⟩, fun q => absurd rfl q⟩)
  subst ei
  refine xt_isLane (fun l hl el => ⟨fun q => absurd q (by decide), fun _ => ?_⟩) (fun nh => ⟨fun _ => in_yes (hi := 3) rfl (by omega) (by omega) ⟨fun q => absurd q (by decide), fun _ => in_no (hi := 2) rfl nh ⟨fun _ => ⟨rfl, hP0⟩, fun q => absurd rfl q⟩⟩, fun q => absurd rfl q⟩)
  subst el
  refine ⟨fun c => ?_, fun c => ?_⟩
  · exact in_yes (hi := 3) rfl (by omega) (by omega) ⟨fun q => absurd q (by decide), fun _ => in_yes (hi := 2) rfl (by omega) (by omega) ⟨fun q => absurd q (by decide), fun _ => ⟨fun _ => ⟨rfl, hP0⟩, fun q => absurd c q⟩⟩⟩
  obtain ⟨y, hy, rfl⟩ := nI_of c
  have bad : ¬ (0 ≤ a5 ∧ a5 ≤ 5) → wp_Model_read (nI i) (nI l) a3 (nI y) a5 W (fun v W' => -1 = v ∧ P M W') := fun nh => in_yes (hi := 3) rfl (by omega) (by omega) ⟨fun q => absurd q (by decide), fun _ => in_yes (hi := 2) rfl (by omega) (by omega) ⟨fun q => absurd q (by decide), fun _ => ⟨fun q => absurd q c, fun _ => in_no (hi := 5) rfl nh ⟨fun _ => ⟨rfl, hP0⟩, fun q => absurd rfl q⟩⟩⟩⟩
  refine ⟨fun c2 => bad (fun q => absurd c2 (Int32.not_lt.mpr q.1)), fun c2 => ⟨fun c3 => bad (fun q => absurd c3 (Int32.not_lt.mpr q.2)), fun c3 => ?_⟩⟩
  obtain ⟨z, hz, rfl⟩ := nI_of2 (x := a5) (M := 5) (n := 5) rfl c2 (Int32.not_lt.mp c3)
  rw [hH, q_ix (by omega)]
  have run : ∀ x : Int32, y + z ≤ H → (x = if z = 0 then 0 else 1) → ∃ k, zlp1 (wpB_Main_read_116 (nI i) (nI l) a3 (nI y) (nI z) (81 + 2 * i) x 0 (fun (zm12 : zMem) => ∃ n : Nat, zlp1 (wpB_Main_read_159 (nI i) (nI l) a3 (nI y) (nI z) (81 + 2 * i) x 0 (fun x M' => wp_Model_read (nI i) (nI l) a3 (nI y) (nI z) W (fun y W' => x = y ∧ P M' W'))) n 0 zm12) (fun x M' => wp_Model_read (nI i) (nI l) a3 (nI y) (nI z) W (fun y W' => x = y ∧ P M' W'))) k 0 M := by
    intro x hle hx
    refine zlp1_r (fun m x M' => x = 0 ∧ M' = M ∧ m = 0) ?_ (n := 0) ⟨rfl, rfl, rfl⟩
    rintro m x' M' ⟨rfl, rfl, rfl⟩ J hJ
    refine ⟨fun _ => ?_, fun q => absurd (Int32.le_refl 0) q⟩
    refine zlp1_r (fun m x M'' => x = 0 ∧ M'' = M' ∧ m = 0) ?_ (n := 0) ⟨rfl, rfl, rfl⟩
    rintro m x' M'' ⟨rfl, rfl, rfl⟩ J hJ
    refine ⟨fun _ M1 e1 => ⟨fun _ => ?_, fun q => absurd (Int32.le_refl 0) q⟩, fun q => absurd (Int32.le_refl 0) q⟩
    refine mw_read0 vt r st hi hl hy hz (hs i hi).2 (fun q => absurd hle q) (fun _ W1 h24 hp f => ⟨rfl, ?_⟩)
    rw [e1, ← hx]
    refine hP x W1 h24 hp f ?_
    by_cases z0 : z = 0
    · rw [if_pos z0] at hx; exact Or.inl hx
    · rw [if_neg z0] at hx; exact Or.inr hx
  refine ⟨fun c4 => ⟨vp_in_nI (by omega) (by omega), fun c5 => ?_, fun c5 => ?_⟩, fun c4 => ?_⟩
  · have hle := (sub_le (by omega) H5 hz).mp c4
    have z0 : z ≠ 0 := fun q => c5 (by rw [q]; rfl)
    unfold wp_Sheet_faultAs
    refine ⟨fun q => absurd (hs i hi).1 q, fun _ => ?_⟩
    refine ⟨fun q => absurd q (by decide), fun _ => ⟨fun _ => run 1 hle (by rw [if_neg z0]), fun q => absurd q (by decide)⟩⟩
  · have hle := (sub_le (by omega) H5 hz).mp c4
    have z0 : z = 0 := (nI_eq (b := 0) (by omega) (by omega)).mp c5
    refine ⟨fun _ => ?_, fun q => absurd rfl q⟩
    unfold wp_Sheet_wholeRows
    rw [h81 i hi]
    have r0 := run 0 hle (by rw [if_pos z0])
    have z0' : nI z ≤ 0 := by rw [z0]; exact Int32.le_refl 0
    refine ⟨fun _ => ?_, fun d => ⟨fun _ => ?_, fun d2 => absurd (Int32.not_lt.mp d) d2⟩⟩
    · exact ⟨fun q => absurd rfl q, fun _ => ⟨fun _ => r0, fun q => absurd z0' q⟩⟩
    · exact ⟨fun q => absurd rfl q, fun _ => ⟨fun _ => r0, fun q => absurd z0' q⟩⟩
  · exact mw_read0 vt r st hi hl hy hz (hs i hi).2 (fun _ => ⟨rfl, hP0⟩) (fun q => absurd ((sub_le (by omega) H5 hz).mpr q) c4)
theorem xt_text0 {M : zMem} {Q : Int32 → zMem → Prop} (e50 : M 11 5 = 0) (hQ : ∀ M', (∀ k, (k < 11 ∨ 14 ≤ k) → M' k = M k) → M' 11 1 = 6 → M' 11 5 = 0 → Q (-10) M') : wp_Main_text M Q := by
  unfold wp_Main_text wp_Reader_readAll wp_Told_clear
  intro m1 f1 m2 f2 m3 f3 m4 f4 m5 f5 m6 f6 m7 f7 m8 f8 n1 g1 n2 g2 n3 g3 n4 g4 n5 g5 n6 g6 n7 g7
  refine ⟨vp_in_nI (n := 0) (by omega) (by omega), fun A gA => ?_⟩
  have a11 : A 11 = m8 11 := by rw [gA, zup_ne (by omega), g7, zup_ne (by omega), g6, zup_ne (by omega), g5, zup_ne (by omega), g4, zup_ne (by omega), g3, zup_ne (by omega), g2, zup_ne (by omega), g1, zup_ne (by omega)]
  have a12 : A (11 + 1) 0 = 0 := by
    rw [gA, zup_ne (by omega), g7, g6, g5, g4, g3, g2, g1]
    simp (disch := omega) only [zup_eq, upd_ne, upd_eq]
  have ak : ∀ k, (k < 11 ∨ 14 ≤ k) → A k = M k := fun k hk => by
    rw [gA, zup_ne (by omega), g7, zup_ne (by omega), g6, zup_ne (by omega), g5, zup_ne (by omega), g4, zup_ne (by omega), g3, zup_ne (by omega), g2, zup_ne (by omega), g1, zup_ne (by omega), f8, zup_ne (by omega), f7, zup_ne (by omega), f6, zup_ne (by omega), f5, zup_ne (by omega), f4, zup_ne (by omega), f3, zup_ne (by omega), f2, zup_ne (by omega), f1, zup_ne (by omega)]
  have x5 : A 11 5 = 0 := by
    rw [a11, f8, f7, f6, f5, f4, f3, f2, f1]
    simp (disch := omega) only [zup_eq, upd_ne, upd_eq]
    exact e50
  have x6 : A 11 6 = 0 := by
    rw [a11, f8, f7, f6, f5, f4, f3, f2, f1]
    simp (disch := omega) only [zup_eq, upd_ne, upd_eq]
  have x1 : A 11 1 = 0 := by
    rw [a11, f8, f7, f6, f5, f4, f3, f2, f1]
    simp (disch := omega) only [zup_eq, upd_ne, upd_eq]
  clear gA g7 g6 g5 g4 g3 g2 g1 f8 f7 f6 f5 f4 f3 f2 f1
  generalize eB : zup (zup A 11 8 (A 11 6)) 11 7 0 = B
  have b11 : ∀ j, j ≠ 7 → j ≠ 8 → B 11 j = A 11 j := fun j h1 h2 => by rw [← eB]; simp (disch := omega) only [zup_eq, upd_ne]
  have b7 : B 11 7 = 0 := by rw [← eB]; simp (disch := omega) only [zup_eq, upd_eq]
  have bk : ∀ k, k ≠ 11 → B k = A k := fun k hk => by rw [← eB, zup_ne hk, zup_ne hk]
  refine zlp2_r (fun m x y M' => (m = 1 ∧ x = 1 ∧ y = 0 ∧ M' = A) ∨ (m = 0 ∧ x = 0 ∧ y = 1 ∧ M' = B)) ?_ (n := 1) (Or.inl ⟨rfl, rfl, rfl, rfl⟩)
  rintro m x y M' h J hJ
  rcases h with ⟨rfl, rfl, rfl, eA⟩ | ⟨rfl, rfl, rfl, eB2⟩
  · rw [eA]
    refine ⟨fun q => absurd q (by decide), fun _ => ⟨fun q => absurd q (by decide), fun _ => ?_⟩⟩
    refine zlp0_r (fun m M2 => M2 = A ∧ m = 0) ?_ (n := 0) ⟨rfl, rfl⟩
    rintro m M2 ⟨em, -⟩ J' hJ'
    rw [em]
    refine ⟨fun _ => ?_, fun q => absurd (by rw [x5, x6]; exact Int32.le_refl 0) q⟩
    intro M5 e5
    have y5 : M5 11 5 = 0 := by rw [e5, zup_eq, upd_ne (by omega)]; exact x5
    have y6 : M5 11 6 = 0 := by rw [e5, zup_eq, upd_ne (by omega)]; exact x6
    refine ⟨fun q => absurd (show M5 11 6 < M5 11 5 from q) (by rw [y5, y6]; decide), fun _ M6 e6 => ?_⟩
    have eM6 : M6 = B := by rw [e6, e5]; exact eB
    rw [eM6]
    refine ⟨fun q => absurd q (by decide), fun _ => ⟨fun _ v ev => ?_, fun q => absurd b7 q⟩⟩
    exact hJ 0 _ _ _ (by omega) (Or.inr ⟨rfl, rfl, by rw [ev]; rfl, rfl⟩)
  · rw [eB2]
    refine ⟨fun q => absurd q (by decide), fun _ => ⟨fun _ => ⟨fun q => absurd (by rw [b11 1 (by omega) (by omega)]; exact x1) q, fun _ => ?_⟩, fun q => absurd rfl q⟩⟩
    refine ⟨fun _ => ?_, fun q => absurd (by rw [bk (11 + 1) (by omega)]; exact a12) q⟩
    intro M2 e2 M3 e3
    have z5 : B 11 5 = 0 := by rw [b11 5 (by omega) (by omega)]; exact x5
    refine ⟨Or.inl rfl, fun _ => ?_, fun q => absurd rfl q⟩
    intro M4 e4
    refine ⟨fun q => absurd rfl q, fun _ => ?_⟩
    have w2 : M4 11 2 = 0 := by
      rw [e4, e3]
      simp (disch := omega) only [zup_eq, upd_ne, upd_eq]
      exact z5
    rw [w2]
    refine hQ M4 (fun k hk => ?_) ?_ ?_
    · rw [e4, zup_ne (by omega), e3, zup_ne (by omega), e2, zup_ne (by omega), bk k (by omega)]; exact ak k hk
    · rw [e4, e3, e2]
      simp (disch := omega) only [zup_eq, upd_ne, upd_eq]
    · rw [e4, zup_eq, upd_eq]
theorem mw_text0 {W : zMem} {Q : Int32 → zMem → Prop} (e1 : W 0 1 = 0) (hQ : ∀ W', (∀ k, k ≠ 0 → k ≠ 5 → W' k = W k) → W' 0 1 = 0 → W' 0 2 = 6 → (∀ j, 9 ≤ j → j ≠ 13 → j ≠ 14 → j ≠ 15 → W' 0 j = W 0 j) → Q (-10) W') : wp_Model_text W Q := by
  intro m1 f1 m2 f2 m3 f3 m4 f4 m5 f5
  have k5 : ∀ k, k ≠ 0 → m5 k = W k := fun k hk => by rw [f5, zup_ne hk, f4, zup_ne hk, f3, zup_ne hk, f2, zup_ne hk, f1, zup_ne hk]
  have o5 : m5 0 3 = 0 ∧ m5 0 5 = 0 ∧ m5 0 1 = 0 := by
    rw [f5, f4, f3, f2, f1]
    simp (disch := omega) only [zup_eq, upd_ne, upd_eq]
    exact ⟨trivial, trivial, e1⟩
  have j5 : ∀ j, 9 ≤ j → j ≠ 13 → j ≠ 14 → j ≠ 15 → m5 0 j = W 0 j := fun j h1 h2 h3 h4 => by
    rw [f5, f4, f3, f2, f1]
    simp (disch := omega) only [zup_eq, upd_ne]
  clear f5 f4 f3 f2 f1
  refine zlp1_r (fun m x W' => ∃ h, x = nI h ∧ h ≤ 100 ∧ m = 100 - h ∧ (0 < h → W' 5 0 = 0) ∧ (∀ k, k ≠ 5 → W' k = m5 k)) ?_ (n := 100) ⟨0, rfl, by omega, rfl, fun q => absurd q (by omega), fun _ _ => rfl⟩
  rintro m x W1 ⟨h, rfl, hh, rfl, i1, i2⟩ J hJ
  refine ⟨fun c => ?_, fun c => ?_⟩
  · have := (nI_leI (a := 100) (by omega) (by omega)).mp c
    have p0 := i1 (by omega)
    have q0 : W1 0 = m5 0 := i2 0 (by omega)
    refine ⟨fun _ => ?_, fun q => absurd (by rw [q0, o5.1]; exact Int32.le_refl 0) q⟩
    refine zlp0_r (fun m M' => M' = W1 ∧ m = 0) ?_ (n := 0) ⟨rfl, rfl⟩
    rintro m M' ⟨em, -⟩ J' hJ'
    rw [em]
    have le1 : W1 0 1 ≤ W1 0 5 := by rw [q0, o5.2.2, o5.2.1]; exact Int32.le_refl 0
    refine ⟨fun _ => ⟨fun _ => ?_, fun q => absurd q (by decide)⟩, fun q => absurd le1 q⟩
    intro W2 w2
    have le2 : W2 0 1 ≤ W2 0 5 := by rw [w2, zup_eq, upd_ne (by omega), upd_ne (by omega)]; exact le1
    refine ⟨fun _ W3 w3 => ⟨fun q => absurd rfl q, fun _ W4 w4 => ?_⟩, fun q => absurd le2 q⟩
    have v0 : ∀ j, j ≠ 6 → j ≠ 7 → j ≠ 8 → W4 0 j = m5 0 j := fun j h6 h7 h8 => by
      rw [w4, w3, w2]
      simp (disch := omega) only [zup_eq, upd_ne]
      rw [q0]
    have v7 : W4 0 7 = 0 := by rw [w4, zup_eq, upd_eq]
    have vk : ∀ k, k ≠ 0 → W4 k = W1 k := fun k hk => by rw [w4, zup_ne hk, w3, zup_ne hk, w2, zup_ne hk]
    refine zlp1_r (fun m x W' => x = 0 ∧ W' = W4 ∧ m = 0) ?_ (n := 0) ⟨rfl, rfl, rfl⟩
    rintro m x W' ⟨ex, ew, -⟩ J2 hJ2
    rw [ex, ew]
    refine ⟨fun q => absurd (by rw [v0 3 (by omega) (by omega) (by omega)]; exact o5.1) q, fun _ => ⟨fun _ => ?_, fun q => absurd v7 q⟩⟩
    refine ⟨fun q => absurd (by rw [v0 3 (by omega) (by omega) (by omega)]; exact o5.1) q, fun _ W5 w5 => ?_⟩
    have p5 : W5 5 0 = 0 := by rw [w5, zup_ne (by omega), vk 5 (by omega)]; exact p0
    have t3 : W5 0 3 = 0 := by rw [w5, zup_eq, upd_ne (by omega), v0 3 (by omega) (by omega) (by omega)]; exact o5.1
    have t1 : W4 0 1 = 0 := by rw [v0 1 (by omega) (by omega) (by omega)]; exact o5.2.2
    refine ⟨vp_in_nI (n := 0) (by omega) (by omega), fun _ => ⟨fun q => absurd q (by decide), fun _ => ?_⟩, fun q => absurd p5 q⟩
    refine ⟨fun q => absurd t3 q, fun _ W6 w6 W7 w7 => ?_⟩
    intro W8 w8 W9 w9
    have u3 : W9 0 3 = 6 := by
      rw [w9, w8, w7, w6]
      simp (disch := omega) only [zup_eq, upd_ne, upd_eq]
    have u4 : W9 0 4 = 0 := by
      rw [w9, w8, w7, w6, w5]
      simp (disch := omega) only [zup_eq, upd_ne, upd_eq]
      exact t1
    refine ⟨fun q => absurd q (by rw [u3]; decide), fun _ => ?_⟩
    rw [u4]
    refine hQ W9 (fun k h0 h5 => ?_) ?_ ?_ (fun j h9 h13 h14 h15 => ?_)
    · rw [w9, zup_ne h0, w8, zup_ne h0, w7, zup_ne h0, w6, zup_ne h0, w5, zup_ne h0, vk k h0, i2 k h5, k5 k h0]
    · rw [w9, w8]
      simp (disch := omega) only [zup_eq, upd_ne, upd_eq]
    · rw [w9, w8, w7, w6]
      simp (disch := omega) only [zup_eq, upd_ne, upd_eq]
    · rw [w9, w8, w7, w6, w5]
      simp (disch := omega) only [zup_eq, upd_ne]
      rw [v0 j (by omega) (by omega) (by omega)]
      exact j5 j h9 h13 h14 h15
  · have hh2 : h < 100 := (nI_ltI (b := 100) (by omega) (by omega)).mp (Int32.not_le.mp c)
    rw [q_ix (by omega)]
    refine ⟨fun d => ⟨vp_in_nI (by omega) (by omega), fun W2 w2 y ey => ?_⟩, fun d => ⟨vp_in_nI (by omega) (by omega), fun W2 w2 y ey => ?_⟩⟩
    all_goals
      rw [ey, nI_1]
      refine hJ (100 - (h + 1)) _ _ (by omega) ⟨h + 1, rfl, by omega, rfl, fun _ => ?_, fun k hk => by rw [w2, zup_ne hk]; exact i2 k hk⟩
    · rw [w2, zup_eq]
      by_cases z : h = 0
      · rw [z, upd_eq]
      · rw [upd_ne (by omega)]; exact i1 (by omega)
    · have z : h = 6 := (nI_eq (b := 6) (by omega) (by omega)).mp d
      rw [w2, zup_eq, upd_ne (by omega)]; exact i1 (by omega)
noncomputable def sp_gd (H l : Nat) (M : zMem) : Nat := if ix (sp_least (M 20) H 0 0) ≤ l then ix (sp_least (M 20) H 0 0) else l
/-- the bench after l ticks -/
noncomputable def sp_go (H : Nat) : Nat → Nat → zMem → zMem
  | 0, _, M => M
  | f + 1, l, M => if l = 0 then M else sp_go H f (l - sp_gd H l M) (sp_all 1 18 H (sp_pass 18 H (nI (sp_gd H l M)) M))
theorem sp_go_0 (H f : Nat) (M : zMem) : sp_go H f 0 M = M := by cases f <;> simp [sp_go]
theorem sp_gd_ok {n H L l : Nat} {M : zMem} (bs : bst M n H L) (hl : 0 < l) (hl2 : l < 2147483648) : ∃ j, 0 < j ∧ j < 2147483648 ∧ sp_least (M 20) H 0 0 = nI j ∧ (sp_gd H l M = if j ≤ l then j else l) ∧ 0 < sp_gd H l M ∧ sp_gd H l M ≤ l ∧ sp_can_pass M 18 H (nI (sp_gd H l M)) := by
  have h0 : 0 < sp_least (M 20) H 0 0 := sp_nstuck bs.1 bs.2
  obtain ⟨c1, c2, c3⟩ := sp_can_least bs.1 bs.2
  obtain ⟨j, hj, ej⟩ := nI_of (x := sp_least (M 20) H 0 0) (fun q => absurd (Int32.lt_trans h0 q) (Int32.lt_irrefl))
  have hj0 : 0 < j := by rw [ej] at h0; exact (nI_0lt (by omega)).mp h0
  have eg : sp_gd H l M = if j ≤ l then j else l := by unfold sp_gd; rw [ej, q_ix (by omega)]
  have g1 : 0 < sp_gd H l M := by rw [eg]; split <;> omega
  have g2 : sp_gd H l M ≤ l := by rw [eg]; split <;> omega
  have g3 : sp_gd H l M ≤ j := by rw [eg]; split <;> omega
  refine ⟨j, hj0, by omega, ej, eg, g1, g2, (nI_0lt (by omega)).mpr g1, c2, fun h hh hp => ?_⟩
  have c3' : nI j ≤ M (18 + 2) h := by rw [← ej]; exact c3 h hh hp
  exact Int32.le_trans ((nI_leI (by omega) (by omega)).mpr g3) c3'
theorem bst_step {n H L : Nat} {d : Int32} {M : zMem} (bs : bst M n H L) (hc : sp_can_pass M 18 H d) : bst (sp_all 1 18 H (sp_pass 18 H d M)) n H L ∧ (∀ k, (k < 18 ∨ 27 ≤ k) → sp_all 1 18 H (sp_pass 18 H d M) k = M k) ∧ sp_all 1 18 H (sp_pass 18 H d M) 18 0 = M 18 0 := by
  have ok1 := sp_pass_ok bs.1 hc
  obtain ⟨ok2, fr2, hs2⟩ := sp_all_ok ok1
  obtain ⟨f1, f2, f3, f4, f5⟩ := sp_pass_fr (b := 18) (H := H) (d := d) (M := M)
  exact ⟨⟨ok2, hs2⟩, fun k hk => by rw [fr2.1 k (by omega) (fun q => absurd q (by omega))]; exact f5 k (by omega), by rw [fr2.2]; exact f1.2⟩
theorem sp_go_ok {n H L : Nat} : ∀ f l M, l ≤ f → l < 2147483648 → bst M n H L → bst (sp_go H f l M) n H L ∧ (∀ k, (k < 18 ∨ 27 ≤ k) → sp_go H f l M k = M k) ∧ sp_go H f l M 18 0 = M 18 0 := by
  intro f
  induction f with
  | zero => intro l M _ _ bs; exact ⟨bs, fun _ _ => rfl, rfl⟩
  | succ f ih =>
    intro l M hf hl bs
    unfold sp_go
    split
    · exact ⟨bs, fun _ _ => rfl, rfl⟩
    · rename_i c
      obtain ⟨j, -, -, -, -, g1, g2, g3⟩ := sp_gd_ok bs (by omega) hl
      obtain ⟨s1, s2, s3⟩ := bst_step bs g3
      obtain ⟨t1, t2, t3⟩ := ih (l - sp_gd H l M) _ (by omega) (by omega) s1
      exact ⟨t1, fun k hk => (t2 k hk).trans (s2 k hk), t3.trans s3⟩
theorem xt_go {n H L a : Nat} {M : zMem} {Q : Int32 → zMem → Prop} (bs : bst M n H L) (h1 : 1 ≤ a) (h2 : a ≤ 9999) (hQ : Q (sp_go H a a M 18 3 - M 18 3) (sp_go H a a M)) : wp_Main_go (nI a) M Q := by
  refine ⟨fun c => absurd ((nI_ltI (b := 1) (by omega) (by omega)).mp c) (by omega), fun _ => ⟨fun _ x ex => ?_, fun c => absurd ((nI_leI (b := 9999) (by omega) (by omega)).mpr h2) c⟩⟩
  refine zlp2_r (fun m x3 x4 M' => ∃ l c, x3 = nI l ∧ x4 = nI c ∧ l ≤ m ∧ c + l ≤ a ∧ bst M' n H L ∧ sp_go H m l M' = sp_go H a a M) ?_ (n := a) ⟨a, 0, rfl, rfl, Nat.le_refl _, by omega, bs, rfl⟩
  rintro m x3 x4 M' ⟨l, c, rfl, rfl, hl, hcl, bs', er⟩ J hJ
  have fin : l = 0 → Q (M' 18 3 - x) M' := fun z => by
    rw [z, sp_go_0] at er
    rw [ex, er]
    exact hQ
  refine ⟨fun d => fin ?_, fun d => ⟨fun d2 => fin ?_, fun d2 => ?_⟩⟩
  · have := (nI_leI (by omega) (by omega)).mp d
    omega
  · have := (nI_leI (b := 0) (by omega) (by omega)).mp d2
    omega
  · have hl0 : 0 < l := (nI_0lt (by omega)).mp (Int32.not_le.mp d2)
    obtain ⟨j, j0, j1, ej, eg, g1, g2, g3⟩ := sp_gd_ok bs' hl0 (by omega)
    obtain ⟨s1, s2, s3⟩ := bst_step bs' g3
    obtain ⟨m', rfl⟩ : ∃ m', m = m' + 1 := ⟨m - 1, by omega⟩
    have stp : wpJ_Main_go_63 (nI a) J Q x (nI l) (nI c) (nI (sp_gd H l M')) M' := by
      refine xt_pass bs'.1 g3 (xt_doAll (sp_pass_ok bs'.1 g3) ?_)
      intro y ey v ev
      rw [ey, ev, q_sub g2, nI_1]
      refine hJ m' _ _ _ (by omega) ⟨l - sp_gd H l M', c + 1, rfl, rfl, by omega, by omega, s1, ?_⟩
      rw [← er]
      show _ = sp_go H (m' + 1) l M'
      rw [sp_go, if_neg (by omega)]
    refine xt_least bs'.1 ⟨fun q => ?_, fun q => ⟨fun q2 => ?_, fun q2 => ?_⟩⟩
    · have e2 : sp_least (M' (18 + 2)) H 0 0 = nI j := ej
      rw [e2] at q
      have := (nI_eq (b := 0) (by omega) (by omega)).mp q
      omega
    · have e2 : sp_least (M' (18 + 2)) H 0 0 = nI j := ej
      rw [e2] at q2 ⊢
      have hle := (nI_leI (by omega) (by omega)).mp q2
      rw [eg, if_pos hle] at stp
      exact stp
    · have e2 : sp_least (M' (18 + 2)) H 0 0 = nI j := ej
      rw [e2] at q2
      have hle : ¬ j ≤ l := fun z => q2 ((nI_leI (by omega) (by omega)).mpr z)
      rw [eg, if_neg hle] at stp
      exact stp
theorem mfp.a {W W' : zMem} (h : mfp 0 W W') : awf W W' := ⟨fun k _ b _ _ => by
  by_cases z : k = 11
  · rw [z]; exact h.2.2.1 (by omega)
  · exact h.1 k b z, fun j _ _ _ => by rw [h.1 0 (by omega) (by omega)], fun j hj => h.2.1 j (by omega)⟩
theorem mw_go {n H L a : Nat} {M W : zMem} {Q : Int32 → zMem → Prop} (vt : sp_vt M 1 n H L) (r : rt0 W M n H L) (st : pst W M n H L) (bs : bst M n H L) (h1 : 1 ≤ a) (h2 : a ≤ 9999) (hQ : ∀ W', W' 0 24 = 1 → pr W' (sp_go H a a M) n H → awf W W' → Q (sp_go H a a M 18 3 - M 18 3) W') : wp_Model_go (nI a) W Q := by
  have H5 : H ≤ 5 := vt.1.2.2.2.1
  refine mt_in (lo' := 1) (hi' := 9999) rfl rfl (fun _ _ => ⟨fun _ => ?_, fun q => absurd q (by decide)⟩) (fun q => absurd ⟨(nI_leI (a := 1) (by omega) (by omega)).mpr h1, (nI_leI (b := 9999) (by omega) (by omega)).mpr h2⟩ q)
  refine mt_awake vt r st (fun W1 h24 hp f1 => ?_)
  have r1 : rt0 W1 M n H L := r.moved (f1.1 4 (by omega) (by omega) (by omega) (by omega)) (fun _ _ => rfl)
  refine mt_asNumbered vt r1 (fun W2 m2 => ?_)
  have n8 : n ≤ 8 := vt.1.2.1
  have x6 : W2 6 = W1 6 := m2.2.2.2.2 6 (by omega) (by omega) (by omega)
  have p2 : pr W2 M n H := hp.moved H5 n8 (fun j _ => by rw [x6])
  have r2 : rt0 W2 M n H L := r1.moved (m2.2.2.2.2 4 (by omega) (by omega) (by omega)) (fun _ _ => rfl)
  have mr2 : mr W2 M 0 1 18 n H L (fun h => h) := p2.mr H5 r2 m2.1 m2.2.1 m2.2.2.1
  have h24b : W2 0 24 = 1 := by rw [m2.2.2.2.1 24 (by omega) (by omega)]; exact h24
  show wp_Model_of 0 (nI 1) W2 _
  refine mw_of (by omega) ?_
  have ed : W2 6 1 = M 18 3 := p2.1.2.1
  rw [ed]
  refine zlp1_r (fun m x W' => ∃ l M', x = nI l ∧ l ≤ a ∧ l ≤ m ∧ bst M' n H L ∧ sp_go H m l M' = sp_go H a a M ∧ mr W' M' 0 1 18 n H L (fun h => h) ∧ W' 6 3 = 0 ∧ (∀ h, H ≤ h → h < 5 → W' 6 (8 + 8 * h + 2) = 0) ∧ W' 0 24 = 1 ∧ W' 0 18 = nI H ∧ awf W2 W') ?_ (n := a) ⟨a, M, rfl, Nat.le_refl _, Nat.le_refl _, bs, rfl, mr2, p2.2.2.2.2.1, p2.2.2.2.2.2, h24b, m2.1, awf.rf⟩
  rintro m x W' ⟨l, M', rfl, hla, hl, bs', er, mr', z3, zu, w24, w18, fw⟩ J hJ
  refine ⟨fun d => ?_, fun d => ?_⟩
  · have hl0 := (nI_leI (b := 0) (by omega) (by omega)).mp d
    have z : l = 0 := by omega
    rw [z, sp_go_0] at er
    show wp_Model_of 0 (nI 1) W' _
    refine mw_of (by omega) ?_
    have pp := mr'.pr z3 zu
    rw [pp.1.2.1, er]
    exact hQ W' w24 (by rw [← er]; exact pp) (f1.tr (m2.a.tr fw))
  · have hl0 : 0 < l := (nI_0lt (by omega)).mp (Int32.not_le.mp d)
    obtain ⟨j, j0, j1, ej, eg, g1, g2, g3⟩ := sp_gd_ok bs' hl0 (by omega)
    obtain ⟨s1, s2, s3⟩ := bst_step bs' g3
    obtain ⟨m', rfl⟩ : ∃ m', m = m' + 1 := ⟨m - 1, by omega⟩
    have stp : wpJ_Model_go_59 (nI a) J Q (M 18 3) (nI l) (nI (sp_gd H l M')) W' := by
      show wp_Model_pass (nI 0) _ W' _
      refine mt_pass bs'.1 mr' (fun q => absurd q (by omega)) g3 (fun W3 r3 _ f3 => ?_)
      show wp_Model_settle (nI 0) W3 _
      refine mt_settle (C := 40) (by omega) (sp_pass_ok bs'.1 g3) r3 (fun q => absurd q (by omega)) (fun W4 r4 f4 _ z4 => ?_)
      intro y ey
      rw [ey, q_sub g2]
      have k0 : ∀ j, W4 0 j = W' 0 j := fun j => by rw [f4.1 0 (by omega) (by omega), f3.1 0 (by omega) (by omega)]
      refine hJ m' _ _ (by omega) ⟨l - sp_gd H l M', _, rfl, by omega, by omega, s1, ?_, r4, z4, fun h a1 a2 => ?_, by rw [k0]; exact w24, by rw [k0]; exact w18, fw.tr (f3.a.tr f4.a)⟩
      · rw [← er]
        show _ = sp_go H (m' + 1) l M'
        rw [sp_go, if_neg (by omega)]
      · have e1 := f4.2.2.2 H h (by rw [f3.1 0 (by omega) (by omega)]; exact w18) a1 a2
        have e2 := f3.2.2.2 h a2
        rw [show 96 * 0 + 8 + 8 * h + 2 = 8 + 8 * h + 2 by omega] at e1 e2
        rw [e1, e2]
        exact zu h a1 a2
    show wp_Model_least (nI 0) W' _
    refine mt_least bs'.1 mr' ⟨fun q => ?_, fun q => ⟨fun q2 => ?_, fun q2 => ?_⟩⟩
    · have e2 : sp_least (M' (18 + 2)) H 0 0 = nI j := ej
      rw [e2] at q
      have := (nI_eq (b := 0) (by omega) (by omega)).mp q
      omega
    · have e2 : sp_least (M' (18 + 2)) H 0 0 = nI j := ej
      rw [e2] at q2 ⊢
      have hle := (nI_leI (by omega) (by omega)).mp q2
      rw [eg, if_pos hle] at stp
      exact stp
    · have e2 : sp_least (M' (18 + 2)) H 0 0 = nI j := ej
      rw [e2] at q2
      have hle : ¬ j ≤ l := fun z => q2 ((nI_leI (by omega) (by omega)).mpr z)
      rw [eg, if_neg hle] at stp
      exact stp
theorem p_go {n H L : Nat} {M W : zMem} {a : Int32} {P : zMem → zMem → Prop} (vt : sp_vt M 1 n H L) (r : rt0 W M n H L) (st : pst W M n H L) (bs : bst M n H L) (hP0 : P M W)
    (hP : ∀ M' W', bst M' n H L → W' 0 24 = 1 → pr W' M' n H → M' 18 0 = M 18 0 → (∀ k, (k < 18 ∨ 27 ≤ k) → M' k = M k) → awf W W' → P M' W') : wp_Main_go a M (fun x M' => wp_Model_go a W (fun y W' => x = y ∧ P M' W')) := by
  by_cases c : 1 ≤ a ∧ a ≤ 9999
  · obtain ⟨j, hj, rfl⟩ := nI_of2 (x := a) (M := 9999) (n := 9999) rfl (fun q => absurd (Int32.lt_of_lt_of_le q (by decide : (0 : Int32) ≤ 1)) (Int32.not_lt.mpr c.1)) c.2
    have j1 := (nI_leI (a := 1) (by omega) (by omega)).mp c.1
    obtain ⟨t1, t2, t3⟩ := sp_go_ok (n := n) (H := H) (L := L) j j M (Nat.le_refl _) (by omega) bs
    exact xt_go bs j1 hj (mw_go vt r st bs j1 hj (fun W' h24 hp f => ⟨rfl, hP _ W' t1 h24 hp t3 t2 f⟩))
  · have no : wp_Model_go a W (fun y W' => -1 = y ∧ P M W') := mt_in (lo' := 1) (hi' := 9999) rfl rfl (fun x y => absurd ⟨x, y⟩ c) (fun _ => ⟨fun q => absurd rfl q, fun _ => ⟨rfl, hP0⟩⟩)
    exact ⟨fun _ => no, fun d => ⟨fun d2 => absurd ⟨Int32.not_lt.mp d, d2⟩ c, fun _ => no⟩⟩
def ci (M : zMem) : Nat → Nat
  | 0 => 0
  | h + 1 => ci M h + (if M 21 h < 0 then 0 else 1)
theorem ci_le (M : zMem) : ∀ h, ci M h ≤ h := by
  intro h
  induction h with
  | zero => exact Nat.le_refl _
  | succ h ih => unfold ci; split <;> omega
theorem xt_coats {n H L : Nat} {M : zMem} {Q : Int32 → zMem → Prop} (ok : sp_ok M 1 18 n H L) (hQ : Q (nI (ci M H)) M) : wp_Bench_coatsInHand 18 M Q := by
  have H5 : H ≤ 5 := ok.2.2.2.1.1.2.2.2.1
  have hH : M 1 1 = nI H := ok.2.2.2.1.2.2.1
  refine zlp2_r (fun m x y M' => ∃ h, x = nI (ci M h) ∧ y = nI h ∧ h ≤ H ∧ m = H - h ∧ M' = M) ?_ (n := H) ⟨0, rfl, rfl, by omega, rfl, rfl⟩
  rintro m x y M' ⟨h, rfl, rfl, hh, rfl, em⟩ J hJ
  rw [em]
  unfold wpB_Bench_coatsInHand_4
  rw [ok.1, hH]
  refine ⟨fun c => ?_, fun c => ?_⟩
  · have := (nI_leI (by omega) (by omega)).mp c
    have e : h = H := by omega
    subst e
    exact hQ
  · have hh2 : h < H := (nI_ltI (by omega) (by omega)).mp (Int32.not_le.mp c)
    rw [q_ix (by omega)]
    refine ⟨vp_in_nI (by omega) (by omega), fun d u eu v ev => ?_, fun d u eu v ev => ?_⟩
    · rw [eu, ev, nI_1]
      refine hJ (H - (h + 1)) _ _ _ (by omega) ⟨h + 1, ?_, rfl, by omega, rfl, rfl⟩
      have d' : M 21 h < 0 := d
      rw [Int32.add_zero]
      show _ = nI (ci M h + (if M 21 h < 0 then 0 else 1))
      rw [if_pos d', Nat.add_zero]
    · rw [eu, ev, nI_1, nI_1]
      refine hJ (H - (h + 1)) _ _ _ (by omega) ⟨h + 1, ?_, rfl, by omega, rfl, rfl⟩
      have d' : ¬ M 21 h < 0 := d
      show _ = nI (ci M h + (if M 21 h < 0 then 0 else 1))
      rw [if_neg d']
theorem mw_put {h j : Nat} {v : Int32} {W : zMem} {Q : zMem → Prop} (hh : h < 5) (hj : j ≤ 5) (hQ : Q (zup W 6 (8 + 8 * h + j) (if 2 ≤ j ∧ j ≤ 4 then v - -4 else v))) : wp_Model_put 0 (nI h) (nI j) v W Q := by
  unfold wp_Model_put
  have e : 96 * 0 + 8 + 8 * nI h + nI j = nI (8 + 8 * h + j) := by simp (disch := omega) only [q_lit, q_add, q_mul, q_sub, q_ix, q_in, q_lt, q_le, q_eq, q_nlt, q_nle, q_ltn, q_len, q_neq, q_eqn, zup_ne, zup_eq, zset_ne, zset_eq, upd_eq, upd_ne, forall_eq, true_and, and_true, true_implies, false_implies, implies_true, not_true_eq_false, not_false_eq_true, and_self, ↓reduceIte, false_and, and_false]
  rw [e, q_ix (by omega)]
  refine mt_in (lo' := 2) (hi' := 4) rfl rfl (fun c1 c2 => ⟨fun q => absurd q (by decide), fun _ => ⟨vp_in_nI (by omega) (by omega), fun W1 e1 => ?_⟩⟩) (fun c => ⟨fun _ => ⟨vp_in_nI (by omega) (by omega), fun W1 e1 => ?_⟩, fun q => absurd rfl q⟩)
  · rw [if_pos ⟨(nI_leI (a := 2) (by omega) (by omega)).mp c1, (nI_leI (b := 4) (by omega) (by omega)).mp c2⟩] at hQ
    rw [e1]; exact hQ
  · rw [if_neg (fun z => c ⟨(nI_leI (a := 2) (by omega) (by omega)).mpr z.1, (nI_leI (b := 4) (by omega) (by omega)).mpr z.2⟩)] at hQ
    rw [e1, Int32.sub_zero]; exact hQ
theorem p_night {n H L : Nat} {M W : zMem} {P : zMem → zMem → Prop} (vt : sp_vt M 1 n H L) (r : rt0 W M n H L) (st : pst W M n H L) (bs : bst M n H L)
    (hP : ∀ M' W', bst M' n H L → W' 0 24 = 1 → pr W' M' n H → M' 18 0 = M 18 0 → (∀ k, (k < 18 ∨ 27 ≤ k) → M' k = M k) → awf W W' → P M' W') : wp_Main_night M (fun x M' => wp_Model_night W (fun y W' => x = y ∧ P M' W')) := by
  obtain ⟨⟨n1, n8, H1, H5, L1, L6⟩, hn, hH, -⟩ := id vt
  refine xt_coats bs.1 ?_
  refine xt_makeReady (fun M1 rd => ?_)
  obtain ⟨r1, r2, r3, r4, r5⟩ := rd
  have k1 : ∀ k, (k < 18 ∨ 27 ≤ k) → M1 k = M k := fun k hk => r5 k (by omega)
  have vt1 : sp_vt M1 1 n H L := vt.moved (fun i hi => k1 _ (by omega))
  have e0 : M1 18 0 = M 18 0 := r3 0 (by omega)
  have ok1 : sp_ok M1 1 18 n H L := ⟨by rw [e0]; exact bs.1.1, by omega, by omega, vt1, ⟨0, by omega, r1⟩, fun h hh => Or.inl ⟨(r2 h (by omega)).1, (r2 h (by omega)).2.1, (r2 h (by omega)).2.2⟩, fun g hg => by rw [zlg_18] at hg; cases hg⟩
  refine xt_doAll ok1 ?_
  obtain ⟨ok2, fr2, hs2⟩ := sp_all_ok ok1
  have ek : ∀ k, (k < 18 ∨ 27 ≤ k) → sp_all 1 18 H M1 k = M k := fun k hk => by
    rw [fr2.1 k (by omega) (fun q => absurd q (by omega))]
    exact k1 k hk
  refine mt_awake vt r st (fun W1 h24 hp f1 => ?_)
  have pc : ∀ h, h < 5 → (if W1 6 (8 + 8 * h + 2) + -4 = -4 then 0 else 1) = (if h < H then (if M 21 h < 0 then 0 else 1) else 0 : Nat) := by
    intro h hh
    by_cases c : h < H
    · rw [if_pos c]
      have hm := (hp.2.1 h c).2.2.2
      rw [show 96 * 0 + 8 + 8 * h = 8 + 8 * h by omega] at hm
      rcases hm with ⟨a1, a2, -⟩ | ⟨p, u, s, hp8, -, -, a1, -, -, a2, -⟩
      · have a1' : M 21 h = -1 := a1
        rw [a2, a1', if_pos (by decide), if_pos (by decide)]
      · have a1' : M 21 h = nI p := a1
        rw [a2, show nI (p + 4) + -4 = nI p from q_m4 p, a1', if_neg (nI_pos (by omega) : ¬ nI p < 0), if_neg]
        intro q
        have := q_neq (a := p) (c := 4) (by omega) (by omega) (by omega)
        exact this.mp q
    · rw [if_neg c, hp.2.2.2.2.2 h (by omega) hh, if_pos (by decide)]
  refine zlp2_r (fun m x y W' => ∃ h, y = nI h ∧ h ≤ 5 ∧ m = 5 - h ∧ x = nI (ci M (if h < H then h else H)) ∧ (∀ g i, g < h → i ≤ 4 → W' 6 (8 + 8 * g + i) = 0) ∧ (∀ j, (∀ g i, g < h → i ≤ 4 → j ≠ 8 + 8 * g + i) → W' 6 j = W1 6 j) ∧ (∀ k, k ≠ 6 → W' k = W1 k)) ?_ (n := 5) ⟨0, rfl, by omega, rfl, by rw [show (if 0 < H then 0 else H) = 0 by split <;> omega]; rfl, fun g i hg => absurd hg (by omega), fun _ _ => rfl, fun _ _ => rfl⟩
  rintro m x y W' ⟨h, rfl, hh, rfl, ex, i1, i2, i3⟩ J hJ
  refine ⟨fun c => ?_, fun c => ?_⟩
  · have := (nI_leI (a := 5) (by omega) (by omega)).mp c
    have e5 : h = 5 := by omega
    subst e5
    have exH : x = nI (ci M H) := by rw [ex]; congr 2; split <;> omega
    refine ⟨vp_in_nI (n := 4) (by omega) (by omega), fun W2 e2 => ?_⟩
    rw [show ix 4 = 4 from rfl] at e2
    have y4 : W2 4 = W 4 := by rw [e2, zup_ne (by omega), i3 4 (by omega), f1.1 4 (by omega) (by omega) (by omega) (by omega)]
    have rt2 : rt0 W2 M1 n H L := r.moved y4 (fun i hi => k1 _ (by omega))
    have g6 : ∀ j, j ≠ 4 → (∀ g i, g < 5 → i ≤ 4 → j ≠ 8 + 8 * g + i) → W2 6 j = W1 6 j := fun j h4 hg => by rw [e2, zup_eq, upd_ne h4]; exact i2 j hg
    have z6 : ∀ g i, g < 5 → i ≤ 4 → W2 6 (8 + 8 * g + i) = 0 := fun g i hg hi => by rw [e2, zup_eq, upd_ne (by omega)]; exact i1 g i hg hi
    refine mt_asNumbered vt1 rt2 (fun W3 m3 => ?_)
    have x6 : W3 6 = W2 6 := m3.2.2.2.2 6 (by omega) (by omega) (by omega)
    have rt3 : rt0 W3 M1 n H L := rt2.moved (m3.2.2.2.2 4 (by omega) (by omega) (by omega)) (fun _ _ => rfl)
    have p3 : pr W3 M1 n H := by
      rw [pr, mr_s, x6]
      refine ⟨⟨?_, ?_, ?_, ?_⟩, fun h hh => ?_, fun h p hh hp' => ?_, fun h p hh hp' h8 => ?_, ?_, fun h a1 a2 => z6 h 2 a2 (by omega)⟩
      · rw [g6 _ (by omega) (fun g i _ _ => by omega), r3 2 (by omega)]; exact hp.1.1
      · rw [g6 _ (by omega) (fun g i _ _ => by omega), r3 3 (by omega)]; exact hp.1.2.1
      · rw [g6 _ (by omega) (fun g i _ _ => by omega), r3 4 (by omega)]; exact hp.1.2.2.1
      · rw [e2, zup_eq, show 96 * 0 + 4 = 4 from rfl, upd_eq, r1]
      · rw [mr_h, x6]
        rw [show 96 * 0 + 8 + 8 * h = 8 + 8 * h by omega]
        refine ⟨?_, ?_, ?_, Or.inl ⟨(r2 h (by omega)).2.2, z6 h 2 (by omega) (by omega), z6 h 3 (by omega) (by omega), z6 h 4 (by omega) (by omega)⟩⟩
        · rw [(r2 h (by omega)).1]; exact z6 h 0 (by omega) (by omega)
        · rw [(r2 h (by omega)).2.1]; exact z6 h 1 (by omega) (by omega)
        · rw [g6 _ (by omega) (fun g i _ _ => by omega), r4 6 (by omega) (by omega)]
          have := (hp.2.1 h hh).2.2.1
          rw [show 96 * 0 + 8 + 8 * h = 8 + 8 * h by omega] at this
          exact this
      · rw [g6 _ (by omega) (fun g i _ _ => by omega), show M1 25 = M 25 from funext (fun _ => by rw [show (25 : Nat) = 18 + 7 from rfl, r4 7 (by omega) (by omega)])]
        exact hp.2.2.1 h p hh hp'
      · rw [g6 _ (by omega) (fun g i _ _ => by omega)]
        exact hp.2.2.2.1 h p hh hp' h8
      · rw [g6 _ (by omega) (fun g i _ _ => by omega)]
        exact hp.2.2.2.2.1
    have mr3 := p3.mr H5 rt3 m3.1 m3.2.1 m3.2.2.1
    show wp_Model_settle (nI 0) W3 _
    refine mt_settle (C := 40) (by omega) ok1 mr3 (fun q => absurd q (by omega)) (fun W4 r4' f4 _ z4 => ⟨exH.symm, ?_⟩)
    have af : awf W1 W2 := ⟨fun k _ q6 _ _ => by rw [e2, zup_ne q6, i3 k q6], fun j _ _ _ => by rw [e2, zup_ne (by omega), i3 0 (by omega)], fun j hj => g6 j (by omega) (fun g i _ _ => by omega)⟩
    refine hP _ W4 ⟨ok2, hs2⟩ ?_ (r4'.pr z4 (fun h a1 a2 => ?_)) (by rw [fr2.2]; exact e0) ek (f1.tr (af.tr (m3.a.tr f4.a)))
    · rw [f4.1 0 (by omega) (by omega), m3.2.2.2.1 24 (by omega) (by omega), e2, zup_ne (by omega), i3 0 (by omega)]; exact h24
    · have e1 := f4.2.2.2 H h m3.1 a1 a2
      rw [show 96 * 0 + 8 + 8 * h + 2 = 8 + 8 * h + 2 by omega] at e1
      rw [e1, x6]
      exact z6 h 2 a2 (by omega)
  · have hh2 : h < 5 := (nI_ltI (b := 5) (by omega) (by omega)).mp (Int32.not_le.mp c)
    have ew : W' 6 (8 + 8 * h + 2) = W1 6 (8 + 8 * h + 2) := i2 _ (fun g i _ _ => by omega)
    have stp : ∀ s : Int32, (s = nI (if W1 6 (8 + 8 * h + 2) + -4 = -4 then 0 else 1)) → wpJ_Model_night_31 J (fun y W' => nI (ci M H) = y ∧ P (sp_all 1 18 H M1) W') (nI h) x s W' := by
      intro s hs v ev
      show wp_Model_put 0 (nI h) (nI 0) _ W' _
      refine mw_put hh2 (by omega) ?_
      show wp_Model_put 0 (nI h) (nI 1) _ _ _
      refine mw_put hh2 (by omega) ?_
      show wp_Model_put 0 (nI h) (nI 2) _ _ _
      refine mw_put hh2 (by omega) ?_
      show wp_Model_put 0 (nI h) (nI 3) _ _ _
      refine mw_put hh2 (by omega) ?_
      show wp_Model_put 0 (nI h) (nI 4) _ _ _
      refine mw_put hh2 (by omega) ?_
      intro u eu
      rw [eu, nI_1]
      refine hJ (5 - (h + 1)) _ _ _ (by omega) ⟨h + 1, rfl, by omega, rfl, ?_, fun g i hg hi => ?_, fun j hj => ?_, fun k hk => by simp (disch := omega) only [zup_ne]; exact i3 k hk⟩
      · rw [ev, ex, hs, pc h hh2, q_add]
        congr 1
        by_cases c1 : h < H
        · rw [if_pos c1, if_pos c1]
          by_cases c2 : h + 1 < H
          · rw [if_pos c2]; rfl
          · rw [if_neg c2, show H = h + 1 by omega]; rfl
        · rw [if_neg c1, if_neg c1, if_neg (by omega), Nat.add_zero]
      · simp only [zup_eq]
        by_cases q : g = h
        · subst q
          rcases (show i = 0 ∨ i = 1 ∨ i = 2 ∨ i = 3 ∨ i = 4 by omega) with rfl | rfl | rfl | rfl | rfl <;> (simp (disch := omega) only [upd_ne, upd_eq]; decide)
        · simp (disch := omega) only [upd_ne]
          exact i1 g i (by omega) hi
      · simp only [zup_eq]
        rw [upd_ne (hj h 4 (by omega) (by omega)), upd_ne (hj h 3 (by omega) (by omega)), upd_ne (hj h 2 (by omega) (by omega)), upd_ne (hj h 1 (by omega) (by omega)), upd_ne (hj h 0 (by omega) (by omega))]
        exact i2 j (fun g i hg hi => hj g i (by omega) hi)
    show wp_Model_at 0 (nI h) (nI 2) W' _
    refine mw_at hh2 (by omega) ?_
    rw [if_pos (by omega), ew]
    refine ⟨fun q => stp 1 ?_, fun q => stp 0 ?_⟩
    · rw [if_neg q]; rfl
    · rw [if_pos q]; rfl
theorem sp_run_fr {t b n H L m : Nat} (hm : m ≤ 120) : ∀ f (M : zMem), sp_rl M t b n H L f → sp_fr b M (sp_run t b H (nI m) f M) := by
  intro f
  induction f with
  | zero => intro M _; exact sp_fr.rf
  | succ f ih =>
    intro M rl
    rw [sp_run_1]
    split
    · rename_i c
      obtain ⟨g, hg, rl2, -, fr⟩ := sp_rl_step rl hm c
      have e : g = f := by omega
      subst e
      exact fr.tr (ih _ rl2)
    · exact sp_fr.rf
/-- R is the run for m coats of what M is told -/
def rq (M : zMem) (n H L m : Nat) (R : zMem) : Prop := ∃ M0 Mc, sp_clear 32 M0 Mc ∧ sp_ok Mc 1 32 n H L ∧ (∀ i, i ≤ 4 → Mc (1 + i) = M (1 + i)) ∧ Mc 30 0 = 0 ∧ R = sp_run 1 32 H (nI m) 12000 (sp_all 1 32 H Mc)
/-- the course that is kept is one of what is told now -/
def cc (M : zMem) (n H L : Nat) : Prop := M 29 2 = 0 ∨ ∃ m R, 1 ≤ m ∧ m ≤ 120 ∧ M 29 2 = nI m ∧ M 29 3 = 0 ∧ rq M n H L m R ∧ ∀ k, 30 ≤ k → k ≤ 40 → M k = R k
theorem xt_course {n H L m : Nat} {M : zMem} {Q : zMem → Prop} (vt : sp_vt M 1 n H L) (ht : ztc (M 32 0) = 1) (h : cc M n H L) (m1 : 1 ≤ m) (hm : m ≤ 120)
    (hQ : ∀ M' R, rq M n H L m R → (∀ k, 30 ≤ k → k ≤ 40 → M' k = R k) → M' 29 2 = nI m → M' 29 3 = 0 → M' 32 0 = M 32 0 → (∀ k, (k < 29 ∨ 41 ≤ k) → M' k = M k) → Q M') : wp_Course_runFor 29 (nI m) M Q := by
  refine xt_runFor vt ht hm (fun q => ?_) (fun _ Mc hc => ?_)
  · rcases h with h | ⟨m', R, b1, b2, b3, b4, b5, b6⟩
    · rw [h] at q
      have := (nI_eq (a := 0) (by omega) (by omega)).mp q
      omega
    · have e : m' = m := (nI_eq (by omega) (by omega)).mp (b3.symm.trans q)
      subst e
      exact hQ M R b5 b6 b3 b4 rfl (fun _ _ => rfl)
  · have k3 : ∀ k, k ≠ 29 → k ≠ 30 → zup (zup (zup M 29 2 (nI m)) 29 3 0) 30 0 0 k = M k := fun k a b => by simp (disch := omega) only [zup_ne]
    have z30 : zup (zup (zup M 29 2 (nI m)) 29 3 0) 30 0 0 30 0 = 0 := by simp (disch := omega) only [zup_eq, upd_eq]
    have vt3 : sp_vt (zup (zup (zup M 29 2 (nI m)) 29 3 0) 30 0 0) 1 n H L := vt.moved (fun i hi => k3 _ (by omega) (by omega))
    have ok : sp_ok Mc 1 32 n H L := sp_ok_clear hc (by rw [k3 32 (by omega) (by omega)]; exact ht) (by omega) (by omega) vt3 (fun g q => by
      rcases zlg_cases 32 with d | ⟨d, -⟩
      · cases d
      · rw [d] at q; cases q; exact ⟨0, z30, by omega⟩)
    have ck := hc.2.2.2.2.2.2.2.2.2
    obtain ⟨ri, fr, -⟩ := sp_ri_0 hc ok
    have fr2 := fr.tr (sp_run_fr (m := m) hm 12000 _ (sp_rl_0 ri))
    have e29 : sp_run 1 32 H (nI m) 12000 (sp_all 1 32 H Mc) 29 = zup (zup (zup M 29 2 (nI m)) 29 3 0) 30 0 0 29 := by rw [fr2.1 29 (by omega) (fun _ => by omega)]; exact ck 29 (by omega)
    refine hQ _ _ ⟨_, Mc, hc, ok, fun i hi => ?_, ?_, rfl⟩ (fun _ _ _ => rfl) ?_ ?_ ?_ (fun k hk => ?_)
    · rw [ck _ (by omega), k3 _ (by omega) (by omega)]
    · rw [ck 30 (by omega)]; exact z30
    · rw [e29]; simp (disch := omega) only [zup_ne, zup_eq, upd_ne, upd_eq]
    · rw [e29]; simp (disch := omega) only [zup_ne, zup_eq, upd_eq]
    · rw [fr2.2, hc.2.2.2.2.1, k3 32 (by omega) (by omega)]
    · rw [fr2.1 k (by omega) (fun _ => by omega), ck k (by omega), k3 k (by omega) (by omega)]
theorem mfw.y {W W' : zMem} (h : mfw W W') : mfy W W' := ⟨fun k a b _ _ e f g h1 i _ => h.1 k a b e f g h1 i, h.2.1, fun j _ _ c => h.2.2 j (by omega) (by omega) (by omega)⟩
/-- the reference's run, against the class's -/
theorem mw_course {n H L m : Nat} {M R W : zMem} {Q : zMem → Prop} (vt : sp_vt M 1 n H L) (r : rt0 W M n H L) (hm : m ≤ 120) (h : rq M n H L m R)
    (hQ : ∀ W', mr W' R 1 1 32 n H L (fun h => h) → ms W' R 1 32 n → W' 6 99 = 0 → mfy W W' → Q W') : wp_Model_asNumbered W (fun W1 => wp_Model_runs (nI m) 0 W1 Q) := by
  obtain ⟨M0, Mc, hc, ok, tc, z30, eR⟩ := h
  refine mt_asNumbered vt r (fun W1 m1 => ?_)
  obtain ⟨a18, a19, ah, a0, ak⟩ := id m1
  have H5 : H ≤ 5 := vt.1.2.2.2.1
  have r1 : rt0 W1 Mc n H L := r.moved (ak 4 (by omega) (by omega) (by omega)) tc
  have t1 : Mc 1 = M 1 := tc 0 (by omega)
  have t5 : Mc 5 = M 5 := tc 4 (by omega)
  have rt : mr_t W1 Mc 1 n H L := mr_t_of (M' := Mc) r1 a18 (by rw [t1]; exact a19) (fun h hh => by rw [t5]; exact (ah h hh).2)
  have rw0 : mw0 W1 Mc 1 n H (fun h => h) := ⟨fun h hh => ⟨by show h < 5; omega, (ah h hh).1⟩, fun h j _ _ e => e, fun h p hh hp => r1.2.2.2.2.2.2.2.2.2.1 h p hh hp⟩
  refine mt_runs hm hc ok rt rw0 (fun _ => z30) (fun W' b1 b2 b3 b4 => ?_)
  rw [← eR] at b1 b2
  exact hQ W' b1 b2 b3 (m1.y.tr b4.y)
theorem xt_isRun {a : Int32} {M : zMem} {Q : Int32 → zMem → Prop} (ht : ∀ m, 1 ≤ m → m ≤ 120 → a = nI m → Q 1 M) (hf : ¬ (1 ≤ a ∧ a ≤ 120) → Q 0 M) : wp_Main_isRun a M Q := by
  refine ⟨fun c => hf (fun q => absurd c (Int32.not_lt.mpr q.1)), fun c => ⟨fun c2 => hf (fun q => absurd c2 (Int32.not_lt.mpr q.2)), fun c2 => ?_⟩⟩
  obtain ⟨m, hm, rfl⟩ := nI_of2 (x := a) (M := 120) (n := 120) rfl (fun q => c (Int32.lt_of_lt_of_le q (by decide : (0 : Int32) ≤ 1))) (Int32.not_lt.mp c2)
  exact ht m ((nI_leI (a := 1) (by omega) (by omega)).mp (Int32.not_lt.mp c)) hm rfl
theorem run_yes {m : Nat} {W : zMem} {Q : Int32 → zMem → Prop} (m1 : 1 ≤ m) (hm : m ≤ 120) (hQ : Q 1 W) : wp_Model_isRun (nI m) W Q := mt_in (lo' := 1) (hi' := 120) rfl rfl (fun _ _ => ⟨Or.inr rfl, hQ⟩) (fun q => absurd ⟨(nI_leI (a := 1) (by omega) (by omega)).mpr m1, (nI_leI (b := 120) (by omega) (by omega)).mpr hm⟩ q)
theorem run_no {a : Int32} {W : zMem} {Q : Int32 → zMem → Prop} (h : ¬ (1 ≤ a ∧ a ≤ 120)) (hQ : Q 0 W) : wp_Model_isRun a W Q := mt_in (lo' := 1) (hi' := 120) rfl rfl (fun x y => absurd ⟨x, y⟩ h) (fun _ => ⟨Or.inl rfl, hQ⟩)
/-- what a question about a run may change, in the class -/
def cfc (M M' : zMem) : Prop := M' 32 0 = M 32 0 ∧ ∀ k, (k < 29 ∨ 41 ≤ k) → M' k = M k
theorem cc.of {M M' R : zMem} {n H L m : Nat} (m1 : 1 ≤ m) (hm : m ≤ 120) (h : rq M n H L m R) (e : ∀ k, 30 ≤ k → k ≤ 40 → M' k = R k) (e2 : M' 29 2 = nI m) (e3 : M' 29 3 = 0) (f : ∀ k, (k < 29 ∨ 41 ≤ k) → M' k = M k) : cc M' n H L := by
  obtain ⟨M0, Mc, a1, a2, a3, a4, a5⟩ := h
  exact Or.inr ⟨m, R, m1, hm, e2, e3, ⟨M0, Mc, a1, a2, fun i hi => (a3 i hi).trans (f _ (by omega)).symm, a4, a5⟩, e⟩
theorem p_waits {n H L : Nat} {M W : zMem} {a1 a2 : Int32} {P : zMem → zMem → Prop} (vt : sp_vt M 1 n H L) (r : rt0 W M n H L) (ht : ztc (M 32 0) = 1) (hcc : cc M n H L) (hP0 : P M W)
    (hP : ∀ M' W', cc M' n H L → cfc M M' → mfy W W' → P M' W') : wp_Main_waits a1 a2 M (fun x M' => wp_Model_waits a1 a2 W (fun y W' => x = y ∧ P M' W')) := by
  obtain ⟨⟨n1, n8, H1, H5, L1, L6⟩, hn, hH, -⟩ := id vt
  refine xt_isRun (fun m m1 hm em => ⟨fun q => absurd q (by decide), fun _ => ?_⟩) (fun nr => ⟨fun _ => run_no nr ⟨fun _ => ⟨rfl, hP0⟩, fun q => absurd rfl q⟩, fun q => absurd rfl q⟩)
  subst em
  refine xt_isHand hH (by omega) (fun h hh eh => ⟨fun _ => ?_, fun q => absurd q (by decide)⟩) (fun nh => ⟨fun q => absurd rfl q, fun _ => run_yes m1 hm ⟨fun q => absurd q (by decide), fun _ => mt_isHand r.2.1 (by omega) (by omega) (fun h hh eh => absurd ⟨h, hh, eh⟩ nh) (fun _ => ⟨fun q => absurd rfl q, fun _ => ⟨rfl, hP0⟩⟩)⟩⟩)
  subst eh
  refine xt_course vt ht hcc m1 hm (fun M' R hr e30 e2 e3 e32 fr => ⟨vp_in_nI (by omega) (by omega), ?_⟩)
  rw [q_ix (by omega)]
  refine run_yes m1 hm ⟨fun q => absurd q (by decide), fun _ => mt_isHand r.2.1 (by omega) (by omega) (fun _ _ _ => ⟨fun _ => ?_, fun q => absurd q (by decide)⟩) (fun q => absurd ⟨h, hh, rfl⟩ q)⟩
  refine mw_course vt r hm hr (fun W' w1 w2 w3 w4 => ?_)
  show wp_Model_at (nI 1) (nI h) (nI 5) W' _
  rw [e_at (by omega) (by omega) (by omega), if_neg (by omega)]
  refine ⟨?_, hP M' W' (cc.of m1 hm hr e30 e2 e3 fr) ⟨e32, fr⟩ w4⟩
  rw [e30 38 (by omega) (by omega), q_x0]
  exact ((w1.2.2.2.1 h hh).2.2.1).symm
/-- how many handings are kept -/
theorem mw_kept {n H L : Nat} {R W : zMem} {Q : Int32 → zMem → Prop} (h : mr W R 1 1 32 n H L (fun h => h)) (hQ : ∀ z, z ≤ 600 → R 30 0 = nI z → (∀ j, j < 5 * z → W 10 j = R 31 j) → Q (nI z) W) : wp_Model_oversKept W Q := by
  obtain ⟨o, o1, o2, o3, o4⟩ := h.2.2.2.2.2 rfl rfl
  have e2 : W 6 98 = nI o := by
    have := h.2.2.2.2.1.2.2.1
    rw [o2] at this
    exact this
  have of2 : ∀ K : Int32 → zMem → Prop, K (nI o) W → wp_Model_of 1 2 W K := fun K k => by
    refine ⟨vp_in_nI (n := 98) (by omega) (by omega), ?_⟩
    show K (W 6 98) W
    rw [e2]; exact k
  refine of2 _ ⟨fun c => ?_, fun c => of2 _ ?_⟩
  · have := (nI_leI (a := 600) (by omega) (by omega)).mp c
    refine hQ 600 (by omega) ?_ (fun j hj => o4 j (by omega) (by omega))
    rw [o3]
    split
    · omega
    · rfl
  · have := (nI_ltI (b := 600) (by omega) (by omega)).mp (Int32.not_le.mp c)
    refine hQ o (by omega) ?_ (fun j hj => o4 j (by omega) (by omega))
    rw [o3, if_pos this]
theorem e_value {k y j : Nat} {M : zMem} {Q : Int32 → zMem → Prop} (hy : y < 600) (hj : j < 5) (hQ : Q (M (k + 1) (y * 5 + j)) M) : wp_Handings_valueOf k (nI y) (nI j) M Q := by
  unfold wp_Handings_valueOf
  have e : nI y * 5 + nI j = nI (y * 5 + j) := by simp (disch := omega) only [q_lit, q_add, q_mul, q_sub, q_ix, q_in, q_lt, q_le, q_eq, q_nlt, q_nle, q_ltn, q_len, q_neq, q_eqn, zup_ne, zup_eq, zset_ne, zset_eq, upd_eq, upd_ne, forall_eq, true_and, and_true, true_implies, false_implies, implies_true, not_true_eq_false, not_false_eq_true, and_self, ↓reduceIte, false_and, and_false]
  rw [e, q_ix (by omega)]
  exact ⟨vp_in_nI (by omega) (by omega), hQ⟩
theorem p_over {n H L : Nat} {M W : zMem} {a1 a2 a3 : Int32} {P : zMem → zMem → Prop} (vt : sp_vt M 1 n H L) (r : rt0 W M n H L) (ht : ztc (M 32 0) = 1) (hcc : cc M n H L) (hP0 : P M W)
    (hP : ∀ M' W', cc M' n H L → cfc M M' → mfy W W' → P M' W') (hPa : ∀ M', cc M' n H L → cfc M M' → P M' W) : wp_Main_over a1 a2 a3 M (fun x M' => wp_Model_over a1 a2 a3 W (fun y W' => x = y ∧ P M' W')) := by
  refine xt_isRun (fun m m1 hm em => ⟨fun q => absurd q (by decide), fun _ => ?_⟩) (fun nr => ⟨fun _ => run_no nr ⟨fun _ => ⟨rfl, hP0⟩, fun q => absurd rfl q⟩, fun q => absurd rfl q⟩)
  subst em
  have bad : ¬ (0 ≤ a3 ∧ a3 ≤ 4) → wp_Model_over (nI m) a2 a3 W (fun y W' => -1 = y ∧ P M W') := fun q => run_yes m1 hm ⟨fun q => absurd q (by decide), fun _ => ⟨fun _ => ⟨rfl, hP0⟩, fun _ => in_no (hi := 4) rfl q ⟨fun q => absurd rfl q, fun _ => ⟨rfl, hP0⟩⟩⟩⟩
  refine ⟨fun c => bad (fun q => absurd c (Int32.not_lt.mpr q.1)), fun c => ⟨fun c2 => ?_, fun c2 => bad (fun q => c2 (Int32.lt_of_le_of_lt q.2 (by decide)))⟩⟩
  obtain ⟨j, hj0, rfl⟩ := nI_of c
  have hj : j < 5 := (nI_ltI (b := 5) (by omega) (by omega)).mp c2
  refine xt_course vt ht hcc m1 hm (fun M' R hr e30 e2 e3 e32 fr => ?_)
  have ccM := cc.of m1 hm hr e30 e2 e3 fr
  refine ⟨fun d => run_yes m1 hm ⟨fun q => absurd q (by decide), fun _ => ⟨fun _ => ⟨rfl, hPa M' ccM ⟨e32, fr⟩⟩, fun q => absurd d q⟩⟩, fun d => ?_⟩
  obtain ⟨y, hy, rfl⟩ := nI_of d
  have way : ∀ x : Int32, (∀ (W' : zMem) (z : Nat), z ≤ 600 → R 30 0 = nI z → (∀ j, j < 5 * z → W' 10 j = R 31 j) → (z ≤ y → x = -1) ∧ (y < z → x = W' 10 (5 * y + j))) → wp_Model_over (nI m) (nI y) (nI j) W (fun v W' => x = v ∧ P M' W') := fun x hx => by
    refine run_yes m1 hm ⟨fun q => absurd q (by decide), fun _ => ⟨fun q => absurd q d, fun _ => in_yes (hi := 4) rfl (by omega) (by omega) ⟨fun _ => ?_, fun q => absurd q (by decide)⟩⟩⟩
    refine mw_course vt r hm hr (fun W' w1 w2 w3 w4 => ?_)
    refine mw_kept w1 (fun z hz ez el => ?_)
    obtain ⟨x1, x2⟩ := hx W' z hz ez el
    have pp := hP M' W' ccM ⟨e32, fr⟩ w4
    refine ⟨fun q => ⟨x1 ((nI_leI (by omega) (by omega)).mp q), pp⟩, fun q => ?_⟩
    have hyz : y < z := (nI_ltI (by omega) (by omega)).mp (Int32.not_le.mp q)
    have e5 : 5 * nI y + nI j = nI (5 * y + j) := by simp (disch := omega) only [q_lit, q_add, q_mul, q_sub, q_ix, q_in, q_lt, q_le, q_eq, q_nlt, q_nle, q_ltn, q_len, q_neq, q_eqn, zup_ne, zup_eq, zset_ne, zset_eq, upd_eq, upd_ne, forall_eq, true_and, and_true, true_implies, false_implies, implies_true, not_true_eq_false, not_false_eq_true, and_self, ↓reduceIte, false_and, and_false]
    rw [e5, q_ix (by omega)]
    exact ⟨vp_in_nI (by omega) (by omega), x2 hyz, pp⟩
  have hz : ∃ z, z ≤ 600 ∧ R 30 0 = nI z := by
    obtain ⟨M0, Mc, hc, ok, tc, z30, eR⟩ := id hr
    obtain ⟨ri, -, -⟩ := sp_ri_0 hc ok
    have key : ∀ f (X : zMem), sp_rl X 1 32 n H L f → ∃ z, z ≤ 600 ∧ sp_run 1 32 H (nI m) f X 30 0 = nI z := by
      intro f
      induction f with
      | zero => intro X rl; obtain ⟨z, z1, z2⟩ := rl.1.1.2.2.2.2.2.2 30 rfl; exact ⟨z, z2, z1⟩
      | succ f ih =>
        intro X rl
        rw [sp_run_1]
        split
        · rename_i c
          obtain ⟨g, hg, rl2, -, -⟩ := sp_rl_step rl hm c
          have e : g = f := by omega
          subst e
          exact ih _ rl2
        · obtain ⟨z, z1, z2⟩ := rl.1.1.2.2.2.2.2.2 30 rfl; exact ⟨z, z2, z1⟩
    rw [eR]
    exact key 12000 _ (sp_rl_0 ri)
  obtain ⟨z, hz6, ez⟩ := hz
  have e300 : M' 30 0 = nI z := by rw [e30 30 (by omega) (by omega)]; exact ez
  rw [e300]
  refine ⟨fun q => ?_, fun q => ?_⟩
  · have hyz := (nI_ltI (by omega) (by omega)).mp q
    refine e_value (by omega) hj (way _ (fun W' z' hz' ez' el => ?_))
    have ezz : z' = z := (nI_eq (by omega) (by omega)).mp (ez'.symm.trans ez)
    subst ezz
    refine ⟨fun h => absurd h (by omega), fun h => ?_⟩
    rw [el (5 * y + j) (by omega), e30 (30 + 1) (by omega) (by omega)]
    congr 1
    omega
  · refine way _ (fun W' z' hz' ez' el => ?_)
    have ezz : z' = z := (nI_eq (by omega) (by omega)).mp (ez'.symm.trans ez)
    subst ezz
    exact ⟨fun _ => rfl, fun h => absurd ((nI_ltI (by omega) (by omega)).mpr h) q⟩
theorem rq_z {n H L m : Nat} {M R : zMem} (hm : m ≤ 120) (hr : rq M n H L m R) : ∃ z, z ≤ 600 ∧ R 30 0 = nI z := by
  obtain ⟨M0, Mc, hc, ok, tc, z30, eR⟩ := id hr
  obtain ⟨ri, -, -⟩ := sp_ri_0 hc ok
  have key : ∀ f (X : zMem), sp_rl X 1 32 n H L f → ∃ z, z ≤ 600 ∧ sp_run 1 32 H (nI m) f X 30 0 = nI z := by
    intro f
    induction f with
    | zero => intro X rl; obtain ⟨z, z1, z2⟩ := rl.1.1.2.2.2.2.2.2 30 rfl; exact ⟨z, z2, z1⟩
    | succ f ih =>
      intro X rl
      rw [sp_run_1]
      split
      · rename_i c
        obtain ⟨g, hg, rl2, -, -⟩ := sp_rl_step rl hm c
        have e : g = f := by omega
        subst e
        exact ih _ rl2
      · obtain ⟨z, z1, z2⟩ := rl.1.1.2.2.2.2.2.2 30 rfl; exact ⟨z, z2, z1⟩
  rw [eR]
  exact key 12000 _ (sp_rl_0 ri)
theorem p_judge {n H L : Nat} {M W : zMem} {a1 a2 a3 a4 a5 : Int32} {P : zMem → zMem → Prop} (vt : sp_vt M 1 n H L) (r : rt0 W M n H L) (ht : ztc (M 32 0) = 1) (hcc : cc M n H L)
    (hP : ∀ M' W', cc M' n H L → cfc M M' → mfy W W' → P M' W') : wp_Main_judge a1 a2 a3 a4 a5 M (fun x M' => wp_Model_judge a1 a2 a3 a4 a5 W (fun y W' => x = y ∧ P M' W')) := by
  show wp_Course_runFor 29 (nI 120) M _
  refine xt_course vt ht hcc (by omega) (by omega) (fun M' R hr e30 e2 e3 e32 fr => ?_)
  have ccM := cc.of (by omega) (by omega) hr e30 e2 e3 fr
  obtain ⟨z, hz6, ez⟩ := rq_z (by omega) hr
  have e300 : M' 30 0 = nI z := by rw [e30 30 (by omega) (by omega)]; exact ez
  have e31 : M' (30 + 1) = R 31 := e30 31 (by omega) (by omega)
  have way : ∀ x : Int32, (∀ W' : zMem, (∀ j, j < 5 * z → W' 10 j = R 31 j) → (¬ (0 ≤ a1 ∧ a1 ≤ nI z - 1) → x = -1) ∧ (∀ y, y < z → a1 = nI y → (a2 = R 31 (5 * y) → (a3 = R 31 (5 * y + 1) → (a4 = R 31 (5 * y + 2) → (a5 = R 31 (5 * y + 3) → x = 0) ∧ (¬ a5 = R 31 (5 * y + 3) → x = 4)) ∧ (¬ a4 = R 31 (5 * y + 2) → x = 3)) ∧ (¬ a3 = R 31 (5 * y + 1) → x = 2)) ∧ (¬ a2 = R 31 (5 * y) → x = 1))) → wp_Model_judge a1 a2 a3 a4 a5 W (fun v W' => x = v ∧ P M' W') := by
    intro x hx
    refine mw_course (m := 120) vt r (by omega) hr (fun W' w1 w2 w3 w4 => ?_)
    refine mw_kept w1 (fun z' hz' ez' el => ?_)
    have ezz : z' = z := (nI_eq (by omega) (by omega)).mp (ez'.symm.trans ez)
    subst ezz
    obtain ⟨x1, x2⟩ := hx W' el
    have pp := hP M' W' ccM ⟨e32, fr⟩ w4
    refine mt_in (lo' := 0) (hi' := nI z' - 1) rfl rfl (fun c1 c2 => ⟨fun _ => ?_, fun q => absurd q (by decide)⟩) (fun c => ⟨fun q => absurd rfl q, fun _ => ⟨x1 c, pp⟩⟩)
    have z0 : 0 < z' := by
      rcases Nat.eq_zero_or_pos z' with q | q
      · rw [q] at c2
        exact absurd (Int32.le_trans c1 c2) (by decide)
      · exact q
    obtain ⟨y, hy, rfl⟩ := (rng_1 z0 (by omega)).mp ⟨c1, c2⟩
    have x2 := x2 y hy rfl
    have f0 : 5 * nI y = nI (5 * y) := by simp (disch := omega) only [q_lit, q_add, q_mul, q_sub, q_ix, q_in, q_lt, q_le, q_eq, q_nlt, q_nle, q_ltn, q_len, q_neq, q_eqn, zup_ne, zup_eq, zset_ne, zset_eq, upd_eq, upd_ne, forall_eq, true_and, and_true, true_implies, false_implies, implies_true, not_true_eq_false, not_false_eq_true, and_self, ↓reduceIte, false_and, and_false]
    have f1 : nI (5 * y) + 1 = nI (5 * y + 1) := nI_1 _
    have f2 : nI (5 * y) + 2 = nI (5 * y + 2) := q_add _ 2
    have f3 : nI (5 * y) + 3 = nI (5 * y + 3) := q_add _ 3
    rw [f0, f1, f2, f3, q_ix (by omega), q_ix (by omega), q_ix (by omega), q_ix (by omega), el (5 * y) (by omega), el (5 * y + 1) (by omega), el (5 * y + 2) (by omega), el (5 * y + 3) (by omega)]
    refine ⟨vp_in_nI (by omega) (by omega), fun q0 => ⟨vp_in_nI (by omega) (by omega), fun q1 => ⟨vp_in_nI (by omega) (by omega), fun q2 => ⟨vp_in_nI (by omega) (by omega), fun q3 => ⟨?_, pp⟩, fun q3 => ⟨?_, pp⟩⟩, fun q2 => ⟨?_, pp⟩⟩, fun q1 => ⟨?_, pp⟩⟩, fun q0 => ⟨?_, pp⟩⟩
    · exact (((x2.1 q0).1 q1).1 q2).1 q3
    · exact (((x2.1 q0).1 q1).1 q2).2 q3
    · exact ((x2.1 q0).1 q1).2 q2
    · exact (x2.1 q0).2 q1
    · exact x2.2 q0
  rw [e300]
  have bad : ¬ (∃ y, y < z ∧ a1 = nI y) → wp_Model_judge a1 a2 a3 a4 a5 W (fun v W' => -1 = v ∧ P M' W') := fun nb => way (-1) (fun W' _ => ⟨fun _ => rfl, fun y hy e => absurd ⟨y, hy, e⟩ nb⟩)
  refine ⟨fun c => bad (fun ⟨y, hy, e⟩ => ?_), fun c => ⟨fun c2 => ?_, fun c2 => bad (fun ⟨y, hy, e⟩ => ?_)⟩⟩
  · rw [e] at c; exact absurd c (nI_pos (by omega))
  · obtain ⟨y, hy0, rfl⟩ := nI_of c
    have hy := (nI_ltI (by omega) (by omega)).mp c2
    have good : ¬ (¬ ((0 : Int32) ≤ nI y ∧ nI y ≤ nI z - 1)) := fun q => q ((rng_1 (by omega) (by omega)).mpr ⟨y, hy, rfl⟩)
    have way2 : ∀ x : Int32, ((a2 = R 31 (5 * y) → (a3 = R 31 (5 * y + 1) → (a4 = R 31 (5 * y + 2) → (a5 = R 31 (5 * y + 3) → x = 0) ∧ (¬ a5 = R 31 (5 * y + 3) → x = 4)) ∧ (¬ a4 = R 31 (5 * y + 2) → x = 3)) ∧ (¬ a3 = R 31 (5 * y + 1) → x = 2)) ∧ (¬ a2 = R 31 (5 * y) → x = 1)) → wp_Model_judge (nI y) a2 a3 a4 a5 W (fun v W' => x = v ∧ P M' W') := fun x hx => way x (fun W' _ => ⟨fun q => absurd q good, fun y' hy' e => by
      have := (nI_eq (by omega) (by omega)).mp e
      subst this
      exact hx⟩)
    have v0 : M' (30 + 1) (y * 5 + 0) = R 31 (5 * y) := by rw [e31]; congr 1; omega
    have v1 : M' (30 + 1) (y * 5 + 1) = R 31 (5 * y + 1) := by rw [e31]; congr 1; omega
    have v2 : M' (30 + 1) (y * 5 + 2) = R 31 (5 * y + 2) := by rw [e31]; congr 1; omega
    have v3 : M' (30 + 1) (y * 5 + 3) = R 31 (5 * y + 3) := by rw [e31]; congr 1; omega
    refine e_value (j := 0) (by omega) (by omega) ?_
    rw [v0]
    refine ⟨fun q0 => e_value (j := 1) (by omega) (by omega) ?_, fun q0 => way2 1 ⟨fun q => absurd q.symm q0, fun _ => rfl⟩⟩
    rw [v1]
    refine ⟨fun q1 => e_value (j := 2) (by omega) (by omega) ?_, fun q1 => way2 2 ⟨fun _ => ⟨fun q => absurd q.symm q1, fun _ => rfl⟩, fun q => absurd q0.symm q⟩⟩
    rw [v2]
    refine ⟨fun q2 => e_value (j := 3) (by omega) (by omega) ?_, fun q2 => way2 3 ⟨fun _ => ⟨fun _ => ⟨fun q => absurd q.symm q2, fun _ => rfl⟩, fun q => absurd q1.symm q⟩, fun q => absurd q0.symm q⟩⟩
    rw [v3]
    exact ⟨fun q3 => way2 0 ⟨fun _ => ⟨fun _ => ⟨fun _ => ⟨fun _ => rfl, fun q => absurd q3.symm q⟩, fun q => absurd q2.symm q⟩, fun q => absurd q1.symm q⟩, fun q => absurd q0.symm q⟩, fun q3 => way2 4 ⟨fun _ => ⟨fun _ => ⟨fun _ => ⟨fun q => absurd q.symm q3, fun _ => rfl⟩, fun q => absurd q2.symm q⟩, fun q => absurd q1.symm q⟩, fun q => absurd q0.symm q⟩⟩
  · rw [e] at c2; exact c2 ((nI_ltI (by omega) (by omega)).mpr hy)
def wsum (f : Nat → Int32) : Nat → Int32
  | 0 => 0
  | h + 1 => wsum f h + f h
theorem wsum_congr {f g : Nat → Int32} : ∀ h, (∀ i, i < h → f i = g i) → wsum f h = wsum g h := by
  intro h
  induction h with
  | zero => intro _; rfl
  | succ h ih => intro e; unfold wsum; rw [ih (fun i hi => e i (by omega)), e h (by omega)]
theorem xt_waited {H : Nat} {M : zMem} {Q : Int32 → zMem → Prop} (ht : ztc (M 32 0) = 1) (hH : M 1 1 = nI H) (H5 : H ≤ 5) (hQ : Q (wsum (M 38) H) M) : wp_Bench_waitedByAll 32 M Q := by
  refine zlp2_r (fun m x y M' => ∃ h, x = wsum (M 38) h ∧ y = nI h ∧ h ≤ H ∧ m = H - h ∧ M' = M) ?_ (n := H) ⟨0, rfl, rfl, by omega, rfl, rfl⟩
  rintro m x y M' ⟨h, ex, ey, hh, em, eM⟩ J hJ
  rw [eM, ey]
  unfold wpB_Bench_waitedByAll_4
  rw [ht, hH]
  refine ⟨fun c => ?_, fun c => ?_⟩
  · have := (nI_leI (by omega) (by omega)).mp c
    have e : h = H := by omega
    rw [ex, e]
    exact hQ
  · have hh2 : h < H := (nI_ltI (by omega) (by omega)).mp (Int32.not_le.mp c)
    rw [q_ix (by omega)]
    refine ⟨vp_in_nI (by omega) (by omega), fun u eu v ev => ?_⟩
    rw [ev, nI_1]
    exact hJ (H - (h + 1)) _ _ _ (by omega) ⟨h + 1, by rw [eu, ex]; rfl, rfl, by omega, rfl, rfl⟩
def bm (f : Nat → Int32) : Nat → Nat
  | 0 => 0
  | k + 1 => if f k ≤ f (bm f k) then bm f k else k
theorem bm_lt (f : Nat → Int32) : ∀ k, 0 < k → bm f k < k := by
  intro k
  induction k with
  | zero => intro h; omega
  | succ k ih =>
    intro _
    unfold bm
    split
    · rcases Nat.eq_zero_or_pos k with q | q
      · rw [q]; exact Nat.zero_lt_one
      · have := ih q; omega
    · omega
theorem bm_congr {f g : Nat → Int32} : ∀ k, (∀ i, i < k → f i = g i) → bm f k = bm g k := by
  intro k
  induction k with
  | zero => intro _; rfl
  | succ k ih =>
    intro e
    have e1 := ih (fun i hi => e i (by omega))
    unfold bm
    rw [← e1]
    have e2 : f (bm f k) = g (bm f k) := by
      rcases Nat.eq_zero_or_pos k with q | q
      · rw [q]; exact e 0 (by omega)
      · exact e _ (by have := bm_lt f k q; omega)
    rw [e k (by omega), e2]
theorem xt_most {n : Nat} {M : zMem} {Q : Int32 → zMem → Prop} (ht : ztc (M 32 0) = 1) (hn : M 1 0 = nI n) (n1 : 1 ≤ n) (n8 : n ≤ 8) (hQ : Q (if M 40 (bm (M 40) n) ≤ 0 then -4 else nI (bm (M 40) n)) M) : wp_Bench_mostStoodAt 32 M Q := by
  refine zlp2_r (fun m x y M' => ∃ k, x = nI (bm (M 40) k) ∧ y = nI k ∧ 1 ≤ k ∧ k ≤ n ∧ m = n - k ∧ M' = M) ?_ (n := n - 1) ⟨1, by unfold bm; rw [show bm (M 40) 0 = 0 from rfl, if_pos (Int32.le_refl _)]; rfl, rfl, by omega, n1, rfl, rfl⟩
  rintro m x y M' ⟨k, ex, ey, k1, hk, em, eM⟩ J hJ
  have hb := bm_lt (M 40) k (by omega)
  rw [eM, ex, ey]
  unfold wpB_Bench_mostStoodAt_4
  rw [ht, hn, q_ix (by omega), q_ix (by omega)]
  refine ⟨fun c => ?_, fun c => ?_⟩
  · have := (nI_leI (by omega) (by omega)).mp c
    have e : k = n := by omega
    rw [e] at hb ⊢
    refine ⟨vp_in_nI (by omega) (by omega), fun d => ?_, fun d => ?_⟩
    · have d' : M 40 (bm (M 40) n) ≤ 0 := d
      rw [if_pos d'] at hQ
      exact hQ
    · have d' : ¬ M 40 (bm (M 40) n) ≤ 0 := d
      rw [if_neg d'] at hQ
      exact hQ
  · have hk2 : k < n := (nI_ltI (by omega) (by omega)).mp (Int32.not_le.mp c)
    refine ⟨vp_in_nI (by omega) (by omega), vp_in_nI (by omega) (by omega), fun d v ev => ?_, fun d v ev => ?_⟩
    · have d' : M 40 k ≤ M 40 (bm (M 40) k) := d
      rw [ev, nI_1]
      exact hJ (n - (k + 1)) _ _ _ (by omega) ⟨k + 1, by rw [bm, if_pos d'], rfl, by omega, by omega, rfl, rfl⟩
    · have d' : ¬ M 40 k ≤ M 40 (bm (M 40) k) := d
      rw [ev, nI_1]
      exact hJ (n - (k + 1)) _ _ _ (by omega) ⟨k + 1, by rw [bm, if_neg d'], rfl, by omega, by omega, rfl, rfl⟩
theorem mw_sum {n H L : Nat} {a1 a2 x4 x5 : Int32} {R W : zMem} {K : Int32 → zMem → Prop} {Q : Int32 → zMem → Prop} (w : mr W R 1 1 32 n H L (fun h => h)) (H5 : H ≤ 5) (hK : K (wsum (R 38) H) W) : ∃ k, zlp2 (wpB_Model_run_43 a1 a2 x4 x5 K Q) k 0 0 W := by
  have h18 : W 0 18 = nI H := w.2.1.2.1
  refine zlp2_r (fun m x y W' => ∃ h, x = wsum (R 38) h ∧ y = nI h ∧ h ≤ H ∧ m = H - h ∧ W' = W) ?_ (n := H) ⟨0, rfl, rfl, by omega, rfl, rfl⟩
  rintro m x y W' ⟨h, ex, ey, hh, em, eW⟩ J hJ
  rw [eW, ey]
  unfold wpB_Model_run_43
  rw [h18]
  refine ⟨fun c => ?_, fun c => ?_⟩
  · have := (nI_leI (by omega) (by omega)).mp c
    have e : h = H := by omega
    rw [ex, e]
    exact hK
  · have hh2 : h < H := (nI_ltI (by omega) (by omega)).mp (Int32.not_le.mp c)
    show wp_Model_at (nI 1) (nI h) (nI 5) W _
    rw [e_at (by omega) (by omega) (by omega), if_neg (by omega), q_x0, (w.2.2.2.1 h hh2).2.2.1]
    intro u eu v ev
    rw [ev, nI_1]
    exact hJ (H - (h + 1)) _ _ _ (by omega) ⟨h + 1, by rw [eu, ex]; rfl, rfl, by omega, rfl, rfl⟩
theorem mw_most {n H L : Nat} {a1 a2 x3 : Int32} {R W : zMem} {K : Int32 → zMem → Prop} {Q : Int32 → zMem → Prop} (w : mr W R 1 1 32 n H L (fun h => h)) (s : ms W R 1 32 n) (n1 : 1 ≤ n) (n8 : n ≤ 8) (hK : K (if R 40 (bm (R 40) n) ≤ 0 then -4 else nI (bm (R 40) n)) W) : ∃ k, zlp3 (wpB_Model_run_72 a1 a2 x3 K Q) k (-4) 0 0 W := by
  have h40 : W 4 0 = nI n := w.2.1.1
  have hs : ∀ p, p < n → W 11 p = R 40 p := s rfl
  refine zlp3_r (fun m x y v W' => ∃ k, v = nI k ∧ k ≤ n ∧ m = n - k ∧ W' = W ∧ ((x = -4 ∧ y = 0 ∧ (0 < k → R 40 (bm (R 40) k) ≤ 0)) ∨ (0 < k ∧ 0 < R 40 (bm (R 40) k) ∧ x = nI (bm (R 40) k) ∧ y = R 40 (bm (R 40) k)))) ?_ (n := n) ⟨0, rfl, by omega, rfl, rfl, Or.inl ⟨rfl, rfl, fun q => absurd q (by omega)⟩⟩
  rintro m x y v W' ⟨k, ev, hk, em, eW, hx⟩ J hJ
  rw [eW, ev]
  unfold wpB_Model_run_72
  rw [show ix 0 = 0 from rfl, h40]
  refine ⟨vp_in_nI (n := 0) (by omega) (by omega), fun c => ?_, fun c => ?_⟩
  · have := (nI_leI (by omega) (by omega)).mp c
    have e : k = n := by omega
    rw [e] at hx
    rcases hx with ⟨q1, -, q3⟩ | ⟨-, q2, q3, -⟩
    · rw [if_pos (q3 (by omega))] at hK
      rw [q1]; exact hK
    · rw [if_neg (Int32.not_le.mpr q2)] at hK
      rw [q3]; exact hK
  · have hk2 : k < n := (nI_ltI (by omega) (by omega)).mp (Int32.not_le.mp c)
    have v8 : vp_in (nI k) 8 := vp_in_nI (by omega) (by omega)
    have ew := hs k hk2
    have keep : W 11 k ≤ y → wpJ_Model_run_102 a1 a2 K J Q x3 y (nI k) x W := by
      intro d
      refine ⟨v8, fun _ u eu => ?_, fun q => absurd (by rw [q_ix (by omega)]; exact d) q⟩
      rw [eu, nI_1]
      refine hJ (n - (k + 1)) _ _ _ _ (by omega) ⟨k + 1, rfl, by omega, rfl, rfl, ?_⟩
      rw [ew] at d
      rcases hx with ⟨q1, q2, q3⟩ | ⟨q0, q1, q2, q3⟩
      · rw [q2] at d
        refine Or.inl ⟨q1, q2, fun _ => ?_⟩
        rw [bm]
        split
        · rcases Nat.eq_zero_or_pos k with z | z
          · rw [z] at d ⊢; exact d
          · exact q3 z
        · exact d
      · rw [q3] at d
        have eb : bm (R 40) (k + 1) = bm (R 40) k := by rw [bm, if_pos d]
        rw [eb]
        exact Or.inr ⟨by omega, q1, q2, q3⟩
    have take : ¬ W 11 k ≤ y → wpJ_Model_run_102 a1 a2 K J Q x3 y (nI k) (nI k) W := by
      intro d
      refine ⟨v8, fun q => absurd (by rw [q_ix (by omega)] at q; exact q) d, fun _ => ⟨v8, fun u eu u2 eu2 => ?_⟩⟩
      rw [q_ix (by omega), ew] at eu
      rw [eu, eu2, nI_1]
      refine hJ (n - (k + 1)) _ _ _ _ (by omega) ⟨k + 1, rfl, by omega, rfl, rfl, ?_⟩
      rw [ew] at d
      have d2 := Int32.not_le.mp d
      rcases hx with ⟨q1, q2, q3⟩ | ⟨q0, q1, q2, q3⟩
      · rw [q2] at d2
        have eb : bm (R 40) (k + 1) = k := by
          rw [bm]
          split
          · rename_i q
            rcases Nat.eq_zero_or_pos k with z | z
            · rw [z]; rfl
            · exact absurd (Int32.lt_of_lt_of_le d2 (Int32.le_trans q (q3 z))) (Int32.lt_irrefl)
          · rfl
        rw [eb]
        exact Or.inr ⟨by omega, d2, rfl, rfl⟩
      · rw [q3] at d d2
        have eb : bm (R 40) (k + 1) = k := by rw [bm, if_neg d]
        rw [eb]
        exact Or.inr ⟨by omega, Int32.lt_trans q1 d2, rfl, rfl⟩
    refine ⟨v8, fun d => keep ?_, fun d => take ?_⟩
    · rw [q_ix (by omega)] at d; exact d
    · rw [q_ix (by omega)] at d; exact d
theorem p_run {n H L : Nat} {M W : zMem} {a1 a2 : Int32} {P : zMem → zMem → Prop} (vt : sp_vt M 1 n H L) (r : rt0 W M n H L) (ht : ztc (M 32 0) = 1) (hcc : cc M n H L) (hP0 : P M W)
    (hP : ∀ M' W', cc M' n H L → cfc M M' → mfy W W' → P M' W') : wp_Main_run a1 a2 M (fun x M' => wp_Model_run a1 a2 W (fun y W' => x = y ∧ P M' W')) := by
  obtain ⟨⟨n1, n8, H1, H5, L1, L6⟩, hn, hH, -⟩ := id vt
  refine xt_isRun (fun m m1 hm em => ⟨fun q => absurd q (by decide), fun _ => ?_⟩) (fun nr => ⟨fun _ => run_no nr ⟨fun _ => ⟨rfl, hP0⟩, fun q => absurd rfl q⟩, fun q => absurd rfl q⟩)
  subst em
  have bad : ¬ (0 ≤ a2 ∧ a2 ≤ 5) → wp_Model_run (nI m) a2 W (fun y W' => -1 = y ∧ P M W') := fun q => run_yes m1 hm ⟨fun q => absurd q (by decide), fun _ => in_no (hi := 5) rfl q ⟨fun q => absurd rfl q, fun _ => ⟨rfl, hP0⟩⟩⟩
  refine ⟨fun c => bad (fun q => absurd c (Int32.not_lt.mpr q.1)), fun c => ⟨fun c2 => ?_, fun c2 => bad (fun q => c2 q.2)⟩⟩
  obtain ⟨j, hj, rfl⟩ := nI_of2 (x := a2) (M := 5) (n := 5) rfl c c2
  refine xt_course vt ht hcc m1 hm (fun M' R hr e30 e2 e3 e32 fr => ?_)
  have ccM := cc.of m1 hm hr e30 e2 e3 fr
  have way : ∀ x : Int32, (∀ W', mr W' R 1 1 32 n H L (fun h => h) → W' 6 99 = 0 → (j < 4 → x = W' 6 (96 + j)) ∧ (j = 4 → x = wsum (R 38) H) ∧ (j = 5 → x = if R 40 (bm (R 40) n) ≤ 0 then -4 else nI (bm (R 40) n))) → wp_Model_run (nI m) (nI j) W (fun v W' => x = v ∧ P M' W') := by
    intro x hx
    refine run_yes m1 hm ⟨fun q => absurd q (by decide), fun _ => in_yes (hi := 5) rfl (by omega) (by omega) ⟨fun _ => ?_, fun q => absurd q (by decide)⟩⟩
    refine mw_course vt r hm hr (fun W' w1 w2 w3 w4 => ?_)
    have pp := hP M' W' ccM ⟨e32, fr⟩ w4
    obtain ⟨x1, x2, x3⟩ := hx W' w1 w3
    refine mw_sum w1 H5 (mw_most w1 w2 n1 n8 ⟨fun d => ?_, fun d => ?_⟩)
    · have d4 := (nI_leI (a := 4) (by omega) (by omega)).mp d
      refine ⟨fun q => ⟨x3 ?_, pp⟩, fun q => ⟨x2 ?_, pp⟩⟩
      · rcases (show j = 4 ∨ j = 5 by omega) with z | z
        · rw [z] at q; exact absurd rfl q
        · exact z
      · exact (nI_eq (b := 4) (by omega) (by omega)).mp q
    · have d4 : j < 4 := (nI_ltI (b := 4) (by omega) (by omega)).mp (Int32.not_le.mp d)
      have e5 : 96 * 1 + nI j = nI (96 + j) := by simp (disch := omega) only [q_lit, q_add, q_mul, q_sub, q_ix, q_in, q_lt, q_le, q_eq, q_nlt, q_nle, q_ltn, q_len, q_neq, q_eqn, zup_ne, zup_eq, zset_ne, zset_eq, upd_eq, upd_ne, forall_eq, true_and, and_true, true_implies, false_implies, implies_true, not_true_eq_false, not_false_eq_true, and_self, ↓reduceIte, false_and, and_false]
      unfold wp_Model_of
      rw [e5, q_ix (by omega)]
      exact ⟨vp_in_nI (by omega) (by omega), x1 d4, pp⟩
  have t1 : M' 1 = M 1 := fr 1 (by omega)
  have h32 : M' 32 = R 32 := e30 32 (by omega) (by omega)
  have h38 : M' 38 = R 38 := e30 38 (by omega) (by omega)
  have h40 : M' 40 = R 40 := e30 40 (by omega) (by omega)
  intro x ex
  refine ⟨fun q => ?_, fun q => ?_, fun q => ?_, fun q => ⟨fun _ => ?_, fun z => absurd e3 z⟩, fun q => ?_, fun q0 q1 q2 q3 q4 => ?_⟩
  · have ej : j = 0 := (nI_eq (b := 0) (by omega) (by omega)).mp (ex.symm.trans q)
    refine way _ (fun W' w1 w3 => ⟨fun _ => ?_, fun z => absurd z (by omega), fun z => absurd z (by omega)⟩)
    rw [ej, h32]; exact w1.2.2.2.2.1.1.symm
  · have ej : j = 1 := (nI_eq (b := 1) (by omega) (by omega)).mp (ex.symm.trans q)
    refine way _ (fun W' w1 w3 => ⟨fun _ => ?_, fun z => absurd z (by omega), fun z => absurd z (by omega)⟩)
    rw [ej, h32]; exact w1.2.2.2.2.1.2.1.symm
  · have ej : j = 2 := (nI_eq (b := 2) (by omega) (by omega)).mp (ex.symm.trans q)
    refine way _ (fun W' w1 w3 => ⟨fun _ => ?_, fun z => absurd z (by omega), fun z => absurd z (by omega)⟩)
    rw [ej, h32]; exact w1.2.2.2.2.1.2.2.1.symm
  · have ej : j = 3 := (nI_eq (b := 3) (by omega) (by omega)).mp (ex.symm.trans q)
    refine way _ (fun W' w1 w3 => ⟨fun _ => ?_, fun z => absurd z (by omega), fun z => absurd z (by omega)⟩)
    rw [ej]; exact w3.symm
  · have ej : j = 4 := (nI_eq (b := 4) (by omega) (by omega)).mp (ex.symm.trans q)
    refine xt_waited (by rw [e32]; exact ht) (by rw [t1]; exact hH) H5 (way _ (fun W' w1 w3 => ⟨fun z => absurd z (by omega), fun _ => by rw [h38], fun z => absurd z (by omega)⟩))
  · have ej : j = 5 := by
      rcases (show j = 0 ∨ j = 1 ∨ j = 2 ∨ j = 3 ∨ j = 4 ∨ j = 5 by omega) with z | z | z | z | z | z
      · rw [z] at ex; exact absurd ex q0
      · rw [z] at ex; exact absurd ex q1
      · rw [z] at ex; exact absurd ex q2
      · rw [z] at ex; exact absurd ex q3
      · rw [z] at ex; exact absurd ex q4
      · exact z
    refine xt_most (by rw [e32]; exact ht) (by rw [t1]; exact hn) n1 n8 (way _ (fun W' w1 w3 => ⟨fun z => absurd z (by omega), fun z => absurd z (by omega), fun _ => by rw [h40]⟩))
/-- two benches, each of its own memory, that go the same way -/
def ag (b b' H : Nat) (M N : zMem) : Prop :=
  ((∀ j, j ≤ 6 → M 1 j = N 1 j) ∧ (∀ j, j < 6 → M 2 j = N 2 j) ∧ (∀ j, j < 24 → M 3 j = N 3 j) ∧ (∀ j, j < 40 → M 4 j = N 4 j) ∧ (∀ j, j < 5 → M 5 j = N 5 j)) ∧
  (∀ j, 2 ≤ j → j ≤ 5 → M b j = N b' j) ∧
  (∀ h, h < H → M (b + 1) h = N (b' + 1) h ∧ M (b + 2) h = N (b' + 2) h ∧ M (b + 3) h = N (b' + 3) h ∧ (M (b + 3) h = -1 ∨ (M (b + 4) h = N (b' + 4) h ∧ M (b + 5) h = N (b' + 5) h))) ∧
  (∀ j, j < 40 → M (b + 7) j = N (b' + 7) j)
theorem ag_start {b b' n H L h : Nat} {M N : zMem} (a : ag b b' H M N) (hb : 18 ≤ b) (hb' : 18 ≤ b') (hh : h < H) (H5 : H ≤ 5) (p : Nat) (hp : p < 8) (ep : M (b + 3) h = nI p) : ag b b' H (sp_start 1 b h M) (sp_start 1 b' h N) := by
  obtain ⟨⟨t0, t1, t2, t3, t4⟩, a1, a2, a3⟩ := a
  have ep' : N (b' + 3) h = nI p := by rw [← (a2 h hh).2.2.1]; exact ep
  have et : sp_ticks 1 h (ix (M (b + 3) h)) (M (b + 7) (h * 8 + ix (M (b + 3) h))) M = sp_ticks 1 h (ix (N (b' + 3) h)) (N (b' + 7) (h * 8 + ix (N (b' + 3) h))) N := by
    rw [ep, ep', q_ix (by omega)]
    unfold sp_ticks
    rw [a3 (h * 8 + p) (by omega), t0 3 (by omega), show M (1 + 3) (h * 8 + p) = N (1 + 3) (h * 8 + p) from t3 _ (by omega)]
  unfold sp_start
  rw [et]
  refine ⟨⟨fun j hj => ?_, fun j hj => ?_, fun j hj => ?_, fun j hj => ?_, fun j hj => ?_⟩, fun j h2 h5 => ?_, fun i hi => ?_, fun j hj => ?_⟩
  · rw [zup_ne (by omega), zup_ne (by omega), zup_ne (by omega), zup_ne (by omega)]; exact t0 j hj
  · rw [zup_ne (by omega), zup_ne (by omega), zup_ne (by omega), zup_ne (by omega)]; exact t1 j hj
  · rw [zup_ne (by omega), zup_ne (by omega), zup_ne (by omega), zup_ne (by omega)]; exact t2 j hj
  · rw [zup_ne (by omega), zup_ne (by omega), zup_ne (by omega), zup_ne (by omega)]; exact t3 j hj
  · rw [zup_ne (by omega), zup_ne (by omega), zup_ne (by omega), zup_ne (by omega)]; exact t4 j hj
  · rw [zup_ne (by omega), zup_ne (by omega), zup_ne (by omega), zup_ne (by omega)]; exact a1 j h2 h5
  · obtain ⟨c1, c2, c3, c4⟩ := a2 i hi
    by_cases q : i = h
    · subst q
      simp (disch := omega) only [zup_ne, zup_eq, upd_eq]
      exact ⟨trivial, trivial, c3, c4⟩
    · simp (disch := omega) only [zup_ne, zup_eq, upd_ne]
      exact ⟨c1, c2, c3, c4⟩
  · rw [zup_ne (by omega), zup_ne (by omega), zup_ne (by omega), zup_ne (by omega)]; exact a3 j hj
theorem ag_mk {b b' H : Nat} {M N M' N' : zMem} (a : ag b b' H M N) (hM : ∀ i, i ≤ 4 → M' (1 + i) = M (1 + i)) (hN : ∀ i, i ≤ 4 → N' (1 + i) = N (1 + i)) (h5 : ∀ j, 2 ≤ j → j ≤ 5 → M' b j = N' b' j)
    (hh : ∀ h, h < H → M' (b + 1) h = N' (b' + 1) h ∧ M' (b + 2) h = N' (b' + 2) h ∧ M' (b + 3) h = N' (b' + 3) h ∧ (M' (b + 3) h = -1 ∨ (M' (b + 4) h = N' (b' + 4) h ∧ M' (b + 5) h = N' (b' + 5) h))) (h7 : ∀ j, j < 40 → M' (b + 7) j = N' (b' + 7) j) : ag b b' H M' N' := by
  obtain ⟨⟨t0, t1, t2, t3, t4⟩, -, -, -⟩ := a
  have m0 : M' 1 = M 1 := hM 0 (by omega)
  have m1 : M' 2 = M 2 := hM 1 (by omega)
  have m2 : M' 3 = M 3 := hM 2 (by omega)
  have m3 : M' 4 = M 4 := hM 3 (by omega)
  have m4 : M' 5 = M 5 := hM 4 (by omega)
  have n0 : N' 1 = N 1 := hN 0 (by omega)
  have n1 : N' 2 = N 2 := hN 1 (by omega)
  have n2 : N' 3 = N 3 := hN 2 (by omega)
  have n3 : N' 4 = N 4 := hN 3 (by omega)
  have n4 : N' 5 = N 5 := hN 4 (by omega)
  exact ⟨⟨by rw [m0, n0]; exact t0, by rw [m1, n1]; exact t1, by rw [m2, n2]; exact t2, by rw [m3, n3]; exact t3, by rw [m4, n4]; exact t4⟩, h5, hh, h7⟩
theorem ag_goBack {b b' H h : Nat} {f : Int32} {M N : zMem} (a : ag b b' H M N) (hb : 18 ≤ b) (hb' : 18 ≤ b') (hh : h < H) : ag b b' H (sp_goBack 1 b h f M) (sp_goBack 1 b' h f N) := by
  have ew : sp_wl 1 b h f M = sp_wl 1 b' h f N := by
    unfold sp_wl sp_way
    rw [a.1.1 2 (by omega)]
    by_cases z : h = 0
    · rw [if_pos z, if_pos z]
    · rw [if_neg z, if_neg z, (a.2.2.1 (h - 1) (by omega)).2.2.1]
  unfold sp_goBack
  rw [ew]
  refine ag_mk a (fun i hi => ?_) (fun i hi => ?_) (fun j h2 h5 => ?_) (fun i hi => ?_) (fun j hj => ?_)
  · rw [zup_ne (by omega), zup_ne (by omega), zup_ne (by omega)]
  · rw [zup_ne (by omega), zup_ne (by omega), zup_ne (by omega)]
  · rw [zup_ne (by omega), zup_ne (by omega), zup_ne (by omega), zup_ne (by omega), zup_ne (by omega), zup_ne (by omega)]; exact a.2.1 j h2 h5
  · obtain ⟨c1, c2, c3, c4⟩ := a.2.2.1 i hi
    by_cases q : i = h
    · subst q
      simp (disch := omega) only [zup_ne, zup_eq, upd_eq]
      exact ⟨trivial, trivial, trivial, Or.inl trivial⟩
    · simp (disch := omega) only [zup_ne, zup_eq, upd_ne]
      exact ⟨c1, c2, c3, c4⟩
  · rw [zup_ne (by omega), zup_ne (by omega), zup_ne (by omega), zup_ne (by omega), zup_ne (by omega), zup_ne (by omega)]; exact a.2.2.2 j hj
theorem ag_new {b b' n H L pl s : Nat} {M N : zMem} (a : ag b b' H M N) (hb : 18 ≤ b) (hb' : 18 ≤ b') (hn : M 1 0 = nI n) (n8 : n ≤ 8) (hpl : M b 5 = nI pl) (hpl6 : pl < 6) (es : M 2 pl = nI s) (hs : s < 3) (H0 : 0 < H) : ag b b' H (sp_new 1 b M) (sp_new 1 b' N) := by
  have f5 : N b' 5 = nI pl := by rw [← a.2.1 5 (by omega) (by omega)]; exact hpl
  have fs : N 2 pl = nI s := by rw [← a.1.2.1 pl hpl6]; exact es
  have fn : N 1 0 = nI n := by rw [← a.1.1 0 (by omega)]; exact hn
  have eq : sp_pf (fun i => M (1 + 2) (s * 8 + i)) n 0 = sp_pf (fun i => N (1 + 2) (s * 8 + i)) n 0 := sp_pf_congr n 0 (fun i _ hi => a.1.2.2.1 _ (by omega))
  have e6 : M 1 6 = N 1 6 := a.1.1 6 (by omega)
  unfold sp_new
  have g1 : M (1 + 1) pl = nI s := es
  have g2 : N (1 + 1) pl = nI s := fs
  simp only [hpl, f5, q_ix (show pl < 2147483648 by omega), g1, g2, q_ix (show s < 2147483648 by omega), hn, fn, q_ix (show n < 2147483648 by omega), eq, e6]
  refine ag_mk a (fun i hi => ?_) (fun i hi => ?_) (fun j h2 h5 => ?_) (fun i hi => ?_) (fun j hj => ?_)
  · simp (disch := omega) only [zup_ne]
  · simp (disch := omega) only [zup_ne]
  · simp (disch := omega) only [zup_ne, zup_eq]
    by_cases q : j = 5
    · rw [q, upd_eq, upd_eq]
    · rw [upd_ne q, upd_ne q]; exact a.2.1 j h2 h5
  · obtain ⟨c1, c2, c3, c4⟩ := a.2.2.1 i hi
    by_cases q : i = 0
    · subst q
      simp (disch := omega) only [zup_ne, zup_eq, upd_eq]
      exact ⟨trivial, c2, trivial, Or.inr ⟨trivial, trivial⟩⟩
    · simp (disch := omega) only [zup_ne, zup_eq, upd_ne]
      exact ⟨c1, c2, c3, c4⟩
  · simp (disch := omega) only [zup_ne]
    exact a.2.2.2 j hj
theorem ag_cells {b b' H : Nat} {M N M' N' : zMem} (a : ag b b' H M N) (hM : ∀ k, (k ≤ 5 ∨ (b ≤ k ∧ k ≤ b + 8)) → M' k = M k) (hN : ∀ k, (k ≤ 5 ∨ (b' ≤ k ∧ k ≤ b' + 8)) → N' k = N k) : ag b b' H M' N' := by
  refine ag_mk a (fun i hi => hM _ (by omega)) (fun i hi => hN _ (by omega)) (fun j h2 h5 => ?_) (fun h hh => ?_) (fun j hj => ?_)
  · rw [hM b (by omega), hN b' (by omega)]; exact a.2.1 j h2 h5
  · rw [hM (b + 1) (by omega), hN (b' + 1) (by omega), hM (b + 2) (by omega), hN (b' + 2) (by omega), hM (b + 3) (by omega), hN (b' + 3) (by omega), hM (b + 4) (by omega), hN (b' + 4) (by omega), hM (b + 5) (by omega), hN (b' + 5) (by omega)]; exact a.2.2.1 h hh
  · rw [hM (b + 7) (by omega), hN (b' + 7) (by omega)]; exact a.2.2.2 j hj
theorem sp_take_eq {b h : Nat} {M : zMem} (hb : 18 ≤ b) : ∃ X, sp_take 1 b h M = sp_goBack 1 b (h - 1) (M (b + 3) (h - 1)) X ∧ ∀ k, (k ≤ 5 ∨ (b ≤ k ∧ k ≤ b + 8)) → X k = zup (zup (zup (zup (zup M (b + 1) h 2) (b + 3) h (M (b + 3) (h - 1))) (b + 4) h (M (b + 4) (h - 1))) (b + 5) h (M (b + 5) (h - 1))) b 4 (M b 4 + 1) k := by
  unfold sp_take
  rcases zlg_cases b with c | ⟨c, hb32⟩
  · rw [c]
    exact ⟨_, rfl, fun _ _ => rfl⟩
  · rw [c]
    exact ⟨_, rfl, fun k hk => e_note_ne (by omega) (by omega)⟩
theorem ag_take {b b' H h : Nat} {M N : zMem} (a : ag b b' H M N) (hb : 18 ≤ b) (hb' : 18 ≤ b') (h0 : 0 < h) (hh : h < H) (hp : M (b + 3) (h - 1) ≠ -1) : ag b b' H (sp_take 1 b h M) (sp_take 1 b' h N) := by
  obtain ⟨X, x1, x2⟩ := sp_take_eq (h := h) (M := M) hb
  obtain ⟨Y, y1, y2⟩ := sp_take_eq (h := h) (M := N) hb'
  obtain ⟨d1, d2, d3, d4⟩ := a.2.2.1 (h - 1) (by omega)
  have d4 := d4.resolve_left hp
  rw [x1, y1, d3]
  refine ag_goBack (ag_cells ?_ x2 y2) hb hb' (by omega)
  rw [← d3, ← d4.1, ← d4.2, ← a.2.1 4 (by omega) (by omega)]
  refine ag_mk a (fun i hi => ?_) (fun i hi => ?_) (fun j h2 h5 => ?_) (fun i hi => ?_) (fun j hj => ?_)
  · simp (disch := omega) only [zup_ne]
  · simp (disch := omega) only [zup_ne]
  · simp (disch := omega) only [zup_ne, zup_eq]
    by_cases q : j = 4
    · rw [q, upd_eq, upd_eq]
    · rw [upd_ne q, upd_ne q]; exact a.2.1 j h2 h5
  · obtain ⟨c1, c2, c3, c4⟩ := a.2.2.1 i hi
    by_cases q : i = h
    · subst q
      simp (disch := omega) only [zup_ne, zup_eq, upd_eq]
      exact ⟨trivial, c2, trivial, Or.inr ⟨trivial, trivial⟩⟩
    · simp (disch := omega) only [zup_ne, zup_eq, upd_ne]
      exact ⟨c1, c2, c3, c4⟩
  · simp (disch := omega) only [zup_ne]
    exact a.2.2.2 j hj
theorem ag_finish {b b' n H h p u s : Nat} {M N : zMem} (a : ag b b' H M N) (hb : 18 ≤ b) (hb' : 18 ≤ b') (hh : h < H) (H5 : H ≤ 5) (hn : M 1 0 = nI n) (n8 : n ≤ 8) (ep : M (b + 3) h = nI p) (hp : p < n) (eu : M (b + 4) h = nI u) (es : M (b + 5) h = nI s) (hs : s < 3) : ag b b' H (sp_finish 1 b h M) (sp_finish 1 b' h N) := by
  obtain ⟨d1, d2, d3, d4⟩ := a.2.2.1 h hh
  have hne : ¬ M (b + 3) h = -1 := by
    rw [ep]
    exact fun q => (q_neq (a := p) (c := 1) (by omega) (by omega) (by omega)).mp q
  have d4 := d4.resolve_left hne
  have ep' : N (b' + 3) h = nI p := by rw [← d3]; exact ep
  have eu' : N (b' + 4) h = nI u := by rw [← d4.1]; exact eu
  have es' : N (b' + 5) h = nI s := by rw [← d4.2]; exact es
  have fn : N 1 0 = nI n := by rw [← a.1.1 0 (by omega)]; exact hn
  have e7 : M (b + 7) (h * 8 + p) = N (b' + 7) (h * 8 + p) := a.2.2.2 _ (by omega)
  have e3 : M (1 + 2) (s * 8 + p) = N (1 + 2) (s * 8 + p) := a.1.2.2.1 _ (by omega)
  have eq : sp_pf (fun i => M (1 + 2) (s * 8 + i)) (n - (p + 1)) (p + 1) = sp_pf (fun i => N (1 + 2) (s * 8 + i)) (n - (p + 1)) (p + 1) := sp_pf_congr _ _ (fun i _ hi => a.1.2.2.1 _ (by omega))
  have e33 : M b 3 = N b' 3 := a.2.1 3 (by omega) (by omega)
  unfold sp_finish
  simp only [ep, ep', eu, eu', es, es', hn, fn, q_ix (show p < 2147483648 by omega), q_ix (show s < 2147483648 by omega), q_ix (show n < 2147483648 by omega), e7, e3, eq, e33]
  have base : ∀ x y : Int32, ag b b' H (zup (zup (zup M (b + 7) (h * 8 + p) x) (b + 1) h 2) (b + 4) h y) (zup (zup (zup N (b' + 7) (h * 8 + p) x) (b' + 1) h 2) (b' + 4) h y) := by
    intro x y
    refine ag_mk a (fun i hi => ?_) (fun i hi => ?_) (fun j h2 h5 => ?_) (fun i hi => ?_) (fun j hj => ?_)
    · simp (disch := omega) only [zup_ne]
    · simp (disch := omega) only [zup_ne]
    · simp (disch := omega) only [zup_ne]; exact a.2.1 j h2 h5
    · obtain ⟨c1, c2, c3, c4⟩ := a.2.2.1 i hi
      by_cases q : i = h
      · subst q
        simp (disch := omega) only [zup_ne, zup_eq, upd_eq]
        exact ⟨trivial, c2, c3, Or.inr ⟨trivial, d4.2⟩⟩
      · simp (disch := omega) only [zup_ne, zup_eq, upd_ne]
        exact ⟨c1, c2, c3, c4⟩
    · simp (disch := omega) only [zup_ne, zup_eq]
      by_cases q : j = h * 8 + p
      · rw [q, upd_eq, upd_eq]
      · rw [upd_ne q, upd_ne q]; exact a.2.2.2 j hj
  split
  · exact base _ _
  · split
    · have a1 := base (N (b' + 7) (h * 8 + p) + 1) (nI u + 1)
      have s5 : zup (zup (zup M (b + 7) (h * 8 + p) (N (b' + 7) (h * 8 + p) + 1)) (b + 1) h 2) (b + 4) h (nI u + 1) (b + 5) h = zup (zup (zup N (b' + 7) (h * 8 + p) (N (b' + 7) (h * 8 + p) + 1)) (b' + 1) h 2) (b' + 4) h (nI u + 1) (b' + 5) h := by
        simp (disch := omega) only [zup_ne]
        exact d4.2
      generalize zup (zup (zup M (b + 7) (h * 8 + p) (N (b' + 7) (h * 8 + p) + 1)) (b + 1) h 2) (b + 4) h (nI u + 1) = X at a1 s5 ⊢
      generalize zup (zup (zup N (b' + 7) (h * 8 + p) (N (b' + 7) (h * 8 + p) + 1)) (b' + 1) h 2) (b' + 4) h (nI u + 1) = Y at a1 s5 ⊢
      refine ag_mk a1 (fun i hi => ?_) (fun i hi => ?_) (fun j h2 h5 => ?_) (fun i hi => ?_) (fun j hj => ?_)
      · simp (disch := omega) only [zup_ne]
      · simp (disch := omega) only [zup_ne]
      · simp (disch := omega) only [zup_ne]; exact a1.2.1 j h2 h5
      · obtain ⟨c1, c2, c3, c4⟩ := a1.2.2.1 i hi
        by_cases q : i = h
        · subst q
          simp (disch := omega) only [zup_ne, zup_eq, upd_eq]
          exact ⟨c1, c2, trivial, Or.inr ⟨trivial, s5⟩⟩
        · simp (disch := omega) only [zup_ne, zup_eq, upd_ne]
          exact ⟨c1, c2, c3, c4⟩
      · simp (disch := omega) only [zup_ne]; exact a1.2.2.2 j hj
    · refine ag_goBack ?_ hb hb' hh
      have a1 := base (N (b' + 7) (h * 8 + p) + 1) (nI u + 1)
      generalize zup (zup (zup M (b + 7) (h * 8 + p) (N (b' + 7) (h * 8 + p) + 1)) (b + 1) h 2) (b + 4) h (nI u + 1) = X at a1 ⊢
      generalize zup (zup (zup N (b' + 7) (h * 8 + p) (N (b' + 7) (h * 8 + p) + 1)) (b' + 1) h 2) (b' + 4) h (nI u + 1) = Y at a1 ⊢
      refine ag_mk a1 (fun i hi => ?_) (fun i hi => ?_) (fun j h2 h5 => ?_) (fun i hi => ?_) (fun j hj => ?_)
      · simp (disch := omega) only [zup_ne]
      · simp (disch := omega) only [zup_ne]
      · rw [zup_eq, zup_eq]
        by_cases q : j = 3
        · rw [q, upd_eq, upd_eq]
        · rw [upd_ne q, upd_ne q]; exact a1.2.1 j h2 h5
      · simp (disch := omega) only [zup_ne]; exact a1.2.2.1 i hi
      · simp (disch := omega) only [zup_ne]; exact a1.2.2.2 j hj
theorem ag_can {b b' n H L h : Nat} {M N : zMem} (a : ag b b' H M N) (hh : h < H) (H5 : H ≤ 5) (hp : M (b + 3) h ≠ -1) : sp_can 1 b h M ↔ sp_can 1 b' h N := by
  obtain ⟨d1, d2, d3, d4⟩ := a.2.2.1 h hh
  have d4 := d4.resolve_left hp
  unfold sp_can
  rw [d3, d4.1, a.1.1 5 (by omega), a.1.1 4 (by omega), show M (1 + 4) h = N (1 + 4) h from a.1.2.2.2.2 h (by omega)]
theorem ag_may {b b' n H L h : Nat} {M N : zMem} (a : ag b b' H M N) (hH : M 1 1 = nI H) (hh : h < H) (H5 : H ≤ 5) (hp : M (b + 3) h ≠ -1) : sp_may 1 b h M ↔ sp_may 1 b' h N := by
  obtain ⟨d1, d2, d3, d4⟩ := a.2.2.1 h hh
  have d4 := d4.resolve_left hp
  have hH' : N 1 1 = nI H := by rw [← a.1.1 1 (by omega)]; exact hH
  have hd : sp_held 1 b h M ↔ sp_held 1 b' h N := by
    unfold sp_held
    rw [hH, hH']
    by_cases c : h + 1 < H
    · obtain ⟨e1, e2, e3, e4⟩ := a.2.2.1 (h + 1) c
      rw [d3, e3, d4.1]
      rcases e4 with q | q
      · have q' : N (b' + 3) (h + 1) = -1 := by rw [← e3]; exact q
        have lt : N (b' + 3) (h + 1) < 0 := by rw [q']; decide
        exact ⟨fun z => absurd lt z.2.1, fun z => absurd lt z.2.1⟩
      · rw [q.1]
    · have nl : ¬ nI (h + 1) < nI H := fun q => c ((nI_ltI (by omega) (by omega)).mp q)
      exact ⟨fun z => absurd z.1 nl, fun z => absurd z.1 nl⟩
  unfold sp_may
  rw [d3, show M (1 + 4) h = N (1 + 4) h from a.1.2.2.2.2 h (by omega), hd]
theorem ag_hand {b b' n H L h : Nat} {M N : zMem} (ok : sp_ok M 1 b n H L) (ok' : sp_ok N 1 b' n H L) (a : ag b b' H M N) (hh : h < H) : (sp_hand 1 b h M = none ∧ sp_hand 1 b' h N = none) ∨ ∃ M' N', sp_hand 1 b h M = some M' ∧ sp_hand 1 b' h N = some N' ∧ ag b b' H M' N' := by
  obtain ⟨d1, d2, d3, d4⟩ := a.2.2.1 h hh
  obtain ⟨ht, hd2, hb, ⟨⟨n1, n8, H1, H5, L1, L6⟩, hn, hH, hL, -, -, -, -, hrow, -⟩, ⟨pl, hpl, epl⟩, hhd, -⟩ := ok
  have hb' := ok'.2.2.1
  have neg : ∀ p, p < 8 → nI p ≠ -1 := fun p hp q => (q_neq (a := p) (c := 1) (by omega) (by omega) (by omega)).mp q
  by_cases l0 : M (b + 2) h = 0
  · have l0' : N (b' + 2) h = 0 := by rw [← d2]; exact l0
    by_cases s3 : M (b + 1) h = 3
    · have s3' : N (b' + 1) h = 3 := by rw [← d1]; exact s3
      have hp := hhd h hh
      rcases hp with ⟨q, -⟩ | ⟨q, -⟩ | ⟨p, u, s, U, p1, p2, p3, p4, p5, p6, p7, -⟩
      · rw [s3] at q; exact absurd q (by decide)
      · rw [s3] at q; exact absurd q (by decide)
      · refine Or.inr ⟨_, _, ?_, ?_, ag_finish a hb hb' hh H5 hn n8 p5 p1 p6 p7 p2⟩
        · unfold sp_hand; rw [if_pos l0, if_pos s3]
        · unfold sp_hand; rw [if_pos l0', if_pos s3']
    · have s3' : ¬ N (b' + 1) h = 3 := by rw [← d1]; exact s3
      by_cases s0 : M (b + 1) h = 0
      · have s0' : N (b' + 1) h = 0 := by rw [← d1]; exact s0
        by_cases h0 : h = 0
        · obtain ⟨s, s1, s2⟩ := hrow pl hpl
          refine Or.inr ⟨_, _, ?_, ?_, ag_new (L := L) a hb hb' hn n8 epl (by omega) s2 s1 (by omega)⟩
          · unfold sp_hand; rw [if_pos l0, if_neg s3, if_pos s0, if_pos h0]
          · unfold sp_hand; rw [if_pos l0', if_neg s3', if_pos s0', if_pos h0]
        · have e1 := (a.2.2.1 (h - 1) (by omega)).1
          by_cases c : M (b + 1) (h - 1) = 2 ∧ sp_can 1 b (h - 1) M
          · have hp : M (b + 3) (h - 1) ≠ -1 := by
              rcases hhd (h - 1) (by omega) with ⟨q, -⟩ | ⟨q, -⟩ | ⟨p, u, s, U, p1, p2, p3, p4, p5, -⟩
              · rw [c.1] at q; exact absurd q (by decide)
              · rw [c.1] at q; exact absurd q (by decide)
              · rw [p5]; exact neg p (by omega)
            have c' : N (b' + 1) (h - 1) = 2 ∧ sp_can 1 b' (h - 1) N := ⟨by rw [← e1]; exact c.1, (ag_can (n := n) (L := L) a (by omega) H5 hp).mp c.2⟩
            refine Or.inr ⟨_, _, ?_, ?_, ag_take a hb hb' (by omega) hh hp⟩
            · unfold sp_hand; rw [if_pos l0, if_neg s3, if_pos s0, if_neg h0, if_pos c]
            · unfold sp_hand; rw [if_pos l0', if_neg s3', if_pos s0', if_neg h0, if_pos c']
          · have c' : ¬ (N (b' + 1) (h - 1) = 2 ∧ sp_can 1 b' (h - 1) N) := fun q => c (by
              have q1 : M (b + 1) (h - 1) = 2 := by rw [e1]; exact q.1
              have hp : M (b + 3) (h - 1) ≠ -1 := by
                rcases hhd (h - 1) (by omega) with ⟨z, -⟩ | ⟨z, -⟩ | ⟨p, u, s, U, p1, p2, p3, p4, p5, -⟩
                · rw [q1] at z; exact absurd z (by decide)
                · rw [q1] at z; exact absurd z (by decide)
                · rw [p5]; exact neg p (by omega)
              exact ⟨q1, (ag_can (n := n) (L := L) a (by omega) H5 hp).mpr q.2⟩)
            refine Or.inl ⟨?_, ?_⟩
            · unfold sp_hand; rw [if_pos l0, if_neg s3, if_pos s0, if_neg h0, if_neg c]
            · unfold sp_hand; rw [if_pos l0', if_neg s3', if_pos s0', if_neg h0, if_neg c']
      · have s0' : ¬ N (b' + 1) h = 0 := by rw [← d1]; exact s0
        by_cases s2 : M (b + 1) h = 2
        · have s2' : N (b' + 1) h = 2 := by rw [← d1]; exact s2
          rcases hhd h hh with ⟨q, -⟩ | ⟨q, -⟩ | ⟨p, u, s, U, p1, p2, p3, p4, p5, -⟩
          · exact absurd q s0
          · rw [s2] at q; exact absurd q (by decide)
          · have hp : M (b + 3) h ≠ -1 := by rw [p5]; exact neg p (by omega)
            have em := ag_may (n := n) (L := L) a hH hh H5 hp
            by_cases c : sp_may 1 b h M
            · refine Or.inr ⟨_, _, ?_, ?_, ag_start (n := n) (L := L) a hb hb' hh H5 p (by omega) p5⟩
              · unfold sp_hand; rw [if_pos l0, if_neg s3, if_neg s0, if_pos s2, if_pos c]
              · unfold sp_hand; rw [if_pos l0', if_neg s3', if_neg s0', if_pos s2', if_pos (em.mp c)]
            · refine Or.inl ⟨?_, ?_⟩
              · unfold sp_hand; rw [if_pos l0, if_neg s3, if_neg s0, if_pos s2, if_neg c]
              · unfold sp_hand; rw [if_pos l0', if_neg s3', if_neg s0', if_pos s2', if_neg (fun q => c (em.mpr q))]
        · have s2' : ¬ N (b' + 1) h = 2 := by rw [← d1]; exact s2
          refine Or.inl ⟨?_, ?_⟩
          · unfold sp_hand; rw [if_pos l0, if_neg s3, if_neg s0, if_neg s2]
          · unfold sp_hand; rw [if_pos l0', if_neg s3', if_neg s0', if_neg s2']
  · have l0' : ¬ N (b' + 2) h = 0 := by rw [← d2]; exact l0
    refine Or.inl ⟨?_, ?_⟩
    · unfold sp_hand; rw [if_neg l0]
    · unfold sp_hand; rw [if_neg l0']
theorem ag_rd {b b' n H L : Nat} : ∀ h (s : Bool) (M N : zMem), h ≤ H → sp_ok M 1 b n H L → sp_ok N 1 b' n H L → ag b b' H M N → (sp_rd 1 b h s M).1 = (sp_rd 1 b' h s N).1 ∧ ag b b' H (sp_rd 1 b h s M).2 (sp_rd 1 b' h s N).2 := by
  intro h
  induction h with
  | zero => intro s M N _ _ _ a; exact ⟨rfl, a⟩
  | succ h ih =>
    intro s M N hh ok ok' a
    unfold sp_rd
    rcases ag_hand ok ok' a (show h < H by omega) with ⟨q1, q2⟩ | ⟨M', N', q1, q2, a'⟩
    · rw [q1, q2]
      exact ih s M N (by omega) ok ok' a
    · rw [q1, q2]
      exact ih true M' N' (by omega) (sp_step ok (by omega) q1).1 (sp_step ok' (by omega) q2).1 a'
theorem ag_rounds {b b' n H L : Nat} : ∀ f (M N : zMem), sp_ok M 1 b n H L → sp_ok N 1 b' n H L → ag b b' H M N → ag b b' H (sp_rounds 1 b H f M) (sp_rounds 1 b' H f N) := by
  intro f
  induction f with
  | zero => intro M N _ _ a; exact a
  | succ f ih =>
    intro M N ok ok' a
    obtain ⟨e1, e2⟩ := ag_rd H false M N (Nat.le_refl _) ok ok' a
    unfold sp_rounds
    rw [← e1]
    split
    · exact ih _ _ (sp_rd_ok H false M (Nat.le_refl _) ok).1 (sp_rd_ok H false N (Nat.le_refl _) ok').1 e2
    · exact e2
theorem ag_all {b b' n H L : Nat} {M N : zMem} (ok : sp_ok M 1 b n H L) (ok' : sp_ok N 1 b' n H L) (a : ag b b' H M N) : ag b b' H (sp_all 1 b H M) (sp_all 1 b' H N) := by
  have e : sp_sum (sp_c M b) H = sp_sum (sp_c N b') H := sp_sum_eq H (fun j hj => by
    obtain ⟨d1, d2, -⟩ := a.2.2.1 j hj
    unfold sp_c
    rw [d1, d2])
  unfold sp_all
  rw [e]
  exact ag_rounds _ M N ok ok' a
theorem ag_pass1 {b b' H h : Nat} {d : Int32} {M N : zMem} (a : ag b b' H M N) (hb : 18 ≤ b) (hb' : 18 ≤ b') (hh : h < H) : ag b b' H (sp_pass1 b h d M) (sp_pass1 b' h d N) := by
  obtain ⟨d1, d2, d3, d4⟩ := a.2.2.1 h hh
  have up2 : ag b b' H (zup M (b + 2) h (N (b' + 2) h - d)) (zup N (b' + 2) h (N (b' + 2) h - d)) := by
    refine ag_mk a (fun i hi => ?_) (fun i hi => ?_) (fun j h2 h5 => ?_) (fun i hi => ?_) (fun j hj => ?_)
    · simp (disch := omega) only [zup_ne]
    · simp (disch := omega) only [zup_ne]
    · simp (disch := omega) only [zup_ne]; exact a.2.1 j h2 h5
    · obtain ⟨c1, c2, c3, c4⟩ := a.2.2.1 i hi
      by_cases q : i = h
      · subst q
        simp (disch := omega) only [zup_ne, zup_eq, upd_eq]
        exact ⟨c1, trivial, c3, c4⟩
      · simp (disch := omega) only [zup_ne, zup_eq, upd_ne]
        exact ⟨c1, c2, c3, c4⟩
    · simp (disch := omega) only [zup_ne]; exact a.2.2.2 j hj
  have o68 : ∀ (x y z w : Int32) (i j : Nat), ag b b' H (zup (zup M (b + 6) h x) (b + 8) i y) (zup (zup N (b' + 6) h z) (b' + 8) j w) := by
    intro x y z w i j
    refine ag_mk a (fun i hi => ?_) (fun i hi => ?_) (fun j h2 h5 => ?_) (fun i hi => ?_) (fun j hj => ?_)
    · simp (disch := omega) only [zup_ne]
    · simp (disch := omega) only [zup_ne]
    · simp (disch := omega) only [zup_ne]; exact a.2.1 j h2 h5
    · simp (disch := omega) only [zup_ne]; exact a.2.2.1 i hi
    · simp (disch := omega) only [zup_ne]; exact a.2.2.2 j hj
  have o6 : ∀ (x z : Int32), ag b b' H (zup M (b + 6) h x) (zup N (b' + 6) h z) := by
    intro x z
    refine ag_mk a (fun i hi => ?_) (fun i hi => ?_) (fun j h2 h5 => ?_) (fun i hi => ?_) (fun j hj => ?_)
    · simp (disch := omega) only [zup_ne]
    · simp (disch := omega) only [zup_ne]
    · simp (disch := omega) only [zup_ne]; exact a.2.1 j h2 h5
    · simp (disch := omega) only [zup_ne]; exact a.2.2.1 i hi
    · simp (disch := omega) only [zup_ne]; exact a.2.2.2 j hj
  unfold sp_pass1
  rw [d2, d1]
  split
  · split
    · generalize zup M (b + 2) h (N (b' + 2) h - d) = X at up2 ⊢
      generalize zup N (b' + 2) h (N (b' + 2) h - d) = Y at up2 ⊢
      refine ag_mk up2 (fun i hi => ?_) (fun i hi => ?_) (fun j h2 h5 => ?_) (fun i hi => ?_) (fun j hj => ?_)
      · simp (disch := omega) only [zup_ne]
      · simp (disch := omega) only [zup_ne]
      · simp (disch := omega) only [zup_ne]; exact up2.2.1 j h2 h5
      · obtain ⟨c1, c2, c3, c4⟩ := up2.2.2.1 i hi
        by_cases q : i = h
        · subst q
          simp (disch := omega) only [zup_ne, zup_eq, upd_eq]
          exact ⟨trivial, c2, c3, c4⟩
        · simp (disch := omega) only [zup_ne, zup_eq, upd_ne]
          exact ⟨c1, c2, c3, c4⟩
      · simp (disch := omega) only [zup_ne]; exact up2.2.2.2 j hj
    · exact up2
  · split
    · exact o68 _ _ _ _ _ _
    · exact o6 _ _
theorem ag_passes {b b' H : Nat} {d : Int32} (hb : 18 ≤ b) (hb' : 18 ≤ b') : ∀ m h (M N : zMem), h + m ≤ H → ag b b' H M N → ag b b' H (sp_passes b d m h M) (sp_passes b' d m h N) := by
  intro m
  induction m with
  | zero => intro h M N _ a; exact a
  | succ m ih => intro h M N hh a; exact ih (h + 1) _ _ (by omega) (ag_pass1 a hb hb' (by omega))
theorem ag_pass {b b' H : Nat} {d : Int32} {M N : zMem} (a : ag b b' H M N) (hb : 18 ≤ b) (hb' : 18 ≤ b') : ag b b' H (sp_pass b H d M) (sp_pass b' H d N) := by
  unfold sp_pass
  refine ag_passes hb hb' H 0 _ _ (by omega) ?_
  refine ag_mk a (fun i hi => ?_) (fun i hi => ?_) (fun j h2 h5 => ?_) (fun i hi => ?_) (fun j hj => ?_)
  · simp (disch := omega) only [zup_ne]
  · simp (disch := omega) only [zup_ne]
  · rw [zup_eq, zup_eq]
    by_cases q : j = 2
    · rw [q, upd_eq, upd_eq, a.2.1 2 (by omega) (by omega)]
    · rw [upd_ne q, upd_ne q]; exact a.2.1 j h2 h5
  · simp (disch := omega) only [zup_ne]; exact a.2.2.1 i hi
  · simp (disch := omega) only [zup_ne]; exact a.2.2.2 j hj
theorem ag_least {f g : Nat → Int32} : ∀ m h c, (∀ j, h ≤ j → j < h + m → f j = g j) → sp_least f m h c = sp_least g m h c := by
  intro m
  induction m with
  | zero => intro h c _; rfl
  | succ m ih =>
    intro h c e
    unfold sp_least
    rw [e h (by omega) (by omega)]
    exact ih (h + 1) _ (fun j h1 h2 => e j (by omega) (by omega))
theorem ag_ev {b b' n H L : Nat} {M N : zMem} (ok : sp_ok M 1 b n H L) (hs : ∀ j, j < H → sp_hand 1 b j M = none) (ok' : sp_ok N 1 b' n H L) (hs' : ∀ j, j < H → sp_hand 1 b' j N = none) (a : ag b b' H M N) : ag b b' H (sp_ev 1 b H M) (sp_ev 1 b' H N) := by
  have el : sp_least (M (b + 2)) H 0 0 = sp_least (N (b' + 2)) H 0 0 := ag_least H 0 0 (fun j _ hj => (a.2.2.1 j (by omega)).2.1)
  unfold sp_ev
  have c1 := sp_can_least ok hs
  have c2 := sp_can_least ok' hs'
  have k1 := sp_pass_ok ok c1
  have k2 := sp_pass_ok ok' c2
  rw [el] at k1 ⊢
  exact ag_all k1 k2 (ag_pass a ok.2.2.1 ok'.2.2.1)
theorem ag_eq1 {b b' H h : Nat} {X X' Y Y' : zMem} (a : ag b b' H X X') (c : ag b b' H Y Y') (hh : h < H) : sp_eq1 b h X Y → sp_eq1 b' h X' Y' := by
  obtain ⟨d1, d2, d3, d4⟩ := a.2.2.1 h hh
  obtain ⟨e1, e2, e3, e4⟩ := c.2.2.1 h hh
  rintro ⟨q1, q2, q3, q4⟩
  refine ⟨by rw [← d1, ← e1]; exact q1, by rw [← d2, ← e2]; exact q2, by rw [← d3, ← e3]; exact q3, fun z => ?_⟩
  rw [← d3] at z
  have q4 := q4 z
  have nx : ¬ X (b + 3) h = -1 := fun w => by rw [w] at z; exact absurd z (by decide)
  have ny : ¬ Y (b + 3) h = -1 := fun w => nx (by rw [q3]; exact w)
  have d4 := d4.resolve_left nx
  have e4 := e4.resolve_left ny
  exact ⟨by rw [← d4.1, ← e4.1]; exact q4.1, by rw [← d4.2, ← e4.2]; exact q4.2⟩
theorem ag.symm {b b' H : Nat} {M N : zMem} (a : ag b b' H M N) : ag b' b H N M := by
  obtain ⟨⟨t0, t1, t2, t3, t4⟩, a1, a2, a3⟩ := a
  refine ⟨⟨fun j hj => (t0 j hj).symm, fun j hj => (t1 j hj).symm, fun j hj => (t2 j hj).symm, fun j hj => (t3 j hj).symm, fun j hj => (t4 j hj).symm⟩, fun j h2 h5 => (a1 j h2 h5).symm, fun h hh => ?_, fun j hj => (a3 j hj).symm⟩
  obtain ⟨d1, d2, d3, d4⟩ := a2 h hh
  refine ⟨d1.symm, d2.symm, d3.symm, ?_⟩
  rcases d4 with q | q
  · exact Or.inl (by rw [← d3]; exact q)
  · exact Or.inr ⟨q.1.symm, q.2.symm⟩
theorem ag_cnt {b b' H i : Nat} {M N : zMem} (a : ag b b' H M N) (hi : i < 40) : sp_cnt 1 b i M = sp_cnt 1 b' i N := by
  unfold sp_cnt
  rw [a.1.1 3 (by omega), show M (1 + 3) i = N (1 + 3) i from a.1.2.2.2.1 i hi, a.2.2.2 i hi]
theorem ag_same1 {b b' n H : Nat} {X X' Y Y' : zMem} (a : ag b b' H X X') (c : ag b b' H Y Y') (H5 : H ≤ 5) (n8 : n ≤ 8) (h : sp_same 1 b n H X Y) : sp_same 1 b' n H X' Y' := by
  obtain ⟨q1, q2, q3⟩ := h
  refine ⟨by rw [← a.2.1 5 (by omega) (by omega), ← c.2.1 5 (by omega) (by omega)]; exact q1, fun h hh => ag_eq1 a c hh (q2 h hh), fun h p hh hp => ?_⟩
  rw [← ag_cnt a (by omega), ← ag_cnt c (by omega)]
  exact q3 h p hh hp
theorem ag_same {b b' n H : Nat} {X X' Y Y' : zMem} (a : ag b b' H X X') (c : ag b b' H Y Y') (H5 : H ≤ 5) (n8 : n ≤ 8) : sp_same 1 b n H X Y ↔ sp_same 1 b' n H X' Y' := ⟨ag_same1 a c H5 n8, ag_same1 a.symm c.symm H5 n8⟩
theorem ag_rg {b b' n H L : Nat} : ∀ f r (M N : zMem) (A A' R R' : Nat → zMem), (∀ q, q < r → R q = vw 1 b (A q) ∧ R' q = vw 1 b' (A' q) ∧ ag b b' H (A q) (A' q)) → sp_ok M 1 b n H L → (∀ j, j < H → sp_hand 1 b j M = none) → sp_ok N 1 b' n H L → (∀ j, j < H → sp_hand 1 b' j N = none) → ag b b' H M N → sp_rg n H f (vw 1 b M) r R = sp_rg n H f (vw 1 b' N) r R' := by
  intro f
  induction f with
  | zero => intros; rfl
  | succ f ih =>
    intro r M N A A' R R' hR ok hs ok' hs' a
    have H5 : H ≤ 5 := ok.2.2.2.1.1.2.2.2.1
    have n8 : n ≤ 8 := ok.2.2.2.1.1.2.1
    have hb := ok.2.2.1
    have hb' := ok'.2.2.1
    obtain ⟨k1, -, k2⟩ := sp_all_ok (sp_pass_ok ok (sp_can_least ok hs))
    obtain ⟨m1, -, m2⟩ := sp_all_ok (sp_pass_ok ok' (sp_can_least ok' hs'))
    have a' := ag_ev ok hs ok' hs' a
    have ve : sp_ev 0 5 H (vw 1 b M) = vw 1 b (sp_ev 1 b H M) := (vw_ev (by omega) (by omega)).symm
    have ve' : sp_ev 0 5 H (vw 1 b' N) = vw 1 b' (sp_ev 1 b' H N) := (vw_ev (by omega) (by omega)).symm
    have e3 : vw 1 b M 5 3 = vw 1 b' N 5 3 := by rw [vw_0 (by omega), vw_0 (by omega)]; exact a.2.1 3 (by omega) (by omega)
    have e3' : vw 1 b (sp_ev 1 b H M) 5 3 = vw 1 b' (sp_ev 1 b' H N) 5 3 := by rw [vw_0 (by omega), vw_0 (by omega)]; exact a'.2.1 3 (by omega) (by omega)
    have e2' : vw 1 b (sp_ev 1 b H M) 5 2 = vw 1 b' (sp_ev 1 b' H N) 5 2 := by rw [vw_0 (by omega), vw_0 (by omega)]; exact a'.2.1 2 (by omega) (by omega)
    have fo : sp_fo (fun q => sp_same 0 5 n H (R q) (sp_ev 0 5 H (vw 1 b M))) r = sp_fo (fun q => sp_same 0 5 n H (R' q) (sp_ev 0 5 H (vw 1 b' N))) r := by
      refine sp_fst_eq (sp_fo_fst r) (fun q hq => ?_)
      obtain ⟨r1, r2, r3⟩ := hR q hq
      rw [r1, r2, ve, ve', vw_same, vw_same]
      exact ag_same r3 a' H5 n8
    by_cases c : vw 1 b M 5 3 < 120
    · have c' : vw 1 b' N 5 3 < 120 := by rw [← e3]; exact c
      by_cases d : vw 1 b M 5 3 < sp_ev 0 5 H (vw 1 b M) 5 3
      · have d' : vw 1 b' N 5 3 < sp_ev 0 5 H (vw 1 b' N) 5 3 := by rw [ve', ← e3', ← e3, ← ve]; exact d
        cases w : sp_fo (fun q => sp_same 0 5 n H (R q) (sp_ev 0 5 H (vw 1 b M))) r with
        | some q =>
          have w' := fo.symm.trans w
          obtain ⟨r1, r2, r3⟩ := hR q (sp_fo_lt w)
          rw [sp_rg_some c d w, sp_rg_some c' d' w']
          unfold sp_rn
          rw [ve, ve', e3', e2', r1, r2, vw_0 (by omega), vw_0 (by omega), vw_0 (by omega), vw_0 (by omega), r3.2.1 3 (by omega) (by omega), r3.2.1 2 (by omega) (by omega), vw_0 (by omega), vw_0 (by omega)]
        | none =>
          have w' := fo.symm.trans w
          rw [sp_rg_none c d w, sp_rg_none c' d' w', ve, ve']
          refine ih (r + 1) _ _ (fun i => if i = r then sp_ev 1 b H M else A i) (fun i => if i = r then sp_ev 1 b' H N else A' i) _ _ (fun q hq => ?_) k1 k2 m1 m2 a'
          by_cases z : q = r
          · rw [if_pos z, if_pos z, if_pos z, if_pos z]; exact ⟨rfl, rfl, a'⟩
          · rw [if_neg z, if_neg z, if_neg z, if_neg z]; exact hR q (by omega)
      · have d' : ¬ vw 1 b' N 5 3 < sp_ev 0 5 H (vw 1 b' N) 5 3 := by rw [ve', ← e3', ← e3, ← ve]; exact d
        rw [sp_rg_go c d, sp_rg_go c' d', ve, ve']
        exact ih r _ _ A A' R R' hR k1 k2 m1 m2 a'
    · rw [sp_rg_end c, sp_rg_end (by rw [← e3]; exact c)]
/-- the ring hangs on what is told alone -/
theorem ag_ring {b b' n H L : Nat} {M N : zMem} (ok : sp_ok M 1 b n H L) (ok' : sp_ok N 1 b' n H L) (a : ag b b' H M N) : sp_ring 1 b n H M = sp_ring 1 b' n H N := by
  obtain ⟨k1, -, k2⟩ := sp_all_ok ok
  obtain ⟨m1, -, m2⟩ := sp_all_ok ok'
  exact ag_rg 12000 0 _ _ (fun _ => M) (fun _ => M) _ _ (fun q hq => absurd hq (by omega)) k1 k2 m1 m2 (ag_all ok ok' a)
theorem ag_clear {b b' H : Nat} {M0 Mc N0 Nc : zMem} (hc : sp_clear b M0 Mc) (hc' : sp_clear b' N0 Nc) (H5 : H ≤ 5) (ht : ∀ i, i ≤ 4 → Mc (1 + i) = Nc (1 + i)) : ag b b' H Mc Nc := by
  obtain ⟨c2, c3, c4, c5, c0, c1, ch, cl, cs, ck⟩ := hc
  obtain ⟨d2, d3, d4, d5, d0, d1, dh, dl, ds, dk⟩ := hc'
  refine ⟨⟨fun j _ => congrFun (ht 0 (by omega)) j, fun j _ => congrFun (ht 1 (by omega)) j, fun j _ => congrFun (ht 2 (by omega)) j, fun j _ => congrFun (ht 3 (by omega)) j, fun j _ => congrFun (ht 4 (by omega)) j⟩, fun j h2 h5 => ?_, fun h hh => ?_, fun j hj => ?_⟩
  · rcases (show j = 2 ∨ j = 3 ∨ j = 4 ∨ j = 5 by omega) with rfl | rfl | rfl | rfl
    · rw [c2, d2]
    · rw [c3, d3]
    · rw [c4, d4]
    · rw [c5, d5]
  · obtain ⟨x1, x2, x3, x4⟩ := ch h (by omega)
    obtain ⟨y1, y2, y3, y4⟩ := dh h (by omega)
    exact ⟨by rw [x1, y1], by rw [x2, y2], by rw [x3, y3], Or.inl x3⟩
  · rw [cl j hj, dl j hj]
/-- whether handing over k of a log is hand h's, within lo and hi -/
def wh1 (V : Nat → Int32) (h lo hi : Int32) (k : Nat) : Prop := V (k * 5 + 1) = h ∧ lo < V (k * 5) ∧ V (k * 5) ≤ hi
/-- what both look for in the log: how often, the first, whether always alike -/
def wf (V : Nat → Int32) (h lo hi : Int32) : Nat → Nat × Nat × Bool
  | 0 => (0, 0, true)
  | k + 1 => if V (k * 5 + 1) = h ∧ lo < V (k * 5) ∧ V (k * 5) ≤ hi then ((wf V h lo hi k).1 + 1, (if (wf V h lo hi k).1 = 0 then k else (wf V h lo hi k).2.1), ((wf V h lo hi k).2.2 && decide (V (k * 5 + 2) = V ((if (wf V h lo hi k).1 = 0 then k else (wf V h lo hi k).2.1) * 5 + 2)) && decide (V (k * 5 + 3) = V ((if (wf V h lo hi k).1 = 0 then k else (wf V h lo hi k).2.1) * 5 + 3)))) else wf V h lo hi k
theorem wf_no {V : Nat → Int32} {h lo hi : Int32} {k : Nat} (c : ¬ wh1 V h lo hi k) : wf V h lo hi (k + 1) = wf V h lo hi k := by
  show (if V (k * 5 + 1) = h ∧ lo < V (k * 5) ∧ V (k * 5) ≤ hi then _ else _) = _
  unfold wh1 at c
  rw [if_neg c]
theorem wf_yes {V : Nat → Int32} {h lo hi : Int32} {k t f f' : Nat} {b : Bool} (c : wh1 V h lo hi k) (e : wf V h lo hi k = (t, f, b)) (ef : f' = if t = 0 then k else f) : wf V h lo hi (k + 1) = (t + 1, f', (b && decide (V (k * 5 + 2) = V (f' * 5 + 2)) && decide (V (k * 5 + 3) = V (f' * 5 + 3)))) := by
  show (if V (k * 5 + 1) = h ∧ lo < V (k * 5) ∧ V (k * 5) ≤ hi then _ else _) = _
  unfold wh1 at c
  rw [if_pos c, e, ef]
theorem wf_b {V : Nat → Int32} {h lo hi : Int32} : ∀ k, (wf V h lo hi k).1 ≤ k ∧ ((wf V h lo hi k).1 = 0 ∨ (wf V h lo hi k).2.1 < k) := by
  intro k
  induction k with
  | zero => exact ⟨Nat.le_refl _, Or.inl rfl⟩
  | succ k ih =>
    by_cases c : wh1 V h lo hi k
    · rcases e : wf V h lo hi k with ⟨t, f, b⟩
      rw [e] at ih
      rw [wf_yes c e rfl]
      refine ⟨by have := ih.1; show t + 1 ≤ k + 1; omega, Or.inr ?_⟩
      show (if t = 0 then k else f) < k + 1
      split
      · omega
      · rcases ih.2 with q | q
        · exact absurd q (by assumption)
        · exact Nat.lt_succ_of_lt q
    · rw [wf_no c]
      exact ⟨by omega, ih.2.imp id (fun q => by omega)⟩
theorem wf_pos {V : Nat → Int32} {h lo hi : Int32} {k : Nat} (c : wh1 V h lo hi k) : ∀ m, k < m → 0 < (wf V h lo hi m).1 := by
  intro m
  induction m with
  | zero => intro h; omega
  | succ m ih =>
    intro hk
    by_cases d : wh1 V h lo hi m
    · rcases e : wf V h lo hi m with ⟨t, f, b⟩
      rw [wf_yes d e rfl]
      exact Nat.succ_pos t
    · rw [wf_no d]
      refine ih ?_
      rcases Nat.lt_or_ge k m with q | q
      · exact q
      · have : k = m := by omega
        subst this
        exact absurd c d
theorem wf_congr {V V' : Nat → Int32} {h lo hi : Int32} : ∀ k, (∀ j, j < 5 * k → V j = V' j) → wf V h lo hi k = wf V' h lo hi k := by
  intro k
  induction k with
  | zero => intro _; rfl
  | succ k ih =>
    intro e
    have i := ih (fun j hj => e j (by omega))
    have i2 := wf_b (V := V') (h := h) (lo := lo) (hi := hi) k
    have cc : wh1 V h lo hi k ↔ wh1 V' h lo hi k := by
      unfold wh1
      rw [e (k * 5 + 1) (by omega), e (k * 5) (by omega)]
    by_cases c : wh1 V h lo hi k
    · rcases e1 : wf V' h lo hi k with ⟨t, f, b⟩
      rw [e1] at i2
      have hf : ∃ f', f' = (if t = 0 then k else f) ∧ f' ≤ k := ⟨_, rfl, by
        split
        · exact Nat.le_refl _
        · rcases i2.2 with q | q
          · exact absurd q (by assumption)
          · exact Nat.le_of_lt q⟩
      obtain ⟨f', ef, hf'⟩ := hf
      rw [wf_yes c (i.trans e1) ef, wf_yes (cc.mp c) e1 ef, e (k * 5 + 2) (by omega), e (k * 5 + 3) (by omega), e (f' * 5 + 2) (by omega), e (f' * 5 + 3) (by omega)]
    · rw [wf_no c, wf_no (fun q => c (cc.mpr q))]
      exact i
def w2 (V : Nat → Int32) (s : Nat × Nat × Bool) (j : Nat) : Int32 := if s.1 = 0 then -4 else V (s.2.1 * 5 + j)
def w7 (s : Nat × Nat × Bool) : Int32 := if s.2.2 = true then 1 else 0
theorem w7_and {t f : Nat} {b : Bool} {p q p' q' : Int32} : w7 (t, f, (b && decide (p = p') && decide (q = q'))) = if b = true ∧ p = p' ∧ q = q' then 1 else 0 := by
  unfold w7
  simp only [Bool.and_eq_true, decide_eq_true_eq, and_assoc]
/-- the class's answer -/
def wa (V : Nat → Int32) (s : Nat × Nat × Bool) (a : Int32) : Int32 := if a = 0 then nI s.1 else if a = 1 then (if s.2.2 = true ∧ 0 < s.1 then 1 else 0) else if a = 2 then w2 V s 2 else w2 V s 3
theorem xt_places {z : Nat} {a1 a3 lo hi : Int32} {M : zMem} {Q : Int32 → zMem → Prop} (hz : M 30 0 = nI z) (z6 : z ≤ 600) (elo : M 54 5 = lo) (ehi : M 54 5 + M 54 4 = hi) (hQ : Q (wa (M 31) (wf (M 31) a1 lo hi z) a3) M) : wp_Handings_placesOf 30 a1 54 a3 M Q := by
  unfold wp_Handings_placesOf
  refine zlp5_r (fun m x4 x5 x6 x7 x8 M' => M = M' ∧ ∃ k, k ≤ z ∧ m = z - k ∧ x8 = nI k ∧ x4 = nI (wf (M 31) a1 lo hi k).1 ∧ x5 = w2 (M 31) (wf (M 31) a1 lo hi k) 2 ∧ x6 = w2 (M 31) (wf (M 31) a1 lo hi k) 3 ∧ x7 = w7 (wf (M 31) a1 lo hi k)) ?_ (n := z) ⟨rfl, 0, by omega, rfl, rfl, rfl, rfl, rfl, rfl⟩
  rintro m x4 x5 x6 x7 x8 M' ⟨rfl, k, hk, rfl, rfl, rfl, rfl, rfl, rfl⟩ J hJ
  unfold wpB_Handings_placesOf_17
  rw [hz]
  refine ⟨fun c => ?_, fun c => ?_⟩
  · have := (nI_leI (by omega) (by omega)).mp c
    have e : k = z := by omega
    subst e
    have hb := (wf_b (V := M 31) (h := a1) (lo := lo) (hi := hi) k).1
    generalize wf (M 31) a1 lo hi k = s at hQ hb
    intro x ex
    subst ex
    unfold wa at hQ
    refine ⟨fun q => ?_, fun q => ⟨fun q2 => ?_, fun q2 => ⟨fun q3 => ?_, fun q3 => ?_⟩⟩, fun q => ?_, fun n0 n1 n2 => ?_⟩
    · rw [if_pos q] at hQ; exact hQ
    · rw [if_neg (by rw [q]; decide), if_pos q, if_neg (fun z => by unfold w7 at q2; rw [if_pos z.1] at q2; exact absurd q2 (by decide))] at hQ; exact hQ
    · have s0 : s.1 = 0 := by
        rcases Nat.eq_zero_or_pos s.1 with w | w
        · exact w
        · exact absurd q3 (nI_nle w (by omega))
      rw [if_neg (by rw [q]; decide), if_pos q, if_neg (fun z => by omega)] at hQ; exact hQ
    · have b1 : s.2.2 = true := by
        unfold w7 at q2
        by_cases w : s.2.2 = true
        · exact w
        · rw [if_neg w] at q2; exact absurd rfl q2
      have s0 : 0 < s.1 := by
        rcases Nat.eq_zero_or_pos s.1 with w | w
        · rw [w] at q3; exact absurd (by decide) q3
        · exact w
      rw [if_neg (by rw [q]; decide), if_pos q, if_pos ⟨b1, s0⟩] at hQ; exact hQ
    · rw [if_neg (by rw [q]; decide), if_neg (by rw [q]; decide), if_pos q] at hQ; exact hQ
    · rw [if_neg n0, if_neg n1, if_neg n2] at hQ; exact hQ
  · have hk2 : k < z := (nI_ltI (by omega) (by omega)).mp (Int32.not_le.mp c)
    refine e_value (j := 0) (by omega) (by omega) ?_
    refine e_value (j := 1) (by omega) (by omega) ?_
    have skip : ¬ wh1 (M 31) a1 lo hi k → ∀ y, y = nI k + 1 → J (nI (wf (M 31) a1 lo hi k).1) (w2 (M 31) (wf (M 31) a1 lo hi k) 2) (w2 (M 31) (wf (M 31) a1 lo hi k) 3) (w7 (wf (M 31) a1 lo hi k)) y M := fun nh y ey => by
      rw [ey, nI_1]
      exact hJ (z - (k + 1)) _ _ _ _ _ _ (by omega) ⟨rfl, k + 1, by omega, rfl, rfl, by rw [wf_no nh], by rw [wf_no nh], by rw [wf_no nh], by rw [wf_no nh]⟩
    refine ⟨fun n1 => skip (fun q => n1 q.1), fun y1 => ⟨fun n2 => skip (fun q => absurd q.2.1 (Int32.not_lt.mpr (by rw [← elo]; exact n2))), fun y2 => ⟨fun n3 => skip (fun q => absurd (show hi < M 31 (k * 5) by rw [← ehi]; exact n3) (Int32.not_lt.mpr q.2.2)), fun y3 => ?_⟩⟩⟩
    have hit : wh1 (M 31) a1 lo hi k := ⟨y1, by rw [← elo]; exact Int32.not_le.mp y2, by rw [← ehi]; exact Int32.not_lt.mp y3⟩
    have hb := wf_b (V := M 31) (h := a1) (lo := lo) (hi := hi) k
    rcases e : wf (M 31) a1 lo hi k with ⟨t, f, b⟩
    rw [e] at hb
    have put : ∀ f', f' = (if t = 0 then k else f) → wpJ_Handings_placesOf_92 30 a1 54 a3 (fun (zx25 : Int32) (zx26 : Int32) (zx27 : Int32) (zx28 : Int32) (zm24 : zMem) => ∀ zx29 : Int32, zx29 = a3 → (zx29 = 0 → Q zx25 zm24) ∧ (zx29 = 1 → (zx28 = 0 → Q 0 zm24) ∧ (¬ zx28 = 0 → (zx25 ≤ 0 → Q 0 zm24) ∧ (¬ zx25 ≤ 0 → Q 1 zm24))) ∧ (zx29 = 2 → Q zx26 zm24) ∧ (¬ zx29 = 0 → ¬ zx29 = 1 → ¬ zx29 = 2 → Q zx27 zm24)) J Q (nI t) (M 31 (f' * 5 + 2)) (M 31 (f' * 5 + 3)) (w7 (t, f, b)) (nI k) M := fun f' ef => by
      have nx := wf_yes hit e ef
      have go : ∀ x7 : Int32, x7 = (if b = true ∧ M 31 (k * 5 + 2) = M 31 (f' * 5 + 2) ∧ M 31 (k * 5 + 3) = M 31 (f' * 5 + 3) then 1 else 0) → ∀ y, y = nI t + 1 → ∀ y2, y2 = nI k + 1 → J y (M 31 (f' * 5 + 2)) (M 31 (f' * 5 + 3)) x7 y2 M := fun x7 e7 y ey y2 ey2 => by
        rw [ey, ey2, nI_1, nI_1]
        refine hJ (z - (k + 1)) _ _ _ _ _ _ (by omega) ⟨rfl, k + 1, by omega, rfl, rfl, by rw [nx], ?_, ?_, ?_⟩
        · rw [nx]; unfold w2; rw [if_neg (by show ¬ t + 1 = 0; omega)]
        · rw [nx]; unfold w2; rw [if_neg (by show ¬ t + 1 = 0; omega)]
        · rw [nx, w7_and, e7]
      refine ⟨fun q => go 0 ?_, fun q => e_value (j := 2) (by omega) (by omega) ?_⟩
      · have q' : (if b = true then (1 : Int32) else 0) = 0 := q
        rw [if_neg (fun z => by rw [if_pos z.1] at q'; exact absurd q' (by decide))]
      · have q' : ¬ (if b = true then (1 : Int32) else 0) = 0 := q
        have b1 : b = true := by
          by_cases w : b = true
          · exact w
          · rw [if_neg w] at q'; exact absurd rfl q'
        refine ⟨fun p2 => go 0 (by rw [if_neg (fun z => p2 z.2.1)]), fun p2 => e_value (j := 3) (by omega) (by omega) ⟨fun p3 => go 0 (by rw [if_neg (fun z => p3 z.2.2)]), fun p3 => go 1 (by rw [if_pos ⟨b1, p2, p3⟩])⟩⟩
    refine ⟨fun q => ?_, fun q => e_value (j := 2) (by omega) (by omega) (e_value (j := 3) (by omega) (by omega) ?_)⟩
    · have t0 : ¬ t = 0 := fun w => by rw [w] at q; exact q rfl
      have p := put f (by rw [if_neg t0])
      have e2 : w2 (M 31) (t, f, b) 2 = M 31 (f * 5 + 2) := by unfold w2; rw [if_neg t0]
      have e3 : w2 (M 31) (t, f, b) 3 = M 31 (f * 5 + 3) := by unfold w2; rw [if_neg t0]
      rw [e2, e3]
      exact p
    · have t0 : t = 0 := by
        rcases Nat.eq_zero_or_pos t with w | w
        · exact w
        · have := hb.1
          exact absurd q (nI_ne0 w (by show t < 2147483648; have : t ≤ k := hb.1; omega))
      exact put k (by rw [if_pos t0])
theorem q_tick {a : Nat} {v : Int32} (ha : a < 2147483647) : nI a + 1 ≤ v ↔ nI a < v := by
  rw [nI_1, Int32.le_iff_toInt_le, Int32.lt_iff_toInt_lt, nI_toInt (by omega), nI_toInt (by omega)]
  omega
theorem mw_places {z q r ta tn : Nat} {a1 a2 : Int32} {W : zMem} {K : Int32 → Int32 → Int32 → zMem → Prop} {Q : Int32 → zMem → Prop} (z6 : z ≤ 600) (hk : ∀ G : Int32 → zMem → Prop, G (nI z) W → wp_Model_oversKept W G) (hq : q < 120) (hr : r < 120) (eq : W 0 29 = nI q) (er : W 0 30 = nI r) (ea : W 14 q = nI ta) (en : W 14 r = nI tn) (ht : ta < 2147483647)
    (hK : ∀ s, s = wf (W 10) a1 (nI ta) (nI tn) z → K (nI s.1) (if s.1 = 0 then -4 else nI s.2.1) (w7 s) W) : ∃ n, zlp4 (wpB_Model_where_52 a1 a2 K Q) n 0 (-4) 1 0 W := by
  refine zlp4_r (fun m x3 x4 x5 x6 W' => W = W' ∧ ∃ k, k ≤ z ∧ m = z - k ∧ x6 = nI k ∧ x3 = nI (wf (W 10) a1 (nI ta) (nI tn) k).1 ∧ x4 = (if (wf (W 10) a1 (nI ta) (nI tn) k).1 = 0 then -4 else nI (wf (W 10) a1 (nI ta) (nI tn) k).2.1) ∧ x5 = w7 (wf (W 10) a1 (nI ta) (nI tn) k)) ?_ (n := z) ⟨rfl, 0, by omega, rfl, rfl, rfl, rfl, rfl⟩
  rintro m x3 x4 x5 x6 W' ⟨rfl, k, hkz, rfl, rfl, rfl, rfl, rfl⟩ J hJ
  unfold wpB_Model_where_52
  refine hk _ ⟨fun c => ?_, fun c => ?_⟩
  · have := (nI_leI (by omega) (by omega)).mp c
    have e : k = z := by omega
    subst e
    exact hK _ rfl
  · have hk2 : k < z := (nI_ltI (by omega) (by omega)).mp (Int32.not_le.mp c)
    have f0 : 5 * nI k = nI (k * 5) := by rw [show (5 : Int32) = nI 5 from rfl, q_mul, Nat.mul_comm]
    have f1 : nI (k * 5) + 1 = nI (k * 5 + 1) := nI_1 _
    rw [f0, f1, q_ix (by omega), q_ix (by omega)]
    have skip : ¬ wh1 (W 10) a1 (nI ta) (nI tn) k → ∀ y, y = nI k + 1 → J (nI (wf (W 10) a1 (nI ta) (nI tn) k).1) (if (wf (W 10) a1 (nI ta) (nI tn) k).1 = 0 then -4 else nI (wf (W 10) a1 (nI ta) (nI tn) k).2.1) (w7 (wf (W 10) a1 (nI ta) (nI tn) k)) y W := fun nh y ey => by
      rw [ey, nI_1]
      exact hJ (z - (k + 1)) _ _ _ _ _ (by omega) ⟨rfl, k + 1, by omega, rfl, rfl, by rw [wf_no nh], by rw [wf_no nh], by rw [wf_no nh]⟩
    refine ⟨vp_in_nI (by omega) (by omega), fun n1 => skip (fun h => n1 h.1), fun y1 => ⟨vp_in_nI (by omega) (by omega), by rw [eq]; exact vp_in_nI hq (by omega), by rw [er]; exact vp_in_nI hr (by omega), ?_⟩⟩
    rw [eq, er, q_ix (by omega), q_ix (by omega), ea, en]
    refine mt_in (lo' := nI ta + 1) (hi' := nI tn) rfl rfl (fun c1 c2 => ⟨fun h => absurd h (by decide), fun _ => ?_⟩) (fun nc => ⟨fun _ => skip (fun h => nc ⟨(q_tick ht).mpr h.2.1, h.2.2⟩), fun h => absurd rfl h⟩)
    have hit : wh1 (W 10) a1 (nI ta) (nI tn) k := ⟨y1, (q_tick ht).mp c1, c2⟩
    have hb := wf_b (V := W 10) (h := a1) (lo := nI ta) (hi := nI tn) k
    rcases e : wf (W 10) a1 (nI ta) (nI tn) k with ⟨t, f, b⟩
    rw [e] at hb
    have put : ∀ f', f' ≤ k → f' = (if t = 0 then k else f) → wpJ_Model_where_128 a1 a2 K J Q (nI t) (w7 (t, f, b)) (nI k) (nI f') W := fun f' hf' ef => by
      have nx := wf_yes hit e ef
      have go : ∀ x5 : Int32, x5 = (if b = true ∧ W 10 (k * 5 + 2) = W 10 (f' * 5 + 2) ∧ W 10 (k * 5 + 3) = W 10 (f' * 5 + 3) then 1 else 0) → ∀ y, y = nI t + 1 → ∀ y2, y2 = nI k + 1 → J y (nI f') x5 y2 W := fun x5 e5 y ey y2 ey2 => by
        rw [ey, ey2, nI_1, nI_1]
        refine hJ (z - (k + 1)) _ _ _ _ _ (by omega) ⟨rfl, k + 1, by omega, rfl, rfl, by rw [nx], ?_, ?_⟩
        · rw [nx, if_neg (by show ¬ t + 1 = 0; omega)]
        · rw [nx, w7_and, e5]
      have f0 : 5 * nI k = nI (k * 5) := by rw [show (5 : Int32) = nI 5 from rfl, q_mul, Nat.mul_comm]
      have g0 : 5 * nI f' = nI (f' * 5) := by rw [show (5 : Int32) = nI 5 from rfl, q_mul, Nat.mul_comm]
      have f2 : nI (k * 5) + 2 = nI (k * 5 + 2) := q_add _ 2
      have f3 : nI (k * 5) + 3 = nI (k * 5 + 3) := q_add _ 3
      have g2 : nI (f' * 5) + 2 = nI (f' * 5 + 2) := q_add _ 2
      have g3 : nI (f' * 5) + 3 = nI (f' * 5 + 3) := q_add _ 3
      unfold wpJ_Model_where_128
      rw [f0, g0, f2, f3, g2, g3, q_ix (by omega), q_ix (by omega), q_ix (by omega), q_ix (by omega)]
      refine ⟨fun h => go 0 ?_, fun h => ⟨vp_in_nI (by omega) (by omega), vp_in_nI (by omega) (by omega), fun p2 => go 0 (by rw [if_neg (fun z => p2 z.2.1)]), fun p2 => ⟨vp_in_nI (by omega) (by omega), vp_in_nI (by omega) (by omega), fun p3 => go 0 (by rw [if_neg (fun z => p3 z.2.2)]), fun p3 => go 1 ?_⟩⟩⟩
      · have h' : (if b = true then (1 : Int32) else 0) = 0 := h
        rw [if_neg (fun z => by rw [if_pos z.1] at h'; exact absurd h' (by decide))]
      · have h' : ¬ (if b = true then (1 : Int32) else 0) = 0 := h
        have b1 : b = true := by
          by_cases w : b = true
          · exact w
          · rw [if_neg w] at h'; exact absurd rfl h'
        rw [if_pos ⟨b1, p2, p3⟩]
    by_cases t0 : t = 0
    · refine ⟨fun h => absurd (if_pos t0) h, fun _ => put k (Nat.le_refl _) (by rw [if_pos t0])⟩
    · have hf : f < k := hb.2.resolve_left t0
      have ne : (if t = 0 then (-4 : Int32) else nI f) = nI f := if_neg t0
      refine ⟨fun _ => ?_, fun h => ?_⟩
      · show wpJ_Model_where_128 a1 a2 K J Q (nI t) (w7 (t, f, b)) (nI k) (if t = 0 then (-4 : Int32) else nI f) W
        rw [ne]
        exact put f (by omega) (by rw [if_neg t0])
      · have h : (if t = 0 then (-4 : Int32) else nI f) = -4 := h
        rw [ne] at h
        exact absurd h (fun c => by
          have := q_neq (a := f) (c := 4) (by omega) (by omega) (by omega)
          rw [show (-4 : Int32) = -nI 4 from rfl, this] at c
          exact c)
theorem mw_ring {n H L : Nat} {M R W : zMem} {Q : Int32 → zMem → Prop} (vt : sp_vt M 1 n H L) (r : rt0 W M n H L) (h : rq M n H L 120 R)
    (hQ : ∀ W' M0 Mc, sp_clear 32 M0 Mc → sp_ok Mc 1 32 n H L → (∀ i, i ≤ 4 → Mc (1 + i) = M (1 + i)) → Mc 30 0 = 0 → R = sp_run 1 32 H (nI 120) 12000 (sp_all 1 32 H Mc) → mr W' R 1 1 32 n H L (fun h => h) → mfy W W' → sp_rok (sp_ring 1 32 n H Mc) → mo (sp_ring 1 32 n H Mc) W' → Q (if sp_ring 1 32 n H Mc = none then 0 else 1) W') : wp_Model_asNumbered W (fun W1 => wp_Model_hasRing W1 Q) := by
  obtain ⟨M0, Mc, hc, ok, tc, z30, eR⟩ := h
  refine mt_asNumbered vt r (fun W1 m1 => ?_)
  obtain ⟨a18, a19, ah, a0, ak⟩ := id m1
  have H5 : H ≤ 5 := vt.1.2.2.2.1
  have r1 : rt0 W1 Mc n H L := r.moved (ak 4 (by omega) (by omega) (by omega)) tc
  have t1 : Mc 1 = M 1 := tc 0 (by omega)
  have t5 : Mc 5 = M 5 := tc 4 (by omega)
  have rt : mr_t W1 Mc 1 n H L := mr_t_of (M' := Mc) r1 a18 (by rw [t1]; exact a19) (fun h hh => by rw [t5]; exact (ah h hh).2)
  have rw0 : mw0 W1 Mc 1 n H (fun h => h) := ⟨fun h hh => ⟨by show h < 5; omega, (ah h hh).1⟩, fun h j _ _ e => e, fun h p hh hp => r1.2.2.2.2.2.2.2.2.2.1 h p hh hp⟩
  exact mt_hasRing hc ok rt rw0 (fun _ => z30) (fun W' b1 fx rk m _ _ => hQ W' M0 Mc hc ok tc z30 eR (by rw [eR]; exact b1) (m1.y.tr fx.y) rk m)
theorem mr_log {n H L z : Nat} {R W : zMem} (h : mr W R 1 1 32 n H L (fun h => h)) (ez : R 30 0 = nI z) (z6 : z ≤ 600) : ∀ j, j < 5 * z → W 10 j = R 31 j := by
  obtain ⟨o, o1, o2, o3, o4⟩ := h.2.2.2.2.2 rfl rfl
  have e : z = if o < 600 then o else 600 := (nI_eq (by omega) (by split <;> omega)).mp (ez.symm.trans o3)
  intro j hj
  have : z ≤ o := by rw [e]; split <;> omega
  exact o4 j (by omega) (by omega)
set_option maxHeartbeats 1000000 in
/-- where: the same answers, but for 'always at the same' of no time -/
theorem p_where {n H L : Nat} {M W : zMem} {a1 a2 : Int32} {P : zMem → zMem → Prop} (vt : sp_vt M 1 n H L) (r : rt0 W M n H L) (hcr : cr M n H L) (ht : ztc (M 32 0) = 1) (hcc : cc M n H L)
    (hP0 : P M W) (hP : ∀ M' W', cr M' n H L → cc M' n H L → M' 32 0 = M 32 0 → (∀ k, (k < 29 ∨ 55 ≤ k) → M' k = M k) → mfy W W' → P M' W') : wp_Main_where a1 a2 M (fun x M' => wp_Model_where a1 a2 W (fun y W' => (x = y ∨ a2 = 1) ∧ P M' W')) := by
  obtain ⟨⟨n1, n8, H1, H5, L1, L6⟩, hn, hH, -⟩ := id vt
  have bad : ¬ ((∃ h, 1 ≤ h ∧ h < H ∧ a1 = nI h) ∧ 0 ≤ a2 ∧ a2 ≤ 3) → wp_Model_where a1 a2 W (fun y W' => (-1 = y ∨ a2 = 1) ∧ P M W') := fun nb =>
    mt_isHand r.2.1 (by omega) (by omega) (fun h hh eh => ⟨fun q => absurd q (by decide), fun _ => ⟨fun _ => ⟨Or.inl rfl, hP0⟩, fun n0 => mt_in (lo' := 0) (hi' := 3) rfl rfl (fun c1 c2 => absurd ⟨⟨h, by
      rcases Nat.eq_zero_or_pos h with w | w
      · rw [w] at eh; exact absurd eh n0
      · exact w, hh, eh⟩, c1, c2⟩ nb) (fun _ => ⟨fun q => absurd rfl q, fun _ => ⟨Or.inl rfl, hP0⟩⟩)⟩⟩) (fun _ => ⟨fun _ => ⟨Or.inl rfl, hP0⟩, fun q => absurd rfl q⟩)
  refine ⟨fun c => bad (fun ⟨⟨h, h1, hh, eh⟩, _⟩ => ?_), fun c1 => ⟨fun c => bad (fun ⟨⟨h, h1, hh, eh⟩, _⟩ => ?_), fun c2 => ⟨fun c => bad (fun q => absurd c (Int32.not_lt.mpr q.2.1)), fun c3 => ⟨fun c4 => ?_, fun c => bad (fun q => c q.2.2)⟩⟩⟩⟩
  · rw [eh] at c
    have := (nI_ltI (b := 1) (by omega) (by omega)).mp c
    omega
  · rw [eh, hH] at c
    have := (nI_leI (by omega) (by omega)).mp c
    omega
  obtain ⟨h, hb, rfl⟩ := nI_of (x := a1) (fun q => c1 (Int32.lt_of_lt_of_le q (by decide : (0 : Int32) ≤ 1)))
  have h1 : 1 ≤ h := (nI_leI (a := 1) (by omega) (by omega)).mp (Int32.not_lt.mp c1)
  have hh : h < H := by
    rw [hH] at c2
    exact (nI_ltI (by omega) (by omega)).mp (Int32.not_le.mp c2)
  obtain ⟨c, hc3, rfl⟩ := nI_of2 (x := a2) (M := 3) (n := 3) rfl c3 c4
  have ref : ∀ (x : Int32) (M' : zMem), wp_Model_asNumbered W (fun zm5 => wp_Model_hasRing zm5 (fun zr8 zm7 => (¬ zr8 = 0 → ∃ m : Nat, zlp4 (wpB_Model_where_52 (nI h) (nI c) (fun (zx24 : Int32) (zx25 : Int32) (zx26 : Int32) (zm23 : zMem) => (¬ nI c = 0 → (¬ nI c = 1 → (¬ zx25 = (-4) → vp_in ((5 * zx25) + nI c) 3000 ∧ ((x = (zm23 10 (ix ((5 * zx25) + nI c))) ∨ nI c = 1) ∧ P M' zm23)) ∧ (zx25 = (-4) → ((x = (-4) ∨ nI c = 1) ∧ P M' zm23))) ∧ (nI c = 1 → (zx26 = 0 → ((x = 0 ∨ nI c = 1) ∧ P M' zm23)) ∧ (¬ zx26 = 0 → ((x = 1 ∨ nI c = 1) ∧ P M' zm23)))) ∧ (nI c = 0 → ((x = zx24 ∨ nI c = 1) ∧ P M' zm23))) (fun y W' => (x = y ∨ nI c = 1) ∧ P M' W')) m 0 ((-4)) 1 0 zm7) ∧ (zr8 = 0 → ((x = (-4) ∨ nI c = 1) ∧ P M' zm7)))) → wp_Model_where (nI h) (nI c) W (fun y W' => (x = y ∨ nI c = 1) ∧ P M' W') := fun x M' hx =>
    mt_isHand r.2.1 (by omega) (by omega) (fun _ _ _ => ⟨fun q => absurd q (by decide), fun _ => ⟨fun q => absurd q (nI_ne0 (by omega) (by omega)), fun _ => in_yes (hi := 3) rfl hc3 (by omega) ⟨fun _ => hx, fun q => absurd q (by decide)⟩⟩⟩) (fun q => absurd ⟨h, hh, rfl⟩ q)
  refine xt_findRing vt hcr (fun M1 M0 Mc hc ok tc rk ro cf => ?_)
  have told1 : ∀ i, i ≤ 4 → M1 (1 + i) = M (1 + i) := fun i hi => cf _ (by omega) (by omega)
  have cr1 : cr M1 n H L := Or.inr ⟨M0, Mc, hc, ok, fun i hi => (tc i hi).trans (told1 i hi).symm, rk, ro⟩
  have vt1 : sp_vt M1 1 n H L := vt.moved told1
  have e29 : M1 29 = M 29 := cf 29 (by omega) (by omega)
  have e32' : M1 32 0 = M 32 0 := by rw [cf 32 (by omega) (by omega)]
  have cc1 : cc M1 n H L := by
    rcases hcc with q | ⟨m, R, m1, m2, m3, m4, ⟨M0', Mc', b1, b2, b3, b4, b5⟩, m6⟩
    · exact Or.inl (by rw [e29]; exact q)
    · exact Or.inr ⟨m, R, m1, m2, by rw [e29]; exact m3, by rw [e29]; exact m4, ⟨M0', Mc', b1, b2, fun i hi => (b3 i hi).trans (told1 i hi).symm, b4, b5⟩, fun k k1 k2 => (cf k (by omega) (by omega)).trans (m6 k k1 k2)⟩
  obtain ⟨g0, gn, gs⟩ := id ro
  cases eo : sp_ring 1 45 n H Mc with
  | none =>
    refine ⟨fun q => absurd (gn eo).1 q, fun _ => ref _ _ (mt_ringAt vt r hc ok tc (fun W' fy m1 _ _ => ?_))⟩
    rw [if_pos eo]
    exact ⟨fun q => absurd rfl q, fun _ => ⟨Or.inl rfl, hP M1 W' cr1 cc1 e32' (fun k hk => cf k (by omega) (by omega)) fy⟩⟩
  | some x =>
    obtain ⟨da, ta, dn, tn⟩ := x
    obtain ⟨y1, y2, y5, y3, y4, -, -⟩ := gs da ta dn tn eo
    obtain ⟨k1, k2, k3, k4⟩ := rk da ta dn tn eo
    refine ⟨fun _ => ?_, fun q => absurd (y1.symm.trans q) (by decide)⟩
    show wp_Course_runFor 29 (nI 120) M1 _
    refine xt_course (m := 120) vt1 (by rw [e32']; exact ht) cc1 (by omega) (by omega) (fun M2 R hr e30 e2 e3 e32 fr => ?_)
    have cc2 := cc.of (by omega) (by omega) hr e30 e2 e3 fr
    obtain ⟨z, hz6, ez⟩ := rq_z (by omega) hr
    have e300 : M2 30 0 = nI z := by rw [e30 30 (by omega) (by omega)]; exact ez
    have e31 : M2 31 = R 31 := e30 31 (by omega) (by omega)
    have e54 : M2 54 = M1 54 := fr 54 (by omega)
    have cr2 : cr M2 n H L := Or.inr ⟨M0, Mc, hc, ok, fun i hi => ((tc i hi).trans (told1 i hi).symm).trans (fr _ (by omega)).symm, rk, by unfold sp_ro at ro ⊢; rw [e54]; exact ro⟩
    refine xt_places (lo := nI ta) (hi := nI tn) e300 hz6 (by rw [e54]; exact y5) (by rw [e54, y5, y4, q_add]; congr 1; omega) ?_
    rw [e31]
    have hr' : rq M n H L 120 R := by
      obtain ⟨A, B, b1, b2, b3, b4, b5⟩ := hr
      exact ⟨A, B, b1, b2, fun i hi => (b3 i hi).trans (told1 i hi), b4, b5⟩
    refine ref _ _ (mw_ring vt r hr' (fun W' M0' Mc' hc' ok' tc' z30 eR w1 fy rk' mo' => ?_))
    have er : sp_ring 1 32 n H Mc' = some (da, ta, dn, tn) := by
      rw [← eo]
      exact ag_ring ok' ok (ag_clear hc' hc H5 (fun i hi => (tc' i hi).trans (tc i hi).symm))
    rw [if_neg (fun q => by rw [er] at q; cases q)]
    refine ⟨fun _ => ?_, fun q => absurd q (by decide)⟩
    obtain ⟨q, rr, q1, q2, q3, q4, q5, q6, q7, q8⟩ := mo'.2 da ta dn tn er
    have pp : P M2 W' := hP M2 W' cr2 cc2 (e32.trans e32') (fun k hk => (fr k (by omega)).trans (cf k (by omega) (by omega))) fy
    have el := mr_log w1 ez hz6
    have kept : ∀ G : Int32 → zMem → Prop, G (nI z) W' → wp_Model_oversKept W' G := fun G hG => mw_kept w1 (fun z' hz' ez' _ => by
      have : z' = z := (nI_eq (by omega) (by omega)).mp (ez'.symm.trans ez)
      rw [this]; exact hG)
    refine mw_places hz6 kept q1 q2 q3 q4 q6 q8 (by omega) (fun s es => ?_)
    rw [wf_congr z el] at es
    rw [← es]
    have hs := wf_b (V := R 31) (h := nI h) (lo := nI ta) (hi := nI tn) z
    rw [← es] at hs
    have two : ∀ j, j < 5 → (¬ (if s.1 = 0 then (-4 : Int32) else nI s.2.1) = -4 → vp_in (5 * (if s.1 = 0 then (-4 : Int32) else nI s.2.1) + nI j) 3000 ∧ ((w2 (R 31) s j = W' 10 (ix (5 * (if s.1 = 0 then (-4 : Int32) else nI s.2.1) + nI j)) ∨ nI c = 1) ∧ P M2 W')) ∧ ((if s.1 = 0 then (-4 : Int32) else nI s.2.1) = -4 → ((w2 (R 31) s j = -4 ∨ nI c = 1) ∧ P M2 W')) := fun j hj => by
      unfold w2
      by_cases s0 : s.1 = 0
      · rw [if_pos s0, if_pos s0]
        exact ⟨fun q => absurd rfl q, fun _ => ⟨Or.inl rfl, pp⟩⟩
      · rw [if_neg s0, if_neg s0]
        have hf : s.2.1 < z := hs.2.resolve_left s0
        have f5 : 5 * nI s.2.1 + nI j = nI (s.2.1 * 5 + j) := by rw [show (5 : Int32) = nI 5 from rfl, q_mul, q_add, Nat.mul_comm]
        rw [f5, q_ix (by omega)]
        refine ⟨fun _ => ⟨vp_in_nI (by omega) (by omega), Or.inl (el _ (by omega)).symm, pp⟩, fun w => ?_⟩
        have := q_neq (a := s.2.1) (c := 4) (by omega) (by omega) (by omega)
        rw [show (-4 : Int32) = -nI 4 from rfl, this] at w
        exact absurd w id
    rcases (show c = 0 ∨ c = 1 ∨ c = 2 ∨ c = 3 by omega) with rfl | rfl | rfl | rfl
    · exact ⟨fun q => absurd rfl q, fun _ => ⟨Or.inl rfl, pp⟩⟩
    · exact ⟨fun _ => ⟨fun q => absurd rfl q, fun _ => ⟨fun w => ⟨Or.inr rfl, pp⟩, fun w => ⟨Or.inr rfl, pp⟩⟩⟩, fun q => absurd q (by decide)⟩
    · exact ⟨fun _ => ⟨fun _ => two 2 (by omega), fun q => absurd q (by decide)⟩, fun q => absurd q (by decide)⟩
    · exact ⟨fun _ => ⟨fun _ => two 3 (by omega), fun q => absurd q (by decide)⟩, fun q => absurd q (by decide)⟩
/-- how far a run of bytes goes: m left, from p on -/
def tk_s (P : Int32 → Bool) (T : Nat → Int32) : Nat → Nat → Nat
  | 0, p => p
  | m + 1, p => if P (T p) = true then tk_s P T m (p + 1) else p
def isB (b : Int32) : Bool := decide (b = 32)
def isL (b : Int32) : Bool := decide (¬ b < 97 ∧ ¬ 122 < b)
def isF (b : Int32) : Bool := decide (¬ b < 48 ∧ ¬ 57 < b)
theorem tk_s_le {P : Int32 → Bool} {T : Nat → Int32} : ∀ m p, p ≤ tk_s P T m p ∧ tk_s P T m p ≤ p + m := by
  intro m
  induction m with
  | zero => intro p; exact ⟨Nat.le_refl _, Nat.le_refl _⟩
  | succ m ih =>
    intro p
    unfold tk_s
    split
    · have := ih (p + 1)
      omega
    · omega
theorem tk_s_go {P : Int32 → Bool} {T : Nat → Int32} {z p : Nat} (h : p < z) (c : P (T p) = true) : tk_s P T (z - p) p = tk_s P T (z - (p + 1)) (p + 1) := by
  obtain ⟨m, e⟩ : ∃ m, z - p = m + 1 := ⟨z - p - 1, by omega⟩
  rw [e, show z - (p + 1) = m by omega]
  show (if P (T p) = true then _ else _) = _
  rw [if_pos c]
theorem tk_s_end {P : Int32 → Bool} {T : Nat → Int32} {z p : Nat} (h : z ≤ p ∨ P (T p) = false) : tk_s P T (z - p) p = p := by
  rcases Nat.lt_or_ge p z with q | q
  · obtain ⟨m, e⟩ : ∃ m, z - p = m + 1 := ⟨z - p - 1, by omega⟩
    rcases h with h | h
    · omega
    · rw [e]
      show (if P (T p) = true then _ else _) = _
      rw [h, if_neg (by decide)]
  · rw [show z - p = 0 by omega]; rfl
/-- whether word i stands there -/
def tk_w (T : Nat → Int32) (q e i : Nat) : Prop := e - q = zsL.getD i 0 ∧ ∀ j, j < zsL.getD i 0 → T (q + j) = zsc i j
/-- the first word from i on, m left -/
noncomputable def tk_nm (T : Nat → Int32) (q e : Nat) : Nat → Nat → Nat
  | 0, _ => 10
  | m + 1, i => haveI := Classical.propDecidable (tk_w T q e i); if tk_w T q e i then i else tk_nm T q e m (i + 1)
theorem tk_nm_s {T : Nat → Int32} {q e m i : Nat} : tk_nm T q e (m + 1) i = (haveI := Classical.propDecidable (tk_w T q e i); if tk_w T q e i then i else tk_nm T q e m (i + 1)) := rfl
theorem tk_nm_yes {T : Nat → Int32} {q e m i : Nat} (h : tk_w T q e i) : tk_nm T q e (m + 1) i = i := by
  rw [tk_nm_s, if_pos h]
theorem tk_nm_no {T : Nat → Int32} {q e m i : Nat} (h : ¬ tk_w T q e i) : tk_nm T q e (m + 1) i = tk_nm T q e m (i + 1) := by
  rw [tk_nm_s, if_neg h]
theorem tk_nm_b {T : Nat → Int32} {q e : Nat} : ∀ m i, i + m = 10 → tk_nm T q e m i ≤ 10 ∧ i ≤ tk_nm T q e m i := by
  intro m
  induction m with
  | zero => intro i h; show 10 ≤ 10 ∧ i ≤ 10; omega
  | succ m ih =>
    intro i h
    by_cases c : tk_w T q e i
    · rw [tk_nm_yes c]; omega
    · rw [tk_nm_no c]
      have := ih (i + 1) (by omega)
      omega
/-- what one or two figures tell -/
def tk_pv (T : Nat → Int32) (q e : Nat) : Int32 := if e = q then 0 else if e = q + 1 then 0 * 10 + T q - 48 else (0 * 10 + T q - 48) * 10 + T (q + 1) - 48
/-- the token from p on: where it starts, its kind (4: none), what it tells, where it ends, whether it is well -/
def tk_q (T : Nat → Int32) (z p : Nat) : Nat := tk_s isB T (z - p) p
def tk_k (T : Nat → Int32) (z q : Nat) : Nat := if q < z then (if T q = 59 then 3 else if isL (T q) = true then 1 else if isF (T q) = true then 2 else 4) else 0
def tk_e (T : Nat → Int32) (z q : Nat) : Nat := if tk_k T z q = 1 then tk_s isL T (z - q) q else if tk_k T z q = 2 then tk_s isF T (z - q) q else if tk_k T z q = 3 then q + 1 else q
noncomputable def tk_v (T : Nat → Int32) (z q : Nat) : Int32 := if tk_k T z q = 1 then nI (tk_nm T q (tk_e T z q) 10 0) else tk_pv T q (tk_e T z q)
def tk_o (T : Nat → Int32) (z q : Nat) : Prop := tk_k T z q = 0 ∨ tk_k T z q = 3 ∨ (tk_k T z q = 1 ∧ tk_nm T q (tk_e T z q) 10 0 < 10) ∨ (tk_k T z q = 2 ∧ tk_e T z q - q ≤ 2)
theorem tk_q_b {T : Nat → Int32} {z p : Nat} (h : p ≤ z) : p ≤ tk_q T z p ∧ tk_q T z p ≤ z := by
  have := tk_s_le (P := isB) (T := T) (z - p) p
  unfold tk_q
  omega
theorem tk_e_b {T : Nat → Int32} {z q : Nat} (h : q ≤ z) : q ≤ tk_e T z q ∧ tk_e T z q ≤ z := by
  have h1 := tk_s_le (P := isL) (T := T) (z - q) q
  have h2 := tk_s_le (P := isF) (T := T) (z - q) q
  unfold tk_e
  split
  · omega
  · split
    · omega
    · split
      · rename_i c
        have : q < z := by
          unfold tk_k at c
          split at c
          · assumption
          · omega
        omega
      · omega
theorem zup_same {M : zMem} {k j : Nat} {x : Int32} (h : M k j = x) : zup M k j x = M := by
  funext a
  by_cases e : a = k
  · subst e
    funext i
    rw [zup_eq]
    by_cases e2 : i = j
    · rw [e2, upd_eq, h]
    · rw [upd_ne e2]
  · rw [zup_ne e]
theorem e_isLetter {k a : Nat} {M : zMem} {Q : Int32 → zMem → Prop} (ha : a < 400) (hQ : Q (if isL (M (k + 6) a) = true then 1 else 0) M) : wp_Reader_isLetter k (nI a) M Q := by
  unfold isL at hQ
  unfold wp_Reader_isLetter
  rw [q_ix (by omega)]
  refine ⟨vp_in_nI ha (by omega), fun c => ?_, fun c => ⟨vp_in_nI ha (by omega), fun d => ?_, fun d => ?_⟩⟩
  · rw [if_neg (by simp [c])] at hQ; exact hQ
  · rw [if_neg (by simp [d])] at hQ; exact hQ
  · rw [if_pos (by simp [c, d])] at hQ; exact hQ
theorem e_isFigure {k a : Nat} {M : zMem} {Q : Int32 → zMem → Prop} (ha : a < 400) (hQ : Q (if isF (M (k + 6) a) = true then 1 else 0) M) : wp_Reader_isFigure k (nI a) M Q := by
  unfold isF at hQ
  unfold wp_Reader_isFigure
  rw [q_ix (by omega)]
  refine ⟨vp_in_nI ha (by omega), fun c => ?_, fun c => ⟨vp_in_nI ha (by omega), fun d => ?_, fun d => ?_⟩⟩
  · rw [if_neg (by simp [c])] at hQ; exact hQ
  · rw [if_neg (by simp [d])] at hQ; exact hQ
  · rw [if_pos (by simp [c, d])] at hQ; exact hQ
/-- blanks -/
theorem xt_skip {k z p : Nat} {M : zMem} {K : zMem → Prop} {Q : Int32 → zMem → Prop} (h5 : M k 5 = nI z) (hz : z ≤ 400) (h6 : M k 6 = nI p) (hp : p ≤ z) (hK : K (zup M k 6 (nI (tk_q (M (k + 6)) z p)))) : ∃ n, zlp0 (wpB_Reader_readToken_0 k K Q) n M := by
  refine zlp0_r (fun m M' => ∃ i, i ≤ z ∧ m = z - i ∧ M' = zup M k 6 (nI i) ∧ tk_s isB (M (k + 6)) (z - i) i = tk_q (M (k + 6)) z p) ?_ (n := z - p) ⟨p, hp, rfl, (zup_same h6).symm, rfl⟩
  rintro m M' ⟨i, hi, rfl, rfl, e⟩ J hJ
  unfold wpB_Reader_readToken_0
  have g5 : zup M k 6 (nI i) k 5 = nI z := by rw [zup_eq, upd_ne (by omega)]; exact h5
  have g6 : zup M k 6 (nI i) k 6 = nI i := by rw [zup_eq, upd_eq]
  have gT : zup M k 6 (nI i) (k + 6) = M (k + 6) := by rw [zup_ne (by omega)]
  rw [g5, g6, gT, q_ix (by omega)]
  have stop : (z ≤ i ∨ isB (M (k + 6) i) = false) → K (zup M k 6 (nI i)) := fun c => by
    rw [tk_s_end c] at e
    rw [e]; exact hK
  refine ⟨fun c => stop (Or.inl ((nI_leI (by omega) (by omega)).mp c)), fun c => ?_⟩
  have hi2 : i < z := (nI_ltI (by omega) (by omega)).mp (Int32.not_le.mp c)
  refine ⟨vp_in_nI (by omega) (by omega), fun d => stop (Or.inr (by unfold isB; simp [d])), fun d M2 e2 => ?_⟩
  refine hJ (z - (i + 1)) _ (by omega) ⟨i + 1, by omega, rfl, ?_, ?_⟩
  · rw [e2, zup_zup, nI_1]
  · rw [← e, ← tk_s_go hi2 (by unfold isB; simp [d])]
/-- letters -/
theorem xt_letters {k z p : Nat} {M : zMem} {K : zMem → Prop} {Q : Int32 → zMem → Prop} (h5 : M k 5 = nI z) (hz : z ≤ 400) (h6 : M k 6 = nI p) (hp : p ≤ z) (hK : K (zup M k 6 (nI (tk_s isL (M (k + 6)) (z - p) p)))) : ∃ n, zlp0 (wpB_Reader_readName_5 k K Q) n M := by
  refine zlp0_r (fun m M' => ∃ i, i ≤ z ∧ m = z - i ∧ M' = zup M k 6 (nI i) ∧ tk_s isL (M (k + 6)) (z - i) i = tk_s isL (M (k + 6)) (z - p) p) ?_ (n := z - p) ⟨p, hp, rfl, (zup_same h6).symm, rfl⟩
  rintro m M' ⟨i, hi, rfl, rfl, e⟩ J hJ
  unfold wpB_Reader_readName_5
  have g5 : zup M k 6 (nI i) k 5 = nI z := by rw [zup_eq, upd_ne (by omega)]; exact h5
  have g6 : zup M k 6 (nI i) k 6 = nI i := by rw [zup_eq, upd_eq]
  have gT : zup M k 6 (nI i) (k + 6) = M (k + 6) := by rw [zup_ne (by omega)]
  rw [g5, g6]
  have stop : (z ≤ i ∨ isL (M (k + 6) i) = false) → K (zup M k 6 (nI i)) := fun c => by
    rw [tk_s_end c] at e
    rw [e]; exact hK
  refine ⟨fun c => stop (Or.inl ((nI_leI (by omega) (by omega)).mp c)), fun c => ?_⟩
  have hi2 : i < z := (nI_ltI (by omega) (by omega)).mp (Int32.not_le.mp c)
  refine e_isLetter (by omega) ?_
  rw [gT]
  by_cases d : isL (M (k + 6) i) = true
  · rw [if_pos d]
    refine ⟨fun q => absurd q (by decide), fun _ M2 e2 => ?_⟩
    refine hJ (z - (i + 1)) _ (by omega) ⟨i + 1, by omega, rfl, ?_, ?_⟩
    · rw [e2, g6, zup_zup, nI_1]
    · rw [← e, ← tk_s_go hi2 d]
  · rw [if_neg d]
    refine ⟨fun _ => stop (Or.inr (by simpa using d)), fun q => absurd rfl q⟩
theorem zup_cm {M : zMem} {k i j : Nat} {x y : Int32} (h : i ≠ j) : zup (zup M k i x) k j y = zup (zup M k j y) k i x := by
  funext a
  by_cases e : a = k
  · subst e
    funext l
    rw [zup_eq, zup_eq, zup_eq, zup_eq]
    by_cases c1 : l = i
    · subst c1; rw [upd_ne h, upd_eq, upd_eq]
    · by_cases c2 : l = j
      · subst c2; rw [upd_eq, upd_ne c1, upd_eq]
      · rw [upd_ne c2, upd_ne c1, upd_ne c1, upd_ne c2]
  · rw [zup_ne e, zup_ne e, zup_ne e, zup_ne e]
def b2i (b : Bool) : Int32 := if b = true then 1 else 0
/-- a fault at the token at hand -/
def rfs (k : Nat) (c : Int32) (M : zMem) : zMem := zup (zup M k 1 c) k 2 (M k 8)
theorem e_refuse {k : Nat} {c : Int32} {M : zMem} {Q : Int32 → zMem → Prop} (hQ : Q 0 (rfs k c M)) : wp_Reader_refuse k c (M k 8) M Q := by
  intro M1 e1 M2 e2
  rw [e2, e1]
  exact hQ
theorem zsL_b {i : Nat} (h : i < 11) : zsL.getD i 0 ≤ 5 := (show ∀ i, i < 11 → zsL.getD i 0 ≤ 5 by decide) i h
/-- one word is held against the tape -/
theorem xt_cmp {k z q e i : Nat} {x1 : Int32} {M : zMem} {K : Int32 → zMem → Prop} {Q : Int32 → zMem → Prop} (hi : i < 11) (h6 : M k 6 = nI e) (h8 : M k 8 = nI q) (hq : q ≤ e) (he : e ≤ z) (hz : z ≤ 400) (hK : ∀ s, s ≤ 5 → ((s = zsL.getD i 0 ∧ q + s = e) ↔ tk_w (M (k + 6)) q e i) → K (nI s) M) : ∃ n, zlp1 (wpB_Reader_readName_68 k x1 i K Q) n 0 M := by
  have hL := zsL_b (i := i) (by omega)
  refine zlp1_r (fun m x M' => ∃ s, x = nI s ∧ s ≤ zsL.getD i 0 ∧ m = zsL.getD i 0 - s ∧ M = M' ∧ q + s ≤ e ∧ ∀ j, j < s → M (k + 6) (q + j) = zsc i j) ?_ (n := zsL.getD i 0) ⟨0, rfl, by omega, rfl, rfl, by omega, fun j h => absurd h (by omega)⟩
  rintro m x M' ⟨s, rfl, hs, rfl, rfl, hse, hj⟩ J hJ
  unfold wpB_Reader_readName_68
  have stop : (s = zsL.getD i 0 ∨ q + s = e ∨ M (k + 6) (q + s) ≠ zsc i s) → K (nI s) M := fun st => hK s (by omega) ⟨fun ⟨c1, c2⟩ => ⟨by omega, fun j h => hj j (by omega)⟩, fun ⟨c1, c2⟩ => by
    rcases st with c | c | c
    · omega
    · omega
    · rcases Nat.lt_or_ge s (zsL.getD i 0) with d | d
      · exact absurd (c2 s d) c
      · omega⟩
  refine ⟨hi, fun c => stop (Or.inl ?_), fun c => ?_⟩
  · have := (nI_leI (by omega) (by omega)).mp c
    omega
  have hs2 : s < zsL.getD i 0 := (nI_ltI (by omega) (by omega)).mp (Int32.not_le.mp c)
  rw [h6, h8, q_add]
  refine ⟨fun c => stop (Or.inr (Or.inl ?_)), fun c => ?_⟩
  · have := (nI_leI (by omega) (by omega)).mp c
    omega
  have hs3 : q + s < e := (nI_ltI (by omega) (by omega)).mp (Int32.not_le.mp c)
  refine ⟨vp_in_nI (by omega) (by omega), hi, vp_in_nI hs2 (by omega), ?_⟩
  rw [q_ix (by omega), nI_clamp (by omega)]
  refine ⟨fun d => stop (Or.inr (Or.inr d)), fun d y ey => ?_⟩
  rw [ey, nI_1]
  refine hJ (zsL.getD i 0 - (s + 1)) _ _ (by omega) ⟨s + 1, rfl, by omega, rfl, rfl, by omega, fun j h => ?_⟩
  rcases Nat.lt_or_ge j s with c | c
  · exact hj j c
  · rw [show j = s by omega]; exact d
/-- which word it is -/
theorem xt_words {k z q e : Nat} {M : zMem} {K : zMem → Prop} {Q : Int32 → zMem → Prop} (h6 : M k 6 = nI e) (h8 : M k 8 = nI q) (h9 : M k 9 = -1) (hq : q ≤ e) (he : e ≤ z) (hz : z ≤ 400) (hK : ∀ nm, nm = tk_nm (M (k + 6)) q e 10 0 → K (zup M k 9 (if nm < 10 then nI nm else -1))) : ∃ n, zlp1 (wpB_Reader_readName_47 k K Q) n 0 M := by
  have hb := tk_nm_b (T := M (k + 6)) (q := q) (e := e) 10 0 rfl
  have hK' := hK _ rfl
  generalize hnm : tk_nm (M (k + 6)) q e 10 0 = nm at hb hK'
  refine zlp1_r (fun m x M' => ∃ i, x = nI i ∧ i ≤ 10 ∧ m = 10 - i ∧ ((M' = M ∧ tk_nm (M (k + 6)) q e (10 - i) i = nm) ∨ (nm < 10 ∧ M' = zup M k 9 (nI nm)))) ?_ (n := 10) ⟨0, rfl, by omega, rfl, Or.inl ⟨rfl, hnm⟩⟩
  rintro m x M' ⟨i, rfl, hi, rfl, hc⟩ J hJ
  unfold wpB_Reader_readName_47
  rcases hc with ⟨rfl, e1⟩ | ⟨h10, rfl⟩
  · refine ⟨fun c => ?_, fun c => ⟨fun d => absurd h9 d, fun _ => ?_⟩⟩
    · have := (nI_leI (a := 10) (by omega) (by omega)).mp c
      have e2 : i = 10 := by omega
      rw [e2] at e1
      have e3 : nm = 10 := e1.symm
      rw [e3, if_neg (by omega), zup_same h9] at hK'
      exact hK'
    · have hi2 : i < 10 := (nI_ltI (b := 10) (by omega) (by omega)).mp (Int32.not_le.mp c)
      refine ⟨fun j hj ej => ?_, fun no => absurd rfl (no i hi2)⟩
      have : i = j := (nI_eq (by omega) (by omega)).mp ej
      subst this
      refine xt_cmp (by omega) h6 h8 hq he hz (fun s hs iff => ?_)
      have hL := zsL_b (i := i) (by omega)
      obtain ⟨f, ef⟩ : ∃ f, 10 - i = f + 1 := ⟨10 - i - 1, by omega⟩
      have ef2 : 10 - (i + 1) = f := by omega
      have no : ¬ (s = zsL.getD i 0 ∧ q + s = e) → ∀ y, y = nI i + 1 → J y M' := fun c y ey => by
        rw [ey, nI_1]
        refine hJ (10 - (i + 1)) _ _ (by omega) ⟨i + 1, rfl, by omega, rfl, Or.inl ⟨rfl, ?_⟩⟩
        rw [ef, tk_nm_no (fun w => c (iff.mpr w))] at e1
        rw [ef2]; exact e1
      unfold wpJ_Reader_readName_114
      refine ⟨by omega, fun c => no (fun w => c (by rw [w.1])), fun c => ?_⟩
      have c' : s = zsL.getD i 0 := (nI_eq (by omega) (by omega)).mp c
      rw [h6, h8, q_add]
      refine ⟨fun d => no (fun w => d (by rw [w.2])), fun d M2 e2 y ey => ?_⟩
      have d' : q + s = e := (nI_eq (by omega) (by omega)).mp d
      rw [ey, nI_1]
      rw [ef, tk_nm_yes (iff.mp ⟨c', d'⟩)] at e1
      refine hJ (10 - (i + 1)) _ _ (by omega) ⟨i + 1, rfl, by omega, rfl, Or.inr ⟨by omega, by rw [e2, e1]⟩⟩
  · have n9 : ¬ zup M k 9 (nI nm) k 9 = -1 := by
      rw [zup_eq, upd_eq]
      exact fun q => (q_neq (a := nm) (c := 1) (by omega) (by omega) (by omega)).mp q
    rw [if_pos h10] at hK'
    exact ⟨fun _ => hK', fun _ => ⟨fun _ => hK', fun d => absurd d n9⟩⟩
theorem xt_name {k z q : Nat} {M : zMem} {Q : Int32 → zMem → Prop} (h5 : M k 5 = nI z) (hz : z ≤ 400) (h6 : M k 6 = nI q) (h8 : M k 8 = nI q) (hq : q ≤ z)
    (hQ : ∀ e nm, e = tk_s isL (M (k + 6)) (z - q) q → nm = tk_nm (M (k + 6)) q e 10 0 → (nm < 10 → Q 1 (zup (zup (zup M k 7 1) k 6 (nI e)) k 9 (nI nm))) ∧ (¬ nm < 10 → Q 0 (rfs k 1 (zup (zup (zup M k 7 1) k 6 (nI e)) k 9 (-1))))) : wp_Reader_readName k M Q := by
  intro M1 e1
  have a5 : M1 k 5 = nI z := by rw [e1, zup_eq, upd_ne (by omega)]; exact h5
  have a6 : M1 k 6 = nI q := by rw [e1, zup_eq, upd_ne (by omega)]; exact h6
  have aT : M1 (k + 6) = M (k + 6) := by rw [e1, zup_ne (by omega)]
  refine xt_letters a5 hz a6 hq ?_
  intro M3 e3
  have hb := tk_s_le (P := isL) (T := M1 (k + 6)) (z - q) q
  obtain ⟨c1, c2⟩ := hQ _ _ rfl rfl
  rw [← aT] at c1 c2
  generalize hee : tk_s isL (M1 (k + 6)) (z - q) q = e at hb c1 c2 e3
  have bT : M3 (k + 6) = M1 (k + 6) := by rw [e3, zup_ne (by omega), zup_ne (by omega)]
  have b6 : M3 k 6 = nI e := by rw [e3, zup_eq, upd_ne (by omega), zup_eq, upd_eq]
  have b8 : M3 k 8 = nI q := by rw [e3, zup_eq, upd_ne (by omega), zup_eq, upd_ne (by omega), e1, zup_eq, upd_ne (by omega)]; exact h8
  have b9 : M3 k 9 = -1 := by rw [e3, zup_eq, upd_eq]
  refine xt_words b6 b8 b9 hb.1 (show e ≤ z by omega) hz (fun nm enm => ?_)
  rw [bT] at enm
  rw [← enm] at c1 c2
  unfold wpJ_Reader_readName_146
  by_cases h10 : nm < 10
  · rw [if_pos h10]
    have n9 : ¬ zup M3 k 9 (nI nm) k 9 = -1 := by
      rw [zup_eq, upd_eq]
      exact fun q => (q_neq (a := nm) (c := 1) (by omega) (by omega) (by omega)).mp q
    refine ⟨fun _ => ?_, fun d => absurd d n9⟩
    rw [e3, zup_zup, e1]
    exact c1 h10
  · rw [if_neg h10, zup_same b9]
    refine ⟨fun d => absurd b9 d, fun _ => e_refuse ⟨fun _ => ?_, fun d => absurd rfl d⟩⟩
    rw [e3, e1]
    exact c2 h10
theorem xt_figs {k z q : Nat} {M : zMem} {Q : Int32 → zMem → Prop} (h5 : M k 5 = nI z) (hz : z ≤ 400) (h6 : M k 6 = nI q) (h8 : M k 8 = nI q) (hq : q ≤ z)
    (hQ : ∀ e, e = tk_s isF (M (k + 6)) (z - q) q → (e - q ≤ 2 → Q 1 (zup (zup (zup M k 7 2) k 9 (tk_pv (M (k + 6)) q e)) k 6 (nI e))) ∧ (¬ e - q ≤ 2 → Q 0 (rfs k 1 (zup (zup (zup M k 7 2) k 9 (tk_pv (M (k + 6)) q e)) k 6 (nI e))))) : wp_Reader_readFigures k M Q := by
  intro M1 e1 M2 e2
  have hQ' := hQ _ rfl
  have hb := tk_s_le (P := isF) (T := M (k + 6)) (z - q) q
  generalize hee : tk_s isF (M (k + 6)) (z - q) q = e at hQ' hb
  have a5 : M1 k 5 = nI z := by rw [e1, zup_eq, upd_ne (by omega)]; exact h5
  have a6 : M1 k 6 = nI q := by rw [e1, zup_eq, upd_ne (by omega)]; exact h6
  have a8 : M1 k 8 = nI q := by rw [e1, zup_eq, upd_ne (by omega)]; exact h8
  have aT : M1 (k + 6) = M (k + 6) := by rw [e1, zup_ne (by omega)]
  refine zlp0_r (fun m M' => ∃ i, q ≤ i ∧ i ≤ z ∧ m = z - i ∧ M' = zup (zup M1 k 9 (tk_pv (M (k + 6)) q i)) k 6 (nI i) ∧ tk_s isF (M (k + 6)) (z - i) i = e) ?_ (n := z - q) ⟨q, Nat.le_refl _, hq, rfl, ?_, hee⟩
  · rintro m M' ⟨i, hqi, hi, rfl, rfl, ei⟩ J hJ
    unfold wpB_Reader_readFigures_10
    generalize hX : zup (zup M1 k 9 (tk_pv (M (k + 6)) q i)) k 6 (nI i) = X
    have g5 : X k 5 = nI z := by rw [← hX, zup_eq, upd_ne (by omega), zup_eq, upd_ne (by omega)]; exact a5
    have g6 : X k 6 = nI i := by rw [← hX, zup_eq, upd_eq]
    have g8 : X k 8 = nI q := by rw [← hX, zup_eq, upd_ne (by omega), zup_eq, upd_ne (by omega)]; exact a8
    have g9 : X k 9 = tk_pv (M (k + 6)) q i := by rw [← hX, zup_eq, upd_ne (by omega), zup_eq, upd_eq]
    have gT : X (k + 6) = M (k + 6) := by rw [← hX, zup_ne (by omega), zup_ne (by omega)]; exact aT
    rw [g5, g6]
    have stop : (z ≤ i ∨ isF (M (k + 6) i) = false) → wpJ_Reader_readFigures_89 k Q X := fun c => by
      rw [tk_s_end c] at ei
      subst ei
      unfold wpJ_Reader_readFigures_89
      rw [g6, g8, q_sub hqi]
      rw [e1] at hX
      refine ⟨fun d => ?_, fun d => ?_⟩
      · have := (nI_leI (b := 2) (by omega) (by omega)).mp d
        rw [← hX]; exact hQ'.1 this
      · rw [← g8]
        refine e_refuse ⟨fun _ => ?_, fun w => absurd rfl w⟩
        rw [← hX]
        exact hQ'.2 (fun w => d ((nI_leI (b := 2) (by omega) (by omega)).mpr w))
    refine ⟨fun c => stop (Or.inl ((nI_leI (by omega) (by omega)).mp c)), fun c => ?_⟩
    have hi2 : i < z := (nI_ltI (by omega) (by omega)).mp (Int32.not_le.mp c)
    refine e_isFigure (by omega) ?_
    rw [gT]
    by_cases d : isF (M (k + 6) i) = true
    · rw [if_pos d, g8, g6, q_sub hqi]
      have nx : tk_s isF (M (k + 6)) (z - (i + 1)) (i + 1) = e := by rw [← ei, ← tk_s_go hi2 d]
      refine ⟨fun w => absurd w (by decide), fun _ => ⟨fun w M5 e5 M6 e6 => ?_, fun w => ⟨vp_in_nI (by omega) (by omega), fun M5 e5 M6 e6 => ?_⟩⟩⟩
      · have hw : 2 ≤ i - q := (nI_leI (a := 2) (by omega) (by omega)).mp w
        refine hJ (z - (i + 1)) _ (by omega) ⟨i + 1, by omega, by omega, rfl, ?_, nx⟩
        rw [e6, e5, zup_same rfl, g6, ← hX, zup_zup, nI_1]
        have : tk_pv (M (k + 6)) q i = tk_pv (M (k + 6)) q (i + 1) := by
          unfold tk_pv
          rw [if_neg (by omega), if_neg (by omega), if_neg (by omega), if_neg (by omega)]
        rw [this]
      · have hw : i - q < 2 := by
          rcases Nat.lt_or_ge (i - q) 2 with v | v
          · exact v
          · exact absurd ((nI_leI (a := 2) (by omega) (by omega)).mpr v) w
        refine hJ (z - (i + 1)) _ (by omega) ⟨i + 1, by omega, by omega, rfl, ?_, nx⟩
        have f6 : M5 k 6 = nI i := by rw [e5, zup_eq, upd_ne (by omega)]; exact g6
        rw [e6, f6, e5, g9, ← hX, zup_cm (i := 6) (j := 9) (by omega), zup_zup, zup_zup, nI_1]
        have : tk_pv (M (k + 6)) q i * 10 + M (k + 6) (ix (nI i)) - 48 = tk_pv (M (k + 6)) q (i + 1) := by
          rw [q_ix (by omega)]
          unfold tk_pv
          rcases (show i = q ∨ i = q + 1 by omega) with rfl | rfl
          · rw [if_pos rfl, if_neg (by omega), if_pos rfl]
          · rw [if_neg (by omega), if_pos rfl, if_neg (by omega), if_neg (by omega)]
        rw [this]
    · rw [if_neg d]
      exact ⟨fun _ => stop (Or.inr (by simpa using d)), fun w => absurd rfl w⟩
  · have : tk_pv (M (k + 6)) q q = 0 := by unfold tk_pv; rw [if_pos rfl]
    rw [this, e2]
    exact (zup_same (by rw [zup_eq, upd_ne (by omega)]; exact a6)).symm
/-- all but where the reader is -/
def tkf (k : Nat) (M M' : zMem) : Prop := (∀ c, c ≠ k → M' c = M c) ∧ ∀ j, j ≠ 6 → j ≠ 7 → j ≠ 8 → j ≠ 9 → M' k j = M k j
/-- a token is read -/
def rT (k z p : Nat) (M : zMem) (b : Bool) (M' : zMem) : Prop :=
  (b = true ∧ tk_o (M (k + 6)) z (tk_q (M (k + 6)) z p) ∧ tkf k M M' ∧ M' k 6 = nI (tk_e (M (k + 6)) z (tk_q (M (k + 6)) z p)) ∧ M' k 7 = nI (tk_k (M (k + 6)) z (tk_q (M (k + 6)) z p)) ∧ M' k 8 = nI (tk_q (M (k + 6)) z p) ∧ (tk_k (M (k + 6)) z (tk_q (M (k + 6)) z p) = 1 ∨ tk_k (M (k + 6)) z (tk_q (M (k + 6)) z p) = 2 → M' k 9 = tk_v (M (k + 6)) z (tk_q (M (k + 6)) z p))) ∨
  (b = false ∧ ¬ tk_o (M (k + 6)) z (tk_q (M (k + 6)) z p) ∧ ∃ M1, tkf k M M1 ∧ M1 k 8 = nI (tk_q (M (k + 6)) z p) ∧ M' = rfs k 1 M1)
theorem xt_token {k z p : Nat} {M : zMem} {Q : Int32 → zMem → Prop} (h5 : M k 5 = nI z) (hz : z ≤ 400) (h6 : M k 6 = nI p) (hp : p ≤ z) (hQ : ∀ b M', rT k z p M b M' → Q (b2i b) M') : wp_Reader_readToken k M Q := by
  have hb := tk_q_b (T := M (k + 6)) hp
  unfold rT at hQ
  refine xt_skip h5 hz h6 hp ?_
  generalize tk_q (M (k + 6)) z p = q at hQ hb
  have ok := fun M' => hQ true M'
  have no := fun M' => hQ false M'
  intro M3 e3
  have x6 : zup M k 6 (nI q) k 6 = nI q := by rw [zup_eq, upd_eq]
  rw [x6] at e3
  have g5 : M3 k 5 = nI z := by rw [e3, zup_eq, upd_ne (by omega), zup_eq, upd_ne (by omega)]; exact h5
  have g6 : M3 k 6 = nI q := by rw [e3, zup_eq, upd_ne (by omega)]; exact x6
  have g8 : M3 k 8 = nI q := by rw [e3, zup_eq, upd_eq]
  have gT : M3 (k + 6) = M (k + 6) := by rw [e3, zup_ne (by omega), zup_ne (by omega)]
  have fr : tkf k M M3 := ⟨fun c hc => by rw [e3, zup_ne hc, zup_ne hc], fun j a b c d => by rw [e3, zup_eq, upd_ne c, zup_eq, upd_ne a]⟩
  have up : ∀ (X : zMem) (j : Nat) (x : Int32), j = 6 ∨ j = 7 ∨ j = 9 → tkf k M X → tkf k M (zup X k j x) := fun X j x hj h => ⟨fun c hc => by rw [zup_ne hc]; exact h.1 c hc, fun i a b c d => by rw [zup_eq, upd_ne (by omega)]; exact h.2 i a b c d⟩
  rw [g5, g6, gT]
  refine ⟨fun c => ?_, fun c M6 e6 => ?_⟩
  · have hqz : q < z := (nI_ltI (by omega) (by omega)).mp c
    rw [q_ix (by omega)]
    refine ⟨vp_in_nI (by omega) (by omega), fun d => ?_, fun d M5 e5 M6 e6 => ?_⟩
    · refine e_isLetter (by omega) ?_
      rw [gT]
      by_cases hl : isL (M (k + 6) q) = true
      · rw [if_pos hl]
        refine ⟨fun w => absurd w (by decide), fun _ => xt_name g5 hz g6 g8 hb.2 (fun e nm ee en => ?_)⟩
        rw [gT] at ee en
        have kk : tk_k (M (k + 6)) z q = 1 := by unfold tk_k; rw [if_pos hqz, if_neg d, if_pos hl]
        have ke : tk_e (M (k + 6)) z q = e := by unfold tk_e; rw [if_pos kk]; exact ee.symm
        have kv : tk_v (M (k + 6)) z q = nI nm := by unfold tk_v; rw [if_pos kk, ke, en]
        have ko : tk_o (M (k + 6)) z q ↔ nm < 10 := by unfold tk_o; rw [kk, ke, ← en]; omega
        refine ⟨fun h => ⟨zbo_1, ok _ (Or.inl ⟨rfl, ko.mpr h, up _ 9 _ (by omega) (up _ 6 _ (by omega) (up _ 7 _ (by omega) fr)), ?_, ?_, ?_, fun _ => ?_⟩)⟩, fun h => ⟨zbo_0, no _ (Or.inr ⟨rfl, fun w => h (ko.mp w), _, up _ 9 _ (by omega) (up _ 6 _ (by omega) (up _ 7 _ (by omega) fr)), ?_, rfl⟩)⟩⟩
        · rw [ke, zup_eq, upd_ne (by omega), zup_eq, upd_eq]
        · rw [kk, zup_eq, upd_ne (by omega), zup_eq, upd_ne (by omega), zup_eq, upd_eq]; rfl
        · rw [zup_eq, upd_ne (by omega), zup_eq, upd_ne (by omega), zup_eq, upd_ne (by omega)]; exact g8
        · rw [kv, zup_eq, upd_eq]
        · rw [zup_eq, upd_ne (by omega), zup_eq, upd_ne (by omega), zup_eq, upd_ne (by omega)]; exact g8
      · rw [if_neg hl]
        refine ⟨fun _ => ?_, fun w => absurd rfl w⟩
        rw [g6]
        refine e_isFigure (by omega) ?_
        rw [gT]
        by_cases hf : isF (M (k + 6) q) = true
        · rw [if_pos hf]
          refine ⟨fun w => absurd w (by decide), fun _ => xt_figs g5 hz g6 g8 hb.2 (fun e ee => ?_)⟩
          rw [gT] at ee
          have kk : tk_k (M (k + 6)) z q = 2 := by unfold tk_k; rw [if_pos hqz, if_neg d, if_neg hl, if_pos hf]
          have ke : tk_e (M (k + 6)) z q = e := by unfold tk_e; rw [if_neg (by rw [kk]; omega), if_pos kk]; exact ee.symm
          have kv : tk_v (M (k + 6)) z q = tk_pv (M (k + 6)) q e := by unfold tk_v; rw [if_neg (by rw [kk]; omega), ke]
          have ko : tk_o (M (k + 6)) z q ↔ e - q ≤ 2 := by unfold tk_o; rw [kk, ke]; omega
          rw [gT]
          refine ⟨fun h => ⟨zbo_1, ok _ (Or.inl ⟨rfl, ko.mpr h, up _ 6 _ (by omega) (up _ 9 _ (by omega) (up _ 7 _ (by omega) fr)), ?_, ?_, ?_, fun _ => ?_⟩)⟩, fun h => ⟨zbo_0, no _ (Or.inr ⟨rfl, fun w => h (ko.mp w), _, up _ 6 _ (by omega) (up _ 9 _ (by omega) (up _ 7 _ (by omega) fr)), ?_, rfl⟩)⟩⟩
          · rw [ke, zup_eq, upd_eq]
          · rw [kk, zup_eq, upd_ne (by omega), zup_eq, upd_ne (by omega), zup_eq, upd_eq]; rfl
          · rw [zup_eq, upd_ne (by omega), zup_eq, upd_ne (by omega), zup_eq, upd_ne (by omega)]; exact g8
          · rw [kv, zup_eq, upd_ne (by omega), zup_eq, upd_eq]
          · rw [zup_eq, upd_ne (by omega), zup_eq, upd_ne (by omega), zup_eq, upd_ne (by omega)]; exact g8
        · rw [if_neg hf]
          refine ⟨fun _ => e_refuse ⟨zbo_0, no _ (Or.inr ⟨rfl, ?_, _, fr, g8, rfl⟩)⟩, fun w => absurd rfl w⟩
          have kk : tk_k (M (k + 6)) z q = 4 := by unfold tk_k; rw [if_pos hqz, if_neg d, if_neg hl, if_neg hf]
          unfold tk_o
          rw [kk]; omega
    · have kk : tk_k (M (k + 6)) z q = 3 := by unfold tk_k; rw [if_pos hqz, if_pos d]
      have ke : tk_e (M (k + 6)) z q = q + 1 := by unfold tk_e; rw [if_neg (by rw [kk]; omega), if_neg (by rw [kk]; omega), if_pos kk]
      have f6 : M5 k 6 = nI q := by rw [e5, zup_eq, upd_ne (by omega)]; exact g6
      refine ok _ (Or.inl ⟨rfl, Or.inr (Or.inl kk), ?_, ?_, ?_, ?_, fun w => absurd w (by rw [kk]; omega)⟩)
      · rw [e6, e5]; exact up _ 6 _ (by omega) (up _ 7 _ (by omega) fr)
      · rw [ke, e6, zup_eq, upd_eq, f6, nI_1]
      · rw [kk, e6, zup_eq, upd_ne (by omega), e5, zup_eq, upd_eq]; rfl
      · rw [e6, zup_eq, upd_ne (by omega), e5, zup_eq, upd_ne (by omega)]; exact g8
  · have hqz : ¬ q < z := fun w => c ((nI_ltI (by omega) (by omega)).mpr w)
    have kk : tk_k (M (k + 6)) z q = 0 := by unfold tk_k; rw [if_neg hqz]
    have ke : tk_e (M (k + 6)) z q = q := by unfold tk_e; rw [if_neg (by rw [kk]; omega), if_neg (by rw [kk]; omega), if_neg (by rw [kk]; omega)]
    refine ok _ (Or.inl ⟨rfl, Or.inl kk, ?_, ?_, ?_, ?_, fun w => absurd w (by rw [kk]; omega)⟩)
    · rw [e6]; exact up _ 7 _ (by omega) fr
    · rw [ke, e6, zup_eq, upd_ne (by omega)]; exact g6
    · rw [kk, e6, zup_eq, upd_eq]; rfl
    · rw [e6, zup_eq, upd_ne (by omega)]; exact g8
/-- bytes with and without a sign -/
theorem by8 (y : Int8) : ((y.toInt32 &&& 255 = 32) ↔ y.toInt32 = 32) ∧ ((y.toInt32 &&& 255 = 59) ↔ y.toInt32 = 59) ∧ ((97 ≤ y.toInt32 &&& 255 ∧ y.toInt32 &&& 255 ≤ 122) ↔ (¬ y.toInt32 < 97 ∧ ¬ 122 < y.toInt32)) ∧ ((48 ≤ y.toInt32 &&& 255 ∧ y.toInt32 &&& 255 ≤ 57) ↔ (¬ y.toInt32 < 48 ∧ ¬ 57 < y.toInt32)) ∧ (¬ y.toInt32 &&& 255 = -4) ∧ (¬ y.toInt32 < 48 → y.toInt32 &&& 255 = y.toInt32) := by
  obtain ⟨⟨⟨⟨n, hn⟩⟩⟩⟩ := y
  exact (show ∀ n, ∀ hn : n < 2 ^ 8, ((((⟨⟨⟨⟨n, hn⟩⟩⟩⟩ : Int8).toInt32 &&& 255 = 32) ↔ (⟨⟨⟨⟨n, hn⟩⟩⟩⟩ : Int8).toInt32 = 32) ∧ (((⟨⟨⟨⟨n, hn⟩⟩⟩⟩ : Int8).toInt32 &&& 255 = 59) ↔ (⟨⟨⟨⟨n, hn⟩⟩⟩⟩ : Int8).toInt32 = 59) ∧ ((97 ≤ (⟨⟨⟨⟨n, hn⟩⟩⟩⟩ : Int8).toInt32 &&& 255 ∧ (⟨⟨⟨⟨n, hn⟩⟩⟩⟩ : Int8).toInt32 &&& 255 ≤ 122) ↔ (¬ (⟨⟨⟨⟨n, hn⟩⟩⟩⟩ : Int8).toInt32 < 97 ∧ ¬ 122 < (⟨⟨⟨⟨n, hn⟩⟩⟩⟩ : Int8).toInt32)) ∧ ((48 ≤ (⟨⟨⟨⟨n, hn⟩⟩⟩⟩ : Int8).toInt32 &&& 255 ∧ (⟨⟨⟨⟨n, hn⟩⟩⟩⟩ : Int8).toInt32 &&& 255 ≤ 57) ↔ (¬ (⟨⟨⟨⟨n, hn⟩⟩⟩⟩ : Int8).toInt32 < 48 ∧ ¬ 57 < (⟨⟨⟨⟨n, hn⟩⟩⟩⟩ : Int8).toInt32)) ∧ (¬ (⟨⟨⟨⟨n, hn⟩⟩⟩⟩ : Int8).toInt32 &&& 255 = -4) ∧ (¬ (⟨⟨⟨⟨n, hn⟩⟩⟩⟩ : Int8).toInt32 < 48 → (⟨⟨⟨⟨n, hn⟩⟩⟩⟩ : Int8).toInt32 &&& 255 = (⟨⟨⟨⟨n, hn⟩⟩⟩⟩ : Int8).toInt32)) by decide +kernel) n hn
/-- both tapes hold the same z bytes -/
def tpe (T U : Nat → Int32) (z : Nat) : Prop := ∀ j, j < z → ∃ y : Int8, T j = y.toInt32 ∧ U j = y.toInt32 &&& 255
/-- what the reference's tables of words say -/
def wtb (W : zMem) : Prop := (∀ i, i ≤ 10 → W 2 i = nI (sp_sum (fun j => zsL.getD j 0) i)) ∧ ∀ i, i < 10 → ∀ j, j < zsL.getD i 0 → W 3 (sp_sum (fun j => zsL.getD j 0) i + j) = zsc i j
theorem wtb_b : ∀ i, i < 10 → sp_sum (fun j => zsL.getD j 0) i + zsL.getD i 0 = sp_sum (fun j => zsL.getD j 0) (i + 1) ∧ sp_sum (fun j => zsL.getD j 0) (i + 1) ≤ 43 := by decide
theorem zsc_b : ∀ i, i < 10 → ∀ j, j < zsL.getD i 0 → 97 ≤ zsc i j ∧ zsc i j ≤ 122 := by decide +kernel
theorem tpe_B {T U : Nat → Int32} {z j : Nat} (h : tpe T U z) (hj : j < z) : (U j = 32 ↔ isB (T j) = true) ∧ (U j = 59 ↔ T j = 59) ∧ ((97 ≤ U j ∧ U j ≤ 122) ↔ isL (T j) = true) ∧ ((48 ≤ U j ∧ U j ≤ 57) ↔ isF (T j) = true) ∧ (¬ U j = -4) ∧ (¬ T j < 48 → U j = T j) := by
  obtain ⟨y, e1, e2⟩ := h j hj
  rw [e1, e2]
  obtain ⟨a, b, c, d, e, f⟩ := by8 y
  unfold isB isL isF
  refine ⟨?_, b, ?_, ?_, e, f⟩
  · rw [decide_eq_true_eq]; exact a
  · rw [decide_eq_true_eq]; exact c
  · rw [decide_eq_true_eq]; exact d
theorem e_byteAt {z i : Nat} {W : zMem} {Q : Int32 → zMem → Prop} (h1 : W 0 1 = nI z) (hz : z ≤ 400) (hi : i < 2147483648) (hQ : Q (if i < z then W 1 i else -4) W) : wp_Model_byteAt (nI i) W Q := by
  unfold wp_Model_byteAt
  rw [h1]
  refine ⟨fun c => ?_, fun c => ?_⟩
  · have := (nI_leI (by omega) hi).mp c
    rw [if_neg (by omega)] at hQ; exact hQ
  · have hi2 : i < z := (nI_ltI hi (by omega)).mp (Int32.not_le.mp c)
    rw [if_pos hi2] at hQ
    rw [q_ix hi]
    exact ⟨vp_in_nI (by omega) (by omega), hQ⟩
theorem mt_skip {z p : Nat} {T : Nat → Int32} {W : zMem} {K : zMem → Prop} {Q : zMem → Prop} (h1 : W 0 1 = nI z) (hz : z ≤ 400) (h5 : W 0 5 = nI p) (hp : p ≤ z) (hT : tpe T (W 1) z) (hK : K (zup W 0 5 (nI (tk_q T z p)))) : ∃ n, zlp0 (wpB_Model_next_8 K Q) n W := by
  refine zlp0_r (fun m W' => ∃ i, i ≤ z ∧ m = z - i ∧ W' = zup W 0 5 (nI i) ∧ tk_s isB T (z - i) i = tk_q T z p) ?_ (n := z - p) ⟨p, hp, rfl, (zup_same h5).symm, rfl⟩
  rintro m W' ⟨i, hi, rfl, rfl, e⟩ J hJ
  unfold wpB_Model_next_8
  have g1 : zup W 0 5 (nI i) 0 1 = nI z := by rw [zup_eq, upd_ne (by omega)]; exact h1
  have g5 : zup W 0 5 (nI i) 0 5 = nI i := by rw [zup_eq, upd_eq]
  have gT : zup W 0 5 (nI i) 1 = W 1 := by rw [zup_ne (by omega)]
  rw [g5]
  refine e_byteAt g1 hz (by omega) ?_
  rw [gT]
  have stop : (z ≤ i ∨ isB (T i) = false) → K (zup W 0 5 (nI i)) := fun c => by
    rw [tk_s_end c] at e
    rw [e]; exact hK
  by_cases hi2 : i < z
  · rw [if_pos hi2]
    obtain ⟨b1, -⟩ := tpe_B hT hi2
    refine ⟨fun c => stop (Or.inr (by
      cases hb : isB (T i) with
      | false => rfl
      | true => exact absurd (b1.mpr hb) c)), fun c W2 e2 => ?_⟩
    refine hJ (z - (i + 1)) _ (by omega) ⟨i + 1, by omega, rfl, ?_, ?_⟩
    · rw [e2, g5, zup_zup, nI_1]
    · rw [← e, ← tk_s_go hi2 (b1.mp c)]
  · rw [if_neg hi2]
    exact ⟨fun _ => stop (Or.inl (by omega)), fun c => absurd c (by decide)⟩
theorem mt_letters {z p : Nat} {T : Nat → Int32} {W : zMem} {K : zMem → Prop} {Q : zMem → Prop} (h1 : W 0 1 = nI z) (hz : z ≤ 400) (h5 : W 0 5 = nI p) (hp : p ≤ z) (hT : tpe T (W 1) z) (hK : K (zup W 0 5 (nI (tk_s isL T (z - p) p)))) : ∃ n, zlp0 (wpB_Model_next_84 K Q) n W := by
  refine zlp0_r (fun m W' => ∃ i, i ≤ z ∧ m = z - i ∧ W' = zup W 0 5 (nI i) ∧ tk_s isL T (z - i) i = tk_s isL T (z - p) p) ?_ (n := z - p) ⟨p, hp, rfl, (zup_same h5).symm, rfl⟩
  rintro m W' ⟨i, hi, rfl, rfl, e⟩ J hJ
  unfold wpB_Model_next_84
  have g1 : zup W 0 5 (nI i) 0 1 = nI z := by rw [zup_eq, upd_ne (by omega)]; exact h1
  have g5 : zup W 0 5 (nI i) 0 5 = nI i := by rw [zup_eq, upd_eq]
  have gT : zup W 0 5 (nI i) 1 = W 1 := by rw [zup_ne (by omega)]
  rw [g5]
  refine e_byteAt g1 hz (by omega) ?_
  rw [gT]
  have stop : (z ≤ i ∨ isL (T i) = false) → K (zup W 0 5 (nI i)) := fun c => by
    rw [tk_s_end c] at e
    rw [e]; exact hK
  by_cases hi2 : i < z
  · rw [if_pos hi2]
    obtain ⟨-, -, b1, -⟩ := tpe_B hT hi2
    refine mt_in (lo' := 97) (hi' := 122) rfl rfl (fun c1 c2 => ⟨fun w => absurd w (by decide), fun _ W2 e2 => ?_⟩) (fun c => ⟨fun _ => stop (Or.inr (by
      cases hb : isL (T i) with
      | false => rfl
      | true => exact absurd (b1.mpr hb) c)), fun w => absurd rfl w⟩)
    refine hJ (z - (i + 1)) _ (by omega) ⟨i + 1, by omega, rfl, ?_, ?_⟩
    · rw [e2, g5, zup_zup, nI_1]
    · rw [← e, ← tk_s_go hi2 (b1.mp ⟨c1, c2⟩)]
  · rw [if_neg hi2]
    exact mt_in (lo' := 97) (hi' := 122) rfl rfl (fun c1 _ => absurd c1 (by decide)) (fun _ => ⟨fun _ => stop (Or.inl (by omega)), fun w => absurd rfl w⟩)
theorem mt_nameAt {z q e : Nat} {T : Nat → Int32} {W : zMem} {Q : Int32 → zMem → Prop} (h1 : W 0 1 = nI z) (hz : z ≤ 400) (hq : q ≤ e) (he : e ≤ z) (hT : tpe T (W 1) z) (ht : wtb W) (hQ : ∀ nm, nm = tk_nm T q e 10 0 → Q (if nm < 10 then nI nm else -4) W) : wp_Model_nameAt (nI q) (nI e) W Q := by
  have hb := tk_nm_b (T := T) (q := q) (e := e) 10 0 rfl
  have hQ' := hQ _ rfl
  generalize hnm : tk_nm T q e 10 0 = nm at hb hQ'
  refine zlp1_r (fun m x W' => ∃ i, x = nI i ∧ i ≤ 10 ∧ m = 10 - i ∧ W = W' ∧ tk_nm T q e (10 - i) i = nm) ?_ (n := 10) ⟨0, rfl, by omega, rfl, rfl, hnm⟩
  rintro m x W' ⟨i, rfl, hi, rfl, rfl, e1⟩ J hJ
  unfold wpB_Model_nameAt_2
  refine ⟨fun c => ?_, fun c => ?_⟩
  · have := (nI_leI (a := 10) (by omega) (by omega)).mp c
    have e2 : i = 10 := by omega
    rw [e2] at e1
    have e3 : nm = 10 := e1.symm
    rw [e3, if_neg (by omega)] at hQ'
    exact hQ'
  have hi2 : i < 10 := (nI_ltI (b := 10) (by omega) (by omega)).mp (Int32.not_le.mp c)
  obtain ⟨s1, s2⟩ := wtb_b i hi2
  have hL := zsL_b (i := i) (by omega)
  obtain ⟨f, ef⟩ : ∃ f, 10 - i = f + 1 := ⟨10 - i - 1, by omega⟩
  have ef2 : 10 - (i + 1) = f := by omega
  have no : ¬ tk_w T q e i → ∀ y, y = nI (i + 1) → J y W := fun cw y ey => by
    rw [ey]
    refine hJ (10 - (i + 1)) _ _ (by omega) ⟨i + 1, rfl, by omega, rfl, rfl, ?_⟩
    rw [ef, tk_nm_no cw] at e1
    rw [ef2]; exact e1
  have yes : tk_w T q e i → Q (nI i) W := fun cw => by
    rw [ef, tk_nm_yes cw] at e1
    rw [← e1, if_pos hi2] at hQ'
    exact hQ'
  rw [nI_1, q_ix (by omega), q_ix (by omega), ht.1 i (by omega), ht.1 (i + 1) (by omega), q_sub hq, q_sub (by omega), show sp_sum (fun j => zsL.getD j 0) (i + 1) - sp_sum (fun j => zsL.getD j 0) i = zsL.getD i 0 by omega]
  refine ⟨vp_in_nI (by omega) (by omega), vp_in_nI (by omega) (by omega), fun d => ?_, fun d => ?_⟩
  · have d' : ¬ e - q = zsL.getD i 0 := fun w => d (by rw [w])
    refine ⟨1, fun _ => ⟨fun _ => no (fun w => d' w.1), fun w => absurd rfl w⟩, fun w => absurd rfl w⟩
  · have d' : e - q = zsL.getD i 0 := (nI_eq (by omega) (by omega)).mp d
    refine zlp2_r (fun m x4 x5 W' => ∃ j, x5 = nI j ∧ j ≤ zsL.getD i 0 ∧ m = zsL.getD i 0 - j ∧ W = W' ∧ ((x4 = 1 ∧ ∀ h, h < j → T (q + h) = zsc i h) ∨ (x4 = 0 ∧ ¬ tk_w T q e i))) ?_ (n := zsL.getD i 0) ⟨0, rfl, by omega, rfl, rfl, Or.inl ⟨rfl, fun h w => absurd w (by omega)⟩⟩
    rintro m x4 x5 W' ⟨j, rfl, hj, rfl, rfl, hc⟩ J2 hJ2
    unfold wpB_Model_nameAt_39
    rcases hc with ⟨rfl, hc⟩ | ⟨rfl, hc⟩
    · refine ⟨fun w => absurd w (by decide), fun _ => ⟨fun w => ?_, fun w => ?_⟩⟩
      · rw [q_sub hq] at w
        have := (nI_leI (by omega) (by omega)).mp w
        exact ⟨fun w => absurd w (by decide), fun _ => yes ⟨d', fun h hh => hc h (by omega)⟩⟩
      · rw [q_sub hq] at w
        have hj2 : j < e - q := (nI_ltI (by omega) (by omega)).mp (Int32.not_le.mp w)
        rw [q_add]
        refine e_byteAt h1 hz (by omega) ?_
        rw [if_pos (by omega), q_ix (by omega), ht.1 i (by omega), q_add, q_ix (by omega), ht.2 i hi2 j (by omega)]
        obtain ⟨-, -, b3, -, -, b6⟩ := tpe_B hT (show q + j < z by omega)
        have zb := zsc_b i hi2 j (by omega)
        have iff : W 1 (q + j) = zsc i j ↔ T (q + j) = zsc i j := by
          constructor
          · intro w
            have : isL (T (q + j)) = true := b3.mp (by rw [w]; exact zb)
            have h48 : ¬ T (q + j) < 48 := fun v => by
              unfold isL at this
              rw [decide_eq_true_eq] at this
              exact this.1 (Int32.lt_trans v (by decide))
            rw [← b6 h48]; exact w
          · intro w
            have h48 : ¬ T (q + j) < 48 := fun v => by
              rw [w] at v
              exact absurd (Int32.lt_of_lt_of_le v (by decide : (48 : Int32) ≤ 97)) (Int32.not_lt.mpr zb.1)
            rw [b6 h48]; exact w
        refine ⟨vp_in_nI (by omega) (by omega), vp_in_nI (by omega) (by omega), fun v y ey => ?_, fun v y ey => ?_⟩
        · rw [ey, nI_1]
          exact hJ2 (zsL.getD i 0 - (j + 1)) _ _ _ (by omega) ⟨j + 1, rfl, by omega, rfl, rfl, Or.inr ⟨rfl, fun tw => v (iff.mpr (tw.2 j (by omega)))⟩⟩
        · rw [ey, nI_1]
          refine hJ2 (zsL.getD i 0 - (j + 1)) _ _ _ (by omega) ⟨j + 1, rfl, by omega, rfl, rfl, Or.inl ⟨rfl, fun h hh => ?_⟩⟩
          rcases Nat.lt_or_ge h j with u | u
          · exact hc h u
          · rw [show h = j by omega]; exact iff.mp v
    · exact ⟨fun _ => ⟨fun _ => no hc, fun w => absurd rfl w⟩, fun w => absurd rfl w⟩
/-- a fault of the reference at the token at hand -/
def wfs (c : Int32) (W : zMem) : zMem := zup (zup W 0 3 c) 0 4 (W 0 6)
theorem e_fails {c : Int32} {W : zMem} {Q : zMem → Prop} (h : W 0 3 = 0) (hQ : Q (wfs c W)) : wp_Model_fails c W Q := by
  refine ⟨fun w => absurd h w, fun _ W1 e1 W2 e2 => ?_⟩
  have : W1 0 6 = W 0 6 := by rw [e1, zup_eq, upd_ne (by omega)]
  rw [e2, this, e1]
  exact hQ
theorem e_fails_no {c : Int32} {W : zMem} {Q : zMem → Prop} (h : ¬ W 0 3 = 0) (hQ : Q W) : wp_Model_fails c W Q := ⟨fun _ => hQ, fun w => absurd w h⟩
theorem mt_figs {z q : Nat} {T : Nat → Int32} {W : zMem} {K : zMem → Prop} {Q : zMem → Prop} (h1 : W 0 1 = nI z) (hz : z ≤ 400) (h5 : W 0 5 = nI q) (h6 : W 0 6 = nI q) (h8 : W 0 8 = 0) (hq : q ≤ z) (hT : tpe T (W 1) z) (hK : ∀ e, e = tk_s isF T (z - q) q → K (zup (zup W 0 8 (tk_pv T q e)) 0 5 (nI e))) : ∃ n, zlp0 (wpB_Model_next_170 K Q) n W := by
  have hK' := hK _ rfl
  generalize hee : tk_s isF T (z - q) q = e at hK'
  refine zlp0_r (fun m W' => ∃ i, q ≤ i ∧ i ≤ z ∧ m = z - i ∧ W' = zup (zup W 0 8 (tk_pv T q i)) 0 5 (nI i) ∧ tk_s isF T (z - i) i = e) ?_ (n := z - q) ⟨q, Nat.le_refl _, hq, rfl, ?_, hee⟩
  · rintro m W' ⟨i, hqi, hi, rfl, rfl, ei⟩ J hJ
    unfold wpB_Model_next_170
    generalize hX : zup (zup W 0 8 (tk_pv T q i)) 0 5 (nI i) = X
    have g1 : X 0 1 = nI z := by rw [← hX, zup_eq, upd_ne (by omega), zup_eq, upd_ne (by omega)]; exact h1
    have g5 : X 0 5 = nI i := by rw [← hX, zup_eq, upd_eq]
    have g6 : X 0 6 = nI q := by rw [← hX, zup_eq, upd_ne (by omega), zup_eq, upd_ne (by omega)]; exact h6
    have g8 : X 0 8 = tk_pv T q i := by rw [← hX, zup_eq, upd_ne (by omega), zup_eq, upd_eq]
    have gT : X 1 = W 1 := by rw [← hX, zup_ne (by omega), zup_ne (by omega)]
    rw [g5]
    refine e_byteAt g1 hz (by omega) ?_
    rw [gT]
    have stop : (z ≤ i ∨ isF (T i) = false) → K X := fun c => by
      rw [tk_s_end c] at ei
      subst ei
      rw [← hX]; exact hK'
    by_cases hi2 : i < z
    · rw [if_pos hi2]
      obtain ⟨-, -, -, b4, -, b6⟩ := tpe_B hT hi2
      refine mt_in (lo' := 48) (hi' := 57) rfl rfl (fun c1 c2 => ⟨fun w => absurd w (by decide), fun _ => ?_⟩) (fun c => ⟨fun _ => stop (Or.inr (by
        cases hb : isF (T i) with
        | false => rfl
        | true => exact absurd (b4.mpr hb) c)), fun w => absurd rfl w⟩)
      have d := b4.mp ⟨c1, c2⟩
      have nx : tk_s isF T (z - (i + 1)) (i + 1) = e := by rw [← ei, ← tk_s_go hi2 d]
      rw [g5, g6, q_sub hqi]
      refine ⟨fun w W5 e5 W6 e6 => ?_, fun w => ?_⟩
      · have hw : 2 ≤ i - q := (nI_leI (a := 2) (by omega) (by omega)).mp w
        refine hJ (z - (i + 1)) _ (by omega) ⟨i + 1, by omega, by omega, rfl, ?_, nx⟩
        rw [e6, e5, zup_same rfl, g5, ← hX, zup_zup, nI_1]
        have : tk_pv T q i = tk_pv T q (i + 1) := by
          unfold tk_pv
          rw [if_neg (by omega), if_neg (by omega), if_neg (by omega), if_neg (by omega)]
        rw [this]
      · have hw : i - q < 2 := by
          rcases Nat.lt_or_ge (i - q) 2 with v | v
          · exact v
          · exact absurd ((nI_leI (a := 2) (by omega) (by omega)).mpr v) w
        refine e_byteAt g1 hz (by omega) ?_
        rw [gT, if_pos hi2]
        intro W5 e5 W6 e6
        refine hJ (z - (i + 1)) _ (by omega) ⟨i + 1, by omega, by omega, rfl, ?_, nx⟩
        have f5 : W5 0 5 = nI i := by rw [e5, zup_eq, upd_ne (by omega)]; exact g5
        have h48 : ¬ T i < 48 := by
          unfold isF at d
          rw [decide_eq_true_eq] at d
          exact d.1
        rw [e6, f5, e5, g8, b6 h48, ← hX, zup_cm (i := 5) (j := 8) (by omega), zup_zup, zup_zup, nI_1]
        have : 10 * tk_pv T q i + T i - 48 = tk_pv T q (i + 1) := by
          rw [Int32.mul_comm]
          unfold tk_pv
          rcases (show i = q ∨ i = q + 1 by omega) with rfl | rfl
          · rw [if_pos rfl, if_neg (by omega), if_pos rfl]
          · rw [if_neg (by omega), if_pos rfl, if_neg (by omega), if_neg (by omega)]
        rw [this]
    · rw [if_neg hi2]
      exact mt_in (lo' := 48) (hi' := 57) rfl rfl (fun c1 _ => absurd c1 (by decide)) (fun _ => ⟨fun _ => stop (Or.inl (by omega)), fun w => absurd rfl w⟩)
  · have : tk_pv T q q = 0 := by unfold tk_pv; rw [if_pos rfl]
    rw [this, zup_same h8, zup_same h5]
def tkw (W W' : zMem) : Prop := (∀ c, c ≠ 0 → W' c = W c) ∧ ∀ j, (j < 3 ∨ 8 < j) → W' 0 j = W 0 j
theorem tkw.rf {W : zMem} : tkw W W := ⟨fun _ _ => rfl, fun _ _ => rfl⟩
theorem tkw.tr {W W1 W2 : zMem} (a : tkw W W1) (b : tkw W1 W2) : tkw W W2 := ⟨fun c h => (b.1 c h).trans (a.1 c h), fun j h => (b.2 j h).trans (a.2 j h)⟩
theorem tkw.up {W W1 : zMem} {j : Nat} {x : Int32} (a : tkw W W1) (h : 3 ≤ j) (h2 : j ≤ 8) : tkw W (zup W1 0 j x) := ⟨fun c hc => by rw [zup_ne hc]; exact a.1 c hc, fun i hi => by rw [zup_eq, upd_ne (by omega)]; exact a.2 i hi⟩
/-- the reference has read the token from p on -/
def nT (T : Nat → Int32) (z p : Nat) (W : zMem) : Prop :=
  W 0 6 = nI (tk_q T z p) ∧ ((tk_o T z (tk_q T z p) ∧ W 0 3 = 0 ∧ W 0 5 = nI (tk_e T z (tk_q T z p)) ∧ W 0 7 = nI (tk_k T z (tk_q T z p)) ∧ (tk_k T z (tk_q T z p) = 1 ∨ tk_k T z (tk_q T z p) = 2 → W 0 8 = tk_v T z (tk_q T z p))) ∨ (¬ tk_o T z (tk_q T z p) ∧ W 0 3 = 1 ∧ W 0 4 = nI (tk_q T z p)))
theorem mt_next {z p : Nat} {T : Nat → Int32} {W : zMem} {Q : zMem → Prop} (h3 : W 0 3 = 0) (h1 : W 0 1 = nI z) (hz : z ≤ 400) (h5 : W 0 5 = nI p) (hp : p ≤ z) (hT : tpe T (W 1) z) (ht : wtb W) (hQ : ∀ W', tkw W W' → nT T z p W' → Q W') : wp_Model_next W Q := by
  have hb := tk_q_b (T := T) hp
  unfold nT at hQ
  unfold wp_Model_next
  rw [h3]
  refine ⟨fun _ => mt_skip h1 hz h5 hp hT ?_, fun w => absurd (by decide) w⟩
  generalize tk_q T z p = q at hQ hb
  intro W5 e5
  have x5 : zup W 0 5 (nI q) 0 5 = nI q := by rw [zup_eq, upd_eq]
  rw [x5] at e5
  have g1 : W5 0 1 = nI z := by rw [e5, zup_eq, upd_ne (by omega), zup_eq, upd_ne (by omega)]; exact h1
  have g5 : W5 0 5 = nI q := by rw [e5, zup_eq, upd_ne (by omega)]; exact x5
  have gT : W5 1 = W 1 := by rw [e5, zup_ne (by omega), zup_ne (by omega)]
  rw [g5]
  refine e_byteAt g1 hz (by omega) ?_
  rw [gT]
  intro W8 e8
  have fr : tkw W W8 := by rw [e8, e5]; exact ((tkw.rf.up (by omega) (by omega)).up (by omega) (by omega)).up (by omega) (by omega)
  have k1 : W8 0 1 = nI z := by rw [e8, zup_eq, upd_ne (by omega)]; exact g1
  have k3 : W8 0 3 = 0 := by rw [e8, zup_eq, upd_ne (by omega), e5, zup_eq, upd_ne (by omega), zup_eq, upd_ne (by omega)]; exact h3
  have k5 : W8 0 5 = nI q := by rw [e8, zup_eq, upd_ne (by omega)]; exact g5
  have k6 : W8 0 6 = nI q := by rw [e8, zup_eq, upd_ne (by omega), e5, zup_eq, upd_eq]
  have k8 : W8 0 8 = 0 := by rw [e8, zup_eq, upd_eq]
  have kT : tpe T (W8 1) z := by rw [show W8 1 = W 1 by rw [e8, zup_ne (by omega)]; exact gT]; exact hT
  have kt : wtb W8 := by unfold wtb; rw [fr.1 2 (by omega), fr.1 3 (by omega)]; exact ht
  by_cases hqz : q < z
  · rw [if_pos hqz]
    obtain ⟨b1, b2, b3, b4, b5, b6⟩ := tpe_B hT hqz
    refine ⟨fun _ => mt_in (lo' := 97) (hi' := 122) rfl rfl (fun c1 c2 => ⟨fun w => absurd w (by decide), fun _ => ?_⟩) (fun c => ⟨fun _ => ?_, fun w => absurd rfl w⟩), fun w => absurd w b5⟩
    · have hl := b3.mp ⟨c1, c2⟩
      have d : ¬ T q = 59 := fun w => by
        unfold isL at hl
        rw [decide_eq_true_eq, w] at hl
        exact hl.1 (by decide)
      refine mt_letters k1 hz k5 hb.2 kT ?_
      have hbl := tk_s_le (P := isL) (T := T) (z - q) q
      generalize hee : tk_s isL T (z - q) q = e at hbl
      intro W37 e37
      have m5 : W37 0 5 = nI e := by rw [e37, zup_eq, upd_ne (by omega), zup_eq, upd_eq]
      have m6 : W37 0 6 = nI q := by rw [e37, zup_eq, upd_ne (by omega), zup_eq, upd_ne (by omega)]; exact k6
      have m1 : W37 0 1 = nI z := by rw [e37, zup_eq, upd_ne (by omega), zup_eq, upd_ne (by omega)]; exact k1
      have m3 : W37 0 3 = 0 := by rw [e37, zup_eq, upd_ne (by omega), zup_eq, upd_ne (by omega)]; exact k3
      have m7 : W37 0 7 = 1 := by rw [e37, zup_eq, upd_eq]
      have fr2 : tkw W W37 := by rw [e37]; exact (fr.up (by omega) (by omega)).up (by omega) (by omega)
      have mT : tpe T (W37 1) z := by rw [show W37 1 = W 1 from fr2.1 1 (by omega)]; exact hT
      have mt : wtb W37 := by unfold wtb; rw [fr2.1 2 (by omega), fr2.1 3 (by omega)]; exact ht
      rw [m5, m6]
      refine mt_nameAt m1 hz hbl.1 (by omega) mT mt (fun nm en => ?_)
      have hnb := tk_nm_b (T := T) (q := q) (e := e) 10 0 rfl
      rw [← en] at hnb
      have kk : tk_k T z q = 1 := by unfold tk_k; rw [if_pos hqz, if_neg d, if_pos hl]
      have ke : tk_e T z q = e := by unfold tk_e; rw [if_pos kk]; exact hee
      have kv : tk_v T z q = nI nm := by unfold tk_v; rw [if_pos kk, ke, en]
      have ko : tk_o T z q ↔ nm < 10 := by unfold tk_o; rw [kk, ke, ← en]; omega
      intro W40 e40
      have n8 : W40 0 8 = (if nm < 10 then nI nm else -4) := by rw [e40, zup_eq, upd_eq]
      have fr3 : tkw W W40 := by rw [e40]; exact fr2.up (by omega) (by omega)
      have o3 : W40 0 3 = 0 := by rw [e40, zup_eq, upd_ne (by omega)]; exact m3
      have o6 : W40 0 6 = nI q := by rw [e40, zup_eq, upd_ne (by omega)]; exact m6
      rw [n8]
      by_cases h10 : nm < 10
      · rw [if_pos h10]
        refine ⟨fun _ => hQ W40 fr3 ⟨o6, Or.inl ⟨ko.mpr h10, o3, ?_, ?_, fun _ => ?_⟩⟩, fun w => ?_⟩
        · rw [ke, e40, zup_eq, upd_ne (by omega)]; exact m5
        · rw [kk, e40, zup_eq, upd_ne (by omega)]; exact m7
        · rw [kv, n8, if_pos h10]
        · have := q_neq (a := nm) (c := 4) (by omega) (by omega) (by omega)
          rw [show (-4 : Int32) = -nI 4 from rfl, this] at w
          exact absurd w id
      · rw [if_neg h10]
        refine ⟨fun w => absurd rfl w, fun _ => e_fails o3 (hQ _ ?_ ⟨?_, Or.inr ⟨fun w => h10 (ko.mp w), ?_, ?_⟩⟩)⟩
        · unfold wfs; exact (fr3.up (by omega) (by omega)).up (by omega) (by omega)
        · unfold wfs; rw [zup_eq, upd_ne (by omega), zup_eq, upd_ne (by omega)]; exact o6
        · unfold wfs; rw [zup_eq, upd_ne (by omega), zup_eq, upd_eq]
        · unfold wfs; rw [zup_eq, upd_eq]; exact o6
    · have hl : ¬ isL (T q) = true := fun w => c (b3.mpr w)
      refine mt_in (lo' := 48) (hi' := 57) rfl rfl (fun c1 c2 => ⟨fun w => absurd w (by decide), fun _ => ?_⟩) (fun cf => ⟨fun _ W13 e13 W14 e14 => ?_, fun w => absurd rfl w⟩)
      · have hf := b4.mp ⟨c1, c2⟩
        have d : ¬ T q = 59 := fun w => by
          unfold isF at hf
          rw [decide_eq_true_eq, w] at hf
          exact hf.2 (by decide)
        have kk : tk_k T z q = 2 := by unfold tk_k; rw [if_pos hqz, if_neg d, if_neg hl, if_pos hf]
        have hbl := tk_s_le (P := isF) (T := T) (z - q) q
        refine mt_figs k1 hz k5 k6 k8 hb.2 kT (fun e ee => ?_)
        rw [← ee] at hbl
        have ke : tk_e T z q = e := by unfold tk_e; rw [if_neg (by rw [kk]; omega), if_pos kk]; exact ee.symm
        have kv : tk_v T z q = tk_pv T q e := by unfold tk_v; rw [if_neg (by rw [kk]; omega), ke]
        have ko : tk_o T z q ↔ e - q ≤ 2 := by unfold tk_o; rw [kk, ke]; omega
        intro W28 e28
        have m5 : W28 0 5 = nI e := by rw [e28, zup_eq, upd_ne (by omega), zup_eq, upd_eq]
        have m6 : W28 0 6 = nI q := by rw [e28, zup_eq, upd_ne (by omega), zup_eq, upd_ne (by omega), zup_eq, upd_ne (by omega)]; exact k6
        have m3 : W28 0 3 = 0 := by rw [e28, zup_eq, upd_ne (by omega), zup_eq, upd_ne (by omega), zup_eq, upd_ne (by omega)]; exact k3
        have m7 : W28 0 7 = 2 := by rw [e28, zup_eq, upd_eq]
        have m8 : W28 0 8 = tk_pv T q e := by rw [e28, zup_eq, upd_ne (by omega), zup_eq, upd_ne (by omega), zup_eq, upd_eq]
        have fr2 : tkw W W28 := by rw [e28]; exact ((fr.up (by omega) (by omega)).up (by omega) (by omega)).up (by omega) (by omega)
        rw [m5, m6, q_sub hbl.1]
        refine ⟨fun w => ?_, fun w => e_fails m3 (hQ _ ?_ ⟨?_, Or.inr ⟨fun v => w ((nI_leI (b := 2) (by omega) (by omega)).mpr (ko.mp v)), ?_, ?_⟩⟩)⟩
        · have := (nI_leI (b := 2) (by omega) (by omega)).mp w
          exact hQ W28 fr2 ⟨m6, Or.inl ⟨ko.mpr this, m3, by rw [ke]; exact m5, by rw [kk]; exact m7, fun _ => by rw [kv]; exact m8⟩⟩
        · unfold wfs; exact (fr2.up (by omega) (by omega)).up (by omega) (by omega)
        · unfold wfs; rw [zup_eq, upd_ne (by omega), zup_eq, upd_ne (by omega)]; exact m6
        · unfold wfs; rw [zup_eq, upd_ne (by omega), zup_eq, upd_eq]
        · unfold wfs; rw [zup_eq, upd_eq]; exact m6
      · have hf : ¬ isF (T q) = true := fun w => cf (b4.mpr w)
        have f5 : W13 0 5 = nI q := by rw [e13, zup_eq, upd_ne (by omega)]; exact k5
        have fr2 : tkw W W14 := by rw [e14, e13]; exact (fr.up (by omega) (by omega)).up (by omega) (by omega)
        have m3 : W14 0 3 = 0 := by rw [e14, zup_eq, upd_ne (by omega), e13, zup_eq, upd_ne (by omega)]; exact k3
        have m5 : W14 0 5 = nI (q + 1) := by rw [e14, zup_eq, upd_eq, f5, nI_1]
        have m6 : W14 0 6 = nI q := by rw [e14, zup_eq, upd_ne (by omega), e13, zup_eq, upd_ne (by omega)]; exact k6
        have m7 : W14 0 7 = 3 := by rw [e14, zup_eq, upd_ne (by omega), e13, zup_eq, upd_eq]
        refine ⟨fun w => ?_, fun w => e_fails m3 (hQ _ ?_ ⟨?_, Or.inr ⟨?_, ?_, ?_⟩⟩)⟩
        · have d := b2.mp w
          have kk : tk_k T z q = 3 := by unfold tk_k; rw [if_pos hqz, if_pos d]
          have ke : tk_e T z q = q + 1 := by unfold tk_e; rw [if_neg (by rw [kk]; omega), if_neg (by rw [kk]; omega), if_pos kk]
          exact hQ W14 fr2 ⟨m6, Or.inl ⟨Or.inr (Or.inl kk), m3, by rw [ke]; exact m5, by rw [kk]; exact m7, fun v => absurd v (by rw [kk]; omega)⟩⟩
        · unfold wfs; exact (fr2.up (by omega) (by omega)).up (by omega) (by omega)
        · unfold wfs; rw [zup_eq, upd_ne (by omega), zup_eq, upd_ne (by omega)]; exact m6
        · have d : ¬ T q = 59 := fun v => w (b2.mpr v)
          have kk : tk_k T z q = 4 := by unfold tk_k; rw [if_pos hqz, if_neg d, if_neg hl, if_neg hf]
          unfold tk_o
          rw [kk]; omega
        · unfold wfs; rw [zup_eq, upd_ne (by omega), zup_eq, upd_eq]
        · unfold wfs; rw [zup_eq, upd_eq]; exact m6
  · rw [if_neg hqz]
    refine ⟨fun w => absurd rfl w, fun _ W43 e43 => ?_⟩
    have kk : tk_k T z q = 0 := by unfold tk_k; rw [if_neg hqz]
    have ke : tk_e T z q = q := by unfold tk_e; rw [if_neg (by rw [kk]; omega), if_neg (by rw [kk]; omega), if_neg (by rw [kk]; omega)]
    refine hQ W43 (by rw [e43]; exact fr.up (by omega) (by omega)) ⟨?_, Or.inl ⟨Or.inl kk, ?_, ?_, ?_, fun w => absurd w (by rw [kk]; omega)⟩⟩
    · rw [e43, zup_eq, upd_ne (by omega)]; exact k6
    · rw [e43, zup_eq, upd_ne (by omega)]; exact k3
    · rw [ke, e43, zup_eq, upd_ne (by omega)]; exact k5
    · rw [kk, e43, zup_eq, upd_eq]; rfl
theorem mt_next_no {W : zMem} {Q : zMem → Prop} (h3 : ∃ c, 1 ≤ c ∧ c ≤ 7 ∧ W 0 3 = nI c) (hQ : Q W) : wp_Model_next W Q := by
  obtain ⟨c, c1, c7, e⟩ := h3
  unfold wp_Model_next
  rw [e]
  exact ⟨fun w => absurd w (nI_nle (by omega) (by omega)), fun _ => hQ⟩
/-- the reader is well -/
def rin (k z p0 : Nat) (M : zMem) : Prop := M k 5 = nI z ∧ z ≤ 400 ∧ ∃ p, (p0 ≤ p ∧ p ≤ z) ∧ M k 6 = nI p
def tkn (k z : Nat) (M : zMem) (b : Bool) (M' : zMem) : Prop := ∃ p, p ≤ z ∧ M k 6 = nI p ∧ rT k z p M b M'
theorem tkn_in {k z p0 : Nat} {M M' : zMem} (r : rin k z p0 M) (h : tkn k z M true M') : rin k z p0 M' ∧ tkf k M M' := by
  obtain ⟨p, hp, e6, h⟩ := h
  obtain ⟨r5, rz, p', ⟨hp0, hpz⟩, e6'⟩ := r
  have ep : p' = p := (nI_eq (by omega) (by omega)).mp (e6'.symm.trans e6)
  subst ep
  rcases h with ⟨-, -, f, a6, -⟩ | ⟨h, -⟩
  · have hq := tk_q_b (T := M (k + 6)) hp
    have hb := tk_e_b (T := M (k + 6)) hq.2
    exact ⟨⟨(f.2 5 (by omega) (by omega) (by omega) (by omega)).trans r5, rz, _, ⟨by omega, hb.2⟩, a6⟩, f⟩
  · cases h
theorem xt_tkn {k z p0 : Nat} {M : zMem} {Q : Int32 → zMem → Prop} (r : rin k z p0 M) (hQ : ∀ b M', tkn k z M b M' → Q (b2i b) M') : wp_Reader_readToken k M Q := by
  obtain ⟨h5, hz, p, ⟨-, hp⟩, h6⟩ := r
  exact xt_token h5 hz h6 hp (fun b M' h => hQ b M' ⟨p, hp, h6, h⟩)
/-- one thing behind the other, if it was well -/
def bnd (A B : zMem → Bool → zMem → Prop) (M : zMem) (b : Bool) (M' : zMem) : Prop := ∃ b1 M1, A M b1 M1 ∧ ((b1 = false ∧ b = false ∧ M' = M1) ∨ (b1 = true ∧ B M1 b M'))
def rWi (k : Nat) (lo hi : Int32) (M : zMem) (b : Bool) (M' : zMem) : Prop := ((M k 9 < lo ∨ ¬ M k 9 ≤ hi) ∧ b = false ∧ M' = rfs k 3 M) ∨ (¬ M k 9 < lo ∧ M k 9 ≤ hi ∧ b = true ∧ M' = M)
def rNu (k : Nat) (lo hi : Int32) (M : zMem) (b : Bool) (M' : zMem) : Prop := (¬ M k 7 = 2 ∧ b = false ∧ M' = rfs k 2 M) ∨ (M k 7 = 2 ∧ rWi k lo hi M b M')
def rSi (k : Nat) (M : zMem) (b : Bool) (M' : zMem) : Prop := (¬ M k 7 = 3 ∧ b = false ∧ M' = rfs k 2 M) ∨ (M k 7 = 3 ∧ b = true ∧ M' = M)
def rN (k z : Nat) (lo hi : Int32) : zMem → Bool → zMem → Prop := bnd (tkn k z) (rNu k lo hi)
def rS (k z : Nat) : zMem → Bool → zMem → Prop := bnd (tkn k z) (rSi k)
theorem xt_within {k : Nat} {lo hi : Int32} {M : zMem} {Q : Int32 → zMem → Prop} (hQ : ∀ b M', rWi k lo hi M b M' → Q (b2i b) M') : wp_Reader_isWithin k lo hi M Q :=
  ⟨fun c => e_refuse ⟨zbo_0, hQ false _ (Or.inl ⟨Or.inl c, rfl, rfl⟩)⟩, fun c => ⟨fun d => hQ true _ (Or.inr ⟨c, d, rfl, rfl⟩), fun d => e_refuse ⟨zbo_0, hQ false _ (Or.inl ⟨Or.inr d, rfl, rfl⟩)⟩⟩⟩
theorem b2i_bo (b : Bool) : zbo (b2i b) := by cases b <;> simp [b2i, zbo]
theorem xt_number {k z p0 : Nat} {lo hi : Int32} {M : zMem} {Q : Int32 → zMem → Prop} (r : rin k z p0 M) (hQ : ∀ b M', rN k z lo hi M b M' → Q (b2i b) M') : wp_Reader_readNumber k lo hi M Q := by
  refine xt_tkn r (fun b1 M1 r1 => ?_)
  cases b1 with
  | false => exact ⟨fun w => absurd rfl w, fun _ => hQ false M1 ⟨false, M1, r1, Or.inl ⟨rfl, rfl, rfl⟩⟩⟩
  | true => exact ⟨fun _ => ⟨fun c => xt_within (fun b M' h => ⟨b2i_bo b, hQ b M' ⟨true, M1, r1, Or.inr ⟨rfl, Or.inr ⟨c, h⟩⟩⟩⟩), fun c => e_refuse ⟨zbo_0, hQ false _ ⟨true, M1, r1, Or.inr ⟨rfl, Or.inl ⟨c, rfl, rfl⟩⟩⟩⟩⟩, fun w => absurd w (by decide)⟩
theorem xt_isSign {k : Nat} {M : zMem} {Q : Int32 → zMem → Prop} (hQ : ∀ b M', rSi k M b M' → Q (b2i b) M') : wp_Reader_isSign k M Q :=
  ⟨fun c => hQ true _ (Or.inr ⟨c, rfl, rfl⟩), fun c => e_refuse ⟨fun _ => hQ false _ (Or.inl ⟨c, rfl, rfl⟩), fun w => absurd rfl w⟩⟩
theorem xt_sign {k z p0 : Nat} {M : zMem} {Q : Int32 → zMem → Prop} (r : rin k z p0 M) (hQ : ∀ b M', rS k z M b M' → Q (b2i b) M') : wp_Reader_readSign k M Q := by
  refine xt_tkn r (fun b1 M1 r1 => ?_)
  cases b1 with
  | false => exact ⟨fun _ => hQ false M1 ⟨false, M1, r1, Or.inl ⟨rfl, rfl, rfl⟩⟩, fun w => absurd rfl w⟩
  | true =>
    refine ⟨fun w => absurd w (by decide), fun _ => xt_isSign (fun b M' h => ?_)⟩
    have q := hQ b M' ⟨true, M1, r1, Or.inr ⟨rfl, h⟩⟩
    cases b with
    | false => exact ⟨fun _ => q, fun w => absurd rfl w⟩
    | true => exact ⟨fun w => absurd w (by decide), fun _ => q⟩
theorem rN_in {k z p0 : Nat} {lo hi : Int32} {M M' : zMem} (r : rin k z p0 M) (h : rN k z lo hi M true M') : rin k z p0 M' ∧ tkf k M M' ∧ M' k 7 = 2 ∧ ¬ M' k 9 < lo ∧ M' k 9 ≤ hi := by
  obtain ⟨b1, M1, h1, h⟩ := h
  rcases h with ⟨-, h, -⟩ | ⟨rfl, h⟩
  · cases h
  · obtain ⟨r1, f1⟩ := tkn_in r h1
    rcases h with ⟨-, h, -⟩ | ⟨c, h⟩
    · cases h
    · rcases h with ⟨-, h, -⟩ | ⟨c1, c2, -, rfl⟩
      · cases h
      · exact ⟨r1, f1, c, c1, c2⟩
/-- lines -/
def rPi (k z : Nat) (M : zMem) (b : Bool) (M' : zMem) : Prop := ((¬ M k 12 = 0 ∨ ¬ M (k + 1) 0 < 8) ∧ b = false ∧ M' = rfs k 5 M) ∨ (M k 12 = 0 ∧ M (k + 1) 0 < 8 ∧ bnd (rN k z 0 6) (fun M1 => rS k z (zup (zup M1 (k + 3) (ix (M1 (k + 1) 0)) (M1 k 9)) (k + 1) 0 (M1 (k + 1) 0 + 1))) M b M')
theorem xt_piece {k z p0 n : Nat} {M : zMem} {Q : Int32 → zMem → Prop} (r : rin k z p0 M) (hn : M (k + 1) 0 = nI n) (n8 : n ≤ 8) (hQ : ∀ b M', rPi k z M b M' → Q (b2i b) M') : wp_Reader_readPiece k M Q := by
  refine ⟨fun c => e_refuse ⟨zbo_0, hQ false _ (Or.inl ⟨Or.inl c, rfl, rfl⟩)⟩, fun c => ⟨fun d => xt_number r (fun b1 M1 r1 => ?_), fun d => e_refuse ⟨zbo_0, hQ false _ (Or.inl ⟨Or.inr d, rfl, rfl⟩)⟩⟩⟩
  cases b1 with
  | false => exact ⟨fun w => absurd rfl w, fun _ => hQ false M1 (Or.inr ⟨c, d, false, M1, r1, Or.inl ⟨rfl, rfl, rfl⟩⟩)⟩
  | true =>
    obtain ⟨s1, f1, -⟩ := rN_in r r1
    have e0 : M1 (k + 1) 0 = nI n := by rw [f1.1 (k + 1) (by omega)]; exact hn
    refine ⟨fun _ => ⟨by rw [e0]; exact vp_in_nI (by omega) (by omega), fun M2 e2 M3 e3 => ?_⟩, fun w => absurd w (by decide)⟩
    have e3' : M3 = zup (zup M1 (k + 3) (ix (M1 (k + 1) 0)) (M1 k 9)) (k + 1) 0 (M1 (k + 1) 0 + 1) := by
      rw [e3, e2, zup_ne (by omega)]
    have s3 : rin k z p0 M3 := by
      unfold rin
      rw [e3', zup_ne (by omega), zup_ne (by omega)]; exact s1
    refine xt_sign s3 (fun b M' h => ⟨b2i_bo b, hQ b M' (Or.inr ⟨c, d, true, M1, r1, Or.inr ⟨rfl, ?_⟩⟩)⟩)
    rw [e3'] at h; exact h
def rWh (k z : Nat) (M : zMem) (b : Bool) (M' : zMem) : Prop := bnd (rN k z 0 (M (k + 1) 0 - 1)) (fun M1 b M' => ((((M1 (k + 1) 5) >>> ((M1 k 9) &&& 31)) &&& 1) = 1 ∧ b = false ∧ M' = rfs k 4 M1) ∨ (¬ (((M1 (k + 1) 5) >>> ((M1 k 9) &&& 31)) &&& 1) = 1 ∧ rS k z (zup M1 (k + 1) 5 ((M1 (k + 1) 5) ||| (1 <<< ((M1 k 9) &&& 31)))) b M')) M b M'
theorem xt_whole {k z p0 : Nat} {M : zMem} {Q : Int32 → zMem → Prop} (r : rin k z p0 M) (hQ : ∀ b M', rWh k z M b M' → Q (b2i b) M') : wp_Reader_readWhole k M Q := by
  refine xt_number r (fun b1 M1 r1 => ?_)
  cases b1 with
  | false => exact ⟨fun w => absurd rfl w, fun _ => hQ false M1 ⟨false, M1, r1, Or.inl ⟨rfl, rfl, rfl⟩⟩⟩
  | true =>
    obtain ⟨s1, f1, -⟩ := rN_in r r1
    refine ⟨fun _ => ⟨fun c M3 e3 => ?_, fun c => e_refuse ⟨zbo_0, hQ false _ ⟨true, M1, r1, Or.inr ⟨rfl, Or.inl ⟨c, rfl, rfl⟩⟩⟩⟩⟩, fun w => absurd w (by decide)⟩
    have s3 : rin k z p0 M3 := by
      unfold rin
      rw [e3, zup_ne (by omega)]; exact s1
    refine xt_sign s3 (fun b M' h => ⟨b2i_bo b, hQ b M' ⟨true, M1, r1, Or.inr ⟨rfl, Or.inr ⟨c, ?_⟩⟩⟩⟩)
    rw [e3] at h; exact h
/-- m numbers into a cell, from slot i on; then what comes -/
def rNs (k z c : Nat) (lo hi : Int32) (C : zMem → Bool → zMem → Prop) : Nat → Nat → zMem → Bool → zMem → Prop
  | 0, _ => C
  | m + 1, i => bnd (rN k z lo hi) (fun M1 => rNs k z c lo hi C m (i + 1) (zup M1 c i (M1 k 9)))
def rSo (k z n : Nat) (M : zMem) (b : Bool) (M' : zMem) : Prop := bnd (rN k z 1 2) (fun M2 b M' => ((((M2 k 11) >>> ((M2 k 9) &&& 31)) &&& 1) = 1 ∧ b = false ∧ M' = rfs k 4 M2) ∨ (¬ (((M2 k 11) >>> ((M2 k 9) &&& 31)) &&& 1) = 1 ∧ rNs k z (k + 3) 0 6 (rS k z) n (ix (M2 k 9) * 8) (zup M2 k 11 ((M2 k 11) ||| (1 <<< ((M2 k 9) &&& 31)))) b M')) (zup M k 12 1) b M'
theorem xt_sort {k z p0 n : Nat} {M : zMem} {Q : Int32 → zMem → Prop} (r : rin k z p0 M) (hn : M (k + 1) 0 = nI n) (n8 : n ≤ 8) (hQ : ∀ b M', rSo k z n M b M' → Q (b2i b) M') : wp_Reader_readSort k M Q := by
  intro M1 e1
  have s1 : rin k z p0 M1 := by
    unfold rin
    rw [e1, zup_eq, upd_ne (by omega), upd_ne (by omega)]; exact r
  unfold rSo at hQ
  rw [← e1] at hQ
  refine xt_number s1 (fun b1 M2 r1 => ?_)
  cases b1 with
  | false => exact ⟨fun w => absurd rfl w, fun _ => hQ false M2 ⟨false, M2, r1, Or.inl ⟨rfl, rfl, rfl⟩⟩⟩
  | true =>
    obtain ⟨s2, f2, -, lo, hi⟩ := rN_in s1 r1
    refine ⟨fun _ x ex => ?_, fun w => absurd w (by decide)⟩
    subst ex
    refine ⟨fun c M5 e5 => ?_, fun c => e_refuse ⟨zbo_0, hQ false _ ⟨true, M2, r1, Or.inr ⟨rfl, Or.inl ⟨c, rfl, rfl⟩⟩⟩⟩⟩
    obtain ⟨s, hs, es⟩ := nI_of2 (x := M2 k 9) (M := 2) (n := 2) rfl (fun q => lo (Int32.lt_trans q (by decide))) hi
    have e12 : M5 (k + 1) 0 = nI n := by rw [e5, zup_ne (by omega), f2.1 (k + 1) (by omega), e1, zup_ne (by omega)]; exact hn
    have s5 : rin k z p0 M5 := by
      unfold rin
      rw [e5, zup_eq, upd_ne (by omega), upd_ne (by omega)]; exact s2
    have hQ5 : ∀ b M', rNs k z (k + 3) 0 6 (rS k z) n (s * 8) M5 b M' → Q (b2i b) M' := fun b M' h => hQ b M' ⟨true, M2, r1, Or.inr ⟨rfl, Or.inr ⟨c, by rw [es, q_ix (by omega), ← es, ← e5]; exact h⟩⟩⟩
    rw [es]
    refine zlp1_r (fun m x M' => ∃ i, x = nI i ∧ i ≤ n ∧ m = n - i ∧ rin k z p0 M' ∧ M' (k + 1) 0 = nI n ∧ ∀ b M'', rNs k z (k + 3) 0 6 (rS k z) (n - i) (s * 8 + i) M' b M'' → Q (b2i b) M'') ?_ (n := n) ⟨0, rfl, by omega, rfl, s5, e12, hQ5⟩
    rintro m x M' ⟨i, rfl, hi, rfl, ri, rn, rQ⟩ J hJ
    unfold wpB_Reader_readSort_57
    rw [rn]
    refine ⟨fun c => ?_, fun c => ?_⟩
    · have := (nI_leI (by omega) (by omega)).mp c
      rw [show n - i = 0 by omega] at rQ
      exact xt_sign ri (fun b M'' h => ⟨b2i_bo b, rQ b M'' h⟩)
    · have hi2 : i < n := (nI_ltI (by omega) (by omega)).mp (Int32.not_le.mp c)
      obtain ⟨m, em⟩ : ∃ m, n - i = m + 1 := ⟨n - i - 1, by omega⟩
      rw [em] at rQ
      refine xt_number ri (fun b1 M8 r8 => ?_)
      cases b1 with
      | false => exact ⟨fun w => absurd rfl w, fun _ => rQ false M8 ⟨false, M8, r8, Or.inl ⟨rfl, rfl, rfl⟩⟩⟩
      | true =>
        obtain ⟨s8, f8, -⟩ := rN_in ri r8
        have e8 : nI s * 8 + nI i = nI (s * 8 + i) := by rw [show (8 : Int32) = nI 8 from rfl, q_mul, q_add]
        rw [e8, q_ix (by omega)]
        refine ⟨fun _ => ⟨vp_in_nI (by omega) (by omega), fun Ma ea y ey => ?_⟩, fun w => absurd w (by decide)⟩
        rw [ey, nI_1]
        refine hJ (n - (i + 1)) _ _ (by omega) ⟨i + 1, rfl, by omega, rfl, ?_, ?_, fun b M'' h => rQ b M'' ⟨true, M8, r8, Or.inr ⟨rfl, ?_⟩⟩⟩
        · unfold rin
          rw [ea, zup_ne (by omega)]; exact s8
        · rw [ea, zup_ne (by omega), f8.1 (k + 1) (by omega)]; exact rn
        · show rNs k z (k + 3) 0 6 (rS k z) m (s * 8 + i + 1) (zup M8 (k + 3) (s * 8 + i) (M8 k 9)) b M''
          rw [← ea, show m = n - (i + 1) by omega]; exact h
def rHa (k z n H : Nat) (M : zMem) (b : Bool) (M' : zMem) : Prop := ((¬ M k 13 = 0 ∨ ¬ M (k + 1) 1 < 5) ∧ b = false ∧ M' = rfs k 5 M) ∨ (M k 13 = 0 ∧ M (k + 1) 1 < 5 ∧ rNs k z (k + 4) 1 9 (fun M1 => rS k z (zup M1 (k + 1) 1 (M1 (k + 1) 1 + 1))) n (H * 8) (zup M k 12 1) b M')
theorem xt_handL {k z p0 n H : Nat} {M : zMem} {Q : Int32 → zMem → Prop} (r : rin k z p0 M) (hn : M (k + 1) 0 = nI n) (n8 : n ≤ 8) (hH : M (k + 1) 1 = nI H) (H5 : H ≤ 5) (hQ : ∀ b M', rHa k z n H M b M' → Q (b2i b) M') : wp_Reader_readHand k M Q := by
  refine ⟨fun c => e_refuse ⟨zbo_0, hQ false _ (Or.inl ⟨Or.inl c, rfl, rfl⟩)⟩, fun c => ⟨fun d M3 e3 => ?_, fun d => e_refuse ⟨zbo_0, hQ false _ (Or.inl ⟨Or.inr d, rfl, rfl⟩)⟩⟩⟩
  have hH2 : H < 5 := by
    rw [hH] at d
    exact (nI_ltI (b := 5) (by omega) (by omega)).mp d
  have s3 : rin k z p0 M3 := by
    unfold rin
    rw [e3, zup_eq, upd_ne (by omega), upd_ne (by omega)]; exact r
  have hQ3 : ∀ b M', rNs k z (k + 4) 1 9 (fun M1 => rS k z (zup M1 (k + 1) 1 (M1 (k + 1) 1 + 1))) n (H * 8) M3 b M' → Q (b2i b) M' := fun b M' h => hQ b M' (Or.inr ⟨c, d, by rw [← e3]; exact h⟩)
  have a3 : M3 (k + 1) = M (k + 1) := by rw [e3, zup_ne (by omega)]
  refine zlp1_r (fun m x M' => ∃ i, x = nI i ∧ i ≤ n ∧ m = n - i ∧ rin k z p0 M' ∧ M' (k + 1) 0 = nI n ∧ M' (k + 1) 1 = nI H ∧ ∀ b M'', rNs k z (k + 4) 1 9 (fun M1 => rS k z (zup M1 (k + 1) 1 (M1 (k + 1) 1 + 1))) (n - i) (H * 8 + i) M' b M'' → Q (b2i b) M'') ?_ (n := n) ⟨0, rfl, by omega, rfl, s3, by rw [a3]; exact hn, by rw [a3]; exact hH, hQ3⟩
  rintro m x M' ⟨i, rfl, hi, rfl, ri, rn, rH, rQ⟩ J hJ
  unfold wpB_Reader_readHand_35
  rw [rn]
  refine ⟨fun c M4 e4 => ?_, fun c => ?_⟩
  · have := (nI_leI (by omega) (by omega)).mp c
    rw [show n - i = 0 by omega] at rQ
    have s4 : rin k z p0 M4 := by
      unfold rin
      rw [e4, zup_ne (by omega)]; exact ri
    exact xt_sign s4 (fun b M'' h => ⟨b2i_bo b, rQ b M'' (by rw [e4] at h; exact h)⟩)
  · have hi2 : i < n := (nI_ltI (by omega) (by omega)).mp (Int32.not_le.mp c)
    obtain ⟨m, em⟩ : ∃ m, n - i = m + 1 := ⟨n - i - 1, by omega⟩
    rw [em] at rQ
    refine xt_number ri (fun b1 M8 r8 => ?_)
    cases b1 with
    | false => exact ⟨fun w => absurd rfl w, fun _ => rQ false M8 ⟨false, M8, r8, Or.inl ⟨rfl, rfl, rfl⟩⟩⟩
    | true =>
      obtain ⟨s8, f8, -⟩ := rN_in ri r8
      have e1 : M8 (k + 1) 1 = nI H := by rw [f8.1 (k + 1) (by omega)]; exact rH
      have e8 : M8 (k + 1) 1 * 8 + nI i = nI (H * 8 + i) := by rw [e1, show (8 : Int32) = nI 8 from rfl, q_mul, q_add]
      rw [e8, q_ix (by omega)]
      refine ⟨fun _ => ⟨vp_in_nI (by omega) (by omega), fun Ma ea y ey => ?_⟩, fun w => absurd w (by decide)⟩
      rw [ey, nI_1]
      refine hJ (n - (i + 1)) _ _ (by omega) ⟨i + 1, rfl, by omega, rfl, ?_, ?_, ?_, fun b M'' h => rQ b M'' ⟨true, M8, r8, Or.inr ⟨rfl, ?_⟩⟩⟩
      · unfold rin
        rw [ea, zup_ne (by omega)]; exact s8
      · rw [ea, zup_ne (by omega), f8.1 (k + 1) (by omega)]; exact rn
      · rw [ea, zup_ne (by omega)]; exact e1
      · show rNs k z (k + 4) 1 9 (fun M1 => rS k z (zup M1 (k + 1) 1 (M1 (k + 1) 1 + 1))) m (H * 8 + i + 1) (zup M8 (k + 4) (H * 8 + i) (M8 k 9)) b M''
        rw [← ea, show m = n - (i + 1) by omega]; exact h
/-- walk, learn: one number into slot j of what is told -/
def rOn (k z j : Nat) (hi : Int32) : zMem → Bool → zMem → Prop := bnd (rN k z 0 hi) (fun M1 => rS k z (zup M1 (k + 1) j (M1 k 9)))
theorem xt_walk {k z p0 : Nat} {M : zMem} {Q : Int32 → zMem → Prop} (r : rin k z p0 M) (hQ : ∀ b M', rOn k z 2 5 M b M' → Q (b2i b) M') : wp_Reader_readWalk k M Q := by
  refine xt_number r (fun b1 M1 r1 => ?_)
  cases b1 with
  | false => exact ⟨fun w => absurd rfl w, fun _ => hQ false M1 ⟨false, M1, r1, Or.inl ⟨rfl, rfl, rfl⟩⟩⟩
  | true =>
    obtain ⟨s1, f1, -⟩ := rN_in r r1
    refine ⟨fun _ M3 e3 => ?_, fun w => absurd w (by decide)⟩
    have s3 : rin k z p0 M3 := by
      unfold rin
      rw [e3, zup_ne (by omega)]; exact s1
    exact xt_sign s3 (fun b M' h => ⟨b2i_bo b, hQ b M' ⟨true, M1, r1, Or.inr ⟨rfl, by rw [e3] at h; exact h⟩⟩⟩)
theorem xt_learn {k z p0 : Nat} {M : zMem} {Q : Int32 → zMem → Prop} (r : rin k z p0 M) (hQ : ∀ b M', rOn k z 3 99 M b M' → Q (b2i b) M') : wp_Reader_readLearn k M Q := by
  refine xt_number r (fun b1 M1 r1 => ?_)
  cases b1 with
  | false => exact ⟨fun w => absurd rfl w, fun _ => hQ false M1 ⟨false, M1, r1, Or.inl ⟨rfl, rfl, rfl⟩⟩⟩
  | true =>
    obtain ⟨s1, f1, -⟩ := rN_in r r1
    refine ⟨fun _ M3 e3 => ?_, fun w => absurd w (by decide)⟩
    have s3 : rin k z p0 M3 := by
      unfold rin
      rw [e3, zup_ne (by omega)]; exact s1
    exact xt_sign s3 (fun b M' h => ⟨b2i_bo b, hQ b M' ⟨true, M1, r1, Or.inr ⟨rfl, by rw [e3] at h; exact h⟩⟩⟩)
/-- once -/
def rOc (k : Nat) (a : Int32) (M : zMem) (b : Bool) (M' : zMem) : Prop := ((((M k 10) >>> (a &&& 31)) &&& 1) = 1 ∧ b = false ∧ M' = rfs k 4 M) ∨ (¬ (((M k 10) >>> (a &&& 31)) &&& 1) = 1 ∧ b = true ∧ M' = zup M k 10 ((M k 10) ||| (1 <<< (a &&& 31))))
theorem xt_once {k : Nat} {a : Int32} {M : zMem} {Q : Int32 → zMem → Prop} (hQ : ∀ b M', rOc k a M b M' → Q (b2i b) M') : wp_Reader_readOnce k a M Q := by
  refine ⟨fun c M1 e1 => ?_, fun c => e_refuse ⟨zbo_0, hQ false _ (Or.inl ⟨c, rfl, rfl⟩)⟩⟩
  rw [e1]
  exact hQ true _ (Or.inr ⟨c, rfl, rfl⟩)
theorem rOc_in {k z p0 : Nat} {a : Int32} {M M' : zMem} (r : rin k z p0 M) (h : rOc k a M true M') : rin k z p0 M' ∧ M' = zup M k 10 ((M k 10) ||| (1 <<< (a &&& 31))) := by
  rcases h with ⟨-, h, -⟩ | ⟨-, -, e⟩
  · cases h
  · refine ⟨?_, e⟩
    unfold rin
    rw [e, zup_eq, upd_ne (by omega), upd_ne (by omega)]; exact r
/-- what stands behind the first number of a row -/
def rRl (k z : Nat) : Nat → Nat → zMem → Bool → zMem → Prop
  | 0, _ => fun M b M' => (M k 7 = 2 ∧ b = false ∧ M' = rfs k 5 M) ∨ (¬ M k 7 = 2 ∧ rSi k M b M')
  | m + 1, i => fun M b M' => (¬ M k 7 = 2 ∧ rSi k M b M') ∨ (M k 7 = 2 ∧ bnd (rWi k 0 2) (fun M1 => bnd (tkn k z) (rRl k z m (i + 1)) (zup (zup M1 (k + 2) i (M1 k 9)) (k + 1) 6 (nI (i + 1)))) M b M')
def rRo (k z : Nat) : zMem → Bool → zMem → Prop := bnd (rN k z 0 2) (fun M1 => bnd (tkn k z) (rRl k z 5 1) (zup M1 (k + 2) 0 (M1 k 9)))
theorem xt_row {k z p0 : Nat} {M : zMem} {Q : Int32 → zMem → Prop} (r : rin k z p0 M) (hQ : ∀ b M', rRo k z M b M' → Q (b2i b) M') : wp_Reader_readRow k M Q := by
  refine xt_number r (fun b1 M1 r1 => ?_)
  cases b1 with
  | false => exact ⟨fun w => absurd rfl w, fun _ => hQ false M1 ⟨false, M1, r1, Or.inl ⟨rfl, rfl, rfl⟩⟩⟩
  | true =>
    obtain ⟨s1, f1, -⟩ := rN_in r r1
    refine ⟨fun _ => ⟨vp_in_nI (n := 0) (by omega) (by omega), fun M3 e3 => ?_⟩, fun w => absurd w (by decide)⟩
    have e3' : M3 = zup M1 (k + 2) 0 (M1 k 9) := e3
    have s3 : rin k z p0 M3 := by
      unfold rin
      rw [e3', zup_ne (by omega)]; exact s1
    have hQ3 : ∀ b M', bnd (tkn k z) (rRl k z 5 1) M3 b M' → Q (b2i b) M' := fun b M' h => hQ b M' ⟨true, M1, r1, Or.inr ⟨rfl, by
      show bnd (tkn k z) (rRl k z 5 1) (zup M1 (k + 2) 0 (M1 k 9)) b M'
      rw [← e3']; exact h⟩⟩
    refine xt_tkn s3 (fun b4 M4 r4 => ?_)
    have fin : ∀ (M' : zMem), (∀ b M'', rSi k M' b M'' → Q (b2i b) M'') → wp_Reader_isSign k M' (fun zr18 zm17 => (zr18 = 0 → Q 0 zm17) ∧ (¬ zr18 = 0 → Q 1 zm17)) := fun M' h => xt_isSign (fun b M'' hs => by
      have q := h b M'' hs
      cases b with
      | false => exact ⟨fun _ => q, fun w => absurd rfl w⟩
      | true => exact ⟨fun w => absurd w (by decide), fun _ => q⟩)
    refine zlp2_r (fun m x1 x2 M' => ∃ i, x2 = nI i ∧ 1 ≤ i ∧ i ≤ 6 ∧ m = 6 - i ∧ ((x1 = 0 ∧ Q 0 M') ∨ (x1 = 1 ∧ rin k z p0 M' ∧ ∀ b M'', rRl k z (6 - i) i M' b M'' → Q (b2i b) M''))) ?_ (n := 5) ⟨1, rfl, by omega, by omega, rfl, ?_⟩
    · rintro m x1 x2 M' ⟨i, rfl, hi1, hi, rfl, hc⟩ J hJ
      unfold wpB_Reader_readRow_31 wpJ_Reader_readRow_94
      rcases hc with ⟨rfl, hq⟩ | ⟨rfl, ri, rQ⟩
      · exact ⟨fun _ => ⟨fun _ => ⟨fun _ => hq, fun w => absurd rfl w⟩, fun w => absurd rfl w⟩, fun _ => ⟨fun _ => ⟨fun _ => ⟨fun _ => hq, fun w => absurd rfl w⟩, fun w => absurd rfl w⟩, fun w => absurd rfl w⟩⟩
      · refine ⟨fun c => ⟨fun w => absurd w (by decide), fun _ => ?_⟩, fun c => ⟨fun w => absurd w (by decide), fun _ => ⟨fun d => ⟨fun w => absurd w (by decide), fun _ => ⟨fun _ => ⟨fun w => absurd w (by decide), fun _ => fin M' (fun b M'' h => ?_)⟩, fun w => absurd w d⟩⟩, fun d => ?_⟩⟩⟩
        · have := (nI_leI (a := 6) (by omega) (by omega)).mp c
          rw [show 6 - i = 0 by omega] at rQ
          exact ⟨fun d => ⟨fun w => absurd w (by decide), fun _ => fin M' (fun b M'' h => rQ b M'' (Or.inr ⟨d, h⟩))⟩, fun d => e_refuse ⟨zbo_0, rQ false _ (Or.inl ⟨d, rfl, rfl⟩)⟩⟩
        · rcases Nat.lt_or_ge i 6 with u | u
          · obtain ⟨m, em⟩ : ∃ m, 6 - i = m + 1 := ⟨6 - i - 1, by omega⟩
            rw [em] at rQ
            exact rQ b M'' (Or.inl ⟨d, h⟩)
          · exact absurd ((nI_leI (a := 6) (by omega) (by omega)).mpr u) c
        · have hi6 : i < 6 := (nI_ltI (b := 6) (by omega) (by omega)).mp (Int32.not_le.mp c)
          obtain ⟨m, em⟩ : ∃ m, 6 - i = m + 1 := ⟨6 - i - 1, by omega⟩
          rw [em] at rQ
          refine xt_within (fun b6 M6 r6 => ?_)
          cases b6 with
          | false => exact ⟨fun w => absurd rfl w, fun _ => rQ false M6 (Or.inr ⟨d, false, M6, r6, Or.inl ⟨rfl, rfl, rfl⟩⟩)⟩
          | true =>
            have e6 : M6 = M' := by
              rcases r6 with ⟨-, h, -⟩ | ⟨-, -, -, h⟩
              · cases h
              · exact h
            rw [q_ix (by omega)]
            refine ⟨fun _ => ⟨vp_in_nI (by omega) (by omega), fun M8 e8 M9 e9 => ?_⟩, fun w => absurd w (by decide)⟩
            rw [nI_1] at e9
            have e9' : M9 = zup (zup M6 (k + 2) i (M6 k 9)) (k + 1) 6 (nI (i + 1)) := by rw [e9, e8]
            have s9 : rin k z p0 M9 := by
              unfold rin
              rw [e9', zup_ne (by omega), zup_ne (by omega), e6]; exact ri
            refine xt_tkn s9 (fun b10 M10 r10 y ey => ?_)
            rw [ey, nI_1]
            refine hJ (6 - (i + 1)) _ _ _ (by omega) ⟨i + 1, rfl, by omega, by omega, rfl, ?_⟩
            cases b10 with
            | false => exact Or.inl ⟨rfl, rQ false M10 (Or.inr ⟨d, true, M6, r6, Or.inr ⟨rfl, by dsimp only; rw [← e9']; exact ⟨false, M10, r10, Or.inl ⟨rfl, rfl, rfl⟩⟩⟩⟩)⟩
            | true => exact Or.inr ⟨rfl, (tkn_in s9 r10).1, fun b M'' h => rQ b M'' (Or.inr ⟨d, true, M6, r6, Or.inr ⟨rfl, by dsimp only; rw [← e9']; exact ⟨true, M10, r10, Or.inr ⟨rfl, by rw [show m = 6 - (i + 1) by omega]; exact h⟩⟩⟩⟩)⟩
    · cases b4 with
      | false => exact Or.inl ⟨rfl, hQ3 false M4 ⟨false, M4, r4, Or.inl ⟨rfl, rfl, rfl⟩⟩⟩
      | true => exact Or.inr ⟨rfl, (tkn_in s3 r4).1, fun b M'' h => hQ3 b M'' ⟨true, M4, r4, Or.inr ⟨rfl, h⟩⟩⟩
/-- ends -/
def rEn (k z n : Nat) : Nat → Nat → Int32 → zMem → Bool → zMem → Prop
  | 0, _, _ => rS k z
  | m + 1, h, lo => bnd (rN k z lo (nI n)) (fun M1 => rEn k z n m (h + 1) (M1 k 9) (zup M1 (k + 5) h (M1 k 9)))
def rEs (k z n H : Nat) (rule : Int32) (M : zMem) (b : Bool) (M' : zMem) : Prop := rEn k z n (H - 1) 0 1 (zup (zup (zup M k 12 1) k 13 1) (k + 1) 4 rule) b M'
theorem xt_ends {k z p0 n H : Nat} {rule : Int32} {M : zMem} {Q : Int32 → zMem → Prop} (r : rin k z p0 M) (hn : M (k + 1) 0 = nI n) (n8 : n ≤ 8) (hH : M (k + 1) 1 = nI H) (H5 : H ≤ 5) (hQ : ∀ b M', rEs k z n H rule M b M' → Q (b2i b) M') : wp_Reader_readEnds k rule M Q := by
  intro M1 e1 M2 e2 M3 e3
  have e3' : M3 = zup (zup (zup M k 12 1) k 13 1) (k + 1) 4 rule := by rw [e3, e2, e1]
  have s3 : rin k z p0 M3 := by
    unfold rin
    rw [e3', zup_ne (by omega), zup_eq, upd_ne (by omega), upd_ne (by omega), zup_eq, upd_ne (by omega), upd_ne (by omega)]; exact r
  have n3 : M3 (k + 1) 0 = nI n := by rw [e3', zup_eq, upd_ne (by omega), zup_ne (by omega), zup_ne (by omega)]; exact hn
  have H3 : M3 (k + 1) 1 = nI H := by rw [e3', zup_eq, upd_ne (by omega), zup_ne (by omega), zup_ne (by omega)]; exact hH
  have hQ3 : ∀ b M', rEn k z n (H - 1) 0 1 M3 b M' → Q (b2i b) M' := fun b M' h => hQ b M' (by unfold rEs; rw [← e3']; exact h)
  refine zlp2_r (fun m x2 x3 M' => ∃ i, x3 = nI i ∧ i ≤ H ∧ m = H - i ∧ rin k z p0 M' ∧ M' (k + 1) 0 = nI n ∧ M' (k + 1) 1 = nI H ∧ ∀ b M'', rEn k z n (H - 1 - i) i x2 M' b M'' → Q (b2i b) M'') ?_ (n := H) ⟨0, rfl, by omega, rfl, s3, n3, H3, hQ3⟩
  rintro m x2 x3 M' ⟨i, rfl, hi, rfl, ri, rn, rH, rQ⟩ J hJ
  unfold wpB_Reader_readEnds_22
  rw [rn, rH]
  refine ⟨fun c => ?_, fun c => ?_⟩
  · have : H - 1 ≤ i := by
      rcases Nat.eq_zero_or_pos H with h0 | h0
      · omega
      · have e : nI H - 1 = nI (H - 1) := q_sub h0
        rw [e] at c
        exact (nI_leI (by omega) (by omega)).mp c
    rw [show H - 1 - i = 0 by omega] at rQ
    exact xt_sign ri (fun b M'' h => ⟨b2i_bo b, rQ b M'' h⟩)
  · have hi2 : i < H - 1 := by
      rcases Nat.eq_zero_or_pos H with h0 | h0
      · subst h0
        exact absurd (show nI 0 - 1 ≤ nI i from Int32.le_trans (show nI 0 - 1 ≤ 0 by decide) (nI_pos' (by omega))) c
      · have e : nI H - 1 = nI (H - 1) := q_sub h0
        rw [e] at c
        exact (nI_ltI (by omega) (by omega)).mp (Int32.not_le.mp c)
    obtain ⟨m, em⟩ : ∃ m, H - 1 - i = m + 1 := ⟨H - 1 - i - 1, by omega⟩
    rw [em] at rQ
    refine xt_number ri (fun b1 M8 r8 => ?_)
    cases b1 with
    | false => exact ⟨fun w => absurd rfl w, fun _ => rQ false M8 ⟨false, M8, r8, Or.inl ⟨rfl, rfl, rfl⟩⟩⟩
    | true =>
      obtain ⟨s8, f8, -⟩ := rN_in ri r8
      rw [q_ix (by omega)]
      refine ⟨fun _ x8 ex8 => ⟨vp_in_nI (by omega) (by omega), fun Ma ea y ey => ?_⟩, fun w => absurd w (by decide)⟩
      rw [ey, nI_1]
      refine hJ (H - (i + 1)) _ _ _ (by omega) ⟨i + 1, rfl, by omega, rfl, ?_, ?_, ?_, fun b M'' h => rQ b M'' ⟨true, M8, r8, Or.inr ⟨rfl, ?_⟩⟩⟩
      · unfold rin
        rw [ea, zup_ne (by omega)]; exact s8
      · rw [ea, zup_ne (by omega), f8.1 (k + 1) (by omega)]; exact rn
      · rw [ea, zup_ne (by omega), f8.1 (k + 1) (by omega)]; exact rH
      · show rEn k z n m (i + 1) (M8 k 9) (zup M8 (k + 5) i (M8 k 9)) b M''
        rw [← ea, show m = H - 1 - (i + 1) by omega, ← ex8]; exact h
/-- a line, its name read -/
def rLn (k z n H : Nat) (nm : Nat) : zMem → Bool → zMem → Prop := match nm with
  | 0 => rPi k z
  | 1 => rWh k z
  | 2 => rSo k z n
  | 3 => bnd (rOc k 3) (rRo k z)
  | 4 => rHa k z n H
  | 5 => bnd (rOc k 5) (rOn k z 2 5)
  | 6 => bnd (rOc k 6) (rOn k z 3 99)
  | 7 => bnd (rOc k 7) (rS k z)
  | 8 => bnd (rOc k 7) (rEs k z n H 1)
  | _ => bnd (rOc k 7) (rEs k z n H 2)
def rLi (k z n H : Nat) (M : zMem) (b : Bool) (M' : zMem) : Prop := (¬ M k 7 = 1 ∧ b = false ∧ M' = rfs k 2 M) ∨ (M k 7 = 1 ∧ ∃ nm, nm < 10 ∧ M k 9 = nI nm ∧ rLn k z n H nm (zup M k 3 (M k 3 + 1)) b M')
theorem xt_2 {k z p0 : Nat} {a : Int32} {M : zMem} {A : zMem → Bool → zMem → Prop} {X : zMem → (Int32 → zMem → Prop) → Prop} {Q : Int32 → zMem → Prop} (r : rin k z p0 M) (hX : ∀ M1 (Q1 : Int32 → zMem → Prop), rin k z p0 M1 → M1 (k + 1) = M (k + 1) → (∀ b M', A M1 b M' → Q1 (b2i b) M') → X M1 Q1) (hQ : ∀ b M', bnd (rOc k a) A M b M' → Q (b2i b) M') : wp_Reader_readOnce k a M (fun zr10 zm9 => (zr10 = 0 → Q 0 zm9) ∧ (¬ zr10 = 0 → X zm9 (fun zr12 zm11 => (zr12 = 0 → Q 0 zm11) ∧ (¬ zr12 = 0 → Q 1 zm11)))) := by
  refine xt_once (fun b1 M1 r1 => ?_)
  cases b1 with
  | false => exact ⟨fun _ => hQ false M1 ⟨false, M1, r1, Or.inl ⟨rfl, rfl, rfl⟩⟩, fun w => absurd rfl w⟩
  | true =>
    obtain ⟨s1, e1⟩ := rOc_in r r1
    refine ⟨fun w => absurd w (by decide), fun _ => hX M1 _ s1 (by rw [e1, zup_ne (by omega)]) (fun b M' h => ?_)⟩
    have q := hQ b M' ⟨true, M1, r1, Or.inr ⟨rfl, h⟩⟩
    cases b with
    | false => exact ⟨fun _ => q, fun w => absurd rfl w⟩
    | true => exact ⟨fun w => absurd w (by decide), fun _ => q⟩
theorem xt_line {k z p0 n H nm : Nat} {M : zMem} {Q : Int32 → zMem → Prop} (r : rin k z p0 M) (hn : M (k + 1) 0 = nI n) (n8 : n ≤ 8) (hH : M (k + 1) 1 = nI H) (H5 : H ≤ 5) (h7 : M k 7 = 1 → nm < 10 ∧ M k 9 = nI nm) (hQ : ∀ b M', rLi k z n H M b M' → Q (b2i b) M') : wp_Reader_readLine k M Q := by
  refine ⟨fun c M1 e1 x ex => ?_, fun c => e_refuse ⟨zbo_0, hQ false _ (Or.inl ⟨c, rfl, rfl⟩)⟩⟩
  obtain ⟨hnm, e9⟩ := h7 c
  have s1 : rin k z p0 M1 := by
    unfold rin
    rw [e1, zup_eq, upd_ne (by omega), upd_ne (by omega)]; exact r
  have n1 : M1 (k + 1) 0 = nI n := by rw [e1, zup_ne (by omega)]; exact hn
  have H1 : M1 (k + 1) 1 = nI H := by rw [e1, zup_ne (by omega)]; exact hH
  have e91 : M1 k 9 = nI nm := by rw [e1, zup_eq, upd_ne (by omega)]; exact e9
  rw [e91] at ex
  have hQ1 : ∀ b M', rLn k z n H nm M1 b M' → Q (b2i b) M' := fun b M' h => hQ b M' (Or.inr ⟨c, nm, hnm, e9, by rw [← e1]; exact h⟩)
  have ne : ∀ j, j < 10 → x = nI j → nm = j := fun j hj w => (nI_eq (by omega) (by omega)).mp (ex.symm.trans w)
  refine ⟨fun w => ?_, fun w => ?_, fun w => ?_, fun w => ?_, fun w => ?_, fun w => ?_, fun w => ?_, fun w => ?_, fun w => ?_, fun w => ?_, fun w0 w1 w2 w3 w4 w5 w6 w7 w8 w9 => ?_⟩
  · have := ne 0 (by omega) w
    subst this
    exact xt_piece s1 n1 n8 (fun b M' h => ⟨b2i_bo b, hQ1 b M' h⟩)
  · have := ne 1 (by omega) w
    subst this
    exact xt_whole s1 (fun b M' h => ⟨b2i_bo b, hQ1 b M' h⟩)
  · have := ne 2 (by omega) w
    subst this
    exact xt_sort s1 n1 n8 (fun b M' h => ⟨b2i_bo b, hQ1 b M' h⟩)
  · have := ne 3 (by omega) w
    subst this
    exact xt_2 (X := wp_Reader_readRow k) s1 (fun M2 Q1 s2 _ h => xt_row s2 h) hQ1
  · have := ne 4 (by omega) w
    subst this
    exact xt_handL s1 n1 n8 H1 H5 (fun b M' h => ⟨b2i_bo b, hQ1 b M' h⟩)
  · have := ne 5 (by omega) w
    subst this
    exact xt_2 (X := wp_Reader_readWalk k) s1 (fun M2 Q1 s2 _ h => xt_walk s2 h) hQ1
  · have := ne 6 (by omega) w
    subst this
    exact xt_2 (X := wp_Reader_readLearn k) s1 (fun M2 Q1 s2 _ h => xt_learn s2 h) hQ1
  · have := ne 7 (by omega) w
    subst this
    exact xt_2 (X := wp_Reader_readSign k) s1 (fun M2 Q1 s2 _ h => xt_sign s2 h) hQ1
  · have := ne 8 (by omega) w
    subst this
    exact xt_2 (X := wp_Reader_readEnds k 1) s1 (fun M2 Q1 s2 e2 h => xt_ends s2 (by rw [e2]; exact n1) n8 (by rw [e2]; exact H1) H5 h) hQ1
  · have := ne 9 (by omega) w
    subst this
    exact xt_2 (X := wp_Reader_readEnds k 2) s1 (fun M2 Q1 s2 e2 h => xt_ends s2 (by rw [e2]; exact n1) n8 (by rw [e2]; exact H1) H5 h) hQ1
  · rcases (show nm = 0 ∨ nm = 1 ∨ nm = 2 ∨ nm = 3 ∨ nm = 4 ∨ nm = 5 ∨ nm = 6 ∨ nm = 7 ∨ nm = 8 ∨ nm = 9 by omega) with rfl | rfl | rfl | rfl | rfl | rfl | rfl | rfl | rfl | rfl
    · exact absurd ex w0
    · exact absurd ex w1
    · exact absurd ex w2
    · exact absurd ex w3
    · exact absurd ex w4
    · exact absurd ex w5
    · exact absurd ex w6
    · exact absurd ex w7
    · exact absurd ex w8
    · exact absurd ex w9
def stb (t1 t2 : Bool) : Nat := (if t1 = true then 2 else 0) + (if t2 = true then 4 else 0)
/-- what has been told so far is well: n pieces, H hands, L in the row, sorts 1 and 2 told -/
def DW (k : Nat) (M : zMem) (n H L : Nat) (t1 t2 : Bool) : Prop :=
  (n ≤ 8 ∧ H ≤ 5 ∧ 1 ≤ L ∧ L ≤ 6) ∧ M (k + 1) 0 = nI n ∧ M (k + 1) 1 = nI H ∧ M (k + 1) 6 = nI L ∧ (∃ a, a ≤ 5 ∧ M (k + 1) 2 = nI a) ∧ (∃ a, a ≤ 99 ∧ M (k + 1) 3 = nI a) ∧ (∃ a, a ≤ 2 ∧ M (k + 1) 4 = nI a) ∧ (∃ a, a < 256 ∧ M (k + 1) 5 = nI a) ∧
  (∀ i, i < L → ∃ s, s < 3 ∧ M (k + 2) i = nI s) ∧ (∀ s p, (s = 0 ∨ (s = 1 ∧ t1 = true) ∨ (s = 2 ∧ t2 = true)) → p < n → ∃ u, u ≤ 6 ∧ M (k + 3) (s * 8 + p) = nI u) ∧ (∀ h p, h < H → p < n → ∃ c, 1 ≤ c ∧ c ≤ 9 ∧ M (k + 4) (h * 8 + p) = nI c) ∧ (¬ M (k + 1) 4 = 0 → ∀ h, h + 1 < H → ∃ e, 1 ≤ e ∧ e ≤ n ∧ M (k + 5) h = nI e) ∧
  M k 11 = nI (stb t1 t2) ∧ (M k 12 = 0 → t1 = false ∧ t2 = false ∧ H = 0 ∧ M k 13 = 0) ∧ (¬ M k 12 = 0 → t1 = true ∨ t2 = true ∨ 0 < H ∨ ¬ M k 13 = 0) ∧ (M k 13 = 0 → M (k + 1) 4 = 0)
theorem DW.mv {k n H L : Nat} {t1 t2 : Bool} {M M' : zMem} (h : DW k M n H L t1 t2) (e : ∀ i, 1 ≤ i → i ≤ 5 → M' (k + i) = M (k + i)) (e2 : ∀ j, 11 ≤ j → j ≤ 13 → M' k j = M k j) : DW k M' n H L t1 t2 := by
  unfold DW at h ⊢
  rw [e 1 (by omega) (by omega), e 2 (by omega) (by omega), e 3 (by omega) (by omega), e 4 (by omega) (by omega), e 5 (by omega) (by omega), e2 11 (by omega) (by omega), e2 12 (by omega) (by omega), e2 13 (by omega) (by omega)]
  exact h
theorem DW.tk {k n H L : Nat} {t1 t2 : Bool} {M M' : zMem} (h : DW k M n H L t1 t2) (f : tkf k M M') : DW k M' n H L t1 t2 := h.mv (fun i h1 _ => f.1 _ (by omega)) (fun j h1 h2 => f.2 j (by omega) (by omega) (by omega) (by omega))
theorem rS_in {k z p0 : Nat} {M M' : zMem} (r : rin k z p0 M) (h : rS k z M true M') : rin k z p0 M' ∧ tkf k M M' := by
  obtain ⟨b1, M1, h1, h⟩ := h
  rcases h with ⟨-, h, -⟩ | ⟨rfl, h⟩
  · cases h
  · obtain ⟨r1, f1⟩ := tkn_in r h1
    rcases h with ⟨-, h, -⟩ | ⟨-, -, rfl⟩
    · cases h
    · exact ⟨r1, f1⟩
theorem bnd_t {A B : zMem → Bool → zMem → Prop} {M M' : zMem} (h : bnd A B M true M') : ∃ M1, A M true M1 ∧ B M1 true M' := by
  obtain ⟨b1, M1, h1, h⟩ := h
  rcases h with ⟨-, h, -⟩ | ⟨rfl, h⟩
  · cases h
  · exact ⟨M1, h1, h⟩
theorem rin_mv {k z p0 : Nat} {M M' : zMem} (r : rin k z p0 M) (e5 : M' k 5 = M k 5) (e6 : M' k 6 = M k 6) : rin k z p0 M' := by
  unfold rin at r ⊢
  rw [e5, e6]; exact r
theorem DW_piece {k z p0 n H L : Nat} {t1 t2 : Bool} {M M' : zMem} (r : rin k z p0 M) (d : DW k M n H L t1 t2) (h : rPi k z M true M') : rin k z p0 M' ∧ DW k M' (n + 1) H L t1 t2 := by
  rcases h with ⟨-, h, -⟩ | ⟨c12, cn, h⟩
  · cases h
  obtain ⟨M1, r1, h⟩ := bnd_t h
  obtain ⟨s1, f1, -, lo, hi⟩ := rN_in r r1
  obtain ⟨v, hv, ev⟩ := nI_of2 (x := M1 k 9) (M := 6) (n := 6) rfl lo hi
  have d1 := d.tk f1
  have c1 : M1 k 12 = 0 := by rw [f1.2 12 (by omega) (by omega) (by omega) (by omega)]; exact c12
  obtain ⟨⟨b1, b2, b3, b4⟩, en, eH, eL, w2, w3, w4, w5, hr, hu, hp, he, es, k12, k12', k4⟩ := d1
  obtain ⟨q1, q2, q3, q4⟩ := k12 c1
  have n8 : n < 8 := by
    rw [(show M (k + 1) 0 = nI n from d.2.1)] at cn
    exact (nI_ltI (b := 8) (by omega) (by omega)).mp cn
  rw [en, q_ix (by omega), ev, nI_1] at h
  generalize hX : zup (zup M1 (k + 3) n (nI v)) (k + 1) 0 (nI (n + 1)) = X at h
  have sX : rin k z p0 X := rin_mv s1 (by rw [← hX, zup_ne (by omega), zup_ne (by omega)]) (by rw [← hX, zup_ne (by omega), zup_ne (by omega)])
  obtain ⟨s2, f2⟩ := rS_in sX h
  refine ⟨s2, DW.tk ?_ f2⟩
  have x1 : ∀ j, j ≠ 0 → X (k + 1) j = M1 (k + 1) j := fun j hj => by rw [← hX, zup_eq, upd_ne hj, zup_ne (by omega)]
  have xk : ∀ i, i = 0 ∨ i = 2 ∨ i = 4 ∨ i = 5 → X (k + i) = M1 (k + i) := fun i hi => by rw [← hX, zup_ne (by omega), zup_ne (by omega)]
  have x0 : X k = M1 k := xk 0 (by omega)
  refine ⟨⟨by omega, b2, b3, b4⟩, ?_, by rw [x1 1 (by omega)]; exact eH, by rw [x1 6 (by omega)]; exact eL, by rw [x1 2 (by omega)]; exact w2, by rw [x1 3 (by omega)]; exact w3, by rw [x1 4 (by omega)]; exact w4, by rw [x1 5 (by omega)]; exact w5, by rw [xk 2 (by omega)]; exact hr, fun s p hs hpn => ?_, fun h p hh _ => absurd hh (by omega), fun w h hh => absurd hh (by omega), by rw [x0]; exact es, by rw [x0]; exact k12, by rw [x0]; exact k12', by rw [x0, x1 4 (by omega)]; exact k4⟩
  · rw [← hX, zup_eq, upd_eq]
  · have hs0 : s = 0 := by
      rcases hs with w | w | w
      · exact w
      · rw [q1] at w; exact absurd w.2 (by decide)
      · rw [q2] at w; exact absurd w.2 (by decide)
    subst hs0
    have x3 : X (k + 3) = upd (M1 (k + 3)) n (nI v) := by rw [← hX, zup_ne (by omega), zup_eq]
    rw [x3]
    by_cases e : p = n
    · exact ⟨v, hv, by rw [e, show 0 * 8 + n = n by omega, upd_eq]⟩
    · rw [upd_ne (by omega)]
      exact hu 0 p (Or.inl rfl) (by omega)
theorem w_bits : ∀ w, w < 256 → ∀ p, p < 8 → ∃ w', w' < 256 ∧ nI w ||| ((1 : Int32) <<< (nI p &&& 31)) = nI w' := by
  have : ∀ w, w < 256 → ∀ p, p < 8 → ix (nI w ||| ((1 : Int32) <<< (nI p &&& 31))) < 256 ∧ nI w ||| ((1 : Int32) <<< (nI p &&& 31)) = nI (ix (nI w ||| ((1 : Int32) <<< (nI p &&& 31)))) := by decide +kernel
  intro w hw p hp
  exact ⟨_, (this w hw p hp).1, (this w hw p hp).2⟩
theorem DW_whole {k z p0 n H L : Nat} {t1 t2 : Bool} {M M' : zMem} (r : rin k z p0 M) (d : DW k M n H L t1 t2) (h : rWh k z M true M') : rin k z p0 M' ∧ DW k M' n H L t1 t2 := by
  obtain ⟨M1, r1, h⟩ := bnd_t h
  obtain ⟨s1, f1, -, lo, hi⟩ := rN_in r r1
  have d1 := d.tk f1
  rcases h with ⟨-, h, -⟩ | ⟨-, h⟩
  · cases h
  generalize hX : zup M1 (k + 1) 5 ((M1 (k + 1) 5) ||| (1 <<< ((M1 k 9) &&& 31))) = X at h
  have sX : rin k z p0 X := rin_mv s1 (by rw [← hX, zup_ne (by omega)]) (by rw [← hX, zup_ne (by omega)])
  obtain ⟨s2, f2⟩ := rS_in sX h
  refine ⟨s2, DW.tk ?_ f2⟩
  obtain ⟨⟨b1, b2, b3, b4⟩, en, eH, eL, w2, w3, w4, ⟨a, a1, a2⟩, hr, hu, hp, he, es, k12, k12', k4⟩ := d1
  have x1 : ∀ j, j ≠ 5 → X (k + 1) j = M1 (k + 1) j := fun j hj => by rw [← hX, zup_eq, upd_ne hj]
  have xk : ∀ i, i = 0 ∨ i = 2 ∨ i = 3 ∨ i = 4 ∨ i = 5 → X (k + i) = M1 (k + i) := fun i hi => by rw [← hX, zup_ne (by omega)]
  have x0 : X k = M1 k := xk 0 (by omega)
  refine ⟨⟨b1, b2, b3, b4⟩, by rw [x1 0 (by omega)]; exact en, by rw [x1 1 (by omega)]; exact eH, by rw [x1 6 (by omega)]; exact eL, by rw [x1 2 (by omega)]; exact w2, by rw [x1 3 (by omega)]; exact w3, by rw [x1 4 (by omega)]; exact w4, ?_, by rw [xk 2 (by omega)]; exact hr, by rw [xk 3 (by omega)]; exact hu, by rw [xk 4 (by omega)]; exact hp, by rw [x1 4 (by omega), xk 5 (by omega)]; exact he, by rw [x0]; exact es, by rw [x0]; exact k12, by rw [x0]; exact k12', by rw [x0, x1 4 (by omega)]; exact k4⟩
  have hn0 : M (k + 1) 0 = nI n := d.2.1
  rw [hn0] at hi
  have hn1 : n ≠ 0 := fun e => by
    subst e
    exact lo (Int32.lt_of_le_of_lt hi (by decide))
  have e1 : nI n - 1 = nI (n - 1) := q_sub (a := n) (b := 1) (by omega)
  rw [e1] at hi
  obtain ⟨v, hv, ev⟩ := nI_of lo
  rw [ev] at hi
  have := (nI_leI (by omega) (by omega)).mp hi
  obtain ⟨w', hw1, hw2⟩ := w_bits a a1 v (by omega)
  exact ⟨w', hw1, by rw [← hX, zup_eq, upd_eq, a2, ev]; exact hw2⟩
/-- m numbers have come into a cell -/
theorem rNs_in {k z p0 c lo hi : Nat} {C : zMem → Bool → zMem → Prop} (hlo : lo < 2147483648) (hhi : hi < 2147483648) (hc : c ≠ k) : ∀ m i M M', rin k z p0 M → rNs k z c (nI lo) (nI hi) C m i M true M' → ∃ X, C X true M' ∧ rin k z p0 X ∧ (∀ j, j ≠ 6 → j ≠ 7 → j ≠ 8 → j ≠ 9 → X k j = M k j) ∧ (∀ d, d ≠ k → d ≠ c → X d = M d) ∧ (∀ j, i ≤ j → j < i + m → ∃ v, lo ≤ v ∧ v ≤ hi ∧ X c j = nI v) ∧ ∀ j, (j < i ∨ i + m ≤ j) → X c j = M c j := by
  intro m
  induction m with
  | zero => intro i M M' r h; exact ⟨M, h, r, fun _ _ _ _ _ => rfl, fun _ _ _ => rfl, fun j h1 h2 => absurd h2 (by omega), fun _ _ => rfl⟩
  | succ m ih =>
    intro i M M' r h
    obtain ⟨M1, r1, h⟩ := bnd_t h
    obtain ⟨s1, f1, -, l1, h1⟩ := rN_in r r1
    obtain ⟨v, hv, ev⟩ := nI_of (x := M1 k 9) (fun q => l1 (Int32.lt_of_lt_of_le q (nI_pos' hlo)))
    rw [ev] at l1 h1
    have v1 : lo ≤ v := by
      rcases Nat.lt_or_ge v lo with u | u
      · exact absurd ((nI_ltI hv hlo).mpr u) l1
      · exact u
    have v2 : v ≤ hi := (nI_leI hv hhi).mp h1
    have s2 : rin k z p0 (zup M1 c i (M1 k 9)) := rin_mv s1 (by rw [zup_ne (Ne.symm hc)]) (by rw [zup_ne (Ne.symm hc)])
    obtain ⟨X, x1, x2, x3, x4, x5, x6⟩ := ih (i + 1) _ M' s2 h
    refine ⟨X, x1, x2, fun j a b c' d => ?_, fun d h1 h2 => ?_, fun j h1 h2 => ?_, fun j hj => ?_⟩
    · rw [x3 j a b c' d, zup_ne (Ne.symm hc)]; exact f1.2 j a b c' d
    · rw [x4 d h1 h2, zup_ne h2]; exact f1.1 d h1
    · by_cases e : j = i
      · exact ⟨v, v1, v2, by rw [x6 j (by omega), zup_eq, e, upd_eq, ev]⟩
      · exact x5 j (by omega) (by omega)
    · rw [x6 j (by omega), zup_eq, upd_ne (by omega), f1.1 c hc]
theorem st_or : ∀ t1 t2 : Bool, (nI (stb t1 t2) ||| ((1 : Int32) <<< (nI 1 &&& 31)) = nI (stb true t2)) ∧ (nI (stb t1 t2) ||| ((1 : Int32) <<< (nI 2 &&& 31)) = nI (stb t1 true)) := by decide
theorem DW_sort {k z p0 n H L : Nat} {t1 t2 : Bool} {M M' : zMem} (r : rin k z p0 M) (d : DW k M n H L t1 t2) (h : rSo k z n M true M') : rin k z p0 M' ∧ ∃ t1' t2', DW k M' n H L t1' t2' := by
  obtain ⟨M2, r1, h⟩ := bnd_t h
  have s0 : rin k z p0 (zup M k 12 1) := rin_mv r (by rw [zup_eq, upd_ne (by omega)]) (by rw [zup_eq, upd_ne (by omega)])
  obtain ⟨s1, f1, -, lo, hi⟩ := rN_in s0 r1
  rcases h with ⟨-, h, -⟩ | ⟨-, h⟩
  · cases h
  obtain ⟨s, hs, es9⟩ := nI_of2 (x := M2 k 9) (M := 2) (n := 2) rfl (fun q => lo (Int32.lt_trans q (by decide))) hi
  have hs1 : 1 ≤ s := by
    rw [es9] at lo
    rcases Nat.lt_or_ge s 1 with u | u
    · exact absurd ((nI_ltI (b := 1) (by omega) (by omega)).mpr u) lo
    · exact u
  rw [es9, q_ix (by omega)] at h
  have s3 : rin k z p0 (zup M2 k 11 ((M2 k 11) ||| (1 <<< (nI s &&& 31)))) := rin_mv s1 (by rw [zup_eq, upd_ne (by omega)]) (by rw [zup_eq, upd_ne (by omega)])
  obtain ⟨X, hS, sX, xj, xd, xv, xo⟩ := rNs_in (lo := 0) (hi := 6) (by omega) (by omega) (by omega) n (s * 8) _ M' s3 h
  obtain ⟨s4, f4⟩ := rS_in sX hS
  obtain ⟨⟨b1, b2, b3, b4⟩, en, eH, eL, w2, w3, w4, w5, hr, hu, hp, he, es, k12, k12', k4⟩ := d
  have xM : ∀ i, i = 1 ∨ i = 2 ∨ i = 4 ∨ i = 5 → X (k + i) = M (k + i) := fun i hi => by rw [xd _ (by omega) (by omega), zup_ne (by omega), f1.1 _ (by omega), zup_ne (by omega)]
  have x11 : X k 11 = nI (stb t1 t2) ||| (1 <<< (nI s &&& 31)) := by
    rw [xj 11 (by omega) (by omega) (by omega) (by omega), zup_eq, upd_eq, f1.2 11 (by omega) (by omega) (by omega) (by omega), zup_eq, upd_ne (by omega), es]
  have x12 : X k 12 = 1 := by rw [xj 12 (by omega) (by omega) (by omega) (by omega), zup_eq, upd_ne (by omega), f1.2 12 (by omega) (by omega) (by omega) (by omega), zup_eq, upd_eq]
  have x13 : X k 13 = M k 13 := by rw [xj 13 (by omega) (by omega) (by omega) (by omega), zup_eq, upd_ne (by omega), f1.2 13 (by omega) (by omega) (by omega) (by omega), zup_eq, upd_ne (by omega)]
  have xc : ∀ j, (j < s * 8 ∨ s * 8 + n ≤ j) → X (k + 3) j = M (k + 3) j := fun j hj => by rw [xo j hj, zup_ne (by omega), f1.1 _ (by omega), zup_ne (by omega)]
  have all : ∀ u1 u2, X k 11 = nI (stb u1 u2) → (u1 = true ∨ u2 = true) → (∀ s' p, (s' = 0 ∨ (s' = 1 ∧ u1 = true) ∨ (s' = 2 ∧ u2 = true)) → p < n → ∃ u, u ≤ 6 ∧ X (k + 3) (s' * 8 + p) = nI u) → DW k X n H L u1 u2 := fun u1 u2 h11 ht hun => by
    refine ⟨⟨b1, b2, b3, b4⟩, by rw [xM 1 (by omega)]; exact en, by rw [xM 1 (by omega)]; exact eH, by rw [xM 1 (by omega)]; exact eL, by rw [xM 1 (by omega)]; exact w2, by rw [xM 1 (by omega)]; exact w3, by rw [xM 1 (by omega)]; exact w4, by rw [xM 1 (by omega)]; exact w5, by rw [xM 2 (by omega)]; exact hr, hun, by rw [xM 4 (by omega)]; exact hp, by rw [xM 1 (by omega), xM 5 (by omega)]; exact he, h11, fun w => absurd (x12.symm.trans w) (by decide), fun _ => ht.elim Or.inl (fun w => Or.inr (Or.inl w)), by rw [x13, xM 1 (by omega)]; exact k4⟩
  refine ⟨s4, ?_⟩
  rcases (show s = 1 ∨ s = 2 by omega) with rfl | rfl
  · refine ⟨true, t2, DW.tk (all true t2 (by rw [x11]; exact (st_or t1 t2).1) (Or.inl rfl) (fun s' p hs' hpn => ?_)) f4⟩
    by_cases e : s' = 1
    · subst e
      obtain ⟨v, -, v2, v3⟩ := xv (1 * 8 + p) (by omega) (by omega)
      exact ⟨v, v2, v3⟩
    · rw [xc _ (by omega)]
      refine hu s' p ?_ hpn
      rcases hs' with w | w | w
      · exact Or.inl w
      · exact absurd w.1 e
      · exact Or.inr (Or.inr w)
  · refine ⟨t1, true, DW.tk (all t1 true (by rw [x11]; exact (st_or t1 t2).2) (Or.inr rfl) (fun s' p hs' hpn => ?_)) f4⟩
    by_cases e : s' = 2
    · subst e
      obtain ⟨v, -, v2, v3⟩ := xv (2 * 8 + p) (by omega) (by omega)
      exact ⟨v, v2, v3⟩
    · rw [xc _ (by omega)]
      refine hu s' p ?_ hpn
      rcases hs' with w | w | w
      · exact Or.inl w
      · exact Or.inr (Or.inl w)
      · exact absurd w.1 e
theorem DW_hand {k z p0 n H L : Nat} {t1 t2 : Bool} {M M' : zMem} (r : rin k z p0 M) (d : DW k M n H L t1 t2) (h : rHa k z n H M true M') : rin k z p0 M' ∧ DW k M' n (H + 1) L t1 t2 := by
  rcases h with ⟨-, h, -⟩ | ⟨c13, cH, h⟩
  · cases h
  obtain ⟨⟨b1, b2, b3, b4⟩, en, eH, eL, w2, w3, w4, w5, hr, hu, hp, he, es, k12, k12', k4⟩ := d
  have hH : H < 5 := by
    rw [eH] at cH
    exact (nI_ltI (b := 5) (by omega) (by omega)).mp cH
  have s0 : rin k z p0 (zup M k 12 1) := rin_mv r (by rw [zup_eq, upd_ne (by omega)]) (by rw [zup_eq, upd_ne (by omega)])
  obtain ⟨X, hS, sX, xj, xd, xv, xo⟩ := rNs_in (lo := 1) (hi := 9) (by omega) (by omega) (by omega) n (H * 8) _ M' s0 h
  have xM : ∀ i, i = 1 ∨ i = 2 ∨ i = 3 ∨ i = 5 → X (k + i) = M (k + i) := fun i hi => by rw [xd _ (by omega) (by omega), zup_ne (by omega)]
  have e1 : X (k + 1) 1 + 1 = nI (H + 1) := by rw [xM 1 (by omega), eH, nI_1]
  rw [e1] at hS
  generalize hY : zup X (k + 1) 1 (nI (H + 1)) = Y at hS
  have sY : rin k z p0 Y := rin_mv sX (by rw [← hY, zup_ne (by omega)]) (by rw [← hY, zup_ne (by omega)])
  obtain ⟨s4, f4⟩ := rS_in sY hS
  refine ⟨s4, DW.tk ?_ f4⟩
  have y1 : ∀ j, j ≠ 1 → Y (k + 1) j = M (k + 1) j := fun j hj => by rw [← hY, zup_eq, upd_ne hj, xM 1 (by omega)]
  have yk : ∀ i, i = 2 ∨ i = 3 ∨ i = 5 → Y (k + i) = M (k + i) := fun i hi => by rw [← hY, zup_ne (by omega)]; exact xM i (by omega)
  have y4 : Y (k + 4) = X (k + 4) := by rw [← hY, zup_ne (by omega)]
  have y0 : Y k = X k := by rw [← hY, zup_ne (by omega)]
  have y12 : Y k 12 = 1 := by rw [y0, xj 12 (by omega) (by omega) (by omega) (by omega), zup_eq, upd_eq]
  have y11 : Y k 11 = M k 11 := by rw [y0, xj 11 (by omega) (by omega) (by omega) (by omega), zup_eq, upd_ne (by omega)]
  have y13 : Y k 13 = M k 13 := by rw [y0, xj 13 (by omega) (by omega) (by omega) (by omega), zup_eq, upd_ne (by omega)]
  refine ⟨⟨b1, by omega, b3, b4⟩, by rw [y1 0 (by omega)]; exact en, by rw [← hY, zup_eq, upd_eq], by rw [y1 6 (by omega)]; exact eL, by rw [y1 2 (by omega)]; exact w2, by rw [y1 3 (by omega)]; exact w3, by rw [y1 4 (by omega)]; exact w4, by rw [y1 5 (by omega)]; exact w5, by rw [yk 2 (by omega)]; exact hr, by rw [yk 3 (by omega)]; exact hu, fun h p hh hpn => ?_, fun w => absurd (by rw [y1 4 (by omega)]; exact k4 c13) w, by rw [y11]; exact es, fun w => absurd (y12.symm.trans w) (by decide), fun _ => Or.inr (Or.inr (Or.inl (by omega))), by rw [y13, y1 4 (by omega)]; exact k4⟩
  rw [y4]
  by_cases e : h = H
  · rw [e]
    exact xv (H * 8 + p) (by omega) (by omega)
  · rw [xo _ (by omega), zup_ne (by omega)]
    exact hp h p (by omega) hpn
theorem DW_once {k z p0 n H L : Nat} {t1 t2 : Bool} {a : Int32} {M M' : zMem} (r : rin k z p0 M) (d : DW k M n H L t1 t2) (h : rOc k a M true M') : rin k z p0 M' ∧ DW k M' n H L t1 t2 := by
  obtain ⟨s1, e⟩ := rOc_in r h
  exact ⟨s1, d.mv (fun i h1 _ => by rw [e, zup_ne (by omega)]) (fun j h1 h2 => by rw [e, zup_eq, upd_ne (by omega)])⟩
theorem DW_on {k z p0 n H L j : Nat} {hi : Int32} {t1 t2 : Bool} {M M' : zMem} (r : rin k z p0 M) (d : DW k M n H L t1 t2) (hj : (j = 2 ∧ hi = 5) ∨ (j = 3 ∧ hi = 99)) (h : rOn k z j hi M true M') : rin k z p0 M' ∧ DW k M' n H L t1 t2 := by
  obtain ⟨M1, r1, h⟩ := bnd_t h
  obtain ⟨s1, f1, -, lo, hi'⟩ := rN_in r r1
  have d1 := d.tk f1
  generalize hX : zup M1 (k + 1) j (M1 k 9) = X at h
  have sX : rin k z p0 X := rin_mv s1 (by rw [← hX, zup_ne (by omega)]) (by rw [← hX, zup_ne (by omega)])
  obtain ⟨s2, f2⟩ := rS_in sX h
  refine ⟨s2, DW.tk ?_ f2⟩
  obtain ⟨⟨b1, b2, b3, b4⟩, en, eH, eL, w2, w3, w4, w5, hr, hu, hp, he, es, k12, k12', k4⟩ := d1
  have x1 : ∀ i, i ≠ j → X (k + 1) i = M1 (k + 1) i := fun i hi => by rw [← hX, zup_eq, upd_ne hi]
  have xj : X (k + 1) j = M1 k 9 := by rw [← hX, zup_eq, upd_eq]
  have xk : ∀ i, i = 0 ∨ i = 2 ∨ i = 3 ∨ i = 4 ∨ i = 5 → X (k + i) = M1 (k + i) := fun i hi => by rw [← hX, zup_ne (by omega)]
  have x0 : X k = M1 k := xk 0 (by omega)
  have y2 : ∃ a, a ≤ 5 ∧ X (k + 1) 2 = nI a := by
    rcases hj with ⟨rfl, rfl⟩ | ⟨rfl, rfl⟩
    · obtain ⟨v, hv, ev⟩ := nI_of2 (x := M1 k 9) (M := 5) (n := 5) rfl lo hi'
      exact ⟨v, hv, by rw [xj]; exact ev⟩
    · rw [x1 2 (by omega)]; exact w2
  have y3 : ∃ a, a ≤ 99 ∧ X (k + 1) 3 = nI a := by
    rcases hj with ⟨rfl, rfl⟩ | ⟨rfl, rfl⟩
    · rw [x1 3 (by omega)]; exact w3
    · obtain ⟨v, hv, ev⟩ := nI_of2 (x := M1 k 9) (M := 99) (n := 99) rfl lo hi'
      exact ⟨v, hv, by rw [xj]; exact ev⟩
  exact ⟨⟨b1, b2, b3, b4⟩, by rw [x1 0 (by omega)]; exact en, by rw [x1 1 (by omega)]; exact eH, by rw [x1 6 (by omega)]; exact eL, y2, y3, by rw [x1 4 (by omega)]; exact w4, by rw [x1 5 (by omega)]; exact w5, by rw [xk 2 (by omega)]; exact hr, by rw [xk 3 (by omega)]; exact hu, by rw [xk 4 (by omega)]; exact hp, by rw [x1 4 (by omega), xk 5 (by omega)]; exact he, by rw [x0]; exact es, by rw [x0]; exact k12, by rw [x0]; exact k12', by rw [x0, x1 4 (by omega)]; exact k4⟩
theorem rWi_in {k : Nat} {lo hi : Int32} {M M' : zMem} (h : rWi k lo hi M true M') : M' = M ∧ ¬ M k 9 < lo ∧ M k 9 ≤ hi := by
  rcases h with ⟨-, h, -⟩ | ⟨c1, c2, -, e⟩
  · cases h
  · exact ⟨e, c1, c2⟩
theorem rSi_in {k : Nat} {M M' : zMem} (h : rSi k M true M') : M' = M := by
  rcases h with ⟨-, h, -⟩ | ⟨-, -, e⟩
  · cases h
  · exact e
/-- the row, its first i numbers read -/
theorem DW_rowl {k z p0 n H : Nat} {t1 t2 : Bool} : ∀ m i M M', i + m = 6 → 1 ≤ i → rin k z p0 M → DW k M n H i t1 t2 → rRl k z m i M true M' → rin k z p0 M' ∧ ∃ L, DW k M' n H L t1 t2 := by
  intro m
  induction m with
  | zero =>
    intro i M M' hi h1 r d h
    rcases h with ⟨-, h, -⟩ | ⟨-, h⟩
    · cases h
    · rw [rSi_in h]; exact ⟨r, _, d⟩
  | succ m ih =>
    intro i M M' hi h1 r d h
    rcases h with ⟨-, h⟩ | ⟨c7, h⟩
    · rw [rSi_in h]; exact ⟨r, _, d⟩
    · obtain ⟨M0, hw, h2⟩ := bnd_t h
      obtain ⟨e1, lo, hi'⟩ := rWi_in hw
      rw [e1] at h2
      obtain ⟨v, hv, ev⟩ := nI_of2 (x := M k 9) (M := 2) (n := 2) rfl lo hi'
      rw [ev] at h2
      generalize hX : zup (zup M (k + 2) i (nI v)) (k + 1) 6 (nI (i + 1)) = X at h2
      obtain ⟨M2, ht, h3⟩ := bnd_t h2
      have sX : rin k z p0 X := rin_mv r (by rw [← hX, zup_ne (by omega), zup_ne (by omega)]) (by rw [← hX, zup_ne (by omega), zup_ne (by omega)])
      obtain ⟨s2, f2⟩ := tkn_in sX ht
      refine ih (i + 1) M2 M' (by omega) (by omega) s2 (DW.tk ?_ f2) h3
      obtain ⟨⟨b1, b2, b3, b4⟩, en, eH, eL, w2, w3, w4, w5, hr, hu, hp, he, es, k12, k12', k4⟩ := d
      have x1 : ∀ j, j ≠ 6 → X (k + 1) j = M (k + 1) j := fun j hj => by rw [← hX, zup_eq, upd_ne hj, zup_ne (by omega)]
      have xk : ∀ j, j = 0 ∨ j = 3 ∨ j = 4 ∨ j = 5 → X (k + j) = M (k + j) := fun j hj => by rw [← hX, zup_ne (by omega), zup_ne (by omega)]
      have x0 : X k = M k := xk 0 (by omega)
      have x2 : X (k + 2) = upd (M (k + 2)) i (nI v) := by rw [← hX, zup_ne (by omega), zup_eq]
      refine ⟨⟨b1, b2, by omega, by omega⟩, by rw [x1 0 (by omega)]; exact en, by rw [x1 1 (by omega)]; exact eH, by rw [← hX, zup_eq, upd_eq], by rw [x1 2 (by omega)]; exact w2, by rw [x1 3 (by omega)]; exact w3, by rw [x1 4 (by omega)]; exact w4, by rw [x1 5 (by omega)]; exact w5, fun j hj => ?_, by rw [xk 3 (by omega)]; exact hu, by rw [xk 4 (by omega)]; exact hp, by rw [x1 4 (by omega), xk 5 (by omega)]; exact he, by rw [x0]; exact es, by rw [x0]; exact k12, by rw [x0]; exact k12', by rw [x0, x1 4 (by omega)]; exact k4⟩
      rw [x2]
      by_cases e : j = i
      · exact ⟨v, by omega, by rw [e, upd_eq]⟩
      · rw [upd_ne e]; exact hr j (by omega)
theorem DW_row {k z p0 n H L : Nat} {t1 t2 : Bool} {M M' : zMem} (r : rin k z p0 M) (d : DW k M n H L t1 t2) (hL : L = 1) (h : rRo k z M true M') : rin k z p0 M' ∧ ∃ L', DW k M' n H L' t1 t2 := by
  subst hL
  obtain ⟨M1, r1, h⟩ := bnd_t h
  obtain ⟨s1, f1, -, lo, hi⟩ := rN_in r r1
  have d1 := d.tk f1
  obtain ⟨v, hv, ev⟩ := nI_of2 (x := M1 k 9) (M := 2) (n := 2) rfl lo hi
  rw [ev] at h
  generalize hX : zup M1 (k + 2) 0 (nI v) = X at h
  obtain ⟨M2, ht, h⟩ := bnd_t h
  have sX : rin k z p0 X := rin_mv s1 (by rw [← hX, zup_ne (by omega)]) (by rw [← hX, zup_ne (by omega)])
  obtain ⟨s2, f2⟩ := tkn_in sX ht
  refine DW_rowl 5 1 M2 M' (by omega) (by omega) s2 (DW.tk ?_ f2) h
  obtain ⟨⟨b1, b2, b3, b4⟩, en, eH, eL, w2, w3, w4, w5, hr, hu, hp, he, es, k12, k12', k4⟩ := d1
  have xk : ∀ j, j = 0 ∨ j = 1 ∨ j = 3 ∨ j = 4 ∨ j = 5 → X (k + j) = M1 (k + j) := fun j hj => by rw [← hX, zup_ne (by omega)]
  have x0 : X k = M1 k := xk 0 (by omega)
  have x1 : X (k + 1) = M1 (k + 1) := xk 1 (by omega)
  have x2 : X (k + 2) = upd (M1 (k + 2)) 0 (nI v) := by rw [← hX, zup_eq]
  refine ⟨⟨b1, b2, b3, b4⟩, by rw [x1]; exact en, by rw [x1]; exact eH, by rw [x1]; exact eL, by rw [x1]; exact w2, by rw [x1]; exact w3, by rw [x1]; exact w4, by rw [x1]; exact w5, fun j hj => ?_, by rw [xk 3 (by omega)]; exact hu, by rw [xk 4 (by omega)]; exact hp, by rw [x1, xk 5 (by omega)]; exact he, by rw [x0]; exact es, by rw [x0]; exact k12, by rw [x0]; exact k12', by rw [x0, x1]; exact k4⟩
  rw [x2, show j = 0 by omega, upd_eq]
  exact ⟨v, by omega, rfl⟩
/-- ends: from h on, m left, the one ahead at lo at least -/
theorem rEn_in {k z p0 n : Nat} (n8 : n ≤ 8) : ∀ m h lo M M', 1 ≤ lo → lo < 2147483648 → rin k z p0 M → rEn k z n m h (nI lo) M true M' → ∃ X, rS k z X true M' ∧ rin k z p0 X ∧ (∀ j, j ≠ 6 → j ≠ 7 → j ≠ 8 → j ≠ 9 → X k j = M k j) ∧ (∀ d, d ≠ k → d ≠ k + 5 → X d = M d) ∧ (∀ j, h ≤ j → j < h + m → ∃ v, 1 ≤ v ∧ v ≤ n ∧ X (k + 5) j = nI v) ∧ ∀ j, (j < h ∨ h + m ≤ j) → X (k + 5) j = M (k + 5) j := by
  intro m
  induction m with
  | zero => intro h lo M M' _ _ r hh; exact ⟨M, hh, r, fun _ _ _ _ _ => rfl, fun _ _ _ => rfl, fun j h1 h2 => absurd h2 (by omega), fun _ _ => rfl⟩
  | succ m ih =>
    intro h lo M M' hlo hlo2 r hh
    obtain ⟨M1, r1, hh⟩ := bnd_t hh
    obtain ⟨s1, f1, -, l1, h1⟩ := rN_in r r1
    obtain ⟨v, hv, ev⟩ := nI_of (x := M1 k 9) (fun q => l1 (Int32.lt_of_lt_of_le q (nI_pos' hlo2)))
    rw [ev] at l1 h1
    have v1 : lo ≤ v := by
      rcases Nat.lt_or_ge v lo with u | u
      · exact absurd ((nI_ltI hv hlo2).mpr u) l1
      · exact u
    have v2 : v ≤ n := (nI_leI hv (by omega)).mp h1
    have s2 : rin k z p0 (zup M1 (k + 5) h (M1 k 9)) := rin_mv s1 (by rw [zup_ne (by omega)]) (by rw [zup_ne (by omega)])
    rw [ev] at hh s2
    obtain ⟨X, x1, x2, x3, x4, x5, x6⟩ := ih (h + 1) v _ M' (by omega) hv s2 hh
    refine ⟨X, x1, x2, fun j a b c d => ?_, fun d h1 h2 => ?_, fun j h1 h2 => ?_, fun j hj => ?_⟩
    · rw [x3 j a b c d, zup_ne (by omega)]; exact f1.2 j a b c d
    · rw [x4 d h1 h2, zup_ne h2]; exact f1.1 d h1
    · by_cases e : j = h
      · exact ⟨v, by omega, v2, by rw [x6 j (by omega), zup_eq, e, upd_eq]⟩
      · exact x5 j (by omega) (by omega)
    · rw [x6 j (by omega), zup_eq, upd_ne (by omega), f1.1 _ (by omega)]
theorem DW_ends {k z p0 n H L a : Nat} {t1 t2 : Bool} {M M' : zMem} (ha : 1 ≤ a ∧ a ≤ 2) (r : rin k z p0 M) (d : DW k M n H L t1 t2) (h : rEs k z n H (nI a) M true M') : rin k z p0 M' ∧ DW k M' n H L t1 t2 := by
  unfold rEs at h
  generalize hY : zup (zup (zup M k 12 1) k 13 1) (k + 1) 4 (nI a) = Y at h
  have sY : rin k z p0 Y := rin_mv r (by rw [← hY, zup_ne (by omega), zup_eq, upd_ne (by omega), zup_eq, upd_ne (by omega)]) (by rw [← hY, zup_ne (by omega), zup_eq, upd_ne (by omega), zup_eq, upd_ne (by omega)])
  obtain ⟨⟨b1, b2, b3, b4⟩, en, eH, eL, w2, w3, w4, w5, hr, hu, hp, he, es, k12, k12', k4⟩ := d
  obtain ⟨X, hS, sX, xj, xd, xv, xo⟩ := rEn_in b1 (H - 1) 0 1 Y M' (by omega) (by omega) sY h
  obtain ⟨s4, f4⟩ := rS_in sX hS
  refine ⟨s4, DW.tk ?_ f4⟩
  have x1 : ∀ j, j ≠ 4 → X (k + 1) j = M (k + 1) j := fun j hj => by rw [xd _ (by omega) (by omega), ← hY, zup_eq, upd_ne hj, zup_ne (by omega), zup_ne (by omega)]
  have x14 : X (k + 1) 4 = nI a := by rw [xd _ (by omega) (by omega), ← hY, zup_eq, upd_eq]
  have xk : ∀ i, i = 2 ∨ i = 3 ∨ i = 4 → X (k + i) = M (k + i) := fun i hi => by rw [xd _ (by omega) (by omega), ← hY, zup_ne (by omega), zup_ne (by omega), zup_ne (by omega)]
  have x11 : X k 11 = M k 11 := by rw [xj 11 (by omega) (by omega) (by omega) (by omega), ← hY, zup_ne (by omega), zup_eq, upd_ne (by omega), zup_eq, upd_ne (by omega)]
  have x12 : X k 12 = 1 := by rw [xj 12 (by omega) (by omega) (by omega) (by omega), ← hY, zup_ne (by omega), zup_eq, upd_ne (by omega), zup_eq, upd_eq]
  have x13 : X k 13 = 1 := by rw [xj 13 (by omega) (by omega) (by omega) (by omega), ← hY, zup_ne (by omega), zup_eq, upd_eq]
  exact ⟨⟨b1, b2, b3, b4⟩, by rw [x1 0 (by omega)]; exact en, by rw [x1 1 (by omega)]; exact eH, by rw [x1 6 (by omega)]; exact eL, by rw [x1 2 (by omega)]; exact w2, by rw [x1 3 (by omega)]; exact w3, ⟨a, ha.2, x14⟩, by rw [x1 5 (by omega)]; exact w5, by rw [xk 2 (by omega)]; exact hr, by rw [xk 3 (by omega)]; exact hu, by rw [xk 4 (by omega)]; exact hp, fun _ h hh => xv h (by omega) (by omega), by rw [x11]; exact es, fun w => absurd (x12.symm.trans w) (by decide), fun _ => Or.inr (Or.inr (Or.inr (by rw [x13]; decide))), fun w => absurd (x13.symm.trans w) (by decide)⟩
def nmb (a b c d : Bool) : Nat := (if a = true then 8 else 0) + (if b = true then 32 else 0) + (if c = true then 64 else 0) + (if d = true then 128 else 0)
theorem nm_or : ∀ a b c d : Bool, (nI (nmb a b c d) ||| ((1 : Int32) <<< ((3 : Int32) &&& 31)) = nI (nmb true b c d)) ∧ (nI (nmb a b c d) ||| ((1 : Int32) <<< ((5 : Int32) &&& 31)) = nI (nmb a true c d)) ∧ (nI (nmb a b c d) ||| ((1 : Int32) <<< ((6 : Int32) &&& 31)) = nI (nmb a b true d)) ∧ (nI (nmb a b c d) ||| ((1 : Int32) <<< ((7 : Int32) &&& 31)) = nI (nmb a b c true)) ∧ ((((nI (nmb a b c d)) >>> ((3 : Int32) &&& 31)) &&& 1) = 1 ↔ a = true) := by decide
/-- the row has one number until it is told -/
def DN (k : Nat) (M : zMem) (L : Nat) : Prop := ∃ a b c d, M k 10 = nI (nmb a b c d) ∧ (a = false → L = 1)
theorem DN.mv {k L : Nat} {M M' : zMem} (h : DN k M L) (e : M' k 10 = M k 10) : DN k M' L := by
  unfold DN at h ⊢
  rw [e]; exact h
theorem DN.tk {k L : Nat} {M M' : zMem} (h : DN k M L) (f : tkf k M M') : DN k M' L := h.mv (f.2 10 (by omega) (by omega) (by omega) (by omega))
theorem rOc_10 {k L : Nat} {x : Int32} {M M' : zMem} (h : rOc k x M true M') (d : DN k M L) (hx : x = 3 ∨ x = 5 ∨ x = 6 ∨ x = 7) : (x = 3 → L = 1) ∧ (∀ L', (x ≠ 3 → L' = L) → DN k M' L') := by
  obtain ⟨a, b, c, e, e10, hL⟩ := d
  obtain ⟨n3, n5, n6, n7, nb⟩ := nm_or a b c e
  rcases h with ⟨-, h, -⟩ | ⟨c1, -, e1⟩
  · cases h
  rw [e10] at c1 e1
  have q10 : M' k 10 = nI (nmb a b c e) ||| (1 <<< (x &&& 31)) := by rw [e1, zup_eq, upd_eq]
  rcases hx with rfl | rfl | rfl | rfl
  · refine ⟨fun _ => hL (by
      cases a with
      | false => rfl
      | true => exact absurd (nb.mpr rfl) c1), fun L' _ => ⟨true, b, c, e, by rw [q10]; exact n3, fun w => by cases w⟩⟩
  · exact ⟨fun w => absurd w (by decide), fun L' h => ⟨a, true, c, e, by rw [q10]; exact n5, by rw [h (by decide)]; exact hL⟩⟩
  · exact ⟨fun w => absurd w (by decide), fun L' h => ⟨a, b, true, e, by rw [q10]; exact n6, by rw [h (by decide)]; exact hL⟩⟩
  · exact ⟨fun w => absurd w (by decide), fun L' h => ⟨a, b, c, true, by rw [q10]; exact n7, by rw [h (by decide)]; exact hL⟩⟩
