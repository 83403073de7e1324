theorem pc_le {x : Nat} : ∀ p, pc x p ≤ p := by
  intro p
  induction p with
  | zero => exact Nat.le_refl _
  | succ p ih =>
    unfold pc
    have := so_m2 (x / 2 ^ p)
    split <;> omega
theorem pc_1 {x : Nat} : pc x 1 = 0 := rfl
theorem pc_s {x p : Nat} (h : p ≠ 0) : pc x (p + 1) = pc x p + x / 2 ^ p % 2 := by
  show pc x p + (if p = 0 then 0 else x / 2 ^ p % 2) = _
  rw [if_neg h]
theorem mt_cnt {a1 x2 : Int32} {n H x : Nat} {W : zMem} {K : Int32 → zMem → Prop} {Q : Int32 → zMem → Prop} (hx : x < 256) (n1 : 1 ≤ n) (n8 : n ≤ 8) (H1 : 1 ≤ H) (H5 : H ≤ 5) (hn : W 4 0 = nI n) (hH : W 0 18 = nI H)
    (hK : ∀ W', (pc x n ≤ H → ∀ j, j < pc x n → W' 9 j = nI (pv x j)) → (∀ d, d ≠ 9 → W' d = W d) → K (nI (pc x n)) W') : ∃ k, zlp2 (wpB_Model_parts_82 a1 x2 (nI x) K Q) k 0 1 W := by
  refine zlp2_r (fun f y z W' => ∃ p, z = nI p ∧ 1 ≤ p ∧ p ≤ n ∧ f = n - p ∧ y = nI (pc x p) ∧ (pc x p ≤ H → ∀ j, j < pc x p → W' 9 j = nI (pv x j)) ∧ (∀ d, d ≠ 9 → W' d = W d)) ?_ (n := n - 1) ⟨1, rfl, Nat.le_refl _, n1, rfl, rfl, fun _ j hj => absurd hj (by rw [pc_1]; omega), fun _ _ => rfl⟩
  rintro f y z W' ⟨p, rfl, p1, pn, rfl, rfl, i1, i2⟩ J hJ
  unfold wpB_Model_parts_82
  rw [show ix 0 = 0 from rfl, i2 4 (by omega), hn, i2 0 (by omega), hH]
  have hpl := pc_le (x := x) p
  refine ⟨vp_in_nI (n := 0) (by omega) (by omega), fun c => ?_, fun c => ?_⟩
  · have := (nI_leI (by omega) (by omega)).mp c
    have ep : p = n := by omega
    subst ep
    exact hK W' i1 i2
  have hp : p < n := (nI_ltI (by omega) (by omega)).mp (Int32.not_le.mp c)
  rw [p_bit hx (by omega)]
  have es := pc_s (x := x) (p := p) (by omega)
  refine ⟨fun c2 y2 e2 => ?_, fun c2 => ?_⟩
  · have b0 : x / 2 ^ p % 2 = 0 := by
      rcases so_m2 (x / 2 ^ p) with b | b
      · exact b
      · exact absurd (by rw [b]; rfl) c2
    rw [b0] at es
    rw [e2, nI_1]
    exact hJ (n - (p + 1)) _ _ _ (by omega) ⟨p + 1, rfl, by omega, by omega, rfl, by rw [es]; rfl, by rw [es]; exact i1, i2⟩
  · have b1 : x / 2 ^ p % 2 = 1 := by
      rcases so_m2 (x / 2 ^ p) with b | b
      · rw [b] at c2; exact absurd c2 (by decide)
      · exact b
    rw [b1] at es
    have ev := pv_pc hx (by omega : p < 8) (by omega) b1
    refine ⟨fun c3 => ⟨vp_in_nI (n := 0) (by omega) (by omega), fun W7 e7 y2 e2 y3 e3 => ?_⟩, fun c3 => ⟨?_, fun W7 e7 y2 e2 y3 e3 => ?_⟩⟩
    · have c4 := (nI_leI (by omega) (by omega)).mp c3
      rw [e2, e3, nI_1, nI_1]
      exact hJ (n - (p + 1)) _ _ _ (by omega) ⟨p + 1, rfl, by omega, by omega, rfl, by rw [es], fun q => absurd q (by rw [es]; omega), fun d hd => by rw [e7, zup_ne hd]; exact i2 d hd⟩
    · have c4 : pc x p < H := (nI_ltI (by omega) (by omega)).mp (Int32.not_le.mp c3)
      exact vp_in_nI (by omega) (by omega)
    · have c4 : pc x p < H := (nI_ltI (by omega) (by omega)).mp (Int32.not_le.mp c3)
      rw [q_ix (by omega)] at e7
      rw [e2, e3, nI_1, nI_1]
      refine hJ (n - (p + 1)) _ _ _ (by omega) ⟨p + 1, rfl, by omega, by omega, rfl, by rw [es], fun q j hj => ?_, fun d hd => by rw [e7, zup_ne hd]; exact i2 d hd⟩
      rw [es] at hj
      rw [e7, zup_eq]
      by_cases z : j = pc x p
      · rw [z, upd_eq, ev]
      · rw [upd_ne z]; exact i1 (by omega) j (by omega)
theorem mt_areLess {H : Nat} {e f : Nat → Nat} {W : zMem} {Q : Int32 → zMem → Prop} (hH : W 0 18 = nI H) (H1 : 1 ≤ H) (H5 : H ≤ 5) (h9 : ∀ i, i < H - 1 → W 9 i = nI (e i)) (h15 : ∀ i, i < H - 1 → W 15 i = nI (f i)) (he : ∀ i, i < H - 1 → e i < 9) (hf : ∀ i, i < H - 1 → f i < 9) (hl : W 9 (H - 1) = W 15 (H - 1))
    (ht : plx e f (H - 1) 0 = true → Q 1 W) (hn : plx e f (H - 1) 0 = false → Q 0 W) : wp_Model_areLess W Q := by
  unfold wp_Model_areLess
  generalize hg : plx e f (H - 1) 0 = g at ht hn
  refine zlp1_r (fun m x W' => W' = W ∧ ∃ h, x = nI h ∧ h ≤ H ∧ m = H - h ∧ plx e f (H - 1 - h) h = g) ?_ (n := H) ⟨rfl, 0, rfl, by omega, rfl, hg⟩
  rintro m x W' ⟨rfl, h, rfl, hh, rfl, ep⟩ J hJ
  unfold wpB_Model_areLess_2
  rw [hH, q_ix (by omega)]
  refine ⟨fun c => ?_, fun c => ?_⟩
  · have := (nI_leI (by omega) (by omega)).mp c
    rw [show H - 1 - h = 0 by omega] at ep
    exact hn ep.symm
  have hh2 : h < H := (nI_ltI (by omega) (by omega)).mp (Int32.not_le.mp c)
  refine ⟨vp_in_nI (by omega) (by omega), vp_in_nI (by omega) (by omega), ?_⟩
  by_cases c2 : h = H - 1
  · rw [c2, hl]
    refine ⟨fun _ y ey => ?_, fun q => absurd rfl q⟩
    rw [ey, nI_1]
    rw [show H - 1 - h = 0 by omega] at ep
    refine hJ 0 _ _ (by omega) ⟨rfl, H - 1 + 1, rfl, by omega, by omega, ?_⟩
    rw [show H - 1 - (H - 1 + 1) = 0 by omega]
    exact ep
  · have hh3 : h < H - 1 := by omega
    rw [show H - 1 - h = (H - 1 - (h + 1)) + 1 by omega] at ep
    unfold plx at ep
    rw [h9 h hh3, h15 h hh3]
    have h1 := he h hh3
    have h2 := hf h hh3
    refine ⟨fun q y ey => ?_, fun q => ?_⟩
    · have q' := (nI_eq (by omega) (by omega)).mp q
      rw [if_pos q'] at ep
      rw [ey, nI_1]
      exact hJ (H - (h + 1)) _ _ (by omega) ⟨rfl, h + 1, rfl, by omega, rfl, ep⟩
    · have q' : ¬ e h = f h := fun z => q (by rw [z])
      rw [if_neg q'] at ep
      dsimp only
      rw [q_ix (by omega), h9 h hh3, h15 h hh3]
      refine ⟨vp_in_nI (by omega) (by omega), vp_in_nI (by omega) (by omega), fun z => ?_, fun z => ?_⟩
      · have z' := (nI_leI (by omega) (by omega)).mp z
        rw [decide_eq_false (by omega)] at ep
        exact hn ep.symm
      · have z' := (nI_ltI (by omega) (by omega)).mp (Int32.not_le.mp z)
        rw [decide_eq_true z'] at ep
        exact ht ep.symm
theorem plx_self {e : Nat → Nat} : ∀ m h, plx e e m h = false := by
  intro m
  induction m with
  | zero => intro h; rfl
  | succ m ih => intro h; unfold plx; rw [if_pos rfl]; exact ih _
theorem pm_inj {n H j k : Nat} (n8 : n ≤ 8) (H1 : 1 ≤ H) (H5 : H ≤ 5) (hn : H ≤ n) (hj : j < pN n H) (hk : k < pN n H) (e : pm n H j = pm n H k) : j = k := by
  rcases Nat.lt_trichotomy j k with z | z | z
  · have := plx_ok n8 H1 H5 hn hj hk
    rw [e, plx_self, decide_eq_true z] at this
    exact absurd this (by decide)
  · exact z
  · have := plx_ok n8 H1 H5 hn hk hj
    rw [e, plx_self, decide_eq_true z] at this
    exact absurd this (by decide)
theorem mt_copyEnds {a1 x2 x3 : Int32} {W : zMem} {K : zMem → Prop} {Q : Int32 → zMem → Prop} (hK : ∀ W', (∀ i, i < 5 → W' 15 i = W 9 i) → (∀ d, d ≠ 15 → W' d = W d) → K W') : ∃ k, zlp1 (wpB_Model_parts_207 a1 x2 x3 K Q) k 0 W := by
  refine zlp1_r (fun m x W' => ∃ h, x = nI h ∧ h ≤ 5 ∧ m = 5 - h ∧ (∀ i, i < h → W' 15 i = W 9 i) ∧ (∀ d, d ≠ 15 → W' d = W d)) ?_ (n := 5) ⟨0, rfl, by omega, rfl, fun i hi => absurd hi (by omega), fun _ _ => rfl⟩
  rintro m x W' ⟨h, rfl, hh, rfl, i1, i2⟩ J hJ
  refine ⟨fun c => ?_, fun c => ?_⟩
  · have := (nI_leI (a := 5) (by omega) (by omega)).mp c
    have e : h = 5 := by omega
    subst e
    exact hK W' i1 i2
  · have hh2 : h < 5 := (nI_ltI (b := 5) (by omega) (by omega)).mp (Int32.not_le.mp c)
    rw [q_ix (by omega)]
    refine ⟨vp_in_nI (by omega) (by omega), vp_in_nI (by omega) (by omega), fun W2 e2 y ey => ?_⟩
    rw [ey, nI_1]
    refine hJ (5 - (h + 1)) _ _ (by omega) ⟨h + 1, rfl, by omega, rfl, fun i hi => ?_, fun d hd => by rw [e2, zup_ne hd]; exact i2 d hd⟩
    rw [e2, zup_eq]
    by_cases z : i = h
    · rw [z, upd_eq, i2 9 (by omega)]
    · rw [upd_ne z]; exact i1 i (by omega)
theorem mt_like {a b : Option (Nat × Nat × Nat × Nat)} {W : zMem} {Q : Int32 → zMem → Prop} (ha : sp_rok a) (hb : sp_rok b) (e31 : W 0 31 = nI (ro_c a)) (e32 : W 0 32 = nI (ro_t a)) (e33 : W 0 33 = nI (ro_c b)) (e34 : W 0 34 = nI (ro_t b)) (hab : pL a b) (h1 : pL b a → Q 1 W) (h0 : ¬ pL b a → Q 0 W) : wp_Model_isLike W Q := by
  obtain ⟨a1, a2, a3, -⟩ := ro_ok ha
  obtain ⟨b1, b2, b3, -⟩ := ro_ok hb
  unfold wp_Model_isLike
  rw [e31, e32, e33, e34, q_l64 (by omega), q_l64 (by omega), q_l64 (by omega), q_l64 (by omega), lN_mul, lN_mul]
  have c1 := ro_cross ha hb
  have c2 := ro_cross hb ha
  have m1 : ro_c a * ro_t b < 9223372036854775808 := mul_b (A := 480000) (B := 480000) (by omega) (by omega) (by decide)
  have m2 : ro_c b * ro_t a < 9223372036854775808 := mul_b (A := 480000) (B := 480000) (by omega) (by omega) (by decide)
  have key : lg_cmp (lN (ro_c a * ro_t b)) (lN (ro_c b * ro_t a)) = 0 ↔ ro_c a * ro_t b = ro_c b * ro_t a := by
    have l1 := lg_cmp_lt0 (lN (ro_c a * ro_t b)) (lN (ro_c b * ro_t a))
    have l2 := lg_cmp_0lt (lN (ro_c a * ro_t b)) (lN (ro_c b * ro_t a))
    rw [pk_lLT m1 m2] at l1
    rw [pk_lLT m2 m1] at l2
    generalize lg_cmp (lN (ro_c a * ro_t b)) (lN (ro_c b * ro_t a)) = g at l1 l2
    refine ⟨fun q => ?_, fun q => ?_⟩
    · subst q
      have n1 : ¬ ro_c a * ro_t b < ro_c b * ro_t a := by rw [← l1]; decide
      have n2 : ¬ ro_c b * ro_t a < ro_c a * ro_t b := by rw [← l2]; decide
      omega
    · have n1 : ¬ g < 0 := by rw [l1]; omega
      have n2 : ¬ 0 < g := by rw [l2]; omega
      exact Int32.le_antisymm (Int32.not_lt.mp n2) (Int32.not_lt.mp n1)
  have hab' : ¬ ro_c b * ro_t a < ro_c a * ro_t b := fun z => absurd hab (Nat.not_le.mpr (c1.mp z))
  refine ⟨fun q => h0 (fun z => q (key.mpr ?_)), fun q => h1 ?_⟩
  · have : ¬ ro_c a * ro_t b < ro_c b * ro_t a := fun y => absurd z (Nat.not_le.mpr (c2.mp y))
    omega
  · have q' := key.mp q
    unfold pL
    refine Nat.not_lt.mp (fun y => ?_)
    have := c2.mpr y
    omega
