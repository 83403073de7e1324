theorem ms_c_of {W W' : zMem} {h k : Nat} (e : W' 6 = W 6) : ms_c W' h k = ms_c W h k := by unfold ms_c; rw [e]
theorem ms_l_of {W W' : zMem} {w p : Nat} (e : W' 6 = W 6) (e4 : W' 4 = W 4) : ms_l W' w p = ms_l W w p := by unfold ms_l; rw [e, e4]
/-- what the reference writes down -/
theorem mt_laySeen {r H : Nat} {wh : Nat → Nat} {W : zMem} {Q : zMem → Prop} (hr : r < 120) (hs : W 0 28 = nI r) (hH : W 0 18 = nI H) (H5 : H ≤ 5) (hw : ∀ h, h < H → wh h < 5 ∧ W 8 h = nI (wh h))
    (hQ : ∀ W', (∀ h k, h < H → k < 5 → W' 12 (80 * r + (5 * h + k)) = ms_c W h k) → (∀ h p, h < H → p < 8 → W' 12 (80 * r + (30 + 8 * h + p)) = ms_l W (wh h) p) → W' 12 (80 * r + 25) = W 6 100 → (∀ j, (j < 80 * r ∨ (80 * r + 5 * H ≤ j ∧ j < 80 * r + 25) ∨ (80 * r + 26 ≤ j ∧ j < 80 * r + 30) ∨ 80 * r + 80 ≤ j) → W' 12 j = W 12 j) → W' 13 = upd (W 13) r (W 6 97) → W' 14 = upd (W 14) r (W 6 96) → W' 0 = upd (W 0) 28 (nI (r + 1)) → (∀ c, c ≠ 0 → c ≠ 12 → c ≠ 13 → c ≠ 14 → W' c = W c) → Q W') : wp_Model_laySeen W Q := by
  unfold wp_Model_laySeen
  intro x0 hx0
  have ex : x0 = nI (80 * r) := by rw [hx0, hs]; simp only [q_lit, q_mul]
  subst ex
  refine zlp1_r (fun m x W1 => ∃ h, x = nI h ∧ h ≤ H ∧ m = H - h ∧ (∀ j k, j < h → k < 5 → W1 12 (80 * r + (5 * j + k)) = ms_c W j k) ∧ (∀ j p, j < h → p < 8 → W1 12 (80 * r + (30 + 8 * j + p)) = ms_l W (wh j) p) ∧ (∀ j, (j < 80 * r ∨ (80 * r + 5 * H ≤ j ∧ j < 80 * r + 30) ∨ 80 * r + 80 ≤ j) → W1 12 j = W 12 j) ∧ (∀ c, c ≠ 12 → W1 c = W c)) ?_ (n := H) ⟨0, rfl, by omega, rfl, fun j k hj => absurd hj (by omega), fun j p hj => absurd hj (by omega), fun _ _ => rfl, fun _ _ => rfl⟩
  rintro m x W1 ⟨h, rfl, hh, rfl, a1, a2, a3, a4⟩ J hJ
  have x6 : W1 6 = W 6 := a4 6 (by omega)
  have x4 : W1 4 = W 4 := a4 4 (by omega)
  unfold wpB_Model_laySeen_10
  rw [a4 0 (by omega), hH]
  refine ⟨fun q => ?_, fun q => ?_⟩
  · have q' := (nI_leI (a := H) (b := h) (by omega) (by omega)).mp q
    have e : h = H := by omega
    subst e
    show wp_Model_of (nI 1) (nI 4) W1 _
    have e25 : nI (80 * r) + 25 = nI (80 * r + 25) := by simp only [q_lit, q_add]
    rw [e_of (by omega) (by omega), e25, q_ix (by omega), x6]
    refine ⟨vp_in_nI (by omega) (by omega), fun W2 e2 => ?_⟩
    have y0 : W2 0 = W 0 := by rw [e2, zup_ne (by omega)]; exact a4 0 (by omega)
    have y6 : W2 6 = W 6 := by rw [e2, zup_ne (by omega)]; exact x6
    show wp_Model_of (nI 1) (nI 1) W2 _
    rw [e_of (by omega) (by omega), y0, hs, q_ix (by omega), y6]
    refine ⟨vp_in_nI hr (by omega), fun W3 e3 => ?_⟩
    have z0 : W3 0 = W 0 := by rw [e3, zup_ne (by omega)]; exact y0
    have z6 : W3 6 = W 6 := by rw [e3, zup_ne (by omega)]; exact y6
    show wp_Model_of (nI 1) (nI 0) W3 _
    rw [e_of (by omega) (by omega), z0, hs, q_ix (by omega), z6]
    refine ⟨vp_in_nI hr (by omega), fun W4 e4 W5 e5 => ?_⟩
    have w0 : W4 0 = W 0 := by rw [e4, zup_ne (by omega)]; exact z0
    rw [w0, hs, nI_1] at e5
    have v12 : W5 12 = upd (W1 12) (80 * r + 25) (W 6 (96 * 1 + 4)) := by
      rw [e5, zup_ne (by omega), e4, zup_ne (by omega), e3, zup_ne (by omega), e2, zup_eq]
    refine hQ W5 (fun j k j1 k1 => ?_) (fun j p j1 p1 => ?_) ?_ (fun j hj => ?_) ?_ ?_ ?_ (fun c c0 c12 c13 c14 => ?_)
    · rw [v12, upd_ne (by omega)]; exact a1 j k j1 k1
    · rw [v12, upd_ne (by omega)]; exact a2 j p j1 p1
    · rw [v12, upd_eq]
    · rw [v12, upd_ne (by omega)]; exact a3 j (by omega)
    · rw [e5, zup_ne (by omega), e4, zup_ne (by omega), e3, zup_eq, e2, zup_ne (by omega), a4 13 (by omega)]
    · rw [e5, zup_ne (by omega), e4, zup_eq, e3, zup_ne (by omega), e2, zup_ne (by omega), a4 14 (by omega)]
    · rw [e5, zup_eq, w0]
    · rw [e5, zup_ne c0, e4, zup_ne c14, e3, zup_ne c13, e2, zup_ne c12]; exact a4 c c12
  · have q1 : h < H := Nat.lt_of_not_le (fun z => q (nI_le z (by omega)))
    obtain ⟨w5, ew⟩ := hw h q1
    refine mt_lay20 hr (by omega) (fun W2 b1 b2 b3 => ?_)
    have y6 : W2 6 = W 6 := (b3 6 (by omega)).trans x6
    have y4 : W2 4 = W 4 := (b3 4 (by omega)).trans x4
    refine mt_lay95 (w := wh h) hr (by omega) w5 (by rw [b3 8 (by omega), a4 8 (by omega)]; exact ew) (fun W3 c1 c2 c3 y hy => ?_)
    rw [hy, nI_1]
    refine hJ (H - (h + 1)) _ _ (by omega) ⟨h + 1, rfl, by omega, rfl, fun j k j1 k1 => ?_, fun j p j1 p1 => ?_, fun j hj => ?_, fun c hc => ?_⟩
    · rw [c2 _ (by omega)]
      by_cases e : j = h
      · rw [e, b1 k k1]; exact ms_c_of x6
      · rw [b2 _ (by omega)]; exact a1 j k (by omega) k1
    · by_cases e : j = h
      · rw [e, c1 p p1]; exact ms_l_of y6 y4
      · rw [c2 _ (by omega), b2 _ (by omega)]; exact a2 j p (by omega) p1
    · rw [c2 _ (by omega), b2 _ (by omega)]; exact a3 j hj
    · rw [c3 c hc, b3 c hc]; exact a4 c hc
