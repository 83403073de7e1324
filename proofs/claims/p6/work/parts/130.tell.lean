theorem xt_tf26 {k p : Nat} {K Q : zMem → Prop} {M : zMem} (hp : p < 8) (hK : ∀ M', (∀ s, s < 3 → M' (k + 2) (s * 8 + p) = 2) → (∀ j, (∀ s, s < 3 → j ≠ s * 8 + p) → M' (k + 2) j = M (k + 2) j) → (∀ d, d ≠ k + 2 → M' d = M d) → K M') : ∃ n, zlp1 (wpB_Told_tellAsAtFirst_26 k (nI p) K Q) n 0 M := by
  refine zlp1_r (fun m x M' => ∃ j, x = nI j ∧ j ≤ 3 ∧ m = 3 - j ∧ (∀ s, s < j → M' (k + 2) (s * 8 + p) = 2) ∧ (∀ i, (∀ s, s < 3 → i ≠ s * 8 + p) → M' (k + 2) i = M (k + 2) i) ∧ (∀ d, d ≠ k + 2 → M' d = M d)) ?_ (n := 3) ⟨0, rfl, by omega, rfl, fun s h => absurd h (by omega), fun _ _ => rfl, fun _ _ => rfl⟩
  rintro m x M' ⟨j, rfl, hj, rfl, i1, i2, i3⟩ J hJ
  unfold wpB_Told_tellAsAtFirst_26
  refine ⟨fun c => ?_, fun c => ?_⟩
  · have := (nI_leI (a := 3) (by omega) (by omega)).mp c
    have e : j = 3 := by omega
    subst e
    exact hK M' i1 i2 i3
  · have hj2 : j < 3 := (nI_ltI (b := 3) (by omega) (by omega)).mp (Int32.not_le.mp c)
    have e8 : nI j * 8 + nI p = nI (j * 8 + p) := by rw [show (8 : Int32) = nI 8 from rfl, q_mul, q_add]
    rw [e8, q_ix (by omega)]
    refine ⟨vp_in_nI (by omega) (by omega), fun M2 e2 y ey => ?_⟩
    rw [ey, nI_1]
    refine hJ (3 - (j + 1)) _ _ (by omega) ⟨j + 1, rfl, by omega, rfl, fun s hs => ?_, fun i hi => ?_, fun d hd => by rw [e2, zup_ne hd]; exact i3 d hd⟩
    · rw [e2, zup_eq]
      by_cases z : s = j
      · rw [z, upd_eq]
      · rw [upd_ne (by omega)]; exact i1 s (by omega)
    · rw [e2, zup_eq, upd_ne (hi j hj2)]; exact i2 i hi
theorem xt_tf51 {k p H : Nat} {K Q : zMem → Prop} {M : zMem} (hp : p < 8) (hH : M k 1 = nI H) (H5 : H ≤ 3) (hK : ∀ M', (∀ s, s < H → M' (k + 3) (s * 8 + p) = nI (3 - s)) → (∀ j, (∀ s, s < H → j ≠ s * 8 + p) → M' (k + 3) j = M (k + 3) j) → (∀ d, d ≠ k + 3 → M' d = M d) → K M') : ∃ n, zlp1 (wpB_Told_tellAsAtFirst_51 k (nI p) K Q) n 0 M := by
  refine zlp1_r (fun m x M' => ∃ j, x = nI j ∧ j ≤ H ∧ m = H - j ∧ (∀ s, s < j → M' (k + 3) (s * 8 + p) = nI (3 - s)) ∧ (∀ i, (∀ s, s < H → i ≠ s * 8 + p) → M' (k + 3) i = M (k + 3) i) ∧ (∀ d, d ≠ k + 3 → M' d = M d)) ?_ (n := H) ⟨0, rfl, by omega, rfl, fun s h => absurd h (by omega), fun _ _ => rfl, fun _ _ => rfl⟩
  rintro m x M' ⟨j, rfl, hj, rfl, i1, i2, i3⟩ J hJ
  unfold wpB_Told_tellAsAtFirst_51
  rw [i3 k (by omega), hH]
  refine ⟨fun c => ?_, fun c => ?_⟩
  · have := (nI_leI (by omega) (by omega)).mp c
    have e : j = H := by omega
    subst e
    exact hK M' i1 i2 i3
  · have hj2 : j < H := (nI_ltI (by omega) (by omega)).mp (Int32.not_le.mp c)
    have e8 : nI j * 8 + nI p = nI (j * 8 + p) := by rw [show (8 : Int32) = nI 8 from rfl, q_mul, q_add]
    have e3 : (3 : Int32) - nI j = nI (3 - j) := by rw [show (3 : Int32) = nI 3 from rfl, q_sub (by omega)]
    rw [e8, q_ix (by omega), e3]
    refine ⟨vp_in_nI (by omega) (by omega), fun M2 e2 y ey => ?_⟩
    rw [ey, nI_1]
    refine hJ (H - (j + 1)) _ _ (by omega) ⟨j + 1, rfl, by omega, rfl, fun s hs => ?_, fun i hi => ?_, fun d hd => by rw [e2, zup_ne hd]; exact i3 d hd⟩
    · rw [e2, zup_eq]
      by_cases z : s = j
      · rw [z, upd_eq]
      · rw [upd_ne (by omega)]; exact i1 s (by omega)
    · rw [e2, zup_eq, upd_ne (hi j hj2)]; exact i2 i hi
/-- the rule as at first -/
def tf (k : Nat) (M M' : zMem) : Prop :=
  M' k 0 = 3 ∧ M' k 1 = 3 ∧ M' k 2 = 0 ∧ M' k 3 = 0 ∧ M' k 4 = 0 ∧ M' k 5 = 0 ∧ M' k 6 = 1 ∧ M' (k + 1) 0 = 0 ∧ (∀ s p, s < 3 → p < 3 → M' (k + 2) (s * 8 + p) = 2) ∧ (∀ h p, h < 3 → p < 3 → M' (k + 3) (h * 8 + p) = nI (3 - h)) ∧ (∀ h, h < 3 → M' (k + 4) h = 3) ∧ (∀ d, (d < k ∨ k + 5 ≤ d) → M' d = M d)
theorem xt_tell {k : Nat} {M : zMem} {Q : zMem → Prop} (hQ : ∀ M', tf k M M' → Q M') : wp_Told_tellAsAtFirst k M Q := by
  unfold wp_Told_tellAsAtFirst wp_Told_clear
  intro z1 e1 z2 e2 z3 e3 z4 e4 z5 e5 z6 e6 z7 e7
  refine ⟨vp_in_nI (n := 0) (by omega) (by omega), fun z8 e8 z9 e9 za ea => ?_⟩
  have hk : za k 0 = 3 ∧ za k 1 = 3 ∧ za k 2 = 0 ∧ za k 3 = 0 ∧ za k 4 = 0 ∧ za k 5 = 0 ∧ za k 6 = 1 := by
    have e8' : z8 k = z7 k := by rw [e8, zup_ne (by omega)]
    refine ⟨?_, ?_, ?_, ?_, ?_, ?_, ?_⟩ <;> (rw [ea, zup_eq]; simp [upd, e9, e8', e7, e6, e5, e4, e3, e2, e1, zup_eq])
  have hk1 : za (k + 1) 0 = 0 := by
    rw [ea, zup_ne (by omega), e9, zup_ne (by omega), e8, zup_eq]
    exact upd_eq
  have hd : ∀ d, (d < k ∨ k + 5 ≤ d) → za d = M d := fun d h => by
    rw [ea, zup_ne (by omega), e9, zup_ne (by omega), e8, zup_ne (by omega), e7, zup_ne (by omega), e6, zup_ne (by omega), e5, zup_ne (by omega), e4, zup_ne (by omega), e3, zup_ne (by omega), e2, zup_ne (by omega), e1, zup_ne (by omega)]
  refine zlp1_r (fun m x M' => ∃ j, x = nI j ∧ j ≤ 3 ∧ m = 3 - j ∧ M' k = za k ∧ M' (k + 1) = za (k + 1) ∧ (∀ s p, s < 3 → p < j → M' (k + 2) (s * 8 + p) = 2) ∧ (∀ h p, h < 3 → p < j → M' (k + 3) (h * 8 + p) = nI (3 - h)) ∧ (∀ d, (d < k ∨ k + 5 ≤ d) → M' d = M d)) ?_ (n := 3) ⟨0, rfl, by omega, rfl, rfl, rfl, fun s p _ h => absurd h (by omega), fun s p _ h => absurd h (by omega), hd⟩
  rintro m x M' ⟨j, rfl, hj, rfl, i1, i2, i3, i4, i5⟩ J hJ
  unfold wpB_Told_tellAsAtFirst_16
  rw [i1, hk.1]
  refine ⟨fun c => ?_, fun c => ?_⟩
  · have := (nI_leI (a := 3) (by omega) (by omega)).mp c
    have e : j = 3 := by omega
    subst e
    refine xt_fillEnds (n := 3) (H := 3) (by rw [i1]; exact hk.1) (by rw [i1]; exact hk.2.1) (by omega) (fun M2 a1 a2 a3 => ?_)
    obtain ⟨h0, h1, h2, h3, h4, h5, h6⟩ := hk
    have e0 : M2 k = za k := by rw [a3 k (by omega), i1]
    refine hQ M2 ⟨by rw [e0]; exact h0, by rw [e0]; exact h1, by rw [e0]; exact h2, by rw [e0]; exact h3, by rw [e0]; exact h4, by rw [e0]; exact h5, by rw [e0]; exact h6, by rw [a3 (k + 1) (by omega), i2]; exact hk1, fun s p hs hp => by rw [a3 (k + 2) (by omega)]; exact i3 s p hs hp, fun s p hs hp => by rw [a3 (k + 3) (by omega)]; exact i4 s p hs hp, fun h hh => by rw [a1 h hh, if_pos (Or.inl (by rw [i1]; exact h4))]; rfl, fun d hd => by rw [a3 d (by omega)]; exact i5 d hd⟩
  · have hj2 : j < 3 := (nI_ltI (b := 3) (by omega) (by omega)).mp (Int32.not_le.mp c)
    refine xt_tf26 (by omega) (fun M2 a1 a2 a3 => ?_)
    refine xt_tf51 (H := 3) (by omega) (by rw [a3 k (by omega), i1]; exact hk.2.1) (by omega) (fun M3 b1 b2 b3 => ?_)
    intro y ey
    rw [ey, nI_1]
    refine hJ (3 - (j + 1)) _ _ (by omega) ⟨j + 1, rfl, by omega, rfl, by rw [b3 k (by omega), a3 k (by omega), i1], by rw [b3 (k + 1) (by omega), a3 (k + 1) (by omega), i2], fun s p hs hp => ?_, fun s p hs hp => ?_, fun d hd => by rw [b3 d (by omega), a3 d (by omega)]; exact i5 d hd⟩
    · rw [b3 (k + 2) (by omega)]
      by_cases z : p = j
      · rw [z]; exact a1 s hs
      · rw [a2 _ (fun s' hs' => by omega)]; exact i3 s p hs (by omega)
    · by_cases z : p = j
      · rw [z]; exact b1 s hs
      · rw [b2 _ (fun s' hs' => by omega), a3 (k + 3) (by omega)]; exact i4 s p hs (by omega)
/-- the state in which the law meets its first call -/
def fsh (M W : zMem) : Prop := W = zW0 ∧ sp_vt M 1 3 3 1 ∧ rt0 W M 3 3 1 ∧ (∀ c, (c = 0 ∨ 6 ≤ c ∧ c < 18 ∨ 27 ≤ c) → M c = zM0 c) ∧ M 1 2 = 0 ∧ M 1 3 = 0 ∧ M 1 4 = 0 ∧ M 1 5 = 0 ∧ (∃ M0 Mc, sp_clear 18 M0 Mc ∧ sp_ok Mc 1 18 3 3 1 ∧ M = sp_all 1 18 3 Mc)
theorem tf_vt {M M' : zMem} (h : tf 1 M M') : sp_vt M' 1 3 3 1 := by
  obtain ⟨h0, h1, h2, h3, h4, h5, h6, h7, hu, hc, he, -⟩ := h
  refine ⟨by omega, h0, h1, h6, ⟨0, by omega, h2⟩, ⟨0, by omega, h3⟩, ⟨0, by omega, h4⟩, ⟨0, by omega, h5⟩, fun i hi => ⟨0, by omega, by rw [show i = 0 by omega]; exact h7⟩, fun s p hs hp => ⟨2, by omega, hu s p hs hp⟩, fun s hs => ?_, fun h p hh hp => ⟨3 - h, by omega, by omega, hc h p hh hp⟩, fun h hh => ⟨3, by omega, he h hh⟩, he 2 (by omega), fun _ h hh => he h hh⟩
  have := hu s 0 hs (by omega)
  have e : M' 3 (s * 8) = 2 := this
  unfold sp_pf
  simp [e]
theorem tf_rt {M M' : zMem} (h : tf 1 M M') : rt0 zW0 M' 3 3 1 := by
  obtain ⟨h0, h1, h2, h3, h4, h5, h6, h7, hu, hc, he, -⟩ := h
  refine ⟨rfl, rfl, by rw [h2]; rfl, by rw [h3]; rfl, by rw [h4]; rfl, by rw [h5]; rfl, rfl, fun i hi => by rw [show i = 0 by omega, h7]; rfl, fun s p hs hp => ?_, fun h p hh hp => ?_, fun h hh => ?_⟩
  · rw [hu s p hs hp]
    rcases (show s = 0 ∨ s = 1 ∨ s = 2 by omega) with rfl | rfl | rfl <;> rcases (show p = 0 ∨ p = 1 ∨ p = 2 by omega) with rfl | rfl | rfl <;> rfl
  · rw [hc h p hh hp]
    rcases (show h = 0 ∨ h = 1 ∨ h = 2 by omega) with rfl | rfl | rfl <;> rcases (show p = 0 ∨ p = 1 ∨ p = 2 by omega) with rfl | rfl | rfl <;> rfl
  · rw [he h hh, if_pos (Or.inr h4)]; rfl
