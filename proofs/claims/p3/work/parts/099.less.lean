theorem rng_0 {a : Int32} {H : Nat} (hH : H < 2147483648) : (¬ a < 0 ∧ ¬ nI H ≤ a) ↔ ∃ h, h < H ∧ a = nI h := by
  refine ⟨fun ⟨h1, h2⟩ => ?_, fun ⟨h, h1, h2⟩ => ?_⟩
  · obtain ⟨j, hj, rfl⟩ := nI_of h1
    exact ⟨j, (nI_ltI (by omega) (by omega)).mp (Int32.not_le.mp h2), rfl⟩
  · subst h2
    exact ⟨nI_pos (by omega), by rw [Int32.not_le]; exact nI_lt h1 (by omega)⟩
theorem rng_1 {a : Int32} {H : Nat} (h0 : 0 < H) (hH : H < 2147483648) : (0 ≤ a ∧ a ≤ nI H - 1) ↔ ∃ h, h < H ∧ a = nI h := by
  rw [← rng_0 hH, q_pred h0, ← Int32.not_lt]
  refine ⟨fun ⟨h1, h2⟩ => ⟨h1, ?_⟩, fun ⟨h1, h2⟩ => ⟨h1, ?_⟩⟩
  · obtain ⟨j, hj, rfl⟩ := nI_of h1
    have := (nI_leI (by omega) (by omega)).mp h2
    rw [Int32.not_le]; exact nI_lt (by omega) (by omega)
  · obtain ⟨j, hj, rfl⟩ := nI_of h1
    have := (nI_ltI (by omega) (by omega)).mp (Int32.not_le.mp h2)
    exact nI_le (by omega) (by omega)
theorem xt_isHand {a : Int32} {H : Nat} {M : zMem} {Q : Int32 → zMem → Prop} (hH : M 1 1 = nI H) (hb : H < 2147483648) (ht : ∀ h, h < H → a = nI h → Q 1 M) (hf : (¬ ∃ h, h < H ∧ a = nI h) → Q 0 M) : wp_Main_isHand a M Q := by
  unfold wp_Main_isHand
  rw [hH]
  refine ⟨fun c => hf (fun q => ((rng_0 hb).mpr q).1 c), fun c => ⟨fun c2 => hf (fun q => ((rng_0 hb).mpr q).2 c2), fun c2 => ?_⟩⟩
  obtain ⟨h, h1, h2⟩ := (rng_0 hb).mp ⟨c, c2⟩
  exact ht h h1 h2
theorem xt_isPiece {a : Int32} {n : Nat} {M : zMem} {Q : Int32 → zMem → Prop} (hn : M 1 0 = nI n) (hb : n < 2147483648) (ht : ∀ h, h < n → a = nI h → Q 1 M) (hf : (¬ ∃ h, h < n ∧ a = nI h) → Q 0 M) : wp_Main_isPiece a M Q := by
  unfold wp_Main_isPiece
  rw [hn]
  refine ⟨fun c => hf (fun q => ((rng_0 hb).mpr q).1 c), fun c => ⟨fun c2 => hf (fun q => ((rng_0 hb).mpr q).2 c2), fun c2 => ?_⟩⟩
  obtain ⟨h, h1, h2⟩ := (rng_0 hb).mp ⟨c, c2⟩
  exact ht h h1 h2
theorem mt_isHand {a : Int32} {H : Nat} {W : zMem} {Q : Int32 → zMem → Prop} (hH : W 4 1 = nI H) (h0 : 0 < H) (hb : H < 2147483648) (ht : ∀ h, h < H → a = nI h → Q 1 W) (hf : (¬ ∃ h, h < H ∧ a = nI h) → Q 0 W) : wp_Model_isHand a W Q := by
  unfold wp_Model_isHand
  refine ⟨vp_in_nI (n := 1) (by omega) (by omega), mt_in (lo' := 0) (hi' := W 4 (ix 1) - 1) (by decide) rfl (fun c1 c2 => ⟨zbo_1, ?_⟩) (fun c => ⟨zbo_0, hf (fun q => c ?_)⟩)⟩
  · rw [show ix 1 = 1 from rfl, hH] at c2
    obtain ⟨h, h1, h2⟩ := (rng_1 h0 hb).mp ⟨c1, c2⟩
    exact ht h h1 h2
  · rw [show ix 1 = 1 from rfl, hH]
    exact (rng_1 h0 hb).mpr q
theorem mt_isPiece {a : Int32} {n : Nat} {W : zMem} {Q : Int32 → zMem → Prop} (hn : W 4 0 = nI n) (h0 : 0 < n) (hb : n < 2147483648) (ht : ∀ h, h < n → a = nI h → Q 1 W) (hf : (¬ ∃ h, h < n ∧ a = nI h) → Q 0 W) : wp_Model_isPiece a W Q := by
  unfold wp_Model_isPiece
  refine ⟨vp_in_nI (n := 0) (by omega) (by omega), mt_in (lo' := 0) (hi' := W 4 (ix 0) - 1) (by decide) rfl (fun c1 c2 => ⟨zbo_1, ?_⟩) (fun c => ⟨zbo_0, hf (fun q => c ?_)⟩)⟩
  · rw [show ix 0 = 0 from rfl, hn] at c2
    obtain ⟨h, h1, h2⟩ := (rng_1 h0 hb).mp ⟨c1, c2⟩
    exact ht h h1 h2
  · rw [show ix 0 = 0 from rfl, hn]
    exact (rng_1 h0 hb).mpr q
/-- one hand fewer: who was at a place -/
def shf (a i : Nat) : Nat := if i < a then i else i + 1
theorem xt_dropHand {k n H a : Nat} {M : zMem} {Q : zMem → Prop} (hn : M k 0 = nI n) (hH : M k 1 = nI H) (H2 : 2 ≤ H) (H5 : H ≤ 5) (ha : a < H)
    (hQ : ∀ M', M' k 1 = nI (H - 1) → (∀ j, j ≠ 1 → M' k j = M k j) → (∀ i p, i < H - 1 → p < 8 → M' (k + 3) (i * 8 + p) = M (k + 3) (shf a i * 8 + p)) → (∀ i, i < H - 1 → M' (k + 4) i = if M k 4 = 0 ∨ i = H - 2 then nI n else M (k + 4) (shf a i)) → (∀ d, d ≠ k → d ≠ k + 3 → d ≠ k + 4 → M' d = M d) → Q M') : wp_Told_dropHand k (nI a) M Q := by
  unfold wp_Told_dropHand
  refine zlp1_r (fun m x M' => ∃ j, x = nI j ∧ a ≤ j ∧ j ≤ H - 1 ∧ m = H - 1 - j ∧ (∀ i p, i < j → p < 8 → M' (k + 3) (i * 8 + p) = M (k + 3) (shf a i * 8 + p)) ∧ (∀ i, j * 8 ≤ i → M' (k + 3) i = M (k + 3) i) ∧ (∀ i, i < j → M' (k + 4) i = M (k + 4) (shf a i)) ∧ (∀ i, j ≤ i → M' (k + 4) i = M (k + 4) i) ∧ (∀ d, d ≠ k + 3 → d ≠ k + 4 → M' d = M d)) ?_ (n := H - 1 - a) ⟨a, rfl, Nat.le_refl _, by omega, rfl, fun i p hi hp => by unfold shf; rw [if_pos hi], fun _ _ => rfl, fun i hi => by unfold shf; rw [if_pos hi], fun _ _ => rfl, fun _ _ _ => rfl⟩
  rintro m x M' ⟨j, rfl, ja, jH, rfl, i1, i2, i3, i4, i5⟩ J hJ
  unfold wpB_Told_dropHand_2
  have fk : M' k = M k := i5 k (by omega) (by omega)
  rw [fk, hH, q_pred (by omega)]
  refine ⟨fun c M1 e1 => ?_, fun c => ?_⟩
  · have := (nI_leI (by omega) (by omega)).mp c
    have ej : j = H - 1 := by omega
    subst ej
    have g0 : M1 k 0 = nI n := by rw [e1, zup_eq, upd_ne (by omega), fk]; exact hn
    have g1 : M1 k 1 = nI (H - 1) := by rw [e1, zup_eq, upd_eq]
    have g4 : M1 k 4 = M k 4 := by rw [e1, zup_eq, upd_ne (by omega), fk]
    have gd : ∀ d, d ≠ k → M1 d = M' d := fun d hd => by rw [e1, zup_ne hd]
    refine xt_fillEnds g0 g1 (by omega) (fun M2 a1 a2 a3 => hQ M2 ?_ (fun q hq => ?_) (fun i p hi hp => ?_) (fun i hi => ?_) (fun d d1 d2 d3 => ?_))
    · rw [a3 k (by omega)]; exact g1
    · rw [a3 k (by omega), e1, zup_eq, upd_ne hq, fk]
    · rw [a3 _ (by omega), gd _ (by omega)]; exact i1 i p hi hp
    · rw [a1 i hi, g4, gd _ (by omega), i3 i hi]
      rfl
    · rw [a3 d d3, gd d d1, i5 d d2 d3]
  · have hj : j < H - 1 := (nI_ltI (by omega) (by omega)).mp (Int32.not_le.mp c)
    rw [nI_1]
    refine xt_copyPaces (by omega) (by omega) (fun M1 b1 b2 b3 => ⟨vp_in_nI (by omega) (by omega), vp_in_nI (by omega) (by omega), fun M2 e2 y ey => ?_⟩)
    rw [ey]
    rw [q_ix (by omega), q_ix (by omega)] at e2
    have sj : shf a j = j + 1 := by unfold shf; rw [if_neg (by omega)]
    refine hJ (H - 1 - (j + 1)) _ _ (by omega) ⟨j + 1, rfl, by omega, by omega, rfl, fun i p hi hp => ?_, fun i hi => ?_, fun i hi => ?_, fun i hi => ?_, fun d d1 d2 => ?_⟩
    · rw [e2, zup_ne (by omega)]
      by_cases q : i = j
      · rw [q, b1 p hp, i2 _ (by omega), sj]
      · rw [b2 _ (by omega)]; exact i1 i p (by omega) hp
    · rw [e2, zup_ne (by omega), b2 _ (by omega)]; exact i2 i (by omega)
    · rw [e2, zup_eq]
      by_cases q : i = j
      · rw [q, upd_eq, b3 _ (by omega), i4 _ (by omega), sj]
      · rw [upd_ne q, b3 _ (by omega)]; exact i3 i (by omega)
    · rw [e2, zup_eq, upd_ne (by omega), b3 _ (by omega)]; exact i4 i (by omega)
    · rw [e2, zup_ne d2, b3 d d1, i5 d d1 d2]
/-- one hand fewer is told well -/
theorem sp_vt_drop {k n H L a : Nat} {M M' : zMem} (vt : sp_vt M k n H L) (H2 : 2 ≤ H) (ha : a < H) (e1 : M' k 1 = nI (H - 1)) (e0 : ∀ j, j ≠ 1 → M' k j = M k j) (e3 : ∀ i p, i < H - 1 → p < 8 → M' (k + 3) (i * 8 + p) = M (k + 3) (shf a i * 8 + p)) (e4 : ∀ i, i < H - 1 → M' (k + 4) i = if M k 4 = 0 ∨ i = H - 2 then nI n else M (k + 4) (shf a i)) (ed : ∀ d, d ≠ k → d ≠ k + 3 → d ≠ k + 4 → M' d = M d) : sp_vt M' k n (H - 1) L := by
  obtain ⟨⟨n1, n8, H1, H5, L1, L6⟩, hn, hH, hL, hw, hl, hk, hwh, hrow, hun, hpf, hpa, hen, hel, hek⟩ := vt
  have sh : ∀ i, i < H - 1 → shf a i < H := fun i hi => by unfold shf; split <;> omega
  refine ⟨⟨n1, n8, by omega, by omega, L1, L6⟩, by rw [e0 0 (by omega)]; exact hn, e1, by rw [e0 6 (by omega)]; exact hL, by rw [e0 2 (by omega)]; exact hw, by rw [e0 3 (by omega)]; exact hl, by rw [e0 4 (by omega)]; exact hk, by rw [e0 5 (by omega)]; exact hwh, by rw [ed (k + 1) (by omega) (by omega) (by omega)]; exact hrow, by rw [ed (k + 2) (by omega) (by omega) (by omega)]; exact hun, by rw [ed (k + 2) (by omega) (by omega) (by omega)]; exact hpf, fun h p hh hp => by rw [e3 h p hh (by omega)]; exact hpa _ p (sh h hh) hp, fun h hh => ?_, ?_, fun z h hh => ?_⟩
  · rw [e4 h hh]
    split
    · exact ⟨n, Nat.le_refl _, rfl⟩
    · exact hen _ (sh h hh)
  · rw [e4 _ (by omega), if_pos (Or.inr (by omega))]
  · rw [e4 h hh, if_pos (Or.inl (by rw [← e0 4 (by omega)]; exact z))]
/-- one hand fewer, the reference's side: who stands where -/
theorem mt_less49 {a1 a2 : Int32} {a H : Nat} {K : zMem → Prop} {Q : Int32 → zMem → Prop} {W : zMem} (H2 : 2 ≤ H) (H5 : H ≤ 5) (ha : a < H) (h18 : W 0 18 = nI (H - 1))
    (hK : ∀ W', (∀ i, i < H - 1 → W' 8 i = W 8 (shf a i) ∧ W' 9 i = W 9 (shf a i)) → (∀ d, d ≠ 8 → d ≠ 9 → W' d = W d) → K W') : ∃ n, zlp1 (wpB_Model_less_49 a1 a2 K Q) n (nI a) W := by
  refine zlp1_r (fun m x W' => ∃ j, x = nI j ∧ a ≤ j ∧ j ≤ H - 1 ∧ m = H - 1 - j ∧ (∀ i, i < j → W' 8 i = W 8 (shf a i) ∧ W' 9 i = W 9 (shf a i)) ∧ (∀ i, j ≤ i → W' 8 i = W 8 i ∧ W' 9 i = W 9 i) ∧ (∀ d, d ≠ 8 → d ≠ 9 → W' d = W d)) ?_ (n := H - 1 - a) ⟨a, rfl, Nat.le_refl _, by omega, rfl, fun i hi => by unfold shf; rw [if_pos hi]; exact ⟨rfl, rfl⟩, fun _ _ => ⟨rfl, rfl⟩, fun _ _ _ => rfl⟩
  rintro m x W' ⟨j, rfl, ja, jH, rfl, i1, i2, i3⟩ J hJ
  unfold wpB_Model_less_49
  rw [i3 0 (by omega) (by omega), h18]
  refine ⟨fun c => ?_, fun c => ?_⟩
  · have := (nI_leI (by omega) (by omega)).mp c
    have ej : j = H - 1 := by omega
    subst ej
    exact hK W' i1 i3
  · have hj : j < H - 1 := (nI_ltI (by omega) (by omega)).mp (Int32.not_le.mp c)
    have sj : shf a j = j + 1 := by unfold shf; rw [if_neg (by omega)]
    rw [nI_1, q_ix (by omega), q_ix (by omega)]
    refine ⟨vp_in_nI (by omega) (by omega), vp_in_nI (by omega) (by omega), fun W1 e1 => ⟨vp_in_nI (by omega) (by omega), vp_in_nI (by omega) (by omega), fun W2 e2 y ey => ?_⟩⟩
    rw [ey]
    refine hJ (H - 1 - (j + 1)) _ _ (by omega) ⟨j + 1, rfl, by omega, by omega, rfl, fun i hi => ?_, fun i hi => ?_, fun d d1 d2 => ?_⟩
    · by_cases q : i = j
      · rw [q, sj, e2, zup_ne (by omega), zup_eq, upd_eq, e1, zup_eq, upd_eq, zup_ne (by omega), (i2 (j + 1) (by omega)).1, (i2 (j + 1) (by omega)).2]
        exact ⟨rfl, rfl⟩
      · rw [e2, zup_ne (by omega), zup_eq, upd_ne q, e1, zup_eq, upd_ne q, zup_ne (by omega)]
        exact i1 i (by omega)
    · rw [e2, zup_ne (by omega), zup_eq, upd_ne (by omega), e1, zup_eq, upd_ne (by omega), zup_ne (by omega)]
      exact i2 i (by omega)
    · rw [e2, zup_ne d2, e1, zup_ne d1, i3 d d1 d2]
