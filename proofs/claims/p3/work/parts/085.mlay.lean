/-- what the reference writes down of a hand -/
def ms_c (W : zMem) (h k : Nat) : Int32 := if k = 1 ∧ ¬ (W 6 (104 + 8 * h) = 3 ∨ W 6 (104 + 8 * h) = 1) then 0 else W 6 (104 + 8 * h + k) + (if 2 ≤ k ∧ k ≤ 4 then -nI 4 else nI 0)
def ms_l (W : zMem) (w p : Nat) : Int32 := if W 4 3 = 0 then 0 else if W 4 3 * (W 4 (60 + 8 * w + p) - 1) ≤ W 6 (144 + 8 * w + p) then W 4 3 * (W 4 (60 + 8 * w + p) - 1) else W 6 (144 + 8 * w + p)
theorem mt_lay20 {r h : Nat} {K Q : zMem → Prop} {W : zMem} (hr : r < 120) (hh : h < 5) (hK : ∀ W', (∀ k, k < 5 → W' 12 (80 * r + (5 * h + k)) = ms_c W h k) → (∀ j, (j < 80 * r + 5 * h ∨ 80 * r + 5 * h + 5 ≤ j) → W' 12 j = W 12 j) → (∀ c, c ≠ 12 → W' c = W c) → K W') : ∃ n, zlp1 (wpB_Model_laySeen_20 (nI (80 * r)) (nI h) K Q) n 0 W := by
  refine zlp1_r (fun m x W1 => ∃ k, x = nI k ∧ k ≤ 5 ∧ m = 5 - k ∧ (∀ i, i < k → W1 12 (80 * r + (5 * h + i)) = ms_c W h i) ∧ (∀ j, (j < 80 * r + 5 * h ∨ 80 * r + 5 * h + 5 ≤ j) → W1 12 j = W 12 j) ∧ (∀ c, c ≠ 12 → W1 c = W c)) ?_ (n := 5) ⟨0, rfl, by omega, rfl, fun i hi => absurd hi (by omega), fun _ _ => rfl, fun _ _ => rfl⟩
  rintro m x W1 ⟨k, rfl, hk, rfl, a1, a2, a3⟩ J hJ
  have x6 : W1 6 = W 6 := a3 6 (by omega)
  have e1 : nI (80 * r) + 5 * nI h + nI k = nI (80 * r + (5 * h + k)) := by
    simp only [q_lit, q_mul, q_add]
    exact congrArg nI (by omega)
  have put : ∀ v : Int32, k < 5 → v = ms_c W h k → ∀ W2 : zMem, W2 = zup W1 12 (80 * r + (5 * h + k)) v → ∀ y : Int32, y = nI k + 1 → J y W2 := fun v k5 ev W2 e2 y hy => by
    rw [hy, nI_1, e2]
    refine hJ (5 - (k + 1)) _ _ (by omega) ⟨k + 1, rfl, by omega, rfl, fun i hi => ?_, fun j hj => ?_, fun c hc => ?_⟩
    · by_cases e : i = k
      · rw [e, zup_eq, upd_eq]; exact ev
      · rw [zup_eq, upd_ne (by omega)]; exact a1 i (by omega)
    · rw [zup_eq, upd_ne (by omega)]; exact a2 j hj
    · rw [zup_ne hc]; exact a3 c hc
  have j52 : k < 5 → ¬ (k = 1 ∧ ¬ (W 6 (104 + 8 * h) = 3 ∨ W 6 (104 + 8 * h) = 1)) → wpJ_Model_laySeen_52 K J Q (nI (80 * r)) (nI h) (nI k) W1 := fun k5 nc => by
    unfold wpJ_Model_laySeen_52 wpJ_Model_laySeen_57
    refine ⟨fun c => absurd c (by decide), fun _ => ?_⟩
    show wp_Model_at (nI 1) (nI h) (nI k) W1 _
    rw [e_at (by omega) hh (by omega), e1, q_ix (by omega)]
    refine ⟨vp_in_nI (by omega) (by omega), put _ k5 ?_⟩
    unfold ms_c
    rw [if_neg nc, x6]
  have j57 : k < 5 → (k = 1 ∧ ¬ (W 6 (104 + 8 * h) = 3 ∨ W 6 (104 + 8 * h) = 1)) → wpJ_Model_laySeen_57 K J Q (nI (80 * r)) (nI h) (nI k) 0 W1 := fun k5 nc => by
    unfold wpJ_Model_laySeen_57
    refine ⟨fun _ => ?_, fun c => absurd rfl c⟩
    rw [e1, q_ix (by omega)]
    refine ⟨vp_in_nI (by omega) (by omega), put _ k5 ?_⟩
    unfold ms_c
    rw [if_pos nc]
  unfold wpB_Model_laySeen_20
  refine ⟨fun q => ?_, fun q => ?_⟩
  · have q' := (nI_ltI (a := 4) (b := k) (by omega) (by omega)).mp q
    have e : k = 5 := by omega
    subst e
    exact hK W1 a1 a2 a3
  · have k5 : k < 5 := Nat.lt_of_not_le (fun z => q (nI_lt (a := 4) (b := k) (by omega) (by omega)))
    refine ⟨fun c => j52 k5 (fun z => c (by rw [z.1]; rfl)), fun c => ?_⟩
    have k1 : k = 1 := (nI_eq (a := k) (b := 1) (by omega) (by omega)).mp c
    show wp_Model_at (nI 1) (nI h) (nI 0) W1 _
    rw [e_at (by omega) hh (by omega)]
    have e0 : W1 6 (96 * 1 + 8 + 8 * h + 0) + (if 2 ≤ 0 ∧ 0 ≤ 4 then -nI 4 else nI 0) = W 6 (104 + 8 * h) := by
      rw [if_neg (by omega), q_x0, x6]
      rfl
    rw [e0]
    refine ⟨fun d => j52 k5 (fun z => z.2 (Or.inl d)), fun d => ?_⟩
    show wp_Model_at (nI 1) (nI h) (nI 0) W1 _
    rw [e_at (by omega) hh (by omega), e0]
    exact ⟨fun d2 => j57 k5 ⟨k1, fun z => z.elim d d2⟩, fun d2 => j52 k5 (fun z => z.2 (Or.inr d2))⟩
theorem mt_lay95 {r h w : Nat} {K Q : zMem → Prop} {W : zMem} (hr : r < 120) (hh : h < 5) (hw : w < 5) (ew : W 8 h = nI w) (hK : ∀ W', (∀ p, p < 8 → W' 12 (80 * r + (30 + 8 * h + p)) = ms_l W w p) → (∀ j, (j < 80 * r + 30 + 8 * h ∨ 80 * r + 30 + 8 * h + 8 ≤ j) → W' 12 j = W 12 j) → (∀ c, c ≠ 12 → W' c = W c) → K W') : ∃ n, zlp1 (wpB_Model_laySeen_95 (nI (80 * r)) (nI h) K Q) n 0 W := by
  refine zlp1_r (fun m x W1 => ∃ k, x = nI k ∧ k ≤ 8 ∧ m = 8 - k ∧ (∀ i, i < k → W1 12 (80 * r + (30 + 8 * h + i)) = ms_l W w i) ∧ (∀ j, (j < 80 * r + 30 + 8 * h ∨ 80 * r + 30 + 8 * h + 8 ≤ j) → W1 12 j = W 12 j) ∧ (∀ c, c ≠ 12 → W1 c = W c)) ?_ (n := 8) ⟨0, rfl, by omega, rfl, fun i hi => absurd hi (by omega), fun _ _ => rfl, fun _ _ => rfl⟩
  rintro m x W1 ⟨k, rfl, hk, rfl, a1, a2, a3⟩ J hJ
  have x6 : W1 6 = W 6 := a3 6 (by omega)
  have x4 : W1 4 = W 4 := a3 4 (by omega)
  have x8 : W1 8 = W 8 := a3 8 (by omega)
  unfold wpB_Model_laySeen_95
  refine ⟨fun q => ?_, fun q => ?_⟩
  · have q' := (nI_leI (a := 8) (b := k) (by omega) (by omega)).mp q
    have e : k = 8 := by omega
    subst e
    exact hK W1 a1 a2 a3
  · have k8 : k < 8 := Nat.lt_of_not_le (fun z => q (nI_le (a := 8) z (by omega)))
    have e1 : nI (80 * r) + 30 + 8 * nI h + nI k = nI (80 * r + (30 + 8 * h + k)) := by
      simp only [q_lit, q_mul, q_add]
      exact congrArg nI (by omega)
    have e2 : 60 + 8 * nI w + nI k = nI (60 + 8 * w + k) := by simp only [q_lit, q_mul, q_add]
    have e3 : ix (3 : Int32) = 3 := q_ix (n := 3) (by omega)
    have i3 : vp_in (3 : Int32) 100 := vp_in_nI (n := 3) (by omega) (by omega)
    have put : ∀ v : Int32, v = ms_l W w k → ∀ W2 : zMem, W2 = zup W1 12 (80 * r + (30 + 8 * h + k)) v → ∀ y : Int32, y = nI k + 1 → J y W2 := fun v ev W2 e2 y hy => by
      rw [hy, nI_1, e2]
      refine hJ (8 - (k + 1)) _ _ (by omega) ⟨k + 1, rfl, by omega, rfl, fun i hi => ?_, fun j hj => ?_, fun c hc => ?_⟩
      · by_cases e : i = k
        · rw [e, zup_eq, upd_eq]; exact ev
        · rw [zup_eq, upd_ne (by omega)]; exact a1 i (by omega)
      · rw [zup_eq, upd_ne (by omega)]; exact a2 j hj
      · rw [zup_ne hc]; exact a3 c hc
    rw [q_ix (by omega), x8, ew]
    refine ⟨vp_in_nI (by omega) (by omega), ?_⟩
    show wp_Model_learntAt (nI 1) (nI w) (nI k) W1 _
    rw [e_learntAt, q_ix (by omega)]
    refine ⟨vp_in_nI (by omega) (by omega), fun v hv => ⟨i3, vp_in_nI (by omega) (by omega), ?_⟩⟩
    rw [x8, ew, e2, e3, x4, q_ix (by omega), e1, q_ix (by omega)]
    refine ⟨vp_in_nI (by omega) (by omega), fun z hz => ⟨i3, fun c => ⟨fun d => ⟨vp_in_nI (by omega) (by omega), put _ ?_⟩, fun d => ⟨vp_in_nI (by omega) (by omega), put _ ?_⟩⟩, fun c => ⟨vp_in_nI (by omega) (by omega), put _ ?_⟩⟩⟩
    · rw [hz, hv, x6] at d
      unfold ms_l
      rw [if_neg c, hz, if_pos (by exact d)]
    · rw [hz, hv, x6] at d
      unfold ms_l
      rw [if_neg c, hv, x6, if_neg (by exact d)]
    · unfold ms_l
      rw [if_pos c]
