/-- the reference's comparison of two that were seen -/
theorem mt_areSame {a c H : Nat} {W : zMem} {Q : Int32 → zMem → Prop} (ha : a < 120) (hc : c < 120) (hH : W 0 18 = nI H) (H5 : H ≤ 5) (h1 : (∀ k, k < 30 + 8 * H → W 12 (80 * a + k) = W 12 (80 * c + k)) → Q 1 W) (h0 : (¬ ∀ k, k < 30 + 8 * H → W 12 (80 * a + k) = W 12 (80 * c + k)) → Q 0 W) : wp_Model_areSame (nI a) (nI c) W Q := by
  unfold wp_Model_areSame
  refine zlp2_r (fun m x y W1 => W1 = W ∧ ∃ k, y = nI k ∧ k ≤ 30 + 8 * H ∧ m = 30 + 8 * H - k ∧ ((x = 1 ∧ ∀ j, j < k → W 12 (80 * a + j) = W 12 (80 * c + j)) ∨ (x = 0 ∧ ¬ ∀ j, j < 30 + 8 * H → W 12 (80 * a + j) = W 12 (80 * c + j)))) ?_ (n := 30 + 8 * H) ⟨rfl, 0, rfl, by omega, rfl, Or.inl ⟨rfl, fun j hj => absurd hj (by omega)⟩⟩
  rintro m x y W1 ⟨rfl, k, rfl, hk, rfl, hx⟩ J hJ
  unfold wpB_Model_areSame_5
  have eN : 30 + 8 * W1 0 18 = nI (30 + 8 * H) := by rw [hH]; simp only [q_lit, q_mul, q_add]
  rw [eN]
  refine ⟨fun q => ?_, fun q => ?_⟩
  · have q' := (nI_leI (a := 30 + 8 * H) (b := k) (by omega) (by omega)).mp q
    have e : k = 30 + 8 * H := by omega
    subst e
    rcases hx with ⟨rfl, all⟩ | ⟨rfl, no⟩
    · exact ⟨Or.inr rfl, h1 all⟩
    · exact ⟨Or.inl rfl, h0 no⟩
  · have q1 : k < 30 + 8 * H := Nat.lt_of_not_le (fun z => q (nI_le z (by omega)))
    have e1 : 80 * nI a + nI k = nI (80 * a + k) := by simp only [q_lit, q_mul, q_add]
    have e2 : 80 * nI c + nI k = nI (80 * c + k) := by simp only [q_lit, q_mul, q_add]
    rw [e1, e2, q_ix (by omega), q_ix (by omega)]
    refine ⟨fun z y hy => ?_, fun z => ⟨vp_in_nI (by omega) (by omega), vp_in_nI (by omega) (by omega), fun ne y hy => ?_, fun eq y hy => ?_⟩⟩
    · rw [hy, nI_1]
      refine hJ (30 + 8 * H - (k + 1)) _ _ _ (by omega) ⟨rfl, k + 1, rfl, by omega, rfl, Or.inr ⟨rfl, ?_⟩⟩
      rcases hx with ⟨x1, -⟩ | ⟨-, no⟩
      · rw [x1] at z; exact absurd z (by decide)
      · exact no
    · rw [hy, nI_1]
      exact hJ (30 + 8 * H - (k + 1)) _ _ _ (by omega) ⟨rfl, k + 1, rfl, by omega, rfl, Or.inr ⟨rfl, fun all => ne (all k q1)⟩⟩
    · rw [hy, nI_1]
      rcases hx with ⟨-, all⟩ | ⟨x0, -⟩
      · refine hJ (30 + 8 * H - (k + 1)) _ _ _ (by omega) ⟨rfl, k + 1, rfl, by omega, rfl, Or.inl ⟨rfl, fun j hj => ?_⟩⟩
        by_cases e : j = k
        · rw [e]; exact eq
        · exact all j (by omega)
      · exact absurd x0 z
theorem mt_earlier {r H : Nat} {W : zMem} {Q : Int32 → zMem → Prop} (hr : r < 120) (hs : W 0 28 = nI (r + 1)) (hH : W 0 18 = nI H) (H5 : H ≤ 5) (hQ : ∀ o, sp_fst (fun q => ∀ k, k < 30 + 8 * H → W 12 (80 * q + k) = W 12 (80 * r + k)) r o → Q (match o with | none => -4 | some q => nI q) W) : wp_Model_earlier W Q := by
  unfold wp_Model_earlier
  refine zlp1_r (fun m x W1 => W1 = W ∧ ∃ q, x = nI q ∧ q ≤ r ∧ m = r - q ∧ ∀ q', q' < q → ¬ ∀ k, k < 30 + 8 * H → W 12 (80 * q' + k) = W 12 (80 * r + k)) ?_ (n := r) ⟨rfl, 0, rfl, by omega, rfl, fun q' h => absurd h (by omega)⟩
  rintro m x W1 ⟨rfl, q, rfl, hq, rfl, a1⟩ J hJ
  unfold wpB_Model_earlier_2
  have e1 : W1 0 28 - 1 = nI r := by
    rw [hs]
    exact (q_sub (a := r + 1) (b := 1) (by omega)).trans (congrArg nI (by omega))
  rw [e1]
  refine ⟨fun z => ?_, fun z => ?_⟩
  · have z' := (nI_leI (a := r) (b := q) (by omega) (by omega)).mp z
    have e : q = r := by omega
    subst e
    exact hQ none (Or.inl ⟨rfl, a1⟩)
  · have z1 : q < r := Nat.lt_of_not_le (fun w => z (nI_le w (by omega)))
    refine mt_areSame (by omega) hr hH H5 (fun all => ⟨fun c => absurd c (by decide), fun _ => hQ (some q) (Or.inr ⟨q, rfl, z1, all, a1⟩)⟩) (fun no => ⟨fun _ y hy => ?_, fun c => absurd rfl c⟩)
    rw [hy, nI_1]
    refine hJ (r - (q + 1)) _ _ (by omega) ⟨rfl, q + 1, rfl, by omega, rfl, fun q' h => ?_⟩
    by_cases e : q' = q
    · rw [e]; exact no
    · exact a1 q' (by omega)
