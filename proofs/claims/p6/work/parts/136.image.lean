/-- a bench laid like another -/
def bdc (M : zMem) (t : Nat) (M' : zMem) (k : Nat) : Prop := (∀ j, 2 ≤ j → j ≤ 5 → M' k j = M t j) ∧ (∀ j, j < 2 → M' k j = M k j) ∧ (∀ i x, 1 ≤ i → i ≤ 6 → x < 5 → M' (k + i) x = M (t + i) x) ∧ (∀ x, x < 40 → M' (k + 7) x = M (t + 7) x) ∧ (∀ c, (c < k ∨ k + 8 ≤ c) → M' c = M c)
theorem xt_copyBench {k t : Nat} {M : zMem} {Q : zMem → Prop} (h : k + 8 < t ∨ t + 8 < k) (hQ : ∀ M', bdc M t M' k → Q M') : wp_Bench_copyFrom k t M Q := by
  unfold wp_Bench_copyFrom
  intro M1 e1 M2 e2 M3 e3 M4 e4
  have ht : t ≠ k := by omega
  have o4 : ∀ c, c ≠ k → M4 c = M c := fun c hc => by rw [e4, zup_ne hc, e3, zup_ne hc, e2, zup_ne hc, e1, zup_ne hc]
  have k4 : (∀ j, 2 ≤ j → j ≤ 5 → M4 k j = M t j) ∧ ∀ j, j < 2 → M4 k j = M k j := by
    have x1 : M1 t = M t := by rw [e1, zup_ne ht]
    have x2 : M2 t = M t := by rw [e2, zup_ne ht, x1]
    have x3 : M3 t = M t := by rw [e3, zup_ne ht, x2]
    rw [x1] at e2; rw [x2] at e3; rw [x3] at e4
    refine ⟨fun j h1 h2 => ?_, fun j hj => ?_⟩
    · rcases (show j = 2 ∨ j = 3 ∨ j = 4 ∨ j = 5 by omega) with rfl | rfl | rfl | rfl
      all_goals
        rw [e4, e3, e2, e1]
        simp (disch := omega) only [zup_eq, upd_ne, upd_eq]
    · rw [e4, e3, e2, e1]
      simp (disch := omega) only [zup_eq, upd_ne]
  clear e4 e3 e2 e1
  have c5 : zcpok 0 0 5 5 5 := zcpok_nI (sp := 0) (dp := 0) (n := 5) (by omega) (by omega) (by omega) (by omega)
  refine ⟨c5, fun M5 e5 => ⟨c5, fun M6 e6 => ⟨c5, fun M7 e7 => ⟨c5, fun M8 e8 => ⟨c5, fun M9 e9 => ⟨c5, fun Ma ea => ⟨zcpok_nI (sp := 0) (dp := 0) (n := 40) (by omega) (by omega) (by omega) (by omega), fun Mb eb => ?_⟩⟩⟩⟩⟩⟩⟩
  have ci : ∀ (X : zMem) (a b x : Nat), x < 5 → zcopyM X a b 0 0 5 b x = X a x := fun X a b x hx => by
    have := zcopy_in (M := X) (k0 := a) (k1 := b) (sp := 0) (dp := 0) (n := 5) (j := x) (by omega) (by omega) (by omega) (by omega) (by omega)
    rw [Nat.sub_zero, Nat.zero_add] at this
    exact this
  have y5 : ∀ c, c ≠ k + 1 → M5 c = M4 c := fun c q => by rw [e5, zcopy_ne q]
  have y6 : ∀ c, c ≠ k + 2 → M6 c = M5 c := fun c q => by rw [e6, zcopy_ne q]
  have y7 : ∀ c, c ≠ k + 3 → M7 c = M6 c := fun c q => by rw [e7, zcopy_ne q]
  have y8 : ∀ c, c ≠ k + 4 → M8 c = M7 c := fun c q => by rw [e8, zcopy_ne q]
  have y9 : ∀ c, c ≠ k + 5 → M9 c = M8 c := fun c q => by rw [e9, zcopy_ne q]
  have ya : ∀ c, c ≠ k + 6 → Ma c = M9 c := fun c q => by rw [ea, zcopy_ne q]
  have yb : ∀ c, c ≠ k + 7 → Mb c = Ma c := fun c q => by rw [eb, zcopy_ne q]
  refine hQ Mb ⟨fun j h1 h2 => ?_, fun j hj => ?_, fun i x h1 h2 hx => ?_, fun x hx => ?_, fun c hc => ?_⟩
  · rw [yb k (by omega), ya k (by omega), y9 k (by omega), y8 k (by omega), y7 k (by omega), y6 k (by omega), y5 k (by omega)]; exact k4.1 j h1 h2
  · rw [yb k (by omega), ya k (by omega), y9 k (by omega), y8 k (by omega), y7 k (by omega), y6 k (by omega), y5 k (by omega)]; exact k4.2 j hj
  · rcases (show i = 1 ∨ i = 2 ∨ i = 3 ∨ i = 4 ∨ i = 5 ∨ i = 6 by omega) with rfl | rfl | rfl | rfl | rfl | rfl
    · rw [yb _ (by omega), ya _ (by omega), y9 _ (by omega), y8 _ (by omega), y7 _ (by omega), y6 _ (by omega), e5, ci _ _ _ x hx, o4 _ (by omega)]
    · rw [yb _ (by omega), ya _ (by omega), y9 _ (by omega), y8 _ (by omega), y7 _ (by omega), e6, ci _ _ _ x hx, y5 _ (by omega), o4 _ (by omega)]
    · rw [yb _ (by omega), ya _ (by omega), y9 _ (by omega), y8 _ (by omega), e7, ci _ _ _ x hx, y6 _ (by omega), y5 _ (by omega), o4 _ (by omega)]
    · rw [yb _ (by omega), ya _ (by omega), y9 _ (by omega), e8, ci _ _ _ x hx, y7 _ (by omega), y6 _ (by omega), y5 _ (by omega), o4 _ (by omega)]
    · rw [yb _ (by omega), ya _ (by omega), e9, ci _ _ _ x hx, y8 _ (by omega), y7 _ (by omega), y6 _ (by omega), y5 _ (by omega), o4 _ (by omega)]
    · rw [yb _ (by omega), ea, ci _ _ _ x hx, y9 _ (by omega), y8 _ (by omega), y7 _ (by omega), y6 _ (by omega), y5 _ (by omega), o4 _ (by omega)]
  · rw [eb]
    have := zcopy_in (M := Ma) (k0 := t + 7) (k1 := k + 7) (sp := 0) (dp := 0) (n := 40) (j := x) (by omega) (by omega) (by omega) (by omega) (by omega)
    refine Eq.trans this ?_
    rw [Nat.sub_zero, Nat.zero_add, ya _ (by omega), y9 _ (by omega), y8 _ (by omega), y7 _ (by omega), y6 _ (by omega), y5 _ (by omega), o4 _ (by omega)]
  · rw [yb _ (by omega), ya _ (by omega), y9 _ (by omega), y8 _ (by omega), y7 _ (by omega), y6 _ (by omega), y5 _ (by omega), o4 _ (by omega)]
theorem xt_forget {M : zMem} {Q : zMem → Prop} (hQ : ∀ M', (∀ q, q < 120 → M' 58 q = 0) → (∀ k, k ≠ 58 → M' k = M k) → Q M') : wp_Orders_forget 56 M Q := by
  unfold wp_Orders_forget
  exact zfill_r (c := 58) (N := 120) (v := 0) (by omega) (fun M' a1 a2 a3 => hQ M' a1 a3)
/-- what is kept: the flags, and the image of each -/
theorem mw_keep18 {i : Nat} {W : zMem} {K : zMem → Prop} {Q : Int32 → zMem → Prop} (hi : i < 2) (hK : ∀ W', (∀ j, j < 96 → W' 6 (96 * (2 + i) + j) = W 6 j) → (∀ j, (j < 96 * (2 + i) ∨ 96 * (2 + i) + 96 ≤ j) → W' 6 j = W 6 j) → (∀ k, k ≠ 6 → W' k = W k) → K W') : ∃ n, zlp1 (wpB_Model_keep_18 (nI i) K Q) n 0 W := by
  refine zlp1_r (fun m x W' => ∃ h, x = nI h ∧ h ≤ 96 ∧ m = 96 - h ∧ (∀ j, j < h → W' 6 (96 * (2 + i) + j) = W 6 j) ∧ (∀ j, (j < 96 * (2 + i) ∨ 96 * (2 + i) + 96 ≤ j) → W' 6 j = W 6 j) ∧ (∀ k, k ≠ 6 → W' k = W k)) ?_ (n := 96) ⟨0, rfl, by omega, rfl, fun i hi => absurd hi (by omega), fun _ _ => rfl, fun _ _ => rfl⟩
  rintro m x W' ⟨h, rfl, hh, rfl, i1, i2, i3⟩ J hJ
  refine ⟨fun c => ?_, fun c => ?_⟩
  · have := (nI_leI (a := 96) (by omega) (by omega)).mp c
    have e : h = 96 := by omega
    subst e
    exact hK W' i1 i2 i3
  · have hh2 : h < 96 := (nI_ltI (b := 96) (by omega) (by omega)).mp (Int32.not_le.mp c)
    have e2 : 96 * (2 + nI i) + nI h = nI (96 * (2 + i) + h) := by simp (disch := omega) only [q_lit, q_add, q_mul, q_sub, q_ix, q_in, q_lt, q_le, q_eq, q_nlt, q_nle, q_ltn, q_len, q_neq, q_eqn, zup_ne, zup_eq, zset_ne, zset_eq, upd_eq, upd_ne, forall_eq, true_and, and_true, true_implies, false_implies, implies_true, not_true_eq_false, not_false_eq_true, and_self, ↓reduceIte, false_and, and_false]
    rw [e2, q_ix (by omega), q_ix (by omega)]
    refine ⟨vp_in_nI (by omega) (by omega), vp_in_nI (by omega) (by omega), fun W2 e2 y ey => ?_⟩
    rw [ey, nI_1]
    refine hJ (96 - (h + 1)) _ _ (by omega) ⟨h + 1, rfl, by omega, rfl, fun j hj => ?_, fun j hj => ?_, fun d hd => by rw [e2, zup_ne hd]; exact i3 d hd⟩
    · rw [e2, zup_eq]
      by_cases z : j = h
      · rw [z, upd_eq]; exact i2 h (by omega)
      · rw [upd_ne (by omega)]; exact i1 j (by omega)
    · rw [e2, zup_eq, upd_ne (by omega)]; exact i2 j hj
theorem mw_back26 {i : Nat} {W : zMem} {Q : Int32 → zMem → Prop} (hi : i < 2) (hK : ∀ W', (∀ j, j < 96 → W' 6 j = W 6 (96 * (2 + i) + j)) → (∀ j, 96 ≤ j → W' 6 j = W 6 j) → (∀ k, k ≠ 6 → W' k = W k) → Q (W' 6 0) W') : ∃ n, zlp1 (wpB_Model_back_26 (nI i) Q) n 0 W := by
  refine zlp1_r (fun m x W' => ∃ h, x = nI h ∧ h ≤ 96 ∧ m = 96 - h ∧ (∀ j, j < h → W' 6 j = W 6 (96 * (2 + i) + j)) ∧ (∀ j, 96 ≤ j → W' 6 j = W 6 j) ∧ (∀ k, k ≠ 6 → W' k = W k)) ?_ (n := 96) ⟨0, rfl, by omega, rfl, fun i hi => absurd hi (by omega), fun _ _ => rfl, fun _ _ => rfl⟩
  rintro m x W' ⟨h, rfl, hh, rfl, i1, i2, i3⟩ J hJ
  refine ⟨fun c => ?_, fun c => ?_⟩
  · have := (nI_leI (a := 96) (by omega) (by omega)).mp c
    have e : h = 96 := by omega
    subst e
    exact mw_of (j := 0) (by omega) (hK W' i1 i2 i3)
  · have hh2 : h < 96 := (nI_ltI (b := 96) (by omega) (by omega)).mp (Int32.not_le.mp c)
    have e2 : 96 * (2 + nI i) + nI h = nI (96 * (2 + i) + h) := by simp (disch := omega) only [q_lit, q_add, q_mul, q_sub, q_ix, q_in, q_lt, q_le, q_eq, q_nlt, q_nle, q_ltn, q_len, q_neq, q_eqn, zup_ne, zup_eq, zset_ne, zset_eq, upd_eq, upd_ne, forall_eq, true_and, and_true, true_implies, false_implies, implies_true, not_true_eq_false, not_false_eq_true, and_self, ↓reduceIte, false_and, and_false]
    rw [e2, q_ix (by omega), q_ix (by omega)]
    refine ⟨vp_in_nI (by omega) (by omega), vp_in_nI (by omega) (by omega), fun W2 e2 y ey => ?_⟩
    rw [ey, nI_1]
    refine hJ (96 - (h + 1)) _ _ (by omega) ⟨h + 1, rfl, by omega, rfl, fun j hj => ?_, fun j hj => ?_, fun d hd => by rw [e2, zup_ne hd]; exact i3 d hd⟩
    · rw [e2, zup_eq]
      by_cases z : j = h
      · rw [z, upd_eq]; exact i2 _ (by omega)
      · rw [upd_ne (by omega)]; exact i1 j (by omega)
    · rw [e2, zup_eq, upd_ne (by omega)]; exact i2 j hj
theorem p_keep {n H L : Nat} {M W : zMem} {a : Int32} {P : zMem → zMem → Prop} (vt : sp_vt M 1 n H L) (r : rt0 W M n H L) (st : pst W M n H L) (e28 : ∀ i, i < 2 → M 28 i = W 7 i) (hP0 : P M W)
    (hP : ∀ i M' W1 W', i < 2 → bdc M 18 M' (63 + 9 * i) → W1 0 24 = 1 → pr W1 M n H → awf W W1 → (∀ j, j < 96 → W' 6 (96 * (2 + i) + j) = W1 6 j) → (∀ j, (j < 96 * (2 + i) ∨ 96 * (2 + i) + 96 ≤ j) → W' 6 j = W1 6 j) → (∀ k, k ≠ 6 → W' k = W1 k) → P (zup M' 28 i 1) (zup W' 7 i 1)) : wp_Main_keep a M (fun x M' => wp_Model_keep a W (fun y W' => x = y ∧ P M' W')) := by
  have no : ¬ (0 ≤ a ∧ a ≤ 1) → wp_Model_keep a W (fun y W' => -1 = y ∧ P M W') := fun q => mt_in (lo' := 0) (hi' := 1) rfl rfl (fun x y => absurd ⟨x, y⟩ q) (fun _ => ⟨fun q => absurd rfl q, fun _ => ⟨rfl, hP0⟩⟩)
  refine ⟨fun c => no (fun q => absurd c (Int32.not_lt.mpr q.1)), fun c => ⟨fun c2 => ?_, fun c2 => no (fun q => c2 (Int32.lt_of_le_of_lt q.2 (by decide)))⟩⟩
  obtain ⟨i, hi0, rfl⟩ := nI_of c
  have hi : i < 2 := (nI_ltI (b := 2) (by omega) (by omega)).mp c2
  rw [q_ix (by omega)]
  have v2 : vp_in (nI i) 2 := vp_in_nI (by omega) (by omega)
  refine ⟨v2, fun x ex => ⟨v2, ?_⟩⟩
  refine xt_copyBench (by omega) (fun M1 b1 => ⟨v2, fun M2 e2 => ?_⟩)
  have key : ∀ y : Int32, (y = 0 ∧ x = 0 ∨ y = 1 ∧ x ≠ 0) → wp_Model_keep (nI i) W (fun z W' => y = z ∧ P M2 W') := by
    intro y hy
    refine mt_in (lo' := 0) (hi' := 1) rfl rfl (fun _ _ => ⟨fun _ => ?_, fun q => absurd q (by decide)⟩) (fun q => absurd ⟨nI_pos' (by omega), (nI_leI (b := 1) (by omega) (by omega)).mpr (by omega)⟩ q)
    refine mt_awake vt r st (fun W1 h24 hp f => ?_)
    refine mw_keep18 hi (fun W2 k1 k2 k3 => ?_)
    rw [q_ix (by omega)]
    have e7 : W2 7 i = x := by rw [k3 7 (by omega), f.1 7 (by omega) (by omega) (by omega) (by omega), ex, e28 i hi]
    have pp : ∀ W3, W3 = zup W2 7 i (vp_nar .boolean 1) → P M2 W3 := fun W3 e3 => by
      rw [e2, e3]
      exact hP i M1 W1 W2 hi b1 h24 hp f k1 k2 k3
    refine ⟨v2, fun q => ⟨v2, fun W3 e3 => ⟨?_, pp W3 e3⟩⟩, fun q => ⟨v2, fun W3 e3 => ⟨?_, pp W3 e3⟩⟩⟩
    · rcases hy with ⟨h1, -⟩ | ⟨-, h2⟩
      · exact h1
      · exact absurd (e7.symm.trans q) h2
    · rcases hy with ⟨-, h2⟩ | ⟨h1, -⟩
      · exact absurd (e7.trans h2) q
      · exact h1
  exact ⟨fun q => key 0 (Or.inl ⟨rfl, q⟩), fun q => key 1 (Or.inr ⟨rfl, q⟩)⟩
/-- back, where what is kept is known to be laid alike -/
theorem p_back {M W : zMem} {a : Int32} {P : zMem → zMem → Prop} (e28 : ∀ i, i < 2 → M 28 i = W 7 i) (hP0 : P M W)
    (hP : ∀ i M' W', i < 2 → M 28 i ≠ 0 → bdc M (63 + 9 * i) M' 18 → (∀ j, j < 96 → W' 6 j = W 6 (96 * (2 + i) + j)) → (∀ j, 96 ≤ j → W' 6 j = W 6 j) → (∀ k, k ≠ 6 → W' k = W k) → M' 18 2 = W' 6 0 ∧ P M' W') : wp_Main_back a M (fun x M' => wp_Model_back a W (fun y W' => x = y ∧ P M' W')) := by
  have no : ¬ (0 ≤ a ∧ a ≤ 1) → wp_Model_back a W (fun y W' => -1 = y ∧ P M W') := fun q => mt_in (lo' := 0) (hi' := 1) rfl rfl (fun x y => absurd ⟨x, y⟩ q) (fun _ => ⟨fun q => absurd rfl q, fun _ => ⟨rfl, hP0⟩⟩)
  refine ⟨fun c => no (fun q => absurd c (Int32.not_lt.mpr q.1)), fun c => ⟨fun c2 => ?_, fun c2 => no (fun q => c2 (Int32.lt_of_le_of_lt q.2 (by decide)))⟩⟩
  obtain ⟨i, hi0, rfl⟩ := nI_of c
  have hi : i < 2 := (nI_ltI (b := 2) (by omega) (by omega)).mp c2
  rw [q_ix (by omega)]
  have v2 : vp_in (nI i) 2 := vp_in_nI (by omega) (by omega)
  have way : ∀ Q : Int32 → zMem → Prop, (¬ W 7 i = 0 → ∃ n : Nat, zlp1 (wpB_Model_back_26 (nI i) Q) n 0 W) → (W 7 i = 0 → Q (-2) W) → wp_Model_back (nI i) W Q := fun Q h1 h2 => by
    refine mt_in (lo' := 0) (hi' := 1) rfl rfl (fun _ _ => ⟨fun _ => ⟨v2, ?_⟩, fun q => absurd q (by decide)⟩) (fun q => absurd ⟨nI_pos' (by omega), (nI_leI (b := 1) (by omega) (by omega)).mpr (by omega)⟩ q)
    rw [q_ix (by omega)]
    exact ⟨h1, h2⟩
  refine ⟨v2, fun q => ⟨v2, ?_⟩, fun q => ?_⟩
  · refine xt_copyBench (by omega) (fun M1 b1 => ?_)
    refine way _ (fun _ => mw_back26 hi (fun W1 k1 k2 k3 => hP i M1 W1 hi q b1 k1 k2 k3)) (fun z => absurd ((e28 i hi).trans z) q)
  · exact way _ (fun z => absurd ((e28 i hi).symm.trans q) z) (fun _ => ⟨rfl, hP0⟩)
