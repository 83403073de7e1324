/-- a record is written down -/
theorem xt_writeDown {t n H r : Nat} {M : zMem} {Q : zMem → Prop} (hr : r < 120) (hrec : M 41 1 = nI r) (ht : t + 4 < 18) (hn : M t 0 = nI n) (hH : M t 1 = nI H) (hn8 : n ≤ 8) (hH5 : H ≤ 5)
    (hQ : ∀ M', (∀ i, i < 46 → M' 42 (46 * r + i) = sp_row t 45 n H M i) → (∀ j, j < 46 * r → M' 42 j = M 42 j) → M' 43 = upd (M 43) r (M 45 3) → M' 44 = upd (M 44) r (M 45 2) → (∀ k, k ≠ 42 → k ≠ 43 → k ≠ 44 → M' k = M k) → Q M') : wp_Settling_writeDown 41 t M Q := by
  unfold wp_Settling_writeDown
  intro x0 hx0
  rw [hrec] at hx0
  have ex : x0 = nI (46 * r) := by
    rw [hx0]; simp only [q_lit, q_mul]; exact congrArg nI (by omega)
  subst ex
  rw [hrec, q_ix (by omega)]
  refine ⟨vp_in_nI hr (by omega), fun M1 hM1 => ?_⟩
  have r1 : M1 41 1 = nI r := by rw [hM1, zup_ne (by omega)]; exact hrec
  rw [r1, q_ix (by omega)]
  refine ⟨vp_in_nI hr (by omega), fun M2 hM2 => ⟨vp_in_nI (by omega) (by omega), fun M3 hM3 => ?_⟩⟩
  rw [q_ix (by omega)] at hM3
  have x42 : M3 42 = upd (M 42) (46 * r) (M 45 5) := by
    rw [hM3, hM2, hM1]; simp (disch := omega) only [zup_ne, zup_eq]
  have x43 : M3 43 = upd (M 43) r (M 45 3) := by
    rw [hM3, hM2, hM1]; simp (disch := omega) only [zup_ne, zup_eq]
  have x44 : M3 44 = upd (M 44) r (M 45 2) := by
    rw [hM3, hM2, hM1]; simp (disch := omega) only [zup_ne, zup_eq]
  have xk : ∀ k, k ≠ 42 → k ≠ 43 → k ≠ 44 → M3 k = M k := fun k a b c => by
    rw [hM3, hM2, hM1]; simp (disch := omega) only [zup_ne]
  clear hM3 hM2 hM1 r1
  refine zlp1_r (fun m x M4 => ∃ h, x = nI h ∧ h ≤ H ∧ m = H - h ∧ M4 42 (46 * r) = M 45 5 ∧ (∀ j, j < h → M4 42 (46 * r + (1 + j)) = sp_num 45 j M) ∧ (∀ j p, j < h → p < n → M4 42 (46 * r + (6 + j * 8 + p)) = sp_cnt t 45 (j * 8 + p) M) ∧ (∀ j, j < 46 * r → M4 42 j = M 42 j) ∧ (∀ k, k ≠ 42 → M4 k = M3 k)) ?_ (n := H) ⟨0, rfl, by omega, rfl, by rw [x42, upd_eq], fun j hj => absurd hj (by omega), fun j p hj => absurd hj (by omega), fun j hj => by rw [x42, upd_ne (by omega)], fun _ _ => rfl⟩
  rintro m x M4 ⟨h, rfl, hh, rfl, a1, a2, a3, a4, a5⟩ J hJ
  have k4 : ∀ k, k ≠ 42 → k ≠ 43 → k ≠ 44 → M4 k = M k := fun k a b c => (a5 k a).trans (xk k a b c)
  unfold wpB_Settling_writeDown_55
  rw [k4 t (by omega) (by omega) (by omega), hH]
  refine ⟨fun q => ?_, fun q => ?_⟩
  · have q' := (nI_leI (a := H) (b := h) (by omega) (by omega)).mp q
    have e : h = H := by omega
    subst e
    refine xt_clearOthers (n := n) (H := h) hr ht (by rw [k4 t (by omega) (by omega) (by omega)]; exact hn) (by rw [k4 t (by omega) (by omega) (by omega)]; exact hH) hn8 hH5 (fun M5 b1 b2 b3 => ?_)
    refine hQ M5 (fun i hi => ?_) (fun j hj => (b2 j hj).trans (a4 j hj)) ?_ ?_ (fun k u v w => (b3 k u).trans (k4 k u v w))
    · rw [b1 i hi]
      unfold sp_row
      by_cases c0 : i = 0
      · subst c0
        rw [if_pos rfl, if_pos rfl]; exact a1
      · rw [if_neg c0, if_neg c0]
        by_cases c6 : i < 6
        · rw [if_pos c6, if_pos c6]
          by_cases ch : i - 1 < h
          · rw [if_pos ch, if_pos ch]
            have := a2 (i - 1) ch
            rw [show 1 + (i - 1) = i by omega] at this
            exact this
          · rw [if_neg ch, if_neg ch]
        · rw [if_neg c6, if_neg c6]
          by_cases ch : (i - 6) / 8 < h ∧ (i - 6) % 8 < n
          · rw [if_pos ch, if_pos ch]
            have := a3 ((i - 6) / 8) ((i - 6) % 8) ch.1 ch.2
            rw [show 6 + (i - 6) / 8 * 8 + (i - 6) % 8 = i by omega, show (i - 6) / 8 * 8 + (i - 6) % 8 = i - 6 by omega] at this
            exact this
          · rw [if_neg ch, if_neg ch]
    · rw [b3 43 (by omega), a5 43 (by omega)]; exact x43
    · rw [b3 44 (by omega), a5 44 (by omega)]; exact x44
  · have q1 : h < H := Nat.lt_of_not_le (fun z => q (nI_le z (by omega)))
    rw [e_num (by omega)]
    have e1 : nI (46 * r) + 1 + nI h = nI (46 * r + (1 + h)) := by
      simp (disch := omega) only [q_lit, q_add, q_mul]
      exact congrArg nI (by omega)
    rw [e1, q_ix (by omega)]
    refine ⟨vp_in_nI (by omega) (by omega), fun M5 hM5 => ?_⟩
    have hnum : sp_num (41 + 4) h M4 = sp_num 45 h M := by
      unfold sp_num
      rw [k4 _ (by omega) (by omega) (by omega), k4 _ (by omega) (by omega) (by omega), k4 _ (by omega) (by omega) (by omega), k4 _ (by omega) (by omega) (by omega), k4 _ (by omega) (by omega) (by omega)]
    rw [hnum] at hM5
    refine zlp1_r (fun m x M6 => ∃ p, x = nI p ∧ p ≤ n ∧ m = n - p ∧ M6 42 (46 * r) = M 45 5 ∧ (∀ j, j < h + 1 → M6 42 (46 * r + (1 + j)) = sp_num 45 j M) ∧ (∀ j q, j < h → q < n → M6 42 (46 * r + (6 + j * 8 + q)) = sp_cnt t 45 (j * 8 + q) M) ∧ (∀ q, q < p → M6 42 (46 * r + (6 + h * 8 + q)) = sp_cnt t 45 (h * 8 + q) M) ∧ (∀ j, j < 46 * r → M6 42 j = M 42 j) ∧ (∀ k, k ≠ 42 → M6 k = M3 k)) ?_ (n := n) ⟨0, rfl, by omega, rfl, ?_, fun j hj => ?_, fun j q c1 c2 => ?_, fun q c => absurd c (by omega), fun j hj => ?_, fun k hk => ?_⟩
    · rintro m x M6 ⟨p, rfl, hp, rfl, c1, c2, c3, c4, c5, c6⟩ J2 hJ2
      have k6 : ∀ k, k ≠ 42 → k ≠ 43 → k ≠ 44 → M6 k = M k := fun k a b c => (c6 k a).trans (xk k a b c)
      unfold wpB_Settling_writeDown_84
      rw [k6 t (by omega) (by omega) (by omega), hn]
      refine ⟨fun z y hy => ?_, fun z y hy => ?_⟩
      · have z' := (nI_leI (a := n) (b := p) (by omega) (by omega)).mp z
        have e : p = n := by omega
        subst e
        rw [hy, nI_1]
        refine hJ (H - (h + 1)) _ _ (by omega) ⟨h + 1, rfl, by omega, rfl, c1, c2, fun j q0 d1 d2 => ?_, c5, c6⟩
        by_cases e : j = h
        · rw [e]; exact c4 q0 d2
        · exact c3 j q0 (by omega) d2
      · have z1 : p < n := Nat.lt_of_not_le (fun w => z (nI_le w (by omega)))
        have ey : y = nI (h * 8 + p) := by rw [hy]; simp only [q_lit, q_mul, q_add]
        subst ey
        rw [q_ix (by omega)]
        refine ⟨vp_in_nI (by omega) (by omega), ?_⟩
        show wp_Told_learnedThatCounts t (nI h) (nI p) (M6 (45 + 7) (h * 8 + p)) M6 _
        rw [e_cnt (b := 45) (by omega) (by omega)]
        have e2 : nI (46 * r) + 1 + 5 + nI (h * 8 + p) = nI (46 * r + (6 + h * 8 + p)) := by
          simp (disch := omega) only [q_lit, q_add, q_mul]
          exact congrArg nI (by omega)
        rw [e2, q_ix (by omega)]
        refine ⟨vp_in_nI (by omega) (by omega), fun M7 hM7 w hw => ?_⟩
        have hcnt : sp_cnt t 45 (h * 8 + p) M6 = sp_cnt t 45 (h * 8 + p) M := by
          unfold sp_cnt
          rw [k6 _ (by omega) (by omega) (by omega), k6 _ (by omega) (by omega) (by omega), k6 _ (by omega) (by omega) (by omega)]
        rw [hcnt] at hM7
        rw [hw, nI_1, hM7]
        refine hJ2 (n - (p + 1)) _ _ (by omega) ⟨p + 1, rfl, by omega, rfl, ?_, fun j hj => ?_, fun j q d1 d2 => ?_, fun q d => ?_, fun j hj => ?_, fun k hk => ?_⟩
        · rw [zup_eq, upd_ne (by omega)]; exact c1
        · rw [zup_eq, upd_ne (by omega)]; exact c2 j hj
        · rw [zup_eq, upd_ne (by omega)]; exact c3 j q d1 d2
        · by_cases e : q = p
          · subst e; rw [zup_eq, upd_eq]
          · rw [zup_eq, upd_ne (by omega)]; exact c4 q (by omega)
        · rw [zup_eq, upd_ne (by omega)]; exact c5 j hj
        · rw [zup_ne hk]; exact c6 k hk
    · rw [hM5, zup_eq, upd_ne (by omega)]; exact a1
    · by_cases e : j = h
      · subst e; rw [hM5, zup_eq, upd_eq]
      · rw [hM5, zup_eq, upd_ne (by omega)]; exact a2 j (by omega)
    · rw [hM5, zup_eq, upd_ne (by omega)]; exact a3 j q c1 c2
    · rw [hM5, zup_eq, upd_ne (by omega)]; exact a4 j hj
    · rw [hM5, zup_ne hk]; exact a5 k hk
/-- the first earlier record that is alike -/
def sp_fst (P : Nat → Prop) (r : Nat) (o : Option Nat) : Prop := (o = none ∧ ∀ q, q < r → ¬ P q) ∨ (∃ q, o = some q ∧ q < r ∧ P q ∧ ∀ q', q' < q → ¬ P q')
theorem xt_earlier {r : Nat} {M : zMem} {Q : Int32 → zMem → Prop} (hr : r < 120) (hrec : M 41 1 = nI r) (hQ : ∀ o, sp_fst (fun q => ∀ i, i < 46 → M 42 (46 * q + i) = M 42 (46 * r + i)) r o → Q (match o with | none => -1 | some q => nI q) M) : wp_Settling_earlierAlike 41 M Q := by
  unfold wp_Settling_earlierAlike
  intro x0 hx0
  rw [hrec] at hx0
  have ex : x0 = nI (46 * r) := by
    rw [hx0]; simp only [q_lit, q_mul]; exact congrArg nI (by omega)
  subst ex
  refine zlp1_r (fun m x M1 => ∃ q, x = nI q ∧ q ≤ r ∧ m = r - q ∧ M1 = M ∧ ∀ q', q' < q → ¬ ∀ i, i < 46 → M 42 (46 * q' + i) = M 42 (46 * r + i)) ?_ (n := r) ⟨0, rfl, by omega, rfl, rfl, fun q' h => absurd h (by omega)⟩
  rintro m x M1 ⟨q, rfl, hq, rfl, rfl, a1⟩ J hJ
  unfold wpB_Settling_earlierAlike_10
  rw [hrec]
  refine ⟨fun z => ?_, fun z => ?_⟩
  · have z' := (nI_leI (a := r) (b := q) (by omega) (by omega)).mp z
    have e : q = r := by omega
    subst e
    exact hQ none (Or.inl ⟨rfl, a1⟩)
  · have z1 : q < r := Nat.lt_of_not_le (fun w => z (nI_le w (by omega)))
    refine zlp1_r (fun m x M2 => ∃ i, x = nI i ∧ i ≤ 46 ∧ m = 46 - i ∧ M2 = M1 ∧ ∀ j, j < i → M1 42 (46 * q + j) = M1 42 (46 * r + j)) ?_ (n := 46) ⟨0, rfl, by omega, rfl, rfl, fun j h => absurd h (by omega)⟩
    rintro m x M2 ⟨i, rfl, hi, rfl, rfl, b1⟩ J2 hJ2
    unfold wpB_Settling_earlierAlike_20
    refine ⟨fun w => ?_, fun w => ?_⟩
    · have w' := (nI_leI (a := 46) (b := i) (by omega) (by omega)).mp w
      have e : i = 46 := by omega
      subst e
      exact ⟨fun c => absurd rfl c, fun _ => hQ (some q) (Or.inr ⟨q, rfl, z1, b1, a1⟩)⟩
    · have w1 : i < 46 := Nat.lt_of_not_le (fun v => w (nI_le (a := 46) v (by omega)))
      have e1 : nI q * 46 + nI i = nI (46 * q + i) := by
        simp (disch := omega) only [q_lit, q_add, q_mul]
        exact congrArg nI (by omega)
      rw [e1, q_add, q_ix (by omega), q_ix (by omega)]
      refine ⟨vp_in_nI (by omega) (by omega), vp_in_nI (by omega) (by omega), fun ne => ⟨fun _ y hy => ?_, fun c => ?_⟩, fun eq y hy => ?_⟩
      · rw [hy, nI_1]
        refine hJ (r - (q + 1)) _ _ (by omega) ⟨q + 1, rfl, by omega, rfl, rfl, fun q' h => ?_⟩
        by_cases e : q' = q
        · subst e; exact fun all => ne (all i w1)
        · exact a1 q' (by omega)
      · have := (nI_eq (a := i) (b := 46) (by omega) (by omega)).mp c
        omega
      · rw [hy, nI_1]
        refine hJ2 (46 - (i + 1)) _ _ (by omega) ⟨i + 1, rfl, by omega, rfl, rfl, fun j h => ?_⟩
        by_cases e : j = i
        · subst e; exact eq
        · exact b1 j (by omega)
