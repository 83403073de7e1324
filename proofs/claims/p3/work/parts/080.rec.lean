/-- a hand in one number, what was learned and counts, a record -/
def sp_num (b h : Nat) (M : zMem) : Int32 := ((if 0 ≤ M (b + 3) h then (M (b + 3) h + 1) * 100 + M (b + 4) h * 10 + M (b + 5) h else 0) * 100 + M (b + 2) h) * 10 + M (b + 1) h
def sp_cnt (t b i : Nat) (M : zMem) : Int32 := if M t 3 * (M (t + 3) i - 1) ≤ M (b + 7) i then M t 3 * (M (t + 3) i - 1) else M (b + 7) i
def sp_row (t b n H : Nat) (M : zMem) (i : Nat) : Int32 := if i = 0 then M b 5 else if i < 6 then (if i - 1 < H then sp_num b (i - 1) M else 0) else if (i - 6) / 8 < H ∧ (i - 6) % 8 < n then sp_cnt t b (i - 6) M else 0
theorem e_num {b h : Nat} {M : zMem} {Q : Int32 → zMem → Prop} (hh : h < 5) : wp_Bench_inOneNumber b (nI h) M Q = Q (sp_num b h M) M := by
  unfold wp_Bench_inOneNumber wpJ_Bench_inOneNumber_41 sp_num
  rw [q_ix (by omega), q_in hh (by omega)]
  simp only [true_and]
  apply propext
  by_cases c : 0 ≤ M (b + 3) h
  · simp only [c, true_implies, not_true_eq_false, false_implies, and_true, if_true]
  · simp only [c, true_implies, not_false_eq_true, false_implies, true_and, if_false]
theorem e_cnt {t b h p : Nat} {M : zMem} {Q : Int32 → zMem → Prop} (hh : h < 5) (hp : p < 8) : wp_Told_learnedThatCounts t (nI h) (nI p) (M (b + 7) (h * 8 + p)) M Q = Q (sp_cnt t b (h * 8 + p) M) M := by
  unfold wp_Told_learnedThatCounts wp_Told_paceOf sp_cnt
  simp (disch := omega) only [q_lit, q_add, q_mul, q_sub, q_ix, q_in, q_lt, q_le, q_eq, q_nlt, q_nle, q_ltn, q_len, q_neq, q_eqn, zup_ne, zup_eq, zset_ne, zset_eq, upd_eq, upd_ne, forall_eq, true_and, and_true, true_implies, false_implies, implies_true, not_true_eq_false, not_false_eq_true, and_self, ↓reduceIte, false_and, and_false]
  apply propext
  by_cases c : M t 3 * (M (t + 3) (h * 8 + p) - nI 1) ≤ M (b + 7) (h * 8 + p)
  · simp only [c, true_implies, not_true_eq_false, false_implies, and_true, if_true]
  · simp only [c, true_implies, not_false_eq_true, false_implies, true_and, if_false]
theorem sp_row_same {t b n H : Nat} {M M' : zMem} (h1 : M' t = M t) (h2 : M' (t + 3) = M (t + 3)) (h3 : ∀ i, i ≤ 8 → M' (b + i) = M (b + i)) : sp_row t b n H M' = sp_row t b n H M := by
  have h0 : M' b = M b := h3 0 (by omega)
  funext i
  unfold sp_row sp_num sp_cnt
  rw [h1, h2, h0, h3 1 (by omega), h3 2 (by omega), h3 3 (by omega), h3 4 (by omega), h3 5 (by omega), h3 7 (by omega)]
/-- the others are cleared -/
theorem xt_clearOthers {t n H r : Nat} {M : zMem} {Q : zMem → Prop} (hr : r < 120) (ht : t + 4 < 18) (hn : M t 0 = nI n) (hH : M t 1 = nI H) (hn8 : n ≤ 8) (hH5 : H ≤ 5)
    (hQ : ∀ M', (∀ i, i < 46 → M' 42 (46 * r + i) = if i = 0 then M 42 (46 * r + i) else if i < 6 then (if i - 1 < H then M 42 (46 * r + i) else 0) else if (i - 6) / 8 < H ∧ (i - 6) % 8 < n then M 42 (46 * r + i) else 0) → (∀ j, j < 46 * r → M' 42 j = M 42 j) → (∀ k, k ≠ 42 → M' k = M k) → Q M') : wp_Settling_clearOthers 41 (nI (46 * r)) t M Q := by
  unfold wp_Settling_clearOthers
  refine zlp1_r (fun m x M1 => ∃ h, x = nI h ∧ h ≤ 5 ∧ m = 5 - h ∧ (∀ i, i < 46 → M1 42 (46 * r + i) = if i = 0 then M 42 (46 * r + i) else if i < 6 then (if i - 1 < H ∨ h ≤ i - 1 then M 42 (46 * r + i) else 0) else if ((i - 6) / 8 < H ∧ (i - 6) % 8 < n) ∨ h ≤ (i - 6) / 8 then M 42 (46 * r + i) else 0) ∧ (∀ j, j < 46 * r → M1 42 j = M 42 j) ∧ (∀ k, k ≠ 42 → M1 k = M k)) ?_ (n := 5) ⟨0, rfl, by omega, rfl, fun i hi => by simp only [Nat.zero_le, or_true, if_true, ite_self], fun _ _ => rfl, fun _ _ => rfl⟩
  rintro m x M1 ⟨h, rfl, hh, rfl, a1, a2, a3⟩ J hJ
  have nt : M1 t 0 = nI n := by rw [a3 t (by omega)]; exact hn
  have nH : M1 t 1 = nI H := by rw [a3 t (by omega)]; exact hH
  unfold wpB_Settling_clearOthers_2
  refine ⟨fun q => ?_, fun q => ?_⟩
  · have q' := (nI_leI (a := 5) (b := h) (by omega) (by omega)).mp q
    have e : h = 5 := by omega
    subst e
    refine hQ M1 (fun i hi => ?_) a2 a3
    rw [a1 i hi]
    grind
  · have q1 : h < 5 := Nat.lt_of_not_le (fun z => q (nI_le (a := 5) z (by omega)))
    -- the inner loop
    have inner : ∀ M2 : zMem, (∀ i, i < 46 → M2 42 (46 * r + i) = if i = 0 then M 42 (46 * r + i) else if i < 6 then (if i - 1 < H ∨ h + 1 ≤ i - 1 then M 42 (46 * r + i) else 0) else if ((i - 6) / 8 < H ∧ (i - 6) % 8 < n) ∨ h ≤ (i - 6) / 8 then M 42 (46 * r + i) else 0) → (∀ j, j < 46 * r → M2 42 j = M 42 j) → (∀ k, k ≠ 42 → M2 k = M k) → ∃ n : Nat, zlp1 (wpB_Settling_clearOthers_29 41 (nI (46 * r)) t (nI h) (fun (zm4 : zMem) => ∀ zx5 : Int32, zx5 = nI h + 1 → J zx5 zm4) Q) n 0 M2 := by
      intro M2 b1 b2 b3
      refine zlp1_r (fun m x M3 => ∃ p, x = nI p ∧ p ≤ 8 ∧ m = 8 - p ∧ (∀ i, i < 46 → M3 42 (46 * r + i) = if i = 0 then M 42 (46 * r + i) else if i < 6 then (if i - 1 < H ∨ h + 1 ≤ i - 1 then M 42 (46 * r + i) else 0) else if ((i - 6) / 8 < H ∧ (i - 6) % 8 < n) ∨ h * 8 + p ≤ i - 6 then M 42 (46 * r + i) else 0) ∧ (∀ j, j < 46 * r → M3 42 j = M 42 j) ∧ (∀ k, k ≠ 42 → M3 k = M k)) ?_ (n := 8) ⟨0, rfl, by omega, rfl, fun i hi => by rw [b1 i hi]; grind, b2, b3⟩
      rintro m x M3 ⟨p, rfl, hp, rfl, c1, c2, c3⟩ J2 hJ2
      have mt : M3 t 0 = nI n := by rw [c3 t (by omega)]; exact hn
      have mH : M3 t 1 = nI H := by rw [c3 t (by omega)]; exact hH
      unfold wpB_Settling_clearOthers_29
      refine ⟨fun q2 y hy => ?_, fun q2 => ?_⟩
      · have q' := (nI_leI (a := 8) (b := p) (by omega) (by omega)).mp q2
        have e : p = 8 := by omega
        subst e
        rw [hy, nI_1]
        refine hJ (5 - (h + 1)) _ _ (by omega) ⟨h + 1, rfl, by omega, rfl, fun i hi => ?_, c2, c3⟩
        rw [c1 i hi]
        grind
      · have p1 : p < 8 := Nat.lt_of_not_le (fun z => q2 (nI_le (a := 8) z (by omega)))
        have clr : ¬ (h < H ∧ p < n) → wpJ_Settling_clearOthers_53 41 (nI (46 * r)) t (fun (zm4 : zMem) => ∀ zx5 : Int32, zx5 = nI h + 1 → J zx5 zm4) J2 Q (nI h) (nI p) M3 := fun ne => by
          unfold wpJ_Settling_clearOthers_53
          have e1 : nI (46 * r) + 1 + 5 + nI h * 8 + nI p = nI (46 * r + (6 + h * 8 + p)) := by
            simp (disch := omega) only [q_lit, q_add, q_mul]
            exact congrArg nI (by omega)
          rw [e1, q_ix (by omega)]
          refine ⟨vp_in_nI (by omega) (by omega), fun M4 hM4 y hy => ?_⟩
          rw [hy, nI_1, hM4]
          refine hJ2 (8 - (p + 1)) _ _ (by omega) ⟨p + 1, rfl, by omega, rfl, fun i hi => ?_, fun j hj => ?_, fun k hk => ?_⟩
          · by_cases e : i = 6 + h * 8 + p
            · subst e
              rw [zup_eq, upd_eq]
              have d1 : (6 + h * 8 + p - 6) / 8 = h := by omega
              have d2 : (6 + h * 8 + p - 6) % 8 = p := by omega
              rw [if_neg (by omega), if_neg (by omega), d1, d2, if_neg (by omega)]
            · rw [zup_eq, upd_ne (by omega), c1 i hi]
              grind
          · rw [zup_eq, upd_ne (by omega)]; exact c2 j hj
          · rw [zup_ne hk]; exact c3 k hk
        rw [mt, mH]
        refine ⟨fun z => clr ?_, fun z => ⟨fun z2 y hy => ?_, fun z2 => clr ?_⟩⟩
        · have := (nI_leI (a := H) (b := h) (by omega) (by omega)).mp z; omega
        · have zz : h < H := Nat.lt_of_not_le (fun w => z (nI_le w (by omega)))
          have z3 := (nI_ltI (a := p) (b := n) (by omega) (by omega)).mp z2
          rw [hy, nI_1]
          refine hJ2 (8 - (p + 1)) _ _ (by omega) ⟨p + 1, rfl, by omega, rfl, fun i hi => ?_, c2, c3⟩
          rw [c1 i hi]
          by_cases e : i = 6 + h * 8 + p
          · subst e
            have d1 : (6 + h * 8 + p - 6) / 8 = h := by omega
            have d2 : (6 + h * 8 + p - 6) % 8 = p := by omega
            rw [if_neg (by omega), if_neg (by omega), d1, d2, if_pos (Or.inl ⟨zz, z3⟩), if_neg (by omega), if_neg (by omega), if_pos (Or.inl ⟨zz, z3⟩)]
          · grind
        · intro w
          exact z2 (nI_lt w.2 (by omega))
    rw [nH]
    refine ⟨fun z => ?_, fun z => ?_⟩
    · have zz := (nI_ltI (a := h) (b := H) (by omega) (by omega)).mp z
      refine inner M1 (fun i hi => ?_) a2 a3
      rw [a1 i hi]
      grind
    · have zz : ¬ h < H := fun w => z (nI_lt w (by omega))
      have e1 : nI (46 * r) + 1 + nI h = nI (46 * r + (1 + h)) := by
        simp (disch := omega) only [q_lit, q_add, q_mul]
        exact congrArg nI (by omega)
      rw [e1, q_ix (by omega)]
      refine ⟨vp_in_nI (by omega) (by omega), fun M2 hM2 => ?_⟩
      refine inner M2 (fun i hi => ?_) (fun j hj => ?_) (fun k hk => ?_)
      · rw [hM2, zup_eq]
        by_cases e : i = 1 + h
        · subst e
          rw [upd_eq, if_neg (by omega), if_pos (by omega), if_neg (by omega)]
        · rw [upd_ne (by omega), a1 i hi]
          grind
      · rw [hM2, zup_eq, upd_ne (by omega)]; exact a2 j hj
      · rw [hM2, zup_ne hk]; exact a3 k hk
