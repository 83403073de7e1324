/-- a loop that fills a row -/
theorem zfill_r {c N : Nat} {v : Int32} {K : zMem → Prop} {M : zMem} (hN : N < 2147483647) (hK : ∀ M', (∀ j, j < N → M' c j = v) → (∀ j, N ≤ j → M' c j = M c j) → (∀ k, k ≠ c → M' k = M k) → K M') :
    ∃ n, zlp1 (fun (J : Int32 → zMem → Prop) (x : Int32) (M : zMem) => (nI N ≤ x → K M) ∧ (¬ nI N ≤ x → vp_in x N ∧ ∀ M1 : zMem, M1 = zup M c (ix x) v → ∀ y : Int32, y = x + 1 → J y M1)) n 0 M := by
  refine zlp1_r (fun m x M1 => ∃ h, x = nI h ∧ h ≤ N ∧ m = N - h ∧ (∀ j, j < h → M1 c j = v) ∧ (∀ j, h ≤ j → M1 c j = M c j) ∧ (∀ k, k ≠ c → M1 k = M k)) ?_ (n := N) ⟨0, rfl, Nat.zero_le _, rfl, fun j hj => absurd hj (by omega), fun _ _ => rfl, fun _ _ => rfl⟩
  rintro m x M1 ⟨h, rfl, hh, rfl, a1, a2, a3⟩ J hJ
  refine ⟨fun q => ?_, fun q => ?_⟩
  · have := (nI_leI (a := N) (b := h) (by omega) (by omega)).mp q
    have e : h = N := by omega
    subst e
    exact hK M1 a1 a2 a3
  · have q1 : h < N := Nat.lt_of_not_le (fun z => q (nI_le z (by omega)))
    refine ⟨vp_in_nI q1 (by omega), fun M2 hM2 y hy => ?_⟩
    rw [q_ix (by omega)] at hM2
    rw [hy, nI_1, hM2]
    refine hJ (N - (h + 1)) _ _ (by omega) ⟨h + 1, rfl, by omega, rfl, fun j hj => ?_, fun j hj => ?_, fun k hk => ?_⟩
    · by_cases e : j = h
      · subst e; rw [zup_eq, upd_eq]
      · rw [zup_eq, upd_ne e]; exact a1 j (by omega)
    · rw [zup_eq, upd_ne (by omega)]; exact a2 j (by omega)
    · rw [zup_ne hk]; exact a3 k hk
/-- hands are ready as at first -/
def sp_ready (b : Nat) (M M' : zMem) : Prop := M' b 5 = 0 ∧ (∀ h, h < 5 → M' (b + 1) h = 0 ∧ M' (b + 2) h = 0 ∧ M' (b + 3) h = -1) ∧ (∀ j, j ≠ 5 → M' b j = M b j) ∧ (∀ i, 4 ≤ i → i ≤ 8 → M' (b + i) = M (b + i)) ∧ (∀ k, (k < b ∨ b + 9 ≤ k) → M' k = M k)
theorem xt_makeReady {b : Nat} {M : zMem} {Q : zMem → Prop} (hQ : ∀ M', sp_ready b M M' → Q M') : wp_Bench_makeReady b M Q := by
  unfold wp_Bench_makeReady
  intro M1 hM1
  refine zlp1_r (fun m x M2 => ∃ h, x = nI h ∧ h ≤ 5 ∧ m = 5 - h ∧ M2 b 5 = 0 ∧ (∀ j, j < h → M2 (b + 1) j = 0 ∧ M2 (b + 2) j = 0 ∧ M2 (b + 3) j = -1) ∧ (∀ j, j ≠ 5 → M2 b j = M b j) ∧ (∀ i, 4 ≤ i → i ≤ 8 → M2 (b + i) = M (b + i)) ∧ (∀ k, (k < b ∨ b + 9 ≤ k) → M2 k = M k)) ?_ (n := 5) ⟨0, rfl, by omega, rfl, by rw [hM1, zup_eq, upd_eq], fun j hj => absurd hj (by omega), fun j hj => by rw [hM1, zup_eq, upd_ne hj], fun i i1 i2 => by rw [hM1, zup_ne (by omega)], fun k hk => by rw [hM1, zup_ne (by omega)]⟩
  rintro m x M2 ⟨h, rfl, hh, rfl, a1, a2, a3, a4, a5⟩ J hJ
  unfold wpB_Bench_makeReady_7
  refine ⟨fun q => ?_, fun q => ?_⟩
  · have := (nI_leI (a := 5) (b := h) (by omega) (by omega)).mp q
    have e : h = 5 := by omega
    subst e
    exact hQ M2 ⟨a1, a2, a3, a4, a5⟩
  · have q1 : h < 5 := Nat.lt_of_not_le (fun z => q (nI_le (a := 5) z (by omega)))
    have e1 : ix (nI h) = h := q_ix (by omega)
    have e2 : vp_in (nI h) 5 := vp_in_nI (by omega) (by omega)
    rw [e1]
    refine ⟨e2, fun Ma hMa => ⟨e2, fun Mb hMb => ⟨e2, fun Mc hMc y hy => ?_⟩⟩⟩
    rw [hy, nI_1]
    refine hJ (5 - (h + 1)) _ _ (by omega) ⟨h + 1, rfl, by omega, rfl, ?_, fun j hj => ?_, fun j hj => ?_, fun i i1 i2 => ?_, fun k hk => ?_⟩
    · rw [hMc, hMb, hMa]; simp (disch := omega) only [zup_ne]; exact a1
    · rw [hMc, hMb, hMa]
      by_cases e : j = h
      · subst e
        simp (disch := omega) only [zup_ne, zup_eq, upd_eq, and_self]
      · simp (disch := omega) only [zup_ne, zup_eq, upd_ne]
        exact a2 j (by omega)
    · rw [hMc, hMb, hMa]; simp (disch := omega) only [zup_ne]; exact a3 j hj
    · rw [hMc, hMb, hMa]; simp (disch := omega) only [zup_ne]; exact a4 i i1 i2
    · rw [hMc, hMb, hMa]; simp (disch := omega) only [zup_ne]; exact a5 k hk
/-- a bench as at first -/
def sp_clear (b : Nat) (M M' : zMem) : Prop := M' b 2 = 0 ∧ M' b 3 = 0 ∧ M' b 4 = 0 ∧ M' b 5 = 0 ∧ M' b 0 = M b 0 ∧ M' b 1 = M b 1 ∧ (∀ h, h < 5 → M' (b + 1) h = 0 ∧ M' (b + 2) h = 0 ∧ M' (b + 3) h = -1 ∧ M' (b + 6) h = 0) ∧ (∀ i, i < 40 → M' (b + 7) i = 0) ∧ (∀ p, p < 8 → M' (b + 8) p = 0) ∧ (∀ k, (k < b ∨ b + 9 ≤ k) → M' k = M k)
theorem xt_clear {b : Nat} {M : zMem} {Q : zMem → Prop} (hQ : ∀ M', sp_clear b M M' → Q M') : wp_Bench_clear b M Q := by
  unfold wp_Bench_clear
  intro M1 hM1 M2 hM2 M3 hM3
  refine zfill_r (c := b + 6) (N := 5) (v := 0) (by omega) (fun M4 a1 a2 a3 => ?_)
  refine zfill_r (c := b + 7) (N := 40) (v := 0) (by omega) (fun M5 b1 b2 b3 => ?_)
  refine zfill_r (c := b + 8) (N := 8) (v := 0) (by omega) (fun M6 c1 c2 c3 => ?_)
  refine xt_makeReady (fun M7 hr => ?_)
  obtain ⟨r1, r2, r3, r4, r5⟩ := hr
  have e0 : ∀ j, j ≠ 5 → M7 b j = M3 b j := fun j hj => by rw [r3 j hj, c3 b (by omega), b3 b (by omega), a3 b (by omega)]
  refine hQ M7 ⟨?_, ?_, ?_, r1, ?_, ?_, fun h hh => ⟨(r2 h hh).1, (r2 h hh).2.1, (r2 h hh).2.2, ?_⟩, fun i hi => ?_, fun p hp => ?_, fun k hk => ?_⟩
  · rw [e0 2 (by omega), hM3, hM2, hM1]; simp (disch := omega) only [zup_eq, upd_ne, upd_eq]
  · rw [e0 3 (by omega), hM3, hM2]; simp (disch := omega) only [zup_eq, upd_ne, upd_eq]
  · rw [e0 4 (by omega), hM3]; simp (disch := omega) only [zup_eq, upd_eq]
  · rw [e0 0 (by omega), hM3, hM2, hM1]; simp (disch := omega) only [zup_eq, upd_ne]
  · rw [e0 1 (by omega), hM3, hM2, hM1]; simp (disch := omega) only [zup_eq, upd_ne]
  · rw [r4 6 (by omega) (by omega), c3 _ (by omega), b3 _ (by omega)]; exact a1 h hh
  · rw [r4 7 (by omega) (by omega), c3 _ (by omega)]; exact b1 i hi
  · rw [r4 8 (by omega) (by omega)]; exact c1 p hp
  · rw [r5 k hk, c3 k (by omega), b3 k (by omega), a3 k (by omega), hM3, hM2, hM1]; simp (disch := omega) only [zup_ne]
theorem sp_ok_clear {t b n H L : Nat} {M M' : zMem} (hc : sp_clear b M M') (ht : ztc (M b 0) = t) (hd2 : t + 4 < 18) (hb : 18 ≤ b) (vt : sp_vt M t n H L) (hg : ∀ g, zlg b = some g → ∃ z, M g 0 = nI z ∧ z ≤ 600) : sp_ok M' t b n H L := by
  obtain ⟨c2, c3, c4, c5, c0, c1, ch, cl, cs, ck⟩ := hc
  refine ⟨by rw [c0]; exact ht, hd2, hb, vt.moved (fun i hi => ck _ (by omega)), ⟨0, vt.1.2.2.2.2.1, c5⟩, fun h hh => Or.inl ⟨(ch h ?_).1, (ch h ?_).2.1, (ch h ?_).2.2.1⟩, fun g q => ?_⟩
  · have := vt.1.2.2.2.1; omega
  · have := vt.1.2.2.2.1; omega
  · have := vt.1.2.2.2.1; omega
  · rcases zlg_cases b with c | ⟨c, hb32⟩
    · rw [c] at q; cases q
    · rw [c] at q
      cases q
      rw [ck 30 (by omega)]
      exact hg 30 c
/-- the reference's page is empty -/
theorem mt_clear {pg : Nat} {W : zMem} {Q : zMem → Prop} (hpg : pg < 4) (hQ : ∀ W', (∀ j, j < 96 → W' 6 (96 * pg + j) = 0) → (∀ j, (j < 96 * pg ∨ 96 * pg + 96 ≤ j) → W' 6 j = W 6 j) → (∀ k, k ≠ 6 → W' k = W k) → Q W') : wp_Model_clear (nI pg) W Q := by
  unfold wp_Model_clear
  refine zlp1_r (fun m x W1 => ∃ h, x = nI h ∧ h ≤ 96 ∧ m = 96 - h ∧ (∀ j, j < h → W1 6 (96 * pg + j) = 0) ∧ (∀ j, (j < 96 * pg ∨ 96 * pg + 96 ≤ j) → W1 6 j = W 6 j) ∧ (∀ k, k ≠ 6 → W1 k = W k)) ?_ (n := 96) ⟨0, rfl, by omega, rfl, fun j hj => absurd hj (by omega), fun _ _ => rfl, fun _ _ => rfl⟩
  rintro m x W1 ⟨h, rfl, hh, rfl, a1, a2, a3⟩ J hJ
  unfold wpB_Model_clear_2
  refine ⟨fun q => ?_, fun q => ?_⟩
  · have := (nI_leI (a := 96) (b := h) (by omega) (by omega)).mp q
    have e : h = 96 := by omega
    subst e
    exact hQ W1 a1 a2 a3
  · have q1 : h < 96 := Nat.lt_of_not_le (fun z => q (nI_le (a := 96) z (by omega)))
    have e1 : ix (96 * nI pg + nI h) = 96 * pg + h := by simp (disch := omega) only [q_lit, q_add, q_mul, q_sub, q_ix, q_in, q_lt, q_le, q_eq, q_nlt, q_nle, q_ltn, q_len, q_neq, q_eqn, zup_ne, zup_eq, zset_ne, zset_eq, upd_eq, upd_ne, forall_eq, true_and, and_true, true_implies, false_implies, implies_true, not_true_eq_false, not_false_eq_true, and_self, ↓reduceIte, false_and, and_false]
    have e2 : vp_in (96 * nI pg + nI h) 384 := by simp (disch := omega) only [q_lit, q_add, q_mul, q_sub, q_ix, q_in, q_lt, q_le, q_eq, q_nlt, q_nle, q_ltn, q_len, q_neq, q_eqn, zup_ne, zup_eq, zset_ne, zset_eq, upd_eq, upd_ne, forall_eq, true_and, and_true, true_implies, false_implies, implies_true, not_true_eq_false, not_false_eq_true, and_self, ↓reduceIte, false_and, and_false]
    rw [e1]
    refine ⟨e2, fun W2 hW2 y hy => ?_⟩
    rw [hy, nI_1, hW2]
    refine hJ (96 - (h + 1)) _ _ (by omega) ⟨h + 1, rfl, by omega, rfl, fun j hj => ?_, fun j hj => ?_, fun k hk => ?_⟩
    · by_cases e : j = h
      · subst e; rw [zup_eq, upd_eq]
      · rw [zup_eq, upd_ne (by omega)]; exact a1 j (by omega)
    · rw [zup_eq, upd_ne (by omega)]; exact a2 j hj
    · rw [zup_ne hk]; exact a3 k hk
