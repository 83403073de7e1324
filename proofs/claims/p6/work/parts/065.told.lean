/-- what is told, on both sides -/
def rt0 (W M : zMem) (n H L : Nat) : Prop :=
  W 4 0 = nI n ∧ W 4 1 = nI H ∧ W 4 2 = M 1 2 ∧ W 4 3 = M 1 3 ∧ W 4 4 = M 1 4 ∧ W 4 5 = M 1 5 ∧ W 4 6 = nI L ∧ (∀ i, i < L → W 4 (10 + i) = M 2 i) ∧ (∀ s p, s < 3 → p < n → W 4 (30 + 8 * s + p) = M 3 (s * 8 + p)) ∧ (∀ h p, h < H → p < n → W 4 (60 + 8 * h + p) = M 4 (h * 8 + p)) ∧ (∀ h, h < H → M 5 h = if h = H - 1 ∨ M 1 4 = 0 then nI n else W 4 (20 + h))
theorem mt_endOf {n H L h : Nat} {M W : zMem} {Q : Int32 → zMem → Prop} (vt : sp_vt M 1 n H L) (r : rt0 W M n H L) (hh : h < H) (hQ : Q (M 5 h) W) : wp_Model_endOf (nI h) W Q := by
  obtain ⟨r0, r1, r2, r3, r4, r5, r6, rrow, run, rpa, ren⟩ := r
  have H5 : H ≤ 5 := vt.1.2.2.2.1
  have i0 : vp_in 0 100 := vp_in_nI (n := 0) (by omega) (by omega)
  have i1 : vp_in 1 100 := vp_in_nI (n := 1) (by omega) (by omega)
  have i4 : vp_in 4 100 := vp_in_nI (n := 4) (by omega) (by omega)
  have j0 : ix 0 = 0 := rfl
  have j1 : ix 1 = 1 := rfl
  have j4 : ix 4 = 4 := rfl
  have i20 : vp_in (20 + nI h) 100 := by simp (disch := omega) only [q_lit, q_add, q_mul, q_sub, q_ix, q_in, q_lt, q_le, q_eq, q_nlt, q_nle, q_ltn, q_len, q_neq, q_eqn, zup_ne, zup_eq, zset_ne, zset_eq, upd_eq, upd_ne, forall_eq, true_and, and_true, true_implies, false_implies, implies_true, not_true_eq_false, not_false_eq_true, and_self, ↓reduceIte, false_and, and_false]
  have j20 : ix (20 + nI h) = 20 + h := by simp (disch := omega) only [q_lit, q_add, q_mul, q_sub, q_ix, q_in, q_lt, q_le, q_eq, q_nlt, q_nle, q_ltn, q_len, q_neq, q_eqn, zup_ne, zup_eq, zset_ne, zset_eq, upd_eq, upd_ne, forall_eq, true_and, and_true, true_implies, false_implies, implies_true, not_true_eq_false, not_false_eq_true, and_self, ↓reduceIte, false_and, and_false]
  unfold wp_Model_endOf
  rw [j0, j1, j4, j20, r0, r1, r4, q_pred (by omega)]
  rw [ren h hh] at hQ
  refine ⟨i1, fun c => ⟨i0, ?_⟩, fun c => ⟨i4, fun c2 => ⟨i20, ?_⟩, fun c2 => ⟨i0, ?_⟩⟩⟩
  · have : h = H - 1 := (nI_eq (by omega) (by omega)).mp c
    rw [if_pos (Or.inl this)] at hQ
    exact hQ
  · rw [if_neg ?_] at hQ
    · exact hQ
    · rintro (q | q)
      · exact c (by rw [← q])
      · exact c2 q
  · rw [if_pos (Or.inr c2)] at hQ
    exact hQ
/-- hands as they are numbered -/
def mnum (W W' M : zMem) (H : Nat) : Prop := W' 0 18 = nI H ∧ W' 0 19 = M 1 4 ∧ (∀ h, h < H → W' 8 h = nI h ∧ W' 9 h = M 5 h) ∧ (∀ j, j ≠ 18 → j ≠ 19 → W' 0 j = W 0 j) ∧ (∀ k, k ≠ 0 → k ≠ 8 → k ≠ 9 → W' k = W k)
theorem rt0.moved {W W' M M' : zMem} {n H L : Nat} (r : rt0 W M n H L) (e4 : W' 4 = W 4) (e : ∀ i, i ≤ 4 → M' (1 + i) = M (1 + i)) : rt0 W' M' n H L := by
  have e1 : M' 1 = M 1 := e 0 (by omega)
  have e2 : M' 2 = M 2 := e 1 (by omega)
  have e3 : M' 3 = M 3 := e 2 (by omega)
  have e5 : M' 4 = M 4 := e 3 (by omega)
  have e6 : M' 5 = M 5 := e 4 (by omega)
  unfold rt0 at r ⊢
  rw [e4, e1, e2, e3, e5, e6]
  exact r
theorem mt_asNumbered {n H L : Nat} {M W : zMem} {Q : zMem → Prop} (vt : sp_vt M 1 n H L) (r : rt0 W M n H L) (hQ : ∀ W', mnum W W' M H → Q W') : wp_Model_asNumbered W Q := by
  have H5 : H ≤ 5 := vt.1.2.2.2.1
  have i1 : vp_in 1 100 := vp_in_nI (n := 1) (by omega) (by omega)
  have i4 : vp_in 4 100 := vp_in_nI (n := 4) (by omega) (by omega)
  have j1 : ix 1 = 1 := rfl
  have j4 : ix 4 = 4 := rfl
  unfold wp_Model_asNumbered
  rw [j1, j4, r.2.1]
  refine ⟨i1, fun W1 hW1 => ⟨i4, fun W2 hW2 => ?_⟩⟩
  have e14 : W1 4 4 = M 1 4 := by rw [hW1, zup_ne (by omega)]; exact r.2.2.2.2.1
  rw [e14] at hW2
  refine zlp1_r (fun m x W3 => ∃ h, x = nI h ∧ h ≤ H ∧ m = H - h ∧ W3 0 18 = nI H ∧ W3 0 19 = M 1 4 ∧ (∀ j, j < h → W3 8 j = nI j ∧ W3 9 j = M 5 j) ∧ (∀ j, j ≠ 18 → j ≠ 19 → W3 0 j = W 0 j) ∧ (∀ k, k ≠ 0 → k ≠ 8 → k ≠ 9 → W3 k = W k)) ?_ (n := H) ⟨0, rfl, Nat.zero_le _, rfl, ?_, ?_, fun j hj => absurd hj (by omega), fun j a c => ?_, fun k a _ _ => ?_⟩
  · rintro m x W3 ⟨h, rfl, hh, rfl, a1, a2, a3, a4, a5⟩ J hJ
    unfold wpB_Model_asNumbered_22
    rw [a1]
    refine ⟨fun q => ?_, fun q => ?_⟩
    · have := (nI_leI (a := H) (b := h) (by omega) (by omega)).mp q
      have e : h = H := by omega
      subst e
      exact hQ W3 ⟨a1, a2, a3, a4, a5⟩
    · have q1 : h < H := Nat.lt_of_not_le (fun z => q (nI_le z (by omega)))
      have e1 : ix (nI h) = h := q_ix (by omega)
      have e2 : vp_in (nI h) 5 := vp_in_nI (by omega) (by omega)
      rw [e1]
      refine ⟨e2, fun W4 hW4 => ?_⟩
      have r4 : rt0 W4 M n H L := r.moved (by rw [hW4, zup_ne (by omega)]; exact a5 4 (by omega) (by omega) (by omega)) (fun _ _ => rfl)
      refine mt_endOf vt r4 q1 ⟨e2, fun W5 hW5 y hy => ?_⟩
      rw [hy, nI_1]
      refine hJ (H - (h + 1)) _ _ (by omega) ⟨h + 1, rfl, by omega, rfl, ?_, ?_, fun j hj => ?_, fun j b1 b2 => ?_, fun k b1 b2 b3 => ?_⟩
      · rw [hW5, hW4]; simp (disch := omega) only [zup_ne]; exact a1
      · rw [hW5, hW4]; simp (disch := omega) only [zup_ne]; exact a2
      · rw [hW5, hW4]
        by_cases e : j = h
        · subst e; simp (disch := omega) only [zup_ne, zup_eq, upd_eq, and_self]
        · simp (disch := omega) only [zup_ne, zup_eq, upd_ne]; exact a3 j (by omega)
      · rw [hW5, hW4]; simp (disch := omega) only [zup_ne]; exact a4 j b1 b2
      · rw [hW5, hW4]; simp (disch := omega) only [zup_ne]; exact a5 k b1 b2 b3
  · rw [hW2, hW1]; simp (disch := omega) only [zup_eq, upd_ne, upd_eq]
  · rw [hW2]; simp (disch := omega) only [zup_eq, upd_eq]
  · rw [hW2, hW1]; simp (disch := omega) only [zup_eq, upd_ne]
  · rw [hW2, hW1]; simp (disch := omega) only [zup_ne]
theorem mr_t_of {W M M' : zMem} {n H L : Nat} (r : rt0 W M n H L) (h18 : W 0 18 = nI H) (h19 : W 0 19 = M 1 4) (h9 : ∀ h, h < H → W 9 h = M 5 h) : mr_t W M 1 n H L := by
  obtain ⟨r0, r1, r2, r3, r4, r5, r6, rrow, run, rpa, ren⟩ := r
  exact ⟨r0, h18, r2, r3, h19, r5, r6, rrow, run, h9⟩
/-- an empty page and an empty bench, hands by wh -/
theorem mr_clear {W M : zMem} {pg t b n H L : Nat} {wh : Nat → Nat} {M0 : zMem} (hpg : pg < 4) (hp0 : ∀ j, j < 96 → W 6 (96 * pg + j) = 0) (hc : sp_clear b M0 M) (n8 : n ≤ 8) (H5 : H ≤ 5) (ht : mr_t W M t n H L) (hw1 : ∀ h, h < H → wh h < 5 ∧ W 8 h = nI (wh h)) (hw2 : ∀ h j, h < H → j < H → wh h = wh j → h = j) (hw3 : ∀ h p, h < H → p < n → W 4 (60 + 8 * wh h + p) = M (t + 3) (h * 8 + p)) (hg : pg = 1 → b = 32 → M 30 0 = 0) : mr W M pg t b n H L wh := by
  obtain ⟨c2, c3, c4, c5, c0, c1, ch, cl, cs, ck⟩ := hc
  have z : ∀ j, j < 96 → W 6 (96 * pg + j) = nI 0 := hp0
  refine ⟨hpg, ht, ⟨hw1, hw2, hw3, fun h p hh hp => ?_, fun h p hh hp hp8 => ?_⟩, fun h hh => ⟨?_, ?_, ?_, Or.inl ⟨(ch h (by omega)).2.2.1, ?_, ?_, ?_⟩⟩, ⟨?_, ?_, ?_, ?_⟩, fun h1 h2 => ⟨0, by omega, c4, hg h1 h2, fun j hj => absurd hj (by omega)⟩⟩
  · have := (hw1 h hh).1
    rw [show 96 * pg + 48 + 8 * wh h + p = 96 * pg + (48 + 8 * wh h + p) by omega, hp0 _ (by omega), cl _ (by omega)]
  · have := (hw1 h hh).1
    rw [show 96 * pg + 48 + 8 * wh h + p = 96 * pg + (48 + 8 * wh h + p) by omega, hp0 _ (by omega)]
  · rw [show 96 * pg + 8 + 8 * h = 96 * pg + (8 + 8 * h) by omega, hp0 _ (by omega), (ch h (by omega)).1]
  · rw [show 96 * pg + 8 + 8 * h + 1 = 96 * pg + (8 + 8 * h + 1) by omega, hp0 _ (by omega), (ch h (by omega)).2.1]
  · rw [show 96 * pg + 8 + 8 * h + 5 = 96 * pg + (8 + 8 * h + 5) by omega, hp0 _ (by omega), (ch h (by omega)).2.2.2]
  · rw [show 96 * pg + 8 + 8 * h + 2 = 96 * pg + (8 + 8 * h + 2) by omega]; exact z _ (by omega)
  · rw [show 96 * pg + 8 + 8 * h + 3 = 96 * pg + (8 + 8 * h + 3) by omega]; exact z _ (by omega)
  · rw [show 96 * pg + 8 + 8 * h + 4 = 96 * pg + (8 + 8 * h + 4) by omega]; exact z _ (by omega)
  · have := hp0 0 (by omega)
    rw [Nat.add_zero] at this
    rw [this, c2]
  · rw [hp0 1 (by omega), c3]
  · rw [hp0 2 (by omega), c4]
  · rw [hp0 4 (by omega), c5]
