theorem sp_pf_congr {f g : Nat → Int32} : ∀ m p, (∀ i, p ≤ i → i < p + m → f i = g i) → sp_pf f m p = sp_pf g m p := by
  intro m
  induction m with
  | zero => intro p _; rfl
  | succ m ih =>
    intro p h
    unfold sp_pf
    rw [h p (by omega) (by omega), ih (p + 1) (fun i a b => h i (by omega) (by omega))]
/-- what is told at one place is told at another -/
def td (M : zMem) (t : Nat) (M' : zMem) (t' : Nat) : Prop := (∀ j, j ≤ 6 → M' t' j = M t j) ∧ (∀ j, j < 6 → M' (t' + 1) j = M (t + 1) j) ∧ (∀ j, j < 24 → M' (t' + 2) j = M (t + 2) j) ∧ (∀ j, j < 40 → M' (t' + 3) j = M (t + 3) j) ∧ (∀ j, j < 5 → M' (t' + 4) j = M (t + 4) j)
theorem sp_vt.copy {M M' : zMem} {t t' n H L : Nat} (h : sp_vt M t n H L) (d : td M t M' t') : sp_vt M' t' n H L := by
  obtain ⟨⟨n1, n8, H1, H5, L1, L6⟩, hn, hH, hL, hw, hl, hk, hwh, hrow, hun, hpf, hpa, hen, hel, hek⟩ := h
  obtain ⟨d0, d1, d2, d3, d4⟩ := d
  refine ⟨⟨n1, n8, H1, H5, L1, L6⟩, by rw [d0 0 (by omega)]; exact hn, by rw [d0 1 (by omega)]; exact hH, by rw [d0 6 (by omega)]; exact hL, by rw [d0 2 (by omega)]; exact hw, by rw [d0 3 (by omega)]; exact hl, by rw [d0 4 (by omega)]; exact hk, by rw [d0 5 (by omega)]; exact hwh, fun i hi => by rw [d1 i (by omega)]; exact hrow i hi, fun s p hs hp => by rw [d2 _ (by omega)]; exact hun s p hs hp, fun s hs => ?_, fun h p hh hp => by rw [d3 _ (by omega)]; exact hpa h p hh hp, fun h hh => by rw [d4 h (by omega)]; exact hen h hh, by rw [d4 _ (by omega)]; exact hel, fun z h hh => by rw [d4 h (by omega)]; exact hek (by rw [← d0 4 (by omega)]; exact z) h hh⟩
  rw [sp_pf_congr (f := fun i => M' (t' + 2) (s * 8 + i)) (g := fun i => M (t + 2) (s * 8 + i)) n 0 (fun i _ hi => d2 _ (by omega))]
  exact hpf s hs
theorem zcopy_in {M : zMem} {k0 k1 sp dp n j : Nat} (hs : sp < 2147483648) (hd : dp < 2147483648) (hn : n < 2147483648) (h : dp ≤ j) (h2 : j < dp + n) : zcopyM M k0 k1 (nI sp) (nI dp) (nI n) k1 j = M k0 (sp + (j - dp)) := by
  unfold zcopyM
  rw [zset_eq, q_ix hs, q_ix hd, q_ix hn]
  exact pk_cpy_in h h2
theorem zcopy_out {M : zMem} {k0 k1 sp dp n j : Nat} (hs : sp < 2147483648) (hd : dp < 2147483648) (hn : n < 2147483648) (h : j < dp ∨ dp + n ≤ j) : zcopyM M k0 k1 (nI sp) (nI dp) (nI n) k1 j = M k1 j := by
  unfold zcopyM
  rw [zset_eq, q_ix hs, q_ix hd, q_ix hn]
  exact pk_cpy_out h
theorem zcopy_ne {M : zMem} {k0 k1 k : Nat} {sp dp n : Int32} (h : k ≠ k1) : zcopyM M k0 k1 sp dp n k = M k := zset_ne h
theorem zcpok_nI {sp dp n n0 n1 : Nat} (h1 : sp + n ≤ n0) (h2 : dp + n ≤ n1) (h3 : n0 < 2147483648) (h4 : n1 < 2147483648) : zcpok (nI sp) (nI dp) (nI n) n0 n1 := by
  refine ⟨nI_pos (by omega), nI_pos (by omega), nI_pos (by omega), ?_, ?_⟩
  · rw [q_ix (by omega), q_ix (by omega)]; exact h1
  · rw [q_ix (by omega), q_ix (by omega)]; exact h2
theorem xt_copyFrom {k t : Nat} {M : zMem} {Q : zMem → Prop} (h : k + 4 < t ∨ t + 4 < k) (hQ : ∀ M', td M t M' k → (∀ c, (c < k ∨ k + 5 ≤ c) → M' c = M c) → Q M') : wp_Told_copyFrom k t M Q := by
  unfold wp_Told_copyFrom
  intro M1 e1 M2 e2 M3 e3 M4 e4 M5 e5 M6 e6 M7 e7
  have o7 : ∀ c, c ≠ k → M7 c = M c := fun c hc => by rw [e7, zup_ne hc, e6, zup_ne hc, e5, zup_ne hc, e4, zup_ne hc, e3, zup_ne hc, e2, zup_ne hc, e1, zup_ne hc]
  have ht : t ≠ k := by omega
  have k7 : ∀ j, j ≤ 6 → M7 k j = M t j := fun j hj => by
    have x1 : M1 t = M t := by rw [e1, zup_ne ht]
    have x2 : M2 t = M t := by rw [e2, zup_ne ht, x1]
    have x3 : M3 t = M t := by rw [e3, zup_ne ht, x2]
    have x4 : M4 t = M t := by rw [e4, zup_ne ht, x3]
    have x5 : M5 t = M t := by rw [e5, zup_ne ht, x4]
    have x6 : M6 t = M t := by rw [e6, zup_ne ht, x5]
    rw [x1] at e2; rw [x2] at e3; rw [x3] at e4; rw [x4] at e5; rw [x5] at e6; rw [x6] at e7
    rcases (show j = 0 ∨ j = 1 ∨ j = 2 ∨ j = 3 ∨ j = 4 ∨ j = 5 ∨ j = 6 by omega) with rfl | rfl | rfl | rfl | rfl | rfl | rfl
    all_goals
      rw [e7, e6, e5, e4, e3, e2, e1]
      simp (disch := omega) only [zup_eq, upd_ne, upd_eq]
  clear e7 e6 e5 e4 e3 e2 e1
  refine ⟨zcpok_nI (sp := 0) (dp := 0) (n := 6) (by omega) (by omega) (by omega) (by omega), fun M8 e8 => ⟨zcpok_nI (sp := 0) (dp := 0) (n := 24) (by omega) (by omega) (by omega) (by omega), fun M9 e9 => ⟨zcpok_nI (sp := 0) (dp := 0) (n := 40) (by omega) (by omega) (by omega) (by omega), fun M10 e10 => ⟨zcpok_nI (sp := 0) (dp := 0) (n := 5) (by omega) (by omega) (by omega) (by omega), fun M11 e11 => ?_⟩⟩⟩⟩
  have o11 : ∀ c, c ≠ k + 1 → c ≠ k + 2 → c ≠ k + 3 → c ≠ k + 4 → M11 c = M7 c := fun c a1 a2 a3 a4 => by rw [e11, zcopy_ne a4, e10, zcopy_ne a3, e9, zcopy_ne a2, e8, zcopy_ne a1]
  refine hQ M11 ⟨fun j hj => ?_, fun j hj => ?_, fun j hj => ?_, fun j hj => ?_, fun j hj => ?_⟩ (fun c hc => ?_)
  · rw [o11 k (by omega) (by omega) (by omega) (by omega)]; exact k7 j hj
  · rw [e11, zcopy_ne (by omega), e10, zcopy_ne (by omega), e9, zcopy_ne (by omega), e8]
    have := zcopy_in (M := M7) (k0 := t + 1) (k1 := k + 1) (sp := 0) (dp := 0) (n := 6) (j := j) (by omega) (by omega) (by omega) (by omega) (by omega)
    refine Eq.trans this ?_
    rw [o7 _ (by omega), Nat.sub_zero, Nat.zero_add]
  · rw [e11, zcopy_ne (by omega), e10, zcopy_ne (by omega), e9]
    have := zcopy_in (M := M8) (k0 := t + 2) (k1 := k + 2) (sp := 0) (dp := 0) (n := 24) (j := j) (by omega) (by omega) (by omega) (by omega) (by omega)
    refine Eq.trans this ?_
    rw [e8, zcopy_ne (by omega), o7 _ (by omega), Nat.sub_zero, Nat.zero_add]
  · rw [e11, zcopy_ne (by omega), e10]
    have := zcopy_in (M := M9) (k0 := t + 3) (k1 := k + 3) (sp := 0) (dp := 0) (n := 40) (j := j) (by omega) (by omega) (by omega) (by omega) (by omega)
    refine Eq.trans this ?_
    rw [e9, zcopy_ne (by omega), e8, zcopy_ne (by omega), o7 _ (by omega), Nat.sub_zero, Nat.zero_add]
  · rw [e11]
    have := zcopy_in (M := M10) (k0 := t + 4) (k1 := k + 4) (sp := 0) (dp := 0) (n := 5) (j := j) (by omega) (by omega) (by omega) (by omega) (by omega)
    refine Eq.trans this ?_
    rw [e10, zcopy_ne (by omega), e9, zcopy_ne (by omega), e8, zcopy_ne (by omega), o7 _ (by omega), Nat.sub_zero, Nat.zero_add]
  · rw [o11 c (by omega) (by omega) (by omega) (by omega), o7 c (by omega)]
/-- paces of one hand go to another -/
theorem xt_copyPaces {k t a c : Nat} {M : zMem} {Q : zMem → Prop} (ha : a < 5) (hc : c < 5) (hQ : ∀ M', (∀ p, p < 8 → M' (k + 3) (c * 8 + p) = M (t + 3) (a * 8 + p)) → (∀ j, (j < c * 8 ∨ c * 8 + 8 ≤ j) → M' (k + 3) j = M (k + 3) j) → (∀ d, d ≠ k + 3 → M' d = M d) → Q M') : wp_Told_copyPacesOf k t (nI a) (nI c) M Q := by
  unfold wp_Told_copyPacesOf
  have e1 : nI a * 8 = nI (a * 8) := q_mul a 8
  have e2 : nI c * 8 = nI (c * 8) := q_mul c 8
  rw [e1, e2]
  refine ⟨zcpok_nI (n := 8) (by omega) (by omega) (by omega) (by omega), fun M1 h1 => ?_⟩
  refine hQ M1 (fun p hp => ?_) (fun j hj => ?_) (fun d hd => ?_)
  · rw [h1]
    refine Eq.trans (zcopy_in (M := M) (k0 := t + 3) (k1 := k + 3) (sp := a * 8) (dp := c * 8) (n := 8) (j := c * 8 + p) (by omega) (by omega) (by omega) (by omega) (by omega)) ?_
    exact congrArg (M (t + 3)) (by omega)
  · rw [h1]
    exact zcopy_out (M := M) (k0 := t + 3) (k1 := k + 3) (sp := a * 8) (dp := c * 8) (n := 8) (by omega) (by omega) (by omega) hj
  · rw [h1, zcopy_ne hd]
/-- ends as the rule has them -/
theorem xt_fillEnds {k n H : Nat} {M : zMem} {Q : zMem → Prop} (hn : M k 0 = nI n) (hH : M k 1 = nI H) (H5 : H ≤ 5) (hQ : ∀ M', (∀ h, h < H → M' (k + 4) h = if M k 4 = 0 ∨ h = H - 1 then nI n else M (k + 4) h) → (∀ h, H ≤ h → M' (k + 4) h = M (k + 4) h) → (∀ d, d ≠ k + 4 → M' d = M d) → Q M') : wp_Told_fillEnds k M Q := by
  unfold wp_Told_fillEnds
  refine zlp1_r (fun m x M' => ∃ j, x = nI j ∧ j ≤ H ∧ m = H - j ∧ (∀ h, h < j → M' (k + 4) h = if M k 4 = 0 ∨ h = H - 1 then nI n else M (k + 4) h) ∧ (∀ h, j ≤ h → M' (k + 4) h = M (k + 4) h) ∧ (∀ d, d ≠ k + 4 → M' d = M d)) ?_ (n := H) ⟨0, rfl, by omega, rfl, fun h hh => absurd hh (by omega), fun _ _ => rfl, fun _ _ => rfl⟩
  rintro m x M' ⟨j, rfl, hj, rfl, i1, i2, i3⟩ J hJ
  unfold wpB_Told_fillEnds_2
  have f1 : M' k = M k := i3 k (by omega)
  rw [f1, hH, hn]
  have step : ∀ M'', (∀ d, d ≠ k + 4 → M'' d = M' d) → (∀ h, h ≠ j → M'' (k + 4) h = M' (k + 4) h) → (M'' (k + 4) j = if M k 4 = 0 ∨ j = H - 1 then nI n else M (k + 4) j) → j < H → J (nI (j + 1)) M'' := fun M'' a b c d => by
    refine hJ (H - (j + 1)) _ _ (by omega) ⟨j + 1, rfl, by omega, rfl, fun h hh => ?_, fun h hh => ?_, fun e he => by rw [a e he, i3 e he]⟩
    · by_cases q : h = j
      · rw [q]; exact c
      · rw [b h q]; exact i1 h (by omega)
    · rw [b h (by omega)]; exact i2 h (by omega)
  refine ⟨fun c => ?_, fun c => ?_⟩
  · have := (nI_leI (by omega) (by omega)).mp c
    have e : j = H := by omega
    subst e
    exact hQ M' i1 i2 i3
  have hjH : j < H := (nI_ltI (by omega) (by omega)).mp (Int32.not_le.mp c)
  refine ⟨fun c2 => ⟨vp_in_nI (by omega) (by omega), fun M1 e1 y ey => ?_⟩, fun c2 => ⟨fun c3 y ey => ?_, fun c3 => ⟨vp_in_nI (by omega) (by omega), fun M1 e1 y ey => ?_⟩⟩⟩
  · rw [ey, nI_1]
    rw [q_ix (by omega)] at e1
    exact step M1 (fun d hd => by rw [e1, zup_ne hd]) (fun h hh => by rw [e1, zup_eq, upd_ne hh]) (by rw [e1, zup_eq, upd_eq, if_pos (Or.inl c2)]) hjH
  · rw [ey, nI_1]
    rw [q_pred (by omega)] at c3
    have c4 : j ≠ H - 1 := fun q => c3 (by rw [q])
    exact step M' (fun _ _ => rfl) (fun _ _ => rfl) (by rw [i2 j (Nat.le_refl _), if_neg (fun q => q.elim c2 c4)]) hjH
  · rw [ey, nI_1]
    rw [q_ix (by omega)] at e1
    rw [q_pred (by omega)] at c3
    have c4 : j = H - 1 := (nI_eq (by omega) (by omega)).mp c3
    exact step M1 (fun d hd => by rw [e1, zup_ne hd]) (fun h hh => by rw [e1, zup_eq, upd_ne hh]) (by rw [e1, zup_eq, upd_eq, if_pos (Or.inr c4)]) hjH
