theorem xt_takeFrom {M : zMem} {Q : zMem → Prop} (hQ : ∀ M', M' 60 0 = M 60 0 → M' 60 1 = M 55 6 → M' 60 2 = M 55 7 → (∀ i, i < 5 → M' 61 i = M 10 i) → (∀ k, k ≠ 60 → k ≠ 61 → M' k = M k) → Q M') : wp_Parts_takeFrom 60 6 55 M Q := by
  unfold wp_Parts_takeFrom
  intro M1 e1 M2 e2
  refine ⟨zcpok_nI (sp := 0) (dp := 0) (n := 5) (by omega) (by omega) (by omega) (by omega), fun M3 e3 => ?_⟩
  have k3 : ∀ k, k ≠ 61 → M3 k = M2 k := fun k hk => by rw [e3, zcopy_ne hk]
  have x1 : M1 55 7 = M 55 7 := by rw [e1, zup_ne (by omega)]
  rw [x1] at e2
  refine hQ M3 ?_ ?_ ?_ (fun i hi => ?_) (fun k a b => ?_)
  · rw [k3 60 (by omega), e2, zup_eq, upd_ne (by omega), e1, zup_eq, upd_ne (by omega)]
  · rw [k3 60 (by omega), e2, zup_eq, upd_ne (by omega), e1, zup_eq, upd_eq]
  · rw [k3 60 (by omega), e2, zup_eq, upd_eq]
  · rw [e3]
    refine (zcopy_in (M := M2) (k0 := 6 + 4) (k1 := 60 + 1) (sp := 0) (dp := 0) (n := 5) (j := i) (by omega) (by omega) (by omega) (by omega) (by omega)).trans ?_
    rw [e2, zup_ne (by omega), e1, zup_ne (by omega), Nat.sub_zero, Nat.zero_add]
  · rw [k3 k b, e2, zup_ne a, e1, zup_ne a]
theorem xt_ends1 {H : Nat} {M : zMem} {K : zMem → Prop} {Q : zMem → Prop} (hH : M 1 1 = nI H) (H1 : 1 ≤ H) (H5 : H ≤ 5) (hK : ∀ M', (∀ i, i < H - 1 → M' 10 i = nI (i + 1)) → (∀ i, H - 1 ≤ i → M' 10 i = M 10 i) → (∀ d, d ≠ 10 → M' d = M d) → K M') : ∃ n, zlp1 (wpB_Main_findParts_56 K Q) n 0 M := by
  refine zlp1_r (fun f x M' => ∃ i, x = nI i ∧ i ≤ H - 1 ∧ f = H - 1 - i ∧ (∀ j, j < i → M' 10 j = nI (j + 1)) ∧ (∀ j, i ≤ j → M' 10 j = M 10 j) ∧ (∀ d, d ≠ 10 → M' d = M d)) ?_ (n := H - 1) ⟨0, rfl, by omega, rfl, fun j hj => absurd hj (by omega), fun _ _ => rfl, fun _ _ => rfl⟩
  rintro f x M' ⟨i, rfl, hi, rfl, i1, i2, i3⟩ J hJ
  unfold wpB_Main_findParts_56
  rw [i3 1 (by omega), hH, q_pred (by omega)]
  refine ⟨fun c => ?_, fun c => ?_⟩
  · have := (nI_leI (by omega) (by omega)).mp c
    have ei : i = H - 1 := by omega
    subst ei
    exact hK M' i1 i2 i3
  · have hi2 : i < H - 1 := (nI_ltI (by omega) (by omega)).mp (Int32.not_le.mp c)
    refine ⟨vp_in_nI (by omega) (by omega), fun M7 e7 y ey => ?_⟩
    rw [q_ix (by omega), nI_1] at e7
    rw [ey, nI_1]
    refine hJ (H - 1 - (i + 1)) _ _ (by omega) ⟨i + 1, rfl, by omega, rfl, fun j hj => ?_, fun j hj => ?_, fun d hd => ?_⟩
    · rw [e7, zup_eq]
      by_cases z : j = i
      · rw [z, upd_eq]
      · rw [upd_ne z]; exact i1 j (by omega)
    · rw [e7, zup_eq, upd_ne (by omega)]; exact i2 j (by omega)
    · rw [e7, zup_ne hd]; exact i3 d hd
/-- the parts that are looked at now are told well -/
def pvt (M M1 : zMem) (n H k : Nat) : Prop := (∀ j, j ≤ 6 → j ≠ 4 → M1 6 j = M 1 j) ∧ M1 6 4 = 2 ∧ (∀ j, j < 6 → M1 7 j = M 2 j) ∧ (∀ j, j < 24 → M1 8 j = M 3 j) ∧ (∀ j, j < 40 → M1 9 j = M 4 j) ∧ (∀ i, i < H - 1 → M1 10 i = nI (pv (pm n H k) i)) ∧ M1 10 (H - 1) = nI n
theorem pvt.vt {M M1 : zMem} {n H L k : Nat} (vt : sp_vt M 1 n H L) (hHn : H ≤ n) (hk : k < pN n H) (h : pvt M M1 n H k) : sp_vt M1 6 n H L := by
  obtain ⟨⟨n1, n8, H1, H5, L1, L6⟩, hn, hH, hL, hw, hl, -, hwh, hrow, hun, hpf, hpa, -, -, -⟩ := vt
  obtain ⟨g6, g64, g7, g8, g9, g10, gl⟩ := h
  obtain ⟨-, -, -, pk⟩ := pm_ok n8 H1 H5 hHn hk
  refine ⟨⟨n1, n8, H1, H5, L1, L6⟩, by rw [g6 0 (by omega) (by omega)]; exact hn, by rw [g6 1 (by omega) (by omega)]; exact hH, by rw [g6 6 (by omega) (by omega)]; exact hL, by rw [g6 2 (by omega) (by omega)]; exact hw, by rw [g6 3 (by omega) (by omega)]; exact hl, ⟨2, by omega, g64⟩, by rw [g6 5 (by omega) (by omega)]; exact hwh, fun i hi => by rw [g7 i (by omega)]; exact hrow i hi, fun s p hs hp => by rw [g8 _ (by omega)]; exact hun s p hs hp, fun s hs => ?_, fun h p hh hp => by rw [g9 _ (by omega)]; exact hpa h p hh hp, fun h hh => ?_, gl, fun z => ?_⟩
  · rw [sp_pf_congr (f := fun i => M1 (6 + 2) (s * 8 + i)) (g := fun i => M (1 + 2) (s * 8 + i)) n 0 (fun i _ hi => g8 _ (by omega))]
    exact hpf s hs
  · by_cases c : h < H - 1
    · exact ⟨_, by have := (pk h c).2; omega, g10 h c⟩
    · have e : h = H - 1 := by omega
      rw [e]; exact ⟨n, Nat.le_refl _, gl⟩
  · rw [g64] at z; exact absurd z (by decide)
theorem xt_findParts {n H L : Nat} {M : zMem} {Q : zMem → Prop} (vt : sp_vt M 1 n H L) (hHn : H ≤ n) (h : cp M n H L) (hQ : ∀ M', cpk M' n H L → pfr M M' → Q M') : wp_Main_findParts M Q := by
  obtain ⟨⟨n1, n8, H1, H5, L1, L6⟩, hn, hH, -, -, -, -, -, -, -, -, -, -, hel, -⟩ := id vt
  obtain ⟨N0, N35, Nf⟩ := pN_ok n8 H1 H5 hHn
  unfold wp_Main_findParts
  refine ⟨fun c => ?_, fun c => ?_⟩
  rotate_left
  · rcases h with z | z
    · exact absurd z c
    · exact hQ M z (fun _ _ => rfl)
  intro M1 e1 M2 e2 M3 e3
  have k3 : ∀ k, k ≠ 60 → M3 k = M k := fun k hk => by rw [e3, zup_ne hk, e2, zup_ne hk, e1, zup_ne hk]
  have x0 : M3 60 0 = 1 := by rw [e3, zup_eq, upd_ne (by omega), e2, zup_eq, upd_ne (by omega), e1, zup_eq, upd_eq]
  have x1 : M3 60 1 = -1 := by rw [e3, zup_eq, upd_ne (by omega), e2, zup_eq, upd_eq]
  have x2 : M3 60 2 = 1 := by rw [e3, zup_eq, upd_eq]
  refine xt_copyFrom (by omega) (fun M4 d4 o4 => ?_)
  intro M5 e5
  have k5 : ∀ k, k ≠ 6 → M5 k = M4 k := fun k hk => by rw [e5, zup_ne hk]
  have t1 : ∀ k, k < 6 → M5 k = M k := fun k hk => by rw [k5 k (by omega), o4 k (by omega), k3 k (by omega)]
  refine xt_ends1 (by rw [t1 1 (by omega)]; exact hH) H1 H5 (fun M6 a1 a2 a3 => ?_)
  have fr6 : pfr M M6 := fun k hk => by rw [a3 k (by omega), k5 k (by omega), o4 k (by omega), k3 k (by omega)]
  have s60 : M6 60 = M3 60 := by rw [a3 60 (by omega), k5 60 (by omega), o4 60 (by omega)]
  have m1 : ∀ k, k ≠ 60 → M3 k = M k := k3
  have pv6 : pvt M M6 n H 0 := by
    refine ⟨fun j hj hj4 => ?_, ?_, fun j hj => ?_, fun j hj => ?_, fun j hj => ?_, fun i hi => ?_, ?_⟩
    · rw [a3 6 (by omega), e5, zup_eq, upd_ne hj4, d4.1 j hj, k3 1 (by omega)]
    · rw [a3 6 (by omega), e5, zup_eq, upd_eq]
    · rw [a3 7 (by omega), k5 7 (by omega)]; exact (d4.2.1 j hj).trans (by rw [k3 2 (by omega)])
    · rw [a3 8 (by omega), k5 8 (by omega)]; exact (d4.2.2.1 j hj).trans (by rw [k3 3 (by omega)])
    · rw [a3 9 (by omega), k5 9 (by omega)]; exact (d4.2.2.2.1 j hj).trans (by rw [k3 4 (by omega)])
    · rw [a1 i hi, Nf i hi]
    · rw [a2 _ (Nat.le_refl _), k5 10 (by omega)]
      exact (d4.2.2.2.2 _ (by omega)).trans (by rw [k3 5 (by omega)]; exact hel)
  refine zlp2_r (fun f x y M' => (f = 0 ∧ x = 0 ∧ Q M') ∨ (∃ k o b, y = nI k ∧ k < pN n H ∧ f = pN n H - k ∧ x = 1 ∧ pfr M M' ∧ M' 60 0 = 1 ∧ pvt M M' n H k ∧ (∀ j, j < k → pgh M n H L j (o j)) ∧ (k = 0 → M' 60 1 = -1 ∧ M' 60 2 = 1) ∧ (0 < k → pbest o (fun j => j < k) b ∧ pbk M' n H o b))) ?_ (n := pN n H) (Or.inr ⟨0, fun _ => none, 0, rfl, N0, by omega, rfl, fr6, by rw [s60]; exact x0, pv6, fun j hj => absurd hj (by omega), fun _ => by rw [s60]; exact ⟨x1, x2⟩, fun z => absurd z (by omega)⟩)
  rintro f x y M' (⟨rfl, rfl, hq⟩ | ⟨k, o, b, rfl, hk, rfl, rfl, fr, y0, pvk, gh, z0, zk⟩) J hJ
  · exact ⟨fun _ => hq, fun _ => ⟨fun _ => hq, fun z => absurd rfl z⟩⟩
  unfold wpB_Main_findParts_91
  have i1 : ¬ 1000000 ≤ nI k := by rw [Int32.not_le]; exact nI_lt (b := 1000000) (by omega) (by omega)
  refine ⟨fun q => absurd q i1, fun _ => ⟨fun q => absurd q (by decide), fun _ => ?_⟩⟩
  refine xt_settle (Or.inr rfl) (Or.inr rfl) (pvk.vt vt hHn hk) (fun M0 Mc M7 hc ok tc _ rk ro cf => ?_)
  obtain ⟨t6, t7⟩ := sp_ro_tb ro
  have gk : pgh M n H L k (sp_ring 6 45 n H Mc) := by
    obtain ⟨g6, g64, g7, g8, g9, g10, gl⟩ := pvk
    have c6 : Mc 6 = M' 6 := tc 0 (by omega)
    have c7 : Mc 7 = M' 7 := tc 1 (by omega)
    have c8 : Mc 8 = M' 8 := tc 2 (by omega)
    have c9 : Mc 9 = M' 9 := tc 3 (by omega)
    have c10 : Mc 10 = M' 10 := tc 4 (by omega)
    exact ⟨M0, Mc, hc, ok, by rw [c6]; exact g6, by rw [c6]; exact g64, by rw [c7]; exact g7, by rw [c8]; exact g8, by rw [c9]; exact g9, by rw [c10]; exact g10, by rw [c10]; exact gl, rfl, rk⟩
  generalize sp_ring 6 45 n H Mc = ok' at t6 t7 gk rk
  obtain ⟨r1, r2, r3, -⟩ := ro_tb rk
  have c60 : M7 60 = M' 60 := cf 60 (by omega) (by omega)
  have c61 : M7 61 = M' 61 := cf 61 (by omega) (by omega)
  have ct : ∀ k, 6 ≤ k → k < 11 → M7 k = M' k := fun k a b => cf k (by omega) (by omega)
  have fr7 : pfr M M7 := fun k hk => by rw [cf k (by omega) (by omega)]; exact fr k hk
  have gh' : ∀ j, j < k + 1 → pgh M n H L j (if j = k then ok' else o j) := fun j hj => by
    by_cases c : j = k
    · rw [if_pos c, c]; exact gk
    · rw [if_neg c]; exact gh j (by omega)
  -- behind the comparison: ends move on
  have tail : ∀ (M8 : zMem) (b' : Nat), (∀ k, k ≠ 60 → k ≠ 61 → M8 k = M7 k) → M8 60 0 = 1 → pbest (fun j => if j = k then ok' else o j) (fun j => j < k + 1) b' → pbk M8 n H (fun j => if j = k then ok' else o j) b' → wp_Told_moveEnds 6 M8 (fun zr15 zm14 => ∀ zx16 : Int32, zx16 = nI k + 1 → J zr15 zx16 zm14) := fun M8 b' k8 y8 pb pk => by
    have m8 : ∀ k, 6 ≤ k → k < 11 → M8 k = M' k := fun k a b => by rw [k8 k (by omega) (by omega)]; exact ct k a b
    have fr8 : pfr M M8 := fun k hk => by rw [k8 k (by omega) (by omega)]; exact fr7 k hk
    obtain ⟨g6, g64, g7, g8, g9, g10, gl⟩ := id pvk
    obtain ⟨-, -, -, pkk⟩ := pm_ok n8 H1 H5 hHn hk
    refine xt_moveEnds (n := n) (H := H) (e := pv (pm n H k)) (by rw [m8 6 (by omega) (by omega), g6 0 (by omega) (by omega)]; exact hn) (by rw [m8 6 (by omega) (by omega), g6 1 (by omega) (by omega)]; exact hH) n8 H1 H5 hHn (fun i hi => by rw [m8 10 (by omega) (by omega)]; exact g10 i hi) (fun i hi => by have := (pkk i hi).2; omega) (fun pn z ez => ?_) (fun h hh ps M9 b1 b2 b3 z ez => ?_)
    · have ek := pmv_none n8 H1 H5 hHn hk pn
      refine hJ 0 _ _ _ (by omega) (Or.inl ⟨rfl, rfl, hQ M8 ⟨_, b', fun j hj => (gh' j (by omega)).moved (fun i hi => fr8 _ (by omega)), pb.set (fun j => by rw [ek]) (fun _ _ => rfl), pk⟩ fr8⟩)
    · obtain ⟨-, q2, q3⟩ := pmv_some n8 H1 H5 hHn hk ps
      rw [ez, nI_1]
      have m9 : ∀ k, k ≠ 10 → M9 k = M8 k := fun k hk => b3 k hk
      refine hJ (pN n H - (k + 1)) _ _ _ (by omega) (Or.inr ⟨k + 1, _, b', rfl, q2, rfl, rfl, fun q hq => by rw [m9 q (by omega)]; exact fr8 q hq, by rw [m9 60 (by omega)]; exact y8, ⟨by rw [m9 6 (by omega), m8 6 (by omega) (by omega)]; exact g6, by rw [m9 6 (by omega), m8 6 (by omega) (by omega)]; exact g64, by rw [m9 7 (by omega), m8 7 (by omega) (by omega)]; exact g7, by rw [m9 8 (by omega), m8 8 (by omega) (by omega)]; exact g8, by rw [m9 9 (by omega), m8 9 (by omega) (by omega)]; exact g9, fun i hi => ?_, ?_⟩, gh', fun z => absurd z (by omega), fun _ => ⟨pb, by unfold pbk at pk ⊢; rw [m9 60 (by omega), m9 61 (by omega)]; exact pk⟩⟩)
      · refine (b1 i hi).trans ?_
        rw [q3 i hi]
      · refine (b2 _ (Nat.le_refl _)).trans ?_
        rw [m8 10 (by omega) (by omega)]; exact gl
  have take : pbest (fun j => if j = k then ok' else o j) (fun j => j < k + 1) k → wp_Parts_takeFrom 60 6 55 M7 (fun zm17 => wp_Told_moveEnds 6 zm17 (fun zr20 zm19 => ∀ zx21 : Int32, zx21 = nI k + 1 → J zr20 zx21 zm19)) := fun pb => by
    refine xt_takeFrom (fun M8 w0 w1 w2 w3 w4 => tail M8 k w4 ?_ pb ⟨?_, ?_, fun i hi => ?_⟩)
    · rw [w0, c60]; exact y0
    · rw [w1, t6]; simp only [↓reduceIte]
    · rw [w2, t7]; simp only [↓reduceIte]
    · rw [w3 i (by omega), ct 10 (by omega) (by omega)]; exact pvk.2.2.2.2.2.1 i hi
  rw [t6, t7, q_l64 (by omega), q_l64 (by omega), c60]
  rcases Nat.eq_zero_or_pos k with q | q
  · rw [(z0 q).1, (z0 q).2]
    refine more_neg (by omega) (by omega) r2 ⟨fun z => absurd z (by decide), fun _ => take ?_⟩
    refine ⟨by omega, fun j hj => ?_⟩
    have ej : j = k := by omega
    rw [ej]
    exact ⟨Nat.le_refl _, fun z => absurd z (Nat.lt_irrefl _)⟩
  · obtain ⟨pb, pk1, pk2, pk3⟩ := zk q
    have hb : b < k := pb.1
    obtain ⟨s1, s2, s3, -⟩ := ro_tb (gh b hb).rk
    have pb' : pbest (fun j => if j = k then ok' else o j) (fun j => j < k) b := pb.set (fun _ => Iff.rfl) (fun j hj => by rw [if_neg (by omega)])
    have st : ∀ j, j < k + 1 ↔ (j < k ∨ j = k) := fun j => by omega
    rw [pk1, pk2, q_l64 (by omega), q_l64 (by omega)]
    refine xt_more (by omega) (by omega) (by omega) (by omega) (fun c3 => ⟨fun z => absurd z (by decide), fun _ => take ?_⟩) (fun c3 => ⟨fun _ => tail M7 b (fun _ _ _ => rfl) (by rw [c60]; exact y0) ?_ ?_, fun z => absurd rfl z⟩)
    · refine (pb'.up (x := k) (fun j hj => (gh' j (by omega)).rk) (Or.inl ?_)).set st (fun _ _ => rfl)
      unfold pL
      simp only [↓reduceIte, show ¬ b = k by omega]
      omega
    · refine (pb'.keep (x := k) ?_ (fun z => absurd z (by omega))).set st (fun _ _ => rfl)
      unfold pL
      simp only [↓reduceIte, show ¬ b = k by omega]
      omega
    · refine ⟨?_, ?_, ?_⟩
      · rw [c60]; simp only [show ¬ b = k by omega, ↓reduceIte]; exact pk1
      · rw [c60]; simp only [show ¬ b = k by omega, ↓reduceIte]; exact pk2
      · rw [c61]; exact pk3
