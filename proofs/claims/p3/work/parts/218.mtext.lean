theorem DA_al {k z : Nat} : ∀ f M M' n H L t1 t2, rAl k z f M M' → DA k z 0 M n H L t1 t2 → M' k 1 = 0 → ∃ n H L t1 t2, DA k z 0 M' n H L t1 t2 := by
  intro f
  induction f with
  | zero => intro M M' n H L t1 t2 h; exact absurd h (fun h => h)
  | succ f ih =>
    intro M M' n H L t1 t2 h d h1
    have nb : ∀ (c : Nat) (X : zMem), 1 ≤ c → c ≤ 5 → M' = rfs k (nI c) X → False := fun c X c1 c5 e => by
      rw [e] at h1
      unfold rfs at h1
      rw [zup_eq, upd_ne (by omega), zup_eq, upd_eq] at h1
      exact absurd h1 (nI_ne0 (by omega) (by omega))
    obtain ⟨b1, M1, t, h⟩ := h
    rcases h with ⟨rfl, rfl⟩ | ⟨rfl, c7, rfl⟩ | ⟨rfl, c7, n', H', b2, M2, en, n8, eH, H5, hL, h2⟩
    · obtain ⟨c, X, c1, c5, e⟩ := (gd_tkn _ _ _ t).2.2 rfl
      exact absurd (nb c X c1 c5 e) (fun h => h)
    · obtain ⟨r1, f1⟩ := tkn_in d.1 t
      exact ⟨_, _, _, _, _, r1, d.2.1.tk f1, d.2.2.tk f1⟩
    · obtain ⟨r1, f1⟩ := tkn_in d.1 t
      have d1 : DA k z 0 M1 n H L t1 t2 := ⟨r1, d.2.1.tk f1, d.2.2.tk f1⟩
      obtain ⟨⟨v1, v2, v3, v4⟩, fn, fH, -⟩ := id d1.2.1
      have hn : n' = n := (nI_eq (by omega) (by omega)).mp (en.symm.trans fn)
      have hH : H' = H := (nI_eq (by omega) (by omega)).mp (eH.symm.trans fH)
      subst hn hH
      rcases h2 with ⟨rfl, rfl⟩ | ⟨rfl, h2⟩
      · obtain ⟨c, X, c1, c5, e⟩ := (gd_rLi _ _ _ hL).2.2 rfl
        exact absurd (nb c X c1 c5 e) (fun h => h)
      · obtain ⟨n3, H3, L3, t13, t23, d3⟩ := DA_line d1 hL
        exact ih _ _ _ _ _ _ _ h2 d3 h1
/-- what a text changes in the reference when it is refused -/
def tfr (W W' : zMem) : Prop := (∀ c, c ≠ 0 → c ≠ 5 → W' c = W c) ∧ W' 0 1 = 0 ∧ ∀ j, (j = 0 ∨ (9 ≤ j ∧ j ≤ 12) ∨ 16 ≤ j) → W' 0 j = W 0 j
theorem mt_115 {c : Nat} {x : Int32} {W : zMem} {Q : Int32 → zMem → Prop} (h : W 0 3 = nI c) (c1 : 1 ≤ c) (c7 : c ≤ 7) (hQ : ∀ W', (∀ k, k ≠ 0 → W' k = W k) → W' 0 1 = 0 → W' 0 2 = nI c → (∀ j, j ≠ 1 → j ≠ 2 → W' 0 j = W 0 j) → Q (-10 - W 0 4) W') : wpJ_Model_text_115 Q x W := by
  intro a ea b eb
  have b3 : b 0 3 = nI c := by rw [eb, zup_eq, upd_ne (by omega), ea, zup_eq, upd_ne (by omega)]; exact h
  have b4 : b 0 4 = W 0 4 := by rw [eb, zup_eq, upd_ne (by omega), ea, zup_eq, upd_ne (by omega)]
  refine ⟨fun w => ?_, fun _ => ?_⟩
  · rw [b3] at w
    have := (nI_leI (b := 0) (by omega) (by omega)).mp w
    omega
  · rw [b4]
    refine hQ b (fun k hk => by rw [eb, zup_ne hk, ea, zup_ne hk]) (by rw [eb, zup_eq, upd_ne (by omega), ea, zup_eq, upd_eq]) ?_ (fun j j1 j2 => by rw [eb, zup_eq, upd_ne j2, ea, zup_eq, upd_ne j1])
    rw [eb, zup_eq, upd_eq, ea, zup_eq, upd_ne (by omega)]; exact h
theorem mt_text {z : Nat} {M9 M' W : zMem} {Q : Int32 → zMem → Prop} (d0 : DA 11 z 0 M9 0 0 1 false false) (m3 : M9 11 3 = 0) (m1 : M9 11 1 = 0) (m6 : M9 11 6 = 0) (m10 : M9 11 10 = 0) (m11 : M9 11 11 = 0) (m13 : M9 11 13 = 0) (m12 : ∀ j, j ≤ 6 → M9 12 j = if j = 6 then 1 else 0) (mr0 : M9 13 0 = 0)
    (hz : W 0 1 = nI z) (hz4 : z ≤ 400) (ht : tpe (M9 17) (W 1) z) (wt : wtb W) (hR : rAl 11 z 401 M9 M')
    (hA : ¬ M' 11 1 = 0 → ∀ W', tfr W W' → W' 0 2 = M' 11 1 → Q (-10 - M' 11 2) W')
    (h6 : M' 11 1 = 0 → ∀ n H L t1 t2, DW 11 M' n H L t1 t2 → (n = 0 ∨ H = 0) → ∀ W', tfr W W' → W' 0 2 = 6 → Q (-10 - nI z) W')
    (h7 : M' 11 1 = 0 → ∀ n H L t1 t2, DW 11 M' n H L t1 t2 → 0 < n → 0 < H → (∃ s, s < 3 ∧ ∀ p, p < n → us 11 M' t1 t2 s p = 0) → ∀ W', tfr W W' → W' 0 2 = 7 → Q (-10 - nI z) W')
    (h1 : M' 11 1 = 0 → ∀ n H L t1 t2, DW 11 M' n H L t1 t2 → 0 < n → 0 < H → (∀ s, s < 3 → ∃ p, p < n ∧ us 11 M' t1 t2 s p ≠ 0) → ∀ W', (∀ c, c ≠ 0 → c ≠ 4 → c ≠ 5 → W' c = W c) → W' 0 1 = 0 → W' 0 2 = 0 → (∀ j, (j = 0 ∨ (9 ≤ j ∧ j ≤ 12) ∨ 16 ≤ j) → W' 0 j = W 0 j) → (∀ j, j ≤ 6 → W' 4 j = M' 12 j) → (∀ i, i < L → W' 4 (10 + i) = M' 13 i) → (∀ s p, s < 3 → p < n → W' 4 (30 + 8 * s + p) = us 11 M' t1 t2 s p) → (∀ h p, h < H → p < n → W' 4 (60 + 8 * h + p) = M' 15 (h * 8 + p)) → (¬ M' 12 4 = 0 → ∀ h, h + 1 < H → W' 4 (20 + h) = M' 16 h) → wp_Model_beginAnew W' (fun zm23 => vp_in 0 2 ∧ ∀ zm25 : zMem, zm25 = zup zm23 7 (ix 0) (vp_nar .boolean 0) → vp_in 1 2 ∧ ∀ zm26 : zMem, zm26 = zup zm25 7 (ix 1) (vp_nar .boolean 0) → Q (M' 11 3) zm26)) : wp_Model_text W Q := by
  intro w1 f1 w2 f2 w3 f3 w4 f4 w5 f5
  have k5 : ∀ k, k ≠ 0 → w5 k = W k := fun k hk => by rw [f5, zup_ne hk, f4, zup_ne hk, f3, zup_ne hk, f2, zup_ne hk, f1, zup_ne hk]
  have v3 : w5 0 3 = 0 := by rw [f5, zup_eq, upd_ne (by omega), f4, zup_eq, upd_ne (by omega), f3, zup_eq, upd_ne (by omega), f2, zup_eq, upd_ne (by omega), f1, zup_eq, upd_eq]
  have v5 : w5 0 5 = 0 := by rw [f5, zup_eq, upd_ne (by omega), f4, zup_eq, upd_ne (by omega), f3, zup_eq, upd_ne (by omega), f2, zup_eq, upd_eq]
  have v13 : w5 0 13 = 0 := by rw [f5, zup_eq, upd_ne (by omega), f4, zup_eq, upd_ne (by omega), f3, zup_eq, upd_eq]
  have v14 : w5 0 14 = 0 := by rw [f5, zup_eq, upd_ne (by omega), f4, zup_eq, upd_eq]
  have v15 : w5 0 15 = 0 := by rw [f5, zup_eq, upd_eq]
  have vo : ∀ j, j ≠ 3 → j ≠ 5 → j ≠ 13 → j ≠ 14 → j ≠ 15 → w5 0 j = W 0 j := fun j a b c d e => by rw [f5, zup_eq, upd_ne e, f4, zup_eq, upd_ne d, f3, zup_eq, upd_ne c, f2, zup_eq, upd_ne b, f1, zup_eq, upd_ne a]
  refine zlp1_r (fun m x W' => ∃ i, x = nI i ∧ i ≤ 100 ∧ m = 100 - i ∧ (∀ c, c ≠ 5 → W' c = w5 c) ∧ ∀ j, j < i → W' 5 j = if j = 6 then 1 else 0) ?_ (n := 100) ⟨0, rfl, by omega, rfl, fun _ _ => rfl, fun j hj => absurd hj (by omega)⟩
  rintro m x W1 ⟨i, rfl, hi, rfl, g1, g2⟩ J hJ
  unfold wpB_Model_text_29
  refine ⟨fun c => ?_, fun c => ?_⟩
  · have hi2 : 100 ≤ i := (nI_leI (a := 100) (by omega) (by omega)).mp c
    have g0 : W1 0 = w5 0 := g1 0 (by omega)
    have lW : ∀ j, (j = 0 ∨ j = 1 ∨ j = 2 ∨ (9 ≤ j ∧ j ≤ 12) ∨ 16 ≤ j) → W1 0 j = W 0 j := fun j hj => by rw [g0]; exact vo j (by omega) (by omega) (by omega) (by omega) (by omega)
    have cW : ∀ c, c ≠ 0 → c ≠ 5 → W1 c = W c := fun c c0 c5 => (g1 c c5).trans (k5 c c0)
    have sW : WS 11 z M9 W1 := by
      refine ⟨(lW 1 (by omega)).trans hz, hz4, ?_, ?_⟩
      · show tpe (M9 17) (W1 1) z
        rw [cW 1 (by omega) (by omega)]; exact ht
      · unfold wtb
        rw [cW 2 (by omega) (by omega), cW 3 (by omega) (by omega)]; exact wt
    have e1 : EQ 11 M9 W1 0 0 1 false false := by
      refine ⟨fun j hj => by rw [g2 j (by omega)]; exact (m12 j hj).symm, fun i hi => ?_, fun s p _ hp => absurd hp (by omega), fun h p hh => absurd hh (by omega), fun w => absurd (m12 4 (by omega)) w, by rw [g0, v13, m10], by rw [g0, v14, m11], by rw [g0, v15, m13]⟩
      rw [show i = 0 by omega, g2 10 (by omega)]
      exact mr0.symm
    refine mt_nx (by rw [g0]; exact v3) (by rw [g0, v5, m6]) sW d0.1 (fun W2 t2 n2 => ?_)
    have l2 := t2.l
    refine mt_lines hR d0 (e1.mv (fun _ _ _ => rfl) ⟨rfl, rfl, rfl⟩ t2) n2 (sW.mv (fun _ _ => rfl) l2) m3 m1 (fun x W3 bd l f => ?_) (fun W3 n H L t1 t2' p1 p3 dd ee l f => ?_)
    · have l3 := l2.tr l
      obtain ⟨c, c1, c7, b3, bm, b4⟩ := id bd
      refine ⟨fun _ => ?_, fun w => absurd w bd.w.ne⟩
      refine mt_115 b3 c1 c7 (fun W4 q1 q2 q3 q4 => ?_)
      rw [b4]
      refine hA (by rw [bm]; exact nI_ne0 (by omega) (by omega)) W4 ⟨fun c c0 c5 => by rw [q1 c c0, l3.1 c c0 c5]; exact cW c c0 c5, q2, fun j hj => by rw [q4 j (by omega) (by omega), l3.2 j (by omega)]; exact lW j (by omega)⟩ (by rw [q3, bm])
    · have l3 := l2.tr l
      refine ⟨fun w => absurd p3 w, fun _ W4 e4 => ?_⟩
      have k4 : ∀ c, c ≠ 0 → W4 c = W3 c := fun c hc => by rw [e4, zup_ne hc]
      have j4 : ∀ j, j ≠ 6 → W4 0 j = W3 0 j := fun j hj => by rw [e4, zup_eq, upd_ne hj]
      have j46 : W4 0 6 = nI z := by rw [e4, zup_eq, upd_eq, l3.2 1 (by omega), lW 1 (by omega)]; exact hz
      have ee4 : EQ 11 M' W4 n H L t1 t2' := ee.mv (fun _ _ _ => rfl) ⟨rfl, rfl, rfl⟩ (by rw [e4]; exact tkw.rf.up (by omega) (by omega))
      have ff : ∀ (c : Nat) (W5 : zMem), 1 ≤ c → c ≤ 7 → (∀ d, d ≠ 5 → W5 d = W4 d) → (∀ W', tfr W W' → W' 0 2 = nI c → Q (-10 - nI z) W') → wp_Model_fails (nI c) W5 (fun zm30 => wpJ_Model_text_115 Q (M' 11 3) zm30) := fun c W5 c1 c7 k5' hq => by
        have z5 : W5 0 = W4 0 := k5' 0 (by omega)
        refine e_fails (by rw [z5, j4 3 (by omega)]; exact p3) ?_
        have y3 : wfs (nI c) W5 0 3 = nI c := by unfold wfs; rw [zup_eq, upd_ne (by omega), zup_eq, upd_eq]
        have y4 : wfs (nI c) W5 0 4 = nI z := by unfold wfs; rw [zup_eq, upd_eq, z5]; exact j46
        have yo : ∀ j, j ≠ 3 → j ≠ 4 → wfs (nI c) W5 0 j = W5 0 j := fun j a b => by unfold wfs; rw [zup_eq, upd_ne b, zup_eq, upd_ne a]
        have yc : ∀ d, d ≠ 0 → wfs (nI c) W5 d = W5 d := fun d hd => by unfold wfs; rw [zup_ne hd, zup_ne hd]
        refine mt_115 y3 c1 c7 (fun W6 q1 q2 q3 q4 => ?_)
        rw [y4]
        exact hq W6 ⟨fun c c0 c5 => by rw [q1 c c0, yc c c0, k5' c c5, k4 c c0, l3.1 c c0 c5]; exact cW c c0 c5, q2, fun j hj => by rw [q4 j (by omega) (by omega), yo j (by omega) (by omega), z5, j4 j (by omega), l3.2 j (by omega)]; exact lW j (by omega)⟩ q3
      refine mt_wholeFault dd.2.1 ee4 (fun c6 => ⟨fun w => absurd w (by decide), fun _ => ff 6 W4 (by omega) (by omega) (fun _ _ => rfl) (fun W' t q => h6 p1 n H L t1 t2' dd.2.1 c6 W' t q)⟩) (fun n0 H0 c7 W5 k5' => ⟨fun w => absurd w (by decide), fun _ => ff 7 W5 (by omega) (by omega) k5' (fun W' t q => h7 p1 n H L t1 t2' dd.2.1 n0 H0 c7 W' t q)⟩) (fun n0 H0 cc W5 k5' k6 k7 => ⟨fun _ => ?_, fun w => absurd (by decide) w⟩)
      -- all is well: the words are taken over
      have z5 : W5 0 = W4 0 := k5' 0 (by omega)
      intro a ea b eb
      have bc : ∀ d, d ≠ 0 → b d = W5 d := fun d hd => by rw [eb, zup_ne hd, ea, zup_ne hd]
      have bo : ∀ j, j ≠ 1 → j ≠ 2 → b 0 j = W5 0 j := fun j j1 j2 => by rw [eb, zup_eq, upd_ne j2, ea, zup_eq, upd_ne j1]
      have b1 : b 0 1 = 0 := by rw [eb, zup_eq, upd_ne (by omega), ea, zup_eq, upd_eq]
      have y3 : W5 0 3 = 0 := by rw [z5, j4 3 (by omega)]; exact p3
      have b2 : b 0 2 = 0 := by rw [eb, zup_eq, upd_eq, ea, zup_eq, upd_ne (by omega)]; exact y3
      have b3 : b 0 3 = 0 := (bo 3 (by omega) (by omega)).trans y3
      refine ⟨fun _ => ?_, fun w => absurd (by rw [b3]; decide) w⟩
      refine zlp1_r (fun m x W' => ∃ i, x = nI i ∧ i ≤ 100 ∧ m = 100 - i ∧ (∀ c, c ≠ 4 → W' c = b c) ∧ ∀ j, j < i → W' 4 j = b 5 j) ?_ (n := 100) ⟨0, rfl, by omega, rfl, fun _ _ => rfl, fun j hj => absurd hj (by omega)⟩
      rintro m x W6 ⟨i, rfl, hi, rfl, a1, a2⟩ J hJ
      unfold wpB_Model_text_145
      refine ⟨fun c => ?_, fun c => ?_⟩
      · have i100 : 100 ≤ i := (nI_leI (a := 100) (by omega) (by omega)).mp c
        have z0 : W6 0 = b 0 := a1 0 (by omega)
        have x4 : ∀ j, j < 100 → W6 4 j = W5 5 j := fun j hj => by rw [a2 j (by omega), bc 5 (by omega)]
        obtain ⟨i0, i1, i2, i3, i4, i5, i6, i7⟩ := ee4
        have H5 : H ≤ 5 := dd.2.1.1.2.1
        have n8 : n ≤ 8 := dd.2.1.1.1
        have L6 : L ≤ 6 := dd.2.1.1.2.2.2
        exact h1 p1 n H L t1 t2' dd.2.1 n0 H0 cc W6 (fun c c0 c4 c5 => by rw [a1 c c4, bc c c0, k5' c c5, k4 c c0, l3.1 c c0 c5]; exact cW c c0 c5) (by rw [z0]; exact b1) (by rw [z0]; exact b2) (fun j hj => by rw [z0, bo j (by omega) (by omega), z5, j4 j (by omega), l3.2 j (by omega)]; exact lW j (by omega)) (fun j hj => by rw [x4 j (by omega), k6 j (by omega)]; exact i0 j hj) (fun i hi => by rw [x4 _ (by omega), k6 _ (by omega)]; exact i1 i hi) (fun s p hs hp => by rw [x4 _ (by omega)]; exact k7 s p hs hp) (fun h p hh hp => by rw [x4 _ (by omega), k6 _ (by omega)]; exact i3 h p hh hp) (fun w h hh => by rw [x4 _ (by omega), k6 _ (by omega)]; exact i4 w h hh)
      · have i100 : i < 100 := by
          rcases Nat.lt_or_ge i 100 with w | w
          · exact w
          · exact absurd ((nI_leI (a := 100) (by omega) (by omega)).mpr w) c
        refine ⟨vp_in_nI i100 (by omega), vp_in_nI i100 (by omega), fun W7 e7 y ey => ?_⟩
        rw [ey, nI_1]
        rw [q_ix (by omega)] at e7
        refine hJ (100 - (i + 1)) _ _ (by omega) ⟨i + 1, rfl, by omega, rfl, fun c hc => by rw [e7, zup_ne hc]; exact a1 c hc, fun j hj => ?_⟩
        rw [e7, zup_eq]
        by_cases w : j = i
        · rw [w, upd_eq, a1 5 (by omega)]
        · rw [upd_ne w]; exact a2 j (by omega)
  · have i100 : i < 100 := by
      rcases Nat.lt_or_ge i 100 with w | w
      · exact w
      · exact absurd ((nI_leI (a := 100) (by omega) (by omega)).mpr w) c
    have st : ∀ (v : Int32) (W2 : zMem), v = (if i = 6 then 1 else 0) → W2 = zup W1 5 (ix (nI i)) v → ∀ y : Int32, y = nI i + 1 → J y W2 := fun v W2 hv e2 y ey => by
      rw [ey, nI_1]
      rw [q_ix (by omega)] at e2
      refine hJ (100 - (i + 1)) _ _ (by omega) ⟨i + 1, rfl, by omega, rfl, fun c hc => by rw [e2, zup_ne hc]; exact g1 c hc, fun j hj => ?_⟩
      rw [e2, zup_eq]
      by_cases w : j = i
      · rw [w, upd_eq]; exact hv
      · rw [upd_ne w]; exact g2 j (by omega)
    refine ⟨fun c6 => ⟨vp_in_nI i100 (by omega), fun W2 e2 => st 0 W2 ?_ e2⟩, fun c6 => ⟨vp_in_nI i100 (by omega), fun W2 e2 => st 1 W2 ?_ e2⟩⟩
    · rw [if_neg (fun w => c6 (by rw [w]; rfl))]
    · rw [if_pos ((nI_eq (b := 6) (by omega) (by omega)).mp c6)]
