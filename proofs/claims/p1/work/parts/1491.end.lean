/-- the rule as at first, in all slots -/
def tf2 (k : Nat) (M M' : zMem) : Prop := tf k M M' ∧ (∀ j, j ≠ 0 → M' (k + 1) j = M (k + 1) j) ∧ (∀ i, (∀ s p, s < 3 → p < 3 → i ≠ s * 8 + p) → M' (k + 2) i = M (k + 2) i) ∧ (∀ i, (∀ s p, s < 3 → p < 3 → i ≠ s * 8 + p) → M' (k + 3) i = M (k + 3) i) ∧ (∀ h, 3 ≤ h → M' (k + 4) h = M (k + 4) h)
theorem xt_tell2 {k : Nat} {M : zMem} {Q : zMem → Prop} (hQ : ∀ M', tf2 k M M' → Q M') : wp_Told_tellAsAtFirst k M Q := by
  unfold wp_Told_tellAsAtFirst wp_Told_clear
  intro z1 e1 z2 e2 z3 e3 z4 e4 z5 e5 z6 e6 z7 e7
  refine ⟨vp_in_nI (n := 0) (by omega) (by omega), fun z8 e8 z9 e9 za ea => ?_⟩
  have hk : za k 0 = 3 ∧ za k 1 = 3 ∧ za k 2 = 0 ∧ za k 3 = 0 ∧ za k 4 = 0 ∧ za k 5 = 0 ∧ za k 6 = 1 := by
    have e8' : z8 k = z7 k := by rw [e8, zup_ne (by omega)]
    refine ⟨?_, ?_, ?_, ?_, ?_, ?_, ?_⟩ <;> (rw [ea, zup_eq]; simp [upd, e9, e8', e7, e6, e5, e4, e3, e2, e1, zup_eq])
  have hk1 : za (k + 1) 0 = 0 := by
    rw [ea, zup_ne (by omega), e9, zup_ne (by omega), e8, zup_eq]
    exact upd_eq
  have hk1' : ∀ j, j ≠ 0 → za (k + 1) j = M (k + 1) j := fun j hj => by
    rw [ea, zup_ne (by omega), e9, zup_ne (by omega), e8, zup_eq]
    refine (upd_ne (fun q => hj (by rw [q]; rfl))).trans ?_
    rw [e7, zup_ne (by omega), e6, zup_ne (by omega), e5, zup_ne (by omega), e4, zup_ne (by omega), e3, zup_ne (by omega), e2, zup_ne (by omega), e1, zup_ne (by omega)]
  have hd : ∀ d, d ≠ k → d ≠ k + 1 → za d = M d := fun d h h' => by
    rw [ea, zup_ne (by omega), e9, zup_ne (by omega), e8, zup_ne (by omega), e7, zup_ne (by omega), e6, zup_ne (by omega), e5, zup_ne (by omega), e4, zup_ne (by omega), e3, zup_ne (by omega), e2, zup_ne (by omega), e1, zup_ne (by omega)]
  refine zlp1_r (fun m x M' => ∃ j, x = nI j ∧ j ≤ 3 ∧ m = 3 - j ∧ M' k = za k ∧ M' (k + 1) = za (k + 1) ∧ (∀ s p, s < 3 → p < j → M' (k + 2) (s * 8 + p) = 2) ∧ (∀ h p, h < 3 → p < j → M' (k + 3) (h * 8 + p) = nI (3 - h)) ∧ (∀ d, (d < k ∨ k + 4 ≤ d) → M' d = M d) ∧ (∀ i, (∀ s p, s < 3 → p < 3 → i ≠ s * 8 + p) → M' (k + 2) i = M (k + 2) i) ∧ (∀ i, (∀ s p, s < 3 → p < 3 → i ≠ s * 8 + p) → M' (k + 3) i = M (k + 3) i)) ?_ (n := 3) ⟨0, rfl, by omega, rfl, rfl, rfl, fun s p _ h => absurd h (by omega), fun s p _ h => absurd h (by omega), fun d h => hd d (by omega) (by omega), fun i _ => by rw [hd _ (by omega) (by omega)], fun i _ => by rw [hd _ (by omega) (by omega)]⟩
  rintro m x M' ⟨j, rfl, hj, rfl, i1, i2, i3, i4, i5, i6, i7⟩ J hJ
  unfold wpB_Told_tellAsAtFirst_16
  rw [i1, hk.1]
  refine ⟨fun c => ?_, fun c => ?_⟩
  · have := (nI_leI (a := 3) (by omega) (by omega)).mp c
    have e : j = 3 := by omega
    subst e
    refine xt_fillEnds (n := 3) (H := 3) (by rw [i1]; exact hk.1) (by rw [i1]; exact hk.2.1) (by omega) (fun M2 a1 a2 a3 => ?_)
    obtain ⟨h0, h1, h2, h3, h4, h5, h6⟩ := hk
    have e0 : M2 k = za k := by rw [a3 k (by omega), i1]
    refine hQ M2 ⟨⟨by rw [e0]; exact h0, by rw [e0]; exact h1, by rw [e0]; exact h2, by rw [e0]; exact h3, by rw [e0]; exact h4, by rw [e0]; exact h5, by rw [e0]; exact h6, by rw [a3 (k + 1) (by omega), i2]; exact hk1, fun s p hs hp => by rw [a3 (k + 2) (by omega)]; exact i3 s p hs hp, fun s p hs hp => by rw [a3 (k + 3) (by omega)]; exact i4 s p hs hp, fun h hh => by rw [a1 h hh, if_pos (Or.inl (by rw [i1]; exact h4))]; rfl, fun d hd => by rw [a3 d (by omega)]; exact i5 d (by omega)⟩, fun j hj => by rw [a3 (k + 1) (by omega), i2]; exact hk1' j hj, fun i hi => by rw [a3 (k + 2) (by omega)]; exact i6 i hi, fun i hi => by rw [a3 (k + 3) (by omega)]; exact i7 i hi, fun h hh => by rw [a2 h hh, i5 (k + 4) (by omega)]⟩
  · have hj2 : j < 3 := (nI_ltI (b := 3) (by omega) (by omega)).mp (Int32.not_le.mp c)
    refine xt_tf26 (by omega) (fun M2 a1 a2 a3 => ?_)
    refine xt_tf51 (H := 3) (by omega) (by rw [a3 k (by omega), i1]; exact hk.2.1) (by omega) (fun M3 b1 b2 b3 => ?_)
    intro y ey
    rw [ey, nI_1]
    refine hJ (3 - (j + 1)) _ _ (by omega) ⟨j + 1, rfl, by omega, rfl, by rw [b3 k (by omega), a3 k (by omega), i1], by rw [b3 (k + 1) (by omega), a3 (k + 1) (by omega), i2], fun s p hs hp => ?_, fun s p hs hp => ?_, fun d hd => by rw [b3 d (by omega), a3 d (by omega)]; exact i5 d hd, fun i hi => by rw [b3 (k + 2) (by omega), a2 i (fun s hs => hi s j hs hj2)]; exact i6 i hi, fun i hi => by rw [b2 i (fun s hs => hi s j hs hj2), a3 (k + 3) (by omega)]; exact i7 i hi⟩
    · rw [b3 (k + 2) (by omega)]
      by_cases z : p = j
      · rw [z]; exact a1 s hs
      · rw [a2 _ (fun s' hs' => by omega)]; exact i3 s p hs (by omega)
    · by_cases z : p = j
      · rw [z]; exact b1 s hs
      · rw [b2 _ (fun s' hs' => by omega), a3 (k + 3) (by omega)]; exact i4 s p hs (by omega)
theorem lc_3 : (List.range 24).all (fun j => decide (lq lxc 3 j = if j % 8 < 3 then 2 else 0)) = true := by decide +kernel
theorem lc_4 : (List.range 40).all (fun j => decide (lq lxc 4 j = if j % 8 < 3 ∧ j < 24 then nI (3 - j / 8) else 0)) = true := by decide +kernel
theorem tf2_tl {M1 M : zMem} (t : tf2 1 zM0 M1) (e : ∀ i, i ≤ 4 → M (1 + i) = M1 (1 + i)) : tl M := by
  obtain ⟨⟨h0, h1, h2, h3, h4, h5, h6, h7, hu, hc, he, -⟩, g1, g2, g3, g4⟩ := t
  have m1 : M 1 = M1 1 := e 0 (by omega)
  have m2 : M 2 = M1 2 := e 1 (by omega)
  have m3 : M 3 = M1 3 := e 2 (by omega)
  have m4 : M 4 = M1 4 := e 3 (by omega)
  have m5 : M 5 = M1 5 := e 4 (by omega)
  refine ⟨fun j hj => ?_, fun j hj => ?_, fun j hj => ?_, fun j hj => ?_, fun j hj => ?_⟩
  · rw [m1]
    rcases (show j = 0 ∨ j = 1 ∨ j = 2 ∨ j = 3 ∨ j = 4 ∨ j = 5 ∨ j = 6 by omega) with rfl | rfl | rfl | rfl | rfl | rfl | rfl
    · exact h0
    · exact h1
    · exact h2
    · exact h3
    · exact h4
    · exact h5
    · exact h6
  · rw [m2]
    rcases (show j = 0 ∨ j = 1 ∨ j = 2 ∨ j = 3 ∨ j = 4 ∨ j = 5 by omega) with rfl | rfl | rfl | rfl | rfl | rfl
    · exact h7
    · exact g1 1 (by omega)
    · exact g1 2 (by omega)
    · exact g1 3 (by omega)
    · exact g1 4 (by omega)
    · exact g1 5 (by omega)
  · rw [m3, of_decide_eq_true (agD_all lc_3 j hj)]
    by_cases c : j % 8 < 3
    · rw [if_pos c]
      have := hu (j / 8) (j % 8) (by omega) c
      rw [show j / 8 * 8 + j % 8 = j by omega] at this
      exact this
    · rw [if_neg c]
      exact (g2 j (fun s p hs hp q => c (by omega))).trans rfl
  · rw [m4, of_decide_eq_true (agD_all lc_4 j hj)]
    by_cases c : j % 8 < 3 ∧ j < 24
    · rw [if_pos c]
      have := hc (j / 8) (j % 8) (by omega) c.1
      rw [show j / 8 * 8 + j % 8 = j by omega] at this
      exact this
    · rw [if_neg c]
      exact (g3 j (fun s p hs hp q => c (by omega))).trans rfl
  · rw [m5]
    rcases (show j = 0 ∨ j = 1 ∨ j = 2 ∨ j = 3 ∨ j = 4 by omega) with rfl | rfl | rfl | rfl | rfl
    · exact he 0 (by omega)
    · exact he 1 (by omega)
    · exact he 2 (by omega)
    · exact g4 3 (by omega)
    · exact g4 4 (by omega)
def fsh2 (M W : zMem) : Prop := fsh M W ∧ tl M
theorem fsh2_0 : wp_Told_tellAsAtFirst 1 zM0 (fun zm1 => (∀ c, 6 ≤ c → zm1 c = zM0 c) ∧ wp_Bench_clear 18 zm1 (fun zm2 => wp_Bench_doAll 18 zm2 (fun M => 0 = 0 → fsh2 M zW0))) := by
  refine xt_tell2 (fun M1 t2 => ?_)
  have t1 := t2.1
  have kk := t1.2.2.2.2.2.2.2.2.2.2.2
  refine ⟨fun c hc => kk c (by omega), xt_clear (fun Mc hc => ?_)⟩
  have ck := hc.2.2.2.2.2.2.2.2.2
  have vt1 := tf_vt t1
  have e18 : M1 18 0 = 0 := by rw [kk 18 (by omega)]; rfl
  have ok := sp_ok_clear hc (by rw [e18]; rfl) (by omega) (by omega) vt1 (fun g hg => by rw [zlg_18] at hg; cases hg)
  refine xt_doAll ok (fun _ => ?_)
  obtain ⟨ok2, fr2, hs2⟩ := sp_all_ok ok
  have ek : ∀ k, (k < 18 ∨ 27 ≤ k) → sp_all 1 18 3 Mc k = M1 k := fun k hk => by
    rw [fr2.1 k (by omega) (fun q => absurd q (by omega))]
    exact ck k (by omega)
  have e1 : sp_all 1 18 3 Mc 1 = M1 1 := ek 1 (by omega)
  refine ⟨⟨rfl, ok2.2.2.2.1, (tf_rt t1).moved rfl (fun i hi => ek _ (by omega)), fun c hc => ?_, ?_, ?_, ?_, ?_, M1, Mc, hc, ok, rfl⟩, tf2_tl t2 (fun i hi => ek _ (by omega))⟩
  · rw [ek c (by omega)]; exact kk c (by omega)
  · rw [e1]; exact t1.2.2.1
  · rw [e1]; exact t1.2.2.2.1
  · rw [e1]; exact t1.2.2.2.2.1
  · rw [e1]; exact t1.2.2.2.2.2.1
theorem tl.moved {M M' : zMem} (t : tl M) (e : ∀ i, i ≤ 4 → M' (1 + i) = M (1 + i)) : tl M' := by
  have m1 : M' 1 = M 1 := e 0 (by omega)
  have m2 : M' 2 = M 2 := e 1 (by omega)
  have m3 : M' 3 = M 3 := e 2 (by omega)
  have m4 : M' 4 = M 4 := e 3 (by omega)
  have m5 : M' 5 = M 5 := e 4 (by omega)
  unfold tl at t ⊢
  rw [m1, m2, m3, m4, m5]
  exact t
theorem fsh2_where {M W : zMem} {P : zMem → zMem → Prop} {a1 a2 : Int32} (h : fsh2 M W) (tr : ∀ M' W', P M' W') : wp_Main_where a1 a2 M (fun x M' => wp_Model_where a1 a2 W (fun y W' => x = y ∧ P M' W')) := by
  obtain ⟨⟨rfl, vt, rt, ek, -⟩, t⟩ := h
  have z : ∀ c j, (c = 0 ∨ 6 ≤ c ∧ c < 18 ∨ 27 ≤ c) → zM0 c j = 0 → M c j = 0 := fun c j h1 h2 => by rw [ek c h1]; exact h2
  refine p_where vt rt (Or.inl (z 54 0 (by omega) rfl)) (by rw [z 32 0 (by omega) rfl]; rfl) (Or.inl (z 29 2 (by omega) rfl)) (fun _ h R M0 Mc da ta dn tn y h1 hh _ hc ok tc z30 eR er ez y6 => ?_) (tr _ _) (fun _ _ _ _ _ _ _ => tr _ _)
  obtain ⟨er', w, w5, w6, ew, l15, l16, l20, l21⟩ := fr_where hc ok z30 (t.moved tc) eR
  rw [er] at er'
  cases er'
  have : y = w := (nI_eq (by omega) (by omega)).mp (ez.symm.trans ew)
  subst this
  rcases (show h = 1 ∨ h = 2 by omega) with rfl | rfl
  · exact ⟨4, by omega, l21, by rw [l20]; decide, by rw [l20]; decide⟩
  · exact ⟨3, by omega, l16, by rw [l15]; decide, by rw [l15]; decide⟩
theorem whole_all {p : Program} {e : Env} {s : State} {m : MethodId} {below : List Frame} {meth : Method} {c : Code} (l : Launch) {b L : Nat} {xs : Nat → Int32} (hL : L ≤ 6) (C0 : lw_At p s m meth c b L xs) : W p l e room_1 s m #[Value.ref b] below meth c s.heap [] 0 0 (lw_Z below #[Value.ref b] s) (entryFrame m ([Value.ref b] : List Value).toArray 4) := by
  refine start_of l hL C0 (fun i M W => i = 0 → fsh2 M W) fsh2_0 (fun i M W' hi hin => ?_)
  have tr : ∀ M' W'' : zMem, (fun M' W'' => i + 6 = 0 → fsh2 M' W'') M' W'' := fun M' W'' q => absurd q (by omega)
  exact fsh_law (hin (by omega)).1 tr (fun a1 a2 => fsh2_where (hin (by omega)) tr)
