theorem shf_inj {a i j : Nat} (h : shf a i = shf a j) : i = j := by
  unfold shf at h
  split at h <;> split at h <;> omega
/-- less -/
theorem p_less {n H L : Nat} {M W : zMem} {a1 a2 : Int32} {P : zMem → zMem → Prop} (vt : sp_vt M 1 n H L) (r : rt0 W M n H L)
    (hP : ∀ M' W', (∀ k, (k < 6 ∨ (11 ≤ k ∧ k < 41) ∨ k = 54 ∨ 56 ≤ k) → M' k = M k) → mfy W W' → P M' W') : wp_Main_less a1 a2 M (fun x M' => wp_Model_less a1 a2 W (fun y W' => x = y ∧ P M' W')) := by
  obtain ⟨⟨n1, n8, H1, H5, L1, L6⟩, hn, hH, hL, -, -, -, -, -, -, -, -, -, -, hek⟩ := id vt
  have w1 : W 4 1 = nI H := r.2.1
  have p0 := hP M W (fun _ _ => rfl) mfy.rf
  refine xt_isHand hH (by omega) (fun a ha ea => ⟨fun q => absurd q (by decide), fun _ => ?_⟩) (fun nh => ⟨fun _ => ?_, fun q => absurd rfl q⟩)
  rotate_left
  · exact mt_isHand w1 (by omega) (by omega) (fun h h1 h2 => absurd ⟨h, h1, h2⟩ nh) (fun _ => ⟨fun _ => ⟨rfl, p0⟩, fun q => absurd rfl q⟩)
  subst ea
  -- the reference, up to its answer
  have ref : ∀ (x : Int32) (M' : zMem), (∀ W', P M' W' ∨ True) → ((¬ (a2 = 0 ∨ a2 = 1) → x = -1 ∧ P M' W) ∧ ((a2 = 0 ∨ a2 = 1) → (H = 1 → x = -2 ∧ P M' W) ∧ (H ≠ 1 → wp_Model_asNumbered W (fun zm5 => ∀ zm7 : zMem, zm7 = zup zm5 0 18 ((zm5 0 18) - 1) → ∃ n : Nat, zlp1 (wpB_Model_less_49 (nI a) a2 (fun (zm11 : zMem) => vp_in 0 100 ∧ vp_in ((zm11 0 18) - 1) 5 ∧ ∀ zm12 : zMem, zm12 = zup zm11 9 (ix ((zm11 0 18) - 1)) (zm11 4 (ix 0)) → wp_Model_hasRing zm12 (fun zr14 zm13 => wp_Model_made a2 zm13 (fun zr16 zm15 => x = zr16 ∧ P M' zm15))) (fun y W' => x = y ∧ P M' W')) n (nI a) zm7)))) → wp_Model_less (nI a) a2 W (fun y W' => x = y ∧ P M' W') := fun x M' _ hx => by
    refine mt_isHand w1 (by omega) (by omega) (fun h h1 h2 => ⟨fun q => absurd q (by decide), fun _ => ?_⟩) (fun q => absurd ⟨a, ha, rfl⟩ q)
    refine mt_in (lo' := 0) (hi' := 1) (by decide) (by decide) (fun c1 c2 => ⟨fun _ => ?_, fun q => absurd q (by decide)⟩) (fun c => ⟨fun q => absurd rfl q, fun _ => hx.1 (fun q => c (half_in.mpr q))⟩)
    have hh := hx.2 (half_in.mp ⟨c1, c2⟩)
    refine ⟨vp_in_nI (n := 1) (by omega) (by omega), ?_⟩
    rw [show ix 1 = 1 from rfl, w1]
    refine ⟨fun c => hh.2 (fun q => c (by rw [q]; rfl)), fun c => hh.1 ?_⟩
    exact (nI_eq (a := H) (b := 1) (by omega) (by omega)).mp c
  refine xt_half (fun c2 => ⟨fun _ => ?_, fun q => absurd q (by decide)⟩) (fun c2 => ⟨fun q => absurd rfl q, fun _ => ref _ _ (fun _ => Or.inr trivial) ⟨fun _ => ⟨rfl, p0⟩, fun q => absurd q c2⟩⟩)
  rw [hH]
  refine ⟨fun c1 => ?_, fun c1 => ?_⟩
  rotate_left
  · have h1 := (nI_eq (a := H) (b := 1) (by omega) (by omega)).mp c1
    exact ref _ _ (fun _ => Or.inr trivial) ⟨fun q => absurd c2 q, fun _ => ⟨fun _ => ⟨rfl, p0⟩, fun q => absurd h1 q⟩⟩
  have H2 : 2 ≤ H := by
    rcases Nat.lt_or_ge H 2 with q | q
    · exact absurd (show nI H = 1 by rw [show H = 1 by omega]; rfl) c1
    · exact q
  refine xt_copyFrom (by omega) (fun M1 d1 o1 => ?_)
  have vt1 : sp_vt M1 6 n H L := vt.copy d1
  refine xt_dropHand vt1.2.1 vt1.2.2.1 H2 H5 ha (fun M2 b1 b0 b3 b4 bd => ?_)
  have vt2 : sp_vt M2 6 n (H - 1) L := sp_vt_drop vt1 H2 ha b1 b0 b3 b4 bd
  refine xt_settle (Or.inr rfl) (Or.inr rfl) vt2 (fun M0 Mc M' hc ok tc _ rk ro cf => ?_)
  have fin : ∀ W', mfy W W' → P M' W' := fun W' fy => hP M' W' (fun k hk => by rw [cf k (by omega) (by omega), bd k (by omega) (by omega) (by omega), o1 k (by omega)]) fy
  obtain ⟨t6, t7⟩ := sp_ro_tb ro
  have ans : ∀ x : Int32, x = nI (if a2 = 0 then ro_top (sp_ring 6 45 n (H - 1) Mc) else ro_bot (sp_ring 6 45 n (H - 1) Mc)) → wp_Model_less (nI a) a2 W (fun y W' => x = y ∧ P M' W') := fun x hx => by
    refine ref x M' (fun _ => Or.inr trivial) ⟨fun q => absurd c2 q, fun _ => ⟨fun q => absurd q (by omega), fun _ => ?_⟩⟩
    refine mt_asNumbered vt r (fun W1 m1 => ?_)
    obtain ⟨a18, a19, ah, a0, ak⟩ := id m1
    intro W2 e2
    have x18 : W2 0 18 = nI (H - 1) := by rw [e2, zup_eq, upd_eq, a18, q_pred (by omega)]
    have k2 : ∀ k, k ≠ 0 → W2 k = W1 k := fun k hk => by rw [e2, zup_ne hk]
    refine mt_less49 H2 H5 ha x18 (fun W3 s1 s2 => ?_)
    have y18 : W3 0 18 = nI (H - 1) := by rw [s2 0 (by omega) (by omega)]; exact x18
    rw [y18, q_pred (by omega)]
    refine ⟨vp_in_nI (n := 0) (by omega) (by omega), vp_in_nI (by omega) (by omega), fun W4 e4 => ?_⟩
    have y4 : W3 4 = W 4 := by rw [s2 4 (by omega) (by omega), k2 4 (by omega), ak 4 (by omega) (by omega) (by omega)]
    rw [q_ix (by omega), show ix 0 = 0 from rfl, y4, r.1] at e4
    have z4 : W4 4 = W 4 := by rw [e4, zup_ne (by omega)]; exact y4
    have z0 : ∀ j, j ≠ 18 → W4 0 j = W1 0 j := fun j hj => by rw [e4, zup_ne (by omega), s2 0 (by omega) (by omega), e2, zup_eq, upd_ne hj]
    have z18 : W4 0 18 = nI (H - 1) := by rw [e4, zup_ne (by omega)]; exact y18
    have sh : ∀ i, i < H - 1 → shf a i < H := fun i hi => by unfold shf; split <;> omega
    have m14 : M1 6 4 = M 1 4 := d1.1 4 (by omega)
    have z9 : ∀ h, h < H - 1 → W4 9 h = Mc (6 + 4) h := fun h hh => by
      rw [tc 4 (by omega), b4 h hh, m14, e4, zup_eq]
      by_cases q : h = H - 1 - 1
      · rw [q, upd_eq, if_pos (Or.inr (by omega))]
      · rw [upd_ne q, (s1 h hh).2, k2 9 (by omega), (ah _ (sh h hh)).2]
        by_cases q2 : M 1 4 = 0
        · rw [if_pos (Or.inl q2)]; exact hek q2 _ (sh h hh)
        · rw [if_neg (fun q3 => q3.elim q2 (fun q4 => q (by omega)))]
          exact (d1.2.2.2.2 _ (by have := sh h hh; omega)).symm
    have tM : ∀ j, j ≠ 1 → j ≤ 6 → Mc 6 j = M 1 j := fun j hj hj6 => by
      rw [show Mc 6 = M2 6 from tc 0 (by omega), b0 j hj, d1.1 j hj6]
    have rt : mr_t W4 Mc 6 n (H - 1) L := by
      refine ⟨by rw [z4]; exact r.1, z18, ?_, ?_, ?_, ?_, by rw [z4]; exact r.2.2.2.2.2.2.1, fun i hi => ?_, fun s p hs hp => ?_, z9⟩
      · rw [z4, tM 2 (by omega) (by omega)]; exact r.2.2.1
      · rw [z4, tM 3 (by omega) (by omega)]; exact r.2.2.2.1
      · rw [z0 19 (by omega), a19, tM 4 (by omega) (by omega)]
      · rw [z4, tM 5 (by omega) (by omega)]; exact r.2.2.2.2.2.1
      · rw [z4, tc 1 (by omega), bd 7 (by omega) (by omega) (by omega)]
        rw [r.2.2.2.2.2.2.2.1 i hi]
        exact (d1.2.1 i (by omega)).symm
      · rw [z4, tc 2 (by omega), bd 8 (by omega) (by omega) (by omega)]
        rw [r.2.2.2.2.2.2.2.2.1 s p hs hp]
        exact (d1.2.2.1 _ (by omega)).symm
    have rw0 : mw0 W4 Mc 6 n (H - 1) (shf a) := by
      refine ⟨fun h hh => ⟨by have := sh h hh; omega, ?_⟩, fun h j _ _ e => shf_inj e, fun h p hh hp => ?_⟩
      · rw [e4, zup_ne (by omega), (s1 h hh).1, k2 8 (by omega), (ah _ (sh h hh)).1]
      · rw [z4, tc 3 (by omega), b3 h p hh (by omega), r.2.2.2.2.2.2.2.2.2.1 _ p (sh h hh) hp]
        exact (d1.2.2.2.1 _ (by have := sh h hh; omega)).symm
    have f4 : mfy W W4 := by
      refine ⟨fun k q0 q6 q8 q9 _ _ _ _ _ _ => ?_, fun j _ => ?_, fun j q1 q2 q3 => ?_⟩
      · rw [e4, zup_ne q9, s2 k q8 q9, k2 k q0, ak k q0 q8 q9]
      · rw [e4, zup_ne (by omega), s2 6 (by omega) (by omega), k2 6 (by omega), ak 6 (by omega) (by omega) (by omega)]
      · rw [z0 j q1, a0 j q1 q2]
    refine mt_hasRing hc ok rt rw0 (fun q => absurd q (by omega)) (fun W' _ fx _ _ e31 e32 => ?_)
    exact mt_made rk e31 e32 ⟨hx, fin W' (f4.tr fx.y)⟩
  refine ⟨fun q => ans _ ?_, fun q => ans _ ?_⟩
  · rw [if_neg q]; exact t7
  · rw [if_pos q]; exact t6
