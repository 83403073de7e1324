theorem mr_log {n H L z : Nat} {R W : zMem} (h : mr W R 1 1 32 n H L (fun h => h)) (ez : R 30 0 = nI z) (z6 : z ≤ 600) : ∀ j, j < 5 * z → W 10 j = R 31 j := by
  obtain ⟨o, o1, o2, o3, o4⟩ := h.2.2.2.2.2 rfl rfl
  have e : z = if o < 600 then o else 600 := (nI_eq (by omega) (by split <;> omega)).mp (ez.symm.trans o3)
  intro j hj
  have : z ≤ o := by rw [e]; split <;> omega
  exact o4 j (by omega) (by omega)
set_option maxHeartbeats 1000000 in
/-- where: the same answers, but for 'always at the same' of no time -/
theorem p_where {n H L : Nat} {M W : zMem} {a1 a2 : Int32} {P : zMem → zMem → Prop} (vt : sp_vt M 1 n H L) (r : rt0 W M n H L) (hcr : cr M n H L) (ht : ztc (M 32 0) = 1) (hcc : cc M n H L)
    (hP0 : P M W) (hP : ∀ M' W', cr M' n H L → cc M' n H L → M' 32 0 = M 32 0 → (∀ k, (k < 29 ∨ 55 ≤ k) → M' k = M k) → mfy W W' → P M' W') : wp_Main_where a1 a2 M (fun x M' => wp_Model_where a1 a2 W (fun y W' => (x = y ∨ a2 = 1) ∧ P M' W')) := by
  obtain ⟨⟨n1, n8, H1, H5, L1, L6⟩, hn, hH, -⟩ := id vt
  have bad : ¬ ((∃ h, 1 ≤ h ∧ h < H ∧ a1 = nI h) ∧ 0 ≤ a2 ∧ a2 ≤ 3) → wp_Model_where a1 a2 W (fun y W' => (-1 = y ∨ a2 = 1) ∧ P M W') := fun nb =>
    mt_isHand r.2.1 (by omega) (by omega) (fun h hh eh => ⟨fun q => absurd q (by decide), fun _ => ⟨fun _ => ⟨Or.inl rfl, hP0⟩, fun n0 => mt_in (lo' := 0) (hi' := 3) rfl rfl (fun c1 c2 => absurd ⟨⟨h, by
      rcases Nat.eq_zero_or_pos h with w | w
      · rw [w] at eh; exact absurd eh n0
      · exact w, hh, eh⟩, c1, c2⟩ nb) (fun _ => ⟨fun q => absurd rfl q, fun _ => ⟨Or.inl rfl, hP0⟩⟩)⟩⟩) (fun _ => ⟨fun _ => ⟨Or.inl rfl, hP0⟩, fun q => absurd rfl q⟩)
  refine ⟨fun c => bad (fun ⟨⟨h, h1, hh, eh⟩, _⟩ => ?_), fun c1 => ⟨fun c => bad (fun ⟨⟨h, h1, hh, eh⟩, _⟩ => ?_), fun c2 => ⟨fun c => bad (fun q => absurd c (Int32.not_lt.mpr q.2.1)), fun c3 => ⟨fun c4 => ?_, fun c => bad (fun q => c q.2.2)⟩⟩⟩⟩
  · rw [eh] at c
    have := (nI_ltI (b := 1) (by omega) (by omega)).mp c
    omega
  · rw [eh, hH] at c
    have := (nI_leI (by omega) (by omega)).mp c
    omega
  obtain ⟨h, hb, rfl⟩ := nI_of (x := a1) (fun q => c1 (Int32.lt_of_lt_of_le q (by decide : (0 : Int32) ≤ 1)))
  have h1 : 1 ≤ h := (nI_leI (a := 1) (by omega) (by omega)).mp (Int32.not_lt.mp c1)
  have hh : h < H := by
    rw [hH] at c2
    exact (nI_ltI (by omega) (by omega)).mp (Int32.not_le.mp c2)
  obtain ⟨c, hc3, rfl⟩ := nI_of2 (x := a2) (M := 3) (n := 3) rfl c3 c4
  have ref : ∀ (x : Int32) (M' : zMem), wp_Model_asNumbered W (fun zm5 => wp_Model_hasRing zm5 (fun zr8 zm7 => (¬ zr8 = 0 → ∃ m : Nat, zlp4 (wpB_Model_where_52 (nI h) (nI c) (fun (zx24 : Int32) (zx25 : Int32) (zx26 : Int32) (zm23 : zMem) => (¬ nI c = 0 → (¬ nI c = 1 → (¬ zx25 = (-4) → vp_in ((5 * zx25) + nI c) 3000 ∧ ((x = (zm23 10 (ix ((5 * zx25) + nI c))) ∨ nI c = 1) ∧ P M' zm23)) ∧ (zx25 = (-4) → ((x = (-4) ∨ nI c = 1) ∧ P M' zm23))) ∧ (nI c = 1 → (zx26 = 0 → ((x = 0 ∨ nI c = 1) ∧ P M' zm23)) ∧ (¬ zx26 = 0 → ((x = 1 ∨ nI c = 1) ∧ P M' zm23)))) ∧ (nI c = 0 → ((x = zx24 ∨ nI c = 1) ∧ P M' zm23))) (fun y W' => (x = y ∨ nI c = 1) ∧ P M' W')) m 0 ((-4)) 1 0 zm7) ∧ (zr8 = 0 → ((x = (-4) ∨ nI c = 1) ∧ P M' zm7)))) → wp_Model_where (nI h) (nI c) W (fun y W' => (x = y ∨ nI c = 1) ∧ P M' W') := fun x M' hx =>
    mt_isHand r.2.1 (by omega) (by omega) (fun _ _ _ => ⟨fun q => absurd q (by decide), fun _ => ⟨fun q => absurd q (nI_ne0 (by omega) (by omega)), fun _ => in_yes (hi := 3) rfl hc3 (by omega) ⟨fun _ => hx, fun q => absurd q (by decide)⟩⟩⟩) (fun q => absurd ⟨h, hh, rfl⟩ q)
  refine xt_findRing vt hcr (fun M1 M0 Mc hc ok tc rk ro cf => ?_)
  have told1 : ∀ i, i ≤ 4 → M1 (1 + i) = M (1 + i) := fun i hi => cf _ (by omega) (by omega)
  have cr1 : cr M1 n H L := Or.inr ⟨M0, Mc, hc, ok, fun i hi => (tc i hi).trans (told1 i hi).symm, rk, ro⟩
  have vt1 : sp_vt M1 1 n H L := vt.moved told1
  have e29 : M1 29 = M 29 := cf 29 (by omega) (by omega)
  have e32' : M1 32 0 = M 32 0 := by rw [cf 32 (by omega) (by omega)]
  have cc1 : cc M1 n H L := by
    rcases hcc with q | ⟨m, R, m1, m2, m3, m4, ⟨M0', Mc', b1, b2, b3, b4, b5⟩, m6⟩
    · exact Or.inl (by rw [e29]; exact q)
    · exact Or.inr ⟨m, R, m1, m2, by rw [e29]; exact m3, by rw [e29]; exact m4, ⟨M0', Mc', b1, b2, fun i hi => (b3 i hi).trans (told1 i hi).symm, b4, b5⟩, fun k k1 k2 => (cf k (by omega) (by omega)).trans (m6 k k1 k2)⟩
  obtain ⟨g0, gn, gs⟩ := id ro
  cases eo : sp_ring 1 45 n H Mc with
  | none =>
    refine ⟨fun q => absurd (gn eo).1 q, fun _ => ref _ _ (mt_ringAt vt r hc ok tc (fun W' fy m1 _ _ => ?_))⟩
    rw [if_pos eo]
    exact ⟨fun q => absurd rfl q, fun _ => ⟨Or.inl rfl, hP M1 W' cr1 cc1 e32' (fun k hk => cf k (by omega) (by omega)) fy⟩⟩
  | some x =>
    obtain ⟨da, ta, dn, tn⟩ := x
    obtain ⟨y1, y2, y5, y3, y4, -, -⟩ := gs da ta dn tn eo
    obtain ⟨k1, k2, k3, k4⟩ := rk da ta dn tn eo
    refine ⟨fun _ => ?_, fun q => absurd (y1.symm.trans q) (by decide)⟩
    show wp_Course_runFor 29 (nI 120) M1 _
    refine xt_course (m := 120) vt1 (by rw [e32']; exact ht) cc1 (by omega) (by omega) (fun M2 R hr e30 e2 e3 e32 fr => ?_)
    have cc2 := cc.of (by omega) (by omega) hr e30 e2 e3 fr
    obtain ⟨z, hz6, ez⟩ := rq_z (by omega) hr
    have e300 : M2 30 0 = nI z := by rw [e30 30 (by omega) (by omega)]; exact ez
    have e31 : M2 31 = R 31 := e30 31 (by omega) (by omega)
    have e54 : M2 54 = M1 54 := fr 54 (by omega)
    have cr2 : cr M2 n H L := Or.inr ⟨M0, Mc, hc, ok, fun i hi => ((tc i hi).trans (told1 i hi).symm).trans (fr _ (by omega)).symm, rk, by unfold sp_ro at ro ⊢; rw [e54]; exact ro⟩
    refine xt_places (lo := nI ta) (hi := nI tn) e300 hz6 (by rw [e54]; exact y5) (by rw [e54, y5, y4, q_add]; congr 1; omega) ?_
    rw [e31]
    have hr' : rq M n H L 120 R := by
      obtain ⟨A, B, b1, b2, b3, b4, b5⟩ := hr
      exact ⟨A, B, b1, b2, fun i hi => (b3 i hi).trans (told1 i hi), b4, b5⟩
    refine ref _ _ (mw_ring vt r hr' (fun W' M0' Mc' hc' ok' tc' z30 eR w1 fy rk' mo' => ?_))
    have er : sp_ring 1 32 n H Mc' = some (da, ta, dn, tn) := by
      rw [← eo]
      exact ag_ring ok' ok (ag_clear hc' hc H5 (fun i hi => (tc' i hi).trans (tc i hi).symm))
    rw [if_neg (fun q => by rw [er] at q; cases q)]
    refine ⟨fun _ => ?_, fun q => absurd q (by decide)⟩
    obtain ⟨q, rr, q1, q2, q3, q4, q5, q6, q7, q8⟩ := mo'.2 da ta dn tn er
    have pp : P M2 W' := hP M2 W' cr2 cc2 (e32.trans e32') (fun k hk => (fr k (by omega)).trans (cf k (by omega) (by omega))) fy
    have el := mr_log w1 ez hz6
    have kept : ∀ G : Int32 → zMem → Prop, G (nI z) W' → wp_Model_oversKept W' G := fun G hG => mw_kept w1 (fun z' hz' ez' _ => by
      have : z' = z := (nI_eq (by omega) (by omega)).mp (ez'.symm.trans ez)
      rw [this]; exact hG)
    refine mw_places hz6 kept q1 q2 q3 q4 q6 q8 (by omega) (fun s es => ?_)
    rw [wf_congr z el] at es
    rw [← es]
    have hs := wf_b (V := R 31) (h := nI h) (lo := nI ta) (hi := nI tn) z
    rw [← es] at hs
    have two : ∀ j, j < 5 → (¬ (if s.1 = 0 then (-4 : Int32) else nI s.2.1) = -4 → vp_in (5 * (if s.1 = 0 then (-4 : Int32) else nI s.2.1) + nI j) 3000 ∧ ((w2 (R 31) s j = W' 10 (ix (5 * (if s.1 = 0 then (-4 : Int32) else nI s.2.1) + nI j)) ∨ nI c = 1) ∧ P M2 W')) ∧ ((if s.1 = 0 then (-4 : Int32) else nI s.2.1) = -4 → ((w2 (R 31) s j = -4 ∨ nI c = 1) ∧ P M2 W')) := fun j hj => by
      unfold w2
      by_cases s0 : s.1 = 0
      · rw [if_pos s0, if_pos s0]
        exact ⟨fun q => absurd rfl q, fun _ => ⟨Or.inl rfl, pp⟩⟩
      · rw [if_neg s0, if_neg s0]
        have hf : s.2.1 < z := hs.2.resolve_left s0
        have f5 : 5 * nI s.2.1 + nI j = nI (s.2.1 * 5 + j) := by rw [show (5 : Int32) = nI 5 from rfl, q_mul, q_add, Nat.mul_comm]
        rw [f5, q_ix (by omega)]
        refine ⟨fun _ => ⟨vp_in_nI (by omega) (by omega), Or.inl (el _ (by omega)).symm, pp⟩, fun w => ?_⟩
        have := q_neq (a := s.2.1) (c := 4) (by omega) (by omega) (by omega)
        rw [show (-4 : Int32) = -nI 4 from rfl, this] at w
        exact absurd w id
    rcases (show c = 0 ∨ c = 1 ∨ c = 2 ∨ c = 3 by omega) with rfl | rfl | rfl | rfl
    · exact ⟨fun q => absurd rfl q, fun _ => ⟨Or.inl rfl, pp⟩⟩
    · exact ⟨fun _ => ⟨fun q => absurd rfl q, fun _ => ⟨fun w => ⟨Or.inr rfl, pp⟩, fun w => ⟨Or.inr rfl, pp⟩⟩⟩, fun q => absurd q (by decide)⟩
    · exact ⟨fun _ => ⟨fun _ => two 2 (by omega), fun q => absurd q (by decide)⟩, fun q => absurd q (by decide)⟩
    · exact ⟨fun _ => ⟨fun _ => two 3 (by omega), fun q => absurd q (by decide)⟩, fun q => absurd q (by decide)⟩
