/-- what is told is as at first -/
def tl (M : zMem) : Prop := (∀ j, j ≤ 6 → M 1 j = lq lxc 1 j) ∧ (∀ j, j < 6 → M 2 j = lq lxc 2 j) ∧ (∀ j, j < 24 → M 3 j = lq lxc 3 j) ∧ (∀ j, j < 40 → M 4 j = lq lxc 4 j) ∧ (∀ j, j < 5 → M 5 j = lq lxc 5 j)
theorem lc_39 : (List.range 40).all (fun j => decide (lq lxc 39 j = 0)) = true := by decide +kernel
theorem fr_c {M0 Mc : zMem} (hc : sp_clear 32 M0 Mc) (z30 : Mc 30 0 = 0) (t : tl Mc) : ag 32 32 3 Mc (lq lxc) ∧ agl Mc (lq lxc) := by
  obtain ⟨c2, c3, c4, c5, c0, c1, ch, cl, cs, ck⟩ := hc
  refine ⟨⟨t, fun j h2 h5 => ?_, fun h hh => ?_, fun j hj => ?_⟩, z30, fun j hj => ?_⟩
  · rcases (show j = 2 ∨ j = 3 ∨ j = 4 ∨ j = 5 by omega) with rfl | rfl | rfl | rfl
    · exact c2
    · exact c3
    · exact c4
    · exact c5
  · obtain ⟨x1, x2, x3, x4⟩ := ch h (by omega)
    refine ⟨x1.trans ?_, x2.trans ?_, x3.trans ?_, Or.inl x3⟩ <;> (rcases (show h = 0 ∨ h = 1 ∨ h = 2 by omega) with rfl | rfl | rfl <;> rfl)
  · exact (cl j hj).trans (of_decide_eq_true (agD_all lc_39 j hj)).symm
  · rw [z30] at hj
    exact absurd hj (by show ¬ j < 5 * ix (nI 0); rw [q_ix (by omega)]; omega)
theorem rg_go2 {M M' : zMem} {X Y : List (List Int32)} {f r : Nat} {R : Nat → zMem} (e : M' = sp_ev 1 32 3 M) (k : lk M X) (k' : lk M' Y) (c : lq X 32 3 < 120) (d : ¬ lq X 32 3 < lq Y 32 3) : sp_rg 3 3 (f + 1) (vw 1 32 M) r R = sp_rg 3 3 f (vw 1 32 M') r R := by
  have ve : sp_ev 0 5 3 (vw 1 32 M) = vw 1 32 M' := by rw [e]; exact (vw_ev (by omega) (by omega)).symm
  have x : M 32 3 = lq X 32 3 := k.2.2.1.2.1 3 (by omega) (by omega)
  have y : M' 32 3 = lq Y 32 3 := k'.2.2.1.2.1 3 (by omega) (by omega)
  rw [sp_rg_go (by rw [vw_0 (by omega), x]; exact c) (by rw [ve, vw_0 (by omega), vw_0 (by omega), x, y]; exact d), ve]
theorem rg_no2 {M M' : zMem} {X Y : List (List Int32)} {f r : Nat} {R : Nat → zMem} (e : M' = sp_ev 1 32 3 M) (k : lk M X) (k' : lk M' Y) (c : lq X 32 3 < 120) (d : lq X 32 3 < lq Y 32 3) (hn : ∀ q, q < r → ¬ sp_same 0 5 3 3 (R q) (vw 1 32 M')) : sp_rg 3 3 (f + 1) (vw 1 32 M) r R = sp_rg 3 3 f (vw 1 32 M') (r + 1) (fun i => if i = r then vw 1 32 M' else R i) := by
  have ve : sp_ev 0 5 3 (vw 1 32 M) = vw 1 32 M' := by rw [e]; exact (vw_ev (by omega) (by omega)).symm
  have x : M 32 3 = lq X 32 3 := k.2.2.1.2.1 3 (by omega) (by omega)
  have y : M' 32 3 = lq Y 32 3 := k'.2.2.1.2.1 3 (by omega) (by omega)
  have fo : sp_fo (fun q => sp_same 0 5 3 3 (R q) (sp_ev 0 5 3 (vw 1 32 M))) r = none := by
    rw [ve]
    exact (sp_fst_eq (Or.inl ⟨rfl, hn⟩) (fun _ _ => Iff.rfl)).symm
  rw [sp_rg_none (by rw [vw_0 (by omega), x]; exact c) (by rw [ve, vw_0 (by omega), vw_0 (by omega), x, y]; exact d) fo, ve]
theorem rg_so2 {M M' Mq : zMem} {X Y Z : List (List Int32)} {f r : Nat} {R : Nat → zMem} (e : M' = sp_ev 1 32 3 M) (k : lk M X) (k' : lk M' Y) (kq : lk Mq Z) (c : lq X 32 3 < 120) (d : lq X 32 3 < lq Y 32 3) (hr : 0 < r) (eq : R 0 = vw 1 32 Mq) (hs : sp_same 1 32 3 3 Mq M') : sp_rg 3 3 (f + 1) (vw 1 32 M) r R = some (ix (lq Z 32 3), ix (lq Z 32 2), ix (lq Y 32 3), ix (lq Y 32 2)) := by
  have ve : sp_ev 0 5 3 (vw 1 32 M) = vw 1 32 M' := by rw [e]; exact (vw_ev (by omega) (by omega)).symm
  have x : M 32 3 = lq X 32 3 := k.2.2.1.2.1 3 (by omega) (by omega)
  have y : M' 32 3 = lq Y 32 3 := k'.2.2.1.2.1 3 (by omega) (by omega)
  have y2 : M' 32 2 = lq Y 32 2 := k'.2.2.1.2.1 2 (by omega) (by omega)
  have z : Mq 32 3 = lq Z 32 3 := kq.2.2.1.2.1 3 (by omega) (by omega)
  have z2 : Mq 32 2 = lq Z 32 2 := kq.2.2.1.2.1 2 (by omega) (by omega)
  have fo : sp_fo (fun q => sp_same 0 5 3 3 (R q) (sp_ev 0 5 3 (vw 1 32 M))) r = some 0 := by
    rw [ve]
    exact (sp_fst_eq (P := fun q => sp_same 0 5 3 3 (R q) (vw 1 32 M')) (Or.inr ⟨0, rfl, hr, by show sp_same 0 5 3 3 (R 0) (vw 1 32 M'); rw [eq, vw_same]; exact hs, fun q hq => absurd hq (by omega)⟩) (fun _ _ => Iff.rfl)).symm
  rw [sp_rg_some (by rw [vw_0 (by omega), x]; exact c) (by rw [ve, vw_0 (by omega), vw_0 (by omega), x, y]; exact d) fo, ve, eq]
  unfold sp_rn
  rw [vw_0 (by omega), vw_0 (by omega), vw_0 (by omega), vw_0 (by omega), y, y2, z, z2]
theorem rl_2 {M M' : zMem} {X : List (List Int32)} {f : Nat} {R : zMem} (e : M' = sp_ev 1 32 3 M) (k : lk M X) (c : lq X 32 3 < 120) (h : sp_rl M 1 32 3 3 1 f ∧ R = sp_run 1 32 3 (nI 120) f M) : ∃ g, sp_rl M' 1 32 3 3 1 g ∧ R = sp_run 1 32 3 (nI 120) g M' := by
  have x : M 32 3 = lq X 32 3 := k.2.2.1.2.1 3 (by omega) (by omega)
  obtain ⟨g, -, r2, r3, -⟩ := sp_rl_step h.1 (m := 120) (by omega) (by rw [x]; exact c)
  rw [e]
  exact ⟨g, r2, h.2.trans r3⟩
theorem fr_k {S : Nat → zMem} (hS : ∀ i, S (i + 1) = sp_ev 1 32 3 (S i)) (k0 : lk (S 0) lx0) : lk (S 1) lx1 ∧ lk (S 2) lx2 ∧ lk (S 3) lx3 ∧ lk (S 4) lx4 ∧ lk (S 5) lx5 ∧ lk (S 6) lx6 ∧ lk (S 7) lx7 ∧ lk (S 8) lx8 ∧ lk (S 9) lx9 ∧ lk (S 10) lx10 ∧ lk (S 11) lx11 ∧ lk (S 12) lx12 ∧ lk (S 13) lx13 ∧ lk (S 14) lx14 ∧ lk (S 15) lx15 ∧ lk (S 16) lx16 ∧ lk (S 17) lx17 ∧ lk (S 18) lx18 := by
  have k1 : lk (S 1) lx1 := by rw [hS 0]; exact lk_ev k0 (by decide) le_0
  have k2 : lk (S 2) lx2 := by rw [hS 1]; exact lk_ev k1 (by decide) le_1
  have k3 : lk (S 3) lx3 := by rw [hS 2]; exact lk_ev k2 (by decide) le_2
  have k4 : lk (S 4) lx4 := by rw [hS 3]; exact lk_ev k3 (by decide) le_3
  have k5 : lk (S 5) lx5 := by rw [hS 4]; exact lk_ev k4 (by decide) le_4
  have k6 : lk (S 6) lx6 := by rw [hS 5]; exact lk_ev k5 (by decide) le_5
  have k7 : lk (S 7) lx7 := by rw [hS 6]; exact lk_ev k6 (by decide) le_6
  have k8 : lk (S 8) lx8 := by rw [hS 7]; exact lk_ev k7 (by decide) le_7
  have k9 : lk (S 9) lx9 := by rw [hS 8]; exact lk_ev k8 (by decide) le_8
  have k10 : lk (S 10) lx10 := by rw [hS 9]; exact lk_ev k9 (by decide) le_9
  have k11 : lk (S 11) lx11 := by rw [hS 10]; exact lk_ev k10 (by decide) le_10
  have k12 : lk (S 12) lx12 := by rw [hS 11]; exact lk_ev k11 (by decide) le_11
  have k13 : lk (S 13) lx13 := by rw [hS 12]; exact lk_ev k12 (by decide) le_12
  have k14 : lk (S 14) lx14 := by rw [hS 13]; exact lk_ev k13 (by decide) le_13
  have k15 : lk (S 15) lx15 := by rw [hS 14]; exact lk_ev k14 (by decide) le_14
  have k16 : lk (S 16) lx16 := by rw [hS 15]; exact lk_ev k15 (by decide) le_15
  have k17 : lk (S 17) lx17 := by rw [hS 16]; exact lk_ev k16 (by decide) le_16
  have k18 : lk (S 18) lx18 := by rw [hS 17]; exact lk_ev k17 (by decide) le_17
  exact ⟨k1, k2, k3, k4, k5, k6, k7, k8, k9, k10, k11, k12, k13, k14, k15, k16, k17, k18⟩
theorem ne_6_10 : neD (lq lx6) (lq lx10) = true := by decide +kernel
theorem ne_6_14 : neD (lq lx6) (lq lx14) = true := by decide +kernel
theorem ne_10_14 : neD (lq lx10) (lq lx14) = true := by decide +kernel
theorem eq_6_18 : eqD (lq lx6) (lq lx18) = true := by decide +kernel
theorem rn_6_18 : (ix (lq lx6 32 3), ix (lq lx6 32 2), ix (lq lx18 32 3), ix (lq lx18 32 2)) = (1, 6, 4, 18) := by decide +kernel
theorem fr_ring {S : Nat → zMem} (hS : ∀ i, S (i + 1) = sp_ev 1 32 3 (S i)) (k0 : lk (S 0) lx0) (R0 : Nat → zMem) (f : Nat) : sp_rg 3 3 (f + 18) (vw 1 32 (S 0)) 0 R0 = some (1, 6, 4, 18) := by
  obtain ⟨k1, k2, k3, k4, k5, k6, k7, k8, k9, k10, k11, k12, k13, k14, k15, k16, k17, k18⟩ := fr_k hS k0
  have s4 : ∀ R : Nat → zMem, R 0 = vw 1 32 (S 6) → sp_rg 3 3 (f + 4) (vw 1 32 (S 14)) 3 R = some (1, 6, 4, 18) := fun R h0 => by
    refine (rg_go2 (f := f + 3) (hS 14) k14 k15 (by decide) (by decide)).trans ?_
    refine (rg_go2 (f := f + 2) (hS 15) k15 k16 (by decide) (by decide)).trans ?_
    refine (rg_go2 (f := f + 1) (hS 16) k16 k17 (by decide) (by decide)).trans ?_
    exact (rg_so2 (f := f) (hS 17) k17 k18 k6 (by decide) (by decide) (by omega) h0 (lk_eq k6 k18 eq_6_18)).trans (congrArg some rn_6_18)
  have s3 : ∀ R : Nat → zMem, R 0 = vw 1 32 (S 6) → R 1 = vw 1 32 (S 10) → sp_rg 3 3 (f + 8) (vw 1 32 (S 10)) 2 R = some (1, 6, 4, 18) := fun R h0 h1 => by
    refine (rg_go2 (f := f + 7) (hS 10) k10 k11 (by decide) (by decide)).trans ?_
    refine (rg_go2 (f := f + 6) (hS 11) k11 k12 (by decide) (by decide)).trans ?_
    refine (rg_go2 (f := f + 5) (hS 12) k12 k13 (by decide) (by decide)).trans ?_
    refine (rg_no2 (f := f + 4) (hS 13) k13 k14 (by decide) (by decide) (fun q hq => ?_)).trans (s4 _ ?_)
    · rcases (show q = 0 ∨ q = 1 by omega) with rfl | rfl
      · rw [h0, vw_same]; exact lk_ne k6 k14 ne_6_14
      · rw [h1, vw_same]; exact lk_ne k10 k14 ne_10_14
    · show (if 0 = 2 then _ else R 0) = _
      rw [if_neg (by omega)]; exact h0
  have s2 : ∀ R : Nat → zMem, R 0 = vw 1 32 (S 6) → sp_rg 3 3 (f + 12) (vw 1 32 (S 6)) 1 R = some (1, 6, 4, 18) := fun R h0 => by
    refine (rg_go2 (f := f + 11) (hS 6) k6 k7 (by decide) (by decide)).trans ?_
    refine (rg_go2 (f := f + 10) (hS 7) k7 k8 (by decide) (by decide)).trans ?_
    refine (rg_go2 (f := f + 9) (hS 8) k8 k9 (by decide) (by decide)).trans ?_
    refine (rg_no2 (f := f + 8) (hS 9) k9 k10 (by decide) (by decide) (fun q hq => ?_)).trans (s3 _ ?_ ?_)
    · rw [show q = 0 by omega, h0, vw_same]; exact lk_ne k6 k10 ne_6_10
    · show (if 0 = 1 then _ else R 0) = _
      rw [if_neg (by omega)]; exact h0
    · show (if 1 = 1 then _ else R 1) = _
      rw [if_pos rfl]
  refine (rg_go2 (f := f + 17) (hS 0) k0 k1 (by decide) (by decide)).trans ?_
  refine (rg_go2 (f := f + 16) (hS 1) k1 k2 (by decide) (by decide)).trans ?_
  refine (rg_go2 (f := f + 15) (hS 2) k2 k3 (by decide) (by decide)).trans ?_
  refine (rg_go2 (f := f + 14) (hS 3) k3 k4 (by decide) (by decide)).trans ?_
  refine (rg_go2 (f := f + 13) (hS 4) k4 k5 (by decide) (by decide)).trans ?_
  refine (rg_no2 (f := f + 12) (hS 5) k5 k6 (by decide) (by decide) (fun q hq => absurd hq (by omega))).trans (s2 _ ?_)
  show (if 0 = 0 then _ else R0 0) = _
  rw [if_pos rfl]
theorem fr_log {S : Nat → zMem} (hS : ∀ i, S (i + 1) = sp_ev 1 32 3 (S i)) (k0 : lk (S 0) lx0) {R : zMem} (h0 : ∃ f, sp_rl (S 0) 1 32 3 3 1 f ∧ R = sp_run 1 32 3 (nI 120) f (S 0)) : ∃ z, 5 ≤ z ∧ z ≤ 600 ∧ R 30 0 = nI z ∧ R 31 15 = 7 ∧ R 31 16 = 2 ∧ R 31 20 = 9 ∧ R 31 21 = 1 := by
  obtain ⟨k1, k2, k3, k4, k5, k6, k7, k8, k9, k10, k11, k12, k13, k14, k15, k16, k17, k18⟩ := fr_k hS k0
  obtain ⟨f0, h0⟩ := h0
  have h1 := rl_2 (hS 0) k0 (by decide) h0
  obtain ⟨f1, h1⟩ := h1
  have h2 := rl_2 (hS 1) k1 (by decide) h1
  obtain ⟨f2, h2⟩ := h2
  have h3 := rl_2 (hS 2) k2 (by decide) h2
  obtain ⟨f3, h3⟩ := h3
  have h4 := rl_2 (hS 3) k3 (by decide) h3
  obtain ⟨f4, h4⟩ := h4
  have h5 := rl_2 (hS 4) k4 (by decide) h4
  obtain ⟨f5, h5⟩ := h5
  have h6 := rl_2 (hS 5) k5 (by decide) h5
  obtain ⟨f6, h6⟩ := h6
  have h7 := rl_2 (hS 6) k6 (by decide) h6
  obtain ⟨f7, h7⟩ := h7
  have h8 := rl_2 (hS 7) k7 (by decide) h7
  obtain ⟨f8, h8⟩ := h8
  have h9 := rl_2 (hS 8) k8 (by decide) h8
  obtain ⟨f9, r9, e9⟩ := h9
  obtain ⟨z, z', g1, g2, g3, g4, g5⟩ := lgk_run (m := 120) (by omega) f9 _ r9
  rw [← e9] at g2 g5
  have e5 : S 9 30 0 = nI 5 := k9.2.2.2.1
  have ez : z = 5 := by
    have ok := k9.1
    obtain ⟨w, w1, w2⟩ := ok.2.2.2.2.2.2 30 rfl
    exact (nI_eq (by omega) (by omega)).mp (g1.symm.trans e5)
  subst ez
  have at9 : ∀ j, j < 25 → R 31 j = lq lx9 31 j := fun j hj => (g5 j (by omega)).trans (k9.2.2.2.2 j (by rw [e5, q_ix (by omega)]; omega))
  exact ⟨z', g3, g4, g2, at9 15 (by omega), at9 16 (by omega), at9 20 (by omega), at9 21 (by omega)⟩
/-- the ring of the rule as at first, and that hands 1 and 2 take over in it -/
theorem fr_where {M0 Mc R : zMem} (hc : sp_clear 32 M0 Mc) (ok : sp_ok Mc 1 32 3 3 1) (z30 : Mc 30 0 = 0) (t : tl Mc) (eR : R = sp_run 1 32 3 (nI 120) 12000 (sp_all 1 32 3 Mc)) : sp_ring 1 32 3 3 Mc = some (1, 6, 4, 18) ∧ ∃ z, 5 ≤ z ∧ z ≤ 600 ∧ R 30 0 = nI z ∧ R 31 15 = 7 ∧ R 31 16 = 2 ∧ R 31 20 = 9 ∧ R 31 21 = 1 := by
  obtain ⟨S, s0, hS⟩ : ∃ S : Nat → zMem, S 0 = sp_all 1 32 3 Mc ∧ ∀ i, S (i + 1) = sp_ev 1 32 3 (S i) := ⟨fun i => Nat.rec (sp_all 1 32 3 Mc) (fun _ x => sp_ev 1 32 3 x) i, rfl, fun _ => rfl⟩
  obtain ⟨a, l⟩ := fr_c hc z30 t
  have k0 : lk (S 0) lx0 := by rw [s0]; exact lk_all ok a l (by decide) le_c
  refine ⟨?_, fr_log hS k0 ⟨12000, ?_, by rw [s0]; exact eR⟩⟩
  · unfold sp_ring
    rw [← s0]
    exact fr_ring hS k0 _ 11982
  · rw [s0]
    exact sp_rl_0 (sp_ri_0 hc ok).1
