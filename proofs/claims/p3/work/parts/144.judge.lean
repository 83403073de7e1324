theorem rq_z {n H L m : Nat} {M R : zMem} (hm : m ≤ 120) (hr : rq M n H L m R) : ∃ z, z ≤ 600 ∧ R 30 0 = nI z := by
  obtain ⟨M0, Mc, hc, ok, tc, z30, eR⟩ := id hr
  obtain ⟨ri, -, -⟩ := sp_ri_0 hc ok
  have key : ∀ f (X : zMem), sp_rl X 1 32 n H L f → ∃ z, z ≤ 600 ∧ sp_run 1 32 H (nI m) f X 30 0 = nI z := by
    intro f
    induction f with
    | zero => intro X rl; obtain ⟨z, z1, z2⟩ := rl.1.1.2.2.2.2.2.2 30 rfl; exact ⟨z, z2, z1⟩
    | succ f ih =>
      intro X rl
      rw [sp_run_1]
      split
      · rename_i c
        obtain ⟨g, hg, rl2, -, -⟩ := sp_rl_step rl hm c
        have e : g = f := by omega
        subst e
        exact ih _ rl2
      · obtain ⟨z, z1, z2⟩ := rl.1.1.2.2.2.2.2.2 30 rfl; exact ⟨z, z2, z1⟩
  rw [eR]
  exact key 12000 _ (sp_rl_0 ri)
theorem p_judge {n H L : Nat} {M W : zMem} {a1 a2 a3 a4 a5 : Int32} {P : zMem → zMem → Prop} (vt : sp_vt M 1 n H L) (r : rt0 W M n H L) (ht : ztc (M 32 0) = 1) (hcc : cc M n H L)
    (hP : ∀ M' W', cc M' n H L → cfc M M' → mfy W W' → P M' W') : wp_Main_judge a1 a2 a3 a4 a5 M (fun x M' => wp_Model_judge a1 a2 a3 a4 a5 W (fun y W' => x = y ∧ P M' W')) := by
  show wp_Course_runFor 29 (nI 120) M _
  refine xt_course vt ht hcc (by omega) (by omega) (fun M' R hr e30 e2 e3 e32 fr => ?_)
  have ccM := cc.of (by omega) (by omega) hr e30 e2 e3 fr
  obtain ⟨z, hz6, ez⟩ := rq_z (by omega) hr
  have e300 : M' 30 0 = nI z := by rw [e30 30 (by omega) (by omega)]; exact ez
  have e31 : M' (30 + 1) = R 31 := e30 31 (by omega) (by omega)
  have way : ∀ x : Int32, (∀ W' : zMem, (∀ j, j < 5 * z → W' 10 j = R 31 j) → (¬ (0 ≤ a1 ∧ a1 ≤ nI z - 1) → x = -1) ∧ (∀ y, y < z → a1 = nI y → (a2 = R 31 (5 * y) → (a3 = R 31 (5 * y + 1) → (a4 = R 31 (5 * y + 2) → (a5 = R 31 (5 * y + 3) → x = 0) ∧ (¬ a5 = R 31 (5 * y + 3) → x = 4)) ∧ (¬ a4 = R 31 (5 * y + 2) → x = 3)) ∧ (¬ a3 = R 31 (5 * y + 1) → x = 2)) ∧ (¬ a2 = R 31 (5 * y) → x = 1))) → wp_Model_judge a1 a2 a3 a4 a5 W (fun v W' => x = v ∧ P M' W') := by
    intro x hx
    refine mw_course (m := 120) vt r (by omega) hr (fun W' w1 w2 w3 w4 => ?_)
    refine mw_kept w1 (fun z' hz' ez' el => ?_)
    have ezz : z' = z := (nI_eq (by omega) (by omega)).mp (ez'.symm.trans ez)
    subst ezz
    obtain ⟨x1, x2⟩ := hx W' el
    have pp := hP M' W' ccM ⟨e32, fr⟩ w4
    refine mt_in (lo' := 0) (hi' := nI z' - 1) rfl rfl (fun c1 c2 => ⟨fun _ => ?_, fun q => absurd q (by decide)⟩) (fun c => ⟨fun q => absurd rfl q, fun _ => ⟨x1 c, pp⟩⟩)
    have z0 : 0 < z' := by
      rcases Nat.eq_zero_or_pos z' with q | q
      · rw [q] at c2
        exact absurd (Int32.le_trans c1 c2) (by decide)
      · exact q
    obtain ⟨y, hy, rfl⟩ := (rng_1 z0 (by omega)).mp ⟨c1, c2⟩
    have x2 := x2 y hy rfl
    have f0 : 5 * nI y = nI (5 * y) := by simp (disch := omega) only [q_lit, q_add, q_mul, q_sub, q_ix, q_in, q_lt, q_le, q_eq, q_nlt, q_nle, q_ltn, q_len, q_neq, q_eqn, zup_ne, zup_eq, zset_ne, zset_eq, upd_eq, upd_ne, forall_eq, true_and, and_true, true_implies, false_implies, implies_true, not_true_eq_false, not_false_eq_true, and_self, ↓reduceIte, false_and, and_false]
    have f1 : nI (5 * y) + 1 = nI (5 * y + 1) := nI_1 _
    have f2 : nI (5 * y) + 2 = nI (5 * y + 2) := q_add _ 2
    have f3 : nI (5 * y) + 3 = nI (5 * y + 3) := q_add _ 3
    rw [f0, f1, f2, f3, q_ix (by omega), q_ix (by omega), q_ix (by omega), q_ix (by omega), el (5 * y) (by omega), el (5 * y + 1) (by omega), el (5 * y + 2) (by omega), el (5 * y + 3) (by omega)]
    refine ⟨vp_in_nI (by omega) (by omega), fun q0 => ⟨vp_in_nI (by omega) (by omega), fun q1 => ⟨vp_in_nI (by omega) (by omega), fun q2 => ⟨vp_in_nI (by omega) (by omega), fun q3 => ⟨?_, pp⟩, fun q3 => ⟨?_, pp⟩⟩, fun q2 => ⟨?_, pp⟩⟩, fun q1 => ⟨?_, pp⟩⟩, fun q0 => ⟨?_, pp⟩⟩
    · exact (((x2.1 q0).1 q1).1 q2).1 q3
    · exact (((x2.1 q0).1 q1).1 q2).2 q3
    · exact ((x2.1 q0).1 q1).2 q2
    · exact (x2.1 q0).2 q1
    · exact x2.2 q0
  rw [e300]
  have bad : ¬ (∃ y, y < z ∧ a1 = nI y) → wp_Model_judge a1 a2 a3 a4 a5 W (fun v W' => -1 = v ∧ P M' W') := fun nb => way (-1) (fun W' _ => ⟨fun _ => rfl, fun y hy e => absurd ⟨y, hy, e⟩ nb⟩)
  refine ⟨fun c => bad (fun ⟨y, hy, e⟩ => ?_), fun c => ⟨fun c2 => ?_, fun c2 => bad (fun ⟨y, hy, e⟩ => ?_)⟩⟩
  · rw [e] at c; exact absurd c (nI_pos (by omega))
  · obtain ⟨y, hy0, rfl⟩ := nI_of c
    have hy := (nI_ltI (by omega) (by omega)).mp c2
    have good : ¬ (¬ ((0 : Int32) ≤ nI y ∧ nI y ≤ nI z - 1)) := fun q => q ((rng_1 (by omega) (by omega)).mpr ⟨y, hy, rfl⟩)
    have way2 : ∀ x : Int32, ((a2 = R 31 (5 * y) → (a3 = R 31 (5 * y + 1) → (a4 = R 31 (5 * y + 2) → (a5 = R 31 (5 * y + 3) → x = 0) ∧ (¬ a5 = R 31 (5 * y + 3) → x = 4)) ∧ (¬ a4 = R 31 (5 * y + 2) → x = 3)) ∧ (¬ a3 = R 31 (5 * y + 1) → x = 2)) ∧ (¬ a2 = R 31 (5 * y) → x = 1)) → wp_Model_judge (nI y) a2 a3 a4 a5 W (fun v W' => x = v ∧ P M' W') := fun x hx => way x (fun W' _ => ⟨fun q => absurd q good, fun y' hy' e => by
      have := (nI_eq (by omega) (by omega)).mp e
      subst this
      exact hx⟩)
    have v0 : M' (30 + 1) (y * 5 + 0) = R 31 (5 * y) := by rw [e31]; congr 1; omega
    have v1 : M' (30 + 1) (y * 5 + 1) = R 31 (5 * y + 1) := by rw [e31]; congr 1; omega
    have v2 : M' (30 + 1) (y * 5 + 2) = R 31 (5 * y + 2) := by rw [e31]; congr 1; omega
    have v3 : M' (30 + 1) (y * 5 + 3) = R 31 (5 * y + 3) := by rw [e31]; congr 1; omega
    refine e_value (j := 0) (by omega) (by omega) ?_
    rw [v0]
    refine ⟨fun q0 => e_value (j := 1) (by omega) (by omega) ?_, fun q0 => way2 1 ⟨fun q => absurd q.symm q0, fun _ => rfl⟩⟩
    rw [v1]
    refine ⟨fun q1 => e_value (j := 2) (by omega) (by omega) ?_, fun q1 => way2 2 ⟨fun _ => ⟨fun q => absurd q.symm q1, fun _ => rfl⟩, fun q => absurd q0.symm q⟩⟩
    rw [v2]
    refine ⟨fun q2 => e_value (j := 3) (by omega) (by omega) ?_, fun q2 => way2 3 ⟨fun _ => ⟨fun _ => ⟨fun q => absurd q.symm q2, fun _ => rfl⟩, fun q => absurd q1.symm q⟩, fun q => absurd q0.symm q⟩⟩
    rw [v3]
    exact ⟨fun q3 => way2 0 ⟨fun _ => ⟨fun _ => ⟨fun _ => ⟨fun _ => rfl, fun q => absurd q3.symm q⟩, fun q => absurd q2.symm q⟩, fun q => absurd q1.symm q⟩, fun q => absurd q0.symm q⟩, fun q3 => way2 4 ⟨fun _ => ⟨fun _ => ⟨fun _ => ⟨fun q => absurd q.symm q3, fun _ => rfl⟩, fun q => absurd q2.symm q⟩, fun q => absurd q1.symm q⟩, fun q => absurd q0.symm q⟩⟩
  · rw [e] at c2; exact c2 ((nI_ltI (by omega) (by omega)).mpr hy)
