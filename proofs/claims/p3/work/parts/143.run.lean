theorem sp_run_fr {t b n H L m : Nat} (hm : m ≤ 120) : ∀ f (M : zMem), sp_rl M t b n H L f → sp_fr b M (sp_run t b H (nI m) f M) := by
  intro f
  induction f with
  | zero => intro M _; exact sp_fr.rf
  | succ f ih =>
    intro M rl
    rw [sp_run_1]
    split
    · rename_i c
      obtain ⟨g, hg, rl2, -, fr⟩ := sp_rl_step rl hm c
      have e : g = f := by omega
      subst e
      exact fr.tr (ih _ rl2)
    · exact sp_fr.rf
/-- R is the run for m coats of what M is told -/
def rq (M : zMem) (n H L m : Nat) (R : zMem) : Prop := ∃ M0 Mc, sp_clear 32 M0 Mc ∧ sp_ok Mc 1 32 n H L ∧ (∀ i, i ≤ 4 → Mc (1 + i) = M (1 + i)) ∧ Mc 30 0 = 0 ∧ R = sp_run 1 32 H (nI m) 12000 (sp_all 1 32 H Mc)
/-- the course that is kept is one of what is told now -/
def cc (M : zMem) (n H L : Nat) : Prop := M 29 2 = 0 ∨ ∃ m R, 1 ≤ m ∧ m ≤ 120 ∧ M 29 2 = nI m ∧ M 29 3 = 0 ∧ rq M n H L m R ∧ ∀ k, 30 ≤ k → k ≤ 40 → M k = R k
theorem xt_course {n H L m : Nat} {M : zMem} {Q : zMem → Prop} (vt : sp_vt M 1 n H L) (ht : ztc (M 32 0) = 1) (h : cc M n H L) (m1 : 1 ≤ m) (hm : m ≤ 120)
    (hQ : ∀ M' R, rq M n H L m R → (∀ k, 30 ≤ k → k ≤ 40 → M' k = R k) → M' 29 2 = nI m → M' 29 3 = 0 → M' 32 0 = M 32 0 → (∀ k, (k < 29 ∨ 41 ≤ k) → M' k = M k) → Q M') : wp_Course_runFor 29 (nI m) M Q := by
  refine xt_runFor vt ht hm (fun q => ?_) (fun _ Mc hc => ?_)
  · rcases h with h | ⟨m', R, b1, b2, b3, b4, b5, b6⟩
    · rw [h] at q
      have := (nI_eq (a := 0) (by omega) (by omega)).mp q
      omega
    · have e : m' = m := (nI_eq (by omega) (by omega)).mp (b3.symm.trans q)
      subst e
      exact hQ M R b5 b6 b3 b4 rfl (fun _ _ => rfl)
  · have k3 : ∀ k, k ≠ 29 → k ≠ 30 → zup (zup (zup M 29 2 (nI m)) 29 3 0) 30 0 0 k = M k := fun k a b => by simp (disch := omega) only [zup_ne]
    have z30 : zup (zup (zup M 29 2 (nI m)) 29 3 0) 30 0 0 30 0 = 0 := by simp (disch := omega) only [zup_eq, upd_eq]
    have vt3 : sp_vt (zup (zup (zup M 29 2 (nI m)) 29 3 0) 30 0 0) 1 n H L := vt.moved (fun i hi => k3 _ (by omega) (by omega))
    have ok : sp_ok Mc 1 32 n H L := sp_ok_clear hc (by rw [k3 32 (by omega) (by omega)]; exact ht) (by omega) (by omega) vt3 (fun g q => by
      rcases zlg_cases 32 with d | ⟨d, -⟩
      · cases d
      · rw [d] at q; cases q; exact ⟨0, z30, by omega⟩)
    have ck := hc.2.2.2.2.2.2.2.2.2
    obtain ⟨ri, fr, -⟩ := sp_ri_0 hc ok
    have fr2 := fr.tr (sp_run_fr (m := m) hm 12000 _ (sp_rl_0 ri))
    have e29 : sp_run 1 32 H (nI m) 12000 (sp_all 1 32 H Mc) 29 = zup (zup (zup M 29 2 (nI m)) 29 3 0) 30 0 0 29 := by rw [fr2.1 29 (by omega) (fun _ => by omega)]; exact ck 29 (by omega)
    refine hQ _ _ ⟨_, Mc, hc, ok, fun i hi => ?_, ?_, rfl⟩ (fun _ _ _ => rfl) ?_ ?_ ?_ (fun k hk => ?_)
    · rw [ck _ (by omega), k3 _ (by omega) (by omega)]
    · rw [ck 30 (by omega)]; exact z30
    · rw [e29]; simp (disch := omega) only [zup_ne, zup_eq, upd_ne, upd_eq]
    · rw [e29]; simp (disch := omega) only [zup_ne, zup_eq, upd_eq]
    · rw [fr2.2, hc.2.2.2.2.1, k3 32 (by omega) (by omega)]
    · rw [fr2.1 k (by omega) (fun _ => by omega), ck k (by omega), k3 k (by omega) (by omega)]
theorem mfw.y {W W' : zMem} (h : mfw W W') : mfy W W' := ⟨fun k a b _ _ e f g h1 i _ => h.1 k a b e f g h1 i, h.2.1, fun j _ _ c => h.2.2 j (by omega) (by omega) (by omega)⟩
/-- the reference's run, against the class's -/
theorem mw_course {n H L m : Nat} {M R W : zMem} {Q : zMem → Prop} (vt : sp_vt M 1 n H L) (r : rt0 W M n H L) (hm : m ≤ 120) (h : rq M n H L m R)
    (hQ : ∀ W', mr W' R 1 1 32 n H L (fun h => h) → ms W' R 1 32 n → W' 6 99 = 0 → mfy W W' → Q W') : wp_Model_asNumbered W (fun W1 => wp_Model_runs (nI m) 0 W1 Q) := by
  obtain ⟨M0, Mc, hc, ok, tc, z30, eR⟩ := h
  refine mt_asNumbered vt r (fun W1 m1 => ?_)
  obtain ⟨a18, a19, ah, a0, ak⟩ := id m1
  have H5 : H ≤ 5 := vt.1.2.2.2.1
  have r1 : rt0 W1 Mc n H L := r.moved (ak 4 (by omega) (by omega) (by omega)) tc
  have t1 : Mc 1 = M 1 := tc 0 (by omega)
  have t5 : Mc 5 = M 5 := tc 4 (by omega)
  have rt : mr_t W1 Mc 1 n H L := mr_t_of (M' := Mc) r1 a18 (by rw [t1]; exact a19) (fun h hh => by rw [t5]; exact (ah h hh).2)
  have rw0 : mw0 W1 Mc 1 n H (fun h => h) := ⟨fun h hh => ⟨by show h < 5; omega, (ah h hh).1⟩, fun h j _ _ e => e, fun h p hh hp => r1.2.2.2.2.2.2.2.2.2.1 h p hh hp⟩
  refine mt_runs hm hc ok rt rw0 (fun _ => z30) (fun W' b1 b2 b3 b4 => ?_)
  rw [← eR] at b1 b2
  exact hQ W' b1 b2 b3 (m1.y.tr b4.y)
theorem xt_isRun {a : Int32} {M : zMem} {Q : Int32 → zMem → Prop} (ht : ∀ m, 1 ≤ m → m ≤ 120 → a = nI m → Q 1 M) (hf : ¬ (1 ≤ a ∧ a ≤ 120) → Q 0 M) : wp_Main_isRun a M Q := by
  refine ⟨fun c => hf (fun q => absurd c (Int32.not_lt.mpr q.1)), fun c => ⟨fun c2 => hf (fun q => absurd c2 (Int32.not_lt.mpr q.2)), fun c2 => ?_⟩⟩
  obtain ⟨m, hm, rfl⟩ := nI_of2 (x := a) (M := 120) (n := 120) rfl (fun q => c (Int32.lt_of_lt_of_le q (by decide : (0 : Int32) ≤ 1))) (Int32.not_lt.mp c2)
  exact ht m ((nI_leI (a := 1) (by omega) (by omega)).mp (Int32.not_lt.mp c)) hm rfl
theorem run_yes {m : Nat} {W : zMem} {Q : Int32 → zMem → Prop} (m1 : 1 ≤ m) (hm : m ≤ 120) (hQ : Q 1 W) : wp_Model_isRun (nI m) W Q := mt_in (lo' := 1) (hi' := 120) rfl rfl (fun _ _ => ⟨Or.inr rfl, hQ⟩) (fun q => absurd ⟨(nI_leI (a := 1) (by omega) (by omega)).mpr m1, (nI_leI (b := 120) (by omega) (by omega)).mpr hm⟩ q)
theorem run_no {a : Int32} {W : zMem} {Q : Int32 → zMem → Prop} (h : ¬ (1 ≤ a ∧ a ≤ 120)) (hQ : Q 0 W) : wp_Model_isRun a W Q := mt_in (lo' := 1) (hi' := 120) rfl rfl (fun x y => absurd ⟨x, y⟩ h) (fun _ => ⟨Or.inl rfl, hQ⟩)
/-- what a question about a run may change, in the class -/
def cfc (M M' : zMem) : Prop := M' 32 0 = M 32 0 ∧ ∀ k, (k < 29 ∨ 41 ≤ k) → M' k = M k
theorem cc.of {M M' R : zMem} {n H L m : Nat} (m1 : 1 ≤ m) (hm : m ≤ 120) (h : rq M n H L m R) (e : ∀ k, 30 ≤ k → k ≤ 40 → M' k = R k) (e2 : M' 29 2 = nI m) (e3 : M' 29 3 = 0) (f : ∀ k, (k < 29 ∨ 41 ≤ k) → M' k = M k) : cc M' n H L := by
  obtain ⟨M0, Mc, a1, a2, a3, a4, a5⟩ := h
  exact Or.inr ⟨m, R, m1, hm, e2, e3, ⟨M0, Mc, a1, a2, fun i hi => (a3 i hi).trans (f _ (by omega)).symm, a4, a5⟩, e⟩
theorem p_waits {n H L : Nat} {M W : zMem} {a1 a2 : Int32} {P : zMem → zMem → Prop} (vt : sp_vt M 1 n H L) (r : rt0 W M n H L) (ht : ztc (M 32 0) = 1) (hcc : cc M n H L) (hP0 : P M W)
    (hP : ∀ M' W', cc M' n H L → cfc M M' → mfy W W' → P M' W') : wp_Main_waits a1 a2 M (fun x M' => wp_Model_waits a1 a2 W (fun y W' => x = y ∧ P M' W')) := by
  obtain ⟨⟨n1, n8, H1, H5, L1, L6⟩, hn, hH, -⟩ := id vt
  refine xt_isRun (fun m m1 hm em => ⟨fun q => absurd q (by decide), fun _ => ?_⟩) (fun nr => ⟨fun _ => run_no nr ⟨fun _ => ⟨rfl, hP0⟩, fun q => absurd rfl q⟩, fun q => absurd rfl q⟩)
  subst em
  refine xt_isHand hH (by omega) (fun h hh eh => ⟨fun _ => ?_, fun q => absurd q (by decide)⟩) (fun nh => ⟨fun q => absurd rfl q, fun _ => run_yes m1 hm ⟨fun q => absurd q (by decide), fun _ => mt_isHand r.2.1 (by omega) (by omega) (fun h hh eh => absurd ⟨h, hh, eh⟩ nh) (fun _ => ⟨fun q => absurd rfl q, fun _ => ⟨rfl, hP0⟩⟩)⟩⟩)
  subst eh
  refine xt_course vt ht hcc m1 hm (fun M' R hr e30 e2 e3 e32 fr => ⟨vp_in_nI (by omega) (by omega), ?_⟩)
  rw [q_ix (by omega)]
  refine run_yes m1 hm ⟨fun q => absurd q (by decide), fun _ => mt_isHand r.2.1 (by omega) (by omega) (fun _ _ _ => ⟨fun _ => ?_, fun q => absurd q (by decide)⟩) (fun q => absurd ⟨h, hh, rfl⟩ q)⟩
  refine mw_course vt r hm hr (fun W' w1 w2 w3 w4 => ?_)
  show wp_Model_at (nI 1) (nI h) (nI 5) W' _
  rw [e_at (by omega) (by omega) (by omega), if_neg (by omega)]
  refine ⟨?_, hP M' W' (cc.of m1 hm hr e30 e2 e3 fr) ⟨e32, fr⟩ w4⟩
  rw [e30 38 (by omega) (by omega), q_x0]
  exact ((w1.2.2.2.1 h hh).2.2.1).symm
/-- how many handings are kept -/
theorem mw_kept {n H L : Nat} {R W : zMem} {Q : Int32 → zMem → Prop} (h : mr W R 1 1 32 n H L (fun h => h)) (hQ : ∀ z, z ≤ 600 → R 30 0 = nI z → (∀ j, j < 5 * z → W 10 j = R 31 j) → Q (nI z) W) : wp_Model_oversKept W Q := by
  obtain ⟨o, o1, o2, o3, o4⟩ := h.2.2.2.2.2 rfl rfl
  have e2 : W 6 98 = nI o := by
    have := h.2.2.2.2.1.2.2.1
    rw [o2] at this
    exact this
  have of2 : ∀ K : Int32 → zMem → Prop, K (nI o) W → wp_Model_of 1 2 W K := fun K k => by
    refine ⟨vp_in_nI (n := 98) (by omega) (by omega), ?_⟩
    show K (W 6 98) W
    rw [e2]; exact k
  refine of2 _ ⟨fun c => ?_, fun c => of2 _ ?_⟩
  · have := (nI_leI (a := 600) (by omega) (by omega)).mp c
    refine hQ 600 (by omega) ?_ (fun j hj => o4 j (by omega) (by omega))
    rw [o3]
    split
    · omega
    · rfl
  · have := (nI_ltI (b := 600) (by omega) (by omega)).mp (Int32.not_le.mp c)
    refine hQ o (by omega) ?_ (fun j hj => o4 j (by omega) (by omega))
    rw [o3, if_pos this]
theorem e_value {k y j : Nat} {M : zMem} {Q : Int32 → zMem → Prop} (hy : y < 600) (hj : j < 5) (hQ : Q (M (k + 1) (y * 5 + j)) M) : wp_Handings_valueOf k (nI y) (nI j) M Q := by
  unfold wp_Handings_valueOf
  have e : nI y * 5 + nI j = nI (y * 5 + j) := by simp (disch := omega) only [q_lit, q_add, q_mul, q_sub, q_ix, q_in, q_lt, q_le, q_eq, q_nlt, q_nle, q_ltn, q_len, q_neq, q_eqn, zup_ne, zup_eq, zset_ne, zset_eq, upd_eq, upd_ne, forall_eq, true_and, and_true, true_implies, false_implies, implies_true, not_true_eq_false, not_false_eq_true, and_self, ↓reduceIte, false_and, and_false]
  rw [e, q_ix (by omega)]
  exact ⟨vp_in_nI (by omega) (by omega), hQ⟩
theorem p_over {n H L : Nat} {M W : zMem} {a1 a2 a3 : Int32} {P : zMem → zMem → Prop} (vt : sp_vt M 1 n H L) (r : rt0 W M n H L) (ht : ztc (M 32 0) = 1) (hcc : cc M n H L) (hP0 : P M W)
    (hP : ∀ M' W', cc M' n H L → cfc M M' → mfy W W' → P M' W') (hPa : ∀ M', cc M' n H L → cfc M M' → P M' W) : wp_Main_over a1 a2 a3 M (fun x M' => wp_Model_over a1 a2 a3 W (fun y W' => x = y ∧ P M' W')) := by
  refine xt_isRun (fun m m1 hm em => ⟨fun q => absurd q (by decide), fun _ => ?_⟩) (fun nr => ⟨fun _ => run_no nr ⟨fun _ => ⟨rfl, hP0⟩, fun q => absurd rfl q⟩, fun q => absurd rfl q⟩)
  subst em
  have bad : ¬ (0 ≤ a3 ∧ a3 ≤ 4) → wp_Model_over (nI m) a2 a3 W (fun y W' => -1 = y ∧ P M W') := fun q => run_yes m1 hm ⟨fun q => absurd q (by decide), fun _ => ⟨fun _ => ⟨rfl, hP0⟩, fun _ => in_no (hi := 4) rfl q ⟨fun q => absurd rfl q, fun _ => ⟨rfl, hP0⟩⟩⟩⟩
  refine ⟨fun c => bad (fun q => absurd c (Int32.not_lt.mpr q.1)), fun c => ⟨fun c2 => ?_, fun c2 => bad (fun q => c2 (Int32.lt_of_le_of_lt q.2 (by decide)))⟩⟩
  obtain ⟨j, hj0, rfl⟩ := nI_of c
  have hj : j < 5 := (nI_ltI (b := 5) (by omega) (by omega)).mp c2
  refine xt_course vt ht hcc m1 hm (fun M' R hr e30 e2 e3 e32 fr => ?_)
  have ccM := cc.of m1 hm hr e30 e2 e3 fr
  refine ⟨fun d => run_yes m1 hm ⟨fun q => absurd q (by decide), fun _ => ⟨fun _ => ⟨rfl, hPa M' ccM ⟨e32, fr⟩⟩, fun q => absurd d q⟩⟩, fun d => ?_⟩
  obtain ⟨y, hy, rfl⟩ := nI_of d
  have way : ∀ x : Int32, (∀ (W' : zMem) (z : Nat), z ≤ 600 → R 30 0 = nI z → (∀ j, j < 5 * z → W' 10 j = R 31 j) → (z ≤ y → x = -1) ∧ (y < z → x = W' 10 (5 * y + j))) → wp_Model_over (nI m) (nI y) (nI j) W (fun v W' => x = v ∧ P M' W') := fun x hx => by
    refine run_yes m1 hm ⟨fun q => absurd q (by decide), fun _ => ⟨fun q => absurd q d, fun _ => in_yes (hi := 4) rfl (by omega) (by omega) ⟨fun _ => ?_, fun q => absurd q (by decide)⟩⟩⟩
    refine mw_course vt r hm hr (fun W' w1 w2 w3 w4 => ?_)
    refine mw_kept w1 (fun z hz ez el => ?_)
    obtain ⟨x1, x2⟩ := hx W' z hz ez el
    have pp := hP M' W' ccM ⟨e32, fr⟩ w4
    refine ⟨fun q => ⟨x1 ((nI_leI (by omega) (by omega)).mp q), pp⟩, fun q => ?_⟩
    have hyz : y < z := (nI_ltI (by omega) (by omega)).mp (Int32.not_le.mp q)
    have e5 : 5 * nI y + nI j = nI (5 * y + j) := by simp (disch := omega) only [q_lit, q_add, q_mul, q_sub, q_ix, q_in, q_lt, q_le, q_eq, q_nlt, q_nle, q_ltn, q_len, q_neq, q_eqn, zup_ne, zup_eq, zset_ne, zset_eq, upd_eq, upd_ne, forall_eq, true_and, and_true, true_implies, false_implies, implies_true, not_true_eq_false, not_false_eq_true, and_self, ↓reduceIte, false_and, and_false]
    rw [e5, q_ix (by omega)]
    exact ⟨vp_in_nI (by omega) (by omega), x2 hyz, pp⟩
  have hz : ∃ z, z ≤ 600 ∧ R 30 0 = nI z := by
    obtain ⟨M0, Mc, hc, ok, tc, z30, eR⟩ := id hr
    obtain ⟨ri, -, -⟩ := sp_ri_0 hc ok
    have key : ∀ f (X : zMem), sp_rl X 1 32 n H L f → ∃ z, z ≤ 600 ∧ sp_run 1 32 H (nI m) f X 30 0 = nI z := by
      intro f
      induction f with
      | zero => intro X rl; obtain ⟨z, z1, z2⟩ := rl.1.1.2.2.2.2.2.2 30 rfl; exact ⟨z, z2, z1⟩
      | succ f ih =>
        intro X rl
        rw [sp_run_1]
        split
        · rename_i c
          obtain ⟨g, hg, rl2, -, -⟩ := sp_rl_step rl hm c
          have e : g = f := by omega
          subst e
          exact ih _ rl2
        · obtain ⟨z, z1, z2⟩ := rl.1.1.2.2.2.2.2.2 30 rfl; exact ⟨z, z2, z1⟩
    rw [eR]
    exact key 12000 _ (sp_rl_0 ri)
  obtain ⟨z, hz6, ez⟩ := hz
  have e300 : M' 30 0 = nI z := by rw [e30 30 (by omega) (by omega)]; exact ez
  rw [e300]
  refine ⟨fun q => ?_, fun q => ?_⟩
  · have hyz := (nI_ltI (by omega) (by omega)).mp q
    refine e_value (by omega) hj (way _ (fun W' z' hz' ez' el => ?_))
    have ezz : z' = z := (nI_eq (by omega) (by omega)).mp (ez'.symm.trans ez)
    subst ezz
    refine ⟨fun h => absurd h (by omega), fun h => ?_⟩
    rw [el (5 * y + j) (by omega), e30 (30 + 1) (by omega) (by omega)]
    congr 1
    omega
  · refine way _ (fun W' z' hz' ez' el => ?_)
    have ezz : z' = z := (nI_eq (by omega) (by omega)).mp (ez'.symm.trans ez)
    subst ezz
    exact ⟨fun _ => rfl, fun h => absurd ((nI_ltI (by omega) (by omega)).mpr h) q⟩
