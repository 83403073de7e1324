theorem p_fault {M W : zMem} {P : zMem → zMem → Prop} (e : M 11 1 = W 0 2) (hP : P M W) : wp_Main_fault M (fun x M' => wp_Model_fault W (fun y W' => x = y ∧ P M' W')) := ⟨e, hP⟩
theorem p_torn {M W : zMem} {P : zMem → zMem → Prop} (e : M 0 13 = W 0 39) (hP : P M W) : wp_Main_torn M (fun x M' => wp_Model_torn W (fun y W' => x = y ∧ P M' W')) := ⟨e, hP⟩
theorem p_end {a : Int32} {M W : zMem} {P : zMem → zMem → Prop} {z : Nat} (e : M 11 5 = nI z) (e2 : W 0 1 = nI z) (hz : z ≤ 400) (hP : P M W) (hP2 : ∀ j, j ≤ z → a = nI j → P (zup M 11 5 (nI j)) (zup W 0 1 (nI j))) : wp_Main_end a M (fun x M' => wp_Model_end a W (fun y W' => x = y ∧ P M' W')) := by
  unfold wp_Main_end wp_Model_end
  rw [e, e2]
  refine ⟨fun c => ?_, fun c => ⟨fun c2 x ex M1 e1 => ?_, fun c2 => ?_⟩⟩
  · exact mt_in (lo' := 0) (hi' := nI z) rfl rfl (fun q _ => absurd c (Int32.not_lt.mpr q)) (fun _ => ⟨fun q => absurd rfl q, fun _ => ⟨rfl, hP⟩⟩)
  · obtain ⟨j, hj, rfl⟩ := nI_of c
    have hj2 := (nI_leI (by omega) (by omega)).mp c2
    refine mt_in (lo' := 0) (hi' := nI z) rfl rfl (fun _ _ => ⟨fun _ y ey W1 f1 => ?_, fun q => absurd q (by decide)⟩) (fun q => absurd ⟨Int32.not_lt.mp c, c2⟩ q)
    rw [e1, f1, ex, ey, e2]
    exact ⟨rfl, hP2 j hj2 rfl⟩
  · exact mt_in (lo' := 0) (hi' := nI z) rfl rfl (fun _ q => absurd q c2) (fun _ => ⟨fun q => absurd rfl q, fun _ => ⟨rfl, hP⟩⟩)
theorem p_units {n H L : Nat} {M W : zMem} {a1 a2 : Int32} {P : zMem → zMem → Prop} (vt : sp_vt M 1 n H L) (r : rt0 W M n H L) (hP : P M W) : wp_Main_units a1 a2 M (fun x M' => wp_Model_units a1 a2 W (fun y W' => x = y ∧ P M' W')) := by
  obtain ⟨⟨n1, n8, H1, H5, L1, L6⟩, hn, hH, -⟩ := id vt
  have no : (¬ ((0 : Int32) ≤ a1 ∧ a1 ≤ 2)) → wp_Model_units a1 a2 W (fun y W' => -1 = y ∧ P M W') := fun q => mt_in (lo' := 0) (hi' := 2) rfl rfl (fun x y => absurd ⟨x, y⟩ q) (fun _ => ⟨fun _ => ⟨rfl, hP⟩, fun q => absurd rfl q⟩)
  unfold wp_Main_units
  refine ⟨fun c => no (fun q => absurd c (Int32.not_lt.mpr q.1)), fun c => ?_⟩
  obtain ⟨s, hs, rfl⟩ := nI_of c
  refine ⟨fun c2 => no (fun q => ?_), fun c2 => ?_⟩
  · have h1 := (nI_leI (a := 3) (by omega) (by omega)).mp c2
    have h2 := (nI_leI (b := 2) (by omega) (by omega)).mp q.2
    omega
  have hs3 : s < 3 := (nI_ltI (b := 3) (by omega) (by omega)).mp (Int32.not_le.mp c2)
  have yes : ∀ (K : Int32 → zMem → Prop), wp_Model_isPiece a2 W (fun zr4 zm3 => (zr4 = 0 → K (-1) zm3) ∧ (¬ zr4 = 0 → vp_in ((30 + (8 * nI s)) + a2) 100 ∧ K (zm3 4 (ix ((30 + (8 * nI s)) + a2))) zm3)) → wp_Model_units (nI s) a2 W K := fun K h => mt_in (lo' := 0) (hi' := 2) rfl rfl (fun _ _ => ⟨fun q => absurd q (by decide), fun _ => h⟩) (fun q => absurd ⟨nI_pos' (by omega), (nI_leI (b := 2) (by omega) (by omega)).mpr (by omega)⟩ q)
  refine xt_isPiece hn (by omega) (fun p hp ep => ⟨fun _ => ?_, fun q => absurd q (by decide)⟩) (fun np => ⟨fun q => absurd rfl q, fun _ => yes _ (mt_isPiece r.1 (by omega) (by omega) (fun p hp ep => absurd ⟨p, hp, ep⟩ np) (fun _ => ⟨fun _ => ⟨rfl, hP⟩, fun q => absurd rfl q⟩))⟩)
  subst ep
  unfold wp_Told_unitsOf
  have e1 : nI s * 8 + nI p = nI (s * 8 + p) := by rw [show (8 : Int32) = nI 8 from rfl, q_mul, q_add]
  have e2 : 30 + 8 * nI s + nI p = nI (30 + 8 * s + p) := by simp (disch := omega) only [q_lit, q_add, q_mul, q_sub, q_ix, q_in, q_lt, q_le, q_eq, q_nlt, q_nle, q_ltn, q_len, q_neq, q_eqn, zup_ne, zup_eq, zset_ne, zset_eq, upd_eq, upd_ne, forall_eq, true_and, and_true, true_implies, false_implies, implies_true, not_true_eq_false, not_false_eq_true, and_self, ↓reduceIte, false_and, and_false]
  rw [e1, q_ix (by omega)]
  refine ⟨vp_in_nI (by omega) (by omega), yes _ ?_⟩
  refine mt_isPiece r.1 (by omega) (by omega) (fun _ _ _ => ⟨fun q => absurd q (by decide), fun _ => ?_⟩) (fun q => absurd ⟨p, hp, rfl⟩ q)
  rw [e2, q_ix (by omega), r.2.2.2.2.2.2.2.2.1 s p hs3 hp]
  exact ⟨vp_in_nI (by omega) (by omega), rfl, hP⟩
/-- the reference's way in, for a hand and a piece -/
theorem mt_hp {n H L h p : Nat} {M W : zMem} {Q : Int32 → zMem → Prop} {G : zMem → Prop} (vt : sp_vt M 1 n H L) (r : rt0 W M n H L) (hh : h < H) (hp : p < n) (g : G W) : wp_Model_isHand (nI h) W (fun zr2 zm1 => (zr2 = 0 → Q ((-1)) zm1) ∧ (¬ zr2 = 0 → wp_Model_isPiece (nI p) zm1 (fun zr4 zm3 => (zr4 = 0 → Q ((-1)) zm3) ∧ (¬ zr4 = 0 → G zm3)))) := by
  obtain ⟨⟨n1, n8, H1, H5, L1, L6⟩, hn, hH, -⟩ := id vt
  exact mt_isHand r.2.1 (by omega) (by omega) (fun _ _ _ => ⟨fun q => absurd q (by decide), fun _ => mt_isPiece r.1 (by omega) (by omega) (fun _ _ _ => ⟨fun q => absurd q (by decide), fun _ => g⟩) (fun q => absurd ⟨p, hp, rfl⟩ q)⟩) (fun q => absurd ⟨h, hh, rfl⟩ q)
/-- and what the reference says where there is none -/
theorem mt_nhp {n H L : Nat} {M W : zMem} {a1 a2 : Int32} {Q : Int32 → zMem → Prop} {G : zMem → Prop} (vt : sp_vt M 1 n H L) (r : rt0 W M n H L) (no : ¬ ((∃ h, h < H ∧ a1 = nI h) ∧ ∃ p, p < n ∧ a2 = nI p)) (q0 : Q (-1) W) : wp_Model_isHand a1 W (fun zr2 zm1 => (zr2 = 0 → Q ((-1)) zm1) ∧ (¬ zr2 = 0 → wp_Model_isPiece a2 zm1 (fun zr4 zm3 => (zr4 = 0 → Q ((-1)) zm3) ∧ (¬ zr4 = 0 → G zm3)))) := by
  obtain ⟨⟨n1, n8, H1, H5, L1, L6⟩, hn, hH, -⟩ := id vt
  exact mt_isHand r.2.1 (by omega) (by omega) (fun h hh eh => ⟨fun q => absurd q (by decide), fun _ => mt_isPiece r.1 (by omega) (by omega) (fun p hp ep => absurd ⟨⟨h, hh, eh⟩, p, hp, ep⟩ no) (fun _ => ⟨fun _ => q0, fun q => absurd rfl q⟩)⟩) (fun _ => ⟨fun _ => q0, fun q => absurd rfl q⟩)
theorem p_pace {n H L : Nat} {M W : zMem} {a1 a2 : Int32} {P : zMem → zMem → Prop} (vt : sp_vt M 1 n H L) (r : rt0 W M n H L) (hP : P M W) : wp_Main_pace a1 a2 M (fun x M' => wp_Model_pace a1 a2 W (fun y W' => x = y ∧ P M' W')) := by
  obtain ⟨⟨n1, n8, H1, H5, L1, L6⟩, hn, hH, -⟩ := id vt
  have no : ¬ ((∃ h, h < H ∧ a1 = nI h) ∧ ∃ p, p < n ∧ a2 = nI p) → wp_Model_pace a1 a2 W (fun y W' => -1 = y ∧ P M W') := fun q => by
    unfold wp_Model_pace
    exact mt_nhp (Q := fun y W' => -1 = y ∧ P M W') vt r q ⟨rfl, hP⟩
  refine xt_isHand hH (by omega) (fun h hh eh => ⟨fun q => absurd q (by decide), fun _ => ?_⟩) (fun nh => ⟨fun _ => no (fun q => nh q.1), fun q => absurd rfl q⟩)
  refine xt_isPiece hn (by omega) (fun p hp ep => ⟨fun _ => ?_, fun q => absurd q (by decide)⟩) (fun np => ⟨fun q => absurd rfl q, fun _ => no (fun q => np q.2)⟩)
  subst eh; subst ep
  have e1 : nI h * 8 + nI p = nI (h * 8 + p) := by rw [show (8 : Int32) = nI 8 from rfl, q_mul, q_add]
  have e2 : 60 + 8 * nI h + nI p = nI (60 + 8 * h + p) := by simp (disch := omega) only [q_lit, q_add, q_mul, q_sub, q_ix, q_in, q_lt, q_le, q_eq, q_nlt, q_nle, q_ltn, q_len, q_neq, q_eqn, zup_ne, zup_eq, zset_ne, zset_eq, upd_eq, upd_ne, forall_eq, true_and, and_true, true_implies, false_implies, implies_true, not_true_eq_false, not_false_eq_true, and_self, ↓reduceIte, false_and, and_false]
  unfold wp_Told_paceOf
  rw [e1, q_ix (by omega)]
  refine ⟨vp_in_nI (by omega) (by omega), ?_⟩
  show wp_Model_pace (nI h) (nI p) W (fun y W' => M 4 (h * 8 + p) = y ∧ P M W')
  unfold wp_Model_pace
  refine mt_hp (Q := fun y W' => M 4 (h * 8 + p) = y ∧ P M W') vt r hh hp ?_
  rw [e2, q_ix (by omega), r.2.2.2.2.2.2.2.2.2.1 h p hh hp]
  exact ⟨vp_in_nI (by omega) (by omega), rfl, hP⟩
theorem p_learnt {n H L : Nat} {M W : zMem} {a1 a2 : Int32} {P : zMem → zMem → Prop} (vt : sp_vt M 1 n H L) (r : rt0 W M n H L) (st : pst W M n H L) (hP : P M W) : wp_Main_learnt a1 a2 M (fun x M' => wp_Model_learnt a1 a2 W (fun y W' => x = y ∧ P M' W')) := by
  obtain ⟨⟨n1, n8, H1, H5, L1, L6⟩, hn, hH, -⟩ := id vt
  have no : ¬ ((∃ h, h < H ∧ a1 = nI h) ∧ ∃ p, p < n ∧ a2 = nI p) → wp_Model_learnt a1 a2 W (fun y W' => -1 = y ∧ P M W') := fun q => by
    unfold wp_Model_learnt
    exact mt_nhp (Q := fun y W' => -1 = y ∧ P M W') vt r q ⟨rfl, hP⟩
  refine xt_isHand hH (by omega) (fun h hh eh => ⟨fun q => absurd q (by decide), fun _ => ?_⟩) (fun nh => ⟨fun _ => no (fun q => nh q.1), fun q => absurd rfl q⟩)
  refine xt_isPiece hn (by omega) (fun p hp ep => ⟨fun _ => ?_, fun q => absurd q (by decide)⟩) (fun np => ⟨fun q => absurd rfl q, fun _ => no (fun q => np q.2)⟩)
  subst eh; subst ep
  have e1 : nI h * 8 + nI p = nI (h * 8 + p) := by rw [show (8 : Int32) = nI 8 from rfl, q_mul, q_add]
  have e2 : 96 * 0 + 48 + 8 * nI h + nI p = nI (48 + 8 * h + p) := by simp (disch := omega) only [q_lit, q_add, q_mul, q_sub, q_ix, q_in, q_lt, q_le, q_eq, q_nlt, q_nle, q_ltn, q_len, q_neq, q_eqn, zup_ne, zup_eq, zset_ne, zset_eq, upd_eq, upd_ne, forall_eq, true_and, and_true, true_implies, false_implies, implies_true, not_true_eq_false, not_false_eq_true, and_self, ↓reduceIte, false_and, and_false]
  rw [e1, q_ix (by omega)]
  refine ⟨vp_in_nI (by omega) (by omega), ?_⟩
  show wp_Model_learnt (nI h) (nI p) W (fun y W' => M 25 (h * 8 + p) = y ∧ P M W')
  unfold wp_Model_learnt
  refine mt_hp (Q := fun y W' => M 25 (h * 8 + p) = y ∧ P M W') vt r hh hp ?_
  unfold wp_Model_learntAt
  rw [e2]
  show vp_in (nI (48 + 8 * h + p)) 384 ∧ (M 25 (h * 8 + p) = W 6 (ix (nI (48 + 8 * h + p))) ∧ P M W)
  rw [q_ix (by omega), st.learnt hh hp H5 n8]
  exact ⟨vp_in_nI (by omega) (by omega), rfl, hP⟩
theorem p_takes {n H L : Nat} {M W : zMem} {a1 a2 : Int32} {P : zMem → zMem → Prop} (vt : sp_vt M 1 n H L) (r : rt0 W M n H L) (st : pst W M n H L) (hP : P M W) : wp_Main_takes a1 a2 M (fun x M' => wp_Model_takes a1 a2 W (fun y W' => x = y ∧ P M' W')) := by
  obtain ⟨⟨n1, n8, H1, H5, L1, L6⟩, hn, hH, -, -, ⟨le, hle, hle2⟩, -⟩ := id vt
  have no : ¬ ((∃ h, h < H ∧ a1 = nI h) ∧ ∃ p, p < n ∧ a2 = nI p) → wp_Model_takes a1 a2 W (fun y W' => -1 = y ∧ P M W') := fun q => by
    unfold wp_Model_takes
    exact mt_nhp (Q := fun y W' => -1 = y ∧ P M W') vt r q ⟨rfl, hP⟩
  refine xt_isHand hH (by omega) (fun h hh eh => ⟨fun q => absurd q (by decide), fun _ => ?_⟩) (fun nh => ⟨fun _ => no (fun q => nh q.1), fun q => absurd rfl q⟩)
  refine xt_isPiece hn (by omega) (fun p hp ep => ⟨fun _ => ?_, fun q => absurd q (by decide)⟩) (fun np => ⟨fun q => absurd rfl q, fun _ => no (fun q => np q.2)⟩)
  subst eh; subst ep
  have e1 : nI h * 8 + nI p = nI (h * 8 + p) := by rw [show (8 : Int32) = nI 8 from rfl, q_mul, q_add]
  rw [e1, q_ix (by omega)]
  refine ⟨vp_in_nI (by omega) (by omega), e_ticksOf (by omega) (by omega) ?_⟩
  show wp_Model_takes (nI h) (nI p) W (fun y W' => sp_ticks 1 h p (M 25 (h * 8 + p)) M = y ∧ P M W')
  unfold wp_Model_takes
  refine mt_hp (Q := fun y W' => sp_ticks 1 h p (M 25 (h * 8 + p)) M = y ∧ P M W') vt r hh hp ?_
  show wp_Model_ticksOf (nI 0) (nI h) (nI p) W _
  refine mt_ticks (t := 1) (b := 18) (h := h) (w := h) (by omega) (by omega) (by omega) r.2.2.2.1 hle2 hle (r.2.2.2.2.2.2.2.2.2.1 h p hh hp) ?_ ⟨rfl, hP⟩
  rw [show 96 * 0 + 48 + 8 * h + p = 48 + 8 * h + p by omega]
  exact st.learnt hh hp H5 n8
