theorem mw_rule0 {j : Nat} {W : zMem} {Q : Int32 → zMem → Prop} (hj : j ≤ 6) (h : Q (W 4 j) W) : wp_Model_rule (nI j) W Q := by
  refine mt_in (lo' := 0) (hi' := 6) rfl rfl (fun _ _ => ⟨fun q => absurd q (by decide), fun _ => ⟨vp_in_nI (by omega) (by omega), ?_⟩⟩) (fun q => absurd ⟨nI_pos' (by omega), (nI_leI (b := 6) (by omega) (by omega)).mpr hj⟩ q)
  rw [q_ix (by omega)]; exact h
theorem nI_10 {L : Nat} (h : 1 ≤ L) : (10 : Int32) + nI L - 1 = nI (10 + (L - 1)) := by
  rw [show (10 : Int32) = nI 10 from rfl, q_add, q_pred (by omega)]; congr 1; omega
theorem mw_rule1 {j L : Nat} {W : zMem} {Q : Int32 → zMem → Prop} (hL : W 4 6 = nI L) (L6 : L ≤ 6) (hj : j < L) (h : Q (W 4 (10 + j)) W) : wp_Model_rule (nI (10 + j)) W Q := by
  refine mt_in (lo' := 0) (hi' := 6) rfl rfl (fun _ c => ?_) (fun _ => ⟨fun _ => ⟨vp_in_nI (n := 6) (by omega) (by omega), ?_⟩, fun q => absurd rfl q⟩)
  · have := (nI_leI (b := 6) (by omega) (by omega)).mp c
    omega
  · rw [show ix 6 = 6 from rfl, hL, nI_10 (by omega)]
    refine mt_in (lo' := 10) (hi' := nI (10 + (L - 1))) rfl rfl (fun _ _ => ⟨fun q => absurd q (by decide), fun _ => ⟨vp_in_nI (by omega) (by omega), ?_⟩⟩) (fun q => absurd ⟨(nI_leI (a := 10) (by omega) (by omega)).mpr (by omega), (nI_leI (by omega) (by omega)).mpr (by omega)⟩ q)
    rw [q_ix (by omega)]; exact h
theorem mw_rule2 {n H L h : Nat} {M W : zMem} {Q : Int32 → zMem → Prop} (vt : sp_vt M 1 n H L) (r : rt0 W M n H L) (hh : h < H) (hQ : Q (M 5 h) W) : wp_Model_rule (nI (20 + h)) W Q := by
  obtain ⟨⟨n1, n8, H1, H5, L1, L6⟩, hn, hH, -⟩ := id vt
  refine mt_in (lo' := 0) (hi' := 6) rfl rfl (fun _ c => ?_) (fun _ => ⟨fun _ => ⟨vp_in_nI (n := 6) (by omega) (by omega), ?_⟩, fun q => absurd rfl q⟩)
  · have := (nI_leI (b := 6) (by omega) (by omega)).mp c
    omega
  · rw [show ix 6 = 6 from rfl, r.2.2.2.2.2.2.1, nI_10 (by omega)]
    refine mt_in (lo' := 10) (hi' := nI (10 + (L - 1))) rfl rfl (fun _ c => ?_) (fun _ => ⟨fun _ => ⟨fun c => ?_, fun _ => ?_⟩, fun q => absurd rfl q⟩)
    · have := (nI_leI (by omega) (by omega)).mp c
      omega
    · have := (nI_ltI (b := 20) (by omega) (by omega)).mp c
      omega
    · have e : nI (20 + h) - 20 = nI h := by rw [show (20 : Int32) = nI 20 from rfl, q_sub (by omega)]; congr 1; omega
      rw [e]
      exact mt_isHand r.2.1 (by omega) (by omega) (fun _ _ _ => ⟨fun q => absurd q (by decide), fun _ => mt_endOf vt r hh hQ⟩) (fun q => absurd ⟨h, hh, rfl⟩ q)
theorem mw_rule3 {n H L : Nat} {a : Int32} {M W : zMem} {Q : Int32 → zMem → Prop} (vt : sp_vt M 1 n H L) (r : rt0 W M n H L) (h0 : ¬ ∃ j, j ≤ 6 ∧ a = nI j) (h1 : ¬ ∃ j, j < L ∧ a = nI (10 + j)) (h2 : ¬ ∃ h, h < H ∧ a = nI (20 + h)) (hQ : Q (-1) W) : wp_Model_rule a W Q := by
  obtain ⟨⟨n1, n8, H1, H5, L1, L6⟩, hn, hH, -⟩ := id vt
  refine mt_in (lo' := 0) (hi' := 6) rfl rfl (fun c0 c => ?_) (fun _ => ⟨fun _ => ⟨vp_in_nI (n := 6) (by omega) (by omega), ?_⟩, fun q => absurd rfl q⟩)
  · obtain ⟨j, hj, e⟩ := nI_of2 (M := 6) (n := 6) rfl (Int32.not_lt.mpr c0) c
    exact absurd ⟨j, hj, e⟩ h0
  · rw [show ix 6 = 6 from rfl, r.2.2.2.2.2.2.1, nI_10 (by omega)]
    refine mt_in (lo' := 10) (hi' := nI (10 + (L - 1))) rfl rfl (fun c0 c => ?_) (fun _ => ⟨fun _ => ⟨fun _ => hQ, fun c => ?_⟩, fun q => absurd rfl q⟩)
    · obtain ⟨j, hj, rfl⟩ := nI_of (x := a) (fun q => absurd (Int32.lt_of_lt_of_le q (by decide : (0 : Int32) ≤ 10)) (Int32.not_lt.mpr c0))
      have a1 := (nI_leI (a := 10) (by omega) (by omega)).mp c0
      have a2 := (nI_leI (by omega) (by omega)).mp c
      exact absurd ⟨j - 10, by omega, by congr 1; omega⟩ h1
    · obtain ⟨j, hj, rfl⟩ := nI_of (x := a) (fun q => c (Int32.lt_of_lt_of_le q (by decide : (0 : Int32) ≤ 20)))
      have a1 := (nI_leI (a := 20) (by omega) (by omega)).mp (Int32.not_lt.mp c)
      have e : nI j - 20 = nI (j - 20) := by rw [show (20 : Int32) = nI 20 from rfl, q_sub (by omega)]
      rw [e]
      refine mt_isHand r.2.1 (by omega) (by omega) (fun h hh eh => ?_) (fun _ => ⟨fun _ => hQ, fun q => absurd rfl q⟩)
      have e3 := (nI_eq (by omega) (by omega)).mp eh
      exact absurd ⟨h, hh, by congr 1; omega⟩ h2
theorem p_rule {n H L : Nat} {M W : zMem} {a : Int32} {P : zMem → zMem → Prop} (vt : sp_vt M 1 n H L) (r : rt0 W M n H L) (hP : P M W) : wp_Main_rule a M (fun x M' => wp_Model_rule a W (fun y W' => x = y ∧ P M' W')) := by
  obtain ⟨⟨n1, n8, H1, H5, L1, L6⟩, hn, hH, hL, -⟩ := id vt
  have j66 : (¬ ∃ j, j < L ∧ a = nI (10 + j)) → (¬ ∃ h, h < H ∧ a = nI (20 + h)) → wpJ_Main_rule_66 a (fun x M' => wp_Model_rule a W (fun y W' => x = y ∧ P M' W')) M := by
    intro h1 h2 x ex
    subst ex
    have lit : ∀ j, j ≤ 6 → x = nI j → W 4 j = M 1 j → wp_Model_rule x W (fun y W' => M 1 j = y ∧ P M W') := fun j hj e ew => by
      rw [e]
      exact mw_rule0 hj ⟨ew.symm, hP⟩
    refine ⟨fun c => lit 0 (by omega) c (by rw [r.1, hn]), fun c => lit 1 (by omega) c (by rw [r.2.1, hH]), fun c => lit 2 (by omega) c r.2.2.1, fun c => lit 3 (by omega) c r.2.2.2.1, fun c => lit 4 (by omega) c r.2.2.2.2.1, fun c => lit 5 (by omega) c r.2.2.2.2.2.1, fun c => lit 6 (by omega) c (by rw [r.2.2.2.2.2.2.1, hL]), fun c0 c1 c2 c3 c4 c5 c6 => ?_⟩
    refine mw_rule3 vt r (fun ⟨j, hj, e⟩ => ?_) h1 h2 ⟨rfl, hP⟩
    rcases (show j = 0 ∨ j = 1 ∨ j = 2 ∨ j = 3 ∨ j = 4 ∨ j = 5 ∨ j = 6 by omega) with rfl | rfl | rfl | rfl | rfl | rfl | rfl
    · exact c0 e
    · exact c1 e
    · exact c2 e
    · exact c3 e
    · exact c4 e
    · exact c5 e
    · exact c6 e
  have j33 : (¬ ∃ j, j < L ∧ a = nI (10 + j)) → wpJ_Main_rule_33 a (fun x M' => wp_Model_rule a W (fun y W' => x = y ∧ P M' W')) M := by
    intro h1
    unfold wpJ_Main_rule_33
    rw [hH]
    refine ⟨fun c => j66 h1 (fun ⟨h, hh, e⟩ => ?_), fun c => ⟨fun c2 => j66 h1 (fun ⟨h, hh, e⟩ => ?_), fun c2 => ?_⟩⟩
    · rw [e] at c
      have := (nI_ltI (b := 20) (by omega) (by omega)).mp c
      omega
    · rw [e, show (20 : Int32) = nI 20 from rfl, q_add] at c2
      have := (nI_leI (by omega) (by omega)).mp c2
      omega
    · obtain ⟨j, hj, rfl⟩ := nI_of (x := a) (fun q => c (Int32.lt_of_lt_of_le q (by decide : (0 : Int32) ≤ 20)))
      have a1 := (nI_leI (a := 20) (by omega) (by omega)).mp (Int32.not_lt.mp c)
      rw [show (20 : Int32) = nI 20 from rfl, q_add] at c2
      have a2 := (nI_ltI (by omega) (by omega)).mp (Int32.not_le.mp c2)
      have e : nI j - 20 = nI (j - 20) := by rw [show (20 : Int32) = nI 20 from rfl, q_sub (by omega)]
      rw [e, q_ix (by omega)]
      refine ⟨vp_in_nI (by omega) (by omega), ?_⟩
      have e2 : j = 20 + (j - 20) := by omega
      have k := mw_rule2 (Q := fun y W' => M 5 (j - 20) = y ∧ P M W') vt r (h := j - 20) (by omega) ⟨rfl, hP⟩
      rw [← e2] at k
      exact k
  unfold wp_Main_rule
  rw [hL]
  refine ⟨fun c => j33 (fun ⟨h, hh, e⟩ => ?_), fun c => ⟨fun c2 => j33 (fun ⟨h, hh, e⟩ => ?_), fun c2 => ?_⟩⟩
  · rw [e] at c
    have := (nI_ltI (b := 10) (by omega) (by omega)).mp c
    omega
  · rw [e, show (10 : Int32) = nI 10 from rfl, q_add] at c2
    have := (nI_leI (by omega) (by omega)).mp c2
    omega
  · obtain ⟨j, hj, rfl⟩ := nI_of (x := a) (fun q => c (Int32.lt_of_lt_of_le q (by decide : (0 : Int32) ≤ 10)))
    have a1 := (nI_leI (a := 10) (by omega) (by omega)).mp (Int32.not_lt.mp c)
    rw [show (10 : Int32) = nI 10 from rfl, q_add] at c2
    have a2 := (nI_ltI (by omega) (by omega)).mp (Int32.not_le.mp c2)
    have e : nI j - 10 = nI (j - 10) := by rw [show (10 : Int32) = nI 10 from rfl, q_sub (by omega)]
    rw [e, q_ix (by omega)]
    refine ⟨vp_in_nI (by omega) (by omega), ?_⟩
    have e2 : j = 10 + (j - 10) := by omega
    have k := mw_rule1 (Q := fun y W' => M 2 (j - 10) = y ∧ P M W') r.2.2.2.2.2.2.1 L6 (j := j - 10) (by omega) ⟨(r.2.2.2.2.2.2.2.1 (j - 10) (by omega)).symm, hP⟩
    rw [← e2] at k
    exact k
