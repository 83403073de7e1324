theorem q_l64 {n : Nat} (h : n < 2147483648) : (nI n).toInt64 = lN n := nI_l h
theorem q_m4 (p : Nat) : nI (p + 4) + -nI 4 = nI p := by
  rw [← q_add, Int32.add_assoc]
  exact (congrArg (fun z => nI p + z) (show nI 4 + -nI 4 = 0 by decide)).trans (Int32.add_zero _)
theorem q_04 : nI 0 + -nI 4 = -nI 4 := by decide
theorem q_p4 (p : Nat) : nI p - -nI 4 = nI (p + 4) := by rw [← q_add, Int32.sub_eq_add_neg]; exact congrArg (fun z => nI p + z) (show - -nI 4 = nI 4 by decide)
theorem q_44 : -nI 4 - -nI 4 = nI 0 := by decide
theorem q_x0 (x : Int32) : x + nI 0 = x := Int32.add_zero x
theorem q_s0 (x : Int32) : x - nI 0 = x := Int32.sub_zero x
theorem lg_cmp_lt0 (x y : Int64) : (lg_cmp x y < 0) = (x < y) := by
  unfold lg_cmp
  apply propext
  by_cases h1 : x > y
  · rw [if_pos h1]
    have h1' : y < x := h1
    exact ⟨fun h => absurd h (by decide), fun h => absurd (Int64.lt_trans h h1') Int64.lt_irrefl⟩
  · rw [if_neg h1]
    by_cases h2 : x = y
    · rw [if_pos h2, h2]
      exact ⟨fun h => absurd h (by decide), fun h => absurd h Int64.lt_irrefl⟩
    · rw [if_neg h2]
      refine ⟨fun _ => ?_, fun _ => by decide⟩
      have h3 : x ≤ y := Int64.not_lt.mp h1
      exact Int64.lt_of_le_of_ne h3 h2
theorem lg_cmp_0lt (x y : Int64) : (0 < lg_cmp x y) = (y < x) := by
  unfold lg_cmp
  apply propext
  by_cases h1 : x > y
  · rw [if_pos h1]
    exact ⟨fun _ => h1, fun _ => by decide⟩
  · rw [if_neg h1]
    by_cases h2 : x = y
    · rw [if_pos h2]
      exact ⟨fun h => absurd h (by decide), fun h => absurd h h1⟩
    · rw [if_neg h2]
      exact ⟨fun h => absurd h (by decide), fun h => absurd h h1⟩
theorem e_in {v lo hi : Int64} {M : zMem} {Q : Int32 → zMem → Prop} : wp_Model_in v lo hi M Q = Q (if lo ≤ v ∧ v ≤ hi then 1 else 0) M := by
  unfold wp_Model_in
  rw [lg_cmp_lt0, lg_cmp_0lt]
  apply propext
  by_cases h1 : v < lo
  · have h2 : ¬ (lo ≤ v ∧ v ≤ hi) := fun q => absurd q.1 (Int64.not_le.mpr h1)
    rw [if_neg h2]
    exact ⟨fun h => h.1 h1, fun h => ⟨fun _ => h, fun q => absurd h1 q⟩⟩
  · by_cases h3 : hi < v
    · have h2 : ¬ (lo ≤ v ∧ v ≤ hi) := fun q => absurd q.2 (Int64.not_le.mpr h3)
      rw [if_neg h2]
      exact ⟨fun h => (h.2 h1).1 h3, fun h => ⟨fun q => absurd q h1, fun _ => ⟨fun _ => h, fun q => absurd h3 q⟩⟩⟩
    · have h2 : lo ≤ v ∧ v ≤ hi := ⟨Int64.not_lt.mp h1, Int64.not_lt.mp h3⟩
      rw [if_pos h2]
      exact ⟨fun h => (h.2 h1).2 h3, fun h => ⟨fun q => absurd q h1, fun _ => ⟨fun q => absurd q h3, fun _ => h⟩⟩⟩
theorem e_at {pg h w : Nat} {M : zMem} {Q : Int32 → zMem → Prop} (hp : pg < 4) (hh : h < 5) (hw : w < 6) : wp_Model_at (nI pg) (nI h) (nI w) M Q = Q (M 6 (96 * pg + 8 + 8 * h + w) + (if 2 ≤ w ∧ w ≤ 4 then -nI 4 else nI 0)) M := by
  unfold wp_Model_at
  rw [e_in, q_l64 (by omega)]
  have e1 : ix (96 * nI pg + 8 + 8 * nI h + nI w) = 96 * pg + 8 + 8 * h + w := by simp (disch := omega) only [q_lit, q_add, q_mul, q_sub, q_ix, q_in, q_lt, q_le, q_eq, q_nlt, q_nle, q_ltn, q_len, q_neq, q_eqn, zup_ne, zup_eq, zset_ne, zset_eq, upd_eq, upd_ne, forall_eq, true_and, and_true, true_implies, false_implies, implies_true, not_true_eq_false, not_false_eq_true, and_self, ↓reduceIte, false_and, and_false]
  have e2 : vp_in (96 * nI pg + 8 + 8 * nI h + nI w) 384 := by simp (disch := omega) only [q_lit, q_add, q_mul, q_sub, q_ix, q_in, q_lt, q_le, q_eq, q_nlt, q_nle, q_ltn, q_len, q_neq, q_eqn, zup_ne, zup_eq, zset_ne, zset_eq, upd_eq, upd_ne, forall_eq, true_and, and_true, true_implies, false_implies, implies_true, not_true_eq_false, not_false_eq_true, and_self, ↓reduceIte, false_and, and_false]
  have e3 : (2 ≤ lN w ∧ lN w ≤ 4) = (2 ≤ w ∧ w ≤ 4) := by
    apply propext
    rw [show (2 : Int64) = lN 2 from rfl, show (4 : Int64) = lN 4 from rfl, lN_le (by omega) (by omega), lN_le (by omega) (by omega)]
  rw [e1]
  apply propext
  by_cases c : 2 ≤ w ∧ w ≤ 4
  · have c' : 2 ≤ lN w ∧ lN w ≤ 4 := by rw [e3]; exact c
    rw [if_pos c', if_pos c]
    exact ⟨fun q => q.2.2 (by decide), fun q => ⟨e2, fun q1 => absurd q1 (by decide), fun _ => q⟩⟩
  · have c' : ¬ (2 ≤ lN w ∧ lN w ≤ 4) := by rw [e3]; exact c
    rw [if_neg c', if_neg c]
    exact ⟨fun q => q.2.1 rfl, fun q => ⟨e2, fun _ => q, fun q1 => absurd rfl q1⟩⟩
theorem e_put {pg h w : Nat} {v : Int32} {M : zMem} {Q : zMem → Prop} (hp : pg < 4) (hh : h < 5) (hw : w < 6) : wp_Model_put (nI pg) (nI h) (nI w) v M Q = Q (zup M 6 (96 * pg + 8 + 8 * h + w) (v - (if 2 ≤ w ∧ w ≤ 4 then -nI 4 else nI 0))) := by
  unfold wp_Model_put
  rw [e_in, q_l64 (by omega)]
  have e1 : ix (96 * nI pg + 8 + 8 * nI h + nI w) = 96 * pg + 8 + 8 * h + w := by simp (disch := omega) only [q_lit, q_add, q_mul, q_sub, q_ix, q_in, q_lt, q_le, q_eq, q_nlt, q_nle, q_ltn, q_len, q_neq, q_eqn, zup_ne, zup_eq, zset_ne, zset_eq, upd_eq, upd_ne, forall_eq, true_and, and_true, true_implies, false_implies, implies_true, not_true_eq_false, not_false_eq_true, and_self, ↓reduceIte, false_and, and_false]
  have e2 : vp_in (96 * nI pg + 8 + 8 * nI h + nI w) 384 := by simp (disch := omega) only [q_lit, q_add, q_mul, q_sub, q_ix, q_in, q_lt, q_le, q_eq, q_nlt, q_nle, q_ltn, q_len, q_neq, q_eqn, zup_ne, zup_eq, zset_ne, zset_eq, upd_eq, upd_ne, forall_eq, true_and, and_true, true_implies, false_implies, implies_true, not_true_eq_false, not_false_eq_true, and_self, ↓reduceIte, false_and, and_false]
  have e3 : (2 ≤ lN w ∧ lN w ≤ 4) = (2 ≤ w ∧ w ≤ 4) := by
    apply propext
    rw [show (2 : Int64) = lN 2 from rfl, show (4 : Int64) = lN 4 from rfl, lN_le (by omega) (by omega), lN_le (by omega) (by omega)]
  rw [e1]
  apply propext
  by_cases c : 2 ≤ w ∧ w ≤ 4
  · have c' : 2 ≤ lN w ∧ lN w ≤ 4 := by rw [e3]; exact c
    rw [if_pos c', if_pos c]
    exact ⟨fun q => (q.2 (by decide)).2 _ rfl, fun q => ⟨fun q1 => absurd q1 (by decide), fun _ => ⟨e2, fun m hm => by rw [hm]; exact q⟩⟩⟩
  · have c' : ¬ (2 ≤ lN w ∧ lN w ≤ 4) := by rw [e3]; exact c
    rw [if_neg c', if_neg c]
    exact ⟨fun q => (q.1 rfl).2 _ rfl, fun q => ⟨fun _ => ⟨e2, fun m hm => by rw [hm]; exact q⟩, fun q1 => absurd rfl q1⟩⟩
theorem e_of {pg w : Nat} {M : zMem} {Q : Int32 → zMem → Prop} (hp : pg < 4) (hw : w < 8) : wp_Model_of (nI pg) (nI w) M Q = Q (M 6 (96 * pg + w)) M := by
  unfold wp_Model_of
  simp (disch := omega) only [q_lit, q_add, q_mul, q_sub, q_ix, q_in, q_lt, q_le, q_eq, q_nlt, q_nle, q_ltn, q_len, q_neq, q_eqn, zup_ne, zup_eq, zset_ne, zset_eq, upd_eq, upd_ne, forall_eq, true_and, and_true, true_implies, false_implies, implies_true, not_true_eq_false, not_false_eq_true, and_self, ↓reduceIte, false_and, and_false]
theorem e_more {pg w : Nat} {x : Int32} {M : zMem} {Q : zMem → Prop} (hp : pg < 4) (hw : w < 8) : wp_Model_more (nI pg) (nI w) x M Q = Q (zup M 6 (96 * pg + w) (M 6 (96 * pg + w) + x)) := by
  unfold wp_Model_more
  simp (disch := omega) only [q_lit, q_add, q_mul, q_sub, q_ix, q_in, q_lt, q_le, q_eq, q_nlt, q_nle, q_ltn, q_len, q_neq, q_eqn, zup_ne, zup_eq, zset_ne, zset_eq, upd_eq, upd_ne, forall_eq, true_and, and_true, true_implies, false_implies, implies_true, not_true_eq_false, not_false_eq_true, and_self, ↓reduceIte, false_and, and_false]
theorem e_learntAt {pg h p : Nat} {M : zMem} {Q : Int32 → zMem → Prop} : wp_Model_learntAt (nI pg) (nI h) (nI p) M Q = Q (nI (96 * pg + 48 + 8 * h + p)) M := by
  unfold wp_Model_learntAt
  simp (disch := omega) only [q_lit, q_add, q_mul, q_sub, q_ix, q_in, q_lt, q_le, q_eq, q_nlt, q_nle, q_ltn, q_len, q_neq, q_eqn, zup_ne, zup_eq, zset_ne, zset_eq, upd_eq, upd_ne, forall_eq, true_and, and_true, true_implies, false_implies, implies_true, not_true_eq_false, not_false_eq_true, and_self, ↓reduceIte, false_and, and_false]
theorem mt_pieceFrom {s n : Nat} {p : Nat} {M : zMem} {Q : Int32 → zMem → Prop} (hn : M 4 0 = nI n) (hn8 : n ≤ 8) (hs : s < 3) (hp : p ≤ n) (hQ : Q (if sp_pf (fun i => M 4 (30 + 8 * s + i)) (n - p) p < n then nI (sp_pf (fun i => M 4 (30 + 8 * s + i)) (n - p) p) else -4) M) : wp_Model_pieceFrom (nI s) (nI p) M Q := by
  unfold wp_Model_pieceFrom
  refine zlp1_r (fun m x M' => M' = M ∧ ∃ p, x = nI p ∧ p ≤ n ∧ m = n - p ∧ Q (if sp_pf (fun i => M 4 (30 + 8 * s + i)) m p < n then nI (sp_pf (fun i => M 4 (30 + 8 * s + i)) m p) else -4) M) ?_ ⟨rfl, p, rfl, hp, rfl, hQ⟩
  rintro m x M' ⟨rfl, p, rfl, hp, rfl, hQ⟩ J hJ
  unfold wpB_Model_pieceFrom_2
  have e0 : ix 0 = 0 := rfl
  have e00 : vp_in 0 100 := vp_in_nI (n := 0) (by omega) (by omega)
  have e1 : ix (30 + 8 * nI s + nI p) = 30 + 8 * s + p := by simp (disch := omega) only [q_lit, q_add, q_mul, q_sub, q_ix, q_in, q_lt, q_le, q_eq, q_nlt, q_nle, q_ltn, q_len, q_neq, q_eqn, zup_ne, zup_eq, zset_ne, zset_eq, upd_eq, upd_ne, forall_eq, true_and, and_true, true_implies, false_implies, implies_true, not_true_eq_false, not_false_eq_true, and_self, ↓reduceIte, false_and, and_false]
  have e2 : vp_in (30 + 8 * nI s + nI p) 100 := by simp (disch := omega) only [q_lit, q_add, q_mul, q_sub, q_ix, q_in, q_lt, q_le, q_eq, q_nlt, q_nle, q_ltn, q_len, q_neq, q_eqn, zup_ne, zup_eq, zset_ne, zset_eq, upd_eq, upd_ne, forall_eq, true_and, and_true, true_implies, false_implies, implies_true, not_true_eq_false, not_false_eq_true, and_self, ↓reduceIte, false_and, and_false]
  rw [e0, e1, hn]
  refine ⟨e00, fun c => ?_, fun c => ⟨e2, fun c2 => ?_, fun c2 => ?_⟩⟩
  · have c' := (nI_leI (by omega) (by omega)).mp c
    have e : n - p = 0 := by omega
    rw [e] at hQ
    unfold sp_pf at hQ
    rw [if_neg (by omega)] at hQ
    exact hQ
  · have c' : p < n := Nat.lt_of_not_le (fun q => c (nI_le q (by omega)))
    intro x hx
    rw [nI_1] at hx
    subst hx
    have e : n - p = (n - (p + 1)) + 1 := by omega
    rw [e] at hQ
    unfold sp_pf at hQ
    rw [if_neg (show ¬ 0 < M' 4 (30 + 8 * s + p) by rw [Int32.not_lt]; exact c2)] at hQ
    exact hJ (n - (p + 1)) _ _ (by omega) ⟨rfl, p + 1, rfl, by omega, rfl, hQ⟩
  · have c' : p < n := Nat.lt_of_not_le (fun q => c (nI_le q (by omega)))
    have e : n - p = (n - (p + 1)) + 1 := by omega
    rw [e] at hQ
    unfold sp_pf at hQ
    rw [if_pos (show 0 < M' 4 (30 + 8 * s + p) by rw [← Int32.not_le]; exact c2), if_pos c'] at hQ
    exact hQ
