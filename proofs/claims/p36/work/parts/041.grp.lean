theorem ztc_le (x : Int32) : ztc x ≤ 6 := by unfold ztc; split <;> omega
theorem q_pred {h : Nat} (h0 : 0 < h) : nI h - 1 = nI (h - 1) := pk_sub h0
theorem q_predn {h : Nat} (h0 : 0 < h) : nI h + (-1) = nI (h - 1) := sb_m1 h0
/-- the first piece from p on, of f units; p + m if there is none among m -/
def sp_pf (f : Nat → Int32) : Nat → Nat → Nat
  | 0, p => p
  | m + 1, p => if 0 < f p then p else sp_pf f m (p + 1)
theorem sp_pf_le (f : Nat → Int32) : ∀ m p, p ≤ sp_pf f m p ∧ sp_pf f m p ≤ p + m := by
  intro m
  induction m with
  | zero => intro p; unfold sp_pf; omega
  | succ m ih =>
    intro p
    unfold sp_pf
    have := ih (p + 1)
    split <;> omega
theorem sp_pf_pos (f : Nat → Int32) : ∀ m p, sp_pf f m p < p + m → 0 < f (sp_pf f m p) := by
  intro m
  induction m with
  | zero => intro p h; unfold sp_pf at h; omega
  | succ m ih =>
    intro p
    unfold sp_pf
    split
    · intro _; assumption
    · intro h
      exact ih (p + 1) (by omega)
theorem sp_pf_all (f : Nat → Int32) : ∀ m p i, p ≤ i → i < sp_pf f m p → ¬ 0 < f i := by
  intro m
  induction m with
  | zero => intro p i h1 h2; unfold sp_pf at h2; omega
  | succ m ih =>
    intro p i h1
    unfold sp_pf
    split
    · intro h2; omega
    · intro h2
      rcases Nat.lt_or_ge p i with h3 | h3
      · exact ih (p + 1) i h3 h2
      · have : i = p := by omega
        subst this
        assumption
def sp_way (b h : Nat) (fr : Int32) (M : zMem) : Int32 := if h = 0 then 0 else if M (b + 3) (h - 1) < 0 then fr else fr - M (b + 3) (h - 1)
def sp_wl (t b h : Nat) (fr : Int32) (M : zMem) : Int32 := if 0 < sp_way b h fr M then M t 2 * sp_way b h fr M else 0
def sp_goBack (t b h : Nat) (fr : Int32) (M : zMem) : zMem :=
  zup (zup (zup M (b + 3) h (-1)) (b + 2) h (sp_wl t b h fr M)) (b + 1) h (if 0 < sp_wl t b h fr M then 1 else 0)
theorem xt_goBack {t b h : Nat} {fr : Int32} {M : zMem} {Q : zMem → Prop} (ht : ztc (M b 0) = t) (hd : t + 4 < b) (hh : h < 5) (hQ : Q (sp_goBack t b h fr M)) : wp_Bench_goBack b (nI h) fr M Q := by
  unfold sp_goBack sp_wl sp_way at hQ
  rcases Nat.eq_zero_or_pos h with rfl | h0
  · simp (disch := omega) [q_lit, q_add, q_mul, q_sub, q_ix, q_in, q_lt, q_le, q_eq, q_nlt, q_nle, q_ltn, q_len, q_neq, q_eqn, zup_ne, zup_eq, zset_ne, zset_eq, upd_eq, upd_ne, forall_eq, true_and, and_true, true_implies, false_implies, implies_true, not_true_eq_false, not_false_eq_true, and_self, ↓reduceIte, false_and, and_false, ht, wp_Bench_goBack, wpJ_Bench_goBack_38, wpJ_Bench_goBack_39] at hQ ⊢
    exact hQ
  · have e1 : nI h - 1 = nI (h - 1) := pk_sub h0
    have h2 : h ≠ 0 := by omega
    simp (disch := omega) [q_lit, q_add, q_mul, q_sub, q_ix, q_in, q_lt, q_le, q_eq, q_nlt, q_nle, q_ltn, q_len, q_neq, q_eqn, zup_ne, zup_eq, zset_ne, zset_eq, upd_eq, upd_ne, forall_eq, true_and, and_true, true_implies, false_implies, implies_true, not_true_eq_false, not_false_eq_true, and_self, ↓reduceIte, false_and, and_false, ht, e1, h2, wp_Bench_goBack, wpJ_Bench_goBack_38, wpJ_Bench_goBack_39] at hQ ⊢
    grind
theorem xt_pieceFrom {t s n : Nat} {p : Nat} {M : zMem} {Q : Int32 → zMem → Prop} (hn : M t 0 = nI n) (hn8 : n ≤ 8) (hs : s < 3) (hp : p ≤ n) (hQ : Q (nI (sp_pf (fun i => M (t + 2) (s * 8 + i)) (n - p) p)) M) : wp_Told_pieceFrom t (nI p) (nI s) M Q := by
  unfold wp_Told_pieceFrom
  refine zlp1_r (fun m x M' => M' = M ∧ ∃ p, x = nI p ∧ p ≤ n ∧ m = n - p ∧ Q (nI (sp_pf (fun i => M (t + 2) (s * 8 + i)) m p)) M) ?_ ⟨rfl, p, rfl, hp, rfl, hQ⟩
  rintro m x M' ⟨rfl, p, rfl, hp, rfl, hQ⟩ J hJ
  unfold wpB_Told_pieceFrom_2
  by_cases h1 : p < n
  · have e : n - p = (n - (p + 1)) + 1 := by omega
    rw [e] at hQ
    unfold sp_pf at hQ
    have h2 : ¬ n ≤ p := by omega
    simp (disch := omega) [q_lit, q_add, q_mul, q_sub, q_ix, q_in, q_lt, q_le, q_eq, q_nlt, q_nle, q_ltn, q_len, q_neq, q_eqn, zup_ne, zup_eq, zset_ne, zset_eq, upd_eq, upd_ne, forall_eq, true_and, and_true, true_implies, false_implies, implies_true, not_true_eq_false, not_false_eq_true, and_self, ↓reduceIte, false_and, and_false, hn, h1, h2] at hQ ⊢
    refine ⟨fun h3 => ?_, fun h3 => ?_⟩
    · refine hJ (n - (p + 1)) _ _ (by omega) ⟨rfl, p + 1, rfl, by omega, rfl, ?_⟩
      have h4 : ¬ nI 0 < M' (t + 2) (s * 8 + p) := by rw [Int32.not_lt]; exact h3
      rw [if_neg h4] at hQ
      exact hQ
    · have h4 : nI 0 < M' (t + 2) (s * 8 + p) := h3
      rw [if_pos h4] at hQ
      exact hQ
  · have e : n - p = 0 := by omega
    have e2 : p = n := by omega
    subst e2
    rw [e] at hQ
    unfold sp_pf at hQ
    simp (disch := omega) [q_lit, q_add, q_mul, q_sub, q_ix, q_in, q_lt, q_le, q_eq, q_nlt, q_nle, q_ltn, q_len, q_neq, q_eqn, zup_ne, zup_eq, zset_ne, zset_eq, upd_eq, upd_ne, forall_eq, true_and, and_true, true_implies, false_implies, implies_true, not_true_eq_false, not_false_eq_true, and_self, ↓reduceIte, false_and, and_false, hn] at hQ ⊢
    exact hQ
theorem e_unitsOf {t s p : Nat} {M : zMem} {Q : Int32 → zMem → Prop} (hs : s < 3) (hp : p < 8) : wp_Told_unitsOf t (nI s) (nI p) M Q = Q (M (t + 2) (s * 8 + p)) M := by
  unfold wp_Told_unitsOf
  simp (disch := omega) [q_lit, q_add, q_mul, q_sub, q_ix, q_in, q_lt, q_le, q_eq, q_nlt, q_nle, q_ltn, q_len, q_neq, q_eqn, zup_ne, zup_eq, zset_ne, zset_eq, upd_eq, upd_ne, forall_eq, true_and, and_true, true_implies, false_implies, implies_true, not_true_eq_false, not_false_eq_true, and_self, ↓reduceIte, false_and, and_false]
theorem e_paceOf {t h p : Nat} {M : zMem} {Q : Int32 → zMem → Prop} (hs : h < 5) (hp : p < 8) : wp_Told_paceOf t (nI h) (nI p) M Q = Q (M (t + 3) (h * 8 + p)) M := by
  unfold wp_Told_paceOf
  simp (disch := omega) [q_lit, q_add, q_mul, q_sub, q_ix, q_in, q_lt, q_le, q_eq, q_nlt, q_nle, q_ltn, q_len, q_neq, q_eqn, zup_ne, zup_eq, zset_ne, zset_eq, upd_eq, upd_ne, forall_eq, true_and, and_true, true_implies, false_implies, implies_true, not_true_eq_false, not_false_eq_true, and_self, ↓reduceIte, false_and, and_false]
def sp_finish (t b h : Nat) (M : zMem) : zMem :=
  let p := ix (M (b + 3) h)
  let s := ix (M (b + 5) h)
  let n := ix (M t 0)
  let M3 := zup (zup (zup M (b + 7) (h * 8 + p) (M (b + 7) (h * 8 + p) + 1)) (b + 1) h 2) (b + 4) h (M (b + 4) h + 1)
  if M (b + 4) h + 1 < M (t + 2) (s * 8 + p) then M3 else
    let q := sp_pf (fun i => M (t + 2) (s * 8 + i)) (n - (p + 1)) (p + 1)
    if q < n then zup (zup M3 (b + 3) h (nI q)) (b + 4) h 0 else sp_goBack t b h (nI n) (zup M3 b 3 (M b 3 + 1))
theorem xt_finish {t b h n p u s : Nat} {M : zMem} {Q : Int32 → zMem → Prop} (ht : ztc (M b 0) = t) (hd : t + 4 < b) (hh : h < 5) (hn : M t 0 = nI n) (hn8 : n ≤ 8) (hp : M (b + 3) h = nI p) (hpn : p < n) (hu : M (b + 4) h = nI u) (hu6 : u < 6) (hs : M (b + 5) h = nI s) (hs3 : s < 3) (hQ : Q 1 (sp_finish t b h M)) : wp_Bench_finishUnit b (nI h) M Q := by
  unfold sp_finish at hQ
  unfold wp_Bench_finishUnit
  simp (disch := omega) [q_lit, q_add, q_mul, q_sub, q_ix, q_in, q_lt, q_le, q_eq, q_nlt, q_nle, q_ltn, q_len, q_neq, q_eqn, zup_ne, zup_eq, zset_ne, zset_eq, upd_eq, upd_ne, forall_eq, true_and, and_true, true_implies, false_implies, implies_true, not_true_eq_false, not_false_eq_true, and_self, ↓reduceIte, false_and, and_false, ht, hp, hs, hn, e_unitsOf, hu] at hQ ⊢
  refine ⟨fun h1 => ?_, fun h1 => ?_⟩
  · refine xt_pieceFrom (n := n) (by simp (disch := omega) [q_lit, q_add, q_mul, q_sub, q_ix, q_in, q_lt, q_le, q_eq, q_nlt, q_nle, q_ltn, q_len, q_neq, q_eqn, zup_ne, zup_eq, zset_ne, zset_eq, upd_eq, upd_ne, forall_eq, true_and, and_true, true_implies, false_implies, implies_true, not_true_eq_false, not_false_eq_true, and_self, ↓reduceIte, false_and, and_false, ht, hn]) hn8 hs3 (by omega) ?_
    simp (disch := omega) [q_lit, q_add, q_mul, q_sub, q_ix, q_in, q_lt, q_le, q_eq, q_nlt, q_nle, q_ltn, q_len, q_neq, q_eqn, zup_ne, zup_eq, zset_ne, zset_eq, upd_eq, upd_ne, forall_eq, true_and, and_true, true_implies, false_implies, implies_true, not_true_eq_false, not_false_eq_true, and_self, ↓reduceIte, false_and, and_false, ht, hp, hs, hn]
    have h2 : ¬ nI (u + 1) < M (t + 2) (s * 8 + p) := by rw [Int32.not_lt]; exact h1
    rw [if_neg h2] at hQ
    have hq9 : sp_pf (fun i => M (t + 2) (s * 8 + i)) (n - (p + 1)) (p + 1) ≤ n := by
      have := (sp_pf_le (fun i => M (t + 2) (s * 8 + i)) (n - (p + 1)) (p + 1)).2
      omega
    generalize sp_pf (fun i => M (t + 2) (s * 8 + i)) (n - (p + 1)) (p + 1) = q at hQ hq9 ⊢
    by_cases hq : q < n
    · have hq2 : ¬ n ≤ q := by omega
      simp (disch := omega) [q_lit, q_add, q_mul, q_sub, q_ix, q_in, q_lt, q_le, q_eq, q_nlt, q_nle, q_ltn, q_len, q_neq, q_eqn, zup_ne, zup_eq, zset_ne, zset_eq, upd_eq, upd_ne, forall_eq, true_and, and_true, true_implies, false_implies, implies_true, not_true_eq_false, not_false_eq_true, and_self, ↓reduceIte, false_and, and_false, hq, hq2] at hQ ⊢
      exact hQ
    · have hq2 : n ≤ q := by omega
      simp (disch := omega) [q_lit, q_add, q_mul, q_sub, q_ix, q_in, q_lt, q_le, q_eq, q_nlt, q_nle, q_ltn, q_len, q_neq, q_eqn, zup_ne, zup_eq, zset_ne, zset_eq, upd_eq, upd_ne, forall_eq, true_and, and_true, true_implies, false_implies, implies_true, not_true_eq_false, not_false_eq_true, and_self, ↓reduceIte, false_and, and_false, hq, hq2] at hQ ⊢
      exact xt_goBack (t := t) (by simp (disch := omega) [q_lit, q_add, q_mul, q_sub, q_ix, q_in, q_lt, q_le, q_eq, q_nlt, q_nle, q_ltn, q_len, q_neq, q_eqn, zup_ne, zup_eq, zset_ne, zset_eq, upd_eq, upd_ne, forall_eq, true_and, and_true, true_implies, false_implies, implies_true, not_true_eq_false, not_false_eq_true, and_self, ↓reduceIte, false_and, and_false, ht]) hd hh hQ
  · rw [if_pos h1] at hQ
    exact hQ
def sp_new (t b : Nat) (M : zMem) : zMem :=
  let s := M (t + 1) (ix (M b 5))
  let q := sp_pf (fun i => M (t + 2) (ix s * 8 + i)) (ix (M t 0)) 0
  zup (zup (zup (zup (zup M b 5 (if M t 6 ≤ M b 5 + 1 then 0 else M b 5 + 1)) (b + 1) 0 2) (b + 3) 0 (nI q)) (b + 4) 0 0) (b + 5) 0 s
theorem xt_new {t b n s pl : Nat} {M : zMem} {Q : Int32 → zMem → Prop} (ht : ztc (M b 0) = t) (hd : t + 4 < b) (hn : M t 0 = nI n) (hn8 : n ≤ 8) (hpl : M b 5 = nI pl) (hpl6 : pl < 6) (hs : M (t + 1) pl = nI s) (hs3 : s < 3) (hq : sp_pf (fun i => M (t + 2) (s * 8 + i)) n 0 < n) (hQ : Q 1 (sp_new t b M)) : wp_Bench_takeNewCoat b M Q := by
  unfold sp_new at hQ
  unfold wp_Bench_takeNewCoat
  simp (disch := omega) [q_lit, q_add, q_mul, q_sub, q_ix, q_in, q_lt, q_le, q_eq, q_nlt, q_nle, q_ltn, q_len, q_neq, q_eqn, zup_ne, zup_eq, zset_ne, zset_eq, upd_eq, upd_ne, forall_eq, true_and, and_true, true_implies, false_implies, implies_true, not_true_eq_false, not_false_eq_true, and_self, ↓reduceIte, false_and, and_false, ht, hs, hn, hpl] at hQ ⊢
  refine xt_pieceFrom (n := n) hn hn8 hs3 (by omega) ?_
  simp (disch := omega) [q_lit, q_add, q_mul, q_sub, q_ix, q_in, q_lt, q_le, q_eq, q_nlt, q_nle, q_ltn, q_len, q_neq, q_eqn, zup_ne, zup_eq, zset_ne, zset_eq, upd_eq, upd_ne, forall_eq, true_and, and_true, true_implies, false_implies, implies_true, not_true_eq_false, not_false_eq_true, and_self, ↓reduceIte, false_and, and_false, ht, hn, hs, hpl, hq]
  grind
/-- whether a coat can be left -/
def sp_can (t b h : Nat) (M : zMem) : Prop := ¬ (0 < M (b + 4) h ∧ ((M t 5 >>> (M (b + 3) h &&& 31)) &&& 1) = 1) ∧ ¬ (M t 4 = 2 ∧ M (b + 3) h < M (t + 4) h)
def sp_note (g : Nat) (k w p u s : Int32) (M : zMem) : zMem :=
  if M g 0 < 600 then zup (zup (zup (zup (zup (zup M (g + 1) (ix (M g 0) * 5) k) (g + 1) (ix (M g 0) * 5 + 1) w) (g + 1) (ix (M g 0) * 5 + 2) p) (g + 1) (ix (M g 0) * 5 + 3) u) (g + 1) (ix (M g 0) * 5 + 4) s) g 0 (M g 0 + 1) else M
theorem e_note_ne {g k : Nat} {a w p u s : Int32} {M : zMem} (h : k ≠ g) (h2 : k ≠ g + 1) : sp_note g a w p u s M k = M k := by
  unfold sp_note
  split
  · simp (disch := omega) only [q_lit, q_add, q_mul, q_sub, q_ix, q_in, q_lt, q_le, q_eq, q_nlt, q_nle, q_ltn, q_len, q_neq, q_eqn, zup_ne, zup_eq, zset_ne, zset_eq, upd_eq, upd_ne, forall_eq, true_and, and_true, true_implies, false_implies, implies_true, not_true_eq_false, not_false_eq_true, and_self, ↓reduceIte, false_and, and_false]
  · rfl
theorem xt_note {g z : Nat} {k w p u s : Int32} {M : zMem} {Q : zMem → Prop} (hz : M g 0 = nI z) (hz6 : z ≤ 600) (hQ : Q (sp_note g k w p u s M)) : wp_Handings_note g k w p u s M Q := by
  unfold sp_note at hQ
  unfold wp_Handings_note
  by_cases h1 : z < 600
  · have h2 : ¬ 600 ≤ z := by omega
    simp (disch := omega) [q_lit, q_add, q_mul, q_sub, q_ix, q_in, q_lt, q_le, q_eq, q_nlt, q_nle, q_ltn, q_len, q_neq, q_eqn, zup_ne, zup_eq, zset_ne, zset_eq, upd_eq, upd_ne, forall_eq, true_and, and_true, true_implies, false_implies, implies_true, not_true_eq_false, not_false_eq_true, and_self, ↓reduceIte, false_and, and_false, hz, h1, h2] at hQ ⊢
    exact hQ
  · have h2 : 600 ≤ z := by omega
    simp (disch := omega) [q_lit, q_add, q_mul, q_sub, q_ix, q_in, q_lt, q_le, q_eq, q_nlt, q_nle, q_ltn, q_len, q_neq, q_eqn, zup_ne, zup_eq, zset_ne, zset_eq, upd_eq, upd_ne, forall_eq, true_and, and_true, true_implies, false_implies, implies_true, not_true_eq_false, not_false_eq_true, and_self, ↓reduceIte, false_and, and_false, hz, h1, h2] at hQ ⊢
    exact hQ
def sp_take (t b h : Nat) (M : zMem) : zMem :=
  let M5 := zup (zup (zup (zup (zup M (b + 1) h 2) (b + 3) h (M (b + 3) (h - 1))) (b + 4) h (M (b + 4) (h - 1))) (b + 5) h (M (b + 5) (h - 1))) b 4 (M b 4 + 1)
  match zlg b with
  | none => sp_goBack t b (h - 1) (M (b + 3) (h - 1)) M5
  | some g => sp_goBack t b (h - 1) (M (b + 3) (h - 1)) (sp_note g (M b 2) (nI h) (M (b + 3) (h - 1)) (M (b + 4) (h - 1)) (M (b + 5) (h - 1)) M5)
theorem e_mayBeLeft {t h : Nat} {x u : Int32} {M : zMem} {Q : Int32 → zMem → Prop} (hh : h < 5) : wp_Told_mayBeLeft t (nI h) x u M Q = ((¬ (0 < u ∧ ((M t 5 >>> (x &&& 31)) &&& 1) = 1) ∧ ¬ (M t 4 = 2 ∧ x < M (t + 4) h) → Q 1 M) ∧ (¬ (¬ (0 < u ∧ ((M t 5 >>> (x &&& 31)) &&& 1) = 1) ∧ ¬ (M t 4 = 2 ∧ x < M (t + 4) h)) → Q 0 M)) := by
  unfold wp_Told_mayBeLeft wpJ_Told_mayBeLeft_18
  have h1 : ix (nI h) = h := q_ix (by omega)
  have h2 : vp_in (nI h) 5 := vp_in_nI hh (by omega)
  have h3 : (u ≤ 0) = ¬ (0 < u) := by rw [Int32.not_lt]
  rw [h1, h3]
  apply propext
  grind
theorem zlg_cases (b : Nat) : zlg b = none ∨ (zlg b = some 30 ∧ b = 32) := by
  unfold zlg
  split
  · right; exact ⟨rfl, by assumption⟩
  · left; rfl
theorem xt_take {t b h : Nat} {M : zMem} {Q : Int32 → zMem → Prop} (ht : ztc (M b 0) = t) (hd : t + 4 < b) (hd2 : t + 4 < 18) (h0 : 0 < h) (hh : h < 5) (hz : ∀ g, zlg b = some g → ∃ z, M g 0 = nI z ∧ z ≤ 600) (h1 : M (b + 1) (h - 1) = 2 → sp_can t b (h - 1) M → Q 1 (sp_take t b h M)) (h2 : ¬ (M (b + 1) (h - 1) = 2 ∧ sp_can t b (h - 1) M) → Q 0 M) : wp_Bench_takeOver b (nI h) M Q := by
  unfold wp_Bench_takeOver
  have e1 : nI h - 1 = nI (h - 1) := pk_sub h0
  have e2 : h - 1 < 5 := by omega
  have e3 : h - 1 ≠ h := by omega
  by_cases c1 : M (b + 1) (h - 1) = 2
  · by_cases c2 : sp_can t b (h - 1) M
    · have h3 := h1 c1 c2
      unfold sp_can at c2
      unfold sp_take at h3
      have c1' : M (b + 1) (h - 1) = nI 2 := c1
      simp (disch := omega) only [e1, ht, e_mayBeLeft e2, q_lit, q_add, q_mul, q_sub, q_ix, q_in, q_lt, q_le, q_eq, q_nlt, q_nle, q_ltn, q_len, q_neq, q_eqn, zup_ne, zup_eq, zset_ne, zset_eq, upd_eq, upd_ne, forall_eq, true_and, and_true, true_implies, false_implies, implies_true, not_true_eq_false, not_false_eq_true, and_self, ↓reduceIte, false_and, and_false, c1']
      refine ⟨fun _ => ⟨fun _ => ?_, fun h4 => absurd h4 (by decide)⟩, fun h4 => absurd c2 h4⟩
      rcases zlg_cases b with hg | ⟨hg, hb⟩
      · rw [hg] at h3
        simp (disch := omega) only [q_lit, q_add, q_mul, q_sub, q_ix, q_in, q_lt, q_le, q_eq, q_nlt, q_nle, q_ltn, q_len, q_neq, q_eqn, zup_ne, zup_eq, zset_ne, zset_eq, upd_eq, upd_ne, forall_eq, true_and, and_true, true_implies, false_implies, implies_true, not_true_eq_false, not_false_eq_true, and_self, ↓reduceIte, false_and, and_false, hg] at h3 ⊢
        refine ⟨xt_goBack (t := t) (by simp (disch := omega) [q_lit, q_add, q_mul, q_sub, q_ix, q_in, q_lt, q_le, q_eq, q_nlt, q_nle, q_ltn, q_len, q_neq, q_eqn, zup_ne, zup_eq, zset_ne, zset_eq, upd_eq, upd_ne, forall_eq, true_and, and_true, true_implies, false_implies, implies_true, not_true_eq_false, not_false_eq_true, and_self, ↓reduceIte, false_and, and_false, ht]) hd e2 h3, fun g h5 => by cases h5⟩
      · rw [hg] at h3
        obtain ⟨z, hz1, hz2⟩ := hz 30 hg
        simp (disch := omega) only [q_lit, q_add, q_mul, q_sub, q_ix, q_in, q_lt, q_le, q_eq, q_nlt, q_nle, q_ltn, q_len, q_neq, q_eqn, zup_ne, zup_eq, zset_ne, zset_eq, upd_eq, upd_ne, forall_eq, true_and, and_true, true_implies, false_implies, implies_true, not_true_eq_false, not_false_eq_true, and_self, ↓reduceIte, false_and, and_false, hg] at h3 ⊢
        refine ⟨fun h5 => (nomatch h5), fun g h5 => ?_⟩
        cases h5
        refine xt_note (z := z) (by simp (disch := omega) only [q_lit, q_add, q_mul, q_sub, q_ix, q_in, q_lt, q_le, q_eq, q_nlt, q_nle, q_ltn, q_len, q_neq, q_eqn, zup_ne, zup_eq, zset_ne, zset_eq, upd_eq, upd_ne, forall_eq, true_and, and_true, true_implies, false_implies, implies_true, not_true_eq_false, not_false_eq_true, and_self, ↓reduceIte, false_and, and_false]; exact hz1) hz2 ?_
        simp (disch := omega) only [q_lit, q_add, q_mul, q_sub, q_ix, q_in, q_lt, q_le, q_eq, q_nlt, q_nle, q_ltn, q_len, q_neq, q_eqn, zup_ne, zup_eq, zset_ne, zset_eq, upd_eq, upd_ne, forall_eq, true_and, and_true, true_implies, false_implies, implies_true, not_true_eq_false, not_false_eq_true, and_self, ↓reduceIte, false_and, and_false, e_note_ne]
        exact xt_goBack (t := t) (by simp (disch := omega) only [q_lit, q_add, q_mul, q_sub, q_ix, q_in, q_lt, q_le, q_eq, q_nlt, q_nle, q_ltn, q_len, q_neq, q_eqn, zup_ne, zup_eq, zset_ne, zset_eq, upd_eq, upd_ne, forall_eq, true_and, and_true, true_implies, false_implies, implies_true, not_true_eq_false, not_false_eq_true, and_self, ↓reduceIte, false_and, and_false, e_note_ne]; exact ht) hd e2 h3
    · have h3 := h2 (fun q => c2 q.2)
      unfold sp_can at c2
      have c1' : M (b + 1) (h - 1) = nI 2 := c1
      simp (disch := omega) only [e1, ht, e_mayBeLeft e2, q_lit, q_add, q_mul, q_sub, q_ix, q_in, q_lt, q_le, q_eq, q_nlt, q_nle, q_ltn, q_len, q_neq, q_eqn, zup_ne, zup_eq, zset_ne, zset_eq, upd_eq, upd_ne, forall_eq, true_and, and_true, true_implies, false_implies, implies_true, not_true_eq_false, not_false_eq_true, and_self, ↓reduceIte, false_and, and_false, c1']
      exact ⟨fun h4 => absurd h4 c2, fun _ => h3⟩
  · have h3 := h2 (fun q => c1 q.1)
    have c1' : ¬ M (b + 1) (h - 1) = nI 2 := c1
    simp (disch := omega) only [e1, ht, e_mayBeLeft e2, q_lit, q_add, q_mul, q_sub, q_ix, q_in, q_lt, q_le, q_eq, q_nlt, q_nle, q_ltn, q_len, q_neq, q_eqn, zup_ne, zup_eq, zset_ne, zset_eq, upd_eq, upd_ne, forall_eq, true_and, and_true, true_implies, false_implies, implies_true, not_true_eq_false, not_false_eq_true, and_self, ↓reduceIte, false_and, and_false, c1']
    exact h3

def sp_ticks (t h p : Nat) (ld : Int32) (M : zMem) : Int32 :=
  let v := if 0 < M t 3 then M (t + 3) (h * 8 + p) - ld / M t 3 else M (t + 3) (h * 8 + p)
  if v < 1 then 1 else v
theorem e_ticksOf {t h p : Nat} {ld : Int32} {M : zMem} {Q : Int32 → zMem → Prop} (hh : h < 5) (hp : p < 8) (hQ : Q (sp_ticks t h p ld M) M) : wp_Told_ticksOf t (nI h) (nI p) ld M Q := by
  unfold wp_Told_ticksOf
  unfold sp_ticks at hQ
  have e1 : ix (nI h * 8 + nI p) = h * 8 + p := by simp (disch := omega) only [q_lit, q_add, q_mul, q_sub, q_ix, q_in, q_lt, q_le, q_eq, q_nlt, q_nle, q_ltn, q_len, q_neq, q_eqn, zup_ne, zup_eq, zset_ne, zset_eq, upd_eq, upd_ne, forall_eq, true_and, and_true, true_implies, false_implies, implies_true, not_true_eq_false, not_false_eq_true, and_self, ↓reduceIte, false_and, and_false]
  have e2 : vp_in (nI h * 8 + nI p) 40 := by simp (disch := omega) only [q_lit, q_add, q_mul, q_sub, q_ix, q_in, q_lt, q_le, q_eq, q_nlt, q_nle, q_ltn, q_len, q_neq, q_eqn, zup_ne, zup_eq, zset_ne, zset_eq, upd_eq, upd_ne, forall_eq, true_and, and_true, true_implies, false_implies, implies_true, not_true_eq_false, not_false_eq_true, and_self, ↓reduceIte, false_and, and_false]
  refine ⟨e2, ?_⟩
  rw [e1]
  intro x hx
  subst hx
  refine ⟨fun h1 => ?_, fun h1 => ⟨fun h2 => h1 (by rw [h2]; exact Int32.le_refl 0), fun y hy => ?_⟩⟩
  · have h3 : ¬ 0 < M t 3 := by rw [Int32.not_lt]; exact h1
    rw [if_neg h3] at hQ
    refine ⟨fun h4 => ?_, fun h4 => ?_⟩
    · rw [if_neg (by rw [Int32.not_lt]; exact h4)] at hQ; exact hQ
    · rw [if_pos (by rw [Int32.not_le] at h4; exact h4)] at hQ; exact hQ
  · have h3 : 0 < M t 3 := by rw [Int32.not_le] at h1; exact h1
    rw [if_pos h3] at hQ
    subst hy
    refine ⟨fun h4 => ?_, fun h4 => ?_⟩
    · rw [if_neg (by rw [Int32.not_lt]; exact h4)] at hQ; exact hQ
    · rw [if_pos (by rw [Int32.not_le] at h4; exact h4)] at hQ; exact hQ
/-- whether the one behind holds a hand -/
def sp_held (t b h : Nat) (M : zMem) : Prop := nI (h + 1) < M t 1 ∧ ¬ M (b + 3) (h + 1) < 0 ∧ (M (b + 3) (h + 1) < M (b + 3) h ∨ (M (b + 3) (h + 1) = M (b + 3) h ∧ ¬ M (b + 4) h < M (b + 4) (h + 1)))
def sp_may (t b h : Nat) (M : zMem) : Prop := M (b + 3) h < M (t + 4) h ∧ ¬ sp_held t b h M
def sp_start (t b h : Nat) (M : zMem) : zMem := zup (zup M (b + 1) h 3) (b + 2) h (sp_ticks t h (ix (M (b + 3) h)) (M (b + 7) (h * 8 + ix (M (b + 3) h))) M)
theorem e_isHeldBy {t b h H : Nat} {M : zMem} {Q : Int32 → zMem → Prop} (ht : ztc (M b 0) = t) (hh : h < 5) (hH : M t 1 = nI H) (hH5 : H ≤ 5) (h1 : sp_held t b h M → Q 1 M) (h0 : ¬ sp_held t b h M → Q 0 M) : wp_Bench_isHeldBy b (nI h) (nI h + 1) M Q := by
  unfold wp_Bench_isHeldBy
  unfold sp_held at h1 h0
  rw [nI_1, ht, hH]
  rw [hH] at h1 h0
  by_cases c : h + 1 < H
  · have c2 : ¬ H ≤ h + 1 := by omega
    have e1 : ix (nI (h + 1)) = h + 1 := q_ix (by omega)
    have e2 : vp_in (nI (h + 1)) 5 := vp_in_nI (by omega) (by omega)
    have e3 : ix (nI h) = h := q_ix (by omega)
    have e4 : vp_in (nI h) 5 := vp_in_nI (by omega) (by omega)
    have e5 : nI (h + 1) < nI H := nI_lt c (by omega)
    have e6 : ¬ nI H ≤ nI (h + 1) := by rw [Int32.not_le]; exact e5
    rw [e1, e3]
    have q1 : ∀ x y : Int32, (x ≤ y) = (x < y ∨ x = y) := fun x y => propext Int32.le_iff_lt_or_eq
    grind
  · have c2 : nI H ≤ nI (h + 1) := nI_le (by omega) (by omega)
    have c3 : ¬ nI (h + 1) < nI H := by rw [Int32.not_lt]; exact c2
    grind
theorem xt_start {t b h n p H : Nat} {M : zMem} {Q : Int32 → zMem → Prop} (ht : ztc (M b 0) = t) (hd : t + 4 < b) (hh : h < 5) (hn8 : n ≤ 8) (hp : M (b + 3) h = nI p) (hpn : p < n) (hH : M t 1 = nI H) (hH5 : H ≤ 5) (h1 : sp_may t b h M → Q 1 (sp_start t b h M)) (h0 : ¬ sp_may t b h M → Q 0 M) : wp_Bench_startUnit b (nI h) M Q := by
  unfold wp_Bench_startUnit wp_Told_mayBegin
  unfold sp_may at h1 h0
  unfold sp_start at h1
  have e1 : ix (nI h) = h := q_ix (by omega)
  have e2 : vp_in (nI h) 5 := vp_in_nI (by omega) (by omega)
  have e3 : ix (nI p) = p := q_ix (by omega)
  rw [ht, e1]
  rw [hp, e3] at h1
  rw [hp] at h0
  rw [hp]
  refine ⟨e2, e2, fun c1 => ⟨fun _ => h0 (fun q => by have q1 := q.1; rw [← Int32.not_le] at q1; exact q1 c1), fun c2 => absurd rfl c2⟩, fun c1 => ⟨fun c2 => absurd c2 (by decide), fun _ => ?_⟩⟩
  refine e_isHeldBy ht hh hH hH5 (fun c2 => ⟨fun c3 => absurd c3 (by decide), fun _ => h0 (fun q => q.2 c2)⟩) (fun c2 => ⟨fun _ => ?_, fun c3 => absurd rfl c3⟩)
  have h3 := h1 ⟨by rw [← Int32.not_le]; exact c1, c2⟩
  refine ⟨e2, fun M5 hM5 => ?_⟩
  subst hM5
  simp (disch := omega) only [q_lit, q_add, q_mul, q_sub, q_ix, q_in, q_lt, q_le, q_eq, q_nlt, q_nle, q_ltn, q_len, q_neq, q_eqn, zup_ne, zup_eq, zset_ne, zset_eq, upd_eq, upd_ne, forall_eq, true_and, and_true, true_implies, false_implies, implies_true, not_true_eq_false, not_false_eq_true, and_self, ↓reduceIte, false_and, and_false, ht, hp]
  refine e_ticksOf (by omega) (by omega) ?_
  unfold sp_ticks at h3 ⊢
  simp (disch := omega) only [q_lit, q_add, q_mul, q_sub, q_ix, q_in, q_lt, q_le, q_eq, q_nlt, q_nle, q_ltn, q_len, q_neq, q_eqn, zup_ne, zup_eq, zset_ne, zset_eq, upd_eq, upd_ne, forall_eq, true_and, and_true, true_implies, false_implies, implies_true, not_true_eq_false, not_false_eq_true, and_self, ↓reduceIte, false_and, and_false, ht, hp] at h3 ⊢
  exact h3
/-- what a hand does at a tick: none if nothing -/
noncomputable def sp_hand (t b h : Nat) (M : zMem) : Option zMem :=
  if M (b + 2) h = 0 then
    if M (b + 1) h = 3 then some (sp_finish t b h M)
    else if M (b + 1) h = 0 then (if h = 0 then some (sp_new t b M) else
      (haveI := Classical.propDecidable (M (b + 1) (h - 1) = 2 ∧ sp_can t b (h - 1) M); if M (b + 1) (h - 1) = 2 ∧ sp_can t b (h - 1) M then some (sp_take t b h M) else none))
    else if M (b + 1) h = 2 then (haveI := Classical.propDecidable (sp_may t b h M); if sp_may t b h M then some (sp_start t b h M) else none)
    else none
  else none
/-- what is told is well told: n pieces, H hands, L in the row -/
def sp_vt (M : zMem) (t n H L : Nat) : Prop :=
  (1 ≤ n ∧ n ≤ 8 ∧ 1 ≤ H ∧ H ≤ 5 ∧ 1 ≤ L ∧ L ≤ 6) ∧ M t 0 = nI n ∧ M t 1 = nI H ∧ M t 6 = nI L ∧ (∃ k, k ≤ 5 ∧ M t 2 = nI k) ∧ (∃ k, k ≤ 99 ∧ M t 3 = nI k) ∧ (∃ k, k ≤ 2 ∧ M t 4 = nI k) ∧ (∃ k, k < 256 ∧ M t 5 = nI k) ∧
  (∀ i, i < L → ∃ s, s < 3 ∧ M (t + 1) i = nI s) ∧ (∀ s p, s < 3 → p < n → ∃ u, u ≤ 6 ∧ M (t + 2) (s * 8 + p) = nI u) ∧ (∀ s, s < 3 → sp_pf (fun i => M (t + 2) (s * 8 + i)) n 0 < n) ∧
  (∀ h p, h < H → p < n → ∃ c, 1 ≤ c ∧ c ≤ 9 ∧ M (t + 3) (h * 8 + p) = nI c) ∧ (∀ h, h < H → ∃ e, e ≤ n ∧ M (t + 4) h = nI e) ∧ M (t + 4) (H - 1) = nI n ∧ (M t 4 = 0 → ∀ h, h < H → M (t + 4) h = nI n)
/-- a hand's state is well -/
def sp_hd (M : zMem) (t b n h : Nat) : Prop :=
  (M (b + 1) h = 0 ∧ M (b + 2) h = 0 ∧ M (b + 3) h = -1) ∨ (M (b + 1) h = 1 ∧ 0 < M (b + 2) h ∧ M (b + 3) h = -1) ∨
  (∃ p u s U, p < n ∧ s < 3 ∧ u < U ∧ U ≤ 6 ∧ M (b + 3) h = nI p ∧ M (b + 4) h = nI u ∧ M (b + 5) h = nI s ∧ M (t + 2) (s * 8 + p) = nI U ∧ ((M (b + 1) h = 2 ∧ M (b + 2) h = 0) ∨ (M (b + 1) h = 3 ∧ 0 ≤ M (b + 2) h)) ∧ ((M (b + 1) h = 3 ∨ (0 < u ∧ ((M t 5 >>> (nI p &&& 31)) &&& 1) = 1)) → nI p < M (t + 4) h))
def sp_ok (M : zMem) (t b n H L : Nat) : Prop :=
  ztc (M b 0) = t ∧ t + 4 < 18 ∧ 18 ≤ b ∧ sp_vt M t n H L ∧ (∃ pl, pl < L ∧ M b 5 = nI pl) ∧ (∀ h, h < H → sp_hd M t b n h) ∧ (∀ g, zlg b = some g → ∃ z, M g 0 = nI z ∧ z ≤ 600)
theorem xt_hand {t b n H L h : Nat} {M : zMem} {Q : Int32 → zMem → Prop} (ok : sp_ok M t b n H L) (hh : h < H) (hl : M (b + 2) h = 0) (h1 : ∀ M', sp_hand t b h M = some M' → Q 1 M') (h0 : sp_hand t b h M = none → Q 0 M) : wp_Bench_act b (nI h) M Q := by
  obtain ⟨ht, hd2, hb18, ⟨⟨n1, n8, H1, H5, L1, L6⟩, hn, hH, hL, -, -, -, -, hrow, hun, hpf, -, -, -, -⟩, ⟨pl, hpl, hpl2⟩, hhd, hg⟩ := ok
  have e1 : ix (nI h) = h := q_ix (by omega)
  have e2 : vp_in (nI h) 5 := vp_in_nI (by omega) (by omega)
  have hd : t + 4 < b := by omega
  unfold wp_Bench_act
  refine ⟨e2, ?_⟩
  rw [e1]
  unfold sp_hand at h1 h0
  rw [if_pos hl] at h1 h0
  intro x hx
  rcases hhd h hh with ⟨a1, a2, a3⟩ | ⟨a1, a2, a3⟩ | ⟨p, u, s, U, a1, a2, a3, a4, a5, a6, a7, a8, a9, -⟩
  · rw [a1] at hx h1 h0
    subst hx
    rw [if_neg (by decide), if_pos rfl] at h1 h0
    refine ⟨fun _ => ⟨fun c => ?_, fun c => ?_⟩, fun c => absurd c (by decide), fun c => absurd c (by decide), fun c => absurd c (by decide), fun c => absurd rfl c⟩
    · have c0 : 0 < h := Nat.pos_of_ne_zero (fun q => c (by rw [q]; rfl))
      have c1 : ¬ h = 0 := by omega
      rw [if_neg c1] at h1 h0
      refine xt_take ht hd hd2 c0 (by omega) hg (fun c2 c3 => ⟨zbo_1, ?_⟩) (fun c2 => ⟨zbo_0, ?_⟩)
      · rw [if_pos ⟨c2, c3⟩] at h1
        exact h1 _ rfl
      · rw [if_neg c2] at h0
        exact h0 rfl
    · have c0 : h = 0 := by
        have := (nI_eq (a := h) (b := 0) (by omega) (by omega)).mp c
        exact this
      subst c0
      rw [if_pos rfl] at h1
      obtain ⟨s, hs3, hs⟩ := hrow pl hpl
      exact xt_new ht hd hn n8 hpl2 (by omega) hs hs3 (hpf s hs3) ⟨zbo_1, h1 _ rfl⟩
  · rw [hl] at a2
    exact absurd a2 (by decide)
  · rcases a9 with ⟨a9, -⟩ | ⟨a9, -⟩
    · rw [a9] at hx h1 h0
      subst hx
      rw [if_neg (by decide), if_neg (by decide), if_pos rfl] at h1 h0
      refine ⟨fun c => absurd c (by decide), fun c => absurd c (by decide), fun _ => ?_, fun c => absurd c (by decide), fun _ _ c => absurd rfl c⟩
      refine xt_start ht hd (by omega) n8 a5 a1 hH H5 (fun c => ⟨zbo_1, ?_⟩) (fun c => ⟨zbo_0, ?_⟩)
      · rw [if_pos c] at h1
        exact h1 _ rfl
      · rw [if_neg c] at h0
        exact h0 rfl
    · rw [a9] at hx h1 h0
      subst hx
      rw [if_pos rfl] at h1 h0
      refine ⟨fun c => absurd c (by decide), fun c => absurd c (by decide), fun c => absurd c (by decide), fun _ => ?_, fun _ _ _ c => absurd rfl c⟩
      exact xt_finish ht hd (by omega) hn n8 a5 a1 a6 (by omega) a7 a2 ⟨zbo_1, h1 _ rfl⟩
theorem sp_pos1 (v : Int32) : (0 : Int32) < (if v < 1 then 1 else v) := by
  split
  · decide
  · rename_i h1
    rw [Int32.not_lt] at h1
    exact Int32.lt_of_lt_of_le (show (0 : Int32) < 1 by decide) h1
theorem sp_ticks_pos (t h p : Nat) (ld : Int32) (M : zMem) : 0 < sp_ticks t h p ld M := sp_pos1 _
theorem sp_wl_nn {t b h f k : Nat} {M : zMem} (hf : f ≤ 8) (hk : M t 2 = nI k) (hk5 : k ≤ 5) (hp : 0 < h → M (b + 3) (h - 1) = -1 ∨ ∃ p, p < 8 ∧ M (b + 3) (h - 1) = nI p) : ∃ z, z ≤ 40 ∧ sp_wl t b h (nI f) M = nI z := by
  have key : ∀ w : Nat, w ≤ 8 → k * w ≤ 40 := fun w hw => by
    have : k * w ≤ 5 * 8 := Nat.mul_le_mul hk5 hw
    omega
  unfold sp_wl sp_way
  by_cases h0 : h = 0
  · refine ⟨0, by omega, ?_⟩
    rw [if_pos h0, if_neg (by decide)]
    rfl
  · rw [if_neg h0]
    rcases hp (by omega) with e | ⟨p, hp8, e⟩
    · rw [e, if_pos (show (-1 : Int32) < 0 by decide), hk]
      by_cases c : 0 < nI f
      · exact ⟨k * f, key f hf, by rw [if_pos c, q_mul]⟩
      · exact ⟨0, by omega, by rw [if_neg c]; rfl⟩
    · have e9 : ¬ nI p < 0 := by rw [Int32.not_lt]; exact nI_pos' (by omega)
      rw [e, if_neg e9, hk]
      rcases Nat.le_total p f with c | c
      · rw [q_sub c, q_mul]
        by_cases c2 : 0 < nI (f - p)
        · exact ⟨k * (f - p), key _ (by omega), by rw [if_pos c2]⟩
        · exact ⟨0, by omega, by rw [if_neg c2]; rfl⟩
      · refine ⟨0, by omega, ?_⟩
        rw [if_neg ?_]
        · rfl
        · rw [Int32.not_lt, Int32.le_iff_toInt_le, pk_sub_toInt (by omega) (by omega)]
          have : (0 : Int32).toInt = 0 := by decide
          omega
/-- what a step may change -/
def sp_fr (b : Nat) (M M' : zMem) : Prop := (∀ k, (k < b ∨ b + 9 ≤ k) → (b = 32 → k ≠ 30 ∧ k ≠ 31) → M' k = M k) ∧ M' b 0 = M b 0
theorem sp_fr.rf {b : Nat} {M : zMem} : sp_fr b M M := ⟨fun _ _ _ => rfl, rfl⟩
theorem sp_fr.tr {b : Nat} {M M1 M2 : zMem} (h1 : sp_fr b M M1) (h2 : sp_fr b M1 M2) : sp_fr b M M2 := ⟨fun k a c => (h2.1 k a c).trans (h1.1 k a c), h2.2.trans h1.2⟩
theorem sp_fr.up {b i j : Nat} {x : Int32} {M : zMem} (hi : i < 9) (h0 : i = 0 → j ≠ 0) : sp_fr b M (zup M (b + i) j x) := by
  refine ⟨fun k h _ => zup_ne (by omega), ?_⟩
  by_cases c : i = 0
  · subst c
    rw [Nat.add_zero, zup_eq, upd_ne (fun q => h0 rfl q.symm)]
  · rw [zup_ne (by omega)]
theorem sp_fr.up0 {b j : Nat} {x : Int32} {M : zMem} (h0 : j ≠ 0) : sp_fr b M (zup M b j x) := sp_fr.up (i := 0) (by omega) (fun _ => h0)
theorem sp_fr.told {b t : Nat} {M M' : zMem} (h : sp_fr b M M') (hb : 18 ≤ b) (ht : t + 4 < 18) : ∀ i, i ≤ 4 → M' (t + i) = M (t + i) := fun i hi => h.1 (t + i) (by omega) (fun _ => by omega)
theorem sp_fr_goBack {t b h : Nat} {f : Int32} {M : zMem} : sp_fr b M (sp_goBack t b h f M) := by
  unfold sp_goBack
  exact ((sp_fr.up (i := 3) (by omega) (by omega)).tr (sp_fr.up (i := 2) (by omega) (by omega))).tr (sp_fr.up (i := 1) (by omega) (by omega))
theorem sp_fr_note {b g : Nat} {a w p u s : Int32} {M : zMem} (hg : zlg b = some g) : sp_fr b M (sp_note g a w p u s M) := by
  rcases zlg_cases b with h | ⟨h, hb⟩
  · rw [h] at hg; cases hg
  · rw [h] at hg
    cases hg
    refine ⟨fun k _ h2 => e_note_ne (h2 hb).1 (h2 hb).2, ?_⟩
    rw [e_note_ne (by omega) (by omega)]
theorem sp_fr_finish {t b h : Nat} {M : zMem} : sp_fr b M (sp_finish t b h M) := by
  unfold sp_finish
  have h3 : sp_fr b M (zup (zup (zup M (b + 7) (h * 8 + ix (M (b + 3) h)) (M (b + 7) (h * 8 + ix (M (b + 3) h)) + 1)) (b + 1) h 2) (b + 4) h (M (b + 4) h + 1)) :=
    ((sp_fr.up (i := 7) (by omega) (by omega)).tr (sp_fr.up (i := 1) (by omega) (by omega))).tr (sp_fr.up (i := 4) (by omega) (by omega))
  dsimp only
  split
  · exact h3
  · split
    · exact (h3.tr (sp_fr.up (i := 3) (by omega) (by omega))).tr (sp_fr.up (i := 4) (by omega) (by omega))
    · exact (h3.tr (sp_fr.up0 (by omega))).tr sp_fr_goBack
theorem sp_fr_new {t b : Nat} {M : zMem} : sp_fr b M (sp_new t b M) := by
  unfold sp_new
  exact ((((sp_fr.up0 (by omega)).tr (sp_fr.up (i := 1) (by omega) (by omega))).tr (sp_fr.up (i := 3) (by omega) (by omega))).tr (sp_fr.up (i := 4) (by omega) (by omega))).tr (sp_fr.up (i := 5) (by omega) (by omega))
theorem sp_fr_take {t b h : Nat} {M : zMem} : sp_fr b M (sp_take t b h M) := by
  unfold sp_take
  have h5 : sp_fr b M (zup (zup (zup (zup (zup M (b + 1) h 2) (b + 3) h (M (b + 3) (h - 1))) (b + 4) h (M (b + 4) (h - 1))) (b + 5) h (M (b + 5) (h - 1))) b 4 (M b 4 + 1)) :=
    ((((sp_fr.up (i := 1) (by omega) (by omega)).tr (sp_fr.up (i := 3) (by omega) (by omega))).tr (sp_fr.up (i := 4) (by omega) (by omega))).tr (sp_fr.up (i := 5) (by omega) (by omega))).tr (sp_fr.up0 (by omega))
  dsimp only
  split
  · exact h5.tr sp_fr_goBack
  · rename_i g hg
    exact (h5.tr (sp_fr_note hg)).tr sp_fr_goBack
theorem sp_fr_start {t b h : Nat} {M : zMem} : sp_fr b M (sp_start t b h M) := (sp_fr.up (i := 1) (by omega) (by omega)).tr (sp_fr.up (i := 2) (by omega) (by omega))
theorem sp_fr_hand {t b h : Nat} {M M' : zMem} (e : sp_hand t b h M = some M') : sp_fr b M M' := by
  unfold sp_hand at e
  split at e
  · split at e
    · cases e; exact sp_fr_finish
    · split at e
      · split at e
        · cases e; exact sp_fr_new
        · split at e
          · cases e; exact sp_fr_take
          · cases e
      · split at e
        · split at e
          · cases e; exact sp_fr_start
          · cases e
        · cases e
  · cases e
/-- what is told stays told -/
theorem sp_vt.moved {M M' : zMem} {t n H L : Nat} (h : sp_vt M t n H L) (e : ∀ i, i ≤ 4 → M' (t + i) = M (t + i)) : sp_vt M' t n H L := by
  have e0 : M' t = M t := e 0 (by omega)
  unfold sp_vt at h ⊢
  rw [e0, e 1 (by omega), e 2 (by omega), e 3 (by omega), e 4 (by omega)]
  exact h
theorem sp_hd.moved {M M' : zMem} {t b n h : Nat} (hh : sp_hd M t b n h) (e : ∀ i, i ≤ 4 → M' (t + i) = M (t + i)) (q : ∀ i, 1 ≤ i → i ≤ 5 → M' (b + i) h = M (b + i) h) : sp_hd M' t b n h := by
  have e0 : M' t = M t := e 0 (by omega)
  unfold sp_hd at hh ⊢
  rw [e0, e 2 (by omega), e 4 (by omega), q 1 (by omega) (by omega), q 2 (by omega) (by omega), q 3 (by omega) (by omega), q 4 (by omega) (by omega), q 5 (by omega) (by omega)]
  exact hh
theorem sp_hd.piece {M : zMem} {t b n h : Nat} (hh : sp_hd M t b n h) (hn : n ≤ 8) : M (b + 3) h = -1 ∨ ∃ p, p < 8 ∧ M (b + 3) h = nI p := by
  rcases hh with ⟨-, -, a⟩ | ⟨-, -, a⟩ | ⟨p, u, s, U, a1, -, -, -, a5, -⟩
  · exact Or.inl a
  · exact Or.inl a
  · exact Or.inr ⟨p, by omega, a5⟩
theorem sp_hd_goBack {t b h n f k : Nat} {M : zMem} (hd : t + 4 < b) (hf : f ≤ 8) (hk : M t 2 = nI k) (hk5 : k ≤ 5) (hp : 0 < h → M (b + 3) (h - 1) = -1 ∨ ∃ p, p < 8 ∧ M (b + 3) (h - 1) = nI p) : sp_hd (sp_goBack t b h (nI f) M) t b n h := by
  obtain ⟨z, hz, ez⟩ := sp_wl_nn (b := b) hf hk hk5 hp
  unfold sp_goBack sp_hd
  rw [ez]
  by_cases c : z = 0
  · subst c
    left
    simp (disch := omega) [q_lit, q_add, q_mul, q_sub, q_ix, q_in, q_lt, q_le, q_eq, q_nlt, q_nle, q_ltn, q_len, q_neq, q_eqn, zup_ne, zup_eq, zset_ne, zset_eq, upd_eq, upd_ne, forall_eq, true_and, and_true, true_implies, false_implies, implies_true, not_true_eq_false, not_false_eq_true, and_self, ↓reduceIte, false_and, and_false]
  · right; left
    have c2 : 0 < z := by omega
    simp (disch := omega) [q_lit, q_add, q_mul, q_sub, q_ix, q_in, q_lt, q_le, q_eq, q_nlt, q_nle, q_ltn, q_len, q_neq, q_eqn, zup_ne, zup_eq, zset_ne, zset_eq, upd_eq, upd_ne, forall_eq, true_and, and_true, true_implies, false_implies, implies_true, not_true_eq_false, not_false_eq_true, and_self, ↓reduceIte, false_and, and_false, c2]
theorem sp_goBack_at {t b h : Nat} {f : Int32} {M : zMem} {i j : Nat} (h1 : i = 0 ∨ 4 ≤ i ∨ j ≠ h) : sp_goBack t b h f M (b + i) j = M (b + i) j := by
  unfold sp_goBack
  rcases h1 with h1 | h1 | h1
  · subst h1
    simp (disch := omega) only [q_lit, q_add, q_mul, q_sub, q_ix, q_in, q_lt, q_le, q_eq, q_nlt, q_nle, q_ltn, q_len, q_neq, q_eqn, zup_ne, zup_eq, zset_ne, zset_eq, upd_eq, upd_ne, forall_eq, true_and, and_true, true_implies, false_implies, implies_true, not_true_eq_false, not_false_eq_true, and_self, ↓reduceIte, false_and, and_false]
  · simp (disch := omega) only [q_lit, q_add, q_mul, q_sub, q_ix, q_in, q_lt, q_le, q_eq, q_nlt, q_nle, q_ltn, q_len, q_neq, q_eqn, zup_ne, zup_eq, zset_ne, zset_eq, upd_eq, upd_ne, forall_eq, true_and, and_true, true_implies, false_implies, implies_true, not_true_eq_false, not_false_eq_true, and_self, ↓reduceIte, false_and, and_false]
  · by_cases c1 : i = 1
    · subst c1; simp (disch := omega) only [q_lit, q_add, q_mul, q_sub, q_ix, q_in, q_lt, q_le, q_eq, q_nlt, q_nle, q_ltn, q_len, q_neq, q_eqn, zup_ne, zup_eq, zset_ne, zset_eq, upd_eq, upd_ne, forall_eq, true_and, and_true, true_implies, false_implies, implies_true, not_true_eq_false, not_false_eq_true, and_self, ↓reduceIte, false_and, and_false]
    · by_cases c2 : i = 2
      · subst c2; simp (disch := omega) only [q_lit, q_add, q_mul, q_sub, q_ix, q_in, q_lt, q_le, q_eq, q_nlt, q_nle, q_ltn, q_len, q_neq, q_eqn, zup_ne, zup_eq, zset_ne, zset_eq, upd_eq, upd_ne, forall_eq, true_and, and_true, true_implies, false_implies, implies_true, not_true_eq_false, not_false_eq_true, and_self, ↓reduceIte, false_and, and_false]
      · by_cases c3 : i = 3
        · subst c3; simp (disch := omega) only [q_lit, q_add, q_mul, q_sub, q_ix, q_in, q_lt, q_le, q_eq, q_nlt, q_nle, q_ltn, q_len, q_neq, q_eqn, zup_ne, zup_eq, zset_ne, zset_eq, upd_eq, upd_ne, forall_eq, true_and, and_true, true_implies, false_implies, implies_true, not_true_eq_false, not_false_eq_true, and_self, ↓reduceIte, false_and, and_false]
        · simp (disch := omega) only [q_lit, q_add, q_mul, q_sub, q_ix, q_in, q_lt, q_le, q_eq, q_nlt, q_nle, q_ltn, q_len, q_neq, q_eqn, zup_ne, zup_eq, zset_ne, zset_eq, upd_eq, upd_ne, forall_eq, true_and, and_true, true_implies, false_implies, implies_true, not_true_eq_false, not_false_eq_true, and_self, ↓reduceIte, false_and, and_false]
def sp_c (M : zMem) (b h : Nat) : Nat := if M (b + 1) h = 0 then h + 2 else if M (b + 1) h = 2 then 1 else if M (b + 1) h = 3 ∧ M (b + 2) h = 0 then h + 3 else 0
def sp_sum (c : Nat → Nat) : Nat → Nat
  | 0 => 0
  | h + 1 => c h + sp_sum c h
theorem sp_sum_eq {c c' : Nat → Nat} : ∀ H, (∀ j, j < H → c' j = c j) → sp_sum c' H = sp_sum c H := by
  intro H
  induction H with
  | zero => intro _; rfl
  | succ H ih =>
    intro h
    unfold sp_sum
    rw [h H (by omega), ih (fun j hj => h j (by omega))]
theorem sp_sum_lt1 {c c' : Nat → Nat} {h : Nat} (h1 : c' h < c h) (h2 : ∀ j, j ≠ h → c' j = c j) : ∀ H, h < H → sp_sum c' H < sp_sum c H := by
  intro H
  induction H with
  | zero => intro hh; omega
  | succ H ih =>
    intro hh
    unfold sp_sum
    by_cases e : h = H
    · subst e
      rw [sp_sum_eq (c := c) h (fun j hj => h2 j (by omega))]
      omega
    · have := ih (by omega)
      rw [h2 H (fun q => e q.symm)]
      omega
theorem sp_sum_lt2 {c c' : Nat → Nat} {h : Nat} (h0 : 0 < h) (h1 : c' h + c' (h - 1) < c h + c (h - 1)) (h2 : ∀ j, j ≠ h → j ≠ h - 1 → c' j = c j) : ∀ H, h < H → sp_sum c' H < sp_sum c H := by
  intro H
  induction H with
  | zero => intro hh; omega
  | succ H ih =>
    intro hh
    unfold sp_sum
    by_cases e : h = H
    · subst e
      obtain ⟨k, rfl⟩ : ∃ k, h = k + 1 := ⟨h - 1, by omega⟩
      unfold sp_sum
      rw [sp_sum_eq (c := c) k (fun j hj => h2 j (by omega) (by omega))]
      simp only [Nat.add_sub_cancel] at h1
      omega
    · have := ih (by omega)
      rw [h2 H (fun q => e q.symm) (by omega)]
      omega
theorem sp_c_eq {M M' : zMem} {b j : Nat} (h1 : M' (b + 1) j = M (b + 1) j) (h2 : M' (b + 2) j = M (b + 2) j) : sp_c M' b j = sp_c M b j := by
  unfold sp_c
  rw [h1, h2]
/-- what stays: the place in the row is well, the log is well -/
theorem sp_ok.of {M M' : zMem} {t b n H L : Nat} (ok : sp_ok M t b n H L) (fr : sp_fr b M M') (hpl : ∃ pl, pl < L ∧ M' b 5 = nI pl) (hhd : ∀ h, h < H → sp_hd M' t b n h) (hg : ∀ g, zlg b = some g → ∃ z, M' g 0 = nI z ∧ z ≤ 600) : sp_ok M' t b n H L := by
  obtain ⟨ht, hd2, hb18, vt, -, -, -⟩ := ok
  exact ⟨by rw [fr.2]; exact ht, hd2, hb18, vt.moved (fr.told hb18 hd2), hpl, hhd, hg⟩
theorem sp_step_start {M : zMem} {t b n H L h : Nat} (ok : sp_ok M t b n H L) (hh : h < H) (h2 : M (b + 1) h = 2) (hm : sp_may t b h M) : sp_ok (sp_start t b h M) t b n H L ∧ sp_sum (sp_c (sp_start t b h M) b) H < sp_sum (sp_c M b) H := by
  have fr := sp_fr_start (t := t) (b := b) (h := h) (M := M)
  obtain ⟨ht, hd2, hb18, vt, hpl, hhd, hg⟩ := id ok
  have hb : t + 4 < b := by omega
  have q1 : ∀ i j, i ≠ 1 → i ≠ 2 → sp_start t b h M (b + i) j = M (b + i) j := fun i j a c => by
    unfold sp_start
    simp (disch := omega) only [q_lit, q_add, q_mul, q_sub, q_ix, q_in, q_lt, q_le, q_eq, q_nlt, q_nle, q_ltn, q_len, q_neq, q_eqn, zup_ne, zup_eq, zset_ne, zset_eq, upd_eq, upd_ne, forall_eq, true_and, and_true, true_implies, false_implies, implies_true, not_true_eq_false, not_false_eq_true, and_self, ↓reduceIte, false_and, and_false]
  have q2 : ∀ i j, j ≠ h → sp_start t b h M (b + i) j = M (b + i) j := fun i j a => by
    by_cases c1 : i = 1
    · subst c1; unfold sp_start; simp (disch := omega) only [q_lit, q_add, q_mul, q_sub, q_ix, q_in, q_lt, q_le, q_eq, q_nlt, q_nle, q_ltn, q_len, q_neq, q_eqn, zup_ne, zup_eq, zset_ne, zset_eq, upd_eq, upd_ne, forall_eq, true_and, and_true, true_implies, false_implies, implies_true, not_true_eq_false, not_false_eq_true, and_self, ↓reduceIte, false_and, and_false]
    · by_cases c2 : i = 2
      · subst c2; unfold sp_start; simp (disch := omega) only [q_lit, q_add, q_mul, q_sub, q_ix, q_in, q_lt, q_le, q_eq, q_nlt, q_nle, q_ltn, q_len, q_neq, q_eqn, zup_ne, zup_eq, zset_ne, zset_eq, upd_eq, upd_ne, forall_eq, true_and, and_true, true_implies, false_implies, implies_true, not_true_eq_false, not_false_eq_true, and_self, ↓reduceIte, false_and, and_false]
      · exact q1 i j c1 c2
  have q3 : sp_start t b h M (b + 1) h = 3 := by unfold sp_start; simp (disch := omega) only [zup_ne, zup_eq, upd_eq]
  have q4 : 0 < sp_start t b h M (b + 2) h := by
    unfold sp_start
    simp (disch := omega) only [zup_eq, upd_eq]
    exact sp_ticks_pos _ _ _ _ _
  refine ⟨ok.of fr ?_ ?_ ?_, ?_⟩
  · have e := q1 0 5 (by omega) (by omega)
    rw [Nat.add_zero] at e
    rw [e]
    exact hpl
  · intro j hj
    by_cases e : j = h
    · subst e
      rcases hhd j hj with ⟨a1, -⟩ | ⟨a1, -⟩ | ⟨p, u, s, U, a1, a2, a3, a4, a5, a6, a7, a8, a9, a10⟩
      · rw [h2] at a1; exact absurd a1 (by decide)
      · rw [h2] at a1; exact absurd a1 (by decide)
      · refine Or.inr (Or.inr ⟨p, u, s, U, a1, a2, a3, a4, ?_, ?_, ?_, ?_, Or.inr ⟨q3, Int32.le_of_lt q4⟩, fun _ => ?_⟩)
        · rw [q1 3 j (by omega) (by omega)]; exact a5
        · rw [q1 4 j (by omega) (by omega)]; exact a6
        · rw [q1 5 j (by omega) (by omega)]; exact a7
        · rw [fr.told hb18 hd2 2 (by omega)]; exact a8
        · rw [fr.told hb18 hd2 4 (by omega), ← a5]; exact hm.1
    · exact (hhd j hj).moved (fr.told hb18 hd2) (fun i _ _ => q2 i j e)
  · intro g hg1
    rcases zlg_cases b with c | ⟨c, hb32⟩
    · rw [c] at hg1; cases hg1
    · rw [c] at hg1
      cases hg1
      obtain ⟨z, z1, z2⟩ := hg 30 c
      refine ⟨z, ?_, z2⟩
      unfold sp_start
      simp (disch := omega) only [zup_ne]
      exact z1
  · refine sp_sum_lt1 (h := h) ?_ (fun j e => sp_c_eq (q2 1 j e) (q2 2 j e)) H hh
    unfold sp_c
    rw [q3, h2]
    have : ¬ sp_start t b h M (b + 2) h = 0 := fun e => by rw [e] at q4; exact absurd q4 (by decide)
    simp [this]
theorem sp_keep_log {M M' : zMem} {b : Nat} (hg : ∀ g, zlg b = some g → ∃ z, M g 0 = nI z ∧ z ≤ 600) (e : b = 32 → M' 30 = M 30) : ∀ g, zlg b = some g → ∃ z, M' g 0 = nI z ∧ z ≤ 600 := by
  intro g hg1
  rcases zlg_cases b with c | ⟨c, hb32⟩
  · rw [c] at hg1; cases hg1
  · rw [c] at hg1
    cases hg1
    obtain ⟨z, z1, z2⟩ := hg 30 c
    exact ⟨z, by rw [e hb32]; exact z1, z2⟩
theorem nI_0lt {u : Nat} (h : u < 2147483648) : (0 : Int32) < nI u ↔ 0 < u := by
  have := nI_ltI (a := 0) (b := u) (by omega) h
  exact this
theorem sp_step_new {M : zMem} {t b n H L : Nat} (ok : sp_ok M t b n H L) (h2 : M (b + 1) 0 = 0) (hl : M (b + 2) 0 = 0) : sp_ok (sp_new t b M) t b n H L ∧ sp_sum (sp_c (sp_new t b M) b) H < sp_sum (sp_c M b) H := by
  have fr := sp_fr_new (t := t) (b := b) (M := M)
  obtain ⟨ht, hd2, hb18, vt, ⟨pl, hpl, hpl2⟩, hhd, hg⟩ := id ok
  obtain ⟨⟨n1, n8, H1, H5, L1, L6⟩, hn, hH, hL, -, -, -, -, hrow, hun, hpf, -, -, -, -⟩ := id vt
  have hb : t + 4 < b := by omega
  obtain ⟨s, hs3, hs⟩ := hrow pl hpl
  have e1 : ix (M b 5) = pl := by rw [hpl2]; exact q_ix (by omega)
  have e2 : ix (M (t + 1) pl) = s := by rw [hs]; exact q_ix (by omega)
  have e3 : ix (M t 0) = n := by rw [hn]; exact q_ix (by omega)
  have hq := hpf s hs3
  have hq2 := sp_pf_pos (fun i => M (t + 2) (s * 8 + i)) n 0 (by omega)
  generalize hqd : sp_pf (fun i => M (t + 2) (s * 8 + i)) n 0 = q at hq hq2
  have en : sp_new t b M = zup (zup (zup (zup (zup M b 5 (if M t 6 ≤ M b 5 + 1 then 0 else M b 5 + 1)) (b + 1) 0 2) (b + 3) 0 (nI q)) (b + 4) 0 0) (b + 5) 0 (nI s) := by
    unfold sp_new
    dsimp only
    rw [e1, e2, e3, hqd, hs]
  rw [en] at fr ⊢
  generalize hpx : (if M t 6 ≤ M b 5 + 1 then (0 : Int32) else M b 5 + 1) = px at fr ⊢
  have hpx2 : ∃ pl', pl' < L ∧ px = nI pl' := by
    rw [hL, hpl2, nI_1] at hpx
    by_cases c : L ≤ pl + 1
    · rw [if_pos (nI_le c (by omega))] at hpx
      exact ⟨0, by omega, by rw [← hpx]; rfl⟩
    · rw [if_neg (by rw [Int32.not_le]; exact nI_lt (by omega) (by omega))] at hpx
      exact ⟨pl + 1, by omega, hpx.symm⟩
  refine ⟨ok.of fr ?_ ?_ ?_, ?_⟩
  · simp (disch := omega) only [zup_ne, zup_eq, upd_eq]
    exact hpx2
  · intro j hj
    by_cases e : j = 0
    · subst e
      obtain ⟨U, hU6, hU⟩ := hun s q hs3 hq
      have hq3 : 0 < nI U := by rw [← hU]; exact hq2
      have hU0 : 0 < U := (nI_0lt (by omega)).mp hq3
      refine Or.inr (Or.inr ⟨q, 0, s, U, hq, hs3, hU0, hU6, ?_, ?_, ?_, ?_, Or.inl ⟨?_, ?_⟩, fun c => ?_⟩)
      · simp (disch := omega) only [zup_ne, zup_eq, upd_eq]
      · simp (disch := omega) only [zup_ne, zup_eq, upd_eq]; rfl
      · simp (disch := omega) only [zup_ne, zup_eq, upd_eq]
      · simp (disch := omega) only [zup_ne, zup_eq, upd_eq]; exact hU
      · simp (disch := omega) only [zup_ne, zup_eq, upd_eq]
      · simp (disch := omega) only [zup_ne, zup_eq, upd_eq]; exact hl
      · simp (disch := omega) only [zup_ne, zup_eq, upd_eq] at c
        rcases c with c | c
        · exact absurd c (by decide)
        · exact absurd c.1 (by omega)
    · refine (hhd j hj).moved (fr.told hb18 hd2) (fun i i1 i5 => ?_)
      rcases (show i = 1 ∨ i = 2 ∨ i = 3 ∨ i = 4 ∨ i = 5 by omega) with rfl | rfl | rfl | rfl | rfl <;> simp (disch := omega) only [zup_ne, zup_eq, upd_ne]
  · refine sp_keep_log hg (fun hb32 => ?_)
    simp (disch := omega) only [zup_ne]
  · refine sp_sum_lt1 (h := 0) ?_ (fun j e => sp_c_eq ?_ ?_) H (by omega)
    · unfold sp_c
      simp (disch := omega) only [zup_ne, zup_eq, upd_eq, h2]
      simp
    · simp (disch := omega) only [zup_ne, zup_eq, upd_ne]
    · simp (disch := omega) only [zup_ne, zup_eq, upd_ne]
theorem sp_c_goBack {t b h n f k : Nat} {M : zMem} (hf : f ≤ 8) (hk : M t 2 = nI k) (hk5 : k ≤ 5) (hp : 0 < h → M (b + 3) (h - 1) = -1 ∨ ∃ p, p < 8 ∧ M (b + 3) (h - 1) = nI p) : sp_c (sp_goBack t b h (nI f) M) b h ≤ h + 2 := by
  obtain ⟨z, hz, ez⟩ := sp_wl_nn (b := b) hf hk hk5 hp
  unfold sp_goBack sp_c
  rw [ez]
  by_cases c : z = 0
  · subst c
    simp (disch := omega) [q_lit, q_add, q_mul, q_sub, q_ix, q_in, q_lt, q_le, q_eq, q_nlt, q_nle, q_ltn, q_len, q_neq, q_eqn, zup_ne, zup_eq, zset_ne, zset_eq, upd_eq, upd_ne, forall_eq, true_and, and_true, true_implies, false_implies, implies_true, not_true_eq_false, not_false_eq_true, and_self, ↓reduceIte, false_and, and_false]
  · have c2 : 0 < z := by omega
    simp (disch := omega) [q_lit, q_add, q_mul, q_sub, q_ix, q_in, q_lt, q_le, q_eq, q_nlt, q_nle, q_ltn, q_len, q_neq, q_eqn, zup_ne, zup_eq, zset_ne, zset_eq, upd_eq, upd_ne, forall_eq, true_and, and_true, true_implies, false_implies, implies_true, not_true_eq_false, not_false_eq_true, and_self, ↓reduceIte, false_and, and_false, c2]
theorem sp_step_finish {M : zMem} {t b n H L h : Nat} (ok : sp_ok M t b n H L) (hh : h < H) (h3 : M (b + 1) h = 3) (hl : M (b + 2) h = 0) : sp_ok (sp_finish t b h M) t b n H L ∧ sp_sum (sp_c (sp_finish t b h M) b) H < sp_sum (sp_c M b) H := by
  have fr := sp_fr_finish (t := t) (b := b) (h := h) (M := M)
  obtain ⟨ht, hd2, hb18, vt, hpl, hhd, hg⟩ := id ok
  obtain ⟨⟨n1, n8, H1, H5, L1, L6⟩, hn, hH, hL, ⟨wk, hwk5, hwk⟩, -, -, -, hrow, hun, hpf, -, -, -, -⟩ := id vt
  have hb : t + 4 < b := by omega
  rcases hhd h hh with ⟨a1, -⟩ | ⟨a1, -⟩ | ⟨p, u, s, U, a1, a2, a3, a4, a5, a6, a7, a8, a9, a10⟩
  · rw [h3] at a1; exact absurd a1 (by decide)
  · rw [h3] at a1; exact absurd a1 (by decide)
  have hend := a10 (Or.inl h3)
  have e1 : ix (M (b + 3) h) = p := by rw [a5]; exact q_ix (by omega)
  have e2 : ix (M (b + 5) h) = s := by rw [a7]; exact q_ix (by omega)
  have e3 : ix (M t 0) = n := by rw [hn]; exact q_ix (by omega)
  have ch : sp_c M b h = h + 3 := by unfold sp_c; rw [h3, hl]; simp
  unfold sp_finish at fr ⊢
  dsimp only at fr ⊢
  rw [e1, e2, e3, a6, a8, nI_1] at fr ⊢
  generalize hM3 : zup (zup (zup M (b + 7) (h * 8 + p) (M (b + 7) (h * 8 + p) + 1)) (b + 1) h 2) (b + 4) h (nI (u + 1)) = M3 at fr ⊢
  have fr3 : sp_fr b M M3 := by
    rw [← hM3]
    exact ((sp_fr.up (i := 7) (by omega) (by omega)).tr (sp_fr.up (i := 1) (by omega) (by omega))).tr (sp_fr.up (i := 4) (by omega) (by omega))
  have r0 : ∀ j, M3 b j = M b j := fun j => by rw [← hM3]; simp (disch := omega) only [zup_ne]
  have r1 : M3 (b + 1) h = 2 := by rw [← hM3]; simp (disch := omega) only [zup_ne, zup_eq, upd_eq]
  have r4 : M3 (b + 4) h = nI (u + 1) := by rw [← hM3]; simp (disch := omega) only [zup_ne, zup_eq, upd_eq]
  have r2 : ∀ j, M3 (b + 2) j = M (b + 2) j := fun j => by rw [← hM3]; simp (disch := omega) only [zup_ne]
  have r3 : ∀ j, M3 (b + 3) j = M (b + 3) j := fun j => by rw [← hM3]; simp (disch := omega) only [zup_ne]
  have r5 : ∀ j, M3 (b + 5) j = M (b + 5) j := fun j => by rw [← hM3]; simp (disch := omega) only [zup_ne]
  have rj : ∀ i j, 1 ≤ i → i ≤ 5 → j ≠ h → M3 (b + i) j = M (b + i) j := fun i j i1 i5 hj => by
    rw [← hM3]
    rcases (show i = 1 ∨ i = 2 ∨ i = 3 ∨ i = 4 ∨ i = 5 by omega) with rfl | rfl | rfl | rfl | rfl <;> simp (disch := omega) only [zup_ne, zup_eq, upd_ne]
  have r30 : b = 32 → M3 30 = M 30 := fun _ => by rw [← hM3]; simp (disch := omega) only [zup_ne]
  clear hM3
  by_cases c : nI (u + 1) < nI U
  · rw [if_pos c] at fr ⊢
    refine ⟨ok.of fr (by rw [r0]; exact hpl) (fun j hj => ?_) (sp_keep_log hg r30), ?_⟩
    · by_cases e : j = h
      · subst e
        refine Or.inr (Or.inr ⟨p, u + 1, s, U, a1, a2, ?_, a4, ?_, r4, ?_, ?_, Or.inl ⟨r1, ?_⟩, fun _ => ?_⟩)
        · exact (nI_ltI (by omega) (by omega)).mp c
        · rw [r3]; exact a5
        · rw [r5]; exact a7
        · rw [fr.told hb18 hd2 2 (by omega)]; exact a8
        · rw [r2]; exact hl
        · rw [fr.told hb18 hd2 4 (by omega)]; exact hend
      · exact (hhd j hj).moved (fr.told hb18 hd2) (fun i i1 i5 => rj i j i1 i5 e)
    · refine sp_sum_lt1 (h := h) ?_ (fun j e => sp_c_eq (rj 1 j (by omega) (by omega) e) (rj 2 j (by omega) (by omega) e)) H hh
      rw [ch]
      unfold sp_c
      rw [r1]
      simp
  · rw [if_neg c] at fr ⊢
    have hq1 := sp_pf_le (fun i => M (t + 2) (s * 8 + i)) (n - (p + 1)) (p + 1)
    have hq2 := sp_pf_pos (fun i => M (t + 2) (s * 8 + i)) (n - (p + 1)) (p + 1)
    generalize sp_pf (fun i => M (t + 2) (s * 8 + i)) (n - (p + 1)) (p + 1) = q at hq1 hq2 fr ⊢
    by_cases cq : q < n
    · rw [if_pos cq] at fr ⊢
      obtain ⟨U', hU6, hU⟩ := hun s q a2 cq
      have hq3 : 0 < nI U' := by rw [← hU]; exact hq2 (by omega)
      have hU0 : 0 < U' := (nI_0lt (by omega)).mp hq3
      refine ⟨ok.of fr ?_ (fun j hj => ?_) (sp_keep_log hg (fun h32 => ?_)), ?_⟩
      · simp (disch := omega) only [zup_ne]
        rw [r0]; exact hpl
      · by_cases e : j = h
        · subst e
          refine Or.inr (Or.inr ⟨q, 0, s, U', cq, a2, hU0, hU6, ?_, ?_, ?_, ?_, Or.inl ⟨?_, ?_⟩, fun d => ?_⟩)
          · simp (disch := omega) only [zup_ne, zup_eq, upd_eq]
          · simp (disch := omega) only [zup_ne, zup_eq, upd_eq]; rfl
          · simp (disch := omega) only [zup_ne, zup_eq, upd_eq]; rw [r5]; exact a7
          · rw [fr.told hb18 hd2 2 (by omega)]; exact hU
          · simp (disch := omega) only [zup_ne, zup_eq, upd_eq]; exact r1
          · simp (disch := omega) only [zup_ne, zup_eq, upd_eq]; rw [r2]; exact hl
          · simp (disch := omega) only [zup_ne, zup_eq, upd_eq, r1] at d
            rcases d with d | d
            · exact absurd d (by decide)
            · exact absurd d.1 (by omega)
        · refine (hhd j hj).moved (fr.told hb18 hd2) (fun i i1 i5 => ?_)
          rw [← rj i j i1 i5 e]
          rcases (show i = 1 ∨ i = 2 ∨ i = 3 ∨ i = 4 ∨ i = 5 by omega) with rfl | rfl | rfl | rfl | rfl <;> simp (disch := omega) only [zup_ne, zup_eq, upd_ne]
      · simp (disch := omega) only [zup_ne]
        exact r30 h32
      · refine sp_sum_lt1 (h := h) ?_ (fun j e => sp_c_eq ?_ ?_) H hh
        · rw [ch]
          unfold sp_c
          simp (disch := omega) only [zup_ne, r1]
          simp
        · simp (disch := omega) only [zup_ne]; exact rj 1 j (by omega) (by omega) e
        · simp (disch := omega) only [zup_ne]; exact rj 2 j (by omega) (by omega) e
    · rw [if_neg cq] at fr ⊢
      generalize hM4 : zup M3 b 3 (M b 3 + 1) = M4 at fr ⊢
      have s0 : M4 b 5 = M b 5 := by rw [← hM4]; simp (disch := omega) only [zup_eq, upd_ne, r0]
      have sj : ∀ i j, 1 ≤ i → M4 (b + i) j = M3 (b + i) j := fun i j i1 => by rw [← hM4]; simp (disch := omega) only [zup_ne]
      have st : ∀ i, i ≤ 4 → M4 (t + i) = M (t + i) := fun i hi => by rw [← hM4]; simp (disch := omega) only [zup_ne]; exact fr3.told hb18 hd2 i hi
      have st2 : M4 t 2 = nI wk := by rw [show M4 t = M t from st 0 (by omega)]; exact hwk
      have s30 : b = 32 → M4 30 = M 30 := fun h32 => by rw [← hM4]; simp (disch := omega) only [zup_ne]; exact r30 h32
      clear hM4
      have hp : 0 < h → M4 (b + 3) (h - 1) = -1 ∨ ∃ p, p < 8 ∧ M4 (b + 3) (h - 1) = nI p := fun h0 => by
        rw [sj 3 _ (by omega), r3]
        exact (hhd (h - 1) (by omega)).piece n8
      refine ⟨ok.of fr ?_ (fun j hj => ?_) (sp_keep_log hg (fun h32 => ?_)), ?_⟩
      · have := sp_goBack_at (t := t) (b := b) (h := h) (f := nI n) (M := M4) (i := 0) (j := 5) (Or.inl rfl)
        rw [Nat.add_zero] at this
        rw [this, s0]
        exact hpl
      · by_cases e : j = h
        · subst e
          exact sp_hd_goBack hb n8 st2 hwk5 hp
        · refine (hhd j hj).moved (fr.told hb18 hd2) (fun i i1 i5 => ?_)
          rw [sp_goBack_at (Or.inr (Or.inr e)), sj i j i1, rj i j i1 i5 e]
      · rw [show sp_goBack t b h (nI n) M4 30 = M4 30 by unfold sp_goBack; simp (disch := omega) only [zup_ne]]
        exact s30 h32
      · refine sp_sum_lt1 (h := h) ?_ (fun j e => sp_c_eq ?_ ?_) H hh
        · rw [ch]
          have := sp_c_goBack (t := t) (b := b) (h := h) (n := n) (M := M4) n8 st2 hwk5 hp
          omega
        · rw [sp_goBack_at (Or.inr (Or.inr e)), sj 1 j (by omega), rj 1 j (by omega) (by omega) e]
        · rw [sp_goBack_at (Or.inr (Or.inr e)), sj 2 j (by omega), rj 2 j (by omega) (by omega) e]

theorem sp_step_take {M : zMem} {t b n H L h : Nat} (ok : sp_ok M t b n H L) (h0 : 0 < h) (hh : h < H) (hr : M (b + 1) h = 0) (hl : M (b + 2) h = 0) (h2 : M (b + 1) (h - 1) = 2) (hc : sp_can t b (h - 1) M) : sp_ok (sp_take t b h M) t b n H L ∧ sp_sum (sp_c (sp_take t b h M) b) H < sp_sum (sp_c M b) H := by
  have fr := sp_fr_take (t := t) (b := b) (h := h) (M := M)
  obtain ⟨ht, hd2, hb18, vt, hpl, hhd, hg⟩ := id ok
  obtain ⟨⟨n1, n8, H1, H5, L1, L6⟩, hn, hH, hL, ⟨wk, hwk5, hwk⟩, -, -, -, hrow, hun, hpf, -, -, -, -⟩ := id vt
  have hb : t + 4 < b := by omega
  have hne : h - 1 ≠ h := by omega
  rcases hhd (h - 1) (by omega) with ⟨a1, -⟩ | ⟨a1, -⟩ | ⟨p, u, s, U, a1, a2, a3, a4, a5, a6, a7, a8, a9, a10⟩
  · rw [h2] at a1; exact absurd a1 (by decide)
  · rw [h2] at a1; exact absurd a1 (by decide)
  have chh : sp_c M b h = h + 2 := by unfold sp_c; rw [hr]; simp
  have ch1 : sp_c M b (h - 1) = 1 := by unfold sp_c; rw [h2]; simp
  -- the memory ahead of going back
  have key : ∃ M5 : zMem, sp_take t b h M = sp_goBack t b (h - 1) (nI p) M5 ∧ sp_fr b M M5 ∧ M5 b 5 = M b 5 ∧ M5 (b + 1) h = 2 ∧ (∀ j, M5 (b + 2) j = M (b + 2) j) ∧ M5 (b + 3) h = nI p ∧ M5 (b + 4) h = nI u ∧ M5 (b + 5) h = nI s ∧ (∀ i j, 1 ≤ i → i ≤ 5 → j ≠ h → M5 (b + i) j = M (b + i) j) ∧ (∀ g, zlg b = some g → ∃ z, M5 g 0 = nI z ∧ z ≤ 600) := by
    generalize hM5 : zup (zup (zup (zup (zup M (b + 1) h 2) (b + 3) h (nI p)) (b + 4) h (nI u)) (b + 5) h (nI s)) b 4 (M b 4 + 1) = M5
    have f5 : sp_fr b M M5 := by
      rw [← hM5]
      exact ((((sp_fr.up (i := 1) (by omega) (by omega)).tr (sp_fr.up (i := 3) (by omega) (by omega))).tr (sp_fr.up (i := 4) (by omega) (by omega))).tr (sp_fr.up (i := 5) (by omega) (by omega))).tr (sp_fr.up0 (by omega))
    have g0 : M5 b 5 = M b 5 := by rw [← hM5]; simp (disch := omega) only [zup_ne, zup_eq, upd_ne]
    have g1 : M5 (b + 1) h = 2 := by rw [← hM5]; simp (disch := omega) only [zup_ne, zup_eq, upd_eq]
    have g2 : ∀ j, M5 (b + 2) j = M (b + 2) j := fun j => by rw [← hM5]; simp (disch := omega) only [zup_ne]
    have g3 : M5 (b + 3) h = nI p := by rw [← hM5]; simp (disch := omega) only [zup_ne, zup_eq, upd_eq]
    have g4 : M5 (b + 4) h = nI u := by rw [← hM5]; simp (disch := omega) only [zup_ne, zup_eq, upd_eq]
    have g5 : M5 (b + 5) h = nI s := by rw [← hM5]; simp (disch := omega) only [zup_ne, zup_eq, upd_eq]
    have gj : ∀ i j, 1 ≤ i → i ≤ 5 → j ≠ h → M5 (b + i) j = M (b + i) j := fun i j i1 i5 hj => by
      rw [← hM5]
      rcases (show i = 1 ∨ i = 2 ∨ i = 3 ∨ i = 4 ∨ i = 5 by omega) with rfl | rfl | rfl | rfl | rfl <;> simp (disch := omega) only [zup_ne, zup_eq, upd_ne]
    have g30 : b = 32 → M5 30 = M 30 := fun _ => by rw [← hM5]; simp (disch := omega) only [zup_ne]
    unfold sp_take
    dsimp only
    rw [a5, a6, a7, hM5]
    rcases zlg_cases b with c | ⟨c, hb32⟩
    · rw [c]
      exact ⟨M5, rfl, f5, g0, g1, g2, g3, g4, g5, gj, fun g q => by cases q⟩
    · rw [c]
      dsimp only
      obtain ⟨z, z1, z2⟩ := hg 30 c
      have z3 : M5 30 0 = nI z := by rw [g30 hb32]; exact z1
      have nk : ∀ i, sp_note 30 (M b 2) (nI h) (nI p) (nI u) (nI s) M5 (b + i) = M5 (b + i) := fun i => e_note_ne (by omega) (by omega)
      have nk0 : sp_note 30 (M b 2) (nI h) (nI p) (nI u) (nI s) M5 b = M5 b := e_note_ne (by omega) (by omega)
      refine ⟨sp_note 30 (M b 2) (nI h) (nI p) (nI u) (nI s) M5, rfl, f5.tr (sp_fr_note c), by rw [nk0]; exact g0, by rw [nk]; exact g1, fun j => by rw [nk]; exact g2 j, by rw [nk]; exact g3, by rw [nk]; exact g4, by rw [nk]; exact g5, fun i j i1 i5 hj => by rw [nk]; exact gj i j i1 i5 hj, fun g q => ?_⟩
      cases q
      unfold sp_note
      rw [z3]
      by_cases cz : z < 600
      · rw [if_pos (show nI z < 600 from nI_lt (a := z) (b := 600) cz (by omega))]
        refine ⟨z + 1, ?_, by omega⟩
        simp (disch := omega) only [zup_eq, upd_eq, nI_1]
      · rw [if_neg (show ¬ nI z < 600 by rw [Int32.not_lt]; exact nI_le (a := 600) (by omega) (by omega))]
        exact ⟨z, z3, z2⟩
  obtain ⟨M5, eM5, f5, g0, g1, g2, g3, g4, g5, gj, g30⟩ := key
  rw [eM5] at fr ⊢
  have st2 : M5 t 2 = nI wk := by rw [show M5 t = M t from f5.told hb18 hd2 0 (by omega)]; exact hwk
  have hp : 0 < h - 1 → M5 (b + 3) (h - 1 - 1) = -1 ∨ ∃ p, p < 8 ∧ M5 (b + 3) (h - 1 - 1) = nI p := fun q0 => by
    rw [gj 3 _ (by omega) (by omega) (by omega)]
    exact (hhd (h - 1 - 1) (by omega)).piece n8
  refine ⟨ok.of fr ?_ (fun j hj => ?_) (fun g q => ?_), ?_⟩
  · have := sp_goBack_at (t := t) (b := b) (h := h - 1) (f := nI p) (M := M5) (i := 0) (j := 5) (Or.inl rfl)
    rw [Nat.add_zero] at this
    rw [this, g0]
    exact hpl
  · by_cases e : j = h
    · subst e
      have gb : ∀ i, sp_goBack t b (j - 1) (nI p) M5 (b + i) j = M5 (b + i) j := fun i => sp_goBack_at (Or.inr (Or.inr (by omega)))
      refine Or.inr (Or.inr ⟨p, u, s, U, a1, a2, a3, a4, ?_, ?_, ?_, ?_, Or.inl ⟨?_, ?_⟩, fun d => ?_⟩)
      · rw [gb]; exact g3
      · rw [gb]; exact g4
      · rw [gb]; exact g5
      · rw [fr.told hb18 hd2 2 (by omega)]; exact a8
      · rw [gb]; exact g1
      · rw [gb, g2]; exact hl
      · rw [gb, g1, show sp_goBack t b (j - 1) (nI p) M5 t = M t from fr.told hb18 hd2 0 (by omega)] at d
        rcases d with d | ⟨d1, d2⟩
        · exact absurd d (by decide)
        · refine absurd ⟨?_, ?_⟩ hc.1
          · rw [a6]; exact (nI_0lt (by omega)).mpr d1
          · rw [a5]; exact d2
    · by_cases e2 : j = h - 1
      · subst e2
        exact sp_hd_goBack hb (by omega) st2 hwk5 hp
      · refine (hhd j hj).moved (fr.told hb18 hd2) (fun i i1 i5 => ?_)
        rw [sp_goBack_at (Or.inr (Or.inr e2)), gj i j i1 i5 e]
  · obtain ⟨z, z1, z2⟩ := g30 g q
    rcases zlg_cases b with c | ⟨c, hb32⟩
    · rw [c] at q; cases q
    · rw [c] at q
      cases q
      refine ⟨z, ?_, z2⟩
      rw [show sp_goBack t b (h - 1) (nI p) M5 30 = M5 30 by unfold sp_goBack; simp (disch := omega) only [zup_ne]]
      exact z1
  · refine sp_sum_lt2 h0 ?_ (fun j e e2 => sp_c_eq ?_ ?_) H hh
    · rw [chh, ch1]
      have q1 : sp_c (sp_goBack t b (h - 1) (nI p) M5) b h = 1 := by
        unfold sp_c
        rw [sp_goBack_at (Or.inr (Or.inr (by omega))), g1]
        simp
      have q2 := sp_c_goBack (t := t) (b := b) (h := h - 1) (n := n) (M := M5) (f := p) (by omega) st2 hwk5 hp
      rw [q1]
      omega
    · rw [sp_goBack_at (Or.inr (Or.inr e2)), gj 1 j (by omega) (by omega) e]
    · rw [sp_goBack_at (Or.inr (Or.inr e2)), gj 2 j (by omega) (by omega) e]
theorem sp_step {M M' : zMem} {t b n H L h : Nat} (ok : sp_ok M t b n H L) (hh : h < H) (e : sp_hand t b h M = some M') : sp_ok M' t b n H L ∧ sp_sum (sp_c M' b) H < sp_sum (sp_c M b) H := by
  unfold sp_hand at e
  split at e
  · rename_i hl
    split at e
    · rename_i h3
      cases e; exact sp_step_finish ok hh h3 hl
    · split at e
      · rename_i hr
        split at e
        · rename_i h0
          subst h0
          cases e; exact sp_step_new ok hr hl
        · rename_i h0
          split at e
          · rename_i hc
            cases e; exact sp_step_take ok (by omega) hh hr hl hc.1 hc.2
          · cases e
      · split at e
        · rename_i h2
          split at e
          · rename_i hm
            cases e; exact sp_step_start ok hh h2 hm
          · cases e
        · cases e
  · cases e
/-- one round of all hands, from the last (h of them are left) -/
noncomputable def sp_rd (t b : Nat) : Nat → Bool → zMem → Bool × zMem
  | 0, s, M => (s, M)
  | h + 1, s, M => match sp_hand t b h M with
    | some M' => sp_rd t b h true M'
    | none => sp_rd t b h s M
noncomputable def sp_rounds (t b H : Nat) : Nat → zMem → zMem
  | 0, M => M
  | f + 1, M => if (sp_rd t b H false M).1 = true then sp_rounds t b H f (sp_rd t b H false M).2 else (sp_rd t b H false M).2
noncomputable def sp_all (t b H : Nat) (M : zMem) : zMem := sp_rounds t b H (sp_sum (sp_c M b) H + 1) M
theorem sp_rd_ok {t b n H L : Nat} : ∀ h (s : Bool) (M : zMem), h ≤ H → sp_ok M t b n H L → sp_ok (sp_rd t b h s M).2 t b n H L ∧ sp_sum (sp_c (sp_rd t b h s M).2 b) H ≤ sp_sum (sp_c M b) H ∧ ((sp_rd t b h s M).1 = true → s = true ∨ sp_sum (sp_c (sp_rd t b h s M).2 b) H < sp_sum (sp_c M b) H) ∧ sp_fr b M (sp_rd t b h s M).2 ∧ (s = true → (sp_rd t b h s M).1 = true) ∧ ((sp_rd t b h s M).1 = false → (sp_rd t b h s M).2 = M ∧ ∀ j, j < h → sp_hand t b j M = none) := by
  intro h
  induction h with
  | zero => intro s M _ ok; exact ⟨ok, Nat.le_refl _, fun e => Or.inl e, sp_fr.rf, fun e => e, fun _ => ⟨rfl, fun j hj => absurd hj (by omega)⟩⟩
  | succ h ih =>
    intro s M hh ok
    unfold sp_rd
    cases e : sp_hand t b h M with
    | none =>
      dsimp only
      obtain ⟨a1, a2, a3, a4, a5, a6⟩ := ih s M (by omega) ok
      refine ⟨a1, a2, a3, a4, a5, fun q => ⟨(a6 q).1, fun j hj => ?_⟩⟩
      by_cases c : j = h
      · subst c; exact e
      · exact (a6 q).2 j (by omega)
    | some M' =>
      dsimp only
      obtain ⟨b1, b2⟩ := sp_step ok (by omega) e
      obtain ⟨a1, a2, a3, a4, a5, a6⟩ := ih true M' (by omega) b1
      refine ⟨a1, by omega, fun _ => Or.inr (by omega), (sp_fr_hand e).tr a4, fun _ => a5 rfl, fun q => ?_⟩
      rw [a5 rfl] at q
      cases q
theorem sp_rounds_ok {t b n H L : Nat} : ∀ f (M : zMem), sp_sum (sp_c M b) H < f → sp_ok M t b n H L → sp_ok (sp_rounds t b H f M) t b n H L ∧ sp_fr b M (sp_rounds t b H f M) ∧ ∀ j, j < H → sp_hand t b j (sp_rounds t b H f M) = none := by
  intro f
  induction f with
  | zero => intro M h; omega
  | succ f ih =>
    intro M hf ok
    obtain ⟨a1, a2, a3, a4, a5, a6⟩ := sp_rd_ok H false M (Nat.le_refl _) ok
    unfold sp_rounds
    by_cases c : (sp_rd t b H false M).1 = true
    · rw [if_pos c]
      rcases a3 c with q | q
      · cases q
      · obtain ⟨c1, c2, c3⟩ := ih _ (by omega) a1
        exact ⟨c1, a4.tr c2, c3⟩
    · rw [if_neg c]
      have c' : (sp_rd t b H false M).1 = false := by cases h : (sp_rd t b H false M).1 with
        | true => exact absurd h c
        | false => rfl
      obtain ⟨d1, d2⟩ := a6 c'
      rw [d1]
      exact ⟨ok, sp_fr.rf, d2⟩
theorem sp_rounds_fuel {t b n H L : Nat} : ∀ f f' (M : zMem), sp_sum (sp_c M b) H < f → sp_sum (sp_c M b) H < f' → sp_ok M t b n H L → sp_rounds t b H f M = sp_rounds t b H f' M := by
  intro f
  induction f with
  | zero => intro f' M h; omega
  | succ f ih =>
    intro f' M hf hf' ok
    obtain ⟨g, rfl⟩ : ∃ g, f' = g + 1 := ⟨f' - 1, by omega⟩
    obtain ⟨a1, a2, a3, a4, a5, a6⟩ := sp_rd_ok H false M (Nat.le_refl _) ok
    unfold sp_rounds
    by_cases c : (sp_rd t b H false M).1 = true
    · rw [if_pos c, if_pos c]
      rcases a3 c with q | q
      · cases q
      · exact ih g _ (by omega) (by omega) a1
    · rw [if_neg c, if_neg c]
theorem sp_all_ok {t b n H L : Nat} {M : zMem} (ok : sp_ok M t b n H L) : sp_ok (sp_all t b H M) t b n H L ∧ sp_fr b M (sp_all t b H M) ∧ ∀ j, j < H → sp_hand t b j (sp_all t b H M) = none := sp_rounds_ok _ M (by omega) ok
theorem sp_c_bound {M : zMem} {b : Nat} : ∀ H, H ≤ 5 → sp_sum (sp_c M b) H ≤ 8 * H := by
  intro H
  induction H with
  | zero => intro _; exact Nat.le_refl _
  | succ H ih =>
    intro h
    unfold sp_sum
    have := ih (by omega)
    have h2 : sp_c M b H ≤ 8 := by
      unfold sp_c
      split
      · omega
      · split
        · omega
        · split <;> omega
    omega
set_option maxHeartbeats 1000000 in
theorem xt_round {t b n H L : Nat} {y2 : Int32} {Q : zMem → Prop} {K : Int32 → zMem → Prop} : ∀ h (s : Bool) (M : zMem), h ≤ H → sp_ok M t b n H L → K (if (sp_rd t b h s M).1 = true then 1 else 0) (sp_rd t b h s M).2 → ∃ k, zlp2 (wpB_Bench_doAll_26 b y2 K Q) k (if s = true then 1 else 0) (nI h - 1) M := by
  intro h
  induction h with
  | zero =>
    intro s M _ ok hK
    refine ⟨1, ?_⟩
    show wpB_Bench_doAll_26 b y2 K Q _ _ _ _
    unfold wpB_Bench_doAll_26
    refine ⟨fun _ => hK, fun c => absurd (show nI 0 - 1 < 0 by decide) c⟩
  | succ h ih =>
    intro s M hh ok hK
    have H5 : H ≤ 5 := ok.2.2.2.1.1.2.2.2.1
    have e1 : nI (h + 1) - 1 = nI h := nI_pred h
    have e2 : ix (nI h) = h := q_ix (by omega)
    have e3 : vp_in (nI h) 5 := vp_in_nI (by omega) (by omega)
    have e4 : nI h + (-1) = nI h - 1 := (Int32.sub_eq_add_neg _ _).symm
    have e5 : ¬ nI h < 0 := nI_pos (by omega)
    have step : ∀ s' M', (∃ k, zlp2 (wpB_Bench_doAll_26 b y2 K Q) k s' (nI h - 1) M') → ∃ k, ∀ x, x = nI h + (-1) → zlp2 (wpB_Bench_doAll_26 b y2 K Q) k s' x M' := fun s' M' ⟨k, hk⟩ => ⟨k, fun x hx => by rw [hx, e4]; exact hk⟩
    rw [e1]
    cases e : sp_hand t b h M with
    | none =>
      unfold sp_rd at hK
      rw [e] at hK
      obtain ⟨k, hk⟩ := step _ _ (ih s M (by omega) ok hK)
      refine ⟨k + 1, ?_⟩
      show wpB_Bench_doAll_26 b y2 K Q (zlp2 (wpB_Bench_doAll_26 b y2 K Q) k) _ _ _
      unfold wpB_Bench_doAll_26
      rw [e2]
      refine ⟨fun c => absurd c e5, fun _ => ⟨e3, fun _ => hk, fun c => ?_⟩⟩
      refine xt_hand ok (by omega) c (fun M' q => by rw [e] at q; cases q) (fun _ => ⟨fun _ => hk, fun c => absurd rfl c⟩)
    | some M' =>
      unfold sp_rd at hK
      rw [e] at hK
      obtain ⟨b1, b2⟩ := sp_step ok (by omega) e
      obtain ⟨k, hk⟩ := step _ _ (ih true M' (by omega) b1 hK)
      refine ⟨k + 1, ?_⟩
      show wpB_Bench_doAll_26 b y2 K Q (zlp2 (wpB_Bench_doAll_26 b y2 K Q) k) _ _ _
      unfold wpB_Bench_doAll_26
      rw [e2]
      refine ⟨fun c => absurd c e5, fun _ => ⟨e3, fun c => ?_, fun c => ?_⟩⟩
      · unfold sp_hand at e
        rw [if_neg c] at e
        cases e
      · refine xt_hand ok (by omega) c (fun M'' q => ?_) (fun q => by rw [e] at q; cases q)
        rw [e] at q
        cases q
        exact ⟨fun c => absurd c (by decide), fun _ => hk⟩
theorem xt_doAll {t b n H L : Nat} {M : zMem} {Q : zMem → Prop} (ok : sp_ok M t b n H L) (hQ : Q (sp_all t b H M)) : wp_Bench_doAll b M Q := by
  have H5 : H ≤ 5 := ok.2.2.2.1.1.2.2.2.1
  unfold wp_Bench_doAll
  unfold sp_all at hQ
  have hb := sp_c_bound (M := M) (b := b) H H5
  refine zlp2_r (fun m s i M' => ∃ j : Nat, i = nI j ∧ j + m ≤ 60 ∧ ((s = 1 ∧ sp_ok M' t b n H L ∧ sp_sum (sp_c M' b) H + 1 = m ∧ Q (sp_rounds t b H m M')) ∨ (s = 0 ∧ Q M'))) ?_ (n := sp_sum (sp_c M b) H + 1) ⟨0, rfl, by omega, Or.inl ⟨rfl, ok, rfl, hQ⟩⟩
  rintro m s i M' ⟨j, rfl, hj, hc⟩ J hJ
  unfold wpB_Bench_doAll_4
  have e1 : ¬ 1000000 ≤ nI j := by rw [Int32.not_le]; exact nI_lt (b := 1000000) (by omega) (by omega)
  refine ⟨fun c => absurd c e1, fun _ => ?_⟩
  rcases hc with ⟨rfl, ok', hm, hQ'⟩ | ⟨rfl, hQ'⟩
  · refine ⟨fun c => absurd c (by decide), fun _ x hx => ?_⟩
    have eH : M' (ztc (M' b 0)) 1 = nI H := by rw [ok'.1]; exact ok'.2.2.2.1.2.2.1
    rw [eH] at hx
    subst hx
    refine xt_round (s := false) H M' (Nat.le_refl _) ok' (fun y hy => ?_)
    obtain ⟨a1, a2, a3, a4, a5, a6⟩ := sp_rd_ok H false M' (Nat.le_refl _) ok'
    obtain ⟨f, rfl⟩ : ∃ f, m = f + 1 := ⟨m - 1, by omega⟩
    unfold sp_rounds at hQ'
    subst hy
    rw [nI_1]
    by_cases c : (sp_rd t b H false M').1 = true
    · rw [if_pos c] at hQ' ⊢
      rcases a3 c with q | q
      · cases q
      · refine hJ (sp_sum (sp_c (sp_rd t b H false M').2 b) H + 1) _ _ _ (by omega) ⟨j + 1, rfl, by omega, Or.inl ⟨rfl, a1, rfl, ?_⟩⟩
        rw [sp_rounds_fuel _ f _ (by omega) (by omega) a1]
        exact hQ'
    · rw [if_neg c] at hQ' ⊢
      exact hJ 0 _ _ _ (by omega) ⟨j + 1, rfl, by omega, Or.inr ⟨rfl, hQ'⟩⟩
  · exact ⟨fun _ => hQ', fun c => absurd rfl c⟩
theorem q_l64 {n : Nat} (h : n < 2147483648) : (nI n).toInt64 = lN n := nI_l h
theorem q_m4 (p : Nat) : nI (p + 4) + -nI 4 = nI p := by
  rw [← q_add, Int32.add_assoc]
  exact (congrArg (fun z => nI p + z) (show nI 4 + -nI 4 = 0 by decide)).trans (Int32.add_zero _)
theorem q_04 : nI 0 + -nI 4 = -nI 4 := by decide
theorem q_p4 (p : Nat) : nI p - -nI 4 = nI (p + 4) := by rw [← q_add, Int32.sub_eq_add_neg]; exact congrArg (fun z => nI p + z) (show - -nI 4 = nI 4 by decide)
theorem q_44 : -nI 4 - -nI 4 = nI 0 := by decide
theorem q_x0 (x : Int32) : x + nI 0 = x := Int32.add_zero x
theorem q_s0 (x : Int32) : x - nI 0 = x := Int32.sub_zero x
theorem lg_cmp_lt0 (x y : Int64) : (lg_cmp x y < 0) = (x < y) := by
  unfold lg_cmp
  apply propext
  by_cases h1 : x > y
  · rw [if_pos h1]
    have h1' : y < x := h1
    exact ⟨fun h => absurd h (by decide), fun h => absurd (Int64.lt_trans h h1') Int64.lt_irrefl⟩
  · rw [if_neg h1]
    by_cases h2 : x = y
    · rw [if_pos h2, h2]
      exact ⟨fun h => absurd h (by decide), fun h => absurd h Int64.lt_irrefl⟩
    · rw [if_neg h2]
      refine ⟨fun _ => ?_, fun _ => by decide⟩
      have h3 : x ≤ y := Int64.not_lt.mp h1
      exact Int64.lt_of_le_of_ne h3 h2
theorem lg_cmp_0lt (x y : Int64) : (0 < lg_cmp x y) = (y < x) := by
  unfold lg_cmp
  apply propext
  by_cases h1 : x > y
  · rw [if_pos h1]
    exact ⟨fun _ => h1, fun _ => by decide⟩
  · rw [if_neg h1]
    by_cases h2 : x = y
    · rw [if_pos h2]
      exact ⟨fun h => absurd h (by decide), fun h => absurd h h1⟩
    · rw [if_neg h2]
      exact ⟨fun h => absurd h (by decide), fun h => absurd h h1⟩
theorem e_in {v lo hi : Int64} {M : zMem} {Q : Int32 → zMem → Prop} : wp_Model_in v lo hi M Q = Q (if lo ≤ v ∧ v ≤ hi then 1 else 0) M := by
  unfold wp_Model_in
  rw [lg_cmp_lt0, lg_cmp_0lt]
  apply propext
  by_cases h1 : v < lo
  · have h2 : ¬ (lo ≤ v ∧ v ≤ hi) := fun q => absurd q.1 (Int64.not_le.mpr h1)
    rw [if_neg h2]
    exact ⟨fun h => h.1 h1, fun h => ⟨fun _ => h, fun q => absurd h1 q⟩⟩
  · by_cases h3 : hi < v
    · have h2 : ¬ (lo ≤ v ∧ v ≤ hi) := fun q => absurd q.2 (Int64.not_le.mpr h3)
      rw [if_neg h2]
      exact ⟨fun h => (h.2 h1).1 h3, fun h => ⟨fun q => absurd q h1, fun _ => ⟨fun _ => h, fun q => absurd h3 q⟩⟩⟩
    · have h2 : lo ≤ v ∧ v ≤ hi := ⟨Int64.not_lt.mp h1, Int64.not_lt.mp h3⟩
      rw [if_pos h2]
      exact ⟨fun h => (h.2 h1).2 h3, fun h => ⟨fun q => absurd q h1, fun _ => ⟨fun q => absurd q h3, fun _ => h⟩⟩⟩
theorem e_at {pg h w : Nat} {M : zMem} {Q : Int32 → zMem → Prop} (hp : pg < 4) (hh : h < 5) (hw : w < 6) : wp_Model_at (nI pg) (nI h) (nI w) M Q = Q (M 6 (96 * pg + 8 + 8 * h + w) + (if 2 ≤ w ∧ w ≤ 4 then -nI 4 else nI 0)) M := by
  unfold wp_Model_at
  rw [e_in, q_l64 (by omega)]
  have e1 : ix (96 * nI pg + 8 + 8 * nI h + nI w) = 96 * pg + 8 + 8 * h + w := by simp (disch := omega) only [q_lit, q_add, q_mul, q_sub, q_ix, q_in, q_lt, q_le, q_eq, q_nlt, q_nle, q_ltn, q_len, q_neq, q_eqn, zup_ne, zup_eq, zset_ne, zset_eq, upd_eq, upd_ne, forall_eq, true_and, and_true, true_implies, false_implies, implies_true, not_true_eq_false, not_false_eq_true, and_self, ↓reduceIte, false_and, and_false]
  have e2 : vp_in (96 * nI pg + 8 + 8 * nI h + nI w) 384 := by simp (disch := omega) only [q_lit, q_add, q_mul, q_sub, q_ix, q_in, q_lt, q_le, q_eq, q_nlt, q_nle, q_ltn, q_len, q_neq, q_eqn, zup_ne, zup_eq, zset_ne, zset_eq, upd_eq, upd_ne, forall_eq, true_and, and_true, true_implies, false_implies, implies_true, not_true_eq_false, not_false_eq_true, and_self, ↓reduceIte, false_and, and_false]
  have e3 : (2 ≤ lN w ∧ lN w ≤ 4) = (2 ≤ w ∧ w ≤ 4) := by
    apply propext
    rw [show (2 : Int64) = lN 2 from rfl, show (4 : Int64) = lN 4 from rfl, lN_le (by omega) (by omega), lN_le (by omega) (by omega)]
  rw [e1]
  apply propext
  by_cases c : 2 ≤ w ∧ w ≤ 4
  · have c' : 2 ≤ lN w ∧ lN w ≤ 4 := by rw [e3]; exact c
    rw [if_pos c', if_pos c]
    exact ⟨fun q => q.2.2 (by decide), fun q => ⟨e2, fun q1 => absurd q1 (by decide), fun _ => q⟩⟩
  · have c' : ¬ (2 ≤ lN w ∧ lN w ≤ 4) := by rw [e3]; exact c
    rw [if_neg c', if_neg c]
    exact ⟨fun q => q.2.1 rfl, fun q => ⟨e2, fun _ => q, fun q1 => absurd rfl q1⟩⟩
theorem e_put {pg h w : Nat} {v : Int32} {M : zMem} {Q : zMem → Prop} (hp : pg < 4) (hh : h < 5) (hw : w < 6) : wp_Model_put (nI pg) (nI h) (nI w) v M Q = Q (zup M 6 (96 * pg + 8 + 8 * h + w) (v - (if 2 ≤ w ∧ w ≤ 4 then -nI 4 else nI 0))) := by
  unfold wp_Model_put
  rw [e_in, q_l64 (by omega)]
  have e1 : ix (96 * nI pg + 8 + 8 * nI h + nI w) = 96 * pg + 8 + 8 * h + w := by simp (disch := omega) only [q_lit, q_add, q_mul, q_sub, q_ix, q_in, q_lt, q_le, q_eq, q_nlt, q_nle, q_ltn, q_len, q_neq, q_eqn, zup_ne, zup_eq, zset_ne, zset_eq, upd_eq, upd_ne, forall_eq, true_and, and_true, true_implies, false_implies, implies_true, not_true_eq_false, not_false_eq_true, and_self, ↓reduceIte, false_and, and_false]
  have e2 : vp_in (96 * nI pg + 8 + 8 * nI h + nI w) 384 := by simp (disch := omega) only [q_lit, q_add, q_mul, q_sub, q_ix, q_in, q_lt, q_le, q_eq, q_nlt, q_nle, q_ltn, q_len, q_neq, q_eqn, zup_ne, zup_eq, zset_ne, zset_eq, upd_eq, upd_ne, forall_eq, true_and, and_true, true_implies, false_implies, implies_true, not_true_eq_false, not_false_eq_true, and_self, ↓reduceIte, false_and, and_false]
  have e3 : (2 ≤ lN w ∧ lN w ≤ 4) = (2 ≤ w ∧ w ≤ 4) := by
    apply propext
    rw [show (2 : Int64) = lN 2 from rfl, show (4 : Int64) = lN 4 from rfl, lN_le (by omega) (by omega), lN_le (by omega) (by omega)]
  rw [e1]
  apply propext
  by_cases c : 2 ≤ w ∧ w ≤ 4
  · have c' : 2 ≤ lN w ∧ lN w ≤ 4 := by rw [e3]; exact c
    rw [if_pos c', if_pos c]
    exact ⟨fun q => (q.2 (by decide)).2 _ rfl, fun q => ⟨fun q1 => absurd q1 (by decide), fun _ => ⟨e2, fun m hm => by rw [hm]; exact q⟩⟩⟩
  · have c' : ¬ (2 ≤ lN w ∧ lN w ≤ 4) := by rw [e3]; exact c
    rw [if_neg c', if_neg c]
    exact ⟨fun q => (q.1 rfl).2 _ rfl, fun q => ⟨fun _ => ⟨e2, fun m hm => by rw [hm]; exact q⟩, fun q1 => absurd rfl q1⟩⟩
theorem e_of {pg w : Nat} {M : zMem} {Q : Int32 → zMem → Prop} (hp : pg < 4) (hw : w < 8) : wp_Model_of (nI pg) (nI w) M Q = Q (M 6 (96 * pg + w)) M := by
  unfold wp_Model_of
  simp (disch := omega) only [q_lit, q_add, q_mul, q_sub, q_ix, q_in, q_lt, q_le, q_eq, q_nlt, q_nle, q_ltn, q_len, q_neq, q_eqn, zup_ne, zup_eq, zset_ne, zset_eq, upd_eq, upd_ne, forall_eq, true_and, and_true, true_implies, false_implies, implies_true, not_true_eq_false, not_false_eq_true, and_self, ↓reduceIte, false_and, and_false]
theorem e_more {pg w : Nat} {x : Int32} {M : zMem} {Q : zMem → Prop} (hp : pg < 4) (hw : w < 8) : wp_Model_more (nI pg) (nI w) x M Q = Q (zup M 6 (96 * pg + w) (M 6 (96 * pg + w) + x)) := by
  unfold wp_Model_more
  simp (disch := omega) only [q_lit, q_add, q_mul, q_sub, q_ix, q_in, q_lt, q_le, q_eq, q_nlt, q_nle, q_ltn, q_len, q_neq, q_eqn, zup_ne, zup_eq, zset_ne, zset_eq, upd_eq, upd_ne, forall_eq, true_and, and_true, true_implies, false_implies, implies_true, not_true_eq_false, not_false_eq_true, and_self, ↓reduceIte, false_and, and_false]
theorem e_learntAt {pg h p : Nat} {M : zMem} {Q : Int32 → zMem → Prop} : wp_Model_learntAt (nI pg) (nI h) (nI p) M Q = Q (nI (96 * pg + 48 + 8 * h + p)) M := by
  unfold wp_Model_learntAt
  simp (disch := omega) only [q_lit, q_add, q_mul, q_sub, q_ix, q_in, q_lt, q_le, q_eq, q_nlt, q_nle, q_ltn, q_len, q_neq, q_eqn, zup_ne, zup_eq, zset_ne, zset_eq, upd_eq, upd_ne, forall_eq, true_and, and_true, true_implies, false_implies, implies_true, not_true_eq_false, not_false_eq_true, and_self, ↓reduceIte, false_and, and_false]
theorem mt_pieceFrom {s n : Nat} {p : Nat} {M : zMem} {Q : Int32 → zMem → Prop} (hn : M 4 0 = nI n) (hn8 : n ≤ 8) (hs : s < 3) (hp : p ≤ n) (hQ : Q (if sp_pf (fun i => M 4 (30 + 8 * s + i)) (n - p) p < n then nI (sp_pf (fun i => M 4 (30 + 8 * s + i)) (n - p) p) else -4) M) : wp_Model_pieceFrom (nI s) (nI p) M Q := by
  unfold wp_Model_pieceFrom
  refine zlp1_r (fun m x M' => M' = M ∧ ∃ p, x = nI p ∧ p ≤ n ∧ m = n - p ∧ Q (if sp_pf (fun i => M 4 (30 + 8 * s + i)) m p < n then nI (sp_pf (fun i => M 4 (30 + 8 * s + i)) m p) else -4) M) ?_ ⟨rfl, p, rfl, hp, rfl, hQ⟩
  rintro m x M' ⟨rfl, p, rfl, hp, rfl, hQ⟩ J hJ
  unfold wpB_Model_pieceFrom_2
  have e0 : ix 0 = 0 := rfl
  have e00 : vp_in 0 100 := vp_in_nI (n := 0) (by omega) (by omega)
  have e1 : ix (30 + 8 * nI s + nI p) = 30 + 8 * s + p := by simp (disch := omega) only [q_lit, q_add, q_mul, q_sub, q_ix, q_in, q_lt, q_le, q_eq, q_nlt, q_nle, q_ltn, q_len, q_neq, q_eqn, zup_ne, zup_eq, zset_ne, zset_eq, upd_eq, upd_ne, forall_eq, true_and, and_true, true_implies, false_implies, implies_true, not_true_eq_false, not_false_eq_true, and_self, ↓reduceIte, false_and, and_false]
  have e2 : vp_in (30 + 8 * nI s + nI p) 100 := by simp (disch := omega) only [q_lit, q_add, q_mul, q_sub, q_ix, q_in, q_lt, q_le, q_eq, q_nlt, q_nle, q_ltn, q_len, q_neq, q_eqn, zup_ne, zup_eq, zset_ne, zset_eq, upd_eq, upd_ne, forall_eq, true_and, and_true, true_implies, false_implies, implies_true, not_true_eq_false, not_false_eq_true, and_self, ↓reduceIte, false_and, and_false]
  rw [e0, e1, hn]
  refine ⟨e00, fun c => ?_, fun c => ⟨e2, fun c2 => ?_, fun c2 => ?_⟩⟩
  · have c' := (nI_leI (by omega) (by omega)).mp c
    have e : n - p = 0 := by omega
    rw [e] at hQ
    unfold sp_pf at hQ
    rw [if_neg (by omega)] at hQ
    exact hQ
  · have c' : p < n := Nat.lt_of_not_le (fun q => c (nI_le q (by omega)))
    intro x hx
    rw [nI_1] at hx
    subst hx
    have e : n - p = (n - (p + 1)) + 1 := by omega
    rw [e] at hQ
    unfold sp_pf at hQ
    rw [if_neg (show ¬ 0 < M' 4 (30 + 8 * s + p) by rw [Int32.not_lt]; exact c2)] at hQ
    exact hJ (n - (p + 1)) _ _ (by omega) ⟨rfl, p + 1, rfl, by omega, rfl, hQ⟩
  · have c' : p < n := Nat.lt_of_not_le (fun q => c (nI_le q (by omega)))
    have e : n - p = (n - (p + 1)) + 1 := by omega
    rw [e] at hQ
    unfold sp_pf at hQ
    rw [if_pos (show 0 < M' 4 (30 + 8 * s + p) by rw [← Int32.not_le]; exact c2), if_pos c'] at hQ
    exact hQ
/-- what the reference holds as told, in the words of a bench of the class -/
def mr_t (W M : zMem) (t n H L : Nat) : Prop :=
  W 4 0 = nI n ∧ W 0 18 = nI H ∧ W 4 2 = M t 2 ∧ W 4 3 = M t 3 ∧ W 0 19 = M t 4 ∧ W 4 5 = M t 5 ∧ W 4 6 = nI L ∧ (∀ i, i < L → W 4 (10 + i) = M (t + 1) i) ∧ (∀ s p, s < 3 → p < n → W 4 (30 + 8 * s + p) = M (t + 2) (s * 8 + p)) ∧ (∀ h, h < H → W 9 h = M (t + 4) h)
/-- who stands where: paces, and what was learnt -/
def mr_w (W M : zMem) (pg t b n H : Nat) (wh : Nat → Nat) : Prop :=
  (∀ h, h < H → wh h < 5 ∧ W 8 h = nI (wh h)) ∧ (∀ h j, h < H → j < H → wh h = wh j → h = j) ∧ (∀ h p, h < H → p < n → W 4 (60 + 8 * wh h + p) = M (t + 3) (h * 8 + p)) ∧ (∀ h p, h < H → p < n → W 6 (96 * pg + 48 + 8 * wh h + p) = M (b + 7) (h * 8 + p)) ∧ (∀ h p, h < H → n ≤ p → p < 8 → W 6 (96 * pg + 48 + 8 * wh h + p) = 0)
def mr_h (W M : zMem) (pg b h : Nat) : Prop :=
  W 6 (96 * pg + 8 + 8 * h) = M (b + 1) h ∧ W 6 (96 * pg + 8 + 8 * h + 1) = M (b + 2) h ∧ W 6 (96 * pg + 8 + 8 * h + 5) = M (b + 6) h ∧
  ((M (b + 3) h = -1 ∧ W 6 (96 * pg + 8 + 8 * h + 2) = nI 0 ∧ W 6 (96 * pg + 8 + 8 * h + 3) = nI 0 ∧ W 6 (96 * pg + 8 + 8 * h + 4) = nI 0) ∨
   (∃ p u s, p < 8 ∧ u < 7 ∧ s < 3 ∧ M (b + 3) h = nI p ∧ M (b + 4) h = nI u ∧ M (b + 5) h = nI s ∧ W 6 (96 * pg + 8 + 8 * h + 2) = nI (p + 4) ∧ W 6 (96 * pg + 8 + 8 * h + 3) = nI (u + 4) ∧ W 6 (96 * pg + 8 + 8 * h + 4) = nI (s + 4)))
def mr_s (W M : zMem) (pg b : Nat) : Prop := W 6 (96 * pg) = M b 2 ∧ W 6 (96 * pg + 1) = M b 3 ∧ W 6 (96 * pg + 2) = M b 4 ∧ W 6 (96 * pg + 4) = M b 5
/-- the handings over of a run, where the class keeps them -/
def mr_g (W M : zMem) (pg b : Nat) : Prop := pg = 1 → b = 32 → ∃ o, o < 2147483648 ∧ M b 4 = nI o ∧ M 30 0 = nI (if o < 600 then o else 600) ∧ ∀ j, j < 5 * o → j < 3000 → W 10 j = M 31 j
def mr (W M : zMem) (pg t b n H L : Nat) (wh : Nat → Nat) : Prop := pg < 4 ∧ mr_t W M t n H L ∧ mr_w W M pg t b n H wh ∧ (∀ h, h < H → mr_h W M pg b h) ∧ mr_s W M pg b ∧ mr_g W M pg b
/-- what the reference may change at a page -/
def mfr (pg : Nat) (W W' : zMem) : Prop := (∀ k, k ≠ 6 → k ≠ 10 → W' k = W k) ∧ (∀ j, (j < 96 * pg ∨ 96 * pg + 96 ≤ j) → W' 6 j = W 6 j) ∧ (pg ≠ 1 → W' 10 = W 10) ∧ (∀ H h, W 0 18 = nI H → H ≤ h → h < 5 → W' 6 (96 * pg + 8 + 8 * h + 2) = W 6 (96 * pg + 8 + 8 * h + 2))
theorem mfr.rf {pg : Nat} {W : zMem} : mfr pg W W := ⟨fun _ _ _ => rfl, fun _ _ => rfl, fun _ => rfl, fun _ _ _ _ _ => rfl⟩
theorem mfr.tr {pg : Nat} {W W1 W2 : zMem} (h1 : mfr pg W W1) (h2 : mfr pg W1 W2) : mfr pg W W2 := ⟨fun k a b => (h2.1 k a b).trans (h1.1 k a b), fun j a => (h2.2.1 j a).trans (h1.2.1 j a), fun a => (h2.2.2.1 a).trans (h1.2.2.1 a), fun H h a b c => (h2.2.2.2 H h (by rw [h1.1 0 (by omega) (by omega)]; exact a) b c).trans (h1.2.2.2 H h a b c)⟩
/-- a slot of the bench's own -/
theorem mfr.upo {pg i : Nat} {x : Int32} {W : zMem} (hi : i < 96) (ho : i < 10 ∨ 48 ≤ i) : mfr pg W (zup W 6 (96 * pg + i) x) := ⟨fun k a _ => zup_ne a, fun j a => by rw [zup_eq, upd_ne (by omega)], fun _ => zup_ne (by omega), fun H h _ _ _ => by rw [zup_eq, upd_ne (by omega)]⟩
/-- a slot of a hand -/
theorem mfr.uph {pg h w H : Nat} {x : Int32} {W : zMem} (e : W 0 18 = nI H) (H5 : H ≤ 5) (hh : h < H) (hw : w < 8) : mfr pg W (zup W 6 (96 * pg + (8 + 8 * h + w)) x) := ⟨fun k a _ => zup_ne a, fun j a => by rw [zup_eq, upd_ne (by omega)], fun _ => zup_ne (by omega), fun H' h' a b c => by
  have := (nI_eq (a := H') (b := H) (by omega) (by omega)).mp (a.symm.trans e)
  rw [zup_eq, upd_ne (by omega)]⟩
theorem mr_t.moved {W W' M M' : zMem} {pg t b n H L : Nat} (h : mr_t W M t n H L) (f : mfr pg W W') (e : ∀ i, i ≤ 4 → M' (t + i) = M (t + i)) : mr_t W' M' t n H L := by
  have e0 : M' t = M t := e 0 (by omega)
  unfold mr_t at h ⊢
  rw [f.1 4 (by omega) (by omega), f.1 0 (by omega) (by omega), f.1 9 (by omega) (by omega), e0, e 1 (by omega), e 2 (by omega), e 4 (by omega)]
  exact h
theorem mr_w.moved {W W' M M' : zMem} {pg t b n H : Nat} {wh : Nat → Nat} (h : mr_w W M pg t b n H wh) (f : mfr pg W W') (e : M' (t + 3) = M (t + 3)) (q : ∀ h p, h < H → p < n → W' 6 (96 * pg + 48 + 8 * wh h + p) = M' (b + 7) (h * 8 + p)) (q2 : ∀ h p, h < H → n ≤ p → p < 8 → W' 6 (96 * pg + 48 + 8 * wh h + p) = W 6 (96 * pg + 48 + 8 * wh h + p)) : mr_w W' M' pg t b n H wh := by
  obtain ⟨h1, h2, h3, -, h5⟩ := h
  refine ⟨?_, h2, ?_, q, fun h p a c d => (q2 h p a c d).trans (h5 h p a c d)⟩
  · rw [f.1 8 (by omega) (by omega)]; exact h1
  · rw [f.1 4 (by omega) (by omega), e]; exact h3
theorem mr_h.moved {W W' M M' : zMem} {pg b h : Nat} (hh : mr_h W M pg b h) (q : ∀ i, i ≤ 5 → W' 6 (96 * pg + 8 + 8 * h + i) = W 6 (96 * pg + 8 + 8 * h + i)) (e : ∀ i, 1 ≤ i → i ≤ 6 → M' (b + i) h = M (b + i) h) : mr_h W' M' pg b h := by
  have q0 : W' 6 (96 * pg + 8 + 8 * h) = W 6 (96 * pg + 8 + 8 * h) := q 0 (by omega)
  unfold mr_h at hh ⊢
  rw [q0, q 1 (by omega), q 2 (by omega), q 3 (by omega), q 4 (by omega), q 5 (by omega), e 1 (by omega) (by omega), e 2 (by omega) (by omega), e 3 (by omega) (by omega), e 4 (by omega) (by omega), e 5 (by omega) (by omega), e 6 (by omega) (by omega)]
  exact hh
/-- the reference's going back -/
def mp_goes (pg h : Nat) (z : Int32) (d : Int32) (W : zMem) : zMem := zup (zup (zup (zup (zup W 6 (96 * pg + 8 + 8 * h) d) 6 (96 * pg + 8 + 8 * h + 1) z) 6 (96 * pg + 8 + 8 * h + 2) (nI 0)) 6 (96 * pg + 8 + 8 * h + 3) (nI 0)) 6 (96 * pg + 8 + 8 * h + 4) (nI 0)
theorem mt_goes38 {pg h : Nat} {fr : Int32} {z : Nat} {W : zMem} {Q : zMem → Prop} (hp : pg < 4) (hh : h < 5) (hz : z < 2147483648) (hQ : Q (mp_goes pg h (nI z) (if 0 < nI z then 1 else 0) W)) : wpJ_Model_goesBack_38 (nI pg) (nI h) fr Q (nI z) W := by
  unfold wpJ_Model_goesBack_38
  unfold mp_goes at hQ
  by_cases c : 0 < z
  · have c1 : 0 < nI z := (nI_0lt hz).mpr c
    rw [if_pos c1] at hQ
    refine ⟨fun q => absurd q (by rw [Int32.not_le]; exact c1), fun _ => ?_⟩
    simp (disch := omega) [q_lit, e_put, q_44, q_s0] at hQ ⊢
    exact hQ
  · have c1 : ¬ 0 < nI z := fun q => c ((nI_0lt hz).mp q)
    rw [if_neg c1] at hQ
    refine ⟨fun _ => ?_, fun q => absurd (by rw [← Int32.not_lt]; exact c1) q⟩
    simp (disch := omega) [q_lit, e_put, q_44, q_s0] at hQ ⊢
    exact hQ
theorem mt_goesBack {t b pg h f k : Nat} {M W : zMem} {Q : zMem → Prop} (hp : pg < 4) (hh : h < 5) (hf : f ≤ 8) (hk : M t 2 = nI k) (hk5 : k ≤ 5) (hW : W 4 2 = M t 2)
    (hpc : 0 < h → (M (b + 3) (h - 1) = -1 ∧ W 6 (96 * pg + 8 + 8 * (h - 1) + 2) = nI 0) ∨ ∃ p, p < 8 ∧ M (b + 3) (h - 1) = nI p ∧ W 6 (96 * pg + 8 + 8 * (h - 1) + 2) = nI (p + 4))
    (hQ : Q (mp_goes pg h (sp_wl t b h (nI f) M) (if 0 < sp_wl t b h (nI f) M then 1 else 0) W)) : wp_Model_goesBack (nI pg) (nI h) (nI f) W Q := by
  have key : ∀ w : Nat, w ≤ 8 → k * w ≤ 40 := fun w hw => by
    have : k * w ≤ 5 * 8 := Nat.mul_le_mul hk5 hw
    omega
  have fin : ∀ (x : Int32) (z : Nat), z ≤ 40 → sp_wl t b h (nI f) M = nI z → (x = nI z ∨ (x < 0 ∧ z = 0)) → wpJ_Model_goesBack_25 (nI pg) (nI h) (nI f) Q x W := by
    intro x z hz ez hx
    rw [ez] at hQ
    unfold wpJ_Model_goesBack_25
    rcases hx with rfl | ⟨hx, rfl⟩
    · refine ⟨fun _ => mt_goes38 hp hh (by omega) hQ, fun c => absurd (nI_pos' (by omega)) c⟩
    · refine ⟨fun c => absurd hx (by rw [Int32.not_lt]; exact c), fun _ => mt_goes38 (z := 0) hp hh (by omega) hQ⟩
  unfold wp_Model_goesBack
  have e2 : ix 2 = 2 := rfl
  have e22 : vp_in 2 100 := vp_in_nI (n := 2) (by omega) (by omega)
  by_cases h0 : h = 0
  · subst h0
    refine ⟨fun c => absurd rfl c, fun _ => fin 0 0 (by omega) ?_ (Or.inl rfl)⟩
    unfold sp_wl sp_way
    rw [if_pos rfl, if_neg (by decide)]
    rfl
  · have c0 : ¬ nI h = 0 := nI_ne0 (by omega) (by omega)
    refine ⟨fun _ => ⟨e22, ?_⟩, fun c => absurd c c0⟩
    unfold wp_Model_pieceOr0
    rw [e2, q_pred (by omega), show (2 : Int32) = nI 2 from rfl, e_at hp (by omega) (by omega), hW, hk]
    rcases hpc (by omega) with ⟨e1, e3⟩ | ⟨p, hp8, e1, e3⟩
    · rw [e3, if_pos (by omega), q_04]
      refine ⟨fun c => absurd rfl c, fun _ => ?_⟩
      have e5 : nI f - 0 = nI f := Int32.sub_zero _
      dsimp only
      rw [e5, q_mul]
      refine fin _ (k * f) (key f hf) ?_ (Or.inl rfl)
      unfold sp_wl sp_way
      rw [if_neg h0, e1, if_pos (show (-1 : Int32) < 0 by decide), hk]
      by_cases c : 0 < f
      · rw [if_pos ((nI_0lt (by omega)).mpr c), q_mul]
      · have : f = 0 := by omega
        subst this
        rfl
    · rw [e3, if_pos (by omega), q_m4]
      have c4 : ¬ nI p = -4 := fun q => by
        have := q_neq (a := p) (c := 4) (by omega) (by omega) (by omega)
        rw [← this]; exact q
      refine ⟨fun _ => ?_, fun c => absurd c c4⟩
      have e9 : ¬ nI p < 0 := by rw [Int32.not_lt]; exact nI_pos' (by omega)
      dsimp only
      rcases Nat.le_total p f with c | c
      · rw [q_sub c, q_mul]
        refine fin _ (k * (f - p)) (key _ (by omega)) ?_ (Or.inl rfl)
        unfold sp_wl sp_way
        rw [if_neg h0, e1, if_neg e9, hk, q_sub c]
        by_cases c2 : 0 < f - p
        · rw [if_pos ((nI_0lt (by omega)).mpr c2), q_mul]
        · have : f - p = 0 := by omega
          rw [this]
          rfl
      · have ew : sp_wl t b h (nI f) M = nI 0 := by
          unfold sp_wl sp_way
          rw [if_neg h0, e1, if_neg e9, hk, if_neg ?_]
          · rfl
          · rw [Int32.not_lt, Int32.le_iff_toInt_le, pk_sub_toInt (by omega) (by omega)]
            have : (0 : Int32).toInt = 0 := by decide
            omega
        have ex : nI k * (nI f - nI p) = -nI (k * (p - f)) := by
          rw [show nI f - nI p = -(nI (p - f)) by rw [← q_sub c, Int32.neg_sub], Int32.mul_neg, q_mul]
        rw [ex]
        have kb := key (p - f) (by omega)
        by_cases c3 : k * (p - f) = 0
        · rw [c3]
          exact fin _ 0 (by omega) ew (Or.inl rfl)
        · refine fin _ 0 (by omega) ew (Or.inr ⟨?_, rfl⟩)
          rw [Int32.lt_iff_toInt_lt, q_negT (by omega)]
          have : (0 : Int32).toInt = 0 := by decide
          omega
theorem mr_goBack {t b pg h f : Nat} {M W : zMem} (h5 : W 6 (96 * pg + 8 + 8 * h + 5) = M (b + 6) h) : mr_h (mp_goes pg h (sp_wl t b h (nI f) M) (if 0 < sp_wl t b h (nI f) M then 1 else 0) W) (sp_goBack t b h (nI f) M) pg b h := by
  unfold mr_h mp_goes sp_goBack
  refine ⟨?_, ?_, ?_, Or.inl ⟨?_, ?_, ?_, ?_⟩⟩ <;> simp (disch := omega) only [zup_ne, zup_eq, upd_ne, upd_eq]
  exact h5
theorem mp_goes_at {pg h j : Nat} {z d : Int32} {W : zMem} (hj : ∀ i, i ≤ 4 → j ≠ 96 * pg + 8 + 8 * h + i) : mp_goes pg h z d W 6 j = W 6 j := by
  unfold mp_goes
  have h0 := hj 0 (by omega)
  have h1 := hj 1 (by omega)
  have h2 := hj 2 (by omega)
  have h3 := hj 3 (by omega)
  have h4 := hj 4 (by omega)
  simp (disch := omega) only [zup_eq, upd_ne]
theorem mp_goes_ne {pg h k : Nat} {z d : Int32} {W : zMem} (hk : k ≠ 6) : mp_goes pg h z d W k = W k := by
  unfold mp_goes
  simp (disch := omega) only [zup_ne]
theorem mfr_goes {pg h H : Nat} {z d : Int32} {W : zMem} (e : W 0 18 = nI H) (H5 : H ≤ 5) (hh : h < H) : mfr pg W (mp_goes pg h z d W) :=
  ⟨fun k a _ => mp_goes_ne a, fun j a => mp_goes_at (fun i hi => by omega), fun _ => mp_goes_ne (by omega), fun H' h' a b c => by
    have := (nI_eq (a := H') (b := H) (by omega) (by omega)).mp (a.symm.trans e)
    exact mp_goes_at (fun i hi => by omega)⟩
theorem mr_h.pc {W M : zMem} {pg b h : Nat} (hh : mr_h W M pg b h) : (M (b + 3) h = -1 ∧ W 6 (96 * pg + 8 + 8 * h + 2) = nI 0) ∨ ∃ p, p < 8 ∧ M (b + 3) h = nI p ∧ W 6 (96 * pg + 8 + 8 * h + 2) = nI (p + 4) := by
  rcases hh.2.2.2 with ⟨a, b, -⟩ | ⟨p, u, s, p8, -, -, a, -, -, b, -⟩
  · exact Or.inl ⟨a, b⟩
  · exact Or.inr ⟨p, p8, a, b⟩
theorem mt_ticks {t b pg h p w le : Nat} {M W : zMem} {Q : Int32 → zMem → Prop} (hp : pg < 4) (hw : w < 5) (hp8 : p < 8) (e3 : W 4 3 = M t 3) (hle : M t 3 = nI le) (hle9 : le ≤ 99) (e4 : W 4 (60 + 8 * w + p) = M (t + 3) (h * 8 + p)) (e6 : W 6 (96 * pg + 48 + 8 * w + p) = M (b + 7) (h * 8 + p)) (hQ : Q (sp_ticks t h p (M (b + 7) (h * 8 + p)) M) W) : wp_Model_ticksOf (nI pg) (nI w) (nI p) W Q := by
  unfold wp_Model_ticksOf
  unfold sp_ticks at hQ
  have i1 : ix (60 + 8 * nI w + nI p) = 60 + 8 * w + p := by simp (disch := omega) only [q_lit, q_add, q_mul, q_sub, q_ix, q_in, q_lt, q_le, q_eq, q_nlt, q_nle, q_ltn, q_len, q_neq, q_eqn, zup_ne, zup_eq, zset_ne, zset_eq, upd_eq, upd_ne, forall_eq, true_and, and_true, true_implies, false_implies, implies_true, not_true_eq_false, not_false_eq_true, and_self, ↓reduceIte, false_and, and_false]
  have i2 : vp_in (60 + 8 * nI w + nI p) 100 := by simp (disch := omega) only [q_lit, q_add, q_mul, q_sub, q_ix, q_in, q_lt, q_le, q_eq, q_nlt, q_nle, q_ltn, q_len, q_neq, q_eqn, zup_ne, zup_eq, zset_ne, zset_eq, upd_eq, upd_ne, forall_eq, true_and, and_true, true_implies, false_implies, implies_true, not_true_eq_false, not_false_eq_true, and_self, ↓reduceIte, false_and, and_false]
  have i3 : ix 3 = 3 := rfl
  have i4 : vp_in 3 100 := vp_in_nI (n := 3) (by omega) (by omega)
  have i5 : vp_in (nI (96 * pg + 48 + 8 * w + p)) 384 := vp_in_nI (by omega) (by omega)
  have i6 : ix (nI (96 * pg + 48 + 8 * w + p)) = 96 * pg + 48 + 8 * w + p := q_ix (by omega)
  rw [i1, i3, e3, e4]
  have fin : ∀ v : Int32, (Q (if v < 1 then 1 else v) W) → (1 ≤ v → Q v W) ∧ (¬ 1 ≤ v → Q 1 W) := fun v hv => by
    refine ⟨fun c => ?_, fun c => ?_⟩
    · rw [if_neg (by rw [Int32.not_lt]; exact c)] at hv; exact hv
    · rw [if_pos (by rw [Int32.not_le] at c; exact c)] at hv; exact hv
  refine ⟨i2, fun x hx => ⟨i4, fun c => ?_, fun c => ?_⟩⟩
  · rw [e_learntAt, i6, e3, e6]
    refine ⟨i5, i4, c, fun y hy => ?_⟩
    subst hy; subst hx
    have c2 : 0 < M t 3 := by
      rw [hle] at c ⊢
      exact (nI_0lt (by omega)).mpr (Nat.pos_of_ne_zero (fun q => c (by rw [q]; rfl)))
    rw [if_pos c2] at hQ
    exact fin _ hQ
  · intro y hy
    subst hy; subst hx
    have c2 : ¬ 0 < M t 3 := by rw [c]; decide
    rw [if_neg c2] at hQ
    have e9 : M (t + 3) (h * 8 + p) - 0 = M (t + 3) (h * 8 + p) := Int32.sub_zero _
    rw [e9]
    exact fin _ hQ
/-- whether a unit may be begun, the reference's side -/
theorem mt_mayBegin {t b pg h n H L p u : Nat} {wh : Nat → Nat} {M W : zMem} {Q : Int32 → zMem → Prop} (ok : sp_ok M t b n H L) (r : mr W M pg t b n H L wh) (hh : h < H) (hp : M (b + 3) h = nI p) (hpn : p < n) (hu : M (b + 4) h = nI u) (hu6 : u < 6) (hw2 : W 6 (96 * pg + 8 + 8 * h + 2) = nI (p + 4)) (hw3 : W 6 (96 * pg + 8 + 8 * h + 3) = nI (u + 4)) (h1 : sp_may t b h M → Q 1 W) (h0 : ¬ sp_may t b h M → Q 0 W) : wp_Model_mayBegin (nI pg) (nI h) W Q := by
  obtain ⟨ht, hd2, hb18, vt, hpl, hhd, hg⟩ := ok
  obtain ⟨⟨n1, n8, H1, H5, L1, L6⟩, hn, hH, hL, -, -, ⟨kd, hkd2, hkd⟩, -, -, -, -, -, hends, hlast, hback⟩ := vt
  obtain ⟨hpg, ⟨t0, t18, t2, t3, t19, t5, t6, trow, tun, tend⟩, hrw, hrh, hrs, hrg⟩ := r
  obtain ⟨en, hen, hen2⟩ := hends h hh
  unfold sp_may sp_held at h1 h0
  rw [hH, hp, hu, hen2] at h1 h0
  unfold wp_Model_mayBegin
  rw [show (2 : Int32) = nI 2 from rfl, e_at hpg (by omega) (by omega), if_pos (by omega), hw2, q_m4, t18, t19, q_pred (by omega)]
  have i1 : vp_in (nI h) 5 := vp_in_nI (by omega) (by omega)
  have i2 : ix (nI h) = h := q_ix (by omega)
  have core : h + 1 < H → ∀ s0 : Int32, (s0 = 1 ∧ p < en ∨ s0 = 0 ∧ ¬ p < en) → wpJ_Model_mayBegin_42 (nI pg) (nI h) Q (nI p) s0 W := by
    intro hlt s0 hs0
    unfold wpJ_Model_mayBegin_42
    rw [nI_1, show (2 : Int32) = nI 2 from rfl, show (3 : Int32) = nI 3 from rfl, e_at hpg (by omega) (by omega), if_pos (by omega)]
    have hnx := hrh (h + 1) hlt
    rcases hs0 with ⟨rfl, hpe⟩ | ⟨rfl, hpe⟩
    · refine ⟨fun c => absurd c (by decide), fun _ => ?_⟩
      have hpe' : nI p < nI en := nI_lt hpe (by omega)
      have hlt' : nI (h + 1) < nI H := nI_lt hlt (by omega)
      rcases hnx.2.2.2 with ⟨q1, q2, q3, q4⟩ | ⟨p2, u2, s2, l1, l2, l3, q1, q2, q3, q4, q5, q6⟩
      · rw [q2, q_04]
        refine ⟨fun _ => h1 ⟨hpe', fun q => ?_⟩, fun c => absurd rfl c⟩
        rw [q1] at q
        exact q.2.1 (by decide)
      · rw [q4, q_m4]
        have c4 : ¬ nI p2 = -4 := fun q => by
          have := q_neq (a := p2) (c := 4) (by omega) (by omega) (by omega)
          rw [← this]; exact q
        have c5 : ¬ nI p2 < 0 := nI_pos (by omega)
        rw [q1, q2] at h1 h0
        refine ⟨fun c => absurd c c4, fun _ => ⟨fun c => h1 ⟨hpe', fun q => ?_⟩, fun c => ⟨fun c2 => h0 (fun q => q.2 ⟨hlt', c5, ?_⟩), fun c2 => ?_⟩⟩⟩
        · rcases q.2.2 with q | q
          · exact absurd (Int32.lt_trans c q) Int32.lt_irrefl
          · rw [q.1] at c; exact absurd c Int32.lt_irrefl
        · left
          rw [Int32.not_lt] at c
          exact Int32.lt_of_le_of_ne c c2
        · rw [e_at hpg (by omega) (by omega), if_pos (by omega), q5, q_m4, e_at hpg (by omega) (by omega), if_pos (by omega), hw3, q_m4]
          refine ⟨fun c3 => h0 (fun q => q.2 ⟨hlt', c5, Or.inr ⟨c2, ?_⟩⟩), fun c3 => h1 ⟨hpe', fun q => ?_⟩⟩
          · rw [Int32.not_lt]; exact c3
          · rcases q.2.2 with q | q
            · rw [c2] at q; exact absurd q Int32.lt_irrefl
            · rw [Int32.not_le] at c3; exact q.2 c3
    · have hpe' : ¬ nI p < nI en := fun q => hpe ((nI_ltI (by omega) (by omega)).mp q)
      exact ⟨fun _ => h0 (fun q => hpe' q.1), fun c => absurd rfl c⟩
  refine ⟨fun c => ?_, fun c => ?_⟩
  · have hlt : h + 1 < H := by
      have : h ≠ H - 1 := fun q => c (by rw [← q])
      omega
    refine ⟨fun c2 => ?_, fun c2 => ⟨i1, ?_⟩⟩
    · have := hback c2 h hh
      rw [hen2] at this
      have : en = n := (nI_eq (by omega) (by omega)).mp this
      unfold wpJ_Model_mayBegin_37
      exact core hlt 1 (Or.inl ⟨rfl, by omega⟩)
    · rw [i2, tend h hh, hen2]
      refine ⟨fun c3 => core hlt 0 (Or.inr ⟨rfl, ?_⟩), fun c3 => ?_⟩
      · have := (nI_leI (a := en) (b := p) (by omega) (by omega)).mp c3
        omega
      · unfold wpJ_Model_mayBegin_37
        refine core hlt 1 (Or.inl ⟨rfl, ?_⟩)
        exact Nat.lt_of_not_le (fun q => c3 (nI_le q (by omega)))
  · have hhl : h = H - 1 := (nI_eq (by omega) (by omega)).mp c
    refine h1 ⟨?_, fun q => ?_⟩
    · rw [hhl, hlast] at hen2
      have : n = en := (nI_eq (by omega) (by omega)).mp hen2
      exact nI_lt (by omega) (by omega)
    · have := (nI_ltI (a := h + 1) (b := H) (by omega) (by omega)).mp q.1
      omega

theorem sp_start_at {t b h i j : Nat} {M : zMem} (h1 : i ≠ 1) (h2 : i ≠ 2) : sp_start t b h M (b + i) j = M (b + i) j := by
  unfold sp_start
  simp (disch := omega) only [zup_ne]
theorem sp_start_ne {t b h i j : Nat} {M : zMem} (e : j ≠ h) : sp_start t b h M (b + i) j = M (b + i) j := by
  by_cases c1 : i = 1
  · subst c1; unfold sp_start; simp (disch := omega) only [zup_ne, zup_eq, upd_ne]
  · by_cases c2 : i = 2
    · subst c2; unfold sp_start; simp (disch := omega) only [zup_ne, zup_eq, upd_ne]
    · exact sp_start_at c1 c2
theorem mr_g.keep {W W' M M' : zMem} {pg b : Nat} (h : mr_g W M pg b) (e4 : M' b 4 = M b 4) (e30 : b = 32 → M' 30 = M 30 ∧ M' 31 = M 31) (e10 : W' 10 = W 10) : mr_g W' M' pg b := fun hp hb => by
  obtain ⟨o, h0, h1, h2, h3⟩ := h hp hb
  exact ⟨o, h0, by rw [e4]; exact h1, by rw [(e30 hb).1]; exact h2, by rw [e10, (e30 hb).2]; exact h3⟩
/-- start: the reference's side -/
theorem mt_start {t b pg h n H L p : Nat} {wh : Nat → Nat} {M W : zMem} {Q : zMem → Prop} (ok : sp_ok M t b n H L) (r : mr W M pg t b n H L wh) (hh : h < H) (hp : M (b + 3) h = nI p) (hpn : p < n) (hw2 : W 6 (96 * pg + 8 + 8 * h + 2) = nI (p + 4))
    (hQ : ∀ W', mr W' (sp_start t b h M) pg t b n H L wh → mfr pg W W' → Q W') : wp_Model_put (nI pg) (nI h) 0 3 W (fun W1 => vp_in (nI h) 5 ∧ wp_Model_at (nI pg) (nI h) 2 W1 (fun r1 W2 => wp_Model_ticksOf (nI pg) (W1 8 (ix (nI h))) r1 W2 (fun r2 W3 => wp_Model_put (nI pg) (nI h) 1 r2 W3 (fun W4 => Q W4)))) := by
  obtain ⟨ht, hd2, hb18, vt, hpl, hhd, hg⟩ := ok
  obtain ⟨⟨n1, n8, H1, H5, L1, L6⟩, hn, hH, hL, -, ⟨le, hle9, hle⟩, -, -, -, -, -, -, -, -, -⟩ := vt
  obtain ⟨hpg, rt, rw1, hrh, hrs, hrg⟩ := id r
  obtain ⟨w1, w2, w3, w4, w5⟩ := id rw1
  have hb : t + 4 < b := by omega
  have i1 : vp_in (nI h) 5 := vp_in_nI (by omega) (by omega)
  have i2 : ix (nI h) = h := q_ix (by omega)
  rw [show (0 : Int32) = nI 0 from rfl, show (2 : Int32) = nI 2 from rfl, show (1 : Int32) = nI 1 from rfl, e_put hpg (by omega) (by omega), if_neg (by omega), Nat.add_zero, q_s0]
  refine ⟨i1, ?_⟩
  rw [e_at hpg (by omega) (by omega), if_pos (by omega), i2]
  have a1 : zup W 6 (96 * pg + 8 + 8 * h) 3 6 (96 * pg + 8 + 8 * h + 2) = nI (p + 4) := by simp (disch := omega) only [zup_eq, upd_ne]; exact hw2
  have a2 : zup W 6 (96 * pg + 8 + 8 * h) 3 8 h = nI (wh h) := by simp (disch := omega) only [zup_ne]; exact (w1 h hh).2
  rw [a1, a2, q_m4]
  refine mt_ticks (t := t) (b := b) (M := M) (h := h) hpg (w1 h hh).1 (by omega) ?_ hle hle9 ?_ ?_ ?_
  · simp (disch := omega) only [zup_ne]; exact rt.2.2.2.1
  · simp (disch := omega) only [zup_ne]; exact w3 h p hh hpn
  · simp (disch := omega) only [zup_eq, upd_ne]; exact w4 h p hh hpn
  rw [e_put hpg (by omega) (by omega), if_neg (by omega), q_s0]
  have ep : ix (M (b + 3) h) = p := by rw [hp]; exact q_ix (by omega)
  have es : sp_start t b h M (b + 2) h = sp_ticks t h p (M (b + 7) (h * 8 + p)) M := by
    unfold sp_start
    rw [ep]
    simp (disch := omega) only [zup_eq, upd_eq]
  have es1 : sp_start t b h M (b + 1) h = 3 := by
    unfold sp_start
    simp (disch := omega) only [zup_ne, zup_eq, upd_eq]
  have fr := sp_fr_start (t := t) (b := b) (h := h) (M := M)
  have mf : mfr pg W (zup (zup W 6 (96 * pg + 8 + 8 * h) 3) 6 (96 * pg + 8 + 8 * h + 1) (sp_ticks t h p (M (b + 7) (h * 8 + p)) M)) := by
    rw [show 96 * pg + 8 + 8 * h = 96 * pg + (8 + 8 * h + 0) by omega, show 96 * pg + (8 + 8 * h + 0) + 1 = 96 * pg + (8 + 8 * h + 1) by omega]
    exact (mfr.uph rt.2.1 H5 hh (by omega)).tr (mfr.uph (by rw [zup_ne (by omega)]; exact rt.2.1) H5 hh (by omega))
  refine hQ _ ⟨hpg, rt.moved (b := b) mf (fr.told hb18 hd2), rw1.moved mf (fr.told hb18 hd2 3 (by omega)) (fun h' p' q1 q2 => ?_) (fun h' p' q1 q2 q3 => by have := (w1 h' q1).1; simp (disch := omega) only [zup_eq, upd_ne]), fun j hj => ?_, ?_, hrg.keep ?_ ?_ ?_⟩ mf
  · rw [sp_start_at (by omega) (by omega), ← w4 h' p' q1 q2]
    simp (disch := omega) only [zup_eq, upd_ne]
  · by_cases e : j = h
    · subst e
      obtain ⟨b1, b2, b3, b4⟩ := hrh j hj
      refine ⟨?_, ?_, ?_, ?_⟩
      · rw [es1]; simp (disch := omega) only [zup_eq, upd_ne, upd_eq]
      · rw [es]; simp (disch := omega) only [zup_eq, upd_ne, upd_eq]
      · rw [sp_start_at (by omega) (by omega)]; simp (disch := omega) only [zup_eq, upd_ne, upd_eq]; exact b3
      · rw [sp_start_at (by omega) (by omega), sp_start_at (by omega) (by omega), sp_start_at (by omega) (by omega)]; simp (disch := omega) only [zup_eq, upd_ne, upd_eq]; exact b4
    · refine (hrh j hj).moved (fun i hi => ?_) (fun i i1 i6 => sp_start_ne e)
      simp (disch := omega) only [zup_eq, upd_ne]
  · obtain ⟨b1, b2, b3, b4⟩ := hrs
    have e0 := sp_start_at (t := t) (b := b) (h := h) (M := M) (i := 0) (j := 2) (by omega) (by omega)
    have e1 := sp_start_at (t := t) (b := b) (h := h) (M := M) (i := 0) (j := 3) (by omega) (by omega)
    have e2 := sp_start_at (t := t) (b := b) (h := h) (M := M) (i := 0) (j := 4) (by omega) (by omega)
    have e3 := sp_start_at (t := t) (b := b) (h := h) (M := M) (i := 0) (j := 5) (by omega) (by omega)
    rw [Nat.add_zero] at e0 e1 e2 e3
    unfold mr_s
    rw [e0, e1, e2, e3]
    simp (disch := omega) only [zup_eq, upd_ne]
    exact ⟨b1, b2, b3, b4⟩
  · have e2 := sp_start_at (t := t) (b := b) (h := h) (M := M) (i := 0) (j := 4) (by omega) (by omega)
    rw [Nat.add_zero] at e2
    exact e2
  · intro _
    unfold sp_start
    simp (disch := omega) only [zup_ne, and_self]
  · simp (disch := omega) only [zup_ne]
theorem mt_new {t b pg n H L : Nat} {wh : Nat → Nat} {M W : zMem} {Q : Int32 → zMem → Prop} (ok : sp_ok M t b n H L) (r : mr W M pg t b n H L wh) (hl : M (b + 2) 0 = 0)
    (hQ : ∀ W', mr W' (sp_new t b M) pg t b n H L wh → mfr pg W W' → Q 1 W') : wp_Model_of (nI pg) 4 W (fun zr16 zm15 => vp_in (10 + zr16) 100 ∧ ∀ zx17 : Int32, zx17 = zm15 4 (ix (10 + zr16)) → wp_Model_put (nI pg) (nI 0) 0 2 zm15 (fun zm18 => wp_Model_put (nI pg) (nI 0) 4 zx17 zm18 (fun zm20 => wp_Model_pieceFrom zx17 0 zm20 (fun zr23 zm22 => wp_Model_put (nI pg) (nI 0) 2 zr23 zm22 (fun zm24 => wp_Model_put (nI pg) (nI 0) 3 0 zm24 (fun zm26 => wp_Model_of (nI pg) 4 zm26 (fun zr29 zm28 => vp_in 6 100 ∧ (¬ (zm28 4 (ix 6)) = 0) ∧ vp_in ((96 * (nI pg)) + 4) 384 ∧ ∀ zm30 : zMem, zm30 = zup zm28 6 (ix ((96 * (nI pg)) + 4)) ((zr29 + 1) - (zr29 + 1) / (zm28 4 (ix 6)) * (zm28 4 (ix 6))) → Q 1 zm30))))))) := by
  obtain ⟨ht, hd2, hb18, vt, ⟨pl, hpl, hpl2⟩, hhd, hg⟩ := id ok
  obtain ⟨⟨n1, n8, H1, H5, L1, L6⟩, hn, hH, hL, -, -, -, -, hrow, hun, hpf, -, -, -, -⟩ := id vt
  obtain ⟨hpg, rt, rw1, hrh, hrs, hrg⟩ := id r
  obtain ⟨t0, t18, t2, t3, t19, t5, t6, trow, tun, tend⟩ := id rt
  obtain ⟨w1, w2, w3, w4, w5⟩ := id rw1
  obtain ⟨c1, c2, c3, c4⟩ := id hrs
  have hb : t + 4 < b := by omega
  obtain ⟨s, hs3, hs⟩ := hrow pl hpl
  have e1 : ix (M b 5) = pl := by rw [hpl2]; exact q_ix (by omega)
  have e2 : ix (M (t + 1) pl) = s := by rw [hs]; exact q_ix (by omega)
  have e3 : ix (M t 0) = n := by rw [hn]; exact q_ix (by omega)
  have hq := hpf s hs3
  generalize hqd : sp_pf (fun i => M (t + 2) (s * 8 + i)) n 0 = q at hq
  have en : sp_new t b M = zup (zup (zup (zup (zup M b 5 (nI ((pl + 1) % L))) (b + 1) 0 2) (b + 3) 0 (nI q)) (b + 4) 0 0) (b + 5) 0 (nI s) := by
    unfold sp_new
    dsimp only
    rw [e1, e2, e3, hqd, hs, hL, hpl2, nI_1]
    by_cases c : L ≤ pl + 1
    · rw [if_pos (nI_le c (by omega)), show (pl + 1) % L = 0 by rw [show pl + 1 = L by omega]; exact Nat.mod_self L]
      rfl
    · rw [if_neg (by rw [Int32.not_le]; exact nI_lt (by omega) (by omega)), Nat.mod_eq_of_lt (by omega)]
  have i1 : ix (10 + nI pl) = 10 + pl := by simp (disch := omega) only [q_lit, q_add, q_mul, q_sub, q_ix, q_in, q_lt, q_le, q_eq, q_nlt, q_nle, q_ltn, q_len, q_neq, q_eqn, zup_ne, zup_eq, zset_ne, zset_eq, upd_eq, upd_ne, forall_eq, true_and, and_true, true_implies, false_implies, implies_true, not_true_eq_false, not_false_eq_true, and_self, ↓reduceIte, false_and, and_false]
  have i2 : vp_in (10 + nI pl) 100 := by simp (disch := omega) only [q_lit, q_add, q_mul, q_sub, q_ix, q_in, q_lt, q_le, q_eq, q_nlt, q_nle, q_ltn, q_len, q_neq, q_eqn, zup_ne, zup_eq, zset_ne, zset_eq, upd_eq, upd_ne, forall_eq, true_and, and_true, true_implies, false_implies, implies_true, not_true_eq_false, not_false_eq_true, and_self, ↓reduceIte, false_and, and_false]
  have i3 : ix (96 * nI pg + nI 4) = 96 * pg + 4 := by simp (disch := omega) only [q_lit, q_add, q_mul, q_sub, q_ix, q_in, q_lt, q_le, q_eq, q_nlt, q_nle, q_ltn, q_len, q_neq, q_eqn, zup_ne, zup_eq, zset_ne, zset_eq, upd_eq, upd_ne, forall_eq, true_and, and_true, true_implies, false_implies, implies_true, not_true_eq_false, not_false_eq_true, and_self, ↓reduceIte, false_and, and_false]
  have i4 : vp_in (96 * nI pg + nI 4) 384 := by simp (disch := omega) only [q_lit, q_add, q_mul, q_sub, q_ix, q_in, q_lt, q_le, q_eq, q_nlt, q_nle, q_ltn, q_len, q_neq, q_eqn, zup_ne, zup_eq, zset_ne, zset_eq, upd_eq, upd_ne, forall_eq, true_and, and_true, true_implies, false_implies, implies_true, not_true_eq_false, not_false_eq_true, and_self, ↓reduceIte, false_and, and_false]
  have i5 : vp_in 6 100 := vp_in_nI (n := 6) (by omega) (by omega)
  have i6 : ix 6 = 6 := rfl
  rw [show (4 : Int32) = nI 4 from rfl, e_of hpg (by omega), c4, hpl2, i1]
  refine ⟨i2, fun x hx => ?_⟩
  rw [trow pl hpl, hs] at hx
  subst hx
  rw [show (0 : Int32) = nI 0 from rfl, show (2 : Int32) = nI 2 from rfl, show (3 : Int32) = nI 3 from rfl, e_put hpg (by omega) (by omega), if_neg (by omega), Nat.mul_zero, Nat.add_zero, Nat.add_zero, q_s0, e_put hpg (by omega) (by omega), if_pos (by omega), q_p4, Nat.mul_zero, Nat.add_zero]
  have hpfeq : sp_pf (fun i => zup (zup W 6 (96 * pg + 8) (nI 2)) 6 (96 * pg + 8 + 4) (nI (s + 4)) 4 (30 + 8 * s + i)) n 0 = q := by
    rw [← hqd]
    have : ∀ m p, p + m ≤ n → sp_pf (fun i => zup (zup W 6 (96 * pg + 8) (nI 2)) 6 (96 * pg + 8 + 4) (nI (s + 4)) 4 (30 + 8 * s + i)) m p = sp_pf (fun i => M (t + 2) (s * 8 + i)) m p := by
      intro m
      induction m with
      | zero => intro p _; rfl
      | succ m ih =>
        intro p hp
        unfold sp_pf
        rw [ih (p + 1) (by omega)]
        simp (disch := omega) only [zup_ne]
        rw [tun s p hs3 (by omega)]
    exact this n 0 (by omega)
  refine mt_pieceFrom (p := 0) (n := n) (by simp (disch := omega) only [zup_ne]; exact t0) n8 hs3 (by omega) ?_
  rw [Nat.sub_zero, hpfeq, if_pos hq]
  rw [e_put hpg (by omega) (by omega), if_pos (by omega), q_p4, e_put hpg (by omega) (by omega), if_pos (by omega), q_p4, Nat.mul_zero, Nat.add_zero, e_of hpg (by omega)]
  simp (disch := omega) only [zup_eq, upd_ne, zup_ne]
  rw [c4, hpl2, i6, t6, nI_1, i3, pk_rem (by omega) (by omega) (by omega)]
  refine ⟨i5, nI_ne0 (by omega) (by omega), i4, fun W' hW' => ?_⟩
  subst hW'
  have fr := sp_fr_new (t := t) (b := b) (M := M)
  rw [en] at fr hQ
  have hmod : (pl + 1) % L < L := Nat.mod_lt _ (by omega)
  generalize hW' : zup (zup (zup (zup (zup W 6 (96 * pg + 8) (nI 2)) 6 (96 * pg + 8 + 4) (nI (s + 4))) 6 (96 * pg + 8 + 2) (nI (q + 4))) 6 (96 * pg + 8 + 3) (nI (0 + 4))) 6 (96 * pg + 4) (nI ((pl + 1) % L)) = W'
  have mf : mfr pg W W' := by
    rw [← hW', show 96 * pg + 8 + 4 = 96 * pg + (8 + 8 * 0 + 4) by omega, show 96 * pg + 8 + 2 = 96 * pg + (8 + 8 * 0 + 2) by omega, show 96 * pg + 8 + 3 = 96 * pg + (8 + 8 * 0 + 3) by omega]
    exact ((((mfr.upo (by omega) (by omega)).tr (mfr.uph (by simp (disch := omega) only [zup_ne]; exact t18) H5 (by omega) (by omega))).tr (mfr.uph (by simp (disch := omega) only [zup_ne]; exact t18) H5 (by omega) (by omega))).tr (mfr.uph (by simp (disch := omega) only [zup_ne]; exact t18) H5 (by omega) (by omega))).tr (mfr.upo (by omega) (by omega))
  have rd : ∀ j, j ≠ 96 * pg + 8 → j ≠ 96 * pg + 12 → j ≠ 96 * pg + 10 → j ≠ 96 * pg + 11 → j ≠ 96 * pg + 4 → W' 6 j = W 6 j := fun j j1 j2 j3 j4 j5 => by
    rw [← hW']
    simp (disch := omega) only [zup_eq, upd_ne]
  refine hQ _ ⟨hpg, rt.moved (b := b) mf (fr.told hb18 hd2), rw1.moved mf (fr.told hb18 hd2 3 (by omega)) (fun h' p' q1 q2 => ?_) (fun h' p' q1 q2 q3 => by have := (w1 h' q1).1; exact rd _ (by omega) (by omega) (by omega) (by omega) (by omega)), fun j hj => ?_, ?_, hrg.keep ?_ ?_ ?_⟩ mf
  · rw [rd _ (by omega) (by omega) (by omega) (by omega) (by omega)]
    simp (disch := omega) only [zup_ne]
    exact w4 h' p' q1 q2
  · by_cases e : j = 0
    · subst e
      obtain ⟨b1, b2, b3, b4⟩ := hrh 0 hj
      refine ⟨?_, ?_, ?_, Or.inr ⟨q, 0, s, by omega, by omega, hs3, ?_, ?_, ?_, ?_, ?_, ?_⟩⟩
      · rw [← hW']; simp (disch := omega) only [zup_eq, zup_ne, upd_ne, upd_eq]; rfl
      · rw [rd _ (by omega) (by omega) (by omega) (by omega) (by omega)]; simp (disch := omega) only [zup_ne]; exact b2
      · rw [rd _ (by omega) (by omega) (by omega) (by omega) (by omega)]; simp (disch := omega) only [zup_ne]; exact b3
      · simp (disch := omega) only [zup_ne, zup_eq, upd_eq]
      · simp (disch := omega) only [zup_ne, zup_eq, upd_eq]; rfl
      · simp (disch := omega) only [zup_ne, zup_eq, upd_eq]
      · rw [← hW']; simp (disch := omega) only [zup_eq, zup_ne, upd_ne, upd_eq]
      · rw [← hW']; simp (disch := omega) only [zup_eq, zup_ne, upd_ne, upd_eq]
      · rw [← hW']; simp (disch := omega) only [zup_eq, zup_ne, upd_ne, upd_eq]
    · refine (hrh j hj).moved (fun i hi => rd _ (by omega) (by omega) (by omega) (by omega) (by omega)) (fun i i1 i6 => ?_)
      rcases (show i = 1 ∨ i = 2 ∨ i = 3 ∨ i = 4 ∨ i = 5 ∨ i = 6 by omega) with rfl | rfl | rfl | rfl | rfl | rfl <;> simp (disch := omega) only [zup_ne, zup_eq, upd_ne]
  · unfold mr_s
    rw [rd (96 * pg) (by omega) (by omega) (by omega) (by omega) (by omega), rd (96 * pg + 1) (by omega) (by omega) (by omega) (by omega) (by omega), rd (96 * pg + 2) (by omega) (by omega) (by omega) (by omega) (by omega)]
    refine ⟨?_, ?_, ?_, ?_⟩
    · simp (disch := omega) only [zup_ne, zup_eq, upd_ne]; exact c1
    · simp (disch := omega) only [zup_ne, zup_eq, upd_ne]; exact c2
    · simp (disch := omega) only [zup_ne, zup_eq, upd_ne]; exact c3
    · rw [← hW']; simp (disch := omega) only [zup_ne, zup_eq, upd_ne, upd_eq]
  · simp (disch := omega) only [zup_ne, zup_eq, upd_ne]
  · intro _
    simp (disch := omega) only [zup_ne, and_self]
  · rw [← hW']; simp (disch := omega) only [zup_ne]
theorem mp_pf_eq {W M : zMem} {t n s : Nat} (h : ∀ p, p < n → W 4 (30 + 8 * s + p) = M (t + 2) (s * 8 + p)) : ∀ m p, p + m ≤ n → sp_pf (fun i => W 4 (30 + 8 * s + i)) m p = sp_pf (fun i => M (t + 2) (s * 8 + i)) m p := by
  intro m
  induction m with
  | zero => intro p _; rfl
  | succ m ih =>
    intro p hp
    unfold sp_pf
    rw [ih (p + 1) (by omega), h p (by omega)]
set_option maxHeartbeats 1000000 in
theorem mt_finish {t b pg h n H L : Nat} {wh : Nat → Nat} {M W : zMem} {Q : zMem → Prop} (ok : sp_ok M t b n H L) (r : mr W M pg t b n H L wh) (hh : h < H) (h3 : M (b + 1) h = 3) (hl : M (b + 2) h = 0)
    (hQ : ∀ W', mr W' (sp_finish t b h M) pg t b n H L wh → mfr pg W W' → Q W') : wp_Model_endsUnit (nI pg) (nI h) W Q := by
  have fr := sp_fr_finish (t := t) (b := b) (h := h) (M := M)
  obtain ⟨ht, hd2, hb18, vt, hpl, hhd, hg⟩ := id ok
  obtain ⟨⟨n1, n8, H1, H5, L1, L6⟩, hn, hH, hL, ⟨wk, hwk5, hwk⟩, -, -, -, hrow, hun, hpf, -, -, -, -⟩ := id vt
  obtain ⟨hpg, rt, rw1, hrh, hrs, hrg⟩ := id r
  obtain ⟨t0, t18, t2, t3, t19, t5, t6, trow, tun, tend⟩ := id rt
  obtain ⟨w1, w2, w3, w4, w5⟩ := id rw1
  obtain ⟨c1, c2, c3, c4⟩ := id hrs
  have hb : t + 4 < b := by omega
  rcases hhd h hh with ⟨a1, -⟩ | ⟨a1, -⟩ | ⟨p, u, s, U, a1, a2, a3, a4, a5, a6, a7, a8, a9, a10⟩
  · rw [h3] at a1; exact absurd a1 (by decide)
  · rw [h3] at a1; exact absurd a1 (by decide)
  obtain ⟨b1, b2, b3, b4⟩ := id (hrh h hh)
  have e1 : ix (M (b + 3) h) = p := by rw [a5]; exact q_ix (by omega)
  have e2 : ix (M (b + 5) h) = s := by rw [a7]; exact q_ix (by omega)
  have e3 : ix (M t 0) = n := by rw [hn]; exact q_ix (by omega)
  have bb : W 6 (96 * pg + 8 + 8 * h + 2) = nI (p + 4) ∧ W 6 (96 * pg + 8 + 8 * h + 3) = nI (u + 4) ∧ W 6 (96 * pg + 8 + 8 * h + 4) = nI (s + 4) := by
    rcases b4 with ⟨q1, -⟩ | ⟨p', u', s', l1, l2, l3, q1, q2, q3, q4, q5, q6⟩
    · rw [a5] at q1
      have := q_neq (a := p) (c := 1) (by omega) (by omega) (by omega)
      exact absurd q1 (by rw [show (-1 : Int32) = -nI 1 from rfl, this]; exact fun h => h)
    · rw [a5] at q1; rw [a6] at q2; rw [a7] at q3
      have z1 : p = p' := (nI_eq (by omega) (by omega)).mp q1
      have z2 : u = u' := (nI_eq (by omega) (by omega)).mp q2
      have z3 : s = s' := (nI_eq (by omega) (by omega)).mp q3
      subst z1; subst z2; subst z3
      exact ⟨q4, q5, q6⟩
  obtain ⟨bp, bu, bs⟩ := bb
  unfold sp_finish at fr hQ
  dsimp only at fr hQ
  rw [e1, e2, e3, a6, a8, nI_1] at fr hQ
  have wh5 := (w1 h hh).1
  have wh2 := (w1 h hh).2
  unfold wp_Model_endsUnit
  have i1 : vp_in (nI h) 5 := vp_in_nI (by omega) (by omega)
  have i2 : ix (nI h) = h := q_ix (by omega)
  have i3 : vp_in (nI (96 * pg + 48 + 8 * wh h + p)) 384 := vp_in_nI (by omega) (by omega)
  have i4 : ix (nI (96 * pg + 48 + 8 * wh h + p)) = 96 * pg + 48 + 8 * wh h + p := q_ix (by omega)
  have i5 : ix (30 + 8 * nI s + nI p) = 30 + 8 * s + p := by simp (disch := omega) only [q_lit, q_add, q_mul, q_sub, q_ix, q_in, q_lt, q_le, q_eq, q_nlt, q_nle, q_ltn, q_len, q_neq, q_eqn, zup_ne, zup_eq, zset_ne, zset_eq, upd_eq, upd_ne, forall_eq, true_and, and_true, true_implies, false_implies, implies_true, not_true_eq_false, not_false_eq_true, and_self, ↓reduceIte, false_and, and_false]
  have i6 : vp_in (30 + 8 * nI s + nI p) 100 := by simp (disch := omega) only [q_lit, q_add, q_mul, q_sub, q_ix, q_in, q_lt, q_le, q_eq, q_nlt, q_nle, q_ltn, q_len, q_neq, q_eqn, zup_ne, zup_eq, zset_ne, zset_eq, upd_eq, upd_ne, forall_eq, true_and, and_true, true_implies, false_implies, implies_true, not_true_eq_false, not_false_eq_true, and_self, ↓reduceIte, false_and, and_false]
  have i7 : vp_in 0 100 := vp_in_nI (n := 0) (by omega) (by omega)
  rw [show (2 : Int32) = nI 2 from rfl, show (3 : Int32) = nI 3 from rfl, show (4 : Int32) = nI 4 from rfl, e_at hpg (by omega) (by omega), if_pos (by omega), bp, q_m4, e_at hpg (by omega) (by omega), if_pos (by omega), bs, q_m4, i2, wh2, e_learntAt]
  refine ⟨i1, i3, i3, fun W1 hW1 => ?_⟩
  rw [i4, w4 h p hh a1] at hW1
  rw [show (0 : Int32) = nI 0 from rfl, show (1 : Int32) = nI 1 from rfl, e_at hpg (by omega) (by omega), if_pos (by omega)]
  have x1 : W1 6 (96 * pg + 8 + 8 * h + 3) = nI (u + 4) := by rw [hW1]; simp (disch := omega) only [zup_eq, upd_ne]; exact bu
  rw [x1, q_m4, q_add, e_put hpg (by omega) (by omega), if_pos (by omega), q_p4, e_put hpg (by omega) (by omega), if_neg (by omega), q_s0, Nat.add_zero, e_at hpg (by omega) (by omega), if_pos (by omega)]
  generalize hW2 : zup (zup W1 6 (96 * pg + 8 + 8 * h + 3) (nI (u + 1 + 4))) 6 (96 * pg + 8 + 8 * h) (nI 2) = W2
  have x2 : W2 6 (96 * pg + 8 + 8 * h + 3) = nI (u + 1 + 4) := by rw [← hW2]; simp (disch := omega) only [zup_eq, upd_ne, upd_eq]
  have mf2 : mfr pg W W2 := by
    rw [← hW2, hW1, show 96 * pg + 48 + 8 * wh h + p = 96 * pg + (48 + 8 * wh h + p) by omega, show 96 * pg + 8 + 8 * h + 3 = 96 * pg + (8 + 8 * h + 3) by omega, show 96 * pg + 8 + 8 * h = 96 * pg + (8 + 8 * h + 0) by omega]
    exact ((mfr.upo (by have := (w1 h hh).1; omega) (by omega)).tr (mfr.uph (by simp (disch := omega) only [zup_ne]; exact t18) H5 hh (by omega))).tr (mfr.uph (by simp (disch := omega) only [zup_ne]; exact t18) H5 hh (by omega))
  have rd2 : ∀ j, j ≠ 96 * pg + 48 + 8 * wh h + p → j ≠ 96 * pg + 8 + 8 * h + 3 → j ≠ 96 * pg + 8 + 8 * h → W2 6 j = W 6 j := fun j j1 j2 j3 => by
    rw [← hW2, hW1]
    simp (disch := omega) only [zup_eq, upd_ne]
  have rl2 : W2 6 (96 * pg + 48 + 8 * wh h + p) = M (b + 7) (h * 8 + p) + 1 := by rw [← hW2, hW1]; simp (disch := omega) only [zup_eq, upd_ne, upd_eq]
  have rw0 : W2 6 (96 * pg + 8 + 8 * h) = 2 := by rw [← hW2]; simp (disch := omega) only [zup_eq, upd_eq]; rfl
  have rk : ∀ k, k ≠ 6 → W2 k = W k := fun k hk => by rw [← hW2, hW1]; simp (disch := omega) only [zup_ne]
  clear hW2
  rw [x2, q_m4, i5, rk 4 (by omega), tun s p a2 a1, a8]
  -- the memory of the class so far
  generalize hM3 : zup (zup (zup M (b + 7) (h * 8 + p) (M (b + 7) (h * 8 + p) + 1)) (b + 1) h 2) (b + 4) h (nI (u + 1)) = M3 at fr hQ
  have fr3 : sp_fr b M M3 := by
    rw [← hM3]
    exact ((sp_fr.up (i := 7) (by omega) (by omega)).tr (sp_fr.up (i := 1) (by omega) (by omega))).tr (sp_fr.up (i := 4) (by omega) (by omega))
  have r0 : ∀ j, M3 b j = M b j := fun j => by rw [← hM3]; simp (disch := omega) only [zup_ne]
  have r1 : M3 (b + 1) h = 2 := by rw [← hM3]; simp (disch := omega) only [zup_ne, zup_eq, upd_eq]
  have r4 : M3 (b + 4) h = nI (u + 1) := by rw [← hM3]; simp (disch := omega) only [zup_ne, zup_eq, upd_eq]
  have r2 : ∀ j, M3 (b + 2) j = M (b + 2) j := fun j => by rw [← hM3]; simp (disch := omega) only [zup_ne]
  have r3 : ∀ j, M3 (b + 3) j = M (b + 3) j := fun j => by rw [← hM3]; simp (disch := omega) only [zup_ne]
  have r5 : ∀ j, M3 (b + 5) j = M (b + 5) j := fun j => by rw [← hM3]; simp (disch := omega) only [zup_ne]
  have r6 : ∀ j, M3 (b + 6) j = M (b + 6) j := fun j => by rw [← hM3]; simp (disch := omega) only [zup_ne]
  have r7 : M3 (b + 7) (h * 8 + p) = M (b + 7) (h * 8 + p) + 1 := by rw [← hM3]; simp (disch := omega) only [zup_ne, zup_eq, upd_eq]
  have r7n : ∀ j, j ≠ h * 8 + p → M3 (b + 7) j = M (b + 7) j := fun j hj => by rw [← hM3]; simp (disch := omega) only [zup_ne, zup_eq, upd_ne]
  have rj : ∀ i j, 1 ≤ i → i ≤ 6 → j ≠ h → M3 (b + i) j = M (b + i) j := fun i j i1 i5 hj => by
    rw [← hM3]
    rcases (show i = 1 ∨ i = 2 ∨ i = 3 ∨ i = 4 ∨ i = 5 ∨ i = 6 by omega) with rfl | rfl | rfl | rfl | rfl | rfl <;> simp (disch := omega) only [zup_ne, zup_eq, upd_ne]
  have r30 : b = 32 → M3 30 = M 30 ∧ M3 31 = M 31 := fun _ => by rw [← hM3]; simp (disch := omega) only [zup_ne, and_self]
  clear hM3
  have hlw : ∀ h' p', h' < H → p' < n → W2 6 (96 * pg + 48 + 8 * wh h' + p') = M3 (b + 7) (h' * 8 + p') := by
    intro h' p' q1 q2
    by_cases e : h' = h ∧ p' = p
    · obtain ⟨rfl, rfl⟩ := e
      rw [rl2, r7]
    · have ne1 : h' * 8 + p' ≠ h * 8 + p := by omega
      have ne2 : 96 * pg + 48 + 8 * wh h' + p' ≠ 96 * pg + 48 + 8 * wh h + p := by
        intro q
        have : wh h' = wh h := by omega
        have := w2 h' h q1 hh this
        omega
      rw [rd2 _ ne2 (by omega) (by omega), r7n _ ne1]
      exact w4 h' p' q1 q2
  have hl5 : ∀ h' p', h' < H → n ≤ p' → p' < 8 → W2 6 (96 * pg + 48 + 8 * wh h' + p') = W 6 (96 * pg + 48 + 8 * wh h' + p') := by
    intro h' p' q1 q2 q3
    have := (w1 h' q1).1
    exact rd2 _ (by omega) (by omega) (by omega)
  refine ⟨i6, fun cne => ?_, fun ceq => ?_⟩
  · -- the unit isn't the last
    have clt : u + 1 < U := by
      have : u + 1 ≠ U := fun q => cne (by rw [q])
      omega
    rw [if_pos (nI_lt clt (by omega))] at fr hQ
    refine hQ _ ⟨hpg, rt.moved (b := b) mf2 (fr.told hb18 hd2), rw1.moved mf2 (fr.told hb18 hd2 3 (by omega)) hlw hl5, fun j hj => ?_, ?_, hrg.keep (r0 4) r30 (rk 10 (by omega))⟩ mf2
    · by_cases e : j = h
      · subst e
        refine ⟨by rw [rw0, r1], ?_, ?_, Or.inr ⟨p, u + 1, s, by omega, by omega, a2, by rw [r3]; exact a5, r4, by rw [r5]; exact a7, ?_, x2, ?_⟩⟩
        · rw [rd2 _ (by omega) (by omega) (by omega), r2]; exact b2
        · rw [rd2 _ (by omega) (by omega) (by omega), r6]; exact b3
        · rw [rd2 _ (by omega) (by omega) (by omega)]; exact bp
        · rw [rd2 _ (by omega) (by omega) (by omega)]; exact bs
      · exact (hrh j hj).moved (fun i hi => rd2 _ (by omega) (by omega) (by omega)) (fun i i1 i6 => rj i j i1 i6 e)
    · unfold mr_s
      rw [r0, r0, r0, r0, rd2 _ (by omega) (by omega) (by omega), rd2 _ (by omega) (by omega) (by omega), rd2 _ (by omega) (by omega) (by omega), rd2 _ (by omega) (by omega) (by omega)]
      exact hrs
  · have cU : u + 1 = U := (nI_eq (by omega) (by omega)).mp ceq
    have cnl : ¬ nI (u + 1) < nI U := by rw [cU]; exact Int32.lt_irrefl
    rw [if_neg cnl] at fr hQ
    rw [q_add]
    refine mt_pieceFrom (n := n) (by rw [rk 4 (by omega)]; exact t0) n8 a2 (by omega) ?_
    rw [rk 4 (by omega), mp_pf_eq (fun i hi => tun s i a2 hi) (n - (p + 1)) (p + 1) (by omega)]
    have hq1 := sp_pf_le (fun i => M (t + 2) (s * 8 + i)) (n - (p + 1)) (p + 1)
    generalize sp_pf (fun i => M (t + 2) (s * 8 + i)) (n - (p + 1)) (p + 1) = q at hq1 fr hQ ⊢
    by_cases cq : q < n
    · rw [if_pos cq] at fr hQ
      rw [if_pos cq]
      have cq4 : ¬ nI q = -nI 4 := fun z => by
        have := q_neq (a := q) (c := 4) (by omega) (by omega) (by omega)
        rw [← this]; exact z
      refine ⟨fun _ => ?_, fun z => absurd z cq4⟩
      rw [e_put hpg (by omega) (by omega), if_pos (by omega), q_p4, e_put hpg (by omega) (by omega), if_pos (by omega), q_p4]
      generalize hW3 : zup (zup W2 6 (96 * pg + 8 + 8 * h + 2) (nI (q + 4))) 6 (96 * pg + 8 + 8 * h + 3) (nI (0 + 4)) = W3
      have mf3 : mfr pg W W3 := by
        rw [← hW3, show 96 * pg + 8 + 8 * h + 2 = 96 * pg + (8 + 8 * h + 2) by omega, show 96 * pg + 8 + 8 * h + 3 = 96 * pg + (8 + 8 * h + 3) by omega]
        exact mf2.tr ((mfr.uph (by rw [mf2.1 0 (by omega) (by omega)]; exact t18) H5 hh (by omega)).tr (mfr.uph (by rw [zup_ne (by omega), mf2.1 0 (by omega) (by omega)]; exact t18) H5 hh (by omega)))
      have rd3 : ∀ j, j ≠ 96 * pg + 8 + 8 * h + 2 → j ≠ 96 * pg + 8 + 8 * h + 3 → W3 6 j = W2 6 j := fun j j1 j2 => by
        rw [← hW3]; simp (disch := omega) only [zup_eq, upd_ne]
      have y2 : W3 6 (96 * pg + 8 + 8 * h + 2) = nI (q + 4) := by rw [← hW3]; simp (disch := omega) only [zup_eq, upd_ne, upd_eq]
      have y3 : W3 6 (96 * pg + 8 + 8 * h + 3) = nI (0 + 4) := by rw [← hW3]; simp (disch := omega) only [zup_eq, upd_ne, upd_eq]
      have rk3 : W3 10 = W 10 := by rw [← hW3]; simp (disch := omega) only [zup_ne]; exact rk 10 (by omega)
      clear hW3
      refine hQ _ ⟨hpg, rt.moved (b := b) mf3 (fr.told hb18 hd2), rw1.moved mf3 (fr.told hb18 hd2 3 (by omega)) (fun h' p' q1 q2 => ?_) (fun h' p' q1 q2 q3 => by have := (w1 h' q1).1; rw [rd3 _ (by omega) (by omega)]; exact hl5 h' p' q1 q2 q3), fun j hj => ?_, ?_, hrg.keep ?_ (fun h32 => ?_) rk3⟩ mf3
      · have := (w1 h' q1).1
        rw [rd3 _ (by omega) (by omega), hlw h' p' q1 q2]
        simp (disch := omega) only [zup_ne]
      · by_cases e : j = h
        · subst e
          refine ⟨?_, ?_, ?_, Or.inr ⟨q, 0, s, by omega, by omega, a2, ?_, ?_, ?_, y2, y3, ?_⟩⟩
          · rw [rd3 _ (by omega) (by omega), rw0]; simp (disch := omega) only [zup_ne]; rw [r1]
          · rw [rd3 _ (by omega) (by omega), rd2 _ (by omega) (by omega) (by omega)]; simp (disch := omega) only [zup_ne]; rw [r2]; exact b2
          · rw [rd3 _ (by omega) (by omega), rd2 _ (by omega) (by omega) (by omega)]; simp (disch := omega) only [zup_ne]; rw [r6]; exact b3
          · simp (disch := omega) only [zup_ne, zup_eq, upd_eq]
          · simp (disch := omega) only [zup_ne, zup_eq, upd_eq]; rfl
          · simp (disch := omega) only [zup_ne]; rw [r5]; exact a7
          · rw [rd3 _ (by omega) (by omega), rd2 _ (by omega) (by omega) (by omega)]; exact bs
        · refine (hrh j hj).moved (fun i hi => ?_) (fun i i1 i6 => ?_)
          · rw [rd3 _ (by omega) (by omega)]; exact rd2 _ (by omega) (by omega) (by omega)
          · rw [← rj i j i1 i6 e]
            rcases (show i = 1 ∨ i = 2 ∨ i = 3 ∨ i = 4 ∨ i = 5 ∨ i = 6 by omega) with rfl | rfl | rfl | rfl | rfl | rfl <;> simp (disch := omega) only [zup_ne, zup_eq, upd_ne]
      · unfold mr_s
        rw [rd3 _ (by omega) (by omega), rd3 _ (by omega) (by omega), rd3 _ (by omega) (by omega), rd3 _ (by omega) (by omega), rd2 _ (by omega) (by omega) (by omega), rd2 _ (by omega) (by omega) (by omega), rd2 _ (by omega) (by omega) (by omega), rd2 _ (by omega) (by omega) (by omega)]
        simp (disch := omega) only [zup_ne]
        rw [r0, r0, r0, r0]
        exact hrs
      · simp (disch := omega) only [zup_ne]
        exact r0 4
      · simp (disch := omega) only [zup_ne]
        exact r30 h32
    · rw [if_neg cq] at fr hQ
      rw [if_neg cq]
      refine ⟨fun z => absurd rfl z, fun _ => ?_⟩
      rw [e_more hpg (by omega), rd2 _ (by omega) (by omega) (by omega), c2]
      generalize hW3 : zup W2 6 (96 * pg + 1) (M b 3 + nI 1) = W3
      have rd3 : ∀ j, j ≠ 96 * pg + 1 → W3 6 j = W2 6 j := fun j j1 => by
        rw [← hW3]; simp (disch := omega) only [zup_eq, upd_ne]
      have y1 : W3 6 (96 * pg + 1) = M b 3 + 1 := by rw [← hW3]; simp (disch := omega) only [zup_eq, upd_eq]; rfl
      have rk3 : ∀ k, k ≠ 6 → W3 k = W k := fun k hk => by rw [← hW3, zup_ne hk]; exact rk k hk
      have mf3 : mfr pg W W3 := by rw [← hW3]; exact mf2.tr (mfr.upo (by omega) (by omega))
      clear hW3
      have i8 : ix (nI 0) = 0 := rfl
      refine ⟨i7, ?_⟩
      rw [i8, rk3 4 (by omega), t0]
      generalize hM4 : zup M3 b 3 (M b 3 + 1) = M4 at fr hQ
      have s2 : M4 b 2 = M b 2 := by rw [← hM4]; simp (disch := omega) only [zup_eq, upd_ne]; exact r0 2
      have s3 : M4 b 3 = M b 3 + 1 := by rw [← hM4]; simp (disch := omega) only [zup_eq, upd_eq]
      have s4 : M4 b 4 = M b 4 := by rw [← hM4]; simp (disch := omega) only [zup_eq, upd_ne]; exact r0 4
      have s5 : M4 b 5 = M b 5 := by rw [← hM4]; simp (disch := omega) only [zup_eq, upd_ne]; exact r0 5
      have sj : ∀ i j, 1 ≤ i → M4 (b + i) j = M3 (b + i) j := fun i j i1 => by rw [← hM4]; simp (disch := omega) only [zup_ne]
      have st : ∀ i, i ≤ 4 → M4 (t + i) = M (t + i) := fun i hi => by rw [← hM4]; simp (disch := omega) only [zup_ne]; exact fr3.told hb18 hd2 i hi
      have st0 : M4 t = M t := st 0 (by omega)
      have s30 : b = 32 → M4 30 = M 30 ∧ M4 31 = M 31 := fun h32 => by rw [← hM4]; simp (disch := omega) only [zup_ne]; exact r30 h32
      clear hM4
      refine mt_goesBack (t := t) (b := b) (M := M4) (k := wk) hpg (by omega) n8 (by rw [st0]; exact hwk) hwk5 (by rw [st0, rk3 4 (by omega)]; exact t2) (fun z0 => ?_) ?_
      · rw [sj 3 _ (by omega), r3, rd3 _ (by omega), rd2 _ (by omega) (by omega) (by omega)]
        exact (hrh (h - 1) (by omega)).pc
      have gat : ∀ i j, (i = 0 ∨ 4 ≤ i ∨ j ≠ h) → sp_goBack t b h (nI n) M4 (b + i) j = M4 (b + i) j := fun i j => sp_goBack_at
      have ga0 : ∀ j, sp_goBack t b h (nI n) M4 b j = M4 b j := fun j => gat 0 j (Or.inl rfl)
      have mf4 : mfr pg W (mp_goes pg h (sp_wl t b h (nI n) M4) (if 0 < sp_wl t b h (nI n) M4 then 1 else 0) W3) := mf3.tr (mfr_goes (by rw [mf3.1 0 (by omega) (by omega)]; exact t18) H5 hh)
      refine hQ _ ⟨hpg, rt.moved (b := b) mf4 (fr.told hb18 hd2), rw1.moved mf4 (fr.told hb18 hd2 3 (by omega)) (fun h' p' q1 q2 => ?_) (fun h' p' q1 q2 q3 => by have := (w1 h' q1).1; rw [mp_goes_at (fun i hi => by omega), rd3 _ (by omega)]; exact hl5 h' p' q1 q2 q3), fun j hj => ?_, ?_, hrg.keep ?_ (fun h32 => ?_) ?_⟩ mf4
      · rw [mp_goes_at (fun i hi => by omega), rd3 _ (by omega), gat 7 _ (by omega), sj 7 _ (by omega), hlw h' p' q1 q2]
      · by_cases e : j = h
        · subst e
          refine mr_goBack ?_
          rw [rd3 _ (by omega), rd2 _ (by omega) (by omega) (by omega), sj 6 _ (by omega), r6]
          exact b3
        · refine (hrh j hj).moved (fun i hi => ?_) (fun i i1 i6 => ?_)
          · rw [mp_goes_at (fun i' hi' => by omega), rd3 _ (by omega)]; exact rd2 _ (by omega) (by omega) (by omega)
          · rw [gat i j (Or.inr (Or.inr e)), sj i j i1, rj i j i1 i6 e]
      · unfold mr_s
        rw [ga0, ga0, ga0, ga0, s2, s3, s4, s5, mp_goes_at (fun i hi => by omega), mp_goes_at (fun i hi => by omega), mp_goes_at (fun i hi => by omega), mp_goes_at (fun i hi => by omega), y1, rd3 _ (by omega), rd3 _ (by omega), rd3 _ (by omega), rd2 _ (by omega) (by omega) (by omega), rd2 _ (by omega) (by omega) (by omega), rd2 _ (by omega) (by omega) (by omega)]
        exact ⟨c1, rfl, c3, c4⟩
      · rw [ga0]; exact s4
      · have := s30 h32
        unfold sp_goBack
        simp (disch := omega) only [zup_ne]
        exact this
      · rw [mp_goes_ne (by omega)]; exact rk3 10 (by omega)
theorem mt_canBeLeft {t b pg h n H L p u : Nat} {wh : Nat → Nat} {M W : zMem} {Q : Int32 → zMem → Prop} (r : mr W M pg t b n H L wh) (H5 : H ≤ 5) (hh : h < H) (hp : M (b + 3) h = nI p) (hu : M (b + 4) h = nI u) (hu6 : u < 7) (hw2 : W 6 (96 * pg + 8 + 8 * h + 2) = nI (p + 4)) (hw3 : W 6 (96 * pg + 8 + 8 * h + 3) = nI (u + 4)) (h1 : sp_can t b h M → Q 1 W) (h0 : ¬ sp_can t b h M → Q 0 W) : wp_Model_canBeLeft (nI pg) (nI h) W Q := by
  obtain ⟨hpg, ⟨t0, t18, t2, t3, t19, t5, t6, trow, tun, tend⟩, hrw, hrh, hrs, hrg⟩ := r
  unfold sp_can at h1 h0
  rw [hp, hu] at h1 h0
  unfold wp_Model_canBeLeft
  have i1 : vp_in (nI h) 5 := vp_in_nI (by omega) (by omega)
  have i2 : ix (nI h) = h := q_ix (by omega)
  have i3 : vp_in 5 100 := vp_in_nI (n := 5) (by omega) (by omega)
  have i4 : ix 5 = 5 := rfl
  rw [show (2 : Int32) = nI 2 from rfl, show (3 : Int32) = nI 3 from rfl, e_at hpg (by omega) (by omega), if_pos (by omega), hw2, q_m4, i4, t5]
  have core : ∀ s0 : Int32, (s0 = 0 ∧ ¬ (0 < nI u ∧ ((M t 5 >>> (nI p &&& 31)) &&& 1) = 1) ∨ s0 = 1 ∧ (0 < nI u ∧ ((M t 5 >>> (nI p &&& 31)) &&& 1) = 1)) → wpJ_Model_canBeLeft_37 (nI pg) (nI h) Q (nI p) s0 W := by
    intro s0 hs0
    unfold wpJ_Model_canBeLeft_37
    rw [t19, i2, tend h hh]
    rcases hs0 with ⟨rfl, c⟩ | ⟨rfl, c⟩
    · refine ⟨fun q => absurd rfl q, fun _ => ⟨fun c2 => h1 ⟨c, fun q => c2 q.1⟩, fun c2 => ⟨i1, fun c3 => h0 (fun q => q.2 ⟨c2, c3⟩), fun c3 => h1 ⟨c, fun q => c3 q.2⟩⟩⟩⟩
    · exact ⟨fun _ => h0 (fun q => q.1 c), fun q => absurd q (by decide)⟩
  refine ⟨i3, fun c => ?_, fun c => ?_⟩
  · unfold wpJ_Model_canBeLeft_36
    exact core 0 (Or.inl ⟨rfl, fun q => c q.2⟩)
  · rw [e_at hpg (by omega) (by omega), if_pos (by omega), hw3, q_m4]
    refine ⟨fun c2 => ?_, fun c2 => ?_⟩
    · unfold wpJ_Model_canBeLeft_36
      exact core 0 (Or.inl ⟨rfl, fun q => absurd q.1 (by rw [Int32.not_lt]; exact c2)⟩)
    · exact core 1 (Or.inr ⟨rfl, by rw [← Int32.not_le]; exact c2, c⟩)
set_option maxHeartbeats 1000000 in
theorem mt_take {t b pg h n H L : Nat} {wh : Nat → Nat} {M W : zMem} {Q : Int32 → zMem → Prop} (ok : sp_ok M t b n H L) (r : mr W M pg t b n H L wh) (ho : pg = 1 → ∃ o, M b 4 = nI o ∧ o < 2147483000) (h0 : 0 < h) (hh : h < H) (hl : M (b + 2) h = 0)
    (hQ : M (b + 1) (h - 1) = 2 → sp_can t b (h - 1) M → ∀ W', mr W' (sp_take t b h M) pg t b n H L wh → mfr pg W W' → Q 1 W') (hQ0 : ¬ (M (b + 1) (h - 1) = 2 ∧ sp_can t b (h - 1) M) → Q 0 W) : wp_Model_takesOver (nI pg) (nI h) W Q := by
  have fr := sp_fr_take (t := t) (b := b) (h := h) (M := M)
  obtain ⟨ht, hd2, hb18, vt, hpl, hhd, hg⟩ := id ok
  obtain ⟨⟨n1, n8, H1, H5, L1, L6⟩, hn, hH, hL, ⟨wk, hwk5, hwk⟩, -, -, -, hrow, hun, hpf, -, -, -, -⟩ := id vt
  obtain ⟨hpg, rt, rw1, hrh, hrs, hrg⟩ := id r
  obtain ⟨t0, t18, t2, t3, t19, t5, t6, trow, tun, tend⟩ := id rt
  obtain ⟨w1, w2, w3, w4, w5⟩ := id rw1
  obtain ⟨c1, c2, c3, c4⟩ := id hrs
  have hb : t + 4 < b := by omega
  have hne : h - 1 ≠ h := by omega
  obtain ⟨b1, b2, b3, b4⟩ := id (hrh (h - 1) (by omega))
  obtain ⟨d1, d2, d3, -⟩ := id (hrh h hh)
  unfold wp_Model_takesOver
  rw [q_pred h0, show (0 : Int32) = nI 0 from rfl, show (2 : Int32) = nI 2 from rfl, show (3 : Int32) = nI 3 from rfl, show (4 : Int32) = nI 4 from rfl, e_at hpg (by omega) (by omega), if_neg (by omega), q_x0, Nat.add_zero, b1]
  refine ⟨fun cn => hQ0 (fun q => cn q.1), fun cs => ?_⟩
  have cs2 : M (b + 1) (h - 1) = 2 := cs
  rcases hhd (h - 1) (by omega) with ⟨a1, -⟩ | ⟨a1, -⟩ | ⟨p, u, s, U, a1, a2, a3, a4, a5, a6, a7, a8, a9, a10⟩
  · rw [cs2] at a1; exact absurd a1 (by decide)
  · rw [cs2] at a1; exact absurd a1 (by decide)
  have bb : W 6 (96 * pg + 8 + 8 * (h - 1) + 2) = nI (p + 4) ∧ W 6 (96 * pg + 8 + 8 * (h - 1) + 3) = nI (u + 4) ∧ W 6 (96 * pg + 8 + 8 * (h - 1) + 4) = nI (s + 4) := by
    rcases b4 with ⟨q1, -⟩ | ⟨p', u', s', l1, l2, l3, q1, q2, q3, q4, q5, q6⟩
    · rw [a5] at q1
      have := q_neq (a := p) (c := 1) (by omega) (by omega) (by omega)
      exact absurd q1 (by rw [show (-1 : Int32) = -nI 1 from rfl, this]; exact fun h => h)
    · rw [a5] at q1; rw [a6] at q2; rw [a7] at q3
      have z1 : p = p' := (nI_eq (by omega) (by omega)).mp q1
      have z2 : u = u' := (nI_eq (by omega) (by omega)).mp q2
      have z3 : s = s' := (nI_eq (by omega) (by omega)).mp q3
      subst z1; subst z2; subst z3
      exact ⟨q4, q5, q6⟩
  obtain ⟨bp, bu, bs⟩ := bb
  refine mt_canBeLeft (t := t) (b := b) (M := M) r H5 (by omega) a5 a6 (by omega) bp bu (fun hc => ⟨fun _ => ?_, fun q => absurd q (by decide)⟩) (fun hc => ⟨fun q => absurd rfl q, fun _ => hQ0 (fun q => hc q.2)⟩)
  replace hQ := hQ cs2 hc
  rw [e_at hpg (by omega) (by omega), if_pos (by omega), bp, q_m4, e_put hpg (by omega) (by omega), if_neg (by omega), q_s0, Nat.add_zero, e_put hpg (by omega) (by omega), if_pos (by omega), q_p4, e_at hpg (by omega) (by omega), if_pos (by omega)]
  have y1 : zup (zup W 6 (96 * pg + 8 + 8 * h) (nI 2)) 6 (96 * pg + 8 + 8 * h + 2) (nI (p + 4)) 6 (96 * pg + 8 + 8 * (h - 1) + 3) = nI (u + 4) := by
    simp (disch := omega) only [zup_eq, upd_ne]; exact bu
  rw [y1, q_m4, e_put hpg (by omega) (by omega), if_pos (by omega), q_p4, e_at hpg (by omega) (by omega), if_pos (by omega)]
  have y2 : zup (zup (zup W 6 (96 * pg + 8 + 8 * h) (nI 2)) 6 (96 * pg + 8 + 8 * h + 2) (nI (p + 4))) 6 (96 * pg + 8 + 8 * h + 3) (nI (u + 4)) 6 (96 * pg + 8 + 8 * (h - 1) + 4) = nI (s + 4) := by
    simp (disch := omega) only [zup_eq, upd_ne]; exact bs
  rw [y2, q_m4, e_put hpg (by omega) (by omega), if_pos (by omega), q_p4, e_of hpg (by omega)]
  generalize hW5 : zup (zup (zup (zup W 6 (96 * pg + 8 + 8 * h) (nI 2)) 6 (96 * pg + 8 + 8 * h + 2) (nI (p + 4))) 6 (96 * pg + 8 + 8 * h + 3) (nI (u + 4))) 6 (96 * pg + 8 + 8 * h + 4) (nI (s + 4)) = W5
  have x0 : W5 6 (96 * pg + 8 + 8 * h) = 2 := by rw [← hW5]; simp (disch := omega) only [zup_eq, upd_ne, upd_eq]; rfl
  have x2 : W5 6 (96 * pg + 8 + 8 * h + 2) = nI (p + 4) := by rw [← hW5]; simp (disch := omega) only [zup_eq, upd_ne, upd_eq]
  have x3 : W5 6 (96 * pg + 8 + 8 * h + 3) = nI (u + 4) := by rw [← hW5]; simp (disch := omega) only [zup_eq, upd_ne, upd_eq]
  have x4 : W5 6 (96 * pg + 8 + 8 * h + 4) = nI (s + 4) := by rw [← hW5]; simp (disch := omega) only [zup_eq, upd_ne, upd_eq]
  have xr : ∀ j, j ≠ 96 * pg + 8 + 8 * h → j ≠ 96 * pg + 8 + 8 * h + 2 → j ≠ 96 * pg + 8 + 8 * h + 3 → j ≠ 96 * pg + 8 + 8 * h + 4 → W5 6 j = W 6 j := fun j j1 j2 j3 j4 => by
    rw [← hW5]; simp (disch := omega) only [zup_eq, upd_ne]
  have xk : ∀ k, k ≠ 6 → W5 k = W k := fun k hk => by rw [← hW5]; simp (disch := omega) only [zup_ne]
  clear hW5 y1 y2
  -- the class: the memory ahead of going back
  generalize hM5 : zup (zup (zup (zup (zup M (b + 1) h 2) (b + 3) h (nI p)) (b + 4) h (nI u)) (b + 5) h (nI s)) b 4 (M b 4 + 1) = M5
  have f5 : sp_fr b M M5 := by
    rw [← hM5]
    exact ((((sp_fr.up (i := 1) (by omega) (by omega)).tr (sp_fr.up (i := 3) (by omega) (by omega))).tr (sp_fr.up (i := 4) (by omega) (by omega))).tr (sp_fr.up (i := 5) (by omega) (by omega))).tr (sp_fr.up0 (by omega))
  have g4b : M5 b 4 = M b 4 + 1 := by rw [← hM5]; simp (disch := omega) only [zup_eq, upd_eq]
  have g0 : ∀ j, j ≠ 4 → M5 b j = M b j := fun j hj => by rw [← hM5]; simp (disch := omega) only [zup_ne, zup_eq, upd_ne]
  have g1 : M5 (b + 1) h = 2 := by rw [← hM5]; simp (disch := omega) only [zup_ne, zup_eq, upd_eq]
  have g2 : ∀ j, M5 (b + 2) j = M (b + 2) j := fun j => by rw [← hM5]; simp (disch := omega) only [zup_ne]
  have g3 : M5 (b + 3) h = nI p := by rw [← hM5]; simp (disch := omega) only [zup_ne, zup_eq, upd_eq]
  have g4 : M5 (b + 4) h = nI u := by rw [← hM5]; simp (disch := omega) only [zup_ne, zup_eq, upd_eq]
  have g5 : M5 (b + 5) h = nI s := by rw [← hM5]; simp (disch := omega) only [zup_ne, zup_eq, upd_eq]
  have g6 : ∀ j, M5 (b + 6) j = M (b + 6) j := fun j => by rw [← hM5]; simp (disch := omega) only [zup_ne]
  have g7 : ∀ j, M5 (b + 7) j = M (b + 7) j := fun j => by rw [← hM5]; simp (disch := omega) only [zup_ne]
  have gj : ∀ i j, 1 ≤ i → i ≤ 6 → j ≠ h → M5 (b + i) j = M (b + i) j := fun i j i1 i5 hj => by
    rw [← hM5]
    rcases (show i = 1 ∨ i = 2 ∨ i = 3 ∨ i = 4 ∨ i = 5 ∨ i = 6 by omega) with rfl | rfl | rfl | rfl | rfl | rfl <;> simp (disch := omega) only [zup_ne, zup_eq, upd_ne]
  have g30 : b = 32 → M5 30 = M 30 ∧ M5 31 = M 31 := fun _ => by rw [← hM5]; simp (disch := omega) only [zup_ne, and_self]
  have etake : ∃ M6 : zMem, sp_take t b h M = sp_goBack t b (h - 1) (nI p) M6 ∧ (∀ k, k ≠ 30 → k ≠ 31 → M6 k = M5 k) ∧ (b = 32 → M6 = sp_note 30 (M b 2) (nI h) (nI p) (nI u) (nI s) M5) ∧ (b ≠ 32 → M6 = M5) := by
    unfold sp_take
    dsimp only
    rw [a5, a6, a7, hM5]
    rcases zlg_cases b with c | ⟨c, hb32⟩
    · rw [c]
      refine ⟨M5, rfl, fun _ _ _ => rfl, fun q => ?_, fun _ => rfl⟩
      rw [q] at c
      cases c
    · rw [c]
      exact ⟨_, rfl, fun k k1 k2 => e_note_ne k1 k2, fun _ => rfl, fun q => absurd hb32 q⟩
  clear hM5
  obtain ⟨M6, eM6, m6k, m632, m6n⟩ := etake
  rw [eM6] at fr hQ
  have m6b : ∀ i, M6 (b + i) = M5 (b + i) := fun i => by
    by_cases c : b = 32
    · exact m6k _ (by omega) (by omega)
    · rw [m6n c]
  have m6b0 : M6 b = M5 b := m6b 0
  have m6t : ∀ i, i ≤ 4 → M6 (t + i) = M (t + i) := fun i hi => by rw [m6k _ (by omega) (by omega)]; exact f5.told hb18 hd2 i hi
  -- behind the log
  have fin : ∀ W6 : zMem, W6 6 = W5 6 → (∀ k, k ≠ 6 → k ≠ 10 → W6 k = W k) → (pg ≠ 1 → W6 10 = W 10) → (pg = 1 → b = 32 → ∃ o, o < 2147483648 ∧ M b 4 + 1 = nI o ∧ M6 30 0 = nI (if o < 600 then o else 600) ∧ ∀ j, j < 5 * o → j < 3000 → W6 10 j = M6 31 j) → wpJ_Model_takesOver_180 (nI pg) (nI h) Q (nI p) W6 := by
    intro W6 k6 kk k10 klog
    unfold wpJ_Model_takesOver_180
    rw [show (2 : Int32) = nI 2 from rfl, e_more hpg (by omega), q_pred h0]
    have z1 : W6 6 (96 * pg + 2) = M b 4 := by rw [k6, xr _ (by omega) (by omega) (by omega) (by omega)]; exact c3
    rw [z1]
    generalize hW7 : zup W6 6 (96 * pg + 2) (M b 4 + 1) = W7
    have v2 : W7 6 (96 * pg + 2) = M b 4 + 1 := by rw [← hW7]; simp (disch := omega) only [zup_eq, upd_eq]
    have vr : ∀ j, j ≠ 96 * pg + 2 → W7 6 j = W5 6 j := fun j hj => by rw [← hW7]; simp (disch := omega) only [zup_eq, upd_ne]; rw [k6]
    have vk : ∀ k, k ≠ 6 → W7 k = W6 k := fun k hk => by rw [← hW7, zup_ne hk]
    clear hW7
    have mf7 : mfr pg W W7 := by
      refine ⟨fun k k1 k2 => ?_, fun j hj => ?_, fun hp1 => ?_, fun H' h' a b c => ?_⟩
      · rw [vk k k1]; exact kk k k1 k2
      · rw [vr _ (by omega), xr _ (by omega) (by omega) (by omega) (by omega)]
      · rw [vk _ (by omega)]; exact k10 hp1
      · have := (nI_eq (a := H') (b := H) (by omega) (by omega)).mp (a.symm.trans t18)
        rw [vr _ (by omega), xr _ (by omega) (by omega) (by omega) (by omega)]
    have st0 : M6 t = M t := m6t 0 (by omega)
    refine mt_goesBack (t := t) (b := b) (M := M6) (k := wk) hpg (by omega) (by omega) (by rw [st0]; exact hwk) hwk5 (by rw [st0, vk _ (by omega), kk _ (by omega) (by omega)]; exact t2) (fun z0 => ?_) ?_
    · rw [m6b, gj 3 _ (by omega) (by omega) (by omega), vr _ (by omega), xr _ (by omega) (by omega) (by omega) (by omega)]
      exact (hrh (h - 1 - 1) (by omega)).pc
    have gat : ∀ i j, (i = 0 ∨ 4 ≤ i ∨ j ≠ h - 1) → sp_goBack t b (h - 1) (nI p) M6 (b + i) j = M6 (b + i) j := fun i j => sp_goBack_at
    have ga0 : ∀ j, sp_goBack t b (h - 1) (nI p) M6 b j = M5 b j := fun j => (gat 0 j (Or.inl rfl)).trans (by rw [Nat.add_zero, m6b0])
    have mf8 := mf7.tr (mfr_goes (pg := pg) (h := h - 1) (z := sp_wl t b (h - 1) (nI p) M6) (d := if 0 < sp_wl t b (h - 1) (nI p) M6 then 1 else 0) (W := W7) (by rw [mf7.1 0 (by omega) (by omega)]; exact t18) H5 (by omega))
    refine hQ _ ⟨hpg, rt.moved (b := b) mf8 (fr.told hb18 hd2), rw1.moved mf8 (fr.told hb18 hd2 3 (by omega)) (fun h' p' q1 q2 => ?_) (fun h' p' q1 q2 q3 => by have := (w1 h' q1).1; rw [mp_goes_at (fun i hi => by omega), vr _ (by omega), xr _ (by omega) (by omega) (by omega) (by omega)]), fun j hj => ?_, ?_, fun hp1 hb32 => ?_⟩ mf8
    · rw [mp_goes_at (fun i hi => by omega), vr _ (by omega), xr _ (by omega) (by omega) (by omega) (by omega), gat 7 _ (by omega), m6b, g7]
      exact w4 h' p' q1 q2
    · by_cases e : j = h
      · subst e
        refine ⟨?_, ?_, ?_, Or.inr ⟨p, u, s, by omega, by omega, a2, ?_, ?_, ?_, ?_, ?_, ?_⟩⟩
        · rw [mp_goes_at (fun i hi => by omega), vr _ (by omega), x0, gat 1 _ (by omega), m6b, g1]
        · rw [mp_goes_at (fun i hi => by omega), vr _ (by omega), xr _ (by omega) (by omega) (by omega) (by omega), gat 2 _ (by omega), m6b, g2]; exact d2
        · rw [mp_goes_at (fun i hi => by omega), vr _ (by omega), xr _ (by omega) (by omega) (by omega) (by omega), gat 6 _ (by omega), m6b, g6]; exact d3
        · rw [gat 3 _ (by omega), m6b, g3]
        · rw [gat 4 _ (by omega), m6b, g4]
        · rw [gat 5 _ (by omega), m6b, g5]
        · rw [mp_goes_at (fun i hi => by omega), vr _ (by omega), x2]
        · rw [mp_goes_at (fun i hi => by omega), vr _ (by omega), x3]
        · rw [mp_goes_at (fun i hi => by omega), vr _ (by omega), x4]
      · by_cases e2 : j = h - 1
        · subst e2
          refine mr_goBack ?_
          rw [vr _ (by omega), xr _ (by omega) (by omega) (by omega) (by omega), m6b, g6]
          exact b3
        · refine (hrh j hj).moved (fun i hi => ?_) (fun i i1 i6 => ?_)
          · rw [mp_goes_at (fun i' hi' => by omega), vr _ (by omega), xr _ (by omega) (by omega) (by omega) (by omega)]
          · rw [gat i j (Or.inr (Or.inr e2)), m6b, gj i j i1 i6 e]
    · unfold mr_s
      rw [ga0, ga0, ga0, ga0, g0 2 (by omega), g0 3 (by omega), g4b, g0 5 (by omega), mp_goes_at (fun i hi => by omega), mp_goes_at (fun i hi => by omega), mp_goes_at (fun i hi => by omega), mp_goes_at (fun i hi => by omega), v2, vr _ (by omega), vr _ (by omega), vr _ (by omega), xr _ (by omega) (by omega) (by omega) (by omega), xr _ (by omega) (by omega) (by omega) (by omega), xr _ (by omega) (by omega) (by omega) (by omega)]
      exact ⟨c1, c2, rfl, c4⟩
    · obtain ⟨o, o0, o1, o2, o3⟩ := klog hp1 hb32
      have gb30 : sp_goBack t b (h - 1) (nI p) M6 30 = M6 30 := by unfold sp_goBack; simp (disch := omega) only [zup_ne]
      have gb31 : sp_goBack t b (h - 1) (nI p) M6 31 = M6 31 := by unfold sp_goBack; simp (disch := omega) only [zup_ne]
      refine ⟨o, o0, by rw [ga0, g4b]; exact o1, by rw [gb30]; exact o2, fun j j1 j2 => ?_⟩
      rw [mp_goes_ne (by omega), vk _ (by omega), gb31]
      exact o3 j j1 j2
  have z5 : W5 6 (96 * pg + 2) = M b 4 := by rw [xr _ (by omega) (by omega) (by omega) (by omega)]; exact c3
  rw [z5]
  refine ⟨fun cp => ?_, fun cp => ?_⟩
  · have cp1 : pg ≠ 1 := fun q => cp (by rw [q]; rfl)
    exact fin W5 rfl (fun k k1 _ => xk k k1) (fun _ => xk 10 (by omega)) (fun q => absurd q cp1)
  · have cp1 : pg = 1 := (nI_eq (a := pg) (b := 1) (by omega) (by omega)).mp cp
    obtain ⟨o, ho1, ho2⟩ := ho cp1
    rw [ho1]
    refine ⟨fun c6 => ?_, fun c6 => ?_⟩
    · have c6' : 600 ≤ o := (nI_leI (a := 600) (b := o) (by omega) (by omega)).mp c6
      refine fin W5 rfl (fun k k1 _ => xk k k1) (fun _ => xk 10 (by omega)) (fun _ hb32 => ?_)
      obtain ⟨o', q0, q1, q2, q3⟩ := hrg cp1 hb32
      rw [ho1] at q1
      have : o = o' := (nI_eq (by omega) q0).mp q1
      subst this
      have z30 : M5 30 0 = nI 600 := by rw [(g30 hb32).1, q2, if_neg (by omega)]
      have e6 : M6 = M5 := by
        rw [m632 hb32]
        unfold sp_note
        rw [z30, if_neg (by decide)]
      refine ⟨o + 1, by omega, by rw [ho1, nI_1], ?_, fun j j1 j2 => ?_⟩
      · rw [e6, z30, if_neg (by omega)]
      · rw [xk 10 (by omega), e6, (g30 hb32).2]
        exact q3 j (by omega) j2
    · have c6' : o < 600 := Nat.lt_of_not_le (fun q => c6 (nI_le (a := 600) q (by omega)))
      have j0 : ix (5 * nI o) = 5 * o := by simp (disch := omega) only [q_lit, q_add, q_mul, q_sub, q_ix, q_in, q_lt, q_le, q_eq, q_nlt, q_nle, q_ltn, q_len, q_neq, q_eqn, zup_ne, zup_eq, zset_ne, zset_eq, upd_eq, upd_ne, forall_eq, true_and, and_true, true_implies, false_implies, implies_true, not_true_eq_false, not_false_eq_true, and_self, ↓reduceIte, false_and, and_false]
      have k0 : vp_in (5 * nI o) 3000 := by simp (disch := omega) only [q_lit, q_add, q_mul, q_sub, q_ix, q_in, q_lt, q_le, q_eq, q_nlt, q_nle, q_ltn, q_len, q_neq, q_eqn, zup_ne, zup_eq, zset_ne, zset_eq, upd_eq, upd_ne, forall_eq, true_and, and_true, true_implies, false_implies, implies_true, not_true_eq_false, not_false_eq_true, and_self, ↓reduceIte, false_and, and_false]
      have j1 : ix (5 * nI o + 1) = 5 * o + 1 := by simp (disch := omega) only [q_lit, q_add, q_mul, q_sub, q_ix, q_in, q_lt, q_le, q_eq, q_nlt, q_nle, q_ltn, q_len, q_neq, q_eqn, zup_ne, zup_eq, zset_ne, zset_eq, upd_eq, upd_ne, forall_eq, true_and, and_true, true_implies, false_implies, implies_true, not_true_eq_false, not_false_eq_true, and_self, ↓reduceIte, false_and, and_false]
      have k1 : vp_in (5 * nI o + 1) 3000 := by simp (disch := omega) only [q_lit, q_add, q_mul, q_sub, q_ix, q_in, q_lt, q_le, q_eq, q_nlt, q_nle, q_ltn, q_len, q_neq, q_eqn, zup_ne, zup_eq, zset_ne, zset_eq, upd_eq, upd_ne, forall_eq, true_and, and_true, true_implies, false_implies, implies_true, not_true_eq_false, not_false_eq_true, and_self, ↓reduceIte, false_and, and_false]
      have j2 : ix (5 * nI o + nI 2) = 5 * o + 2 := by simp (disch := omega) only [q_lit, q_add, q_mul, q_sub, q_ix, q_in, q_lt, q_le, q_eq, q_nlt, q_nle, q_ltn, q_len, q_neq, q_eqn, zup_ne, zup_eq, zset_ne, zset_eq, upd_eq, upd_ne, forall_eq, true_and, and_true, true_implies, false_implies, implies_true, not_true_eq_false, not_false_eq_true, and_self, ↓reduceIte, false_and, and_false]
      have k2 : vp_in (5 * nI o + nI 2) 3000 := by simp (disch := omega) only [q_lit, q_add, q_mul, q_sub, q_ix, q_in, q_lt, q_le, q_eq, q_nlt, q_nle, q_ltn, q_len, q_neq, q_eqn, zup_ne, zup_eq, zset_ne, zset_eq, upd_eq, upd_ne, forall_eq, true_and, and_true, true_implies, false_implies, implies_true, not_true_eq_false, not_false_eq_true, and_self, ↓reduceIte, false_and, and_false]
      have j3 : ix (5 * nI o + nI 3) = 5 * o + 3 := by simp (disch := omega) only [q_lit, q_add, q_mul, q_sub, q_ix, q_in, q_lt, q_le, q_eq, q_nlt, q_nle, q_ltn, q_len, q_neq, q_eqn, zup_ne, zup_eq, zset_ne, zset_eq, upd_eq, upd_ne, forall_eq, true_and, and_true, true_implies, false_implies, implies_true, not_true_eq_false, not_false_eq_true, and_self, ↓reduceIte, false_and, and_false]
      have k3 : vp_in (5 * nI o + nI 3) 3000 := by simp (disch := omega) only [q_lit, q_add, q_mul, q_sub, q_ix, q_in, q_lt, q_le, q_eq, q_nlt, q_nle, q_ltn, q_len, q_neq, q_eqn, zup_ne, zup_eq, zset_ne, zset_eq, upd_eq, upd_ne, forall_eq, true_and, and_true, true_implies, false_implies, implies_true, not_true_eq_false, not_false_eq_true, and_self, ↓reduceIte, false_and, and_false]
      have j4 : ix (5 * nI o + nI 4) = 5 * o + 4 := by simp (disch := omega) only [q_lit, q_add, q_mul, q_sub, q_ix, q_in, q_lt, q_le, q_eq, q_nlt, q_nle, q_ltn, q_len, q_neq, q_eqn, zup_ne, zup_eq, zset_ne, zset_eq, upd_eq, upd_ne, forall_eq, true_and, and_true, true_implies, false_implies, implies_true, not_true_eq_false, not_false_eq_true, and_self, ↓reduceIte, false_and, and_false]
      have k4 : vp_in (5 * nI o + nI 4) 3000 := by simp (disch := omega) only [q_lit, q_add, q_mul, q_sub, q_ix, q_in, q_lt, q_le, q_eq, q_nlt, q_nle, q_ltn, q_len, q_neq, q_eqn, zup_ne, zup_eq, zset_ne, zset_eq, upd_eq, upd_ne, forall_eq, true_and, and_true, true_implies, false_implies, implies_true, not_true_eq_false, not_false_eq_true, and_self, ↓reduceIte, false_and, and_false]
      rw [e_of hpg (by omega), Nat.add_zero, j0, j1, j2, j3, j4]
      have z0 : W5 6 (96 * pg) = M b 2 := by rw [xr _ (by omega) (by omega) (by omega) (by omega)]; exact c1
      rw [z0]
      refine ⟨k0, fun Wa hWa => ⟨k1, fun Wb hWb => ⟨k2, fun Wc hWc => ?_⟩⟩⟩
      have zc : Wc 6 = W5 6 := by rw [hWc, hWb, hWa]; simp (disch := omega) only [zup_ne]
      rw [e_at hpg (by omega) (by omega), if_pos (by omega), zc, x3, q_m4]
      refine ⟨k3, fun Wd hWd => ?_⟩
      have zd : Wd 6 = W5 6 := by rw [hWd]; simp (disch := omega) only [zup_ne]; exact zc
      rw [e_at hpg (by omega) (by omega), if_pos (by omega), zd, x4, q_m4]
      refine ⟨k4, fun We hWe => ?_⟩
      have ze : We 6 = W5 6 := by rw [hWe]; simp (disch := omega) only [zup_ne]; exact zd
      refine fin We ze (fun k ka kb => ?_) (fun q => absurd cp1 q) (fun _ hb32 => ?_)
      · rw [hWe, hWd, hWc, hWb, hWa]
        simp (disch := omega) only [zup_ne]
        exact xk k ka
      · obtain ⟨o', q0, q1, q2, q3⟩ := hrg cp1 hb32
        rw [ho1] at q1
        have : o = o' := (nI_eq (by omega) q0).mp q1
        subst this
        have z30 : M5 30 0 = nI o := by rw [(g30 hb32).1, q2, if_pos c6']
        have zi : ix (nI o) = o := q_ix (by omega)
        have e6 : M6 = zup (zup (zup (zup (zup (zup M5 31 (o * 5) (M b 2)) 31 (o * 5 + 1) (nI h)) 31 (o * 5 + 2) (nI p)) 31 (o * 5 + 3) (nI u)) 31 (o * 5 + 4) (nI s)) 30 0 (nI (o + 1)) := by
          rw [m632 hb32]
          unfold sp_note
          rw [z30, if_pos (show nI o < 600 from nI_lt (a := o) (b := 600) c6' (by omega)), zi, nI_1]
        refine ⟨o + 1, by omega, by rw [ho1, nI_1], ?_, fun j ja jb => ?_⟩
        · rw [e6]
          simp (disch := omega) only [zup_eq, upd_eq]
          by_cases c : o + 1 < 600
          · rw [if_pos c]
          · rw [if_neg c, show o + 1 = 600 by omega]
        · rw [e6, hWe, hWd, hWc, hWb, hWa]
          rcases (show j < 5 * o ∨ j = 5 * o ∨ j = 5 * o + 1 ∨ j = 5 * o + 2 ∨ j = 5 * o + 3 ∨ j = 5 * o + 4 by omega) with c | c | c | c | c | c
          · simp (disch := omega) only [zup_eq, zup_ne, upd_ne]
            rw [xk 10 (by omega), (g30 hb32).2]
            exact q3 j c jb
          all_goals
            rw [show o * 5 = 5 * o by omega]
            subst c
            simp (disch := omega) only [zup_eq, zup_ne, upd_ne, upd_eq]
theorem sp_goBack_b {t b h j : Nat} {f : Int32} {M : zMem} : sp_goBack t b h f M b j = M b j := by
  unfold sp_goBack
  simp (disch := omega) only [zup_ne]
theorem mt_does {t b pg h n H L : Nat} {wh : Nat → Nat} {M W : zMem} {Q : Int32 → zMem → Prop} (ok : sp_ok M t b n H L) (r : mr W M pg t b n H L wh) (ho : pg = 1 → ∃ o, M b 4 = nI o ∧ o < 2147483000) (hh : h < H)
    (hQ : ∀ M', sp_hand t b h M = some M' → ∀ W', mr W' M' pg t b n H L wh → mfr pg W W' → Q 1 W') (hQ0 : sp_hand t b h M = none → Q 0 W) : wp_Model_does (nI pg) (nI h) W Q := by
  obtain ⟨ht, hd2, hb18, vt, hpl, hhd, hg⟩ := id ok
  obtain ⟨⟨n1, n8, H1, H5, L1, L6⟩, hn, hH, hL, -⟩ := id vt
  obtain ⟨hpg, rt, rw1, hrh, hrs, hrg⟩ := id r
  obtain ⟨b1, b2, b3, b4⟩ := id (hrh h hh)
  unfold wp_Model_does
  rw [show (0 : Int32) = nI 0 from rfl, show (1 : Int32) = nI 1 from rfl, e_at hpg (by omega) (by omega), if_neg (by omega), q_x0, Nat.add_zero, b1, e_at hpg (by omega) (by omega), if_neg (by omega), q_x0, b2]
  unfold sp_hand at hQ hQ0
  rcases hhd h hh with ⟨a1, a2, a3⟩ | ⟨a1, a2, a3⟩ | ⟨p, u, s, U, a1, a2, a3, a4, a5, a6, a7, a8, a9, a10⟩
  · rw [a1, a2] at hQ hQ0 ⊢
    rw [if_pos rfl, if_neg (by decide), if_pos rfl] at hQ hQ0
    refine ⟨fun _ => ?_, fun c => absurd c (by decide)⟩
    unfold wpJ_Model_does_31
    refine ⟨fun c => absurd rfl c, fun _ => ⟨fun c => ?_, fun c => ?_⟩⟩
    · have c0 : 0 < h := Nat.pos_of_ne_zero (fun q => c (by rw [q]; rfl))
      have c1 : ¬ h = 0 := by omega
      rw [if_neg c1] at hQ hQ0
      unfold wpJ_Model_does_123
      refine ⟨fun c => absurd rfl c, fun _ => ?_⟩
      refine mt_take ok r ho c0 hh a2 (fun q1 q2 W' r' f' => ⟨zbo_1, ?_⟩) (fun q => ⟨zbo_0, ?_⟩)
      · rw [if_pos ⟨q1, q2⟩] at hQ
        exact hQ _ rfl W' r' f'
      · rw [if_neg q] at hQ0
        exact hQ0 rfl
    · have c0 : h = 0 := (nI_eq (a := h) (b := 0) (by omega) (by omega)).mp c
      subst c0
      rw [if_pos rfl] at hQ
      exact mt_new ok r a2 (fun W' r' f' => hQ _ rfl W' r' f')
  · have c : ¬ M (b + 2) h = 0 := fun q => by rw [q] at a2; exact absurd a2 (by decide)
    rw [if_neg c] at hQ0
    rw [a1]
    refine ⟨fun _ => ?_, fun c => absurd c (by decide)⟩
    unfold wpJ_Model_does_31
    refine ⟨fun _ => ?_, fun c => absurd c (by decide)⟩
    unfold wpJ_Model_does_123
    exact ⟨fun _ => ⟨fun _ => hQ0 rfl, fun c => absurd c (by decide)⟩, fun c => absurd c (by decide)⟩
  · have bb : W 6 (96 * pg + 8 + 8 * h + 2) = nI (p + 4) ∧ W 6 (96 * pg + 8 + 8 * h + 3) = nI (u + 4) := by
      rcases b4 with ⟨q1, -⟩ | ⟨p', u', s', l1, l2, l3, q1, q2, q3, q4, q5, q6⟩
      · rw [a5] at q1
        have := q_neq (a := p) (c := 1) (by omega) (by omega) (by omega)
        exact absurd q1 (by rw [show (-1 : Int32) = -nI 1 from rfl, this]; exact fun h => h)
      · rw [a5] at q1; rw [a6] at q2
        have z1 : p = p' := (nI_eq (by omega) (by omega)).mp q1
        have z2 : u = u' := (nI_eq (by omega) (by omega)).mp q2
        subst z1; subst z2
        exact ⟨q4, q5⟩
    rcases a9 with ⟨a9, a11⟩ | ⟨a9, a11⟩
    · rw [a9, a11] at hQ hQ0 ⊢
      rw [if_pos rfl, if_neg (by decide), if_neg (by decide), if_pos rfl] at hQ hQ0
      refine ⟨fun _ => ?_, fun c => absurd c (by decide)⟩
      unfold wpJ_Model_does_31
      refine ⟨fun _ => ?_, fun c => absurd c (by decide)⟩
      unfold wpJ_Model_does_123
      refine ⟨fun _ => ⟨fun c => absurd rfl c, fun _ => ?_⟩, fun c => absurd c (by decide)⟩
      refine mt_mayBegin ok r hh a5 a1 a6 (by omega) bb.1 bb.2 (fun c => ⟨fun q => absurd q (by decide), fun _ => ?_⟩) (fun c => ⟨fun _ => ?_, fun q => absurd rfl q⟩)
      · rw [if_pos c] at hQ
        exact mt_start ok r hh a5 a1 bb.1 (fun W' r' f' => hQ _ rfl W' r' f')
      · rw [if_neg c] at hQ0
        exact hQ0 rfl
    · rw [a9]
      rw [a9] at hQ hQ0
      refine ⟨fun c => absurd rfl c, fun _ => ⟨fun c => ?_, fun c => ?_⟩⟩
      · rw [if_neg (show ¬ M (b + 2) h = 0 from c)] at hQ0
        unfold wpJ_Model_does_31
        refine ⟨fun _ => ?_, fun c => absurd c (by decide)⟩
        unfold wpJ_Model_does_123
        exact ⟨fun _ => ⟨fun _ => hQ0 rfl, fun c => absurd c (by decide)⟩, fun c => absurd c (by decide)⟩
      · rw [if_pos (show M (b + 2) h = 0 from c), if_pos rfl] at hQ
        exact mt_finish ok r hh a9 c (fun W' r' f' => hQ _ rfl W' r' f')
/-- handings over are told by no more than what is left to do -/
def sp_ob (M : zMem) (b H C : Nat) : Prop := ∃ o, M b 4 = nI o ∧ o + sp_sum (sp_c M b) H ≤ C
theorem sp_hand_o {t b n H L h C : Nat} {M M' : zMem} (ok : sp_ok M t b n H L) (hh : h < H) (e : sp_hand t b h M = some M') (ho : sp_ob M b H C) : sp_ob M' b H C := by
  obtain ⟨o, h1, h2⟩ := ho
  obtain ⟨-, hs⟩ := sp_step ok hh e
  have hk : M' b 4 = nI o ∨ M' b 4 = nI (o + 1) := by
    unfold sp_hand at e
    split at e
    · split at e
      · cases e
        left
        unfold sp_finish
        dsimp only
        split
        · simp (disch := omega) only [zup_ne]; exact h1
        · split
          · simp (disch := omega) only [zup_ne]; exact h1
          · rw [sp_goBack_b]
            simp (disch := omega) only [zup_ne, zup_eq, upd_ne]; exact h1
      · split at e
        · split at e
          · cases e
            left
            unfold sp_new
            simp (disch := omega) only [zup_ne, zup_eq, upd_ne]; exact h1
          · split at e
            · cases e
              right
              unfold sp_take
              rcases zlg_cases b with c | ⟨c, hb32⟩
              · rw [c]
                dsimp only
                rw [sp_goBack_b]
                simp (disch := omega) only [zup_eq, upd_eq]; rw [h1, nI_1]
              · rw [c]
                dsimp only
                rw [sp_goBack_b, e_note_ne (by omega) (by omega)]
                simp (disch := omega) only [zup_eq, upd_eq]; rw [h1, nI_1]
            · cases e
        · split at e
          · split at e
            · cases e
              left
              unfold sp_start
              simp (disch := omega) only [zup_ne]; exact h1
            · cases e
          · cases e
    · cases e
  rcases hk with hk | hk
  · exact ⟨o, hk, by omega⟩
  · exact ⟨o + 1, hk, by omega⟩
set_option maxHeartbeats 1000000 in
theorem mt_round {t b pg n H L : Nat} {wh : Nat → Nat} {Q : zMem → Prop} {K : Int32 → zMem → Prop} {C : Nat} (hC : C < 2147483000) : ∀ h (s : Bool) (M W : zMem), h ≤ H → sp_ok M t b n H L → mr W M pg t b n H L wh → (pg = 1 → sp_ob M b H C) → (∀ W', mr W' (sp_rd t b h s M).2 pg t b n H L wh → mfr pg W W' → (pg = 1 → sp_ob (sp_rd t b h s M).2 b H C) → K (if (sp_rd t b h s M).1 = true then 1 else 0) W') → zlp2 (wpB_Model_settle_15 (nI pg) K Q) (h + 1) (if s = true then 1 else 0) (nI h - 1) W := by
  intro h
  induction h with
  | zero =>
    intro s M W _ ok r ob hK
    show wpB_Model_settle_15 (nI pg) K Q _ _ _ _
    unfold wpB_Model_settle_15
    refine ⟨fun _ => hK W r mfr.rf ob, fun c => absurd (show nI 0 - 1 < 0 by decide) c⟩
  | succ h ih =>
    intro s M W hh ok r ob hK
    have H5 : H ≤ 5 := ok.2.2.2.1.1.2.2.2.1
    have e1 : nI (h + 1) - 1 = nI h := nI_pred h
    have e4 : nI h + (-1) = nI h - 1 := (Int32.sub_eq_add_neg _ _).symm
    have e5 : ¬ nI h < 0 := nI_pos (by omega)
    have ho : pg = 1 → ∃ o, M b 4 = nI o ∧ o < 2147483000 := fun q => by
      obtain ⟨o, o1, o2⟩ := ob q
      exact ⟨o, o1, by omega⟩
    rw [e1]
    show wpB_Model_settle_15 (nI pg) K Q (zlp2 (wpB_Model_settle_15 (nI pg) K Q) (h + 1)) _ _ _
    unfold wpB_Model_settle_15
    refine ⟨fun c => absurd c e5, fun _ => ?_⟩
    refine mt_does ok r ho (by omega) (fun M' e W' r' f' => ⟨fun _ x hx => ?_, fun c => absurd c (by decide)⟩) (fun e => ⟨fun c => absurd rfl c, fun _ => ?_⟩)
    · unfold sp_rd at hK
      rw [e] at hK
      obtain ⟨b1, b2⟩ := sp_step ok (by omega) e
      rw [hx, e4]
      exact ih true M' W' (by omega) b1 r' (fun q => sp_hand_o ok (by omega) e (ob q)) (fun W'' r'' f'' o'' => hK W'' r'' (f'.tr f'') o'')
    · unfold sp_rd at hK
      rw [e] at hK
      have hk := ih s M W (by omega) ok r ob hK
      refine ⟨fun c x hx => ?_, fun c x hx => ?_⟩
      · rw [hx, e4]
        cases s with
        | true => exact absurd c (by decide)
        | false => exact hk
      · rw [hx, e4]
        cases s with
        | true => exact hk
        | false => exact absurd rfl c
theorem sp_rounds_1 {t b H f : Nat} {M : zMem} : sp_rounds t b H (f + 1) M = if (sp_rd t b H false M).1 = true then sp_rounds t b H f (sp_rd t b H false M).2 else (sp_rd t b H false M).2 := rfl
/-- all that is done at a tick, the reference's loop -/
theorem mt_rounds {t b pg n H L : Nat} {wh : Nat → Nat} {M W : zMem} {Q K : zMem → Prop} {C : Nat} (hC : C < 2147483000) (ok : sp_ok M t b n H L) (r : mr W M pg t b n H L wh) (ob : pg = 1 → sp_ob M b H C)
    (hK : ∀ W', mr W' (sp_all t b H M) pg t b n H L wh → mfr pg W W' → (pg = 1 → sp_ob (sp_all t b H M) b H C) → K W') : ∃ k, zlp1 (wpB_Model_settle_2 (nI pg) K Q) k 1 W := by
  unfold sp_all at hK
  refine zlp1_r (fun m s W1 => mfr pg W W1 ∧ ((s = 1 ∧ ∃ M1, sp_ok M1 t b n H L ∧ mr W1 M1 pg t b n H L wh ∧ (pg = 1 → sp_ob M1 b H C) ∧ sp_sum (sp_c M1 b) H + 1 = m ∧ sp_rounds t b H m M1 = sp_rounds t b H (sp_sum (sp_c M b) H + 1) M) ∨ (s = 0 ∧ mr W1 (sp_rounds t b H (sp_sum (sp_c M b) H + 1) M) pg t b n H L wh ∧ (pg = 1 → sp_ob (sp_rounds t b H (sp_sum (sp_c M b) H + 1) M) b H C)))) ?_ ⟨mfr.rf, Or.inl ⟨rfl, M, ok, r, ob, rfl, rfl⟩⟩
  rintro m s W1 ⟨f1, hc⟩ J hJ
  unfold wpB_Model_settle_2
  rcases hc with ⟨rfl, M1, ok1, r1, ob1, hm, heq⟩ | ⟨rfl, r1, ob1⟩
  · refine ⟨fun c => absurd c (by decide), fun _ x hx => ?_⟩
    rw [r1.2.1.2.1] at hx
    subst hx
    refine ⟨H + 1, mt_round (s := false) hC H M1 W1 (Nat.le_refl _) ok1 r1 ob1 (fun W2 r2 f2 ob2 => ?_)⟩
    obtain ⟨a1, a2, a3, a4, a5, a6⟩ := sp_rd_ok H false M1 (Nat.le_refl _) ok1
    obtain ⟨f, rfl⟩ : ∃ f, m = f + 1 := ⟨m - 1, by omega⟩
    rw [sp_rounds_1] at heq
    by_cases c : (sp_rd t b H false M1).1 = true
    · rw [if_pos c] at heq ⊢
      rcases a3 c with q | q
      · cases q
      · refine hJ (sp_sum (sp_c (sp_rd t b H false M1).2 b) H + 1) _ _ (by omega) ⟨f1.tr f2, Or.inl ⟨rfl, _, a1, r2, ob2, rfl, ?_⟩⟩
        rw [sp_rounds_fuel _ f _ (by omega) (by omega) a1]
        exact heq
    · rw [if_neg c] at heq ⊢
      rw [heq] at r2 ob2
      exact hJ 0 _ _ (by omega) ⟨f1.tr f2, Or.inr ⟨rfl, r2, ob2⟩⟩
  · exact ⟨fun _ => hK W1 r1 f1 ob1, fun c => absurd rfl c⟩
def sp_least (f : Nat → Int32) : Nat → Nat → Int32 → Int32
  | 0, _, c => c
  | m + 1, h, c => sp_least f m (h + 1) (if 0 < f h ∧ (c = 0 ∨ f h < c) then f h else c)
theorem sp_least_0 (f : Nat → Int32) : ∀ m h c, 0 ≤ c → 0 ≤ sp_least f m h c ∧ (0 < c → 0 < sp_least f m h c ∧ sp_least f m h c ≤ c) ∧ ∀ j, h ≤ j → j < h + m → 0 < f j → 0 < sp_least f m h c ∧ sp_least f m h c ≤ f j := by
  intro m
  induction m with
  | zero => intro h c hc; exact ⟨hc, fun q => ⟨q, Int32.le_refl c⟩, fun j h1 h2 => absurd h2 (by omega)⟩
  | succ m ih =>
    intro h c hc
    unfold sp_least
    by_cases c1 : 0 < f h ∧ (c = 0 ∨ f h < c)
    · rw [if_pos c1]
      obtain ⟨a1, a2, a3⟩ := ih (h + 1) (f h) (Int32.le_of_lt c1.1)
      have b1 := a2 c1.1
      refine ⟨a1, fun q => ⟨b1.1, ?_⟩, fun j h1 h2 h3 => ?_⟩
      · rcases c1.2 with e | e
        · rw [e] at q; exact absurd q (by decide)
        · exact Int32.le_trans b1.2 (Int32.le_of_lt e)
      · by_cases e : j = h
        · subst e; exact b1
        · exact a3 j (by omega) (by omega) h3
    · rw [if_neg c1]
      obtain ⟨a1, a2, a3⟩ := ih (h + 1) c hc
      refine ⟨a1, a2, fun j h1 h2 h3 => ?_⟩
      by_cases e : j = h
      · subst e
        have c2 : ¬ (c = 0 ∨ f j < c) := fun q => c1 ⟨h3, q⟩
        have c3 : ¬ c = 0 := fun q => c2 (Or.inl q)
        have c4 : c ≤ f j := Int32.not_lt.mp (fun q => c2 (Or.inr q))
        have c5 : 0 < c := Int32.lt_of_le_of_ne hc (fun q => c3 q.symm)
        exact ⟨(a2 c5).1, Int32.le_trans (a2 c5).2 c4⟩
      · exact a3 j (by omega) (by omega) h3
theorem xt_least {t b n H L : Nat} {M : zMem} {Q : Int32 → zMem → Prop} (ok : sp_ok M t b n H L) (hQ : Q (sp_least (M (b + 2)) H 0 0) M) : wp_Bench_leastLeft b M Q := by
  have H5 : H ≤ 5 := ok.2.2.2.1.1.2.2.2.1
  have eH : M (ztc (M b 0)) 1 = nI H := by rw [ok.1]; exact ok.2.2.2.1.2.2.1
  unfold wp_Bench_leastLeft
  refine zlp2_r (fun m c x M' => M' = M ∧ ∃ h, x = nI h ∧ h ≤ H ∧ m = H - h ∧ Q (sp_least (M (b + 2)) m h c) M) ?_ (n := H) ⟨rfl, 0, rfl, Nat.zero_le _, rfl, hQ⟩
  rintro m c x M' ⟨rfl, h, rfl, hh, rfl, hQ⟩ J hJ
  unfold wpB_Bench_leastLeft_4
  rw [eH]
  refine ⟨fun q => ?_, fun q => ?_⟩
  · have := (nI_leI (a := H) (b := h) (by omega) (by omega)).mp q
    rw [show H - h = 0 by omega] at hQ
    exact hQ
  · have q1 : h < H := Nat.lt_of_not_le (fun z => q (nI_le z (by omega)))
    have e1 : ix (nI h) = h := q_ix (by omega)
    have e2 : vp_in (nI h) 5 := vp_in_nI (by omega) (by omega)
    rw [e1]
    rw [show H - h = (H - (h + 1)) + 1 by omega] at hQ
    unfold sp_least at hQ
    have go : ∀ c' : Int32, Q (sp_least (M' (b + 2)) (H - (h + 1)) (h + 1) c') M' → ∀ x : Int32, x = nI h + 1 → J c' x M' := fun c' hc x hx => by
      rw [hx, nI_1]
      exact hJ (H - (h + 1)) _ _ _ (by omega) ⟨rfl, h + 1, rfl, by omega, rfl, hc⟩
    refine ⟨e2, fun c1 => ?_, fun c1 => ⟨fun c2 => ⟨e2, ?_⟩, fun c2 => ⟨e2, fun c3 => ?_, fun c3 => ⟨e2, ?_⟩⟩⟩⟩
    · rw [if_neg (fun z => absurd z.1 (Int32.not_lt.mpr c1))] at hQ
      exact go _ hQ
    · rw [if_pos ⟨Int32.not_le.mp c1, Or.inl c2⟩] at hQ
      intro y hy
      subst hy
      exact go _ hQ
    · rw [if_neg (fun z => z.2.elim c2 (fun w => absurd w (Int32.not_lt.mpr c3)))] at hQ
      exact go _ hQ
    · rw [if_pos ⟨Int32.not_le.mp c1, Or.inr (Int32.not_le.mp c3)⟩] at hQ
      intro y hy
      subst hy
      exact go _ hQ
theorem mt_least {t b pg n H L : Nat} {wh : Nat → Nat} {M W : zMem} {Q : Int32 → zMem → Prop} (ok : sp_ok M t b n H L) (r : mr W M pg t b n H L wh) (hQ : Q (sp_least (M (b + 2)) H 0 0) W) : wp_Model_least (nI pg) W Q := by
  have H5 : H ≤ 5 := ok.2.2.2.1.1.2.2.2.1
  have eH : W 0 18 = nI H := r.2.1.2.1
  obtain ⟨hpg, rt, rw1, hrh, hrs, hrg⟩ := id r
  have hhd := ok.2.2.2.2.2.1
  unfold wp_Model_least
  refine zlp2_r (fun m c x W' => W' = W ∧ 0 ≤ c ∧ ∃ h, x = nI h ∧ h ≤ H ∧ m = H - h ∧ Q (sp_least (M (b + 2)) m h c) W) ?_ (n := H) ⟨rfl, by decide, 0, rfl, Nat.zero_le _, rfl, hQ⟩
  rintro m c x W' ⟨rfl, hc0, h, rfl, hh, rfl, hQ⟩ J hJ
  unfold wpB_Model_least_4
  rw [eH]
  refine ⟨fun q => ?_, fun q => ?_⟩
  · have := (nI_leI (a := H) (b := h) (by omega) (by omega)).mp q
    rw [show H - h = 0 by omega] at hQ
    exact hQ
  · have q1 : h < H := Nat.lt_of_not_le (fun z => q (nI_le z (by omega)))
    obtain ⟨b1, b2, b3, b4⟩ := hrh h q1
    rw [show H - h = (H - (h + 1)) + 1 by omega] at hQ
    unfold sp_least at hQ
    have go : ∀ c' : Int32, 0 ≤ c' → Q (sp_least (M (b + 2)) (H - (h + 1)) (h + 1) c') W' → ∀ x : Int32, x = nI h + 1 → J c' x W' := fun c' h0 hc x hx => by
      rw [hx, nI_1]
      exact hJ (H - (h + 1)) _ _ _ (by omega) ⟨rfl, h0, h + 1, rfl, by omega, rfl, hc⟩
    have core : ∀ v : Int32, v = M (b + 2) h → wpJ_Model_least_45 (nI pg) J Q c (nI h) v W' := by
      intro v hv
      subst hv
      unfold wpJ_Model_least_45
      refine ⟨fun c1 => ?_, fun c1 => ⟨fun c2 => ?_, fun c2 => ⟨fun c3 => ?_, fun c3 => ?_⟩⟩⟩
      · rw [if_neg (fun z => absurd z.1 (Int32.not_lt.mpr c1))] at hQ
        exact go _ hc0 hQ
      · rw [if_pos ⟨Int32.not_le.mp c1, Or.inl c2⟩] at hQ
        exact go _ (Int32.le_of_lt (Int32.not_le.mp c1)) hQ
      · rw [if_neg (fun z => z.2.elim c2 (fun w => absurd w (Int32.not_lt.mpr c3)))] at hQ
        exact go _ hc0 hQ
      · rw [if_pos ⟨Int32.not_le.mp c1, Or.inr (Int32.not_le.mp c3)⟩] at hQ
        exact go _ (Int32.le_of_lt (Int32.not_le.mp c1)) hQ
    have at1 : wpJ_Model_least_34 (nI pg) J Q c (nI h) W' := by
      unfold wpJ_Model_least_34
      rw [show (1 : Int32) = nI 1 from rfl, e_at hpg (by omega) (by omega), if_neg (by omega), q_x0, b2]
      exact core _ rfl
    rw [show (0 : Int32) = nI 0 from rfl, e_at hpg (by omega) (by omega), if_neg (by omega), q_x0, Nat.add_zero, b1]
    refine ⟨fun _ => at1, fun c3 => ?_⟩
    rw [e_at hpg (by omega) (by omega), if_neg (by omega), q_x0, Nat.add_zero, b1]
    refine ⟨fun c1 => ?_, fun _ => at1⟩
    refine core _ ?_
    rcases hhd h q1 with ⟨a1, a2, a3⟩ | ⟨a1, a2, a3⟩ | ⟨p, u, s, U, a1, a2, a3, a4, a5, a6, a7, a8, a9, a10⟩
    · rw [a2]; rfl
    · exact absurd a1 c1
    · rcases a9 with ⟨a9, a11⟩ | ⟨a9, a11⟩
      · rw [a11]; rfl
      · exact absurd a9 c3
/-- a hand lets d ticks go by -/
def sp_pass1 (b h : Nat) (d : Int32) (M : zMem) : zMem :=
  if 0 < M (b + 2) h then
    if M (b + 2) h - d = 0 ∧ M (b + 1) h = 1 then zup (zup M (b + 2) h (M (b + 2) h - d)) (b + 1) h 0 else zup M (b + 2) h (M (b + 2) h - d)
  else if M (b + 1) h = 2 then zup (zup M (b + 6) h (M (b + 6) h + d)) (b + 8) (ix (M (b + 3) h)) (M (b + 8) (ix (M (b + 3) h)) + d) else zup M (b + 6) h (M (b + 6) h + d)
def sp_passes (b : Nat) (d : Int32) : Nat → Nat → zMem → zMem
  | 0, _, M => M
  | m + 1, h, M => sp_passes b d m (h + 1) (sp_pass1 b h d M)
def sp_pass (b H : Nat) (d : Int32) (M : zMem) : zMem := sp_passes b d H 0 (zup M b 2 (M b 2 + d))
theorem sp_pass1_fr {b h : Nat} {d : Int32} {M : zMem} : sp_fr b M (sp_pass1 b h d M) ∧ (∀ j, sp_pass1 b h d M b j = M b j) ∧ (∀ i j, 1 ≤ i → i ≤ 7 → (i ≠ 1 ∧ i ≠ 2 ∧ i ≠ 6 ∨ j ≠ h) → sp_pass1 b h d M (b + i) j = M (b + i) j) ∧ (∀ k, (k < b ∨ b + 9 ≤ k) → sp_pass1 b h d M k = M k) := by
  unfold sp_pass1
  have hi : ∀ i, 1 ≤ i → i ≤ 7 → i = 1 ∨ i = 2 ∨ i = 6 ∨ (i ≠ 1 ∧ i ≠ 2 ∧ i ≠ 6) := fun i _ _ => by omega
  split
  · split
    · refine ⟨(sp_fr.up (i := 2) (by omega) (by omega)).tr (sp_fr.up (i := 1) (by omega) (by omega)), fun j => by simp (disch := omega) only [zup_ne], fun i j i1 i7 hc => ?_, fun k hk => by simp (disch := omega) only [zup_ne]⟩
      rcases hi i i1 i7 with rfl | rfl | rfl | q <;> simp (disch := omega) only [zup_ne, zup_eq, upd_ne]
    · refine ⟨sp_fr.up (i := 2) (by omega) (by omega), fun j => by simp (disch := omega) only [zup_ne], fun i j i1 i7 hc => ?_, fun k hk => by simp (disch := omega) only [zup_ne]⟩
      rcases hi i i1 i7 with rfl | rfl | rfl | q <;> simp (disch := omega) only [zup_ne, zup_eq, upd_ne]
  · split
    · refine ⟨(sp_fr.up (i := 6) (by omega) (by omega)).tr (sp_fr.up (i := 8) (by omega) (by omega)), fun j => by simp (disch := omega) only [zup_ne], fun i j i1 i7 hc => ?_, fun k hk => by simp (disch := omega) only [zup_ne]⟩
      rcases hi i i1 i7 with rfl | rfl | rfl | q <;> simp (disch := omega) only [zup_ne, zup_eq, upd_ne]
    · refine ⟨sp_fr.up (i := 6) (by omega) (by omega), fun j => by simp (disch := omega) only [zup_ne], fun i j i1 i7 hc => ?_, fun k hk => by simp (disch := omega) only [zup_ne]⟩
      rcases hi i i1 i7 with rfl | rfl | rfl | q <;> simp (disch := omega) only [zup_ne, zup_eq, upd_ne]

/-- nobody has anything to do -/
def sp_st (M : zMem) (b H : Nat) : Prop := ∀ h, h < H → M (b + 1) h = 3 → 0 < M (b + 2) h
theorem sp_st_of {t b n H L : Nat} {M : zMem} (ok : sp_ok M t b n H L) (hs : ∀ j, j < H → sp_hand t b j M = none) : sp_st M b H := by
  intro h hh h3
  rcases ok.2.2.2.2.2.1 h hh with ⟨a1, a2, a3⟩ | ⟨a1, a2, a3⟩ | ⟨p, u, s, U, a1, a2, a3, a4, a5, a6, a7, a8, a9, a10⟩
  · rw [h3] at a1; exact absurd a1 (by decide)
  · rw [h3] at a1; exact absurd a1 (by decide)
  · rcases a9 with ⟨a9, -⟩ | ⟨-, a11⟩
    · rw [h3] at a9; exact absurd a9 (by decide)
    · refine Int32.lt_of_le_of_ne a11 (fun e => ?_)
      have := hs h hh
      unfold sp_hand at this
      rw [if_pos e.symm, if_pos h3] at this
      cases this
theorem i32_sub_nn {a d : Int32} (h0 : 0 < d) (h1 : d ≤ a) : 0 ≤ a - d ∧ a - d < a := by
  have e0 := Int32.lt_iff_toInt_lt.mp h0
  have e1 := Int32.le_iff_toInt_le.mp h1
  have z : (0 : Int32).toInt = 0 := by decide
  rw [z] at e0
  have hb : a.toInt < 2147483648 := Int32.toInt_lt a
  have es : (a - d).toInt = a.toInt - d.toInt := by
    rw [Int32.toInt_sub]
    apply Int.bmod_eq_of_le <;> omega
  constructor
  · rw [Int32.le_iff_toInt_le, es, z]; omega
  · rw [Int32.lt_iff_toInt_lt, es]; omega
theorem sp_hd_pass1 {t b n h : Nat} {d : Int32} {M : zMem} (hb : t + 4 < b) (hh : sp_hd M t b n h) (hst : M (b + 1) h = 3 → 0 < M (b + 2) h) (h0 : 0 < d) (hd : 0 < M (b + 2) h → d ≤ M (b + 2) h) : sp_hd (sp_pass1 b h d M) t b n h := by
  have ft : ∀ i, i ≤ 4 → sp_pass1 b h d M (t + i) = M (t + i) := fun i hi => sp_pass1_fr.2.2.2 _ (by omega)
  have ft0 : sp_pass1 b h d M t = M t := ft 0 (by omega)
  have f3 := (sp_pass1_fr (b := b) (h := h) (d := d) (M := M)).2.2.1 3 h (by omega) (by omega) (by omega)
  have f4 := (sp_pass1_fr (b := b) (h := h) (d := d) (M := M)).2.2.1 4 h (by omega) (by omega) (by omega)
  have f5 := (sp_pass1_fr (b := b) (h := h) (d := d) (M := M)).2.2.1 5 h (by omega) (by omega) (by omega)
  unfold sp_hd
  rw [ft0, ft 2 (by omega), ft 4 (by omega), f3, f4, f5]
  rcases hh with ⟨a1, a2, a3⟩ | ⟨a1, a2, a3⟩ | ⟨p, u, s, U, a1, a2, a3, a4, a5, a6, a7, a8, a9, a10⟩
  · left
    have e : sp_pass1 b h d M = zup M (b + 6) h (M (b + 6) h + d) := by
      unfold sp_pass1
      rw [a1, a2, if_neg (by decide), if_neg (by decide)]
    rw [e]
    simp (disch := omega) only [zup_ne]
    exact ⟨a1, a2, a3⟩
  · obtain ⟨z1, z2⟩ := i32_sub_nn h0 (hd a2)
    by_cases c : M (b + 2) h - d = 0
    · left
      have e : sp_pass1 b h d M = zup (zup M (b + 2) h (M (b + 2) h - d)) (b + 1) h 0 := by
        unfold sp_pass1
        rw [if_pos a2, if_pos ⟨c, a1⟩]
      rw [e]
      simp (disch := omega) only [zup_ne, zup_eq, upd_eq]
      exact ⟨trivial, c, a3⟩
    · right; left
      have e : sp_pass1 b h d M = zup M (b + 2) h (M (b + 2) h - d) := by
        unfold sp_pass1
        rw [if_pos a2, if_neg (fun q => c q.1)]
      rw [e]
      simp (disch := omega) only [zup_ne, zup_eq, upd_eq]
      exact ⟨a1, Int32.lt_of_le_of_ne z1 (fun q => c q.symm), a3⟩
  · right; right
    refine ⟨p, u, s, U, a1, a2, a3, a4, a5, a6, a7, a8, ?_, ?_⟩
    · rcases a9 with ⟨a9, a11⟩ | ⟨a9, a11⟩
      · left
        have e : sp_pass1 b h d M = zup (zup M (b + 6) h (M (b + 6) h + d)) (b + 8) (ix (M (b + 3) h)) (M (b + 8) (ix (M (b + 3) h)) + d) := by
          unfold sp_pass1
          rw [a11, if_neg (by decide), if_pos a9]
        rw [e]
        simp (disch := omega) only [zup_ne]
        exact ⟨a9, a11⟩
      · right
        obtain ⟨z1, z2⟩ := i32_sub_nn h0 (hd (hst a9))
        have e : sp_pass1 b h d M = zup M (b + 2) h (M (b + 2) h - d) := by
          unfold sp_pass1
          rw [if_pos (hst a9), if_neg (fun q => by rw [a9] at q; exact absurd q.2 (by decide))]
        rw [e]
        simp (disch := omega) only [zup_ne, zup_eq, upd_eq]
        exact ⟨a9, z1⟩
    · intro q
      refine a10 ?_
      rcases q with q | q
      · left
        by_cases c : M (b + 1) h = 3
        · exact c
        · rcases a9 with ⟨a9, a11⟩ | ⟨a9, a11⟩
          · have e : sp_pass1 b h d M (b + 1) h = M (b + 1) h := by
              unfold sp_pass1
              rw [a11, if_neg (by decide), if_pos a9]
              simp (disch := omega) only [zup_ne]
            rw [e] at q
            exact q
          · exact a9
      · exact Or.inr q
theorem sp_hd_pass1_ne {t b n h j : Nat} {d : Int32} {M : zMem} (hb : t + 4 < b) (e : j ≠ h) (hh : sp_hd M t b n j) : sp_hd (sp_pass1 b h d M) t b n j :=
  hh.moved (fun i hi => sp_pass1_fr.2.2.2 _ (by omega)) (fun i i1 i5 => sp_pass1_fr.2.2.1 i j i1 (by omega) (Or.inr e))
theorem sp_passes_fr {b : Nat} {d : Int32} : ∀ m h (M : zMem), sp_fr b M (sp_passes b d m h M) ∧ (∀ j, sp_passes b d m h M b j = M b j) ∧ (∀ i j, 1 ≤ i → i ≤ 7 → (i ≠ 1 ∧ i ≠ 2 ∧ i ≠ 6 ∨ (j < h ∨ h + m ≤ j)) → sp_passes b d m h M (b + i) j = M (b + i) j) ∧ (∀ k, (k < b ∨ b + 9 ≤ k) → sp_passes b d m h M k = M k) := by
  intro m
  induction m with
  | zero => intro h M; exact ⟨sp_fr.rf, fun _ => rfl, fun _ _ _ _ _ => rfl, fun _ _ => rfl⟩
  | succ m ih =>
    intro h M
    unfold sp_passes
    obtain ⟨a1, a2, a3, a4⟩ := ih (h + 1) (sp_pass1 b h d M)
    obtain ⟨b1, b2, b3, b4⟩ := sp_pass1_fr (b := b) (h := h) (d := d) (M := M)
    refine ⟨b1.tr a1, fun j => (a2 j).trans (b2 j), fun i j i1 i7 hc => ?_, fun k hk => (a4 k hk).trans (b4 k hk)⟩
    rw [a3 i j i1 i7 (by omega), b3 i j i1 i7 (by omega)]
theorem sp_passes_hd {t b n H : Nat} {d : Int32} (hb : t + 4 < b) (h0 : 0 < d) : ∀ m h (M : zMem), h + m = H → (∀ j, j < H → sp_hd M t b n j) → (∀ j, h ≤ j → j < H → (M (b + 1) j = 3 → 0 < M (b + 2) j) ∧ (0 < M (b + 2) j → d ≤ M (b + 2) j)) → ∀ j, j < H → sp_hd (sp_passes b d m h M) t b n j := by
  intro m
  induction m with
  | zero => intro h M _ hhd _; exact hhd
  | succ m ih =>
    intro h M hm hhd hst
    unfold sp_passes
    refine ih (h + 1) _ (by omega) (fun j hj => ?_) (fun j j1 j2 => ?_)
    · by_cases e : j = h
      · subst e
        exact sp_hd_pass1 hb (hhd j hj) (hst j (Nat.le_refl _) hj).1 h0 (hst j (Nat.le_refl _) hj).2
      · exact sp_hd_pass1_ne hb e (hhd j hj)
    · have e1 := (sp_pass1_fr (b := b) (h := h) (d := d) (M := M)).2.2.1 1 j (by omega) (by omega) (Or.inr (by omega))
      have e2 := (sp_pass1_fr (b := b) (h := h) (d := d) (M := M)).2.2.1 2 j (by omega) (by omega) (Or.inr (by omega))
      rw [e1, e2]
      exact hst j (by omega) j2
/-- d ticks may go by -/
def sp_can_pass (M : zMem) (b H : Nat) (d : Int32) : Prop := 0 < d ∧ sp_st M b H ∧ ∀ h, h < H → 0 < M (b + 2) h → d ≤ M (b + 2) h
theorem sp_pass_fr {b H : Nat} {d : Int32} {M : zMem} : sp_fr b M (sp_pass b H d M) ∧ sp_pass b H d M b 2 = M b 2 + d ∧ (∀ j, j ≠ 2 → sp_pass b H d M b j = M b j) ∧ (∀ i j, i = 3 ∨ i = 4 ∨ i = 5 ∨ i = 7 → sp_pass b H d M (b + i) j = M (b + i) j) ∧ (∀ k, (k < b ∨ b + 9 ≤ k) → sp_pass b H d M k = M k) := by
  unfold sp_pass
  obtain ⟨a1, a2, a3, a4⟩ := sp_passes_fr (b := b) (d := d) H 0 (zup M b 2 (M b 2 + d))
  refine ⟨(sp_fr.up0 (by omega)).tr a1, ?_, fun j hj => ?_, fun i j hi => ?_, fun k hk => ?_⟩
  · rw [a2]; simp (disch := omega) only [zup_eq, upd_eq]
  · rw [a2]; simp (disch := omega) only [zup_eq, upd_ne]
  · rw [a3 i j (by omega) (by omega) (by omega)]; simp (disch := omega) only [zup_ne]
  · rw [a4 k hk]; simp (disch := omega) only [zup_ne]
theorem sp_pass_ok {t b n H L : Nat} {d : Int32} {M : zMem} (ok : sp_ok M t b n H L) (hc : sp_can_pass M b H d) : sp_ok (sp_pass b H d M) t b n H L := by
  obtain ⟨f1, f2, f3, f4, f5⟩ := sp_pass_fr (b := b) (H := H) (d := d) (M := M)
  obtain ⟨ht, hd2, hb18, vt, hpl, hhd, hg⟩ := id ok
  have hb : t + 4 < b := by omega
  refine ok.of f1 (by rw [f3 5 (by omega)]; exact hpl) ?_ (fun g q => ?_)
  · unfold sp_pass
    refine sp_passes_hd hb hc.1 H 0 _ (by omega) (fun j hj => ?_) (fun j _ hj => ?_)
    · exact (hhd j hj).moved (fun i hi => by simp (disch := omega) only [zup_ne]) (fun i i1 i5 => by simp (disch := omega) only [zup_ne])
    · simp (disch := omega) only [zup_ne]
      exact ⟨hc.2.1 j hj, hc.2.2 j hj⟩
  · rcases zlg_cases b with c | ⟨c, hb32⟩
    · rw [c] at q; cases q
    · rw [c] at q
      cases q
      rw [f5 30 (by omega)]
      exact hg 30 c
theorem xt_pass {t b n H L : Nat} {d : Int32} {M : zMem} {Q : zMem → Prop} (ok : sp_ok M t b n H L) (hc : sp_can_pass M b H d) (hQ : Q (sp_pass b H d M)) : wp_Bench_letPass b d M Q := by
  obtain ⟨ht, hd2, hb18, vt, hpl, hhd, hg⟩ := id ok
  have H5 : H ≤ 5 := vt.1.2.2.2.1
  have n8 : n ≤ 8 := vt.1.2.1
  have hb : t + 4 < b := by omega
  have eH : M t 1 = nI H := vt.2.2.1
  unfold wp_Bench_letPass
  intro M1 hM1
  unfold sp_pass at hQ
  rw [← hM1] at hQ
  have k0 : M1 b 0 = M b 0 := by rw [hM1]; simp (disch := omega) only [zup_eq, upd_ne]
  have k1 : M1 t 1 = nI H := by rw [hM1]; simp (disch := omega) only [zup_ne]; exact eH
  have k2 : ∀ j, j < H → sp_hd M1 t b n j := fun j hj => by
    rw [hM1]
    exact (hhd j hj).moved (fun i hi => by simp (disch := omega) only [zup_ne]) (fun i i1 i5 => by simp (disch := omega) only [zup_ne])
  refine zlp1_r (fun m x M' => ∃ h, x = nI h ∧ h ≤ H ∧ m = H - h ∧ Q (sp_passes b d m h M') ∧ M' b 0 = M b 0 ∧ M' t 1 = nI H ∧ ∀ j, h ≤ j → j < H → sp_hd M' t b n j) ?_ (n := H) ⟨0, rfl, Nat.zero_le _, rfl, hQ, k0, k1, fun j _ hj => k2 j hj⟩
  rintro m x M' ⟨h, rfl, hh, rfl, hQ, k0, k1, k2⟩ J hJ
  unfold wpB_Bench_letPass_12
  rw [k0, ht, k1]
  refine ⟨fun q => ?_, fun q => ?_⟩
  · have := (nI_leI (a := H) (b := h) (by omega) (by omega)).mp q
    rw [show H - h = 0 by omega] at hQ
    exact hQ
  · have q1 : h < H := Nat.lt_of_not_le (fun z => q (nI_le z (by omega)))
    have e1 : ix (nI h) = h := q_ix (by omega)
    have e2 : vp_in (nI h) 5 := vp_in_nI (by omega) (by omega)
    rw [e1]
    rw [show H - h = (H - (h + 1)) + 1 by omega] at hQ
    unfold sp_passes at hQ
    have go : ∀ M'', M'' = sp_pass1 b h d M' → ∀ x : Int32, x = nI h + 1 → J x M'' := fun M'' e x hx => by
      rw [hx, nI_1, e]
      refine hJ (H - (h + 1)) _ _ (by omega) ⟨h + 1, rfl, by omega, rfl, hQ, ?_, ?_, fun j j1 j2 => ?_⟩
      · rw [sp_pass1_fr.2.1]; exact k0
      · have : sp_pass1 b h d M' t = M' t := sp_pass1_fr.2.2.2 _ (by omega)
        rw [this]; exact k1
      · exact sp_hd_pass1_ne hb (by omega) (k2 j (by omega) j2)
    unfold sp_pass1 at go
    refine ⟨e2, fun c1 => ⟨e2, e2, fun M2 hM2 => ?_⟩, fun c1 => ⟨e2, e2, fun M6 hM6 => ?_⟩⟩
    · rw [if_neg (Int32.not_lt.mpr c1)] at go
      have x1 : M2 (b + 1) h = M' (b + 1) h := by rw [hM2]; simp (disch := omega) only [zup_ne]
      have x3 : M2 (b + 3) h = M' (b + 3) h := by rw [hM2]; simp (disch := omega) only [zup_ne]
      have x8 : M2 (b + 8) = M' (b + 8) := by rw [hM2]; simp (disch := omega) only [zup_ne]
      rw [x1, x3, x8]
      refine ⟨e2, fun c2 => ?_, fun c2 => ?_⟩
      · rw [if_neg c2, ← hM2] at go
        exact go _ rfl
      · rw [if_pos c2, ← hM2] at go
        have hv : vp_in (M' (b + 3) h) 8 := by
          rcases k2 h (Nat.le_refl _) q1 with ⟨a1, -⟩ | ⟨a1, -⟩ | ⟨p, u, s, U, a1, a2, a3, a4, a5, -⟩
          · rw [c2] at a1; exact absurd a1 (by decide)
          · rw [c2] at a1; exact absurd a1 (by decide)
          · rw [a5]; exact vp_in_nI (by omega) (by omega)
        exact ⟨e2, hv, hv, fun M4 hM4 => go M4 hM4⟩
    · rw [if_pos (Int32.not_le.mp c1)] at go
      have x2 : M6 (b + 2) h = M' (b + 2) h - d := by rw [hM6]; simp (disch := omega) only [zup_eq, upd_eq]
      have x1 : M6 (b + 1) h = M' (b + 1) h := by rw [hM6]; simp (disch := omega) only [zup_ne]
      rw [x2, x1]
      refine ⟨e2, fun c2 => ?_, fun c2 => ⟨e2, fun c3 => ?_, fun c3 => ⟨e2, fun M9 hM9 => ?_⟩⟩⟩
      · rw [if_neg (fun z => c2 z.1), ← hM6] at go
        exact go _ rfl
      · rw [if_neg (fun z => c3 z.2), ← hM6] at go
        exact go _ rfl
      · rw [if_pos ⟨c2, c3⟩, ← hM6] at go
        exact go M9 hM9
/-- what the reference may change as ticks go by -/
def mfp (pg : Nat) (W W' : zMem) : Prop := (∀ k, k ≠ 6 → k ≠ 11 → W' k = W k) ∧ (∀ j, (j < 96 * pg ∨ 96 * pg + 96 ≤ j) → W' 6 j = W 6 j) ∧ (pg ≠ 1 → W' 11 = W 11) ∧ (∀ h, h < 5 → W' 6 (96 * pg + 8 + 8 * h + 2) = W 6 (96 * pg + 8 + 8 * h + 2))
theorem mfp.rf {pg : Nat} {W : zMem} : mfp pg W W := ⟨fun _ _ _ => rfl, fun _ _ => rfl, fun _ => rfl, fun _ _ => rfl⟩
theorem mfp.tr {pg : Nat} {W W1 W2 : zMem} (h1 : mfp pg W W1) (h2 : mfp pg W1 W2) : mfp pg W W2 := ⟨fun k a b => (h2.1 k a b).trans (h1.1 k a b), fun j a => (h2.2.1 j a).trans (h1.2.1 j a), fun a => (h2.2.2.1 a).trans (h1.2.2.1 a), fun h a => (h2.2.2.2 h a).trans (h1.2.2.2 h a)⟩
theorem mfp.up {pg i : Nat} {x : Int32} {W : zMem} (hi : i < 96) (ho : ∀ h, h < 5 → i ≠ 8 + 8 * h + 2) : mfp pg W (zup W 6 (96 * pg + i) x) := ⟨fun k a _ => zup_ne a, fun j a => by rw [zup_eq, upd_ne (by omega)], fun _ => zup_ne (by omega), fun h hh => by have := ho h hh; rw [zup_eq, upd_ne (by omega)]⟩
/-- where hands stood, in a run -/
def ms (W M : zMem) (pg b n : Nat) : Prop := pg = 1 → ∀ p, p < n → W 11 p = M (b + 8) p
/-- the reference's hand lets ticks go by -/
theorem mt_pass1 {t b pg h n : Nat} {d : Int32} {M W : zMem} {K : zMem → Prop} {J : Int32 → zMem → Prop} {Q : zMem → Prop} (hpg : pg < 4) (h5 : h < 5) (hb : t + 4 < b) (n8 : n ≤ 8) (hh : sp_hd M t b n h) (rh : mr_h W M pg b h) (rs : ms W M pg b n) (hst : M (b + 1) h = 3 → 0 < M (b + 2) h)
    (hJ : ∀ W', mr_h W' (sp_pass1 b h d M) pg b h → ms W' (sp_pass1 b h d M) pg b n → mfp pg W W' → (∀ j, (∀ i, i ≤ 5 → j ≠ 96 * pg + 8 + 8 * h + i) → W' 6 j = W 6 j) → J (nI (h + 1)) W') :
    wp_Model_at (nI pg) (nI h) 0 W (fun zr4 zm3 => (zr4 = 2 → wpJ_Model_pass_30 (nI pg) d J Q (nI h) zr4 zm3) ∧ (¬ zr4 = 2 → (¬ zr4 = 0 → wp_Model_at (nI pg) (nI h) 1 zm3 (fun zr16 zm15 => wp_Model_put (nI pg) (nI h) 1 (zr16 - d) zm15 (fun zm17 => (¬ zr4 = 1 → ∀ zx19 : Int32, zx19 = (nI h) + 1 → J zx19 zm17) ∧ (zr4 = 1 → wp_Model_at (nI pg) (nI h) 1 zm17 (fun zr21 zm20 => (¬ zr21 = 0 → ∀ zx22 : Int32, zx22 = (nI h) + 1 → J zx22 zm20) ∧ (zr21 = 0 → wp_Model_put (nI pg) (nI h) 0 0 zm20 (fun zm23 => ∀ zx25 : Int32, zx25 = (nI h) + 1 → J zx25 zm23))))))) ∧ (zr4 = 0 → wpJ_Model_pass_30 (nI pg) d J Q (nI h) zr4 zm3))) := by
  obtain ⟨b1, b2, b3, b4⟩ := id rh
  have go : ∀ W', (∀ x : Int32, x = nI h + 1 → J x W') ↔ J (nI (h + 1)) W' := fun W' => ⟨fun q => q _ (nI_1 h).symm, fun q x hx => by rw [hx, nI_1]; exact q⟩
  rw [show (0 : Int32) = nI 0 from rfl, show (1 : Int32) = nI 1 from rfl, e_at hpg h5 (by omega), if_neg (by omega), q_x0, Nat.add_zero, b1]
  -- waiting
  have wait : ∀ x4 : Int32, x4 = M (b + 1) h → ¬ 0 < M (b + 2) h → (x4 = 2 ∨ x4 = 0) → wpJ_Model_pass_30 (nI pg) d J Q (nI h) x4 W := by
    intro x4 hx hnl hx2
    unfold wpJ_Model_pass_30
    rw [show (5 : Int32) = nI 5 from rfl, show (2 : Int32) = nI 2 from rfl, e_at hpg h5 (by omega), if_neg (by omega), q_x0, b3, e_put hpg h5 (by omega), if_neg (by omega), q_s0]
    have mf1 : mfp pg W (zup W 6 (96 * pg + 8 + 8 * h + 5) (M (b + 6) h + d)) := by
      rw [show 96 * pg + 8 + 8 * h + 5 = 96 * pg + (8 + 8 * h + 5) by omega]
      exact mfp.up (by omega) (fun h' _ => by omega)
    have rd1 : ∀ j, (∀ i, i ≤ 5 → j ≠ 96 * pg + 8 + 8 * h + i) → zup W 6 (96 * pg + 8 + 8 * h + 5) (M (b + 6) h + d) 6 j = W 6 j := fun j hj => by
      have := hj 5 (by omega)
      simp (disch := omega) only [zup_eq, upd_ne]
    by_cases c2 : M (b + 1) h = 2
    · have e : sp_pass1 b h d M = zup (zup M (b + 6) h (M (b + 6) h + d)) (b + 8) (ix (M (b + 3) h)) (M (b + 8) (ix (M (b + 3) h)) + d) := by
        unfold sp_pass1
        rw [if_neg hnl, if_pos c2]
      rcases hh with ⟨a1, -⟩ | ⟨a1, -⟩ | ⟨p, u, s, U, a1, a2, a3, a4, a5, a6, a7, a8, a9, a10⟩
      · rw [c2] at a1; exact absurd a1 (by decide)
      · rw [c2] at a1; exact absurd a1 (by decide)
      have ep : ix (M (b + 3) h) = p := by rw [a5]; exact q_ix (by omega)
      rw [ep] at e
      rw [e] at hJ
      have rh1 : ∀ W', W' 6 = zup W 6 (96 * pg + 8 + 8 * h + 5) (M (b + 6) h + d) 6 → mr_h W' (zup (zup M (b + 6) h (M (b + 6) h + d)) (b + 8) p (M (b + 8) p + d)) pg b h := by
        intro W' e6
        unfold mr_h
        rw [e6]
        simp (disch := omega) only [zup_eq, zup_ne, upd_ne, upd_eq]
        exact ⟨b1, b2, trivial, b4⟩
      have bp : W 6 (96 * pg + 8 + 8 * h + 2) = nI (p + 4) := by
        rcases rh.pc with ⟨q1, -⟩ | ⟨p', l1, q1, q4⟩
        · rw [a5] at q1
          have := q_neq (a := p) (c := 1) (by omega) (by omega) (by omega)
          exact absurd q1 (by rw [show (-1 : Int32) = -nI 1 from rfl, this]; exact fun h => h)
        · rw [a5] at q1
          have z1 : p = p' := (nI_eq (by omega) (by omega)).mp q1
          subst z1
          exact q4
      refine ⟨fun cp => ?_, fun cp => ⟨fun c => absurd (hx.trans c2) c, fun _ => ?_⟩⟩
      · have cp1 : pg ≠ 1 := fun q => cp (by rw [q]; rfl)
        rw [go]
        exact hJ _ (rh1 _ rfl) (fun q => absurd q cp1) mf1 rd1
      · have cp1 : pg = 1 := (nI_eq (a := pg) (b := 1) (by omega) (by omega)).mp cp
        have i1 : vp_in (nI p) 8 := vp_in_nI (by omega) (by omega)
        have i2 : ix (nI p) = p := q_ix (by omega)
        rw [e_at hpg h5 (by omega), if_pos (by omega)]
        have bp' : zup W 6 (96 * pg + 8 + 8 * h + 5) (M (b + 6) h + d) 6 (96 * pg + 8 + 8 * h + 2) = nI (p + 4) := by simp (disch := omega) only [zup_eq, upd_ne]; exact bp
        rw [bp', q_m4, i2]
        refine ⟨i1, i1, fun W2 hW2 => ?_⟩
        rw [go]
        have e6 : W2 6 = zup W 6 (96 * pg + 8 + 8 * h + 5) (M (b + 6) h + d) 6 := by rw [hW2]; simp (disch := omega) only [zup_ne]
        refine hJ W2 (rh1 _ e6) (fun _ q hq => ?_) ?_ (fun j hj => by rw [e6]; exact rd1 j hj)
        · rw [hW2]
          by_cases c : q = p
          · subst c
            simp (disch := omega) only [zup_eq, zup_ne, upd_eq]
            rw [rs cp1 q hq]
          · simp (disch := omega) only [zup_eq, zup_ne, upd_ne]
            exact rs cp1 q hq
        · refine ⟨fun k k1 k2 => ?_, fun j hj => ?_, fun q => absurd cp1 q, fun h' hh' => ?_⟩
          · rw [hW2, zup_ne k2, zup_ne k1]
          · rw [e6]; exact mf1.2.1 j hj
          · rw [e6]; exact mf1.2.2.2 h' hh'
    · have e : sp_pass1 b h d M = zup M (b + 6) h (M (b + 6) h + d) := by
        unfold sp_pass1
        rw [if_neg hnl, if_neg c2]
      rw [e] at hJ
      have fin : J (nI (h + 1)) (zup W 6 (96 * pg + 8 + 8 * h + 5) (M (b + 6) h + d)) := by
        refine hJ _ ?_ (fun q p hp => ?_) mf1 rd1
        · unfold mr_h
          simp (disch := omega) only [zup_eq, zup_ne, upd_ne, upd_eq]
          exact ⟨b1, b2, trivial, b4⟩
        · simp (disch := omega) only [zup_ne]
          exact rs q p hp
      refine ⟨fun _ => (go _).mpr fin, fun _ => ⟨fun _ => (go _).mpr fin, fun c => absurd (hx.symm.trans c) c2⟩⟩
  -- working or walking
  have work : 0 < M (b + 2) h → (M (b + 1) h = 1 ∨ M (b + 1) h = 3) → wp_Model_at (nI pg) (nI h) (nI 1) W (fun zr16 zm15 => wp_Model_put (nI pg) (nI h) (nI 1) (zr16 - d) zm15 (fun zm17 => (¬ M (b + 1) h = nI 1 → ∀ zx19 : Int32, zx19 = (nI h) + nI 1 → J zx19 zm17) ∧ (M (b + 1) h = nI 1 → wp_Model_at (nI pg) (nI h) (nI 1) zm17 (fun zr21 zm20 => (¬ zr21 = nI 0 → ∀ zx22 : Int32, zx22 = (nI h) + nI 1 → J zx22 zm20) ∧ (zr21 = nI 0 → wp_Model_put (nI pg) (nI h) (nI 0) (nI 0) zm20 (fun zm23 => ∀ zx25 : Int32, zx25 = (nI h) + nI 1 → J zx25 zm23)))))) := by
    intro hl hd
    rw [e_at hpg h5 (by omega), if_neg (by omega), q_x0, b2, e_put hpg h5 (by omega), if_neg (by omega), q_s0]
    have mf1 : ∀ x, mfp pg W (zup W 6 (96 * pg + 8 + 8 * h + 1) x) := fun x => by
      rw [show 96 * pg + 8 + 8 * h + 1 = 96 * pg + (8 + 8 * h + 1) by omega]
      exact mfp.up (by omega) (fun h' _ => by omega)
    have fin1 : ¬ (M (b + 2) h - d = 0 ∧ M (b + 1) h = 1) → J (nI (h + 1)) (zup W 6 (96 * pg + 8 + 8 * h + 1) (M (b + 2) h - d)) := fun hc => by
      have e : sp_pass1 b h d M = zup M (b + 2) h (M (b + 2) h - d) := by
        unfold sp_pass1
        rw [if_pos hl, if_neg hc]
      rw [e] at hJ
      refine hJ _ ?_ (fun q p hp => ?_) (mf1 _) (fun j hj => ?_)
      · unfold mr_h
        simp (disch := omega) only [zup_eq, zup_ne, upd_ne, upd_eq]
        exact ⟨b1, trivial, b3, b4⟩
      · simp (disch := omega) only [zup_ne]
        exact rs q p hp
      · have := hj 1 (by omega)
        simp (disch := omega) only [zup_eq, upd_ne]
    refine ⟨fun c => (go _).mpr (fin1 (fun q => c q.2)), fun c => ?_⟩
    rw [e_at hpg h5 (by omega), if_neg (by omega), q_x0]
    have x1 : zup W 6 (96 * pg + 8 + 8 * h + 1) (M (b + 2) h - d) 6 (96 * pg + 8 + 8 * h + 1) = M (b + 2) h - d := by simp (disch := omega) only [zup_eq, upd_eq]
    rw [x1]
    refine ⟨fun c2 => (go _).mpr (fin1 (fun q => c2 q.1)), fun c2 => ?_⟩
    rw [e_put hpg h5 (by omega), if_neg (by omega), q_s0, Nat.add_zero]
    refine (go _).mpr ?_
    have e : sp_pass1 b h d M = zup (zup M (b + 2) h (M (b + 2) h - d)) (b + 1) h 0 := by
      unfold sp_pass1
      rw [if_pos hl, if_pos ⟨c2, c⟩]
    rw [e] at hJ
    refine hJ _ ?_ (fun q p hp => ?_) ?_ (fun j hj => ?_)
    · unfold mr_h
      simp (disch := omega) only [zup_eq, zup_ne, upd_ne, upd_eq, Nat.add_zero]
      exact ⟨rfl, trivial, b3, b4⟩
    · simp (disch := omega) only [zup_ne]
      exact rs q p hp
    · refine (mf1 (M (b + 2) h - d)).tr ?_
      rw [show 96 * pg + 8 + 8 * h + 0 = 96 * pg + (8 + 8 * h) by omega]
      exact mfp.up (by omega) (fun h' _ => by omega)
    · have := hj 1 (by omega)
      have := hj 0 (by omega)
      simp (disch := omega) only [zup_eq, upd_ne]
  refine ⟨fun c => ?_, fun c => ⟨fun c0 => ?_, fun c0 => ?_⟩⟩
  · refine wait _ rfl ?_ (Or.inl c)
    rcases hh with ⟨a1, a2, a3⟩ | ⟨a1, a2, a3⟩ | ⟨p, u, s, U, a1, a2, a3, a4, a5, a6, a7, a8, a9, a10⟩
    · rw [a2]; decide
    · rw [c] at a1; exact absurd a1 (by decide)
    · rcases a9 with ⟨a9, a11⟩ | ⟨a9, a11⟩
      · rw [a11]; decide
      · rw [c] at a9; exact absurd a9 (by decide)
  · rcases hh with ⟨a1, a2, a3⟩ | ⟨a1, a2, a3⟩ | ⟨p, u, s, U, a1, a2, a3, a4, a5, a6, a7, a8, a9, a10⟩
    · exact absurd a1 c0
    · exact work a2 (Or.inl a1)
    · rcases a9 with ⟨a9, a11⟩ | ⟨a9, a11⟩
      · exact absurd a9 c
      · exact work (hst a9) (Or.inr a9)
  · refine wait _ rfl ?_ (Or.inr c0)
    rcases hh with ⟨a1, a2, a3⟩ | ⟨a1, a2, a3⟩ | ⟨p, u, s, U, a1, a2, a3, a4, a5, a6, a7, a8, a9, a10⟩
    · rw [a2]; decide
    · rw [a1] at c0; exact absurd c0 (by decide)
    · rcases a9 with ⟨a9, a11⟩ | ⟨a9, a11⟩
      · rw [a11]; decide
      · rw [a9] at c0; exact absurd c0 (by decide)

theorem mt_pass {t b pg n H L : Nat} {wh : Nat → Nat} {d : Int32} {M W : zMem} {Q : zMem → Prop} (ok : sp_ok M t b n H L) (r : mr W M pg t b n H L wh) (rs : ms W M pg b n) (hc : sp_can_pass M b H d)
    (hQ : ∀ W', mr W' (sp_pass b H d M) pg t b n H L wh → ms W' (sp_pass b H d M) pg b n → mfp pg W W' → Q W') : wp_Model_pass (nI pg) d W Q := by
  obtain ⟨ht, hd2, hb18, vt, hpl, hhd, hg⟩ := id ok
  have H5 : H ≤ 5 := vt.1.2.2.2.1
  have n8 : n ≤ 8 := vt.1.2.1
  have hb : t + 4 < b := by omega
  obtain ⟨hpg, rt, rw1, hrh, hrs, hrg⟩ := id r
  have eH : W 0 18 = nI H := rt.2.1
  obtain ⟨w1, w2, w3, w4, w5⟩ := id rw1
  unfold wp_Model_pass
  have z1 : ∀ i, 1 ≤ i → zup M b 2 (M b 2 + d) (b + i) = M (b + i) := fun i hi => by simp (disch := omega) only [zup_ne]
  have zt : ∀ i, i ≤ 4 → zup M b 2 (M b 2 + d) (t + i) = M (t + i) := fun i hi => by simp (disch := omega) only [zup_ne]
  refine zlp1_r (fun m x W' => ∃ h M', x = nI h ∧ h ≤ H ∧ m = H - h ∧ sp_passes b d m h M' = sp_pass b H d M ∧ mfp pg W W' ∧ (∀ j, (j < 96 * pg + 8 ∨ 96 * pg + 48 ≤ j) → W' 6 j = W 6 j) ∧ (∀ j, j < H → mr_h W' M' pg b j) ∧ ms W' M' pg b n ∧ (∀ j, h ≤ j → j < H → sp_hd M' t b n j ∧ (M' (b + 1) j = 3 → 0 < M' (b + 2) j))) ?_ (n := H) ⟨0, zup M b 2 (M b 2 + d), rfl, Nat.zero_le _, rfl, rfl, mfp.rf, fun _ _ => rfl, fun j hj => ?_, fun q p hp => ?_, fun j _ hj => ⟨?_, ?_⟩⟩
  · rintro m x W' ⟨h, M', rfl, hh, rfl, hp, mf, rdx, rh, rsm, hd⟩ J hJ
    unfold wpB_Model_pass_2
    rw [mf.1 0 (by omega) (by omega), eH]
    refine ⟨fun q => ?_, fun q => ?_⟩
    · have := (nI_leI (a := H) (b := h) (by omega) (by omega)).mp q
      rw [show H - h = 0 by omega] at hp
      have hp : M' = sp_pass b H d M := hp
      subst hp
      rw [show (0 : Int32) = nI 0 from rfl, e_more hpg (by omega), Nat.add_zero, rdx _ (by omega), hrs.1]
      obtain ⟨f1, f2, f3, f4, f5⟩ := sp_pass_fr (b := b) (H := H) (d := d) (M := M)
      have mf2 : mfp pg W (zup W' 6 (96 * pg) (M b 2 + d)) := mf.tr (mfp.up (i := 0) (by omega) (fun h _ => by omega))
      have rd2 : ∀ j, j ≠ 96 * pg → zup W' 6 (96 * pg) (M b 2 + d) 6 j = W' 6 j := fun j hj => by simp (disch := omega) only [zup_eq, upd_ne]
      refine hQ _ ⟨hpg, ?_, ⟨?_, w2, ?_, fun h' p' q1 q2 => ?_, fun h' p' q1 q2 q3 => ?_⟩, fun j hj => ?_, ?_, fun hp1 hb32 => ?_⟩ (fun hp1 p hp => ?_) mf2
      · have ft0 : sp_pass b H d M t = M t := f5 _ (by omega)
        unfold mr_t
        rw [mf2.1 4 (by omega) (by omega), mf2.1 0 (by omega) (by omega), mf2.1 9 (by omega) (by omega), ft0, f5 (t + 1) (by omega), f5 (t + 2) (by omega), f5 (t + 4) (by omega)]
        exact rt
      · rw [mf2.1 8 (by omega) (by omega)]; exact w1
      · rw [mf2.1 4 (by omega) (by omega), f5 (t + 3) (by omega)]; exact w3
      · have := (w1 h' q1).1
        rw [rd2 _ (by omega), rdx _ (by omega), f4 7 _ (by omega)]
        exact w4 h' p' q1 q2
      · have := (w1 h' q1).1
        rw [rd2 _ (by omega), rdx _ (by omega)]
        exact w5 h' p' q1 q2 q3
      · exact (rh j hj).moved (fun i hi => rd2 _ (by omega)) (fun i _ _ => rfl)
      · unfold mr_s
        rw [rd2 (96 * pg + 1) (by omega), rd2 (96 * pg + 2) (by omega), rd2 (96 * pg + 4) (by omega), rdx _ (by omega), rdx _ (by omega), rdx _ (by omega), f2, f3 3 (by omega), f3 4 (by omega), f3 5 (by omega)]
        refine ⟨?_, hrs.2.1, hrs.2.2.1, hrs.2.2.2⟩
        simp (disch := omega) only [zup_eq, upd_eq]
      · obtain ⟨o, o0, o1, o2, o3⟩ := hrg hp1 hb32
        refine ⟨o, o0, by rw [f3 4 (by omega)]; exact o1, by rw [f5 30 (by omega)]; exact o2, fun j j1 j2 => ?_⟩
        rw [mf2.1 10 (by omega) (by omega), f5 31 (by omega)]
        exact o3 j j1 j2
      · simp (disch := omega) only [zup_ne]
        exact rsm hp1 p hp
    · have q1 : h < H := Nat.lt_of_not_le (fun z => q (nI_le z (by omega)))
      rw [show H - h = (H - (h + 1)) + 1 by omega] at hp
      obtain ⟨hd1, hd2'⟩ := hd h (Nat.le_refl _) q1
      refine mt_pass1 (t := t) (b := b) (n := n) (K := Q) hpg (by omega) hb n8 hd1 (rh h q1) rsm hd2' (fun W2 r2 s2 m2 x2 => ?_)
      refine hJ (H - (h + 1)) _ _ (by omega) ⟨h + 1, sp_pass1 b h d M', rfl, by omega, rfl, hp, mf.tr m2, fun j hj => ?_, fun j hj => ?_, s2, fun j j1 j2 => ⟨?_, ?_⟩⟩
      · rw [x2 j (fun i hi => by omega)]; exact rdx j hj
      · by_cases e : j = h
        · subst e; exact r2
        · exact (rh j hj).moved (fun i hi => x2 _ (fun i' hi' => by omega)) (fun i i1 i6 => sp_pass1_fr.2.2.1 i j i1 (by omega) (Or.inr e))
      · exact sp_hd_pass1_ne hb (by omega) (hd j (by omega) j2).1
      · have e1 := (sp_pass1_fr (b := b) (h := h) (d := d) (M := M')).2.2.1 1 j (by omega) (by omega) (Or.inr (by omega))
        have e2 := (sp_pass1_fr (b := b) (h := h) (d := d) (M := M')).2.2.1 2 j (by omega) (by omega) (Or.inr (by omega))
        rw [e1, e2]
        exact (hd j (by omega) j2).2
  · exact (hrh j hj).moved (fun i hi => rfl) (fun i i1 i6 => by rw [z1 i i1])
  · rw [z1 8 (by omega)]; exact rs q p hp
  · exact (hhd j hj).moved zt (fun i i1 i5 => by rw [z1 i i1])
  · rw [z1 1 (by omega), z1 2 (by omega)]
    exact hc.2.1 j hj
theorem sp_nstuck {t b n H L : Nat} {M : zMem} (ok : sp_ok M t b n H L) (hs : ∀ j, j < H → sp_hand t b j M = none) : 0 < sp_least (M (b + 2)) H 0 0 := by
  obtain ⟨ht, hd2, hb18, vt, hpl, hhd, hg⟩ := id ok
  obtain ⟨⟨n1, n8, H1, H5, L1, L6⟩, hn, hH, hL, -, -, -, -, -, -, -, -, -, hlast, -⟩ := id vt
  have hst := sp_st_of ok hs
  by_cases hex : ∃ j, j < H ∧ 0 < M (b + 2) j
  · obtain ⟨j, j1, j2⟩ := hex
    exact ((sp_least_0 (M (b + 2)) H 0 0 (by decide)).2.2 j (by omega) (by omega) j2).1
  · exfalso
    -- everybody is ready or stands
    have two : ∀ h, h < H → (M (b + 1) h = 0 ∧ M (b + 2) h = 0 ∧ M (b + 3) h = -1) ∨ (M (b + 1) h = 2 ∧ M (b + 2) h = 0) := fun h hh => by
      rcases hhd h hh with a | ⟨a1, a2, a3⟩ | ⟨p, u, s, U, a1, a2, a3, a4, a5, a6, a7, a8, a9, a10⟩
      · exact Or.inl a
      · exact absurd ⟨h, hh, a2⟩ hex
      · rcases a9 with a9 | ⟨a9, a11⟩
        · exact Or.inr a9
        · exact absurd ⟨h, hh, hst h hh a9⟩ hex
    have first : M (b + 1) 0 = 2 := by
      rcases two 0 (by omega) with ⟨a1, a2, a3⟩ | ⟨a1, a2⟩
      · have := hs 0 (by omega)
        unfold sp_hand at this
        rw [a1, a2, if_pos rfl, if_neg (by decide), if_pos rfl, if_pos rfl] at this
        cases this
      · exact a1
    have nomay : ∀ h, h < H → M (b + 1) h = 2 → ¬ sp_may t b h M := fun h hh h2 hm => by
      have := hs h hh
      unfold sp_hand at this
      have e2 : M (b + 2) h = 0 := by
        rcases two h hh with ⟨a1, a2, a3⟩ | ⟨a1, a2⟩
        · exact a2
        · exact a2
      rw [h2, e2, if_pos rfl, if_neg (by decide), if_neg (by decide), if_pos rfl, if_pos hm] at this
      cases this
    have coat : ∀ h, h < H → M (b + 1) h = 2 → ∃ p u, p < n ∧ u < 6 ∧ M (b + 3) h = nI p ∧ M (b + 4) h = nI u ∧ ((0 < u ∧ ((M t 5 >>> (nI p &&& 31)) &&& 1) = 1) → nI p < M (t + 4) h) := fun h hh h2 => by
      rcases hhd h hh with ⟨a1, -⟩ | ⟨a1, -⟩ | ⟨p, u, s, U, a1, a2, a3, a4, a5, a6, a7, a8, a9, a10⟩
      · rw [h2] at a1; exact absurd a1 (by decide)
      · rw [h2] at a1; exact absurd a1 (by decide)
      · exact ⟨p, u, a1, by omega, a5, a6, fun q => a10 (Or.inr q)⟩
    have lastR : M (b + 1) (H - 1) = 0 := by
      rcases two (H - 1) (by omega) with ⟨a1, a2, a3⟩ | ⟨a1, a2⟩
      · exact a1
      · obtain ⟨p, u, p1, u1, p2, u2, -⟩ := coat (H - 1) (by omega) a1
        refine absurd ⟨?_, fun q => ?_⟩ (nomay (H - 1) (by omega) a1)
        · rw [p2, hlast]; exact nI_lt p1 (by omega)
        · have q1 := q.1
          rw [hH] at q1
          have := (nI_ltI (a := H - 1 + 1) (b := H) (by omega) (by omega)).mp q1
          omega
    have chg : ∀ k, k < H → M (b + 1) k = 0 → ∃ h, 0 < h ∧ h < H ∧ M (b + 1) h = 0 ∧ M (b + 1) (h - 1) = 2 := by
      intro k
      induction k with
      | zero => intro _ q; rw [first] at q; exact absurd q (by decide)
      | succ k ih =>
        intro hk q
        rcases two k (by omega) with ⟨a1, -⟩ | ⟨a1, -⟩
        · exact ih (by omega) a1
        · exact ⟨k + 1, by omega, hk, q, a1⟩
    obtain ⟨h, h0, hh, hr, h2⟩ := chg (H - 1) (by omega) lastR
    obtain ⟨p, u, p1, u1, p2, u2, p3⟩ := coat (h - 1) (by omega) h2
    have hrp : M (b + 2) h = 0 ∧ M (b + 3) h = -1 := by
      rcases two h hh with ⟨a1, a2, a3⟩ | ⟨a1, a2⟩
      · exact ⟨a2, a3⟩
      · rw [hr] at a1; exact absurd a1 (by decide)
    have ncan : ¬ sp_can t b (h - 1) M := fun hc => by
      have := hs h hh
      unfold sp_hand at this
      rw [hr, hrp.1, if_pos rfl, if_neg (by decide), if_pos rfl, if_neg (by omega), if_pos ⟨h2, hc⟩] at this
      cases this
    have nend : ¬ M (b + 3) (h - 1) < M (t + 4) (h - 1) := fun q => by
      refine nomay (h - 1) (by omega) h2 ⟨q, fun z => ?_⟩
      have z2 := z.2.1
      rw [show h - 1 + 1 = h by omega, hrp.2] at z2
      exact z2 (by decide)
    refine ncan ⟨fun q => nend ?_, fun q => nend q.2⟩
    rw [p2]
    refine p3 ⟨?_, ?_⟩
    · have := q.1
      rw [u2] at this
      exact (nI_0lt (by omega)).mp this
    · have := q.2
      rw [p2] at this
      exact this
/-- a bench where nothing more is to be done: all by the least of what is left -/
theorem sp_can_least {t b n H L : Nat} {M : zMem} (ok : sp_ok M t b n H L) (hs : ∀ j, j < H → sp_hand t b j M = none) : sp_can_pass M b H (sp_least (M (b + 2)) H 0 0) :=
  ⟨sp_nstuck ok hs, sp_st_of ok hs, fun h hh q => ((sp_least_0 (M (b + 2)) H 0 0 (by decide)).2.2 h (by omega) (by omega) q).2⟩
/-- the reference's settle -/
theorem mt_settle {t b pg n H L : Nat} {wh : Nat → Nat} {M W : zMem} {Q : zMem → Prop} {C : Nat} (hC : C < 2147483000) (ok : sp_ok M t b n H L) (r : mr W M pg t b n H L wh) (ob : pg = 1 → sp_ob M b H C)
    (hQ : ∀ W', mr W' (sp_all t b H M) pg t b n H L wh → mfr pg W W' → (pg = 1 → sp_ob (sp_all t b H M) b H C) → W' 6 (96 * pg + 3) = 0 → Q W') : wp_Model_settle (nI pg) W Q := by
  unfold wp_Model_settle
  have hpg := r.1
  obtain ⟨ok2, fr2, hs2⟩ := sp_all_ok ok
  refine mt_rounds hC ok r ob (fun W1 r1 f1 ob1 => ?_)
  have i1 : vp_in (96 * nI pg + 3) 384 := by simp (disch := omega) only [q_lit, q_add, q_mul, q_sub, q_ix, q_in, q_lt, q_le, q_eq, q_nlt, q_nle, q_ltn, q_len, q_neq, q_eqn, zup_ne, zup_eq, zset_ne, zset_eq, upd_eq, upd_ne, forall_eq, true_and, and_true, true_implies, false_implies, implies_true, not_true_eq_false, not_false_eq_true, and_self, ↓reduceIte, false_and, and_false]
  have i2 : ix (96 * nI pg + 3) = 96 * pg + 3 := by simp (disch := omega) only [q_lit, q_add, q_mul, q_sub, q_ix, q_in, q_lt, q_le, q_eq, q_nlt, q_nle, q_ltn, q_len, q_neq, q_eqn, zup_ne, zup_eq, zset_ne, zset_eq, upd_eq, upd_ne, forall_eq, true_and, and_true, true_implies, false_implies, implies_true, not_true_eq_false, not_false_eq_true, and_self, ↓reduceIte, false_and, and_false]
  refine mt_least ok2 r1 ⟨fun _ => ⟨i1, fun W2 hW2 => ?_⟩, fun c => ?_⟩
  · rw [i2] at hW2
    have mf : mfr pg W1 W2 := by rw [hW2]; exact mfr.upo (by omega) (by omega)
    have rd : ∀ j, j ≠ 96 * pg + 3 → W2 6 j = W1 6 j := fun j hj => by rw [hW2]; simp (disch := omega) only [zup_eq, upd_ne]
    obtain ⟨-, rt, rw1, hrh, hrs, hrg⟩ := id r1
    refine hQ W2 ⟨hpg, rt.moved (b := b) mf (fun _ _ => rfl), rw1.moved mf rfl (fun h' p' q1 q2 => ?_) (fun h' p' q1 q2 q3 => rd _ (by omega)), fun j hj => ?_, ?_, hrg.keep rfl (fun _ => ⟨rfl, rfl⟩) ?_⟩ (f1.tr mf) ob1 ?_
    · rw [rd _ (by omega)]; exact rw1.2.2.2.1 h' p' q1 q2
    · exact (hrh j hj).moved (fun i hi => rd _ (by omega)) (fun _ _ _ => rfl)
    · unfold mr_s
      rw [rd _ (by omega), rd _ (by omega), rd _ (by omega), rd _ (by omega)]
      exact hrs
    · rw [hW2, zup_ne (by omega)]
    · rw [hW2]; simp (disch := omega) only [zup_eq, upd_eq]
  · have := sp_nstuck ok2 hs2
    rw [c] at this
    exact absurd this (by decide)
/-- a loop that fills a row -/
theorem zfill_r {c N : Nat} {v : Int32} {K : zMem → Prop} {M : zMem} (hN : N < 2147483647) (hK : ∀ M', (∀ j, j < N → M' c j = v) → (∀ j, N ≤ j → M' c j = M c j) → (∀ k, k ≠ c → M' k = M k) → K M') :
    ∃ n, zlp1 (fun (J : Int32 → zMem → Prop) (x : Int32) (M : zMem) => (nI N ≤ x → K M) ∧ (¬ nI N ≤ x → vp_in x N ∧ ∀ M1 : zMem, M1 = zup M c (ix x) v → ∀ y : Int32, y = x + 1 → J y M1)) n 0 M := by
  refine zlp1_r (fun m x M1 => ∃ h, x = nI h ∧ h ≤ N ∧ m = N - h ∧ (∀ j, j < h → M1 c j = v) ∧ (∀ j, h ≤ j → M1 c j = M c j) ∧ (∀ k, k ≠ c → M1 k = M k)) ?_ (n := N) ⟨0, rfl, Nat.zero_le _, rfl, fun j hj => absurd hj (by omega), fun _ _ => rfl, fun _ _ => rfl⟩
  rintro m x M1 ⟨h, rfl, hh, rfl, a1, a2, a3⟩ J hJ
  refine ⟨fun q => ?_, fun q => ?_⟩
  · have := (nI_leI (a := N) (b := h) (by omega) (by omega)).mp q
    have e : h = N := by omega
    subst e
    exact hK M1 a1 a2 a3
  · have q1 : h < N := Nat.lt_of_not_le (fun z => q (nI_le z (by omega)))
    refine ⟨vp_in_nI q1 (by omega), fun M2 hM2 y hy => ?_⟩
    rw [q_ix (by omega)] at hM2
    rw [hy, nI_1, hM2]
    refine hJ (N - (h + 1)) _ _ (by omega) ⟨h + 1, rfl, by omega, rfl, fun j hj => ?_, fun j hj => ?_, fun k hk => ?_⟩
    · by_cases e : j = h
      · subst e; rw [zup_eq, upd_eq]
      · rw [zup_eq, upd_ne e]; exact a1 j (by omega)
    · rw [zup_eq, upd_ne (by omega)]; exact a2 j (by omega)
    · rw [zup_ne hk]; exact a3 k hk
/-- hands are ready as at first -/
def sp_ready (b : Nat) (M M' : zMem) : Prop := M' b 5 = 0 ∧ (∀ h, h < 5 → M' (b + 1) h = 0 ∧ M' (b + 2) h = 0 ∧ M' (b + 3) h = -1) ∧ (∀ j, j ≠ 5 → M' b j = M b j) ∧ (∀ i, 4 ≤ i → i ≤ 8 → M' (b + i) = M (b + i)) ∧ (∀ k, (k < b ∨ b + 9 ≤ k) → M' k = M k)
theorem xt_makeReady {b : Nat} {M : zMem} {Q : zMem → Prop} (hQ : ∀ M', sp_ready b M M' → Q M') : wp_Bench_makeReady b M Q := by
  unfold wp_Bench_makeReady
  intro M1 hM1
  refine zlp1_r (fun m x M2 => ∃ h, x = nI h ∧ h ≤ 5 ∧ m = 5 - h ∧ M2 b 5 = 0 ∧ (∀ j, j < h → M2 (b + 1) j = 0 ∧ M2 (b + 2) j = 0 ∧ M2 (b + 3) j = -1) ∧ (∀ j, j ≠ 5 → M2 b j = M b j) ∧ (∀ i, 4 ≤ i → i ≤ 8 → M2 (b + i) = M (b + i)) ∧ (∀ k, (k < b ∨ b + 9 ≤ k) → M2 k = M k)) ?_ (n := 5) ⟨0, rfl, by omega, rfl, by rw [hM1, zup_eq, upd_eq], fun j hj => absurd hj (by omega), fun j hj => by rw [hM1, zup_eq, upd_ne hj], fun i i1 i2 => by rw [hM1, zup_ne (by omega)], fun k hk => by rw [hM1, zup_ne (by omega)]⟩
  rintro m x M2 ⟨h, rfl, hh, rfl, a1, a2, a3, a4, a5⟩ J hJ
  unfold wpB_Bench_makeReady_7
  refine ⟨fun q => ?_, fun q => ?_⟩
  · have := (nI_leI (a := 5) (b := h) (by omega) (by omega)).mp q
    have e : h = 5 := by omega
    subst e
    exact hQ M2 ⟨a1, a2, a3, a4, a5⟩
  · have q1 : h < 5 := Nat.lt_of_not_le (fun z => q (nI_le (a := 5) z (by omega)))
    have e1 : ix (nI h) = h := q_ix (by omega)
    have e2 : vp_in (nI h) 5 := vp_in_nI (by omega) (by omega)
    rw [e1]
    refine ⟨e2, fun Ma hMa => ⟨e2, fun Mb hMb => ⟨e2, fun Mc hMc y hy => ?_⟩⟩⟩
    rw [hy, nI_1]
    refine hJ (5 - (h + 1)) _ _ (by omega) ⟨h + 1, rfl, by omega, rfl, ?_, fun j hj => ?_, fun j hj => ?_, fun i i1 i2 => ?_, fun k hk => ?_⟩
    · rw [hMc, hMb, hMa]; simp (disch := omega) only [zup_ne]; exact a1
    · rw [hMc, hMb, hMa]
      by_cases e : j = h
      · subst e
        simp (disch := omega) only [zup_ne, zup_eq, upd_eq, and_self]
      · simp (disch := omega) only [zup_ne, zup_eq, upd_ne]
        exact a2 j (by omega)
    · rw [hMc, hMb, hMa]; simp (disch := omega) only [zup_ne]; exact a3 j hj
    · rw [hMc, hMb, hMa]; simp (disch := omega) only [zup_ne]; exact a4 i i1 i2
    · rw [hMc, hMb, hMa]; simp (disch := omega) only [zup_ne]; exact a5 k hk
/-- a bench as at first -/
def sp_clear (b : Nat) (M M' : zMem) : Prop := M' b 2 = 0 ∧ M' b 3 = 0 ∧ M' b 4 = 0 ∧ M' b 5 = 0 ∧ M' b 0 = M b 0 ∧ M' b 1 = M b 1 ∧ (∀ h, h < 5 → M' (b + 1) h = 0 ∧ M' (b + 2) h = 0 ∧ M' (b + 3) h = -1 ∧ M' (b + 6) h = 0) ∧ (∀ i, i < 40 → M' (b + 7) i = 0) ∧ (∀ p, p < 8 → M' (b + 8) p = 0) ∧ (∀ k, (k < b ∨ b + 9 ≤ k) → M' k = M k)
theorem xt_clear {b : Nat} {M : zMem} {Q : zMem → Prop} (hQ : ∀ M', sp_clear b M M' → Q M') : wp_Bench_clear b M Q := by
  unfold wp_Bench_clear
  intro M1 hM1 M2 hM2 M3 hM3
  refine zfill_r (c := b + 6) (N := 5) (v := 0) (by omega) (fun M4 a1 a2 a3 => ?_)
  refine zfill_r (c := b + 7) (N := 40) (v := 0) (by omega) (fun M5 b1 b2 b3 => ?_)
  refine zfill_r (c := b + 8) (N := 8) (v := 0) (by omega) (fun M6 c1 c2 c3 => ?_)
  refine xt_makeReady (fun M7 hr => ?_)
  obtain ⟨r1, r2, r3, r4, r5⟩ := hr
  have e0 : ∀ j, j ≠ 5 → M7 b j = M3 b j := fun j hj => by rw [r3 j hj, c3 b (by omega), b3 b (by omega), a3 b (by omega)]
  refine hQ M7 ⟨?_, ?_, ?_, r1, ?_, ?_, fun h hh => ⟨(r2 h hh).1, (r2 h hh).2.1, (r2 h hh).2.2, ?_⟩, fun i hi => ?_, fun p hp => ?_, fun k hk => ?_⟩
  · rw [e0 2 (by omega), hM3, hM2, hM1]; simp (disch := omega) only [zup_eq, upd_ne, upd_eq]
  · rw [e0 3 (by omega), hM3, hM2]; simp (disch := omega) only [zup_eq, upd_ne, upd_eq]
  · rw [e0 4 (by omega), hM3]; simp (disch := omega) only [zup_eq, upd_eq]
  · rw [e0 0 (by omega), hM3, hM2, hM1]; simp (disch := omega) only [zup_eq, upd_ne]
  · rw [e0 1 (by omega), hM3, hM2, hM1]; simp (disch := omega) only [zup_eq, upd_ne]
  · rw [r4 6 (by omega) (by omega), c3 _ (by omega), b3 _ (by omega)]; exact a1 h hh
  · rw [r4 7 (by omega) (by omega), c3 _ (by omega)]; exact b1 i hi
  · rw [r4 8 (by omega) (by omega)]; exact c1 p hp
  · rw [r5 k hk, c3 k (by omega), b3 k (by omega), a3 k (by omega), hM3, hM2, hM1]; simp (disch := omega) only [zup_ne]
theorem sp_ok_clear {t b n H L : Nat} {M M' : zMem} (hc : sp_clear b M M') (ht : ztc (M b 0) = t) (hd2 : t + 4 < 18) (hb : 18 ≤ b) (vt : sp_vt M t n H L) (hg : ∀ g, zlg b = some g → ∃ z, M g 0 = nI z ∧ z ≤ 600) : sp_ok M' t b n H L := by
  obtain ⟨c2, c3, c4, c5, c0, c1, ch, cl, cs, ck⟩ := hc
  refine ⟨by rw [c0]; exact ht, hd2, hb, vt.moved (fun i hi => ck _ (by omega)), ⟨0, vt.1.2.2.2.2.1, c5⟩, fun h hh => Or.inl ⟨(ch h ?_).1, (ch h ?_).2.1, (ch h ?_).2.2.1⟩, fun g q => ?_⟩
  · have := vt.1.2.2.2.1; omega
  · have := vt.1.2.2.2.1; omega
  · have := vt.1.2.2.2.1; omega
  · rcases zlg_cases b with c | ⟨c, hb32⟩
    · rw [c] at q; cases q
    · rw [c] at q
      cases q
      rw [ck 30 (by omega)]
      exact hg 30 c
/-- the reference's page is empty -/
theorem mt_clear {pg : Nat} {W : zMem} {Q : zMem → Prop} (hpg : pg < 4) (hQ : ∀ W', (∀ j, j < 96 → W' 6 (96 * pg + j) = 0) → (∀ j, (j < 96 * pg ∨ 96 * pg + 96 ≤ j) → W' 6 j = W 6 j) → (∀ k, k ≠ 6 → W' k = W k) → Q W') : wp_Model_clear (nI pg) W Q := by
  unfold wp_Model_clear
  refine zlp1_r (fun m x W1 => ∃ h, x = nI h ∧ h ≤ 96 ∧ m = 96 - h ∧ (∀ j, j < h → W1 6 (96 * pg + j) = 0) ∧ (∀ j, (j < 96 * pg ∨ 96 * pg + 96 ≤ j) → W1 6 j = W 6 j) ∧ (∀ k, k ≠ 6 → W1 k = W k)) ?_ (n := 96) ⟨0, rfl, by omega, rfl, fun j hj => absurd hj (by omega), fun _ _ => rfl, fun _ _ => rfl⟩
  rintro m x W1 ⟨h, rfl, hh, rfl, a1, a2, a3⟩ J hJ
  unfold wpB_Model_clear_2
  refine ⟨fun q => ?_, fun q => ?_⟩
  · have := (nI_leI (a := 96) (b := h) (by omega) (by omega)).mp q
    have e : h = 96 := by omega
    subst e
    exact hQ W1 a1 a2 a3
  · have q1 : h < 96 := Nat.lt_of_not_le (fun z => q (nI_le (a := 96) z (by omega)))
    have e1 : ix (96 * nI pg + nI h) = 96 * pg + h := by simp (disch := omega) only [q_lit, q_add, q_mul, q_sub, q_ix, q_in, q_lt, q_le, q_eq, q_nlt, q_nle, q_ltn, q_len, q_neq, q_eqn, zup_ne, zup_eq, zset_ne, zset_eq, upd_eq, upd_ne, forall_eq, true_and, and_true, true_implies, false_implies, implies_true, not_true_eq_false, not_false_eq_true, and_self, ↓reduceIte, false_and, and_false]
    have e2 : vp_in (96 * nI pg + nI h) 384 := by simp (disch := omega) only [q_lit, q_add, q_mul, q_sub, q_ix, q_in, q_lt, q_le, q_eq, q_nlt, q_nle, q_ltn, q_len, q_neq, q_eqn, zup_ne, zup_eq, zset_ne, zset_eq, upd_eq, upd_ne, forall_eq, true_and, and_true, true_implies, false_implies, implies_true, not_true_eq_false, not_false_eq_true, and_self, ↓reduceIte, false_and, and_false]
    rw [e1]
    refine ⟨e2, fun W2 hW2 y hy => ?_⟩
    rw [hy, nI_1, hW2]
    refine hJ (96 - (h + 1)) _ _ (by omega) ⟨h + 1, rfl, by omega, rfl, fun j hj => ?_, fun j hj => ?_, fun k hk => ?_⟩
    · by_cases e : j = h
      · subst e; rw [zup_eq, upd_eq]
      · rw [zup_eq, upd_ne (by omega)]; exact a1 j (by omega)
    · rw [zup_eq, upd_ne (by omega)]; exact a2 j hj
    · rw [zup_ne hk]; exact a3 k hk
/-- what is told, on both sides -/
def rt0 (W M : zMem) (n H L : Nat) : Prop :=
  W 4 0 = nI n ∧ W 4 1 = nI H ∧ W 4 2 = M 1 2 ∧ W 4 3 = M 1 3 ∧ W 4 4 = M 1 4 ∧ W 4 5 = M 1 5 ∧ W 4 6 = nI L ∧ (∀ i, i < L → W 4 (10 + i) = M 2 i) ∧ (∀ s p, s < 3 → p < n → W 4 (30 + 8 * s + p) = M 3 (s * 8 + p)) ∧ (∀ h p, h < H → p < n → W 4 (60 + 8 * h + p) = M 4 (h * 8 + p)) ∧ (∀ h, h < H → M 5 h = if h = H - 1 ∨ M 1 4 = 0 then nI n else W 4 (20 + h))
theorem mt_endOf {n H L h : Nat} {M W : zMem} {Q : Int32 → zMem → Prop} (vt : sp_vt M 1 n H L) (r : rt0 W M n H L) (hh : h < H) (hQ : Q (M 5 h) W) : wp_Model_endOf (nI h) W Q := by
  obtain ⟨r0, r1, r2, r3, r4, r5, r6, rrow, run, rpa, ren⟩ := r
  have H5 : H ≤ 5 := vt.1.2.2.2.1
  have i0 : vp_in 0 100 := vp_in_nI (n := 0) (by omega) (by omega)
  have i1 : vp_in 1 100 := vp_in_nI (n := 1) (by omega) (by omega)
  have i4 : vp_in 4 100 := vp_in_nI (n := 4) (by omega) (by omega)
  have j0 : ix 0 = 0 := rfl
  have j1 : ix 1 = 1 := rfl
  have j4 : ix 4 = 4 := rfl
  have i20 : vp_in (20 + nI h) 100 := by simp (disch := omega) only [q_lit, q_add, q_mul, q_sub, q_ix, q_in, q_lt, q_le, q_eq, q_nlt, q_nle, q_ltn, q_len, q_neq, q_eqn, zup_ne, zup_eq, zset_ne, zset_eq, upd_eq, upd_ne, forall_eq, true_and, and_true, true_implies, false_implies, implies_true, not_true_eq_false, not_false_eq_true, and_self, ↓reduceIte, false_and, and_false]
  have j20 : ix (20 + nI h) = 20 + h := by simp (disch := omega) only [q_lit, q_add, q_mul, q_sub, q_ix, q_in, q_lt, q_le, q_eq, q_nlt, q_nle, q_ltn, q_len, q_neq, q_eqn, zup_ne, zup_eq, zset_ne, zset_eq, upd_eq, upd_ne, forall_eq, true_and, and_true, true_implies, false_implies, implies_true, not_true_eq_false, not_false_eq_true, and_self, ↓reduceIte, false_and, and_false]
  unfold wp_Model_endOf
  rw [j0, j1, j4, j20, r0, r1, r4, q_pred (by omega)]
  rw [ren h hh] at hQ
  refine ⟨i1, fun c => ⟨i0, ?_⟩, fun c => ⟨i4, fun c2 => ⟨i20, ?_⟩, fun c2 => ⟨i0, ?_⟩⟩⟩
  · have : h = H - 1 := (nI_eq (by omega) (by omega)).mp c
    rw [if_pos (Or.inl this)] at hQ
    exact hQ
  · rw [if_neg ?_] at hQ
    · exact hQ
    · rintro (q | q)
      · exact c (by rw [← q])
      · exact c2 q
  · rw [if_pos (Or.inr c2)] at hQ
    exact hQ
/-- hands as they are numbered -/
def mnum (W W' M : zMem) (H : Nat) : Prop := W' 0 18 = nI H ∧ W' 0 19 = M 1 4 ∧ (∀ h, h < H → W' 8 h = nI h ∧ W' 9 h = M 5 h) ∧ (∀ j, j ≠ 18 → j ≠ 19 → W' 0 j = W 0 j) ∧ (∀ k, k ≠ 0 → k ≠ 8 → k ≠ 9 → W' k = W k)
theorem rt0.moved {W W' M M' : zMem} {n H L : Nat} (r : rt0 W M n H L) (e4 : W' 4 = W 4) (e : ∀ i, i ≤ 4 → M' (1 + i) = M (1 + i)) : rt0 W' M' n H L := by
  have e1 : M' 1 = M 1 := e 0 (by omega)
  have e2 : M' 2 = M 2 := e 1 (by omega)
  have e3 : M' 3 = M 3 := e 2 (by omega)
  have e5 : M' 4 = M 4 := e 3 (by omega)
  have e6 : M' 5 = M 5 := e 4 (by omega)
  unfold rt0 at r ⊢
  rw [e4, e1, e2, e3, e5, e6]
  exact r
theorem mt_asNumbered {n H L : Nat} {M W : zMem} {Q : zMem → Prop} (vt : sp_vt M 1 n H L) (r : rt0 W M n H L) (hQ : ∀ W', mnum W W' M H → Q W') : wp_Model_asNumbered W Q := by
  have H5 : H ≤ 5 := vt.1.2.2.2.1
  have i1 : vp_in 1 100 := vp_in_nI (n := 1) (by omega) (by omega)
  have i4 : vp_in 4 100 := vp_in_nI (n := 4) (by omega) (by omega)
  have j1 : ix 1 = 1 := rfl
  have j4 : ix 4 = 4 := rfl
  unfold wp_Model_asNumbered
  rw [j1, j4, r.2.1]
  refine ⟨i1, fun W1 hW1 => ⟨i4, fun W2 hW2 => ?_⟩⟩
  have e14 : W1 4 4 = M 1 4 := by rw [hW1, zup_ne (by omega)]; exact r.2.2.2.2.1
  rw [e14] at hW2
  refine zlp1_r (fun m x W3 => ∃ h, x = nI h ∧ h ≤ H ∧ m = H - h ∧ W3 0 18 = nI H ∧ W3 0 19 = M 1 4 ∧ (∀ j, j < h → W3 8 j = nI j ∧ W3 9 j = M 5 j) ∧ (∀ j, j ≠ 18 → j ≠ 19 → W3 0 j = W 0 j) ∧ (∀ k, k ≠ 0 → k ≠ 8 → k ≠ 9 → W3 k = W k)) ?_ (n := H) ⟨0, rfl, Nat.zero_le _, rfl, ?_, ?_, fun j hj => absurd hj (by omega), fun j a c => ?_, fun k a _ _ => ?_⟩
  · rintro m x W3 ⟨h, rfl, hh, rfl, a1, a2, a3, a4, a5⟩ J hJ
    unfold wpB_Model_asNumbered_22
    rw [a1]
    refine ⟨fun q => ?_, fun q => ?_⟩
    · have := (nI_leI (a := H) (b := h) (by omega) (by omega)).mp q
      have e : h = H := by omega
      subst e
      exact hQ W3 ⟨a1, a2, a3, a4, a5⟩
    · have q1 : h < H := Nat.lt_of_not_le (fun z => q (nI_le z (by omega)))
      have e1 : ix (nI h) = h := q_ix (by omega)
      have e2 : vp_in (nI h) 5 := vp_in_nI (by omega) (by omega)
      rw [e1]
      refine ⟨e2, fun W4 hW4 => ?_⟩
      have r4 : rt0 W4 M n H L := r.moved (by rw [hW4, zup_ne (by omega)]; exact a5 4 (by omega) (by omega) (by omega)) (fun _ _ => rfl)
      refine mt_endOf vt r4 q1 ⟨e2, fun W5 hW5 y hy => ?_⟩
      rw [hy, nI_1]
      refine hJ (H - (h + 1)) _ _ (by omega) ⟨h + 1, rfl, by omega, rfl, ?_, ?_, fun j hj => ?_, fun j b1 b2 => ?_, fun k b1 b2 b3 => ?_⟩
      · rw [hW5, hW4]; simp (disch := omega) only [zup_ne]; exact a1
      · rw [hW5, hW4]; simp (disch := omega) only [zup_ne]; exact a2
      · rw [hW5, hW4]
        by_cases e : j = h
        · subst e; simp (disch := omega) only [zup_ne, zup_eq, upd_eq, and_self]
        · simp (disch := omega) only [zup_ne, zup_eq, upd_ne]; exact a3 j (by omega)
      · rw [hW5, hW4]; simp (disch := omega) only [zup_ne]; exact a4 j b1 b2
      · rw [hW5, hW4]; simp (disch := omega) only [zup_ne]; exact a5 k b1 b2 b3
  · rw [hW2, hW1]; simp (disch := omega) only [zup_eq, upd_ne, upd_eq]
  · rw [hW2]; simp (disch := omega) only [zup_eq, upd_eq]
  · rw [hW2, hW1]; simp (disch := omega) only [zup_eq, upd_ne]
  · rw [hW2, hW1]; simp (disch := omega) only [zup_ne]
theorem mr_t_of {W M M' : zMem} {n H L : Nat} (r : rt0 W M n H L) (h18 : W 0 18 = nI H) (h19 : W 0 19 = M 1 4) (h9 : ∀ h, h < H → W 9 h = M 5 h) : mr_t W M 1 n H L := by
  obtain ⟨r0, r1, r2, r3, r4, r5, r6, rrow, run, rpa, ren⟩ := r
  exact ⟨r0, h18, r2, r3, h19, r5, r6, rrow, run, h9⟩
/-- an empty page and an empty bench, hands by wh -/
theorem mr_clear {W M : zMem} {pg t b n H L : Nat} {wh : Nat → Nat} {M0 : zMem} (hpg : pg < 4) (hp0 : ∀ j, j < 96 → W 6 (96 * pg + j) = 0) (hc : sp_clear b M0 M) (n8 : n ≤ 8) (H5 : H ≤ 5) (ht : mr_t W M t n H L) (hw1 : ∀ h, h < H → wh h < 5 ∧ W 8 h = nI (wh h)) (hw2 : ∀ h j, h < H → j < H → wh h = wh j → h = j) (hw3 : ∀ h p, h < H → p < n → W 4 (60 + 8 * wh h + p) = M (t + 3) (h * 8 + p)) (hg : pg = 1 → b = 32 → M 30 0 = 0) : mr W M pg t b n H L wh := by
  obtain ⟨c2, c3, c4, c5, c0, c1, ch, cl, cs, ck⟩ := hc
  have z : ∀ j, j < 96 → W 6 (96 * pg + j) = nI 0 := hp0
  refine ⟨hpg, ht, ⟨hw1, hw2, hw3, fun h p hh hp => ?_, fun h p hh hp hp8 => ?_⟩, fun h hh => ⟨?_, ?_, ?_, Or.inl ⟨(ch h (by omega)).2.2.1, ?_, ?_, ?_⟩⟩, ⟨?_, ?_, ?_, ?_⟩, fun h1 h2 => ⟨0, by omega, c4, hg h1 h2, fun j hj => absurd hj (by omega)⟩⟩
  · have := (hw1 h hh).1
    rw [show 96 * pg + 48 + 8 * wh h + p = 96 * pg + (48 + 8 * wh h + p) by omega, hp0 _ (by omega), cl _ (by omega)]
  · have := (hw1 h hh).1
    rw [show 96 * pg + 48 + 8 * wh h + p = 96 * pg + (48 + 8 * wh h + p) by omega, hp0 _ (by omega)]
  · rw [show 96 * pg + 8 + 8 * h = 96 * pg + (8 + 8 * h) by omega, hp0 _ (by omega), (ch h (by omega)).1]
  · rw [show 96 * pg + 8 + 8 * h + 1 = 96 * pg + (8 + 8 * h + 1) by omega, hp0 _ (by omega), (ch h (by omega)).2.1]
  · rw [show 96 * pg + 8 + 8 * h + 5 = 96 * pg + (8 + 8 * h + 5) by omega, hp0 _ (by omega), (ch h (by omega)).2.2.2]
  · rw [show 96 * pg + 8 + 8 * h + 2 = 96 * pg + (8 + 8 * h + 2) by omega]; exact z _ (by omega)
  · rw [show 96 * pg + 8 + 8 * h + 3 = 96 * pg + (8 + 8 * h + 3) by omega]; exact z _ (by omega)
  · rw [show 96 * pg + 8 + 8 * h + 4 = 96 * pg + (8 + 8 * h + 4) by omega]; exact z _ (by omega)
  · have := hp0 0 (by omega)
    rw [Nat.add_zero] at this
    rw [this, c2]
  · rw [hp0 1 (by omega), c3]
  · rw [hp0 2 (by omega), c4]
  · rw [hp0 4 (by omega), c5]
/-- how far a hand's coat is -/
def sp_f (M : zMem) (b h : Nat) : Nat := if M (b + 3) h < 0 then (if M (b + 1) h = 0 then 1 else 0) else 2 + 7 * ix (M (b + 3) h) + ix (M (b + 4) h) + 2 * h + (if M (b + 1) h = 3 ∧ M (b + 2) h = 0 then 1 else 0)
def sp_P (M : zMem) (b H : Nat) : Nat := 70 * ix (M b 3) + sp_sum (sp_f M b) H
theorem sp_f_eq {M M' : zMem} {b j : Nat} (h : ∀ i, 1 ≤ i → i ≤ 4 → M' (b + i) j = M (b + i) j) : sp_f M' b j = sp_f M b j := by
  unfold sp_f
  rw [h 1 (by omega) (by omega), h 2 (by omega) (by omega), h 3 (by omega) (by omega), h 4 (by omega) (by omega)]
theorem sp_f_no {M : zMem} {b h : Nat} (h3 : M (b + 3) h = -1) : sp_f M b h = if M (b + 1) h = 0 then 1 else 0 := by
  unfold sp_f
  rw [h3, if_pos (show (-1 : Int32) < 0 by decide)]
theorem sp_f_coat {M : zMem} {b h p u : Nat} (h3 : M (b + 3) h = nI p) (hp : p < 8) (h4 : M (b + 4) h = nI u) (hu : u < 7) : sp_f M b h = 2 + 7 * p + u + 2 * h + (if M (b + 1) h = 3 ∧ M (b + 2) h = 0 then 1 else 0) := by
  unfold sp_f
  rw [h3, if_neg (nI_pos (by omega)), h4, q_ix (by omega), q_ix (by omega)]
theorem sp_f_le {M : zMem} {t b n h : Nat} (hh : sp_hd M t b n h) (n8 : n ≤ 8) (h5 : h < 5) : sp_f M b h ≤ 66 := by
  rcases hh with ⟨a1, a2, a3⟩ | ⟨a1, a2, a3⟩ | ⟨p, u, s, U, a1, a2, a3, a4, a5, a6, -⟩
  · rw [sp_f_no a3]; split <;> omega
  · rw [sp_f_no a3]; split <;> omega
  · rw [sp_f_coat a5 (by omega) a6 (by omega)]; split <;> omega
theorem sp_sum_bound {c : Nat → Nat} {B : Nat} : ∀ H, (∀ j, j < H → c j ≤ B) → sp_sum c H ≤ B * H := by
  intro H
  induction H with
  | zero => intro _; exact Nat.le_refl _
  | succ H ih =>
    intro h
    unfold sp_sum
    have := ih (fun j hj => h j (by omega))
    have := h H (by omega)
    rw [Nat.mul_succ]
    omega
theorem sp_sum_le1 {c c' : Nat → Nat} {h d : Nat} (h1 : c h ≤ c' h + d) (h2 : ∀ j, j ≠ h → c' j = c j) : ∀ H, sp_sum c H ≤ sp_sum c' H + d := by
  intro H
  induction H with
  | zero => exact Nat.zero_le _
  | succ H ih =>
    unfold sp_sum
    by_cases e : h = H
    · subst e
      rw [sp_sum_eq (c := c) h (fun j hj => h2 j (by omega))]
      omega
    · rw [h2 H (fun q => e q.symm)]
      omega
theorem sp_sum_le2 {c c' : Nat → Nat} {h : Nat} (h0 : 0 < h) (h1 : c h + c (h - 1) ≤ c' h + c' (h - 1)) (h2 : ∀ j, j ≠ h → j ≠ h - 1 → c' j = c j) : ∀ H, h < H → sp_sum c H ≤ sp_sum c' H := by
  intro H
  induction H with
  | zero => intro hh; omega
  | succ H ih =>
    intro hh
    unfold sp_sum
    by_cases e : h = H
    · subst e
      obtain ⟨k, rfl⟩ : ∃ k, h = k + 1 := ⟨h - 1, by omega⟩
      unfold sp_sum
      rw [sp_sum_eq (c := c) k (fun j hj => h2 j (by omega) (by omega))]
      simp only [Nat.add_sub_cancel] at h1
      omega
    · have := ih (by omega)
      rw [h2 H (fun q => e q.symm) (by omega)]
      omega
/-- how many are done, and how many can still become done at this tick -/
def sp_db (M : zMem) (b H C : Nat) : Prop := ∃ dn, M b 3 = nI dn ∧ dn + sp_sum (sp_c M b) H ≤ C
set_option maxHeartbeats 1000000 in
theorem sp_P_hand {t b n H L h C : Nat} {M M' : zMem} (hC : C < 2147483000) (ok : sp_ok M t b n H L) (hh : h < H) (e : sp_hand t b h M = some M') (hd : sp_db M b H C) : sp_db M' b H C ∧ sp_P M b H ≤ sp_P M' b H := by
  obtain ⟨-, hs⟩ := sp_step ok hh e
  obtain ⟨dn, d1, d2⟩ := hd
  obtain ⟨ht, hd2, hb18, vt, hpl, hhd, hg⟩ := id ok
  obtain ⟨⟨n1, n8, H1, H5, L1, L6⟩, hn, hH, hL, -, -, -, -, hrow, hun, hpf, -, -, -, -⟩ := id vt
  have hb : t + 4 < b := by omega
  unfold sp_P
  have same : ∀ (X : zMem), X b 3 = M b 3 → sp_sum (sp_c X b) H < sp_sum (sp_c M b) H → sp_sum (sp_f M b) H ≤ sp_sum (sp_f X b) H → sp_db X b H C ∧ 70 * ix (M b 3) + sp_sum (sp_f M b) H ≤ 70 * ix (X b 3) + sp_sum (sp_f X b) H := fun X x1 x2 x3 => by
    rw [x1]
    exact ⟨⟨dn, by rw [x1]; exact d1, by omega⟩, by omega⟩
  unfold sp_hand at e
  split at e
  · rename_i hl
    split at e
    · rename_i h3
      cases e
      -- a unit is finished
      rcases hhd h hh with ⟨a1, -⟩ | ⟨a1, -⟩ | ⟨p, u, s, U, a1, a2, a3, a4, a5, a6, a7, a8, a9, a10⟩
      · rw [h3] at a1; exact absurd a1 (by decide)
      · rw [h3] at a1; exact absurd a1 (by decide)
      have e1 : ix (M (b + 3) h) = p := by rw [a5]; exact q_ix (by omega)
      have e2 : ix (M (b + 5) h) = s := by rw [a7]; exact q_ix (by omega)
      have e3 : ix (M t 0) = n := by rw [hn]; exact q_ix (by omega)
      have fh : sp_f M b h = 3 + 7 * p + u + 2 * h := by rw [sp_f_coat a5 (by omega) a6 (by omega), if_pos ⟨h3, hl⟩]; omega
      unfold sp_finish at hs ⊢
      dsimp only at hs ⊢
      rw [e1, e2, e3, a6, a8, nI_1] at hs ⊢
      generalize hM3 : zup (zup (zup M (b + 7) (h * 8 + p) (M (b + 7) (h * 8 + p) + 1)) (b + 1) h 2) (b + 4) h (nI (u + 1)) = M3 at hs ⊢
      have r0 : M3 b 3 = M b 3 := by rw [← hM3]; simp (disch := omega) only [zup_ne]
      have r1 : M3 (b + 1) h = 2 := by rw [← hM3]; simp (disch := omega) only [zup_ne, zup_eq, upd_eq]
      have r3 : M3 (b + 3) h = nI p := by rw [← hM3]; simp (disch := omega) only [zup_ne]; exact a5
      have r4 : M3 (b + 4) h = nI (u + 1) := by rw [← hM3]; simp (disch := omega) only [zup_ne, zup_eq, upd_eq]
      have rj : ∀ i j, 1 ≤ i → i ≤ 4 → j ≠ h → M3 (b + i) j = M (b + i) j := fun i j i1 i5 hj => by
        rw [← hM3]
        rcases (show i = 1 ∨ i = 2 ∨ i = 3 ∨ i = 4 by omega) with rfl | rfl | rfl | rfl <;> simp (disch := omega) only [zup_ne, zup_eq, upd_ne]
      clear hM3
      by_cases c : nI (u + 1) < nI U
      · rw [if_pos c] at hs ⊢
        refine same _ r0 hs (sp_sum_le1 (d := 0) (h := h) ?_ (fun j e => sp_f_eq (fun i i1 i4 => rj i j i1 i4 e)) H)
        rw [fh, sp_f_coat r3 (by omega) r4 (by omega)]
        omega
      · rw [if_neg c] at hs ⊢
        have hq1 := sp_pf_le (fun i => M (t + 2) (s * 8 + i)) (n - (p + 1)) (p + 1)
        generalize sp_pf (fun i => M (t + 2) (s * 8 + i)) (n - (p + 1)) (p + 1) = q at hq1 hs ⊢
        by_cases cq : q < n
        · rw [if_pos cq] at hs ⊢
          refine same _ (by simp (disch := omega) only [zup_ne]; exact r0) hs (sp_sum_le1 (d := 0) (h := h) ?_ (fun j e => sp_f_eq (fun i i1 i4 => ?_)) H)
          · rw [fh, sp_f_coat (p := q) (u := 0) (by simp (disch := omega) only [zup_ne, zup_eq, upd_eq]) (by omega) (by simp (disch := omega) only [zup_eq, upd_eq]; rfl) (by omega)]
            omega
          · rw [← rj i j i1 i4 e]
            rcases (show i = 1 ∨ i = 2 ∨ i = 3 ∨ i = 4 by omega) with rfl | rfl | rfl | rfl <;> simp (disch := omega) only [zup_ne, zup_eq, upd_ne]
        · rw [if_neg cq] at hs ⊢
          have x3 : sp_goBack t b h (nI n) (zup M3 b 3 (M b 3 + 1)) b 3 = nI (dn + 1) := by
            rw [sp_goBack_b]
            simp (disch := omega) only [zup_eq, upd_eq]
            rw [d1, nI_1]
          refine ⟨⟨dn + 1, x3, by omega⟩, ?_⟩
          have y1 : ix (M b 3) = dn := by rw [d1]; exact q_ix (by omega)
          have y2 : ix (sp_goBack t b h (nI n) (zup M3 b 3 (M b 3 + 1)) b 3) = dn + 1 := by rw [x3]; exact q_ix (by omega)
          rw [y1, y2]
          have := sp_sum_le1 (c := sp_f M b) (c' := sp_f (sp_goBack t b h (nI n) (zup M3 b 3 (M b 3 + 1))) b) (h := h) (d := 66) ?_ (fun j e => sp_f_eq (fun i i1 i4 => ?_)) H
          · omega
          · rw [fh]; omega
          · rw [sp_goBack_at (Or.inr (Or.inr e)), ← rj i j i1 i4 e]
            simp (disch := omega) only [zup_ne]
    · split at e
      · rename_i hr
        split at e
        · rename_i h0
          subst h0
          cases e
          -- a new coat
          obtain ⟨pl, hpl1, hpl2⟩ := hpl
          obtain ⟨s, hs3, hs1⟩ := hrow pl hpl1
          have e1 : ix (M b 5) = pl := by rw [hpl2]; exact q_ix (by omega)
          have e2 : ix (M (t + 1) pl) = s := by rw [hs1]; exact q_ix (by omega)
          have e3 : ix (M t 0) = n := by rw [hn]; exact q_ix (by omega)
          have hq := hpf s hs3
          generalize hqd : sp_pf (fun i => M (t + 2) (s * 8 + i)) n 0 = q at hq
          have f0 : sp_f M b 0 ≤ 1 := by
            rcases hhd 0 hh with ⟨a1, a2, a3⟩ | ⟨a1, a2, a3⟩ | ⟨p, u, s, U, a1, a2, a3, a4, a5, a6, a7, a8, a9, a10⟩
            · rw [sp_f_no a3]; split <;> omega
            · rw [sp_f_no a3]; split <;> omega
            · rcases a9 with ⟨a9, -⟩ | ⟨a9, -⟩
              · rw [hr] at a9; exact absurd a9 (by decide)
              · rw [hr] at a9; exact absurd a9 (by decide)
          refine same _ (by unfold sp_new; simp (disch := omega) only [zup_ne, zup_eq, upd_ne]) hs (sp_sum_le1 (d := 0) (h := 0) ?_ (fun j e => sp_f_eq (fun i i1 i4 => ?_)) H)
          · rw [sp_f_coat (M := sp_new t b M) (p := q) (u := 0) ?_ (by omega) ?_ (by omega)]
            · omega
            · unfold sp_new
              simp (disch := omega) only [zup_ne, zup_eq, upd_eq]
              rw [e1, e2, e3, hqd]
            · unfold sp_new
              simp (disch := omega) only [zup_ne, zup_eq, upd_eq]
              rfl
          · unfold sp_new
            rcases (show i = 1 ∨ i = 2 ∨ i = 3 ∨ i = 4 by omega) with rfl | rfl | rfl | rfl <;> simp (disch := omega) only [zup_ne, zup_eq, upd_ne]
        · rename_i h0
          split at e
          · rename_i hc
            cases e
            -- a coat is taken over
            have hne : h - 1 ≠ h := by omega
            rcases hhd (h - 1) (by omega) with ⟨a1, -⟩ | ⟨a1, -⟩ | ⟨p, u, s, U, a1, a2, a3, a4, a5, a6, a7, a8, a9, a10⟩
            · rw [hc.1] at a1; exact absurd a1 (by decide)
            · rw [hc.1] at a1; exact absurd a1 (by decide)
            have f0 : sp_f M b h ≤ 1 := by
              rcases hhd h hh with ⟨a1, a2, a3⟩ | ⟨a1, a2, a3⟩ | ⟨p, u, s, U, a1, a2, a3, a4, a5, a6, a7, a8, a9, a10⟩
              · rw [sp_f_no a3]; split <;> omega
              · rw [sp_f_no a3]; split <;> omega
              · rcases a9 with ⟨a9, -⟩ | ⟨a9, -⟩
                · rw [hr] at a9; exact absurd a9 (by decide)
                · rw [hr] at a9; exact absurd a9 (by decide)
            have f1 : sp_f M b (h - 1) = 2 + 7 * p + u + 2 * (h - 1) := by
              rw [sp_f_coat a5 (by omega) a6 (by omega), if_neg (fun q => by rw [hc.1] at q; exact absurd q.1 (by decide))]
              omega
            have key : ∃ M6 : zMem, sp_take t b h M = sp_goBack t b (h - 1) (nI p) M6 ∧ M6 b 3 = M b 3 ∧ M6 (b + 3) h = nI p ∧ M6 (b + 4) h = nI u ∧ (∀ i j, 1 ≤ i → i ≤ 4 → j ≠ h → M6 (b + i) j = M (b + i) j) := by
              unfold sp_take
              rw [a5, a6, a7]
              rcases zlg_cases b with c | ⟨c, hb32⟩
              · rw [c]
                refine ⟨_, rfl, ?_, ?_, ?_, fun i j i1 i4 e => ?_⟩
                · simp (disch := omega) only [zup_ne, zup_eq, upd_ne]
                · simp (disch := omega) only [zup_ne, zup_eq, upd_eq]
                · simp (disch := omega) only [zup_ne, zup_eq, upd_eq]
                · rcases (show i = 1 ∨ i = 2 ∨ i = 3 ∨ i = 4 by omega) with rfl | rfl | rfl | rfl <;> simp (disch := omega) only [zup_ne, zup_eq, upd_ne]
              · rw [c]
                refine ⟨_, rfl, ?_, ?_, ?_, fun i j i1 i4 e => ?_⟩
                · rw [e_note_ne (by omega) (by omega)]; simp (disch := omega) only [zup_ne, zup_eq, upd_ne]
                · rw [e_note_ne (by omega) (by omega)]; simp (disch := omega) only [zup_ne, zup_eq, upd_eq]
                · rw [e_note_ne (by omega) (by omega)]; simp (disch := omega) only [zup_ne, zup_eq, upd_eq]
                · rw [e_note_ne (by omega) (by omega)]
                  rcases (show i = 1 ∨ i = 2 ∨ i = 3 ∨ i = 4 by omega) with rfl | rfl | rfl | rfl <;> simp (disch := omega) only [zup_ne, zup_eq, upd_ne]
            obtain ⟨M6, k1, k2, k3, k4, k5⟩ := key
            rw [k1] at hs ⊢
            have gb : ∀ i, sp_goBack t b (h - 1) (nI p) M6 (b + i) h = M6 (b + i) h := fun i => sp_goBack_at (Or.inr (Or.inr (by omega)))
            refine same _ (by rw [sp_goBack_b]; exact k2) hs (sp_sum_le2 (h := h) (by omega) ?_ (fun j e e2 => sp_f_eq (fun i i1 i4 => ?_)) H hh)
            · rw [sp_f_coat (M := sp_goBack t b (h - 1) (nI p) M6) (b := b) (h := h) (by rw [gb]; exact k3) (by omega) (by rw [gb]; exact k4) (by omega), f1]
              omega
            · rw [sp_goBack_at (Or.inr (Or.inr e2)), k5 i j i1 i4 e]
          · cases e
      · split at e
        · rename_i h2
          split at e
          · cases e
            -- a unit is begun
            rcases hhd h hh with ⟨a1, -⟩ | ⟨a1, -⟩ | ⟨p, u, s, U, a1, a2, a3, a4, a5, a6, a7, a8, a9, a10⟩
            · rw [h2] at a1; exact absurd a1 (by decide)
            · rw [h2] at a1; exact absurd a1 (by decide)
            refine same _ ?_ hs (sp_sum_le1 (d := 0) (h := h) ?_ (fun j e => sp_f_eq (fun i i1 i4 => sp_start_ne e)) H)
            · unfold sp_start; simp (disch := omega) only [zup_ne]
            · rw [sp_f_coat a5 (by omega) a6 (by omega), if_neg (fun q => by rw [h2] at q; exact absurd q.1 (by decide)), sp_f_coat (by rw [sp_start_at (by omega) (by omega)]; exact a5) (by omega) (by rw [sp_start_at (by omega) (by omega)]; exact a6) (by omega)]
              omega
          · cases e
        · cases e
  · cases e
