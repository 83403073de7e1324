theorem ztc_le (x : Int32) : ztc x ≤ 6 := by unfold ztc; split <;> omega
theorem q_pred {h : Nat} (h0 : 0 < h) : nI h - 1 = nI (h - 1) := pk_sub h0
theorem q_predn {h : Nat} (h0 : 0 < h) : nI h + (-1) = nI (h - 1) := sb_m1 h0
/-- the first piece from p on, of f units; p + m if there is none among m -/
def sp_pf (f : Nat → Int32) : Nat → Nat → Nat
  | 0, p => p
  | m + 1, p => if 0 < f p then p else sp_pf f m (p + 1)
theorem sp_pf_le (f : Nat → Int32) : ∀ m p, p ≤ sp_pf f m p ∧ sp_pf f m p ≤ p + m := by
  intro m
  induction m with
  | zero => intro p; unfold sp_pf; omega
  | succ m ih =>
    intro p
    unfold sp_pf
    have := ih (p + 1)
    split <;> omega
theorem sp_pf_pos (f : Nat → Int32) : ∀ m p, sp_pf f m p < p + m → 0 < f (sp_pf f m p) := by
  intro m
  induction m with
  | zero => intro p h; unfold sp_pf at h; omega
  | succ m ih =>
    intro p
    unfold sp_pf
    split
    · intro _; assumption
    · intro h
      exact ih (p + 1) (by omega)
theorem sp_pf_all (f : Nat → Int32) : ∀ m p i, p ≤ i → i < sp_pf f m p → ¬ 0 < f i := by
  intro m
  induction m with
  | zero => intro p i h1 h2; unfold sp_pf at h2; omega
  | succ m ih =>
    intro p i h1
    unfold sp_pf
    split
    · intro h2; omega
    · intro h2
      rcases Nat.lt_or_ge p i with h3 | h3
      · exact ih (p + 1) i h3 h2
      · have : i = p := by omega
        subst this
        assumption
def sp_way (b h : Nat) (fr : Int32) (M : zMem) : Int32 := if h = 0 then 0 else if M (b + 3) (h - 1) < 0 then fr else fr - M (b + 3) (h - 1)
def sp_wl (t b h : Nat) (fr : Int32) (M : zMem) : Int32 := if 0 < sp_way b h fr M then M t 2 * sp_way b h fr M else 0
def sp_goBack (t b h : Nat) (fr : Int32) (M : zMem) : zMem :=
  zup (zup (zup M (b + 3) h (-1)) (b + 2) h (sp_wl t b h fr M)) (b + 1) h (if 0 < sp_wl t b h fr M then 1 else 0)
theorem xt_goBack {t b h : Nat} {fr : Int32} {M : zMem} {Q : zMem → Prop} (ht : ztc (M b 0) = t) (hd : t + 4 < b) (hh : h < 5) (hQ : Q (sp_goBack t b h fr M)) : wp_Bench_goBack b (nI h) fr M Q := by
  unfold sp_goBack sp_wl sp_way at hQ
  rcases Nat.eq_zero_or_pos h with rfl | h0
  · simp (disch := omega) [q_lit, q_add, q_mul, q_sub, q_ix, q_in, q_lt, q_le, q_eq, q_nlt, q_nle, q_ltn, q_len, q_neq, q_eqn, zup_ne, zup_eq, zset_ne, zset_eq, upd_eq, upd_ne, forall_eq, true_and, and_true, true_implies, false_implies, implies_true, not_true_eq_false, not_false_eq_true, and_self, ↓reduceIte, false_and, and_false, ht, wp_Bench_goBack, wpJ_Bench_goBack_38, wpJ_Bench_goBack_39] at hQ ⊢
    exact hQ
  · have e1 : nI h - 1 = nI (h - 1) := pk_sub h0
    have h2 : h ≠ 0 := by omega
    simp (disch := omega) [q_lit, q_add, q_mul, q_sub, q_ix, q_in, q_lt, q_le, q_eq, q_nlt, q_nle, q_ltn, q_len, q_neq, q_eqn, zup_ne, zup_eq, zset_ne, zset_eq, upd_eq, upd_ne, forall_eq, true_and, and_true, true_implies, false_implies, implies_true, not_true_eq_false, not_false_eq_true, and_self, ↓reduceIte, false_and, and_false, ht, e1, h2, wp_Bench_goBack, wpJ_Bench_goBack_38, wpJ_Bench_goBack_39] at hQ ⊢
    grind
theorem xt_pieceFrom {t s n : Nat} {p : Nat} {M : zMem} {Q : Int32 → zMem → Prop} (hn : M t 0 = nI n) (hn8 : n ≤ 8) (hs : s < 3) (hp : p ≤ n) (hQ : Q (nI (sp_pf (fun i => M (t + 2) (s * 8 + i)) (n - p) p)) M) : wp_Told_pieceFrom t (nI p) (nI s) M Q := by
  unfold wp_Told_pieceFrom
  refine zlp1_r (fun m x M' => M' = M ∧ ∃ p, x = nI p ∧ p ≤ n ∧ m = n - p ∧ Q (nI (sp_pf (fun i => M (t + 2) (s * 8 + i)) m p)) M) ?_ ⟨rfl, p, rfl, hp, rfl, hQ⟩
  rintro m x M' ⟨rfl, p, rfl, hp, rfl, hQ⟩ J hJ
  unfold wpB_Told_pieceFrom_2
  by_cases h1 : p < n
  · have e : n - p = (n - (p + 1)) + 1 := by omega
    rw [e] at hQ
    unfold sp_pf at hQ
    have h2 : ¬ n ≤ p := by omega
    simp (disch := omega) [q_lit, q_add, q_mul, q_sub, q_ix, q_in, q_lt, q_le, q_eq, q_nlt, q_nle, q_ltn, q_len, q_neq, q_eqn, zup_ne, zup_eq, zset_ne, zset_eq, upd_eq, upd_ne, forall_eq, true_and, and_true, true_implies, false_implies, implies_true, not_true_eq_false, not_false_eq_true, and_self, ↓reduceIte, false_and, and_false, hn, h1, h2] at hQ ⊢
    refine ⟨fun h3 => ?_, fun h3 => ?_⟩
    · refine hJ (n - (p + 1)) _ _ (by omega) ⟨rfl, p + 1, rfl, by omega, rfl, ?_⟩
      have h4 : ¬ nI 0 < M' (t + 2) (s * 8 + p) := by rw [Int32.not_lt]; exact h3
      rw [if_neg h4] at hQ
      exact hQ
    · have h4 : nI 0 < M' (t + 2) (s * 8 + p) := h3
      rw [if_pos h4] at hQ
      exact hQ
  · have e : n - p = 0 := by omega
    have e2 : p = n := by omega
    subst e2
    rw [e] at hQ
    unfold sp_pf at hQ
    simp (disch := omega) [q_lit, q_add, q_mul, q_sub, q_ix, q_in, q_lt, q_le, q_eq, q_nlt, q_nle, q_ltn, q_len, q_neq, q_eqn, zup_ne, zup_eq, zset_ne, zset_eq, upd_eq, upd_ne, forall_eq, true_and, and_true, true_implies, false_implies, implies_true, not_true_eq_false, not_false_eq_true, and_self, ↓reduceIte, false_and, and_false, hn] at hQ ⊢
    exact hQ
theorem e_unitsOf {t s p : Nat} {M : zMem} {Q : Int32 → zMem → Prop} (hs : s < 3) (hp : p < 8) : wp_Told_unitsOf t (nI s) (nI p) M Q = Q (M (t + 2) (s * 8 + p)) M := by
  unfold wp_Told_unitsOf
  simp (disch := omega) [q_lit, q_add, q_mul, q_sub, q_ix, q_in, q_lt, q_le, q_eq, q_nlt, q_nle, q_ltn, q_len, q_neq, q_eqn, zup_ne, zup_eq, zset_ne, zset_eq, upd_eq, upd_ne, forall_eq, true_and, and_true, true_implies, false_implies, implies_true, not_true_eq_false, not_false_eq_true, and_self, ↓reduceIte, false_and, and_false]
theorem e_paceOf {t h p : Nat} {M : zMem} {Q : Int32 → zMem → Prop} (hs : h < 5) (hp : p < 8) : wp_Told_paceOf t (nI h) (nI p) M Q = Q (M (t + 3) (h * 8 + p)) M := by
  unfold wp_Told_paceOf
  simp (disch := omega) [q_lit, q_add, q_mul, q_sub, q_ix, q_in, q_lt, q_le, q_eq, q_nlt, q_nle, q_ltn, q_len, q_neq, q_eqn, zup_ne, zup_eq, zset_ne, zset_eq, upd_eq, upd_ne, forall_eq, true_and, and_true, true_implies, false_implies, implies_true, not_true_eq_false, not_false_eq_true, and_self, ↓reduceIte, false_and, and_false]
def sp_finish (t b h : Nat) (M : zMem) : zMem :=
  let p := ix (M (b + 3) h)
  let s := ix (M (b + 5) h)
  let n := ix (M t 0)
  let M3 := zup (zup (zup M (b + 7) (h * 8 + p) (M (b + 7) (h * 8 + p) + 1)) (b + 1) h 2) (b + 4) h (M (b + 4) h + 1)
  if M (b + 4) h + 1 < M (t + 2) (s * 8 + p) then M3 else
    let q := sp_pf (fun i => M (t + 2) (s * 8 + i)) (n - (p + 1)) (p + 1)
    if q < n then zup (zup M3 (b + 3) h (nI q)) (b + 4) h 0 else sp_goBack t b h (nI n) (zup M3 b 3 (M b 3 + 1))
theorem xt_finish {t b h n p u s : Nat} {M : zMem} {Q : Int32 → zMem → Prop} (ht : ztc (M b 0) = t) (hd : t + 4 < b) (hh : h < 5) (hn : M t 0 = nI n) (hn8 : n ≤ 8) (hp : M (b + 3) h = nI p) (hpn : p < n) (hu : M (b + 4) h = nI u) (hu6 : u < 6) (hs : M (b + 5) h = nI s) (hs3 : s < 3) (hQ : Q 1 (sp_finish t b h M)) : wp_Bench_finishUnit b (nI h) M Q := by
  unfold sp_finish at hQ
  unfold wp_Bench_finishUnit
  simp (disch := omega) [q_lit, q_add, q_mul, q_sub, q_ix, q_in, q_lt, q_le, q_eq, q_nlt, q_nle, q_ltn, q_len, q_neq, q_eqn, zup_ne, zup_eq, zset_ne, zset_eq, upd_eq, upd_ne, forall_eq, true_and, and_true, true_implies, false_implies, implies_true, not_true_eq_false, not_false_eq_true, and_self, ↓reduceIte, false_and, and_false, ht, hp, hs, hn, e_unitsOf, hu] at hQ ⊢
  refine ⟨fun h1 => ?_, fun h1 => ?_⟩
  · refine xt_pieceFrom (n := n) (by simp (disch := omega) [q_lit, q_add, q_mul, q_sub, q_ix, q_in, q_lt, q_le, q_eq, q_nlt, q_nle, q_ltn, q_len, q_neq, q_eqn, zup_ne, zup_eq, zset_ne, zset_eq, upd_eq, upd_ne, forall_eq, true_and, and_true, true_implies, false_implies, implies_true, not_true_eq_false, not_false_eq_true, and_self, ↓reduceIte, false_and, and_false, ht, hn]) hn8 hs3 (by omega) ?_
    simp (disch := omega) [q_lit, q_add, q_mul, q_sub, q_ix, q_in, q_lt, q_le, q_eq, q_nlt, q_nle, q_ltn, q_len, q_neq, q_eqn, zup_ne, zup_eq, zset_ne, zset_eq, upd_eq, upd_ne, forall_eq, true_and, and_true, true_implies, false_implies, implies_true, not_true_eq_false, not_false_eq_true, and_self, ↓reduceIte, false_and, and_false, ht, hp, hs, hn]
    have h2 : ¬ nI (u + 1) < M (t + 2) (s * 8 + p) := by rw [Int32.not_lt]; exact h1
    rw [if_neg h2] at hQ
    have hq9 : sp_pf (fun i => M (t + 2) (s * 8 + i)) (n - (p + 1)) (p + 1) ≤ n := by
      have := (sp_pf_le (fun i => M (t + 2) (s * 8 + i)) (n - (p + 1)) (p + 1)).2
      omega
    generalize sp_pf (fun i => M (t + 2) (s * 8 + i)) (n - (p + 1)) (p + 1) = q at hQ hq9 ⊢
    by_cases hq : q < n
    · have hq2 : ¬ n ≤ q := by omega
      simp (disch := omega) [q_lit, q_add, q_mul, q_sub, q_ix, q_in, q_lt, q_le, q_eq, q_nlt, q_nle, q_ltn, q_len, q_neq, q_eqn, zup_ne, zup_eq, zset_ne, zset_eq, upd_eq, upd_ne, forall_eq, true_and, and_true, true_implies, false_implies, implies_true, not_true_eq_false, not_false_eq_true, and_self, ↓reduceIte, false_and, and_false, hq, hq2] at hQ ⊢
      exact hQ
    · have hq2 : n ≤ q := by omega
      simp (disch := omega) [q_lit, q_add, q_mul, q_sub, q_ix, q_in, q_lt, q_le, q_eq, q_nlt, q_nle, q_ltn, q_len, q_neq, q_eqn, zup_ne, zup_eq, zset_ne, zset_eq, upd_eq, upd_ne, forall_eq, true_and, and_true, true_implies, false_implies, implies_true, not_true_eq_false, not_false_eq_true, and_self, ↓reduceIte, false_and, and_false, hq, hq2] at hQ ⊢
      exact xt_goBack (t := t) (by simp (disch := omega) [q_lit, q_add, q_mul, q_sub, q_ix, q_in, q_lt, q_le, q_eq, q_nlt, q_nle, q_ltn, q_len, q_neq, q_eqn, zup_ne, zup_eq, zset_ne, zset_eq, upd_eq, upd_ne, forall_eq, true_and, and_true, true_implies, false_implies, implies_true, not_true_eq_false, not_false_eq_true, and_self, ↓reduceIte, false_and, and_false, ht]) hd hh hQ
  · rw [if_pos h1] at hQ
    exact hQ
def sp_new (t b : Nat) (M : zMem) : zMem :=
  let s := M (t + 1) (ix (M b 5))
  let q := sp_pf (fun i => M (t + 2) (ix s * 8 + i)) (ix (M t 0)) 0
  zup (zup (zup (zup (zup M b 5 (if M t 6 ≤ M b 5 + 1 then 0 else M b 5 + 1)) (b + 1) 0 2) (b + 3) 0 (nI q)) (b + 4) 0 0) (b + 5) 0 s
theorem xt_new {t b n s pl : Nat} {M : zMem} {Q : Int32 → zMem → Prop} (ht : ztc (M b 0) = t) (hd : t + 4 < b) (hn : M t 0 = nI n) (hn8 : n ≤ 8) (hpl : M b 5 = nI pl) (hpl6 : pl < 6) (hs : M (t + 1) pl = nI s) (hs3 : s < 3) (hq : sp_pf (fun i => M (t + 2) (s * 8 + i)) n 0 < n) (hQ : Q 1 (sp_new t b M)) : wp_Bench_takeNewCoat b M Q := by
  unfold sp_new at hQ
  unfold wp_Bench_takeNewCoat
  simp (disch := omega) [q_lit, q_add, q_mul, q_sub, q_ix, q_in, q_lt, q_le, q_eq, q_nlt, q_nle, q_ltn, q_len, q_neq, q_eqn, zup_ne, zup_eq, zset_ne, zset_eq, upd_eq, upd_ne, forall_eq, true_and, and_true, true_implies, false_implies, implies_true, not_true_eq_false, not_false_eq_true, and_self, ↓reduceIte, false_and, and_false, ht, hs, hn, hpl] at hQ ⊢
  refine xt_pieceFrom (n := n) hn hn8 hs3 (by omega) ?_
  simp (disch := omega) [q_lit, q_add, q_mul, q_sub, q_ix, q_in, q_lt, q_le, q_eq, q_nlt, q_nle, q_ltn, q_len, q_neq, q_eqn, zup_ne, zup_eq, zset_ne, zset_eq, upd_eq, upd_ne, forall_eq, true_and, and_true, true_implies, false_implies, implies_true, not_true_eq_false, not_false_eq_true, and_self, ↓reduceIte, false_and, and_false, ht, hn, hs, hpl, hq]
  grind
/-- whether a coat can be left -/
def sp_can (t b h : Nat) (M : zMem) : Prop := ¬ (0 < M (b + 4) h ∧ ((M t 5 >>> (M (b + 3) h &&& 31)) &&& 1) = 1) ∧ ¬ (M t 4 = 2 ∧ M (b + 3) h < M (t + 4) h)
def sp_note (g : Nat) (k w p u s : Int32) (M : zMem) : zMem :=
  if M g 0 < 600 then zup (zup (zup (zup (zup (zup M (g + 1) (ix (M g 0) * 5) k) (g + 1) (ix (M g 0) * 5 + 1) w) (g + 1) (ix (M g 0) * 5 + 2) p) (g + 1) (ix (M g 0) * 5 + 3) u) (g + 1) (ix (M g 0) * 5 + 4) s) g 0 (M g 0 + 1) else M
theorem e_note_ne {g k : Nat} {a w p u s : Int32} {M : zMem} (h : k ≠ g) (h2 : k ≠ g + 1) : sp_note g a w p u s M k = M k := by
  unfold sp_note
  split
  · simp (disch := omega) only [q_lit, q_add, q_mul, q_sub, q_ix, q_in, q_lt, q_le, q_eq, q_nlt, q_nle, q_ltn, q_len, q_neq, q_eqn, zup_ne, zup_eq, zset_ne, zset_eq, upd_eq, upd_ne, forall_eq, true_and, and_true, true_implies, false_implies, implies_true, not_true_eq_false, not_false_eq_true, and_self, ↓reduceIte, false_and, and_false]
  · rfl
theorem xt_note {g z : Nat} {k w p u s : Int32} {M : zMem} {Q : zMem → Prop} (hz : M g 0 = nI z) (hz6 : z ≤ 600) (hQ : Q (sp_note g k w p u s M)) : wp_Handings_note g k w p u s M Q := by
  unfold sp_note at hQ
  unfold wp_Handings_note
  by_cases h1 : z < 600
  · have h2 : ¬ 600 ≤ z := by omega
    simp (disch := omega) [q_lit, q_add, q_mul, q_sub, q_ix, q_in, q_lt, q_le, q_eq, q_nlt, q_nle, q_ltn, q_len, q_neq, q_eqn, zup_ne, zup_eq, zset_ne, zset_eq, upd_eq, upd_ne, forall_eq, true_and, and_true, true_implies, false_implies, implies_true, not_true_eq_false, not_false_eq_true, and_self, ↓reduceIte, false_and, and_false, hz, h1, h2] at hQ ⊢
    exact hQ
  · have h2 : 600 ≤ z := by omega
    simp (disch := omega) [q_lit, q_add, q_mul, q_sub, q_ix, q_in, q_lt, q_le, q_eq, q_nlt, q_nle, q_ltn, q_len, q_neq, q_eqn, zup_ne, zup_eq, zset_ne, zset_eq, upd_eq, upd_ne, forall_eq, true_and, and_true, true_implies, false_implies, implies_true, not_true_eq_false, not_false_eq_true, and_self, ↓reduceIte, false_and, and_false, hz, h1, h2] at hQ ⊢
    exact hQ
def sp_take (t b h : Nat) (M : zMem) : zMem :=
  let M5 := zup (zup (zup (zup (zup M (b + 1) h 2) (b + 3) h (M (b + 3) (h - 1))) (b + 4) h (M (b + 4) (h - 1))) (b + 5) h (M (b + 5) (h - 1))) b 4 (M b 4 + 1)
  match zlg b with
  | none => sp_goBack t b (h - 1) (M (b + 3) (h - 1)) M5
  | some g => sp_goBack t b (h - 1) (M (b + 3) (h - 1)) (sp_note g (M b 2) (nI h) (M (b + 3) (h - 1)) (M (b + 4) (h - 1)) (M (b + 5) (h - 1)) M5)
theorem e_mayBeLeft {t h : Nat} {x u : Int32} {M : zMem} {Q : Int32 → zMem → Prop} (hh : h < 5) : wp_Told_mayBeLeft t (nI h) x u M Q = ((¬ (0 < u ∧ ((M t 5 >>> (x &&& 31)) &&& 1) = 1) ∧ ¬ (M t 4 = 2 ∧ x < M (t + 4) h) → Q 1 M) ∧ (¬ (¬ (0 < u ∧ ((M t 5 >>> (x &&& 31)) &&& 1) = 1) ∧ ¬ (M t 4 = 2 ∧ x < M (t + 4) h)) → Q 0 M)) := by
  unfold wp_Told_mayBeLeft wpJ_Told_mayBeLeft_18
  have h1 : ix (nI h) = h := q_ix (by omega)
  have h2 : vp_in (nI h) 5 := vp_in_nI hh (by omega)
  have h3 : (u ≤ 0) = ¬ (0 < u) := by rw [Int32.not_lt]
  rw [h1, h3]
  apply propext
  grind
theorem zlg_cases (b : Nat) : zlg b = none ∨ (zlg b = some 30 ∧ b = 32) := by
  unfold zlg
  split
  · right; exact ⟨rfl, by assumption⟩
  · left; rfl
theorem xt_take {t b h : Nat} {M : zMem} {Q : Int32 → zMem → Prop} (ht : ztc (M b 0) = t) (hd : t + 4 < b) (hd2 : t + 4 < 18) (h0 : 0 < h) (hh : h < 5) (hz : ∀ g, zlg b = some g → ∃ z, M g 0 = nI z ∧ z ≤ 600) (h1 : M (b + 1) (h - 1) = 2 → sp_can t b (h - 1) M → Q 1 (sp_take t b h M)) (h2 : ¬ (M (b + 1) (h - 1) = 2 ∧ sp_can t b (h - 1) M) → Q 0 M) : wp_Bench_takeOver b (nI h) M Q := by
  unfold wp_Bench_takeOver
  have e1 : nI h - 1 = nI (h - 1) := pk_sub h0
  have e2 : h - 1 < 5 := by omega
  have e3 : h - 1 ≠ h := by omega
  by_cases c1 : M (b + 1) (h - 1) = 2
  · by_cases c2 : sp_can t b (h - 1) M
    · have h3 := h1 c1 c2
      unfold sp_can at c2
      unfold sp_take at h3
      have c1' : M (b + 1) (h - 1) = nI 2 := c1
      simp (disch := omega) only [e1, ht, e_mayBeLeft e2, q_lit, q_add, q_mul, q_sub, q_ix, q_in, q_lt, q_le, q_eq, q_nlt, q_nle, q_ltn, q_len, q_neq, q_eqn, zup_ne, zup_eq, zset_ne, zset_eq, upd_eq, upd_ne, forall_eq, true_and, and_true, true_implies, false_implies, implies_true, not_true_eq_false, not_false_eq_true, and_self, ↓reduceIte, false_and, and_false, c1']
      refine ⟨fun _ => ⟨fun _ => ?_, fun h4 => absurd h4 (by decide)⟩, fun h4 => absurd c2 h4⟩
      rcases zlg_cases b with hg | ⟨hg, hb⟩
      · rw [hg] at h3
        simp (disch := omega) only [q_lit, q_add, q_mul, q_sub, q_ix, q_in, q_lt, q_le, q_eq, q_nlt, q_nle, q_ltn, q_len, q_neq, q_eqn, zup_ne, zup_eq, zset_ne, zset_eq, upd_eq, upd_ne, forall_eq, true_and, and_true, true_implies, false_implies, implies_true, not_true_eq_false, not_false_eq_true, and_self, ↓reduceIte, false_and, and_false, hg] at h3 ⊢
        refine ⟨xt_goBack (t := t) (by simp (disch := omega) [q_lit, q_add, q_mul, q_sub, q_ix, q_in, q_lt, q_le, q_eq, q_nlt, q_nle, q_ltn, q_len, q_neq, q_eqn, zup_ne, zup_eq, zset_ne, zset_eq, upd_eq, upd_ne, forall_eq, true_and, and_true, true_implies, false_implies, implies_true, not_true_eq_false, not_false_eq_true, and_self, ↓reduceIte, false_and, and_false, ht]) hd e2 h3, fun g h5 => by cases h5⟩
      · rw [hg] at h3
        obtain ⟨z, hz1, hz2⟩ := hz 30 hg
        simp (disch := omega) only [q_lit, q_add, q_mul, q_sub, q_ix, q_in, q_lt, q_le, q_eq, q_nlt, q_nle, q_ltn, q_len, q_neq, q_eqn, zup_ne, zup_eq, zset_ne, zset_eq, upd_eq, upd_ne, forall_eq, true_and, and_true, true_implies, false_implies, implies_true, not_true_eq_false, not_false_eq_true, and_self, ↓reduceIte, false_and, and_false, hg] at h3 ⊢
        refine ⟨fun h5 => (nomatch h5), fun g h5 => ?_⟩
        cases h5
        refine xt_note (z := z) (by simp (disch := omega) only [q_lit, q_add, q_mul, q_sub, q_ix, q_in, q_lt, q_le, q_eq, q_nlt, q_nle, q_ltn, q_len, q_neq, q_eqn, zup_ne, zup_eq, zset_ne, zset_eq, upd_eq, upd_ne, forall_eq, true_and, and_true, true_implies, false_implies, implies_true, not_true_eq_false, not_false_eq_true, and_self, ↓reduceIte, false_and, and_false]; exact hz1) hz2 ?_
        simp (disch := omega) only [q_lit, q_add, q_mul, q_sub, q_ix, q_in, q_lt, q_le, q_eq, q_nlt, q_nle, q_ltn, q_len, q_neq, q_eqn, zup_ne, zup_eq, zset_ne, zset_eq, upd_eq, upd_ne, forall_eq, true_and, and_true, true_implies, false_implies, implies_true, not_true_eq_false, not_false_eq_true, and_self, ↓reduceIte, false_and, and_false, e_note_ne]
        exact xt_goBack (t := t) (by simp (disch := omega) only [q_lit, q_add, q_mul, q_sub, q_ix, q_in, q_lt, q_le, q_eq, q_nlt, q_nle, q_ltn, q_len, q_neq, q_eqn, zup_ne, zup_eq, zset_ne, zset_eq, upd_eq, upd_ne, forall_eq, true_and, and_true, true_implies, false_implies, implies_true, not_true_eq_false, not_false_eq_true, and_self, ↓reduceIte, false_and, and_false, e_note_ne]; exact ht) hd e2 h3
    · have h3 := h2 (fun q => c2 q.2)
      unfold sp_can at c2
      have c1' : M (b + 1) (h - 1) = nI 2 := c1
      simp (disch := omega) only [e1, ht, e_mayBeLeft e2, q_lit, q_add, q_mul, q_sub, q_ix, q_in, q_lt, q_le, q_eq, q_nlt, q_nle, q_ltn, q_len, q_neq, q_eqn, zup_ne, zup_eq, zset_ne, zset_eq, upd_eq, upd_ne, forall_eq, true_and, and_true, true_implies, false_implies, implies_true, not_true_eq_false, not_false_eq_true, and_self, ↓reduceIte, false_and, and_false, c1']
      exact ⟨fun h4 => absurd h4 c2, fun _ => h3⟩
  · have h3 := h2 (fun q => c1 q.1)
    have c1' : ¬ M (b + 1) (h - 1) = nI 2 := c1
    simp (disch := omega) only [e1, ht, e_mayBeLeft e2, q_lit, q_add, q_mul, q_sub, q_ix, q_in, q_lt, q_le, q_eq, q_nlt, q_nle, q_ltn, q_len, q_neq, q_eqn, zup_ne, zup_eq, zset_ne, zset_eq, upd_eq, upd_ne, forall_eq, true_and, and_true, true_implies, false_implies, implies_true, not_true_eq_false, not_false_eq_true, and_self, ↓reduceIte, false_and, and_false, c1']
    exact h3

def sp_ticks (t h p : Nat) (ld : Int32) (M : zMem) : Int32 :=
  let v := if 0 < M t 3 then M (t + 3) (h * 8 + p) - ld / M t 3 else M (t + 3) (h * 8 + p)
  if v < 1 then 1 else v
theorem e_ticksOf {t h p : Nat} {ld : Int32} {M : zMem} {Q : Int32 → zMem → Prop} (hh : h < 5) (hp : p < 8) (hQ : Q (sp_ticks t h p ld M) M) : wp_Told_ticksOf t (nI h) (nI p) ld M Q := by
  unfold wp_Told_ticksOf
  unfold sp_ticks at hQ
  have e1 : ix (nI h * 8 + nI p) = h * 8 + p := by simp (disch := omega) only [q_lit, q_add, q_mul, q_sub, q_ix, q_in, q_lt, q_le, q_eq, q_nlt, q_nle, q_ltn, q_len, q_neq, q_eqn, zup_ne, zup_eq, zset_ne, zset_eq, upd_eq, upd_ne, forall_eq, true_and, and_true, true_implies, false_implies, implies_true, not_true_eq_false, not_false_eq_true, and_self, ↓reduceIte, false_and, and_false]
  have e2 : vp_in (nI h * 8 + nI p) 40 := by simp (disch := omega) only [q_lit, q_add, q_mul, q_sub, q_ix, q_in, q_lt, q_le, q_eq, q_nlt, q_nle, q_ltn, q_len, q_neq, q_eqn, zup_ne, zup_eq, zset_ne, zset_eq, upd_eq, upd_ne, forall_eq, true_and, and_true, true_implies, false_implies, implies_true, not_true_eq_false, not_false_eq_true, and_self, ↓reduceIte, false_and, and_false]
  refine ⟨e2, ?_⟩
  rw [e1]
  intro x hx
  subst hx
  refine ⟨fun h1 => ?_, fun h1 => ⟨fun h2 => h1 (by rw [h2]; exact Int32.le_refl 0), fun y hy => ?_⟩⟩
  · have h3 : ¬ 0 < M t 3 := by rw [Int32.not_lt]; exact h1
    rw [if_neg h3] at hQ
    refine ⟨fun h4 => ?_, fun h4 => ?_⟩
    · rw [if_neg (by rw [Int32.not_lt]; exact h4)] at hQ; exact hQ
    · rw [if_pos (by rw [Int32.not_le] at h4; exact h4)] at hQ; exact hQ
  · have h3 : 0 < M t 3 := by rw [Int32.not_le] at h1; exact h1
    rw [if_pos h3] at hQ
    subst hy
    refine ⟨fun h4 => ?_, fun h4 => ?_⟩
    · rw [if_neg (by rw [Int32.not_lt]; exact h4)] at hQ; exact hQ
    · rw [if_pos (by rw [Int32.not_le] at h4; exact h4)] at hQ; exact hQ
/-- whether the one behind holds a hand -/
def sp_held (t b h : Nat) (M : zMem) : Prop := nI (h + 1) < M t 1 ∧ ¬ M (b + 3) (h + 1) < 0 ∧ (M (b + 3) (h + 1) < M (b + 3) h ∨ (M (b + 3) (h + 1) = M (b + 3) h ∧ ¬ M (b + 4) h < M (b + 4) (h + 1)))
def sp_may (t b h : Nat) (M : zMem) : Prop := M (b + 3) h < M (t + 4) h ∧ ¬ sp_held t b h M
def sp_start (t b h : Nat) (M : zMem) : zMem := zup (zup M (b + 1) h 3) (b + 2) h (sp_ticks t h (ix (M (b + 3) h)) (M (b + 7) (h * 8 + ix (M (b + 3) h))) M)
theorem e_isHeldBy {t b h H : Nat} {M : zMem} {Q : Int32 → zMem → Prop} (ht : ztc (M b 0) = t) (hh : h < 5) (hH : M t 1 = nI H) (hH5 : H ≤ 5) (h1 : sp_held t b h M → Q 1 M) (h0 : ¬ sp_held t b h M → Q 0 M) : wp_Bench_isHeldBy b (nI h) (nI h + 1) M Q := by
  unfold wp_Bench_isHeldBy
  unfold sp_held at h1 h0
  rw [nI_1, ht, hH]
  rw [hH] at h1 h0
  by_cases c : h + 1 < H
  · have c2 : ¬ H ≤ h + 1 := by omega
    have e1 : ix (nI (h + 1)) = h + 1 := q_ix (by omega)
    have e2 : vp_in (nI (h + 1)) 5 := vp_in_nI (by omega) (by omega)
    have e3 : ix (nI h) = h := q_ix (by omega)
    have e4 : vp_in (nI h) 5 := vp_in_nI (by omega) (by omega)
    have e5 : nI (h + 1) < nI H := nI_lt c (by omega)
    have e6 : ¬ nI H ≤ nI (h + 1) := by rw [Int32.not_le]; exact e5
    rw [e1, e3]
    have q1 : ∀ x y : Int32, (x ≤ y) = (x < y ∨ x = y) := fun x y => propext Int32.le_iff_lt_or_eq
    grind
  · have c2 : nI H ≤ nI (h + 1) := nI_le (by omega) (by omega)
    have c3 : ¬ nI (h + 1) < nI H := by rw [Int32.not_lt]; exact c2
    grind
theorem xt_start {t b h n p H : Nat} {M : zMem} {Q : Int32 → zMem → Prop} (ht : ztc (M b 0) = t) (hd : t + 4 < b) (hh : h < 5) (hn8 : n ≤ 8) (hp : M (b + 3) h = nI p) (hpn : p < n) (hH : M t 1 = nI H) (hH5 : H ≤ 5) (h1 : sp_may t b h M → Q 1 (sp_start t b h M)) (h0 : ¬ sp_may t b h M → Q 0 M) : wp_Bench_startUnit b (nI h) M Q := by
  unfold wp_Bench_startUnit wp_Told_mayBegin
  unfold sp_may at h1 h0
  unfold sp_start at h1
  have e1 : ix (nI h) = h := q_ix (by omega)
  have e2 : vp_in (nI h) 5 := vp_in_nI (by omega) (by omega)
  have e3 : ix (nI p) = p := q_ix (by omega)
  rw [ht, e1]
  rw [hp, e3] at h1
  rw [hp] at h0
  rw [hp]
  refine ⟨e2, e2, fun c1 => ⟨fun _ => h0 (fun q => by have q1 := q.1; rw [← Int32.not_le] at q1; exact q1 c1), fun c2 => absurd rfl c2⟩, fun c1 => ⟨fun c2 => absurd c2 (by decide), fun _ => ?_⟩⟩
  refine e_isHeldBy ht hh hH hH5 (fun c2 => ⟨fun c3 => absurd c3 (by decide), fun _ => h0 (fun q => q.2 c2)⟩) (fun c2 => ⟨fun _ => ?_, fun c3 => absurd rfl c3⟩)
  have h3 := h1 ⟨by rw [← Int32.not_le]; exact c1, c2⟩
  refine ⟨e2, fun M5 hM5 => ?_⟩
  subst hM5
  simp (disch := omega) only [q_lit, q_add, q_mul, q_sub, q_ix, q_in, q_lt, q_le, q_eq, q_nlt, q_nle, q_ltn, q_len, q_neq, q_eqn, zup_ne, zup_eq, zset_ne, zset_eq, upd_eq, upd_ne, forall_eq, true_and, and_true, true_implies, false_implies, implies_true, not_true_eq_false, not_false_eq_true, and_self, ↓reduceIte, false_and, and_false, ht, hp]
  refine e_ticksOf (by omega) (by omega) ?_
  unfold sp_ticks at h3 ⊢
  simp (disch := omega) only [q_lit, q_add, q_mul, q_sub, q_ix, q_in, q_lt, q_le, q_eq, q_nlt, q_nle, q_ltn, q_len, q_neq, q_eqn, zup_ne, zup_eq, zset_ne, zset_eq, upd_eq, upd_ne, forall_eq, true_and, and_true, true_implies, false_implies, implies_true, not_true_eq_false, not_false_eq_true, and_self, ↓reduceIte, false_and, and_false, ht, hp] at h3 ⊢
  exact h3
/-- what a hand does at a tick: none if nothing -/
noncomputable def sp_hand (t b h : Nat) (M : zMem) : Option zMem :=
  if M (b + 2) h = 0 then
    if M (b + 1) h = 3 then some (sp_finish t b h M)
    else if M (b + 1) h = 0 then (if h = 0 then some (sp_new t b M) else
      (haveI := Classical.propDecidable (M (b + 1) (h - 1) = 2 ∧ sp_can t b (h - 1) M); if M (b + 1) (h - 1) = 2 ∧ sp_can t b (h - 1) M then some (sp_take t b h M) else none))
    else if M (b + 1) h = 2 then (haveI := Classical.propDecidable (sp_may t b h M); if sp_may t b h M then some (sp_start t b h M) else none)
    else none
  else none
/-- what is told is well told: n pieces, H hands, L in the row -/
def sp_vt (M : zMem) (t n H L : Nat) : Prop :=
  (1 ≤ n ∧ n ≤ 8 ∧ 1 ≤ H ∧ H ≤ 5 ∧ 1 ≤ L ∧ L ≤ 6) ∧ M t 0 = nI n ∧ M t 1 = nI H ∧ M t 6 = nI L ∧ (∃ k, k ≤ 5 ∧ M t 2 = nI k) ∧ (∃ k, k ≤ 99 ∧ M t 3 = nI k) ∧ (∃ k, k ≤ 2 ∧ M t 4 = nI k) ∧ (∃ k, k < 256 ∧ M t 5 = nI k) ∧
  (∀ i, i < L → ∃ s, s < 3 ∧ M (t + 1) i = nI s) ∧ (∀ s p, s < 3 → p < n → ∃ u, u ≤ 6 ∧ M (t + 2) (s * 8 + p) = nI u) ∧ (∀ s, s < 3 → sp_pf (fun i => M (t + 2) (s * 8 + i)) n 0 < n) ∧
  (∀ h p, h < H → p < n → ∃ c, 1 ≤ c ∧ c ≤ 9 ∧ M (t + 3) (h * 8 + p) = nI c) ∧ (∀ h, h < H → ∃ e, e ≤ n ∧ M (t + 4) h = nI e) ∧ M (t + 4) (H - 1) = nI n ∧ (M t 4 = 0 → ∀ h, h < H → M (t + 4) h = nI n)
/-- a hand's state is well -/
def sp_hd (M : zMem) (t b n h : Nat) : Prop :=
  (M (b + 1) h = 0 ∧ M (b + 2) h = 0 ∧ M (b + 3) h = -1) ∨ (M (b + 1) h = 1 ∧ 0 < M (b + 2) h ∧ M (b + 3) h = -1) ∨
  (∃ p u s U, p < n ∧ s < 3 ∧ u < U ∧ U ≤ 6 ∧ M (b + 3) h = nI p ∧ M (b + 4) h = nI u ∧ M (b + 5) h = nI s ∧ M (t + 2) (s * 8 + p) = nI U ∧ ((M (b + 1) h = 2 ∧ M (b + 2) h = 0) ∨ (M (b + 1) h = 3 ∧ 0 ≤ M (b + 2) h)) ∧ ((M (b + 1) h = 3 ∨ (0 < u ∧ ((M t 5 >>> (nI p &&& 31)) &&& 1) = 1)) → nI p < M (t + 4) h))
def sp_ok (M : zMem) (t b n H L : Nat) : Prop :=
  ztc (M b 0) = t ∧ t + 4 < 18 ∧ 18 ≤ b ∧ sp_vt M t n H L ∧ (∃ pl, pl < L ∧ M b 5 = nI pl) ∧ (∀ h, h < H → sp_hd M t b n h) ∧ (∀ g, zlg b = some g → ∃ z, M g 0 = nI z ∧ z ≤ 600)
theorem xt_hand {t b n H L h : Nat} {M : zMem} {Q : Int32 → zMem → Prop} (ok : sp_ok M t b n H L) (hh : h < H) (hl : M (b + 2) h = 0) (h1 : ∀ M', sp_hand t b h M = some M' → Q 1 M') (h0 : sp_hand t b h M = none → Q 0 M) : wp_Bench_act b (nI h) M Q := by
  obtain ⟨ht, hd2, hb18, ⟨⟨n1, n8, H1, H5, L1, L6⟩, hn, hH, hL, -, -, -, -, hrow, hun, hpf, -, -, -, -⟩, ⟨pl, hpl, hpl2⟩, hhd, hg⟩ := ok
  have e1 : ix (nI h) = h := q_ix (by omega)
  have e2 : vp_in (nI h) 5 := vp_in_nI (by omega) (by omega)
  have hd : t + 4 < b := by omega
  unfold wp_Bench_act
  refine ⟨e2, ?_⟩
  rw [e1]
  unfold sp_hand at h1 h0
  rw [if_pos hl] at h1 h0
  intro x hx
  rcases hhd h hh with ⟨a1, a2, a3⟩ | ⟨a1, a2, a3⟩ | ⟨p, u, s, U, a1, a2, a3, a4, a5, a6, a7, a8, a9, -⟩
  · rw [a1] at hx h1 h0
    subst hx
    rw [if_neg (by decide), if_pos rfl] at h1 h0
    refine ⟨fun _ => ⟨fun c => ?_, fun c => ?_⟩, fun c => absurd c (by decide), fun c => absurd c (by decide), fun c => absurd c (by decide), fun c => absurd rfl c⟩
    · have c0 : 0 < h := Nat.pos_of_ne_zero (fun q => c (by rw [q]; rfl))
      have c1 : ¬ h = 0 := by omega
      rw [if_neg c1] at h1 h0
      refine xt_take ht hd hd2 c0 (by omega) hg (fun c2 c3 => ⟨zbo_1, ?_⟩) (fun c2 => ⟨zbo_0, ?_⟩)
      · rw [if_pos ⟨c2, c3⟩] at h1
        exact h1 _ rfl
      · rw [if_neg c2] at h0
        exact h0 rfl
    · have c0 : h = 0 := by
        have := (nI_eq (a := h) (b := 0) (by omega) (by omega)).mp c
        exact this
      subst c0
      rw [if_pos rfl] at h1
      obtain ⟨s, hs3, hs⟩ := hrow pl hpl
      exact xt_new ht hd hn n8 hpl2 (by omega) hs hs3 (hpf s hs3) ⟨zbo_1, h1 _ rfl⟩
  · rw [hl] at a2
    exact absurd a2 (by decide)
  · rcases a9 with ⟨a9, -⟩ | ⟨a9, -⟩
    · rw [a9] at hx h1 h0
      subst hx
      rw [if_neg (by decide), if_neg (by decide), if_pos rfl] at h1 h0
      refine ⟨fun c => absurd c (by decide), fun c => absurd c (by decide), fun _ => ?_, fun c => absurd c (by decide), fun _ _ c => absurd rfl c⟩
      refine xt_start ht hd (by omega) n8 a5 a1 hH H5 (fun c => ⟨zbo_1, ?_⟩) (fun c => ⟨zbo_0, ?_⟩)
      · rw [if_pos c] at h1
        exact h1 _ rfl
      · rw [if_neg c] at h0
        exact h0 rfl
    · rw [a9] at hx h1 h0
      subst hx
      rw [if_pos rfl] at h1 h0
      refine ⟨fun c => absurd c (by decide), fun c => absurd c (by decide), fun c => absurd c (by decide), fun _ => ?_, fun _ _ _ c => absurd rfl c⟩
      exact xt_finish ht hd (by omega) hn n8 a5 a1 a6 (by omega) a7 a2 ⟨zbo_1, h1 _ rfl⟩
