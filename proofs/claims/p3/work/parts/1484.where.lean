/-- whether handing over k of a log is hand h's, within lo and hi -/
def wh1 (V : Nat → Int32) (h lo hi : Int32) (k : Nat) : Prop := V (k * 5 + 1) = h ∧ lo < V (k * 5) ∧ V (k * 5) ≤ hi
/-- what both look for in the log: how often, the first, whether always alike -/
def wf (V : Nat → Int32) (h lo hi : Int32) : Nat → Nat × Nat × Bool
  | 0 => (0, 0, true)
  | k + 1 => if V (k * 5 + 1) = h ∧ lo < V (k * 5) ∧ V (k * 5) ≤ hi then ((wf V h lo hi k).1 + 1, (if (wf V h lo hi k).1 = 0 then k else (wf V h lo hi k).2.1), ((wf V h lo hi k).2.2 && decide (V (k * 5 + 2) = V ((if (wf V h lo hi k).1 = 0 then k else (wf V h lo hi k).2.1) * 5 + 2)) && decide (V (k * 5 + 3) = V ((if (wf V h lo hi k).1 = 0 then k else (wf V h lo hi k).2.1) * 5 + 3)))) else wf V h lo hi k
theorem wf_no {V : Nat → Int32} {h lo hi : Int32} {k : Nat} (c : ¬ wh1 V h lo hi k) : wf V h lo hi (k + 1) = wf V h lo hi k := by
  show (if V (k * 5 + 1) = h ∧ lo < V (k * 5) ∧ V (k * 5) ≤ hi then _ else _) = _
  unfold wh1 at c
  rw [if_neg c]
theorem wf_yes {V : Nat → Int32} {h lo hi : Int32} {k t f f' : Nat} {b : Bool} (c : wh1 V h lo hi k) (e : wf V h lo hi k = (t, f, b)) (ef : f' = if t = 0 then k else f) : wf V h lo hi (k + 1) = (t + 1, f', (b && decide (V (k * 5 + 2) = V (f' * 5 + 2)) && decide (V (k * 5 + 3) = V (f' * 5 + 3)))) := by
  show (if V (k * 5 + 1) = h ∧ lo < V (k * 5) ∧ V (k * 5) ≤ hi then _ else _) = _
  unfold wh1 at c
  rw [if_pos c, e, ef]
theorem wf_b {V : Nat → Int32} {h lo hi : Int32} : ∀ k, (wf V h lo hi k).1 ≤ k ∧ ((wf V h lo hi k).1 = 0 ∨ (wf V h lo hi k).2.1 < k) := by
  intro k
  induction k with
  | zero => exact ⟨Nat.le_refl _, Or.inl rfl⟩
  | succ k ih =>
    by_cases c : wh1 V h lo hi k
    · rcases e : wf V h lo hi k with ⟨t, f, b⟩
      rw [e] at ih
      rw [wf_yes c e rfl]
      refine ⟨by have := ih.1; show t + 1 ≤ k + 1; omega, Or.inr ?_⟩
      show (if t = 0 then k else f) < k + 1
      split
      · omega
      · rcases ih.2 with q | q
        · exact absurd q (by assumption)
        · exact Nat.lt_succ_of_lt q
    · rw [wf_no c]
      exact ⟨by omega, ih.2.imp id (fun q => by omega)⟩
theorem wf_pos {V : Nat → Int32} {h lo hi : Int32} {k : Nat} (c : wh1 V h lo hi k) : ∀ m, k < m → 0 < (wf V h lo hi m).1 := by
  intro m
  induction m with
  | zero => intro h; omega
  | succ m ih =>
    intro hk
    by_cases d : wh1 V h lo hi m
    · rcases e : wf V h lo hi m with ⟨t, f, b⟩
      rw [wf_yes d e rfl]
      exact Nat.succ_pos t
    · rw [wf_no d]
      refine ih ?_
      rcases Nat.lt_or_ge k m with q | q
      · exact q
      · have : k = m := by omega
        subst this
        exact absurd c d
theorem wf_congr {V V' : Nat → Int32} {h lo hi : Int32} : ∀ k, (∀ j, j < 5 * k → V j = V' j) → wf V h lo hi k = wf V' h lo hi k := by
  intro k
  induction k with
  | zero => intro _; rfl
  | succ k ih =>
    intro e
    have i := ih (fun j hj => e j (by omega))
    have i2 := wf_b (V := V') (h := h) (lo := lo) (hi := hi) k
    have cc : wh1 V h lo hi k ↔ wh1 V' h lo hi k := by
      unfold wh1
      rw [e (k * 5 + 1) (by omega), e (k * 5) (by omega)]
    by_cases c : wh1 V h lo hi k
    · rcases e1 : wf V' h lo hi k with ⟨t, f, b⟩
      rw [e1] at i2
      have hf : ∃ f', f' = (if t = 0 then k else f) ∧ f' ≤ k := ⟨_, rfl, by
        split
        · exact Nat.le_refl _
        · rcases i2.2 with q | q
          · exact absurd q (by assumption)
          · exact Nat.le_of_lt q⟩
      obtain ⟨f', ef, hf'⟩ := hf
      rw [wf_yes c (i.trans e1) ef, wf_yes (cc.mp c) e1 ef, e (k * 5 + 2) (by omega), e (k * 5 + 3) (by omega), e (f' * 5 + 2) (by omega), e (f' * 5 + 3) (by omega)]
    · rw [wf_no c, wf_no (fun q => c (cc.mpr q))]
      exact i
def w2 (V : Nat → Int32) (s : Nat × Nat × Bool) (j : Nat) : Int32 := if s.1 = 0 then -4 else V (s.2.1 * 5 + j)
def w7 (s : Nat × Nat × Bool) : Int32 := if s.2.2 = true then 1 else 0
theorem w7_and {t f : Nat} {b : Bool} {p q p' q' : Int32} : w7 (t, f, (b && decide (p = p') && decide (q = q'))) = if b = true ∧ p = p' ∧ q = q' then 1 else 0 := by
  unfold w7
  simp only [Bool.and_eq_true, decide_eq_true_eq, and_assoc]
/-- the class's answer -/
def wa (V : Nat → Int32) (s : Nat × Nat × Bool) (a : Int32) : Int32 := if a = 0 then nI s.1 else if a = 1 then (if s.2.2 = true ∧ 0 < s.1 then 1 else 0) else if a = 2 then w2 V s 2 else w2 V s 3
theorem xt_places {z : Nat} {a1 a3 lo hi : Int32} {M : zMem} {Q : Int32 → zMem → Prop} (hz : M 30 0 = nI z) (z6 : z ≤ 600) (elo : M 54 5 = lo) (ehi : M 54 5 + M 54 4 = hi) (hQ : Q (wa (M 31) (wf (M 31) a1 lo hi z) a3) M) : wp_Handings_placesOf 30 a1 54 a3 M Q := by
  unfold wp_Handings_placesOf
  refine zlp5_r (fun m x4 x5 x6 x7 x8 M' => M = M' ∧ ∃ k, k ≤ z ∧ m = z - k ∧ x8 = nI k ∧ x4 = nI (wf (M 31) a1 lo hi k).1 ∧ x5 = w2 (M 31) (wf (M 31) a1 lo hi k) 2 ∧ x6 = w2 (M 31) (wf (M 31) a1 lo hi k) 3 ∧ x7 = w7 (wf (M 31) a1 lo hi k)) ?_ (n := z) ⟨rfl, 0, by omega, rfl, rfl, rfl, rfl, rfl, rfl⟩
  rintro m x4 x5 x6 x7 x8 M' ⟨rfl, k, hk, rfl, rfl, rfl, rfl, rfl, rfl⟩ J hJ
  unfold wpB_Handings_placesOf_17
  rw [hz]
  refine ⟨fun c => ?_, fun c => ?_⟩
  · have := (nI_leI (by omega) (by omega)).mp c
    have e : k = z := by omega
    subst e
    have hb := (wf_b (V := M 31) (h := a1) (lo := lo) (hi := hi) k).1
    generalize wf (M 31) a1 lo hi k = s at hQ hb
    intro x ex
    subst ex
    unfold wa at hQ
    refine ⟨fun q => ?_, fun q => ⟨fun q2 => ?_, fun q2 => ⟨fun q3 => ?_, fun q3 => ?_⟩⟩, fun q => ?_, fun n0 n1 n2 => ?_⟩
    · rw [if_pos q] at hQ; exact hQ
    · rw [if_neg (by rw [q]; decide), if_pos q, if_neg (fun z => by unfold w7 at q2; rw [if_pos z.1] at q2; exact absurd q2 (by decide))] at hQ; exact hQ
    · have s0 : s.1 = 0 := by
        rcases Nat.eq_zero_or_pos s.1 with w | w
        · exact w
        · exact absurd q3 (nI_nle w (by omega))
      rw [if_neg (by rw [q]; decide), if_pos q, if_neg (fun z => by omega)] at hQ; exact hQ
    · have b1 : s.2.2 = true := by
        unfold w7 at q2
        by_cases w : s.2.2 = true
        · exact w
        · rw [if_neg w] at q2; exact absurd rfl q2
      have s0 : 0 < s.1 := by
        rcases Nat.eq_zero_or_pos s.1 with w | w
        · rw [w] at q3; exact absurd (by decide) q3
        · exact w
      rw [if_neg (by rw [q]; decide), if_pos q, if_pos ⟨b1, s0⟩] at hQ; exact hQ
    · rw [if_neg (by rw [q]; decide), if_neg (by rw [q]; decide), if_pos q] at hQ; exact hQ
    · rw [if_neg n0, if_neg n1, if_neg n2] at hQ; exact hQ
  · have hk2 : k < z := (nI_ltI (by omega) (by omega)).mp (Int32.not_le.mp c)
    refine e_value (j := 0) (by omega) (by omega) ?_
    refine e_value (j := 1) (by omega) (by omega) ?_
    have skip : ¬ wh1 (M 31) a1 lo hi k → ∀ y, y = nI k + 1 → J (nI (wf (M 31) a1 lo hi k).1) (w2 (M 31) (wf (M 31) a1 lo hi k) 2) (w2 (M 31) (wf (M 31) a1 lo hi k) 3) (w7 (wf (M 31) a1 lo hi k)) y M := fun nh y ey => by
      rw [ey, nI_1]
      exact hJ (z - (k + 1)) _ _ _ _ _ _ (by omega) ⟨rfl, k + 1, by omega, rfl, rfl, by rw [wf_no nh], by rw [wf_no nh], by rw [wf_no nh], by rw [wf_no nh]⟩
    refine ⟨fun n1 => skip (fun q => n1 q.1), fun y1 => ⟨fun n2 => skip (fun q => absurd q.2.1 (Int32.not_lt.mpr (by rw [← elo]; exact n2))), fun y2 => ⟨fun n3 => skip (fun q => absurd (show hi < M 31 (k * 5) by rw [← ehi]; exact n3) (Int32.not_lt.mpr q.2.2)), fun y3 => ?_⟩⟩⟩
    have hit : wh1 (M 31) a1 lo hi k := ⟨y1, by rw [← elo]; exact Int32.not_le.mp y2, by rw [← ehi]; exact Int32.not_lt.mp y3⟩
    have hb := wf_b (V := M 31) (h := a1) (lo := lo) (hi := hi) k
    rcases e : wf (M 31) a1 lo hi k with ⟨t, f, b⟩
    rw [e] at hb
    have put : ∀ f', f' = (if t = 0 then k else f) → wpJ_Handings_placesOf_92 30 a1 54 a3 (fun (zx25 : Int32) (zx26 : Int32) (zx27 : Int32) (zx28 : Int32) (zm24 : zMem) => ∀ zx29 : Int32, zx29 = a3 → (zx29 = 0 → Q zx25 zm24) ∧ (zx29 = 1 → (zx28 = 0 → Q 0 zm24) ∧ (¬ zx28 = 0 → (zx25 ≤ 0 → Q 0 zm24) ∧ (¬ zx25 ≤ 0 → Q 1 zm24))) ∧ (zx29 = 2 → Q zx26 zm24) ∧ (¬ zx29 = 0 → ¬ zx29 = 1 → ¬ zx29 = 2 → Q zx27 zm24)) J Q (nI t) (M 31 (f' * 5 + 2)) (M 31 (f' * 5 + 3)) (w7 (t, f, b)) (nI k) M := fun f' ef => by
      have nx := wf_yes hit e ef
      have go : ∀ x7 : Int32, x7 = (if b = true ∧ M 31 (k * 5 + 2) = M 31 (f' * 5 + 2) ∧ M 31 (k * 5 + 3) = M 31 (f' * 5 + 3) then 1 else 0) → ∀ y, y = nI t + 1 → ∀ y2, y2 = nI k + 1 → J y (M 31 (f' * 5 + 2)) (M 31 (f' * 5 + 3)) x7 y2 M := fun x7 e7 y ey y2 ey2 => by
        rw [ey, ey2, nI_1, nI_1]
        refine hJ (z - (k + 1)) _ _ _ _ _ _ (by omega) ⟨rfl, k + 1, by omega, rfl, rfl, by rw [nx], ?_, ?_, ?_⟩
        · rw [nx]; unfold w2; rw [if_neg (by show ¬ t + 1 = 0; omega)]
        · rw [nx]; unfold w2; rw [if_neg (by show ¬ t + 1 = 0; omega)]
        · rw [nx, w7_and, e7]
      refine ⟨fun q => go 0 ?_, fun q => e_value (j := 2) (by omega) (by omega) ?_⟩
      · have q' : (if b = true then (1 : Int32) else 0) = 0 := q
        rw [if_neg (fun z => by rw [if_pos z.1] at q'; exact absurd q' (by decide))]
      · have q' : ¬ (if b = true then (1 : Int32) else 0) = 0 := q
        have b1 : b = true := by
          by_cases w : b = true
          · exact w
          · rw [if_neg w] at q'; exact absurd rfl q'
        refine ⟨fun p2 => go 0 (by rw [if_neg (fun z => p2 z.2.1)]), fun p2 => e_value (j := 3) (by omega) (by omega) ⟨fun p3 => go 0 (by rw [if_neg (fun z => p3 z.2.2)]), fun p3 => go 1 (by rw [if_pos ⟨b1, p2, p3⟩])⟩⟩
    refine ⟨fun q => ?_, fun q => e_value (j := 2) (by omega) (by omega) (e_value (j := 3) (by omega) (by omega) ?_)⟩
    · have t0 : ¬ t = 0 := fun w => by rw [w] at q; exact q rfl
      have p := put f (by rw [if_neg t0])
      have e2 : w2 (M 31) (t, f, b) 2 = M 31 (f * 5 + 2) := by unfold w2; rw [if_neg t0]
      have e3 : w2 (M 31) (t, f, b) 3 = M 31 (f * 5 + 3) := by unfold w2; rw [if_neg t0]
      rw [e2, e3]
      exact p
    · have t0 : t = 0 := by
        rcases Nat.eq_zero_or_pos t with w | w
        · exact w
        · have := hb.1
          exact absurd q (nI_ne0 w (by show t < 2147483648; have : t ≤ k := hb.1; omega))
      exact put k (by rw [if_pos t0])
