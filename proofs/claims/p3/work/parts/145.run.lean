def wsum (f : Nat → Int32) : Nat → Int32
  | 0 => 0
  | h + 1 => wsum f h + f h
theorem wsum_congr {f g : Nat → Int32} : ∀ h, (∀ i, i < h → f i = g i) → wsum f h = wsum g h := by
  intro h
  induction h with
  | zero => intro _; rfl
  | succ h ih => intro e; unfold wsum; rw [ih (fun i hi => e i (by omega)), e h (by omega)]
theorem xt_waited {H : Nat} {M : zMem} {Q : Int32 → zMem → Prop} (ht : ztc (M 32 0) = 1) (hH : M 1 1 = nI H) (H5 : H ≤ 5) (hQ : Q (wsum (M 38) H) M) : wp_Bench_waitedByAll 32 M Q := by
  refine zlp2_r (fun m x y M' => ∃ h, x = wsum (M 38) h ∧ y = nI h ∧ h ≤ H ∧ m = H - h ∧ M' = M) ?_ (n := H) ⟨0, rfl, rfl, by omega, rfl, rfl⟩
  rintro m x y M' ⟨h, ex, ey, hh, em, eM⟩ J hJ
  rw [eM, ey]
  unfold wpB_Bench_waitedByAll_4
  rw [ht, hH]
  refine ⟨fun c => ?_, fun c => ?_⟩
  · have := (nI_leI (by omega) (by omega)).mp c
    have e : h = H := by omega
    rw [ex, e]
    exact hQ
  · have hh2 : h < H := (nI_ltI (by omega) (by omega)).mp (Int32.not_le.mp c)
    rw [q_ix (by omega)]
    refine ⟨vp_in_nI (by omega) (by omega), fun u eu v ev => ?_⟩
    rw [ev, nI_1]
    exact hJ (H - (h + 1)) _ _ _ (by omega) ⟨h + 1, by rw [eu, ex]; rfl, rfl, by omega, rfl, rfl⟩
def bm (f : Nat → Int32) : Nat → Nat
  | 0 => 0
  | k + 1 => if f k ≤ f (bm f k) then bm f k else k
theorem bm_lt (f : Nat → Int32) : ∀ k, 0 < k → bm f k < k := by
  intro k
  induction k with
  | zero => intro h; omega
  | succ k ih =>
    intro _
    unfold bm
    split
    · rcases Nat.eq_zero_or_pos k with q | q
      · rw [q]; exact Nat.zero_lt_one
      · have := ih q; omega
    · omega
theorem bm_congr {f g : Nat → Int32} : ∀ k, (∀ i, i < k → f i = g i) → bm f k = bm g k := by
  intro k
  induction k with
  | zero => intro _; rfl
  | succ k ih =>
    intro e
    have e1 := ih (fun i hi => e i (by omega))
    unfold bm
    rw [← e1]
    have e2 : f (bm f k) = g (bm f k) := by
      rcases Nat.eq_zero_or_pos k with q | q
      · rw [q]; exact e 0 (by omega)
      · exact e _ (by have := bm_lt f k q; omega)
    rw [e k (by omega), e2]
theorem xt_most {n : Nat} {M : zMem} {Q : Int32 → zMem → Prop} (ht : ztc (M 32 0) = 1) (hn : M 1 0 = nI n) (n1 : 1 ≤ n) (n8 : n ≤ 8) (hQ : Q (if M 40 (bm (M 40) n) ≤ 0 then -4 else nI (bm (M 40) n)) M) : wp_Bench_mostStoodAt 32 M Q := by
  refine zlp2_r (fun m x y M' => ∃ k, x = nI (bm (M 40) k) ∧ y = nI k ∧ 1 ≤ k ∧ k ≤ n ∧ m = n - k ∧ M' = M) ?_ (n := n - 1) ⟨1, by unfold bm; rw [show bm (M 40) 0 = 0 from rfl, if_pos (Int32.le_refl _)]; rfl, rfl, by omega, n1, rfl, rfl⟩
  rintro m x y M' ⟨k, ex, ey, k1, hk, em, eM⟩ J hJ
  have hb := bm_lt (M 40) k (by omega)
  rw [eM, ex, ey]
  unfold wpB_Bench_mostStoodAt_4
  rw [ht, hn, q_ix (by omega), q_ix (by omega)]
  refine ⟨fun c => ?_, fun c => ?_⟩
  · have := (nI_leI (by omega) (by omega)).mp c
    have e : k = n := by omega
    rw [e] at hb ⊢
    refine ⟨vp_in_nI (by omega) (by omega), fun d => ?_, fun d => ?_⟩
    · have d' : M 40 (bm (M 40) n) ≤ 0 := d
      rw [if_pos d'] at hQ
      exact hQ
    · have d' : ¬ M 40 (bm (M 40) n) ≤ 0 := d
      rw [if_neg d'] at hQ
      exact hQ
  · have hk2 : k < n := (nI_ltI (by omega) (by omega)).mp (Int32.not_le.mp c)
    refine ⟨vp_in_nI (by omega) (by omega), vp_in_nI (by omega) (by omega), fun d v ev => ?_, fun d v ev => ?_⟩
    · have d' : M 40 k ≤ M 40 (bm (M 40) k) := d
      rw [ev, nI_1]
      exact hJ (n - (k + 1)) _ _ _ (by omega) ⟨k + 1, by rw [bm, if_pos d'], rfl, by omega, by omega, rfl, rfl⟩
    · have d' : ¬ M 40 k ≤ M 40 (bm (M 40) k) := d
      rw [ev, nI_1]
      exact hJ (n - (k + 1)) _ _ _ (by omega) ⟨k + 1, by rw [bm, if_neg d'], rfl, by omega, by omega, rfl, rfl⟩
theorem mw_sum {n H L : Nat} {a1 a2 x4 x5 : Int32} {R W : zMem} {K : Int32 → zMem → Prop} {Q : Int32 → zMem → Prop} (w : mr W R 1 1 32 n H L (fun h => h)) (H5 : H ≤ 5) (hK : K (wsum (R 38) H) W) : ∃ k, zlp2 (wpB_Model_run_43 a1 a2 x4 x5 K Q) k 0 0 W := by
  have h18 : W 0 18 = nI H := w.2.1.2.1
  refine zlp2_r (fun m x y W' => ∃ h, x = wsum (R 38) h ∧ y = nI h ∧ h ≤ H ∧ m = H - h ∧ W' = W) ?_ (n := H) ⟨0, rfl, rfl, by omega, rfl, rfl⟩
  rintro m x y W' ⟨h, ex, ey, hh, em, eW⟩ J hJ
  rw [eW, ey]
  unfold wpB_Model_run_43
  rw [h18]
  refine ⟨fun c => ?_, fun c => ?_⟩
  · have := (nI_leI (by omega) (by omega)).mp c
    have e : h = H := by omega
    rw [ex, e]
    exact hK
  · have hh2 : h < H := (nI_ltI (by omega) (by omega)).mp (Int32.not_le.mp c)
    show wp_Model_at (nI 1) (nI h) (nI 5) W _
    rw [e_at (by omega) (by omega) (by omega), if_neg (by omega), q_x0, (w.2.2.2.1 h hh2).2.2.1]
    intro u eu v ev
    rw [ev, nI_1]
    exact hJ (H - (h + 1)) _ _ _ (by omega) ⟨h + 1, by rw [eu, ex]; rfl, rfl, by omega, rfl, rfl⟩
theorem mw_most {n H L : Nat} {a1 a2 x3 : Int32} {R W : zMem} {K : Int32 → zMem → Prop} {Q : Int32 → zMem → Prop} (w : mr W R 1 1 32 n H L (fun h => h)) (s : ms W R 1 32 n) (n1 : 1 ≤ n) (n8 : n ≤ 8) (hK : K (if R 40 (bm (R 40) n) ≤ 0 then -4 else nI (bm (R 40) n)) W) : ∃ k, zlp3 (wpB_Model_run_72 a1 a2 x3 K Q) k (-4) 0 0 W := by
  have h40 : W 4 0 = nI n := w.2.1.1
  have hs : ∀ p, p < n → W 11 p = R 40 p := s rfl
  refine zlp3_r (fun m x y v W' => ∃ k, v = nI k ∧ k ≤ n ∧ m = n - k ∧ W' = W ∧ ((x = -4 ∧ y = 0 ∧ (0 < k → R 40 (bm (R 40) k) ≤ 0)) ∨ (0 < k ∧ 0 < R 40 (bm (R 40) k) ∧ x = nI (bm (R 40) k) ∧ y = R 40 (bm (R 40) k)))) ?_ (n := n) ⟨0, rfl, by omega, rfl, rfl, Or.inl ⟨rfl, rfl, fun q => absurd q (by omega)⟩⟩
  rintro m x y v W' ⟨k, ev, hk, em, eW, hx⟩ J hJ
  rw [eW, ev]
  unfold wpB_Model_run_72
  rw [show ix 0 = 0 from rfl, h40]
  refine ⟨vp_in_nI (n := 0) (by omega) (by omega), fun c => ?_, fun c => ?_⟩
  · have := (nI_leI (by omega) (by omega)).mp c
    have e : k = n := by omega
    rw [e] at hx
    rcases hx with ⟨q1, -, q3⟩ | ⟨-, q2, q3, -⟩
    · rw [if_pos (q3 (by omega))] at hK
      rw [q1]; exact hK
    · rw [if_neg (Int32.not_le.mpr q2)] at hK
      rw [q3]; exact hK
  · have hk2 : k < n := (nI_ltI (by omega) (by omega)).mp (Int32.not_le.mp c)
    have v8 : vp_in (nI k) 8 := vp_in_nI (by omega) (by omega)
    have ew := hs k hk2
    have keep : W 11 k ≤ y → wpJ_Model_run_102 a1 a2 K J Q x3 y (nI k) x W := by
      intro d
      refine ⟨v8, fun _ u eu => ?_, fun q => absurd (by rw [q_ix (by omega)]; exact d) q⟩
      rw [eu, nI_1]
      refine hJ (n - (k + 1)) _ _ _ _ (by omega) ⟨k + 1, rfl, by omega, rfl, rfl, ?_⟩
      rw [ew] at d
      rcases hx with ⟨q1, q2, q3⟩ | ⟨q0, q1, q2, q3⟩
      · rw [q2] at d
        refine Or.inl ⟨q1, q2, fun _ => ?_⟩
        rw [bm]
        split
        · rcases Nat.eq_zero_or_pos k with z | z
          · rw [z] at d ⊢; exact d
          · exact q3 z
        · exact d
      · rw [q3] at d
        have eb : bm (R 40) (k + 1) = bm (R 40) k := by rw [bm, if_pos d]
        rw [eb]
        exact Or.inr ⟨by omega, q1, q2, q3⟩
    have take : ¬ W 11 k ≤ y → wpJ_Model_run_102 a1 a2 K J Q x3 y (nI k) (nI k) W := by
      intro d
      refine ⟨v8, fun q => absurd (by rw [q_ix (by omega)] at q; exact q) d, fun _ => ⟨v8, fun u eu u2 eu2 => ?_⟩⟩
      rw [q_ix (by omega), ew] at eu
      rw [eu, eu2, nI_1]
      refine hJ (n - (k + 1)) _ _ _ _ (by omega) ⟨k + 1, rfl, by omega, rfl, rfl, ?_⟩
      rw [ew] at d
      have d2 := Int32.not_le.mp d
      rcases hx with ⟨q1, q2, q3⟩ | ⟨q0, q1, q2, q3⟩
      · rw [q2] at d2
        have eb : bm (R 40) (k + 1) = k := by
          rw [bm]
          split
          · rename_i q
            rcases Nat.eq_zero_or_pos k with z | z
            · rw [z]; rfl
            · exact absurd (Int32.lt_of_lt_of_le d2 (Int32.le_trans q (q3 z))) (Int32.lt_irrefl)
          · rfl
        rw [eb]
        exact Or.inr ⟨by omega, d2, rfl, rfl⟩
      · rw [q3] at d d2
        have eb : bm (R 40) (k + 1) = k := by rw [bm, if_neg d]
        rw [eb]
        exact Or.inr ⟨by omega, Int32.lt_trans q1 d2, rfl, rfl⟩
    refine ⟨v8, fun d => keep ?_, fun d => take ?_⟩
    · rw [q_ix (by omega)] at d; exact d
    · rw [q_ix (by omega)] at d; exact d
theorem p_run {n H L : Nat} {M W : zMem} {a1 a2 : Int32} {P : zMem → zMem → Prop} (vt : sp_vt M 1 n H L) (r : rt0 W M n H L) (ht : ztc (M 32 0) = 1) (hcc : cc M n H L) (hP0 : P M W)
    (hP : ∀ M' W', cc M' n H L → cfc M M' → mfy W W' → P M' W') : wp_Main_run a1 a2 M (fun x M' => wp_Model_run a1 a2 W (fun y W' => x = y ∧ P M' W')) := by
  obtain ⟨⟨n1, n8, H1, H5, L1, L6⟩, hn, hH, -⟩ := id vt
  refine xt_isRun (fun m m1 hm em => ⟨fun q => absurd q (by decide), fun _ => ?_⟩) (fun nr => ⟨fun _ => run_no nr ⟨fun _ => ⟨rfl, hP0⟩, fun q => absurd rfl q⟩, fun q => absurd rfl q⟩)
  subst em
  have bad : ¬ (0 ≤ a2 ∧ a2 ≤ 5) → wp_Model_run (nI m) a2 W (fun y W' => -1 = y ∧ P M W') := fun q => run_yes m1 hm ⟨fun q => absurd q (by decide), fun _ => in_no (hi := 5) rfl q ⟨fun q => absurd rfl q, fun _ => ⟨rfl, hP0⟩⟩⟩
  refine ⟨fun c => bad (fun q => absurd c (Int32.not_lt.mpr q.1)), fun c => ⟨fun c2 => ?_, fun c2 => bad (fun q => c2 q.2)⟩⟩
  obtain ⟨j, hj, rfl⟩ := nI_of2 (x := a2) (M := 5) (n := 5) rfl c c2
  refine xt_course vt ht hcc m1 hm (fun M' R hr e30 e2 e3 e32 fr => ?_)
  have ccM := cc.of m1 hm hr e30 e2 e3 fr
  have way : ∀ x : Int32, (∀ W', mr W' R 1 1 32 n H L (fun h => h) → W' 6 99 = 0 → (j < 4 → x = W' 6 (96 + j)) ∧ (j = 4 → x = wsum (R 38) H) ∧ (j = 5 → x = if R 40 (bm (R 40) n) ≤ 0 then -4 else nI (bm (R 40) n))) → wp_Model_run (nI m) (nI j) W (fun v W' => x = v ∧ P M' W') := by
    intro x hx
    refine run_yes m1 hm ⟨fun q => absurd q (by decide), fun _ => in_yes (hi := 5) rfl (by omega) (by omega) ⟨fun _ => ?_, fun q => absurd q (by decide)⟩⟩
    refine mw_course vt r hm hr (fun W' w1 w2 w3 w4 => ?_)
    have pp := hP M' W' ccM ⟨e32, fr⟩ w4
    obtain ⟨x1, x2, x3⟩ := hx W' w1 w3
    refine mw_sum w1 H5 (mw_most w1 w2 n1 n8 ⟨fun d => ?_, fun d => ?_⟩)
    · have d4 := (nI_leI (a := 4) (by omega) (by omega)).mp d
      refine ⟨fun q => ⟨x3 ?_, pp⟩, fun q => ⟨x2 ?_, pp⟩⟩
      · rcases (show j = 4 ∨ j = 5 by omega) with z | z
        · rw [z] at q; exact absurd rfl q
        · exact z
      · exact (nI_eq (b := 4) (by omega) (by omega)).mp q
    · have d4 : j < 4 := (nI_ltI (b := 4) (by omega) (by omega)).mp (Int32.not_le.mp d)
      have e5 : 96 * 1 + nI j = nI (96 + j) := by simp (disch := omega) only [q_lit, q_add, q_mul, q_sub, q_ix, q_in, q_lt, q_le, q_eq, q_nlt, q_nle, q_ltn, q_len, q_neq, q_eqn, zup_ne, zup_eq, zset_ne, zset_eq, upd_eq, upd_ne, forall_eq, true_and, and_true, true_implies, false_implies, implies_true, not_true_eq_false, not_false_eq_true, and_self, ↓reduceIte, false_and, and_false]
      unfold wp_Model_of
      rw [e5, q_ix (by omega)]
      exact ⟨vp_in_nI (by omega) (by omega), x1 d4, pp⟩
  have t1 : M' 1 = M 1 := fr 1 (by omega)
  have h32 : M' 32 = R 32 := e30 32 (by omega) (by omega)
  have h38 : M' 38 = R 38 := e30 38 (by omega) (by omega)
  have h40 : M' 40 = R 40 := e30 40 (by omega) (by omega)
  intro x ex
  refine ⟨fun q => ?_, fun q => ?_, fun q => ?_, fun q => ⟨fun _ => ?_, fun z => absurd e3 z⟩, fun q => ?_, fun q0 q1 q2 q3 q4 => ?_⟩
  · have ej : j = 0 := (nI_eq (b := 0) (by omega) (by omega)).mp (ex.symm.trans q)
    refine way _ (fun W' w1 w3 => ⟨fun _ => ?_, fun z => absurd z (by omega), fun z => absurd z (by omega)⟩)
    rw [ej, h32]; exact w1.2.2.2.2.1.1.symm
  · have ej : j = 1 := (nI_eq (b := 1) (by omega) (by omega)).mp (ex.symm.trans q)
    refine way _ (fun W' w1 w3 => ⟨fun _ => ?_, fun z => absurd z (by omega), fun z => absurd z (by omega)⟩)
    rw [ej, h32]; exact w1.2.2.2.2.1.2.1.symm
  · have ej : j = 2 := (nI_eq (b := 2) (by omega) (by omega)).mp (ex.symm.trans q)
    refine way _ (fun W' w1 w3 => ⟨fun _ => ?_, fun z => absurd z (by omega), fun z => absurd z (by omega)⟩)
    rw [ej, h32]; exact w1.2.2.2.2.1.2.2.1.symm
  · have ej : j = 3 := (nI_eq (b := 3) (by omega) (by omega)).mp (ex.symm.trans q)
    refine way _ (fun W' w1 w3 => ⟨fun _ => ?_, fun z => absurd z (by omega), fun z => absurd z (by omega)⟩)
    rw [ej]; exact w3.symm
  · have ej : j = 4 := (nI_eq (b := 4) (by omega) (by omega)).mp (ex.symm.trans q)
    refine xt_waited (by rw [e32]; exact ht) (by rw [t1]; exact hH) H5 (way _ (fun W' w1 w3 => ⟨fun z => absurd z (by omega), fun _ => by rw [h38], fun z => absurd z (by omega)⟩))
  · have ej : j = 5 := by
      rcases (show j = 0 ∨ j = 1 ∨ j = 2 ∨ j = 3 ∨ j = 4 ∨ j = 5 by omega) with z | z | z | z | z | z
      · rw [z] at ex; exact absurd ex q0
      · rw [z] at ex; exact absurd ex q1
      · rw [z] at ex; exact absurd ex q2
      · rw [z] at ex; exact absurd ex q3
      · rw [z] at ex; exact absurd ex q4
      · exact z
    refine xt_most (by rw [e32]; exact ht) (by rw [t1]; exact hn) n1 n8 (way _ (fun W' w1 w3 => ⟨fun z => absurd z (by omega), fun z => absurd z (by omega), fun _ => by rw [h40]⟩))
