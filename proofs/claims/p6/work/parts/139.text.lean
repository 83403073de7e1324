theorem sub_le {y H z : Nat} (hy : y < 2147483648) (hH : H ≤ 5) (hz : z ≤ 5) : nI y ≤ nI H - nI z ↔ y + z ≤ H := by
  by_cases c : z ≤ H
  · rw [q_sub c, nI_leI hy (by omega)]
    omega
  · have e : nI H - nI z = -nI (z - H) := by
      rcases (show H = 0 ∨ H = 1 ∨ H = 2 ∨ H = 3 ∨ H = 4 by omega) with rfl | rfl | rfl | rfl | rfl <;> rcases (show z = 0 ∨ z = 1 ∨ z = 2 ∨ z = 3 ∨ z = 4 ∨ z = 5 by omega) with rfl | rfl | rfl | rfl | rfl | rfl <;> first | decide | omega
    rw [e, q_nle (by omega) (by omega) hy]
    exact ⟨fun h => h.elim, fun h => absurd h (by omega)⟩
theorem mw_read0 {n H L i l y z : Nat} {a3 : Int32} {M W : zMem} {Q : Int32 → zMem → Prop} (vt : sp_vt M 1 n H L) (r : rt0 W M n H L) (st : pst W M n H L) (hi : i < 4) (hl : l < 3) (hy : y < 2147483648) (hz : z ≤ 5) (hs : W 16 i = -4)
    (h0 : ¬ y + z ≤ H → Q (-1) W) (h1 : y + z ≤ H → ∀ W1, W1 0 24 = 1 → pr W1 M n H → awf W W1 → Q 0 (zup W1 0 39 (if z = 0 then 0 else 1))) : wp_Model_read (nI i) (nI l) a3 (nI y) (nI z) W Q := by
  obtain ⟨⟨n1, n8, H1, H5, L1, L6⟩, hn, hH, -⟩ := id vt
  refine in_yes (hi := 3) rfl (by omega) (by omega) ⟨fun q => absurd q (by decide), fun _ => in_yes (hi := 2) rfl (by omega) (by omega) ⟨fun q => absurd q (by decide), fun _ => ⟨fun q => absurd q (nI_pos hy), fun _ => ?_⟩⟩⟩
  refine in_yes (hi := 5) rfl (by omega) (by omega) ⟨fun q => absurd q (by decide), fun _ => ⟨vp_in_nI (n := 1) (by omega) (by omega), ?_⟩⟩
  rw [show ix 1 = 1 from rfl, r.2.1, q_l64 hy, q_l64 (by omega), q_l64 (by omega), lN_add]
  refine ⟨fun c => ?_, fun c => h0 (fun q => c (Eq.mpr (cmp_le (y + z) H (by omega) (by omega)) q))⟩
  have hle := Eq.mp (cmp_le (y + z) H (by omega) (by omega)) c
  refine mt_awake vt r st (fun W1 h24 hp f => ?_)
  have w40 : W1 4 0 = nI n := by rw [f.1 4 (by omega) (by omega) (by omega) (by omega)]; exact r.1
  have w16 : W1 16 i = -4 := by rw [f.1 16 (by omega) (by omega) (by omega) (by omega)]; exact hs
  have last : ∀ x, Q 0 (zup W1 0 39 x) → ∃ k, zlp1 (wpB_Model_read_234 (nI i) (nI l) a3 (nI y) (nI z) x 0 Q) k 0 W1 := by
    intro x hx
    refine zlp1_r (fun m x W' => x = 0 ∧ W' = W1 ∧ m = 0) ?_ (n := 0) ⟨rfl, rfl, rfl⟩
    rintro m x' W' ⟨rfl, rfl, rfl⟩ J hJ
    refine ⟨vp_in_nI (n := 0) (by omega) (by omega), fun _ W2 e2 => by rw [e2]; exact hx, fun c => ?_⟩
    rw [show ix 0 = 0 from rfl, w40, Int32.mul_zero] at c
    exact absurd (Int32.le_refl 0) c
  refine zlp4_r (fun m x6 x7 x8 x9 W' => W' = W1 ∧ x7 = 0 ∧ ((m = 1 ∧ x6 = 0 ∧ x8 = 1 ∧ x9 = 0) ∨ (m = 0 ∧ x6 = 1 ∧ z ≠ 0))) ?_ (n := 1) ⟨rfl, rfl, Or.inl ⟨rfl, rfl, rfl, rfl⟩⟩
  rintro m x6 x7 x8 x9 W' ⟨rfl, rfl, hx⟩ J hJ
  refine ⟨vp_in_nI (n := 0) (by omega) (by omega), ?_⟩
  rw [show ix 0 = 0 from rfl, w40, q_mul]
  rcases hx with ⟨rfl, rfl, rfl, rfl⟩ | ⟨rfl, rfl, hz0⟩
  · refine ⟨fun c => ?_, fun c => ⟨fun q => absurd rfl q, fun _ => ⟨vp_in_nI (by omega) (by omega), ?_⟩⟩⟩
    · have hnz : n * z ≤ 8 * 5 := Nat.mul_le_mul n8 hz
      have c' := (nI_leI (b := 0) (by omega) (by omega)).mp c
      have z0 : z = 0 := by
        rcases Nat.eq_zero_or_pos z with q | q
        · exact q
        · have := Nat.mul_le_mul n1 q
          omega
      refine last 0 ?_
      have := h1 hle _ h24 hp f
      rw [if_pos z0] at this
      exact this
    · rw [q_ix (by omega)]
      refine ⟨fun q => absurd w16 q, fun _ => ⟨fun _ x ex => ?_, fun q => absurd q (by decide)⟩⟩
      refine hJ 0 _ _ _ _ _ (by omega) ⟨rfl, rfl, Or.inr ⟨rfl, rfl, fun z0 => c ?_⟩⟩
      rw [z0, Nat.mul_zero]
      exact Int32.le_refl _
  · have k : ∃ k, zlp1 (wpB_Model_read_234 (nI i) (nI l) a3 (nI y) (nI z) 1 0 Q) k 0 W' := last 1 (by
      have := h1 hle _ h24 hp f
      rw [if_neg hz0] at this
      exact this)
    exact ⟨fun _ => k, fun _ => ⟨fun _ => k, fun q => absurd q (by decide)⟩⟩
theorem p_read0 {n H L : Nat} {M W : zMem} {a1 a2 a3 a4 a5 : Int32} {P : zMem → zMem → Prop} (vt : sp_vt M 1 n H L) (r : rt0 W M n H L) (st : pst W M n H L) (hs : ∀ i, i < 4 → M (81 + 2 * i) 0 = -1 ∧ W 16 i = -4) (h81 : ∀ i, i < 4 → M (81 + 2 * i) 1 = 0) (hP0 : P M W)
    (hP : ∀ x W1, W1 0 24 = 1 → pr W1 M n H → awf W W1 → (x = 0 ∨ x = 1) → P (zup M 0 13 x) (zup W1 0 39 x)) : wp_Main_read a1 a2 a3 a4 a5 M (fun x M' => wp_Model_read a1 a2 a3 a4 a5 W (fun y W' => x = y ∧ P M' W')) := by
  obtain ⟨⟨n1, n8, H1, H5, L1, L6⟩, hn, hH, -⟩ := id vt
  refine xt_isSheet (fun i hi ei => ⟨fun q => absurd q (by decide), fun _ => ?_⟩) (fun nh => ⟨fun _ => in_no (hi := 3) rfl nh ⟨fun _ => ⟨rfl, hP0⟩, fun q => absurd rfl q⟩, fun q => absurd rfl q⟩)
  subst ei
  refine xt_isLane (fun l hl el => ⟨fun q => absurd q (by decide), fun _ => ?_⟩) (fun nh => ⟨fun _ => in_yes (hi := 3) rfl (by omega) (by omega) ⟨fun q => absurd q (by decide), fun _ => in_no (hi := 2) rfl nh ⟨fun _ => ⟨rfl, hP0⟩, fun q => absurd rfl q⟩⟩, fun q => absurd rfl q⟩)
  subst el
  refine ⟨fun c => ?_, fun c => ?_⟩
  · exact in_yes (hi := 3) rfl (by omega) (by omega) ⟨fun q => absurd q (by decide), fun _ => in_yes (hi := 2) rfl (by omega) (by omega) ⟨fun q => absurd q (by decide), fun _ => ⟨fun _ => ⟨rfl, hP0⟩, fun q => absurd c q⟩⟩⟩
  obtain ⟨y, hy, rfl⟩ := nI_of c
  have bad : ¬ (0 ≤ a5 ∧ a5 ≤ 5) → wp_Model_read (nI i) (nI l) a3 (nI y) a5 W (fun v W' => -1 = v ∧ P M W') := fun nh => in_yes (hi := 3) rfl (by omega) (by omega) ⟨fun q => absurd q (by decide), fun _ => in_yes (hi := 2) rfl (by omega) (by omega) ⟨fun q => absurd q (by decide), fun _ => ⟨fun q => absurd q c, fun _ => in_no (hi := 5) rfl nh ⟨fun _ => ⟨rfl, hP0⟩, fun q => absurd rfl q⟩⟩⟩⟩
  refine ⟨fun c2 => bad (fun q => absurd c2 (Int32.not_lt.mpr q.1)), fun c2 => ⟨fun c3 => bad (fun q => absurd c3 (Int32.not_lt.mpr q.2)), fun c3 => ?_⟩⟩
  obtain ⟨z, hz, rfl⟩ := nI_of2 (x := a5) (M := 5) (n := 5) rfl c2 (Int32.not_lt.mp c3)
  rw [hH, q_ix (by omega)]
  have run : ∀ x : Int32, y + z ≤ H → (x = if z = 0 then 0 else 1) → ∃ k, zlp1 (wpB_Main_read_116 (nI i) (nI l) a3 (nI y) (nI z) (81 + 2 * i) x 0 (fun (zm12 : zMem) => ∃ n : Nat, zlp1 (wpB_Main_read_159 (nI i) (nI l) a3 (nI y) (nI z) (81 + 2 * i) x 0 (fun x M' => wp_Model_read (nI i) (nI l) a3 (nI y) (nI z) W (fun y W' => x = y ∧ P M' W'))) n 0 zm12) (fun x M' => wp_Model_read (nI i) (nI l) a3 (nI y) (nI z) W (fun y W' => x = y ∧ P M' W'))) k 0 M := by
    intro x hle hx
    refine zlp1_r (fun m x M' => x = 0 ∧ M' = M ∧ m = 0) ?_ (n := 0) ⟨rfl, rfl, rfl⟩
    rintro m x' M' ⟨rfl, rfl, rfl⟩ J hJ
    refine ⟨fun _ => ?_, fun q => absurd (Int32.le_refl 0) q⟩
    refine zlp1_r (fun m x M'' => x = 0 ∧ M'' = M' ∧ m = 0) ?_ (n := 0) ⟨rfl, rfl, rfl⟩
    rintro m x' M'' ⟨rfl, rfl, rfl⟩ J hJ
    refine ⟨fun _ M1 e1 => ⟨fun _ => ?_, fun q => absurd (Int32.le_refl 0) q⟩, fun q => absurd (Int32.le_refl 0) q⟩
    refine mw_read0 vt r st hi hl hy hz (hs i hi).2 (fun q => absurd hle q) (fun _ W1 h24 hp f => ⟨rfl, ?_⟩)
    rw [e1, ← hx]
    refine hP x W1 h24 hp f ?_
    by_cases z0 : z = 0
    · rw [if_pos z0] at hx; exact Or.inl hx
    · rw [if_neg z0] at hx; exact Or.inr hx
  refine ⟨fun c4 => ⟨vp_in_nI (by omega) (by omega), fun c5 => ?_, fun c5 => ?_⟩, fun c4 => ?_⟩
  · have hle := (sub_le (by omega) H5 hz).mp c4
    have z0 : z ≠ 0 := fun q => c5 (by rw [q]; rfl)
    unfold wp_Sheet_faultAs
    refine ⟨fun q => absurd (hs i hi).1 q, fun _ => ?_⟩
    refine ⟨fun q => absurd q (by decide), fun _ => ⟨fun _ => run 1 hle (by rw [if_neg z0]), fun q => absurd q (by decide)⟩⟩
  · have hle := (sub_le (by omega) H5 hz).mp c4
    have z0 : z = 0 := (nI_eq (b := 0) (by omega) (by omega)).mp c5
    refine ⟨fun _ => ?_, fun q => absurd rfl q⟩
    unfold wp_Sheet_wholeRows
    rw [h81 i hi]
    have r0 := run 0 hle (by rw [if_pos z0])
    have z0' : nI z ≤ 0 := by rw [z0]; exact Int32.le_refl 0
    refine ⟨fun _ => ?_, fun d => ⟨fun _ => ?_, fun d2 => absurd (Int32.not_lt.mp d) d2⟩⟩
    · exact ⟨fun q => absurd rfl q, fun _ => ⟨fun _ => r0, fun q => absurd z0' q⟩⟩
    · exact ⟨fun q => absurd rfl q, fun _ => ⟨fun _ => r0, fun q => absurd z0' q⟩⟩
  · exact mw_read0 vt r st hi hl hy hz (hs i hi).2 (fun _ => ⟨rfl, hP0⟩) (fun q => absurd ((sub_le (by omega) H5 hz).mpr q) c4)
