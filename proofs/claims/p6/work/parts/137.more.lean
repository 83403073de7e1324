theorem p_setPace {n H L : Nat} {M W : zMem} {a1 a2 a3 : Int32} {P : zMem → zMem → Prop} (vt : sp_vt M 1 n H L) (r : rt0 W M n H L) (st : pst W M n H L) (hP0 : P M W)
    (hP : ∀ h p c M' W1, h < H → p < n → 1 ≤ c → c ≤ 9 → M' 4 = upd (M 4) (h * 8 + p) (nI c) → M' 29 2 = 0 → M' 54 0 = 0 → M' 60 0 = 0 → (∀ q, q < 120 → M' 58 q = 0) → (∀ k, k ≠ 4 → k ≠ 29 → k ≠ 54 → k ≠ 58 → k ≠ 60 → M' k = M k) → W1 0 24 = 1 → pr W1 M n H → awf W W1 → P M' (zup W1 4 (60 + 8 * h + p) (nI c))) : wp_Main_setPace a1 a2 a3 M (fun x M' => wp_Model_setPace a1 a2 a3 W (fun y W' => x = y ∧ P M' W')) := by
  obtain ⟨⟨n1, n8, H1, H5, L1, L6⟩, hn, hH, -⟩ := id vt
  have no : ¬ ((∃ h, h < H ∧ a1 = nI h) ∧ ∃ p, p < n ∧ a2 = nI p) → wp_Model_setPace a1 a2 a3 W (fun y W' => -1 = y ∧ P M W') := fun q => by
    unfold wp_Model_setPace
    exact mt_nhp (Q := fun y W' => -1 = y ∧ P M W') vt r q ⟨rfl, hP0⟩
  refine xt_isHand hH (by omega) (fun h hh eh => ⟨fun q => absurd q (by decide), fun _ => ?_⟩) (fun nh => ⟨fun _ => no (fun q => nh q.1), fun q => absurd rfl q⟩)
  refine xt_isPiece hn (by omega) (fun p hp ep => ⟨fun q => absurd q (by decide), fun _ => ?_⟩) (fun np => ⟨fun _ => no (fun q => np q.2), fun q => absurd rfl q⟩)
  subst eh; subst ep
  have e1 : nI h * 8 + nI p = nI (h * 8 + p) := by rw [show (8 : Int32) = nI 8 from rfl, q_mul, q_add]
  have e2 : 60 + 8 * nI h + nI p = nI (60 + 8 * h + p) := by simp (disch := omega) only [q_lit, q_add, q_mul, q_sub, q_ix, q_in, q_lt, q_le, q_eq, q_nlt, q_nle, q_ltn, q_len, q_neq, q_eqn, zup_ne, zup_eq, zset_ne, zset_eq, upd_eq, upd_ne, forall_eq, true_and, and_true, true_implies, false_implies, implies_true, not_true_eq_false, not_false_eq_true, and_self, ↓reduceIte, false_and, and_false]
  have bad : ¬ (1 ≤ a3 ∧ a3 ≤ 9) → wp_Model_setPace (nI h) (nI p) a3 W (fun y W' => -1 = y ∧ P M W') := fun q => by
    unfold wp_Model_setPace
    refine mt_hp (Q := fun y W' => -1 = y ∧ P M W') vt r hh hp ?_
    exact mt_in (lo' := 1) (hi' := 9) rfl rfl (fun x y => absurd ⟨x, y⟩ q) (fun _ => ⟨fun z => absurd rfl z, fun _ => ⟨rfl, hP0⟩⟩)
  unfold wp_Main_isPace
  refine ⟨fun c => ⟨fun q => absurd rfl q, fun _ => bad (fun q => absurd c (Int32.not_lt.mpr q.1))⟩, fun c => ⟨fun c2 => ⟨fun q => absurd rfl q, fun _ => bad (fun q => absurd c2 (Int32.not_lt.mpr q.2))⟩, fun c2 => ⟨fun _ => ?_, fun q => absurd q (by decide)⟩⟩⟩
  have c1' := Int32.not_lt.mp c
  have c2' := Int32.not_lt.mp c2
  obtain ⟨c0, hc9, rfl⟩ := nI_of2 (x := a3) (M := 9) (n := 9) rfl (fun q => absurd (Int32.lt_of_lt_of_le q (by decide : (0 : Int32) ≤ 1)) c) c2'
  have hc1 := (nI_leI (a := 1) (by omega) (by omega)).mp c1'
  unfold wp_Told_paceOf
  rw [e1, q_ix (by omega)]
  refine ⟨vp_in_nI (by omega) (by omega), vp_in_nI (by omega) (by omega), fun M1 f1 => ?_⟩
  unfold wp_Main_forgetAnswers
  intro M2 f2 M3 f3 M4 f4
  refine xt_forget (fun M5 g1 g2 => ?_)
  show wp_Model_setPace (nI h) (nI p) (nI c0) W (fun y W' => M 4 (h * 8 + p) = y ∧ P M5 W')
  unfold wp_Model_setPace
  refine mt_hp (Q := fun y W' => M 4 (h * 8 + p) = y ∧ P M5 W') vt r hh hp ?_
  refine mt_in (lo' := 1) (hi' := 9) rfl rfl (fun _ _ => ⟨fun _ => ?_, fun q => absurd q (by decide)⟩) (fun q => absurd ⟨c1', c2'⟩ q)
  refine mt_awake vt r st (fun W1 h24 hpr f => ?_)
  rw [e2, q_ix (by omega)]
  refine ⟨vp_in_nI (by omega) (by omega), fun x ex => ⟨vp_in_nI (by omega) (by omega), fun W2 w2 => ⟨?_, ?_⟩⟩⟩
  · rw [ex, f.1 4 (by omega) (by omega) (by omega) (by omega)]
    exact (r.2.2.2.2.2.2.2.2.2.1 h p hh hp).symm
  · rw [w2]
    refine hP h p c0 M5 W1 hh hp hc1 hc9 ?_ ?_ ?_ ?_ g1 (fun k k4 k29 k54 k58 k60 => ?_) h24 hpr f
    · rw [g2 4 (by omega), f4, zup_ne (by omega), f3, zup_ne (by omega), f2, zup_ne (by omega), f1, zup_eq]
    · rw [g2 29 (by omega), f4, zup_ne (by omega), f3, zup_ne (by omega), f2, zup_eq, upd_eq]
    · rw [g2 54 (by omega), f4, zup_ne (by omega), f3, zup_eq, upd_eq]
    · rw [g2 60 (by omega), f4, zup_eq, upd_eq]
    · rw [g2 k k58, f4, zup_ne k60, f3, zup_ne k54, f2, zup_ne k29, f1, zup_ne k4]
theorem p_count {n H L : Nat} {M W : zMem} {a : Int32} {P : zMem → zMem → Prop} (vt : sp_vt M 1 n H L) (r : rt0 W M n H L) (e28 : ∀ i, i < 2 → M 28 i = W 7 i) (e5 : M 11 5 = W 0 1) (es : (M 81 0 = -1 ∧ W 16 0 = -4) ∨ (M 81 0 ≠ -1 ∧ W 16 0 ≠ -4 ∧ M 81 1 = W 17 0)) (hP : P M W) : wp_Main_count a M (fun x M' => wp_Model_count a W (fun y W' => x = y ∧ P M' W')) := by
  obtain ⟨⟨n1, n8, H1, H5, L1, L6⟩, hn, hH, -⟩ := id vt
  have v0 : vp_in 0 2 := vp_in_nI (n := 0) (by omega) (by omega)
  have v1 : vp_in 1 2 := vp_in_nI (n := 1) (by omega) (by omega)
  have u0 : vp_in 0 4 := vp_in_nI (n := 0) (by omega) (by omega)
  have j0 : ix 0 = 0 := rfl
  have j1 : ix 1 = 1 := rfl
  have w0 := e28 0 (by omega)
  have w1 := e28 1 (by omega)
  have way : ∀ (K : Int32 → zMem → Prop) (x : Int32), x = a → ((x = 0 → (W 7 0 = 0 → (W 7 1 = 0 → K (0 + 0) W) ∧ (¬ W 7 1 = 0 → K (0 + 1) W)) ∧ (¬ W 7 0 = 0 → (W 7 1 = 0 → K (1 + 0) W) ∧ (¬ W 7 1 = 0 → K (1 + 1) W))) ∧ (x = 1 → K (W 0 1) W) ∧ (x = 2 → (¬ W 16 0 = -4 → K (W 17 0) W) ∧ (W 16 0 = -4 → K (-4) W)) ∧ (x = 3 → K (nI (so_f H)) W) ∧ (¬ x = 0 → ¬ x = 1 → ¬ x = 2 → ¬ x = 3 → K (-1) W)) → wp_Model_count a W K := by
    intro K x ex h
    intro y ey
    rw [← ex] at ey
    subst ey
    obtain ⟨h0, h1, h2, h3, h4⟩ := h
    rw [j0, j1]
    exact ⟨fun c => ⟨v0, fun d => ⟨v1, fun e => ((h0 c).1 d).1 e, fun e => ((h0 c).1 d).2 e⟩, fun d => ⟨v1, fun e => ((h0 c).2 d).1 e, fun e => ((h0 c).2 d).2 e⟩⟩, h1, fun c => ⟨u0, fun d => ⟨u0, (h2 c).1 d⟩, fun d => (h2 c).2 d⟩, fun c => mt_orders r.2.1 H1 H5 (h3 c), h4⟩
  have lit : ∀ {u v : Int32}, (u = v → False) → ∀ {Z : Prop}, u = v → Z := fun h _ e => absurd e h
  intro x ex
  rw [j0, j1]
  refine ⟨fun c => ⟨v0, fun d => ⟨v1, fun e => ?_, fun e => ?_⟩, fun d => ⟨v1, fun e => ?_, fun e => ?_⟩⟩, fun c => ?_, fun c => ⟨u0, fun d => ⟨u0, ?_⟩, fun d => ?_⟩, fun c => ?_, fun c0 c1 c2 c3 => ?_⟩
  · refine way _ x ex ⟨fun _ => ⟨fun _ => ⟨fun _ => ⟨rfl, hP⟩, fun q => absurd (w1.symm.trans e) q⟩, fun q => absurd (w0.symm.trans d) q⟩, ?_, ?_, ?_, fun q => absurd c q⟩ <;> (intro q; rw [c] at q; exact absurd q (by decide))
  · refine way _ x ex ⟨fun _ => ⟨fun _ => ⟨fun q => absurd (w1.trans q) e, fun _ => ⟨rfl, hP⟩⟩, fun q => absurd (w0.symm.trans d) q⟩, ?_, ?_, ?_, fun q => absurd c q⟩ <;> (intro q; rw [c] at q; exact absurd q (by decide))
  · refine way _ x ex ⟨fun _ => ⟨fun q => absurd (w0.trans q) d, fun _ => ⟨fun _ => ⟨rfl, hP⟩, fun q => absurd (w1.symm.trans e) q⟩⟩, ?_, ?_, ?_, fun q => absurd c q⟩ <;> (intro q; rw [c] at q; exact absurd q (by decide))
  · refine way _ x ex ⟨fun _ => ⟨fun q => absurd (w0.trans q) d, fun _ => ⟨fun q => absurd (w1.trans q) e, fun _ => ⟨rfl, hP⟩⟩⟩, ?_, ?_, ?_, fun q => absurd c q⟩ <;> (intro q; rw [c] at q; exact absurd q (by decide))
  · refine way _ x ex ⟨?_, fun _ => ⟨e5, hP⟩, ?_, ?_, fun _ q => absurd c q⟩ <;> (intro q; rw [c] at q; exact absurd q (by decide))
  · refine way _ x ex ⟨?_, ?_, fun _ => ?_, ?_, fun _ _ q => absurd c q⟩
    · intro q; rw [c] at q; exact absurd q (by decide)
    · intro q; rw [c] at q; exact absurd q (by decide)
    · rcases es with ⟨q, -⟩ | ⟨-, q, e⟩
      · exact absurd q d
      · exact ⟨fun _ => ⟨e, hP⟩, fun z => absurd z q⟩
    · intro q; rw [c] at q; exact absurd q (by decide)
  · refine way _ x ex ⟨?_, ?_, fun _ => ?_, ?_, fun _ _ q => absurd c q⟩
    · intro q; rw [c] at q; exact absurd q (by decide)
    · intro q; rw [c] at q; exact absurd q (by decide)
    · rcases es with ⟨-, q⟩ | ⟨q, -⟩
      · exact ⟨fun z => absurd q z, fun _ => ⟨rfl, hP⟩⟩
      · exact absurd d q
    · intro q; rw [c] at q; exact absurd q (by decide)
  · rw [hH]
    refine xt_orders H1 H5 (way _ x ex ⟨?_, ?_, ?_, fun _ => ⟨rfl, hP⟩, fun _ _ _ q => absurd c q⟩) <;> (intro q; rw [c] at q; exact absurd q (by decide))
  · exact way _ x ex ⟨fun q => absurd q c0, fun q => absurd q c1, fun q => absurd q c2, fun q => absurd q c3, fun _ _ _ _ => ⟨rfl, hP⟩⟩
theorem xt_isSheet {a : Int32} {M : zMem} {Q : Int32 → zMem → Prop} (ht : ∀ i, i < 4 → a = nI i → Q 1 M) (hf : ¬ (0 ≤ a ∧ a ≤ 3) → Q 0 M) : wp_Main_isSheet a M Q := by
  refine ⟨fun c => hf (fun q => absurd c (Int32.not_lt.mpr q.1)), fun c => ⟨fun c2 => hf (fun q => ?_), fun c2 => ?_⟩⟩
  · exact absurd (Int32.le_trans c2 q.2) (by decide)
  · obtain ⟨i, hi, rfl⟩ := nI_of c
    exact ht i ((nI_ltI (b := 4) (by omega) (by omega)).mp (Int32.not_le.mp c2)) rfl
theorem xt_isLane {a : Int32} {M : zMem} {Q : Int32 → zMem → Prop} (ht : ∀ i, i < 3 → a = nI i → Q 1 M) (hf : ¬ (0 ≤ a ∧ a ≤ 2) → Q 0 M) : wp_Main_isLane a M Q := by
  refine ⟨fun c => hf (fun q => absurd c (Int32.not_lt.mpr q.1)), fun c => ⟨fun c2 => hf (fun q => ?_), fun c2 => ?_⟩⟩
  · exact absurd (Int32.le_trans c2 q.2) (by decide)
  · obtain ⟨i, hi, rfl⟩ := nI_of c
    exact ht i ((nI_ltI (b := 3) (by omega) (by omega)).mp (Int32.not_le.mp c2)) rfl
theorem in_yes {i hi : Nat} {W : zMem} {Q : Int32 → zMem → Prop} {hi' : Int64} (e : hi' = (nI hi).toInt64) (h : i ≤ hi) (hb : hi < 2147483648) (hQ : Q 1 W) : wp_Model_in (nI i).toInt64 0 hi' W Q := mt_in (lo' := 0) (hi' := nI hi) rfl e (fun _ _ => hQ) (fun q => absurd ⟨nI_pos' (by omega), (nI_leI (by omega) (by omega)).mpr h⟩ q)
theorem in_no {a : Int32} {hi : Nat} {W : zMem} {Q : Int32 → zMem → Prop} {hi' : Int64} (e : hi' = (nI hi).toInt64) (h : ¬ (0 ≤ a ∧ a ≤ nI hi)) (hQ : Q 0 W) : wp_Model_in a.toInt64 0 hi' W Q := mt_in (lo' := 0) (hi' := nI hi) rfl e (fun x y => absurd ⟨x, y⟩ h) (fun _ => hQ)
theorem p_sheet {M W : zMem} {a1 a2 a3 : Int32} {P : zMem → zMem → Prop} (hP0 : P M W)
    (hP : ∀ i l z M' W', i < 4 → l < 3 → z ≤ 40 → M' (81 + 2 * i) = upd (upd (M (81 + 2 * i)) 0 (nI l)) 1 (nI z) → (∀ j, j < 40 → M' (81 + 2 * i + 1) j = 0) → (∀ k, k ≠ 81 + 2 * i → k ≠ 81 + 2 * i + 1 → M' k = M k) → W' 16 = upd (W 16) i (nI l) → W' 17 = upd (W 17) i (nI z) → (∀ j, j < 40 → W' 18 (40 * i + j) = 0) → (∀ j, (j < 40 * i ∨ 40 * i + 40 ≤ j) → W' 18 j = W 18 j) → (∀ k, k ≠ 16 → k ≠ 17 → k ≠ 18 → W' k = W k) → P M' W') : wp_Main_sheet a1 a2 a3 M (fun x M' => wp_Model_sheet a1 a2 a3 W (fun y W' => x = y ∧ P M' W')) := by
  refine xt_isSheet (fun i hi ei => ⟨fun q => absurd q (by decide), fun _ => ?_⟩) (fun nh => ⟨fun _ => in_no (hi := 3) rfl nh ⟨fun _ => ⟨rfl, hP0⟩, fun q => absurd rfl q⟩, fun q => absurd rfl q⟩)
  subst ei
  refine xt_isLane (fun l hl el => ⟨fun q => absurd q (by decide), fun _ => ?_⟩) (fun nh => ⟨fun _ => in_yes (hi := 3) rfl (by omega) (by omega) ⟨fun q => absurd q (by decide), fun _ => in_no (hi := 2) rfl nh ⟨fun _ => ⟨rfl, hP0⟩, fun q => absurd rfl q⟩⟩, fun q => absurd rfl q⟩)
  subst el
  have way : ∀ K : Int32 → zMem → Prop, ((a3 ≤ 40 → (0 ≤ a3 → vp_in (nI i) 4 ∧ ∀ zm5 : zMem, zm5 = zup W 16 (ix (nI i)) (nI l) → vp_in (nI i) 4 ∧ ∀ zm6 : zMem, zm6 = zup zm5 17 (ix (nI i)) a3 → ∃ n : Nat, zlp1 (wpB_Model_sheet_56 (nI i) (nI l) a3 K) n 0 zm6) ∧ (¬ 0 ≤ a3 → K (-14) W)) ∧ (¬ a3 ≤ 40 → K (-1) W)) → wp_Model_sheet (nI i) (nI l) a3 W K := fun K h => in_yes (hi := 3) rfl (by omega) (by omega) ⟨fun q => absurd q (by decide), fun _ => in_yes (hi := 2) rfl (by omega) (by omega) ⟨fun q => absurd q (by decide), fun _ => h⟩⟩
  refine ⟨fun c => ⟨fun c2 => ?_, fun c2 => way _ ⟨fun _ => ⟨fun q => absurd q c2, fun _ => ⟨rfl, hP0⟩⟩, fun q => absurd c q⟩⟩, fun c => way _ ⟨fun q => absurd q c, fun _ => ⟨rfl, hP0⟩⟩⟩
  obtain ⟨z, hz, rfl⟩ := nI_of2 (x := a3) (M := 40) (n := 40) rfl (Int32.not_lt.mpr c2) c
  rw [q_ix (by omega)]
  refine ⟨vp_in_nI (by omega) (by omega), ?_⟩
  unfold wp_Sheet_makeNew
  intro M1 e1 M2 e2
  refine zfill_r (c := 81 + 2 * i + 1) (N := 40) (v := 0) (by omega) (fun M3 f1 f2 f3 => ?_)
  refine way _ ⟨fun _ => ⟨fun _ => ⟨vp_in_nI (by omega) (by omega), fun W1 w1 => ⟨vp_in_nI (by omega) (by omega), fun W2 w2 => ?_⟩⟩, fun q => absurd c2 q⟩, fun q => absurd c q⟩
  rw [q_ix (by omega)] at w1 w2
  refine zlp1_r (fun m x W' => ∃ h, x = nI h ∧ h ≤ 40 ∧ m = 40 - h ∧ (∀ j, j < h → W' 18 (40 * i + j) = 0) ∧ (∀ j, (j < 40 * i ∨ 40 * i + 40 ≤ j) → W' 18 j = W2 18 j) ∧ (∀ k, k ≠ 18 → W' k = W2 k)) ?_ (n := 40) ⟨0, rfl, by omega, rfl, fun i hi => absurd hi (by omega), fun _ _ => rfl, fun _ _ => rfl⟩
  rintro m x W' ⟨h, rfl, hh, rfl, i1, i2, i3⟩ J hJ
  refine ⟨fun c => ⟨rfl, ?_⟩, fun c => ?_⟩
  · have := (nI_leI (a := 40) (by omega) (by omega)).mp c
    have e : h = 40 := by omega
    subst e
    refine hP i l z M3 W' hi hl hz ?_ f1 (fun k k1 k2 => ?_) ?_ ?_ i1 (fun j hj => ?_) (fun k k1 k2 k3 => ?_)
    · rw [f3 _ (by omega), e2, zup_eq, e1, zup_eq]
    · rw [f3 _ k2, e2, zup_ne k1, e1, zup_ne k1]
    · rw [i3 _ (by omega), w2, zup_ne (by omega), w1, zup_eq]
    · rw [i3 _ (by omega), w2, zup_eq, w1, zup_ne (by omega)]
    · rw [i2 j hj, w2, zup_ne (by omega), w1, zup_ne (by omega)]
    · rw [i3 k k3, w2, zup_ne k2, w1, zup_ne k1]
  · have hh2 : h < 40 := (nI_ltI (b := 40) (by omega) (by omega)).mp (Int32.not_le.mp c)
    have e3 : 40 * nI i + nI h = nI (40 * i + h) := by simp (disch := omega) only [q_lit, q_add, q_mul, q_sub, q_ix, q_in, q_lt, q_le, q_eq, q_nlt, q_nle, q_ltn, q_len, q_neq, q_eqn, zup_ne, zup_eq, zset_ne, zset_eq, upd_eq, upd_ne, forall_eq, true_and, and_true, true_implies, false_implies, implies_true, not_true_eq_false, not_false_eq_true, and_self, ↓reduceIte, false_and, and_false]
    rw [e3, q_ix (by omega)]
    refine ⟨vp_in_nI (by omega) (by omega), fun W3 w3 y ey => ?_⟩
    rw [ey, nI_1]
    refine hJ (40 - (h + 1)) _ _ (by omega) ⟨h + 1, rfl, by omega, rfl, fun j hj => ?_, fun j hj => ?_, fun d hd => by rw [w3, zup_ne hd]; exact i3 d hd⟩
    · rw [w3, zup_eq]
      by_cases z : j = h
      · rw [z, upd_eq]
      · rw [upd_ne (by omega)]; exact i1 j (by omega)
    · rw [w3, zup_eq, upd_ne (by omega)]; exact i2 j hj
