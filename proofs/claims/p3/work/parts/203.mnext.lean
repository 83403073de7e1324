/-- a fault of the reference at the token at hand -/
def wfs (c : Int32) (W : zMem) : zMem := zup (zup W 0 3 c) 0 4 (W 0 6)
theorem e_fails {c : Int32} {W : zMem} {Q : zMem → Prop} (h : W 0 3 = 0) (hQ : Q (wfs c W)) : wp_Model_fails c W Q := by
  refine ⟨fun w => absurd h w, fun _ W1 e1 W2 e2 => ?_⟩
  have : W1 0 6 = W 0 6 := by rw [e1, zup_eq, upd_ne (by omega)]
  rw [e2, this, e1]
  exact hQ
theorem e_fails_no {c : Int32} {W : zMem} {Q : zMem → Prop} (h : ¬ W 0 3 = 0) (hQ : Q W) : wp_Model_fails c W Q := ⟨fun _ => hQ, fun w => absurd w h⟩
theorem mt_figs {z q : Nat} {T : Nat → Int32} {W : zMem} {K : zMem → Prop} {Q : zMem → Prop} (h1 : W 0 1 = nI z) (hz : z ≤ 400) (h5 : W 0 5 = nI q) (h6 : W 0 6 = nI q) (h8 : W 0 8 = 0) (hq : q ≤ z) (hT : tpe T (W 1) z) (hK : ∀ e, e = tk_s isF T (z - q) q → K (zup (zup W 0 8 (tk_pv T q e)) 0 5 (nI e))) : ∃ n, zlp0 (wpB_Model_next_170 K Q) n W := by
  have hK' := hK _ rfl
  generalize hee : tk_s isF T (z - q) q = e at hK'
  refine zlp0_r (fun m W' => ∃ i, q ≤ i ∧ i ≤ z ∧ m = z - i ∧ W' = zup (zup W 0 8 (tk_pv T q i)) 0 5 (nI i) ∧ tk_s isF T (z - i) i = e) ?_ (n := z - q) ⟨q, Nat.le_refl _, hq, rfl, ?_, hee⟩
  · rintro m W' ⟨i, hqi, hi, rfl, rfl, ei⟩ J hJ
    unfold wpB_Model_next_170
    generalize hX : zup (zup W 0 8 (tk_pv T q i)) 0 5 (nI i) = X
    have g1 : X 0 1 = nI z := by rw [← hX, zup_eq, upd_ne (by omega), zup_eq, upd_ne (by omega)]; exact h1
    have g5 : X 0 5 = nI i := by rw [← hX, zup_eq, upd_eq]
    have g6 : X 0 6 = nI q := by rw [← hX, zup_eq, upd_ne (by omega), zup_eq, upd_ne (by omega)]; exact h6
    have g8 : X 0 8 = tk_pv T q i := by rw [← hX, zup_eq, upd_ne (by omega), zup_eq, upd_eq]
    have gT : X 1 = W 1 := by rw [← hX, zup_ne (by omega), zup_ne (by omega)]
    rw [g5]
    refine e_byteAt g1 hz (by omega) ?_
    rw [gT]
    have stop : (z ≤ i ∨ isF (T i) = false) → K X := fun c => by
      rw [tk_s_end c] at ei
      subst ei
      rw [← hX]; exact hK'
    by_cases hi2 : i < z
    · rw [if_pos hi2]
      obtain ⟨-, -, -, b4, -, b6⟩ := tpe_B hT hi2
      refine mt_in (lo' := 48) (hi' := 57) rfl rfl (fun c1 c2 => ⟨fun w => absurd w (by decide), fun _ => ?_⟩) (fun c => ⟨fun _ => stop (Or.inr (by
        cases hb : isF (T i) with
        | false => rfl
        | true => exact absurd (b4.mpr hb) c)), fun w => absurd rfl w⟩)
      have d := b4.mp ⟨c1, c2⟩
      have nx : tk_s isF T (z - (i + 1)) (i + 1) = e := by rw [← ei, ← tk_s_go hi2 d]
      rw [g5, g6, q_sub hqi]
      refine ⟨fun w W5 e5 W6 e6 => ?_, fun w => ?_⟩
      · have hw : 2 ≤ i - q := (nI_leI (a := 2) (by omega) (by omega)).mp w
        refine hJ (z - (i + 1)) _ (by omega) ⟨i + 1, by omega, by omega, rfl, ?_, nx⟩
        rw [e6, e5, zup_same rfl, g5, ← hX, zup_zup, nI_1]
        have : tk_pv T q i = tk_pv T q (i + 1) := by
          unfold tk_pv
          rw [if_neg (by omega), if_neg (by omega), if_neg (by omega), if_neg (by omega)]
        rw [this]
      · have hw : i - q < 2 := by
          rcases Nat.lt_or_ge (i - q) 2 with v | v
          · exact v
          · exact absurd ((nI_leI (a := 2) (by omega) (by omega)).mpr v) w
        refine e_byteAt g1 hz (by omega) ?_
        rw [gT, if_pos hi2]
        intro W5 e5 W6 e6
        refine hJ (z - (i + 1)) _ (by omega) ⟨i + 1, by omega, by omega, rfl, ?_, nx⟩
        have f5 : W5 0 5 = nI i := by rw [e5, zup_eq, upd_ne (by omega)]; exact g5
        have h48 : ¬ T i < 48 := by
          unfold isF at d
          rw [decide_eq_true_eq] at d
          exact d.1
        rw [e6, f5, e5, g8, b6 h48, ← hX, zup_cm (i := 5) (j := 8) (by omega), zup_zup, zup_zup, nI_1]
        have : 10 * tk_pv T q i + T i - 48 = tk_pv T q (i + 1) := by
          rw [Int32.mul_comm]
          unfold tk_pv
          rcases (show i = q ∨ i = q + 1 by omega) with rfl | rfl
          · rw [if_pos rfl, if_neg (by omega), if_pos rfl]
          · rw [if_neg (by omega), if_pos rfl, if_neg (by omega), if_neg (by omega)]
        rw [this]
    · rw [if_neg hi2]
      exact mt_in (lo' := 48) (hi' := 57) rfl rfl (fun c1 _ => absurd c1 (by decide)) (fun _ => ⟨fun _ => stop (Or.inl (by omega)), fun w => absurd rfl w⟩)
  · have : tk_pv T q q = 0 := by unfold tk_pv; rw [if_pos rfl]
    rw [this, zup_same h8, zup_same h5]
def tkw (W W' : zMem) : Prop := (∀ c, c ≠ 0 → W' c = W c) ∧ ∀ j, (j < 3 ∨ 8 < j) → W' 0 j = W 0 j
theorem tkw.rf {W : zMem} : tkw W W := ⟨fun _ _ => rfl, fun _ _ => rfl⟩
theorem tkw.tr {W W1 W2 : zMem} (a : tkw W W1) (b : tkw W1 W2) : tkw W W2 := ⟨fun c h => (b.1 c h).trans (a.1 c h), fun j h => (b.2 j h).trans (a.2 j h)⟩
theorem tkw.up {W W1 : zMem} {j : Nat} {x : Int32} (a : tkw W W1) (h : 3 ≤ j) (h2 : j ≤ 8) : tkw W (zup W1 0 j x) := ⟨fun c hc => by rw [zup_ne hc]; exact a.1 c hc, fun i hi => by rw [zup_eq, upd_ne (by omega)]; exact a.2 i hi⟩
/-- the reference has read the token from p on -/
def nT (T : Nat → Int32) (z p : Nat) (W : zMem) : Prop :=
  W 0 6 = nI (tk_q T z p) ∧ ((tk_o T z (tk_q T z p) ∧ W 0 3 = 0 ∧ W 0 5 = nI (tk_e T z (tk_q T z p)) ∧ W 0 7 = nI (tk_k T z (tk_q T z p)) ∧ (tk_k T z (tk_q T z p) = 1 ∨ tk_k T z (tk_q T z p) = 2 → W 0 8 = tk_v T z (tk_q T z p))) ∨ (¬ tk_o T z (tk_q T z p) ∧ W 0 3 = 1 ∧ W 0 4 = nI (tk_q T z p)))
theorem mt_next {z p : Nat} {T : Nat → Int32} {W : zMem} {Q : zMem → Prop} (h3 : W 0 3 = 0) (h1 : W 0 1 = nI z) (hz : z ≤ 400) (h5 : W 0 5 = nI p) (hp : p ≤ z) (hT : tpe T (W 1) z) (ht : wtb W) (hQ : ∀ W', tkw W W' → nT T z p W' → Q W') : wp_Model_next W Q := by
  have hb := tk_q_b (T := T) hp
  unfold nT at hQ
  unfold wp_Model_next
  rw [h3]
  refine ⟨fun _ => mt_skip h1 hz h5 hp hT ?_, fun w => absurd (by decide) w⟩
  generalize tk_q T z p = q at hQ hb
  intro W5 e5
  have x5 : zup W 0 5 (nI q) 0 5 = nI q := by rw [zup_eq, upd_eq]
  rw [x5] at e5
  have g1 : W5 0 1 = nI z := by rw [e5, zup_eq, upd_ne (by omega), zup_eq, upd_ne (by omega)]; exact h1
  have g5 : W5 0 5 = nI q := by rw [e5, zup_eq, upd_ne (by omega)]; exact x5
  have gT : W5 1 = W 1 := by rw [e5, zup_ne (by omega), zup_ne (by omega)]
  rw [g5]
  refine e_byteAt g1 hz (by omega) ?_
  rw [gT]
  intro W8 e8
  have fr : tkw W W8 := by rw [e8, e5]; exact ((tkw.rf.up (by omega) (by omega)).up (by omega) (by omega)).up (by omega) (by omega)
  have k1 : W8 0 1 = nI z := by rw [e8, zup_eq, upd_ne (by omega)]; exact g1
  have k3 : W8 0 3 = 0 := by rw [e8, zup_eq, upd_ne (by omega), e5, zup_eq, upd_ne (by omega), zup_eq, upd_ne (by omega)]; exact h3
  have k5 : W8 0 5 = nI q := by rw [e8, zup_eq, upd_ne (by omega)]; exact g5
  have k6 : W8 0 6 = nI q := by rw [e8, zup_eq, upd_ne (by omega), e5, zup_eq, upd_eq]
  have k8 : W8 0 8 = 0 := by rw [e8, zup_eq, upd_eq]
  have kT : tpe T (W8 1) z := by rw [show W8 1 = W 1 by rw [e8, zup_ne (by omega)]; exact gT]; exact hT
  have kt : wtb W8 := by unfold wtb; rw [fr.1 2 (by omega), fr.1 3 (by omega)]; exact ht
  by_cases hqz : q < z
  · rw [if_pos hqz]
    obtain ⟨b1, b2, b3, b4, b5, b6⟩ := tpe_B hT hqz
    refine ⟨fun _ => mt_in (lo' := 97) (hi' := 122) rfl rfl (fun c1 c2 => ⟨fun w => absurd w (by decide), fun _ => ?_⟩) (fun c => ⟨fun _ => ?_, fun w => absurd rfl w⟩), fun w => absurd w b5⟩
    · have hl := b3.mp ⟨c1, c2⟩
      have d : ¬ T q = 59 := fun w => by
        unfold isL at hl
        rw [decide_eq_true_eq, w] at hl
        exact hl.1 (by decide)
      refine mt_letters k1 hz k5 hb.2 kT ?_
      have hbl := tk_s_le (P := isL) (T := T) (z - q) q
      generalize hee : tk_s isL T (z - q) q = e at hbl
      intro W37 e37
      have m5 : W37 0 5 = nI e := by rw [e37, zup_eq, upd_ne (by omega), zup_eq, upd_eq]
      have m6 : W37 0 6 = nI q := by rw [e37, zup_eq, upd_ne (by omega), zup_eq, upd_ne (by omega)]; exact k6
      have m1 : W37 0 1 = nI z := by rw [e37, zup_eq, upd_ne (by omega), zup_eq, upd_ne (by omega)]; exact k1
      have m3 : W37 0 3 = 0 := by rw [e37, zup_eq, upd_ne (by omega), zup_eq, upd_ne (by omega)]; exact k3
      have m7 : W37 0 7 = 1 := by rw [e37, zup_eq, upd_eq]
      have fr2 : tkw W W37 := by rw [e37]; exact (fr.up (by omega) (by omega)).up (by omega) (by omega)
      have mT : tpe T (W37 1) z := by rw [show W37 1 = W 1 from fr2.1 1 (by omega)]; exact hT
      have mt : wtb W37 := by unfold wtb; rw [fr2.1 2 (by omega), fr2.1 3 (by omega)]; exact ht
      rw [m5, m6]
      refine mt_nameAt m1 hz hbl.1 (by omega) mT mt (fun nm en => ?_)
      have hnb := tk_nm_b (T := T) (q := q) (e := e) 10 0 rfl
      rw [← en] at hnb
      have kk : tk_k T z q = 1 := by unfold tk_k; rw [if_pos hqz, if_neg d, if_pos hl]
      have ke : tk_e T z q = e := by unfold tk_e; rw [if_pos kk]; exact hee
      have kv : tk_v T z q = nI nm := by unfold tk_v; rw [if_pos kk, ke, en]
      have ko : tk_o T z q ↔ nm < 10 := by unfold tk_o; rw [kk, ke, ← en]; omega
      intro W40 e40
      have n8 : W40 0 8 = (if nm < 10 then nI nm else -4) := by rw [e40, zup_eq, upd_eq]
      have fr3 : tkw W W40 := by rw [e40]; exact fr2.up (by omega) (by omega)
      have o3 : W40 0 3 = 0 := by rw [e40, zup_eq, upd_ne (by omega)]; exact m3
      have o6 : W40 0 6 = nI q := by rw [e40, zup_eq, upd_ne (by omega)]; exact m6
      rw [n8]
      by_cases h10 : nm < 10
      · rw [if_pos h10]
        refine ⟨fun _ => hQ W40 fr3 ⟨o6, Or.inl ⟨ko.mpr h10, o3, ?_, ?_, fun _ => ?_⟩⟩, fun w => ?_⟩
        · rw [ke, e40, zup_eq, upd_ne (by omega)]; exact m5
        · rw [kk, e40, zup_eq, upd_ne (by omega)]; exact m7
        · rw [kv, n8, if_pos h10]
        · have := q_neq (a := nm) (c := 4) (by omega) (by omega) (by omega)
          rw [show (-4 : Int32) = -nI 4 from rfl, this] at w
          exact absurd w id
      · rw [if_neg h10]
        refine ⟨fun w => absurd rfl w, fun _ => e_fails o3 (hQ _ ?_ ⟨?_, Or.inr ⟨fun w => h10 (ko.mp w), ?_, ?_⟩⟩)⟩
        · unfold wfs; exact (fr3.up (by omega) (by omega)).up (by omega) (by omega)
        · unfold wfs; rw [zup_eq, upd_ne (by omega), zup_eq, upd_ne (by omega)]; exact o6
        · unfold wfs; rw [zup_eq, upd_ne (by omega), zup_eq, upd_eq]
        · unfold wfs; rw [zup_eq, upd_eq]; exact o6
    · have hl : ¬ isL (T q) = true := fun w => c (b3.mpr w)
      refine mt_in (lo' := 48) (hi' := 57) rfl rfl (fun c1 c2 => ⟨fun w => absurd w (by decide), fun _ => ?_⟩) (fun cf => ⟨fun _ W13 e13 W14 e14 => ?_, fun w => absurd rfl w⟩)
      · have hf := b4.mp ⟨c1, c2⟩
        have d : ¬ T q = 59 := fun w => by
          unfold isF at hf
          rw [decide_eq_true_eq, w] at hf
          exact hf.2 (by decide)
        have kk : tk_k T z q = 2 := by unfold tk_k; rw [if_pos hqz, if_neg d, if_neg hl, if_pos hf]
        have hbl := tk_s_le (P := isF) (T := T) (z - q) q
        refine mt_figs k1 hz k5 k6 k8 hb.2 kT (fun e ee => ?_)
        rw [← ee] at hbl
        have ke : tk_e T z q = e := by unfold tk_e; rw [if_neg (by rw [kk]; omega), if_pos kk]; exact ee.symm
        have kv : tk_v T z q = tk_pv T q e := by unfold tk_v; rw [if_neg (by rw [kk]; omega), ke]
        have ko : tk_o T z q ↔ e - q ≤ 2 := by unfold tk_o; rw [kk, ke]; omega
        intro W28 e28
        have m5 : W28 0 5 = nI e := by rw [e28, zup_eq, upd_ne (by omega), zup_eq, upd_eq]
        have m6 : W28 0 6 = nI q := by rw [e28, zup_eq, upd_ne (by omega), zup_eq, upd_ne (by omega), zup_eq, upd_ne (by omega)]; exact k6
        have m3 : W28 0 3 = 0 := by rw [e28, zup_eq, upd_ne (by omega), zup_eq, upd_ne (by omega), zup_eq, upd_ne (by omega)]; exact k3
        have m7 : W28 0 7 = 2 := by rw [e28, zup_eq, upd_eq]
        have m8 : W28 0 8 = tk_pv T q e := by rw [e28, zup_eq, upd_ne (by omega), zup_eq, upd_ne (by omega), zup_eq, upd_eq]
        have fr2 : tkw W W28 := by rw [e28]; exact ((fr.up (by omega) (by omega)).up (by omega) (by omega)).up (by omega) (by omega)
        rw [m5, m6, q_sub hbl.1]
        refine ⟨fun w => ?_, fun w => e_fails m3 (hQ _ ?_ ⟨?_, Or.inr ⟨fun v => w ((nI_leI (b := 2) (by omega) (by omega)).mpr (ko.mp v)), ?_, ?_⟩⟩)⟩
        · have := (nI_leI (b := 2) (by omega) (by omega)).mp w
          exact hQ W28 fr2 ⟨m6, Or.inl ⟨ko.mpr this, m3, by rw [ke]; exact m5, by rw [kk]; exact m7, fun _ => by rw [kv]; exact m8⟩⟩
        · unfold wfs; exact (fr2.up (by omega) (by omega)).up (by omega) (by omega)
        · unfold wfs; rw [zup_eq, upd_ne (by omega), zup_eq, upd_ne (by omega)]; exact m6
        · unfold wfs; rw [zup_eq, upd_ne (by omega), zup_eq, upd_eq]
        · unfold wfs; rw [zup_eq, upd_eq]; exact m6
      · have hf : ¬ isF (T q) = true := fun w => cf (b4.mpr w)
        have f5 : W13 0 5 = nI q := by rw [e13, zup_eq, upd_ne (by omega)]; exact k5
        have fr2 : tkw W W14 := by rw [e14, e13]; exact (fr.up (by omega) (by omega)).up (by omega) (by omega)
        have m3 : W14 0 3 = 0 := by rw [e14, zup_eq, upd_ne (by omega), e13, zup_eq, upd_ne (by omega)]; exact k3
        have m5 : W14 0 5 = nI (q + 1) := by rw [e14, zup_eq, upd_eq, f5, nI_1]
        have m6 : W14 0 6 = nI q := by rw [e14, zup_eq, upd_ne (by omega), e13, zup_eq, upd_ne (by omega)]; exact k6
        have m7 : W14 0 7 = 3 := by rw [e14, zup_eq, upd_ne (by omega), e13, zup_eq, upd_eq]
        refine ⟨fun w => ?_, fun w => e_fails m3 (hQ _ ?_ ⟨?_, Or.inr ⟨?_, ?_, ?_⟩⟩)⟩
        · have d := b2.mp w
          have kk : tk_k T z q = 3 := by unfold tk_k; rw [if_pos hqz, if_pos d]
          have ke : tk_e T z q = q + 1 := by unfold tk_e; rw [if_neg (by rw [kk]; omega), if_neg (by rw [kk]; omega), if_pos kk]
          exact hQ W14 fr2 ⟨m6, Or.inl ⟨Or.inr (Or.inl kk), m3, by rw [ke]; exact m5, by rw [kk]; exact m7, fun v => absurd v (by rw [kk]; omega)⟩⟩
        · unfold wfs; exact (fr2.up (by omega) (by omega)).up (by omega) (by omega)
        · unfold wfs; rw [zup_eq, upd_ne (by omega), zup_eq, upd_ne (by omega)]; exact m6
        · have d : ¬ T q = 59 := fun v => w (b2.mpr v)
          have kk : tk_k T z q = 4 := by unfold tk_k; rw [if_pos hqz, if_neg d, if_neg hl, if_neg hf]
          unfold tk_o
          rw [kk]; omega
        · unfold wfs; rw [zup_eq, upd_ne (by omega), zup_eq, upd_eq]
        · unfold wfs; rw [zup_eq, upd_eq]; exact m6
  · rw [if_neg hqz]
    refine ⟨fun w => absurd rfl w, fun _ W43 e43 => ?_⟩
    have kk : tk_k T z q = 0 := by unfold tk_k; rw [if_neg hqz]
    have ke : tk_e T z q = q := by unfold tk_e; rw [if_neg (by rw [kk]; omega), if_neg (by rw [kk]; omega), if_neg (by rw [kk]; omega)]
    refine hQ W43 (by rw [e43]; exact fr.up (by omega) (by omega)) ⟨?_, Or.inl ⟨Or.inl kk, ?_, ?_, ?_, fun w => absurd w (by rw [kk]; omega)⟩⟩
    · rw [e43, zup_eq, upd_ne (by omega)]; exact k6
    · rw [e43, zup_eq, upd_ne (by omega)]; exact k3
    · rw [ke, e43, zup_eq, upd_ne (by omega)]; exact k5
    · rw [kk, e43, zup_eq, upd_eq]; rfl
theorem mt_next_no {W : zMem} {Q : zMem → Prop} (h3 : ∃ c, 1 ≤ c ∧ c ≤ 7 ∧ W 0 3 = nI c) (hQ : Q W) : wp_Model_next W Q := by
  obtain ⟨c, c1, c7, e⟩ := h3
  unfold wp_Model_next
  rw [e]
  exact ⟨fun w => absurd w (nI_nle (by omega) (by omega)), fun _ => hQ⟩
