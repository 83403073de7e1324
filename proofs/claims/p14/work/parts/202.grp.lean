/-- bytes with and without a sign -/
theorem by8 (y : Int8) : ((y.toInt32 &&& 255 = 32) ↔ y.toInt32 = 32) ∧ ((y.toInt32 &&& 255 = 59) ↔ y.toInt32 = 59) ∧ ((97 ≤ y.toInt32 &&& 255 ∧ y.toInt32 &&& 255 ≤ 122) ↔ (¬ y.toInt32 < 97 ∧ ¬ 122 < y.toInt32)) ∧ ((48 ≤ y.toInt32 &&& 255 ∧ y.toInt32 &&& 255 ≤ 57) ↔ (¬ y.toInt32 < 48 ∧ ¬ 57 < y.toInt32)) ∧ (¬ y.toInt32 &&& 255 = -4) ∧ (¬ y.toInt32 < 48 → y.toInt32 &&& 255 = y.toInt32) := by
  obtain ⟨⟨⟨⟨n, hn⟩⟩⟩⟩ := y
  exact (show ∀ n, ∀ hn : n < 2 ^ 8, ((((⟨⟨⟨⟨n, hn⟩⟩⟩⟩ : Int8).toInt32 &&& 255 = 32) ↔ (⟨⟨⟨⟨n, hn⟩⟩⟩⟩ : Int8).toInt32 = 32) ∧ (((⟨⟨⟨⟨n, hn⟩⟩⟩⟩ : Int8).toInt32 &&& 255 = 59) ↔ (⟨⟨⟨⟨n, hn⟩⟩⟩⟩ : Int8).toInt32 = 59) ∧ ((97 ≤ (⟨⟨⟨⟨n, hn⟩⟩⟩⟩ : Int8).toInt32 &&& 255 ∧ (⟨⟨⟨⟨n, hn⟩⟩⟩⟩ : Int8).toInt32 &&& 255 ≤ 122) ↔ (¬ (⟨⟨⟨⟨n, hn⟩⟩⟩⟩ : Int8).toInt32 < 97 ∧ ¬ 122 < (⟨⟨⟨⟨n, hn⟩⟩⟩⟩ : Int8).toInt32)) ∧ ((48 ≤ (⟨⟨⟨⟨n, hn⟩⟩⟩⟩ : Int8).toInt32 &&& 255 ∧ (⟨⟨⟨⟨n, hn⟩⟩⟩⟩ : Int8).toInt32 &&& 255 ≤ 57) ↔ (¬ (⟨⟨⟨⟨n, hn⟩⟩⟩⟩ : Int8).toInt32 < 48 ∧ ¬ 57 < (⟨⟨⟨⟨n, hn⟩⟩⟩⟩ : Int8).toInt32)) ∧ (¬ (⟨⟨⟨⟨n, hn⟩⟩⟩⟩ : Int8).toInt32 &&& 255 = -4) ∧ (¬ (⟨⟨⟨⟨n, hn⟩⟩⟩⟩ : Int8).toInt32 < 48 → (⟨⟨⟨⟨n, hn⟩⟩⟩⟩ : Int8).toInt32 &&& 255 = (⟨⟨⟨⟨n, hn⟩⟩⟩⟩ : Int8).toInt32)) by decide +kernel) n hn
/-- both tapes hold the same z bytes -/
def tpe (T U : Nat → Int32) (z : Nat) : Prop := ∀ j, j < z → ∃ y : Int8, T j = y.toInt32 ∧ U j = y.toInt32 &&& 255
/-- what the reference's tables of words say -/
def wtb (W : zMem) : Prop := (∀ i, i ≤ 10 → W 2 i = nI (sp_sum (fun j => zsL.getD j 0) i)) ∧ ∀ i, i < 10 → ∀ j, j < zsL.getD i 0 → W 3 (sp_sum (fun j => zsL.getD j 0) i + j) = zsc i j
theorem wtb_b : ∀ i, i < 10 → sp_sum (fun j => zsL.getD j 0) i + zsL.getD i 0 = sp_sum (fun j => zsL.getD j 0) (i + 1) ∧ sp_sum (fun j => zsL.getD j 0) (i + 1) ≤ 43 := by decide
theorem zsc_b : ∀ i, i < 10 → ∀ j, j < zsL.getD i 0 → 97 ≤ zsc i j ∧ zsc i j ≤ 122 := by decide +kernel
theorem tpe_B {T U : Nat → Int32} {z j : Nat} (h : tpe T U z) (hj : j < z) : (U j = 32 ↔ isB (T j) = true) ∧ (U j = 59 ↔ T j = 59) ∧ ((97 ≤ U j ∧ U j ≤ 122) ↔ isL (T j) = true) ∧ ((48 ≤ U j ∧ U j ≤ 57) ↔ isF (T j) = true) ∧ (¬ U j = -4) ∧ (¬ T j < 48 → U j = T j) := by
  obtain ⟨y, e1, e2⟩ := h j hj
  rw [e1, e2]
  obtain ⟨a, b, c, d, e, f⟩ := by8 y
  unfold isB isL isF
  refine ⟨?_, b, ?_, ?_, e, f⟩
  · rw [decide_eq_true_eq]; exact a
  · rw [decide_eq_true_eq]; exact c
  · rw [decide_eq_true_eq]; exact d
theorem e_byteAt {z i : Nat} {W : zMem} {Q : Int32 → zMem → Prop} (h1 : W 0 1 = nI z) (hz : z ≤ 400) (hi : i < 2147483648) (hQ : Q (if i < z then W 1 i else -4) W) : wp_Model_byteAt (nI i) W Q := by
  unfold wp_Model_byteAt
  rw [h1]
  refine ⟨fun c => ?_, fun c => ?_⟩
  · have := (nI_leI (by omega) hi).mp c
    rw [if_neg (by omega)] at hQ; exact hQ
  · have hi2 : i < z := (nI_ltI hi (by omega)).mp (Int32.not_le.mp c)
    rw [if_pos hi2] at hQ
    rw [q_ix hi]
    exact ⟨vp_in_nI (by omega) (by omega), hQ⟩
theorem mt_skip {z p : Nat} {T : Nat → Int32} {W : zMem} {K : zMem → Prop} {Q : zMem → Prop} (h1 : W 0 1 = nI z) (hz : z ≤ 400) (h5 : W 0 5 = nI p) (hp : p ≤ z) (hT : tpe T (W 1) z) (hK : K (zup W 0 5 (nI (tk_q T z p)))) : ∃ n, zlp0 (wpB_Model_next_8 K Q) n W := by
  refine zlp0_r (fun m W' => ∃ i, i ≤ z ∧ m = z - i ∧ W' = zup W 0 5 (nI i) ∧ tk_s isB T (z - i) i = tk_q T z p) ?_ (n := z - p) ⟨p, hp, rfl, (zup_same h5).symm, rfl⟩
  rintro m W' ⟨i, hi, rfl, rfl, e⟩ J hJ
  unfold wpB_Model_next_8
  have g1 : zup W 0 5 (nI i) 0 1 = nI z := by rw [zup_eq, upd_ne (by omega)]; exact h1
  have g5 : zup W 0 5 (nI i) 0 5 = nI i := by rw [zup_eq, upd_eq]
  have gT : zup W 0 5 (nI i) 1 = W 1 := by rw [zup_ne (by omega)]
  rw [g5]
  refine e_byteAt g1 hz (by omega) ?_
  rw [gT]
  have stop : (z ≤ i ∨ isB (T i) = false) → K (zup W 0 5 (nI i)) := fun c => by
    rw [tk_s_end c] at e
    rw [e]; exact hK
  by_cases hi2 : i < z
  · rw [if_pos hi2]
    obtain ⟨b1, -⟩ := tpe_B hT hi2
    refine ⟨fun c => stop (Or.inr (by
      cases hb : isB (T i) with
      | false => rfl
      | true => exact absurd (b1.mpr hb) c)), fun c W2 e2 => ?_⟩
    refine hJ (z - (i + 1)) _ (by omega) ⟨i + 1, by omega, rfl, ?_, ?_⟩
    · rw [e2, g5, zup_zup, nI_1]
    · rw [← e, ← tk_s_go hi2 (b1.mp c)]
  · rw [if_neg hi2]
    exact ⟨fun _ => stop (Or.inl (by omega)), fun c => absurd c (by decide)⟩
theorem mt_letters {z p : Nat} {T : Nat → Int32} {W : zMem} {K : zMem → Prop} {Q : zMem → Prop} (h1 : W 0 1 = nI z) (hz : z ≤ 400) (h5 : W 0 5 = nI p) (hp : p ≤ z) (hT : tpe T (W 1) z) (hK : K (zup W 0 5 (nI (tk_s isL T (z - p) p)))) : ∃ n, zlp0 (wpB_Model_next_84 K Q) n W := by
  refine zlp0_r (fun m W' => ∃ i, i ≤ z ∧ m = z - i ∧ W' = zup W 0 5 (nI i) ∧ tk_s isL T (z - i) i = tk_s isL T (z - p) p) ?_ (n := z - p) ⟨p, hp, rfl, (zup_same h5).symm, rfl⟩
  rintro m W' ⟨i, hi, rfl, rfl, e⟩ J hJ
  unfold wpB_Model_next_84
  have g1 : zup W 0 5 (nI i) 0 1 = nI z := by rw [zup_eq, upd_ne (by omega)]; exact h1
  have g5 : zup W 0 5 (nI i) 0 5 = nI i := by rw [zup_eq, upd_eq]
  have gT : zup W 0 5 (nI i) 1 = W 1 := by rw [zup_ne (by omega)]
  rw [g5]
  refine e_byteAt g1 hz (by omega) ?_
  rw [gT]
  have stop : (z ≤ i ∨ isL (T i) = false) → K (zup W 0 5 (nI i)) := fun c => by
    rw [tk_s_end c] at e
    rw [e]; exact hK
  by_cases hi2 : i < z
  · rw [if_pos hi2]
    obtain ⟨-, -, b1, -⟩ := tpe_B hT hi2
    refine mt_in (lo' := 97) (hi' := 122) rfl rfl (fun c1 c2 => ⟨fun w => absurd w (by decide), fun _ W2 e2 => ?_⟩) (fun c => ⟨fun _ => stop (Or.inr (by
      cases hb : isL (T i) with
      | false => rfl
      | true => exact absurd (b1.mpr hb) c)), fun w => absurd rfl w⟩)
    refine hJ (z - (i + 1)) _ (by omega) ⟨i + 1, by omega, rfl, ?_, ?_⟩
    · rw [e2, g5, zup_zup, nI_1]
    · rw [← e, ← tk_s_go hi2 (b1.mp ⟨c1, c2⟩)]
  · rw [if_neg hi2]
    exact mt_in (lo' := 97) (hi' := 122) rfl rfl (fun c1 _ => absurd c1 (by decide)) (fun _ => ⟨fun _ => stop (Or.inl (by omega)), fun w => absurd rfl w⟩)
theorem mt_nameAt {z q e : Nat} {T : Nat → Int32} {W : zMem} {Q : Int32 → zMem → Prop} (h1 : W 0 1 = nI z) (hz : z ≤ 400) (hq : q ≤ e) (he : e ≤ z) (hT : tpe T (W 1) z) (ht : wtb W) (hQ : ∀ nm, nm = tk_nm T q e 10 0 → Q (if nm < 10 then nI nm else -4) W) : wp_Model_nameAt (nI q) (nI e) W Q := by
  have hb := tk_nm_b (T := T) (q := q) (e := e) 10 0 rfl
  have hQ' := hQ _ rfl
  generalize hnm : tk_nm T q e 10 0 = nm at hb hQ'
  refine zlp1_r (fun m x W' => ∃ i, x = nI i ∧ i ≤ 10 ∧ m = 10 - i ∧ W = W' ∧ tk_nm T q e (10 - i) i = nm) ?_ (n := 10) ⟨0, rfl, by omega, rfl, rfl, hnm⟩
  rintro m x W' ⟨i, rfl, hi, rfl, rfl, e1⟩ J hJ
  unfold wpB_Model_nameAt_2
  refine ⟨fun c => ?_, fun c => ?_⟩
  · have := (nI_leI (a := 10) (by omega) (by omega)).mp c
    have e2 : i = 10 := by omega
    rw [e2] at e1
    have e3 : nm = 10 := e1.symm
    rw [e3, if_neg (by omega)] at hQ'
    exact hQ'
  have hi2 : i < 10 := (nI_ltI (b := 10) (by omega) (by omega)).mp (Int32.not_le.mp c)
  obtain ⟨s1, s2⟩ := wtb_b i hi2
  have hL := zsL_b (i := i) (by omega)
  obtain ⟨f, ef⟩ : ∃ f, 10 - i = f + 1 := ⟨10 - i - 1, by omega⟩
  have ef2 : 10 - (i + 1) = f := by omega
  have no : ¬ tk_w T q e i → ∀ y, y = nI (i + 1) → J y W := fun cw y ey => by
    rw [ey]
    refine hJ (10 - (i + 1)) _ _ (by omega) ⟨i + 1, rfl, by omega, rfl, rfl, ?_⟩
    rw [ef, tk_nm_no cw] at e1
    rw [ef2]; exact e1
  have yes : tk_w T q e i → Q (nI i) W := fun cw => by
    rw [ef, tk_nm_yes cw] at e1
    rw [← e1, if_pos hi2] at hQ'
    exact hQ'
  rw [nI_1, q_ix (by omega), q_ix (by omega), ht.1 i (by omega), ht.1 (i + 1) (by omega), q_sub hq, q_sub (by omega), show sp_sum (fun j => zsL.getD j 0) (i + 1) - sp_sum (fun j => zsL.getD j 0) i = zsL.getD i 0 by omega]
  refine ⟨vp_in_nI (by omega) (by omega), vp_in_nI (by omega) (by omega), fun d => ?_, fun d => ?_⟩
  · have d' : ¬ e - q = zsL.getD i 0 := fun w => d (by rw [w])
    refine ⟨1, fun _ => ⟨fun _ => no (fun w => d' w.1), fun w => absurd rfl w⟩, fun w => absurd rfl w⟩
  · have d' : e - q = zsL.getD i 0 := (nI_eq (by omega) (by omega)).mp d
    refine zlp2_r (fun m x4 x5 W' => ∃ j, x5 = nI j ∧ j ≤ zsL.getD i 0 ∧ m = zsL.getD i 0 - j ∧ W = W' ∧ ((x4 = 1 ∧ ∀ h, h < j → T (q + h) = zsc i h) ∨ (x4 = 0 ∧ ¬ tk_w T q e i))) ?_ (n := zsL.getD i 0) ⟨0, rfl, by omega, rfl, rfl, Or.inl ⟨rfl, fun h w => absurd w (by omega)⟩⟩
    rintro m x4 x5 W' ⟨j, rfl, hj, rfl, rfl, hc⟩ J2 hJ2
    unfold wpB_Model_nameAt_39
    rcases hc with ⟨rfl, hc⟩ | ⟨rfl, hc⟩
    · refine ⟨fun w => absurd w (by decide), fun _ => ⟨fun w => ?_, fun w => ?_⟩⟩
      · rw [q_sub hq] at w
        have := (nI_leI (by omega) (by omega)).mp w
        exact ⟨fun w => absurd w (by decide), fun _ => yes ⟨d', fun h hh => hc h (by omega)⟩⟩
      · rw [q_sub hq] at w
        have hj2 : j < e - q := (nI_ltI (by omega) (by omega)).mp (Int32.not_le.mp w)
        rw [q_add]
        refine e_byteAt h1 hz (by omega) ?_
        rw [if_pos (by omega), q_ix (by omega), ht.1 i (by omega), q_add, q_ix (by omega), ht.2 i hi2 j (by omega)]
        obtain ⟨-, -, b3, -, -, b6⟩ := tpe_B hT (show q + j < z by omega)
        have zb := zsc_b i hi2 j (by omega)
        have iff : W 1 (q + j) = zsc i j ↔ T (q + j) = zsc i j := by
          constructor
          · intro w
            have : isL (T (q + j)) = true := b3.mp (by rw [w]; exact zb)
            have h48 : ¬ T (q + j) < 48 := fun v => by
              unfold isL at this
              rw [decide_eq_true_eq] at this
              exact this.1 (Int32.lt_trans v (by decide))
            rw [← b6 h48]; exact w
          · intro w
            have h48 : ¬ T (q + j) < 48 := fun v => by
              rw [w] at v
              exact absurd (Int32.lt_of_lt_of_le v (by decide : (48 : Int32) ≤ 97)) (Int32.not_lt.mpr zb.1)
            rw [b6 h48]; exact w
        refine ⟨vp_in_nI (by omega) (by omega), vp_in_nI (by omega) (by omega), fun v y ey => ?_, fun v y ey => ?_⟩
        · rw [ey, nI_1]
          exact hJ2 (zsL.getD i 0 - (j + 1)) _ _ _ (by omega) ⟨j + 1, rfl, by omega, rfl, rfl, Or.inr ⟨rfl, fun tw => v (iff.mpr (tw.2 j (by omega)))⟩⟩
        · rw [ey, nI_1]
          refine hJ2 (zsL.getD i 0 - (j + 1)) _ _ _ (by omega) ⟨j + 1, rfl, by omega, rfl, rfl, Or.inl ⟨rfl, fun h hh => ?_⟩⟩
          rcases Nat.lt_or_ge h j with u | u
          · exact hc h u
          · rw [show h = j by omega]; exact iff.mp v
    · exact ⟨fun _ => ⟨fun _ => no hc, fun w => absurd rfl w⟩, fun w => absurd rfl w⟩
/-- a fault of the reference at the token at hand -/
def wfs (c : Int32) (W : zMem) : zMem := zup (zup W 0 3 c) 0 4 (W 0 6)
theorem e_fails {c : Int32} {W : zMem} {Q : zMem → Prop} (h : W 0 3 = 0) (hQ : Q (wfs c W)) : wp_Model_fails c W Q := by
  refine ⟨fun w => absurd h w, fun _ W1 e1 W2 e2 => ?_⟩
  have : W1 0 6 = W 0 6 := by rw [e1, zup_eq, upd_ne (by omega)]
  rw [e2, this, e1]
  exact hQ
theorem e_fails_no {c : Int32} {W : zMem} {Q : zMem → Prop} (h : ¬ W 0 3 = 0) (hQ : Q W) : wp_Model_fails c W Q := ⟨fun _ => hQ, fun w => absurd w h⟩
theorem mt_figs {z q : Nat} {T : Nat → Int32} {W : zMem} {K : zMem → Prop} {Q : zMem → Prop} (h1 : W 0 1 = nI z) (hz : z ≤ 400) (h5 : W 0 5 = nI q) (h6 : W 0 6 = nI q) (h8 : W 0 8 = 0) (hq : q ≤ z) (hT : tpe T (W 1) z) (hK : ∀ e, e = tk_s isF T (z - q) q → K (zup (zup W 0 8 (tk_pv T q e)) 0 5 (nI e))) : ∃ n, zlp0 (wpB_Model_next_170 K Q) n W := by
  have hK' := hK _ rfl
  generalize hee : tk_s isF T (z - q) q = e at hK'
  refine zlp0_r (fun m W' => ∃ i, q ≤ i ∧ i ≤ z ∧ m = z - i ∧ W' = zup (zup W 0 8 (tk_pv T q i)) 0 5 (nI i) ∧ tk_s isF T (z - i) i = e) ?_ (n := z - q) ⟨q, Nat.le_refl _, hq, rfl, ?_, hee⟩
  · rintro m W' ⟨i, hqi, hi, rfl, rfl, ei⟩ J hJ
    unfold wpB_Model_next_170
    generalize hX : zup (zup W 0 8 (tk_pv T q i)) 0 5 (nI i) = X
    have g1 : X 0 1 = nI z := by rw [← hX, zup_eq, upd_ne (by omega), zup_eq, upd_ne (by omega)]; exact h1
    have g5 : X 0 5 = nI i := by rw [← hX, zup_eq, upd_eq]
    have g6 : X 0 6 = nI q := by rw [← hX, zup_eq, upd_ne (by omega), zup_eq, upd_ne (by omega)]; exact h6
    have g8 : X 0 8 = tk_pv T q i := by rw [← hX, zup_eq, upd_ne (by omega), zup_eq, upd_eq]
    have gT : X 1 = W 1 := by rw [← hX, zup_ne (by omega), zup_ne (by omega)]
    rw [g5]
    refine e_byteAt g1 hz (by omega) ?_
    rw [gT]
    have stop : (z ≤ i ∨ isF (T i) = false) → K X := fun c => by
      rw [tk_s_end c] at ei
      subst ei
      rw [← hX]; exact hK'
    by_cases hi2 : i < z
    · rw [if_pos hi2]
      obtain ⟨-, -, -, b4, -, b6⟩ := tpe_B hT hi2
      refine mt_in (lo' := 48) (hi' := 57) rfl rfl (fun c1 c2 => ⟨fun w => absurd w (by decide), fun _ => ?_⟩) (fun c => ⟨fun _ => stop (Or.inr (by
        cases hb : isF (T i) with
        | false => rfl
        | true => exact absurd (b4.mpr hb) c)), fun w => absurd rfl w⟩)
      have d := b4.mp ⟨c1, c2⟩
      have nx : tk_s isF T (z - (i + 1)) (i + 1) = e := by rw [← ei, ← tk_s_go hi2 d]
      rw [g5, g6, q_sub hqi]
      refine ⟨fun w W5 e5 W6 e6 => ?_, fun w => ?_⟩
      · have hw : 2 ≤ i - q := (nI_leI (a := 2) (by omega) (by omega)).mp w
        refine hJ (z - (i + 1)) _ (by omega) ⟨i + 1, by omega, by omega, rfl, ?_, nx⟩
        rw [e6, e5, zup_same rfl, g5, ← hX, zup_zup, nI_1]
        have : tk_pv T q i = tk_pv T q (i + 1) := by
          unfold tk_pv
          rw [if_neg (by omega), if_neg (by omega), if_neg (by omega), if_neg (by omega)]
        rw [this]
      · have hw : i - q < 2 := by
          rcases Nat.lt_or_ge (i - q) 2 with v | v
          · exact v
          · exact absurd ((nI_leI (a := 2) (by omega) (by omega)).mpr v) w
        refine e_byteAt g1 hz (by omega) ?_
        rw [gT, if_pos hi2]
        intro W5 e5 W6 e6
        refine hJ (z - (i + 1)) _ (by omega) ⟨i + 1, by omega, by omega, rfl, ?_, nx⟩
        have f5 : W5 0 5 = nI i := by rw [e5, zup_eq, upd_ne (by omega)]; exact g5
        have h48 : ¬ T i < 48 := by
          unfold isF at d
          rw [decide_eq_true_eq] at d
          exact d.1
        rw [e6, f5, e5, g8, b6 h48, ← hX, zup_cm (i := 5) (j := 8) (by omega), zup_zup, zup_zup, nI_1]
        have : 10 * tk_pv T q i + T i - 48 = tk_pv T q (i + 1) := by
          rw [Int32.mul_comm]
          unfold tk_pv
          rcases (show i = q ∨ i = q + 1 by omega) with rfl | rfl
          · rw [if_pos rfl, if_neg (by omega), if_pos rfl]
          · rw [if_neg (by omega), if_pos rfl, if_neg (by omega), if_neg (by omega)]
        rw [this]
    · rw [if_neg hi2]
      exact mt_in (lo' := 48) (hi' := 57) rfl rfl (fun c1 _ => absurd c1 (by decide)) (fun _ => ⟨fun _ => stop (Or.inl (by omega)), fun w => absurd rfl w⟩)
  · have : tk_pv T q q = 0 := by unfold tk_pv; rw [if_pos rfl]
    rw [this, zup_same h8, zup_same h5]
def tkw (W W' : zMem) : Prop := (∀ c, c ≠ 0 → W' c = W c) ∧ ∀ j, (j < 3 ∨ 8 < j) → W' 0 j = W 0 j
theorem tkw.rf {W : zMem} : tkw W W := ⟨fun _ _ => rfl, fun _ _ => rfl⟩
theorem tkw.tr {W W1 W2 : zMem} (a : tkw W W1) (b : tkw W1 W2) : tkw W W2 := ⟨fun c h => (b.1 c h).trans (a.1 c h), fun j h => (b.2 j h).trans (a.2 j h)⟩
theorem tkw.up {W W1 : zMem} {j : Nat} {x : Int32} (a : tkw W W1) (h : 3 ≤ j) (h2 : j ≤ 8) : tkw W (zup W1 0 j x) := ⟨fun c hc => by rw [zup_ne hc]; exact a.1 c hc, fun i hi => by rw [zup_eq, upd_ne (by omega)]; exact a.2 i hi⟩
/-- the reference has read the token from p on -/
def nT (T : Nat → Int32) (z p : Nat) (W : zMem) : Prop :=
  W 0 6 = nI (tk_q T z p) ∧ ((tk_o T z (tk_q T z p) ∧ W 0 3 = 0 ∧ W 0 5 = nI (tk_e T z (tk_q T z p)) ∧ W 0 7 = nI (tk_k T z (tk_q T z p)) ∧ (tk_k T z (tk_q T z p) = 1 ∨ tk_k T z (tk_q T z p) = 2 → W 0 8 = tk_v T z (tk_q T z p))) ∨ (¬ tk_o T z (tk_q T z p) ∧ W 0 3 = 1 ∧ W 0 4 = nI (tk_q T z p)))
theorem mt_next {z p : Nat} {T : Nat → Int32} {W : zMem} {Q : zMem → Prop} (h3 : W 0 3 = 0) (h1 : W 0 1 = nI z) (hz : z ≤ 400) (h5 : W 0 5 = nI p) (hp : p ≤ z) (hT : tpe T (W 1) z) (ht : wtb W) (hQ : ∀ W', tkw W W' → nT T z p W' → Q W') : wp_Model_next W Q := by
  have hb := tk_q_b (T := T) hp
  unfold nT at hQ
  unfold wp_Model_next
  rw [h3]
  refine ⟨fun _ => mt_skip h1 hz h5 hp hT ?_, fun w => absurd (by decide) w⟩
  generalize tk_q T z p = q at hQ hb
  intro W5 e5
  have x5 : zup W 0 5 (nI q) 0 5 = nI q := by rw [zup_eq, upd_eq]
  rw [x5] at e5
  have g1 : W5 0 1 = nI z := by rw [e5, zup_eq, upd_ne (by omega), zup_eq, upd_ne (by omega)]; exact h1
  have g5 : W5 0 5 = nI q := by rw [e5, zup_eq, upd_ne (by omega)]; exact x5
  have gT : W5 1 = W 1 := by rw [e5, zup_ne (by omega), zup_ne (by omega)]
  rw [g5]
  refine e_byteAt g1 hz (by omega) ?_
  rw [gT]
  intro W8 e8
  have fr : tkw W W8 := by rw [e8, e5]; exact ((tkw.rf.up (by omega) (by omega)).up (by omega) (by omega)).up (by omega) (by omega)
  have k1 : W8 0 1 = nI z := by rw [e8, zup_eq, upd_ne (by omega)]; exact g1
  have k3 : W8 0 3 = 0 := by rw [e8, zup_eq, upd_ne (by omega), e5, zup_eq, upd_ne (by omega), zup_eq, upd_ne (by omega)]; exact h3
  have k5 : W8 0 5 = nI q := by rw [e8, zup_eq, upd_ne (by omega)]; exact g5
  have k6 : W8 0 6 = nI q := by rw [e8, zup_eq, upd_ne (by omega), e5, zup_eq, upd_eq]
  have k8 : W8 0 8 = 0 := by rw [e8, zup_eq, upd_eq]
  have kT : tpe T (W8 1) z := by rw [show W8 1 = W 1 by rw [e8, zup_ne (by omega)]; exact gT]; exact hT
  have kt : wtb W8 := by unfold wtb; rw [fr.1 2 (by omega), fr.1 3 (by omega)]; exact ht
  by_cases hqz : q < z
  · rw [if_pos hqz]
    obtain ⟨b1, b2, b3, b4, b5, b6⟩ := tpe_B hT hqz
    refine ⟨fun _ => mt_in (lo' := 97) (hi' := 122) rfl rfl (fun c1 c2 => ⟨fun w => absurd w (by decide), fun _ => ?_⟩) (fun c => ⟨fun _ => ?_, fun w => absurd rfl w⟩), fun w => absurd w b5⟩
    · have hl := b3.mp ⟨c1, c2⟩
      have d : ¬ T q = 59 := fun w => by
        unfold isL at hl
        rw [decide_eq_true_eq, w] at hl
        exact hl.1 (by decide)
      refine mt_letters k1 hz k5 hb.2 kT ?_
      have hbl := tk_s_le (P := isL) (T := T) (z - q) q
      generalize hee : tk_s isL T (z - q) q = e at hbl
      intro W37 e37
      have m5 : W37 0 5 = nI e := by rw [e37, zup_eq, upd_ne (by omega), zup_eq, upd_eq]
      have m6 : W37 0 6 = nI q := by rw [e37, zup_eq, upd_ne (by omega), zup_eq, upd_ne (by omega)]; exact k6
      have m1 : W37 0 1 = nI z := by rw [e37, zup_eq, upd_ne (by omega), zup_eq, upd_ne (by omega)]; exact k1
      have m3 : W37 0 3 = 0 := by rw [e37, zup_eq, upd_ne (by omega), zup_eq, upd_ne (by omega)]; exact k3
      have m7 : W37 0 7 = 1 := by rw [e37, zup_eq, upd_eq]
      have fr2 : tkw W W37 := by rw [e37]; exact (fr.up (by omega) (by omega)).up (by omega) (by omega)
      have mT : tpe T (W37 1) z := by rw [show W37 1 = W 1 from fr2.1 1 (by omega)]; exact hT
      have mt : wtb W37 := by unfold wtb; rw [fr2.1 2 (by omega), fr2.1 3 (by omega)]; exact ht
      rw [m5, m6]
      refine mt_nameAt m1 hz hbl.1 (by omega) mT mt (fun nm en => ?_)
      have hnb := tk_nm_b (T := T) (q := q) (e := e) 10 0 rfl
      rw [← en] at hnb
      have kk : tk_k T z q = 1 := by unfold tk_k; rw [if_pos hqz, if_neg d, if_pos hl]
      have ke : tk_e T z q = e := by unfold tk_e; rw [if_pos kk]; exact hee
      have kv : tk_v T z q = nI nm := by unfold tk_v; rw [if_pos kk, ke, en]
      have ko : tk_o T z q ↔ nm < 10 := by unfold tk_o; rw [kk, ke, ← en]; omega
      intro W40 e40
      have n8 : W40 0 8 = (if nm < 10 then nI nm else -4) := by rw [e40, zup_eq, upd_eq]
      have fr3 : tkw W W40 := by rw [e40]; exact fr2.up (by omega) (by omega)
      have o3 : W40 0 3 = 0 := by rw [e40, zup_eq, upd_ne (by omega)]; exact m3
      have o6 : W40 0 6 = nI q := by rw [e40, zup_eq, upd_ne (by omega)]; exact m6
      rw [n8]
      by_cases h10 : nm < 10
      · rw [if_pos h10]
        refine ⟨fun _ => hQ W40 fr3 ⟨o6, Or.inl ⟨ko.mpr h10, o3, ?_, ?_, fun _ => ?_⟩⟩, fun w => ?_⟩
        · rw [ke, e40, zup_eq, upd_ne (by omega)]; exact m5
        · rw [kk, e40, zup_eq, upd_ne (by omega)]; exact m7
        · rw [kv, n8, if_pos h10]
        · have := q_neq (a := nm) (c := 4) (by omega) (by omega) (by omega)
          rw [show (-4 : Int32) = -nI 4 from rfl, this] at w
          exact absurd w id
      · rw [if_neg h10]
        refine ⟨fun w => absurd rfl w, fun _ => e_fails o3 (hQ _ ?_ ⟨?_, Or.inr ⟨fun w => h10 (ko.mp w), ?_, ?_⟩⟩)⟩
        · unfold wfs; exact (fr3.up (by omega) (by omega)).up (by omega) (by omega)
        · unfold wfs; rw [zup_eq, upd_ne (by omega), zup_eq, upd_ne (by omega)]; exact o6
        · unfold wfs; rw [zup_eq, upd_ne (by omega), zup_eq, upd_eq]
        · unfold wfs; rw [zup_eq, upd_eq]; exact o6
    · have hl : ¬ isL (T q) = true := fun w => c (b3.mpr w)
      refine mt_in (lo' := 48) (hi' := 57) rfl rfl (fun c1 c2 => ⟨fun w => absurd w (by decide), fun _ => ?_⟩) (fun cf => ⟨fun _ W13 e13 W14 e14 => ?_, fun w => absurd rfl w⟩)
      · have hf := b4.mp ⟨c1, c2⟩
        have d : ¬ T q = 59 := fun w => by
          unfold isF at hf
          rw [decide_eq_true_eq, w] at hf
          exact hf.2 (by decide)
        have kk : tk_k T z q = 2 := by unfold tk_k; rw [if_pos hqz, if_neg d, if_neg hl, if_pos hf]
        have hbl := tk_s_le (P := isF) (T := T) (z - q) q
        refine mt_figs k1 hz k5 k6 k8 hb.2 kT (fun e ee => ?_)
        rw [← ee] at hbl
        have ke : tk_e T z q = e := by unfold tk_e; rw [if_neg (by rw [kk]; omega), if_pos kk]; exact ee.symm
        have kv : tk_v T z q = tk_pv T q e := by unfold tk_v; rw [if_neg (by rw [kk]; omega), ke]
        have ko : tk_o T z q ↔ e - q ≤ 2 := by unfold tk_o; rw [kk, ke]; omega
        intro W28 e28
        have m5 : W28 0 5 = nI e := by rw [e28, zup_eq, upd_ne (by omega), zup_eq, upd_eq]
        have m6 : W28 0 6 = nI q := by rw [e28, zup_eq, upd_ne (by omega), zup_eq, upd_ne (by omega), zup_eq, upd_ne (by omega)]; exact k6
        have m3 : W28 0 3 = 0 := by rw [e28, zup_eq, upd_ne (by omega), zup_eq, upd_ne (by omega), zup_eq, upd_ne (by omega)]; exact k3
        have m7 : W28 0 7 = 2 := by rw [e28, zup_eq, upd_eq]
        have m8 : W28 0 8 = tk_pv T q e := by rw [e28, zup_eq, upd_ne (by omega), zup_eq, upd_ne (by omega), zup_eq, upd_eq]
        have fr2 : tkw W W28 := by rw [e28]; exact ((fr.up (by omega) (by omega)).up (by omega) (by omega)).up (by omega) (by omega)
        rw [m5, m6, q_sub hbl.1]
        refine ⟨fun w => ?_, fun w => e_fails m3 (hQ _ ?_ ⟨?_, Or.inr ⟨fun v => w ((nI_leI (b := 2) (by omega) (by omega)).mpr (ko.mp v)), ?_, ?_⟩⟩)⟩
        · have := (nI_leI (b := 2) (by omega) (by omega)).mp w
          exact hQ W28 fr2 ⟨m6, Or.inl ⟨ko.mpr this, m3, by rw [ke]; exact m5, by rw [kk]; exact m7, fun _ => by rw [kv]; exact m8⟩⟩
        · unfold wfs; exact (fr2.up (by omega) (by omega)).up (by omega) (by omega)
        · unfold wfs; rw [zup_eq, upd_ne (by omega), zup_eq, upd_ne (by omega)]; exact m6
        · unfold wfs; rw [zup_eq, upd_ne (by omega), zup_eq, upd_eq]
        · unfold wfs; rw [zup_eq, upd_eq]; exact m6
      · have hf : ¬ isF (T q) = true := fun w => cf (b4.mpr w)
        have f5 : W13 0 5 = nI q := by rw [e13, zup_eq, upd_ne (by omega)]; exact k5
        have fr2 : tkw W W14 := by rw [e14, e13]; exact (fr.up (by omega) (by omega)).up (by omega) (by omega)
        have m3 : W14 0 3 = 0 := by rw [e14, zup_eq, upd_ne (by omega), e13, zup_eq, upd_ne (by omega)]; exact k3
        have m5 : W14 0 5 = nI (q + 1) := by rw [e14, zup_eq, upd_eq, f5, nI_1]
        have m6 : W14 0 6 = nI q := by rw [e14, zup_eq, upd_ne (by omega), e13, zup_eq, upd_ne (by omega)]; exact k6
        have m7 : W14 0 7 = 3 := by rw [e14, zup_eq, upd_ne (by omega), e13, zup_eq, upd_eq]
        refine ⟨fun w => ?_, fun w => e_fails m3 (hQ _ ?_ ⟨?_, Or.inr ⟨?_, ?_, ?_⟩⟩)⟩
        · have d := b2.mp w
          have kk : tk_k T z q = 3 := by unfold tk_k; rw [if_pos hqz, if_pos d]
          have ke : tk_e T z q = q + 1 := by unfold tk_e; rw [if_neg (by rw [kk]; omega), if_neg (by rw [kk]; omega), if_pos kk]
          exact hQ W14 fr2 ⟨m6, Or.inl ⟨Or.inr (Or.inl kk), m3, by rw [ke]; exact m5, by rw [kk]; exact m7, fun v => absurd v (by rw [kk]; omega)⟩⟩
        · unfold wfs; exact (fr2.up (by omega) (by omega)).up (by omega) (by omega)
        · unfold wfs; rw [zup_eq, upd_ne (by omega), zup_eq, upd_ne (by omega)]; exact m6
        · have d : ¬ T q = 59 := fun v => w (b2.mpr v)
          have kk : tk_k T z q = 4 := by unfold tk_k; rw [if_pos hqz, if_neg d, if_neg hl, if_neg hf]
          unfold tk_o
          rw [kk]; omega
        · unfold wfs; rw [zup_eq, upd_ne (by omega), zup_eq, upd_eq]
        · unfold wfs; rw [zup_eq, upd_eq]; exact m6
  · rw [if_neg hqz]
    refine ⟨fun w => absurd rfl w, fun _ W43 e43 => ?_⟩
    have kk : tk_k T z q = 0 := by unfold tk_k; rw [if_neg hqz]
    have ke : tk_e T z q = q := by unfold tk_e; rw [if_neg (by rw [kk]; omega), if_neg (by rw [kk]; omega), if_neg (by rw [kk]; omega)]
    refine hQ W43 (by rw [e43]; exact fr.up (by omega) (by omega)) ⟨?_, Or.inl ⟨Or.inl kk, ?_, ?_, ?_, fun w => absurd w (by rw [kk]; omega)⟩⟩
    · rw [e43, zup_eq, upd_ne (by omega)]; exact k6
    · rw [e43, zup_eq, upd_ne (by omega)]; exact k3
    · rw [ke, e43, zup_eq, upd_ne (by omega)]; exact k5
    · rw [kk, e43, zup_eq, upd_eq]; rfl
theorem mt_next_no {W : zMem} {Q : zMem → Prop} (h3 : ∃ c, 1 ≤ c ∧ c ≤ 7 ∧ W 0 3 = nI c) (hQ : Q W) : wp_Model_next W Q := by
  obtain ⟨c, c1, c7, e⟩ := h3
  unfold wp_Model_next
  rw [e]
  exact ⟨fun w => absurd w (nI_nle (by omega) (by omega)), fun _ => hQ⟩
/-- the reader is well -/
def rin (k z p0 : Nat) (M : zMem) : Prop := M k 5 = nI z ∧ z ≤ 400 ∧ ∃ p, (p0 ≤ p ∧ p ≤ z) ∧ M k 6 = nI p
def tkn (k z : Nat) (M : zMem) (b : Bool) (M' : zMem) : Prop := ∃ p, p ≤ z ∧ M k 6 = nI p ∧ rT k z p M b M'
theorem tkn_in {k z p0 : Nat} {M M' : zMem} (r : rin k z p0 M) (h : tkn k z M true M') : rin k z p0 M' ∧ tkf k M M' := by
  obtain ⟨p, hp, e6, h⟩ := h
  obtain ⟨r5, rz, p', ⟨hp0, hpz⟩, e6'⟩ := r
  have ep : p' = p := (nI_eq (by omega) (by omega)).mp (e6'.symm.trans e6)
  subst ep
  rcases h with ⟨-, -, f, a6, -⟩ | ⟨h, -⟩
  · have hq := tk_q_b (T := M (k + 6)) hp
    have hb := tk_e_b (T := M (k + 6)) hq.2
    exact ⟨⟨(f.2 5 (by omega) (by omega) (by omega) (by omega)).trans r5, rz, _, ⟨by omega, hb.2⟩, a6⟩, f⟩
  · cases h
theorem xt_tkn {k z p0 : Nat} {M : zMem} {Q : Int32 → zMem → Prop} (r : rin k z p0 M) (hQ : ∀ b M', tkn k z M b M' → Q (b2i b) M') : wp_Reader_readToken k M Q := by
  obtain ⟨h5, hz, p, ⟨-, hp⟩, h6⟩ := r
  exact xt_token h5 hz h6 hp (fun b M' h => hQ b M' ⟨p, hp, h6, h⟩)
/-- one thing behind the other, if it was well -/
def bnd (A B : zMem → Bool → zMem → Prop) (M : zMem) (b : Bool) (M' : zMem) : Prop := ∃ b1 M1, A M b1 M1 ∧ ((b1 = false ∧ b = false ∧ M' = M1) ∨ (b1 = true ∧ B M1 b M'))
def rWi (k : Nat) (lo hi : Int32) (M : zMem) (b : Bool) (M' : zMem) : Prop := ((M k 9 < lo ∨ ¬ M k 9 ≤ hi) ∧ b = false ∧ M' = rfs k 3 M) ∨ (¬ M k 9 < lo ∧ M k 9 ≤ hi ∧ b = true ∧ M' = M)
def rNu (k : Nat) (lo hi : Int32) (M : zMem) (b : Bool) (M' : zMem) : Prop := (¬ M k 7 = 2 ∧ b = false ∧ M' = rfs k 2 M) ∨ (M k 7 = 2 ∧ rWi k lo hi M b M')
def rSi (k : Nat) (M : zMem) (b : Bool) (M' : zMem) : Prop := (¬ M k 7 = 3 ∧ b = false ∧ M' = rfs k 2 M) ∨ (M k 7 = 3 ∧ b = true ∧ M' = M)
def rN (k z : Nat) (lo hi : Int32) : zMem → Bool → zMem → Prop := bnd (tkn k z) (rNu k lo hi)
def rS (k z : Nat) : zMem → Bool → zMem → Prop := bnd (tkn k z) (rSi k)
theorem xt_within {k : Nat} {lo hi : Int32} {M : zMem} {Q : Int32 → zMem → Prop} (hQ : ∀ b M', rWi k lo hi M b M' → Q (b2i b) M') : wp_Reader_isWithin k lo hi M Q :=
  ⟨fun c => e_refuse ⟨zbo_0, hQ false _ (Or.inl ⟨Or.inl c, rfl, rfl⟩)⟩, fun c => ⟨fun d => hQ true _ (Or.inr ⟨c, d, rfl, rfl⟩), fun d => e_refuse ⟨zbo_0, hQ false _ (Or.inl ⟨Or.inr d, rfl, rfl⟩)⟩⟩⟩
theorem b2i_bo (b : Bool) : zbo (b2i b) := by cases b <;> simp [b2i, zbo]
theorem xt_number {k z p0 : Nat} {lo hi : Int32} {M : zMem} {Q : Int32 → zMem → Prop} (r : rin k z p0 M) (hQ : ∀ b M', rN k z lo hi M b M' → Q (b2i b) M') : wp_Reader_readNumber k lo hi M Q := by
  refine xt_tkn r (fun b1 M1 r1 => ?_)
  cases b1 with
  | false => exact ⟨fun w => absurd rfl w, fun _ => hQ false M1 ⟨false, M1, r1, Or.inl ⟨rfl, rfl, rfl⟩⟩⟩
  | true => exact ⟨fun _ => ⟨fun c => xt_within (fun b M' h => ⟨b2i_bo b, hQ b M' ⟨true, M1, r1, Or.inr ⟨rfl, Or.inr ⟨c, h⟩⟩⟩⟩), fun c => e_refuse ⟨zbo_0, hQ false _ ⟨true, M1, r1, Or.inr ⟨rfl, Or.inl ⟨c, rfl, rfl⟩⟩⟩⟩⟩, fun w => absurd w (by decide)⟩
theorem xt_isSign {k : Nat} {M : zMem} {Q : Int32 → zMem → Prop} (hQ : ∀ b M', rSi k M b M' → Q (b2i b) M') : wp_Reader_isSign k M Q :=
  ⟨fun c => hQ true _ (Or.inr ⟨c, rfl, rfl⟩), fun c => e_refuse ⟨fun _ => hQ false _ (Or.inl ⟨c, rfl, rfl⟩), fun w => absurd rfl w⟩⟩
theorem xt_sign {k z p0 : Nat} {M : zMem} {Q : Int32 → zMem → Prop} (r : rin k z p0 M) (hQ : ∀ b M', rS k z M b M' → Q (b2i b) M') : wp_Reader_readSign k M Q := by
  refine xt_tkn r (fun b1 M1 r1 => ?_)
  cases b1 with
  | false => exact ⟨fun _ => hQ false M1 ⟨false, M1, r1, Or.inl ⟨rfl, rfl, rfl⟩⟩, fun w => absurd rfl w⟩
  | true =>
    refine ⟨fun w => absurd w (by decide), fun _ => xt_isSign (fun b M' h => ?_)⟩
    have q := hQ b M' ⟨true, M1, r1, Or.inr ⟨rfl, h⟩⟩
    cases b with
    | false => exact ⟨fun _ => q, fun w => absurd rfl w⟩
    | true => exact ⟨fun w => absurd w (by decide), fun _ => q⟩
theorem rN_in {k z p0 : Nat} {lo hi : Int32} {M M' : zMem} (r : rin k z p0 M) (h : rN k z lo hi M true M') : rin k z p0 M' ∧ tkf k M M' ∧ M' k 7 = 2 ∧ ¬ M' k 9 < lo ∧ M' k 9 ≤ hi := by
  obtain ⟨b1, M1, h1, h⟩ := h
  rcases h with ⟨-, h, -⟩ | ⟨rfl, h⟩
  · cases h
  · obtain ⟨r1, f1⟩ := tkn_in r h1
    rcases h with ⟨-, h, -⟩ | ⟨c, h⟩
    · cases h
    · rcases h with ⟨-, h, -⟩ | ⟨c1, c2, -, rfl⟩
      · cases h
      · exact ⟨r1, f1, c, c1, c2⟩
/-- lines -/
def rPi (k z : Nat) (M : zMem) (b : Bool) (M' : zMem) : Prop := ((¬ M k 12 = 0 ∨ ¬ M (k + 1) 0 < 8) ∧ b = false ∧ M' = rfs k 5 M) ∨ (M k 12 = 0 ∧ M (k + 1) 0 < 8 ∧ bnd (rN k z 0 6) (fun M1 => rS k z (zup (zup M1 (k + 3) (ix (M1 (k + 1) 0)) (M1 k 9)) (k + 1) 0 (M1 (k + 1) 0 + 1))) M b M')
theorem xt_piece {k z p0 n : Nat} {M : zMem} {Q : Int32 → zMem → Prop} (r : rin k z p0 M) (hn : M (k + 1) 0 = nI n) (n8 : n ≤ 8) (hQ : ∀ b M', rPi k z M b M' → Q (b2i b) M') : wp_Reader_readPiece k M Q := by
  refine ⟨fun c => e_refuse ⟨zbo_0, hQ false _ (Or.inl ⟨Or.inl c, rfl, rfl⟩)⟩, fun c => ⟨fun d => xt_number r (fun b1 M1 r1 => ?_), fun d => e_refuse ⟨zbo_0, hQ false _ (Or.inl ⟨Or.inr d, rfl, rfl⟩)⟩⟩⟩
  cases b1 with
  | false => exact ⟨fun w => absurd rfl w, fun _ => hQ false M1 (Or.inr ⟨c, d, false, M1, r1, Or.inl ⟨rfl, rfl, rfl⟩⟩)⟩
  | true =>
    obtain ⟨s1, f1, -⟩ := rN_in r r1
    have e0 : M1 (k + 1) 0 = nI n := by rw [f1.1 (k + 1) (by omega)]; exact hn
    refine ⟨fun _ => ⟨by rw [e0]; exact vp_in_nI (by omega) (by omega), fun M2 e2 M3 e3 => ?_⟩, fun w => absurd w (by decide)⟩
    have e3' : M3 = zup (zup M1 (k + 3) (ix (M1 (k + 1) 0)) (M1 k 9)) (k + 1) 0 (M1 (k + 1) 0 + 1) := by
      rw [e3, e2, zup_ne (by omega)]
    have s3 : rin k z p0 M3 := by
      unfold rin
      rw [e3', zup_ne (by omega), zup_ne (by omega)]; exact s1
    refine xt_sign s3 (fun b M' h => ⟨b2i_bo b, hQ b M' (Or.inr ⟨c, d, true, M1, r1, Or.inr ⟨rfl, ?_⟩⟩)⟩)
    rw [e3'] at h; exact h
def rWh (k z : Nat) (M : zMem) (b : Bool) (M' : zMem) : Prop := bnd (rN k z 0 (M (k + 1) 0 - 1)) (fun M1 b M' => ((((M1 (k + 1) 5) >>> ((M1 k 9) &&& 31)) &&& 1) = 1 ∧ b = false ∧ M' = rfs k 4 M1) ∨ (¬ (((M1 (k + 1) 5) >>> ((M1 k 9) &&& 31)) &&& 1) = 1 ∧ rS k z (zup M1 (k + 1) 5 ((M1 (k + 1) 5) ||| (1 <<< ((M1 k 9) &&& 31)))) b M')) M b M'
theorem xt_whole {k z p0 : Nat} {M : zMem} {Q : Int32 → zMem → Prop} (r : rin k z p0 M) (hQ : ∀ b M', rWh k z M b M' → Q (b2i b) M') : wp_Reader_readWhole k M Q := by
  refine xt_number r (fun b1 M1 r1 => ?_)
  cases b1 with
  | false => exact ⟨fun w => absurd rfl w, fun _ => hQ false M1 ⟨false, M1, r1, Or.inl ⟨rfl, rfl, rfl⟩⟩⟩
  | true =>
    obtain ⟨s1, f1, -⟩ := rN_in r r1
    refine ⟨fun _ => ⟨fun c M3 e3 => ?_, fun c => e_refuse ⟨zbo_0, hQ false _ ⟨true, M1, r1, Or.inr ⟨rfl, Or.inl ⟨c, rfl, rfl⟩⟩⟩⟩⟩, fun w => absurd w (by decide)⟩
    have s3 : rin k z p0 M3 := by
      unfold rin
      rw [e3, zup_ne (by omega)]; exact s1
    refine xt_sign s3 (fun b M' h => ⟨b2i_bo b, hQ b M' ⟨true, M1, r1, Or.inr ⟨rfl, Or.inr ⟨c, ?_⟩⟩⟩⟩)
    rw [e3] at h; exact h
/-- m numbers into a cell, from slot i on; then what comes -/
def rNs (k z c : Nat) (lo hi : Int32) (C : zMem → Bool → zMem → Prop) : Nat → Nat → zMem → Bool → zMem → Prop
  | 0, _ => C
  | m + 1, i => bnd (rN k z lo hi) (fun M1 => rNs k z c lo hi C m (i + 1) (zup M1 c i (M1 k 9)))
def rSo (k z n : Nat) (M : zMem) (b : Bool) (M' : zMem) : Prop := bnd (rN k z 1 2) (fun M2 b M' => ((((M2 k 11) >>> ((M2 k 9) &&& 31)) &&& 1) = 1 ∧ b = false ∧ M' = rfs k 4 M2) ∨ (¬ (((M2 k 11) >>> ((M2 k 9) &&& 31)) &&& 1) = 1 ∧ rNs k z (k + 3) 0 6 (rS k z) n (ix (M2 k 9) * 8) (zup M2 k 11 ((M2 k 11) ||| (1 <<< ((M2 k 9) &&& 31)))) b M')) (zup M k 12 1) b M'
theorem xt_sort {k z p0 n : Nat} {M : zMem} {Q : Int32 → zMem → Prop} (r : rin k z p0 M) (hn : M (k + 1) 0 = nI n) (n8 : n ≤ 8) (hQ : ∀ b M', rSo k z n M b M' → Q (b2i b) M') : wp_Reader_readSort k M Q := by
  intro M1 e1
  have s1 : rin k z p0 M1 := by
    unfold rin
    rw [e1, zup_eq, upd_ne (by omega), upd_ne (by omega)]; exact r
  unfold rSo at hQ
  rw [← e1] at hQ
  refine xt_number s1 (fun b1 M2 r1 => ?_)
  cases b1 with
  | false => exact ⟨fun w => absurd rfl w, fun _ => hQ false M2 ⟨false, M2, r1, Or.inl ⟨rfl, rfl, rfl⟩⟩⟩
  | true =>
    obtain ⟨s2, f2, -, lo, hi⟩ := rN_in s1 r1
    refine ⟨fun _ x ex => ?_, fun w => absurd w (by decide)⟩
    subst ex
    refine ⟨fun c M5 e5 => ?_, fun c => e_refuse ⟨zbo_0, hQ false _ ⟨true, M2, r1, Or.inr ⟨rfl, Or.inl ⟨c, rfl, rfl⟩⟩⟩⟩⟩
    obtain ⟨s, hs, es⟩ := nI_of2 (x := M2 k 9) (M := 2) (n := 2) rfl (fun q => lo (Int32.lt_trans q (by decide))) hi
    have e12 : M5 (k + 1) 0 = nI n := by rw [e5, zup_ne (by omega), f2.1 (k + 1) (by omega), e1, zup_ne (by omega)]; exact hn
    have s5 : rin k z p0 M5 := by
      unfold rin
      rw [e5, zup_eq, upd_ne (by omega), upd_ne (by omega)]; exact s2
    have hQ5 : ∀ b M', rNs k z (k + 3) 0 6 (rS k z) n (s * 8) M5 b M' → Q (b2i b) M' := fun b M' h => hQ b M' ⟨true, M2, r1, Or.inr ⟨rfl, Or.inr ⟨c, by rw [es, q_ix (by omega), ← es, ← e5]; exact h⟩⟩⟩
    rw [es]
    refine zlp1_r (fun m x M' => ∃ i, x = nI i ∧ i ≤ n ∧ m = n - i ∧ rin k z p0 M' ∧ M' (k + 1) 0 = nI n ∧ ∀ b M'', rNs k z (k + 3) 0 6 (rS k z) (n - i) (s * 8 + i) M' b M'' → Q (b2i b) M'') ?_ (n := n) ⟨0, rfl, by omega, rfl, s5, e12, hQ5⟩
    rintro m x M' ⟨i, rfl, hi, rfl, ri, rn, rQ⟩ J hJ
    unfold wpB_Reader_readSort_57
    rw [rn]
    refine ⟨fun c => ?_, fun c => ?_⟩
    · have := (nI_leI (by omega) (by omega)).mp c
      rw [show n - i = 0 by omega] at rQ
      exact xt_sign ri (fun b M'' h => ⟨b2i_bo b, rQ b M'' h⟩)
    · have hi2 : i < n := (nI_ltI (by omega) (by omega)).mp (Int32.not_le.mp c)
      obtain ⟨m, em⟩ : ∃ m, n - i = m + 1 := ⟨n - i - 1, by omega⟩
      rw [em] at rQ
      refine xt_number ri (fun b1 M8 r8 => ?_)
      cases b1 with
      | false => exact ⟨fun w => absurd rfl w, fun _ => rQ false M8 ⟨false, M8, r8, Or.inl ⟨rfl, rfl, rfl⟩⟩⟩
      | true =>
        obtain ⟨s8, f8, -⟩ := rN_in ri r8
        have e8 : nI s * 8 + nI i = nI (s * 8 + i) := by rw [show (8 : Int32) = nI 8 from rfl, q_mul, q_add]
        rw [e8, q_ix (by omega)]
        refine ⟨fun _ => ⟨vp_in_nI (by omega) (by omega), fun Ma ea y ey => ?_⟩, fun w => absurd w (by decide)⟩
        rw [ey, nI_1]
        refine hJ (n - (i + 1)) _ _ (by omega) ⟨i + 1, rfl, by omega, rfl, ?_, ?_, fun b M'' h => rQ b M'' ⟨true, M8, r8, Or.inr ⟨rfl, ?_⟩⟩⟩
        · unfold rin
          rw [ea, zup_ne (by omega)]; exact s8
        · rw [ea, zup_ne (by omega), f8.1 (k + 1) (by omega)]; exact rn
        · show rNs k z (k + 3) 0 6 (rS k z) m (s * 8 + i + 1) (zup M8 (k + 3) (s * 8 + i) (M8 k 9)) b M''
          rw [← ea, show m = n - (i + 1) by omega]; exact h
def rHa (k z n H : Nat) (M : zMem) (b : Bool) (M' : zMem) : Prop := ((¬ M k 13 = 0 ∨ ¬ M (k + 1) 1 < 5) ∧ b = false ∧ M' = rfs k 5 M) ∨ (M k 13 = 0 ∧ M (k + 1) 1 < 5 ∧ rNs k z (k + 4) 1 9 (fun M1 => rS k z (zup M1 (k + 1) 1 (M1 (k + 1) 1 + 1))) n (H * 8) (zup M k 12 1) b M')
theorem xt_handL {k z p0 n H : Nat} {M : zMem} {Q : Int32 → zMem → Prop} (r : rin k z p0 M) (hn : M (k + 1) 0 = nI n) (n8 : n ≤ 8) (hH : M (k + 1) 1 = nI H) (H5 : H ≤ 5) (hQ : ∀ b M', rHa k z n H M b M' → Q (b2i b) M') : wp_Reader_readHand k M Q := by
  refine ⟨fun c => e_refuse ⟨zbo_0, hQ false _ (Or.inl ⟨Or.inl c, rfl, rfl⟩)⟩, fun c => ⟨fun d M3 e3 => ?_, fun d => e_refuse ⟨zbo_0, hQ false _ (Or.inl ⟨Or.inr d, rfl, rfl⟩)⟩⟩⟩
  have hH2 : H < 5 := by
    rw [hH] at d
    exact (nI_ltI (b := 5) (by omega) (by omega)).mp d
  have s3 : rin k z p0 M3 := by
    unfold rin
    rw [e3, zup_eq, upd_ne (by omega), upd_ne (by omega)]; exact r
  have hQ3 : ∀ b M', rNs k z (k + 4) 1 9 (fun M1 => rS k z (zup M1 (k + 1) 1 (M1 (k + 1) 1 + 1))) n (H * 8) M3 b M' → Q (b2i b) M' := fun b M' h => hQ b M' (Or.inr ⟨c, d, by rw [← e3]; exact h⟩)
  have a3 : M3 (k + 1) = M (k + 1) := by rw [e3, zup_ne (by omega)]
  refine zlp1_r (fun m x M' => ∃ i, x = nI i ∧ i ≤ n ∧ m = n - i ∧ rin k z p0 M' ∧ M' (k + 1) 0 = nI n ∧ M' (k + 1) 1 = nI H ∧ ∀ b M'', rNs k z (k + 4) 1 9 (fun M1 => rS k z (zup M1 (k + 1) 1 (M1 (k + 1) 1 + 1))) (n - i) (H * 8 + i) M' b M'' → Q (b2i b) M'') ?_ (n := n) ⟨0, rfl, by omega, rfl, s3, by rw [a3]; exact hn, by rw [a3]; exact hH, hQ3⟩
  rintro m x M' ⟨i, rfl, hi, rfl, ri, rn, rH, rQ⟩ J hJ
  unfold wpB_Reader_readHand_35
  rw [rn]
  refine ⟨fun c M4 e4 => ?_, fun c => ?_⟩
  · have := (nI_leI (by omega) (by omega)).mp c
    rw [show n - i = 0 by omega] at rQ
    have s4 : rin k z p0 M4 := by
      unfold rin
      rw [e4, zup_ne (by omega)]; exact ri
    exact xt_sign s4 (fun b M'' h => ⟨b2i_bo b, rQ b M'' (by rw [e4] at h; exact h)⟩)
  · have hi2 : i < n := (nI_ltI (by omega) (by omega)).mp (Int32.not_le.mp c)
    obtain ⟨m, em⟩ : ∃ m, n - i = m + 1 := ⟨n - i - 1, by omega⟩
    rw [em] at rQ
    refine xt_number ri (fun b1 M8 r8 => ?_)
    cases b1 with
    | false => exact ⟨fun w => absurd rfl w, fun _ => rQ false M8 ⟨false, M8, r8, Or.inl ⟨rfl, rfl, rfl⟩⟩⟩
    | true =>
      obtain ⟨s8, f8, -⟩ := rN_in ri r8
      have e1 : M8 (k + 1) 1 = nI H := by rw [f8.1 (k + 1) (by omega)]; exact rH
      have e8 : M8 (k + 1) 1 * 8 + nI i = nI (H * 8 + i) := by rw [e1, show (8 : Int32) = nI 8 from rfl, q_mul, q_add]
      rw [e8, q_ix (by omega)]
      refine ⟨fun _ => ⟨vp_in_nI (by omega) (by omega), fun Ma ea y ey => ?_⟩, fun w => absurd w (by decide)⟩
      rw [ey, nI_1]
      refine hJ (n - (i + 1)) _ _ (by omega) ⟨i + 1, rfl, by omega, rfl, ?_, ?_, ?_, fun b M'' h => rQ b M'' ⟨true, M8, r8, Or.inr ⟨rfl, ?_⟩⟩⟩
      · unfold rin
        rw [ea, zup_ne (by omega)]; exact s8
      · rw [ea, zup_ne (by omega), f8.1 (k + 1) (by omega)]; exact rn
      · rw [ea, zup_ne (by omega)]; exact e1
      · show rNs k z (k + 4) 1 9 (fun M1 => rS k z (zup M1 (k + 1) 1 (M1 (k + 1) 1 + 1))) m (H * 8 + i + 1) (zup M8 (k + 4) (H * 8 + i) (M8 k 9)) b M''
        rw [← ea, show m = n - (i + 1) by omega]; exact h
/-- walk, learn: one number into slot j of what is told -/
def rOn (k z j : Nat) (hi : Int32) : zMem → Bool → zMem → Prop := bnd (rN k z 0 hi) (fun M1 => rS k z (zup M1 (k + 1) j (M1 k 9)))
theorem xt_walk {k z p0 : Nat} {M : zMem} {Q : Int32 → zMem → Prop} (r : rin k z p0 M) (hQ : ∀ b M', rOn k z 2 5 M b M' → Q (b2i b) M') : wp_Reader_readWalk k M Q := by
  refine xt_number r (fun b1 M1 r1 => ?_)
  cases b1 with
  | false => exact ⟨fun w => absurd rfl w, fun _ => hQ false M1 ⟨false, M1, r1, Or.inl ⟨rfl, rfl, rfl⟩⟩⟩
  | true =>
    obtain ⟨s1, f1, -⟩ := rN_in r r1
    refine ⟨fun _ M3 e3 => ?_, fun w => absurd w (by decide)⟩
    have s3 : rin k z p0 M3 := by
      unfold rin
      rw [e3, zup_ne (by omega)]; exact s1
    exact xt_sign s3 (fun b M' h => ⟨b2i_bo b, hQ b M' ⟨true, M1, r1, Or.inr ⟨rfl, by rw [e3] at h; exact h⟩⟩⟩)
theorem xt_learn {k z p0 : Nat} {M : zMem} {Q : Int32 → zMem → Prop} (r : rin k z p0 M) (hQ : ∀ b M', rOn k z 3 99 M b M' → Q (b2i b) M') : wp_Reader_readLearn k M Q := by
  refine xt_number r (fun b1 M1 r1 => ?_)
  cases b1 with
  | false => exact ⟨fun w => absurd rfl w, fun _ => hQ false M1 ⟨false, M1, r1, Or.inl ⟨rfl, rfl, rfl⟩⟩⟩
  | true =>
    obtain ⟨s1, f1, -⟩ := rN_in r r1
    refine ⟨fun _ M3 e3 => ?_, fun w => absurd w (by decide)⟩
    have s3 : rin k z p0 M3 := by
      unfold rin
      rw [e3, zup_ne (by omega)]; exact s1
    exact xt_sign s3 (fun b M' h => ⟨b2i_bo b, hQ b M' ⟨true, M1, r1, Or.inr ⟨rfl, by rw [e3] at h; exact h⟩⟩⟩)
/-- once -/
def rOc (k : Nat) (a : Int32) (M : zMem) (b : Bool) (M' : zMem) : Prop := ((((M k 10) >>> (a &&& 31)) &&& 1) = 1 ∧ b = false ∧ M' = rfs k 4 M) ∨ (¬ (((M k 10) >>> (a &&& 31)) &&& 1) = 1 ∧ b = true ∧ M' = zup M k 10 ((M k 10) ||| (1 <<< (a &&& 31))))
theorem xt_once {k : Nat} {a : Int32} {M : zMem} {Q : Int32 → zMem → Prop} (hQ : ∀ b M', rOc k a M b M' → Q (b2i b) M') : wp_Reader_readOnce k a M Q := by
  refine ⟨fun c M1 e1 => ?_, fun c => e_refuse ⟨zbo_0, hQ false _ (Or.inl ⟨c, rfl, rfl⟩)⟩⟩
  rw [e1]
  exact hQ true _ (Or.inr ⟨c, rfl, rfl⟩)
theorem rOc_in {k z p0 : Nat} {a : Int32} {M M' : zMem} (r : rin k z p0 M) (h : rOc k a M true M') : rin k z p0 M' ∧ M' = zup M k 10 ((M k 10) ||| (1 <<< (a &&& 31))) := by
  rcases h with ⟨-, h, -⟩ | ⟨-, -, e⟩
  · cases h
  · refine ⟨?_, e⟩
    unfold rin
    rw [e, zup_eq, upd_ne (by omega), upd_ne (by omega)]; exact r
/-- what stands behind the first number of a row -/
def rRl (k z : Nat) : Nat → Nat → zMem → Bool → zMem → Prop
  | 0, _ => fun M b M' => (M k 7 = 2 ∧ b = false ∧ M' = rfs k 5 M) ∨ (¬ M k 7 = 2 ∧ rSi k M b M')
  | m + 1, i => fun M b M' => (¬ M k 7 = 2 ∧ rSi k M b M') ∨ (M k 7 = 2 ∧ bnd (rWi k 0 2) (fun M1 => bnd (tkn k z) (rRl k z m (i + 1)) (zup (zup M1 (k + 2) i (M1 k 9)) (k + 1) 6 (nI (i + 1)))) M b M')
def rRo (k z : Nat) : zMem → Bool → zMem → Prop := bnd (rN k z 0 2) (fun M1 => bnd (tkn k z) (rRl k z 5 1) (zup M1 (k + 2) 0 (M1 k 9)))
theorem xt_row {k z p0 : Nat} {M : zMem} {Q : Int32 → zMem → Prop} (r : rin k z p0 M) (hQ : ∀ b M', rRo k z M b M' → Q (b2i b) M') : wp_Reader_readRow k M Q := by
  refine xt_number r (fun b1 M1 r1 => ?_)
  cases b1 with
  | false => exact ⟨fun w => absurd rfl w, fun _ => hQ false M1 ⟨false, M1, r1, Or.inl ⟨rfl, rfl, rfl⟩⟩⟩
  | true =>
    obtain ⟨s1, f1, -⟩ := rN_in r r1
    refine ⟨fun _ => ⟨vp_in_nI (n := 0) (by omega) (by omega), fun M3 e3 => ?_⟩, fun w => absurd w (by decide)⟩
    have e3' : M3 = zup M1 (k + 2) 0 (M1 k 9) := e3
    have s3 : rin k z p0 M3 := by
      unfold rin
      rw [e3', zup_ne (by omega)]; exact s1
    have hQ3 : ∀ b M', bnd (tkn k z) (rRl k z 5 1) M3 b M' → Q (b2i b) M' := fun b M' h => hQ b M' ⟨true, M1, r1, Or.inr ⟨rfl, by
      show bnd (tkn k z) (rRl k z 5 1) (zup M1 (k + 2) 0 (M1 k 9)) b M'
      rw [← e3']; exact h⟩⟩
    refine xt_tkn s3 (fun b4 M4 r4 => ?_)
    have fin : ∀ (M' : zMem), (∀ b M'', rSi k M' b M'' → Q (b2i b) M'') → wp_Reader_isSign k M' (fun zr18 zm17 => (zr18 = 0 → Q 0 zm17) ∧ (¬ zr18 = 0 → Q 1 zm17)) := fun M' h => xt_isSign (fun b M'' hs => by
      have q := h b M'' hs
      cases b with
      | false => exact ⟨fun _ => q, fun w => absurd rfl w⟩
      | true => exact ⟨fun w => absurd w (by decide), fun _ => q⟩)
    refine zlp2_r (fun m x1 x2 M' => ∃ i, x2 = nI i ∧ 1 ≤ i ∧ i ≤ 6 ∧ m = 6 - i ∧ ((x1 = 0 ∧ Q 0 M') ∨ (x1 = 1 ∧ rin k z p0 M' ∧ ∀ b M'', rRl k z (6 - i) i M' b M'' → Q (b2i b) M''))) ?_ (n := 5) ⟨1, rfl, by omega, by omega, rfl, ?_⟩
    · rintro m x1 x2 M' ⟨i, rfl, hi1, hi, rfl, hc⟩ J hJ
      unfold wpB_Reader_readRow_31 wpJ_Reader_readRow_94
      rcases hc with ⟨rfl, hq⟩ | ⟨rfl, ri, rQ⟩
      · exact ⟨fun _ => ⟨fun _ => ⟨fun _ => hq, fun w => absurd rfl w⟩, fun w => absurd rfl w⟩, fun _ => ⟨fun _ => ⟨fun _ => ⟨fun _ => hq, fun w => absurd rfl w⟩, fun w => absurd rfl w⟩, fun w => absurd rfl w⟩⟩
      · refine ⟨fun c => ⟨fun w => absurd w (by decide), fun _ => ?_⟩, fun c => ⟨fun w => absurd w (by decide), fun _ => ⟨fun d => ⟨fun w => absurd w (by decide), fun _ => ⟨fun _ => ⟨fun w => absurd w (by decide), fun _ => fin M' (fun b M'' h => ?_)⟩, fun w => absurd w d⟩⟩, fun d => ?_⟩⟩⟩
        · have := (nI_leI (a := 6) (by omega) (by omega)).mp c
          rw [show 6 - i = 0 by omega] at rQ
          exact ⟨fun d => ⟨fun w => absurd w (by decide), fun _ => fin M' (fun b M'' h => rQ b M'' (Or.inr ⟨d, h⟩))⟩, fun d => e_refuse ⟨zbo_0, rQ false _ (Or.inl ⟨d, rfl, rfl⟩)⟩⟩
        · rcases Nat.lt_or_ge i 6 with u | u
          · obtain ⟨m, em⟩ : ∃ m, 6 - i = m + 1 := ⟨6 - i - 1, by omega⟩
            rw [em] at rQ
            exact rQ b M'' (Or.inl ⟨d, h⟩)
          · exact absurd ((nI_leI (a := 6) (by omega) (by omega)).mpr u) c
        · have hi6 : i < 6 := (nI_ltI (b := 6) (by omega) (by omega)).mp (Int32.not_le.mp c)
          obtain ⟨m, em⟩ : ∃ m, 6 - i = m + 1 := ⟨6 - i - 1, by omega⟩
          rw [em] at rQ
          refine xt_within (fun b6 M6 r6 => ?_)
          cases b6 with
          | false => exact ⟨fun w => absurd rfl w, fun _ => rQ false M6 (Or.inr ⟨d, false, M6, r6, Or.inl ⟨rfl, rfl, rfl⟩⟩)⟩
          | true =>
            have e6 : M6 = M' := by
              rcases r6 with ⟨-, h, -⟩ | ⟨-, -, -, h⟩
              · cases h
              · exact h
            rw [q_ix (by omega)]
            refine ⟨fun _ => ⟨vp_in_nI (by omega) (by omega), fun M8 e8 M9 e9 => ?_⟩, fun w => absurd w (by decide)⟩
            rw [nI_1] at e9
            have e9' : M9 = zup (zup M6 (k + 2) i (M6 k 9)) (k + 1) 6 (nI (i + 1)) := by rw [e9, e8]
            have s9 : rin k z p0 M9 := by
              unfold rin
              rw [e9', zup_ne (by omega), zup_ne (by omega), e6]; exact ri
            refine xt_tkn s9 (fun b10 M10 r10 y ey => ?_)
            rw [ey, nI_1]
            refine hJ (6 - (i + 1)) _ _ _ (by omega) ⟨i + 1, rfl, by omega, by omega, rfl, ?_⟩
            cases b10 with
            | false => exact Or.inl ⟨rfl, rQ false M10 (Or.inr ⟨d, true, M6, r6, Or.inr ⟨rfl, by dsimp only; rw [← e9']; exact ⟨false, M10, r10, Or.inl ⟨rfl, rfl, rfl⟩⟩⟩⟩)⟩
            | true => exact Or.inr ⟨rfl, (tkn_in s9 r10).1, fun b M'' h => rQ b M'' (Or.inr ⟨d, true, M6, r6, Or.inr ⟨rfl, by dsimp only; rw [← e9']; exact ⟨true, M10, r10, Or.inr ⟨rfl, by rw [show m = 6 - (i + 1) by omega]; exact h⟩⟩⟩⟩)⟩
    · cases b4 with
      | false => exact Or.inl ⟨rfl, hQ3 false M4 ⟨false, M4, r4, Or.inl ⟨rfl, rfl, rfl⟩⟩⟩
      | true => exact Or.inr ⟨rfl, (tkn_in s3 r4).1, fun b M'' h => hQ3 b M'' ⟨true, M4, r4, Or.inr ⟨rfl, h⟩⟩⟩
/-- ends -/
def rEn (k z n : Nat) : Nat → Nat → Int32 → zMem → Bool → zMem → Prop
  | 0, _, _ => rS k z
  | m + 1, h, lo => bnd (rN k z lo (nI n)) (fun M1 => rEn k z n m (h + 1) (M1 k 9) (zup M1 (k + 5) h (M1 k 9)))
def rEs (k z n H : Nat) (rule : Int32) (M : zMem) (b : Bool) (M' : zMem) : Prop := rEn k z n (H - 1) 0 1 (zup (zup (zup M k 12 1) k 13 1) (k + 1) 4 rule) b M'
theorem xt_ends {k z p0 n H : Nat} {rule : Int32} {M : zMem} {Q : Int32 → zMem → Prop} (r : rin k z p0 M) (hn : M (k + 1) 0 = nI n) (n8 : n ≤ 8) (hH : M (k + 1) 1 = nI H) (H5 : H ≤ 5) (hQ : ∀ b M', rEs k z n H rule M b M' → Q (b2i b) M') : wp_Reader_readEnds k rule M Q := by
  intro M1 e1 M2 e2 M3 e3
  have e3' : M3 = zup (zup (zup M k 12 1) k 13 1) (k + 1) 4 rule := by rw [e3, e2, e1]
  have s3 : rin k z p0 M3 := by
    unfold rin
    rw [e3', zup_ne (by omega), zup_eq, upd_ne (by omega), upd_ne (by omega), zup_eq, upd_ne (by omega), upd_ne (by omega)]; exact r
  have n3 : M3 (k + 1) 0 = nI n := by rw [e3', zup_eq, upd_ne (by omega), zup_ne (by omega), zup_ne (by omega)]; exact hn
  have H3 : M3 (k + 1) 1 = nI H := by rw [e3', zup_eq, upd_ne (by omega), zup_ne (by omega), zup_ne (by omega)]; exact hH
  have hQ3 : ∀ b M', rEn k z n (H - 1) 0 1 M3 b M' → Q (b2i b) M' := fun b M' h => hQ b M' (by unfold rEs; rw [← e3']; exact h)
  refine zlp2_r (fun m x2 x3 M' => ∃ i, x3 = nI i ∧ i ≤ H ∧ m = H - i ∧ rin k z p0 M' ∧ M' (k + 1) 0 = nI n ∧ M' (k + 1) 1 = nI H ∧ ∀ b M'', rEn k z n (H - 1 - i) i x2 M' b M'' → Q (b2i b) M'') ?_ (n := H) ⟨0, rfl, by omega, rfl, s3, n3, H3, hQ3⟩
  rintro m x2 x3 M' ⟨i, rfl, hi, rfl, ri, rn, rH, rQ⟩ J hJ
  unfold wpB_Reader_readEnds_22
  rw [rn, rH]
  refine ⟨fun c => ?_, fun c => ?_⟩
  · have : H - 1 ≤ i := by
      rcases Nat.eq_zero_or_pos H with h0 | h0
      · omega
      · have e : nI H - 1 = nI (H - 1) := q_sub h0
        rw [e] at c
        exact (nI_leI (by omega) (by omega)).mp c
    rw [show H - 1 - i = 0 by omega] at rQ
    exact xt_sign ri (fun b M'' h => ⟨b2i_bo b, rQ b M'' h⟩)
  · have hi2 : i < H - 1 := by
      rcases Nat.eq_zero_or_pos H with h0 | h0
      · subst h0
        exact absurd (show nI 0 - 1 ≤ nI i from Int32.le_trans (show nI 0 - 1 ≤ 0 by decide) (nI_pos' (by omega))) c
      · have e : nI H - 1 = nI (H - 1) := q_sub h0
        rw [e] at c
        exact (nI_ltI (by omega) (by omega)).mp (Int32.not_le.mp c)
    obtain ⟨m, em⟩ : ∃ m, H - 1 - i = m + 1 := ⟨H - 1 - i - 1, by omega⟩
    rw [em] at rQ
    refine xt_number ri (fun b1 M8 r8 => ?_)
    cases b1 with
    | false => exact ⟨fun w => absurd rfl w, fun _ => rQ false M8 ⟨false, M8, r8, Or.inl ⟨rfl, rfl, rfl⟩⟩⟩
    | true =>
      obtain ⟨s8, f8, -⟩ := rN_in ri r8
      rw [q_ix (by omega)]
      refine ⟨fun _ x8 ex8 => ⟨vp_in_nI (by omega) (by omega), fun Ma ea y ey => ?_⟩, fun w => absurd w (by decide)⟩
      rw [ey, nI_1]
      refine hJ (H - (i + 1)) _ _ _ (by omega) ⟨i + 1, rfl, by omega, rfl, ?_, ?_, ?_, fun b M'' h => rQ b M'' ⟨true, M8, r8, Or.inr ⟨rfl, ?_⟩⟩⟩
      · unfold rin
        rw [ea, zup_ne (by omega)]; exact s8
      · rw [ea, zup_ne (by omega), f8.1 (k + 1) (by omega)]; exact rn
      · rw [ea, zup_ne (by omega), f8.1 (k + 1) (by omega)]; exact rH
      · show rEn k z n m (i + 1) (M8 k 9) (zup M8 (k + 5) i (M8 k 9)) b M''
        rw [← ea, show m = H - 1 - (i + 1) by omega, ← ex8]; exact h
/-- a line, its name read -/
def rLn (k z n H : Nat) (nm : Nat) : zMem → Bool → zMem → Prop := match nm with
  | 0 => rPi k z
  | 1 => rWh k z
  | 2 => rSo k z n
  | 3 => bnd (rOc k 3) (rRo k z)
  | 4 => rHa k z n H
  | 5 => bnd (rOc k 5) (rOn k z 2 5)
  | 6 => bnd (rOc k 6) (rOn k z 3 99)
  | 7 => bnd (rOc k 7) (rS k z)
  | 8 => bnd (rOc k 7) (rEs k z n H 1)
  | _ => bnd (rOc k 7) (rEs k z n H 2)
def rLi (k z n H : Nat) (M : zMem) (b : Bool) (M' : zMem) : Prop := (¬ M k 7 = 1 ∧ b = false ∧ M' = rfs k 2 M) ∨ (M k 7 = 1 ∧ ∃ nm, nm < 10 ∧ M k 9 = nI nm ∧ rLn k z n H nm (zup M k 3 (M k 3 + 1)) b M')
theorem xt_2 {k z p0 : Nat} {a : Int32} {M : zMem} {A : zMem → Bool → zMem → Prop} {X : zMem → (Int32 → zMem → Prop) → Prop} {Q : Int32 → zMem → Prop} (r : rin k z p0 M) (hX : ∀ M1 (Q1 : Int32 → zMem → Prop), rin k z p0 M1 → M1 (k + 1) = M (k + 1) → (∀ b M', A M1 b M' → Q1 (b2i b) M') → X M1 Q1) (hQ : ∀ b M', bnd (rOc k a) A M b M' → Q (b2i b) M') : wp_Reader_readOnce k a M (fun zr10 zm9 => (zr10 = 0 → Q 0 zm9) ∧ (¬ zr10 = 0 → X zm9 (fun zr12 zm11 => (zr12 = 0 → Q 0 zm11) ∧ (¬ zr12 = 0 → Q 1 zm11)))) := by
  refine xt_once (fun b1 M1 r1 => ?_)
  cases b1 with
  | false => exact ⟨fun _ => hQ false M1 ⟨false, M1, r1, Or.inl ⟨rfl, rfl, rfl⟩⟩, fun w => absurd rfl w⟩
  | true =>
    obtain ⟨s1, e1⟩ := rOc_in r r1
    refine ⟨fun w => absurd w (by decide), fun _ => hX M1 _ s1 (by rw [e1, zup_ne (by omega)]) (fun b M' h => ?_)⟩
    have q := hQ b M' ⟨true, M1, r1, Or.inr ⟨rfl, h⟩⟩
    cases b with
    | false => exact ⟨fun _ => q, fun w => absurd rfl w⟩
    | true => exact ⟨fun w => absurd w (by decide), fun _ => q⟩
theorem xt_line {k z p0 n H nm : Nat} {M : zMem} {Q : Int32 → zMem → Prop} (r : rin k z p0 M) (hn : M (k + 1) 0 = nI n) (n8 : n ≤ 8) (hH : M (k + 1) 1 = nI H) (H5 : H ≤ 5) (h7 : M k 7 = 1 → nm < 10 ∧ M k 9 = nI nm) (hQ : ∀ b M', rLi k z n H M b M' → Q (b2i b) M') : wp_Reader_readLine k M Q := by
  refine ⟨fun c M1 e1 x ex => ?_, fun c => e_refuse ⟨zbo_0, hQ false _ (Or.inl ⟨c, rfl, rfl⟩)⟩⟩
  obtain ⟨hnm, e9⟩ := h7 c
  have s1 : rin k z p0 M1 := by
    unfold rin
    rw [e1, zup_eq, upd_ne (by omega), upd_ne (by omega)]; exact r
  have n1 : M1 (k + 1) 0 = nI n := by rw [e1, zup_ne (by omega)]; exact hn
  have H1 : M1 (k + 1) 1 = nI H := by rw [e1, zup_ne (by omega)]; exact hH
  have e91 : M1 k 9 = nI nm := by rw [e1, zup_eq, upd_ne (by omega)]; exact e9
  rw [e91] at ex
  have hQ1 : ∀ b M', rLn k z n H nm M1 b M' → Q (b2i b) M' := fun b M' h => hQ b M' (Or.inr ⟨c, nm, hnm, e9, by rw [← e1]; exact h⟩)
  have ne : ∀ j, j < 10 → x = nI j → nm = j := fun j hj w => (nI_eq (by omega) (by omega)).mp (ex.symm.trans w)
  refine ⟨fun w => ?_, fun w => ?_, fun w => ?_, fun w => ?_, fun w => ?_, fun w => ?_, fun w => ?_, fun w => ?_, fun w => ?_, fun w => ?_, fun w0 w1 w2 w3 w4 w5 w6 w7 w8 w9 => ?_⟩
  · have := ne 0 (by omega) w
    subst this
    exact xt_piece s1 n1 n8 (fun b M' h => ⟨b2i_bo b, hQ1 b M' h⟩)
  · have := ne 1 (by omega) w
    subst this
    exact xt_whole s1 (fun b M' h => ⟨b2i_bo b, hQ1 b M' h⟩)
  · have := ne 2 (by omega) w
    subst this
    exact xt_sort s1 n1 n8 (fun b M' h => ⟨b2i_bo b, hQ1 b M' h⟩)
  · have := ne 3 (by omega) w
    subst this
    exact xt_2 (X := wp_Reader_readRow k) s1 (fun M2 Q1 s2 _ h => xt_row s2 h) hQ1
  · have := ne 4 (by omega) w
    subst this
    exact xt_handL s1 n1 n8 H1 H5 (fun b M' h => ⟨b2i_bo b, hQ1 b M' h⟩)
  · have := ne 5 (by omega) w
    subst this
    exact xt_2 (X := wp_Reader_readWalk k) s1 (fun M2 Q1 s2 _ h => xt_walk s2 h) hQ1
  · have := ne 6 (by omega) w
    subst this
    exact xt_2 (X := wp_Reader_readLearn k) s1 (fun M2 Q1 s2 _ h => xt_learn s2 h) hQ1
  · have := ne 7 (by omega) w
    subst this
    exact xt_2 (X := wp_Reader_readSign k) s1 (fun M2 Q1 s2 _ h => xt_sign s2 h) hQ1
  · have := ne 8 (by omega) w
    subst this
    exact xt_2 (X := wp_Reader_readEnds k 1) s1 (fun M2 Q1 s2 e2 h => xt_ends s2 (by rw [e2]; exact n1) n8 (by rw [e2]; exact H1) H5 h) hQ1
  · have := ne 9 (by omega) w
    subst this
    exact xt_2 (X := wp_Reader_readEnds k 2) s1 (fun M2 Q1 s2 e2 h => xt_ends s2 (by rw [e2]; exact n1) n8 (by rw [e2]; exact H1) H5 h) hQ1
  · rcases (show nm = 0 ∨ nm = 1 ∨ nm = 2 ∨ nm = 3 ∨ nm = 4 ∨ nm = 5 ∨ nm = 6 ∨ nm = 7 ∨ nm = 8 ∨ nm = 9 by omega) with rfl | rfl | rfl | rfl | rfl | rfl | rfl | rfl | rfl | rfl
    · exact absurd ex w0
    · exact absurd ex w1
    · exact absurd ex w2
    · exact absurd ex w3
    · exact absurd ex w4
    · exact absurd ex w5
    · exact absurd ex w6
    · exact absurd ex w7
    · exact absurd ex w8
    · exact absurd ex w9
def stb (t1 t2 : Bool) : Nat := (if t1 = true then 2 else 0) + (if t2 = true then 4 else 0)
/-- what has been told so far is well: n pieces, H hands, L in the row, sorts 1 and 2 told -/
def DW (k : Nat) (M : zMem) (n H L : Nat) (t1 t2 : Bool) : Prop :=
  (n ≤ 8 ∧ H ≤ 5 ∧ 1 ≤ L ∧ L ≤ 6) ∧ M (k + 1) 0 = nI n ∧ M (k + 1) 1 = nI H ∧ M (k + 1) 6 = nI L ∧ (∃ a, a ≤ 5 ∧ M (k + 1) 2 = nI a) ∧ (∃ a, a ≤ 99 ∧ M (k + 1) 3 = nI a) ∧ (∃ a, a ≤ 2 ∧ M (k + 1) 4 = nI a) ∧ (∃ a, a < 256 ∧ M (k + 1) 5 = nI a) ∧
  (∀ i, i < L → ∃ s, s < 3 ∧ M (k + 2) i = nI s) ∧ (∀ s p, (s = 0 ∨ (s = 1 ∧ t1 = true) ∨ (s = 2 ∧ t2 = true)) → p < n → ∃ u, u ≤ 6 ∧ M (k + 3) (s * 8 + p) = nI u) ∧ (∀ h p, h < H → p < n → ∃ c, 1 ≤ c ∧ c ≤ 9 ∧ M (k + 4) (h * 8 + p) = nI c) ∧ (¬ M (k + 1) 4 = 0 → ∀ h, h + 1 < H → ∃ e, 1 ≤ e ∧ e ≤ n ∧ M (k + 5) h = nI e) ∧
  M k 11 = nI (stb t1 t2) ∧ (M k 12 = 0 → t1 = false ∧ t2 = false ∧ H = 0 ∧ M k 13 = 0) ∧ (¬ M k 12 = 0 → t1 = true ∨ t2 = true ∨ 0 < H ∨ ¬ M k 13 = 0) ∧ (M k 13 = 0 → M (k + 1) 4 = 0)
theorem DW.mv {k n H L : Nat} {t1 t2 : Bool} {M M' : zMem} (h : DW k M n H L t1 t2) (e : ∀ i, 1 ≤ i → i ≤ 5 → M' (k + i) = M (k + i)) (e2 : ∀ j, 11 ≤ j → j ≤ 13 → M' k j = M k j) : DW k M' n H L t1 t2 := by
  unfold DW at h ⊢
  rw [e 1 (by omega) (by omega), e 2 (by omega) (by omega), e 3 (by omega) (by omega), e 4 (by omega) (by omega), e 5 (by omega) (by omega), e2 11 (by omega) (by omega), e2 12 (by omega) (by omega), e2 13 (by omega) (by omega)]
  exact h
theorem DW.tk {k n H L : Nat} {t1 t2 : Bool} {M M' : zMem} (h : DW k M n H L t1 t2) (f : tkf k M M') : DW k M' n H L t1 t2 := h.mv (fun i h1 _ => f.1 _ (by omega)) (fun j h1 h2 => f.2 j (by omega) (by omega) (by omega) (by omega))
theorem rS_in {k z p0 : Nat} {M M' : zMem} (r : rin k z p0 M) (h : rS k z M true M') : rin k z p0 M' ∧ tkf k M M' := by
  obtain ⟨b1, M1, h1, h⟩ := h
  rcases h with ⟨-, h, -⟩ | ⟨rfl, h⟩
  · cases h
  · obtain ⟨r1, f1⟩ := tkn_in r h1
    rcases h with ⟨-, h, -⟩ | ⟨-, -, rfl⟩
    · cases h
    · exact ⟨r1, f1⟩
theorem bnd_t {A B : zMem → Bool → zMem → Prop} {M M' : zMem} (h : bnd A B M true M') : ∃ M1, A M true M1 ∧ B M1 true M' := by
  obtain ⟨b1, M1, h1, h⟩ := h
  rcases h with ⟨-, h, -⟩ | ⟨rfl, h⟩
  · cases h
  · exact ⟨M1, h1, h⟩
theorem rin_mv {k z p0 : Nat} {M M' : zMem} (r : rin k z p0 M) (e5 : M' k 5 = M k 5) (e6 : M' k 6 = M k 6) : rin k z p0 M' := by
  unfold rin at r ⊢
  rw [e5, e6]; exact r
theorem DW_piece {k z p0 n H L : Nat} {t1 t2 : Bool} {M M' : zMem} (r : rin k z p0 M) (d : DW k M n H L t1 t2) (h : rPi k z M true M') : rin k z p0 M' ∧ DW k M' (n + 1) H L t1 t2 := by
  rcases h with ⟨-, h, -⟩ | ⟨c12, cn, h⟩
  · cases h
  obtain ⟨M1, r1, h⟩ := bnd_t h
  obtain ⟨s1, f1, -, lo, hi⟩ := rN_in r r1
  obtain ⟨v, hv, ev⟩ := nI_of2 (x := M1 k 9) (M := 6) (n := 6) rfl lo hi
  have d1 := d.tk f1
  have c1 : M1 k 12 = 0 := by rw [f1.2 12 (by omega) (by omega) (by omega) (by omega)]; exact c12
  obtain ⟨⟨b1, b2, b3, b4⟩, en, eH, eL, w2, w3, w4, w5, hr, hu, hp, he, es, k12, k12', k4⟩ := d1
  obtain ⟨q1, q2, q3, q4⟩ := k12 c1
  have n8 : n < 8 := by
    rw [(show M (k + 1) 0 = nI n from d.2.1)] at cn
    exact (nI_ltI (b := 8) (by omega) (by omega)).mp cn
  rw [en, q_ix (by omega), ev, nI_1] at h
  generalize hX : zup (zup M1 (k + 3) n (nI v)) (k + 1) 0 (nI (n + 1)) = X at h
  have sX : rin k z p0 X := rin_mv s1 (by rw [← hX, zup_ne (by omega), zup_ne (by omega)]) (by rw [← hX, zup_ne (by omega), zup_ne (by omega)])
  obtain ⟨s2, f2⟩ := rS_in sX h
  refine ⟨s2, DW.tk ?_ f2⟩
  have x1 : ∀ j, j ≠ 0 → X (k + 1) j = M1 (k + 1) j := fun j hj => by rw [← hX, zup_eq, upd_ne hj, zup_ne (by omega)]
  have xk : ∀ i, i = 0 ∨ i = 2 ∨ i = 4 ∨ i = 5 → X (k + i) = M1 (k + i) := fun i hi => by rw [← hX, zup_ne (by omega), zup_ne (by omega)]
  have x0 : X k = M1 k := xk 0 (by omega)
  refine ⟨⟨by omega, b2, b3, b4⟩, ?_, by rw [x1 1 (by omega)]; exact eH, by rw [x1 6 (by omega)]; exact eL, by rw [x1 2 (by omega)]; exact w2, by rw [x1 3 (by omega)]; exact w3, by rw [x1 4 (by omega)]; exact w4, by rw [x1 5 (by omega)]; exact w5, by rw [xk 2 (by omega)]; exact hr, fun s p hs hpn => ?_, fun h p hh _ => absurd hh (by omega), fun w h hh => absurd hh (by omega), by rw [x0]; exact es, by rw [x0]; exact k12, by rw [x0]; exact k12', by rw [x0, x1 4 (by omega)]; exact k4⟩
  · rw [← hX, zup_eq, upd_eq]
  · have hs0 : s = 0 := by
      rcases hs with w | w | w
      · exact w
      · rw [q1] at w; exact absurd w.2 (by decide)
      · rw [q2] at w; exact absurd w.2 (by decide)
    subst hs0
    have x3 : X (k + 3) = upd (M1 (k + 3)) n (nI v) := by rw [← hX, zup_ne (by omega), zup_eq]
    rw [x3]
    by_cases e : p = n
    · exact ⟨v, hv, by rw [e, show 0 * 8 + n = n by omega, upd_eq]⟩
    · rw [upd_ne (by omega)]
      exact hu 0 p (Or.inl rfl) (by omega)
theorem w_bits : ∀ w, w < 256 → ∀ p, p < 8 → ∃ w', w' < 256 ∧ nI w ||| ((1 : Int32) <<< (nI p &&& 31)) = nI w' := by
  have : ∀ w, w < 256 → ∀ p, p < 8 → ix (nI w ||| ((1 : Int32) <<< (nI p &&& 31))) < 256 ∧ nI w ||| ((1 : Int32) <<< (nI p &&& 31)) = nI (ix (nI w ||| ((1 : Int32) <<< (nI p &&& 31)))) := by decide +kernel
  intro w hw p hp
  exact ⟨_, (this w hw p hp).1, (this w hw p hp).2⟩
theorem DW_whole {k z p0 n H L : Nat} {t1 t2 : Bool} {M M' : zMem} (r : rin k z p0 M) (d : DW k M n H L t1 t2) (h : rWh k z M true M') : rin k z p0 M' ∧ DW k M' n H L t1 t2 := by
  obtain ⟨M1, r1, h⟩ := bnd_t h
  obtain ⟨s1, f1, -, lo, hi⟩ := rN_in r r1
  have d1 := d.tk f1
  rcases h with ⟨-, h, -⟩ | ⟨-, h⟩
  · cases h
  generalize hX : zup M1 (k + 1) 5 ((M1 (k + 1) 5) ||| (1 <<< ((M1 k 9) &&& 31))) = X at h
  have sX : rin k z p0 X := rin_mv s1 (by rw [← hX, zup_ne (by omega)]) (by rw [← hX, zup_ne (by omega)])
  obtain ⟨s2, f2⟩ := rS_in sX h
  refine ⟨s2, DW.tk ?_ f2⟩
  obtain ⟨⟨b1, b2, b3, b4⟩, en, eH, eL, w2, w3, w4, ⟨a, a1, a2⟩, hr, hu, hp, he, es, k12, k12', k4⟩ := d1
  have x1 : ∀ j, j ≠ 5 → X (k + 1) j = M1 (k + 1) j := fun j hj => by rw [← hX, zup_eq, upd_ne hj]
  have xk : ∀ i, i = 0 ∨ i = 2 ∨ i = 3 ∨ i = 4 ∨ i = 5 → X (k + i) = M1 (k + i) := fun i hi => by rw [← hX, zup_ne (by omega)]
  have x0 : X k = M1 k := xk 0 (by omega)
  refine ⟨⟨b1, b2, b3, b4⟩, by rw [x1 0 (by omega)]; exact en, by rw [x1 1 (by omega)]; exact eH, by rw [x1 6 (by omega)]; exact eL, by rw [x1 2 (by omega)]; exact w2, by rw [x1 3 (by omega)]; exact w3, by rw [x1 4 (by omega)]; exact w4, ?_, by rw [xk 2 (by omega)]; exact hr, by rw [xk 3 (by omega)]; exact hu, by rw [xk 4 (by omega)]; exact hp, by rw [x1 4 (by omega), xk 5 (by omega)]; exact he, by rw [x0]; exact es, by rw [x0]; exact k12, by rw [x0]; exact k12', by rw [x0, x1 4 (by omega)]; exact k4⟩
  have hn0 : M (k + 1) 0 = nI n := d.2.1
  rw [hn0] at hi
  have hn1 : n ≠ 0 := fun e => by
    subst e
    exact lo (Int32.lt_of_le_of_lt hi (by decide))
  have e1 : nI n - 1 = nI (n - 1) := q_sub (a := n) (b := 1) (by omega)
  rw [e1] at hi
  obtain ⟨v, hv, ev⟩ := nI_of lo
  rw [ev] at hi
  have := (nI_leI (by omega) (by omega)).mp hi
  obtain ⟨w', hw1, hw2⟩ := w_bits a a1 v (by omega)
  exact ⟨w', hw1, by rw [← hX, zup_eq, upd_eq, a2, ev]; exact hw2⟩
/-- m numbers have come into a cell -/
theorem rNs_in {k z p0 c lo hi : Nat} {C : zMem → Bool → zMem → Prop} (hlo : lo < 2147483648) (hhi : hi < 2147483648) (hc : c ≠ k) : ∀ m i M M', rin k z p0 M → rNs k z c (nI lo) (nI hi) C m i M true M' → ∃ X, C X true M' ∧ rin k z p0 X ∧ (∀ j, j ≠ 6 → j ≠ 7 → j ≠ 8 → j ≠ 9 → X k j = M k j) ∧ (∀ d, d ≠ k → d ≠ c → X d = M d) ∧ (∀ j, i ≤ j → j < i + m → ∃ v, lo ≤ v ∧ v ≤ hi ∧ X c j = nI v) ∧ ∀ j, (j < i ∨ i + m ≤ j) → X c j = M c j := by
  intro m
  induction m with
  | zero => intro i M M' r h; exact ⟨M, h, r, fun _ _ _ _ _ => rfl, fun _ _ _ => rfl, fun j h1 h2 => absurd h2 (by omega), fun _ _ => rfl⟩
  | succ m ih =>
    intro i M M' r h
    obtain ⟨M1, r1, h⟩ := bnd_t h
    obtain ⟨s1, f1, -, l1, h1⟩ := rN_in r r1
    obtain ⟨v, hv, ev⟩ := nI_of (x := M1 k 9) (fun q => l1 (Int32.lt_of_lt_of_le q (nI_pos' hlo)))
    rw [ev] at l1 h1
    have v1 : lo ≤ v := by
      rcases Nat.lt_or_ge v lo with u | u
      · exact absurd ((nI_ltI hv hlo).mpr u) l1
      · exact u
    have v2 : v ≤ hi := (nI_leI hv hhi).mp h1
    have s2 : rin k z p0 (zup M1 c i (M1 k 9)) := rin_mv s1 (by rw [zup_ne (Ne.symm hc)]) (by rw [zup_ne (Ne.symm hc)])
    obtain ⟨X, x1, x2, x3, x4, x5, x6⟩ := ih (i + 1) _ M' s2 h
    refine ⟨X, x1, x2, fun j a b c' d => ?_, fun d h1 h2 => ?_, fun j h1 h2 => ?_, fun j hj => ?_⟩
    · rw [x3 j a b c' d, zup_ne (Ne.symm hc)]; exact f1.2 j a b c' d
    · rw [x4 d h1 h2, zup_ne h2]; exact f1.1 d h1
    · by_cases e : j = i
      · exact ⟨v, v1, v2, by rw [x6 j (by omega), zup_eq, e, upd_eq, ev]⟩
      · exact x5 j (by omega) (by omega)
    · rw [x6 j (by omega), zup_eq, upd_ne (by omega), f1.1 c hc]
theorem st_or : ∀ t1 t2 : Bool, (nI (stb t1 t2) ||| ((1 : Int32) <<< (nI 1 &&& 31)) = nI (stb true t2)) ∧ (nI (stb t1 t2) ||| ((1 : Int32) <<< (nI 2 &&& 31)) = nI (stb t1 true)) := by decide
theorem DW_sort {k z p0 n H L : Nat} {t1 t2 : Bool} {M M' : zMem} (r : rin k z p0 M) (d : DW k M n H L t1 t2) (h : rSo k z n M true M') : rin k z p0 M' ∧ ∃ t1' t2', DW k M' n H L t1' t2' := by
  obtain ⟨M2, r1, h⟩ := bnd_t h
  have s0 : rin k z p0 (zup M k 12 1) := rin_mv r (by rw [zup_eq, upd_ne (by omega)]) (by rw [zup_eq, upd_ne (by omega)])
  obtain ⟨s1, f1, -, lo, hi⟩ := rN_in s0 r1
  rcases h with ⟨-, h, -⟩ | ⟨-, h⟩
  · cases h
  obtain ⟨s, hs, es9⟩ := nI_of2 (x := M2 k 9) (M := 2) (n := 2) rfl (fun q => lo (Int32.lt_trans q (by decide))) hi
  have hs1 : 1 ≤ s := by
    rw [es9] at lo
    rcases Nat.lt_or_ge s 1 with u | u
    · exact absurd ((nI_ltI (b := 1) (by omega) (by omega)).mpr u) lo
    · exact u
  rw [es9, q_ix (by omega)] at h
  have s3 : rin k z p0 (zup M2 k 11 ((M2 k 11) ||| (1 <<< (nI s &&& 31)))) := rin_mv s1 (by rw [zup_eq, upd_ne (by omega)]) (by rw [zup_eq, upd_ne (by omega)])
  obtain ⟨X, hS, sX, xj, xd, xv, xo⟩ := rNs_in (lo := 0) (hi := 6) (by omega) (by omega) (by omega) n (s * 8) _ M' s3 h
  obtain ⟨s4, f4⟩ := rS_in sX hS
  obtain ⟨⟨b1, b2, b3, b4⟩, en, eH, eL, w2, w3, w4, w5, hr, hu, hp, he, es, k12, k12', k4⟩ := d
  have xM : ∀ i, i = 1 ∨ i = 2 ∨ i = 4 ∨ i = 5 → X (k + i) = M (k + i) := fun i hi => by rw [xd _ (by omega) (by omega), zup_ne (by omega), f1.1 _ (by omega), zup_ne (by omega)]
  have x11 : X k 11 = nI (stb t1 t2) ||| (1 <<< (nI s &&& 31)) := by
    rw [xj 11 (by omega) (by omega) (by omega) (by omega), zup_eq, upd_eq, f1.2 11 (by omega) (by omega) (by omega) (by omega), zup_eq, upd_ne (by omega), es]
  have x12 : X k 12 = 1 := by rw [xj 12 (by omega) (by omega) (by omega) (by omega), zup_eq, upd_ne (by omega), f1.2 12 (by omega) (by omega) (by omega) (by omega), zup_eq, upd_eq]
  have x13 : X k 13 = M k 13 := by rw [xj 13 (by omega) (by omega) (by omega) (by omega), zup_eq, upd_ne (by omega), f1.2 13 (by omega) (by omega) (by omega) (by omega), zup_eq, upd_ne (by omega)]
  have xc : ∀ j, (j < s * 8 ∨ s * 8 + n ≤ j) → X (k + 3) j = M (k + 3) j := fun j hj => by rw [xo j hj, zup_ne (by omega), f1.1 _ (by omega), zup_ne (by omega)]
  have all : ∀ u1 u2, X k 11 = nI (stb u1 u2) → (u1 = true ∨ u2 = true) → (∀ s' p, (s' = 0 ∨ (s' = 1 ∧ u1 = true) ∨ (s' = 2 ∧ u2 = true)) → p < n → ∃ u, u ≤ 6 ∧ X (k + 3) (s' * 8 + p) = nI u) → DW k X n H L u1 u2 := fun u1 u2 h11 ht hun => by
    refine ⟨⟨b1, b2, b3, b4⟩, by rw [xM 1 (by omega)]; exact en, by rw [xM 1 (by omega)]; exact eH, by rw [xM 1 (by omega)]; exact eL, by rw [xM 1 (by omega)]; exact w2, by rw [xM 1 (by omega)]; exact w3, by rw [xM 1 (by omega)]; exact w4, by rw [xM 1 (by omega)]; exact w5, by rw [xM 2 (by omega)]; exact hr, hun, by rw [xM 4 (by omega)]; exact hp, by rw [xM 1 (by omega), xM 5 (by omega)]; exact he, h11, fun w => absurd (x12.symm.trans w) (by decide), fun _ => ht.elim Or.inl (fun w => Or.inr (Or.inl w)), by rw [x13, xM 1 (by omega)]; exact k4⟩
  refine ⟨s4, ?_⟩
  rcases (show s = 1 ∨ s = 2 by omega) with rfl | rfl
  · refine ⟨true, t2, DW.tk (all true t2 (by rw [x11]; exact (st_or t1 t2).1) (Or.inl rfl) (fun s' p hs' hpn => ?_)) f4⟩
    by_cases e : s' = 1
    · subst e
      obtain ⟨v, -, v2, v3⟩ := xv (1 * 8 + p) (by omega) (by omega)
      exact ⟨v, v2, v3⟩
    · rw [xc _ (by omega)]
      refine hu s' p ?_ hpn
      rcases hs' with w | w | w
      · exact Or.inl w
      · exact absurd w.1 e
      · exact Or.inr (Or.inr w)
  · refine ⟨t1, true, DW.tk (all t1 true (by rw [x11]; exact (st_or t1 t2).2) (Or.inr rfl) (fun s' p hs' hpn => ?_)) f4⟩
    by_cases e : s' = 2
    · subst e
      obtain ⟨v, -, v2, v3⟩ := xv (2 * 8 + p) (by omega) (by omega)
      exact ⟨v, v2, v3⟩
    · rw [xc _ (by omega)]
      refine hu s' p ?_ hpn
      rcases hs' with w | w | w
      · exact Or.inl w
      · exact Or.inr (Or.inl w)
      · exact absurd w.1 e
theorem DW_hand {k z p0 n H L : Nat} {t1 t2 : Bool} {M M' : zMem} (r : rin k z p0 M) (d : DW k M n H L t1 t2) (h : rHa k z n H M true M') : rin k z p0 M' ∧ DW k M' n (H + 1) L t1 t2 := by
  rcases h with ⟨-, h, -⟩ | ⟨c13, cH, h⟩
  · cases h
  obtain ⟨⟨b1, b2, b3, b4⟩, en, eH, eL, w2, w3, w4, w5, hr, hu, hp, he, es, k12, k12', k4⟩ := d
  have hH : H < 5 := by
    rw [eH] at cH
    exact (nI_ltI (b := 5) (by omega) (by omega)).mp cH
  have s0 : rin k z p0 (zup M k 12 1) := rin_mv r (by rw [zup_eq, upd_ne (by omega)]) (by rw [zup_eq, upd_ne (by omega)])
  obtain ⟨X, hS, sX, xj, xd, xv, xo⟩ := rNs_in (lo := 1) (hi := 9) (by omega) (by omega) (by omega) n (H * 8) _ M' s0 h
  have xM : ∀ i, i = 1 ∨ i = 2 ∨ i = 3 ∨ i = 5 → X (k + i) = M (k + i) := fun i hi => by rw [xd _ (by omega) (by omega), zup_ne (by omega)]
  have e1 : X (k + 1) 1 + 1 = nI (H + 1) := by rw [xM 1 (by omega), eH, nI_1]
  rw [e1] at hS
  generalize hY : zup X (k + 1) 1 (nI (H + 1)) = Y at hS
  have sY : rin k z p0 Y := rin_mv sX (by rw [← hY, zup_ne (by omega)]) (by rw [← hY, zup_ne (by omega)])
  obtain ⟨s4, f4⟩ := rS_in sY hS
  refine ⟨s4, DW.tk ?_ f4⟩
  have y1 : ∀ j, j ≠ 1 → Y (k + 1) j = M (k + 1) j := fun j hj => by rw [← hY, zup_eq, upd_ne hj, xM 1 (by omega)]
  have yk : ∀ i, i = 2 ∨ i = 3 ∨ i = 5 → Y (k + i) = M (k + i) := fun i hi => by rw [← hY, zup_ne (by omega)]; exact xM i (by omega)
  have y4 : Y (k + 4) = X (k + 4) := by rw [← hY, zup_ne (by omega)]
  have y0 : Y k = X k := by rw [← hY, zup_ne (by omega)]
  have y12 : Y k 12 = 1 := by rw [y0, xj 12 (by omega) (by omega) (by omega) (by omega), zup_eq, upd_eq]
  have y11 : Y k 11 = M k 11 := by rw [y0, xj 11 (by omega) (by omega) (by omega) (by omega), zup_eq, upd_ne (by omega)]
  have y13 : Y k 13 = M k 13 := by rw [y0, xj 13 (by omega) (by omega) (by omega) (by omega), zup_eq, upd_ne (by omega)]
  refine ⟨⟨b1, by omega, b3, b4⟩, by rw [y1 0 (by omega)]; exact en, by rw [← hY, zup_eq, upd_eq], by rw [y1 6 (by omega)]; exact eL, by rw [y1 2 (by omega)]; exact w2, by rw [y1 3 (by omega)]; exact w3, by rw [y1 4 (by omega)]; exact w4, by rw [y1 5 (by omega)]; exact w5, by rw [yk 2 (by omega)]; exact hr, by rw [yk 3 (by omega)]; exact hu, fun h p hh hpn => ?_, fun w => absurd (by rw [y1 4 (by omega)]; exact k4 c13) w, by rw [y11]; exact es, fun w => absurd (y12.symm.trans w) (by decide), fun _ => Or.inr (Or.inr (Or.inl (by omega))), by rw [y13, y1 4 (by omega)]; exact k4⟩
  rw [y4]
  by_cases e : h = H
  · rw [e]
    exact xv (H * 8 + p) (by omega) (by omega)
  · rw [xo _ (by omega), zup_ne (by omega)]
    exact hp h p (by omega) hpn
theorem DW_once {k z p0 n H L : Nat} {t1 t2 : Bool} {a : Int32} {M M' : zMem} (r : rin k z p0 M) (d : DW k M n H L t1 t2) (h : rOc k a M true M') : rin k z p0 M' ∧ DW k M' n H L t1 t2 := by
  obtain ⟨s1, e⟩ := rOc_in r h
  exact ⟨s1, d.mv (fun i h1 _ => by rw [e, zup_ne (by omega)]) (fun j h1 h2 => by rw [e, zup_eq, upd_ne (by omega)])⟩
theorem DW_on {k z p0 n H L j : Nat} {hi : Int32} {t1 t2 : Bool} {M M' : zMem} (r : rin k z p0 M) (d : DW k M n H L t1 t2) (hj : (j = 2 ∧ hi = 5) ∨ (j = 3 ∧ hi = 99)) (h : rOn k z j hi M true M') : rin k z p0 M' ∧ DW k M' n H L t1 t2 := by
  obtain ⟨M1, r1, h⟩ := bnd_t h
  obtain ⟨s1, f1, -, lo, hi'⟩ := rN_in r r1
  have d1 := d.tk f1
  generalize hX : zup M1 (k + 1) j (M1 k 9) = X at h
  have sX : rin k z p0 X := rin_mv s1 (by rw [← hX, zup_ne (by omega)]) (by rw [← hX, zup_ne (by omega)])
  obtain ⟨s2, f2⟩ := rS_in sX h
  refine ⟨s2, DW.tk ?_ f2⟩
  obtain ⟨⟨b1, b2, b3, b4⟩, en, eH, eL, w2, w3, w4, w5, hr, hu, hp, he, es, k12, k12', k4⟩ := d1
  have x1 : ∀ i, i ≠ j → X (k + 1) i = M1 (k + 1) i := fun i hi => by rw [← hX, zup_eq, upd_ne hi]
  have xj : X (k + 1) j = M1 k 9 := by rw [← hX, zup_eq, upd_eq]
  have xk : ∀ i, i = 0 ∨ i = 2 ∨ i = 3 ∨ i = 4 ∨ i = 5 → X (k + i) = M1 (k + i) := fun i hi => by rw [← hX, zup_ne (by omega)]
  have x0 : X k = M1 k := xk 0 (by omega)
  have y2 : ∃ a, a ≤ 5 ∧ X (k + 1) 2 = nI a := by
    rcases hj with ⟨rfl, rfl⟩ | ⟨rfl, rfl⟩
    · obtain ⟨v, hv, ev⟩ := nI_of2 (x := M1 k 9) (M := 5) (n := 5) rfl lo hi'
      exact ⟨v, hv, by rw [xj]; exact ev⟩
    · rw [x1 2 (by omega)]; exact w2
  have y3 : ∃ a, a ≤ 99 ∧ X (k + 1) 3 = nI a := by
    rcases hj with ⟨rfl, rfl⟩ | ⟨rfl, rfl⟩
    · rw [x1 3 (by omega)]; exact w3
    · obtain ⟨v, hv, ev⟩ := nI_of2 (x := M1 k 9) (M := 99) (n := 99) rfl lo hi'
      exact ⟨v, hv, by rw [xj]; exact ev⟩
  exact ⟨⟨b1, b2, b3, b4⟩, by rw [x1 0 (by omega)]; exact en, by rw [x1 1 (by omega)]; exact eH, by rw [x1 6 (by omega)]; exact eL, y2, y3, by rw [x1 4 (by omega)]; exact w4, by rw [x1 5 (by omega)]; exact w5, by rw [xk 2 (by omega)]; exact hr, by rw [xk 3 (by omega)]; exact hu, by rw [xk 4 (by omega)]; exact hp, by rw [x1 4 (by omega), xk 5 (by omega)]; exact he, by rw [x0]; exact es, by rw [x0]; exact k12, by rw [x0]; exact k12', by rw [x0, x1 4 (by omega)]; exact k4⟩
theorem rWi_in {k : Nat} {lo hi : Int32} {M M' : zMem} (h : rWi k lo hi M true M') : M' = M ∧ ¬ M k 9 < lo ∧ M k 9 ≤ hi := by
  rcases h with ⟨-, h, -⟩ | ⟨c1, c2, -, e⟩
  · cases h
  · exact ⟨e, c1, c2⟩
theorem rSi_in {k : Nat} {M M' : zMem} (h : rSi k M true M') : M' = M := by
  rcases h with ⟨-, h, -⟩ | ⟨-, -, e⟩
  · cases h
  · exact e
/-- the row, its first i numbers read -/
theorem DW_rowl {k z p0 n H : Nat} {t1 t2 : Bool} : ∀ m i M M', i + m = 6 → 1 ≤ i → rin k z p0 M → DW k M n H i t1 t2 → rRl k z m i M true M' → rin k z p0 M' ∧ ∃ L, DW k M' n H L t1 t2 := by
  intro m
  induction m with
  | zero =>
    intro i M M' hi h1 r d h
    rcases h with ⟨-, h, -⟩ | ⟨-, h⟩
    · cases h
    · rw [rSi_in h]; exact ⟨r, _, d⟩
  | succ m ih =>
    intro i M M' hi h1 r d h
    rcases h with ⟨-, h⟩ | ⟨c7, h⟩
    · rw [rSi_in h]; exact ⟨r, _, d⟩
    · obtain ⟨M0, hw, h2⟩ := bnd_t h
      obtain ⟨e1, lo, hi'⟩ := rWi_in hw
      rw [e1] at h2
      obtain ⟨v, hv, ev⟩ := nI_of2 (x := M k 9) (M := 2) (n := 2) rfl lo hi'
      rw [ev] at h2
      generalize hX : zup (zup M (k + 2) i (nI v)) (k + 1) 6 (nI (i + 1)) = X at h2
      obtain ⟨M2, ht, h3⟩ := bnd_t h2
      have sX : rin k z p0 X := rin_mv r (by rw [← hX, zup_ne (by omega), zup_ne (by omega)]) (by rw [← hX, zup_ne (by omega), zup_ne (by omega)])
      obtain ⟨s2, f2⟩ := tkn_in sX ht
      refine ih (i + 1) M2 M' (by omega) (by omega) s2 (DW.tk ?_ f2) h3
      obtain ⟨⟨b1, b2, b3, b4⟩, en, eH, eL, w2, w3, w4, w5, hr, hu, hp, he, es, k12, k12', k4⟩ := d
      have x1 : ∀ j, j ≠ 6 → X (k + 1) j = M (k + 1) j := fun j hj => by rw [← hX, zup_eq, upd_ne hj, zup_ne (by omega)]
      have xk : ∀ j, j = 0 ∨ j = 3 ∨ j = 4 ∨ j = 5 → X (k + j) = M (k + j) := fun j hj => by rw [← hX, zup_ne (by omega), zup_ne (by omega)]
      have x0 : X k = M k := xk 0 (by omega)
      have x2 : X (k + 2) = upd (M (k + 2)) i (nI v) := by rw [← hX, zup_ne (by omega), zup_eq]
      refine ⟨⟨b1, b2, by omega, by omega⟩, by rw [x1 0 (by omega)]; exact en, by rw [x1 1 (by omega)]; exact eH, by rw [← hX, zup_eq, upd_eq], by rw [x1 2 (by omega)]; exact w2, by rw [x1 3 (by omega)]; exact w3, by rw [x1 4 (by omega)]; exact w4, by rw [x1 5 (by omega)]; exact w5, fun j hj => ?_, by rw [xk 3 (by omega)]; exact hu, by rw [xk 4 (by omega)]; exact hp, by rw [x1 4 (by omega), xk 5 (by omega)]; exact he, by rw [x0]; exact es, by rw [x0]; exact k12, by rw [x0]; exact k12', by rw [x0, x1 4 (by omega)]; exact k4⟩
      rw [x2]
      by_cases e : j = i
      · exact ⟨v, by omega, by rw [e, upd_eq]⟩
      · rw [upd_ne e]; exact hr j (by omega)
theorem DW_row {k z p0 n H L : Nat} {t1 t2 : Bool} {M M' : zMem} (r : rin k z p0 M) (d : DW k M n H L t1 t2) (hL : L = 1) (h : rRo k z M true M') : rin k z p0 M' ∧ ∃ L', DW k M' n H L' t1 t2 := by
  subst hL
  obtain ⟨M1, r1, h⟩ := bnd_t h
  obtain ⟨s1, f1, -, lo, hi⟩ := rN_in r r1
  have d1 := d.tk f1
  obtain ⟨v, hv, ev⟩ := nI_of2 (x := M1 k 9) (M := 2) (n := 2) rfl lo hi
  rw [ev] at h
  generalize hX : zup M1 (k + 2) 0 (nI v) = X at h
  obtain ⟨M2, ht, h⟩ := bnd_t h
  have sX : rin k z p0 X := rin_mv s1 (by rw [← hX, zup_ne (by omega)]) (by rw [← hX, zup_ne (by omega)])
  obtain ⟨s2, f2⟩ := tkn_in sX ht
  refine DW_rowl 5 1 M2 M' (by omega) (by omega) s2 (DW.tk ?_ f2) h
  obtain ⟨⟨b1, b2, b3, b4⟩, en, eH, eL, w2, w3, w4, w5, hr, hu, hp, he, es, k12, k12', k4⟩ := d1
  have xk : ∀ j, j = 0 ∨ j = 1 ∨ j = 3 ∨ j = 4 ∨ j = 5 → X (k + j) = M1 (k + j) := fun j hj => by rw [← hX, zup_ne (by omega)]
  have x0 : X k = M1 k := xk 0 (by omega)
  have x1 : X (k + 1) = M1 (k + 1) := xk 1 (by omega)
  have x2 : X (k + 2) = upd (M1 (k + 2)) 0 (nI v) := by rw [← hX, zup_eq]
  refine ⟨⟨b1, b2, b3, b4⟩, by rw [x1]; exact en, by rw [x1]; exact eH, by rw [x1]; exact eL, by rw [x1]; exact w2, by rw [x1]; exact w3, by rw [x1]; exact w4, by rw [x1]; exact w5, fun j hj => ?_, by rw [xk 3 (by omega)]; exact hu, by rw [xk 4 (by omega)]; exact hp, by rw [x1, xk 5 (by omega)]; exact he, by rw [x0]; exact es, by rw [x0]; exact k12, by rw [x0]; exact k12', by rw [x0, x1]; exact k4⟩
  rw [x2, show j = 0 by omega, upd_eq]
  exact ⟨v, by omega, rfl⟩
/-- ends: from h on, m left, the one ahead at lo at least -/
theorem rEn_in {k z p0 n : Nat} (n8 : n ≤ 8) : ∀ m h lo M M', 1 ≤ lo → lo < 2147483648 → rin k z p0 M → rEn k z n m h (nI lo) M true M' → ∃ X, rS k z X true M' ∧ rin k z p0 X ∧ (∀ j, j ≠ 6 → j ≠ 7 → j ≠ 8 → j ≠ 9 → X k j = M k j) ∧ (∀ d, d ≠ k → d ≠ k + 5 → X d = M d) ∧ (∀ j, h ≤ j → j < h + m → ∃ v, 1 ≤ v ∧ v ≤ n ∧ X (k + 5) j = nI v) ∧ ∀ j, (j < h ∨ h + m ≤ j) → X (k + 5) j = M (k + 5) j := by
  intro m
  induction m with
  | zero => intro h lo M M' _ _ r hh; exact ⟨M, hh, r, fun _ _ _ _ _ => rfl, fun _ _ _ => rfl, fun j h1 h2 => absurd h2 (by omega), fun _ _ => rfl⟩
  | succ m ih =>
    intro h lo M M' hlo hlo2 r hh
    obtain ⟨M1, r1, hh⟩ := bnd_t hh
    obtain ⟨s1, f1, -, l1, h1⟩ := rN_in r r1
    obtain ⟨v, hv, ev⟩ := nI_of (x := M1 k 9) (fun q => l1 (Int32.lt_of_lt_of_le q (nI_pos' hlo2)))
    rw [ev] at l1 h1
    have v1 : lo ≤ v := by
      rcases Nat.lt_or_ge v lo with u | u
      · exact absurd ((nI_ltI hv hlo2).mpr u) l1
      · exact u
    have v2 : v ≤ n := (nI_leI hv (by omega)).mp h1
    have s2 : rin k z p0 (zup M1 (k + 5) h (M1 k 9)) := rin_mv s1 (by rw [zup_ne (by omega)]) (by rw [zup_ne (by omega)])
    rw [ev] at hh s2
    obtain ⟨X, x1, x2, x3, x4, x5, x6⟩ := ih (h + 1) v _ M' (by omega) hv s2 hh
    refine ⟨X, x1, x2, fun j a b c d => ?_, fun d h1 h2 => ?_, fun j h1 h2 => ?_, fun j hj => ?_⟩
    · rw [x3 j a b c d, zup_ne (by omega)]; exact f1.2 j a b c d
    · rw [x4 d h1 h2, zup_ne h2]; exact f1.1 d h1
    · by_cases e : j = h
      · exact ⟨v, by omega, v2, by rw [x6 j (by omega), zup_eq, e, upd_eq]⟩
      · exact x5 j (by omega) (by omega)
    · rw [x6 j (by omega), zup_eq, upd_ne (by omega), f1.1 _ (by omega)]
theorem DW_ends {k z p0 n H L a : Nat} {t1 t2 : Bool} {M M' : zMem} (ha : 1 ≤ a ∧ a ≤ 2) (r : rin k z p0 M) (d : DW k M n H L t1 t2) (h : rEs k z n H (nI a) M true M') : rin k z p0 M' ∧ DW k M' n H L t1 t2 := by
  unfold rEs at h
  generalize hY : zup (zup (zup M k 12 1) k 13 1) (k + 1) 4 (nI a) = Y at h
  have sY : rin k z p0 Y := rin_mv r (by rw [← hY, zup_ne (by omega), zup_eq, upd_ne (by omega), zup_eq, upd_ne (by omega)]) (by rw [← hY, zup_ne (by omega), zup_eq, upd_ne (by omega), zup_eq, upd_ne (by omega)])
  obtain ⟨⟨b1, b2, b3, b4⟩, en, eH, eL, w2, w3, w4, w5, hr, hu, hp, he, es, k12, k12', k4⟩ := d
  obtain ⟨X, hS, sX, xj, xd, xv, xo⟩ := rEn_in b1 (H - 1) 0 1 Y M' (by omega) (by omega) sY h
  obtain ⟨s4, f4⟩ := rS_in sX hS
  refine ⟨s4, DW.tk ?_ f4⟩
  have x1 : ∀ j, j ≠ 4 → X (k + 1) j = M (k + 1) j := fun j hj => by rw [xd _ (by omega) (by omega), ← hY, zup_eq, upd_ne hj, zup_ne (by omega), zup_ne (by omega)]
  have x14 : X (k + 1) 4 = nI a := by rw [xd _ (by omega) (by omega), ← hY, zup_eq, upd_eq]
  have xk : ∀ i, i = 2 ∨ i = 3 ∨ i = 4 → X (k + i) = M (k + i) := fun i hi => by rw [xd _ (by omega) (by omega), ← hY, zup_ne (by omega), zup_ne (by omega), zup_ne (by omega)]
  have x11 : X k 11 = M k 11 := by rw [xj 11 (by omega) (by omega) (by omega) (by omega), ← hY, zup_ne (by omega), zup_eq, upd_ne (by omega), zup_eq, upd_ne (by omega)]
  have x12 : X k 12 = 1 := by rw [xj 12 (by omega) (by omega) (by omega) (by omega), ← hY, zup_ne (by omega), zup_eq, upd_ne (by omega), zup_eq, upd_eq]
  have x13 : X k 13 = 1 := by rw [xj 13 (by omega) (by omega) (by omega) (by omega), ← hY, zup_ne (by omega), zup_eq, upd_eq]
  exact ⟨⟨b1, b2, b3, b4⟩, by rw [x1 0 (by omega)]; exact en, by rw [x1 1 (by omega)]; exact eH, by rw [x1 6 (by omega)]; exact eL, by rw [x1 2 (by omega)]; exact w2, by rw [x1 3 (by omega)]; exact w3, ⟨a, ha.2, x14⟩, by rw [x1 5 (by omega)]; exact w5, by rw [xk 2 (by omega)]; exact hr, by rw [xk 3 (by omega)]; exact hu, by rw [xk 4 (by omega)]; exact hp, fun _ h hh => xv h (by omega) (by omega), by rw [x11]; exact es, fun w => absurd (x12.symm.trans w) (by decide), fun _ => Or.inr (Or.inr (Or.inr (by rw [x13]; decide))), fun w => absurd (x13.symm.trans w) (by decide)⟩
def nmb (a b c d : Bool) : Nat := (if a = true then 8 else 0) + (if b = true then 32 else 0) + (if c = true then 64 else 0) + (if d = true then 128 else 0)
theorem nm_or : ∀ a b c d : Bool, (nI (nmb a b c d) ||| ((1 : Int32) <<< ((3 : Int32) &&& 31)) = nI (nmb true b c d)) ∧ (nI (nmb a b c d) ||| ((1 : Int32) <<< ((5 : Int32) &&& 31)) = nI (nmb a true c d)) ∧ (nI (nmb a b c d) ||| ((1 : Int32) <<< ((6 : Int32) &&& 31)) = nI (nmb a b true d)) ∧ (nI (nmb a b c d) ||| ((1 : Int32) <<< ((7 : Int32) &&& 31)) = nI (nmb a b c true)) ∧ ((((nI (nmb a b c d)) >>> ((3 : Int32) &&& 31)) &&& 1) = 1 ↔ a = true) := by decide
/-- the row has one number until it is told -/
def DN (k : Nat) (M : zMem) (L : Nat) : Prop := ∃ a b c d, M k 10 = nI (nmb a b c d) ∧ (a = false → L = 1)
theorem DN.mv {k L : Nat} {M M' : zMem} (h : DN k M L) (e : M' k 10 = M k 10) : DN k M' L := by
  unfold DN at h ⊢
  rw [e]; exact h
theorem DN.tk {k L : Nat} {M M' : zMem} (h : DN k M L) (f : tkf k M M') : DN k M' L := h.mv (f.2 10 (by omega) (by omega) (by omega) (by omega))
theorem rOc_10 {k L : Nat} {x : Int32} {M M' : zMem} (h : rOc k x M true M') (d : DN k M L) (hx : x = 3 ∨ x = 5 ∨ x = 6 ∨ x = 7) : (x = 3 → L = 1) ∧ (∀ L', (x ≠ 3 → L' = L) → DN k M' L') := by
  obtain ⟨a, b, c, e, e10, hL⟩ := d
  obtain ⟨n3, n5, n6, n7, nb⟩ := nm_or a b c e
  rcases h with ⟨-, h, -⟩ | ⟨c1, -, e1⟩
  · cases h
  rw [e10] at c1 e1
  have q10 : M' k 10 = nI (nmb a b c e) ||| (1 <<< (x &&& 31)) := by rw [e1, zup_eq, upd_eq]
  rcases hx with rfl | rfl | rfl | rfl
  · refine ⟨fun _ => hL (by
      cases a with
      | false => rfl
      | true => exact absurd (nb.mpr rfl) c1), fun L' _ => ⟨true, b, c, e, by rw [q10]; exact n3, fun w => by cases w⟩⟩
  · exact ⟨fun w => absurd w (by decide), fun L' h => ⟨a, true, c, e, by rw [q10]; exact n5, by rw [h (by decide)]; exact hL⟩⟩
  · exact ⟨fun w => absurd w (by decide), fun L' h => ⟨a, b, true, e, by rw [q10]; exact n6, by rw [h (by decide)]; exact hL⟩⟩
  · exact ⟨fun w => absurd w (by decide), fun L' h => ⟨a, b, c, true, by rw [q10]; exact n7, by rw [h (by decide)]; exact hL⟩⟩
/-- what a piece of reading may change, and how it ends -/
def lf (k : Nat) (M M' : zMem) : Prop := ∀ c, (c < k ∨ k + 6 ≤ c) → M' c = M c
def gd (k : Nat) (R : zMem → Bool → zMem → Prop) : Prop := ∀ M b M', R M b M' → lf k M M' ∧ (b = true → M' k 1 = M k 1) ∧ (b = false → ∃ c X, 1 ≤ c ∧ c ≤ 5 ∧ M' = rfs k (nI c) X)
theorem lf.tr {k : Nat} {M M1 M2 : zMem} (a : lf k M M1) (b : lf k M1 M2) : lf k M M2 := fun c h => (b c h).trans (a c h)
theorem lf.up {k c j : Nat} {x : Int32} {M : zMem} (h : k ≤ c) (h2 : c ≤ k + 5) : lf k M (zup M c j x) := fun d hd => zup_ne (by omega)
theorem lf_rfs {k : Nat} {c : Int32} {M : zMem} : lf k M (rfs k c M) := by
  unfold rfs
  exact (lf.up (Nat.le_refl _) (by omega)).tr (lf.up (Nat.le_refl _) (by omega))
theorem tkf.lf {k : Nat} {M M' : zMem} (f : tkf k M M') : lf k M M' := fun c h => f.1 c (by omega)
theorem gd_bnd {k : Nat} {A B : zMem → Bool → zMem → Prop} (hA : gd k A) (hB : gd k B) : gd k (bnd A B) := by
  rintro M b M' ⟨b1, M1, h1, ⟨rfl, rfl, rfl⟩ | ⟨rfl, h⟩⟩
  · exact hA _ _ _ h1
  · obtain ⟨a1, a2, -⟩ := hA _ _ _ h1
    obtain ⟨c1, c2, c3⟩ := hB _ _ _ h
    exact ⟨a1.tr c1, fun e => (c2 e).trans (a2 rfl), c3⟩
theorem gd_pre {k : Nat} {B : zMem → Bool → zMem → Prop} {f : zMem → zMem} (hB : gd k B) (hf : ∀ M, lf k M (f M) ∧ f M k 1 = M k 1) : gd k (fun M => B (f M)) := by
  intro M b M' h
  obtain ⟨c1, c2, c3⟩ := hB _ _ _ h
  obtain ⟨f1, f2⟩ := hf M
  exact ⟨f1.tr c1, fun e => (c2 e).trans f2, c3⟩
theorem gd_tkn {k z : Nat} : gd k (tkn k z) := by
  rintro M b M' ⟨p, -, -, ⟨rfl, -, f, -⟩ | ⟨rfl, -, M1, f, -, rfl⟩⟩
  · exact ⟨f.lf, fun _ => f.2 1 (by omega) (by omega) (by omega) (by omega), fun w => by cases w⟩
  · exact ⟨f.lf.tr lf_rfs, fun w => (by cases w), fun _ => ⟨1, M1, by omega, by omega, rfl⟩⟩
theorem gd_rf {k c : Nat} {M M' : zMem} {b : Bool} (h1 : 1 ≤ c) (h5 : c ≤ 5) (hb : b = false) (e : M' = rfs k (nI c) M) : lf k M M' ∧ (b = true → M' k 1 = M k 1) ∧ (b = false → ∃ c X, 1 ≤ c ∧ c ≤ 5 ∧ M' = rfs k (nI c) X) := by
  subst hb e
  exact ⟨lf_rfs, fun w => (by cases w), fun _ => ⟨c, M, h1, h5, rfl⟩⟩
theorem gd_id {k : Nat} {M M' : zMem} {b : Bool} (hb : b = true) (e : M' = M) : lf k M M' ∧ (b = true → M' k 1 = M k 1) ∧ (b = false → ∃ c X, 1 ≤ c ∧ c ≤ 5 ∧ M' = rfs k (nI c) X) := by
  subst hb e
  exact ⟨fun _ _ => rfl, fun _ => rfl, fun w => by cases w⟩
theorem gd_rWi {k : Nat} {lo hi : Int32} : gd k (rWi k lo hi) := by
  rintro M b M' (⟨-, hb, e⟩ | ⟨-, -, hb, e⟩)
  · exact gd_rf (c := 3) (by omega) (by omega) hb e
  · exact gd_id hb e
theorem gd_rNu {k : Nat} {lo hi : Int32} : gd k (rNu k lo hi) := by
  rintro M b M' (⟨-, hb, e⟩ | ⟨-, h⟩)
  · exact gd_rf (c := 2) (by omega) (by omega) hb e
  · exact gd_rWi _ _ _ h
theorem gd_rSi {k : Nat} : gd k (rSi k) := by
  rintro M b M' (⟨-, hb, e⟩ | ⟨-, hb, e⟩)
  · exact gd_rf (c := 2) (by omega) (by omega) hb e
  · exact gd_id hb e
theorem gd_rN {k z : Nat} {lo hi : Int32} : gd k (rN k z lo hi) := gd_bnd gd_tkn gd_rNu
theorem gd_rS {k z : Nat} : gd k (rS k z) := gd_bnd gd_tkn gd_rSi
theorem up_k {k c j : Nat} {x : Int32} {M : zMem} (h : k ≤ c) (h2 : c ≤ k + 5) (hj : c ≠ k ∨ j ≠ 1) : lf k M (zup M c j x) ∧ zup M c j x k 1 = M k 1 := by
  refine ⟨lf.up h h2, ?_⟩
  by_cases e : c = k
  · subst e
    rw [zup_eq, upd_ne (by omega)]
  · rw [zup_ne (Ne.symm e)]
theorem up_tr {k : Nat} {M M1 M2 : zMem} (a : lf k M M1 ∧ M1 k 1 = M k 1) (b : lf k M1 M2 ∧ M2 k 1 = M1 k 1) : lf k M M2 ∧ M2 k 1 = M k 1 := ⟨a.1.tr b.1, b.2.trans a.2⟩
theorem gd_rPi {k z : Nat} : gd k (rPi k z) := by
  rintro M b M' (⟨-, hb, e⟩ | ⟨-, -, h⟩)
  · exact gd_rf (c := 5) (by omega) (by omega) hb e
  · exact gd_bnd gd_rN (gd_pre gd_rS (fun M => up_tr (up_k (by omega) (by omega) (by omega)) (up_k (by omega) (by omega) (by omega)))) _ _ _ h
theorem gd_rWh {k z : Nat} : gd k (rWh k z) := by
  intro M b M' h
  refine gd_bnd (B := fun M1 b M' => ((((M1 (k + 1) 5) >>> ((M1 k 9) &&& 31)) &&& 1) = 1 ∧ b = false ∧ M' = rfs k 4 M1) ∨ (¬ (((M1 (k + 1) 5) >>> ((M1 k 9) &&& 31)) &&& 1) = 1 ∧ rS k z (zup M1 (k + 1) 5 ((M1 (k + 1) 5) ||| (1 <<< ((M1 k 9) &&& 31)))) b M')) gd_rN ?_ _ _ _ h
  rintro M b M' (⟨-, hb, e⟩ | ⟨-, h⟩)
  · exact gd_rf (c := 4) (by omega) (by omega) hb e
  · exact gd_pre (f := fun M1 => zup M1 (k + 1) 5 ((M1 (k + 1) 5) ||| (1 <<< ((M1 k 9) &&& 31)))) gd_rS (fun M => up_k (by omega) (by omega) (by omega)) _ _ _ h
theorem gd_rNs {k z c : Nat} {lo hi : Int32} {C : zMem → Bool → zMem → Prop} (hc : k < c) (hc2 : c ≤ k + 5) (hC : gd k C) : ∀ m i, gd k (rNs k z c lo hi C m i) := by
  intro m
  induction m with
  | zero => intro i; exact hC
  | succ m ih => intro i; exact gd_bnd gd_rN (gd_pre (ih (i + 1)) (fun M => up_k (by omega) (by omega) (by omega)))
theorem gd_rSo {k z n : Nat} : gd k (rSo k z n) := by
  intro M b M' h
  refine gd_pre (f := fun M => zup M k 12 1) (gd_bnd (B := fun M2 b M' => ((((M2 k 11) >>> ((M2 k 9) &&& 31)) &&& 1) = 1 ∧ b = false ∧ M' = rfs k 4 M2) ∨ (¬ (((M2 k 11) >>> ((M2 k 9) &&& 31)) &&& 1) = 1 ∧ rNs k z (k + 3) 0 6 (rS k z) n (ix (M2 k 9) * 8) (zup M2 k 11 ((M2 k 11) ||| (1 <<< ((M2 k 9) &&& 31)))) b M')) (gd_rN (z := z) (lo := 1) (hi := 2)) ?_) (fun M => up_k (by omega) (by omega) (by omega)) _ _ _ h
  rintro M b M' (⟨-, hb, e⟩ | ⟨-, h⟩)
  · exact gd_rf (c := 4) (by omega) (by omega) hb e
  · obtain ⟨u1, u2⟩ := up_k (k := k) (c := k) (j := 11) (x := (M k 11) ||| (1 <<< ((M k 9) &&& 31))) (M := M) (by omega) (by omega) (by omega)
    obtain ⟨c1, c2, c3⟩ := gd_rNs (by omega) (by omega) gd_rS _ _ _ _ _ h
    exact ⟨u1.tr c1, fun e => (c2 e).trans u2, c3⟩
theorem gd_rHa {k z n H : Nat} : gd k (rHa k z n H) := by
  rintro M b M' (⟨-, hb, e⟩ | ⟨-, -, h⟩)
  · exact gd_rf (c := 5) (by omega) (by omega) hb e
  · exact gd_pre (f := fun M => zup M k 12 1) (gd_rNs (c := k + 4) (by omega) (by omega) (gd_pre gd_rS (fun M => up_k (by omega) (by omega) (by omega))) n (H * 8)) (fun M => up_k (by omega) (by omega) (by omega)) _ _ _ h
theorem gd_rOn {k z j : Nat} {hi : Int32} : gd k (rOn k z j hi) := gd_bnd gd_rN (gd_pre gd_rS (fun M => up_k (by omega) (by omega) (by omega)))
theorem gd_rOc {k : Nat} {a : Int32} : gd k (rOc k a) := by
  rintro M b M' (⟨-, hb, e⟩ | ⟨-, hb, e⟩)
  · exact gd_rf (c := 4) (by omega) (by omega) hb e
  · subst hb e
    obtain ⟨u1, u2⟩ := up_k (k := k) (c := k) (j := 10) (x := (M k 10) ||| (1 <<< (a &&& 31))) (M := M) (by omega) (by omega) (by omega)
    exact ⟨u1, fun _ => u2, fun w => by cases w⟩
theorem gd_rRl {k z : Nat} : ∀ m i, gd k (rRl k z m i) := by
  intro m
  induction m with
  | zero =>
    intro i
    rintro M b M' (⟨-, hb, e⟩ | ⟨-, h⟩)
    · exact gd_rf (c := 5) (by omega) (by omega) hb e
    · exact gd_rSi _ _ _ h
  | succ m ih =>
    intro i
    rintro M b M' (⟨-, h⟩ | ⟨-, h⟩)
    · exact gd_rSi _ _ _ h
    · exact gd_bnd gd_rWi (gd_pre (gd_bnd gd_tkn (ih (i + 1))) (fun M => up_tr (up_k (by omega) (by omega) (by omega)) (up_k (by omega) (by omega) (by omega)))) _ _ _ h
theorem gd_rRo {k z : Nat} : gd k (rRo k z) := gd_bnd gd_rN (gd_pre (gd_bnd gd_tkn (gd_rRl 5 1)) (fun M => up_k (by omega) (by omega) (by omega)))
theorem gd_rEn {k z n : Nat} : ∀ m h lo, gd k (rEn k z n m h lo) := by
  intro m
  induction m with
  | zero => intro h lo; exact gd_rS
  | succ m ih =>
    intro h lo
    refine gd_bnd (B := fun M1 => rEn k z n m (h + 1) (M1 k 9) (zup M1 (k + 5) h (M1 k 9))) gd_rN ?_
    intro M b M' hh
    obtain ⟨u1, u2⟩ := up_k (k := k) (c := k + 5) (j := h) (x := M k 9) (M := M) (by omega) (by omega) (by omega)
    obtain ⟨c1, c2, c3⟩ := ih _ _ _ _ _ hh
    exact ⟨u1.tr c1, fun e => (c2 e).trans u2, c3⟩
theorem gd_rEs {k z n H : Nat} {rule : Int32} : gd k (rEs k z n H rule) := gd_pre (f := fun M => zup (zup (zup M k 12 1) k 13 1) (k + 1) 4 rule) (gd_rEn (H - 1) 0 1) (fun M => up_tr (up_tr (up_k (by omega) (by omega) (by omega)) (up_k (by omega) (by omega) (by omega))) (up_k (by omega) (by omega) (by omega)))
theorem gd_rLn {k z n H nm : Nat} : gd k (rLn k z n H nm) := by
  unfold rLn
  split
  · exact gd_rPi
  · exact gd_rWh
  · exact gd_rSo
  · exact gd_bnd gd_rOc gd_rRo
  · exact gd_rHa
  · exact gd_bnd gd_rOc gd_rOn
  · exact gd_bnd gd_rOc gd_rOn
  · exact gd_bnd gd_rOc gd_rS
  · exact gd_bnd gd_rOc gd_rEs
  · exact gd_bnd gd_rOc gd_rEs
theorem gd_rLi {k z n H : Nat} : gd k (rLi k z n H) := by
  rintro M b M' (⟨-, hb, e⟩ | ⟨-, nm, -, -, h⟩)
  · exact gd_rf (c := 2) (by omega) (by omega) hb e
  · exact gd_pre (f := fun M => zup M k 3 (M k 3 + 1)) gd_rLn (fun M => up_k (by omega) (by omega) (by omega)) _ _ _ h
/-- all that is carried from line to line -/
def DA (k z p0 : Nat) (M : zMem) (n H L : Nat) (t1 t2 : Bool) : Prop := rin k z p0 M ∧ DW k M n H L t1 t2 ∧ DN k M L
theorem DA_line {k z p0 n H L : Nat} {t1 t2 : Bool} {M M' : zMem} (d : DA k z p0 M n H L t1 t2) (h : rLi k z n H M true M') : ∃ n' H' L' t1' t2', DA k z p0 M' n' H' L' t1' t2' := by
  obtain ⟨r, dw, dn⟩ := d
  rcases h with ⟨-, h, -⟩ | ⟨-, nm, hnm, -, h⟩
  · cases h
  generalize hX : zup M k 3 (M k 3 + 1) = X at h
  have r1 : rin k z p0 X := rin_mv r (by rw [← hX, zup_eq, upd_ne (by omega)]) (by rw [← hX, zup_eq, upd_ne (by omega)])
  have w1 : DW k X n H L t1 t2 := dw.mv (fun i h1 _ => by rw [← hX, zup_ne (by omega)]) (fun j h1 h2 => by rw [← hX, zup_eq, upd_ne (by omega)])
  have n1 : DN k X L := dn.mv (by rw [← hX, zup_eq, upd_ne (by omega)])
  have ten : ∀ {R : zMem → Bool → zMem → Prop} (_ : ∀ M M', R M true M' → M' k 10 = M k 10), R X true M' → DN k M' L := fun hR h => n1.mv (hR _ _ h)
  have t_tk : ∀ M M', tkn k z M true M' → M' k 10 = M k 10 := fun M M' h => by
    obtain ⟨p, -, -, ⟨-, -, f, -⟩ | ⟨h, -⟩⟩ := h
    · exact f.2 10 (by omega) (by omega) (by omega) (by omega)
    · cases h
  have t_rN : ∀ lo hi M M', rN k z lo hi M true M' → M' k 10 = M k 10 := fun lo hi M M' h => by
    obtain ⟨M1, h1, h⟩ := bnd_t h
    rcases h with ⟨-, h, -⟩ | ⟨-, h⟩
    · cases h
    · rw [(rWi_in h).1]; exact t_tk _ _ h1
  have t_rS : ∀ M M', rS k z M true M' → M' k 10 = M k 10 := fun M M' h => by
    obtain ⟨M1, h1, h⟩ := bnd_t h
    rw [rSi_in h]; exact t_tk _ _ h1
  have t_Ns : ∀ c lo hi (C : zMem → Bool → zMem → Prop), k < c → (∀ M M', C M true M' → M' k 10 = M k 10) → ∀ m i M M', rNs k z c lo hi C m i M true M' → M' k 10 = M k 10 := by
    intro c lo hi C hc hC m
    induction m with
    | zero => intro i M M' h; exact hC _ _ h
    | succ m ih =>
      intro i M M' h
      obtain ⟨M1, h1, h⟩ := bnd_t h
      rw [ih _ _ _ h, zup_ne (by omega)]; exact t_rN _ _ _ _ h1
  have t_En : ∀ m h lo M M', rEn k z n m h lo M true M' → M' k 10 = M k 10 := by
    intro m
    induction m with
    | zero => intro h lo M M' hh; exact t_rS _ _ hh
    | succ m ih =>
      intro h lo M M' hh
      obtain ⟨M1, h1, hh⟩ := bnd_t hh
      rw [ih _ _ _ _ hh, zup_ne (by omega)]; exact t_rN _ _ _ _ h1
  have t_Rl : ∀ m i M M', rRl k z m i M true M' → M' k 10 = M k 10 := by
    intro m
    induction m with
    | zero =>
      intro i M M' h
      rcases h with ⟨-, h, -⟩ | ⟨-, h⟩
      · cases h
      · rw [rSi_in h]
    | succ m ih =>
      intro i M M' h
      rcases h with ⟨-, h⟩ | ⟨-, h⟩
      · rw [rSi_in h]
      · obtain ⟨M1, h1, h⟩ := bnd_t h
        obtain ⟨M2, h2, h⟩ := bnd_t h
        rw [ih _ _ _ h, t_tk _ _ h2, zup_ne (by omega), zup_ne (by omega), (rWi_in h1).1]
  rcases (show nm = 0 ∨ nm = 1 ∨ nm = 2 ∨ nm = 3 ∨ nm = 4 ∨ nm = 5 ∨ nm = 6 ∨ nm = 7 ∨ nm = 8 ∨ nm = 9 by omega) with rfl | rfl | rfl | rfl | rfl | rfl | rfl | rfl | rfl | rfl
  · obtain ⟨s, w⟩ := DW_piece r1 w1 h
    refine ⟨_, _, _, _, _, s, w, ten (R := rPi k z) (fun M M' h => ?_) h⟩
    rcases h with ⟨-, h, -⟩ | ⟨-, -, h⟩
    · cases h
    · obtain ⟨M1, h1, h⟩ := bnd_t h
      rw [t_rS _ _ h, zup_ne (by omega), zup_ne (by omega)]; exact t_rN _ _ _ _ h1
  · obtain ⟨s, w⟩ := DW_whole r1 w1 h
    refine ⟨_, _, _, _, _, s, w, ten (R := rWh k z) (fun M M' h => ?_) h⟩
    obtain ⟨M1, h1, h⟩ := bnd_t h
    rcases h with ⟨-, h, -⟩ | ⟨-, h⟩
    · cases h
    · rw [t_rS _ _ h, zup_ne (by omega)]; exact t_rN _ _ _ _ h1
  · obtain ⟨s, t1', t2', w⟩ := DW_sort r1 w1 h
    refine ⟨_, _, _, _, _, s, w, ten (R := rSo k z n) (fun M M' h => ?_) h⟩
    obtain ⟨M1, h1, h⟩ := bnd_t h
    rcases h with ⟨-, h, -⟩ | ⟨-, h⟩
    · cases h
    · rw [t_Ns _ _ _ _ (by omega) t_rS _ _ _ _ h, zup_eq, upd_ne (by omega), t_rN _ _ _ _ h1, zup_eq, upd_ne (by omega)]
  · obtain ⟨M1, h1, h⟩ := bnd_t h
    obtain ⟨s1, w2⟩ := DW_once r1 w1 h1
    obtain ⟨l1, l2⟩ := rOc_10 h1 n1 (by decide)
    obtain ⟨s, L', w⟩ := DW_row s1 w2 (l1 rfl) h
    refine ⟨_, _, _, _, _, s, w, (l2 L' (fun q => absurd rfl q)).mv ?_⟩
    obtain ⟨M2, h2, h⟩ := bnd_t h
    obtain ⟨M3, h3, h⟩ := bnd_t h
    rw [t_Rl _ _ _ _ h, t_tk _ _ h3, zup_ne (by omega)]; exact t_rN _ _ _ _ h2
  · obtain ⟨s, w⟩ := DW_hand r1 w1 h
    refine ⟨_, _, _, _, _, s, w, ten (R := rHa k z n H) (fun M M' h => ?_) h⟩
    rcases h with ⟨-, h, -⟩ | ⟨-, -, h⟩
    · cases h
    · rw [t_Ns _ _ _ _ (by omega) (fun M M' h => by rw [t_rS _ _ h, zup_ne (by omega)]) _ _ _ _ h, zup_eq, upd_ne (by omega)]
  · obtain ⟨M1, h1, h⟩ := bnd_t h
    obtain ⟨s1, w2⟩ := DW_once r1 w1 h1
    obtain ⟨l1, l2⟩ := rOc_10 h1 n1 (by decide)
    obtain ⟨s, w⟩ := DW_on s1 w2 (by decide) h
    refine ⟨_, _, _, _, _, s, w, (l2 L (fun _ => rfl)).mv ?_⟩
    obtain ⟨M2, h2, h⟩ := bnd_t h
    rw [t_rS _ _ h, zup_ne (by omega)]; exact t_rN _ _ _ _ h2
  · obtain ⟨M1, h1, h⟩ := bnd_t h
    obtain ⟨s1, w2⟩ := DW_once r1 w1 h1
    obtain ⟨l1, l2⟩ := rOc_10 h1 n1 (by decide)
    obtain ⟨s, w⟩ := DW_on s1 w2 (by decide) h
    refine ⟨_, _, _, _, _, s, w, (l2 L (fun _ => rfl)).mv ?_⟩
    obtain ⟨M2, h2, h⟩ := bnd_t h
    rw [t_rS _ _ h, zup_ne (by omega)]; exact t_rN _ _ _ _ h2
  · obtain ⟨M1, h1, h⟩ := bnd_t h
    obtain ⟨s1, w2⟩ := DW_once r1 w1 h1
    obtain ⟨l1, l2⟩ := rOc_10 h1 n1 (by decide)
    obtain ⟨s, f⟩ := rS_in s1 h
    exact ⟨_, _, _, _, _, s, w2.tk f, (l2 L (fun _ => rfl)).tk f⟩
  · obtain ⟨M1, h1, h⟩ := bnd_t h
    obtain ⟨s1, w2⟩ := DW_once r1 w1 h1
    obtain ⟨l1, l2⟩ := rOc_10 h1 n1 (by decide)
    obtain ⟨s, w⟩ := DW_ends (a := 1) (by omega) s1 w2 h
    refine ⟨_, _, _, _, _, s, w, (l2 L (fun _ => rfl)).mv ?_⟩
    rw [t_En _ _ _ _ _ h, zup_ne (by omega), zup_eq, upd_ne (by omega), zup_eq, upd_ne (by omega)]
  · obtain ⟨M1, h1, h⟩ := bnd_t h
    obtain ⟨s1, w2⟩ := DW_once r1 w1 h1
    obtain ⟨l1, l2⟩ := rOc_10 h1 n1 (by decide)
    obtain ⟨s, w⟩ := DW_ends (a := 2) (by omega) s1 w2 h
    refine ⟨_, _, _, _, _, s, w, (l2 L (fun _ => rfl)).mv ?_⟩
    rw [t_En _ _ _ _ _ h, zup_ne (by omega), zup_eq, upd_ne (by omega), zup_eq, upd_ne (by omega)]
theorem st_bit : ∀ t1 t2 : Bool, ∀ s, s < 3 → (((nI (stb t1 t2) >>> (nI s &&& 31)) &&& 1) = 0 ↔ ¬ ((s = 1 ∧ t1 = true) ∨ (s = 2 ∧ t2 = true))) := by decide
/-- the units of a sort, when all is told -/
def us (k : Nat) (M : zMem) (t1 t2 : Bool) (s p : Nat) : Int32 := if s = 0 ∨ (s = 1 ∧ t1 = true) ∨ (s = 2 ∧ t2 = true) then M (k + 3) (s * 8 + p) else M (k + 3) p
theorem us_nI {k n H L : Nat} {t1 t2 : Bool} {M : zMem} (d : DW k M n H L t1 t2) {s p : Nat} (hs : s < 3) (hp : p < n) : ∃ u, u ≤ 6 ∧ us k M t1 t2 s p = nI u := by
  unfold us
  split
  · rename_i h
    exact d.2.2.2.2.2.2.2.2.2.1 s p h hp
  · obtain ⟨u, u1, u2⟩ := d.2.2.2.2.2.2.2.2.2.1 0 p (Or.inl rfl) hp
    exact ⟨u, u1, by rw [← u2]; congr 1; omega⟩
theorem xt_complete {k z n H L : Nat} {t1 t2 : Bool} {M : zMem} {Q : Int32 → zMem → Prop} (d : DW k M n H L t1 t2) (h5 : M k 5 = nI z)
    (hQ6 : (n = 0 ∨ H = 0) → Q 0 (zup (zup M k 1 6) k 2 (nI z)))
    (hQ7 : 0 < n → 0 < H → (∃ s, s < 3 ∧ ∀ p, p < n → us k M t1 t2 s p = 0) → ∀ X, lf k M X → X k 1 = 7 → X k 2 = nI z → (∀ j, j ≠ 1 → j ≠ 2 → X k j = M k j) → Q 0 X)
    (hQ1 : 0 < n → 0 < H → (∀ s, s < 3 → ∃ p, p < n ∧ us k M t1 t2 s p ≠ 0) → ∀ X, lf k M X → X k = M k → X (k + 1) = M (k + 1) → X (k + 2) = M (k + 2) → X (k + 4) = M (k + 4) → (∀ s p, s < 3 → p < n → X (k + 3) (s * 8 + p) = us k M t1 t2 s p) → (∀ h, h < H → X (k + 5) h = if M (k + 1) 4 = 0 ∨ h = H - 1 then nI n else M (k + 5) h) → Q 1 X) : wp_Reader_isComplete k M Q := by
  obtain ⟨⟨b1, b2, b3, b4⟩, en, eH, -⟩ := id d
  have es := d.2.2.2.2.2.2.2.2.2.2.2.2.1
  have six : (n = 0 ∨ H = 0) → wp_Reader_refuse k 6 (M k 5) M (fun zr2 zm1 => zbo zr2 ∧ Q zr2 zm1) := fun h M1 e1 M2 e2 => by
    refine ⟨zbo_0, ?_⟩
    rw [e2, e1, h5]
    exact hQ6 h
  unfold wp_Reader_isComplete
  rw [en, eH]
  refine ⟨fun c => six (Or.inl ((nI_eq (b := 0) (by omega) (by omega)).mp c)), fun c => ⟨fun c2 => ?_, fun c2 => six (Or.inr ((nI_eq (b := 0) (by omega) (by omega)).mp c2))⟩⟩
  have n0 : 0 < n := by
    rcases Nat.eq_zero_or_pos n with w | w
    · rw [w] at c; exact absurd rfl c
    · exact w
  have H0 : 0 < H := by
    rcases Nat.eq_zero_or_pos H with w | w
    · rw [w] at c2; exact absurd rfl c2
    · exact w
  refine zlp1_r (fun m x X => ∃ s, x = nI s ∧ s ≤ 3 ∧ m = 3 - s ∧ (∀ c, c ≠ k + 3 → X c = M c) ∧ (∀ s' p, s' < s → p < n → X (k + 3) (s' * 8 + p) = us k M t1 t2 s' p) ∧ (∀ j, (j < 8 ∨ 8 * s ≤ j) → X (k + 3) j = M (k + 3) j) ∧ ∀ s', s' < s → ∃ p, p < n ∧ us k M t1 t2 s' p ≠ 0) ?_ (n := 3) ⟨0, rfl, by omega, rfl, fun _ _ => rfl, fun _ _ h => absurd h (by omega), fun _ _ => rfl, fun _ h => absurd h (by omega)⟩
  rintro m x X ⟨s, rfl, hs, rfl, f1, f2, f3, f4⟩ J hJ
  unfold wpB_Reader_isComplete_33
  refine ⟨fun c => ?_, fun c => ?_⟩
  · have := (nI_leI (a := 3) (by omega) (by omega)).mp c
    have e3 : s = 3 := by omega
    subst e3
    refine xt_fillEnds (n := n) (H := H) (by rw [f1 (k + 1) (by omega)]; exact en) (by rw [f1 (k + 1) (by omega)]; exact eH) b2 (fun Y a1 a2 a3 => ?_)
    refine hQ1 n0 H0 f4 Y (fun c hc => by rw [a3 c (by omega), f1 c (by omega)]) (by rw [a3 k (by omega), f1 k (by omega)]) (by rw [a3 (k + 1) (by omega), f1 (k + 1) (by omega)]) (by rw [a3 (k + 2) (by omega), f1 (k + 2) (by omega)]) (by rw [a3 (k + 4) (by omega), f1 (k + 4) (by omega)]) (fun s p hs hp => by rw [a3 (k + 3) (by omega)]; exact f2 s p hs hp) (fun h hh => ?_)
    have := a1 h hh
    rw [f1 (k + 1) (by omega), show k + 1 + 4 = k + 5 by omega, f1 (k + 5) (by omega)] at this
    exact this
  · have hs2 : s < 3 := (nI_ltI (b := 3) (by omega) (by omega)).mp (Int32.not_le.mp c)
    have bit := st_bit t1 t2 s hs2
    have x11 : X k 11 = nI (stb t1 t2) := by rw [f1 k (by omega)]; exact es
    have step : ∀ Y : zMem, (∀ c, c ≠ k + 3 → Y c = M c) → (∀ s' p, s' < s + 1 → p < n → Y (k + 3) (s' * 8 + p) = us k M t1 t2 s' p) → (∀ j, (j < 8 ∨ 8 * (s + 1) ≤ j) → Y (k + 3) j = M (k + 3) j) → wpJ_Reader_isComplete_77 k J Q (nI s) Y := fun Y g1 g2 g3 => by
      unfold wpJ_Reader_isComplete_77
      have yn : Y (k + 1) 0 = nI n := by rw [g1 (k + 1) (by omega)]; exact en
      refine xt_pieceFrom (p := 0) yn b1 hs2 (by omega) ?_
      rw [yn, show k + 1 + 2 = k + 3 by omega, show n - 0 = n by omega]
      have pl := sp_pf_le (fun i => Y (k + 3) (s * 8 + i)) n 0
      have pp := sp_pf_pos (fun i => Y (k + 3) (s * 8 + i)) n 0
      have pa := sp_pf_all (fun i => Y (k + 3) (s * 8 + i)) n 0
      generalize sp_pf (fun i => Y (k + 3) (s * 8 + i)) n 0 = q at pl pp pa
      refine ⟨fun w y ey => ?_, fun w M2 e2 M3 e3 => ⟨zbo_0, ?_⟩⟩
      · have hq : q < n := by
          rcases Nat.lt_or_ge q n with u | u
          · exact u
          · exact absurd (by rw [show q = n by omega]) w
        rw [ey, nI_1]
        refine hJ (3 - (s + 1)) _ _ (by omega) ⟨s + 1, rfl, by omega, rfl, g1, g2, g3, fun s' hs' => ?_⟩
        rcases Nat.lt_or_ge s' s with u | u
        · exact f4 s' u
        · have e : s' = s := by omega
          subst e
          have := pp (by omega)
          rw [g2 s' q (by omega) hq] at this
          exact ⟨q, hq, fun e0 => by rw [e0] at this; exact absurd this (by decide)⟩
      · have hq : q = n := (nI_eq (by omega) (by omega)).mp w
        have yk : Y k = M k := g1 k (by omega)
        refine hQ7 n0 H0 ⟨s, hs2, fun p hp => ?_⟩ M3 ?_ ?_ ?_ ?_
        · have := pa p (by omega) (by omega)
          rw [g2 s p (by omega) hp] at this
          obtain ⟨u, u1, u2⟩ := us_nI d hs2 hp
          rw [u2] at this ⊢
          rcases Nat.eq_zero_or_pos u with v | v
          · rw [v]; rfl
          · exact absurd ((nI_0lt (by omega)).mpr v) this
        · intro c hc
          rw [e3, zup_ne (by omega), e2, zup_ne (by omega)]; exact g1 c (by omega)
        · rw [e3, zup_eq, upd_ne (by omega), e2, zup_eq, upd_eq]
        · rw [e3, zup_eq, upd_eq, yk]; exact h5
        · intro j j1 j2
          rw [e3, zup_eq, upd_ne j2, e2, zup_eq, upd_ne j1, yk]
    have keep : (s = 0 ∨ (s = 1 ∧ t1 = true) ∨ (s = 2 ∧ t2 = true)) → wpJ_Reader_isComplete_77 k J Q (nI s) X := fun hc => step X f1 (fun s' p hs' hp => by
      rcases Nat.lt_or_ge s' s with u | u
      · exact f2 s' p u hp
      · have e : s' = s := by omega
        subst e
        unfold us
        rw [if_pos hc]
        exact f3 _ (by omega)) (fun j hj => f3 j (by omega))
    rw [x11]
    refine ⟨fun w => keep ?_, fun w => ⟨fun v => keep (Or.inl ?_), fun v => ⟨?_, fun Y eY => step Y (fun c hc => ?_) (fun s' p hs' hp => ?_) (fun j hj => ?_)⟩⟩⟩
    · rcases Classical.em ((s = 1 ∧ t1 = true) ∨ (s = 2 ∧ t2 = true)) with u | u
      · exact Or.inr u
      · exact absurd (bit.mpr u) w
    · have := (nI_leI (b := 0) (by omega) (by omega)).mp v
      omega
    · have e8 : nI s * 8 = nI (s * 8) := by rw [show (8 : Int32) = nI 8 from rfl, q_mul]
      rw [e8]
      refine ⟨by decide, nI_pos (by omega), by decide, by decide, ?_⟩
      rw [q_ix (by omega)]
      show s * 8 + ix (nI 8) ≤ 24
      rw [q_ix (by omega)]
      omega
    · rw [eY, zcopy_ne hc]; exact f1 c hc
    · have s0 : s ≠ 0 := fun e => v (by rw [e]; decide)
      have e8 : nI s * 8 = nI (s * 8) := by rw [show (8 : Int32) = nI 8 from rfl, q_mul]
      rw [eY, e8]
      rcases Nat.lt_or_ge s' s with u | u
      · show zcopyM X (k + 3) (k + 3) (nI 0) (nI (s * 8)) (nI 8) (k + 3) (s' * 8 + p) = _
        rw [zcopy_out (by omega) (by omega) (by omega) (by omega)]
        exact f2 s' p u hp
      · have e : s' = s := by omega
        subst e
        show zcopyM X (k + 3) (k + 3) (nI 0) (nI (s' * 8)) (nI 8) (k + 3) (s' * 8 + p) = _
        rw [zcopy_in (by omega) (by omega) (by omega) (by omega) (by omega)]
        unfold us
        rw [if_neg (fun q => q.elim s0 (bit.mp w)), show 0 + (s' * 8 + p - s' * 8) = p by omega]
        exact f3 p (by omega)
    · have s0 : s ≠ 0 := fun e => v (by rw [e]; decide)
      have e8 : nI s * 8 = nI (s * 8) := by rw [show (8 : Int32) = nI 8 from rfl, q_mul]
      rw [eY, e8]
      show zcopyM X (k + 3) (k + 3) (nI 0) (nI (s * 8)) (nI 8) (k + 3) j = _
      rw [zcopy_out (by omega) (by omega) (by omega) (by omega)]
      exact f3 j (by omega)
theorem tk_e_st {T : Nat → Int32} {z q : Nat} (ho : tk_o T z q) (hk : tk_k T z q ≠ 0) : q + 1 ≤ tk_e T z q := by
  have hqz : q < z := by
    unfold tk_k at hk
    split at hk
    · assumption
    · exact absurd rfl hk
  rcases ho with h | h | ⟨h, -⟩ | ⟨h, -⟩
  · exact absurd h hk
  · unfold tk_e; rw [if_neg (by omega), if_neg (by omega), if_pos h]; omega
  · have hl : isL (T q) = true := by
      unfold tk_k at h
      rw [if_pos hqz] at h
      split at h
      · omega
      · split at h
        · assumption
        · split at h <;> omega
    unfold tk_e
    rw [if_pos h, tk_s_go hqz hl]
    exact (tk_s_le _ _).1
  · have hf : isF (T q) = true := by
      unfold tk_k at h
      rw [if_pos hqz] at h
      split at h
      · omega
      · split at h
        · omega
        · split at h
          · assumption
          · omega
    unfold tk_e
    rw [if_neg (by omega), if_pos h, tk_s_go hqz hf]
    exact (tk_s_le _ _).1
theorem tk_k_b {T : Nat → Int32} {z q : Nat} : tk_k T z q ≤ 4 := by
  unfold tk_k
  split
  · split
    · omega
    · split
      · omega
      · split <;> omega
  · omega
theorem tkn_st {k z i : Nat} {M M1 : zMem} (r : rin k z i M) (h : tkn k z M true M1) (h7 : ¬ M1 k 7 = 0) : rin k z (i + 1) M1 := by
  obtain ⟨r1, -⟩ := tkn_in r h
  obtain ⟨p, hp, e6, h⟩ := h
  obtain ⟨r5, rz, p', ⟨hp0, hpz⟩, e6'⟩ := r
  have ep : p' = p := (nI_eq (by omega) (by omega)).mp (e6'.symm.trans e6)
  subst ep
  rcases h with ⟨-, ho, f, a6, a7, -⟩ | ⟨h, -⟩
  · have hk : tk_k (M (k + 6)) z (tk_q (M (k + 6)) z p') ≠ 0 := fun e => h7 (by rw [a7, e]; rfl)
    have hq := tk_q_b (T := M (k + 6)) hp
    have hb := tk_e_b (T := M (k + 6)) hq.2
    have hs := tk_e_st ho hk
    exact ⟨r1.1, rz, _, ⟨by omega, hb.2⟩, a6⟩
  · cases h
theorem tkn_nm {k z : Nat} {M M1 : zMem} (h : tkn k z M true M1) (h7 : M1 k 7 = 1) : ∃ nm, nm < 10 ∧ M1 k 9 = nI nm := by
  obtain ⟨p, hp, e6, h⟩ := h
  rcases h with ⟨-, ho, -, -, a7, -, a9⟩ | ⟨h, -⟩
  · have hk : tk_k (M (k + 6)) z (tk_q (M (k + 6)) z p) = 1 := (nI_eq (by have := tk_k_b (T := M (k + 6)) (z := z) (q := tk_q (M (k + 6)) z p); omega) (by omega)).mp (a7.symm.trans h7)
    have a9 := a9 (Or.inl hk)
    rcases ho with h | h | ⟨-, h⟩ | ⟨h, -⟩
    · omega
    · omega
    · exact ⟨_, h, by rw [a9]; unfold tk_v; rw [if_pos hk]⟩
    · omega
  · cases h
/-- line by line: f lines at most -/
def rAl (k z : Nat) : Nat → zMem → zMem → Prop
  | 0 => fun _ _ => False
  | f + 1 => fun M M' => ∃ b1 M1, tkn k z M b1 M1 ∧ ((b1 = false ∧ M' = M1) ∨ (b1 = true ∧ M1 k 7 = 0 ∧ M' = M1) ∨ (b1 = true ∧ ¬ M1 k 7 = 0 ∧ ∃ n H b2 M2, M1 (k + 1) 0 = nI n ∧ n ≤ 8 ∧ M1 (k + 1) 1 = nI H ∧ H ≤ 5 ∧ rLi k z n H M1 b2 M2 ∧ ((b2 = false ∧ M' = M2) ∨ (b2 = true ∧ rAl k z f M2 M'))))
theorem xt_lines {k z n0 H0 L0 : Nat} {u1 u2 : Bool} {M : zMem} {Q : Int32 → zMem → Prop} (d : DA k z 0 M n0 H0 L0 u1 u2)
    (hQ : ∀ M', rAl k z 401 M M' → (¬ M' k 1 = 0 → Q 0 M') ∧ (M' k 1 = 0 → wp_Reader_isComplete k M' (fun zr12 zm11 => (zr12 = 0 → Q 0 zm11) ∧ (¬ zr12 = 0 → Q 1 zm11)))) : ∃ n, zlp2 (wpB_Reader_readAll_51 k Q) n 1 0 M := by
  refine zlp2_r (fun m x1 x2 M' => ∃ i, x2 = nI i ∧ i ≤ 401 ∧ m = 401 - i ∧ ((x1 = 0 ∧ (¬ M' k 1 = 0 → Q 0 M') ∧ (M' k 1 = 0 → wp_Reader_isComplete k M' (fun zr12 zm11 => (zr12 = 0 → Q 0 zm11) ∧ (¬ zr12 = 0 → Q 1 zm11)))) ∨ (x1 = 1 ∧ (∃ n H L t1 t2, DA k z i M' n H L t1 t2) ∧ ∀ M'', rAl k z (401 - i) M' M'' → (¬ M'' k 1 = 0 → Q 0 M'') ∧ (M'' k 1 = 0 → wp_Reader_isComplete k M'' (fun zr12 zm11 => (zr12 = 0 → Q 0 zm11) ∧ (¬ zr12 = 0 → Q 1 zm11)))))) ?_ (n := 401) ⟨0, rfl, by omega, rfl, Or.inr ⟨rfl, ⟨_, _, _, _, _, d⟩, hQ⟩⟩
  rintro m x1 x2 M' ⟨i, rfl, hi, rfl, hc⟩ J hJ
  unfold wpB_Reader_readAll_51
  rcases hc with ⟨rfl, hq⟩ | ⟨rfl, ⟨n, H, L, t1, t2, da⟩, rQ⟩
  · exact ⟨fun _ => hq, fun _ => ⟨fun _ => hq, fun w => absurd rfl w⟩⟩
  · obtain ⟨r, dw, dn⟩ := da
    have hi2 : i ≤ 400 := by
      obtain ⟨-, rz, p, ⟨h1, h2⟩, -⟩ := r
      omega
    refine ⟨fun c => ?_, fun c => ⟨fun w => absurd w (by decide), fun _ => ?_⟩⟩
    · have := (nI_ltI (a := 400) (by omega) (by omega)).mp c
      omega
    obtain ⟨f, ef⟩ : ∃ f, 401 - i = f + 1 := ⟨400 - i, by omega⟩
    have ef2 : 401 - (i + 1) = f := by omega
    rw [ef] at rQ
    refine xt_tkn r (fun b1 M1 h1 => ?_)
    cases b1 with
    | false =>
      refine ⟨fun _ y ey => ?_, fun w => absurd rfl w⟩
      rw [ey, nI_1]
      exact hJ (401 - (i + 1)) _ _ _ (by omega) ⟨i + 1, rfl, by omega, rfl, Or.inl ⟨rfl, rQ M1 ⟨false, M1, h1, Or.inl ⟨rfl, rfl⟩⟩⟩⟩
    | true =>
      refine ⟨fun w => absurd w (by decide), fun _ => ⟨fun c7 y ey => ?_, fun c7 => ?_⟩⟩
      · rw [ey, nI_1]
        exact hJ (401 - (i + 1)) _ _ _ (by omega) ⟨i + 1, rfl, by omega, rfl, Or.inl ⟨rfl, rQ M1 ⟨true, M1, h1, Or.inr (Or.inl ⟨rfl, c7, rfl⟩)⟩⟩⟩
      · obtain ⟨-, f1⟩ := tkn_in r h1
        have r1 := tkn_st r h1 c7
        have d1 : DA k z (i + 1) M1 n H L t1 t2 := ⟨r1, dw.tk f1, dn.tk f1⟩
        obtain ⟨⟨b1, b2, b3, b4⟩, en, eH, -⟩ := id d1.2.1
        have hnm : ∃ nm, M1 k 7 = 1 → nm < 10 ∧ M1 k 9 = nI nm := by
          by_cases w : M1 k 7 = 1
          · obtain ⟨nm, a, b⟩ := tkn_nm h1 w
            exact ⟨nm, fun _ => ⟨a, b⟩⟩
          · exact ⟨0, fun v => absurd v w⟩
        obtain ⟨nm, hnm⟩ := hnm
        refine xt_line (nm := nm) r1 en b1 eH b2 hnm (fun b2' M2 h2 => ?_)
        cases b2' with
        | false =>
          refine ⟨fun _ y ey => ?_, fun w => absurd rfl w⟩
          rw [ey, nI_1]
          exact hJ (401 - (i + 1)) _ _ _ (by omega) ⟨i + 1, rfl, by omega, rfl, Or.inl ⟨rfl, rQ M2 ⟨true, M1, h1, Or.inr (Or.inr ⟨rfl, c7, n, H, false, M2, en, b1, eH, b2, h2, Or.inl ⟨rfl, rfl⟩⟩)⟩⟩⟩
        | true =>
          refine ⟨fun w => absurd w (by decide), fun _ y ey => ?_⟩
          rw [ey, nI_1]
          exact hJ (401 - (i + 1)) _ _ _ (by omega) ⟨i + 1, rfl, by omega, rfl, Or.inr ⟨rfl, DA_line d1 h2, fun M'' h => rQ M'' ⟨true, M1, h1, Or.inr (Or.inr ⟨rfl, c7, n, H, true, M2, en, b1, eH, b2, h2, Or.inr ⟨rfl, by rw [ef2] at h; exact h⟩⟩)⟩⟩⟩
/-- the token at hand is the same -/
def AT (k : Nat) (M W : zMem) : Prop := W 0 3 = 0 ∧ W 0 5 = M k 6 ∧ W 0 6 = M k 8 ∧ W 0 7 = M k 7 ∧ (M k 7 = 1 ∨ M k 7 = 2 → W 0 8 = M k 9)
/-- a fault has been met, the same one -/
def BAD (k : Nat) (M W : zMem) : Prop := ∃ c, 1 ≤ c ∧ c ≤ 7 ∧ W 0 3 = nI c ∧ M k 1 = nI c ∧ W 0 4 = M k 2
def bw (W : zMem) : Prop := ∃ c, 1 ≤ c ∧ c ≤ 7 ∧ W 0 3 = nI c
theorem BAD.w {k : Nat} {M W : zMem} (h : BAD k M W) : bw W := by
  obtain ⟨c, a, b, e, -⟩ := h
  exact ⟨c, a, b, e⟩
theorem bw.ne {W : zMem} (h : bw W) : ¬ W 0 3 = 0 := by
  obtain ⟨c, a, b, e⟩ := h
  rw [e]
  exact nI_ne0 (by omega) (by omega)
/-- what a line of the reference may change -/
def lw (W W' : zMem) : Prop := (∀ c, c ≠ 0 → c ≠ 5 → W' c = W c) ∧ ∀ j, (j < 3 ∨ (9 ≤ j ∧ j ≤ 12) ∨ 16 ≤ j) → W' 0 j = W 0 j
theorem lw.rf {W : zMem} : lw W W := ⟨fun _ _ _ => rfl, fun _ _ => rfl⟩
theorem lw.tr {W W1 W2 : zMem} (a : lw W W1) (b : lw W1 W2) : lw W W2 := ⟨fun c h h2 => (b.1 c h h2).trans (a.1 c h h2), fun j h => (b.2 j h).trans (a.2 j h)⟩
theorem tkw.l {W W' : zMem} (a : tkw W W') : lw W W' := ⟨fun c h _ => a.1 c h, fun j h => a.2 j (by omega)⟩
theorem lw.u5 {W : zMem} {j : Nat} {x : Int32} : lw W (zup W 5 j x) := ⟨fun c _ h => zup_ne h, fun i _ => by rw [zup_ne (by omega)]⟩
theorem lw.u0 {W : zMem} {j : Nat} {x : Int32} (h : (3 ≤ j ∧ j ≤ 8) ∨ (13 ≤ j ∧ j ≤ 15)) : lw W (zup W 0 j x) := ⟨fun c h _ => zup_ne h, fun i hi => by rw [zup_eq, upd_ne (by omega)]⟩
theorem tkw.fs {W : zMem} {c : Int32} : tkw W (wfs c W) := by
  unfold wfs
  exact (tkw.rf.up (by omega) (by omega)).up (by omega) (by omega)
/-- the tape and the table of words, for both -/
def WS (k z : Nat) (M W : zMem) : Prop := W 0 1 = nI z ∧ z ≤ 400 ∧ tpe (M (k + 6)) (W 1) z ∧ wtb W
theorem WS.mv {k z : Nat} {M M' W W' : zMem} (h : WS k z M W) (f : lf k M M') (g : lw W W') : WS k z M' W' := by
  obtain ⟨a, b, c, d⟩ := h
  refine ⟨(g.2 1 (by omega)).trans a, b, ?_, ?_⟩
  · rw [f (k + 6) (by omega), g.1 1 (by omega) (by omega)]; exact c
  · unfold wtb
    rw [g.1 2 (by omega) (by omega), g.1 3 (by omega) (by omega)]; exact d
/-- the reference has read what the class reads next -/
def NXT (k z : Nat) (M W : zMem) : Prop := ∃ p, p ≤ z ∧ M k 6 = nI p ∧ nT (M (k + 6)) z p W
theorem mt_nx {k z p0 : Nat} {M W : zMem} {Q : zMem → Prop} (h3 : W 0 3 = 0) (h5 : W 0 5 = M k 6) (s : WS k z M W) (r : rin k z p0 M) (hQ : ∀ W', tkw W W' → NXT k z M W' → Q W') : wp_Model_next W Q := by
  obtain ⟨-, -, p, ⟨-, hp⟩, e6⟩ := r
  exact mt_next h3 s.1 s.2.1 (h5.trans e6) hp s.2.2.1 s.2.2.2 (fun W' f h => hQ W' f ⟨p, hp, e6, h⟩)
theorem nx_tkn {k z : Nat} {M M1 W : zMem} {b : Bool} (hz : z ≤ 400) (h : NXT k z M W) (t : tkn k z M b M1) : (b = true → AT k M1 W) ∧ (b = false → BAD k M1 W) := by
  obtain ⟨p, hp, e6, h6, h⟩ := h
  obtain ⟨p', hp', e6', t⟩ := t
  have ep : p = p' := (nI_eq (by omega) (by omega)).mp (e6.symm.trans e6')
  subst ep
  rcases t with ⟨rfl, ho, f, a6, a7, a8, a9⟩ | ⟨rfl, ho, M2, f, a8, rfl⟩
  · refine ⟨fun _ => ?_, fun w => by cases w⟩
    rcases h with ⟨-, c3, c5, c7, c8⟩ | ⟨c, -⟩
    · refine ⟨c3, c5.trans a6.symm, h6.trans a8.symm, c7.trans a7.symm, fun w => ?_⟩
      have hk : tk_k (M (k + 6)) z (tk_q (M (k + 6)) z p) = 1 ∨ tk_k (M (k + 6)) z (tk_q (M (k + 6)) z p) = 2 := by
        have hb := tk_k_b (T := M (k + 6)) (z := z) (q := tk_q (M (k + 6)) z p)
        rw [a7] at w
        rcases w with w | w
        · exact Or.inl ((nI_eq (b := 1) (by omega) (by omega)).mp w)
        · exact Or.inr ((nI_eq (b := 2) (by omega) (by omega)).mp w)
      rw [c8 hk, a9 hk]
    · exact absurd ho c
  · refine ⟨fun w => (by cases w), fun _ => ?_⟩
    rcases h with ⟨c, -⟩ | ⟨-, c3, c4⟩
    · exact absurd c ho
    · refine ⟨1, by omega, by omega, c3, ?_, ?_⟩
      · unfold rfs; rw [zup_eq, upd_ne (by omega), zup_eq, upd_eq]; rfl
      · unfold rfs; rw [zup_eq, upd_eq, a8]; exact c4
theorem BAD_fs {k c : Nat} {M W : zMem} (h6 : W 0 6 = M k 8) (h1 : 1 ≤ c) (h7 : c ≤ 7) : BAD k (rfs k (nI c) M) (wfs (nI c) W) := by
  refine ⟨c, h1, h7, ?_, ?_, ?_⟩
  · unfold wfs; rw [zup_eq, upd_ne (by omega), zup_eq, upd_eq]
  · unfold rfs; rw [zup_eq, upd_ne (by omega), zup_eq, upd_eq]
  · unfold wfs rfs; rw [zup_eq, upd_eq, zup_eq, upd_eq]; exact h6
theorem BAD.mv {k : Nat} {M W W' : zMem} (h : BAD k M W) (e3 : W' 0 3 = W 0 3) (e4 : W' 0 4 = W 0 4) : BAD k M W' := by
  obtain ⟨c, a, b, e, f, g⟩ := h
  exact ⟨c, a, b, e3.trans e, f, e4.trans g⟩
theorem mt_num {k : Nat} {lo hi : Int32} {M M' W : zMem} {b : Bool} {Q : Int32 → zMem → Prop} (a : AT k M W) (h : rNu k lo hi M b M') (ht : b = true → M' = M → Q (M k 9) W) (hf : ∀ W', b = false → tkw W W' → BAD k M' W' → Q lo W') : wp_Model_number lo hi W Q := by
  obtain ⟨a3, a5, a6, a7, a8⟩ := a
  have nb : ∀ c : Nat, 1 ≤ c → c ≤ 7 → ¬ wfs (nI c) W 0 3 = 0 := fun c c1 c7 => by
    unfold wfs
    rw [zup_eq, upd_ne (by omega), zup_eq, upd_eq]
    exact nI_ne0 (by omega) (by omega)
  unfold wp_Model_number wpJ_Model_number_20
  refine ⟨fun w => absurd a3 w, fun _ => ⟨fun c7 => ⟨fun w => absurd a3 w, fun _ => ?_⟩, fun c7 => e_fails (c := nI 2) a3 ⟨fun _ => ⟨fun _ => ?_, fun w => absurd w (nb 2 (by omega) (by omega))⟩, fun w => absurd w (nb 2 (by omega) (by omega))⟩⟩⟩
  · rw [a7] at c7
    rcases h with ⟨c, -⟩ | ⟨-, h⟩
    · exact absurd c7 c
    rw [a8 (Or.inr c7)]
    rcases h with ⟨c, rfl, rfl⟩ | ⟨c1, c2, rfl, rfl⟩
    · refine mt_in (lo' := lo) (hi' := hi) rfl rfl (fun d1 d2 => ?_) (fun d => ⟨fun w => absurd rfl w, fun _ => e_fails (c := nI 3) a3 ⟨fun _ => hf _ rfl tkw.fs (BAD_fs (c := 3) a6 (by omega) (by omega)), fun w => absurd w (nb 3 (by omega) (by omega))⟩⟩)
      rcases c with c | c
      · exact absurd c (Int32.not_lt.mpr d1)
      · exact absurd d2 c
    · refine mt_in (lo' := lo) (hi' := hi) rfl rfl (fun d1 d2 => ⟨fun _ => ⟨fun w => absurd a3 w, fun _ => ?_⟩, fun w => absurd w (by decide)⟩) (fun d => absurd ⟨Int32.not_lt.mp c1, c2⟩ d)
      have := ht rfl rfl
      rw [a8 (Or.inr c7)]
      exact this
  · rw [a7] at c7
    rcases h with ⟨-, rfl, rfl⟩ | ⟨c, -⟩
    · exact hf _ rfl tkw.fs (BAD_fs (c := 2) a6 (by omega) (by omega))
    · exact absurd c c7
theorem mt_num_bad {lo hi : Int32} {W : zMem} {Q : Int32 → zMem → Prop} (h : bw W) (hQ : Q lo W) : wp_Model_number lo hi W Q := by
  have n := h.ne
  unfold wp_Model_number wpJ_Model_number_20
  exact ⟨fun _ => ⟨fun _ => ⟨fun _ => hQ, fun w => absurd w n⟩, fun w => absurd w n⟩, fun w => absurd w n⟩
/-- a fault stays as it is -/
def kb (W W' : zMem) : Prop := lw W W' ∧ W' 0 3 = W 0 3 ∧ W' 0 4 = W 0 4
theorem kb.rf {W : zMem} : kb W W := ⟨lw.rf, rfl, rfl⟩
theorem kb.tr {W W1 W2 : zMem} (a : kb W W1) (b : kb W1 W2) : kb W W2 := ⟨a.1.tr b.1, b.2.1.trans a.2.1, b.2.2.trans a.2.2⟩
theorem kb.u5 {W : zMem} {j : Nat} {x : Int32} : kb W (zup W 5 j x) := ⟨lw.u5, by rw [zup_ne (by omega)], by rw [zup_ne (by omega)]⟩
theorem kb.u0 {W : zMem} {j : Nat} {x : Int32} (h : 13 ≤ j ∧ j ≤ 15) : kb W (zup W 0 j x) := ⟨lw.u0 (by omega), by rw [zup_eq, upd_ne (by omega)], by rw [zup_eq, upd_ne (by omega)]⟩
theorem kb.w {W W' : zMem} (a : kb W W') (h : bw W) : bw W' := by
  obtain ⟨c, x, y, e⟩ := h
  exact ⟨c, x, y, a.2.1.trans e⟩
theorem BAD.kb {k : Nat} {M W W' : zMem} (h : BAD k M W) (a : kb W W') : BAD k M W' := h.mv a.2.1 a.2.2
theorem mt_nums_bad {a m : Nat} {lo hi : Int32} {W : zMem} {Q : zMem → Prop} (h : bw W) (ha : a + m ≤ 100) (hQ : ∀ W', kb W W' → (∀ j, (j < a ∨ a + m ≤ j) → W' 5 j = W 5 j) → Q W') : wp_Model_numbers (nI a) (nI m) lo hi W Q := by
  refine zlp1_r (fun n x W' => ∃ i, x = nI i ∧ i ≤ m ∧ n = m - i ∧ kb W W' ∧ ∀ j, (j < a ∨ a + m ≤ j) → W' 5 j = W 5 j) ?_ (n := m) ⟨0, rfl, by omega, rfl, kb.rf, fun _ _ => rfl⟩
  rintro n x W' ⟨i, rfl, hi, rfl, k1, k2⟩ J hJ
  unfold wpB_Model_numbers_3
  refine ⟨fun _ => hQ W' k1 k2, fun c => ?_⟩
  have hi2 : i < m := (nI_ltI (by omega) (by omega)).mp (Int32.not_le.mp c)
  refine mt_num_bad (k1.w h) ?_
  rw [q_add, q_ix (by omega)]
  refine ⟨vp_in_nI (by omega) (by omega), fun W3 e3 => ?_⟩
  have k3 : kb W W3 := k1.tr (by rw [e3]; exact kb.u5)
  refine mt_next_no (k3.w h) (fun y ey => ?_)
  rw [ey, nI_1]
  exact hJ (m - (i + 1)) _ _ (by omega) ⟨i + 1, rfl, by omega, rfl, k3, fun j hj => by rw [e3, zup_eq, upd_ne (by omega)]; exact k2 j hj⟩
/-- the end of a line: the sign, and what stands behind it -/
theorem mt_sign {k z p0 : Nat} {X M' W : zMem} {b : Bool} {Q : zMem → Prop} (n : NXT k z X W) (s : WS k z X W) (r : rin k z p0 X) (h : rS k z X b M') (ht : ∀ W', b = true → tkw W W' → NXT k z M' W' → Q W') (hf : ∀ W', b = false → tkw W W' → BAD k M' W' → Q W') : wpJ_Model_readLine_218 Q W := by
  obtain ⟨b1, M1, t, h⟩ := h
  obtain ⟨n1, n2⟩ := nx_tkn s.2.1 n t
  unfold wpJ_Model_readLine_218
  rcases h with ⟨rfl, rfl, rfl⟩ | ⟨rfl, h⟩
  · have bd := n2 rfl
    exact ⟨fun _ => mt_next_no bd.w (hf W rfl tkw.rf bd), fun w => absurd w bd.w.ne⟩
  · have at1 := n1 rfl
    obtain ⟨r1, f1⟩ := tkn_in r t
    refine ⟨fun w => absurd at1.1 w, fun _ => ⟨fun c => ?_, fun c => ?_⟩⟩
    · rw [at1.2.2.2.1] at c
      rcases h with ⟨d, -⟩ | ⟨-, rfl, rfl⟩
      · exact absurd c d
      · exact mt_nx at1.1 at1.2.1 (s.mv f1.lf lw.rf) r1 (fun W' f h => ht W' rfl f h)
    · rw [at1.2.2.2.1] at c
      rcases h with ⟨-, rfl, rfl⟩ | ⟨d, -⟩
      · have bd := BAD_fs (c := 2) at1.2.2.1 (by omega) (by omega)
        exact e_fails (c := nI 2) at1.1 (mt_next_no bd.w (hf _ rfl tkw.fs bd))
      · exact absurd d c
theorem mt_sign_bad {W : zMem} {Q : zMem → Prop} (h : bw W) (hQ : Q W) : wpJ_Model_readLine_218 Q W := ⟨fun _ => mt_next_no h hQ, fun w => absurd w h.ne⟩
/-- what both have been told -/
def EQ (k : Nat) (M W : zMem) (n H L : Nat) (t1 t2 : Bool) : Prop :=
  (∀ j, j ≤ 6 → W 5 j = M (k + 1) j) ∧ (∀ i, i < L → W 5 (10 + i) = M (k + 2) i) ∧ (∀ s p, (s = 0 ∨ (s = 1 ∧ t1 = true) ∨ (s = 2 ∧ t2 = true)) → p < n → W 5 (30 + 8 * s + p) = M (k + 3) (s * 8 + p)) ∧ (∀ h p, h < H → p < n → W 5 (60 + 8 * h + p) = M (k + 4) (h * 8 + p)) ∧ (¬ M (k + 1) 4 = 0 → ∀ h, h + 1 < H → W 5 (20 + h) = M (k + 5) h) ∧ W 0 13 = M k 10 ∧ W 0 14 = M k 11 ∧ W 0 15 = M k 13
theorem EQ.mv {k n H L : Nat} {t1 t2 : Bool} {M M' W W' : zMem} (h : EQ k M W n H L t1 t2) (f : ∀ i, 1 ≤ i → i ≤ 5 → M' (k + i) = M (k + i)) (f2 : M' k 10 = M k 10 ∧ M' k 11 = M k 11 ∧ M' k 13 = M k 13) (g : tkw W W') : EQ k M' W' n H L t1 t2 := by
  unfold EQ at h ⊢
  rw [f 1 (by omega) (by omega), f 2 (by omega) (by omega), f 3 (by omega) (by omega), f 4 (by omega) (by omega), f 5 (by omega) (by omega), f2.1, f2.2.1, f2.2.2, g.1 5 (by omega), g.2 13 (by omega), g.2 14 (by omega), g.2 15 (by omega)]
  exact h
theorem EQ.tk {k n H L : Nat} {t1 t2 : Bool} {M M' W W' : zMem} (h : EQ k M W n H L t1 t2) (f : tkf k M M') (g : tkw W W') : EQ k M' W' n H L t1 t2 := h.mv (fun i h1 _ => f.1 _ (by omega)) ⟨f.2 10 (by omega) (by omega) (by omega) (by omega), f.2 11 (by omega) (by omega) (by omega) (by omega), f.2 13 (by omega) (by omega) (by omega) (by omega)⟩ g
/-- how a line of the reference ends -/
def PL (k z : Nat) (M' W : zMem) (b : Bool) (Q : zMem → Prop) : Prop := (∀ W', b = true → lw W W' → NXT k z M' W' → (∃ n H L t1 t2, DW k M' n H L t1 t2 ∧ EQ k M' W' n H L t1 t2) → Q W') ∧ (∀ W', b = false → lw W W' → BAD k M' W' → Q W')
theorem mt_numN {k z : Nat} {lo hi : Int32} {M M1 W : zMem} {b : Bool} {Q : Int32 → zMem → Prop} (n : NXT k z M W) (hz : z ≤ 400) (h : rN k z lo hi M b M1) (ht : b = true → AT k M1 W → Q (M1 k 9) W) (hf : ∀ W', b = false → tkw W W' → BAD k M1 W' → Q lo W') : wp_Model_number lo hi W Q := by
  obtain ⟨b0, M0, t, h⟩ := h
  obtain ⟨n1, n2⟩ := nx_tkn hz n t
  rcases h with ⟨rfl, rfl, rfl⟩ | ⟨rfl, h⟩
  · have bd := n2 rfl
    exact mt_num_bad bd.w (hf W rfl tkw.rf bd)
  · have a := n1 rfl
    exact mt_num a h (fun hb e => by
      have := ht hb (by rw [e]; exact a)
      rw [e] at this; exact this) hf
theorem mt_end {k z p0 n H L : Nat} {t1 t2 : Bool} {X M' W W3 : zMem} {b : Bool} {Q : zMem → Prop} (h3 : W3 0 3 = 0) (h5 : W3 0 5 = X k 6) (s : WS k z X W3) (r : rin k z p0 X) (h : rS k z X b M') (l : lw W W3) (e : EQ k X W3 n H L t1 t2) (hD : b = true → DW k M' n H L t1 t2) (q : PL k z M' W b Q) : wp_Model_next W3 (fun W4 => wpJ_Model_readLine_218 Q W4) :=
  mt_nx h3 h5 s r (fun W4 f4 n4 => mt_sign n4 (s.mv (fun _ _ => rfl) f4.l) r h (fun W' hb f' n' => q.1 W' hb ((l.tr f4.l).tr f'.l) n' ⟨_, _, _, _, _, hD hb, e.tk (rS_in r (by rw [hb] at h; exact h)).2 (f4.tr f')⟩) (fun W' hb f' bd => q.2 W' hb ((l.tr f4.l).tr f'.l) bd))
theorem mt_endb {k z : Nat} {M' W W3 : zMem} {b : Bool} {Q : zMem → Prop} (hb : b = false) (bd : BAD k M' W3) (l : lw W W3) (q : PL k z M' W b Q) : wp_Model_next W3 (fun W4 => wpJ_Model_readLine_218 Q W4) := mt_next_no bd.w (mt_sign_bad bd.w (q.2 W3 hb l bd))
theorem mt_piece {k z p0 n H L : Nat} {t1 t2 : Bool} {M M' W : zMem} {b : Bool} {Q : zMem → Prop} (a : AT k M W) (s : WS k z M W) (r : rin k z p0 M) (d : DW k M n H L t1 t2) (e : EQ k M W n H L t1 t2) (h : rPi k z M b M') (q : PL k z M' W b Q) : wp_Model_readPiece W (fun W1 => wpJ_Model_readLine_218 Q W1) := by
  have hD : b = true → DW k M' (n + 1) H L t1 t2 := fun hb => (DW_piece r d (by rw [hb] at h; exact h)).2
  obtain ⟨⟨b1, b2, b3, b4⟩, en, eH, -, -, -, -, -, -, -, -, -, es, k12, k12', -⟩ := id d
  have w0 : W 5 (ix 0) = nI n := (e.1 0 (by omega)).trans en
  have w1 : W 5 (ix 1) = nI H := (e.1 1 (by omega)).trans eH
  have w14 : W 0 14 = nI (stb t1 t2) := e.2.2.2.2.2.2.1.trans es
  have w15 : W 0 15 = M k 13 := e.2.2.2.2.2.2.2
  unfold wp_Model_readPiece
  rw [w0, w1, w14, w15]
  rcases h with ⟨hc, hb, hM⟩ | ⟨c12, cn, h⟩
  · have bad : wpJ_Model_readPiece_34 (fun W1 => wpJ_Model_readLine_218 Q W1) W := by
      have bd := BAD_fs (k := k) (c := 5) (M := M) (W := W) a.2.2.1 (by omega) (by omega)
      have bd' : BAD k M' (wfs (nI 5) W) := by rw [hM]; exact bd
      exact e_fails (c := nI 5) a.1 (mt_next_no bd.w (mt_num_bad bd.w ⟨fun _ => mt_endb hb bd' tkw.fs.l q, fun w => absurd w bd.w.ne⟩))
    refine ⟨vp_in_nI (n := 0) (by omega) (by omega), fun _ => bad, fun c8 => ⟨fun _ => bad, fun cs => ⟨vp_in_nI (n := 1) (by omega) (by omega), fun _ => bad, fun cH => ⟨fun c13 => ?_, fun _ => bad⟩⟩⟩⟩
    exfalso
    have n8 : n ≠ 8 := fun w => c8 (by rw [w]; rfl)
    have c12 : ¬ M k 12 = 0 := by
      rcases hc with w | w
      · exact w
      · exact absurd (by rw [en]; exact (nI_ltI (b := 8) (by omega) (by omega)).mpr (by omega)) w
    have st : stb t1 t2 = 0 := (nI_eq (b := 0) (by unfold stb; split <;> split <;> omega) (by omega)).mp cs
    rcases k12' c12 with w | w | w | w
    · rw [w] at st; unfold stb at st; simp at st
    · rw [w] at st; unfold stb at st; simp at st
    · exact cH ((nI_0lt (by omega)).mpr w)
    · exact w c13
  · obtain ⟨q1, q2, q3, q4⟩ := k12 c12
    have n8 : n < 8 := by
      rw [en] at cn
      exact (nI_ltI (b := 8) (by omega) (by omega)).mp cn
    have st : stb t1 t2 = 0 := by rw [q1, q2]; rfl
    have go : wpJ_Model_readPiece_39 (fun W1 => wpJ_Model_readLine_218 Q W1) W := by
      obtain ⟨b1', M1, h1, h⟩ := h
      refine mt_nx a.1 a.2.1 s r (fun W1 f1 n1 => mt_numN n1 s.2.1 h1 (fun hb1 a1 => ?_) (fun W2 hb1 f2 bd => ?_))
      · subst hb1
        rcases h with ⟨h, -⟩ | ⟨-, h⟩
        · cases h
        obtain ⟨s1, g1, -, lo, hi⟩ := rN_in r h1
        have e1 := e.tk g1 f1
        have en1 : M1 (k + 1) 0 = nI n := by rw [g1.1 (k + 1) (by omega)]; exact en
        have w5 : W1 5 (ix 0) = nI n := by rw [f1.1 5 (by omega)]; exact w0
        have e30 : (30 : Int32) + nI n = nI (30 + n) := q_add 30 n
        rw [en1, q_ix (by omega), nI_1] at h
        rw [w5, e30, q_ix (by omega)]
        refine ⟨fun w => absurd a1.1 w, fun _ => ⟨vp_in_nI (n := 0) (by omega) (by omega), vp_in_nI (by omega) (by omega), fun W9 e9 => ⟨vp_in_nI (n := 0) (by omega) (by omega), vp_in_nI (n := 0) (by omega) (by omega), fun W10 e10 => ?_⟩⟩⟩
        have y0 : W9 5 (ix 0) = nI n := by rw [e9, zup_eq]; exact (upd_ne (show (0 : Nat) ≠ 30 + n by omega)).trans w5
        rw [y0, nI_1] at e10
        have e10' : W10 = zup (zup W1 5 (30 + n) (M1 k 9)) 5 0 (nI (n + 1)) := by rw [e10, e9]; rfl
        generalize hX : zup (zup M1 (k + 3) n (M1 k 9)) (k + 1) 0 (nI (n + 1)) = X at h
        have lX : lf k M X := g1.lf.tr (by rw [← hX]; exact (lf.up (by omega) (by omega)).tr (lf.up (by omega) (by omega)))
        have lW : lw W W10 := f1.l.tr (by rw [e10']; exact lw.u5.tr lw.u5)
        refine mt_end (X := X) (n := n + 1) (by rw [e10', zup_ne (by omega), zup_ne (by omega)]; exact a1.1) (by rw [e10', zup_ne (by omega), zup_ne (by omega), ← hX, zup_ne (by omega), zup_ne (by omega)]; exact a1.2.1) (s.mv lX lW) (rin_mv s1 (by rw [← hX, zup_ne (by omega), zup_ne (by omega)]) (by rw [← hX, zup_ne (by omega), zup_ne (by omega)])) h lW ?_ hD q
        obtain ⟨i0, i1, i2, i3, i4, i5, i6, i7⟩ := e1
        have xk : ∀ i, i = 0 ∨ i = 2 ∨ i = 4 ∨ i = 5 → X (k + i) = M1 (k + i) := fun i hi => by rw [← hX, zup_ne (by omega), zup_ne (by omega)]
        have x0 : X k = M1 k := xk 0 (by omega)
        have y5 : ∀ j, j ≠ 0 → j ≠ 30 + n → W10 5 j = W1 5 j := fun j j1 j2 => by rw [e10', zup_eq, upd_ne j1, zup_eq, upd_ne j2]
        have yk : W10 0 = W1 0 := by rw [e10', zup_ne (by omega), zup_ne (by omega)]
        refine ⟨fun j hj => ?_, fun i hi => ?_, fun s' p hs hp => ?_, fun h p hh => absurd hh (by omega), fun w h hh => absurd hh (by omega), by rw [yk, x0]; exact i5, by rw [yk, x0]; exact i6, by rw [yk, x0]; exact i7⟩
        · by_cases w : j = 0
          · subst w
            rw [e10', zup_eq, upd_eq, ← hX, zup_eq, upd_eq]
          · rw [y5 j w (by omega), ← hX, zup_eq, upd_ne w, zup_ne (by omega)]; exact i0 j hj
        · rw [y5 _ (by omega) (by omega), xk 2 (by omega)]; exact i1 i hi
        · have hs0 : s' = 0 := by
            rcases hs with w | w | w
            · exact w
            · rw [q1] at w; exact absurd w.2 (by decide)
            · rw [q2] at w; exact absurd w.2 (by decide)
          subst hs0
          have x3 : X (k + 3) = upd (M1 (k + 3)) n (M1 k 9) := by rw [← hX, zup_ne (by omega), zup_eq]
          rw [x3]
          by_cases w : p = n
          · rw [w, show 30 + 8 * 0 + n = 30 + n by omega, show 0 * 8 + n = n by omega, upd_eq, e10', zup_eq, upd_ne (by omega), zup_eq, upd_eq]
          · rw [y5 _ (by omega) (by omega), upd_ne (by omega)]
            exact i2 0 p (Or.inl rfl) (by omega)
      · subst hb1
        rcases h with ⟨-, hb, hM⟩ | ⟨h, -⟩
        · exact ⟨fun _ => mt_endb hb (by rw [hM]; exact bd) (f1.tr f2).l q, fun w => absurd w bd.w.ne⟩
        · cases h
    refine ⟨vp_in_nI (n := 0) (by omega) (by omega), fun c8 => ?_, fun c8 => ⟨fun cs => ?_, fun cs => ⟨vp_in_nI (n := 1) (by omega) (by omega), fun cH => ?_, fun cH => ⟨fun c13 => go, fun c13 => absurd q4 c13⟩⟩⟩⟩
    · have := (nI_eq (b := 8) (by omega) (by omega)).mp c8
      omega
    · exact absurd (by rw [st]; rfl) cs
    · have := (nI_0lt (by omega)).mp cH
      omega
/-- numbers into a row: what may change -/
def l5 (W W' : zMem) : Prop := (∀ c, c ≠ 0 → c ≠ 5 → W' c = W c) ∧ ∀ j, (j < 3 ∨ 8 < j) → W' 0 j = W 0 j
theorem l5.l {W W' : zMem} (h : l5 W W') : lw W W' := ⟨h.1, fun j hj => h.2 j (by omega)⟩
theorem l5.rf {W : zMem} : l5 W W := ⟨fun _ _ _ => rfl, fun _ _ => rfl⟩
theorem l5.tr {W W1 W2 : zMem} (a : l5 W W1) (b : l5 W1 W2) : l5 W W2 := ⟨fun c h h2 => (b.1 c h h2).trans (a.1 c h h2), fun j h => (b.2 j h).trans (a.2 j h)⟩
theorem tkw.l5 {W W' : zMem} (a : tkw W W') : l5 W W' := ⟨fun c h _ => a.1 c h, a.2⟩
theorem l5_u {W : zMem} {j : Nat} {x : Int32} : l5 W (zup W 5 j x) := ⟨fun c _ h => zup_ne h, fun i _ => by rw [zup_ne (by omega)]⟩
theorem mt_nums {k z p0 c a ci m : Nat} {lo hi : Int32} {C : zMem → Bool → zMem → Prop} {X M' W : zMem} {b : Bool} {Q : zMem → Prop} (n : NXT k z X W) (s : WS k z X W) (r : rin k z p0 X) (h : rNs k z c lo hi C m ci X b M') (ha : a + m ≤ 100) (hc : k < c) (hc5 : c ≤ k + 5)
    (ht : ∀ X' W', C X' b M' → NXT k z X' W' → rin k z p0 X' → l5 W W' → (∀ j, (j < a ∨ a + m ≤ j) → W' 5 j = W 5 j) → (∀ j, j < m → W' 5 (a + j) = X' c (ci + j)) → (∀ d, d ≠ k → d ≠ c → X' d = X d) → (∀ j, (j < ci ∨ ci + m ≤ j) → X' c j = X c j) → (∀ j, j ≠ 6 → j ≠ 7 → j ≠ 8 → j ≠ 9 → X' k j = X k j) → Q W')
    (hf : ∀ W', b = false → BAD k M' W' → lw W W' → (∀ j, (j < a ∨ a + m ≤ j) → W' 5 j = W 5 j) → Q W') : wp_Model_numbers (nI a) (nI m) lo hi W Q := by
  refine zlp1_r (fun q x W' => ∃ i, x = nI i ∧ i ≤ m ∧ q = m - i ∧ (∀ j, (j < a ∨ a + m ≤ j) → W' 5 j = W 5 j) ∧ ((b = false ∧ BAD k M' W' ∧ lw W W') ∨ ∃ X', NXT k z X' W' ∧ rin k z p0 X' ∧ rNs k z c lo hi C (m - i) (ci + i) X' b M' ∧ l5 W W' ∧ (∀ j, j < i → W' 5 (a + j) = X' c (ci + j)) ∧ (∀ d, d ≠ k → d ≠ c → X' d = X d) ∧ (∀ j, (j < ci ∨ ci + i ≤ j) → X' c j = X c j) ∧ (∀ j, j ≠ 6 → j ≠ 7 → j ≠ 8 → j ≠ 9 → X' k j = X k j))) ?_ (n := m) ⟨0, rfl, by omega, rfl, fun _ _ => rfl, Or.inr ⟨X, n, r, h, l5.rf, fun j hj => absurd hj (by omega), fun _ _ _ => rfl, fun _ _ => rfl, fun _ _ _ _ _ => rfl⟩⟩
  rintro q x W' ⟨i, rfl, hi, rfl, g0, hcase⟩ J hJ
  unfold wpB_Model_numbers_3
  rcases hcase with ⟨hb, bd, l⟩ | ⟨X', n', r', h', l, g1, g2, g3, g4⟩
  · refine ⟨fun _ => hf W' hb bd l g0, fun cc => ?_⟩
    have hi2 : i < m := (nI_ltI (by omega) (by omega)).mp (Int32.not_le.mp cc)
    refine mt_num_bad bd.w ?_
    rw [q_add, q_ix (by omega)]
    refine ⟨vp_in_nI (by omega) (by omega), fun W3 e3 => ?_⟩
    have b3 : BAD k M' W3 := by rw [e3]; exact bd.kb kb.u5
    refine mt_next_no b3.w (fun y ey => ?_)
    rw [ey, nI_1]
    exact hJ (m - (i + 1)) _ _ (by omega) ⟨i + 1, rfl, by omega, rfl, fun j hj => by rw [e3, zup_eq, upd_ne (by omega)]; exact g0 j hj, Or.inl ⟨hb, b3, l.tr (by rw [e3]; exact lw.u5)⟩⟩
  · refine ⟨fun cc => ?_, fun cc => ?_⟩
    · have := (nI_leI (by omega) (by omega)).mp cc
      have ei : i = m := by omega
      subst ei
      rw [show i - i = 0 by omega] at h'
      exact ht X' W' h' n' r' l g0 g1 g2 g3 g4
    · have hi2 : i < m := (nI_ltI (by omega) (by omega)).mp (Int32.not_le.mp cc)
      obtain ⟨f, ef⟩ : ∃ f, m - i = f + 1 := ⟨m - i - 1, by omega⟩
      rw [ef] at h'
      obtain ⟨b1, M1, h1, h2⟩ := h'
      rw [q_add, q_ix (by omega)]
      refine mt_numN n' s.2.1 h1 (fun hb1 a1 => ⟨vp_in_nI (by omega) (by omega), fun W3 e3 => ?_⟩) (fun W2 hb1 f2 bd => ⟨vp_in_nI (by omega) (by omega), fun W3 e3 => ?_⟩)
      · subst hb1
        rcases h2 with ⟨h2, -⟩ | ⟨-, h2⟩
        · cases h2
        obtain ⟨r1, t1, -⟩ := rN_in r' h1
        have w5 : l5 W W3 := l.tr (by rw [e3]; exact l5_u)
        generalize hY : zup M1 c (ci + i) (M1 k 9) = Y at h2
        have lY : lf k X Y := by
          intro d hd
          rw [← hY, zup_ne (by omega), t1.1 d (by omega)]
          exact g2 d (by omega) (by omega)
        have rY : rin k z p0 Y := rin_mv r1 (by rw [← hY, zup_ne (by omega)]) (by rw [← hY, zup_ne (by omega)])
        refine mt_nx (M := Y) (by rw [e3, zup_ne (by omega)]; exact a1.1) (by rw [e3, zup_ne (by omega), ← hY, zup_ne (by omega)]; exact a1.2.1) (s.mv lY w5.l) rY (fun W4 f4 n4 y ey => ?_)
        rw [ey, nI_1]
        have y5 : W4 5 = W3 5 := f4.1 5 (by omega)
        refine hJ (m - (i + 1)) _ _ (by omega) ⟨i + 1, rfl, by omega, rfl, fun j hj => by rw [y5, e3, zup_eq, upd_ne (by omega)]; exact g0 j hj, Or.inr ⟨Y, n4, rY, by rw [show m - (i + 1) = f by omega, show ci + (i + 1) = ci + i + 1 by omega]; exact h2, w5.tr f4.l5, fun j hj => ?_, fun d h1 h2 => ?_, fun j hj => ?_, fun j a b c' d => ?_⟩⟩
        · rw [y5, e3, zup_eq]
          by_cases e : j = i
          · rw [e, upd_eq, ← hY, zup_eq, upd_eq]
          · rw [upd_ne (by omega), ← hY, zup_eq, upd_ne (by omega), t1.1 c (by omega)]
            exact g1 j (by omega)
        · rw [← hY, zup_ne h2, t1.1 d h1]; exact g2 d h1 h2
        · rw [← hY, zup_eq, upd_ne (by omega), t1.1 c (by omega)]; exact g3 j (by omega)
        · rw [← hY, zup_ne (by omega), t1.2 j a b c' d]; exact g4 j a b c' d
      · subst hb1
        rcases h2 with ⟨-, hb, hM⟩ | ⟨h2, -⟩
        · have b3 : BAD k M' W3 := by rw [hM, e3]; exact bd.kb kb.u5
          refine mt_next_no b3.w (fun y ey => ?_)
          rw [ey, nI_1]
          exact hJ (m - (i + 1)) _ _ (by omega) ⟨i + 1, rfl, by omega, rfl, fun j hj => by rw [e3, zup_eq, upd_ne (by omega), f2.1 5 (by omega)]; exact g0 j hj, Or.inl ⟨hb, b3, (l.l.tr f2.l).tr (by rw [e3]; exact lw.u5)⟩⟩
        · cases h2
theorem or_0 (x : Int32) : x ||| 0 = x := by
  apply Int32.toBitVec_inj.mp
  simp
theorem mt_whole {k z p0 n H L : Nat} {t1 t2 : Bool} {M M' W : zMem} {b : Bool} {Q : zMem → Prop} (a : AT k M W) (s : WS k z M W) (r : rin k z p0 M) (d : DW k M n H L t1 t2) (e : EQ k M W n H L t1 t2) (h : rWh k z M b M') (q : PL k z M' W b Q) : wp_Model_readWhole W (fun W1 => wpJ_Model_readLine_218 Q W1) := by
  have hD : b = true → DW k M' n H L t1 t2 := fun hb => (DW_whole r d (by rw [hb] at h; exact h)).2
  have en := d.2.1
  have w0 : W 5 (ix 0) = M (k + 1) 0 := e.1 0 (by omega)
  obtain ⟨b1, M1, h1, h⟩ := h
  refine mt_nx a.1 a.2.1 s r (fun W1 f1 n1 => ⟨vp_in_nI (n := 0) (by omega) (by omega), ?_⟩)
  have v0 : W1 5 (ix 0) = M (k + 1) 0 := by rw [f1.1 5 (by omega)]; exact w0
  rw [v0]
  have badt : ∀ (x : Int32) (W2 : zMem), b = false → BAD k M' W2 → lw W W2 → wpJ_Model_readWhole_44 (fun W1 => wpJ_Model_readLine_218 Q W1) x W2 := fun x W2 hb bd l => by
    refine ⟨vp_in_nI (n := 5) (by omega) (by omega), fun _ => ⟨vp_in_nI (n := 5) (by omega) (by omega), fun W5 e5 => ?_⟩, fun w => absurd w bd.w.ne⟩
    exact mt_endb hb (by rw [e5]; exact bd.kb kb.u5) (l.tr (by rw [e5]; exact lw.u5)) q
  refine mt_numN n1 s.2.1 h1 (fun hb1 a1 => ?_) (fun W2 hb1 f2 bd => ?_)
  · subst hb1
    rcases h with ⟨h, -⟩ | ⟨-, h⟩
    · cases h
    obtain ⟨s1, g1, -, lo, hi⟩ := rN_in r h1
    have e1 := e.tk g1 f1
    have w5 : W1 5 (ix 5) = M1 (k + 1) 5 := e1.1 5 (by omega)
    refine ⟨fun w => absurd a1.1 w, fun _ => ⟨vp_in_nI (n := 5) (by omega) (by omega), fun c => ?_, fun c => ?_⟩⟩
    · rw [w5] at c
      rcases h with ⟨c', -⟩ | ⟨-, h⟩
      · exact absurd c' c
      refine ⟨vp_in_nI (n := 5) (by omega) (by omega), fun w => absurd a1.1 w, fun _ => ⟨vp_in_nI (n := 5) (by omega) (by omega), fun W8 e8 => ?_⟩⟩
      rw [w5] at e8
      generalize hX : zup M1 (k + 1) 5 ((M1 (k + 1) 5) ||| (1 <<< ((M1 k 9) &&& 31))) = X at h
      have e8' : W8 = zup W1 5 5 ((M1 (k + 1) 5) ||| (1 <<< ((M1 k 9) &&& 31))) := e8
      have lX : lf k M X := g1.lf.tr (by rw [← hX]; exact lf.up (by omega) (by omega))
      have lW : lw W W8 := f1.l.tr (by rw [e8']; exact lw.u5)
      refine mt_end (X := X) (by rw [e8', zup_ne (by omega)]; exact a1.1) (by rw [e8', zup_ne (by omega), ← hX, zup_ne (by omega)]; exact a1.2.1) (s.mv lX lW) (rin_mv s1 (by rw [← hX, zup_ne (by omega)]) (by rw [← hX, zup_ne (by omega)])) h lW ?_ hD q
      obtain ⟨i0, i1, i2, i3, i4, i5, i6, i7⟩ := e1
      have xk : ∀ i, i = 0 ∨ i = 2 ∨ i = 3 ∨ i = 4 ∨ i = 5 → X (k + i) = M1 (k + i) := fun i hi => by rw [← hX, zup_ne (by omega)]
      have x0 : X k = M1 k := xk 0 (by omega)
      have y5 : ∀ j, j ≠ 5 → W8 5 j = W1 5 j := fun j j1 => by rw [e8', zup_eq, upd_ne j1]
      have yk : W8 0 = W1 0 := by rw [e8', zup_ne (by omega)]
      refine ⟨fun j hj => ?_, fun i hi => by rw [y5 _ (by omega), xk 2 (by omega)]; exact i1 i hi, fun s' p hs hp => ?_, fun h p hh hp => by rw [y5 _ (by omega), xk 4 (by omega)]; exact i3 h p hh hp, fun w h hh => ?_, by rw [yk, x0]; exact i5, by rw [yk, x0]; exact i6, by rw [yk, x0]; exact i7⟩
      · by_cases w : j = 5
        · subst w
          rw [e8', zup_eq, upd_eq, ← hX, zup_eq, upd_eq]
        · rw [y5 j w, ← hX, zup_eq, upd_ne w]; exact i0 j hj
      · rw [y5 _ (by omega), xk 3 (by omega)]
        exact i2 s' p hs hp
      · rw [y5 _ (by omega), xk 5 (by omega)]
        exact i4 (by rw [← hX, zup_eq, upd_ne (by omega)] at w; exact w) h hh
    · rw [w5] at c
      rcases h with ⟨-, hb, hM⟩ | ⟨c', -⟩
      · have bd := BAD_fs (k := k) (c := 4) (M := M1) (W := W1) a1.2.2.1 (by omega) (by omega)
        exact e_fails (c := nI 4) a1.1 (badt _ _ hb (by rw [hM]; exact bd) (f1.l.tr tkw.fs.l))
      · exact absurd c c'
  · subst hb1
    rcases h with ⟨-, hb, hM⟩ | ⟨h, -⟩
    · exact ⟨fun _ => badt _ _ hb (by rw [hM]; exact bd) (f1.tr f2).l, fun w => absurd w bd.w.ne⟩
    · cases h
theorem AT.mv {k : Nat} {M M' W : zMem} (a : AT k M W) (e : ∀ j, 6 ≤ j → j ≤ 9 → M' k j = M k j) : AT k M' W := by
  unfold AT at a ⊢
  rw [e 6 (by omega) (by omega), e 7 (by omega) (by omega), e 8 (by omega) (by omega), e 9 (by omega) (by omega)]; exact a
theorem stb_inj : ∀ a b c d : Bool, nI (stb a b) = nI (stb c d) → a = c ∧ b = d := by decide
theorem mt_fin {k z p0 n H L : Nat} {t1 t2 : Bool} {X M' W W3 : zMem} {b : Bool} {Q : zMem → Prop} (n3 : NXT k z X W3) (s : WS k z X W3) (r : rin k z p0 X) (h : rS k z X b M') (l : lw W W3) (e : EQ k X W3 n H L t1 t2) (hD : b = true → DW k M' n H L t1 t2) (q : PL k z M' W b Q) : wpJ_Model_readLine_218 Q W3 :=
  mt_sign n3 s r h (fun W' hb f' n' => q.1 W' hb (l.tr f'.l) n' ⟨_, _, _, _, _, hD hb, e.tk (rS_in r (by rw [hb] at h; exact h)).2 f'⟩) (fun W' hb f' bd => q.2 W' hb (l.tr f'.l) bd)
theorem first_bad {k z : Nat} {B : zMem → Bool → zMem → Prop} {X M' W : zMem} {b : Bool} (hz : z ≤ 400) (n : NXT k z X W) (hw : bw W) (h : bnd (tkn k z) B X b M') : b = false ∧ BAD k M' W := by
  obtain ⟨b1, M1, t, h⟩ := h
  obtain ⟨n1, n2⟩ := nx_tkn hz n t
  rcases h with ⟨rfl, hb, hM⟩ | ⟨hb, -⟩
  · exact ⟨hb, by rw [hM]; exact n2 rfl⟩
  · exact absurd (n1 hb).1 hw.ne
theorem mt_sort {k z p0 n H L : Nat} {t1 t2 : Bool} {M M' W : zMem} {b : Bool} {Q : zMem → Prop} (a : AT k M W) (s : WS k z M W) (r : rin k z p0 M) (d : DW k M n H L t1 t2) (e : EQ k M W n H L t1 t2) (h : rSo k z n M b M') (q : PL k z M' W b Q) : wp_Model_readSort W (fun W1 => wpJ_Model_readLine_218 Q W1) := by
  have hD : b = true → ∃ u1 u2, DW k M' n H L u1 u2 := fun hb => (DW_sort r d (by rw [hb] at h; exact h)).2
  obtain ⟨⟨d1, d2, d3, d4⟩, en, -⟩ := id d
  have es : M k 11 = nI (stb t1 t2) := d.2.2.2.2.2.2.2.2.2.2.2.2.1
  have w0 : W 5 (ix 0) = nI n := (e.1 0 (by omega)).trans en
  obtain ⟨b1, M2, h1, h⟩ := h
  generalize hM0 : zup M k 12 1 = M0 at h1
  have m0 : ∀ j, j ≠ 12 → M0 k j = M k j := fun j hj => by rw [← hM0, zup_eq, upd_ne hj]
  have mc : ∀ c, c ≠ k → M0 c = M c := fun c hc => by rw [← hM0, zup_ne hc]
  have a0 : AT k M0 W := a.mv (fun j _ _ => m0 j (by omega))
  have r0 : rin k z p0 M0 := rin_mv r (m0 5 (by omega)) (m0 6 (by omega))
  have f0 : lf k M M0 := by rw [← hM0]; exact lf.up (by omega) (by omega)
  have s0 : WS k z M0 W := s.mv f0 lw.rf
  have e0 : EQ k M0 W n H L t1 t2 := e.mv (fun i h1 _ => mc _ (by omega)) ⟨m0 10 (by omega), m0 11 (by omega), m0 13 (by omega)⟩ tkw.rf
  have badt : ∀ (x : Nat) (W2 : zMem), 1 ≤ x → x ≤ 2 → b = false → BAD k M' W2 → lw W W2 → W2 5 0 = nI n → wpJ_Model_readSort_35 (fun W1 => wpJ_Model_readLine_218 Q W1) (nI x) W2 := fun x W2 x1 x2 hb bd l wn => by
    refine ⟨fun _ W5 e5 => ?_, fun w => absurd w bd.w.ne⟩
    have k5 : kb W2 W5 := by rw [e5]; exact kb.u0 (by omega)
    have b5 := bd.kb k5
    refine mt_next_no b5.w ⟨vp_in_nI (n := 0) (by omega) (by omega), ?_⟩
    have wn5 : W5 5 (ix 0) = nI n := by rw [e5, zup_ne (by omega)]; exact wn
    have e38 : 30 + 8 * nI x = nI (30 + 8 * x) := by rw [show (8 : Int32) = nI 8 from rfl, q_mul, show (30 : Int32) = nI 30 from rfl, q_add]
    rw [wn5, e38]
    exact mt_nums_bad b5.w (by omega) (fun W8 k8 _ => mt_sign_bad (k8.w b5.w) (q.2 W8 hb ((l.tr k5.1).tr k8.1) (b5.kb k8)))
  refine mt_nx a0.1 a0.2.1 s0 r0 (fun W1 f1 n1 => mt_numN n1 s.2.1 h1 (fun hb1 a1 => ?_) (fun W2 hb1 f2 bd => ?_))
  · subst hb1
    rcases h with ⟨h, -⟩ | ⟨-, h⟩
    · cases h
    obtain ⟨s1, g1, -, lo, hi⟩ := rN_in r0 h1
    obtain ⟨s', hs, es9⟩ := nI_of2 (x := M2 k 9) (M := 2) (n := 2) rfl (fun q => lo (Int32.lt_trans q (by decide))) hi
    have hs1 : 1 ≤ s' := by
      rw [es9] at lo
      rcases Nat.lt_or_ge s' 1 with u | u
      · exact absurd ((nI_ltI (b := 1) (by omega) (by omega)).mpr u) lo
      · exact u
    have e1 := e0.tk g1 f1
    have w14 : W1 0 14 = M2 k 11 := e1.2.2.2.2.2.2.1
    have w50 : W1 5 0 = nI n := by rw [f1.1 5 (by omega)]; exact w0
    rw [es9] at h ⊢
    refine ⟨fun w => absurd a1.1 w, fun _ => ⟨fun c => ?_, fun c => ?_⟩⟩
    · rw [w14] at c
      rcases h with ⟨c', -⟩ | ⟨-, h⟩
      · exact absurd c' c
      refine ⟨fun w => absurd a1.1 w, fun _ W10 e10 => ?_⟩
      rw [w14] at e10
      rw [q_ix (by omega)] at h
      generalize hX : zup M2 k 11 ((M2 k 11) ||| (1 <<< (nI s' &&& 31))) = X at h
      have lX : lf k M X := f0.tr (g1.lf.tr (by rw [← hX]; exact lf.up (by omega) (by omega)))
      have lW : lw W W10 := f1.l.tr (by rw [e10]; exact lw.u0 (by omega))
      have rX : rin k z p0 X := rin_mv s1 (by rw [← hX, zup_eq, upd_ne (by omega)]) (by rw [← hX, zup_eq, upd_ne (by omega)])
      refine mt_nx (M := X) (by rw [e10, zup_eq, upd_ne (by omega)]; exact a1.1) (by rw [e10, zup_eq, upd_ne (by omega), ← hX, zup_eq, upd_ne (by omega)]; exact a1.2.1) (s.mv lX lW) rX (fun W11 f11 n11 => ⟨vp_in_nI (n := 0) (by omega) (by omega), ?_⟩)
      have v5 : W11 5 = W1 5 := by rw [f11.1 5 (by omega), e10, zup_ne (by omega)]
      have e38 : 30 + 8 * nI s' = nI (30 + 8 * s') := by rw [show (8 : Int32) = nI 8 from rfl, q_mul, show (30 : Int32) = nI 30 from rfl, q_add]
      rw [show W11 5 (ix 0) = nI n by rw [v5]; exact w50, e38]
      have lW11 : lw W W11 := lW.tr f11.l
      refine mt_nums n11 (s.mv lX lW11) rX h (by omega) (by omega) (by omega) (fun X' W' hC nn rr l j0 j1 j2 j3 j4 => ?_) (fun W' hb bd l _ => mt_sign_bad bd.w (q.2 W' hb (lW11.tr l) bd))
      have lX' : lf k M X' := lX.tr (fun c hc => j2 c (by omega) (by omega))
      obtain ⟨i0, i1, i2, i3, i4, i5, i6, i7⟩ := e1
      have xM : ∀ i, i = 1 ∨ i = 2 ∨ i = 4 ∨ i = 5 → X' (k + i) = M2 (k + i) := fun i hi => by rw [j2 _ (by omega) (by omega), ← hX, zup_ne (by omega)]
      have x3 : ∀ j, (j < s' * 8 ∨ s' * 8 + n ≤ j) → X' (k + 3) j = M2 (k + 3) j := fun j hj => by rw [j3 j hj, ← hX, zup_ne (by omega)]
      have y5 : ∀ j, (j < 30 + 8 * s' ∨ 30 + 8 * s' + n ≤ j) → W' 5 j = W1 5 j := fun j hj => by rw [j0 j hj, v5]
      have x11 : X' k 11 = nI (stb t1 t2) ||| (1 <<< (nI s' &&& 31)) := by
        rw [j4 11 (by omega) (by omega) (by omega) (by omega), ← hX, zup_eq, upd_eq, g1.2 11 (by omega) (by omega) (by omega) (by omega), m0 11 (by omega), es]
      have z14 : W' 0 14 = X' k 11 := by
        rw [l.2 14 (by omega), f11.2 14 (by omega), e10, zup_eq, upd_eq, x11, g1.2 11 (by omega) (by omega) (by omega) (by omega), m0 11 (by omega), es]
      have z13 : W' 0 13 = X' k 10 := by
        rw [l.2 13 (by omega), f11.2 13 (by omega), e10, zup_eq, upd_ne (by omega), j4 10 (by omega) (by omega) (by omega) (by omega), ← hX, zup_eq, upd_ne (by omega)]; exact i5
      have z15 : W' 0 15 = X' k 13 := by
        rw [l.2 15 (by omega), f11.2 15 (by omega), e10, zup_eq, upd_ne (by omega), j4 13 (by omega) (by omega) (by omega) (by omega), ← hX, zup_eq, upd_ne (by omega)]; exact i7
      have eqq : ∀ u1 u2 : Bool, (∀ s'' p, (s'' = 0 ∨ (s'' = 1 ∧ u1 = true) ∨ (s'' = 2 ∧ u2 = true)) → p < n → W' 5 (30 + 8 * s'' + p) = X' (k + 3) (s'' * 8 + p)) → EQ k X' W' n H L u1 u2 := fun u1 u2 hu => by
        refine ⟨fun j hj => by rw [y5 j (by omega), xM 1 (by omega)]; exact i0 j hj, fun i hi => by rw [y5 _ (by omega), xM 2 (by omega)]; exact i1 i hi, hu, fun h p hh hp => by rw [y5 _ (by omega), xM 4 (by omega)]; exact i3 h p hh hp, fun w h hh => ?_, z13, z14, z15⟩
        rw [y5 _ (by omega), xM 5 (by omega)]
        exact i4 (by rw [xM 1 (by omega)] at w; exact w) h hh
      have unit : ∀ s'' p, s'' ≠ s' → s'' < 3 → (s'' = 0 ∨ (s'' = 1 ∧ t1 = true) ∨ (s'' = 2 ∧ t2 = true)) → p < n → W' 5 (30 + 8 * s'' + p) = X' (k + 3) (s'' * 8 + p) := fun s'' p hne h3 ht hp => by
        rw [y5 _ (by omega), x3 _ (by omega)]
        exact i2 s'' p ht hp
      have own : ∀ p, p < n → W' 5 (30 + 8 * s' + p) = X' (k + 3) (s' * 8 + p) := fun p hp => j1 p hp
      have dd : ∀ u1 u2 : Bool, X' k 11 = nI (stb u1 u2) → b = true → DW k M' n H L u1 u2 := fun u1 u2 h11 hb => by
        obtain ⟨v1, v2, dv⟩ := hD hb
        have f := (rS_in rr (by rw [hb] at hC; exact hC)).2
        have : nI (stb u1 u2) = nI (stb v1 v2) := by
          rw [← h11, ← f.2 11 (by omega) (by omega) (by omega) (by omega)]
          exact dv.2.2.2.2.2.2.2.2.2.2.2.2.1
        obtain ⟨c1, c2⟩ := stb_inj _ _ _ _ this
        rw [c1, c2]; exact dv
      have sW : WS k z X' W' := s.mv lX' (lW11.tr l.l)
      rcases (show s' = 1 ∨ s' = 2 by omega) with hs' | hs'
      · subst hs'
        have q11 : X' k 11 = nI (stb true t2) := by rw [x11]; exact (st_or t1 t2).1
        refine mt_fin (n := n) (H := H) (L := L) (t1 := true) (t2 := t2) nn sW rr hC (lW11.tr l.l) (eqq true t2 (fun s'' p ht hp => ?_)) (dd true t2 q11) q
        by_cases w : s'' = 1
        · subst w; exact own p hp
        · exact unit s'' p w (by omega) (by
            rcases ht with u | u | u
            · exact Or.inl u
            · exact absurd u.1 w
            · exact Or.inr (Or.inr u)) hp
      · subst hs'
        have q11 : X' k 11 = nI (stb t1 true) := by rw [x11]; exact (st_or t1 t2).2
        refine mt_fin (n := n) (H := H) (L := L) (t1 := t1) (t2 := true) nn sW rr hC (lW11.tr l.l) (eqq t1 true (fun s'' p ht hp => ?_)) (dd t1 true q11) q
        by_cases w : s'' = 2
        · subst w; exact own p hp
        · exact unit s'' p w (by omega) (by
            rcases ht with u | u | u
            · exact Or.inl u
            · exact Or.inr (Or.inl u)
            · exact absurd u.1 w) hp
    · rw [w14] at c
      rcases h with ⟨-, hb, hM⟩ | ⟨c', -⟩
      · have bd := BAD_fs (k := k) (c := 4) (M := M2) (W := W1) a1.2.2.1 (by omega) (by omega)
        exact e_fails (c := nI 4) a1.1 (badt s' _ hs1 hs hb (by rw [hM]; exact bd) (f1.l.tr tkw.fs.l) (by unfold wfs; rw [zup_ne (by omega), zup_ne (by omega)]; exact w50))
      · exact absurd c c'
  · subst hb1
    rcases h with ⟨-, hb, hM⟩ | ⟨h, -⟩
    · exact ⟨fun _ => badt 1 _ (by omega) (by omega) hb (by rw [hM]; exact bd) (f1.tr f2).l (by rw [f2.1 5 (by omega), f1.1 5 (by omega)]; exact w0), fun w => absurd w bd.w.ne⟩
    · cases h
theorem mt_handL {k z p0 n H L : Nat} {t1 t2 : Bool} {M M' W : zMem} {b : Bool} {Q : zMem → Prop} (a : AT k M W) (s : WS k z M W) (r : rin k z p0 M) (d : DW k M n H L t1 t2) (e : EQ k M W n H L t1 t2) (h : rHa k z n H M b M') (q : PL k z M' W b Q) : wp_Model_readHand W (fun W1 => wpJ_Model_readLine_218 Q W1) := by
  have hD : b = true → DW k M' n (H + 1) L t1 t2 := fun hb => (DW_hand r d (by rw [hb] at h; exact h)).2
  obtain ⟨⟨d1, d2, d3, d4⟩, en, eH, -⟩ := id d
  have w0 : W 5 (ix 0) = nI n := (e.1 0 (by omega)).trans en
  have w1 : W 5 (ix 1) = nI H := (e.1 1 (by omega)).trans eH
  have w15 : W 0 15 = M k 13 := e.2.2.2.2.2.2.2
  have k4 := d.2.2.2.2.2.2.2.2.2.2.2.2.2.2.2
  have e60 : ∀ x : Nat, 60 + 8 * nI x = nI (60 + 8 * x) := fun x => by rw [show (8 : Int32) = nI 8 from rfl, q_mul, show (60 : Int32) = nI 60 from rfl, q_add]
  unfold wp_Model_readHand
  rw [w1, w15]
  rcases h with ⟨hc, hb, hM⟩ | ⟨c13, cH, h⟩
  · have bad : wpJ_Model_readHand_17 (fun W1 => wpJ_Model_readLine_218 Q W1) W := by
      have bd := BAD_fs (k := k) (c := 5) (M := M) (W := W) a.2.2.1 (by omega) (by omega)
      have bd' : BAD k M' (wfs (nI 5) W) := by rw [hM]; exact bd
      have v1 : wfs (nI 5) W 5 (ix 1) = nI H := by unfold wfs; rw [zup_ne (by omega), zup_ne (by omega)]; exact w1
      have tail : ∀ x : Nat, x ≤ 5 → wp_Model_numbers (nI (60 + 8 * x)) 0 1 9 (wfs (nI 5) W) (fun zm5 => vp_in 1 100 ∧ vp_in 1 100 ∧ ∀ zm7 : zMem, zm7 = zup zm5 5 (ix 1) ((zm5 5 (ix 1)) + 1) → wpJ_Model_readLine_218 Q zm7) := fun x hx => by
        refine mt_nums_bad (m := 0) bd.w (by omega) (fun W8 k8 _ => ⟨vp_in_nI (n := 1) (by omega) (by omega), vp_in_nI (n := 1) (by omega) (by omega), fun W9 e9 => ?_⟩)
        have k9 : kb (wfs (nI 5) W) W9 := k8.tr (by rw [e9]; exact kb.u5)
        exact mt_sign_bad (k9.w bd.w) (q.2 W9 hb (tkw.fs.l.tr k9.1) (bd'.kb k9))
      refine e_fails (c := nI 5) a.1 (mt_next_no bd.w ⟨vp_in_nI (n := 1) (by omega) (by omega), fun _ => ⟨fun _ => ?_, fun w => absurd w bd.w.ne⟩, fun _ => ⟨vp_in_nI (n := 1) (by omega) (by omega), fun _ => ?_, fun w => absurd w bd.w.ne⟩⟩)
      · exact tail 0 (by omega)
      · rw [v1, e60]; exact tail H (by omega)
    refine ⟨vp_in_nI (n := 1) (by omega) (by omega), fun _ => bad, fun cH => ⟨fun c13 => ?_, fun _ => bad⟩⟩
    exfalso
    rcases hc with w | w
    · exact w c13
    · exact w (by rw [eH]; exact (nI_ltI (b := 5) (by omega) (by omega)).mpr (by
        rcases Nat.lt_or_ge H 5 with u | u
        · exact u
        · exact absurd (by rw [show H = 5 by omega]; rfl) cH))
  · have hH : H < 5 := by
      rw [eH] at cH
      exact (nI_ltI (b := 5) (by omega) (by omega)).mp cH
    refine ⟨vp_in_nI (n := 1) (by omega) (by omega), fun c5 => ?_, fun _ => ⟨fun _ => ?_, fun w => absurd c13 w⟩⟩
    · have := (nI_eq (b := 5) (by omega) (by omega)).mp c5
      omega
    generalize hM0 : zup M k 12 1 = M0 at h
    have m0 : ∀ j, j ≠ 12 → M0 k j = M k j := fun j hj => by rw [← hM0, zup_eq, upd_ne hj]
    have mc : ∀ c, c ≠ k → M0 c = M c := fun c hc => by rw [← hM0, zup_ne hc]
    have a0 : AT k M0 W := a.mv (fun j _ _ => m0 j (by omega))
    have r0 : rin k z p0 M0 := rin_mv r (m0 5 (by omega)) (m0 6 (by omega))
    have f0 : lf k M M0 := by rw [← hM0]; exact lf.up (by omega) (by omega)
    have s0 : WS k z M0 W := s.mv f0 lw.rf
    refine mt_nx a0.1 a0.2.1 s0 r0 (fun W1 f1 n1 => ?_)
    have v5 : W1 5 = W 5 := f1.1 5 (by omega)
    rw [v5, w1]
    refine ⟨vp_in_nI (n := 1) (by omega) (by omega), fun c5 => ?_, fun _ => ⟨vp_in_nI (n := 1) (by omega) (by omega), ?_⟩⟩
    · have := (nI_leI (a := 5) (by omega) (by omega)).mp c5
      omega
    rw [e60, w0]
    have badt : ∀ W', b = false → BAD k M' W' → lw W W' → vp_in 1 100 ∧ vp_in 1 100 ∧ ∀ zm16 : zMem, zm16 = zup W' 5 (ix 1) ((W' 5 (ix 1)) + 1) → wpJ_Model_readLine_218 Q zm16 := fun W' hb bd l => ⟨vp_in_nI (n := 1) (by omega) (by omega), vp_in_nI (n := 1) (by omega) (by omega), fun W9 e9 => by
      have b9 : BAD k M' W9 := by rw [e9]; exact bd.kb kb.u5
      exact mt_sign_bad b9.w (q.2 W9 hb (l.tr (by rw [e9]; exact lw.u5)) b9)⟩
    refine ⟨fun w => ?_, fun _ => ⟨vp_in_nI (n := 0) (by omega) (by omega), ?_⟩⟩
    · have hw : bw W1 := by
        obtain ⟨p, p1, p2, p3, p4⟩ := n1
        rcases p4 with ⟨-, c3, -⟩ | ⟨-, c3, -⟩
        · exact absurd c3 w
        · exact ⟨1, by omega, by omega, c3⟩
      have bb : b = false ∧ BAD k M' W1 := by
        cases n with
        | zero =>
          have h' : rS k z (zup M0 (k + 1) 1 (M0 (k + 1) 1 + 1)) b M' := h
          refine first_bad s.2.1 ?_ hw h'
          obtain ⟨p, p1, p2, p3⟩ := n1
          exact ⟨p, p1, by rw [zup_ne (by omega)]; exact p2, by rw [zup_ne (by omega)]; exact p3⟩
        | succ n =>
          obtain ⟨b1, M1, h1, h2⟩ := h
          obtain ⟨c1, c2⟩ := first_bad s.2.1 n1 hw h1
          rcases h2 with ⟨-, hb, hM⟩ | ⟨hb, -⟩
          · exact ⟨hb, by rw [hM]; exact c2⟩
          · rw [hb] at c1; cases c1
      refine mt_nums_bad (m := 0) hw (by omega) (fun W8 k8 _ => badt W8 bb.1 (bb.2.kb k8) (f1.l.tr k8.1))
    · refine mt_nums n1 (s0.mv (fun _ _ => rfl) f1.l) r0 h (by omega) (by omega) (by omega) (fun X' W' hC nn rr l j0 j1 j2 j3 j4 => ⟨vp_in_nI (n := 1) (by omega) (by omega), vp_in_nI (n := 1) (by omega) (by omega), fun W9 e9 => ?_⟩) (fun W' hb bd l _ => badt W' hb bd (f1.l.tr l))
      have xM : ∀ i, i = 1 ∨ i = 2 ∨ i = 3 ∨ i = 5 → X' (k + i) = M (k + i) := fun i hi => by rw [j2 _ (by omega) (by omega)]; exact mc _ (by omega)
      have y5 : ∀ j, (j < 60 + 8 * H ∨ 60 + 8 * H + n ≤ j) → W' 5 j = W 5 j := fun j hj => by rw [j0 j hj, v5]
      have u1 : X' (k + 1) 1 + 1 = nI (H + 1) := by rw [xM 1 (by omega), eH, nI_1]
      have u2 : W' 5 (ix 1) + 1 = nI (H + 1) := by rw [y5 (ix 1) (by show ix (nI 1) < _ ∨ _; rw [q_ix (by omega)]; omega), w1, nI_1]
      rw [u1] at hC
      rw [u2] at e9
      have e9' : W9 = zup W' 5 1 (nI (H + 1)) := e9
      generalize hX : zup X' (k + 1) 1 (nI (H + 1)) = X at hC
      have lX : lf k M X := by
        intro c hc
        rw [← hX, zup_ne (by omega), j2 c (by omega) (by omega)]; exact mc c (by omega)
      have lW : lw W W9 := (f1.l.tr l.l).tr (by rw [e9']; exact lw.u5)
      have rX : rin k z p0 X := rin_mv rr (by rw [← hX, zup_ne (by omega)]) (by rw [← hX, zup_ne (by omega)])
      have nX : NXT k z X W9 := by
        obtain ⟨p, p1, p2, p3⟩ := nn
        refine ⟨p, p1, by rw [← hX, zup_ne (by omega)]; exact p2, ?_⟩
        rw [show X (k + 6) = X' (k + 6) by rw [← hX, zup_ne (by omega)]]
        unfold nT at p3 ⊢
        rw [e9', zup_ne (by omega)]; exact p3
      refine mt_fin (n := n) (H := H + 1) (L := L) (t1 := t1) (t2 := t2) nX (s.mv lX lW) rX hC lW ?_ hD q
      obtain ⟨i0, i1, i2, i3, i4, i5, i6, i7⟩ := e
      have xk : ∀ i, i = 2 ∨ i = 3 ∨ i = 5 → X (k + i) = M (k + i) := fun i hi => by rw [← hX, zup_ne (by omega)]; exact xM i (by omega)
      have xs : ∀ j, j = 10 ∨ j = 11 ∨ j = 13 → X k j = M k j := fun j hj => by rw [← hX, zup_ne (by omega), j4 j (by omega) (by omega) (by omega) (by omega), m0 j (by omega)]
      have ys : ∀ j, 13 ≤ j → j ≤ 15 → W9 0 j = W 0 j := fun j h1 h2 => by rw [e9', zup_ne (by omega), l.2 j (by omega), f1.2 j (by omega)]
      have z5 : ∀ j, j ≠ 1 → W9 5 j = W' 5 j := fun j hj => by rw [e9', zup_eq, upd_ne hj]
      refine ⟨fun j hj => ?_, fun i hi => by rw [z5 _ (by omega), y5 _ (by omega), xk 2 (by omega)]; exact i1 i hi, fun s'' p ht hp => by rw [z5 _ (by omega), y5 _ (by omega), xk 3 (by omega)]; exact i2 s'' p ht hp, fun h p hh hp => ?_, fun w => absurd (by rw [← hX, zup_eq, upd_ne (by omega), xM 1 (by omega)]; exact k4 c13) w, by rw [ys 13 (by omega) (by omega), xs 10 (by omega)]; exact i5, by rw [ys 14 (by omega) (by omega), xs 11 (by omega)]; exact i6, by rw [ys 15 (by omega) (by omega), xs 13 (by omega)]; exact i7⟩
      · by_cases w : j = 1
        · subst w
          rw [e9', zup_eq, upd_eq, ← hX, zup_eq, upd_eq]
        · rw [z5 j w, y5 j (by omega), ← hX, zup_eq, upd_ne w, xM 1 (by omega)]; exact i0 j hj
      · rw [z5 _ (by omega), show X (k + 4) = X' (k + 4) by rw [← hX, zup_ne (by omega)]]
        by_cases w : h = H
        · rw [w]; exact j1 p hp
        · rw [y5 _ (by omega), j3 _ (by omega), mc _ (by omega)]
          exact i3 h p (by omega) hp
/-- the sign, its token at hand -/
theorem mt_signA {k z p0 : Nat} {M1 M' W : zMem} {b : Bool} {Q : zMem → Prop} (a : AT k M1 W) (s : WS k z M1 W) (r : rin k z p0 M1) (h : rSi k M1 b M') (ht : ∀ W', b = true → M' = M1 → tkw W W' → NXT k z M' W' → Q W') (hf : ∀ W', b = false → tkw W W' → BAD k M' W' → Q W') : wpJ_Model_readLine_218 Q W := by
  unfold wpJ_Model_readLine_218
  refine ⟨fun w => absurd a.1 w, fun _ => ⟨fun c => ?_, fun c => ?_⟩⟩
  · rw [a.2.2.2.1] at c
    rcases h with ⟨d, -⟩ | ⟨-, hb, rfl⟩
    · exact absurd c d
    · exact mt_nx a.1 a.2.1 s r (fun W' f h => ht W' hb rfl f h)
  · rw [a.2.2.2.1] at c
    rcases h with ⟨-, hb, rfl⟩ | ⟨d, -⟩
    · have bd := BAD_fs (k := k) (c := 2) (M := M1) (W := W) a.2.2.1 (by omega) (by omega)
      exact e_fails (c := nI 2) a.1 (mt_next_no bd.w (hf _ hb tkw.fs bd))
    · exact absurd d c
theorem mt_on {k z p0 n H L j : Nat} {hi : Int32} {t1 t2 : Bool} {M M' W : zMem} {b : Bool} {Q : zMem → Prop} (hj : (j = 2 ∧ hi = 5) ∨ (j = 3 ∧ hi = 99)) (a : AT k M W) (s : WS k z M W) (r : rin k z p0 M) (d : DW k M n H L t1 t2) (e : EQ k M W n H L t1 t2) (h : rOn k z j hi M b M') (q : PL k z M' W b Q) : wp_Model_next W (fun W1 => wp_Model_number 0 hi W1 (fun v W2 => vp_in (nI j) 100 ∧ ∀ W3 : zMem, W3 = zup W2 5 (ix (nI j)) v → wp_Model_next W3 (fun W4 => wpJ_Model_readLine_218 Q W4))) := by
  have hD : b = true → DW k M' n H L t1 t2 := fun hb => (DW_on r d hj (by rw [hb] at h; exact h)).2
  have j3 : j = 2 ∨ j = 3 := by rcases hj with w | w <;> omega
  obtain ⟨b1, M1, h1, h⟩ := h
  rw [q_ix (by omega)]
  refine mt_nx a.1 a.2.1 s r (fun W1 f1 n1 => mt_numN n1 s.2.1 h1 (fun hb1 a1 => ⟨vp_in_nI (by omega) (by omega), fun W3 e3 => ?_⟩) (fun W2 hb1 f2 bd => ⟨vp_in_nI (by omega) (by omega), fun W3 e3 => ?_⟩))
  · subst hb1
    rcases h with ⟨h, -⟩ | ⟨-, h⟩
    · cases h
    obtain ⟨s1, g1, -⟩ := rN_in r h1
    have e1 := e.tk g1 f1
    generalize hX : zup M1 (k + 1) j (M1 k 9) = X at h
    have lX : lf k M X := g1.lf.tr (by rw [← hX]; exact lf.up (by omega) (by omega))
    have lW : lw W W3 := f1.l.tr (by rw [e3]; exact lw.u5)
    refine mt_end (X := X) (by rw [e3, zup_ne (by omega)]; exact a1.1) (by rw [e3, zup_ne (by omega), ← hX, zup_ne (by omega)]; exact a1.2.1) (s.mv lX lW) (rin_mv s1 (by rw [← hX, zup_ne (by omega)]) (by rw [← hX, zup_ne (by omega)])) h lW ?_ hD q
    obtain ⟨i0, i1, i2, i3, i4, i5, i6, i7⟩ := e1
    have xk : ∀ i, i = 0 ∨ i = 2 ∨ i = 3 ∨ i = 4 ∨ i = 5 → X (k + i) = M1 (k + i) := fun i hi => by rw [← hX, zup_ne (by omega)]
    have x0 : X k = M1 k := xk 0 (by omega)
    have y5 : ∀ i, i ≠ j → W3 5 i = W1 5 i := fun i hi => by rw [e3, zup_eq, upd_ne hi]
    have yk : W3 0 = W1 0 := by rw [e3, zup_ne (by omega)]
    refine ⟨fun i hi => ?_, fun i hi => by rw [y5 _ (by omega), xk 2 (by omega)]; exact i1 i hi, fun s' p hs hp => by rw [y5 _ (by omega), xk 3 (by omega)]; exact i2 s' p hs hp, fun h p hh hp => by rw [y5 _ (by omega), xk 4 (by omega)]; exact i3 h p hh hp, fun w h hh => ?_, by rw [yk, x0]; exact i5, by rw [yk, x0]; exact i6, by rw [yk, x0]; exact i7⟩
    · by_cases w : i = j
      · rw [w, e3, zup_eq, upd_eq, ← hX, zup_eq, upd_eq]
      · rw [y5 i w, ← hX, zup_eq, upd_ne w]; exact i0 i hi
    · rw [y5 _ (by omega), xk 5 (by omega)]
      exact i4 (by rw [← hX, zup_eq, upd_ne (by omega)] at w; exact w) h hh
  · subst hb1
    rcases h with ⟨-, hb, hM⟩ | ⟨h, -⟩
    · exact mt_endb hb (by rw [hM, e3]; exact bd.kb kb.u5) ((f1.tr f2).l.tr (by rw [e3]; exact lw.u5)) q
    · cases h
theorem mt_endsL {k z p0 n H L a : Nat} {t1 t2 : Bool} {M M' W : zMem} {b : Bool} {Q : zMem → Prop} (ha : 1 ≤ a ∧ a ≤ 2) (at0 : AT k M W) (s : WS k z M W) (r : rin k z p0 M) (d : DW k M n H L t1 t2) (e : EQ k M W n H L t1 t2) (h : rEs k z n H (nI a) M b M') (q : PL k z M' W b Q) : ∀ W1, W1 = zup W 5 4 (nI a) → wp_Model_readEnds W1 (fun W2 => wpJ_Model_readLine_218 Q W2) := by
  intro W1 e1
  have hD : b = true → DW k M' n H L t1 t2 := fun hb => (DW_ends ha r d (by rw [hb] at h; exact h)).2
  obtain ⟨⟨d1, d2, d3, d4⟩, en, eH, -⟩ := id d
  unfold rEs at h
  generalize hY : zup (zup (zup M k 12 1) k 13 1) (k + 1) 4 (nI a) = Y at h
  have yj : ∀ j, j ≠ 12 → j ≠ 13 → Y k j = M k j := fun j j1 j2 => by rw [← hY, zup_ne (by omega), zup_eq, upd_ne j2, zup_eq, upd_ne j1]
  have yc : ∀ c, c ≠ k → c ≠ k + 1 → Y c = M c := fun c c1 c2 => by rw [← hY, zup_ne c2, zup_ne c1, zup_ne c1]
  have y1 : ∀ j, j ≠ 4 → Y (k + 1) j = M (k + 1) j := fun j hj => by rw [← hY, zup_eq, upd_ne hj, zup_ne (by omega), zup_ne (by omega)]
  have y14 : Y (k + 1) 4 = nI a := by rw [← hY, zup_eq, upd_eq]
  have y13 : Y k 13 = 1 := by rw [← hY, zup_ne (by omega), zup_eq, upd_eq]
  have rY : rin k z p0 Y := rin_mv r (yj 5 (by omega) (by omega)) (yj 6 (by omega) (by omega))
  have fY : lf k M Y := by
    intro c hc
    exact yc c (by omega) (by omega)
  intro W2 e2
  have l2 : lw W W2 := by rw [e2, e1]; exact lw.u5.tr (lw.u0 (by omega))
  have w3 : W2 0 3 = 0 := by rw [e2, zup_eq, upd_ne (by omega), e1, zup_ne (by omega)]; exact at0.1
  have w5 : W2 0 5 = Y k 6 := by rw [e2, zup_eq, upd_ne (by omega), e1, zup_ne (by omega), yj 6 (by omega) (by omega)]; exact at0.2.1
  have c5 : ∀ j, j ≠ 4 → W2 5 j = W 5 j := fun j hj => by rw [e2, zup_ne (by omega), e1, zup_eq, upd_ne hj]
  have c54 : W2 5 4 = nI a := by rw [e2, zup_ne (by omega), e1, zup_eq, upd_eq]
  have eq2 : ∀ (X W' : zMem), l5 W2 W' → (∀ j, (j < 20 ∨ 20 + (H - 1) ≤ j) → W' 5 j = W2 5 j) → (∀ j, j < H - 1 → W' 5 (20 + j) = X (k + 5) j) → (∀ c, c ≠ k → c ≠ k + 5 → X c = Y c) → (∀ j, j ≠ 6 → j ≠ 7 → j ≠ 8 → j ≠ 9 → X k j = Y k j) → EQ k X W' n H L t1 t2 := fun X W' l j0 j1 x0 x1 => by
    obtain ⟨i0, i1, i2, i3, i4, i5, i6, i7⟩ := e
    refine ⟨fun j hj => ?_, fun i hi => by rw [j0 _ (by omega), c5 _ (by omega), x0 _ (by omega) (by omega), yc _ (by omega) (by omega)]; exact i1 i hi, fun s' p hs hp => by rw [j0 _ (by omega), c5 _ (by omega), x0 _ (by omega) (by omega), yc _ (by omega) (by omega)]; exact i2 s' p hs hp, fun h p hh hp => by rw [j0 _ (by omega), c5 _ (by omega), x0 _ (by omega) (by omega), yc _ (by omega) (by omega)]; exact i3 h p hh hp, fun _ h hh => j1 h (by omega), ?_, ?_, ?_⟩
    · rw [j0 j (by omega), x0 _ (by omega) (by omega)]
      by_cases w : j = 4
      · rw [w, c54, y14]
      · rw [c5 j w, y1 j w]; exact i0 j hj
    · rw [l.2 13 (by omega), e2, zup_eq, upd_ne (by omega), e1, zup_ne (by omega), x1 10 (by omega) (by omega) (by omega) (by omega), yj 10 (by omega) (by omega)]; exact i5
    · rw [l.2 14 (by omega), e2, zup_eq, upd_ne (by omega), e1, zup_ne (by omega), x1 11 (by omega) (by omega) (by omega) (by omega), yj 11 (by omega) (by omega)]; exact i6
    · rw [l.2 15 (by omega), e2, zup_eq, upd_eq, x1 13 (by omega) (by omega) (by omega) (by omega), y13]
  refine mt_nx w3 w5 (s.mv fY l2) rY (fun W3 f3 n3 => ?_)
  have wn : ∀ W' : zMem, (∀ j, (j < 20 ∨ 20 + (H - 1) ≤ j) → W' 5 j = W2 5 j) → W' 5 (ix 0) = nI n ∧ W' 5 (ix 1) = nI H := fun W' j0 => by
    have z0 : (ix 0 : Nat) = 0 := rfl
    have z1 : (ix 1 : Nat) = 1 := rfl
    rw [z0, z1, j0 0 (by omega), j0 1 (by omega), c5 0 (by omega), c5 1 (by omega)]
    exact ⟨(e.1 0 (by omega)).trans en, (e.1 1 (by omega)).trans eH⟩
  refine zlp1_r (fun m x W' => ∃ i, x = nI i ∧ i ≤ H ∧ m = H - i ∧ (∀ j, (j < 20 ∨ 20 + (H - 1) ≤ j) → W' 5 j = W2 5 j) ∧ ((b = false ∧ BAD k M' W' ∧ lw W W') ∨ ∃ X lo, NXT k z X W' ∧ rin k z p0 X ∧ rEn k z n (H - 1 - i) i lo X b M' ∧ (i = 0 → lo = 1) ∧ (0 < i → lo = W' 5 (20 + i - 1)) ∧ l5 W2 W' ∧ (∀ j, j < i → W' 5 (20 + j) = X (k + 5) j) ∧ i ≤ (H - 1) ∧ (∀ c, c ≠ k → c ≠ k + 5 → X c = Y c) ∧ (∀ j, j ≠ 6 → j ≠ 7 → j ≠ 8 → j ≠ 9 → X k j = Y k j))) ?_ (n := H) ⟨0, rfl, by omega, rfl, fun j _ => by rw [f3.1 5 (by omega)], Or.inr ⟨Y, 1, n3, rY, h, fun _ => rfl, fun w => absurd w (by omega), f3.l5, fun j hj => absurd hj (by omega), by omega, fun _ _ _ => rfl, fun _ _ _ _ _ => rfl⟩⟩
  rintro m x W' ⟨i, rfl, hi, rfl, g0, hcase⟩ J hJ
  obtain ⟨wn0, wn1⟩ := wn W' g0
  unfold wpB_Model_readEnds_11
  rw [wn1]
  have le : (nI H - 1 ≤ nI i) ↔ H - 1 ≤ i := by
    rcases Nat.eq_zero_or_pos H with h0 | h0
    · subst h0
      exact ⟨fun _ => by omega, fun _ => Int32.le_trans (show nI 0 - 1 ≤ 0 by decide) (nI_pos' (by omega))⟩
    · have e : nI H - 1 = nI (H - 1) := q_sub (a := H) (b := 1) h0
      rw [e]
      exact nI_leI (by omega) (by omega)
  have e20 : (20 : Int32) + nI i = nI (20 + i) := q_add 20 i
  rcases hcase with ⟨hb, bd, l⟩ | ⟨X, lo, n', r', h', lo0, lo1, l, g1, iH, g2, g4⟩
  · have bj : ∀ x : Int32, i < H - 1 → wpJ_Model_readEnds_42 J (fun W2 => wpJ_Model_readLine_218 Q W2) (nI i) x W' := fun x hi2 => by
      refine ⟨vp_in_nI (n := 0) (by omega) (by omega), mt_num_bad bd.w ?_⟩
      rw [e20, q_ix (by omega)]
      refine ⟨vp_in_nI (by omega) (by omega), fun W6 e6 => ?_⟩
      have b6 : BAD k M' W6 := by rw [e6]; exact bd.kb kb.u5
      refine mt_next_no b6.w (fun y ey => ?_)
      rw [ey, nI_1]
      exact hJ (H - (i + 1)) _ _ (by omega) ⟨i + 1, rfl, by omega, rfl, fun j hj => by rw [e6, zup_eq, upd_ne (by omega)]; exact g0 j hj, Or.inl ⟨hb, b6, l.tr (by rw [e6]; exact lw.u5)⟩⟩
    refine ⟨vp_in_nI (n := 1) (by omega) (by omega), fun _ => mt_sign_bad bd.w (q.2 W' hb l bd), fun c => ⟨fun c0 => ?_, fun _ => bj _ ?_⟩⟩
    · have i0 : i ≠ 0 := fun w => c0 (by rw [w]; rfl)
      have hi2 : i < H - 1 := by
        rcases Nat.lt_or_ge i (H - 1) with u | u
        · exact u
        · exact absurd (le.mpr u) c
      rw [e20, show nI (20 + i) - 1 = nI (20 + i - 1) from q_sub (a := 20 + i) (b := 1) (by omega)]
      exact ⟨vp_in_nI (by omega) (by omega), bj _ hi2⟩
    · rcases Nat.lt_or_ge i (H - 1) with u | u
      · exact u
      · exact absurd (le.mpr u) c
  · have goj : i < H - 1 → wpJ_Model_readEnds_42 J (fun W2 => wpJ_Model_readLine_218 Q W2) (nI i) lo W' := fun hi2 => by
      obtain ⟨f, ef⟩ : ∃ f, H - 1 - i = f + 1 := ⟨H - 1 - i - 1, by omega⟩
      rw [ef] at h'
      obtain ⟨b1, M1, h1, h2⟩ := h'
      refine ⟨vp_in_nI (n := 0) (by omega) (by omega), ?_⟩
      rw [wn0, e20, q_ix (by omega)]
      refine mt_numN n' s.2.1 h1 (fun hb1 a1 => ⟨vp_in_nI (by omega) (by omega), fun W6 e6 => ?_⟩) (fun W5 hb1 f5 bd => ⟨vp_in_nI (by omega) (by omega), fun W6 e6 => ?_⟩)
      · subst hb1
        rcases h2 with ⟨h2, -⟩ | ⟨-, h2⟩
        · cases h2
        obtain ⟨r1, tk1, -⟩ := rN_in r' h1
        have w6 : l5 W2 W6 := l.tr (by rw [e6]; exact l5_u)
        generalize hZ : zup M1 (k + 5) i (M1 k 9) = Z at h2
        have lZ : lf k M Z := by
          intro c hc
          rw [← hZ, zup_ne (by omega), tk1.1 c (by omega), g2 c (by omega) (by omega)]
          exact yc c (by omega) (by omega)
        have rZ : rin k z p0 Z := rin_mv r1 (by rw [← hZ, zup_ne (by omega)]) (by rw [← hZ, zup_ne (by omega)])
        refine mt_nx (M := Z) (by rw [e6, zup_ne (by omega)]; exact a1.1) (by rw [e6, zup_ne (by omega), ← hZ, zup_ne (by omega)]; exact a1.2.1) (s.mv lZ (l2.tr w6.l)) rZ (fun W7 f7 n7 y ey => ?_)
        rw [ey, nI_1]
        have v5 : W7 5 = W6 5 := f7.1 5 (by omega)
        refine hJ (H - (i + 1)) _ _ (by omega) ⟨i + 1, rfl, by omega, rfl, fun j hj => by rw [v5, e6, zup_eq, upd_ne (by omega)]; exact g0 j hj, Or.inr ⟨Z, M1 k 9, n7, rZ, by rw [show H - 1 - (i + 1) = f by omega]; exact h2, fun w => absurd w (by omega), fun _ => ?_, w6.tr f7.l5, fun j hj => ?_, by omega, fun c c1 c2 => ?_, fun j j1 j2 j3 j4 => ?_⟩⟩
        · rw [v5, e6, zup_eq, show 20 + (i + 1) - 1 = 20 + i by omega, upd_eq]
        · rw [v5, e6, zup_eq]
          by_cases w : j = i
          · rw [w, upd_eq, ← hZ, zup_eq, upd_eq]
          · rw [upd_ne (by omega), ← hZ, zup_eq, upd_ne w, tk1.1 _ (by omega)]
            exact g1 j (by omega)
        · rw [← hZ, zup_ne c2, tk1.1 c c1]; exact g2 c c1 c2
        · rw [← hZ, zup_ne (by omega), tk1.2 j j1 j2 j3 j4]; exact g4 j j1 j2 j3 j4
      · subst hb1
        rcases h2 with ⟨-, hb, hM⟩ | ⟨h2, -⟩
        · have b6 : BAD k M' W6 := by rw [hM, e6]; exact bd.kb kb.u5
          refine mt_next_no b6.w (fun y ey => ?_)
          rw [ey, nI_1]
          exact hJ (H - (i + 1)) _ _ (by omega) ⟨i + 1, rfl, by omega, rfl, fun j hj => by rw [e6, zup_eq, upd_ne (by omega), f5.1 5 (by omega)]; exact g0 j hj, Or.inl ⟨hb, b6, ((l2.tr l.l).tr f5.l).tr (by rw [e6]; exact lw.u5)⟩⟩
        · cases h2
    refine ⟨vp_in_nI (n := 1) (by omega) (by omega), fun c => ?_, fun c => ⟨fun c0 => ?_, fun c0 => ?_⟩⟩
    · have hi2 := le.mp c
      rw [show H - 1 - i = 0 by omega] at h'
      have lX : lf k M X := by
        intro c hc
        rw [g2 c (by omega) (by omega)]
        exact yc c (by omega) (by omega)
      exact mt_fin (n := n) (H := H) (L := L) (t1 := t1) (t2 := t2) n' (s.mv lX (l2.tr l.l)) r' h' (l2.tr l.l) (eq2 X W' l g0 (fun j hj => g1 j (by omega)) g2 g4) hD q
    · have i0 : 0 < i := by
        rcases Nat.eq_zero_or_pos i with w | w
        · exact absurd (by rw [w]; rfl) c0
        · exact w
      have hi2 : i < H - 1 := by
        rcases Nat.lt_or_ge i (H - 1) with u | u
        · exact u
        · exact absurd (le.mpr u) c
      rw [e20, show nI (20 + i) - 1 = nI (20 + i - 1) from q_sub (a := 20 + i) (b := 1) (by omega), q_ix (by omega), ← lo1 i0]
      exact ⟨vp_in_nI (by omega) (by omega), goj hi2⟩
    · have i0 : i = 0 := (nI_eq (b := 0) (by omega) (by omega)).mp c0
      have hi2 : i < H - 1 := by
        rcases Nat.lt_or_ge i (H - 1) with u | u
        · exact u
        · exact absurd (le.mpr u) c
      rw [← lo0 i0]
      exact goj hi2
theorem mt_rowL {k z p0 n H : Nat} {t1 t2 : Bool} {M M' W : zMem} {b : Bool} {Q : zMem → Prop} (at0 : AT k M W) (s : WS k z M W) (r : rin k z p0 M) (d : DW k M n H 1 t1 t2) (e : EQ k M W n H 1 t1 t2) (h : rRo k z M b M') (q : PL k z M' W b Q) : wp_Model_readRow W (fun W2 => wpJ_Model_readLine_218 Q W2) := by
  have hD : b = true → ∃ L', DW k M' n H L' t1 t2 := fun hb => (DW_row r d rfl (by rw [hb] at h; exact h)).2
  refine mt_nx at0.1 at0.2.1 s r (fun W1 f1 n1 => ⟨vp_in_nI (n := 6) (by omega) (by omega), fun W3 e3 => ?_⟩)
  have e3' : W3 = zup W1 5 6 0 := e3
  have l3 : lw W W3 := f1.l.tr (by rw [e3']; exact lw.u5)
  have n3 : NXT k z M W3 := by
    obtain ⟨p, p1, p2, p3⟩ := n1
    refine ⟨p, p1, p2, ?_⟩
    unfold nT at p3 ⊢
    rw [e3', zup_ne (by omega)]; exact p3
  have c5 : ∀ j, j ≠ 6 → W3 5 j = W 5 j := fun j hj => by rw [e3', zup_eq, upd_ne hj, f1.1 5 (by omega)]
  have c56 : W3 5 6 = 0 := by rw [e3', zup_eq, upd_eq]
  have c0 : ∀ j, (j < 3 ∨ 8 < j) → W3 0 j = W 0 j := fun j hj => by rw [e3', zup_ne (by omega)]; exact f1.2 j hj
  -- what the row is when i numbers have come
  have eqi : ∀ (i : Nat) (X W' : zMem), l5 W3 W' → (∀ j, (j < 6 ∨ (6 < j ∧ j < 10) ∨ 16 ≤ j) → W' 5 j = W3 5 j) → W' 5 6 = nI i → (∀ j, j < i → W' 5 (10 + j) = X (k + 2) j) → X (k + 1) 6 = nI i → (∀ j, j ≠ 6 → X (k + 1) j = M (k + 1) j) → (∀ c, c ≠ k → c ≠ k + 1 → c ≠ k + 2 → X c = M c) → (∀ j, j ≠ 6 → j ≠ 7 → j ≠ 8 → j ≠ 9 → X k j = M k j) → EQ k X W' n H i t1 t2 := fun i X W' l j0 j6 j1 x6 x1 xc xk => by
    obtain ⟨i0, i1, i2, i3, i4, i5, i6, i7⟩ := e
    refine ⟨fun j hj => ?_, fun j hj => j1 j hj, fun s' p hs hp => by rw [j0 _ (by omega), c5 _ (by omega), xc _ (by omega) (by omega) (by omega)]; exact i2 s' p hs hp, fun h p hh hp => by rw [j0 _ (by omega), c5 _ (by omega), xc _ (by omega) (by omega) (by omega)]; exact i3 h p hh hp, fun w h hh => ?_, by rw [l.2 13 (by omega), c0 13 (by omega), xk 10 (by omega) (by omega) (by omega) (by omega)]; exact i5, by rw [l.2 14 (by omega), c0 14 (by omega), xk 11 (by omega) (by omega) (by omega) (by omega)]; exact i6, by rw [l.2 15 (by omega), c0 15 (by omega), xk 13 (by omega) (by omega) (by omega) (by omega)]; exact i7⟩
    · by_cases w : j = 6
      · rw [w, j6, x6]
      · rw [j0 j (by omega), c5 j w, x1 j w]; exact i0 j hj
    · have hH : H ≤ 5 := d.1.2.1
      rw [j0 _ (by omega), c5 _ (by omega), xc _ (by omega) (by omega) (by omega)]
      exact i4 (by rw [x1 4 (by omega)] at w; exact w) h hh
  have dd : ∀ (i : Nat) (X : zMem), i ≤ 6 → X (k + 1) 6 = nI i → tkf k X M' ∨ M' = X → b = true → DW k M' n H i t1 t2 := fun i X hi x6 hx hb => by
    obtain ⟨L', dv⟩ := hD hb
    have e6 : M' (k + 1) 6 = X (k + 1) 6 := by
      rcases hx with f | f
      · rw [f.1 (k + 1) (by omega)]
      · rw [f]
    have b6 := dv.1.2.2.2
    have : i = L' := (nI_eq (by omega) (by omega)).mp (x6.symm.trans (e6.symm.trans dv.2.2.2.1))
    rw [this]; exact dv
  refine zlp1_r (fun m x W' => (x = 0 ∨ x = 1) ∧ ((b = false ∧ BAD k M' W' ∧ lw W W') ∨ (m = 7 ∧ x = 1 ∧ W' = W3) ∨ ∃ i X, 1 ≤ i ∧ i ≤ 6 ∧ m = 7 - i ∧ AT k X W' ∧ rin k z p0 X ∧ (x = 1 ↔ X k 7 = 2) ∧ rRl k z (6 - i) i X b M' ∧ l5 W3 W' ∧ (∀ j, (j < 6 ∨ (6 < j ∧ j < 10) ∨ 16 ≤ j) → W' 5 j = W3 5 j) ∧ W' 5 6 = nI i ∧ (∀ j, j < i → W' 5 (10 + j) = X (k + 2) j) ∧ X (k + 1) 6 = nI i ∧ (∀ j, j ≠ 6 → X (k + 1) j = M (k + 1) j) ∧ (∀ c, c ≠ k → c ≠ k + 1 → c ≠ k + 2 → X c = M c) ∧ (∀ j, j ≠ 6 → j ≠ 7 → j ≠ 8 → j ≠ 9 → X k j = M k j))) ?_ (n := 7) ⟨Or.inr rfl, Or.inr (Or.inl ⟨rfl, rfl, rfl⟩)⟩
  rintro m x W' ⟨hx, hcase⟩ J hJ
  unfold wpB_Model_readRow_14
  have badJ91 : ∀ W5 : zMem, 0 < m → b = false → BAD k M' W5 → lw W W5 → wpJ_Model_readRow_91 J (fun W2 => wpJ_Model_readLine_218 Q W2) W5 := fun W5 hm hb bd l => mt_next_no bd.w ⟨fun _ => hJ 0 _ _ hm ⟨Or.inl rfl, Or.inl ⟨hb, bd, l⟩⟩, fun _ => hJ 0 _ _ hm ⟨Or.inr rfl, Or.inl ⟨hb, bd, l⟩⟩⟩
  have nx91 : ∀ (i : Nat) (X W5 : zMem), 1 ≤ i → i ≤ 6 → 7 - i < m → W5 0 3 = 0 → W5 0 5 = X k 6 → rin k z p0 X → bnd (tkn k z) (rRl k z (6 - i) i) X b M' → l5 W3 W5 → (∀ j, (j < 6 ∨ (6 < j ∧ j < 10) ∨ 16 ≤ j) → W5 5 j = W3 5 j) → W5 5 6 = nI i → (∀ j, j < i → W5 5 (10 + j) = X (k + 2) j) → X (k + 1) 6 = nI i → (∀ j, j ≠ 6 → X (k + 1) j = M (k + 1) j) → (∀ c, c ≠ k → c ≠ k + 1 → c ≠ k + 2 → X c = M c) → (∀ j, j ≠ 6 → j ≠ 7 → j ≠ 8 → j ≠ 9 → X k j = M k j) → wpJ_Model_readRow_91 J (fun W2 => wpJ_Model_readLine_218 Q W2) W5 := fun i X W5 i1 i6 hm w3 w5 rX hB l j0 j6 j1 x6 x1 xc xk => by
    have lX : lf k M X := fun c hc => xc c (by omega) (by omega) (by omega)
    have sX : WS k z X W5 := s.mv lX (l3.tr l.l)
    refine mt_nx w3 w5 sX rX (fun W6 f6 n6 => ?_)
    obtain ⟨b4, M4, t4, h4⟩ := hB
    obtain ⟨q1, q2⟩ := nx_tkn s.2.1 n6 t4
    rcases h4 with ⟨rfl, hb, hM⟩ | ⟨rfl, h4⟩
    · have bd : BAD k M' W6 := by rw [hM]; exact q2 rfl
      have ll : lw W W6 := (l3.tr l.l).tr f6.l
      exact ⟨fun _ => hJ 0 _ _ (by omega) ⟨Or.inl rfl, Or.inl ⟨hb, bd, ll⟩⟩, fun _ => hJ 0 _ _ (by omega) ⟨Or.inr rfl, Or.inl ⟨hb, bd, ll⟩⟩⟩
    · have a4 := q1 rfl
      obtain ⟨r4, g4⟩ := tkn_in rX t4
      have v5 : W6 5 = W5 5 := f6.1 5 (by omega)
      have st : ∀ x : Int32, (x = 0 ∨ x = 1) → (x = 1 ↔ M4 k 7 = 2) → J x W6 := fun x hx hx2 => hJ (7 - i) _ _ hm ⟨hx, Or.inr (Or.inr ⟨i, M4, i1, i6, rfl, a4, r4, hx2, h4, l.tr f6.l5, by rw [v5]; exact j0, by rw [v5]; exact j6, fun j hj => by rw [v5, g4.1 (k + 2) (by omega)]; exact j1 j hj, by rw [g4.1 (k + 1) (by omega)]; exact x6, fun j hj => by rw [g4.1 (k + 1) (by omega)]; exact x1 j hj, fun c c1 c2 c3 => by rw [g4.1 c c1]; exact xc c c1 c2 c3, fun j a b c d => by rw [g4.2 j a b c d]; exact xk j a b c d⟩)⟩
      rw [a4.2.2.2.1]
      exact ⟨fun c => st 0 (Or.inl rfl) ⟨fun w => absurd w (by decide), fun w => absurd w c⟩, fun c => st 1 (Or.inr rfl) ⟨fun _ => c, fun _ => rfl⟩⟩
  rcases hcase with ⟨hb, bd, l⟩ | ⟨rfl, rfl, rfl⟩ | ⟨i, X, i1, i6, rfl, aX, rX, hx2, hR, l, j0, j6, j1, x6, x1, xc, xk⟩
  · exact ⟨fun _ => mt_sign_bad bd.w (q.2 W' hb l bd), fun _ => ⟨fun _ => mt_sign_bad bd.w (q.2 W' hb l bd), fun w => absurd w bd.w.ne⟩⟩
  · refine ⟨fun w => absurd w (by decide), fun _ => ⟨fun w => ?_, fun w3 => ?_⟩⟩
    · have hw : bw W' := by
        obtain ⟨p, p1, p2, p3, p4⟩ := n3
        rcases p4 with ⟨-, c3, -⟩ | ⟨-, c3, -⟩
        · exact absurd c3 w
        · exact ⟨1, by omega, by omega, c3⟩
      obtain ⟨b1, M1, h1, h2⟩ := h
      obtain ⟨c1, c2⟩ := first_bad s.2.1 n3 hw h1
      rcases h2 with ⟨-, hb, hM⟩ | ⟨hb, -⟩
      · exact mt_sign_bad hw (q.2 W' hb l3 (by rw [hM]; exact c2))
      · rw [hb] at c1; cases c1
    · have go : wpJ_Model_readRow_50 J (fun W2 => wpJ_Model_readLine_218 Q W2) W' := by
        obtain ⟨b1, M1, h1, h2⟩ := h
        refine mt_numN n3 s.2.1 h1 (fun hb1 a1 => ?_) (fun W5 hb1 f5 bd => ?_)
        · subst hb1
          rcases h2 with ⟨h2, -⟩ | ⟨-, h2⟩
          · cases h2
          obtain ⟨r1, g1, -⟩ := rN_in r h1
          have z6 : W' 5 (ix 6) = 0 := c56
          refine ⟨fun w => absurd a1.1 w, fun _ => ⟨vp_in_nI (n := 6) (by omega) (by omega), by rw [z6]; exact vp_in_nI (n := 10) (by omega) (by omega), fun W8 e8 => ⟨vp_in_nI (n := 6) (by omega) (by omega), vp_in_nI (n := 6) (by omega) (by omega), fun W9 e9 => ?_⟩⟩⟩
          rw [z6] at e8
          have e8' : W8 = zup W' 5 10 (M1 k 9) := e8
          have y6 : W8 5 (ix 6) = 0 := by rw [e8', zup_eq]; exact (upd_ne (show (6 : Nat) ≠ 10 by omega)).trans c56
          rw [y6] at e9
          have e9' : W9 = zup (zup W' 5 10 (M1 k 9)) 5 6 (nI 1) := by rw [e9, e8']; rfl
          generalize hX : zup M1 (k + 2) 0 (M1 k 9) = X at h2
          have e16 : M (k + 1) 6 = nI 1 := d.2.2.2.1
          refine nx91 1 X W9 (by omega) (by omega) (by omega) (by rw [e9', zup_ne (by omega), zup_ne (by omega)]; exact a1.1) (by rw [e9', zup_ne (by omega), zup_ne (by omega), ← hX, zup_ne (by omega)]; exact a1.2.1) (rin_mv r1 (by rw [← hX, zup_ne (by omega)]) (by rw [← hX, zup_ne (by omega)])) h2 (by rw [e9']; exact l5_u.tr l5_u) (fun j hj => by rw [e9', zup_eq, upd_ne (by omega), zup_eq, upd_ne (by omega)]) (by rw [e9', zup_eq, upd_eq]) (fun j hj => ?_) (by rw [← hX, zup_ne (by omega), g1.1 (k + 1) (by omega)]; exact e16) (fun j hj => by rw [← hX, zup_ne (by omega), g1.1 (k + 1) (by omega)]) (fun c c1 c2 c3 => by rw [← hX, zup_ne c3, g1.1 c c1]) (fun j a b c d => by rw [← hX, zup_ne (by omega), g1.2 j a b c d])
          rw [show j = 0 by omega, e9', zup_eq, upd_ne (by omega), zup_eq, upd_eq, ← hX, zup_eq, upd_eq]
        · subst hb1
          rcases h2 with ⟨-, hb, hM⟩ | ⟨h2, -⟩
          · exact ⟨fun _ => badJ91 W5 (by omega) hb (by rw [hM]; exact bd) (l3.tr f5.l), fun w => absurd w bd.w.ne⟩
          · cases h2
      refine ⟨fun _ => go, fun _ => ⟨vp_in_nI (n := 6) (by omega) (by omega), fun _ => go, fun w => ?_⟩⟩
      have z6 : W' 5 (ix 6) = 0 := c56
      rw [z6] at w
      exact absurd w (by decide)
  · have lX : lf k M X := fun c hc => xc c (by omega) (by omega) (by omega)
    have lW : lw W W' := l3.tr l.l
    have sX : WS k z X W' := s.mv lX lW
    refine ⟨fun w => ?_, fun w => ⟨fun v => absurd aX.1 v, fun _ => ?_⟩⟩
    · have c7 : ¬ X k 7 = 2 := fun v => by rw [w] at hx2; exact absurd (hx2.mpr v) (by decide)
      have hS : rSi k X b M' := by
        cases h6 : 6 - i with
        | zero =>
          rw [h6] at hR
          rcases hR with ⟨v, -⟩ | ⟨-, v⟩
          · exact absurd v c7
          · exact v
        | succ m =>
          rw [h6] at hR
          rcases hR with ⟨-, v⟩ | ⟨v, -⟩
          · exact v
          · exact absurd v c7
      refine mt_signA aX sX rX hS (fun W2 hb hM f2 n2 => q.1 W2 hb (lW.tr f2.l) n2 ⟨n, H, i, t1, t2, dd i X i6 x6 (Or.inr hM) hb, ?_⟩) (fun W2 hb f2 bd => q.2 W2 hb (lW.tr f2.l) bd)
      rw [hM]
      exact (eqi i X W' l j0 j6 j1 x6 x1 xc xk).mv (fun _ _ _ => rfl) ⟨rfl, rfl, rfl⟩ f2
    · have c7 : X k 7 = 2 := hx2.mp (hx.resolve_left w)
      have z6 : W' 5 (ix 6) = nI i := j6
      refine ⟨fun v => absurd (by rw [aX.2.2.2.1]; exact c7) v, fun _ => ⟨vp_in_nI (n := 6) (by omega) (by omega), fun v => ?_, fun v => ?_⟩⟩
      · rw [z6] at v
        have i5 : i < 6 := by
          rcases Nat.lt_or_ge i 6 with u | u
          · exact u
          · exact absurd (by rw [show i = 6 by omega]; rfl) v
        obtain ⟨m, em⟩ : ∃ m, 6 - i = m + 1 := ⟨6 - i - 1, by omega⟩
        rw [em] at hR
        rcases hR with ⟨u, -⟩ | ⟨-, hR⟩
        · exact absurd c7 u
        obtain ⟨b1, M1, hw, h2⟩ := hR
        refine mt_num aX (Or.inr ⟨c7, hw⟩) (fun hb1 e1 => ?_) (fun W5 hb1 f5 bd => ?_)
        · subst hb1
          rcases h2 with ⟨h2, -⟩ | ⟨-, h2⟩
          · cases h2
          rw [e1] at h2
          have e10 : (10 : Int32) + nI i = nI (10 + i) := q_add 10 i
          rw [z6, e10, q_ix (by omega)]
          refine ⟨fun u => absurd aX.1 u, fun _ => ⟨vp_in_nI (n := 6) (by omega) (by omega), vp_in_nI (by omega) (by omega), fun W8 e8 => ⟨vp_in_nI (n := 6) (by omega) (by omega), vp_in_nI (n := 6) (by omega) (by omega), fun W9 e9 => ?_⟩⟩⟩
          have y6 : W8 5 (ix 6) = nI i := by rw [e8, zup_eq]; exact (upd_ne (show (6 : Nat) ≠ 10 + i by omega)).trans j6
          rw [y6, nI_1] at e9
          have e9' : W9 = zup (zup W' 5 (10 + i) (X k 9)) 5 6 (nI (i + 1)) := by rw [e9, e8]; rfl
          generalize hX : zup (zup X (k + 2) i (X k 9)) (k + 1) 6 (nI (i + 1)) = X2 at h2
          refine nx91 (i + 1) X2 W9 (by omega) (by omega) (by omega) (by rw [e9', zup_ne (by omega), zup_ne (by omega)]; exact aX.1) (by rw [e9', zup_ne (by omega), zup_ne (by omega), ← hX, zup_ne (by omega), zup_ne (by omega)]; exact aX.2.1) (rin_mv rX (by rw [← hX, zup_ne (by omega), zup_ne (by omega)]) (by rw [← hX, zup_ne (by omega), zup_ne (by omega)])) (by rw [show 6 - (i + 1) = m by omega]; exact h2) (l.tr (by rw [e9']; exact l5_u.tr l5_u)) (fun j hj => by rw [e9', zup_eq, upd_ne (by omega), zup_eq, upd_ne (by omega)]; exact j0 j hj) (by rw [e9', zup_eq, upd_eq]) (fun j hj => ?_) (by rw [← hX, zup_eq, upd_eq]) (fun j hj => by rw [← hX, zup_eq, upd_ne hj, zup_ne (by omega)]; exact x1 j hj) (fun c c1 c2 c3 => by rw [← hX, zup_ne c2, zup_ne c3]; exact xc c c1 c2 c3) (fun j a b c d => by rw [← hX, zup_ne (by omega), zup_ne (by omega)]; exact xk j a b c d)
          rw [e9', zup_eq, upd_ne (by omega), zup_eq, ← hX, zup_ne (by omega), zup_eq]
          by_cases u : j = i
          · rw [u, upd_eq, upd_eq]
          · rw [upd_ne (by omega), upd_ne u]; exact j1 j (by omega)
        · subst hb1
          rcases h2 with ⟨-, hb, hM⟩ | ⟨h2, -⟩
          · exact ⟨fun _ => badJ91 W5 (by omega) hb (by rw [hM]; exact bd) (lW.tr f5.l), fun u => absurd u bd.w.ne⟩
          · cases h2
      · rw [z6] at v
        have i6' : i = 6 := (nI_eq (b := 6) (by omega) (by omega)).mp v
        subst i6'
        have hR' : rRl k z 0 6 X b M' := hR
        rcases hR' with ⟨-, hb, hM⟩ | ⟨u, -⟩
        · have bd := BAD_fs (k := k) (c := 5) (M := X) (W := W') aX.2.2.1 (by omega) (by omega)
          have bd' : BAD k M' (wfs (nI 5) W') := by rw [hM]; exact bd
          exact e_fails (c := nI 5) aX.1 (mt_num_bad bd.w ⟨fun _ => badJ91 _ (by omega) hb bd' (lW.tr tkw.fs.l), fun u => absurd u bd.w.ne⟩)
        · exact absurd c7 u
theorem PL.mv {k z : Nat} {M' W W1 : zMem} {b : Bool} {Q : zMem → Prop} (q : PL k z M' W b Q) (l : lw W W1) : PL k z M' W1 b Q := ⟨fun W' hb l' n e => q.1 W' hb (l.tr l') n e, fun W' hb l' bd => q.2 W' hb (l.tr l') bd⟩
/-- under a fault the rest of a line does nothing -/
theorem mt_bad71 {nm H : Nat} {Q : zMem → Prop} {W : zMem} (h : bw W) (eH : W 5 1 = nI H) (H5 : H ≤ 5) (hn : nm = 3 ∨ nm = 5 ∨ nm = 6 ∨ nm = 7 ∨ nm = 8 ∨ nm = 9) (hQ : ∀ W', kb W W' → Q W') : wpJ_Model_readLine_71 Q (nI nm) W := by
  have row : wp_Model_readRow W (fun W2 => wpJ_Model_readLine_218 Q W2) := by
    refine mt_next_no h ⟨vp_in_nI (n := 6) (by omega) (by omega), fun W3 e3 => ?_⟩
    have k3 : kb W W3 := by rw [e3]; exact kb.u5
    have b3 := k3.w h
    refine ⟨1, ?_⟩
    show wpB_Model_readRow_14 _ _ _ _
    exact ⟨fun w => absurd w (by decide), fun _ => ⟨fun _ => mt_sign_bad b3 (hQ W3 k3), fun w => absurd w b3.ne⟩⟩
  have on : ∀ (j : Nat) (hi : Int32), j ≤ 3 → wp_Model_next W (fun W1 => wp_Model_number 0 hi W1 (fun v W2 => vp_in (nI j) 100 ∧ ∀ W3 : zMem, W3 = zup W2 5 (ix (nI j)) v → wp_Model_next W3 (fun W4 => wpJ_Model_readLine_218 Q W4))) := fun j hi hj => by
    refine mt_next_no h (mt_num_bad h ⟨vp_in_nI (by omega) (by omega), fun W3 e3 => ?_⟩)
    have k3 : kb W W3 := by rw [e3]; exact kb.u5
    exact mt_next_no (k3.w h) (mt_sign_bad (k3.w h) (hQ W3 k3))
  have ends : ∀ v : Int32, ∀ W1, W1 = zup W 5 (ix 4) v → wp_Model_readEnds W1 (fun W2 => wpJ_Model_readLine_218 Q W2) := fun v W1 e1 W2 e2 => by
    have e1' : W1 = zup W 5 4 v := e1
    have k2 : kb W W2 := by rw [e2, e1']; exact kb.u5.tr (kb.u0 (by omega))
    have s2 : W2 5 1 = nI H := by rw [e2, zup_ne (by omega), e1', zup_eq, upd_ne (by omega)]; exact eH
    refine mt_next_no (k2.w h) ?_
    refine zlp1_r (fun m x W' => ∃ i, x = nI i ∧ i ≤ H ∧ m = H - i ∧ kb W W' ∧ W' 5 1 = nI H) ?_ (n := H) ⟨0, rfl, by omega, rfl, k2, s2⟩
    rintro m x W' ⟨i, rfl, hi, rfl, k', s'⟩ J hJ
    unfold wpB_Model_readEnds_11
    have z1 : W' 5 (ix 1) = nI H := s'
    rw [z1]
    have le : (nI H - 1 ≤ nI i) ↔ H - 1 ≤ i := by
      rcases Nat.eq_zero_or_pos H with h0 | h0
      · subst h0
        exact ⟨fun _ => by omega, fun _ => Int32.le_trans (show nI 0 - 1 ≤ 0 by decide) (nI_pos' (by omega))⟩
      · have e : nI H - 1 = nI (H - 1) := q_sub (a := H) (b := 1) h0
        rw [e]
        exact nI_leI (by omega) (by omega)
    have e20 : (20 : Int32) + nI i = nI (20 + i) := q_add 20 i
    have bj : ∀ x : Int32, i < H - 1 → wpJ_Model_readEnds_42 J (fun W2 => wpJ_Model_readLine_218 Q W2) (nI i) x W' := fun x hi2 => by
      refine ⟨vp_in_nI (n := 0) (by omega) (by omega), mt_num_bad (k'.w h) ?_⟩
      rw [e20, q_ix (by omega)]
      refine ⟨vp_in_nI (by omega) (by omega), fun W6 e6 => ?_⟩
      have k6 : kb W W6 := k'.tr (by rw [e6]; exact kb.u5)
      refine mt_next_no (k6.w h) (fun y ey => ?_)
      rw [ey, nI_1]
      exact hJ (H - (i + 1)) _ _ (by omega) ⟨i + 1, rfl, by omega, rfl, k6, by rw [e6, zup_eq, upd_ne (by omega)]; exact s'⟩
    have lt : ¬ (nI H - 1 ≤ nI i) → i < H - 1 := fun c => by
      rcases Nat.lt_or_ge i (H - 1) with u | u
      · exact u
      · exact absurd (le.mpr u) c
    refine ⟨vp_in_nI (n := 1) (by omega) (by omega), fun _ => mt_sign_bad (k'.w h) (hQ W' k'), fun c => ⟨fun c0 => ?_, fun _ => bj _ (lt c)⟩⟩
    have i0 : i ≠ 0 := fun w => c0 (by rw [w]; rfl)
    rw [e20, show nI (20 + i) - 1 = nI (20 + i - 1) from q_sub (a := 20 + i) (b := 1) (by omega)]
    exact ⟨vp_in_nI (by omega) (by omega), bj _ (lt c)⟩
  intro x ex
  subst ex
  rcases hn with rfl | rfl | rfl | rfl | rfl | rfl
  · exact ⟨fun w => absurd w (by decide), fun w => absurd w (by decide), fun w => absurd w (by decide), fun _ => row, fun w => absurd w (by decide), fun w => absurd w (by decide), fun w => absurd w (by decide), fun w => absurd w (by decide), fun _ _ _ w => absurd rfl w⟩
  · refine ⟨fun w => absurd w (by decide), fun w => absurd w (by decide), fun w => absurd w (by decide), fun w => absurd w (by decide), fun w => absurd w (by decide), fun _ => ?_, fun w => absurd w (by decide), fun w => absurd w (by decide), fun _ _ _ _ _ w => absurd rfl w⟩
    have e5 : (nI 5 = (5 : Int32)) = True := eq_true rfl
    simp only [e5, not_true_eq_false, false_implies, true_implies, true_and]
    exact on 2 5 (by omega)
  · refine ⟨fun w => absurd w (by decide), fun w => absurd w (by decide), fun w => absurd w (by decide), fun w => absurd w (by decide), fun w => absurd w (by decide), fun w => absurd w (by decide), fun _ => ?_, fun w => absurd w (by decide), fun _ _ _ _ _ _ w => absurd rfl w⟩
    have e5 : (nI 6 = (5 : Int32)) = False := eq_false (by decide)
    simp only [e5, not_false_eq_true, false_implies, true_implies, and_true]
    exact on 3 99 (by omega)
  · exact ⟨fun w => absurd w (by decide), fun w => absurd w (by decide), fun w => absurd w (by decide), fun w => absurd w (by decide), fun w => absurd w (by decide), fun w => absurd w (by decide), fun w => absurd w (by decide), fun _ => mt_next_no h (mt_sign_bad h (hQ W kb.rf)), fun _ _ _ _ _ _ _ w => absurd rfl w⟩
  · exact ⟨fun w => absurd w (by decide), fun w => absurd w (by decide), fun w => absurd w (by decide), fun w => absurd w (by decide), fun w => absurd w (by decide), fun w => absurd w (by decide), fun w => absurd w (by decide), fun w => absurd w (by decide), fun _ _ _ _ _ _ _ _ => ⟨vp_in_nI (n := 4) (by omega) (by omega), ends _⟩⟩
  · exact ⟨fun w => absurd w (by decide), fun w => absurd w (by decide), fun w => absurd w (by decide), fun w => absurd w (by decide), fun w => absurd w (by decide), fun w => absurd w (by decide), fun w => absurd w (by decide), fun w => absurd w (by decide), fun _ _ _ _ _ _ _ _ => ⟨vp_in_nI (n := 4) (by omega) (by omega), ends _⟩⟩
theorem mt_once {k : Nat} {a x : Int32} {A : zMem → Bool → zMem → Prop} {M M' W : zMem} {b : Bool} {Q : zMem → Prop} (at0 : AT k M W) (e13 : W 0 13 = M k 10) (h : bnd (rOc k a) A M b M')
    (ht : ∀ M1 W1, rOc k a M true M1 → A M1 b M' → M1 = zup M k 10 (M k 10 ||| (1 <<< (a &&& 31))) → W1 = zup W 0 13 (M k 10 ||| (1 <<< (a &&& 31))) → wpJ_Model_readLine_71 Q x W1)
    (hf : ∀ W1, b = false → lw W W1 → W1 5 = W 5 → BAD k M' W1 → wpJ_Model_readLine_71 Q x W1) : wpJ_Model_readLine_42 Q x a W := by
  obtain ⟨b1, M1, h1, h2⟩ := h
  unfold wpJ_Model_readLine_42
  rw [e13]
  have h1' := h1
  rcases h1 with ⟨c, hb1, e1⟩ | ⟨c, hb1, e1⟩
  · subst hb1
    rcases h2 with ⟨-, hb, e2⟩ | ⟨w, -⟩
    · refine ⟨fun w => absurd c w, fun _ => e_fails (c := nI 4) at0.1 (fun W2 e3 => ?_)⟩
      have bd := BAD_fs (k := k) (c := 4) (M := M) (W := W) at0.2.2.1 (by omega) (by omega)
      refine hf W2 hb ?_ ?_ ?_
      · rw [e3]; exact tkw.fs.l.tr (lw.u0 (by omega))
      · rw [e3, zup_ne (by omega)]; exact tkw.fs.1 5 (by omega)
      · rw [e2, e1, e3]
        exact bd.kb (kb.u0 (by omega))
    · cases w
  · subst hb1
    rcases h2 with ⟨w, -⟩ | ⟨-, h2⟩
    · cases w
    · refine ⟨fun _ W2 e3 => ?_, fun w => absurd w c⟩
      rw [e13] at e3
      exact ht M1 W2 h1' h2 e1 e3
theorem EQ.once {k n H L : Nat} {t1 t2 : Bool} {v : Int32} {M M1 W W1 : zMem} (h : EQ k M W n H L t1 t2) (e1 : M1 = zup M k 10 v) (e2 : W1 = zup W 0 13 v) : EQ k M1 W1 n H L t1 t2 := by
  obtain ⟨i0, i1, i2, i3, i4, i5, i6, i7⟩ := h
  have xk : ∀ i, 1 ≤ i → M1 (k + i) = M (k + i) := fun i hi => by rw [e1, zup_ne (by omega)]
  have y5 : W1 5 = W 5 := by rw [e2, zup_ne (by omega)]
  have x0 : ∀ j, j ≠ 10 → M1 k j = M k j := fun j hj => by rw [e1, zup_eq, upd_ne hj]
  have y0 : ∀ j, j ≠ 13 → W1 0 j = W 0 j := fun j hj => by rw [e2, zup_eq, upd_ne hj]
  unfold EQ
  rw [xk 1 (by omega), xk 2 (by omega), xk 3 (by omega), xk 4 (by omega), xk 5 (by omega), y5, y0 14 (by omega), y0 15 (by omega), x0 11 (by omega), x0 13 (by omega)]
  exact ⟨i0, i1, i2, i3, i4, by rw [e1, e2, zup_eq, zup_eq, upd_eq, upd_eq], i6, i7⟩
theorem mt_line {k z p0 n H L : Nat} {t1 t2 : Bool} {M M' W : zMem} {b : Bool} {Q : zMem → Prop} (at0 : AT k M W) (s : WS k z M W) (d : DA k z p0 M n H L t1 t2) (e : EQ k M W n H L t1 t2) (h : rLi k z n H M b M') (q : PL k z M' W b Q) : wp_Model_readLine W Q := by
  obtain ⟨r, dw, dn⟩ := d
  intro x ex
  rcases h with ⟨c7, hb, e1⟩ | ⟨c7, nm, hnm, e9, h⟩
  · refine ⟨fun w => absurd (by rw [← at0.2.2.2.1]; exact w) c7, fun _ => e_fails (c := nI 2) at0.1 ?_⟩
    refine q.2 _ hb tkw.fs.l ?_
    rw [e1]
    exact BAD_fs (k := k) (c := 2) at0.2.2.1 (by omega) (by omega)
  · refine ⟨fun _ => ?_, fun w => absurd (by rw [at0.2.2.2.1]; exact c7) w⟩
    have ex' : x = nI nm := by rw [ex, at0.2.2.2.2 (Or.inl c7)]; exact e9
    subst ex'
    generalize hY : zup M k 3 (M k 3 + 1) = Y at h
    have yk : ∀ j, j ≠ 3 → Y k j = M k j := fun j hj => by rw [← hY, zup_eq, upd_ne hj]
    have yc : ∀ c, c ≠ k → Y c = M c := fun c hc => by rw [← hY, zup_ne hc]
    have aY : AT k Y W := at0.mv (fun j j1 j2 => yk j (by omega))
    have sY : WS k z Y W := s.mv (fun c hc => yc c (by omega)) lw.rf
    have rY : rin k z p0 Y := rin_mv r (yk 5 (by omega)) (yk 6 (by omega))
    have dY : DW k Y n H L t1 t2 := dw.mv (fun i h1 _ => yc _ (by omega)) (fun j _ _ => yk j (by omega))
    have nY : DN k Y L := dn.mv (yk 10 (by omega))
    have eY : EQ k Y W n H L t1 t2 := e.mv (fun i h1 _ => yc _ (by omega)) ⟨yk 10 (by omega), yk 11 (by omega), yk 13 (by omega)⟩ tkw.rf
    have H5 : H ≤ 5 := dw.1.2.1
    have eH : W 5 1 = nI H := (e.1 1 (by omega)).trans dw.2.2.1
    have bad : ∀ W1, (nm = 3 ∨ nm = 5 ∨ nm = 6 ∨ nm = 7 ∨ nm = 8 ∨ nm = 9) → b = false → lw W W1 → W1 5 = W 5 → BAD k M' W1 → wpJ_Model_readLine_71 Q (nI nm) W1 := fun W1 hn hb l e5 bd => mt_bad71 bd.w (by rw [e5]; exact eH) H5 hn (fun W' k' => q.2 W' hb (l.tr k'.1) (bd.kb k'))
    have on : ∀ {a : Int32} {M1 W1 : zMem}, rOc k a Y true M1 → M1 = zup Y k 10 (Y k 10 ||| (1 <<< (a &&& 31))) → W1 = zup W 0 13 (Y k 10 ||| (1 <<< (a &&& 31))) → AT k M1 W1 ∧ WS k z M1 W1 ∧ rin k z p0 M1 ∧ DW k M1 n H L t1 t2 ∧ EQ k M1 W1 n H L t1 t2 ∧ PL k z M' W1 b Q := fun {a M1 W1} ho e1 e2 => by
      have lW : lw W W1 := by rw [e2]; exact lw.u0 (by omega)
      obtain ⟨r1, d1⟩ := DW_once rY dY ho
      refine ⟨?_, sY.mv (by rw [e1]; exact lf.up (by omega) (by omega)) lW, r1, d1, eY.once e1 e2, q.mv lW⟩
      obtain ⟨a1, a2, a3, a4, a5⟩ := aY
      have m0 : ∀ j, j ≠ 10 → M1 k j = Y k j := fun j hj => by rw [e1, zup_eq, upd_ne hj]
      have w0 : ∀ j, j ≠ 13 → W1 0 j = W 0 j := fun j hj => by rw [e2, zup_eq, upd_ne hj]
      unfold AT
      rw [m0 6 (by omega), m0 7 (by omega), m0 8 (by omega), m0 9 (by omega), w0 3 (by omega), w0 5 (by omega), w0 6 (by omega), w0 7 (by omega), w0 8 (by omega)]
      exact ⟨a1, a2, a3, a4, a5⟩
    have e13 : W 0 13 = Y k 10 := eY.2.2.2.2.2.1
    rcases (show nm = 0 ∨ nm = 1 ∨ nm = 2 ∨ nm = 3 ∨ nm = 4 ∨ nm = 5 ∨ nm = 6 ∨ nm = 7 ∨ nm = 8 ∨ nm = 9 by omega) with rfl | rfl | rfl | rfl | rfl | rfl | rfl | rfl | rfl | rfl
    · refine ⟨fun _ => ⟨fun w => absurd w (by decide), fun _ => ⟨fun _ => ?_, fun w => absurd (by decide) w⟩⟩, fun w => absurd (by decide) w⟩
      intro x ex
      subst ex
      exact ⟨fun _ => mt_piece aY sY rY dY eY h q, fun w => absurd w (by decide), fun w => absurd w (by decide), fun w => absurd w (by decide), fun w => absurd w (by decide), fun w => absurd w (by decide), fun w => absurd w (by decide), fun w => absurd w (by decide), fun w => absurd rfl w⟩
    · refine ⟨fun _ => ⟨fun w => absurd w (by decide), fun _ => ⟨fun _ => ?_, fun w => absurd (by decide) w⟩⟩, fun w => absurd (by decide) w⟩
      intro x ex
      subst ex
      exact ⟨fun w => absurd w (by decide), fun _ => mt_whole aY sY rY dY eY h q, fun w => absurd w (by decide), fun w => absurd w (by decide), fun w => absurd w (by decide), fun w => absurd w (by decide), fun w => absurd w (by decide), fun w => absurd w (by decide), fun _ w => absurd rfl w⟩
    · refine ⟨fun _ => ⟨fun w => absurd w (by decide), fun _ => ⟨fun _ => ?_, fun w => absurd (by decide) w⟩⟩, fun w => absurd (by decide) w⟩
      intro x ex
      subst ex
      exact ⟨fun w => absurd w (by decide), fun w => absurd w (by decide), fun _ => mt_sort aY sY rY dY eY h q, fun w => absurd w (by decide), fun w => absurd w (by decide), fun w => absurd w (by decide), fun w => absurd w (by decide), fun w => absurd w (by decide), fun _ _ w => absurd rfl w⟩
    · refine ⟨fun _ => ⟨fun _ => ?_, fun w => absurd rfl w⟩, fun w => absurd (by decide) w⟩
      refine mt_once (a := 3) aY e13 h (fun M1 W1 ho h1 e1 e2 => ?_) (fun W1 => bad W1 (by omega))
      obtain ⟨a1, s1, r1, d1, q1, p1⟩ := on ho e1 e2
      have L1 : L = 1 := (rOc_10 ho nY (Or.inl rfl)).1 rfl
      subst L1
      intro x ex
      subst ex
      exact ⟨fun w => absurd w (by decide), fun w => absurd w (by decide), fun w => absurd w (by decide), fun _ => mt_rowL a1 s1 r1 d1 q1 h1 p1, fun w => absurd w (by decide), fun w => absurd w (by decide), fun w => absurd w (by decide), fun w => absurd w (by decide), fun _ _ _ w => absurd rfl w⟩
    · refine ⟨fun _ => ⟨fun w => absurd w (by decide), fun _ => ⟨fun _ => ?_, fun w => absurd (by decide) w⟩⟩, fun w => absurd (by decide) w⟩
      intro x ex
      subst ex
      exact ⟨fun w => absurd w (by decide), fun w => absurd w (by decide), fun w => absurd w (by decide), fun w => absurd w (by decide), fun _ => mt_handL aY sY rY dY eY h q, fun w => absurd w (by decide), fun w => absurd w (by decide), fun w => absurd w (by decide), fun _ _ _ _ w => absurd rfl w⟩
    · refine ⟨fun _ => ⟨fun w => absurd w (by decide), fun _ => ⟨fun w => absurd w (by decide), fun _ => ?_⟩⟩, fun w => absurd (by decide) w⟩
      refine mt_once (a := 5) aY e13 h (fun M1 W1 ho h1 e1 e2 => ?_) (fun W1 => bad W1 (by omega))
      obtain ⟨a1, s1, r1, d1, q1, p1⟩ := on ho e1 e2
      intro x ex
      subst ex
      refine ⟨fun w => absurd w (by decide), fun w => absurd w (by decide), fun w => absurd w (by decide), fun w => absurd w (by decide), fun w => absurd w (by decide), fun _ => ?_, fun w => absurd w (by decide), fun w => absurd w (by decide), fun _ _ _ _ _ w => absurd rfl w⟩
      have e5 : (nI 5 = (5 : Int32)) = True := eq_true rfl
      simp only [e5, not_true_eq_false, false_implies, true_implies, true_and]
      exact mt_on (j := 2) (hi := 5) (Or.inl ⟨rfl, rfl⟩) a1 s1 r1 d1 q1 h1 p1
    · refine ⟨fun _ => ⟨fun w => absurd w (by decide), fun _ => ⟨fun w => absurd w (by decide), fun _ => ?_⟩⟩, fun w => absurd (by decide) w⟩
      refine mt_once (a := 6) aY e13 h (fun M1 W1 ho h1 e1 e2 => ?_) (fun W1 => bad W1 (by omega))
      obtain ⟨a1, s1, r1, d1, q1, p1⟩ := on ho e1 e2
      intro x ex
      subst ex
      refine ⟨fun w => absurd w (by decide), fun w => absurd w (by decide), fun w => absurd w (by decide), fun w => absurd w (by decide), fun w => absurd w (by decide), fun w => absurd w (by decide), fun _ => ?_, fun w => absurd w (by decide), fun _ _ _ _ _ _ w => absurd rfl w⟩
      have e5 : (nI 6 = (5 : Int32)) = False := eq_false (by decide)
      simp only [e5, not_false_eq_true, false_implies, true_implies, and_true]
      exact mt_on (j := 3) (hi := 99) (Or.inr ⟨rfl, rfl⟩) a1 s1 r1 d1 q1 h1 p1
    · refine ⟨fun _ => ⟨fun w => absurd w (by decide), fun _ => ⟨fun w => absurd w (by decide), fun _ => ?_⟩⟩, fun w => absurd (by decide) w⟩
      refine mt_once (a := 7) aY e13 h (fun M1 W1 ho h1 e1 e2 => ?_) (fun W1 => bad W1 (by omega))
      obtain ⟨a1, s1, r1, d1, q1, p1⟩ := on ho e1 e2
      intro x ex
      subst ex
      exact ⟨fun w => absurd w (by decide), fun w => absurd w (by decide), fun w => absurd w (by decide), fun w => absurd w (by decide), fun w => absurd w (by decide), fun w => absurd w (by decide), fun w => absurd w (by decide), fun _ => mt_end a1.1 a1.2.1 s1 r1 h1 lw.rf q1 (fun hb => d1.tk (rS_in r1 (by rw [hb] at h1; exact h1)).2) p1, fun _ _ _ _ _ _ _ w => absurd rfl w⟩
    · refine ⟨fun w => absurd w (by decide), fun _ => ⟨fun w => absurd w (by decide), fun _ => ⟨fun w => absurd w (by decide), fun _ => ?_⟩⟩⟩
      refine mt_once (a := 7) aY e13 h (fun M1 W1 ho h1 e1 e2 => ?_) (fun W1 => bad W1 (by omega))
      obtain ⟨a1, s1, r1, d1, q1, p1⟩ := on ho e1 e2
      intro x ex
      subst ex
      exact ⟨fun w => absurd w (by decide), fun w => absurd w (by decide), fun w => absurd w (by decide), fun w => absurd w (by decide), fun w => absurd w (by decide), fun w => absurd w (by decide), fun w => absurd w (by decide), fun w => absurd w (by decide), fun _ _ _ _ _ _ _ _ => ⟨vp_in_nI (n := 4) (by omega) (by omega), mt_endsL (a := 1) (by omega) a1 s1 r1 d1 q1 h1 p1⟩⟩
    · refine ⟨fun w => absurd w (by decide), fun _ => ⟨fun w => absurd w (by decide), fun _ => ⟨fun w => absurd w (by decide), fun _ => ?_⟩⟩⟩
      refine mt_once (a := 7) aY e13 h (fun M1 W1 ho h1 e1 e2 => ?_) (fun W1 => bad W1 (by omega))
      obtain ⟨a1, s1, r1, d1, q1, p1⟩ := on ho e1 e2
      intro x ex
      subst ex
      exact ⟨fun w => absurd w (by decide), fun w => absurd w (by decide), fun w => absurd w (by decide), fun w => absurd w (by decide), fun w => absurd w (by decide), fun w => absurd w (by decide), fun w => absurd w (by decide), fun w => absurd w (by decide), fun _ _ _ _ _ _ _ _ => ⟨vp_in_nI (n := 4) (by omega) (by omega), mt_endsL (a := 2) (by omega) a1 s1 r1 d1 q1 h1 p1⟩⟩
def ge (k : Nat) (R : zMem → Bool → zMem → Prop) : Prop := ∀ M b M', R M b M' → lf k M M' ∧ (b = true → M' k 3 = M k 3) ∧ (b = false → ∃ c X, 1 ≤ c ∧ c ≤ 5 ∧ M' = rfs k (nI c) X)
theorem ge_bnd {k : Nat} {A B : zMem → Bool → zMem → Prop} (hA : ge k A) (hB : ge k B) : ge k (bnd A B) := by
  rintro M b M' ⟨b1, M1, h1, ⟨rfl, rfl, rfl⟩ | ⟨rfl, h⟩⟩
  · exact hA _ _ _ h1
  · obtain ⟨a1, a2, -⟩ := hA _ _ _ h1
    obtain ⟨c1, c2, c3⟩ := hB _ _ _ h
    exact ⟨a1.tr c1, fun e => (c2 e).trans (a2 rfl), c3⟩
theorem ge_pre {k : Nat} {B : zMem → Bool → zMem → Prop} {f : zMem → zMem} (hB : ge k B) (hf : ∀ M, lf k M (f M) ∧ f M k 3 = M k 3) : ge k (fun M => B (f M)) := by
  intro M b M' h
  obtain ⟨c1, c2, c3⟩ := hB _ _ _ h
  obtain ⟨f1, f2⟩ := hf M
  exact ⟨f1.tr c1, fun e => (c2 e).trans f2, c3⟩
theorem ge_tkn {k z : Nat} : ge k (tkn k z) := by
  rintro M b M' ⟨p, -, -, ⟨rfl, -, f, -⟩ | ⟨rfl, -, M1, f, -, rfl⟩⟩
  · exact ⟨f.lf, fun _ => f.2 3 (by omega) (by omega) (by omega) (by omega), fun w => by cases w⟩
  · exact ⟨f.lf.tr lf_rfs, fun w => (by cases w), fun _ => ⟨1, M1, by omega, by omega, rfl⟩⟩
theorem ge_rf {k c : Nat} {M M' : zMem} {b : Bool} (h1 : 1 ≤ c) (h5 : c ≤ 5) (hb : b = false) (e : M' = rfs k (nI c) M) : lf k M M' ∧ (b = true → M' k 3 = M k 3) ∧ (b = false → ∃ c X, 1 ≤ c ∧ c ≤ 5 ∧ M' = rfs k (nI c) X) := by
  subst hb e
  exact ⟨lf_rfs, fun w => (by cases w), fun _ => ⟨c, M, h1, h5, rfl⟩⟩
theorem ge_id {k : Nat} {M M' : zMem} {b : Bool} (hb : b = true) (e : M' = M) : lf k M M' ∧ (b = true → M' k 3 = M k 3) ∧ (b = false → ∃ c X, 1 ≤ c ∧ c ≤ 5 ∧ M' = rfs k (nI c) X) := by
  subst hb e
  exact ⟨fun _ _ => rfl, fun _ => rfl, fun w => by cases w⟩
theorem ge_rWi {k : Nat} {lo hi : Int32} : ge k (rWi k lo hi) := by
  rintro M b M' (⟨-, hb, e⟩ | ⟨-, -, hb, e⟩)
  · exact ge_rf (c := 3) (by omega) (by omega) hb e
  · exact ge_id hb e
theorem ge_rNu {k : Nat} {lo hi : Int32} : ge k (rNu k lo hi) := by
  rintro M b M' (⟨-, hb, e⟩ | ⟨-, h⟩)
  · exact ge_rf (c := 2) (by omega) (by omega) hb e
  · exact ge_rWi _ _ _ h
theorem ge_rSi {k : Nat} : ge k (rSi k) := by
  rintro M b M' (⟨-, hb, e⟩ | ⟨-, hb, e⟩)
  · exact ge_rf (c := 2) (by omega) (by omega) hb e
  · exact ge_id hb e
theorem ge_rN {k z : Nat} {lo hi : Int32} : ge k (rN k z lo hi) := ge_bnd ge_tkn ge_rNu
theorem ge_rS {k z : Nat} : ge k (rS k z) := ge_bnd ge_tkn ge_rSi
theorem up_3 {k c j : Nat} {x : Int32} {M : zMem} (h : k ≤ c) (h2 : c ≤ k + 5) (hj : c ≠ k ∨ j ≠ 3) : lf k M (zup M c j x) ∧ zup M c j x k 3 = M k 3 := by
  refine ⟨lf.up h h2, ?_⟩
  by_cases e : c = k
  · subst e
    rw [zup_eq, upd_ne (by omega)]
  · rw [zup_ne (Ne.symm e)]
theorem up_3t {k : Nat} {M M1 M2 : zMem} (a : lf k M M1 ∧ M1 k 3 = M k 3) (b : lf k M1 M2 ∧ M2 k 3 = M1 k 3) : lf k M M2 ∧ M2 k 3 = M k 3 := ⟨a.1.tr b.1, b.2.trans a.2⟩
theorem ge_rPi {k z : Nat} : ge k (rPi k z) := by
  rintro M b M' (⟨-, hb, e⟩ | ⟨-, -, h⟩)
  · exact ge_rf (c := 5) (by omega) (by omega) hb e
  · exact ge_bnd ge_rN (ge_pre ge_rS (fun M => up_3t (up_3 (by omega) (by omega) (by omega)) (up_3 (by omega) (by omega) (by omega)))) _ _ _ h
theorem ge_rWh {k z : Nat} : ge k (rWh k z) := by
  intro M b M' h
  refine ge_bnd (B := fun M1 b M' => ((((M1 (k + 1) 5) >>> ((M1 k 9) &&& 31)) &&& 1) = 1 ∧ b = false ∧ M' = rfs k 4 M1) ∨ (¬ (((M1 (k + 1) 5) >>> ((M1 k 9) &&& 31)) &&& 1) = 1 ∧ rS k z (zup M1 (k + 1) 5 ((M1 (k + 1) 5) ||| (1 <<< ((M1 k 9) &&& 31)))) b M')) ge_rN ?_ _ _ _ h
  rintro M b M' (⟨-, hb, e⟩ | ⟨-, h⟩)
  · exact ge_rf (c := 4) (by omega) (by omega) hb e
  · exact ge_pre (f := fun M1 => zup M1 (k + 1) 5 ((M1 (k + 1) 5) ||| (1 <<< ((M1 k 9) &&& 31)))) ge_rS (fun M => up_3 (by omega) (by omega) (by omega)) _ _ _ h
theorem ge_rNs {k z c : Nat} {lo hi : Int32} {C : zMem → Bool → zMem → Prop} (hc : k < c) (hc2 : c ≤ k + 5) (hC : ge k C) : ∀ m i, ge k (rNs k z c lo hi C m i) := by
  intro m
  induction m with
  | zero => intro i; exact hC
  | succ m ih => intro i; exact ge_bnd ge_rN (ge_pre (ih (i + 1)) (fun M => up_3 (by omega) (by omega) (by omega)))
theorem ge_rSo {k z n : Nat} : ge k (rSo k z n) := by
  intro M b M' h
  refine ge_pre (f := fun M => zup M k 12 1) (ge_bnd (B := fun M2 b M' => ((((M2 k 11) >>> ((M2 k 9) &&& 31)) &&& 1) = 1 ∧ b = false ∧ M' = rfs k 4 M2) ∨ (¬ (((M2 k 11) >>> ((M2 k 9) &&& 31)) &&& 1) = 1 ∧ rNs k z (k + 3) 0 6 (rS k z) n (ix (M2 k 9) * 8) (zup M2 k 11 ((M2 k 11) ||| (1 <<< ((M2 k 9) &&& 31)))) b M')) (ge_rN (z := z) (lo := 1) (hi := 2)) ?_) (fun M => up_3 (by omega) (by omega) (by omega)) _ _ _ h
  rintro M b M' (⟨-, hb, e⟩ | ⟨-, h⟩)
  · exact ge_rf (c := 4) (by omega) (by omega) hb e
  · obtain ⟨u1, u2⟩ := up_3 (k := k) (c := k) (j := 11) (x := (M k 11) ||| (1 <<< ((M k 9) &&& 31))) (M := M) (by omega) (by omega) (by omega)
    obtain ⟨c1, c2, c3⟩ := ge_rNs (by omega) (by omega) ge_rS _ _ _ _ _ h
    exact ⟨u1.tr c1, fun e => (c2 e).trans u2, c3⟩
theorem ge_rHa {k z n H : Nat} : ge k (rHa k z n H) := by
  rintro M b M' (⟨-, hb, e⟩ | ⟨-, -, h⟩)
  · exact ge_rf (c := 5) (by omega) (by omega) hb e
  · exact ge_pre (f := fun M => zup M k 12 1) (ge_rNs (c := k + 4) (by omega) (by omega) (ge_pre ge_rS (fun M => up_3 (by omega) (by omega) (by omega))) n (H * 8)) (fun M => up_3 (by omega) (by omega) (by omega)) _ _ _ h
theorem ge_rOn {k z j : Nat} {hi : Int32} : ge k (rOn k z j hi) := ge_bnd ge_rN (ge_pre ge_rS (fun M => up_3 (by omega) (by omega) (by omega)))
theorem ge_rOc {k : Nat} {a : Int32} : ge k (rOc k a) := by
  rintro M b M' (⟨-, hb, e⟩ | ⟨-, hb, e⟩)
  · exact ge_rf (c := 4) (by omega) (by omega) hb e
  · subst hb e
    obtain ⟨u1, u2⟩ := up_3 (k := k) (c := k) (j := 10) (x := (M k 10) ||| (1 <<< (a &&& 31))) (M := M) (by omega) (by omega) (by omega)
    exact ⟨u1, fun _ => u2, fun w => by cases w⟩
theorem ge_rRl {k z : Nat} : ∀ m i, ge k (rRl k z m i) := by
  intro m
  induction m with
  | zero =>
    intro i
    rintro M b M' (⟨-, hb, e⟩ | ⟨-, h⟩)
    · exact ge_rf (c := 5) (by omega) (by omega) hb e
    · exact ge_rSi _ _ _ h
  | succ m ih =>
    intro i
    rintro M b M' (⟨-, h⟩ | ⟨-, h⟩)
    · exact ge_rSi _ _ _ h
    · exact ge_bnd ge_rWi (ge_pre (ge_bnd ge_tkn (ih (i + 1))) (fun M => up_3t (up_3 (by omega) (by omega) (by omega)) (up_3 (by omega) (by omega) (by omega)))) _ _ _ h
theorem ge_rRo {k z : Nat} : ge k (rRo k z) := ge_bnd ge_rN (ge_pre (ge_bnd ge_tkn (ge_rRl 5 1)) (fun M => up_3 (by omega) (by omega) (by omega)))
theorem ge_rEn {k z n : Nat} : ∀ m h lo, ge k (rEn k z n m h lo) := by
  intro m
  induction m with
  | zero => intro h lo; exact ge_rS
  | succ m ih =>
    intro h lo
    refine ge_bnd (B := fun M1 => rEn k z n m (h + 1) (M1 k 9) (zup M1 (k + 5) h (M1 k 9))) ge_rN ?_
    intro M b M' hh
    obtain ⟨u1, u2⟩ := up_3 (k := k) (c := k + 5) (j := h) (x := M k 9) (M := M) (by omega) (by omega) (by omega)
    obtain ⟨c1, c2, c3⟩ := ih _ _ _ _ _ hh
    exact ⟨u1.tr c1, fun e => (c2 e).trans u2, c3⟩
theorem ge_rEs {k z n H : Nat} {rule : Int32} : ge k (rEs k z n H rule) := ge_pre (f := fun M => zup (zup (zup M k 12 1) k 13 1) (k + 1) 4 rule) (ge_rEn (H - 1) 0 1) (fun M => up_3t (up_3t (up_3 (by omega) (by omega) (by omega)) (up_3 (by omega) (by omega) (by omega))) (up_3 (by omega) (by omega) (by omega)))
theorem ge_rLn {k z n H nm : Nat} : ge k (rLn k z n H nm) := by
  unfold rLn
  split
  · exact ge_rPi
  · exact ge_rWh
  · exact ge_rSo
  · exact ge_bnd ge_rOc ge_rRo
  · exact ge_rHa
  · exact ge_bnd ge_rOc ge_rOn
  · exact ge_bnd ge_rOc ge_rOn
  · exact ge_bnd ge_rOc ge_rS
  · exact ge_bnd ge_rOc ge_rEs
  · exact ge_bnd ge_rOc ge_rEs
theorem stb_ij : ∀ a b c d : Bool, nI (stb a b) = nI (stb c d) → a = c ∧ b = d := by decide
theorem DW_un {k n H L n' H' L' : Nat} {t1 t2 u1 u2 : Bool} {M : zMem} (a : DW k M n H L t1 t2) (b : DW k M n' H' L' u1 u2) : n = n' ∧ H = H' ∧ L = L' ∧ t1 = u1 ∧ t2 = u2 := by
  obtain ⟨⟨b1, b2, b3, b4⟩, en, eH, eL, -⟩ := id a
  obtain ⟨⟨c1, c2, c3, c4⟩, fn, fH, fL, -⟩ := id b
  have e11 := a.2.2.2.2.2.2.2.2.2.2.2.2.1
  have f11 := b.2.2.2.2.2.2.2.2.2.2.2.2.1
  exact ⟨(nI_eq (by omega) (by omega)).mp (en.symm.trans fn), (nI_eq (by omega) (by omega)).mp (eH.symm.trans fH), (nI_eq (by omega) (by omega)).mp (eL.symm.trans fL), stb_ij _ _ _ _ (e11.symm.trans f11)⟩
theorem mt_lines {k z f0 n0 H0 L0 : Nat} {u1 u2 : Bool} {M M' W : zMem} {K : Int32 → zMem → Prop} {Q : Int32 → zMem → Prop} (h : rAl k z f0 M M') (d0 : DA k z 0 M n0 H0 L0 u1 u2) (e0 : EQ k M W n0 H0 L0 u1 u2) (nx : NXT k z M W) (s0 : WS k z M W) (m3 : M k 3 = 0) (m1 : M k 1 = 0)
    (hb : ∀ x W', BAD k M' W' → lw W W' → lf k M M' → K x W')
    (hg : ∀ W' n H L t1 t2, M' k 1 = 0 → W' 0 3 = 0 → DA k z 0 M' n H L t1 t2 → EQ k M' W' n H L t1 t2 → lw W W' → lf k M M' → K (M' k 3) W') : ∃ m, zlp1 (wpB_Model_text_62 K Q) m 0 W := by
  refine zlp1_r (fun m x W' => (BAD k M' W' ∧ lw W W' ∧ lf k M M') ∨ ∃ X, rAl k z m X M' ∧ (∃ n H L t1 t2, DA k z 0 X n H L t1 t2 ∧ EQ k X W' n H L t1 t2) ∧ NXT k z X W' ∧ WS k z X W' ∧ lw W W' ∧ lf k M X ∧ x = X k 3 ∧ X k 1 = 0) ?_ (n := f0) (Or.inr ⟨M, h, ⟨n0, H0, L0, u1, u2, d0, e0⟩, nx, s0, lw.rf, fun _ _ => rfl, m3.symm, m1⟩)
  rintro m x W' hc J hJ
  unfold wpB_Model_text_62
  rcases hc with ⟨bd, l, f⟩ | ⟨X, hR, ⟨n, H, L, t1, t2, dX, eX⟩, nX, sX, l, f, hx, x1⟩
  · exact ⟨fun _ => hb x W' bd l f, fun w => absurd w bd.w.ne⟩
  · cases m with
    | zero => exact absurd hR (fun h => h)
    | succ m =>
      obtain ⟨b1, M1, t, hR⟩ := hR
      obtain ⟨q1, q2⟩ := nx_tkn sX.2.1 nX t
      obtain ⟨g1, g2, -⟩ := gd_tkn _ _ _ t
      rcases hR with ⟨rfl, rfl⟩ | ⟨rfl, c7, rfl⟩ | ⟨rfl, c7, n', H', b2, M2, en, n8, eH, H5, hL, h2⟩
      · have bd := q2 rfl
        exact ⟨fun _ => hb x W' bd l (f.tr g1), fun w => absurd w bd.w.ne⟩
      · have a1 := q1 rfl
        obtain ⟨r1, f1⟩ := tkn_in dX.1 t
        refine ⟨fun w => absurd a1.1 w, fun _ => ⟨fun _ => ?_, fun w => absurd (a1.2.2.2.1.trans c7) w⟩⟩
        rw [hx, ← f1.2 3 (by omega) (by omega) (by omega) (by omega)]
        exact hg W' n H L t1 t2 ((g2 rfl).trans x1) a1.1 ⟨r1, dX.2.1.tk f1, dX.2.2.tk f1⟩ (eX.tk f1 tkw.rf) l (f.tr g1)
      · have a1 := q1 rfl
        obtain ⟨r1, f1⟩ := tkn_in dX.1 t
        have d1 : DA k z 0 M1 n H L t1 t2 := ⟨r1, dX.2.1.tk f1, dX.2.2.tk f1⟩
        have e1 : EQ k M1 W' n H L t1 t2 := eX.tk f1 tkw.rf
        have s1 : WS k z M1 W' := sX.mv g1 lw.rf
        obtain ⟨⟨v1, v2, v3, v4⟩, fn, fH, -⟩ := id d1.2.1
        have hn : n' = n := (nI_eq (by omega) (by omega)).mp (en.symm.trans fn)
        have hH : H' = H := (nI_eq (by omega) (by omega)).mp (eH.symm.trans fH)
        subst hn hH
        obtain ⟨y1, y2, -⟩ := gd_rLi _ _ _ hL
        refine ⟨fun w => absurd a1.1 w, fun _ => ⟨fun w => absurd (a1.2.2.2.1.symm.trans w) c7, fun _ => mt_line a1 s1 d1 e1 hL ⟨fun W2 hb2 l2 n2 hde => ?_, fun W2 hb2 l2 bd y ey => ?_⟩⟩⟩
        · subst hb2
          rcases h2 with ⟨w, -⟩ | ⟨-, h2⟩
          · cases w
          obtain ⟨n3, H3, L3, t13, t23, d3⟩ := DA_line d1 hL
          obtain ⟨n4, H4, L4, t14, t24, d4, e4⟩ := hde
          obtain ⟨i1, i2, i3, i4, i5⟩ := DW_un d3.2.1 d4
          subst i1 i2 i3 i4 i5
          intro y ey
          refine hJ m _ _ (by omega) (Or.inr ⟨M2, h2, ⟨_, _, _, _, _, d3, e4⟩, n2, s1.mv y1 l2, l.tr l2, (f.tr g1).tr y1, ?_, (y2 rfl).trans ((g2 rfl).trans x1)⟩)
          rw [ey, hx, ← f1.2 3 (by omega) (by omega) (by omega) (by omega)]
          rcases hL with ⟨-, w, -⟩ | ⟨-, nm, -, -, hL⟩
          · cases w
          · have := (ge_rLn _ _ _ hL).2.1 rfl
            rw [this, zup_eq, upd_eq]
        · subst hb2
          rcases h2 with ⟨-, rfl⟩ | ⟨w, -⟩
          · exact hJ m _ _ (by omega) (Or.inl ⟨bd, l.tr l2, (f.tr g1).tr y1⟩)
          · cases w
theorem st_bitI : ∀ t1 t2 : Bool, ∀ s, s < 3 → 0 < s → ((((nI (stb t1 t2) >>> (nI s &&& 31)) &&& 1) = 0) ↔ ¬ (s = 0 ∨ (s = 1 ∧ t1 = true) ∨ (s = 2 ∧ t2 = true))) := by decide
theorem mt_wholeFault {k n H L : Nat} {t1 t2 : Bool} {M W : zMem} {Q : Int32 → zMem → Prop} (d : DW k M n H L t1 t2) (e : EQ k M W n H L t1 t2)
    (h6 : (n = 0 ∨ H = 0) → Q 6 W)
    (h7 : 0 < n → 0 < H → (∃ s, s < 3 ∧ ∀ p, p < n → us k M t1 t2 s p = 0) → ∀ W', (∀ c, c ≠ 5 → W' c = W c) → Q 7 W')
    (h1 : 0 < n → 0 < H → (∀ s, s < 3 → ∃ p, p < n ∧ us k M t1 t2 s p ≠ 0) → ∀ W', (∀ c, c ≠ 5 → W' c = W c) → (∀ j, (j < 38 ∨ 54 ≤ j) → W' 5 j = W 5 j) → (∀ s p, s < 3 → p < n → W' 5 (30 + 8 * s + p) = us k M t1 t2 s p) → Q 0 W') : wp_Model_wholeFault W Q := by
  obtain ⟨⟨b1, b2, b3, b4⟩, en, eH, -⟩ := id d
  have es := d.2.2.2.2.2.2.2.2.2.2.2.2.1
  obtain ⟨i0, i1, i2, i3, i4, i5, i6, i7⟩ := e
  have w0 : W 5 (ix 0) = nI n := (i0 0 (by omega)).trans en
  have w1 : W 5 (ix 1) = nI H := (i0 1 (by omega)).trans eH
  unfold wp_Model_wholeFault
  rw [w0, w1]
  refine ⟨vp_in_nI (n := 0) (by omega) (by omega), fun c => h6 (Or.inl ((nI_eq (b := 0) (by omega) (by omega)).mp c)), fun c => ⟨vp_in_nI (n := 1) (by omega) (by omega), fun c2 => ?_, fun c2 => h6 (Or.inr ((nI_eq (b := 0) (by omega) (by omega)).mp c2))⟩⟩
  have n0 : 0 < n := by
    rcases Nat.eq_zero_or_pos n with w | w
    · rw [w] at c; exact absurd rfl c
    · exact w
  have H0 : 0 < H := by
    rcases Nat.eq_zero_or_pos H with w | w
    · rw [w] at c2; exact absurd rfl c2
    · exact w
  refine zlp1_r (fun m x W' => ∃ s, x = nI s ∧ s ≤ 3 ∧ m = 3 - s ∧ (∀ c, c ≠ 5 → W' c = W c) ∧ (∀ j, (j < 38 ∨ 30 + 8 * s ≤ j) → W' 5 j = W 5 j) ∧ (∀ s' p, s' < s → p < n → W' 5 (30 + 8 * s' + p) = us k M t1 t2 s' p) ∧ ∀ s', s' < s → ∃ p, p < n ∧ us k M t1 t2 s' p ≠ 0) ?_ (n := 3) ⟨0, rfl, by omega, rfl, fun _ _ => rfl, fun _ _ => rfl, fun _ _ h => absurd h (by omega), fun _ h => absurd h (by omega)⟩
  rintro m x W1 ⟨s, rfl, hs, rfl, f1, f2, f3, f4⟩ J hJ
  unfold wpB_Model_wholeFault_23
  refine ⟨fun c => ?_, fun c => ?_⟩
  · have := (nI_leI (a := 3) (by omega) (by omega)).mp c
    have e3 : s = 3 := by omega
    subst e3
    exact h1 n0 H0 f4 W1 f1 (fun j hj => f2 j (by omega)) (fun s p hs hp => f3 s p hs hp)
  · have s3 : s < 3 := by
      rcases Nat.lt_or_ge s 3 with w | w
      · exact w
      · exact absurd ((nI_leI (a := 3) (by omega) (by omega)).mpr w) c
    refine zlp2_r (fun m x2 x3 W' => ∃ p S, x3 = nI p ∧ p ≤ n ∧ m = n - p ∧ x2 = nI S ∧ S ≤ 6 * p ∧ (S = 0 ↔ ∀ p', p' < p → us k M t1 t2 s p' = 0) ∧ (∀ c, c ≠ 5 → W' c = W c) ∧ (∀ j, (j < 38 ∨ 30 + 8 * (s + 1) ≤ j) → W' 5 j = W 5 j) ∧ (∀ j, p ≤ j → j < n → W' 5 (30 + 8 * s + j) = W 5 (30 + 8 * s + j)) ∧ (∀ s' p, s' < s → p < n → W' 5 (30 + 8 * s' + p) = us k M t1 t2 s' p) ∧ ∀ p', p' < p → W' 5 (30 + 8 * s + p') = us k M t1 t2 s p') ?_ (n := n) ⟨0, 0, rfl, by omega, rfl, rfl, by omega, ⟨fun _ _ h => absurd h (by omega), fun _ => rfl⟩, f1, fun j hj => f2 j (by omega), fun j _ hj => f2 _ (by omega), f3, fun _ h => absurd h (by omega)⟩
    rintro m' x2 x3 W' ⟨p, S, rfl, hp, rfl, rfl, hS, hS0, g1, g2, g3, g4, g5⟩ J' hJ'
    unfold wpB_Model_wholeFault_32
    have v0 : W' 5 (ix 0) = nI n := by
      have : W' 5 (ix 0) = W 5 (ix 0) := g2 0 (by omega)
      rw [this]; exact w0
    rw [v0]
    refine ⟨vp_in_nI (n := 0) (by omega) (by omega), fun c => ?_, fun c => ?_⟩
    · have hp2 : p = n := by
        have := (nI_leI (by omega) (by omega)).mp c
        omega
      subst hp2
      refine ⟨fun c0 y ey => ?_, fun c0 => ?_⟩
      · rw [ey, nI_1]
        have S0 : ¬ S = 0 := fun w => c0 (by rw [w]; rfl)
        refine hJ (3 - (s + 1)) _ _ (by omega) ⟨s + 1, rfl, by omega, rfl, g1, g2, fun s' p' hs' hp' => ?_, fun s' hs' => ?_⟩
        · rcases Nat.lt_or_ge s' s with w | w
          · exact g4 s' p' w hp'
          · rw [show s' = s by omega]; exact g5 p' hp'
        · rcases Nat.lt_or_ge s' s with w | w
          · exact f4 s' w
          · rw [show s' = s by omega]
            exact Classical.byContradiction (fun no => S0 (hS0.mpr (fun p' hp' => Classical.byContradiction (fun w => no ⟨p', hp', w⟩))))
      · have S0 : S = 0 := (nI_eq (b := 0) (by omega) (by omega)).mp c0
        exact h7 n0 H0 ⟨s, s3, hS0.mp S0⟩ W' g1
    · have hp2 : p < n := by
        rcases Nat.lt_or_ge p n with w | w
        · exact w
        · exact absurd ((nI_leI (by omega) (by omega)).mpr w) c
      have eix : (30 : Int32) + 8 * nI s + nI p = nI (30 + 8 * s + p) := by
        rw [show (8 : Int32) = nI 8 from rfl, show (30 : Int32) = nI 30 from rfl, q_mul, q_add, q_add]
      obtain ⟨u, u6, eu⟩ := us_nI d (s := s) (p := p) s3 hp2
      -- one more unit
      have step : ∀ W2 : zMem, (∀ c, c ≠ 5 → W2 c = W c) → (∀ j, (j < 38 ∨ 30 + 8 * (s + 1) ≤ j) → W2 5 j = W 5 j) → (∀ j, j ≠ 30 + 8 * s + p → W2 5 j = W' 5 j) → W2 5 (30 + 8 * s + p) = us k M t1 t2 s p → wpJ_Model_wholeFault_80 (fun (zx5 : Int32) (zm4 : zMem) => (¬ zx5 = 0 → ∀ zx6 : Int32, zx6 = nI s + 1 → J zx6 zm4) ∧ (zx5 = 0 → Q 7 zm4)) J' Q (nI s) (nI S) (nI p) W2 := fun W2 k1 k2 k3 k4 => by
        unfold wpJ_Model_wholeFault_80
        rw [eix, q_ix (by omega), k4, eu, q_add]
        refine ⟨vp_in_nI (by omega) (by omega), fun y ey y2 ey2 => ?_⟩
        rw [ey, ey2, nI_1]
        refine hJ' (n - (p + 1)) _ _ _ (by omega) ⟨p + 1, S + u, rfl, by omega, rfl, rfl, by omega, ⟨fun w p' hp' => ?_, fun w => ?_⟩, k1, k2, fun j hj hj2 => by rw [k3 _ (by omega)]; exact g3 j (by omega) hj2, fun s' p' hs' hp' => by rw [k3 _ (by omega)]; exact g4 s' p' hs' hp', fun p' hp' => ?_⟩
        · rcases Nat.lt_or_ge p' p with v | v
          · exact hS0.mp (by omega) p' v
          · rw [show p' = p by omega, eu, show u = 0 by omega]; rfl
        · have z1 : S = 0 := hS0.mpr (fun p' hp' => w p' (by omega))
          have z2 := w p (by omega)
          rw [eu] at z2
          have : u = 0 := (nI_eq (b := 0) (by omega) (by omega)).mp z2
          omega
        · rcases Nat.lt_or_ge p' p with v | v
          · rw [k3 _ (by omega)]; exact g5 p' v
          · rw [show p' = p by omega]; exact k4
      have told : (s = 0 ∨ (s = 1 ∧ t1 = true) ∨ (s = 2 ∧ t2 = true)) → W' 5 (30 + 8 * s + p) = us k M t1 t2 s p := fun w => by
        rw [g3 p (Nat.le_refl _) hp2, i2 s p w hp2]
        unfold us
        rw [if_pos w]
      have e14 : W' 0 14 = nI (stb t1 t2) := by rw [g1 0 (by omega), i6]; exact es
      rw [e14]
      refine ⟨fun c => ?_, fun c => ⟨fun c3 => ?_, fun c3 => ?_⟩⟩
      · have s0 : s = 0 := by
          have := (nI_leI (b := 0) (by omega) (by omega)).mp c
          omega
        exact step W' g1 g2 (fun _ _ => rfl) (told (Or.inl s0))
      · have s0 : 0 < s := by
          rcases Nat.eq_zero_or_pos s with w | w
          · exact absurd (by rw [w]; decide) c
          · exact w
        exact step W' g1 g2 (fun _ _ => rfl) (told (Classical.byContradiction (fun w => c3 ((st_bitI t1 t2 s s3 s0).mpr w))))
      · have s0 : 0 < s := by
          rcases Nat.eq_zero_or_pos s with w | w
          · exact absurd (by rw [w]; decide) c
          · exact w
        have nt := (st_bitI t1 t2 s s3 s0).mp c3
        have e30 : (30 : Int32) + nI p = nI (30 + p) := q_add 30 p
        rw [eix, e30, q_ix (by omega), q_ix (by omega)]
        refine ⟨vp_in_nI (by omega) (by omega), vp_in_nI (by omega) (by omega), fun W2 e2 => step W2 (fun c hc => by rw [e2, zup_ne hc]; exact g1 c hc) (fun j hj => by rw [e2, zup_eq, upd_ne (by omega)]; exact g2 j hj) (fun j hj => by rw [e2, zup_eq, upd_ne hj]) ?_⟩
        rw [e2, zup_eq, upd_eq, g2 _ (by omega)]
        have := i2 0 p (Or.inl rfl) hp2
        rw [show 30 + p = 30 + 8 * 0 + p by omega, this]
        unfold us
        rw [if_neg nt]
        congr 1
        omega
theorem DA_al {k z : Nat} : ∀ f M M' n H L t1 t2, rAl k z f M M' → DA k z 0 M n H L t1 t2 → M' k 1 = 0 → ∃ n H L t1 t2, DA k z 0 M' n H L t1 t2 := by
  intro f
  induction f with
  | zero => intro M M' n H L t1 t2 h; exact absurd h (fun h => h)
  | succ f ih =>
    intro M M' n H L t1 t2 h d h1
    have nb : ∀ (c : Nat) (X : zMem), 1 ≤ c → c ≤ 5 → M' = rfs k (nI c) X → False := fun c X c1 c5 e => by
      rw [e] at h1
      unfold rfs at h1
      rw [zup_eq, upd_ne (by omega), zup_eq, upd_eq] at h1
      exact absurd h1 (nI_ne0 (by omega) (by omega))
    obtain ⟨b1, M1, t, h⟩ := h
    rcases h with ⟨rfl, rfl⟩ | ⟨rfl, c7, rfl⟩ | ⟨rfl, c7, n', H', b2, M2, en, n8, eH, H5, hL, h2⟩
    · obtain ⟨c, X, c1, c5, e⟩ := (gd_tkn _ _ _ t).2.2 rfl
      exact absurd (nb c X c1 c5 e) (fun h => h)
    · obtain ⟨r1, f1⟩ := tkn_in d.1 t
      exact ⟨_, _, _, _, _, r1, d.2.1.tk f1, d.2.2.tk f1⟩
    · obtain ⟨r1, f1⟩ := tkn_in d.1 t
      have d1 : DA k z 0 M1 n H L t1 t2 := ⟨r1, d.2.1.tk f1, d.2.2.tk f1⟩
      obtain ⟨⟨v1, v2, v3, v4⟩, fn, fH, -⟩ := id d1.2.1
      have hn : n' = n := (nI_eq (by omega) (by omega)).mp (en.symm.trans fn)
      have hH : H' = H := (nI_eq (by omega) (by omega)).mp (eH.symm.trans fH)
      subst hn hH
      rcases h2 with ⟨rfl, rfl⟩ | ⟨rfl, h2⟩
      · obtain ⟨c, X, c1, c5, e⟩ := (gd_rLi _ _ _ hL).2.2 rfl
        exact absurd (nb c X c1 c5 e) (fun h => h)
      · obtain ⟨n3, H3, L3, t13, t23, d3⟩ := DA_line d1 hL
        exact ih _ _ _ _ _ _ _ h2 d3 h1
/-- what a text changes in the reference when it is refused -/
def tfr (W W' : zMem) : Prop := (∀ c, c ≠ 0 → c ≠ 5 → W' c = W c) ∧ W' 0 1 = 0 ∧ ∀ j, (j = 0 ∨ (9 ≤ j ∧ j ≤ 12) ∨ 16 ≤ j) → W' 0 j = W 0 j
theorem mt_115 {c : Nat} {x : Int32} {W : zMem} {Q : Int32 → zMem → Prop} (h : W 0 3 = nI c) (c1 : 1 ≤ c) (c7 : c ≤ 7) (hQ : ∀ W', (∀ k, k ≠ 0 → W' k = W k) → W' 0 1 = 0 → W' 0 2 = nI c → (∀ j, j ≠ 1 → j ≠ 2 → W' 0 j = W 0 j) → Q (-10 - W 0 4) W') : wpJ_Model_text_115 Q x W := by
  intro a ea b eb
  have b3 : b 0 3 = nI c := by rw [eb, zup_eq, upd_ne (by omega), ea, zup_eq, upd_ne (by omega)]; exact h
  have b4 : b 0 4 = W 0 4 := by rw [eb, zup_eq, upd_ne (by omega), ea, zup_eq, upd_ne (by omega)]
  refine ⟨fun w => ?_, fun _ => ?_⟩
  · rw [b3] at w
    have := (nI_leI (b := 0) (by omega) (by omega)).mp w
    omega
  · rw [b4]
    refine hQ b (fun k hk => by rw [eb, zup_ne hk, ea, zup_ne hk]) (by rw [eb, zup_eq, upd_ne (by omega), ea, zup_eq, upd_eq]) ?_ (fun j j1 j2 => by rw [eb, zup_eq, upd_ne j2, ea, zup_eq, upd_ne j1])
    rw [eb, zup_eq, upd_eq, ea, zup_eq, upd_ne (by omega)]; exact h
theorem mt_text {z : Nat} {M9 M' W : zMem} {Q : Int32 → zMem → Prop} (d0 : DA 11 z 0 M9 0 0 1 false false) (m3 : M9 11 3 = 0) (m1 : M9 11 1 = 0) (m6 : M9 11 6 = 0) (m10 : M9 11 10 = 0) (m11 : M9 11 11 = 0) (m13 : M9 11 13 = 0) (m12 : ∀ j, j ≤ 6 → M9 12 j = if j = 6 then 1 else 0) (mr0 : M9 13 0 = 0)
    (hz : W 0 1 = nI z) (hz4 : z ≤ 400) (ht : tpe (M9 17) (W 1) z) (wt : wtb W) (hR : rAl 11 z 401 M9 M')
    (hA : ¬ M' 11 1 = 0 → ∀ W', tfr W W' → W' 0 2 = M' 11 1 → Q (-10 - M' 11 2) W')
    (h6 : M' 11 1 = 0 → ∀ n H L t1 t2, DW 11 M' n H L t1 t2 → (n = 0 ∨ H = 0) → ∀ W', tfr W W' → W' 0 2 = 6 → Q (-10 - nI z) W')
    (h7 : M' 11 1 = 0 → ∀ n H L t1 t2, DW 11 M' n H L t1 t2 → 0 < n → 0 < H → (∃ s, s < 3 ∧ ∀ p, p < n → us 11 M' t1 t2 s p = 0) → ∀ W', tfr W W' → W' 0 2 = 7 → Q (-10 - nI z) W')
    (h1 : M' 11 1 = 0 → ∀ n H L t1 t2, DW 11 M' n H L t1 t2 → 0 < n → 0 < H → (∀ s, s < 3 → ∃ p, p < n ∧ us 11 M' t1 t2 s p ≠ 0) → ∀ W', (∀ c, c ≠ 0 → c ≠ 4 → c ≠ 5 → W' c = W c) → W' 0 1 = 0 → W' 0 2 = 0 → (∀ j, (j = 0 ∨ (9 ≤ j ∧ j ≤ 12) ∨ 16 ≤ j) → W' 0 j = W 0 j) → (∀ j, j ≤ 6 → W' 4 j = M' 12 j) → (∀ i, i < L → W' 4 (10 + i) = M' 13 i) → (∀ s p, s < 3 → p < n → W' 4 (30 + 8 * s + p) = us 11 M' t1 t2 s p) → (∀ h p, h < H → p < n → W' 4 (60 + 8 * h + p) = M' 15 (h * 8 + p)) → (¬ M' 12 4 = 0 → ∀ h, h + 1 < H → W' 4 (20 + h) = M' 16 h) → wp_Model_beginAnew W' (fun zm23 => vp_in 0 2 ∧ ∀ zm25 : zMem, zm25 = zup zm23 7 (ix 0) (vp_nar .boolean 0) → vp_in 1 2 ∧ ∀ zm26 : zMem, zm26 = zup zm25 7 (ix 1) (vp_nar .boolean 0) → Q (M' 11 3) zm26)) : wp_Model_text W Q := by
  intro w1 f1 w2 f2 w3 f3 w4 f4 w5 f5
  have k5 : ∀ k, k ≠ 0 → w5 k = W k := fun k hk => by rw [f5, zup_ne hk, f4, zup_ne hk, f3, zup_ne hk, f2, zup_ne hk, f1, zup_ne hk]
  have v3 : w5 0 3 = 0 := by rw [f5, zup_eq, upd_ne (by omega), f4, zup_eq, upd_ne (by omega), f3, zup_eq, upd_ne (by omega), f2, zup_eq, upd_ne (by omega), f1, zup_eq, upd_eq]
  have v5 : w5 0 5 = 0 := by rw [f5, zup_eq, upd_ne (by omega), f4, zup_eq, upd_ne (by omega), f3, zup_eq, upd_ne (by omega), f2, zup_eq, upd_eq]
  have v13 : w5 0 13 = 0 := by rw [f5, zup_eq, upd_ne (by omega), f4, zup_eq, upd_ne (by omega), f3, zup_eq, upd_eq]
  have v14 : w5 0 14 = 0 := by rw [f5, zup_eq, upd_ne (by omega), f4, zup_eq, upd_eq]
  have v15 : w5 0 15 = 0 := by rw [f5, zup_eq, upd_eq]
  have vo : ∀ j, j ≠ 3 → j ≠ 5 → j ≠ 13 → j ≠ 14 → j ≠ 15 → w5 0 j = W 0 j := fun j a b c d e => by rw [f5, zup_eq, upd_ne e, f4, zup_eq, upd_ne d, f3, zup_eq, upd_ne c, f2, zup_eq, upd_ne b, f1, zup_eq, upd_ne a]
  refine zlp1_r (fun m x W' => ∃ i, x = nI i ∧ i ≤ 100 ∧ m = 100 - i ∧ (∀ c, c ≠ 5 → W' c = w5 c) ∧ ∀ j, j < i → W' 5 j = if j = 6 then 1 else 0) ?_ (n := 100) ⟨0, rfl, by omega, rfl, fun _ _ => rfl, fun j hj => absurd hj (by omega)⟩
  rintro m x W1 ⟨i, rfl, hi, rfl, g1, g2⟩ J hJ
  unfold wpB_Model_text_29
  refine ⟨fun c => ?_, fun c => ?_⟩
  · have hi2 : 100 ≤ i := (nI_leI (a := 100) (by omega) (by omega)).mp c
    have g0 : W1 0 = w5 0 := g1 0 (by omega)
    have lW : ∀ j, (j = 0 ∨ j = 1 ∨ j = 2 ∨ (9 ≤ j ∧ j ≤ 12) ∨ 16 ≤ j) → W1 0 j = W 0 j := fun j hj => by rw [g0]; exact vo j (by omega) (by omega) (by omega) (by omega) (by omega)
    have cW : ∀ c, c ≠ 0 → c ≠ 5 → W1 c = W c := fun c c0 c5 => (g1 c c5).trans (k5 c c0)
    have sW : WS 11 z M9 W1 := by
      refine ⟨(lW 1 (by omega)).trans hz, hz4, ?_, ?_⟩
      · show tpe (M9 17) (W1 1) z
        rw [cW 1 (by omega) (by omega)]; exact ht
      · unfold wtb
        rw [cW 2 (by omega) (by omega), cW 3 (by omega) (by omega)]; exact wt
    have e1 : EQ 11 M9 W1 0 0 1 false false := by
      refine ⟨fun j hj => by rw [g2 j (by omega)]; exact (m12 j hj).symm, fun i hi => ?_, fun s p _ hp => absurd hp (by omega), fun h p hh => absurd hh (by omega), fun w => absurd (m12 4 (by omega)) w, by rw [g0, v13, m10], by rw [g0, v14, m11], by rw [g0, v15, m13]⟩
      rw [show i = 0 by omega, g2 10 (by omega)]
      exact mr0.symm
    refine mt_nx (by rw [g0]; exact v3) (by rw [g0, v5, m6]) sW d0.1 (fun W2 t2 n2 => ?_)
    have l2 := t2.l
    refine mt_lines hR d0 (e1.mv (fun _ _ _ => rfl) ⟨rfl, rfl, rfl⟩ t2) n2 (sW.mv (fun _ _ => rfl) l2) m3 m1 (fun x W3 bd l f => ?_) (fun W3 n H L t1 t2' p1 p3 dd ee l f => ?_)
    · have l3 := l2.tr l
      obtain ⟨c, c1, c7, b3, bm, b4⟩ := id bd
      refine ⟨fun _ => ?_, fun w => absurd w bd.w.ne⟩
      refine mt_115 b3 c1 c7 (fun W4 q1 q2 q3 q4 => ?_)
      rw [b4]
      refine hA (by rw [bm]; exact nI_ne0 (by omega) (by omega)) W4 ⟨fun c c0 c5 => by rw [q1 c c0, l3.1 c c0 c5]; exact cW c c0 c5, q2, fun j hj => by rw [q4 j (by omega) (by omega), l3.2 j (by omega)]; exact lW j (by omega)⟩ (by rw [q3, bm])
    · have l3 := l2.tr l
      refine ⟨fun w => absurd p3 w, fun _ W4 e4 => ?_⟩
      have k4 : ∀ c, c ≠ 0 → W4 c = W3 c := fun c hc => by rw [e4, zup_ne hc]
      have j4 : ∀ j, j ≠ 6 → W4 0 j = W3 0 j := fun j hj => by rw [e4, zup_eq, upd_ne hj]
      have j46 : W4 0 6 = nI z := by rw [e4, zup_eq, upd_eq, l3.2 1 (by omega), lW 1 (by omega)]; exact hz
      have ee4 : EQ 11 M' W4 n H L t1 t2' := ee.mv (fun _ _ _ => rfl) ⟨rfl, rfl, rfl⟩ (by rw [e4]; exact tkw.rf.up (by omega) (by omega))
      have ff : ∀ (c : Nat) (W5 : zMem), 1 ≤ c → c ≤ 7 → (∀ d, d ≠ 5 → W5 d = W4 d) → (∀ W', tfr W W' → W' 0 2 = nI c → Q (-10 - nI z) W') → wp_Model_fails (nI c) W5 (fun zm30 => wpJ_Model_text_115 Q (M' 11 3) zm30) := fun c W5 c1 c7 k5' hq => by
        have z5 : W5 0 = W4 0 := k5' 0 (by omega)
        refine e_fails (by rw [z5, j4 3 (by omega)]; exact p3) ?_
        have y3 : wfs (nI c) W5 0 3 = nI c := by unfold wfs; rw [zup_eq, upd_ne (by omega), zup_eq, upd_eq]
        have y4 : wfs (nI c) W5 0 4 = nI z := by unfold wfs; rw [zup_eq, upd_eq, z5]; exact j46
        have yo : ∀ j, j ≠ 3 → j ≠ 4 → wfs (nI c) W5 0 j = W5 0 j := fun j a b => by unfold wfs; rw [zup_eq, upd_ne b, zup_eq, upd_ne a]
        have yc : ∀ d, d ≠ 0 → wfs (nI c) W5 d = W5 d := fun d hd => by unfold wfs; rw [zup_ne hd, zup_ne hd]
        refine mt_115 y3 c1 c7 (fun W6 q1 q2 q3 q4 => ?_)
        rw [y4]
        exact hq W6 ⟨fun c c0 c5 => by rw [q1 c c0, yc c c0, k5' c c5, k4 c c0, l3.1 c c0 c5]; exact cW c c0 c5, q2, fun j hj => by rw [q4 j (by omega) (by omega), yo j (by omega) (by omega), z5, j4 j (by omega), l3.2 j (by omega)]; exact lW j (by omega)⟩ q3
      refine mt_wholeFault dd.2.1 ee4 (fun c6 => ⟨fun w => absurd w (by decide), fun _ => ff 6 W4 (by omega) (by omega) (fun _ _ => rfl) (fun W' t q => h6 p1 n H L t1 t2' dd.2.1 c6 W' t q)⟩) (fun n0 H0 c7 W5 k5' => ⟨fun w => absurd w (by decide), fun _ => ff 7 W5 (by omega) (by omega) k5' (fun W' t q => h7 p1 n H L t1 t2' dd.2.1 n0 H0 c7 W' t q)⟩) (fun n0 H0 cc W5 k5' k6 k7 => ⟨fun _ => ?_, fun w => absurd (by decide) w⟩)
      -- all is well: the words are taken over
      have z5 : W5 0 = W4 0 := k5' 0 (by omega)
      intro a ea b eb
      have bc : ∀ d, d ≠ 0 → b d = W5 d := fun d hd => by rw [eb, zup_ne hd, ea, zup_ne hd]
      have bo : ∀ j, j ≠ 1 → j ≠ 2 → b 0 j = W5 0 j := fun j j1 j2 => by rw [eb, zup_eq, upd_ne j2, ea, zup_eq, upd_ne j1]
      have b1 : b 0 1 = 0 := by rw [eb, zup_eq, upd_ne (by omega), ea, zup_eq, upd_eq]
      have y3 : W5 0 3 = 0 := by rw [z5, j4 3 (by omega)]; exact p3
      have b2 : b 0 2 = 0 := by rw [eb, zup_eq, upd_eq, ea, zup_eq, upd_ne (by omega)]; exact y3
      have b3 : b 0 3 = 0 := (bo 3 (by omega) (by omega)).trans y3
      refine ⟨fun _ => ?_, fun w => absurd (by rw [b3]; decide) w⟩
      refine zlp1_r (fun m x W' => ∃ i, x = nI i ∧ i ≤ 100 ∧ m = 100 - i ∧ (∀ c, c ≠ 4 → W' c = b c) ∧ ∀ j, j < i → W' 4 j = b 5 j) ?_ (n := 100) ⟨0, rfl, by omega, rfl, fun _ _ => rfl, fun j hj => absurd hj (by omega)⟩
      rintro m x W6 ⟨i, rfl, hi, rfl, a1, a2⟩ J hJ
      unfold wpB_Model_text_145
      refine ⟨fun c => ?_, fun c => ?_⟩
      · have i100 : 100 ≤ i := (nI_leI (a := 100) (by omega) (by omega)).mp c
        have z0 : W6 0 = b 0 := a1 0 (by omega)
        have x4 : ∀ j, j < 100 → W6 4 j = W5 5 j := fun j hj => by rw [a2 j (by omega), bc 5 (by omega)]
        obtain ⟨i0, i1, i2, i3, i4, i5, i6, i7⟩ := ee4
        have H5 : H ≤ 5 := dd.2.1.1.2.1
        have n8 : n ≤ 8 := dd.2.1.1.1
        have L6 : L ≤ 6 := dd.2.1.1.2.2.2
        exact h1 p1 n H L t1 t2' dd.2.1 n0 H0 cc W6 (fun c c0 c4 c5 => by rw [a1 c c4, bc c c0, k5' c c5, k4 c c0, l3.1 c c0 c5]; exact cW c c0 c5) (by rw [z0]; exact b1) (by rw [z0]; exact b2) (fun j hj => by rw [z0, bo j (by omega) (by omega), z5, j4 j (by omega), l3.2 j (by omega)]; exact lW j (by omega)) (fun j hj => by rw [x4 j (by omega), k6 j (by omega)]; exact i0 j hj) (fun i hi => by rw [x4 _ (by omega), k6 _ (by omega)]; exact i1 i hi) (fun s p hs hp => by rw [x4 _ (by omega)]; exact k7 s p hs hp) (fun h p hh hp => by rw [x4 _ (by omega), k6 _ (by omega)]; exact i3 h p hh hp) (fun w h hh => by rw [x4 _ (by omega), k6 _ (by omega)]; exact i4 w h hh)
      · have i100 : i < 100 := by
          rcases Nat.lt_or_ge i 100 with w | w
          · exact w
          · exact absurd ((nI_leI (a := 100) (by omega) (by omega)).mpr w) c
        refine ⟨vp_in_nI i100 (by omega), vp_in_nI i100 (by omega), fun W7 e7 y ey => ?_⟩
        rw [ey, nI_1]
        rw [q_ix (by omega)] at e7
        refine hJ (100 - (i + 1)) _ _ (by omega) ⟨i + 1, rfl, by omega, rfl, fun c hc => by rw [e7, zup_ne hc]; exact a1 c hc, fun j hj => ?_⟩
        rw [e7, zup_eq]
        by_cases w : j = i
        · rw [w, upd_eq, a1 5 (by omega)]
        · rw [upd_ne w]; exact a2 j (by omega)
  · have i100 : i < 100 := by
      rcases Nat.lt_or_ge i 100 with w | w
      · exact w
      · exact absurd ((nI_leI (a := 100) (by omega) (by omega)).mpr w) c
    have st : ∀ (v : Int32) (W2 : zMem), v = (if i = 6 then 1 else 0) → W2 = zup W1 5 (ix (nI i)) v → ∀ y : Int32, y = nI i + 1 → J y W2 := fun v W2 hv e2 y ey => by
      rw [ey, nI_1]
      rw [q_ix (by omega)] at e2
      refine hJ (100 - (i + 1)) _ _ (by omega) ⟨i + 1, rfl, by omega, rfl, fun c hc => by rw [e2, zup_ne hc]; exact g1 c hc, fun j hj => ?_⟩
      rw [e2, zup_eq]
      by_cases w : j = i
      · rw [w, upd_eq]; exact hv
      · rw [upd_ne w]; exact g2 j (by omega)
    refine ⟨fun c6 => ⟨vp_in_nI i100 (by omega), fun W2 e2 => st 0 W2 ?_ e2⟩, fun c6 => ⟨vp_in_nI i100 (by omega), fun W2 e2 => st 1 W2 ?_ e2⟩⟩
    · rw [if_neg (fun w => c6 (by rw [w]; rfl))]
    · rw [if_pos ((nI_eq (b := 6) (by omega) (by omega)).mp c6)]
/-- the bench is the same, slot for slot -/
def bsl (N M : zMem) : Prop := (∀ j, 2 ≤ j → j ≤ 5 → N 18 j = M 18 j) ∧ (∀ a x, 1 ≤ a → a ≤ 6 → x < 5 → N (18 + a) x = M (18 + a) x) ∧ (∀ x, x < 40 → N 25 x = M 25 x)
theorem bsl.of {N M : zMem} (h : ∀ c, 18 ≤ c → c ≤ 25 → N c = M c) : bsl N M := ⟨fun j _ _ => by rw [h 18 (by omega) (by omega)], fun a x _ _ _ => by rw [h (18 + a) (by omega) (by omega)], fun x _ => by rw [h 25 (by omega) (by omega)]⟩
theorem pr_cong {W M N : zMem} {n H : Nat} (H5 : H ≤ 5) (n8 : n ≤ 8) (p : pr W M n H) (s : bsl N M) : pr W N n H := by
  obtain ⟨⟨a1, a2, a3, a4⟩, b, c, d, e, f⟩ := p
  refine ⟨⟨a1.trans (s.1 2 (by omega) (by omega)).symm, a2.trans (s.1 3 (by omega) (by omega)).symm, a3.trans (s.1 4 (by omega) (by omega)).symm, a4.trans (s.1 5 (by omega) (by omega)).symm⟩, fun h hh => ?_, fun h p hh hp => (c h p hh hp).trans (s.2.2 _ (by omega)).symm, d, e, f⟩
  have b := b h hh
  unfold mr_h at b ⊢
  rw [s.2.1 1 h (by omega) (by omega) (by omega), s.2.1 2 h (by omega) (by omega) (by omega), s.2.1 3 h (by omega) (by omega) (by omega), s.2.1 4 h (by omega) (by omega) (by omega), s.2.1 5 h (by omega) (by omega) (by omega), s.2.1 6 h (by omega) (by omega) (by omega)]
  exact b
theorem hand_none {M N : zMem} {H h : Nat} (hh : h < H) (H5 : H ≤ 5) (hH : M 1 1 = nI H) (e1 : N 1 = M 1) (e5 : N 5 = M 5) (s : bsl N M) (x : sp_hand 1 18 h M = none) : sp_hand 1 18 h N = none := by
  have c1 : ∀ g, g < 5 → N (18 + 1) g = M (18 + 1) g := fun g hg => s.2.1 1 g (by omega) (by omega) hg
  have c2 : ∀ g, g < 5 → N (18 + 2) g = M (18 + 2) g := fun g hg => s.2.1 2 g (by omega) (by omega) hg
  have c3 : ∀ g, g < 5 → N (18 + 3) g = M (18 + 3) g := fun g hg => s.2.1 3 g (by omega) (by omega) hg
  have c4 : ∀ g, g < 5 → N (18 + 4) g = M (18 + 4) g := fun g hg => s.2.1 4 g (by omega) (by omega) hg
  have e5' : N (1 + 4) = M (1 + 4) := e5
  have can : ∀ g, g < 5 → (sp_can 1 18 g N ↔ sp_can 1 18 g M) := fun g hg => by
    unfold sp_can
    rw [c3 g hg, c4 g hg, e1, e5']
  have held : sp_held 1 18 h N ↔ sp_held 1 18 h M := by
    unfold sp_held
    rw [e1]
    by_cases w : h + 1 < 5
    · rw [c3 h (by omega), c4 h (by omega), c3 _ w, c4 _ w]
    · have no : ¬ nI (h + 1) < M 1 1 := fun v => by
        rw [hH] at v
        have := (nI_ltI (by omega) (by omega)).mp v
        omega
      exact ⟨fun v => absurd v.1 no, fun v => absurd v.1 no⟩
  have may : sp_may 1 18 h N ↔ sp_may 1 18 h M := by
    unfold sp_may
    rw [c3 h (by omega), e5', held]
  unfold sp_hand at x ⊢
  by_cases z : M (18 + 2) h = 0
  · rw [if_pos z] at x
    rw [if_pos ((c2 h (by omega)).trans z)]
    by_cases z3 : M (18 + 1) h = 3
    · rw [if_pos z3] at x; cases x
    rw [if_neg z3] at x
    rw [if_neg (by rw [c1 h (by omega)]; exact z3)]
    by_cases z0 : M (18 + 1) h = 0
    · rw [if_pos z0] at x
      rw [if_pos ((c1 h (by omega)).trans z0)]
      by_cases h0 : h = 0
      · rw [if_pos h0] at x; cases x
      rw [if_neg h0] at x
      rw [if_neg h0]
      by_cases zc : M (18 + 1) (h - 1) = 2 ∧ sp_can 1 18 (h - 1) M
      · rw [if_pos zc] at x; cases x
      · rw [if_neg (fun w => zc ⟨by rw [← c1 (h - 1) (by omega)]; exact w.1, (can (h - 1) (by omega)).mp w.2⟩)]
    · rw [if_neg z0] at x
      rw [if_neg (by rw [c1 h (by omega)]; exact z0)]
      by_cases z2 : M (18 + 1) h = 2
      · rw [if_pos z2] at x
        rw [if_pos ((c1 h (by omega)).trans z2)]
        by_cases zm : sp_may 1 18 h M
        · rw [if_pos zm] at x; cases x
        · rw [if_neg (fun w => zm (may.mp w))]
      · rw [if_neg (by rw [c1 h (by omega)]; exact z2)]
  · rw [if_neg (by rw [c2 h (by omega)]; exact z)]
theorem bst_cong {M N : zMem} {n H L : Nat} (b : bst M n H L) (vt : sp_vt N 1 n H L) (e1 : N 1 = M 1) (e3 : N 3 = M 3) (e5 : N 5 = M 5) (ht : ztc (N 18 0) = 1) (s : bsl N M) : bst N n H L := by
  obtain ⟨⟨-, -, -, vM, ⟨pl, hpl, epl⟩, hd, -⟩, hs⟩ := b
  have H5 : H ≤ 5 := vt.1.2.2.2.1
  refine ⟨⟨ht, by omega, by omega, vt, ⟨pl, hpl, (s.1 5 (by omega) (by omega)).trans epl⟩, fun h hh => ?_, fun g hg => by rw [zlg_18] at hg; cases hg⟩, fun j hj => hand_none hj H5 vM.2.2.1 e1 e5 s (hs j hj)⟩
  have hd := hd h hh
  unfold sp_hd at hd ⊢
  have e3' : N (1 + 2) = M (1 + 2) := e3
  have e5' : N (1 + 4) = M (1 + 4) := e5
  rw [s.2.1 1 h (by omega) (by omega) (by omega), s.2.1 2 h (by omega) (by omega) (by omega), s.2.1 3 h (by omega) (by omega) (by omega), s.2.1 4 h (by omega) (by omega) (by omega), s.2.1 5 h (by omega) (by omega) (by omega), e1, e3', e5']
  exact hd
