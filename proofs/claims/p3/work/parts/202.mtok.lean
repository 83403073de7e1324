/-- bytes with and without a sign -/
theorem by8 (y : Int8) : ((y.toInt32 &&& 255 = 32) ↔ y.toInt32 = 32) ∧ ((y.toInt32 &&& 255 = 59) ↔ y.toInt32 = 59) ∧ ((97 ≤ y.toInt32 &&& 255 ∧ y.toInt32 &&& 255 ≤ 122) ↔ (¬ y.toInt32 < 97 ∧ ¬ 122 < y.toInt32)) ∧ ((48 ≤ y.toInt32 &&& 255 ∧ y.toInt32 &&& 255 ≤ 57) ↔ (¬ y.toInt32 < 48 ∧ ¬ 57 < y.toInt32)) ∧ (¬ y.toInt32 &&& 255 = -4) ∧ (¬ y.toInt32 < 48 → y.toInt32 &&& 255 = y.toInt32) := by
  obtain ⟨⟨⟨⟨n, hn⟩⟩⟩⟩ := y
  exact (show ∀ n, ∀ hn : n < 2 ^ 8, ((((⟨⟨⟨⟨n, hn⟩⟩⟩⟩ : Int8).toInt32 &&& 255 = 32) ↔ (⟨⟨⟨⟨n, hn⟩⟩⟩⟩ : Int8).toInt32 = 32) ∧ (((⟨⟨⟨⟨n, hn⟩⟩⟩⟩ : Int8).toInt32 &&& 255 = 59) ↔ (⟨⟨⟨⟨n, hn⟩⟩⟩⟩ : Int8).toInt32 = 59) ∧ ((97 ≤ (⟨⟨⟨⟨n, hn⟩⟩⟩⟩ : Int8).toInt32 &&& 255 ∧ (⟨⟨⟨⟨n, hn⟩⟩⟩⟩ : Int8).toInt32 &&& 255 ≤ 122) ↔ (¬ (⟨⟨⟨⟨n, hn⟩⟩⟩⟩ : Int8).toInt32 < 97 ∧ ¬ 122 < (⟨⟨⟨⟨n, hn⟩⟩⟩⟩ : Int8).toInt32)) ∧ ((48 ≤ (⟨⟨⟨⟨n, hn⟩⟩⟩⟩ : Int8).toInt32 &&& 255 ∧ (⟨⟨⟨⟨n, hn⟩⟩⟩⟩ : Int8).toInt32 &&& 255 ≤ 57) ↔ (¬ (⟨⟨⟨⟨n, hn⟩⟩⟩⟩ : Int8).toInt32 < 48 ∧ ¬ 57 < (⟨⟨⟨⟨n, hn⟩⟩⟩⟩ : Int8).toInt32)) ∧ (¬ (⟨⟨⟨⟨n, hn⟩⟩⟩⟩ : Int8).toInt32 &&& 255 = -4) ∧ (¬ (⟨⟨⟨⟨n, hn⟩⟩⟩⟩ : Int8).toInt32 < 48 → (⟨⟨⟨⟨n, hn⟩⟩⟩⟩ : Int8).toInt32 &&& 255 = (⟨⟨⟨⟨n, hn⟩⟩⟩⟩ : Int8).toInt32)) by decide +kernel) n hn
/-- both tapes hold the same z bytes -/
def tpe (T U : Nat → Int32) (z : Nat) : Prop := ∀ j, j < z → ∃ y : Int8, T j = y.toInt32 ∧ U j = y.toInt32 &&& 255
/-- what the reference's tables of words say -/
def wtb (W : zMem) : Prop := (∀ i, i ≤ 10 → W 2 i = nI (sp_sum (fun j => zsL.getD j 0) i)) ∧ ∀ i, i < 10 → ∀ j, j < zsL.getD i 0 → W 3 (sp_sum (fun j => zsL.getD j 0) i + j) = zsc i j
theorem wtb_b : ∀ i, i < 10 → sp_sum (fun j => zsL.getD j 0) i + zsL.getD i 0 = sp_sum (fun j => zsL.getD j 0) (i + 1) ∧ sp_sum (fun j => zsL.getD j 0) (i + 1) ≤ 43 := by decide
theorem zsc_b : ∀ i, i < 10 → ∀ j, j < zsL.getD i 0 → 97 ≤ zsc i j ∧ zsc i j ≤ 122 := by decide +kernel
theorem tpe_B {T U : Nat → Int32} {z j : Nat} (h : tpe T U z) (hj : j < z) : (U j = 32 ↔ isB (T j) = true) ∧ (U j = 59 ↔ T j = 59) ∧ ((97 ≤ U j ∧ U j ≤ 122) ↔ isL (T j) = true) ∧ ((48 ≤ U j ∧ U j ≤ 57) ↔ isF (T j) = true) ∧ (¬ U j = -4) ∧ (¬ T j < 48 → U j = T j) := by
  obtain ⟨y, e1, e2⟩ := h j hj
  rw [e1, e2]
  obtain ⟨a, b, c, d, e, f⟩ := by8 y
  unfold isB isL isF
  refine ⟨?_, b, ?_, ?_, e, f⟩
  · rw [decide_eq_true_eq]; exact a
  · rw [decide_eq_true_eq]; exact c
  · rw [decide_eq_true_eq]; exact d
theorem e_byteAt {z i : Nat} {W : zMem} {Q : Int32 → zMem → Prop} (h1 : W 0 1 = nI z) (hz : z ≤ 400) (hi : i < 2147483648) (hQ : Q (if i < z then W 1 i else -4) W) : wp_Model_byteAt (nI i) W Q := by
  unfold wp_Model_byteAt
  rw [h1]
  refine ⟨fun c => ?_, fun c => ?_⟩
  · have := (nI_leI (by omega) hi).mp c
    rw [if_neg (by omega)] at hQ; exact hQ
  · have hi2 : i < z := (nI_ltI hi (by omega)).mp (Int32.not_le.mp c)
    rw [if_pos hi2] at hQ
    rw [q_ix hi]
    exact ⟨vp_in_nI (by omega) (by omega), hQ⟩
theorem mt_skip {z p : Nat} {T : Nat → Int32} {W : zMem} {K : zMem → Prop} {Q : zMem → Prop} (h1 : W 0 1 = nI z) (hz : z ≤ 400) (h5 : W 0 5 = nI p) (hp : p ≤ z) (hT : tpe T (W 1) z) (hK : K (zup W 0 5 (nI (tk_q T z p)))) : ∃ n, zlp0 (wpB_Model_next_8 K Q) n W := by
  refine zlp0_r (fun m W' => ∃ i, i ≤ z ∧ m = z - i ∧ W' = zup W 0 5 (nI i) ∧ tk_s isB T (z - i) i = tk_q T z p) ?_ (n := z - p) ⟨p, hp, rfl, (zup_same h5).symm, rfl⟩
  rintro m W' ⟨i, hi, rfl, rfl, e⟩ J hJ
  unfold wpB_Model_next_8
  have g1 : zup W 0 5 (nI i) 0 1 = nI z := by rw [zup_eq, upd_ne (by omega)]; exact h1
  have g5 : zup W 0 5 (nI i) 0 5 = nI i := by rw [zup_eq, upd_eq]
  have gT : zup W 0 5 (nI i) 1 = W 1 := by rw [zup_ne (by omega)]
  rw [g5]
  refine e_byteAt g1 hz (by omega) ?_
  rw [gT]
  have stop : (z ≤ i ∨ isB (T i) = false) → K (zup W 0 5 (nI i)) := fun c => by
    rw [tk_s_end c] at e
    rw [e]; exact hK
  by_cases hi2 : i < z
  · rw [if_pos hi2]
    obtain ⟨b1, -⟩ := tpe_B hT hi2
    refine ⟨fun c => stop (Or.inr (by
      cases hb : isB (T i) with
      | false => rfl
      | true => exact absurd (b1.mpr hb) c)), fun c W2 e2 => ?_⟩
    refine hJ (z - (i + 1)) _ (by omega) ⟨i + 1, by omega, rfl, ?_, ?_⟩
    · rw [e2, g5, zup_zup, nI_1]
    · rw [← e, ← tk_s_go hi2 (b1.mp c)]
  · rw [if_neg hi2]
    exact ⟨fun _ => stop (Or.inl (by omega)), fun c => absurd c (by decide)⟩
theorem mt_letters {z p : Nat} {T : Nat → Int32} {W : zMem} {K : zMem → Prop} {Q : zMem → Prop} (h1 : W 0 1 = nI z) (hz : z ≤ 400) (h5 : W 0 5 = nI p) (hp : p ≤ z) (hT : tpe T (W 1) z) (hK : K (zup W 0 5 (nI (tk_s isL T (z - p) p)))) : ∃ n, zlp0 (wpB_Model_next_84 K Q) n W := by
  refine zlp0_r (fun m W' => ∃ i, i ≤ z ∧ m = z - i ∧ W' = zup W 0 5 (nI i) ∧ tk_s isL T (z - i) i = tk_s isL T (z - p) p) ?_ (n := z - p) ⟨p, hp, rfl, (zup_same h5).symm, rfl⟩
  rintro m W' ⟨i, hi, rfl, rfl, e⟩ J hJ
  unfold wpB_Model_next_84
  have g1 : zup W 0 5 (nI i) 0 1 = nI z := by rw [zup_eq, upd_ne (by omega)]; exact h1
  have g5 : zup W 0 5 (nI i) 0 5 = nI i := by rw [zup_eq, upd_eq]
  have gT : zup W 0 5 (nI i) 1 = W 1 := by rw [zup_ne (by omega)]
  rw [g5]
  refine e_byteAt g1 hz (by omega) ?_
  rw [gT]
  have stop : (z ≤ i ∨ isL (T i) = false) → K (zup W 0 5 (nI i)) := fun c => by
    rw [tk_s_end c] at e
    rw [e]; exact hK
  by_cases hi2 : i < z
  · rw [if_pos hi2]
    obtain ⟨-, -, b1, -⟩ := tpe_B hT hi2
    refine mt_in (lo' := 97) (hi' := 122) rfl rfl (fun c1 c2 => ⟨fun w => absurd w (by decide), fun _ W2 e2 => ?_⟩) (fun c => ⟨fun _ => stop (Or.inr (by
      cases hb : isL (T i) with
      | false => rfl
      | true => exact absurd (b1.mpr hb) c)), fun w => absurd rfl w⟩)
    refine hJ (z - (i + 1)) _ (by omega) ⟨i + 1, by omega, rfl, ?_, ?_⟩
    · rw [e2, g5, zup_zup, nI_1]
    · rw [← e, ← tk_s_go hi2 (b1.mp ⟨c1, c2⟩)]
  · rw [if_neg hi2]
    exact mt_in (lo' := 97) (hi' := 122) rfl rfl (fun c1 _ => absurd c1 (by decide)) (fun _ => ⟨fun _ => stop (Or.inl (by omega)), fun w => absurd rfl w⟩)
theorem mt_nameAt {z q e : Nat} {T : Nat → Int32} {W : zMem} {Q : Int32 → zMem → Prop} (h1 : W 0 1 = nI z) (hz : z ≤ 400) (hq : q ≤ e) (he : e ≤ z) (hT : tpe T (W 1) z) (ht : wtb W) (hQ : ∀ nm, nm = tk_nm T q e 10 0 → Q (if nm < 10 then nI nm else -4) W) : wp_Model_nameAt (nI q) (nI e) W Q := by
  have hb := tk_nm_b (T := T) (q := q) (e := e) 10 0 rfl
  have hQ' := hQ _ rfl
  generalize hnm : tk_nm T q e 10 0 = nm at hb hQ'
  refine zlp1_r (fun m x W' => ∃ i, x = nI i ∧ i ≤ 10 ∧ m = 10 - i ∧ W = W' ∧ tk_nm T q e (10 - i) i = nm) ?_ (n := 10) ⟨0, rfl, by omega, rfl, rfl, hnm⟩
  rintro m x W' ⟨i, rfl, hi, rfl, rfl, e1⟩ J hJ
  unfold wpB_Model_nameAt_2
  refine ⟨fun c => ?_, fun c => ?_⟩
  · have := (nI_leI (a := 10) (by omega) (by omega)).mp c
    have e2 : i = 10 := by omega
    rw [e2] at e1
    have e3 : nm = 10 := e1.symm
    rw [e3, if_neg (by omega)] at hQ'
    exact hQ'
  have hi2 : i < 10 := (nI_ltI (b := 10) (by omega) (by omega)).mp (Int32.not_le.mp c)
  obtain ⟨s1, s2⟩ := wtb_b i hi2
  have hL := zsL_b (i := i) (by omega)
  obtain ⟨f, ef⟩ : ∃ f, 10 - i = f + 1 := ⟨10 - i - 1, by omega⟩
  have ef2 : 10 - (i + 1) = f := by omega
  have no : ¬ tk_w T q e i → ∀ y, y = nI (i + 1) → J y W := fun cw y ey => by
    rw [ey]
    refine hJ (10 - (i + 1)) _ _ (by omega) ⟨i + 1, rfl, by omega, rfl, rfl, ?_⟩
    rw [ef, tk_nm_no cw] at e1
    rw [ef2]; exact e1
  have yes : tk_w T q e i → Q (nI i) W := fun cw => by
    rw [ef, tk_nm_yes cw] at e1
    rw [← e1, if_pos hi2] at hQ'
    exact hQ'
  rw [nI_1, q_ix (by omega), q_ix (by omega), ht.1 i (by omega), ht.1 (i + 1) (by omega), q_sub hq, q_sub (by omega), show sp_sum (fun j => zsL.getD j 0) (i + 1) - sp_sum (fun j => zsL.getD j 0) i = zsL.getD i 0 by omega]
  refine ⟨vp_in_nI (by omega) (by omega), vp_in_nI (by omega) (by omega), fun d => ?_, fun d => ?_⟩
  · have d' : ¬ e - q = zsL.getD i 0 := fun w => d (by rw [w])
    refine ⟨1, fun _ => ⟨fun _ => no (fun w => d' w.1), fun w => absurd rfl w⟩, fun w => absurd rfl w⟩
  · have d' : e - q = zsL.getD i 0 := (nI_eq (by omega) (by omega)).mp d
    refine zlp2_r (fun m x4 x5 W' => ∃ j, x5 = nI j ∧ j ≤ zsL.getD i 0 ∧ m = zsL.getD i 0 - j ∧ W = W' ∧ ((x4 = 1 ∧ ∀ h, h < j → T (q + h) = zsc i h) ∨ (x4 = 0 ∧ ¬ tk_w T q e i))) ?_ (n := zsL.getD i 0) ⟨0, rfl, by omega, rfl, rfl, Or.inl ⟨rfl, fun h w => absurd w (by omega)⟩⟩
    rintro m x4 x5 W' ⟨j, rfl, hj, rfl, rfl, hc⟩ J2 hJ2
    unfold wpB_Model_nameAt_39
    rcases hc with ⟨rfl, hc⟩ | ⟨rfl, hc⟩
    · refine ⟨fun w => absurd w (by decide), fun _ => ⟨fun w => ?_, fun w => ?_⟩⟩
      · rw [q_sub hq] at w
        have := (nI_leI (by omega) (by omega)).mp w
        exact ⟨fun w => absurd w (by decide), fun _ => yes ⟨d', fun h hh => hc h (by omega)⟩⟩
      · rw [q_sub hq] at w
        have hj2 : j < e - q := (nI_ltI (by omega) (by omega)).mp (Int32.not_le.mp w)
        rw [q_add]
        refine e_byteAt h1 hz (by omega) ?_
        rw [if_pos (by omega), q_ix (by omega), ht.1 i (by omega), q_add, q_ix (by omega), ht.2 i hi2 j (by omega)]
        obtain ⟨-, -, b3, -, -, b6⟩ := tpe_B hT (show q + j < z by omega)
        have zb := zsc_b i hi2 j (by omega)
        have iff : W 1 (q + j) = zsc i j ↔ T (q + j) = zsc i j := by
          constructor
          · intro w
            have : isL (T (q + j)) = true := b3.mp (by rw [w]; exact zb)
            have h48 : ¬ T (q + j) < 48 := fun v => by
              unfold isL at this
              rw [decide_eq_true_eq] at this
              exact this.1 (Int32.lt_trans v (by decide))
            rw [← b6 h48]; exact w
          · intro w
            have h48 : ¬ T (q + j) < 48 := fun v => by
              rw [w] at v
              exact absurd (Int32.lt_of_lt_of_le v (by decide : (48 : Int32) ≤ 97)) (Int32.not_lt.mpr zb.1)
            rw [b6 h48]; exact w
        refine ⟨vp_in_nI (by omega) (by omega), vp_in_nI (by omega) (by omega), fun v y ey => ?_, fun v y ey => ?_⟩
        · rw [ey, nI_1]
          exact hJ2 (zsL.getD i 0 - (j + 1)) _ _ _ (by omega) ⟨j + 1, rfl, by omega, rfl, rfl, Or.inr ⟨rfl, fun tw => v (iff.mpr (tw.2 j (by omega)))⟩⟩
        · rw [ey, nI_1]
          refine hJ2 (zsL.getD i 0 - (j + 1)) _ _ _ (by omega) ⟨j + 1, rfl, by omega, rfl, rfl, Or.inl ⟨rfl, fun h hh => ?_⟩⟩
          rcases Nat.lt_or_ge h j with u | u
          · exact hc h u
          · rw [show h = j by omega]; exact iff.mp v
    · exact ⟨fun _ => ⟨fun _ => no hc, fun w => absurd rfl w⟩, fun w => absurd rfl w⟩
