theorem p_lay0 {M W : zMem} {a1 a2 a3 : Int32} {P : zMem → zMem → Prop} (hs : ∀ i, i < 4 → M (81 + 2 * i) 0 = -1 ∧ W 16 i = -4) (hP0 : P M W) : wp_Main_lay a1 a2 a3 M (fun x M' => wp_Model_lay a1 a2 a3 W (fun y W' => x = y ∧ P M' W')) := by
  refine xt_isSheet (fun i hi ei => ⟨fun _ => ?_, fun q => absurd q (by decide)⟩) (fun nh => ⟨fun q => absurd rfl q, fun _ => in_no (hi := 3) rfl nh ⟨fun q => absurd rfl q, fun _ => ⟨rfl, hP0⟩⟩⟩)
  subst ei
  rw [q_ix (by omega)]
  have v : vp_in (nI i) 4 := vp_in_nI (by omega) (by omega)
  refine ⟨v, fun q => absurd (hs i hi).1 q, fun _ => in_yes (hi := 3) rfl (by omega) (by omega) ⟨fun _ => ⟨v, ?_⟩, fun q => absurd q (by decide)⟩⟩
  rw [q_ix (by omega)]
  exact ⟨fun q => absurd (hs i hi).2 q, fun _ => ⟨rfl, hP0⟩⟩
theorem p_feed {M W : zMem} {a : Int64} {P : zMem → zMem → Prop} {z : Nat} (e : M 11 5 = nI z) (e2 : W 0 1 = nI z) (hz : z ≤ 400) (hP0 : P M W)
    (hP : ∀ M' W', z + 8 ≤ 400 → M' 11 = upd (M 11) 5 (nI (z + 8)) → W' 0 = upd (W 0) 1 (nI (z + 8)) → (∀ i, i < 8 → M' 17 (z + i) = vp_nar .byte (((a >>> ((nI (56 - 8 * i)).toInt64 &&& 63)).toInt32).toInt8.toInt32) ∧ W' 1 (z + i) = (((a >>> ((nI (56 - 8 * i)).toInt64 &&& 63)).toInt32) &&& 255)) → (∀ j, (j < z ∨ z + 8 ≤ j) → M' 17 j = M 17 j ∧ W' 1 j = W 1 j) → (∀ k, k ≠ 11 → k ≠ 17 → M' k = M k) → (∀ k, k ≠ 0 → k ≠ 1 → W' k = W k) → P M' W') : wp_Main_feed a M (fun x M' => wp_Model_feed a W (fun y W' => x = y ∧ P M' W')) := by
  unfold wp_Main_feed
  rw [e]
  refine ⟨fun c => ?_, fun c => ?_⟩
  · have hz2 := (nI_leI (b := 392) (by omega) (by omega)).mp c
    refine zlp1_r (fun m x M' => ∃ h, x = nI h ∧ h ≤ 8 ∧ m = 8 - h ∧ M' 11 = upd (M 11) 5 (nI (z + h)) ∧ (∀ i, i < h → M' 17 (z + i) = vp_nar .byte (((a >>> ((nI (56 - 8 * i)).toInt64 &&& 63)).toInt32).toInt8.toInt32)) ∧ (∀ j, (j < z ∨ z + 8 ≤ j) → M' 17 j = M 17 j) ∧ (∀ k, k ≠ 11 → k ≠ 17 → M' k = M k)) ?_ (n := 8) ⟨0, rfl, by omega, rfl, ?_, fun i hi => absurd hi (by omega), fun _ _ => rfl, fun _ _ _ => rfl⟩
    · rintro m x M' ⟨h, rfl, hh, rfl, i1, i2, i3, i4⟩ J hJ
      have y5 : M' 11 5 = nI (z + h) := by rw [i1, upd_eq]
      refine ⟨fun c => ?_, fun c => ?_⟩
      · have := (nI_leI (a := 8) (by omega) (by omega)).mp c
        have eh : h = 8 := by omega
        subst eh
        rw [y5]
        unfold wp_Model_feed
        rw [e2]
        have e8 : nI z + 8 = nI (z + 8) := by rw [show (8 : Int32) = nI 8 from rfl, q_add]
        rw [e8]
        refine ⟨fun _ => ?_, fun q => absurd ((nI_leI (b := 400) (by omega) (by omega)).mpr (by omega)) q⟩
        refine zlp1_r (fun m x W' => ∃ h, (x = if h < 8 then nI (56 - 8 * h) else -8) ∧ h ≤ 8 ∧ m = 8 - h ∧ W' 0 = upd (W 0) 1 (nI (z + h)) ∧ (∀ i, i < h → W' 1 (z + i) = (((a >>> ((nI (56 - 8 * i)).toInt64 &&& 63)).toInt32) &&& 255)) ∧ (∀ j, (j < z ∨ z + 8 ≤ j) → W' 1 j = W 1 j) ∧ (∀ k, k ≠ 0 → k ≠ 1 → W' k = W k)) ?_ (n := 8) ⟨0, by rw [if_pos (by omega)]; rfl, by omega, rfl, ?_, fun i hi => absurd hi (by omega), fun _ _ => rfl, fun _ _ _ => rfl⟩
        · rintro m x W' ⟨h, ex, hh, rfl, k1, k2, k3, k4⟩ J hJ
          have w1 : W' 0 1 = nI (z + h) := by rw [k1, upd_eq]
          refine ⟨fun c => ?_, fun c => ?_⟩
          · have e8 : h = 8 := by
              by_cases q : h < 8
              · rw [if_pos q] at ex
                rw [ex] at c
                exact absurd c (nI_pos (by omega))
              · omega
            subst e8
            rw [w1]
            exact ⟨rfl, hP M' W' (by omega) i1 k1 (fun i hi => ⟨i2 i hi, k2 i hi⟩) (fun j hj => ⟨i3 j hj, k3 j hj⟩) i4 k4⟩
          · have h8 : h < 8 := by
              by_cases q : h < 8
              · exact q
              · rw [if_neg q] at ex
                rw [ex] at c
                exact absurd (by decide) c
            rw [if_pos h8] at ex
            rw [w1, q_ix (by omega), ex]
            refine ⟨vp_in_nI (by omega) (by omega), fun W1 f1 W2 f2 y ey => ?_⟩
            refine hJ (8 - (h + 1)) _ _ (by omega) ⟨h + 1, ?_, by omega, rfl, ?_, fun i hi => ?_, fun j hj => ?_, fun k q0 q1 => ?_⟩
            · rw [ey]
              rcases (show h = 0 ∨ h = 1 ∨ h = 2 ∨ h = 3 ∨ h = 4 ∨ h = 5 ∨ h = 6 ∨ h = 7 by omega) with rfl | rfl | rfl | rfl | rfl | rfl | rfl | rfl <;> decide
            · rw [f2, zup_eq, f1, zup_ne (by omega), w1, k1, show (1 : Int32) = nI 1 from rfl, q_add]
              funext j
              by_cases q : j = 1
              · rw [q, upd_eq, upd_eq]; congr 1
              · rw [upd_ne q, upd_ne q, upd_ne q]
            · rw [f2, zup_ne (by omega), f1, zup_eq]
              by_cases q : i = h
              · rw [q, upd_eq]
              · rw [upd_ne (by omega)]; exact k2 i (by omega)
            · rw [f2, zup_ne (by omega), f1, zup_eq, upd_ne (by omega)]; exact k3 j hj
            · rw [f2, zup_ne q0, f1, zup_ne q1]; exact k4 k q0 q1
        · funext j
          by_cases q : j = 1
          · rw [q, upd_eq]; exact e2
          · rw [upd_ne q]
      · have h8 : h < 8 := (nI_ltI (b := 8) (by omega) (by omega)).mp (Int32.not_le.mp c)
        rw [y5, q_ix (by omega)]
        have es : 8 * (7 - nI h) = nI (56 - 8 * h) := by
          rcases (show h = 0 ∨ h = 1 ∨ h = 2 ∨ h = 3 ∨ h = 4 ∨ h = 5 ∨ h = 6 ∨ h = 7 by omega) with rfl | rfl | rfl | rfl | rfl | rfl | rfl | rfl <;> decide
        rw [es]
        refine ⟨vp_in_nI (by omega) (by omega), fun M1 f1 M2 f2 y ey => ?_⟩
        rw [ey, nI_1]
        refine hJ (8 - (h + 1)) _ _ (by omega) ⟨h + 1, rfl, by omega, rfl, ?_, fun i hi => ?_, fun j hj => ?_, fun k q0 q1 => ?_⟩
        · rw [f2, zup_eq, f1, zup_ne (by omega), y5, i1, show (1 : Int32) = nI 1 from rfl, q_add]
          funext j
          by_cases q : j = 5
          · rw [q, upd_eq, upd_eq]; congr 1
          · rw [upd_ne q, upd_ne q, upd_ne q]
        · rw [f2, zup_ne (by omega), f1, zup_eq]
          by_cases q : i = h
          · rw [q, upd_eq]
          · rw [upd_ne (by omega)]; exact i2 i (by omega)
        · rw [f2, zup_ne (by omega), f1, zup_eq, upd_ne (by omega)]; exact i3 j hj
        · rw [f2, zup_ne q0, f1, zup_ne q1]; exact i4 k q0 q1
    · funext j
      by_cases q : j = 5
      · rw [q, upd_eq]; exact e
      · rw [upd_ne q]
  · unfold wp_Model_feed
    rw [e2]
    have e8 : nI z + 8 = nI (z + 8) := by rw [show (8 : Int32) = nI 8 from rfl, q_add]
    rw [e8]
    refine ⟨fun q => absurd ((nI_leI (b := 392) (by omega) (by omega)).mpr ?_) c, fun _ => ⟨rfl, hP0⟩⟩
    have := (nI_leI (b := 400) (by omega) (by omega)).mp q
    omega
