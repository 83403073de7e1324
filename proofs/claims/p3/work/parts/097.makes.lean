def ro_top (o : Option (Nat × Nat × Nat × Nat)) : Nat := ro_c o / Nat.gcd (ro_c o) (ro_t o)
def ro_bot (o : Option (Nat × Nat × Nat × Nat)) : Nat := ro_t o / Nat.gcd (ro_c o) (ro_t o)
theorem ro_gcd {o : Option (Nat × Nat × Nat × Nat)} (h : sp_rok o) : 0 < Nat.gcd (ro_c o) (ro_t o) := Nat.gcd_pos_of_pos_right _ (ro_ok h).2.1
theorem ro_tb {o : Option (Nat × Nat × Nat × Nat)} (h : sp_rok o) : ro_top o ≤ 200 ∧ 0 < ro_bot o ∧ ro_bot o ≤ 480000 ∧ (o = none ↔ ro_top o = 0) := by
  obtain ⟨a, b, c, d⟩ := ro_ok h
  have g := ro_gcd h
  have g1 := Nat.gcd_dvd_left (ro_c o) (ro_t o)
  have g2 := Nat.gcd_dvd_right (ro_c o) (ro_t o)
  unfold ro_top ro_bot
  refine ⟨Nat.le_trans (Nat.div_le_self _ _) a, Nat.div_pos (Nat.le_of_dvd b g2) g, Nat.le_trans (Nat.div_le_self _ _) c, ?_⟩
  rw [d]
  refine ⟨fun e => by rw [e]; exact Nat.zero_div _, fun e => ?_⟩
  rcases Nat.eq_zero_or_pos (ro_c o) with z | z
  · exact z
  · have := Nat.div_pos (Nat.le_of_dvd z g1) g
    omega
theorem sp_ro_tb {o : Option (Nat × Nat × Nat × Nat)} {M : zMem} {g : Nat} (h : sp_ro o M g) : M g 6 = nI (ro_top o) ∧ M g 7 = nI (ro_bot o) := by
  cases o with
  | none => exact ⟨(h.2.1 rfl).2.1, (h.2.1 rfl).2.2⟩
  | some x =>
    obtain ⟨da, ta, dn, tn⟩ := x
    obtain ⟨-, -, -, -, -, y6, y7⟩ := h.2.2 da ta dn tn rfl
    exact ⟨y6, y7⟩
theorem mt_made {o : Option (Nat × Nat × Nat × Nat)} {a : Int32} {W : zMem} {Q : Int32 → zMem → Prop} (rk : sp_rok o) (e31 : W 0 31 = nI (ro_c o)) (e32 : W 0 32 = nI (ro_t o)) (hQ : Q (nI (if a = 0 then ro_top o else ro_bot o)) W) : wp_Model_made a W Q := by
  obtain ⟨k1, k2, k3, -⟩ := ro_ok rk
  unfold wp_Model_made
  rw [e31, e32, q_l64 (by omega), q_l64 (by omega)]
  refine mt_lowest (by omega) (by omega) (ro_gcd rk) ?_
  rw [lN_i]
  by_cases c : a = 0
  · rw [if_pos c] at hQ ⊢; exact hQ
  · rw [if_neg c] at hQ ⊢; exact hQ
theorem p_makes {n H L : Nat} {M W : zMem} {a : Int32} {P : zMem → zMem → Prop} (vt : sp_vt M 1 n H L) (r : rt0 W M n H L) (h : cr M n H L)
    (hP : ∀ M' W', cfr 54 M M' → mfy W W' → cr M' n H L → P M' W') : wp_Main_makes a M (fun x M' => wp_Model_makes a W (fun y W' => x = y ∧ P M' W')) := by
  refine xt_half (fun ca => ⟨fun _ => ?_, fun q => absurd q (by decide)⟩) (fun ca => ⟨fun q => absurd rfl q, fun _ => ?_⟩)
  · refine xt_findRing vt h (fun M' M0 Mc hc ok tc rk ro cf => ?_)
    have cr' : cr M' n H L := Or.inr ⟨M0, Mc, hc, ok, fun i hi => (tc i hi).trans (cf _ (by omega) (by omega)).symm, rk, ro⟩
    obtain ⟨t6, t7⟩ := sp_ro_tb ro
    have ask : ∀ x : Int32, x = nI (if a = 0 then ro_top (sp_ring 1 45 n H Mc) else ro_bot (sp_ring 1 45 n H Mc)) → wp_Model_makes a W (fun y W' => x = y ∧ P M' W') := fun x hx => by
      refine mt_in (lo' := 0) (hi' := 1) (by decide) (by decide) (fun _ _ => ⟨fun _ => ?_, fun q => absurd q (by decide)⟩) (fun q => absurd (half_in.mpr ca) q)
      refine mt_ringAt vt r hc ok tc (fun W' fy m1 e31 e32 => ?_)
      exact mt_made rk e31 e32 ⟨hx, hP M' W' cf fy cr'⟩
    refine ⟨fun q => ask _ ?_, fun q => ask _ ?_⟩
    · rw [if_neg q]; exact t7
    · rw [if_pos q]; exact t6
  · exact mt_in (lo' := 0) (hi' := 1) (by decide) (by decide) (fun c1 c2 => absurd (half_in.mp ⟨c1, c2⟩) ca) (fun _ => ⟨fun q => absurd rfl q, fun _ => ⟨rfl, hP M W (fun _ _ _ => rfl) mfy.rf h⟩⟩)
