theorem cmp_pos {x : Nat} (h0 : 0 < x) (hx : x < 9223372036854775808) : ¬ lg_cmp (lN x) 0 ≤ 0 := by
  have := cmp_le x 0 hx (by omega)
  rw [show (0 : Int64) = lN 0 from rfl, this]
  omega
theorem lN_ne0 {x : Nat} (h0 : 0 < x) (hx : x < 9223372036854775808) : ¬ lN x = 0 := fun z => by
  have := (q_lNi hx).mp z
  omega
theorem p_could {n H L : Nat} {M W : zMem} {a : Int32} {P : zMem → zMem → Prop} (vt : sp_vt M 1 n H L) (r : rt0 W M n H L) (hP : P M W) : wp_Main_could a M (fun x M' => wp_Model_could a W (fun y W' => x = y ∧ P M' W')) := by
  obtain ⟨⟨n1, n8, H1, H5, L1, L6⟩, hn, hH, hL, -⟩ := id vt
  have hT : ∀ i, i < H → 0 < cu_t M n L i ∧ cu_t M n L i ≤ 2592 := fun i hi => cu_pos vt hi
  have bd : ∀ h, h < H → 0 < (cu_f (cu_t M n L) L h).2 * cu_t M n L h ∧ (cu_f (cu_t M n L) L h).2 * cu_t M n L h ≤ 117000000000000000 ∧ (cu_f (cu_t M n L) L h).1 * cu_t M n L h + L * (cu_f (cu_t M n L) L h).2 ≤ 3600000000000000000 := fun h hh => by
    obtain ⟨i1, i2, i3⟩ := cu_b (T := cu_t M n L) L6 h (fun i hi => hT i (by omega))
    obtain ⟨t1, t2⟩ := hT h hh
    obtain ⟨w1, w2⟩ := cu_pw h (by omega)
    generalize (cu_f (cu_t M n L) L h).1 = A at i3
    generalize (cu_f (cu_t M n L) L h).2 = B at i1 i2
    generalize cu_t M n L h = t at t1 t2
    refine ⟨Nat.mul_pos i1 t1, Nat.le_trans (Nat.mul_le_mul i2 t2) (by rw [← Nat.pow_succ]; exact w1), Nat.le_trans (Nat.add_le_add (Nat.mul_le_mul i3 t2) (Nat.mul_le_mul L6 i2)) w2⟩
  have cls : ∀ Q : Int64 → zMem → Prop, Q (lN (if a = 0 then (cu_f (cu_t M n L) L H).1 else (cu_f (cu_t M n L) L H).2)) M → ∃ k, zlp3 (wpB_Main_could_19 a Q) k 0 1 0 M := fun Q hQ => by
    refine zlp3_r (fun m x y z M' => M' = M ∧ ∃ h, z = nI h ∧ h ≤ H ∧ m = H - h ∧ x = lN (cu_f (cu_t M n L) L h).1 ∧ y = lN (cu_f (cu_t M n L) L h).2) ?_ (n := H) ⟨rfl, 0, rfl, by omega, rfl, rfl, rfl⟩
    rintro m x y z M' ⟨rfl, h, rfl, hh, rfl, rfl, rfl⟩ J hJ
    refine ⟨fun c => ?_, fun c => ?_⟩
    · rw [hH] at c
      have := (nI_leI (by omega) (by omega)).mp c
      have e : h = H := by omega
      rw [e]
      refine ⟨fun q => ?_, fun q => ?_⟩
      · rw [if_neg q] at hQ; exact hQ
      · rw [if_pos q] at hQ; exact hQ
    rw [hH] at c
    have hh2 : h < H := (nI_ltI (by omega) (by omega)).mp (Int32.not_le.mp c)
    obtain ⟨t1, t2⟩ := hT h hh2
    obtain ⟨b1, b2, b3⟩ := bd h hh2
    have es : cu_f (cu_t M' n L) L (h + 1) = (((cu_f (cu_t M' n L) L h).1 * cu_t M' n L h + L * (cu_f (cu_t M' n L) L h).2) / Nat.gcd ((cu_f (cu_t M' n L) L h).1 * cu_t M' n L h + L * (cu_f (cu_t M' n L) L h).2) ((cu_f (cu_t M' n L) L h).2 * cu_t M' n L h), ((cu_f (cu_t M' n L) L h).2 * cu_t M' n L h) / Nat.gcd ((cu_f (cu_t M' n L) L h).1 * cu_t M' n L h + L * (cu_f (cu_t M' n L) L h).2) ((cu_f (cu_t M' n L) L h).2 * cu_t M' n L h)) := rfl
    refine xt_alone vt hh2 ⟨fun q => absurd q (cmp_pos t1 (by omega)), fun _ z1 e1 z2 e2 => ?_⟩
    rw [hL, q_l64 (by omega), lN_mul, lN_mul, lN_add] at e1
    rw [lN_mul] at e2
    subst e1 e2
    generalize (cu_f (cu_t M' n L) L h).1 * cu_t M' n L h + L * (cu_f (cu_t M' n L) L h).2 = A at b3 es
    generalize (cu_f (cu_t M' n L) L h).2 * cu_t M' n L h = B at b1 b2 es
    have g0 : 0 < Nat.gcd A B := Nat.gcd_pos_of_pos_right _ b1
    have g1 : Nat.gcd A B ≤ B := Nat.gcd_le_right _ b1
    refine xt_gcd (by omega) (by omega) ⟨fun q => absurd q (cmp_pos g0 (by omega)), fun _ => ⟨lN_ne0 g0 (by omega), ?_⟩⟩
    refine ⟨fun q => absurd q (cmp_pos g0 (by omega)), fun _ => ⟨lN_ne0 g0 (by omega), fun z3 e3 z4 e4 => ?_⟩⟩
    rw [pk_lDiv (by omega) g0 (by omega)] at e3
    rw [pk_lDiv (by omega) g0 (by omega), e3, e4, nI_1]
    exact hJ (H - (h + 1)) _ _ _ _ (by omega) ⟨rfl, h + 1, rfl, by omega, rfl, by rw [es], by rw [es]⟩
  have ref : ∀ Q : Int64 → zMem → Prop, Q (lN (if a = 0 then (cu_f (cu_t M n L) L H).1 else (cu_f (cu_t M n L) L H).2)) W → ∃ k, zlp3 (wpB_Model_could_22 a Q) k 0 1 0 W := fun Q hQ => by
    refine zlp3_r (fun m x y z W' => W' = W ∧ ∃ h, z = nI h ∧ h ≤ H ∧ m = H - h ∧ x = lN (cu_f (cu_t M n L) L h).1 ∧ y = lN (cu_f (cu_t M n L) L h).2) ?_ (n := H) ⟨rfl, 0, rfl, by omega, rfl, rfl, rfl⟩
    rintro m x y z W' ⟨rfl, h, rfl, hh, rfl, rfl, rfl⟩ J hJ
    refine ⟨vp_in_nI (n := 1) (by omega) (by omega), fun c => ?_, fun c => ?_⟩
    · rw [show ix 1 = 1 from rfl, r.2.1] at c
      have := (nI_leI (by omega) (by omega)).mp c
      have e : h = H := by omega
      rw [e]
      refine ⟨fun q => ?_, fun q => ?_⟩
      · rw [if_neg q] at hQ; exact hQ
      · rw [if_pos q] at hQ; exact hQ
    rw [show ix 1 = 1 from rfl, r.2.1] at c
    have hh2 : h < H := (nI_ltI (by omega) (by omega)).mp (Int32.not_le.mp c)
    obtain ⟨t1, t2⟩ := hT h hh2
    obtain ⟨b1, b2, b3⟩ := bd h hh2
    have es : cu_f (cu_t M n L) L (h + 1) = (((cu_f (cu_t M n L) L h).1 * cu_t M n L h + L * (cu_f (cu_t M n L) L h).2) / Nat.gcd ((cu_f (cu_t M n L) L h).1 * cu_t M n L h + L * (cu_f (cu_t M n L) L h).2) ((cu_f (cu_t M n L) L h).2 * cu_t M n L h), ((cu_f (cu_t M n L) L h).2 * cu_t M n L h) / Nat.gcd ((cu_f (cu_t M n L) L h).1 * cu_t M n L h + L * (cu_f (cu_t M n L) L h).2) ((cu_f (cu_t M n L) L h).2 * cu_t M n L h)) := rfl
    refine mt_alone vt r hh2 ⟨vp_in_nI (n := 6) (by omega) (by omega), fun z1 e1 z2 e2 => ?_⟩
    rw [show ix 6 = 6 from rfl, r.2.2.2.2.2.2.1, q_l64 (by omega), lN_mul, lN_mul, lN_add] at e1
    rw [lN_mul] at e2
    subst e1 e2
    generalize (cu_f (cu_t M n L) L h).1 * cu_t M n L h + L * (cu_f (cu_t M n L) L h).2 = A at b3 es
    generalize (cu_f (cu_t M n L) L h).2 * cu_t M n L h = B at b1 b2 es
    have g0 : 0 < Nat.gcd A B := Nat.gcd_pos_of_pos_right _ b1
    refine mt_lowest (by omega) (by omega) g0 (mt_lowest (by omega) (by omega) g0 (fun z4 e4 => ?_))
    rw [if_pos rfl, if_neg (by decide), e4, nI_1]
    exact hJ (H - (h + 1)) _ _ _ _ (by omega) ⟨rfl, h + 1, rfl, by omega, rfl, by rw [es], by rw [es]⟩
  refine xt_half (fun ca => ⟨fun _ => cls _ ?_, fun z => absurd z (by decide)⟩) (fun ca => ⟨fun z => absurd rfl z, fun _ => mt_in (lo' := 0) (hi' := 1) (by decide) (by decide) (fun c1 c2 => absurd (half_in.mp ⟨c1, c2⟩) ca) (fun _ => ⟨fun z => absurd rfl z, fun _ => ⟨rfl, hP⟩⟩)⟩)
  exact mt_in (lo' := 0) (hi' := 1) (by decide) (by decide) (fun c1 c2 => ⟨fun _ => ref _ ⟨rfl, hP⟩, fun z => absurd z (by decide)⟩) (fun z => absurd (half_in.mpr ca) z)
