/-- ticks that a hand wants alone for a row of coats -/
def cu_t (M : zMem) (n L h : Nat) : Nat := sp_sum (fun i => sp_sum (fun p => ix (M 3 (ix (M 2 i) * 8 + p)) * ix (M 4 (h * 8 + p))) n) L
theorem sp_sum_1 {c : Nat → Nat} {m : Nat} : sp_sum c (m + 1) = sp_sum c m + c m := Nat.add_comm _ _
theorem sp_sum_pos {c : Nat → Nat} : ∀ m j, j < m → 0 < c j → 0 < sp_sum c m := by
  intro m
  induction m with
  | zero => intro j h; exact absurd h (by omega)
  | succ m ih =>
    intro j h hc
    rw [sp_sum_1]
    by_cases e : j = m
    · rw [e] at hc; omega
    · have := ih j (by omega) hc; omega
theorem cu_one {n H L : Nat} {M : zMem} (vt : sp_vt M 1 n H L) {h i p : Nat} (hh : h < H) (hi : i < L) (hp : p < n) : ∃ s u c, s < 3 ∧ u ≤ 6 ∧ 1 ≤ c ∧ c ≤ 9 ∧ M 2 i = nI s ∧ M 3 (s * 8 + p) = nI u ∧ M 4 (h * 8 + p) = nI c := by
  obtain ⟨⟨n1, n8, H1, H5, L1, L6⟩, hn, hH, hL, -, -, -, -, hrow, hun, hpf, hpa, -, -, -⟩ := vt
  obtain ⟨s, s1, s2⟩ := hrow i hi
  obtain ⟨u, u1, u2⟩ := hun s p s1 hp
  obtain ⟨c, c1, c2, c3⟩ := hpa h p hh hp
  exact ⟨s, u, c, s1, u1, c1, c2, s2, u2, c3⟩
theorem cu_le {n H L : Nat} {M : zMem} (vt : sp_vt M 1 n H L) {h : Nat} (hh : h < H) : ∀ m, m ≤ L → sp_sum (fun i => sp_sum (fun p => ix (M 3 (ix (M 2 i) * 8 + p)) * ix (M 4 (h * 8 + p))) n) m ≤ 432 * m := by
  intro m hm
  refine sp_sum_bound m (fun i hi => ?_)
  have n8 : n ≤ 8 := vt.1.2.1
  have := sp_sum_bound (c := fun p => ix (M 3 (ix (M 2 i) * 8 + p)) * ix (M 4 (h * 8 + p))) (B := 54) n (fun p hp => by
    obtain ⟨s, u, c, s1, u1, c1, c2, e1, e2, e3⟩ := cu_one vt hh (by omega : i < L) hp
    rw [e1, q_ix (by omega), e2, e3, q_ix (by omega), q_ix (by omega)]
    exact Nat.le_trans (Nat.mul_le_mul u1 c2) (by omega))
  have : 54 * n ≤ 54 * 8 := Nat.mul_le_mul (Nat.le_refl _) n8
  omega
theorem cu_pos {n H L : Nat} {M : zMem} (vt : sp_vt M 1 n H L) {h : Nat} (hh : h < H) : 0 < cu_t M n L h ∧ cu_t M n L h ≤ 2592 := by
  obtain ⟨⟨n1, n8, H1, H5, L1, L6⟩, hn, hH, hL, -, -, -, -, hrow, hun, hpf, hpa, -, -, -⟩ := id vt
  refine ⟨?_, ?_⟩
  · refine sp_sum_pos L 0 (by omega) ?_
    obtain ⟨s, s1, s2⟩ := hrow 0 (by omega)
    have hq := hpf s s1
    have hpos := sp_pf_pos (fun i => M (1 + 2) (s * 8 + i)) n 0 (by omega)
    generalize sp_pf (fun i => M (1 + 2) (s * 8 + i)) n 0 = p at hq hpos
    refine sp_sum_pos n p hq ?_
    obtain ⟨s', u, c, t1, u1, c1, c2, e1, e2, e3⟩ := cu_one vt hh (by omega : 0 < L) hq
    have es : s' = s := (nI_eq (by omega) (by omega)).mp (e1.symm.trans s2)
    rw [e1, q_ix (by omega), e2, e3, q_ix (by omega), q_ix (by omega)]
    have u0 : 0 < u := by
      have hp2 : (0 : Int32) < M 3 (s * 8 + p) := hpos
      rw [← es, e2] at hp2
      exact (nI_0lt (by omega)).mp hp2
    exact Nat.mul_pos u0 (by omega)
  · have := cu_le vt hh L (Nat.le_refl _)
    unfold cu_t
    omega
theorem xt_alone {n H L h : Nat} {M : zMem} {Q : Int64 → zMem → Prop} (vt : sp_vt M 1 n H L) (hh : h < H) (hQ : Q (lN (cu_t M n L h)) M) : wp_Told_ticksAlone 1 (nI h) M Q := by
  obtain ⟨⟨n1, n8, H1, H5, L1, L6⟩, hn, hH, hL, -, -, -, -, hrow, hun, hpf, hpa, -, -, -⟩ := id vt
  unfold wp_Told_ticksAlone
  refine zlp2_r (fun m x y M' => M' = M ∧ ∃ i, y = nI i ∧ i ≤ L ∧ m = L - i ∧ x = lN (sp_sum (fun i => sp_sum (fun p => ix (M 3 (ix (M 2 i) * 8 + p)) * ix (M 4 (h * 8 + p))) n) i)) ?_ (n := L) ⟨rfl, 0, rfl, by omega, rfl, rfl⟩
  rintro m x y M' ⟨rfl, i, rfl, hi, rfl, rfl⟩ J hJ
  refine ⟨fun c => ?_, fun c => ?_⟩
  · rw [hL] at c
    have := (nI_leI (by omega) (by omega)).mp c
    rw [show i = L by omega]; exact hQ
  rw [hL] at c
  have hi2 : i < L := (nI_ltI (by omega) (by omega)).mp (Int32.not_le.mp c)
  refine zlp2_r (fun m x y M'' => M'' = M' ∧ ∃ p, y = nI p ∧ p ≤ n ∧ m = n - p ∧ x = lN (sp_sum (fun i => sp_sum (fun p => ix (M' 3 (ix (M' 2 i) * 8 + p)) * ix (M' 4 (h * 8 + p))) n) i + sp_sum (fun p => ix (M' 3 (ix (M' 2 i) * 8 + p)) * ix (M' 4 (h * 8 + p))) p)) ?_ (n := n) ⟨rfl, 0, rfl, by omega, rfl, rfl⟩
  rintro m x y M'' ⟨rfl, p, rfl, hp, rfl, rfl⟩ J2 hJ2
  refine ⟨fun c2 z ez => ?_, fun c2 => ?_⟩
  · rw [hn] at c2
    have := (nI_leI (by omega) (by omega)).mp c2
    have ep : p = n := by omega
    rw [ep, ez, nI_1]
    exact hJ (L - (i + 1)) _ _ _ (by omega) ⟨rfl, i + 1, rfl, by omega, rfl, by rw [sp_sum_1 (m := i)]⟩
  · rw [hn] at c2
    have hp2 : p < n := (nI_ltI (by omega) (by omega)).mp (Int32.not_le.mp c2)
    obtain ⟨s, u, c, s1, u1, k1, k2, e1, e2, e3⟩ := cu_one vt hh hi2 hp2
    rw [q_ix (by omega)]
    refine ⟨vp_in_nI (by omega) (by omega), ?_⟩
    rw [show M'' (1 + 1) i = nI s from e1, e_unitsOf s1 (by omega), e_paceOf (by omega) (by omega)]
    rw [show M'' (1 + 2) (s * 8 + p) = nI u from e2, show M'' (1 + 3) (h * 8 + p) = nI c from e3]
    intro z1 ez1 z2 ez2
    have uc : u * c ≤ 54 := Nat.le_trans (Nat.mul_le_mul u1 k2) (by omega)
    rw [q_mul, q_l64 (by omega), lN_add] at ez1
    rw [ez1, ez2, nI_1]
    refine hJ2 (n - (p + 1)) _ _ _ (by omega) ⟨rfl, p + 1, rfl, by omega, rfl, ?_⟩
    refine congrArg lN ?_
    rw [sp_sum_1 (m := p), e1, q_ix (by omega), e2, e3, q_ix (by omega), q_ix (by omega), Nat.add_assoc]
/-- the same, the reference's side -/
theorem mt_alone {a1 : Int32} {x2 x4 : Int64} {n H L h : Nat} {M W : zMem} {K : Int64 → zMem → Prop} {Q : Int64 → zMem → Prop} (vt : sp_vt M 1 n H L) (r : rt0 W M n H L) (hh : h < H) (hK : K (lN (cu_t M n L h)) W) : ∃ k, zlp2 (wpB_Model_could_39 a1 x2 x4 (nI h) K Q) k 0 0 W := by
  obtain ⟨⟨n1, n8, H1, H5, L1, L6⟩, hn, hH, hL, -, -, -, -, hrow, hun, hpf, hpa, -, -, -⟩ := id vt
  obtain ⟨r0, r1, r2, r3, r4, r5, r6, rrow, run, rpa, ren⟩ := id r
  refine zlp2_r (fun m x y W' => W' = W ∧ ∃ i, y = nI i ∧ i ≤ L ∧ m = L - i ∧ x = lN (sp_sum (fun i => sp_sum (fun p => ix (M 3 (ix (M 2 i) * 8 + p)) * ix (M 4 (h * 8 + p))) n) i)) ?_ (n := L) ⟨rfl, 0, rfl, by omega, rfl, rfl⟩
  rintro m x y W' ⟨rfl, i, rfl, hi, rfl, rfl⟩ J hJ
  refine ⟨vp_in_nI (n := 6) (by omega) (by omega), fun c => ?_, fun c => ?_⟩
  · rw [show ix 6 = 6 from rfl, r6] at c
    have := (nI_leI (by omega) (by omega)).mp c
    rw [show i = L by omega]; exact hK
  rw [show ix 6 = 6 from rfl, r6] at c
  have hi2 : i < L := (nI_ltI (by omega) (by omega)).mp (Int32.not_le.mp c)
  refine zlp2_r (fun m x y W'' => W'' = W' ∧ ∃ p, y = nI p ∧ p ≤ n ∧ m = n - p ∧ x = lN (sp_sum (fun i => sp_sum (fun p => ix (M 3 (ix (M 2 i) * 8 + p)) * ix (M 4 (h * 8 + p))) n) i + sp_sum (fun p => ix (M 3 (ix (M 2 i) * 8 + p)) * ix (M 4 (h * 8 + p))) p)) ?_ (n := n) ⟨rfl, 0, rfl, by omega, rfl, rfl⟩
  rintro m x y W'' ⟨rfl, p, rfl, hp, rfl, rfl⟩ J2 hJ2
  refine ⟨vp_in_nI (n := 0) (by omega) (by omega), fun c2 z ez => ?_, fun c2 => ?_⟩
  · rw [show ix 0 = 0 from rfl, r0] at c2
    have := (nI_leI (by omega) (by omega)).mp c2
    have ep : p = n := by omega
    rw [ep, ez, nI_1]
    exact hJ (L - (i + 1)) _ _ _ (by omega) ⟨rfl, i + 1, rfl, by omega, rfl, by rw [sp_sum_1 (m := i)]⟩
  · rw [show ix 0 = 0 from rfl, r0] at c2
    have hp2 : p < n := (nI_ltI (by omega) (by omega)).mp (Int32.not_le.mp c2)
    obtain ⟨s, u, c, s1, u1, k1, k2, e1, e2, e3⟩ := cu_one vt hh hi2 hp2
    have i1 : (10 : Int32) + nI i = nI (10 + i) := q_add 10 i
    have i3 : (60 : Int32) + 8 * nI h + nI p = nI (60 + 8 * h + p) := by simp only [q_lit, q_mul, q_add]
    rw [i1, i3, q_ix (by omega), q_ix (by omega), (rrow i hi2).trans e1]
    have i2 : (30 : Int32) + 8 * nI s + nI p = nI (30 + 8 * s + p) := by simp only [q_lit, q_mul, q_add]
    rw [i2, q_ix (by omega), (run s p s1 hp2).trans e2, (rpa h p hh hp2).trans e3]
    refine ⟨vp_in_nI (by omega) (by omega), vp_in_nI (by omega) (by omega), vp_in_nI (by omega) (by omega), fun z1 ez1 z2 ez2 => ?_⟩
    have uc : u * c ≤ 54 := Nat.le_trans (Nat.mul_le_mul u1 k2) (by omega)
    rw [q_mul, q_l64 (by omega), lN_add] at ez1
    rw [ez1, ez2, nI_1]
    refine hJ2 (n - (p + 1)) _ _ _ (by omega) ⟨rfl, p + 1, rfl, by omega, rfl, ?_⟩
    refine congrArg lN ?_
    rw [sp_sum_1 (m := p), e1, q_ix (by omega), e2, e3, q_ix (by omega), q_ix (by omega), Nat.add_assoc]
/-- all hands together -/
def cu_f (T : Nat → Nat) (L : Nat) : Nat → Nat × Nat
  | 0 => (0, 1)
  | h + 1 => (((cu_f T L h).1 * T h + L * (cu_f T L h).2) / Nat.gcd ((cu_f T L h).1 * T h + L * (cu_f T L h).2) ((cu_f T L h).2 * T h), ((cu_f T L h).2 * T h) / Nat.gcd ((cu_f T L h).1 * T h + L * (cu_f T L h).2) ((cu_f T L h).2 * T h))
theorem cu_b {T : Nat → Nat} {L : Nat} (L6 : L ≤ 6) : ∀ h, (∀ i, i < h → 0 < T i ∧ T i ≤ 2592) → 0 < (cu_f T L h).2 ∧ (cu_f T L h).2 ≤ 2592 ^ h ∧ (cu_f T L h).1 ≤ 6 * h * 2592 ^ h := by
  intro h
  induction h with
  | zero => intro _; exact ⟨by show 0 < 1; omega, by show 1 ≤ 1; omega, by show 0 ≤ _; omega⟩
  | succ h ih =>
    intro hT
    obtain ⟨i1, i2, i3⟩ := ih (fun i hi => hT i (by omega))
    obtain ⟨t1, t2⟩ := hT h (by omega)
    show 0 < ((cu_f T L h).2 * T h) / _ ∧ ((cu_f T L h).2 * T h) / _ ≤ _ ∧ ((cu_f T L h).1 * T h + L * (cu_f T L h).2) / _ ≤ _
    generalize (cu_f T L h).1 = a at i3
    generalize (cu_f T L h).2 = b at i1 i2
    generalize T h = t at t1 t2
    have p1 : 0 < b * t := Nat.mul_pos i1 t1
    have g0 : 0 < Nat.gcd (a * t + L * b) (b * t) := Nat.gcd_pos_of_pos_right _ p1
    refine ⟨Nat.div_pos (Nat.le_of_dvd p1 (Nat.gcd_dvd_right _ _)) g0, Nat.le_trans (Nat.div_le_self _ _) ?_, Nat.le_trans (Nat.div_le_self _ _) ?_⟩
    · rw [Nat.pow_succ]; exact Nat.mul_le_mul i2 t2
    · rw [Nat.pow_succ]
      have q1 : a * t ≤ 6 * h * 2592 ^ h * 2592 := Nat.mul_le_mul i3 t2
      have q2 : L * b ≤ 6 * 2592 ^ h := Nat.mul_le_mul L6 i2
      have e1 : 6 * (h + 1) * (2592 ^ h * 2592) = 6 * h * 2592 ^ h * 2592 + 6 * 2592 ^ h * 2592 := by
        rw [Nat.mul_add, Nat.add_mul, Nat.mul_assoc (6 * h), Nat.mul_one, Nat.mul_assoc 6 (2592 ^ h) 2592]
      rw [e1]
      have : 6 * 2592 ^ h ≤ 6 * 2592 ^ h * 2592 := Nat.le_mul_of_pos_right _ (by omega)
      omega
theorem cu_pw : ∀ h, h < 5 → 2592 ^ (h + 1) ≤ 117000000000000000 ∧ 6 * h * 2592 ^ h * 2592 + 6 * 2592 ^ h ≤ 3600000000000000000 := by decide +kernel
theorem cmp_pos {x : Nat} (h0 : 0 < x) (hx : x < 9223372036854775808) : ¬ lg_cmp (lN x) 0 ≤ 0 := by
  have := cmp_le x 0 hx (by omega)
  rw [show (0 : Int64) = lN 0 from rfl, this]
  omega
theorem lN_ne0 {x : Nat} (h0 : 0 < x) (hx : x < 9223372036854775808) : ¬ lN x = 0 := fun z => by
  have := (q_lNi hx).mp z
  omega
theorem p_could {n H L : Nat} {M W : zMem} {a : Int32} {P : zMem → zMem → Prop} (vt : sp_vt M 1 n H L) (r : rt0 W M n H L) (hP : P M W) : wp_Main_could a M (fun x M' => wp_Model_could a W (fun y W' => x = y ∧ P M' W')) := by
  obtain ⟨⟨n1, n8, H1, H5, L1, L6⟩, hn, hH, hL, -⟩ := id vt
  have hT : ∀ i, i < H → 0 < cu_t M n L i ∧ cu_t M n L i ≤ 2592 := fun i hi => cu_pos vt hi
  have bd : ∀ h, h < H → 0 < (cu_f (cu_t M n L) L h).2 * cu_t M n L h ∧ (cu_f (cu_t M n L) L h).2 * cu_t M n L h ≤ 117000000000000000 ∧ (cu_f (cu_t M n L) L h).1 * cu_t M n L h + L * (cu_f (cu_t M n L) L h).2 ≤ 3600000000000000000 := fun h hh => by
    obtain ⟨i1, i2, i3⟩ := cu_b (T := cu_t M n L) L6 h (fun i hi => hT i (by omega))
    obtain ⟨t1, t2⟩ := hT h hh
    obtain ⟨w1, w2⟩ := cu_pw h (by omega)
    generalize (cu_f (cu_t M n L) L h).1 = A at i3
    generalize (cu_f (cu_t M n L) L h).2 = B at i1 i2
    generalize cu_t M n L h = t at t1 t2
    refine ⟨Nat.mul_pos i1 t1, Nat.le_trans (Nat.mul_le_mul i2 t2) (by rw [← Nat.pow_succ]; exact w1), Nat.le_trans (Nat.add_le_add (Nat.mul_le_mul i3 t2) (Nat.mul_le_mul L6 i2)) w2⟩
  have cls : ∀ Q : Int64 → zMem → Prop, Q (lN (if a = 0 then (cu_f (cu_t M n L) L H).1 else (cu_f (cu_t M n L) L H).2)) M → ∃ k, zlp3 (wpB_Main_could_19 a Q) k 0 1 0 M := fun Q hQ => by
    refine zlp3_r (fun m x y z M' => M' = M ∧ ∃ h, z = nI h ∧ h ≤ H ∧ m = H - h ∧ x = lN (cu_f (cu_t M n L) L h).1 ∧ y = lN (cu_f (cu_t M n L) L h).2) ?_ (n := H) ⟨rfl, 0, rfl, by omega, rfl, rfl, rfl⟩
    rintro m x y z M' ⟨rfl, h, rfl, hh, rfl, rfl, rfl⟩ J hJ
    refine ⟨fun c => ?_, fun c => ?_⟩
    · rw [hH] at c
      have := (nI_leI (by omega) (by omega)).mp c
      have e : h = H := by omega
      rw [e]
      refine ⟨fun q => ?_, fun q => ?_⟩
      · rw [if_neg q] at hQ; exact hQ
      · rw [if_pos q] at hQ; exact hQ
    rw [hH] at c
    have hh2 : h < H := (nI_ltI (by omega) (by omega)).mp (Int32.not_le.mp c)
    obtain ⟨t1, t2⟩ := hT h hh2
    obtain ⟨b1, b2, b3⟩ := bd h hh2
    have es : cu_f (cu_t M' n L) L (h + 1) = (((cu_f (cu_t M' n L) L h).1 * cu_t M' n L h + L * (cu_f (cu_t M' n L) L h).2) / Nat.gcd ((cu_f (cu_t M' n L) L h).1 * cu_t M' n L h + L * (cu_f (cu_t M' n L) L h).2) ((cu_f (cu_t M' n L) L h).2 * cu_t M' n L h), ((cu_f (cu_t M' n L) L h).2 * cu_t M' n L h) / Nat.gcd ((cu_f (cu_t M' n L) L h).1 * cu_t M' n L h + L * (cu_f (cu_t M' n L) L h).2) ((cu_f (cu_t M' n L) L h).2 * cu_t M' n L h)) := rfl
    refine xt_alone vt hh2 ⟨fun q => absurd q (cmp_pos t1 (by omega)), fun _ z1 e1 z2 e2 => ?_⟩
    rw [hL, q_l64 (by omega), lN_mul, lN_mul, lN_add] at e1
    rw [lN_mul] at e2
    subst e1 e2
    generalize (cu_f (cu_t M' n L) L h).1 * cu_t M' n L h + L * (cu_f (cu_t M' n L) L h).2 = A at b3 es
    generalize (cu_f (cu_t M' n L) L h).2 * cu_t M' n L h = B at b1 b2 es
    have g0 : 0 < Nat.gcd A B := Nat.gcd_pos_of_pos_right _ b1
    have g1 : Nat.gcd A B ≤ B := Nat.gcd_le_right _ b1
    refine xt_gcd (by omega) (by omega) ⟨fun q => absurd q (cmp_pos g0 (by omega)), fun _ => ⟨lN_ne0 g0 (by omega), ?_⟩⟩
    refine ⟨fun q => absurd q (cmp_pos g0 (by omega)), fun _ => ⟨lN_ne0 g0 (by omega), fun z3 e3 z4 e4 => ?_⟩⟩
    rw [pk_lDiv (by omega) g0 (by omega)] at e3
    rw [pk_lDiv (by omega) g0 (by omega), e3, e4, nI_1]
    exact hJ (H - (h + 1)) _ _ _ _ (by omega) ⟨rfl, h + 1, rfl, by omega, rfl, by rw [es], by rw [es]⟩
  have ref : ∀ Q : Int64 → zMem → Prop, Q (lN (if a = 0 then (cu_f (cu_t M n L) L H).1 else (cu_f (cu_t M n L) L H).2)) W → ∃ k, zlp3 (wpB_Model_could_22 a Q) k 0 1 0 W := fun Q hQ => by
    refine zlp3_r (fun m x y z W' => W' = W ∧ ∃ h, z = nI h ∧ h ≤ H ∧ m = H - h ∧ x = lN (cu_f (cu_t M n L) L h).1 ∧ y = lN (cu_f (cu_t M n L) L h).2) ?_ (n := H) ⟨rfl, 0, rfl, by omega, rfl, rfl, rfl⟩
    rintro m x y z W' ⟨rfl, h, rfl, hh, rfl, rfl, rfl⟩ J hJ
    refine ⟨vp_in_nI (n := 1) (by omega) (by omega), fun c => ?_, fun c => ?_⟩
    · rw [show ix 1 = 1 from rfl, r.2.1] at c
      have := (nI_leI (by omega) (by omega)).mp c
      have e : h = H := by omega
      rw [e]
      refine ⟨fun q => ?_, fun q => ?_⟩
      · rw [if_neg q] at hQ; exact hQ
      · rw [if_pos q] at hQ; exact hQ
    rw [show ix 1 = 1 from rfl, r.2.1] at c
    have hh2 : h < H := (nI_ltI (by omega) (by omega)).mp (Int32.not_le.mp c)
    obtain ⟨t1, t2⟩ := hT h hh2
    obtain ⟨b1, b2, b3⟩ := bd h hh2
    have es : cu_f (cu_t M n L) L (h + 1) = (((cu_f (cu_t M n L) L h).1 * cu_t M n L h + L * (cu_f (cu_t M n L) L h).2) / Nat.gcd ((cu_f (cu_t M n L) L h).1 * cu_t M n L h + L * (cu_f (cu_t M n L) L h).2) ((cu_f (cu_t M n L) L h).2 * cu_t M n L h), ((cu_f (cu_t M n L) L h).2 * cu_t M n L h) / Nat.gcd ((cu_f (cu_t M n L) L h).1 * cu_t M n L h + L * (cu_f (cu_t M n L) L h).2) ((cu_f (cu_t M n L) L h).2 * cu_t M n L h)) := rfl
    refine mt_alone vt r hh2 ⟨vp_in_nI (n := 6) (by omega) (by omega), fun z1 e1 z2 e2 => ?_⟩
    rw [show ix 6 = 6 from rfl, r.2.2.2.2.2.2.1, q_l64 (by omega), lN_mul, lN_mul, lN_add] at e1
    rw [lN_mul] at e2
    subst e1 e2
    generalize (cu_f (cu_t M n L) L h).1 * cu_t M n L h + L * (cu_f (cu_t M n L) L h).2 = A at b3 es
    generalize (cu_f (cu_t M n L) L h).2 * cu_t M n L h = B at b1 b2 es
    have g0 : 0 < Nat.gcd A B := Nat.gcd_pos_of_pos_right _ b1
    refine mt_lowest (by omega) (by omega) g0 (mt_lowest (by omega) (by omega) g0 (fun z4 e4 => ?_))
    rw [if_pos rfl, if_neg (by decide), e4, nI_1]
    exact hJ (H - (h + 1)) _ _ _ _ (by omega) ⟨rfl, h + 1, rfl, by omega, rfl, by rw [es], by rw [es]⟩
  refine xt_half (fun ca => ⟨fun _ => cls _ ?_, fun z => absurd z (by decide)⟩) (fun ca => ⟨fun z => absurd rfl z, fun _ => mt_in (lo' := 0) (hi' := 1) (by decide) (by decide) (fun c1 c2 => absurd (half_in.mp ⟨c1, c2⟩) ca) (fun _ => ⟨fun z => absurd rfl z, fun _ => ⟨rfl, hP⟩⟩)⟩)
  exact mt_in (lo' := 0) (hi' := 1) (by decide) (by decide) (fun c1 c2 => ⟨fun _ => ref _ ⟨rfl, hP⟩, fun z => absurd z (by decide)⟩) (fun z => absurd (half_in.mpr ca) z)
/-- ends of parts in their order, as bits -/
def pt (n H : Nat) : List Nat := match n, H with
  | 1, 1 => [0]
  | 2, 1 => [0]
  | 2, 2 => [2]
  | 3, 1 => [0]
  | 3, 2 => [2, 4]
  | 3, 3 => [6]
  | 4, 1 => [0]
  | 4, 2 => [2, 4, 8]
  | 4, 3 => [6, 10, 12]
  | 4, 4 => [14]
  | 5, 1 => [0]
  | 5, 2 => [2, 4, 8, 16]
  | 5, 3 => [6, 10, 18, 12, 20, 24]
  | 5, 4 => [14, 22, 26, 28]
  | 5, 5 => [30]
  | 6, 1 => [0]
  | 6, 2 => [2, 4, 8, 16, 32]
  | 6, 3 => [6, 10, 18, 34, 12, 20, 36, 24, 40, 48]
  | 6, 4 => [14, 22, 38, 26, 42, 50, 28, 44, 52, 56]
  | 6, 5 => [30, 46, 54, 58, 60]
  | 7, 1 => [0]
  | 7, 2 => [2, 4, 8, 16, 32, 64]
  | 7, 3 => [6, 10, 18, 34, 66, 12, 20, 36, 68, 24, 40, 72, 48, 80, 96]
  | 7, 4 => [14, 22, 38, 70, 26, 42, 74, 50, 82, 98, 28, 44, 76, 52, 84, 100, 56, 88, 104, 112]
  | 7, 5 => [30, 46, 78, 54, 86, 102, 58, 90, 106, 114, 60, 92, 108, 116, 120]
  | 8, 1 => [0]
  | 8, 2 => [2, 4, 8, 16, 32, 64, 128]
  | 8, 3 => [6, 10, 18, 34, 66, 130, 12, 20, 36, 68, 132, 24, 40, 72, 136, 48, 80, 144, 96, 160, 192]
  | 8, 4 => [14, 22, 38, 70, 134, 26, 42, 74, 138, 50, 82, 146, 98, 162, 194, 28, 44, 76, 140, 52, 84, 148, 100, 164, 196, 56, 88, 152, 104, 168, 200, 112, 176, 208, 224]
  | 8, 5 => [30, 46, 78, 142, 54, 86, 150, 102, 166, 198, 58, 90, 154, 106, 170, 202, 114, 178, 210, 226, 60, 92, 156, 108, 172, 204, 116, 180, 212, 228, 120, 184, 216, 232, 240]
  | _, _ => []
def pN (n H : Nat) : Nat := (pt n H).length
def pm (n H k : Nat) : Nat := (pt n H).getD k 0
/-- how many bits from 1 on stand below p; where the j-th stands -/
def pc (x : Nat) : Nat → Nat
  | 0 => 0
  | p + 1 => pc x p + (if p = 0 then 0 else x / 2 ^ p % 2)
def pw (x : Nat) : Nat → Nat → Nat
  | 0, _ => 0
  | f + 1, j => if (8 - (f + 1) ≠ 0 ∧ x / 2 ^ (8 - (f + 1)) % 2 = 1) then (if j = 0 then 8 - (f + 1) else pw x f (j - 1)) else pw x f j
def pv (x j : Nat) : Nat := pw x 8 j
/-- where the ends move on -/
def pmv (e : Nat → Nat) (n H : Nat) : Nat → Option Nat
  | 0 => none
  | m + 1 => if e m < n - (H - 1 - m) then some m else pmv e n H m
def pmw (e : Nat → Nat) (h i : Nat) : Nat := if i < h then e i else e h + 1 + (i - h)
def plx (e f : Nat → Nat) : Nat → Nat → Bool
  | 0, _ => false
  | m + 1, h => if e h = f h then plx e f m (h + 1) else decide (e h < f h)
def pall (c : Nat → Nat → Bool) : Bool := (List.range 9).all fun n => (List.range 6).all fun H => !(decide (1 ≤ H ∧ H ≤ n)) || c n H
theorem pall_at {c : Nat → Nat → Bool} (h : pall c = true) {n H : Nat} (n8 : n ≤ 8) (H1 : 1 ≤ H) (H5 : H ≤ 5) (hn : H ≤ n) : c n H = true := by
  have e1 := List.all_eq_true.mp h n (List.mem_range.mpr (by omega))
  have e2 := List.all_eq_true.mp e1 H (List.mem_range.mpr (by omega))
  rw [decide_eq_true ⟨H1, hn⟩] at e2
  exact e2
def pc1 (n H : Nat) : Bool := decide (0 < pN n H) && (decide (pN n H ≤ 35) && (List.range (H - 1)).all fun i => decide (pv (pm n H 0) i = i + 1))
theorem pc1_ok : pall pc1 = true := by decide +kernel
def pc2 (n H : Nat) : Bool := (List.range (pN n H)).all fun k => decide (pm n H k < 2 ^ n) && (decide (pm n H k % 2 = 0) && (decide (pc (pm n H k) n = H - 1) && ((List.range (H - 1)).all fun i => decide (1 ≤ pv (pm n H k) i) && decide (pv (pm n H k) i < n))))
theorem pc2_ok : pall pc2 = true := by decide +kernel
def pc3 (n H : Nat) : Bool := (List.range (pN n H)).all fun k => match pmv (pv (pm n H k)) n H (H - 1) with
  | none => decide (k + 1 = pN n H)
  | some h => decide (h < H - 1) && (decide (k + 1 < pN n H) && (List.range (H - 1)).all fun i => decide (pmw (pv (pm n H k)) h i = pv (pm n H (k + 1)) i))
theorem pc3_ok : pall pc3 = true := by decide +kernel
def pc4 (n H : Nat) : Bool := (List.range (2 ^ n)).all fun x => !(decide (x % 2 = 0 ∧ pc x n = H - 1)) || (pt n H).contains x
theorem pc4_ok : pall pc4 = true := by decide +kernel
def pc5 (n H : Nat) : Bool := (List.range (pN n H)).all fun j => (List.range (pN n H)).all fun k => plx (pv (pm n H j)) (pv (pm n H k)) (H - 1) 0 == decide (j < k)
theorem pc5_ok : pall pc5 = true := by decide +kernel
def pc6 : Bool := (List.range 256).all fun x => (List.range 8).all fun p => (p == 0) || (!(decide (x / 2 ^ p % 2 = 1)) || decide (pv x (pc x p) = p))
theorem pc6_ok : pc6 = true := by decide +kernel
theorem p_bit1 : ((List.range 256).all fun x => (List.range 8).all fun p => decide (((nI x >>> (nI p &&& 31)) &&& 1) = nI (x / 2 ^ p % 2))) = true := by decide +kernel
theorem p_bit2 : ((List.range 256).all fun x => decide ((nI x &&& 1) = nI (x % 2))) = true := by decide +kernel
theorem p_bit3 : ((List.range 9).all fun n => decide (((1 : Int32) <<< (nI n &&& 31)) = nI (2 ^ n))) = true := by decide +kernel
theorem p_bit {x p : Nat} (hx : x < 256) (hp : p < 8) : ((nI x >>> (nI p &&& 31)) &&& 1) = nI (x / 2 ^ p % 2) := of_decide_eq_true (List.all_eq_true.mp (List.all_eq_true.mp p_bit1 x (List.mem_range.mpr hx)) p (List.mem_range.mpr hp))
theorem p_odd {x : Nat} (hx : x < 256) : (nI x &&& 1) = nI (x % 2) := of_decide_eq_true (List.all_eq_true.mp p_bit2 x (List.mem_range.mpr hx))
theorem p_shl {n : Nat} (hn : n ≤ 8) : ((1 : Int32) <<< (nI n &&& 31)) = nI (2 ^ n) := of_decide_eq_true (List.all_eq_true.mp p_bit3 n (List.mem_range.mpr (by omega)))
theorem pv_pc {x p : Nat} (hx : x < 256) (hp : p < 8) (h0 : p ≠ 0) (hb : x / 2 ^ p % 2 = 1) : pv x (pc x p) = p := by
  have e := List.all_eq_true.mp (List.all_eq_true.mp pc6_ok x (List.mem_range.mpr hx)) p (List.mem_range.mpr hp)
  rw [decide_eq_true hb] at e
  have h1 : (p == 0) = false := by rw [beq_eq_false_iff_ne]; exact h0
  rw [h1] at e
  exact of_decide_eq_true e
theorem pN_ok {n H : Nat} (n8 : n ≤ 8) (H1 : 1 ≤ H) (H5 : H ≤ 5) (hn : H ≤ n) : 0 < pN n H ∧ pN n H ≤ 35 ∧ ∀ i, i < H - 1 → pv (pm n H 0) i = i + 1 := by
  have e := pall_at pc1_ok n8 H1 H5 hn
  unfold pc1 at e
  rw [Bool.and_eq_true, Bool.and_eq_true] at e
  exact ⟨of_decide_eq_true e.1, of_decide_eq_true e.2.1, fun i hi => of_decide_eq_true (List.all_eq_true.mp e.2.2 i (List.mem_range.mpr hi))⟩
theorem pm_ok {n H k : Nat} (n8 : n ≤ 8) (H1 : 1 ≤ H) (H5 : H ≤ 5) (hn : H ≤ n) (hk : k < pN n H) : pm n H k < 2 ^ n ∧ pm n H k % 2 = 0 ∧ pc (pm n H k) n = H - 1 ∧ ∀ i, i < H - 1 → 1 ≤ pv (pm n H k) i ∧ pv (pm n H k) i < n := by
  have e := List.all_eq_true.mp (pall_at pc2_ok n8 H1 H5 hn) k (List.mem_range.mpr hk)
  rw [Bool.and_eq_true, Bool.and_eq_true, Bool.and_eq_true] at e
  refine ⟨of_decide_eq_true e.1, of_decide_eq_true e.2.1, of_decide_eq_true e.2.2.1, fun i hi => ?_⟩
  have e2 := List.all_eq_true.mp e.2.2.2 i (List.mem_range.mpr hi)
  rw [Bool.and_eq_true] at e2
  exact ⟨of_decide_eq_true e2.1, of_decide_eq_true e2.2⟩
theorem pmv_none {n H k : Nat} (n8 : n ≤ 8) (H1 : 1 ≤ H) (H5 : H ≤ 5) (hn : H ≤ n) (hk : k < pN n H) (h : pmv (pv (pm n H k)) n H (H - 1) = none) : k + 1 = pN n H := by
  have e := List.all_eq_true.mp (pall_at pc3_ok n8 H1 H5 hn) k (List.mem_range.mpr hk)
  rw [h] at e
  exact of_decide_eq_true e
theorem pmv_some {n H k h : Nat} (n8 : n ≤ 8) (H1 : 1 ≤ H) (H5 : H ≤ 5) (hn : H ≤ n) (hk : k < pN n H) (e1 : pmv (pv (pm n H k)) n H (H - 1) = some h) : h < H - 1 ∧ k + 1 < pN n H ∧ ∀ i, i < H - 1 → pmw (pv (pm n H k)) h i = pv (pm n H (k + 1)) i := by
  have e := List.all_eq_true.mp (pall_at pc3_ok n8 H1 H5 hn) k (List.mem_range.mpr hk)
  rw [e1] at e
  dsimp only at e
  rw [Bool.and_eq_true, Bool.and_eq_true] at e
  exact ⟨of_decide_eq_true e.1, of_decide_eq_true e.2.1, fun i hi => of_decide_eq_true (List.all_eq_true.mp e.2.2 i (List.mem_range.mpr hi))⟩
theorem pt_has {n H x : Nat} (n8 : n ≤ 8) (H1 : 1 ≤ H) (H5 : H ≤ 5) (hn : H ≤ n) (hx : x < 2 ^ n) (h0 : x % 2 = 0) (hc : pc x n = H - 1) : ∃ k, k < pN n H ∧ pm n H k = x := by
  have e := List.all_eq_true.mp (pall_at pc4_ok n8 H1 H5 hn) x (List.mem_range.mpr hx)
  rw [decide_eq_true (show x % 2 = 0 ∧ pc x n = H - 1 from ⟨h0, hc⟩)] at e
  have m : x ∈ pt n H := List.contains_iff_mem.mp e
  obtain ⟨k, hk, e2⟩ := List.mem_iff_getElem.mp m
  refine ⟨k, hk, ?_⟩
  unfold pm
  rw [List.getD_eq_getElem?_getD, List.getElem?_eq_getElem hk, e2]
  rfl
theorem plx_ok {n H j k : Nat} (n8 : n ≤ 8) (H1 : 1 ≤ H) (H5 : H ≤ 5) (hn : H ≤ n) (hj : j < pN n H) (hk : k < pN n H) : plx (pv (pm n H j)) (pv (pm n H k)) (H - 1) 0 = decide (j < k) := by
  have e := List.all_eq_true.mp (List.all_eq_true.mp (pall_at pc5_ok n8 H1 H5 hn) j (List.mem_range.mpr hj)) k (List.mem_range.mpr hk)
  exact beq_iff_eq.mp e
theorem xt_moveEnds {k n H : Nat} {e : Nat → Nat} {M : zMem} {Q : Int32 → zMem → Prop} (hn : M k 0 = nI n) (hH : M k 1 = nI H) (n8 : n ≤ 8) (H1 : 1 ≤ H) (H5 : H ≤ 5) (hHn : H ≤ n) (he : ∀ i, i < H - 1 → M (k + 4) i = nI (e i)) (hb : ∀ i, i < H - 1 → e i ≤ 8)
    (h0 : pmv e n H (H - 1) = none → Q 0 M) (h1 : ∀ h, h < H - 1 → pmv e n H (H - 1) = some h → ∀ M', (∀ i, i < H - 1 → M' (k + 4) i = nI (pmw e h i)) → (∀ i, H - 1 ≤ i → M' (k + 4) i = M (k + 4) i) → (∀ d, d ≠ k + 4 → M' d = M d) → Q 1 M') : wp_Told_moveEnds k M Q := by
  unfold wp_Told_moveEnds
  intro z ez
  have ez2 : z = nI (H - 1) - 1 := by
    rw [ez, hH]
    rcases Nat.eq_or_lt_of_le H1 with q | q
    · rw [← q]; rfl
    · rw [q_pred (by omega)]
      exact (q_sub (a := H) (b := 2) (by omega)).trans (congrArg nI (by omega))
  refine zlp1_r (fun f x M' => M' = M ∧ ∃ m, x = nI m - 1 ∧ m ≤ H - 1 ∧ f = m ∧ pmv e n H m = pmv e n H (H - 1)) ?_ (n := H - 1) ⟨rfl, H - 1, ez2, Nat.le_refl _, rfl, rfl⟩
  rintro f x M' ⟨rfl, m, rfl, hm, rfl, ep⟩ J hJ
  unfold wpB_Told_moveEnds_7
  rcases Nat.eq_zero_or_pos f with q | q
  · subst q
    refine ⟨fun _ => h0 ep.symm, fun c => absurd (by decide) c⟩
  · obtain ⟨g, rfl⟩ : ∃ g, f = g + 1 := ⟨f - 1, by omega⟩
    rw [nI_pred]
    refine ⟨fun c => absurd c (nI_pos (by omega)), fun _ y ey => ?_⟩
    rw [hn, hH, q_pred (by omega), q_sub (by omega), q_sub (by omega)] at ey
    rw [q_ix (by omega), he g (by omega), ey]
    have hbg := hb g (by omega)
    have e2 : pmv e n H (g + 1) = if e g < n - (H - 1 - g) then some g else pmv e n H g := rfl
    rw [e2] at ep
    refine ⟨vp_in_nI (by omega) (by omega), fun c y2 ey2 => ?_, fun c => ?_⟩
    · have := (nI_leI (by omega) (by omega)).mp c
      rw [if_neg (by omega)] at ep
      rw [ey2, ← Int32.sub_eq_add_neg]
      exact hJ g _ _ (by omega) ⟨rfl, g, rfl, by omega, rfl, ep⟩
    · have hlt : e g < n - (H - 1 - g) := (nI_ltI (by omega) (by omega)).mp (Int32.not_le.mp c)
      rw [if_pos hlt] at ep
      dsimp only
      rw [q_ix (by omega), he g (by omega), nI_1, nI_1]
      refine ⟨vp_in_nI (by omega) (by omega), vp_in_nI (by omega) (by omega), fun M6 e6 y3 ey3 => ?_⟩
      subst ey3
      refine zlp1_r (fun f x M2 => ∃ i, x = nI i ∧ g + 1 ≤ i ∧ i ≤ H - 1 ∧ f = H - 1 - i ∧ (∀ j, j < i → M2 (k + 4) j = nI (pmw e g j)) ∧ (∀ j, i ≤ j → M2 (k + 4) j = M' (k + 4) j) ∧ (∀ d, d ≠ k + 4 → M2 d = M' d)) ?_ (n := H - 1 - (g + 1)) ⟨g + 1, rfl, Nat.le_refl _, by omega, rfl, fun j hj => ?_, fun j hj => ?_, fun d hd => ?_⟩
      · rintro f x M2 ⟨i, rfl, i1, i2, rfl, i3, i4, i5⟩ J2 hJ2
        unfold wpB_Told_moveEnds_49
        rw [i5 k (by omega), hH, q_pred (by omega)]
        refine ⟨fun c2 => ?_, fun c2 => ?_⟩
        · have := (nI_leI (by omega) (by omega)).mp c2
          have ei : i = H - 1 := by omega
          subst ei
          exact h1 g (by omega) ep.symm M2 i3 i4 i5
        · have hi : i < H - 1 := (nI_ltI (by omega) (by omega)).mp (Int32.not_le.mp c2)
          rw [q_pred (by omega), q_ix (by omega), q_ix (by omega), i3 (i - 1) (by omega), nI_1, nI_1]
          refine ⟨vp_in_nI (by omega) (by omega), vp_in_nI (by omega) (by omega), fun M3 e3 y4 ey4 => ?_⟩
          rw [ey4]
          refine hJ2 (H - 1 - (i + 1)) _ _ (by omega) ⟨i + 1, rfl, by omega, by omega, rfl, fun j hj => ?_, fun j hj => ?_, fun d hd => ?_⟩
          · rw [e3, zup_eq]
            by_cases z : j = i
            · rw [z, upd_eq]
              refine congrArg nI ?_
              unfold pmw
              rw [if_neg (by omega), if_neg (by omega)]
              omega
            · rw [upd_ne z]; exact i3 j (by omega)
          · rw [e3, zup_eq, upd_ne (by omega)]; exact i4 j (by omega)
          · rw [e3, zup_ne hd]; exact i5 d hd
      · rw [e6, zup_eq]
        by_cases z : j = g
        · rw [z, upd_eq]
          refine congrArg nI ?_
          unfold pmw
          rw [if_neg (by omega)]
          omega
        · rw [upd_ne z, he j (by omega)]
          refine congrArg nI ?_
          unfold pmw
          rw [if_pos (by omega)]
      · rw [e6, zup_eq, upd_ne (by omega)]
      · rw [e6, zup_ne hd]
/-- no more than -/
def pL (a b : Option (Nat × Nat × Nat × Nat)) : Prop := ro_top a * ro_bot b ≤ ro_top b * ro_bot a
theorem pL_total (a b : Option (Nat × Nat × Nat × Nat)) : pL a b ∨ pL b a := Nat.le_total _ _
theorem pL_tr4 {a b c d e f : Nat} (hd : 0 < d) (h1 : a * d ≤ c * b) (h2 : c * f ≤ e * d) : a * f ≤ e * b := by
  have q1 : a * d * f ≤ c * b * f := Nat.mul_le_mul h1 (Nat.le_refl _)
  have q2 : c * f * b ≤ e * d * b := Nat.mul_le_mul h2 (Nat.le_refl _)
  have q3 : a * f * d ≤ e * b * d := by
    rw [Nat.mul_right_comm a f d, Nat.mul_right_comm e b d]
    refine Nat.le_trans q1 ?_
    rw [Nat.mul_right_comm c b f]
    exact q2
  exact Nat.le_of_mul_le_mul_right q3 hd
theorem pL.tr {a b c : Option (Nat × Nat × Nat × Nat)} (hb : sp_rok b) (h1 : pL a b) (h2 : pL b c) : pL a c := pL_tr4 (ro_tb hb).2.1 h1 h2
/-- the best of a set: the most, and the first of those -/
def pbest (o : Nat → Option (Nat × Nat × Nat × Nat)) (S : Nat → Prop) (b : Nat) : Prop := S b ∧ ∀ j, S j → pL (o j) (o b) ∧ (j < b → ¬ pL (o b) (o j))
theorem pbest.uniq {o : Nat → Option (Nat × Nat × Nat × Nat)} {S : Nat → Prop} {b c : Nat} (h1 : pbest o S b) (h2 : pbest o S c) : b = c := by
  rcases Nat.lt_trichotomy b c with z | z | z
  · exact absurd (h1.2 c h2.1).1 ((h2.2 b h1.1).2 z)
  · exact z
  · exact absurd (h2.2 b h1.1).1 ((h1.2 c h2.1).2 z)
theorem pbest.up {o : Nat → Option (Nat × Nat × Nat × Nat)} {S : Nat → Prop} {b x : Nat} (h : pbest o S b) (rk : ∀ j, (S j ∨ j = x) → sp_rok (o j)) (hx : ¬ pL (o x) (o b) ∨ (pL (o b) (o x) ∧ x < b)) : pbest o (fun j => S j ∨ j = x) x := by
  have hbx : pL (o b) (o x) := by
    rcases hx with q | q
    · rcases pL_total (o x) (o b) with z | z
      · exact absurd z q
      · exact z
    · exact q.1
  refine ⟨Or.inr rfl, fun j hj => ?_⟩
  rcases hj with hj | hj
  · obtain ⟨j1, j2⟩ := h.2 j hj
    refine ⟨j1.tr (rk b (Or.inl h.1)) hbx, fun jx q => ?_⟩
    rcases hx with z | ⟨z1, z2⟩
    · exact z (q.tr (rk j (Or.inl hj)) j1)
    · exact j2 (by omega) (z1.tr (rk x (Or.inr rfl)) q)
  · subst hj
    exact ⟨Nat.le_refl _, fun q => absurd q (Nat.lt_irrefl _)⟩
theorem pbest.keep {o : Nat → Option (Nat × Nat × Nat × Nat)} {S : Nat → Prop} {b x : Nat} (h : pbest o S b) (h1 : pL (o x) (o b)) (h2 : x < b → ¬ pL (o b) (o x)) : pbest o (fun j => S j ∨ j = x) b := by
  refine ⟨Or.inl h.1, fun j hj => ?_⟩
  rcases hj with hj | hj
  · exact h.2 j hj
  · subst hj; exact ⟨h1, h2⟩
theorem pbest.set {o o' : Nat → Option (Nat × Nat × Nat × Nat)} {S S' : Nat → Prop} {b : Nat} (h : pbest o S b) (e : ∀ j, S' j ↔ S j) (eo : ∀ j, S j → o' j = o j) : pbest o' S' b := by
  refine ⟨(e b).mpr h.1, fun j hj => ?_⟩
  have hj' := (e j).mp hj
  rw [eo j hj', eo b h.1]
  exact h.2 j hj'
theorem more_neg {T B : Nat} {M : zMem} {Q : Int32 → zMem → Prop} (hT : T ≤ 480000) (hB : B ≤ 480000) (h0 : 0 < B) (hQ : Q 1 M) : wp_Main_isMore (lN T) (lN B) ((-1 : Int32).toInt64) ((1 : Int32).toInt64) M Q := by
  unfold wp_Main_isMore
  have e1 : ((1 : Int32).toInt64) = lN 1 := by decide
  have e2 : ((-1 : Int32).toInt64) = -1 := by decide
  rw [e1, e2, lN_mul, ← Int64.neg_eq_neg_one_mul]
  have c : ¬ lg_cmp (lN (T * 1)) (-lN B) ≤ 0 := by
    rw [Int32.not_le, lg_cmp_0lt, Int64.lt_iff_toInt_lt, pk_lT (by omega)]
    have := Int64.toInt_neg_ofNat_of_le (n := B) (by omega)
    show (-Int64.ofNat B).toInt < _
    rw [this]
    omega
  exact ⟨fun q => absurd q c, fun _ => hQ⟩
/-- a ring of parts, by a bench that was run -/
def pgh (M : zMem) (n H L k : Nat) (o : Option (Nat × Nat × Nat × Nat)) : Prop := ∃ M0 Mc, sp_clear 45 M0 Mc ∧ sp_ok Mc 6 45 n H L ∧ (∀ j, j ≤ 6 → j ≠ 4 → Mc 6 j = M 1 j) ∧ Mc 6 4 = 2 ∧ (∀ j, j < 6 → Mc 7 j = M 2 j) ∧ (∀ j, j < 24 → Mc 8 j = M 3 j) ∧ (∀ j, j < 40 → Mc 9 j = M 4 j) ∧ (∀ i, i < H - 1 → Mc 10 i = nI (pv (pm n H k) i)) ∧ Mc 10 (H - 1) = nI n ∧ o = sp_ring 6 45 n H Mc ∧ sp_rok o
theorem pgh.rk {M : zMem} {n H L k : Nat} {o : Option (Nat × Nat × Nat × Nat)} (h : pgh M n H L k o) : sp_rok o := by
  obtain ⟨-, -, -, -, -, -, -, -, -, -, -, -, rk⟩ := h
  exact rk
theorem pgh.moved {M M' : zMem} {n H L k : Nat} {o : Option (Nat × Nat × Nat × Nat)} (h : pgh M n H L k o) (e : ∀ i, i ≤ 3 → M' (1 + i) = M (1 + i)) : pgh M' n H L k o := by
  have e1 : M' 1 = M 1 := e 0 (by omega)
  have e2 : M' 2 = M 2 := e 1 (by omega)
  have e3 : M' 3 = M 3 := e 2 (by omega)
  have e4 : M' 4 = M 4 := e 3 (by omega)
  unfold pgh at h ⊢
  rw [e1, e2, e3, e4]
  exact h
def pbk (M : zMem) (n H : Nat) (o : Nat → Option (Nat × Nat × Nat × Nat)) (b : Nat) : Prop := M 60 1 = nI (ro_top (o b)) ∧ M 60 2 = nI (ro_bot (o b)) ∧ ∀ i, i < H - 1 → M 61 i = nI (pv (pm n H b) i)
def cpk (M : zMem) (n H L : Nat) : Prop := ∃ o b, (∀ k, k < pN n H → pgh M n H L k (o k)) ∧ pbest o (fun k => k < pN n H) b ∧ pbk M n H o b
/-- parts that the class has kept are those of what is told now -/
def cp (M : zMem) (n H L : Nat) : Prop := M 60 0 = 0 ∨ cpk M n H L
def pfr (M M' : zMem) : Prop := ∀ k, (k < 6 ∨ (11 ≤ k ∧ k < 41) ∨ k = 54 ∨ (56 ≤ k ∧ k < 60) ∨ 62 ≤ k) → M' k = M k
theorem xt_takeFrom {M : zMem} {Q : zMem → Prop} (hQ : ∀ M', M' 60 0 = M 60 0 → M' 60 1 = M 55 6 → M' 60 2 = M 55 7 → (∀ i, i < 5 → M' 61 i = M 10 i) → (∀ k, k ≠ 60 → k ≠ 61 → M' k = M k) → Q M') : wp_Parts_takeFrom 60 6 55 M Q := by
  unfold wp_Parts_takeFrom
  intro M1 e1 M2 e2
  refine ⟨zcpok_nI (sp := 0) (dp := 0) (n := 5) (by omega) (by omega) (by omega) (by omega), fun M3 e3 => ?_⟩
  have k3 : ∀ k, k ≠ 61 → M3 k = M2 k := fun k hk => by rw [e3, zcopy_ne hk]
  have x1 : M1 55 7 = M 55 7 := by rw [e1, zup_ne (by omega)]
  rw [x1] at e2
  refine hQ M3 ?_ ?_ ?_ (fun i hi => ?_) (fun k a b => ?_)
  · rw [k3 60 (by omega), e2, zup_eq, upd_ne (by omega), e1, zup_eq, upd_ne (by omega)]
  · rw [k3 60 (by omega), e2, zup_eq, upd_ne (by omega), e1, zup_eq, upd_eq]
  · rw [k3 60 (by omega), e2, zup_eq, upd_eq]
  · rw [e3]
    refine (zcopy_in (M := M2) (k0 := 6 + 4) (k1 := 60 + 1) (sp := 0) (dp := 0) (n := 5) (j := i) (by omega) (by omega) (by omega) (by omega) (by omega)).trans ?_
    rw [e2, zup_ne (by omega), e1, zup_ne (by omega), Nat.sub_zero, Nat.zero_add]
  · rw [k3 k b, e2, zup_ne a, e1, zup_ne a]
theorem xt_ends1 {H : Nat} {M : zMem} {K : zMem → Prop} {Q : zMem → Prop} (hH : M 1 1 = nI H) (H1 : 1 ≤ H) (H5 : H ≤ 5) (hK : ∀ M', (∀ i, i < H - 1 → M' 10 i = nI (i + 1)) → (∀ i, H - 1 ≤ i → M' 10 i = M 10 i) → (∀ d, d ≠ 10 → M' d = M d) → K M') : ∃ n, zlp1 (wpB_Main_findParts_56 K Q) n 0 M := by
  refine zlp1_r (fun f x M' => ∃ i, x = nI i ∧ i ≤ H - 1 ∧ f = H - 1 - i ∧ (∀ j, j < i → M' 10 j = nI (j + 1)) ∧ (∀ j, i ≤ j → M' 10 j = M 10 j) ∧ (∀ d, d ≠ 10 → M' d = M d)) ?_ (n := H - 1) ⟨0, rfl, by omega, rfl, fun j hj => absurd hj (by omega), fun _ _ => rfl, fun _ _ => rfl⟩
  rintro f x M' ⟨i, rfl, hi, rfl, i1, i2, i3⟩ J hJ
  unfold wpB_Main_findParts_56
  rw [i3 1 (by omega), hH, q_pred (by omega)]
  refine ⟨fun c => ?_, fun c => ?_⟩
  · have := (nI_leI (by omega) (by omega)).mp c
    have ei : i = H - 1 := by omega
    subst ei
    exact hK M' i1 i2 i3
  · have hi2 : i < H - 1 := (nI_ltI (by omega) (by omega)).mp (Int32.not_le.mp c)
    refine ⟨vp_in_nI (by omega) (by omega), fun M7 e7 y ey => ?_⟩
    rw [q_ix (by omega), nI_1] at e7
    rw [ey, nI_1]
    refine hJ (H - 1 - (i + 1)) _ _ (by omega) ⟨i + 1, rfl, by omega, rfl, fun j hj => ?_, fun j hj => ?_, fun d hd => ?_⟩
    · rw [e7, zup_eq]
      by_cases z : j = i
      · rw [z, upd_eq]
      · rw [upd_ne z]; exact i1 j (by omega)
    · rw [e7, zup_eq, upd_ne (by omega)]; exact i2 j (by omega)
    · rw [e7, zup_ne hd]; exact i3 d hd
/-- the parts that are looked at now are told well -/
def pvt (M M1 : zMem) (n H k : Nat) : Prop := (∀ j, j ≤ 6 → j ≠ 4 → M1 6 j = M 1 j) ∧ M1 6 4 = 2 ∧ (∀ j, j < 6 → M1 7 j = M 2 j) ∧ (∀ j, j < 24 → M1 8 j = M 3 j) ∧ (∀ j, j < 40 → M1 9 j = M 4 j) ∧ (∀ i, i < H - 1 → M1 10 i = nI (pv (pm n H k) i)) ∧ M1 10 (H - 1) = nI n
theorem pvt.vt {M M1 : zMem} {n H L k : Nat} (vt : sp_vt M 1 n H L) (hHn : H ≤ n) (hk : k < pN n H) (h : pvt M M1 n H k) : sp_vt M1 6 n H L := by
  obtain ⟨⟨n1, n8, H1, H5, L1, L6⟩, hn, hH, hL, hw, hl, -, hwh, hrow, hun, hpf, hpa, -, -, -⟩ := vt
  obtain ⟨g6, g64, g7, g8, g9, g10, gl⟩ := h
  obtain ⟨-, -, -, pk⟩ := pm_ok n8 H1 H5 hHn hk
  refine ⟨⟨n1, n8, H1, H5, L1, L6⟩, by rw [g6 0 (by omega) (by omega)]; exact hn, by rw [g6 1 (by omega) (by omega)]; exact hH, by rw [g6 6 (by omega) (by omega)]; exact hL, by rw [g6 2 (by omega) (by omega)]; exact hw, by rw [g6 3 (by omega) (by omega)]; exact hl, ⟨2, by omega, g64⟩, by rw [g6 5 (by omega) (by omega)]; exact hwh, fun i hi => by rw [g7 i (by omega)]; exact hrow i hi, fun s p hs hp => by rw [g8 _ (by omega)]; exact hun s p hs hp, fun s hs => ?_, fun h p hh hp => by rw [g9 _ (by omega)]; exact hpa h p hh hp, fun h hh => ?_, gl, fun z => ?_⟩
  · rw [sp_pf_congr (f := fun i => M1 (6 + 2) (s * 8 + i)) (g := fun i => M (1 + 2) (s * 8 + i)) n 0 (fun i _ hi => g8 _ (by omega))]
    exact hpf s hs
  · by_cases c : h < H - 1
    · exact ⟨_, by have := (pk h c).2; omega, g10 h c⟩
    · have e : h = H - 1 := by omega
      rw [e]; exact ⟨n, Nat.le_refl _, gl⟩
  · rw [g64] at z; exact absurd z (by decide)
theorem xt_findParts {n H L : Nat} {M : zMem} {Q : zMem → Prop} (vt : sp_vt M 1 n H L) (hHn : H ≤ n) (h : cp M n H L) (hQ : ∀ M', cpk M' n H L → pfr M M' → Q M') : wp_Main_findParts M Q := by
  obtain ⟨⟨n1, n8, H1, H5, L1, L6⟩, hn, hH, -, -, -, -, -, -, -, -, -, -, hel, -⟩ := id vt
  obtain ⟨N0, N35, Nf⟩ := pN_ok n8 H1 H5 hHn
  unfold wp_Main_findParts
  refine ⟨fun c => ?_, fun c => ?_⟩
  rotate_left
  · rcases h with z | z
    · exact absurd z c
    · exact hQ M z (fun _ _ => rfl)
  intro M1 e1 M2 e2 M3 e3
  have k3 : ∀ k, k ≠ 60 → M3 k = M k := fun k hk => by rw [e3, zup_ne hk, e2, zup_ne hk, e1, zup_ne hk]
  have x0 : M3 60 0 = 1 := by rw [e3, zup_eq, upd_ne (by omega), e2, zup_eq, upd_ne (by omega), e1, zup_eq, upd_eq]
  have x1 : M3 60 1 = -1 := by rw [e3, zup_eq, upd_ne (by omega), e2, zup_eq, upd_eq]
  have x2 : M3 60 2 = 1 := by rw [e3, zup_eq, upd_eq]
  refine xt_copyFrom (by omega) (fun M4 d4 o4 => ?_)
  intro M5 e5
  have k5 : ∀ k, k ≠ 6 → M5 k = M4 k := fun k hk => by rw [e5, zup_ne hk]
  have t1 : ∀ k, k < 6 → M5 k = M k := fun k hk => by rw [k5 k (by omega), o4 k (by omega), k3 k (by omega)]
  refine xt_ends1 (by rw [t1 1 (by omega)]; exact hH) H1 H5 (fun M6 a1 a2 a3 => ?_)
  have fr6 : pfr M M6 := fun k hk => by rw [a3 k (by omega), k5 k (by omega), o4 k (by omega), k3 k (by omega)]
  have s60 : M6 60 = M3 60 := by rw [a3 60 (by omega), k5 60 (by omega), o4 60 (by omega)]
  have m1 : ∀ k, k ≠ 60 → M3 k = M k := k3
  have pv6 : pvt M M6 n H 0 := by
    refine ⟨fun j hj hj4 => ?_, ?_, fun j hj => ?_, fun j hj => ?_, fun j hj => ?_, fun i hi => ?_, ?_⟩
    · rw [a3 6 (by omega), e5, zup_eq, upd_ne hj4, d4.1 j hj, k3 1 (by omega)]
    · rw [a3 6 (by omega), e5, zup_eq, upd_eq]
    · rw [a3 7 (by omega), k5 7 (by omega)]; exact (d4.2.1 j hj).trans (by rw [k3 2 (by omega)])
    · rw [a3 8 (by omega), k5 8 (by omega)]; exact (d4.2.2.1 j hj).trans (by rw [k3 3 (by omega)])
    · rw [a3 9 (by omega), k5 9 (by omega)]; exact (d4.2.2.2.1 j hj).trans (by rw [k3 4 (by omega)])
    · rw [a1 i hi, Nf i hi]
    · rw [a2 _ (Nat.le_refl _), k5 10 (by omega)]
      exact (d4.2.2.2.2 _ (by omega)).trans (by rw [k3 5 (by omega)]; exact hel)
  refine zlp2_r (fun f x y M' => (f = 0 ∧ x = 0 ∧ Q M') ∨ (∃ k o b, y = nI k ∧ k < pN n H ∧ f = pN n H - k ∧ x = 1 ∧ pfr M M' ∧ M' 60 0 = 1 ∧ pvt M M' n H k ∧ (∀ j, j < k → pgh M n H L j (o j)) ∧ (k = 0 → M' 60 1 = -1 ∧ M' 60 2 = 1) ∧ (0 < k → pbest o (fun j => j < k) b ∧ pbk M' n H o b))) ?_ (n := pN n H) (Or.inr ⟨0, fun _ => none, 0, rfl, N0, by omega, rfl, fr6, by rw [s60]; exact x0, pv6, fun j hj => absurd hj (by omega), fun _ => by rw [s60]; exact ⟨x1, x2⟩, fun z => absurd z (by omega)⟩)
  rintro f x y M' (⟨rfl, rfl, hq⟩ | ⟨k, o, b, rfl, hk, rfl, rfl, fr, y0, pvk, gh, z0, zk⟩) J hJ
  · exact ⟨fun _ => hq, fun _ => ⟨fun _ => hq, fun z => absurd rfl z⟩⟩
  unfold wpB_Main_findParts_91
  have i1 : ¬ 1000000 ≤ nI k := by rw [Int32.not_le]; exact nI_lt (b := 1000000) (by omega) (by omega)
  refine ⟨fun q => absurd q i1, fun _ => ⟨fun q => absurd q (by decide), fun _ => ?_⟩⟩
  refine xt_settle (Or.inr rfl) (Or.inr rfl) (pvk.vt vt hHn hk) (fun M0 Mc M7 hc ok tc _ rk ro cf => ?_)
  obtain ⟨t6, t7⟩ := sp_ro_tb ro
  have gk : pgh M n H L k (sp_ring 6 45 n H Mc) := by
    obtain ⟨g6, g64, g7, g8, g9, g10, gl⟩ := pvk
    have c6 : Mc 6 = M' 6 := tc 0 (by omega)
    have c7 : Mc 7 = M' 7 := tc 1 (by omega)
    have c8 : Mc 8 = M' 8 := tc 2 (by omega)
    have c9 : Mc 9 = M' 9 := tc 3 (by omega)
    have c10 : Mc 10 = M' 10 := tc 4 (by omega)
    exact ⟨M0, Mc, hc, ok, by rw [c6]; exact g6, by rw [c6]; exact g64, by rw [c7]; exact g7, by rw [c8]; exact g8, by rw [c9]; exact g9, by rw [c10]; exact g10, by rw [c10]; exact gl, rfl, rk⟩
  generalize sp_ring 6 45 n H Mc = ok' at t6 t7 gk rk
  obtain ⟨r1, r2, r3, -⟩ := ro_tb rk
  have c60 : M7 60 = M' 60 := cf 60 (by omega) (by omega)
  have c61 : M7 61 = M' 61 := cf 61 (by omega) (by omega)
  have ct : ∀ k, 6 ≤ k → k < 11 → M7 k = M' k := fun k a b => cf k (by omega) (by omega)
  have fr7 : pfr M M7 := fun k hk => by rw [cf k (by omega) (by omega)]; exact fr k hk
  have gh' : ∀ j, j < k + 1 → pgh M n H L j (if j = k then ok' else o j) := fun j hj => by
    by_cases c : j = k
    · rw [if_pos c, c]; exact gk
    · rw [if_neg c]; exact gh j (by omega)
  -- behind the comparison: ends move on
  have tail : ∀ (M8 : zMem) (b' : Nat), (∀ k, k ≠ 60 → k ≠ 61 → M8 k = M7 k) → M8 60 0 = 1 → pbest (fun j => if j = k then ok' else o j) (fun j => j < k + 1) b' → pbk M8 n H (fun j => if j = k then ok' else o j) b' → wp_Told_moveEnds 6 M8 (fun zr15 zm14 => ∀ zx16 : Int32, zx16 = nI k + 1 → J zr15 zx16 zm14) := fun M8 b' k8 y8 pb pk => by
    have m8 : ∀ k, 6 ≤ k → k < 11 → M8 k = M' k := fun k a b => by rw [k8 k (by omega) (by omega)]; exact ct k a b
    have fr8 : pfr M M8 := fun k hk => by rw [k8 k (by omega) (by omega)]; exact fr7 k hk
    obtain ⟨g6, g64, g7, g8, g9, g10, gl⟩ := id pvk
    obtain ⟨-, -, -, pkk⟩ := pm_ok n8 H1 H5 hHn hk
    refine xt_moveEnds (n := n) (H := H) (e := pv (pm n H k)) (by rw [m8 6 (by omega) (by omega), g6 0 (by omega) (by omega)]; exact hn) (by rw [m8 6 (by omega) (by omega), g6 1 (by omega) (by omega)]; exact hH) n8 H1 H5 hHn (fun i hi => by rw [m8 10 (by omega) (by omega)]; exact g10 i hi) (fun i hi => by have := (pkk i hi).2; omega) (fun pn z ez => ?_) (fun h hh ps M9 b1 b2 b3 z ez => ?_)
    · have ek := pmv_none n8 H1 H5 hHn hk pn
      refine hJ 0 _ _ _ (by omega) (Or.inl ⟨rfl, rfl, hQ M8 ⟨_, b', fun j hj => (gh' j (by omega)).moved (fun i hi => fr8 _ (by omega)), pb.set (fun j => by rw [ek]) (fun _ _ => rfl), pk⟩ fr8⟩)
    · obtain ⟨-, q2, q3⟩ := pmv_some n8 H1 H5 hHn hk ps
      rw [ez, nI_1]
      have m9 : ∀ k, k ≠ 10 → M9 k = M8 k := fun k hk => b3 k hk
      refine hJ (pN n H - (k + 1)) _ _ _ (by omega) (Or.inr ⟨k + 1, _, b', rfl, q2, rfl, rfl, fun q hq => by rw [m9 q (by omega)]; exact fr8 q hq, by rw [m9 60 (by omega)]; exact y8, ⟨by rw [m9 6 (by omega), m8 6 (by omega) (by omega)]; exact g6, by rw [m9 6 (by omega), m8 6 (by omega) (by omega)]; exact g64, by rw [m9 7 (by omega), m8 7 (by omega) (by omega)]; exact g7, by rw [m9 8 (by omega), m8 8 (by omega) (by omega)]; exact g8, by rw [m9 9 (by omega), m8 9 (by omega) (by omega)]; exact g9, fun i hi => ?_, ?_⟩, gh', fun z => absurd z (by omega), fun _ => ⟨pb, by unfold pbk at pk ⊢; rw [m9 60 (by omega), m9 61 (by omega)]; exact pk⟩⟩)
      · refine (b1 i hi).trans ?_
        rw [q3 i hi]
      · refine (b2 _ (Nat.le_refl _)).trans ?_
        rw [m8 10 (by omega) (by omega)]; exact gl
  have take : pbest (fun j => if j = k then ok' else o j) (fun j => j < k + 1) k → wp_Parts_takeFrom 60 6 55 M7 (fun zm17 => wp_Told_moveEnds 6 zm17 (fun zr20 zm19 => ∀ zx21 : Int32, zx21 = nI k + 1 → J zr20 zx21 zm19)) := fun pb => by
    refine xt_takeFrom (fun M8 w0 w1 w2 w3 w4 => tail M8 k w4 ?_ pb ⟨?_, ?_, fun i hi => ?_⟩)
    · rw [w0, c60]; exact y0
    · rw [w1, t6]; simp only [↓reduceIte]
    · rw [w2, t7]; simp only [↓reduceIte]
    · rw [w3 i (by omega), ct 10 (by omega) (by omega)]; exact pvk.2.2.2.2.2.1 i hi
  rw [t6, t7, q_l64 (by omega), q_l64 (by omega), c60]
  rcases Nat.eq_zero_or_pos k with q | q
  · rw [(z0 q).1, (z0 q).2]
    refine more_neg (by omega) (by omega) r2 ⟨fun z => absurd z (by decide), fun _ => take ?_⟩
    refine ⟨by omega, fun j hj => ?_⟩
    have ej : j = k := by omega
    rw [ej]
    exact ⟨Nat.le_refl _, fun z => absurd z (Nat.lt_irrefl _)⟩
  · obtain ⟨pb, pk1, pk2, pk3⟩ := zk q
    have hb : b < k := pb.1
    obtain ⟨s1, s2, s3, -⟩ := ro_tb (gh b hb).rk
    have pb' : pbest (fun j => if j = k then ok' else o j) (fun j => j < k) b := pb.set (fun _ => Iff.rfl) (fun j hj => by rw [if_neg (by omega)])
    have st : ∀ j, j < k + 1 ↔ (j < k ∨ j = k) := fun j => by omega
    rw [pk1, pk2, q_l64 (by omega), q_l64 (by omega)]
    refine xt_more (by omega) (by omega) (by omega) (by omega) (fun c3 => ⟨fun z => absurd z (by decide), fun _ => take ?_⟩) (fun c3 => ⟨fun _ => tail M7 b (fun _ _ _ => rfl) (by rw [c60]; exact y0) ?_ ?_, fun z => absurd rfl z⟩)
    · refine (pb'.up (x := k) (fun j hj => (gh' j (by omega)).rk) (Or.inl ?_)).set st (fun _ _ => rfl)
      unfold pL
      simp only [↓reduceIte, show ¬ b = k by omega]
      omega
    · refine (pb'.keep (x := k) ?_ (fun z => absurd z (by omega))).set st (fun _ _ => rfl)
      unfold pL
      simp only [↓reduceIte, show ¬ b = k by omega]
      omega
    · refine ⟨?_, ?_, ?_⟩
      · rw [c60]; simp only [show ¬ b = k by omega, ↓reduceIte]; exact pk1
      · rw [c60]; simp only [show ¬ b = k by omega, ↓reduceIte]; exact pk2
      · rw [c61]; exact pk3
theorem pc_le {x : Nat} : ∀ p, pc x p ≤ p := by
  intro p
  induction p with
  | zero => exact Nat.le_refl _
  | succ p ih =>
    unfold pc
    have := so_m2 (x / 2 ^ p)
    split <;> omega
theorem pc_1 {x : Nat} : pc x 1 = 0 := rfl
theorem pc_s {x p : Nat} (h : p ≠ 0) : pc x (p + 1) = pc x p + x / 2 ^ p % 2 := by
  show pc x p + (if p = 0 then 0 else x / 2 ^ p % 2) = _
  rw [if_neg h]
theorem mt_cnt {a1 x2 : Int32} {n H x : Nat} {W : zMem} {K : Int32 → zMem → Prop} {Q : Int32 → zMem → Prop} (hx : x < 256) (n1 : 1 ≤ n) (n8 : n ≤ 8) (H1 : 1 ≤ H) (H5 : H ≤ 5) (hn : W 4 0 = nI n) (hH : W 0 18 = nI H)
    (hK : ∀ W', (pc x n ≤ H → ∀ j, j < pc x n → W' 9 j = nI (pv x j)) → (∀ d, d ≠ 9 → W' d = W d) → K (nI (pc x n)) W') : ∃ k, zlp2 (wpB_Model_parts_82 a1 x2 (nI x) K Q) k 0 1 W := by
  refine zlp2_r (fun f y z W' => ∃ p, z = nI p ∧ 1 ≤ p ∧ p ≤ n ∧ f = n - p ∧ y = nI (pc x p) ∧ (pc x p ≤ H → ∀ j, j < pc x p → W' 9 j = nI (pv x j)) ∧ (∀ d, d ≠ 9 → W' d = W d)) ?_ (n := n - 1) ⟨1, rfl, Nat.le_refl _, n1, rfl, rfl, fun _ j hj => absurd hj (by rw [pc_1]; omega), fun _ _ => rfl⟩
  rintro f y z W' ⟨p, rfl, p1, pn, rfl, rfl, i1, i2⟩ J hJ
  unfold wpB_Model_parts_82
  rw [show ix 0 = 0 from rfl, i2 4 (by omega), hn, i2 0 (by omega), hH]
  have hpl := pc_le (x := x) p
  refine ⟨vp_in_nI (n := 0) (by omega) (by omega), fun c => ?_, fun c => ?_⟩
  · have := (nI_leI (by omega) (by omega)).mp c
    have ep : p = n := by omega
    subst ep
    exact hK W' i1 i2
  have hp : p < n := (nI_ltI (by omega) (by omega)).mp (Int32.not_le.mp c)
  rw [p_bit hx (by omega)]
  have es := pc_s (x := x) (p := p) (by omega)
  refine ⟨fun c2 y2 e2 => ?_, fun c2 => ?_⟩
  · have b0 : x / 2 ^ p % 2 = 0 := by
      rcases so_m2 (x / 2 ^ p) with b | b
      · exact b
      · exact absurd (by rw [b]; rfl) c2
    rw [b0] at es
    rw [e2, nI_1]
    exact hJ (n - (p + 1)) _ _ _ (by omega) ⟨p + 1, rfl, by omega, by omega, rfl, by rw [es]; rfl, by rw [es]; exact i1, i2⟩
  · have b1 : x / 2 ^ p % 2 = 1 := by
      rcases so_m2 (x / 2 ^ p) with b | b
      · rw [b] at c2; exact absurd c2 (by decide)
      · exact b
    rw [b1] at es
    have ev := pv_pc hx (by omega : p < 8) (by omega) b1
    refine ⟨fun c3 => ⟨vp_in_nI (n := 0) (by omega) (by omega), fun W7 e7 y2 e2 y3 e3 => ?_⟩, fun c3 => ⟨?_, fun W7 e7 y2 e2 y3 e3 => ?_⟩⟩
    · have c4 := (nI_leI (by omega) (by omega)).mp c3
      rw [e2, e3, nI_1, nI_1]
      exact hJ (n - (p + 1)) _ _ _ (by omega) ⟨p + 1, rfl, by omega, by omega, rfl, by rw [es], fun q => absurd q (by rw [es]; omega), fun d hd => by rw [e7, zup_ne hd]; exact i2 d hd⟩
    · have c4 : pc x p < H := (nI_ltI (by omega) (by omega)).mp (Int32.not_le.mp c3)
      exact vp_in_nI (by omega) (by omega)
    · have c4 : pc x p < H := (nI_ltI (by omega) (by omega)).mp (Int32.not_le.mp c3)
      rw [q_ix (by omega)] at e7
      rw [e2, e3, nI_1, nI_1]
      refine hJ (n - (p + 1)) _ _ _ (by omega) ⟨p + 1, rfl, by omega, by omega, rfl, by rw [es], fun q j hj => ?_, fun d hd => by rw [e7, zup_ne hd]; exact i2 d hd⟩
      rw [es] at hj
      rw [e7, zup_eq]
      by_cases z : j = pc x p
      · rw [z, upd_eq, ev]
      · rw [upd_ne z]; exact i1 (by omega) j (by omega)
theorem mt_areLess {H : Nat} {e f : Nat → Nat} {W : zMem} {Q : Int32 → zMem → Prop} (hH : W 0 18 = nI H) (H1 : 1 ≤ H) (H5 : H ≤ 5) (h9 : ∀ i, i < H - 1 → W 9 i = nI (e i)) (h15 : ∀ i, i < H - 1 → W 15 i = nI (f i)) (he : ∀ i, i < H - 1 → e i < 9) (hf : ∀ i, i < H - 1 → f i < 9) (hl : W 9 (H - 1) = W 15 (H - 1))
    (ht : plx e f (H - 1) 0 = true → Q 1 W) (hn : plx e f (H - 1) 0 = false → Q 0 W) : wp_Model_areLess W Q := by
  unfold wp_Model_areLess
  generalize hg : plx e f (H - 1) 0 = g at ht hn
  refine zlp1_r (fun m x W' => W' = W ∧ ∃ h, x = nI h ∧ h ≤ H ∧ m = H - h ∧ plx e f (H - 1 - h) h = g) ?_ (n := H) ⟨rfl, 0, rfl, by omega, rfl, hg⟩
  rintro m x W' ⟨rfl, h, rfl, hh, rfl, ep⟩ J hJ
  unfold wpB_Model_areLess_2
  rw [hH, q_ix (by omega)]
  refine ⟨fun c => ?_, fun c => ?_⟩
  · have := (nI_leI (by omega) (by omega)).mp c
    rw [show H - 1 - h = 0 by omega] at ep
    exact hn ep.symm
  have hh2 : h < H := (nI_ltI (by omega) (by omega)).mp (Int32.not_le.mp c)
  refine ⟨vp_in_nI (by omega) (by omega), vp_in_nI (by omega) (by omega), ?_⟩
  by_cases c2 : h = H - 1
  · rw [c2, hl]
    refine ⟨fun _ y ey => ?_, fun q => absurd rfl q⟩
    rw [ey, nI_1]
    rw [show H - 1 - h = 0 by omega] at ep
    refine hJ 0 _ _ (by omega) ⟨rfl, H - 1 + 1, rfl, by omega, by omega, ?_⟩
    rw [show H - 1 - (H - 1 + 1) = 0 by omega]
    exact ep
  · have hh3 : h < H - 1 := by omega
    rw [show H - 1 - h = (H - 1 - (h + 1)) + 1 by omega] at ep
    unfold plx at ep
    rw [h9 h hh3, h15 h hh3]
    have h1 := he h hh3
    have h2 := hf h hh3
    refine ⟨fun q y ey => ?_, fun q => ?_⟩
    · have q' := (nI_eq (by omega) (by omega)).mp q
      rw [if_pos q'] at ep
      rw [ey, nI_1]
      exact hJ (H - (h + 1)) _ _ (by omega) ⟨rfl, h + 1, rfl, by omega, rfl, ep⟩
    · have q' : ¬ e h = f h := fun z => q (by rw [z])
      rw [if_neg q'] at ep
      dsimp only
      rw [q_ix (by omega), h9 h hh3, h15 h hh3]
      refine ⟨vp_in_nI (by omega) (by omega), vp_in_nI (by omega) (by omega), fun z => ?_, fun z => ?_⟩
      · have z' := (nI_leI (by omega) (by omega)).mp z
        rw [decide_eq_false (by omega)] at ep
        exact hn ep.symm
      · have z' := (nI_ltI (by omega) (by omega)).mp (Int32.not_le.mp z)
        rw [decide_eq_true z'] at ep
        exact ht ep.symm
theorem plx_self {e : Nat → Nat} : ∀ m h, plx e e m h = false := by
  intro m
  induction m with
  | zero => intro h; rfl
  | succ m ih => intro h; unfold plx; rw [if_pos rfl]; exact ih _
theorem pm_inj {n H j k : Nat} (n8 : n ≤ 8) (H1 : 1 ≤ H) (H5 : H ≤ 5) (hn : H ≤ n) (hj : j < pN n H) (hk : k < pN n H) (e : pm n H j = pm n H k) : j = k := by
  rcases Nat.lt_trichotomy j k with z | z | z
  · have := plx_ok n8 H1 H5 hn hj hk
    rw [e, plx_self, decide_eq_true z] at this
    exact absurd this (by decide)
  · exact z
  · have := plx_ok n8 H1 H5 hn hk hj
    rw [e, plx_self, decide_eq_true z] at this
    exact absurd this (by decide)
theorem mt_copyEnds {a1 x2 x3 : Int32} {W : zMem} {K : zMem → Prop} {Q : Int32 → zMem → Prop} (hK : ∀ W', (∀ i, i < 5 → W' 15 i = W 9 i) → (∀ d, d ≠ 15 → W' d = W d) → K W') : ∃ k, zlp1 (wpB_Model_parts_207 a1 x2 x3 K Q) k 0 W := by
  refine zlp1_r (fun m x W' => ∃ h, x = nI h ∧ h ≤ 5 ∧ m = 5 - h ∧ (∀ i, i < h → W' 15 i = W 9 i) ∧ (∀ d, d ≠ 15 → W' d = W d)) ?_ (n := 5) ⟨0, rfl, by omega, rfl, fun i hi => absurd hi (by omega), fun _ _ => rfl⟩
  rintro m x W' ⟨h, rfl, hh, rfl, i1, i2⟩ J hJ
  refine ⟨fun c => ?_, fun c => ?_⟩
  · have := (nI_leI (a := 5) (by omega) (by omega)).mp c
    have e : h = 5 := by omega
    subst e
    exact hK W' i1 i2
  · have hh2 : h < 5 := (nI_ltI (b := 5) (by omega) (by omega)).mp (Int32.not_le.mp c)
    rw [q_ix (by omega)]
    refine ⟨vp_in_nI (by omega) (by omega), vp_in_nI (by omega) (by omega), fun W2 e2 y ey => ?_⟩
    rw [ey, nI_1]
    refine hJ (5 - (h + 1)) _ _ (by omega) ⟨h + 1, rfl, by omega, rfl, fun i hi => ?_, fun d hd => by rw [e2, zup_ne hd]; exact i2 d hd⟩
    rw [e2, zup_eq]
    by_cases z : i = h
    · rw [z, upd_eq, i2 9 (by omega)]
    · rw [upd_ne z]; exact i1 i (by omega)
theorem mt_like {a b : Option (Nat × Nat × Nat × Nat)} {W : zMem} {Q : Int32 → zMem → Prop} (ha : sp_rok a) (hb : sp_rok b) (e31 : W 0 31 = nI (ro_c a)) (e32 : W 0 32 = nI (ro_t a)) (e33 : W 0 33 = nI (ro_c b)) (e34 : W 0 34 = nI (ro_t b)) (hab : pL a b) (h1 : pL b a → Q 1 W) (h0 : ¬ pL b a → Q 0 W) : wp_Model_isLike W Q := by
  obtain ⟨a1, a2, a3, -⟩ := ro_ok ha
  obtain ⟨b1, b2, b3, -⟩ := ro_ok hb
  unfold wp_Model_isLike
  rw [e31, e32, e33, e34, q_l64 (by omega), q_l64 (by omega), q_l64 (by omega), q_l64 (by omega), lN_mul, lN_mul]
  have c1 := ro_cross ha hb
  have c2 := ro_cross hb ha
  have m1 : ro_c a * ro_t b < 9223372036854775808 := mul_b (A := 480000) (B := 480000) (by omega) (by omega) (by decide)
  have m2 : ro_c b * ro_t a < 9223372036854775808 := mul_b (A := 480000) (B := 480000) (by omega) (by omega) (by decide)
  have key : lg_cmp (lN (ro_c a * ro_t b)) (lN (ro_c b * ro_t a)) = 0 ↔ ro_c a * ro_t b = ro_c b * ro_t a := by
    have l1 := lg_cmp_lt0 (lN (ro_c a * ro_t b)) (lN (ro_c b * ro_t a))
    have l2 := lg_cmp_0lt (lN (ro_c a * ro_t b)) (lN (ro_c b * ro_t a))
    rw [pk_lLT m1 m2] at l1
    rw [pk_lLT m2 m1] at l2
    generalize lg_cmp (lN (ro_c a * ro_t b)) (lN (ro_c b * ro_t a)) = g at l1 l2
    refine ⟨fun q => ?_, fun q => ?_⟩
    · subst q
      have n1 : ¬ ro_c a * ro_t b < ro_c b * ro_t a := by rw [← l1]; decide
      have n2 : ¬ ro_c b * ro_t a < ro_c a * ro_t b := by rw [← l2]; decide
      omega
    · have n1 : ¬ g < 0 := by rw [l1]; omega
      have n2 : ¬ 0 < g := by rw [l2]; omega
      exact Int32.le_antisymm (Int32.not_lt.mp n2) (Int32.not_lt.mp n1)
  have hab' : ¬ ro_c b * ro_t a < ro_c a * ro_t b := fun z => absurd hab (Nat.not_le.mpr (c1.mp z))
  refine ⟨fun q => h0 (fun z => q (key.mpr ?_)), fun q => h1 ?_⟩
  · have : ¬ ro_c a * ro_t b < ro_c b * ro_t a := fun y => absurd z (Nat.not_le.mpr (c2.mp y))
    omega
  · have q' := key.mp q
    unfold pL
    refine Nat.not_lt.mp (fun y => ?_)
    have := c2.mpr y
    omega
set_option maxHeartbeats 1000000 in
theorem mt_parts {a1 : Int32} {n H L b : Nat} {o : Nat → Option (Nat × Nat × Nat × Nat)} {M W : zMem} {K : zMem → Prop} {Q : Int32 → zMem → Prop} (vt : sp_vt M 1 n H L) (r : rt0 W M n H L) (hHn : H ≤ n) (gh : ∀ k, k < pN n H → pgh M n H L k (o k)) (pb : pbest o (fun k => k < pN n H) b)
    (hK : ∀ W', mfy W W' → W' 0 33 = nI (ro_c (o b)) → W' 0 34 = nI (ro_t (o b)) → (∀ i, i < H - 1 → W' 15 i = nI (pv (pm n H b) i)) → K W') : ∃ k, zlp2 (wpB_Model_parts_55 a1 K Q) k 0 0 W := by
  obtain ⟨⟨n1, n8, H1, H5, L1, L6⟩, hn, hH, -⟩ := id vt
  obtain ⟨N0, N35, Nf⟩ := pN_ok n8 H1 H5 hHn
  have h256 : 2 ^ n ≤ 256 := Nat.pow_le_pow_right (n := 2) (by omega) n8
  refine zlp2_r (fun f y z W' => ∃ x, z = nI x ∧ x ≤ 2 ^ n ∧ f = 2 ^ n - x ∧ mfy W W' ∧ ((y = 0 ∧ ∀ j, j < pN n H → ¬ pm n H j < x) ∨ (y = 1 ∧ ∃ c, pbest o (fun j => j < pN n H ∧ pm n H j < x) c ∧ W' 0 33 = nI (ro_c (o c)) ∧ W' 0 34 = nI (ro_t (o c)) ∧ (∀ i, i < H - 1 → W' 15 i = nI (pv (pm n H c) i)) ∧ W' 15 (H - 1) = nI n))) ?_ (n := 2 ^ n) ⟨0, rfl, Nat.zero_le _, rfl, mfy.rf, Or.inl ⟨rfl, fun j _ q => absurd q (by omega)⟩⟩
  rintro f y z W' ⟨x, rfl, hx, rfl, fy, st⟩ J hJ
  have w4 : W' 4 = W 4 := fy.1 4 (by omega) (by omega) (by omega) (by omega) (by omega) (by omega) (by omega) (by omega) (by omega) (by omega)
  have r' : rt0 W' M n H L := r.moved w4 (fun _ _ => rfl)
  unfold wpB_Model_parts_55
  rw [show ix 0 = 0 from rfl, r'.1, p_shl n8]
  refine ⟨vp_in_nI (n := 0) (by omega) (by omega), fun c => ?_, fun c => ?_⟩
  · have := (nI_leI (by omega) (by omega)).mp c
    have ex : x = 2 ^ n := by omega
    rw [ex] at st
    rcases st with ⟨-, q⟩ | ⟨-, c2, p1, p2, p3, p4, -⟩
    · exact absurd (pm_ok n8 H1 H5 hHn N0).1 (q 0 N0)
    · have e : c2 = b := (p1.set (S' := fun k => k < pN n H) (fun j => ⟨fun q => ⟨q, (pm_ok n8 H1 H5 hHn q).1⟩, fun q => q.1⟩) (fun _ _ => rfl)).uniq pb
      rw [e] at p2 p3 p4
      exact hK W' fy p2 p3 p4
  have hx2 : x < 2 ^ n := (nI_ltI (by omega) (by omega)).mp (Int32.not_le.mp c)
  refine mt_asNumbered vt r' (fun W1 m1 => ?_)
  obtain ⟨a18, a19, ah, a0, ak⟩ := id m1
  intro W2 e2
  have k2 : ∀ k, k ≠ 0 → W2 k = W1 k := fun k hk => by rw [e2, zup_ne hk]
  have x18 : W2 0 18 = nI H := by rw [e2, zup_eq, upd_ne (by omega)]; exact a18
  have x19 : W2 0 19 = 2 := by rw [e2, zup_eq, upd_eq]
  have y4 : W2 4 = W 4 := by rw [k2 4 (by omega), ak 4 (by omega) (by omega) (by omega), w4]
  refine mt_cnt (n := n) (H := H) (by omega) n1 n8 H1 H5 (by rw [y4]; exact r.1) x18 (fun W3 s1 s2 => ?_)
  have z18 : W3 0 18 = nI H := by rw [s2 0 (by omega)]; exact x18
  have z0 : ∀ j, j ≠ 18 → j ≠ 19 → W3 0 j = W' 0 j := fun j q1 q2 => by rw [s2 0 (by omega), e2, zup_eq, upd_ne q2, a0 j q1 q2]
  have z15 : W3 15 = W' 15 := by rw [s2 15 (by omega), k2 15 (by omega), ak 15 (by omega) (by omega) (by omega)]
  have z4 : W3 4 = W 4 := by rw [s2 4 (by omega)]; exact y4
  have f3 : mfy W' W3 := ⟨fun k q0 q6 q8 q9 _ _ _ _ _ _ => by rw [s2 k q9, k2 k q0, ak k q0 q8 q9], fun j _ => by rw [s2 6 (by omega), k2 6 (by omega), ak 6 (by omega) (by omega) (by omega)], fun j q1 q2 _ => z0 j q1 q2⟩
  have hpl := pc_le (x := x) n
  have skip : (∀ j, j < pN n H → pm n H j ≠ x) → ∀ zx : Int32, zx = nI x + 1 → J y zx W3 := fun ns zx ezx => by
    rw [ezx, nI_1]
    refine hJ (2 ^ n - (x + 1)) _ _ _ (by omega) ⟨x + 1, rfl, by omega, rfl, fy.tr f3, ?_⟩
    rcases st with ⟨q1, q2⟩ | ⟨q1, c2, p1, p2, p3, p4, p5⟩
    · exact Or.inl ⟨q1, fun j hj q => by have := q2 j hj; have := ns j hj; omega⟩
    · exact Or.inr ⟨q1, c2, p1.set (fun j => ⟨fun q => ⟨q.1, by have := ns j q.1; have := q.2; omega⟩, fun q => ⟨q.1, by have := q.2; omega⟩⟩) (fun _ _ => rfl), by rw [z0 33 (by omega) (by omega)]; exact p2, by rw [z0 34 (by omega) (by omega)]; exact p3, by rw [z15]; exact p4, by rw [z15]; exact p5⟩
  rw [z18, q_pred (by omega)]
  refine ⟨fun c2 => skip (fun j hj q => c2 ?_), fun c2 => ⟨fun c3 => skip (fun j hj q => c3 ?_), fun c3 => ?_⟩⟩
  · have := (pm_ok n8 H1 H5 hHn hj).2.2.1
    rw [q] at this
    rw [this]
  · have := (pm_ok n8 H1 H5 hHn hj).2.1
    rw [q] at this
    rw [p_odd (by omega), this]; rfl
  have hc : pc x n = H - 1 := (nI_eq (by omega) (by omega)).mp c2
  have h0 : x % 2 = 0 := by
    rw [p_odd (by omega)] at c3
    exact (nI_eq (a := x % 2) (b := 0) (by omega) (by omega)).mp c3
  obtain ⟨k, hk, ek⟩ := pt_has n8 H1 H5 hHn hx2 h0 hc
  have gk := gh k hk
  have rkk := gk.rk
  have pmk := (pm_ok n8 H1 H5 hHn hk).2.2.2
  refine ⟨vp_in_nI (n := 0) (by omega) (by omega), vp_in_nI (by omega) (by omega), fun W4 e4 => ?_⟩
  rw [q_ix (by omega), z4, r.1] at e4
  have v4 : ∀ d, d ≠ 9 → W4 d = W3 d := fun d hd => by rw [e4, zup_ne hd]
  have v9 : ∀ i, i < H - 1 → W4 9 i = nI (pv (pm n H k) i) := fun i hi => by
    rw [e4, zup_eq, upd_ne (by omega), s1 (by omega) i (by omega), ek]
  have v9l : W4 9 (H - 1) = nI n := by rw [e4, zup_eq, upd_eq]
  have f4 : mfy W' W4 := f3.tr ⟨fun k _ _ _ q9 _ _ _ _ _ _ => v4 k q9, fun j _ => by rw [v4 6 (by omega)], fun j _ _ _ => by rw [v4 0 (by omega)]⟩
  obtain ⟨M0, Mc, hcl, ok, g6, g64, g7, g8, g9, g10, gl, eo, -⟩ := id gk
  have rt : mr_t W4 Mc 6 n H L := by
    have v44 : W4 4 = W 4 := by rw [v4 4 (by omega)]; exact z4
    refine ⟨by rw [v44]; exact r.1, by rw [v4 0 (by omega)]; exact z18, by rw [v44, g6 2 (by omega) (by omega)]; exact r.2.2.1, by rw [v44, g6 3 (by omega) (by omega)]; exact r.2.2.2.1, by rw [v4 0 (by omega), s2 0 (by omega), g64]; exact x19, by rw [v44, g6 5 (by omega) (by omega)]; exact r.2.2.2.2.2.1, by rw [v44]; exact r.2.2.2.2.2.2.1, fun i hi => ?_, fun s p hs hp => ?_, fun h hh => ?_⟩
    · rw [v44]; exact (r.2.2.2.2.2.2.2.1 i hi).trans (g7 i (by omega)).symm
    · rw [v44]; exact (r.2.2.2.2.2.2.2.2.1 s p hs hp).trans (g8 _ (by omega)).symm
    · by_cases q : h < H - 1
      · rw [v9 h q]; exact (g10 h q).symm
      · have e : h = H - 1 := by omega
        rw [e, v9l]; exact gl.symm
  have rw0 : mw0 W4 Mc 6 n H (fun h => h) := by
    refine ⟨fun h hh => ⟨by show h < 5; omega, ?_⟩, fun h j _ _ e => e, fun h p hh hp => ?_⟩
    · rw [v4 8 (by omega), s2 8 (by omega), k2 8 (by omega)]; exact (ah h hh).1
    · rw [v4 4 (by omega), z4]; exact (r.2.2.2.2.2.2.2.2.2.1 h p hh hp).trans (g9 _ (by omega)).symm
  refine mt_hasRing hcl ok rt rw0 (fun q => absurd q (by omega)) (fun W5 _ fx _ _ e31 e32 => ?_)
  rw [← eo] at e31 e32
  have f5 : mfy W' W5 := f4.tr fx.y
  have u9 : W5 9 = W4 9 := fx.1 9 (by omega) (by omega) (by omega) (by omega) (by omega) (by omega) (by omega)
  have u15 : W5 15 = W' 15 := by rw [fx.1 15 (by omega) (by omega) (by omega) (by omega) (by omega) (by omega) (by omega), v4 15 (by omega), z15]
  have u33 : W5 0 33 = W' 0 33 := by rw [fx.2.2 33 (by omega), v4 0 (by omega), z0 33 (by omega) (by omega)]
  have u34 : W5 0 34 = W' 0 34 := by rw [fx.2.2 34 (by omega), v4 0 (by omega), z0 34 (by omega) (by omega)]
  have u18 : W5 0 18 = nI H := by rw [fx.2.2 18 (by omega), v4 0 (by omega)]; exact z18
  have st2 : ∀ j, (j < pN n H ∧ pm n H j < x + 1) ↔ ((j < pN n H ∧ pm n H j < x) ∨ j = k) := fun j => by
    refine ⟨fun q => ?_, fun q => ?_⟩
    · by_cases e : pm n H j = x
      · exact Or.inr (pm_inj n8 H1 H5 hHn q.1 hk (e.trans ek.symm))
      · exact Or.inl ⟨q.1, by have := q.2; omega⟩
    · rcases q with q | q
      · exact ⟨q.1, by have := q.2; omega⟩
      · rw [q, ek]; exact ⟨hk, by omega⟩
  have take : pbest o (fun j => j < pN n H ∧ pm n H j < x + 1) k → wp_Model_keepBest W5 (fun zm20 => ∃ n : Nat, zlp1 (wpB_Model_parts_207 a1 1 (nI x) (fun (zm24 : zMem) => ∀ zx25 : Int32, zx25 = nI x + 1 → J 1 zx25 zm24) Q) n 0 zm20) := fun pk => by
    unfold wp_Model_keepBest
    intro W6 e6 W7 e7
    have x32 : W6 0 32 = nI (ro_t (o k)) := by rw [e6, zup_eq, upd_ne (by omega)]; exact e32
    rw [x32] at e7
    rw [e31] at e6
    refine mt_copyEnds (fun W8 d1 d2 zx ezx => ?_)
    have t9 : W7 9 = W4 9 := by rw [e7, zup_ne (by omega), e6, zup_ne (by omega), u9]
    rw [ezx, nI_1]
    refine hJ (2 ^ n - (x + 1)) _ _ _ (by omega) ⟨x + 1, rfl, by omega, rfl, (fy.tr f5).tr ⟨fun q q0 _ _ _ _ _ _ _ _ q15 => by rw [d2 q q15, e7, zup_ne q0, e6, zup_ne q0], fun j _ => by rw [d2 6 (by omega), e7, zup_ne (by omega), e6, zup_ne (by omega)], fun j _ _ q3 => by rw [d2 0 (by omega), e7, zup_eq, upd_ne (by omega), e6, zup_eq, upd_ne (by omega)]⟩, Or.inr ⟨rfl, k, pk, ?_, ?_, fun i hi => ?_, ?_⟩⟩
    · rw [d2 0 (by omega), e7, zup_eq, upd_ne (by omega), e6, zup_eq, upd_eq]
    · rw [d2 0 (by omega), e7, zup_eq, upd_eq]
    · rw [d1 i (by omega), t9]; exact v9 i hi
    · rw [d1 _ (by omega), t9]; exact v9l
  rcases st with ⟨q1, q2⟩ | ⟨q1, c2, p1, p2, p3, p4, p5⟩
  · subst q1
    refine ⟨fun _ => take ?_, fun z => absurd rfl z⟩
    refine ⟨⟨hk, by omega⟩, fun j hj => ?_⟩
    have ej : j = k := by
      rcases (st2 j).mp hj with z | z
      · exact absurd z.2 (q2 j z.1)
      · exact z
    rw [ej]
    exact ⟨Nat.le_refl _, fun z => absurd z (Nat.lt_irrefl _)⟩
  · subst q1
    have gc := gh c2 p1.1.1
    have rkc := gc.rk
    obtain ⟨a1', a2', a3', -⟩ := ro_ok rkk
    obtain ⟨b1', b2', b3', -⟩ := ro_ok rkc
    have cr := ro_cross rkk rkc
    have rks : ∀ j, ((j < pN n H ∧ pm n H j < x) ∨ j = k) → sp_rok (o j) := fun j hj => by
      rcases hj with z | z
      · exact (gh j z.1).rk
      · rw [z]; exact rkk
    have stay : pL (o k) (o c2) → (k < c2 → ¬ pL (o c2) (o k)) → ∀ zx : Int32, zx = nI x + 1 → J 1 zx W5 := fun l1 l2 zx ezx => by
      rw [ezx, nI_1]
      exact hJ (2 ^ n - (x + 1)) _ _ _ (by omega) ⟨x + 1, rfl, by omega, rfl, fy.tr f5, Or.inr ⟨rfl, c2, (p1.keep l1 l2).set st2 (fun _ _ => rfl), by rw [u33]; exact p2, by rw [u34]; exact p3, by rw [u15]; exact p4, by rw [u15]; exact p5⟩⟩
    refine ⟨fun z => absurd z (by decide), fun _ => mt_more e31 e32 (u33.trans p2) (u34.trans p3) (by omega) (by omega) (by omega) (by omega) (fun c4 => ⟨fun _ => take ?_, fun z => absurd z (by decide)⟩) (fun c4 => ⟨fun z => absurd rfl z, fun _ => ?_⟩)⟩
    · exact (p1.up rks (Or.inl (Nat.not_le.mpr (cr.mp c4)))).set st2 (fun _ _ => rfl)
    · have lk : pL (o k) (o c2) := Nat.not_lt.mp (fun z => c4 (cr.mpr z))
      refine mt_like rkk rkc e31 e32 (u33.trans p2) (u34.trans p3) lk (fun lc => ⟨fun z => absurd z (by decide), fun _ => ?_⟩) (fun lc => ⟨fun _ => stay lk (fun _ => lc), fun z => absurd rfl z⟩)
      have pmc := (pm_ok n8 H1 H5 hHn p1.1.1).2.2.2
      have px := plx_ok n8 H1 H5 hHn hk p1.1.1
      refine mt_areLess (e := pv (pm n H k)) (f := pv (pm n H c2)) u18 H1 H5 (fun i hi => by rw [u9]; exact v9 i hi) (fun i hi => by rw [u15]; exact p4 i hi) (fun i hi => by have := (pmk i hi).2; omega) (fun i hi => by have := (pmc i hi).2; omega) (by rw [u9, u15, v9l, p5]) (fun z => ⟨fun q => absurd q (by decide), fun _ => take ?_⟩) (fun z => ⟨fun _ => stay lk (fun q => ?_), fun q => absurd rfl q⟩)
      · rw [px] at z
        exact (p1.up rks (Or.inr ⟨lc, of_decide_eq_true z⟩)).set st2 (fun _ _ => rfl)
      · rw [px, decide_eq_true q] at z
        exact absurd z (by decide)
/-- parts -/
theorem p_parts {n H L : Nat} {M W : zMem} {a : Int32} {P : zMem → zMem → Prop} (vt : sp_vt M 1 n H L) (r : rt0 W M n H L) (h : cp M n H L)
    (hP : ∀ M' W', pfr M M' → mfy W W' → cp M' n H L → P M' W') : wp_Main_parts a M (fun x M' => wp_Model_parts a W (fun y W' => x = y ∧ P M' W')) := by
  obtain ⟨⟨n1, n8, H1, H5, L1, L6⟩, hn, hH, -⟩ := id vt
  have p0 := hP M W (fun _ _ => rfl) mfy.rf h
  have e10 : ((10 : Int32) + nI H) - 1 = nI (9 + H) := by
    rw [show (10 : Int32) + nI H = nI (10 + H) from q_add 10 H, q_pred (by omega)]
    exact congrArg nI (by omega)
  have e8 : (8 : Int32) + nI H = nI (8 + H) := q_add 8 H
  have asks : (¬ a < 10 ∧ ¬ nI (9 + H) ≤ a) ↔ ∃ i, i < H - 1 ∧ a = nI (10 + i) := by
    refine ⟨fun ⟨q1, q2⟩ => ?_, fun ⟨i, q1, q2⟩ => ?_⟩
    · have q0 : ¬ a < 0 := fun z => q1 (Int32.lt_of_lt_of_le z (by decide))
      obtain ⟨j, hj, rfl⟩ := nI_of q0
      have h1 : ¬ j < 10 := fun z => q1 (nI_lt (b := 10) z (by omega))
      have h2 := (nI_ltI (by omega) (by omega)).mp (Int32.not_le.mp q2)
      exact ⟨j - 10, by omega, congrArg nI (by omega)⟩
    · subst q2
      exact ⟨nI_nlt (b := 10) (by omega) (by omega), by rw [Int32.not_le]; exact nI_lt (by omega) (by omega)⟩
  -- the reference, up to its question
  have ref : ∀ Q : Int32 → zMem → Prop, ((a = 0 ∨ a = 1) ∨ (∃ i, i < H - 1 ∧ a = nI (10 + i)) → wpJ_Model_parts_33 a Q W) → (¬ ((a = 0 ∨ a = 1) ∨ ∃ i, i < H - 1 ∧ a = nI (10 + i)) → Q (-1) W) → wp_Model_parts a W Q := fun Q q1 q2 => by
    refine mt_in (lo' := 0) (hi' := 1) (by decide) (by decide) (fun c1 c2 => ⟨fun _ => q1 (Or.inl (half_in.mp ⟨c1, c2⟩)), fun z => absurd z (by decide)⟩) (fun c => ⟨fun z => absurd rfl z, fun _ => ⟨vp_in_nI (n := 1) (by omega) (by omega), ?_⟩⟩)
    rw [show ix 1 = 1 from rfl, r.2.1, e8]
    have eq : (10 ≤ a ∧ a ≤ nI (8 + H)) ↔ ∃ i, i < H - 1 ∧ a = nI (10 + i) := by
      rw [← asks]
      refine ⟨fun ⟨z1, z2⟩ => ⟨Int32.not_lt.mpr z1, fun z3 => ?_⟩, fun ⟨z1, z2⟩ => ⟨Int32.not_lt.mp z1, ?_⟩⟩
      · exact absurd (Int32.le_trans z3 z2) (by rw [Int32.not_le]; exact nI_lt (by omega) (by omega))
      · obtain ⟨i, hi, ei⟩ := asks.mp ⟨z1, z2⟩
        have hle : 10 + i ≤ 8 + H := by omega
        have hlt : 8 + H < 2147483648 := by omega
        rw [ei]
        exact nI_le hle hlt
    refine mt_in (lo' := 10) (hi' := nI (8 + H)) (by decide) rfl (fun c1 c2 => ⟨fun _ => q1 (Or.inr (eq.mp ⟨c1, c2⟩)), fun z => absurd z (by decide)⟩) (fun c2 => ⟨fun z => absurd rfl z, fun _ => q2 (fun z => ?_)⟩)
    rcases z with z | z
    · exact c (half_in.mpr z)
    · exact c2 (eq.mpr z)
  have go : ∀ s : Int32, (s = 0 → a = 0 ∨ a = 1) → (¬ s = 0 → ∃ i, i < H - 1 ∧ a = nI (10 + i)) → wpJ_Main_parts_41 a (fun x M' => wp_Model_parts a W (fun y W' => x = y ∧ P M' W')) s M := fun s hs0 hs1 => by
    have hok : (a = 0 ∨ a = 1) ∨ ∃ i, i < H - 1 ∧ a = nI (10 + i) := by
      by_cases z : s = 0
      · exact Or.inl (hs0 z)
      · exact Or.inr (hs1 z)
    unfold wpJ_Main_parts_41
    rw [hH, hn]
    refine ⟨fun c => ?_, fun c => ?_⟩
    · have hHn : H ≤ n := (nI_leI (by omega) (by omega)).mp c
      refine xt_findParts vt hHn h (fun M' hk fr => ?_)
      obtain ⟨o, b, gh, pb, b1, b2, b3⟩ := id hk
      have rkb := (gh b pb.1).rk
      have fin : ∀ x : Int32, (¬ s = 0 → ∀ i, i < H - 1 → a = nI (10 + i) → x = nI (pv (pm n H b) i)) → (s = 0 → x = nI (if a = 0 then ro_top (o b) else ro_bot (o b))) → wp_Model_parts a W (fun y W' => x = y ∧ P M' W') := fun x hx1 hx0 => by
        refine ref _ (fun _ => ?_) (fun z => absurd hok z)
        unfold wpJ_Model_parts_33
        rw [show ix 1 = 1 from rfl, show ix 0 = 0 from rfl, r.1, r.2.1]
        refine ⟨vp_in_nI (n := 0) (by omega) (by omega), vp_in_nI (n := 1) (by omega) (by omega), fun _ => ?_, fun z => absurd c z⟩
        refine mt_parts vt r hHn (fun k hk => (gh k hk).moved (fun i hi => (fr _ (by omega)).symm)) pb (fun W' fy e33 e34 e15 => ?_)
        have p1 := hP M' W' fr fy (Or.inr hk)
        refine ⟨fun q => ?_, fun q => ?_⟩
        · have hs : ¬ s = 0 := fun z => by
            rcases hs0 z with y | y
            · rw [y] at q; exact absurd q (by decide)
            · rw [y] at q; exact absurd q (by decide)
          obtain ⟨i, hi, ea⟩ := hs1 hs
          have e : a - 10 = nI i := by
            rw [ea]
            exact (q_sub (a := 10 + i) (b := 10) (by omega)).trans (congrArg nI (by omega))
          rw [e, q_ix (by omega)]
          exact ⟨vp_in_nI (by omega) (by omega), (hx1 hs i hi ea).trans (e15 i hi).symm, p1⟩
        · have hs : s = 0 := by
            refine Classical.byContradiction (fun z => ?_)
            obtain ⟨i, hi, ea⟩ := hs1 z
            rw [ea] at q
            exact q (nI_le (a := 2) (by omega) (by omega))
          obtain ⟨k1, k2, k3, -⟩ := ro_ok rkb
          rw [e33, e34, q_l64 (by omega), q_l64 (by omega)]
          refine mt_lowest (by omega) (by omega) (ro_gcd rkb) ?_
          rw [lN_i]
          refine ⟨(hx0 hs).trans ?_, p1⟩
          by_cases ca : a = 0
          · rw [if_pos ca, if_pos ca]; rfl
          · rw [if_neg ca, if_neg ca]; rfl
      refine ⟨fun z => ⟨fun q => fin _ (fun z2 => absurd z z2) (fun _ => by rw [if_neg q]; exact b2), fun q => fin _ (fun z2 => absurd z z2) (fun _ => by rw [if_pos q]; exact b1)⟩, fun z => ?_⟩
      obtain ⟨i, hi, ea⟩ := hs1 z
      have e : a - 10 = nI i := by
        rw [ea]
        exact (q_sub (a := 10 + i) (b := 10) (by omega)).trans (congrArg nI (by omega))
      rw [e, q_ix (by omega)]
      refine ⟨vp_in_nI (by omega) (by omega), fin _ (fun _ j hj ej => ?_) (fun z2 => absurd z2 z)⟩
      have : 10 + i = 10 + j := (nI_eq (by omega) (by omega)).mp (ea.symm.trans ej)
      rw [show j = i by omega]; exact b3 i hi
    · refine ref _ (fun _ => ?_) (fun z => absurd hok z)
      unfold wpJ_Model_parts_33
      rw [show ix 1 = 1 from rfl, show ix 0 = 0 from rfl, r.1, r.2.1]
      exact ⟨vp_in_nI (n := 0) (by omega) (by omega), vp_in_nI (n := 1) (by omega) (by omega), fun z => absurd z c, fun _ => ⟨rfl, p0⟩⟩
  have ask : ∀ s : Int32, (s = 0 → ¬ ∃ i, i < H - 1 ∧ a = nI (10 + i)) → (¬ s = 0 → ∃ i, i < H - 1 ∧ a = nI (10 + i)) → wpJ_Main_parts_27 a (fun x M' => wp_Model_parts a W (fun y W' => x = y ∧ P M' W')) s M := fun s hs0 hs1 => by
    unfold wpJ_Main_parts_27
    refine xt_half (fun ca => ⟨fun _ => go s (fun _ => ca) hs1, fun z => absurd z (by decide)⟩) (fun ca => ⟨fun z => absurd rfl z, fun _ => ⟨fun z => go s (fun y => absurd y z) hs1, fun z => ref _ (fun q => ?_) (fun _ => ⟨rfl, p0⟩)⟩⟩)
    rcases q with q | q
    · exact absurd q ca
    · exact absurd q (hs0 z)
  unfold wp_Main_parts wpJ_Main_parts_26
  rw [hH, e10]
  refine ⟨fun c => ask 0 (fun _ q => (asks.mpr q).1 c) (fun z => absurd rfl z), fun c => ⟨fun c2 => ask 0 (fun _ q => (asks.mpr q).2 c2) (fun z => absurd rfl z), fun c2 => ask 1 (fun z => absurd z (by decide)) (fun _ => asks.mp ⟨c, c2⟩)⟩⟩
/-- worlds that grow -/
def zGo (w : zWd) (H0 : Heap) (M : zMem) (H : Heap) (locs : List Loc) : Prop := zP w M H ∧ va_S (zAb w) H0 H locs
def zwn (w : zWd) (sh : Nat → (Nat → Int32) → va_E) (n : Nat) : zWd := (w.1, w.2.1, sh, w.2.2.2.1, n)
/-- one cell as it is now, the others as they will be -/
def zsk (sh : Nat → (Nat → Int32) → va_E) (k : Nat) (E : va_E) : Nat → (Nat → Int32) → va_E := fun c => if c = k then fun _ => E else sh c
theorem zsk_eq {sh : Nat → (Nat → Int32) → va_E} {k : Nat} {E : va_E} {f : Nat → Int32} : zsk sh k E k f = E := by unfold zsk; rw [if_pos rfl]
theorem zsk_ne {sh : Nat → (Nat → Int32) → va_E} {k c : Nat} {E : va_E} (h : c ≠ k) : zsk sh k E c = sh c := by unfold zsk; rw [if_neg h]
theorem zwn_get {w : zWd} {sh : Nat → (Nat → Int32) → va_E} {n k : Nat} {M : zMem} (hk : k < n) : (zws (zwn w sh n) M)[k]? = some (w.2.2.2.1 + k, sh k (M k)) := zws_get (w := zwn w sh n) hk
theorem zws_len {w : zWd} {sh : Nat → (Nat → Int32) → va_E} {n : Nat} {M : zMem} : (zws (zwn w sh n) M).length = n := by simp [zws, zwn]
theorem zws_Db (w : zWd) (M : zMem) : va_D (zAb w) (zws w M) := ⟨(zws_D w M).1, fun k q h => by
  obtain ⟨j, -, e⟩ := (zws_D w M).2 k q h
  show w.2.2.2.1 ≤ q.1
  rw [e]
  exact Nat.le_add_right _ _⟩
theorem zws_cast {w : zWd} {sh sh' : Nat → (Nat → Int32) → va_E} {n : Nat} {M M' : zMem} (h : ∀ c, c < n → sh c (M c) = sh' c (M' c)) : zws (zwn w sh n) M = zws (zwn w sh' n) M' := by
  apply List.ext_getElem?
  intro i
  by_cases hi : i < n
  · rw [zwn_get hi, zwn_get hi, h i hi]
  · rw [List.getElem?_eq_none (by rw [zws_len]; omega), List.getElem?_eq_none (by rw [zws_len]; omega)]
theorem zGo_cast {w : zWd} {sh sh' : Nat → (Nat → Int32) → va_E} {n : Nat} {M M' : zMem} {H0 H : Heap} {locs : List Loc} (h : ∀ c, c < n → sh c (M c) = sh' c (M' c)) (hG : zGo (zwn w sh n) H0 M H locs) : zGo (zwn w sh' n) H0 M' H locs := by
  refine ⟨?_, hG.2⟩
  have := hG.1
  unfold zP at this ⊢
  rw [← zws_cast h]
  exact this
theorem zws_push {w : zWd} {sh : Nat → (Nat → Int32) → va_E} {n : Nat} {M : zMem} : zws (zwn w sh (n + 1)) M = zws (zwn w sh n) M ++ [(w.2.2.2.1 + n, sh n (M n))] := by
  apply List.ext_getElem?
  intro i
  by_cases hi : i < n
  · rw [zwn_get (by omega), List.getElem?_append_left (by rw [zws_len]; exact hi), zwn_get hi]
  · by_cases e : i = n
    · subst e
      rw [zwn_get (by omega), List.getElem?_append_right (by rw [zws_len]; omega), zws_len, Nat.sub_self]
      rfl
    · rw [List.getElem?_eq_none (by rw [zws_len]; omega), List.getElem?_eq_none (by rw [List.length_append, zws_len]; simp; omega)]
theorem zws_put {w : zWd} {sh : Nat → (Nat → Int32) → va_E} {n k : Nat} {M : zMem} {E : va_E} (hk : k < n) : (zws (zwn w sh n) M).set k (w.2.2.2.1 + k, E) = zws (zwn w (zsk sh k E) n) M := by
  apply List.ext_getElem?
  intro i
  by_cases hi : i < n
  · rw [zwn_get hi]
    by_cases e : i = k
    · subst e
      rw [List.getElem?_set_self (by rw [zws_len]; exact hi), zsk_eq]
    · rw [List.getElem?_set_ne (fun h => e h.symm), zwn_get hi, zsk_ne e]
  · rw [List.getElem?_eq_none (by rw [List.length_set, zws_len]; omega), List.getElem?_eq_none (by rw [zws_len]; omega)]
section ZG
variable {p : Program} {l : Launch} {e : Env} {R : Room} {s : State} {m : MethodId} {args : Array Value} {below : List Frame} {meth : Method} {c : Code} {H H0 : Heap} {locs : List Loc} {cells slots : Nat} {Q : State → Prop} {cc : ByteArray} {pc : Nat} {ls : Array Slot} {rest : List Value} {w : zWd} {M : zMem} {own : String} {sh : Nat → (Nat → Int32) → va_E} {n : Nat}
/-- no more cells than were paid for -/
theorem zub {g : JFrame} (kk : H.size ≤ s.heap.size + cells → W p l e R s m args below meth c H locs cells slots Q g) : W p l e R s m args below meth c H locs cells slots Q g := fun T hT X => kk (by
  have h := X.same.2.2.1
  rw [← hT]
  exact h) T hT X
theorem zlb (hP : zP (zwn w sh n) M H) (h0 : 0 < n) : w.2.2.2.1 + n ≤ H.size := by
  have := (hP (n - 1) _ (zwn_get (by omega))).lt
  dsimp only at this
  omega
/-- a new cell's address is the next one -/
theorem znext {E : va_E} {q : Nat} (hP : va_P w.1 vwCl (zws (zwn w sh n) M ++ [(q, E)]) H) (hD : va_D (zAb w) (zws (zwn w sh n) M ++ [(q, E)])) (hub : H.size ≤ w.2.2.2.1 + n + 1) : q = w.2.2.2.1 + n := by
  have hq : (zws (zwn w sh n) M ++ [(q, E)])[n]? = some (q, E) := by
    rw [List.getElem?_append_right (by rw [zws_len]; omega), zws_len, Nat.sub_self]; rfl
  have h1 := (hP n _ hq).lt
  have h2 : w.2.2.2.1 ≤ q := hD.2 n _ hq
  dsimp only at h1
  refine Classical.byContradiction (fun hne => ?_)
  have hj : q - w.2.2.2.1 < n := by omega
  have hg : (zws (zwn w sh n) M ++ [(q, E)])[q - w.2.2.2.1]? = some (w.2.2.2.1 + (q - w.2.2.2.1), sh (q - w.2.2.2.1) (M (q - w.2.2.2.1))) := by
    rw [List.getElem?_append_left (by rw [zws_len]; exact hj), zwn_get hj]
  have := hD.1 _ _ _ _ hg hq (by dsimp only; omega)
  omega
theorem zg_new {ci index N : Nat} {C : String} {T : u_T} {ty0 : Nat → FieldType} {fs : List Value} (X : zX w p s m args c cc own) (hG : zGo (zwn w sh n) H0 M H locs) (hH0 : w.2.2.2.1 ≤ H0.size) (hcs : s.heap.size + cells = w.2.2.2.1 + n) (hc : vwCl[ci]? = some (C, T, N)) (hin : ∀ u ∈ u_ws C T N, u ∈ zU) (hty : ∀ k, k < N → parseFieldDescriptor (T k).2.2.1 = some (ty0 k)) (hcl : Cond.classLink own index C ∈ zU) (hins : Cond.instantiable C N ∈ zU) (hini : Cond.initialized C ∈ zU) (hfs : ∀ j, j < N → defaultValue (ty0 j) = vp_V fs j) (hcells : cells + 1 ≤ R.cells) (hslots : slots + N ≤ R.slots) (hdg : decode cc pc = .ok (.new index, 3))
    (kk : ∀ H1 : Heap, zGo (zwn w (zsk sh n (.inr (ci, fs))) (n + 1)) H0 M H1 locs → W p l e R s m args below meth c H1 locs (cells + 1) (slots + N) Q (F0 m (pc + 3) ls (.ref (w.2.2.2.1 + n) :: rest))) : W p l e R s m args below meth c H locs cells slots Q (F0 m pc ls rest) := by
  obtain ⟨hx, hb, hown, hts, hK⟩ := X
  refine va_new (D := w.1) (ci := ci) (fs := fs) (C := C) (T := T) (N := N) hx hb hts hin ty0 hty hown (hts _ hcl) (hts _ hins) (hts _ hini) hK.1 hG.1 (zws_Db (zwn w sh n) M) hG.2 (fun q h => Nat.le_trans hH0 h) hc hfs hcells hslots hdg (fun q H1 hP hD hS => ?_)
  refine zub (fun hub => ?_)
  have e := znext (w := w) hP hD (by omega)
  subst e
  refine kk H1 ⟨?_, hS⟩
  unfold zP
  rw [zws_push, zsk_eq, zws_cast (sh := zsk sh n (.inr (ci, fs))) (sh' := sh) (M' := M) (fun c hc => by rw [zsk_ne (by omega)])]
  exact hP
theorem zg_newa {N t : Nat} {nn : Int32} {atype : ArrayType} {ty : FieldType} (X : zX w p s m args c cc own) (hG : zGo (zwn w sh n) H0 M H locs) (hH0 : w.2.2.2.1 ≤ H0.size) (hcs : s.heap.size + cells = w.2.2.2.1 + n) (harr : Cond.arrayClass (newarray.typeOf atype) ∈ zU) (hty : newarray.typeOf atype = ty) (ht : (ztys w)[t]? = some (w.2.1 t, ty)) (hra : ∀ cA, va_RA s cA ty = (s.vm.findClass ("[" ++ ty.toString) = some cA)) (ha : ∀ cA : ClassId, vp_cell cA (N, .inl fun _ => 0) = arrV cA N (fun _ => defaultValue ty)) (hn : ¬ nn < 0) (hN : nn.toNatClampNeg = N) (hbytes : N * componentBytes ty ≤ 536870912) (hsh : sh n (M n) = .inl (w.2.1 t, N, .inl fun _ => 0)) (hcells : cells + 1 ≤ R.cells) (hslots : slots + N ≤ R.slots) (hdg : decode cc pc = .ok (.newarray atype, 2))
    (kk : ∀ H1 : Heap, zGo (zwn w sh (n + 1)) H0 M H1 locs → W p l e R s m args below meth c H1 locs (cells + 1) (slots + N) Q (F0 m (pc + 2) ls (.ref (w.2.2.2.1 + n) :: rest))) : W p l e R s m args below meth c H locs cells slots Q (F0 m pc ls (.int nn :: rest)) := by
  obtain ⟨hx, hb, hown, hts, hK⟩ := X
  refine va_newa (D := w.1) (atype := atype) (a0 := (N, .inl fun _ => 0)) hx hb (hts _ harr) hty hK.1 hG.1 (zws_Db (zwn w sh n) M) hG.2 (fun q h => Nat.le_trans hH0 h) ha hn hN hbytes hcells hslots hdg (fun q cA H1 hK1 hP hD hS => ?_)
  refine zub (fun hub => ?_)
  have e := znext (w := w) hP hD (by omega)
  subst e
  have r1 := (hK1.2 (ztys w).length (cA, ty) (by rw [List.getElem?_append_right (Nat.le_refl _), Nat.sub_self]; rfl)).2
  have r2 := (hK.1.2 t _ ht).2
  rw [hra] at r1
  dsimp only at r2
  rw [hra] at r2
  have ec : cA = w.2.1 t := Option.some.inj (r1.symm.trans r2)
  subst ec
  refine kk H1 ⟨?_, hS⟩
  unfold zP
  rw [zws_push, hsh]
  exact hP
theorem zg_newq {N t index : Nat} {nn : Int32} {C : String} (X : zX w p s m args c cc own) (hG : zGo (zwn w sh n) H0 M H locs) (hH0 : w.2.2.2.1 ≤ H0.size) (hcs : s.heap.size + cells = w.2.2.2.1 + n) (hao : va_AO C s) (hcl : Cond.classLink own index C ∈ zU) (ht : (ztys w)[t]? = some (w.2.1 t, .object C)) (hn : ¬ nn < 0) (hN : nn.toNatClampNeg = N) (hbytes : N * 4 ≤ 536870912) (hcells : cells + 1 ≤ R.cells) (hslots : slots + N ≤ R.slots) (hdg : decode cc pc = .ok (.anewarray index, 3))
    (kk : ∀ H1 : Heap, zGo (zwn w (zsk sh n (.inl (w.2.1 t, N, .inr (.inr (.inr (.inr fun _ => none)))))) (n + 1)) H0 M H1 locs → W p l e R s m args below meth c H1 locs (cells + 1) (slots + N) Q (F0 m (pc + 3) ls (.ref (w.2.2.2.1 + n) :: rest))) : W p l e R s m args below meth c H locs cells slots Q (F0 m pc ls (.int nn :: rest)) := by
  obtain ⟨hx, hb, hown, hts, hK⟩ := X
  refine va_newq (D := w.1) hx hb hown (hts _ hcl) hao hK.1 hG.1 (zws_Db (zwn w sh n) M) hG.2 (fun q h => Nat.le_trans hH0 h) hn hN hbytes hcells hslots hdg (fun q cA H1 hK1 hP hD hS => ?_)
  refine zub (fun hub => ?_)
  have e := znext (w := w) hP hD (by omega)
  subst e
  obtain ⟨-, -, -, -, -, r1⟩ := (hK1.2 (ztys w).length (cA, .object C) (by rw [List.getElem?_append_right (Nat.le_refl _), Nat.sub_self]; rfl)).2
  obtain ⟨-, -, -, -, -, r2⟩ := (hK.1.2 t _ ht).2
  have ec : cA = w.2.1 t := Option.some.inj (r1.symm.trans r2)
  subst ec
  refine kk H1 ⟨?_, hS⟩
  unfold zP
  rw [zws_push, zsk_eq, zws_cast (sh := zsk sh n _) (sh' := sh) (M' := M) (fun c hc => by rw [zsk_ne (by omega)])]
  exact hP
theorem zg_putF {k ci index N : Nat} {C : String} {T : u_T} {ty0 : Nat → FieldType} {ty : FieldType} {fs : List Value} {v : Value} (X : zX w p s m args c cc own) (hmi : meth.name = "<init>") (hG : zGo (zwn w sh n) H0 M H locs) (hk : k < n) (hI : sh k (M k) = .inr (ci, fs)) (hc : vwCl[ci]? = some (C, T, N)) (hin : ∀ u ∈ u_ws C T N, u ∈ zU) (hty : ∀ k, k < N → parseFieldDescriptor (T k).2.2.1 = some (ty0 k)) (hnm : ∀ a, a < N → ∀ b, b < N → a ≠ b → (T a).2.1 ≠ (T b).2.1) (j : Nat) (hj : j < N) (hd1 : (T j).1 = C) (hd2 : (T j).1 = own) (hl : Cond.fieldLink own index C (T j).2.1 (T j).2.2.1 ∈ zU) (hfin : (T j).2.2.2 = true) (hty1 : ty0 j = ty) (hn : narrow ty v = v) (hfit : fits ty v = true) (hlen : fs.length = N) (hdg : decode cc pc = .ok (.putfield index, 3))
    (kk : ∀ (H1 : Heap) (locs1 : List Loc), zGo (zwn w (zsk sh k (.inr (ci, fs.set j v))) n) H0 M H1 locs1 → W p l e R s m args below meth c H1 locs1 cells slots Q (F0 m (pc + 3) ls rest)) : W p l e R s m args below meth c H locs cells slots Q (F0 m pc ls (v :: .ref (w.2.2.2.1 + k) :: rest)) := by
  obtain ⟨hx, hb, hown, hts, hK⟩ := X
  refine va_putF (D := w.1) (ci := ci) (v := v) (ty := ty) (C := C) (T := T) (N := N) (Ts := zU) hx hb hts hin ty0 hty hnm hown hK.1 hG.1 (zws_Db (zwn w sh n) M) hG.2 k (by rw [zwn_get hk, hI]) hc j hj (hts _ hl) (fun x h => by rw [hd1] at h; exact h) hfin hmi hd2 (by rw [hty j hj, hty1]) hn hfit (by rw [hlen]; exact hj) hdg (fun H1 locs1 hP _ hS => ?_)
  refine kk H1 locs1 ⟨?_, hS⟩
  rw [zws_put hk] at hP
  exact hP
theorem zg_put {k ci index N : Nat} {C : String} {T : u_T} {ty0 : Nat → FieldType} {ty : FieldType} {fs : List Value} {v : Value} (X : zX w p s m args c cc own) (hG : zGo (zwn w sh n) H0 M H locs) (hk : k < n) (hI : sh k (M k) = .inr (ci, fs)) (hc : vwCl[ci]? = some (C, T, N)) (hin : ∀ u ∈ u_ws C T N, u ∈ zU) (hty : ∀ k, k < N → parseFieldDescriptor (T k).2.2.1 = some (ty0 k)) (hnm : ∀ a, a < N → ∀ b, b < N → a ≠ b → (T a).2.1 ≠ (T b).2.1) (j : Nat) (hj : j < N) (hd1 : (T j).1 = C) (hl : Cond.fieldLink own index C (T j).2.1 (T j).2.2.1 ∈ zU) (hfin : (T j).2.2.2 = false) (hty1 : ty0 j = ty) (hn : narrow ty v = v) (hfit : fits ty v = true) (hlen : fs.length = N) (hdg : decode cc pc = .ok (.putfield index, 3))
    (kk : ∀ (H1 : Heap) (locs1 : List Loc), zGo (zwn w (zsk sh k (.inr (ci, fs.set j v))) n) H0 M H1 locs1 → W p l e R s m args below meth c H1 locs1 cells slots Q (F0 m (pc + 3) ls rest)) : W p l e R s m args below meth c H locs cells slots Q (F0 m pc ls (v :: .ref (w.2.2.2.1 + k) :: rest)) := by
  obtain ⟨hx, hb, hown, hts, hK⟩ := X
  refine va_put (D := w.1) (ci := ci) (v := v) (ty := ty) (C := C) (T := T) (N := N) (Ts := zU) hx hb hts hin ty0 hty hnm hown hK.1 hG.1 (zws_Db (zwn w sh n) M) hG.2 k (by rw [zwn_get hk, hI]) hc j hj (hts _ hl) (fun x h => by rw [hd1] at h; exact h) hfin (by rw [hty j hj, hty1]) hn hfit (by rw [hlen]; exact hj) hdg (fun H1 locs1 hP _ hS => ?_)
  refine kk H1 locs1 ⟨?_, hS⟩
  rw [zws_put hk] at hP
  exact hP
theorem zg_get {k ci index N : Nat} {C : String} {T : u_T} {fs : List Value} {v : Value} (X : zX w p s m args c cc own) (hG : zGo (zwn w sh n) H0 M H locs) (hk : k < n) (hI : sh k (M k) = .inr (ci, fs)) (hc : vwCl[ci]? = some (C, T, N)) (hin : ∀ u ∈ u_ws C T N, u ∈ zU) (j : Nat) (hj : j < N) (hd1 : (T j).1 = C) (hl : Cond.fieldLink own index C (T j).2.1 (T j).2.2.1 ∈ zU) (hv : fs[j]? = some v) (hdg : decode cc pc = .ok (.getfield index, 3))
    (kk : W p l e R s m args below meth c H locs cells slots Q (F0 m (pc + 3) ls (v :: rest))) : W p l e R s m args below meth c H locs cells slots Q (F0 m pc ls (.ref (w.2.2.2.1 + k) :: rest)) := by
  obtain ⟨hx, hb, hown, hts, hK⟩ := X
  exact va_get (D := w.1) (ci := ci) (v := v) (C := C) (T := T) (N := N) (Ts := zU) hx hb hts hin hown hK.1 hG.1 k (by rw [zwn_get hk, hI]) hc j hj (hts _ hl) (fun x h => by rw [hd1] at h; exact h) hv hdg kk
theorem zg_iast {k N : Nat} {f : Nat → Int32} {i x : Int32} (X : zX w p s m args c cc own) (hG : zGo (zwn w sh n) H0 M H locs) (hk : k < n) (hI : sh k (M k) = .inl (w.2.1 1, N, .inl f)) (hi : vp_in i N) (hdg : decode cc pc = .ok (.iastore, 1))
    (kk : ∀ (H1 : Heap) (locs1 : List Loc), zGo (zwn w (zsk sh k (.inl (w.2.1 1, N, .inl (upd f i.toNatClampNeg x)))) n) H0 M H1 locs1 → W p l e R s m args below meth c H1 locs1 cells slots Q (F0 m (pc + 1) ls rest)) : W p l e R s m args below meth c H locs cells slots Q (F0 m pc ls (.int x :: .int i :: .ref (w.2.2.2.1 + k) :: rest)) := by
  obtain ⟨hx, hb, hown, hts, hK⟩ := X
  refine va_iast (D := w.1) hx hb hK.1 hG.1 (zws_Db (zwn w sh n) M) hG.2 k 1 (by rw [zwn_get hk, hI]) rfl hi hdg (fun H1 locs1 hP _ hS => ?_)
  refine kk H1 locs1 ⟨?_, hS⟩
  rw [zws_put hk] at hP
  exact hP
theorem zg_astq {k N t qk ci : Nat} {r : vw_C} {vs : List Value} {f : Nat → Option Nat} {i : Int32} (X : zX w p s m args c cc own) (hG : zGo (zwn w sh n) H0 M H locs) (hk : k < n) (hI : sh k (M k) = .inl (w.2.1 t, N, .inr (.inr (.inr (.inr f))))) (ht : (ztys w)[t]? = some (w.2.1 t, .object r.1)) (hqk : qk < n) (hv : sh qk (M qk) = .inr (ci, vs)) (hc : vwCl[ci]? = some r) (hi : vp_in i N) (hdg : decode cc pc = .ok (.aastore, 1))
    (kk : ∀ (H1 : Heap) (locs1 : List Loc), zGo (zwn w (zsk sh k (.inl (w.2.1 t, N, .inr (.inr (.inr (.inr (va_up f i.toNatClampNeg (some (w.2.2.2.1 + qk))))))))) n) H0 M H1 locs1 → W p l e R s m args below meth c H1 locs1 cells slots Q (F0 m (pc + 1) ls rest)) : W p l e R s m args below meth c H locs cells slots Q (F0 m pc ls (.ref (w.2.2.2.1 + qk) :: .int i :: .ref (w.2.2.2.1 + k) :: rest)) := by
  obtain ⟨hx, hb, hown, hts, hK⟩ := X
  refine va_astq (D := w.1) hx hb hK.1 hG.1 (zws_Db (zwn w sh n) M) hG.2 k t qk ci (by rw [zwn_get hk, hI]) ht (by rw [zwn_get hqk, hv]) hc hi hdg (fun H1 locs1 hP _ hS => ?_)
  refine kk H1 locs1 ⟨?_, hS⟩
  rw [zws_put hk] at hP
  exact hP
end ZG
/-- contracts of constructors -/
def zKo (w : zWd) (s : State) : Prop := zK w s ∧ va_AO "HandToHand$Bench" s ∧ va_AO "HandToHand$Sheet" s
theorem zKo.warm {w : zWd} {s U : State} (h : zKo w s) (hV : s.WarmedH U.vm) (hk : zFr w s U.heap) : zKo w U := ⟨h.1.warm hV hk, h.2.1.moved hV.alike, h.2.2.moved hV.alike⟩
theorem zKo.same {w : zWd} {s U : State} (h : zKo w s) (hV : s.vm = U.vm) (hh : U.heap = s.heap) : zKo w U := ⟨h.1.same hV hh, h.2.1.moved (by rw [hV]; exact Vm.Alike.refl U.vm), h.2.2.moved (by rw [hV]; exact Vm.Alike.refl U.vm)⟩
def zPc (w : zWd) (av : List Value) (M : zMem) : Array Value → State → Prop := va_Pc av (fun U => U.heap.size = w.2.2.2.1 + w.2.2.2.2 ∧ zP w M U.heap ∧ zKo w U)
abbrev zRc (fr lo mc ms : Nat) : Room := { frames := fr, cells := mc, slots := ms, locals := lo }
abbrev zMc (l : Launch) (y : MethodName) (cc : ByteArray) (mL : Nat) (fr lo mc ms : Nat) (w : zWd) (av : List Value) (M : zMem) (w' : zWd) (post : zMem → Prop) : Prop :=
  Met l y (.code y cc mL none :: zU) (zRc fr lo mc ms) (zPc w av M) (va_Qv post (zB w') (zAb w)) mc ms (zAb w)
theorem zPc_blind (w : zWd) (av : List Value) (M : zMem) : FrameBlind (zPc w av M) := fun a U g mk q => by obtain ⟨q0, q1, qP, qK⟩ := q; exact ⟨q0, q1, qP, qK.same (U := U.calling g mk a) rfl rfl⟩
theorem zMetC {l : Launch} {y : MethodName} {cc : ByteArray} {mL fr lo mc ms : Nat} {w : zWd} {av : List Value} {M : zMem} {Qc : Array Value → State → Outcome → State → Prop} (hy : plainName y.cls = true) (hin : y.name = "<init>") (hlen : (lg_sl av).length ≤ mL)
    (body : ∀ (p : Program) (e : Env) (s : State) (m : MethodId) (below : List Frame) (meth : Method) (c : Code), zX w p s m av.toArray c cc y.cls → zKo w s → meth.name = "<init>" → meth.sig.returnType = none → meth.locks = false → c.maxLocals = mL → s.heap.size = w.2.2.2.1 + w.2.2.2.2 → zGo w s.heap M s.heap [] → ∀ ls : Array Slot, lv_has ls mL (lv_args 0 av) → W p l e (zRc fr lo mc ms) s m av.toArray below meth c s.heap [] 0 0 (MQ below Qc av.toArray s mc ms (zAb w)) (F0 m 0 ls [])) :
    Met l y (.code y cc mL none :: zU) (zRc fr lo mc ms) (zPc w av M) Qc mc ms (zAb w) := by
  refine Met.ofW (cc := cc) (maxL := mL) (ret := none) hy rfl ?_
  intro p e s m args below meth c s₁ B hml hv
  obtain ⟨rfl, hsz, hP, hK⟩ := hv
  have hts := atoms_spec (ws := .code y cc mL none :: zU) B.pre
  have hl := lv_entry av (n := mL) hlen
  have hnm : meth.name = "<init>" := (name_of_methodNamed B.named B.method).1.trans hin
  rw [lg_entry_eq]
  exact body p e s m below meth c ⟨B.exec, B.bytes, findClass_of_methodNamed B.named, fun u hu => hts u (List.mem_cons_of_mem _ hu), hK.1⟩ hK hnm B.returns B.notSynchronized hml hsz ⟨hP, va_S.rf⟩ _ hl
section ZH
variable {p : Program} {l : Launch} {e : Env} {R : Room} {s : State} {m : MethodId} {args : Array Value} {below : List Frame} {meth : Method} {c : Code} {H H0 : Heap} {locs : List Loc} {cells slots : Nat} {Q : State → Prop} {cc : ByteArray} {pc : Nat} {ls : Array Slot} {rest : List Value} {w : zWd} {M : zMem} {own : String} {sh : Nat → (Nat → Int32) → va_E} {n : Nat}
variable {y : MethodName} {b : ByteArray} {mL k na idx fr lo nL mc ms : Nat} {r : Option FieldType} {lv : List (Nat × Value)} {st As : List Value} {w' : zWd} {post : zMem → Prop}
theorem zFr.go (hF : s.heap.size ≤ H0.size ∧ zFr w s H0) (hS : va_S (zAb w) H0 H locs) : zFr w s H := fun a ha hn => (hS.2.1 a (Nat.lt_of_lt_of_le ha hF.1) hn).trans (hF.2 a ha hn)
theorem zPcS (hK : zKo w s) (hP : zP w M H) (hF : zFr w s H) (hsz : H.size = w.2.2.2.1 + w.2.2.2.2) : PreS s H (zPc w As M) As :=
  ⟨zPc_blind w _ M, fun U hU hV => ⟨rfl, by rw [hU]; exact hsz, by rw [hU]; exact hP, hK.warm hV (by rw [hU]; exact hF)⟩⟩
/-- a constructor is called -/
theorem zg_ctor (X : zX w p s m args c cc own) (hK : zKo w s) (hml : c.maxLocals = nL) (hl : lv_has ls nL lv) (hG : zGo (zwn w sh n) H0 M H locs) (h0 : 0 < n) (hcs : s.heap.size + cells = w.2.2.2.1 + n) (hlink : Cond.methodLink own idx y ∈ zU) (hinst : Cond.instanceMethod y ∈ zU) (hini : Cond.initialized y.cls ∈ zU) (hcode : Cond.code y b mL none ∈ zU) (hy : y.name = "<init>") (hd : y.cls ≠ "java/lang/invoke/MethodHandle" ∧ y.cls ≠ "java/lang/invoke/VarHandle" ∧ (parseMethodDescriptor y.desc).map (fun d => d.parameters.length) = some na)
    (hM : zMc l y b mL fr lo mc ms (zwn w sh n) (.ref (w.2.2.2.1 + k) :: As) M w' post) (hb' : w'.2.2.2.1 = w.2.2.2.1) (hn : As.length = na) (hR : fr + 1 ≤ R.frames ∧ 8 + (mL + 11) + lo ≤ R.locals) (hf : cells + mc ≤ R.cells ∧ slots + ms ≤ R.slots) (hst : st = As.reverse ++ .ref (w.2.2.2.1 + k) :: rest) (hcat : (rest.map fun v => v.category).sum ≤ 8) (hdg : decode cc pc = .ok (.invokespecial idx, 3))
    (kk : ∀ (M1 : zMem) (H1 : Heap) (locs1 : List Loc), post M1 → zGo w' H0 M1 H1 locs1 → W p l e R s m args below meth c H1 locs1 (cells + mc) (slots + ms) Q (F0 m (pc + 3) ls rest)) (hF0 : s.heap.size ≤ H0.size ∧ zFr w s H0 := by exact ⟨Nat.le_refl _, fun _ _ _ => rfl⟩) : W p l e R s m args below meth c H locs cells slots Q (F0 m pc ls st) := by
  refine zub (fun hub => ?_)
  have hlb := zlb hG.1 h0
  obtain ⟨hx, hb, hown, hts, hK0⟩ := X
  refine va_callv (va_runI (b := w.2.2.2.1 + k) (As := As) (rest := rest) ⟨hx, hb, hml, hown, hts⟩ hM (cwI na hts (zgood hcode) rfl rfl rfl (hts _ hini) (hts _ hlink) (hts _ hinst) hy hd hR) (zPcS (w := zwn w sh n) (As := .ref (w.2.2.2.1 + k) :: As) ⟨hK0, hK.2⟩ hG.1 (zFr.go (w := w) hF0 hG.2) (by show H.size = w.2.2.2.1 + n; omega)) rfl hn hl.1 hst (lv_room hcat) hdg hf) hG.2 (fun q _ h => h) (fun q h => h) (fun M1 t H1 locs1 ht _ hp hB _ _ hS => ?_)
  refine kk M1 H1 locs1 hp ⟨by rw [← ht]; exact hB, ?_⟩
  unfold zAb at hS ⊢
  rw [hb']
  exact hS
theorem zg_ctorN {host : String} (X : zX w p s m args c cc own) (hK : zKo w s) (hml : c.maxLocals = nL) (hl : lv_has ls nL lv) (hG : zGo (zwn w sh n) H0 M H locs) (h0 : 0 < n) (hcs : s.heap.size + cells = w.2.2.2.1 + n) (hlink : (own, idx, y, host) ∈ zN) (hinst : Cond.instanceMethod y ∈ zU) (hini : Cond.initialized y.cls ∈ zU) (hcode : Cond.code y b mL none ∈ zU) (hy : y.name = "<init>") (hd : y.cls ≠ "java/lang/invoke/MethodHandle" ∧ y.cls ≠ "java/lang/invoke/VarHandle" ∧ (parseMethodDescriptor y.desc).map (fun d => d.parameters.length) = some na)
    (hM : zMc l y b mL fr lo mc ms (zwn w sh n) (.ref (w.2.2.2.1 + k) :: As) M w' post) (hb' : w'.2.2.2.1 = w.2.2.2.1) (hn : As.length = na) (hR : fr + 1 ≤ R.frames ∧ 8 + (mL + 11) + lo ≤ R.locals) (hf : cells + mc ≤ R.cells ∧ slots + ms ≤ R.slots) (hst : st = As.reverse ++ .ref (w.2.2.2.1 + k) :: rest) (hcat : (rest.map fun v => v.category).sum ≤ 8) (hdg : decode cc pc = .ok (.invokespecial idx, 3))
    (kk : ∀ (M1 : zMem) (H1 : Heap) (locs1 : List Loc), post M1 → zGo w' H0 M1 H1 locs1 → W p l e R s m args below meth c H1 locs1 (cells + mc) (slots + ms) Q (F0 m (pc + 3) ls rest)) (hF0 : s.heap.size ≤ H0.size ∧ zFr w s H0 := by exact ⟨Nat.le_refl _, fun _ _ _ => rfl⟩) : W p l e R s m args below meth c H locs cells slots Q (F0 m pc ls st) := by
  refine zub (fun hub => ?_)
  have hlb := zlb hG.1 h0
  obtain ⟨hx, hb, hown, hts, hK0⟩ := X
  refine va_callv (va_runIN (b := w.2.2.2.1 + k) (As := As) (rest := rest) ⟨hx, hb, hml, hown, hts⟩ hM ⟨va_cnB na hts (zgood hcode) rfl rfl rfl (hK0.2.1 _ hlink) (hts _ hini) hd hR, hy, hts _ hinst⟩ (zPcS (w := zwn w sh n) (As := .ref (w.2.2.2.1 + k) :: As) ⟨hK0, hK.2⟩ hG.1 (zFr.go (w := w) hF0 hG.2) (by show H.size = w.2.2.2.1 + n; omega)) rfl hn hl.1 hst (lv_room hcat) hdg hf) hG.2 (fun q _ h => h) (fun q h => h) (fun M1 t H1 locs1 ht _ hp hB _ _ hS => ?_)
  refine kk M1 H1 locs1 hp ⟨by rw [← ht]; exact hB, ?_⟩
  unfold zAb at hS ⊢
  rw [hb']
  exact hS
/-- a method is called while the world still grows -/
theorem zg_callv {ci N : Nat} {C : String} {T : u_T} {fs : (Nat → Int32) → List Value} {nn fr' lo' : Nat} (X : zX w p s m args c cc own) (hml : c.maxLocals = nL) (hl : lv_has ls nL lv) (hG : zGo w H0 M H locs) (hI : zI_o w k ci fs) (hc : vwCl[ci]? = some (C, T, N)) (hC : zCV own idx C y b mL r nn)
    (hM : Met l y (.code y b mL r :: zU) (zRm fr' lo') (zPre w (.ref (zad w k) :: As) M) (va_Qv post (zB w) (zA w)) 0 0 (zA w)) (hn : As.length = nn) (hR : fr' + 1 ≤ R.frames ∧ 8 + (mL + 11) + lo' ≤ R.locals) (hf : cells ≤ R.cells ∧ slots ≤ R.slots) (hst : st = As.reverse ++ .ref (zad w k) :: rest) (hcat : (rest.map fun v => v.category).sum ≤ 8) (hdg : decode cc pc = .ok (.invokevirtual idx, 3))
    (kk : ∀ (M1 : zMem) (H1 : Heap) (locs1 : List Loc), post M1 → zGo w H0 M1 H1 locs1 → W p l e R s m args below meth c H1 locs1 cells slots Q (F0 m (pc + 3) ls rest)) (hF0 : s.heap.size ≤ H0.size ∧ zFr w s H0 := by exact ⟨Nat.le_refl _, fun _ _ _ => rfl⟩) : W p l e R s m args below meth c H locs cells slots Q (F0 m pc ls st) := by
  obtain ⟨hx, hb, hown, hts, hK⟩ := X
  refine va_callv (va_runV (As := As) (rest := rest) ⟨hx, hb, hml, hown, hts⟩ hM (cwV nn hts hC.1 rfl rfl rfl hC.2 hR) (zPreV hK hG.1 (zFr.go hF0 hG.2) hI hc) rfl hn hl.1 hst (lv_room hcat) hdg ⟨hf.1, hf.2⟩) hG.2 (fun q _ h => ?_) (fun q h => ?_) (fun M1 t H1 locs1 ht _ hp hB _ _ hS => ?_)
  · obtain ⟨j, -, e⟩ := h
    show w.2.2.2.1 ≤ q
    rw [e]; exact Nat.le_add_right _ _
  · obtain ⟨j, -, e⟩ := h
    show w.2.2.2.1 ≤ q
    rw [e]; exact Nat.le_add_right _ _
  · exact kk M1 H1 locs1 hp ⟨by rw [← ht]; exact hB, hS⟩
theorem zg_vret (X : zX w p s m args c cc own) (hr : meth.sig.returnType = none) (hlk : meth.locks = false) (hb' : w'.2.2.2.1 = w.2.2.2.1) (hG : zGo w' s.heap M H locs) (h : post M) (hdg : decode cc pc = .ok (.return_, 1)) : W p l e R s m args below meth c H locs cells slots (MQ below (va_Qv post (zB w') (zAb w)) args s cells slots (zAb w)) (F0 m pc ls []) := by
  obtain ⟨hx, hb, hown, hts, hK⟩ := X
  have hS : va_S (zAb w) s.heap H locs := by
    have := hG.2
    unfold zAb at this ⊢
    rw [hb'] at this
    exact this
  refine W.vret hx hb hr (fun t ht hV => ⟨⟨M, rfl, h, ?_⟩, hS.F ht⟩) hS.2.2 hdg hlk
  unfold zB
  rw [ht]
  exact hG.1
end ZH
/-- two shapes of one cell -/
def zEq (E E' : va_E) : Prop := E = E' ∨ ∃ (cA : ClassId) (N : Nat) (f g : Nat → Option Nat), E = .inl (cA, N, .inr (.inr (.inr (.inr f)))) ∧ E' = .inl (cA, N, .inr (.inr (.inr (.inr g)))) ∧ ∀ j, j < N → f j = g j
theorem zEq.at {D : va_G} {cl : List vw_C} {a : Nat} {E E' : va_E} {H : Heap} (h : zEq E E') (p : va_at D cl (a, E) H) : va_at D cl (a, E') H := by
  rcases h with rfl | ⟨cA, N, f, g, rfl, rfl, e⟩
  · exact p
  · have e1 : vp_cell cA (N, .inr (.inr (.inr (.inr f)))) = vp_cell cA (N, .inr (.inr (.inr (.inr g)))) := by
      rw [vp_cell_q, vp_cell_q]
      unfold arrV
      have : (fun j : Fin N => va_rf (f j.val)) = (fun j : Fin N => va_rf (g j.val)) := by
        funext j
        rw [e j.val j.isLt]
      rw [this]
    show H[a]? = some (vp_cell _ _)
    have p' : H[a]? = some (vp_cell cA (N, .inr (.inr (.inr (.inr f))))) := p
    rw [p', e1]
theorem zGo_castE {w : zWd} {sh sh' : Nat → (Nat → Int32) → va_E} {n : Nat} {M M' : zMem} {H0 H : Heap} {locs : List Loc} (h : ∀ c, c < n → zEq (sh c (M c)) (sh' c (M' c))) (hG : zGo (zwn w sh n) H0 M H locs) : zGo (zwn w sh' n) H0 M' H locs := by
  refine ⟨fun k q hq => ?_, hG.2⟩
  have hk : k < n := by
    have := (List.getElem?_eq_some_iff.mp hq).1
    rw [zws_len] at this
    exact this
  rw [zwn_get hk] at hq
  cases hq
  exact (h k hk).at (hG.1 k _ (zwn_get hk))
section ZO
variable {p : Program} {l : Launch} {e : Env} {R : Room} {s : State} {m : MethodId} {args : Array Value} {below : List Frame} {meth : Method} {c : Code} {H H0 : Heap} {locs : List Loc} {cells slots : Nat} {Q : State → Prop} {cc : ByteArray} {pc idx nL a : Nat} {ls : Array Slot} {rest : List Value} {w : zWd} {own : String} {lv : List (Nat × Value)}
theorem zg_obj (X : zX w p s m args c cc own) (hml : c.maxLocals = nL) (hl : lv_has ls nL lv) (hlink : Cond.methodLink own idx ⟨"java/lang/Object", "<init>", "()V"⟩ ∈ zU) (hinst : Cond.instanceMethod ⟨"java/lang/Object", "<init>", "()V"⟩ ∈ zU) (hcode : Cond.code ⟨"java/lang/Object", "<init>", "()V"⟩ object_method_1_code 1 none ∈ zU) (hR : 1 ≤ R.frames ∧ (rest.map fun v => v.category).sum + 12 ≤ R.locals) (hdg : decode cc pc = .ok (.invokespecial idx, 3))
    (kk : W p l e R s m args below meth c H locs cells slots Q (F0 m (pc + 3) ls rest)) : W p l e R s m args below meth c H locs cells slots Q (F0 m pc ls (.ref a :: rest)) := by
  obtain ⟨hx, hb, hown, hts, hK⟩ := X
  refine W.objInit hx hb hown (hts _ hlink) (hts _ hinst) (hts _ hcode) rfl (by rw [hml]; exact hl.1) rfl hdg hR.1 (by show 2 * 0 + _ + 12 ≤ _; omega) ?_
  exact W.eq (g2 := F0 m (pc + 3) ls rest) rfl kk
end ZO
theorem zt_1 (w : zWd) : (ztys w)[1]? = some (w.2.1 1, .int) := rfl
theorem zt_0 (w : zWd) : (ztys w)[0]? = some (w.2.1 0, .byte) := rfl
theorem zt_2 (w : zWd) : (ztys w)[2]? = some (w.2.1 2, .boolean) := rfl
theorem zt_3 (w : zWd) : (ztys w)[3]? = some (w.2.1 3, .object "HandToHand$Bench") := rfl
theorem zt_4 (w : zWd) : (ztys w)[4]? = some (w.2.1 4, .object "HandToHand$Sheet") := rfl
theorem zsk_fin {w : zWd} {sh : Nat → (Nat → Int32) → va_E} {k n : Nat} {E : va_E} {M : zMem} {H0 H : Heap} {locs : List Loc} (hF : sh k (M k) = E) (hG : zGo (zwn w (zsk sh k E) n) H0 M H locs) : zGo (zwn w sh n) H0 M H locs := by
  refine zGo_cast (fun c _ => ?_) hG
  by_cases q : c = k
  · subst q; rw [zsk_eq, hF]
  · rw [zsk_ne q]
theorem zsk_re {w : zWd} {sh : Nat → (Nat → Int32) → va_E} {k n : Nat} {E E' E'' : va_E} {M : zMem} {H0 H : Heap} {locs : List Loc} (e : E' = E'') (hG : zGo (zwn w (zsk (zsk sh k E) k E') n) H0 M H locs) : zGo (zwn w (zsk sh k E'') n) H0 M H locs := by
  subst e
  refine zGo_cast (fun c _ => ?_) hG
  by_cases q : c = k
  · subst q; rw [zsk_eq, zsk_eq]
  · rw [zsk_ne q, zsk_ne q, zsk_ne q]
/-- the first i of a row of numbers are laid -/
def zpre (L : Nat → Int32) (i : Nat) : Nat → Int32 := fun j => if j < i then L j else 0
theorem zpre_0 (L : Nat → Int32) : zpre L 0 = fun _ => 0 := by funext j; unfold zpre; rw [if_neg (by omega)]
theorem zpre_s (L : Nat → Int32) (i : Nat) : upd (zpre L i) i (L i) = zpre L (i + 1) := by
  funext j
  by_cases e : j = i
  · subst e; rw [upd_eq]; unfold zpre; rw [if_pos (by omega)]
  · rw [upd_ne e]
    unfold zpre
    by_cases q : j < i
    · rw [if_pos q, if_pos (by omega)]
    · rw [if_neg q, if_neg (by omega)]
section ZI
variable {p : Program} {l : Launch} {e : Env} {R : Room} {s : State} {m : MethodId} {args : Array Value} {below : List Frame} {meth : Method} {c : Code} {H H0 : Heap} {locs : List Loc} {cells slots : Nat} {Q : State → Prop} {cc : ByteArray} {pc : Nat} {ls : Array Slot} {rest : List Value} {w : zWd} {M : zMem} {own : String} {sh : Nat → (Nat → Int32) → va_E} {n : Nat}
theorem zg_ist {k N : Nat} {i x : Int32} (L : Nat → Int32) (j : Nat) (X : zX w p s m args c cc own) (hG : zGo (zwn w (zsk sh k (.inl (w.2.1 1, N, .inl (zpre L j)))) n) H0 M H locs) (hk : k < n) (hij : i.toNatClampNeg = j) (hx : x = L j) (hi : vp_in i N) (hdg : decode cc pc = .ok (.iastore, 1))
    (kk : ∀ (H1 : Heap) (locs1 : List Loc), zGo (zwn w (zsk sh k (.inl (w.2.1 1, N, .inl (zpre L (j + 1))))) n) H0 M H1 locs1 → W p l e R s m args below meth c H1 locs1 cells slots Q (F0 m (pc + 1) ls rest)) : W p l e R s m args below meth c H locs cells slots Q (F0 m pc ls (.int x :: .int i :: .ref (w.2.2.2.1 + k) :: rest)) := by
  refine zg_iast X hG hk zsk_eq hi hdg (fun H1 locs1 hG1 => kk H1 locs1 (zsk_re ?_ hG1))
  rw [hij, hx, zpre_s]
end ZI
theorem zsk_pre {w : zWd} {sh : Nat → (Nat → Int32) → va_E} {k n N : Nat} {L : Nat → Int32} {M : zMem} {H0 H : Heap} {locs : List Loc} (hF : sh k (M k) = .inl (w.2.1 1, N, .inl (M k))) (hL : ∀ j, j < N → L j = M k j) (hG : zGo (zwn w (zsk sh k (.inl (w.2.1 1, N, .inl (zpre L N)))) n) H0 M H locs) : zGo (zwn w sh n) H0 M H locs := by
  refine ⟨fun c q hq => ?_, hG.2⟩
  have hc : c < n := by
    have := (List.getElem?_eq_some_iff.mp hq).1
    rw [zws_len] at this
    exact this
  have h1 := hG.1 c _ (zwn_get hc)
  rw [zwn_get hc] at hq
  cases hq
  by_cases e : c = k
  · subst e
    rw [zsk_eq] at h1
    rw [hF]
    have h2 : H[w.2.2.2.1 + c]? = some (vp_cell (w.2.1 1) (N, .inl (zpre L N))) := h1
    show H[w.2.2.2.1 + c]? = some (vp_cell (w.2.1 1) (N, .inl (M c)))
    rw [h2, vp_cell_i, vp_cell_i]
    unfold arrV
    have : (fun j : Fin N => Value.int (zpre L N j.val)) = (fun j : Fin N => Value.int (M c j.val)) := by
      funext j
      unfold zpre
      rw [if_pos j.isLt, hL j.val j.isLt]
    rw [this]
  · rw [zsk_ne e] at h1
    exact h1
theorem zsk_swap {w : zWd} {sh : Nat → (Nat → Int32) → va_E} {k j n : Nat} {E E' : va_E} {M : zMem} {H0 H : Heap} {locs : List Loc} (h : k ≠ j) (hG : zGo (zwn w (zsk (zsk sh k E) j E') n) H0 M H locs) : zGo (zwn w (zsk (zsk sh j E') k E) n) H0 M H locs := by
  refine zGo_cast (fun c _ => ?_) hG
  by_cases q : c = k
  · subst q; rw [zsk_ne h, zsk_eq, zsk_eq]
  · by_cases q2 : c = j
    · subst q2; rw [zsk_eq, zsk_ne q, zsk_eq]
    · rw [zsk_ne q2, zsk_ne q, zsk_ne q, zsk_ne q2]
theorem zsk_add {w : zWd} {sh : Nat → (Nat → Int32) → va_E} {j n : Nat} {E : va_E} {M : zMem} {H0 H : Heap} {locs : List Loc} (h : n ≤ j) (hG : zGo (zwn w sh n) H0 M H locs) : zGo (zwn w (zsk sh j E) n) H0 M H locs :=
  zGo_cast (fun c hc => by rw [zsk_ne (by omega)]) hG
set_option maxHeartbeats 4000000 in
set_option maxRecDepth 20000 in
theorem i_Told {l : Launch} {w : zWd} {k : Nat} {M M' : zMem} {sh : Nat → (Nat → Int32) → va_E} (hn : w.2.2.2.2 = k + 1) (hk : w.2.2.1 k (M k) = .inr (9, [.int 0, .int 0, .int 0, .int 0, .int 0, .int 0, .int 0, .null, .null, .null, .null])) (hs : ∀ c, c < k → w.2.2.1 c (M c) = sh c (M' c)) (hF : sh k (M' k) = .inr (9, [.int 0, .int 0, .int 0, .int 0, .int 0, .int 0, .int 0, .ref (w.2.2.2.1 + (k + 1)), .ref (w.2.2.2.1 + (k + 2)), .ref (w.2.2.2.1 + (k + 3)), .ref (w.2.2.2.1 + (k + 4))])) (hA1 : sh (k + 1) (M' (k + 1)) = .inl (w.2.1 1, 6, .inl fun _ => 0)) (hA2 : sh (k + 2) (M' (k + 2)) = .inl (w.2.1 1, 24, .inl fun _ => 0)) (hA3 : sh (k + 3) (M' (k + 3)) = .inl (w.2.1 1, 40, .inl fun _ => 0)) (hA4 : sh (k + 4) (M' (k + 4)) = .inl (w.2.1 1, 5, .inl fun _ => 0)) : zMc l ⟨"HandToHand$Told", "<init>", "()V"⟩ prog_11_method_1_code 1 1 12 4 75 w [.ref (w.2.2.2.1 + k)] M (zwn w sh (k + 5)) (fun M1 => M1 = M') := by
  refine zMetC (by decide) rfl (Nat.le_of_ble_eq_true rfl) ?_
  intro p e s m below meth c X hKo hmi hr hlk hml hsz hG ls hl
  have hx := X.1
  have hb := X.2.1
  have hl : lv_has ls 1 [(0, .ref (w.2.2.2.1 + k))] := hl
  have hG : zGo (zwn w (zsk sh k (.inr (9, [.int 0, .int 0, .int 0, .int 0, .int 0, .int 0, .int 0, .null, .null, .null, .null]))) (k + 1)) s.heap M' s.heap [] := by
    rw [← hn]
    refine zGo_cast (w := w) (sh := w.2.2.1) (M := M) (fun c hc => ?_) hG
    by_cases q : c = k
    · subst q; rw [zsk_eq]; exact hk
    · rw [zsk_ne q]; exact hs c (by omega)
  refine lv_aload_n hx hb dX9_init_0 rfl (lv_at hl 0 rfl) ?_
  refine zg_obj X hml hl zu_31 zu_24 zu_25 ⟨Nat.le_of_ble_eq_true rfl, Nat.le_of_ble_eq_true rfl⟩ dX9_init_1 ?_
  refine lv_aload_n hx hb dX9_init_4 rfl (lv_at hl 0 rfl) ?_
  refine lv_bipush (v := 6) hx hb dX9_init_5 (by decide) ?_
  refine zg_newa (w := w) (N := 6) (t := 1) (atype := .int) (ty := .int) X hG (by omega) (by omega) zu_95 rfl rfl (fun _ => rfl) (fun _ => rfl) (by decide) (by decide) (Nat.le_of_ble_eq_true rfl) (by rw [zsk_ne (by omega)]; exact hA1) (Nat.le_of_ble_eq_true rfl) (Nat.le_of_ble_eq_true rfl) dX9_init_7 (fun H hG => ?_)
  refine W.widen (k := 1) (n := 6) (Nat.le_of_ble_eq_true rfl) (Nat.le_of_ble_eq_true rfl) ?_
  refine zg_putF (w := w) (k := k) (ci := 9) (C := "HandToHand$Told") (T := TX9) (ty0 := tyX9) (ty := (.array .int)) (v := .ref (w.2.2.2.1 + (k + 1))) X hmi hG (by omega) zsk_eq rfl zin_9 tyX9_ok nmX9 7 (by decide) rfl rfl zu_59 rfl rfl rfl rfl rfl dX9_init_9 (fun H locs hG => ?_)
  replace hG := zsk_re (E'' := .inr (9, [.int 0, .int 0, .int 0, .int 0, .int 0, .int 0, .int 0, .ref (w.2.2.2.1 + (k + 1)), .null, .null, .null])) rfl hG
  refine lv_aload_n hx hb dX9_init_12 rfl (lv_at hl 0 rfl) ?_
  refine lv_bipush (v := 24) hx hb dX9_init_13 (by decide) ?_
  refine zg_newa (w := w) (N := 24) (t := 1) (atype := .int) (ty := .int) X hG (by omega) (by omega) zu_95 rfl rfl (fun _ => rfl) (fun _ => rfl) (by decide) (by decide) (Nat.le_of_ble_eq_true rfl) (by rw [zsk_ne (by omega)]; exact hA2) (Nat.le_of_ble_eq_true rfl) (Nat.le_of_ble_eq_true rfl) dX9_init_15 (fun H hG => ?_)
  refine W.widen (k := 2) (n := 30) (Nat.le_of_ble_eq_true rfl) (Nat.le_of_ble_eq_true rfl) ?_
  refine zg_putF (w := w) (k := k) (ci := 9) (C := "HandToHand$Told") (T := TX9) (ty0 := tyX9) (ty := (.array .int)) (v := .ref (w.2.2.2.1 + (k + 2))) X hmi hG (by omega) zsk_eq rfl zin_9 tyX9_ok nmX9 8 (by decide) rfl rfl zu_63 rfl rfl rfl rfl rfl dX9_init_17 (fun H locs hG => ?_)
  replace hG := zsk_re (E'' := .inr (9, [.int 0, .int 0, .int 0, .int 0, .int 0, .int 0, .int 0, .ref (w.2.2.2.1 + (k + 1)), .ref (w.2.2.2.1 + (k + 2)), .null, .null])) rfl hG
  refine lv_aload_n hx hb dX9_init_20 rfl (lv_at hl 0 rfl) ?_
  refine lv_bipush (v := 40) hx hb dX9_init_21 (by decide) ?_
  refine zg_newa (w := w) (N := 40) (t := 1) (atype := .int) (ty := .int) X hG (by omega) (by omega) zu_95 rfl rfl (fun _ => rfl) (fun _ => rfl) (by decide) (by decide) (Nat.le_of_ble_eq_true rfl) (by rw [zsk_ne (by omega)]; exact hA3) (Nat.le_of_ble_eq_true rfl) (Nat.le_of_ble_eq_true rfl) dX9_init_23 (fun H hG => ?_)
  refine W.widen (k := 3) (n := 70) (Nat.le_of_ble_eq_true rfl) (Nat.le_of_ble_eq_true rfl) ?_
  refine zg_putF (w := w) (k := k) (ci := 9) (C := "HandToHand$Told") (T := TX9) (ty0 := tyX9) (ty := (.array .int)) (v := .ref (w.2.2.2.1 + (k + 3))) X hmi hG (by omega) zsk_eq rfl zin_9 tyX9_ok nmX9 9 (by decide) rfl rfl zu_65 rfl rfl rfl rfl rfl dX9_init_25 (fun H locs hG => ?_)
  replace hG := zsk_re (E'' := .inr (9, [.int 0, .int 0, .int 0, .int 0, .int 0, .int 0, .int 0, .ref (w.2.2.2.1 + (k + 1)), .ref (w.2.2.2.1 + (k + 2)), .ref (w.2.2.2.1 + (k + 3)), .null])) rfl hG
  refine lv_aload_n hx hb dX9_init_28 rfl (lv_at hl 0 rfl) ?_
  refine lv_iconst (v := 5) hx hb dX9_init_29 (by decide) ?_
  refine zg_newa (w := w) (N := 5) (t := 1) (atype := .int) (ty := .int) X hG (by omega) (by omega) zu_95 rfl rfl (fun _ => rfl) (fun _ => rfl) (by decide) (by decide) (Nat.le_of_ble_eq_true rfl) (by rw [zsk_ne (by omega)]; exact hA4) (Nat.le_of_ble_eq_true rfl) (Nat.le_of_ble_eq_true rfl) dX9_init_30 (fun H hG => ?_)
  refine W.widen (k := 4) (n := 75) (Nat.le_of_ble_eq_true rfl) (Nat.le_of_ble_eq_true rfl) ?_
  refine zg_putF (w := w) (k := k) (ci := 9) (C := "HandToHand$Told") (T := TX9) (ty0 := tyX9) (ty := (.array .int)) (v := .ref (w.2.2.2.1 + (k + 4))) X hmi hG (by omega) zsk_eq rfl zin_9 tyX9_ok nmX9 10 (by decide) rfl rfl zu_68 rfl rfl rfl rfl rfl dX9_init_32 (fun H locs hG => ?_)
  replace hG := zsk_re (E'' := .inr (9, [.int 0, .int 0, .int 0, .int 0, .int 0, .int 0, .int 0, .ref (w.2.2.2.1 + (k + 1)), .ref (w.2.2.2.1 + (k + 2)), .ref (w.2.2.2.1 + (k + 3)), .ref (w.2.2.2.1 + (k + 4))])) rfl hG
  replace hG := zsk_fin hF hG
  exact zg_vret (w' := zwn w sh (k + 5)) X hr hlk rfl hG rfl dX9_init_35
set_option maxHeartbeats 4000000 in
set_option maxRecDepth 20000 in
theorem i_Handings {l : Launch} {w : zWd} {k : Nat} {M M' : zMem} {sh : Nat → (Nat → Int32) → va_E} (hn : w.2.2.2.2 = k + 1) (hk : w.2.2.1 k (M k) = .inr (2, [.int 0, .null])) (hs : ∀ c, c < k → w.2.2.1 c (M c) = sh c (M' c)) (hF : sh k (M' k) = .inr (2, [.int 0, .ref (w.2.2.2.1 + (k + 1))])) (hA1 : sh (k + 1) (M' (k + 1)) = .inl (w.2.1 1, 3000, .inl fun _ => 0)) : zMc l ⟨"HandToHand$Handings", "<init>", "()V"⟩ prog_4_method_1_code 1 1 12 1 3000 w [.ref (w.2.2.2.1 + k)] M (zwn w sh (k + 2)) (fun M1 => M1 = M') := by
  refine zMetC (by decide) rfl (Nat.le_of_ble_eq_true rfl) ?_
  intro p e s m below meth c X hKo hmi hr hlk hml hsz hG ls hl
  have hx := X.1
  have hb := X.2.1
  have hl : lv_has ls 1 [(0, .ref (w.2.2.2.1 + k))] := hl
  have hG : zGo (zwn w (zsk sh k (.inr (2, [.int 0, .null]))) (k + 1)) s.heap M' s.heap [] := by
    rw [← hn]
    refine zGo_cast (w := w) (sh := w.2.2.1) (M := M) (fun c hc => ?_) hG
    by_cases q : c = k
    · subst q; rw [zsk_eq]; exact hk
    · rw [zsk_ne q]; exact hs c (by omega)
  refine lv_aload_n hx hb dX2_init_0 rfl (lv_at hl 0 rfl) ?_
  refine zg_obj X hml hl zu_232 zu_24 zu_25 ⟨Nat.le_of_ble_eq_true rfl, Nat.le_of_ble_eq_true rfl⟩ dX2_init_1 ?_
  refine lv_aload_n hx hb dX2_init_4 rfl (lv_at hl 0 rfl) ?_
  refine lv_sipush (v := 3000) hx hb dX2_init_5 (by decide) ?_
  refine zg_newa (w := w) (N := 3000) (t := 1) (atype := .int) (ty := .int) X hG (by omega) (by omega) zu_95 rfl rfl (fun _ => rfl) (fun _ => rfl) (by decide) (by decide) (Nat.le_of_ble_eq_true rfl) (by rw [zsk_ne (by omega)]; exact hA1) (Nat.le_of_ble_eq_true rfl) (Nat.le_of_ble_eq_true rfl) dX2_init_8 (fun H hG => ?_)
  refine W.widen (k := 1) (n := 3000) (Nat.le_of_ble_eq_true rfl) (Nat.le_of_ble_eq_true rfl) ?_
  refine zg_putF (w := w) (k := k) (ci := 2) (C := "HandToHand$Handings") (T := TX2) (ty0 := tyX2) (ty := (.array .int)) (v := .ref (w.2.2.2.1 + (k + 1))) X hmi hG (by omega) zsk_eq rfl zin_2 tyX2_ok nmX2 1 (by decide) rfl rfl zu_236 rfl rfl rfl rfl rfl dX2_init_10 (fun H locs hG => ?_)
  replace hG := zsk_re (E'' := .inr (2, [.int 0, .ref (w.2.2.2.1 + (k + 1))])) rfl hG
  replace hG := zsk_fin hF hG
  exact zg_vret (w' := zwn w sh (k + 2)) X hr hlk rfl hG rfl dX2_init_13
set_option maxHeartbeats 4000000 in
set_option maxRecDepth 20000 in
theorem i_BenchN {l : Launch} {w : zWd} {k : Nat} {t : Nat} {M M' : zMem} {sh : Nat → (Nat → Int32) → va_E} (hn : w.2.2.2.2 = k + 1) (hk : w.2.2.1 k (M k) = .inr (0, [.null, .null, .int 0, .int 0, .int 0, .int 0, .null, .null, .null, .null, .null, .null, .null, .null])) (hs : ∀ c, c < k → w.2.2.1 c (M c) = sh c (M' c)) (hF : sh k (M' k) = .inr (0, [.ref (w.2.2.2.1 + t), .null, .int 0, .int 0, .int 0, .int 0, .ref (w.2.2.2.1 + (k + 1)), .ref (w.2.2.2.1 + (k + 2)), .ref (w.2.2.2.1 + (k + 3)), .ref (w.2.2.2.1 + (k + 4)), .ref (w.2.2.2.1 + (k + 5)), .ref (w.2.2.2.1 + (k + 6)), .ref (w.2.2.2.1 + (k + 7)), .ref (w.2.2.2.1 + (k + 8))])) (hA1 : sh (k + 1) (M' (k + 1)) = .inl (w.2.1 1, 5, .inl fun _ => 0)) (hA2 : sh (k + 2) (M' (k + 2)) = .inl (w.2.1 1, 5, .inl fun _ => 0)) (hA3 : sh (k + 3) (M' (k + 3)) = .inl (w.2.1 1, 5, .inl fun _ => 0)) (hA4 : sh (k + 4) (M' (k + 4)) = .inl (w.2.1 1, 5, .inl fun _ => 0)) (hA5 : sh (k + 5) (M' (k + 5)) = .inl (w.2.1 1, 5, .inl fun _ => 0)) (hA6 : sh (k + 6) (M' (k + 6)) = .inl (w.2.1 1, 5, .inl fun _ => 0)) (hA7 : sh (k + 7) (M' (k + 7)) = .inl (w.2.1 1, 40, .inl fun _ => 0)) (hA8 : sh (k + 8) (M' (k + 8)) = .inl (w.2.1 1, 8, .inl fun _ => 0)) : zMc l ⟨"HandToHand$Bench", "<init>", "(LHandToHand$Told;LHandToHand$Handings;)V"⟩ prog_2_method_1_code 3 1 12 8 78 w [.ref (w.2.2.2.1 + k), .ref (w.2.2.2.1 + t), .null] M (zwn w sh (k + 9)) (fun M1 => M1 = M') := by
  refine zMetC (by decide) rfl (Nat.le_of_ble_eq_true rfl) ?_
  intro p e s m below meth c X hKo hmi hr hlk hml hsz hG ls hl
  have hx := X.1
  have hb := X.2.1
  have hl : lv_has ls 3 [(0, .ref (w.2.2.2.1 + k)), (1, .ref (w.2.2.2.1 + t)), (2, .null)] := hl
  have hG : zGo (zwn w (zsk sh k (.inr (0, [.null, .null, .int 0, .int 0, .int 0, .int 0, .null, .null, .null, .null, .null, .null, .null, .null]))) (k + 1)) s.heap M' s.heap [] := by
    rw [← hn]
    refine zGo_cast (w := w) (sh := w.2.2.1) (M := M) (fun c hc => ?_) hG
    by_cases q : c = k
    · subst q; rw [zsk_eq]; exact hk
    · rw [zsk_ne q]; exact hs c (by omega)
  refine lv_aload_n hx hb dX0_init_0 rfl (lv_at hl 0 rfl) ?_
  refine zg_obj X hml hl zu_159 zu_24 zu_25 ⟨Nat.le_of_ble_eq_true rfl, Nat.le_of_ble_eq_true rfl⟩ dX0_init_1 ?_
  refine lv_aload_n hx hb dX0_init_4 rfl (lv_at hl 0 rfl) ?_
  refine lv_iconst (v := 5) hx hb dX0_init_5 (by decide) ?_
  refine zg_newa (w := w) (N := 5) (t := 1) (atype := .int) (ty := .int) X hG (by omega) (by omega) zu_95 rfl rfl (fun _ => rfl) (fun _ => rfl) (by decide) (by decide) (Nat.le_of_ble_eq_true rfl) (by rw [zsk_ne (by omega)]; exact hA1) (Nat.le_of_ble_eq_true rfl) (Nat.le_of_ble_eq_true rfl) dX0_init_6 (fun H hG => ?_)
  refine W.widen (k := 1) (n := 5) (Nat.le_of_ble_eq_true rfl) (Nat.le_of_ble_eq_true rfl) ?_
  refine zg_putF (w := w) (k := k) (ci := 0) (C := "HandToHand$Bench") (T := TX0) (ty0 := tyX0) (ty := (.array .int)) (v := .ref (w.2.2.2.1 + (k + 1))) X hmi hG (by omega) zsk_eq rfl zin_0 tyX0_ok nmX0 6 (by decide) rfl rfl zu_175 rfl rfl rfl rfl rfl dX0_init_8 (fun H locs hG => ?_)
  replace hG := zsk_re (E'' := .inr (0, [.null, .null, .int 0, .int 0, .int 0, .int 0, .ref (w.2.2.2.1 + (k + 1)), .null, .null, .null, .null, .null, .null, .null])) rfl hG
  refine lv_aload_n hx hb dX0_init_11 rfl (lv_at hl 0 rfl) ?_
  refine lv_iconst (v := 5) hx hb dX0_init_12 (by decide) ?_
  refine zg_newa (w := w) (N := 5) (t := 1) (atype := .int) (ty := .int) X hG (by omega) (by omega) zu_95 rfl rfl (fun _ => rfl) (fun _ => rfl) (by decide) (by decide) (Nat.le_of_ble_eq_true rfl) (by rw [zsk_ne (by omega)]; exact hA2) (Nat.le_of_ble_eq_true rfl) (Nat.le_of_ble_eq_true rfl) dX0_init_13 (fun H hG => ?_)
  refine W.widen (k := 2) (n := 10) (Nat.le_of_ble_eq_true rfl) (Nat.le_of_ble_eq_true rfl) ?_
  refine zg_putF (w := w) (k := k) (ci := 0) (C := "HandToHand$Bench") (T := TX0) (ty0 := tyX0) (ty := (.array .int)) (v := .ref (w.2.2.2.1 + (k + 2))) X hmi hG (by omega) zsk_eq rfl zin_0 tyX0_ok nmX0 7 (by decide) rfl rfl zu_177 rfl rfl rfl rfl rfl dX0_init_15 (fun H locs hG => ?_)
  replace hG := zsk_re (E'' := .inr (0, [.null, .null, .int 0, .int 0, .int 0, .int 0, .ref (w.2.2.2.1 + (k + 1)), .ref (w.2.2.2.1 + (k + 2)), .null, .null, .null, .null, .null, .null])) rfl hG
  refine lv_aload_n hx hb dX0_init_18 rfl (lv_at hl 0 rfl) ?_
  refine lv_iconst (v := 5) hx hb dX0_init_19 (by decide) ?_
  refine zg_newa (w := w) (N := 5) (t := 1) (atype := .int) (ty := .int) X hG (by omega) (by omega) zu_95 rfl rfl (fun _ => rfl) (fun _ => rfl) (by decide) (by decide) (Nat.le_of_ble_eq_true rfl) (by rw [zsk_ne (by omega)]; exact hA3) (Nat.le_of_ble_eq_true rfl) (Nat.le_of_ble_eq_true rfl) dX0_init_20 (fun H hG => ?_)
  refine W.widen (k := 3) (n := 15) (Nat.le_of_ble_eq_true rfl) (Nat.le_of_ble_eq_true rfl) ?_
  refine zg_putF (w := w) (k := k) (ci := 0) (C := "HandToHand$Bench") (T := TX0) (ty0 := tyX0) (ty := (.array .int)) (v := .ref (w.2.2.2.1 + (k + 3))) X hmi hG (by omega) zsk_eq rfl zin_0 tyX0_ok nmX0 8 (by decide) rfl rfl zu_179 rfl rfl rfl rfl rfl dX0_init_22 (fun H locs hG => ?_)
  replace hG := zsk_re (E'' := .inr (0, [.null, .null, .int 0, .int 0, .int 0, .int 0, .ref (w.2.2.2.1 + (k + 1)), .ref (w.2.2.2.1 + (k + 2)), .ref (w.2.2.2.1 + (k + 3)), .null, .null, .null, .null, .null])) rfl hG
  refine lv_aload_n hx hb dX0_init_25 rfl (lv_at hl 0 rfl) ?_
  refine lv_iconst (v := 5) hx hb dX0_init_26 (by decide) ?_
  refine zg_newa (w := w) (N := 5) (t := 1) (atype := .int) (ty := .int) X hG (by omega) (by omega) zu_95 rfl rfl (fun _ => rfl) (fun _ => rfl) (by decide) (by decide) (Nat.le_of_ble_eq_true rfl) (by rw [zsk_ne (by omega)]; exact hA4) (Nat.le_of_ble_eq_true rfl) (Nat.le_of_ble_eq_true rfl) dX0_init_27 (fun H hG => ?_)
  refine W.widen (k := 4) (n := 20) (Nat.le_of_ble_eq_true rfl) (Nat.le_of_ble_eq_true rfl) ?_
  refine zg_putF (w := w) (k := k) (ci := 0) (C := "HandToHand$Bench") (T := TX0) (ty0 := tyX0) (ty := (.array .int)) (v := .ref (w.2.2.2.1 + (k + 4))) X hmi hG (by omega) zsk_eq rfl zin_0 tyX0_ok nmX0 9 (by decide) rfl rfl zu_181 rfl rfl rfl rfl rfl dX0_init_29 (fun H locs hG => ?_)
  replace hG := zsk_re (E'' := .inr (0, [.null, .null, .int 0, .int 0, .int 0, .int 0, .ref (w.2.2.2.1 + (k + 1)), .ref (w.2.2.2.1 + (k + 2)), .ref (w.2.2.2.1 + (k + 3)), .ref (w.2.2.2.1 + (k + 4)), .null, .null, .null, .null])) rfl hG
  refine lv_aload_n hx hb dX0_init_32 rfl (lv_at hl 0 rfl) ?_
  refine lv_iconst (v := 5) hx hb dX0_init_33 (by decide) ?_
  refine zg_newa (w := w) (N := 5) (t := 1) (atype := .int) (ty := .int) X hG (by omega) (by omega) zu_95 rfl rfl (fun _ => rfl) (fun _ => rfl) (by decide) (by decide) (Nat.le_of_ble_eq_true rfl) (by rw [zsk_ne (by omega)]; exact hA5) (Nat.le_of_ble_eq_true rfl) (Nat.le_of_ble_eq_true rfl) dX0_init_34 (fun H hG => ?_)
  refine W.widen (k := 5) (n := 25) (Nat.le_of_ble_eq_true rfl) (Nat.le_of_ble_eq_true rfl) ?_
  refine zg_putF (w := w) (k := k) (ci := 0) (C := "HandToHand$Bench") (T := TX0) (ty0 := tyX0) (ty := (.array .int)) (v := .ref (w.2.2.2.1 + (k + 5))) X hmi hG (by omega) zsk_eq rfl zin_0 tyX0_ok nmX0 10 (by decide) rfl rfl zu_183 rfl rfl rfl rfl rfl dX0_init_36 (fun H locs hG => ?_)
  replace hG := zsk_re (E'' := .inr (0, [.null, .null, .int 0, .int 0, .int 0, .int 0, .ref (w.2.2.2.1 + (k + 1)), .ref (w.2.2.2.1 + (k + 2)), .ref (w.2.2.2.1 + (k + 3)), .ref (w.2.2.2.1 + (k + 4)), .ref (w.2.2.2.1 + (k + 5)), .null, .null, .null])) rfl hG
  refine lv_aload_n hx hb dX0_init_39 rfl (lv_at hl 0 rfl) ?_
  refine lv_iconst (v := 5) hx hb dX0_init_40 (by decide) ?_
  refine zg_newa (w := w) (N := 5) (t := 1) (atype := .int) (ty := .int) X hG (by omega) (by omega) zu_95 rfl rfl (fun _ => rfl) (fun _ => rfl) (by decide) (by decide) (Nat.le_of_ble_eq_true rfl) (by rw [zsk_ne (by omega)]; exact hA6) (Nat.le_of_ble_eq_true rfl) (Nat.le_of_ble_eq_true rfl) dX0_init_41 (fun H hG => ?_)
  refine W.widen (k := 6) (n := 30) (Nat.le_of_ble_eq_true rfl) (Nat.le_of_ble_eq_true rfl) ?_
  refine zg_putF (w := w) (k := k) (ci := 0) (C := "HandToHand$Bench") (T := TX0) (ty0 := tyX0) (ty := (.array .int)) (v := .ref (w.2.2.2.1 + (k + 6))) X hmi hG (by omega) zsk_eq rfl zin_0 tyX0_ok nmX0 11 (by decide) rfl rfl zu_185 rfl rfl rfl rfl rfl dX0_init_43 (fun H locs hG => ?_)
  replace hG := zsk_re (E'' := .inr (0, [.null, .null, .int 0, .int 0, .int 0, .int 0, .ref (w.2.2.2.1 + (k + 1)), .ref (w.2.2.2.1 + (k + 2)), .ref (w.2.2.2.1 + (k + 3)), .ref (w.2.2.2.1 + (k + 4)), .ref (w.2.2.2.1 + (k + 5)), .ref (w.2.2.2.1 + (k + 6)), .null, .null])) rfl hG
  refine lv_aload_n hx hb dX0_init_46 rfl (lv_at hl 0 rfl) ?_
  refine lv_bipush (v := 40) hx hb dX0_init_47 (by decide) ?_
  refine zg_newa (w := w) (N := 40) (t := 1) (atype := .int) (ty := .int) X hG (by omega) (by omega) zu_95 rfl rfl (fun _ => rfl) (fun _ => rfl) (by decide) (by decide) (Nat.le_of_ble_eq_true rfl) (by rw [zsk_ne (by omega)]; exact hA7) (Nat.le_of_ble_eq_true rfl) (Nat.le_of_ble_eq_true rfl) dX0_init_49 (fun H hG => ?_)
  refine W.widen (k := 7) (n := 70) (Nat.le_of_ble_eq_true rfl) (Nat.le_of_ble_eq_true rfl) ?_
  refine zg_putF (w := w) (k := k) (ci := 0) (C := "HandToHand$Bench") (T := TX0) (ty0 := tyX0) (ty := (.array .int)) (v := .ref (w.2.2.2.1 + (k + 7))) X hmi hG (by omega) zsk_eq rfl zin_0 tyX0_ok nmX0 12 (by decide) rfl rfl zu_187 rfl rfl rfl rfl rfl dX0_init_51 (fun H locs hG => ?_)
  replace hG := zsk_re (E'' := .inr (0, [.null, .null, .int 0, .int 0, .int 0, .int 0, .ref (w.2.2.2.1 + (k + 1)), .ref (w.2.2.2.1 + (k + 2)), .ref (w.2.2.2.1 + (k + 3)), .ref (w.2.2.2.1 + (k + 4)), .ref (w.2.2.2.1 + (k + 5)), .ref (w.2.2.2.1 + (k + 6)), .ref (w.2.2.2.1 + (k + 7)), .null])) rfl hG
  refine lv_aload_n hx hb dX0_init_54 rfl (lv_at hl 0 rfl) ?_
  refine lv_bipush (v := 8) hx hb dX0_init_55 (by decide) ?_
  refine zg_newa (w := w) (N := 8) (t := 1) (atype := .int) (ty := .int) X hG (by omega) (by omega) zu_95 rfl rfl (fun _ => rfl) (fun _ => rfl) (by decide) (by decide) (Nat.le_of_ble_eq_true rfl) (by rw [zsk_ne (by omega)]; exact hA8) (Nat.le_of_ble_eq_true rfl) (Nat.le_of_ble_eq_true rfl) dX0_init_57 (fun H hG => ?_)
  refine W.widen (k := 8) (n := 78) (Nat.le_of_ble_eq_true rfl) (Nat.le_of_ble_eq_true rfl) ?_
  refine zg_putF (w := w) (k := k) (ci := 0) (C := "HandToHand$Bench") (T := TX0) (ty0 := tyX0) (ty := (.array .int)) (v := .ref (w.2.2.2.1 + (k + 8))) X hmi hG (by omega) zsk_eq rfl zin_0 tyX0_ok nmX0 13 (by decide) rfl rfl zu_190 rfl rfl rfl rfl rfl dX0_init_59 (fun H locs hG => ?_)
  replace hG := zsk_re (E'' := .inr (0, [.null, .null, .int 0, .int 0, .int 0, .int 0, .ref (w.2.2.2.1 + (k + 1)), .ref (w.2.2.2.1 + (k + 2)), .ref (w.2.2.2.1 + (k + 3)), .ref (w.2.2.2.1 + (k + 4)), .ref (w.2.2.2.1 + (k + 5)), .ref (w.2.2.2.1 + (k + 6)), .ref (w.2.2.2.1 + (k + 7)), .ref (w.2.2.2.1 + (k + 8))])) rfl hG
  refine lv_aload_n hx hb dX0_init_62 rfl (lv_at hl 0 rfl) ?_
  refine lv_aload_n hx hb dX0_init_63 rfl (lv_at hl 1 rfl) ?_
  refine zg_put (w := w) (k := k) (ci := 0) (C := "HandToHand$Bench") (T := TX0) (ty0 := tyX0) (ty := (.object "HandToHand$Told")) (v := .ref (w.2.2.2.1 + t)) X hG (by omega) zsk_eq rfl zin_0 tyX0_ok nmX0 0 (by decide) rfl zu_160 rfl rfl rfl rfl rfl dX0_init_64 (fun H locs hG => ?_)
  replace hG := zsk_re (E'' := .inr (0, [.ref (w.2.2.2.1 + t), .null, .int 0, .int 0, .int 0, .int 0, .ref (w.2.2.2.1 + (k + 1)), .ref (w.2.2.2.1 + (k + 2)), .ref (w.2.2.2.1 + (k + 3)), .ref (w.2.2.2.1 + (k + 4)), .ref (w.2.2.2.1 + (k + 5)), .ref (w.2.2.2.1 + (k + 6)), .ref (w.2.2.2.1 + (k + 7)), .ref (w.2.2.2.1 + (k + 8))])) rfl hG
  refine lv_aload_n hx hb dX0_init_67 rfl (lv_at hl 0 rfl) ?_
  refine lv_aload_nN hx hb dX0_init_68 rfl (lv_at hl 2 rfl) ?_
  refine zg_putF (w := w) (k := k) (ci := 0) (C := "HandToHand$Bench") (T := TX0) (ty0 := tyX0) (ty := (.object "HandToHand$Handings")) (v := .null) X hmi hG (by omega) zsk_eq rfl zin_0 tyX0_ok nmX0 1 (by decide) rfl rfl zu_162 rfl rfl rfl rfl rfl dX0_init_69 (fun H locs hG => ?_)
  replace hG := zsk_re (E'' := .inr (0, [.ref (w.2.2.2.1 + t), .null, .int 0, .int 0, .int 0, .int 0, .ref (w.2.2.2.1 + (k + 1)), .ref (w.2.2.2.1 + (k + 2)), .ref (w.2.2.2.1 + (k + 3)), .ref (w.2.2.2.1 + (k + 4)), .ref (w.2.2.2.1 + (k + 5)), .ref (w.2.2.2.1 + (k + 6)), .ref (w.2.2.2.1 + (k + 7)), .ref (w.2.2.2.1 + (k + 8))])) rfl hG
  replace hG := zsk_fin hF hG
  exact zg_vret (w' := zwn w sh (k + 9)) X hr hlk rfl hG rfl dX0_init_72
set_option maxHeartbeats 4000000 in
set_option maxRecDepth 20000 in
theorem i_BenchR {l : Launch} {w : zWd} {k : Nat} {t : Nat} {M M' : zMem} {sh : Nat → (Nat → Int32) → va_E} {g : Nat} (hn : w.2.2.2.2 = k + 1) (hk : w.2.2.1 k (M k) = .inr (0, [.null, .null, .int 0, .int 0, .int 0, .int 0, .null, .null, .null, .null, .null, .null, .null, .null])) (hs : ∀ c, c < k → w.2.2.1 c (M c) = sh c (M' c)) (hF : sh k (M' k) = .inr (0, [.ref (w.2.2.2.1 + t), .ref (w.2.2.2.1 + g), .int 0, .int 0, .int 0, .int 0, .ref (w.2.2.2.1 + (k + 1)), .ref (w.2.2.2.1 + (k + 2)), .ref (w.2.2.2.1 + (k + 3)), .ref (w.2.2.2.1 + (k + 4)), .ref (w.2.2.2.1 + (k + 5)), .ref (w.2.2.2.1 + (k + 6)), .ref (w.2.2.2.1 + (k + 7)), .ref (w.2.2.2.1 + (k + 8))])) (hA1 : sh (k + 1) (M' (k + 1)) = .inl (w.2.1 1, 5, .inl fun _ => 0)) (hA2 : sh (k + 2) (M' (k + 2)) = .inl (w.2.1 1, 5, .inl fun _ => 0)) (hA3 : sh (k + 3) (M' (k + 3)) = .inl (w.2.1 1, 5, .inl fun _ => 0)) (hA4 : sh (k + 4) (M' (k + 4)) = .inl (w.2.1 1, 5, .inl fun _ => 0)) (hA5 : sh (k + 5) (M' (k + 5)) = .inl (w.2.1 1, 5, .inl fun _ => 0)) (hA6 : sh (k + 6) (M' (k + 6)) = .inl (w.2.1 1, 5, .inl fun _ => 0)) (hA7 : sh (k + 7) (M' (k + 7)) = .inl (w.2.1 1, 40, .inl fun _ => 0)) (hA8 : sh (k + 8) (M' (k + 8)) = .inl (w.2.1 1, 8, .inl fun _ => 0)) : zMc l ⟨"HandToHand$Bench", "<init>", "(LHandToHand$Told;LHandToHand$Handings;)V"⟩ prog_2_method_1_code 3 1 12 8 78 w [.ref (w.2.2.2.1 + k), .ref (w.2.2.2.1 + t), .ref (w.2.2.2.1 + g)] M (zwn w sh (k + 9)) (fun M1 => M1 = M') := by
  refine zMetC (by decide) rfl (Nat.le_of_ble_eq_true rfl) ?_
  intro p e s m below meth c X hKo hmi hr hlk hml hsz hG ls hl
  have hx := X.1
  have hb := X.2.1
  have hl : lv_has ls 3 [(0, .ref (w.2.2.2.1 + k)), (1, .ref (w.2.2.2.1 + t)), (2, .ref (w.2.2.2.1 + g))] := hl
  have hG : zGo (zwn w (zsk sh k (.inr (0, [.null, .null, .int 0, .int 0, .int 0, .int 0, .null, .null, .null, .null, .null, .null, .null, .null]))) (k + 1)) s.heap M' s.heap [] := by
    rw [← hn]
    refine zGo_cast (w := w) (sh := w.2.2.1) (M := M) (fun c hc => ?_) hG
    by_cases q : c = k
    · subst q; rw [zsk_eq]; exact hk
    · rw [zsk_ne q]; exact hs c (by omega)
  refine lv_aload_n hx hb dX0_init_0 rfl (lv_at hl 0 rfl) ?_
  refine zg_obj X hml hl zu_159 zu_24 zu_25 ⟨Nat.le_of_ble_eq_true rfl, Nat.le_of_ble_eq_true rfl⟩ dX0_init_1 ?_
  refine lv_aload_n hx hb dX0_init_4 rfl (lv_at hl 0 rfl) ?_
  refine lv_iconst (v := 5) hx hb dX0_init_5 (by decide) ?_
  refine zg_newa (w := w) (N := 5) (t := 1) (atype := .int) (ty := .int) X hG (by omega) (by omega) zu_95 rfl rfl (fun _ => rfl) (fun _ => rfl) (by decide) (by decide) (Nat.le_of_ble_eq_true rfl) (by rw [zsk_ne (by omega)]; exact hA1) (Nat.le_of_ble_eq_true rfl) (Nat.le_of_ble_eq_true rfl) dX0_init_6 (fun H hG => ?_)
  refine W.widen (k := 1) (n := 5) (Nat.le_of_ble_eq_true rfl) (Nat.le_of_ble_eq_true rfl) ?_
  refine zg_putF (w := w) (k := k) (ci := 0) (C := "HandToHand$Bench") (T := TX0) (ty0 := tyX0) (ty := (.array .int)) (v := .ref (w.2.2.2.1 + (k + 1))) X hmi hG (by omega) zsk_eq rfl zin_0 tyX0_ok nmX0 6 (by decide) rfl rfl zu_175 rfl rfl rfl rfl rfl dX0_init_8 (fun H locs hG => ?_)
  replace hG := zsk_re (E'' := .inr (0, [.null, .null, .int 0, .int 0, .int 0, .int 0, .ref (w.2.2.2.1 + (k + 1)), .null, .null, .null, .null, .null, .null, .null])) rfl hG
  refine lv_aload_n hx hb dX0_init_11 rfl (lv_at hl 0 rfl) ?_
  refine lv_iconst (v := 5) hx hb dX0_init_12 (by decide) ?_
  refine zg_newa (w := w) (N := 5) (t := 1) (atype := .int) (ty := .int) X hG (by omega) (by omega) zu_95 rfl rfl (fun _ => rfl) (fun _ => rfl) (by decide) (by decide) (Nat.le_of_ble_eq_true rfl) (by rw [zsk_ne (by omega)]; exact hA2) (Nat.le_of_ble_eq_true rfl) (Nat.le_of_ble_eq_true rfl) dX0_init_13 (fun H hG => ?_)
  refine W.widen (k := 2) (n := 10) (Nat.le_of_ble_eq_true rfl) (Nat.le_of_ble_eq_true rfl) ?_
  refine zg_putF (w := w) (k := k) (ci := 0) (C := "HandToHand$Bench") (T := TX0) (ty0 := tyX0) (ty := (.array .int)) (v := .ref (w.2.2.2.1 + (k + 2))) X hmi hG (by omega) zsk_eq rfl zin_0 tyX0_ok nmX0 7 (by decide) rfl rfl zu_177 rfl rfl rfl rfl rfl dX0_init_15 (fun H locs hG => ?_)
  replace hG := zsk_re (E'' := .inr (0, [.null, .null, .int 0, .int 0, .int 0, .int 0, .ref (w.2.2.2.1 + (k + 1)), .ref (w.2.2.2.1 + (k + 2)), .null, .null, .null, .null, .null, .null])) rfl hG
  refine lv_aload_n hx hb dX0_init_18 rfl (lv_at hl 0 rfl) ?_
  refine lv_iconst (v := 5) hx hb dX0_init_19 (by decide) ?_
  refine zg_newa (w := w) (N := 5) (t := 1) (atype := .int) (ty := .int) X hG (by omega) (by omega) zu_95 rfl rfl (fun _ => rfl) (fun _ => rfl) (by decide) (by decide) (Nat.le_of_ble_eq_true rfl) (by rw [zsk_ne (by omega)]; exact hA3) (Nat.le_of_ble_eq_true rfl) (Nat.le_of_ble_eq_true rfl) dX0_init_20 (fun H hG => ?_)
  refine W.widen (k := 3) (n := 15) (Nat.le_of_ble_eq_true rfl) (Nat.le_of_ble_eq_true rfl) ?_
  refine zg_putF (w := w) (k := k) (ci := 0) (C := "HandToHand$Bench") (T := TX0) (ty0 := tyX0) (ty := (.array .int)) (v := .ref (w.2.2.2.1 + (k + 3))) X hmi hG (by omega) zsk_eq rfl zin_0 tyX0_ok nmX0 8 (by decide) rfl rfl zu_179 rfl rfl rfl rfl rfl dX0_init_22 (fun H locs hG => ?_)
  replace hG := zsk_re (E'' := .inr (0, [.null, .null, .int 0, .int 0, .int 0, .int 0, .ref (w.2.2.2.1 + (k + 1)), .ref (w.2.2.2.1 + (k + 2)), .ref (w.2.2.2.1 + (k + 3)), .null, .null, .null, .null, .null])) rfl hG
  refine lv_aload_n hx hb dX0_init_25 rfl (lv_at hl 0 rfl) ?_
  refine lv_iconst (v := 5) hx hb dX0_init_26 (by decide) ?_
  refine zg_newa (w := w) (N := 5) (t := 1) (atype := .int) (ty := .int) X hG (by omega) (by omega) zu_95 rfl rfl (fun _ => rfl) (fun _ => rfl) (by decide) (by decide) (Nat.le_of_ble_eq_true rfl) (by rw [zsk_ne (by omega)]; exact hA4) (Nat.le_of_ble_eq_true rfl) (Nat.le_of_ble_eq_true rfl) dX0_init_27 (fun H hG => ?_)
  refine W.widen (k := 4) (n := 20) (Nat.le_of_ble_eq_true rfl) (Nat.le_of_ble_eq_true rfl) ?_
  refine zg_putF (w := w) (k := k) (ci := 0) (C := "HandToHand$Bench") (T := TX0) (ty0 := tyX0) (ty := (.array .int)) (v := .ref (w.2.2.2.1 + (k + 4))) X hmi hG (by omega) zsk_eq rfl zin_0 tyX0_ok nmX0 9 (by decide) rfl rfl zu_181 rfl rfl rfl rfl rfl dX0_init_29 (fun H locs hG => ?_)
  replace hG := zsk_re (E'' := .inr (0, [.null, .null, .int 0, .int 0, .int 0, .int 0, .ref (w.2.2.2.1 + (k + 1)), .ref (w.2.2.2.1 + (k + 2)), .ref (w.2.2.2.1 + (k + 3)), .ref (w.2.2.2.1 + (k + 4)), .null, .null, .null, .null])) rfl hG
  refine lv_aload_n hx hb dX0_init_32 rfl (lv_at hl 0 rfl) ?_
  refine lv_iconst (v := 5) hx hb dX0_init_33 (by decide) ?_
  refine zg_newa (w := w) (N := 5) (t := 1) (atype := .int) (ty := .int) X hG (by omega) (by omega) zu_95 rfl rfl (fun _ => rfl) (fun _ => rfl) (by decide) (by decide) (Nat.le_of_ble_eq_true rfl) (by rw [zsk_ne (by omega)]; exact hA5) (Nat.le_of_ble_eq_true rfl) (Nat.le_of_ble_eq_true rfl) dX0_init_34 (fun H hG => ?_)
  refine W.widen (k := 5) (n := 25) (Nat.le_of_ble_eq_true rfl) (Nat.le_of_ble_eq_true rfl) ?_
  refine zg_putF (w := w) (k := k) (ci := 0) (C := "HandToHand$Bench") (T := TX0) (ty0 := tyX0) (ty := (.array .int)) (v := .ref (w.2.2.2.1 + (k + 5))) X hmi hG (by omega) zsk_eq rfl zin_0 tyX0_ok nmX0 10 (by decide) rfl rfl zu_183 rfl rfl rfl rfl rfl dX0_init_36 (fun H locs hG => ?_)
  replace hG := zsk_re (E'' := .inr (0, [.null, .null, .int 0, .int 0, .int 0, .int 0, .ref (w.2.2.2.1 + (k + 1)), .ref (w.2.2.2.1 + (k + 2)), .ref (w.2.2.2.1 + (k + 3)), .ref (w.2.2.2.1 + (k + 4)), .ref (w.2.2.2.1 + (k + 5)), .null, .null, .null])) rfl hG
  refine lv_aload_n hx hb dX0_init_39 rfl (lv_at hl 0 rfl) ?_
  refine lv_iconst (v := 5) hx hb dX0_init_40 (by decide) ?_
  refine zg_newa (w := w) (N := 5) (t := 1) (atype := .int) (ty := .int) X hG (by omega) (by omega) zu_95 rfl rfl (fun _ => rfl) (fun _ => rfl) (by decide) (by decide) (Nat.le_of_ble_eq_true rfl) (by rw [zsk_ne (by omega)]; exact hA6) (Nat.le_of_ble_eq_true rfl) (Nat.le_of_ble_eq_true rfl) dX0_init_41 (fun H hG => ?_)
  refine W.widen (k := 6) (n := 30) (Nat.le_of_ble_eq_true rfl) (Nat.le_of_ble_eq_true rfl) ?_
  refine zg_putF (w := w) (k := k) (ci := 0) (C := "HandToHand$Bench") (T := TX0) (ty0 := tyX0) (ty := (.array .int)) (v := .ref (w.2.2.2.1 + (k + 6))) X hmi hG (by omega) zsk_eq rfl zin_0 tyX0_ok nmX0 11 (by decide) rfl rfl zu_185 rfl rfl rfl rfl rfl dX0_init_43 (fun H locs hG => ?_)
  replace hG := zsk_re (E'' := .inr (0, [.null, .null, .int 0, .int 0, .int 0, .int 0, .ref (w.2.2.2.1 + (k + 1)), .ref (w.2.2.2.1 + (k + 2)), .ref (w.2.2.2.1 + (k + 3)), .ref (w.2.2.2.1 + (k + 4)), .ref (w.2.2.2.1 + (k + 5)), .ref (w.2.2.2.1 + (k + 6)), .null, .null])) rfl hG
  refine lv_aload_n hx hb dX0_init_46 rfl (lv_at hl 0 rfl) ?_
  refine lv_bipush (v := 40) hx hb dX0_init_47 (by decide) ?_
  refine zg_newa (w := w) (N := 40) (t := 1) (atype := .int) (ty := .int) X hG (by omega) (by omega) zu_95 rfl rfl (fun _ => rfl) (fun _ => rfl) (by decide) (by decide) (Nat.le_of_ble_eq_true rfl) (by rw [zsk_ne (by omega)]; exact hA7) (Nat.le_of_ble_eq_true rfl) (Nat.le_of_ble_eq_true rfl) dX0_init_49 (fun H hG => ?_)
  refine W.widen (k := 7) (n := 70) (Nat.le_of_ble_eq_true rfl) (Nat.le_of_ble_eq_true rfl) ?_
  refine zg_putF (w := w) (k := k) (ci := 0) (C := "HandToHand$Bench") (T := TX0) (ty0 := tyX0) (ty := (.array .int)) (v := .ref (w.2.2.2.1 + (k + 7))) X hmi hG (by omega) zsk_eq rfl zin_0 tyX0_ok nmX0 12 (by decide) rfl rfl zu_187 rfl rfl rfl rfl rfl dX0_init_51 (fun H locs hG => ?_)
  replace hG := zsk_re (E'' := .inr (0, [.null, .null, .int 0, .int 0, .int 0, .int 0, .ref (w.2.2.2.1 + (k + 1)), .ref (w.2.2.2.1 + (k + 2)), .ref (w.2.2.2.1 + (k + 3)), .ref (w.2.2.2.1 + (k + 4)), .ref (w.2.2.2.1 + (k + 5)), .ref (w.2.2.2.1 + (k + 6)), .ref (w.2.2.2.1 + (k + 7)), .null])) rfl hG
  refine lv_aload_n hx hb dX0_init_54 rfl (lv_at hl 0 rfl) ?_
  refine lv_bipush (v := 8) hx hb dX0_init_55 (by decide) ?_
  refine zg_newa (w := w) (N := 8) (t := 1) (atype := .int) (ty := .int) X hG (by omega) (by omega) zu_95 rfl rfl (fun _ => rfl) (fun _ => rfl) (by decide) (by decide) (Nat.le_of_ble_eq_true rfl) (by rw [zsk_ne (by omega)]; exact hA8) (Nat.le_of_ble_eq_true rfl) (Nat.le_of_ble_eq_true rfl) dX0_init_57 (fun H hG => ?_)
  refine W.widen (k := 8) (n := 78) (Nat.le_of_ble_eq_true rfl) (Nat.le_of_ble_eq_true rfl) ?_
  refine zg_putF (w := w) (k := k) (ci := 0) (C := "HandToHand$Bench") (T := TX0) (ty0 := tyX0) (ty := (.array .int)) (v := .ref (w.2.2.2.1 + (k + 8))) X hmi hG (by omega) zsk_eq rfl zin_0 tyX0_ok nmX0 13 (by decide) rfl rfl zu_190 rfl rfl rfl rfl rfl dX0_init_59 (fun H locs hG => ?_)
  replace hG := zsk_re (E'' := .inr (0, [.null, .null, .int 0, .int 0, .int 0, .int 0, .ref (w.2.2.2.1 + (k + 1)), .ref (w.2.2.2.1 + (k + 2)), .ref (w.2.2.2.1 + (k + 3)), .ref (w.2.2.2.1 + (k + 4)), .ref (w.2.2.2.1 + (k + 5)), .ref (w.2.2.2.1 + (k + 6)), .ref (w.2.2.2.1 + (k + 7)), .ref (w.2.2.2.1 + (k + 8))])) rfl hG
  refine lv_aload_n hx hb dX0_init_62 rfl (lv_at hl 0 rfl) ?_
  refine lv_aload_n hx hb dX0_init_63 rfl (lv_at hl 1 rfl) ?_
  refine zg_put (w := w) (k := k) (ci := 0) (C := "HandToHand$Bench") (T := TX0) (ty0 := tyX0) (ty := (.object "HandToHand$Told")) (v := .ref (w.2.2.2.1 + t)) X hG (by omega) zsk_eq rfl zin_0 tyX0_ok nmX0 0 (by decide) rfl zu_160 rfl rfl rfl rfl rfl dX0_init_64 (fun H locs hG => ?_)
  replace hG := zsk_re (E'' := .inr (0, [.ref (w.2.2.2.1 + t), .null, .int 0, .int 0, .int 0, .int 0, .ref (w.2.2.2.1 + (k + 1)), .ref (w.2.2.2.1 + (k + 2)), .ref (w.2.2.2.1 + (k + 3)), .ref (w.2.2.2.1 + (k + 4)), .ref (w.2.2.2.1 + (k + 5)), .ref (w.2.2.2.1 + (k + 6)), .ref (w.2.2.2.1 + (k + 7)), .ref (w.2.2.2.1 + (k + 8))])) rfl hG
  refine lv_aload_n hx hb dX0_init_67 rfl (lv_at hl 0 rfl) ?_
  refine lv_aload_n hx hb dX0_init_68 rfl (lv_at hl 2 rfl) ?_
  refine zg_putF (w := w) (k := k) (ci := 0) (C := "HandToHand$Bench") (T := TX0) (ty0 := tyX0) (ty := (.object "HandToHand$Handings")) (v := .ref (w.2.2.2.1 + g)) X hmi hG (by omega) zsk_eq rfl zin_0 tyX0_ok nmX0 1 (by decide) rfl rfl zu_162 rfl rfl rfl rfl rfl dX0_init_69 (fun H locs hG => ?_)
  replace hG := zsk_re (E'' := .inr (0, [.ref (w.2.2.2.1 + t), .ref (w.2.2.2.1 + g), .int 0, .int 0, .int 0, .int 0, .ref (w.2.2.2.1 + (k + 1)), .ref (w.2.2.2.1 + (k + 2)), .ref (w.2.2.2.1 + (k + 3)), .ref (w.2.2.2.1 + (k + 4)), .ref (w.2.2.2.1 + (k + 5)), .ref (w.2.2.2.1 + (k + 6)), .ref (w.2.2.2.1 + (k + 7)), .ref (w.2.2.2.1 + (k + 8))])) rfl hG
  replace hG := zsk_fin hF hG
  exact zg_vret (w' := zwn w sh (k + 9)) X hr hlk rfl hG rfl dX0_init_72
set_option maxHeartbeats 4000000 in
set_option maxRecDepth 20000 in
theorem i_Ring {l : Launch} {w : zWd} {k : Nat} {M M' : zMem} {sh : Nat → (Nat → Int32) → va_E} (hn : w.2.2.2.2 = k + 1) (hk : w.2.2.1 k (M k) = .inr (6, [.int 0, .int 0, .int 0, .int 0, .int 0, .int 0, .int 0, .int 0])) (hs : ∀ c, c < k → w.2.2.1 c (M c) = sh c (M' c)) (hF : sh k (M' k) = .inr (6, [.int 0, .int 0, .int 0, .int 0, .int 0, .int 0, .int 0, .int 0]))  : zMc l ⟨"HandToHand$Ring", "<init>", "()V"⟩ prog_8_method_1_code 1 1 12 0 0 w [.ref (w.2.2.2.1 + k)] M (zwn w sh (k + 1)) (fun M1 => M1 = M') := by
  refine zMetC (by decide) rfl (Nat.le_of_ble_eq_true rfl) ?_
  intro p e s m below meth c X hKo hmi hr hlk hml hsz hG ls hl
  have hx := X.1
  have hb := X.2.1
  have hl : lv_has ls 1 [(0, .ref (w.2.2.2.1 + k))] := hl
  have hG : zGo (zwn w (zsk sh k (.inr (6, [.int 0, .int 0, .int 0, .int 0, .int 0, .int 0, .int 0, .int 0]))) (k + 1)) s.heap M' s.heap [] := by
    rw [← hn]
    refine zGo_cast (w := w) (sh := w.2.2.1) (M := M) (fun c hc => ?_) hG
    by_cases q : c = k
    · subst q; rw [zsk_eq]; exact hk
    · rw [zsk_ne q]; exact hs c (by omega)
  refine lv_aload_n hx hb dX6_init_0 rfl (lv_at hl 0 rfl) ?_
  refine zg_obj X hml hl zu_291 zu_24 zu_25 ⟨Nat.le_of_ble_eq_true rfl, Nat.le_of_ble_eq_true rfl⟩ dX6_init_1 ?_
  replace hG := zsk_fin hF hG
  exact zg_vret (w' := zwn w sh (k + 1)) X hr hlk rfl hG rfl dX6_init_4
set_option maxHeartbeats 4000000 in
set_option maxRecDepth 20000 in
theorem i_Orders {l : Launch} {w : zWd} {k : Nat} {M M' : zMem} {sh : Nat → (Nat → Int32) → va_E} (hn : w.2.2.2.2 = k + 1) (hk : w.2.2.1 k (M k) = .inr (3, [.null, .null, .null])) (hs : ∀ c, c < k → w.2.2.1 c (M c) = sh c (M' c)) (hF : sh k (M' k) = .inr (3, [.ref (w.2.2.2.1 + (k + 1)), .ref (w.2.2.2.1 + (k + 2)), .ref (w.2.2.2.1 + (k + 3))])) (hA1 : sh (k + 1) (M' (k + 1)) = .inl (w.2.1 1, 120, .inl fun _ => 0)) (hA2 : sh (k + 2) (M' (k + 2)) = .inl (w.2.1 1, 120, .inl fun _ => 0)) (hA3 : sh (k + 3) (M' (k + 3)) = .inl (w.2.1 1, 5, .inl fun _ => 0)) : zMc l ⟨"HandToHand$Orders", "<init>", "()V"⟩ prog_5_method_1_code 1 1 12 3 245 w [.ref (w.2.2.2.1 + k)] M (zwn w sh (k + 4)) (fun M1 => M1 = M') := by
  refine zMetC (by decide) rfl (Nat.le_of_ble_eq_true rfl) ?_
  intro p e s m below meth c X hKo hmi hr hlk hml hsz hG ls hl
  have hx := X.1
  have hb := X.2.1
  have hl : lv_has ls 1 [(0, .ref (w.2.2.2.1 + k))] := hl
  have hG : zGo (zwn w (zsk sh k (.inr (3, [.null, .null, .null]))) (k + 1)) s.heap M' s.heap [] := by
    rw [← hn]
    refine zGo_cast (w := w) (sh := w.2.2.1) (M := M) (fun c hc => ?_) hG
    by_cases q : c = k
    · subst q; rw [zsk_eq]; exact hk
    · rw [zsk_ne q]; exact hs c (by omega)
  refine lv_aload_n hx hb dX3_init_0 rfl (lv_at hl 0 rfl) ?_
  refine zg_obj X hml hl zu_334 zu_24 zu_25 ⟨Nat.le_of_ble_eq_true rfl, Nat.le_of_ble_eq_true rfl⟩ dX3_init_1 ?_
  refine lv_aload_n hx hb dX3_init_4 rfl (lv_at hl 0 rfl) ?_
  refine lv_bipush (v := 120) hx hb dX3_init_5 (by decide) ?_
  refine zg_newa (w := w) (N := 120) (t := 1) (atype := .int) (ty := .int) X hG (by omega) (by omega) zu_95 rfl rfl (fun _ => rfl) (fun _ => rfl) (by decide) (by decide) (Nat.le_of_ble_eq_true rfl) (by rw [zsk_ne (by omega)]; exact hA1) (Nat.le_of_ble_eq_true rfl) (Nat.le_of_ble_eq_true rfl) dX3_init_7 (fun H hG => ?_)
  refine W.widen (k := 1) (n := 120) (Nat.le_of_ble_eq_true rfl) (Nat.le_of_ble_eq_true rfl) ?_
  refine zg_putF (w := w) (k := k) (ci := 3) (C := "HandToHand$Orders") (T := TX3) (ty0 := tyX3) (ty := (.array .int)) (v := .ref (w.2.2.2.1 + (k + 1))) X hmi hG (by omega) zsk_eq rfl zin_3 tyX3_ok nmX3 0 (by decide) rfl rfl zu_335 rfl rfl rfl rfl rfl dX3_init_9 (fun H locs hG => ?_)
  replace hG := zsk_re (E'' := .inr (3, [.ref (w.2.2.2.1 + (k + 1)), .null, .null])) rfl hG
  refine lv_aload_n hx hb dX3_init_12 rfl (lv_at hl 0 rfl) ?_
  refine lv_bipush (v := 120) hx hb dX3_init_13 (by decide) ?_
  refine zg_newa (w := w) (N := 120) (t := 1) (atype := .int) (ty := .int) X hG (by omega) (by omega) zu_95 rfl rfl (fun _ => rfl) (fun _ => rfl) (by decide) (by decide) (Nat.le_of_ble_eq_true rfl) (by rw [zsk_ne (by omega)]; exact hA2) (Nat.le_of_ble_eq_true rfl) (Nat.le_of_ble_eq_true rfl) dX3_init_15 (fun H hG => ?_)
  refine W.widen (k := 2) (n := 240) (Nat.le_of_ble_eq_true rfl) (Nat.le_of_ble_eq_true rfl) ?_
  refine zg_putF (w := w) (k := k) (ci := 3) (C := "HandToHand$Orders") (T := TX3) (ty0 := tyX3) (ty := (.array .int)) (v := .ref (w.2.2.2.1 + (k + 2))) X hmi hG (by omega) zsk_eq rfl zin_3 tyX3_ok nmX3 1 (by decide) rfl rfl zu_337 rfl rfl rfl rfl rfl dX3_init_17 (fun H locs hG => ?_)
  replace hG := zsk_re (E'' := .inr (3, [.ref (w.2.2.2.1 + (k + 1)), .ref (w.2.2.2.1 + (k + 2)), .null])) rfl hG
  refine lv_aload_n hx hb dX3_init_20 rfl (lv_at hl 0 rfl) ?_
  refine lv_iconst (v := 5) hx hb dX3_init_21 (by decide) ?_
  refine zg_newa (w := w) (N := 5) (t := 1) (atype := .int) (ty := .int) X hG (by omega) (by omega) zu_95 rfl rfl (fun _ => rfl) (fun _ => rfl) (by decide) (by decide) (Nat.le_of_ble_eq_true rfl) (by rw [zsk_ne (by omega)]; exact hA3) (Nat.le_of_ble_eq_true rfl) (Nat.le_of_ble_eq_true rfl) dX3_init_22 (fun H hG => ?_)
  refine W.widen (k := 3) (n := 245) (Nat.le_of_ble_eq_true rfl) (Nat.le_of_ble_eq_true rfl) ?_
  refine zg_putF (w := w) (k := k) (ci := 3) (C := "HandToHand$Orders") (T := TX3) (ty0 := tyX3) (ty := (.array .int)) (v := .ref (w.2.2.2.1 + (k + 3))) X hmi hG (by omega) zsk_eq rfl zin_3 tyX3_ok nmX3 2 (by decide) rfl rfl zu_339 rfl rfl rfl rfl rfl dX3_init_24 (fun H locs hG => ?_)
  replace hG := zsk_re (E'' := .inr (3, [.ref (w.2.2.2.1 + (k + 1)), .ref (w.2.2.2.1 + (k + 2)), .ref (w.2.2.2.1 + (k + 3))])) rfl hG
  replace hG := zsk_fin hF hG
  exact zg_vret (w' := zwn w sh (k + 4)) X hr hlk rfl hG rfl dX3_init_27
set_option maxHeartbeats 4000000 in
set_option maxRecDepth 20000 in
theorem i_Parts {l : Launch} {w : zWd} {k : Nat} {M M' : zMem} {sh : Nat → (Nat → Int32) → va_E} (hn : w.2.2.2.2 = k + 1) (hk : w.2.2.1 k (M k) = .inr (4, [.int 0, .int 0, .int 0, .null])) (hs : ∀ c, c < k → w.2.2.1 c (M c) = sh c (M' c)) (hF : sh k (M' k) = .inr (4, [.int 0, .int 0, .int 0, .ref (w.2.2.2.1 + (k + 1))])) (hA1 : sh (k + 1) (M' (k + 1)) = .inl (w.2.1 1, 5, .inl fun _ => 0)) : zMc l ⟨"HandToHand$Parts", "<init>", "()V"⟩ prog_6_method_1_code 1 1 12 1 5 w [.ref (w.2.2.2.1 + k)] M (zwn w sh (k + 2)) (fun M1 => M1 = M') := by
  refine zMetC (by decide) rfl (Nat.le_of_ble_eq_true rfl) ?_
  intro p e s m below meth c X hKo hmi hr hlk hml hsz hG ls hl
  have hx := X.1
  have hb := X.2.1
  have hl : lv_has ls 1 [(0, .ref (w.2.2.2.1 + k))] := hl
  have hG : zGo (zwn w (zsk sh k (.inr (4, [.int 0, .int 0, .int 0, .null]))) (k + 1)) s.heap M' s.heap [] := by
    rw [← hn]
    refine zGo_cast (w := w) (sh := w.2.2.1) (M := M) (fun c hc => ?_) hG
    by_cases q : c = k
    · subst q; rw [zsk_eq]; exact hk
    · rw [zsk_ne q]; exact hs c (by omega)
  refine lv_aload_n hx hb dX4_init_0 rfl (lv_at hl 0 rfl) ?_
  refine zg_obj X hml hl zu_353 zu_24 zu_25 ⟨Nat.le_of_ble_eq_true rfl, Nat.le_of_ble_eq_true rfl⟩ dX4_init_1 ?_
  refine lv_aload_n hx hb dX4_init_4 rfl (lv_at hl 0 rfl) ?_
  refine lv_iconst (v := 5) hx hb dX4_init_5 (by decide) ?_
  refine zg_newa (w := w) (N := 5) (t := 1) (atype := .int) (ty := .int) X hG (by omega) (by omega) zu_95 rfl rfl (fun _ => rfl) (fun _ => rfl) (by decide) (by decide) (Nat.le_of_ble_eq_true rfl) (by rw [zsk_ne (by omega)]; exact hA1) (Nat.le_of_ble_eq_true rfl) (Nat.le_of_ble_eq_true rfl) dX4_init_6 (fun H hG => ?_)
  refine W.widen (k := 1) (n := 5) (Nat.le_of_ble_eq_true rfl) (Nat.le_of_ble_eq_true rfl) ?_
  refine zg_putF (w := w) (k := k) (ci := 4) (C := "HandToHand$Parts") (T := TX4) (ty0 := tyX4) (ty := (.array .int)) (v := .ref (w.2.2.2.1 + (k + 1))) X hmi hG (by omega) zsk_eq rfl zin_4 tyX4_ok nmX4 3 (by decide) rfl rfl zu_359 rfl rfl rfl rfl rfl dX4_init_8 (fun H locs hG => ?_)
  replace hG := zsk_re (E'' := .inr (4, [.int 0, .int 0, .int 0, .ref (w.2.2.2.1 + (k + 1))])) rfl hG
  replace hG := zsk_fin hF hG
  exact zg_vret (w' := zwn w sh (k + 2)) X hr hlk rfl hG rfl dX4_init_11
set_option maxHeartbeats 4000000 in
set_option maxRecDepth 20000 in
theorem i_Sheet {l : Launch} {w : zWd} {k : Nat} {M M' : zMem} {sh : Nat → (Nat → Int32) → va_E} (hn : w.2.2.2.2 = k + 1) (hk : w.2.2.1 k (M k) = .inr (8, [.int 0, .int 0, .null])) (hs : ∀ c, c < k → w.2.2.1 c (M c) = sh c (M' c)) (hF : sh k (M' k) = .inr (8, [.int (-1), .int 0, .ref (w.2.2.2.1 + (k + 1))])) (hA1 : sh (k + 1) (M' (k + 1)) = .inl (w.2.1 1, 40, .inl fun _ => 0)) : zMc l ⟨"HandToHand$Sheet", "<init>", "()V"⟩ prog_10_method_1_code 1 1 12 1 40 w [.ref (w.2.2.2.1 + k)] M (zwn w sh (k + 2)) (fun M1 => M1 = M') := by
  refine zMetC (by decide) rfl (Nat.le_of_ble_eq_true rfl) ?_
  intro p e s m below meth c X hKo hmi hr hlk hml hsz hG ls hl
  have hx := X.1
  have hb := X.2.1
  have hl : lv_has ls 1 [(0, .ref (w.2.2.2.1 + k))] := hl
  have hG : zGo (zwn w (zsk sh k (.inr (8, [.int 0, .int 0, .null]))) (k + 1)) s.heap M' s.heap [] := by
    rw [← hn]
    refine zGo_cast (w := w) (sh := w.2.2.1) (M := M) (fun c hc => ?_) hG
    by_cases q : c = k
    · subst q; rw [zsk_eq]; exact hk
    · rw [zsk_ne q]; exact hs c (by omega)
  refine lv_aload_n hx hb dX8_init_0 rfl (lv_at hl 0 rfl) ?_
  refine zg_obj X hml hl zu_388 zu_24 zu_25 ⟨Nat.le_of_ble_eq_true rfl, Nat.le_of_ble_eq_true rfl⟩ dX8_init_1 ?_
  refine lv_aload_n hx hb dX8_init_4 rfl (lv_at hl 0 rfl) ?_
  refine lv_iconst (v := (-1)) hx hb dX8_init_5 (by decide) ?_
  refine zg_put (w := w) (k := k) (ci := 8) (C := "HandToHand$Sheet") (T := TX8) (ty0 := tyX8) (ty := .int) (v := .int (-1)) X hG (by omega) zsk_eq rfl zin_8 tyX8_ok nmX8 0 (by decide) rfl zu_389 rfl rfl rfl rfl rfl dX8_init_6 (fun H locs hG => ?_)
  replace hG := zsk_re (E'' := .inr (8, [.int (-1), .int 0, .null])) rfl hG
  refine lv_aload_n hx hb dX8_init_9 rfl (lv_at hl 0 rfl) ?_
  refine lv_bipush (v := 40) hx hb dX8_init_10 (by decide) ?_
  refine zg_newa (w := w) (N := 40) (t := 1) (atype := .int) (ty := .int) X hG (by omega) (by omega) zu_95 rfl rfl (fun _ => rfl) (fun _ => rfl) (by decide) (by decide) (Nat.le_of_ble_eq_true rfl) (by rw [zsk_ne (by omega)]; exact hA1) (Nat.le_of_ble_eq_true rfl) (Nat.le_of_ble_eq_true rfl) dX8_init_12 (fun H hG => ?_)
  refine W.widen (k := 1) (n := 40) (Nat.le_of_ble_eq_true rfl) (Nat.le_of_ble_eq_true rfl) ?_
  refine zg_putF (w := w) (k := k) (ci := 8) (C := "HandToHand$Sheet") (T := TX8) (ty0 := tyX8) (ty := (.array .int)) (v := .ref (w.2.2.2.1 + (k + 1))) X hmi hG (by omega) zsk_eq rfl zin_8 tyX8_ok nmX8 2 (by decide) rfl rfl zu_393 rfl rfl rfl rfl rfl dX8_init_14 (fun H locs hG => ?_)
  replace hG := zsk_re (E'' := .inr (8, [.int (-1), .int 0, .ref (w.2.2.2.1 + (k + 1))])) rfl hG
  replace hG := zsk_fin hF hG
  exact zg_vret (w' := zwn w sh (k + 2)) X hr hlk rfl hG rfl dX8_init_17
set_option maxHeartbeats 4000000 in
set_option maxRecDepth 20000 in
theorem i_Course {l : Launch} {w : zWd} {k : Nat} {t : Nat} {M M' : zMem} {sh : Nat → (Nat → Int32) → va_E} (hn : w.2.2.2.2 = k + 1) (hk : w.2.2.1 k (M k) = .inr (1, [.null, .null, .int 0, .int 0])) (hs : ∀ c, c < k → w.2.2.1 c (M c) = sh c (M' c)) (hF : sh k (M' k) = .inr (1, [.ref (w.2.2.2.1 + (k + 1)), .ref (w.2.2.2.1 + (k + 3)), .int 0, .int 0])) (hB1 : sh (k + 1) (M' (k + 1)) = .inr (2, [.int 0, .ref (w.2.2.2.1 + (k + 2))])) (hA2 : sh (k + 2) (M' (k + 2)) = .inl (w.2.1 1, 3000, .inl fun _ => 0)) (hB3 : sh (k + 3) (M' (k + 3)) = .inr (0, [.ref (w.2.2.2.1 + t), .ref (w.2.2.2.1 + (k + 1)), .int 0, .int 0, .int 0, .int 0, .ref (w.2.2.2.1 + (k + 4)), .ref (w.2.2.2.1 + (k + 5)), .ref (w.2.2.2.1 + (k + 6)), .ref (w.2.2.2.1 + (k + 7)), .ref (w.2.2.2.1 + (k + 8)), .ref (w.2.2.2.1 + (k + 9)), .ref (w.2.2.2.1 + (k + 10)), .ref (w.2.2.2.1 + (k + 11))])) (hA4 : sh (k + 4) (M' (k + 4)) = .inl (w.2.1 1, 5, .inl fun _ => 0)) (hA5 : sh (k + 5) (M' (k + 5)) = .inl (w.2.1 1, 5, .inl fun _ => 0)) (hA6 : sh (k + 6) (M' (k + 6)) = .inl (w.2.1 1, 5, .inl fun _ => 0)) (hA7 : sh (k + 7) (M' (k + 7)) = .inl (w.2.1 1, 5, .inl fun _ => 0)) (hA8 : sh (k + 8) (M' (k + 8)) = .inl (w.2.1 1, 5, .inl fun _ => 0)) (hA9 : sh (k + 9) (M' (k + 9)) = .inl (w.2.1 1, 5, .inl fun _ => 0)) (hA10 : sh (k + 10) (M' (k + 10)) = .inl (w.2.1 1, 40, .inl fun _ => 0)) (hA11 : sh (k + 11) (M' (k + 11)) = .inl (w.2.1 1, 8, .inl fun _ => 0)) : zMc l ⟨"HandToHand$Course", "<init>", "(LHandToHand$Told;)V"⟩ prog_3_method_1_code 2 2 34 11 3094 w [.ref (w.2.2.2.1 + k), .ref (w.2.2.2.1 + t)] M (zwn w sh (k + 12)) (fun M1 => M1 = M') := by
  refine zMetC (by decide) rfl (Nat.le_of_ble_eq_true rfl) ?_
  intro p e s m below meth c X hKo hmi hr hlk hml hsz hG ls hl
  have hx := X.1
  have hb := X.2.1
  have hl : lv_has ls 2 [(0, .ref (w.2.2.2.1 + k)), (1, .ref (w.2.2.2.1 + t))] := hl
  have hG : zGo (zwn w (zsk sh k (.inr (1, [.null, .null, .int 0, .int 0]))) (k + 1)) s.heap M' s.heap [] := by
    rw [← hn]
    refine zGo_cast (w := w) (sh := w.2.2.1) (M := M) (fun c hc => ?_) hG
    by_cases q : c = k
    · subst q; rw [zsk_eq]; exact hk
    · rw [zsk_ne q]; exact hs c (by omega)
  refine lv_aload_n hx hb dX1_init_0 rfl (lv_at hl 0 rfl) ?_
  refine zg_obj X hml hl zu_226 zu_24 zu_25 ⟨Nat.le_of_ble_eq_true rfl, Nat.le_of_ble_eq_true rfl⟩ dX1_init_1 ?_
  refine lv_aload_n hx hb dX1_init_4 rfl (lv_at hl 0 rfl) ?_
  refine zg_new (w := w) (ci := 2) (C := "HandToHand$Handings") (T := TX2) (ty0 := tyX2) (fs := [.int 0, .null]) X hG (by omega) (by omega) rfl zin_2 tyX2_ok zu_227 zu_228 zu_6 (fun j hj => by rcases (show j = 0 ∨ j = 1 by omega) with rfl | rfl <;> rfl) (Nat.le_of_ble_eq_true rfl) (Nat.le_of_ble_eq_true rfl) dX1_init_5 (fun H hG => ?_)
  refine W.widen (k := 1) (n := 2) (Nat.le_of_ble_eq_true rfl) (Nat.le_of_ble_eq_true rfl) ?_
  refine lv_dup hx hb dX1_init_8 rfl ?_
  refine zg_ctorN (w := w) (k := k + 1) (na := 0) (As := []) (rest := [.ref (w.2.2.2.1 + (k + 1)), .ref (w.2.2.2.1 + k)]) (host := "HandToHand") X hKo hml hl hG (by omega) (by omega) (List.mem_of_getElem? (i := 3) rfl) zu_230 zu_6 zu_231 rfl (by decide +kernel) (i_Handings (w := zwn w (zsk (zsk sh k (.inr (1, [.null, .null, .int 0, .int 0]))) (k + 1) (.inr (2, [.int 0, .null]))) (k + 2)) (k := k + 1) (M := M') (M' := M') (sh := zsk sh k (.inr (1, [.null, .null, .int 0, .int 0]))) rfl zsk_eq (fun c hc => congrFun (zsk_ne (by omega)) _) ((congrFun (zsk_ne (by omega)) _).trans hB1) ((congrFun (zsk_ne (by omega)) _).trans hA2)) rfl rfl ⟨Nat.le_of_ble_eq_true rfl, Nat.le_of_ble_eq_true rfl⟩ ⟨Nat.le_of_ble_eq_true rfl, Nat.le_of_ble_eq_true rfl⟩ rfl (Nat.le_of_ble_eq_true rfl) dX1_init_9 (fun M1 H locs eM hG => ?_)
  rw [eM] at hG
  refine W.widen (k := 2) (n := 3002) (Nat.le_of_ble_eq_true rfl) (Nat.le_of_ble_eq_true rfl) ?_
  refine zg_putF (w := w) (k := k) (ci := 1) (C := "HandToHand$Course") (T := TX1) (ty0 := tyX1) (ty := (.object "HandToHand$Handings")) (v := .ref (w.2.2.2.1 + (k + 1))) X hmi hG (by omega) zsk_eq rfl zin_1 tyX1_ok nmX1 0 (by decide) rfl rfl zu_245 rfl rfl rfl rfl rfl dX1_init_12 (fun H locs hG => ?_)
  replace hG := zsk_re (E'' := .inr (1, [.ref (w.2.2.2.1 + (k + 1)), .null, .int 0, .int 0])) rfl hG
  refine lv_aload_n hx hb dX1_init_15 rfl (lv_at hl 0 rfl) ?_
  refine zg_new (w := w) (ci := 0) (C := "HandToHand$Bench") (T := TX0) (ty0 := tyX0) (fs := [.null, .null, .int 0, .int 0, .int 0, .int 0, .null, .null, .null, .null, .null, .null, .null, .null]) X hG (by omega) (by omega) rfl zin_0 tyX0_ok zu_243 zu_155 zu_4 (fun j hj => by rcases (show j = 0 ∨ j = 1 ∨ j = 2 ∨ j = 3 ∨ j = 4 ∨ j = 5 ∨ j = 6 ∨ j = 7 ∨ j = 8 ∨ j = 9 ∨ j = 10 ∨ j = 11 ∨ j = 12 ∨ j = 13 by omega) with rfl | rfl | rfl | rfl | rfl | rfl | rfl | rfl | rfl | rfl | rfl | rfl | rfl | rfl <;> rfl) (Nat.le_of_ble_eq_true rfl) (Nat.le_of_ble_eq_true rfl) dX1_init_16 (fun H hG => ?_)
  refine W.widen (k := 3) (n := 3016) (Nat.le_of_ble_eq_true rfl) (Nat.le_of_ble_eq_true rfl) ?_
  refine lv_dup hx hb dX1_init_19 rfl ?_
  refine lv_aload_n hx hb dX1_init_20 rfl (lv_at hl 1 rfl) ?_
  refine lv_aload_n hx hb dX1_init_21 rfl (lv_at hl 0 rfl) ?_
  refine zg_get (w := w) (k := k) (ci := 1) (C := "HandToHand$Course") (T := TX1) (fs := [.ref (w.2.2.2.1 + (k + 1)), .null, .int 0, .int 0]) X hG (by omega) (by first | exact zsk_eq | exact (congrFun (zsk_ne (by omega)) _).trans zsk_eq) rfl zin_1 0 (by decide) rfl zu_245 rfl dX1_init_22 ?_
  refine zg_ctor (w := w) (k := k + 3) (na := 2) (As := [.ref (w.2.2.2.1 + t), .ref (w.2.2.2.1 + (k + 1))]) (rest := [.ref (w.2.2.2.1 + (k + 3)), .ref (w.2.2.2.1 + k)]) X hKo hml hl hG (by omega) (by omega) zu_244 zu_157 zu_4 zu_158 rfl (by decide +kernel) (i_BenchR (w := zwn w (zsk (zsk sh k (.inr (1, [.ref (w.2.2.2.1 + (k + 1)), .null, .int 0, .int 0]))) (k + 3) (.inr (0, [.null, .null, .int 0, .int 0, .int 0, .int 0, .null, .null, .null, .null, .null, .null, .null, .null]))) (k + 4)) (k := k + 3) (M := M') (M' := M') (sh := zsk sh k (.inr (1, [.ref (w.2.2.2.1 + (k + 1)), .null, .int 0, .int 0]))) rfl zsk_eq (fun c hc => congrFun (zsk_ne (by omega)) _) ((congrFun (zsk_ne (by omega)) _).trans hB3) ((congrFun (zsk_ne (by omega)) _).trans hA4) ((congrFun (zsk_ne (by omega)) _).trans hA5) ((congrFun (zsk_ne (by omega)) _).trans hA6) ((congrFun (zsk_ne (by omega)) _).trans hA7) ((congrFun (zsk_ne (by omega)) _).trans hA8) ((congrFun (zsk_ne (by omega)) _).trans hA9) ((congrFun (zsk_ne (by omega)) _).trans hA10) ((congrFun (zsk_ne (by omega)) _).trans hA11)) rfl rfl ⟨Nat.le_of_ble_eq_true rfl, Nat.le_of_ble_eq_true rfl⟩ ⟨Nat.le_of_ble_eq_true rfl, Nat.le_of_ble_eq_true rfl⟩ rfl (Nat.le_of_ble_eq_true rfl) dX1_init_25 (fun M1 H locs eM hG => ?_)
  rw [eM] at hG
  refine W.widen (k := 11) (n := 3094) (Nat.le_of_ble_eq_true rfl) (Nat.le_of_ble_eq_true rfl) ?_
  refine zg_putF (w := w) (k := k) (ci := 1) (C := "HandToHand$Course") (T := TX1) (ty0 := tyX1) (ty := (.object "HandToHand$Bench")) (v := .ref (w.2.2.2.1 + (k + 3))) X hmi hG (by omega) zsk_eq rfl zin_1 tyX1_ok nmX1 1 (by decide) rfl rfl zu_247 rfl rfl rfl rfl rfl dX1_init_28 (fun H locs hG => ?_)
  replace hG := zsk_re (E'' := .inr (1, [.ref (w.2.2.2.1 + (k + 1)), .ref (w.2.2.2.1 + (k + 3)), .int 0, .int 0])) rfl hG
  replace hG := zsk_fin hF hG
  exact zg_vret (w' := zwn w sh (k + 12)) X hr hlk rfl hG rfl dX1_init_31
set_option maxHeartbeats 4000000 in
set_option maxRecDepth 20000 in
theorem i_Settling {l : Launch} {w : zWd} {k : Nat} {t : Nat} {M M' : zMem} {sh : Nat → (Nat → Int32) → va_E} (hn : w.2.2.2.2 = k + 1) (hk : w.2.2.1 k (M k) = .inr (7, [.null, .int 0, .null, .null, .null])) (hs : ∀ c, c < k → w.2.2.1 c (M c) = sh c (M' c)) (hF : sh k (M' k) = .inr (7, [.ref (w.2.2.2.1 + (k + 4)), .int 0, .ref (w.2.2.2.1 + (k + 1)), .ref (w.2.2.2.1 + (k + 2)), .ref (w.2.2.2.1 + (k + 3))])) (hA1 : sh (k + 1) (M' (k + 1)) = .inl (w.2.1 1, 5520, .inl fun _ => 0)) (hA2 : sh (k + 2) (M' (k + 2)) = .inl (w.2.1 1, 120, .inl fun _ => 0)) (hA3 : sh (k + 3) (M' (k + 3)) = .inl (w.2.1 1, 120, .inl fun _ => 0)) (hB4 : sh (k + 4) (M' (k + 4)) = .inr (0, [.ref (w.2.2.2.1 + t), .null, .int 0, .int 0, .int 0, .int 0, .ref (w.2.2.2.1 + (k + 5)), .ref (w.2.2.2.1 + (k + 6)), .ref (w.2.2.2.1 + (k + 7)), .ref (w.2.2.2.1 + (k + 8)), .ref (w.2.2.2.1 + (k + 9)), .ref (w.2.2.2.1 + (k + 10)), .ref (w.2.2.2.1 + (k + 11)), .ref (w.2.2.2.1 + (k + 12))])) (hA5 : sh (k + 5) (M' (k + 5)) = .inl (w.2.1 1, 5, .inl fun _ => 0)) (hA6 : sh (k + 6) (M' (k + 6)) = .inl (w.2.1 1, 5, .inl fun _ => 0)) (hA7 : sh (k + 7) (M' (k + 7)) = .inl (w.2.1 1, 5, .inl fun _ => 0)) (hA8 : sh (k + 8) (M' (k + 8)) = .inl (w.2.1 1, 5, .inl fun _ => 0)) (hA9 : sh (k + 9) (M' (k + 9)) = .inl (w.2.1 1, 5, .inl fun _ => 0)) (hA10 : sh (k + 10) (M' (k + 10)) = .inl (w.2.1 1, 5, .inl fun _ => 0)) (hA11 : sh (k + 11) (M' (k + 11)) = .inl (w.2.1 1, 40, .inl fun _ => 0)) (hA12 : sh (k + 12) (M' (k + 12)) = .inl (w.2.1 1, 8, .inl fun _ => 0)) : zMc l ⟨"HandToHand$Settling", "<init>", "(LHandToHand$Told;)V"⟩ prog_9_method_1_code 2 2 34 12 5852 w [.ref (w.2.2.2.1 + k), .ref (w.2.2.2.1 + t)] M (zwn w sh (k + 13)) (fun M1 => M1 = M') := by
  refine zMetC (by decide) rfl (Nat.le_of_ble_eq_true rfl) ?_
  intro p e s m below meth c X hKo hmi hr hlk hml hsz hG ls hl
  have hx := X.1
  have hb := X.2.1
  have hl : lv_has ls 2 [(0, .ref (w.2.2.2.1 + k)), (1, .ref (w.2.2.2.1 + t))] := hl
  have hG : zGo (zwn w (zsk sh k (.inr (7, [.null, .int 0, .null, .null, .null]))) (k + 1)) s.heap M' s.heap [] := by
    rw [← hn]
    refine zGo_cast (w := w) (sh := w.2.2.1) (M := M) (fun c hc => ?_) hG
    by_cases q : c = k
    · subst q; rw [zsk_eq]; exact hk
    · rw [zsk_ne q]; exact hs c (by omega)
  refine lv_aload_n hx hb dX7_init_0 rfl (lv_at hl 0 rfl) ?_
  refine zg_obj X hml hl zu_267 zu_24 zu_25 ⟨Nat.le_of_ble_eq_true rfl, Nat.le_of_ble_eq_true rfl⟩ dX7_init_1 ?_
  refine lv_aload_n hx hb dX7_init_4 rfl (lv_at hl 0 rfl) ?_
  refine lv_sipush (v := 5520) hx hb dX7_init_5 (by decide) ?_
  refine zg_newa (w := w) (N := 5520) (t := 1) (atype := .int) (ty := .int) X hG (by omega) (by omega) zu_95 rfl rfl (fun _ => rfl) (fun _ => rfl) (by decide) (by decide) (Nat.le_of_ble_eq_true rfl) (by rw [zsk_ne (by omega)]; exact hA1) (Nat.le_of_ble_eq_true rfl) (Nat.le_of_ble_eq_true rfl) dX7_init_8 (fun H hG => ?_)
  refine W.widen (k := 1) (n := 5520) (Nat.le_of_ble_eq_true rfl) (Nat.le_of_ble_eq_true rfl) ?_
  refine zg_putF (w := w) (k := k) (ci := 7) (C := "HandToHand$Settling") (T := TX7) (ty0 := tyX7) (ty := (.array .int)) (v := .ref (w.2.2.2.1 + (k + 1))) X hmi hG (by omega) zsk_eq rfl zin_7 tyX7_ok nmX7 2 (by decide) rfl rfl zu_272 rfl rfl rfl rfl rfl dX7_init_10 (fun H locs hG => ?_)
  replace hG := zsk_re (E'' := .inr (7, [.null, .int 0, .ref (w.2.2.2.1 + (k + 1)), .null, .null])) rfl hG
  refine lv_aload_n hx hb dX7_init_13 rfl (lv_at hl 0 rfl) ?_
  refine lv_bipush (v := 120) hx hb dX7_init_14 (by decide) ?_
  refine zg_newa (w := w) (N := 120) (t := 1) (atype := .int) (ty := .int) X hG (by omega) (by omega) zu_95 rfl rfl (fun _ => rfl) (fun _ => rfl) (by decide) (by decide) (Nat.le_of_ble_eq_true rfl) (by rw [zsk_ne (by omega)]; exact hA2) (Nat.le_of_ble_eq_true rfl) (Nat.le_of_ble_eq_true rfl) dX7_init_16 (fun H hG => ?_)
  refine W.widen (k := 2) (n := 5640) (Nat.le_of_ble_eq_true rfl) (Nat.le_of_ble_eq_true rfl) ?_
  refine zg_putF (w := w) (k := k) (ci := 7) (C := "HandToHand$Settling") (T := TX7) (ty0 := tyX7) (ty := (.array .int)) (v := .ref (w.2.2.2.1 + (k + 2))) X hmi hG (by omega) zsk_eq rfl zin_7 tyX7_ok nmX7 3 (by decide) rfl rfl zu_273 rfl rfl rfl rfl rfl dX7_init_18 (fun H locs hG => ?_)
  replace hG := zsk_re (E'' := .inr (7, [.null, .int 0, .ref (w.2.2.2.1 + (k + 1)), .ref (w.2.2.2.1 + (k + 2)), .null])) rfl hG
  refine lv_aload_n hx hb dX7_init_21 rfl (lv_at hl 0 rfl) ?_
  refine lv_bipush (v := 120) hx hb dX7_init_22 (by decide) ?_
  refine zg_newa (w := w) (N := 120) (t := 1) (atype := .int) (ty := .int) X hG (by omega) (by omega) zu_95 rfl rfl (fun _ => rfl) (fun _ => rfl) (by decide) (by decide) (Nat.le_of_ble_eq_true rfl) (by rw [zsk_ne (by omega)]; exact hA3) (Nat.le_of_ble_eq_true rfl) (Nat.le_of_ble_eq_true rfl) dX7_init_24 (fun H hG => ?_)
  refine W.widen (k := 3) (n := 5760) (Nat.le_of_ble_eq_true rfl) (Nat.le_of_ble_eq_true rfl) ?_
  refine zg_putF (w := w) (k := k) (ci := 7) (C := "HandToHand$Settling") (T := TX7) (ty0 := tyX7) (ty := (.array .int)) (v := .ref (w.2.2.2.1 + (k + 3))) X hmi hG (by omega) zsk_eq rfl zin_7 tyX7_ok nmX7 4 (by decide) rfl rfl zu_274 rfl rfl rfl rfl rfl dX7_init_26 (fun H locs hG => ?_)
  replace hG := zsk_re (E'' := .inr (7, [.null, .int 0, .ref (w.2.2.2.1 + (k + 1)), .ref (w.2.2.2.1 + (k + 2)), .ref (w.2.2.2.1 + (k + 3))])) rfl hG
  refine lv_aload_n hx hb dX7_init_29 rfl (lv_at hl 0 rfl) ?_
  refine zg_new (w := w) (ci := 0) (C := "HandToHand$Bench") (T := TX0) (ty0 := tyX0) (fs := [.null, .null, .int 0, .int 0, .int 0, .int 0, .null, .null, .null, .null, .null, .null, .null, .null]) X hG (by omega) (by omega) rfl zin_0 tyX0_ok zu_268 zu_155 zu_4 (fun j hj => by rcases (show j = 0 ∨ j = 1 ∨ j = 2 ∨ j = 3 ∨ j = 4 ∨ j = 5 ∨ j = 6 ∨ j = 7 ∨ j = 8 ∨ j = 9 ∨ j = 10 ∨ j = 11 ∨ j = 12 ∨ j = 13 by omega) with rfl | rfl | rfl | rfl | rfl | rfl | rfl | rfl | rfl | rfl | rfl | rfl | rfl | rfl <;> rfl) (Nat.le_of_ble_eq_true rfl) (Nat.le_of_ble_eq_true rfl) dX7_init_30 (fun H hG => ?_)
  refine W.widen (k := 4) (n := 5774) (Nat.le_of_ble_eq_true rfl) (Nat.le_of_ble_eq_true rfl) ?_
  refine lv_dup hx hb dX7_init_33 rfl ?_
  refine lv_aload_n hx hb dX7_init_34 rfl (lv_at hl 1 rfl) ?_
  refine lv_null hx hb dX7_init_35 ?_
  refine zg_ctor (w := w) (k := k + 4) (na := 2) (As := [.ref (w.2.2.2.1 + t), .null]) (rest := [.ref (w.2.2.2.1 + (k + 4)), .ref (w.2.2.2.1 + k)]) X hKo hml hl hG (by omega) (by omega) zu_269 zu_157 zu_4 zu_158 rfl (by decide +kernel) (i_BenchN (w := zwn w (zsk (zsk sh k (.inr (7, [.null, .int 0, .ref (w.2.2.2.1 + (k + 1)), .ref (w.2.2.2.1 + (k + 2)), .ref (w.2.2.2.1 + (k + 3))]))) (k + 4) (.inr (0, [.null, .null, .int 0, .int 0, .int 0, .int 0, .null, .null, .null, .null, .null, .null, .null, .null]))) (k + 5)) (k := k + 4) (M := M') (M' := M') (sh := zsk sh k (.inr (7, [.null, .int 0, .ref (w.2.2.2.1 + (k + 1)), .ref (w.2.2.2.1 + (k + 2)), .ref (w.2.2.2.1 + (k + 3))]))) rfl zsk_eq (fun c hc => congrFun (zsk_ne (by omega)) _) ((congrFun (zsk_ne (by omega)) _).trans hB4) ((congrFun (zsk_ne (by omega)) _).trans hA5) ((congrFun (zsk_ne (by omega)) _).trans hA6) ((congrFun (zsk_ne (by omega)) _).trans hA7) ((congrFun (zsk_ne (by omega)) _).trans hA8) ((congrFun (zsk_ne (by omega)) _).trans hA9) ((congrFun (zsk_ne (by omega)) _).trans hA10) ((congrFun (zsk_ne (by omega)) _).trans hA11) ((congrFun (zsk_ne (by omega)) _).trans hA12)) rfl rfl ⟨Nat.le_of_ble_eq_true rfl, Nat.le_of_ble_eq_true rfl⟩ ⟨Nat.le_of_ble_eq_true rfl, Nat.le_of_ble_eq_true rfl⟩ rfl (Nat.le_of_ble_eq_true rfl) dX7_init_36 (fun M1 H locs eM hG => ?_)
  rw [eM] at hG
  refine W.widen (k := 12) (n := 5852) (Nat.le_of_ble_eq_true rfl) (Nat.le_of_ble_eq_true rfl) ?_
  refine zg_putF (w := w) (k := k) (ci := 7) (C := "HandToHand$Settling") (T := TX7) (ty0 := tyX7) (ty := (.object "HandToHand$Bench")) (v := .ref (w.2.2.2.1 + (k + 4))) X hmi hG (by omega) zsk_eq rfl zin_7 tyX7_ok nmX7 0 (by decide) rfl rfl zu_270 rfl rfl rfl rfl rfl dX7_init_39 (fun H locs hG => ?_)
  replace hG := zsk_re (E'' := .inr (7, [.ref (w.2.2.2.1 + (k + 4)), .int 0, .ref (w.2.2.2.1 + (k + 1)), .ref (w.2.2.2.1 + (k + 2)), .ref (w.2.2.2.1 + (k + 3))])) rfl hG
  replace hG := zsk_fin hF hG
  exact zg_vret (w' := zwn w sh (k + 13)) X hr hlk rfl hG rfl dX7_init_42
set_option maxHeartbeats 4000000 in
set_option maxRecDepth 20000 in
theorem i_Reader {l : Launch} {w : zWd} {k : Nat} {M M' : zMem} {sh : Nat → (Nat → Int32) → va_E} (hn : w.2.2.2.2 = k + 1) (hk : w.2.2.1 k (M k) = .inr (5, [.null, .int 0, .int 0, .int 0, .null, .int 0, .int 0, .int 0, .int 0, .int 0, .int 0, .int 0, .int 0, .int 0])) (hs : ∀ c, c < k → w.2.2.1 c (M c) = sh c (M' c)) (hF : sh k (M' k) = .inr (5, [.ref (w.2.2.2.1 + (k + 1)), .int 0, .int 0, .int 0, .ref (w.2.2.2.1 + (k + 6)), .int 0, .int 0, .int 0, .int 0, .int 0, .int 0, .int 0, .int 0, .int 0])) (hB1 : sh (k + 1) (M' (k + 1)) = .inr (9, [.int 0, .int 0, .int 0, .int 0, .int 0, .int 0, .int 0, .ref (w.2.2.2.1 + (k + 2)), .ref (w.2.2.2.1 + (k + 3)), .ref (w.2.2.2.1 + (k + 4)), .ref (w.2.2.2.1 + (k + 5))])) (hA2 : sh (k + 2) (M' (k + 2)) = .inl (w.2.1 1, 6, .inl fun _ => 0)) (hA3 : sh (k + 3) (M' (k + 3)) = .inl (w.2.1 1, 24, .inl fun _ => 0)) (hA4 : sh (k + 4) (M' (k + 4)) = .inl (w.2.1 1, 40, .inl fun _ => 0)) (hA5 : sh (k + 5) (M' (k + 5)) = .inl (w.2.1 1, 5, .inl fun _ => 0)) (hA6 : sh (k + 6) (M' (k + 6)) = .inl (w.2.1 0, 400, .inl fun _ => 0)) : zMc l ⟨"HandToHand$Reader", "<init>", "()V"⟩ prog_7_method_1_code 1 2 32 6 486 w [.ref (w.2.2.2.1 + k)] M (zwn w sh (k + 7)) (fun M1 => M1 = M') := by
  refine zMetC (by decide) rfl (Nat.le_of_ble_eq_true rfl) ?_
  intro p e s m below meth c X hKo hmi hr hlk hml hsz hG ls hl
  have hx := X.1
  have hb := X.2.1
  have hl : lv_has ls 1 [(0, .ref (w.2.2.2.1 + k))] := hl
  have hG : zGo (zwn w (zsk sh k (.inr (5, [.null, .int 0, .int 0, .int 0, .null, .int 0, .int 0, .int 0, .int 0, .int 0, .int 0, .int 0, .int 0, .int 0]))) (k + 1)) s.heap M' s.heap [] := by
    rw [← hn]
    refine zGo_cast (w := w) (sh := w.2.2.1) (M := M) (fun c hc => ?_) hG
    by_cases q : c = k
    · subst q; rw [zsk_eq]; exact hk
    · rw [zsk_ne q]; exact hs c (by omega)
  refine lv_aload_n hx hb dX5_init_0 rfl (lv_at hl 0 rfl) ?_
  refine zg_obj X hml hl zu_101 zu_24 zu_25 ⟨Nat.le_of_ble_eq_true rfl, Nat.le_of_ble_eq_true rfl⟩ dX5_init_1 ?_
  refine lv_aload_n hx hb dX5_init_4 rfl (lv_at hl 0 rfl) ?_
  refine zg_new (w := w) (ci := 9) (C := "HandToHand$Told") (T := TX9) (ty0 := tyX9) (fs := [.int 0, .int 0, .int 0, .int 0, .int 0, .int 0, .int 0, .null, .null, .null, .null]) X hG (by omega) (by omega) rfl zin_9 tyX9_ok zu_102 zu_27 zu_2 (fun j hj => by rcases (show j = 0 ∨ j = 1 ∨ j = 2 ∨ j = 3 ∨ j = 4 ∨ j = 5 ∨ j = 6 ∨ j = 7 ∨ j = 8 ∨ j = 9 ∨ j = 10 by omega) with rfl | rfl | rfl | rfl | rfl | rfl | rfl | rfl | rfl | rfl | rfl <;> rfl) (Nat.le_of_ble_eq_true rfl) (Nat.le_of_ble_eq_true rfl) dX5_init_5 (fun H hG => ?_)
  refine W.widen (k := 1) (n := 11) (Nat.le_of_ble_eq_true rfl) (Nat.le_of_ble_eq_true rfl) ?_
  refine lv_dup hx hb dX5_init_8 rfl ?_
  refine zg_ctorN (w := w) (k := k + 1) (na := 0) (As := []) (rest := [.ref (w.2.2.2.1 + (k + 1)), .ref (w.2.2.2.1 + k)]) (host := "HandToHand") X hKo hml hl hG (by omega) (by omega) (List.mem_of_getElem? (i := 2) rfl) zu_29 zu_2 zu_30 rfl (by decide +kernel) (i_Told (w := zwn w (zsk (zsk sh k (.inr (5, [.null, .int 0, .int 0, .int 0, .null, .int 0, .int 0, .int 0, .int 0, .int 0, .int 0, .int 0, .int 0, .int 0]))) (k + 1) (.inr (9, [.int 0, .int 0, .int 0, .int 0, .int 0, .int 0, .int 0, .null, .null, .null, .null]))) (k + 2)) (k := k + 1) (M := M') (M' := M') (sh := zsk sh k (.inr (5, [.null, .int 0, .int 0, .int 0, .null, .int 0, .int 0, .int 0, .int 0, .int 0, .int 0, .int 0, .int 0, .int 0]))) rfl zsk_eq (fun c hc => congrFun (zsk_ne (by omega)) _) ((congrFun (zsk_ne (by omega)) _).trans hB1) ((congrFun (zsk_ne (by omega)) _).trans hA2) ((congrFun (zsk_ne (by omega)) _).trans hA3) ((congrFun (zsk_ne (by omega)) _).trans hA4) ((congrFun (zsk_ne (by omega)) _).trans hA5)) rfl rfl ⟨Nat.le_of_ble_eq_true rfl, Nat.le_of_ble_eq_true rfl⟩ ⟨Nat.le_of_ble_eq_true rfl, Nat.le_of_ble_eq_true rfl⟩ rfl (Nat.le_of_ble_eq_true rfl) dX5_init_9 (fun M1 H locs eM hG => ?_)
  rw [eM] at hG
  refine W.widen (k := 5) (n := 86) (Nat.le_of_ble_eq_true rfl) (Nat.le_of_ble_eq_true rfl) ?_
  refine zg_putF (w := w) (k := k) (ci := 5) (C := "HandToHand$Reader") (T := TX5) (ty0 := tyX5) (ty := (.object "HandToHand$Told")) (v := .ref (w.2.2.2.1 + (k + 1))) X hmi hG (by omega) zsk_eq rfl zin_5 tyX5_ok nmX5 0 (by decide) rfl rfl zu_104 rfl rfl rfl rfl rfl dX5_init_12 (fun H locs hG => ?_)
  replace hG := zsk_re (E'' := .inr (5, [.ref (w.2.2.2.1 + (k + 1)), .int 0, .int 0, .int 0, .null, .int 0, .int 0, .int 0, .int 0, .int 0, .int 0, .int 0, .int 0, .int 0])) rfl hG
  refine lv_aload_n hx hb dX5_init_15 rfl (lv_at hl 0 rfl) ?_
  refine lv_sipush (v := 400) hx hb dX5_init_16 (by decide) ?_
  refine zg_newa (w := w) (N := 400) (t := 0) (atype := .byte) (ty := .byte) X hG (by omega) (by omega) zu_153 rfl rfl (fun _ => rfl) (fun _ => rfl) (by decide) (by decide) (Nat.le_of_ble_eq_true rfl) (by rw [zsk_ne (by omega)]; exact hA6) (Nat.le_of_ble_eq_true rfl) (Nat.le_of_ble_eq_true rfl) dX5_init_19 (fun H hG => ?_)
  refine W.widen (k := 6) (n := 486) (Nat.le_of_ble_eq_true rfl) (Nat.le_of_ble_eq_true rfl) ?_
  refine zg_putF (w := w) (k := k) (ci := 5) (C := "HandToHand$Reader") (T := TX5) (ty0 := tyX5) (ty := (.array .byte)) (v := .ref (w.2.2.2.1 + (k + 6))) X hmi hG (by omega) zsk_eq rfl zin_5 tyX5_ok nmX5 4 (by decide) rfl rfl zu_112 rfl rfl rfl rfl rfl dX5_init_21 (fun H locs hG => ?_)
  replace hG := zsk_re (E'' := .inr (5, [.ref (w.2.2.2.1 + (k + 1)), .int 0, .int 0, .int 0, .ref (w.2.2.2.1 + (k + 6)), .int 0, .int 0, .int 0, .int 0, .int 0, .int 0, .int 0, .int 0, .int 0])) rfl hG
  replace hG := zsk_fin hF hG
  exact zg_vret (w' := zwn w sh (k + 7)) X hr hlk rfl hG rfl dX5_init_24
/-- the class's cells -/
def zshL (ar : Nat → ClassId) (b : Nat) : List ((Nat → Int32) → va_E) := [fun f => .inr (10, [.ref (b + 1), .ref (b + 6), .ref (b + 11), .ref (b + 18), .ref (b + 27), .ref (b + 28), .ref (b + 29), .ref (b + 41), .ref (b + 54), .ref (b + 55), .ref (b + 56), .ref (b + 60), .ref (b + 62), .int (f 13)]),
  fun f => .inr (9, [.int (f 0), .int (f 1), .int (f 2), .int (f 3), .int (f 4), .int (f 5), .int (f 6), .ref (b + 2), .ref (b + 3), .ref (b + 4), .ref (b + 5)]),
  fun f => .inl (ar 1, 6, .inl f),
  fun f => .inl (ar 1, 24, .inl f),
  fun f => .inl (ar 1, 40, .inl f),
  fun f => .inl (ar 1, 5, .inl f),
  fun f => .inr (9, [.int (f 0), .int (f 1), .int (f 2), .int (f 3), .int (f 4), .int (f 5), .int (f 6), .ref (b + 7), .ref (b + 8), .ref (b + 9), .ref (b + 10)]),
  fun f => .inl (ar 1, 6, .inl f),
  fun f => .inl (ar 1, 24, .inl f),
  fun f => .inl (ar 1, 40, .inl f),
  fun f => .inl (ar 1, 5, .inl f),
  fun f => .inr (5, [.ref (b + 12), .int (f 1), .int (f 2), .int (f 3), .ref (b + 17), .int (f 5), .int (f 6), .int (f 7), .int (f 8), .int (f 9), .int (f 10), .int (f 11), .int (f 12), .int (f 13)]),
  fun f => .inr (9, [.int (f 0), .int (f 1), .int (f 2), .int (f 3), .int (f 4), .int (f 5), .int (f 6), .ref (b + 13), .ref (b + 14), .ref (b + 15), .ref (b + 16)]),
  fun f => .inl (ar 1, 6, .inl f),
  fun f => .inl (ar 1, 24, .inl f),
  fun f => .inl (ar 1, 40, .inl f),
  fun f => .inl (ar 1, 5, .inl f),
  fun f => .inl (ar 0, 400, .inl f),
  fun f => .inr (0, [.ref (b + ztc (f 0)), va_rf ((zlg 18).map (fun q => b + q)), .int (f 2), .int (f 3), .int (f 4), .int (f 5), .ref (b + 19), .ref (b + 20), .ref (b + 21), .ref (b + 22), .ref (b + 23), .ref (b + 24), .ref (b + 25), .ref (b + 26)]),
  fun f => .inl (ar 1, 5, .inl f),
  fun f => .inl (ar 1, 5, .inl f),
  fun f => .inl (ar 1, 5, .inl f),
  fun f => .inl (ar 1, 5, .inl f),
  fun f => .inl (ar 1, 5, .inl f),
  fun f => .inl (ar 1, 5, .inl f),
  fun f => .inl (ar 1, 40, .inl f),
  fun f => .inl (ar 1, 8, .inl f),
  fun _ => .inl (ar 3, 2, .inr (.inr (.inr (.inr (fun j => some (b + (63 + 9 * j))))))),
  fun f => .inl (ar 2, 2, .inl f),
  fun f => .inr (1, [.ref (b + 30), .ref (b + 32), .int (f 2), .int (f 3)]),
  fun f => .inr (2, [.int (f 0), .ref (b + 31)]),
  fun f => .inl (ar 1, 3000, .inl f),
  fun f => .inr (0, [.ref (b + ztc (f 0)), va_rf ((zlg 32).map (fun q => b + q)), .int (f 2), .int (f 3), .int (f 4), .int (f 5), .ref (b + 33), .ref (b + 34), .ref (b + 35), .ref (b + 36), .ref (b + 37), .ref (b + 38), .ref (b + 39), .ref (b + 40)]),
  fun f => .inl (ar 1, 5, .inl f),
  fun f => .inl (ar 1, 5, .inl f),
  fun f => .inl (ar 1, 5, .inl f),
  fun f => .inl (ar 1, 5, .inl f),
  fun f => .inl (ar 1, 5, .inl f),
  fun f => .inl (ar 1, 5, .inl f),
  fun f => .inl (ar 1, 40, .inl f),
  fun f => .inl (ar 1, 8, .inl f),
  fun f => .inr (7, [.ref (b + 45), .int (f 1), .ref (b + 42), .ref (b + 43), .ref (b + 44)]),
  fun f => .inl (ar 1, 5520, .inl f),
  fun f => .inl (ar 1, 120, .inl f),
  fun f => .inl (ar 1, 120, .inl f),
  fun f => .inr (0, [.ref (b + ztc (f 0)), va_rf ((zlg 45).map (fun q => b + q)), .int (f 2), .int (f 3), .int (f 4), .int (f 5), .ref (b + 46), .ref (b + 47), .ref (b + 48), .ref (b + 49), .ref (b + 50), .ref (b + 51), .ref (b + 52), .ref (b + 53)]),
  fun f => .inl (ar 1, 5, .inl f),
  fun f => .inl (ar 1, 5, .inl f),
  fun f => .inl (ar 1, 5, .inl f),
  fun f => .inl (ar 1, 5, .inl f),
  fun f => .inl (ar 1, 5, .inl f),
  fun f => .inl (ar 1, 5, .inl f),
  fun f => .inl (ar 1, 40, .inl f),
  fun f => .inl (ar 1, 8, .inl f),
  fun f => .inr (6, [.int (f 0), .int (f 1), .int (f 2), .int (f 3), .int (f 4), .int (f 5), .int (f 6), .int (f 7)]),
  fun f => .inr (6, [.int (f 0), .int (f 1), .int (f 2), .int (f 3), .int (f 4), .int (f 5), .int (f 6), .int (f 7)]),
  fun _ => .inr (3, [.ref (b + 57), .ref (b + 58), .ref (b + 59)]),
  fun f => .inl (ar 1, 120, .inl f),
  fun f => .inl (ar 1, 120, .inl f),
  fun f => .inl (ar 1, 5, .inl f),
  fun f => .inr (4, [.int (f 0), .int (f 1), .int (f 2), .ref (b + 61)]),
  fun f => .inl (ar 1, 5, .inl f),
  fun _ => .inl (ar 4, 4, .inr (.inr (.inr (.inr (fun j => some (b + (81 + 2 * j))))))),
  fun f => .inr (0, [.ref (b + ztc (f 0)), va_rf ((zlg 63).map (fun q => b + q)), .int (f 2), .int (f 3), .int (f 4), .int (f 5), .ref (b + 64), .ref (b + 65), .ref (b + 66), .ref (b + 67), .ref (b + 68), .ref (b + 69), .ref (b + 70), .ref (b + 71)]),
  fun f => .inl (ar 1, 5, .inl f),
  fun f => .inl (ar 1, 5, .inl f),
  fun f => .inl (ar 1, 5, .inl f),
  fun f => .inl (ar 1, 5, .inl f),
  fun f => .inl (ar 1, 5, .inl f),
  fun f => .inl (ar 1, 5, .inl f),
  fun f => .inl (ar 1, 40, .inl f),
  fun f => .inl (ar 1, 8, .inl f),
  fun f => .inr (0, [.ref (b + ztc (f 0)), va_rf ((zlg 72).map (fun q => b + q)), .int (f 2), .int (f 3), .int (f 4), .int (f 5), .ref (b + 73), .ref (b + 74), .ref (b + 75), .ref (b + 76), .ref (b + 77), .ref (b + 78), .ref (b + 79), .ref (b + 80)]),
  fun f => .inl (ar 1, 5, .inl f),
  fun f => .inl (ar 1, 5, .inl f),
  fun f => .inl (ar 1, 5, .inl f),
  fun f => .inl (ar 1, 5, .inl f),
  fun f => .inl (ar 1, 5, .inl f),
  fun f => .inl (ar 1, 5, .inl f),
  fun f => .inl (ar 1, 40, .inl f),
  fun f => .inl (ar 1, 8, .inl f),
  fun f => .inr (8, [.int (f 0), .int (f 1), .ref (b + 82)]),
  fun f => .inl (ar 1, 40, .inl f),
  fun f => .inr (8, [.int (f 0), .int (f 1), .ref (b + 84)]),
  fun f => .inl (ar 1, 40, .inl f),
  fun f => .inr (8, [.int (f 0), .int (f 1), .ref (b + 86)]),
  fun f => .inl (ar 1, 40, .inl f),
  fun f => .inr (8, [.int (f 0), .int (f 1), .ref (b + 88)]),
  fun f => .inl (ar 1, 40, .inl f)]
def zshC (ar : Nat → ClassId) (b c : Nat) : (Nat → Int32) → va_E := (zshL ar b).getD c (fun _ => .inr (0, []))
def zM0 : zMem := fun c j => if c = 45 ∧ j = 0 then 1 else if (c = 81 ∨ c = 83 ∨ c = 85 ∨ c = 87) ∧ j = 0 then -1 else 0
abbrev zwC (w : zWd) : zWd := zwn w (zshC w.2.1 w.2.2.2.1) 89
theorem zi_t1 (w : zWd) : zI_Told (zwC w) 1 := ⟨⟨Nat.le_of_ble_eq_true rfl, fun _ => rfl⟩, ⟨Nat.le_of_ble_eq_true rfl, fun _ => rfl⟩, ⟨Nat.le_of_ble_eq_true rfl, fun _ => rfl⟩, ⟨Nat.le_of_ble_eq_true rfl, fun _ => rfl⟩, ⟨Nat.le_of_ble_eq_true rfl, fun _ => rfl⟩⟩
theorem zi_t6 (w : zWd) : zI_Told (zwC w) 6 := ⟨⟨Nat.le_of_ble_eq_true rfl, fun _ => rfl⟩, ⟨Nat.le_of_ble_eq_true rfl, fun _ => rfl⟩, ⟨Nat.le_of_ble_eq_true rfl, fun _ => rfl⟩, ⟨Nat.le_of_ble_eq_true rfl, fun _ => rfl⟩, ⟨Nat.le_of_ble_eq_true rfl, fun _ => rfl⟩⟩
theorem zi_t12 (w : zWd) : zI_Told (zwC w) 12 := ⟨⟨Nat.le_of_ble_eq_true rfl, fun _ => rfl⟩, ⟨Nat.le_of_ble_eq_true rfl, fun _ => rfl⟩, ⟨Nat.le_of_ble_eq_true rfl, fun _ => rfl⟩, ⟨Nat.le_of_ble_eq_true rfl, fun _ => rfl⟩, ⟨Nat.le_of_ble_eq_true rfl, fun _ => rfl⟩⟩
theorem zi_tc (w : zWd) : ∀ x, zI_Told (zwC w) (ztc x) := fun x => by unfold ztc; split <;> first | exact zi_t6 w | exact zi_t1 w
theorem zi_h30 (w : zWd) : zI_Handings (zwC w) 30 := ⟨⟨Nat.le_of_ble_eq_true rfl, fun _ => rfl⟩, ⟨Nat.le_of_ble_eq_true rfl, fun _ => rfl⟩⟩
theorem zi_b18 (w : zWd) : zI_Bench (zwC w) 18 := ⟨⟨Nat.le_of_ble_eq_true rfl, fun _ => rfl⟩, ⟨Nat.le_of_ble_eq_true rfl, fun _ => rfl⟩, ⟨Nat.le_of_ble_eq_true rfl, fun _ => rfl⟩, ⟨Nat.le_of_ble_eq_true rfl, fun _ => rfl⟩, ⟨Nat.le_of_ble_eq_true rfl, fun _ => rfl⟩, ⟨Nat.le_of_ble_eq_true rfl, fun _ => rfl⟩, ⟨Nat.le_of_ble_eq_true rfl, fun _ => rfl⟩, ⟨Nat.le_of_ble_eq_true rfl, fun _ => rfl⟩, ⟨Nat.le_of_ble_eq_true rfl, fun _ => rfl⟩, zi_tc w, fun g h => by cases h⟩
theorem zi_b32 (w : zWd) : zI_Bench (zwC w) 32 := ⟨⟨Nat.le_of_ble_eq_true rfl, fun _ => rfl⟩, ⟨Nat.le_of_ble_eq_true rfl, fun _ => rfl⟩, ⟨Nat.le_of_ble_eq_true rfl, fun _ => rfl⟩, ⟨Nat.le_of_ble_eq_true rfl, fun _ => rfl⟩, ⟨Nat.le_of_ble_eq_true rfl, fun _ => rfl⟩, ⟨Nat.le_of_ble_eq_true rfl, fun _ => rfl⟩, ⟨Nat.le_of_ble_eq_true rfl, fun _ => rfl⟩, ⟨Nat.le_of_ble_eq_true rfl, fun _ => rfl⟩, ⟨Nat.le_of_ble_eq_true rfl, fun _ => rfl⟩, zi_tc w, fun g h => by cases h; exact zi_h30 w⟩
theorem zi_b45 (w : zWd) : zI_Bench (zwC w) 45 := ⟨⟨Nat.le_of_ble_eq_true rfl, fun _ => rfl⟩, ⟨Nat.le_of_ble_eq_true rfl, fun _ => rfl⟩, ⟨Nat.le_of_ble_eq_true rfl, fun _ => rfl⟩, ⟨Nat.le_of_ble_eq_true rfl, fun _ => rfl⟩, ⟨Nat.le_of_ble_eq_true rfl, fun _ => rfl⟩, ⟨Nat.le_of_ble_eq_true rfl, fun _ => rfl⟩, ⟨Nat.le_of_ble_eq_true rfl, fun _ => rfl⟩, ⟨Nat.le_of_ble_eq_true rfl, fun _ => rfl⟩, ⟨Nat.le_of_ble_eq_true rfl, fun _ => rfl⟩, zi_tc w, fun g h => by cases h⟩
theorem zi_b63 (w : zWd) : zI_Bench (zwC w) 63 := ⟨⟨Nat.le_of_ble_eq_true rfl, fun _ => rfl⟩, ⟨Nat.le_of_ble_eq_true rfl, fun _ => rfl⟩, ⟨Nat.le_of_ble_eq_true rfl, fun _ => rfl⟩, ⟨Nat.le_of_ble_eq_true rfl, fun _ => rfl⟩, ⟨Nat.le_of_ble_eq_true rfl, fun _ => rfl⟩, ⟨Nat.le_of_ble_eq_true rfl, fun _ => rfl⟩, ⟨Nat.le_of_ble_eq_true rfl, fun _ => rfl⟩, ⟨Nat.le_of_ble_eq_true rfl, fun _ => rfl⟩, ⟨Nat.le_of_ble_eq_true rfl, fun _ => rfl⟩, zi_tc w, fun g h => by cases h⟩
theorem zi_b72 (w : zWd) : zI_Bench (zwC w) 72 := ⟨⟨Nat.le_of_ble_eq_true rfl, fun _ => rfl⟩, ⟨Nat.le_of_ble_eq_true rfl, fun _ => rfl⟩, ⟨Nat.le_of_ble_eq_true rfl, fun _ => rfl⟩, ⟨Nat.le_of_ble_eq_true rfl, fun _ => rfl⟩, ⟨Nat.le_of_ble_eq_true rfl, fun _ => rfl⟩, ⟨Nat.le_of_ble_eq_true rfl, fun _ => rfl⟩, ⟨Nat.le_of_ble_eq_true rfl, fun _ => rfl⟩, ⟨Nat.le_of_ble_eq_true rfl, fun _ => rfl⟩, ⟨Nat.le_of_ble_eq_true rfl, fun _ => rfl⟩, zi_tc w, fun g h => by cases h⟩
theorem zi_im (w : zWd) : zI_r (zwC w) 27 3 2 (fun j => 63 + 9 * j) ∧ ∀ j, j < 2 → zI_Bench (zwC w) (63 + 9 * j) := ⟨⟨Nat.le_of_ble_eq_true rfl, fun _ => rfl⟩, fun j hj => by rcases (show j = 0 ∨ j = 1 by omega) with rfl | rfl <;> first | exact zi_b63 w | exact zi_b72 w⟩
theorem zi_s81 (w : zWd) : zI_Sheet (zwC w) 81 := ⟨⟨Nat.le_of_ble_eq_true rfl, fun _ => rfl⟩, ⟨Nat.le_of_ble_eq_true rfl, fun _ => rfl⟩⟩
theorem zi_s83 (w : zWd) : zI_Sheet (zwC w) 83 := ⟨⟨Nat.le_of_ble_eq_true rfl, fun _ => rfl⟩, ⟨Nat.le_of_ble_eq_true rfl, fun _ => rfl⟩⟩
theorem zi_s85 (w : zWd) : zI_Sheet (zwC w) 85 := ⟨⟨Nat.le_of_ble_eq_true rfl, fun _ => rfl⟩, ⟨Nat.le_of_ble_eq_true rfl, fun _ => rfl⟩⟩
theorem zi_s87 (w : zWd) : zI_Sheet (zwC w) 87 := ⟨⟨Nat.le_of_ble_eq_true rfl, fun _ => rfl⟩, ⟨Nat.le_of_ble_eq_true rfl, fun _ => rfl⟩⟩
theorem zi_sh (w : zWd) : zI_r (zwC w) 62 4 4 (fun j => 81 + 2 * j) ∧ ∀ j, j < 4 → zI_Sheet (zwC w) (81 + 2 * j) := ⟨⟨Nat.le_of_ble_eq_true rfl, fun _ => rfl⟩, fun j hj => by rcases (show j = 0 ∨ j = 1 ∨ j = 2 ∨ j = 3 by omega) with rfl | rfl | rfl | rfl <;> first | exact zi_s81 w | exact zi_s83 w | exact zi_s85 w | exact zi_s87 w⟩
theorem zi_main (w : zWd) : zI_Main (zwC w) := ⟨⟨Nat.le_of_ble_eq_true rfl, fun _ => rfl⟩, ⟨Nat.le_of_ble_eq_true rfl, fun _ => rfl⟩, zi_im w, zi_sh w, zi_t1 w, zi_t6 w, ⟨⟨Nat.le_of_ble_eq_true rfl, fun _ => rfl⟩, ⟨Nat.le_of_ble_eq_true rfl, fun _ => rfl⟩, zi_t12 w⟩, zi_b18 w, ⟨⟨Nat.le_of_ble_eq_true rfl, fun _ => rfl⟩, zi_h30 w, zi_b32 w⟩, ⟨⟨Nat.le_of_ble_eq_true rfl, fun _ => rfl⟩, ⟨Nat.le_of_ble_eq_true rfl, fun _ => rfl⟩, ⟨Nat.le_of_ble_eq_true rfl, fun _ => rfl⟩, ⟨Nat.le_of_ble_eq_true rfl, fun _ => rfl⟩, zi_b45 w⟩, ⟨Nat.le_of_ble_eq_true rfl, fun _ => rfl⟩, ⟨Nat.le_of_ble_eq_true rfl, fun _ => rfl⟩, ⟨⟨Nat.le_of_ble_eq_true rfl, fun _ => rfl⟩, ⟨Nat.le_of_ble_eq_true rfl, fun _ => rfl⟩, ⟨Nat.le_of_ble_eq_true rfl, fun _ => rfl⟩, ⟨Nat.le_of_ble_eq_true rfl, fun _ => rfl⟩⟩, ⟨⟨Nat.le_of_ble_eq_true rfl, fun _ => rfl⟩, ⟨Nat.le_of_ble_eq_true rfl, fun _ => rfl⟩⟩⟩
