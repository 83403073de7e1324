/-- ticks that a hand wants alone for a row of coats -/
def cu_t (M : zMem) (n L h : Nat) : Nat := sp_sum (fun i => sp_sum (fun p => ix (M 3 (ix (M 2 i) * 8 + p)) * ix (M 4 (h * 8 + p))) n) L
theorem sp_sum_1 {c : Nat → Nat} {m : Nat} : sp_sum c (m + 1) = sp_sum c m + c m := Nat.add_comm _ _
theorem sp_sum_pos {c : Nat → Nat} : ∀ m j, j < m → 0 < c j → 0 < sp_sum c m := by
  intro m
  induction m with
  | zero => intro j h; exact absurd h (by omega)
  | succ m ih =>
    intro j h hc
    rw [sp_sum_1]
    by_cases e : j = m
    · rw [e] at hc; omega
    · have := ih j (by omega) hc; omega
theorem cu_one {n H L : Nat} {M : zMem} (vt : sp_vt M 1 n H L) {h i p : Nat} (hh : h < H) (hi : i < L) (hp : p < n) : ∃ s u c, s < 3 ∧ u ≤ 6 ∧ 1 ≤ c ∧ c ≤ 9 ∧ M 2 i = nI s ∧ M 3 (s * 8 + p) = nI u ∧ M 4 (h * 8 + p) = nI c := by
  obtain ⟨⟨n1, n8, H1, H5, L1, L6⟩, hn, hH, hL, -, -, -, -, hrow, hun, hpf, hpa, -, -, -⟩ := vt
  obtain ⟨s, s1, s2⟩ := hrow i hi
  obtain ⟨u, u1, u2⟩ := hun s p s1 hp
  obtain ⟨c, c1, c2, c3⟩ := hpa h p hh hp
  exact ⟨s, u, c, s1, u1, c1, c2, s2, u2, c3⟩
theorem cu_le {n H L : Nat} {M : zMem} (vt : sp_vt M 1 n H L) {h : Nat} (hh : h < H) : ∀ m, m ≤ L → sp_sum (fun i => sp_sum (fun p => ix (M 3 (ix (M 2 i) * 8 + p)) * ix (M 4 (h * 8 + p))) n) m ≤ 432 * m := by
  intro m hm
  refine sp_sum_bound m (fun i hi => ?_)
  have n8 : n ≤ 8 := vt.1.2.1
  have := sp_sum_bound (c := fun p => ix (M 3 (ix (M 2 i) * 8 + p)) * ix (M 4 (h * 8 + p))) (B := 54) n (fun p hp => by
    obtain ⟨s, u, c, s1, u1, c1, c2, e1, e2, e3⟩ := cu_one vt hh (by omega : i < L) hp
    rw [e1, q_ix (by omega), e2, e3, q_ix (by omega), q_ix (by omega)]
    exact Nat.le_trans (Nat.mul_le_mul u1 c2) (by omega))
  have : 54 * n ≤ 54 * 8 := Nat.mul_le_mul (Nat.le_refl _) n8
  omega
theorem cu_pos {n H L : Nat} {M : zMem} (vt : sp_vt M 1 n H L) {h : Nat} (hh : h < H) : 0 < cu_t M n L h ∧ cu_t M n L h ≤ 2592 := by
  obtain ⟨⟨n1, n8, H1, H5, L1, L6⟩, hn, hH, hL, -, -, -, -, hrow, hun, hpf, hpa, -, -, -⟩ := id vt
  refine ⟨?_, ?_⟩
  · refine sp_sum_pos L 0 (by omega) ?_
    obtain ⟨s, s1, s2⟩ := hrow 0 (by omega)
    have hq := hpf s s1
    have hpos := sp_pf_pos (fun i => M (1 + 2) (s * 8 + i)) n 0 (by omega)
    generalize sp_pf (fun i => M (1 + 2) (s * 8 + i)) n 0 = p at hq hpos
    refine sp_sum_pos n p hq ?_
    obtain ⟨s', u, c, t1, u1, c1, c2, e1, e2, e3⟩ := cu_one vt hh (by omega : 0 < L) hq
    have es : s' = s := (nI_eq (by omega) (by omega)).mp (e1.symm.trans s2)
    rw [e1, q_ix (by omega), e2, e3, q_ix (by omega), q_ix (by omega)]
    have u0 : 0 < u := by
      have hp2 : (0 : Int32) < M 3 (s * 8 + p) := hpos
      rw [← es, e2] at hp2
      exact (nI_0lt (by omega)).mp hp2
    exact Nat.mul_pos u0 (by omega)
  · have := cu_le vt hh L (Nat.le_refl _)
    unfold cu_t
    omega
theorem xt_alone {n H L h : Nat} {M : zMem} {Q : Int64 → zMem → Prop} (vt : sp_vt M 1 n H L) (hh : h < H) (hQ : Q (lN (cu_t M n L h)) M) : wp_Told_ticksAlone 1 (nI h) M Q := by
  obtain ⟨⟨n1, n8, H1, H5, L1, L6⟩, hn, hH, hL, -, -, -, -, hrow, hun, hpf, hpa, -, -, -⟩ := id vt
  unfold wp_Told_ticksAlone
  refine zlp2_r (fun m x y M' => M' = M ∧ ∃ i, y = nI i ∧ i ≤ L ∧ m = L - i ∧ x = lN (sp_sum (fun i => sp_sum (fun p => ix (M 3 (ix (M 2 i) * 8 + p)) * ix (M 4 (h * 8 + p))) n) i)) ?_ (n := L) ⟨rfl, 0, rfl, by omega, rfl, rfl⟩
  rintro m x y M' ⟨rfl, i, rfl, hi, rfl, rfl⟩ J hJ
  refine ⟨fun c => ?_, fun c => ?_⟩
  · rw [hL] at c
    have := (nI_leI (by omega) (by omega)).mp c
    rw [show i = L by omega]; exact hQ
  rw [hL] at c
  have hi2 : i < L := (nI_ltI (by omega) (by omega)).mp (Int32.not_le.mp c)
  refine zlp2_r (fun m x y M'' => M'' = M' ∧ ∃ p, y = nI p ∧ p ≤ n ∧ m = n - p ∧ x = lN (sp_sum (fun i => sp_sum (fun p => ix (M' 3 (ix (M' 2 i) * 8 + p)) * ix (M' 4 (h * 8 + p))) n) i + sp_sum (fun p => ix (M' 3 (ix (M' 2 i) * 8 + p)) * ix (M' 4 (h * 8 + p))) p)) ?_ (n := n) ⟨rfl, 0, rfl, by omega, rfl, rfl⟩
  rintro m x y M'' ⟨rfl, p, rfl, hp, rfl, rfl⟩ J2 hJ2
  refine ⟨fun c2 z ez => ?_, fun c2 => ?_⟩
  · rw [hn] at c2
    have := (nI_leI (by omega) (by omega)).mp c2
    have ep : p = n := by omega
    rw [ep, ez, nI_1]
    exact hJ (L - (i + 1)) _ _ _ (by omega) ⟨rfl, i + 1, rfl, by omega, rfl, by rw [sp_sum_1 (m := i)]⟩
  · rw [hn] at c2
    have hp2 : p < n := (nI_ltI (by omega) (by omega)).mp (Int32.not_le.mp c2)
    obtain ⟨s, u, c, s1, u1, k1, k2, e1, e2, e3⟩ := cu_one vt hh hi2 hp2
    rw [q_ix (by omega)]
    refine ⟨vp_in_nI (by omega) (by omega), ?_⟩
    rw [show M'' (1 + 1) i = nI s from e1, e_unitsOf s1 (by omega), e_paceOf (by omega) (by omega)]
    rw [show M'' (1 + 2) (s * 8 + p) = nI u from e2, show M'' (1 + 3) (h * 8 + p) = nI c from e3]
    intro z1 ez1 z2 ez2
    have uc : u * c ≤ 54 := Nat.le_trans (Nat.mul_le_mul u1 k2) (by omega)
    rw [q_mul, q_l64 (by omega), lN_add] at ez1
    rw [ez1, ez2, nI_1]
    refine hJ2 (n - (p + 1)) _ _ _ (by omega) ⟨rfl, p + 1, rfl, by omega, rfl, ?_⟩
    refine congrArg lN ?_
    rw [sp_sum_1 (m := p), e1, q_ix (by omega), e2, e3, q_ix (by omega), q_ix (by omega), Nat.add_assoc]
/-- the same, the reference's side -/
theorem mt_alone {a1 : Int32} {x2 x4 : Int64} {n H L h : Nat} {M W : zMem} {K : Int64 → zMem → Prop} {Q : Int64 → zMem → Prop} (vt : sp_vt M 1 n H L) (r : rt0 W M n H L) (hh : h < H) (hK : K (lN (cu_t M n L h)) W) : ∃ k, zlp2 (wpB_Model_could_39 a1 x2 x4 (nI h) K Q) k 0 0 W := by
  obtain ⟨⟨n1, n8, H1, H5, L1, L6⟩, hn, hH, hL, -, -, -, -, hrow, hun, hpf, hpa, -, -, -⟩ := id vt
  obtain ⟨r0, r1, r2, r3, r4, r5, r6, rrow, run, rpa, ren⟩ := id r
  refine zlp2_r (fun m x y W' => W' = W ∧ ∃ i, y = nI i ∧ i ≤ L ∧ m = L - i ∧ x = lN (sp_sum (fun i => sp_sum (fun p => ix (M 3 (ix (M 2 i) * 8 + p)) * ix (M 4 (h * 8 + p))) n) i)) ?_ (n := L) ⟨rfl, 0, rfl, by omega, rfl, rfl⟩
  rintro m x y W' ⟨rfl, i, rfl, hi, rfl, rfl⟩ J hJ
  refine ⟨vp_in_nI (n := 6) (by omega) (by omega), fun c => ?_, fun c => ?_⟩
  · rw [show ix 6 = 6 from rfl, r6] at c
    have := (nI_leI (by omega) (by omega)).mp c
    rw [show i = L by omega]; exact hK
  rw [show ix 6 = 6 from rfl, r6] at c
  have hi2 : i < L := (nI_ltI (by omega) (by omega)).mp (Int32.not_le.mp c)
  refine zlp2_r (fun m x y W'' => W'' = W' ∧ ∃ p, y = nI p ∧ p ≤ n ∧ m = n - p ∧ x = lN (sp_sum (fun i => sp_sum (fun p => ix (M 3 (ix (M 2 i) * 8 + p)) * ix (M 4 (h * 8 + p))) n) i + sp_sum (fun p => ix (M 3 (ix (M 2 i) * 8 + p)) * ix (M 4 (h * 8 + p))) p)) ?_ (n := n) ⟨rfl, 0, rfl, by omega, rfl, rfl⟩
  rintro m x y W'' ⟨rfl, p, rfl, hp, rfl, rfl⟩ J2 hJ2
  refine ⟨vp_in_nI (n := 0) (by omega) (by omega), fun c2 z ez => ?_, fun c2 => ?_⟩
  · rw [show ix 0 = 0 from rfl, r0] at c2
    have := (nI_leI (by omega) (by omega)).mp c2
    have ep : p = n := by omega
    rw [ep, ez, nI_1]
    exact hJ (L - (i + 1)) _ _ _ (by omega) ⟨rfl, i + 1, rfl, by omega, rfl, by rw [sp_sum_1 (m := i)]⟩
  · rw [show ix 0 = 0 from rfl, r0] at c2
    have hp2 : p < n := (nI_ltI (by omega) (by omega)).mp (Int32.not_le.mp c2)
    obtain ⟨s, u, c, s1, u1, k1, k2, e1, e2, e3⟩ := cu_one vt hh hi2 hp2
    have i1 : (10 : Int32) + nI i = nI (10 + i) := q_add 10 i
    have i3 : (60 : Int32) + 8 * nI h + nI p = nI (60 + 8 * h + p) := by simp only [q_lit, q_mul, q_add]
    rw [i1, i3, q_ix (by omega), q_ix (by omega), (rrow i hi2).trans e1]
    have i2 : (30 : Int32) + 8 * nI s + nI p = nI (30 + 8 * s + p) := by simp only [q_lit, q_mul, q_add]
    rw [i2, q_ix (by omega), (run s p s1 hp2).trans e2, (rpa h p hh hp2).trans e3]
    refine ⟨vp_in_nI (by omega) (by omega), vp_in_nI (by omega) (by omega), vp_in_nI (by omega) (by omega), fun z1 ez1 z2 ez2 => ?_⟩
    have uc : u * c ≤ 54 := Nat.le_trans (Nat.mul_le_mul u1 k2) (by omega)
    rw [q_mul, q_l64 (by omega), lN_add] at ez1
    rw [ez1, ez2, nI_1]
    refine hJ2 (n - (p + 1)) _ _ _ (by omega) ⟨rfl, p + 1, rfl, by omega, rfl, ?_⟩
    refine congrArg lN ?_
    rw [sp_sum_1 (m := p), e1, q_ix (by omega), e2, e3, q_ix (by omega), q_ix (by omega), Nat.add_assoc]
/-- all hands together -/
def cu_f (T : Nat → Nat) (L : Nat) : Nat → Nat × Nat
  | 0 => (0, 1)
  | h + 1 => (((cu_f T L h).1 * T h + L * (cu_f T L h).2) / Nat.gcd ((cu_f T L h).1 * T h + L * (cu_f T L h).2) ((cu_f T L h).2 * T h), ((cu_f T L h).2 * T h) / Nat.gcd ((cu_f T L h).1 * T h + L * (cu_f T L h).2) ((cu_f T L h).2 * T h))
theorem cu_b {T : Nat → Nat} {L : Nat} (L6 : L ≤ 6) : ∀ h, (∀ i, i < h → 0 < T i ∧ T i ≤ 2592) → 0 < (cu_f T L h).2 ∧ (cu_f T L h).2 ≤ 2592 ^ h ∧ (cu_f T L h).1 ≤ 6 * h * 2592 ^ h := by
  intro h
  induction h with
  | zero => intro _; exact ⟨by show 0 < 1; omega, by show 1 ≤ 1; omega, by show 0 ≤ _; omega⟩
  | succ h ih =>
    intro hT
    obtain ⟨i1, i2, i3⟩ := ih (fun i hi => hT i (by omega))
    obtain ⟨t1, t2⟩ := hT h (by omega)
    show 0 < ((cu_f T L h).2 * T h) / _ ∧ ((cu_f T L h).2 * T h) / _ ≤ _ ∧ ((cu_f T L h).1 * T h + L * (cu_f T L h).2) / _ ≤ _
    generalize (cu_f T L h).1 = a at i3
    generalize (cu_f T L h).2 = b at i1 i2
    generalize T h = t at t1 t2
    have p1 : 0 < b * t := Nat.mul_pos i1 t1
    have g0 : 0 < Nat.gcd (a * t + L * b) (b * t) := Nat.gcd_pos_of_pos_right _ p1
    refine ⟨Nat.div_pos (Nat.le_of_dvd p1 (Nat.gcd_dvd_right _ _)) g0, Nat.le_trans (Nat.div_le_self _ _) ?_, Nat.le_trans (Nat.div_le_self _ _) ?_⟩
    · rw [Nat.pow_succ]; exact Nat.mul_le_mul i2 t2
    · rw [Nat.pow_succ]
      have q1 : a * t ≤ 6 * h * 2592 ^ h * 2592 := Nat.mul_le_mul i3 t2
      have q2 : L * b ≤ 6 * 2592 ^ h := Nat.mul_le_mul L6 i2
      have e1 : 6 * (h + 1) * (2592 ^ h * 2592) = 6 * h * 2592 ^ h * 2592 + 6 * 2592 ^ h * 2592 := by
        rw [Nat.mul_add, Nat.add_mul, Nat.mul_assoc (6 * h), Nat.mul_one, Nat.mul_assoc 6 (2592 ^ h) 2592]
      rw [e1]
      have : 6 * 2592 ^ h ≤ 6 * 2592 ^ h * 2592 := Nat.le_mul_of_pos_right _ (by omega)
      omega
theorem cu_pw : ∀ h, h < 5 → 2592 ^ (h + 1) ≤ 117000000000000000 ∧ 6 * h * 2592 ^ h * 2592 + 6 * 2592 ^ h ≤ 3600000000000000000 := by decide +kernel
