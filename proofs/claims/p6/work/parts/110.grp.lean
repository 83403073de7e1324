theorem pc_le {x : Nat} : ∀ p, pc x p ≤ p := by
  intro p
  induction p with
  | zero => exact Nat.le_refl _
  | succ p ih =>
    unfold pc
    have := so_m2 (x / 2 ^ p)
    split <;> omega
theorem pc_1 {x : Nat} : pc x 1 = 0 := rfl
theorem pc_s {x p : Nat} (h : p ≠ 0) : pc x (p + 1) = pc x p + x / 2 ^ p % 2 := by
  show pc x p + (if p = 0 then 0 else x / 2 ^ p % 2) = _
  rw [if_neg h]
theorem mt_cnt {a1 x2 : Int32} {n H x : Nat} {W : zMem} {K : Int32 → zMem → Prop} {Q : Int32 → zMem → Prop} (hx : x < 256) (n1 : 1 ≤ n) (n8 : n ≤ 8) (H1 : 1 ≤ H) (H5 : H ≤ 5) (hn : W 4 0 = nI n) (hH : W 0 18 = nI H)
    (hK : ∀ W', (pc x n ≤ H → ∀ j, j < pc x n → W' 9 j = nI (pv x j)) → (∀ d, d ≠ 9 → W' d = W d) → K (nI (pc x n)) W') : ∃ k, zlp2 (wpB_Model_parts_82 a1 x2 (nI x) K Q) k 0 1 W := by
  refine zlp2_r (fun f y z W' => ∃ p, z = nI p ∧ 1 ≤ p ∧ p ≤ n ∧ f = n - p ∧ y = nI (pc x p) ∧ (pc x p ≤ H → ∀ j, j < pc x p → W' 9 j = nI (pv x j)) ∧ (∀ d, d ≠ 9 → W' d = W d)) ?_ (n := n - 1) ⟨1, rfl, Nat.le_refl _, n1, rfl, rfl, fun _ j hj => absurd hj (by rw [pc_1]; omega), fun _ _ => rfl⟩
  rintro f y z W' ⟨p, rfl, p1, pn, rfl, rfl, i1, i2⟩ J hJ
  unfold wpB_Model_parts_82
  rw [show ix 0 = 0 from rfl, i2 4 (by omega), hn, i2 0 (by omega), hH]
  have hpl := pc_le (x := x) p
  refine ⟨vp_in_nI (n := 0) (by omega) (by omega), fun c => ?_, fun c => ?_⟩
  · have := (nI_leI (by omega) (by omega)).mp c
    have ep : p = n := by omega
    subst ep
    exact hK W' i1 i2
  have hp : p < n := (nI_ltI (by omega) (by omega)).mp (Int32.not_le.mp c)
  rw [p_bit hx (by omega)]
  have es := pc_s (x := x) (p := p) (by omega)
  refine ⟨fun c2 y2 e2 => ?_, fun c2 => ?_⟩
  · have b0 : x / 2 ^ p % 2 = 0 := by
      rcases so_m2 (x / 2 ^ p) with b | b
      · exact b
      · exact absurd (by rw [b]; rfl) c2
    rw [b0] at es
    rw [e2, nI_1]
    exact hJ (n - (p + 1)) _ _ _ (by omega) ⟨p + 1, rfl, by omega, by omega, rfl, by rw [es]; rfl, by rw [es]; exact i1, i2⟩
  · have b1 : x / 2 ^ p % 2 = 1 := by
      rcases so_m2 (x / 2 ^ p) with b | b
      · rw [b] at c2; exact absurd c2 (by decide)
      · exact b
    rw [b1] at es
    have ev := pv_pc hx (by omega : p < 8) (by omega) b1
    refine ⟨fun c3 => ⟨vp_in_nI (n := 0) (by omega) (by omega), fun W7 e7 y2 e2 y3 e3 => ?_⟩, fun c3 => ⟨?_, fun W7 e7 y2 e2 y3 e3 => ?_⟩⟩
    · have c4 := (nI_leI (by omega) (by omega)).mp c3
      rw [e2, e3, nI_1, nI_1]
      exact hJ (n - (p + 1)) _ _ _ (by omega) ⟨p + 1, rfl, by omega, by omega, rfl, by rw [es], fun q => absurd q (by rw [es]; omega), fun d hd => by rw [e7, zup_ne hd]; exact i2 d hd⟩
    · have c4 : pc x p < H := (nI_ltI (by omega) (by omega)).mp (Int32.not_le.mp c3)
      exact vp_in_nI (by omega) (by omega)
    · have c4 : pc x p < H := (nI_ltI (by omega) (by omega)).mp (Int32.not_le.mp c3)
      rw [q_ix (by omega)] at e7
      rw [e2, e3, nI_1, nI_1]
      refine hJ (n - (p + 1)) _ _ _ (by omega) ⟨p + 1, rfl, by omega, by omega, rfl, by rw [es], fun q j hj => ?_, fun d hd => by rw [e7, zup_ne hd]; exact i2 d hd⟩
      rw [es] at hj
      rw [e7, zup_eq]
      by_cases z : j = pc x p
      · rw [z, upd_eq, ev]
      · rw [upd_ne z]; exact i1 (by omega) j (by omega)
theorem mt_areLess {H : Nat} {e f : Nat → Nat} {W : zMem} {Q : Int32 → zMem → Prop} (hH : W 0 18 = nI H) (H1 : 1 ≤ H) (H5 : H ≤ 5) (h9 : ∀ i, i < H - 1 → W 9 i = nI (e i)) (h15 : ∀ i, i < H - 1 → W 15 i = nI (f i)) (he : ∀ i, i < H - 1 → e i < 9) (hf : ∀ i, i < H - 1 → f i < 9) (hl : W 9 (H - 1) = W 15 (H - 1))
    (ht : plx e f (H - 1) 0 = true → Q 1 W) (hn : plx e f (H - 1) 0 = false → Q 0 W) : wp_Model_areLess W Q := by
  unfold wp_Model_areLess
  generalize hg : plx e f (H - 1) 0 = g at ht hn
  refine zlp1_r (fun m x W' => W' = W ∧ ∃ h, x = nI h ∧ h ≤ H ∧ m = H - h ∧ plx e f (H - 1 - h) h = g) ?_ (n := H) ⟨rfl, 0, rfl, by omega, rfl, hg⟩
  rintro m x W' ⟨rfl, h, rfl, hh, rfl, ep⟩ J hJ
  unfold wpB_Model_areLess_2
  rw [hH, q_ix (by omega)]
  refine ⟨fun c => ?_, fun c => ?_⟩
  · have := (nI_leI (by omega) (by omega)).mp c
    rw [show H - 1 - h = 0 by omega] at ep
    exact hn ep.symm
  have hh2 : h < H := (nI_ltI (by omega) (by omega)).mp (Int32.not_le.mp c)
  refine ⟨vp_in_nI (by omega) (by omega), vp_in_nI (by omega) (by omega), ?_⟩
  by_cases c2 : h = H - 1
  · rw [c2, hl]
    refine ⟨fun _ y ey => ?_, fun q => absurd rfl q⟩
    rw [ey, nI_1]
    rw [show H - 1 - h = 0 by omega] at ep
    refine hJ 0 _ _ (by omega) ⟨rfl, H - 1 + 1, rfl, by omega, by omega, ?_⟩
    rw [show H - 1 - (H - 1 + 1) = 0 by omega]
    exact ep
  · have hh3 : h < H - 1 := by omega
    rw [show H - 1 - h = (H - 1 - (h + 1)) + 1 by omega] at ep
    unfold plx at ep
    rw [h9 h hh3, h15 h hh3]
    have h1 := he h hh3
    have h2 := hf h hh3
    refine ⟨fun q y ey => ?_, fun q => ?_⟩
    · have q' := (nI_eq (by omega) (by omega)).mp q
      rw [if_pos q'] at ep
      rw [ey, nI_1]
      exact hJ (H - (h + 1)) _ _ (by omega) ⟨rfl, h + 1, rfl, by omega, rfl, ep⟩
    · have q' : ¬ e h = f h := fun z => q (by rw [z])
      rw [if_neg q'] at ep
      dsimp only
      rw [q_ix (by omega), h9 h hh3, h15 h hh3]
      refine ⟨vp_in_nI (by omega) (by omega), vp_in_nI (by omega) (by omega), fun z => ?_, fun z => ?_⟩
      · have z' := (nI_leI (by omega) (by omega)).mp z
        rw [decide_eq_false (by omega)] at ep
        exact hn ep.symm
      · have z' := (nI_ltI (by omega) (by omega)).mp (Int32.not_le.mp z)
        rw [decide_eq_true z'] at ep
        exact ht ep.symm
theorem plx_self {e : Nat → Nat} : ∀ m h, plx e e m h = false := by
  intro m
  induction m with
  | zero => intro h; rfl
  | succ m ih => intro h; unfold plx; rw [if_pos rfl]; exact ih _
theorem pm_inj {n H j k : Nat} (n8 : n ≤ 8) (H1 : 1 ≤ H) (H5 : H ≤ 5) (hn : H ≤ n) (hj : j < pN n H) (hk : k < pN n H) (e : pm n H j = pm n H k) : j = k := by
  rcases Nat.lt_trichotomy j k with z | z | z
  · have := plx_ok n8 H1 H5 hn hj hk
    rw [e, plx_self, decide_eq_true z] at this
    exact absurd this (by decide)
  · exact z
  · have := plx_ok n8 H1 H5 hn hk hj
    rw [e, plx_self, decide_eq_true z] at this
    exact absurd this (by decide)
theorem mt_copyEnds {a1 x2 x3 : Int32} {W : zMem} {K : zMem → Prop} {Q : Int32 → zMem → Prop} (hK : ∀ W', (∀ i, i < 5 → W' 15 i = W 9 i) → (∀ d, d ≠ 15 → W' d = W d) → K W') : ∃ k, zlp1 (wpB_Model_parts_207 a1 x2 x3 K Q) k 0 W := by
  refine zlp1_r (fun m x W' => ∃ h, x = nI h ∧ h ≤ 5 ∧ m = 5 - h ∧ (∀ i, i < h → W' 15 i = W 9 i) ∧ (∀ d, d ≠ 15 → W' d = W d)) ?_ (n := 5) ⟨0, rfl, by omega, rfl, fun i hi => absurd hi (by omega), fun _ _ => rfl⟩
  rintro m x W' ⟨h, rfl, hh, rfl, i1, i2⟩ J hJ
  refine ⟨fun c => ?_, fun c => ?_⟩
  · have := (nI_leI (a := 5) (by omega) (by omega)).mp c
    have e : h = 5 := by omega
    subst e
    exact hK W' i1 i2
  · have hh2 : h < 5 := (nI_ltI (b := 5) (by omega) (by omega)).mp (Int32.not_le.mp c)
    rw [q_ix (by omega)]
    refine ⟨vp_in_nI (by omega) (by omega), vp_in_nI (by omega) (by omega), fun W2 e2 y ey => ?_⟩
    rw [ey, nI_1]
    refine hJ (5 - (h + 1)) _ _ (by omega) ⟨h + 1, rfl, by omega, rfl, fun i hi => ?_, fun d hd => by rw [e2, zup_ne hd]; exact i2 d hd⟩
    rw [e2, zup_eq]
    by_cases z : i = h
    · rw [z, upd_eq, i2 9 (by omega)]
    · rw [upd_ne z]; exact i1 i (by omega)
theorem mt_like {a b : Option (Nat × Nat × Nat × Nat)} {W : zMem} {Q : Int32 → zMem → Prop} (ha : sp_rok a) (hb : sp_rok b) (e31 : W 0 31 = nI (ro_c a)) (e32 : W 0 32 = nI (ro_t a)) (e33 : W 0 33 = nI (ro_c b)) (e34 : W 0 34 = nI (ro_t b)) (hab : pL a b) (h1 : pL b a → Q 1 W) (h0 : ¬ pL b a → Q 0 W) : wp_Model_isLike W Q := by
  obtain ⟨a1, a2, a3, -⟩ := ro_ok ha
  obtain ⟨b1, b2, b3, -⟩ := ro_ok hb
  unfold wp_Model_isLike
  rw [e31, e32, e33, e34, q_l64 (by omega), q_l64 (by omega), q_l64 (by omega), q_l64 (by omega), lN_mul, lN_mul]
  have c1 := ro_cross ha hb
  have c2 := ro_cross hb ha
  have m1 : ro_c a * ro_t b < 9223372036854775808 := mul_b (A := 480000) (B := 480000) (by omega) (by omega) (by decide)
  have m2 : ro_c b * ro_t a < 9223372036854775808 := mul_b (A := 480000) (B := 480000) (by omega) (by omega) (by decide)
  have key : lg_cmp (lN (ro_c a * ro_t b)) (lN (ro_c b * ro_t a)) = 0 ↔ ro_c a * ro_t b = ro_c b * ro_t a := by
    have l1 := lg_cmp_lt0 (lN (ro_c a * ro_t b)) (lN (ro_c b * ro_t a))
    have l2 := lg_cmp_0lt (lN (ro_c a * ro_t b)) (lN (ro_c b * ro_t a))
    rw [pk_lLT m1 m2] at l1
    rw [pk_lLT m2 m1] at l2
    generalize lg_cmp (lN (ro_c a * ro_t b)) (lN (ro_c b * ro_t a)) = g at l1 l2
    refine ⟨fun q => ?_, fun q => ?_⟩
    · subst q
      have n1 : ¬ ro_c a * ro_t b < ro_c b * ro_t a := by rw [← l1]; decide
      have n2 : ¬ ro_c b * ro_t a < ro_c a * ro_t b := by rw [← l2]; decide
      omega
    · have n1 : ¬ g < 0 := by rw [l1]; omega
      have n2 : ¬ 0 < g := by rw [l2]; omega
      exact Int32.le_antisymm (Int32.not_lt.mp n2) (Int32.not_lt.mp n1)
  have hab' : ¬ ro_c b * ro_t a < ro_c a * ro_t b := fun z => absurd hab (Nat.not_le.mpr (c1.mp z))
  refine ⟨fun q => h0 (fun z => q (key.mpr ?_)), fun q => h1 ?_⟩
  · have : ¬ ro_c a * ro_t b < ro_c b * ro_t a := fun y => absurd z (Nat.not_le.mpr (c2.mp y))
    omega
  · have q' := key.mp q
    unfold pL
    refine Nat.not_lt.mp (fun y => ?_)
    have := c2.mpr y
    omega
set_option maxHeartbeats 1000000 in
theorem mt_parts {a1 : Int32} {n H L b : Nat} {o : Nat → Option (Nat × Nat × Nat × Nat)} {M W : zMem} {K : zMem → Prop} {Q : Int32 → zMem → Prop} (vt : sp_vt M 1 n H L) (r : rt0 W M n H L) (hHn : H ≤ n) (gh : ∀ k, k < pN n H → pgh M n H L k (o k)) (pb : pbest o (fun k => k < pN n H) b)
    (hK : ∀ W', mfy W W' → W' 0 33 = nI (ro_c (o b)) → W' 0 34 = nI (ro_t (o b)) → (∀ i, i < H - 1 → W' 15 i = nI (pv (pm n H b) i)) → K W') : ∃ k, zlp2 (wpB_Model_parts_55 a1 K Q) k 0 0 W := by
  obtain ⟨⟨n1, n8, H1, H5, L1, L6⟩, hn, hH, -⟩ := id vt
  obtain ⟨N0, N35, Nf⟩ := pN_ok n8 H1 H5 hHn
  have h256 : 2 ^ n ≤ 256 := Nat.pow_le_pow_right (n := 2) (by omega) n8
  refine zlp2_r (fun f y z W' => ∃ x, z = nI x ∧ x ≤ 2 ^ n ∧ f = 2 ^ n - x ∧ mfy W W' ∧ ((y = 0 ∧ ∀ j, j < pN n H → ¬ pm n H j < x) ∨ (y = 1 ∧ ∃ c, pbest o (fun j => j < pN n H ∧ pm n H j < x) c ∧ W' 0 33 = nI (ro_c (o c)) ∧ W' 0 34 = nI (ro_t (o c)) ∧ (∀ i, i < H - 1 → W' 15 i = nI (pv (pm n H c) i)) ∧ W' 15 (H - 1) = nI n))) ?_ (n := 2 ^ n) ⟨0, rfl, Nat.zero_le _, rfl, mfy.rf, Or.inl ⟨rfl, fun j _ q => absurd q (by omega)⟩⟩
  rintro f y z W' ⟨x, rfl, hx, rfl, fy, st⟩ J hJ
  have w4 : W' 4 = W 4 := fy.1 4 (by omega) (by omega) (by omega) (by omega) (by omega) (by omega) (by omega) (by omega) (by omega) (by omega)
  have r' : rt0 W' M n H L := r.moved w4 (fun _ _ => rfl)
  unfold wpB_Model_parts_55
  rw [show ix 0 = 0 from rfl, r'.1, p_shl n8]
  refine ⟨vp_in_nI (n := 0) (by omega) (by omega), fun c => ?_, fun c => ?_⟩
  · have := (nI_leI (by omega) (by omega)).mp c
    have ex : x = 2 ^ n := by omega
    rw [ex] at st
    rcases st with ⟨-, q⟩ | ⟨-, c2, p1, p2, p3, p4, -⟩
    · exact absurd (pm_ok n8 H1 H5 hHn N0).1 (q 0 N0)
    · have e : c2 = b := (p1.set (S' := fun k => k < pN n H) (fun j => ⟨fun q => ⟨q, (pm_ok n8 H1 H5 hHn q).1⟩, fun q => q.1⟩) (fun _ _ => rfl)).uniq pb
      rw [e] at p2 p3 p4
      exact hK W' fy p2 p3 p4
  have hx2 : x < 2 ^ n := (nI_ltI (by omega) (by omega)).mp (Int32.not_le.mp c)
  refine mt_asNumbered vt r' (fun W1 m1 => ?_)
  obtain ⟨a18, a19, ah, a0, ak⟩ := id m1
  intro W2 e2
  have k2 : ∀ k, k ≠ 0 → W2 k = W1 k := fun k hk => by rw [e2, zup_ne hk]
  have x18 : W2 0 18 = nI H := by rw [e2, zup_eq, upd_ne (by omega)]; exact a18
  have x19 : W2 0 19 = 2 := by rw [e2, zup_eq, upd_eq]
  have y4 : W2 4 = W 4 := by rw [k2 4 (by omega), ak 4 (by omega) (by omega) (by omega), w4]
  refine mt_cnt (n := n) (H := H) (by omega) n1 n8 H1 H5 (by rw [y4]; exact r.1) x18 (fun W3 s1 s2 => ?_)
  have z18 : W3 0 18 = nI H := by rw [s2 0 (by omega)]; exact x18
  have z0 : ∀ j, j ≠ 18 → j ≠ 19 → W3 0 j = W' 0 j := fun j q1 q2 => by rw [s2 0 (by omega), e2, zup_eq, upd_ne q2, a0 j q1 q2]
  have z15 : W3 15 = W' 15 := by rw [s2 15 (by omega), k2 15 (by omega), ak 15 (by omega) (by omega) (by omega)]
  have z4 : W3 4 = W 4 := by rw [s2 4 (by omega)]; exact y4
  have f3 : mfy W' W3 := ⟨fun k q0 q6 q8 q9 _ _ _ _ _ _ => by rw [s2 k q9, k2 k q0, ak k q0 q8 q9], fun j _ => by rw [s2 6 (by omega), k2 6 (by omega), ak 6 (by omega) (by omega) (by omega)], fun j q1 q2 _ => z0 j q1 q2⟩
  have hpl := pc_le (x := x) n
  have skip : (∀ j, j < pN n H → pm n H j ≠ x) → ∀ zx : Int32, zx = nI x + 1 → J y zx W3 := fun ns zx ezx => by
    rw [ezx, nI_1]
    refine hJ (2 ^ n - (x + 1)) _ _ _ (by omega) ⟨x + 1, rfl, by omega, rfl, fy.tr f3, ?_⟩
    rcases st with ⟨q1, q2⟩ | ⟨q1, c2, p1, p2, p3, p4, p5⟩
    · exact Or.inl ⟨q1, fun j hj q => by have := q2 j hj; have := ns j hj; omega⟩
    · exact Or.inr ⟨q1, c2, p1.set (fun j => ⟨fun q => ⟨q.1, by have := ns j q.1; have := q.2; omega⟩, fun q => ⟨q.1, by have := q.2; omega⟩⟩) (fun _ _ => rfl), by rw [z0 33 (by omega) (by omega)]; exact p2, by rw [z0 34 (by omega) (by omega)]; exact p3, by rw [z15]; exact p4, by rw [z15]; exact p5⟩
  rw [z18, q_pred (by omega)]
  refine ⟨fun c2 => skip (fun j hj q => c2 ?_), fun c2 => ⟨fun c3 => skip (fun j hj q => c3 ?_), fun c3 => ?_⟩⟩
  · have := (pm_ok n8 H1 H5 hHn hj).2.2.1
    rw [q] at this
    rw [this]
  · have := (pm_ok n8 H1 H5 hHn hj).2.1
    rw [q] at this
    rw [p_odd (by omega), this]; rfl
  have hc : pc x n = H - 1 := (nI_eq (by omega) (by omega)).mp c2
  have h0 : x % 2 = 0 := by
    rw [p_odd (by omega)] at c3
    exact (nI_eq (a := x % 2) (b := 0) (by omega) (by omega)).mp c3
  obtain ⟨k, hk, ek⟩ := pt_has n8 H1 H5 hHn hx2 h0 hc
  have gk := gh k hk
  have rkk := gk.rk
  have pmk := (pm_ok n8 H1 H5 hHn hk).2.2.2
  refine ⟨vp_in_nI (n := 0) (by omega) (by omega), vp_in_nI (by omega) (by omega), fun W4 e4 => ?_⟩
  rw [q_ix (by omega), z4, r.1] at e4
  have v4 : ∀ d, d ≠ 9 → W4 d = W3 d := fun d hd => by rw [e4, zup_ne hd]
  have v9 : ∀ i, i < H - 1 → W4 9 i = nI (pv (pm n H k) i) := fun i hi => by
    rw [e4, zup_eq, upd_ne (by omega), s1 (by omega) i (by omega), ek]
  have v9l : W4 9 (H - 1) = nI n := by rw [e4, zup_eq, upd_eq]
  have f4 : mfy W' W4 := f3.tr ⟨fun k _ _ _ q9 _ _ _ _ _ _ => v4 k q9, fun j _ => by rw [v4 6 (by omega)], fun j _ _ _ => by rw [v4 0 (by omega)]⟩
  obtain ⟨M0, Mc, hcl, ok, g6, g64, g7, g8, g9, g10, gl, eo, -⟩ := id gk
  have rt : mr_t W4 Mc 6 n H L := by
    have v44 : W4 4 = W 4 := by rw [v4 4 (by omega)]; exact z4
    refine ⟨by rw [v44]; exact r.1, by rw [v4 0 (by omega)]; exact z18, by rw [v44, g6 2 (by omega) (by omega)]; exact r.2.2.1, by rw [v44, g6 3 (by omega) (by omega)]; exact r.2.2.2.1, by rw [v4 0 (by omega), s2 0 (by omega), g64]; exact x19, by rw [v44, g6 5 (by omega) (by omega)]; exact r.2.2.2.2.2.1, by rw [v44]; exact r.2.2.2.2.2.2.1, fun i hi => ?_, fun s p hs hp => ?_, fun h hh => ?_⟩
    · rw [v44]; exact (r.2.2.2.2.2.2.2.1 i hi).trans (g7 i (by omega)).symm
    · rw [v44]; exact (r.2.2.2.2.2.2.2.2.1 s p hs hp).trans (g8 _ (by omega)).symm
    · by_cases q : h < H - 1
      · rw [v9 h q]; exact (g10 h q).symm
      · have e : h = H - 1 := by omega
        rw [e, v9l]; exact gl.symm
  have rw0 : mw0 W4 Mc 6 n H (fun h => h) := by
    refine ⟨fun h hh => ⟨by show h < 5; omega, ?_⟩, fun h j _ _ e => e, fun h p hh hp => ?_⟩
    · rw [v4 8 (by omega), s2 8 (by omega), k2 8 (by omega)]; exact (ah h hh).1
    · rw [v4 4 (by omega), z4]; exact (r.2.2.2.2.2.2.2.2.2.1 h p hh hp).trans (g9 _ (by omega)).symm
  refine mt_hasRing hcl ok rt rw0 (fun q => absurd q (by omega)) (fun W5 _ fx _ _ e31 e32 => ?_)
  rw [← eo] at e31 e32
  have f5 : mfy W' W5 := f4.tr fx.y
  have u9 : W5 9 = W4 9 := fx.1 9 (by omega) (by omega) (by omega) (by omega) (by omega) (by omega) (by omega)
  have u15 : W5 15 = W' 15 := by rw [fx.1 15 (by omega) (by omega) (by omega) (by omega) (by omega) (by omega) (by omega), v4 15 (by omega), z15]
  have u33 : W5 0 33 = W' 0 33 := by rw [fx.2.2 33 (by omega), v4 0 (by omega), z0 33 (by omega) (by omega)]
  have u34 : W5 0 34 = W' 0 34 := by rw [fx.2.2 34 (by omega), v4 0 (by omega), z0 34 (by omega) (by omega)]
  have u18 : W5 0 18 = nI H := by rw [fx.2.2 18 (by omega), v4 0 (by omega)]; exact z18
  have st2 : ∀ j, (j < pN n H ∧ pm n H j < x + 1) ↔ ((j < pN n H ∧ pm n H j < x) ∨ j = k) := fun j => by
    refine ⟨fun q => ?_, fun q => ?_⟩
    · by_cases e : pm n H j = x
      · exact Or.inr (pm_inj n8 H1 H5 hHn q.1 hk (e.trans ek.symm))
      · exact Or.inl ⟨q.1, by have := q.2; omega⟩
    · rcases q with q | q
      · exact ⟨q.1, by have := q.2; omega⟩
      · rw [q, ek]; exact ⟨hk, by omega⟩
  have take : pbest o (fun j => j < pN n H ∧ pm n H j < x + 1) k → wp_Model_keepBest W5 (fun zm20 => ∃ n : Nat, zlp1 (wpB_Model_parts_207 a1 1 (nI x) (fun (zm24 : zMem) => ∀ zx25 : Int32, zx25 = nI x + 1 → J 1 zx25 zm24) Q) n 0 zm20) := fun pk => by
    unfold wp_Model_keepBest
    intro W6 e6 W7 e7
    have x32 : W6 0 32 = nI (ro_t (o k)) := by rw [e6, zup_eq, upd_ne (by omega)]; exact e32
    rw [x32] at e7
    rw [e31] at e6
    refine mt_copyEnds (fun W8 d1 d2 zx ezx => ?_)
    have t9 : W7 9 = W4 9 := by rw [e7, zup_ne (by omega), e6, zup_ne (by omega), u9]
    rw [ezx, nI_1]
    refine hJ (2 ^ n - (x + 1)) _ _ _ (by omega) ⟨x + 1, rfl, by omega, rfl, (fy.tr f5).tr ⟨fun q q0 _ _ _ _ _ _ _ _ q15 => by rw [d2 q q15, e7, zup_ne q0, e6, zup_ne q0], fun j _ => by rw [d2 6 (by omega), e7, zup_ne (by omega), e6, zup_ne (by omega)], fun j _ _ q3 => by rw [d2 0 (by omega), e7, zup_eq, upd_ne (by omega), e6, zup_eq, upd_ne (by omega)]⟩, Or.inr ⟨rfl, k, pk, ?_, ?_, fun i hi => ?_, ?_⟩⟩
    · rw [d2 0 (by omega), e7, zup_eq, upd_ne (by omega), e6, zup_eq, upd_eq]
    · rw [d2 0 (by omega), e7, zup_eq, upd_eq]
    · rw [d1 i (by omega), t9]; exact v9 i hi
    · rw [d1 _ (by omega), t9]; exact v9l
  rcases st with ⟨q1, q2⟩ | ⟨q1, c2, p1, p2, p3, p4, p5⟩
  · subst q1
    refine ⟨fun _ => take ?_, fun z => absurd rfl z⟩
    refine ⟨⟨hk, by omega⟩, fun j hj => ?_⟩
    have ej : j = k := by
      rcases (st2 j).mp hj with z | z
      · exact absurd z.2 (q2 j z.1)
      · exact z
    rw [ej]
    exact ⟨Nat.le_refl _, fun z => absurd z (Nat.lt_irrefl _)⟩
  · subst q1
    have gc := gh c2 p1.1.1
    have rkc := gc.rk
    obtain ⟨a1', a2', a3', -⟩ := ro_ok rkk
    obtain ⟨b1', b2', b3', -⟩ := ro_ok rkc
    have cr := ro_cross rkk rkc
    have rks : ∀ j, ((j < pN n H ∧ pm n H j < x) ∨ j = k) → sp_rok (o j) := fun j hj => by
      rcases hj with z | z
      · exact (gh j z.1).rk
      · rw [z]; exact rkk
    have stay : pL (o k) (o c2) → (k < c2 → ¬ pL (o c2) (o k)) → ∀ zx : Int32, zx = nI x + 1 → J 1 zx W5 := fun l1 l2 zx ezx => by
      rw [ezx, nI_1]
      exact hJ (2 ^ n - (x + 1)) _ _ _ (by omega) ⟨x + 1, rfl, by omega, rfl, fy.tr f5, Or.inr ⟨rfl, c2, (p1.keep l1 l2).set st2 (fun _ _ => rfl), by rw [u33]; exact p2, by rw [u34]; exact p3, by rw [u15]; exact p4, by rw [u15]; exact p5⟩⟩
    refine ⟨fun z => absurd z (by decide), fun _ => mt_more e31 e32 (u33.trans p2) (u34.trans p3) (by omega) (by omega) (by omega) (by omega) (fun c4 => ⟨fun _ => take ?_, fun z => absurd z (by decide)⟩) (fun c4 => ⟨fun z => absurd rfl z, fun _ => ?_⟩)⟩
    · exact (p1.up rks (Or.inl (Nat.not_le.mpr (cr.mp c4)))).set st2 (fun _ _ => rfl)
    · have lk : pL (o k) (o c2) := Nat.not_lt.mp (fun z => c4 (cr.mpr z))
      refine mt_like rkk rkc e31 e32 (u33.trans p2) (u34.trans p3) lk (fun lc => ⟨fun z => absurd z (by decide), fun _ => ?_⟩) (fun lc => ⟨fun _ => stay lk (fun _ => lc), fun z => absurd rfl z⟩)
      have pmc := (pm_ok n8 H1 H5 hHn p1.1.1).2.2.2
      have px := plx_ok n8 H1 H5 hHn hk p1.1.1
      refine mt_areLess (e := pv (pm n H k)) (f := pv (pm n H c2)) u18 H1 H5 (fun i hi => by rw [u9]; exact v9 i hi) (fun i hi => by rw [u15]; exact p4 i hi) (fun i hi => by have := (pmk i hi).2; omega) (fun i hi => by have := (pmc i hi).2; omega) (by rw [u9, u15, v9l, p5]) (fun z => ⟨fun q => absurd q (by decide), fun _ => take ?_⟩) (fun z => ⟨fun _ => stay lk (fun q => ?_), fun q => absurd rfl q⟩)
      · rw [px] at z
        exact (p1.up rks (Or.inr ⟨lc, of_decide_eq_true z⟩)).set st2 (fun _ _ => rfl)
      · rw [px, decide_eq_true q] at z
        exact absurd z (by decide)
/-- parts -/
theorem p_parts {n H L : Nat} {M W : zMem} {a : Int32} {P : zMem → zMem → Prop} (vt : sp_vt M 1 n H L) (r : rt0 W M n H L) (h : cp M n H L)
    (hP : ∀ M' W', pfr M M' → mfy W W' → cp M' n H L → P M' W') : wp_Main_parts a M (fun x M' => wp_Model_parts a W (fun y W' => x = y ∧ P M' W')) := by
  obtain ⟨⟨n1, n8, H1, H5, L1, L6⟩, hn, hH, -⟩ := id vt
  have p0 := hP M W (fun _ _ => rfl) mfy.rf h
  have e10 : ((10 : Int32) + nI H) - 1 = nI (9 + H) := by
    rw [show (10 : Int32) + nI H = nI (10 + H) from q_add 10 H, q_pred (by omega)]
    exact congrArg nI (by omega)
  have e8 : (8 : Int32) + nI H = nI (8 + H) := q_add 8 H
  have asks : (¬ a < 10 ∧ ¬ nI (9 + H) ≤ a) ↔ ∃ i, i < H - 1 ∧ a = nI (10 + i) := by
    refine ⟨fun ⟨q1, q2⟩ => ?_, fun ⟨i, q1, q2⟩ => ?_⟩
    · have q0 : ¬ a < 0 := fun z => q1 (Int32.lt_of_lt_of_le z (by decide))
      obtain ⟨j, hj, rfl⟩ := nI_of q0
      have h1 : ¬ j < 10 := fun z => q1 (nI_lt (b := 10) z (by omega))
      have h2 := (nI_ltI (by omega) (by omega)).mp (Int32.not_le.mp q2)
      exact ⟨j - 10, by omega, congrArg nI (by omega)⟩
    · subst q2
      exact ⟨nI_nlt (b := 10) (by omega) (by omega), by rw [Int32.not_le]; exact nI_lt (by omega) (by omega)⟩
  -- the reference, up to its question
  have ref : ∀ Q : Int32 → zMem → Prop, ((a = 0 ∨ a = 1) ∨ (∃ i, i < H - 1 ∧ a = nI (10 + i)) → wpJ_Model_parts_33 a Q W) → (¬ ((a = 0 ∨ a = 1) ∨ ∃ i, i < H - 1 ∧ a = nI (10 + i)) → Q (-1) W) → wp_Model_parts a W Q := fun Q q1 q2 => by
    refine mt_in (lo' := 0) (hi' := 1) (by decide) (by decide) (fun c1 c2 => ⟨fun _ => q1 (Or.inl (half_in.mp ⟨c1, c2⟩)), fun z => absurd z (by decide)⟩) (fun c => ⟨fun z => absurd rfl z, fun _ => ⟨vp_in_nI (n := 1) (by omega) (by omega), ?_⟩⟩)
    rw [show ix 1 = 1 from rfl, r.2.1, e8]
    have eq : (10 ≤ a ∧ a ≤ nI (8 + H)) ↔ ∃ i, i < H - 1 ∧ a = nI (10 + i) := by
      rw [← asks]
      refine ⟨fun ⟨z1, z2⟩ => ⟨Int32.not_lt.mpr z1, fun z3 => ?_⟩, fun ⟨z1, z2⟩ => ⟨Int32.not_lt.mp z1, ?_⟩⟩
      · exact absurd (Int32.le_trans z3 z2) (by rw [Int32.not_le]; exact nI_lt (by omega) (by omega))
      · obtain ⟨i, hi, ei⟩ := asks.mp ⟨z1, z2⟩
        have hle : 10 + i ≤ 8 + H := by omega
        have hlt : 8 + H < 2147483648 := by omega
        rw [ei]
        exact nI_le hle hlt
    refine mt_in (lo' := 10) (hi' := nI (8 + H)) (by decide) rfl (fun c1 c2 => ⟨fun _ => q1 (Or.inr (eq.mp ⟨c1, c2⟩)), fun z => absurd z (by decide)⟩) (fun c2 => ⟨fun z => absurd rfl z, fun _ => q2 (fun z => ?_)⟩)
    rcases z with z | z
    · exact c (half_in.mpr z)
    · exact c2 (eq.mpr z)
  have go : ∀ s : Int32, (s = 0 → a = 0 ∨ a = 1) → (¬ s = 0 → ∃ i, i < H - 1 ∧ a = nI (10 + i)) → wpJ_Main_parts_41 a (fun x M' => wp_Model_parts a W (fun y W' => x = y ∧ P M' W')) s M := fun s hs0 hs1 => by
    have hok : (a = 0 ∨ a = 1) ∨ ∃ i, i < H - 1 ∧ a = nI (10 + i) := by
      by_cases z : s = 0
      · exact Or.inl (hs0 z)
      · exact Or.inr (hs1 z)
    unfold wpJ_Main_parts_41
    rw [hH, hn]
    refine ⟨fun c => ?_, fun c => ?_⟩
    · have hHn : H ≤ n := (nI_leI (by omega) (by omega)).mp c
      refine xt_findParts vt hHn h (fun M' hk fr => ?_)
      obtain ⟨o, b, gh, pb, b1, b2, b3⟩ := id hk
      have rkb := (gh b pb.1).rk
      have fin : ∀ x : Int32, (¬ s = 0 → ∀ i, i < H - 1 → a = nI (10 + i) → x = nI (pv (pm n H b) i)) → (s = 0 → x = nI (if a = 0 then ro_top (o b) else ro_bot (o b))) → wp_Model_parts a W (fun y W' => x = y ∧ P M' W') := fun x hx1 hx0 => by
        refine ref _ (fun _ => ?_) (fun z => absurd hok z)
        unfold wpJ_Model_parts_33
        rw [show ix 1 = 1 from rfl, show ix 0 = 0 from rfl, r.1, r.2.1]
        refine ⟨vp_in_nI (n := 0) (by omega) (by omega), vp_in_nI (n := 1) (by omega) (by omega), fun _ => ?_, fun z => absurd c z⟩
        refine mt_parts vt r hHn (fun k hk => (gh k hk).moved (fun i hi => (fr _ (by omega)).symm)) pb (fun W' fy e33 e34 e15 => ?_)
        have p1 := hP M' W' fr fy (Or.inr hk)
        refine ⟨fun q => ?_, fun q => ?_⟩
        · have hs : ¬ s = 0 := fun z => by
            rcases hs0 z with y | y
            · rw [y] at q; exact absurd q (by decide)
            · rw [y] at q; exact absurd q (by decide)
          obtain ⟨i, hi, ea⟩ := hs1 hs
          have e : a - 10 = nI i := by
            rw [ea]
            exact (q_sub (a := 10 + i) (b := 10) (by omega)).trans (congrArg nI (by omega))
          rw [e, q_ix (by omega)]
          exact ⟨vp_in_nI (by omega) (by omega), (hx1 hs i hi ea).trans (e15 i hi).symm, p1⟩
        · have hs : s = 0 := by
            refine Classical.byContradiction (fun z => ?_)
            obtain ⟨i, hi, ea⟩ := hs1 z
            rw [ea] at q
            exact q (nI_le (a := 2) (by omega) (by omega))
          obtain ⟨k1, k2, k3, -⟩ := ro_ok rkb
          rw [e33, e34, q_l64 (by omega), q_l64 (by omega)]
          refine mt_lowest (by omega) (by omega) (ro_gcd rkb) ?_
          rw [lN_i]
          refine ⟨(hx0 hs).trans ?_, p1⟩
          by_cases ca : a = 0
          · rw [if_pos ca, if_pos ca]; rfl
          · rw [if_neg ca, if_neg ca]; rfl
      refine ⟨fun z => ⟨fun q => fin _ (fun z2 => absurd z z2) (fun _ => by rw [if_neg q]; exact b2), fun q => fin _ (fun z2 => absurd z z2) (fun _ => by rw [if_pos q]; exact b1)⟩, fun z => ?_⟩
      obtain ⟨i, hi, ea⟩ := hs1 z
      have e : a - 10 = nI i := by
        rw [ea]
        exact (q_sub (a := 10 + i) (b := 10) (by omega)).trans (congrArg nI (by omega))
      rw [e, q_ix (by omega)]
      refine ⟨vp_in_nI (by omega) (by omega), fin _ (fun _ j hj ej => ?_) (fun z2 => absurd z2 z)⟩
      have : 10 + i = 10 + j := (nI_eq (by omega) (by omega)).mp (ea.symm.trans ej)
      rw [show j = i by omega]; exact b3 i hi
    · refine ref _ (fun _ => ?_) (fun z => absurd hok z)
      unfold wpJ_Model_parts_33
      rw [show ix 1 = 1 from rfl, show ix 0 = 0 from rfl, r.1, r.2.1]
      exact ⟨vp_in_nI (n := 0) (by omega) (by omega), vp_in_nI (n := 1) (by omega) (by omega), fun z => absurd z c, fun _ => ⟨rfl, p0⟩⟩
  have ask : ∀ s : Int32, (s = 0 → ¬ ∃ i, i < H - 1 ∧ a = nI (10 + i)) → (¬ s = 0 → ∃ i, i < H - 1 ∧ a = nI (10 + i)) → wpJ_Main_parts_27 a (fun x M' => wp_Model_parts a W (fun y W' => x = y ∧ P M' W')) s M := fun s hs0 hs1 => by
    unfold wpJ_Main_parts_27
    refine xt_half (fun ca => ⟨fun _ => go s (fun _ => ca) hs1, fun z => absurd z (by decide)⟩) (fun ca => ⟨fun z => absurd rfl z, fun _ => ⟨fun z => go s (fun y => absurd y z) hs1, fun z => ref _ (fun q => ?_) (fun _ => ⟨rfl, p0⟩)⟩⟩)
    rcases q with q | q
    · exact absurd q ca
    · exact absurd q (hs0 z)
  unfold wp_Main_parts wpJ_Main_parts_26
  rw [hH, e10]
  refine ⟨fun c => ask 0 (fun _ q => (asks.mpr q).1 c) (fun z => absurd rfl z), fun c => ⟨fun c2 => ask 0 (fun _ q => (asks.mpr q).2 c2) (fun z => absurd rfl z), fun c2 => ask 1 (fun z => absurd z (by decide)) (fun _ => asks.mp ⟨c, c2⟩)⟩⟩
