/-- who stands where, before a run -/
def mw0 (W M : zMem) (t n H : Nat) (wh : Nat → Nat) : Prop := (∀ h, h < H → wh h < 5 ∧ W 8 h = nI (wh h)) ∧ (∀ h j, h < H → j < H → wh h = wh j → h = j) ∧ (∀ h p, h < H → p < n → W 4 (60 + 8 * wh h + p) = M (t + 3) (h * 8 + p))
/-- the beginning of a run, up to the loop -/
theorem mt_runs_0 {t b n H L : Nat} {a1 a2 : Int32} {wh : Nat → Nat} {M0 M W : zMem} {Q : zMem → Prop} (hc : sp_clear b M0 M) (ok : sp_ok M t b n H L) (rt : mr_t W M t n H L) (rw0 : mw0 W M t n H wh) (hg : b = 32 → M 30 0 = 0)
    (hQ : ∀ W', mr W' (sp_all t b H M) 1 t b n H L wh → ms W' (sp_all t b H M) 1 b n → W' 6 99 = 0 → mfw W W' → W' 0 28 = 0 → W' 0 29 = -4 → (∀ j, j < 9600 → W' 12 j = 0) → ∃ k, zlp0 (wpB_Model_runs_64 a1 a2 Q) k W') : wp_Model_runs a1 a2 W Q := by
  have H5 : H ≤ 5 := ok.2.2.2.1.1.2.2.2.1
  have n8 : n ≤ 8 := ok.2.2.2.1.1.2.1
  obtain ⟨k2, k3, k4, k5, k0, k1, kh, kl, ks, kk⟩ := id hc
  unfold wp_Model_runs
  show wp_Model_clear (nI 1) W _
  refine mt_clear (by omega) (fun W1 a1 a2 a3 => ?_)
  refine zfill_r (c := 11) (N := 8) (v := 0) (by omega) (fun W2 b1 b2 b3 => ?_)
  refine zfill_r (c := 12) (N := 9600) (v := 0) (by omega) (fun W3 c1 c2 c3 => ?_)
  intro W4 e4 W5 e5
  have x6 : W5 6 = W1 6 := by rw [e5, zup_ne (by omega), e4, zup_ne (by omega), c3 6 (by omega), b3 6 (by omega)]
  have xk : ∀ k, k ≠ 0 → k ≠ 6 → k ≠ 11 → k ≠ 12 → W5 k = W k := fun k q0 q6 q11 q12 => by rw [e5, zup_ne q0, e4, zup_ne q0, c3 k q12, b3 k q11, a3 k q6]
  have x0 : ∀ j, j ≠ 28 → j ≠ 29 → W5 0 j = W 0 j := fun j q1 q2 => by rw [e5, zup_eq, upd_ne q2, e4, zup_eq, upd_ne q1, c3 0 (by omega), b3 0 (by omega), a3 0 (by omega)]
  have x28 : W5 0 28 = 0 := by rw [e5, zup_eq, upd_ne (by omega), e4, zup_eq, upd_eq]
  have x29 : W5 0 29 = -4 := by rw [e5, zup_eq, upd_eq]
  have x12 : ∀ j, j < 9600 → W5 12 j = 0 := fun j hj => by rw [e5, zup_ne (by omega), e4, zup_ne (by omega)]; exact c1 j hj
  have x11 : ∀ j, j < 8 → W5 11 j = 0 := fun j hj => by rw [e5, zup_ne (by omega), e4, zup_ne (by omega), c3 11 (by omega)]; exact b1 j hj
  have mf5 : mfw W W5 := ⟨fun k q0 q6 q10 q11 q12 _ _ => xk k q0 q6 q11 q12, fun j hj => by rw [x6]; exact a2 j (by omega), fun j q1 q2 _ => x0 j q1 q2⟩
  have rt5 : mr_t W5 M t n H L := by
    unfold mr_t at rt ⊢
    rw [xk 4 (by omega) (by omega) (by omega) (by omega), xk 9 (by omega) (by omega) (by omega) (by omega), x0 18 (by omega) (by omega), x0 19 (by omega) (by omega)]
    exact rt
  have r5 : mr W5 M 1 t b n H L wh := mr_clear (by omega) (fun j hj => by rw [x6]; exact a1 j hj) hc n8 H5 rt5 (by rw [xk 8 (by omega) (by omega) (by omega) (by omega)]; exact rw0.1) rw0.2.1 (by rw [xk 4 (by omega) (by omega) (by omega) (by omega)]; exact rw0.2.2) (fun _ q => hg q)
  have hb1 := sp_c_bound (M := M) (b := b) H H5
  show wp_Model_settle (nI 1) W5 _
  refine mt_settle (C := 40) (by omega) ok r5 (fun _ => ⟨0, k4, by omega⟩) (fun W6 r6 f6 o6 z6 => ?_)
  refine hQ W6 r6 (fun _ p hp => ?_) z6 (mf5.tr f6.w) ?_ ?_ (fun j hj => ?_)
  · rw [f6.1 11 (by omega) (by omega), x11 p (by omega), (sp_all_car (C := 0) (D := 0) (by omega) ok).2.2.1, ks p (by omega)]
  · rw [f6.1 0 (by omega) (by omega)]; exact x28
  · rw [f6.1 0 (by omega) (by omega)]; exact x29
  · rw [f6.1 12 (by omega) (by omega)]; exact x12 j hj
/-- a run without a ring -/
theorem mt_runs {t b n H L m : Nat} {wh : Nat → Nat} {M0 M W : zMem} {Q : zMem → Prop} (hm : m ≤ 120) (hc : sp_clear b M0 M) (ok : sp_ok M t b n H L) (rt : mr_t W M t n H L) (rw0 : mw0 W M t n H wh) (hg : b = 32 → M 30 0 = 0)
    (hQ : ∀ W', mr W' (sp_run t b H (nI m) 12000 (sp_all t b H M)) 1 t b n H L wh → ms W' (sp_run t b H (nI m) 12000 (sp_all t b H M)) 1 b n → W' 6 99 = 0 → mfw W W' → Q W') : wp_Model_runs (nI m) 0 W Q := by
  refine mt_runs_0 hc ok rt rw0 hg (fun W1 r1 s1 z1 f1 _ _ _ => ?_)
  obtain ⟨ri, -, -⟩ := sp_ri_0 hc ok
  generalize sp_all t b H M = M1 at r1 s1 ri hQ
  refine zlp0_r (fun f W2 => ∃ M2, sp_rl M2 t b n H L f ∧ mr W2 M2 1 t b n H L wh ∧ ms W2 M2 1 b n ∧ W2 6 99 = 0 ∧ mfw W W2 ∧ sp_run t b H (nI m) f M2 = sp_run t b H (nI m) 12000 M1) ?_ (n := 12000) ⟨M1, sp_rl_0 ri, r1, s1, z1, f1, rfl⟩
  rintro f W2 ⟨M2, rl, r2, s2, z2, f2, er⟩ J hJ
  unfold wpB_Model_runs_64
  have h1 : W2 6 (96 * 1 + 1) = M2 b 3 := r2.2.2.2.2.1.2.1
  show wp_Model_of (nI 1) (nI 1) W2 _
  rw [e_of (by omega) (by omega), h1]
  refine ⟨fun q => ?_, fun q => ?_⟩
  · rw [sp_run_end (show ¬ M2 b 3 < nI m from Int32.not_lt.mpr q)] at er
    rw [er] at r2 s2
    exact hQ W2 r2 s2 z2 f2
  · obtain ⟨g, rfl, rl2, er2, -⟩ := sp_rl_step rl hm (Int32.not_le.mp q)
    have hdn : ∃ dn, dn ≤ 160 ∧ M2 b 3 = nI dn := by
      obtain ⟨dn, d1, d2⟩ := rl.1.2.2.1
      refine ⟨dn, ?_, d2⟩
      have q' := Int32.not_le.mp q
      rw [d2] at q'
      have := (nI_ltI (a := dn) (b := m) (by omega) (by omega)).mp q'
      omega
    show wp_Model_of (nI 1) (nI 3) W2 _
    rw [e_of (by omega) (by omega)]
    refine ⟨fun c => absurd z2 c, fun _ => ?_⟩
    show wp_Model_of (nI 1) (nI 1) W2 _
    rw [e_of (by omega) (by omega)]
    refine mt_event rl.1 hdn r2 s2 (fun W3 r3 s3 z3 f3 _ => ⟨fun _ => ?_, fun c => absurd rfl c⟩)
    exact hJ g W3 (by omega) ⟨_, rl2, r3, s3, z3, f2.tr f3, er2.symm.trans er⟩
