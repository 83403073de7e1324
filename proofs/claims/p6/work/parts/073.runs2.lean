theorem sp_rl_0 {t b n H L : Nat} {M : zMem} (ri : sp_ri M t b n H L) : sp_rl M t b n H L 12000 := ⟨ri, by omega⟩
/-- the class's loop over events, whatever else it does with them -/
theorem xt_event {t b n H L : Nat} {M : zMem} {Q : zMem → Prop} (ri : sp_ri M t b n H L) (hQ : Q (sp_ev t b H M)) : wp_Bench_letPass b (sp_least (M (b + 2)) H 0 0) M (fun M1 => wp_Bench_doAll b M1 Q) := by
  have hc := sp_can_least ri.1 ri.2.1
  refine xt_pass ri.1 hc ?_
  exact xt_doAll (sp_pass_ok ri.1 hc) hQ
theorem xt_runFor {n H L m : Nat} {M : zMem} {Q : zMem → Prop} (vt : sp_vt M 1 n H L) (ht : ztc (M 32 0) = 1) (hm : m ≤ 120) (h0 : M 29 2 = nI m → Q M)
    (hQ : ¬ M 29 2 = nI m → ∀ Mc, sp_clear 32 (zup (zup (zup M 29 2 (nI m)) 29 3 0) 30 0 0) Mc → Q (sp_run 1 32 H (nI m) 12000 (sp_all 1 32 H Mc))) : wp_Course_runFor 29 (nI m) M Q := by
  unfold wp_Course_runFor
  refine ⟨fun c => ?_, h0⟩
  replace hQ := hQ c
  intro M1 e1 M2 e2 M3 e3
  have eM3 : M3 = zup (zup (zup M 29 2 (nI m)) 29 3 0) 30 0 0 := by rw [e3, e2, e1]
  rw [← eM3] at hQ
  have k3 : ∀ k, k ≠ 29 → k ≠ 30 → M3 k = M k := fun k a b => by rw [eM3]; simp (disch := omega) only [zup_ne]
  have vt3 : sp_vt M3 1 n H L := vt.moved (fun i hi => k3 _ (by omega) (by omega))
  have z30 : M3 30 0 = 0 := by rw [eM3]; simp (disch := omega) only [zup_eq, upd_eq]
  have z29 : M3 29 3 = 0 := by rw [eM3]; simp (disch := omega) only [zup_ne, zup_eq, upd_eq]
  show wp_Bench_clear 32 M3 _
  refine xt_clear (fun Mc hc => ?_)
  have ok : sp_ok Mc 1 32 n H L := sp_ok_clear hc (by rw [k3 32 (by omega) (by omega)]; exact ht) (by omega) (by omega) vt3 (fun g q => by
    rcases zlg_cases 32 with d | ⟨d, -⟩
    · cases d
    · rw [d] at q; cases q; exact ⟨0, z30, by omega⟩)
  replace hQ := hQ Mc hc
  show wp_Bench_doAll 32 Mc _
  refine xt_doAll ok ?_
  obtain ⟨ri, fr, -⟩ := sp_ri_0 hc ok
  have s29 : sp_all 1 32 H Mc 29 3 = 0 := by
    rw [fr.1 29 (by omega) (fun _ => by omega), hc.2.2.2.2.2.2.2.2.2 29 (by omega)]
    exact z29
  generalize sp_all 1 32 H Mc = M0 at ri hQ s29
  refine zlp1_r (fun f x M' => ∃ i, x = nI i ∧ i + f = 12000 ∧ sp_rl M' 1 32 n H L f ∧ M' 29 3 = 0 ∧ Q (sp_run 1 32 H (nI m) f M')) ?_ (n := 12000) ⟨0, rfl, by omega, sp_rl_0 ri, s29, hQ⟩
  rintro f x M' ⟨i, rfl, hi, rl, hs, hQ⟩ J hJ
  unfold wpB_Course_runFor_43
  have e1 : ¬ 1000000 ≤ nI i := by rw [Int32.not_le]; exact nI_lt (b := 1000000) (by omega) (by omega)
  refine ⟨fun q => absurd q e1, fun _ => ⟨fun q => ?_, fun q => ⟨fun c => absurd hs c, fun _ => ?_⟩⟩⟩
  · rw [sp_run_end (show ¬ M' 32 3 < nI m from Int32.not_lt.mpr q)] at hQ
    exact hQ
  · obtain ⟨g, rfl, rl2, er, fr2⟩ := sp_rl_step rl hm (show M' 32 3 < nI m from Int32.not_le.mp q)
    rw [er] at hQ
    show wp_Bench_leastLeft 32 M' _
    refine xt_least rl.1.1 ⟨fun _ => ?_, fun c => ?_⟩
    · show wp_Bench_letPass 32 (sp_least (M' (32 + 2)) H 0 0) M' (fun M1 => wp_Bench_doAll 32 M1 _)
      refine xt_event rl.1 (fun y hy => ?_)
      rw [hy, nI_1]
      refine hJ g _ _ (by omega) ⟨i + 1, rfl, by omega, rl2, ?_, hQ⟩
      rw [fr2.1 29 (by omega) (fun _ => by omega)]
      exact hs
    · have := sp_nstuck rl.1.1 rl.1.2.1
      rw [c] at this
      exact absurd this (by decide)
/-- what the reference may change in a run -/
def mfw (W W' : zMem) : Prop := (∀ k, k ≠ 0 → k ≠ 6 → k ≠ 10 → k ≠ 11 → k ≠ 12 → k ≠ 13 → k ≠ 14 → W' k = W k) ∧ (∀ j, (j < 96 ∨ 192 ≤ j) → W' 6 j = W 6 j) ∧ (∀ j, j ≠ 28 → j ≠ 29 → j ≠ 30 → W' 0 j = W 0 j)
theorem mfw.rf {W : zMem} : mfw W W := ⟨fun _ _ _ _ _ _ _ _ => rfl, fun _ _ => rfl, fun _ _ _ _ => rfl⟩
theorem mfw.tr {W W1 W2 : zMem} (h1 : mfw W W1) (h2 : mfw W1 W2) : mfw W W2 := ⟨fun k a b c d e f g => (h2.1 k a b c d e f g).trans (h1.1 k a b c d e f g), fun j a => (h2.2.1 j a).trans (h1.2.1 j a), fun j a b c => (h2.2.2 j a b c).trans (h1.2.2 j a b c)⟩
theorem mfr.w {W W' : zMem} (h : mfr 1 W W') : mfw W W' := ⟨fun k _ b c _ _ _ _ => h.1 k b c, fun j a => h.2.1 j (by omega), fun j _ _ _ => by rw [h.1 0 (by omega) (by omega)]⟩
theorem mfp.w {W W' : zMem} (h : mfp 1 W W') : mfw W W' := ⟨fun k _ b _ d _ _ _ => h.1 k b d, fun j a => h.2.1 j (by omega), fun j _ _ _ => by rw [h.1 0 (by omega) (by omega)]⟩
/-- an event, the reference's side -/
theorem mt_event {t b n H L : Nat} {wh : Nat → Nat} {M W : zMem} {Q : zMem → Prop} (ri : sp_ri M t b n H L) (hdn : ∃ dn, dn ≤ 160 ∧ M b 3 = nI dn) (r : mr W M 1 t b n H L wh) (rs : ms W M 1 b n)
    (hQ : ∀ W', mr W' (sp_ev t b H M) 1 t b n H L wh → ms W' (sp_ev t b H M) 1 b n → W' 6 99 = 0 → mfw W W' → (∀ k, k ≠ 6 → k ≠ 10 → k ≠ 11 → W' k = W k) → Q W') : wp_Model_least 1 W (fun d W1 => wp_Model_pass 1 d W1 (fun W2 => wp_Model_settle 1 W2 Q)) := by
  have hc := sp_can_least ri.1 ri.2.1
  have ok1 := sp_pass_ok ri.1 hc
  have H5 : H ≤ 5 := ri.1.2.2.2.1.1.2.2.2.1
  obtain ⟨dn, d1, d2⟩ := hdn
  have hP := sp_P_le ri.1 d2 (by omega)
  show wp_Model_least (nI 1) W _
  refine mt_least ri.1 r ?_
  show wp_Model_pass (nI 1) _ W _
  refine mt_pass ri.1 r rs hc (fun W2 r2 s2 f2 => ?_)
  show wp_Model_settle (nI 1) W2 _
  obtain ⟨f1, f2', f3, f4, f5⟩ := sp_pass_fr (b := b) (H := H) (d := sp_least (M (b + 2)) H 0 0) (M := M)
  have hb1 := sp_c_bound (M := sp_pass b H (sp_least (M (b + 2)) H 0 0) M) (b := b) H H5
  obtain ⟨o, o1, o2⟩ := ri.2.2.2
  refine mt_settle (C := 40 * (sp_P M b H + 1) + 40) (by omega) ok1 r2 (fun _ => ⟨o, by rw [f3 4 (by omega)]; exact o1, by omega⟩) (fun W3 r3 f3' o3 z3 => ?_)
  refine hQ W3 r3 (fun _ p hp => ?_) z3 (f2.w.tr f3'.w) (fun k k6 k10 k11 => (f3'.1 k k6 k10).trans (f2.1 k k6 k11))
  rw [f3'.1 11 (by omega) (by omega), s2 rfl p hp]
  unfold sp_ev
  rw [(sp_all_car (C := 0) (D := 0) (by omega) ok1).2.2.1]
