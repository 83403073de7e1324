/-- the class looks for a ring -/
theorem xt_settle {t g n H L : Nat} {M : zMem} {Q : zMem → Prop} (ht : t = 1 ∨ t = 6) (hg : g = 54 ∨ g = 55) (vt : sp_vt M t n H L)
    (hQ : ∀ M0 Mc M', sp_clear 45 M0 Mc → sp_ok Mc t 45 n H L → (∀ i, i ≤ 4 → Mc (t + i) = M (t + i)) → (M0 (45 + 4) = M (45 + 4) ∧ M0 (45 + 5) = M (45 + 5)) → sp_rok (sp_ring t 45 n H Mc) → sp_ro (sp_ring t 45 n H Mc) M' g → (∀ k, k ≠ g → (k < 41 ∨ 54 ≤ k) → M' k = M k) → Q M') : wp_Settling_settle 41 t g M Q := by
  have ht4 : t + 4 < 18 := by omega
  have n8 : n ≤ 8 := vt.1.2.1
  have H5 : H ≤ 5 := vt.1.2.2.2.1
  unfold wp_Settling_settle wp_Ring_lose
  intro M1 e1 M2 e2 M3 e3 M4 e4 M5 e5
  refine ⟨ht, fun M6 e6 => ?_⟩
  have k6 : ∀ k, k ≠ g → k ≠ 41 → k ≠ 45 → M6 k = M k := fun k a b c => by
    rw [e6, zup_ne c, e5, zup_ne b, e4, zup_ne a, e3, zup_ne a, e2, zup_ne a, e1, zup_ne a]
  have x41 : M6 41 1 = 0 := by
    rw [e6, zup_ne (by omega), e5, zup_eq, upd_eq]
  have xg : ∀ j, M6 g j = M4 g j := fun j => by
    rw [e6, zup_ne (by omega), e5, zup_ne (by omega)]
  have g7 : M6 g 7 = 1 := by rw [xg, e4, zup_eq, upd_eq]
  have g6 : M6 g 6 = 0 := by rw [xg, e4, zup_eq, upd_ne (by omega), e3, zup_eq, upd_eq]
  have g1 : M6 g 1 = 0 := by rw [xg, e4, zup_eq, upd_ne (by omega), e3, zup_eq, upd_ne (by omega), e2, zup_eq, upd_eq]
  have g0 : M6 g 0 = 1 := by rw [xg, e4, zup_eq, upd_ne (by omega), e3, zup_eq, upd_ne (by omega), e2, zup_eq, upd_ne (by omega), e1, zup_eq, upd_eq]
  have b6 : M6 45 0 = zcd t := by rw [e6, zup_eq, upd_eq]
  clear e6 e5 e4 e3 e2 e1 xg
  show wp_Bench_clear 45 M6 _
  refine xt_clear (fun Mc hc => ?_)
  have kc : ∀ k, (k < 45 ∨ 54 ≤ k) → Mc k = M6 k := fun k hk => hc.2.2.2.2.2.2.2.2.2 k (by omega)
  have vt6 : sp_vt M6 t n H L := vt.moved (fun i hi => k6 _ (by omega) (by omega) (by omega))
  have lg : zlg 45 = none := rfl
  have ok : sp_ok Mc t 45 n H L := sp_ok_clear hc (by rw [b6]; exact ztc_cd ht) ht4 (by omega) vt6 (fun g q => by rw [lg] at q; cases q)
  have tc : ∀ i, i ≤ 4 → Mc (t + i) = M (t + i) := fun i hi => by rw [kc _ (by omega), k6 _ (by omega) (by omega) (by omega)]
  replace hQ := fun M' => hQ M6 Mc M' hc ok tc ⟨k6 _ (by omega) (by omega) (by omega), k6 _ (by omega) (by omega) (by omega)⟩
  show wp_Bench_doAll 45 Mc _
  refine xt_doAll ok ?_
  obtain ⟨dn0, es0⟩ := sp_es_0 hc ok
  have fr0 := (sp_ri_0 hc ok).2.1
  have er0 : sp_rg n H 12000 (vw t 45 (sp_all t 45 H Mc)) 0 (fun _ => Mc) = sp_ring t 45 n H Mc := rfl
  have ka : ∀ k, (k < 45 ∨ 54 ≤ k) → sp_all t 45 H Mc k = M6 k := fun k hk => by rw [fr0.1 k (by omega) (fun q => absurd q (by omega)), kc k hk]
  generalize sp_ring t 45 n H Mc = o at hQ er0
  generalize sp_all t 45 H Mc = Ma at es0 er0 ka
  show wp_Bench_leastLeft 45 Ma _
  refine xt_least es0.1.1.1 ?_
  refine zlp2_r (fun f x y M' => (Q M' ∧ ¬ M' g 1 = 0) ∨ (∃ i r R dn tk, y = nI i ∧ i + f = 12000 ∧ x = sp_least (M' (45 + 2)) H 0 0 ∧ sp_es M' t 45 n H L f dn tk ∧ sp_lc M' n H r R dn tk ∧ (M' g 0 = 1 ∧ M' g 1 = 0 ∧ M' g 6 = 0 ∧ M' g 7 = 1) ∧ (∀ k, k ≠ g → (k < 41 ∨ 54 ≤ k) → M' k = M k) ∧ sp_rg n H f (vw t 45 M') r R = o)) ?_ (n := 12000) (Or.inr ⟨0, 0, fun _ => Mc, dn0, 0, rfl, by omega, rfl, es0, ⟨by omega, by rw [ka 41 (by omega)]; exact x41, fun q hq => absurd hq (by omega)⟩, by rw [ka g (by omega)]; exact ⟨g0, g1, g6, g7⟩, fun k a b => by rw [ka k (by omega), k6 k a (by omega) (by omega)], er0⟩)
  rintro f x y M' (⟨hq, hf⟩ | ⟨i, r, R, dn, tk, rfl, hi, rfl, es, lc, gg, kk, er⟩) J hJ
  · exact ⟨fun _ => hq, fun _ => ⟨fun _ => hq, fun _ => ⟨fun _ => hq, fun _ => ⟨fun _ => hq, fun c => absurd c hf⟩⟩⟩⟩
  have hd := es.2.2.1.1
  have hd2 := es.2.2.1.2
  have hvd : vw t 45 M' 5 3 = nI dn := by rw [vw_0 (by omega)]; exact hd
  have e1 : ¬ 1000000 ≤ nI i := by rw [Int32.not_le]; exact nI_lt (b := 1000000) (by omega) (by omega)
  have e2 : ¬ sp_least (M' (45 + 2)) H 0 0 ≤ 0 := by rw [Int32.not_le]; exact sp_nstuck es.1.1.1 es.1.1.2.1
  refine ⟨fun c => absurd c e1, fun _ => ⟨fun c => absurd c e2, fun _ => ⟨fun c => ?_, fun c => ⟨fun c2 => absurd gg.2.1 c2, fun _ => ?_⟩⟩⟩⟩
  · have c' : ¬ vw t 45 M' 5 3 < 120 := by rw [vw_0 (by omega), Int32.not_lt]; exact c
    rw [sp_rg_end c'] at er
    subst er
    exact hQ M' (fun da ta dn tn q => by cases q) ⟨gg.1, fun _ => ⟨gg.2.1, gg.2.2.1, gg.2.2.2⟩, fun da ta dn tn q => by cases q⟩ kk
  have c0 : M' 45 3 < 120 := Int32.not_le.mp c
  have c1 : dn < 120 := by
    rw [hd] at c0
    exact (nI_ltI (a := dn) (b := 120) (by omega) (by omega)).mp c0
  have cv : vw t 45 M' 5 3 < 120 := by rw [vw_0 (by omega)]; exact c0
  obtain ⟨f', dn', tk', rfl, es', hdd, htt, fr⟩ := sp_es_step es c1
  have ev : vw t 45 (sp_ev t 45 H M') = sp_ev 0 5 H (vw t 45 M') := vw_ev (by omega) ht4
  have hve : sp_ev 0 5 H (vw t 45 M') 5 3 = nI dn' := by rw [← ev, vw_0 (by omega)]; exact es'.2.2.1.1
  have dn2 := es'.2.2.1.2
  intro x11 e11
  show wp_Bench_letPass 45 (sp_least (M' (45 + 2)) H 0 0) M' (fun M1 => wp_Bench_doAll 45 M1 _)
  refine xt_event es.1.1 ?_
  have fk : ∀ k, (k < 45 ∨ 54 ≤ k) → sp_ev t 45 H M' k = M' k := fun k hk => fr.1 k (by omega) (fun q => absurd q (by omega))
  generalize sp_ev t 45 H M' = M2 at es' fr ev fk
  rw [e11]
  have hd' : M2 (41 + 4) 3 = nI dn' := es'.2.2.1.1
  have hdM : M' (41 + 4) 3 = nI dn := hd
  rw [hd', hdM]
  refine ⟨fun c3 => ?_, fun c3 => ⟨fun c4 => ?_, fun _ => ?_⟩⟩
  · have c3' : ¬ vw t 45 M' 5 3 < sp_ev 0 5 H (vw t 45 M') 5 3 := by rw [hvd, hve, Int32.not_lt]; exact c3
    rw [sp_rg_go cv c3', ← ev] at er
    show wp_Bench_leastLeft 45 M2 _
    refine xt_least es'.1.1.1 (fun y hy => ?_)
    rw [hy, nI_1]
    exact hJ f' _ _ _ (by omega) (Or.inr ⟨i + 1, r, R, dn', tk', rfl, by omega, rfl, es', ⟨by have := lc.1; omega, by rw [fk 41 (by omega)]; exact lc.2.1, fun q hq => ⟨(lc.2.2 q hq).1.mono hdd (by omega), by rw [fk 42 (by omega), fk 43 (by omega), fk 44 (by omega)]; exact (lc.2.2 q hq).2⟩⟩, by rw [fk g (by omega)]; exact gg, fun k a b => by rw [fk k (by omega)]; exact kk k a b, er⟩)
  · rw [fk 41 (by omega), lc.2.1] at c4
    have := (nI_leI (a := 120) (b := r) (by omega) (by have := lc.1; omega)).mp c4
    have := lc.1
    omega
  have hlt : dn < dn' := by
    have := Int32.not_le.mp c3
    exact (nI_ltI (by omega) (by omega)).mp this
  have r1 : r < 120 := by have := lc.1; omega
  have c3' : vw t 45 M' 5 3 < sp_ev 0 5 H (vw t 45 M') 5 3 := by rw [hvd, hve]; exact nI_lt hlt (by omega)
  have ok2 := es'.1.1.1
  have vt2 := ok2.2.2.2.1
  refine xt_writeDown r1 (by rw [fk 41 (by omega)]; exact lc.2.1) ht4 vt2.2.1 vt2.2.2.1 n8 H5 (fun M3 w1 w2 w3 w4 w5 => ?_)
  have r3 : M3 41 1 = nI r := by rw [w5 41 (by omega) (by omega) (by omega), fk 41 (by omega)]; exact lc.2.1
  refine xt_earlier r1 r3 (fun oo ho => ?_)
  have rv' := sp_rv_of es'
  have key : ∀ q, q < r → ((∀ i, i < 46 → M3 42 (46 * q + i) = M3 42 (46 * r + i)) ↔ sp_same 0 5 n H (R q) (sp_ev 0 5 H (vw t 45 M'))) := fun q hq => by
    have a1 : ∀ i, i < 46 → M3 42 (46 * q + i) = sp_row 0 5 n H (R q) i := fun i hi => by rw [w2 _ (by omega), fk 42 (by omega)]; exact (lc.2.2 q hq).2.1 i hi
    have a2 : ∀ i, i < 46 → M3 42 (46 * r + i) = sp_row 0 5 n H (vw t 45 M2) i := fun i hi => by rw [w1 i hi, vw_row]
    rw [← ev, ← sp_row_eq n8 H5 (lc.2.2 q hq).1.1 rv'.1 (lc.2.2 q hq).1.2.1 rv'.2.1]
    exact ⟨fun z i hi => by rw [← a1 i hi, ← a2 i hi]; exact z i hi, fun z i hi => by rw [a1 i hi, a2 i hi]; exact z i hi⟩
  have eo := sp_fst_eq ho key
  have k3 : ∀ k, (k < 41 ∨ 45 ≤ k) → M3 k = M2 k := fun k hk => w5 k (by omega) (by omega) (by omega)
  cases oo with
  | none =>
    refine ⟨fun _ => ?_, fun c => absurd (by decide) c⟩
    intro M4 e4
    have k4 : ∀ k, k ≠ 41 → M4 k = M3 k := fun k hk => by rw [e4, zup_ne hk]
    have es4 : sp_es M4 t 45 n H L f' dn' tk' := sp_es_ext es' (by omega) (fun i hi => by rw [k4 _ (by omega), k3 _ (by omega)]) (fun i hi => by rw [k4 _ (by omega), k3 _ (by omega)])
    have ev4 : vw t 45 M4 = sp_ev 0 5 H (vw t 45 M') := by
      rw [← ev]
      exact vw_ext (fun i hi => by rw [k4 _ (by omega), k3 _ (by omega)]) (fun j _ => by rw [k4 _ (by omega), k3 _ (by omega)]) (fun i _ hi => by rw [k4 _ (by omega), k3 _ (by omega)])
    rw [sp_rg_none cv c3' eo.symm, ← ev4] at er
    show wp_Bench_leastLeft 45 M4 _
    refine xt_least es4.1.1.1 (fun y hy => ?_)
    rw [hy, nI_1]
    refine hJ f' _ _ _ (by omega) (Or.inr ⟨i + 1, r + 1, fun i => if i = r then vw t 45 M4 else R i, dn', tk', rfl, by omega, rfl, es4, ⟨by have := lc.1; omega, by rw [e4, zup_eq, upd_eq, r3, nI_1], fun q hq => ?_⟩, by rw [k4 g (by omega), k3 g (by omega), fk g (by omega)]; exact gg, fun k a b => by rw [k4 k (by omega), k3 k (by omega), fk k (by omega)]; exact kk k a b, er⟩)
    rw [k4 42 (by omega), k4 43 (by omega), k4 44 (by omega)]
    by_cases cq : q = r
    · subst cq
      simp only [↓reduceIte]
      refine ⟨sp_rv_of es4, fun i hi => ?_, ?_, ?_⟩
      · rw [w1 i hi, ev4, ← ev, vw_row]
      · rw [w3, upd_eq, ev4, ← ev, vw_0 (by omega)]
      · rw [w4, upd_eq, ev4, ← ev, vw_0 (by omega)]
    · simp only [cq, ↓reduceIte]
      refine ⟨(lc.2.2 q (by omega)).1.mono hdd (by omega), fun i hi => ?_, ?_, ?_⟩
      · rw [w2 _ (by omega), fk 42 (by omega)]; exact (lc.2.2 q (by omega)).2.1 i hi
      · rw [w3, upd_ne cq, fk 43 (by omega)]; exact (lc.2.2 q (by omega)).2.2.1
      · rw [w4, upd_ne cq, fk 44 (by omega)]; exact (lc.2.2 q (by omega)).2.2.2
  | some q =>
    have hq : q < r := sp_fo_lt eo.symm
    rw [sp_rg_some cv c3' eo.symm] at er
    obtain ⟨-, -, ⟨da, d1, d2⟩, u, u1, u2⟩ := (lc.2.2 q hq).1
    have y3 : sp_ev 0 5 H (vw t 45 M') 5 2 = nI tk' := by rw [← ev, vw_0 (by omega)]; exact es'.2.2.2.1
    have tb := es'.2.2.2.2
    unfold sp_rn at er
    rw [d2, u2, hve, y3, q_ix (by omega), q_ix (by omega), q_ix (by omega), q_ix (by omega)] at er
    refine ⟨fun c => absurd c (by rw [Int32.not_lt]; exact nI_le (a := 0) (by omega) (by omega)), fun _ => ⟨vp_in_nI (by omega) (by omega), vp_in_nI (by omega) (by omega), ?_⟩⟩
    have z1 : M3 (41 + 2) (ix (nI q)) = nI da := by
      rw [q_ix (by omega)]
      show M3 43 q = _
      rw [w3, upd_ne (by omega), fk 43 (by omega), (lc.2.2 q hq).2.2.1, d2]
    have z2 : M3 (41 + 3) (ix (nI q)) = nI u := by
      rw [q_ix (by omega)]
      show M3 44 q = _
      rw [w4, upd_ne (by omega), fk 44 (by omega), (lc.2.2 q hq).2.2.2, u2]
    have z3 : M3 (41 + 4) 3 = nI dn' := by
      show M3 45 3 = _
      rw [k3 45 (by omega)]; exact hd'
    have z4 : M3 (41 + 4) 2 = nI tk' := by
      show M3 45 2 = _
      rw [k3 45 (by omega)]; exact es'.2.2.2.1
    rw [z1, z2, z3, z4]
    refine xt_close (by omega) (by omega) (by omega) (by omega) (fun M4 p0 p1 p2 p5 p3 p4 p6 p7 pk => ?_)
    intro M5 e5
    have k5 : ∀ k, k ≠ 41 → k ≠ g → M5 k = M3 k := fun k a b => by rw [e5, zup_ne a, pk k b]
    have kg : M5 g = M4 g := by rw [e5, zup_ne (by omega)]
    have es5 : sp_es M5 t 45 n H L f' dn' tk' := sp_es_ext es' (by omega) (fun i hi => by rw [k5 _ (by omega) (by omega), k3 _ (by omega)]) (fun i hi => by rw [k5 _ (by omega) (by omega), k3 _ (by omega)])
    show wp_Bench_leastLeft 45 M5 _
    refine xt_least es5.1.1.1 (fun y hy => ?_)
    refine hJ f' _ _ _ (by omega) (Or.inl ⟨?_, by rw [kg, p1]; decide⟩)
    subst er
    refine hQ M5 (fun a1 a2 a3 a4 qq => ?_) ⟨?_, fun qq => (by cases qq), fun a1 a2 a3 a4 qq => ?_⟩ (fun k a b => ?_)
    · cases qq
      exact ⟨by omega, by omega, by omega, by omega⟩
    · rw [kg, p0, k3 g (by omega), fk g (by omega)]; exact gg.1
    · cases qq
      rw [kg]
      exact ⟨p1, p2, p5, p3, p4, p6, p7⟩
    · rw [k5 k (by omega) a, k3 k (by omega), fk k (by omega)]; exact kk k a b
