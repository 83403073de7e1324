theorem mr_ext {W W' M : zMem} {pg t b n H L : Nat} {wh : Nat → Nat} (r : mr W M pg t b n H L wh) (e18 : W' 0 18 = W 0 18) (e19 : W' 0 19 = W 0 19) (e4 : W' 4 = W 4) (e6 : W' 6 = W 6) (e8 : W' 8 = W 8) (e9 : W' 9 = W 9) (e10 : W' 10 = W 10) : mr W' M pg t b n H L wh := by
  unfold mr mr_t mr_w mr_h mr_s mr_g at r ⊢
  rw [e18, e19, e4, e6, e8, e9, e10]
  exact r
/-- a row that the reference has seen -/
def ms_q (W Wq : zMem) (H q : Nat) (wh : Nat → Nat) : Prop := (∀ h k, h < H → k < 5 → W 12 (80 * q + (5 * h + k)) = ms_c Wq h k) ∧ (∀ h p, h < H → p < 8 → W 12 (80 * q + (30 + 8 * h + p)) = ms_l Wq (wh h) p) ∧ W 12 (80 * q + 25) = Wq 6 100 ∧ ∀ i, (5 * H ≤ i ∧ i < 25) ∨ (26 ≤ i ∧ i < 30) → W 12 (80 * q + i) = 0
def ms_r (W : zMem) (t b n H L q : Nat) (wh : Nat → Nat) (V : zMem) (dn tk : Nat) : Prop :=
  sp_rv n H V dn tk ∧ (∃ Wq X, vw t b X = V ∧ mr Wq X 1 t b n H L wh ∧ W 4 = Wq 4 ∧ (∀ h, h < H → sp_hd X t b n h) ∧ (∀ j, j < 40 → 0 ≤ X (b + 7) j) ∧ ms_q W Wq H q wh) ∧ W 13 q = V 5 3 ∧ W 14 q = V 5 2
theorem ms_r.moved {W W' V : zMem} {t b n H L q dn tk dn' tk' : Nat} {wh : Nat → Nat} (h : ms_r W t b n H L q wh V dn tk) (h1 : dn ≤ dn') (h2 : tk ≤ tk') (H5 : H ≤ 5) (e4 : W' 4 = W 4) (e12 : ∀ j, 80 * q ≤ j → j < 80 * q + 80 → W' 12 j = W 12 j) (e13 : W' 13 q = W 13 q) (e14 : W' 14 q = W 14 q) : ms_r W' t b n H L q wh V dn' tk' := by
  obtain ⟨a, ⟨Wq, X, b1, b2, b3, b4, b5, c1, c2, c3, c4⟩, d1, d2⟩ := h
  refine ⟨a.mono h1 h2, ⟨Wq, X, b1, b2, e4.trans b3, b4, b5, fun h k hh hk => ?_, fun h p hh hp => ?_, ?_, fun i hi => ?_⟩, e13.trans d1, e14.trans d2⟩
  · rw [e12 _ (by omega) (by omega)]; exact c1 h k hh hk
  · rw [e12 _ (by omega) (by omega)]; exact c2 h p hh hp
  · rw [e12 _ (by omega) (by omega)]; exact c3
  · rw [e12 _ (by omega) (by omega)]; exact c4 i hi
/-- the reference's records -/
def ms_s (W : zMem) (t b n H L r : Nat) (wh : Nat → Nat) (R : Nat → zMem) (dn tk : Nat) : Prop := r ≤ dn ∧ W 0 28 = nI r ∧ W 0 29 = -4 ∧ (∀ q, q < r → ms_r W t b n H L q wh (R q) dn tk) ∧ ∀ j, 80 * r ≤ j → j < 9600 → W 12 j = 0
/-- what the reference writes of a ring -/
def mo (o : Option (Nat × Nat × Nat × Nat)) (W : zMem) : Prop := (o = none → W 0 29 = -4) ∧ ∀ da ta dn tn, o = some (da, ta, dn, tn) → ∃ q r, q < 120 ∧ r < 120 ∧ W 0 29 = nI q ∧ W 0 30 = nI r ∧ W 13 q = nI da ∧ W 14 q = nI ta ∧ W 13 r = nI dn ∧ W 14 r = nI tn
set_option maxHeartbeats 1000000 in
theorem mt_runs_r {t b n H L : Nat} {wh : Nat → Nat} {M0 M W : zMem} {Q : zMem → Prop} (hc : sp_clear b M0 M) (ok : sp_ok M t b n H L) (rt : mr_t W M t n H L) (rw0 : mw0 W M t n H wh) (hg : b = 32 → M 30 0 = 0)
    (hQ : ∀ W', mr W' (sp_run t b H (nI 120) 12000 (sp_all t b H M)) 1 t b n H L wh → ms W' (sp_run t b H (nI 120) 12000 (sp_all t b H M)) 1 b n → mfw W W' → sp_rok (sp_ring t b n H M) → mo (sp_ring t b n H M) W' → Q W') : wp_Model_runs 120 1 W Q := by
  have n8 : n ≤ 8 := ok.2.2.2.1.1.2.1
  have H5 : H ≤ 5 := ok.2.2.2.1.1.2.2.2.1
  have ht4 := ok.2.1
  have hb18 := ok.2.2.1
  refine mt_runs_0 hc ok rt rw0 hg (fun W1 r1 s1 z1 f1 x28 x29 x12 => ?_)
  obtain ⟨dn0, es0⟩ := sp_es_0 hc ok
  have er0 : sp_rg n H 12000 (vw t b (sp_all t b H M)) 0 (fun _ => M) = sp_ring t b n H M := rfl
  generalize sp_ring t b n H M = o at hQ er0
  generalize sp_all t b H M = M1 at r1 s1 es0 hQ er0
  refine zlp0_r (fun f W2 => ∃ M2 dn tk, sp_es M2 t b n H L f dn tk ∧ mr W2 M2 1 t b n H L wh ∧ ms W2 M2 1 b n ∧ W2 6 99 = 0 ∧ mfw W W2 ∧ sp_run t b H (nI 120) f M2 = sp_run t b H (nI 120) 12000 M1 ∧ ((sp_rok o ∧ mo o W2 ∧ ¬ W2 0 29 = -4) ∨ ∃ r R, ms_s W2 t b n H L r wh R dn tk ∧ sp_rg n H f (vw t b M2) r R = o)) ?_ (n := 12000) ⟨M1, dn0, 0, es0, r1, s1, z1, f1, rfl, Or.inr ⟨0, fun _ => M, ⟨by omega, x28, x29, fun q hq => absurd hq (by omega), fun j _ hj => x12 j hj⟩, er0⟩⟩
  rintro f W2 ⟨M2, dn, tk, es, r2, s2, z2, f2, er, hs⟩ J hJ
  unfold wpB_Model_runs_64
  have h1 : W2 6 (96 * 1 + 1) = M2 b 3 := r2.2.2.2.2.1.2.1
  have hd := es.2.2.1.1
  have hd2 := es.2.2.1.2
  have hvd : vw t b M2 5 3 = nI dn := by rw [vw_0 (by omega)]; exact hd
  show wp_Model_of (nI 1) (nI 1) W2 _
  rw [e_of (by omega) (by omega), h1]
  refine ⟨fun q => ?_, fun q => ?_⟩
  · rw [sp_run_end (show ¬ M2 b 3 < nI 120 from Int32.not_lt.mpr q)] at er
    rw [er] at r2 s2
    rcases hs with ⟨a1, a2, -⟩ | ⟨r, R, st, eg⟩
    · exact hQ W2 r2 s2 f2 a1 a2
    · have c' : ¬ vw t b M2 5 3 < 120 := by rw [hvd, ← hd, Int32.not_lt]; exact q
      rw [sp_rg_end c'] at eg
      subst eg
      exact hQ W2 r2 s2 f2 (fun da ta dn tn q => by cases q) ⟨fun _ => st.2.2.1, fun da ta dn tn q => by cases q⟩
  have c0 : M2 b 3 < 120 := Int32.not_le.mp q
  have c1 : dn < 120 := by
    rw [hd] at c0
    exact (nI_ltI (a := dn) (b := 120) (by omega) (by omega)).mp c0
  have cv : vw t b M2 5 3 < 120 := by rw [hvd, ← hd]; exact c0
  obtain ⟨g, -, -, er2, -⟩ := sp_rl_step (m := 120) es.1 (by omega) c0
  obtain ⟨f', dn', tk', ef, es', hdd, htt, fr⟩ := sp_es_step es c1
  have er3 : sp_run t b H (nI 120) f M2 = sp_run t b H (nI 120) f' (sp_ev t b H M2) := by
    rw [ef, sp_run_1, if_pos (show M2 b 3 < nI 120 from c0)]
  have ev : vw t b (sp_ev t b H M2) = sp_ev 0 5 H (vw t b M2) := vw_ev (by omega) ht4
  have hve : sp_ev 0 5 H (vw t b M2) 5 3 = nI dn' := by rw [← ev, vw_0 (by omega)]; exact es'.2.2.1.1
  have dn2 := es'.2.2.1.2
  show wp_Model_of (nI 1) (nI 3) W2 _
  rw [e_of (by omega) (by omega)]
  refine ⟨fun c => absurd z2 c, fun _ => ?_⟩
  show wp_Model_of (nI 1) (nI 1) W2 _
  rw [e_of (by omega) (by omega), h1, hd]
  refine mt_event es.1.1 ⟨dn, by omega, hd⟩ r2 s2 (fun W3 r3 s3 z3 f3 k3 => ⟨fun c => absurd c (by decide), fun _ => ?_⟩)
  have er4 := er3.symm.trans er
  have d3 : W3 6 (96 * 1 + 1) = nI dn' := r3.2.2.2.2.1.2.1.trans es'.2.2.1.1
  have t3 : W3 6 96 = nI tk' := r3.2.2.2.2.1.1.trans es'.2.2.2.1
  have p3 := r3.2.2.2.2.1.2.2.2
  show wp_Model_of (nI 1) (nI 1) W3 _
  rw [e_of (by omega) (by omega), d3]
  have x029 : W3 0 = W2 0 := k3 0 (by omega) (by omega) (by omega)
  rcases hs with ⟨a1, a2, a3⟩ | ⟨r, R, st, eg⟩
  · have nf : ¬ W3 0 29 = -4 := by rw [x029]; exact a3
    have go : J W3 := hJ f' W3 (by omega) ⟨_, dn', tk', es', r3, s3, z3, f2.tr f3, er4, Or.inl ⟨a1, by unfold mo; rw [x029, k3 13 (by omega) (by omega) (by omega), k3 14 (by omega) (by omega) (by omega)]; exact a2, nf⟩⟩
    exact ⟨fun _ => go, fun _ => ⟨fun _ => go, fun c => absurd c nf⟩⟩
  have st3 : ms_s W3 t b n H L r wh R dn' tk' := ⟨by have := st.1; omega, by rw [x029]; exact st.2.1, by rw [x029]; exact st.2.2.1, fun q hq => (st.2.2.2.1 q hq).moved hdd (by omega) H5 (k3 4 (by omega) (by omega) (by omega)) (fun j _ _ => by rw [k3 12 (by omega) (by omega) (by omega)]) (by rw [k3 13 (by omega) (by omega) (by omega)]) (by rw [k3 14 (by omega) (by omega) (by omega)]), fun j a b => by rw [k3 12 (by omega) (by omega) (by omega)]; exact st.2.2.2.2 j a b⟩
  refine ⟨fun c3 => ?_, fun c3 => ⟨fun c => absurd st3.2.2.1 c, fun _ => ?_⟩⟩
  · have c3' : ¬ vw t b M2 5 3 < sp_ev 0 5 H (vw t b M2) 5 3 := by rw [hvd, hve, Int32.not_lt]; exact c3
    rw [ef, sp_rg_go cv c3', ← ev] at eg
    exact hJ f' W3 (by omega) ⟨_, dn', tk', es', r3, s3, z3, f2.tr f3, er4, Or.inr ⟨r, R, st3, eg⟩⟩
  have hlt : dn < dn' := (nI_ltI (by omega) (by omega)).mp (Int32.not_le.mp c3)
  have c3' : vw t b M2 5 3 < sp_ev 0 5 H (vw t b M2) 5 3 := by rw [hvd, hve]; exact nI_lt hlt (by omega)
  have rr : r < 120 := by have := st.1; omega
  have rv' := sp_rv_of es'
  have hl7 : ∀ j, j < 40 → 0 ≤ sp_ev t b H M2 (b + 7) j := fun j hj => by
    obtain ⟨C, hC, bd⟩ := es'.2.1
    obtain ⟨l, l1, l2⟩ := bd.2 j hj
    rw [l1]
    exact nI_le (a := 0) (by omega) (by omega)
  have hhd := es'.1.1.1.2.2.2.2.2.1
  refine mt_laySeen rr st3.2.1 r3.2.1.2.1 H5 r3.2.2.1.1 (fun W4 a1 a2 a3 a4 a13 a14 a0 ak => ?_)
  have row4 : ms_q W4 W3 H r wh := ⟨a1, a2, a3, fun i hi => by rw [a4 _ (by omega)]; exact st3.2.2.2.2 _ (by omega) (by omega)⟩
  have old4 : ∀ q, q < r → ms_r W4 t b n H L q wh (R q) dn' tk' := fun q hq => (st3.2.2.2.1 q hq).moved (Nat.le_refl _) (Nat.le_refl _) H5 (ak 4 (by omega) (by omega) (by omega) (by omega)) (fun j _ hj => a4 j (by omega)) (by rw [a13, upd_ne (by omega)]) (by rw [a14, upd_ne (by omega)])
  have e28 : W4 0 28 = nI (r + 1) := by rw [a0, upd_eq]
  have e18 : W4 0 18 = nI H := by rw [a0, upd_ne (by omega)]; exact r3.2.1.2.1
  refine mt_earlier rr e28 e18 H5 (fun oo ho => ?_)
  have key : ∀ q, q < r → ((∀ k, k < 30 + 8 * H → W4 12 (80 * q + k) = W4 12 (80 * r + k)) ↔ sp_same 0 5 n H (R q) (sp_ev 0 5 H (vw t b M2))) := fun q hq => by
    obtain ⟨-, ⟨Wq, X, b1, b2, b3, b4, b5, b6, b7, b8, b9⟩, -, -⟩ := old4 q hq
    have e4 : W3 4 = Wq 4 := by rw [← b3, ak 4 (by omega) (by omega) (by omega) (by omega)]
    rw [← ev, ← b1, vw_same]
    exact mq_row_eq n8 b2 r3 e4 b4 hhd b5 hl7 H5 b6 b7 b8 b9 row4.1 row4.2.1 row4.2.2.1 row4.2.2.2
  have eo := sp_fst_eq ho key
  intro W5 e5 W6 e6
  have w5 : W5 0 28 = nI (r + 1) := by rw [e5, zup_eq, upd_ne (by omega)]; exact e28
  have k6 : ∀ k, k ≠ 0 → W6 k = W4 k := fun k hk => by rw [e6, zup_ne hk, e5, zup_ne hk]
  have k60 : ∀ j, j ≠ 28 → j ≠ 29 → j ≠ 30 → W6 0 j = W3 0 j := fun j x y z => by rw [e6, zup_eq, upd_ne z, e5, zup_eq, upd_ne y, a0, upd_ne x]
  have w28 : W6 0 28 = nI (r + 1) := by rw [e6, zup_eq, upd_ne (by omega)]; exact w5
  have w30 : W6 0 30 = nI r := by rw [e6, zup_eq, upd_eq, w5]; exact (q_sub (a := r + 1) (b := 1) (by omega))
  have kk : ∀ k, k ≠ 0 → k ≠ 12 → k ≠ 13 → k ≠ 14 → W6 k = W3 k := fun k x0 x12 x13 x14 => by rw [k6 k x0, ak k x0 x12 x13 x14]
  have r6 : mr W6 (sp_ev t b H M2) 1 t b n H L wh := mr_ext r3 (k60 18 (by omega) (by omega) (by omega)) (k60 19 (by omega) (by omega) (by omega)) (kk 4 (by omega) (by omega) (by omega) (by omega)) (kk 6 (by omega) (by omega) (by omega) (by omega)) (kk 8 (by omega) (by omega) (by omega) (by omega)) (kk 9 (by omega) (by omega) (by omega) (by omega)) (kk 10 (by omega) (by omega) (by omega) (by omega))
  have s6 : ms W6 (sp_ev t b H M2) 1 b n := by unfold ms at s3 ⊢; rw [kk 11 (by omega) (by omega) (by omega) (by omega)]; exact s3
  have z6 : W6 6 99 = 0 := by rw [kk 6 (by omega) (by omega) (by omega) (by omega)]; exact z3
  have f36 : mfw W3 W6 := ⟨fun k x0 _ _ _ x12 x13 x14 => kk k x0 x12 x13 x14, fun j _ => by rw [kk 6 (by omega) (by omega) (by omega) (by omega)], fun j x y z => k60 j x y z⟩
  have old6 : ∀ q, q < r → ms_r W6 t b n H L q wh (R q) dn' tk' := fun q hq => (old4 q hq).moved (Nat.le_refl _) (Nat.le_refl _) H5 (k6 4 (by omega)) (fun j _ _ => by rw [k6 12 (by omega)]) (by rw [k6 13 (by omega)]) (by rw [k6 14 (by omega)])
  have n13 : W6 13 r = nI dn' := by
    rw [k6 13 (by omega), a13, upd_eq]; exact d3
  have n14 : W6 14 r = nI tk' := by
    rw [k6 14 (by omega), a14, upd_eq]; exact t3
  cases oo with
  | none =>
    have w29 : W6 0 29 = -4 := by rw [e6, zup_eq, upd_ne (by omega), e5, zup_eq, upd_eq]
    rw [ef, sp_rg_none cv c3' eo.symm, ← ev] at eg
    refine hJ f' W6 (by omega) ⟨_, dn', tk', es', r6, s6, z6, (f2.tr f3).tr f36, er4, Or.inr ⟨r + 1, _, ⟨by have := st.1; omega, w28, w29, fun q hq => ?_, fun j x y => ?_⟩, eg⟩⟩
    · by_cases cq : q = r
      · subst cq
        simp only [↓reduceIte]
        refine ⟨rv', ⟨W3, _, rfl, r3, by rw [kk 4 (by omega) (by omega) (by omega) (by omega)], hhd, hl7, ?_⟩, ?_, ?_⟩
        · unfold ms_q at row4 ⊢
          rw [k6 12 (by omega)]; exact row4
        · rw [n13, ev, hve]
        · rw [n14, vw_0 (by omega)]; exact es'.2.2.2.1.symm
      · simp only [cq, ↓reduceIte]
        exact old6 q (by omega)
    · rw [k6 12 (by omega), a4 j (by omega)]
      exact st3.2.2.2.2 j (by omega) y
  | some q =>
    have hq : q < r := sp_fo_lt eo.symm
    rw [ef, sp_rg_some cv c3' eo.symm] at eg
    obtain ⟨⟨-, -, ⟨da, d1, d2⟩, u, u1, u2⟩, -, q13, q14⟩ := old6 q hq
    obtain ⟨⟨-, -, ⟨da', d1', d2'⟩, u', u1', u2'⟩, -, -, -⟩ := st.2.2.2.1 q hq
    have tb := es'.2.2.2.2
    have tb0 := es.2.2.2.2
    have ed : da = da' := by rw [d2] at d2'; exact (nI_eq (by omega) (by omega)).mp d2'
    have eu : u = u' := by rw [u2] at u2'; exact (nI_eq (by omega) (by omega)).mp u2'
    have y3 : sp_ev 0 5 H (vw t b M2) 5 2 = nI tk' := by rw [← ev, vw_0 (by omega)]; exact es'.2.2.2.1
    unfold sp_rn at eg
    rw [d2, u2, hve, y3, q_ix (by omega), q_ix (by omega), q_ix (by omega), q_ix (by omega)] at eg
    have w29 : W6 0 29 = nI q := by rw [e6, zup_eq, upd_ne (by omega), e5, zup_eq, upd_eq]
    subst eg
    refine hJ f' W6 (by omega) ⟨_, dn', tk', es', r6, s6, z6, (f2.tr f3).tr f36, er4, Or.inl ⟨fun a1 a2 a3 a4 qq => ?_, ⟨fun qq => (by cases qq), fun a1 a2 a3 a4 qq => ?_⟩, ?_⟩⟩
    · cases qq
      exact ⟨by omega, by omega, by omega, by omega⟩
    · cases qq
      exact ⟨q, r, by omega, rr, w29, w30, q13.trans d2, q14.trans u2, n13, n14⟩
    · rw [w29]
      intro c
      have := q_neq (a := q) (c := 4) (by omega) (by omega) (by omega)
      rw [show (-4 : Int32) = -nI 4 from rfl, this] at c
      exact c
