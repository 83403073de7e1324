theorem q_tick {a : Nat} {v : Int32} (ha : a < 2147483647) : nI a + 1 ≤ v ↔ nI a < v := by
  rw [nI_1, Int32.le_iff_toInt_le, Int32.lt_iff_toInt_lt, nI_toInt (by omega), nI_toInt (by omega)]
  omega
theorem mw_places {z q r ta tn : Nat} {a1 a2 : Int32} {W : zMem} {K : Int32 → Int32 → Int32 → zMem → Prop} {Q : Int32 → zMem → Prop} (z6 : z ≤ 600) (hk : ∀ G : Int32 → zMem → Prop, G (nI z) W → wp_Model_oversKept W G) (hq : q < 120) (hr : r < 120) (eq : W 0 29 = nI q) (er : W 0 30 = nI r) (ea : W 14 q = nI ta) (en : W 14 r = nI tn) (ht : ta < 2147483647)
    (hK : ∀ s, s = wf (W 10) a1 (nI ta) (nI tn) z → K (nI s.1) (if s.1 = 0 then -4 else nI s.2.1) (w7 s) W) : ∃ n, zlp4 (wpB_Model_where_52 a1 a2 K Q) n 0 (-4) 1 0 W := by
  refine zlp4_r (fun m x3 x4 x5 x6 W' => W = W' ∧ ∃ k, k ≤ z ∧ m = z - k ∧ x6 = nI k ∧ x3 = nI (wf (W 10) a1 (nI ta) (nI tn) k).1 ∧ x4 = (if (wf (W 10) a1 (nI ta) (nI tn) k).1 = 0 then -4 else nI (wf (W 10) a1 (nI ta) (nI tn) k).2.1) ∧ x5 = w7 (wf (W 10) a1 (nI ta) (nI tn) k)) ?_ (n := z) ⟨rfl, 0, by omega, rfl, rfl, rfl, rfl, rfl⟩
  rintro m x3 x4 x5 x6 W' ⟨rfl, k, hkz, rfl, rfl, rfl, rfl, rfl⟩ J hJ
  unfold wpB_Model_where_52
  refine hk _ ⟨fun c => ?_, fun c => ?_⟩
  · have := (nI_leI (by omega) (by omega)).mp c
    have e : k = z := by omega
    subst e
    exact hK _ rfl
  · have hk2 : k < z := (nI_ltI (by omega) (by omega)).mp (Int32.not_le.mp c)
    have f0 : 5 * nI k = nI (k * 5) := by rw [show (5 : Int32) = nI 5 from rfl, q_mul, Nat.mul_comm]
    have f1 : nI (k * 5) + 1 = nI (k * 5 + 1) := nI_1 _
    rw [f0, f1, q_ix (by omega), q_ix (by omega)]
    have skip : ¬ wh1 (W 10) a1 (nI ta) (nI tn) k → ∀ y, y = nI k + 1 → J (nI (wf (W 10) a1 (nI ta) (nI tn) k).1) (if (wf (W 10) a1 (nI ta) (nI tn) k).1 = 0 then -4 else nI (wf (W 10) a1 (nI ta) (nI tn) k).2.1) (w7 (wf (W 10) a1 (nI ta) (nI tn) k)) y W := fun nh y ey => by
      rw [ey, nI_1]
      exact hJ (z - (k + 1)) _ _ _ _ _ (by omega) ⟨rfl, k + 1, by omega, rfl, rfl, by rw [wf_no nh], by rw [wf_no nh], by rw [wf_no nh]⟩
    refine ⟨vp_in_nI (by omega) (by omega), fun n1 => skip (fun h => n1 h.1), fun y1 => ⟨vp_in_nI (by omega) (by omega), by rw [eq]; exact vp_in_nI hq (by omega), by rw [er]; exact vp_in_nI hr (by omega), ?_⟩⟩
    rw [eq, er, q_ix (by omega), q_ix (by omega), ea, en]
    refine mt_in (lo' := nI ta + 1) (hi' := nI tn) rfl rfl (fun c1 c2 => ⟨fun h => absurd h (by decide), fun _ => ?_⟩) (fun nc => ⟨fun _ => skip (fun h => nc ⟨(q_tick ht).mpr h.2.1, h.2.2⟩), fun h => absurd rfl h⟩)
    have hit : wh1 (W 10) a1 (nI ta) (nI tn) k := ⟨y1, (q_tick ht).mp c1, c2⟩
    have hb := wf_b (V := W 10) (h := a1) (lo := nI ta) (hi := nI tn) k
    rcases e : wf (W 10) a1 (nI ta) (nI tn) k with ⟨t, f, b⟩
    rw [e] at hb
    have put : ∀ f', f' ≤ k → f' = (if t = 0 then k else f) → wpJ_Model_where_128 a1 a2 K J Q (nI t) (w7 (t, f, b)) (nI k) (nI f') W := fun f' hf' ef => by
      have nx := wf_yes hit e ef
      have go : ∀ x5 : Int32, x5 = (if b = true ∧ W 10 (k * 5 + 2) = W 10 (f' * 5 + 2) ∧ W 10 (k * 5 + 3) = W 10 (f' * 5 + 3) then 1 else 0) → ∀ y, y = nI t + 1 → ∀ y2, y2 = nI k + 1 → J y (nI f') x5 y2 W := fun x5 e5 y ey y2 ey2 => by
        rw [ey, ey2, nI_1, nI_1]
        refine hJ (z - (k + 1)) _ _ _ _ _ (by omega) ⟨rfl, k + 1, by omega, rfl, rfl, by rw [nx], ?_, ?_⟩
        · rw [nx, if_neg (by show ¬ t + 1 = 0; omega)]
        · rw [nx, w7_and, e5]
      have f0 : 5 * nI k = nI (k * 5) := by rw [show (5 : Int32) = nI 5 from rfl, q_mul, Nat.mul_comm]
      have g0 : 5 * nI f' = nI (f' * 5) := by rw [show (5 : Int32) = nI 5 from rfl, q_mul, Nat.mul_comm]
      have f2 : nI (k * 5) + 2 = nI (k * 5 + 2) := q_add _ 2
      have f3 : nI (k * 5) + 3 = nI (k * 5 + 3) := q_add _ 3
      have g2 : nI (f' * 5) + 2 = nI (f' * 5 + 2) := q_add _ 2
      have g3 : nI (f' * 5) + 3 = nI (f' * 5 + 3) := q_add _ 3
      unfold wpJ_Model_where_128
      rw [f0, g0, f2, f3, g2, g3, q_ix (by omega), q_ix (by omega), q_ix (by omega), q_ix (by omega)]
      refine ⟨fun h => go 0 ?_, fun h => ⟨vp_in_nI (by omega) (by omega), vp_in_nI (by omega) (by omega), fun p2 => go 0 (by rw [if_neg (fun z => p2 z.2.1)]), fun p2 => ⟨vp_in_nI (by omega) (by omega), vp_in_nI (by omega) (by omega), fun p3 => go 0 (by rw [if_neg (fun z => p3 z.2.2)]), fun p3 => go 1 ?_⟩⟩⟩
      · have h' : (if b = true then (1 : Int32) else 0) = 0 := h
        rw [if_neg (fun z => by rw [if_pos z.1] at h'; exact absurd h' (by decide))]
      · have h' : ¬ (if b = true then (1 : Int32) else 0) = 0 := h
        have b1 : b = true := by
          by_cases w : b = true
          · exact w
          · rw [if_neg w] at h'; exact absurd rfl h'
        rw [if_pos ⟨b1, p2, p3⟩]
    by_cases t0 : t = 0
    · refine ⟨fun h => absurd (if_pos t0) h, fun _ => put k (Nat.le_refl _) (by rw [if_pos t0])⟩
    · have hf : f < k := hb.2.resolve_left t0
      have ne : (if t = 0 then (-4 : Int32) else nI f) = nI f := if_neg t0
      refine ⟨fun _ => ?_, fun h => ?_⟩
      · show wpJ_Model_where_128 a1 a2 K J Q (nI t) (w7 (t, f, b)) (nI k) (if t = 0 then (-4 : Int32) else nI f) W
        rw [ne]
        exact put f (by omega) (by rw [if_neg t0])
      · have h : (if t = 0 then (-4 : Int32) else nI f) = -4 := h
        rw [ne] at h
        exact absurd h (fun c => by
          have := q_neq (a := f) (c := 4) (by omega) (by omega) (by omega)
          rw [show (-4 : Int32) = -nI 4 from rfl, this] at c
          exact c)
theorem mw_ring {n H L : Nat} {M R W : zMem} {Q : Int32 → zMem → Prop} (vt : sp_vt M 1 n H L) (r : rt0 W M n H L) (h : rq M n H L 120 R)
    (hQ : ∀ W' M0 Mc, sp_clear 32 M0 Mc → sp_ok Mc 1 32 n H L → (∀ i, i ≤ 4 → Mc (1 + i) = M (1 + i)) → Mc 30 0 = 0 → R = sp_run 1 32 H (nI 120) 12000 (sp_all 1 32 H Mc) → mr W' R 1 1 32 n H L (fun h => h) → mfy W W' → sp_rok (sp_ring 1 32 n H Mc) → mo (sp_ring 1 32 n H Mc) W' → Q (if sp_ring 1 32 n H Mc = none then 0 else 1) W') : wp_Model_asNumbered W (fun W1 => wp_Model_hasRing W1 Q) := by
  obtain ⟨M0, Mc, hc, ok, tc, z30, eR⟩ := h
  refine mt_asNumbered vt r (fun W1 m1 => ?_)
  obtain ⟨a18, a19, ah, a0, ak⟩ := id m1
  have H5 : H ≤ 5 := vt.1.2.2.2.1
  have r1 : rt0 W1 Mc n H L := r.moved (ak 4 (by omega) (by omega) (by omega)) tc
  have t1 : Mc 1 = M 1 := tc 0 (by omega)
  have t5 : Mc 5 = M 5 := tc 4 (by omega)
  have rt : mr_t W1 Mc 1 n H L := mr_t_of (M' := Mc) r1 a18 (by rw [t1]; exact a19) (fun h hh => by rw [t5]; exact (ah h hh).2)
  have rw0 : mw0 W1 Mc 1 n H (fun h => h) := ⟨fun h hh => ⟨by show h < 5; omega, (ah h hh).1⟩, fun h j _ _ e => e, fun h p hh hp => r1.2.2.2.2.2.2.2.2.2.1 h p hh hp⟩
  exact mt_hasRing hc ok rt rw0 (fun _ => z30) (fun W' b1 fx rk m _ _ => hQ W' M0 Mc hc ok tc z30 eR (by rw [eR]; exact b1) (m1.y.tr fx.y) rk m)
