theorem sp_nstuck {t b n H L : Nat} {M : zMem} (ok : sp_ok M t b n H L) (hs : ∀ j, j < H → sp_hand t b j M = none) : 0 < sp_least (M (b + 2)) H 0 0 := by
  obtain ⟨ht, hd2, hb18, vt, hpl, hhd, hg⟩ := id ok
  obtain ⟨⟨n1, n8, H1, H5, L1, L6⟩, hn, hH, hL, -, -, -, -, -, -, -, -, -, hlast, -⟩ := id vt
  have hst := sp_st_of ok hs
  by_cases hex : ∃ j, j < H ∧ 0 < M (b + 2) j
  · obtain ⟨j, j1, j2⟩ := hex
    exact ((sp_least_0 (M (b + 2)) H 0 0 (by decide)).2.2 j (by omega) (by omega) j2).1
  · exfalso
    -- everybody is ready or stands
    have two : ∀ h, h < H → (M (b + 1) h = 0 ∧ M (b + 2) h = 0 ∧ M (b + 3) h = -1) ∨ (M (b + 1) h = 2 ∧ M (b + 2) h = 0) := fun h hh => by
      rcases hhd h hh with a | ⟨a1, a2, a3⟩ | ⟨p, u, s, U, a1, a2, a3, a4, a5, a6, a7, a8, a9, a10⟩
      · exact Or.inl a
      · exact absurd ⟨h, hh, a2⟩ hex
      · rcases a9 with a9 | ⟨a9, a11⟩
        · exact Or.inr a9
        · exact absurd ⟨h, hh, hst h hh a9⟩ hex
    have first : M (b + 1) 0 = 2 := by
      rcases two 0 (by omega) with ⟨a1, a2, a3⟩ | ⟨a1, a2⟩
      · have := hs 0 (by omega)
        unfold sp_hand at this
        rw [a1, a2, if_pos rfl, if_neg (by decide), if_pos rfl, if_pos rfl] at this
        cases this
      · exact a1
    have nomay : ∀ h, h < H → M (b + 1) h = 2 → ¬ sp_may t b h M := fun h hh h2 hm => by
      have := hs h hh
      unfold sp_hand at this
      have e2 : M (b + 2) h = 0 := by
        rcases two h hh with ⟨a1, a2, a3⟩ | ⟨a1, a2⟩
        · exact a2
        · exact a2
      rw [h2, e2, if_pos rfl, if_neg (by decide), if_neg (by decide), if_pos rfl, if_pos hm] at this
      cases this
    have coat : ∀ h, h < H → M (b + 1) h = 2 → ∃ p u, p < n ∧ u < 6 ∧ M (b + 3) h = nI p ∧ M (b + 4) h = nI u ∧ ((0 < u ∧ ((M t 5 >>> (nI p &&& 31)) &&& 1) = 1) → nI p < M (t + 4) h) := fun h hh h2 => by
      rcases hhd h hh with ⟨a1, -⟩ | ⟨a1, -⟩ | ⟨p, u, s, U, a1, a2, a3, a4, a5, a6, a7, a8, a9, a10⟩
      · rw [h2] at a1; exact absurd a1 (by decide)
      · rw [h2] at a1; exact absurd a1 (by decide)
      · exact ⟨p, u, a1, by omega, a5, a6, fun q => a10 (Or.inr q)⟩
    have lastR : M (b + 1) (H - 1) = 0 := by
      rcases two (H - 1) (by omega) with ⟨a1, a2, a3⟩ | ⟨a1, a2⟩
      · exact a1
      · obtain ⟨p, u, p1, u1, p2, u2, -⟩ := coat (H - 1) (by omega) a1
        refine absurd ⟨?_, fun q => ?_⟩ (nomay (H - 1) (by omega) a1)
        · rw [p2, hlast]; exact nI_lt p1 (by omega)
        · have q1 := q.1
          rw [hH] at q1
          have := (nI_ltI (a := H - 1 + 1) (b := H) (by omega) (by omega)).mp q1
          omega
    have chg : ∀ k, k < H → M (b + 1) k = 0 → ∃ h, 0 < h ∧ h < H ∧ M (b + 1) h = 0 ∧ M (b + 1) (h - 1) = 2 := by
      intro k
      induction k with
      | zero => intro _ q; rw [first] at q; exact absurd q (by decide)
      | succ k ih =>
        intro hk q
        rcases two k (by omega) with ⟨a1, -⟩ | ⟨a1, -⟩
        · exact ih (by omega) a1
        · exact ⟨k + 1, by omega, hk, q, a1⟩
    obtain ⟨h, h0, hh, hr, h2⟩ := chg (H - 1) (by omega) lastR
    obtain ⟨p, u, p1, u1, p2, u2, p3⟩ := coat (h - 1) (by omega) h2
    have hrp : M (b + 2) h = 0 ∧ M (b + 3) h = -1 := by
      rcases two h hh with ⟨a1, a2, a3⟩ | ⟨a1, a2⟩
      · exact ⟨a2, a3⟩
      · rw [hr] at a1; exact absurd a1 (by decide)
    have ncan : ¬ sp_can t b (h - 1) M := fun hc => by
      have := hs h hh
      unfold sp_hand at this
      rw [hr, hrp.1, if_pos rfl, if_neg (by decide), if_pos rfl, if_neg (by omega), if_pos ⟨h2, hc⟩] at this
      cases this
    have nend : ¬ M (b + 3) (h - 1) < M (t + 4) (h - 1) := fun q => by
      refine nomay (h - 1) (by omega) h2 ⟨q, fun z => ?_⟩
      have z2 := z.2.1
      rw [show h - 1 + 1 = h by omega, hrp.2] at z2
      exact z2 (by decide)
    refine ncan ⟨fun q => nend ?_, fun q => nend q.2⟩
    rw [p2]
    refine p3 ⟨?_, ?_⟩
    · have := q.1
      rw [u2] at this
      exact (nI_0lt (by omega)).mp this
    · have := q.2
      rw [p2] at this
      exact this
/-- a bench where nothing more is to be done: all by the least of what is left -/
theorem sp_can_least {t b n H L : Nat} {M : zMem} (ok : sp_ok M t b n H L) (hs : ∀ j, j < H → sp_hand t b j M = none) : sp_can_pass M b H (sp_least (M (b + 2)) H 0 0) :=
  ⟨sp_nstuck ok hs, sp_st_of ok hs, fun h hh q => ((sp_least_0 (M (b + 2)) H 0 0 (by decide)).2.2 h (by omega) (by omega) q).2⟩
/-- the reference's settle -/
theorem mt_settle {t b pg n H L : Nat} {wh : Nat → Nat} {M W : zMem} {Q : zMem → Prop} {C : Nat} (hC : C < 2147483000) (ok : sp_ok M t b n H L) (r : mr W M pg t b n H L wh) (ob : pg = 1 → sp_ob M b H C)
    (hQ : ∀ W', mr W' (sp_all t b H M) pg t b n H L wh → mfr pg W W' → (pg = 1 → sp_ob (sp_all t b H M) b H C) → W' 6 (96 * pg + 3) = 0 → Q W') : wp_Model_settle (nI pg) W Q := by
  unfold wp_Model_settle
  have hpg := r.1
  obtain ⟨ok2, fr2, hs2⟩ := sp_all_ok ok
  refine mt_rounds hC ok r ob (fun W1 r1 f1 ob1 => ?_)
  have i1 : vp_in (96 * nI pg + 3) 384 := by simp (disch := omega) only [q_lit, q_add, q_mul, q_sub, q_ix, q_in, q_lt, q_le, q_eq, q_nlt, q_nle, q_ltn, q_len, q_neq, q_eqn, zup_ne, zup_eq, zset_ne, zset_eq, upd_eq, upd_ne, forall_eq, true_and, and_true, true_implies, false_implies, implies_true, not_true_eq_false, not_false_eq_true, and_self, ↓reduceIte, false_and, and_false]
  have i2 : ix (96 * nI pg + 3) = 96 * pg + 3 := by simp (disch := omega) only [q_lit, q_add, q_mul, q_sub, q_ix, q_in, q_lt, q_le, q_eq, q_nlt, q_nle, q_ltn, q_len, q_neq, q_eqn, zup_ne, zup_eq, zset_ne, zset_eq, upd_eq, upd_ne, forall_eq, true_and, and_true, true_implies, false_implies, implies_true, not_true_eq_false, not_false_eq_true, and_self, ↓reduceIte, false_and, and_false]
  refine mt_least ok2 r1 ⟨fun _ => ⟨i1, fun W2 hW2 => ?_⟩, fun c => ?_⟩
  · rw [i2] at hW2
    have mf : mfr pg W1 W2 := by rw [hW2]; exact mfr.upo (by omega) (by omega)
    have rd : ∀ j, j ≠ 96 * pg + 3 → W2 6 j = W1 6 j := fun j hj => by rw [hW2]; simp (disch := omega) only [zup_eq, upd_ne]
    obtain ⟨-, rt, rw1, hrh, hrs, hrg⟩ := id r1
    refine hQ W2 ⟨hpg, rt.moved (b := b) mf (fun _ _ => rfl), rw1.moved mf rfl (fun h' p' q1 q2 => ?_) (fun h' p' q1 q2 q3 => rd _ (by omega)), fun j hj => ?_, ?_, hrg.keep rfl (fun _ => ⟨rfl, rfl⟩) ?_⟩ (f1.tr mf) ob1 ?_
    · rw [rd _ (by omega)]; exact rw1.2.2.2.1 h' p' q1 q2
    · exact (hrh j hj).moved (fun i hi => rd _ (by omega)) (fun _ _ _ => rfl)
    · unfold mr_s
      rw [rd _ (by omega), rd _ (by omega), rd _ (by omega), rd _ (by omega)]
      exact hrs
    · rw [hW2, zup_ne (by omega)]
    · rw [hW2]; simp (disch := omega) only [zup_eq, upd_eq]
  · have := sp_nstuck ok2 hs2
    rw [c] at this
    exact absurd this (by decide)
