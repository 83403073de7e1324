theorem mp_pf_eq {W M : zMem} {t n s : Nat} (h : ∀ p, p < n → W 4 (30 + 8 * s + p) = M (t + 2) (s * 8 + p)) : ∀ m p, p + m ≤ n → sp_pf (fun i => W 4 (30 + 8 * s + i)) m p = sp_pf (fun i => M (t + 2) (s * 8 + i)) m p := by
  intro m
  induction m with
  | zero => intro p _; rfl
  | succ m ih =>
    intro p hp
    unfold sp_pf
    rw [ih (p + 1) (by omega), h p (by omega)]
set_option maxHeartbeats 1000000 in
theorem mt_finish {t b pg h n H L : Nat} {wh : Nat → Nat} {M W : zMem} {Q : zMem → Prop} (ok : sp_ok M t b n H L) (r : mr W M pg t b n H L wh) (hh : h < H) (h3 : M (b + 1) h = 3) (hl : M (b + 2) h = 0)
    (hQ : ∀ W', mr W' (sp_finish t b h M) pg t b n H L wh → mfr pg W W' → Q W') : wp_Model_endsUnit (nI pg) (nI h) W Q := by
  have fr := sp_fr_finish (t := t) (b := b) (h := h) (M := M)
  obtain ⟨ht, hd2, hb18, vt, hpl, hhd, hg⟩ := id ok
  obtain ⟨⟨n1, n8, H1, H5, L1, L6⟩, hn, hH, hL, ⟨wk, hwk5, hwk⟩, -, -, -, hrow, hun, hpf, -, -, -, -⟩ := id vt
  obtain ⟨hpg, rt, rw1, hrh, hrs, hrg⟩ := id r
  obtain ⟨t0, t18, t2, t3, t19, t5, t6, trow, tun, tend⟩ := id rt
  obtain ⟨w1, w2, w3, w4, w5⟩ := id rw1
  obtain ⟨c1, c2, c3, c4⟩ := id hrs
  have hb : t + 4 < b := by omega
  rcases hhd h hh with ⟨a1, -⟩ | ⟨a1, -⟩ | ⟨p, u, s, U, a1, a2, a3, a4, a5, a6, a7, a8, a9, a10⟩
  · rw [h3] at a1; exact absurd a1 (by decide)
  · rw [h3] at a1; exact absurd a1 (by decide)
  obtain ⟨b1, b2, b3, b4⟩ := id (hrh h hh)
  have e1 : ix (M (b + 3) h) = p := by rw [a5]; exact q_ix (by omega)
  have e2 : ix (M (b + 5) h) = s := by rw [a7]; exact q_ix (by omega)
  have e3 : ix (M t 0) = n := by rw [hn]; exact q_ix (by omega)
  have bb : W 6 (96 * pg + 8 + 8 * h + 2) = nI (p + 4) ∧ W 6 (96 * pg + 8 + 8 * h + 3) = nI (u + 4) ∧ W 6 (96 * pg + 8 + 8 * h + 4) = nI (s + 4) := by
    rcases b4 with ⟨q1, -⟩ | ⟨p', u', s', l1, l2, l3, q1, q2, q3, q4, q5, q6⟩
    · rw [a5] at q1
      have := q_neq (a := p) (c := 1) (by omega) (by omega) (by omega)
      exact absurd q1 (by rw [show (-1 : Int32) = -nI 1 from rfl, this]; exact fun h => h)
    · rw [a5] at q1; rw [a6] at q2; rw [a7] at q3
      have z1 : p = p' := (nI_eq (by omega) (by omega)).mp q1
      have z2 : u = u' := (nI_eq (by omega) (by omega)).mp q2
      have z3 : s = s' := (nI_eq (by omega) (by omega)).mp q3
      subst z1; subst z2; subst z3
      exact ⟨q4, q5, q6⟩
  obtain ⟨bp, bu, bs⟩ := bb
  unfold sp_finish at fr hQ
  dsimp only at fr hQ
  rw [e1, e2, e3, a6, a8, nI_1] at fr hQ
  have wh5 := (w1 h hh).1
  have wh2 := (w1 h hh).2
  unfold wp_Model_endsUnit
  have i1 : vp_in (nI h) 5 := vp_in_nI (by omega) (by omega)
  have i2 : ix (nI h) = h := q_ix (by omega)
  have i3 : vp_in (nI (96 * pg + 48 + 8 * wh h + p)) 384 := vp_in_nI (by omega) (by omega)
  have i4 : ix (nI (96 * pg + 48 + 8 * wh h + p)) = 96 * pg + 48 + 8 * wh h + p := q_ix (by omega)
  have i5 : ix (30 + 8 * nI s + nI p) = 30 + 8 * s + p := by simp (disch := omega) only [q_lit, q_add, q_mul, q_sub, q_ix, q_in, q_lt, q_le, q_eq, q_nlt, q_nle, q_ltn, q_len, q_neq, q_eqn, zup_ne, zup_eq, zset_ne, zset_eq, upd_eq, upd_ne, forall_eq, true_and, and_true, true_implies, false_implies, implies_true, not_true_eq_false, not_false_eq_true, and_self, ↓reduceIte, false_and, and_false]
  have i6 : vp_in (30 + 8 * nI s + nI p) 100 := by simp (disch := omega) only [q_lit, q_add, q_mul, q_sub, q_ix, q_in, q_lt, q_le, q_eq, q_nlt, q_nle, q_ltn, q_len, q_neq, q_eqn, zup_ne, zup_eq, zset_ne, zset_eq, upd_eq, upd_ne, forall_eq, true_and, and_true, true_implies, false_implies, implies_true, not_true_eq_false, not_false_eq_true, and_self, ↓reduceIte, false_and, and_false]
  have i7 : vp_in 0 100 := vp_in_nI (n := 0) (by omega) (by omega)
  rw [show (2 : Int32) = nI 2 from rfl, show (3 : Int32) = nI 3 from rfl, show (4 : Int32) = nI 4 from rfl, e_at hpg (by omega) (by omega), if_pos (by omega), bp, q_m4, e_at hpg (by omega) (by omega), if_pos (by omega), bs, q_m4, i2, wh2, e_learntAt]
  refine ⟨i1, i3, i3, fun W1 hW1 => ?_⟩
  rw [i4, w4 h p hh a1] at hW1
  rw [show (0 : Int32) = nI 0 from rfl, show (1 : Int32) = nI 1 from rfl, e_at hpg (by omega) (by omega), if_pos (by omega)]
  have x1 : W1 6 (96 * pg + 8 + 8 * h + 3) = nI (u + 4) := by rw [hW1]; simp (disch := omega) only [zup_eq, upd_ne]; exact bu
  rw [x1, q_m4, q_add, e_put hpg (by omega) (by omega), if_pos (by omega), q_p4, e_put hpg (by omega) (by omega), if_neg (by omega), q_s0, Nat.add_zero, e_at hpg (by omega) (by omega), if_pos (by omega)]
  generalize hW2 : zup (zup W1 6 (96 * pg + 8 + 8 * h + 3) (nI (u + 1 + 4))) 6 (96 * pg + 8 + 8 * h) (nI 2) = W2
  have x2 : W2 6 (96 * pg + 8 + 8 * h + 3) = nI (u + 1 + 4) := by rw [← hW2]; simp (disch := omega) only [zup_eq, upd_ne, upd_eq]
  have mf2 : mfr pg W W2 := by
    rw [← hW2, hW1, show 96 * pg + 48 + 8 * wh h + p = 96 * pg + (48 + 8 * wh h + p) by omega, show 96 * pg + 8 + 8 * h + 3 = 96 * pg + (8 + 8 * h + 3) by omega, show 96 * pg + 8 + 8 * h = 96 * pg + (8 + 8 * h + 0) by omega]
    exact ((mfr.upo (by have := (w1 h hh).1; omega) (by omega)).tr (mfr.uph (by simp (disch := omega) only [zup_ne]; exact t18) H5 hh (by omega))).tr (mfr.uph (by simp (disch := omega) only [zup_ne]; exact t18) H5 hh (by omega))
  have rd2 : ∀ j, j ≠ 96 * pg + 48 + 8 * wh h + p → j ≠ 96 * pg + 8 + 8 * h + 3 → j ≠ 96 * pg + 8 + 8 * h → W2 6 j = W 6 j := fun j j1 j2 j3 => by
    rw [← hW2, hW1]
    simp (disch := omega) only [zup_eq, upd_ne]
  have rl2 : W2 6 (96 * pg + 48 + 8 * wh h + p) = M (b + 7) (h * 8 + p) + 1 := by rw [← hW2, hW1]; simp (disch := omega) only [zup_eq, upd_ne, upd_eq]
  have rw0 : W2 6 (96 * pg + 8 + 8 * h) = 2 := by rw [← hW2]; simp (disch := omega) only [zup_eq, upd_eq]; rfl
  have rk : ∀ k, k ≠ 6 → W2 k = W k := fun k hk => by rw [← hW2, hW1]; simp (disch := omega) only [zup_ne]
  clear hW2
  rw [x2, q_m4, i5, rk 4 (by omega), tun s p a2 a1, a8]
  -- the memory of the class so far
  generalize hM3 : zup (zup (zup M (b + 7) (h * 8 + p) (M (b + 7) (h * 8 + p) + 1)) (b + 1) h 2) (b + 4) h (nI (u + 1)) = M3 at fr hQ
  have fr3 : sp_fr b M M3 := by
    rw [← hM3]
    exact ((sp_fr.up (i := 7) (by omega) (by omega)).tr (sp_fr.up (i := 1) (by omega) (by omega))).tr (sp_fr.up (i := 4) (by omega) (by omega))
  have r0 : ∀ j, M3 b j = M b j := fun j => by rw [← hM3]; simp (disch := omega) only [zup_ne]
  have r1 : M3 (b + 1) h = 2 := by rw [← hM3]; simp (disch := omega) only [zup_ne, zup_eq, upd_eq]
  have r4 : M3 (b + 4) h = nI (u + 1) := by rw [← hM3]; simp (disch := omega) only [zup_ne, zup_eq, upd_eq]
  have r2 : ∀ j, M3 (b + 2) j = M (b + 2) j := fun j => by rw [← hM3]; simp (disch := omega) only [zup_ne]
  have r3 : ∀ j, M3 (b + 3) j = M (b + 3) j := fun j => by rw [← hM3]; simp (disch := omega) only [zup_ne]
  have r5 : ∀ j, M3 (b + 5) j = M (b + 5) j := fun j => by rw [← hM3]; simp (disch := omega) only [zup_ne]
  have r6 : ∀ j, M3 (b + 6) j = M (b + 6) j := fun j => by rw [← hM3]; simp (disch := omega) only [zup_ne]
  have r7 : M3 (b + 7) (h * 8 + p) = M (b + 7) (h * 8 + p) + 1 := by rw [← hM3]; simp (disch := omega) only [zup_ne, zup_eq, upd_eq]
  have r7n : ∀ j, j ≠ h * 8 + p → M3 (b + 7) j = M (b + 7) j := fun j hj => by rw [← hM3]; simp (disch := omega) only [zup_ne, zup_eq, upd_ne]
  have rj : ∀ i j, 1 ≤ i → i ≤ 6 → j ≠ h → M3 (b + i) j = M (b + i) j := fun i j i1 i5 hj => by
    rw [← hM3]
    rcases (show i = 1 ∨ i = 2 ∨ i = 3 ∨ i = 4 ∨ i = 5 ∨ i = 6 by omega) with rfl | rfl | rfl | rfl | rfl | rfl <;> simp (disch := omega) only [zup_ne, zup_eq, upd_ne]
  have r30 : b = 32 → M3 30 = M 30 ∧ M3 31 = M 31 := fun _ => by rw [← hM3]; simp (disch := omega) only [zup_ne, and_self]
  clear hM3
  have hlw : ∀ h' p', h' < H → p' < n → W2 6 (96 * pg + 48 + 8 * wh h' + p') = M3 (b + 7) (h' * 8 + p') := by
    intro h' p' q1 q2
    by_cases e : h' = h ∧ p' = p
    · obtain ⟨rfl, rfl⟩ := e
      rw [rl2, r7]
    · have ne1 : h' * 8 + p' ≠ h * 8 + p := by omega
      have ne2 : 96 * pg + 48 + 8 * wh h' + p' ≠ 96 * pg + 48 + 8 * wh h + p := by
        intro q
        have : wh h' = wh h := by omega
        have := w2 h' h q1 hh this
        omega
      rw [rd2 _ ne2 (by omega) (by omega), r7n _ ne1]
      exact w4 h' p' q1 q2
  have hl5 : ∀ h' p', h' < H → n ≤ p' → p' < 8 → W2 6 (96 * pg + 48 + 8 * wh h' + p') = W 6 (96 * pg + 48 + 8 * wh h' + p') := by
    intro h' p' q1 q2 q3
    have := (w1 h' q1).1
    exact rd2 _ (by omega) (by omega) (by omega)
  refine ⟨i6, fun cne => ?_, fun ceq => ?_⟩
  · -- the unit isn't the last
    have clt : u + 1 < U := by
      have : u + 1 ≠ U := fun q => cne (by rw [q])
      omega
    rw [if_pos (nI_lt clt (by omega))] at fr hQ
    refine hQ _ ⟨hpg, rt.moved (b := b) mf2 (fr.told hb18 hd2), rw1.moved mf2 (fr.told hb18 hd2 3 (by omega)) hlw hl5, fun j hj => ?_, ?_, hrg.keep (r0 4) r30 (rk 10 (by omega))⟩ mf2
    · by_cases e : j = h
      · subst e
        refine ⟨by rw [rw0, r1], ?_, ?_, Or.inr ⟨p, u + 1, s, by omega, by omega, a2, by rw [r3]; exact a5, r4, by rw [r5]; exact a7, ?_, x2, ?_⟩⟩
        · rw [rd2 _ (by omega) (by omega) (by omega), r2]; exact b2
        · rw [rd2 _ (by omega) (by omega) (by omega), r6]; exact b3
        · rw [rd2 _ (by omega) (by omega) (by omega)]; exact bp
        · rw [rd2 _ (by omega) (by omega) (by omega)]; exact bs
      · exact (hrh j hj).moved (fun i hi => rd2 _ (by omega) (by omega) (by omega)) (fun i i1 i6 => rj i j i1 i6 e)
    · unfold mr_s
      rw [r0, r0, r0, r0, rd2 _ (by omega) (by omega) (by omega), rd2 _ (by omega) (by omega) (by omega), rd2 _ (by omega) (by omega) (by omega), rd2 _ (by omega) (by omega) (by omega)]
      exact hrs
  · have cU : u + 1 = U := (nI_eq (by omega) (by omega)).mp ceq
    have cnl : ¬ nI (u + 1) < nI U := by rw [cU]; exact Int32.lt_irrefl
    rw [if_neg cnl] at fr hQ
    rw [q_add]
    refine mt_pieceFrom (n := n) (by rw [rk 4 (by omega)]; exact t0) n8 a2 (by omega) ?_
    rw [rk 4 (by omega), mp_pf_eq (fun i hi => tun s i a2 hi) (n - (p + 1)) (p + 1) (by omega)]
    have hq1 := sp_pf_le (fun i => M (t + 2) (s * 8 + i)) (n - (p + 1)) (p + 1)
    generalize sp_pf (fun i => M (t + 2) (s * 8 + i)) (n - (p + 1)) (p + 1) = q at hq1 fr hQ ⊢
    by_cases cq : q < n
    · rw [if_pos cq] at fr hQ
      rw [if_pos cq]
      have cq4 : ¬ nI q = -nI 4 := fun z => by
        have := q_neq (a := q) (c := 4) (by omega) (by omega) (by omega)
        rw [← this]; exact z
      refine ⟨fun _ => ?_, fun z => absurd z cq4⟩
      rw [e_put hpg (by omega) (by omega), if_pos (by omega), q_p4, e_put hpg (by omega) (by omega), if_pos (by omega), q_p4]
      generalize hW3 : zup (zup W2 6 (96 * pg + 8 + 8 * h + 2) (nI (q + 4))) 6 (96 * pg + 8 + 8 * h + 3) (nI (0 + 4)) = W3
      have mf3 : mfr pg W W3 := by
        rw [← hW3, show 96 * pg + 8 + 8 * h + 2 = 96 * pg + (8 + 8 * h + 2) by omega, show 96 * pg + 8 + 8 * h + 3 = 96 * pg + (8 + 8 * h + 3) by omega]
        exact mf2.tr ((mfr.uph (by rw [mf2.1 0 (by omega) (by omega)]; exact t18) H5 hh (by omega)).tr (mfr.uph (by rw [zup_ne (by omega), mf2.1 0 (by omega) (by omega)]; exact t18) H5 hh (by omega)))
      have rd3 : ∀ j, j ≠ 96 * pg + 8 + 8 * h + 2 → j ≠ 96 * pg + 8 + 8 * h + 3 → W3 6 j = W2 6 j := fun j j1 j2 => by
        rw [← hW3]; simp (disch := omega) only [zup_eq, upd_ne]
      have y2 : W3 6 (96 * pg + 8 + 8 * h + 2) = nI (q + 4) := by rw [← hW3]; simp (disch := omega) only [zup_eq, upd_ne, upd_eq]
      have y3 : W3 6 (96 * pg + 8 + 8 * h + 3) = nI (0 + 4) := by rw [← hW3]; simp (disch := omega) only [zup_eq, upd_ne, upd_eq]
      have rk3 : W3 10 = W 10 := by rw [← hW3]; simp (disch := omega) only [zup_ne]; exact rk 10 (by omega)
      clear hW3
      refine hQ _ ⟨hpg, rt.moved (b := b) mf3 (fr.told hb18 hd2), rw1.moved mf3 (fr.told hb18 hd2 3 (by omega)) (fun h' p' q1 q2 => ?_) (fun h' p' q1 q2 q3 => by have := (w1 h' q1).1; rw [rd3 _ (by omega) (by omega)]; exact hl5 h' p' q1 q2 q3), fun j hj => ?_, ?_, hrg.keep ?_ (fun h32 => ?_) rk3⟩ mf3
      · have := (w1 h' q1).1
        rw [rd3 _ (by omega) (by omega), hlw h' p' q1 q2]
        simp (disch := omega) only [zup_ne]
      · by_cases e : j = h
        · subst e
          refine ⟨?_, ?_, ?_, Or.inr ⟨q, 0, s, by omega, by omega, a2, ?_, ?_, ?_, y2, y3, ?_⟩⟩
          · rw [rd3 _ (by omega) (by omega), rw0]; simp (disch := omega) only [zup_ne]; rw [r1]
          · rw [rd3 _ (by omega) (by omega), rd2 _ (by omega) (by omega) (by omega)]; simp (disch := omega) only [zup_ne]; rw [r2]; exact b2
          · rw [rd3 _ (by omega) (by omega), rd2 _ (by omega) (by omega) (by omega)]; simp (disch := omega) only [zup_ne]; rw [r6]; exact b3
          · simp (disch := omega) only [zup_ne, zup_eq, upd_eq]
          · simp (disch := omega) only [zup_ne, zup_eq, upd_eq]; rfl
          · simp (disch := omega) only [zup_ne]; rw [r5]; exact a7
          · rw [rd3 _ (by omega) (by omega), rd2 _ (by omega) (by omega) (by omega)]; exact bs
        · refine (hrh j hj).moved (fun i hi => ?_) (fun i i1 i6 => ?_)
          · rw [rd3 _ (by omega) (by omega)]; exact rd2 _ (by omega) (by omega) (by omega)
          · rw [← rj i j i1 i6 e]
            rcases (show i = 1 ∨ i = 2 ∨ i = 3 ∨ i = 4 ∨ i = 5 ∨ i = 6 by omega) with rfl | rfl | rfl | rfl | rfl | rfl <;> simp (disch := omega) only [zup_ne, zup_eq, upd_ne]
      · unfold mr_s
        rw [rd3 _ (by omega) (by omega), rd3 _ (by omega) (by omega), rd3 _ (by omega) (by omega), rd3 _ (by omega) (by omega), rd2 _ (by omega) (by omega) (by omega), rd2 _ (by omega) (by omega) (by omega), rd2 _ (by omega) (by omega) (by omega), rd2 _ (by omega) (by omega) (by omega)]
        simp (disch := omega) only [zup_ne]
        rw [r0, r0, r0, r0]
        exact hrs
      · simp (disch := omega) only [zup_ne]
        exact r0 4
      · simp (disch := omega) only [zup_ne]
        exact r30 h32
    · rw [if_neg cq] at fr hQ
      rw [if_neg cq]
      refine ⟨fun z => absurd rfl z, fun _ => ?_⟩
      rw [e_more hpg (by omega), rd2 _ (by omega) (by omega) (by omega), c2]
      generalize hW3 : zup W2 6 (96 * pg + 1) (M b 3 + nI 1) = W3
      have rd3 : ∀ j, j ≠ 96 * pg + 1 → W3 6 j = W2 6 j := fun j j1 => by
        rw [← hW3]; simp (disch := omega) only [zup_eq, upd_ne]
      have y1 : W3 6 (96 * pg + 1) = M b 3 + 1 := by rw [← hW3]; simp (disch := omega) only [zup_eq, upd_eq]; rfl
      have rk3 : ∀ k, k ≠ 6 → W3 k = W k := fun k hk => by rw [← hW3, zup_ne hk]; exact rk k hk
      have mf3 : mfr pg W W3 := by rw [← hW3]; exact mf2.tr (mfr.upo (by omega) (by omega))
      clear hW3
      have i8 : ix (nI 0) = 0 := rfl
      refine ⟨i7, ?_⟩
      rw [i8, rk3 4 (by omega), t0]
      generalize hM4 : zup M3 b 3 (M b 3 + 1) = M4 at fr hQ
      have s2 : M4 b 2 = M b 2 := by rw [← hM4]; simp (disch := omega) only [zup_eq, upd_ne]; exact r0 2
      have s3 : M4 b 3 = M b 3 + 1 := by rw [← hM4]; simp (disch := omega) only [zup_eq, upd_eq]
      have s4 : M4 b 4 = M b 4 := by rw [← hM4]; simp (disch := omega) only [zup_eq, upd_ne]; exact r0 4
      have s5 : M4 b 5 = M b 5 := by rw [← hM4]; simp (disch := omega) only [zup_eq, upd_ne]; exact r0 5
      have sj : ∀ i j, 1 ≤ i → M4 (b + i) j = M3 (b + i) j := fun i j i1 => by rw [← hM4]; simp (disch := omega) only [zup_ne]
      have st : ∀ i, i ≤ 4 → M4 (t + i) = M (t + i) := fun i hi => by rw [← hM4]; simp (disch := omega) only [zup_ne]; exact fr3.told hb18 hd2 i hi
      have st0 : M4 t = M t := st 0 (by omega)
      have s30 : b = 32 → M4 30 = M 30 ∧ M4 31 = M 31 := fun h32 => by rw [← hM4]; simp (disch := omega) only [zup_ne]; exact r30 h32
      clear hM4
      refine mt_goesBack (t := t) (b := b) (M := M4) (k := wk) hpg (by omega) n8 (by rw [st0]; exact hwk) hwk5 (by rw [st0, rk3 4 (by omega)]; exact t2) (fun z0 => ?_) ?_
      · rw [sj 3 _ (by omega), r3, rd3 _ (by omega), rd2 _ (by omega) (by omega) (by omega)]
        exact (hrh (h - 1) (by omega)).pc
      have gat : ∀ i j, (i = 0 ∨ 4 ≤ i ∨ j ≠ h) → sp_goBack t b h (nI n) M4 (b + i) j = M4 (b + i) j := fun i j => sp_goBack_at
      have ga0 : ∀ j, sp_goBack t b h (nI n) M4 b j = M4 b j := fun j => gat 0 j (Or.inl rfl)
      have mf4 : mfr pg W (mp_goes pg h (sp_wl t b h (nI n) M4) (if 0 < sp_wl t b h (nI n) M4 then 1 else 0) W3) := mf3.tr (mfr_goes (by rw [mf3.1 0 (by omega) (by omega)]; exact t18) H5 hh)
      refine hQ _ ⟨hpg, rt.moved (b := b) mf4 (fr.told hb18 hd2), rw1.moved mf4 (fr.told hb18 hd2 3 (by omega)) (fun h' p' q1 q2 => ?_) (fun h' p' q1 q2 q3 => by have := (w1 h' q1).1; rw [mp_goes_at (fun i hi => by omega), rd3 _ (by omega)]; exact hl5 h' p' q1 q2 q3), fun j hj => ?_, ?_, hrg.keep ?_ (fun h32 => ?_) ?_⟩ mf4
      · rw [mp_goes_at (fun i hi => by omega), rd3 _ (by omega), gat 7 _ (by omega), sj 7 _ (by omega), hlw h' p' q1 q2]
      · by_cases e : j = h
        · subst e
          refine mr_goBack ?_
          rw [rd3 _ (by omega), rd2 _ (by omega) (by omega) (by omega), sj 6 _ (by omega), r6]
          exact b3
        · refine (hrh j hj).moved (fun i hi => ?_) (fun i i1 i6 => ?_)
          · rw [mp_goes_at (fun i' hi' => by omega), rd3 _ (by omega)]; exact rd2 _ (by omega) (by omega) (by omega)
          · rw [gat i j (Or.inr (Or.inr e)), sj i j i1, rj i j i1 i6 e]
      · unfold mr_s
        rw [ga0, ga0, ga0, ga0, s2, s3, s4, s5, mp_goes_at (fun i hi => by omega), mp_goes_at (fun i hi => by omega), mp_goes_at (fun i hi => by omega), mp_goes_at (fun i hi => by omega), y1, rd3 _ (by omega), rd3 _ (by omega), rd3 _ (by omega), rd2 _ (by omega) (by omega) (by omega), rd2 _ (by omega) (by omega) (by omega), rd2 _ (by omega) (by omega) (by omega)]
        exact ⟨c1, rfl, c3, c4⟩
      · rw [ga0]; exact s4
      · have := s30 h32
        unfold sp_goBack
        simp (disch := omega) only [zup_ne]
        exact this
      · rw [mp_goes_ne (by omega)]; exact rk3 10 (by omega)
