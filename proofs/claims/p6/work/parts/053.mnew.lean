theorem mt_new {t b pg n H L : Nat} {wh : Nat → Nat} {M W : zMem} {Q : Int32 → zMem → Prop} (ok : sp_ok M t b n H L) (r : mr W M pg t b n H L wh) (hl : M (b + 2) 0 = 0)
    (hQ : ∀ W', mr W' (sp_new t b M) pg t b n H L wh → mfr pg W W' → Q 1 W') : wp_Model_of (nI pg) 4 W (fun zr16 zm15 => vp_in (10 + zr16) 100 ∧ ∀ zx17 : Int32, zx17 = zm15 4 (ix (10 + zr16)) → wp_Model_put (nI pg) (nI 0) 0 2 zm15 (fun zm18 => wp_Model_put (nI pg) (nI 0) 4 zx17 zm18 (fun zm20 => wp_Model_pieceFrom zx17 0 zm20 (fun zr23 zm22 => wp_Model_put (nI pg) (nI 0) 2 zr23 zm22 (fun zm24 => wp_Model_put (nI pg) (nI 0) 3 0 zm24 (fun zm26 => wp_Model_of (nI pg) 4 zm26 (fun zr29 zm28 => vp_in 6 100 ∧ (¬ (zm28 4 (ix 6)) = 0) ∧ vp_in ((96 * (nI pg)) + 4) 384 ∧ ∀ zm30 : zMem, zm30 = zup zm28 6 (ix ((96 * (nI pg)) + 4)) ((zr29 + 1) - (zr29 + 1) / (zm28 4 (ix 6)) * (zm28 4 (ix 6))) → Q 1 zm30))))))) := by
  obtain ⟨ht, hd2, hb18, vt, ⟨pl, hpl, hpl2⟩, hhd, hg⟩ := id ok
  obtain ⟨⟨n1, n8, H1, H5, L1, L6⟩, hn, hH, hL, -, -, -, -, hrow, hun, hpf, -, -, -, -⟩ := id vt
  obtain ⟨hpg, rt, rw1, hrh, hrs, hrg⟩ := id r
  obtain ⟨t0, t18, t2, t3, t19, t5, t6, trow, tun, tend⟩ := id rt
  obtain ⟨w1, w2, w3, w4, w5⟩ := id rw1
  obtain ⟨c1, c2, c3, c4⟩ := id hrs
  have hb : t + 4 < b := by omega
  obtain ⟨s, hs3, hs⟩ := hrow pl hpl
  have e1 : ix (M b 5) = pl := by rw [hpl2]; exact q_ix (by omega)
  have e2 : ix (M (t + 1) pl) = s := by rw [hs]; exact q_ix (by omega)
  have e3 : ix (M t 0) = n := by rw [hn]; exact q_ix (by omega)
  have hq := hpf s hs3
  generalize hqd : sp_pf (fun i => M (t + 2) (s * 8 + i)) n 0 = q at hq
  have en : sp_new t b M = zup (zup (zup (zup (zup M b 5 (nI ((pl + 1) % L))) (b + 1) 0 2) (b + 3) 0 (nI q)) (b + 4) 0 0) (b + 5) 0 (nI s) := by
    unfold sp_new
    dsimp only
    rw [e1, e2, e3, hqd, hs, hL, hpl2, nI_1]
    by_cases c : L ≤ pl + 1
    · rw [if_pos (nI_le c (by omega)), show (pl + 1) % L = 0 by rw [show pl + 1 = L by omega]; exact Nat.mod_self L]
      rfl
    · rw [if_neg (by rw [Int32.not_le]; exact nI_lt (by omega) (by omega)), Nat.mod_eq_of_lt (by omega)]
  have i1 : ix (10 + nI pl) = 10 + pl := by simp (disch := omega) only [q_lit, q_add, q_mul, q_sub, q_ix, q_in, q_lt, q_le, q_eq, q_nlt, q_nle, q_ltn, q_len, q_neq, q_eqn, zup_ne, zup_eq, zset_ne, zset_eq, upd_eq, upd_ne, forall_eq, true_and, and_true, true_implies, false_implies, implies_true, not_true_eq_false, not_false_eq_true, and_self, ↓reduceIte, false_and, and_false]
  have i2 : vp_in (10 + nI pl) 100 := by simp (disch := omega) only [q_lit, q_add, q_mul, q_sub, q_ix, q_in, q_lt, q_le, q_eq, q_nlt, q_nle, q_ltn, q_len, q_neq, q_eqn, zup_ne, zup_eq, zset_ne, zset_eq, upd_eq, upd_ne, forall_eq, true_and, and_true, true_implies, false_implies, implies_true, not_true_eq_false, not_false_eq_true, and_self, ↓reduceIte, false_and, and_false]
  have i3 : ix (96 * nI pg + nI 4) = 96 * pg + 4 := by simp (disch := omega) only [q_lit, q_add, q_mul, q_sub, q_ix, q_in, q_lt, q_le, q_eq, q_nlt, q_nle, q_ltn, q_len, q_neq, q_eqn, zup_ne, zup_eq, zset_ne, zset_eq, upd_eq, upd_ne, forall_eq, true_and, and_true, true_implies, false_implies, implies_true, not_true_eq_false, not_false_eq_true, and_self, ↓reduceIte, false_and, and_false]
  have i4 : vp_in (96 * nI pg + nI 4) 384 := by simp (disch := omega) only [q_lit, q_add, q_mul, q_sub, q_ix, q_in, q_lt, q_le, q_eq, q_nlt, q_nle, q_ltn, q_len, q_neq, q_eqn, zup_ne, zup_eq, zset_ne, zset_eq, upd_eq, upd_ne, forall_eq, true_and, and_true, true_implies, false_implies, implies_true, not_true_eq_false, not_false_eq_true, and_self, ↓reduceIte, false_and, and_false]
  have i5 : vp_in 6 100 := vp_in_nI (n := 6) (by omega) (by omega)
  have i6 : ix 6 = 6 := rfl
  rw [show (4 : Int32) = nI 4 from rfl, e_of hpg (by omega), c4, hpl2, i1]
  refine ⟨i2, fun x hx => ?_⟩
  rw [trow pl hpl, hs] at hx
  subst hx
  rw [show (0 : Int32) = nI 0 from rfl, show (2 : Int32) = nI 2 from rfl, show (3 : Int32) = nI 3 from rfl, e_put hpg (by omega) (by omega), if_neg (by omega), Nat.mul_zero, Nat.add_zero, Nat.add_zero, q_s0, e_put hpg (by omega) (by omega), if_pos (by omega), q_p4, Nat.mul_zero, Nat.add_zero]
  have hpfeq : sp_pf (fun i => zup (zup W 6 (96 * pg + 8) (nI 2)) 6 (96 * pg + 8 + 4) (nI (s + 4)) 4 (30 + 8 * s + i)) n 0 = q := by
    rw [← hqd]
    have : ∀ m p, p + m ≤ n → sp_pf (fun i => zup (zup W 6 (96 * pg + 8) (nI 2)) 6 (96 * pg + 8 + 4) (nI (s + 4)) 4 (30 + 8 * s + i)) m p = sp_pf (fun i => M (t + 2) (s * 8 + i)) m p := by
      intro m
      induction m with
      | zero => intro p _; rfl
      | succ m ih =>
        intro p hp
        unfold sp_pf
        rw [ih (p + 1) (by omega)]
        simp (disch := omega) only [zup_ne]
        rw [tun s p hs3 (by omega)]
    exact this n 0 (by omega)
  refine mt_pieceFrom (p := 0) (n := n) (by simp (disch := omega) only [zup_ne]; exact t0) n8 hs3 (by omega) ?_
  rw [Nat.sub_zero, hpfeq, if_pos hq]
  rw [e_put hpg (by omega) (by omega), if_pos (by omega), q_p4, e_put hpg (by omega) (by omega), if_pos (by omega), q_p4, Nat.mul_zero, Nat.add_zero, e_of hpg (by omega)]
  simp (disch := omega) only [zup_eq, upd_ne, zup_ne]
  rw [c4, hpl2, i6, t6, nI_1, i3, pk_rem (by omega) (by omega) (by omega)]
  refine ⟨i5, nI_ne0 (by omega) (by omega), i4, fun W' hW' => ?_⟩
  subst hW'
  have fr := sp_fr_new (t := t) (b := b) (M := M)
  rw [en] at fr hQ
  have hmod : (pl + 1) % L < L := Nat.mod_lt _ (by omega)
  generalize hW' : zup (zup (zup (zup (zup W 6 (96 * pg + 8) (nI 2)) 6 (96 * pg + 8 + 4) (nI (s + 4))) 6 (96 * pg + 8 + 2) (nI (q + 4))) 6 (96 * pg + 8 + 3) (nI (0 + 4))) 6 (96 * pg + 4) (nI ((pl + 1) % L)) = W'
  have mf : mfr pg W W' := by
    rw [← hW', show 96 * pg + 8 + 4 = 96 * pg + (8 + 8 * 0 + 4) by omega, show 96 * pg + 8 + 2 = 96 * pg + (8 + 8 * 0 + 2) by omega, show 96 * pg + 8 + 3 = 96 * pg + (8 + 8 * 0 + 3) by omega]
    exact ((((mfr.upo (by omega) (by omega)).tr (mfr.uph (by simp (disch := omega) only [zup_ne]; exact t18) H5 (by omega) (by omega))).tr (mfr.uph (by simp (disch := omega) only [zup_ne]; exact t18) H5 (by omega) (by omega))).tr (mfr.uph (by simp (disch := omega) only [zup_ne]; exact t18) H5 (by omega) (by omega))).tr (mfr.upo (by omega) (by omega))
  have rd : ∀ j, j ≠ 96 * pg + 8 → j ≠ 96 * pg + 12 → j ≠ 96 * pg + 10 → j ≠ 96 * pg + 11 → j ≠ 96 * pg + 4 → W' 6 j = W 6 j := fun j j1 j2 j3 j4 j5 => by
    rw [← hW']
    simp (disch := omega) only [zup_eq, upd_ne]
  refine hQ _ ⟨hpg, rt.moved (b := b) mf (fr.told hb18 hd2), rw1.moved mf (fr.told hb18 hd2 3 (by omega)) (fun h' p' q1 q2 => ?_) (fun h' p' q1 q2 q3 => by have := (w1 h' q1).1; exact rd _ (by omega) (by omega) (by omega) (by omega) (by omega)), fun j hj => ?_, ?_, hrg.keep ?_ ?_ ?_⟩ mf
  · rw [rd _ (by omega) (by omega) (by omega) (by omega) (by omega)]
    simp (disch := omega) only [zup_ne]
    exact w4 h' p' q1 q2
  · by_cases e : j = 0
    · subst e
      obtain ⟨b1, b2, b3, b4⟩ := hrh 0 hj
      refine ⟨?_, ?_, ?_, Or.inr ⟨q, 0, s, by omega, by omega, hs3, ?_, ?_, ?_, ?_, ?_, ?_⟩⟩
      · rw [← hW']; simp (disch := omega) only [zup_eq, zup_ne, upd_ne, upd_eq]; rfl
      · rw [rd _ (by omega) (by omega) (by omega) (by omega) (by omega)]; simp (disch := omega) only [zup_ne]; exact b2
      · rw [rd _ (by omega) (by omega) (by omega) (by omega) (by omega)]; simp (disch := omega) only [zup_ne]; exact b3
      · simp (disch := omega) only [zup_ne, zup_eq, upd_eq]
      · simp (disch := omega) only [zup_ne, zup_eq, upd_eq]; rfl
      · simp (disch := omega) only [zup_ne, zup_eq, upd_eq]
      · rw [← hW']; simp (disch := omega) only [zup_eq, zup_ne, upd_ne, upd_eq]
      · rw [← hW']; simp (disch := omega) only [zup_eq, zup_ne, upd_ne, upd_eq]
      · rw [← hW']; simp (disch := omega) only [zup_eq, zup_ne, upd_ne, upd_eq]
    · refine (hrh j hj).moved (fun i hi => rd _ (by omega) (by omega) (by omega) (by omega) (by omega)) (fun i i1 i6 => ?_)
      rcases (show i = 1 ∨ i = 2 ∨ i = 3 ∨ i = 4 ∨ i = 5 ∨ i = 6 by omega) with rfl | rfl | rfl | rfl | rfl | rfl <;> simp (disch := omega) only [zup_ne, zup_eq, upd_ne]
  · unfold mr_s
    rw [rd (96 * pg) (by omega) (by omega) (by omega) (by omega) (by omega), rd (96 * pg + 1) (by omega) (by omega) (by omega) (by omega) (by omega), rd (96 * pg + 2) (by omega) (by omega) (by omega) (by omega) (by omega)]
    refine ⟨?_, ?_, ?_, ?_⟩
    · simp (disch := omega) only [zup_ne, zup_eq, upd_ne]; exact c1
    · simp (disch := omega) only [zup_ne, zup_eq, upd_ne]; exact c2
    · simp (disch := omega) only [zup_ne, zup_eq, upd_ne]; exact c3
    · rw [← hW']; simp (disch := omega) only [zup_ne, zup_eq, upd_ne, upd_eq]
  · simp (disch := omega) only [zup_ne, zup_eq, upd_ne]
  · intro _
    simp (disch := omega) only [zup_ne, and_self]
  · rw [← hW']; simp (disch := omega) only [zup_ne]
