theorem xt_moveEnds {k n H : Nat} {e : Nat → Nat} {M : zMem} {Q : Int32 → zMem → Prop} (hn : M k 0 = nI n) (hH : M k 1 = nI H) (n8 : n ≤ 8) (H1 : 1 ≤ H) (H5 : H ≤ 5) (hHn : H ≤ n) (he : ∀ i, i < H - 1 → M (k + 4) i = nI (e i)) (hb : ∀ i, i < H - 1 → e i ≤ 8)
    (h0 : pmv e n H (H - 1) = none → Q 0 M) (h1 : ∀ h, h < H - 1 → pmv e n H (H - 1) = some h → ∀ M', (∀ i, i < H - 1 → M' (k + 4) i = nI (pmw e h i)) → (∀ i, H - 1 ≤ i → M' (k + 4) i = M (k + 4) i) → (∀ d, d ≠ k + 4 → M' d = M d) → Q 1 M') : wp_Told_moveEnds k M Q := by
  unfold wp_Told_moveEnds
  intro z ez
  have ez2 : z = nI (H - 1) - 1 := by
    rw [ez, hH]
    rcases Nat.eq_or_lt_of_le H1 with q | q
    · rw [← q]; rfl
    · rw [q_pred (by omega)]
      exact (q_sub (a := H) (b := 2) (by omega)).trans (congrArg nI (by omega))
  refine zlp1_r (fun f x M' => M' = M ∧ ∃ m, x = nI m - 1 ∧ m ≤ H - 1 ∧ f = m ∧ pmv e n H m = pmv e n H (H - 1)) ?_ (n := H - 1) ⟨rfl, H - 1, ez2, Nat.le_refl _, rfl, rfl⟩
  rintro f x M' ⟨rfl, m, rfl, hm, rfl, ep⟩ J hJ
  unfold wpB_Told_moveEnds_7
  rcases Nat.eq_zero_or_pos f with q | q
  · subst q
    refine ⟨fun _ => h0 ep.symm, fun c => absurd (by decide) c⟩
  · obtain ⟨g, rfl⟩ : ∃ g, f = g + 1 := ⟨f - 1, by omega⟩
    rw [nI_pred]
    refine ⟨fun c => absurd c (nI_pos (by omega)), fun _ y ey => ?_⟩
    rw [hn, hH, q_pred (by omega), q_sub (by omega), q_sub (by omega)] at ey
    rw [q_ix (by omega), he g (by omega), ey]
    have hbg := hb g (by omega)
    have e2 : pmv e n H (g + 1) = if e g < n - (H - 1 - g) then some g else pmv e n H g := rfl
    rw [e2] at ep
    refine ⟨vp_in_nI (by omega) (by omega), fun c y2 ey2 => ?_, fun c => ?_⟩
    · have := (nI_leI (by omega) (by omega)).mp c
      rw [if_neg (by omega)] at ep
      rw [ey2, ← Int32.sub_eq_add_neg]
      exact hJ g _ _ (by omega) ⟨rfl, g, rfl, by omega, rfl, ep⟩
    · have hlt : e g < n - (H - 1 - g) := (nI_ltI (by omega) (by omega)).mp (Int32.not_le.mp c)
      rw [if_pos hlt] at ep
      dsimp only
      rw [q_ix (by omega), he g (by omega), nI_1, nI_1]
      refine ⟨vp_in_nI (by omega) (by omega), vp_in_nI (by omega) (by omega), fun M6 e6 y3 ey3 => ?_⟩
      subst ey3
      refine zlp1_r (fun f x M2 => ∃ i, x = nI i ∧ g + 1 ≤ i ∧ i ≤ H - 1 ∧ f = H - 1 - i ∧ (∀ j, j < i → M2 (k + 4) j = nI (pmw e g j)) ∧ (∀ j, i ≤ j → M2 (k + 4) j = M' (k + 4) j) ∧ (∀ d, d ≠ k + 4 → M2 d = M' d)) ?_ (n := H - 1 - (g + 1)) ⟨g + 1, rfl, Nat.le_refl _, by omega, rfl, fun j hj => ?_, fun j hj => ?_, fun d hd => ?_⟩
      · rintro f x M2 ⟨i, rfl, i1, i2, rfl, i3, i4, i5⟩ J2 hJ2
        unfold wpB_Told_moveEnds_49
        rw [i5 k (by omega), hH, q_pred (by omega)]
        refine ⟨fun c2 => ?_, fun c2 => ?_⟩
        · have := (nI_leI (by omega) (by omega)).mp c2
          have ei : i = H - 1 := by omega
          subst ei
          exact h1 g (by omega) ep.symm M2 i3 i4 i5
        · have hi : i < H - 1 := (nI_ltI (by omega) (by omega)).mp (Int32.not_le.mp c2)
          rw [q_pred (by omega), q_ix (by omega), q_ix (by omega), i3 (i - 1) (by omega), nI_1, nI_1]
          refine ⟨vp_in_nI (by omega) (by omega), vp_in_nI (by omega) (by omega), fun M3 e3 y4 ey4 => ?_⟩
          rw [ey4]
          refine hJ2 (H - 1 - (i + 1)) _ _ (by omega) ⟨i + 1, rfl, by omega, by omega, rfl, fun j hj => ?_, fun j hj => ?_, fun d hd => ?_⟩
          · rw [e3, zup_eq]
            by_cases z : j = i
            · rw [z, upd_eq]
              refine congrArg nI ?_
              unfold pmw
              rw [if_neg (by omega), if_neg (by omega)]
              omega
            · rw [upd_ne z]; exact i3 j (by omega)
          · rw [e3, zup_eq, upd_ne (by omega)]; exact i4 j (by omega)
          · rw [e3, zup_ne hd]; exact i5 d hd
      · rw [e6, zup_eq]
        by_cases z : j = g
        · rw [z, upd_eq]
          refine congrArg nI ?_
          unfold pmw
          rw [if_neg (by omega)]
          omega
        · rw [upd_ne z, he j (by omega)]
          refine congrArg nI ?_
          unfold pmw
          rw [if_pos (by omega)]
      · rw [e6, zup_eq, upd_ne (by omega)]
      · rw [e6, zup_ne hd]
/-- no more than -/
def pL (a b : Option (Nat × Nat × Nat × Nat)) : Prop := ro_top a * ro_bot b ≤ ro_top b * ro_bot a
theorem pL_total (a b : Option (Nat × Nat × Nat × Nat)) : pL a b ∨ pL b a := Nat.le_total _ _
theorem pL_tr4 {a b c d e f : Nat} (hd : 0 < d) (h1 : a * d ≤ c * b) (h2 : c * f ≤ e * d) : a * f ≤ e * b := by
  have q1 : a * d * f ≤ c * b * f := Nat.mul_le_mul h1 (Nat.le_refl _)
  have q2 : c * f * b ≤ e * d * b := Nat.mul_le_mul h2 (Nat.le_refl _)
  have q3 : a * f * d ≤ e * b * d := by
    rw [Nat.mul_right_comm a f d, Nat.mul_right_comm e b d]
    refine Nat.le_trans q1 ?_
    rw [Nat.mul_right_comm c b f]
    exact q2
  exact Nat.le_of_mul_le_mul_right q3 hd
theorem pL.tr {a b c : Option (Nat × Nat × Nat × Nat)} (hb : sp_rok b) (h1 : pL a b) (h2 : pL b c) : pL a c := pL_tr4 (ro_tb hb).2.1 h1 h2
/-- the best of a set: the most, and the first of those -/
def pbest (o : Nat → Option (Nat × Nat × Nat × Nat)) (S : Nat → Prop) (b : Nat) : Prop := S b ∧ ∀ j, S j → pL (o j) (o b) ∧ (j < b → ¬ pL (o b) (o j))
theorem pbest.uniq {o : Nat → Option (Nat × Nat × Nat × Nat)} {S : Nat → Prop} {b c : Nat} (h1 : pbest o S b) (h2 : pbest o S c) : b = c := by
  rcases Nat.lt_trichotomy b c with z | z | z
  · exact absurd (h1.2 c h2.1).1 ((h2.2 b h1.1).2 z)
  · exact z
  · exact absurd (h2.2 b h1.1).1 ((h1.2 c h2.1).2 z)
theorem pbest.up {o : Nat → Option (Nat × Nat × Nat × Nat)} {S : Nat → Prop} {b x : Nat} (h : pbest o S b) (rk : ∀ j, (S j ∨ j = x) → sp_rok (o j)) (hx : ¬ pL (o x) (o b) ∨ (pL (o b) (o x) ∧ x < b)) : pbest o (fun j => S j ∨ j = x) x := by
  have hbx : pL (o b) (o x) := by
    rcases hx with q | q
    · rcases pL_total (o x) (o b) with z | z
      · exact absurd z q
      · exact z
    · exact q.1
  refine ⟨Or.inr rfl, fun j hj => ?_⟩
  rcases hj with hj | hj
  · obtain ⟨j1, j2⟩ := h.2 j hj
    refine ⟨j1.tr (rk b (Or.inl h.1)) hbx, fun jx q => ?_⟩
    rcases hx with z | ⟨z1, z2⟩
    · exact z (q.tr (rk j (Or.inl hj)) j1)
    · exact j2 (by omega) (z1.tr (rk x (Or.inr rfl)) q)
  · subst hj
    exact ⟨Nat.le_refl _, fun q => absurd q (Nat.lt_irrefl _)⟩
theorem pbest.keep {o : Nat → Option (Nat × Nat × Nat × Nat)} {S : Nat → Prop} {b x : Nat} (h : pbest o S b) (h1 : pL (o x) (o b)) (h2 : x < b → ¬ pL (o b) (o x)) : pbest o (fun j => S j ∨ j = x) b := by
  refine ⟨Or.inl h.1, fun j hj => ?_⟩
  rcases hj with hj | hj
  · exact h.2 j hj
  · subst hj; exact ⟨h1, h2⟩
theorem pbest.set {o o' : Nat → Option (Nat × Nat × Nat × Nat)} {S S' : Nat → Prop} {b : Nat} (h : pbest o S b) (e : ∀ j, S' j ↔ S j) (eo : ∀ j, S j → o' j = o j) : pbest o' S' b := by
  refine ⟨(e b).mpr h.1, fun j hj => ?_⟩
  have hj' := (e j).mp hj
  rw [eo j hj', eo b h.1]
  exact h.2 j hj'
theorem more_neg {T B : Nat} {M : zMem} {Q : Int32 → zMem → Prop} (hT : T ≤ 480000) (hB : B ≤ 480000) (h0 : 0 < B) (hQ : Q 1 M) : wp_Main_isMore (lN T) (lN B) ((-1 : Int32).toInt64) ((1 : Int32).toInt64) M Q := by
  unfold wp_Main_isMore
  have e1 : ((1 : Int32).toInt64) = lN 1 := by decide
  have e2 : ((-1 : Int32).toInt64) = -1 := by decide
  rw [e1, e2, lN_mul, ← Int64.neg_eq_neg_one_mul]
  have c : ¬ lg_cmp (lN (T * 1)) (-lN B) ≤ 0 := by
    rw [Int32.not_le, lg_cmp_0lt, Int64.lt_iff_toInt_lt, pk_lT (by omega)]
    have := Int64.toInt_neg_ofNat_of_le (n := B) (by omega)
    show (-Int64.ofNat B).toInt < _
    rw [this]
    omega
  exact ⟨fun q => absurd q c, fun _ => hQ⟩
/-- a ring of parts, by a bench that was run -/
def pgh (M : zMem) (n H L k : Nat) (o : Option (Nat × Nat × Nat × Nat)) : Prop := ∃ M0 Mc, sp_clear 45 M0 Mc ∧ sp_ok Mc 6 45 n H L ∧ (∀ j, j ≤ 6 → j ≠ 4 → Mc 6 j = M 1 j) ∧ Mc 6 4 = 2 ∧ (∀ j, j < 6 → Mc 7 j = M 2 j) ∧ (∀ j, j < 24 → Mc 8 j = M 3 j) ∧ (∀ j, j < 40 → Mc 9 j = M 4 j) ∧ (∀ i, i < H - 1 → Mc 10 i = nI (pv (pm n H k) i)) ∧ Mc 10 (H - 1) = nI n ∧ o = sp_ring 6 45 n H Mc ∧ sp_rok o
theorem pgh.rk {M : zMem} {n H L k : Nat} {o : Option (Nat × Nat × Nat × Nat)} (h : pgh M n H L k o) : sp_rok o := by
  obtain ⟨-, -, -, -, -, -, -, -, -, -, -, -, rk⟩ := h
  exact rk
theorem pgh.moved {M M' : zMem} {n H L k : Nat} {o : Option (Nat × Nat × Nat × Nat)} (h : pgh M n H L k o) (e : ∀ i, i ≤ 3 → M' (1 + i) = M (1 + i)) : pgh M' n H L k o := by
  have e1 : M' 1 = M 1 := e 0 (by omega)
  have e2 : M' 2 = M 2 := e 1 (by omega)
  have e3 : M' 3 = M 3 := e 2 (by omega)
  have e4 : M' 4 = M 4 := e 3 (by omega)
  unfold pgh at h ⊢
  rw [e1, e2, e3, e4]
  exact h
def pbk (M : zMem) (n H : Nat) (o : Nat → Option (Nat × Nat × Nat × Nat)) (b : Nat) : Prop := M 60 1 = nI (ro_top (o b)) ∧ M 60 2 = nI (ro_bot (o b)) ∧ ∀ i, i < H - 1 → M 61 i = nI (pv (pm n H b) i)
def cpk (M : zMem) (n H L : Nat) : Prop := ∃ o b, (∀ k, k < pN n H → pgh M n H L k (o k)) ∧ pbest o (fun k => k < pN n H) b ∧ pbk M n H o b
/-- parts that the class has kept are those of what is told now -/
def cp (M : zMem) (n H L : Nat) : Prop := M 60 0 = 0 ∨ cpk M n H L
def pfr (M M' : zMem) : Prop := ∀ k, (k < 6 ∨ (11 ≤ k ∧ k < 41) ∨ k = 54 ∨ (56 ≤ k ∧ k < 60) ∨ 62 ≤ k) → M' k = M k
