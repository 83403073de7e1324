def sp_c (M : zMem) (b h : Nat) : Nat := if M (b + 1) h = 0 then h + 2 else if M (b + 1) h = 2 then 1 else if M (b + 1) h = 3 ∧ M (b + 2) h = 0 then h + 3 else 0
def sp_sum (c : Nat → Nat) : Nat → Nat
  | 0 => 0
  | h + 1 => c h + sp_sum c h
theorem sp_sum_eq {c c' : Nat → Nat} : ∀ H, (∀ j, j < H → c' j = c j) → sp_sum c' H = sp_sum c H := by
  intro H
  induction H with
  | zero => intro _; rfl
  | succ H ih =>
    intro h
    unfold sp_sum
    rw [h H (by omega), ih (fun j hj => h j (by omega))]
theorem sp_sum_lt1 {c c' : Nat → Nat} {h : Nat} (h1 : c' h < c h) (h2 : ∀ j, j ≠ h → c' j = c j) : ∀ H, h < H → sp_sum c' H < sp_sum c H := by
  intro H
  induction H with
  | zero => intro hh; omega
  | succ H ih =>
    intro hh
    unfold sp_sum
    by_cases e : h = H
    · subst e
      rw [sp_sum_eq (c := c) h (fun j hj => h2 j (by omega))]
      omega
    · have := ih (by omega)
      rw [h2 H (fun q => e q.symm)]
      omega
theorem sp_sum_lt2 {c c' : Nat → Nat} {h : Nat} (h0 : 0 < h) (h1 : c' h + c' (h - 1) < c h + c (h - 1)) (h2 : ∀ j, j ≠ h → j ≠ h - 1 → c' j = c j) : ∀ H, h < H → sp_sum c' H < sp_sum c H := by
  intro H
  induction H with
  | zero => intro hh; omega
  | succ H ih =>
    intro hh
    unfold sp_sum
    by_cases e : h = H
    · subst e
      obtain ⟨k, rfl⟩ : ∃ k, h = k + 1 := ⟨h - 1, by omega⟩
      unfold sp_sum
      rw [sp_sum_eq (c := c) k (fun j hj => h2 j (by omega) (by omega))]
      simp only [Nat.add_sub_cancel] at h1
      omega
    · have := ih (by omega)
      rw [h2 H (fun q => e q.symm) (by omega)]
      omega
theorem sp_c_eq {M M' : zMem} {b j : Nat} (h1 : M' (b + 1) j = M (b + 1) j) (h2 : M' (b + 2) j = M (b + 2) j) : sp_c M' b j = sp_c M b j := by
  unfold sp_c
  rw [h1, h2]
/-- what stays: the place in the row is well, the log is well -/
theorem sp_ok.of {M M' : zMem} {t b n H L : Nat} (ok : sp_ok M t b n H L) (fr : sp_fr b M M') (hpl : ∃ pl, pl < L ∧ M' b 5 = nI pl) (hhd : ∀ h, h < H → sp_hd M' t b n h) (hg : ∀ g, zlg b = some g → ∃ z, M' g 0 = nI z ∧ z ≤ 600) : sp_ok M' t b n H L := by
  obtain ⟨ht, hd2, hb18, vt, -, -, -⟩ := ok
  exact ⟨by rw [fr.2]; exact ht, hd2, hb18, vt.moved (fr.told hb18 hd2), hpl, hhd, hg⟩
theorem sp_step_start {M : zMem} {t b n H L h : Nat} (ok : sp_ok M t b n H L) (hh : h < H) (h2 : M (b + 1) h = 2) (hm : sp_may t b h M) : sp_ok (sp_start t b h M) t b n H L ∧ sp_sum (sp_c (sp_start t b h M) b) H < sp_sum (sp_c M b) H := by
  have fr := sp_fr_start (t := t) (b := b) (h := h) (M := M)
  obtain ⟨ht, hd2, hb18, vt, hpl, hhd, hg⟩ := id ok
  have hb : t + 4 < b := by omega
  have q1 : ∀ i j, i ≠ 1 → i ≠ 2 → sp_start t b h M (b + i) j = M (b + i) j := fun i j a c => by
    unfold sp_start
    simp (disch := omega) only [q_lit, q_add, q_mul, q_sub, q_ix, q_in, q_lt, q_le, q_eq, q_nlt, q_nle, q_ltn, q_len, q_neq, q_eqn, zup_ne, zup_eq, zset_ne, zset_eq, upd_eq, upd_ne, forall_eq, true_and, and_true, true_implies, false_implies, implies_true, not_true_eq_false, not_false_eq_true, and_self, ↓reduceIte, false_and, and_false]
  have q2 : ∀ i j, j ≠ h → sp_start t b h M (b + i) j = M (b + i) j := fun i j a => by
    by_cases c1 : i = 1
    · subst c1; unfold sp_start; simp (disch := omega) only [q_lit, q_add, q_mul, q_sub, q_ix, q_in, q_lt, q_le, q_eq, q_nlt, q_nle, q_ltn, q_len, q_neq, q_eqn, zup_ne, zup_eq, zset_ne, zset_eq, upd_eq, upd_ne, forall_eq, true_and, and_true, true_implies, false_implies, implies_true, not_true_eq_false, not_false_eq_true, and_self, ↓reduceIte, false_and, and_false]
    · by_cases c2 : i = 2
      · subst c2; unfold sp_start; simp (disch := omega) only [q_lit, q_add, q_mul, q_sub, q_ix, q_in, q_lt, q_le, q_eq, q_nlt, q_nle, q_ltn, q_len, q_neq, q_eqn, zup_ne, zup_eq, zset_ne, zset_eq, upd_eq, upd_ne, forall_eq, true_and, and_true, true_implies, false_implies, implies_true, not_true_eq_false, not_false_eq_true, and_self, ↓reduceIte, false_and, and_false]
      · exact q1 i j c1 c2
  have q3 : sp_start t b h M (b + 1) h = 3 := by unfold sp_start; simp (disch := omega) only [zup_ne, zup_eq, upd_eq]
  have q4 : 0 < sp_start t b h M (b + 2) h := by
    unfold sp_start
    simp (disch := omega) only [zup_eq, upd_eq]
    exact sp_ticks_pos _ _ _ _ _
  refine ⟨ok.of fr ?_ ?_ ?_, ?_⟩
  · have e := q1 0 5 (by omega) (by omega)
    rw [Nat.add_zero] at e
    rw [e]
    exact hpl
  · intro j hj
    by_cases e : j = h
    · subst e
      rcases hhd j hj with ⟨a1, -⟩ | ⟨a1, -⟩ | ⟨p, u, s, U, a1, a2, a3, a4, a5, a6, a7, a8, a9, a10⟩
      · rw [h2] at a1; exact absurd a1 (by decide)
      · rw [h2] at a1; exact absurd a1 (by decide)
      · refine Or.inr (Or.inr ⟨p, u, s, U, a1, a2, a3, a4, ?_, ?_, ?_, ?_, Or.inr ⟨q3, Int32.le_of_lt q4⟩, fun _ => ?_⟩)
        · rw [q1 3 j (by omega) (by omega)]; exact a5
        · rw [q1 4 j (by omega) (by omega)]; exact a6
        · rw [q1 5 j (by omega) (by omega)]; exact a7
        · rw [fr.told hb18 hd2 2 (by omega)]; exact a8
        · rw [fr.told hb18 hd2 4 (by omega), ← a5]; exact hm.1
    · exact (hhd j hj).moved (fr.told hb18 hd2) (fun i _ _ => q2 i j e)
  · intro g hg1
    rcases zlg_cases b with c | ⟨c, hb32⟩
    · rw [c] at hg1; cases hg1
    · rw [c] at hg1
      cases hg1
      obtain ⟨z, z1, z2⟩ := hg 30 c
      refine ⟨z, ?_, z2⟩
      unfold sp_start
      simp (disch := omega) only [zup_ne]
      exact z1
  · refine sp_sum_lt1 (h := h) ?_ (fun j e => sp_c_eq (q2 1 j e) (q2 2 j e)) H hh
    unfold sp_c
    rw [q3, h2]
    have : ¬ sp_start t b h M (b + 2) h = 0 := fun e => by rw [e] at q4; exact absurd q4 (by decide)
    simp [this]
theorem sp_keep_log {M M' : zMem} {b : Nat} (hg : ∀ g, zlg b = some g → ∃ z, M g 0 = nI z ∧ z ≤ 600) (e : b = 32 → M' 30 = M 30) : ∀ g, zlg b = some g → ∃ z, M' g 0 = nI z ∧ z ≤ 600 := by
  intro g hg1
  rcases zlg_cases b with c | ⟨c, hb32⟩
  · rw [c] at hg1; cases hg1
  · rw [c] at hg1
    cases hg1
    obtain ⟨z, z1, z2⟩ := hg 30 c
    exact ⟨z, by rw [e hb32]; exact z1, z2⟩
theorem nI_0lt {u : Nat} (h : u < 2147483648) : (0 : Int32) < nI u ↔ 0 < u := by
  have := nI_ltI (a := 0) (b := u) (by omega) h
  exact this
theorem sp_step_new {M : zMem} {t b n H L : Nat} (ok : sp_ok M t b n H L) (h2 : M (b + 1) 0 = 0) (hl : M (b + 2) 0 = 0) : sp_ok (sp_new t b M) t b n H L ∧ sp_sum (sp_c (sp_new t b M) b) H < sp_sum (sp_c M b) H := by
  have fr := sp_fr_new (t := t) (b := b) (M := M)
  obtain ⟨ht, hd2, hb18, vt, ⟨pl, hpl, hpl2⟩, hhd, hg⟩ := id ok
  obtain ⟨⟨n1, n8, H1, H5, L1, L6⟩, hn, hH, hL, -, -, -, -, hrow, hun, hpf, -, -, -, -⟩ := id vt
  have hb : t + 4 < b := by omega
  obtain ⟨s, hs3, hs⟩ := hrow pl hpl
  have e1 : ix (M b 5) = pl := by rw [hpl2]; exact q_ix (by omega)
  have e2 : ix (M (t + 1) pl) = s := by rw [hs]; exact q_ix (by omega)
  have e3 : ix (M t 0) = n := by rw [hn]; exact q_ix (by omega)
  have hq := hpf s hs3
  have hq2 := sp_pf_pos (fun i => M (t + 2) (s * 8 + i)) n 0 (by omega)
  generalize hqd : sp_pf (fun i => M (t + 2) (s * 8 + i)) n 0 = q at hq hq2
  have en : sp_new t b M = zup (zup (zup (zup (zup M b 5 (if M t 6 ≤ M b 5 + 1 then 0 else M b 5 + 1)) (b + 1) 0 2) (b + 3) 0 (nI q)) (b + 4) 0 0) (b + 5) 0 (nI s) := by
    unfold sp_new
    dsimp only
    rw [e1, e2, e3, hqd, hs]
  rw [en] at fr ⊢
  generalize hpx : (if M t 6 ≤ M b 5 + 1 then (0 : Int32) else M b 5 + 1) = px at fr ⊢
  have hpx2 : ∃ pl', pl' < L ∧ px = nI pl' := by
    rw [hL, hpl2, nI_1] at hpx
    by_cases c : L ≤ pl + 1
    · rw [if_pos (nI_le c (by omega))] at hpx
      exact ⟨0, by omega, by rw [← hpx]; rfl⟩
    · rw [if_neg (by rw [Int32.not_le]; exact nI_lt (by omega) (by omega))] at hpx
      exact ⟨pl + 1, by omega, hpx.symm⟩
  refine ⟨ok.of fr ?_ ?_ ?_, ?_⟩
  · simp (disch := omega) only [zup_ne, zup_eq, upd_eq]
    exact hpx2
  · intro j hj
    by_cases e : j = 0
    · subst e
      obtain ⟨U, hU6, hU⟩ := hun s q hs3 hq
      have hq3 : 0 < nI U := by rw [← hU]; exact hq2
      have hU0 : 0 < U := (nI_0lt (by omega)).mp hq3
      refine Or.inr (Or.inr ⟨q, 0, s, U, hq, hs3, hU0, hU6, ?_, ?_, ?_, ?_, Or.inl ⟨?_, ?_⟩, fun c => ?_⟩)
      · simp (disch := omega) only [zup_ne, zup_eq, upd_eq]
      · simp (disch := omega) only [zup_ne, zup_eq, upd_eq]; rfl
      · simp (disch := omega) only [zup_ne, zup_eq, upd_eq]
      · simp (disch := omega) only [zup_ne, zup_eq, upd_eq]; exact hU
      · simp (disch := omega) only [zup_ne, zup_eq, upd_eq]
      · simp (disch := omega) only [zup_ne, zup_eq, upd_eq]; exact hl
      · simp (disch := omega) only [zup_ne, zup_eq, upd_eq] at c
        rcases c with c | c
        · exact absurd c (by decide)
        · exact absurd c.1 (by omega)
    · refine (hhd j hj).moved (fr.told hb18 hd2) (fun i i1 i5 => ?_)
      rcases (show i = 1 ∨ i = 2 ∨ i = 3 ∨ i = 4 ∨ i = 5 by omega) with rfl | rfl | rfl | rfl | rfl <;> simp (disch := omega) only [zup_ne, zup_eq, upd_ne]
  · refine sp_keep_log hg (fun hb32 => ?_)
    simp (disch := omega) only [zup_ne]
  · refine sp_sum_lt1 (h := 0) ?_ (fun j e => sp_c_eq ?_ ?_) H (by omega)
    · unfold sp_c
      simp (disch := omega) only [zup_ne, zup_eq, upd_eq, h2]
      simp
    · simp (disch := omega) only [zup_ne, zup_eq, upd_ne]
    · simp (disch := omega) only [zup_ne, zup_eq, upd_ne]
theorem sp_c_goBack {t b h n f k : Nat} {M : zMem} (hf : f ≤ 8) (hk : M t 2 = nI k) (hk5 : k ≤ 5) (hp : 0 < h → M (b + 3) (h - 1) = -1 ∨ ∃ p, p < 8 ∧ M (b + 3) (h - 1) = nI p) : sp_c (sp_goBack t b h (nI f) M) b h ≤ h + 2 := by
  obtain ⟨z, hz, ez⟩ := sp_wl_nn (b := b) hf hk hk5 hp
  unfold sp_goBack sp_c
  rw [ez]
  by_cases c : z = 0
  · subst c
    simp (disch := omega) [q_lit, q_add, q_mul, q_sub, q_ix, q_in, q_lt, q_le, q_eq, q_nlt, q_nle, q_ltn, q_len, q_neq, q_eqn, zup_ne, zup_eq, zset_ne, zset_eq, upd_eq, upd_ne, forall_eq, true_and, and_true, true_implies, false_implies, implies_true, not_true_eq_false, not_false_eq_true, and_self, ↓reduceIte, false_and, and_false]
  · have c2 : 0 < z := by omega
    simp (disch := omega) [q_lit, q_add, q_mul, q_sub, q_ix, q_in, q_lt, q_le, q_eq, q_nlt, q_nle, q_ltn, q_len, q_neq, q_eqn, zup_ne, zup_eq, zset_ne, zset_eq, upd_eq, upd_ne, forall_eq, true_and, and_true, true_implies, false_implies, implies_true, not_true_eq_false, not_false_eq_true, and_self, ↓reduceIte, false_and, and_false, c2]
theorem sp_step_finish {M : zMem} {t b n H L h : Nat} (ok : sp_ok M t b n H L) (hh : h < H) (h3 : M (b + 1) h = 3) (hl : M (b + 2) h = 0) : sp_ok (sp_finish t b h M) t b n H L ∧ sp_sum (sp_c (sp_finish t b h M) b) H < sp_sum (sp_c M b) H := by
  have fr := sp_fr_finish (t := t) (b := b) (h := h) (M := M)
  obtain ⟨ht, hd2, hb18, vt, hpl, hhd, hg⟩ := id ok
  obtain ⟨⟨n1, n8, H1, H5, L1, L6⟩, hn, hH, hL, ⟨wk, hwk5, hwk⟩, -, -, -, hrow, hun, hpf, -, -, -, -⟩ := id vt
  have hb : t + 4 < b := by omega
  rcases hhd h hh with ⟨a1, -⟩ | ⟨a1, -⟩ | ⟨p, u, s, U, a1, a2, a3, a4, a5, a6, a7, a8, a9, a10⟩
  · rw [h3] at a1; exact absurd a1 (by decide)
  · rw [h3] at a1; exact absurd a1 (by decide)
  have hend := a10 (Or.inl h3)
  have e1 : ix (M (b + 3) h) = p := by rw [a5]; exact q_ix (by omega)
  have e2 : ix (M (b + 5) h) = s := by rw [a7]; exact q_ix (by omega)
  have e3 : ix (M t 0) = n := by rw [hn]; exact q_ix (by omega)
  have ch : sp_c M b h = h + 3 := by unfold sp_c; rw [h3, hl]; simp
  unfold sp_finish at fr ⊢
  dsimp only at fr ⊢
  rw [e1, e2, e3, a6, a8, nI_1] at fr ⊢
  generalize hM3 : zup (zup (zup M (b + 7) (h * 8 + p) (M (b + 7) (h * 8 + p) + 1)) (b + 1) h 2) (b + 4) h (nI (u + 1)) = M3 at fr ⊢
  have fr3 : sp_fr b M M3 := by
    rw [← hM3]
    exact ((sp_fr.up (i := 7) (by omega) (by omega)).tr (sp_fr.up (i := 1) (by omega) (by omega))).tr (sp_fr.up (i := 4) (by omega) (by omega))
  have r0 : ∀ j, M3 b j = M b j := fun j => by rw [← hM3]; simp (disch := omega) only [zup_ne]
  have r1 : M3 (b + 1) h = 2 := by rw [← hM3]; simp (disch := omega) only [zup_ne, zup_eq, upd_eq]
  have r4 : M3 (b + 4) h = nI (u + 1) := by rw [← hM3]; simp (disch := omega) only [zup_ne, zup_eq, upd_eq]
  have r2 : ∀ j, M3 (b + 2) j = M (b + 2) j := fun j => by rw [← hM3]; simp (disch := omega) only [zup_ne]
  have r3 : ∀ j, M3 (b + 3) j = M (b + 3) j := fun j => by rw [← hM3]; simp (disch := omega) only [zup_ne]
  have r5 : ∀ j, M3 (b + 5) j = M (b + 5) j := fun j => by rw [← hM3]; simp (disch := omega) only [zup_ne]
  have rj : ∀ i j, 1 ≤ i → i ≤ 5 → j ≠ h → M3 (b + i) j = M (b + i) j := fun i j i1 i5 hj => by
    rw [← hM3]
    rcases (show i = 1 ∨ i = 2 ∨ i = 3 ∨ i = 4 ∨ i = 5 by omega) with rfl | rfl | rfl | rfl | rfl <;> simp (disch := omega) only [zup_ne, zup_eq, upd_ne]
  have r30 : b = 32 → M3 30 = M 30 := fun _ => by rw [← hM3]; simp (disch := omega) only [zup_ne]
  clear hM3
  by_cases c : nI (u + 1) < nI U
  · rw [if_pos c] at fr ⊢
    refine ⟨ok.of fr (by rw [r0]; exact hpl) (fun j hj => ?_) (sp_keep_log hg r30), ?_⟩
    · by_cases e : j = h
      · subst e
        refine Or.inr (Or.inr ⟨p, u + 1, s, U, a1, a2, ?_, a4, ?_, r4, ?_, ?_, Or.inl ⟨r1, ?_⟩, fun _ => ?_⟩)
        · exact (nI_ltI (by omega) (by omega)).mp c
        · rw [r3]; exact a5
        · rw [r5]; exact a7
        · rw [fr.told hb18 hd2 2 (by omega)]; exact a8
        · rw [r2]; exact hl
        · rw [fr.told hb18 hd2 4 (by omega)]; exact hend
      · exact (hhd j hj).moved (fr.told hb18 hd2) (fun i i1 i5 => rj i j i1 i5 e)
    · refine sp_sum_lt1 (h := h) ?_ (fun j e => sp_c_eq (rj 1 j (by omega) (by omega) e) (rj 2 j (by omega) (by omega) e)) H hh
      rw [ch]
      unfold sp_c
      rw [r1]
      simp
  · rw [if_neg c] at fr ⊢
    have hq1 := sp_pf_le (fun i => M (t + 2) (s * 8 + i)) (n - (p + 1)) (p + 1)
    have hq2 := sp_pf_pos (fun i => M (t + 2) (s * 8 + i)) (n - (p + 1)) (p + 1)
    generalize sp_pf (fun i => M (t + 2) (s * 8 + i)) (n - (p + 1)) (p + 1) = q at hq1 hq2 fr ⊢
    by_cases cq : q < n
    · rw [if_pos cq] at fr ⊢
      obtain ⟨U', hU6, hU⟩ := hun s q a2 cq
      have hq3 : 0 < nI U' := by rw [← hU]; exact hq2 (by omega)
      have hU0 : 0 < U' := (nI_0lt (by omega)).mp hq3
      refine ⟨ok.of fr ?_ (fun j hj => ?_) (sp_keep_log hg (fun h32 => ?_)), ?_⟩
      · simp (disch := omega) only [zup_ne]
        rw [r0]; exact hpl
      · by_cases e : j = h
        · subst e
          refine Or.inr (Or.inr ⟨q, 0, s, U', cq, a2, hU0, hU6, ?_, ?_, ?_, ?_, Or.inl ⟨?_, ?_⟩, fun d => ?_⟩)
          · simp (disch := omega) only [zup_ne, zup_eq, upd_eq]
          · simp (disch := omega) only [zup_ne, zup_eq, upd_eq]; rfl
          · simp (disch := omega) only [zup_ne, zup_eq, upd_eq]; rw [r5]; exact a7
          · rw [fr.told hb18 hd2 2 (by omega)]; exact hU
          · simp (disch := omega) only [zup_ne, zup_eq, upd_eq]; exact r1
          · simp (disch := omega) only [zup_ne, zup_eq, upd_eq]; rw [r2]; exact hl
          · simp (disch := omega) only [zup_ne, zup_eq, upd_eq, r1] at d
            rcases d with d | d
            · exact absurd d (by decide)
            · exact absurd d.1 (by omega)
        · refine (hhd j hj).moved (fr.told hb18 hd2) (fun i i1 i5 => ?_)
          rw [← rj i j i1 i5 e]
          rcases (show i = 1 ∨ i = 2 ∨ i = 3 ∨ i = 4 ∨ i = 5 by omega) with rfl | rfl | rfl | rfl | rfl <;> simp (disch := omega) only [zup_ne, zup_eq, upd_ne]
      · simp (disch := omega) only [zup_ne]
        exact r30 h32
      · refine sp_sum_lt1 (h := h) ?_ (fun j e => sp_c_eq ?_ ?_) H hh
        · rw [ch]
          unfold sp_c
          simp (disch := omega) only [zup_ne, r1]
          simp
        · simp (disch := omega) only [zup_ne]; exact rj 1 j (by omega) (by omega) e
        · simp (disch := omega) only [zup_ne]; exact rj 2 j (by omega) (by omega) e
    · rw [if_neg cq] at fr ⊢
      generalize hM4 : zup M3 b 3 (M b 3 + 1) = M4 at fr ⊢
      have s0 : M4 b 5 = M b 5 := by rw [← hM4]; simp (disch := omega) only [zup_eq, upd_ne, r0]
      have sj : ∀ i j, 1 ≤ i → M4 (b + i) j = M3 (b + i) j := fun i j i1 => by rw [← hM4]; simp (disch := omega) only [zup_ne]
      have st : ∀ i, i ≤ 4 → M4 (t + i) = M (t + i) := fun i hi => by rw [← hM4]; simp (disch := omega) only [zup_ne]; exact fr3.told hb18 hd2 i hi
      have st2 : M4 t 2 = nI wk := by rw [show M4 t = M t from st 0 (by omega)]; exact hwk
      have s30 : b = 32 → M4 30 = M 30 := fun h32 => by rw [← hM4]; simp (disch := omega) only [zup_ne]; exact r30 h32
      clear hM4
      have hp : 0 < h → M4 (b + 3) (h - 1) = -1 ∨ ∃ p, p < 8 ∧ M4 (b + 3) (h - 1) = nI p := fun h0 => by
        rw [sj 3 _ (by omega), r3]
        exact (hhd (h - 1) (by omega)).piece n8
      refine ⟨ok.of fr ?_ (fun j hj => ?_) (sp_keep_log hg (fun h32 => ?_)), ?_⟩
      · have := sp_goBack_at (t := t) (b := b) (h := h) (f := nI n) (M := M4) (i := 0) (j := 5) (Or.inl rfl)
        rw [Nat.add_zero] at this
        rw [this, s0]
        exact hpl
      · by_cases e : j = h
        · subst e
          exact sp_hd_goBack hb n8 st2 hwk5 hp
        · refine (hhd j hj).moved (fr.told hb18 hd2) (fun i i1 i5 => ?_)
          rw [sp_goBack_at (Or.inr (Or.inr e)), sj i j i1, rj i j i1 i5 e]
      · rw [show sp_goBack t b h (nI n) M4 30 = M4 30 by unfold sp_goBack; simp (disch := omega) only [zup_ne]]
        exact s30 h32
      · refine sp_sum_lt1 (h := h) ?_ (fun j e => sp_c_eq ?_ ?_) H hh
        · rw [ch]
          have := sp_c_goBack (t := t) (b := b) (h := h) (n := n) (M := M4) n8 st2 hwk5 hp
          omega
        · rw [sp_goBack_at (Or.inr (Or.inr e)), sj 1 j (by omega), rj 1 j (by omega) (by omega) e]
        · rw [sp_goBack_at (Or.inr (Or.inr e)), sj 2 j (by omega), rj 2 j (by omega) (by omega) e]

theorem sp_step_take {M : zMem} {t b n H L h : Nat} (ok : sp_ok M t b n H L) (h0 : 0 < h) (hh : h < H) (hr : M (b + 1) h = 0) (hl : M (b + 2) h = 0) (h2 : M (b + 1) (h - 1) = 2) (hc : sp_can t b (h - 1) M) : sp_ok (sp_take t b h M) t b n H L ∧ sp_sum (sp_c (sp_take t b h M) b) H < sp_sum (sp_c M b) H := by
  have fr := sp_fr_take (t := t) (b := b) (h := h) (M := M)
  obtain ⟨ht, hd2, hb18, vt, hpl, hhd, hg⟩ := id ok
  obtain ⟨⟨n1, n8, H1, H5, L1, L6⟩, hn, hH, hL, ⟨wk, hwk5, hwk⟩, -, -, -, hrow, hun, hpf, -, -, -, -⟩ := id vt
  have hb : t + 4 < b := by omega
  have hne : h - 1 ≠ h := by omega
  rcases hhd (h - 1) (by omega) with ⟨a1, -⟩ | ⟨a1, -⟩ | ⟨p, u, s, U, a1, a2, a3, a4, a5, a6, a7, a8, a9, a10⟩
  · rw [h2] at a1; exact absurd a1 (by decide)
  · rw [h2] at a1; exact absurd a1 (by decide)
  have chh : sp_c M b h = h + 2 := by unfold sp_c; rw [hr]; simp
  have ch1 : sp_c M b (h - 1) = 1 := by unfold sp_c; rw [h2]; simp
  -- the memory ahead of going back
  have key : ∃ M5 : zMem, sp_take t b h M = sp_goBack t b (h - 1) (nI p) M5 ∧ sp_fr b M M5 ∧ M5 b 5 = M b 5 ∧ M5 (b + 1) h = 2 ∧ (∀ j, M5 (b + 2) j = M (b + 2) j) ∧ M5 (b + 3) h = nI p ∧ M5 (b + 4) h = nI u ∧ M5 (b + 5) h = nI s ∧ (∀ i j, 1 ≤ i → i ≤ 5 → j ≠ h → M5 (b + i) j = M (b + i) j) ∧ (∀ g, zlg b = some g → ∃ z, M5 g 0 = nI z ∧ z ≤ 600) := by
    generalize hM5 : zup (zup (zup (zup (zup M (b + 1) h 2) (b + 3) h (nI p)) (b + 4) h (nI u)) (b + 5) h (nI s)) b 4 (M b 4 + 1) = M5
    have f5 : sp_fr b M M5 := by
      rw [← hM5]
      exact ((((sp_fr.up (i := 1) (by omega) (by omega)).tr (sp_fr.up (i := 3) (by omega) (by omega))).tr (sp_fr.up (i := 4) (by omega) (by omega))).tr (sp_fr.up (i := 5) (by omega) (by omega))).tr (sp_fr.up0 (by omega))
    have g0 : M5 b 5 = M b 5 := by rw [← hM5]; simp (disch := omega) only [zup_ne, zup_eq, upd_ne]
    have g1 : M5 (b + 1) h = 2 := by rw [← hM5]; simp (disch := omega) only [zup_ne, zup_eq, upd_eq]
    have g2 : ∀ j, M5 (b + 2) j = M (b + 2) j := fun j => by rw [← hM5]; simp (disch := omega) only [zup_ne]
    have g3 : M5 (b + 3) h = nI p := by rw [← hM5]; simp (disch := omega) only [zup_ne, zup_eq, upd_eq]
    have g4 : M5 (b + 4) h = nI u := by rw [← hM5]; simp (disch := omega) only [zup_ne, zup_eq, upd_eq]
    have g5 : M5 (b + 5) h = nI s := by rw [← hM5]; simp (disch := omega) only [zup_ne, zup_eq, upd_eq]
    have gj : ∀ i j, 1 ≤ i → i ≤ 5 → j ≠ h → M5 (b + i) j = M (b + i) j := fun i j i1 i5 hj => by
      rw [← hM5]
      rcases (show i = 1 ∨ i = 2 ∨ i = 3 ∨ i = 4 ∨ i = 5 by omega) with rfl | rfl | rfl | rfl | rfl <;> simp (disch := omega) only [zup_ne, zup_eq, upd_ne]
    have g30 : b = 32 → M5 30 = M 30 := fun _ => by rw [← hM5]; simp (disch := omega) only [zup_ne]
    unfold sp_take
    dsimp only
    rw [a5, a6, a7, hM5]
    rcases zlg_cases b with c | ⟨c, hb32⟩
    · rw [c]
      exact ⟨M5, rfl, f5, g0, g1, g2, g3, g4, g5, gj, fun g q => by cases q⟩
    · rw [c]
      dsimp only
      obtain ⟨z, z1, z2⟩ := hg 30 c
      have z3 : M5 30 0 = nI z := by rw [g30 hb32]; exact z1
      have nk : ∀ i, sp_note 30 (M b 2) (nI h) (nI p) (nI u) (nI s) M5 (b + i) = M5 (b + i) := fun i => e_note_ne (by omega) (by omega)
      have nk0 : sp_note 30 (M b 2) (nI h) (nI p) (nI u) (nI s) M5 b = M5 b := e_note_ne (by omega) (by omega)
      refine ⟨sp_note 30 (M b 2) (nI h) (nI p) (nI u) (nI s) M5, rfl, f5.tr (sp_fr_note c), by rw [nk0]; exact g0, by rw [nk]; exact g1, fun j => by rw [nk]; exact g2 j, by rw [nk]; exact g3, by rw [nk]; exact g4, by rw [nk]; exact g5, fun i j i1 i5 hj => by rw [nk]; exact gj i j i1 i5 hj, fun g q => ?_⟩
      cases q
      unfold sp_note
      rw [z3]
      by_cases cz : z < 600
      · rw [if_pos (show nI z < 600 from nI_lt (a := z) (b := 600) cz (by omega))]
        refine ⟨z + 1, ?_, by omega⟩
        simp (disch := omega) only [zup_eq, upd_eq, nI_1]
      · rw [if_neg (show ¬ nI z < 600 by rw [Int32.not_lt]; exact nI_le (a := 600) (by omega) (by omega))]
        exact ⟨z, z3, z2⟩
  obtain ⟨M5, eM5, f5, g0, g1, g2, g3, g4, g5, gj, g30⟩ := key
  rw [eM5] at fr ⊢
  have st2 : M5 t 2 = nI wk := by rw [show M5 t = M t from f5.told hb18 hd2 0 (by omega)]; exact hwk
  have hp : 0 < h - 1 → M5 (b + 3) (h - 1 - 1) = -1 ∨ ∃ p, p < 8 ∧ M5 (b + 3) (h - 1 - 1) = nI p := fun q0 => by
    rw [gj 3 _ (by omega) (by omega) (by omega)]
    exact (hhd (h - 1 - 1) (by omega)).piece n8
  refine ⟨ok.of fr ?_ (fun j hj => ?_) (fun g q => ?_), ?_⟩
  · have := sp_goBack_at (t := t) (b := b) (h := h - 1) (f := nI p) (M := M5) (i := 0) (j := 5) (Or.inl rfl)
    rw [Nat.add_zero] at this
    rw [this, g0]
    exact hpl
  · by_cases e : j = h
    · subst e
      have gb : ∀ i, sp_goBack t b (j - 1) (nI p) M5 (b + i) j = M5 (b + i) j := fun i => sp_goBack_at (Or.inr (Or.inr (by omega)))
      refine Or.inr (Or.inr ⟨p, u, s, U, a1, a2, a3, a4, ?_, ?_, ?_, ?_, Or.inl ⟨?_, ?_⟩, fun d => ?_⟩)
      · rw [gb]; exact g3
      · rw [gb]; exact g4
      · rw [gb]; exact g5
      · rw [fr.told hb18 hd2 2 (by omega)]; exact a8
      · rw [gb]; exact g1
      · rw [gb, g2]; exact hl
      · rw [gb, g1, show sp_goBack t b (j - 1) (nI p) M5 t = M t from fr.told hb18 hd2 0 (by omega)] at d
        rcases d with d | ⟨d1, d2⟩
        · exact absurd d (by decide)
        · refine absurd ⟨?_, ?_⟩ hc.1
          · rw [a6]; exact (nI_0lt (by omega)).mpr d1
          · rw [a5]; exact d2
    · by_cases e2 : j = h - 1
      · subst e2
        exact sp_hd_goBack hb (by omega) st2 hwk5 hp
      · refine (hhd j hj).moved (fr.told hb18 hd2) (fun i i1 i5 => ?_)
        rw [sp_goBack_at (Or.inr (Or.inr e2)), gj i j i1 i5 e]
  · obtain ⟨z, z1, z2⟩ := g30 g q
    rcases zlg_cases b with c | ⟨c, hb32⟩
    · rw [c] at q; cases q
    · rw [c] at q
      cases q
      refine ⟨z, ?_, z2⟩
      rw [show sp_goBack t b (h - 1) (nI p) M5 30 = M5 30 by unfold sp_goBack; simp (disch := omega) only [zup_ne]]
      exact z1
  · refine sp_sum_lt2 h0 ?_ (fun j e e2 => sp_c_eq ?_ ?_) H hh
    · rw [chh, ch1]
      have q1 : sp_c (sp_goBack t b (h - 1) (nI p) M5) b h = 1 := by
        unfold sp_c
        rw [sp_goBack_at (Or.inr (Or.inr (by omega))), g1]
        simp
      have q2 := sp_c_goBack (t := t) (b := b) (h := h - 1) (n := n) (M := M5) (f := p) (by omega) st2 hwk5 hp
      rw [q1]
      omega
    · rw [sp_goBack_at (Or.inr (Or.inr e2)), gj 1 j (by omega) (by omega) e]
    · rw [sp_goBack_at (Or.inr (Or.inr e2)), gj 2 j (by omega) (by omega) e]
theorem sp_step {M M' : zMem} {t b n H L h : Nat} (ok : sp_ok M t b n H L) (hh : h < H) (e : sp_hand t b h M = some M') : sp_ok M' t b n H L ∧ sp_sum (sp_c M' b) H < sp_sum (sp_c M b) H := by
  unfold sp_hand at e
  split at e
  · rename_i hl
    split at e
    · rename_i h3
      cases e; exact sp_step_finish ok hh h3 hl
    · split at e
      · rename_i hr
        split at e
        · rename_i h0
          subst h0
          cases e; exact sp_step_new ok hr hl
        · rename_i h0
          split at e
          · rename_i hc
            cases e; exact sp_step_take ok (by omega) hh hr hl hc.1 hc.2
          · cases e
      · split at e
        · rename_i h2
          split at e
          · rename_i hm
            cases e; exact sp_step_start ok hh h2 hm
          · cases e
        · cases e
  · cases e
