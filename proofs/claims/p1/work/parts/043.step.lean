def sp_c (M : zMem) (b h : Nat) : Nat := if M (b + 1) h = 0 then h + 2 else if M (b + 1) h = 2 then 1 else if M (b + 1) h = 3 ∧ M (b + 2) h = 0 then h + 3 else 0
def sp_sum (c : Nat → Nat) : Nat → Nat
  | 0 => 0
  | h + 1 => c h + sp_sum c h
theorem sp_sum_eq {c c' : Nat → Nat} : ∀ H, (∀ j, j < H → c' j = c j) → sp_sum c' H = sp_sum c H := by
  intro H
  induction H with
  | zero => intro _; rfl
  | succ H ih =>
    intro h
    unfold sp_sum
    rw [h H (by omega), ih (fun j hj => h j (by omega))]
theorem sp_sum_lt1 {c c' : Nat → Nat} {h : Nat} (h1 : c' h < c h) (h2 : ∀ j, j ≠ h → c' j = c j) : ∀ H, h < H → sp_sum c' H < sp_sum c H := by
  intro H
  induction H with
  | zero => intro hh; omega
  | succ H ih =>
    intro hh
    unfold sp_sum
    by_cases e : h = H
    · subst e
      rw [sp_sum_eq (c := c) h (fun j hj => h2 j (by omega))]
      omega
    · have := ih (by omega)
      rw [h2 H (fun q => e q.symm)]
      omega
theorem sp_sum_lt2 {c c' : Nat → Nat} {h : Nat} (h0 : 0 < h) (h1 : c' h + c' (h - 1) < c h + c (h - 1)) (h2 : ∀ j, j ≠ h → j ≠ h - 1 → c' j = c j) : ∀ H, h < H → sp_sum c' H < sp_sum c H := by
  intro H
  induction H with
  | zero => intro hh; omega
  | succ H ih =>
    intro hh
    unfold sp_sum
    by_cases e : h = H
    · subst e
      obtain ⟨k, rfl⟩ : ∃ k, h = k + 1 := ⟨h - 1, by omega⟩
      unfold sp_sum
      rw [sp_sum_eq (c := c) k (fun j hj => h2 j (by omega) (by omega))]
      simp only [Nat.add_sub_cancel] at h1
      omega
    · have := ih (by omega)
      rw [h2 H (fun q => e q.symm) (by omega)]
      omega
theorem sp_c_eq {M M' : zMem} {b j : Nat} (h1 : M' (b + 1) j = M (b + 1) j) (h2 : M' (b + 2) j = M (b + 2) j) : sp_c M' b j = sp_c M b j := by
  unfold sp_c
  rw [h1, h2]
/-- what stays: the place in the row is well, the log is well -/
theorem sp_ok.of {M M' : zMem} {t b n H L : Nat} (ok : sp_ok M t b n H L) (fr : sp_fr b M M') (hpl : ∃ pl, pl < L ∧ M' b 5 = nI pl) (hhd : ∀ h, h < H → sp_hd M' t b n h) (hg : ∀ g, zlg b = some g → ∃ z, M' g 0 = nI z ∧ z ≤ 600) : sp_ok M' t b n H L := by
  obtain ⟨ht, hd2, hb18, vt, -, -, -⟩ := ok
  exact ⟨by rw [fr.2]; exact ht, hd2, hb18, vt.moved (fr.told hb18 hd2), hpl, hhd, hg⟩
theorem sp_step_start {M : zMem} {t b n H L h : Nat} (ok : sp_ok M t b n H L) (hh : h < H) (h2 : M (b + 1) h = 2) (hm : sp_may t b h M) : sp_ok (sp_start t b h M) t b n H L ∧ sp_sum (sp_c (sp_start t b h M) b) H < sp_sum (sp_c M b) H := by
  have fr := sp_fr_start (t := t) (b := b) (h := h) (M := M)
  obtain ⟨ht, hd2, hb18, vt, hpl, hhd, hg⟩ := id ok
  have hb : t + 4 < b := by omega
  have q1 : ∀ i j, i ≠ 1 → i ≠ 2 → sp_start t b h M (b + i) j = M (b + i) j := fun i j a c => by
    unfold sp_start
    simp (disch := omega) only [q_lit, q_add, q_mul, q_sub, q_ix, q_in, q_lt, q_le, q_eq, q_nlt, q_nle, q_ltn, q_len, q_neq, q_eqn, zup_ne, zup_eq, zset_ne, zset_eq, upd_eq, upd_ne, forall_eq, true_and, and_true, true_implies, false_implies, implies_true, not_true_eq_false, not_false_eq_true, and_self, ↓reduceIte, false_and, and_false]
  have q2 : ∀ i j, j ≠ h → sp_start t b h M (b + i) j = M (b + i) j := fun i j a => by
    by_cases c1 : i = 1
    · subst c1; unfold sp_start; simp (disch := omega) only [q_lit, q_add, q_mul, q_sub, q_ix, q_in, q_lt, q_le, q_eq, q_nlt, q_nle, q_ltn, q_len, q_neq, q_eqn, zup_ne, zup_eq, zset_ne, zset_eq, upd_eq, upd_ne, forall_eq, true_and, and_true, true_implies, false_implies, implies_true, not_true_eq_false, not_false_eq_true, and_self, ↓reduceIte, false_and, and_false]
    · by_cases c2 : i = 2
      · subst c2; unfold sp_start; simp (disch := omega) only [q_lit, q_add, q_mul, q_sub, q_ix, q_in, q_lt, q_le, q_eq, q_nlt, q_nle, q_ltn, q_len, q_neq, q_eqn, zup_ne, zup_eq, zset_ne, zset_eq, upd_eq, upd_ne, forall_eq, true_and, and_true, true_implies, false_implies, implies_true, not_true_eq_false, not_false_eq_true, and_self, ↓reduceIte, false_and, and_false]
      · exact q1 i j c1 c2
  have q3 : sp_start t b h M (b + 1) h = 3 := by unfold sp_start; simp (disch := omega) only [zup_ne, zup_eq, upd_eq]
  have q4 : 0 < sp_start t b h M (b + 2) h := by
    unfold sp_start
    simp (disch := omega) only [zup_eq, upd_eq]
    exact sp_ticks_pos _ _ _ _ _
  refine ⟨ok.of fr ?_ ?_ ?_, ?_⟩
  · have e := q1 0 5 (by omega) (by omega)
    rw [Nat.add_zero] at e
    rw [e]
    exact hpl
  · intro j hj
    by_cases e : j = h
    · subst e
      rcases hhd j hj with ⟨a1, -⟩ | ⟨a1, -⟩ | ⟨p, u, s, U, a1, a2, a3, a4, a5, a6, a7, a8, a9, a10⟩
      · rw [h2] at a1; exact absurd a1 (by decide)
      · rw [h2] at a1; exact absurd a1 (by decide)
      · refine Or.inr (Or.inr ⟨p, u, s, U, a1, a2, a3, a4, ?_, ?_, ?_, ?_, Or.inr ⟨q3, Int32.le_of_lt q4⟩, fun _ => ?_⟩)
        · rw [q1 3 j (by omega) (by omega)]; exact a5
        · rw [q1 4 j (by omega) (by omega)]; exact a6
        · rw [q1 5 j (by omega) (by omega)]; exact a7
        · rw [fr.told hb18 hd2 2 (by omega)]; exact a8
        · rw [fr.told hb18 hd2 4 (by omega), ← a5]; exact hm.1
    · exact (hhd j hj).moved (fr.told hb18 hd2) (fun i _ _ => q2 i j e)
  · intro g hg1
    rcases zlg_cases b with c | ⟨c, hb32⟩
    · rw [c] at hg1; cases hg1
    · rw [c] at hg1
      cases hg1
      obtain ⟨z, z1, z2⟩ := hg 30 c
      refine ⟨z, ?_, z2⟩
      unfold sp_start
      simp (disch := omega) only [zup_ne]
      exact z1
  · refine sp_sum_lt1 (h := h) ?_ (fun j e => sp_c_eq (q2 1 j e) (q2 2 j e)) H hh
    unfold sp_c
    rw [q3, h2]
    have : ¬ sp_start t b h M (b + 2) h = 0 := fun e => by rw [e] at q4; exact absurd q4 (by decide)
    simp [this]
