/-- how far a hand's coat is -/
def sp_f (M : zMem) (b h : Nat) : Nat := if M (b + 3) h < 0 then (if M (b + 1) h = 0 then 1 else 0) else 2 + 7 * ix (M (b + 3) h) + ix (M (b + 4) h) + 2 * h + (if M (b + 1) h = 3 ∧ M (b + 2) h = 0 then 1 else 0)
def sp_P (M : zMem) (b H : Nat) : Nat := 70 * ix (M b 3) + sp_sum (sp_f M b) H
theorem sp_f_eq {M M' : zMem} {b j : Nat} (h : ∀ i, 1 ≤ i → i ≤ 4 → M' (b + i) j = M (b + i) j) : sp_f M' b j = sp_f M b j := by
  unfold sp_f
  rw [h 1 (by omega) (by omega), h 2 (by omega) (by omega), h 3 (by omega) (by omega), h 4 (by omega) (by omega)]
theorem sp_f_no {M : zMem} {b h : Nat} (h3 : M (b + 3) h = -1) : sp_f M b h = if M (b + 1) h = 0 then 1 else 0 := by
  unfold sp_f
  rw [h3, if_pos (show (-1 : Int32) < 0 by decide)]
theorem sp_f_coat {M : zMem} {b h p u : Nat} (h3 : M (b + 3) h = nI p) (hp : p < 8) (h4 : M (b + 4) h = nI u) (hu : u < 7) : sp_f M b h = 2 + 7 * p + u + 2 * h + (if M (b + 1) h = 3 ∧ M (b + 2) h = 0 then 1 else 0) := by
  unfold sp_f
  rw [h3, if_neg (nI_pos (by omega)), h4, q_ix (by omega), q_ix (by omega)]
theorem sp_f_le {M : zMem} {t b n h : Nat} (hh : sp_hd M t b n h) (n8 : n ≤ 8) (h5 : h < 5) : sp_f M b h ≤ 66 := by
  rcases hh with ⟨a1, a2, a3⟩ | ⟨a1, a2, a3⟩ | ⟨p, u, s, U, a1, a2, a3, a4, a5, a6, -⟩
  · rw [sp_f_no a3]; split <;> omega
  · rw [sp_f_no a3]; split <;> omega
  · rw [sp_f_coat a5 (by omega) a6 (by omega)]; split <;> omega
theorem sp_sum_bound {c : Nat → Nat} {B : Nat} : ∀ H, (∀ j, j < H → c j ≤ B) → sp_sum c H ≤ B * H := by
  intro H
  induction H with
  | zero => intro _; exact Nat.le_refl _
  | succ H ih =>
    intro h
    unfold sp_sum
    have := ih (fun j hj => h j (by omega))
    have := h H (by omega)
    rw [Nat.mul_succ]
    omega
theorem sp_sum_le1 {c c' : Nat → Nat} {h d : Nat} (h1 : c h ≤ c' h + d) (h2 : ∀ j, j ≠ h → c' j = c j) : ∀ H, sp_sum c H ≤ sp_sum c' H + d := by
  intro H
  induction H with
  | zero => exact Nat.zero_le _
  | succ H ih =>
    unfold sp_sum
    by_cases e : h = H
    · subst e
      rw [sp_sum_eq (c := c) h (fun j hj => h2 j (by omega))]
      omega
    · rw [h2 H (fun q => e q.symm)]
      omega
theorem sp_sum_le2 {c c' : Nat → Nat} {h : Nat} (h0 : 0 < h) (h1 : c h + c (h - 1) ≤ c' h + c' (h - 1)) (h2 : ∀ j, j ≠ h → j ≠ h - 1 → c' j = c j) : ∀ H, h < H → sp_sum c H ≤ sp_sum c' H := by
  intro H
  induction H with
  | zero => intro hh; omega
  | succ H ih =>
    intro hh
    unfold sp_sum
    by_cases e : h = H
    · subst e
      obtain ⟨k, rfl⟩ : ∃ k, h = k + 1 := ⟨h - 1, by omega⟩
      unfold sp_sum
      rw [sp_sum_eq (c := c) k (fun j hj => h2 j (by omega) (by omega))]
      simp only [Nat.add_sub_cancel] at h1
      omega
    · have := ih (by omega)
      rw [h2 H (fun q => e q.symm) (by omega)]
      omega
/-- how many are done, and how many can still become done at this tick -/
def sp_db (M : zMem) (b H C : Nat) : Prop := ∃ dn, M b 3 = nI dn ∧ dn + sp_sum (sp_c M b) H ≤ C
set_option maxHeartbeats 1000000 in
theorem sp_P_hand {t b n H L h C : Nat} {M M' : zMem} (hC : C < 2147483000) (ok : sp_ok M t b n H L) (hh : h < H) (e : sp_hand t b h M = some M') (hd : sp_db M b H C) : sp_db M' b H C ∧ sp_P M b H ≤ sp_P M' b H := by
  obtain ⟨-, hs⟩ := sp_step ok hh e
  obtain ⟨dn, d1, d2⟩ := hd
  obtain ⟨ht, hd2, hb18, vt, hpl, hhd, hg⟩ := id ok
  obtain ⟨⟨n1, n8, H1, H5, L1, L6⟩, hn, hH, hL, -, -, -, -, hrow, hun, hpf, -, -, -, -⟩ := id vt
  have hb : t + 4 < b := by omega
  unfold sp_P
  have same : ∀ (X : zMem), X b 3 = M b 3 → sp_sum (sp_c X b) H < sp_sum (sp_c M b) H → sp_sum (sp_f M b) H ≤ sp_sum (sp_f X b) H → sp_db X b H C ∧ 70 * ix (M b 3) + sp_sum (sp_f M b) H ≤ 70 * ix (X b 3) + sp_sum (sp_f X b) H := fun X x1 x2 x3 => by
    rw [x1]
    exact ⟨⟨dn, by rw [x1]; exact d1, by omega⟩, by omega⟩
  unfold sp_hand at e
  split at e
  · rename_i hl
    split at e
    · rename_i h3
      cases e
      -- a unit is finished
      rcases hhd h hh with ⟨a1, -⟩ | ⟨a1, -⟩ | ⟨p, u, s, U, a1, a2, a3, a4, a5, a6, a7, a8, a9, a10⟩
      · rw [h3] at a1; exact absurd a1 (by decide)
      · rw [h3] at a1; exact absurd a1 (by decide)
      have e1 : ix (M (b + 3) h) = p := by rw [a5]; exact q_ix (by omega)
      have e2 : ix (M (b + 5) h) = s := by rw [a7]; exact q_ix (by omega)
      have e3 : ix (M t 0) = n := by rw [hn]; exact q_ix (by omega)
      have fh : sp_f M b h = 3 + 7 * p + u + 2 * h := by rw [sp_f_coat a5 (by omega) a6 (by omega), if_pos ⟨h3, hl⟩]; omega
      unfold sp_finish at hs ⊢
      dsimp only at hs ⊢
      rw [e1, e2, e3, a6, a8, nI_1] at hs ⊢
      generalize hM3 : zup (zup (zup M (b + 7) (h * 8 + p) (M (b + 7) (h * 8 + p) + 1)) (b + 1) h 2) (b + 4) h (nI (u + 1)) = M3 at hs ⊢
      have r0 : M3 b 3 = M b 3 := by rw [← hM3]; simp (disch := omega) only [zup_ne]
      have r1 : M3 (b + 1) h = 2 := by rw [← hM3]; simp (disch := omega) only [zup_ne, zup_eq, upd_eq]
      have r3 : M3 (b + 3) h = nI p := by rw [← hM3]; simp (disch := omega) only [zup_ne]; exact a5
      have r4 : M3 (b + 4) h = nI (u + 1) := by rw [← hM3]; simp (disch := omega) only [zup_ne, zup_eq, upd_eq]
      have rj : ∀ i j, 1 ≤ i → i ≤ 4 → j ≠ h → M3 (b + i) j = M (b + i) j := fun i j i1 i5 hj => by
        rw [← hM3]
        rcases (show i = 1 ∨ i = 2 ∨ i = 3 ∨ i = 4 by omega) with rfl | rfl | rfl | rfl <;> simp (disch := omega) only [zup_ne, zup_eq, upd_ne]
      clear hM3
      by_cases c : nI (u + 1) < nI U
      · rw [if_pos c] at hs ⊢
        refine same _ r0 hs (sp_sum_le1 (d := 0) (h := h) ?_ (fun j e => sp_f_eq (fun i i1 i4 => rj i j i1 i4 e)) H)
        rw [fh, sp_f_coat r3 (by omega) r4 (by omega)]
        omega
      · rw [if_neg c] at hs ⊢
        have hq1 := sp_pf_le (fun i => M (t + 2) (s * 8 + i)) (n - (p + 1)) (p + 1)
        generalize sp_pf (fun i => M (t + 2) (s * 8 + i)) (n - (p + 1)) (p + 1) = q at hq1 hs ⊢
        by_cases cq : q < n
        · rw [if_pos cq] at hs ⊢
          refine same _ (by simp (disch := omega) only [zup_ne]; exact r0) hs (sp_sum_le1 (d := 0) (h := h) ?_ (fun j e => sp_f_eq (fun i i1 i4 => ?_)) H)
          · rw [fh, sp_f_coat (p := q) (u := 0) (by simp (disch := omega) only [zup_ne, zup_eq, upd_eq]) (by omega) (by simp (disch := omega) only [zup_eq, upd_eq]; rfl) (by omega)]
            omega
          · rw [← rj i j i1 i4 e]
            rcases (show i = 1 ∨ i = 2 ∨ i = 3 ∨ i = 4 by omega) with rfl | rfl | rfl | rfl <;> simp (disch := omega) only [zup_ne, zup_eq, upd_ne]
        · rw [if_neg cq] at hs ⊢
          have x3 : sp_goBack t b h (nI n) (zup M3 b 3 (M b 3 + 1)) b 3 = nI (dn + 1) := by
            rw [sp_goBack_b]
            simp (disch := omega) only [zup_eq, upd_eq]
            rw [d1, nI_1]
          refine ⟨⟨dn + 1, x3, by omega⟩, ?_⟩
          have y1 : ix (M b 3) = dn := by rw [d1]; exact q_ix (by omega)
          have y2 : ix (sp_goBack t b h (nI n) (zup M3 b 3 (M b 3 + 1)) b 3) = dn + 1 := by rw [x3]; exact q_ix (by omega)
          rw [y1, y2]
          have := sp_sum_le1 (c := sp_f M b) (c' := sp_f (sp_goBack t b h (nI n) (zup M3 b 3 (M b 3 + 1))) b) (h := h) (d := 66) ?_ (fun j e => sp_f_eq (fun i i1 i4 => ?_)) H
          · omega
          · rw [fh]; omega
          · rw [sp_goBack_at (Or.inr (Or.inr e)), ← rj i j i1 i4 e]
            simp (disch := omega) only [zup_ne]
    · split at e
      · rename_i hr
        split at e
        · rename_i h0
          subst h0
          cases e
          -- a new coat
          obtain ⟨pl, hpl1, hpl2⟩ := hpl
          obtain ⟨s, hs3, hs1⟩ := hrow pl hpl1
          have e1 : ix (M b 5) = pl := by rw [hpl2]; exact q_ix (by omega)
          have e2 : ix (M (t + 1) pl) = s := by rw [hs1]; exact q_ix (by omega)
          have e3 : ix (M t 0) = n := by rw [hn]; exact q_ix (by omega)
          have hq := hpf s hs3
          generalize hqd : sp_pf (fun i => M (t + 2) (s * 8 + i)) n 0 = q at hq
          have f0 : sp_f M b 0 ≤ 1 := by
            rcases hhd 0 hh with ⟨a1, a2, a3⟩ | ⟨a1, a2, a3⟩ | ⟨p, u, s, U, a1, a2, a3, a4, a5, a6, a7, a8, a9, a10⟩
            · rw [sp_f_no a3]; split <;> omega
            · rw [sp_f_no a3]; split <;> omega
            · rcases a9 with ⟨a9, -⟩ | ⟨a9, -⟩
              · rw [hr] at a9; exact absurd a9 (by decide)
              · rw [hr] at a9; exact absurd a9 (by decide)
          refine same _ (by unfold sp_new; simp (disch := omega) only [zup_ne, zup_eq, upd_ne]) hs (sp_sum_le1 (d := 0) (h := 0) ?_ (fun j e => sp_f_eq (fun i i1 i4 => ?_)) H)
          · rw [sp_f_coat (M := sp_new t b M) (p := q) (u := 0) ?_ (by omega) ?_ (by omega)]
            · omega
            · unfold sp_new
              simp (disch := omega) only [zup_ne, zup_eq, upd_eq]
              rw [e1, e2, e3, hqd]
            · unfold sp_new
              simp (disch := omega) only [zup_ne, zup_eq, upd_eq]
              rfl
          · unfold sp_new
            rcases (show i = 1 ∨ i = 2 ∨ i = 3 ∨ i = 4 by omega) with rfl | rfl | rfl | rfl <;> simp (disch := omega) only [zup_ne, zup_eq, upd_ne]
        · rename_i h0
          split at e
          · rename_i hc
            cases e
            -- a coat is taken over
            have hne : h - 1 ≠ h := by omega
            rcases hhd (h - 1) (by omega) with ⟨a1, -⟩ | ⟨a1, -⟩ | ⟨p, u, s, U, a1, a2, a3, a4, a5, a6, a7, a8, a9, a10⟩
            · rw [hc.1] at a1; exact absurd a1 (by decide)
            · rw [hc.1] at a1; exact absurd a1 (by decide)
            have f0 : sp_f M b h ≤ 1 := by
              rcases hhd h hh with ⟨a1, a2, a3⟩ | ⟨a1, a2, a3⟩ | ⟨p, u, s, U, a1, a2, a3, a4, a5, a6, a7, a8, a9, a10⟩
              · rw [sp_f_no a3]; split <;> omega
              · rw [sp_f_no a3]; split <;> omega
              · rcases a9 with ⟨a9, -⟩ | ⟨a9, -⟩
                · rw [hr] at a9; exact absurd a9 (by decide)
                · rw [hr] at a9; exact absurd a9 (by decide)
            have f1 : sp_f M b (h - 1) = 2 + 7 * p + u + 2 * (h - 1) := by
              rw [sp_f_coat a5 (by omega) a6 (by omega), if_neg (fun q => by rw [hc.1] at q; exact absurd q.1 (by decide))]
              omega
            have key : ∃ M6 : zMem, sp_take t b h M = sp_goBack t b (h - 1) (nI p) M6 ∧ M6 b 3 = M b 3 ∧ M6 (b + 3) h = nI p ∧ M6 (b + 4) h = nI u ∧ (∀ i j, 1 ≤ i → i ≤ 4 → j ≠ h → M6 (b + i) j = M (b + i) j) := by
              unfold sp_take
              rw [a5, a6, a7]
              rcases zlg_cases b with c | ⟨c, hb32⟩
              · rw [c]
                refine ⟨_, rfl, ?_, ?_, ?_, fun i j i1 i4 e => ?_⟩
                · simp (disch := omega) only [zup_ne, zup_eq, upd_ne]
                · simp (disch := omega) only [zup_ne, zup_eq, upd_eq]
                · simp (disch := omega) only [zup_ne, zup_eq, upd_eq]
                · rcases (show i = 1 ∨ i = 2 ∨ i = 3 ∨ i = 4 by omega) with rfl | rfl | rfl | rfl <;> simp (disch := omega) only [zup_ne, zup_eq, upd_ne]
              · rw [c]
                refine ⟨_, rfl, ?_, ?_, ?_, fun i j i1 i4 e => ?_⟩
                · rw [e_note_ne (by omega) (by omega)]; simp (disch := omega) only [zup_ne, zup_eq, upd_ne]
                · rw [e_note_ne (by omega) (by omega)]; simp (disch := omega) only [zup_ne, zup_eq, upd_eq]
                · rw [e_note_ne (by omega) (by omega)]; simp (disch := omega) only [zup_ne, zup_eq, upd_eq]
                · rw [e_note_ne (by omega) (by omega)]
                  rcases (show i = 1 ∨ i = 2 ∨ i = 3 ∨ i = 4 by omega) with rfl | rfl | rfl | rfl <;> simp (disch := omega) only [zup_ne, zup_eq, upd_ne]
            obtain ⟨M6, k1, k2, k3, k4, k5⟩ := key
            rw [k1] at hs ⊢
            have gb : ∀ i, sp_goBack t b (h - 1) (nI p) M6 (b + i) h = M6 (b + i) h := fun i => sp_goBack_at (Or.inr (Or.inr (by omega)))
            refine same _ (by rw [sp_goBack_b]; exact k2) hs (sp_sum_le2 (h := h) (by omega) ?_ (fun j e e2 => sp_f_eq (fun i i1 i4 => ?_)) H hh)
            · rw [sp_f_coat (M := sp_goBack t b (h - 1) (nI p) M6) (b := b) (h := h) (by rw [gb]; exact k3) (by omega) (by rw [gb]; exact k4) (by omega), f1]
              omega
            · rw [sp_goBack_at (Or.inr (Or.inr e2)), k5 i j i1 i4 e]
          · cases e
      · split at e
        · rename_i h2
          split at e
          · cases e
            -- a unit is begun
            rcases hhd h hh with ⟨a1, -⟩ | ⟨a1, -⟩ | ⟨p, u, s, U, a1, a2, a3, a4, a5, a6, a7, a8, a9, a10⟩
            · rw [h2] at a1; exact absurd a1 (by decide)
            · rw [h2] at a1; exact absurd a1 (by decide)
            refine same _ ?_ hs (sp_sum_le1 (d := 0) (h := h) ?_ (fun j e => sp_f_eq (fun i i1 i4 => sp_start_ne e)) H)
            · unfold sp_start; simp (disch := omega) only [zup_ne]
            · rw [sp_f_coat a5 (by omega) a6 (by omega), if_neg (fun q => by rw [h2] at q; exact absurd q.1 (by decide)), sp_f_coat (by rw [sp_start_at (by omega) (by omega)]; exact a5) (by omega) (by rw [sp_start_at (by omega) (by omega)]; exact a6) (by omega)]
              omega
          · cases e
        · cases e
  · cases e
