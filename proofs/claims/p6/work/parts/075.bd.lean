/-- what is left is small, what was learnt counts -/
def sp_bd (M : zMem) (b H C : Nat) : Prop := (∀ h, h < H → ∃ l, l ≤ 40 ∧ M (b + 2) h = nI l) ∧ (∀ j, j < 40 → ∃ l, M (b + 7) j = nI l ∧ l + sp_sum (sp_c M b) H ≤ C)
theorem sp_ticks_9 {t h p n H L l : Nat} {ld : Int32} {M : zMem} (vt : sp_vt M t n H L) (hh : h < H) (hp : p < n) (hl : ld = nI l) (hl2 : l < 2147483648) : ∃ z, z ≤ 40 ∧ sp_ticks t h p ld M = nI z := by
  obtain ⟨-, -, -, -, -, ⟨le, le9, hle⟩, -, -, -, -, -, hpa, -, -, -⟩ := vt
  obtain ⟨c, c1, c9, hc⟩ := hpa h p hh hp
  unfold sp_ticks
  rw [hc, hle, hl]
  have key : ∀ v : Int32, ((∃ a b : Nat, a ≤ 9 ∧ b < 2147483648 ∧ v = nI a - nI b) → ∃ z, z ≤ 40 ∧ (if v < 1 then 1 else v) = nI z) := by
    rintro v ⟨a, b, ha, hb, rfl⟩
    rcases Nat.le_total b a with q | q
    · rw [q_sub q]
      by_cases z : nI (a - b) < 1
      · rw [if_pos z]; exact ⟨1, by omega, rfl⟩
      · rw [if_neg z]; exact ⟨a - b, by omega, rfl⟩
    · by_cases z : a = b
      · subst z
        rw [q_sub (Nat.le_refl _), Nat.sub_self, if_pos (by decide)]
        exact ⟨1, by omega, rfl⟩
      · have : nI a - nI b = -nI (b - a) := by rw [← q_sub q, Int32.neg_sub]
        rw [this, if_pos ?_]
        · exact ⟨1, by omega, rfl⟩
        · rw [Int32.lt_iff_toInt_lt, q_negT (by omega)]
          have : (1 : Int32).toInt = 1 := by decide
          omega
  by_cases c0 : 0 < nI le
  · have h0 : 0 < le := (nI_0lt (by omega)).mp c0
    dsimp only
    rw [if_pos c0, pk_div hl2 h0 (by omega)]
    refine key _ ⟨c, l / le, c9, ?_, rfl⟩
    exact Nat.lt_of_le_of_lt (Nat.div_le_self l le) hl2
  · dsimp only
    rw [if_neg c0]
    refine key _ ⟨c, 0, c9, by omega, ?_⟩
    rw [q_sub (Nat.zero_le _), Nat.sub_zero]
theorem sp_hand_bd {t b n H L h C : Nat} {M M' : zMem} (hC : C < 2147483000) (ok : sp_ok M t b n H L) (hh : h < H) (e : sp_hand t b h M = some M') (bd : sp_bd M b H C) : sp_bd M' b H C := by
  obtain ⟨-, hs⟩ := sp_step ok hh e
  obtain ⟨b1, b2⟩ := bd
  obtain ⟨ht, hd2, hb18, vt, hpl, hhd, hg⟩ := id ok
  obtain ⟨⟨n1, n8, H1, H5, L1, L6⟩, hn, hH, hL, ⟨wk, hwk5, hwk⟩, -, -, -, hrow, hun, hpf, -, -, -, -⟩ := id vt
  have hb : t + 4 < b := by omega
  have same : ∀ X : zMem, X (b + 7) = M (b + 7) → sp_sum (sp_c X b) H < sp_sum (sp_c M b) H → (∀ j, j < H → ∃ l, l ≤ 40 ∧ X (b + 2) j = nI l) → sp_bd X b H C := fun X x7 xs x2 => by
    refine ⟨x2, fun j hj => ?_⟩
    obtain ⟨l, l1, l2⟩ := b2 j hj
    exact ⟨l, by rw [x7]; exact l1, by omega⟩
  have gb7 : ∀ (f : Int32) (j : Nat) (X : zMem), sp_goBack t b j f X (b + 7) = X (b + 7) := fun f j X => by
    unfold sp_goBack
    simp (disch := omega) only [zup_ne]
  have gb2 : ∀ (j f : Nat) (X : zMem), f ≤ 8 → X t 2 = nI wk → (0 < j → X (b + 3) (j - 1) = -1 ∨ ∃ p, p < 8 ∧ X (b + 3) (j - 1) = nI p) → (∀ i, i < H → ∃ l, l ≤ 40 ∧ X (b + 2) i = nI l) → ∀ i, i < H → ∃ l, l ≤ 40 ∧ sp_goBack t b j (nI f) X (b + 2) i = nI l := fun j f X hf x2 xp xl i hi => by
    by_cases c : i = j
    · subst c
      obtain ⟨z, hz, ez⟩ := sp_wl_nn (b := b) hf x2 hwk5 xp
      refine ⟨z, hz, ?_⟩
      unfold sp_goBack
      simp (disch := omega) only [zup_ne, zup_eq, upd_eq]
      exact ez
    · rw [sp_goBack_at (Or.inr (Or.inr c))]
      exact xl i hi
  unfold sp_hand at e
  split at e
  · rename_i hl
    split at e
    · rename_i h3
      cases e
      rcases hhd h hh with ⟨a1, -⟩ | ⟨a1, -⟩ | ⟨p, u, s, U, a1, a2, a3, a4, a5, a6, a7, a8, a9, a10⟩
      · rw [h3] at a1; exact absurd a1 (by decide)
      · rw [h3] at a1; exact absurd a1 (by decide)
      have e1 : ix (M (b + 3) h) = p := by rw [a5]; exact q_ix (by omega)
      have lrn : ∀ X : zMem, X (b + 7) = upd (M (b + 7)) (h * 8 + p) (M (b + 7) (h * 8 + p) + 1) → sp_sum (sp_c X b) H < sp_sum (sp_c M b) H → ∀ j, j < 40 → ∃ l, X (b + 7) j = nI l ∧ l + sp_sum (sp_c X b) H ≤ C := fun X x7 xs j hj => by
        rw [x7]
        by_cases c : j = h * 8 + p
        · subst c
          obtain ⟨l, l1, l2⟩ := b2 (h * 8 + p) hj
          exact ⟨l + 1, by rw [upd_eq, l1, nI_1], by omega⟩
        · obtain ⟨l, l1, l2⟩ := b2 j hj
          exact ⟨l, by rw [upd_ne c]; exact l1, by omega⟩
      have e3 : ix (M t 0) = n := by rw [hn]; exact q_ix (by omega)
      unfold sp_finish at hs ⊢
      dsimp only at hs ⊢
      rw [e1, e3] at hs ⊢
      generalize hM3 : zup (zup (zup M (b + 7) (h * 8 + p) (M (b + 7) (h * 8 + p) + 1)) (b + 1) h 2) (b + 4) h (M (b + 4) h + 1) = M3 at hs ⊢
      have r7 : M3 (b + 7) = upd (M (b + 7)) (h * 8 + p) (M (b + 7) (h * 8 + p) + 1) := by rw [← hM3]; simp (disch := omega) only [zup_ne, zup_eq]
      have r2 : M3 (b + 2) = M (b + 2) := by rw [← hM3]; simp (disch := omega) only [zup_ne]
      have r3 : M3 (b + 3) = M (b + 3) := by rw [← hM3]; simp (disch := omega) only [zup_ne]
      have rt : M3 t 2 = nI wk := by rw [← hM3]; simp (disch := omega) only [zup_ne]; exact hwk
      clear hM3
      split at hs
      · rename_i c
        rw [if_pos c]
        exact ⟨by rw [r2]; exact b1, lrn _ r7 hs⟩
      · rename_i c
        rw [if_neg c]
        split at hs
        · rename_i c2
          rw [if_pos c2]
          refine ⟨?_, lrn _ ?_ hs⟩
          · simp (disch := omega) only [zup_ne]
            rw [r2]; exact b1
          · simp (disch := omega) only [zup_ne]
            exact r7
        · rename_i c2
          rw [if_neg c2]
          refine ⟨gb2 h n _ n8 ?_ (fun z0 => ?_) ?_, lrn _ ?_ hs⟩
          · simp (disch := omega) only [zup_ne]; exact rt
          · simp (disch := omega) only [zup_ne]
            rw [r3]
            exact (hhd (h - 1) (by omega)).piece n8
          · simp (disch := omega) only [zup_ne]
            rw [r2]; exact b1
          · rw [gb7]
            simp (disch := omega) only [zup_ne]
            exact r7
    · split at e
      · split at e
        · cases e
          refine same _ ?_ hs ?_
          · unfold sp_new; simp (disch := omega) only [zup_ne]
          · unfold sp_new; simp (disch := omega) only [zup_ne]; exact b1
        · rename_i h0
          split at e
          · rename_i hc
            cases e
            rcases hhd (h - 1) (by omega) with ⟨a1, -⟩ | ⟨a1, -⟩ | ⟨p, u, s, U, a1, a2, a3, a4, a5, a6, a7, a8, a9, a10⟩
            · rw [hc.1] at a1; exact absurd a1 (by decide)
            · rw [hc.1] at a1; exact absurd a1 (by decide)
            have key : ∃ X6 : zMem, sp_take t b h M = sp_goBack t b (h - 1) (nI p) X6 ∧ X6 (b + 7) = M (b + 7) ∧ X6 t 2 = nI wk ∧ X6 (b + 2) = M (b + 2) ∧ (∀ j, j ≠ h → X6 (b + 3) j = M (b + 3) j) := by
              unfold sp_take
              rw [a5]
              rcases zlg_cases b with c | ⟨c, hb32⟩
              · rw [c]
                refine ⟨_, rfl, ?_, ?_, ?_, fun j hj => ?_⟩
                · simp (disch := omega) only [zup_ne]
                · simp (disch := omega) only [zup_ne]; exact hwk
                · simp (disch := omega) only [zup_ne]
                · simp (disch := omega) only [zup_ne, zup_eq, upd_ne]
              · rw [c]
                refine ⟨_, rfl, ?_, ?_, ?_, fun j hj => ?_⟩ <;> rw [e_note_ne (by omega) (by omega)]
                · simp (disch := omega) only [zup_ne]
                · simp (disch := omega) only [zup_ne]; exact hwk
                · simp (disch := omega) only [zup_ne]
                · simp (disch := omega) only [zup_ne, zup_eq, upd_ne]
            obtain ⟨X6, x1, x2, x3, x4, x5⟩ := key
            rw [x1] at hs ⊢
            refine same _ (by rw [gb7]; exact x2) hs (gb2 (h - 1) p _ (by omega) x3 (fun z0 => ?_) (by rw [x4]; exact b1))
            rw [x5 _ (by omega)]
            exact (hhd (h - 1 - 1) (by omega)).piece n8
          · cases e
      · split at e
        · rename_i h2
          split at e
          · cases e
            rcases hhd h hh with ⟨a1, -⟩ | ⟨a1, -⟩ | ⟨p, u, s, U, a1, a2, a3, a4, a5, a6, a7, a8, a9, a10⟩
            · rw [h2] at a1; exact absurd a1 (by decide)
            · rw [h2] at a1; exact absurd a1 (by decide)
            have e1 : ix (M (b + 3) h) = p := by rw [a5]; exact q_ix (by omega)
            refine same _ (by unfold sp_start; simp (disch := omega) only [zup_ne]) hs (fun j hj => ?_)
            by_cases c : j = h
            · subst c
              obtain ⟨l, l1, l2⟩ := b2 (j * 8 + p) (by omega)
              obtain ⟨z, z1, z2⟩ := sp_ticks_9 (t := t) (h := j) (p := p) vt hj a1 l1 (by omega)
              refine ⟨z, z1, ?_⟩
              unfold sp_start
              simp (disch := omega) only [zup_eq, upd_eq]
              rw [e1]
              exact z2
            · rw [sp_start_ne c]
              exact b1 j hj
          · cases e
        · cases e
  · cases e
theorem sp_rounds_bd {t b n H L C : Nat} (hC : C < 2147483000) : ∀ f (M : zMem), sp_ok M t b n H L → sp_bd M b H C → sp_bd (sp_rounds t b H f M) b H C := by
  have rd : ∀ h (s : Bool) (X : zMem), h ≤ H → sp_ok X t b n H L → sp_bd X b H C → sp_bd (sp_rd t b h s X).2 b H C := by
    intro h
    induction h with
    | zero => intro s X _ _ bx; exact bx
    | succ h ih =>
      intro s X hh okx bx
      unfold sp_rd
      cases e : sp_hand t b h X with
      | none => exact ih s X (by omega) okx bx
      | some X' => exact ih true X' (by omega) (sp_step okx (by omega) e).1 (sp_hand_bd hC okx (by omega) e bx)
  intro f
  induction f with
  | zero => intro M _ bx; exact bx
  | succ f ih =>
    intro M ok bx
    unfold sp_rounds
    have h1 := rd H false M (Nat.le_refl _) ok bx
    split
    · exact ih _ (sp_rd_ok H false M (Nat.le_refl _) ok).1 h1
    · exact h1
theorem sp_pass1_bd {b h H : Nat} {d : Int32} {M : zMem} (h0 : 0 < d) (hd : 0 < M (b + 2) h → d ≤ M (b + 2) h) (b1 : ∀ j, j < H → ∃ l, l ≤ 40 ∧ M (b + 2) j = nI l) : ∀ j, j < H → ∃ l, l ≤ 40 ∧ sp_pass1 b h d M (b + 2) j = nI l := by
  intro j hj
  by_cases e : j = h
  · subst e
    obtain ⟨l, l1, l2⟩ := b1 j hj
    unfold sp_pass1
    by_cases c : 0 < M (b + 2) j
    · have hle := hd c
      have e2 : ∃ l', l' ≤ 40 ∧ M (b + 2) j - d = nI l' := by
        obtain ⟨z1, z2⟩ := i32_sub_nn h0 hle
        obtain ⟨k, k1, k2⟩ := nI_of (Int32.not_lt.mpr z1)
        rw [k2, l2] at z2
        have := (nI_ltI k1 (by omega)).mp z2
        exact ⟨k, by omega, k2⟩
      obtain ⟨l', m1, m2⟩ := e2
      rw [if_pos c]
      split
      · exact ⟨l', m1, by simp (disch := omega) only [zup_ne, zup_eq, upd_eq]; exact m2⟩
      · exact ⟨l', m1, by simp (disch := omega) only [zup_eq, upd_eq]; exact m2⟩
    · rw [if_neg c]
      split
      · exact ⟨l, l1, by simp (disch := omega) only [zup_ne]; exact l2⟩
      · exact ⟨l, l1, by simp (disch := omega) only [zup_ne]; exact l2⟩
  · rw [sp_pass1_fr.2.2.1 2 j (by omega) (by omega) (Or.inr e)]
    exact b1 j hj
theorem sp_passes_bd {b H : Nat} {d : Int32} (h0 : 0 < d) : ∀ m h (M : zMem), h + m = H → (∀ j, h ≤ j → j < H → 0 < M (b + 2) j → d ≤ M (b + 2) j) → (∀ j, j < H → ∃ l, l ≤ 40 ∧ M (b + 2) j = nI l) → ∀ j, j < H → ∃ l, l ≤ 40 ∧ sp_passes b d m h M (b + 2) j = nI l := by
  intro m
  induction m with
  | zero => intro h M _ _ b1; exact b1
  | succ m ih =>
    intro h M hm hd b1
    unfold sp_passes
    refine ih (h + 1) _ (by omega) (fun j j1 j2 => ?_) (sp_pass1_bd h0 (hd h (Nat.le_refl _) (by omega)) b1)
    rw [sp_pass1_fr.2.2.1 2 j (by omega) (by omega) (Or.inr (by omega))]
    exact hd j (by omega) j2
/-- an event keeps the bounds -/
theorem sp_ev_bd {t b n H L C : Nat} {M : zMem} (hC : C + 40 < 2147483000) (ri : sp_ri M t b n H L) (bd : sp_bd M b H C) : sp_bd (sp_ev t b H M) b H (C + 40) := by
  have hc := sp_can_least ri.1 ri.2.1
  have ok1 := sp_pass_ok ri.1 hc
  have H5 : H ≤ 5 := ri.1.2.2.2.1.1.2.2.2.1
  unfold sp_ev sp_all
  refine sp_rounds_bd hC _ _ ok1 ⟨?_, fun j hj => ?_⟩
  · unfold sp_pass
    refine sp_passes_bd hc.1 H 0 _ (by omega) (fun j _ hj => ?_) (fun j hj => ?_)
    · simp (disch := omega) only [zup_ne]; exact hc.2.2 j hj
    · simp (disch := omega) only [zup_ne]; exact bd.1 j hj
  · obtain ⟨l, l1, l2⟩ := bd.2 j hj
    have hb1 := sp_c_bound (M := sp_pass b H (sp_least (M (b + 2)) H 0 0) M) (b := b) H H5
    refine ⟨l, ?_, by omega⟩
    rw [sp_pass_fr.2.2.2.1 7 j (by omega)]
    exact l1
