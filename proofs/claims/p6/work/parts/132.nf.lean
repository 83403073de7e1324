/-- where no hand is at its unit's end, nothing gets done -/
theorem sp_all_nf {t b n H L : Nat} {M : zMem} (ok : sp_ok M t b n H L) (st : sp_st M b H) : sp_all t b H M b 3 = M b 3 := by
  have step : ∀ h (X X' : zMem), sp_ok X t b n H L → h < H → sp_st X b H → sp_hand t b h X = some X' → sp_st X' b H ∧ X' b 3 = X b 3 := by
    intro h X X' okx hh stx e
    have okx' := (sp_step okx hh e).1
    have hb18 := okx.2.2.1
    unfold sp_hand at e
    split at e
    · rename_i hl
      split at e
      · rename_i h3
        have := stx h hh h3
        rw [hl] at this
        exact absurd this (by decide)
      · split at e
        · split at e
          · cases e
            refine ⟨fun j hj j3 => ?_, by unfold sp_new; simp (disch := omega) only [zup_ne, zup_eq, upd_ne]⟩
            unfold sp_new at j3 ⊢
            by_cases c : j = 0
            · subst c
              simp (disch := omega) only [zup_ne, zup_eq, upd_eq] at j3
              exact absurd j3 (by decide)
            · simp (disch := omega) only [zup_ne, zup_eq, upd_ne] at j3 ⊢
              exact stx j hj j3
          · split at e
            · rename_i h0 hc
              cases e
              have key : ∃ (X6 : zMem) (f : Int32), sp_take t b h X = sp_goBack t b (h - 1) f X6 ∧ X6 b 3 = X b 3 ∧ X6 (b + 1) h = 2 ∧ (∀ j, X6 (b + 2) j = X (b + 2) j) ∧ (∀ j, j ≠ h → X6 (b + 1) j = X (b + 1) j) := by
                unfold sp_take
                rcases zlg_cases b with c | ⟨c, hb32⟩
                · rw [c]
                  refine ⟨_, _, rfl, ?_, ?_, fun j => ?_, fun j hj => ?_⟩ <;> simp (disch := omega) only [zup_ne, zup_eq, upd_eq, upd_ne]
                · rw [c]
                  refine ⟨_, _, rfl, ?_, ?_, fun j => ?_, fun j hj => ?_⟩ <;> rw [e_note_ne (by omega) (by omega)] <;> simp (disch := omega) only [zup_ne, zup_eq, upd_eq, upd_ne]
              obtain ⟨X6, f, x1, x2, x3, x4, x5⟩ := key
              rw [x1]
              refine ⟨fun j hj j3 => ?_, by rw [← x2]; unfold sp_goBack; simp (disch := omega) only [zup_ne]⟩
              by_cases c : j = h - 1
              · subst c
                unfold sp_goBack at j3
                simp (disch := omega) only [zup_eq, upd_eq] at j3
                split at j3 <;> exact absurd j3 (by decide)
              · rw [sp_goBack_at (Or.inr (Or.inr c))] at j3 ⊢
                by_cases c2 : j = h
                · subst c2
                  rw [x3] at j3
                  exact absurd j3 (by decide)
                · rw [x5 j c2] at j3
                  rw [x4]
                  exact stx j hj j3
            · cases e
        · split at e
          · split at e
            · cases e
              refine ⟨fun j hj j3 => ?_, by unfold sp_start; simp (disch := omega) only [zup_ne, zup_eq, upd_ne]⟩
              by_cases c : j = h
              · subst c
                unfold sp_start
                simp (disch := omega) only [zup_eq, upd_eq]
                exact sp_ticks_pos _ _ _ _ _
              · rw [sp_start_ne c] at j3 ⊢
                exact stx j hj j3
            · cases e
          · cases e
    · cases e
  have rd : ∀ h (s : Bool) (X : zMem), h ≤ H → sp_ok X t b n H L → sp_st X b H → sp_st (sp_rd t b h s X).2 b H ∧ (sp_rd t b h s X).2 b 3 = X b 3 := by
    intro h
    induction h with
    | zero => intro s X _ _ stx; exact ⟨stx, rfl⟩
    | succ h ih =>
      intro s X hh okx stx
      unfold sp_rd
      cases e : sp_hand t b h X with
      | none => exact ih s X (by omega) okx stx
      | some X' =>
        obtain ⟨y1, y2⟩ := step h X X' okx (by omega) stx e
        obtain ⟨z1, z2⟩ := ih true X' (by omega) (sp_step okx (by omega) e).1 y1
        exact ⟨z1, z2.trans y2⟩
  have rds : ∀ f (X : zMem), sp_ok X t b n H L → sp_st X b H → sp_rounds t b H f X b 3 = X b 3 := by
    intro f
    induction f with
    | zero => intro X _ _; rfl
    | succ f ih =>
      intro X okx stx
      obtain ⟨y1, y2⟩ := rd H false X (Nat.le_refl _) okx stx
      unfold sp_rounds
      split
      · rw [ih _ (sp_rd_ok H false X (Nat.le_refl _) okx).1 y1, y2]
      · exact y2
  exact rds _ M ok st
theorem sp_clear.st {b H : Nat} {M0 M : zMem} (hc : sp_clear b M0 M) (H5 : H ≤ 5) : sp_st M b H := fun h hh h3 => by
  rw [(hc.2.2.2.2.2.2.1 h (by omega)).1] at h3
  exact absurd h3 (by decide)
/-- done, learnt, and the page, awake or asleep -/
theorem pst.done {W M : zMem} {n H L : Nat} (st : pst W M n H L) : W 6 1 = M 18 3 := by
  rcases st with ⟨-, hp⟩ | ⟨-, hz, M0, Mc, hc, ok, eM⟩
  · exact hp.1.2.1
  · rw [eM, sp_all_nf ok (hc.st ok.2.2.2.1.1.2.2.2.1), hc.2.1]; exact hz 1 (by omega)
theorem pst.learnt {W M : zMem} {n H L h p : Nat} (st : pst W M n H L) (hh : h < H) (hp : p < n) (H5 : H ≤ 5) (n8 : n ≤ 8) : W 6 (48 + 8 * h + p) = M 25 (h * 8 + p) := by
  rcases st with ⟨-, pp⟩ | ⟨-, hz, M0, Mc, hc, ok, eM⟩
  · exact pp.2.2.1 h p hh hp
  · rw [eM, show sp_all 1 18 H Mc 25 = Mc 25 from (sp_ri_0 hc ok).2.2, hz _ (by omega)]
    exact (hc.2.2.2.2.2.2.2.1 _ (by omega)).symm
