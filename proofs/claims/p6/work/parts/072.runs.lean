/-- one event: the least goes by, all is done that is to be done -/
noncomputable def sp_ev (t b H : Nat) (M : zMem) : zMem := sp_all t b H (sp_pass b H (sp_least (M (b + 2)) H 0 0) M)
noncomputable def sp_run (t b H : Nat) (m : Int32) : Nat → zMem → zMem
  | 0, M => M
  | f + 1, M => if M b 3 < m then sp_run t b H m f (sp_ev t b H M) else M
/-- a run is well -/
def sp_ri (M : zMem) (t b n H L : Nat) : Prop := sp_ok M t b n H L ∧ (∀ j, j < H → sp_hand t b j M = none) ∧ (∃ dn, dn ≤ 200 ∧ M b 3 = nI dn) ∧ sp_ob M b H (40 * (sp_P M b H + 1))
theorem sp_P_le {t b n H L dn : Nat} {M : zMem} (ok : sp_ok M t b n H L) (hd : M b 3 = nI dn) (hd2 : dn < 2147483648) : sp_P M b H ≤ 70 * dn + 330 := by
  have n8 : n ≤ 8 := ok.2.2.2.1.1.2.1
  have H5 : H ≤ 5 := ok.2.2.2.1.1.2.2.2.1
  have := sp_sum_bound (c := sp_f M b) (B := 66) H (fun j hj => sp_f_le (ok.2.2.2.2.2.1 j hj) n8 (by omega))
  unfold sp_P
  rw [hd, q_ix hd2]
  have : 66 * H ≤ 66 * 5 := Nat.mul_le_mul (Nat.le_refl _) H5
  omega
theorem sp_ob.mono {M : zMem} {b H C C' : Nat} (h : sp_ob M b H C) (hc : C ≤ C') : sp_ob M b H C' := by
  obtain ⟨o, o1, o2⟩ := h
  exact ⟨o, o1, by omega⟩
theorem sp_ev_ri {t b n H L dn : Nat} {M : zMem} (ri : sp_ri M t b n H L) (hd : M b 3 = nI dn) (hd2 : dn ≤ 160) : sp_ri (sp_ev t b H M) t b n H L ∧ sp_P M b H < sp_P (sp_ev t b H M) b H ∧ sp_fr b M (sp_ev t b H M) ∧ ∃ dn', dn' ≤ dn + 40 ∧ sp_ev t b H M b 3 = nI dn' := by
  obtain ⟨ok, hs, -, ob⟩ := ri
  have H5 : H ≤ 5 := ok.2.2.2.1.1.2.2.2.1
  have hc := sp_can_least ok hs
  have hP := sp_P_pass ok hs
  have ok1 := sp_pass_ok ok hc
  unfold sp_ev
  obtain ⟨f1, f2, f3, f4, f5⟩ := sp_pass_fr (b := b) (H := H) (d := sp_least (M (b + 2)) H 0 0) (M := M)
  generalize sp_pass b H (sp_least (M (b + 2)) H 0 0) M = M1 at hP ok1 f1 f2 f3 f4 f5
  obtain ⟨ok2, fr2, hs2⟩ := sp_all_ok ok1
  have hb1 := sp_c_bound (M := M1) (b := b) H H5
  have d1 : M1 b 3 = nI dn := by rw [f3 3 (by omega)]; exact hd
  have db1 : sp_db M1 b H (dn + 40) := ⟨dn, d1, by omega⟩
  obtain ⟨o, o1, o2⟩ := ob
  have ob1 : sp_ob M1 b H (40 * (sp_P M b H + 1) + 40) := ⟨o, by rw [f3 4 (by omega)]; exact o1, by omega⟩
  obtain ⟨c1, c2, c3, c4, c5⟩ := sp_all_car (C := 40 * (sp_P M b H + 1) + 40) (D := dn + 40) (by omega) ok1
  obtain ⟨db2, hP2⟩ := c1 db1
  obtain ⟨dn', e1, e2⟩ := db2
  have hlt : sp_P M b H < sp_P (sp_all t b H M1) b H := by omega
  refine ⟨⟨ok2, hs2, ⟨dn', by omega, e1⟩, (c2 ob1).mono (by omega)⟩, hlt, f1.tr fr2, dn', by omega, e1⟩
theorem sp_run_1 {t b H f : Nat} {m : Int32} {M : zMem} : sp_run t b H m (f + 1) M = if M b 3 < m then sp_run t b H m f (sp_ev t b H M) else M := rfl
/-- the state of a run's loop: f rounds are enough -/
def sp_rl (M : zMem) (t b n H L f : Nat) : Prop := sp_ri M t b n H L ∧ 12000 ≤ f + sp_P M b H
theorem sp_rl_step {t b n H L f m : Nat} {M : zMem} (rl : sp_rl M t b n H L f) (hm : m ≤ 120) (hlt : M b 3 < nI m) : ∃ g, f = g + 1 ∧ sp_rl (sp_ev t b H M) t b n H L g ∧ sp_run t b H (nI m) f M = sp_run t b H (nI m) g (sp_ev t b H M) ∧ sp_fr b M (sp_ev t b H M) := by
  obtain ⟨ri, hf⟩ := rl
  obtain ⟨dn, d1, d2⟩ := ri.2.2.1
  rw [d2] at hlt
  have hdm := (nI_ltI (a := dn) (b := m) (by omega) (by omega)).mp hlt
  have hP := sp_P_le ri.1 d2 (by omega)
  obtain ⟨g, rfl⟩ : ∃ g, f = g + 1 := ⟨f - 1, by omega⟩
  obtain ⟨r1, r2, r3, -⟩ := sp_ev_ri ri d2 (by omega)
  refine ⟨g, rfl, ⟨r1, by omega⟩, ?_, r3⟩
  rw [sp_run_1, if_pos (by rw [d2]; exact nI_lt hdm (by omega))]
theorem sp_run_end {t b H f m : Nat} {M : zMem} (h : ¬ M b 3 < nI m) : sp_run t b H (nI m) f M = M := by
  cases f with
  | zero => rfl
  | succ f => rw [sp_run_1, if_neg h]
/-- at the beginning -/
theorem sp_ri_0 {t b n H L : Nat} {M0 M : zMem} (hc : sp_clear b M0 M) (ok : sp_ok M t b n H L) : sp_ri (sp_all t b H M) t b n H L ∧ sp_fr b M (sp_all t b H M) ∧ sp_all t b H M (b + 7) = M (b + 7) := by
  obtain ⟨ok2, fr2, hs2⟩ := sp_all_ok ok
  have H5 : H ≤ 5 := ok.2.2.2.1.1.2.2.2.1
  have hb1 := sp_c_bound (M := M) (b := b) H H5
  obtain ⟨k2, k3, k4, k5, k0, k1, kh, kl, ks, kk⟩ := hc
  obtain ⟨c1, c2, c3, c4, c5⟩ := sp_all_car (C := 40) (D := 40) (by omega) ok
  obtain ⟨⟨dn', e1, e2⟩, hP2⟩ := c1 ⟨0, k3, by omega⟩
  refine ⟨⟨ok2, hs2, ⟨dn', by omega, e1⟩, (c2 ⟨0, k4, by omega⟩).mono (by omega)⟩, fr2, ?_⟩
  -- nothing is learnt: nobody has worked
  have st0 : sp_st M b H := fun h hh h3 => by
    rw [(kh h (by omega)).1] at h3
    exact absurd h3 (by decide)
  have step : ∀ h (X X' : zMem), sp_ok X t b n H L → h < H → sp_st X b H → sp_hand t b h X = some X' → sp_st X' b H ∧ X' (b + 7) = X (b + 7) := by
    intro h X X' okx hh stx e
    have okx' := (sp_step okx hh e).1
    have hb18 := okx.2.2.1
    unfold sp_hand at e
    split at e
    · rename_i hl
      split at e
      · rename_i h3
        have := stx h hh h3
        rw [hl] at this
        exact absurd this (by decide)
      · split at e
        · split at e
          · cases e
            refine ⟨fun j hj j3 => ?_, by unfold sp_new; simp (disch := omega) only [zup_ne]⟩
            unfold sp_new at j3 ⊢
            by_cases c : j = 0
            · subst c
              simp (disch := omega) only [zup_ne, zup_eq, upd_eq] at j3
              exact absurd j3 (by decide)
            · simp (disch := omega) only [zup_ne, zup_eq, upd_ne] at j3 ⊢
              exact stx j hj j3
          · split at e
            · rename_i h0 hc
              cases e
              have key : ∃ (X6 : zMem) (f : Int32), sp_take t b h X = sp_goBack t b (h - 1) f X6 ∧ X6 (b + 7) = X (b + 7) ∧ X6 (b + 1) h = 2 ∧ (∀ j, X6 (b + 2) j = X (b + 2) j) ∧ (∀ j, j ≠ h → X6 (b + 1) j = X (b + 1) j) := by
                unfold sp_take
                rcases zlg_cases b with c | ⟨c, hb32⟩
                · rw [c]
                  refine ⟨_, _, rfl, ?_, ?_, fun j => ?_, fun j hj => ?_⟩ <;> simp (disch := omega) only [zup_ne, zup_eq, upd_eq, upd_ne]
                · rw [c]
                  refine ⟨_, _, rfl, ?_, ?_, fun j => ?_, fun j hj => ?_⟩ <;> rw [e_note_ne (by omega) (by omega)] <;> simp (disch := omega) only [zup_ne, zup_eq, upd_eq, upd_ne]
              obtain ⟨X6, f, x1, x2, x3, x4, x5⟩ := key
              rw [x1]
              refine ⟨fun j hj j3 => ?_, by rw [← x2]; unfold sp_goBack; simp (disch := omega) only [zup_ne]⟩
              by_cases c : j = h - 1
              · subst c
                unfold sp_goBack at j3
                simp (disch := omega) only [zup_eq, upd_eq] at j3
                split at j3 <;> exact absurd j3 (by decide)
              · rw [sp_goBack_at (Or.inr (Or.inr c))] at j3 ⊢
                by_cases c2 : j = h
                · subst c2
                  rw [x3] at j3
                  exact absurd j3 (by decide)
                · rw [x5 j c2] at j3
                  rw [x4]
                  exact stx j hj j3
            · cases e
        · split at e
          · split at e
            · cases e
              refine ⟨fun j hj j3 => ?_, by unfold sp_start; simp (disch := omega) only [zup_ne]⟩
              by_cases c : j = h
              · subst c
                unfold sp_start
                simp (disch := omega) only [zup_eq, upd_eq]
                exact sp_ticks_pos _ _ _ _ _
              · rw [sp_start_ne c] at j3 ⊢
                exact stx j hj j3
            · cases e
          · cases e
    · cases e
  have rd : ∀ h (s : Bool) (X : zMem), h ≤ H → sp_ok X t b n H L → sp_st X b H → sp_st (sp_rd t b h s X).2 b H ∧ (sp_rd t b h s X).2 (b + 7) = X (b + 7) := by
    intro h
    induction h with
    | zero => intro s X _ _ stx; exact ⟨stx, rfl⟩
    | succ h ih =>
      intro s X hh okx stx
      unfold sp_rd
      cases e : sp_hand t b h X with
      | none => exact ih s X (by omega) okx stx
      | some X' =>
        obtain ⟨y1, y2⟩ := step h X X' okx (by omega) stx e
        obtain ⟨z1, z2⟩ := ih true X' (by omega) (sp_step okx (by omega) e).1 y1
        exact ⟨z1, z2.trans y2⟩
  have rds : ∀ f (X : zMem), sp_ok X t b n H L → sp_st X b H → sp_rounds t b H f X (b + 7) = X (b + 7) := by
    intro f
    induction f with
    | zero => intro X _ _; rfl
    | succ f ih =>
      intro X okx stx
      obtain ⟨y1, y2⟩ := rd H false X (Nat.le_refl _) okx stx
      unfold sp_rounds
      split
      · rw [ih _ (sp_rd_ok H false X (Nat.le_refl _) okx).1 y1, y2]
      · exact y2
  exact rds _ M ok st0
