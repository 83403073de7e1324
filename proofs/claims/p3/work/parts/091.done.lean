/-- coats that are done become no fewer -/
def sp_dd (M : zMem) (b H lo D : Nat) : Prop := ∃ d, M b 3 = nI d ∧ lo ≤ d ∧ d + sp_sum (sp_c M b) H ≤ D
theorem sp_hand_dd {t b n H L h lo D : Nat} {M M' : zMem} (ok : sp_ok M t b n H L) (hh : h < H) (e : sp_hand t b h M = some M') (ho : sp_dd M b H lo D) : sp_dd M' b H lo D := by
  obtain ⟨o, h1, h0, h2⟩ := ho
  obtain ⟨-, hs⟩ := sp_step ok hh e
  have hk : M' b 3 = nI o ∨ M' b 3 = nI (o + 1) := by
    unfold sp_hand at e
    split at e
    · split at e
      · cases e
        unfold sp_finish
        dsimp only
        split
        · left; simp (disch := omega) only [zup_ne]; exact h1
        · split
          · left; simp (disch := omega) only [zup_ne]; exact h1
          · right
            rw [sp_goBack_b]
            simp (disch := omega) only [zup_eq, upd_eq]; rw [h1, nI_1]
      · split at e
        · split at e
          · cases e
            left
            unfold sp_new
            simp (disch := omega) only [zup_ne, zup_eq, upd_ne]; exact h1
          · split at e
            · cases e
              left
              unfold sp_take
              rcases zlg_cases b with c | ⟨c, hb32⟩
              · rw [c]
                dsimp only
                rw [sp_goBack_b]
                simp (disch := omega) only [zup_ne, zup_eq, upd_ne]; exact h1
              · rw [c]
                dsimp only
                rw [sp_goBack_b, e_note_ne (by omega) (by omega)]
                simp (disch := omega) only [zup_ne, zup_eq, upd_ne]; exact h1
            · cases e
        · split at e
          · split at e
            · cases e
              left
              unfold sp_start
              simp (disch := omega) only [zup_ne]; exact h1
            · cases e
          · cases e
    · cases e
  rcases hk with hk | hk
  · exact ⟨o, hk, h0, by omega⟩
  · exact ⟨o + 1, hk, by omega, by omega⟩
theorem sp_rounds_dd {t b n H L lo D : Nat} : ∀ f (M : zMem), sp_ok M t b n H L → sp_dd M b H lo D → sp_dd (sp_rounds t b H f M) b H lo D := by
  have rd : ∀ h (s : Bool) (X : zMem), h ≤ H → sp_ok X t b n H L → sp_dd X b H lo D → sp_dd (sp_rd t b h s X).2 b H lo D := by
    intro h
    induction h with
    | zero => intro s X _ _ bx; exact bx
    | succ h ih =>
      intro s X hh okx bx
      unfold sp_rd
      cases e : sp_hand t b h X with
      | none => exact ih s X (by omega) okx bx
      | some X' => exact ih true X' (by omega) (sp_step okx (by omega) e).1 (sp_hand_dd okx (by omega) e bx)
  intro f
  induction f with
  | zero => intro M _ bx; exact bx
  | succ f ih =>
    intro M ok bx
    unfold sp_rounds
    have h1 := rd H false M (Nat.le_refl _) ok bx
    split
    · exact ih _ (sp_rd_ok H false M (Nat.le_refl _) ok).1 h1
    · exact h1
theorem sp_ev_dd {t b n H L dn : Nat} {M : zMem} (ri : sp_ri M t b n H L) (hd : M b 3 = nI dn) : ∃ dn', dn ≤ dn' ∧ dn' ≤ dn + 40 ∧ sp_ev t b H M b 3 = nI dn' := by
  have hc := sp_can_least ri.1 ri.2.1
  have ok1 := sp_pass_ok ri.1 hc
  have H5 : H ≤ 5 := ri.1.2.2.2.1.1.2.2.2.1
  have hb1 := sp_c_bound (M := sp_pass b H (sp_least (M (b + 2)) H 0 0) M) (b := b) H H5
  have d1 : sp_dd (sp_pass b H (sp_least (M (b + 2)) H 0 0) M) b H dn (dn + 40) := ⟨dn, by rw [sp_pass_fr.2.2.1 3 (by omega)]; exact hd, by omega, by omega⟩
  obtain ⟨d, e1, e2, e3⟩ := sp_rounds_dd (sp_sum (sp_c (sp_pass b H (sp_least (M (b + 2)) H 0 0) M) b) H + 1) _ ok1 d1
  exact ⟨d, e2, by omega, e1⟩
/-- the state of a run's loop, with bounds: f rounds are left -/
def sp_es (M : zMem) (t b n H L f dn tk : Nat) : Prop := sp_rl M t b n H L f ∧ (∃ C, C + 40 * f ≤ 480040 ∧ sp_bd M b H C) ∧ (M b 3 = nI dn ∧ dn ≤ 200) ∧ M b 2 = nI tk ∧ tk + 40 * f ≤ 480000
theorem sp_es_step {t b n H L f dn tk : Nat} {M : zMem} (es : sp_es M t b n H L f dn tk) (h : dn < 120) : ∃ g dn' tk', f = g + 1 ∧ sp_es (sp_ev t b H M) t b n H L g dn' tk' ∧ dn ≤ dn' ∧ tk < tk' ∧ sp_fr b M (sp_ev t b H M) := by
  obtain ⟨rl, ⟨C, hC, bd⟩, ⟨hd, hd2⟩, htk, htk2⟩ := es
  obtain ⟨g, rfl, rl2, -, fr⟩ := sp_rl_step (m := 120) rl (by omega) (by rw [hd]; exact nI_lt h (by omega))
  obtain ⟨dn', a1, a2, a3⟩ := sp_ev_dd rl.1 hd
  obtain ⟨d, b1, b2, b3⟩ := sp_ev_tick rl.1 bd
  refine ⟨g, dn', tk + d, rfl, ⟨rl2, ⟨C + 40, by omega, sp_ev_bd (by omega) rl.1 bd⟩, ⟨a3, by omega⟩, ?_, by omega⟩, a1, by omega, fr⟩
  rw [b3, htk, q_add]
theorem sp_es_0 {t b n H L : Nat} {M0 M : zMem} (hc : sp_clear b M0 M) (ok : sp_ok M t b n H L) : ∃ dn, sp_es (sp_all t b H M) t b n H L 12000 dn 0 := by
  obtain ⟨ri, fr, -⟩ := sp_ri_0 hc ok
  have H5 : H ≤ 5 := ok.2.2.2.1.1.2.2.2.1
  obtain ⟨dn, d1, d2⟩ := ri.2.2.1
  obtain ⟨k2, k3, k4, k5, k0, k1, kh, kl, ks, kk⟩ := id hc
  have hb1 := sp_c_bound (M := M) (b := b) H H5
  refine ⟨dn, sp_rl_0 ri, ⟨40, by omega, ?_⟩, ⟨d2, d1⟩, ?_, by omega⟩
  · refine sp_rounds_bd (by omega) _ M ok ⟨fun h hh => ⟨0, by omega, (kh h (by omega)).2.1⟩, fun j hj => ⟨0, kl j hj, by omega⟩⟩
  · rw [(sp_all_car (C := 0) (D := 0) (by omega) ok).2.2.2.2]
    exact k2
theorem sp_es_ext {t b n H L f dn tk : Nat} {M M' : zMem} (es : sp_es M t b n H L f dn tk) (hb : b ≠ 32) (e1 : ∀ i, i ≤ 4 → M' (t + i) = M (t + i)) (e2 : ∀ i, i ≤ 8 → M' (b + i) = M (b + i)) : sp_es M' t b n H L f dn tk := by
  obtain ⟨⟨⟨ok, hs, hdn, ob⟩, hP⟩, ⟨C, hC, bd⟩, ⟨hd, hd2⟩, htk, htk2⟩ := es
  obtain ⟨h1, h2, h3, vt, hpl, hhd, hg⟩ := ok
  have e0 : M' b = M b := e2 0 (by omega)
  have lg : zlg b = none := by
    rcases zlg_cases b with c | ⟨c, d⟩
    · exact c
    · exact absurd d hb
  have ec : ∀ j, sp_c M' b j = sp_c M b j := fun j => sp_c_eq (by rw [e2 1 (by omega)]) (by rw [e2 2 (by omega)])
  have ecs : sp_sum (sp_c M' b) H = sp_sum (sp_c M b) H := sp_sum_eq H (fun j _ => ec j)
  have efs : sp_sum (sp_f M' b) H = sp_sum (sp_f M b) H := sp_sum_eq H (fun j _ => sp_f_eq (fun i _ hi => by rw [e2 i (by omega)]))
  have eP : sp_P M' b H = sp_P M b H := by unfold sp_P; rw [efs, e0]
  have ev : vw t b M' = vw t b M := vw_ext (fun i hi => e1 i (by omega)) (fun j _ => by rw [e0]) (fun i _ hi => e2 i hi)
  refine ⟨⟨⟨⟨by rw [e0]; exact h1, h2, h3, vt.moved e1, by rw [e0]; exact hpl, fun h hh => (hhd h hh).moved e1 (fun i _ hi => by rw [e2 i (by omega)]), fun g q => by rw [lg] at q; cases q⟩, fun j hj => ?_, by rw [e0]; exact hdn, ?_⟩, by rw [eP]; exact hP⟩, ⟨C, hC, ?_⟩, ⟨by rw [e0]; exact hd, hd2⟩, by rw [e0]; exact htk, htk2⟩
  · have q1 := vw_hand (t := t) (b := b) (h := j) (M := M') (by omega) h2
    rw [ev, vw_hand (by omega) h2, hs j hj] at q1
    exact Option.map_eq_none_iff.mp q1.symm
  · unfold sp_ob at ob ⊢
    rw [e0, ecs, eP]; exact ob
  · unfold sp_bd at bd ⊢
    rw [e2 2 (by omega), e2 7 (by omega), ecs]; exact bd
