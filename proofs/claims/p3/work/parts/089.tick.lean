/-- how long an event is -/
theorem sp_ev_tick {t b n H L C : Nat} {M : zMem} (ri : sp_ri M t b n H L) (bd : sp_bd M b H C) : ∃ d, 0 < d ∧ d ≤ 40 ∧ sp_ev t b H M b 2 = M b 2 + nI d := by
  have hc := sp_can_least ri.1 ri.2.1
  have ok1 := sp_pass_ok ri.1 hc
  have e1 : sp_ev t b H M b 2 = M b 2 + sp_least (M (b + 2)) H 0 0 := by
    unfold sp_ev
    rw [(sp_all_car (C := 0) (D := 0) (by omega) ok1).2.2.2.2]
    exact sp_pass_fr.2.1
  have h0 := hc.1
  rcases sp_least_in (M (b + 2)) H 0 0 with e | ⟨j, -, j2, e⟩
  · rw [e] at h0
    exact absurd h0 (by decide)
  · obtain ⟨l, l1, l2⟩ := bd.1 j (by omega)
    rw [e, l2] at h0
    exact ⟨l, (nI_0lt (by omega)).mp h0, l1, by rw [e1, e, l2]⟩
