/-- two benches, each of its own memory, that go the same way -/
def ag (b b' H : Nat) (M N : zMem) : Prop :=
  ((∀ j, j ≤ 6 → M 1 j = N 1 j) ∧ (∀ j, j < 6 → M 2 j = N 2 j) ∧ (∀ j, j < 24 → M 3 j = N 3 j) ∧ (∀ j, j < 40 → M 4 j = N 4 j) ∧ (∀ j, j < 5 → M 5 j = N 5 j)) ∧
  (∀ j, 2 ≤ j → j ≤ 5 → M b j = N b' j) ∧
  (∀ h, h < H → M (b + 1) h = N (b' + 1) h ∧ M (b + 2) h = N (b' + 2) h ∧ M (b + 3) h = N (b' + 3) h ∧ (M (b + 3) h = -1 ∨ (M (b + 4) h = N (b' + 4) h ∧ M (b + 5) h = N (b' + 5) h))) ∧
  (∀ j, j < 40 → M (b + 7) j = N (b' + 7) j)
theorem ag_start {b b' n H L h : Nat} {M N : zMem} (a : ag b b' H M N) (hb : 18 ≤ b) (hb' : 18 ≤ b') (hh : h < H) (H5 : H ≤ 5) (p : Nat) (hp : p < 8) (ep : M (b + 3) h = nI p) : ag b b' H (sp_start 1 b h M) (sp_start 1 b' h N) := by
  obtain ⟨⟨t0, t1, t2, t3, t4⟩, a1, a2, a3⟩ := a
  have ep' : N (b' + 3) h = nI p := by rw [← (a2 h hh).2.2.1]; exact ep
  have et : sp_ticks 1 h (ix (M (b + 3) h)) (M (b + 7) (h * 8 + ix (M (b + 3) h))) M = sp_ticks 1 h (ix (N (b' + 3) h)) (N (b' + 7) (h * 8 + ix (N (b' + 3) h))) N := by
    rw [ep, ep', q_ix (by omega)]
    unfold sp_ticks
    rw [a3 (h * 8 + p) (by omega), t0 3 (by omega), show M (1 + 3) (h * 8 + p) = N (1 + 3) (h * 8 + p) from t3 _ (by omega)]
  unfold sp_start
  rw [et]
  refine ⟨⟨fun j hj => ?_, fun j hj => ?_, fun j hj => ?_, fun j hj => ?_, fun j hj => ?_⟩, fun j h2 h5 => ?_, fun i hi => ?_, fun j hj => ?_⟩
  · rw [zup_ne (by omega), zup_ne (by omega), zup_ne (by omega), zup_ne (by omega)]; exact t0 j hj
  · rw [zup_ne (by omega), zup_ne (by omega), zup_ne (by omega), zup_ne (by omega)]; exact t1 j hj
  · rw [zup_ne (by omega), zup_ne (by omega), zup_ne (by omega), zup_ne (by omega)]; exact t2 j hj
  · rw [zup_ne (by omega), zup_ne (by omega), zup_ne (by omega), zup_ne (by omega)]; exact t3 j hj
  · rw [zup_ne (by omega), zup_ne (by omega), zup_ne (by omega), zup_ne (by omega)]; exact t4 j hj
  · rw [zup_ne (by omega), zup_ne (by omega), zup_ne (by omega), zup_ne (by omega)]; exact a1 j h2 h5
  · obtain ⟨c1, c2, c3, c4⟩ := a2 i hi
    by_cases q : i = h
    · subst q
      simp (disch := omega) only [zup_ne, zup_eq, upd_eq]
      exact ⟨trivial, trivial, c3, c4⟩
    · simp (disch := omega) only [zup_ne, zup_eq, upd_ne]
      exact ⟨c1, c2, c3, c4⟩
  · rw [zup_ne (by omega), zup_ne (by omega), zup_ne (by omega), zup_ne (by omega)]; exact a3 j hj
