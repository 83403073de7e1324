theorem ag_eq1 {b b' H h : Nat} {X X' Y Y' : zMem} (a : ag b b' H X X') (c : ag b b' H Y Y') (hh : h < H) : sp_eq1 b h X Y → sp_eq1 b' h X' Y' := by
  obtain ⟨d1, d2, d3, d4⟩ := a.2.2.1 h hh
  obtain ⟨e1, e2, e3, e4⟩ := c.2.2.1 h hh
  rintro ⟨q1, q2, q3, q4⟩
  refine ⟨by rw [← d1, ← e1]; exact q1, by rw [← d2, ← e2]; exact q2, by rw [← d3, ← e3]; exact q3, fun z => ?_⟩
  rw [← d3] at z
  have q4 := q4 z
  have nx : ¬ X (b + 3) h = -1 := fun w => by rw [w] at z; exact absurd z (by decide)
  have ny : ¬ Y (b + 3) h = -1 := fun w => nx (by rw [q3]; exact w)
  have d4 := d4.resolve_left nx
  have e4 := e4.resolve_left ny
  exact ⟨by rw [← d4.1, ← e4.1]; exact q4.1, by rw [← d4.2, ← e4.2]; exact q4.2⟩
theorem ag.symm {b b' H : Nat} {M N : zMem} (a : ag b b' H M N) : ag b' b H N M := by
  obtain ⟨⟨t0, t1, t2, t3, t4⟩, a1, a2, a3⟩ := a
  refine ⟨⟨fun j hj => (t0 j hj).symm, fun j hj => (t1 j hj).symm, fun j hj => (t2 j hj).symm, fun j hj => (t3 j hj).symm, fun j hj => (t4 j hj).symm⟩, fun j h2 h5 => (a1 j h2 h5).symm, fun h hh => ?_, fun j hj => (a3 j hj).symm⟩
  obtain ⟨d1, d2, d3, d4⟩ := a2 h hh
  refine ⟨d1.symm, d2.symm, d3.symm, ?_⟩
  rcases d4 with q | q
  · exact Or.inl (by rw [← d3]; exact q)
  · exact Or.inr ⟨q.1.symm, q.2.symm⟩
theorem ag_cnt {b b' H i : Nat} {M N : zMem} (a : ag b b' H M N) (hi : i < 40) : sp_cnt 1 b i M = sp_cnt 1 b' i N := by
  unfold sp_cnt
  rw [a.1.1 3 (by omega), show M (1 + 3) i = N (1 + 3) i from a.1.2.2.2.1 i hi, a.2.2.2 i hi]
theorem ag_same1 {b b' n H : Nat} {X X' Y Y' : zMem} (a : ag b b' H X X') (c : ag b b' H Y Y') (H5 : H ≤ 5) (n8 : n ≤ 8) (h : sp_same 1 b n H X Y) : sp_same 1 b' n H X' Y' := by
  obtain ⟨q1, q2, q3⟩ := h
  refine ⟨by rw [← a.2.1 5 (by omega) (by omega), ← c.2.1 5 (by omega) (by omega)]; exact q1, fun h hh => ag_eq1 a c hh (q2 h hh), fun h p hh hp => ?_⟩
  rw [← ag_cnt a (by omega), ← ag_cnt c (by omega)]
  exact q3 h p hh hp
theorem ag_same {b b' n H : Nat} {X X' Y Y' : zMem} (a : ag b b' H X X') (c : ag b b' H Y Y') (H5 : H ≤ 5) (n8 : n ≤ 8) : sp_same 1 b n H X Y ↔ sp_same 1 b' n H X' Y' := ⟨ag_same1 a c H5 n8, ag_same1 a.symm c.symm H5 n8⟩
theorem ag_rg {b b' n H L : Nat} : ∀ f r (M N : zMem) (A A' R R' : Nat → zMem), (∀ q, q < r → R q = vw 1 b (A q) ∧ R' q = vw 1 b' (A' q) ∧ ag b b' H (A q) (A' q)) → sp_ok M 1 b n H L → (∀ j, j < H → sp_hand 1 b j M = none) → sp_ok N 1 b' n H L → (∀ j, j < H → sp_hand 1 b' j N = none) → ag b b' H M N → sp_rg n H f (vw 1 b M) r R = sp_rg n H f (vw 1 b' N) r R' := by
  intro f
  induction f with
  | zero => intros; rfl
  | succ f ih =>
    intro r M N A A' R R' hR ok hs ok' hs' a
    have H5 : H ≤ 5 := ok.2.2.2.1.1.2.2.2.1
    have n8 : n ≤ 8 := ok.2.2.2.1.1.2.1
    have hb := ok.2.2.1
    have hb' := ok'.2.2.1
    obtain ⟨k1, -, k2⟩ := sp_all_ok (sp_pass_ok ok (sp_can_least ok hs))
    obtain ⟨m1, -, m2⟩ := sp_all_ok (sp_pass_ok ok' (sp_can_least ok' hs'))
    have a' := ag_ev ok hs ok' hs' a
    have ve : sp_ev 0 5 H (vw 1 b M) = vw 1 b (sp_ev 1 b H M) := (vw_ev (by omega) (by omega)).symm
    have ve' : sp_ev 0 5 H (vw 1 b' N) = vw 1 b' (sp_ev 1 b' H N) := (vw_ev (by omega) (by omega)).symm
    have e3 : vw 1 b M 5 3 = vw 1 b' N 5 3 := by rw [vw_0 (by omega), vw_0 (by omega)]; exact a.2.1 3 (by omega) (by omega)
    have e3' : vw 1 b (sp_ev 1 b H M) 5 3 = vw 1 b' (sp_ev 1 b' H N) 5 3 := by rw [vw_0 (by omega), vw_0 (by omega)]; exact a'.2.1 3 (by omega) (by omega)
    have e2' : vw 1 b (sp_ev 1 b H M) 5 2 = vw 1 b' (sp_ev 1 b' H N) 5 2 := by rw [vw_0 (by omega), vw_0 (by omega)]; exact a'.2.1 2 (by omega) (by omega)
    have fo : sp_fo (fun q => sp_same 0 5 n H (R q) (sp_ev 0 5 H (vw 1 b M))) r = sp_fo (fun q => sp_same 0 5 n H (R' q) (sp_ev 0 5 H (vw 1 b' N))) r := by
      refine sp_fst_eq (sp_fo_fst r) (fun q hq => ?_)
      obtain ⟨r1, r2, r3⟩ := hR q hq
      rw [r1, r2, ve, ve', vw_same, vw_same]
      exact ag_same r3 a' H5 n8
    by_cases c : vw 1 b M 5 3 < 120
    · have c' : vw 1 b' N 5 3 < 120 := by rw [← e3]; exact c
      by_cases d : vw 1 b M 5 3 < sp_ev 0 5 H (vw 1 b M) 5 3
      · have d' : vw 1 b' N 5 3 < sp_ev 0 5 H (vw 1 b' N) 5 3 := by rw [ve', ← e3', ← e3, ← ve]; exact d
        cases w : sp_fo (fun q => sp_same 0 5 n H (R q) (sp_ev 0 5 H (vw 1 b M))) r with
        | some q =>
          have w' := fo.symm.trans w
          obtain ⟨r1, r2, r3⟩ := hR q (sp_fo_lt w)
          rw [sp_rg_some c d w, sp_rg_some c' d' w']
          unfold sp_rn
          rw [ve, ve', e3', e2', r1, r2, vw_0 (by omega), vw_0 (by omega), vw_0 (by omega), vw_0 (by omega), r3.2.1 3 (by omega) (by omega), r3.2.1 2 (by omega) (by omega), vw_0 (by omega), vw_0 (by omega)]
        | none =>
          have w' := fo.symm.trans w
          rw [sp_rg_none c d w, sp_rg_none c' d' w', ve, ve']
          refine ih (r + 1) _ _ (fun i => if i = r then sp_ev 1 b H M else A i) (fun i => if i = r then sp_ev 1 b' H N else A' i) _ _ (fun q hq => ?_) k1 k2 m1 m2 a'
          by_cases z : q = r
          · rw [if_pos z, if_pos z, if_pos z, if_pos z]; exact ⟨rfl, rfl, a'⟩
          · rw [if_neg z, if_neg z, if_neg z, if_neg z]; exact hR q (by omega)
      · have d' : ¬ vw 1 b' N 5 3 < sp_ev 0 5 H (vw 1 b' N) 5 3 := by rw [ve', ← e3', ← e3, ← ve]; exact d
        rw [sp_rg_go c d, sp_rg_go c' d', ve, ve']
        exact ih r _ _ A A' R R' hR k1 k2 m1 m2 a'
    · rw [sp_rg_end c, sp_rg_end (by rw [← e3]; exact c)]
/-- the ring hangs on what is told alone -/
theorem ag_ring {b b' n H L : Nat} {M N : zMem} (ok : sp_ok M 1 b n H L) (ok' : sp_ok N 1 b' n H L) (a : ag b b' H M N) : sp_ring 1 b n H M = sp_ring 1 b' n H N := by
  obtain ⟨k1, -, k2⟩ := sp_all_ok ok
  obtain ⟨m1, -, m2⟩ := sp_all_ok ok'
  exact ag_rg 12000 0 _ _ (fun _ => M) (fun _ => M) _ _ (fun q hq => absurd hq (by omega)) k1 k2 m1 m2 (ag_all ok ok' a)
