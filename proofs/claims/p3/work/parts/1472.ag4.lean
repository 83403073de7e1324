theorem ag_can {b b' n H L h : Nat} {M N : zMem} (a : ag b b' H M N) (hh : h < H) (H5 : H ≤ 5) (hp : M (b + 3) h ≠ -1) : sp_can 1 b h M ↔ sp_can 1 b' h N := by
  obtain ⟨d1, d2, d3, d4⟩ := a.2.2.1 h hh
  have d4 := d4.resolve_left hp
  unfold sp_can
  rw [d3, d4.1, a.1.1 5 (by omega), a.1.1 4 (by omega), show M (1 + 4) h = N (1 + 4) h from a.1.2.2.2.2 h (by omega)]
theorem ag_may {b b' n H L h : Nat} {M N : zMem} (a : ag b b' H M N) (hH : M 1 1 = nI H) (hh : h < H) (H5 : H ≤ 5) (hp : M (b + 3) h ≠ -1) : sp_may 1 b h M ↔ sp_may 1 b' h N := by
  obtain ⟨d1, d2, d3, d4⟩ := a.2.2.1 h hh
  have d4 := d4.resolve_left hp
  have hH' : N 1 1 = nI H := by rw [← a.1.1 1 (by omega)]; exact hH
  have hd : sp_held 1 b h M ↔ sp_held 1 b' h N := by
    unfold sp_held
    rw [hH, hH']
    by_cases c : h + 1 < H
    · obtain ⟨e1, e2, e3, e4⟩ := a.2.2.1 (h + 1) c
      rw [d3, e3, d4.1]
      rcases e4 with q | q
      · have q' : N (b' + 3) (h + 1) = -1 := by rw [← e3]; exact q
        have lt : N (b' + 3) (h + 1) < 0 := by rw [q']; decide
        exact ⟨fun z => absurd lt z.2.1, fun z => absurd lt z.2.1⟩
      · rw [q.1]
    · have nl : ¬ nI (h + 1) < nI H := fun q => c ((nI_ltI (by omega) (by omega)).mp q)
      exact ⟨fun z => absurd z.1 nl, fun z => absurd z.1 nl⟩
  unfold sp_may
  rw [d3, show M (1 + 4) h = N (1 + 4) h from a.1.2.2.2.2 h (by omega), hd]
theorem ag_hand {b b' n H L h : Nat} {M N : zMem} (ok : sp_ok M 1 b n H L) (ok' : sp_ok N 1 b' n H L) (a : ag b b' H M N) (hh : h < H) : (sp_hand 1 b h M = none ∧ sp_hand 1 b' h N = none) ∨ ∃ M' N', sp_hand 1 b h M = some M' ∧ sp_hand 1 b' h N = some N' ∧ ag b b' H M' N' := by
  obtain ⟨d1, d2, d3, d4⟩ := a.2.2.1 h hh
  obtain ⟨ht, hd2, hb, ⟨⟨n1, n8, H1, H5, L1, L6⟩, hn, hH, hL, -, -, -, -, hrow, -⟩, ⟨pl, hpl, epl⟩, hhd, -⟩ := ok
  have hb' := ok'.2.2.1
  have neg : ∀ p, p < 8 → nI p ≠ -1 := fun p hp q => (q_neq (a := p) (c := 1) (by omega) (by omega) (by omega)).mp q
  by_cases l0 : M (b + 2) h = 0
  · have l0' : N (b' + 2) h = 0 := by rw [← d2]; exact l0
    by_cases s3 : M (b + 1) h = 3
    · have s3' : N (b' + 1) h = 3 := by rw [← d1]; exact s3
      have hp := hhd h hh
      rcases hp with ⟨q, -⟩ | ⟨q, -⟩ | ⟨p, u, s, U, p1, p2, p3, p4, p5, p6, p7, -⟩
      · rw [s3] at q; exact absurd q (by decide)
      · rw [s3] at q; exact absurd q (by decide)
      · refine Or.inr ⟨_, _, ?_, ?_, ag_finish a hb hb' hh H5 hn n8 p5 p1 p6 p7 p2⟩
        · unfold sp_hand; rw [if_pos l0, if_pos s3]
        · unfold sp_hand; rw [if_pos l0', if_pos s3']
    · have s3' : ¬ N (b' + 1) h = 3 := by rw [← d1]; exact s3
      by_cases s0 : M (b + 1) h = 0
      · have s0' : N (b' + 1) h = 0 := by rw [← d1]; exact s0
        by_cases h0 : h = 0
        · obtain ⟨s, s1, s2⟩ := hrow pl hpl
          refine Or.inr ⟨_, _, ?_, ?_, ag_new (L := L) a hb hb' hn n8 epl (by omega) s2 s1 (by omega)⟩
          · unfold sp_hand; rw [if_pos l0, if_neg s3, if_pos s0, if_pos h0]
          · unfold sp_hand; rw [if_pos l0', if_neg s3', if_pos s0', if_pos h0]
        · have e1 := (a.2.2.1 (h - 1) (by omega)).1
          by_cases c : M (b + 1) (h - 1) = 2 ∧ sp_can 1 b (h - 1) M
          · have hp : M (b + 3) (h - 1) ≠ -1 := by
              rcases hhd (h - 1) (by omega) with ⟨q, -⟩ | ⟨q, -⟩ | ⟨p, u, s, U, p1, p2, p3, p4, p5, -⟩
              · rw [c.1] at q; exact absurd q (by decide)
              · rw [c.1] at q; exact absurd q (by decide)
              · rw [p5]; exact neg p (by omega)
            have c' : N (b' + 1) (h - 1) = 2 ∧ sp_can 1 b' (h - 1) N := ⟨by rw [← e1]; exact c.1, (ag_can (n := n) (L := L) a (by omega) H5 hp).mp c.2⟩
            refine Or.inr ⟨_, _, ?_, ?_, ag_take a hb hb' (by omega) hh hp⟩
            · unfold sp_hand; rw [if_pos l0, if_neg s3, if_pos s0, if_neg h0, if_pos c]
            · unfold sp_hand; rw [if_pos l0', if_neg s3', if_pos s0', if_neg h0, if_pos c']
          · have c' : ¬ (N (b' + 1) (h - 1) = 2 ∧ sp_can 1 b' (h - 1) N) := fun q => c (by
              have q1 : M (b + 1) (h - 1) = 2 := by rw [e1]; exact q.1
              have hp : M (b + 3) (h - 1) ≠ -1 := by
                rcases hhd (h - 1) (by omega) with ⟨z, -⟩ | ⟨z, -⟩ | ⟨p, u, s, U, p1, p2, p3, p4, p5, -⟩
                · rw [q1] at z; exact absurd z (by decide)
                · rw [q1] at z; exact absurd z (by decide)
                · rw [p5]; exact neg p (by omega)
              exact ⟨q1, (ag_can (n := n) (L := L) a (by omega) H5 hp).mpr q.2⟩)
            refine Or.inl ⟨?_, ?_⟩
            · unfold sp_hand; rw [if_pos l0, if_neg s3, if_pos s0, if_neg h0, if_neg c]
            · unfold sp_hand; rw [if_pos l0', if_neg s3', if_pos s0', if_neg h0, if_neg c']
      · have s0' : ¬ N (b' + 1) h = 0 := by rw [← d1]; exact s0
        by_cases s2 : M (b + 1) h = 2
        · have s2' : N (b' + 1) h = 2 := by rw [← d1]; exact s2
          rcases hhd h hh with ⟨q, -⟩ | ⟨q, -⟩ | ⟨p, u, s, U, p1, p2, p3, p4, p5, -⟩
          · exact absurd q s0
          · rw [s2] at q; exact absurd q (by decide)
          · have hp : M (b + 3) h ≠ -1 := by rw [p5]; exact neg p (by omega)
            have em := ag_may (n := n) (L := L) a hH hh H5 hp
            by_cases c : sp_may 1 b h M
            · refine Or.inr ⟨_, _, ?_, ?_, ag_start (n := n) (L := L) a hb hb' hh H5 p (by omega) p5⟩
              · unfold sp_hand; rw [if_pos l0, if_neg s3, if_neg s0, if_pos s2, if_pos c]
              · unfold sp_hand; rw [if_pos l0', if_neg s3', if_neg s0', if_pos s2', if_pos (em.mp c)]
            · refine Or.inl ⟨?_, ?_⟩
              · unfold sp_hand; rw [if_pos l0, if_neg s3, if_neg s0, if_pos s2, if_neg c]
              · unfold sp_hand; rw [if_pos l0', if_neg s3', if_neg s0', if_pos s2', if_neg (fun q => c (em.mpr q))]
        · have s2' : ¬ N (b' + 1) h = 2 := by rw [← d1]; exact s2
          refine Or.inl ⟨?_, ?_⟩
          · unfold sp_hand; rw [if_pos l0, if_neg s3, if_neg s0, if_neg s2]
          · unfold sp_hand; rw [if_pos l0', if_neg s3', if_neg s0', if_neg s2']
  · have l0' : ¬ N (b' + 2) h = 0 := by rw [← d2]; exact l0
    refine Or.inl ⟨?_, ?_⟩
    · unfold sp_hand; rw [if_neg l0]
    · unfold sp_hand; rw [if_neg l0']
