/-- what is told as at first, and a bench at 32 with its log, as lists -/
def lq (X : List (List Int32)) : zMem := fun c j => if c < 6 then (lT.getD c []).getD j 0 else (X.getD (c - 30) []).getD j 0
def agD (M N : zMem) : Bool :=
  decide (M 32 2 = N 32 2) && decide (M 32 3 = N 32 3) && decide (M 32 4 = N 32 4) && decide (M 32 5 = N 32 5) &&
  (List.range 3).all (fun h => decide (M 33 h = N 33 h) && decide (M 34 h = N 34 h) && decide (M 35 h = N 35 h) && (decide (M 35 h = -1) || (decide (M 36 h = N 36 h) && decide (M 37 h = N 37 h)))) &&
  (List.range 40).all (fun j => decide (M 39 j = N 39 j)) &&
  decide (M 30 0 = N 30 0) && decide (ix (N 30 0) ≤ 12) && (List.range 60).all (fun j => decide (M 31 j = N 31 j))
theorem agD_all {n : Nat} {p : Nat → Bool} (h : (List.range n).all p = true) : ∀ j, j < n → p j = true := fun j hj => List.all_eq_true.mp h j (List.mem_range.mpr hj)
theorem agD_ag {M N : zMem} (ht : ∀ i, i ≤ 4 → M (1 + i) = N (1 + i)) (h : agD M N = true) : ag 32 32 3 M N ∧ agl M N := by
  unfold agD at h
  simp only [Bool.and_eq_true, decide_eq_true_eq] at h
  obtain ⟨⟨⟨⟨⟨⟨⟨⟨b2, b3⟩, b4⟩, b5⟩, hh⟩, hl⟩, g0⟩, g1⟩, g2⟩ := h
  refine ⟨⟨⟨fun j _ => congrFun (ht 0 (by omega)) j, fun j _ => congrFun (ht 1 (by omega)) j, fun j _ => congrFun (ht 2 (by omega)) j, fun j _ => congrFun (ht 3 (by omega)) j, fun j _ => congrFun (ht 4 (by omega)) j⟩, fun j h2 h5 => ?_, fun h hh3 => ?_, fun j hj => ?_⟩, g0, fun j hj => ?_⟩
  · rcases (show j = 2 ∨ j = 3 ∨ j = 4 ∨ j = 5 by omega) with rfl | rfl | rfl | rfl
    · exact b2
    · exact b3
    · exact b4
    · exact b5
  · have := agD_all hh h hh3
    simp only [Bool.and_eq_true, Bool.or_eq_true, decide_eq_true_eq] at this
    obtain ⟨⟨⟨c1, c2⟩, c3⟩, c4⟩ := this
    exact ⟨c1, c2, c3, c4⟩
  · exact of_decide_eq_true (agD_all hl j hj)
  · rw [g0] at hj
    exact of_decide_eq_true (agD_all g2 j (by omega))
theorem ok_ag {n H L : Nat} {M N : zMem} (ok : sp_ok M 1 32 n H L) (a : ag 32 32 H M N) (l : agl M N) (h0 : ztc (N 32 0) = 1) : sp_ok N 1 32 n H L := by
  obtain ⟨ht, hd2, hb, ⟨⟨n1, n8, H1, H5, L1, L6⟩, hn, hH, hL, ⟨k2, c2, e2⟩, ⟨k3, c3, e3⟩, ⟨k4, c4, e4⟩, ⟨k5, c5, e5⟩, hrow, hun, hpf, hpc, hen, hel, hz⟩, ⟨pl, hpl, epl⟩, hhd, hg⟩ := ok
  obtain ⟨⟨t0, t1, t2, t3, t4⟩, a1, a2, a3⟩ := a
  have ee : ∀ h, h < H → N (1 + 4) h = M (1 + 4) h := fun h hh => (t4 h (by omega)).symm
  refine ⟨h0, hd2, hb, ⟨⟨n1, n8, H1, H5, L1, L6⟩, by rw [← t0 0 (by omega)]; exact hn, by rw [← t0 1 (by omega)]; exact hH, by rw [← t0 6 (by omega)]; exact hL, ⟨k2, c2, by rw [← t0 2 (by omega)]; exact e2⟩, ⟨k3, c3, by rw [← t0 3 (by omega)]; exact e3⟩, ⟨k4, c4, by rw [← t0 4 (by omega)]; exact e4⟩, ⟨k5, c5, by rw [← t0 5 (by omega)]; exact e5⟩, fun i hi => ?_, fun s p hs hp => ?_, fun s hs => ?_, fun h p hh hp => ?_, fun h hh => ?_, ?_, fun q h hh => ?_⟩, ⟨pl, hpl, by rw [← a1 5 (by omega) (by omega)]; exact epl⟩, fun h hh => ?_, fun g q => ?_⟩
  · obtain ⟨s, s1, s2⟩ := hrow i hi
    exact ⟨s, s1, (t1 i (by omega)).symm.trans s2⟩
  · obtain ⟨u, u1, u2⟩ := hun s p hs hp
    exact ⟨u, u1, (t2 (s * 8 + p) (by omega)).symm.trans u2⟩
  · have e := hpf s hs
    rw [sp_pf_congr (g := fun i => N (1 + 2) (s * 8 + i)) n 0 (fun i _ hi => t2 (s * 8 + i) (by omega))] at e
    exact e
  · obtain ⟨c, x1, x2, x3⟩ := hpc h p hh hp
    exact ⟨c, x1, x2, (t3 (h * 8 + p) (by omega)).symm.trans x3⟩
  · obtain ⟨e, x1, x2⟩ := hen h hh
    exact ⟨e, x1, (ee h hh).trans x2⟩
  · exact (ee (H - 1) (by omega)).trans hel
  · rw [← t0 4 (by omega)] at q
    exact (ee h hh).trans (hz q h hh)
  · obtain ⟨d1, d2, d3, d4⟩ := a2 h hh
    unfold sp_hd
    rw [← d1, ← d2, ← d3, ee h hh, ← t0 5 (by omega)]
    rcases hhd h hh with x | x | ⟨p, u, s, U, p1, p2, p3, p4, p5, p6, p7, p8, p9⟩
    · exact Or.inl x
    · exact Or.inr (Or.inl x)
    · have hp : M (32 + 3) h ≠ -1 := by rw [p5]; exact fun q => (q_neq (a := p) (c := 1) (by omega) (by omega) (by omega)).mp q
      have d4 := d4.resolve_left hp
      exact Or.inr (Or.inr ⟨p, u, s, U, p1, p2, p3, p4, p5, d4.1.symm.trans p6, d4.2.symm.trans p7, (t2 (s * 8 + p) (by omega)).symm.trans p8, p9⟩)
  · obtain ⟨z, z1, z2⟩ := hg g q
    have e : zlg 32 = some 30 := rfl
    rw [e] at q
    cases q
    exact ⟨z, l.1.symm.trans z1, z2⟩
/-- the real bench goes as the one of lists -/
def lk (M : zMem) (X : List (List Int32)) : Prop := sp_ok M 1 32 3 3 1 ∧ (∀ j, j < 3 → sp_hand 1 32 j M = none) ∧ ag 32 32 3 M (lq X) ∧ agl M (lq X)
theorem lq_t {X Y : List (List Int32)} : ∀ i, i ≤ 4 → lq X (1 + i) = lq Y (1 + i) := fun i hi => by
  funext j
  unfold lq
  rw [if_pos (by omega), if_pos (by omega)]
theorem lk_ev {M : zMem} {X Y : List (List Int32)} (k : lk M X) (h0 : ztc (lq X 32 0) = 1) (e : agD (sp_evD 1 32 3 (lq X)) (lq Y) = true) : lk (sp_ev 1 32 3 M) Y := by
  obtain ⟨ok, hs, a, l⟩ := k
  have ok' := ok_ag ok a l h0
  have hs' : ∀ j, j < 3 → sp_hand 1 32 j (lq X) = none := fun j hj => by
    rcases ag_hand ok ok' a hj with ⟨-, q⟩ | ⟨M', N', q, -, -⟩
    · exact q
    · rw [hs j hj] at q; cases q
  obtain ⟨ok2, -, hs2⟩ := sp_all_ok (sp_pass_ok ok (sp_can_least ok hs))
  obtain ⟨-, fr, -⟩ := sp_all_ok (sp_pass_ok ok' (sp_can_least ok' hs'))
  have a1 := ag_ev ok hs ok' hs' a
  have l1 := agl_ev ok hs ok' hs' a l
  have ft : ∀ i, i ≤ 4 → sp_ev 1 32 3 (lq X) (1 + i) = lq Y (1 + i) := fun i hi => by
    have := (sp_pass_fr.1.tr fr).told (by omega) (show 1 + 4 < 18 by omega) i hi
    exact this.trans (lq_t i hi)
  rw [← sp_evD_eq] at e
  obtain ⟨a2, l2⟩ := agD_ag ft e
  exact ⟨ok2, hs2, a1.trans a2, l1.trans l2⟩
theorem lk_all {M : zMem} {X Y : List (List Int32)} (ok : sp_ok M 1 32 3 3 1) (a : ag 32 32 3 M (lq X)) (l : agl M (lq X)) (h0 : ztc (lq X 32 0) = 1) (e : agD (sp_allD 1 32 3 (lq X)) (lq Y) = true) : lk (sp_all 1 32 3 M) Y := by
  have ok' := ok_ag ok a l h0
  obtain ⟨ok2, -, hs2⟩ := sp_all_ok ok
  obtain ⟨-, fr, -⟩ := sp_all_ok ok'
  have ft : ∀ i, i ≤ 4 → sp_all 1 32 3 (lq X) (1 + i) = lq Y (1 + i) := fun i hi => by
    have := fr.told (by omega) (show 1 + 4 < 18 by omega) i hi
    exact this.trans (lq_t i hi)
  rw [← sp_allD_eq] at e
  obtain ⟨a2, l2⟩ := agD_ag ft e
  exact ⟨ok2, hs2, (ag_all ok ok' a).trans a2, (agl_all ok ok' a l).trans l2⟩
/-- two benches of lists that a record tells apart, or does not -/
def neD (M N : zMem) : Bool := (List.range 3).any (fun h => !decide (M 33 h = N 33 h) || !decide (M 34 h = N 34 h))
def eqD (M N : zMem) : Bool := decide (M 32 5 = N 32 5) && (List.range 3).all (fun h => decide (M 33 h = N 33 h) && decide (M 34 h = N 34 h) && decide (M 35 h = N 35 h) && (decide (M 35 h < 0) || (decide (M 36 h = N 36 h) && decide (M 37 h = N 37 h)))) && (List.range 3).all (fun h => (List.range 3).all (fun p => decide (sp_cnt 1 32 (h * 8 + p) M = sp_cnt 1 32 (h * 8 + p) N)))
theorem neD_ne {M N : zMem} (h : neD M N = true) : ¬ sp_same 1 32 3 3 M N := fun s => by
  obtain ⟨j, j1, j2⟩ := List.any_eq_true.mp h
  have hj := List.mem_range.mp j1
  obtain ⟨q1, q2, -⟩ := s.2.1 j hj
  have q1 : M 33 j = N 33 j := q1
  have q2 : M 34 j = N 34 j := q2
  rw [q1, q2] at j2
  simp at j2
theorem eqD_eq {M N : zMem} (h : eqD M N = true) : sp_same 1 32 3 3 M N := by
  unfold eqD at h
  simp only [Bool.and_eq_true, decide_eq_true_eq] at h
  obtain ⟨⟨b5, hh⟩, hc⟩ := h
  refine ⟨b5, fun h hh3 => ?_, fun h p h3 p3 => ?_⟩
  · have := agD_all hh h hh3
    simp only [Bool.and_eq_true, Bool.or_eq_true, decide_eq_true_eq] at this
    obtain ⟨⟨⟨c1, c2⟩, c3⟩, c4⟩ := this
    refine ⟨c1, c2, c3, fun z => ?_⟩
    rcases c4 with q | q
    · exact absurd z (Int32.not_le.mpr q)
    · exact q
  · exact of_decide_eq_true (agD_all (agD_all hc h h3) p p3)
theorem lk_ne {M N : zMem} {X Y : List (List Int32)} (k : lk M X) (m : lk N Y) (h : neD (lq X) (lq Y) = true) : ¬ sp_same 1 32 3 3 M N := fun q => neD_ne h ((ag_same k.2.2.1 m.2.2.1 (by omega) (by omega)).mp q)
theorem lk_eq {M N : zMem} {X Y : List (List Int32)} (k : lk M X) (m : lk N Y) (h : eqD (lq X) (lq Y) = true) : sp_same 1 32 3 3 M N := (ag_same k.2.2.1 m.2.2.1 (by omega) (by omega)).mpr (eqD_eq h)
