theorem ag_rd {b b' n H L : Nat} : ∀ h (s : Bool) (M N : zMem), h ≤ H → sp_ok M 1 b n H L → sp_ok N 1 b' n H L → ag b b' H M N → (sp_rd 1 b h s M).1 = (sp_rd 1 b' h s N).1 ∧ ag b b' H (sp_rd 1 b h s M).2 (sp_rd 1 b' h s N).2 := by
  intro h
  induction h with
  | zero => intro s M N _ _ _ a; exact ⟨rfl, a⟩
  | succ h ih =>
    intro s M N hh ok ok' a
    unfold sp_rd
    rcases ag_hand ok ok' a (show h < H by omega) with ⟨q1, q2⟩ | ⟨M', N', q1, q2, a'⟩
    · rw [q1, q2]
      exact ih s M N (by omega) ok ok' a
    · rw [q1, q2]
      exact ih true M' N' (by omega) (sp_step ok (by omega) q1).1 (sp_step ok' (by omega) q2).1 a'
theorem ag_rounds {b b' n H L : Nat} : ∀ f (M N : zMem), sp_ok M 1 b n H L → sp_ok N 1 b' n H L → ag b b' H M N → ag b b' H (sp_rounds 1 b H f M) (sp_rounds 1 b' H f N) := by
  intro f
  induction f with
  | zero => intro M N _ _ a; exact a
  | succ f ih =>
    intro M N ok ok' a
    obtain ⟨e1, e2⟩ := ag_rd H false M N (Nat.le_refl _) ok ok' a
    unfold sp_rounds
    rw [← e1]
    split
    · exact ih _ _ (sp_rd_ok H false M (Nat.le_refl _) ok).1 (sp_rd_ok H false N (Nat.le_refl _) ok').1 e2
    · exact e2
theorem ag_all {b b' n H L : Nat} {M N : zMem} (ok : sp_ok M 1 b n H L) (ok' : sp_ok N 1 b' n H L) (a : ag b b' H M N) : ag b b' H (sp_all 1 b H M) (sp_all 1 b' H N) := by
  have e : sp_sum (sp_c M b) H = sp_sum (sp_c N b') H := sp_sum_eq H (fun j hj => by
    obtain ⟨d1, d2, -⟩ := a.2.2.1 j hj
    unfold sp_c
    rw [d1, d2])
  unfold sp_all
  rw [e]
  exact ag_rounds _ M N ok ok' a
theorem ag_pass1 {b b' H h : Nat} {d : Int32} {M N : zMem} (a : ag b b' H M N) (hb : 18 ≤ b) (hb' : 18 ≤ b') (hh : h < H) : ag b b' H (sp_pass1 b h d M) (sp_pass1 b' h d N) := by
  obtain ⟨d1, d2, d3, d4⟩ := a.2.2.1 h hh
  have up2 : ag b b' H (zup M (b + 2) h (N (b' + 2) h - d)) (zup N (b' + 2) h (N (b' + 2) h - d)) := by
    refine ag_mk a (fun i hi => ?_) (fun i hi => ?_) (fun j h2 h5 => ?_) (fun i hi => ?_) (fun j hj => ?_)
    · simp (disch := omega) only [zup_ne]
    · simp (disch := omega) only [zup_ne]
    · simp (disch := omega) only [zup_ne]; exact a.2.1 j h2 h5
    · obtain ⟨c1, c2, c3, c4⟩ := a.2.2.1 i hi
      by_cases q : i = h
      · subst q
        simp (disch := omega) only [zup_ne, zup_eq, upd_eq]
        exact ⟨c1, trivial, c3, c4⟩
      · simp (disch := omega) only [zup_ne, zup_eq, upd_ne]
        exact ⟨c1, c2, c3, c4⟩
    · simp (disch := omega) only [zup_ne]; exact a.2.2.2 j hj
  have o68 : ∀ (x y z w : Int32) (i j : Nat), ag b b' H (zup (zup M (b + 6) h x) (b + 8) i y) (zup (zup N (b' + 6) h z) (b' + 8) j w) := by
    intro x y z w i j
    refine ag_mk a (fun i hi => ?_) (fun i hi => ?_) (fun j h2 h5 => ?_) (fun i hi => ?_) (fun j hj => ?_)
    · simp (disch := omega) only [zup_ne]
    · simp (disch := omega) only [zup_ne]
    · simp (disch := omega) only [zup_ne]; exact a.2.1 j h2 h5
    · simp (disch := omega) only [zup_ne]; exact a.2.2.1 i hi
    · simp (disch := omega) only [zup_ne]; exact a.2.2.2 j hj
  have o6 : ∀ (x z : Int32), ag b b' H (zup M (b + 6) h x) (zup N (b' + 6) h z) := by
    intro x z
    refine ag_mk a (fun i hi => ?_) (fun i hi => ?_) (fun j h2 h5 => ?_) (fun i hi => ?_) (fun j hj => ?_)
    · simp (disch := omega) only [zup_ne]
    · simp (disch := omega) only [zup_ne]
    · simp (disch := omega) only [zup_ne]; exact a.2.1 j h2 h5
    · simp (disch := omega) only [zup_ne]; exact a.2.2.1 i hi
    · simp (disch := omega) only [zup_ne]; exact a.2.2.2 j hj
  unfold sp_pass1
  rw [d2, d1]
  split
  · split
    · generalize zup M (b + 2) h (N (b' + 2) h - d) = X at up2 ⊢
      generalize zup N (b' + 2) h (N (b' + 2) h - d) = Y at up2 ⊢
      refine ag_mk up2 (fun i hi => ?_) (fun i hi => ?_) (fun j h2 h5 => ?_) (fun i hi => ?_) (fun j hj => ?_)
      · simp (disch := omega) only [zup_ne]
      · simp (disch := omega) only [zup_ne]
      · simp (disch := omega) only [zup_ne]; exact up2.2.1 j h2 h5
      · obtain ⟨c1, c2, c3, c4⟩ := up2.2.2.1 i hi
        by_cases q : i = h
        · subst q
          simp (disch := omega) only [zup_ne, zup_eq, upd_eq]
          exact ⟨trivial, c2, c3, c4⟩
        · simp (disch := omega) only [zup_ne, zup_eq, upd_ne]
          exact ⟨c1, c2, c3, c4⟩
      · simp (disch := omega) only [zup_ne]; exact up2.2.2.2 j hj
    · exact up2
  · split
    · exact o68 _ _ _ _ _ _
    · exact o6 _ _
theorem ag_passes {b b' H : Nat} {d : Int32} (hb : 18 ≤ b) (hb' : 18 ≤ b') : ∀ m h (M N : zMem), h + m ≤ H → ag b b' H M N → ag b b' H (sp_passes b d m h M) (sp_passes b' d m h N) := by
  intro m
  induction m with
  | zero => intro h M N _ a; exact a
  | succ m ih => intro h M N hh a; exact ih (h + 1) _ _ (by omega) (ag_pass1 a hb hb' (by omega))
theorem ag_pass {b b' H : Nat} {d : Int32} {M N : zMem} (a : ag b b' H M N) (hb : 18 ≤ b) (hb' : 18 ≤ b') : ag b b' H (sp_pass b H d M) (sp_pass b' H d N) := by
  unfold sp_pass
  refine ag_passes hb hb' H 0 _ _ (by omega) ?_
  refine ag_mk a (fun i hi => ?_) (fun i hi => ?_) (fun j h2 h5 => ?_) (fun i hi => ?_) (fun j hj => ?_)
  · simp (disch := omega) only [zup_ne]
  · simp (disch := omega) only [zup_ne]
  · rw [zup_eq, zup_eq]
    by_cases q : j = 2
    · rw [q, upd_eq, upd_eq, a.2.1 2 (by omega) (by omega)]
    · rw [upd_ne q, upd_ne q]; exact a.2.1 j h2 h5
  · simp (disch := omega) only [zup_ne]; exact a.2.2.1 i hi
  · simp (disch := omega) only [zup_ne]; exact a.2.2.2 j hj
theorem ag_least {f g : Nat → Int32} : ∀ m h c, (∀ j, h ≤ j → j < h + m → f j = g j) → sp_least f m h c = sp_least g m h c := by
  intro m
  induction m with
  | zero => intro h c _; rfl
  | succ m ih =>
    intro h c e
    unfold sp_least
    rw [e h (by omega) (by omega)]
    exact ih (h + 1) _ (fun j h1 h2 => e j (by omega) (by omega))
theorem ag_ev {b b' n H L : Nat} {M N : zMem} (ok : sp_ok M 1 b n H L) (hs : ∀ j, j < H → sp_hand 1 b j M = none) (ok' : sp_ok N 1 b' n H L) (hs' : ∀ j, j < H → sp_hand 1 b' j N = none) (a : ag b b' H M N) : ag b b' H (sp_ev 1 b H M) (sp_ev 1 b' H N) := by
  have el : sp_least (M (b + 2)) H 0 0 = sp_least (N (b' + 2)) H 0 0 := ag_least H 0 0 (fun j _ hj => (a.2.2.1 j (by omega)).2.1)
  unfold sp_ev
  have c1 := sp_can_least ok hs
  have c2 := sp_can_least ok' hs'
  have k1 := sp_pass_ok ok c1
  have k2 := sp_pass_ok ok' c2
  rw [el] at k1 ⊢
  exact ag_all k1 k2 (ag_pass a ok.2.2.1 ok'.2.2.1)
