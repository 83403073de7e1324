theorem ag_cells {b b' H : Nat} {M N M' N' : zMem} (a : ag b b' H M N) (hM : ∀ k, (k ≤ 5 ∨ (b ≤ k ∧ k ≤ b + 8)) → M' k = M k) (hN : ∀ k, (k ≤ 5 ∨ (b' ≤ k ∧ k ≤ b' + 8)) → N' k = N k) : ag b b' H M' N' := by
  refine ag_mk a (fun i hi => hM _ (by omega)) (fun i hi => hN _ (by omega)) (fun j h2 h5 => ?_) (fun h hh => ?_) (fun j hj => ?_)
  · rw [hM b (by omega), hN b' (by omega)]; exact a.2.1 j h2 h5
  · rw [hM (b + 1) (by omega), hN (b' + 1) (by omega), hM (b + 2) (by omega), hN (b' + 2) (by omega), hM (b + 3) (by omega), hN (b' + 3) (by omega), hM (b + 4) (by omega), hN (b' + 4) (by omega), hM (b + 5) (by omega), hN (b' + 5) (by omega)]; exact a.2.2.1 h hh
  · rw [hM (b + 7) (by omega), hN (b' + 7) (by omega)]; exact a.2.2.2 j hj
theorem sp_take_eq {b h : Nat} {M : zMem} (hb : 18 ≤ b) : ∃ X, sp_take 1 b h M = sp_goBack 1 b (h - 1) (M (b + 3) (h - 1)) X ∧ ∀ k, (k ≤ 5 ∨ (b ≤ k ∧ k ≤ b + 8)) → X k = zup (zup (zup (zup (zup M (b + 1) h 2) (b + 3) h (M (b + 3) (h - 1))) (b + 4) h (M (b + 4) (h - 1))) (b + 5) h (M (b + 5) (h - 1))) b 4 (M b 4 + 1) k := by
  unfold sp_take
  rcases zlg_cases b with c | ⟨c, hb32⟩
  · rw [c]
    exact ⟨_, rfl, fun _ _ => rfl⟩
  · rw [c]
    exact ⟨_, rfl, fun k hk => e_note_ne (by omega) (by omega)⟩
theorem ag_take {b b' H h : Nat} {M N : zMem} (a : ag b b' H M N) (hb : 18 ≤ b) (hb' : 18 ≤ b') (h0 : 0 < h) (hh : h < H) (hp : M (b + 3) (h - 1) ≠ -1) : ag b b' H (sp_take 1 b h M) (sp_take 1 b' h N) := by
  obtain ⟨X, x1, x2⟩ := sp_take_eq (h := h) (M := M) hb
  obtain ⟨Y, y1, y2⟩ := sp_take_eq (h := h) (M := N) hb'
  obtain ⟨d1, d2, d3, d4⟩ := a.2.2.1 (h - 1) (by omega)
  have d4 := d4.resolve_left hp
  rw [x1, y1, d3]
  refine ag_goBack (ag_cells ?_ x2 y2) hb hb' (by omega)
  rw [← d3, ← d4.1, ← d4.2, ← a.2.1 4 (by omega) (by omega)]
  refine ag_mk a (fun i hi => ?_) (fun i hi => ?_) (fun j h2 h5 => ?_) (fun i hi => ?_) (fun j hj => ?_)
  · simp (disch := omega) only [zup_ne]
  · simp (disch := omega) only [zup_ne]
  · simp (disch := omega) only [zup_ne, zup_eq]
    by_cases q : j = 4
    · rw [q, upd_eq, upd_eq]
    · rw [upd_ne q, upd_ne q]; exact a.2.1 j h2 h5
  · obtain ⟨c1, c2, c3, c4⟩ := a.2.2.1 i hi
    by_cases q : i = h
    · subst q
      simp (disch := omega) only [zup_ne, zup_eq, upd_eq]
      exact ⟨trivial, c2, trivial, Or.inr ⟨trivial, trivial⟩⟩
    · simp (disch := omega) only [zup_ne, zup_eq, upd_ne]
      exact ⟨c1, c2, c3, c4⟩
  · simp (disch := omega) only [zup_ne]
    exact a.2.2.2 j hj
theorem ag_finish {b b' n H h p u s : Nat} {M N : zMem} (a : ag b b' H M N) (hb : 18 ≤ b) (hb' : 18 ≤ b') (hh : h < H) (H5 : H ≤ 5) (hn : M 1 0 = nI n) (n8 : n ≤ 8) (ep : M (b + 3) h = nI p) (hp : p < n) (eu : M (b + 4) h = nI u) (es : M (b + 5) h = nI s) (hs : s < 3) : ag b b' H (sp_finish 1 b h M) (sp_finish 1 b' h N) := by
  obtain ⟨d1, d2, d3, d4⟩ := a.2.2.1 h hh
  have hne : ¬ M (b + 3) h = -1 := by
    rw [ep]
    exact fun q => (q_neq (a := p) (c := 1) (by omega) (by omega) (by omega)).mp q
  have d4 := d4.resolve_left hne
  have ep' : N (b' + 3) h = nI p := by rw [← d3]; exact ep
  have eu' : N (b' + 4) h = nI u := by rw [← d4.1]; exact eu
  have es' : N (b' + 5) h = nI s := by rw [← d4.2]; exact es
  have fn : N 1 0 = nI n := by rw [← a.1.1 0 (by omega)]; exact hn
  have e7 : M (b + 7) (h * 8 + p) = N (b' + 7) (h * 8 + p) := a.2.2.2 _ (by omega)
  have e3 : M (1 + 2) (s * 8 + p) = N (1 + 2) (s * 8 + p) := a.1.2.2.1 _ (by omega)
  have eq : sp_pf (fun i => M (1 + 2) (s * 8 + i)) (n - (p + 1)) (p + 1) = sp_pf (fun i => N (1 + 2) (s * 8 + i)) (n - (p + 1)) (p + 1) := sp_pf_congr _ _ (fun i _ hi => a.1.2.2.1 _ (by omega))
  have e33 : M b 3 = N b' 3 := a.2.1 3 (by omega) (by omega)
  unfold sp_finish
  simp only [ep, ep', eu, eu', es, es', hn, fn, q_ix (show p < 2147483648 by omega), q_ix (show s < 2147483648 by omega), q_ix (show n < 2147483648 by omega), e7, e3, eq, e33]
  have base : ∀ x y : Int32, ag b b' H (zup (zup (zup M (b + 7) (h * 8 + p) x) (b + 1) h 2) (b + 4) h y) (zup (zup (zup N (b' + 7) (h * 8 + p) x) (b' + 1) h 2) (b' + 4) h y) := by
    intro x y
    refine ag_mk a (fun i hi => ?_) (fun i hi => ?_) (fun j h2 h5 => ?_) (fun i hi => ?_) (fun j hj => ?_)
    · simp (disch := omega) only [zup_ne]
    · simp (disch := omega) only [zup_ne]
    · simp (disch := omega) only [zup_ne]; exact a.2.1 j h2 h5
    · obtain ⟨c1, c2, c3, c4⟩ := a.2.2.1 i hi
      by_cases q : i = h
      · subst q
        simp (disch := omega) only [zup_ne, zup_eq, upd_eq]
        exact ⟨trivial, c2, c3, Or.inr ⟨trivial, d4.2⟩⟩
      · simp (disch := omega) only [zup_ne, zup_eq, upd_ne]
        exact ⟨c1, c2, c3, c4⟩
    · simp (disch := omega) only [zup_ne, zup_eq]
      by_cases q : j = h * 8 + p
      · rw [q, upd_eq, upd_eq]
      · rw [upd_ne q, upd_ne q]; exact a.2.2.2 j hj
  split
  · exact base _ _
  · split
    · have a1 := base (N (b' + 7) (h * 8 + p) + 1) (nI u + 1)
      have s5 : zup (zup (zup M (b + 7) (h * 8 + p) (N (b' + 7) (h * 8 + p) + 1)) (b + 1) h 2) (b + 4) h (nI u + 1) (b + 5) h = zup (zup (zup N (b' + 7) (h * 8 + p) (N (b' + 7) (h * 8 + p) + 1)) (b' + 1) h 2) (b' + 4) h (nI u + 1) (b' + 5) h := by
        simp (disch := omega) only [zup_ne]
        exact d4.2
      generalize zup (zup (zup M (b + 7) (h * 8 + p) (N (b' + 7) (h * 8 + p) + 1)) (b + 1) h 2) (b + 4) h (nI u + 1) = X at a1 s5 ⊢
      generalize zup (zup (zup N (b' + 7) (h * 8 + p) (N (b' + 7) (h * 8 + p) + 1)) (b' + 1) h 2) (b' + 4) h (nI u + 1) = Y at a1 s5 ⊢
      refine ag_mk a1 (fun i hi => ?_) (fun i hi => ?_) (fun j h2 h5 => ?_) (fun i hi => ?_) (fun j hj => ?_)
      · simp (disch := omega) only [zup_ne]
      · simp (disch := omega) only [zup_ne]
      · simp (disch := omega) only [zup_ne]; exact a1.2.1 j h2 h5
      · obtain ⟨c1, c2, c3, c4⟩ := a1.2.2.1 i hi
        by_cases q : i = h
        · subst q
          simp (disch := omega) only [zup_ne, zup_eq, upd_eq]
          exact ⟨c1, c2, trivial, Or.inr ⟨trivial, s5⟩⟩
        · simp (disch := omega) only [zup_ne, zup_eq, upd_ne]
          exact ⟨c1, c2, c3, c4⟩
      · simp (disch := omega) only [zup_ne]; exact a1.2.2.2 j hj
    · refine ag_goBack ?_ hb hb' hh
      have a1 := base (N (b' + 7) (h * 8 + p) + 1) (nI u + 1)
      generalize zup (zup (zup M (b + 7) (h * 8 + p) (N (b' + 7) (h * 8 + p) + 1)) (b + 1) h 2) (b + 4) h (nI u + 1) = X at a1 ⊢
      generalize zup (zup (zup N (b' + 7) (h * 8 + p) (N (b' + 7) (h * 8 + p) + 1)) (b' + 1) h 2) (b' + 4) h (nI u + 1) = Y at a1 ⊢
      refine ag_mk a1 (fun i hi => ?_) (fun i hi => ?_) (fun j h2 h5 => ?_) (fun i hi => ?_) (fun j hj => ?_)
      · simp (disch := omega) only [zup_ne]
      · simp (disch := omega) only [zup_ne]
      · rw [zup_eq, zup_eq]
        by_cases q : j = 3
        · rw [q, upd_eq, upd_eq]
        · rw [upd_ne q, upd_ne q]; exact a1.2.1 j h2 h5
      · simp (disch := omega) only [zup_ne]; exact a1.2.2.1 i hi
      · simp (disch := omega) only [zup_ne]; exact a1.2.2.2 j hj
