theorem ag_mk {b b' H : Nat} {M N M' N' : zMem} (a : ag b b' H M N) (hM : ∀ i, i ≤ 4 → M' (1 + i) = M (1 + i)) (hN : ∀ i, i ≤ 4 → N' (1 + i) = N (1 + i)) (h5 : ∀ j, 2 ≤ j → j ≤ 5 → M' b j = N' b' j)
    (hh : ∀ h, h < H → M' (b + 1) h = N' (b' + 1) h ∧ M' (b + 2) h = N' (b' + 2) h ∧ M' (b + 3) h = N' (b' + 3) h ∧ (M' (b + 3) h = -1 ∨ (M' (b + 4) h = N' (b' + 4) h ∧ M' (b + 5) h = N' (b' + 5) h))) (h7 : ∀ j, j < 40 → M' (b + 7) j = N' (b' + 7) j) : ag b b' H M' N' := by
  obtain ⟨⟨t0, t1, t2, t3, t4⟩, -, -, -⟩ := a
  have m0 : M' 1 = M 1 := hM 0 (by omega)
  have m1 : M' 2 = M 2 := hM 1 (by omega)
  have m2 : M' 3 = M 3 := hM 2 (by omega)
  have m3 : M' 4 = M 4 := hM 3 (by omega)
  have m4 : M' 5 = M 5 := hM 4 (by omega)
  have n0 : N' 1 = N 1 := hN 0 (by omega)
  have n1 : N' 2 = N 2 := hN 1 (by omega)
  have n2 : N' 3 = N 3 := hN 2 (by omega)
  have n3 : N' 4 = N 4 := hN 3 (by omega)
  have n4 : N' 5 = N 5 := hN 4 (by omega)
  exact ⟨⟨by rw [m0, n0]; exact t0, by rw [m1, n1]; exact t1, by rw [m2, n2]; exact t2, by rw [m3, n3]; exact t3, by rw [m4, n4]; exact t4⟩, h5, hh, h7⟩
theorem ag_goBack {b b' H h : Nat} {f : Int32} {M N : zMem} (a : ag b b' H M N) (hb : 18 ≤ b) (hb' : 18 ≤ b') (hh : h < H) : ag b b' H (sp_goBack 1 b h f M) (sp_goBack 1 b' h f N) := by
  have ew : sp_wl 1 b h f M = sp_wl 1 b' h f N := by
    unfold sp_wl sp_way
    rw [a.1.1 2 (by omega)]
    by_cases z : h = 0
    · rw [if_pos z, if_pos z]
    · rw [if_neg z, if_neg z, (a.2.2.1 (h - 1) (by omega)).2.2.1]
  unfold sp_goBack
  rw [ew]
  refine ag_mk a (fun i hi => ?_) (fun i hi => ?_) (fun j h2 h5 => ?_) (fun i hi => ?_) (fun j hj => ?_)
  · rw [zup_ne (by omega), zup_ne (by omega), zup_ne (by omega)]
  · rw [zup_ne (by omega), zup_ne (by omega), zup_ne (by omega)]
  · rw [zup_ne (by omega), zup_ne (by omega), zup_ne (by omega), zup_ne (by omega), zup_ne (by omega), zup_ne (by omega)]; exact a.2.1 j h2 h5
  · obtain ⟨c1, c2, c3, c4⟩ := a.2.2.1 i hi
    by_cases q : i = h
    · subst q
      simp (disch := omega) only [zup_ne, zup_eq, upd_eq]
      exact ⟨trivial, trivial, trivial, Or.inl trivial⟩
    · simp (disch := omega) only [zup_ne, zup_eq, upd_ne]
      exact ⟨c1, c2, c3, c4⟩
  · rw [zup_ne (by omega), zup_ne (by omega), zup_ne (by omega), zup_ne (by omega), zup_ne (by omega), zup_ne (by omega)]; exact a.2.2.2 j hj
theorem ag_new {b b' n H L pl s : Nat} {M N : zMem} (a : ag b b' H M N) (hb : 18 ≤ b) (hb' : 18 ≤ b') (hn : M 1 0 = nI n) (n8 : n ≤ 8) (hpl : M b 5 = nI pl) (hpl6 : pl < 6) (es : M 2 pl = nI s) (hs : s < 3) (H0 : 0 < H) : ag b b' H (sp_new 1 b M) (sp_new 1 b' N) := by
  have f5 : N b' 5 = nI pl := by rw [← a.2.1 5 (by omega) (by omega)]; exact hpl
  have fs : N 2 pl = nI s := by rw [← a.1.2.1 pl hpl6]; exact es
  have fn : N 1 0 = nI n := by rw [← a.1.1 0 (by omega)]; exact hn
  have eq : sp_pf (fun i => M (1 + 2) (s * 8 + i)) n 0 = sp_pf (fun i => N (1 + 2) (s * 8 + i)) n 0 := sp_pf_congr n 0 (fun i _ hi => a.1.2.2.1 _ (by omega))
  have e6 : M 1 6 = N 1 6 := a.1.1 6 (by omega)
  unfold sp_new
  have g1 : M (1 + 1) pl = nI s := es
  have g2 : N (1 + 1) pl = nI s := fs
  simp only [hpl, f5, q_ix (show pl < 2147483648 by omega), g1, g2, q_ix (show s < 2147483648 by omega), hn, fn, q_ix (show n < 2147483648 by omega), eq, e6]
  refine ag_mk a (fun i hi => ?_) (fun i hi => ?_) (fun j h2 h5 => ?_) (fun i hi => ?_) (fun j hj => ?_)
  · simp (disch := omega) only [zup_ne]
  · simp (disch := omega) only [zup_ne]
  · simp (disch := omega) only [zup_ne, zup_eq]
    by_cases q : j = 5
    · rw [q, upd_eq, upd_eq]
    · rw [upd_ne q, upd_ne q]; exact a.2.1 j h2 h5
  · obtain ⟨c1, c2, c3, c4⟩ := a.2.2.1 i hi
    by_cases q : i = 0
    · subst q
      simp (disch := omega) only [zup_ne, zup_eq, upd_eq]
      exact ⟨trivial, c2, trivial, Or.inr ⟨trivial, trivial⟩⟩
    · simp (disch := omega) only [zup_ne, zup_eq, upd_ne]
      exact ⟨c1, c2, c3, c4⟩
  · simp (disch := omega) only [zup_ne]
    exact a.2.2.2 j hj
