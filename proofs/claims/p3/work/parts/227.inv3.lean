theorem Res.mv2 {M M' W W' : zMem} (h : Res M W) (e0 : M' 0 13 = M 0 13) (e11 : M' 11 = M 11) (e17 : M' 17 = M 17) (e : ∀ c, 81 ≤ c → M' c = M c) (f : ∀ c, c = 1 ∨ c = 2 ∨ c = 3 ∨ c = 16 ∨ c = 17 ∨ c = 18 → W' c = W c) (g : ∀ j, j = 1 ∨ j = 2 ∨ j = 39 → W' 0 j = W 0 j) : Res M' W' := by
  obtain ⟨⟨z, a, b, c, d⟩, wt, i, j, k⟩ := h
  exact ⟨⟨z, a, by rw [e11]; exact b, by rw [g 1 (by omega)]; exact c, by rw [e17, f 1 (by omega)]; exact d⟩, wt.mv (f 2 (by omega)) (f 3 (by omega)), by rw [e11, g 2 (by omega)]; exact i, by rw [e0, g 39 (by omega)]; exact j, k.mv e (fun c hc => f c (by omega))⟩
theorem img.pc {M M' W W' : zMem} {n H L : Nat} (h : img M W n H L) (vt' : sp_vt M' 1 n H L) (e : ∀ c, c = 1 ∨ c = 2 ∨ c = 3 ∨ c = 5 ∨ c = 28 ∨ (63 ≤ c ∧ c ≤ 80) → M' c = M c) (e7 : W' 7 = W 7) (e24 : W' 0 24 = 1) (e6 : ∀ j, 192 ≤ j → W' 6 j = W 6 j) : img M' W' n H L := fun i hi => by
  have H5 : H ≤ 5 := vt'.1.2.2.2.1
  have n8 : n ≤ 8 := vt'.1.2.1
  obtain ⟨a, b⟩ := h i hi
  refine ⟨by rw [e 28 (by omega), e7]; exact a, fun w => ?_⟩
  rw [e 28 (by omega)] at w
  obtain ⟨b1, b2⟩ := b w
  refine ⟨e24, fun N V iv hv => ?_⟩
  obtain ⟨v1, v2, v3, v4, v5⟩ := iv
  have N4 : ∀ c, c ≠ 4 → (fun c => if c = 4 then M 4 else N c) c = N c := fun c hc => if_neg hc
  have N44 : (fun c => if c = 4 then M 4 else N c) 4 = M 4 := if_pos rfl
  generalize (fun c => if c = 4 then M 4 else N c) = X at N4 N44
  obtain ⟨bX, pX⟩ := b2 X V ⟨fun c c1 c2 => by
      by_cases w : c = 4
      · rw [w]; exact N44
      · rw [N4 c w, v1 c c1 c2]; exact e c (by omega), by rw [N4 18 (by omega)]; exact v2, fun j j1 j2 => by rw [N4 18 (by omega), v3 j j1 j2, e _ (by omega)], fun a x a1 a2 hx => by rw [N4 _ (by omega), v4 a x a1 a2 hx, e _ (by omega)], fun x hx => by rw [N4 25 (by omega), v5 x hx, e _ (by omega)]⟩ (fun j hj => by rw [hv j hj]; exact e6 _ (by omega))
  have bs2 : bsl N X := bsl.of (fun c c1 c2 => (N4 c (by omega)).symm)
  exact ⟨bst_cong bX (vt'.moved (fun i hi => v1 _ (by omega) (by omega))) (N4 1 (by omega)).symm (N4 3 (by omega)).symm (N4 5 (by omega)).symm v2 bs2, pr_cong H5 n8 pX bs2⟩
theorem i_keep {M W : zMem} {a : Int32} (h : Inv M W) : wp_Main_keep a M (fun x M' => wp_Model_keep a W (fun y W' => x = y ∧ Inv M' W')) := by
  obtain ⟨n, H, L, co, ca⟩ := id h
  obtain ⟨vt, r, st, bs, e18, im, rs⟩ := id co
  have H5 : H ≤ 5 := vt.1.2.2.2.1
  have n8 : n ≤ 8 := vt.1.2.1
  refine p_keep vt r st (fun i hi => (im i hi).1) h (fun i M' W1 W' hi bd h24 hp f w6 w6o wk => ?_)
  obtain ⟨d1, -, d3, d4, d5⟩ := bd
  generalize hA : zup M' 28 i 1 = A
  generalize hB : zup W' 7 i 1 = B
  have Ac : ∀ c, c ≠ 28 → A c = M' c := fun c hc => by rw [← hA, zup_ne hc]
  have Am : ∀ c, c ≠ 28 → c < 63 + 9 * i ∨ 63 + 9 * i + 8 ≤ c → A c = M c := fun c c28 hc => by rw [Ac c c28]; exact d5 c hc
  have Bc : ∀ c, c ≠ 7 → B c = W' c := fun c hc => by rw [← hB, zup_ne hc]
  have told : ∀ i, i ≤ 4 → A (1 + i) = M (1 + i) := fun i hi => Am _ (by omega) (by omega)
  have vt' := vt.moved told
  have b18 : bsl A M := bsl.of (fun c c1 c2 => Am c (by omega) (by omega))
  have e18' : ztc (A 18 0) = 1 := by rw [Am 18 (by omega) (by omega)]; exact e18
  have B6 : ∀ j, j < 96 → B 6 j = W1 6 j := fun j hj => by rw [Bc 6 (by omega)]; exact w6o j (by omega)
  have h24' : B 0 24 = 1 := by rw [Bc 0 (by omega), wk 0 (by omega)]; exact h24
  have fw := f.wkf
  refine ⟨n, H, L, ⟨vt', r.moved (by rw [Bc 4 (by omega), wk 4 (by omega)]; exact f.1 4 (by omega) (by omega) (by omega) (by omega)) told, Or.inl ⟨h24', pr_cong H5 n8 (hp.moved H5 n8 B6) b18⟩, bst_cong bs vt' (told 0 (by omega)) (told 2 (by omega)) (told 4 (by omega)) e18' b18, e18', fun i' hi' => ?_, rs.mv2 (by rw [Am 0 (by omega) (by omega)]) (Am 11 (by omega) (by omega)) (Am 17 (by omega) (by omega)) (fun c hc => Am c (by omega) (by omega)) (fun c hc => by rw [Bc c (by omega), wk c (by omega)]; exact fw.1 c (by omega)) (fun j hj => by rw [Bc 0 (by omega), wk 0 (by omega)]; exact fw.2.1 j hj)⟩, ca.mv told (fun k hk => Am k (by omega) (by omega))⟩
  by_cases w : i' = i
  · subst w
    refine ⟨by rw [← hA, ← hB, zup_eq, zup_eq, upd_eq, upd_eq], fun _ => ⟨h24', fun N V iv hv => ?_⟩⟩
    obtain ⟨v1, v2, v3, v4, v5⟩ := iv
    have bN : bsl N M := ⟨fun j j1 j2 => by rw [v3 j j1 j2, Ac _ (by omega)]; exact d1 j j1 j2, fun a x a1 a2 hx => by rw [v4 a x a1 a2 hx, Ac _ (by omega)]; exact d3 a x a1 a2 hx, fun x hx => by rw [v5 x hx, Ac _ (by omega)]; exact d4 x hx⟩
    have toldN : ∀ i, i ≤ 4 → N (1 + i) = M (1 + i) := fun i hi => (v1 _ (by omega) (by omega)).trans (told i hi)
    refine ⟨bst_cong bs (vt.moved toldN) (toldN 0 (by omega)) (toldN 2 (by omega)) (toldN 4 (by omega)) v2 bN, pr_cong H5 n8 (hp.moved H5 n8 (fun j hj => ?_)) bN⟩
    rw [hv j hj, Bc 6 (by omega)]
    exact w6 j hj
  · obtain ⟨a, b⟩ := im i' hi'
    have a28 : A 28 i' = M 28 i' := by rw [← hA, zup_eq, upd_ne w, d5 28 (by omega)]
    have b7 : B 7 i' = W 7 i' := by rw [← hB, zup_eq, upd_ne w, wk 7 (by omega), fw.1 7 (by omega)]
    refine ⟨by rw [a28, b7]; exact a, fun w2 => ?_⟩
    rw [a28] at w2
    obtain ⟨-, b2⟩ := b w2
    refine ⟨h24', fun N V iv hv => b2 N V ?_ (fun j hj => ?_)⟩
    · obtain ⟨v1, v2, v3, v4, v5⟩ := iv
      exact ⟨fun c c1 c2 => by rw [v1 c c1 c2]; exact Am c (by omega) (by omega), v2, fun j j1 j2 => by rw [v3 j j1 j2, Am _ (by omega) (by omega)], fun a x a1 a2 hx => by rw [v4 a x a1 a2 hx, Am _ (by omega) (by omega)], fun x hx => by rw [v5 x hx, Am _ (by omega) (by omega)]⟩
    · rw [hv j hj, Bc 6 (by omega), w6o _ (by omega)]
      exact fw.2.2 _ (by omega)
theorem i_back {M W : zMem} {a : Int32} (h : Inv M W) : wp_Main_back a M (fun x M' => wp_Model_back a W (fun y W' => x = y ∧ Inv M' W')) := by
  obtain ⟨n, H, L, co, ca⟩ := id h
  obtain ⟨vt, r, st, bs, e18, im, rs⟩ := id co
  refine p_back (fun i hi => (im i hi).1) h (fun i M' W' hi hk bd w6 w6o wk => ?_)
  obtain ⟨d1, d2, d3, d4, d5⟩ := bd
  obtain ⟨h24, b2⟩ := (im i hi).2 hk
  have e18' : ztc (M' 18 0) = 1 := by rw [d2 0 (by omega)]; exact e18
  have told : ∀ i, i ≤ 4 → M' (1 + i) = M (1 + i) := fun i hi => d5 _ (by omega)
  obtain ⟨bs', hp⟩ := b2 M' W' ⟨fun c c1 c2 => d5 c (by omega), e18', d1, d3, d4⟩ w6
  have h24' : W' 0 24 = 1 := by rw [wk 0 (by omega)]; exact h24
  refine ⟨hp.1.1.symm, n, H, L, ⟨vt.moved told, r.moved (wk 4 (by omega)) told, Or.inl ⟨h24', hp⟩, bs', e18', im.mv (fun c hc => d5 c (by omega)) (fun i _ => by rw [d5 28 (by omega)]) (wk 7 (by omega)) (fun _ => h24') (fun j hj => w6o j (by omega)), rs.mv2 (by rw [d5 0 (by omega)]) (d5 11 (by omega)) (d5 17 (by omega)) (fun c hc => d5 c (by omega)) (fun c hc => wk c (by omega)) (fun j _ => by rw [wk 0 (by omega)])⟩, ca.mv told (fun k hk => d5 k (by omega))⟩
/-- the sheets move, nothing else -/
theorem Cor.s {M M' W W' : zMem} {n H L : Nat} (h : Cor M W n H L) (e : ∀ c, c < 81 → M' c = M c) (f : ∀ c, c < 16 → W' c = W c) (sh : shs M' W') : Cor M' W' n H L := by
  obtain ⟨vt, r, st, bs, e18, im, ⟨⟨z, a, b, c, d⟩, wt, i, j, -⟩⟩ := h
  have told : ∀ i, i ≤ 4 → M' (1 + i) = M (1 + i) := fun i hi => e _ (by omega)
  have vt' := vt.moved told
  exact ⟨vt', r.moved (f 4 (by omega)) told, st.mv vt (fun c hc => e c (by omega)) (by rw [f 0 (by omega)]) (fun j _ => by rw [f 6 (by omega)]), bst_cong bs vt' (told 0 (by omega)) (told 2 (by omega)) (told 4 (by omega)) (by rw [e 18 (by omega)]; exact e18) (bsl.of (fun c c1 c2 => e c (by omega))), by rw [e 18 (by omega)]; exact e18, im.mv (fun c hc => e c (by omega)) (fun i _ => by rw [e 28 (by omega)]) (f 7 (by omega)) (fun w => by rw [f 0 (by omega)]; exact w) (fun j _ => by rw [f 6 (by omega)]), ⟨z, a, by rw [e 11 (by omega)]; exact b, by rw [f 0 (by omega)]; exact c, by rw [e 17 (by omega), f 1 (by omega)]; exact d⟩, wt.mv (f 2 (by omega)) (f 3 (by omega)), by rw [e 11 (by omega), f 0 (by omega)]; exact i, by rw [e 0 (by omega), f 0 (by omega)]; exact j, sh⟩
theorem i_sheet {M W : zMem} {a1 a2 a3 : Int32} (h : Inv M W) : wp_Main_sheet a1 a2 a3 M (fun x M' => wp_Model_sheet a1 a2 a3 W (fun y W' => x = y ∧ Inv M' W')) := by
  obtain ⟨n, H, L, co, ca⟩ := id h
  have sh : shs M W := co.2.2.2.2.2.2.2.2.2.2
  refine p_sheet h (fun i l z M' W' hi hl hz m1 m2 mo w16 w17 w18 w18o wo => ⟨n, H, L, co.s (fun c hc => mo c (by omega) (by omega)) (fun c hc => wo c (by omega) (by omega) (by omega)) (fun i' hi' => ?_), ca.mv (fun k hk => mo _ (by omega) (by omega)) (fun k hk => mo k (by omega) (by omega))⟩)
  by_cases w : i' = i
  · subst w
    refine Or.inr ⟨l, z, hl, hz, ?_, ?_, ?_, ?_, fun j hj => ?_⟩
    · rw [m1, upd_ne (by omega), upd_eq]
    · rw [w16, upd_eq]
    · rw [m1, upd_eq]
    · rw [w17, upd_eq]
    · rw [w18 j (by omega), m2 j (by omega)]
  · have k1 := mo (81 + 2 * i') (by omega) (by omega)
    have k2 := mo (81 + 2 * i' + 1) (by omega) (by omega)
    rcases sh i' hi' with ⟨a, b, c⟩ | ⟨l', z', a, b, c, d, e, f, g⟩
    · exact Or.inl ⟨by rw [k1]; exact a, by rw [k1]; exact b, by rw [w16, upd_ne w]; exact c⟩
    · exact Or.inr ⟨l', z', a, b, by rw [k1]; exact c, by rw [w16, upd_ne w]; exact d, by rw [k1]; exact e, by rw [w17, upd_ne w]; exact f, fun j hj => by rw [w18o _ (by omega), k2]; exact g j hj⟩
theorem i_lay {M W : zMem} {a1 a2 a3 : Int32} (h : Inv M W) : wp_Main_lay a1 a2 a3 M (fun x M' => wp_Model_lay a1 a2 a3 W (fun y W' => x = y ∧ Inv M' W')) := by
  obtain ⟨n, H, L, co, ca⟩ := id h
  have sh : shs M W := co.2.2.2.2.2.2.2.2.2.2
  refine p_lay sh h (fun i j v hi hj => ⟨n, H, L, co.s (fun c hc => zup_ne (by omega)) (fun c hc => zup_ne (by omega)) (fun i' hi' => ?_), ca.mv (fun k hk => zup_ne (by omega)) (fun k hk => zup_ne (by omega))⟩)
  have k1 : zup M (81 + 2 * i + 1) j v (81 + 2 * i') = M (81 + 2 * i') := zup_ne (by omega)
  have k16 : zup W 18 (40 * i + j) v 16 = W 16 := zup_ne (by omega)
  have k17 : zup W 18 (40 * i + j) v 17 = W 17 := zup_ne (by omega)
  rcases sh i' hi' with ⟨a, b, c⟩ | ⟨l', z', a, b, c, d, e, f, g⟩
  · exact Or.inl ⟨by rw [k1]; exact a, by rw [k1]; exact b, by rw [k16]; exact c⟩
  · refine Or.inr ⟨l', z', a, b, by rw [k1]; exact c, by rw [k16]; exact d, by rw [k1]; exact e, by rw [k17]; exact f, fun j' hj' => ?_⟩
    by_cases w : i' = i ∧ j' = j
    · rw [w.1, w.2, zup_eq, zup_eq, upd_eq, upd_eq]
    · rw [zup_eq, upd_ne (by omega)]
      by_cases w2 : i' = i
      · have : j' ≠ j := fun q => w ⟨w2, q⟩
        rw [w2, zup_eq, upd_ne this, ← w2]; exact g j' hj'
      · rw [zup_ne (by omega)]; exact g j' hj'
theorem i_read {M W : zMem} {a1 a2 a3 a4 a5 : Int32} (h : Inv M W) : wp_Main_read a1 a2 a3 a4 a5 M (fun x M' => wp_Model_read a1 a2 a3 a4 a5 W (fun y W' => x = y ∧ Inv M' W')) := by
  obtain ⟨n, H, L, co, ca⟩ := id h
  obtain ⟨vt, r, st, bs, e18, im, rs⟩ := id co
  have H5 : H ≤ 5 := vt.1.2.2.2.1
  have n8 : n ≤ 8 := vt.1.2.1
  have sh : shs M W := co.2.2.2.2.2.2.2.2.2.2
  refine p_read vt r st sh h (fun W1 h24 hp f => ⟨n, H, L, co.aw h24 hp f, ca⟩) (fun R g M' W1 W' h24 hp f vt' r' m13 w39 m0 mR0 mR mo wo w0 => ?_)
  have fw := f.wkf
  have b18 : bsl M' M := bsl.of (fun c c1 c2 => mo c (by omega) (by omega) (by omega) (by omega) (by omega) (by omega))
  have mk : ∀ c, c ≠ 0 → c ≠ 4 → c < 29 ∨ 61 ≤ c → M' c = M c := fun c c0 c4 hc => mo c c0 c4 (by omega) (by omega) (by omega) (by omega)
  have e18' : ztc (M' 18 0) = 1 := by rw [mk 18 (by omega) (by omega) (by omega)]; exact e18
  have h24' : W' 0 24 = 1 := by rw [w0 24 (by omega)]; exact h24
  obtain ⟨⟨z, q1, q2, q3, q4⟩, wt, fl, -, -⟩ := rs
  refine ⟨n, H, L, ⟨vt', r', Or.inl ⟨h24', pr_cong H5 n8 (hp.moved H5 n8 (fun j _ => by rw [wo 6 (by omega) (by omega)])) b18⟩, bst_cong bs vt' (mk 1 (by omega) (by omega) (by omega)) (mk 3 (by omega) (by omega) (by omega)) (mk 5 (by omega) (by omega) (by omega)) e18' b18, e18', im.pc vt' (fun c hc => mk c (by omega) (by omega) (by omega)) (by rw [wo 7 (by omega) (by omega)]; exact fw.1 7 (by omega)) h24' (fun j hj => by rw [wo 6 (by omega) (by omega)]; exact fw.2.2 j hj), ⟨z, q1, by rw [mk 11 (by omega) (by omega) (by omega)]; exact q2, by rw [w0 1 (by omega), fw.2.1 1 (by omega)]; exact q3, by rw [mk 17 (by omega) (by omega) (by omega), wo 1 (by omega) (by omega), fw.1 1 (by omega)]; exact q4⟩, wt.mv (by rw [wo 2 (by omega) (by omega)]; exact fw.1 2 (by omega)) (by rw [wo 3 (by omega) (by omega)]; exact fw.1 3 (by omega)), by rw [mk 11 (by omega) (by omega) (by omega), w0 2 (by omega), fw.2.1 2 (by omega)]; exact fl, by rw [m13, w39], sh.mv (fun c hc => mk c (by omega) (by omega) (by omega)) (fun c hc => by rw [wo c (by omega) (by omega)]; exact fw.1 c (by omega))⟩, ?_⟩
  rcases Nat.eq_zero_or_pos R with w | w
  · exact ca.mv (fun i hi => mR0 w _ (by omega)) (fun k hk => mR0 w k (by omega))
  · obtain ⟨s1, s2, s3, s4⟩ := mR w
    exact Cas.no s2 s4 s3 s1 (by rw [mo 32 (by omega) (by omega) (by omega) (by omega) (by omega) (by omega)]; exact ca.2.2.2.2) H5
