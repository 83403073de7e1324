theorem low8 (x : Int32) : x.toInt8.toInt32 &&& 255 = x &&& 255 := by
  refine Int32.toBitVec_inj.1 (BitVec.eq_of_toNat_eq ?_)
  show (((x.toBitVec.signExtend 8).signExtend 32) &&& 255#32).toNat = (x.toBitVec &&& 255#32).toNat
  have h1 : ((x.toBitVec.signExtend 8).signExtend 32).toInt = x.toBitVec.toInt.bmod (2 ^ min 8 32) := by rw [BitVec.toInt_signExtend_of_le (by omega), BitVec.toInt_signExtend]
  rw [BitVec.toInt_eq_toNat_bmod, BitVec.toInt_eq_toNat_bmod] at h1
  rw [BitVec.toNat_and, BitVec.toNat_and, show (255#32 : BitVec 32).toNat = 2 ^ 8 - 1 from rfl, Nat.and_two_pow_sub_one_eq_mod, Nat.and_two_pow_sub_one_eq_mod]
  generalize ((x.toBitVec.signExtend 8).signExtend 32).toNat = a at h1 ⊢
  generalize x.toBitVec.toNat = b at h1 ⊢
  unfold Int.bmod at h1
  simp only [Nat.reducePow, Nat.reduceLeDiff, Nat.min_eq_left] at h1 ⊢
  omega
/-- the tape and the fault move, nothing else -/
theorem Cor.t {M M' W W' : zMem} {n H L : Nat} (h : Cor M W n H L) (e : ∀ c, c < 11 ∨ 18 ≤ c → M' c = M c) (f : ∀ c, c ≠ 0 → c ≠ 1 → c ≠ 5 → W' c = W c) (f0 : ∀ j, j = 24 ∨ j = 39 → W' 0 j = W 0 j) (tp : ∃ z, z ≤ 400 ∧ M' 11 5 = nI z ∧ W' 0 1 = nI z ∧ tpe (M' 17) (W' 1) z) (fl : M' 11 1 = W' 0 2) : Cor M' W' n H L := by
  obtain ⟨vt, r, st, bs, e18, im, ⟨-, wt, -, tn, sh⟩⟩ := h
  have told : ∀ i, i ≤ 4 → M' (1 + i) = M (1 + i) := fun i hi => e _ (by omega)
  have vt' := vt.moved told
  refine ⟨vt', r.moved (f 4 (by omega) (by omega) (by omega)) told, st.mv vt (fun c hc => e c (by omega)) (f0 24 (by omega)) (fun j _ => by rw [f 6 (by omega) (by omega) (by omega)]), bst_cong bs vt' (told 0 (by omega)) (told 2 (by omega)) (told 4 (by omega)) (by rw [e 18 (by omega)]; exact e18) (bsl.of (fun c c1 c2 => e c (by omega))), by rw [e 18 (by omega)]; exact e18, im.mv (fun c hc => e c (by omega)) (fun i _ => by rw [e 28 (by omega)]) (f 7 (by omega) (by omega) (by omega)) (fun w => (f0 24 (by omega)).trans w) (fun j _ => by rw [f 6 (by omega) (by omega) (by omega)]), tp, wt.mv (f 2 (by omega) (by omega) (by omega)) (f 3 (by omega) (by omega) (by omega)), fl, by rw [e 0 (by omega), f0 39 (by omega)]; exact tn, sh.mv (fun c hc => e c (by omega)) (fun c hc => f c (by omega) (by omega) (by omega))⟩
theorem Cas.t {M M' : zMem} {n H L : Nat} (h : Cas M n H L) (e : ∀ c, c < 11 ∨ 18 ≤ c → M' c = M c) : Cas M' n H L := h.mv (fun i hi => e _ (by omega)) (fun k hk => e k (by omega))
theorem i_feed {M W : zMem} {a : Int64} (h : Inv M W) : wp_Main_feed a M (fun x M' => wp_Model_feed a W (fun y W' => x = y ∧ Inv M' W')) := by
  obtain ⟨n, H, L, co, ca⟩ := id h
  obtain ⟨z, z4, e5, w1, tp⟩ := co.2.2.2.2.2.2.1
  refine p_feed e5 w1 z4 h (fun M' W' hz m11 w0 hc hk em ew => ⟨n, H, L, co.t (fun c hc => em c (by omega) (by omega)) (fun c c0 c1 _ => ew c c0 c1) (fun j hj => by rw [w0, upd_ne (by omega)]) ⟨z + 8, hz, by rw [m11, upd_eq], by rw [w0, upd_eq], fun j hj => ?_⟩ ?_, ca.t (fun c hc => em c (by omega) (by omega))⟩)
  · by_cases w : j < z
    · obtain ⟨y, y1, y2⟩ := tp j w
      exact ⟨y, (hk j (Or.inl w)).1.trans y1, (hk j (Or.inl w)).2.trans y2⟩
    · obtain ⟨i, rfl⟩ : ∃ i, j = z + i := ⟨j - z, by omega⟩
      obtain ⟨u1, u2⟩ := hc i (by omega)
      refine ⟨_, u1.trans (pk_vb _), ?_⟩
      rw [u2, low8]
  · rw [m11, upd_ne (by omega), w0, upd_ne (by omega)]
    exact co.2.2.2.2.2.2.2.2.1
theorem i_end {M W : zMem} {a : Int32} (h : Inv M W) : wp_Main_end a M (fun x M' => wp_Model_end a W (fun y W' => x = y ∧ Inv M' W')) := by
  obtain ⟨n, H, L, co, ca⟩ := id h
  obtain ⟨z, z4, e5, w1, tp⟩ := co.2.2.2.2.2.2.1
  refine p_end e5 w1 z4 h (fun j hj _ => ⟨n, H, L, co.t (fun c hc => zup_ne (by omega)) (fun c c0 _ _ => zup_ne c0) (fun i hi => by rw [zup_eq, upd_ne (by omega)]) ⟨j, by omega, by rw [zup_eq, upd_eq], by rw [zup_eq, upd_eq], ?_⟩ ?_, ca.t (fun c hc => zup_ne (by omega))⟩)
  · rw [zup_ne (by omega), zup_ne (by omega)]
    exact fun i hi => tp i (by omega)
  · rw [zup_eq, upd_ne (by omega), zup_eq, upd_ne (by omega)]
    exact co.2.2.2.2.2.2.2.2.1
theorem i_text {M W : zMem} (h : Inv M W) : wp_Main_text M (fun x M' => wp_Model_text W (fun y W' => x = y ∧ Inv M' W')) := by
  obtain ⟨n, H, L, co, ca⟩ := id h
  obtain ⟨z, z4, e5, w1, tp⟩ := co.2.2.2.2.2.2.1
  obtain ⟨wt, fl, tn, sh⟩ := co.2.2.2.2.2.2.2
  refine p_text e5 z4 w1 tp wt co.2.2.2.2.1 (fun M' W' em m5 w2 t => ⟨n, H, L, co.t (fun c hc => em c (by omega)) (fun c c0 _ c5 => t.1 c c0 c5) (fun j hj => t.2.2 j (by omega)) ⟨0, by omega, m5, t.2.1, fun j hj => absurd hj (by omega)⟩ w2.symm, ca.t (fun c hc => em c (by omega))⟩) (fun n H L M' W' vt r bs h24 hp e18 tg t29 m5 m1 w1 wc w70 w71 w6 w0 => ⟨n, H, L, ⟨vt, r, Or.inl ⟨h24, hp⟩, bs, by rw [e18]; exact co.2.2.2.2.1, fun i hi => ?_, ⟨0, by omega, m5, w1, fun j hj => absurd hj (by omega)⟩, wt.mv (wc 2 (by omega) (by omega) (by omega) (by omega) (by omega) (by omega) (by omega)) (wc 3 (by omega) (by omega) (by omega) (by omega) (by omega) (by omega) (by omega)), m1, by rw [tg.1 0 (by omega), w0 39 (by omega)]; exact tn, sh.mv (fun c hc => tg.1 c (by omega)) (fun c hc => wc c (by omega) (by omega) (by omega) (by omega) (by omega) (by omega) (by omega))⟩, Cas.no tg.2.2.1 tg.2.2.2.2.1 tg.2.2.2.1 tg.2.1 (by rw [tg.1 32 (by omega)]; exact ca.2.2.2.2) vt.1.2.2.2.1⟩)
  rcases (show i = 0 ∨ i = 1 by omega) with rfl | rfl
  · exact ⟨tg.2.2.2.2.2.1.trans w70.symm, fun w => absurd tg.2.2.2.2.2.1 w⟩
  · exact ⟨tg.2.2.2.2.2.2.trans w71.symm, fun w => absurd tg.2.2.2.2.2.2 w⟩
theorem i_setPace {M W : zMem} {a1 a2 a3 : Int32} (h : Inv M W) : wp_Main_setPace a1 a2 a3 M (fun x M' => wp_Model_setPace a1 a2 a3 W (fun y W' => x = y ∧ Inv M' W')) := by
  obtain ⟨n, H, L, co, ca⟩ := id h
  obtain ⟨vt, r, st, bs, e18, im, rs⟩ := id co
  obtain ⟨⟨n1, n8, H1, H5, L1, L6⟩, -⟩ := id vt
  refine p_setPace vt r st h (fun h0 p0 c0 M' W1 hh hp c1 c9 m4 m29 m54 m60 m58 em h24 hpr f => ?_)
  have mc : ∀ c, c ≠ 4 → c < 29 ∨ 61 ≤ c → M' c = M c := fun c c4 hc => em c c4 (by omega) (by omega) (by omega) (by omega)
  have vp : ∀ X X' : zMem, sp_vt X 1 n H L → (∀ c, c = 1 ∨ c = 2 ∨ c = 3 ∨ c = 5 → X' c = X c) → X' 4 = upd (X 4) (h0 * 8 + p0) (nI c0) → sp_vt X' 1 n H L := fun X X' v ec e4 => by
    obtain ⟨b0, i1, i2, i3, i4, i5, i6, i7, i8, i9, i10, i11, i12, i13, i14⟩ := v
    have e1 : X' 1 = X 1 := ec 1 (by omega)
    have e2 : X' (1 + 1) = X (1 + 1) := ec 2 (by omega)
    have e3 : X' (1 + 2) = X (1 + 2) := ec 3 (by omega)
    have e5 : X' (1 + 4) = X (1 + 4) := ec 5 (by omega)
    refine ⟨b0, by rw [e1]; exact i1, by rw [e1]; exact i2, by rw [e1]; exact i3, by rw [e1]; exact i4, by rw [e1]; exact i5, by rw [e1]; exact i6, by rw [e1]; exact i7, by rw [e2]; exact i8, by rw [e3]; exact i9, by rw [e3]; exact i10, fun h p hh hp => ?_, by rw [e5]; exact i12, by rw [e5]; exact i13, by rw [e1, e5]; exact i14⟩
    show ∃ c, 1 ≤ c ∧ c ≤ 9 ∧ X' 4 (h * 8 + p) = nI c
    rw [e4]
    by_cases w : h * 8 + p = h0 * 8 + p0
    · exact ⟨c0, c1, c9, by rw [w, upd_eq]⟩
    · rw [upd_ne w]; exact i11 h p hh hp
  have vt' : sp_vt M' 1 n H L := vp M M' vt (fun c hc => mc c (by omega) (by omega)) m4
  have b18 : bsl M' M := bsl.of (fun c c1 c2 => mc c (by omega) (by omega))
  have W14 : W1 4 = W 4 := f.1 4 (by omega) (by omega) (by omega) (by omega)
  refine ⟨n, H, L, ⟨vt', ?_, Or.inl ⟨by rw [zup_ne (by omega)]; exact h24, pr_cong H5 n8 (hpr.moved H5 n8 (fun j _ => by rw [zup_ne (by omega)])) b18⟩, bst_cong bs vt' (mc 1 (by omega) (by omega)) (mc 3 (by omega) (by omega)) (mc 5 (by omega) (by omega)) (by rw [mc 18 (by omega) (by omega)]; exact e18) b18, by rw [mc 18 (by omega) (by omega)]; exact e18, fun i hi => ?_, rs.mv (by rw [mc 0 (by omega) (by omega)]) (mc 11 (by omega) (by omega)) (mc 17 (by omega) (by omega)) (fun c hc => mc c (by omega) (by omega)) ?_⟩, Cas.no m54 m58 m60 m29 (by rw [em 32 (by omega) (by omega) (by omega) (by omega) (by omega)]; exact ca.2.2.2.2) H5⟩
  · obtain ⟨r0, r1, r2, r3, r4, r5, r6, rrow, run, rpa, ren⟩ := id r
    have y4 : ∀ j, j < 60 → zup W1 4 (60 + 8 * h0 + p0) (nI c0) 4 j = W 4 j := fun j hj => by rw [zup_eq, upd_ne (by omega), W14]
    have k1 := mc 1 (by omega) (by omega)
    refine ⟨by rw [y4 0 (by omega)]; exact r0, by rw [y4 1 (by omega)]; exact r1, by rw [y4 2 (by omega), k1]; exact r2, by rw [y4 3 (by omega), k1]; exact r3, by rw [y4 4 (by omega), k1]; exact r4, by rw [y4 5 (by omega), k1]; exact r5, by rw [y4 6 (by omega)]; exact r6, fun j hj => by rw [y4 _ (by omega), mc 2 (by omega) (by omega)]; exact rrow j hj, fun s p hs' hp' => by rw [y4 _ (by omega), mc 3 (by omega) (by omega)]; exact run s p hs' hp', fun h p hh' hp' => ?_, fun h hh => by rw [y4 _ (by omega), k1, mc 5 (by omega) (by omega)]; exact ren h hh⟩
    rw [m4, zup_eq]
    by_cases w : h = h0 ∧ p = p0
    · rw [w.1, w.2, upd_eq, upd_eq]
    · rw [upd_ne (by omega), upd_ne (by omega), W14]; exact rpa h p hh' hp'
  · obtain ⟨a, b⟩ := im i hi
    have fw := f.wkf
    refine ⟨by rw [mc 28 (by omega) (by omega), zup_ne (by omega), fw.1 7 (by omega)]; exact a, fun w => ?_⟩
    rw [mc 28 (by omega) (by omega)] at w
    obtain ⟨b1, b2⟩ := b w
    refine ⟨by rw [zup_ne (by omega)]; exact h24, fun N V iv hv => ?_⟩
    obtain ⟨v1, v2, v3, v4, v5⟩ := iv
    -- the same, with the pace as it was
    have N4 : ∀ c, c ≠ 4 → (fun c => if c = 4 then M 4 else N c) c = N c := fun c hc => if_neg hc
    have N44 : (fun c => if c = 4 then M 4 else N c) 4 = M 4 := if_pos rfl
    generalize (fun c => if c = 4 then M 4 else N c) = X at N4 N44
    obtain ⟨bX, pX⟩ := b2 X V ⟨fun c c1 c2 => by
        by_cases w : c = 4
        · rw [w]; exact N44
        · rw [N4 c w, v1 c c1 c2]; exact mc c w (by omega), by rw [N4 18 (by omega)]; exact v2, fun j j1 j2 => by rw [N4 18 (by omega), v3 j j1 j2, mc _ (by omega) (by omega)], fun a x a1 a2 hx => by rw [N4 _ (by omega), v4 a x a1 a2 hx, mc _ (by omega) (by omega)], fun x hx => by rw [N4 25 (by omega), v5 x hx, mc _ (by omega) (by omega)]⟩ (fun j hj => by rw [hv j hj, zup_ne (by omega)]; exact fw.2.2 _ (by omega))
    have bs2 : bsl N X := bsl.of (fun c c1 c2 => (N4 c (by omega)).symm)
    exact ⟨bst_cong bX (vp X N bX.1.2.2.2.1 (fun c hc => (N4 c (by omega)).symm) (by rw [N44, v1 4 (by omega) (by omega)]; exact m4)) (N4 1 (by omega)).symm (N4 3 (by omega)).symm (N4 5 (by omega)).symm v2 bs2, pr_cong H5 n8 pX bs2⟩
  · have fw := f.wkf
    exact ⟨fun c hc => by rw [zup_ne (by omega)]; exact fw.1 c hc, fun j hj => by rw [zup_ne (by omega)]; exact fw.2.1 j hj, fun j hj => by rw [zup_ne (by omega)]; exact fw.2.2 j hj⟩
theorem Res.mv2 {M M' W W' : zMem} (h : Res M W) (e0 : M' 0 13 = M 0 13) (e11 : M' 11 = M 11) (e17 : M' 17 = M 17) (e : ∀ c, 81 ≤ c → M' c = M c) (f : ∀ c, c = 1 ∨ c = 2 ∨ c = 3 ∨ c = 16 ∨ c = 17 ∨ c = 18 → W' c = W c) (g : ∀ j, j = 1 ∨ j = 2 ∨ j = 39 → W' 0 j = W 0 j) : Res M' W' := by
  obtain ⟨⟨z, a, b, c, d⟩, wt, i, j, k⟩ := h
  exact ⟨⟨z, a, by rw [e11]; exact b, by rw [g 1 (by omega)]; exact c, by rw [e17, f 1 (by omega)]; exact d⟩, wt.mv (f 2 (by omega)) (f 3 (by omega)), by rw [e11, g 2 (by omega)]; exact i, by rw [e0, g 39 (by omega)]; exact j, k.mv e (fun c hc => f c (by omega))⟩
theorem img.pc {M M' W W' : zMem} {n H L : Nat} (h : img M W n H L) (vt' : sp_vt M' 1 n H L) (e : ∀ c, c = 1 ∨ c = 2 ∨ c = 3 ∨ c = 5 ∨ c = 28 ∨ (63 ≤ c ∧ c ≤ 80) → M' c = M c) (e7 : W' 7 = W 7) (e24 : W' 0 24 = 1) (e6 : ∀ j, 192 ≤ j → W' 6 j = W 6 j) : img M' W' n H L := fun i hi => by
  have H5 : H ≤ 5 := vt'.1.2.2.2.1
  have n8 : n ≤ 8 := vt'.1.2.1
  obtain ⟨a, b⟩ := h i hi
  refine ⟨by rw [e 28 (by omega), e7]; exact a, fun w => ?_⟩
  rw [e 28 (by omega)] at w
  obtain ⟨b1, b2⟩ := b w
  refine ⟨e24, fun N V iv hv => ?_⟩
  obtain ⟨v1, v2, v3, v4, v5⟩ := iv
  have N4 : ∀ c, c ≠ 4 → (fun c => if c = 4 then M 4 else N c) c = N c := fun c hc => if_neg hc
  have N44 : (fun c => if c = 4 then M 4 else N c) 4 = M 4 := if_pos rfl
  generalize (fun c => if c = 4 then M 4 else N c) = X at N4 N44
  obtain ⟨bX, pX⟩ := b2 X V ⟨fun c c1 c2 => by
      by_cases w : c = 4
      · rw [w]; exact N44
      · rw [N4 c w, v1 c c1 c2]; exact e c (by omega), by rw [N4 18 (by omega)]; exact v2, fun j j1 j2 => by rw [N4 18 (by omega), v3 j j1 j2, e _ (by omega)], fun a x a1 a2 hx => by rw [N4 _ (by omega), v4 a x a1 a2 hx, e _ (by omega)], fun x hx => by rw [N4 25 (by omega), v5 x hx, e _ (by omega)]⟩ (fun j hj => by rw [hv j hj]; exact e6 _ (by omega))
  have bs2 : bsl N X := bsl.of (fun c c1 c2 => (N4 c (by omega)).symm)
  exact ⟨bst_cong bX (vt'.moved (fun i hi => v1 _ (by omega) (by omega))) (N4 1 (by omega)).symm (N4 3 (by omega)).symm (N4 5 (by omega)).symm v2 bs2, pr_cong H5 n8 pX bs2⟩
theorem i_keep {M W : zMem} {a : Int32} (h : Inv M W) : wp_Main_keep a M (fun x M' => wp_Model_keep a W (fun y W' => x = y ∧ Inv M' W')) := by
  obtain ⟨n, H, L, co, ca⟩ := id h
  obtain ⟨vt, r, st, bs, e18, im, rs⟩ := id co
  have H5 : H ≤ 5 := vt.1.2.2.2.1
  have n8 : n ≤ 8 := vt.1.2.1
  refine p_keep vt r st (fun i hi => (im i hi).1) h (fun i M' W1 W' hi bd h24 hp f w6 w6o wk => ?_)
  obtain ⟨d1, -, d3, d4, d5⟩ := bd
  generalize hA : zup M' 28 i 1 = A
  generalize hB : zup W' 7 i 1 = B
  have Ac : ∀ c, c ≠ 28 → A c = M' c := fun c hc => by rw [← hA, zup_ne hc]
  have Am : ∀ c, c ≠ 28 → c < 63 + 9 * i ∨ 63 + 9 * i + 8 ≤ c → A c = M c := fun c c28 hc => by rw [Ac c c28]; exact d5 c hc
  have Bc : ∀ c, c ≠ 7 → B c = W' c := fun c hc => by rw [← hB, zup_ne hc]
  have told : ∀ i, i ≤ 4 → A (1 + i) = M (1 + i) := fun i hi => Am _ (by omega) (by omega)
  have vt' := vt.moved told
  have b18 : bsl A M := bsl.of (fun c c1 c2 => Am c (by omega) (by omega))
  have e18' : ztc (A 18 0) = 1 := by rw [Am 18 (by omega) (by omega)]; exact e18
  have B6 : ∀ j, j < 96 → B 6 j = W1 6 j := fun j hj => by rw [Bc 6 (by omega)]; exact w6o j (by omega)
  have h24' : B 0 24 = 1 := by rw [Bc 0 (by omega), wk 0 (by omega)]; exact h24
  have fw := f.wkf
  refine ⟨n, H, L, ⟨vt', r.moved (by rw [Bc 4 (by omega), wk 4 (by omega)]; exact f.1 4 (by omega) (by omega) (by omega) (by omega)) told, Or.inl ⟨h24', pr_cong H5 n8 (hp.moved H5 n8 B6) b18⟩, bst_cong bs vt' (told 0 (by omega)) (told 2 (by omega)) (told 4 (by omega)) e18' b18, e18', fun i' hi' => ?_, rs.mv2 (by rw [Am 0 (by omega) (by omega)]) (Am 11 (by omega) (by omega)) (Am 17 (by omega) (by omega)) (fun c hc => Am c (by omega) (by omega)) (fun c hc => by rw [Bc c (by omega), wk c (by omega)]; exact fw.1 c (by omega)) (fun j hj => by rw [Bc 0 (by omega), wk 0 (by omega)]; exact fw.2.1 j hj)⟩, ca.mv told (fun k hk => Am k (by omega) (by omega))⟩
  by_cases w : i' = i
  · subst w
    refine ⟨by rw [← hA, ← hB, zup_eq, zup_eq, upd_eq, upd_eq], fun _ => ⟨h24', fun N V iv hv => ?_⟩⟩
    obtain ⟨v1, v2, v3, v4, v5⟩ := iv
    have bN : bsl N M := ⟨fun j j1 j2 => by rw [v3 j j1 j2, Ac _ (by omega)]; exact d1 j j1 j2, fun a x a1 a2 hx => by rw [v4 a x a1 a2 hx, Ac _ (by omega)]; exact d3 a x a1 a2 hx, fun x hx => by rw [v5 x hx, Ac _ (by omega)]; exact d4 x hx⟩
    have toldN : ∀ i, i ≤ 4 → N (1 + i) = M (1 + i) := fun i hi => (v1 _ (by omega) (by omega)).trans (told i hi)
    refine ⟨bst_cong bs (vt.moved toldN) (toldN 0 (by omega)) (toldN 2 (by omega)) (toldN 4 (by omega)) v2 bN, pr_cong H5 n8 (hp.moved H5 n8 (fun j hj => ?_)) bN⟩
    rw [hv j hj, Bc 6 (by omega)]
    exact w6 j hj
  · obtain ⟨a, b⟩ := im i' hi'
    have a28 : A 28 i' = M 28 i' := by rw [← hA, zup_eq, upd_ne w, d5 28 (by omega)]
    have b7 : B 7 i' = W 7 i' := by rw [← hB, zup_eq, upd_ne w, wk 7 (by omega), fw.1 7 (by omega)]
    refine ⟨by rw [a28, b7]; exact a, fun w2 => ?_⟩
    rw [a28] at w2
    obtain ⟨-, b2⟩ := b w2
    refine ⟨h24', fun N V iv hv => b2 N V ?_ (fun j hj => ?_)⟩
    · obtain ⟨v1, v2, v3, v4, v5⟩ := iv
      exact ⟨fun c c1 c2 => by rw [v1 c c1 c2]; exact Am c (by omega) (by omega), v2, fun j j1 j2 => by rw [v3 j j1 j2, Am _ (by omega) (by omega)], fun a x a1 a2 hx => by rw [v4 a x a1 a2 hx, Am _ (by omega) (by omega)], fun x hx => by rw [v5 x hx, Am _ (by omega) (by omega)]⟩
    · rw [hv j hj, Bc 6 (by omega), w6o _ (by omega)]
      exact fw.2.2 _ (by omega)
theorem i_back {M W : zMem} {a : Int32} (h : Inv M W) : wp_Main_back a M (fun x M' => wp_Model_back a W (fun y W' => x = y ∧ Inv M' W')) := by
  obtain ⟨n, H, L, co, ca⟩ := id h
  obtain ⟨vt, r, st, bs, e18, im, rs⟩ := id co
  refine p_back (fun i hi => (im i hi).1) h (fun i M' W' hi hk bd w6 w6o wk => ?_)
  obtain ⟨d1, d2, d3, d4, d5⟩ := bd
  obtain ⟨h24, b2⟩ := (im i hi).2 hk
  have e18' : ztc (M' 18 0) = 1 := by rw [d2 0 (by omega)]; exact e18
  have told : ∀ i, i ≤ 4 → M' (1 + i) = M (1 + i) := fun i hi => d5 _ (by omega)
  obtain ⟨bs', hp⟩ := b2 M' W' ⟨fun c c1 c2 => d5 c (by omega), e18', d1, d3, d4⟩ w6
  have h24' : W' 0 24 = 1 := by rw [wk 0 (by omega)]; exact h24
  refine ⟨hp.1.1.symm, n, H, L, ⟨vt.moved told, r.moved (wk 4 (by omega)) told, Or.inl ⟨h24', hp⟩, bs', e18', im.mv (fun c hc => d5 c (by omega)) (fun i _ => by rw [d5 28 (by omega)]) (wk 7 (by omega)) (fun _ => h24') (fun j hj => w6o j (by omega)), rs.mv2 (by rw [d5 0 (by omega)]) (d5 11 (by omega)) (d5 17 (by omega)) (fun c hc => d5 c (by omega)) (fun c hc => wk c (by omega)) (fun j _ => by rw [wk 0 (by omega)])⟩, ca.mv told (fun k hk => d5 k (by omega))⟩
/-- the sheets move, nothing else -/
theorem Cor.s {M M' W W' : zMem} {n H L : Nat} (h : Cor M W n H L) (e : ∀ c, c < 81 → M' c = M c) (f : ∀ c, c < 16 → W' c = W c) (sh : shs M' W') : Cor M' W' n H L := by
  obtain ⟨vt, r, st, bs, e18, im, ⟨⟨z, a, b, c, d⟩, wt, i, j, -⟩⟩ := h
  have told : ∀ i, i ≤ 4 → M' (1 + i) = M (1 + i) := fun i hi => e _ (by omega)
  have vt' := vt.moved told
  exact ⟨vt', r.moved (f 4 (by omega)) told, st.mv vt (fun c hc => e c (by omega)) (by rw [f 0 (by omega)]) (fun j _ => by rw [f 6 (by omega)]), bst_cong bs vt' (told 0 (by omega)) (told 2 (by omega)) (told 4 (by omega)) (by rw [e 18 (by omega)]; exact e18) (bsl.of (fun c c1 c2 => e c (by omega))), by rw [e 18 (by omega)]; exact e18, im.mv (fun c hc => e c (by omega)) (fun i _ => by rw [e 28 (by omega)]) (f 7 (by omega)) (fun w => by rw [f 0 (by omega)]; exact w) (fun j _ => by rw [f 6 (by omega)]), ⟨z, a, by rw [e 11 (by omega)]; exact b, by rw [f 0 (by omega)]; exact c, by rw [e 17 (by omega), f 1 (by omega)]; exact d⟩, wt.mv (f 2 (by omega)) (f 3 (by omega)), by rw [e 11 (by omega), f 0 (by omega)]; exact i, by rw [e 0 (by omega), f 0 (by omega)]; exact j, sh⟩
theorem i_sheet {M W : zMem} {a1 a2 a3 : Int32} (h : Inv M W) : wp_Main_sheet a1 a2 a3 M (fun x M' => wp_Model_sheet a1 a2 a3 W (fun y W' => x = y ∧ Inv M' W')) := by
  obtain ⟨n, H, L, co, ca⟩ := id h
  have sh : shs M W := co.2.2.2.2.2.2.2.2.2.2
  refine p_sheet h (fun i l z M' W' hi hl hz m1 m2 mo w16 w17 w18 w18o wo => ⟨n, H, L, co.s (fun c hc => mo c (by omega) (by omega)) (fun c hc => wo c (by omega) (by omega) (by omega)) (fun i' hi' => ?_), ca.mv (fun k hk => mo _ (by omega) (by omega)) (fun k hk => mo k (by omega) (by omega))⟩)
  by_cases w : i' = i
  · subst w
    refine Or.inr ⟨l, z, hl, hz, ?_, ?_, ?_, ?_, fun j hj => ?_⟩
    · rw [m1, upd_ne (by omega), upd_eq]
    · rw [w16, upd_eq]
    · rw [m1, upd_eq]
    · rw [w17, upd_eq]
    · rw [w18 j (by omega), m2 j (by omega)]
  · have k1 := mo (81 + 2 * i') (by omega) (by omega)
    have k2 := mo (81 + 2 * i' + 1) (by omega) (by omega)
    rcases sh i' hi' with ⟨a, b, c⟩ | ⟨l', z', a, b, c, d, e, f, g⟩
    · exact Or.inl ⟨by rw [k1]; exact a, by rw [k1]; exact b, by rw [w16, upd_ne w]; exact c⟩
    · exact Or.inr ⟨l', z', a, b, by rw [k1]; exact c, by rw [w16, upd_ne w]; exact d, by rw [k1]; exact e, by rw [w17, upd_ne w]; exact f, fun j hj => by rw [w18o _ (by omega), k2]; exact g j hj⟩
theorem i_lay {M W : zMem} {a1 a2 a3 : Int32} (h : Inv M W) : wp_Main_lay a1 a2 a3 M (fun x M' => wp_Model_lay a1 a2 a3 W (fun y W' => x = y ∧ Inv M' W')) := by
  obtain ⟨n, H, L, co, ca⟩ := id h
  have sh : shs M W := co.2.2.2.2.2.2.2.2.2.2
  refine p_lay sh h (fun i j v hi hj => ⟨n, H, L, co.s (fun c hc => zup_ne (by omega)) (fun c hc => zup_ne (by omega)) (fun i' hi' => ?_), ca.mv (fun k hk => zup_ne (by omega)) (fun k hk => zup_ne (by omega))⟩)
  have k1 : zup M (81 + 2 * i + 1) j v (81 + 2 * i') = M (81 + 2 * i') := zup_ne (by omega)
  have k16 : zup W 18 (40 * i + j) v 16 = W 16 := zup_ne (by omega)
  have k17 : zup W 18 (40 * i + j) v 17 = W 17 := zup_ne (by omega)
  rcases sh i' hi' with ⟨a, b, c⟩ | ⟨l', z', a, b, c, d, e, f, g⟩
  · exact Or.inl ⟨by rw [k1]; exact a, by rw [k1]; exact b, by rw [k16]; exact c⟩
  · refine Or.inr ⟨l', z', a, b, by rw [k1]; exact c, by rw [k16]; exact d, by rw [k1]; exact e, by rw [k17]; exact f, fun j' hj' => ?_⟩
    by_cases w : i' = i ∧ j' = j
    · rw [w.1, w.2, zup_eq, zup_eq, upd_eq, upd_eq]
    · rw [zup_eq, upd_ne (by omega)]
      by_cases w2 : i' = i
      · have : j' ≠ j := fun q => w ⟨w2, q⟩
        rw [w2, zup_eq, upd_ne this, ← w2]; exact g j' hj'
      · rw [zup_ne (by omega)]; exact g j' hj'
theorem i_read {M W : zMem} {a1 a2 a3 a4 a5 : Int32} (h : Inv M W) : wp_Main_read a1 a2 a3 a4 a5 M (fun x M' => wp_Model_read a1 a2 a3 a4 a5 W (fun y W' => x = y ∧ Inv M' W')) := by
  obtain ⟨n, H, L, co, ca⟩ := id h
  obtain ⟨vt, r, st, bs, e18, im, rs⟩ := id co
  have H5 : H ≤ 5 := vt.1.2.2.2.1
  have n8 : n ≤ 8 := vt.1.2.1
  have sh : shs M W := co.2.2.2.2.2.2.2.2.2.2
  refine p_read vt r st sh h (fun W1 h24 hp f => ⟨n, H, L, co.aw h24 hp f, ca⟩) (fun R g M' W1 W' h24 hp f vt' r' m13 w39 m0 mR0 mR mo wo w0 => ?_)
  have fw := f.wkf
  have b18 : bsl M' M := bsl.of (fun c c1 c2 => mo c (by omega) (by omega) (by omega) (by omega) (by omega) (by omega))
  have mk : ∀ c, c ≠ 0 → c ≠ 4 → c < 29 ∨ 61 ≤ c → M' c = M c := fun c c0 c4 hc => mo c c0 c4 (by omega) (by omega) (by omega) (by omega)
  have e18' : ztc (M' 18 0) = 1 := by rw [mk 18 (by omega) (by omega) (by omega)]; exact e18
  have h24' : W' 0 24 = 1 := by rw [w0 24 (by omega)]; exact h24
  obtain ⟨⟨z, q1, q2, q3, q4⟩, wt, fl, -, -⟩ := rs
  refine ⟨n, H, L, ⟨vt', r', Or.inl ⟨h24', pr_cong H5 n8 (hp.moved H5 n8 (fun j _ => by rw [wo 6 (by omega) (by omega)])) b18⟩, bst_cong bs vt' (mk 1 (by omega) (by omega) (by omega)) (mk 3 (by omega) (by omega) (by omega)) (mk 5 (by omega) (by omega) (by omega)) e18' b18, e18', im.pc vt' (fun c hc => mk c (by omega) (by omega) (by omega)) (by rw [wo 7 (by omega) (by omega)]; exact fw.1 7 (by omega)) h24' (fun j hj => by rw [wo 6 (by omega) (by omega)]; exact fw.2.2 j hj), ⟨z, q1, by rw [mk 11 (by omega) (by omega) (by omega)]; exact q2, by rw [w0 1 (by omega), fw.2.1 1 (by omega)]; exact q3, by rw [mk 17 (by omega) (by omega) (by omega), wo 1 (by omega) (by omega), fw.1 1 (by omega)]; exact q4⟩, wt.mv (by rw [wo 2 (by omega) (by omega)]; exact fw.1 2 (by omega)) (by rw [wo 3 (by omega) (by omega)]; exact fw.1 3 (by omega)), by rw [mk 11 (by omega) (by omega) (by omega), w0 2 (by omega), fw.2.1 2 (by omega)]; exact fl, by rw [m13, w39], sh.mv (fun c hc => mk c (by omega) (by omega) (by omega)) (fun c hc => by rw [wo c (by omega) (by omega)]; exact fw.1 c (by omega))⟩, ?_⟩
  rcases Nat.eq_zero_or_pos R with w | w
  · exact ca.mv (fun i hi => mR0 w _ (by omega)) (fun k hk => mR0 w k (by omega))
  · obtain ⟨s1, s2, s3, s4⟩ := mR w
    exact Cas.no s2 s4 s3 s1 (by rw [mo 32 (by omega) (by omega) (by omega) (by omega) (by omega) (by omega)]; exact ca.2.2.2.2) H5
set_option maxHeartbeats 4000000 in
theorem Inv_law {M W : zMem} {op : Int32} {a : Nat → Int32} (h : Inv M W) : zLaw op a M W (fun M' W' => Inv M' W') := by
  obtain ⟨n, H, L, cor, ca⟩ := id h
  obtain ⟨vt, r, st, bs, e18, im, rs⟩ := id cor
  obtain ⟨hcr, hco, hcp, hcc, h32⟩ := id ca
  obtain ⟨⟨z, z4, e5, w1, tp⟩, wt, fl, tn, sh⟩ := id rs
  have e28 : ∀ i, i < 2 → M 28 i = W 7 i := fun i hi => (im i hi).1
  have q : ∀ M' W', (∀ c, c < 6 ∨ (11 ≤ c ∧ c < 29) ∨ 62 ≤ c → M' c = M c) → mfy W W' → Cas M' n H L → Inv M' W' := fun M' W' e f c => ⟨n, H, L, cor.q e f, c⟩
  have bn : ∀ M' W', bst M' n H L → W' 0 24 = 1 → pr W' M' n H → M' 18 0 = M 18 0 → (∀ k, (k < 18 ∨ 27 ≤ k) → M' k = M k) → awf W W' → Inv M' W' := fun M' W' b h24 hp e8 e f => ⟨n, H, L, cor.b b h24 hp e8 e f, ca.b e⟩
  have aw : ∀ W', W' 0 24 = 1 → pr W' M n H → awf W W' → Inv M W' := fun W' h24 hp f => ⟨n, H, L, cor.aw h24 hp f, ca⟩
  have run : ∀ M' W', cc M' n H L → cfc M M' → mfy W W' → Inv M' W' := fun M' W' c f g => q M' W' (fun c hc => f.2 c (by omega)) g ⟨hcr.mv (fun i hi => f.2 _ (by omega)) (f.2 54 (by omega)), hco.mv (fun i hi => f.2 _ (by omega)) (f.2 57 (by omega)) (f.2 58 (by omega)), hcp.mv (fun i hi => f.2 _ (by omega)) (f.2 60 (by omega)) (f.2 61 (by omega)), c, by rw [f.1]; exact h32⟩
  have ring : ∀ M' W', cfr 54 M M' → mfy W W' → cr M' n H L → Inv M' W' := fun M' W' f g c => q M' W' (fun c hc => f c (by omega) (by omega)) g ⟨c, hco.mv (fun i hi => f _ (by omega) (by omega)) (f 57 (by omega) (by omega)) (f 58 (by omega) (by omega)), hcp.mv (fun i hi => f _ (by omega) (by omega)) (f 60 (by omega) (by omega)) (f 61 (by omega) (by omega)), hcc.mv (fun i hi => f _ (by omega) (by omega)) (fun k k1 k2 => f k (by omega) (by omega)), by rw [f 32 (by omega) (by omega)]; exact h32⟩
  have ord : ∀ M' W', ofr M M' → mfy W W' → co M' n H L → Inv M' W' := fun M' W' f g c => q M' W' (fun c hc => f c (by omega)) g ⟨hcr.mv (fun i hi => f _ (by omega)) (f 54 (by omega)), c, hcp.mv (fun i hi => f _ (by omega)) (f 60 (by omega)) (f 61 (by omega)), hcc.mv (fun i hi => f _ (by omega)) (fun k k1 k2 => f k (by omega)), by rw [f 32 (by omega)]; exact h32⟩
  have es : (M 81 0 = -1 ∧ W 16 0 = -4) ∨ (M 81 0 ≠ -1 ∧ W 16 0 ≠ -4 ∧ M 81 1 = W 17 0) := by
    rcases sh 0 (by omega) with ⟨a, b, c⟩ | ⟨l, z, hl, hz, c, d, e, f, -⟩
    · exact Or.inl ⟨a, c⟩
    · have c' : M 81 0 = nI l := c
      have e' : M 81 1 = nI z := e
      refine Or.inr ⟨fun w => ?_, fun w => ?_, e'.trans f.symm⟩
      · rw [c'] at w
        exact absurd w (by rcases (show l = 0 ∨ l = 1 ∨ l = 2 by omega) with rfl | rfl | rfl <;> decide)
      · rw [d] at w
        exact absurd w (by rcases (show l = 0 ∨ l = 1 ∨ l = 2 by omega) with rfl | rfl | rfl <;> decide)
  refine ⟨fun _ => i_feed h, fun _ => i_end h, fun _ => i_text h, fun _ => p_fault fl h, fun _ => p_rule vt r h, fun _ => p_units vt r h, fun _ => p_pace vt r h, fun _ => i_setPace h, fun _ => p_begin vt r st e18 bn, fun _ => p_go vt r st bs h bn, fun _ => p_night vt r st bs bn, fun _ => p_now vt r st bs aw, fun _ => p_hand vt r st aw, fun _ => p_learnt vt r st h, fun _ => p_takes vt r st h, fun _ => i_keep h, fun _ => i_back h, fun _ => p_run vt r h32 hcc h run, fun _ => p_waits vt r h32 hcc h run, fun _ => p_over vt r h32 hcc h run (fun M' c f => run M' W c f mfy.rf), fun _ => p_judge vt r h32 hcc run, fun _ => p_settles vt r hcr ring, fun _ => p_where vt r hcr h32 hcc h (fun M' W' c1 c2 e f g => ?_), fun _ => p_makes vt r hcr ring, fun _ => p_could vt r h, fun _ => p_order vt r hco ord, fun _ => p_best vt r hco ord, fun _ => p_stands vt r (fun M' W' f g => q M' W' (fun c hc => f c (by omega)) g (ca.mv (fun i hi => f _ (by omega)) (fun k hk => f k (by omega)))), fun _ => p_parts vt r hcp (fun M' W' f g c => ?_), fun _ => p_less vt r (fun M' W' f g => q M' W' (fun c hc => f c (by omega)) g (ca.mv (fun i hi => f _ (by omega)) (fun k hk => f k (by omega)))), fun _ => i_sheet h, fun _ => i_lay h, fun _ => i_read h, fun _ => p_torn tn h, fun _ => p_count vt r e28 (e5.trans w1.symm) es h, fun _ => h⟩
  · exact q M' W' (fun c hc => f c (by omega)) g ⟨c1, hco.mv (fun i hi => f _ (by omega)) (f 57 (by omega)) (f 58 (by omega)), hcp.mv (fun i hi => f _ (by omega)) (f 60 (by omega)) (f 61 (by omega)), c2, by rw [e]; exact h32⟩
  · exact q M' W' (fun c hc => f c (by omega)) g ⟨hcr.mv (fun i hi => f _ (by omega)) (f 54 (by omega)), hco.mv (fun i hi => f _ (by omega)) (f 57 (by omega)) (f 58 (by omega)), c, hcc.mv (fun i hi => f _ (by omega)) (fun k k1 k2 => f k (by omega)), by rw [f 32 (by omega)]; exact h32⟩
theorem wtb_0 : wtb zW0 := by
  have h1 : ((List.range 11).all fun i => decide (zW0 2 i = nI (sp_sum (fun j => zsL.getD j 0) i))) = true := by decide +kernel
  have h2 : ((List.range 10).all fun i => (List.range (zsL.getD i 0)).all fun j => decide (zW0 3 (sp_sum (fun j => zsL.getD j 0) i + j) = zsc i j)) = true := by decide +kernel
  exact ⟨fun i hi => of_decide_eq_true (List.all_eq_true.mp h1 i (List.mem_range.mpr (by omega))), fun i hi j hj => of_decide_eq_true (List.all_eq_true.mp (List.all_eq_true.mp h2 i (List.mem_range.mpr hi)) j (List.mem_range.mpr hj))⟩
theorem Inv_0 : wp_Told_tellAsAtFirst 1 zM0 (fun zm1 => (∀ c, 6 ≤ c → zm1 c = zM0 c) ∧ wp_Bench_clear 18 zm1 (fun zm2 => wp_Bench_doAll 18 zm2 (fun M => Inv M zW0))) := by
  refine xt_tell (fun M1 t1 => ?_)
  have kk := t1.2.2.2.2.2.2.2.2.2.2.2
  refine ⟨fun c hc => kk c (by omega), xt_clear (fun Mc hc => ?_)⟩
  have ck := hc.2.2.2.2.2.2.2.2.2
  have vt1 := tf_vt t1
  have e18 : M1 18 0 = 0 := by rw [kk 18 (by omega)]; rfl
  have ok := sp_ok_clear hc (by rw [e18]; rfl) (by omega) (by omega) vt1 (fun g hg => by rw [zlg_18] at hg; cases hg)
  refine xt_doAll ok ?_
  obtain ⟨ok2, fr2, hs2⟩ := sp_all_ok ok
  have ek : ∀ k, (k < 18 ∨ 27 ≤ k) → sp_all 1 18 3 Mc k = M1 k := fun k hk => by
    rw [fr2.1 k (by omega) (fun q => absurd q (by omega))]
    exact ck k (by omega)
  have ez : ∀ c, (c = 0 ∨ 6 ≤ c ∧ c < 18 ∨ 27 ≤ c) → sp_all 1 18 3 Mc c = zM0 c := fun c hc => by
    rw [ek c (by omega)]; exact kk c (by omega)
  have z : ∀ c j, (c = 0 ∨ 6 ≤ c ∧ c < 18 ∨ 27 ≤ c) → zM0 c j = 0 → sp_all 1 18 3 Mc c j = 0 := fun c j h1 h2 => by rw [ez c h1]; exact h2
  refine ⟨3, 3, 1, ⟨ok2.2.2.2.1, (tf_rt t1).moved rfl (fun i hi => ek _ (by omega)), Or.inr ⟨rfl, fun j _ => rfl, M1, Mc, hc, ok, rfl⟩, ⟨ok2, hs2⟩, ok2.1, fun i hi => ⟨by rw [z 28 i (by omega) rfl]; rfl, fun w => absurd (z 28 i (by omega) rfl) w⟩, ⟨0, by omega, z 11 5 (by omega) rfl, rfl, fun j hj => absurd hj (by omega)⟩, wtb_0, z 11 1 (by omega) rfl, z 0 13 (by omega) rfl, fun i hi => Or.inl ?_⟩, Cas.no (z 54 0 (by omega) rfl) (fun q _ => z 58 q (by omega) rfl) (z 60 0 (by omega) rfl) (z 29 2 (by omega) rfl) (by rw [z 32 0 (by omega) rfl]; rfl) (by omega)⟩
  rw [ez (81 + 2 * i) (by omega)]
  rcases (show i = 0 ∨ i = 1 ∨ i = 2 ∨ i = 3 by omega) with rfl | rfl | rfl | rfl <;> exact ⟨rfl, rfl, rfl⟩
theorem whole_start {p : Program} {e : Env} {s : State} {m : MethodId} {below : List Frame} {meth : Method} {c : Code} (l : Launch) (hflags : l.flags = flags0) {b L : Nat} {xs : Nat → Int32} (hL : L ≤ 384) (C0 : lw_At p s m meth c b L xs) : W p l e room_1 s m #[Value.ref b] below meth c s.heap [] 0 0 (lw_Z below #[Value.ref b] s) (entryFrame m ([Value.ref b] : List Value).toArray 4) := start_of l hL C0 (fun _ M W => Inv M W) Inv_0 (fun i M W' hi hin => Inv_law hin)
