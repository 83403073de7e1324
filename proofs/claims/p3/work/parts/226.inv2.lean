theorem low8 (x : Int32) : x.toInt8.toInt32 &&& 255 = x &&& 255 := by
  refine Int32.toBitVec_inj.1 (BitVec.eq_of_toNat_eq ?_)
  show (((x.toBitVec.signExtend 8).signExtend 32) &&& 255#32).toNat = (x.toBitVec &&& 255#32).toNat
  have h1 : ((x.toBitVec.signExtend 8).signExtend 32).toInt = x.toBitVec.toInt.bmod (2 ^ min 8 32) := by rw [BitVec.toInt_signExtend_of_le (by omega), BitVec.toInt_signExtend]
  rw [BitVec.toInt_eq_toNat_bmod, BitVec.toInt_eq_toNat_bmod] at h1
  rw [BitVec.toNat_and, BitVec.toNat_and, show (255#32 : BitVec 32).toNat = 2 ^ 8 - 1 from rfl, Nat.and_two_pow_sub_one_eq_mod, Nat.and_two_pow_sub_one_eq_mod]
  generalize ((x.toBitVec.signExtend 8).signExtend 32).toNat = a at h1 ⊢
  generalize x.toBitVec.toNat = b at h1 ⊢
  unfold Int.bmod at h1
  simp only [Nat.reducePow, Nat.reduceLeDiff, Nat.min_eq_left] at h1 ⊢
  omega
/-- the tape and the fault move, nothing else -/
theorem Cor.t {M M' W W' : zMem} {n H L : Nat} (h : Cor M W n H L) (e : ∀ c, c < 11 ∨ 18 ≤ c → M' c = M c) (f : ∀ c, c ≠ 0 → c ≠ 1 → c ≠ 5 → W' c = W c) (f0 : ∀ j, j = 24 ∨ j = 39 → W' 0 j = W 0 j) (tp : ∃ z, z ≤ 400 ∧ M' 11 5 = nI z ∧ W' 0 1 = nI z ∧ tpe (M' 17) (W' 1) z) (fl : M' 11 1 = W' 0 2) : Cor M' W' n H L := by
  obtain ⟨vt, r, st, bs, e18, im, ⟨-, wt, -, tn, sh⟩⟩ := h
  have told : ∀ i, i ≤ 4 → M' (1 + i) = M (1 + i) := fun i hi => e _ (by omega)
  have vt' := vt.moved told
  refine ⟨vt', r.moved (f 4 (by omega) (by omega) (by omega)) told, st.mv vt (fun c hc => e c (by omega)) (f0 24 (by omega)) (fun j _ => by rw [f 6 (by omega) (by omega) (by omega)]), bst_cong bs vt' (told 0 (by omega)) (told 2 (by omega)) (told 4 (by omega)) (by rw [e 18 (by omega)]; exact e18) (bsl.of (fun c c1 c2 => e c (by omega))), by rw [e 18 (by omega)]; exact e18, im.mv (fun c hc => e c (by omega)) (fun i _ => by rw [e 28 (by omega)]) (f 7 (by omega) (by omega) (by omega)) (fun w => (f0 24 (by omega)).trans w) (fun j _ => by rw [f 6 (by omega) (by omega) (by omega)]), tp, wt.mv (f 2 (by omega) (by omega) (by omega)) (f 3 (by omega) (by omega) (by omega)), fl, by rw [e 0 (by omega), f0 39 (by omega)]; exact tn, sh.mv (fun c hc => e c (by omega)) (fun c hc => f c (by omega) (by omega) (by omega))⟩
theorem Cas.t {M M' : zMem} {n H L : Nat} (h : Cas M n H L) (e : ∀ c, c < 11 ∨ 18 ≤ c → M' c = M c) : Cas M' n H L := h.mv (fun i hi => e _ (by omega)) (fun k hk => e k (by omega))
theorem i_feed {M W : zMem} {a : Int64} (h : Inv M W) : wp_Main_feed a M (fun x M' => wp_Model_feed a W (fun y W' => x = y ∧ Inv M' W')) := by
  obtain ⟨n, H, L, co, ca⟩ := id h
  obtain ⟨z, z4, e5, w1, tp⟩ := co.2.2.2.2.2.2.1
  refine p_feed e5 w1 z4 h (fun M' W' hz m11 w0 hc hk em ew => ⟨n, H, L, co.t (fun c hc => em c (by omega) (by omega)) (fun c c0 c1 _ => ew c c0 c1) (fun j hj => by rw [w0, upd_ne (by omega)]) ⟨z + 8, hz, by rw [m11, upd_eq], by rw [w0, upd_eq], fun j hj => ?_⟩ ?_, ca.t (fun c hc => em c (by omega) (by omega))⟩)
  · by_cases w : j < z
    · obtain ⟨y, y1, y2⟩ := tp j w
      exact ⟨y, (hk j (Or.inl w)).1.trans y1, (hk j (Or.inl w)).2.trans y2⟩
    · obtain ⟨i, rfl⟩ : ∃ i, j = z + i := ⟨j - z, by omega⟩
      obtain ⟨u1, u2⟩ := hc i (by omega)
      refine ⟨_, u1.trans (pk_vb _), ?_⟩
      rw [u2, low8]
  · rw [m11, upd_ne (by omega), w0, upd_ne (by omega)]
    exact co.2.2.2.2.2.2.2.2.1
theorem i_end {M W : zMem} {a : Int32} (h : Inv M W) : wp_Main_end a M (fun x M' => wp_Model_end a W (fun y W' => x = y ∧ Inv M' W')) := by
  obtain ⟨n, H, L, co, ca⟩ := id h
  obtain ⟨z, z4, e5, w1, tp⟩ := co.2.2.2.2.2.2.1
  refine p_end e5 w1 z4 h (fun j hj _ => ⟨n, H, L, co.t (fun c hc => zup_ne (by omega)) (fun c c0 _ _ => zup_ne c0) (fun i hi => by rw [zup_eq, upd_ne (by omega)]) ⟨j, by omega, by rw [zup_eq, upd_eq], by rw [zup_eq, upd_eq], ?_⟩ ?_, ca.t (fun c hc => zup_ne (by omega))⟩)
  · rw [zup_ne (by omega), zup_ne (by omega)]
    exact fun i hi => tp i (by omega)
  · rw [zup_eq, upd_ne (by omega), zup_eq, upd_ne (by omega)]
    exact co.2.2.2.2.2.2.2.2.1
theorem i_text {M W : zMem} (h : Inv M W) : wp_Main_text M (fun x M' => wp_Model_text W (fun y W' => x = y ∧ Inv M' W')) := by
  obtain ⟨n, H, L, co, ca⟩ := id h
  obtain ⟨z, z4, e5, w1, tp⟩ := co.2.2.2.2.2.2.1
  obtain ⟨wt, fl, tn, sh⟩ := co.2.2.2.2.2.2.2
  refine p_text e5 z4 w1 tp wt co.2.2.2.2.1 (fun M' W' em m5 w2 t => ⟨n, H, L, co.t (fun c hc => em c (by omega)) (fun c c0 _ c5 => t.1 c c0 c5) (fun j hj => t.2.2 j (by omega)) ⟨0, by omega, m5, t.2.1, fun j hj => absurd hj (by omega)⟩ w2.symm, ca.t (fun c hc => em c (by omega))⟩) (fun n H L M' W' vt r bs h24 hp e18 tg t29 m5 m1 w1 wc w70 w71 w6 w0 => ⟨n, H, L, ⟨vt, r, Or.inl ⟨h24, hp⟩, bs, by rw [e18]; exact co.2.2.2.2.1, fun i hi => ?_, ⟨0, by omega, m5, w1, fun j hj => absurd hj (by omega)⟩, wt.mv (wc 2 (by omega) (by omega) (by omega) (by omega) (by omega) (by omega) (by omega)) (wc 3 (by omega) (by omega) (by omega) (by omega) (by omega) (by omega) (by omega)), m1, by rw [tg.1 0 (by omega), w0 39 (by omega)]; exact tn, sh.mv (fun c hc => tg.1 c (by omega)) (fun c hc => wc c (by omega) (by omega) (by omega) (by omega) (by omega) (by omega) (by omega))⟩, Cas.no tg.2.2.1 tg.2.2.2.2.1 tg.2.2.2.1 tg.2.1 (by rw [tg.1 32 (by omega)]; exact ca.2.2.2.2) vt.1.2.2.2.1⟩)
  rcases (show i = 0 ∨ i = 1 by omega) with rfl | rfl
  · exact ⟨tg.2.2.2.2.2.1.trans w70.symm, fun w => absurd tg.2.2.2.2.2.1 w⟩
  · exact ⟨tg.2.2.2.2.2.2.trans w71.symm, fun w => absurd tg.2.2.2.2.2.2 w⟩
theorem i_setPace {M W : zMem} {a1 a2 a3 : Int32} (h : Inv M W) : wp_Main_setPace a1 a2 a3 M (fun x M' => wp_Model_setPace a1 a2 a3 W (fun y W' => x = y ∧ Inv M' W')) := by
  obtain ⟨n, H, L, co, ca⟩ := id h
  obtain ⟨vt, r, st, bs, e18, im, rs⟩ := id co
  obtain ⟨⟨n1, n8, H1, H5, L1, L6⟩, -⟩ := id vt
  refine p_setPace vt r st h (fun h0 p0 c0 M' W1 hh hp c1 c9 m4 m29 m54 m60 m58 em h24 hpr f => ?_)
  have mc : ∀ c, c ≠ 4 → c < 29 ∨ 61 ≤ c → M' c = M c := fun c c4 hc => em c c4 (by omega) (by omega) (by omega) (by omega)
  have vp : ∀ X X' : zMem, sp_vt X 1 n H L → (∀ c, c = 1 ∨ c = 2 ∨ c = 3 ∨ c = 5 → X' c = X c) → X' 4 = upd (X 4) (h0 * 8 + p0) (nI c0) → sp_vt X' 1 n H L := fun X X' v ec e4 => by
    obtain ⟨b0, i1, i2, i3, i4, i5, i6, i7, i8, i9, i10, i11, i12, i13, i14⟩ := v
    have e1 : X' 1 = X 1 := ec 1 (by omega)
    have e2 : X' (1 + 1) = X (1 + 1) := ec 2 (by omega)
    have e3 : X' (1 + 2) = X (1 + 2) := ec 3 (by omega)
    have e5 : X' (1 + 4) = X (1 + 4) := ec 5 (by omega)
    refine ⟨b0, by rw [e1]; exact i1, by rw [e1]; exact i2, by rw [e1]; exact i3, by rw [e1]; exact i4, by rw [e1]; exact i5, by rw [e1]; exact i6, by rw [e1]; exact i7, by rw [e2]; exact i8, by rw [e3]; exact i9, by rw [e3]; exact i10, fun h p hh hp => ?_, by rw [e5]; exact i12, by rw [e5]; exact i13, by rw [e1, e5]; exact i14⟩
    show ∃ c, 1 ≤ c ∧ c ≤ 9 ∧ X' 4 (h * 8 + p) = nI c
    rw [e4]
    by_cases w : h * 8 + p = h0 * 8 + p0
    · exact ⟨c0, c1, c9, by rw [w, upd_eq]⟩
    · rw [upd_ne w]; exact i11 h p hh hp
  have vt' : sp_vt M' 1 n H L := vp M M' vt (fun c hc => mc c (by omega) (by omega)) m4
  have b18 : bsl M' M := bsl.of (fun c c1 c2 => mc c (by omega) (by omega))
  have W14 : W1 4 = W 4 := f.1 4 (by omega) (by omega) (by omega) (by omega)
  refine ⟨n, H, L, ⟨vt', ?_, Or.inl ⟨by rw [zup_ne (by omega)]; exact h24, pr_cong H5 n8 (hpr.moved H5 n8 (fun j _ => by rw [zup_ne (by omega)])) b18⟩, bst_cong bs vt' (mc 1 (by omega) (by omega)) (mc 3 (by omega) (by omega)) (mc 5 (by omega) (by omega)) (by rw [mc 18 (by omega) (by omega)]; exact e18) b18, by rw [mc 18 (by omega) (by omega)]; exact e18, fun i hi => ?_, rs.mv (by rw [mc 0 (by omega) (by omega)]) (mc 11 (by omega) (by omega)) (mc 17 (by omega) (by omega)) (fun c hc => mc c (by omega) (by omega)) ?_⟩, Cas.no m54 m58 m60 m29 (by rw [em 32 (by omega) (by omega) (by omega) (by omega) (by omega)]; exact ca.2.2.2.2) H5⟩
  · obtain ⟨r0, r1, r2, r3, r4, r5, r6, rrow, run, rpa, ren⟩ := id r
    have y4 : ∀ j, j < 60 → zup W1 4 (60 + 8 * h0 + p0) (nI c0) 4 j = W 4 j := fun j hj => by rw [zup_eq, upd_ne (by omega), W14]
    have k1 := mc 1 (by omega) (by omega)
    refine ⟨by rw [y4 0 (by omega)]; exact r0, by rw [y4 1 (by omega)]; exact r1, by rw [y4 2 (by omega), k1]; exact r2, by rw [y4 3 (by omega), k1]; exact r3, by rw [y4 4 (by omega), k1]; exact r4, by rw [y4 5 (by omega), k1]; exact r5, by rw [y4 6 (by omega)]; exact r6, fun j hj => by rw [y4 _ (by omega), mc 2 (by omega) (by omega)]; exact rrow j hj, fun s p hs' hp' => by rw [y4 _ (by omega), mc 3 (by omega) (by omega)]; exact run s p hs' hp', fun h p hh' hp' => ?_, fun h hh => by rw [y4 _ (by omega), k1, mc 5 (by omega) (by omega)]; exact ren h hh⟩
    rw [m4, zup_eq]
    by_cases w : h = h0 ∧ p = p0
    · rw [w.1, w.2, upd_eq, upd_eq]
    · rw [upd_ne (by omega), upd_ne (by omega), W14]; exact rpa h p hh' hp'
  · obtain ⟨a, b⟩ := im i hi
    have fw := f.wkf
    refine ⟨by rw [mc 28 (by omega) (by omega), zup_ne (by omega), fw.1 7 (by omega)]; exact a, fun w => ?_⟩
    rw [mc 28 (by omega) (by omega)] at w
    obtain ⟨b1, b2⟩ := b w
    refine ⟨by rw [zup_ne (by omega)]; exact h24, fun N V iv hv => ?_⟩
    obtain ⟨v1, v2, v3, v4, v5⟩ := iv
    -- the same, with the pace as it was
    have N4 : ∀ c, c ≠ 4 → (fun c => if c = 4 then M 4 else N c) c = N c := fun c hc => if_neg hc
    have N44 : (fun c => if c = 4 then M 4 else N c) 4 = M 4 := if_pos rfl
    generalize (fun c => if c = 4 then M 4 else N c) = X at N4 N44
    obtain ⟨bX, pX⟩ := b2 X V ⟨fun c c1 c2 => by
        by_cases w : c = 4
        · rw [w]; exact N44
        · rw [N4 c w, v1 c c1 c2]; exact mc c w (by omega), by rw [N4 18 (by omega)]; exact v2, fun j j1 j2 => by rw [N4 18 (by omega), v3 j j1 j2, mc _ (by omega) (by omega)], fun a x a1 a2 hx => by rw [N4 _ (by omega), v4 a x a1 a2 hx, mc _ (by omega) (by omega)], fun x hx => by rw [N4 25 (by omega), v5 x hx, mc _ (by omega) (by omega)]⟩ (fun j hj => by rw [hv j hj, zup_ne (by omega)]; exact fw.2.2 _ (by omega))
    have bs2 : bsl N X := bsl.of (fun c c1 c2 => (N4 c (by omega)).symm)
    exact ⟨bst_cong bX (vp X N bX.1.2.2.2.1 (fun c hc => (N4 c (by omega)).symm) (by rw [N44, v1 4 (by omega) (by omega)]; exact m4)) (N4 1 (by omega)).symm (N4 3 (by omega)).symm (N4 5 (by omega)).symm v2 bs2, pr_cong H5 n8 pX bs2⟩
  · have fw := f.wkf
    exact ⟨fun c hc => by rw [zup_ne (by omega)]; exact fw.1 c hc, fun j hj => by rw [zup_ne (by omega)]; exact fw.2.1 j hj, fun j hj => by rw [zup_ne (by omega)]; exact fw.2.2 j hj⟩
