/-- numbers into a row: what may change -/
def l5 (W W' : zMem) : Prop := (∀ c, c ≠ 0 → c ≠ 5 → W' c = W c) ∧ ∀ j, (j < 3 ∨ 8 < j) → W' 0 j = W 0 j
theorem l5.l {W W' : zMem} (h : l5 W W') : lw W W' := ⟨h.1, fun j hj => h.2 j (by omega)⟩
theorem l5.rf {W : zMem} : l5 W W := ⟨fun _ _ _ => rfl, fun _ _ => rfl⟩
theorem l5.tr {W W1 W2 : zMem} (a : l5 W W1) (b : l5 W1 W2) : l5 W W2 := ⟨fun c h h2 => (b.1 c h h2).trans (a.1 c h h2), fun j h => (b.2 j h).trans (a.2 j h)⟩
theorem tkw.l5 {W W' : zMem} (a : tkw W W') : l5 W W' := ⟨fun c h _ => a.1 c h, a.2⟩
theorem l5_u {W : zMem} {j : Nat} {x : Int32} : l5 W (zup W 5 j x) := ⟨fun c _ h => zup_ne h, fun i _ => by rw [zup_ne (by omega)]⟩
theorem mt_nums {k z p0 c a ci m : Nat} {lo hi : Int32} {C : zMem → Bool → zMem → Prop} {X M' W : zMem} {b : Bool} {Q : zMem → Prop} (n : NXT k z X W) (s : WS k z X W) (r : rin k z p0 X) (h : rNs k z c lo hi C m ci X b M') (ha : a + m ≤ 100) (hc : k < c) (hc5 : c ≤ k + 5)
    (ht : ∀ X' W', C X' b M' → NXT k z X' W' → rin k z p0 X' → l5 W W' → (∀ j, (j < a ∨ a + m ≤ j) → W' 5 j = W 5 j) → (∀ j, j < m → W' 5 (a + j) = X' c (ci + j)) → (∀ d, d ≠ k → d ≠ c → X' d = X d) → (∀ j, (j < ci ∨ ci + m ≤ j) → X' c j = X c j) → (∀ j, j ≠ 6 → j ≠ 7 → j ≠ 8 → j ≠ 9 → X' k j = X k j) → Q W')
    (hf : ∀ W', b = false → BAD k M' W' → lw W W' → (∀ j, (j < a ∨ a + m ≤ j) → W' 5 j = W 5 j) → Q W') : wp_Model_numbers (nI a) (nI m) lo hi W Q := by
  refine zlp1_r (fun q x W' => ∃ i, x = nI i ∧ i ≤ m ∧ q = m - i ∧ (∀ j, (j < a ∨ a + m ≤ j) → W' 5 j = W 5 j) ∧ ((b = false ∧ BAD k M' W' ∧ lw W W') ∨ ∃ X', NXT k z X' W' ∧ rin k z p0 X' ∧ rNs k z c lo hi C (m - i) (ci + i) X' b M' ∧ l5 W W' ∧ (∀ j, j < i → W' 5 (a + j) = X' c (ci + j)) ∧ (∀ d, d ≠ k → d ≠ c → X' d = X d) ∧ (∀ j, (j < ci ∨ ci + i ≤ j) → X' c j = X c j) ∧ (∀ j, j ≠ 6 → j ≠ 7 → j ≠ 8 → j ≠ 9 → X' k j = X k j))) ?_ (n := m) ⟨0, rfl, by omega, rfl, fun _ _ => rfl, Or.inr ⟨X, n, r, h, l5.rf, fun j hj => absurd hj (by omega), fun _ _ _ => rfl, fun _ _ => rfl, fun _ _ _ _ _ => rfl⟩⟩
  rintro q x W' ⟨i, rfl, hi, rfl, g0, hcase⟩ J hJ
  unfold wpB_Model_numbers_3
  rcases hcase with ⟨hb, bd, l⟩ | ⟨X', n', r', h', l, g1, g2, g3, g4⟩
  · refine ⟨fun _ => hf W' hb bd l g0, fun cc => ?_⟩
    have hi2 : i < m := (nI_ltI (by omega) (by omega)).mp (Int32.not_le.mp cc)
    refine mt_num_bad bd.w ?_
    rw [q_add, q_ix (by omega)]
    refine ⟨vp_in_nI (by omega) (by omega), fun W3 e3 => ?_⟩
    have b3 : BAD k M' W3 := by rw [e3]; exact bd.kb kb.u5
    refine mt_next_no b3.w (fun y ey => ?_)
    rw [ey, nI_1]
    exact hJ (m - (i + 1)) _ _ (by omega) ⟨i + 1, rfl, by omega, rfl, fun j hj => by rw [e3, zup_eq, upd_ne (by omega)]; exact g0 j hj, Or.inl ⟨hb, b3, l.tr (by rw [e3]; exact lw.u5)⟩⟩
  · refine ⟨fun cc => ?_, fun cc => ?_⟩
    · have := (nI_leI (by omega) (by omega)).mp cc
      have ei : i = m := by omega
      subst ei
      rw [show i - i = 0 by omega] at h'
      exact ht X' W' h' n' r' l g0 g1 g2 g3 g4
    · have hi2 : i < m := (nI_ltI (by omega) (by omega)).mp (Int32.not_le.mp cc)
      obtain ⟨f, ef⟩ : ∃ f, m - i = f + 1 := ⟨m - i - 1, by omega⟩
      rw [ef] at h'
      obtain ⟨b1, M1, h1, h2⟩ := h'
      rw [q_add, q_ix (by omega)]
      refine mt_numN n' s.2.1 h1 (fun hb1 a1 => ⟨vp_in_nI (by omega) (by omega), fun W3 e3 => ?_⟩) (fun W2 hb1 f2 bd => ⟨vp_in_nI (by omega) (by omega), fun W3 e3 => ?_⟩)
      · subst hb1
        rcases h2 with ⟨h2, -⟩ | ⟨-, h2⟩
        · cases h2
        obtain ⟨r1, t1, -⟩ := rN_in r' h1
        have w5 : l5 W W3 := l.tr (by rw [e3]; exact l5_u)
        generalize hY : zup M1 c (ci + i) (M1 k 9) = Y at h2
        have lY : lf k X Y := by
          intro d hd
          rw [← hY, zup_ne (by omega), t1.1 d (by omega)]
          exact g2 d (by omega) (by omega)
        have rY : rin k z p0 Y := rin_mv r1 (by rw [← hY, zup_ne (by omega)]) (by rw [← hY, zup_ne (by omega)])
        refine mt_nx (M := Y) (by rw [e3, zup_ne (by omega)]; exact a1.1) (by rw [e3, zup_ne (by omega), ← hY, zup_ne (by omega)]; exact a1.2.1) (s.mv lY w5.l) rY (fun W4 f4 n4 y ey => ?_)
        rw [ey, nI_1]
        have y5 : W4 5 = W3 5 := f4.1 5 (by omega)
        refine hJ (m - (i + 1)) _ _ (by omega) ⟨i + 1, rfl, by omega, rfl, fun j hj => by rw [y5, e3, zup_eq, upd_ne (by omega)]; exact g0 j hj, Or.inr ⟨Y, n4, rY, by rw [show m - (i + 1) = f by omega, show ci + (i + 1) = ci + i + 1 by omega]; exact h2, w5.tr f4.l5, fun j hj => ?_, fun d h1 h2 => ?_, fun j hj => ?_, fun j a b c' d => ?_⟩⟩
        · rw [y5, e3, zup_eq]
          by_cases e : j = i
          · rw [e, upd_eq, ← hY, zup_eq, upd_eq]
          · rw [upd_ne (by omega), ← hY, zup_eq, upd_ne (by omega), t1.1 c (by omega)]
            exact g1 j (by omega)
        · rw [← hY, zup_ne h2, t1.1 d h1]; exact g2 d h1 h2
        · rw [← hY, zup_eq, upd_ne (by omega), t1.1 c (by omega)]; exact g3 j (by omega)
        · rw [← hY, zup_ne (by omega), t1.2 j a b c' d]; exact g4 j a b c' d
      · subst hb1
        rcases h2 with ⟨-, hb, hM⟩ | ⟨h2, -⟩
        · have b3 : BAD k M' W3 := by rw [hM, e3]; exact bd.kb kb.u5
          refine mt_next_no b3.w (fun y ey => ?_)
          rw [ey, nI_1]
          exact hJ (m - (i + 1)) _ _ (by omega) ⟨i + 1, rfl, by omega, rfl, fun j hj => by rw [e3, zup_eq, upd_ne (by omega), f2.1 5 (by omega)]; exact g0 j hj, Or.inl ⟨hb, b3, (l.l.tr f2.l).tr (by rw [e3]; exact lw.u5)⟩⟩
        · cases h2
theorem or_0 (x : Int32) : x ||| 0 = x := by
  apply Int32.toBitVec_inj.mp
  simp
theorem mt_whole {k z p0 n H L : Nat} {t1 t2 : Bool} {M M' W : zMem} {b : Bool} {Q : zMem → Prop} (a : AT k M W) (s : WS k z M W) (r : rin k z p0 M) (d : DW k M n H L t1 t2) (e : EQ k M W n H L t1 t2) (h : rWh k z M b M') (q : PL k z M' W b Q) : wp_Model_readWhole W (fun W1 => wpJ_Model_readLine_218 Q W1) := by
  have hD : b = true → DW k M' n H L t1 t2 := fun hb => (DW_whole r d (by rw [hb] at h; exact h)).2
  have en := d.2.1
  have w0 : W 5 (ix 0) = M (k + 1) 0 := e.1 0 (by omega)
  obtain ⟨b1, M1, h1, h⟩ := h
  refine mt_nx a.1 a.2.1 s r (fun W1 f1 n1 => ⟨vp_in_nI (n := 0) (by omega) (by omega), ?_⟩)
  have v0 : W1 5 (ix 0) = M (k + 1) 0 := by rw [f1.1 5 (by omega)]; exact w0
  rw [v0]
  have badt : ∀ (x : Int32) (W2 : zMem), b = false → BAD k M' W2 → lw W W2 → wpJ_Model_readWhole_44 (fun W1 => wpJ_Model_readLine_218 Q W1) x W2 := fun x W2 hb bd l => by
    refine ⟨vp_in_nI (n := 5) (by omega) (by omega), fun _ => ⟨vp_in_nI (n := 5) (by omega) (by omega), fun W5 e5 => ?_⟩, fun w => absurd w bd.w.ne⟩
    exact mt_endb hb (by rw [e5]; exact bd.kb kb.u5) (l.tr (by rw [e5]; exact lw.u5)) q
  refine mt_numN n1 s.2.1 h1 (fun hb1 a1 => ?_) (fun W2 hb1 f2 bd => ?_)
  · subst hb1
    rcases h with ⟨h, -⟩ | ⟨-, h⟩
    · cases h
    obtain ⟨s1, g1, -, lo, hi⟩ := rN_in r h1
    have e1 := e.tk g1 f1
    have w5 : W1 5 (ix 5) = M1 (k + 1) 5 := e1.1 5 (by omega)
    refine ⟨fun w => absurd a1.1 w, fun _ => ⟨vp_in_nI (n := 5) (by omega) (by omega), fun c => ?_, fun c => ?_⟩⟩
    · rw [w5] at c
      rcases h with ⟨c', -⟩ | ⟨-, h⟩
      · exact absurd c' c
      refine ⟨vp_in_nI (n := 5) (by omega) (by omega), fun w => absurd a1.1 w, fun _ => ⟨vp_in_nI (n := 5) (by omega) (by omega), fun W8 e8 => ?_⟩⟩
      rw [w5] at e8
      generalize hX : zup M1 (k + 1) 5 ((M1 (k + 1) 5) ||| (1 <<< ((M1 k 9) &&& 31))) = X at h
      have e8' : W8 = zup W1 5 5 ((M1 (k + 1) 5) ||| (1 <<< ((M1 k 9) &&& 31))) := e8
      have lX : lf k M X := g1.lf.tr (by rw [← hX]; exact lf.up (by omega) (by omega))
      have lW : lw W W8 := f1.l.tr (by rw [e8']; exact lw.u5)
      refine mt_end (X := X) (by rw [e8', zup_ne (by omega)]; exact a1.1) (by rw [e8', zup_ne (by omega), ← hX, zup_ne (by omega)]; exact a1.2.1) (s.mv lX lW) (rin_mv s1 (by rw [← hX, zup_ne (by omega)]) (by rw [← hX, zup_ne (by omega)])) h lW ?_ hD q
      obtain ⟨i0, i1, i2, i3, i4, i5, i6, i7⟩ := e1
      have xk : ∀ i, i = 0 ∨ i = 2 ∨ i = 3 ∨ i = 4 ∨ i = 5 → X (k + i) = M1 (k + i) := fun i hi => by rw [← hX, zup_ne (by omega)]
      have x0 : X k = M1 k := xk 0 (by omega)
      have y5 : ∀ j, j ≠ 5 → W8 5 j = W1 5 j := fun j j1 => by rw [e8', zup_eq, upd_ne j1]
      have yk : W8 0 = W1 0 := by rw [e8', zup_ne (by omega)]
      refine ⟨fun j hj => ?_, fun i hi => by rw [y5 _ (by omega), xk 2 (by omega)]; exact i1 i hi, fun s' p hs hp => ?_, fun h p hh hp => by rw [y5 _ (by omega), xk 4 (by omega)]; exact i3 h p hh hp, fun w h hh => ?_, by rw [yk, x0]; exact i5, by rw [yk, x0]; exact i6, by rw [yk, x0]; exact i7⟩
      · by_cases w : j = 5
        · subst w
          rw [e8', zup_eq, upd_eq, ← hX, zup_eq, upd_eq]
        · rw [y5 j w, ← hX, zup_eq, upd_ne w]; exact i0 j hj
      · rw [y5 _ (by omega), xk 3 (by omega)]
        exact i2 s' p hs hp
      · rw [y5 _ (by omega), xk 5 (by omega)]
        exact i4 (by rw [← hX, zup_eq, upd_ne (by omega)] at w; exact w) h hh
    · rw [w5] at c
      rcases h with ⟨-, hb, hM⟩ | ⟨c', -⟩
      · have bd := BAD_fs (k := k) (c := 4) (M := M1) (W := W1) a1.2.2.1 (by omega) (by omega)
        exact e_fails (c := nI 4) a1.1 (badt _ _ hb (by rw [hM]; exact bd) (f1.l.tr tkw.fs.l))
      · exact absurd c c'
  · subst hb1
    rcases h with ⟨-, hb, hM⟩ | ⟨h, -⟩
    · exact ⟨fun _ => badt _ _ hb (by rw [hM]; exact bd) (f1.tr f2).l, fun w => absurd w bd.w.ne⟩
    · cases h
