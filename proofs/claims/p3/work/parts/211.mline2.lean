theorem mt_numN {k z : Nat} {lo hi : Int32} {M M1 W : zMem} {b : Bool} {Q : Int32 → zMem → Prop} (n : NXT k z M W) (hz : z ≤ 400) (h : rN k z lo hi M b M1) (ht : b = true → AT k M1 W → Q (M1 k 9) W) (hf : ∀ W', b = false → tkw W W' → BAD k M1 W' → Q lo W') : wp_Model_number lo hi W Q := by
  obtain ⟨b0, M0, t, h⟩ := h
  obtain ⟨n1, n2⟩ := nx_tkn hz n t
  rcases h with ⟨rfl, rfl, rfl⟩ | ⟨rfl, h⟩
  · have bd := n2 rfl
    exact mt_num_bad bd.w (hf W rfl tkw.rf bd)
  · have a := n1 rfl
    exact mt_num a h (fun hb e => by
      have := ht hb (by rw [e]; exact a)
      rw [e] at this; exact this) hf
theorem mt_end {k z p0 n H L : Nat} {t1 t2 : Bool} {X M' W W3 : zMem} {b : Bool} {Q : zMem → Prop} (h3 : W3 0 3 = 0) (h5 : W3 0 5 = X k 6) (s : WS k z X W3) (r : rin k z p0 X) (h : rS k z X b M') (l : lw W W3) (e : EQ k X W3 n H L t1 t2) (hD : b = true → DW k M' n H L t1 t2) (q : PL k z M' W b Q) : wp_Model_next W3 (fun W4 => wpJ_Model_readLine_218 Q W4) :=
  mt_nx h3 h5 s r (fun W4 f4 n4 => mt_sign n4 (s.mv (fun _ _ => rfl) f4.l) r h (fun W' hb f' n' => q.1 W' hb ((l.tr f4.l).tr f'.l) n' ⟨_, _, _, _, _, hD hb, e.tk (rS_in r (by rw [hb] at h; exact h)).2 (f4.tr f')⟩) (fun W' hb f' bd => q.2 W' hb ((l.tr f4.l).tr f'.l) bd))
theorem mt_endb {k z : Nat} {M' W W3 : zMem} {b : Bool} {Q : zMem → Prop} (hb : b = false) (bd : BAD k M' W3) (l : lw W W3) (q : PL k z M' W b Q) : wp_Model_next W3 (fun W4 => wpJ_Model_readLine_218 Q W4) := mt_next_no bd.w (mt_sign_bad bd.w (q.2 W3 hb l bd))
theorem mt_piece {k z p0 n H L : Nat} {t1 t2 : Bool} {M M' W : zMem} {b : Bool} {Q : zMem → Prop} (a : AT k M W) (s : WS k z M W) (r : rin k z p0 M) (d : DW k M n H L t1 t2) (e : EQ k M W n H L t1 t2) (h : rPi k z M b M') (q : PL k z M' W b Q) : wp_Model_readPiece W (fun W1 => wpJ_Model_readLine_218 Q W1) := by
  have hD : b = true → DW k M' (n + 1) H L t1 t2 := fun hb => (DW_piece r d (by rw [hb] at h; exact h)).2
  obtain ⟨⟨b1, b2, b3, b4⟩, en, eH, -, -, -, -, -, -, -, -, -, es, k12, k12', -⟩ := id d
  have w0 : W 5 (ix 0) = nI n := (e.1 0 (by omega)).trans en
  have w1 : W 5 (ix 1) = nI H := (e.1 1 (by omega)).trans eH
  have w14 : W 0 14 = nI (stb t1 t2) := e.2.2.2.2.2.2.1.trans es
  have w15 : W 0 15 = M k 13 := e.2.2.2.2.2.2.2
  unfold wp_Model_readPiece
  rw [w0, w1, w14, w15]
  rcases h with ⟨hc, hb, hM⟩ | ⟨c12, cn, h⟩
  · have bad : wpJ_Model_readPiece_34 (fun W1 => wpJ_Model_readLine_218 Q W1) W := by
      have bd := BAD_fs (k := k) (c := 5) (M := M) (W := W) a.2.2.1 (by omega) (by omega)
      have bd' : BAD k M' (wfs (nI 5) W) := by rw [hM]; exact bd
      exact e_fails (c := nI 5) a.1 (mt_next_no bd.w (mt_num_bad bd.w ⟨fun _ => mt_endb hb bd' tkw.fs.l q, fun w => absurd w bd.w.ne⟩))
    refine ⟨vp_in_nI (n := 0) (by omega) (by omega), fun _ => bad, fun c8 => ⟨fun _ => bad, fun cs => ⟨vp_in_nI (n := 1) (by omega) (by omega), fun _ => bad, fun cH => ⟨fun c13 => ?_, fun _ => bad⟩⟩⟩⟩
    exfalso
    have n8 : n ≠ 8 := fun w => c8 (by rw [w]; rfl)
    have c12 : ¬ M k 12 = 0 := by
      rcases hc with w | w
      · exact w
      · exact absurd (by rw [en]; exact (nI_ltI (b := 8) (by omega) (by omega)).mpr (by omega)) w
    have st : stb t1 t2 = 0 := (nI_eq (b := 0) (by unfold stb; split <;> split <;> omega) (by omega)).mp cs
    rcases k12' c12 with w | w | w | w
    · rw [w] at st; unfold stb at st; simp at st
    · rw [w] at st; unfold stb at st; simp at st
    · exact cH ((nI_0lt (by omega)).mpr w)
    · exact w c13
  · obtain ⟨q1, q2, q3, q4⟩ := k12 c12
    have n8 : n < 8 := by
      rw [en] at cn
      exact (nI_ltI (b := 8) (by omega) (by omega)).mp cn
    have st : stb t1 t2 = 0 := by rw [q1, q2]; rfl
    have go : wpJ_Model_readPiece_39 (fun W1 => wpJ_Model_readLine_218 Q W1) W := by
      obtain ⟨b1', M1, h1, h⟩ := h
      refine mt_nx a.1 a.2.1 s r (fun W1 f1 n1 => mt_numN n1 s.2.1 h1 (fun hb1 a1 => ?_) (fun W2 hb1 f2 bd => ?_))
      · subst hb1
        rcases h with ⟨h, -⟩ | ⟨-, h⟩
        · cases h
        obtain ⟨s1, g1, -, lo, hi⟩ := rN_in r h1
        have e1 := e.tk g1 f1
        have en1 : M1 (k + 1) 0 = nI n := by rw [g1.1 (k + 1) (by omega)]; exact en
        have w5 : W1 5 (ix 0) = nI n := by rw [f1.1 5 (by omega)]; exact w0
        have e30 : (30 : Int32) + nI n = nI (30 + n) := q_add 30 n
        rw [en1, q_ix (by omega), nI_1] at h
        rw [w5, e30, q_ix (by omega)]
        refine ⟨fun w => absurd a1.1 w, fun _ => ⟨vp_in_nI (n := 0) (by omega) (by omega), vp_in_nI (by omega) (by omega), fun W9 e9 => ⟨vp_in_nI (n := 0) (by omega) (by omega), vp_in_nI (n := 0) (by omega) (by omega), fun W10 e10 => ?_⟩⟩⟩
        have y0 : W9 5 (ix 0) = nI n := by rw [e9, zup_eq]; exact (upd_ne (show (0 : Nat) ≠ 30 + n by omega)).trans w5
        rw [y0, nI_1] at e10
        have e10' : W10 = zup (zup W1 5 (30 + n) (M1 k 9)) 5 0 (nI (n + 1)) := by rw [e10, e9]; rfl
        generalize hX : zup (zup M1 (k + 3) n (M1 k 9)) (k + 1) 0 (nI (n + 1)) = X at h
        have lX : lf k M X := g1.lf.tr (by rw [← hX]; exact (lf.up (by omega) (by omega)).tr (lf.up (by omega) (by omega)))
        have lW : lw W W10 := f1.l.tr (by rw [e10']; exact lw.u5.tr lw.u5)
        refine mt_end (X := X) (n := n + 1) (by rw [e10', zup_ne (by omega), zup_ne (by omega)]; exact a1.1) (by rw [e10', zup_ne (by omega), zup_ne (by omega), ← hX, zup_ne (by omega), zup_ne (by omega)]; exact a1.2.1) (s.mv lX lW) (rin_mv s1 (by rw [← hX, zup_ne (by omega), zup_ne (by omega)]) (by rw [← hX, zup_ne (by omega), zup_ne (by omega)])) h lW ?_ hD q
        obtain ⟨i0, i1, i2, i3, i4, i5, i6, i7⟩ := e1
        have xk : ∀ i, i = 0 ∨ i = 2 ∨ i = 4 ∨ i = 5 → X (k + i) = M1 (k + i) := fun i hi => by rw [← hX, zup_ne (by omega), zup_ne (by omega)]
        have x0 : X k = M1 k := xk 0 (by omega)
        have y5 : ∀ j, j ≠ 0 → j ≠ 30 + n → W10 5 j = W1 5 j := fun j j1 j2 => by rw [e10', zup_eq, upd_ne j1, zup_eq, upd_ne j2]
        have yk : W10 0 = W1 0 := by rw [e10', zup_ne (by omega), zup_ne (by omega)]
        refine ⟨fun j hj => ?_, fun i hi => ?_, fun s' p hs hp => ?_, fun h p hh => absurd hh (by omega), fun w h hh => absurd hh (by omega), by rw [yk, x0]; exact i5, by rw [yk, x0]; exact i6, by rw [yk, x0]; exact i7⟩
        · by_cases w : j = 0
          · subst w
            rw [e10', zup_eq, upd_eq, ← hX, zup_eq, upd_eq]
          · rw [y5 j w (by omega), ← hX, zup_eq, upd_ne w, zup_ne (by omega)]; exact i0 j hj
        · rw [y5 _ (by omega) (by omega), xk 2 (by omega)]; exact i1 i hi
        · have hs0 : s' = 0 := by
            rcases hs with w | w | w
            · exact w
            · rw [q1] at w; exact absurd w.2 (by decide)
            · rw [q2] at w; exact absurd w.2 (by decide)
          subst hs0
          have x3 : X (k + 3) = upd (M1 (k + 3)) n (M1 k 9) := by rw [← hX, zup_ne (by omega), zup_eq]
          rw [x3]
          by_cases w : p = n
          · rw [w, show 30 + 8 * 0 + n = 30 + n by omega, show 0 * 8 + n = n by omega, upd_eq, e10', zup_eq, upd_ne (by omega), zup_eq, upd_eq]
          · rw [y5 _ (by omega) (by omega), upd_ne (by omega)]
            exact i2 0 p (Or.inl rfl) (by omega)
      · subst hb1
        rcases h with ⟨-, hb, hM⟩ | ⟨h, -⟩
        · exact ⟨fun _ => mt_endb hb (by rw [hM]; exact bd) (f1.tr f2).l q, fun w => absurd w bd.w.ne⟩
        · cases h
    refine ⟨vp_in_nI (n := 0) (by omega) (by omega), fun c8 => ?_, fun c8 => ⟨fun cs => ?_, fun cs => ⟨vp_in_nI (n := 1) (by omega) (by omega), fun cH => ?_, fun cH => ⟨fun c13 => go, fun c13 => absurd q4 c13⟩⟩⟩⟩
    · have := (nI_eq (b := 8) (by omega) (by omega)).mp c8
      omega
    · exact absurd (by rw [st]; rfl) cs
    · have := (nI_0lt (by omega)).mp cH
      omega
