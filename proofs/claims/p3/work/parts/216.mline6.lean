theorem PL.mv {k z : Nat} {M' W W1 : zMem} {b : Bool} {Q : zMem → Prop} (q : PL k z M' W b Q) (l : lw W W1) : PL k z M' W1 b Q := ⟨fun W' hb l' n e => q.1 W' hb (l.tr l') n e, fun W' hb l' bd => q.2 W' hb (l.tr l') bd⟩
/-- under a fault the rest of a line does nothing -/
theorem mt_bad71 {nm H : Nat} {Q : zMem → Prop} {W : zMem} (h : bw W) (eH : W 5 1 = nI H) (H5 : H ≤ 5) (hn : nm = 3 ∨ nm = 5 ∨ nm = 6 ∨ nm = 7 ∨ nm = 8 ∨ nm = 9) (hQ : ∀ W', kb W W' → Q W') : wpJ_Model_readLine_71 Q (nI nm) W := by
  have row : wp_Model_readRow W (fun W2 => wpJ_Model_readLine_218 Q W2) := by
    refine mt_next_no h ⟨vp_in_nI (n := 6) (by omega) (by omega), fun W3 e3 => ?_⟩
    have k3 : kb W W3 := by rw [e3]; exact kb.u5
    have b3 := k3.w h
    refine ⟨1, ?_⟩
    show wpB_Model_readRow_14 _ _ _ _
    exact ⟨fun w => absurd w (by decide), fun _ => ⟨fun _ => mt_sign_bad b3 (hQ W3 k3), fun w => absurd w b3.ne⟩⟩
  have on : ∀ (j : Nat) (hi : Int32), j ≤ 3 → wp_Model_next W (fun W1 => wp_Model_number 0 hi W1 (fun v W2 => vp_in (nI j) 100 ∧ ∀ W3 : zMem, W3 = zup W2 5 (ix (nI j)) v → wp_Model_next W3 (fun W4 => wpJ_Model_readLine_218 Q W4))) := fun j hi hj => by
    refine mt_next_no h (mt_num_bad h ⟨vp_in_nI (by omega) (by omega), fun W3 e3 => ?_⟩)
    have k3 : kb W W3 := by rw [e3]; exact kb.u5
    exact mt_next_no (k3.w h) (mt_sign_bad (k3.w h) (hQ W3 k3))
  have ends : ∀ v : Int32, ∀ W1, W1 = zup W 5 (ix 4) v → wp_Model_readEnds W1 (fun W2 => wpJ_Model_readLine_218 Q W2) := fun v W1 e1 W2 e2 => by
    have e1' : W1 = zup W 5 4 v := e1
    have k2 : kb W W2 := by rw [e2, e1']; exact kb.u5.tr (kb.u0 (by omega))
    have s2 : W2 5 1 = nI H := by rw [e2, zup_ne (by omega), e1', zup_eq, upd_ne (by omega)]; exact eH
    refine mt_next_no (k2.w h) ?_
    refine zlp1_r (fun m x W' => ∃ i, x = nI i ∧ i ≤ H ∧ m = H - i ∧ kb W W' ∧ W' 5 1 = nI H) ?_ (n := H) ⟨0, rfl, by omega, rfl, k2, s2⟩
    rintro m x W' ⟨i, rfl, hi, rfl, k', s'⟩ J hJ
    unfold wpB_Model_readEnds_11
    have z1 : W' 5 (ix 1) = nI H := s'
    rw [z1]
    have le : (nI H - 1 ≤ nI i) ↔ H - 1 ≤ i := by
      rcases Nat.eq_zero_or_pos H with h0 | h0
      · subst h0
        exact ⟨fun _ => by omega, fun _ => Int32.le_trans (show nI 0 - 1 ≤ 0 by decide) (nI_pos' (by omega))⟩
      · have e : nI H - 1 = nI (H - 1) := q_sub (a := H) (b := 1) h0
        rw [e]
        exact nI_leI (by omega) (by omega)
    have e20 : (20 : Int32) + nI i = nI (20 + i) := q_add 20 i
    have bj : ∀ x : Int32, i < H - 1 → wpJ_Model_readEnds_42 J (fun W2 => wpJ_Model_readLine_218 Q W2) (nI i) x W' := fun x hi2 => by
      refine ⟨vp_in_nI (n := 0) (by omega) (by omega), mt_num_bad (k'.w h) ?_⟩
      rw [e20, q_ix (by omega)]
      refine ⟨vp_in_nI (by omega) (by omega), fun W6 e6 => ?_⟩
      have k6 : kb W W6 := k'.tr (by rw [e6]; exact kb.u5)
      refine mt_next_no (k6.w h) (fun y ey => ?_)
      rw [ey, nI_1]
      exact hJ (H - (i + 1)) _ _ (by omega) ⟨i + 1, rfl, by omega, rfl, k6, by rw [e6, zup_eq, upd_ne (by omega)]; exact s'⟩
    have lt : ¬ (nI H - 1 ≤ nI i) → i < H - 1 := fun c => by
      rcases Nat.lt_or_ge i (H - 1) with u | u
      · exact u
      · exact absurd (le.mpr u) c
    refine ⟨vp_in_nI (n := 1) (by omega) (by omega), fun _ => mt_sign_bad (k'.w h) (hQ W' k'), fun c => ⟨fun c0 => ?_, fun _ => bj _ (lt c)⟩⟩
    have i0 : i ≠ 0 := fun w => c0 (by rw [w]; rfl)
    rw [e20, show nI (20 + i) - 1 = nI (20 + i - 1) from q_sub (a := 20 + i) (b := 1) (by omega)]
    exact ⟨vp_in_nI (by omega) (by omega), bj _ (lt c)⟩
  intro x ex
  subst ex
  rcases hn with rfl | rfl | rfl | rfl | rfl | rfl
  · exact ⟨fun w => absurd w (by decide), fun w => absurd w (by decide), fun w => absurd w (by decide), fun _ => row, fun w => absurd w (by decide), fun w => absurd w (by decide), fun w => absurd w (by decide), fun w => absurd w (by decide), fun _ _ _ w => absurd rfl w⟩
  · refine ⟨fun w => absurd w (by decide), fun w => absurd w (by decide), fun w => absurd w (by decide), fun w => absurd w (by decide), fun w => absurd w (by decide), fun _ => ?_, fun w => absurd w (by decide), fun w => absurd w (by decide), fun _ _ _ _ _ w => absurd rfl w⟩
    have e5 : (nI 5 = (5 : Int32)) = True := eq_true rfl
    simp only [e5, not_true_eq_false, false_implies, true_implies, true_and]
    exact on 2 5 (by omega)
  · refine ⟨fun w => absurd w (by decide), fun w => absurd w (by decide), fun w => absurd w (by decide), fun w => absurd w (by decide), fun w => absurd w (by decide), fun w => absurd w (by decide), fun _ => ?_, fun w => absurd w (by decide), fun _ _ _ _ _ _ w => absurd rfl w⟩
    have e5 : (nI 6 = (5 : Int32)) = False := eq_false (by decide)
    simp only [e5, not_false_eq_true, false_implies, true_implies, and_true]
    exact on 3 99 (by omega)
  · exact ⟨fun w => absurd w (by decide), fun w => absurd w (by decide), fun w => absurd w (by decide), fun w => absurd w (by decide), fun w => absurd w (by decide), fun w => absurd w (by decide), fun w => absurd w (by decide), fun _ => mt_next_no h (mt_sign_bad h (hQ W kb.rf)), fun _ _ _ _ _ _ _ w => absurd rfl w⟩
  · exact ⟨fun w => absurd w (by decide), fun w => absurd w (by decide), fun w => absurd w (by decide), fun w => absurd w (by decide), fun w => absurd w (by decide), fun w => absurd w (by decide), fun w => absurd w (by decide), fun w => absurd w (by decide), fun _ _ _ _ _ _ _ _ => ⟨vp_in_nI (n := 4) (by omega) (by omega), ends _⟩⟩
  · exact ⟨fun w => absurd w (by decide), fun w => absurd w (by decide), fun w => absurd w (by decide), fun w => absurd w (by decide), fun w => absurd w (by decide), fun w => absurd w (by decide), fun w => absurd w (by decide), fun w => absurd w (by decide), fun _ _ _ _ _ _ _ _ => ⟨vp_in_nI (n := 4) (by omega) (by omega), ends _⟩⟩
theorem mt_once {k : Nat} {a x : Int32} {A : zMem → Bool → zMem → Prop} {M M' W : zMem} {b : Bool} {Q : zMem → Prop} (at0 : AT k M W) (e13 : W 0 13 = M k 10) (h : bnd (rOc k a) A M b M')
    (ht : ∀ M1 W1, rOc k a M true M1 → A M1 b M' → M1 = zup M k 10 (M k 10 ||| (1 <<< (a &&& 31))) → W1 = zup W 0 13 (M k 10 ||| (1 <<< (a &&& 31))) → wpJ_Model_readLine_71 Q x W1)
    (hf : ∀ W1, b = false → lw W W1 → W1 5 = W 5 → BAD k M' W1 → wpJ_Model_readLine_71 Q x W1) : wpJ_Model_readLine_42 Q x a W := by
  obtain ⟨b1, M1, h1, h2⟩ := h
  unfold wpJ_Model_readLine_42
  rw [e13]
  have h1' := h1
  rcases h1 with ⟨c, hb1, e1⟩ | ⟨c, hb1, e1⟩
  · subst hb1
    rcases h2 with ⟨-, hb, e2⟩ | ⟨w, -⟩
    · refine ⟨fun w => absurd c w, fun _ => e_fails (c := nI 4) at0.1 (fun W2 e3 => ?_)⟩
      have bd := BAD_fs (k := k) (c := 4) (M := M) (W := W) at0.2.2.1 (by omega) (by omega)
      refine hf W2 hb ?_ ?_ ?_
      · rw [e3]; exact tkw.fs.l.tr (lw.u0 (by omega))
      · rw [e3, zup_ne (by omega)]; exact tkw.fs.1 5 (by omega)
      · rw [e2, e1, e3]
        exact bd.kb (kb.u0 (by omega))
    · cases w
  · subst hb1
    rcases h2 with ⟨w, -⟩ | ⟨-, h2⟩
    · cases w
    · refine ⟨fun _ W2 e3 => ?_, fun w => absurd w c⟩
      rw [e13] at e3
      exact ht M1 W2 h1' h2 e1 e3
theorem EQ.once {k n H L : Nat} {t1 t2 : Bool} {v : Int32} {M M1 W W1 : zMem} (h : EQ k M W n H L t1 t2) (e1 : M1 = zup M k 10 v) (e2 : W1 = zup W 0 13 v) : EQ k M1 W1 n H L t1 t2 := by
  obtain ⟨i0, i1, i2, i3, i4, i5, i6, i7⟩ := h
  have xk : ∀ i, 1 ≤ i → M1 (k + i) = M (k + i) := fun i hi => by rw [e1, zup_ne (by omega)]
  have y5 : W1 5 = W 5 := by rw [e2, zup_ne (by omega)]
  have x0 : ∀ j, j ≠ 10 → M1 k j = M k j := fun j hj => by rw [e1, zup_eq, upd_ne hj]
  have y0 : ∀ j, j ≠ 13 → W1 0 j = W 0 j := fun j hj => by rw [e2, zup_eq, upd_ne hj]
  unfold EQ
  rw [xk 1 (by omega), xk 2 (by omega), xk 3 (by omega), xk 4 (by omega), xk 5 (by omega), y5, y0 14 (by omega), y0 15 (by omega), x0 11 (by omega), x0 13 (by omega)]
  exact ⟨i0, i1, i2, i3, i4, by rw [e1, e2, zup_eq, zup_eq, upd_eq, upd_eq], i6, i7⟩
theorem mt_line {k z p0 n H L : Nat} {t1 t2 : Bool} {M M' W : zMem} {b : Bool} {Q : zMem → Prop} (at0 : AT k M W) (s : WS k z M W) (d : DA k z p0 M n H L t1 t2) (e : EQ k M W n H L t1 t2) (h : rLi k z n H M b M') (q : PL k z M' W b Q) : wp_Model_readLine W Q := by
  obtain ⟨r, dw, dn⟩ := d
  intro x ex
  rcases h with ⟨c7, hb, e1⟩ | ⟨c7, nm, hnm, e9, h⟩
  · refine ⟨fun w => absurd (by rw [← at0.2.2.2.1]; exact w) c7, fun _ => e_fails (c := nI 2) at0.1 ?_⟩
    refine q.2 _ hb tkw.fs.l ?_
    rw [e1]
    exact BAD_fs (k := k) (c := 2) at0.2.2.1 (by omega) (by omega)
  · refine ⟨fun _ => ?_, fun w => absurd (by rw [at0.2.2.2.1]; exact c7) w⟩
    have ex' : x = nI nm := by rw [ex, at0.2.2.2.2 (Or.inl c7)]; exact e9
    subst ex'
    generalize hY : zup M k 3 (M k 3 + 1) = Y at h
    have yk : ∀ j, j ≠ 3 → Y k j = M k j := fun j hj => by rw [← hY, zup_eq, upd_ne hj]
    have yc : ∀ c, c ≠ k → Y c = M c := fun c hc => by rw [← hY, zup_ne hc]
    have aY : AT k Y W := at0.mv (fun j j1 j2 => yk j (by omega))
    have sY : WS k z Y W := s.mv (fun c hc => yc c (by omega)) lw.rf
    have rY : rin k z p0 Y := rin_mv r (yk 5 (by omega)) (yk 6 (by omega))
    have dY : DW k Y n H L t1 t2 := dw.mv (fun i h1 _ => yc _ (by omega)) (fun j _ _ => yk j (by omega))
    have nY : DN k Y L := dn.mv (yk 10 (by omega))
    have eY : EQ k Y W n H L t1 t2 := e.mv (fun i h1 _ => yc _ (by omega)) ⟨yk 10 (by omega), yk 11 (by omega), yk 13 (by omega)⟩ tkw.rf
    have H5 : H ≤ 5 := dw.1.2.1
    have eH : W 5 1 = nI H := (e.1 1 (by omega)).trans dw.2.2.1
    have bad : ∀ W1, (nm = 3 ∨ nm = 5 ∨ nm = 6 ∨ nm = 7 ∨ nm = 8 ∨ nm = 9) → b = false → lw W W1 → W1 5 = W 5 → BAD k M' W1 → wpJ_Model_readLine_71 Q (nI nm) W1 := fun W1 hn hb l e5 bd => mt_bad71 bd.w (by rw [e5]; exact eH) H5 hn (fun W' k' => q.2 W' hb (l.tr k'.1) (bd.kb k'))
    have on : ∀ {a : Int32} {M1 W1 : zMem}, rOc k a Y true M1 → M1 = zup Y k 10 (Y k 10 ||| (1 <<< (a &&& 31))) → W1 = zup W 0 13 (Y k 10 ||| (1 <<< (a &&& 31))) → AT k M1 W1 ∧ WS k z M1 W1 ∧ rin k z p0 M1 ∧ DW k M1 n H L t1 t2 ∧ EQ k M1 W1 n H L t1 t2 ∧ PL k z M' W1 b Q := fun {a M1 W1} ho e1 e2 => by
      have lW : lw W W1 := by rw [e2]; exact lw.u0 (by omega)
      obtain ⟨r1, d1⟩ := DW_once rY dY ho
      refine ⟨?_, sY.mv (by rw [e1]; exact lf.up (by omega) (by omega)) lW, r1, d1, eY.once e1 e2, q.mv lW⟩
      obtain ⟨a1, a2, a3, a4, a5⟩ := aY
      have m0 : ∀ j, j ≠ 10 → M1 k j = Y k j := fun j hj => by rw [e1, zup_eq, upd_ne hj]
      have w0 : ∀ j, j ≠ 13 → W1 0 j = W 0 j := fun j hj => by rw [e2, zup_eq, upd_ne hj]
      unfold AT
      rw [m0 6 (by omega), m0 7 (by omega), m0 8 (by omega), m0 9 (by omega), w0 3 (by omega), w0 5 (by omega), w0 6 (by omega), w0 7 (by omega), w0 8 (by omega)]
      exact ⟨a1, a2, a3, a4, a5⟩
    have e13 : W 0 13 = Y k 10 := eY.2.2.2.2.2.1
    rcases (show nm = 0 ∨ nm = 1 ∨ nm = 2 ∨ nm = 3 ∨ nm = 4 ∨ nm = 5 ∨ nm = 6 ∨ nm = 7 ∨ nm = 8 ∨ nm = 9 by omega) with rfl | rfl | rfl | rfl | rfl | rfl | rfl | rfl | rfl | rfl
    · refine ⟨fun _ => ⟨fun w => absurd w (by decide), fun _ => ⟨fun _ => ?_, fun w => absurd (by decide) w⟩⟩, fun w => absurd (by decide) w⟩
      intro x ex
      subst ex
      exact ⟨fun _ => mt_piece aY sY rY dY eY h q, fun w => absurd w (by decide), fun w => absurd w (by decide), fun w => absurd w (by decide), fun w => absurd w (by decide), fun w => absurd w (by decide), fun w => absurd w (by decide), fun w => absurd w (by decide), fun w => absurd rfl w⟩
    · refine ⟨fun _ => ⟨fun w => absurd w (by decide), fun _ => ⟨fun _ => ?_, fun w => absurd (by decide) w⟩⟩, fun w => absurd (by decide) w⟩
      intro x ex
      subst ex
      exact ⟨fun w => absurd w (by decide), fun _ => mt_whole aY sY rY dY eY h q, fun w => absurd w (by decide), fun w => absurd w (by decide), fun w => absurd w (by decide), fun w => absurd w (by decide), fun w => absurd w (by decide), fun w => absurd w (by decide), fun _ w => absurd rfl w⟩
    · refine ⟨fun _ => ⟨fun w => absurd w (by decide), fun _ => ⟨fun _ => ?_, fun w => absurd (by decide) w⟩⟩, fun w => absurd (by decide) w⟩
      intro x ex
      subst ex
      exact ⟨fun w => absurd w (by decide), fun w => absurd w (by decide), fun _ => mt_sort aY sY rY dY eY h q, fun w => absurd w (by decide), fun w => absurd w (by decide), fun w => absurd w (by decide), fun w => absurd w (by decide), fun w => absurd w (by decide), fun _ _ w => absurd rfl w⟩
    · refine ⟨fun _ => ⟨fun _ => ?_, fun w => absurd rfl w⟩, fun w => absurd (by decide) w⟩
      refine mt_once (a := 3) aY e13 h (fun M1 W1 ho h1 e1 e2 => ?_) (fun W1 => bad W1 (by omega))
      obtain ⟨a1, s1, r1, d1, q1, p1⟩ := on ho e1 e2
      have L1 : L = 1 := (rOc_10 ho nY (Or.inl rfl)).1 rfl
      subst L1
      intro x ex
      subst ex
      exact ⟨fun w => absurd w (by decide), fun w => absurd w (by decide), fun w => absurd w (by decide), fun _ => mt_rowL a1 s1 r1 d1 q1 h1 p1, fun w => absurd w (by decide), fun w => absurd w (by decide), fun w => absurd w (by decide), fun w => absurd w (by decide), fun _ _ _ w => absurd rfl w⟩
    · refine ⟨fun _ => ⟨fun w => absurd w (by decide), fun _ => ⟨fun _ => ?_, fun w => absurd (by decide) w⟩⟩, fun w => absurd (by decide) w⟩
      intro x ex
      subst ex
      exact ⟨fun w => absurd w (by decide), fun w => absurd w (by decide), fun w => absurd w (by decide), fun w => absurd w (by decide), fun _ => mt_handL aY sY rY dY eY h q, fun w => absurd w (by decide), fun w => absurd w (by decide), fun w => absurd w (by decide), fun _ _ _ _ w => absurd rfl w⟩
    · refine ⟨fun _ => ⟨fun w => absurd w (by decide), fun _ => ⟨fun w => absurd w (by decide), fun _ => ?_⟩⟩, fun w => absurd (by decide) w⟩
      refine mt_once (a := 5) aY e13 h (fun M1 W1 ho h1 e1 e2 => ?_) (fun W1 => bad W1 (by omega))
      obtain ⟨a1, s1, r1, d1, q1, p1⟩ := on ho e1 e2
      intro x ex
      subst ex
      refine ⟨fun w => absurd w (by decide), fun w => absurd w (by decide), fun w => absurd w (by decide), fun w => absurd w (by decide), fun w => absurd w (by decide), fun _ => ?_, fun w => absurd w (by decide), fun w => absurd w (by decide), fun _ _ _ _ _ w => absurd rfl w⟩
      have e5 : (nI 5 = (5 : Int32)) = True := eq_true rfl
      simp only [e5, not_true_eq_false, false_implies, true_implies, true_and]
      exact mt_on (j := 2) (hi := 5) (Or.inl ⟨rfl, rfl⟩) a1 s1 r1 d1 q1 h1 p1
    · refine ⟨fun _ => ⟨fun w => absurd w (by decide), fun _ => ⟨fun w => absurd w (by decide), fun _ => ?_⟩⟩, fun w => absurd (by decide) w⟩
      refine mt_once (a := 6) aY e13 h (fun M1 W1 ho h1 e1 e2 => ?_) (fun W1 => bad W1 (by omega))
      obtain ⟨a1, s1, r1, d1, q1, p1⟩ := on ho e1 e2
      intro x ex
      subst ex
      refine ⟨fun w => absurd w (by decide), fun w => absurd w (by decide), fun w => absurd w (by decide), fun w => absurd w (by decide), fun w => absurd w (by decide), fun w => absurd w (by decide), fun _ => ?_, fun w => absurd w (by decide), fun _ _ _ _ _ _ w => absurd rfl w⟩
      have e5 : (nI 6 = (5 : Int32)) = False := eq_false (by decide)
      simp only [e5, not_false_eq_true, false_implies, true_implies, and_true]
      exact mt_on (j := 3) (hi := 99) (Or.inr ⟨rfl, rfl⟩) a1 s1 r1 d1 q1 h1 p1
    · refine ⟨fun _ => ⟨fun w => absurd w (by decide), fun _ => ⟨fun w => absurd w (by decide), fun _ => ?_⟩⟩, fun w => absurd (by decide) w⟩
      refine mt_once (a := 7) aY e13 h (fun M1 W1 ho h1 e1 e2 => ?_) (fun W1 => bad W1 (by omega))
      obtain ⟨a1, s1, r1, d1, q1, p1⟩ := on ho e1 e2
      intro x ex
      subst ex
      exact ⟨fun w => absurd w (by decide), fun w => absurd w (by decide), fun w => absurd w (by decide), fun w => absurd w (by decide), fun w => absurd w (by decide), fun w => absurd w (by decide), fun w => absurd w (by decide), fun _ => mt_end a1.1 a1.2.1 s1 r1 h1 lw.rf q1 (fun hb => d1.tk (rS_in r1 (by rw [hb] at h1; exact h1)).2) p1, fun _ _ _ _ _ _ _ w => absurd rfl w⟩
    · refine ⟨fun w => absurd w (by decide), fun _ => ⟨fun w => absurd w (by decide), fun _ => ⟨fun w => absurd w (by decide), fun _ => ?_⟩⟩⟩
      refine mt_once (a := 7) aY e13 h (fun M1 W1 ho h1 e1 e2 => ?_) (fun W1 => bad W1 (by omega))
      obtain ⟨a1, s1, r1, d1, q1, p1⟩ := on ho e1 e2
      intro x ex
      subst ex
      exact ⟨fun w => absurd w (by decide), fun w => absurd w (by decide), fun w => absurd w (by decide), fun w => absurd w (by decide), fun w => absurd w (by decide), fun w => absurd w (by decide), fun w => absurd w (by decide), fun w => absurd w (by decide), fun _ _ _ _ _ _ _ _ => ⟨vp_in_nI (n := 4) (by omega) (by omega), mt_endsL (a := 1) (by omega) a1 s1 r1 d1 q1 h1 p1⟩⟩
    · refine ⟨fun w => absurd w (by decide), fun _ => ⟨fun w => absurd w (by decide), fun _ => ⟨fun w => absurd w (by decide), fun _ => ?_⟩⟩⟩
      refine mt_once (a := 7) aY e13 h (fun M1 W1 ho h1 e1 e2 => ?_) (fun W1 => bad W1 (by omega))
      obtain ⟨a1, s1, r1, d1, q1, p1⟩ := on ho e1 e2
      intro x ex
      subst ex
      exact ⟨fun w => absurd w (by decide), fun w => absurd w (by decide), fun w => absurd w (by decide), fun w => absurd w (by decide), fun w => absurd w (by decide), fun w => absurd w (by decide), fun w => absurd w (by decide), fun w => absurd w (by decide), fun _ _ _ _ _ _ _ _ => ⟨vp_in_nI (n := 4) (by omega) (by omega), mt_endsL (a := 2) (by omega) a1 s1 r1 d1 q1 h1 p1⟩⟩
