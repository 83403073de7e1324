/-- the token at hand is the same -/
def AT (k : Nat) (M W : zMem) : Prop := W 0 3 = 0 ∧ W 0 5 = M k 6 ∧ W 0 6 = M k 8 ∧ W 0 7 = M k 7 ∧ (M k 7 = 1 ∨ M k 7 = 2 → W 0 8 = M k 9)
/-- a fault has been met, the same one -/
def BAD (k : Nat) (M W : zMem) : Prop := ∃ c, 1 ≤ c ∧ c ≤ 7 ∧ W 0 3 = nI c ∧ M k 1 = nI c ∧ W 0 4 = M k 2
def bw (W : zMem) : Prop := ∃ c, 1 ≤ c ∧ c ≤ 7 ∧ W 0 3 = nI c
theorem BAD.w {k : Nat} {M W : zMem} (h : BAD k M W) : bw W := by
  obtain ⟨c, a, b, e, -⟩ := h
  exact ⟨c, a, b, e⟩
theorem bw.ne {W : zMem} (h : bw W) : ¬ W 0 3 = 0 := by
  obtain ⟨c, a, b, e⟩ := h
  rw [e]
  exact nI_ne0 (by omega) (by omega)
/-- what a line of the reference may change -/
def lw (W W' : zMem) : Prop := (∀ c, c ≠ 0 → c ≠ 5 → W' c = W c) ∧ ∀ j, (j < 3 ∨ (9 ≤ j ∧ j ≤ 12) ∨ 16 ≤ j) → W' 0 j = W 0 j
theorem lw.rf {W : zMem} : lw W W := ⟨fun _ _ _ => rfl, fun _ _ => rfl⟩
theorem lw.tr {W W1 W2 : zMem} (a : lw W W1) (b : lw W1 W2) : lw W W2 := ⟨fun c h h2 => (b.1 c h h2).trans (a.1 c h h2), fun j h => (b.2 j h).trans (a.2 j h)⟩
theorem tkw.l {W W' : zMem} (a : tkw W W') : lw W W' := ⟨fun c h _ => a.1 c h, fun j h => a.2 j (by omega)⟩
theorem lw.u5 {W : zMem} {j : Nat} {x : Int32} : lw W (zup W 5 j x) := ⟨fun c _ h => zup_ne h, fun i _ => by rw [zup_ne (by omega)]⟩
theorem lw.u0 {W : zMem} {j : Nat} {x : Int32} (h : (3 ≤ j ∧ j ≤ 8) ∨ (13 ≤ j ∧ j ≤ 15)) : lw W (zup W 0 j x) := ⟨fun c h _ => zup_ne h, fun i hi => by rw [zup_eq, upd_ne (by omega)]⟩
theorem tkw.fs {W : zMem} {c : Int32} : tkw W (wfs c W) := by
  unfold wfs
  exact (tkw.rf.up (by omega) (by omega)).up (by omega) (by omega)
/-- the tape and the table of words, for both -/
def WS (k z : Nat) (M W : zMem) : Prop := W 0 1 = nI z ∧ z ≤ 400 ∧ tpe (M (k + 6)) (W 1) z ∧ wtb W
theorem WS.mv {k z : Nat} {M M' W W' : zMem} (h : WS k z M W) (f : lf k M M') (g : lw W W') : WS k z M' W' := by
  obtain ⟨a, b, c, d⟩ := h
  refine ⟨(g.2 1 (by omega)).trans a, b, ?_, ?_⟩
  · rw [f (k + 6) (by omega), g.1 1 (by omega) (by omega)]; exact c
  · unfold wtb
    rw [g.1 2 (by omega) (by omega), g.1 3 (by omega) (by omega)]; exact d
/-- the reference has read what the class reads next -/
def NXT (k z : Nat) (M W : zMem) : Prop := ∃ p, p ≤ z ∧ M k 6 = nI p ∧ nT (M (k + 6)) z p W
theorem mt_nx {k z p0 : Nat} {M W : zMem} {Q : zMem → Prop} (h3 : W 0 3 = 0) (h5 : W 0 5 = M k 6) (s : WS k z M W) (r : rin k z p0 M) (hQ : ∀ W', tkw W W' → NXT k z M W' → Q W') : wp_Model_next W Q := by
  obtain ⟨-, -, p, ⟨-, hp⟩, e6⟩ := r
  exact mt_next h3 s.1 s.2.1 (h5.trans e6) hp s.2.2.1 s.2.2.2 (fun W' f h => hQ W' f ⟨p, hp, e6, h⟩)
theorem nx_tkn {k z : Nat} {M M1 W : zMem} {b : Bool} (hz : z ≤ 400) (h : NXT k z M W) (t : tkn k z M b M1) : (b = true → AT k M1 W) ∧ (b = false → BAD k M1 W) := by
  obtain ⟨p, hp, e6, h6, h⟩ := h
  obtain ⟨p', hp', e6', t⟩ := t
  have ep : p = p' := (nI_eq (by omega) (by omega)).mp (e6.symm.trans e6')
  subst ep
  rcases t with ⟨rfl, ho, f, a6, a7, a8, a9⟩ | ⟨rfl, ho, M2, f, a8, rfl⟩
  · refine ⟨fun _ => ?_, fun w => by cases w⟩
    rcases h with ⟨-, c3, c5, c7, c8⟩ | ⟨c, -⟩
    · refine ⟨c3, c5.trans a6.symm, h6.trans a8.symm, c7.trans a7.symm, fun w => ?_⟩
      have hk : tk_k (M (k + 6)) z (tk_q (M (k + 6)) z p) = 1 ∨ tk_k (M (k + 6)) z (tk_q (M (k + 6)) z p) = 2 := by
        have hb := tk_k_b (T := M (k + 6)) (z := z) (q := tk_q (M (k + 6)) z p)
        rw [a7] at w
        rcases w with w | w
        · exact Or.inl ((nI_eq (b := 1) (by omega) (by omega)).mp w)
        · exact Or.inr ((nI_eq (b := 2) (by omega) (by omega)).mp w)
      rw [c8 hk, a9 hk]
    · exact absurd ho c
  · refine ⟨fun w => (by cases w), fun _ => ?_⟩
    rcases h with ⟨c, -⟩ | ⟨-, c3, c4⟩
    · exact absurd c ho
    · refine ⟨1, by omega, by omega, c3, ?_, ?_⟩
      · unfold rfs; rw [zup_eq, upd_ne (by omega), zup_eq, upd_eq]; rfl
      · unfold rfs; rw [zup_eq, upd_eq, a8]; exact c4
theorem BAD_fs {k c : Nat} {M W : zMem} (h6 : W 0 6 = M k 8) (h1 : 1 ≤ c) (h7 : c ≤ 7) : BAD k (rfs k (nI c) M) (wfs (nI c) W) := by
  refine ⟨c, h1, h7, ?_, ?_, ?_⟩
  · unfold wfs; rw [zup_eq, upd_ne (by omega), zup_eq, upd_eq]
  · unfold rfs; rw [zup_eq, upd_ne (by omega), zup_eq, upd_eq]
  · unfold wfs rfs; rw [zup_eq, upd_eq, zup_eq, upd_eq]; exact h6
theorem BAD.mv {k : Nat} {M W W' : zMem} (h : BAD k M W) (e3 : W' 0 3 = W 0 3) (e4 : W' 0 4 = W 0 4) : BAD k M W' := by
  obtain ⟨c, a, b, e, f, g⟩ := h
  exact ⟨c, a, b, e3.trans e, f, e4.trans g⟩
theorem mt_num {k : Nat} {lo hi : Int32} {M M' W : zMem} {b : Bool} {Q : Int32 → zMem → Prop} (a : AT k M W) (h : rNu k lo hi M b M') (ht : b = true → M' = M → Q (M k 9) W) (hf : ∀ W', b = false → tkw W W' → BAD k M' W' → Q lo W') : wp_Model_number lo hi W Q := by
  obtain ⟨a3, a5, a6, a7, a8⟩ := a
  have nb : ∀ c : Nat, 1 ≤ c → c ≤ 7 → ¬ wfs (nI c) W 0 3 = 0 := fun c c1 c7 => by
    unfold wfs
    rw [zup_eq, upd_ne (by omega), zup_eq, upd_eq]
    exact nI_ne0 (by omega) (by omega)
  unfold wp_Model_number wpJ_Model_number_20
  refine ⟨fun w => absurd a3 w, fun _ => ⟨fun c7 => ⟨fun w => absurd a3 w, fun _ => ?_⟩, fun c7 => e_fails (c := nI 2) a3 ⟨fun _ => ⟨fun _ => ?_, fun w => absurd w (nb 2 (by omega) (by omega))⟩, fun w => absurd w (nb 2 (by omega) (by omega))⟩⟩⟩
  · rw [a7] at c7
    rcases h with ⟨c, -⟩ | ⟨-, h⟩
    · exact absurd c7 c
    rw [a8 (Or.inr c7)]
    rcases h with ⟨c, rfl, rfl⟩ | ⟨c1, c2, rfl, rfl⟩
    · refine mt_in (lo' := lo) (hi' := hi) rfl rfl (fun d1 d2 => ?_) (fun d => ⟨fun w => absurd rfl w, fun _ => e_fails (c := nI 3) a3 ⟨fun _ => hf _ rfl tkw.fs (BAD_fs (c := 3) a6 (by omega) (by omega)), fun w => absurd w (nb 3 (by omega) (by omega))⟩⟩)
      rcases c with c | c
      · exact absurd c (Int32.not_lt.mpr d1)
      · exact absurd d2 c
    · refine mt_in (lo' := lo) (hi' := hi) rfl rfl (fun d1 d2 => ⟨fun _ => ⟨fun w => absurd a3 w, fun _ => ?_⟩, fun w => absurd w (by decide)⟩) (fun d => absurd ⟨Int32.not_lt.mp c1, c2⟩ d)
      have := ht rfl rfl
      rw [a8 (Or.inr c7)]
      exact this
  · rw [a7] at c7
    rcases h with ⟨-, rfl, rfl⟩ | ⟨c, -⟩
    · exact hf _ rfl tkw.fs (BAD_fs (c := 2) a6 (by omega) (by omega))
    · exact absurd c c7
theorem mt_num_bad {lo hi : Int32} {W : zMem} {Q : Int32 → zMem → Prop} (h : bw W) (hQ : Q lo W) : wp_Model_number lo hi W Q := by
  have n := h.ne
  unfold wp_Model_number wpJ_Model_number_20
  exact ⟨fun _ => ⟨fun _ => ⟨fun _ => hQ, fun w => absurd w n⟩, fun w => absurd w n⟩, fun w => absurd w n⟩
/-- a fault stays as it is -/
def kb (W W' : zMem) : Prop := lw W W' ∧ W' 0 3 = W 0 3 ∧ W' 0 4 = W 0 4
theorem kb.rf {W : zMem} : kb W W := ⟨lw.rf, rfl, rfl⟩
theorem kb.tr {W W1 W2 : zMem} (a : kb W W1) (b : kb W1 W2) : kb W W2 := ⟨a.1.tr b.1, b.2.1.trans a.2.1, b.2.2.trans a.2.2⟩
theorem kb.u5 {W : zMem} {j : Nat} {x : Int32} : kb W (zup W 5 j x) := ⟨lw.u5, by rw [zup_ne (by omega)], by rw [zup_ne (by omega)]⟩
theorem kb.u0 {W : zMem} {j : Nat} {x : Int32} (h : 13 ≤ j ∧ j ≤ 15) : kb W (zup W 0 j x) := ⟨lw.u0 (by omega), by rw [zup_eq, upd_ne (by omega)], by rw [zup_eq, upd_ne (by omega)]⟩
theorem kb.w {W W' : zMem} (a : kb W W') (h : bw W) : bw W' := by
  obtain ⟨c, x, y, e⟩ := h
  exact ⟨c, x, y, a.2.1.trans e⟩
theorem BAD.kb {k : Nat} {M W W' : zMem} (h : BAD k M W) (a : kb W W') : BAD k M W' := h.mv a.2.1 a.2.2
theorem mt_nums_bad {a m : Nat} {lo hi : Int32} {W : zMem} {Q : zMem → Prop} (h : bw W) (ha : a + m ≤ 100) (hQ : ∀ W', kb W W' → (∀ j, (j < a ∨ a + m ≤ j) → W' 5 j = W 5 j) → Q W') : wp_Model_numbers (nI a) (nI m) lo hi W Q := by
  refine zlp1_r (fun n x W' => ∃ i, x = nI i ∧ i ≤ m ∧ n = m - i ∧ kb W W' ∧ ∀ j, (j < a ∨ a + m ≤ j) → W' 5 j = W 5 j) ?_ (n := m) ⟨0, rfl, by omega, rfl, kb.rf, fun _ _ => rfl⟩
  rintro n x W' ⟨i, rfl, hi, rfl, k1, k2⟩ J hJ
  unfold wpB_Model_numbers_3
  refine ⟨fun _ => hQ W' k1 k2, fun c => ?_⟩
  have hi2 : i < m := (nI_ltI (by omega) (by omega)).mp (Int32.not_le.mp c)
  refine mt_num_bad (k1.w h) ?_
  rw [q_add, q_ix (by omega)]
  refine ⟨vp_in_nI (by omega) (by omega), fun W3 e3 => ?_⟩
  have k3 : kb W W3 := k1.tr (by rw [e3]; exact kb.u5)
  refine mt_next_no (k3.w h) (fun y ey => ?_)
  rw [ey, nI_1]
  exact hJ (m - (i + 1)) _ _ (by omega) ⟨i + 1, rfl, by omega, rfl, k3, fun j hj => by rw [e3, zup_eq, upd_ne (by omega)]; exact k2 j hj⟩
/-- the end of a line: the sign, and what stands behind it -/
theorem mt_sign {k z p0 : Nat} {X M' W : zMem} {b : Bool} {Q : zMem → Prop} (n : NXT k z X W) (s : WS k z X W) (r : rin k z p0 X) (h : rS k z X b M') (ht : ∀ W', b = true → tkw W W' → NXT k z M' W' → Q W') (hf : ∀ W', b = false → tkw W W' → BAD k M' W' → Q W') : wpJ_Model_readLine_218 Q W := by
  obtain ⟨b1, M1, t, h⟩ := h
  obtain ⟨n1, n2⟩ := nx_tkn s.2.1 n t
  unfold wpJ_Model_readLine_218
  rcases h with ⟨rfl, rfl, rfl⟩ | ⟨rfl, h⟩
  · have bd := n2 rfl
    exact ⟨fun _ => mt_next_no bd.w (hf W rfl tkw.rf bd), fun w => absurd w bd.w.ne⟩
  · have at1 := n1 rfl
    obtain ⟨r1, f1⟩ := tkn_in r t
    refine ⟨fun w => absurd at1.1 w, fun _ => ⟨fun c => ?_, fun c => ?_⟩⟩
    · rw [at1.2.2.2.1] at c
      rcases h with ⟨d, -⟩ | ⟨-, rfl, rfl⟩
      · exact absurd c d
      · exact mt_nx at1.1 at1.2.1 (s.mv f1.lf lw.rf) r1 (fun W' f h => ht W' rfl f h)
    · rw [at1.2.2.2.1] at c
      rcases h with ⟨-, rfl, rfl⟩ | ⟨d, -⟩
      · have bd := BAD_fs (c := 2) at1.2.2.1 (by omega) (by omega)
        exact e_fails (c := nI 2) at1.1 (mt_next_no bd.w (hf _ rfl tkw.fs bd))
      · exact absurd d c
theorem mt_sign_bad {W : zMem} {Q : zMem → Prop} (h : bw W) (hQ : Q W) : wpJ_Model_readLine_218 Q W := ⟨fun _ => mt_next_no h hQ, fun w => absurd w h.ne⟩
/-- what both have been told -/
def EQ (k : Nat) (M W : zMem) (n H L : Nat) (t1 t2 : Bool) : Prop :=
  (∀ j, j ≤ 6 → W 5 j = M (k + 1) j) ∧ (∀ i, i < L → W 5 (10 + i) = M (k + 2) i) ∧ (∀ s p, (s = 0 ∨ (s = 1 ∧ t1 = true) ∨ (s = 2 ∧ t2 = true)) → p < n → W 5 (30 + 8 * s + p) = M (k + 3) (s * 8 + p)) ∧ (∀ h p, h < H → p < n → W 5 (60 + 8 * h + p) = M (k + 4) (h * 8 + p)) ∧ (¬ M (k + 1) 4 = 0 → ∀ h, h + 1 < H → W 5 (20 + h) = M (k + 5) h) ∧ W 0 13 = M k 10 ∧ W 0 14 = M k 11 ∧ W 0 15 = M k 13
theorem EQ.mv {k n H L : Nat} {t1 t2 : Bool} {M M' W W' : zMem} (h : EQ k M W n H L t1 t2) (f : ∀ i, 1 ≤ i → i ≤ 5 → M' (k + i) = M (k + i)) (f2 : M' k 10 = M k 10 ∧ M' k 11 = M k 11 ∧ M' k 13 = M k 13) (g : tkw W W') : EQ k M' W' n H L t1 t2 := by
  unfold EQ at h ⊢
  rw [f 1 (by omega) (by omega), f 2 (by omega) (by omega), f 3 (by omega) (by omega), f 4 (by omega) (by omega), f 5 (by omega) (by omega), f2.1, f2.2.1, f2.2.2, g.1 5 (by omega), g.2 13 (by omega), g.2 14 (by omega), g.2 15 (by omega)]
  exact h
theorem EQ.tk {k n H L : Nat} {t1 t2 : Bool} {M M' W W' : zMem} (h : EQ k M W n H L t1 t2) (f : tkf k M M') (g : tkw W W') : EQ k M' W' n H L t1 t2 := h.mv (fun i h1 _ => f.1 _ (by omega)) ⟨f.2 10 (by omega) (by omega) (by omega) (by omega), f.2 11 (by omega) (by omega) (by omega) (by omega), f.2 13 (by omega) (by omega) (by omega) (by omega)⟩ g
/-- how a line of the reference ends -/
def PL (k z : Nat) (M' W : zMem) (b : Bool) (Q : zMem → Prop) : Prop := (∀ W', b = true → lw W W' → NXT k z M' W' → (∃ n H L t1 t2, DW k M' n H L t1 t2 ∧ EQ k M' W' n H L t1 t2) → Q W') ∧ (∀ W', b = false → lw W W' → BAD k M' W' → Q W')
