theorem mw_readG {n H L i l y z : Nat} {a3 : Int32} {M W : zMem} {Q : Int32 → zMem → Prop} (vt : sp_vt M 1 n H L) (r : rt0 W M n H L) (st : pst W M n H L) (hi : i < 4) (hl : l < 3) (hy : y < 2147483648) (hz : z ≤ 5)
    (h0 : ¬ y + z ≤ H → Q (-1) W) (h1 : y + z ≤ H → ∀ W1, W1 0 24 = 1 → pr W1 M n H → awf W W1 → ∃ k, zlp4 (wpB_Model_read_78 (nI i) (nI l) a3 (nI y) (nI z) (fun (zx18 : Int32) (zx19 : Int32) (zm17 : zMem) => ∃ n : Nat, zlp1 (wpB_Model_read_234 (nI i) (nI l) a3 (nI y) (nI z) zx18 zx19 Q) n 0 zm17) Q) k 0 0 1 0 W1) : wp_Model_read (nI i) (nI l) a3 (nI y) (nI z) W Q := by
  obtain ⟨⟨n1, n8, H1, H5, L1, L6⟩, hn, hH, -⟩ := id vt
  refine in_yes (hi := 3) rfl (by omega) (by omega) ⟨fun q => absurd q (by decide), fun _ => in_yes (hi := 2) rfl (by omega) (by omega) ⟨fun q => absurd q (by decide), fun _ => ⟨fun q => absurd q (nI_pos hy), fun _ => ?_⟩⟩⟩
  refine in_yes (hi := 5) rfl (by omega) (by omega) ⟨fun q => absurd q (by decide), fun _ => ⟨vp_in_nI (n := 1) (by omega) (by omega), ?_⟩⟩
  rw [show ix 1 = 1 from rfl, r.2.1, q_l64 hy, q_l64 (by omega), q_l64 (by omega), lN_add]
  refine ⟨fun c => ?_, fun c => h0 (fun q => c (Eq.mpr (cmp_le (y + z) H (by omega) (by omega)) q))⟩
  have hle := Eq.mp (cmp_le (y + z) H (by omega) (by omega)) c
  exact mt_awake vt r st (fun W1 h24 hp f => h1 hle W1 h24 hp f)
/-- the reference finds a fault at the first number -/
theorem mw_scan0 {i l n y z : Nat} {a3 f : Int32} {W : zMem} {K : Int32 → Int32 → zMem → Prop} {Q : Int32 → zMem → Prop} (hi : i < 4) (n1 : 1 ≤ n) (n8 : n ≤ 8) (z5 : z ≤ 5) (e0 : W 4 0 = nI n) (hl : l < 3)
    (hf : (z = 0 ∧ f = 0) ∨ (0 < z ∧ ((W 16 i = -4 ∧ f = 1) ∨ (∃ l', l' < 3 ∧ l' ≠ l ∧ W 16 i = nI l' ∧ f = 3) ∨ (∃ Z, Z ≤ 40 ∧ W 16 i = nI l ∧ W 17 i = nI Z ∧ a3 < 0 ∧ f = 2)))) (hok : K f 0 W) : ∃ k, zlp4 (wpB_Model_read_78 (nI i) (nI l) a3 (nI y) (nI z) K Q) k 0 0 1 0 W := by
  have nz : n * z ≤ 40 := by
    have := Nat.mul_le_mul n8 z5
    omega
  have w0 : W 4 (ix 0) = nI n := e0
  have v4 : vp_in (nI i) 4 := vp_in_nI (by omega) (by omega)
  have nm4 : ∀ l', l' < 3 → ¬ nI l' = -4 := fun l' hl' w => absurd w (by rcases (show l' = 0 ∨ l' = 1 ∨ l' = 2 by omega) with rfl | rfl | rfl <;> decide)
  refine zlp4_r (fun m x6 x7 x8 x9 W' => W' = W ∧ x7 = 0 ∧ ((m = 1 ∧ x6 = 0 ∧ x8 = 1 ∧ x9 = 0) ∨ (m = 0 ∧ x6 = f ∧ ¬ f = 0))) ?_ (n := 1) ⟨rfl, rfl, Or.inl ⟨rfl, rfl, rfl, rfl⟩⟩
  rintro m x6 x7 x8 x9 W' ⟨rfl, rfl, hx⟩ J hJ
  unfold wpB_Model_read_78
  rw [w0, q_mul]
  refine ⟨vp_in_nI (n := 0) (by omega) (by omega), ?_⟩
  rcases hx with ⟨rfl, rfl, rfl, rfl⟩ | ⟨rfl, rfl, hne⟩
  · rcases hf with ⟨hz0, hf0⟩ | ⟨hz0, hf⟩
    · rw [hf0] at hok
      exact ⟨fun _ => hok, fun c => absurd (by rw [hz0, Nat.mul_zero]; exact Int32.le_refl _) c⟩
    · have pos : 0 < n * z := Nat.mul_pos n1 hz0
      have go : ¬ f = 0 → wpJ_Model_read_153 (nI i) (nI l) a3 (nI y) (nI z) K J Q 0 1 0 f W' := fun hne => ⟨fun _ x ex => hJ 0 _ _ _ _ _ (by omega) ⟨rfl, rfl, Or.inr ⟨rfl, rfl, hne⟩⟩, fun q => absurd q hne⟩
      refine ⟨fun c => ?_, fun c => ⟨fun q => absurd rfl q, fun _ => ⟨v4, ?_⟩⟩⟩
      · have := (nI_leI (b := 0) (by omega) (by omega)).mp c
        omega
      rw [q_ix (by omega)]
      rcases hf with ⟨w, hf⟩ | ⟨l', hl', hne, w, hf⟩ | ⟨Z, hZ, w, w17, ha, hf⟩
      · refine ⟨fun q => absurd w q, fun _ => ?_⟩
        have g := go (by rw [hf]; decide)
        rw [hf] at g
        exact g
      · rw [w]
        refine ⟨fun _ => ⟨v4, fun q => absurd ((nI_eq (by omega) (by omega)).mp q) hne, fun _ => ?_⟩, fun q => absurd q (nm4 l' hl')⟩
        have g := go (by rw [hf]; decide)
        rw [hf] at g
        exact g
      · rw [w, w17]
        refine ⟨fun _ => ⟨v4, fun _ => ⟨v4, ?_⟩, fun q => absurd rfl q⟩, fun q => absurd q (nm4 l hl)⟩
        rw [show ((0 : Int32)).toInt64 = 0 from rfl, Int64.add_zero, e_in, if_neg]
        · refine ⟨fun q => absurd rfl q, fun _ => ?_⟩
          have g := go (by rw [hf]; decide)
          rw [hf] at g
          exact g
        · rintro ⟨u, -⟩
          have : (0 : Int32) ≤ a3 := i64_le.mp u
          exact absurd ha (Int32.not_lt.mpr this)
  · exact ⟨fun _ => hok, fun _ => ⟨fun _ => hok, fun q => absurd q hne⟩⟩
theorem xt_wholeR {k n z Z : Nat} {a3 : Int32} {M : zMem} {Q : Int32 → zMem → Prop} (n1 : 1 ≤ n) (n8 : n ≤ 8) (z5 : z ≤ 5) (hZ : Z ≤ 40) (e1 : M k 1 = nI Z) (h0 : a3 < 0 → Q 0 M) (h1 : ∀ a, a < 2147483648 → a3 = nI a → Q (nI (min z ((Z - a) / n))) M) : wp_Sheet_wholeRows k a3 (nI n) (nI z) M Q := by
  unfold wp_Sheet_wholeRows
  rw [e1]
  refine ⟨h0, fun c => ?_⟩
  obtain ⟨a, ha, rfl⟩ := nI_of c
  have h := h1 a ha rfl
  refine ⟨fun c1 => ?_, fun c1 => ⟨fun _ => ?_, fun q => absurd ((nI_leI (a := 1) (by omega) (by omega)).mpr n1) q⟩⟩
  · have := (nI_leI (by omega) (by omega)).mp c1
    rw [show Z - a = 0 by omega, Nat.zero_div, Nat.min_zero] at h
    exact h
  · have aZ : a < Z := by
      rcases Nat.lt_or_ge a Z with w | w
      · exact w
      · exact absurd ((nI_leI (by omega) (by omega)).mpr w) c1
    refine ⟨nI_ne0 (by omega) (by omega), fun x ex => ?_⟩
    rw [q_sub (by omega), pk_div (by omega) (by omega) (by omega)] at ex
    have hd : (Z - a) / n ≤ Z - a := Nat.div_le_self _ _
    subst ex
    refine ⟨fun c2 => ?_, fun c2 => ?_⟩
    · have := (nI_leI (by omega) (by omega)).mp c2
      rw [Nat.min_eq_left this] at h
      exact h
    · have : ¬ z ≤ (Z - a) / n := fun w => c2 ((nI_leI (by omega) (by omega)).mpr w)
      rw [Nat.min_eq_right (by omega)] at h
      exact h
theorem p_read {n H L : Nat} {M W : zMem} {a1 a2 a3 a4 a5 : Int32} {P : zMem → zMem → Prop} (vt : sp_vt M 1 n H L) (r : rt0 W M n H L) (st : pst W M n H L) (hs : shs M W) (hP0 : P M W)
    (hPw : ∀ W1, W1 0 24 = 1 → pr W1 M n H → awf W W1 → P M W1)
    (hP : ∀ R f M' W1 W', W1 0 24 = 1 → pr W1 M n H → awf W W1 → sp_vt M' 1 n H L → rt0 W' M' n H L → M' 0 13 = f → W' 0 39 = f → (∀ j, j ≠ 13 → M' 0 j = M 0 j) → (R = 0 → ∀ c, c ≠ 0 → M' c = M c) → (0 < R → M' 29 2 = 0 ∧ M' 54 0 = 0 ∧ M' 60 0 = 0 ∧ ∀ q, q < 120 → M' 58 q = 0) → (∀ c, c ≠ 0 → c ≠ 4 → c ≠ 29 → c ≠ 54 → c ≠ 58 → c ≠ 60 → M' c = M c) → (∀ c, c ≠ 0 → c ≠ 4 → W' c = W1 c) → (∀ j, j ≠ 39 → W' 0 j = W1 0 j) → P M' W') : wp_Main_read a1 a2 a3 a4 a5 M (fun x M' => wp_Model_read a1 a2 a3 a4 a5 W (fun y W' => x = y ∧ P M' W')) := by
  obtain ⟨⟨n1, n8, H1, H5, L1, L6⟩, hn, hH, -⟩ := id vt
  refine xt_isSheet (fun i hi ei => ⟨fun q => absurd q (by decide), fun _ => ?_⟩) (fun nh => ⟨fun _ => in_no (hi := 3) rfl nh ⟨fun _ => ⟨rfl, hP0⟩, fun q => absurd rfl q⟩, fun q => absurd rfl q⟩)
  subst ei
  refine xt_isLane (fun l hl el => ⟨fun q => absurd q (by decide), fun _ => ?_⟩) (fun nh => ⟨fun _ => in_yes (hi := 3) rfl (by omega) (by omega) ⟨fun q => absurd q (by decide), fun _ => in_no (hi := 2) rfl nh ⟨fun _ => ⟨rfl, hP0⟩, fun q => absurd rfl q⟩⟩, fun q => absurd rfl q⟩)
  subst el
  refine ⟨fun c => ?_, fun c => ?_⟩
  · exact in_yes (hi := 3) rfl (by omega) (by omega) ⟨fun q => absurd q (by decide), fun _ => in_yes (hi := 2) rfl (by omega) (by omega) ⟨fun q => absurd q (by decide), fun _ => ⟨fun _ => ⟨rfl, hP0⟩, fun q => absurd c q⟩⟩⟩
  obtain ⟨y, hy, rfl⟩ := nI_of c
  have bad : ¬ (0 ≤ a5 ∧ a5 ≤ 5) → wp_Model_read (nI i) (nI l) a3 (nI y) a5 W (fun v W' => -1 = v ∧ P M W') := fun nh => in_yes (hi := 3) rfl (by omega) (by omega) ⟨fun q => absurd q (by decide), fun _ => in_yes (hi := 2) rfl (by omega) (by omega) ⟨fun q => absurd q (by decide), fun _ => ⟨fun q => absurd q c, fun _ => in_no (hi := 5) rfl nh ⟨fun _ => ⟨rfl, hP0⟩, fun q => absurd rfl q⟩⟩⟩⟩
  refine ⟨fun c2 => bad (fun q => absurd c2 (Int32.not_lt.mpr q.1)), fun c2 => ⟨fun c3 => bad (fun q => absurd c3 (Int32.not_lt.mpr q.2)), fun c3 => ?_⟩⟩
  obtain ⟨z, hz, rfl⟩ := nI_of2 (x := a5) (M := 5) (n := 5) rfl c2 (Int32.not_lt.mp c3)
  rw [hH, q_ix (by omega)]
  have w40 : ∀ W1, awf W W1 → W1 4 0 = nI n := fun W1 f => by rw [f.1 4 (by omega) (by omega) (by omega) (by omega)]; exact r.1
  -- both sides run
  have run : ∀ (R a : Nat) (f : Int32), y + z ≤ H → R ≤ z → (0 < R → a3 = nI a ∧ a + n * R ≤ 40) → (∀ j, j < n * R → W 18 (40 * i + a + j) = M (81 + 2 * i + 1) (a + j)) →
      (∀ (W1 : zMem) (K : Int32 → Int32 → zMem → Prop) (Q : Int32 → zMem → Prop), awf W W1 → (∀ r, r < R → (∀ r', r' < r → rgd (fun j => W1 18 (40 * i + a + j)) n r') → ¬ rgd (fun j => W1 18 (40 * i + a + j)) n r → Q (-20 - nI r) W1) → ((∀ r, r < R → rgd (fun j => W1 18 (40 * i + a + j)) n r) → K f (nI R) W1) → ∃ k, zlp4 (wpB_Model_read_78 (nI i) (nI l) a3 (nI y) (nI z) K Q) k 0 0 1 0 W1) →
      ∃ k, zlp1 (wpB_Main_read_116 (nI i) (nI l) a3 (nI y) (nI z) (81 + 2 * i) f (nI R) (fun (zm12 : zMem) => ∃ n : Nat, zlp1 (wpB_Main_read_159 (nI i) (nI l) a3 (nI y) (nI z) (81 + 2 * i) f (nI R) (fun x M' => wp_Model_read (nI i) (nI l) a3 (nI y) (nI z) W (fun y W' => x = y ∧ P M' W'))) n 0 zm12) (fun x M' => wp_Model_read (nI i) (nI l) a3 (nI y) (nI z) W (fun y W' => x = y ∧ P M' W'))) k 0 M := fun R a f hle hRz ha hcell scan => by
    have mul : ∀ r p, r < R → p < n → r * n + p < n * R := fun r' p hr hp => by
      have := Nat.mul_le_mul_right n (show r' + 1 ≤ R by omega)
      rw [Nat.succ_mul, Nat.mul_comm R n] at this
      omega
    have w18 : ∀ W1, awf W W1 → W1 18 = W 18 := fun W1 f => f.1 18 (by omega) (by omega) (by omega) (by omega)
    have iff : ∀ W1, awf W W1 → ∀ r', r' < R → (rgd (fun j => W1 18 (40 * i + a + j)) n r' ↔ rgd (fun j => M (81 + 2 * i + 1) (a + j)) n r') := fun W1 f r' hr' => by
      have e : ∀ p, p < n → W1 18 (40 * i + a + (r' * n + p)) = M (81 + 2 * i + 1) (a + (r' * n + p)) := fun p hp => by rw [w18 W1 f]; exact hcell _ (mul r' p hr' hp)
      constructor
      · intro h p hp
        have := h p hp
        show 1 ≤ M (81 + 2 * i + 1) (a + (r' * n + p)) ∧ M (81 + 2 * i + 1) (a + (r' * n + p)) ≤ 9
        rw [← e p hp]; exact this
      · intro h p hp
        have := h p hp
        show 1 ≤ W1 18 (40 * i + a + (r' * n + p)) ∧ W1 18 (40 * i + a + (r' * n + p)) ≤ 9
        rw [e p hp]; exact this
    refine xt_loops (i := i) (R := R) (a := a) hn n1 n8 (by omega) ha (fun r0 hr0 hg hb => ?_) (fun hg M' k1 k2 k3 k4 k5 k6 k7 => ?_)
    · refine mw_readG vt r st hi hl hy hz (fun q => absurd hle q) (fun _ W1 h24 hp f => scan W1 _ _ f (fun r2 hr2 hg2 hb2 => ⟨?_, hPw W1 h24 hp f⟩) (fun hall => ?_))
      · have : r0 = r2 := by
          rcases Nat.lt_trichotomy r0 r2 with w | w | w
          · exact absurd ((iff W1 f r0 hr0).mp (hg2 r0 w)) hb
          · exact w
          · exact absurd ((iff W1 f r2 hr2).mpr (hg r2 w)) hb2
        rw [this]
      · exact absurd ((iff W1 f r0 hr0).mp (hall r0 hr0)) hb
    · refine mw_readG vt r st hi hl hy hz (fun q => absurd hle q) (fun _ W1 h24 hp f => scan W1 _ _ f (fun r2 hr2 hg2 hb2 => absurd ((iff W1 f r2 hr2).mpr (hg r2 hr2)) hb2) (fun hall => ?_))
      refine mw_copyR (a := a) hi n1 n8 (w40 W1 f) (by omega) ha (fun W' u1 u2 u3 u4 u5 => ⟨rfl, ?_⟩)
      have m4 : ∀ c, c = 1 ∨ c = 2 ∨ c = 3 ∨ c = 5 → M' c = M c := fun c hc => k7 c (by omega) (by omega) (by omega) (by omega) (by omega) (by omega)
      have W14 : W1 4 = W 4 := f.1 4 (by omega) (by omega) (by omega) (by omega)
      have W1lo : ∀ j, j < 60 → W' 4 j = W 4 j := fun j hj => by rw [u2 j (fun r' p _ _ => by omega), W14]
      refine hP R _ M' W1 W' h24 hp f ?_ ?_ k3 u4 k4 k5 k6 k7 u3 u5
      · obtain ⟨b0, i1, i2, i3, i4, i5, i6, i7, i8, i9, i10, i11, i12, i13, i14⟩ := id vt
        have e1 : M' 1 = M 1 := m4 1 (by omega)
        have e2 : M' (1 + 1) = M (1 + 1) := m4 2 (by omega)
        have e3 : M' (1 + 2) = M (1 + 2) := m4 3 (by omega)
        have e5 : M' (1 + 4) = M (1 + 4) := m4 5 (by omega)
        refine ⟨b0, by rw [e1]; exact i1, by rw [e1]; exact i2, by rw [e1]; exact i3, by rw [e1]; exact i4, by rw [e1]; exact i5, by rw [e1]; exact i6, by rw [e1]; exact i7, by rw [e2]; exact i8, by rw [e3]; exact i9, by rw [e3]; exact i10, fun h p hh hp => ?_, by rw [e5]; exact i12, by rw [e5]; exact i13, by rw [e1, e5]; exact i14⟩
        show ∃ c, 1 ≤ c ∧ c ≤ 9 ∧ M' 4 (h * 8 + p) = nI c
        by_cases w : y ≤ h ∧ h < y + R
        · have g := hg (h - y) (by omega) p hp
          have e := k1 (h - y) p (by omega) hp
          rw [show y + (h - y) = h by omega] at e
          have g' : 1 ≤ M (81 + 2 * i + 1) (a + ((h - y) * n + p)) ∧ M (81 + 2 * i + 1) (a + ((h - y) * n + p)) ≤ 9 := g
          obtain ⟨c0, hc9, ec⟩ := nI_of2 (x := M (81 + 2 * i + 1) (a + ((h - y) * n + p))) (M := 9) (n := 9) rfl (fun q => absurd (Int32.lt_of_lt_of_le q (by decide : (0 : Int32) ≤ 1)) (Int32.not_lt.mpr g'.1)) g'.2
          refine ⟨c0, ?_, hc9, e.trans ec⟩
          have := g'.1
          rw [ec] at this
          exact (nI_leI (a := 1) (by omega) (by omega)).mp this
        · obtain ⟨c0, c1, c9, ec⟩ := i11 h p hh hp
          refine ⟨c0, c1, c9, ?_⟩
          rw [k2 _ (fun r' p' hr' hp' => by omega)]
          exact ec
      · obtain ⟨r0, r1, r2, r3, r4, r5, r6, rrow, run', rpa, ren⟩ := id r
        refine ⟨by rw [W1lo 0 (by omega)]; exact r0, by rw [W1lo 1 (by omega)]; exact r1, by rw [W1lo 2 (by omega), m4 1 (by omega)]; exact r2, by rw [W1lo 3 (by omega), m4 1 (by omega)]; exact r3, by rw [W1lo 4 (by omega), m4 1 (by omega)]; exact r4, by rw [W1lo 5 (by omega), m4 1 (by omega)]; exact r5, by rw [W1lo 6 (by omega)]; exact r6, fun j hj => by rw [W1lo _ (by omega), m4 2 (by omega)]; exact rrow j hj, fun s p hs' hp' => by rw [W1lo _ (by omega), m4 3 (by omega)]; exact run' s p hs' hp', fun h p hh hp' => ?_, fun h hh => by rw [W1lo _ (by omega), m4 1 (by omega), m4 5 (by omega)]; exact ren h hh⟩
        by_cases w : y ≤ h ∧ h < y + R
        · have e := k1 (h - y) p (by omega) hp'
          have e' := u1 (h - y) p (by omega) hp'
          rw [show y + (h - y) = h by omega] at e e'
          rw [e, e', w18 W1 f]
          exact hcell _ (mul (h - y) p (by omega) hp')
        · rw [k2 _ (fun r' p' hr' hp'' => by omega), u2 _ (fun r' p' hr' hp'' => by omega), W14]
          exact rpa h p hh hp'
  have sc0 : ∀ f : Int32, ((z = 0 ∧ f = 0) ∨ (0 < z ∧ ((W 16 i = -4 ∧ f = 1) ∨ (∃ l', l' < 3 ∧ l' ≠ l ∧ W 16 i = nI l' ∧ f = 3) ∨ (∃ Z, Z ≤ 40 ∧ W 16 i = nI l ∧ W 17 i = nI Z ∧ a3 < 0 ∧ f = 2)))) → y + z ≤ H → ∃ k, zlp1 (wpB_Main_read_116 (nI i) (nI l) a3 (nI y) (nI z) (81 + 2 * i) f 0 (fun (zm12 : zMem) => ∃ n : Nat, zlp1 (wpB_Main_read_159 (nI i) (nI l) a3 (nI y) (nI z) (81 + 2 * i) f 0 (fun x M' => wp_Model_read (nI i) (nI l) a3 (nI y) (nI z) W (fun y W' => x = y ∧ P M' W'))) n 0 zm12) (fun x M' => wp_Model_read (nI i) (nI l) a3 (nI y) (nI z) W (fun y W' => x = y ∧ P M' W'))) k 0 M := fun f hf hle => by
    refine run 0 0 f hle (by omega) (fun w => absurd w (by omega)) (fun j hj => absurd hj (by omega)) (fun W1 K Q fa _ hk => ?_)
    have w16 : W1 16 = W 16 := fa.1 16 (by omega) (by omega) (by omega) (by omega)
    have w17 : W1 17 = W 17 := fa.1 17 (by omega) (by omega) (by omega) (by omega)
    exact mw_scan0 (n := n) hi n1 n8 hz (w40 W1 fa) hl (by rw [w16, w17]; exact hf) (hk (fun r' hr' => absurd hr' (by omega)))
  have eZ : ∃ Z, Z ≤ 40 ∧ M (81 + 2 * i) 1 = nI Z := by
    rcases hs i hi with ⟨-, s1, -⟩ | ⟨l', Z, hl', hZ, -, -, s1, -⟩
    · exact ⟨0, by omega, s1⟩
    · exact ⟨Z, hZ, s1⟩
  obtain ⟨Z, hZ, eZ⟩ := eZ
  refine ⟨fun c4 => ⟨vp_in_nI (by omega) (by omega), fun c5 => ?_, fun c5 => ?_⟩, fun c4 => ?_⟩
  · have hle := (sub_le (by omega) H5 hz).mp c4
    have z0 : 0 < z := Nat.pos_of_ne_zero (fun q => c5 (by rw [q]; rfl))
    unfold wp_Sheet_faultAs
    rcases hs i hi with ⟨s0, s1, w16⟩ | ⟨l', Z', hl', hZ', s0, w16, s1, w17, hcell⟩
    · refine ⟨fun q => absurd s0 q, fun _ => ⟨fun q => absurd q (by decide), fun _ => ⟨fun _ => sc0 1 (Or.inr ⟨z0, Or.inl ⟨w16, rfl⟩⟩) hle, fun q => absurd q (by decide)⟩⟩⟩
    · have nm1 : ¬ nI l' = -1 := fun w => absurd w (by rcases (show l' = 0 ∨ l' = 1 ∨ l' = 2 by omega) with rfl | rfl | rfl <;> decide)
      rw [s0]
      refine ⟨fun _ => ⟨fun c6 => ?_, fun c6 => ⟨fun q => absurd q (by decide), fun _ => ⟨fun _ => sc0 3 (Or.inr ⟨z0, Or.inr (Or.inl ⟨l', hl', fun w => c6 (by rw [w]), w16, rfl⟩)⟩) hle, fun q => absurd q (by decide)⟩⟩⟩, fun q => absurd q nm1⟩
      have ll : l' = l := (nI_eq (by omega) (by omega)).mp c6
      subst ll
      have ZZ : Z' = Z := (nI_eq (by omega) (by omega)).mp (s1.symm.trans eZ)
      subst ZZ
      refine ⟨fun _ => ?_, fun q => absurd rfl q⟩
      rw [hn]
      refine xt_wholeR n1 n8 hz hZ eZ (fun a0 => ⟨fun q => absurd rfl q, fun _ => ⟨fun q => ?_, fun _ => sc0 2 (Or.inr ⟨z0, Or.inr (Or.inr ⟨Z', hZ, w16, w17, a0, rfl⟩)⟩) hle⟩⟩) (fun a ha ea => ⟨fun q => absurd rfl q, fun _ => ?_⟩)
      · have := (nI_leI (b := 0) (by omega) (by omega)).mp q
        omega
      · have hRz : min z ((Z' - a) / n) ≤ z := Nat.min_le_left _ _
        have hRT : min z ((Z' - a) / n) ≤ (Z' - a) / n := Nat.min_le_right _ _
        have both : ∀ f : Int32, (f = if min z ((Z' - a) / n) = z then 0 else 2) → ∃ k, zlp1 (wpB_Main_read_116 (nI i) (nI l') a3 (nI y) (nI z) (81 + 2 * i) f (nI (min z ((Z' - a) / n))) (fun (zm12 : zMem) => ∃ kk : Nat, zlp1 (wpB_Main_read_159 (nI i) (nI l') a3 (nI y) (nI z) (81 + 2 * i) f (nI (min z ((Z' - a) / n))) (fun x M' => wp_Model_read (nI i) (nI l') a3 (nI y) (nI z) W (fun y W' => x = y ∧ P M' W'))) kk 0 zm12) (fun x M' => wp_Model_read (nI i) (nI l') a3 (nI y) (nI z) W (fun y W' => x = y ∧ P M' W'))) k 0 M := fun f hf => by
          generalize hR : min z ((Z' - a) / n) = R at hf hRz hRT
          have bd : 0 < R → a + n * R ≤ Z' := fun w => by
            have := (Nat.le_div_iff_mul_le (show 0 < n by omega)).mp hRT
            rw [Nat.mul_comm] at this
            have : 0 < n * R := Nat.mul_pos n1 w
            omega
          refine run R a f hle hRz (fun w => ⟨ea, by have := bd w; omega⟩) (fun j hj => ?_) (fun W1 K Q fa hb hk => ?_)
          · have R0 : 0 < R := by
              rcases Nat.eq_zero_or_pos R with w | w
              · rw [w, Nat.mul_zero] at hj; omega
              · exact w
            have := bd R0
            rw [Nat.add_assoc]
            exact hcell (a + j) (by omega)
          · have v16 : W1 16 i = nI l' := by rw [fa.1 16 (by omega) (by omega) (by omega) (by omega)]; exact w16
            have v17 : W1 17 i = nI Z' := by rw [fa.1 17 (by omega) (by omega) (by omega) (by omega)]; exact w17
            have := mw_scan (y := y) (K := K) (Q := Q) hi n1 n8 hz (w40 W1 fa) hl v16 v17 hZ ha rfl hR.symm hb (fun h => by rw [← hf]; exact hk h)
            rw [ea]
            exact this
        refine ⟨fun c7 => both 0 ?_, fun c7 => both 2 ?_⟩
        · have := (nI_leI (by omega) (by omega)).mp c7
          rw [if_pos (by omega)]
        · rw [if_neg (fun w => c7 (by rw [w]; exact Int32.le_refl _))]
  · have hle := (sub_le (by omega) H5 hz).mp c4
    have z0 : z = 0 := (nI_eq (b := 0) (by omega) (by omega)).mp c5
    have r0 := sc0 0 (Or.inl ⟨z0, rfl⟩) hle
    have z0' : nI z ≤ 0 := by rw [z0]; exact Int32.le_refl 0
    refine ⟨fun _ => ?_, fun q => absurd rfl q⟩
    rw [hn]
    refine xt_wholeR n1 n8 hz hZ eZ (fun _ => ⟨fun q => absurd rfl q, fun _ => ⟨fun _ => r0, fun q => absurd z0' q⟩⟩) (fun a ha ea => ?_)
    have e0 : nI (min z ((Z - a) / n)) = 0 := by rw [z0, Nat.zero_min]; rfl
    rw [e0]
    exact ⟨fun q => absurd rfl q, fun _ => ⟨fun _ => r0, fun q => absurd z0' q⟩⟩
  · exact mw_readG vt r st hi hl hy hz (fun _ => ⟨rfl, hP0⟩) (fun q => absurd ((sub_le (by omega) H5 hz).mpr q) c4)
