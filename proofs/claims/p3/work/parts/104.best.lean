theorem cmp_le (x y : Nat) (hx : x < 9223372036854775808) (hy : y < 9223372036854775808) : (lg_cmp (lN x) (lN y) ≤ 0) = (x ≤ y) := by
  rw [← Int32.not_lt, lg_cmp_0lt, pk_lLT hy hx]
  exact propext Nat.not_lt
theorem mul_b {a b A B : Nat} (ha : a ≤ A) (hb : b ≤ B) (h : A * B < 9223372036854775808) : a * b < 9223372036854775808 := Nat.lt_of_le_of_lt (Nat.mul_le_mul ha hb) h
theorem xt_more {a b c d : Nat} {M : zMem} {Q : Int32 → zMem → Prop} (ha : a ≤ 480000) (hb : b ≤ 480000) (hc : c ≤ 480000) (hd : d ≤ 480000) (h1 : c * b < a * d → Q 1 M) (h0 : ¬ c * b < a * d → Q 0 M) : wp_Main_isMore (lN a) (lN b) (lN c) (lN d) M Q := by
  unfold wp_Main_isMore
  rw [lN_mul, lN_mul, cmp_le _ _ (mul_b ha hd (by decide)) (mul_b hc hb (by decide))]
  exact ⟨fun z => h0 (Nat.not_lt.mpr z), fun z => h1 (Nat.not_le.mp z)⟩
theorem mt_more {a b c d : Nat} {W : zMem} {Q : Int32 → zMem → Prop} (e31 : W 0 31 = nI a) (e32 : W 0 32 = nI b) (e33 : W 0 33 = nI c) (e34 : W 0 34 = nI d) (ha : a ≤ 480000) (hb : b ≤ 480000) (hc : c ≤ 480000) (hd : d ≤ 480000) (h1 : c * b < a * d → Q 1 W) (h0 : ¬ c * b < a * d → Q 0 W) : wp_Model_isMore W Q := by
  unfold wp_Model_isMore
  rw [e31, e32, e33, e34, q_l64 (by omega), q_l64 (by omega), q_l64 (by omega), q_l64 (by omega), lN_mul, lN_mul, cmp_le _ _ (mul_b ha hd (by decide)) (mul_b hc hb (by decide))]
  exact ⟨fun z => h0 (Nat.not_lt.mpr z), fun z => h1 (Nat.not_le.mp z)⟩
theorem ro_split {o : Option (Nat × Nat × Nat × Nat)} : ro_c o = ro_top o * Nat.gcd (ro_c o) (ro_t o) ∧ ro_t o = ro_bot o * Nat.gcd (ro_c o) (ro_t o) := ⟨(Nat.div_mul_cancel (Nat.gcd_dvd_left _ _)).symm, (Nat.div_mul_cancel (Nat.gcd_dvd_right _ _)).symm⟩
theorem ro_cross4 {a b c d g k : Nat} (hg : 0 < g) (hk : 0 < k) : (c * k) * (b * g) < (a * g) * (d * k) ↔ c * b < a * d := by
  have e1 : (c * k) * (b * g) = (c * b) * (g * k) := by
    rw [Nat.mul_mul_mul_comm c k b g, Nat.mul_comm k g]
  have e2 : (a * g) * (d * k) = (a * d) * (g * k) := by
    rw [Nat.mul_mul_mul_comm a g d k]
  rw [e1, e2]
  exact Nat.mul_lt_mul_right (Nat.mul_pos hg hk)
theorem ro_cross {a b : Option (Nat × Nat × Nat × Nat)} (ha : sp_rok a) (hb : sp_rok b) : ro_c b * ro_t a < ro_c a * ro_t b ↔ ro_top b * ro_bot a < ro_top a * ro_bot b := by
  have ga := ro_gcd ha
  have gb := ro_gcd hb
  obtain ⟨a1, a2⟩ := ro_split (o := a)
  obtain ⟨b1, b2⟩ := ro_split (o := b)
  generalize Nat.gcd (ro_c a) (ro_t a) = g at ga a1 a2
  generalize Nat.gcd (ro_c b) (ro_t b) = k at gb b1 b2
  rw [a1, a2, b1, b2]
  exact ro_cross4 ga gb
/-- the best of the first q, and how many have no ring -/
def bs_m (o : Nat → Option (Nat × Nat × Nat × Nat)) : Nat → Nat
  | 0 => 0
  | q + 1 => if ro_top (o (bs_m o q)) * ro_bot (o q) < ro_top (o q) * ro_bot (o (bs_m o q)) then q else bs_m o q
def bs_r (o : Nat → Option (Nat × Nat × Nat × Nat)) : Nat → Nat
  | 0 => 0
  | q + 1 => bs_r o q + (if ro_top (o q) = 0 then 1 else 0)
theorem bs_m_lt {o : Nat → Option (Nat × Nat × Nat × Nat)} : ∀ q, bs_m o q ≤ q ∧ (0 < q → bs_m o q < q) := by
  intro q
  induction q with
  | zero => exact ⟨Nat.le_refl _, fun h => absurd h (by omega)⟩
  | succ q ih =>
    unfold bs_m
    split <;> omega
theorem bs_r_le {o : Nat → Option (Nat × Nat × Nat × Nat)} : ∀ q, bs_r o q ≤ q := by
  intro q
  induction q with
  | zero => exact Nat.le_refl _
  | succ q ih =>
    unfold bs_r
    split <;> omega
theorem bs_congr {o o' : Nat → Option (Nat × Nat × Nat × Nat)} : ∀ q, (∀ i, i < q → o i = o' i) → (0 < q → bs_m o q = bs_m o' q) ∧ bs_r o q = bs_r o' q := by
  intro q
  induction q with
  | zero => intro _; exact ⟨fun h => absurd h (by omega), rfl⟩
  | succ q ih =>
    intro h
    obtain ⟨i1, i2⟩ := ih (fun i hi => h i (by omega))
    unfold bs_m bs_r
    rw [i2, h q (by omega)]
    refine ⟨fun _ => ?_, rfl⟩
    rcases Nat.eq_zero_or_pos q with z | z
    · subst z
      show (if ro_top (o 0) * _ < _ * ro_bot (o 0) then 0 else 0) = (if ro_top (o' 0) * _ < _ * ro_bot (o' 0) then 0 else 0)
      rw [h 0 (by omega)]
    · rw [i1 z]
      have := (bs_m_lt (o := o') q).2 z
      rw [h _ (by omega)]
theorem og.rk {M : zMem} {n H L q : Nat} {o : Option (Nat × Nat × Nat × Nat)} (h : og M n H L q o) : sp_rok o := by
  obtain ⟨-, -, -, -, -, -, -, -, -, -, rk⟩ := h
  exact rk
/-- the class's loop over all orders -/
theorem xt_best {a1 : Int32} {n H L : Nat} {M : zMem} {K : Int32 → Int32 → zMem → Prop} {Q : Int32 → zMem → Prop} (vt : sp_vt M 1 n H L) (hco : co M n H L)
    (hK : ∀ M' o, (∀ q, q < so_f H → ov M' n H L q (o q)) → co M' n H L → ofr M M' → K (nI (bs_m o (so_f H))) (nI (bs_r o (so_f H))) M') : ∃ k, zlp3 (wpB_Main_best_30 a1 (nI (so_f H)) K Q) k 0 0 0 M := by
  obtain ⟨⟨n1, n8, H1, H5, L1, L6⟩, hn, hH, -⟩ := id vt
  have hf := so_f_le H (by omega)
  refine zlp3_r (fun m x y z M' => ∃ q o, z = nI q ∧ q ≤ so_f H ∧ m = so_f H - q ∧ x = nI (bs_m o q) ∧ y = nI (bs_r o q) ∧ (∀ i, i < q → ov M' n H L i (o i)) ∧ co M' n H L ∧ ofr M M') ?_ (n := so_f H) ⟨0, fun _ => none, rfl, by omega, rfl, rfl, rfl, fun i hi => absurd hi (by omega), hco, fun _ _ => rfl⟩
  rintro m x y z M' ⟨q, o, rfl, hq, rfl, rfl, rfl, i1, i2, i3⟩ J hJ
  unfold wpB_Main_best_30
  refine ⟨fun c => ?_, fun c => ?_⟩
  · have := (nI_leI (by omega) (by omega)).mp c
    have eq : q = so_f H := by omega
    rw [eq] at i1 ⊢
    exact hK M' o i1 i2 i3
  have hq2 : q < so_f H := (nI_ltI (by omega) (by omega)).mp (Int32.not_le.mp c)
  have vt' : sp_vt M' 1 n H L := vt.moved (fun i hi => i3 _ (by omega))
  refine xt_findOrder vt' i2 hq2 (fun M2 oq ho hco2 fo fr => ?_)
  have i3' : ofr M M2 := fun k hk => (fr k hk).trans (i3 k hk)
  have ov2 : ∀ i, i < q + 1 → ov M2 n H L i (if i = q then oq else o i) := fun i hi => by
    by_cases c2 : i = q
    · rw [if_pos c2, c2]; exact ho
    · rw [if_neg c2]; exact (i1 i (by omega)).moved (fun i hi => fr _ (by omega)) (fo i c2).1 (fo i c2).2
  have cg := bs_congr (o := o) (o' := fun i => if i = q then oq else o i) q (fun i hi => by rw [if_neg (by omega)])
  obtain ⟨r1, r2, r3, r4⟩ := ro_tb ho.1.rk
  have hm := bs_m_lt (o := o) q
  have hr := bs_r_le (o := o) q
  -- behind the count
  have tail : ∀ y' : Int32, y' = nI (bs_r (fun i => if i = q then oq else o i) (q + 1)) → wpJ_Main_best_59 a1 K J Q (nI (bs_m o q)) y' (nI (so_f H)) (nI q) M2 := fun y' hy' => by
    unfold wpJ_Main_best_59
    rw [q_ix (by omega), q_ix (by omega)]
    have om : ov M2 n H L (bs_m o q) (if bs_m o q = q then oq else o (bs_m o q)) := ov2 _ (by omega)
    obtain ⟨s1, s2, s3, s4⟩ := ro_tb om.1.rk
    have em : bs_m (fun i => if i = q then oq else o i) (q + 1) = if ro_top (if bs_m o q = q then oq else o (bs_m o q)) * ro_bot oq < ro_top oq * ro_bot (if bs_m o q = q then oq else o (bs_m o q)) then q else bs_m o q := by
      rcases Nat.eq_zero_or_pos q with z | z
      · subst z
        show (if _ then 0 else 0) = _
        have : bs_m o 0 = 0 := rfl
        rw [this]
        simp only [ite_self]
      · show (if ro_top ((fun i => if i = q then oq else o i) (bs_m (fun i => if i = q then oq else o i) q)) * ro_bot ((fun i => if i = q then oq else o i) q) < ro_top ((fun i => if i = q then oq else o i) q) * ro_bot ((fun i => if i = q then oq else o i) (bs_m (fun i => if i = q then oq else o i) q)) then q else bs_m (fun i => if i = q then oq else o i) q) = _
        rw [← cg.1 z]
        simp only [↓reduceIte]
    rw [ho.2.1, ho.2.2, om.2.1, om.2.2, q_l64 (by omega), q_l64 (by omega), q_l64 (by omega), q_l64 (by omega)]
    refine ⟨vp_in_nI (by omega) (by omega), vp_in_nI (by omega) (by omega), vp_in_nI (by omega) (by omega), vp_in_nI (by omega) (by omega), xt_more (by omega) (by omega) (by omega) (by omega) (fun c2 => ⟨fun z => absurd z (by decide), fun _ z ez => ?_⟩) (fun c2 => ⟨fun _ z ez => ?_, fun z => absurd rfl z⟩)⟩
    · rw [if_pos c2] at em
      rw [ez, nI_1]
      exact hJ (so_f H - (q + 1)) _ _ _ _ (by omega) ⟨q + 1, fun i => if i = q then oq else o i, rfl, by omega, rfl, by rw [em], hy', ov2, hco2, i3'⟩
    · rw [if_neg c2] at em
      rw [ez, nI_1]
      exact hJ (so_f H - (q + 1)) _ _ _ _ (by omega) ⟨q + 1, fun i => if i = q then oq else o i, rfl, by omega, rfl, by rw [em], hy', ov2, hco2, i3'⟩
  have er : bs_r (fun i => if i = q then oq else o i) (q + 1) = bs_r o q + (if ro_top oq = 0 then 1 else 0) := by
    show bs_r (fun i => if i = q then oq else o i) q + (if ro_top ((fun i => if i = q then oq else o i) q) = 0 then 1 else 0) = _
    rw [← cg.2]
    simp only [↓reduceIte]
  rw [q_ix (by omega), ho.2.1]
  refine ⟨vp_in_nI (by omega) (by omega), fun c2 => tail _ ?_, fun c2 z ez => tail _ ?_⟩
  · rw [er, if_neg (fun z => c2 (by rw [z]; rfl)), Nat.add_zero]
  · have : ro_top oq = 0 := (nI_eq (a := ro_top oq) (b := 0) (by omega) (by omega)).mp c2
    rw [er, if_pos this, ez, nI_1]
/-- the reference's loop over all orders -/
theorem mt_best {a1 : Int32} {n H L : Nat} {o : Nat → Option (Nat × Nat × Nat × Nat)} {M W : zMem} {K : Int32 → Int32 → zMem → Prop} {Q : Int32 → zMem → Prop} (vt : sp_vt M 1 n H L) (r : rt0 W M n H L) (ho : ∀ q, q < so_f H → og M n H L q (o q))
    (hK : ∀ W', mfy W W' → W' 0 33 = nI (ro_c (o (bs_m o (so_f H)))) → W' 0 34 = nI (ro_t (o (bs_m o (so_f H)))) → K (nI (bs_m o (so_f H))) (nI (bs_r o (so_f H))) W') : ∃ k, zlp3 (wpB_Model_best_21 a1 K Q) k 0 0 0 W := by
  obtain ⟨⟨n1, n8, H1, H5, L1, L6⟩, hn, hH, -⟩ := id vt
  have hf := so_f_le H (by omega)
  refine zlp3_r (fun m x y z W' => ∃ q, z = nI q ∧ q ≤ so_f H ∧ m = so_f H - q ∧ x = nI (bs_m o q) ∧ y = nI (bs_r o q) ∧ mfy W W' ∧ (0 < q → W' 0 33 = nI (ro_c (o (bs_m o q))) ∧ W' 0 34 = nI (ro_t (o (bs_m o q))))) ?_ (n := so_f H) ⟨0, rfl, by omega, rfl, rfl, rfl, mfy.rf, fun z => absurd z (by omega)⟩
  rintro m x y z W' ⟨q, rfl, hq, rfl, rfl, rfl, fy, i1⟩ J hJ
  unfold wpB_Model_best_21
  have w4 : W' 4 = W 4 := fy.1 4 (by omega) (by omega) (by omega) (by omega) (by omega) (by omega) (by omega) (by omega) (by omega) (by omega)
  have r' : rt0 W' M n H L := r.moved w4 (fun _ _ => rfl)
  refine mt_orders r'.2.1 H1 H5 ⟨fun c => ?_, fun c => ?_⟩
  · have := (nI_leI (by omega) (by omega)).mp c
    have eq : q = so_f H := by omega
    rw [eq] at i1 ⊢
    exact hK W' fy (i1 (by omega)).1 (i1 (by omega)).2
  have hq2 : q < so_f H := (nI_ltI (by omega) (by omega)).mp (Int32.not_le.mp c)
  have gq := ho q hq2
  obtain ⟨k1, k2, k3, k4⟩ := ro_ok gq.rk
  have kt := ro_tb gq.rk
  refine mt_og vt r' hq2 gq (fun W2 fy2 e33 e34 e31 e32 => ?_)
  have fyt := fy.tr fy2
  have tail : ∀ y' : Int32, nI (bs_r o q) + y' = nI (bs_r o (q + 1)) → wpJ_Model_best_49 a1 K J Q (nI (bs_m o q)) (nI q) (nI (bs_r o q)) y' W2 := fun y' hy' => by
    unfold wpJ_Model_best_49
    intro z ez
    rw [hy'] at ez
    have keep : ∀ K2 : zMem → Prop, (∀ W3, mfy W W3 → W3 0 33 = nI (ro_c (o q)) → W3 0 34 = nI (ro_t (o q)) → K2 W3) → wp_Model_keepBest W2 K2 := fun K2 h2 => by
      unfold wp_Model_keepBest
      intro W3 e3 W4 e4
      have x32 : W3 0 32 = nI (ro_t (o q)) := by rw [e3, zup_eq, upd_ne (by omega)]; exact e32
      rw [x32] at e4
      rw [e31] at e3
      refine h2 W4 (fyt.tr ⟨fun k q0 _ _ _ _ _ _ _ _ _ => by rw [e4, zup_ne q0, e3, zup_ne q0], fun j _ => by rw [e4, zup_ne (by omega), e3, zup_ne (by omega)], fun j _ _ q3 => by rw [e4, zup_eq, upd_ne (by omega), e3, zup_eq, upd_ne (by omega)]⟩) ?_ ?_
      · rw [e4, zup_eq, upd_ne (by omega), e3, zup_eq, upd_eq]
      · rw [e4, zup_eq, upd_eq]
    refine ⟨fun c2 => ?_, fun c2 => ?_⟩
    · have q0 : q = 0 := (nI_eq (a := q) (b := 0) (by omega) (by omega)).mp c2
      refine keep _ (fun W3 f3 e33' e34' y ey => ?_)
      have em : bs_m o (q + 1) = q := by
        unfold bs_m
        rw [q0]
        split <;> rfl
      rw [ez, ey, nI_1]
      exact hJ (so_f H - (q + 1)) _ _ _ _ (by omega) ⟨q + 1, rfl, by omega, rfl, by rw [em], rfl, f3, fun _ => by rw [em]; exact ⟨e33', e34'⟩⟩
    · have q0 : 0 < q := Nat.pos_of_ne_zero (fun z => c2 (by rw [z]; rfl))
      obtain ⟨j1, j2⟩ := i1 q0
      have hm := (bs_m_lt (o := o) q).2 q0
      have gm := ho (bs_m o q) (by omega)
      obtain ⟨l1, l2, l3, l4⟩ := ro_ok gm.rk
      have cr := ro_cross gq.rk gm.rk
      refine mt_more e31 e32 (e33.trans j1) (e34.trans j2) (by omega) (by omega) (by omega) (by omega) (fun c3 => ⟨fun z => absurd z (by decide), fun _ => keep _ (fun W3 f3 e33' e34' y ey => ?_)⟩) (fun c3 => ⟨fun _ y ey => ?_, fun z => absurd rfl z⟩)
      · have em : bs_m o (q + 1) = q := by
          unfold bs_m
          rw [if_pos (cr.mp c3)]
        rw [ez, ey, nI_1]
        exact hJ (so_f H - (q + 1)) _ _ _ _ (by omega) ⟨q + 1, rfl, by omega, rfl, by rw [em], rfl, f3, fun _ => by rw [em]; exact ⟨e33', e34'⟩⟩
      · have em : bs_m o (q + 1) = bs_m o q := by
          show (if _ then _ else _) = _
          rw [if_neg (fun z => c3 (cr.mpr z))]
        rw [ez, ey, nI_1]
        exact hJ (so_f H - (q + 1)) _ _ _ _ (by omega) ⟨q + 1, rfl, by omega, rfl, by rw [em], rfl, fyt, fun _ => by rw [em]; exact ⟨e33.trans j1, e34.trans j2⟩⟩
  by_cases c3 : o q = none
  · rw [if_pos c3]
    refine ⟨fun _ => tail _ ?_, fun z => absurd rfl z⟩
    show _ = nI (bs_r o q + (if ro_top (o q) = 0 then 1 else 0))
    rw [if_pos (kt.2.2.2.mp c3)]
    exact nI_1 _
  · rw [if_neg c3]
    refine ⟨fun z => absurd z (by decide), fun _ => tail _ ?_⟩
    show _ = nI (bs_r o q + (if ro_top (o q) = 0 then 1 else 0))
    rw [if_neg (fun z => c3 (kt.2.2.2.mpr z))]
    exact Int32.add_zero _
/-- best -/
theorem p_best {n H L : Nat} {M W : zMem} {a : Int32} {P : zMem → zMem → Prop} (vt : sp_vt M 1 n H L) (r : rt0 W M n H L) (hco : co M n H L)
    (hP : ∀ M' W', ofr M M' → mfy W W' → co M' n H L → P M' W') : wp_Main_best a M (fun x M' => wp_Model_best a W (fun y W' => x = y ∧ P M' W')) := by
  obtain ⟨⟨n1, n8, H1, H5, L1, L6⟩, hn, hH, -⟩ := id vt
  have hf := so_f_le H (by omega)
  have bad : (¬ (0 ≤ a ∧ a ≤ 3)) → wp_Model_best a W (fun y W' => -1 = y ∧ P M W') := fun c =>
    mt_in (lo' := 0) (hi' := 3) (by decide) (by decide) (fun c1 c2 => absurd ⟨c1, c2⟩ c) (fun _ => ⟨fun q => absurd rfl q, fun _ => ⟨rfl, hP M W (fun _ _ => rfl) mfy.rf hco⟩⟩)
  refine ⟨fun c => bad (fun q => absurd c (Int32.not_lt.mpr q.1)), fun c1 => ⟨fun c2 => ?_, fun c => bad (fun q => c q.2)⟩⟩
  rw [hH]
  refine xt_orders H1 H5 ?_
  refine xt_best vt hco (fun M' o ho hco' fr => ?_)
  have fin : ∀ x : Int32, (¬ a = 0 → (¬ a = 3 → x = nI (if a - 1 = 0 then ro_top (o (bs_m o (so_f H))) else ro_bot (o (bs_m o (so_f H))))) ∧ (a = 3 → x = nI (bs_r o (so_f H)))) ∧ (a = 0 → x = nI (bs_m o (so_f H))) → wp_Model_best a W (fun y W' => x = y ∧ P M' W') := fun x hx => by
    refine mt_in (lo' := 0) (hi' := 3) (by decide) (by decide) (fun _ _ => ⟨fun _ => ?_, fun q => absurd q (by decide)⟩) (fun q => absurd ⟨Int32.not_lt.mp c1, c2⟩ q)
    refine mt_best vt r (fun q hq => (ho q hq).1.moved (fun i hi => (fr _ (by omega)).symm)) (fun W' fy e33 e34 => ?_)
    have p1 := hP M' W' fr fy hco'
    refine ⟨fun q0 => ⟨fun q3 => ?_, fun q3 => ⟨(hx.1 q0).2 q3, p1⟩⟩, fun q0 => ⟨hx.2 q0, p1⟩⟩
    have hm := (bs_m_lt (o := o) (so_f H)).2 (by omega)
    have rk := (ho _ hm).1.rk
    obtain ⟨k1, k2, k3, -⟩ := ro_ok rk
    rw [e33, e34, q_l64 (by omega), q_l64 (by omega)]
    refine mt_lowest (by omega) (by omega) (ro_gcd rk) ?_
    rw [lN_i]
    refine ⟨((hx.1 q0).1 q3).trans ?_, p1⟩
    by_cases c : a - 1 = 0
    · rw [if_pos c, if_pos c]; rfl
    · rw [if_neg c, if_neg c]; rfl
  have hm := (bs_m_lt (o := o) (so_f H)).2 (by omega)
  obtain ⟨-, v7, v8⟩ := ho _ hm
  intro z ez
  subst ez
  rw [q_ix (by omega), v7, v8]
  refine ⟨fun c => fin _ ⟨fun q => absurd c q, fun _ => rfl⟩, fun c => ⟨vp_in_nI (by omega) (by omega), fin _ ⟨fun _ => ⟨fun _ => ?_, fun q => ?_⟩, fun q => ?_⟩⟩, fun c => ⟨vp_in_nI (by omega) (by omega), fin _ ⟨fun _ => ⟨fun _ => ?_, fun q => ?_⟩, fun q => ?_⟩⟩, fun q0 q1 q2 => fin _ ⟨fun _ => ⟨fun q3 => ?_, fun _ => rfl⟩, fun q => absurd q q0⟩⟩
  · rw [c, if_pos (by decide)]
  · rw [c] at q; exact absurd q (by decide)
  · rw [c] at q; exact absurd q (by decide)
  · rw [c, if_neg (by decide)]
  · rw [c] at q; exact absurd q (by decide)
  · rw [c] at q; exact absurd q (by decide)
  · obtain ⟨j, hj, e⟩ := nI_of2 (x := z) (M := 3) (n := 3) rfl c1 c2
    rcases (show j = 0 ∨ j = 1 ∨ j = 2 ∨ j = 3 by omega) with rfl | rfl | rfl | rfl
    · exact absurd e q0
    · exact absurd e q1
    · exact absurd e q2
    · exact absurd e q3
