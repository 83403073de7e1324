/-- the search of a hand, the reference's side -/
theorem mt_lay48 {a1 x2 x3 x5 : Int32} {u s : Nat} {K : Int32 → zMem → Prop} {Q : zMem → Prop} {W : zMem} (hu : u < 32) (hs : s < 1000) (hw : so_un u 5 0 s < 5) (hK : K (nI (so_un u 5 0 s)) W) : ∃ n, zlp2 (wpB_Model_layOrder_48 a1 x2 x3 (nI u) x5 K Q) n (nI s) 0 W := by
  generalize hw0 : so_un u 5 0 s = w at hw hK
  refine zlp2_r (fun m x y W' => W' = W ∧ ∃ c h, x = nI c ∧ y = nI h ∧ c ≤ s ∧ h ≤ 5 ∧ m = 5 - h ∧ so_un u (5 - h) h c = w) ?_ (n := 5) ⟨rfl, s, 0, rfl, rfl, Nat.le_refl _, by omega, rfl, hw0⟩
  rintro m x y W' ⟨rfl, c, h, rfl, rfl, hc, hh, rfl, eu⟩ J hJ
  have hge := so_un_ge (u := u) (5 - h) h c
  rw [eu] at hge
  have e5 : 5 - h = (5 - (h + 1)) + 1 := by omega
  rw [e5] at eu
  unfold so_un at eu
  unfold wpB_Model_layOrder_48 wpJ_Model_layOrder_64
  rw [so_bit u hu h (by omega)]
  rcases so_m2 (u / 2 ^ h) with b | b
  · have b1 : ¬ u / 2 ^ h % 2 = 1 := by omega
    rw [if_neg b1] at eu
    rw [b]
    refine ⟨fun q => absurd q (by decide), fun _ => ⟨fun q => ?_, fun q => ⟨fun _ z1 e1 z2 e2 => ?_, fun q => absurd q (by decide)⟩⟩⟩
    · have c0 : c = 0 := by
        have := (nI_leI (a := c) (b := 0) (by omega) (by omega)).mp q
        omega
      rw [if_pos c0] at eu
      rw [eu]; exact hK
    · have c0 : c ≠ 0 := fun z => q (by rw [z]; exact Int32.le_refl _)
      rw [if_neg c0] at eu
      rw [e1, e2, nI_1, q_pred (by omega)]
      exact hJ (5 - (h + 1)) _ _ _ (by omega) ⟨rfl, c - 1, h + 1, rfl, rfl, by omega, by omega, rfl, eu⟩
  · rw [if_pos b] at eu
    rw [b]
    refine ⟨fun _ => ⟨fun q => absurd rfl q, fun _ z1 e1 z2 e2 => ?_⟩, fun q => absurd rfl q⟩
    rw [e1, e2, nI_1, show nI c - 0 = nI c from Int32.sub_zero _]
    exact hJ (5 - (h + 1)) _ _ _ (by omega) ⟨rfl, c, h + 1, rfl, rfl, hc, by omega, rfl, eu⟩
/-- hands by places in an order -/
def mlay (W W' M : zMem) (H : Nat) (wh : Nat → Nat) : Prop := W' 0 18 = nI H ∧ W' 0 19 = M 1 4 ∧ (∀ h, h < H → W' 8 h = nI (wh h) ∧ W' 9 h = M 5 h) ∧ (∀ j, j ≠ 18 → j ≠ 19 → W' 0 j = W 0 j) ∧ (∀ k, k ≠ 0 → k ≠ 8 → k ≠ 9 → W' k = W k)
theorem mlay.y {W W' M : zMem} {H : Nat} {wh : Nat → Nat} (h : mlay W W' M H wh) : mfy W W' := ⟨fun k a _ c d _ _ _ _ _ _ => h.2.2.2.2 k a c d, fun j _ => by rw [h.2.2.2.2 6 (by omega) (by omega) (by omega)], fun j a b _ => h.2.2.2.1 j a b⟩
theorem mt_layOrder {n H L q : Nat} {M W : zMem} {Q : zMem → Prop} (vt : sp_vt M 1 n H L) (r : rt0 W M n H L) (hq : q < so_f H) (hQ : ∀ W', mlay W W' M H (so_wh H q) → Q W') : wp_Model_layOrder (nI q) W Q := by
  have H1 : 1 ≤ H := vt.1.2.2.1
  have H5 : H ≤ 5 := vt.1.2.2.2.1
  have hf := so_f_le H (by omega)
  unfold wp_Model_layOrder
  refine mt_asNumbered vt r (fun W1 m1 => ?_)
  obtain ⟨a18, a19, ah, a0, ak⟩ := id m1
  refine mt_orders (by rw [ak 4 (by omega) (by omega) (by omega)]; exact r.2.1) H1 H5 ?_
  refine zlp4_r (fun m x z y i W' => ∃ j, i = nI j ∧ j ≤ H ∧ m = H - j ∧ x = nI (so_s H q j).1 ∧ y = nI (so_s H q j).2.1 ∧ z = nI (so_s H q j).2.2 ∧ (∀ i, i < j → W' 8 i = nI (so_wh H q i)) ∧ (∀ d, d ≠ 8 → W' d = W1 d)) ?_ (n := H) ⟨0, rfl, by omega, rfl, rfl, rfl, rfl, fun i hi => absurd hi (by omega), fun _ _ => rfl⟩
  rintro m x z y i W' ⟨j, rfl, jH, rfl, rfl, rfl, rfl, i1, i2⟩ J hJ
  unfold wpB_Model_layOrder_17
  rw [i2 0 (by omega), a18]
  refine ⟨fun c => ?_, fun c => ?_⟩
  · have := (nI_leI (by omega) (by omega)).mp c
    have ej : j = H := by omega
    subst ej
    refine hQ W' ⟨by rw [i2 0 (by omega)]; exact a18, by rw [i2 0 (by omega)]; exact a19, fun h hh => ⟨i1 h hh, by rw [i2 9 (by omega)]; exact (ah h hh).2⟩, fun k q1 q2 => by rw [i2 0 (by omega)]; exact a0 k q1 q2, fun k q0 q8 q9 => by rw [i2 k q8]; exact ak k q0 q8 q9⟩
  have hj : j < H := (nI_ltI (by omega) (by omega)).mp (Int32.not_le.mp c)
  obtain ⟨k1, k2, k3, k4, k5⟩ := so_ok H (by omega) q (by omega) hq j (by omega) hj
  have es : so_s H q (j + 1) = ((so_s H q j).1 % ((so_s H q j).2.2 / (H - j)), (so_s H q j).2.1 ||| 2 ^ so_wh H q j, (so_s H q j).2.2 / (H - j)) := rfl
  have ew : so_wh H q j = so_un (so_s H q j).2.1 5 0 ((so_s H q j).1 / ((so_s H q j).2.2 / (H - j))) := rfl
  generalize so_s H q j = st at k1 k2 k3 k4 es ew
  obtain ⟨rest, used, below⟩ := st
  dsimp only at k1 k2 k3 k4 es ew ⊢
  rw [q_sub (by omega)]
  refine ⟨nI_ne0 (by omega) (by omega), fun z3 e3 => ?_⟩
  rw [pk_div (by omega) (by omega) (by omega)] at e3
  have hb : below / (H - j) ≤ below := Nat.div_le_self _ _
  subst e3
  generalize below / (H - j) = b' at k1 es ew hb
  have n2 : ¬ nI b' = 0 := nI_ne0 (by omega) (by omega)
  have hd : rest / b' ≤ rest := Nat.div_le_self _ _
  refine ⟨n2, fun z4 e4 => ⟨n2, fun z5 e5 => ?_⟩⟩
  rw [pk_div (by omega) (by omega) (by omega)] at e4
  rw [pk_rem (by omega) (by omega) (by omega)] at e5
  subst e4 e5
  rw [ew] at k5
  refine mt_lay48 k2 (by omega) (by omega) ?_
  rw [← ew] at k5 ⊢
  intro z6 e6
  refine ⟨vp_in_nI (by omega) (by omega), fun W2 e2 z7 e7 => ?_⟩
  rw [q_ix (by omega)] at e2
  rw [e6, e7, nI_1, so_or _ k2 _ (by omega)]
  refine hJ (H - (j + 1)) _ _ _ _ _ (by omega) ⟨j + 1, rfl, by omega, rfl, by rw [es], by rw [es], by rw [es], fun i hi => ?_, fun d hd => by rw [e2, zup_ne hd]; exact i2 d hd⟩
  rw [e2, zup_eq]
  by_cases c : i = j
  · rw [c, upd_eq]
  · rw [upd_ne c]; exact i1 i (by omega)
/-- an order is one -/
theorem xt_isOrder {a : Int32} {H : Nat} {M : zMem} {Q : Int32 → zMem → Prop} (hH : M 1 1 = nI H) (H1 : 1 ≤ H) (H5 : H ≤ 5) (ht : ∀ h, h < so_f H → a = nI h → Q 1 M) (hf : (¬ ∃ h, h < so_f H ∧ a = nI h) → Q 0 M) : wp_Main_isOrder a M Q := by
  have hf0 := so_f_le H (by omega)
  have hb : so_f H < 2147483648 := by omega
  unfold wp_Main_isOrder
  rw [hH]
  refine ⟨fun c => hf (fun q => ((rng_0 hb).mpr q).1 c), fun c => xt_orders H1 H5 ⟨fun c2 => hf (fun q => ((rng_0 hb).mpr q).2 c2), fun c2 => ?_⟩⟩
  obtain ⟨h, h1, h2⟩ := (rng_0 hb).mp ⟨c, c2⟩
  exact ht h h1 h2
theorem mt_isOrder {a : Int32} {H : Nat} {W : zMem} {Q : Int32 → zMem → Prop} (hH : W 4 1 = nI H) (H1 : 1 ≤ H) (H5 : H ≤ 5) (ht : ∀ h, h < so_f H → a = nI h → Q 1 W) (hf : (¬ ∃ h, h < so_f H ∧ a = nI h) → Q 0 W) : wp_Model_isOrder a W Q := by
  have hf0 := so_f_le H (by omega)
  have hb : so_f H < 2147483648 := by omega
  unfold wp_Model_isOrder
  refine mt_orders hH H1 H5 (mt_in (lo' := 0) (hi' := nI (so_f H) - 1) (by decide) rfl (fun c1 c2 => ⟨zbo_1, ?_⟩) (fun c => ⟨zbo_0, hf (fun q => c ((rng_1 (by omega) hb).mpr q))⟩))
  obtain ⟨h, h1, h2⟩ := (rng_1 (by omega) hb).mp ⟨c1, c2⟩
  exact ht h h1 h2
/-- stands -/
theorem p_stands {n H L : Nat} {M W : zMem} {a1 a2 : Int32} {P : zMem → zMem → Prop} (vt : sp_vt M 1 n H L) (r : rt0 W M n H L)
    (hP : ∀ M' W', (∀ k, k ≠ 59 → M' k = M k) → mfy W W' → P M' W') : wp_Main_stands a1 a2 M (fun x M' => wp_Model_stands a1 a2 W (fun y W' => x = y ∧ P M' W')) := by
  obtain ⟨⟨n1, n8, H1, H5, L1, L6⟩, hn, hH, -⟩ := id vt
  have w1 : W 4 1 = nI H := r.2.1
  have p0 := hP M W (fun _ _ => rfl) mfy.rf
  refine xt_isOrder hH H1 H5 (fun q hq eq => ⟨fun z => absurd z (by decide), fun _ => ?_⟩) (fun nh => ⟨fun _ => mt_isOrder w1 H1 H5 (fun h h1 h2 => absurd ⟨h, h1, h2⟩ nh) (fun _ => ⟨fun _ => ⟨rfl, p0⟩, fun z => absurd rfl z⟩), fun z => absurd rfl z⟩)
  subst eq
  refine xt_isHand hH (by omega) (fun i hi ei => ⟨fun _ => ?_, fun z => absurd z (by decide)⟩) (fun nh => ⟨fun z => absurd rfl z, fun _ => mt_isOrder w1 H1 H5 (fun h h1 h2 => ⟨fun z => absurd z (by decide), fun _ => mt_isHand w1 (by omega) (by omega) (fun h h1 h2 => absurd ⟨h, h1, h2⟩ nh) (fun _ => ⟨fun z => absurd rfl z, fun _ => ⟨rfl, p0⟩⟩)⟩) (fun z => absurd ⟨q, hq, rfl⟩ z)⟩)
  subst ei
  rw [hH]
  refine xt_standAs H1 H5 hq (fun M' s1 s2 => ⟨vp_in_nI (by omega) (by omega), ?_⟩)
  rw [q_ix (by omega), s1 i hi]
  refine mt_isOrder w1 H1 H5 (fun h h1 h2 => ⟨fun z => absurd z (by decide), fun _ => mt_isHand w1 (by omega) (by omega) (fun h h1 h2 => ⟨fun _ => ?_, fun z => absurd z (by decide)⟩) (fun z => absurd ⟨i, hi, rfl⟩ z)⟩) (fun z => absurd ⟨q, hq, rfl⟩ z)
  refine mt_layOrder vt r hq (fun W' ml => ⟨vp_in_nI (by omega) (by omega), ?_⟩)
  rw [q_ix (by omega), (ml.2.2.1 i hi).1]
  exact ⟨rfl, hP M' W' s2 ml.y⟩
