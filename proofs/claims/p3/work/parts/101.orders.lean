/-- orders of hands -/
def so_f : Nat → Nat
  | 0 => 1
  | n + 1 => (n + 1) * so_f n
/-- the first from h on that isn't used, s of them passed over -/
def so_un (u : Nat) : Nat → Nat → Nat → Nat
  | 0, h, _ => h
  | f + 1, h, s => if u / 2 ^ h % 2 = 1 then so_un u f (h + 1) s else if s = 0 then h else so_un u f (h + 1) (s - 1)
def so_s (H q : Nat) : Nat → Nat × Nat × Nat
  | 0 => (q, 0, so_f H)
  | i + 1 => ((so_s H q i).1 % ((so_s H q i).2.2 / (H - i)), (so_s H q i).2.1 ||| 2 ^ so_un (so_s H q i).2.1 5 0 ((so_s H q i).1 / ((so_s H q i).2.2 / (H - i))), (so_s H q i).2.2 / (H - i))
def so_wh (H q i : Nat) : Nat := so_un (so_s H q i).2.1 5 0 ((so_s H q i).1 / ((so_s H q i).2.2 / (H - i)))
def so_c1 (H q i : Nat) : Bool := decide (0 < (so_s H q i).2.2 / (H - i)) && (decide ((so_s H q i).2.1 < 32) && (decide ((so_s H q i).1 < 120) && (decide ((so_s H q i).2.2 ≤ 120) && decide (so_wh H q i < H))))
def so_all (c : Nat → Nat → Nat → Bool) : Bool := (List.range 6).all fun H => (List.range 120).all fun q => !(decide (q < so_f H)) || (List.range 5).all fun i => !(decide (i < H)) || c H q i
theorem so_all_at {c : Nat → Nat → Nat → Bool} (h : so_all c = true) (H : Nat) (hH : H < 6) (q : Nat) (hq : q < 120) (h1 : q < so_f H) (i : Nat) (hi : i < 5) (h2 : i < H) : c H q i = true := by
  have e1 := List.all_eq_true.mp h H (List.mem_range.mpr hH)
  have e2 := List.all_eq_true.mp e1 q (List.mem_range.mpr hq)
  rw [decide_eq_true h1] at e2
  have e3 := List.all_eq_true.mp e2 i (List.mem_range.mpr hi)
  rw [decide_eq_true h2] at e3
  exact e3
theorem so_ok1 : so_all so_c1 = true := by decide +kernel
theorem so_ok (H : Nat) (hH : H < 6) (q : Nat) (hq : q < 120) (h1 : q < so_f H) (i : Nat) (hi : i < 5) (h2 : i < H) : 0 < (so_s H q i).2.2 / (H - i) ∧ (so_s H q i).2.1 < 32 ∧ (so_s H q i).1 < 120 ∧ (so_s H q i).2.2 ≤ 120 ∧ so_wh H q i < H := by
  have := so_all_at so_ok1 H hH q hq h1 i hi h2
  unfold so_c1 at this
  simp only [Bool.and_eq_true, decide_eq_true_eq] at this
  exact this
def so_c2 (H q i : Nat) : Bool := (List.range 5).all fun j => !(decide (j < H)) || (!(decide (so_wh H q i = so_wh H q j)) || decide (i = j))
theorem so_ok2 : so_all so_c2 = true := by decide +kernel
theorem so_inj (H : Nat) (hH : H < 6) (q : Nat) (hq : q < 120) (h1 : q < so_f H) (i : Nat) (hi : i < 5) (j : Nat) (hj : j < 5) (h2 : i < H) (h3 : j < H) (h4 : so_wh H q i = so_wh H q j) : i = j := by
  have := so_all_at so_ok2 H hH q hq h1 i hi h2
  have e := List.all_eq_true.mp this j (List.mem_range.mpr hj)
  rw [decide_eq_true h3, decide_eq_true h4] at e
  exact of_decide_eq_true e
theorem so_f_le : ∀ H, H < 6 → so_f H ≤ 120 ∧ 0 < so_f H := by decide +kernel
theorem so_un_ge {u : Nat} : ∀ f h s, h ≤ so_un u f h s := by
  intro f
  induction f with
  | zero => intro h s; exact Nat.le_refl _
  | succ f ih =>
    intro h s
    unfold so_un
    split
    · have := ih (h + 1) s; omega
    · split
      · exact Nat.le_refl _
      · have := ih (h + 1) (s - 1); omega
theorem so_bit : ∀ u, u < 32 → ∀ h, h < 5 → ((nI u >>> (nI h &&& 31)) &&& 1) = nI (u / 2 ^ h % 2) := by decide +kernel
theorem so_or : ∀ u, u < 32 → ∀ w, w < 5 → nI u ||| (1 <<< (nI w &&& 31)) = nI (u ||| 2 ^ w) := by decide +kernel
theorem so_m2 (x : Nat) : x % 2 = 0 ∨ x % 2 = 1 := by omega
theorem xt_orders {H : Nat} {M : zMem} {Q : Int32 → zMem → Prop} (H1 : 1 ≤ H) (H5 : H ≤ 5) (hQ : Q (nI (so_f H)) M) : wp_Main_numberOfOrders (nI H) M Q := by
  unfold wp_Main_numberOfOrders
  refine zlp2_r (fun m x y M' => M' = M ∧ ∃ i, x = nI (so_f i) ∧ y = nI (i + 1) ∧ 1 ≤ i ∧ i ≤ H ∧ m = H - i) ?_ (n := H - 1) ⟨rfl, 1, rfl, rfl, by omega, H1, rfl⟩
  rintro m x y M' ⟨rfl, i, rfl, rfl, i1, iH, rfl⟩ J hJ
  refine ⟨fun c => ?_, fun c z1 e1 z2 e2 => ?_⟩
  · have := (nI_ltI (by omega) (by omega)).mp c
    rw [show i = H by omega]; exact hQ
  · have h1 : ¬ H < i + 1 := fun q => c (nI_lt q (by omega))
    rw [e1, e2, nI_1]
    refine hJ (H - (i + 1)) _ _ _ (by omega) ⟨rfl, i + 1, ?_, rfl, by omega, by omega, rfl⟩
    rw [q_mul]
    exact congrArg nI (Nat.mul_comm _ _)
theorem mt_orders {H : Nat} {W : zMem} {Q : Int32 → zMem → Prop} (hH : W 4 1 = nI H) (H1 : 1 ≤ H) (H5 : H ≤ 5) (hQ : Q (nI (so_f H)) W) : wp_Model_orders W Q := by
  unfold wp_Model_orders
  refine zlp2_r (fun m x y M' => M' = W ∧ ∃ i, x = nI (so_f i) ∧ y = nI (i + 1) ∧ 1 ≤ i ∧ i ≤ H ∧ m = H - i) ?_ (n := H - 1) ⟨rfl, 1, rfl, rfl, by omega, H1, rfl⟩
  rintro m x y M' ⟨rfl, i, rfl, rfl, i1, iH, rfl⟩ J hJ
  refine ⟨vp_in_nI (n := 1) (by omega) (by omega), ?_⟩
  rw [show ix 1 = 1 from rfl, hH]
  refine ⟨fun c => ?_, fun c z1 e1 z2 e2 => ?_⟩
  · have := (nI_ltI (by omega) (by omega)).mp c
    rw [show i = H by omega]; exact hQ
  · have h1 : ¬ H < i + 1 := fun q => c (nI_lt q (by omega))
    rw [e1, e2, nI_1]
    refine hJ (H - (i + 1)) _ _ _ (by omega) ⟨rfl, i + 1, ?_, rfl, by omega, by omega, rfl⟩
    rw [q_mul]
    exact congrArg nI (Nat.mul_comm _ _)
theorem xt_unused {k u s H : Nat} {M : zMem} {Q : Int32 → zMem → Prop} (hu : u < 32) (hs : s < 1000) (H5 : H ≤ 5) (hw : so_un u 5 0 s < H) (hQ : Q (nI (so_un u 5 0 s)) M) : wp_Orders_unusedHand k (nI u) (nI s) (nI H) M Q := by
  unfold wp_Orders_unusedHand
  generalize hw0 : so_un u 5 0 s = w at hw hQ
  refine zlp2_r (fun m x y M' => M' = M ∧ ∃ c h, x = nI c ∧ y = nI h ∧ c ≤ s ∧ h ≤ 5 ∧ m = 5 - h ∧ so_un u (5 - h) h (s - c) = w) ?_ (n := 5) ⟨rfl, 0, 0, rfl, rfl, by omega, by omega, rfl, hw0⟩
  rintro m x y M' ⟨rfl, c, h, rfl, rfl, hc, hh, rfl, eu⟩ J hJ
  have hge := so_un_ge (u := u) (5 - h) h (s - c)
  rw [eu] at hge
  have e5 : 5 - h = (5 - (h + 1)) + 1 := by omega
  rw [e5] at eu
  unfold so_un at eu
  refine ⟨fun q => ?_, fun q => ?_⟩
  · have := (nI_leI (by omega) (by omega)).mp q
    omega
  · rw [so_bit u hu h (by omega)]
    refine ⟨fun q2 z ez => ?_, fun q2 => ⟨fun q3 z1 e1 z2 e2 => ?_, fun q3 => ?_⟩⟩
    · have b1 : u / 2 ^ h % 2 = 1 := by
        rcases so_m2 (u / 2 ^ h) with b | b
        · exact absurd (by rw [b]; rfl) q2
        · exact b
      rw [if_pos b1] at eu
      rw [ez, nI_1]
      exact hJ (5 - (h + 1)) _ _ _ (by omega) ⟨rfl, c, h + 1, rfl, rfl, hc, by omega, rfl, eu⟩
    · have b1 : ¬ u / 2 ^ h % 2 = 1 := fun b => by rw [b] at q2; exact absurd q2 (by decide)
      have c1 : ¬ s - c = 0 := fun z => q3 (by rw [show c = s by omega])
      rw [if_neg b1, if_neg c1] at eu
      rw [e1, e2, nI_1, nI_1]
      exact hJ (5 - (h + 1)) _ _ _ (by omega) ⟨rfl, c + 1, h + 1, rfl, rfl, by omega, by omega, rfl, by rw [show s - (c + 1) = s - c - 1 by omega]; exact eu⟩
    · have b1 : ¬ u / 2 ^ h % 2 = 1 := fun b => by rw [b] at q2; exact absurd q2 (by decide)
      have c1 : c = s := (nI_eq (by omega) (by omega)).mp q3
      rw [if_neg b1, if_pos (by omega)] at eu
      rw [eu]; exact hQ
theorem xt_standAs {q H : Nat} {M : zMem} {Q : zMem → Prop} (H1 : 1 ≤ H) (H5 : H ≤ 5) (hq : q < so_f H) (hQ : ∀ M', (∀ i, i < H → M' 59 i = nI (so_wh H q i)) → (∀ d, d ≠ 59 → M' d = M d) → Q M') : wp_Orders_standAs 56 (nI q) (nI H) M Q := by
  unfold wp_Orders_standAs
  have hf := so_f_le H (by omega)
  refine xt_orders H1 H5 ?_
  refine zlp4_r (fun m x y z i M' => ∃ j, i = nI j ∧ j ≤ H ∧ m = H - j ∧ x = nI (so_s H q j).1 ∧ y = nI (so_s H q j).2.1 ∧ z = nI (so_s H q j).2.2 ∧ (∀ i, i < j → M' 59 i = nI (so_wh H q i)) ∧ (∀ d, d ≠ 59 → M' d = M d)) ?_ (n := H) ⟨0, rfl, by omega, rfl, rfl, rfl, rfl, fun i hi => absurd hi (by omega), fun _ _ => rfl⟩
  rintro m x y z i M' ⟨j, rfl, jH, rfl, rfl, rfl, rfl, i1, i2⟩ J hJ
  refine ⟨fun c => ?_, fun c => ?_⟩
  · have := (nI_leI (by omega) (by omega)).mp c
    have ej : j = H := by omega
    subst ej
    exact hQ M' i1 i2
  have hj : j < H := (nI_ltI (by omega) (by omega)).mp (Int32.not_le.mp c)
  obtain ⟨k1, k2, k3, k4, k5⟩ := so_ok H (by omega) q (by omega) hq j (by omega) hj
  have es : so_s H q (j + 1) = ((so_s H q j).1 % ((so_s H q j).2.2 / (H - j)), (so_s H q j).2.1 ||| 2 ^ so_wh H q j, (so_s H q j).2.2 / (H - j)) := rfl
  have ew : so_wh H q j = so_un (so_s H q j).2.1 5 0 ((so_s H q j).1 / ((so_s H q j).2.2 / (H - j))) := rfl
  generalize so_s H q j = st at k1 k2 k3 k4 es ew
  obtain ⟨rest, used, below⟩ := st
  dsimp only at k1 k2 k3 k4 es ew ⊢
  rw [q_sub (by omega)]
  refine ⟨nI_ne0 (by omega) (by omega), fun z3 e3 => ?_⟩
  rw [pk_div (by omega) (by omega) (by omega)] at e3
  have hb : below / (H - j) ≤ below := Nat.div_le_self _ _
  subst e3
  generalize below / (H - j) = b' at k1 es ew hb
  have n1 : ¬ nI b' ≤ 0 := nI_nle (by omega) (by omega)
  have n2 : ¬ nI b' = 0 := nI_ne0 (by omega) (by omega)
  have hd : rest / b' ≤ rest := Nat.div_le_self _ _
  refine ⟨fun q => absurd q n1, fun _ => ⟨n2, ?_⟩⟩
  refine ⟨fun q => absurd q n1, fun _ => ⟨n2, ?_⟩⟩
  rw [pk_rem (by omega) (by omega) (by omega), pk_div (by omega) (by omega) (by omega)]
  rw [ew] at k5
  refine xt_unused k2 (by omega) H5 k5 ⟨vp_in_nI (by omega) (by omega), fun M1 e1 z1 f1 z2 f2 => ?_⟩
  rw [← ew] at e1 f1 k5
  rw [q_ix (by omega)] at e1
  rw [f1, f2, nI_1, so_or _ k2 _ (by omega)]
  refine hJ (H - (j + 1)) _ _ _ _ _ (by omega) ⟨j + 1, rfl, by omega, rfl, by rw [es], by rw [es], by rw [es], fun i hi => ?_, fun d hd => by rw [e1, zup_ne hd]; exact i2 d hd⟩
  rw [e1]
  show upd (M' 59) j _ i = _
  by_cases c : i = j
  · rw [c, upd_eq]
  · rw [upd_ne c]; exact i1 i (by omega)
