/-- Euclid -/
theorem q_lgz (x : Int64) : lg_cmp x 0 = 0 ↔ x = 0 := by
  unfold lg_cmp
  by_cases h1 : x > 0
  · rw [if_pos h1]
    exact ⟨fun h => absurd h (by decide), fun h => absurd h1 (by rw [h]; exact Int64.lt_irrefl)⟩
  · rw [if_neg h1]
    by_cases h2 : x = 0
    · rw [if_pos h2]; exact ⟨fun _ => h2, fun _ => rfl⟩
    · rw [if_neg h2]; exact ⟨fun h => absurd h (by decide), fun h => absurd h h2⟩
theorem q_lNi {a : Nat} (ha : a < 9223372036854775808) : lN a = 0 ↔ a = 0 := by
  refine ⟨fun h => ?_, fun h => by rw [h]; rfl⟩
  have h1 : (Int64.ofNat a).toBitVec.toNat = (0 : Int64).toBitVec.toNat := congrArg (fun x : Int64 => x.toBitVec.toNat) h
  have h2 : (Int64.ofNat a).toBitVec = BitVec.ofNat 64 a := rfl
  rw [h2, BitVec.toNat_ofNat, show (0 : Int64).toBitVec.toNat = 0 from rfl] at h1
  omega
theorem q_lNz {b : Nat} (hb : b < 9223372036854775808) : lg_cmp (lN b) 0 = 0 ↔ b = 0 := by
  rw [q_lgz]
  exact q_lNi hb
theorem q_half {a b : Nat} (h0 : 0 < b) (h : b < a) : 2 * (b * (a % b)) < a * b := by
  have h1 : a % b < b := Nat.mod_lt a h0
  have h2 := Nat.div_add_mod a b
  have h3 : 1 ≤ a / b := (Nat.le_div_iff_mul_le h0).mpr (by omega)
  have h4 : b * 1 ≤ b * (a / b) := Nat.mul_le_mul_left b h3
  have h5 : 2 * (a % b) < a := by omega
  have h6 : b * (2 * (a % b)) < b * a := (Nat.mul_lt_mul_left h0).mpr h5
  rw [Nat.mul_left_comm, Nat.mul_comm a b]
  exact h6
theorem xt_gcd {A B : Nat} {M : zMem} {Q : Int64 → zMem → Prop} (hA : A < 9223372036854775808) (hB : B < 4611686018427387904) (hQ : Q (lN (Nat.gcd A B)) M) : wp_Main_commonDivisor (lN A) (lN B) M Q := by
  unfold wp_Main_commonDivisor
  refine zlp3_r (fun m x y z M1 => M1 = M ∧ ∃ a b i, x = lN a ∧ y = lN b ∧ z = nI i ∧ a < 9223372036854775808 ∧ b < 4611686018427387904 ∧ Nat.gcd a b = Nat.gcd A B ∧ b = m ∧ (i = 0 ∨ (b < a ∧ ∃ k, a * b < 2 ^ k ∧ i + k = 125))) ?_ (n := B) ⟨rfl, A, B, 0, rfl, rfl, rfl, hA, hB, rfl, rfl, Or.inl rfl⟩
  rintro m x y z M1 ⟨rfl, a, b, i, rfl, rfl, rfl, ha, hb, hg, rfl, hi⟩ J hJ
  unfold wpB_Main_commonDivisor_3
  have i5 : i ≤ 125 := by rcases hi with h | ⟨-, k, -, h⟩ <;> omega
  have e1 : ¬ 1000000 ≤ nI i := by rw [Int32.not_le]; exact nI_lt (b := 1000000) (by omega) (by omega)
  refine ⟨fun q => absurd q e1, fun _ => ⟨fun q => ?_, fun q => ?_⟩⟩
  · rw [q_lNz (by omega)] at q
    subst q
    rw [Nat.gcd_zero_right] at hg
    rw [hg]; exact hQ
  · rw [q_lNz (by omega)] at q
    have b0 : 0 < b := by omega
    refine ⟨fun z => q ((q_lNi (a := b) (by omega)).mp z), fun y hy w hw => ?_⟩
    have hm : a % b < b := Nat.mod_lt a b0
    rw [pk_lRem (by omega) b0 (by omega)] at hy
    rw [hy, hw, nI_1]
    refine hJ (a % b) _ _ _ _ hm ⟨rfl, b, a % b, i + 1, rfl, rfl, rfl, by omega, by omega, ?_, rfl, Or.inr ⟨hm, ?_⟩⟩
    · rw [← hg, Nat.gcd_comm a b, Nat.gcd_rec b a, Nat.gcd_comm]
    · rcases hi with h | ⟨hba, k, hk, h⟩
      · refine ⟨124, ?_, by omega⟩
        have h1 : b * (a % b) ≤ 4611686018427387904 * (a % b) := Nat.mul_le_mul_right _ (by omega)
        have h2 : (2 : Nat) ^ 124 = 4611686018427387904 * 4611686018427387904 := by decide
        rw [h2]
        omega
      · have h1 := q_half b0 hba
        cases k with
        | zero =>
          have : 0 < a * b := Nat.mul_pos (by omega) b0
          rw [Nat.pow_zero] at hk
          omega
        | succ k =>
          rw [Nat.pow_succ] at hk
          exact ⟨k, by omega, by omega⟩
theorem mt_lowest {A B : Nat} {w : Int32} {W : zMem} {Q : Int64 → zMem → Prop} (hA : A < 9223372036854775808) (hB : B < 9223372036854775808) (h0 : 0 < Nat.gcd A B) (hQ : Q (lN ((if w = 0 then A else B) / Nat.gcd A B)) W) : wp_Model_lowest (lN A) (lN B) w W Q := by
  unfold wp_Model_lowest
  refine zlp2_r (fun m x y W1 => W1 = W ∧ ∃ a b, x = lN a ∧ y = lN b ∧ a < 9223372036854775808 ∧ b < 9223372036854775808 ∧ Nat.gcd a b = Nat.gcd A B ∧ b = m) ?_ (n := B) ⟨rfl, A, B, rfl, rfl, hA, hB, rfl, rfl⟩
  rintro m x y W1 ⟨rfl, a, b, rfl, rfl, ha, hb, hg, rfl⟩ J hJ
  unfold wpB_Model_lowest_6
  refine ⟨fun q => ?_, fun q => ?_⟩
  · rw [q_lNz (by omega)] at q
    subst q
    rw [Nat.gcd_zero_right] at hg
    subst hg
    have nz : ¬ lN (Nat.gcd A B) = 0 := fun z => by
      have := (q_lNi (a := Nat.gcd A B) (by omega)).mp z
      omega
    refine ⟨fun c => ⟨nz, ?_⟩, fun c => ⟨nz, ?_⟩⟩
    · rw [pk_lDiv (by omega) h0 (by omega)]
      rw [if_neg c] at hQ; exact hQ
    · rw [pk_lDiv (by omega) h0 (by omega)]
      rw [if_pos c] at hQ; exact hQ
  · rw [q_lNz (by omega)] at q
    have b0 : 0 < b := by omega
    refine ⟨fun z => q ((q_lNi (a := b) (by omega)).mp z), fun y hy => ?_⟩
    have hm : a % b < b := Nat.mod_lt a b0
    rw [pk_lRem (by omega) b0 (by omega)] at hy
    rw [hy]
    refine hJ (a % b) _ _ _ hm ⟨rfl, b, a % b, rfl, rfl, by omega, by omega, ?_, rfl⟩
    rw [← hg, Nat.gcd_comm a b, Nat.gcd_rec b a, Nat.gcd_comm]
/-- a ring is closed -/
theorem xt_close {g da ta dn tn : Nat} {M : zMem} {Q : zMem → Prop} (h1 : da < dn) (h2 : ta < tn) (h3 : dn < 2147483648) (h4 : tn < 2147483648)
    (hQ : ∀ M', M' g 0 = M g 0 → M' g 1 = 1 → M' g 2 = nI da → M' g 5 = nI ta → M' g 3 = nI (dn - da) → M' g 4 = nI (tn - ta) → M' g 6 = nI ((dn - da) / Nat.gcd (dn - da) (tn - ta)) → M' g 7 = nI ((tn - ta) / Nat.gcd (dn - da) (tn - ta)) → (∀ k, k ≠ g → M' k = M k) → Q M') : wp_Ring_close g (nI da) (nI ta) (nI dn) (nI tn) M Q := by
  unfold wp_Ring_close
  intro M1 e1 M2 e2 M3 e3 M4 e4 M5 e5
  have x3 : M5 g 3 = nI (dn - da) := by rw [e5, e4, zup_eq, upd_ne (by omega), zup_eq, upd_eq, q_sub (by omega)]
  have x4 : M5 g 4 = nI (tn - ta) := by rw [e5, zup_eq, upd_eq, q_sub (by omega)]
  have x0 : M5 g 0 = M g 0 := by rw [e5, e4, e3, e2, e1]; simp (disch := omega) only [zup_eq, upd_ne]
  have x1 : M5 g 1 = 1 := by rw [e5, e4, e3, e2, e1]; simp (disch := omega) only [zup_eq, upd_ne, upd_eq]
  have x2 : M5 g 2 = nI da := by rw [e5, e4, e3, e2]; simp (disch := omega) only [zup_eq, upd_ne, upd_eq]
  have x5 : M5 g 5 = nI ta := by rw [e5, e4, e3]; simp (disch := omega) only [zup_eq, upd_ne, upd_eq]
  have xk : ∀ k, k ≠ g → M5 k = M k := fun k hk => by rw [e5, e4, e3, e2, e1]; simp only [zup_ne hk]
  clear e5 e4 e3 e2 e1
  rw [x3, x4, q_l64 (by omega), q_l64 (by omega)]
  have g0 : 0 < Nat.gcd (dn - da) (tn - ta) := Nat.gcd_pos_of_pos_left _ (by omega)
  have g1 : Nat.gcd (dn - da) (tn - ta) ≤ dn - da := Nat.gcd_le_left _ (by omega)
  refine xt_gcd (by omega) (by omega) (fun y hy => ?_)
  rw [lN_i] at hy
  have c : ¬ y ≤ 0 := by rw [hy, Int32.not_le]; exact (nI_0lt (by omega)).mpr g0
  have c2 : ¬ y = 0 := fun z => c (by rw [z]; exact Int32.le_refl 0)
  refine ⟨fun z => absurd z c, fun _ => ⟨c2, fun M6 e6 => ⟨fun z => absurd z c, fun _ => ⟨c2, fun M7 e7 => ?_⟩⟩⟩⟩
  rw [x3, hy, pk_div (by omega) g0 (by omega)] at e6
  have y4 : M6 g 4 = nI (tn - ta) := by rw [e6, zup_eq, upd_ne (by omega)]; exact x4
  rw [y4, hy, pk_div (by omega) g0 (by omega)] at e7
  refine hQ M7 ?_ ?_ ?_ ?_ ?_ ?_ ?_ ?_ (fun k hk => ?_)
  · rw [e7, e6]; simp (disch := omega) only [zup_eq, upd_ne]; exact x0
  · rw [e7, e6]; simp (disch := omega) only [zup_eq, upd_ne]; exact x1
  · rw [e7, e6]; simp (disch := omega) only [zup_eq, upd_ne]; exact x2
  · rw [e7, e6]; simp (disch := omega) only [zup_eq, upd_ne]; exact x5
  · rw [e7, e6]; simp (disch := omega) only [zup_eq, upd_ne]; exact x3
  · rw [e7, e6]; simp (disch := omega) only [zup_eq, upd_ne]; exact x4
  · rw [e7, e6]; simp (disch := omega) only [zup_eq, upd_ne, upd_eq]
  · rw [e7]; simp (disch := omega) only [zup_eq, upd_eq]
  · rw [e7, e6]; simp only [zup_ne hk]; exact xk k hk
