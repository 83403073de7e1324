theorem in_cell {a c Z : Nat} {W : zMem} {Q : Int32 → zMem → Prop} (ha : a < 2147483648) (hc : c ≤ 40) (hZ : Z ≤ 40) (h1 : a + c < Z → Q 1 W) (h0 : ¬ a + c < Z → Q 0 W) : wp_Model_in ((nI a).toInt64 + (nI c).toInt64) 0 ((nI Z - 1).toInt64) W Q := by
  rw [q_l64 ha, q_l64 (by omega), lN_add, e_in]
  rcases Nat.eq_zero_or_pos Z with w | w
  · subst w
    rw [if_neg]
    · exact h0 (by omega)
    · rintro ⟨u, v⟩
      have : (0 : Int64) ≤ (nI 0 - 1).toInt64 := Int64.le_trans u v
      exact absurd this (by decide)
  · rw [show nI Z - 1 = nI (Z - 1) from q_sub (a := Z) (b := 1) w, q_l64 (by omega), show (0 : Int64) = lN 0 from rfl]
    by_cases c' : a + c < Z
    · rw [if_pos ⟨(pk_lLE (by omega) (by omega)).mpr (by omega), (pk_lLE (by omega) (by omega)).mpr (by omega)⟩]; exact h1 c'
    · rw [if_neg (fun u => c' (by
        have := (pk_lLE (by omega) (by omega)).mp u.2
        omega))]; exact h0 c'
theorem dm_u {n r p c : Nat} (hp : p < n) (h : r * n + p = c) : c / n = r ∧ c % n = p := by
  subst h
  have n0 : 0 < n := by omega
  rw [Nat.mul_comm r n]
  exact ⟨by rw [Nat.mul_add_div n0, Nat.div_eq_of_lt hp, Nat.add_zero], by rw [Nat.mul_add_mod, Nat.mod_eq_of_lt hp]⟩
/-- a row of the sheet is of paces alone -/
def rgd (V : Nat → Int32) (n r : Nat) : Prop := ∀ p, p < n → 1 ≤ V (r * n + p) ∧ V (r * n + p) ≤ 9
theorem mw_copyR {i l n R a y z : Nat} {a3 f : Int32} {W : zMem} {Q : Int32 → zMem → Prop} (hi : i < 4) (n1 : 1 ≤ n) (n8 : n ≤ 8) (e0 : W 4 0 = nI n) (hy : y + R ≤ 5) (ha : 0 < R → a3 = nI a ∧ a + n * R ≤ 40)
    (hQ : ∀ W', (∀ r p, r < R → p < n → W' 4 (60 + 8 * (y + r) + p) = W 18 (40 * i + a + (r * n + p))) → (∀ j, (∀ r p, r < R → p < n → j ≠ 60 + 8 * (y + r) + p) → W' 4 j = W 4 j) → (∀ c, c ≠ 0 → c ≠ 4 → W' c = W c) → W' 0 39 = f → (∀ j, j ≠ 39 → W' 0 j = W 0 j) → Q (nI R) W') : ∃ k, zlp1 (wpB_Model_read_234 (nI i) (nI l) a3 (nI y) (nI z) f (nI R) Q) k 0 W := by
  have nR : n * R ≤ 40 := by
    have := Nat.mul_le_mul n8 (show R ≤ 5 by omega)
    omega
  refine zlp1_r (fun m x W' => ∃ c, x = nI c ∧ c ≤ n * R ∧ m = n * R - c ∧ (∀ r p, p < n → r * n + p < c → W' 4 (60 + 8 * (y + r) + p) = W 18 (40 * i + a + (r * n + p))) ∧ (∀ j, (∀ r p, p < n → r * n + p < c → j ≠ 60 + 8 * (y + r) + p) → W' 4 j = W 4 j) ∧ (∀ c, c ≠ 4 → W' c = W c)) ?_ (n := n * R) ⟨0, rfl, by omega, rfl, fun _ _ _ h => absurd h (by omega), fun _ _ => rfl, fun _ _ => rfl⟩
  rintro m x W' ⟨c, rfl, hc, rfl, g1, g2, g3⟩ J hJ
  unfold wpB_Model_read_234
  have w0 : W' 4 (ix 0) = nI n := by
    have : W' 4 (ix 0) = W 4 0 := g2 0 (fun r p _ _ => by omega)
    rw [this]; exact e0
  rw [w0, q_mul, pk_rem (by omega) (by omega) (by omega), pk_div (by omega) (by omega) (by omega)]
  have lt : ∀ r p, p < n → (r < R ↔ r * n + p < n * R) := fun r p hp => by
    constructor
    · intro h
      have := Nat.mul_le_mul_right n (show r + 1 ≤ R by omega)
      rw [Nat.succ_mul, Nat.mul_comm R n] at this
      omega
    · intro h
      rcases Nat.lt_or_ge r R with w | w
      · exact w
      · have := Nat.mul_le_mul_right n w
        rw [Nat.mul_comm R n] at this
        omega
  refine ⟨vp_in_nI (n := 0) (by omega) (by omega), fun c1 W2 e2 => ?_, fun c1 => ?_⟩
  · have hc2 : c = n * R := by
      have := (nI_leI (by omega) (by omega)).mp c1
      omega
    refine hQ W2 (fun r p hr hp => ?_) (fun j hj => ?_) (fun d d0 d4 => by rw [e2, zup_ne d0]; exact g3 d d4) (by rw [e2, zup_eq, upd_eq]) (fun j hj => by rw [e2, zup_eq, upd_ne hj, g3 0 (by omega)])
    · rw [e2, zup_ne (by omega)]
      exact g1 r p hp (by rw [hc2]; exact (lt r p hp).mp hr)
    · rw [e2, zup_ne (by omega)]
      exact g2 j (fun r p hp hlt => hj r p ((lt r p hp).mpr (by rw [← hc2]; exact hlt)) hp)
  · have hc2 : c < n * R := by
      rcases Nat.lt_or_ge c (n * R) with w | w
      · exact w
      · exact absurd ((nI_leI (by omega) (by omega)).mpr w) c1
    have R0 : 0 < R := by
      rcases Nat.eq_zero_or_pos R with w | w
      · rw [w, Nat.mul_zero] at hc2; omega
      · exact w
    obtain ⟨ea, hab⟩ := ha R0
    have hm := Nat.mod_lt c (show 0 < n by omega)
    have hdm : c / n * n + c % n = c := by rw [Nat.mul_comm]; exact Nat.div_add_mod c n
    have hr : c / n < R := (lt (c / n) (c % n) hm).mpr (by omega)
    generalize hr0 : c / n = r0 at hdm hr
    generalize hp0 : c % n = p0 at hdm hm
    have e1 : (40 : Int32) * nI i + a3 + nI c = nI (40 * i + a + c) := by rw [ea, show (40 : Int32) = nI 40 from rfl, q_mul, q_add, q_add]
    have e2 : (60 : Int32) + 8 * (nI y + nI r0) + nI p0 = nI (60 + 8 * (y + r0) + p0) := by rw [show (8 : Int32) = nI 8 from rfl, show (60 : Int32) = nI 60 from rfl, q_add, q_mul, q_add, q_add]
    rw [e1, e2, q_ix (by omega), q_ix (by omega)]
    have nn : ¬ nI n = 0 := nI_ne0 (by omega) (by omega)
    refine ⟨vp_in_nI (n := 0) (by omega) (by omega), nn, vp_in_nI (n := 0) (by omega) (by omega), nn, vp_in_nI (by omega) (by omega), vp_in_nI (by omega) (by omega), fun W2 e2 y' ey => ?_⟩
    rw [ey, nI_1]
    refine hJ (n * R - (c + 1)) _ _ (by omega) ⟨c + 1, rfl, by omega, rfl, fun r p hp hlt => ?_, fun j hj => ?_, fun d d4 => by rw [e2, zup_ne d4]; exact g3 d d4⟩
    · rcases Nat.lt_or_ge (r * n + p) c with w | w
      · have ne : ¬ (r = r0 ∧ p = p0) := fun v => by
          rw [v.1, v.2] at w
          omega
        rw [e2, zup_eq, upd_ne (by omega)]
        exact g1 r p hp w
      · obtain ⟨u1, u2⟩ := dm_u hp (show r * n + p = c by omega)
        have u3 : r = r0 := by omega
        have u4 : p = p0 := by omega
        rw [u3, u4, e2, zup_eq, upd_eq, g3 18 (by omega), ← hdm]
    · rw [e2, zup_eq, upd_ne (hj r0 p0 hm (by omega))]
      exact g2 j (fun r p hp hlt => hj r p hp (by omega))
theorem mw_scan {i l n a y z Z T R : Nat} {W : zMem} {K : Int32 → Int32 → zMem → Prop} {Q : Int32 → zMem → Prop} (hi : i < 4) (n1 : 1 ≤ n) (n8 : n ≤ 8) (z5 : z ≤ 5) (e0 : W 4 0 = nI n) (hl : l < 3) (w16 : W 16 i = nI l) (w17 : W 17 i = nI Z) (hZ : Z ≤ 40) (ha : a < 2147483648) (hT : T = Z - a) (hR : R = min z (T / n))
    (hbad : ∀ r, r < R → (∀ r', r' < r → rgd (fun j => W 18 (40 * i + a + j)) n r') → ¬ rgd (fun j => W 18 (40 * i + a + j)) n r → Q (-20 - nI r) W)
    (hok : (∀ r, r < R → rgd (fun j => W 18 (40 * i + a + j)) n r) → K (if R = z then 0 else 2) (nI R) W) : ∃ k, zlp4 (wpB_Model_read_78 (nI i) (nI l) (nI a) (nI y) (nI z) K Q) k 0 0 1 0 W := by
  have nz : n * z ≤ 40 := by
    have := Nat.mul_le_mul n8 z5
    omega
  have w0 : W 4 (ix 0) = nI n := e0
  have v4 : vp_in (nI i) 4 := vp_in_nI (by omega) (by omega)
  generalize hV : (fun j => W 18 (40 * i + a + j)) = V at hbad hok
  have Vj : ∀ j, W 18 (40 * i + a + j) = V j := fun j => by rw [← hV]
  refine zlp4_r (fun m x6 x7 x8 x9 W' => W' = W ∧ ((x6 = 0 ∧ ∃ r p, p < n ∧ x9 = nI (r * n + p) ∧ x7 = nI r ∧ r * n + p ≤ n * z ∧ (∀ r', r' < r → rgd V n r') ∧ r * n + p ≤ T ∧ ((x8 = 1 ∧ ∀ p', p' < p → 1 ≤ V (r * n + p') ∧ V (r * n + p') ≤ 9) ∨ (x8 = 0 ∧ ∃ p', p' < p ∧ ¬ (1 ≤ V (r * n + p') ∧ V (r * n + p') ≤ 9))) ∧ m = n * z + 1 - (r * n + p)) ∨ (x6 = 2 ∧ x7 = nI R ∧ R ≠ z ∧ ∀ r', r' < R → rgd V n r'))) ?_ (n := n * z + 1) ⟨rfl, Or.inl ⟨rfl, 0, 0, by omega, by rw [Nat.zero_mul]; rfl, rfl, by omega, fun _ h => absurd h (by omega), by omega, Or.inl ⟨rfl, fun _ h => absurd h (by omega)⟩, by omega⟩⟩
  rintro m x6 x7 x8 x9 W' ⟨rfl, hc⟩ J hJ
  unfold wpB_Model_read_78
  rw [w0, q_mul]
  refine ⟨vp_in_nI (n := 0) (by omega) (by omega), ?_⟩
  rcases hc with ⟨rfl, r, p, hp, rfl, rfl, hle, hg, hleT, hx8, rfl⟩ | ⟨rfl, rfl, hne, hg⟩
  · refine ⟨fun c => ?_, fun c => ⟨fun q => absurd rfl q, fun _ => ⟨v4, ?_⟩⟩⟩
    · have e : r * n + p = n * z := by
        have := (nI_leI (by omega) (by omega)).mp c
        omega
      have hz : r = z := by
        have h1 := dm_u hp e
        have h2 := dm_u (r := z) (p := 0) (n := n) (c := n * z) (by omega) (by rw [Nat.mul_comm, Nat.add_zero])
        omega
      have hRz : R = z := by
        have : z ≤ T / n := (Nat.le_div_iff_mul_le (by omega)).mpr (by rw [Nat.mul_comm]; omega)
        omega
      have k := hok (fun r' hr' => hg r' (by omega))
      rw [if_pos hRz, hRz, ← hz] at k
      exact k
    · have hlt : r * n + p < n * z := by
        rcases Nat.lt_or_ge (r * n + p) (n * z) with w | w
        · exact w
        · exact absurd ((nI_leI (by omega) (by omega)).mpr w) c
      have hrz : r < z := by
        rcases Nat.lt_or_ge r z with w | w
        · exact w
        · have := Nat.mul_le_mul_right n w
          rw [Nat.mul_comm z n] at this
          omega
      have e16 : W' 16 (ix (nI i)) = nI l := by rw [q_ix (by omega)]; exact w16
      have e17 : W' 17 (ix (nI i)) = nI Z := by rw [q_ix (by omega)]; exact w17
      have nm4 : ¬ nI l = -4 := fun w => absurd w (by rcases (show l = 0 ∨ l = 1 ∨ l = 2 by omega) with rfl | rfl | rfl <;> decide)
      rw [e16, e17]
      refine ⟨fun _ => ⟨v4, fun _ => ⟨v4, ?_⟩, fun q => absurd rfl q⟩, fun q => absurd q nm4⟩
      refine in_cell ha (by omega) hZ (fun c1 => ⟨fun _ => ?_, fun q => absurd q (by decide)⟩) (fun c1 => ⟨fun q => absurd rfl q, fun _ => ?_⟩)
      · -- a cell of the sheet
        have hT1 : r * n + p + 1 ≤ T := by omega
        have e1 : nI (r * n + p) + 1 = nI (r * n + p + 1) := nI_1 _
        have end195 : ∀ s : Int32, ((s = 1 ∧ ∀ p', p' < p + 1 → 1 ≤ V (r * n + p') ∧ V (r * n + p') ≤ 9) ∨ (s = 0 ∧ ∃ p', p' < p + 1 ∧ ¬ (1 ≤ V (r * n + p') ∧ V (r * n + p') ≤ 9))) → wpJ_Model_read_195 (nI i) (nI l) (nI a) (nI y) (nI z) K J Q 0 (nI r) (nI (r * n + p)) s W' := fun s hs => by
          unfold wpJ_Model_read_195
          rw [w0, e1, pk_rem (by omega) (by omega) (by omega)]
          refine ⟨vp_in_nI (n := 0) (by omega) (by omega), nI_ne0 (by omega) (by omega), fun cm x ex => ?_, fun cm => ?_⟩
          · have hpn : p + 1 < n := by
              rcases Nat.lt_or_ge (p + 1) n with w | w
              · exact w
              · have : (r * n + p + 1) % n = 0 := (dm_u (r := r + 1) (p := 0) (n := n) (c := r * n + p + 1) (by omega) (by rw [Nat.succ_mul]; omega)).2
                rw [this] at cm
                exact absurd rfl cm
            rw [ex]
            exact hJ (n * z + 1 - (r * n + (p + 1))) _ _ _ _ _ (by omega) ⟨rfl, Or.inl ⟨rfl, r, p + 1, hpn, rfl, rfl, by omega, hg, by omega, hs, rfl⟩⟩
          · have hpn : p + 1 = n := by
              rcases Nat.lt_or_ge (p + 1) n with w | w
              · have h2 : (r * n + p + 1) % n = p + 1 := (dm_u (r := r) (p := p + 1) (n := n) (c := r * n + p + 1) w (by omega)).2
                rw [h2] at cm
                exact absurd cm (nI_ne0 (by omega) (by omega))
              · omega
            have hRn : (r + 1) * n = r * n + p + 1 := by rw [Nat.succ_mul]; omega
            refine ⟨fun s0 x ex x2 ex2 => ?_, fun s0 => ?_⟩
            · rcases hs with ⟨s1, hs⟩ | ⟨s1, -⟩
              · rw [ex, ex2, nI_1]
                refine hJ (n * z + 1 - ((r + 1) * n + 0)) _ _ _ _ _ (by omega) ⟨rfl, Or.inl ⟨rfl, r + 1, 0, by omega, by rw [hRn], rfl, by omega, fun r' hr' => ?_, by omega, Or.inl ⟨s1, fun _ h => absurd h (by omega)⟩, rfl⟩⟩
                rcases Nat.lt_or_ge r' r with w | w
                · exact hg r' w
                · rw [show r' = r by omega]
                  exact fun p' hp' => hs p' (by omega)
              · exact absurd s1 s0
            · rcases hs with ⟨s1, -⟩ | ⟨-, p', hp', hb⟩
              · rw [s1] at s0
                exact absurd s0 (by decide)
              · have hrR : r < R := by
                  have : r + 1 ≤ T / n := (Nat.le_div_iff_mul_le (by omega)).mpr (by omega)
                  omega
                exact hbad r hrR hg (fun w => hb (w p' (by omega)))
        have e40 : (40 : Int32) * nI i + nI a + nI (r * n + p) = nI (40 * i + a + (r * n + p)) := by rw [show (40 : Int32) = nI 40 from rfl, q_mul, q_add, q_add]
        refine ⟨fun q => absurd rfl q, fun _ => ⟨fun c8 => ?_, fun c8 => ?_⟩⟩
        · rcases hx8 with ⟨w, -⟩ | ⟨-, p', hp', hb⟩
          · rw [w] at c8; exact absurd c8 (by decide)
          · exact end195 0 (Or.inr ⟨rfl, p', by omega, hb⟩)
        · rcases hx8 with ⟨-, hv⟩ | ⟨w, -⟩
          · rw [e40, q_ix (by omega), Vj]
            refine ⟨vp_in_nI (by omega) (by omega), mt_in (lo' := 1) (hi' := 9) rfl rfl (fun d1 d2 => ⟨fun q => absurd q (by decide), fun _ => end195 1 (Or.inl ⟨rfl, fun p' hp' => ?_⟩)⟩) (fun d => ⟨fun _ => end195 0 (Or.inr ⟨rfl, p, by omega, d⟩), fun q => absurd rfl q⟩)⟩
            rcases Nat.lt_or_ge p' p with w | w
            · exact hv p' w
            · rw [show p' = p by omega]; exact ⟨d1, d2⟩
          · exact absurd w c8
      · -- past the end of the sheet
        have hTe : r * n + p = T := by omega
        have hRr : R = r := by
          have := (dm_u hp hTe).1
          omega
        refine ⟨fun _ x ex => ?_, fun q => absurd q (by decide)⟩
        refine hJ 0 _ _ _ _ _ (by omega) ⟨rfl, Or.inr ⟨rfl, by rw [hRr], by omega, fun r' hr' => hg r' (by omega)⟩⟩
  · have k := hok hg
    rw [if_neg hne] at k
    exact ⟨fun _ => k, fun _ => ⟨fun _ => k, fun q => absurd q (by decide)⟩⟩
