theorem xt_pace1 {v : Int32} {M : zMem} {Q : Int32 → zMem → Prop} (h1 : 1 ≤ v → v ≤ 9 → Q 1 M) (h0 : ¬ (1 ≤ v ∧ v ≤ 9) → Q 0 M) : wp_Main_isPace v M Q := ⟨fun c => h0 (fun q => absurd c (Int32.not_lt.mpr q.1)), fun c => ⟨fun c2 => h0 (fun q => absurd c2 (Int32.not_lt.mpr q.2)), fun c2 => h1 (Int32.not_lt.mp c) (Int32.not_lt.mp c2)⟩⟩
theorem xt_aloneP {k b n : Nat} {M : zMem} {Q : Int32 → zMem → Prop} (hn : M 1 0 = nI n) (n8 : n ≤ 8) (hb : b + n ≤ 40) (h1 : (∀ p, p < n → 1 ≤ M (k + 1) (b + p) ∧ M (k + 1) (b + p) ≤ 9) → Q 1 M) (h0 : (∃ p, p < n ∧ ¬ (1 ≤ M (k + 1) (b + p) ∧ M (k + 1) (b + p) ≤ 9)) → Q 0 M) : wp_Main_hasPacesAlone k (nI b) M Q := by
  refine zlp1_r (fun m x M' => ∃ p, x = nI p ∧ p ≤ n ∧ m = n - p ∧ M' = M ∧ ∀ p', p' < p → 1 ≤ M (k + 1) (b + p') ∧ M (k + 1) (b + p') ≤ 9) ?_ (n := n) ⟨0, rfl, by omega, rfl, rfl, fun _ h => absurd h (by omega)⟩
  rintro m x M' ⟨p, rfl, hp, rfl, rfl, hv⟩ J hJ
  unfold wpB_Main_hasPacesAlone_2
  rw [hn]
  refine ⟨fun c => ?_, fun c => ?_⟩
  · have := (nI_leI (by omega) (by omega)).mp c
    exact h1 (fun p' hp' => hv p' (by omega))
  · have hp2 : p < n := by
      rcases Nat.lt_or_ge p n with w | w
      · exact w
      · exact absurd ((nI_leI (by omega) (by omega)).mpr w) c
    rw [q_add, q_ix (by omega)]
    refine ⟨vp_in_nI (by omega) (by omega), xt_pace1 (fun d1 d2 => ⟨fun _ y ey => ?_, fun q => absurd q (by decide)⟩) (fun d => ⟨fun q => absurd rfl q, fun _ => h0 ⟨p, hp2, d⟩⟩)⟩
    rw [ey, nI_1]
    refine hJ (n - (p + 1)) _ _ (by omega) ⟨p + 1, rfl, by omega, rfl, rfl, fun p' hp' => ?_⟩
    rcases Nat.lt_or_ge p' p with w | w
    · exact hv p' w
    · rw [show p' = p by omega]; exact ⟨d1, d2⟩
theorem xt_copyP {k b y n : Nat} {M : zMem} {Q : zMem → Prop} (hk : k + 1 ≠ 4) (hn : M 1 0 = nI n) (n8 : n ≤ 8) (hb : b + n ≤ 40) (hy : y < 5) (hQ : ∀ M', (∀ p, p < n → M' 4 (y * 8 + p) = M (k + 1) (b + p)) → (∀ j, (∀ p, p < n → j ≠ y * 8 + p) → M' 4 j = M 4 j) → (∀ c, c ≠ 4 → M' c = M c) → Q M') : wp_Main_copyPaces k (nI b) (nI y) M Q := by
  refine zlp1_r (fun m x M' => ∃ p, x = nI p ∧ p ≤ n ∧ m = n - p ∧ (∀ p', p' < p → M' 4 (y * 8 + p') = M (k + 1) (b + p')) ∧ (∀ j, (∀ p', p' < p → j ≠ y * 8 + p') → M' 4 j = M 4 j) ∧ (∀ c, c ≠ 4 → M' c = M c)) ?_ (n := n) ⟨0, rfl, by omega, rfl, fun _ h => absurd h (by omega), fun _ _ => rfl, fun _ _ => rfl⟩
  rintro m x M' ⟨p, rfl, hp, rfl, g1, g2, g3⟩ J hJ
  unfold wpB_Main_copyPaces_3
  rw [show M' 1 0 = nI n by rw [g3 1 (by omega)]; exact hn]
  refine ⟨fun c => ?_, fun c => ?_⟩
  · have := (nI_leI (by omega) (by omega)).mp c
    exact hQ M' (fun p' hp' => g1 p' (by omega)) (fun j hj => g2 j (fun p' hp' => hj p' (by omega))) g3
  · have hp2 : p < n := by
      rcases Nat.lt_or_ge p n with w | w
      · exact w
      · exact absurd ((nI_leI (by omega) (by omega)).mpr w) c
    have e8 : nI y * 8 + nI p = nI (y * 8 + p) := by rw [show (8 : Int32) = nI 8 from rfl, q_mul, q_add]
    rw [e8, q_add, q_ix (by omega), q_ix (by omega)]
    refine ⟨vp_in_nI (by omega) (by omega), vp_in_nI (by omega) (by omega), fun M2 e2 x ex => ?_⟩
    rw [ex, nI_1]
    refine hJ (n - (p + 1)) _ _ (by omega) ⟨p + 1, rfl, by omega, rfl, fun p' hp' => ?_, fun j hj => ?_, fun c hc => by rw [e2, zup_ne hc]; exact g3 c hc⟩
    · rw [e2, zup_eq]
      by_cases w : p' = p
      · rw [w, upd_eq, g3 (k + 1) hk]
      · rw [upd_ne (by omega)]; exact g1 p' (by omega)
    · rw [e2, zup_eq, upd_ne (hj p (by omega))]
      exact g2 j (fun p' hp' => hj p' (by omega))
theorem xt_loops {i n R a y : Nat} {a1 a2 a3 a5 f : Int32} {M : zMem} {Q : Int32 → zMem → Prop} (hn : M 1 0 = nI n) (n1 : 1 ≤ n) (n8 : n ≤ 8) (hy : y + R ≤ 5) (ha : 0 < R → a3 = nI a ∧ a + n * R ≤ 40)
    (hbad : ∀ r, r < R → (∀ r', r' < r → rgd (fun j => M (81 + 2 * i + 1) (a + j)) n r') → ¬ rgd (fun j => M (81 + 2 * i + 1) (a + j)) n r → Q (-20 - nI r) M)
    (hok : (∀ r, r < R → rgd (fun j => M (81 + 2 * i + 1) (a + j)) n r) → ∀ M', (∀ r p, r < R → p < n → M' 4 ((y + r) * 8 + p) = M (81 + 2 * i + 1) (a + (r * n + p))) → (∀ j, (∀ r p, r < R → p < n → j ≠ (y + r) * 8 + p) → M' 4 j = M 4 j) → M' 0 13 = f → (∀ j, j ≠ 13 → M' 0 j = M 0 j) → (R = 0 → ∀ c, c ≠ 0 → M' c = M c) → (0 < R → M' 29 2 = 0 ∧ M' 54 0 = 0 ∧ M' 60 0 = 0 ∧ ∀ q, q < 120 → M' 58 q = 0) → (∀ c, c ≠ 0 → c ≠ 4 → c ≠ 29 → c ≠ 54 → c ≠ 58 → c ≠ 60 → M' c = M c) → Q (nI R) M') : ∃ k, zlp1 (wpB_Main_read_116 a1 a2 a3 (nI y) a5 (81 + 2 * i) f (nI R) (fun (zm12 : zMem) => ∃ n : Nat, zlp1 (wpB_Main_read_159 a1 a2 a3 (nI y) a5 (81 + 2 * i) f (nI R) Q) n 0 zm12) Q) k 0 M := by
  have mul : ∀ r, r < R → r * n + n ≤ n * R := fun r hr => by
    have := Nat.mul_le_mul_right n (show r + 1 ≤ R by omega)
    rw [Nat.succ_mul, Nat.mul_comm R n] at this
    exact this
  refine zlp1_r (fun m x M' => ∃ r, x = nI r ∧ r ≤ R ∧ m = R - r ∧ M' = M ∧ ∀ r', r' < r → rgd (fun j => M (81 + 2 * i + 1) (a + j)) n r') ?_ (n := R) ⟨0, rfl, by omega, rfl, rfl, fun _ h => absurd h (by omega)⟩
  rintro m x M1 ⟨r, rfl, hr, rfl, rfl, hg⟩ J hJ
  unfold wpB_Main_read_116
  refine ⟨fun c => ?_, fun c => ?_⟩
  · have hrR := (nI_leI (by omega) (by omega)).mp c
    have hg' : ∀ r, r < R → rgd (fun j => M1 (81 + 2 * i + 1) (a + j)) n r := fun r' hr' => hg r' (by omega)
    refine zlp1_r (fun m x M' => ∃ r, x = nI r ∧ r ≤ R ∧ m = R - r ∧ (∀ r' p, r' < r → p < n → M' 4 ((y + r') * 8 + p) = M1 (81 + 2 * i + 1) (a + (r' * n + p))) ∧ (∀ j, (∀ r' p, r' < r → p < n → j ≠ (y + r') * 8 + p) → M' 4 j = M1 4 j) ∧ (∀ c, c ≠ 4 → M' c = M1 c)) ?_ (n := R) ⟨0, rfl, by omega, rfl, fun _ _ h => absurd h (by omega), fun _ _ => rfl, fun _ _ => rfl⟩
    rintro m x M' ⟨r, rfl, hr, rfl, g1, g2, g3⟩ J hJ
    unfold wpB_Main_read_159
    rw [show M' 1 0 = nI n by rw [g3 1 (by omega)]; exact hn]
    refine ⟨fun c M2 e2 => ?_, fun c => ?_⟩
    · have hrR := (nI_leI (by omega) (by omega)).mp c
      have k1 : ∀ r p, r < R → p < n → M' 4 ((y + r) * 8 + p) = M1 (81 + 2 * i + 1) (a + (r * n + p)) := fun r' p hr' hp => g1 r' p (by omega) hp
      have k2 : ∀ j, (∀ r p, r < R → p < n → j ≠ (y + r) * 8 + p) → M' 4 j = M1 4 j := fun j hj => g2 j (fun r' p hr' hp => hj r' p (by omega) hp)
      refine ⟨fun c0 => ?_, fun c0 => ?_⟩
      · have R0 : R = 0 := by
          have := (nI_leI (b := 0) (by omega) (by omega)).mp c0
          omega
        have m4 : M' 4 = M1 4 := funext (fun j => k2 j (fun r' p hr' => absurd hr' (by omega)))
        refine hok hg' M2 (fun r' p hr' hp => absurd hr' (by omega)) (fun j _ => by rw [e2, zup_ne (by omega), m4]) (by rw [e2, zup_eq, upd_eq]) (fun j hj => by rw [e2, zup_eq, upd_ne hj, g3 0 (by omega)]) (fun _ c hc => ?_) (fun w => absurd w (by omega)) (fun c c0 c4 _ _ _ _ => by rw [e2, zup_ne c0]; exact g3 c c4)
        rw [e2, zup_ne hc]
        by_cases w : c = 4
        · rw [w]; exact m4
        · exact g3 c w
      · have R0 : 0 < R := by
          rcases Nat.eq_zero_or_pos R with w | w
          · exact absurd (by rw [w]; decide) c0
          · exact w
        unfold wp_Main_forgetAnswers
        intro A2 b2 A3 b3 A4 b4
        refine xt_forget (fun A5 q1 q2 => ?_)
        have cA : ∀ c, c ≠ 29 → c ≠ 54 → c ≠ 58 → c ≠ 60 → A5 c = M2 c := fun c c2 c3 c4 c5 => by rw [q2 c c4, b4, zup_ne c5, b3, zup_ne c3, b2, zup_ne c2]
        refine hok hg' A5 (fun r' p hr' hp => by rw [cA 4 (by omega) (by omega) (by omega) (by omega), e2, zup_ne (by omega)]; exact k1 r' p hr' hp) (fun j hj => by rw [cA 4 (by omega) (by omega) (by omega) (by omega), e2, zup_ne (by omega)]; exact k2 j hj) (by rw [cA 0 (by omega) (by omega) (by omega) (by omega), e2, zup_eq, upd_eq]) (fun j hj => by rw [cA 0 (by omega) (by omega) (by omega) (by omega), e2, zup_eq, upd_ne hj, g3 0 (by omega)]) (fun w => absurd w (by omega)) (fun _ => ⟨?_, ?_, ?_, q1⟩) (fun c c0 c4 c5 c6 c7 c8 => by rw [cA c c5 c6 c7 c8, e2, zup_ne c0]; exact g3 c c4)
        · rw [q2 29 (by omega), b4, zup_ne (by omega), b3, zup_ne (by omega), b2, zup_eq, upd_eq]
        · rw [q2 54 (by omega), b4, zup_ne (by omega), b3, zup_eq, upd_eq]
        · rw [q2 60 (by omega), b4, zup_eq, upd_eq]
    · have hr2 : r < R := by
        rcases Nat.lt_or_ge r R with w | w
        · exact w
        · exact absurd ((nI_leI (by omega) (by omega)).mpr w) c
      obtain ⟨ea, hab⟩ := ha (by omega)
      have hm := mul r hr2
      rw [ea, q_mul, q_add, q_add]
      refine xt_copyP (k := 81 + 2 * i) (b := a + r * n) (y := y + r) (n := n) (by omega) (by rw [g3 1 (by omega)]; exact hn) n8 (by omega) (by omega) (fun M2 u1 u2 u3 x ex => ?_)
      rw [ex, nI_1]
      refine hJ (R - (r + 1)) _ _ (by omega) ⟨r + 1, rfl, by omega, rfl, fun r' p hr' hp => ?_, fun j hj => ?_, fun c hc => (u3 c hc).trans (g3 c hc)⟩
      · by_cases w : r' = r
        · rw [w, u1 p hp, g3 _ (by omega), Nat.add_assoc a (r * n) p]
        · rw [u2 _ (fun p' hp' => by omega)]
          exact g1 r' p (by omega) hp
      · rw [u2 j (fun p' hp' => hj r p' (by omega) hp')]
        exact g2 j (fun r' p hr' hp => hj r' p (by omega) hp)
  · have hr2 : r < R := by
      rcases Nat.lt_or_ge r R with w | w
      · exact w
      · exact absurd ((nI_leI (by omega) (by omega)).mpr w) c
    obtain ⟨ea, hab⟩ := ha (by omega)
    have hm := mul r hr2
    rw [ea, hn, q_mul, q_add]
    refine xt_aloneP (k := 81 + 2 * i) (b := a + r * n) hn n8 (by omega) (fun h1 => ⟨fun _ x ex => ?_, fun q => absurd q (by decide)⟩) (fun h0 => ⟨fun q => absurd rfl q, fun _ => ?_⟩)
    · rw [ex, nI_1]
      refine hJ (R - (r + 1)) _ _ (by omega) ⟨r + 1, rfl, by omega, rfl, rfl, fun r' hr' => ?_⟩
      rcases Nat.lt_or_ge r' r with w | w
      · exact hg r' w
      · rw [show r' = r by omega]
        intro p hp
        have := h1 p hp
        rw [Nat.add_assoc a (r * n) p] at this
        exact this
    · obtain ⟨p, hp, hb⟩ := h0
      refine hbad r hr2 hg (fun w => hb ?_)
      have := w p hp
      rw [Nat.add_assoc a (r * n) p]
      exact this
