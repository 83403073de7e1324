/-- how far a run of bytes goes: m left, from p on -/
def tk_s (P : Int32 → Bool) (T : Nat → Int32) : Nat → Nat → Nat
  | 0, p => p
  | m + 1, p => if P (T p) = true then tk_s P T m (p + 1) else p
def isB (b : Int32) : Bool := decide (b = 32)
def isL (b : Int32) : Bool := decide (¬ b < 97 ∧ ¬ 122 < b)
def isF (b : Int32) : Bool := decide (¬ b < 48 ∧ ¬ 57 < b)
theorem tk_s_le {P : Int32 → Bool} {T : Nat → Int32} : ∀ m p, p ≤ tk_s P T m p ∧ tk_s P T m p ≤ p + m := by
  intro m
  induction m with
  | zero => intro p; exact ⟨Nat.le_refl _, Nat.le_refl _⟩
  | succ m ih =>
    intro p
    unfold tk_s
    split
    · have := ih (p + 1)
      omega
    · omega
theorem tk_s_go {P : Int32 → Bool} {T : Nat → Int32} {z p : Nat} (h : p < z) (c : P (T p) = true) : tk_s P T (z - p) p = tk_s P T (z - (p + 1)) (p + 1) := by
  obtain ⟨m, e⟩ : ∃ m, z - p = m + 1 := ⟨z - p - 1, by omega⟩
  rw [e, show z - (p + 1) = m by omega]
  show (if P (T p) = true then _ else _) = _
  rw [if_pos c]
theorem tk_s_end {P : Int32 → Bool} {T : Nat → Int32} {z p : Nat} (h : z ≤ p ∨ P (T p) = false) : tk_s P T (z - p) p = p := by
  rcases Nat.lt_or_ge p z with q | q
  · obtain ⟨m, e⟩ : ∃ m, z - p = m + 1 := ⟨z - p - 1, by omega⟩
    rcases h with h | h
    · omega
    · rw [e]
      show (if P (T p) = true then _ else _) = _
      rw [h, if_neg (by decide)]
  · rw [show z - p = 0 by omega]; rfl
/-- whether word i stands there -/
def tk_w (T : Nat → Int32) (q e i : Nat) : Prop := e - q = zsL.getD i 0 ∧ ∀ j, j < zsL.getD i 0 → T (q + j) = zsc i j
/-- the first word from i on, m left -/
noncomputable def tk_nm (T : Nat → Int32) (q e : Nat) : Nat → Nat → Nat
  | 0, _ => 10
  | m + 1, i => haveI := Classical.propDecidable (tk_w T q e i); if tk_w T q e i then i else tk_nm T q e m (i + 1)
theorem tk_nm_s {T : Nat → Int32} {q e m i : Nat} : tk_nm T q e (m + 1) i = (haveI := Classical.propDecidable (tk_w T q e i); if tk_w T q e i then i else tk_nm T q e m (i + 1)) := rfl
theorem tk_nm_yes {T : Nat → Int32} {q e m i : Nat} (h : tk_w T q e i) : tk_nm T q e (m + 1) i = i := by
  rw [tk_nm_s, if_pos h]
theorem tk_nm_no {T : Nat → Int32} {q e m i : Nat} (h : ¬ tk_w T q e i) : tk_nm T q e (m + 1) i = tk_nm T q e m (i + 1) := by
  rw [tk_nm_s, if_neg h]
theorem tk_nm_b {T : Nat → Int32} {q e : Nat} : ∀ m i, i + m = 10 → tk_nm T q e m i ≤ 10 ∧ i ≤ tk_nm T q e m i := by
  intro m
  induction m with
  | zero => intro i h; show 10 ≤ 10 ∧ i ≤ 10; omega
  | succ m ih =>
    intro i h
    by_cases c : tk_w T q e i
    · rw [tk_nm_yes c]; omega
    · rw [tk_nm_no c]
      have := ih (i + 1) (by omega)
      omega
/-- what one or two figures tell -/
def tk_pv (T : Nat → Int32) (q e : Nat) : Int32 := if e = q then 0 else if e = q + 1 then 0 * 10 + T q - 48 else (0 * 10 + T q - 48) * 10 + T (q + 1) - 48
/-- the token from p on: where it starts, its kind (4: none), what it tells, where it ends, whether it is well -/
def tk_q (T : Nat → Int32) (z p : Nat) : Nat := tk_s isB T (z - p) p
def tk_k (T : Nat → Int32) (z q : Nat) : Nat := if q < z then (if T q = 59 then 3 else if isL (T q) = true then 1 else if isF (T q) = true then 2 else 4) else 0
def tk_e (T : Nat → Int32) (z q : Nat) : Nat := if tk_k T z q = 1 then tk_s isL T (z - q) q else if tk_k T z q = 2 then tk_s isF T (z - q) q else if tk_k T z q = 3 then q + 1 else q
noncomputable def tk_v (T : Nat → Int32) (z q : Nat) : Int32 := if tk_k T z q = 1 then nI (tk_nm T q (tk_e T z q) 10 0) else tk_pv T q (tk_e T z q)
def tk_o (T : Nat → Int32) (z q : Nat) : Prop := tk_k T z q = 0 ∨ tk_k T z q = 3 ∨ (tk_k T z q = 1 ∧ tk_nm T q (tk_e T z q) 10 0 < 10) ∨ (tk_k T z q = 2 ∧ tk_e T z q - q ≤ 2)
theorem tk_q_b {T : Nat → Int32} {z p : Nat} (h : p ≤ z) : p ≤ tk_q T z p ∧ tk_q T z p ≤ z := by
  have := tk_s_le (P := isB) (T := T) (z - p) p
  unfold tk_q
  omega
theorem tk_e_b {T : Nat → Int32} {z q : Nat} (h : q ≤ z) : q ≤ tk_e T z q ∧ tk_e T z q ≤ z := by
  have h1 := tk_s_le (P := isL) (T := T) (z - q) q
  have h2 := tk_s_le (P := isF) (T := T) (z - q) q
  unfold tk_e
  split
  · omega
  · split
    · omega
    · split
      · rename_i c
        have : q < z := by
          unfold tk_k at c
          split at c
          · assumption
          · omega
        omega
      · omega
theorem zup_same {M : zMem} {k j : Nat} {x : Int32} (h : M k j = x) : zup M k j x = M := by
  funext a
  by_cases e : a = k
  · subst e
    funext i
    rw [zup_eq]
    by_cases e2 : i = j
    · rw [e2, upd_eq, h]
    · rw [upd_ne e2]
  · rw [zup_ne e]
theorem e_isLetter {k a : Nat} {M : zMem} {Q : Int32 → zMem → Prop} (ha : a < 400) (hQ : Q (if isL (M (k + 6) a) = true then 1 else 0) M) : wp_Reader_isLetter k (nI a) M Q := by
  unfold isL at hQ
  unfold wp_Reader_isLetter
  rw [q_ix (by omega)]
  refine ⟨vp_in_nI ha (by omega), fun c => ?_, fun c => ⟨vp_in_nI ha (by omega), fun d => ?_, fun d => ?_⟩⟩
  · rw [if_neg (by simp [c])] at hQ; exact hQ
  · rw [if_neg (by simp [d])] at hQ; exact hQ
  · rw [if_pos (by simp [c, d])] at hQ; exact hQ
theorem e_isFigure {k a : Nat} {M : zMem} {Q : Int32 → zMem → Prop} (ha : a < 400) (hQ : Q (if isF (M (k + 6) a) = true then 1 else 0) M) : wp_Reader_isFigure k (nI a) M Q := by
  unfold isF at hQ
  unfold wp_Reader_isFigure
  rw [q_ix (by omega)]
  refine ⟨vp_in_nI ha (by omega), fun c => ?_, fun c => ⟨vp_in_nI ha (by omega), fun d => ?_, fun d => ?_⟩⟩
  · rw [if_neg (by simp [c])] at hQ; exact hQ
  · rw [if_neg (by simp [d])] at hQ; exact hQ
  · rw [if_pos (by simp [c, d])] at hQ; exact hQ
/-- blanks -/
theorem xt_skip {k z p : Nat} {M : zMem} {K : zMem → Prop} {Q : Int32 → zMem → Prop} (h5 : M k 5 = nI z) (hz : z ≤ 400) (h6 : M k 6 = nI p) (hp : p ≤ z) (hK : K (zup M k 6 (nI (tk_q (M (k + 6)) z p)))) : ∃ n, zlp0 (wpB_Reader_readToken_0 k K Q) n M := by
  refine zlp0_r (fun m M' => ∃ i, i ≤ z ∧ m = z - i ∧ M' = zup M k 6 (nI i) ∧ tk_s isB (M (k + 6)) (z - i) i = tk_q (M (k + 6)) z p) ?_ (n := z - p) ⟨p, hp, rfl, (zup_same h6).symm, rfl⟩
  rintro m M' ⟨i, hi, rfl, rfl, e⟩ J hJ
  unfold wpB_Reader_readToken_0
  have g5 : zup M k 6 (nI i) k 5 = nI z := by rw [zup_eq, upd_ne (by omega)]; exact h5
  have g6 : zup M k 6 (nI i) k 6 = nI i := by rw [zup_eq, upd_eq]
  have gT : zup M k 6 (nI i) (k + 6) = M (k + 6) := by rw [zup_ne (by omega)]
  rw [g5, g6, gT, q_ix (by omega)]
  have stop : (z ≤ i ∨ isB (M (k + 6) i) = false) → K (zup M k 6 (nI i)) := fun c => by
    rw [tk_s_end c] at e
    rw [e]; exact hK
  refine ⟨fun c => stop (Or.inl ((nI_leI (by omega) (by omega)).mp c)), fun c => ?_⟩
  have hi2 : i < z := (nI_ltI (by omega) (by omega)).mp (Int32.not_le.mp c)
  refine ⟨vp_in_nI (by omega) (by omega), fun d => stop (Or.inr (by unfold isB; simp [d])), fun d M2 e2 => ?_⟩
  refine hJ (z - (i + 1)) _ (by omega) ⟨i + 1, by omega, rfl, ?_, ?_⟩
  · rw [e2, zup_zup, nI_1]
  · rw [← e, ← tk_s_go hi2 (by unfold isB; simp [d])]
/-- letters -/
theorem xt_letters {k z p : Nat} {M : zMem} {K : zMem → Prop} {Q : Int32 → zMem → Prop} (h5 : M k 5 = nI z) (hz : z ≤ 400) (h6 : M k 6 = nI p) (hp : p ≤ z) (hK : K (zup M k 6 (nI (tk_s isL (M (k + 6)) (z - p) p)))) : ∃ n, zlp0 (wpB_Reader_readName_5 k K Q) n M := by
  refine zlp0_r (fun m M' => ∃ i, i ≤ z ∧ m = z - i ∧ M' = zup M k 6 (nI i) ∧ tk_s isL (M (k + 6)) (z - i) i = tk_s isL (M (k + 6)) (z - p) p) ?_ (n := z - p) ⟨p, hp, rfl, (zup_same h6).symm, rfl⟩
  rintro m M' ⟨i, hi, rfl, rfl, e⟩ J hJ
  unfold wpB_Reader_readName_5
  have g5 : zup M k 6 (nI i) k 5 = nI z := by rw [zup_eq, upd_ne (by omega)]; exact h5
  have g6 : zup M k 6 (nI i) k 6 = nI i := by rw [zup_eq, upd_eq]
  have gT : zup M k 6 (nI i) (k + 6) = M (k + 6) := by rw [zup_ne (by omega)]
  rw [g5, g6]
  have stop : (z ≤ i ∨ isL (M (k + 6) i) = false) → K (zup M k 6 (nI i)) := fun c => by
    rw [tk_s_end c] at e
    rw [e]; exact hK
  refine ⟨fun c => stop (Or.inl ((nI_leI (by omega) (by omega)).mp c)), fun c => ?_⟩
  have hi2 : i < z := (nI_ltI (by omega) (by omega)).mp (Int32.not_le.mp c)
  refine e_isLetter (by omega) ?_
  rw [gT]
  by_cases d : isL (M (k + 6) i) = true
  · rw [if_pos d]
    refine ⟨fun q => absurd q (by decide), fun _ M2 e2 => ?_⟩
    refine hJ (z - (i + 1)) _ (by omega) ⟨i + 1, by omega, rfl, ?_, ?_⟩
    · rw [e2, g6, zup_zup, nI_1]
    · rw [← e, ← tk_s_go hi2 d]
  · rw [if_neg d]
    refine ⟨fun _ => stop (Or.inr (by simpa using d)), fun q => absurd rfl q⟩
