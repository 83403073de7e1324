theorem zup_cm {M : zMem} {k i j : Nat} {x y : Int32} (h : i ≠ j) : zup (zup M k i x) k j y = zup (zup M k j y) k i x := by
  funext a
  by_cases e : a = k
  · subst e
    funext l
    rw [zup_eq, zup_eq, zup_eq, zup_eq]
    by_cases c1 : l = i
    · subst c1; rw [upd_ne h, upd_eq, upd_eq]
    · by_cases c2 : l = j
      · subst c2; rw [upd_eq, upd_ne c1, upd_eq]
      · rw [upd_ne c2, upd_ne c1, upd_ne c1, upd_ne c2]
  · rw [zup_ne e, zup_ne e, zup_ne e, zup_ne e]
def b2i (b : Bool) : Int32 := if b = true then 1 else 0
/-- a fault at the token at hand -/
def rfs (k : Nat) (c : Int32) (M : zMem) : zMem := zup (zup M k 1 c) k 2 (M k 8)
theorem e_refuse {k : Nat} {c : Int32} {M : zMem} {Q : Int32 → zMem → Prop} (hQ : Q 0 (rfs k c M)) : wp_Reader_refuse k c (M k 8) M Q := by
  intro M1 e1 M2 e2
  rw [e2, e1]
  exact hQ
theorem zsL_b {i : Nat} (h : i < 11) : zsL.getD i 0 ≤ 5 := (show ∀ i, i < 11 → zsL.getD i 0 ≤ 5 by decide) i h
/-- one word is held against the tape -/
theorem xt_cmp {k z q e i : Nat} {x1 : Int32} {M : zMem} {K : Int32 → zMem → Prop} {Q : Int32 → zMem → Prop} (hi : i < 11) (h6 : M k 6 = nI e) (h8 : M k 8 = nI q) (hq : q ≤ e) (he : e ≤ z) (hz : z ≤ 400) (hK : ∀ s, s ≤ 5 → ((s = zsL.getD i 0 ∧ q + s = e) ↔ tk_w (M (k + 6)) q e i) → K (nI s) M) : ∃ n, zlp1 (wpB_Reader_readName_68 k x1 i K Q) n 0 M := by
  have hL := zsL_b (i := i) (by omega)
  refine zlp1_r (fun m x M' => ∃ s, x = nI s ∧ s ≤ zsL.getD i 0 ∧ m = zsL.getD i 0 - s ∧ M = M' ∧ q + s ≤ e ∧ ∀ j, j < s → M (k + 6) (q + j) = zsc i j) ?_ (n := zsL.getD i 0) ⟨0, rfl, by omega, rfl, rfl, by omega, fun j h => absurd h (by omega)⟩
  rintro m x M' ⟨s, rfl, hs, rfl, rfl, hse, hj⟩ J hJ
  unfold wpB_Reader_readName_68
  have stop : (s = zsL.getD i 0 ∨ q + s = e ∨ M (k + 6) (q + s) ≠ zsc i s) → K (nI s) M := fun st => hK s (by omega) ⟨fun ⟨c1, c2⟩ => ⟨by omega, fun j h => hj j (by omega)⟩, fun ⟨c1, c2⟩ => by
    rcases st with c | c | c
    · omega
    · omega
    · rcases Nat.lt_or_ge s (zsL.getD i 0) with d | d
      · exact absurd (c2 s d) c
      · omega⟩
  refine ⟨hi, fun c => stop (Or.inl ?_), fun c => ?_⟩
  · have := (nI_leI (by omega) (by omega)).mp c
    omega
  have hs2 : s < zsL.getD i 0 := (nI_ltI (by omega) (by omega)).mp (Int32.not_le.mp c)
  rw [h6, h8, q_add]
  refine ⟨fun c => stop (Or.inr (Or.inl ?_)), fun c => ?_⟩
  · have := (nI_leI (by omega) (by omega)).mp c
    omega
  have hs3 : q + s < e := (nI_ltI (by omega) (by omega)).mp (Int32.not_le.mp c)
  refine ⟨vp_in_nI (by omega) (by omega), hi, vp_in_nI hs2 (by omega), ?_⟩
  rw [q_ix (by omega), nI_clamp (by omega)]
  refine ⟨fun d => stop (Or.inr (Or.inr d)), fun d y ey => ?_⟩
  rw [ey, nI_1]
  refine hJ (zsL.getD i 0 - (s + 1)) _ _ (by omega) ⟨s + 1, rfl, by omega, rfl, rfl, by omega, fun j h => ?_⟩
  rcases Nat.lt_or_ge j s with c | c
  · exact hj j c
  · rw [show j = s by omega]; exact d
/-- which word it is -/
theorem xt_words {k z q e : Nat} {M : zMem} {K : zMem → Prop} {Q : Int32 → zMem → Prop} (h6 : M k 6 = nI e) (h8 : M k 8 = nI q) (h9 : M k 9 = -1) (hq : q ≤ e) (he : e ≤ z) (hz : z ≤ 400) (hK : ∀ nm, nm = tk_nm (M (k + 6)) q e 10 0 → K (zup M k 9 (if nm < 10 then nI nm else -1))) : ∃ n, zlp1 (wpB_Reader_readName_47 k K Q) n 0 M := by
  have hb := tk_nm_b (T := M (k + 6)) (q := q) (e := e) 10 0 rfl
  have hK' := hK _ rfl
  generalize hnm : tk_nm (M (k + 6)) q e 10 0 = nm at hb hK'
  refine zlp1_r (fun m x M' => ∃ i, x = nI i ∧ i ≤ 10 ∧ m = 10 - i ∧ ((M' = M ∧ tk_nm (M (k + 6)) q e (10 - i) i = nm) ∨ (nm < 10 ∧ M' = zup M k 9 (nI nm)))) ?_ (n := 10) ⟨0, rfl, by omega, rfl, Or.inl ⟨rfl, hnm⟩⟩
  rintro m x M' ⟨i, rfl, hi, rfl, hc⟩ J hJ
  unfold wpB_Reader_readName_47
  rcases hc with ⟨rfl, e1⟩ | ⟨h10, rfl⟩
  · refine ⟨fun c => ?_, fun c => ⟨fun d => absurd h9 d, fun _ => ?_⟩⟩
    · have := (nI_leI (a := 10) (by omega) (by omega)).mp c
      have e2 : i = 10 := by omega
      rw [e2] at e1
      have e3 : nm = 10 := e1.symm
      rw [e3, if_neg (by omega), zup_same h9] at hK'
      exact hK'
    · have hi2 : i < 10 := (nI_ltI (b := 10) (by omega) (by omega)).mp (Int32.not_le.mp c)
      refine ⟨fun j hj ej => ?_, fun no => absurd rfl (no i hi2)⟩
      have : i = j := (nI_eq (by omega) (by omega)).mp ej
      subst this
      refine xt_cmp (by omega) h6 h8 hq he hz (fun s hs iff => ?_)
      have hL := zsL_b (i := i) (by omega)
      obtain ⟨f, ef⟩ : ∃ f, 10 - i = f + 1 := ⟨10 - i - 1, by omega⟩
      have ef2 : 10 - (i + 1) = f := by omega
      have no : ¬ (s = zsL.getD i 0 ∧ q + s = e) → ∀ y, y = nI i + 1 → J y M' := fun c y ey => by
        rw [ey, nI_1]
        refine hJ (10 - (i + 1)) _ _ (by omega) ⟨i + 1, rfl, by omega, rfl, Or.inl ⟨rfl, ?_⟩⟩
        rw [ef, tk_nm_no (fun w => c (iff.mpr w))] at e1
        rw [ef2]; exact e1
      unfold wpJ_Reader_readName_114
      refine ⟨by omega, fun c => no (fun w => c (by rw [w.1])), fun c => ?_⟩
      have c' : s = zsL.getD i 0 := (nI_eq (by omega) (by omega)).mp c
      rw [h6, h8, q_add]
      refine ⟨fun d => no (fun w => d (by rw [w.2])), fun d M2 e2 y ey => ?_⟩
      have d' : q + s = e := (nI_eq (by omega) (by omega)).mp d
      rw [ey, nI_1]
      rw [ef, tk_nm_yes (iff.mp ⟨c', d'⟩)] at e1
      refine hJ (10 - (i + 1)) _ _ (by omega) ⟨i + 1, rfl, by omega, rfl, Or.inr ⟨by omega, by rw [e2, e1]⟩⟩
  · have n9 : ¬ zup M k 9 (nI nm) k 9 = -1 := by
      rw [zup_eq, upd_eq]
      exact fun q => (q_neq (a := nm) (c := 1) (by omega) (by omega) (by omega)).mp q
    rw [if_pos h10] at hK'
    exact ⟨fun _ => hK', fun _ => ⟨fun _ => hK', fun d => absurd d n9⟩⟩
theorem xt_name {k z q : Nat} {M : zMem} {Q : Int32 → zMem → Prop} (h5 : M k 5 = nI z) (hz : z ≤ 400) (h6 : M k 6 = nI q) (h8 : M k 8 = nI q) (hq : q ≤ z)
    (hQ : ∀ e nm, e = tk_s isL (M (k + 6)) (z - q) q → nm = tk_nm (M (k + 6)) q e 10 0 → (nm < 10 → Q 1 (zup (zup (zup M k 7 1) k 6 (nI e)) k 9 (nI nm))) ∧ (¬ nm < 10 → Q 0 (rfs k 1 (zup (zup (zup M k 7 1) k 6 (nI e)) k 9 (-1))))) : wp_Reader_readName k M Q := by
  intro M1 e1
  have a5 : M1 k 5 = nI z := by rw [e1, zup_eq, upd_ne (by omega)]; exact h5
  have a6 : M1 k 6 = nI q := by rw [e1, zup_eq, upd_ne (by omega)]; exact h6
  have aT : M1 (k + 6) = M (k + 6) := by rw [e1, zup_ne (by omega)]
  refine xt_letters a5 hz a6 hq ?_
  intro M3 e3
  have hb := tk_s_le (P := isL) (T := M1 (k + 6)) (z - q) q
  obtain ⟨c1, c2⟩ := hQ _ _ rfl rfl
  rw [← aT] at c1 c2
  generalize hee : tk_s isL (M1 (k + 6)) (z - q) q = e at hb c1 c2 e3
  have bT : M3 (k + 6) = M1 (k + 6) := by rw [e3, zup_ne (by omega), zup_ne (by omega)]
  have b6 : M3 k 6 = nI e := by rw [e3, zup_eq, upd_ne (by omega), zup_eq, upd_eq]
  have b8 : M3 k 8 = nI q := by rw [e3, zup_eq, upd_ne (by omega), zup_eq, upd_ne (by omega), e1, zup_eq, upd_ne (by omega)]; exact h8
  have b9 : M3 k 9 = -1 := by rw [e3, zup_eq, upd_eq]
  refine xt_words b6 b8 b9 hb.1 (show e ≤ z by omega) hz (fun nm enm => ?_)
  rw [bT] at enm
  rw [← enm] at c1 c2
  unfold wpJ_Reader_readName_146
  by_cases h10 : nm < 10
  · rw [if_pos h10]
    have n9 : ¬ zup M3 k 9 (nI nm) k 9 = -1 := by
      rw [zup_eq, upd_eq]
      exact fun q => (q_neq (a := nm) (c := 1) (by omega) (by omega) (by omega)).mp q
    refine ⟨fun _ => ?_, fun d => absurd d n9⟩
    rw [e3, zup_zup, e1]
    exact c1 h10
  · rw [if_neg h10, zup_same b9]
    refine ⟨fun d => absurd b9 d, fun _ => e_refuse ⟨fun _ => ?_, fun d => absurd rfl d⟩⟩
    rw [e3, e1]
    exact c2 h10
theorem xt_figs {k z q : Nat} {M : zMem} {Q : Int32 → zMem → Prop} (h5 : M k 5 = nI z) (hz : z ≤ 400) (h6 : M k 6 = nI q) (h8 : M k 8 = nI q) (hq : q ≤ z)
    (hQ : ∀ e, e = tk_s isF (M (k + 6)) (z - q) q → (e - q ≤ 2 → Q 1 (zup (zup (zup M k 7 2) k 9 (tk_pv (M (k + 6)) q e)) k 6 (nI e))) ∧ (¬ e - q ≤ 2 → Q 0 (rfs k 1 (zup (zup (zup M k 7 2) k 9 (tk_pv (M (k + 6)) q e)) k 6 (nI e))))) : wp_Reader_readFigures k M Q := by
  intro M1 e1 M2 e2
  have hQ' := hQ _ rfl
  have hb := tk_s_le (P := isF) (T := M (k + 6)) (z - q) q
  generalize hee : tk_s isF (M (k + 6)) (z - q) q = e at hQ' hb
  have a5 : M1 k 5 = nI z := by rw [e1, zup_eq, upd_ne (by omega)]; exact h5
  have a6 : M1 k 6 = nI q := by rw [e1, zup_eq, upd_ne (by omega)]; exact h6
  have a8 : M1 k 8 = nI q := by rw [e1, zup_eq, upd_ne (by omega)]; exact h8
  have aT : M1 (k + 6) = M (k + 6) := by rw [e1, zup_ne (by omega)]
  refine zlp0_r (fun m M' => ∃ i, q ≤ i ∧ i ≤ z ∧ m = z - i ∧ M' = zup (zup M1 k 9 (tk_pv (M (k + 6)) q i)) k 6 (nI i) ∧ tk_s isF (M (k + 6)) (z - i) i = e) ?_ (n := z - q) ⟨q, Nat.le_refl _, hq, rfl, ?_, hee⟩
  · rintro m M' ⟨i, hqi, hi, rfl, rfl, ei⟩ J hJ
    unfold wpB_Reader_readFigures_10
    generalize hX : zup (zup M1 k 9 (tk_pv (M (k + 6)) q i)) k 6 (nI i) = X
    have g5 : X k 5 = nI z := by rw [← hX, zup_eq, upd_ne (by omega), zup_eq, upd_ne (by omega)]; exact a5
    have g6 : X k 6 = nI i := by rw [← hX, zup_eq, upd_eq]
    have g8 : X k 8 = nI q := by rw [← hX, zup_eq, upd_ne (by omega), zup_eq, upd_ne (by omega)]; exact a8
    have g9 : X k 9 = tk_pv (M (k + 6)) q i := by rw [← hX, zup_eq, upd_ne (by omega), zup_eq, upd_eq]
    have gT : X (k + 6) = M (k + 6) := by rw [← hX, zup_ne (by omega), zup_ne (by omega)]; exact aT
    rw [g5, g6]
    have stop : (z ≤ i ∨ isF (M (k + 6) i) = false) → wpJ_Reader_readFigures_89 k Q X := fun c => by
      rw [tk_s_end c] at ei
      subst ei
      unfold wpJ_Reader_readFigures_89
      rw [g6, g8, q_sub hqi]
      rw [e1] at hX
      refine ⟨fun d => ?_, fun d => ?_⟩
      · have := (nI_leI (b := 2) (by omega) (by omega)).mp d
        rw [← hX]; exact hQ'.1 this
      · rw [← g8]
        refine e_refuse ⟨fun _ => ?_, fun w => absurd rfl w⟩
        rw [← hX]
        exact hQ'.2 (fun w => d ((nI_leI (b := 2) (by omega) (by omega)).mpr w))
    refine ⟨fun c => stop (Or.inl ((nI_leI (by omega) (by omega)).mp c)), fun c => ?_⟩
    have hi2 : i < z := (nI_ltI (by omega) (by omega)).mp (Int32.not_le.mp c)
    refine e_isFigure (by omega) ?_
    rw [gT]
    by_cases d : isF (M (k + 6) i) = true
    · rw [if_pos d, g8, g6, q_sub hqi]
      have nx : tk_s isF (M (k + 6)) (z - (i + 1)) (i + 1) = e := by rw [← ei, ← tk_s_go hi2 d]
      refine ⟨fun w => absurd w (by decide), fun _ => ⟨fun w M5 e5 M6 e6 => ?_, fun w => ⟨vp_in_nI (by omega) (by omega), fun M5 e5 M6 e6 => ?_⟩⟩⟩
      · have hw : 2 ≤ i - q := (nI_leI (a := 2) (by omega) (by omega)).mp w
        refine hJ (z - (i + 1)) _ (by omega) ⟨i + 1, by omega, by omega, rfl, ?_, nx⟩
        rw [e6, e5, zup_same rfl, g6, ← hX, zup_zup, nI_1]
        have : tk_pv (M (k + 6)) q i = tk_pv (M (k + 6)) q (i + 1) := by
          unfold tk_pv
          rw [if_neg (by omega), if_neg (by omega), if_neg (by omega), if_neg (by omega)]
        rw [this]
      · have hw : i - q < 2 := by
          rcases Nat.lt_or_ge (i - q) 2 with v | v
          · exact v
          · exact absurd ((nI_leI (a := 2) (by omega) (by omega)).mpr v) w
        refine hJ (z - (i + 1)) _ (by omega) ⟨i + 1, by omega, by omega, rfl, ?_, nx⟩
        have f6 : M5 k 6 = nI i := by rw [e5, zup_eq, upd_ne (by omega)]; exact g6
        rw [e6, f6, e5, g9, ← hX, zup_cm (i := 6) (j := 9) (by omega), zup_zup, zup_zup, nI_1]
        have : tk_pv (M (k + 6)) q i * 10 + M (k + 6) (ix (nI i)) - 48 = tk_pv (M (k + 6)) q (i + 1) := by
          rw [q_ix (by omega)]
          unfold tk_pv
          rcases (show i = q ∨ i = q + 1 by omega) with rfl | rfl
          · rw [if_pos rfl, if_neg (by omega), if_pos rfl]
          · rw [if_neg (by omega), if_pos rfl, if_neg (by omega), if_neg (by omega)]
        rw [this]
    · rw [if_neg d]
      exact ⟨fun _ => stop (Or.inr (by simpa using d)), fun w => absurd rfl w⟩
  · have : tk_pv (M (k + 6)) q q = 0 := by unfold tk_pv; rw [if_pos rfl]
    rw [this, e2]
    exact (zup_same (by rw [zup_eq, upd_ne (by omega)]; exact a6)).symm
/-- all but where the reader is -/
def tkf (k : Nat) (M M' : zMem) : Prop := (∀ c, c ≠ k → M' c = M c) ∧ ∀ j, j ≠ 6 → j ≠ 7 → j ≠ 8 → j ≠ 9 → M' k j = M k j
/-- a token is read -/
def rT (k z p : Nat) (M : zMem) (b : Bool) (M' : zMem) : Prop :=
  (b = true ∧ tk_o (M (k + 6)) z (tk_q (M (k + 6)) z p) ∧ tkf k M M' ∧ M' k 6 = nI (tk_e (M (k + 6)) z (tk_q (M (k + 6)) z p)) ∧ M' k 7 = nI (tk_k (M (k + 6)) z (tk_q (M (k + 6)) z p)) ∧ M' k 8 = nI (tk_q (M (k + 6)) z p) ∧ (tk_k (M (k + 6)) z (tk_q (M (k + 6)) z p) = 1 ∨ tk_k (M (k + 6)) z (tk_q (M (k + 6)) z p) = 2 → M' k 9 = tk_v (M (k + 6)) z (tk_q (M (k + 6)) z p))) ∨
  (b = false ∧ ¬ tk_o (M (k + 6)) z (tk_q (M (k + 6)) z p) ∧ ∃ M1, tkf k M M1 ∧ M1 k 8 = nI (tk_q (M (k + 6)) z p) ∧ M' = rfs k 1 M1)
theorem xt_token {k z p : Nat} {M : zMem} {Q : Int32 → zMem → Prop} (h5 : M k 5 = nI z) (hz : z ≤ 400) (h6 : M k 6 = nI p) (hp : p ≤ z) (hQ : ∀ b M', rT k z p M b M' → Q (b2i b) M') : wp_Reader_readToken k M Q := by
  have hb := tk_q_b (T := M (k + 6)) hp
  unfold rT at hQ
  refine xt_skip h5 hz h6 hp ?_
  generalize tk_q (M (k + 6)) z p = q at hQ hb
  have ok := fun M' => hQ true M'
  have no := fun M' => hQ false M'
  intro M3 e3
  have x6 : zup M k 6 (nI q) k 6 = nI q := by rw [zup_eq, upd_eq]
  rw [x6] at e3
  have g5 : M3 k 5 = nI z := by rw [e3, zup_eq, upd_ne (by omega), zup_eq, upd_ne (by omega)]; exact h5
  have g6 : M3 k 6 = nI q := by rw [e3, zup_eq, upd_ne (by omega)]; exact x6
  have g8 : M3 k 8 = nI q := by rw [e3, zup_eq, upd_eq]
  have gT : M3 (k + 6) = M (k + 6) := by rw [e3, zup_ne (by omega), zup_ne (by omega)]
  have fr : tkf k M M3 := ⟨fun c hc => by rw [e3, zup_ne hc, zup_ne hc], fun j a b c d => by rw [e3, zup_eq, upd_ne c, zup_eq, upd_ne a]⟩
  have up : ∀ (X : zMem) (j : Nat) (x : Int32), j = 6 ∨ j = 7 ∨ j = 9 → tkf k M X → tkf k M (zup X k j x) := fun X j x hj h => ⟨fun c hc => by rw [zup_ne hc]; exact h.1 c hc, fun i a b c d => by rw [zup_eq, upd_ne (by omega)]; exact h.2 i a b c d⟩
  rw [g5, g6, gT]
  refine ⟨fun c => ?_, fun c M6 e6 => ?_⟩
  · have hqz : q < z := (nI_ltI (by omega) (by omega)).mp c
    rw [q_ix (by omega)]
    refine ⟨vp_in_nI (by omega) (by omega), fun d => ?_, fun d M5 e5 M6 e6 => ?_⟩
    · refine e_isLetter (by omega) ?_
      rw [gT]
      by_cases hl : isL (M (k + 6) q) = true
      · rw [if_pos hl]
        refine ⟨fun w => absurd w (by decide), fun _ => xt_name g5 hz g6 g8 hb.2 (fun e nm ee en => ?_)⟩
        rw [gT] at ee en
        have kk : tk_k (M (k + 6)) z q = 1 := by unfold tk_k; rw [if_pos hqz, if_neg d, if_pos hl]
        have ke : tk_e (M (k + 6)) z q = e := by unfold tk_e; rw [if_pos kk]; exact ee.symm
        have kv : tk_v (M (k + 6)) z q = nI nm := by unfold tk_v; rw [if_pos kk, ke, en]
        have ko : tk_o (M (k + 6)) z q ↔ nm < 10 := by unfold tk_o; rw [kk, ke, ← en]; omega
        refine ⟨fun h => ⟨zbo_1, ok _ (Or.inl ⟨rfl, ko.mpr h, up _ 9 _ (by omega) (up _ 6 _ (by omega) (up _ 7 _ (by omega) fr)), ?_, ?_, ?_, fun _ => ?_⟩)⟩, fun h => ⟨zbo_0, no _ (Or.inr ⟨rfl, fun w => h (ko.mp w), _, up _ 9 _ (by omega) (up _ 6 _ (by omega) (up _ 7 _ (by omega) fr)), ?_, rfl⟩)⟩⟩
        · rw [ke, zup_eq, upd_ne (by omega), zup_eq, upd_eq]
        · rw [kk, zup_eq, upd_ne (by omega), zup_eq, upd_ne (by omega), zup_eq, upd_eq]; rfl
        · rw [zup_eq, upd_ne (by omega), zup_eq, upd_ne (by omega), zup_eq, upd_ne (by omega)]; exact g8
        · rw [kv, zup_eq, upd_eq]
        · rw [zup_eq, upd_ne (by omega), zup_eq, upd_ne (by omega), zup_eq, upd_ne (by omega)]; exact g8
      · rw [if_neg hl]
        refine ⟨fun _ => ?_, fun w => absurd rfl w⟩
        rw [g6]
        refine e_isFigure (by omega) ?_
        rw [gT]
        by_cases hf : isF (M (k + 6) q) = true
        · rw [if_pos hf]
          refine ⟨fun w => absurd w (by decide), fun _ => xt_figs g5 hz g6 g8 hb.2 (fun e ee => ?_)⟩
          rw [gT] at ee
          have kk : tk_k (M (k + 6)) z q = 2 := by unfold tk_k; rw [if_pos hqz, if_neg d, if_neg hl, if_pos hf]
          have ke : tk_e (M (k + 6)) z q = e := by unfold tk_e; rw [if_neg (by rw [kk]; omega), if_pos kk]; exact ee.symm
          have kv : tk_v (M (k + 6)) z q = tk_pv (M (k + 6)) q e := by unfold tk_v; rw [if_neg (by rw [kk]; omega), ke]
          have ko : tk_o (M (k + 6)) z q ↔ e - q ≤ 2 := by unfold tk_o; rw [kk, ke]; omega
          rw [gT]
          refine ⟨fun h => ⟨zbo_1, ok _ (Or.inl ⟨rfl, ko.mpr h, up _ 6 _ (by omega) (up _ 9 _ (by omega) (up _ 7 _ (by omega) fr)), ?_, ?_, ?_, fun _ => ?_⟩)⟩, fun h => ⟨zbo_0, no _ (Or.inr ⟨rfl, fun w => h (ko.mp w), _, up _ 6 _ (by omega) (up _ 9 _ (by omega) (up _ 7 _ (by omega) fr)), ?_, rfl⟩)⟩⟩
          · rw [ke, zup_eq, upd_eq]
          · rw [kk, zup_eq, upd_ne (by omega), zup_eq, upd_ne (by omega), zup_eq, upd_eq]; rfl
          · rw [zup_eq, upd_ne (by omega), zup_eq, upd_ne (by omega), zup_eq, upd_ne (by omega)]; exact g8
          · rw [kv, zup_eq, upd_ne (by omega), zup_eq, upd_eq]
          · rw [zup_eq, upd_ne (by omega), zup_eq, upd_ne (by omega), zup_eq, upd_ne (by omega)]; exact g8
        · rw [if_neg hf]
          refine ⟨fun _ => e_refuse ⟨zbo_0, no _ (Or.inr ⟨rfl, ?_, _, fr, g8, rfl⟩)⟩, fun w => absurd rfl w⟩
          have kk : tk_k (M (k + 6)) z q = 4 := by unfold tk_k; rw [if_pos hqz, if_neg d, if_neg hl, if_neg hf]
          unfold tk_o
          rw [kk]; omega
    · have kk : tk_k (M (k + 6)) z q = 3 := by unfold tk_k; rw [if_pos hqz, if_pos d]
      have ke : tk_e (M (k + 6)) z q = q + 1 := by unfold tk_e; rw [if_neg (by rw [kk]; omega), if_neg (by rw [kk]; omega), if_pos kk]
      have f6 : M5 k 6 = nI q := by rw [e5, zup_eq, upd_ne (by omega)]; exact g6
      refine ok _ (Or.inl ⟨rfl, Or.inr (Or.inl kk), ?_, ?_, ?_, ?_, fun w => absurd w (by rw [kk]; omega)⟩)
      · rw [e6, e5]; exact up _ 6 _ (by omega) (up _ 7 _ (by omega) fr)
      · rw [ke, e6, zup_eq, upd_eq, f6, nI_1]
      · rw [kk, e6, zup_eq, upd_ne (by omega), e5, zup_eq, upd_eq]; rfl
      · rw [e6, zup_eq, upd_ne (by omega), e5, zup_eq, upd_ne (by omega)]; exact g8
  · have hqz : ¬ q < z := fun w => c ((nI_ltI (by omega) (by omega)).mpr w)
    have kk : tk_k (M (k + 6)) z q = 0 := by unfold tk_k; rw [if_neg hqz]
    have ke : tk_e (M (k + 6)) z q = q := by unfold tk_e; rw [if_neg (by rw [kk]; omega), if_neg (by rw [kk]; omega), if_neg (by rw [kk]; omega)]
    refine ok _ (Or.inl ⟨rfl, Or.inl kk, ?_, ?_, ?_, ?_, fun w => absurd w (by rw [kk]; omega)⟩)
    · rw [e6]; exact up _ 7 _ (by omega) fr
    · rw [ke, e6, zup_eq, upd_ne (by omega)]; exact g6
    · rw [kk, e6, zup_eq, upd_eq]; rfl
    · rw [e6, zup_eq, upd_ne (by omega)]; exact g8
