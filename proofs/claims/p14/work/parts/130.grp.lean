theorem xt_tf26 {k p : Nat} {K Q : zMem → Prop} {M : zMem} (hp : p < 8) (hK : ∀ M', (∀ s, s < 3 → M' (k + 2) (s * 8 + p) = 2) → (∀ j, (∀ s, s < 3 → j ≠ s * 8 + p) → M' (k + 2) j = M (k + 2) j) → (∀ d, d ≠ k + 2 → M' d = M d) → K M') : ∃ n, zlp1 (wpB_Told_tellAsAtFirst_26 k (nI p) K Q) n 0 M := by
  refine zlp1_r (fun m x M' => ∃ j, x = nI j ∧ j ≤ 3 ∧ m = 3 - j ∧ (∀ s, s < j → M' (k + 2) (s * 8 + p) = 2) ∧ (∀ i, (∀ s, s < 3 → i ≠ s * 8 + p) → M' (k + 2) i = M (k + 2) i) ∧ (∀ d, d ≠ k + 2 → M' d = M d)) ?_ (n := 3) ⟨0, rfl, by omega, rfl, fun s h => absurd h (by omega), fun _ _ => rfl, fun _ _ => rfl⟩
  rintro m x M' ⟨j, rfl, hj, rfl, i1, i2, i3⟩ J hJ
  unfold wpB_Told_tellAsAtFirst_26
  refine ⟨fun c => ?_, fun c => ?_⟩
  · have := (nI_leI (a := 3) (by omega) (by omega)).mp c
    have e : j = 3 := by omega
    subst e
    exact hK M' i1 i2 i3
  · have hj2 : j < 3 := (nI_ltI (b := 3) (by omega) (by omega)).mp (Int32.not_le.mp c)
    have e8 : nI j * 8 + nI p = nI (j * 8 + p) := by rw [show (8 : Int32) = nI 8 from rfl, q_mul, q_add]
    rw [e8, q_ix (by omega)]
    refine ⟨vp_in_nI (by omega) (by omega), fun M2 e2 y ey => ?_⟩
    rw [ey, nI_1]
    refine hJ (3 - (j + 1)) _ _ (by omega) ⟨j + 1, rfl, by omega, rfl, fun s hs => ?_, fun i hi => ?_, fun d hd => by rw [e2, zup_ne hd]; exact i3 d hd⟩
    · rw [e2, zup_eq]
      by_cases z : s = j
      · rw [z, upd_eq]
      · rw [upd_ne (by omega)]; exact i1 s (by omega)
    · rw [e2, zup_eq, upd_ne (hi j hj2)]; exact i2 i hi
theorem xt_tf51 {k p H : Nat} {K Q : zMem → Prop} {M : zMem} (hp : p < 8) (hH : M k 1 = nI H) (H5 : H ≤ 3) (hK : ∀ M', (∀ s, s < H → M' (k + 3) (s * 8 + p) = nI (3 - s)) → (∀ j, (∀ s, s < H → j ≠ s * 8 + p) → M' (k + 3) j = M (k + 3) j) → (∀ d, d ≠ k + 3 → M' d = M d) → K M') : ∃ n, zlp1 (wpB_Told_tellAsAtFirst_51 k (nI p) K Q) n 0 M := by
  refine zlp1_r (fun m x M' => ∃ j, x = nI j ∧ j ≤ H ∧ m = H - j ∧ (∀ s, s < j → M' (k + 3) (s * 8 + p) = nI (3 - s)) ∧ (∀ i, (∀ s, s < H → i ≠ s * 8 + p) → M' (k + 3) i = M (k + 3) i) ∧ (∀ d, d ≠ k + 3 → M' d = M d)) ?_ (n := H) ⟨0, rfl, by omega, rfl, fun s h => absurd h (by omega), fun _ _ => rfl, fun _ _ => rfl⟩
  rintro m x M' ⟨j, rfl, hj, rfl, i1, i2, i3⟩ J hJ
  unfold wpB_Told_tellAsAtFirst_51
  rw [i3 k (by omega), hH]
  refine ⟨fun c => ?_, fun c => ?_⟩
  · have := (nI_leI (by omega) (by omega)).mp c
    have e : j = H := by omega
    subst e
    exact hK M' i1 i2 i3
  · have hj2 : j < H := (nI_ltI (by omega) (by omega)).mp (Int32.not_le.mp c)
    have e8 : nI j * 8 + nI p = nI (j * 8 + p) := by rw [show (8 : Int32) = nI 8 from rfl, q_mul, q_add]
    have e3 : (3 : Int32) - nI j = nI (3 - j) := by rw [show (3 : Int32) = nI 3 from rfl, q_sub (by omega)]
    rw [e8, q_ix (by omega), e3]
    refine ⟨vp_in_nI (by omega) (by omega), fun M2 e2 y ey => ?_⟩
    rw [ey, nI_1]
    refine hJ (H - (j + 1)) _ _ (by omega) ⟨j + 1, rfl, by omega, rfl, fun s hs => ?_, fun i hi => ?_, fun d hd => by rw [e2, zup_ne hd]; exact i3 d hd⟩
    · rw [e2, zup_eq]
      by_cases z : s = j
      · rw [z, upd_eq]
      · rw [upd_ne (by omega)]; exact i1 s (by omega)
    · rw [e2, zup_eq, upd_ne (hi j hj2)]; exact i2 i hi
/-- the rule as at first -/
def tf (k : Nat) (M M' : zMem) : Prop :=
  M' k 0 = 3 ∧ M' k 1 = 3 ∧ M' k 2 = 0 ∧ M' k 3 = 0 ∧ M' k 4 = 0 ∧ M' k 5 = 0 ∧ M' k 6 = 1 ∧ M' (k + 1) 0 = 0 ∧ (∀ s p, s < 3 → p < 3 → M' (k + 2) (s * 8 + p) = 2) ∧ (∀ h p, h < 3 → p < 3 → M' (k + 3) (h * 8 + p) = nI (3 - h)) ∧ (∀ h, h < 3 → M' (k + 4) h = 3) ∧ (∀ d, (d < k ∨ k + 5 ≤ d) → M' d = M d)
theorem xt_tell {k : Nat} {M : zMem} {Q : zMem → Prop} (hQ : ∀ M', tf k M M' → Q M') : wp_Told_tellAsAtFirst k M Q := by
  unfold wp_Told_tellAsAtFirst wp_Told_clear
  intro z1 e1 z2 e2 z3 e3 z4 e4 z5 e5 z6 e6 z7 e7
  refine ⟨vp_in_nI (n := 0) (by omega) (by omega), fun z8 e8 z9 e9 za ea => ?_⟩
  have hk : za k 0 = 3 ∧ za k 1 = 3 ∧ za k 2 = 0 ∧ za k 3 = 0 ∧ za k 4 = 0 ∧ za k 5 = 0 ∧ za k 6 = 1 := by
    have e8' : z8 k = z7 k := by rw [e8, zup_ne (by omega)]
    refine ⟨?_, ?_, ?_, ?_, ?_, ?_, ?_⟩ <;> (rw [ea, zup_eq]; simp [upd, e9, e8', e7, e6, e5, e4, e3, e2, e1, zup_eq])
  have hk1 : za (k + 1) 0 = 0 := by
    rw [ea, zup_ne (by omega), e9, zup_ne (by omega), e8, zup_eq]
    exact upd_eq
  have hd : ∀ d, (d < k ∨ k + 5 ≤ d) → za d = M d := fun d h => by
    rw [ea, zup_ne (by omega), e9, zup_ne (by omega), e8, zup_ne (by omega), e7, zup_ne (by omega), e6, zup_ne (by omega), e5, zup_ne (by omega), e4, zup_ne (by omega), e3, zup_ne (by omega), e2, zup_ne (by omega), e1, zup_ne (by omega)]
  refine zlp1_r (fun m x M' => ∃ j, x = nI j ∧ j ≤ 3 ∧ m = 3 - j ∧ M' k = za k ∧ M' (k + 1) = za (k + 1) ∧ (∀ s p, s < 3 → p < j → M' (k + 2) (s * 8 + p) = 2) ∧ (∀ h p, h < 3 → p < j → M' (k + 3) (h * 8 + p) = nI (3 - h)) ∧ (∀ d, (d < k ∨ k + 5 ≤ d) → M' d = M d)) ?_ (n := 3) ⟨0, rfl, by omega, rfl, rfl, rfl, fun s p _ h => absurd h (by omega), fun s p _ h => absurd h (by omega), hd⟩
  rintro m x M' ⟨j, rfl, hj, rfl, i1, i2, i3, i4, i5⟩ J hJ
  unfold wpB_Told_tellAsAtFirst_16
  rw [i1, hk.1]
  refine ⟨fun c => ?_, fun c => ?_⟩
  · have := (nI_leI (a := 3) (by omega) (by omega)).mp c
    have e : j = 3 := by omega
    subst e
    refine xt_fillEnds (n := 3) (H := 3) (by rw [i1]; exact hk.1) (by rw [i1]; exact hk.2.1) (by omega) (fun M2 a1 a2 a3 => ?_)
    obtain ⟨h0, h1, h2, h3, h4, h5, h6⟩ := hk
    have e0 : M2 k = za k := by rw [a3 k (by omega), i1]
    refine hQ M2 ⟨by rw [e0]; exact h0, by rw [e0]; exact h1, by rw [e0]; exact h2, by rw [e0]; exact h3, by rw [e0]; exact h4, by rw [e0]; exact h5, by rw [e0]; exact h6, by rw [a3 (k + 1) (by omega), i2]; exact hk1, fun s p hs hp => by rw [a3 (k + 2) (by omega)]; exact i3 s p hs hp, fun s p hs hp => by rw [a3 (k + 3) (by omega)]; exact i4 s p hs hp, fun h hh => by rw [a1 h hh, if_pos (Or.inl (by rw [i1]; exact h4))]; rfl, fun d hd => by rw [a3 d (by omega)]; exact i5 d hd⟩
  · have hj2 : j < 3 := (nI_ltI (b := 3) (by omega) (by omega)).mp (Int32.not_le.mp c)
    refine xt_tf26 (by omega) (fun M2 a1 a2 a3 => ?_)
    refine xt_tf51 (H := 3) (by omega) (by rw [a3 k (by omega), i1]; exact hk.2.1) (by omega) (fun M3 b1 b2 b3 => ?_)
    intro y ey
    rw [ey, nI_1]
    refine hJ (3 - (j + 1)) _ _ (by omega) ⟨j + 1, rfl, by omega, rfl, by rw [b3 k (by omega), a3 k (by omega), i1], by rw [b3 (k + 1) (by omega), a3 (k + 1) (by omega), i2], fun s p hs hp => ?_, fun s p hs hp => ?_, fun d hd => by rw [b3 d (by omega), a3 d (by omega)]; exact i5 d hd⟩
    · rw [b3 (k + 2) (by omega)]
      by_cases z : p = j
      · rw [z]; exact a1 s hs
      · rw [a2 _ (fun s' hs' => by omega)]; exact i3 s p hs (by omega)
    · by_cases z : p = j
      · rw [z]; exact b1 s hs
      · rw [b2 _ (fun s' hs' => by omega), a3 (k + 3) (by omega)]; exact i4 s p hs (by omega)
/-- the state in which the law meets its first call -/
def fsh (M W : zMem) : Prop := W = zW0 ∧ sp_vt M 1 3 3 1 ∧ rt0 W M 3 3 1 ∧ (∀ c, (c = 0 ∨ 6 ≤ c ∧ c < 18 ∨ 27 ≤ c) → M c = zM0 c) ∧ M 1 2 = 0 ∧ M 1 3 = 0 ∧ M 1 4 = 0 ∧ M 1 5 = 0 ∧ (∃ M0 Mc, sp_clear 18 M0 Mc ∧ sp_ok Mc 1 18 3 3 1 ∧ M = sp_all 1 18 3 Mc)
theorem tf_vt {M M' : zMem} (h : tf 1 M M') : sp_vt M' 1 3 3 1 := by
  obtain ⟨h0, h1, h2, h3, h4, h5, h6, h7, hu, hc, he, -⟩ := h
  refine ⟨by omega, h0, h1, h6, ⟨0, by omega, h2⟩, ⟨0, by omega, h3⟩, ⟨0, by omega, h4⟩, ⟨0, by omega, h5⟩, fun i hi => ⟨0, by omega, by rw [show i = 0 by omega]; exact h7⟩, fun s p hs hp => ⟨2, by omega, hu s p hs hp⟩, fun s hs => ?_, fun h p hh hp => ⟨3 - h, by omega, by omega, hc h p hh hp⟩, fun h hh => ⟨3, by omega, he h hh⟩, he 2 (by omega), fun _ h hh => he h hh⟩
  have := hu s 0 hs (by omega)
  have e : M' 3 (s * 8) = 2 := this
  unfold sp_pf
  simp [e]
theorem tf_rt {M M' : zMem} (h : tf 1 M M') : rt0 zW0 M' 3 3 1 := by
  obtain ⟨h0, h1, h2, h3, h4, h5, h6, h7, hu, hc, he, -⟩ := h
  refine ⟨rfl, rfl, by rw [h2]; rfl, by rw [h3]; rfl, by rw [h4]; rfl, by rw [h5]; rfl, rfl, fun i hi => by rw [show i = 0 by omega, h7]; rfl, fun s p hs hp => ?_, fun h p hh hp => ?_, fun h hh => ?_⟩
  · rw [hu s p hs hp]
    rcases (show s = 0 ∨ s = 1 ∨ s = 2 by omega) with rfl | rfl | rfl <;> rcases (show p = 0 ∨ p = 1 ∨ p = 2 by omega) with rfl | rfl | rfl <;> rfl
  · rw [hc h p hh hp]
    rcases (show h = 0 ∨ h = 1 ∨ h = 2 by omega) with rfl | rfl | rfl <;> rcases (show p = 0 ∨ p = 1 ∨ p = 2 by omega) with rfl | rfl | rfl <;> rfl
  · rw [he h hh, if_pos (Or.inr h4)]; rfl
/-- the bench and its page -/
def pr (W M : zMem) (n H : Nat) : Prop := mr_s W M 0 18 ∧ (∀ h, h < H → mr_h W M 0 18 h) ∧ (∀ h p, h < H → p < n → W 6 (48 + 8 * h + p) = M 25 (h * 8 + p)) ∧ (∀ h p, h < H → n ≤ p → p < 8 → W 6 (48 + 8 * h + p) = 0) ∧ W 6 3 = 0 ∧ (∀ h, H ≤ h → h < 5 → W 6 (8 + 8 * h + 2) = 0)
/-- awake, or asleep with an empty page -/
def pst (W M : zMem) (n H L : Nat) : Prop := (W 0 24 = 1 ∧ pr W M n H) ∨ (W 0 24 = 0 ∧ (∀ j, j < 96 → W 6 j = 0) ∧ ∃ M0 Mc, sp_clear 18 M0 Mc ∧ sp_ok Mc 1 18 n H L ∧ M = sp_all 1 18 H Mc)
/-- what waking changes -/
def awf (W W' : zMem) : Prop := (∀ k, k ≠ 0 → k ≠ 6 → k ≠ 8 → k ≠ 9 → W' k = W k) ∧ (∀ j, j ≠ 18 → j ≠ 19 → j ≠ 24 → W' 0 j = W 0 j) ∧ (∀ j, 96 ≤ j → W' 6 j = W 6 j)
theorem awf.rf {W : zMem} : awf W W := ⟨fun _ _ _ _ _ => rfl, fun _ _ _ _ => rfl, fun _ _ => rfl⟩
theorem awf.tr {W W1 W2 : zMem} (a : awf W W1) (b : awf W1 W2) : awf W W2 := ⟨fun k q0 q6 q8 q9 => (b.1 k q0 q6 q8 q9).trans (a.1 k q0 q6 q8 q9), fun j x y z => (b.2.1 j x y z).trans (a.2.1 j x y z), fun j h => (b.2.2 j h).trans (a.2.2 j h)⟩
theorem mnum.a {W W' M : zMem} {H : Nat} (h : mnum W W' M H) : awf W W' := ⟨fun k a _ c d => h.2.2.2.2 k a c d, fun j a b _ => h.2.2.2.1 j a b, fun j _ => by rw [h.2.2.2.2 6 (by omega) (by omega) (by omega)]⟩
theorem mfr.a {W W' : zMem} (h : mfr 0 W W') : awf W W' := ⟨fun k _ b _ _ => by
  by_cases z : k = 10
  · rw [z]; exact h.2.2.1 (by omega)
  · exact h.1 k b z, fun j _ _ _ => by rw [h.1 0 (by omega) (by omega)], fun j hj => h.2.1 j (by omega)⟩
theorem mr.pr {W M : zMem} {n H L : Nat} (r : mr W M 0 1 18 n H L (fun h => h)) (z3 : W 6 3 = 0) (zu : ∀ h, H ≤ h → h < 5 → W 6 (8 + 8 * h + 2) = 0) : pr W M n H :=
  ⟨r.2.2.2.2.1, r.2.2.2.1, fun h p hh hp => by have e := r.2.2.1.2.2.2.1 h p hh hp; rw [show 96 * 0 + 48 + 8 * h + p = 48 + 8 * h + p by omega] at e; exact e, fun h p hh hp h8 => by have e := r.2.2.1.2.2.2.2 h p hh hp h8; rw [show 96 * 0 + 48 + 8 * h + p = 48 + 8 * h + p by omega] at e; exact e, z3, zu⟩
theorem pr.mr {W M : zMem} {n H L : Nat} (h : pr W M n H) (H5 : H ≤ 5) (r : rt0 W M n H L) (h18 : W 0 18 = nI H) (h19 : W 0 19 = M 1 4) (h89 : ∀ h, h < H → W 8 h = nI h ∧ W 9 h = M 5 h) : mr W M 0 1 18 n H L (fun h => h) := by
  obtain ⟨a1, a2, a3, a4, a5, a6⟩ := h
  refine ⟨by omega, mr_t_of (M' := M) r h18 h19 (fun h hh => (h89 h hh).2), ⟨fun h hh => ⟨by show h < 5; omega, (h89 h hh).1⟩, fun _ _ _ _ e => e, fun h p hh hp => r.2.2.2.2.2.2.2.2.2.1 h p hh hp, fun h p hh hp => ?_, fun h p hh hp h8 => ?_⟩, a2, a1, fun h => absurd h (by omega)⟩
  · rw [show 96 * 0 + 48 + 8 * h + p = 48 + 8 * h + p by omega]; exact a3 h p hh hp
  · rw [show 96 * 0 + 48 + 8 * h + p = 48 + 8 * h + p by omega]; exact a4 h p hh hp h8
theorem pr.moved {W W' M : zMem} {n H : Nat} (h : pr W M n H) (H5 : H ≤ 5) (n8 : n ≤ 8) (e : ∀ j, j < 96 → W' 6 j = W 6 j) : pr W' M n H := by
  obtain ⟨⟨s1, s2, s3, s4⟩, a2, a3, a4, a5, a6⟩ := h
  refine ⟨⟨by rw [e _ (by omega)]; exact s1, by rw [e _ (by omega)]; exact s2, by rw [e _ (by omega)]; exact s3, by rw [e _ (by omega)]; exact s4⟩, fun h hh => (a2 h hh).moved (fun i hi => e _ (by omega)) (fun _ _ _ => rfl), fun h p hh hp => by rw [e _ (by omega)]; exact a3 h p hh hp, fun h p hh hp h8 => by rw [e _ (by omega)]; exact a4 h p hh hp h8, by rw [e _ (by omega)]; exact a5, fun h h1 h2 => by rw [e _ (by omega)]; exact a6 h h1 h2⟩
/-- the reference wakes -/
theorem mt_awake {n H L : Nat} {M W : zMem} {Q : zMem → Prop} (vt : sp_vt M 1 n H L) (r : rt0 W M n H L) (st : pst W M n H L) (hQ : ∀ W', W' 0 24 = 1 → pr W' M n H → awf W W' → Q W') : wp_Model_awake W Q := by
  have H5 : H ≤ 5 := vt.1.2.2.2.1
  have n8 : n ≤ 8 := vt.1.2.1
  unfold wp_Model_awake
  rcases st with ⟨h24, hp⟩ | ⟨h24, hz, M0, Mc, hc, ok, eM⟩
  · rw [h24]
    exact ⟨fun _ => hQ W h24 hp awf.rf, fun c => absurd c (by decide)⟩
  · rw [h24]
    refine ⟨fun c => absurd rfl c, fun _ => ?_⟩
    have fr := (sp_all_ok ok).2.1
    have et : ∀ i, i ≤ 4 → Mc (1 + i) = M (1 + i) := fun i hi => by rw [eM]; exact (fr.1 (1 + i) (by omega) (fun q => absurd q (by omega))).symm
    have vtc := ok.2.2.2.1
    have rc : rt0 W Mc n H L := r.moved rfl et
    refine mt_asNumbered vtc rc (fun W1 m1 => ?_)
    have r1 : rt0 W1 Mc n H L := rc.moved (m1.2.2.2.2 4 (by omega) (by omega) (by omega)) (fun _ _ => rfl)
    have x6 : W1 6 = W 6 := m1.2.2.2.2 6 (by omega) (by omega) (by omega)
    have mr1 : mr W1 Mc 0 1 18 n H L (fun h => h) := mr_clear (by omega) (fun j hj => by rw [x6, show 96 * 0 + j = j by omega]; exact hz j hj) hc n8 H5 (mr_t_of (M' := Mc) r1 m1.1 m1.2.1 (fun h hh => (m1.2.2.1 h hh).2)) (fun h hh => ⟨by show h < 5; omega, (m1.2.2.1 h hh).1⟩) (fun _ _ _ _ e => e) (fun h p hh hp => r1.2.2.2.2.2.2.2.2.2.1 h p hh hp) (fun h => absurd h (by omega))
    show wp_Model_settle (nI 0) W1 _
    refine mt_settle (C := 40) (by omega) ok mr1 (fun h => absurd h (by omega)) (fun W2 mr2 f2 _ z2 => ?_)
    intro W3 e3
    have y6 : W3 6 = W2 6 := by rw [e3, zup_ne (by omega)]
    have p2 : pr W2 M n H := by
      rw [eM]
      refine mr2.pr z2 (fun h h1 h2 => ?_)
      have := f2.2.2.2 H h m1.1 h1 h2
      rw [show 96 * 0 + 8 + 8 * h + 2 = 8 + 8 * h + 2 by omega] at this
      rw [this, x6]
      exact hz _ (by omega)
    refine hQ W3 (by rw [e3, zup_eq, upd_eq]) (p2.moved H5 n8 (fun j _ => by rw [y6])) (m1.a.tr (f2.a.tr ⟨fun k q0 _ _ _ => by rw [e3, zup_ne q0], fun j _ _ q => by rw [e3, zup_eq, upd_ne q], fun j _ => by rw [y6]⟩))
/-- where no hand is at its unit's end, nothing gets done -/
theorem sp_all_nf {t b n H L : Nat} {M : zMem} (ok : sp_ok M t b n H L) (st : sp_st M b H) : sp_all t b H M b 3 = M b 3 := by
  have step : ∀ h (X X' : zMem), sp_ok X t b n H L → h < H → sp_st X b H → sp_hand t b h X = some X' → sp_st X' b H ∧ X' b 3 = X b 3 := by
    intro h X X' okx hh stx e
    have okx' := (sp_step okx hh e).1
    have hb18 := okx.2.2.1
    unfold sp_hand at e
    split at e
    · rename_i hl
      split at e
      · rename_i h3
        have := stx h hh h3
        rw [hl] at this
        exact absurd this (by decide)
      · split at e
        · split at e
          · cases e
            refine ⟨fun j hj j3 => ?_, by unfold sp_new; simp (disch := omega) only [zup_ne, zup_eq, upd_ne]⟩
            unfold sp_new at j3 ⊢
            by_cases c : j = 0
            · subst c
              simp (disch := omega) only [zup_ne, zup_eq, upd_eq] at j3
              exact absurd j3 (by decide)
            · simp (disch := omega) only [zup_ne, zup_eq, upd_ne] at j3 ⊢
              exact stx j hj j3
          · split at e
            · rename_i h0 hc
              cases e
              have key : ∃ (X6 : zMem) (f : Int32), sp_take t b h X = sp_goBack t b (h - 1) f X6 ∧ X6 b 3 = X b 3 ∧ X6 (b + 1) h = 2 ∧ (∀ j, X6 (b + 2) j = X (b + 2) j) ∧ (∀ j, j ≠ h → X6 (b + 1) j = X (b + 1) j) := by
                unfold sp_take
                rcases zlg_cases b with c | ⟨c, hb32⟩
                · rw [c]
                  refine ⟨_, _, rfl, ?_, ?_, fun j => ?_, fun j hj => ?_⟩ <;> simp (disch := omega) only [zup_ne, zup_eq, upd_eq, upd_ne]
                · rw [c]
                  refine ⟨_, _, rfl, ?_, ?_, fun j => ?_, fun j hj => ?_⟩ <;> rw [e_note_ne (by omega) (by omega)] <;> simp (disch := omega) only [zup_ne, zup_eq, upd_eq, upd_ne]
              obtain ⟨X6, f, x1, x2, x3, x4, x5⟩ := key
              rw [x1]
              refine ⟨fun j hj j3 => ?_, by rw [← x2]; unfold sp_goBack; simp (disch := omega) only [zup_ne]⟩
              by_cases c : j = h - 1
              · subst c
                unfold sp_goBack at j3
                simp (disch := omega) only [zup_eq, upd_eq] at j3
                split at j3 <;> exact absurd j3 (by decide)
              · rw [sp_goBack_at (Or.inr (Or.inr c))] at j3 ⊢
                by_cases c2 : j = h
                · subst c2
                  rw [x3] at j3
                  exact absurd j3 (by decide)
                · rw [x5 j c2] at j3
                  rw [x4]
                  exact stx j hj j3
            · cases e
        · split at e
          · split at e
            · cases e
              refine ⟨fun j hj j3 => ?_, by unfold sp_start; simp (disch := omega) only [zup_ne, zup_eq, upd_ne]⟩
              by_cases c : j = h
              · subst c
                unfold sp_start
                simp (disch := omega) only [zup_eq, upd_eq]
                exact sp_ticks_pos _ _ _ _ _
              · rw [sp_start_ne c] at j3 ⊢
                exact stx j hj j3
            · cases e
          · cases e
    · cases e
  have rd : ∀ h (s : Bool) (X : zMem), h ≤ H → sp_ok X t b n H L → sp_st X b H → sp_st (sp_rd t b h s X).2 b H ∧ (sp_rd t b h s X).2 b 3 = X b 3 := by
    intro h
    induction h with
    | zero => intro s X _ _ stx; exact ⟨stx, rfl⟩
    | succ h ih =>
      intro s X hh okx stx
      unfold sp_rd
      cases e : sp_hand t b h X with
      | none => exact ih s X (by omega) okx stx
      | some X' =>
        obtain ⟨y1, y2⟩ := step h X X' okx (by omega) stx e
        obtain ⟨z1, z2⟩ := ih true X' (by omega) (sp_step okx (by omega) e).1 y1
        exact ⟨z1, z2.trans y2⟩
  have rds : ∀ f (X : zMem), sp_ok X t b n H L → sp_st X b H → sp_rounds t b H f X b 3 = X b 3 := by
    intro f
    induction f with
    | zero => intro X _ _; rfl
    | succ f ih =>
      intro X okx stx
      obtain ⟨y1, y2⟩ := rd H false X (Nat.le_refl _) okx stx
      unfold sp_rounds
      split
      · rw [ih _ (sp_rd_ok H false X (Nat.le_refl _) okx).1 y1, y2]
      · exact y2
  exact rds _ M ok st
theorem sp_clear.st {b H : Nat} {M0 M : zMem} (hc : sp_clear b M0 M) (H5 : H ≤ 5) : sp_st M b H := fun h hh h3 => by
  rw [(hc.2.2.2.2.2.2.1 h (by omega)).1] at h3
  exact absurd h3 (by decide)
/-- done, learnt, and the page, awake or asleep -/
theorem pst.done {W M : zMem} {n H L : Nat} (st : pst W M n H L) : W 6 1 = M 18 3 := by
  rcases st with ⟨-, hp⟩ | ⟨-, hz, M0, Mc, hc, ok, eM⟩
  · exact hp.1.2.1
  · rw [eM, sp_all_nf ok (hc.st ok.2.2.2.1.1.2.2.2.1), hc.2.1]; exact hz 1 (by omega)
theorem pst.learnt {W M : zMem} {n H L h p : Nat} (st : pst W M n H L) (hh : h < H) (hp : p < n) (H5 : H ≤ 5) (n8 : n ≤ 8) : W 6 (48 + 8 * h + p) = M 25 (h * 8 + p) := by
  rcases st with ⟨-, pp⟩ | ⟨-, hz, M0, Mc, hc, ok, eM⟩
  · exact pp.2.2.1 h p hh hp
  · rw [eM, show sp_all 1 18 H Mc 25 = Mc 25 from (sp_ri_0 hc ok).2.2, hz _ (by omega)]
    exact (hc.2.2.2.2.2.2.2.1 _ (by omega)).symm
theorem p_fault {M W : zMem} {P : zMem → zMem → Prop} (e : M 11 1 = W 0 2) (hP : P M W) : wp_Main_fault M (fun x M' => wp_Model_fault W (fun y W' => x = y ∧ P M' W')) := ⟨e, hP⟩
theorem p_torn {M W : zMem} {P : zMem → zMem → Prop} (e : M 0 13 = W 0 39) (hP : P M W) : wp_Main_torn M (fun x M' => wp_Model_torn W (fun y W' => x = y ∧ P M' W')) := ⟨e, hP⟩
theorem p_end {a : Int32} {M W : zMem} {P : zMem → zMem → Prop} {z : Nat} (e : M 11 5 = nI z) (e2 : W 0 1 = nI z) (hz : z ≤ 400) (hP : P M W) (hP2 : ∀ j, j ≤ z → a = nI j → P (zup M 11 5 (nI j)) (zup W 0 1 (nI j))) : wp_Main_end a M (fun x M' => wp_Model_end a W (fun y W' => x = y ∧ P M' W')) := by
  unfold wp_Main_end wp_Model_end
  rw [e, e2]
  refine ⟨fun c => ?_, fun c => ⟨fun c2 x ex M1 e1 => ?_, fun c2 => ?_⟩⟩
  · exact mt_in (lo' := 0) (hi' := nI z) rfl rfl (fun q _ => absurd c (Int32.not_lt.mpr q)) (fun _ => ⟨fun q => absurd rfl q, fun _ => ⟨rfl, hP⟩⟩)
  · obtain ⟨j, hj, rfl⟩ := nI_of c
    have hj2 := (nI_leI (by omega) (by omega)).mp c2
    refine mt_in (lo' := 0) (hi' := nI z) rfl rfl (fun _ _ => ⟨fun _ y ey W1 f1 => ?_, fun q => absurd q (by decide)⟩) (fun q => absurd ⟨Int32.not_lt.mp c, c2⟩ q)
    rw [e1, f1, ex, ey, e2]
    exact ⟨rfl, hP2 j hj2 rfl⟩
  · exact mt_in (lo' := 0) (hi' := nI z) rfl rfl (fun _ q => absurd q c2) (fun _ => ⟨fun q => absurd rfl q, fun _ => ⟨rfl, hP⟩⟩)
theorem p_units {n H L : Nat} {M W : zMem} {a1 a2 : Int32} {P : zMem → zMem → Prop} (vt : sp_vt M 1 n H L) (r : rt0 W M n H L) (hP : P M W) : wp_Main_units a1 a2 M (fun x M' => wp_Model_units a1 a2 W (fun y W' => x = y ∧ P M' W')) := by
  obtain ⟨⟨n1, n8, H1, H5, L1, L6⟩, hn, hH, -⟩ := id vt
  have no : (¬ ((0 : Int32) ≤ a1 ∧ a1 ≤ 2)) → wp_Model_units a1 a2 W (fun y W' => -1 = y ∧ P M W') := fun q => mt_in (lo' := 0) (hi' := 2) rfl rfl (fun x y => absurd ⟨x, y⟩ q) (fun _ => ⟨fun _ => ⟨rfl, hP⟩, fun q => absurd rfl q⟩)
  unfold wp_Main_units
  refine ⟨fun c => no (fun q => absurd c (Int32.not_lt.mpr q.1)), fun c => ?_⟩
  obtain ⟨s, hs, rfl⟩ := nI_of c
  refine ⟨fun c2 => no (fun q => ?_), fun c2 => ?_⟩
  · have h1 := (nI_leI (a := 3) (by omega) (by omega)).mp c2
    have h2 := (nI_leI (b := 2) (by omega) (by omega)).mp q.2
    omega
  have hs3 : s < 3 := (nI_ltI (b := 3) (by omega) (by omega)).mp (Int32.not_le.mp c2)
  have yes : ∀ (K : Int32 → zMem → Prop), wp_Model_isPiece a2 W (fun zr4 zm3 => (zr4 = 0 → K (-1) zm3) ∧ (¬ zr4 = 0 → vp_in ((30 + (8 * nI s)) + a2) 100 ∧ K (zm3 4 (ix ((30 + (8 * nI s)) + a2))) zm3)) → wp_Model_units (nI s) a2 W K := fun K h => mt_in (lo' := 0) (hi' := 2) rfl rfl (fun _ _ => ⟨fun q => absurd q (by decide), fun _ => h⟩) (fun q => absurd ⟨nI_pos' (by omega), (nI_leI (b := 2) (by omega) (by omega)).mpr (by omega)⟩ q)
  refine xt_isPiece hn (by omega) (fun p hp ep => ⟨fun _ => ?_, fun q => absurd q (by decide)⟩) (fun np => ⟨fun q => absurd rfl q, fun _ => yes _ (mt_isPiece r.1 (by omega) (by omega) (fun p hp ep => absurd ⟨p, hp, ep⟩ np) (fun _ => ⟨fun _ => ⟨rfl, hP⟩, fun q => absurd rfl q⟩))⟩)
  subst ep
  unfold wp_Told_unitsOf
  have e1 : nI s * 8 + nI p = nI (s * 8 + p) := by rw [show (8 : Int32) = nI 8 from rfl, q_mul, q_add]
  have e2 : 30 + 8 * nI s + nI p = nI (30 + 8 * s + p) := by simp (disch := omega) only [q_lit, q_add, q_mul, q_sub, q_ix, q_in, q_lt, q_le, q_eq, q_nlt, q_nle, q_ltn, q_len, q_neq, q_eqn, zup_ne, zup_eq, zset_ne, zset_eq, upd_eq, upd_ne, forall_eq, true_and, and_true, true_implies, false_implies, implies_true, not_true_eq_false, not_false_eq_true, and_self, ↓reduceIte, false_and, and_false]
  rw [e1, q_ix (by omega)]
  refine ⟨vp_in_nI (by omega) (by omega), yes _ ?_⟩
  refine mt_isPiece r.1 (by omega) (by omega) (fun _ _ _ => ⟨fun q => absurd q (by decide), fun _ => ?_⟩) (fun q => absurd ⟨p, hp, rfl⟩ q)
  rw [e2, q_ix (by omega), r.2.2.2.2.2.2.2.2.1 s p hs3 hp]
  exact ⟨vp_in_nI (by omega) (by omega), rfl, hP⟩
/-- the reference's way in, for a hand and a piece -/
theorem mt_hp {n H L h p : Nat} {M W : zMem} {Q : Int32 → zMem → Prop} {G : zMem → Prop} (vt : sp_vt M 1 n H L) (r : rt0 W M n H L) (hh : h < H) (hp : p < n) (g : G W) : wp_Model_isHand (nI h) W (fun zr2 zm1 => (zr2 = 0 → Q ((-1)) zm1) ∧ (¬ zr2 = 0 → wp_Model_isPiece (nI p) zm1 (fun zr4 zm3 => (zr4 = 0 → Q ((-1)) zm3) ∧ (¬ zr4 = 0 → G zm3)))) := by
  obtain ⟨⟨n1, n8, H1, H5, L1, L6⟩, hn, hH, -⟩ := id vt
  exact mt_isHand r.2.1 (by omega) (by omega) (fun _ _ _ => ⟨fun q => absurd q (by decide), fun _ => mt_isPiece r.1 (by omega) (by omega) (fun _ _ _ => ⟨fun q => absurd q (by decide), fun _ => g⟩) (fun q => absurd ⟨p, hp, rfl⟩ q)⟩) (fun q => absurd ⟨h, hh, rfl⟩ q)
/-- and what the reference says where there is none -/
theorem mt_nhp {n H L : Nat} {M W : zMem} {a1 a2 : Int32} {Q : Int32 → zMem → Prop} {G : zMem → Prop} (vt : sp_vt M 1 n H L) (r : rt0 W M n H L) (no : ¬ ((∃ h, h < H ∧ a1 = nI h) ∧ ∃ p, p < n ∧ a2 = nI p)) (q0 : Q (-1) W) : wp_Model_isHand a1 W (fun zr2 zm1 => (zr2 = 0 → Q ((-1)) zm1) ∧ (¬ zr2 = 0 → wp_Model_isPiece a2 zm1 (fun zr4 zm3 => (zr4 = 0 → Q ((-1)) zm3) ∧ (¬ zr4 = 0 → G zm3)))) := by
  obtain ⟨⟨n1, n8, H1, H5, L1, L6⟩, hn, hH, -⟩ := id vt
  exact mt_isHand r.2.1 (by omega) (by omega) (fun h hh eh => ⟨fun q => absurd q (by decide), fun _ => mt_isPiece r.1 (by omega) (by omega) (fun p hp ep => absurd ⟨⟨h, hh, eh⟩, p, hp, ep⟩ no) (fun _ => ⟨fun _ => q0, fun q => absurd rfl q⟩)⟩) (fun _ => ⟨fun _ => q0, fun q => absurd rfl q⟩)
theorem p_pace {n H L : Nat} {M W : zMem} {a1 a2 : Int32} {P : zMem → zMem → Prop} (vt : sp_vt M 1 n H L) (r : rt0 W M n H L) (hP : P M W) : wp_Main_pace a1 a2 M (fun x M' => wp_Model_pace a1 a2 W (fun y W' => x = y ∧ P M' W')) := by
  obtain ⟨⟨n1, n8, H1, H5, L1, L6⟩, hn, hH, -⟩ := id vt
  have no : ¬ ((∃ h, h < H ∧ a1 = nI h) ∧ ∃ p, p < n ∧ a2 = nI p) → wp_Model_pace a1 a2 W (fun y W' => -1 = y ∧ P M W') := fun q => by
    unfold wp_Model_pace
    exact mt_nhp (Q := fun y W' => -1 = y ∧ P M W') vt r q ⟨rfl, hP⟩
  refine xt_isHand hH (by omega) (fun h hh eh => ⟨fun q => absurd q (by decide), fun _ => ?_⟩) (fun nh => ⟨fun _ => no (fun q => nh q.1), fun q => absurd rfl q⟩)
  refine xt_isPiece hn (by omega) (fun p hp ep => ⟨fun _ => ?_, fun q => absurd q (by decide)⟩) (fun np => ⟨fun q => absurd rfl q, fun _ => no (fun q => np q.2)⟩)
  subst eh; subst ep
  have e1 : nI h * 8 + nI p = nI (h * 8 + p) := by rw [show (8 : Int32) = nI 8 from rfl, q_mul, q_add]
  have e2 : 60 + 8 * nI h + nI p = nI (60 + 8 * h + p) := by simp (disch := omega) only [q_lit, q_add, q_mul, q_sub, q_ix, q_in, q_lt, q_le, q_eq, q_nlt, q_nle, q_ltn, q_len, q_neq, q_eqn, zup_ne, zup_eq, zset_ne, zset_eq, upd_eq, upd_ne, forall_eq, true_and, and_true, true_implies, false_implies, implies_true, not_true_eq_false, not_false_eq_true, and_self, ↓reduceIte, false_and, and_false]
  unfold wp_Told_paceOf
  rw [e1, q_ix (by omega)]
  refine ⟨vp_in_nI (by omega) (by omega), ?_⟩
  show wp_Model_pace (nI h) (nI p) W (fun y W' => M 4 (h * 8 + p) = y ∧ P M W')
  unfold wp_Model_pace
  refine mt_hp (Q := fun y W' => M 4 (h * 8 + p) = y ∧ P M W') vt r hh hp ?_
  rw [e2, q_ix (by omega), r.2.2.2.2.2.2.2.2.2.1 h p hh hp]
  exact ⟨vp_in_nI (by omega) (by omega), rfl, hP⟩
theorem p_learnt {n H L : Nat} {M W : zMem} {a1 a2 : Int32} {P : zMem → zMem → Prop} (vt : sp_vt M 1 n H L) (r : rt0 W M n H L) (st : pst W M n H L) (hP : P M W) : wp_Main_learnt a1 a2 M (fun x M' => wp_Model_learnt a1 a2 W (fun y W' => x = y ∧ P M' W')) := by
  obtain ⟨⟨n1, n8, H1, H5, L1, L6⟩, hn, hH, -⟩ := id vt
  have no : ¬ ((∃ h, h < H ∧ a1 = nI h) ∧ ∃ p, p < n ∧ a2 = nI p) → wp_Model_learnt a1 a2 W (fun y W' => -1 = y ∧ P M W') := fun q => by
    unfold wp_Model_learnt
    exact mt_nhp (Q := fun y W' => -1 = y ∧ P M W') vt r q ⟨rfl, hP⟩
  refine xt_isHand hH (by omega) (fun h hh eh => ⟨fun q => absurd q (by decide), fun _ => ?_⟩) (fun nh => ⟨fun _ => no (fun q => nh q.1), fun q => absurd rfl q⟩)
  refine xt_isPiece hn (by omega) (fun p hp ep => ⟨fun _ => ?_, fun q => absurd q (by decide)⟩) (fun np => ⟨fun q => absurd rfl q, fun _ => no (fun q => np q.2)⟩)
  subst eh; subst ep
  have e1 : nI h * 8 + nI p = nI (h * 8 + p) := by rw [show (8 : Int32) = nI 8 from rfl, q_mul, q_add]
  have e2 : 96 * 0 + 48 + 8 * nI h + nI p = nI (48 + 8 * h + p) := by simp (disch := omega) only [q_lit, q_add, q_mul, q_sub, q_ix, q_in, q_lt, q_le, q_eq, q_nlt, q_nle, q_ltn, q_len, q_neq, q_eqn, zup_ne, zup_eq, zset_ne, zset_eq, upd_eq, upd_ne, forall_eq, true_and, and_true, true_implies, false_implies, implies_true, not_true_eq_false, not_false_eq_true, and_self, ↓reduceIte, false_and, and_false]
  rw [e1, q_ix (by omega)]
  refine ⟨vp_in_nI (by omega) (by omega), ?_⟩
  show wp_Model_learnt (nI h) (nI p) W (fun y W' => M 25 (h * 8 + p) = y ∧ P M W')
  unfold wp_Model_learnt
  refine mt_hp (Q := fun y W' => M 25 (h * 8 + p) = y ∧ P M W') vt r hh hp ?_
  unfold wp_Model_learntAt
  rw [e2]
  show vp_in (nI (48 + 8 * h + p)) 384 ∧ (M 25 (h * 8 + p) = W 6 (ix (nI (48 + 8 * h + p))) ∧ P M W)
  rw [q_ix (by omega), st.learnt hh hp H5 n8]
  exact ⟨vp_in_nI (by omega) (by omega), rfl, hP⟩
theorem p_takes {n H L : Nat} {M W : zMem} {a1 a2 : Int32} {P : zMem → zMem → Prop} (vt : sp_vt M 1 n H L) (r : rt0 W M n H L) (st : pst W M n H L) (hP : P M W) : wp_Main_takes a1 a2 M (fun x M' => wp_Model_takes a1 a2 W (fun y W' => x = y ∧ P M' W')) := by
  obtain ⟨⟨n1, n8, H1, H5, L1, L6⟩, hn, hH, -, -, ⟨le, hle, hle2⟩, -⟩ := id vt
  have no : ¬ ((∃ h, h < H ∧ a1 = nI h) ∧ ∃ p, p < n ∧ a2 = nI p) → wp_Model_takes a1 a2 W (fun y W' => -1 = y ∧ P M W') := fun q => by
    unfold wp_Model_takes
    exact mt_nhp (Q := fun y W' => -1 = y ∧ P M W') vt r q ⟨rfl, hP⟩
  refine xt_isHand hH (by omega) (fun h hh eh => ⟨fun q => absurd q (by decide), fun _ => ?_⟩) (fun nh => ⟨fun _ => no (fun q => nh q.1), fun q => absurd rfl q⟩)
  refine xt_isPiece hn (by omega) (fun p hp ep => ⟨fun _ => ?_, fun q => absurd q (by decide)⟩) (fun np => ⟨fun q => absurd rfl q, fun _ => no (fun q => np q.2)⟩)
  subst eh; subst ep
  have e1 : nI h * 8 + nI p = nI (h * 8 + p) := by rw [show (8 : Int32) = nI 8 from rfl, q_mul, q_add]
  rw [e1, q_ix (by omega)]
  refine ⟨vp_in_nI (by omega) (by omega), e_ticksOf (by omega) (by omega) ?_⟩
  show wp_Model_takes (nI h) (nI p) W (fun y W' => sp_ticks 1 h p (M 25 (h * 8 + p)) M = y ∧ P M W')
  unfold wp_Model_takes
  refine mt_hp (Q := fun y W' => sp_ticks 1 h p (M 25 (h * 8 + p)) M = y ∧ P M W') vt r hh hp ?_
  show wp_Model_ticksOf (nI 0) (nI h) (nI p) W _
  refine mt_ticks (t := 1) (b := 18) (h := h) (w := h) (by omega) (by omega) (by omega) r.2.2.2.1 hle2 hle (r.2.2.2.2.2.2.2.2.2.1 h p hh hp) ?_ ⟨rfl, hP⟩
  rw [show 96 * 0 + 48 + 8 * h + p = 48 + 8 * h + p by omega]
  exact st.learnt hh hp H5 n8
theorem mw_rule0 {j : Nat} {W : zMem} {Q : Int32 → zMem → Prop} (hj : j ≤ 6) (h : Q (W 4 j) W) : wp_Model_rule (nI j) W Q := by
  refine mt_in (lo' := 0) (hi' := 6) rfl rfl (fun _ _ => ⟨fun q => absurd q (by decide), fun _ => ⟨vp_in_nI (by omega) (by omega), ?_⟩⟩) (fun q => absurd ⟨nI_pos' (by omega), (nI_leI (b := 6) (by omega) (by omega)).mpr hj⟩ q)
  rw [q_ix (by omega)]; exact h
theorem nI_10 {L : Nat} (h : 1 ≤ L) : (10 : Int32) + nI L - 1 = nI (10 + (L - 1)) := by
  rw [show (10 : Int32) = nI 10 from rfl, q_add, q_pred (by omega)]; congr 1; omega
theorem mw_rule1 {j L : Nat} {W : zMem} {Q : Int32 → zMem → Prop} (hL : W 4 6 = nI L) (L6 : L ≤ 6) (hj : j < L) (h : Q (W 4 (10 + j)) W) : wp_Model_rule (nI (10 + j)) W Q := by
  refine mt_in (lo' := 0) (hi' := 6) rfl rfl (fun _ c => ?_) (fun _ => ⟨fun _ => ⟨vp_in_nI (n := 6) (by omega) (by omega), ?_⟩, fun q => absurd rfl q⟩)
  · have := (nI_leI (b := 6) (by omega) (by omega)).mp c
    omega
  · rw [show ix 6 = 6 from rfl, hL, nI_10 (by omega)]
    refine mt_in (lo' := 10) (hi' := nI (10 + (L - 1))) rfl rfl (fun _ _ => ⟨fun q => absurd q (by decide), fun _ => ⟨vp_in_nI (by omega) (by omega), ?_⟩⟩) (fun q => absurd ⟨(nI_leI (a := 10) (by omega) (by omega)).mpr (by omega), (nI_leI (by omega) (by omega)).mpr (by omega)⟩ q)
    rw [q_ix (by omega)]; exact h
theorem mw_rule2 {n H L h : Nat} {M W : zMem} {Q : Int32 → zMem → Prop} (vt : sp_vt M 1 n H L) (r : rt0 W M n H L) (hh : h < H) (hQ : Q (M 5 h) W) : wp_Model_rule (nI (20 + h)) W Q := by
  obtain ⟨⟨n1, n8, H1, H5, L1, L6⟩, hn, hH, -⟩ := id vt
  refine mt_in (lo' := 0) (hi' := 6) rfl rfl (fun _ c => ?_) (fun _ => ⟨fun _ => ⟨vp_in_nI (n := 6) (by omega) (by omega), ?_⟩, fun q => absurd rfl q⟩)
  · have := (nI_leI (b := 6) (by omega) (by omega)).mp c
    omega
  · rw [show ix 6 = 6 from rfl, r.2.2.2.2.2.2.1, nI_10 (by omega)]
    refine mt_in (lo' := 10) (hi' := nI (10 + (L - 1))) rfl rfl (fun _ c => ?_) (fun _ => ⟨fun _ => ⟨fun c => ?_, fun _ => ?_⟩, fun q => absurd rfl q⟩)
    · have := (nI_leI (by omega) (by omega)).mp c
      omega
    · have := (nI_ltI (b := 20) (by omega) (by omega)).mp c
      omega
    · have e : nI (20 + h) - 20 = nI h := by rw [show (20 : Int32) = nI 20 from rfl, q_sub (by omega)]; congr 1; omega
      rw [e]
      exact mt_isHand r.2.1 (by omega) (by omega) (fun _ _ _ => ⟨fun q => absurd q (by decide), fun _ => mt_endOf vt r hh hQ⟩) (fun q => absurd ⟨h, hh, rfl⟩ q)
theorem mw_rule3 {n H L : Nat} {a : Int32} {M W : zMem} {Q : Int32 → zMem → Prop} (vt : sp_vt M 1 n H L) (r : rt0 W M n H L) (h0 : ¬ ∃ j, j ≤ 6 ∧ a = nI j) (h1 : ¬ ∃ j, j < L ∧ a = nI (10 + j)) (h2 : ¬ ∃ h, h < H ∧ a = nI (20 + h)) (hQ : Q (-1) W) : wp_Model_rule a W Q := by
  obtain ⟨⟨n1, n8, H1, H5, L1, L6⟩, hn, hH, -⟩ := id vt
  refine mt_in (lo' := 0) (hi' := 6) rfl rfl (fun c0 c => ?_) (fun _ => ⟨fun _ => ⟨vp_in_nI (n := 6) (by omega) (by omega), ?_⟩, fun q => absurd rfl q⟩)
  · obtain ⟨j, hj, e⟩ := nI_of2 (M := 6) (n := 6) rfl (Int32.not_lt.mpr c0) c
    exact absurd ⟨j, hj, e⟩ h0
  · rw [show ix 6 = 6 from rfl, r.2.2.2.2.2.2.1, nI_10 (by omega)]
    refine mt_in (lo' := 10) (hi' := nI (10 + (L - 1))) rfl rfl (fun c0 c => ?_) (fun _ => ⟨fun _ => ⟨fun _ => hQ, fun c => ?_⟩, fun q => absurd rfl q⟩)
    · obtain ⟨j, hj, rfl⟩ := nI_of (x := a) (fun q => absurd (Int32.lt_of_lt_of_le q (by decide : (0 : Int32) ≤ 10)) (Int32.not_lt.mpr c0))
      have a1 := (nI_leI (a := 10) (by omega) (by omega)).mp c0
      have a2 := (nI_leI (by omega) (by omega)).mp c
      exact absurd ⟨j - 10, by omega, by congr 1; omega⟩ h1
    · obtain ⟨j, hj, rfl⟩ := nI_of (x := a) (fun q => c (Int32.lt_of_lt_of_le q (by decide : (0 : Int32) ≤ 20)))
      have a1 := (nI_leI (a := 20) (by omega) (by omega)).mp (Int32.not_lt.mp c)
      have e : nI j - 20 = nI (j - 20) := by rw [show (20 : Int32) = nI 20 from rfl, q_sub (by omega)]
      rw [e]
      refine mt_isHand r.2.1 (by omega) (by omega) (fun h hh eh => ?_) (fun _ => ⟨fun _ => hQ, fun q => absurd rfl q⟩)
      have e3 := (nI_eq (by omega) (by omega)).mp eh
      exact absurd ⟨h, hh, by congr 1; omega⟩ h2
theorem p_rule {n H L : Nat} {M W : zMem} {a : Int32} {P : zMem → zMem → Prop} (vt : sp_vt M 1 n H L) (r : rt0 W M n H L) (hP : P M W) : wp_Main_rule a M (fun x M' => wp_Model_rule a W (fun y W' => x = y ∧ P M' W')) := by
  obtain ⟨⟨n1, n8, H1, H5, L1, L6⟩, hn, hH, hL, -⟩ := id vt
  have j66 : (¬ ∃ j, j < L ∧ a = nI (10 + j)) → (¬ ∃ h, h < H ∧ a = nI (20 + h)) → wpJ_Main_rule_66 a (fun x M' => wp_Model_rule a W (fun y W' => x = y ∧ P M' W')) M := by
    intro h1 h2 x ex
    subst ex
    have lit : ∀ j, j ≤ 6 → x = nI j → W 4 j = M 1 j → wp_Model_rule x W (fun y W' => M 1 j = y ∧ P M W') := fun j hj e ew => by
      rw [e]
      exact mw_rule0 hj ⟨ew.symm, hP⟩
    refine ⟨fun c => lit 0 (by omega) c (by rw [r.1, hn]), fun c => lit 1 (by omega) c (by rw [r.2.1, hH]), fun c => lit 2 (by omega) c r.2.2.1, fun c => lit 3 (by omega) c r.2.2.2.1, fun c => lit 4 (by omega) c r.2.2.2.2.1, fun c => lit 5 (by omega) c r.2.2.2.2.2.1, fun c => lit 6 (by omega) c (by rw [r.2.2.2.2.2.2.1, hL]), fun c0 c1 c2 c3 c4 c5 c6 => ?_⟩
    refine mw_rule3 vt r (fun ⟨j, hj, e⟩ => ?_) h1 h2 ⟨rfl, hP⟩
    rcases (show j = 0 ∨ j = 1 ∨ j = 2 ∨ j = 3 ∨ j = 4 ∨ j = 5 ∨ j = 6 by omega) with rfl | rfl | rfl | rfl | rfl | rfl | rfl
    · exact c0 e
    · exact c1 e
    · exact c2 e
    · exact c3 e
    · exact c4 e
    · exact c5 e
    · exact c6 e
  have j33 : (¬ ∃ j, j < L ∧ a = nI (10 + j)) → wpJ_Main_rule_33 a (fun x M' => wp_Model_rule a W (fun y W' => x = y ∧ P M' W')) M := by
    intro h1
    unfold wpJ_Main_rule_33
    rw [hH]
    refine ⟨fun c => j66 h1 (fun ⟨h, hh, e⟩ => ?_), fun c => ⟨fun c2 => j66 h1 (fun ⟨h, hh, e⟩ => ?_), fun c2 => ?_⟩⟩
    · rw [e] at c
      have := (nI_ltI (b := 20) (by omega) (by omega)).mp c
      omega
    · rw [e, show (20 : Int32) = nI 20 from rfl, q_add] at c2
      have := (nI_leI (by omega) (by omega)).mp c2
      omega
    · obtain ⟨j, hj, rfl⟩ := nI_of (x := a) (fun q => c (Int32.lt_of_lt_of_le q (by decide : (0 : Int32) ≤ 20)))
      have a1 := (nI_leI (a := 20) (by omega) (by omega)).mp (Int32.not_lt.mp c)
      rw [show (20 : Int32) = nI 20 from rfl, q_add] at c2
      have a2 := (nI_ltI (by omega) (by omega)).mp (Int32.not_le.mp c2)
      have e : nI j - 20 = nI (j - 20) := by rw [show (20 : Int32) = nI 20 from rfl, q_sub (by omega)]
      rw [e, q_ix (by omega)]
      refine ⟨vp_in_nI (by omega) (by omega), ?_⟩
      have e2 : j = 20 + (j - 20) := by omega
      have k := mw_rule2 (Q := fun y W' => M 5 (j - 20) = y ∧ P M W') vt r (h := j - 20) (by omega) ⟨rfl, hP⟩
      rw [← e2] at k
      exact k
  unfold wp_Main_rule
  rw [hL]
  refine ⟨fun c => j33 (fun ⟨h, hh, e⟩ => ?_), fun c => ⟨fun c2 => j33 (fun ⟨h, hh, e⟩ => ?_), fun c2 => ?_⟩⟩
  · rw [e] at c
    have := (nI_ltI (b := 10) (by omega) (by omega)).mp c
    omega
  · rw [e, show (10 : Int32) = nI 10 from rfl, q_add] at c2
    have := (nI_leI (by omega) (by omega)).mp c2
    omega
  · obtain ⟨j, hj, rfl⟩ := nI_of (x := a) (fun q => c (Int32.lt_of_lt_of_le q (by decide : (0 : Int32) ≤ 10)))
    have a1 := (nI_leI (a := 10) (by omega) (by omega)).mp (Int32.not_lt.mp c)
    rw [show (10 : Int32) = nI 10 from rfl, q_add] at c2
    have a2 := (nI_ltI (by omega) (by omega)).mp (Int32.not_le.mp c2)
    have e : nI j - 10 = nI (j - 10) := by rw [show (10 : Int32) = nI 10 from rfl, q_sub (by omega)]
    rw [e, q_ix (by omega)]
    refine ⟨vp_in_nI (by omega) (by omega), ?_⟩
    have e2 : j = 10 + (j - 10) := by omega
    have k := mw_rule1 (Q := fun y W' => M 2 (j - 10) = y ∧ P M W') r.2.2.2.2.2.2.1 L6 (j := j - 10) (by omega) ⟨(r.2.2.2.2.2.2.2.1 (j - 10) (by omega)).symm, hP⟩
    rw [← e2] at k
    exact k
/-- the bench stands well, and nobody can do more -/
def bst (M : zMem) (n H L : Nat) : Prop := sp_ok M 1 18 n H L ∧ ∀ j, j < H → sp_hand 1 18 j M = none
theorem mw_of {j : Nat} {W : zMem} {Q : Int32 → zMem → Prop} (hj : j < 96) (h : Q (W 6 j) W) : wp_Model_of 0 (nI j) W Q := by
  unfold wp_Model_of
  have e : 96 * 0 + nI j = nI j := by rw [show (96 : Int32) * 0 = nI 0 from rfl, q_add, Nat.zero_add]
  rw [e, q_ix (by omega)]
  exact ⟨vp_in_nI (by omega) (by omega), h⟩
theorem zlg_18 : zlg 18 = none := by
  rcases zlg_cases 18 with c | ⟨-, c⟩
  · exact c
  · omega
theorem p_begin {n H L : Nat} {M W : zMem} {P : zMem → zMem → Prop} (vt : sp_vt M 1 n H L) (r : rt0 W M n H L) (st : pst W M n H L) (ht : ztc (M 18 0) = 1)
    (hP : ∀ M' W', bst M' n H L → W' 0 24 = 1 → pr W' M' n H → M' 18 0 = M 18 0 → (∀ k, (k < 18 ∨ 27 ≤ k) → M' k = M k) → awf W W' → P M' W') : wp_Main_begin M (fun x M' => wp_Model_begin W (fun y W' => x = y ∧ P M' W')) := by
  intro x ex
  refine xt_clear (fun Mc hc => ?_)
  have ok := sp_ok_clear hc ht (by omega) (by omega) vt (fun g hg => by rw [zlg_18] at hg; cases hg)
  refine xt_doAll ok ?_
  obtain ⟨ok2, fr2, hs2⟩ := sp_all_ok ok
  have ek : ∀ k, (k < 18 ∨ 27 ≤ k) → sp_all 1 18 H Mc k = M k := fun k hk => by
    rw [fr2.1 k (by omega) (fun q => absurd q (by omega))]
    exact hc.2.2.2.2.2.2.2.2.2 k (by omega)
  show wp_Model_of 0 (nI 1) W _
  refine mw_of (by omega) ?_
  show wp_Model_clear (nI 0) W _
  refine mt_clear (by omega) (fun W1 a1 a2 a3 => ?_)
  intro W2 e2
  have x4 : W2 4 = W 4 := by rw [e2, zup_ne (by omega), a3 4 (by omega)]
  have x6 : W2 6 = W1 6 := by rw [e2, zup_ne (by omega)]
  have aw : awf W W2 := ⟨fun k q0 q6 _ _ => by rw [e2, zup_ne q0, a3 k q6], fun j _ _ q => by rw [e2, zup_eq, upd_ne q, a3 0 (by omega)], fun j hj => by rw [x6]; exact a2 j (by omega)⟩
  refine mt_awake (M := sp_all 1 18 H Mc) (n := n) (H := H) (L := L) ok2.2.2.2.1 (r.moved x4 (fun i hi => ek _ (by omega))) (Or.inr ⟨by rw [e2, zup_eq, upd_eq], fun j hj => ?_, M, Mc, hc, ok, rfl⟩) (fun W3 h24 hp f3 => ⟨?_, hP _ W3 ⟨ok2, hs2⟩ h24 hp ?_ ek (aw.tr f3)⟩)
  · rw [x6, ← a1 j hj]; congr 1; omega
  · rw [ex]; exact st.done.symm
  · rw [fr2.2]; exact hc.2.2.2.2.1
theorem p_now {n H L : Nat} {M W : zMem} {a : Int32} {P : zMem → zMem → Prop} (vt : sp_vt M 1 n H L) (r : rt0 W M n H L) (st : pst W M n H L) (bs : bst M n H L) (hP : ∀ W', W' 0 24 = 1 → pr W' M n H → awf W W' → P M W') : wp_Main_now a M (fun x M' => wp_Model_now a W (fun y W' => x = y ∧ P M' W')) := by
  have yes : ∀ j x, j ≤ 4 → (∀ W', pr W' M n H → x = W' 6 j) → wp_Model_now (nI j) W (fun y W' => x = y ∧ P M W') := fun j x hj hx => by
    refine mt_awake vt r st (fun W' h24 hp f => ?_)
    refine mt_in (lo' := 0) (hi' := 4) rfl rfl (fun _ _ => ⟨fun q => absurd q (by decide), fun _ => ?_⟩) (fun q => absurd ⟨nI_pos' (by omega), (nI_leI (b := 4) (by omega) (by omega)).mpr hj⟩ q)
    exact mw_of (by omega) ⟨hx W' hp, hP W' h24 hp f⟩
  intro x ex
  refine ⟨fun c => ?_, fun c => ?_, fun c => ?_, fun c => ?_, fun c => ?_, fun c0 c1 c2 c3 c4 => ?_⟩
  · rw [← ex, c]; exact yes 0 _ (by omega) (fun W' hp => hp.1.1.symm)
  · rw [← ex, c]; exact yes 1 _ (by omega) (fun W' hp => hp.1.2.1.symm)
  · rw [← ex, c]; exact yes 2 _ (by omega) (fun W' hp => hp.1.2.2.1.symm)
  · refine xt_least bs.1 ⟨fun _ => ?_, fun q => ?_⟩
    · rw [← ex, c]; exact yes 3 _ (by omega) (fun W' hp => hp.2.2.2.2.1.symm)
    · have := sp_nstuck bs.1 bs.2
      rw [q] at this
      exact absurd this (by decide)
  · rw [← ex, c]; exact yes 4 _ (by omega) (fun W' hp => hp.1.2.2.2.symm)
  · refine mt_awake vt r st (fun W' h24 hp f => ?_)
    refine mt_in (lo' := 0) (hi' := 4) rfl rfl (fun q0 q => ?_) (fun _ => ⟨fun _ => ⟨rfl, hP W' h24 hp f⟩, fun q => absurd rfl q⟩)
    obtain ⟨j, hj, e⟩ := nI_of2 (M := 4) (n := 4) rfl (Int32.not_lt.mpr q0) q
    rw [← ex] at e
    rcases (show j = 0 ∨ j = 1 ∨ j = 2 ∨ j = 3 ∨ j = 4 by omega) with rfl | rfl | rfl | rfl | rfl
    · exact absurd e c0
    · exact absurd e c1
    · exact absurd e c2
    · exact absurd e c3
    · exact absurd e c4
theorem mw_at {h j : Nat} {W : zMem} {Q : Int32 → zMem → Prop} (hh : h < 5) (hj : j ≤ 5) (hQ : Q (W 6 (8 + 8 * h + j) + (if 2 ≤ j ∧ j ≤ 4 then -4 else 0)) W) : wp_Model_at 0 (nI h) (nI j) W Q := by
  unfold wp_Model_at
  have e : 96 * 0 + 8 + 8 * nI h + nI j = nI (8 + 8 * h + j) := by simp (disch := omega) only [q_lit, q_add, q_mul, q_sub, q_ix, q_in, q_lt, q_le, q_eq, q_nlt, q_nle, q_ltn, q_len, q_neq, q_eqn, zup_ne, zup_eq, zset_ne, zset_eq, upd_eq, upd_ne, forall_eq, true_and, and_true, true_implies, false_implies, implies_true, not_true_eq_false, not_false_eq_true, and_self, ↓reduceIte, false_and, and_false]
  rw [e, q_ix (by omega)]
  refine ⟨vp_in_nI (by omega) (by omega), ?_⟩
  refine mt_in (lo' := 2) (hi' := 4) rfl rfl (fun c1 c2 => ⟨fun q => absurd q (by decide), fun _ => ?_⟩) (fun c => ⟨fun _ => ?_, fun q => absurd rfl q⟩)
  · rw [if_pos ⟨(nI_leI (a := 2) (by omega) (by omega)).mp c1, (nI_leI (b := 4) (by omega) (by omega)).mp c2⟩] at hQ
    exact hQ
  · rw [if_neg (fun z => c ⟨(nI_leI (a := 2) (by omega) (by omega)).mpr z.1, (nI_leI (b := 4) (by omega) (by omega)).mpr z.2⟩)] at hQ
    exact hQ
theorem p_hand {n H L : Nat} {M W : zMem} {a1 a2 : Int32} {P : zMem → zMem → Prop} (vt : sp_vt M 1 n H L) (r : rt0 W M n H L) (st : pst W M n H L) (hP : ∀ W', W' 0 24 = 1 → pr W' M n H → awf W W' → P M W') : wp_Main_hand a1 a2 M (fun x M' => wp_Model_hand a1 a2 W (fun y W' => x = y ∧ P M' W')) := by
  obtain ⟨⟨n1, n8, H1, H5, L1, L6⟩, hn, hH, -⟩ := id vt
  have w1 : ∀ W', awf W W' → W' 4 1 = nI H := fun W' f => by rw [f.1 4 (by omega) (by omega) (by omega) (by omega)]; exact r.2.1
  refine xt_isHand hH (by omega) (fun h hh eh => ⟨fun _ => ⟨by rw [eh]; exact vp_in_nI (by omega) (by omega), ?_⟩, fun q => absurd q (by decide)⟩) (fun nh => ⟨fun q => absurd rfl q, fun _ => ?_⟩)
  · subst eh
    rw [q_ix (by omega)]
    have yes : ∀ j x, j ≤ 5 → (∀ W', mr_h W' M 0 18 h → x = W' 6 (8 + 8 * h + j) + (if 2 ≤ j ∧ j ≤ 4 then -4 else 0)) → wp_Model_hand (nI h) (nI j) W (fun y W' => x = y ∧ P M W') := fun j x hj hx => by
      refine mt_awake vt r st (fun W' h24 hp f => ?_)
      refine mt_isHand (w1 W' f) (by omega) (by omega) (fun _ _ _ => ⟨fun q => absurd q (by decide), fun _ => ?_⟩) (fun q => absurd ⟨h, hh, rfl⟩ q)
      refine mt_in (lo' := 0) (hi' := 5) rfl rfl (fun _ _ => ⟨fun q => absurd q (by decide), fun _ => ?_⟩) (fun q => absurd ⟨nI_pos' (by omega), (nI_leI (b := 5) (by omega) (by omega)).mpr hj⟩ q)
      exact mw_at (by omega) hj ⟨hx W' (hp.2.1 h hh), hP W' h24 hp f⟩
    have v5 : vp_in (nI h) 5 := vp_in_nI (by omega) (by omega)
    have go : ∀ s : Int32, (s = 0 ↔ M 21 h < 0) → wpJ_Main_hand_27 (nI h) a2 (fun x M' => wp_Model_hand (nI h) a2 W (fun y W' => x = y ∧ P M' W')) s M := by
      intro s hs x ex
      rw [q_ix (by omega)]
      have p3 : ∀ W', mr_h W' M 0 18 h → (M 21 h < 0 ∧ W' 6 (8 + 8 * h + 2) = 0 ∧ W' 6 (8 + 8 * h + 3) = 0 ∧ W' 6 (8 + 8 * h + 4) = 0) ∨ (¬ M 21 h < 0 ∧ W' 6 (8 + 8 * h + 2) + -4 = M 21 h ∧ W' 6 (8 + 8 * h + 3) + -4 = M 22 h ∧ W' 6 (8 + 8 * h + 4) + -4 = M 23 h) := by
        intro W' hm
        obtain ⟨-, -, -, hm⟩ := hm
        rw [show 96 * 0 + 8 + 8 * h = 8 + 8 * h by omega] at hm
        rcases hm with ⟨e1, e2, e3, e4⟩ | ⟨p, u, q, hp, hu, hq, e1, e2, e3, e4, e5, e6⟩
        · have e1' : M 21 h = -1 := e1
          exact Or.inl ⟨by rw [e1']; decide, e2, e3, e4⟩
        · have e1' : M 21 h = nI p := e1
          have e2' : M 22 h = nI u := e2
          have e3' : M 23 h = nI q := e3
          refine Or.inr ⟨by rw [e1']; exact nI_pos (by omega), ?_, ?_, ?_⟩
          · rw [e4, e1']; exact q_m4 p
          · rw [e5, e2']; exact q_m4 u
          · rw [e6, e3']; exact q_m4 q
      have pc : ∀ (j k : Nat), (j = 2 ∧ k = 21 ∨ j = 3 ∧ k = 22 ∨ j = 4 ∧ k = 23) → (s = 0 → wp_Model_hand (nI h) (nI j) W (fun y W' => -4 = y ∧ P M W')) ∧ (¬ s = 0 → vp_in (nI h) 5 ∧ wp_Model_hand (nI h) (nI j) W (fun y W' => M k h = y ∧ P M W')) := by
        intro j k hjk
        refine ⟨fun c => yes j _ (by omega) (fun W' hm => ?_), fun c => ⟨v5, yes j _ (by omega) (fun W' hm => ?_)⟩⟩
        · rw [if_pos (by omega)]
          rcases p3 W' hm with ⟨-, e2, e3, e4⟩ | ⟨q, -⟩
          · rcases hjk with ⟨rfl, -⟩ | ⟨rfl, -⟩ | ⟨rfl, -⟩
            · rw [e2]; rfl
            · rw [e3]; rfl
            · rw [e4]; rfl
          · exact absurd (hs.mp c) q
        · rw [if_pos (by omega)]
          rcases p3 W' hm with ⟨q, -⟩ | ⟨-, e2, e3, e4⟩
          · exact absurd (hs.mpr q) c
          · rcases hjk with ⟨rfl, rfl⟩ | ⟨rfl, rfl⟩ | ⟨rfl, rfl⟩
            · exact e2.symm
            · exact e3.symm
            · exact e4.symm
      refine ⟨fun c => ⟨v5, ?_⟩, fun c => ⟨v5, ?_⟩, fun c => ?_, fun c => ?_, fun c => ?_, fun c => ⟨v5, ?_⟩, fun c0 c1 c2 c3 c4 c5 => ?_⟩
      · rw [← ex, c]
        refine yes 0 _ (by omega) (fun W' hm => ?_)
        rw [if_neg (by omega), Int32.add_zero]
        have := hm.1
        rw [show 96 * 0 + 8 + 8 * h = 8 + 8 * h by omega] at this
        exact this.symm
      · rw [← ex, c]
        refine yes 1 _ (by omega) (fun W' hm => ?_)
        rw [if_neg (by omega), Int32.add_zero]
        have := hm.2.1
        rw [show 96 * 0 + 8 + 8 * h = 8 + 8 * h by omega] at this
        exact this.symm
      · rw [← ex, c]; exact pc 2 21 (by omega)
      · rw [← ex, c]; exact pc 3 22 (by omega)
      · rw [← ex, c]; exact pc 4 23 (by omega)
      · rw [← ex, c]
        refine yes 5 _ (by omega) (fun W' hm => ?_)
        rw [if_neg (by omega), Int32.add_zero]
        have := hm.2.2.1
        rw [show 96 * 0 + 8 + 8 * h = 8 + 8 * h by omega] at this
        exact this.symm
      · refine mt_awake vt r st (fun W' h24 hp f => ?_)
        refine mt_isHand (w1 W' f) (by omega) (by omega) (fun _ _ _ => ⟨fun q => absurd q (by decide), fun _ => ?_⟩) (fun q => absurd ⟨h, hh, rfl⟩ q)
        refine mt_in (lo' := 0) (hi' := 5) rfl rfl (fun q0 q => ?_) (fun _ => ⟨fun _ => ⟨rfl, hP W' h24 hp f⟩, fun q => absurd rfl q⟩)
        obtain ⟨j, hj, e⟩ := nI_of2 (M := 5) (n := 5) rfl (Int32.not_lt.mpr q0) q
        rw [← ex] at e
        rcases (show j = 0 ∨ j = 1 ∨ j = 2 ∨ j = 3 ∨ j = 4 ∨ j = 5 by omega) with rfl | rfl | rfl | rfl | rfl | rfl
        · exact absurd e c0
        · exact absurd e c1
        · exact absurd e c2
        · exact absurd e c3
        · exact absurd e c4
        · exact absurd e c5
    exact ⟨fun c => go 0 ⟨fun _ => c, fun _ => rfl⟩, fun c => go 1 ⟨fun q => absurd q (by decide), fun q => absurd q c⟩⟩
  · refine mt_awake vt r st (fun W' h24 hp f => ?_)
    exact mt_isHand (w1 W' f) (by omega) (by omega) (fun h a b => absurd ⟨h, a, b⟩ nh) (fun _ => ⟨fun _ => ⟨rfl, hP W' h24 hp f⟩, fun q => absurd rfl q⟩)
/-- a bench laid like another -/
def bdc (M : zMem) (t : Nat) (M' : zMem) (k : Nat) : Prop := (∀ j, 2 ≤ j → j ≤ 5 → M' k j = M t j) ∧ (∀ j, j < 2 → M' k j = M k j) ∧ (∀ i x, 1 ≤ i → i ≤ 6 → x < 5 → M' (k + i) x = M (t + i) x) ∧ (∀ x, x < 40 → M' (k + 7) x = M (t + 7) x) ∧ (∀ c, (c < k ∨ k + 8 ≤ c) → M' c = M c)
theorem xt_copyBench {k t : Nat} {M : zMem} {Q : zMem → Prop} (h : k + 8 < t ∨ t + 8 < k) (hQ : ∀ M', bdc M t M' k → Q M') : wp_Bench_copyFrom k t M Q := by
  unfold wp_Bench_copyFrom
  intro M1 e1 M2 e2 M3 e3 M4 e4
  have ht : t ≠ k := by omega
  have o4 : ∀ c, c ≠ k → M4 c = M c := fun c hc => by rw [e4, zup_ne hc, e3, zup_ne hc, e2, zup_ne hc, e1, zup_ne hc]
  have k4 : (∀ j, 2 ≤ j → j ≤ 5 → M4 k j = M t j) ∧ ∀ j, j < 2 → M4 k j = M k j := by
    have x1 : M1 t = M t := by rw [e1, zup_ne ht]
    have x2 : M2 t = M t := by rw [e2, zup_ne ht, x1]
    have x3 : M3 t = M t := by rw [e3, zup_ne ht, x2]
    rw [x1] at e2; rw [x2] at e3; rw [x3] at e4
    refine ⟨fun j h1 h2 => ?_, fun j hj => ?_⟩
    · rcases (show j = 2 ∨ j = 3 ∨ j = 4 ∨ j = 5 by omega) with rfl | rfl | rfl | rfl
      all_goals
        rw [e4, e3, e2, e1]
        simp (disch := omega) only [zup_eq, upd_ne, upd_eq]
    · rw [e4, e3, e2, e1]
      simp (disch := omega) only [zup_eq, upd_ne]
  clear e4 e3 e2 e1
  have c5 : zcpok 0 0 5 5 5 := zcpok_nI (sp := 0) (dp := 0) (n := 5) (by omega) (by omega) (by omega) (by omega)
  refine ⟨c5, fun M5 e5 => ⟨c5, fun M6 e6 => ⟨c5, fun M7 e7 => ⟨c5, fun M8 e8 => ⟨c5, fun M9 e9 => ⟨c5, fun Ma ea => ⟨zcpok_nI (sp := 0) (dp := 0) (n := 40) (by omega) (by omega) (by omega) (by omega), fun Mb eb => ?_⟩⟩⟩⟩⟩⟩⟩
  have ci : ∀ (X : zMem) (a b x : Nat), x < 5 → zcopyM X a b 0 0 5 b x = X a x := fun X a b x hx => by
    have := zcopy_in (M := X) (k0 := a) (k1 := b) (sp := 0) (dp := 0) (n := 5) (j := x) (by omega) (by omega) (by omega) (by omega) (by omega)
    rw [Nat.sub_zero, Nat.zero_add] at this
    exact this
  have y5 : ∀ c, c ≠ k + 1 → M5 c = M4 c := fun c q => by rw [e5, zcopy_ne q]
  have y6 : ∀ c, c ≠ k + 2 → M6 c = M5 c := fun c q => by rw [e6, zcopy_ne q]
  have y7 : ∀ c, c ≠ k + 3 → M7 c = M6 c := fun c q => by rw [e7, zcopy_ne q]
  have y8 : ∀ c, c ≠ k + 4 → M8 c = M7 c := fun c q => by rw [e8, zcopy_ne q]
  have y9 : ∀ c, c ≠ k + 5 → M9 c = M8 c := fun c q => by rw [e9, zcopy_ne q]
  have ya : ∀ c, c ≠ k + 6 → Ma c = M9 c := fun c q => by rw [ea, zcopy_ne q]
  have yb : ∀ c, c ≠ k + 7 → Mb c = Ma c := fun c q => by rw [eb, zcopy_ne q]
  refine hQ Mb ⟨fun j h1 h2 => ?_, fun j hj => ?_, fun i x h1 h2 hx => ?_, fun x hx => ?_, fun c hc => ?_⟩
  · rw [yb k (by omega), ya k (by omega), y9 k (by omega), y8 k (by omega), y7 k (by omega), y6 k (by omega), y5 k (by omega)]; exact k4.1 j h1 h2
  · rw [yb k (by omega), ya k (by omega), y9 k (by omega), y8 k (by omega), y7 k (by omega), y6 k (by omega), y5 k (by omega)]; exact k4.2 j hj
  · rcases (show i = 1 ∨ i = 2 ∨ i = 3 ∨ i = 4 ∨ i = 5 ∨ i = 6 by omega) with rfl | rfl | rfl | rfl | rfl | rfl
    · rw [yb _ (by omega), ya _ (by omega), y9 _ (by omega), y8 _ (by omega), y7 _ (by omega), y6 _ (by omega), e5, ci _ _ _ x hx, o4 _ (by omega)]
    · rw [yb _ (by omega), ya _ (by omega), y9 _ (by omega), y8 _ (by omega), y7 _ (by omega), e6, ci _ _ _ x hx, y5 _ (by omega), o4 _ (by omega)]
    · rw [yb _ (by omega), ya _ (by omega), y9 _ (by omega), y8 _ (by omega), e7, ci _ _ _ x hx, y6 _ (by omega), y5 _ (by omega), o4 _ (by omega)]
    · rw [yb _ (by omega), ya _ (by omega), y9 _ (by omega), e8, ci _ _ _ x hx, y7 _ (by omega), y6 _ (by omega), y5 _ (by omega), o4 _ (by omega)]
    · rw [yb _ (by omega), ya _ (by omega), e9, ci _ _ _ x hx, y8 _ (by omega), y7 _ (by omega), y6 _ (by omega), y5 _ (by omega), o4 _ (by omega)]
    · rw [yb _ (by omega), ea, ci _ _ _ x hx, y9 _ (by omega), y8 _ (by omega), y7 _ (by omega), y6 _ (by omega), y5 _ (by omega), o4 _ (by omega)]
  · rw [eb]
    have := zcopy_in (M := Ma) (k0 := t + 7) (k1 := k + 7) (sp := 0) (dp := 0) (n := 40) (j := x) (by omega) (by omega) (by omega) (by omega) (by omega)
    refine Eq.trans this ?_
    rw [Nat.sub_zero, Nat.zero_add, ya _ (by omega), y9 _ (by omega), y8 _ (by omega), y7 _ (by omega), y6 _ (by omega), y5 _ (by omega), o4 _ (by omega)]
  · rw [yb _ (by omega), ya _ (by omega), y9 _ (by omega), y8 _ (by omega), y7 _ (by omega), y6 _ (by omega), y5 _ (by omega), o4 _ (by omega)]
theorem xt_forget {M : zMem} {Q : zMem → Prop} (hQ : ∀ M', (∀ q, q < 120 → M' 58 q = 0) → (∀ k, k ≠ 58 → M' k = M k) → Q M') : wp_Orders_forget 56 M Q := by
  unfold wp_Orders_forget
  exact zfill_r (c := 58) (N := 120) (v := 0) (by omega) (fun M' a1 a2 a3 => hQ M' a1 a3)
/-- what is kept: the flags, and the image of each -/
theorem mw_keep18 {i : Nat} {W : zMem} {K : zMem → Prop} {Q : Int32 → zMem → Prop} (hi : i < 2) (hK : ∀ W', (∀ j, j < 96 → W' 6 (96 * (2 + i) + j) = W 6 j) → (∀ j, (j < 96 * (2 + i) ∨ 96 * (2 + i) + 96 ≤ j) → W' 6 j = W 6 j) → (∀ k, k ≠ 6 → W' k = W k) → K W') : ∃ n, zlp1 (wpB_Model_keep_18 (nI i) K Q) n 0 W := by
  refine zlp1_r (fun m x W' => ∃ h, x = nI h ∧ h ≤ 96 ∧ m = 96 - h ∧ (∀ j, j < h → W' 6 (96 * (2 + i) + j) = W 6 j) ∧ (∀ j, (j < 96 * (2 + i) ∨ 96 * (2 + i) + 96 ≤ j) → W' 6 j = W 6 j) ∧ (∀ k, k ≠ 6 → W' k = W k)) ?_ (n := 96) ⟨0, rfl, by omega, rfl, fun i hi => absurd hi (by omega), fun _ _ => rfl, fun _ _ => rfl⟩
  rintro m x W' ⟨h, rfl, hh, rfl, i1, i2, i3⟩ J hJ
  refine ⟨fun c => ?_, fun c => ?_⟩
  · have := (nI_leI (a := 96) (by omega) (by omega)).mp c
    have e : h = 96 := by omega
    subst e
    exact hK W' i1 i2 i3
  · have hh2 : h < 96 := (nI_ltI (b := 96) (by omega) (by omega)).mp (Int32.not_le.mp c)
    have e2 : 96 * (2 + nI i) + nI h = nI (96 * (2 + i) + h) := by simp (disch := omega) only [q_lit, q_add, q_mul, q_sub, q_ix, q_in, q_lt, q_le, q_eq, q_nlt, q_nle, q_ltn, q_len, q_neq, q_eqn, zup_ne, zup_eq, zset_ne, zset_eq, upd_eq, upd_ne, forall_eq, true_and, and_true, true_implies, false_implies, implies_true, not_true_eq_false, not_false_eq_true, and_self, ↓reduceIte, false_and, and_false]
    rw [e2, q_ix (by omega), q_ix (by omega)]
    refine ⟨vp_in_nI (by omega) (by omega), vp_in_nI (by omega) (by omega), fun W2 e2 y ey => ?_⟩
    rw [ey, nI_1]
    refine hJ (96 - (h + 1)) _ _ (by omega) ⟨h + 1, rfl, by omega, rfl, fun j hj => ?_, fun j hj => ?_, fun d hd => by rw [e2, zup_ne hd]; exact i3 d hd⟩
    · rw [e2, zup_eq]
      by_cases z : j = h
      · rw [z, upd_eq]; exact i2 h (by omega)
      · rw [upd_ne (by omega)]; exact i1 j (by omega)
    · rw [e2, zup_eq, upd_ne (by omega)]; exact i2 j hj
theorem mw_back26 {i : Nat} {W : zMem} {Q : Int32 → zMem → Prop} (hi : i < 2) (hK : ∀ W', (∀ j, j < 96 → W' 6 j = W 6 (96 * (2 + i) + j)) → (∀ j, 96 ≤ j → W' 6 j = W 6 j) → (∀ k, k ≠ 6 → W' k = W k) → Q (W' 6 0) W') : ∃ n, zlp1 (wpB_Model_back_26 (nI i) Q) n 0 W := by
  refine zlp1_r (fun m x W' => ∃ h, x = nI h ∧ h ≤ 96 ∧ m = 96 - h ∧ (∀ j, j < h → W' 6 j = W 6 (96 * (2 + i) + j)) ∧ (∀ j, 96 ≤ j → W' 6 j = W 6 j) ∧ (∀ k, k ≠ 6 → W' k = W k)) ?_ (n := 96) ⟨0, rfl, by omega, rfl, fun i hi => absurd hi (by omega), fun _ _ => rfl, fun _ _ => rfl⟩
  rintro m x W' ⟨h, rfl, hh, rfl, i1, i2, i3⟩ J hJ
  refine ⟨fun c => ?_, fun c => ?_⟩
  · have := (nI_leI (a := 96) (by omega) (by omega)).mp c
    have e : h = 96 := by omega
    subst e
    exact mw_of (j := 0) (by omega) (hK W' i1 i2 i3)
  · have hh2 : h < 96 := (nI_ltI (b := 96) (by omega) (by omega)).mp (Int32.not_le.mp c)
    have e2 : 96 * (2 + nI i) + nI h = nI (96 * (2 + i) + h) := by simp (disch := omega) only [q_lit, q_add, q_mul, q_sub, q_ix, q_in, q_lt, q_le, q_eq, q_nlt, q_nle, q_ltn, q_len, q_neq, q_eqn, zup_ne, zup_eq, zset_ne, zset_eq, upd_eq, upd_ne, forall_eq, true_and, and_true, true_implies, false_implies, implies_true, not_true_eq_false, not_false_eq_true, and_self, ↓reduceIte, false_and, and_false]
    rw [e2, q_ix (by omega), q_ix (by omega)]
    refine ⟨vp_in_nI (by omega) (by omega), vp_in_nI (by omega) (by omega), fun W2 e2 y ey => ?_⟩
    rw [ey, nI_1]
    refine hJ (96 - (h + 1)) _ _ (by omega) ⟨h + 1, rfl, by omega, rfl, fun j hj => ?_, fun j hj => ?_, fun d hd => by rw [e2, zup_ne hd]; exact i3 d hd⟩
    · rw [e2, zup_eq]
      by_cases z : j = h
      · rw [z, upd_eq]; exact i2 _ (by omega)
      · rw [upd_ne (by omega)]; exact i1 j (by omega)
    · rw [e2, zup_eq, upd_ne (by omega)]; exact i2 j hj
theorem p_keep {n H L : Nat} {M W : zMem} {a : Int32} {P : zMem → zMem → Prop} (vt : sp_vt M 1 n H L) (r : rt0 W M n H L) (st : pst W M n H L) (e28 : ∀ i, i < 2 → M 28 i = W 7 i) (hP0 : P M W)
    (hP : ∀ i M' W1 W', i < 2 → bdc M 18 M' (63 + 9 * i) → W1 0 24 = 1 → pr W1 M n H → awf W W1 → (∀ j, j < 96 → W' 6 (96 * (2 + i) + j) = W1 6 j) → (∀ j, (j < 96 * (2 + i) ∨ 96 * (2 + i) + 96 ≤ j) → W' 6 j = W1 6 j) → (∀ k, k ≠ 6 → W' k = W1 k) → P (zup M' 28 i 1) (zup W' 7 i 1)) : wp_Main_keep a M (fun x M' => wp_Model_keep a W (fun y W' => x = y ∧ P M' W')) := by
  have no : ¬ (0 ≤ a ∧ a ≤ 1) → wp_Model_keep a W (fun y W' => -1 = y ∧ P M W') := fun q => mt_in (lo' := 0) (hi' := 1) rfl rfl (fun x y => absurd ⟨x, y⟩ q) (fun _ => ⟨fun q => absurd rfl q, fun _ => ⟨rfl, hP0⟩⟩)
  refine ⟨fun c => no (fun q => absurd c (Int32.not_lt.mpr q.1)), fun c => ⟨fun c2 => ?_, fun c2 => no (fun q => c2 (Int32.lt_of_le_of_lt q.2 (by decide)))⟩⟩
  obtain ⟨i, hi0, rfl⟩ := nI_of c
  have hi : i < 2 := (nI_ltI (b := 2) (by omega) (by omega)).mp c2
  rw [q_ix (by omega)]
  have v2 : vp_in (nI i) 2 := vp_in_nI (by omega) (by omega)
  refine ⟨v2, fun x ex => ⟨v2, ?_⟩⟩
  refine xt_copyBench (by omega) (fun M1 b1 => ⟨v2, fun M2 e2 => ?_⟩)
  have key : ∀ y : Int32, (y = 0 ∧ x = 0 ∨ y = 1 ∧ x ≠ 0) → wp_Model_keep (nI i) W (fun z W' => y = z ∧ P M2 W') := by
    intro y hy
    refine mt_in (lo' := 0) (hi' := 1) rfl rfl (fun _ _ => ⟨fun _ => ?_, fun q => absurd q (by decide)⟩) (fun q => absurd ⟨nI_pos' (by omega), (nI_leI (b := 1) (by omega) (by omega)).mpr (by omega)⟩ q)
    refine mt_awake vt r st (fun W1 h24 hp f => ?_)
    refine mw_keep18 hi (fun W2 k1 k2 k3 => ?_)
    rw [q_ix (by omega)]
    have e7 : W2 7 i = x := by rw [k3 7 (by omega), f.1 7 (by omega) (by omega) (by omega) (by omega), ex, e28 i hi]
    have pp : ∀ W3, W3 = zup W2 7 i (vp_nar .boolean 1) → P M2 W3 := fun W3 e3 => by
      rw [e2, e3]
      exact hP i M1 W1 W2 hi b1 h24 hp f k1 k2 k3
    refine ⟨v2, fun q => ⟨v2, fun W3 e3 => ⟨?_, pp W3 e3⟩⟩, fun q => ⟨v2, fun W3 e3 => ⟨?_, pp W3 e3⟩⟩⟩
    · rcases hy with ⟨h1, -⟩ | ⟨-, h2⟩
      · exact h1
      · exact absurd (e7.symm.trans q) h2
    · rcases hy with ⟨-, h2⟩ | ⟨h1, -⟩
      · exact absurd (e7.trans h2) q
      · exact h1
  exact ⟨fun q => key 0 (Or.inl ⟨rfl, q⟩), fun q => key 1 (Or.inr ⟨rfl, q⟩)⟩
/-- back, where what is kept is known to be laid alike -/
theorem p_back {M W : zMem} {a : Int32} {P : zMem → zMem → Prop} (e28 : ∀ i, i < 2 → M 28 i = W 7 i) (hP0 : P M W)
    (hP : ∀ i M' W', i < 2 → M 28 i ≠ 0 → bdc M (63 + 9 * i) M' 18 → (∀ j, j < 96 → W' 6 j = W 6 (96 * (2 + i) + j)) → (∀ j, 96 ≤ j → W' 6 j = W 6 j) → (∀ k, k ≠ 6 → W' k = W k) → M' 18 2 = W' 6 0 ∧ P M' W') : wp_Main_back a M (fun x M' => wp_Model_back a W (fun y W' => x = y ∧ P M' W')) := by
  have no : ¬ (0 ≤ a ∧ a ≤ 1) → wp_Model_back a W (fun y W' => -1 = y ∧ P M W') := fun q => mt_in (lo' := 0) (hi' := 1) rfl rfl (fun x y => absurd ⟨x, y⟩ q) (fun _ => ⟨fun q => absurd rfl q, fun _ => ⟨rfl, hP0⟩⟩)
  refine ⟨fun c => no (fun q => absurd c (Int32.not_lt.mpr q.1)), fun c => ⟨fun c2 => ?_, fun c2 => no (fun q => c2 (Int32.lt_of_le_of_lt q.2 (by decide)))⟩⟩
  obtain ⟨i, hi0, rfl⟩ := nI_of c
  have hi : i < 2 := (nI_ltI (b := 2) (by omega) (by omega)).mp c2
  rw [q_ix (by omega)]
  have v2 : vp_in (nI i) 2 := vp_in_nI (by omega) (by omega)
  have way : ∀ Q : Int32 → zMem → Prop, (¬ W 7 i = 0 → ∃ n : Nat, zlp1 (wpB_Model_back_26 (nI i) Q) n 0 W) → (W 7 i = 0 → Q (-2) W) → wp_Model_back (nI i) W Q := fun Q h1 h2 => by
    refine mt_in (lo' := 0) (hi' := 1) rfl rfl (fun _ _ => ⟨fun _ => ⟨v2, ?_⟩, fun q => absurd q (by decide)⟩) (fun q => absurd ⟨nI_pos' (by omega), (nI_leI (b := 1) (by omega) (by omega)).mpr (by omega)⟩ q)
    rw [q_ix (by omega)]
    exact ⟨h1, h2⟩
  refine ⟨v2, fun q => ⟨v2, ?_⟩, fun q => ?_⟩
  · refine xt_copyBench (by omega) (fun M1 b1 => ?_)
    refine way _ (fun _ => mw_back26 hi (fun W1 k1 k2 k3 => hP i M1 W1 hi q b1 k1 k2 k3)) (fun z => absurd ((e28 i hi).trans z) q)
  · exact way _ (fun z => absurd ((e28 i hi).symm.trans q) z) (fun _ => ⟨rfl, hP0⟩)
theorem p_setPace {n H L : Nat} {M W : zMem} {a1 a2 a3 : Int32} {P : zMem → zMem → Prop} (vt : sp_vt M 1 n H L) (r : rt0 W M n H L) (st : pst W M n H L) (hP0 : P M W)
    (hP : ∀ h p c M' W1, h < H → p < n → 1 ≤ c → c ≤ 9 → M' 4 = upd (M 4) (h * 8 + p) (nI c) → M' 29 2 = 0 → M' 54 0 = 0 → M' 60 0 = 0 → (∀ q, q < 120 → M' 58 q = 0) → (∀ k, k ≠ 4 → k ≠ 29 → k ≠ 54 → k ≠ 58 → k ≠ 60 → M' k = M k) → W1 0 24 = 1 → pr W1 M n H → awf W W1 → P M' (zup W1 4 (60 + 8 * h + p) (nI c))) : wp_Main_setPace a1 a2 a3 M (fun x M' => wp_Model_setPace a1 a2 a3 W (fun y W' => x = y ∧ P M' W')) := by
  obtain ⟨⟨n1, n8, H1, H5, L1, L6⟩, hn, hH, -⟩ := id vt
  have no : ¬ ((∃ h, h < H ∧ a1 = nI h) ∧ ∃ p, p < n ∧ a2 = nI p) → wp_Model_setPace a1 a2 a3 W (fun y W' => -1 = y ∧ P M W') := fun q => by
    unfold wp_Model_setPace
    exact mt_nhp (Q := fun y W' => -1 = y ∧ P M W') vt r q ⟨rfl, hP0⟩
  refine xt_isHand hH (by omega) (fun h hh eh => ⟨fun q => absurd q (by decide), fun _ => ?_⟩) (fun nh => ⟨fun _ => no (fun q => nh q.1), fun q => absurd rfl q⟩)
  refine xt_isPiece hn (by omega) (fun p hp ep => ⟨fun q => absurd q (by decide), fun _ => ?_⟩) (fun np => ⟨fun _ => no (fun q => np q.2), fun q => absurd rfl q⟩)
  subst eh; subst ep
  have e1 : nI h * 8 + nI p = nI (h * 8 + p) := by rw [show (8 : Int32) = nI 8 from rfl, q_mul, q_add]
  have e2 : 60 + 8 * nI h + nI p = nI (60 + 8 * h + p) := by simp (disch := omega) only [q_lit, q_add, q_mul, q_sub, q_ix, q_in, q_lt, q_le, q_eq, q_nlt, q_nle, q_ltn, q_len, q_neq, q_eqn, zup_ne, zup_eq, zset_ne, zset_eq, upd_eq, upd_ne, forall_eq, true_and, and_true, true_implies, false_implies, implies_true, not_true_eq_false, not_false_eq_true, and_self, ↓reduceIte, false_and, and_false]
  have bad : ¬ (1 ≤ a3 ∧ a3 ≤ 9) → wp_Model_setPace (nI h) (nI p) a3 W (fun y W' => -1 = y ∧ P M W') := fun q => by
    unfold wp_Model_setPace
    refine mt_hp (Q := fun y W' => -1 = y ∧ P M W') vt r hh hp ?_
    exact mt_in (lo' := 1) (hi' := 9) rfl rfl (fun x y => absurd ⟨x, y⟩ q) (fun _ => ⟨fun z => absurd rfl z, fun _ => ⟨rfl, hP0⟩⟩)
  unfold wp_Main_isPace
  refine ⟨fun c => ⟨fun q => absurd rfl q, fun _ => bad (fun q => absurd c (Int32.not_lt.mpr q.1))⟩, fun c => ⟨fun c2 => ⟨fun q => absurd rfl q, fun _ => bad (fun q => absurd c2 (Int32.not_lt.mpr q.2))⟩, fun c2 => ⟨fun _ => ?_, fun q => absurd q (by decide)⟩⟩⟩
  have c1' := Int32.not_lt.mp c
  have c2' := Int32.not_lt.mp c2
  obtain ⟨c0, hc9, rfl⟩ := nI_of2 (x := a3) (M := 9) (n := 9) rfl (fun q => absurd (Int32.lt_of_lt_of_le q (by decide : (0 : Int32) ≤ 1)) c) c2'
  have hc1 := (nI_leI (a := 1) (by omega) (by omega)).mp c1'
  unfold wp_Told_paceOf
  rw [e1, q_ix (by omega)]
  refine ⟨vp_in_nI (by omega) (by omega), vp_in_nI (by omega) (by omega), fun M1 f1 => ?_⟩
  unfold wp_Main_forgetAnswers
  intro M2 f2 M3 f3 M4 f4
  refine xt_forget (fun M5 g1 g2 => ?_)
  show wp_Model_setPace (nI h) (nI p) (nI c0) W (fun y W' => M 4 (h * 8 + p) = y ∧ P M5 W')
  unfold wp_Model_setPace
  refine mt_hp (Q := fun y W' => M 4 (h * 8 + p) = y ∧ P M5 W') vt r hh hp ?_
  refine mt_in (lo' := 1) (hi' := 9) rfl rfl (fun _ _ => ⟨fun _ => ?_, fun q => absurd q (by decide)⟩) (fun q => absurd ⟨c1', c2'⟩ q)
  refine mt_awake vt r st (fun W1 h24 hpr f => ?_)
  rw [e2, q_ix (by omega)]
  refine ⟨vp_in_nI (by omega) (by omega), fun x ex => ⟨vp_in_nI (by omega) (by omega), fun W2 w2 => ⟨?_, ?_⟩⟩⟩
  · rw [ex, f.1 4 (by omega) (by omega) (by omega) (by omega)]
    exact (r.2.2.2.2.2.2.2.2.2.1 h p hh hp).symm
  · rw [w2]
    refine hP h p c0 M5 W1 hh hp hc1 hc9 ?_ ?_ ?_ ?_ g1 (fun k k4 k29 k54 k58 k60 => ?_) h24 hpr f
    · rw [g2 4 (by omega), f4, zup_ne (by omega), f3, zup_ne (by omega), f2, zup_ne (by omega), f1, zup_eq]
    · rw [g2 29 (by omega), f4, zup_ne (by omega), f3, zup_ne (by omega), f2, zup_eq, upd_eq]
    · rw [g2 54 (by omega), f4, zup_ne (by omega), f3, zup_eq, upd_eq]
    · rw [g2 60 (by omega), f4, zup_eq, upd_eq]
    · rw [g2 k k58, f4, zup_ne k60, f3, zup_ne k54, f2, zup_ne k29, f1, zup_ne k4]
theorem p_count {n H L : Nat} {M W : zMem} {a : Int32} {P : zMem → zMem → Prop} (vt : sp_vt M 1 n H L) (r : rt0 W M n H L) (e28 : ∀ i, i < 2 → M 28 i = W 7 i) (e5 : M 11 5 = W 0 1) (es : (M 81 0 = -1 ∧ W 16 0 = -4) ∨ (M 81 0 ≠ -1 ∧ W 16 0 ≠ -4 ∧ M 81 1 = W 17 0)) (hP : P M W) : wp_Main_count a M (fun x M' => wp_Model_count a W (fun y W' => x = y ∧ P M' W')) := by
  obtain ⟨⟨n1, n8, H1, H5, L1, L6⟩, hn, hH, -⟩ := id vt
  have v0 : vp_in 0 2 := vp_in_nI (n := 0) (by omega) (by omega)
  have v1 : vp_in 1 2 := vp_in_nI (n := 1) (by omega) (by omega)
  have u0 : vp_in 0 4 := vp_in_nI (n := 0) (by omega) (by omega)
  have j0 : ix 0 = 0 := rfl
  have j1 : ix 1 = 1 := rfl
  have w0 := e28 0 (by omega)
  have w1 := e28 1 (by omega)
  have way : ∀ (K : Int32 → zMem → Prop) (x : Int32), x = a → ((x = 0 → (W 7 0 = 0 → (W 7 1 = 0 → K (0 + 0) W) ∧ (¬ W 7 1 = 0 → K (0 + 1) W)) ∧ (¬ W 7 0 = 0 → (W 7 1 = 0 → K (1 + 0) W) ∧ (¬ W 7 1 = 0 → K (1 + 1) W))) ∧ (x = 1 → K (W 0 1) W) ∧ (x = 2 → (¬ W 16 0 = -4 → K (W 17 0) W) ∧ (W 16 0 = -4 → K (-4) W)) ∧ (x = 3 → K (nI (so_f H)) W) ∧ (¬ x = 0 → ¬ x = 1 → ¬ x = 2 → ¬ x = 3 → K (-1) W)) → wp_Model_count a W K := by
    intro K x ex h
    intro y ey
    rw [← ex] at ey
    subst ey
    obtain ⟨h0, h1, h2, h3, h4⟩ := h
    rw [j0, j1]
    exact ⟨fun c => ⟨v0, fun d => ⟨v1, fun e => ((h0 c).1 d).1 e, fun e => ((h0 c).1 d).2 e⟩, fun d => ⟨v1, fun e => ((h0 c).2 d).1 e, fun e => ((h0 c).2 d).2 e⟩⟩, h1, fun c => ⟨u0, fun d => ⟨u0, (h2 c).1 d⟩, fun d => (h2 c).2 d⟩, fun c => mt_orders r.2.1 H1 H5 (h3 c), h4⟩
  have lit : ∀ {u v : Int32}, (u = v → False) → ∀ {Z : Prop}, u = v → Z := fun h _ e => absurd e h
  intro x ex
  rw [j0, j1]
  refine ⟨fun c => ⟨v0, fun d => ⟨v1, fun e => ?_, fun e => ?_⟩, fun d => ⟨v1, fun e => ?_, fun e => ?_⟩⟩, fun c => ?_, fun c => ⟨u0, fun d => ⟨u0, ?_⟩, fun d => ?_⟩, fun c => ?_, fun c0 c1 c2 c3 => ?_⟩
  · refine way _ x ex ⟨fun _ => ⟨fun _ => ⟨fun _ => ⟨rfl, hP⟩, fun q => absurd (w1.symm.trans e) q⟩, fun q => absurd (w0.symm.trans d) q⟩, ?_, ?_, ?_, fun q => absurd c q⟩ <;> (intro q; rw [c] at q; exact absurd q (by decide))
  · refine way _ x ex ⟨fun _ => ⟨fun _ => ⟨fun q => absurd (w1.trans q) e, fun _ => ⟨rfl, hP⟩⟩, fun q => absurd (w0.symm.trans d) q⟩, ?_, ?_, ?_, fun q => absurd c q⟩ <;> (intro q; rw [c] at q; exact absurd q (by decide))
  · refine way _ x ex ⟨fun _ => ⟨fun q => absurd (w0.trans q) d, fun _ => ⟨fun _ => ⟨rfl, hP⟩, fun q => absurd (w1.symm.trans e) q⟩⟩, ?_, ?_, ?_, fun q => absurd c q⟩ <;> (intro q; rw [c] at q; exact absurd q (by decide))
  · refine way _ x ex ⟨fun _ => ⟨fun q => absurd (w0.trans q) d, fun _ => ⟨fun q => absurd (w1.trans q) e, fun _ => ⟨rfl, hP⟩⟩⟩, ?_, ?_, ?_, fun q => absurd c q⟩ <;> (intro q; rw [c] at q; exact absurd q (by decide))
  · refine way _ x ex ⟨?_, fun _ => ⟨e5, hP⟩, ?_, ?_, fun _ q => absurd c q⟩ <;> (intro q; rw [c] at q; exact absurd q (by decide))
  · refine way _ x ex ⟨?_, ?_, fun _ => ?_, ?_, fun _ _ q => absurd c q⟩
    · intro q; rw [c] at q; exact absurd q (by decide)
    · intro q; rw [c] at q; exact absurd q (by decide)
    · rcases es with ⟨q, -⟩ | ⟨-, q, e⟩
      · exact absurd q d
      · exact ⟨fun _ => ⟨e, hP⟩, fun z => absurd z q⟩
    · intro q; rw [c] at q; exact absurd q (by decide)
  · refine way _ x ex ⟨?_, ?_, fun _ => ?_, ?_, fun _ _ q => absurd c q⟩
    · intro q; rw [c] at q; exact absurd q (by decide)
    · intro q; rw [c] at q; exact absurd q (by decide)
    · rcases es with ⟨-, q⟩ | ⟨q, -⟩
      · exact ⟨fun z => absurd q z, fun _ => ⟨rfl, hP⟩⟩
      · exact absurd d q
    · intro q; rw [c] at q; exact absurd q (by decide)
  · rw [hH]
    refine xt_orders H1 H5 (way _ x ex ⟨?_, ?_, ?_, fun _ => ⟨rfl, hP⟩, fun _ _ _ q => absurd c q⟩) <;> (intro q; rw [c] at q; exact absurd q (by decide))
  · exact way _ x ex ⟨fun q => absurd q c0, fun q => absurd q c1, fun q => absurd q c2, fun q => absurd q c3, fun _ _ _ _ => ⟨rfl, hP⟩⟩
theorem xt_isSheet {a : Int32} {M : zMem} {Q : Int32 → zMem → Prop} (ht : ∀ i, i < 4 → a = nI i → Q 1 M) (hf : ¬ (0 ≤ a ∧ a ≤ 3) → Q 0 M) : wp_Main_isSheet a M Q := by
  refine ⟨fun c => hf (fun q => absurd c (Int32.not_lt.mpr q.1)), fun c => ⟨fun c2 => hf (fun q => ?_), fun c2 => ?_⟩⟩
  · exact absurd (Int32.le_trans c2 q.2) (by decide)
  · obtain ⟨i, hi, rfl⟩ := nI_of c
    exact ht i ((nI_ltI (b := 4) (by omega) (by omega)).mp (Int32.not_le.mp c2)) rfl
theorem xt_isLane {a : Int32} {M : zMem} {Q : Int32 → zMem → Prop} (ht : ∀ i, i < 3 → a = nI i → Q 1 M) (hf : ¬ (0 ≤ a ∧ a ≤ 2) → Q 0 M) : wp_Main_isLane a M Q := by
  refine ⟨fun c => hf (fun q => absurd c (Int32.not_lt.mpr q.1)), fun c => ⟨fun c2 => hf (fun q => ?_), fun c2 => ?_⟩⟩
  · exact absurd (Int32.le_trans c2 q.2) (by decide)
  · obtain ⟨i, hi, rfl⟩ := nI_of c
    exact ht i ((nI_ltI (b := 3) (by omega) (by omega)).mp (Int32.not_le.mp c2)) rfl
theorem in_yes {i hi : Nat} {W : zMem} {Q : Int32 → zMem → Prop} {hi' : Int64} (e : hi' = (nI hi).toInt64) (h : i ≤ hi) (hb : hi < 2147483648) (hQ : Q 1 W) : wp_Model_in (nI i).toInt64 0 hi' W Q := mt_in (lo' := 0) (hi' := nI hi) rfl e (fun _ _ => hQ) (fun q => absurd ⟨nI_pos' (by omega), (nI_leI (by omega) (by omega)).mpr h⟩ q)
theorem in_no {a : Int32} {hi : Nat} {W : zMem} {Q : Int32 → zMem → Prop} {hi' : Int64} (e : hi' = (nI hi).toInt64) (h : ¬ (0 ≤ a ∧ a ≤ nI hi)) (hQ : Q 0 W) : wp_Model_in a.toInt64 0 hi' W Q := mt_in (lo' := 0) (hi' := nI hi) rfl e (fun x y => absurd ⟨x, y⟩ h) (fun _ => hQ)
theorem p_sheet {M W : zMem} {a1 a2 a3 : Int32} {P : zMem → zMem → Prop} (hP0 : P M W)
    (hP : ∀ i l z M' W', i < 4 → l < 3 → z ≤ 40 → M' (81 + 2 * i) = upd (upd (M (81 + 2 * i)) 0 (nI l)) 1 (nI z) → (∀ j, j < 40 → M' (81 + 2 * i + 1) j = 0) → (∀ k, k ≠ 81 + 2 * i → k ≠ 81 + 2 * i + 1 → M' k = M k) → W' 16 = upd (W 16) i (nI l) → W' 17 = upd (W 17) i (nI z) → (∀ j, j < 40 → W' 18 (40 * i + j) = 0) → (∀ j, (j < 40 * i ∨ 40 * i + 40 ≤ j) → W' 18 j = W 18 j) → (∀ k, k ≠ 16 → k ≠ 17 → k ≠ 18 → W' k = W k) → P M' W') : wp_Main_sheet a1 a2 a3 M (fun x M' => wp_Model_sheet a1 a2 a3 W (fun y W' => x = y ∧ P M' W')) := by
  refine xt_isSheet (fun i hi ei => ⟨fun q => absurd q (by decide), fun _ => ?_⟩) (fun nh => ⟨fun _ => in_no (hi := 3) rfl nh ⟨fun _ => ⟨rfl, hP0⟩, fun q => absurd rfl q⟩, fun q => absurd rfl q⟩)
  subst ei
  refine xt_isLane (fun l hl el => ⟨fun q => absurd q (by decide), fun _ => ?_⟩) (fun nh => ⟨fun _ => in_yes (hi := 3) rfl (by omega) (by omega) ⟨fun q => absurd q (by decide), fun _ => in_no (hi := 2) rfl nh ⟨fun _ => ⟨rfl, hP0⟩, fun q => absurd rfl q⟩⟩, fun q => absurd rfl q⟩)
  subst el
  have way : ∀ K : Int32 → zMem → Prop, ((a3 ≤ 40 → (0 ≤ a3 → vp_in (nI i) 4 ∧ ∀ zm5 : zMem, zm5 = zup W 16 (ix (nI i)) (nI l) → vp_in (nI i) 4 ∧ ∀ zm6 : zMem, zm6 = zup zm5 17 (ix (nI i)) a3 → ∃ n : Nat, zlp1 (wpB_Model_sheet_56 (nI i) (nI l) a3 K) n 0 zm6) ∧ (¬ 0 ≤ a3 → K (-14) W)) ∧ (¬ a3 ≤ 40 → K (-1) W)) → wp_Model_sheet (nI i) (nI l) a3 W K := fun K h => in_yes (hi := 3) rfl (by omega) (by omega) ⟨fun q => absurd q (by decide), fun _ => in_yes (hi := 2) rfl (by omega) (by omega) ⟨fun q => absurd q (by decide), fun _ => h⟩⟩
  refine ⟨fun c => ⟨fun c2 => ?_, fun c2 => way _ ⟨fun _ => ⟨fun q => absurd q c2, fun _ => ⟨rfl, hP0⟩⟩, fun q => absurd c q⟩⟩, fun c => way _ ⟨fun q => absurd q c, fun _ => ⟨rfl, hP0⟩⟩⟩
  obtain ⟨z, hz, rfl⟩ := nI_of2 (x := a3) (M := 40) (n := 40) rfl (Int32.not_lt.mpr c2) c
  rw [q_ix (by omega)]
  refine ⟨vp_in_nI (by omega) (by omega), ?_⟩
  unfold wp_Sheet_makeNew
  intro M1 e1 M2 e2
  refine zfill_r (c := 81 + 2 * i + 1) (N := 40) (v := 0) (by omega) (fun M3 f1 f2 f3 => ?_)
  refine way _ ⟨fun _ => ⟨fun _ => ⟨vp_in_nI (by omega) (by omega), fun W1 w1 => ⟨vp_in_nI (by omega) (by omega), fun W2 w2 => ?_⟩⟩, fun q => absurd c2 q⟩, fun q => absurd c q⟩
  rw [q_ix (by omega)] at w1 w2
  refine zlp1_r (fun m x W' => ∃ h, x = nI h ∧ h ≤ 40 ∧ m = 40 - h ∧ (∀ j, j < h → W' 18 (40 * i + j) = 0) ∧ (∀ j, (j < 40 * i ∨ 40 * i + 40 ≤ j) → W' 18 j = W2 18 j) ∧ (∀ k, k ≠ 18 → W' k = W2 k)) ?_ (n := 40) ⟨0, rfl, by omega, rfl, fun i hi => absurd hi (by omega), fun _ _ => rfl, fun _ _ => rfl⟩
  rintro m x W' ⟨h, rfl, hh, rfl, i1, i2, i3⟩ J hJ
  refine ⟨fun c => ⟨rfl, ?_⟩, fun c => ?_⟩
  · have := (nI_leI (a := 40) (by omega) (by omega)).mp c
    have e : h = 40 := by omega
    subst e
    refine hP i l z M3 W' hi hl hz ?_ f1 (fun k k1 k2 => ?_) ?_ ?_ i1 (fun j hj => ?_) (fun k k1 k2 k3 => ?_)
    · rw [f3 _ (by omega), e2, zup_eq, e1, zup_eq]
    · rw [f3 _ k2, e2, zup_ne k1, e1, zup_ne k1]
    · rw [i3 _ (by omega), w2, zup_ne (by omega), w1, zup_eq]
    · rw [i3 _ (by omega), w2, zup_eq, w1, zup_ne (by omega)]
    · rw [i2 j hj, w2, zup_ne (by omega), w1, zup_ne (by omega)]
    · rw [i3 k k3, w2, zup_ne k2, w1, zup_ne k1]
  · have hh2 : h < 40 := (nI_ltI (b := 40) (by omega) (by omega)).mp (Int32.not_le.mp c)
    have e3 : 40 * nI i + nI h = nI (40 * i + h) := by simp (disch := omega) only [q_lit, q_add, q_mul, q_sub, q_ix, q_in, q_lt, q_le, q_eq, q_nlt, q_nle, q_ltn, q_len, q_neq, q_eqn, zup_ne, zup_eq, zset_ne, zset_eq, upd_eq, upd_ne, forall_eq, true_and, and_true, true_implies, false_implies, implies_true, not_true_eq_false, not_false_eq_true, and_self, ↓reduceIte, false_and, and_false]
    rw [e3, q_ix (by omega)]
    refine ⟨vp_in_nI (by omega) (by omega), fun W3 w3 y ey => ?_⟩
    rw [ey, nI_1]
    refine hJ (40 - (h + 1)) _ _ (by omega) ⟨h + 1, rfl, by omega, rfl, fun j hj => ?_, fun j hj => ?_, fun d hd => by rw [w3, zup_ne hd]; exact i3 d hd⟩
    · rw [w3, zup_eq]
      by_cases z : j = h
      · rw [z, upd_eq]
      · rw [upd_ne (by omega)]; exact i1 j (by omega)
    · rw [w3, zup_eq, upd_ne (by omega)]; exact i2 j hj
theorem p_lay0 {M W : zMem} {a1 a2 a3 : Int32} {P : zMem → zMem → Prop} (hs : ∀ i, i < 4 → M (81 + 2 * i) 0 = -1 ∧ W 16 i = -4) (hP0 : P M W) : wp_Main_lay a1 a2 a3 M (fun x M' => wp_Model_lay a1 a2 a3 W (fun y W' => x = y ∧ P M' W')) := by
  refine xt_isSheet (fun i hi ei => ⟨fun _ => ?_, fun q => absurd q (by decide)⟩) (fun nh => ⟨fun q => absurd rfl q, fun _ => in_no (hi := 3) rfl nh ⟨fun q => absurd rfl q, fun _ => ⟨rfl, hP0⟩⟩⟩)
  subst ei
  rw [q_ix (by omega)]
  have v : vp_in (nI i) 4 := vp_in_nI (by omega) (by omega)
  refine ⟨v, fun q => absurd (hs i hi).1 q, fun _ => in_yes (hi := 3) rfl (by omega) (by omega) ⟨fun _ => ⟨v, ?_⟩, fun q => absurd q (by decide)⟩⟩
  rw [q_ix (by omega)]
  exact ⟨fun q => absurd (hs i hi).2 q, fun _ => ⟨rfl, hP0⟩⟩
theorem p_feed {M W : zMem} {a : Int64} {P : zMem → zMem → Prop} {z : Nat} (e : M 11 5 = nI z) (e2 : W 0 1 = nI z) (hz : z ≤ 400) (hP0 : P M W)
    (hP : ∀ M' W', z + 8 ≤ 400 → M' 11 = upd (M 11) 5 (nI (z + 8)) → W' 0 = upd (W 0) 1 (nI (z + 8)) → (∀ i, i < 8 → M' 17 (z + i) = vp_nar .byte (((a >>> ((nI (56 - 8 * i)).toInt64 &&& 63)).toInt32).toInt8.toInt32) ∧ W' 1 (z + i) = (((a >>> ((nI (56 - 8 * i)).toInt64 &&& 63)).toInt32) &&& 255)) → (∀ j, (j < z ∨ z + 8 ≤ j) → M' 17 j = M 17 j ∧ W' 1 j = W 1 j) → (∀ k, k ≠ 11 → k ≠ 17 → M' k = M k) → (∀ k, k ≠ 0 → k ≠ 1 → W' k = W k) → P M' W') : wp_Main_feed a M (fun x M' => wp_Model_feed a W (fun y W' => x = y ∧ P M' W')) := by
  unfold wp_Main_feed
  rw [e]
  refine ⟨fun c => ?_, fun c => ?_⟩
  · have hz2 := (nI_leI (b := 392) (by omega) (by omega)).mp c
    refine zlp1_r (fun m x M' => ∃ h, x = nI h ∧ h ≤ 8 ∧ m = 8 - h ∧ M' 11 = upd (M 11) 5 (nI (z + h)) ∧ (∀ i, i < h → M' 17 (z + i) = vp_nar .byte (((a >>> ((nI (56 - 8 * i)).toInt64 &&& 63)).toInt32).toInt8.toInt32)) ∧ (∀ j, (j < z ∨ z + 8 ≤ j) → M' 17 j = M 17 j) ∧ (∀ k, k ≠ 11 → k ≠ 17 → M' k = M k)) ?_ (n := 8) ⟨0, rfl, by omega, rfl, ?_, fun i hi => absurd hi (by omega), fun _ _ => rfl, fun _ _ _ => rfl⟩
    · rintro m x M' ⟨h, rfl, hh, rfl, i1, i2, i3, i4⟩ J hJ
      have y5 : M' 11 5 = nI (z + h) := by rw [i1, upd_eq]
      refine ⟨fun c => ?_, fun c => ?_⟩
      · have := (nI_leI (a := 8) (by omega) (by omega)).mp c
        have eh : h = 8 := by omega
        subst eh
        rw [y5]
        unfold wp_Model_feed
        rw [e2]
        have e8 : nI z + 8 = nI (z + 8) := by rw [show (8 : Int32) = nI 8 from rfl, q_add]
        rw [e8]
        refine ⟨fun _ => ?_, fun q => absurd ((nI_leI (b := 400) (by omega) (by omega)).mpr (by omega)) q⟩
        refine zlp1_r (fun m x W' => ∃ h, (x = if h < 8 then nI (56 - 8 * h) else -8) ∧ h ≤ 8 ∧ m = 8 - h ∧ W' 0 = upd (W 0) 1 (nI (z + h)) ∧ (∀ i, i < h → W' 1 (z + i) = (((a >>> ((nI (56 - 8 * i)).toInt64 &&& 63)).toInt32) &&& 255)) ∧ (∀ j, (j < z ∨ z + 8 ≤ j) → W' 1 j = W 1 j) ∧ (∀ k, k ≠ 0 → k ≠ 1 → W' k = W k)) ?_ (n := 8) ⟨0, by rw [if_pos (by omega)]; rfl, by omega, rfl, ?_, fun i hi => absurd hi (by omega), fun _ _ => rfl, fun _ _ _ => rfl⟩
        · rintro m x W' ⟨h, ex, hh, rfl, k1, k2, k3, k4⟩ J hJ
          have w1 : W' 0 1 = nI (z + h) := by rw [k1, upd_eq]
          refine ⟨fun c => ?_, fun c => ?_⟩
          · have e8 : h = 8 := by
              by_cases q : h < 8
              · rw [if_pos q] at ex
                rw [ex] at c
                exact absurd c (nI_pos (by omega))
              · omega
            subst e8
            rw [w1]
            exact ⟨rfl, hP M' W' (by omega) i1 k1 (fun i hi => ⟨i2 i hi, k2 i hi⟩) (fun j hj => ⟨i3 j hj, k3 j hj⟩) i4 k4⟩
          · have h8 : h < 8 := by
              by_cases q : h < 8
              · exact q
              · rw [if_neg q] at ex
                rw [ex] at c
                exact absurd (by decide) c
            rw [if_pos h8] at ex
            rw [w1, q_ix (by omega), ex]
            refine ⟨vp_in_nI (by omega) (by omega), fun W1 f1 W2 f2 y ey => ?_⟩
            refine hJ (8 - (h + 1)) _ _ (by omega) ⟨h + 1, ?_, by omega, rfl, ?_, fun i hi => ?_, fun j hj => ?_, fun k q0 q1 => ?_⟩
            · rw [ey]
              rcases (show h = 0 ∨ h = 1 ∨ h = 2 ∨ h = 3 ∨ h = 4 ∨ h = 5 ∨ h = 6 ∨ h = 7 by omega) with rfl | rfl | rfl | rfl | rfl | rfl | rfl | rfl <;> decide
            · rw [f2, zup_eq, f1, zup_ne (by omega), w1, k1, show (1 : Int32) = nI 1 from rfl, q_add]
              funext j
              by_cases q : j = 1
              · rw [q, upd_eq, upd_eq]; congr 1
              · rw [upd_ne q, upd_ne q, upd_ne q]
            · rw [f2, zup_ne (by omega), f1, zup_eq]
              by_cases q : i = h
              · rw [q, upd_eq]
              · rw [upd_ne (by omega)]; exact k2 i (by omega)
            · rw [f2, zup_ne (by omega), f1, zup_eq, upd_ne (by omega)]; exact k3 j hj
            · rw [f2, zup_ne q0, f1, zup_ne q1]; exact k4 k q0 q1
        · funext j
          by_cases q : j = 1
          · rw [q, upd_eq]; exact e2
          · rw [upd_ne q]
      · have h8 : h < 8 := (nI_ltI (b := 8) (by omega) (by omega)).mp (Int32.not_le.mp c)
        rw [y5, q_ix (by omega)]
        have es : 8 * (7 - nI h) = nI (56 - 8 * h) := by
          rcases (show h = 0 ∨ h = 1 ∨ h = 2 ∨ h = 3 ∨ h = 4 ∨ h = 5 ∨ h = 6 ∨ h = 7 by omega) with rfl | rfl | rfl | rfl | rfl | rfl | rfl | rfl <;> decide
        rw [es]
        refine ⟨vp_in_nI (by omega) (by omega), fun M1 f1 M2 f2 y ey => ?_⟩
        rw [ey, nI_1]
        refine hJ (8 - (h + 1)) _ _ (by omega) ⟨h + 1, rfl, by omega, rfl, ?_, fun i hi => ?_, fun j hj => ?_, fun k q0 q1 => ?_⟩
        · rw [f2, zup_eq, f1, zup_ne (by omega), y5, i1, show (1 : Int32) = nI 1 from rfl, q_add]
          funext j
          by_cases q : j = 5
          · rw [q, upd_eq, upd_eq]; congr 1
          · rw [upd_ne q, upd_ne q, upd_ne q]
        · rw [f2, zup_ne (by omega), f1, zup_eq]
          by_cases q : i = h
          · rw [q, upd_eq]
          · rw [upd_ne (by omega)]; exact i2 i (by omega)
        · rw [f2, zup_ne (by omega), f1, zup_eq, upd_ne (by omega)]; exact i3 j hj
        · rw [f2, zup_ne q0, f1, zup_ne q1]; exact i4 k q0 q1
    · funext j
      by_cases q : j = 5
      · rw [q, upd_eq]; exact e
      · rw [upd_ne q]
  · unfold wp_Model_feed
    rw [e2]
    have e8 : nI z + 8 = nI (z + 8) := by rw [show (8 : Int32) = nI 8 from rfl, q_add]
    rw [e8]
    refine ⟨fun q => absurd ((nI_leI (b := 392) (by omega) (by omega)).mpr ?_) c, fun _ => ⟨rfl, hP0⟩⟩
    have := (nI_leI (b := 400) (by omega) (by omega)).mp q
    omega
theorem sub_le {y H z : Nat} (hy : y < 2147483648) (hH : H ≤ 5) (hz : z ≤ 5) : nI y ≤ nI H - nI z ↔ y + z ≤ H := by
  by_cases c : z ≤ H
  · rw [q_sub c, nI_leI hy (by omega)]
    omega
  · have e : nI H - nI z = -nI (z - H) := by
      rcases (show H = 0 ∨ H = 1 ∨ H = 2 ∨ H = 3 ∨ H = 4 by omega) with rfl | rfl | rfl | rfl | rfl <;> rcases (show z = 0 ∨ z = 1 ∨ z = 2 ∨ z = 3 ∨ z = 4 ∨ z = 5 by omega) with rfl | rfl | rfl | rfl | rfl | rfl <;> first | decide | omega
    rw [e, q_nle (by omega) (by omega) hy]
    exact ⟨fun h => h.elim, fun h => absurd h (by omega)⟩
theorem mw_read0 {n H L i l y z : Nat} {a3 : Int32} {M W : zMem} {Q : Int32 → zMem → Prop} (vt : sp_vt M 1 n H L) (r : rt0 W M n H L) (st : pst W M n H L) (hi : i < 4) (hl : l < 3) (hy : y < 2147483648) (hz : z ≤ 5) (hs : W 16 i = -4)
    (h0 : ¬ y + z ≤ H → Q (-1) W) (h1 : y + z ≤ H → ∀ W1, W1 0 24 = 1 → pr W1 M n H → awf W W1 → Q 0 (zup W1 0 39 (if z = 0 then 0 else 1))) : wp_Model_read (nI i) (nI l) a3 (nI y) (nI z) W Q := by
  obtain ⟨⟨n1, n8, H1, H5, L1, L6⟩, hn, hH, -⟩ := id vt
  refine in_yes (hi := 3) rfl (by omega) (by omega) ⟨fun q => absurd q (by decide), fun _ => in_yes (hi := 2) rfl (by omega) (by omega) ⟨fun q => absurd q (by decide), fun _ => ⟨fun q => absurd q (nI_pos hy), fun _ => ?_⟩⟩⟩
  refine in_yes (hi := 5) rfl (by omega) (by omega) ⟨fun q => absurd q (by decide), fun _ => ⟨vp_in_nI (n := 1) (by omega) (by omega), ?_⟩⟩
  rw [show ix 1 = 1 from rfl, r.2.1, q_l64 hy, q_l64 (by omega), q_l64 (by omega), lN_add]
  refine ⟨fun c => ?_, fun c => h0 (fun q => c (Eq.mpr (cmp_le (y + z) H (by omega) (by omega)) q))⟩
  have hle := Eq.mp (cmp_le (y + z) H (by omega) (by omega)) c
  refine mt_awake vt r st (fun W1 h24 hp f => ?_)
  have w40 : W1 4 0 = nI n := by rw [f.1 4 (by omega) (by omega) (by omega) (by omega)]; exact r.1
  have w16 : W1 16 i = -4 := by rw [f.1 16 (by omega) (by omega) (by omega) (by omega)]; exact hs
  have last : ∀ x, Q 0 (zup W1 0 39 x) → ∃ k, zlp1 (wpB_Model_read_234 (nI i) (nI l) a3 (nI y) (nI z) x 0 Q) k 0 W1 := by
    intro x hx
    refine zlp1_r (fun m x W' => x = 0 ∧ W' = W1 ∧ m = 0) ?_ (n := 0) ⟨rfl, rfl, rfl⟩
    rintro m x' W' ⟨rfl, rfl, rfl⟩ J hJ
    refine ⟨vp_in_nI (n := 0) (by omega) (by omega), fun _ W2 e2 => by rw [e2]; exact hx, fun c => ?_⟩
    rw [show ix 0 = 0 from rfl, w40, Int32.mul_zero] at c
    exact absurd (Int32.le_refl 0) c
  refine zlp4_r (fun m x6 x7 x8 x9 W' => W' = W1 ∧ x7 = 0 ∧ ((m = 1 ∧ x6 = 0 ∧ x8 = 1 ∧ x9 = 0) ∨ (m = 0 ∧ x6 = 1 ∧ z ≠ 0))) ?_ (n := 1) ⟨rfl, rfl, Or.inl ⟨rfl, rfl, rfl, rfl⟩⟩
  rintro m x6 x7 x8 x9 W' ⟨rfl, rfl, hx⟩ J hJ
  refine ⟨vp_in_nI (n := 0) (by omega) (by omega), ?_⟩
  rw [show ix 0 = 0 from rfl, w40, q_mul]
  rcases hx with ⟨rfl, rfl, rfl, rfl⟩ | ⟨rfl, rfl, hz0⟩
  · refine ⟨fun c => ?_, fun c => ⟨fun q => absurd rfl q, fun _ => ⟨vp_in_nI (by omega) (by omega), ?_⟩⟩⟩
    · have hnz : n * z ≤ 8 * 5 := Nat.mul_le_mul n8 hz
      have c' := (nI_leI (b := 0) (by omega) (by omega)).mp c
      have z0 : z = 0 := by
        rcases Nat.eq_zero_or_pos z with q | q
        · exact q
        · have := Nat.mul_le_mul n1 q
          omega
      refine last 0 ?_
      have := h1 hle _ h24 hp f
      rw [if_pos z0] at this
      exact this
    · rw [q_ix (by omega)]
      refine ⟨fun q => absurd w16 q, fun _ => ⟨fun _ x ex => ?_, fun q => absurd q (by decide)⟩⟩
      refine hJ 0 _ _ _ _ _ (by omega) ⟨rfl, rfl, Or.inr ⟨rfl, rfl, fun z0 => c ?_⟩⟩
      rw [z0, Nat.mul_zero]
      exact Int32.le_refl _
  · have k : ∃ k, zlp1 (wpB_Model_read_234 (nI i) (nI l) a3 (nI y) (nI z) 1 0 Q) k 0 W' := last 1 (by
      have := h1 hle _ h24 hp f
      rw [if_neg hz0] at this
      exact this)
    exact ⟨fun _ => k, fun _ => ⟨fun _ => k, fun q => absurd q (by decide)⟩⟩
theorem p_read0 {n H L : Nat} {M W : zMem} {a1 a2 a3 a4 a5 : Int32} {P : zMem → zMem → Prop} (vt : sp_vt M 1 n H L) (r : rt0 W M n H L) (st : pst W M n H L) (hs : ∀ i, i < 4 → M (81 + 2 * i) 0 = -1 ∧ W 16 i = -4) (h81 : ∀ i, i < 4 → M (81 + 2 * i) 1 = 0) (hP0 : P M W)
    (hP : ∀ x W1, W1 0 24 = 1 → pr W1 M n H → awf W W1 → (x = 0 ∨ x = 1) → P (zup M 0 13 x) (zup W1 0 39 x)) : wp_Main_read a1 a2 a3 a4 a5 M (fun x M' => wp_Model_read a1 a2 a3 a4 a5 W (fun y W' => x = y ∧ P M' W')) := by
  obtain ⟨⟨n1, n8, H1, H5, L1, L6⟩, hn, hH, -⟩ := id vt
  refine xt_isSheet (fun i hi ei => ⟨fun q => absurd q (by decide), fun _ => ?_⟩) (fun nh => ⟨fun _ => in_no (hi := 3) rfl nh ⟨fun _ => ⟨rfl, hP0⟩, fun q => absurd rfl q⟩, fun q => absurd rfl q⟩)
  subst ei
  refine xt_isLane (fun l hl el => ⟨fun q => absurd q (by decide), fun _ => ?_⟩) (fun nh => ⟨fun _ => in_yes (hi := 3) rfl (by omega) (by omega) ⟨fun q => absurd q (by decide), fun _ => in_no (hi := 2) rfl nh ⟨fun _ => ⟨rfl, hP0⟩, fun q => absurd rfl q⟩⟩, fun q => absurd rfl q⟩)
  subst el
  refine ⟨fun c => ?_, fun c => ?_⟩
  · exact in_yes (hi := 3) rfl (by omega) (by omega) ⟨fun q => absurd q (by decide), fun _ => in_yes (hi := 2) rfl (by omega) (by omega) ⟨fun q => absurd q (by decide), fun _ => ⟨fun _ => ⟨rfl, hP0⟩, fun q => absurd c q⟩⟩⟩
  obtain ⟨y, hy, rfl⟩ := nI_of c
  have bad : ¬ (0 ≤ a5 ∧ a5 ≤ 5) → wp_Model_read (nI i) (nI l) a3 (nI y) a5 W (fun v W' => -1 = v ∧ P M W') := fun nh => in_yes (hi := 3) rfl (by omega) (by omega) ⟨fun q => absurd q (by decide), fun _ => in_yes (hi := 2) rfl (by omega) (by omega) ⟨fun q => absurd q (by decide), fun _ => ⟨fun q => absurd q c, fun _ => in_no (hi := 5) rfl nh ⟨fun _ => ⟨rfl, hP0⟩, fun q => absurd rfl q⟩⟩⟩⟩
  refine ⟨fun c2 => bad (fun q => absurd c2 (Int32.not_lt.mpr q.1)), fun c2 => ⟨fun c3 => bad (fun q => absurd c3 (Int32.not_lt.mpr q.2)), fun c3 => ?_⟩⟩
  obtain ⟨z, hz, rfl⟩ := nI_of2 (x := a5) (M := 5) (n := 5) rfl c2 (Int32.not_lt.mp c3)
  rw [hH, q_ix (by omega)]
  have run : ∀ x : Int32, y + z ≤ H → (x = if z = 0 then 0 else 1) → ∃ k, zlp1 (wpB_Main_read_116 (nI i) (nI l) a3 (nI y) (nI z) (81 + 2 * i) x 0 (fun (zm12 : zMem) => ∃ n : Nat, zlp1 (wpB_Main_read_159 (nI i) (nI l) a3 (nI y) (nI z) (81 + 2 * i) x 0 (fun x M' => wp_Model_read (nI i) (nI l) a3 (nI y) (nI z) W (fun y W' => x = y ∧ P M' W'))) n 0 zm12) (fun x M' => wp_Model_read (nI i) (nI l) a3 (nI y) (nI z) W (fun y W' => x = y ∧ P M' W'))) k 0 M := by
    intro x hle hx
    refine zlp1_r (fun m x M' => x = 0 ∧ M' = M ∧ m = 0) ?_ (n := 0) ⟨rfl, rfl, rfl⟩
    rintro m x' M' ⟨rfl, rfl, rfl⟩ J hJ
    refine ⟨fun _ => ?_, fun q => absurd (Int32.le_refl 0) q⟩
    refine zlp1_r (fun m x M'' => x = 0 ∧ M'' = M' ∧ m = 0) ?_ (n := 0) ⟨rfl, rfl, rfl⟩
    rintro m x' M'' ⟨rfl, rfl, rfl⟩ J hJ
    refine ⟨fun _ M1 e1 => ⟨fun _ => ?_, fun q => absurd (Int32.le_refl 0) q⟩, fun q => absurd (Int32.le_refl 0) q⟩
    refine mw_read0 vt r st hi hl hy hz (hs i hi).2 (fun q => absurd hle q) (fun _ W1 h24 hp f => ⟨rfl, ?_⟩)
    rw [e1, ← hx]
    refine hP x W1 h24 hp f ?_
    by_cases z0 : z = 0
    · rw [if_pos z0] at hx; exact Or.inl hx
    · rw [if_neg z0] at hx; exact Or.inr hx
  refine ⟨fun c4 => ⟨vp_in_nI (by omega) (by omega), fun c5 => ?_, fun c5 => ?_⟩, fun c4 => ?_⟩
  · have hle := (sub_le (by omega) H5 hz).mp c4
    have z0 : z ≠ 0 := fun q => c5 (by rw [q]; rfl)
    unfold wp_Sheet_faultAs
    refine ⟨fun q => absurd (hs i hi).1 q, fun _ => ?_⟩
    refine ⟨fun q => absurd q (by decide), fun _ => ⟨fun _ => run 1 hle (by rw [if_neg z0]), fun q => absurd q (by decide)⟩⟩
  · have hle := (sub_le (by omega) H5 hz).mp c4
    have z0 : z = 0 := (nI_eq (b := 0) (by omega) (by omega)).mp c5
    refine ⟨fun _ => ?_, fun q => absurd rfl q⟩
    unfold wp_Sheet_wholeRows
    rw [h81 i hi]
    have r0 := run 0 hle (by rw [if_pos z0])
    have z0' : nI z ≤ 0 := by rw [z0]; exact Int32.le_refl 0
    refine ⟨fun _ => ?_, fun d => ⟨fun _ => ?_, fun d2 => absurd (Int32.not_lt.mp d) d2⟩⟩
    · exact ⟨fun q => absurd rfl q, fun _ => ⟨fun _ => r0, fun q => absurd z0' q⟩⟩
    · exact ⟨fun q => absurd rfl q, fun _ => ⟨fun _ => r0, fun q => absurd z0' q⟩⟩
  · exact mw_read0 vt r st hi hl hy hz (hs i hi).2 (fun _ => ⟨rfl, hP0⟩) (fun q => absurd ((sub_le (by omega) H5 hz).mpr q) c4)
theorem xt_text0 {M : zMem} {Q : Int32 → zMem → Prop} (e50 : M 11 5 = 0) (hQ : ∀ M', (∀ k, (k < 11 ∨ 14 ≤ k) → M' k = M k) → M' 11 1 = 6 → M' 11 5 = 0 → Q (-10) M') : wp_Main_text M Q := by
  unfold wp_Main_text wp_Reader_readAll wp_Told_clear
  intro m1 f1 m2 f2 m3 f3 m4 f4 m5 f5 m6 f6 m7 f7 m8 f8 n1 g1 n2 g2 n3 g3 n4 g4 n5 g5 n6 g6 n7 g7
  refine ⟨vp_in_nI (n := 0) (by omega) (by omega), fun A gA => ?_⟩
  have a11 : A 11 = m8 11 := by rw [gA, zup_ne (by omega), g7, zup_ne (by omega), g6, zup_ne (by omega), g5, zup_ne (by omega), g4, zup_ne (by omega), g3, zup_ne (by omega), g2, zup_ne (by omega), g1, zup_ne (by omega)]
  have a12 : A (11 + 1) 0 = 0 := by
    rw [gA, zup_ne (by omega), g7, g6, g5, g4, g3, g2, g1]
    simp (disch := omega) only [zup_eq, upd_ne, upd_eq]
  have ak : ∀ k, (k < 11 ∨ 14 ≤ k) → A k = M k := fun k hk => by
    rw [gA, zup_ne (by omega), g7, zup_ne (by omega), g6, zup_ne (by omega), g5, zup_ne (by omega), g4, zup_ne (by omega), g3, zup_ne (by omega), g2, zup_ne (by omega), g1, zup_ne (by omega), f8, zup_ne (by omega), f7, zup_ne (by omega), f6, zup_ne (by omega), f5, zup_ne (by omega), f4, zup_ne (by omega), f3, zup_ne (by omega), f2, zup_ne (by omega), f1, zup_ne (by omega)]
  have x5 : A 11 5 = 0 := by
    rw [a11, f8, f7, f6, f5, f4, f3, f2, f1]
    simp (disch := omega) only [zup_eq, upd_ne, upd_eq]
    exact e50
  have x6 : A 11 6 = 0 := by
    rw [a11, f8, f7, f6, f5, f4, f3, f2, f1]
    simp (disch := omega) only [zup_eq, upd_ne, upd_eq]
  have x1 : A 11 1 = 0 := by
    rw [a11, f8, f7, f6, f5, f4, f3, f2, f1]
    simp (disch := omega) only [zup_eq, upd_ne, upd_eq]
  clear gA g7 g6 g5 g4 g3 g2 g1 f8 f7 f6 f5 f4 f3 f2 f1
  generalize eB : zup (zup A 11 8 (A 11 6)) 11 7 0 = B
  have b11 : ∀ j, j ≠ 7 → j ≠ 8 → B 11 j = A 11 j := fun j h1 h2 => by rw [← eB]; simp (disch := omega) only [zup_eq, upd_ne]
  have b7 : B 11 7 = 0 := by rw [← eB]; simp (disch := omega) only [zup_eq, upd_eq]
  have bk : ∀ k, k ≠ 11 → B k = A k := fun k hk => by rw [← eB, zup_ne hk, zup_ne hk]
  refine zlp2_r (fun m x y M' => (m = 1 ∧ x = 1 ∧ y = 0 ∧ M' = A) ∨ (m = 0 ∧ x = 0 ∧ y = 1 ∧ M' = B)) ?_ (n := 1) (Or.inl ⟨rfl, rfl, rfl, rfl⟩)
  rintro m x y M' h J hJ
  rcases h with ⟨rfl, rfl, rfl, eA⟩ | ⟨rfl, rfl, rfl, eB2⟩
  · rw [eA]
    refine ⟨fun q => absurd q (by decide), fun _ => ⟨fun q => absurd q (by decide), fun _ => ?_⟩⟩
    refine zlp0_r (fun m M2 => M2 = A ∧ m = 0) ?_ (n := 0) ⟨rfl, rfl⟩
    rintro m M2 ⟨em, -⟩ J' hJ'
    rw [em]
    refine ⟨fun _ => ?_, fun q => absurd (by rw [x5, x6]; exact Int32.le_refl 0) q⟩
    intro M5 e5
    have y5 : M5 11 5 = 0 := by rw [e5, zup_eq, upd_ne (by omega)]; exact x5
    have y6 : M5 11 6 = 0 := by rw [e5, zup_eq, upd_ne (by omega)]; exact x6
    refine ⟨fun q => absurd (show M5 11 6 < M5 11 5 from q) (by rw [y5, y6]; decide), fun _ M6 e6 => ?_⟩
    have eM6 : M6 = B := by rw [e6, e5]; exact eB
    rw [eM6]
    refine ⟨fun q => absurd q (by decide), fun _ => ⟨fun _ v ev => ?_, fun q => absurd b7 q⟩⟩
    exact hJ 0 _ _ _ (by omega) (Or.inr ⟨rfl, rfl, by rw [ev]; rfl, rfl⟩)
  · rw [eB2]
    refine ⟨fun q => absurd q (by decide), fun _ => ⟨fun _ => ⟨fun q => absurd (by rw [b11 1 (by omega) (by omega)]; exact x1) q, fun _ => ?_⟩, fun q => absurd rfl q⟩⟩
    refine ⟨fun _ => ?_, fun q => absurd (by rw [bk (11 + 1) (by omega)]; exact a12) q⟩
    intro M2 e2 M3 e3
    have z5 : B 11 5 = 0 := by rw [b11 5 (by omega) (by omega)]; exact x5
    refine ⟨Or.inl rfl, fun _ => ?_, fun q => absurd rfl q⟩
    intro M4 e4
    refine ⟨fun q => absurd rfl q, fun _ => ?_⟩
    have w2 : M4 11 2 = 0 := by
      rw [e4, e3]
      simp (disch := omega) only [zup_eq, upd_ne, upd_eq]
      exact z5
    rw [w2]
    refine hQ M4 (fun k hk => ?_) ?_ ?_
    · rw [e4, zup_ne (by omega), e3, zup_ne (by omega), e2, zup_ne (by omega), bk k (by omega)]; exact ak k hk
    · rw [e4, e3, e2]
      simp (disch := omega) only [zup_eq, upd_ne, upd_eq]
    · rw [e4, zup_eq, upd_eq]
theorem mw_text0 {W : zMem} {Q : Int32 → zMem → Prop} (e1 : W 0 1 = 0) (hQ : ∀ W', (∀ k, k ≠ 0 → k ≠ 5 → W' k = W k) → W' 0 1 = 0 → W' 0 2 = 6 → (∀ j, 9 ≤ j → j ≠ 13 → j ≠ 14 → j ≠ 15 → W' 0 j = W 0 j) → Q (-10) W') : wp_Model_text W Q := by
  intro m1 f1 m2 f2 m3 f3 m4 f4 m5 f5
  have k5 : ∀ k, k ≠ 0 → m5 k = W k := fun k hk => by rw [f5, zup_ne hk, f4, zup_ne hk, f3, zup_ne hk, f2, zup_ne hk, f1, zup_ne hk]
  have o5 : m5 0 3 = 0 ∧ m5 0 5 = 0 ∧ m5 0 1 = 0 := by
    rw [f5, f4, f3, f2, f1]
    simp (disch := omega) only [zup_eq, upd_ne, upd_eq]
    exact ⟨trivial, trivial, e1⟩
  have j5 : ∀ j, 9 ≤ j → j ≠ 13 → j ≠ 14 → j ≠ 15 → m5 0 j = W 0 j := fun j h1 h2 h3 h4 => by
    rw [f5, f4, f3, f2, f1]
    simp (disch := omega) only [zup_eq, upd_ne]
  clear f5 f4 f3 f2 f1
  refine zlp1_r (fun m x W' => ∃ h, x = nI h ∧ h ≤ 100 ∧ m = 100 - h ∧ (0 < h → W' 5 0 = 0) ∧ (∀ k, k ≠ 5 → W' k = m5 k)) ?_ (n := 100) ⟨0, rfl, by omega, rfl, fun q => absurd q (by omega), fun _ _ => rfl⟩
  rintro m x W1 ⟨h, rfl, hh, rfl, i1, i2⟩ J hJ
  refine ⟨fun c => ?_, fun c => ?_⟩
  · have := (nI_leI (a := 100) (by omega) (by omega)).mp c
    have p0 := i1 (by omega)
    have q0 : W1 0 = m5 0 := i2 0 (by omega)
    refine ⟨fun _ => ?_, fun q => absurd (by rw [q0, o5.1]; exact Int32.le_refl 0) q⟩
    refine zlp0_r (fun m M' => M' = W1 ∧ m = 0) ?_ (n := 0) ⟨rfl, rfl⟩
    rintro m M' ⟨em, -⟩ J' hJ'
    rw [em]
    have le1 : W1 0 1 ≤ W1 0 5 := by rw [q0, o5.2.2, o5.2.1]; exact Int32.le_refl 0
    refine ⟨fun _ => ⟨fun _ => ?_, fun q => absurd q (by decide)⟩, fun q => absurd le1 q⟩
    intro W2 w2
    have le2 : W2 0 1 ≤ W2 0 5 := by rw [w2, zup_eq, upd_ne (by omega), upd_ne (by omega)]; exact le1
    refine ⟨fun _ W3 w3 => ⟨fun q => absurd rfl q, fun _ W4 w4 => ?_⟩, fun q => absurd le2 q⟩
    have v0 : ∀ j, j ≠ 6 → j ≠ 7 → j ≠ 8 → W4 0 j = m5 0 j := fun j h6 h7 h8 => by
      rw [w4, w3, w2]
      simp (disch := omega) only [zup_eq, upd_ne]
      rw [q0]
    have v7 : W4 0 7 = 0 := by rw [w4, zup_eq, upd_eq]
    have vk : ∀ k, k ≠ 0 → W4 k = W1 k := fun k hk => by rw [w4, zup_ne hk, w3, zup_ne hk, w2, zup_ne hk]
    refine zlp1_r (fun m x W' => x = 0 ∧ W' = W4 ∧ m = 0) ?_ (n := 0) ⟨rfl, rfl, rfl⟩
    rintro m x W' ⟨ex, ew, -⟩ J2 hJ2
    rw [ex, ew]
    refine ⟨fun q => absurd (by rw [v0 3 (by omega) (by omega) (by omega)]; exact o5.1) q, fun _ => ⟨fun _ => ?_, fun q => absurd v7 q⟩⟩
    refine ⟨fun q => absurd (by rw [v0 3 (by omega) (by omega) (by omega)]; exact o5.1) q, fun _ W5 w5 => ?_⟩
    have p5 : W5 5 0 = 0 := by rw [w5, zup_ne (by omega), vk 5 (by omega)]; exact p0
    have t3 : W5 0 3 = 0 := by rw [w5, zup_eq, upd_ne (by omega), v0 3 (by omega) (by omega) (by omega)]; exact o5.1
    have t1 : W4 0 1 = 0 := by rw [v0 1 (by omega) (by omega) (by omega)]; exact o5.2.2
    refine ⟨vp_in_nI (n := 0) (by omega) (by omega), fun _ => ⟨fun q => absurd q (by decide), fun _ => ?_⟩, fun q => absurd p5 q⟩
    refine ⟨fun q => absurd t3 q, fun _ W6 w6 W7 w7 => ?_⟩
    intro W8 w8 W9 w9
    have u3 : W9 0 3 = 6 := by
      rw [w9, w8, w7, w6]
      simp (disch := omega) only [zup_eq, upd_ne, upd_eq]
    have u4 : W9 0 4 = 0 := by
      rw [w9, w8, w7, w6, w5]
      simp (disch := omega) only [zup_eq, upd_ne, upd_eq]
      exact t1
    refine ⟨fun q => absurd q (by rw [u3]; decide), fun _ => ?_⟩
    rw [u4]
    refine hQ W9 (fun k h0 h5 => ?_) ?_ ?_ (fun j h9 h13 h14 h15 => ?_)
    · rw [w9, zup_ne h0, w8, zup_ne h0, w7, zup_ne h0, w6, zup_ne h0, w5, zup_ne h0, vk k h0, i2 k h5, k5 k h0]
    · rw [w9, w8]
      simp (disch := omega) only [zup_eq, upd_ne, upd_eq]
    · rw [w9, w8, w7, w6]
      simp (disch := omega) only [zup_eq, upd_ne, upd_eq]
    · rw [w9, w8, w7, w6, w5]
      simp (disch := omega) only [zup_eq, upd_ne]
      rw [v0 j (by omega) (by omega) (by omega)]
      exact j5 j h9 h13 h14 h15
  · have hh2 : h < 100 := (nI_ltI (b := 100) (by omega) (by omega)).mp (Int32.not_le.mp c)
    rw [q_ix (by omega)]
    refine ⟨fun d => ⟨vp_in_nI (by omega) (by omega), fun W2 w2 y ey => ?_⟩, fun d => ⟨vp_in_nI (by omega) (by omega), fun W2 w2 y ey => ?_⟩⟩
    all_goals
      rw [ey, nI_1]
      refine hJ (100 - (h + 1)) _ _ (by omega) ⟨h + 1, rfl, by omega, rfl, fun _ => ?_, fun k hk => by rw [w2, zup_ne hk]; exact i2 k hk⟩
    · rw [w2, zup_eq]
      by_cases z : h = 0
      · rw [z, upd_eq]
      · rw [upd_ne (by omega)]; exact i1 (by omega)
    · have z : h = 6 := (nI_eq (b := 6) (by omega) (by omega)).mp d
      rw [w2, zup_eq, upd_ne (by omega)]; exact i1 (by omega)
noncomputable def sp_gd (H l : Nat) (M : zMem) : Nat := if ix (sp_least (M 20) H 0 0) ≤ l then ix (sp_least (M 20) H 0 0) else l
/-- the bench after l ticks -/
noncomputable def sp_go (H : Nat) : Nat → Nat → zMem → zMem
  | 0, _, M => M
  | f + 1, l, M => if l = 0 then M else sp_go H f (l - sp_gd H l M) (sp_all 1 18 H (sp_pass 18 H (nI (sp_gd H l M)) M))
theorem sp_go_0 (H f : Nat) (M : zMem) : sp_go H f 0 M = M := by cases f <;> simp [sp_go]
theorem sp_gd_ok {n H L l : Nat} {M : zMem} (bs : bst M n H L) (hl : 0 < l) (hl2 : l < 2147483648) : ∃ j, 0 < j ∧ j < 2147483648 ∧ sp_least (M 20) H 0 0 = nI j ∧ (sp_gd H l M = if j ≤ l then j else l) ∧ 0 < sp_gd H l M ∧ sp_gd H l M ≤ l ∧ sp_can_pass M 18 H (nI (sp_gd H l M)) := by
  have h0 : 0 < sp_least (M 20) H 0 0 := sp_nstuck bs.1 bs.2
  obtain ⟨c1, c2, c3⟩ := sp_can_least bs.1 bs.2
  obtain ⟨j, hj, ej⟩ := nI_of (x := sp_least (M 20) H 0 0) (fun q => absurd (Int32.lt_trans h0 q) (Int32.lt_irrefl))
  have hj0 : 0 < j := by rw [ej] at h0; exact (nI_0lt (by omega)).mp h0
  have eg : sp_gd H l M = if j ≤ l then j else l := by unfold sp_gd; rw [ej, q_ix (by omega)]
  have g1 : 0 < sp_gd H l M := by rw [eg]; split <;> omega
  have g2 : sp_gd H l M ≤ l := by rw [eg]; split <;> omega
  have g3 : sp_gd H l M ≤ j := by rw [eg]; split <;> omega
  refine ⟨j, hj0, by omega, ej, eg, g1, g2, (nI_0lt (by omega)).mpr g1, c2, fun h hh hp => ?_⟩
  have c3' : nI j ≤ M (18 + 2) h := by rw [← ej]; exact c3 h hh hp
  exact Int32.le_trans ((nI_leI (by omega) (by omega)).mpr g3) c3'
theorem bst_step {n H L : Nat} {d : Int32} {M : zMem} (bs : bst M n H L) (hc : sp_can_pass M 18 H d) : bst (sp_all 1 18 H (sp_pass 18 H d M)) n H L ∧ (∀ k, (k < 18 ∨ 27 ≤ k) → sp_all 1 18 H (sp_pass 18 H d M) k = M k) ∧ sp_all 1 18 H (sp_pass 18 H d M) 18 0 = M 18 0 := by
  have ok1 := sp_pass_ok bs.1 hc
  obtain ⟨ok2, fr2, hs2⟩ := sp_all_ok ok1
  obtain ⟨f1, f2, f3, f4, f5⟩ := sp_pass_fr (b := 18) (H := H) (d := d) (M := M)
  exact ⟨⟨ok2, hs2⟩, fun k hk => by rw [fr2.1 k (by omega) (fun q => absurd q (by omega))]; exact f5 k (by omega), by rw [fr2.2]; exact f1.2⟩
theorem sp_go_ok {n H L : Nat} : ∀ f l M, l ≤ f → l < 2147483648 → bst M n H L → bst (sp_go H f l M) n H L ∧ (∀ k, (k < 18 ∨ 27 ≤ k) → sp_go H f l M k = M k) ∧ sp_go H f l M 18 0 = M 18 0 := by
  intro f
  induction f with
  | zero => intro l M _ _ bs; exact ⟨bs, fun _ _ => rfl, rfl⟩
  | succ f ih =>
    intro l M hf hl bs
    unfold sp_go
    split
    · exact ⟨bs, fun _ _ => rfl, rfl⟩
    · rename_i c
      obtain ⟨j, -, -, -, -, g1, g2, g3⟩ := sp_gd_ok bs (by omega) hl
      obtain ⟨s1, s2, s3⟩ := bst_step bs g3
      obtain ⟨t1, t2, t3⟩ := ih (l - sp_gd H l M) _ (by omega) (by omega) s1
      exact ⟨t1, fun k hk => (t2 k hk).trans (s2 k hk), t3.trans s3⟩
theorem xt_go {n H L a : Nat} {M : zMem} {Q : Int32 → zMem → Prop} (bs : bst M n H L) (h1 : 1 ≤ a) (h2 : a ≤ 9999) (hQ : Q (sp_go H a a M 18 3 - M 18 3) (sp_go H a a M)) : wp_Main_go (nI a) M Q := by
  refine ⟨fun c => absurd ((nI_ltI (b := 1) (by omega) (by omega)).mp c) (by omega), fun _ => ⟨fun _ x ex => ?_, fun c => absurd ((nI_leI (b := 9999) (by omega) (by omega)).mpr h2) c⟩⟩
  refine zlp2_r (fun m x3 x4 M' => ∃ l c, x3 = nI l ∧ x4 = nI c ∧ l ≤ m ∧ c + l ≤ a ∧ bst M' n H L ∧ sp_go H m l M' = sp_go H a a M) ?_ (n := a) ⟨a, 0, rfl, rfl, Nat.le_refl _, by omega, bs, rfl⟩
  rintro m x3 x4 M' ⟨l, c, rfl, rfl, hl, hcl, bs', er⟩ J hJ
  have fin : l = 0 → Q (M' 18 3 - x) M' := fun z => by
    rw [z, sp_go_0] at er
    rw [ex, er]
    exact hQ
  refine ⟨fun d => fin ?_, fun d => ⟨fun d2 => fin ?_, fun d2 => ?_⟩⟩
  · have := (nI_leI (by omega) (by omega)).mp d
    omega
  · have := (nI_leI (b := 0) (by omega) (by omega)).mp d2
    omega
  · have hl0 : 0 < l := (nI_0lt (by omega)).mp (Int32.not_le.mp d2)
    obtain ⟨j, j0, j1, ej, eg, g1, g2, g3⟩ := sp_gd_ok bs' hl0 (by omega)
    obtain ⟨s1, s2, s3⟩ := bst_step bs' g3
    obtain ⟨m', rfl⟩ : ∃ m', m = m' + 1 := ⟨m - 1, by omega⟩
    have stp : wpJ_Main_go_63 (nI a) J Q x (nI l) (nI c) (nI (sp_gd H l M')) M' := by
      refine xt_pass bs'.1 g3 (xt_doAll (sp_pass_ok bs'.1 g3) ?_)
      intro y ey v ev
      rw [ey, ev, q_sub g2, nI_1]
      refine hJ m' _ _ _ (by omega) ⟨l - sp_gd H l M', c + 1, rfl, rfl, by omega, by omega, s1, ?_⟩
      rw [← er]
      show _ = sp_go H (m' + 1) l M'
      rw [sp_go, if_neg (by omega)]
    refine xt_least bs'.1 ⟨fun q => ?_, fun q => ⟨fun q2 => ?_, fun q2 => ?_⟩⟩
    · have e2 : sp_least (M' (18 + 2)) H 0 0 = nI j := ej
      rw [e2] at q
      have := (nI_eq (b := 0) (by omega) (by omega)).mp q
      omega
    · have e2 : sp_least (M' (18 + 2)) H 0 0 = nI j := ej
      rw [e2] at q2 ⊢
      have hle := (nI_leI (by omega) (by omega)).mp q2
      rw [eg, if_pos hle] at stp
      exact stp
    · have e2 : sp_least (M' (18 + 2)) H 0 0 = nI j := ej
      rw [e2] at q2
      have hle : ¬ j ≤ l := fun z => q2 ((nI_leI (by omega) (by omega)).mpr z)
      rw [eg, if_neg hle] at stp
      exact stp
theorem mfp.a {W W' : zMem} (h : mfp 0 W W') : awf W W' := ⟨fun k _ b _ _ => by
  by_cases z : k = 11
  · rw [z]; exact h.2.2.1 (by omega)
  · exact h.1 k b z, fun j _ _ _ => by rw [h.1 0 (by omega) (by omega)], fun j hj => h.2.1 j (by omega)⟩
theorem mw_go {n H L a : Nat} {M W : zMem} {Q : Int32 → zMem → Prop} (vt : sp_vt M 1 n H L) (r : rt0 W M n H L) (st : pst W M n H L) (bs : bst M n H L) (h1 : 1 ≤ a) (h2 : a ≤ 9999) (hQ : ∀ W', W' 0 24 = 1 → pr W' (sp_go H a a M) n H → awf W W' → Q (sp_go H a a M 18 3 - M 18 3) W') : wp_Model_go (nI a) W Q := by
  have H5 : H ≤ 5 := vt.1.2.2.2.1
  refine mt_in (lo' := 1) (hi' := 9999) rfl rfl (fun _ _ => ⟨fun _ => ?_, fun q => absurd q (by decide)⟩) (fun q => absurd ⟨(nI_leI (a := 1) (by omega) (by omega)).mpr h1, (nI_leI (b := 9999) (by omega) (by omega)).mpr h2⟩ q)
  refine mt_awake vt r st (fun W1 h24 hp f1 => ?_)
  have r1 : rt0 W1 M n H L := r.moved (f1.1 4 (by omega) (by omega) (by omega) (by omega)) (fun _ _ => rfl)
  refine mt_asNumbered vt r1 (fun W2 m2 => ?_)
  have n8 : n ≤ 8 := vt.1.2.1
  have x6 : W2 6 = W1 6 := m2.2.2.2.2 6 (by omega) (by omega) (by omega)
  have p2 : pr W2 M n H := hp.moved H5 n8 (fun j _ => by rw [x6])
  have r2 : rt0 W2 M n H L := r1.moved (m2.2.2.2.2 4 (by omega) (by omega) (by omega)) (fun _ _ => rfl)
  have mr2 : mr W2 M 0 1 18 n H L (fun h => h) := p2.mr H5 r2 m2.1 m2.2.1 m2.2.2.1
  have h24b : W2 0 24 = 1 := by rw [m2.2.2.2.1 24 (by omega) (by omega)]; exact h24
  show wp_Model_of 0 (nI 1) W2 _
  refine mw_of (by omega) ?_
  have ed : W2 6 1 = M 18 3 := p2.1.2.1
  rw [ed]
  refine zlp1_r (fun m x W' => ∃ l M', x = nI l ∧ l ≤ a ∧ l ≤ m ∧ bst M' n H L ∧ sp_go H m l M' = sp_go H a a M ∧ mr W' M' 0 1 18 n H L (fun h => h) ∧ W' 6 3 = 0 ∧ (∀ h, H ≤ h → h < 5 → W' 6 (8 + 8 * h + 2) = 0) ∧ W' 0 24 = 1 ∧ W' 0 18 = nI H ∧ awf W2 W') ?_ (n := a) ⟨a, M, rfl, Nat.le_refl _, Nat.le_refl _, bs, rfl, mr2, p2.2.2.2.2.1, p2.2.2.2.2.2, h24b, m2.1, awf.rf⟩
  rintro m x W' ⟨l, M', rfl, hla, hl, bs', er, mr', z3, zu, w24, w18, fw⟩ J hJ
  refine ⟨fun d => ?_, fun d => ?_⟩
  · have hl0 := (nI_leI (b := 0) (by omega) (by omega)).mp d
    have z : l = 0 := by omega
    rw [z, sp_go_0] at er
    show wp_Model_of 0 (nI 1) W' _
    refine mw_of (by omega) ?_
    have pp := mr'.pr z3 zu
    rw [pp.1.2.1, er]
    exact hQ W' w24 (by rw [← er]; exact pp) (f1.tr (m2.a.tr fw))
  · have hl0 : 0 < l := (nI_0lt (by omega)).mp (Int32.not_le.mp d)
    obtain ⟨j, j0, j1, ej, eg, g1, g2, g3⟩ := sp_gd_ok bs' hl0 (by omega)
    obtain ⟨s1, s2, s3⟩ := bst_step bs' g3
    obtain ⟨m', rfl⟩ : ∃ m', m = m' + 1 := ⟨m - 1, by omega⟩
    have stp : wpJ_Model_go_59 (nI a) J Q (M 18 3) (nI l) (nI (sp_gd H l M')) W' := by
      show wp_Model_pass (nI 0) _ W' _
      refine mt_pass bs'.1 mr' (fun q => absurd q (by omega)) g3 (fun W3 r3 _ f3 => ?_)
      show wp_Model_settle (nI 0) W3 _
      refine mt_settle (C := 40) (by omega) (sp_pass_ok bs'.1 g3) r3 (fun q => absurd q (by omega)) (fun W4 r4 f4 _ z4 => ?_)
      intro y ey
      rw [ey, q_sub g2]
      have k0 : ∀ j, W4 0 j = W' 0 j := fun j => by rw [f4.1 0 (by omega) (by omega), f3.1 0 (by omega) (by omega)]
      refine hJ m' _ _ (by omega) ⟨l - sp_gd H l M', _, rfl, by omega, by omega, s1, ?_, r4, z4, fun h a1 a2 => ?_, by rw [k0]; exact w24, by rw [k0]; exact w18, fw.tr (f3.a.tr f4.a)⟩
      · rw [← er]
        show _ = sp_go H (m' + 1) l M'
        rw [sp_go, if_neg (by omega)]
      · have e1 := f4.2.2.2 H h (by rw [f3.1 0 (by omega) (by omega)]; exact w18) a1 a2
        have e2 := f3.2.2.2 h a2
        rw [show 96 * 0 + 8 + 8 * h + 2 = 8 + 8 * h + 2 by omega] at e1 e2
        rw [e1, e2]
        exact zu h a1 a2
    show wp_Model_least (nI 0) W' _
    refine mt_least bs'.1 mr' ⟨fun q => ?_, fun q => ⟨fun q2 => ?_, fun q2 => ?_⟩⟩
    · have e2 : sp_least (M' (18 + 2)) H 0 0 = nI j := ej
      rw [e2] at q
      have := (nI_eq (b := 0) (by omega) (by omega)).mp q
      omega
    · have e2 : sp_least (M' (18 + 2)) H 0 0 = nI j := ej
      rw [e2] at q2 ⊢
      have hle := (nI_leI (by omega) (by omega)).mp q2
      rw [eg, if_pos hle] at stp
      exact stp
    · have e2 : sp_least (M' (18 + 2)) H 0 0 = nI j := ej
      rw [e2] at q2
      have hle : ¬ j ≤ l := fun z => q2 ((nI_leI (by omega) (by omega)).mpr z)
      rw [eg, if_neg hle] at stp
      exact stp
theorem p_go {n H L : Nat} {M W : zMem} {a : Int32} {P : zMem → zMem → Prop} (vt : sp_vt M 1 n H L) (r : rt0 W M n H L) (st : pst W M n H L) (bs : bst M n H L) (hP0 : P M W)
    (hP : ∀ M' W', bst M' n H L → W' 0 24 = 1 → pr W' M' n H → M' 18 0 = M 18 0 → (∀ k, (k < 18 ∨ 27 ≤ k) → M' k = M k) → awf W W' → P M' W') : wp_Main_go a M (fun x M' => wp_Model_go a W (fun y W' => x = y ∧ P M' W')) := by
  by_cases c : 1 ≤ a ∧ a ≤ 9999
  · obtain ⟨j, hj, rfl⟩ := nI_of2 (x := a) (M := 9999) (n := 9999) rfl (fun q => absurd (Int32.lt_of_lt_of_le q (by decide : (0 : Int32) ≤ 1)) (Int32.not_lt.mpr c.1)) c.2
    have j1 := (nI_leI (a := 1) (by omega) (by omega)).mp c.1
    obtain ⟨t1, t2, t3⟩ := sp_go_ok (n := n) (H := H) (L := L) j j M (Nat.le_refl _) (by omega) bs
    exact xt_go bs j1 hj (mw_go vt r st bs j1 hj (fun W' h24 hp f => ⟨rfl, hP _ W' t1 h24 hp t3 t2 f⟩))
  · have no : wp_Model_go a W (fun y W' => -1 = y ∧ P M W') := mt_in (lo' := 1) (hi' := 9999) rfl rfl (fun x y => absurd ⟨x, y⟩ c) (fun _ => ⟨fun q => absurd rfl q, fun _ => ⟨rfl, hP0⟩⟩)
    exact ⟨fun _ => no, fun d => ⟨fun d2 => absurd ⟨Int32.not_lt.mp d, d2⟩ c, fun _ => no⟩⟩
def ci (M : zMem) : Nat → Nat
  | 0 => 0
  | h + 1 => ci M h + (if M 21 h < 0 then 0 else 1)
theorem ci_le (M : zMem) : ∀ h, ci M h ≤ h := by
  intro h
  induction h with
  | zero => exact Nat.le_refl _
  | succ h ih => unfold ci; split <;> omega
theorem xt_coats {n H L : Nat} {M : zMem} {Q : Int32 → zMem → Prop} (ok : sp_ok M 1 18 n H L) (hQ : Q (nI (ci M H)) M) : wp_Bench_coatsInHand 18 M Q := by
  have H5 : H ≤ 5 := ok.2.2.2.1.1.2.2.2.1
  have hH : M 1 1 = nI H := ok.2.2.2.1.2.2.1
  refine zlp2_r (fun m x y M' => ∃ h, x = nI (ci M h) ∧ y = nI h ∧ h ≤ H ∧ m = H - h ∧ M' = M) ?_ (n := H) ⟨0, rfl, rfl, by omega, rfl, rfl⟩
  rintro m x y M' ⟨h, rfl, rfl, hh, rfl, em⟩ J hJ
  rw [em]
  unfold wpB_Bench_coatsInHand_4
  rw [ok.1, hH]
  refine ⟨fun c => ?_, fun c => ?_⟩
  · have := (nI_leI (by omega) (by omega)).mp c
    have e : h = H := by omega
    subst e
    exact hQ
  · have hh2 : h < H := (nI_ltI (by omega) (by omega)).mp (Int32.not_le.mp c)
    rw [q_ix (by omega)]
    refine ⟨vp_in_nI (by omega) (by omega), fun d u eu v ev => ?_, fun d u eu v ev => ?_⟩
    · rw [eu, ev, nI_1]
      refine hJ (H - (h + 1)) _ _ _ (by omega) ⟨h + 1, ?_, rfl, by omega, rfl, rfl⟩
      have d' : M 21 h < 0 := d
      rw [Int32.add_zero]
      show _ = nI (ci M h + (if M 21 h < 0 then 0 else 1))
      rw [if_pos d', Nat.add_zero]
    · rw [eu, ev, nI_1, nI_1]
      refine hJ (H - (h + 1)) _ _ _ (by omega) ⟨h + 1, ?_, rfl, by omega, rfl, rfl⟩
      have d' : ¬ M 21 h < 0 := d
      show _ = nI (ci M h + (if M 21 h < 0 then 0 else 1))
      rw [if_neg d']
theorem mw_put {h j : Nat} {v : Int32} {W : zMem} {Q : zMem → Prop} (hh : h < 5) (hj : j ≤ 5) (hQ : Q (zup W 6 (8 + 8 * h + j) (if 2 ≤ j ∧ j ≤ 4 then v - -4 else v))) : wp_Model_put 0 (nI h) (nI j) v W Q := by
  unfold wp_Model_put
  have e : 96 * 0 + 8 + 8 * nI h + nI j = nI (8 + 8 * h + j) := by simp (disch := omega) only [q_lit, q_add, q_mul, q_sub, q_ix, q_in, q_lt, q_le, q_eq, q_nlt, q_nle, q_ltn, q_len, q_neq, q_eqn, zup_ne, zup_eq, zset_ne, zset_eq, upd_eq, upd_ne, forall_eq, true_and, and_true, true_implies, false_implies, implies_true, not_true_eq_false, not_false_eq_true, and_self, ↓reduceIte, false_and, and_false]
  rw [e, q_ix (by omega)]
  refine mt_in (lo' := 2) (hi' := 4) rfl rfl (fun c1 c2 => ⟨fun q => absurd q (by decide), fun _ => ⟨vp_in_nI (by omega) (by omega), fun W1 e1 => ?_⟩⟩) (fun c => ⟨fun _ => ⟨vp_in_nI (by omega) (by omega), fun W1 e1 => ?_⟩, fun q => absurd rfl q⟩)
  · rw [if_pos ⟨(nI_leI (a := 2) (by omega) (by omega)).mp c1, (nI_leI (b := 4) (by omega) (by omega)).mp c2⟩] at hQ
    rw [e1]; exact hQ
  · rw [if_neg (fun z => c ⟨(nI_leI (a := 2) (by omega) (by omega)).mpr z.1, (nI_leI (b := 4) (by omega) (by omega)).mpr z.2⟩)] at hQ
    rw [e1, Int32.sub_zero]; exact hQ
theorem p_night {n H L : Nat} {M W : zMem} {P : zMem → zMem → Prop} (vt : sp_vt M 1 n H L) (r : rt0 W M n H L) (st : pst W M n H L) (bs : bst M n H L)
    (hP : ∀ M' W', bst M' n H L → W' 0 24 = 1 → pr W' M' n H → M' 18 0 = M 18 0 → (∀ k, (k < 18 ∨ 27 ≤ k) → M' k = M k) → awf W W' → P M' W') : wp_Main_night M (fun x M' => wp_Model_night W (fun y W' => x = y ∧ P M' W')) := by
  obtain ⟨⟨n1, n8, H1, H5, L1, L6⟩, hn, hH, -⟩ := id vt
  refine xt_coats bs.1 ?_
  refine xt_makeReady (fun M1 rd => ?_)
  obtain ⟨r1, r2, r3, r4, r5⟩ := rd
  have k1 : ∀ k, (k < 18 ∨ 27 ≤ k) → M1 k = M k := fun k hk => r5 k (by omega)
  have vt1 : sp_vt M1 1 n H L := vt.moved (fun i hi => k1 _ (by omega))
  have e0 : M1 18 0 = M 18 0 := r3 0 (by omega)
  have ok1 : sp_ok M1 1 18 n H L := ⟨by rw [e0]; exact bs.1.1, by omega, by omega, vt1, ⟨0, by omega, r1⟩, fun h hh => Or.inl ⟨(r2 h (by omega)).1, (r2 h (by omega)).2.1, (r2 h (by omega)).2.2⟩, fun g hg => by rw [zlg_18] at hg; cases hg⟩
  refine xt_doAll ok1 ?_
  obtain ⟨ok2, fr2, hs2⟩ := sp_all_ok ok1
  have ek : ∀ k, (k < 18 ∨ 27 ≤ k) → sp_all 1 18 H M1 k = M k := fun k hk => by
    rw [fr2.1 k (by omega) (fun q => absurd q (by omega))]
    exact k1 k hk
  refine mt_awake vt r st (fun W1 h24 hp f1 => ?_)
  have pc : ∀ h, h < 5 → (if W1 6 (8 + 8 * h + 2) + -4 = -4 then 0 else 1) = (if h < H then (if M 21 h < 0 then 0 else 1) else 0 : Nat) := by
    intro h hh
    by_cases c : h < H
    · rw [if_pos c]
      have hm := (hp.2.1 h c).2.2.2
      rw [show 96 * 0 + 8 + 8 * h = 8 + 8 * h by omega] at hm
      rcases hm with ⟨a1, a2, -⟩ | ⟨p, u, s, hp8, -, -, a1, -, -, a2, -⟩
      · have a1' : M 21 h = -1 := a1
        rw [a2, a1', if_pos (by decide), if_pos (by decide)]
      · have a1' : M 21 h = nI p := a1
        rw [a2, show nI (p + 4) + -4 = nI p from q_m4 p, a1', if_neg (nI_pos (by omega) : ¬ nI p < 0), if_neg]
        intro q
        have := q_neq (a := p) (c := 4) (by omega) (by omega) (by omega)
        exact this.mp q
    · rw [if_neg c, hp.2.2.2.2.2 h (by omega) hh, if_pos (by decide)]
  refine zlp2_r (fun m x y W' => ∃ h, y = nI h ∧ h ≤ 5 ∧ m = 5 - h ∧ x = nI (ci M (if h < H then h else H)) ∧ (∀ g i, g < h → i ≤ 4 → W' 6 (8 + 8 * g + i) = 0) ∧ (∀ j, (∀ g i, g < h → i ≤ 4 → j ≠ 8 + 8 * g + i) → W' 6 j = W1 6 j) ∧ (∀ k, k ≠ 6 → W' k = W1 k)) ?_ (n := 5) ⟨0, rfl, by omega, rfl, by rw [show (if 0 < H then 0 else H) = 0 by split <;> omega]; rfl, fun g i hg => absurd hg (by omega), fun _ _ => rfl, fun _ _ => rfl⟩
  rintro m x y W' ⟨h, rfl, hh, rfl, ex, i1, i2, i3⟩ J hJ
  refine ⟨fun c => ?_, fun c => ?_⟩
  · have := (nI_leI (a := 5) (by omega) (by omega)).mp c
    have e5 : h = 5 := by omega
    subst e5
    have exH : x = nI (ci M H) := by rw [ex]; congr 2; split <;> omega
    refine ⟨vp_in_nI (n := 4) (by omega) (by omega), fun W2 e2 => ?_⟩
    rw [show ix 4 = 4 from rfl] at e2
    have y4 : W2 4 = W 4 := by rw [e2, zup_ne (by omega), i3 4 (by omega), f1.1 4 (by omega) (by omega) (by omega) (by omega)]
    have rt2 : rt0 W2 M1 n H L := r.moved y4 (fun i hi => k1 _ (by omega))
    have g6 : ∀ j, j ≠ 4 → (∀ g i, g < 5 → i ≤ 4 → j ≠ 8 + 8 * g + i) → W2 6 j = W1 6 j := fun j h4 hg => by rw [e2, zup_eq, upd_ne h4]; exact i2 j hg
    have z6 : ∀ g i, g < 5 → i ≤ 4 → W2 6 (8 + 8 * g + i) = 0 := fun g i hg hi => by rw [e2, zup_eq, upd_ne (by omega)]; exact i1 g i hg hi
    refine mt_asNumbered vt1 rt2 (fun W3 m3 => ?_)
    have x6 : W3 6 = W2 6 := m3.2.2.2.2 6 (by omega) (by omega) (by omega)
    have rt3 : rt0 W3 M1 n H L := rt2.moved (m3.2.2.2.2 4 (by omega) (by omega) (by omega)) (fun _ _ => rfl)
    have p3 : pr W3 M1 n H := by
      rw [pr, mr_s, x6]
      refine ⟨⟨?_, ?_, ?_, ?_⟩, fun h hh => ?_, fun h p hh hp' => ?_, fun h p hh hp' h8 => ?_, ?_, fun h a1 a2 => z6 h 2 a2 (by omega)⟩
      · rw [g6 _ (by omega) (fun g i _ _ => by omega), r3 2 (by omega)]; exact hp.1.1
      · rw [g6 _ (by omega) (fun g i _ _ => by omega), r3 3 (by omega)]; exact hp.1.2.1
      · rw [g6 _ (by omega) (fun g i _ _ => by omega), r3 4 (by omega)]; exact hp.1.2.2.1
      · rw [e2, zup_eq, show 96 * 0 + 4 = 4 from rfl, upd_eq, r1]
      · rw [mr_h, x6]
        rw [show 96 * 0 + 8 + 8 * h = 8 + 8 * h by omega]
        refine ⟨?_, ?_, ?_, Or.inl ⟨(r2 h (by omega)).2.2, z6 h 2 (by omega) (by omega), z6 h 3 (by omega) (by omega), z6 h 4 (by omega) (by omega)⟩⟩
        · rw [(r2 h (by omega)).1]; exact z6 h 0 (by omega) (by omega)
        · rw [(r2 h (by omega)).2.1]; exact z6 h 1 (by omega) (by omega)
        · rw [g6 _ (by omega) (fun g i _ _ => by omega), r4 6 (by omega) (by omega)]
          have := (hp.2.1 h hh).2.2.1
          rw [show 96 * 0 + 8 + 8 * h = 8 + 8 * h by omega] at this
          exact this
      · rw [g6 _ (by omega) (fun g i _ _ => by omega), show M1 25 = M 25 from funext (fun _ => by rw [show (25 : Nat) = 18 + 7 from rfl, r4 7 (by omega) (by omega)])]
        exact hp.2.2.1 h p hh hp'
      · rw [g6 _ (by omega) (fun g i _ _ => by omega)]
        exact hp.2.2.2.1 h p hh hp' h8
      · rw [g6 _ (by omega) (fun g i _ _ => by omega)]
        exact hp.2.2.2.2.1
    have mr3 := p3.mr H5 rt3 m3.1 m3.2.1 m3.2.2.1
    show wp_Model_settle (nI 0) W3 _
    refine mt_settle (C := 40) (by omega) ok1 mr3 (fun q => absurd q (by omega)) (fun W4 r4' f4 _ z4 => ⟨exH.symm, ?_⟩)
    have af : awf W1 W2 := ⟨fun k _ q6 _ _ => by rw [e2, zup_ne q6, i3 k q6], fun j _ _ _ => by rw [e2, zup_ne (by omega), i3 0 (by omega)], fun j hj => g6 j (by omega) (fun g i _ _ => by omega)⟩
    refine hP _ W4 ⟨ok2, hs2⟩ ?_ (r4'.pr z4 (fun h a1 a2 => ?_)) (by rw [fr2.2]; exact e0) ek (f1.tr (af.tr (m3.a.tr f4.a)))
    · rw [f4.1 0 (by omega) (by omega), m3.2.2.2.1 24 (by omega) (by omega), e2, zup_ne (by omega), i3 0 (by omega)]; exact h24
    · have e1 := f4.2.2.2 H h m3.1 a1 a2
      rw [show 96 * 0 + 8 + 8 * h + 2 = 8 + 8 * h + 2 by omega] at e1
      rw [e1, x6]
      exact z6 h 2 a2 (by omega)
  · have hh2 : h < 5 := (nI_ltI (b := 5) (by omega) (by omega)).mp (Int32.not_le.mp c)
    have ew : W' 6 (8 + 8 * h + 2) = W1 6 (8 + 8 * h + 2) := i2 _ (fun g i _ _ => by omega)
    have stp : ∀ s : Int32, (s = nI (if W1 6 (8 + 8 * h + 2) + -4 = -4 then 0 else 1)) → wpJ_Model_night_31 J (fun y W' => nI (ci M H) = y ∧ P (sp_all 1 18 H M1) W') (nI h) x s W' := by
      intro s hs v ev
      show wp_Model_put 0 (nI h) (nI 0) _ W' _
      refine mw_put hh2 (by omega) ?_
      show wp_Model_put 0 (nI h) (nI 1) _ _ _
      refine mw_put hh2 (by omega) ?_
      show wp_Model_put 0 (nI h) (nI 2) _ _ _
      refine mw_put hh2 (by omega) ?_
      show wp_Model_put 0 (nI h) (nI 3) _ _ _
      refine mw_put hh2 (by omega) ?_
      show wp_Model_put 0 (nI h) (nI 4) _ _ _
      refine mw_put hh2 (by omega) ?_
      intro u eu
      rw [eu, nI_1]
      refine hJ (5 - (h + 1)) _ _ _ (by omega) ⟨h + 1, rfl, by omega, rfl, ?_, fun g i hg hi => ?_, fun j hj => ?_, fun k hk => by simp (disch := omega) only [zup_ne]; exact i3 k hk⟩
      · rw [ev, ex, hs, pc h hh2, q_add]
        congr 1
        by_cases c1 : h < H
        · rw [if_pos c1, if_pos c1]
          by_cases c2 : h + 1 < H
          · rw [if_pos c2]; rfl
          · rw [if_neg c2, show H = h + 1 by omega]; rfl
        · rw [if_neg c1, if_neg c1, if_neg (by omega), Nat.add_zero]
      · simp only [zup_eq]
        by_cases q : g = h
        · subst q
          rcases (show i = 0 ∨ i = 1 ∨ i = 2 ∨ i = 3 ∨ i = 4 by omega) with rfl | rfl | rfl | rfl | rfl <;> (simp (disch := omega) only [upd_ne, upd_eq]; decide)
        · simp (disch := omega) only [upd_ne]
          exact i1 g i (by omega) hi
      · simp only [zup_eq]
        rw [upd_ne (hj h 4 (by omega) (by omega)), upd_ne (hj h 3 (by omega) (by omega)), upd_ne (hj h 2 (by omega) (by omega)), upd_ne (hj h 1 (by omega) (by omega)), upd_ne (hj h 0 (by omega) (by omega))]
        exact i2 j (fun g i hg hi => hj g i (by omega) hi)
    show wp_Model_at 0 (nI h) (nI 2) W' _
    refine mw_at hh2 (by omega) ?_
    rw [if_pos (by omega), ew]
    refine ⟨fun q => stp 1 ?_, fun q => stp 0 ?_⟩
    · rw [if_neg q]; rfl
    · rw [if_pos q]; rfl
theorem sp_run_fr {t b n H L m : Nat} (hm : m ≤ 120) : ∀ f (M : zMem), sp_rl M t b n H L f → sp_fr b M (sp_run t b H (nI m) f M) := by
  intro f
  induction f with
  | zero => intro M _; exact sp_fr.rf
  | succ f ih =>
    intro M rl
    rw [sp_run_1]
    split
    · rename_i c
      obtain ⟨g, hg, rl2, -, fr⟩ := sp_rl_step rl hm c
      have e : g = f := by omega
      subst e
      exact fr.tr (ih _ rl2)
    · exact sp_fr.rf
/-- R is the run for m coats of what M is told -/
def rq (M : zMem) (n H L m : Nat) (R : zMem) : Prop := ∃ M0 Mc, sp_clear 32 M0 Mc ∧ sp_ok Mc 1 32 n H L ∧ (∀ i, i ≤ 4 → Mc (1 + i) = M (1 + i)) ∧ Mc 30 0 = 0 ∧ R = sp_run 1 32 H (nI m) 12000 (sp_all 1 32 H Mc)
/-- the course that is kept is one of what is told now -/
def cc (M : zMem) (n H L : Nat) : Prop := M 29 2 = 0 ∨ ∃ m R, 1 ≤ m ∧ m ≤ 120 ∧ M 29 2 = nI m ∧ M 29 3 = 0 ∧ rq M n H L m R ∧ ∀ k, 30 ≤ k → k ≤ 40 → M k = R k
theorem xt_course {n H L m : Nat} {M : zMem} {Q : zMem → Prop} (vt : sp_vt M 1 n H L) (ht : ztc (M 32 0) = 1) (h : cc M n H L) (m1 : 1 ≤ m) (hm : m ≤ 120)
    (hQ : ∀ M' R, rq M n H L m R → (∀ k, 30 ≤ k → k ≤ 40 → M' k = R k) → M' 29 2 = nI m → M' 29 3 = 0 → M' 32 0 = M 32 0 → (∀ k, (k < 29 ∨ 41 ≤ k) → M' k = M k) → Q M') : wp_Course_runFor 29 (nI m) M Q := by
  refine xt_runFor vt ht hm (fun q => ?_) (fun _ Mc hc => ?_)
  · rcases h with h | ⟨m', R, b1, b2, b3, b4, b5, b6⟩
    · rw [h] at q
      have := (nI_eq (a := 0) (by omega) (by omega)).mp q
      omega
    · have e : m' = m := (nI_eq (by omega) (by omega)).mp (b3.symm.trans q)
      subst e
      exact hQ M R b5 b6 b3 b4 rfl (fun _ _ => rfl)
  · have k3 : ∀ k, k ≠ 29 → k ≠ 30 → zup (zup (zup M 29 2 (nI m)) 29 3 0) 30 0 0 k = M k := fun k a b => by simp (disch := omega) only [zup_ne]
    have z30 : zup (zup (zup M 29 2 (nI m)) 29 3 0) 30 0 0 30 0 = 0 := by simp (disch := omega) only [zup_eq, upd_eq]
    have vt3 : sp_vt (zup (zup (zup M 29 2 (nI m)) 29 3 0) 30 0 0) 1 n H L := vt.moved (fun i hi => k3 _ (by omega) (by omega))
    have ok : sp_ok Mc 1 32 n H L := sp_ok_clear hc (by rw [k3 32 (by omega) (by omega)]; exact ht) (by omega) (by omega) vt3 (fun g q => by
      rcases zlg_cases 32 with d | ⟨d, -⟩
      · cases d
      · rw [d] at q; cases q; exact ⟨0, z30, by omega⟩)
    have ck := hc.2.2.2.2.2.2.2.2.2
    obtain ⟨ri, fr, -⟩ := sp_ri_0 hc ok
    have fr2 := fr.tr (sp_run_fr (m := m) hm 12000 _ (sp_rl_0 ri))
    have e29 : sp_run 1 32 H (nI m) 12000 (sp_all 1 32 H Mc) 29 = zup (zup (zup M 29 2 (nI m)) 29 3 0) 30 0 0 29 := by rw [fr2.1 29 (by omega) (fun _ => by omega)]; exact ck 29 (by omega)
    refine hQ _ _ ⟨_, Mc, hc, ok, fun i hi => ?_, ?_, rfl⟩ (fun _ _ _ => rfl) ?_ ?_ ?_ (fun k hk => ?_)
    · rw [ck _ (by omega), k3 _ (by omega) (by omega)]
    · rw [ck 30 (by omega)]; exact z30
    · rw [e29]; simp (disch := omega) only [zup_ne, zup_eq, upd_ne, upd_eq]
    · rw [e29]; simp (disch := omega) only [zup_ne, zup_eq, upd_eq]
    · rw [fr2.2, hc.2.2.2.2.1, k3 32 (by omega) (by omega)]
    · rw [fr2.1 k (by omega) (fun _ => by omega), ck k (by omega), k3 k (by omega) (by omega)]
theorem mfw.y {W W' : zMem} (h : mfw W W') : mfy W W' := ⟨fun k a b _ _ e f g h1 i _ => h.1 k a b e f g h1 i, h.2.1, fun j _ _ c => h.2.2 j (by omega) (by omega) (by omega)⟩
/-- the reference's run, against the class's -/
theorem mw_course {n H L m : Nat} {M R W : zMem} {Q : zMem → Prop} (vt : sp_vt M 1 n H L) (r : rt0 W M n H L) (hm : m ≤ 120) (h : rq M n H L m R)
    (hQ : ∀ W', mr W' R 1 1 32 n H L (fun h => h) → ms W' R 1 32 n → W' 6 99 = 0 → mfy W W' → Q W') : wp_Model_asNumbered W (fun W1 => wp_Model_runs (nI m) 0 W1 Q) := by
  obtain ⟨M0, Mc, hc, ok, tc, z30, eR⟩ := h
  refine mt_asNumbered vt r (fun W1 m1 => ?_)
  obtain ⟨a18, a19, ah, a0, ak⟩ := id m1
  have H5 : H ≤ 5 := vt.1.2.2.2.1
  have r1 : rt0 W1 Mc n H L := r.moved (ak 4 (by omega) (by omega) (by omega)) tc
  have t1 : Mc 1 = M 1 := tc 0 (by omega)
  have t5 : Mc 5 = M 5 := tc 4 (by omega)
  have rt : mr_t W1 Mc 1 n H L := mr_t_of (M' := Mc) r1 a18 (by rw [t1]; exact a19) (fun h hh => by rw [t5]; exact (ah h hh).2)
  have rw0 : mw0 W1 Mc 1 n H (fun h => h) := ⟨fun h hh => ⟨by show h < 5; omega, (ah h hh).1⟩, fun h j _ _ e => e, fun h p hh hp => r1.2.2.2.2.2.2.2.2.2.1 h p hh hp⟩
  refine mt_runs hm hc ok rt rw0 (fun _ => z30) (fun W' b1 b2 b3 b4 => ?_)
  rw [← eR] at b1 b2
  exact hQ W' b1 b2 b3 (m1.y.tr b4.y)
theorem xt_isRun {a : Int32} {M : zMem} {Q : Int32 → zMem → Prop} (ht : ∀ m, 1 ≤ m → m ≤ 120 → a = nI m → Q 1 M) (hf : ¬ (1 ≤ a ∧ a ≤ 120) → Q 0 M) : wp_Main_isRun a M Q := by
  refine ⟨fun c => hf (fun q => absurd c (Int32.not_lt.mpr q.1)), fun c => ⟨fun c2 => hf (fun q => absurd c2 (Int32.not_lt.mpr q.2)), fun c2 => ?_⟩⟩
  obtain ⟨m, hm, rfl⟩ := nI_of2 (x := a) (M := 120) (n := 120) rfl (fun q => c (Int32.lt_of_lt_of_le q (by decide : (0 : Int32) ≤ 1))) (Int32.not_lt.mp c2)
  exact ht m ((nI_leI (a := 1) (by omega) (by omega)).mp (Int32.not_lt.mp c)) hm rfl
theorem run_yes {m : Nat} {W : zMem} {Q : Int32 → zMem → Prop} (m1 : 1 ≤ m) (hm : m ≤ 120) (hQ : Q 1 W) : wp_Model_isRun (nI m) W Q := mt_in (lo' := 1) (hi' := 120) rfl rfl (fun _ _ => ⟨Or.inr rfl, hQ⟩) (fun q => absurd ⟨(nI_leI (a := 1) (by omega) (by omega)).mpr m1, (nI_leI (b := 120) (by omega) (by omega)).mpr hm⟩ q)
theorem run_no {a : Int32} {W : zMem} {Q : Int32 → zMem → Prop} (h : ¬ (1 ≤ a ∧ a ≤ 120)) (hQ : Q 0 W) : wp_Model_isRun a W Q := mt_in (lo' := 1) (hi' := 120) rfl rfl (fun x y => absurd ⟨x, y⟩ h) (fun _ => ⟨Or.inl rfl, hQ⟩)
/-- what a question about a run may change, in the class -/
def cfc (M M' : zMem) : Prop := M' 32 0 = M 32 0 ∧ ∀ k, (k < 29 ∨ 41 ≤ k) → M' k = M k
theorem cc.of {M M' R : zMem} {n H L m : Nat} (m1 : 1 ≤ m) (hm : m ≤ 120) (h : rq M n H L m R) (e : ∀ k, 30 ≤ k → k ≤ 40 → M' k = R k) (e2 : M' 29 2 = nI m) (e3 : M' 29 3 = 0) (f : ∀ k, (k < 29 ∨ 41 ≤ k) → M' k = M k) : cc M' n H L := by
  obtain ⟨M0, Mc, a1, a2, a3, a4, a5⟩ := h
  exact Or.inr ⟨m, R, m1, hm, e2, e3, ⟨M0, Mc, a1, a2, fun i hi => (a3 i hi).trans (f _ (by omega)).symm, a4, a5⟩, e⟩
theorem p_waits {n H L : Nat} {M W : zMem} {a1 a2 : Int32} {P : zMem → zMem → Prop} (vt : sp_vt M 1 n H L) (r : rt0 W M n H L) (ht : ztc (M 32 0) = 1) (hcc : cc M n H L) (hP0 : P M W)
    (hP : ∀ M' W', cc M' n H L → cfc M M' → mfy W W' → P M' W') : wp_Main_waits a1 a2 M (fun x M' => wp_Model_waits a1 a2 W (fun y W' => x = y ∧ P M' W')) := by
  obtain ⟨⟨n1, n8, H1, H5, L1, L6⟩, hn, hH, -⟩ := id vt
  refine xt_isRun (fun m m1 hm em => ⟨fun q => absurd q (by decide), fun _ => ?_⟩) (fun nr => ⟨fun _ => run_no nr ⟨fun _ => ⟨rfl, hP0⟩, fun q => absurd rfl q⟩, fun q => absurd rfl q⟩)
  subst em
  refine xt_isHand hH (by omega) (fun h hh eh => ⟨fun _ => ?_, fun q => absurd q (by decide)⟩) (fun nh => ⟨fun q => absurd rfl q, fun _ => run_yes m1 hm ⟨fun q => absurd q (by decide), fun _ => mt_isHand r.2.1 (by omega) (by omega) (fun h hh eh => absurd ⟨h, hh, eh⟩ nh) (fun _ => ⟨fun q => absurd rfl q, fun _ => ⟨rfl, hP0⟩⟩)⟩⟩)
  subst eh
  refine xt_course vt ht hcc m1 hm (fun M' R hr e30 e2 e3 e32 fr => ⟨vp_in_nI (by omega) (by omega), ?_⟩)
  rw [q_ix (by omega)]
  refine run_yes m1 hm ⟨fun q => absurd q (by decide), fun _ => mt_isHand r.2.1 (by omega) (by omega) (fun _ _ _ => ⟨fun _ => ?_, fun q => absurd q (by decide)⟩) (fun q => absurd ⟨h, hh, rfl⟩ q)⟩
  refine mw_course vt r hm hr (fun W' w1 w2 w3 w4 => ?_)
  show wp_Model_at (nI 1) (nI h) (nI 5) W' _
  rw [e_at (by omega) (by omega) (by omega), if_neg (by omega)]
  refine ⟨?_, hP M' W' (cc.of m1 hm hr e30 e2 e3 fr) ⟨e32, fr⟩ w4⟩
  rw [e30 38 (by omega) (by omega), q_x0]
  exact ((w1.2.2.2.1 h hh).2.2.1).symm
/-- how many handings are kept -/
theorem mw_kept {n H L : Nat} {R W : zMem} {Q : Int32 → zMem → Prop} (h : mr W R 1 1 32 n H L (fun h => h)) (hQ : ∀ z, z ≤ 600 → R 30 0 = nI z → (∀ j, j < 5 * z → W 10 j = R 31 j) → Q (nI z) W) : wp_Model_oversKept W Q := by
  obtain ⟨o, o1, o2, o3, o4⟩ := h.2.2.2.2.2 rfl rfl
  have e2 : W 6 98 = nI o := by
    have := h.2.2.2.2.1.2.2.1
    rw [o2] at this
    exact this
  have of2 : ∀ K : Int32 → zMem → Prop, K (nI o) W → wp_Model_of 1 2 W K := fun K k => by
    refine ⟨vp_in_nI (n := 98) (by omega) (by omega), ?_⟩
    show K (W 6 98) W
    rw [e2]; exact k
  refine of2 _ ⟨fun c => ?_, fun c => of2 _ ?_⟩
  · have := (nI_leI (a := 600) (by omega) (by omega)).mp c
    refine hQ 600 (by omega) ?_ (fun j hj => o4 j (by omega) (by omega))
    rw [o3]
    split
    · omega
    · rfl
  · have := (nI_ltI (b := 600) (by omega) (by omega)).mp (Int32.not_le.mp c)
    refine hQ o (by omega) ?_ (fun j hj => o4 j (by omega) (by omega))
    rw [o3, if_pos this]
theorem e_value {k y j : Nat} {M : zMem} {Q : Int32 → zMem → Prop} (hy : y < 600) (hj : j < 5) (hQ : Q (M (k + 1) (y * 5 + j)) M) : wp_Handings_valueOf k (nI y) (nI j) M Q := by
  unfold wp_Handings_valueOf
  have e : nI y * 5 + nI j = nI (y * 5 + j) := by simp (disch := omega) only [q_lit, q_add, q_mul, q_sub, q_ix, q_in, q_lt, q_le, q_eq, q_nlt, q_nle, q_ltn, q_len, q_neq, q_eqn, zup_ne, zup_eq, zset_ne, zset_eq, upd_eq, upd_ne, forall_eq, true_and, and_true, true_implies, false_implies, implies_true, not_true_eq_false, not_false_eq_true, and_self, ↓reduceIte, false_and, and_false]
  rw [e, q_ix (by omega)]
  exact ⟨vp_in_nI (by omega) (by omega), hQ⟩
theorem p_over {n H L : Nat} {M W : zMem} {a1 a2 a3 : Int32} {P : zMem → zMem → Prop} (vt : sp_vt M 1 n H L) (r : rt0 W M n H L) (ht : ztc (M 32 0) = 1) (hcc : cc M n H L) (hP0 : P M W)
    (hP : ∀ M' W', cc M' n H L → cfc M M' → mfy W W' → P M' W') (hPa : ∀ M', cc M' n H L → cfc M M' → P M' W) : wp_Main_over a1 a2 a3 M (fun x M' => wp_Model_over a1 a2 a3 W (fun y W' => x = y ∧ P M' W')) := by
  refine xt_isRun (fun m m1 hm em => ⟨fun q => absurd q (by decide), fun _ => ?_⟩) (fun nr => ⟨fun _ => run_no nr ⟨fun _ => ⟨rfl, hP0⟩, fun q => absurd rfl q⟩, fun q => absurd rfl q⟩)
  subst em
  have bad : ¬ (0 ≤ a3 ∧ a3 ≤ 4) → wp_Model_over (nI m) a2 a3 W (fun y W' => -1 = y ∧ P M W') := fun q => run_yes m1 hm ⟨fun q => absurd q (by decide), fun _ => ⟨fun _ => ⟨rfl, hP0⟩, fun _ => in_no (hi := 4) rfl q ⟨fun q => absurd rfl q, fun _ => ⟨rfl, hP0⟩⟩⟩⟩
  refine ⟨fun c => bad (fun q => absurd c (Int32.not_lt.mpr q.1)), fun c => ⟨fun c2 => ?_, fun c2 => bad (fun q => c2 (Int32.lt_of_le_of_lt q.2 (by decide)))⟩⟩
  obtain ⟨j, hj0, rfl⟩ := nI_of c
  have hj : j < 5 := (nI_ltI (b := 5) (by omega) (by omega)).mp c2
  refine xt_course vt ht hcc m1 hm (fun M' R hr e30 e2 e3 e32 fr => ?_)
  have ccM := cc.of m1 hm hr e30 e2 e3 fr
  refine ⟨fun d => run_yes m1 hm ⟨fun q => absurd q (by decide), fun _ => ⟨fun _ => ⟨rfl, hPa M' ccM ⟨e32, fr⟩⟩, fun q => absurd d q⟩⟩, fun d => ?_⟩
  obtain ⟨y, hy, rfl⟩ := nI_of d
  have way : ∀ x : Int32, (∀ (W' : zMem) (z : Nat), z ≤ 600 → R 30 0 = nI z → (∀ j, j < 5 * z → W' 10 j = R 31 j) → (z ≤ y → x = -1) ∧ (y < z → x = W' 10 (5 * y + j))) → wp_Model_over (nI m) (nI y) (nI j) W (fun v W' => x = v ∧ P M' W') := fun x hx => by
    refine run_yes m1 hm ⟨fun q => absurd q (by decide), fun _ => ⟨fun q => absurd q d, fun _ => in_yes (hi := 4) rfl (by omega) (by omega) ⟨fun _ => ?_, fun q => absurd q (by decide)⟩⟩⟩
    refine mw_course vt r hm hr (fun W' w1 w2 w3 w4 => ?_)
    refine mw_kept w1 (fun z hz ez el => ?_)
    obtain ⟨x1, x2⟩ := hx W' z hz ez el
    have pp := hP M' W' ccM ⟨e32, fr⟩ w4
    refine ⟨fun q => ⟨x1 ((nI_leI (by omega) (by omega)).mp q), pp⟩, fun q => ?_⟩
    have hyz : y < z := (nI_ltI (by omega) (by omega)).mp (Int32.not_le.mp q)
    have e5 : 5 * nI y + nI j = nI (5 * y + j) := by simp (disch := omega) only [q_lit, q_add, q_mul, q_sub, q_ix, q_in, q_lt, q_le, q_eq, q_nlt, q_nle, q_ltn, q_len, q_neq, q_eqn, zup_ne, zup_eq, zset_ne, zset_eq, upd_eq, upd_ne, forall_eq, true_and, and_true, true_implies, false_implies, implies_true, not_true_eq_false, not_false_eq_true, and_self, ↓reduceIte, false_and, and_false]
    rw [e5, q_ix (by omega)]
    exact ⟨vp_in_nI (by omega) (by omega), x2 hyz, pp⟩
  have hz : ∃ z, z ≤ 600 ∧ R 30 0 = nI z := by
    obtain ⟨M0, Mc, hc, ok, tc, z30, eR⟩ := id hr
    obtain ⟨ri, -, -⟩ := sp_ri_0 hc ok
    have key : ∀ f (X : zMem), sp_rl X 1 32 n H L f → ∃ z, z ≤ 600 ∧ sp_run 1 32 H (nI m) f X 30 0 = nI z := by
      intro f
      induction f with
      | zero => intro X rl; obtain ⟨z, z1, z2⟩ := rl.1.1.2.2.2.2.2.2 30 rfl; exact ⟨z, z2, z1⟩
      | succ f ih =>
        intro X rl
        rw [sp_run_1]
        split
        · rename_i c
          obtain ⟨g, hg, rl2, -, -⟩ := sp_rl_step rl hm c
          have e : g = f := by omega
          subst e
          exact ih _ rl2
        · obtain ⟨z, z1, z2⟩ := rl.1.1.2.2.2.2.2.2 30 rfl; exact ⟨z, z2, z1⟩
    rw [eR]
    exact key 12000 _ (sp_rl_0 ri)
  obtain ⟨z, hz6, ez⟩ := hz
  have e300 : M' 30 0 = nI z := by rw [e30 30 (by omega) (by omega)]; exact ez
  rw [e300]
  refine ⟨fun q => ?_, fun q => ?_⟩
  · have hyz := (nI_ltI (by omega) (by omega)).mp q
    refine e_value (by omega) hj (way _ (fun W' z' hz' ez' el => ?_))
    have ezz : z' = z := (nI_eq (by omega) (by omega)).mp (ez'.symm.trans ez)
    subst ezz
    refine ⟨fun h => absurd h (by omega), fun h => ?_⟩
    rw [el (5 * y + j) (by omega), e30 (30 + 1) (by omega) (by omega)]
    congr 1
    omega
  · refine way _ (fun W' z' hz' ez' el => ?_)
    have ezz : z' = z := (nI_eq (by omega) (by omega)).mp (ez'.symm.trans ez)
    subst ezz
    exact ⟨fun _ => rfl, fun h => absurd ((nI_ltI (by omega) (by omega)).mpr h) q⟩
theorem rq_z {n H L m : Nat} {M R : zMem} (hm : m ≤ 120) (hr : rq M n H L m R) : ∃ z, z ≤ 600 ∧ R 30 0 = nI z := by
  obtain ⟨M0, Mc, hc, ok, tc, z30, eR⟩ := id hr
  obtain ⟨ri, -, -⟩ := sp_ri_0 hc ok
  have key : ∀ f (X : zMem), sp_rl X 1 32 n H L f → ∃ z, z ≤ 600 ∧ sp_run 1 32 H (nI m) f X 30 0 = nI z := by
    intro f
    induction f with
    | zero => intro X rl; obtain ⟨z, z1, z2⟩ := rl.1.1.2.2.2.2.2.2 30 rfl; exact ⟨z, z2, z1⟩
    | succ f ih =>
      intro X rl
      rw [sp_run_1]
      split
      · rename_i c
        obtain ⟨g, hg, rl2, -, -⟩ := sp_rl_step rl hm c
        have e : g = f := by omega
        subst e
        exact ih _ rl2
      · obtain ⟨z, z1, z2⟩ := rl.1.1.2.2.2.2.2.2 30 rfl; exact ⟨z, z2, z1⟩
  rw [eR]
  exact key 12000 _ (sp_rl_0 ri)
theorem p_judge {n H L : Nat} {M W : zMem} {a1 a2 a3 a4 a5 : Int32} {P : zMem → zMem → Prop} (vt : sp_vt M 1 n H L) (r : rt0 W M n H L) (ht : ztc (M 32 0) = 1) (hcc : cc M n H L)
    (hP : ∀ M' W', cc M' n H L → cfc M M' → mfy W W' → P M' W') : wp_Main_judge a1 a2 a3 a4 a5 M (fun x M' => wp_Model_judge a1 a2 a3 a4 a5 W (fun y W' => x = y ∧ P M' W')) := by
  show wp_Course_runFor 29 (nI 120) M _
  refine xt_course vt ht hcc (by omega) (by omega) (fun M' R hr e30 e2 e3 e32 fr => ?_)
  have ccM := cc.of (by omega) (by omega) hr e30 e2 e3 fr
  obtain ⟨z, hz6, ez⟩ := rq_z (by omega) hr
  have e300 : M' 30 0 = nI z := by rw [e30 30 (by omega) (by omega)]; exact ez
  have e31 : M' (30 + 1) = R 31 := e30 31 (by omega) (by omega)
  have way : ∀ x : Int32, (∀ W' : zMem, (∀ j, j < 5 * z → W' 10 j = R 31 j) → (¬ (0 ≤ a1 ∧ a1 ≤ nI z - 1) → x = -1) ∧ (∀ y, y < z → a1 = nI y → (a2 = R 31 (5 * y) → (a3 = R 31 (5 * y + 1) → (a4 = R 31 (5 * y + 2) → (a5 = R 31 (5 * y + 3) → x = 0) ∧ (¬ a5 = R 31 (5 * y + 3) → x = 4)) ∧ (¬ a4 = R 31 (5 * y + 2) → x = 3)) ∧ (¬ a3 = R 31 (5 * y + 1) → x = 2)) ∧ (¬ a2 = R 31 (5 * y) → x = 1))) → wp_Model_judge a1 a2 a3 a4 a5 W (fun v W' => x = v ∧ P M' W') := by
    intro x hx
    refine mw_course (m := 120) vt r (by omega) hr (fun W' w1 w2 w3 w4 => ?_)
    refine mw_kept w1 (fun z' hz' ez' el => ?_)
    have ezz : z' = z := (nI_eq (by omega) (by omega)).mp (ez'.symm.trans ez)
    subst ezz
    obtain ⟨x1, x2⟩ := hx W' el
    have pp := hP M' W' ccM ⟨e32, fr⟩ w4
    refine mt_in (lo' := 0) (hi' := nI z' - 1) rfl rfl (fun c1 c2 => ⟨fun _ => ?_, fun q => absurd q (by decide)⟩) (fun c => ⟨fun q => absurd rfl q, fun _ => ⟨x1 c, pp⟩⟩)
    have z0 : 0 < z' := by
      rcases Nat.eq_zero_or_pos z' with q | q
      · rw [q] at c2
        exact absurd (Int32.le_trans c1 c2) (by decide)
      · exact q
    obtain ⟨y, hy, rfl⟩ := (rng_1 z0 (by omega)).mp ⟨c1, c2⟩
    have x2 := x2 y hy rfl
    have f0 : 5 * nI y = nI (5 * y) := by simp (disch := omega) only [q_lit, q_add, q_mul, q_sub, q_ix, q_in, q_lt, q_le, q_eq, q_nlt, q_nle, q_ltn, q_len, q_neq, q_eqn, zup_ne, zup_eq, zset_ne, zset_eq, upd_eq, upd_ne, forall_eq, true_and, and_true, true_implies, false_implies, implies_true, not_true_eq_false, not_false_eq_true, and_self, ↓reduceIte, false_and, and_false]
    have f1 : nI (5 * y) + 1 = nI (5 * y + 1) := nI_1 _
    have f2 : nI (5 * y) + 2 = nI (5 * y + 2) := q_add _ 2
    have f3 : nI (5 * y) + 3 = nI (5 * y + 3) := q_add _ 3
    rw [f0, f1, f2, f3, q_ix (by omega), q_ix (by omega), q_ix (by omega), q_ix (by omega), el (5 * y) (by omega), el (5 * y + 1) (by omega), el (5 * y + 2) (by omega), el (5 * y + 3) (by omega)]
    refine ⟨vp_in_nI (by omega) (by omega), fun q0 => ⟨vp_in_nI (by omega) (by omega), fun q1 => ⟨vp_in_nI (by omega) (by omega), fun q2 => ⟨vp_in_nI (by omega) (by omega), fun q3 => ⟨?_, pp⟩, fun q3 => ⟨?_, pp⟩⟩, fun q2 => ⟨?_, pp⟩⟩, fun q1 => ⟨?_, pp⟩⟩, fun q0 => ⟨?_, pp⟩⟩
    · exact (((x2.1 q0).1 q1).1 q2).1 q3
    · exact (((x2.1 q0).1 q1).1 q2).2 q3
    · exact ((x2.1 q0).1 q1).2 q2
    · exact (x2.1 q0).2 q1
    · exact x2.2 q0
  rw [e300]
  have bad : ¬ (∃ y, y < z ∧ a1 = nI y) → wp_Model_judge a1 a2 a3 a4 a5 W (fun v W' => -1 = v ∧ P M' W') := fun nb => way (-1) (fun W' _ => ⟨fun _ => rfl, fun y hy e => absurd ⟨y, hy, e⟩ nb⟩)
  refine ⟨fun c => bad (fun ⟨y, hy, e⟩ => ?_), fun c => ⟨fun c2 => ?_, fun c2 => bad (fun ⟨y, hy, e⟩ => ?_)⟩⟩
  · rw [e] at c; exact absurd c (nI_pos (by omega))
  · obtain ⟨y, hy0, rfl⟩ := nI_of c
    have hy := (nI_ltI (by omega) (by omega)).mp c2
    have good : ¬ (¬ ((0 : Int32) ≤ nI y ∧ nI y ≤ nI z - 1)) := fun q => q ((rng_1 (by omega) (by omega)).mpr ⟨y, hy, rfl⟩)
    have way2 : ∀ x : Int32, ((a2 = R 31 (5 * y) → (a3 = R 31 (5 * y + 1) → (a4 = R 31 (5 * y + 2) → (a5 = R 31 (5 * y + 3) → x = 0) ∧ (¬ a5 = R 31 (5 * y + 3) → x = 4)) ∧ (¬ a4 = R 31 (5 * y + 2) → x = 3)) ∧ (¬ a3 = R 31 (5 * y + 1) → x = 2)) ∧ (¬ a2 = R 31 (5 * y) → x = 1)) → wp_Model_judge (nI y) a2 a3 a4 a5 W (fun v W' => x = v ∧ P M' W') := fun x hx => way x (fun W' _ => ⟨fun q => absurd q good, fun y' hy' e => by
      have := (nI_eq (by omega) (by omega)).mp e
      subst this
      exact hx⟩)
    have v0 : M' (30 + 1) (y * 5 + 0) = R 31 (5 * y) := by rw [e31]; congr 1; omega
    have v1 : M' (30 + 1) (y * 5 + 1) = R 31 (5 * y + 1) := by rw [e31]; congr 1; omega
    have v2 : M' (30 + 1) (y * 5 + 2) = R 31 (5 * y + 2) := by rw [e31]; congr 1; omega
    have v3 : M' (30 + 1) (y * 5 + 3) = R 31 (5 * y + 3) := by rw [e31]; congr 1; omega
    refine e_value (j := 0) (by omega) (by omega) ?_
    rw [v0]
    refine ⟨fun q0 => e_value (j := 1) (by omega) (by omega) ?_, fun q0 => way2 1 ⟨fun q => absurd q.symm q0, fun _ => rfl⟩⟩
    rw [v1]
    refine ⟨fun q1 => e_value (j := 2) (by omega) (by omega) ?_, fun q1 => way2 2 ⟨fun _ => ⟨fun q => absurd q.symm q1, fun _ => rfl⟩, fun q => absurd q0.symm q⟩⟩
    rw [v2]
    refine ⟨fun q2 => e_value (j := 3) (by omega) (by omega) ?_, fun q2 => way2 3 ⟨fun _ => ⟨fun _ => ⟨fun q => absurd q.symm q2, fun _ => rfl⟩, fun q => absurd q1.symm q⟩, fun q => absurd q0.symm q⟩⟩
    rw [v3]
    exact ⟨fun q3 => way2 0 ⟨fun _ => ⟨fun _ => ⟨fun _ => ⟨fun _ => rfl, fun q => absurd q3.symm q⟩, fun q => absurd q2.symm q⟩, fun q => absurd q1.symm q⟩, fun q => absurd q0.symm q⟩, fun q3 => way2 4 ⟨fun _ => ⟨fun _ => ⟨fun _ => ⟨fun q => absurd q.symm q3, fun _ => rfl⟩, fun q => absurd q2.symm q⟩, fun q => absurd q1.symm q⟩, fun q => absurd q0.symm q⟩⟩
  · rw [e] at c2; exact c2 ((nI_ltI (by omega) (by omega)).mpr hy)
def wsum (f : Nat → Int32) : Nat → Int32
  | 0 => 0
  | h + 1 => wsum f h + f h
theorem wsum_congr {f g : Nat → Int32} : ∀ h, (∀ i, i < h → f i = g i) → wsum f h = wsum g h := by
  intro h
  induction h with
  | zero => intro _; rfl
  | succ h ih => intro e; unfold wsum; rw [ih (fun i hi => e i (by omega)), e h (by omega)]
theorem xt_waited {H : Nat} {M : zMem} {Q : Int32 → zMem → Prop} (ht : ztc (M 32 0) = 1) (hH : M 1 1 = nI H) (H5 : H ≤ 5) (hQ : Q (wsum (M 38) H) M) : wp_Bench_waitedByAll 32 M Q := by
  refine zlp2_r (fun m x y M' => ∃ h, x = wsum (M 38) h ∧ y = nI h ∧ h ≤ H ∧ m = H - h ∧ M' = M) ?_ (n := H) ⟨0, rfl, rfl, by omega, rfl, rfl⟩
  rintro m x y M' ⟨h, ex, ey, hh, em, eM⟩ J hJ
  rw [eM, ey]
  unfold wpB_Bench_waitedByAll_4
  rw [ht, hH]
  refine ⟨fun c => ?_, fun c => ?_⟩
  · have := (nI_leI (by omega) (by omega)).mp c
    have e : h = H := by omega
    rw [ex, e]
    exact hQ
  · have hh2 : h < H := (nI_ltI (by omega) (by omega)).mp (Int32.not_le.mp c)
    rw [q_ix (by omega)]
    refine ⟨vp_in_nI (by omega) (by omega), fun u eu v ev => ?_⟩
    rw [ev, nI_1]
    exact hJ (H - (h + 1)) _ _ _ (by omega) ⟨h + 1, by rw [eu, ex]; rfl, rfl, by omega, rfl, rfl⟩
def bm (f : Nat → Int32) : Nat → Nat
  | 0 => 0
  | k + 1 => if f k ≤ f (bm f k) then bm f k else k
theorem bm_lt (f : Nat → Int32) : ∀ k, 0 < k → bm f k < k := by
  intro k
  induction k with
  | zero => intro h; omega
  | succ k ih =>
    intro _
    unfold bm
    split
    · rcases Nat.eq_zero_or_pos k with q | q
      · rw [q]; exact Nat.zero_lt_one
      · have := ih q; omega
    · omega
theorem bm_congr {f g : Nat → Int32} : ∀ k, (∀ i, i < k → f i = g i) → bm f k = bm g k := by
  intro k
  induction k with
  | zero => intro _; rfl
  | succ k ih =>
    intro e
    have e1 := ih (fun i hi => e i (by omega))
    unfold bm
    rw [← e1]
    have e2 : f (bm f k) = g (bm f k) := by
      rcases Nat.eq_zero_or_pos k with q | q
      · rw [q]; exact e 0 (by omega)
      · exact e _ (by have := bm_lt f k q; omega)
    rw [e k (by omega), e2]
theorem xt_most {n : Nat} {M : zMem} {Q : Int32 → zMem → Prop} (ht : ztc (M 32 0) = 1) (hn : M 1 0 = nI n) (n1 : 1 ≤ n) (n8 : n ≤ 8) (hQ : Q (if M 40 (bm (M 40) n) ≤ 0 then -4 else nI (bm (M 40) n)) M) : wp_Bench_mostStoodAt 32 M Q := by
  refine zlp2_r (fun m x y M' => ∃ k, x = nI (bm (M 40) k) ∧ y = nI k ∧ 1 ≤ k ∧ k ≤ n ∧ m = n - k ∧ M' = M) ?_ (n := n - 1) ⟨1, by unfold bm; rw [show bm (M 40) 0 = 0 from rfl, if_pos (Int32.le_refl _)]; rfl, rfl, by omega, n1, rfl, rfl⟩
  rintro m x y M' ⟨k, ex, ey, k1, hk, em, eM⟩ J hJ
  have hb := bm_lt (M 40) k (by omega)
  rw [eM, ex, ey]
  unfold wpB_Bench_mostStoodAt_4
  rw [ht, hn, q_ix (by omega), q_ix (by omega)]
  refine ⟨fun c => ?_, fun c => ?_⟩
  · have := (nI_leI (by omega) (by omega)).mp c
    have e : k = n := by omega
    rw [e] at hb ⊢
    refine ⟨vp_in_nI (by omega) (by omega), fun d => ?_, fun d => ?_⟩
    · have d' : M 40 (bm (M 40) n) ≤ 0 := d
      rw [if_pos d'] at hQ
      exact hQ
    · have d' : ¬ M 40 (bm (M 40) n) ≤ 0 := d
      rw [if_neg d'] at hQ
      exact hQ
  · have hk2 : k < n := (nI_ltI (by omega) (by omega)).mp (Int32.not_le.mp c)
    refine ⟨vp_in_nI (by omega) (by omega), vp_in_nI (by omega) (by omega), fun d v ev => ?_, fun d v ev => ?_⟩
    · have d' : M 40 k ≤ M 40 (bm (M 40) k) := d
      rw [ev, nI_1]
      exact hJ (n - (k + 1)) _ _ _ (by omega) ⟨k + 1, by rw [bm, if_pos d'], rfl, by omega, by omega, rfl, rfl⟩
    · have d' : ¬ M 40 k ≤ M 40 (bm (M 40) k) := d
      rw [ev, nI_1]
      exact hJ (n - (k + 1)) _ _ _ (by omega) ⟨k + 1, by rw [bm, if_neg d'], rfl, by omega, by omega, rfl, rfl⟩
theorem mw_sum {n H L : Nat} {a1 a2 x4 x5 : Int32} {R W : zMem} {K : Int32 → zMem → Prop} {Q : Int32 → zMem → Prop} (w : mr W R 1 1 32 n H L (fun h => h)) (H5 : H ≤ 5) (hK : K (wsum (R 38) H) W) : ∃ k, zlp2 (wpB_Model_run_43 a1 a2 x4 x5 K Q) k 0 0 W := by
  have h18 : W 0 18 = nI H := w.2.1.2.1
  refine zlp2_r (fun m x y W' => ∃ h, x = wsum (R 38) h ∧ y = nI h ∧ h ≤ H ∧ m = H - h ∧ W' = W) ?_ (n := H) ⟨0, rfl, rfl, by omega, rfl, rfl⟩
  rintro m x y W' ⟨h, ex, ey, hh, em, eW⟩ J hJ
  rw [eW, ey]
  unfold wpB_Model_run_43
  rw [h18]
  refine ⟨fun c => ?_, fun c => ?_⟩
  · have := (nI_leI (by omega) (by omega)).mp c
    have e : h = H := by omega
    rw [ex, e]
    exact hK
  · have hh2 : h < H := (nI_ltI (by omega) (by omega)).mp (Int32.not_le.mp c)
    show wp_Model_at (nI 1) (nI h) (nI 5) W _
    rw [e_at (by omega) (by omega) (by omega), if_neg (by omega), q_x0, (w.2.2.2.1 h hh2).2.2.1]
    intro u eu v ev
    rw [ev, nI_1]
    exact hJ (H - (h + 1)) _ _ _ (by omega) ⟨h + 1, by rw [eu, ex]; rfl, rfl, by omega, rfl, rfl⟩
theorem mw_most {n H L : Nat} {a1 a2 x3 : Int32} {R W : zMem} {K : Int32 → zMem → Prop} {Q : Int32 → zMem → Prop} (w : mr W R 1 1 32 n H L (fun h => h)) (s : ms W R 1 32 n) (n1 : 1 ≤ n) (n8 : n ≤ 8) (hK : K (if R 40 (bm (R 40) n) ≤ 0 then -4 else nI (bm (R 40) n)) W) : ∃ k, zlp3 (wpB_Model_run_72 a1 a2 x3 K Q) k (-4) 0 0 W := by
  have h40 : W 4 0 = nI n := w.2.1.1
  have hs : ∀ p, p < n → W 11 p = R 40 p := s rfl
  refine zlp3_r (fun m x y v W' => ∃ k, v = nI k ∧ k ≤ n ∧ m = n - k ∧ W' = W ∧ ((x = -4 ∧ y = 0 ∧ (0 < k → R 40 (bm (R 40) k) ≤ 0)) ∨ (0 < k ∧ 0 < R 40 (bm (R 40) k) ∧ x = nI (bm (R 40) k) ∧ y = R 40 (bm (R 40) k)))) ?_ (n := n) ⟨0, rfl, by omega, rfl, rfl, Or.inl ⟨rfl, rfl, fun q => absurd q (by omega)⟩⟩
  rintro m x y v W' ⟨k, ev, hk, em, eW, hx⟩ J hJ
  rw [eW, ev]
  unfold wpB_Model_run_72
  rw [show ix 0 = 0 from rfl, h40]
  refine ⟨vp_in_nI (n := 0) (by omega) (by omega), fun c => ?_, fun c => ?_⟩
  · have := (nI_leI (by omega) (by omega)).mp c
    have e : k = n := by omega
    rw [e] at hx
    rcases hx with ⟨q1, -, q3⟩ | ⟨-, q2, q3, -⟩
    · rw [if_pos (q3 (by omega))] at hK
      rw [q1]; exact hK
    · rw [if_neg (Int32.not_le.mpr q2)] at hK
      rw [q3]; exact hK
  · have hk2 : k < n := (nI_ltI (by omega) (by omega)).mp (Int32.not_le.mp c)
    have v8 : vp_in (nI k) 8 := vp_in_nI (by omega) (by omega)
    have ew := hs k hk2
    have keep : W 11 k ≤ y → wpJ_Model_run_102 a1 a2 K J Q x3 y (nI k) x W := by
      intro d
      refine ⟨v8, fun _ u eu => ?_, fun q => absurd (by rw [q_ix (by omega)]; exact d) q⟩
      rw [eu, nI_1]
      refine hJ (n - (k + 1)) _ _ _ _ (by omega) ⟨k + 1, rfl, by omega, rfl, rfl, ?_⟩
      rw [ew] at d
      rcases hx with ⟨q1, q2, q3⟩ | ⟨q0, q1, q2, q3⟩
      · rw [q2] at d
        refine Or.inl ⟨q1, q2, fun _ => ?_⟩
        rw [bm]
        split
        · rcases Nat.eq_zero_or_pos k with z | z
          · rw [z] at d ⊢; exact d
          · exact q3 z
        · exact d
      · rw [q3] at d
        have eb : bm (R 40) (k + 1) = bm (R 40) k := by rw [bm, if_pos d]
        rw [eb]
        exact Or.inr ⟨by omega, q1, q2, q3⟩
    have take : ¬ W 11 k ≤ y → wpJ_Model_run_102 a1 a2 K J Q x3 y (nI k) (nI k) W := by
      intro d
      refine ⟨v8, fun q => absurd (by rw [q_ix (by omega)] at q; exact q) d, fun _ => ⟨v8, fun u eu u2 eu2 => ?_⟩⟩
      rw [q_ix (by omega), ew] at eu
      rw [eu, eu2, nI_1]
      refine hJ (n - (k + 1)) _ _ _ _ (by omega) ⟨k + 1, rfl, by omega, rfl, rfl, ?_⟩
      rw [ew] at d
      have d2 := Int32.not_le.mp d
      rcases hx with ⟨q1, q2, q3⟩ | ⟨q0, q1, q2, q3⟩
      · rw [q2] at d2
        have eb : bm (R 40) (k + 1) = k := by
          rw [bm]
          split
          · rename_i q
            rcases Nat.eq_zero_or_pos k with z | z
            · rw [z]; rfl
            · exact absurd (Int32.lt_of_lt_of_le d2 (Int32.le_trans q (q3 z))) (Int32.lt_irrefl)
          · rfl
        rw [eb]
        exact Or.inr ⟨by omega, d2, rfl, rfl⟩
      · rw [q3] at d d2
        have eb : bm (R 40) (k + 1) = k := by rw [bm, if_neg d]
        rw [eb]
        exact Or.inr ⟨by omega, Int32.lt_trans q1 d2, rfl, rfl⟩
    refine ⟨v8, fun d => keep ?_, fun d => take ?_⟩
    · rw [q_ix (by omega)] at d; exact d
    · rw [q_ix (by omega)] at d; exact d
theorem p_run {n H L : Nat} {M W : zMem} {a1 a2 : Int32} {P : zMem → zMem → Prop} (vt : sp_vt M 1 n H L) (r : rt0 W M n H L) (ht : ztc (M 32 0) = 1) (hcc : cc M n H L) (hP0 : P M W)
    (hP : ∀ M' W', cc M' n H L → cfc M M' → mfy W W' → P M' W') : wp_Main_run a1 a2 M (fun x M' => wp_Model_run a1 a2 W (fun y W' => x = y ∧ P M' W')) := by
  obtain ⟨⟨n1, n8, H1, H5, L1, L6⟩, hn, hH, -⟩ := id vt
  refine xt_isRun (fun m m1 hm em => ⟨fun q => absurd q (by decide), fun _ => ?_⟩) (fun nr => ⟨fun _ => run_no nr ⟨fun _ => ⟨rfl, hP0⟩, fun q => absurd rfl q⟩, fun q => absurd rfl q⟩)
  subst em
  have bad : ¬ (0 ≤ a2 ∧ a2 ≤ 5) → wp_Model_run (nI m) a2 W (fun y W' => -1 = y ∧ P M W') := fun q => run_yes m1 hm ⟨fun q => absurd q (by decide), fun _ => in_no (hi := 5) rfl q ⟨fun q => absurd rfl q, fun _ => ⟨rfl, hP0⟩⟩⟩
  refine ⟨fun c => bad (fun q => absurd c (Int32.not_lt.mpr q.1)), fun c => ⟨fun c2 => ?_, fun c2 => bad (fun q => c2 q.2)⟩⟩
  obtain ⟨j, hj, rfl⟩ := nI_of2 (x := a2) (M := 5) (n := 5) rfl c c2
  refine xt_course vt ht hcc m1 hm (fun M' R hr e30 e2 e3 e32 fr => ?_)
  have ccM := cc.of m1 hm hr e30 e2 e3 fr
  have way : ∀ x : Int32, (∀ W', mr W' R 1 1 32 n H L (fun h => h) → W' 6 99 = 0 → (j < 4 → x = W' 6 (96 + j)) ∧ (j = 4 → x = wsum (R 38) H) ∧ (j = 5 → x = if R 40 (bm (R 40) n) ≤ 0 then -4 else nI (bm (R 40) n))) → wp_Model_run (nI m) (nI j) W (fun v W' => x = v ∧ P M' W') := by
    intro x hx
    refine run_yes m1 hm ⟨fun q => absurd q (by decide), fun _ => in_yes (hi := 5) rfl (by omega) (by omega) ⟨fun _ => ?_, fun q => absurd q (by decide)⟩⟩
    refine mw_course vt r hm hr (fun W' w1 w2 w3 w4 => ?_)
    have pp := hP M' W' ccM ⟨e32, fr⟩ w4
    obtain ⟨x1, x2, x3⟩ := hx W' w1 w3
    refine mw_sum w1 H5 (mw_most w1 w2 n1 n8 ⟨fun d => ?_, fun d => ?_⟩)
    · have d4 := (nI_leI (a := 4) (by omega) (by omega)).mp d
      refine ⟨fun q => ⟨x3 ?_, pp⟩, fun q => ⟨x2 ?_, pp⟩⟩
      · rcases (show j = 4 ∨ j = 5 by omega) with z | z
        · rw [z] at q; exact absurd rfl q
        · exact z
      · exact (nI_eq (b := 4) (by omega) (by omega)).mp q
    · have d4 : j < 4 := (nI_ltI (b := 4) (by omega) (by omega)).mp (Int32.not_le.mp d)
      have e5 : 96 * 1 + nI j = nI (96 + j) := by simp (disch := omega) only [q_lit, q_add, q_mul, q_sub, q_ix, q_in, q_lt, q_le, q_eq, q_nlt, q_nle, q_ltn, q_len, q_neq, q_eqn, zup_ne, zup_eq, zset_ne, zset_eq, upd_eq, upd_ne, forall_eq, true_and, and_true, true_implies, false_implies, implies_true, not_true_eq_false, not_false_eq_true, and_self, ↓reduceIte, false_and, and_false]
      unfold wp_Model_of
      rw [e5, q_ix (by omega)]
      exact ⟨vp_in_nI (by omega) (by omega), x1 d4, pp⟩
  have t1 : M' 1 = M 1 := fr 1 (by omega)
  have h32 : M' 32 = R 32 := e30 32 (by omega) (by omega)
  have h38 : M' 38 = R 38 := e30 38 (by omega) (by omega)
  have h40 : M' 40 = R 40 := e30 40 (by omega) (by omega)
  intro x ex
  refine ⟨fun q => ?_, fun q => ?_, fun q => ?_, fun q => ⟨fun _ => ?_, fun z => absurd e3 z⟩, fun q => ?_, fun q0 q1 q2 q3 q4 => ?_⟩
  · have ej : j = 0 := (nI_eq (b := 0) (by omega) (by omega)).mp (ex.symm.trans q)
    refine way _ (fun W' w1 w3 => ⟨fun _ => ?_, fun z => absurd z (by omega), fun z => absurd z (by omega)⟩)
    rw [ej, h32]; exact w1.2.2.2.2.1.1.symm
  · have ej : j = 1 := (nI_eq (b := 1) (by omega) (by omega)).mp (ex.symm.trans q)
    refine way _ (fun W' w1 w3 => ⟨fun _ => ?_, fun z => absurd z (by omega), fun z => absurd z (by omega)⟩)
    rw [ej, h32]; exact w1.2.2.2.2.1.2.1.symm
  · have ej : j = 2 := (nI_eq (b := 2) (by omega) (by omega)).mp (ex.symm.trans q)
    refine way _ (fun W' w1 w3 => ⟨fun _ => ?_, fun z => absurd z (by omega), fun z => absurd z (by omega)⟩)
    rw [ej, h32]; exact w1.2.2.2.2.1.2.2.1.symm
  · have ej : j = 3 := (nI_eq (b := 3) (by omega) (by omega)).mp (ex.symm.trans q)
    refine way _ (fun W' w1 w3 => ⟨fun _ => ?_, fun z => absurd z (by omega), fun z => absurd z (by omega)⟩)
    rw [ej]; exact w3.symm
  · have ej : j = 4 := (nI_eq (b := 4) (by omega) (by omega)).mp (ex.symm.trans q)
    refine xt_waited (by rw [e32]; exact ht) (by rw [t1]; exact hH) H5 (way _ (fun W' w1 w3 => ⟨fun z => absurd z (by omega), fun _ => by rw [h38], fun z => absurd z (by omega)⟩))
  · have ej : j = 5 := by
      rcases (show j = 0 ∨ j = 1 ∨ j = 2 ∨ j = 3 ∨ j = 4 ∨ j = 5 by omega) with z | z | z | z | z | z
      · rw [z] at ex; exact absurd ex q0
      · rw [z] at ex; exact absurd ex q1
      · rw [z] at ex; exact absurd ex q2
      · rw [z] at ex; exact absurd ex q3
      · rw [z] at ex; exact absurd ex q4
      · exact z
    refine xt_most (by rw [e32]; exact ht) (by rw [t1]; exact hn) n1 n8 (way _ (fun W' w1 w3 => ⟨fun z => absurd z (by omega), fun z => absurd z (by omega), fun _ => by rw [h40]⟩))
/-- two benches, each of its own memory, that go the same way -/
def ag (b b' H : Nat) (M N : zMem) : Prop :=
  ((∀ j, j ≤ 6 → M 1 j = N 1 j) ∧ (∀ j, j < 6 → M 2 j = N 2 j) ∧ (∀ j, j < 24 → M 3 j = N 3 j) ∧ (∀ j, j < 40 → M 4 j = N 4 j) ∧ (∀ j, j < 5 → M 5 j = N 5 j)) ∧
  (∀ j, 2 ≤ j → j ≤ 5 → M b j = N b' j) ∧
  (∀ h, h < H → M (b + 1) h = N (b' + 1) h ∧ M (b + 2) h = N (b' + 2) h ∧ M (b + 3) h = N (b' + 3) h ∧ (M (b + 3) h = -1 ∨ (M (b + 4) h = N (b' + 4) h ∧ M (b + 5) h = N (b' + 5) h))) ∧
  (∀ j, j < 40 → M (b + 7) j = N (b' + 7) j)
theorem ag_start {b b' n H L h : Nat} {M N : zMem} (a : ag b b' H M N) (hb : 18 ≤ b) (hb' : 18 ≤ b') (hh : h < H) (H5 : H ≤ 5) (p : Nat) (hp : p < 8) (ep : M (b + 3) h = nI p) : ag b b' H (sp_start 1 b h M) (sp_start 1 b' h N) := by
  obtain ⟨⟨t0, t1, t2, t3, t4⟩, a1, a2, a3⟩ := a
  have ep' : N (b' + 3) h = nI p := by rw [← (a2 h hh).2.2.1]; exact ep
  have et : sp_ticks 1 h (ix (M (b + 3) h)) (M (b + 7) (h * 8 + ix (M (b + 3) h))) M = sp_ticks 1 h (ix (N (b' + 3) h)) (N (b' + 7) (h * 8 + ix (N (b' + 3) h))) N := by
    rw [ep, ep', q_ix (by omega)]
    unfold sp_ticks
    rw [a3 (h * 8 + p) (by omega), t0 3 (by omega), show M (1 + 3) (h * 8 + p) = N (1 + 3) (h * 8 + p) from t3 _ (by omega)]
  unfold sp_start
  rw [et]
  refine ⟨⟨fun j hj => ?_, fun j hj => ?_, fun j hj => ?_, fun j hj => ?_, fun j hj => ?_⟩, fun j h2 h5 => ?_, fun i hi => ?_, fun j hj => ?_⟩
  · rw [zup_ne (by omega), zup_ne (by omega), zup_ne (by omega), zup_ne (by omega)]; exact t0 j hj
  · rw [zup_ne (by omega), zup_ne (by omega), zup_ne (by omega), zup_ne (by omega)]; exact t1 j hj
  · rw [zup_ne (by omega), zup_ne (by omega), zup_ne (by omega), zup_ne (by omega)]; exact t2 j hj
  · rw [zup_ne (by omega), zup_ne (by omega), zup_ne (by omega), zup_ne (by omega)]; exact t3 j hj
  · rw [zup_ne (by omega), zup_ne (by omega), zup_ne (by omega), zup_ne (by omega)]; exact t4 j hj
  · rw [zup_ne (by omega), zup_ne (by omega), zup_ne (by omega), zup_ne (by omega)]; exact a1 j h2 h5
  · obtain ⟨c1, c2, c3, c4⟩ := a2 i hi
    by_cases q : i = h
    · subst q
      simp (disch := omega) only [zup_ne, zup_eq, upd_eq]
      exact ⟨trivial, trivial, c3, c4⟩
    · simp (disch := omega) only [zup_ne, zup_eq, upd_ne]
      exact ⟨c1, c2, c3, c4⟩
  · rw [zup_ne (by omega), zup_ne (by omega), zup_ne (by omega), zup_ne (by omega)]; exact a3 j hj
theorem ag_mk {b b' H : Nat} {M N M' N' : zMem} (a : ag b b' H M N) (hM : ∀ i, i ≤ 4 → M' (1 + i) = M (1 + i)) (hN : ∀ i, i ≤ 4 → N' (1 + i) = N (1 + i)) (h5 : ∀ j, 2 ≤ j → j ≤ 5 → M' b j = N' b' j)
    (hh : ∀ h, h < H → M' (b + 1) h = N' (b' + 1) h ∧ M' (b + 2) h = N' (b' + 2) h ∧ M' (b + 3) h = N' (b' + 3) h ∧ (M' (b + 3) h = -1 ∨ (M' (b + 4) h = N' (b' + 4) h ∧ M' (b + 5) h = N' (b' + 5) h))) (h7 : ∀ j, j < 40 → M' (b + 7) j = N' (b' + 7) j) : ag b b' H M' N' := by
  obtain ⟨⟨t0, t1, t2, t3, t4⟩, -, -, -⟩ := a
  have m0 : M' 1 = M 1 := hM 0 (by omega)
  have m1 : M' 2 = M 2 := hM 1 (by omega)
  have m2 : M' 3 = M 3 := hM 2 (by omega)
  have m3 : M' 4 = M 4 := hM 3 (by omega)
  have m4 : M' 5 = M 5 := hM 4 (by omega)
  have n0 : N' 1 = N 1 := hN 0 (by omega)
  have n1 : N' 2 = N 2 := hN 1 (by omega)
  have n2 : N' 3 = N 3 := hN 2 (by omega)
  have n3 : N' 4 = N 4 := hN 3 (by omega)
  have n4 : N' 5 = N 5 := hN 4 (by omega)
  exact ⟨⟨by rw [m0, n0]; exact t0, by rw [m1, n1]; exact t1, by rw [m2, n2]; exact t2, by rw [m3, n3]; exact t3, by rw [m4, n4]; exact t4⟩, h5, hh, h7⟩
theorem ag_goBack {b b' H h : Nat} {f : Int32} {M N : zMem} (a : ag b b' H M N) (hb : 18 ≤ b) (hb' : 18 ≤ b') (hh : h < H) : ag b b' H (sp_goBack 1 b h f M) (sp_goBack 1 b' h f N) := by
  have ew : sp_wl 1 b h f M = sp_wl 1 b' h f N := by
    unfold sp_wl sp_way
    rw [a.1.1 2 (by omega)]
    by_cases z : h = 0
    · rw [if_pos z, if_pos z]
    · rw [if_neg z, if_neg z, (a.2.2.1 (h - 1) (by omega)).2.2.1]
  unfold sp_goBack
  rw [ew]
  refine ag_mk a (fun i hi => ?_) (fun i hi => ?_) (fun j h2 h5 => ?_) (fun i hi => ?_) (fun j hj => ?_)
  · rw [zup_ne (by omega), zup_ne (by omega), zup_ne (by omega)]
  · rw [zup_ne (by omega), zup_ne (by omega), zup_ne (by omega)]
  · rw [zup_ne (by omega), zup_ne (by omega), zup_ne (by omega), zup_ne (by omega), zup_ne (by omega), zup_ne (by omega)]; exact a.2.1 j h2 h5
  · obtain ⟨c1, c2, c3, c4⟩ := a.2.2.1 i hi
    by_cases q : i = h
    · subst q
      simp (disch := omega) only [zup_ne, zup_eq, upd_eq]
      exact ⟨trivial, trivial, trivial, Or.inl trivial⟩
    · simp (disch := omega) only [zup_ne, zup_eq, upd_ne]
      exact ⟨c1, c2, c3, c4⟩
  · rw [zup_ne (by omega), zup_ne (by omega), zup_ne (by omega), zup_ne (by omega), zup_ne (by omega), zup_ne (by omega)]; exact a.2.2.2 j hj
theorem ag_new {b b' n H L pl s : Nat} {M N : zMem} (a : ag b b' H M N) (hb : 18 ≤ b) (hb' : 18 ≤ b') (hn : M 1 0 = nI n) (n8 : n ≤ 8) (hpl : M b 5 = nI pl) (hpl6 : pl < 6) (es : M 2 pl = nI s) (hs : s < 3) (H0 : 0 < H) : ag b b' H (sp_new 1 b M) (sp_new 1 b' N) := by
  have f5 : N b' 5 = nI pl := by rw [← a.2.1 5 (by omega) (by omega)]; exact hpl
  have fs : N 2 pl = nI s := by rw [← a.1.2.1 pl hpl6]; exact es
  have fn : N 1 0 = nI n := by rw [← a.1.1 0 (by omega)]; exact hn
  have eq : sp_pf (fun i => M (1 + 2) (s * 8 + i)) n 0 = sp_pf (fun i => N (1 + 2) (s * 8 + i)) n 0 := sp_pf_congr n 0 (fun i _ hi => a.1.2.2.1 _ (by omega))
  have e6 : M 1 6 = N 1 6 := a.1.1 6 (by omega)
  unfold sp_new
  have g1 : M (1 + 1) pl = nI s := es
  have g2 : N (1 + 1) pl = nI s := fs
  simp only [hpl, f5, q_ix (show pl < 2147483648 by omega), g1, g2, q_ix (show s < 2147483648 by omega), hn, fn, q_ix (show n < 2147483648 by omega), eq, e6]
  refine ag_mk a (fun i hi => ?_) (fun i hi => ?_) (fun j h2 h5 => ?_) (fun i hi => ?_) (fun j hj => ?_)
  · simp (disch := omega) only [zup_ne]
  · simp (disch := omega) only [zup_ne]
  · simp (disch := omega) only [zup_ne, zup_eq]
    by_cases q : j = 5
    · rw [q, upd_eq, upd_eq]
    · rw [upd_ne q, upd_ne q]; exact a.2.1 j h2 h5
  · obtain ⟨c1, c2, c3, c4⟩ := a.2.2.1 i hi
    by_cases q : i = 0
    · subst q
      simp (disch := omega) only [zup_ne, zup_eq, upd_eq]
      exact ⟨trivial, c2, trivial, Or.inr ⟨trivial, trivial⟩⟩
    · simp (disch := omega) only [zup_ne, zup_eq, upd_ne]
      exact ⟨c1, c2, c3, c4⟩
  · simp (disch := omega) only [zup_ne]
    exact a.2.2.2 j hj
theorem ag_cells {b b' H : Nat} {M N M' N' : zMem} (a : ag b b' H M N) (hM : ∀ k, (k ≤ 5 ∨ (b ≤ k ∧ k ≤ b + 8)) → M' k = M k) (hN : ∀ k, (k ≤ 5 ∨ (b' ≤ k ∧ k ≤ b' + 8)) → N' k = N k) : ag b b' H M' N' := by
  refine ag_mk a (fun i hi => hM _ (by omega)) (fun i hi => hN _ (by omega)) (fun j h2 h5 => ?_) (fun h hh => ?_) (fun j hj => ?_)
  · rw [hM b (by omega), hN b' (by omega)]; exact a.2.1 j h2 h5
  · rw [hM (b + 1) (by omega), hN (b' + 1) (by omega), hM (b + 2) (by omega), hN (b' + 2) (by omega), hM (b + 3) (by omega), hN (b' + 3) (by omega), hM (b + 4) (by omega), hN (b' + 4) (by omega), hM (b + 5) (by omega), hN (b' + 5) (by omega)]; exact a.2.2.1 h hh
  · rw [hM (b + 7) (by omega), hN (b' + 7) (by omega)]; exact a.2.2.2 j hj
theorem sp_take_eq {b h : Nat} {M : zMem} (hb : 18 ≤ b) : ∃ X, sp_take 1 b h M = sp_goBack 1 b (h - 1) (M (b + 3) (h - 1)) X ∧ ∀ k, (k ≤ 5 ∨ (b ≤ k ∧ k ≤ b + 8)) → X k = zup (zup (zup (zup (zup M (b + 1) h 2) (b + 3) h (M (b + 3) (h - 1))) (b + 4) h (M (b + 4) (h - 1))) (b + 5) h (M (b + 5) (h - 1))) b 4 (M b 4 + 1) k := by
  unfold sp_take
  rcases zlg_cases b with c | ⟨c, hb32⟩
  · rw [c]
    exact ⟨_, rfl, fun _ _ => rfl⟩
  · rw [c]
    exact ⟨_, rfl, fun k hk => e_note_ne (by omega) (by omega)⟩
theorem ag_take {b b' H h : Nat} {M N : zMem} (a : ag b b' H M N) (hb : 18 ≤ b) (hb' : 18 ≤ b') (h0 : 0 < h) (hh : h < H) (hp : M (b + 3) (h - 1) ≠ -1) : ag b b' H (sp_take 1 b h M) (sp_take 1 b' h N) := by
  obtain ⟨X, x1, x2⟩ := sp_take_eq (h := h) (M := M) hb
  obtain ⟨Y, y1, y2⟩ := sp_take_eq (h := h) (M := N) hb'
  obtain ⟨d1, d2, d3, d4⟩ := a.2.2.1 (h - 1) (by omega)
  have d4 := d4.resolve_left hp
  rw [x1, y1, d3]
  refine ag_goBack (ag_cells ?_ x2 y2) hb hb' (by omega)
  rw [← d3, ← d4.1, ← d4.2, ← a.2.1 4 (by omega) (by omega)]
  refine ag_mk a (fun i hi => ?_) (fun i hi => ?_) (fun j h2 h5 => ?_) (fun i hi => ?_) (fun j hj => ?_)
  · simp (disch := omega) only [zup_ne]
  · simp (disch := omega) only [zup_ne]
  · simp (disch := omega) only [zup_ne, zup_eq]
    by_cases q : j = 4
    · rw [q, upd_eq, upd_eq]
    · rw [upd_ne q, upd_ne q]; exact a.2.1 j h2 h5
  · obtain ⟨c1, c2, c3, c4⟩ := a.2.2.1 i hi
    by_cases q : i = h
    · subst q
      simp (disch := omega) only [zup_ne, zup_eq, upd_eq]
      exact ⟨trivial, c2, trivial, Or.inr ⟨trivial, trivial⟩⟩
    · simp (disch := omega) only [zup_ne, zup_eq, upd_ne]
      exact ⟨c1, c2, c3, c4⟩
  · simp (disch := omega) only [zup_ne]
    exact a.2.2.2 j hj
theorem ag_finish {b b' n H h p u s : Nat} {M N : zMem} (a : ag b b' H M N) (hb : 18 ≤ b) (hb' : 18 ≤ b') (hh : h < H) (H5 : H ≤ 5) (hn : M 1 0 = nI n) (n8 : n ≤ 8) (ep : M (b + 3) h = nI p) (hp : p < n) (eu : M (b + 4) h = nI u) (es : M (b + 5) h = nI s) (hs : s < 3) : ag b b' H (sp_finish 1 b h M) (sp_finish 1 b' h N) := by
  obtain ⟨d1, d2, d3, d4⟩ := a.2.2.1 h hh
  have hne : ¬ M (b + 3) h = -1 := by
    rw [ep]
    exact fun q => (q_neq (a := p) (c := 1) (by omega) (by omega) (by omega)).mp q
  have d4 := d4.resolve_left hne
  have ep' : N (b' + 3) h = nI p := by rw [← d3]; exact ep
  have eu' : N (b' + 4) h = nI u := by rw [← d4.1]; exact eu
  have es' : N (b' + 5) h = nI s := by rw [← d4.2]; exact es
  have fn : N 1 0 = nI n := by rw [← a.1.1 0 (by omega)]; exact hn
  have e7 : M (b + 7) (h * 8 + p) = N (b' + 7) (h * 8 + p) := a.2.2.2 _ (by omega)
  have e3 : M (1 + 2) (s * 8 + p) = N (1 + 2) (s * 8 + p) := a.1.2.2.1 _ (by omega)
  have eq : sp_pf (fun i => M (1 + 2) (s * 8 + i)) (n - (p + 1)) (p + 1) = sp_pf (fun i => N (1 + 2) (s * 8 + i)) (n - (p + 1)) (p + 1) := sp_pf_congr _ _ (fun i _ hi => a.1.2.2.1 _ (by omega))
  have e33 : M b 3 = N b' 3 := a.2.1 3 (by omega) (by omega)
  unfold sp_finish
  simp only [ep, ep', eu, eu', es, es', hn, fn, q_ix (show p < 2147483648 by omega), q_ix (show s < 2147483648 by omega), q_ix (show n < 2147483648 by omega), e7, e3, eq, e33]
  have base : ∀ x y : Int32, ag b b' H (zup (zup (zup M (b + 7) (h * 8 + p) x) (b + 1) h 2) (b + 4) h y) (zup (zup (zup N (b' + 7) (h * 8 + p) x) (b' + 1) h 2) (b' + 4) h y) := by
    intro x y
    refine ag_mk a (fun i hi => ?_) (fun i hi => ?_) (fun j h2 h5 => ?_) (fun i hi => ?_) (fun j hj => ?_)
    · simp (disch := omega) only [zup_ne]
    · simp (disch := omega) only [zup_ne]
    · simp (disch := omega) only [zup_ne]; exact a.2.1 j h2 h5
    · obtain ⟨c1, c2, c3, c4⟩ := a.2.2.1 i hi
      by_cases q : i = h
      · subst q
        simp (disch := omega) only [zup_ne, zup_eq, upd_eq]
        exact ⟨trivial, c2, c3, Or.inr ⟨trivial, d4.2⟩⟩
      · simp (disch := omega) only [zup_ne, zup_eq, upd_ne]
        exact ⟨c1, c2, c3, c4⟩
    · simp (disch := omega) only [zup_ne, zup_eq]
      by_cases q : j = h * 8 + p
      · rw [q, upd_eq, upd_eq]
      · rw [upd_ne q, upd_ne q]; exact a.2.2.2 j hj
  split
  · exact base _ _
  · split
    · have a1 := base (N (b' + 7) (h * 8 + p) + 1) (nI u + 1)
      have s5 : zup (zup (zup M (b + 7) (h * 8 + p) (N (b' + 7) (h * 8 + p) + 1)) (b + 1) h 2) (b + 4) h (nI u + 1) (b + 5) h = zup (zup (zup N (b' + 7) (h * 8 + p) (N (b' + 7) (h * 8 + p) + 1)) (b' + 1) h 2) (b' + 4) h (nI u + 1) (b' + 5) h := by
        simp (disch := omega) only [zup_ne]
        exact d4.2
      generalize zup (zup (zup M (b + 7) (h * 8 + p) (N (b' + 7) (h * 8 + p) + 1)) (b + 1) h 2) (b + 4) h (nI u + 1) = X at a1 s5 ⊢
      generalize zup (zup (zup N (b' + 7) (h * 8 + p) (N (b' + 7) (h * 8 + p) + 1)) (b' + 1) h 2) (b' + 4) h (nI u + 1) = Y at a1 s5 ⊢
      refine ag_mk a1 (fun i hi => ?_) (fun i hi => ?_) (fun j h2 h5 => ?_) (fun i hi => ?_) (fun j hj => ?_)
      · simp (disch := omega) only [zup_ne]
      · simp (disch := omega) only [zup_ne]
      · simp (disch := omega) only [zup_ne]; exact a1.2.1 j h2 h5
      · obtain ⟨c1, c2, c3, c4⟩ := a1.2.2.1 i hi
        by_cases q : i = h
        · subst q
          simp (disch := omega) only [zup_ne, zup_eq, upd_eq]
          exact ⟨c1, c2, trivial, Or.inr ⟨trivial, s5⟩⟩
        · simp (disch := omega) only [zup_ne, zup_eq, upd_ne]
          exact ⟨c1, c2, c3, c4⟩
      · simp (disch := omega) only [zup_ne]; exact a1.2.2.2 j hj
    · refine ag_goBack ?_ hb hb' hh
      have a1 := base (N (b' + 7) (h * 8 + p) + 1) (nI u + 1)
      generalize zup (zup (zup M (b + 7) (h * 8 + p) (N (b' + 7) (h * 8 + p) + 1)) (b + 1) h 2) (b + 4) h (nI u + 1) = X at a1 ⊢
      generalize zup (zup (zup N (b' + 7) (h * 8 + p) (N (b' + 7) (h * 8 + p) + 1)) (b' + 1) h 2) (b' + 4) h (nI u + 1) = Y at a1 ⊢
      refine ag_mk a1 (fun i hi => ?_) (fun i hi => ?_) (fun j h2 h5 => ?_) (fun i hi => ?_) (fun j hj => ?_)
      · simp (disch := omega) only [zup_ne]
      · simp (disch := omega) only [zup_ne]
      · rw [zup_eq, zup_eq]
        by_cases q : j = 3
        · rw [q, upd_eq, upd_eq]
        · rw [upd_ne q, upd_ne q]; exact a1.2.1 j h2 h5
      · simp (disch := omega) only [zup_ne]; exact a1.2.2.1 i hi
      · simp (disch := omega) only [zup_ne]; exact a1.2.2.2 j hj
theorem ag_can {b b' n H L h : Nat} {M N : zMem} (a : ag b b' H M N) (hh : h < H) (H5 : H ≤ 5) (hp : M (b + 3) h ≠ -1) : sp_can 1 b h M ↔ sp_can 1 b' h N := by
  obtain ⟨d1, d2, d3, d4⟩ := a.2.2.1 h hh
  have d4 := d4.resolve_left hp
  unfold sp_can
  rw [d3, d4.1, a.1.1 5 (by omega), a.1.1 4 (by omega), show M (1 + 4) h = N (1 + 4) h from a.1.2.2.2.2 h (by omega)]
theorem ag_may {b b' n H L h : Nat} {M N : zMem} (a : ag b b' H M N) (hH : M 1 1 = nI H) (hh : h < H) (H5 : H ≤ 5) (hp : M (b + 3) h ≠ -1) : sp_may 1 b h M ↔ sp_may 1 b' h N := by
  obtain ⟨d1, d2, d3, d4⟩ := a.2.2.1 h hh
  have d4 := d4.resolve_left hp
  have hH' : N 1 1 = nI H := by rw [← a.1.1 1 (by omega)]; exact hH
  have hd : sp_held 1 b h M ↔ sp_held 1 b' h N := by
    unfold sp_held
    rw [hH, hH']
    by_cases c : h + 1 < H
    · obtain ⟨e1, e2, e3, e4⟩ := a.2.2.1 (h + 1) c
      rw [d3, e3, d4.1]
      rcases e4 with q | q
      · have q' : N (b' + 3) (h + 1) = -1 := by rw [← e3]; exact q
        have lt : N (b' + 3) (h + 1) < 0 := by rw [q']; decide
        exact ⟨fun z => absurd lt z.2.1, fun z => absurd lt z.2.1⟩
      · rw [q.1]
    · have nl : ¬ nI (h + 1) < nI H := fun q => c ((nI_ltI (by omega) (by omega)).mp q)
      exact ⟨fun z => absurd z.1 nl, fun z => absurd z.1 nl⟩
  unfold sp_may
  rw [d3, show M (1 + 4) h = N (1 + 4) h from a.1.2.2.2.2 h (by omega), hd]
theorem ag_hand {b b' n H L h : Nat} {M N : zMem} (ok : sp_ok M 1 b n H L) (ok' : sp_ok N 1 b' n H L) (a : ag b b' H M N) (hh : h < H) : (sp_hand 1 b h M = none ∧ sp_hand 1 b' h N = none) ∨ ∃ M' N', sp_hand 1 b h M = some M' ∧ sp_hand 1 b' h N = some N' ∧ ag b b' H M' N' := by
  obtain ⟨d1, d2, d3, d4⟩ := a.2.2.1 h hh
  obtain ⟨ht, hd2, hb, ⟨⟨n1, n8, H1, H5, L1, L6⟩, hn, hH, hL, -, -, -, -, hrow, -⟩, ⟨pl, hpl, epl⟩, hhd, -⟩ := ok
  have hb' := ok'.2.2.1
  have neg : ∀ p, p < 8 → nI p ≠ -1 := fun p hp q => (q_neq (a := p) (c := 1) (by omega) (by omega) (by omega)).mp q
  by_cases l0 : M (b + 2) h = 0
  · have l0' : N (b' + 2) h = 0 := by rw [← d2]; exact l0
    by_cases s3 : M (b + 1) h = 3
    · have s3' : N (b' + 1) h = 3 := by rw [← d1]; exact s3
      have hp := hhd h hh
      rcases hp with ⟨q, -⟩ | ⟨q, -⟩ | ⟨p, u, s, U, p1, p2, p3, p4, p5, p6, p7, -⟩
      · rw [s3] at q; exact absurd q (by decide)
      · rw [s3] at q; exact absurd q (by decide)
      · refine Or.inr ⟨_, _, ?_, ?_, ag_finish a hb hb' hh H5 hn n8 p5 p1 p6 p7 p2⟩
        · unfold sp_hand; rw [if_pos l0, if_pos s3]
        · unfold sp_hand; rw [if_pos l0', if_pos s3']
    · have s3' : ¬ N (b' + 1) h = 3 := by rw [← d1]; exact s3
      by_cases s0 : M (b + 1) h = 0
      · have s0' : N (b' + 1) h = 0 := by rw [← d1]; exact s0
        by_cases h0 : h = 0
        · obtain ⟨s, s1, s2⟩ := hrow pl hpl
          refine Or.inr ⟨_, _, ?_, ?_, ag_new (L := L) a hb hb' hn n8 epl (by omega) s2 s1 (by omega)⟩
          · unfold sp_hand; rw [if_pos l0, if_neg s3, if_pos s0, if_pos h0]
          · unfold sp_hand; rw [if_pos l0', if_neg s3', if_pos s0', if_pos h0]
        · have e1 := (a.2.2.1 (h - 1) (by omega)).1
          by_cases c : M (b + 1) (h - 1) = 2 ∧ sp_can 1 b (h - 1) M
          · have hp : M (b + 3) (h - 1) ≠ -1 := by
              rcases hhd (h - 1) (by omega) with ⟨q, -⟩ | ⟨q, -⟩ | ⟨p, u, s, U, p1, p2, p3, p4, p5, -⟩
              · rw [c.1] at q; exact absurd q (by decide)
              · rw [c.1] at q; exact absurd q (by decide)
              · rw [p5]; exact neg p (by omega)
            have c' : N (b' + 1) (h - 1) = 2 ∧ sp_can 1 b' (h - 1) N := ⟨by rw [← e1]; exact c.1, (ag_can (n := n) (L := L) a (by omega) H5 hp).mp c.2⟩
            refine Or.inr ⟨_, _, ?_, ?_, ag_take a hb hb' (by omega) hh hp⟩
            · unfold sp_hand; rw [if_pos l0, if_neg s3, if_pos s0, if_neg h0, if_pos c]
            · unfold sp_hand; rw [if_pos l0', if_neg s3', if_pos s0', if_neg h0, if_pos c']
          · have c' : ¬ (N (b' + 1) (h - 1) = 2 ∧ sp_can 1 b' (h - 1) N) := fun q => c (by
              have q1 : M (b + 1) (h - 1) = 2 := by rw [e1]; exact q.1
              have hp : M (b + 3) (h - 1) ≠ -1 := by
                rcases hhd (h - 1) (by omega) with ⟨z, -⟩ | ⟨z, -⟩ | ⟨p, u, s, U, p1, p2, p3, p4, p5, -⟩
                · rw [q1] at z; exact absurd z (by decide)
                · rw [q1] at z; exact absurd z (by decide)
                · rw [p5]; exact neg p (by omega)
              exact ⟨q1, (ag_can (n := n) (L := L) a (by omega) H5 hp).mpr q.2⟩)
            refine Or.inl ⟨?_, ?_⟩
            · unfold sp_hand; rw [if_pos l0, if_neg s3, if_pos s0, if_neg h0, if_neg c]
            · unfold sp_hand; rw [if_pos l0', if_neg s3', if_pos s0', if_neg h0, if_neg c']
      · have s0' : ¬ N (b' + 1) h = 0 := by rw [← d1]; exact s0
        by_cases s2 : M (b + 1) h = 2
        · have s2' : N (b' + 1) h = 2 := by rw [← d1]; exact s2
          rcases hhd h hh with ⟨q, -⟩ | ⟨q, -⟩ | ⟨p, u, s, U, p1, p2, p3, p4, p5, -⟩
          · exact absurd q s0
          · rw [s2] at q; exact absurd q (by decide)
          · have hp : M (b + 3) h ≠ -1 := by rw [p5]; exact neg p (by omega)
            have em := ag_may (n := n) (L := L) a hH hh H5 hp
            by_cases c : sp_may 1 b h M
            · refine Or.inr ⟨_, _, ?_, ?_, ag_start (n := n) (L := L) a hb hb' hh H5 p (by omega) p5⟩
              · unfold sp_hand; rw [if_pos l0, if_neg s3, if_neg s0, if_pos s2, if_pos c]
              · unfold sp_hand; rw [if_pos l0', if_neg s3', if_neg s0', if_pos s2', if_pos (em.mp c)]
            · refine Or.inl ⟨?_, ?_⟩
              · unfold sp_hand; rw [if_pos l0, if_neg s3, if_neg s0, if_pos s2, if_neg c]
              · unfold sp_hand; rw [if_pos l0', if_neg s3', if_neg s0', if_pos s2', if_neg (fun q => c (em.mpr q))]
        · have s2' : ¬ N (b' + 1) h = 2 := by rw [← d1]; exact s2
          refine Or.inl ⟨?_, ?_⟩
          · unfold sp_hand; rw [if_pos l0, if_neg s3, if_neg s0, if_neg s2]
          · unfold sp_hand; rw [if_pos l0', if_neg s3', if_neg s0', if_neg s2']
  · have l0' : ¬ N (b' + 2) h = 0 := by rw [← d2]; exact l0
    refine Or.inl ⟨?_, ?_⟩
    · unfold sp_hand; rw [if_neg l0]
    · unfold sp_hand; rw [if_neg l0']
theorem ag_rd {b b' n H L : Nat} : ∀ h (s : Bool) (M N : zMem), h ≤ H → sp_ok M 1 b n H L → sp_ok N 1 b' n H L → ag b b' H M N → (sp_rd 1 b h s M).1 = (sp_rd 1 b' h s N).1 ∧ ag b b' H (sp_rd 1 b h s M).2 (sp_rd 1 b' h s N).2 := by
  intro h
  induction h with
  | zero => intro s M N _ _ _ a; exact ⟨rfl, a⟩
  | succ h ih =>
    intro s M N hh ok ok' a
    unfold sp_rd
    rcases ag_hand ok ok' a (show h < H by omega) with ⟨q1, q2⟩ | ⟨M', N', q1, q2, a'⟩
    · rw [q1, q2]
      exact ih s M N (by omega) ok ok' a
    · rw [q1, q2]
      exact ih true M' N' (by omega) (sp_step ok (by omega) q1).1 (sp_step ok' (by omega) q2).1 a'
theorem ag_rounds {b b' n H L : Nat} : ∀ f (M N : zMem), sp_ok M 1 b n H L → sp_ok N 1 b' n H L → ag b b' H M N → ag b b' H (sp_rounds 1 b H f M) (sp_rounds 1 b' H f N) := by
  intro f
  induction f with
  | zero => intro M N _ _ a; exact a
  | succ f ih =>
    intro M N ok ok' a
    obtain ⟨e1, e2⟩ := ag_rd H false M N (Nat.le_refl _) ok ok' a
    unfold sp_rounds
    rw [← e1]
    split
    · exact ih _ _ (sp_rd_ok H false M (Nat.le_refl _) ok).1 (sp_rd_ok H false N (Nat.le_refl _) ok').1 e2
    · exact e2
theorem ag_all {b b' n H L : Nat} {M N : zMem} (ok : sp_ok M 1 b n H L) (ok' : sp_ok N 1 b' n H L) (a : ag b b' H M N) : ag b b' H (sp_all 1 b H M) (sp_all 1 b' H N) := by
  have e : sp_sum (sp_c M b) H = sp_sum (sp_c N b') H := sp_sum_eq H (fun j hj => by
    obtain ⟨d1, d2, -⟩ := a.2.2.1 j hj
    unfold sp_c
    rw [d1, d2])
  unfold sp_all
  rw [e]
  exact ag_rounds _ M N ok ok' a
theorem ag_pass1 {b b' H h : Nat} {d : Int32} {M N : zMem} (a : ag b b' H M N) (hb : 18 ≤ b) (hb' : 18 ≤ b') (hh : h < H) : ag b b' H (sp_pass1 b h d M) (sp_pass1 b' h d N) := by
  obtain ⟨d1, d2, d3, d4⟩ := a.2.2.1 h hh
  have up2 : ag b b' H (zup M (b + 2) h (N (b' + 2) h - d)) (zup N (b' + 2) h (N (b' + 2) h - d)) := by
    refine ag_mk a (fun i hi => ?_) (fun i hi => ?_) (fun j h2 h5 => ?_) (fun i hi => ?_) (fun j hj => ?_)
    · simp (disch := omega) only [zup_ne]
    · simp (disch := omega) only [zup_ne]
    · simp (disch := omega) only [zup_ne]; exact a.2.1 j h2 h5
    · obtain ⟨c1, c2, c3, c4⟩ := a.2.2.1 i hi
      by_cases q : i = h
      · subst q
        simp (disch := omega) only [zup_ne, zup_eq, upd_eq]
        exact ⟨c1, trivial, c3, c4⟩
      · simp (disch := omega) only [zup_ne, zup_eq, upd_ne]
        exact ⟨c1, c2, c3, c4⟩
    · simp (disch := omega) only [zup_ne]; exact a.2.2.2 j hj
  have o68 : ∀ (x y z w : Int32) (i j : Nat), ag b b' H (zup (zup M (b + 6) h x) (b + 8) i y) (zup (zup N (b' + 6) h z) (b' + 8) j w) := by
    intro x y z w i j
    refine ag_mk a (fun i hi => ?_) (fun i hi => ?_) (fun j h2 h5 => ?_) (fun i hi => ?_) (fun j hj => ?_)
    · simp (disch := omega) only [zup_ne]
    · simp (disch := omega) only [zup_ne]
    · simp (disch := omega) only [zup_ne]; exact a.2.1 j h2 h5
    · simp (disch := omega) only [zup_ne]; exact a.2.2.1 i hi
    · simp (disch := omega) only [zup_ne]; exact a.2.2.2 j hj
  have o6 : ∀ (x z : Int32), ag b b' H (zup M (b + 6) h x) (zup N (b' + 6) h z) := by
    intro x z
    refine ag_mk a (fun i hi => ?_) (fun i hi => ?_) (fun j h2 h5 => ?_) (fun i hi => ?_) (fun j hj => ?_)
    · simp (disch := omega) only [zup_ne]
    · simp (disch := omega) only [zup_ne]
    · simp (disch := omega) only [zup_ne]; exact a.2.1 j h2 h5
    · simp (disch := omega) only [zup_ne]; exact a.2.2.1 i hi
    · simp (disch := omega) only [zup_ne]; exact a.2.2.2 j hj
  unfold sp_pass1
  rw [d2, d1]
  split
  · split
    · generalize zup M (b + 2) h (N (b' + 2) h - d) = X at up2 ⊢
      generalize zup N (b' + 2) h (N (b' + 2) h - d) = Y at up2 ⊢
      refine ag_mk up2 (fun i hi => ?_) (fun i hi => ?_) (fun j h2 h5 => ?_) (fun i hi => ?_) (fun j hj => ?_)
      · simp (disch := omega) only [zup_ne]
      · simp (disch := omega) only [zup_ne]
      · simp (disch := omega) only [zup_ne]; exact up2.2.1 j h2 h5
      · obtain ⟨c1, c2, c3, c4⟩ := up2.2.2.1 i hi
        by_cases q : i = h
        · subst q
          simp (disch := omega) only [zup_ne, zup_eq, upd_eq]
          exact ⟨trivial, c2, c3, c4⟩
        · simp (disch := omega) only [zup_ne, zup_eq, upd_ne]
          exact ⟨c1, c2, c3, c4⟩
      · simp (disch := omega) only [zup_ne]; exact up2.2.2.2 j hj
    · exact up2
  · split
    · exact o68 _ _ _ _ _ _
    · exact o6 _ _
theorem ag_passes {b b' H : Nat} {d : Int32} (hb : 18 ≤ b) (hb' : 18 ≤ b') : ∀ m h (M N : zMem), h + m ≤ H → ag b b' H M N → ag b b' H (sp_passes b d m h M) (sp_passes b' d m h N) := by
  intro m
  induction m with
  | zero => intro h M N _ a; exact a
  | succ m ih => intro h M N hh a; exact ih (h + 1) _ _ (by omega) (ag_pass1 a hb hb' (by omega))
theorem ag_pass {b b' H : Nat} {d : Int32} {M N : zMem} (a : ag b b' H M N) (hb : 18 ≤ b) (hb' : 18 ≤ b') : ag b b' H (sp_pass b H d M) (sp_pass b' H d N) := by
  unfold sp_pass
  refine ag_passes hb hb' H 0 _ _ (by omega) ?_
  refine ag_mk a (fun i hi => ?_) (fun i hi => ?_) (fun j h2 h5 => ?_) (fun i hi => ?_) (fun j hj => ?_)
  · simp (disch := omega) only [zup_ne]
  · simp (disch := omega) only [zup_ne]
  · rw [zup_eq, zup_eq]
    by_cases q : j = 2
    · rw [q, upd_eq, upd_eq, a.2.1 2 (by omega) (by omega)]
    · rw [upd_ne q, upd_ne q]; exact a.2.1 j h2 h5
  · simp (disch := omega) only [zup_ne]; exact a.2.2.1 i hi
  · simp (disch := omega) only [zup_ne]; exact a.2.2.2 j hj
theorem ag_least {f g : Nat → Int32} : ∀ m h c, (∀ j, h ≤ j → j < h + m → f j = g j) → sp_least f m h c = sp_least g m h c := by
  intro m
  induction m with
  | zero => intro h c _; rfl
  | succ m ih =>
    intro h c e
    unfold sp_least
    rw [e h (by omega) (by omega)]
    exact ih (h + 1) _ (fun j h1 h2 => e j (by omega) (by omega))
theorem ag_ev {b b' n H L : Nat} {M N : zMem} (ok : sp_ok M 1 b n H L) (hs : ∀ j, j < H → sp_hand 1 b j M = none) (ok' : sp_ok N 1 b' n H L) (hs' : ∀ j, j < H → sp_hand 1 b' j N = none) (a : ag b b' H M N) : ag b b' H (sp_ev 1 b H M) (sp_ev 1 b' H N) := by
  have el : sp_least (M (b + 2)) H 0 0 = sp_least (N (b' + 2)) H 0 0 := ag_least H 0 0 (fun j _ hj => (a.2.2.1 j (by omega)).2.1)
  unfold sp_ev
  have c1 := sp_can_least ok hs
  have c2 := sp_can_least ok' hs'
  have k1 := sp_pass_ok ok c1
  have k2 := sp_pass_ok ok' c2
  rw [el] at k1 ⊢
  exact ag_all k1 k2 (ag_pass a ok.2.2.1 ok'.2.2.1)
theorem ag_eq1 {b b' H h : Nat} {X X' Y Y' : zMem} (a : ag b b' H X X') (c : ag b b' H Y Y') (hh : h < H) : sp_eq1 b h X Y → sp_eq1 b' h X' Y' := by
  obtain ⟨d1, d2, d3, d4⟩ := a.2.2.1 h hh
  obtain ⟨e1, e2, e3, e4⟩ := c.2.2.1 h hh
  rintro ⟨q1, q2, q3, q4⟩
  refine ⟨by rw [← d1, ← e1]; exact q1, by rw [← d2, ← e2]; exact q2, by rw [← d3, ← e3]; exact q3, fun z => ?_⟩
  rw [← d3] at z
  have q4 := q4 z
  have nx : ¬ X (b + 3) h = -1 := fun w => by rw [w] at z; exact absurd z (by decide)
  have ny : ¬ Y (b + 3) h = -1 := fun w => nx (by rw [q3]; exact w)
  have d4 := d4.resolve_left nx
  have e4 := e4.resolve_left ny
  exact ⟨by rw [← d4.1, ← e4.1]; exact q4.1, by rw [← d4.2, ← e4.2]; exact q4.2⟩
theorem ag.symm {b b' H : Nat} {M N : zMem} (a : ag b b' H M N) : ag b' b H N M := by
  obtain ⟨⟨t0, t1, t2, t3, t4⟩, a1, a2, a3⟩ := a
  refine ⟨⟨fun j hj => (t0 j hj).symm, fun j hj => (t1 j hj).symm, fun j hj => (t2 j hj).symm, fun j hj => (t3 j hj).symm, fun j hj => (t4 j hj).symm⟩, fun j h2 h5 => (a1 j h2 h5).symm, fun h hh => ?_, fun j hj => (a3 j hj).symm⟩
  obtain ⟨d1, d2, d3, d4⟩ := a2 h hh
  refine ⟨d1.symm, d2.symm, d3.symm, ?_⟩
  rcases d4 with q | q
  · exact Or.inl (by rw [← d3]; exact q)
  · exact Or.inr ⟨q.1.symm, q.2.symm⟩
theorem ag_cnt {b b' H i : Nat} {M N : zMem} (a : ag b b' H M N) (hi : i < 40) : sp_cnt 1 b i M = sp_cnt 1 b' i N := by
  unfold sp_cnt
  rw [a.1.1 3 (by omega), show M (1 + 3) i = N (1 + 3) i from a.1.2.2.2.1 i hi, a.2.2.2 i hi]
theorem ag_same1 {b b' n H : Nat} {X X' Y Y' : zMem} (a : ag b b' H X X') (c : ag b b' H Y Y') (H5 : H ≤ 5) (n8 : n ≤ 8) (h : sp_same 1 b n H X Y) : sp_same 1 b' n H X' Y' := by
  obtain ⟨q1, q2, q3⟩ := h
  refine ⟨by rw [← a.2.1 5 (by omega) (by omega), ← c.2.1 5 (by omega) (by omega)]; exact q1, fun h hh => ag_eq1 a c hh (q2 h hh), fun h p hh hp => ?_⟩
  rw [← ag_cnt a (by omega), ← ag_cnt c (by omega)]
  exact q3 h p hh hp
theorem ag_same {b b' n H : Nat} {X X' Y Y' : zMem} (a : ag b b' H X X') (c : ag b b' H Y Y') (H5 : H ≤ 5) (n8 : n ≤ 8) : sp_same 1 b n H X Y ↔ sp_same 1 b' n H X' Y' := ⟨ag_same1 a c H5 n8, ag_same1 a.symm c.symm H5 n8⟩
theorem ag_rg {b b' n H L : Nat} : ∀ f r (M N : zMem) (A A' R R' : Nat → zMem), (∀ q, q < r → R q = vw 1 b (A q) ∧ R' q = vw 1 b' (A' q) ∧ ag b b' H (A q) (A' q)) → sp_ok M 1 b n H L → (∀ j, j < H → sp_hand 1 b j M = none) → sp_ok N 1 b' n H L → (∀ j, j < H → sp_hand 1 b' j N = none) → ag b b' H M N → sp_rg n H f (vw 1 b M) r R = sp_rg n H f (vw 1 b' N) r R' := by
  intro f
  induction f with
  | zero => intros; rfl
  | succ f ih =>
    intro r M N A A' R R' hR ok hs ok' hs' a
    have H5 : H ≤ 5 := ok.2.2.2.1.1.2.2.2.1
    have n8 : n ≤ 8 := ok.2.2.2.1.1.2.1
    have hb := ok.2.2.1
    have hb' := ok'.2.2.1
    obtain ⟨k1, -, k2⟩ := sp_all_ok (sp_pass_ok ok (sp_can_least ok hs))
    obtain ⟨m1, -, m2⟩ := sp_all_ok (sp_pass_ok ok' (sp_can_least ok' hs'))
    have a' := ag_ev ok hs ok' hs' a
    have ve : sp_ev 0 5 H (vw 1 b M) = vw 1 b (sp_ev 1 b H M) := (vw_ev (by omega) (by omega)).symm
    have ve' : sp_ev 0 5 H (vw 1 b' N) = vw 1 b' (sp_ev 1 b' H N) := (vw_ev (by omega) (by omega)).symm
    have e3 : vw 1 b M 5 3 = vw 1 b' N 5 3 := by rw [vw_0 (by omega), vw_0 (by omega)]; exact a.2.1 3 (by omega) (by omega)
    have e3' : vw 1 b (sp_ev 1 b H M) 5 3 = vw 1 b' (sp_ev 1 b' H N) 5 3 := by rw [vw_0 (by omega), vw_0 (by omega)]; exact a'.2.1 3 (by omega) (by omega)
    have e2' : vw 1 b (sp_ev 1 b H M) 5 2 = vw 1 b' (sp_ev 1 b' H N) 5 2 := by rw [vw_0 (by omega), vw_0 (by omega)]; exact a'.2.1 2 (by omega) (by omega)
    have fo : sp_fo (fun q => sp_same 0 5 n H (R q) (sp_ev 0 5 H (vw 1 b M))) r = sp_fo (fun q => sp_same 0 5 n H (R' q) (sp_ev 0 5 H (vw 1 b' N))) r := by
      refine sp_fst_eq (sp_fo_fst r) (fun q hq => ?_)
      obtain ⟨r1, r2, r3⟩ := hR q hq
      rw [r1, r2, ve, ve', vw_same, vw_same]
      exact ag_same r3 a' H5 n8
    by_cases c : vw 1 b M 5 3 < 120
    · have c' : vw 1 b' N 5 3 < 120 := by rw [← e3]; exact c
      by_cases d : vw 1 b M 5 3 < sp_ev 0 5 H (vw 1 b M) 5 3
      · have d' : vw 1 b' N 5 3 < sp_ev 0 5 H (vw 1 b' N) 5 3 := by rw [ve', ← e3', ← e3, ← ve]; exact d
        cases w : sp_fo (fun q => sp_same 0 5 n H (R q) (sp_ev 0 5 H (vw 1 b M))) r with
        | some q =>
          have w' := fo.symm.trans w
          obtain ⟨r1, r2, r3⟩ := hR q (sp_fo_lt w)
          rw [sp_rg_some c d w, sp_rg_some c' d' w']
          unfold sp_rn
          rw [ve, ve', e3', e2', r1, r2, vw_0 (by omega), vw_0 (by omega), vw_0 (by omega), vw_0 (by omega), r3.2.1 3 (by omega) (by omega), r3.2.1 2 (by omega) (by omega), vw_0 (by omega), vw_0 (by omega)]
        | none =>
          have w' := fo.symm.trans w
          rw [sp_rg_none c d w, sp_rg_none c' d' w', ve, ve']
          refine ih (r + 1) _ _ (fun i => if i = r then sp_ev 1 b H M else A i) (fun i => if i = r then sp_ev 1 b' H N else A' i) _ _ (fun q hq => ?_) k1 k2 m1 m2 a'
          by_cases z : q = r
          · rw [if_pos z, if_pos z, if_pos z, if_pos z]; exact ⟨rfl, rfl, a'⟩
          · rw [if_neg z, if_neg z, if_neg z, if_neg z]; exact hR q (by omega)
      · have d' : ¬ vw 1 b' N 5 3 < sp_ev 0 5 H (vw 1 b' N) 5 3 := by rw [ve', ← e3', ← e3, ← ve]; exact d
        rw [sp_rg_go c d, sp_rg_go c' d', ve, ve']
        exact ih r _ _ A A' R R' hR k1 k2 m1 m2 a'
    · rw [sp_rg_end c, sp_rg_end (by rw [← e3]; exact c)]
/-- the ring hangs on what is told alone -/
theorem ag_ring {b b' n H L : Nat} {M N : zMem} (ok : sp_ok M 1 b n H L) (ok' : sp_ok N 1 b' n H L) (a : ag b b' H M N) : sp_ring 1 b n H M = sp_ring 1 b' n H N := by
  obtain ⟨k1, -, k2⟩ := sp_all_ok ok
  obtain ⟨m1, -, m2⟩ := sp_all_ok ok'
  exact ag_rg 12000 0 _ _ (fun _ => M) (fun _ => M) _ _ (fun q hq => absurd hq (by omega)) k1 k2 m1 m2 (ag_all ok ok' a)
theorem ag_clear {b b' H : Nat} {M0 Mc N0 Nc : zMem} (hc : sp_clear b M0 Mc) (hc' : sp_clear b' N0 Nc) (H5 : H ≤ 5) (ht : ∀ i, i ≤ 4 → Mc (1 + i) = Nc (1 + i)) : ag b b' H Mc Nc := by
  obtain ⟨c2, c3, c4, c5, c0, c1, ch, cl, cs, ck⟩ := hc
  obtain ⟨d2, d3, d4, d5, d0, d1, dh, dl, ds, dk⟩ := hc'
  refine ⟨⟨fun j _ => congrFun (ht 0 (by omega)) j, fun j _ => congrFun (ht 1 (by omega)) j, fun j _ => congrFun (ht 2 (by omega)) j, fun j _ => congrFun (ht 3 (by omega)) j, fun j _ => congrFun (ht 4 (by omega)) j⟩, fun j h2 h5 => ?_, fun h hh => ?_, fun j hj => ?_⟩
  · rcases (show j = 2 ∨ j = 3 ∨ j = 4 ∨ j = 5 by omega) with rfl | rfl | rfl | rfl
    · rw [c2, d2]
    · rw [c3, d3]
    · rw [c4, d4]
    · rw [c5, d5]
  · obtain ⟨x1, x2, x3, x4⟩ := ch h (by omega)
    obtain ⟨y1, y2, y3, y4⟩ := dh h (by omega)
    exact ⟨by rw [x1, y1], by rw [x2, y2], by rw [x3, y3], Or.inl x3⟩
  · rw [cl j hj, dl j hj]
/-- whether handing over k of a log is hand h's, within lo and hi -/
def wh1 (V : Nat → Int32) (h lo hi : Int32) (k : Nat) : Prop := V (k * 5 + 1) = h ∧ lo < V (k * 5) ∧ V (k * 5) ≤ hi
/-- what both look for in the log: how often, the first, whether always alike -/
def wf (V : Nat → Int32) (h lo hi : Int32) : Nat → Nat × Nat × Bool
  | 0 => (0, 0, true)
  | k + 1 => if V (k * 5 + 1) = h ∧ lo < V (k * 5) ∧ V (k * 5) ≤ hi then ((wf V h lo hi k).1 + 1, (if (wf V h lo hi k).1 = 0 then k else (wf V h lo hi k).2.1), ((wf V h lo hi k).2.2 && decide (V (k * 5 + 2) = V ((if (wf V h lo hi k).1 = 0 then k else (wf V h lo hi k).2.1) * 5 + 2)) && decide (V (k * 5 + 3) = V ((if (wf V h lo hi k).1 = 0 then k else (wf V h lo hi k).2.1) * 5 + 3)))) else wf V h lo hi k
theorem wf_no {V : Nat → Int32} {h lo hi : Int32} {k : Nat} (c : ¬ wh1 V h lo hi k) : wf V h lo hi (k + 1) = wf V h lo hi k := by
  show (if V (k * 5 + 1) = h ∧ lo < V (k * 5) ∧ V (k * 5) ≤ hi then _ else _) = _
  unfold wh1 at c
  rw [if_neg c]
theorem wf_yes {V : Nat → Int32} {h lo hi : Int32} {k t f f' : Nat} {b : Bool} (c : wh1 V h lo hi k) (e : wf V h lo hi k = (t, f, b)) (ef : f' = if t = 0 then k else f) : wf V h lo hi (k + 1) = (t + 1, f', (b && decide (V (k * 5 + 2) = V (f' * 5 + 2)) && decide (V (k * 5 + 3) = V (f' * 5 + 3)))) := by
  show (if V (k * 5 + 1) = h ∧ lo < V (k * 5) ∧ V (k * 5) ≤ hi then _ else _) = _
  unfold wh1 at c
  rw [if_pos c, e, ef]
theorem wf_b {V : Nat → Int32} {h lo hi : Int32} : ∀ k, (wf V h lo hi k).1 ≤ k ∧ ((wf V h lo hi k).1 = 0 ∨ (wf V h lo hi k).2.1 < k) := by
  intro k
  induction k with
  | zero => exact ⟨Nat.le_refl _, Or.inl rfl⟩
  | succ k ih =>
    by_cases c : wh1 V h lo hi k
    · rcases e : wf V h lo hi k with ⟨t, f, b⟩
      rw [e] at ih
      rw [wf_yes c e rfl]
      refine ⟨by have := ih.1; show t + 1 ≤ k + 1; omega, Or.inr ?_⟩
      show (if t = 0 then k else f) < k + 1
      split
      · omega
      · rcases ih.2 with q | q
        · exact absurd q (by assumption)
        · exact Nat.lt_succ_of_lt q
    · rw [wf_no c]
      exact ⟨by omega, ih.2.imp id (fun q => by omega)⟩
theorem wf_pos {V : Nat → Int32} {h lo hi : Int32} {k : Nat} (c : wh1 V h lo hi k) : ∀ m, k < m → 0 < (wf V h lo hi m).1 := by
  intro m
  induction m with
  | zero => intro h; omega
  | succ m ih =>
    intro hk
    by_cases d : wh1 V h lo hi m
    · rcases e : wf V h lo hi m with ⟨t, f, b⟩
      rw [wf_yes d e rfl]
      exact Nat.succ_pos t
    · rw [wf_no d]
      refine ih ?_
      rcases Nat.lt_or_ge k m with q | q
      · exact q
      · have : k = m := by omega
        subst this
        exact absurd c d
theorem wf_congr {V V' : Nat → Int32} {h lo hi : Int32} : ∀ k, (∀ j, j < 5 * k → V j = V' j) → wf V h lo hi k = wf V' h lo hi k := by
  intro k
  induction k with
  | zero => intro _; rfl
  | succ k ih =>
    intro e
    have i := ih (fun j hj => e j (by omega))
    have i2 := wf_b (V := V') (h := h) (lo := lo) (hi := hi) k
    have cc : wh1 V h lo hi k ↔ wh1 V' h lo hi k := by
      unfold wh1
      rw [e (k * 5 + 1) (by omega), e (k * 5) (by omega)]
    by_cases c : wh1 V h lo hi k
    · rcases e1 : wf V' h lo hi k with ⟨t, f, b⟩
      rw [e1] at i2
      have hf : ∃ f', f' = (if t = 0 then k else f) ∧ f' ≤ k := ⟨_, rfl, by
        split
        · exact Nat.le_refl _
        · rcases i2.2 with q | q
          · exact absurd q (by assumption)
          · exact Nat.le_of_lt q⟩
      obtain ⟨f', ef, hf'⟩ := hf
      rw [wf_yes c (i.trans e1) ef, wf_yes (cc.mp c) e1 ef, e (k * 5 + 2) (by omega), e (k * 5 + 3) (by omega), e (f' * 5 + 2) (by omega), e (f' * 5 + 3) (by omega)]
    · rw [wf_no c, wf_no (fun q => c (cc.mpr q))]
      exact i
def w2 (V : Nat → Int32) (s : Nat × Nat × Bool) (j : Nat) : Int32 := if s.1 = 0 then -4 else V (s.2.1 * 5 + j)
def w7 (s : Nat × Nat × Bool) : Int32 := if s.2.2 = true then 1 else 0
theorem w7_and {t f : Nat} {b : Bool} {p q p' q' : Int32} : w7 (t, f, (b && decide (p = p') && decide (q = q'))) = if b = true ∧ p = p' ∧ q = q' then 1 else 0 := by
  unfold w7
  simp only [Bool.and_eq_true, decide_eq_true_eq, and_assoc]
/-- the class's answer -/
def wa (V : Nat → Int32) (s : Nat × Nat × Bool) (a : Int32) : Int32 := if a = 0 then nI s.1 else if a = 1 then (if s.2.2 = true ∧ 0 < s.1 then 1 else 0) else if a = 2 then w2 V s 2 else w2 V s 3
theorem xt_places {z : Nat} {a1 a3 lo hi : Int32} {M : zMem} {Q : Int32 → zMem → Prop} (hz : M 30 0 = nI z) (z6 : z ≤ 600) (elo : M 54 5 = lo) (ehi : M 54 5 + M 54 4 = hi) (hQ : Q (wa (M 31) (wf (M 31) a1 lo hi z) a3) M) : wp_Handings_placesOf 30 a1 54 a3 M Q := by
  unfold wp_Handings_placesOf
  refine zlp5_r (fun m x4 x5 x6 x7 x8 M' => M = M' ∧ ∃ k, k ≤ z ∧ m = z - k ∧ x8 = nI k ∧ x4 = nI (wf (M 31) a1 lo hi k).1 ∧ x5 = w2 (M 31) (wf (M 31) a1 lo hi k) 2 ∧ x6 = w2 (M 31) (wf (M 31) a1 lo hi k) 3 ∧ x7 = w7 (wf (M 31) a1 lo hi k)) ?_ (n := z) ⟨rfl, 0, by omega, rfl, rfl, rfl, rfl, rfl, rfl⟩
  rintro m x4 x5 x6 x7 x8 M' ⟨rfl, k, hk, rfl, rfl, rfl, rfl, rfl, rfl⟩ J hJ
  unfold wpB_Handings_placesOf_17
  rw [hz]
  refine ⟨fun c => ?_, fun c => ?_⟩
  · have := (nI_leI (by omega) (by omega)).mp c
    have e : k = z := by omega
    subst e
    have hb := (wf_b (V := M 31) (h := a1) (lo := lo) (hi := hi) k).1
    generalize wf (M 31) a1 lo hi k = s at hQ hb
    intro x ex
    subst ex
    unfold wa at hQ
    refine ⟨fun q => ?_, fun q => ⟨fun q2 => ?_, fun q2 => ⟨fun q3 => ?_, fun q3 => ?_⟩⟩, fun q => ?_, fun n0 n1 n2 => ?_⟩
    · rw [if_pos q] at hQ; exact hQ
    · rw [if_neg (by rw [q]; decide), if_pos q, if_neg (fun z => by unfold w7 at q2; rw [if_pos z.1] at q2; exact absurd q2 (by decide))] at hQ; exact hQ
    · have s0 : s.1 = 0 := by
        rcases Nat.eq_zero_or_pos s.1 with w | w
        · exact w
        · exact absurd q3 (nI_nle w (by omega))
      rw [if_neg (by rw [q]; decide), if_pos q, if_neg (fun z => by omega)] at hQ; exact hQ
    · have b1 : s.2.2 = true := by
        unfold w7 at q2
        by_cases w : s.2.2 = true
        · exact w
        · rw [if_neg w] at q2; exact absurd rfl q2
      have s0 : 0 < s.1 := by
        rcases Nat.eq_zero_or_pos s.1 with w | w
        · rw [w] at q3; exact absurd (by decide) q3
        · exact w
      rw [if_neg (by rw [q]; decide), if_pos q, if_pos ⟨b1, s0⟩] at hQ; exact hQ
    · rw [if_neg (by rw [q]; decide), if_neg (by rw [q]; decide), if_pos q] at hQ; exact hQ
    · rw [if_neg n0, if_neg n1, if_neg n2] at hQ; exact hQ
  · have hk2 : k < z := (nI_ltI (by omega) (by omega)).mp (Int32.not_le.mp c)
    refine e_value (j := 0) (by omega) (by omega) ?_
    refine e_value (j := 1) (by omega) (by omega) ?_
    have skip : ¬ wh1 (M 31) a1 lo hi k → ∀ y, y = nI k + 1 → J (nI (wf (M 31) a1 lo hi k).1) (w2 (M 31) (wf (M 31) a1 lo hi k) 2) (w2 (M 31) (wf (M 31) a1 lo hi k) 3) (w7 (wf (M 31) a1 lo hi k)) y M := fun nh y ey => by
      rw [ey, nI_1]
      exact hJ (z - (k + 1)) _ _ _ _ _ _ (by omega) ⟨rfl, k + 1, by omega, rfl, rfl, by rw [wf_no nh], by rw [wf_no nh], by rw [wf_no nh], by rw [wf_no nh]⟩
    refine ⟨fun n1 => skip (fun q => n1 q.1), fun y1 => ⟨fun n2 => skip (fun q => absurd q.2.1 (Int32.not_lt.mpr (by rw [← elo]; exact n2))), fun y2 => ⟨fun n3 => skip (fun q => absurd (show hi < M 31 (k * 5) by rw [← ehi]; exact n3) (Int32.not_lt.mpr q.2.2)), fun y3 => ?_⟩⟩⟩
    have hit : wh1 (M 31) a1 lo hi k := ⟨y1, by rw [← elo]; exact Int32.not_le.mp y2, by rw [← ehi]; exact Int32.not_lt.mp y3⟩
    have hb := wf_b (V := M 31) (h := a1) (lo := lo) (hi := hi) k
    rcases e : wf (M 31) a1 lo hi k with ⟨t, f, b⟩
    rw [e] at hb
    have put : ∀ f', f' = (if t = 0 then k else f) → wpJ_Handings_placesOf_92 30 a1 54 a3 (fun (zx25 : Int32) (zx26 : Int32) (zx27 : Int32) (zx28 : Int32) (zm24 : zMem) => ∀ zx29 : Int32, zx29 = a3 → (zx29 = 0 → Q zx25 zm24) ∧ (zx29 = 1 → (zx28 = 0 → Q 0 zm24) ∧ (¬ zx28 = 0 → (zx25 ≤ 0 → Q 0 zm24) ∧ (¬ zx25 ≤ 0 → Q 1 zm24))) ∧ (zx29 = 2 → Q zx26 zm24) ∧ (¬ zx29 = 0 → ¬ zx29 = 1 → ¬ zx29 = 2 → Q zx27 zm24)) J Q (nI t) (M 31 (f' * 5 + 2)) (M 31 (f' * 5 + 3)) (w7 (t, f, b)) (nI k) M := fun f' ef => by
      have nx := wf_yes hit e ef
      have go : ∀ x7 : Int32, x7 = (if b = true ∧ M 31 (k * 5 + 2) = M 31 (f' * 5 + 2) ∧ M 31 (k * 5 + 3) = M 31 (f' * 5 + 3) then 1 else 0) → ∀ y, y = nI t + 1 → ∀ y2, y2 = nI k + 1 → J y (M 31 (f' * 5 + 2)) (M 31 (f' * 5 + 3)) x7 y2 M := fun x7 e7 y ey y2 ey2 => by
        rw [ey, ey2, nI_1, nI_1]
        refine hJ (z - (k + 1)) _ _ _ _ _ _ (by omega) ⟨rfl, k + 1, by omega, rfl, rfl, by rw [nx], ?_, ?_, ?_⟩
        · rw [nx]; unfold w2; rw [if_neg (by show ¬ t + 1 = 0; omega)]
        · rw [nx]; unfold w2; rw [if_neg (by show ¬ t + 1 = 0; omega)]
        · rw [nx, w7_and, e7]
      refine ⟨fun q => go 0 ?_, fun q => e_value (j := 2) (by omega) (by omega) ?_⟩
      · have q' : (if b = true then (1 : Int32) else 0) = 0 := q
        rw [if_neg (fun z => by rw [if_pos z.1] at q'; exact absurd q' (by decide))]
      · have q' : ¬ (if b = true then (1 : Int32) else 0) = 0 := q
        have b1 : b = true := by
          by_cases w : b = true
          · exact w
          · rw [if_neg w] at q'; exact absurd rfl q'
        refine ⟨fun p2 => go 0 (by rw [if_neg (fun z => p2 z.2.1)]), fun p2 => e_value (j := 3) (by omega) (by omega) ⟨fun p3 => go 0 (by rw [if_neg (fun z => p3 z.2.2)]), fun p3 => go 1 (by rw [if_pos ⟨b1, p2, p3⟩])⟩⟩
    refine ⟨fun q => ?_, fun q => e_value (j := 2) (by omega) (by omega) (e_value (j := 3) (by omega) (by omega) ?_)⟩
    · have t0 : ¬ t = 0 := fun w => by rw [w] at q; exact q rfl
      have p := put f (by rw [if_neg t0])
      have e2 : w2 (M 31) (t, f, b) 2 = M 31 (f * 5 + 2) := by unfold w2; rw [if_neg t0]
      have e3 : w2 (M 31) (t, f, b) 3 = M 31 (f * 5 + 3) := by unfold w2; rw [if_neg t0]
      rw [e2, e3]
      exact p
    · have t0 : t = 0 := by
        rcases Nat.eq_zero_or_pos t with w | w
        · exact w
        · have := hb.1
          exact absurd q (nI_ne0 w (by show t < 2147483648; have : t ≤ k := hb.1; omega))
      exact put k (by rw [if_pos t0])
theorem q_tick {a : Nat} {v : Int32} (ha : a < 2147483647) : nI a + 1 ≤ v ↔ nI a < v := by
  rw [nI_1, Int32.le_iff_toInt_le, Int32.lt_iff_toInt_lt, nI_toInt (by omega), nI_toInt (by omega)]
  omega
theorem mw_places {z q r ta tn : Nat} {a1 a2 : Int32} {W : zMem} {K : Int32 → Int32 → Int32 → zMem → Prop} {Q : Int32 → zMem → Prop} (z6 : z ≤ 600) (hk : ∀ G : Int32 → zMem → Prop, G (nI z) W → wp_Model_oversKept W G) (hq : q < 120) (hr : r < 120) (eq : W 0 29 = nI q) (er : W 0 30 = nI r) (ea : W 14 q = nI ta) (en : W 14 r = nI tn) (ht : ta < 2147483647)
    (hK : ∀ s, s = wf (W 10) a1 (nI ta) (nI tn) z → K (nI s.1) (if s.1 = 0 then -4 else nI s.2.1) (w7 s) W) : ∃ n, zlp4 (wpB_Model_where_52 a1 a2 K Q) n 0 (-4) 1 0 W := by
  refine zlp4_r (fun m x3 x4 x5 x6 W' => W = W' ∧ ∃ k, k ≤ z ∧ m = z - k ∧ x6 = nI k ∧ x3 = nI (wf (W 10) a1 (nI ta) (nI tn) k).1 ∧ x4 = (if (wf (W 10) a1 (nI ta) (nI tn) k).1 = 0 then -4 else nI (wf (W 10) a1 (nI ta) (nI tn) k).2.1) ∧ x5 = w7 (wf (W 10) a1 (nI ta) (nI tn) k)) ?_ (n := z) ⟨rfl, 0, by omega, rfl, rfl, rfl, rfl, rfl⟩
  rintro m x3 x4 x5 x6 W' ⟨rfl, k, hkz, rfl, rfl, rfl, rfl, rfl⟩ J hJ
  unfold wpB_Model_where_52
  refine hk _ ⟨fun c => ?_, fun c => ?_⟩
  · have := (nI_leI (by omega) (by omega)).mp c
    have e : k = z := by omega
    subst e
    exact hK _ rfl
  · have hk2 : k < z := (nI_ltI (by omega) (by omega)).mp (Int32.not_le.mp c)
    have f0 : 5 * nI k = nI (k * 5) := by rw [show (5 : Int32) = nI 5 from rfl, q_mul, Nat.mul_comm]
    have f1 : nI (k * 5) + 1 = nI (k * 5 + 1) := nI_1 _
    rw [f0, f1, q_ix (by omega), q_ix (by omega)]
    have skip : ¬ wh1 (W 10) a1 (nI ta) (nI tn) k → ∀ y, y = nI k + 1 → J (nI (wf (W 10) a1 (nI ta) (nI tn) k).1) (if (wf (W 10) a1 (nI ta) (nI tn) k).1 = 0 then -4 else nI (wf (W 10) a1 (nI ta) (nI tn) k).2.1) (w7 (wf (W 10) a1 (nI ta) (nI tn) k)) y W := fun nh y ey => by
      rw [ey, nI_1]
      exact hJ (z - (k + 1)) _ _ _ _ _ (by omega) ⟨rfl, k + 1, by omega, rfl, rfl, by rw [wf_no nh], by rw [wf_no nh], by rw [wf_no nh]⟩
    refine ⟨vp_in_nI (by omega) (by omega), fun n1 => skip (fun h => n1 h.1), fun y1 => ⟨vp_in_nI (by omega) (by omega), by rw [eq]; exact vp_in_nI hq (by omega), by rw [er]; exact vp_in_nI hr (by omega), ?_⟩⟩
    rw [eq, er, q_ix (by omega), q_ix (by omega), ea, en]
    refine mt_in (lo' := nI ta + 1) (hi' := nI tn) rfl rfl (fun c1 c2 => ⟨fun h => absurd h (by decide), fun _ => ?_⟩) (fun nc => ⟨fun _ => skip (fun h => nc ⟨(q_tick ht).mpr h.2.1, h.2.2⟩), fun h => absurd rfl h⟩)
    have hit : wh1 (W 10) a1 (nI ta) (nI tn) k := ⟨y1, (q_tick ht).mp c1, c2⟩
    have hb := wf_b (V := W 10) (h := a1) (lo := nI ta) (hi := nI tn) k
    rcases e : wf (W 10) a1 (nI ta) (nI tn) k with ⟨t, f, b⟩
    rw [e] at hb
    have put : ∀ f', f' ≤ k → f' = (if t = 0 then k else f) → wpJ_Model_where_128 a1 a2 K J Q (nI t) (w7 (t, f, b)) (nI k) (nI f') W := fun f' hf' ef => by
      have nx := wf_yes hit e ef
      have go : ∀ x5 : Int32, x5 = (if b = true ∧ W 10 (k * 5 + 2) = W 10 (f' * 5 + 2) ∧ W 10 (k * 5 + 3) = W 10 (f' * 5 + 3) then 1 else 0) → ∀ y, y = nI t + 1 → ∀ y2, y2 = nI k + 1 → J y (nI f') x5 y2 W := fun x5 e5 y ey y2 ey2 => by
        rw [ey, ey2, nI_1, nI_1]
        refine hJ (z - (k + 1)) _ _ _ _ _ (by omega) ⟨rfl, k + 1, by omega, rfl, rfl, by rw [nx], ?_, ?_⟩
        · rw [nx, if_neg (by show ¬ t + 1 = 0; omega)]
        · rw [nx, w7_and, e5]
      have f0 : 5 * nI k = nI (k * 5) := by rw [show (5 : Int32) = nI 5 from rfl, q_mul, Nat.mul_comm]
      have g0 : 5 * nI f' = nI (f' * 5) := by rw [show (5 : Int32) = nI 5 from rfl, q_mul, Nat.mul_comm]
      have f2 : nI (k * 5) + 2 = nI (k * 5 + 2) := q_add _ 2
      have f3 : nI (k * 5) + 3 = nI (k * 5 + 3) := q_add _ 3
      have g2 : nI (f' * 5) + 2 = nI (f' * 5 + 2) := q_add _ 2
      have g3 : nI (f' * 5) + 3 = nI (f' * 5 + 3) := q_add _ 3
      unfold wpJ_Model_where_128
      rw [f0, g0, f2, f3, g2, g3, q_ix (by omega), q_ix (by omega), q_ix (by omega), q_ix (by omega)]
      refine ⟨fun h => go 0 ?_, fun h => ⟨vp_in_nI (by omega) (by omega), vp_in_nI (by omega) (by omega), fun p2 => go 0 (by rw [if_neg (fun z => p2 z.2.1)]), fun p2 => ⟨vp_in_nI (by omega) (by omega), vp_in_nI (by omega) (by omega), fun p3 => go 0 (by rw [if_neg (fun z => p3 z.2.2)]), fun p3 => go 1 ?_⟩⟩⟩
      · have h' : (if b = true then (1 : Int32) else 0) = 0 := h
        rw [if_neg (fun z => by rw [if_pos z.1] at h'; exact absurd h' (by decide))]
      · have h' : ¬ (if b = true then (1 : Int32) else 0) = 0 := h
        have b1 : b = true := by
          by_cases w : b = true
          · exact w
          · rw [if_neg w] at h'; exact absurd rfl h'
        rw [if_pos ⟨b1, p2, p3⟩]
    by_cases t0 : t = 0
    · refine ⟨fun h => absurd (if_pos t0) h, fun _ => put k (Nat.le_refl _) (by rw [if_pos t0])⟩
    · have hf : f < k := hb.2.resolve_left t0
      have ne : (if t = 0 then (-4 : Int32) else nI f) = nI f := if_neg t0
      refine ⟨fun _ => ?_, fun h => ?_⟩
      · show wpJ_Model_where_128 a1 a2 K J Q (nI t) (w7 (t, f, b)) (nI k) (if t = 0 then (-4 : Int32) else nI f) W
        rw [ne]
        exact put f (by omega) (by rw [if_neg t0])
      · have h : (if t = 0 then (-4 : Int32) else nI f) = -4 := h
        rw [ne] at h
        exact absurd h (fun c => by
          have := q_neq (a := f) (c := 4) (by omega) (by omega) (by omega)
          rw [show (-4 : Int32) = -nI 4 from rfl, this] at c
          exact c)
theorem mw_ring {n H L : Nat} {M R W : zMem} {Q : Int32 → zMem → Prop} (vt : sp_vt M 1 n H L) (r : rt0 W M n H L) (h : rq M n H L 120 R)
    (hQ : ∀ W' M0 Mc, sp_clear 32 M0 Mc → sp_ok Mc 1 32 n H L → (∀ i, i ≤ 4 → Mc (1 + i) = M (1 + i)) → Mc 30 0 = 0 → R = sp_run 1 32 H (nI 120) 12000 (sp_all 1 32 H Mc) → mr W' R 1 1 32 n H L (fun h => h) → mfy W W' → sp_rok (sp_ring 1 32 n H Mc) → mo (sp_ring 1 32 n H Mc) W' → Q (if sp_ring 1 32 n H Mc = none then 0 else 1) W') : wp_Model_asNumbered W (fun W1 => wp_Model_hasRing W1 Q) := by
  obtain ⟨M0, Mc, hc, ok, tc, z30, eR⟩ := h
  refine mt_asNumbered vt r (fun W1 m1 => ?_)
  obtain ⟨a18, a19, ah, a0, ak⟩ := id m1
  have H5 : H ≤ 5 := vt.1.2.2.2.1
  have r1 : rt0 W1 Mc n H L := r.moved (ak 4 (by omega) (by omega) (by omega)) tc
  have t1 : Mc 1 = M 1 := tc 0 (by omega)
  have t5 : Mc 5 = M 5 := tc 4 (by omega)
  have rt : mr_t W1 Mc 1 n H L := mr_t_of (M' := Mc) r1 a18 (by rw [t1]; exact a19) (fun h hh => by rw [t5]; exact (ah h hh).2)
  have rw0 : mw0 W1 Mc 1 n H (fun h => h) := ⟨fun h hh => ⟨by show h < 5; omega, (ah h hh).1⟩, fun h j _ _ e => e, fun h p hh hp => r1.2.2.2.2.2.2.2.2.2.1 h p hh hp⟩
  exact mt_hasRing hc ok rt rw0 (fun _ => z30) (fun W' b1 fx rk m _ _ => hQ W' M0 Mc hc ok tc z30 eR (by rw [eR]; exact b1) (m1.y.tr fx.y) rk m)
theorem mr_log {n H L z : Nat} {R W : zMem} (h : mr W R 1 1 32 n H L (fun h => h)) (ez : R 30 0 = nI z) (z6 : z ≤ 600) : ∀ j, j < 5 * z → W 10 j = R 31 j := by
  obtain ⟨o, o1, o2, o3, o4⟩ := h.2.2.2.2.2 rfl rfl
  have e : z = if o < 600 then o else 600 := (nI_eq (by omega) (by split <;> omega)).mp (ez.symm.trans o3)
  intro j hj
  have : z ≤ o := by rw [e]; split <;> omega
  exact o4 j (by omega) (by omega)
set_option maxHeartbeats 1000000 in
/-- where: the same answers, but for 'always at the same' of no time -/
theorem p_where {n H L : Nat} {M W : zMem} {a1 a2 : Int32} {P : zMem → zMem → Prop} (vt : sp_vt M 1 n H L) (r : rt0 W M n H L) (hcr : cr M n H L) (ht : ztc (M 32 0) = 1) (hcc : cc M n H L)
    (hP0 : P M W) (hP : ∀ M' W', cr M' n H L → cc M' n H L → M' 32 0 = M 32 0 → (∀ k, (k < 29 ∨ 55 ≤ k) → M' k = M k) → mfy W W' → P M' W') : wp_Main_where a1 a2 M (fun x M' => wp_Model_where a1 a2 W (fun y W' => (x = y ∨ a2 = 1) ∧ P M' W')) := by
  obtain ⟨⟨n1, n8, H1, H5, L1, L6⟩, hn, hH, -⟩ := id vt
  have bad : ¬ ((∃ h, 1 ≤ h ∧ h < H ∧ a1 = nI h) ∧ 0 ≤ a2 ∧ a2 ≤ 3) → wp_Model_where a1 a2 W (fun y W' => (-1 = y ∨ a2 = 1) ∧ P M W') := fun nb =>
    mt_isHand r.2.1 (by omega) (by omega) (fun h hh eh => ⟨fun q => absurd q (by decide), fun _ => ⟨fun _ => ⟨Or.inl rfl, hP0⟩, fun n0 => mt_in (lo' := 0) (hi' := 3) rfl rfl (fun c1 c2 => absurd ⟨⟨h, by
      rcases Nat.eq_zero_or_pos h with w | w
      · rw [w] at eh; exact absurd eh n0
      · exact w, hh, eh⟩, c1, c2⟩ nb) (fun _ => ⟨fun q => absurd rfl q, fun _ => ⟨Or.inl rfl, hP0⟩⟩)⟩⟩) (fun _ => ⟨fun _ => ⟨Or.inl rfl, hP0⟩, fun q => absurd rfl q⟩)
  refine ⟨fun c => bad (fun ⟨⟨h, h1, hh, eh⟩, _⟩ => ?_), fun c1 => ⟨fun c => bad (fun ⟨⟨h, h1, hh, eh⟩, _⟩ => ?_), fun c2 => ⟨fun c => bad (fun q => absurd c (Int32.not_lt.mpr q.2.1)), fun c3 => ⟨fun c4 => ?_, fun c => bad (fun q => c q.2.2)⟩⟩⟩⟩
  · rw [eh] at c
    have := (nI_ltI (b := 1) (by omega) (by omega)).mp c
    omega
  · rw [eh, hH] at c
    have := (nI_leI (by omega) (by omega)).mp c
    omega
  obtain ⟨h, hb, rfl⟩ := nI_of (x := a1) (fun q => c1 (Int32.lt_of_lt_of_le q (by decide : (0 : Int32) ≤ 1)))
  have h1 : 1 ≤ h := (nI_leI (a := 1) (by omega) (by omega)).mp (Int32.not_lt.mp c1)
  have hh : h < H := by
    rw [hH] at c2
    exact (nI_ltI (by omega) (by omega)).mp (Int32.not_le.mp c2)
  obtain ⟨c, hc3, rfl⟩ := nI_of2 (x := a2) (M := 3) (n := 3) rfl c3 c4
  have ref : ∀ (x : Int32) (M' : zMem), wp_Model_asNumbered W (fun zm5 => wp_Model_hasRing zm5 (fun zr8 zm7 => (¬ zr8 = 0 → ∃ m : Nat, zlp4 (wpB_Model_where_52 (nI h) (nI c) (fun (zx24 : Int32) (zx25 : Int32) (zx26 : Int32) (zm23 : zMem) => (¬ nI c = 0 → (¬ nI c = 1 → (¬ zx25 = (-4) → vp_in ((5 * zx25) + nI c) 3000 ∧ ((x = (zm23 10 (ix ((5 * zx25) + nI c))) ∨ nI c = 1) ∧ P M' zm23)) ∧ (zx25 = (-4) → ((x = (-4) ∨ nI c = 1) ∧ P M' zm23))) ∧ (nI c = 1 → (zx26 = 0 → ((x = 0 ∨ nI c = 1) ∧ P M' zm23)) ∧ (¬ zx26 = 0 → ((x = 1 ∨ nI c = 1) ∧ P M' zm23)))) ∧ (nI c = 0 → ((x = zx24 ∨ nI c = 1) ∧ P M' zm23))) (fun y W' => (x = y ∨ nI c = 1) ∧ P M' W')) m 0 ((-4)) 1 0 zm7) ∧ (zr8 = 0 → ((x = (-4) ∨ nI c = 1) ∧ P M' zm7)))) → wp_Model_where (nI h) (nI c) W (fun y W' => (x = y ∨ nI c = 1) ∧ P M' W') := fun x M' hx =>
    mt_isHand r.2.1 (by omega) (by omega) (fun _ _ _ => ⟨fun q => absurd q (by decide), fun _ => ⟨fun q => absurd q (nI_ne0 (by omega) (by omega)), fun _ => in_yes (hi := 3) rfl hc3 (by omega) ⟨fun _ => hx, fun q => absurd q (by decide)⟩⟩⟩) (fun q => absurd ⟨h, hh, rfl⟩ q)
  refine xt_findRing vt hcr (fun M1 M0 Mc hc ok tc rk ro cf => ?_)
  have told1 : ∀ i, i ≤ 4 → M1 (1 + i) = M (1 + i) := fun i hi => cf _ (by omega) (by omega)
  have cr1 : cr M1 n H L := Or.inr ⟨M0, Mc, hc, ok, fun i hi => (tc i hi).trans (told1 i hi).symm, rk, ro⟩
  have vt1 : sp_vt M1 1 n H L := vt.moved told1
  have e29 : M1 29 = M 29 := cf 29 (by omega) (by omega)
  have e32' : M1 32 0 = M 32 0 := by rw [cf 32 (by omega) (by omega)]
  have cc1 : cc M1 n H L := by
    rcases hcc with q | ⟨m, R, m1, m2, m3, m4, ⟨M0', Mc', b1, b2, b3, b4, b5⟩, m6⟩
    · exact Or.inl (by rw [e29]; exact q)
    · exact Or.inr ⟨m, R, m1, m2, by rw [e29]; exact m3, by rw [e29]; exact m4, ⟨M0', Mc', b1, b2, fun i hi => (b3 i hi).trans (told1 i hi).symm, b4, b5⟩, fun k k1 k2 => (cf k (by omega) (by omega)).trans (m6 k k1 k2)⟩
  obtain ⟨g0, gn, gs⟩ := id ro
  cases eo : sp_ring 1 45 n H Mc with
  | none =>
    refine ⟨fun q => absurd (gn eo).1 q, fun _ => ref _ _ (mt_ringAt vt r hc ok tc (fun W' fy m1 _ _ => ?_))⟩
    rw [if_pos eo]
    exact ⟨fun q => absurd rfl q, fun _ => ⟨Or.inl rfl, hP M1 W' cr1 cc1 e32' (fun k hk => cf k (by omega) (by omega)) fy⟩⟩
  | some x =>
    obtain ⟨da, ta, dn, tn⟩ := x
    obtain ⟨y1, y2, y5, y3, y4, -, -⟩ := gs da ta dn tn eo
    obtain ⟨k1, k2, k3, k4⟩ := rk da ta dn tn eo
    refine ⟨fun _ => ?_, fun q => absurd (y1.symm.trans q) (by decide)⟩
    show wp_Course_runFor 29 (nI 120) M1 _
    refine xt_course (m := 120) vt1 (by rw [e32']; exact ht) cc1 (by omega) (by omega) (fun M2 R hr e30 e2 e3 e32 fr => ?_)
    have cc2 := cc.of (by omega) (by omega) hr e30 e2 e3 fr
    obtain ⟨z, hz6, ez⟩ := rq_z (by omega) hr
    have e300 : M2 30 0 = nI z := by rw [e30 30 (by omega) (by omega)]; exact ez
    have e31 : M2 31 = R 31 := e30 31 (by omega) (by omega)
    have e54 : M2 54 = M1 54 := fr 54 (by omega)
    have cr2 : cr M2 n H L := Or.inr ⟨M0, Mc, hc, ok, fun i hi => ((tc i hi).trans (told1 i hi).symm).trans (fr _ (by omega)).symm, rk, by unfold sp_ro at ro ⊢; rw [e54]; exact ro⟩
    refine xt_places (lo := nI ta) (hi := nI tn) e300 hz6 (by rw [e54]; exact y5) (by rw [e54, y5, y4, q_add]; congr 1; omega) ?_
    rw [e31]
    have hr' : rq M n H L 120 R := by
      obtain ⟨A, B, b1, b2, b3, b4, b5⟩ := hr
      exact ⟨A, B, b1, b2, fun i hi => (b3 i hi).trans (told1 i hi), b4, b5⟩
    refine ref _ _ (mw_ring vt r hr' (fun W' M0' Mc' hc' ok' tc' z30 eR w1 fy rk' mo' => ?_))
    have er : sp_ring 1 32 n H Mc' = some (da, ta, dn, tn) := by
      rw [← eo]
      exact ag_ring ok' ok (ag_clear hc' hc H5 (fun i hi => (tc' i hi).trans (tc i hi).symm))
    rw [if_neg (fun q => by rw [er] at q; cases q)]
    refine ⟨fun _ => ?_, fun q => absurd q (by decide)⟩
    obtain ⟨q, rr, q1, q2, q3, q4, q5, q6, q7, q8⟩ := mo'.2 da ta dn tn er
    have pp : P M2 W' := hP M2 W' cr2 cc2 (e32.trans e32') (fun k hk => (fr k (by omega)).trans (cf k (by omega) (by omega))) fy
    have el := mr_log w1 ez hz6
    have kept : ∀ G : Int32 → zMem → Prop, G (nI z) W' → wp_Model_oversKept W' G := fun G hG => mw_kept w1 (fun z' hz' ez' _ => by
      have : z' = z := (nI_eq (by omega) (by omega)).mp (ez'.symm.trans ez)
      rw [this]; exact hG)
    refine mw_places hz6 kept q1 q2 q3 q4 q6 q8 (by omega) (fun s es => ?_)
    rw [wf_congr z el] at es
    rw [← es]
    have hs := wf_b (V := R 31) (h := nI h) (lo := nI ta) (hi := nI tn) z
    rw [← es] at hs
    have two : ∀ j, j < 5 → (¬ (if s.1 = 0 then (-4 : Int32) else nI s.2.1) = -4 → vp_in (5 * (if s.1 = 0 then (-4 : Int32) else nI s.2.1) + nI j) 3000 ∧ ((w2 (R 31) s j = W' 10 (ix (5 * (if s.1 = 0 then (-4 : Int32) else nI s.2.1) + nI j)) ∨ nI c = 1) ∧ P M2 W')) ∧ ((if s.1 = 0 then (-4 : Int32) else nI s.2.1) = -4 → ((w2 (R 31) s j = -4 ∨ nI c = 1) ∧ P M2 W')) := fun j hj => by
      unfold w2
      by_cases s0 : s.1 = 0
      · rw [if_pos s0, if_pos s0]
        exact ⟨fun q => absurd rfl q, fun _ => ⟨Or.inl rfl, pp⟩⟩
      · rw [if_neg s0, if_neg s0]
        have hf : s.2.1 < z := hs.2.resolve_left s0
        have f5 : 5 * nI s.2.1 + nI j = nI (s.2.1 * 5 + j) := by rw [show (5 : Int32) = nI 5 from rfl, q_mul, q_add, Nat.mul_comm]
        rw [f5, q_ix (by omega)]
        refine ⟨fun _ => ⟨vp_in_nI (by omega) (by omega), Or.inl (el _ (by omega)).symm, pp⟩, fun w => ?_⟩
        have := q_neq (a := s.2.1) (c := 4) (by omega) (by omega) (by omega)
        rw [show (-4 : Int32) = -nI 4 from rfl, this] at w
        exact absurd w id
    rcases (show c = 0 ∨ c = 1 ∨ c = 2 ∨ c = 3 by omega) with rfl | rfl | rfl | rfl
    · exact ⟨fun q => absurd rfl q, fun _ => ⟨Or.inl rfl, pp⟩⟩
    · exact ⟨fun _ => ⟨fun q => absurd rfl q, fun _ => ⟨fun w => ⟨Or.inr rfl, pp⟩, fun w => ⟨Or.inr rfl, pp⟩⟩⟩, fun q => absurd q (by decide)⟩
    · exact ⟨fun _ => ⟨fun _ => two 2 (by omega), fun q => absurd q (by decide)⟩, fun q => absurd q (by decide)⟩
    · exact ⟨fun _ => ⟨fun _ => two 3 (by omega), fun q => absurd q (by decide)⟩, fun q => absurd q (by decide)⟩
/-- how far a run of bytes goes: m left, from p on -/
def tk_s (P : Int32 → Bool) (T : Nat → Int32) : Nat → Nat → Nat
  | 0, p => p
  | m + 1, p => if P (T p) = true then tk_s P T m (p + 1) else p
def isB (b : Int32) : Bool := decide (b = 32)
def isL (b : Int32) : Bool := decide (¬ b < 97 ∧ ¬ 122 < b)
def isF (b : Int32) : Bool := decide (¬ b < 48 ∧ ¬ 57 < b)
theorem tk_s_le {P : Int32 → Bool} {T : Nat → Int32} : ∀ m p, p ≤ tk_s P T m p ∧ tk_s P T m p ≤ p + m := by
  intro m
  induction m with
  | zero => intro p; exact ⟨Nat.le_refl _, Nat.le_refl _⟩
  | succ m ih =>
    intro p
    unfold tk_s
    split
    · have := ih (p + 1)
      omega
    · omega
theorem tk_s_go {P : Int32 → Bool} {T : Nat → Int32} {z p : Nat} (h : p < z) (c : P (T p) = true) : tk_s P T (z - p) p = tk_s P T (z - (p + 1)) (p + 1) := by
  obtain ⟨m, e⟩ : ∃ m, z - p = m + 1 := ⟨z - p - 1, by omega⟩
  rw [e, show z - (p + 1) = m by omega]
  show (if P (T p) = true then _ else _) = _
  rw [if_pos c]
theorem tk_s_end {P : Int32 → Bool} {T : Nat → Int32} {z p : Nat} (h : z ≤ p ∨ P (T p) = false) : tk_s P T (z - p) p = p := by
  rcases Nat.lt_or_ge p z with q | q
  · obtain ⟨m, e⟩ : ∃ m, z - p = m + 1 := ⟨z - p - 1, by omega⟩
    rcases h with h | h
    · omega
    · rw [e]
      show (if P (T p) = true then _ else _) = _
      rw [h, if_neg (by decide)]
  · rw [show z - p = 0 by omega]; rfl
/-- whether word i stands there -/
def tk_w (T : Nat → Int32) (q e i : Nat) : Prop := e - q = zsL.getD i 0 ∧ ∀ j, j < zsL.getD i 0 → T (q + j) = zsc i j
/-- the first word from i on, m left -/
noncomputable def tk_nm (T : Nat → Int32) (q e : Nat) : Nat → Nat → Nat
  | 0, _ => 10
  | m + 1, i => haveI := Classical.propDecidable (tk_w T q e i); if tk_w T q e i then i else tk_nm T q e m (i + 1)
theorem tk_nm_s {T : Nat → Int32} {q e m i : Nat} : tk_nm T q e (m + 1) i = (haveI := Classical.propDecidable (tk_w T q e i); if tk_w T q e i then i else tk_nm T q e m (i + 1)) := rfl
theorem tk_nm_yes {T : Nat → Int32} {q e m i : Nat} (h : tk_w T q e i) : tk_nm T q e (m + 1) i = i := by
  rw [tk_nm_s, if_pos h]
theorem tk_nm_no {T : Nat → Int32} {q e m i : Nat} (h : ¬ tk_w T q e i) : tk_nm T q e (m + 1) i = tk_nm T q e m (i + 1) := by
  rw [tk_nm_s, if_neg h]
theorem tk_nm_b {T : Nat → Int32} {q e : Nat} : ∀ m i, i + m = 10 → tk_nm T q e m i ≤ 10 ∧ i ≤ tk_nm T q e m i := by
  intro m
  induction m with
  | zero => intro i h; show 10 ≤ 10 ∧ i ≤ 10; omega
  | succ m ih =>
    intro i h
    by_cases c : tk_w T q e i
    · rw [tk_nm_yes c]; omega
    · rw [tk_nm_no c]
      have := ih (i + 1) (by omega)
      omega
/-- what one or two figures tell -/
def tk_pv (T : Nat → Int32) (q e : Nat) : Int32 := if e = q then 0 else if e = q + 1 then 0 * 10 + T q - 48 else (0 * 10 + T q - 48) * 10 + T (q + 1) - 48
/-- the token from p on: where it starts, its kind (4: none), what it tells, where it ends, whether it is well -/
def tk_q (T : Nat → Int32) (z p : Nat) : Nat := tk_s isB T (z - p) p
def tk_k (T : Nat → Int32) (z q : Nat) : Nat := if q < z then (if T q = 59 then 3 else if isL (T q) = true then 1 else if isF (T q) = true then 2 else 4) else 0
def tk_e (T : Nat → Int32) (z q : Nat) : Nat := if tk_k T z q = 1 then tk_s isL T (z - q) q else if tk_k T z q = 2 then tk_s isF T (z - q) q else if tk_k T z q = 3 then q + 1 else q
noncomputable def tk_v (T : Nat → Int32) (z q : Nat) : Int32 := if tk_k T z q = 1 then nI (tk_nm T q (tk_e T z q) 10 0) else tk_pv T q (tk_e T z q)
def tk_o (T : Nat → Int32) (z q : Nat) : Prop := tk_k T z q = 0 ∨ tk_k T z q = 3 ∨ (tk_k T z q = 1 ∧ tk_nm T q (tk_e T z q) 10 0 < 10) ∨ (tk_k T z q = 2 ∧ tk_e T z q - q ≤ 2)
theorem tk_q_b {T : Nat → Int32} {z p : Nat} (h : p ≤ z) : p ≤ tk_q T z p ∧ tk_q T z p ≤ z := by
  have := tk_s_le (P := isB) (T := T) (z - p) p
  unfold tk_q
  omega
theorem tk_e_b {T : Nat → Int32} {z q : Nat} (h : q ≤ z) : q ≤ tk_e T z q ∧ tk_e T z q ≤ z := by
  have h1 := tk_s_le (P := isL) (T := T) (z - q) q
  have h2 := tk_s_le (P := isF) (T := T) (z - q) q
  unfold tk_e
  split
  · omega
  · split
    · omega
    · split
      · rename_i c
        have : q < z := by
          unfold tk_k at c
          split at c
          · assumption
          · omega
        omega
      · omega
theorem zup_same {M : zMem} {k j : Nat} {x : Int32} (h : M k j = x) : zup M k j x = M := by
  funext a
  by_cases e : a = k
  · subst e
    funext i
    rw [zup_eq]
    by_cases e2 : i = j
    · rw [e2, upd_eq, h]
    · rw [upd_ne e2]
  · rw [zup_ne e]
theorem e_isLetter {k a : Nat} {M : zMem} {Q : Int32 → zMem → Prop} (ha : a < 400) (hQ : Q (if isL (M (k + 6) a) = true then 1 else 0) M) : wp_Reader_isLetter k (nI a) M Q := by
  unfold isL at hQ
  unfold wp_Reader_isLetter
  rw [q_ix (by omega)]
  refine ⟨vp_in_nI ha (by omega), fun c => ?_, fun c => ⟨vp_in_nI ha (by omega), fun d => ?_, fun d => ?_⟩⟩
  · rw [if_neg (by simp [c])] at hQ; exact hQ
  · rw [if_neg (by simp [d])] at hQ; exact hQ
  · rw [if_pos (by simp [c, d])] at hQ; exact hQ
theorem e_isFigure {k a : Nat} {M : zMem} {Q : Int32 → zMem → Prop} (ha : a < 400) (hQ : Q (if isF (M (k + 6) a) = true then 1 else 0) M) : wp_Reader_isFigure k (nI a) M Q := by
  unfold isF at hQ
  unfold wp_Reader_isFigure
  rw [q_ix (by omega)]
  refine ⟨vp_in_nI ha (by omega), fun c => ?_, fun c => ⟨vp_in_nI ha (by omega), fun d => ?_, fun d => ?_⟩⟩
  · rw [if_neg (by simp [c])] at hQ; exact hQ
  · rw [if_neg (by simp [d])] at hQ; exact hQ
  · rw [if_pos (by simp [c, d])] at hQ; exact hQ
/-- blanks -/
theorem xt_skip {k z p : Nat} {M : zMem} {K : zMem → Prop} {Q : Int32 → zMem → Prop} (h5 : M k 5 = nI z) (hz : z ≤ 400) (h6 : M k 6 = nI p) (hp : p ≤ z) (hK : K (zup M k 6 (nI (tk_q (M (k + 6)) z p)))) : ∃ n, zlp0 (wpB_Reader_readToken_0 k K Q) n M := by
  refine zlp0_r (fun m M' => ∃ i, i ≤ z ∧ m = z - i ∧ M' = zup M k 6 (nI i) ∧ tk_s isB (M (k + 6)) (z - i) i = tk_q (M (k + 6)) z p) ?_ (n := z - p) ⟨p, hp, rfl, (zup_same h6).symm, rfl⟩
  rintro m M' ⟨i, hi, rfl, rfl, e⟩ J hJ
  unfold wpB_Reader_readToken_0
  have g5 : zup M k 6 (nI i) k 5 = nI z := by rw [zup_eq, upd_ne (by omega)]; exact h5
  have g6 : zup M k 6 (nI i) k 6 = nI i := by rw [zup_eq, upd_eq]
  have gT : zup M k 6 (nI i) (k + 6) = M (k + 6) := by rw [zup_ne (by omega)]
  rw [g5, g6, gT, q_ix (by omega)]
  have stop : (z ≤ i ∨ isB (M (k + 6) i) = false) → K (zup M k 6 (nI i)) := fun c => by
    rw [tk_s_end c] at e
    rw [e]; exact hK
  refine ⟨fun c => stop (Or.inl ((nI_leI (by omega) (by omega)).mp c)), fun c => ?_⟩
  have hi2 : i < z := (nI_ltI (by omega) (by omega)).mp (Int32.not_le.mp c)
  refine ⟨vp_in_nI (by omega) (by omega), fun d => stop (Or.inr (by unfold isB; simp [d])), fun d M2 e2 => ?_⟩
  refine hJ (z - (i + 1)) _ (by omega) ⟨i + 1, by omega, rfl, ?_, ?_⟩
  · rw [e2, zup_zup, nI_1]
  · rw [← e, ← tk_s_go hi2 (by unfold isB; simp [d])]
/-- letters -/
theorem xt_letters {k z p : Nat} {M : zMem} {K : zMem → Prop} {Q : Int32 → zMem → Prop} (h5 : M k 5 = nI z) (hz : z ≤ 400) (h6 : M k 6 = nI p) (hp : p ≤ z) (hK : K (zup M k 6 (nI (tk_s isL (M (k + 6)) (z - p) p)))) : ∃ n, zlp0 (wpB_Reader_readName_5 k K Q) n M := by
  refine zlp0_r (fun m M' => ∃ i, i ≤ z ∧ m = z - i ∧ M' = zup M k 6 (nI i) ∧ tk_s isL (M (k + 6)) (z - i) i = tk_s isL (M (k + 6)) (z - p) p) ?_ (n := z - p) ⟨p, hp, rfl, (zup_same h6).symm, rfl⟩
  rintro m M' ⟨i, hi, rfl, rfl, e⟩ J hJ
  unfold wpB_Reader_readName_5
  have g5 : zup M k 6 (nI i) k 5 = nI z := by rw [zup_eq, upd_ne (by omega)]; exact h5
  have g6 : zup M k 6 (nI i) k 6 = nI i := by rw [zup_eq, upd_eq]
  have gT : zup M k 6 (nI i) (k + 6) = M (k + 6) := by rw [zup_ne (by omega)]
  rw [g5, g6]
  have stop : (z ≤ i ∨ isL (M (k + 6) i) = false) → K (zup M k 6 (nI i)) := fun c => by
    rw [tk_s_end c] at e
    rw [e]; exact hK
  refine ⟨fun c => stop (Or.inl ((nI_leI (by omega) (by omega)).mp c)), fun c => ?_⟩
  have hi2 : i < z := (nI_ltI (by omega) (by omega)).mp (Int32.not_le.mp c)
  refine e_isLetter (by omega) ?_
  rw [gT]
  by_cases d : isL (M (k + 6) i) = true
  · rw [if_pos d]
    refine ⟨fun q => absurd q (by decide), fun _ M2 e2 => ?_⟩
    refine hJ (z - (i + 1)) _ (by omega) ⟨i + 1, by omega, rfl, ?_, ?_⟩
    · rw [e2, g6, zup_zup, nI_1]
    · rw [← e, ← tk_s_go hi2 d]
  · rw [if_neg d]
    refine ⟨fun _ => stop (Or.inr (by simpa using d)), fun q => absurd rfl q⟩
theorem zup_cm {M : zMem} {k i j : Nat} {x y : Int32} (h : i ≠ j) : zup (zup M k i x) k j y = zup (zup M k j y) k i x := by
  funext a
  by_cases e : a = k
  · subst e
    funext l
    rw [zup_eq, zup_eq, zup_eq, zup_eq]
    by_cases c1 : l = i
    · subst c1; rw [upd_ne h, upd_eq, upd_eq]
    · by_cases c2 : l = j
      · subst c2; rw [upd_eq, upd_ne c1, upd_eq]
      · rw [upd_ne c2, upd_ne c1, upd_ne c1, upd_ne c2]
  · rw [zup_ne e, zup_ne e, zup_ne e, zup_ne e]
def b2i (b : Bool) : Int32 := if b = true then 1 else 0
/-- a fault at the token at hand -/
def rfs (k : Nat) (c : Int32) (M : zMem) : zMem := zup (zup M k 1 c) k 2 (M k 8)
theorem e_refuse {k : Nat} {c : Int32} {M : zMem} {Q : Int32 → zMem → Prop} (hQ : Q 0 (rfs k c M)) : wp_Reader_refuse k c (M k 8) M Q := by
  intro M1 e1 M2 e2
  rw [e2, e1]
  exact hQ
theorem zsL_b {i : Nat} (h : i < 11) : zsL.getD i 0 ≤ 5 := (show ∀ i, i < 11 → zsL.getD i 0 ≤ 5 by decide) i h
/-- one word is held against the tape -/
theorem xt_cmp {k z q e i : Nat} {x1 : Int32} {M : zMem} {K : Int32 → zMem → Prop} {Q : Int32 → zMem → Prop} (hi : i < 11) (h6 : M k 6 = nI e) (h8 : M k 8 = nI q) (hq : q ≤ e) (he : e ≤ z) (hz : z ≤ 400) (hK : ∀ s, s ≤ 5 → ((s = zsL.getD i 0 ∧ q + s = e) ↔ tk_w (M (k + 6)) q e i) → K (nI s) M) : ∃ n, zlp1 (wpB_Reader_readName_68 k x1 i K Q) n 0 M := by
  have hL := zsL_b (i := i) (by omega)
  refine zlp1_r (fun m x M' => ∃ s, x = nI s ∧ s ≤ zsL.getD i 0 ∧ m = zsL.getD i 0 - s ∧ M = M' ∧ q + s ≤ e ∧ ∀ j, j < s → M (k + 6) (q + j) = zsc i j) ?_ (n := zsL.getD i 0) ⟨0, rfl, by omega, rfl, rfl, by omega, fun j h => absurd h (by omega)⟩
  rintro m x M' ⟨s, rfl, hs, rfl, rfl, hse, hj⟩ J hJ
  unfold wpB_Reader_readName_68
  have stop : (s = zsL.getD i 0 ∨ q + s = e ∨ M (k + 6) (q + s) ≠ zsc i s) → K (nI s) M := fun st => hK s (by omega) ⟨fun ⟨c1, c2⟩ => ⟨by omega, fun j h => hj j (by omega)⟩, fun ⟨c1, c2⟩ => by
    rcases st with c | c | c
    · omega
    · omega
    · rcases Nat.lt_or_ge s (zsL.getD i 0) with d | d
      · exact absurd (c2 s d) c
      · omega⟩
  refine ⟨hi, fun c => stop (Or.inl ?_), fun c => ?_⟩
  · have := (nI_leI (by omega) (by omega)).mp c
    omega
  have hs2 : s < zsL.getD i 0 := (nI_ltI (by omega) (by omega)).mp (Int32.not_le.mp c)
  rw [h6, h8, q_add]
  refine ⟨fun c => stop (Or.inr (Or.inl ?_)), fun c => ?_⟩
  · have := (nI_leI (by omega) (by omega)).mp c
    omega
  have hs3 : q + s < e := (nI_ltI (by omega) (by omega)).mp (Int32.not_le.mp c)
  refine ⟨vp_in_nI (by omega) (by omega), hi, vp_in_nI hs2 (by omega), ?_⟩
  rw [q_ix (by omega), nI_clamp (by omega)]
  refine ⟨fun d => stop (Or.inr (Or.inr d)), fun d y ey => ?_⟩
  rw [ey, nI_1]
  refine hJ (zsL.getD i 0 - (s + 1)) _ _ (by omega) ⟨s + 1, rfl, by omega, rfl, rfl, by omega, fun j h => ?_⟩
  rcases Nat.lt_or_ge j s with c | c
  · exact hj j c
  · rw [show j = s by omega]; exact d
/-- which word it is -/
theorem xt_words {k z q e : Nat} {M : zMem} {K : zMem → Prop} {Q : Int32 → zMem → Prop} (h6 : M k 6 = nI e) (h8 : M k 8 = nI q) (h9 : M k 9 = -1) (hq : q ≤ e) (he : e ≤ z) (hz : z ≤ 400) (hK : ∀ nm, nm = tk_nm (M (k + 6)) q e 10 0 → K (zup M k 9 (if nm < 10 then nI nm else -1))) : ∃ n, zlp1 (wpB_Reader_readName_47 k K Q) n 0 M := by
  have hb := tk_nm_b (T := M (k + 6)) (q := q) (e := e) 10 0 rfl
  have hK' := hK _ rfl
  generalize hnm : tk_nm (M (k + 6)) q e 10 0 = nm at hb hK'
  refine zlp1_r (fun m x M' => ∃ i, x = nI i ∧ i ≤ 10 ∧ m = 10 - i ∧ ((M' = M ∧ tk_nm (M (k + 6)) q e (10 - i) i = nm) ∨ (nm < 10 ∧ M' = zup M k 9 (nI nm)))) ?_ (n := 10) ⟨0, rfl, by omega, rfl, Or.inl ⟨rfl, hnm⟩⟩
  rintro m x M' ⟨i, rfl, hi, rfl, hc⟩ J hJ
  unfold wpB_Reader_readName_47
  rcases hc with ⟨rfl, e1⟩ | ⟨h10, rfl⟩
  · refine ⟨fun c => ?_, fun c => ⟨fun d => absurd h9 d, fun _ => ?_⟩⟩
    · have := (nI_leI (a := 10) (by omega) (by omega)).mp c
      have e2 : i = 10 := by omega
      rw [e2] at e1
      have e3 : nm = 10 := e1.symm
      rw [e3, if_neg (by omega), zup_same h9] at hK'
      exact hK'
    · have hi2 : i < 10 := (nI_ltI (b := 10) (by omega) (by omega)).mp (Int32.not_le.mp c)
      refine ⟨fun j hj ej => ?_, fun no => absurd rfl (no i hi2)⟩
      have : i = j := (nI_eq (by omega) (by omega)).mp ej
      subst this
      refine xt_cmp (by omega) h6 h8 hq he hz (fun s hs iff => ?_)
      have hL := zsL_b (i := i) (by omega)
      obtain ⟨f, ef⟩ : ∃ f, 10 - i = f + 1 := ⟨10 - i - 1, by omega⟩
      have ef2 : 10 - (i + 1) = f := by omega
      have no : ¬ (s = zsL.getD i 0 ∧ q + s = e) → ∀ y, y = nI i + 1 → J y M' := fun c y ey => by
        rw [ey, nI_1]
        refine hJ (10 - (i + 1)) _ _ (by omega) ⟨i + 1, rfl, by omega, rfl, Or.inl ⟨rfl, ?_⟩⟩
        rw [ef, tk_nm_no (fun w => c (iff.mpr w))] at e1
        rw [ef2]; exact e1
      unfold wpJ_Reader_readName_114
      refine ⟨by omega, fun c => no (fun w => c (by rw [w.1])), fun c => ?_⟩
      have c' : s = zsL.getD i 0 := (nI_eq (by omega) (by omega)).mp c
      rw [h6, h8, q_add]
      refine ⟨fun d => no (fun w => d (by rw [w.2])), fun d M2 e2 y ey => ?_⟩
      have d' : q + s = e := (nI_eq (by omega) (by omega)).mp d
      rw [ey, nI_1]
      rw [ef, tk_nm_yes (iff.mp ⟨c', d'⟩)] at e1
      refine hJ (10 - (i + 1)) _ _ (by omega) ⟨i + 1, rfl, by omega, rfl, Or.inr ⟨by omega, by rw [e2, e1]⟩⟩
  · have n9 : ¬ zup M k 9 (nI nm) k 9 = -1 := by
      rw [zup_eq, upd_eq]
      exact fun q => (q_neq (a := nm) (c := 1) (by omega) (by omega) (by omega)).mp q
    rw [if_pos h10] at hK'
    exact ⟨fun _ => hK', fun _ => ⟨fun _ => hK', fun d => absurd d n9⟩⟩
theorem xt_name {k z q : Nat} {M : zMem} {Q : Int32 → zMem → Prop} (h5 : M k 5 = nI z) (hz : z ≤ 400) (h6 : M k 6 = nI q) (h8 : M k 8 = nI q) (hq : q ≤ z)
    (hQ : ∀ e nm, e = tk_s isL (M (k + 6)) (z - q) q → nm = tk_nm (M (k + 6)) q e 10 0 → (nm < 10 → Q 1 (zup (zup (zup M k 7 1) k 6 (nI e)) k 9 (nI nm))) ∧ (¬ nm < 10 → Q 0 (rfs k 1 (zup (zup (zup M k 7 1) k 6 (nI e)) k 9 (-1))))) : wp_Reader_readName k M Q := by
  intro M1 e1
  have a5 : M1 k 5 = nI z := by rw [e1, zup_eq, upd_ne (by omega)]; exact h5
  have a6 : M1 k 6 = nI q := by rw [e1, zup_eq, upd_ne (by omega)]; exact h6
  have aT : M1 (k + 6) = M (k + 6) := by rw [e1, zup_ne (by omega)]
  refine xt_letters a5 hz a6 hq ?_
  intro M3 e3
  have hb := tk_s_le (P := isL) (T := M1 (k + 6)) (z - q) q
  obtain ⟨c1, c2⟩ := hQ _ _ rfl rfl
  rw [← aT] at c1 c2
  generalize hee : tk_s isL (M1 (k + 6)) (z - q) q = e at hb c1 c2 e3
  have bT : M3 (k + 6) = M1 (k + 6) := by rw [e3, zup_ne (by omega), zup_ne (by omega)]
  have b6 : M3 k 6 = nI e := by rw [e3, zup_eq, upd_ne (by omega), zup_eq, upd_eq]
  have b8 : M3 k 8 = nI q := by rw [e3, zup_eq, upd_ne (by omega), zup_eq, upd_ne (by omega), e1, zup_eq, upd_ne (by omega)]; exact h8
  have b9 : M3 k 9 = -1 := by rw [e3, zup_eq, upd_eq]
  refine xt_words b6 b8 b9 hb.1 (show e ≤ z by omega) hz (fun nm enm => ?_)
  rw [bT] at enm
  rw [← enm] at c1 c2
  unfold wpJ_Reader_readName_146
  by_cases h10 : nm < 10
  · rw [if_pos h10]
    have n9 : ¬ zup M3 k 9 (nI nm) k 9 = -1 := by
      rw [zup_eq, upd_eq]
      exact fun q => (q_neq (a := nm) (c := 1) (by omega) (by omega) (by omega)).mp q
    refine ⟨fun _ => ?_, fun d => absurd d n9⟩
    rw [e3, zup_zup, e1]
    exact c1 h10
  · rw [if_neg h10, zup_same b9]
    refine ⟨fun d => absurd b9 d, fun _ => e_refuse ⟨fun _ => ?_, fun d => absurd rfl d⟩⟩
    rw [e3, e1]
    exact c2 h10
theorem xt_figs {k z q : Nat} {M : zMem} {Q : Int32 → zMem → Prop} (h5 : M k 5 = nI z) (hz : z ≤ 400) (h6 : M k 6 = nI q) (h8 : M k 8 = nI q) (hq : q ≤ z)
    (hQ : ∀ e, e = tk_s isF (M (k + 6)) (z - q) q → (e - q ≤ 2 → Q 1 (zup (zup (zup M k 7 2) k 9 (tk_pv (M (k + 6)) q e)) k 6 (nI e))) ∧ (¬ e - q ≤ 2 → Q 0 (rfs k 1 (zup (zup (zup M k 7 2) k 9 (tk_pv (M (k + 6)) q e)) k 6 (nI e))))) : wp_Reader_readFigures k M Q := by
  intro M1 e1 M2 e2
  have hQ' := hQ _ rfl
  have hb := tk_s_le (P := isF) (T := M (k + 6)) (z - q) q
  generalize hee : tk_s isF (M (k + 6)) (z - q) q = e at hQ' hb
  have a5 : M1 k 5 = nI z := by rw [e1, zup_eq, upd_ne (by omega)]; exact h5
  have a6 : M1 k 6 = nI q := by rw [e1, zup_eq, upd_ne (by omega)]; exact h6
  have a8 : M1 k 8 = nI q := by rw [e1, zup_eq, upd_ne (by omega)]; exact h8
  have aT : M1 (k + 6) = M (k + 6) := by rw [e1, zup_ne (by omega)]
  refine zlp0_r (fun m M' => ∃ i, q ≤ i ∧ i ≤ z ∧ m = z - i ∧ M' = zup (zup M1 k 9 (tk_pv (M (k + 6)) q i)) k 6 (nI i) ∧ tk_s isF (M (k + 6)) (z - i) i = e) ?_ (n := z - q) ⟨q, Nat.le_refl _, hq, rfl, ?_, hee⟩
  · rintro m M' ⟨i, hqi, hi, rfl, rfl, ei⟩ J hJ
    unfold wpB_Reader_readFigures_10
    generalize hX : zup (zup M1 k 9 (tk_pv (M (k + 6)) q i)) k 6 (nI i) = X
    have g5 : X k 5 = nI z := by rw [← hX, zup_eq, upd_ne (by omega), zup_eq, upd_ne (by omega)]; exact a5
    have g6 : X k 6 = nI i := by rw [← hX, zup_eq, upd_eq]
    have g8 : X k 8 = nI q := by rw [← hX, zup_eq, upd_ne (by omega), zup_eq, upd_ne (by omega)]; exact a8
    have g9 : X k 9 = tk_pv (M (k + 6)) q i := by rw [← hX, zup_eq, upd_ne (by omega), zup_eq, upd_eq]
    have gT : X (k + 6) = M (k + 6) := by rw [← hX, zup_ne (by omega), zup_ne (by omega)]; exact aT
    rw [g5, g6]
    have stop : (z ≤ i ∨ isF (M (k + 6) i) = false) → wpJ_Reader_readFigures_89 k Q X := fun c => by
      rw [tk_s_end c] at ei
      subst ei
      unfold wpJ_Reader_readFigures_89
      rw [g6, g8, q_sub hqi]
      rw [e1] at hX
      refine ⟨fun d => ?_, fun d => ?_⟩
      · have := (nI_leI (b := 2) (by omega) (by omega)).mp d
        rw [← hX]; exact hQ'.1 this
      · rw [← g8]
        refine e_refuse ⟨fun _ => ?_, fun w => absurd rfl w⟩
        rw [← hX]
        exact hQ'.2 (fun w => d ((nI_leI (b := 2) (by omega) (by omega)).mpr w))
    refine ⟨fun c => stop (Or.inl ((nI_leI (by omega) (by omega)).mp c)), fun c => ?_⟩
    have hi2 : i < z := (nI_ltI (by omega) (by omega)).mp (Int32.not_le.mp c)
    refine e_isFigure (by omega) ?_
    rw [gT]
    by_cases d : isF (M (k + 6) i) = true
    · rw [if_pos d, g8, g6, q_sub hqi]
      have nx : tk_s isF (M (k + 6)) (z - (i + 1)) (i + 1) = e := by rw [← ei, ← tk_s_go hi2 d]
      refine ⟨fun w => absurd w (by decide), fun _ => ⟨fun w M5 e5 M6 e6 => ?_, fun w => ⟨vp_in_nI (by omega) (by omega), fun M5 e5 M6 e6 => ?_⟩⟩⟩
      · have hw : 2 ≤ i - q := (nI_leI (a := 2) (by omega) (by omega)).mp w
        refine hJ (z - (i + 1)) _ (by omega) ⟨i + 1, by omega, by omega, rfl, ?_, nx⟩
        rw [e6, e5, zup_same rfl, g6, ← hX, zup_zup, nI_1]
        have : tk_pv (M (k + 6)) q i = tk_pv (M (k + 6)) q (i + 1) := by
          unfold tk_pv
          rw [if_neg (by omega), if_neg (by omega), if_neg (by omega), if_neg (by omega)]
        rw [this]
      · have hw : i - q < 2 := by
          rcases Nat.lt_or_ge (i - q) 2 with v | v
          · exact v
          · exact absurd ((nI_leI (a := 2) (by omega) (by omega)).mpr v) w
        refine hJ (z - (i + 1)) _ (by omega) ⟨i + 1, by omega, by omega, rfl, ?_, nx⟩
        have f6 : M5 k 6 = nI i := by rw [e5, zup_eq, upd_ne (by omega)]; exact g6
        rw [e6, f6, e5, g9, ← hX, zup_cm (i := 6) (j := 9) (by omega), zup_zup, zup_zup, nI_1]
        have : tk_pv (M (k + 6)) q i * 10 + M (k + 6) (ix (nI i)) - 48 = tk_pv (M (k + 6)) q (i + 1) := by
          rw [q_ix (by omega)]
          unfold tk_pv
          rcases (show i = q ∨ i = q + 1 by omega) with rfl | rfl
          · rw [if_pos rfl, if_neg (by omega), if_pos rfl]
          · rw [if_neg (by omega), if_pos rfl, if_neg (by omega), if_neg (by omega)]
        rw [this]
    · rw [if_neg d]
      exact ⟨fun _ => stop (Or.inr (by simpa using d)), fun w => absurd rfl w⟩
  · have : tk_pv (M (k + 6)) q q = 0 := by unfold tk_pv; rw [if_pos rfl]
    rw [this, e2]
    exact (zup_same (by rw [zup_eq, upd_ne (by omega)]; exact a6)).symm
/-- all but where the reader is -/
def tkf (k : Nat) (M M' : zMem) : Prop := (∀ c, c ≠ k → M' c = M c) ∧ ∀ j, j ≠ 6 → j ≠ 7 → j ≠ 8 → j ≠ 9 → M' k j = M k j
/-- a token is read -/
def rT (k z p : Nat) (M : zMem) (b : Bool) (M' : zMem) : Prop :=
  (b = true ∧ tk_o (M (k + 6)) z (tk_q (M (k + 6)) z p) ∧ tkf k M M' ∧ M' k 6 = nI (tk_e (M (k + 6)) z (tk_q (M (k + 6)) z p)) ∧ M' k 7 = nI (tk_k (M (k + 6)) z (tk_q (M (k + 6)) z p)) ∧ M' k 8 = nI (tk_q (M (k + 6)) z p) ∧ (tk_k (M (k + 6)) z (tk_q (M (k + 6)) z p) = 1 ∨ tk_k (M (k + 6)) z (tk_q (M (k + 6)) z p) = 2 → M' k 9 = tk_v (M (k + 6)) z (tk_q (M (k + 6)) z p))) ∨
  (b = false ∧ ¬ tk_o (M (k + 6)) z (tk_q (M (k + 6)) z p) ∧ ∃ M1, tkf k M M1 ∧ M1 k 8 = nI (tk_q (M (k + 6)) z p) ∧ M' = rfs k 1 M1)
theorem xt_token {k z p : Nat} {M : zMem} {Q : Int32 → zMem → Prop} (h5 : M k 5 = nI z) (hz : z ≤ 400) (h6 : M k 6 = nI p) (hp : p ≤ z) (hQ : ∀ b M', rT k z p M b M' → Q (b2i b) M') : wp_Reader_readToken k M Q := by
  have hb := tk_q_b (T := M (k + 6)) hp
  unfold rT at hQ
  refine xt_skip h5 hz h6 hp ?_
  generalize tk_q (M (k + 6)) z p = q at hQ hb
  have ok := fun M' => hQ true M'
  have no := fun M' => hQ false M'
  intro M3 e3
  have x6 : zup M k 6 (nI q) k 6 = nI q := by rw [zup_eq, upd_eq]
  rw [x6] at e3
  have g5 : M3 k 5 = nI z := by rw [e3, zup_eq, upd_ne (by omega), zup_eq, upd_ne (by omega)]; exact h5
  have g6 : M3 k 6 = nI q := by rw [e3, zup_eq, upd_ne (by omega)]; exact x6
  have g8 : M3 k 8 = nI q := by rw [e3, zup_eq, upd_eq]
  have gT : M3 (k + 6) = M (k + 6) := by rw [e3, zup_ne (by omega), zup_ne (by omega)]
  have fr : tkf k M M3 := ⟨fun c hc => by rw [e3, zup_ne hc, zup_ne hc], fun j a b c d => by rw [e3, zup_eq, upd_ne c, zup_eq, upd_ne a]⟩
  have up : ∀ (X : zMem) (j : Nat) (x : Int32), j = 6 ∨ j = 7 ∨ j = 9 → tkf k M X → tkf k M (zup X k j x) := fun X j x hj h => ⟨fun c hc => by rw [zup_ne hc]; exact h.1 c hc, fun i a b c d => by rw [zup_eq, upd_ne (by omega)]; exact h.2 i a b c d⟩
  rw [g5, g6, gT]
  refine ⟨fun c => ?_, fun c M6 e6 => ?_⟩
  · have hqz : q < z := (nI_ltI (by omega) (by omega)).mp c
    rw [q_ix (by omega)]
    refine ⟨vp_in_nI (by omega) (by omega), fun d => ?_, fun d M5 e5 M6 e6 => ?_⟩
    · refine e_isLetter (by omega) ?_
      rw [gT]
      by_cases hl : isL (M (k + 6) q) = true
      · rw [if_pos hl]
        refine ⟨fun w => absurd w (by decide), fun _ => xt_name g5 hz g6 g8 hb.2 (fun e nm ee en => ?_)⟩
        rw [gT] at ee en
        have kk : tk_k (M (k + 6)) z q = 1 := by unfold tk_k; rw [if_pos hqz, if_neg d, if_pos hl]
        have ke : tk_e (M (k + 6)) z q = e := by unfold tk_e; rw [if_pos kk]; exact ee.symm
        have kv : tk_v (M (k + 6)) z q = nI nm := by unfold tk_v; rw [if_pos kk, ke, en]
        have ko : tk_o (M (k + 6)) z q ↔ nm < 10 := by unfold tk_o; rw [kk, ke, ← en]; omega
        refine ⟨fun h => ⟨zbo_1, ok _ (Or.inl ⟨rfl, ko.mpr h, up _ 9 _ (by omega) (up _ 6 _ (by omega) (up _ 7 _ (by omega) fr)), ?_, ?_, ?_, fun _ => ?_⟩)⟩, fun h => ⟨zbo_0, no _ (Or.inr ⟨rfl, fun w => h (ko.mp w), _, up _ 9 _ (by omega) (up _ 6 _ (by omega) (up _ 7 _ (by omega) fr)), ?_, rfl⟩)⟩⟩
        · rw [ke, zup_eq, upd_ne (by omega), zup_eq, upd_eq]
        · rw [kk, zup_eq, upd_ne (by omega), zup_eq, upd_ne (by omega), zup_eq, upd_eq]; rfl
        · rw [zup_eq, upd_ne (by omega), zup_eq, upd_ne (by omega), zup_eq, upd_ne (by omega)]; exact g8
        · rw [kv, zup_eq, upd_eq]
        · rw [zup_eq, upd_ne (by omega), zup_eq, upd_ne (by omega), zup_eq, upd_ne (by omega)]; exact g8
      · rw [if_neg hl]
        refine ⟨fun _ => ?_, fun w => absurd rfl w⟩
        rw [g6]
        refine e_isFigure (by omega) ?_
        rw [gT]
        by_cases hf : isF (M (k + 6) q) = true
        · rw [if_pos hf]
          refine ⟨fun w => absurd w (by decide), fun _ => xt_figs g5 hz g6 g8 hb.2 (fun e ee => ?_)⟩
          rw [gT] at ee
          have kk : tk_k (M (k + 6)) z q = 2 := by unfold tk_k; rw [if_pos hqz, if_neg d, if_neg hl, if_pos hf]
          have ke : tk_e (M (k + 6)) z q = e := by unfold tk_e; rw [if_neg (by rw [kk]; omega), if_pos kk]; exact ee.symm
          have kv : tk_v (M (k + 6)) z q = tk_pv (M (k + 6)) q e := by unfold tk_v; rw [if_neg (by rw [kk]; omega), ke]
          have ko : tk_o (M (k + 6)) z q ↔ e - q ≤ 2 := by unfold tk_o; rw [kk, ke]; omega
          rw [gT]
          refine ⟨fun h => ⟨zbo_1, ok _ (Or.inl ⟨rfl, ko.mpr h, up _ 6 _ (by omega) (up _ 9 _ (by omega) (up _ 7 _ (by omega) fr)), ?_, ?_, ?_, fun _ => ?_⟩)⟩, fun h => ⟨zbo_0, no _ (Or.inr ⟨rfl, fun w => h (ko.mp w), _, up _ 6 _ (by omega) (up _ 9 _ (by omega) (up _ 7 _ (by omega) fr)), ?_, rfl⟩)⟩⟩
          · rw [ke, zup_eq, upd_eq]
          · rw [kk, zup_eq, upd_ne (by omega), zup_eq, upd_ne (by omega), zup_eq, upd_eq]; rfl
          · rw [zup_eq, upd_ne (by omega), zup_eq, upd_ne (by omega), zup_eq, upd_ne (by omega)]; exact g8
          · rw [kv, zup_eq, upd_ne (by omega), zup_eq, upd_eq]
          · rw [zup_eq, upd_ne (by omega), zup_eq, upd_ne (by omega), zup_eq, upd_ne (by omega)]; exact g8
        · rw [if_neg hf]
          refine ⟨fun _ => e_refuse ⟨zbo_0, no _ (Or.inr ⟨rfl, ?_, _, fr, g8, rfl⟩)⟩, fun w => absurd rfl w⟩
          have kk : tk_k (M (k + 6)) z q = 4 := by unfold tk_k; rw [if_pos hqz, if_neg d, if_neg hl, if_neg hf]
          unfold tk_o
          rw [kk]; omega
    · have kk : tk_k (M (k + 6)) z q = 3 := by unfold tk_k; rw [if_pos hqz, if_pos d]
      have ke : tk_e (M (k + 6)) z q = q + 1 := by unfold tk_e; rw [if_neg (by rw [kk]; omega), if_neg (by rw [kk]; omega), if_pos kk]
      have f6 : M5 k 6 = nI q := by rw [e5, zup_eq, upd_ne (by omega)]; exact g6
      refine ok _ (Or.inl ⟨rfl, Or.inr (Or.inl kk), ?_, ?_, ?_, ?_, fun w => absurd w (by rw [kk]; omega)⟩)
      · rw [e6, e5]; exact up _ 6 _ (by omega) (up _ 7 _ (by omega) fr)
      · rw [ke, e6, zup_eq, upd_eq, f6, nI_1]
      · rw [kk, e6, zup_eq, upd_ne (by omega), e5, zup_eq, upd_eq]; rfl
      · rw [e6, zup_eq, upd_ne (by omega), e5, zup_eq, upd_ne (by omega)]; exact g8
  · have hqz : ¬ q < z := fun w => c ((nI_ltI (by omega) (by omega)).mpr w)
    have kk : tk_k (M (k + 6)) z q = 0 := by unfold tk_k; rw [if_neg hqz]
    have ke : tk_e (M (k + 6)) z q = q := by unfold tk_e; rw [if_neg (by rw [kk]; omega), if_neg (by rw [kk]; omega), if_neg (by rw [kk]; omega)]
    refine ok _ (Or.inl ⟨rfl, Or.inl kk, ?_, ?_, ?_, ?_, fun w => absurd w (by rw [kk]; omega)⟩)
    · rw [e6]; exact up _ 7 _ (by omega) fr
    · rw [ke, e6, zup_eq, upd_ne (by omega)]; exact g6
    · rw [kk, e6, zup_eq, upd_eq]; rfl
    · rw [e6, zup_eq, upd_ne (by omega)]; exact g8
