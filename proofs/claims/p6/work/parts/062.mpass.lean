/-- what the reference may change as ticks go by -/
def mfp (pg : Nat) (W W' : zMem) : Prop := (∀ k, k ≠ 6 → k ≠ 11 → W' k = W k) ∧ (∀ j, (j < 96 * pg ∨ 96 * pg + 96 ≤ j) → W' 6 j = W 6 j) ∧ (pg ≠ 1 → W' 11 = W 11) ∧ (∀ h, h < 5 → W' 6 (96 * pg + 8 + 8 * h + 2) = W 6 (96 * pg + 8 + 8 * h + 2))
theorem mfp.rf {pg : Nat} {W : zMem} : mfp pg W W := ⟨fun _ _ _ => rfl, fun _ _ => rfl, fun _ => rfl, fun _ _ => rfl⟩
theorem mfp.tr {pg : Nat} {W W1 W2 : zMem} (h1 : mfp pg W W1) (h2 : mfp pg W1 W2) : mfp pg W W2 := ⟨fun k a b => (h2.1 k a b).trans (h1.1 k a b), fun j a => (h2.2.1 j a).trans (h1.2.1 j a), fun a => (h2.2.2.1 a).trans (h1.2.2.1 a), fun h a => (h2.2.2.2 h a).trans (h1.2.2.2 h a)⟩
theorem mfp.up {pg i : Nat} {x : Int32} {W : zMem} (hi : i < 96) (ho : ∀ h, h < 5 → i ≠ 8 + 8 * h + 2) : mfp pg W (zup W 6 (96 * pg + i) x) := ⟨fun k a _ => zup_ne a, fun j a => by rw [zup_eq, upd_ne (by omega)], fun _ => zup_ne (by omega), fun h hh => by have := ho h hh; rw [zup_eq, upd_ne (by omega)]⟩
/-- where hands stood, in a run -/
def ms (W M : zMem) (pg b n : Nat) : Prop := pg = 1 → ∀ p, p < n → W 11 p = M (b + 8) p
/-- the reference's hand lets ticks go by -/
theorem mt_pass1 {t b pg h n : Nat} {d : Int32} {M W : zMem} {K : zMem → Prop} {J : Int32 → zMem → Prop} {Q : zMem → Prop} (hpg : pg < 4) (h5 : h < 5) (hb : t + 4 < b) (n8 : n ≤ 8) (hh : sp_hd M t b n h) (rh : mr_h W M pg b h) (rs : ms W M pg b n) (hst : M (b + 1) h = 3 → 0 < M (b + 2) h)
    (hJ : ∀ W', mr_h W' (sp_pass1 b h d M) pg b h → ms W' (sp_pass1 b h d M) pg b n → mfp pg W W' → (∀ j, (∀ i, i ≤ 5 → j ≠ 96 * pg + 8 + 8 * h + i) → W' 6 j = W 6 j) → J (nI (h + 1)) W') :
    wp_Model_at (nI pg) (nI h) 0 W (fun zr4 zm3 => (zr4 = 2 → wpJ_Model_pass_30 (nI pg) d J Q (nI h) zr4 zm3) ∧ (¬ zr4 = 2 → (¬ zr4 = 0 → wp_Model_at (nI pg) (nI h) 1 zm3 (fun zr16 zm15 => wp_Model_put (nI pg) (nI h) 1 (zr16 - d) zm15 (fun zm17 => (¬ zr4 = 1 → ∀ zx19 : Int32, zx19 = (nI h) + 1 → J zx19 zm17) ∧ (zr4 = 1 → wp_Model_at (nI pg) (nI h) 1 zm17 (fun zr21 zm20 => (¬ zr21 = 0 → ∀ zx22 : Int32, zx22 = (nI h) + 1 → J zx22 zm20) ∧ (zr21 = 0 → wp_Model_put (nI pg) (nI h) 0 0 zm20 (fun zm23 => ∀ zx25 : Int32, zx25 = (nI h) + 1 → J zx25 zm23))))))) ∧ (zr4 = 0 → wpJ_Model_pass_30 (nI pg) d J Q (nI h) zr4 zm3))) := by
  obtain ⟨b1, b2, b3, b4⟩ := id rh
  have go : ∀ W', (∀ x : Int32, x = nI h + 1 → J x W') ↔ J (nI (h + 1)) W' := fun W' => ⟨fun q => q _ (nI_1 h).symm, fun q x hx => by rw [hx, nI_1]; exact q⟩
  rw [show (0 : Int32) = nI 0 from rfl, show (1 : Int32) = nI 1 from rfl, e_at hpg h5 (by omega), if_neg (by omega), q_x0, Nat.add_zero, b1]
  -- waiting
  have wait : ∀ x4 : Int32, x4 = M (b + 1) h → ¬ 0 < M (b + 2) h → (x4 = 2 ∨ x4 = 0) → wpJ_Model_pass_30 (nI pg) d J Q (nI h) x4 W := by
    intro x4 hx hnl hx2
    unfold wpJ_Model_pass_30
    rw [show (5 : Int32) = nI 5 from rfl, show (2 : Int32) = nI 2 from rfl, e_at hpg h5 (by omega), if_neg (by omega), q_x0, b3, e_put hpg h5 (by omega), if_neg (by omega), q_s0]
    have mf1 : mfp pg W (zup W 6 (96 * pg + 8 + 8 * h + 5) (M (b + 6) h + d)) := by
      rw [show 96 * pg + 8 + 8 * h + 5 = 96 * pg + (8 + 8 * h + 5) by omega]
      exact mfp.up (by omega) (fun h' _ => by omega)
    have rd1 : ∀ j, (∀ i, i ≤ 5 → j ≠ 96 * pg + 8 + 8 * h + i) → zup W 6 (96 * pg + 8 + 8 * h + 5) (M (b + 6) h + d) 6 j = W 6 j := fun j hj => by
      have := hj 5 (by omega)
      simp (disch := omega) only [zup_eq, upd_ne]
    by_cases c2 : M (b + 1) h = 2
    · have e : sp_pass1 b h d M = zup (zup M (b + 6) h (M (b + 6) h + d)) (b + 8) (ix (M (b + 3) h)) (M (b + 8) (ix (M (b + 3) h)) + d) := by
        unfold sp_pass1
        rw [if_neg hnl, if_pos c2]
      rcases hh with ⟨a1, -⟩ | ⟨a1, -⟩ | ⟨p, u, s, U, a1, a2, a3, a4, a5, a6, a7, a8, a9, a10⟩
      · rw [c2] at a1; exact absurd a1 (by decide)
      · rw [c2] at a1; exact absurd a1 (by decide)
      have ep : ix (M (b + 3) h) = p := by rw [a5]; exact q_ix (by omega)
      rw [ep] at e
      rw [e] at hJ
      have rh1 : ∀ W', W' 6 = zup W 6 (96 * pg + 8 + 8 * h + 5) (M (b + 6) h + d) 6 → mr_h W' (zup (zup M (b + 6) h (M (b + 6) h + d)) (b + 8) p (M (b + 8) p + d)) pg b h := by
        intro W' e6
        unfold mr_h
        rw [e6]
        simp (disch := omega) only [zup_eq, zup_ne, upd_ne, upd_eq]
        exact ⟨b1, b2, trivial, b4⟩
      have bp : W 6 (96 * pg + 8 + 8 * h + 2) = nI (p + 4) := by
        rcases rh.pc with ⟨q1, -⟩ | ⟨p', l1, q1, q4⟩
        · rw [a5] at q1
          have := q_neq (a := p) (c := 1) (by omega) (by omega) (by omega)
          exact absurd q1 (by rw [show (-1 : Int32) = -nI 1 from rfl, this]; exact fun h => h)
        · rw [a5] at q1
          have z1 : p = p' := (nI_eq (by omega) (by omega)).mp q1
          subst z1
          exact q4
      refine ⟨fun cp => ?_, fun cp => ⟨fun c => absurd (hx.trans c2) c, fun _ => ?_⟩⟩
      · have cp1 : pg ≠ 1 := fun q => cp (by rw [q]; rfl)
        rw [go]
        exact hJ _ (rh1 _ rfl) (fun q => absurd q cp1) mf1 rd1
      · have cp1 : pg = 1 := (nI_eq (a := pg) (b := 1) (by omega) (by omega)).mp cp
        have i1 : vp_in (nI p) 8 := vp_in_nI (by omega) (by omega)
        have i2 : ix (nI p) = p := q_ix (by omega)
        rw [e_at hpg h5 (by omega), if_pos (by omega)]
        have bp' : zup W 6 (96 * pg + 8 + 8 * h + 5) (M (b + 6) h + d) 6 (96 * pg + 8 + 8 * h + 2) = nI (p + 4) := by simp (disch := omega) only [zup_eq, upd_ne]; exact bp
        rw [bp', q_m4, i2]
        refine ⟨i1, i1, fun W2 hW2 => ?_⟩
        rw [go]
        have e6 : W2 6 = zup W 6 (96 * pg + 8 + 8 * h + 5) (M (b + 6) h + d) 6 := by rw [hW2]; simp (disch := omega) only [zup_ne]
        refine hJ W2 (rh1 _ e6) (fun _ q hq => ?_) ?_ (fun j hj => by rw [e6]; exact rd1 j hj)
        · rw [hW2]
          by_cases c : q = p
          · subst c
            simp (disch := omega) only [zup_eq, zup_ne, upd_eq]
            rw [rs cp1 q hq]
          · simp (disch := omega) only [zup_eq, zup_ne, upd_ne]
            exact rs cp1 q hq
        · refine ⟨fun k k1 k2 => ?_, fun j hj => ?_, fun q => absurd cp1 q, fun h' hh' => ?_⟩
          · rw [hW2, zup_ne k2, zup_ne k1]
          · rw [e6]; exact mf1.2.1 j hj
          · rw [e6]; exact mf1.2.2.2 h' hh'
    · have e : sp_pass1 b h d M = zup M (b + 6) h (M (b + 6) h + d) := by
        unfold sp_pass1
        rw [if_neg hnl, if_neg c2]
      rw [e] at hJ
      have fin : J (nI (h + 1)) (zup W 6 (96 * pg + 8 + 8 * h + 5) (M (b + 6) h + d)) := by
        refine hJ _ ?_ (fun q p hp => ?_) mf1 rd1
        · unfold mr_h
          simp (disch := omega) only [zup_eq, zup_ne, upd_ne, upd_eq]
          exact ⟨b1, b2, trivial, b4⟩
        · simp (disch := omega) only [zup_ne]
          exact rs q p hp
      refine ⟨fun _ => (go _).mpr fin, fun _ => ⟨fun _ => (go _).mpr fin, fun c => absurd (hx.symm.trans c) c2⟩⟩
  -- working or walking
  have work : 0 < M (b + 2) h → (M (b + 1) h = 1 ∨ M (b + 1) h = 3) → wp_Model_at (nI pg) (nI h) (nI 1) W (fun zr16 zm15 => wp_Model_put (nI pg) (nI h) (nI 1) (zr16 - d) zm15 (fun zm17 => (¬ M (b + 1) h = nI 1 → ∀ zx19 : Int32, zx19 = (nI h) + nI 1 → J zx19 zm17) ∧ (M (b + 1) h = nI 1 → wp_Model_at (nI pg) (nI h) (nI 1) zm17 (fun zr21 zm20 => (¬ zr21 = nI 0 → ∀ zx22 : Int32, zx22 = (nI h) + nI 1 → J zx22 zm20) ∧ (zr21 = nI 0 → wp_Model_put (nI pg) (nI h) (nI 0) (nI 0) zm20 (fun zm23 => ∀ zx25 : Int32, zx25 = (nI h) + nI 1 → J zx25 zm23)))))) := by
    intro hl hd
    rw [e_at hpg h5 (by omega), if_neg (by omega), q_x0, b2, e_put hpg h5 (by omega), if_neg (by omega), q_s0]
    have mf1 : ∀ x, mfp pg W (zup W 6 (96 * pg + 8 + 8 * h + 1) x) := fun x => by
      rw [show 96 * pg + 8 + 8 * h + 1 = 96 * pg + (8 + 8 * h + 1) by omega]
      exact mfp.up (by omega) (fun h' _ => by omega)
    have fin1 : ¬ (M (b + 2) h - d = 0 ∧ M (b + 1) h = 1) → J (nI (h + 1)) (zup W 6 (96 * pg + 8 + 8 * h + 1) (M (b + 2) h - d)) := fun hc => by
      have e : sp_pass1 b h d M = zup M (b + 2) h (M (b + 2) h - d) := by
        unfold sp_pass1
        rw [if_pos hl, if_neg hc]
      rw [e] at hJ
      refine hJ _ ?_ (fun q p hp => ?_) (mf1 _) (fun j hj => ?_)
      · unfold mr_h
        simp (disch := omega) only [zup_eq, zup_ne, upd_ne, upd_eq]
        exact ⟨b1, trivial, b3, b4⟩
      · simp (disch := omega) only [zup_ne]
        exact rs q p hp
      · have := hj 1 (by omega)
        simp (disch := omega) only [zup_eq, upd_ne]
    refine ⟨fun c => (go _).mpr (fin1 (fun q => c q.2)), fun c => ?_⟩
    rw [e_at hpg h5 (by omega), if_neg (by omega), q_x0]
    have x1 : zup W 6 (96 * pg + 8 + 8 * h + 1) (M (b + 2) h - d) 6 (96 * pg + 8 + 8 * h + 1) = M (b + 2) h - d := by simp (disch := omega) only [zup_eq, upd_eq]
    rw [x1]
    refine ⟨fun c2 => (go _).mpr (fin1 (fun q => c2 q.1)), fun c2 => ?_⟩
    rw [e_put hpg h5 (by omega), if_neg (by omega), q_s0, Nat.add_zero]
    refine (go _).mpr ?_
    have e : sp_pass1 b h d M = zup (zup M (b + 2) h (M (b + 2) h - d)) (b + 1) h 0 := by
      unfold sp_pass1
      rw [if_pos hl, if_pos ⟨c2, c⟩]
    rw [e] at hJ
    refine hJ _ ?_ (fun q p hp => ?_) ?_ (fun j hj => ?_)
    · unfold mr_h
      simp (disch := omega) only [zup_eq, zup_ne, upd_ne, upd_eq, Nat.add_zero]
      exact ⟨rfl, trivial, b3, b4⟩
    · simp (disch := omega) only [zup_ne]
      exact rs q p hp
    · refine (mf1 (M (b + 2) h - d)).tr ?_
      rw [show 96 * pg + 8 + 8 * h + 0 = 96 * pg + (8 + 8 * h) by omega]
      exact mfp.up (by omega) (fun h' _ => by omega)
    · have := hj 1 (by omega)
      have := hj 0 (by omega)
      simp (disch := omega) only [zup_eq, upd_ne]
  refine ⟨fun c => ?_, fun c => ⟨fun c0 => ?_, fun c0 => ?_⟩⟩
  · refine wait _ rfl ?_ (Or.inl c)
    rcases hh with ⟨a1, a2, a3⟩ | ⟨a1, a2, a3⟩ | ⟨p, u, s, U, a1, a2, a3, a4, a5, a6, a7, a8, a9, a10⟩
    · rw [a2]; decide
    · rw [c] at a1; exact absurd a1 (by decide)
    · rcases a9 with ⟨a9, a11⟩ | ⟨a9, a11⟩
      · rw [a11]; decide
      · rw [c] at a9; exact absurd a9 (by decide)
  · rcases hh with ⟨a1, a2, a3⟩ | ⟨a1, a2, a3⟩ | ⟨p, u, s, U, a1, a2, a3, a4, a5, a6, a7, a8, a9, a10⟩
    · exact absurd a1 c0
    · exact work a2 (Or.inl a1)
    · rcases a9 with ⟨a9, a11⟩ | ⟨a9, a11⟩
      · exact absurd a9 c
      · exact work (hst a9) (Or.inr a9)
  · refine wait _ rfl ?_ (Or.inr c0)
    rcases hh with ⟨a1, a2, a3⟩ | ⟨a1, a2, a3⟩ | ⟨p, u, s, U, a1, a2, a3, a4, a5, a6, a7, a8, a9, a10⟩
    · rw [a2]; decide
    · rw [a1] at c0; exact absurd c0 (by decide)
    · rcases a9 with ⟨a9, a11⟩ | ⟨a9, a11⟩
      · rw [a11]; decide
      · rw [a9] at c0; exact absurd c0 (by decide)

theorem mt_pass {t b pg n H L : Nat} {wh : Nat → Nat} {d : Int32} {M W : zMem} {Q : zMem → Prop} (ok : sp_ok M t b n H L) (r : mr W M pg t b n H L wh) (rs : ms W M pg b n) (hc : sp_can_pass M b H d)
    (hQ : ∀ W', mr W' (sp_pass b H d M) pg t b n H L wh → ms W' (sp_pass b H d M) pg b n → mfp pg W W' → Q W') : wp_Model_pass (nI pg) d W Q := by
  obtain ⟨ht, hd2, hb18, vt, hpl, hhd, hg⟩ := id ok
  have H5 : H ≤ 5 := vt.1.2.2.2.1
  have n8 : n ≤ 8 := vt.1.2.1
  have hb : t + 4 < b := by omega
  obtain ⟨hpg, rt, rw1, hrh, hrs, hrg⟩ := id r
  have eH : W 0 18 = nI H := rt.2.1
  obtain ⟨w1, w2, w3, w4, w5⟩ := id rw1
  unfold wp_Model_pass
  have z1 : ∀ i, 1 ≤ i → zup M b 2 (M b 2 + d) (b + i) = M (b + i) := fun i hi => by simp (disch := omega) only [zup_ne]
  have zt : ∀ i, i ≤ 4 → zup M b 2 (M b 2 + d) (t + i) = M (t + i) := fun i hi => by simp (disch := omega) only [zup_ne]
  refine zlp1_r (fun m x W' => ∃ h M', x = nI h ∧ h ≤ H ∧ m = H - h ∧ sp_passes b d m h M' = sp_pass b H d M ∧ mfp pg W W' ∧ (∀ j, (j < 96 * pg + 8 ∨ 96 * pg + 48 ≤ j) → W' 6 j = W 6 j) ∧ (∀ j, j < H → mr_h W' M' pg b j) ∧ ms W' M' pg b n ∧ (∀ j, h ≤ j → j < H → sp_hd M' t b n j ∧ (M' (b + 1) j = 3 → 0 < M' (b + 2) j))) ?_ (n := H) ⟨0, zup M b 2 (M b 2 + d), rfl, Nat.zero_le _, rfl, rfl, mfp.rf, fun _ _ => rfl, fun j hj => ?_, fun q p hp => ?_, fun j _ hj => ⟨?_, ?_⟩⟩
  · rintro m x W' ⟨h, M', rfl, hh, rfl, hp, mf, rdx, rh, rsm, hd⟩ J hJ
    unfold wpB_Model_pass_2
    rw [mf.1 0 (by omega) (by omega), eH]
    refine ⟨fun q => ?_, fun q => ?_⟩
    · have := (nI_leI (a := H) (b := h) (by omega) (by omega)).mp q
      rw [show H - h = 0 by omega] at hp
      have hp : M' = sp_pass b H d M := hp
      subst hp
      rw [show (0 : Int32) = nI 0 from rfl, e_more hpg (by omega), Nat.add_zero, rdx _ (by omega), hrs.1]
      obtain ⟨f1, f2, f3, f4, f5⟩ := sp_pass_fr (b := b) (H := H) (d := d) (M := M)
      have mf2 : mfp pg W (zup W' 6 (96 * pg) (M b 2 + d)) := mf.tr (mfp.up (i := 0) (by omega) (fun h _ => by omega))
      have rd2 : ∀ j, j ≠ 96 * pg → zup W' 6 (96 * pg) (M b 2 + d) 6 j = W' 6 j := fun j hj => by simp (disch := omega) only [zup_eq, upd_ne]
      refine hQ _ ⟨hpg, ?_, ⟨?_, w2, ?_, fun h' p' q1 q2 => ?_, fun h' p' q1 q2 q3 => ?_⟩, fun j hj => ?_, ?_, fun hp1 hb32 => ?_⟩ (fun hp1 p hp => ?_) mf2
      · have ft0 : sp_pass b H d M t = M t := f5 _ (by omega)
        unfold mr_t
        rw [mf2.1 4 (by omega) (by omega), mf2.1 0 (by omega) (by omega), mf2.1 9 (by omega) (by omega), ft0, f5 (t + 1) (by omega), f5 (t + 2) (by omega), f5 (t + 4) (by omega)]
        exact rt
      · rw [mf2.1 8 (by omega) (by omega)]; exact w1
      · rw [mf2.1 4 (by omega) (by omega), f5 (t + 3) (by omega)]; exact w3
      · have := (w1 h' q1).1
        rw [rd2 _ (by omega), rdx _ (by omega), f4 7 _ (by omega)]
        exact w4 h' p' q1 q2
      · have := (w1 h' q1).1
        rw [rd2 _ (by omega), rdx _ (by omega)]
        exact w5 h' p' q1 q2 q3
      · exact (rh j hj).moved (fun i hi => rd2 _ (by omega)) (fun i _ _ => rfl)
      · unfold mr_s
        rw [rd2 (96 * pg + 1) (by omega), rd2 (96 * pg + 2) (by omega), rd2 (96 * pg + 4) (by omega), rdx _ (by omega), rdx _ (by omega), rdx _ (by omega), f2, f3 3 (by omega), f3 4 (by omega), f3 5 (by omega)]
        refine ⟨?_, hrs.2.1, hrs.2.2.1, hrs.2.2.2⟩
        simp (disch := omega) only [zup_eq, upd_eq]
      · obtain ⟨o, o0, o1, o2, o3⟩ := hrg hp1 hb32
        refine ⟨o, o0, by rw [f3 4 (by omega)]; exact o1, by rw [f5 30 (by omega)]; exact o2, fun j j1 j2 => ?_⟩
        rw [mf2.1 10 (by omega) (by omega), f5 31 (by omega)]
        exact o3 j j1 j2
      · simp (disch := omega) only [zup_ne]
        exact rsm hp1 p hp
    · have q1 : h < H := Nat.lt_of_not_le (fun z => q (nI_le z (by omega)))
      rw [show H - h = (H - (h + 1)) + 1 by omega] at hp
      obtain ⟨hd1, hd2'⟩ := hd h (Nat.le_refl _) q1
      refine mt_pass1 (t := t) (b := b) (n := n) (K := Q) hpg (by omega) hb n8 hd1 (rh h q1) rsm hd2' (fun W2 r2 s2 m2 x2 => ?_)
      refine hJ (H - (h + 1)) _ _ (by omega) ⟨h + 1, sp_pass1 b h d M', rfl, by omega, rfl, hp, mf.tr m2, fun j hj => ?_, fun j hj => ?_, s2, fun j j1 j2 => ⟨?_, ?_⟩⟩
      · rw [x2 j (fun i hi => by omega)]; exact rdx j hj
      · by_cases e : j = h
        · subst e; exact r2
        · exact (rh j hj).moved (fun i hi => x2 _ (fun i' hi' => by omega)) (fun i i1 i6 => sp_pass1_fr.2.2.1 i j i1 (by omega) (Or.inr e))
      · exact sp_hd_pass1_ne hb (by omega) (hd j (by omega) j2).1
      · have e1 := (sp_pass1_fr (b := b) (h := h) (d := d) (M := M')).2.2.1 1 j (by omega) (by omega) (Or.inr (by omega))
        have e2 := (sp_pass1_fr (b := b) (h := h) (d := d) (M := M')).2.2.1 2 j (by omega) (by omega) (Or.inr (by omega))
        rw [e1, e2]
        exact (hd j (by omega) j2).2
  · exact (hrh j hj).moved (fun i hi => rfl) (fun i i1 i6 => by rw [z1 i i1])
  · rw [z1 8 (by omega)]; exact rs q p hp
  · exact (hhd j hj).moved zt (fun i i1 i5 => by rw [z1 i i1])
  · rw [z1 1 (by omega), z1 2 (by omega)]
    exact hc.2.1 j hj
