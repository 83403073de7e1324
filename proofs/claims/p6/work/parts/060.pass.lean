def sp_least (f : Nat → Int32) : Nat → Nat → Int32 → Int32
  | 0, _, c => c
  | m + 1, h, c => sp_least f m (h + 1) (if 0 < f h ∧ (c = 0 ∨ f h < c) then f h else c)
theorem sp_least_0 (f : Nat → Int32) : ∀ m h c, 0 ≤ c → 0 ≤ sp_least f m h c ∧ (0 < c → 0 < sp_least f m h c ∧ sp_least f m h c ≤ c) ∧ ∀ j, h ≤ j → j < h + m → 0 < f j → 0 < sp_least f m h c ∧ sp_least f m h c ≤ f j := by
  intro m
  induction m with
  | zero => intro h c hc; exact ⟨hc, fun q => ⟨q, Int32.le_refl c⟩, fun j h1 h2 => absurd h2 (by omega)⟩
  | succ m ih =>
    intro h c hc
    unfold sp_least
    by_cases c1 : 0 < f h ∧ (c = 0 ∨ f h < c)
    · rw [if_pos c1]
      obtain ⟨a1, a2, a3⟩ := ih (h + 1) (f h) (Int32.le_of_lt c1.1)
      have b1 := a2 c1.1
      refine ⟨a1, fun q => ⟨b1.1, ?_⟩, fun j h1 h2 h3 => ?_⟩
      · rcases c1.2 with e | e
        · rw [e] at q; exact absurd q (by decide)
        · exact Int32.le_trans b1.2 (Int32.le_of_lt e)
      · by_cases e : j = h
        · subst e; exact b1
        · exact a3 j (by omega) (by omega) h3
    · rw [if_neg c1]
      obtain ⟨a1, a2, a3⟩ := ih (h + 1) c hc
      refine ⟨a1, a2, fun j h1 h2 h3 => ?_⟩
      by_cases e : j = h
      · subst e
        have c2 : ¬ (c = 0 ∨ f j < c) := fun q => c1 ⟨h3, q⟩
        have c3 : ¬ c = 0 := fun q => c2 (Or.inl q)
        have c4 : c ≤ f j := Int32.not_lt.mp (fun q => c2 (Or.inr q))
        have c5 : 0 < c := Int32.lt_of_le_of_ne hc (fun q => c3 q.symm)
        exact ⟨(a2 c5).1, Int32.le_trans (a2 c5).2 c4⟩
      · exact a3 j (by omega) (by omega) h3
theorem xt_least {t b n H L : Nat} {M : zMem} {Q : Int32 → zMem → Prop} (ok : sp_ok M t b n H L) (hQ : Q (sp_least (M (b + 2)) H 0 0) M) : wp_Bench_leastLeft b M Q := by
  have H5 : H ≤ 5 := ok.2.2.2.1.1.2.2.2.1
  have eH : M (ztc (M b 0)) 1 = nI H := by rw [ok.1]; exact ok.2.2.2.1.2.2.1
  unfold wp_Bench_leastLeft
  refine zlp2_r (fun m c x M' => M' = M ∧ ∃ h, x = nI h ∧ h ≤ H ∧ m = H - h ∧ Q (sp_least (M (b + 2)) m h c) M) ?_ (n := H) ⟨rfl, 0, rfl, Nat.zero_le _, rfl, hQ⟩
  rintro m c x M' ⟨rfl, h, rfl, hh, rfl, hQ⟩ J hJ
  unfold wpB_Bench_leastLeft_4
  rw [eH]
  refine ⟨fun q => ?_, fun q => ?_⟩
  · have := (nI_leI (a := H) (b := h) (by omega) (by omega)).mp q
    rw [show H - h = 0 by omega] at hQ
    exact hQ
  · have q1 : h < H := Nat.lt_of_not_le (fun z => q (nI_le z (by omega)))
    have e1 : ix (nI h) = h := q_ix (by omega)
    have e2 : vp_in (nI h) 5 := vp_in_nI (by omega) (by omega)
    rw [e1]
    rw [show H - h = (H - (h + 1)) + 1 by omega] at hQ
    unfold sp_least at hQ
    have go : ∀ c' : Int32, Q (sp_least (M' (b + 2)) (H - (h + 1)) (h + 1) c') M' → ∀ x : Int32, x = nI h + 1 → J c' x M' := fun c' hc x hx => by
      rw [hx, nI_1]
      exact hJ (H - (h + 1)) _ _ _ (by omega) ⟨rfl, h + 1, rfl, by omega, rfl, hc⟩
    refine ⟨e2, fun c1 => ?_, fun c1 => ⟨fun c2 => ⟨e2, ?_⟩, fun c2 => ⟨e2, fun c3 => ?_, fun c3 => ⟨e2, ?_⟩⟩⟩⟩
    · rw [if_neg (fun z => absurd z.1 (Int32.not_lt.mpr c1))] at hQ
      exact go _ hQ
    · rw [if_pos ⟨Int32.not_le.mp c1, Or.inl c2⟩] at hQ
      intro y hy
      subst hy
      exact go _ hQ
    · rw [if_neg (fun z => z.2.elim c2 (fun w => absurd w (Int32.not_lt.mpr c3)))] at hQ
      exact go _ hQ
    · rw [if_pos ⟨Int32.not_le.mp c1, Or.inr (Int32.not_le.mp c3)⟩] at hQ
      intro y hy
      subst hy
      exact go _ hQ
theorem mt_least {t b pg n H L : Nat} {wh : Nat → Nat} {M W : zMem} {Q : Int32 → zMem → Prop} (ok : sp_ok M t b n H L) (r : mr W M pg t b n H L wh) (hQ : Q (sp_least (M (b + 2)) H 0 0) W) : wp_Model_least (nI pg) W Q := by
  have H5 : H ≤ 5 := ok.2.2.2.1.1.2.2.2.1
  have eH : W 0 18 = nI H := r.2.1.2.1
  obtain ⟨hpg, rt, rw1, hrh, hrs, hrg⟩ := id r
  have hhd := ok.2.2.2.2.2.1
  unfold wp_Model_least
  refine zlp2_r (fun m c x W' => W' = W ∧ 0 ≤ c ∧ ∃ h, x = nI h ∧ h ≤ H ∧ m = H - h ∧ Q (sp_least (M (b + 2)) m h c) W) ?_ (n := H) ⟨rfl, by decide, 0, rfl, Nat.zero_le _, rfl, hQ⟩
  rintro m c x W' ⟨rfl, hc0, h, rfl, hh, rfl, hQ⟩ J hJ
  unfold wpB_Model_least_4
  rw [eH]
  refine ⟨fun q => ?_, fun q => ?_⟩
  · have := (nI_leI (a := H) (b := h) (by omega) (by omega)).mp q
    rw [show H - h = 0 by omega] at hQ
    exact hQ
  · have q1 : h < H := Nat.lt_of_not_le (fun z => q (nI_le z (by omega)))
    obtain ⟨b1, b2, b3, b4⟩ := hrh h q1
    rw [show H - h = (H - (h + 1)) + 1 by omega] at hQ
    unfold sp_least at hQ
    have go : ∀ c' : Int32, 0 ≤ c' → Q (sp_least (M (b + 2)) (H - (h + 1)) (h + 1) c') W' → ∀ x : Int32, x = nI h + 1 → J c' x W' := fun c' h0 hc x hx => by
      rw [hx, nI_1]
      exact hJ (H - (h + 1)) _ _ _ (by omega) ⟨rfl, h0, h + 1, rfl, by omega, rfl, hc⟩
    have core : ∀ v : Int32, v = M (b + 2) h → wpJ_Model_least_45 (nI pg) J Q c (nI h) v W' := by
      intro v hv
      subst hv
      unfold wpJ_Model_least_45
      refine ⟨fun c1 => ?_, fun c1 => ⟨fun c2 => ?_, fun c2 => ⟨fun c3 => ?_, fun c3 => ?_⟩⟩⟩
      · rw [if_neg (fun z => absurd z.1 (Int32.not_lt.mpr c1))] at hQ
        exact go _ hc0 hQ
      · rw [if_pos ⟨Int32.not_le.mp c1, Or.inl c2⟩] at hQ
        exact go _ (Int32.le_of_lt (Int32.not_le.mp c1)) hQ
      · rw [if_neg (fun z => z.2.elim c2 (fun w => absurd w (Int32.not_lt.mpr c3)))] at hQ
        exact go _ hc0 hQ
      · rw [if_pos ⟨Int32.not_le.mp c1, Or.inr (Int32.not_le.mp c3)⟩] at hQ
        exact go _ (Int32.le_of_lt (Int32.not_le.mp c1)) hQ
    have at1 : wpJ_Model_least_34 (nI pg) J Q c (nI h) W' := by
      unfold wpJ_Model_least_34
      rw [show (1 : Int32) = nI 1 from rfl, e_at hpg (by omega) (by omega), if_neg (by omega), q_x0, b2]
      exact core _ rfl
    rw [show (0 : Int32) = nI 0 from rfl, e_at hpg (by omega) (by omega), if_neg (by omega), q_x0, Nat.add_zero, b1]
    refine ⟨fun _ => at1, fun c3 => ?_⟩
    rw [e_at hpg (by omega) (by omega), if_neg (by omega), q_x0, Nat.add_zero, b1]
    refine ⟨fun c1 => ?_, fun _ => at1⟩
    refine core _ ?_
    rcases hhd h q1 with ⟨a1, a2, a3⟩ | ⟨a1, a2, a3⟩ | ⟨p, u, s, U, a1, a2, a3, a4, a5, a6, a7, a8, a9, a10⟩
    · rw [a2]; rfl
    · exact absurd a1 c1
    · rcases a9 with ⟨a9, a11⟩ | ⟨a9, a11⟩
      · rw [a11]; rfl
      · exact absurd a9 c3
/-- a hand lets d ticks go by -/
def sp_pass1 (b h : Nat) (d : Int32) (M : zMem) : zMem :=
  if 0 < M (b + 2) h then
    if M (b + 2) h - d = 0 ∧ M (b + 1) h = 1 then zup (zup M (b + 2) h (M (b + 2) h - d)) (b + 1) h 0 else zup M (b + 2) h (M (b + 2) h - d)
  else if M (b + 1) h = 2 then zup (zup M (b + 6) h (M (b + 6) h + d)) (b + 8) (ix (M (b + 3) h)) (M (b + 8) (ix (M (b + 3) h)) + d) else zup M (b + 6) h (M (b + 6) h + d)
def sp_passes (b : Nat) (d : Int32) : Nat → Nat → zMem → zMem
  | 0, _, M => M
  | m + 1, h, M => sp_passes b d m (h + 1) (sp_pass1 b h d M)
def sp_pass (b H : Nat) (d : Int32) (M : zMem) : zMem := sp_passes b d H 0 (zup M b 2 (M b 2 + d))
theorem sp_pass1_fr {b h : Nat} {d : Int32} {M : zMem} : sp_fr b M (sp_pass1 b h d M) ∧ (∀ j, sp_pass1 b h d M b j = M b j) ∧ (∀ i j, 1 ≤ i → i ≤ 7 → (i ≠ 1 ∧ i ≠ 2 ∧ i ≠ 6 ∨ j ≠ h) → sp_pass1 b h d M (b + i) j = M (b + i) j) ∧ (∀ k, (k < b ∨ b + 9 ≤ k) → sp_pass1 b h d M k = M k) := by
  unfold sp_pass1
  have hi : ∀ i, 1 ≤ i → i ≤ 7 → i = 1 ∨ i = 2 ∨ i = 6 ∨ (i ≠ 1 ∧ i ≠ 2 ∧ i ≠ 6) := fun i _ _ => by omega
  split
  · split
    · refine ⟨(sp_fr.up (i := 2) (by omega) (by omega)).tr (sp_fr.up (i := 1) (by omega) (by omega)), fun j => by simp (disch := omega) only [zup_ne], fun i j i1 i7 hc => ?_, fun k hk => by simp (disch := omega) only [zup_ne]⟩
      rcases hi i i1 i7 with rfl | rfl | rfl | q <;> simp (disch := omega) only [zup_ne, zup_eq, upd_ne]
    · refine ⟨sp_fr.up (i := 2) (by omega) (by omega), fun j => by simp (disch := omega) only [zup_ne], fun i j i1 i7 hc => ?_, fun k hk => by simp (disch := omega) only [zup_ne]⟩
      rcases hi i i1 i7 with rfl | rfl | rfl | q <;> simp (disch := omega) only [zup_ne, zup_eq, upd_ne]
  · split
    · refine ⟨(sp_fr.up (i := 6) (by omega) (by omega)).tr (sp_fr.up (i := 8) (by omega) (by omega)), fun j => by simp (disch := omega) only [zup_ne], fun i j i1 i7 hc => ?_, fun k hk => by simp (disch := omega) only [zup_ne]⟩
      rcases hi i i1 i7 with rfl | rfl | rfl | q <;> simp (disch := omega) only [zup_ne, zup_eq, upd_ne]
    · refine ⟨sp_fr.up (i := 6) (by omega) (by omega), fun j => by simp (disch := omega) only [zup_ne], fun i j i1 i7 hc => ?_, fun k hk => by simp (disch := omega) only [zup_ne]⟩
      rcases hi i i1 i7 with rfl | rfl | rfl | q <;> simp (disch := omega) only [zup_ne, zup_eq, upd_ne]

/-- nobody has anything to do -/
def sp_st (M : zMem) (b H : Nat) : Prop := ∀ h, h < H → M (b + 1) h = 3 → 0 < M (b + 2) h
theorem sp_st_of {t b n H L : Nat} {M : zMem} (ok : sp_ok M t b n H L) (hs : ∀ j, j < H → sp_hand t b j M = none) : sp_st M b H := by
  intro h hh h3
  rcases ok.2.2.2.2.2.1 h hh with ⟨a1, a2, a3⟩ | ⟨a1, a2, a3⟩ | ⟨p, u, s, U, a1, a2, a3, a4, a5, a6, a7, a8, a9, a10⟩
  · rw [h3] at a1; exact absurd a1 (by decide)
  · rw [h3] at a1; exact absurd a1 (by decide)
  · rcases a9 with ⟨a9, -⟩ | ⟨-, a11⟩
    · rw [h3] at a9; exact absurd a9 (by decide)
    · refine Int32.lt_of_le_of_ne a11 (fun e => ?_)
      have := hs h hh
      unfold sp_hand at this
      rw [if_pos e.symm, if_pos h3] at this
      cases this
theorem i32_sub_nn {a d : Int32} (h0 : 0 < d) (h1 : d ≤ a) : 0 ≤ a - d ∧ a - d < a := by
  have e0 := Int32.lt_iff_toInt_lt.mp h0
  have e1 := Int32.le_iff_toInt_le.mp h1
  have z : (0 : Int32).toInt = 0 := by decide
  rw [z] at e0
  have hb : a.toInt < 2147483648 := Int32.toInt_lt a
  have es : (a - d).toInt = a.toInt - d.toInt := by
    rw [Int32.toInt_sub]
    apply Int.bmod_eq_of_le <;> omega
  constructor
  · rw [Int32.le_iff_toInt_le, es, z]; omega
  · rw [Int32.lt_iff_toInt_lt, es]; omega
theorem sp_hd_pass1 {t b n h : Nat} {d : Int32} {M : zMem} (hb : t + 4 < b) (hh : sp_hd M t b n h) (hst : M (b + 1) h = 3 → 0 < M (b + 2) h) (h0 : 0 < d) (hd : 0 < M (b + 2) h → d ≤ M (b + 2) h) : sp_hd (sp_pass1 b h d M) t b n h := by
  have ft : ∀ i, i ≤ 4 → sp_pass1 b h d M (t + i) = M (t + i) := fun i hi => sp_pass1_fr.2.2.2 _ (by omega)
  have ft0 : sp_pass1 b h d M t = M t := ft 0 (by omega)
  have f3 := (sp_pass1_fr (b := b) (h := h) (d := d) (M := M)).2.2.1 3 h (by omega) (by omega) (by omega)
  have f4 := (sp_pass1_fr (b := b) (h := h) (d := d) (M := M)).2.2.1 4 h (by omega) (by omega) (by omega)
  have f5 := (sp_pass1_fr (b := b) (h := h) (d := d) (M := M)).2.2.1 5 h (by omega) (by omega) (by omega)
  unfold sp_hd
  rw [ft0, ft 2 (by omega), ft 4 (by omega), f3, f4, f5]
  rcases hh with ⟨a1, a2, a3⟩ | ⟨a1, a2, a3⟩ | ⟨p, u, s, U, a1, a2, a3, a4, a5, a6, a7, a8, a9, a10⟩
  · left
    have e : sp_pass1 b h d M = zup M (b + 6) h (M (b + 6) h + d) := by
      unfold sp_pass1
      rw [a1, a2, if_neg (by decide), if_neg (by decide)]
    rw [e]
    simp (disch := omega) only [zup_ne]
    exact ⟨a1, a2, a3⟩
  · obtain ⟨z1, z2⟩ := i32_sub_nn h0 (hd a2)
    by_cases c : M (b + 2) h - d = 0
    · left
      have e : sp_pass1 b h d M = zup (zup M (b + 2) h (M (b + 2) h - d)) (b + 1) h 0 := by
        unfold sp_pass1
        rw [if_pos a2, if_pos ⟨c, a1⟩]
      rw [e]
      simp (disch := omega) only [zup_ne, zup_eq, upd_eq]
      exact ⟨trivial, c, a3⟩
    · right; left
      have e : sp_pass1 b h d M = zup M (b + 2) h (M (b + 2) h - d) := by
        unfold sp_pass1
        rw [if_pos a2, if_neg (fun q => c q.1)]
      rw [e]
      simp (disch := omega) only [zup_ne, zup_eq, upd_eq]
      exact ⟨a1, Int32.lt_of_le_of_ne z1 (fun q => c q.symm), a3⟩
  · right; right
    refine ⟨p, u, s, U, a1, a2, a3, a4, a5, a6, a7, a8, ?_, ?_⟩
    · rcases a9 with ⟨a9, a11⟩ | ⟨a9, a11⟩
      · left
        have e : sp_pass1 b h d M = zup (zup M (b + 6) h (M (b + 6) h + d)) (b + 8) (ix (M (b + 3) h)) (M (b + 8) (ix (M (b + 3) h)) + d) := by
          unfold sp_pass1
          rw [a11, if_neg (by decide), if_pos a9]
        rw [e]
        simp (disch := omega) only [zup_ne]
        exact ⟨a9, a11⟩
      · right
        obtain ⟨z1, z2⟩ := i32_sub_nn h0 (hd (hst a9))
        have e : sp_pass1 b h d M = zup M (b + 2) h (M (b + 2) h - d) := by
          unfold sp_pass1
          rw [if_pos (hst a9), if_neg (fun q => by rw [a9] at q; exact absurd q.2 (by decide))]
        rw [e]
        simp (disch := omega) only [zup_ne, zup_eq, upd_eq]
        exact ⟨a9, z1⟩
    · intro q
      refine a10 ?_
      rcases q with q | q
      · left
        by_cases c : M (b + 1) h = 3
        · exact c
        · rcases a9 with ⟨a9, a11⟩ | ⟨a9, a11⟩
          · have e : sp_pass1 b h d M (b + 1) h = M (b + 1) h := by
              unfold sp_pass1
              rw [a11, if_neg (by decide), if_pos a9]
              simp (disch := omega) only [zup_ne]
            rw [e] at q
            exact q
          · exact a9
      · exact Or.inr q
