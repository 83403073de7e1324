theorem mt_goesBack {t b pg h f k : Nat} {M W : zMem} {Q : zMem → Prop} (hp : pg < 4) (hh : h < 5) (hf : f ≤ 8) (hk : M t 2 = nI k) (hk5 : k ≤ 5) (hW : W 4 2 = M t 2)
    (hpc : 0 < h → (M (b + 3) (h - 1) = -1 ∧ W 6 (96 * pg + 8 + 8 * (h - 1) + 2) = nI 0) ∨ ∃ p, p < 8 ∧ M (b + 3) (h - 1) = nI p ∧ W 6 (96 * pg + 8 + 8 * (h - 1) + 2) = nI (p + 4))
    (hQ : Q (mp_goes pg h (sp_wl t b h (nI f) M) (if 0 < sp_wl t b h (nI f) M then 1 else 0) W)) : wp_Model_goesBack (nI pg) (nI h) (nI f) W Q := by
  have key : ∀ w : Nat, w ≤ 8 → k * w ≤ 40 := fun w hw => by
    have : k * w ≤ 5 * 8 := Nat.mul_le_mul hk5 hw
    omega
  have fin : ∀ (x : Int32) (z : Nat), z ≤ 40 → sp_wl t b h (nI f) M = nI z → (x = nI z ∨ (x < 0 ∧ z = 0)) → wpJ_Model_goesBack_25 (nI pg) (nI h) (nI f) Q x W := by
    intro x z hz ez hx
    rw [ez] at hQ
    unfold wpJ_Model_goesBack_25
    rcases hx with rfl | ⟨hx, rfl⟩
    · refine ⟨fun _ => mt_goes38 hp hh (by omega) hQ, fun c => absurd (nI_pos' (by omega)) c⟩
    · refine ⟨fun c => absurd hx (by rw [Int32.not_lt]; exact c), fun _ => mt_goes38 (z := 0) hp hh (by omega) hQ⟩
  unfold wp_Model_goesBack
  have e2 : ix 2 = 2 := rfl
  have e22 : vp_in 2 100 := vp_in_nI (n := 2) (by omega) (by omega)
  by_cases h0 : h = 0
  · subst h0
    refine ⟨fun c => absurd rfl c, fun _ => fin 0 0 (by omega) ?_ (Or.inl rfl)⟩
    unfold sp_wl sp_way
    rw [if_pos rfl, if_neg (by decide)]
    rfl
  · have c0 : ¬ nI h = 0 := nI_ne0 (by omega) (by omega)
    refine ⟨fun _ => ⟨e22, ?_⟩, fun c => absurd c c0⟩
    unfold wp_Model_pieceOr0
    rw [e2, q_pred (by omega), show (2 : Int32) = nI 2 from rfl, e_at hp (by omega) (by omega), hW, hk]
    rcases hpc (by omega) with ⟨e1, e3⟩ | ⟨p, hp8, e1, e3⟩
    · rw [e3, if_pos (by omega), q_04]
      refine ⟨fun c => absurd rfl c, fun _ => ?_⟩
      have e5 : nI f - 0 = nI f := Int32.sub_zero _
      dsimp only
      rw [e5, q_mul]
      refine fin _ (k * f) (key f hf) ?_ (Or.inl rfl)
      unfold sp_wl sp_way
      rw [if_neg h0, e1, if_pos (show (-1 : Int32) < 0 by decide), hk]
      by_cases c : 0 < f
      · rw [if_pos ((nI_0lt (by omega)).mpr c), q_mul]
      · have : f = 0 := by omega
        subst this
        rfl
    · rw [e3, if_pos (by omega), q_m4]
      have c4 : ¬ nI p = -4 := fun q => by
        have := q_neq (a := p) (c := 4) (by omega) (by omega) (by omega)
        rw [← this]; exact q
      refine ⟨fun _ => ?_, fun c => absurd c c4⟩
      have e9 : ¬ nI p < 0 := by rw [Int32.not_lt]; exact nI_pos' (by omega)
      dsimp only
      rcases Nat.le_total p f with c | c
      · rw [q_sub c, q_mul]
        refine fin _ (k * (f - p)) (key _ (by omega)) ?_ (Or.inl rfl)
        unfold sp_wl sp_way
        rw [if_neg h0, e1, if_neg e9, hk, q_sub c]
        by_cases c2 : 0 < f - p
        · rw [if_pos ((nI_0lt (by omega)).mpr c2), q_mul]
        · have : f - p = 0 := by omega
          rw [this]
          rfl
      · have ew : sp_wl t b h (nI f) M = nI 0 := by
          unfold sp_wl sp_way
          rw [if_neg h0, e1, if_neg e9, hk, if_neg ?_]
          · rfl
          · rw [Int32.not_lt, Int32.le_iff_toInt_le, pk_sub_toInt (by omega) (by omega)]
            have : (0 : Int32).toInt = 0 := by decide
            omega
        have ex : nI k * (nI f - nI p) = -nI (k * (p - f)) := by
          rw [show nI f - nI p = -(nI (p - f)) by rw [← q_sub c, Int32.neg_sub], Int32.mul_neg, q_mul]
        rw [ex]
        have kb := key (p - f) (by omega)
        by_cases c3 : k * (p - f) = 0
        · rw [c3]
          exact fin _ 0 (by omega) ew (Or.inl rfl)
        · refine fin _ 0 (by omega) ew (Or.inr ⟨?_, rfl⟩)
          rw [Int32.lt_iff_toInt_lt, q_negT (by omega)]
          have : (0 : Int32).toInt = 0 := by decide
          omega
theorem mr_goBack {t b pg h f : Nat} {M W : zMem} (h5 : W 6 (96 * pg + 8 + 8 * h + 5) = M (b + 6) h) : mr_h (mp_goes pg h (sp_wl t b h (nI f) M) (if 0 < sp_wl t b h (nI f) M then 1 else 0) W) (sp_goBack t b h (nI f) M) pg b h := by
  unfold mr_h mp_goes sp_goBack
  refine ⟨?_, ?_, ?_, Or.inl ⟨?_, ?_, ?_, ?_⟩⟩ <;> simp (disch := omega) only [zup_ne, zup_eq, upd_ne, upd_eq]
  exact h5
theorem mp_goes_at {pg h j : Nat} {z d : Int32} {W : zMem} (hj : ∀ i, i ≤ 4 → j ≠ 96 * pg + 8 + 8 * h + i) : mp_goes pg h z d W 6 j = W 6 j := by
  unfold mp_goes
  have h0 := hj 0 (by omega)
  have h1 := hj 1 (by omega)
  have h2 := hj 2 (by omega)
  have h3 := hj 3 (by omega)
  have h4 := hj 4 (by omega)
  simp (disch := omega) only [zup_eq, upd_ne]
theorem mp_goes_ne {pg h k : Nat} {z d : Int32} {W : zMem} (hk : k ≠ 6) : mp_goes pg h z d W k = W k := by
  unfold mp_goes
  simp (disch := omega) only [zup_ne]
theorem mfr_goes {pg h H : Nat} {z d : Int32} {W : zMem} (e : W 0 18 = nI H) (H5 : H ≤ 5) (hh : h < H) : mfr pg W (mp_goes pg h z d W) :=
  ⟨fun k a _ => mp_goes_ne a, fun j a => mp_goes_at (fun i hi => by omega), fun _ => mp_goes_ne (by omega), fun H' h' a b c => by
    have := (nI_eq (a := H') (b := H) (by omega) (by omega)).mp (a.symm.trans e)
    exact mp_goes_at (fun i hi => by omega)⟩
theorem mr_h.pc {W M : zMem} {pg b h : Nat} (hh : mr_h W M pg b h) : (M (b + 3) h = -1 ∧ W 6 (96 * pg + 8 + 8 * h + 2) = nI 0) ∨ ∃ p, p < 8 ∧ M (b + 3) h = nI p ∧ W 6 (96 * pg + 8 + 8 * h + 2) = nI (p + 4) := by
  rcases hh.2.2.2 with ⟨a, b, -⟩ | ⟨p, u, s, p8, -, -, a, -, -, b, -⟩
  · exact Or.inl ⟨a, b⟩
  · exact Or.inr ⟨p, p8, a, b⟩
theorem mt_ticks {t b pg h p w le : Nat} {M W : zMem} {Q : Int32 → zMem → Prop} (hp : pg < 4) (hw : w < 5) (hp8 : p < 8) (e3 : W 4 3 = M t 3) (hle : M t 3 = nI le) (hle9 : le ≤ 99) (e4 : W 4 (60 + 8 * w + p) = M (t + 3) (h * 8 + p)) (e6 : W 6 (96 * pg + 48 + 8 * w + p) = M (b + 7) (h * 8 + p)) (hQ : Q (sp_ticks t h p (M (b + 7) (h * 8 + p)) M) W) : wp_Model_ticksOf (nI pg) (nI w) (nI p) W Q := by
  unfold wp_Model_ticksOf
  unfold sp_ticks at hQ
  have i1 : ix (60 + 8 * nI w + nI p) = 60 + 8 * w + p := by simp (disch := omega) only [q_lit, q_add, q_mul, q_sub, q_ix, q_in, q_lt, q_le, q_eq, q_nlt, q_nle, q_ltn, q_len, q_neq, q_eqn, zup_ne, zup_eq, zset_ne, zset_eq, upd_eq, upd_ne, forall_eq, true_and, and_true, true_implies, false_implies, implies_true, not_true_eq_false, not_false_eq_true, and_self, ↓reduceIte, false_and, and_false]
  have i2 : vp_in (60 + 8 * nI w + nI p) 100 := by simp (disch := omega) only [q_lit, q_add, q_mul, q_sub, q_ix, q_in, q_lt, q_le, q_eq, q_nlt, q_nle, q_ltn, q_len, q_neq, q_eqn, zup_ne, zup_eq, zset_ne, zset_eq, upd_eq, upd_ne, forall_eq, true_and, and_true, true_implies, false_implies, implies_true, not_true_eq_false, not_false_eq_true, and_self, ↓reduceIte, false_and, and_false]
  have i3 : ix 3 = 3 := rfl
  have i4 : vp_in 3 100 := vp_in_nI (n := 3) (by omega) (by omega)
  have i5 : vp_in (nI (96 * pg + 48 + 8 * w + p)) 384 := vp_in_nI (by omega) (by omega)
  have i6 : ix (nI (96 * pg + 48 + 8 * w + p)) = 96 * pg + 48 + 8 * w + p := q_ix (by omega)
  rw [i1, i3, e3, e4]
  have fin : ∀ v : Int32, (Q (if v < 1 then 1 else v) W) → (1 ≤ v → Q v W) ∧ (¬ 1 ≤ v → Q 1 W) := fun v hv => by
    refine ⟨fun c => ?_, fun c => ?_⟩
    · rw [if_neg (by rw [Int32.not_lt]; exact c)] at hv; exact hv
    · rw [if_pos (by rw [Int32.not_le] at c; exact c)] at hv; exact hv
  refine ⟨i2, fun x hx => ⟨i4, fun c => ?_, fun c => ?_⟩⟩
  · rw [e_learntAt, i6, e3, e6]
    refine ⟨i5, i4, c, fun y hy => ?_⟩
    subst hy; subst hx
    have c2 : 0 < M t 3 := by
      rw [hle] at c ⊢
      exact (nI_0lt (by omega)).mpr (Nat.pos_of_ne_zero (fun q => c (by rw [q]; rfl)))
    rw [if_pos c2] at hQ
    exact fin _ hQ
  · intro y hy
    subst hy; subst hx
    have c2 : ¬ 0 < M t 3 := by rw [c]; decide
    rw [if_neg c2] at hQ
    have e9 : M (t + 3) (h * 8 + p) - 0 = M (t + 3) (h * 8 + p) := Int32.sub_zero _
    rw [e9]
    exact fin _ hQ
/-- whether a unit may be begun, the reference's side -/
theorem mt_mayBegin {t b pg h n H L p u : Nat} {wh : Nat → Nat} {M W : zMem} {Q : Int32 → zMem → Prop} (ok : sp_ok M t b n H L) (r : mr W M pg t b n H L wh) (hh : h < H) (hp : M (b + 3) h = nI p) (hpn : p < n) (hu : M (b + 4) h = nI u) (hu6 : u < 6) (hw2 : W 6 (96 * pg + 8 + 8 * h + 2) = nI (p + 4)) (hw3 : W 6 (96 * pg + 8 + 8 * h + 3) = nI (u + 4)) (h1 : sp_may t b h M → Q 1 W) (h0 : ¬ sp_may t b h M → Q 0 W) : wp_Model_mayBegin (nI pg) (nI h) W Q := by
  obtain ⟨ht, hd2, hb18, vt, hpl, hhd, hg⟩ := ok
  obtain ⟨⟨n1, n8, H1, H5, L1, L6⟩, hn, hH, hL, -, -, ⟨kd, hkd2, hkd⟩, -, -, -, -, -, hends, hlast, hback⟩ := vt
  obtain ⟨hpg, ⟨t0, t18, t2, t3, t19, t5, t6, trow, tun, tend⟩, hrw, hrh, hrs, hrg⟩ := r
  obtain ⟨en, hen, hen2⟩ := hends h hh
  unfold sp_may sp_held at h1 h0
  rw [hH, hp, hu, hen2] at h1 h0
  unfold wp_Model_mayBegin
  rw [show (2 : Int32) = nI 2 from rfl, e_at hpg (by omega) (by omega), if_pos (by omega), hw2, q_m4, t18, t19, q_pred (by omega)]
  have i1 : vp_in (nI h) 5 := vp_in_nI (by omega) (by omega)
  have i2 : ix (nI h) = h := q_ix (by omega)
  have core : h + 1 < H → ∀ s0 : Int32, (s0 = 1 ∧ p < en ∨ s0 = 0 ∧ ¬ p < en) → wpJ_Model_mayBegin_42 (nI pg) (nI h) Q (nI p) s0 W := by
    intro hlt s0 hs0
    unfold wpJ_Model_mayBegin_42
    rw [nI_1, show (2 : Int32) = nI 2 from rfl, show (3 : Int32) = nI 3 from rfl, e_at hpg (by omega) (by omega), if_pos (by omega)]
    have hnx := hrh (h + 1) hlt
    rcases hs0 with ⟨rfl, hpe⟩ | ⟨rfl, hpe⟩
    · refine ⟨fun c => absurd c (by decide), fun _ => ?_⟩
      have hpe' : nI p < nI en := nI_lt hpe (by omega)
      have hlt' : nI (h + 1) < nI H := nI_lt hlt (by omega)
      rcases hnx.2.2.2 with ⟨q1, q2, q3, q4⟩ | ⟨p2, u2, s2, l1, l2, l3, q1, q2, q3, q4, q5, q6⟩
      · rw [q2, q_04]
        refine ⟨fun _ => h1 ⟨hpe', fun q => ?_⟩, fun c => absurd rfl c⟩
        rw [q1] at q
        exact q.2.1 (by decide)
      · rw [q4, q_m4]
        have c4 : ¬ nI p2 = -4 := fun q => by
          have := q_neq (a := p2) (c := 4) (by omega) (by omega) (by omega)
          rw [← this]; exact q
        have c5 : ¬ nI p2 < 0 := nI_pos (by omega)
        rw [q1, q2] at h1 h0
        refine ⟨fun c => absurd c c4, fun _ => ⟨fun c => h1 ⟨hpe', fun q => ?_⟩, fun c => ⟨fun c2 => h0 (fun q => q.2 ⟨hlt', c5, ?_⟩), fun c2 => ?_⟩⟩⟩
        · rcases q.2.2 with q | q
          · exact absurd (Int32.lt_trans c q) Int32.lt_irrefl
          · rw [q.1] at c; exact absurd c Int32.lt_irrefl
        · left
          rw [Int32.not_lt] at c
          exact Int32.lt_of_le_of_ne c c2
        · rw [e_at hpg (by omega) (by omega), if_pos (by omega), q5, q_m4, e_at hpg (by omega) (by omega), if_pos (by omega), hw3, q_m4]
          refine ⟨fun c3 => h0 (fun q => q.2 ⟨hlt', c5, Or.inr ⟨c2, ?_⟩⟩), fun c3 => h1 ⟨hpe', fun q => ?_⟩⟩
          · rw [Int32.not_lt]; exact c3
          · rcases q.2.2 with q | q
            · rw [c2] at q; exact absurd q Int32.lt_irrefl
            · rw [Int32.not_le] at c3; exact q.2 c3
    · have hpe' : ¬ nI p < nI en := fun q => hpe ((nI_ltI (by omega) (by omega)).mp q)
      exact ⟨fun _ => h0 (fun q => hpe' q.1), fun c => absurd rfl c⟩
  refine ⟨fun c => ?_, fun c => ?_⟩
  · have hlt : h + 1 < H := by
      have : h ≠ H - 1 := fun q => c (by rw [← q])
      omega
    refine ⟨fun c2 => ?_, fun c2 => ⟨i1, ?_⟩⟩
    · have := hback c2 h hh
      rw [hen2] at this
      have : en = n := (nI_eq (by omega) (by omega)).mp this
      unfold wpJ_Model_mayBegin_37
      exact core hlt 1 (Or.inl ⟨rfl, by omega⟩)
    · rw [i2, tend h hh, hen2]
      refine ⟨fun c3 => core hlt 0 (Or.inr ⟨rfl, ?_⟩), fun c3 => ?_⟩
      · have := (nI_leI (a := en) (b := p) (by omega) (by omega)).mp c3
        omega
      · unfold wpJ_Model_mayBegin_37
        refine core hlt 1 (Or.inl ⟨rfl, ?_⟩)
        exact Nat.lt_of_not_le (fun q => c3 (nI_le q (by omega)))
  · have hhl : h = H - 1 := (nI_eq (by omega) (by omega)).mp c
    refine h1 ⟨?_, fun q => ?_⟩
    · rw [hhl, hlast] at hen2
      have : n = en := (nI_eq (by omega) (by omega)).mp hen2
      exact nI_lt (by omega) (by omega)
    · have := (nI_ltI (a := h + 1) (b := H) (by omega) (by omega)).mp q.1
      omega

theorem sp_start_at {t b h i j : Nat} {M : zMem} (h1 : i ≠ 1) (h2 : i ≠ 2) : sp_start t b h M (b + i) j = M (b + i) j := by
  unfold sp_start
  simp (disch := omega) only [zup_ne]
theorem sp_start_ne {t b h i j : Nat} {M : zMem} (e : j ≠ h) : sp_start t b h M (b + i) j = M (b + i) j := by
  by_cases c1 : i = 1
  · subst c1; unfold sp_start; simp (disch := omega) only [zup_ne, zup_eq, upd_ne]
  · by_cases c2 : i = 2
    · subst c2; unfold sp_start; simp (disch := omega) only [zup_ne, zup_eq, upd_ne]
    · exact sp_start_at c1 c2
theorem mr_g.keep {W W' M M' : zMem} {pg b : Nat} (h : mr_g W M pg b) (e4 : M' b 4 = M b 4) (e30 : b = 32 → M' 30 = M 30 ∧ M' 31 = M 31) (e10 : W' 10 = W 10) : mr_g W' M' pg b := fun hp hb => by
  obtain ⟨o, h0, h1, h2, h3⟩ := h hp hb
  exact ⟨o, h0, by rw [e4]; exact h1, by rw [(e30 hb).1]; exact h2, by rw [e10, (e30 hb).2]; exact h3⟩
/-- start: the reference's side -/
theorem mt_start {t b pg h n H L p : Nat} {wh : Nat → Nat} {M W : zMem} {Q : zMem → Prop} (ok : sp_ok M t b n H L) (r : mr W M pg t b n H L wh) (hh : h < H) (hp : M (b + 3) h = nI p) (hpn : p < n) (hw2 : W 6 (96 * pg + 8 + 8 * h + 2) = nI (p + 4))
    (hQ : ∀ W', mr W' (sp_start t b h M) pg t b n H L wh → mfr pg W W' → Q W') : wp_Model_put (nI pg) (nI h) 0 3 W (fun W1 => vp_in (nI h) 5 ∧ wp_Model_at (nI pg) (nI h) 2 W1 (fun r1 W2 => wp_Model_ticksOf (nI pg) (W1 8 (ix (nI h))) r1 W2 (fun r2 W3 => wp_Model_put (nI pg) (nI h) 1 r2 W3 (fun W4 => Q W4)))) := by
  obtain ⟨ht, hd2, hb18, vt, hpl, hhd, hg⟩ := ok
  obtain ⟨⟨n1, n8, H1, H5, L1, L6⟩, hn, hH, hL, -, ⟨le, hle9, hle⟩, -, -, -, -, -, -, -, -, -⟩ := vt
  obtain ⟨hpg, rt, rw1, hrh, hrs, hrg⟩ := id r
  obtain ⟨w1, w2, w3, w4, w5⟩ := id rw1
  have hb : t + 4 < b := by omega
  have i1 : vp_in (nI h) 5 := vp_in_nI (by omega) (by omega)
  have i2 : ix (nI h) = h := q_ix (by omega)
  rw [show (0 : Int32) = nI 0 from rfl, show (2 : Int32) = nI 2 from rfl, show (1 : Int32) = nI 1 from rfl, e_put hpg (by omega) (by omega), if_neg (by omega), Nat.add_zero, q_s0]
  refine ⟨i1, ?_⟩
  rw [e_at hpg (by omega) (by omega), if_pos (by omega), i2]
  have a1 : zup W 6 (96 * pg + 8 + 8 * h) 3 6 (96 * pg + 8 + 8 * h + 2) = nI (p + 4) := by simp (disch := omega) only [zup_eq, upd_ne]; exact hw2
  have a2 : zup W 6 (96 * pg + 8 + 8 * h) 3 8 h = nI (wh h) := by simp (disch := omega) only [zup_ne]; exact (w1 h hh).2
  rw [a1, a2, q_m4]
  refine mt_ticks (t := t) (b := b) (M := M) (h := h) hpg (w1 h hh).1 (by omega) ?_ hle hle9 ?_ ?_ ?_
  · simp (disch := omega) only [zup_ne]; exact rt.2.2.2.1
  · simp (disch := omega) only [zup_ne]; exact w3 h p hh hpn
  · simp (disch := omega) only [zup_eq, upd_ne]; exact w4 h p hh hpn
  rw [e_put hpg (by omega) (by omega), if_neg (by omega), q_s0]
  have ep : ix (M (b + 3) h) = p := by rw [hp]; exact q_ix (by omega)
  have es : sp_start t b h M (b + 2) h = sp_ticks t h p (M (b + 7) (h * 8 + p)) M := by
    unfold sp_start
    rw [ep]
    simp (disch := omega) only [zup_eq, upd_eq]
  have es1 : sp_start t b h M (b + 1) h = 3 := by
    unfold sp_start
    simp (disch := omega) only [zup_ne, zup_eq, upd_eq]
  have fr := sp_fr_start (t := t) (b := b) (h := h) (M := M)
  have mf : mfr pg W (zup (zup W 6 (96 * pg + 8 + 8 * h) 3) 6 (96 * pg + 8 + 8 * h + 1) (sp_ticks t h p (M (b + 7) (h * 8 + p)) M)) := by
    rw [show 96 * pg + 8 + 8 * h = 96 * pg + (8 + 8 * h + 0) by omega, show 96 * pg + (8 + 8 * h + 0) + 1 = 96 * pg + (8 + 8 * h + 1) by omega]
    exact (mfr.uph rt.2.1 H5 hh (by omega)).tr (mfr.uph (by rw [zup_ne (by omega)]; exact rt.2.1) H5 hh (by omega))
  refine hQ _ ⟨hpg, rt.moved (b := b) mf (fr.told hb18 hd2), rw1.moved mf (fr.told hb18 hd2 3 (by omega)) (fun h' p' q1 q2 => ?_) (fun h' p' q1 q2 q3 => by have := (w1 h' q1).1; simp (disch := omega) only [zup_eq, upd_ne]), fun j hj => ?_, ?_, hrg.keep ?_ ?_ ?_⟩ mf
  · rw [sp_start_at (by omega) (by omega), ← w4 h' p' q1 q2]
    simp (disch := omega) only [zup_eq, upd_ne]
  · by_cases e : j = h
    · subst e
      obtain ⟨b1, b2, b3, b4⟩ := hrh j hj
      refine ⟨?_, ?_, ?_, ?_⟩
      · rw [es1]; simp (disch := omega) only [zup_eq, upd_ne, upd_eq]
      · rw [es]; simp (disch := omega) only [zup_eq, upd_ne, upd_eq]
      · rw [sp_start_at (by omega) (by omega)]; simp (disch := omega) only [zup_eq, upd_ne, upd_eq]; exact b3
      · rw [sp_start_at (by omega) (by omega), sp_start_at (by omega) (by omega), sp_start_at (by omega) (by omega)]; simp (disch := omega) only [zup_eq, upd_ne, upd_eq]; exact b4
    · refine (hrh j hj).moved (fun i hi => ?_) (fun i i1 i6 => sp_start_ne e)
      simp (disch := omega) only [zup_eq, upd_ne]
  · obtain ⟨b1, b2, b3, b4⟩ := hrs
    have e0 := sp_start_at (t := t) (b := b) (h := h) (M := M) (i := 0) (j := 2) (by omega) (by omega)
    have e1 := sp_start_at (t := t) (b := b) (h := h) (M := M) (i := 0) (j := 3) (by omega) (by omega)
    have e2 := sp_start_at (t := t) (b := b) (h := h) (M := M) (i := 0) (j := 4) (by omega) (by omega)
    have e3 := sp_start_at (t := t) (b := b) (h := h) (M := M) (i := 0) (j := 5) (by omega) (by omega)
    rw [Nat.add_zero] at e0 e1 e2 e3
    unfold mr_s
    rw [e0, e1, e2, e3]
    simp (disch := omega) only [zup_eq, upd_ne]
    exact ⟨b1, b2, b3, b4⟩
  · have e2 := sp_start_at (t := t) (b := b) (h := h) (M := M) (i := 0) (j := 4) (by omega) (by omega)
    rw [Nat.add_zero] at e2
    exact e2
  · intro _
    unfold sp_start
    simp (disch := omega) only [zup_ne, and_self]
  · simp (disch := omega) only [zup_ne]
