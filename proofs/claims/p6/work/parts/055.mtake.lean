theorem mt_canBeLeft {t b pg h n H L p u : Nat} {wh : Nat → Nat} {M W : zMem} {Q : Int32 → zMem → Prop} (r : mr W M pg t b n H L wh) (H5 : H ≤ 5) (hh : h < H) (hp : M (b + 3) h = nI p) (hu : M (b + 4) h = nI u) (hu6 : u < 7) (hw2 : W 6 (96 * pg + 8 + 8 * h + 2) = nI (p + 4)) (hw3 : W 6 (96 * pg + 8 + 8 * h + 3) = nI (u + 4)) (h1 : sp_can t b h M → Q 1 W) (h0 : ¬ sp_can t b h M → Q 0 W) : wp_Model_canBeLeft (nI pg) (nI h) W Q := by
  obtain ⟨hpg, ⟨t0, t18, t2, t3, t19, t5, t6, trow, tun, tend⟩, hrw, hrh, hrs, hrg⟩ := r
  unfold sp_can at h1 h0
  rw [hp, hu] at h1 h0
  unfold wp_Model_canBeLeft
  have i1 : vp_in (nI h) 5 := vp_in_nI (by omega) (by omega)
  have i2 : ix (nI h) = h := q_ix (by omega)
  have i3 : vp_in 5 100 := vp_in_nI (n := 5) (by omega) (by omega)
  have i4 : ix 5 = 5 := rfl
  rw [show (2 : Int32) = nI 2 from rfl, show (3 : Int32) = nI 3 from rfl, e_at hpg (by omega) (by omega), if_pos (by omega), hw2, q_m4, i4, t5]
  have core : ∀ s0 : Int32, (s0 = 0 ∧ ¬ (0 < nI u ∧ ((M t 5 >>> (nI p &&& 31)) &&& 1) = 1) ∨ s0 = 1 ∧ (0 < nI u ∧ ((M t 5 >>> (nI p &&& 31)) &&& 1) = 1)) → wpJ_Model_canBeLeft_37 (nI pg) (nI h) Q (nI p) s0 W := by
    intro s0 hs0
    unfold wpJ_Model_canBeLeft_37
    rw [t19, i2, tend h hh]
    rcases hs0 with ⟨rfl, c⟩ | ⟨rfl, c⟩
    · refine ⟨fun q => absurd rfl q, fun _ => ⟨fun c2 => h1 ⟨c, fun q => c2 q.1⟩, fun c2 => ⟨i1, fun c3 => h0 (fun q => q.2 ⟨c2, c3⟩), fun c3 => h1 ⟨c, fun q => c3 q.2⟩⟩⟩⟩
    · exact ⟨fun _ => h0 (fun q => q.1 c), fun q => absurd q (by decide)⟩
  refine ⟨i3, fun c => ?_, fun c => ?_⟩
  · unfold wpJ_Model_canBeLeft_36
    exact core 0 (Or.inl ⟨rfl, fun q => c q.2⟩)
  · rw [e_at hpg (by omega) (by omega), if_pos (by omega), hw3, q_m4]
    refine ⟨fun c2 => ?_, fun c2 => ?_⟩
    · unfold wpJ_Model_canBeLeft_36
      exact core 0 (Or.inl ⟨rfl, fun q => absurd q.1 (by rw [Int32.not_lt]; exact c2)⟩)
    · exact core 1 (Or.inr ⟨rfl, by rw [← Int32.not_le]; exact c2, c⟩)
set_option maxHeartbeats 1000000 in
theorem mt_take {t b pg h n H L : Nat} {wh : Nat → Nat} {M W : zMem} {Q : Int32 → zMem → Prop} (ok : sp_ok M t b n H L) (r : mr W M pg t b n H L wh) (ho : pg = 1 → ∃ o, M b 4 = nI o ∧ o < 2147483000) (h0 : 0 < h) (hh : h < H) (hl : M (b + 2) h = 0)
    (hQ : M (b + 1) (h - 1) = 2 → sp_can t b (h - 1) M → ∀ W', mr W' (sp_take t b h M) pg t b n H L wh → mfr pg W W' → Q 1 W') (hQ0 : ¬ (M (b + 1) (h - 1) = 2 ∧ sp_can t b (h - 1) M) → Q 0 W) : wp_Model_takesOver (nI pg) (nI h) W Q := by
  have fr := sp_fr_take (t := t) (b := b) (h := h) (M := M)
  obtain ⟨ht, hd2, hb18, vt, hpl, hhd, hg⟩ := id ok
  obtain ⟨⟨n1, n8, H1, H5, L1, L6⟩, hn, hH, hL, ⟨wk, hwk5, hwk⟩, -, -, -, hrow, hun, hpf, -, -, -, -⟩ := id vt
  obtain ⟨hpg, rt, rw1, hrh, hrs, hrg⟩ := id r
  obtain ⟨t0, t18, t2, t3, t19, t5, t6, trow, tun, tend⟩ := id rt
  obtain ⟨w1, w2, w3, w4, w5⟩ := id rw1
  obtain ⟨c1, c2, c3, c4⟩ := id hrs
  have hb : t + 4 < b := by omega
  have hne : h - 1 ≠ h := by omega
  obtain ⟨b1, b2, b3, b4⟩ := id (hrh (h - 1) (by omega))
  obtain ⟨d1, d2, d3, -⟩ := id (hrh h hh)
  unfold wp_Model_takesOver
  rw [q_pred h0, show (0 : Int32) = nI 0 from rfl, show (2 : Int32) = nI 2 from rfl, show (3 : Int32) = nI 3 from rfl, show (4 : Int32) = nI 4 from rfl, e_at hpg (by omega) (by omega), if_neg (by omega), q_x0, Nat.add_zero, b1]
  refine ⟨fun cn => hQ0 (fun q => cn q.1), fun cs => ?_⟩
  have cs2 : M (b + 1) (h - 1) = 2 := cs
  rcases hhd (h - 1) (by omega) with ⟨a1, -⟩ | ⟨a1, -⟩ | ⟨p, u, s, U, a1, a2, a3, a4, a5, a6, a7, a8, a9, a10⟩
  · rw [cs2] at a1; exact absurd a1 (by decide)
  · rw [cs2] at a1; exact absurd a1 (by decide)
  have bb : W 6 (96 * pg + 8 + 8 * (h - 1) + 2) = nI (p + 4) ∧ W 6 (96 * pg + 8 + 8 * (h - 1) + 3) = nI (u + 4) ∧ W 6 (96 * pg + 8 + 8 * (h - 1) + 4) = nI (s + 4) := by
    rcases b4 with ⟨q1, -⟩ | ⟨p', u', s', l1, l2, l3, q1, q2, q3, q4, q5, q6⟩
    · rw [a5] at q1
      have := q_neq (a := p) (c := 1) (by omega) (by omega) (by omega)
      exact absurd q1 (by rw [show (-1 : Int32) = -nI 1 from rfl, this]; exact fun h => h)
    · rw [a5] at q1; rw [a6] at q2; rw [a7] at q3
      have z1 : p = p' := (nI_eq (by omega) (by omega)).mp q1
      have z2 : u = u' := (nI_eq (by omega) (by omega)).mp q2
      have z3 : s = s' := (nI_eq (by omega) (by omega)).mp q3
      subst z1; subst z2; subst z3
      exact ⟨q4, q5, q6⟩
  obtain ⟨bp, bu, bs⟩ := bb
  refine mt_canBeLeft (t := t) (b := b) (M := M) r H5 (by omega) a5 a6 (by omega) bp bu (fun hc => ⟨fun _ => ?_, fun q => absurd q (by decide)⟩) (fun hc => ⟨fun q => absurd rfl q, fun _ => hQ0 (fun q => hc q.2)⟩)
  replace hQ := hQ cs2 hc
  rw [e_at hpg (by omega) (by omega), if_pos (by omega), bp, q_m4, e_put hpg (by omega) (by omega), if_neg (by omega), q_s0, Nat.add_zero, e_put hpg (by omega) (by omega), if_pos (by omega), q_p4, e_at hpg (by omega) (by omega), if_pos (by omega)]
  have y1 : zup (zup W 6 (96 * pg + 8 + 8 * h) (nI 2)) 6 (96 * pg + 8 + 8 * h + 2) (nI (p + 4)) 6 (96 * pg + 8 + 8 * (h - 1) + 3) = nI (u + 4) := by
    simp (disch := omega) only [zup_eq, upd_ne]; exact bu
  rw [y1, q_m4, e_put hpg (by omega) (by omega), if_pos (by omega), q_p4, e_at hpg (by omega) (by omega), if_pos (by omega)]
  have y2 : zup (zup (zup W 6 (96 * pg + 8 + 8 * h) (nI 2)) 6 (96 * pg + 8 + 8 * h + 2) (nI (p + 4))) 6 (96 * pg + 8 + 8 * h + 3) (nI (u + 4)) 6 (96 * pg + 8 + 8 * (h - 1) + 4) = nI (s + 4) := by
    simp (disch := omega) only [zup_eq, upd_ne]; exact bs
  rw [y2, q_m4, e_put hpg (by omega) (by omega), if_pos (by omega), q_p4, e_of hpg (by omega)]
  generalize hW5 : zup (zup (zup (zup W 6 (96 * pg + 8 + 8 * h) (nI 2)) 6 (96 * pg + 8 + 8 * h + 2) (nI (p + 4))) 6 (96 * pg + 8 + 8 * h + 3) (nI (u + 4))) 6 (96 * pg + 8 + 8 * h + 4) (nI (s + 4)) = W5
  have x0 : W5 6 (96 * pg + 8 + 8 * h) = 2 := by rw [← hW5]; simp (disch := omega) only [zup_eq, upd_ne, upd_eq]; rfl
  have x2 : W5 6 (96 * pg + 8 + 8 * h + 2) = nI (p + 4) := by rw [← hW5]; simp (disch := omega) only [zup_eq, upd_ne, upd_eq]
  have x3 : W5 6 (96 * pg + 8 + 8 * h + 3) = nI (u + 4) := by rw [← hW5]; simp (disch := omega) only [zup_eq, upd_ne, upd_eq]
  have x4 : W5 6 (96 * pg + 8 + 8 * h + 4) = nI (s + 4) := by rw [← hW5]; simp (disch := omega) only [zup_eq, upd_ne, upd_eq]
  have xr : ∀ j, j ≠ 96 * pg + 8 + 8 * h → j ≠ 96 * pg + 8 + 8 * h + 2 → j ≠ 96 * pg + 8 + 8 * h + 3 → j ≠ 96 * pg + 8 + 8 * h + 4 → W5 6 j = W 6 j := fun j j1 j2 j3 j4 => by
    rw [← hW5]; simp (disch := omega) only [zup_eq, upd_ne]
  have xk : ∀ k, k ≠ 6 → W5 k = W k := fun k hk => by rw [← hW5]; simp (disch := omega) only [zup_ne]
  clear hW5 y1 y2
  -- the class: the memory ahead of going back
  generalize hM5 : zup (zup (zup (zup (zup M (b + 1) h 2) (b + 3) h (nI p)) (b + 4) h (nI u)) (b + 5) h (nI s)) b 4 (M b 4 + 1) = M5
  have f5 : sp_fr b M M5 := by
    rw [← hM5]
    exact ((((sp_fr.up (i := 1) (by omega) (by omega)).tr (sp_fr.up (i := 3) (by omega) (by omega))).tr (sp_fr.up (i := 4) (by omega) (by omega))).tr (sp_fr.up (i := 5) (by omega) (by omega))).tr (sp_fr.up0 (by omega))
  have g4b : M5 b 4 = M b 4 + 1 := by rw [← hM5]; simp (disch := omega) only [zup_eq, upd_eq]
  have g0 : ∀ j, j ≠ 4 → M5 b j = M b j := fun j hj => by rw [← hM5]; simp (disch := omega) only [zup_ne, zup_eq, upd_ne]
  have g1 : M5 (b + 1) h = 2 := by rw [← hM5]; simp (disch := omega) only [zup_ne, zup_eq, upd_eq]
  have g2 : ∀ j, M5 (b + 2) j = M (b + 2) j := fun j => by rw [← hM5]; simp (disch := omega) only [zup_ne]
  have g3 : M5 (b + 3) h = nI p := by rw [← hM5]; simp (disch := omega) only [zup_ne, zup_eq, upd_eq]
  have g4 : M5 (b + 4) h = nI u := by rw [← hM5]; simp (disch := omega) only [zup_ne, zup_eq, upd_eq]
  have g5 : M5 (b + 5) h = nI s := by rw [← hM5]; simp (disch := omega) only [zup_ne, zup_eq, upd_eq]
  have g6 : ∀ j, M5 (b + 6) j = M (b + 6) j := fun j => by rw [← hM5]; simp (disch := omega) only [zup_ne]
  have g7 : ∀ j, M5 (b + 7) j = M (b + 7) j := fun j => by rw [← hM5]; simp (disch := omega) only [zup_ne]
  have gj : ∀ i j, 1 ≤ i → i ≤ 6 → j ≠ h → M5 (b + i) j = M (b + i) j := fun i j i1 i5 hj => by
    rw [← hM5]
    rcases (show i = 1 ∨ i = 2 ∨ i = 3 ∨ i = 4 ∨ i = 5 ∨ i = 6 by omega) with rfl | rfl | rfl | rfl | rfl | rfl <;> simp (disch := omega) only [zup_ne, zup_eq, upd_ne]
  have g30 : b = 32 → M5 30 = M 30 ∧ M5 31 = M 31 := fun _ => by rw [← hM5]; simp (disch := omega) only [zup_ne, and_self]
  have etake : ∃ M6 : zMem, sp_take t b h M = sp_goBack t b (h - 1) (nI p) M6 ∧ (∀ k, k ≠ 30 → k ≠ 31 → M6 k = M5 k) ∧ (b = 32 → M6 = sp_note 30 (M b 2) (nI h) (nI p) (nI u) (nI s) M5) ∧ (b ≠ 32 → M6 = M5) := by
    unfold sp_take
    dsimp only
    rw [a5, a6, a7, hM5]
    rcases zlg_cases b with c | ⟨c, hb32⟩
    · rw [c]
      refine ⟨M5, rfl, fun _ _ _ => rfl, fun q => ?_, fun _ => rfl⟩
      rw [q] at c
      cases c
    · rw [c]
      exact ⟨_, rfl, fun k k1 k2 => e_note_ne k1 k2, fun _ => rfl, fun q => absurd hb32 q⟩
  clear hM5
  obtain ⟨M6, eM6, m6k, m632, m6n⟩ := etake
  rw [eM6] at fr hQ
  have m6b : ∀ i, M6 (b + i) = M5 (b + i) := fun i => by
    by_cases c : b = 32
    · exact m6k _ (by omega) (by omega)
    · rw [m6n c]
  have m6b0 : M6 b = M5 b := m6b 0
  have m6t : ∀ i, i ≤ 4 → M6 (t + i) = M (t + i) := fun i hi => by rw [m6k _ (by omega) (by omega)]; exact f5.told hb18 hd2 i hi
  -- behind the log
  have fin : ∀ W6 : zMem, W6 6 = W5 6 → (∀ k, k ≠ 6 → k ≠ 10 → W6 k = W k) → (pg ≠ 1 → W6 10 = W 10) → (pg = 1 → b = 32 → ∃ o, o < 2147483648 ∧ M b 4 + 1 = nI o ∧ M6 30 0 = nI (if o < 600 then o else 600) ∧ ∀ j, j < 5 * o → j < 3000 → W6 10 j = M6 31 j) → wpJ_Model_takesOver_180 (nI pg) (nI h) Q (nI p) W6 := by
    intro W6 k6 kk k10 klog
    unfold wpJ_Model_takesOver_180
    rw [show (2 : Int32) = nI 2 from rfl, e_more hpg (by omega), q_pred h0]
    have z1 : W6 6 (96 * pg + 2) = M b 4 := by rw [k6, xr _ (by omega) (by omega) (by omega) (by omega)]; exact c3
    rw [z1]
    generalize hW7 : zup W6 6 (96 * pg + 2) (M b 4 + 1) = W7
    have v2 : W7 6 (96 * pg + 2) = M b 4 + 1 := by rw [← hW7]; simp (disch := omega) only [zup_eq, upd_eq]
    have vr : ∀ j, j ≠ 96 * pg + 2 → W7 6 j = W5 6 j := fun j hj => by rw [← hW7]; simp (disch := omega) only [zup_eq, upd_ne]; rw [k6]
    have vk : ∀ k, k ≠ 6 → W7 k = W6 k := fun k hk => by rw [← hW7, zup_ne hk]
    clear hW7
    have mf7 : mfr pg W W7 := by
      refine ⟨fun k k1 k2 => ?_, fun j hj => ?_, fun hp1 => ?_, fun H' h' a b c => ?_⟩
      · rw [vk k k1]; exact kk k k1 k2
      · rw [vr _ (by omega), xr _ (by omega) (by omega) (by omega) (by omega)]
      · rw [vk _ (by omega)]; exact k10 hp1
      · have := (nI_eq (a := H') (b := H) (by omega) (by omega)).mp (a.symm.trans t18)
        rw [vr _ (by omega), xr _ (by omega) (by omega) (by omega) (by omega)]
    have st0 : M6 t = M t := m6t 0 (by omega)
    refine mt_goesBack (t := t) (b := b) (M := M6) (k := wk) hpg (by omega) (by omega) (by rw [st0]; exact hwk) hwk5 (by rw [st0, vk _ (by omega), kk _ (by omega) (by omega)]; exact t2) (fun z0 => ?_) ?_
    · rw [m6b, gj 3 _ (by omega) (by omega) (by omega), vr _ (by omega), xr _ (by omega) (by omega) (by omega) (by omega)]
      exact (hrh (h - 1 - 1) (by omega)).pc
    have gat : ∀ i j, (i = 0 ∨ 4 ≤ i ∨ j ≠ h - 1) → sp_goBack t b (h - 1) (nI p) M6 (b + i) j = M6 (b + i) j := fun i j => sp_goBack_at
    have ga0 : ∀ j, sp_goBack t b (h - 1) (nI p) M6 b j = M5 b j := fun j => (gat 0 j (Or.inl rfl)).trans (by rw [Nat.add_zero, m6b0])
    have mf8 := mf7.tr (mfr_goes (pg := pg) (h := h - 1) (z := sp_wl t b (h - 1) (nI p) M6) (d := if 0 < sp_wl t b (h - 1) (nI p) M6 then 1 else 0) (W := W7) (by rw [mf7.1 0 (by omega) (by omega)]; exact t18) H5 (by omega))
    refine hQ _ ⟨hpg, rt.moved (b := b) mf8 (fr.told hb18 hd2), rw1.moved mf8 (fr.told hb18 hd2 3 (by omega)) (fun h' p' q1 q2 => ?_) (fun h' p' q1 q2 q3 => by have := (w1 h' q1).1; rw [mp_goes_at (fun i hi => by omega), vr _ (by omega), xr _ (by omega) (by omega) (by omega) (by omega)]), fun j hj => ?_, ?_, fun hp1 hb32 => ?_⟩ mf8
    · rw [mp_goes_at (fun i hi => by omega), vr _ (by omega), xr _ (by omega) (by omega) (by omega) (by omega), gat 7 _ (by omega), m6b, g7]
      exact w4 h' p' q1 q2
    · by_cases e : j = h
      · subst e
        refine ⟨?_, ?_, ?_, Or.inr ⟨p, u, s, by omega, by omega, a2, ?_, ?_, ?_, ?_, ?_, ?_⟩⟩
        · rw [mp_goes_at (fun i hi => by omega), vr _ (by omega), x0, gat 1 _ (by omega), m6b, g1]
        · rw [mp_goes_at (fun i hi => by omega), vr _ (by omega), xr _ (by omega) (by omega) (by omega) (by omega), gat 2 _ (by omega), m6b, g2]; exact d2
        · rw [mp_goes_at (fun i hi => by omega), vr _ (by omega), xr _ (by omega) (by omega) (by omega) (by omega), gat 6 _ (by omega), m6b, g6]; exact d3
        · rw [gat 3 _ (by omega), m6b, g3]
        · rw [gat 4 _ (by omega), m6b, g4]
        · rw [gat 5 _ (by omega), m6b, g5]
        · rw [mp_goes_at (fun i hi => by omega), vr _ (by omega), x2]
        · rw [mp_goes_at (fun i hi => by omega), vr _ (by omega), x3]
        · rw [mp_goes_at (fun i hi => by omega), vr _ (by omega), x4]
      · by_cases e2 : j = h - 1
        · subst e2
          refine mr_goBack ?_
          rw [vr _ (by omega), xr _ (by omega) (by omega) (by omega) (by omega), m6b, g6]
          exact b3
        · refine (hrh j hj).moved (fun i hi => ?_) (fun i i1 i6 => ?_)
          · rw [mp_goes_at (fun i' hi' => by omega), vr _ (by omega), xr _ (by omega) (by omega) (by omega) (by omega)]
          · rw [gat i j (Or.inr (Or.inr e2)), m6b, gj i j i1 i6 e]
    · unfold mr_s
      rw [ga0, ga0, ga0, ga0, g0 2 (by omega), g0 3 (by omega), g4b, g0 5 (by omega), mp_goes_at (fun i hi => by omega), mp_goes_at (fun i hi => by omega), mp_goes_at (fun i hi => by omega), mp_goes_at (fun i hi => by omega), v2, vr _ (by omega), vr _ (by omega), vr _ (by omega), xr _ (by omega) (by omega) (by omega) (by omega), xr _ (by omega) (by omega) (by omega) (by omega), xr _ (by omega) (by omega) (by omega) (by omega)]
      exact ⟨c1, c2, rfl, c4⟩
    · obtain ⟨o, o0, o1, o2, o3⟩ := klog hp1 hb32
      have gb30 : sp_goBack t b (h - 1) (nI p) M6 30 = M6 30 := by unfold sp_goBack; simp (disch := omega) only [zup_ne]
      have gb31 : sp_goBack t b (h - 1) (nI p) M6 31 = M6 31 := by unfold sp_goBack; simp (disch := omega) only [zup_ne]
      refine ⟨o, o0, by rw [ga0, g4b]; exact o1, by rw [gb30]; exact o2, fun j j1 j2 => ?_⟩
      rw [mp_goes_ne (by omega), vk _ (by omega), gb31]
      exact o3 j j1 j2
  have z5 : W5 6 (96 * pg + 2) = M b 4 := by rw [xr _ (by omega) (by omega) (by omega) (by omega)]; exact c3
  rw [z5]
  refine ⟨fun cp => ?_, fun cp => ?_⟩
  · have cp1 : pg ≠ 1 := fun q => cp (by rw [q]; rfl)
    exact fin W5 rfl (fun k k1 _ => xk k k1) (fun _ => xk 10 (by omega)) (fun q => absurd q cp1)
  · have cp1 : pg = 1 := (nI_eq (a := pg) (b := 1) (by omega) (by omega)).mp cp
    obtain ⟨o, ho1, ho2⟩ := ho cp1
    rw [ho1]
    refine ⟨fun c6 => ?_, fun c6 => ?_⟩
    · have c6' : 600 ≤ o := (nI_leI (a := 600) (b := o) (by omega) (by omega)).mp c6
      refine fin W5 rfl (fun k k1 _ => xk k k1) (fun _ => xk 10 (by omega)) (fun _ hb32 => ?_)
      obtain ⟨o', q0, q1, q2, q3⟩ := hrg cp1 hb32
      rw [ho1] at q1
      have : o = o' := (nI_eq (by omega) q0).mp q1
      subst this
      have z30 : M5 30 0 = nI 600 := by rw [(g30 hb32).1, q2, if_neg (by omega)]
      have e6 : M6 = M5 := by
        rw [m632 hb32]
        unfold sp_note
        rw [z30, if_neg (by decide)]
      refine ⟨o + 1, by omega, by rw [ho1, nI_1], ?_, fun j j1 j2 => ?_⟩
      · rw [e6, z30, if_neg (by omega)]
      · rw [xk 10 (by omega), e6, (g30 hb32).2]
        exact q3 j (by omega) j2
    · have c6' : o < 600 := Nat.lt_of_not_le (fun q => c6 (nI_le (a := 600) q (by omega)))
      have j0 : ix (5 * nI o) = 5 * o := by simp (disch := omega) only [q_lit, q_add, q_mul, q_sub, q_ix, q_in, q_lt, q_le, q_eq, q_nlt, q_nle, q_ltn, q_len, q_neq, q_eqn, zup_ne, zup_eq, zset_ne, zset_eq, upd_eq, upd_ne, forall_eq, true_and, and_true, true_implies, false_implies, implies_true, not_true_eq_false, not_false_eq_true, and_self, ↓reduceIte, false_and, and_false]
      have k0 : vp_in (5 * nI o) 3000 := by simp (disch := omega) only [q_lit, q_add, q_mul, q_sub, q_ix, q_in, q_lt, q_le, q_eq, q_nlt, q_nle, q_ltn, q_len, q_neq, q_eqn, zup_ne, zup_eq, zset_ne, zset_eq, upd_eq, upd_ne, forall_eq, true_and, and_true, true_implies, false_implies, implies_true, not_true_eq_false, not_false_eq_true, and_self, ↓reduceIte, false_and, and_false]
      have j1 : ix (5 * nI o + 1) = 5 * o + 1 := by simp (disch := omega) only [q_lit, q_add, q_mul, q_sub, q_ix, q_in, q_lt, q_le, q_eq, q_nlt, q_nle, q_ltn, q_len, q_neq, q_eqn, zup_ne, zup_eq, zset_ne, zset_eq, upd_eq, upd_ne, forall_eq, true_and, and_true, true_implies, false_implies, implies_true, not_true_eq_false, not_false_eq_true, and_self, ↓reduceIte, false_and, and_false]
      have k1 : vp_in (5 * nI o + 1) 3000 := by simp (disch := omega) only [q_lit, q_add, q_mul, q_sub, q_ix, q_in, q_lt, q_le, q_eq, q_nlt, q_nle, q_ltn, q_len, q_neq, q_eqn, zup_ne, zup_eq, zset_ne, zset_eq, upd_eq, upd_ne, forall_eq, true_and, and_true, true_implies, false_implies, implies_true, not_true_eq_false, not_false_eq_true, and_self, ↓reduceIte, false_and, and_false]
      have j2 : ix (5 * nI o + nI 2) = 5 * o + 2 := by simp (disch := omega) only [q_lit, q_add, q_mul, q_sub, q_ix, q_in, q_lt, q_le, q_eq, q_nlt, q_nle, q_ltn, q_len, q_neq, q_eqn, zup_ne, zup_eq, zset_ne, zset_eq, upd_eq, upd_ne, forall_eq, true_and, and_true, true_implies, false_implies, implies_true, not_true_eq_false, not_false_eq_true, and_self, ↓reduceIte, false_and, and_false]
      have k2 : vp_in (5 * nI o + nI 2) 3000 := by simp (disch := omega) only [q_lit, q_add, q_mul, q_sub, q_ix, q_in, q_lt, q_le, q_eq, q_nlt, q_nle, q_ltn, q_len, q_neq, q_eqn, zup_ne, zup_eq, zset_ne, zset_eq, upd_eq, upd_ne, forall_eq, true_and, and_true, true_implies, false_implies, implies_true, not_true_eq_false, not_false_eq_true, and_self, ↓reduceIte, false_and, and_false]
      have j3 : ix (5 * nI o + nI 3) = 5 * o + 3 := by simp (disch := omega) only [q_lit, q_add, q_mul, q_sub, q_ix, q_in, q_lt, q_le, q_eq, q_nlt, q_nle, q_ltn, q_len, q_neq, q_eqn, zup_ne, zup_eq, zset_ne, zset_eq, upd_eq, upd_ne, forall_eq, true_and, and_true, true_implies, false_implies, implies_true, not_true_eq_false, not_false_eq_true, and_self, ↓reduceIte, false_and, and_false]
      have k3 : vp_in (5 * nI o + nI 3) 3000 := by simp (disch := omega) only [q_lit, q_add, q_mul, q_sub, q_ix, q_in, q_lt, q_le, q_eq, q_nlt, q_nle, q_ltn, q_len, q_neq, q_eqn, zup_ne, zup_eq, zset_ne, zset_eq, upd_eq, upd_ne, forall_eq, true_and, and_true, true_implies, false_implies, implies_true, not_true_eq_false, not_false_eq_true, and_self, ↓reduceIte, false_and, and_false]
      have j4 : ix (5 * nI o + nI 4) = 5 * o + 4 := by simp (disch := omega) only [q_lit, q_add, q_mul, q_sub, q_ix, q_in, q_lt, q_le, q_eq, q_nlt, q_nle, q_ltn, q_len, q_neq, q_eqn, zup_ne, zup_eq, zset_ne, zset_eq, upd_eq, upd_ne, forall_eq, true_and, and_true, true_implies, false_implies, implies_true, not_true_eq_false, not_false_eq_true, and_self, ↓reduceIte, false_and, and_false]
      have k4 : vp_in (5 * nI o + nI 4) 3000 := by simp (disch := omega) only [q_lit, q_add, q_mul, q_sub, q_ix, q_in, q_lt, q_le, q_eq, q_nlt, q_nle, q_ltn, q_len, q_neq, q_eqn, zup_ne, zup_eq, zset_ne, zset_eq, upd_eq, upd_ne, forall_eq, true_and, and_true, true_implies, false_implies, implies_true, not_true_eq_false, not_false_eq_true, and_self, ↓reduceIte, false_and, and_false]
      rw [e_of hpg (by omega), Nat.add_zero, j0, j1, j2, j3, j4]
      have z0 : W5 6 (96 * pg) = M b 2 := by rw [xr _ (by omega) (by omega) (by omega) (by omega)]; exact c1
      rw [z0]
      refine ⟨k0, fun Wa hWa => ⟨k1, fun Wb hWb => ⟨k2, fun Wc hWc => ?_⟩⟩⟩
      have zc : Wc 6 = W5 6 := by rw [hWc, hWb, hWa]; simp (disch := omega) only [zup_ne]
      rw [e_at hpg (by omega) (by omega), if_pos (by omega), zc, x3, q_m4]
      refine ⟨k3, fun Wd hWd => ?_⟩
      have zd : Wd 6 = W5 6 := by rw [hWd]; simp (disch := omega) only [zup_ne]; exact zc
      rw [e_at hpg (by omega) (by omega), if_pos (by omega), zd, x4, q_m4]
      refine ⟨k4, fun We hWe => ?_⟩
      have ze : We 6 = W5 6 := by rw [hWe]; simp (disch := omega) only [zup_ne]; exact zd
      refine fin We ze (fun k ka kb => ?_) (fun q => absurd cp1 q) (fun _ hb32 => ?_)
      · rw [hWe, hWd, hWc, hWb, hWa]
        simp (disch := omega) only [zup_ne]
        exact xk k ka
      · obtain ⟨o', q0, q1, q2, q3⟩ := hrg cp1 hb32
        rw [ho1] at q1
        have : o = o' := (nI_eq (by omega) q0).mp q1
        subst this
        have z30 : M5 30 0 = nI o := by rw [(g30 hb32).1, q2, if_pos c6']
        have zi : ix (nI o) = o := q_ix (by omega)
        have e6 : M6 = zup (zup (zup (zup (zup (zup M5 31 (o * 5) (M b 2)) 31 (o * 5 + 1) (nI h)) 31 (o * 5 + 2) (nI p)) 31 (o * 5 + 3) (nI u)) 31 (o * 5 + 4) (nI s)) 30 0 (nI (o + 1)) := by
          rw [m632 hb32]
          unfold sp_note
          rw [z30, if_pos (show nI o < 600 from nI_lt (a := o) (b := 600) c6' (by omega)), zi, nI_1]
        refine ⟨o + 1, by omega, by rw [ho1, nI_1], ?_, fun j ja jb => ?_⟩
        · rw [e6]
          simp (disch := omega) only [zup_eq, upd_eq]
          by_cases c : o + 1 < 600
          · rw [if_pos c]
          · rw [if_neg c, show o + 1 = 600 by omega]
        · rw [e6, hWe, hWd, hWc, hWb, hWa]
          rcases (show j < 5 * o ∨ j = 5 * o ∨ j = 5 * o + 1 ∨ j = 5 * o + 2 ∨ j = 5 * o + 3 ∨ j = 5 * o + 4 by omega) with c | c | c | c | c | c
          · simp (disch := omega) only [zup_eq, zup_ne, upd_ne]
            rw [xk 10 (by omega), (g30 hb32).2]
            exact q3 j c jb
          all_goals
            rw [show o * 5 = 5 * o by omega]
            subst c
            simp (disch := omega) only [zup_eq, zup_ne, upd_ne, upd_eq]
