def ci (M : zMem) : Nat → Nat
  | 0 => 0
  | h + 1 => ci M h + (if M 21 h < 0 then 0 else 1)
theorem ci_le (M : zMem) : ∀ h, ci M h ≤ h := by
  intro h
  induction h with
  | zero => exact Nat.le_refl _
  | succ h ih => unfold ci; split <;> omega
theorem xt_coats {n H L : Nat} {M : zMem} {Q : Int32 → zMem → Prop} (ok : sp_ok M 1 18 n H L) (hQ : Q (nI (ci M H)) M) : wp_Bench_coatsInHand 18 M Q := by
  have H5 : H ≤ 5 := ok.2.2.2.1.1.2.2.2.1
  have hH : M 1 1 = nI H := ok.2.2.2.1.2.2.1
  refine zlp2_r (fun m x y M' => ∃ h, x = nI (ci M h) ∧ y = nI h ∧ h ≤ H ∧ m = H - h ∧ M' = M) ?_ (n := H) ⟨0, rfl, rfl, by omega, rfl, rfl⟩
  rintro m x y M' ⟨h, rfl, rfl, hh, rfl, em⟩ J hJ
  rw [em]
  unfold wpB_Bench_coatsInHand_4
  rw [ok.1, hH]
  refine ⟨fun c => ?_, fun c => ?_⟩
  · have := (nI_leI (by omega) (by omega)).mp c
    have e : h = H := by omega
    subst e
    exact hQ
  · have hh2 : h < H := (nI_ltI (by omega) (by omega)).mp (Int32.not_le.mp c)
    rw [q_ix (by omega)]
    refine ⟨vp_in_nI (by omega) (by omega), fun d u eu v ev => ?_, fun d u eu v ev => ?_⟩
    · rw [eu, ev, nI_1]
      refine hJ (H - (h + 1)) _ _ _ (by omega) ⟨h + 1, ?_, rfl, by omega, rfl, rfl⟩
      have d' : M 21 h < 0 := d
      rw [Int32.add_zero]
      show _ = nI (ci M h + (if M 21 h < 0 then 0 else 1))
      rw [if_pos d', Nat.add_zero]
    · rw [eu, ev, nI_1, nI_1]
      refine hJ (H - (h + 1)) _ _ _ (by omega) ⟨h + 1, ?_, rfl, by omega, rfl, rfl⟩
      have d' : ¬ M 21 h < 0 := d
      show _ = nI (ci M h + (if M 21 h < 0 then 0 else 1))
      rw [if_neg d']
theorem mw_put {h j : Nat} {v : Int32} {W : zMem} {Q : zMem → Prop} (hh : h < 5) (hj : j ≤ 5) (hQ : Q (zup W 6 (8 + 8 * h + j) (if 2 ≤ j ∧ j ≤ 4 then v - -4 else v))) : wp_Model_put 0 (nI h) (nI j) v W Q := by
  unfold wp_Model_put
  have e : 96 * 0 + 8 + 8 * nI h + nI j = nI (8 + 8 * h + j) := by simp (disch := omega) only [q_lit, q_add, q_mul, q_sub, q_ix, q_in, q_lt, q_le, q_eq, q_nlt, q_nle, q_ltn, q_len, q_neq, q_eqn, zup_ne, zup_eq, zset_ne, zset_eq, upd_eq, upd_ne, forall_eq, true_and, and_true, true_implies, false_implies, implies_true, not_true_eq_false, not_false_eq_true, and_self, ↓reduceIte, false_and, and_false]
  rw [e, q_ix (by omega)]
  refine mt_in (lo' := 2) (hi' := 4) rfl rfl (fun c1 c2 => ⟨fun q => absurd q (by decide), fun _ => ⟨vp_in_nI (by omega) (by omega), fun W1 e1 => ?_⟩⟩) (fun c => ⟨fun _ => ⟨vp_in_nI (by omega) (by omega), fun W1 e1 => ?_⟩, fun q => absurd rfl q⟩)
  · rw [if_pos ⟨(nI_leI (a := 2) (by omega) (by omega)).mp c1, (nI_leI (b := 4) (by omega) (by omega)).mp c2⟩] at hQ
    rw [e1]; exact hQ
  · rw [if_neg (fun z => c ⟨(nI_leI (a := 2) (by omega) (by omega)).mpr z.1, (nI_leI (b := 4) (by omega) (by omega)).mpr z.2⟩)] at hQ
    rw [e1, Int32.sub_zero]; exact hQ
theorem p_night {n H L : Nat} {M W : zMem} {P : zMem → zMem → Prop} (vt : sp_vt M 1 n H L) (r : rt0 W M n H L) (st : pst W M n H L) (bs : bst M n H L)
    (hP : ∀ M' W', bst M' n H L → W' 0 24 = 1 → pr W' M' n H → M' 18 0 = M 18 0 → (∀ k, (k < 18 ∨ 27 ≤ k) → M' k = M k) → awf W W' → P M' W') : wp_Main_night M (fun x M' => wp_Model_night W (fun y W' => x = y ∧ P M' W')) := by
  obtain ⟨⟨n1, n8, H1, H5, L1, L6⟩, hn, hH, -⟩ := id vt
  refine xt_coats bs.1 ?_
  refine xt_makeReady (fun M1 rd => ?_)
  obtain ⟨r1, r2, r3, r4, r5⟩ := rd
  have k1 : ∀ k, (k < 18 ∨ 27 ≤ k) → M1 k = M k := fun k hk => r5 k (by omega)
  have vt1 : sp_vt M1 1 n H L := vt.moved (fun i hi => k1 _ (by omega))
  have e0 : M1 18 0 = M 18 0 := r3 0 (by omega)
  have ok1 : sp_ok M1 1 18 n H L := ⟨by rw [e0]; exact bs.1.1, by omega, by omega, vt1, ⟨0, by omega, r1⟩, fun h hh => Or.inl ⟨(r2 h (by omega)).1, (r2 h (by omega)).2.1, (r2 h (by omega)).2.2⟩, fun g hg => by rw [zlg_18] at hg; cases hg⟩
  refine xt_doAll ok1 ?_
  obtain ⟨ok2, fr2, hs2⟩ := sp_all_ok ok1
  have ek : ∀ k, (k < 18 ∨ 27 ≤ k) → sp_all 1 18 H M1 k = M k := fun k hk => by
    rw [fr2.1 k (by omega) (fun q => absurd q (by omega))]
    exact k1 k hk
  refine mt_awake vt r st (fun W1 h24 hp f1 => ?_)
  have pc : ∀ h, h < 5 → (if W1 6 (8 + 8 * h + 2) + -4 = -4 then 0 else 1) = (if h < H then (if M 21 h < 0 then 0 else 1) else 0 : Nat) := by
    intro h hh
    by_cases c : h < H
    · rw [if_pos c]
      have hm := (hp.2.1 h c).2.2.2
      rw [show 96 * 0 + 8 + 8 * h = 8 + 8 * h by omega] at hm
      rcases hm with ⟨a1, a2, -⟩ | ⟨p, u, s, hp8, -, -, a1, -, -, a2, -⟩
      · have a1' : M 21 h = -1 := a1
        rw [a2, a1', if_pos (by decide), if_pos (by decide)]
      · have a1' : M 21 h = nI p := a1
        rw [a2, show nI (p + 4) + -4 = nI p from q_m4 p, a1', if_neg (nI_pos (by omega) : ¬ nI p < 0), if_neg]
        intro q
        have := q_neq (a := p) (c := 4) (by omega) (by omega) (by omega)
        exact this.mp q
    · rw [if_neg c, hp.2.2.2.2.2 h (by omega) hh, if_pos (by decide)]
  refine zlp2_r (fun m x y W' => ∃ h, y = nI h ∧ h ≤ 5 ∧ m = 5 - h ∧ x = nI (ci M (if h < H then h else H)) ∧ (∀ g i, g < h → i ≤ 4 → W' 6 (8 + 8 * g + i) = 0) ∧ (∀ j, (∀ g i, g < h → i ≤ 4 → j ≠ 8 + 8 * g + i) → W' 6 j = W1 6 j) ∧ (∀ k, k ≠ 6 → W' k = W1 k)) ?_ (n := 5) ⟨0, rfl, by omega, rfl, by rw [show (if 0 < H then 0 else H) = 0 by split <;> omega]; rfl, fun g i hg => absurd hg (by omega), fun _ _ => rfl, fun _ _ => rfl⟩
  rintro m x y W' ⟨h, rfl, hh, rfl, ex, i1, i2, i3⟩ J hJ
  refine ⟨fun c => ?_, fun c => ?_⟩
  · have := (nI_leI (a := 5) (by omega) (by omega)).mp c
    have e5 : h = 5 := by omega
    subst e5
    have exH : x = nI (ci M H) := by rw [ex]; congr 2; split <;> omega
    refine ⟨vp_in_nI (n := 4) (by omega) (by omega), fun W2 e2 => ?_⟩
    rw [show ix 4 = 4 from rfl] at e2
    have y4 : W2 4 = W 4 := by rw [e2, zup_ne (by omega), i3 4 (by omega), f1.1 4 (by omega) (by omega) (by omega) (by omega)]
    have rt2 : rt0 W2 M1 n H L := r.moved y4 (fun i hi => k1 _ (by omega))
    have g6 : ∀ j, j ≠ 4 → (∀ g i, g < 5 → i ≤ 4 → j ≠ 8 + 8 * g + i) → W2 6 j = W1 6 j := fun j h4 hg => by rw [e2, zup_eq, upd_ne h4]; exact i2 j hg
    have z6 : ∀ g i, g < 5 → i ≤ 4 → W2 6 (8 + 8 * g + i) = 0 := fun g i hg hi => by rw [e2, zup_eq, upd_ne (by omega)]; exact i1 g i hg hi
    refine mt_asNumbered vt1 rt2 (fun W3 m3 => ?_)
    have x6 : W3 6 = W2 6 := m3.2.2.2.2 6 (by omega) (by omega) (by omega)
    have rt3 : rt0 W3 M1 n H L := rt2.moved (m3.2.2.2.2 4 (by omega) (by omega) (by omega)) (fun _ _ => rfl)
    have p3 : pr W3 M1 n H := by
      rw [pr, mr_s, x6]
      refine ⟨⟨?_, ?_, ?_, ?_⟩, fun h hh => ?_, fun h p hh hp' => ?_, fun h p hh hp' h8 => ?_, ?_, fun h a1 a2 => z6 h 2 a2 (by omega)⟩
      · rw [g6 _ (by omega) (fun g i _ _ => by omega), r3 2 (by omega)]; exact hp.1.1
      · rw [g6 _ (by omega) (fun g i _ _ => by omega), r3 3 (by omega)]; exact hp.1.2.1
      · rw [g6 _ (by omega) (fun g i _ _ => by omega), r3 4 (by omega)]; exact hp.1.2.2.1
      · rw [e2, zup_eq, show 96 * 0 + 4 = 4 from rfl, upd_eq, r1]
      · rw [mr_h, x6]
        rw [show 96 * 0 + 8 + 8 * h = 8 + 8 * h by omega]
        refine ⟨?_, ?_, ?_, Or.inl ⟨(r2 h (by omega)).2.2, z6 h 2 (by omega) (by omega), z6 h 3 (by omega) (by omega), z6 h 4 (by omega) (by omega)⟩⟩
        · rw [(r2 h (by omega)).1]; exact z6 h 0 (by omega) (by omega)
        · rw [(r2 h (by omega)).2.1]; exact z6 h 1 (by omega) (by omega)
        · rw [g6 _ (by omega) (fun g i _ _ => by omega), r4 6 (by omega) (by omega)]
          have := (hp.2.1 h hh).2.2.1
          rw [show 96 * 0 + 8 + 8 * h = 8 + 8 * h by omega] at this
          exact this
      · rw [g6 _ (by omega) (fun g i _ _ => by omega), show M1 25 = M 25 from funext (fun _ => by rw [show (25 : Nat) = 18 + 7 from rfl, r4 7 (by omega) (by omega)])]
        exact hp.2.2.1 h p hh hp'
      · rw [g6 _ (by omega) (fun g i _ _ => by omega)]
        exact hp.2.2.2.1 h p hh hp' h8
      · rw [g6 _ (by omega) (fun g i _ _ => by omega)]
        exact hp.2.2.2.2.1
    have mr3 := p3.mr H5 rt3 m3.1 m3.2.1 m3.2.2.1
    show wp_Model_settle (nI 0) W3 _
    refine mt_settle (C := 40) (by omega) ok1 mr3 (fun q => absurd q (by omega)) (fun W4 r4' f4 _ z4 => ⟨exH.symm, ?_⟩)
    have af : awf W1 W2 := ⟨fun k _ q6 _ _ => by rw [e2, zup_ne q6, i3 k q6], fun j _ _ _ => by rw [e2, zup_ne (by omega), i3 0 (by omega)], fun j hj => g6 j (by omega) (fun g i _ _ => by omega)⟩
    refine hP _ W4 ⟨ok2, hs2⟩ ?_ (r4'.pr z4 (fun h a1 a2 => ?_)) (by rw [fr2.2]; exact e0) ek (f1.tr (af.tr (m3.a.tr f4.a)))
    · rw [f4.1 0 (by omega) (by omega), m3.2.2.2.1 24 (by omega) (by omega), e2, zup_ne (by omega), i3 0 (by omega)]; exact h24
    · have e1 := f4.2.2.2 H h m3.1 a1 a2
      rw [show 96 * 0 + 8 + 8 * h + 2 = 8 + 8 * h + 2 by omega] at e1
      rw [e1, x6]
      exact z6 h 2 a2 (by omega)
  · have hh2 : h < 5 := (nI_ltI (b := 5) (by omega) (by omega)).mp (Int32.not_le.mp c)
    have ew : W' 6 (8 + 8 * h + 2) = W1 6 (8 + 8 * h + 2) := i2 _ (fun g i _ _ => by omega)
    have stp : ∀ s : Int32, (s = nI (if W1 6 (8 + 8 * h + 2) + -4 = -4 then 0 else 1)) → wpJ_Model_night_31 J (fun y W' => nI (ci M H) = y ∧ P (sp_all 1 18 H M1) W') (nI h) x s W' := by
      intro s hs v ev
      show wp_Model_put 0 (nI h) (nI 0) _ W' _
      refine mw_put hh2 (by omega) ?_
      show wp_Model_put 0 (nI h) (nI 1) _ _ _
      refine mw_put hh2 (by omega) ?_
      show wp_Model_put 0 (nI h) (nI 2) _ _ _
      refine mw_put hh2 (by omega) ?_
      show wp_Model_put 0 (nI h) (nI 3) _ _ _
      refine mw_put hh2 (by omega) ?_
      show wp_Model_put 0 (nI h) (nI 4) _ _ _
      refine mw_put hh2 (by omega) ?_
      intro u eu
      rw [eu, nI_1]
      refine hJ (5 - (h + 1)) _ _ _ (by omega) ⟨h + 1, rfl, by omega, rfl, ?_, fun g i hg hi => ?_, fun j hj => ?_, fun k hk => by simp (disch := omega) only [zup_ne]; exact i3 k hk⟩
      · rw [ev, ex, hs, pc h hh2, q_add]
        congr 1
        by_cases c1 : h < H
        · rw [if_pos c1, if_pos c1]
          by_cases c2 : h + 1 < H
          · rw [if_pos c2]; rfl
          · rw [if_neg c2, show H = h + 1 by omega]; rfl
        · rw [if_neg c1, if_neg c1, if_neg (by omega), Nat.add_zero]
      · simp only [zup_eq]
        by_cases q : g = h
        · subst q
          rcases (show i = 0 ∨ i = 1 ∨ i = 2 ∨ i = 3 ∨ i = 4 by omega) with rfl | rfl | rfl | rfl | rfl <;> (simp (disch := omega) only [upd_ne, upd_eq]; decide)
        · simp (disch := omega) only [upd_ne]
          exact i1 g i (by omega) hi
      · simp only [zup_eq]
        rw [upd_ne (hj h 4 (by omega) (by omega)), upd_ne (hj h 3 (by omega) (by omega)), upd_ne (hj h 2 (by omega) (by omega)), upd_ne (hj h 1 (by omega) (by omega)), upd_ne (hj h 0 (by omega) (by omega))]
        exact i2 j (fun g i hg hi => hj g i (by omega) hi)
    show wp_Model_at 0 (nI h) (nI 2) W' _
    refine mw_at hh2 (by omega) ?_
    rw [if_pos (by omega), ew]
    refine ⟨fun q => stp 1 ?_, fun q => stp 0 ?_⟩
    · rw [if_neg q]; rfl
    · rw [if_pos q]; rfl
