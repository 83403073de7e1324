/-- the bench stands well, and nobody can do more -/
def bst (M : zMem) (n H L : Nat) : Prop := sp_ok M 1 18 n H L ∧ ∀ j, j < H → sp_hand 1 18 j M = none
theorem mw_of {j : Nat} {W : zMem} {Q : Int32 → zMem → Prop} (hj : j < 96) (h : Q (W 6 j) W) : wp_Model_of 0 (nI j) W Q := by
  unfold wp_Model_of
  have e : 96 * 0 + nI j = nI j := by rw [show (96 : Int32) * 0 = nI 0 from rfl, q_add, Nat.zero_add]
  rw [e, q_ix (by omega)]
  exact ⟨vp_in_nI (by omega) (by omega), h⟩
theorem zlg_18 : zlg 18 = none := by
  rcases zlg_cases 18 with c | ⟨-, c⟩
  · exact c
  · omega
theorem p_begin {n H L : Nat} {M W : zMem} {P : zMem → zMem → Prop} (vt : sp_vt M 1 n H L) (r : rt0 W M n H L) (st : pst W M n H L) (ht : ztc (M 18 0) = 1)
    (hP : ∀ M' W', bst M' n H L → W' 0 24 = 1 → pr W' M' n H → M' 18 0 = M 18 0 → (∀ k, (k < 18 ∨ 27 ≤ k) → M' k = M k) → awf W W' → P M' W') : wp_Main_begin M (fun x M' => wp_Model_begin W (fun y W' => x = y ∧ P M' W')) := by
  intro x ex
  refine xt_clear (fun Mc hc => ?_)
  have ok := sp_ok_clear hc ht (by omega) (by omega) vt (fun g hg => by rw [zlg_18] at hg; cases hg)
  refine xt_doAll ok ?_
  obtain ⟨ok2, fr2, hs2⟩ := sp_all_ok ok
  have ek : ∀ k, (k < 18 ∨ 27 ≤ k) → sp_all 1 18 H Mc k = M k := fun k hk => by
    rw [fr2.1 k (by omega) (fun q => absurd q (by omega))]
    exact hc.2.2.2.2.2.2.2.2.2 k (by omega)
  show wp_Model_of 0 (nI 1) W _
  refine mw_of (by omega) ?_
  show wp_Model_clear (nI 0) W _
  refine mt_clear (by omega) (fun W1 a1 a2 a3 => ?_)
  intro W2 e2
  have x4 : W2 4 = W 4 := by rw [e2, zup_ne (by omega), a3 4 (by omega)]
  have x6 : W2 6 = W1 6 := by rw [e2, zup_ne (by omega)]
  have aw : awf W W2 := ⟨fun k q0 q6 _ _ => by rw [e2, zup_ne q0, a3 k q6], fun j _ _ q => by rw [e2, zup_eq, upd_ne q, a3 0 (by omega)], fun j hj => by rw [x6]; exact a2 j (by omega)⟩
  refine mt_awake (M := sp_all 1 18 H Mc) (n := n) (H := H) (L := L) ok2.2.2.2.1 (r.moved x4 (fun i hi => ek _ (by omega))) (Or.inr ⟨by rw [e2, zup_eq, upd_eq], fun j hj => ?_, M, Mc, hc, ok, rfl⟩) (fun W3 h24 hp f3 => ⟨?_, hP _ W3 ⟨ok2, hs2⟩ h24 hp ?_ ek (aw.tr f3)⟩)
  · rw [x6, ← a1 j hj]; congr 1; omega
  · rw [ex]; exact st.done.symm
  · rw [fr2.2]; exact hc.2.2.2.2.1
theorem p_now {n H L : Nat} {M W : zMem} {a : Int32} {P : zMem → zMem → Prop} (vt : sp_vt M 1 n H L) (r : rt0 W M n H L) (st : pst W M n H L) (bs : bst M n H L) (hP : ∀ W', W' 0 24 = 1 → pr W' M n H → awf W W' → P M W') : wp_Main_now a M (fun x M' => wp_Model_now a W (fun y W' => x = y ∧ P M' W')) := by
  have yes : ∀ j x, j ≤ 4 → (∀ W', pr W' M n H → x = W' 6 j) → wp_Model_now (nI j) W (fun y W' => x = y ∧ P M W') := fun j x hj hx => by
    refine mt_awake vt r st (fun W' h24 hp f => ?_)
    refine mt_in (lo' := 0) (hi' := 4) rfl rfl (fun _ _ => ⟨fun q => absurd q (by decide), fun _ => ?_⟩) (fun q => absurd ⟨nI_pos' (by omega), (nI_leI (b := 4) (by omega) (by omega)).mpr hj⟩ q)
    exact mw_of (by omega) ⟨hx W' hp, hP W' h24 hp f⟩
  intro x ex
  refine ⟨fun c => ?_, fun c => ?_, fun c => ?_, fun c => ?_, fun c => ?_, fun c0 c1 c2 c3 c4 => ?_⟩
  · rw [← ex, c]; exact yes 0 _ (by omega) (fun W' hp => hp.1.1.symm)
  · rw [← ex, c]; exact yes 1 _ (by omega) (fun W' hp => hp.1.2.1.symm)
  · rw [← ex, c]; exact yes 2 _ (by omega) (fun W' hp => hp.1.2.2.1.symm)
  · refine xt_least bs.1 ⟨fun _ => ?_, fun q => ?_⟩
    · rw [← ex, c]; exact yes 3 _ (by omega) (fun W' hp => hp.2.2.2.2.1.symm)
    · have := sp_nstuck bs.1 bs.2
      rw [q] at this
      exact absurd this (by decide)
  · rw [← ex, c]; exact yes 4 _ (by omega) (fun W' hp => hp.1.2.2.2.symm)
  · refine mt_awake vt r st (fun W' h24 hp f => ?_)
    refine mt_in (lo' := 0) (hi' := 4) rfl rfl (fun q0 q => ?_) (fun _ => ⟨fun _ => ⟨rfl, hP W' h24 hp f⟩, fun q => absurd rfl q⟩)
    obtain ⟨j, hj, e⟩ := nI_of2 (M := 4) (n := 4) rfl (Int32.not_lt.mpr q0) q
    rw [← ex] at e
    rcases (show j = 0 ∨ j = 1 ∨ j = 2 ∨ j = 3 ∨ j = 4 by omega) with rfl | rfl | rfl | rfl | rfl
    · exact absurd e c0
    · exact absurd e c1
    · exact absurd e c2
    · exact absurd e c3
    · exact absurd e c4
theorem mw_at {h j : Nat} {W : zMem} {Q : Int32 → zMem → Prop} (hh : h < 5) (hj : j ≤ 5) (hQ : Q (W 6 (8 + 8 * h + j) + (if 2 ≤ j ∧ j ≤ 4 then -4 else 0)) W) : wp_Model_at 0 (nI h) (nI j) W Q := by
  unfold wp_Model_at
  have e : 96 * 0 + 8 + 8 * nI h + nI j = nI (8 + 8 * h + j) := by simp (disch := omega) only [q_lit, q_add, q_mul, q_sub, q_ix, q_in, q_lt, q_le, q_eq, q_nlt, q_nle, q_ltn, q_len, q_neq, q_eqn, zup_ne, zup_eq, zset_ne, zset_eq, upd_eq, upd_ne, forall_eq, true_and, and_true, true_implies, false_implies, implies_true, not_true_eq_false, not_false_eq_true, and_self, ↓reduceIte, false_and, and_false]
  rw [e, q_ix (by omega)]
  refine ⟨vp_in_nI (by omega) (by omega), ?_⟩
  refine mt_in (lo' := 2) (hi' := 4) rfl rfl (fun c1 c2 => ⟨fun q => absurd q (by decide), fun _ => ?_⟩) (fun c => ⟨fun _ => ?_, fun q => absurd rfl q⟩)
  · rw [if_pos ⟨(nI_leI (a := 2) (by omega) (by omega)).mp c1, (nI_leI (b := 4) (by omega) (by omega)).mp c2⟩] at hQ
    exact hQ
  · rw [if_neg (fun z => c ⟨(nI_leI (a := 2) (by omega) (by omega)).mpr z.1, (nI_leI (b := 4) (by omega) (by omega)).mpr z.2⟩)] at hQ
    exact hQ
theorem p_hand {n H L : Nat} {M W : zMem} {a1 a2 : Int32} {P : zMem → zMem → Prop} (vt : sp_vt M 1 n H L) (r : rt0 W M n H L) (st : pst W M n H L) (hP : ∀ W', W' 0 24 = 1 → pr W' M n H → awf W W' → P M W') : wp_Main_hand a1 a2 M (fun x M' => wp_Model_hand a1 a2 W (fun y W' => x = y ∧ P M' W')) := by
  obtain ⟨⟨n1, n8, H1, H5, L1, L6⟩, hn, hH, -⟩ := id vt
  have w1 : ∀ W', awf W W' → W' 4 1 = nI H := fun W' f => by rw [f.1 4 (by omega) (by omega) (by omega) (by omega)]; exact r.2.1
  refine xt_isHand hH (by omega) (fun h hh eh => ⟨fun _ => ⟨by rw [eh]; exact vp_in_nI (by omega) (by omega), ?_⟩, fun q => absurd q (by decide)⟩) (fun nh => ⟨fun q => absurd rfl q, fun _ => ?_⟩)
  · subst eh
    rw [q_ix (by omega)]
    have yes : ∀ j x, j ≤ 5 → (∀ W', mr_h W' M 0 18 h → x = W' 6 (8 + 8 * h + j) + (if 2 ≤ j ∧ j ≤ 4 then -4 else 0)) → wp_Model_hand (nI h) (nI j) W (fun y W' => x = y ∧ P M W') := fun j x hj hx => by
      refine mt_awake vt r st (fun W' h24 hp f => ?_)
      refine mt_isHand (w1 W' f) (by omega) (by omega) (fun _ _ _ => ⟨fun q => absurd q (by decide), fun _ => ?_⟩) (fun q => absurd ⟨h, hh, rfl⟩ q)
      refine mt_in (lo' := 0) (hi' := 5) rfl rfl (fun _ _ => ⟨fun q => absurd q (by decide), fun _ => ?_⟩) (fun q => absurd ⟨nI_pos' (by omega), (nI_leI (b := 5) (by omega) (by omega)).mpr hj⟩ q)
      exact mw_at (by omega) hj ⟨hx W' (hp.2.1 h hh), hP W' h24 hp f⟩
    have v5 : vp_in (nI h) 5 := vp_in_nI (by omega) (by omega)
    have go : ∀ s : Int32, (s = 0 ↔ M 21 h < 0) → wpJ_Main_hand_27 (nI h) a2 (fun x M' => wp_Model_hand (nI h) a2 W (fun y W' => x = y ∧ P M' W')) s M := by
      intro s hs x ex
      rw [q_ix (by omega)]
      have p3 : ∀ W', mr_h W' M 0 18 h → (M 21 h < 0 ∧ W' 6 (8 + 8 * h + 2) = 0 ∧ W' 6 (8 + 8 * h + 3) = 0 ∧ W' 6 (8 + 8 * h + 4) = 0) ∨ (¬ M 21 h < 0 ∧ W' 6 (8 + 8 * h + 2) + -4 = M 21 h ∧ W' 6 (8 + 8 * h + 3) + -4 = M 22 h ∧ W' 6 (8 + 8 * h + 4) + -4 = M 23 h) := by
        intro W' hm
        obtain ⟨-, -, -, hm⟩ := hm
        rw [show 96 * 0 + 8 + 8 * h = 8 + 8 * h by omega] at hm
        rcases hm with ⟨e1, e2, e3, e4⟩ | ⟨p, u, q, hp, hu, hq, e1, e2, e3, e4, e5, e6⟩
        · have e1' : M 21 h = -1 := e1
          exact Or.inl ⟨by rw [e1']; decide, e2, e3, e4⟩
        · have e1' : M 21 h = nI p := e1
          have e2' : M 22 h = nI u := e2
          have e3' : M 23 h = nI q := e3
          refine Or.inr ⟨by rw [e1']; exact nI_pos (by omega), ?_, ?_, ?_⟩
          · rw [e4, e1']; exact q_m4 p
          · rw [e5, e2']; exact q_m4 u
          · rw [e6, e3']; exact q_m4 q
      have pc : ∀ (j k : Nat), (j = 2 ∧ k = 21 ∨ j = 3 ∧ k = 22 ∨ j = 4 ∧ k = 23) → (s = 0 → wp_Model_hand (nI h) (nI j) W (fun y W' => -4 = y ∧ P M W')) ∧ (¬ s = 0 → vp_in (nI h) 5 ∧ wp_Model_hand (nI h) (nI j) W (fun y W' => M k h = y ∧ P M W')) := by
        intro j k hjk
        refine ⟨fun c => yes j _ (by omega) (fun W' hm => ?_), fun c => ⟨v5, yes j _ (by omega) (fun W' hm => ?_)⟩⟩
        · rw [if_pos (by omega)]
          rcases p3 W' hm with ⟨-, e2, e3, e4⟩ | ⟨q, -⟩
          · rcases hjk with ⟨rfl, -⟩ | ⟨rfl, -⟩ | ⟨rfl, -⟩
            · rw [e2]; rfl
            · rw [e3]; rfl
            · rw [e4]; rfl
          · exact absurd (hs.mp c) q
        · rw [if_pos (by omega)]
          rcases p3 W' hm with ⟨q, -⟩ | ⟨-, e2, e3, e4⟩
          · exact absurd (hs.mpr q) c
          · rcases hjk with ⟨rfl, rfl⟩ | ⟨rfl, rfl⟩ | ⟨rfl, rfl⟩
            · exact e2.symm
            · exact e3.symm
            · exact e4.symm
      refine ⟨fun c => ⟨v5, ?_⟩, fun c => ⟨v5, ?_⟩, fun c => ?_, fun c => ?_, fun c => ?_, fun c => ⟨v5, ?_⟩, fun c0 c1 c2 c3 c4 c5 => ?_⟩
      · rw [← ex, c]
        refine yes 0 _ (by omega) (fun W' hm => ?_)
        rw [if_neg (by omega), Int32.add_zero]
        have := hm.1
        rw [show 96 * 0 + 8 + 8 * h = 8 + 8 * h by omega] at this
        exact this.symm
      · rw [← ex, c]
        refine yes 1 _ (by omega) (fun W' hm => ?_)
        rw [if_neg (by omega), Int32.add_zero]
        have := hm.2.1
        rw [show 96 * 0 + 8 + 8 * h = 8 + 8 * h by omega] at this
        exact this.symm
      · rw [← ex, c]; exact pc 2 21 (by omega)
      · rw [← ex, c]; exact pc 3 22 (by omega)
      · rw [← ex, c]; exact pc 4 23 (by omega)
      · rw [← ex, c]
        refine yes 5 _ (by omega) (fun W' hm => ?_)
        rw [if_neg (by omega), Int32.add_zero]
        have := hm.2.2.1
        rw [show 96 * 0 + 8 + 8 * h = 8 + 8 * h by omega] at this
        exact this.symm
      · refine mt_awake vt r st (fun W' h24 hp f => ?_)
        refine mt_isHand (w1 W' f) (by omega) (by omega) (fun _ _ _ => ⟨fun q => absurd q (by decide), fun _ => ?_⟩) (fun q => absurd ⟨h, hh, rfl⟩ q)
        refine mt_in (lo' := 0) (hi' := 5) rfl rfl (fun q0 q => ?_) (fun _ => ⟨fun _ => ⟨rfl, hP W' h24 hp f⟩, fun q => absurd rfl q⟩)
        obtain ⟨j, hj, e⟩ := nI_of2 (M := 5) (n := 5) rfl (Int32.not_lt.mpr q0) q
        rw [← ex] at e
        rcases (show j = 0 ∨ j = 1 ∨ j = 2 ∨ j = 3 ∨ j = 4 ∨ j = 5 by omega) with rfl | rfl | rfl | rfl | rfl | rfl
        · exact absurd e c0
        · exact absurd e c1
        · exact absurd e c2
        · exact absurd e c3
        · exact absurd e c4
        · exact absurd e c5
    exact ⟨fun c => go 0 ⟨fun _ => c, fun _ => rfl⟩, fun c => go 1 ⟨fun q => absurd q (by decide), fun q => absurd q c⟩⟩
  · refine mt_awake vt r st (fun W' h24 hp f => ?_)
    exact mt_isHand (w1 W' f) (by omega) (by omega) (fun h a b => absurd ⟨h, a, b⟩ nh) (fun _ => ⟨fun _ => ⟨rfl, hP W' h24 hp f⟩, fun q => absurd rfl q⟩)
