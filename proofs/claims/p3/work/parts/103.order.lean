/-- a ring of an order of hands, by a bench that was run -/
def og (M : zMem) (n H L q : Nat) (o : Option (Nat × Nat × Nat × Nat)) : Prop := ∃ M0 Mc, sp_clear 45 M0 Mc ∧ sp_ok Mc 6 45 n H L ∧ (∀ j, j ≤ 6 → Mc 6 j = M 1 j) ∧ (∀ j, j < 6 → Mc 7 j = M 2 j) ∧ (∀ j, j < 24 → Mc 8 j = M 3 j) ∧ (∀ i p, i < H → p < 8 → Mc 9 (i * 8 + p) = M 4 (so_wh H q i * 8 + p)) ∧ (∀ j, j < 5 → Mc 10 j = M 5 j) ∧ o = sp_ring 6 45 n H Mc ∧ sp_rok o
theorem og.moved {M M' : zMem} {n H L q : Nat} {o : Option (Nat × Nat × Nat × Nat)} (h : og M n H L q o) (e : ∀ i, i ≤ 4 → M' (1 + i) = M (1 + i)) : og M' n H L q o := by
  have e1 : M' 1 = M 1 := e 0 (by omega)
  have e2 : M' 2 = M 2 := e 1 (by omega)
  have e3 : M' 3 = M 3 := e 2 (by omega)
  have e4 : M' 4 = M 4 := e 3 (by omega)
  have e5 : M' 5 = M 5 := e 4 (by omega)
  unfold og at h ⊢
  rw [e1, e2, e3, e4, e5]
  exact h
def ov (M : zMem) (n H L q : Nat) (o : Option (Nat × Nat × Nat × Nat)) : Prop := og M n H L q o ∧ M 57 q = nI (ro_top o) ∧ M 58 q = nI (ro_bot o)
theorem ov.moved {M M' : zMem} {n H L q : Nat} {o : Option (Nat × Nat × Nat × Nat)} (h : ov M n H L q o) (e : ∀ i, i ≤ 4 → M' (1 + i) = M (1 + i)) (e7 : M' 57 q = M 57 q) (e8 : M' 58 q = M 58 q) : ov M' n H L q o := ⟨h.1.moved e, e7.trans h.2.1, e8.trans h.2.2⟩
/-- orders that the class has kept are those of what is told now -/
def co (M : zMem) (n H L : Nat) : Prop := ∀ q, q < so_f H → M 58 q = 0 ∨ ∃ o, ov M n H L q o
theorem xt_findOrder {n H L q : Nat} {M : zMem} {Q : zMem → Prop} (vt : sp_vt M 1 n H L) (hco : co M n H L) (hq : q < so_f H)
    (hQ : ∀ M' o, ov M' n H L q o → co M' n H L → (∀ q', q' ≠ q → M' 57 q' = M 57 q' ∧ M' 58 q' = M 58 q') → (∀ k, (k < 6 ∨ (11 ≤ k ∧ k < 41) ∨ k = 54 ∨ k = 56 ∨ 60 ≤ k) → M' k = M k) → Q M') : wp_Main_findOrder (nI q) M Q := by
  obtain ⟨⟨n1, n8, H1, H5, L1, L6⟩, hn, hH, -⟩ := id vt
  have hf := so_f_le H (by omega)
  unfold wp_Main_findOrder
  rw [q_ix (by omega)]
  refine ⟨vp_in_nI (by omega) (by omega), fun c => ?_, fun c => ?_⟩
  rotate_left
  · rcases hco q hq with z | ⟨o, ho⟩
    · exact absurd z c
    · exact hQ M o ho hco (fun _ _ => ⟨rfl, rfl⟩) (fun _ _ => rfl)
  rw [hH]
  refine xt_standAs H1 H5 hq (fun M1 s1 s2 => ?_)
  refine xt_copyFrom (by omega) (fun M2 d2 o2 => ?_)
  have t2 : ∀ i, i ≤ 4 → M1 (1 + i) = M (1 + i) := fun i hi => s2 _ (by omega)
  have h59 : ∀ i, i < H → M2 59 i = nI (so_wh H q i) := fun i hi => by rw [o2 59 (by omega)]; exact s1 i hi
  refine zlp1_r (fun m x M' => ∃ j, x = nI j ∧ j ≤ H ∧ m = H - j ∧ (∀ i p, i < j → p < 8 → M' 9 (i * 8 + p) = M 4 (so_wh H q i * 8 + p)) ∧ (∀ d, d ≠ 9 → M' d = M2 d)) ?_ (n := H) ⟨0, rfl, by omega, rfl, fun i p hi => absurd hi (by omega), fun _ _ => rfl⟩
  rintro m x M3 ⟨j, rfl, jH, rfl, i1, i2⟩ J hJ
  unfold wpB_Main_findOrder_41
  have f1 : M3 1 1 = nI H := by rw [i2 1 (by omega), o2 1 (by omega), s2 1 (by omega)]; exact hH
  rw [f1]
  refine ⟨fun c2 => ?_, fun c2 => ?_⟩
  rotate_left
  · have hj : j < H := (nI_ltI (by omega) (by omega)).mp (Int32.not_le.mp c2)
    obtain ⟨-, -, -, -, k5⟩ := so_ok H (by omega) q (by omega) hq j (by omega) hj
    rw [q_ix (by omega), i2 59 (by omega), h59 j hj]
    refine ⟨vp_in_nI (by omega) (by omega), xt_copyPaces (by omega) (by omega) (fun M4 b1 b2 b3 y ey => ?_)⟩
    rw [ey, nI_1]
    refine hJ (H - (j + 1)) _ _ (by omega) ⟨j + 1, rfl, by omega, rfl, fun i p hi hp => ?_, fun d hd => by rw [b3 d hd]; exact i2 d hd⟩
    by_cases z : i = j
    · rw [z]
      refine (b1 p hp).trans ?_
      show M3 4 _ = _
      rw [i2 4 (by omega), o2 4 (by omega), s2 4 (by omega)]
    · refine (b2 _ (by omega)).trans ?_
      exact i1 i p (by omega) hp
  · have := (nI_leI (by omega) (by omega)).mp c2
    have ej : j = H := by omega
    subst ej
    have wl : ∀ i, i < j → so_wh j q i < j := fun i hi => (so_ok j (by omega) q (by omega) hq i (by omega) hi).2.2.2.2
    have g6 : ∀ i, i ≤ 6 → M3 6 i = M 1 i := fun i hi => by rw [i2 6 (by omega), d2.1 i hi, s2 1 (by omega)]
    have g7 : ∀ i, i < 6 → M3 7 i = M 2 i := fun i hi => by rw [i2 7 (by omega)]; exact (d2.2.1 i hi).trans (by rw [s2 2 (by omega)])
    have g8 : ∀ i, i < 24 → M3 8 i = M 3 i := fun i hi => by rw [i2 8 (by omega)]; exact (d2.2.2.1 i hi).trans (by rw [s2 3 (by omega)])
    have g10 : ∀ i, i < 5 → M3 10 i = M 5 i := fun i hi => by rw [i2 10 (by omega)]; exact (d2.2.2.2.2 i hi).trans (by rw [s2 5 (by omega)])
    have vt3 : sp_vt M3 6 n j L := by
      obtain ⟨-, -, -, hL, hw, hl, hk, hwh, hrow, hun, hpf, hpa, hen, hel, hek⟩ := vt
      refine ⟨⟨n1, n8, H1, H5, L1, L6⟩, by rw [g6 0 (by omega)]; exact hn, by rw [g6 1 (by omega)]; exact hH, by rw [g6 6 (by omega)]; exact hL, by rw [g6 2 (by omega)]; exact hw, by rw [g6 3 (by omega)]; exact hl, by rw [g6 4 (by omega)]; exact hk, by rw [g6 5 (by omega)]; exact hwh, fun i hi => by rw [g7 i (by omega)]; exact hrow i hi, fun s p hs hp => by rw [g8 _ (by omega)]; exact hun s p hs hp, fun s hs => ?_, fun h p hh hp => by rw [i1 h p hh (by omega)]; exact hpa _ p (wl h hh) hp, fun h hh => by rw [g10 h (by omega)]; exact hen h hh, by rw [g10 _ (by omega)]; exact hel, fun z h hh => by rw [g10 h (by omega)]; exact hek (by rw [← g6 4 (by omega)]; exact z) h hh⟩
      rw [sp_pf_congr (f := fun i => M3 (6 + 2) (s * 8 + i)) (g := fun i => M (1 + 2) (s * 8 + i)) n 0 (fun i _ hi => g8 _ (by omega))]
      exact hpf s hs
    refine xt_settle (Or.inr rfl) (Or.inr rfl) vt3 (fun M0 Mc M5 hc ok tc _ rk ro cf => ?_)
    obtain ⟨t6, t7⟩ := sp_ro_tb ro
    refine ⟨vp_in_nI (by omega) (by omega), fun M6 e6 => ⟨vp_in_nI (by omega) (by omega), fun M7 e7 => ?_⟩⟩
    rw [t6] at e6
    have t7' : M6 55 7 = nI (ro_bot (sp_ring 6 45 n j Mc)) := by rw [e6, zup_ne (by omega)]; exact t7
    rw [t7'] at e7
    have fk : ∀ k, (k < 6 ∨ (11 ≤ k ∧ k < 41) ∨ k = 54 ∨ k = 56 ∨ 60 ≤ k) → M7 k = M k := fun k hk => by
      rw [e7, zup_ne (by omega), e6, zup_ne (by omega), cf k (by omega) (by omega), i2 k (by omega), o2 k (by omega), s2 k (by omega)]
    have f57 : ∀ q', q' ≠ q → M7 57 q' = M 57 q' := fun q' hq' => by
      rw [e7, zup_ne (by omega), e6, zup_eq, upd_ne hq', cf 57 (by omega) (by omega), i2 57 (by omega), o2 57 (by omega), s2 57 (by omega)]
    have f58 : ∀ q', q' ≠ q → M7 58 q' = M 58 q' := fun q' hq' => by
      rw [e7, zup_eq, upd_ne hq', e6, zup_ne (by omega), cf 58 (by omega) (by omega), i2 58 (by omega), o2 58 (by omega), s2 58 (by omega)]
    have t67 : ∀ i, i ≤ 4 → M7 (1 + i) = M (1 + i) := fun i hi => fk _ (by omega)
    have og0 : og M n j L q (sp_ring 6 45 n j Mc) := ⟨M0, Mc, hc, ok, fun i hi => by rw [show Mc 6 = M3 6 from tc 0 (by omega)]; exact g6 i hi, fun i hi => by rw [show Mc 7 = M3 7 from tc 1 (by omega)]; exact g7 i hi, fun i hi => by rw [show Mc 8 = M3 8 from tc 2 (by omega)]; exact g8 i hi, fun i p hi hp => by rw [show Mc 9 = M3 9 from tc 3 (by omega)]; exact i1 i p hi hp, fun i hi => by rw [show Mc 10 = M3 10 from tc 4 (by omega)]; exact g10 i hi, rfl, rk⟩
    have ov7 : ov M7 n j L q (sp_ring 6 45 n j Mc) := ⟨og0.moved t67, by rw [e7, zup_ne (by omega), e6, zup_eq, upd_eq], by rw [e7, zup_eq, upd_eq]⟩
    refine hQ M7 _ ov7 (fun q' hq' => ?_) (fun q' hq' => ⟨f57 q' hq', f58 q' hq'⟩) fk
    by_cases z : q' = q
    · rw [z]; exact Or.inr ⟨_, ov7⟩
    · rcases hco q' hq' with y | ⟨o, ho⟩
      · exact Or.inl ((f58 q' z).trans y)
      · exact Or.inr ⟨o, ho.moved t67 (f57 q' z) (f58 q' z)⟩
/-- the reference looks for the ring of an order -/
theorem mt_og {n H L q : Nat} {o : Option (Nat × Nat × Nat × Nat)} {M W : zMem} {Q : Int32 → zMem → Prop} (vt : sp_vt M 1 n H L) (r : rt0 W M n H L) (hq : q < so_f H) (h : og M n H L q o)
    (hQ : ∀ W', mfy W W' → W' 0 33 = W 0 33 → W' 0 34 = W 0 34 → W' 0 31 = nI (ro_c o) → W' 0 32 = nI (ro_t o) → Q (if o = none then 0 else 1) W') : wp_Model_layOrder (nI q) W (fun W1 => wp_Model_hasRing W1 Q) := by
  obtain ⟨⟨n1, n8, H1, H5, L1, L6⟩, hn, hH, -⟩ := id vt
  have hf := so_f_le H (by omega)
  obtain ⟨M0, Mc, hc, ok, g6, g7, g8, g9, g10, rfl, rk⟩ := h
  refine mt_layOrder vt r hq (fun W1 ml => ?_)
  obtain ⟨a18, a19, ah, a0, ak⟩ := id ml
  have k4 : W1 4 = W 4 := ak 4 (by omega) (by omega) (by omega)
  have wl : ∀ i, i < H → so_wh H q i < H := fun i hi => (so_ok H (by omega) q (by omega) hq i (by omega) hi).2.2.2.2
  have rt : mr_t W1 Mc 6 n H L := by
    refine ⟨by rw [k4]; exact r.1, a18, by rw [k4, g6 2 (by omega)]; exact r.2.2.1, by rw [k4, g6 3 (by omega)]; exact r.2.2.2.1, by rw [g6 4 (by omega)]; exact a19, by rw [k4, g6 5 (by omega)]; exact r.2.2.2.2.2.1, by rw [k4]; exact r.2.2.2.2.2.2.1, fun i hi => ?_, fun s p hs hp => ?_, fun h hh => ?_⟩
    · rw [k4]; exact (r.2.2.2.2.2.2.2.1 i hi).trans (g7 i (by omega)).symm
    · rw [k4]; exact (r.2.2.2.2.2.2.2.2.1 s p hs hp).trans (g8 _ (by omega)).symm
    · exact ((ah h hh).2).trans (g10 h (by omega)).symm
  have rw0 : mw0 W1 Mc 6 n H (so_wh H q) := ⟨fun h hh => ⟨by have := wl h hh; omega, (ah h hh).1⟩, fun h j hh hj e => so_inj H (by omega) q (by omega) hq h (by omega) j (by omega) hh hj e, fun h p hh hp => by rw [k4]; exact (r.2.2.2.2.2.2.2.2.2.1 _ p (wl h hh) hp).trans (g9 h p hh (by omega)).symm⟩
  exact mt_hasRing hc ok rt rw0 (fun z => absurd z (by omega)) (fun W' _ fx _ _ e31 e32 => hQ W' (ml.y.tr fx.y) (by rw [fx.2.2 33 (by omega), a0 33 (by omega) (by omega)]) (by rw [fx.2.2 34 (by omega), a0 34 (by omega) (by omega)]) e31 e32)
/-- what may change in the class when orders are asked for -/
def ofr (M M' : zMem) : Prop := ∀ k, (k < 6 ∨ (11 ≤ k ∧ k < 41) ∨ k = 54 ∨ k = 56 ∨ 60 ≤ k) → M' k = M k
theorem p_order {n H L : Nat} {M W : zMem} {a1 a2 : Int32} {P : zMem → zMem → Prop} (vt : sp_vt M 1 n H L) (r : rt0 W M n H L) (hco : co M n H L)
    (hP : ∀ M' W', ofr M M' → mfy W W' → co M' n H L → P M' W') : wp_Main_order a1 a2 M (fun x M' => wp_Model_order a1 a2 W (fun y W' => x = y ∧ P M' W')) := by
  obtain ⟨⟨n1, n8, H1, H5, L1, L6⟩, hn, hH, -⟩ := id vt
  have hf := so_f_le H (by omega)
  have w1 : W 4 1 = nI H := r.2.1
  have p0 := hP M W (fun _ _ => rfl) mfy.rf hco
  refine xt_isOrder hH H1 H5 (fun q hq eq => ⟨fun z => absurd z (by decide), fun _ => ?_⟩) (fun nh => ⟨fun _ => mt_isOrder w1 H1 H5 (fun h h1 h2 => absurd ⟨h, h1, h2⟩ nh) (fun _ => ⟨fun _ => ⟨rfl, p0⟩, fun z => absurd rfl z⟩), fun z => absurd rfl z⟩)
  subst eq
  refine xt_half (fun ca => ⟨fun _ => ?_, fun z => absurd z (by decide)⟩) (fun ca => ⟨fun z => absurd rfl z, fun _ => mt_isOrder w1 H1 H5 (fun h h1 h2 => ⟨fun z => absurd z (by decide), fun _ => mt_in (lo' := 0) (hi' := 1) (by decide) (by decide) (fun c1 c2 => absurd (half_in.mp ⟨c1, c2⟩) ca) (fun _ => ⟨fun z => absurd rfl z, fun _ => ⟨rfl, p0⟩⟩)⟩) (fun z => absurd ⟨q, hq, rfl⟩ z)⟩)
  refine xt_findOrder vt hco hq (fun M' o ho hco' _ fr => ?_)
  have fin : ∀ x : Int32, x = nI (if a2 = 0 then ro_top o else ro_bot o) → wp_Model_order (nI q) a2 W (fun y W' => x = y ∧ P M' W') := fun x hx => by
    refine mt_isOrder w1 H1 H5 (fun h h1 h2 => ⟨fun z => absurd z (by decide), fun _ => mt_in (lo' := 0) (hi' := 1) (by decide) (by decide) (fun c1 c2 => ⟨fun _ => ?_, fun z => absurd z (by decide)⟩) (fun z => absurd (half_in.mpr ca) z)⟩) (fun z => absurd ⟨q, hq, rfl⟩ z)
    refine mt_og vt r hq (ho.1.moved (fun i hi => (fr _ (by omega)).symm)) (fun W' fy _ _ e31 e32 => ?_)
    obtain ⟨-, -, -, -, -, -, -, -, -, -, rk⟩ := ho.1
    exact mt_made rk e31 e32 ⟨hx, hP M' W' fr fy hco'⟩
  rw [q_ix (by omega), ho.2.1, ho.2.2]
  refine ⟨fun z => ⟨vp_in_nI (by omega) (by omega), fin _ (by rw [if_neg z])⟩, fun z => ⟨vp_in_nI (by omega) (by omega), fin _ (by rw [if_pos z])⟩⟩
