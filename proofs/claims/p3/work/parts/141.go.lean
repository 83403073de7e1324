noncomputable def sp_gd (H l : Nat) (M : zMem) : Nat := if ix (sp_least (M 20) H 0 0) ≤ l then ix (sp_least (M 20) H 0 0) else l
/-- the bench after l ticks -/
noncomputable def sp_go (H : Nat) : Nat → Nat → zMem → zMem
  | 0, _, M => M
  | f + 1, l, M => if l = 0 then M else sp_go H f (l - sp_gd H l M) (sp_all 1 18 H (sp_pass 18 H (nI (sp_gd H l M)) M))
theorem sp_go_0 (H f : Nat) (M : zMem) : sp_go H f 0 M = M := by cases f <;> simp [sp_go]
theorem sp_gd_ok {n H L l : Nat} {M : zMem} (bs : bst M n H L) (hl : 0 < l) (hl2 : l < 2147483648) : ∃ j, 0 < j ∧ j < 2147483648 ∧ sp_least (M 20) H 0 0 = nI j ∧ (sp_gd H l M = if j ≤ l then j else l) ∧ 0 < sp_gd H l M ∧ sp_gd H l M ≤ l ∧ sp_can_pass M 18 H (nI (sp_gd H l M)) := by
  have h0 : 0 < sp_least (M 20) H 0 0 := sp_nstuck bs.1 bs.2
  obtain ⟨c1, c2, c3⟩ := sp_can_least bs.1 bs.2
  obtain ⟨j, hj, ej⟩ := nI_of (x := sp_least (M 20) H 0 0) (fun q => absurd (Int32.lt_trans h0 q) (Int32.lt_irrefl))
  have hj0 : 0 < j := by rw [ej] at h0; exact (nI_0lt (by omega)).mp h0
  have eg : sp_gd H l M = if j ≤ l then j else l := by unfold sp_gd; rw [ej, q_ix (by omega)]
  have g1 : 0 < sp_gd H l M := by rw [eg]; split <;> omega
  have g2 : sp_gd H l M ≤ l := by rw [eg]; split <;> omega
  have g3 : sp_gd H l M ≤ j := by rw [eg]; split <;> omega
  refine ⟨j, hj0, by omega, ej, eg, g1, g2, (nI_0lt (by omega)).mpr g1, c2, fun h hh hp => ?_⟩
  have c3' : nI j ≤ M (18 + 2) h := by rw [← ej]; exact c3 h hh hp
  exact Int32.le_trans ((nI_leI (by omega) (by omega)).mpr g3) c3'
theorem bst_step {n H L : Nat} {d : Int32} {M : zMem} (bs : bst M n H L) (hc : sp_can_pass M 18 H d) : bst (sp_all 1 18 H (sp_pass 18 H d M)) n H L ∧ (∀ k, (k < 18 ∨ 27 ≤ k) → sp_all 1 18 H (sp_pass 18 H d M) k = M k) ∧ sp_all 1 18 H (sp_pass 18 H d M) 18 0 = M 18 0 := by
  have ok1 := sp_pass_ok bs.1 hc
  obtain ⟨ok2, fr2, hs2⟩ := sp_all_ok ok1
  obtain ⟨f1, f2, f3, f4, f5⟩ := sp_pass_fr (b := 18) (H := H) (d := d) (M := M)
  exact ⟨⟨ok2, hs2⟩, fun k hk => by rw [fr2.1 k (by omega) (fun q => absurd q (by omega))]; exact f5 k (by omega), by rw [fr2.2]; exact f1.2⟩
theorem sp_go_ok {n H L : Nat} : ∀ f l M, l ≤ f → l < 2147483648 → bst M n H L → bst (sp_go H f l M) n H L ∧ (∀ k, (k < 18 ∨ 27 ≤ k) → sp_go H f l M k = M k) ∧ sp_go H f l M 18 0 = M 18 0 := by
  intro f
  induction f with
  | zero => intro l M _ _ bs; exact ⟨bs, fun _ _ => rfl, rfl⟩
  | succ f ih =>
    intro l M hf hl bs
    unfold sp_go
    split
    · exact ⟨bs, fun _ _ => rfl, rfl⟩
    · rename_i c
      obtain ⟨j, -, -, -, -, g1, g2, g3⟩ := sp_gd_ok bs (by omega) hl
      obtain ⟨s1, s2, s3⟩ := bst_step bs g3
      obtain ⟨t1, t2, t3⟩ := ih (l - sp_gd H l M) _ (by omega) (by omega) s1
      exact ⟨t1, fun k hk => (t2 k hk).trans (s2 k hk), t3.trans s3⟩
theorem xt_go {n H L a : Nat} {M : zMem} {Q : Int32 → zMem → Prop} (bs : bst M n H L) (h1 : 1 ≤ a) (h2 : a ≤ 9999) (hQ : Q (sp_go H a a M 18 3 - M 18 3) (sp_go H a a M)) : wp_Main_go (nI a) M Q := by
  refine ⟨fun c => absurd ((nI_ltI (b := 1) (by omega) (by omega)).mp c) (by omega), fun _ => ⟨fun _ x ex => ?_, fun c => absurd ((nI_leI (b := 9999) (by omega) (by omega)).mpr h2) c⟩⟩
  refine zlp2_r (fun m x3 x4 M' => ∃ l c, x3 = nI l ∧ x4 = nI c ∧ l ≤ m ∧ c + l ≤ a ∧ bst M' n H L ∧ sp_go H m l M' = sp_go H a a M) ?_ (n := a) ⟨a, 0, rfl, rfl, Nat.le_refl _, by omega, bs, rfl⟩
  rintro m x3 x4 M' ⟨l, c, rfl, rfl, hl, hcl, bs', er⟩ J hJ
  have fin : l = 0 → Q (M' 18 3 - x) M' := fun z => by
    rw [z, sp_go_0] at er
    rw [ex, er]
    exact hQ
  refine ⟨fun d => fin ?_, fun d => ⟨fun d2 => fin ?_, fun d2 => ?_⟩⟩
  · have := (nI_leI (by omega) (by omega)).mp d
    omega
  · have := (nI_leI (b := 0) (by omega) (by omega)).mp d2
    omega
  · have hl0 : 0 < l := (nI_0lt (by omega)).mp (Int32.not_le.mp d2)
    obtain ⟨j, j0, j1, ej, eg, g1, g2, g3⟩ := sp_gd_ok bs' hl0 (by omega)
    obtain ⟨s1, s2, s3⟩ := bst_step bs' g3
    obtain ⟨m', rfl⟩ : ∃ m', m = m' + 1 := ⟨m - 1, by omega⟩
    have stp : wpJ_Main_go_63 (nI a) J Q x (nI l) (nI c) (nI (sp_gd H l M')) M' := by
      refine xt_pass bs'.1 g3 (xt_doAll (sp_pass_ok bs'.1 g3) ?_)
      intro y ey v ev
      rw [ey, ev, q_sub g2, nI_1]
      refine hJ m' _ _ _ (by omega) ⟨l - sp_gd H l M', c + 1, rfl, rfl, by omega, by omega, s1, ?_⟩
      rw [← er]
      show _ = sp_go H (m' + 1) l M'
      rw [sp_go, if_neg (by omega)]
    refine xt_least bs'.1 ⟨fun q => ?_, fun q => ⟨fun q2 => ?_, fun q2 => ?_⟩⟩
    · have e2 : sp_least (M' (18 + 2)) H 0 0 = nI j := ej
      rw [e2] at q
      have := (nI_eq (b := 0) (by omega) (by omega)).mp q
      omega
    · have e2 : sp_least (M' (18 + 2)) H 0 0 = nI j := ej
      rw [e2] at q2 ⊢
      have hle := (nI_leI (by omega) (by omega)).mp q2
      rw [eg, if_pos hle] at stp
      exact stp
    · have e2 : sp_least (M' (18 + 2)) H 0 0 = nI j := ej
      rw [e2] at q2
      have hle : ¬ j ≤ l := fun z => q2 ((nI_leI (by omega) (by omega)).mpr z)
      rw [eg, if_neg hle] at stp
      exact stp
theorem mfp.a {W W' : zMem} (h : mfp 0 W W') : awf W W' := ⟨fun k _ b _ _ => by
  by_cases z : k = 11
  · rw [z]; exact h.2.2.1 (by omega)
  · exact h.1 k b z, fun j _ _ _ => by rw [h.1 0 (by omega) (by omega)], fun j hj => h.2.1 j (by omega)⟩
theorem mw_go {n H L a : Nat} {M W : zMem} {Q : Int32 → zMem → Prop} (vt : sp_vt M 1 n H L) (r : rt0 W M n H L) (st : pst W M n H L) (bs : bst M n H L) (h1 : 1 ≤ a) (h2 : a ≤ 9999) (hQ : ∀ W', W' 0 24 = 1 → pr W' (sp_go H a a M) n H → awf W W' → Q (sp_go H a a M 18 3 - M 18 3) W') : wp_Model_go (nI a) W Q := by
  have H5 : H ≤ 5 := vt.1.2.2.2.1
  refine mt_in (lo' := 1) (hi' := 9999) rfl rfl (fun _ _ => ⟨fun _ => ?_, fun q => absurd q (by decide)⟩) (fun q => absurd ⟨(nI_leI (a := 1) (by omega) (by omega)).mpr h1, (nI_leI (b := 9999) (by omega) (by omega)).mpr h2⟩ q)
  refine mt_awake vt r st (fun W1 h24 hp f1 => ?_)
  have r1 : rt0 W1 M n H L := r.moved (f1.1 4 (by omega) (by omega) (by omega) (by omega)) (fun _ _ => rfl)
  refine mt_asNumbered vt r1 (fun W2 m2 => ?_)
  have n8 : n ≤ 8 := vt.1.2.1
  have x6 : W2 6 = W1 6 := m2.2.2.2.2 6 (by omega) (by omega) (by omega)
  have p2 : pr W2 M n H := hp.moved H5 n8 (fun j _ => by rw [x6])
  have r2 : rt0 W2 M n H L := r1.moved (m2.2.2.2.2 4 (by omega) (by omega) (by omega)) (fun _ _ => rfl)
  have mr2 : mr W2 M 0 1 18 n H L (fun h => h) := p2.mr H5 r2 m2.1 m2.2.1 m2.2.2.1
  have h24b : W2 0 24 = 1 := by rw [m2.2.2.2.1 24 (by omega) (by omega)]; exact h24
  show wp_Model_of 0 (nI 1) W2 _
  refine mw_of (by omega) ?_
  have ed : W2 6 1 = M 18 3 := p2.1.2.1
  rw [ed]
  refine zlp1_r (fun m x W' => ∃ l M', x = nI l ∧ l ≤ a ∧ l ≤ m ∧ bst M' n H L ∧ sp_go H m l M' = sp_go H a a M ∧ mr W' M' 0 1 18 n H L (fun h => h) ∧ W' 6 3 = 0 ∧ (∀ h, H ≤ h → h < 5 → W' 6 (8 + 8 * h + 2) = 0) ∧ W' 0 24 = 1 ∧ W' 0 18 = nI H ∧ awf W2 W') ?_ (n := a) ⟨a, M, rfl, Nat.le_refl _, Nat.le_refl _, bs, rfl, mr2, p2.2.2.2.2.1, p2.2.2.2.2.2, h24b, m2.1, awf.rf⟩
  rintro m x W' ⟨l, M', rfl, hla, hl, bs', er, mr', z3, zu, w24, w18, fw⟩ J hJ
  refine ⟨fun d => ?_, fun d => ?_⟩
  · have hl0 := (nI_leI (b := 0) (by omega) (by omega)).mp d
    have z : l = 0 := by omega
    rw [z, sp_go_0] at er
    show wp_Model_of 0 (nI 1) W' _
    refine mw_of (by omega) ?_
    have pp := mr'.pr z3 zu
    rw [pp.1.2.1, er]
    exact hQ W' w24 (by rw [← er]; exact pp) (f1.tr (m2.a.tr fw))
  · have hl0 : 0 < l := (nI_0lt (by omega)).mp (Int32.not_le.mp d)
    obtain ⟨j, j0, j1, ej, eg, g1, g2, g3⟩ := sp_gd_ok bs' hl0 (by omega)
    obtain ⟨s1, s2, s3⟩ := bst_step bs' g3
    obtain ⟨m', rfl⟩ : ∃ m', m = m' + 1 := ⟨m - 1, by omega⟩
    have stp : wpJ_Model_go_59 (nI a) J Q (M 18 3) (nI l) (nI (sp_gd H l M')) W' := by
      show wp_Model_pass (nI 0) _ W' _
      refine mt_pass bs'.1 mr' (fun q => absurd q (by omega)) g3 (fun W3 r3 _ f3 => ?_)
      show wp_Model_settle (nI 0) W3 _
      refine mt_settle (C := 40) (by omega) (sp_pass_ok bs'.1 g3) r3 (fun q => absurd q (by omega)) (fun W4 r4 f4 _ z4 => ?_)
      intro y ey
      rw [ey, q_sub g2]
      have k0 : ∀ j, W4 0 j = W' 0 j := fun j => by rw [f4.1 0 (by omega) (by omega), f3.1 0 (by omega) (by omega)]
      refine hJ m' _ _ (by omega) ⟨l - sp_gd H l M', _, rfl, by omega, by omega, s1, ?_, r4, z4, fun h a1 a2 => ?_, by rw [k0]; exact w24, by rw [k0]; exact w18, fw.tr (f3.a.tr f4.a)⟩
      · rw [← er]
        show _ = sp_go H (m' + 1) l M'
        rw [sp_go, if_neg (by omega)]
      · have e1 := f4.2.2.2 H h (by rw [f3.1 0 (by omega) (by omega)]; exact w18) a1 a2
        have e2 := f3.2.2.2 h a2
        rw [show 96 * 0 + 8 + 8 * h + 2 = 8 + 8 * h + 2 by omega] at e1 e2
        rw [e1, e2]
        exact zu h a1 a2
    show wp_Model_least (nI 0) W' _
    refine mt_least bs'.1 mr' ⟨fun q => ?_, fun q => ⟨fun q2 => ?_, fun q2 => ?_⟩⟩
    · have e2 : sp_least (M' (18 + 2)) H 0 0 = nI j := ej
      rw [e2] at q
      have := (nI_eq (b := 0) (by omega) (by omega)).mp q
      omega
    · have e2 : sp_least (M' (18 + 2)) H 0 0 = nI j := ej
      rw [e2] at q2 ⊢
      have hle := (nI_leI (by omega) (by omega)).mp q2
      rw [eg, if_pos hle] at stp
      exact stp
    · have e2 : sp_least (M' (18 + 2)) H 0 0 = nI j := ej
      rw [e2] at q2
      have hle : ¬ j ≤ l := fun z => q2 ((nI_leI (by omega) (by omega)).mpr z)
      rw [eg, if_neg hle] at stp
      exact stp
theorem p_go {n H L : Nat} {M W : zMem} {a : Int32} {P : zMem → zMem → Prop} (vt : sp_vt M 1 n H L) (r : rt0 W M n H L) (st : pst W M n H L) (bs : bst M n H L) (hP0 : P M W)
    (hP : ∀ M' W', bst M' n H L → W' 0 24 = 1 → pr W' M' n H → M' 18 0 = M 18 0 → (∀ k, (k < 18 ∨ 27 ≤ k) → M' k = M k) → awf W W' → P M' W') : wp_Main_go a M (fun x M' => wp_Model_go a W (fun y W' => x = y ∧ P M' W')) := by
  by_cases c : 1 ≤ a ∧ a ≤ 9999
  · obtain ⟨j, hj, rfl⟩ := nI_of2 (x := a) (M := 9999) (n := 9999) rfl (fun q => absurd (Int32.lt_of_lt_of_le q (by decide : (0 : Int32) ≤ 1)) (Int32.not_lt.mpr c.1)) c.2
    have j1 := (nI_leI (a := 1) (by omega) (by omega)).mp c.1
    obtain ⟨t1, t2, t3⟩ := sp_go_ok (n := n) (H := H) (L := L) j j M (Nat.le_refl _) (by omega) bs
    exact xt_go bs j1 hj (mw_go vt r st bs j1 hj (fun W' h24 hp f => ⟨rfl, hP _ W' t1 h24 hp t3 t2 f⟩))
  · have no : wp_Model_go a W (fun y W' => -1 = y ∧ P M W') := mt_in (lo' := 1) (hi' := 9999) rfl rfl (fun x y => absurd ⟨x, y⟩ c) (fun _ => ⟨fun q => absurd rfl q, fun _ => ⟨rfl, hP0⟩⟩)
    exact ⟨fun _ => no, fun d => ⟨fun d2 => absurd ⟨Int32.not_lt.mp d, d2⟩ c, fun _ => no⟩⟩
