/-- what is carried through a tick: coats done, handings over, how far it is, where hands stood -/
def sp_car (M M' : zMem) (b H C D : Nat) : Prop := (sp_db M b H D → sp_db M' b H D ∧ sp_P M b H ≤ sp_P M' b H) ∧ (sp_ob M b H C → sp_ob M' b H C) ∧ M' (b + 8) = M (b + 8) ∧ M' (b + 6) = M (b + 6) ∧ M' b 2 = M b 2
theorem sp_car.rf {M : zMem} {b H C D : Nat} : sp_car M M b H C D := ⟨fun h => ⟨h, Nat.le_refl _⟩, fun h => h, rfl, rfl, rfl⟩
theorem sp_car.tr {M M1 M2 : zMem} {b H C D : Nat} (h1 : sp_car M M1 b H C D) (h2 : sp_car M1 M2 b H C D) : sp_car M M2 b H C D :=
  ⟨fun h => ⟨(h2.1 (h1.1 h).1).1, Nat.le_trans (h1.1 h).2 (h2.1 (h1.1 h).1).2⟩, fun h => h2.2.1 (h1.2.1 h), h2.2.2.1.trans h1.2.2.1, h2.2.2.2.1.trans h1.2.2.2.1, h2.2.2.2.2.trans h1.2.2.2.2⟩
theorem sp_hand_car {t b n H L h C D : Nat} {M M' : zMem} (hD : D < 2147483000) (ok : sp_ok M t b n H L) (hh : h < H) (e : sp_hand t b h M = some M') : sp_car M M' b H C D := by
  refine ⟨fun hd => sp_P_hand hD ok hh e hd, fun ho => sp_hand_o ok hh e ho, ?_⟩
  have gb : ∀ (f : Int32) (j : Nat) (X : zMem), sp_goBack t b j f X (b + 8) = X (b + 8) ∧ sp_goBack t b j f X (b + 6) = X (b + 6) := fun f j X => by
    unfold sp_goBack
    simp (disch := omega) only [zup_ne, and_self]
  have hb18 := ok.2.2.1
  unfold sp_hand at e
  split at e
  · split at e
    · cases e
      unfold sp_finish
      dsimp only
      split
      · simp (disch := omega) only [zup_ne, and_self]
      · split
        · simp (disch := omega) only [zup_ne, and_self]
        · rw [(gb _ _ _).1, (gb _ _ _).2, sp_goBack_b]
          simp (disch := omega) only [zup_ne, zup_eq, upd_ne, and_self]
    · split at e
      · split at e
        · cases e
          unfold sp_new
          simp (disch := omega) only [zup_ne, zup_eq, upd_ne, and_self]
        · split at e
          · cases e
            unfold sp_take
            rcases zlg_cases b with c | ⟨c, hb32⟩
            · rw [c]
              dsimp only
              rw [(gb _ _ _).1, (gb _ _ _).2, sp_goBack_b]
              simp (disch := omega) only [zup_ne, zup_eq, upd_ne, and_self]
            · rw [c]
              dsimp only
              rw [(gb _ _ _).1, (gb _ _ _).2, sp_goBack_b, e_note_ne (by omega) (by omega), e_note_ne (by omega) (by omega), e_note_ne (by omega) (by omega)]
              simp (disch := omega) only [zup_ne, zup_eq, upd_ne, and_self]
          · cases e
      · split at e
        · split at e
          · cases e
            unfold sp_start
            simp (disch := omega) only [zup_ne, and_self]
          · cases e
        · cases e
  · cases e
theorem sp_rd_car {t b n H L C D : Nat} (hD : D < 2147483000) : ∀ h (s : Bool) (M : zMem), h ≤ H → sp_ok M t b n H L → sp_car M (sp_rd t b h s M).2 b H C D := by
  intro h
  induction h with
  | zero => intro s M _ _; exact sp_car.rf
  | succ h ih =>
    intro s M hh ok
    unfold sp_rd
    cases e : sp_hand t b h M with
    | none => exact ih s M (by omega) ok
    | some M' => exact (sp_hand_car hD ok (by omega) e).tr (ih true M' (by omega) (sp_step ok (by omega) e).1)
theorem sp_rounds_car {t b n H L C D : Nat} (hD : D < 2147483000) : ∀ f (M : zMem), sp_ok M t b n H L → sp_car M (sp_rounds t b H f M) b H C D := by
  intro f
  induction f with
  | zero => intro M _; exact sp_car.rf
  | succ f ih =>
    intro M ok
    unfold sp_rounds
    have h1 := sp_rd_car (C := C) hD H false M (Nat.le_refl _) ok
    split
    · exact h1.tr (ih _ (sp_rd_ok H false M (Nat.le_refl _) ok).1)
    · exact h1
theorem sp_all_car {t b n H L C D : Nat} {M : zMem} (hD : D < 2147483000) (ok : sp_ok M t b n H L) : sp_car M (sp_all t b H M) b H C D := sp_rounds_car hD _ M ok
/-- the least is somebody's -/
theorem sp_least_in (f : Nat → Int32) : ∀ m h c, sp_least f m h c = c ∨ ∃ j, h ≤ j ∧ j < h + m ∧ sp_least f m h c = f j := by
  intro m
  induction m with
  | zero => intro h c; exact Or.inl rfl
  | succ m ih =>
    intro h c
    unfold sp_least
    split
    · rcases ih (h + 1) (f h) with e | ⟨j, j1, j2, e⟩
      · exact Or.inr ⟨h, by omega, by omega, e⟩
      · exact Or.inr ⟨j, by omega, by omega, e⟩
    · rcases ih (h + 1) c with e | ⟨j, j1, j2, e⟩
      · exact Or.inl e
      · exact Or.inr ⟨j, by omega, by omega, e⟩
theorem sp_f_pass1 {t b n h : Nat} {d : Int32} {M : zMem} (hh : sp_hd M t b n h) (n8 : n ≤ 8) (hst : M (b + 1) h = 3 → 0 < M (b + 2) h) : sp_f M b h ≤ sp_f (sp_pass1 b h d M) b h ∧ (0 < M (b + 2) h → M (b + 2) h = d → sp_f M b h < sp_f (sp_pass1 b h d M) b h) := by
  have f3 := (sp_pass1_fr (b := b) (h := h) (d := d) (M := M)).2.2.1 3 h (by omega) (by omega) (by omega)
  have f4 := (sp_pass1_fr (b := b) (h := h) (d := d) (M := M)).2.2.1 4 h (by omega) (by omega) (by omega)
  rcases hh with ⟨a1, a2, a3⟩ | ⟨a1, a2, a3⟩ | ⟨p, u, s, U, a1, a2, a3, a4, a5, a6, a7, a8, a9, a10⟩
  · have e : sp_pass1 b h d M (b + 1) h = 0 := by
      unfold sp_pass1
      rw [a1, a2, if_neg (by decide), if_neg (by decide)]
      simp (disch := omega) only [zup_ne]
      exact a1
    rw [sp_f_no a3, sp_f_no (by rw [f3]; exact a3), a1, e]
    exact ⟨Nat.le_refl _, fun q => by rw [a2] at q; exact absurd q (by decide)⟩
  · rw [sp_f_no a3, sp_f_no (by rw [f3]; exact a3), a1, if_neg (by decide)]
    refine ⟨Nat.zero_le _, fun _ q => ?_⟩
    have e : sp_pass1 b h d M (b + 1) h = 0 := by
      unfold sp_pass1
      rw [if_pos a2, if_pos ⟨by rw [q]; exact Int32.sub_self d, a1⟩]
      simp (disch := omega) only [zup_eq, upd_eq]
    rw [e, if_pos rfl]
    omega
  · rw [sp_f_coat a5 (by omega) a6 (by omega), sp_f_coat (by rw [f3]; exact a5) (by omega) (by rw [f4]; exact a6) (by omega)]
    rcases a9 with ⟨a9, a11⟩ | ⟨a9, a11⟩
    · rw [a9, if_neg (fun q => absurd q.1 (by decide))]
      exact ⟨by omega, fun q => by rw [a11] at q; exact absurd q (by decide)⟩
    · have hp := hst a9
      have hz : ¬ M (b + 2) h = 0 := fun q => by rw [q] at hp; exact absurd hp (by decide)
      rw [if_neg (fun q => hz q.2)]
      refine ⟨by omega, fun _ q => ?_⟩
      have e : sp_pass1 b h d M = zup M (b + 2) h (M (b + 2) h - d) := by
        unfold sp_pass1
        rw [if_pos hp, if_neg (fun q => by rw [a9] at q; exact absurd q.2 (by decide))]
      have e1 : sp_pass1 b h d M (b + 1) h = 3 := by rw [e]; simp (disch := omega) only [zup_ne]; exact a9
      have e2 : sp_pass1 b h d M (b + 2) h = 0 := by rw [e]; simp (disch := omega) only [zup_eq, upd_eq]; rw [q]; exact Int32.sub_self d
      rw [if_pos ⟨e1, e2⟩]
      omega
theorem sp_passes_f {t b n H : Nat} {d : Int32} (hb : t + 4 < b) (n8 : n ≤ 8) : ∀ m h (M : zMem), h + m = H → (∀ j, h ≤ j → j < H → sp_hd M t b n j ∧ (M (b + 1) j = 3 → 0 < M (b + 2) j)) → ∀ j, j < H → sp_f M b j ≤ sp_f (sp_passes b d m h M) b j ∧ (h ≤ j → 0 < M (b + 2) j → M (b + 2) j = d → sp_f M b j < sp_f (sp_passes b d m h M) b j) := by
  intro m
  induction m with
  | zero => intro h M hm _ j hj; exact ⟨Nat.le_refl _, fun q => absurd q (by omega)⟩
  | succ m ih =>
    intro h M hm hhd j hj
    unfold sp_passes
    obtain ⟨g1, g2⟩ := hhd h (Nat.le_refl _) (by omega)
    obtain ⟨p1, p2⟩ := sp_f_pass1 (d := d) g1 n8 g2
    have nx := ih (h + 1) (sp_pass1 b h d M) (by omega) (fun i i1 i2 => ⟨sp_hd_pass1_ne hb (by omega) (hhd i (by omega) i2).1, by
      have e1 := (sp_pass1_fr (b := b) (h := h) (d := d) (M := M)).2.2.1 1 i (by omega) (by omega) (Or.inr (by omega))
      have e2 := (sp_pass1_fr (b := b) (h := h) (d := d) (M := M)).2.2.1 2 i (by omega) (by omega) (Or.inr (by omega))
      rw [e1, e2]
      exact (hhd i (by omega) i2).2⟩) j hj
    by_cases e : j = h
    · subst e
      exact ⟨Nat.le_trans p1 nx.1, fun _ q1 q2 => Nat.lt_of_lt_of_le (p2 q1 q2) nx.1⟩
    · have ef : sp_f (sp_pass1 b h d M) b j = sp_f M b j := sp_f_eq (fun i i1 i4 => sp_pass1_fr.2.2.1 i j i1 (by omega) (Or.inr e))
      have e2 := (sp_pass1_fr (b := b) (h := h) (d := d) (M := M)).2.2.1 2 j (by omega) (by omega) (Or.inr e)
      rw [ef, e2] at nx
      exact ⟨nx.1, fun q0 q1 q2 => nx.2 (by omega) q1 q2⟩
theorem sp_sum_lt {c c' : Nat → Nat} : ∀ H, (∀ j, j < H → c j ≤ c' j) → sp_sum c H ≤ sp_sum c' H ∧ ∀ h, h < H → c h < c' h → sp_sum c H < sp_sum c' H := by
  intro H
  induction H with
  | zero => intro _; exact ⟨Nat.le_refl _, fun h hh => absurd hh (by omega)⟩
  | succ H ih =>
    intro hle
    obtain ⟨i1, i2⟩ := ih (fun j hj => hle j (by omega))
    have := hle H (by omega)
    unfold sp_sum
    refine ⟨by omega, fun h hh hc => ?_⟩
    by_cases e : h = H
    · subst e; omega
    · have := i2 h (by omega) hc
      omega
/-- the least of what is left goes by: it comes nearer -/
theorem sp_P_pass {t b n H L : Nat} {M : zMem} (ok : sp_ok M t b n H L) (hs : ∀ j, j < H → sp_hand t b j M = none) : sp_P M b H < sp_P (sp_pass b H (sp_least (M (b + 2)) H 0 0) M) b H := by
  obtain ⟨ht, hd2, hb18, vt, hpl, hhd, hg⟩ := id ok
  have n8 : n ≤ 8 := vt.1.2.1
  have hb : t + 4 < b := by omega
  have hpos := sp_nstuck ok hs
  have hst := sp_st_of ok hs
  generalize hd : sp_least (M (b + 2)) H 0 0 = d at hpos
  have hex : ∃ j, j < H ∧ M (b + 2) j = d := by
    rcases sp_least_in (M (b + 2)) H 0 0 with e | ⟨j, j1, j2, e⟩
    · rw [hd] at e; rw [e] at hpos; exact absurd hpos (by decide)
    · exact ⟨j, by omega, by rw [← e]; exact hd⟩
  obtain ⟨j, j1, j2⟩ := hex
  unfold sp_P
  rw [sp_pass_fr.2.2.1 3 (by omega)]
  have z1 : ∀ i, 1 ≤ i → zup M b 2 (M b 2 + d) (b + i) = M (b + i) := fun i hi => by simp (disch := omega) only [zup_ne]
  have zt : ∀ i, i ≤ 4 → zup M b 2 (M b 2 + d) (t + i) = M (t + i) := fun i hi => by simp (disch := omega) only [zup_ne]
  have ef : ∀ i, sp_f (zup M b 2 (M b 2 + d)) b i = sp_f M b i := fun i => sp_f_eq (fun k k1 _ => by rw [z1 k k1])
  have key := sp_passes_f (d := d) hb n8 H 0 (zup M b 2 (M b 2 + d)) (by omega) (fun i _ i2 => ⟨(hhd i i2).moved zt (fun k k1 _ => by rw [z1 k k1]), by rw [z1 1 (by omega), z1 2 (by omega)]; exact hst i i2⟩)
  have := (sp_sum_lt (c := sp_f M b) (c' := sp_f (sp_pass b H d M) b) H (fun i hi => by have := (key i hi).1; rw [ef] at this; exact this)).2 j j1 (by
    have := (key j j1).2 (by omega) (by rw [z1 2 (by omega), j2]; exact hpos) (by rw [z1 2 (by omega)]; exact j2)
    rw [ef] at this
    exact this)
  omega
/-- one event: the least goes by, all is done that is to be done -/
noncomputable def sp_ev (t b H : Nat) (M : zMem) : zMem := sp_all t b H (sp_pass b H (sp_least (M (b + 2)) H 0 0) M)
noncomputable def sp_run (t b H : Nat) (m : Int32) : Nat → zMem → zMem
  | 0, M => M
  | f + 1, M => if M b 3 < m then sp_run t b H m f (sp_ev t b H M) else M
/-- a run is well -/
def sp_ri (M : zMem) (t b n H L : Nat) : Prop := sp_ok M t b n H L ∧ (∀ j, j < H → sp_hand t b j M = none) ∧ (∃ dn, dn ≤ 200 ∧ M b 3 = nI dn) ∧ sp_ob M b H (40 * (sp_P M b H + 1))
theorem sp_P_le {t b n H L dn : Nat} {M : zMem} (ok : sp_ok M t b n H L) (hd : M b 3 = nI dn) (hd2 : dn < 2147483648) : sp_P M b H ≤ 70 * dn + 330 := by
  have n8 : n ≤ 8 := ok.2.2.2.1.1.2.1
  have H5 : H ≤ 5 := ok.2.2.2.1.1.2.2.2.1
  have := sp_sum_bound (c := sp_f M b) (B := 66) H (fun j hj => sp_f_le (ok.2.2.2.2.2.1 j hj) n8 (by omega))
  unfold sp_P
  rw [hd, q_ix hd2]
  have : 66 * H ≤ 66 * 5 := Nat.mul_le_mul (Nat.le_refl _) H5
  omega
theorem sp_ob.mono {M : zMem} {b H C C' : Nat} (h : sp_ob M b H C) (hc : C ≤ C') : sp_ob M b H C' := by
  obtain ⟨o, o1, o2⟩ := h
  exact ⟨o, o1, by omega⟩
theorem sp_ev_ri {t b n H L dn : Nat} {M : zMem} (ri : sp_ri M t b n H L) (hd : M b 3 = nI dn) (hd2 : dn ≤ 160) : sp_ri (sp_ev t b H M) t b n H L ∧ sp_P M b H < sp_P (sp_ev t b H M) b H ∧ sp_fr b M (sp_ev t b H M) ∧ ∃ dn', dn' ≤ dn + 40 ∧ sp_ev t b H M b 3 = nI dn' := by
  obtain ⟨ok, hs, -, ob⟩ := ri
  have H5 : H ≤ 5 := ok.2.2.2.1.1.2.2.2.1
  have hc := sp_can_least ok hs
  have hP := sp_P_pass ok hs
  have ok1 := sp_pass_ok ok hc
  unfold sp_ev
  obtain ⟨f1, f2, f3, f4, f5⟩ := sp_pass_fr (b := b) (H := H) (d := sp_least (M (b + 2)) H 0 0) (M := M)
  generalize sp_pass b H (sp_least (M (b + 2)) H 0 0) M = M1 at hP ok1 f1 f2 f3 f4 f5
  obtain ⟨ok2, fr2, hs2⟩ := sp_all_ok ok1
  have hb1 := sp_c_bound (M := M1) (b := b) H H5
  have d1 : M1 b 3 = nI dn := by rw [f3 3 (by omega)]; exact hd
  have db1 : sp_db M1 b H (dn + 40) := ⟨dn, d1, by omega⟩
  obtain ⟨o, o1, o2⟩ := ob
  have ob1 : sp_ob M1 b H (40 * (sp_P M b H + 1) + 40) := ⟨o, by rw [f3 4 (by omega)]; exact o1, by omega⟩
  obtain ⟨c1, c2, c3, c4, c5⟩ := sp_all_car (C := 40 * (sp_P M b H + 1) + 40) (D := dn + 40) (by omega) ok1
  obtain ⟨db2, hP2⟩ := c1 db1
  obtain ⟨dn', e1, e2⟩ := db2
  have hlt : sp_P M b H < sp_P (sp_all t b H M1) b H := by omega
  refine ⟨⟨ok2, hs2, ⟨dn', by omega, e1⟩, (c2 ob1).mono (by omega)⟩, hlt, f1.tr fr2, dn', by omega, e1⟩
theorem sp_run_1 {t b H f : Nat} {m : Int32} {M : zMem} : sp_run t b H m (f + 1) M = if M b 3 < m then sp_run t b H m f (sp_ev t b H M) else M := rfl
/-- the state of a run's loop: f rounds are enough -/
def sp_rl (M : zMem) (t b n H L f : Nat) : Prop := sp_ri M t b n H L ∧ 12000 ≤ f + sp_P M b H
theorem sp_rl_step {t b n H L f m : Nat} {M : zMem} (rl : sp_rl M t b n H L f) (hm : m ≤ 120) (hlt : M b 3 < nI m) : ∃ g, f = g + 1 ∧ sp_rl (sp_ev t b H M) t b n H L g ∧ sp_run t b H (nI m) f M = sp_run t b H (nI m) g (sp_ev t b H M) ∧ sp_fr b M (sp_ev t b H M) := by
  obtain ⟨ri, hf⟩ := rl
  obtain ⟨dn, d1, d2⟩ := ri.2.2.1
  rw [d2] at hlt
  have hdm := (nI_ltI (a := dn) (b := m) (by omega) (by omega)).mp hlt
  have hP := sp_P_le ri.1 d2 (by omega)
  obtain ⟨g, rfl⟩ : ∃ g, f = g + 1 := ⟨f - 1, by omega⟩
  obtain ⟨r1, r2, r3, -⟩ := sp_ev_ri ri d2 (by omega)
  refine ⟨g, rfl, ⟨r1, by omega⟩, ?_, r3⟩
  rw [sp_run_1, if_pos (by rw [d2]; exact nI_lt hdm (by omega))]
theorem sp_run_end {t b H f m : Nat} {M : zMem} (h : ¬ M b 3 < nI m) : sp_run t b H (nI m) f M = M := by
  cases f with
  | zero => rfl
  | succ f => rw [sp_run_1, if_neg h]
/-- at the beginning -/
theorem sp_ri_0 {t b n H L : Nat} {M0 M : zMem} (hc : sp_clear b M0 M) (ok : sp_ok M t b n H L) : sp_ri (sp_all t b H M) t b n H L ∧ sp_fr b M (sp_all t b H M) ∧ sp_all t b H M (b + 7) = M (b + 7) := by
  obtain ⟨ok2, fr2, hs2⟩ := sp_all_ok ok
  have H5 : H ≤ 5 := ok.2.2.2.1.1.2.2.2.1
  have hb1 := sp_c_bound (M := M) (b := b) H H5
  obtain ⟨k2, k3, k4, k5, k0, k1, kh, kl, ks, kk⟩ := hc
  obtain ⟨c1, c2, c3, c4, c5⟩ := sp_all_car (C := 40) (D := 40) (by omega) ok
  obtain ⟨⟨dn', e1, e2⟩, hP2⟩ := c1 ⟨0, k3, by omega⟩
  refine ⟨⟨ok2, hs2, ⟨dn', by omega, e1⟩, (c2 ⟨0, k4, by omega⟩).mono (by omega)⟩, fr2, ?_⟩
  -- nothing is learnt: nobody has worked
  have st0 : sp_st M b H := fun h hh h3 => by
    rw [(kh h (by omega)).1] at h3
    exact absurd h3 (by decide)
  have step : ∀ h (X X' : zMem), sp_ok X t b n H L → h < H → sp_st X b H → sp_hand t b h X = some X' → sp_st X' b H ∧ X' (b + 7) = X (b + 7) := by
    intro h X X' okx hh stx e
    have okx' := (sp_step okx hh e).1
    have hb18 := okx.2.2.1
    unfold sp_hand at e
    split at e
    · rename_i hl
      split at e
      · rename_i h3
        have := stx h hh h3
        rw [hl] at this
        exact absurd this (by decide)
      · split at e
        · split at e
          · cases e
            refine ⟨fun j hj j3 => ?_, by unfold sp_new; simp (disch := omega) only [zup_ne]⟩
            unfold sp_new at j3 ⊢
            by_cases c : j = 0
            · subst c
              simp (disch := omega) only [zup_ne, zup_eq, upd_eq] at j3
              exact absurd j3 (by decide)
            · simp (disch := omega) only [zup_ne, zup_eq, upd_ne] at j3 ⊢
              exact stx j hj j3
          · split at e
            · rename_i h0 hc
              cases e
              have key : ∃ (X6 : zMem) (f : Int32), sp_take t b h X = sp_goBack t b (h - 1) f X6 ∧ X6 (b + 7) = X (b + 7) ∧ X6 (b + 1) h = 2 ∧ (∀ j, X6 (b + 2) j = X (b + 2) j) ∧ (∀ j, j ≠ h → X6 (b + 1) j = X (b + 1) j) := by
                unfold sp_take
                rcases zlg_cases b with c | ⟨c, hb32⟩
                · rw [c]
                  refine ⟨_, _, rfl, ?_, ?_, fun j => ?_, fun j hj => ?_⟩ <;> simp (disch := omega) only [zup_ne, zup_eq, upd_eq, upd_ne]
                · rw [c]
                  refine ⟨_, _, rfl, ?_, ?_, fun j => ?_, fun j hj => ?_⟩ <;> rw [e_note_ne (by omega) (by omega)] <;> simp (disch := omega) only [zup_ne, zup_eq, upd_eq, upd_ne]
              obtain ⟨X6, f, x1, x2, x3, x4, x5⟩ := key
              rw [x1]
              refine ⟨fun j hj j3 => ?_, by rw [← x2]; unfold sp_goBack; simp (disch := omega) only [zup_ne]⟩
              by_cases c : j = h - 1
              · subst c
                unfold sp_goBack at j3
                simp (disch := omega) only [zup_eq, upd_eq] at j3
                split at j3 <;> exact absurd j3 (by decide)
              · rw [sp_goBack_at (Or.inr (Or.inr c))] at j3 ⊢
                by_cases c2 : j = h
                · subst c2
                  rw [x3] at j3
                  exact absurd j3 (by decide)
                · rw [x5 j c2] at j3
                  rw [x4]
                  exact stx j hj j3
            · cases e
        · split at e
          · split at e
            · cases e
              refine ⟨fun j hj j3 => ?_, by unfold sp_start; simp (disch := omega) only [zup_ne]⟩
              by_cases c : j = h
              · subst c
                unfold sp_start
                simp (disch := omega) only [zup_eq, upd_eq]
                exact sp_ticks_pos _ _ _ _ _
              · rw [sp_start_ne c] at j3 ⊢
                exact stx j hj j3
            · cases e
          · cases e
    · cases e
  have rd : ∀ h (s : Bool) (X : zMem), h ≤ H → sp_ok X t b n H L → sp_st X b H → sp_st (sp_rd t b h s X).2 b H ∧ (sp_rd t b h s X).2 (b + 7) = X (b + 7) := by
    intro h
    induction h with
    | zero => intro s X _ _ stx; exact ⟨stx, rfl⟩
    | succ h ih =>
      intro s X hh okx stx
      unfold sp_rd
      cases e : sp_hand t b h X with
      | none => exact ih s X (by omega) okx stx
      | some X' =>
        obtain ⟨y1, y2⟩ := step h X X' okx (by omega) stx e
        obtain ⟨z1, z2⟩ := ih true X' (by omega) (sp_step okx (by omega) e).1 y1
        exact ⟨z1, z2.trans y2⟩
  have rds : ∀ f (X : zMem), sp_ok X t b n H L → sp_st X b H → sp_rounds t b H f X (b + 7) = X (b + 7) := by
    intro f
    induction f with
    | zero => intro X _ _; rfl
    | succ f ih =>
      intro X okx stx
      obtain ⟨y1, y2⟩ := rd H false X (Nat.le_refl _) okx stx
      unfold sp_rounds
      split
      · rw [ih _ (sp_rd_ok H false X (Nat.le_refl _) okx).1 y1, y2]
      · exact y2
  exact rds _ M ok st0
theorem sp_rl_0 {t b n H L : Nat} {M : zMem} (ri : sp_ri M t b n H L) : sp_rl M t b n H L 12000 := ⟨ri, by omega⟩
/-- the class's loop over events, whatever else it does with them -/
theorem xt_event {t b n H L : Nat} {M : zMem} {Q : zMem → Prop} (ri : sp_ri M t b n H L) (hQ : Q (sp_ev t b H M)) : wp_Bench_letPass b (sp_least (M (b + 2)) H 0 0) M (fun M1 => wp_Bench_doAll b M1 Q) := by
  have hc := sp_can_least ri.1 ri.2.1
  refine xt_pass ri.1 hc ?_
  exact xt_doAll (sp_pass_ok ri.1 hc) hQ
theorem xt_runFor {n H L m : Nat} {M : zMem} {Q : zMem → Prop} (vt : sp_vt M 1 n H L) (ht : ztc (M 32 0) = 1) (hm : m ≤ 120) (h0 : M 29 2 = nI m → Q M)
    (hQ : ¬ M 29 2 = nI m → ∀ Mc, sp_clear 32 (zup (zup (zup M 29 2 (nI m)) 29 3 0) 30 0 0) Mc → Q (sp_run 1 32 H (nI m) 12000 (sp_all 1 32 H Mc))) : wp_Course_runFor 29 (nI m) M Q := by
  unfold wp_Course_runFor
  refine ⟨fun c => ?_, h0⟩
  replace hQ := hQ c
  intro M1 e1 M2 e2 M3 e3
  have eM3 : M3 = zup (zup (zup M 29 2 (nI m)) 29 3 0) 30 0 0 := by rw [e3, e2, e1]
  rw [← eM3] at hQ
  have k3 : ∀ k, k ≠ 29 → k ≠ 30 → M3 k = M k := fun k a b => by rw [eM3]; simp (disch := omega) only [zup_ne]
  have vt3 : sp_vt M3 1 n H L := vt.moved (fun i hi => k3 _ (by omega) (by omega))
  have z30 : M3 30 0 = 0 := by rw [eM3]; simp (disch := omega) only [zup_eq, upd_eq]
  have z29 : M3 29 3 = 0 := by rw [eM3]; simp (disch := omega) only [zup_ne, zup_eq, upd_eq]
  show wp_Bench_clear 32 M3 _
  refine xt_clear (fun Mc hc => ?_)
  have ok : sp_ok Mc 1 32 n H L := sp_ok_clear hc (by rw [k3 32 (by omega) (by omega)]; exact ht) (by omega) (by omega) vt3 (fun g q => by
    rcases zlg_cases 32 with d | ⟨d, -⟩
    · cases d
    · rw [d] at q; cases q; exact ⟨0, z30, by omega⟩)
  replace hQ := hQ Mc hc
  show wp_Bench_doAll 32 Mc _
  refine xt_doAll ok ?_
  obtain ⟨ri, fr, -⟩ := sp_ri_0 hc ok
  have s29 : sp_all 1 32 H Mc 29 3 = 0 := by
    rw [fr.1 29 (by omega) (fun _ => by omega), hc.2.2.2.2.2.2.2.2.2 29 (by omega)]
    exact z29
  generalize sp_all 1 32 H Mc = M0 at ri hQ s29
  refine zlp1_r (fun f x M' => ∃ i, x = nI i ∧ i + f = 12000 ∧ sp_rl M' 1 32 n H L f ∧ M' 29 3 = 0 ∧ Q (sp_run 1 32 H (nI m) f M')) ?_ (n := 12000) ⟨0, rfl, by omega, sp_rl_0 ri, s29, hQ⟩
  rintro f x M' ⟨i, rfl, hi, rl, hs, hQ⟩ J hJ
  unfold wpB_Course_runFor_43
  have e1 : ¬ 1000000 ≤ nI i := by rw [Int32.not_le]; exact nI_lt (b := 1000000) (by omega) (by omega)
  refine ⟨fun q => absurd q e1, fun _ => ⟨fun q => ?_, fun q => ⟨fun c => absurd hs c, fun _ => ?_⟩⟩⟩
  · rw [sp_run_end (show ¬ M' 32 3 < nI m from Int32.not_lt.mpr q)] at hQ
    exact hQ
  · obtain ⟨g, rfl, rl2, er, fr2⟩ := sp_rl_step rl hm (show M' 32 3 < nI m from Int32.not_le.mp q)
    rw [er] at hQ
    show wp_Bench_leastLeft 32 M' _
    refine xt_least rl.1.1 ⟨fun _ => ?_, fun c => ?_⟩
    · show wp_Bench_letPass 32 (sp_least (M' (32 + 2)) H 0 0) M' (fun M1 => wp_Bench_doAll 32 M1 _)
      refine xt_event rl.1 (fun y hy => ?_)
      rw [hy, nI_1]
      refine hJ g _ _ (by omega) ⟨i + 1, rfl, by omega, rl2, ?_, hQ⟩
      rw [fr2.1 29 (by omega) (fun _ => by omega)]
      exact hs
    · have := sp_nstuck rl.1.1 rl.1.2.1
      rw [c] at this
      exact absurd this (by decide)
/-- what the reference may change in a run -/
def mfw (W W' : zMem) : Prop := (∀ k, k ≠ 0 → k ≠ 6 → k ≠ 10 → k ≠ 11 → k ≠ 12 → k ≠ 13 → k ≠ 14 → W' k = W k) ∧ (∀ j, (j < 96 ∨ 192 ≤ j) → W' 6 j = W 6 j) ∧ (∀ j, j ≠ 28 → j ≠ 29 → j ≠ 30 → W' 0 j = W 0 j)
theorem mfw.rf {W : zMem} : mfw W W := ⟨fun _ _ _ _ _ _ _ _ => rfl, fun _ _ => rfl, fun _ _ _ _ => rfl⟩
theorem mfw.tr {W W1 W2 : zMem} (h1 : mfw W W1) (h2 : mfw W1 W2) : mfw W W2 := ⟨fun k a b c d e f g => (h2.1 k a b c d e f g).trans (h1.1 k a b c d e f g), fun j a => (h2.2.1 j a).trans (h1.2.1 j a), fun j a b c => (h2.2.2 j a b c).trans (h1.2.2 j a b c)⟩
theorem mfr.w {W W' : zMem} (h : mfr 1 W W') : mfw W W' := ⟨fun k _ b c _ _ _ _ => h.1 k b c, fun j a => h.2.1 j (by omega), fun j _ _ _ => by rw [h.1 0 (by omega) (by omega)]⟩
theorem mfp.w {W W' : zMem} (h : mfp 1 W W') : mfw W W' := ⟨fun k _ b _ d _ _ _ => h.1 k b d, fun j a => h.2.1 j (by omega), fun j _ _ _ => by rw [h.1 0 (by omega) (by omega)]⟩
/-- an event, the reference's side -/
theorem mt_event {t b n H L : Nat} {wh : Nat → Nat} {M W : zMem} {Q : zMem → Prop} (ri : sp_ri M t b n H L) (hdn : ∃ dn, dn ≤ 160 ∧ M b 3 = nI dn) (r : mr W M 1 t b n H L wh) (rs : ms W M 1 b n)
    (hQ : ∀ W', mr W' (sp_ev t b H M) 1 t b n H L wh → ms W' (sp_ev t b H M) 1 b n → W' 6 99 = 0 → mfw W W' → (∀ k, k ≠ 6 → k ≠ 10 → k ≠ 11 → W' k = W k) → Q W') : wp_Model_least 1 W (fun d W1 => wp_Model_pass 1 d W1 (fun W2 => wp_Model_settle 1 W2 Q)) := by
  have hc := sp_can_least ri.1 ri.2.1
  have ok1 := sp_pass_ok ri.1 hc
  have H5 : H ≤ 5 := ri.1.2.2.2.1.1.2.2.2.1
  obtain ⟨dn, d1, d2⟩ := hdn
  have hP := sp_P_le ri.1 d2 (by omega)
  show wp_Model_least (nI 1) W _
  refine mt_least ri.1 r ?_
  show wp_Model_pass (nI 1) _ W _
  refine mt_pass ri.1 r rs hc (fun W2 r2 s2 f2 => ?_)
  show wp_Model_settle (nI 1) W2 _
  obtain ⟨f1, f2', f3, f4, f5⟩ := sp_pass_fr (b := b) (H := H) (d := sp_least (M (b + 2)) H 0 0) (M := M)
  have hb1 := sp_c_bound (M := sp_pass b H (sp_least (M (b + 2)) H 0 0) M) (b := b) H H5
  obtain ⟨o, o1, o2⟩ := ri.2.2.2
  refine mt_settle (C := 40 * (sp_P M b H + 1) + 40) (by omega) ok1 r2 (fun _ => ⟨o, by rw [f3 4 (by omega)]; exact o1, by omega⟩) (fun W3 r3 f3' o3 z3 => ?_)
  refine hQ W3 r3 (fun _ p hp => ?_) z3 (f2.w.tr f3'.w) (fun k k6 k10 k11 => (f3'.1 k k6 k10).trans (f2.1 k k6 k11))
  rw [f3'.1 11 (by omega) (by omega), s2 rfl p hp]
  unfold sp_ev
  rw [(sp_all_car (C := 0) (D := 0) (by omega) ok1).2.2.1]
/-- who stands where, before a run -/
def mw0 (W M : zMem) (t n H : Nat) (wh : Nat → Nat) : Prop := (∀ h, h < H → wh h < 5 ∧ W 8 h = nI (wh h)) ∧ (∀ h j, h < H → j < H → wh h = wh j → h = j) ∧ (∀ h p, h < H → p < n → W 4 (60 + 8 * wh h + p) = M (t + 3) (h * 8 + p))
/-- the beginning of a run, up to the loop -/
theorem mt_runs_0 {t b n H L : Nat} {a1 a2 : Int32} {wh : Nat → Nat} {M0 M W : zMem} {Q : zMem → Prop} (hc : sp_clear b M0 M) (ok : sp_ok M t b n H L) (rt : mr_t W M t n H L) (rw0 : mw0 W M t n H wh) (hg : b = 32 → M 30 0 = 0)
    (hQ : ∀ W', mr W' (sp_all t b H M) 1 t b n H L wh → ms W' (sp_all t b H M) 1 b n → W' 6 99 = 0 → mfw W W' → W' 0 28 = 0 → W' 0 29 = -4 → (∀ j, j < 9600 → W' 12 j = 0) → ∃ k, zlp0 (wpB_Model_runs_64 a1 a2 Q) k W') : wp_Model_runs a1 a2 W Q := by
  have H5 : H ≤ 5 := ok.2.2.2.1.1.2.2.2.1
  have n8 : n ≤ 8 := ok.2.2.2.1.1.2.1
  obtain ⟨k2, k3, k4, k5, k0, k1, kh, kl, ks, kk⟩ := id hc
  unfold wp_Model_runs
  show wp_Model_clear (nI 1) W _
  refine mt_clear (by omega) (fun W1 a1 a2 a3 => ?_)
  refine zfill_r (c := 11) (N := 8) (v := 0) (by omega) (fun W2 b1 b2 b3 => ?_)
  refine zfill_r (c := 12) (N := 9600) (v := 0) (by omega) (fun W3 c1 c2 c3 => ?_)
  intro W4 e4 W5 e5
  have x6 : W5 6 = W1 6 := by rw [e5, zup_ne (by omega), e4, zup_ne (by omega), c3 6 (by omega), b3 6 (by omega)]
  have xk : ∀ k, k ≠ 0 → k ≠ 6 → k ≠ 11 → k ≠ 12 → W5 k = W k := fun k q0 q6 q11 q12 => by rw [e5, zup_ne q0, e4, zup_ne q0, c3 k q12, b3 k q11, a3 k q6]
  have x0 : ∀ j, j ≠ 28 → j ≠ 29 → W5 0 j = W 0 j := fun j q1 q2 => by rw [e5, zup_eq, upd_ne q2, e4, zup_eq, upd_ne q1, c3 0 (by omega), b3 0 (by omega), a3 0 (by omega)]
  have x28 : W5 0 28 = 0 := by rw [e5, zup_eq, upd_ne (by omega), e4, zup_eq, upd_eq]
  have x29 : W5 0 29 = -4 := by rw [e5, zup_eq, upd_eq]
  have x12 : ∀ j, j < 9600 → W5 12 j = 0 := fun j hj => by rw [e5, zup_ne (by omega), e4, zup_ne (by omega)]; exact c1 j hj
  have x11 : ∀ j, j < 8 → W5 11 j = 0 := fun j hj => by rw [e5, zup_ne (by omega), e4, zup_ne (by omega), c3 11 (by omega)]; exact b1 j hj
  have mf5 : mfw W W5 := ⟨fun k q0 q6 q10 q11 q12 _ _ => xk k q0 q6 q11 q12, fun j hj => by rw [x6]; exact a2 j (by omega), fun j q1 q2 _ => x0 j q1 q2⟩
  have rt5 : mr_t W5 M t n H L := by
    unfold mr_t at rt ⊢
    rw [xk 4 (by omega) (by omega) (by omega) (by omega), xk 9 (by omega) (by omega) (by omega) (by omega), x0 18 (by omega) (by omega), x0 19 (by omega) (by omega)]
    exact rt
  have r5 : mr W5 M 1 t b n H L wh := mr_clear (by omega) (fun j hj => by rw [x6]; exact a1 j hj) hc n8 H5 rt5 (by rw [xk 8 (by omega) (by omega) (by omega) (by omega)]; exact rw0.1) rw0.2.1 (by rw [xk 4 (by omega) (by omega) (by omega) (by omega)]; exact rw0.2.2) (fun _ q => hg q)
  have hb1 := sp_c_bound (M := M) (b := b) H H5
  show wp_Model_settle (nI 1) W5 _
  refine mt_settle (C := 40) (by omega) ok r5 (fun _ => ⟨0, k4, by omega⟩) (fun W6 r6 f6 o6 z6 => ?_)
  refine hQ W6 r6 (fun _ p hp => ?_) z6 (mf5.tr f6.w) ?_ ?_ (fun j hj => ?_)
  · rw [f6.1 11 (by omega) (by omega), x11 p (by omega), (sp_all_car (C := 0) (D := 0) (by omega) ok).2.2.1, ks p (by omega)]
  · rw [f6.1 0 (by omega) (by omega)]; exact x28
  · rw [f6.1 0 (by omega) (by omega)]; exact x29
  · rw [f6.1 12 (by omega) (by omega)]; exact x12 j hj
/-- a run without a ring -/
theorem mt_runs {t b n H L m : Nat} {wh : Nat → Nat} {M0 M W : zMem} {Q : zMem → Prop} (hm : m ≤ 120) (hc : sp_clear b M0 M) (ok : sp_ok M t b n H L) (rt : mr_t W M t n H L) (rw0 : mw0 W M t n H wh) (hg : b = 32 → M 30 0 = 0)
    (hQ : ∀ W', mr W' (sp_run t b H (nI m) 12000 (sp_all t b H M)) 1 t b n H L wh → ms W' (sp_run t b H (nI m) 12000 (sp_all t b H M)) 1 b n → W' 6 99 = 0 → mfw W W' → Q W') : wp_Model_runs (nI m) 0 W Q := by
  refine mt_runs_0 hc ok rt rw0 hg (fun W1 r1 s1 z1 f1 _ _ _ => ?_)
  obtain ⟨ri, -, -⟩ := sp_ri_0 hc ok
  generalize sp_all t b H M = M1 at r1 s1 ri hQ
  refine zlp0_r (fun f W2 => ∃ M2, sp_rl M2 t b n H L f ∧ mr W2 M2 1 t b n H L wh ∧ ms W2 M2 1 b n ∧ W2 6 99 = 0 ∧ mfw W W2 ∧ sp_run t b H (nI m) f M2 = sp_run t b H (nI m) 12000 M1) ?_ (n := 12000) ⟨M1, sp_rl_0 ri, r1, s1, z1, f1, rfl⟩
  rintro f W2 ⟨M2, rl, r2, s2, z2, f2, er⟩ J hJ
  unfold wpB_Model_runs_64
  have h1 : W2 6 (96 * 1 + 1) = M2 b 3 := r2.2.2.2.2.1.2.1
  show wp_Model_of (nI 1) (nI 1) W2 _
  rw [e_of (by omega) (by omega), h1]
  refine ⟨fun q => ?_, fun q => ?_⟩
  · rw [sp_run_end (show ¬ M2 b 3 < nI m from Int32.not_lt.mpr q)] at er
    rw [er] at r2 s2
    exact hQ W2 r2 s2 z2 f2
  · obtain ⟨g, rfl, rl2, er2, -⟩ := sp_rl_step rl hm (Int32.not_le.mp q)
    have hdn : ∃ dn, dn ≤ 160 ∧ M2 b 3 = nI dn := by
      obtain ⟨dn, d1, d2⟩ := rl.1.2.2.1
      refine ⟨dn, ?_, d2⟩
      have q' := Int32.not_le.mp q
      rw [d2] at q'
      have := (nI_ltI (a := dn) (b := m) (by omega) (by omega)).mp q'
      omega
    show wp_Model_of (nI 1) (nI 3) W2 _
    rw [e_of (by omega) (by omega)]
    refine ⟨fun c => absurd z2 c, fun _ => ?_⟩
    show wp_Model_of (nI 1) (nI 1) W2 _
    rw [e_of (by omega) (by omega)]
    refine mt_event rl.1 hdn r2 s2 (fun W3 r3 s3 z3 f3 _ => ⟨fun _ => ?_, fun c => absurd rfl c⟩)
    exact hJ g W3 (by omega) ⟨_, rl2, r3, s3, z3, f2.tr f3, er2.symm.trans er⟩
/-- what is left is small, what was learnt counts -/
def sp_bd (M : zMem) (b H C : Nat) : Prop := (∀ h, h < H → ∃ l, l ≤ 40 ∧ M (b + 2) h = nI l) ∧ (∀ j, j < 40 → ∃ l, M (b + 7) j = nI l ∧ l + sp_sum (sp_c M b) H ≤ C)
theorem sp_ticks_9 {t h p n H L l : Nat} {ld : Int32} {M : zMem} (vt : sp_vt M t n H L) (hh : h < H) (hp : p < n) (hl : ld = nI l) (hl2 : l < 2147483648) : ∃ z, z ≤ 40 ∧ sp_ticks t h p ld M = nI z := by
  obtain ⟨-, -, -, -, -, ⟨le, le9, hle⟩, -, -, -, -, -, hpa, -, -, -⟩ := vt
  obtain ⟨c, c1, c9, hc⟩ := hpa h p hh hp
  unfold sp_ticks
  rw [hc, hle, hl]
  have key : ∀ v : Int32, ((∃ a b : Nat, a ≤ 9 ∧ b < 2147483648 ∧ v = nI a - nI b) → ∃ z, z ≤ 40 ∧ (if v < 1 then 1 else v) = nI z) := by
    rintro v ⟨a, b, ha, hb, rfl⟩
    rcases Nat.le_total b a with q | q
    · rw [q_sub q]
      by_cases z : nI (a - b) < 1
      · rw [if_pos z]; exact ⟨1, by omega, rfl⟩
      · rw [if_neg z]; exact ⟨a - b, by omega, rfl⟩
    · by_cases z : a = b
      · subst z
        rw [q_sub (Nat.le_refl _), Nat.sub_self, if_pos (by decide)]
        exact ⟨1, by omega, rfl⟩
      · have : nI a - nI b = -nI (b - a) := by rw [← q_sub q, Int32.neg_sub]
        rw [this, if_pos ?_]
        · exact ⟨1, by omega, rfl⟩
        · rw [Int32.lt_iff_toInt_lt, q_negT (by omega)]
          have : (1 : Int32).toInt = 1 := by decide
          omega
  by_cases c0 : 0 < nI le
  · have h0 : 0 < le := (nI_0lt (by omega)).mp c0
    dsimp only
    rw [if_pos c0, pk_div hl2 h0 (by omega)]
    refine key _ ⟨c, l / le, c9, ?_, rfl⟩
    exact Nat.lt_of_le_of_lt (Nat.div_le_self l le) hl2
  · dsimp only
    rw [if_neg c0]
    refine key _ ⟨c, 0, c9, by omega, ?_⟩
    rw [q_sub (Nat.zero_le _), Nat.sub_zero]
theorem sp_hand_bd {t b n H L h C : Nat} {M M' : zMem} (hC : C < 2147483000) (ok : sp_ok M t b n H L) (hh : h < H) (e : sp_hand t b h M = some M') (bd : sp_bd M b H C) : sp_bd M' b H C := by
  obtain ⟨-, hs⟩ := sp_step ok hh e
  obtain ⟨b1, b2⟩ := bd
  obtain ⟨ht, hd2, hb18, vt, hpl, hhd, hg⟩ := id ok
  obtain ⟨⟨n1, n8, H1, H5, L1, L6⟩, hn, hH, hL, ⟨wk, hwk5, hwk⟩, -, -, -, hrow, hun, hpf, -, -, -, -⟩ := id vt
  have hb : t + 4 < b := by omega
  have same : ∀ X : zMem, X (b + 7) = M (b + 7) → sp_sum (sp_c X b) H < sp_sum (sp_c M b) H → (∀ j, j < H → ∃ l, l ≤ 40 ∧ X (b + 2) j = nI l) → sp_bd X b H C := fun X x7 xs x2 => by
    refine ⟨x2, fun j hj => ?_⟩
    obtain ⟨l, l1, l2⟩ := b2 j hj
    exact ⟨l, by rw [x7]; exact l1, by omega⟩
  have gb7 : ∀ (f : Int32) (j : Nat) (X : zMem), sp_goBack t b j f X (b + 7) = X (b + 7) := fun f j X => by
    unfold sp_goBack
    simp (disch := omega) only [zup_ne]
  have gb2 : ∀ (j f : Nat) (X : zMem), f ≤ 8 → X t 2 = nI wk → (0 < j → X (b + 3) (j - 1) = -1 ∨ ∃ p, p < 8 ∧ X (b + 3) (j - 1) = nI p) → (∀ i, i < H → ∃ l, l ≤ 40 ∧ X (b + 2) i = nI l) → ∀ i, i < H → ∃ l, l ≤ 40 ∧ sp_goBack t b j (nI f) X (b + 2) i = nI l := fun j f X hf x2 xp xl i hi => by
    by_cases c : i = j
    · subst c
      obtain ⟨z, hz, ez⟩ := sp_wl_nn (b := b) hf x2 hwk5 xp
      refine ⟨z, hz, ?_⟩
      unfold sp_goBack
      simp (disch := omega) only [zup_ne, zup_eq, upd_eq]
      exact ez
    · rw [sp_goBack_at (Or.inr (Or.inr c))]
      exact xl i hi
  unfold sp_hand at e
  split at e
  · rename_i hl
    split at e
    · rename_i h3
      cases e
      rcases hhd h hh with ⟨a1, -⟩ | ⟨a1, -⟩ | ⟨p, u, s, U, a1, a2, a3, a4, a5, a6, a7, a8, a9, a10⟩
      · rw [h3] at a1; exact absurd a1 (by decide)
      · rw [h3] at a1; exact absurd a1 (by decide)
      have e1 : ix (M (b + 3) h) = p := by rw [a5]; exact q_ix (by omega)
      have lrn : ∀ X : zMem, X (b + 7) = upd (M (b + 7)) (h * 8 + p) (M (b + 7) (h * 8 + p) + 1) → sp_sum (sp_c X b) H < sp_sum (sp_c M b) H → ∀ j, j < 40 → ∃ l, X (b + 7) j = nI l ∧ l + sp_sum (sp_c X b) H ≤ C := fun X x7 xs j hj => by
        rw [x7]
        by_cases c : j = h * 8 + p
        · subst c
          obtain ⟨l, l1, l2⟩ := b2 (h * 8 + p) hj
          exact ⟨l + 1, by rw [upd_eq, l1, nI_1], by omega⟩
        · obtain ⟨l, l1, l2⟩ := b2 j hj
          exact ⟨l, by rw [upd_ne c]; exact l1, by omega⟩
      have e3 : ix (M t 0) = n := by rw [hn]; exact q_ix (by omega)
      unfold sp_finish at hs ⊢
      dsimp only at hs ⊢
      rw [e1, e3] at hs ⊢
      generalize hM3 : zup (zup (zup M (b + 7) (h * 8 + p) (M (b + 7) (h * 8 + p) + 1)) (b + 1) h 2) (b + 4) h (M (b + 4) h + 1) = M3 at hs ⊢
      have r7 : M3 (b + 7) = upd (M (b + 7)) (h * 8 + p) (M (b + 7) (h * 8 + p) + 1) := by rw [← hM3]; simp (disch := omega) only [zup_ne, zup_eq]
      have r2 : M3 (b + 2) = M (b + 2) := by rw [← hM3]; simp (disch := omega) only [zup_ne]
      have r3 : M3 (b + 3) = M (b + 3) := by rw [← hM3]; simp (disch := omega) only [zup_ne]
      have rt : M3 t 2 = nI wk := by rw [← hM3]; simp (disch := omega) only [zup_ne]; exact hwk
      clear hM3
      split at hs
      · rename_i c
        rw [if_pos c]
        exact ⟨by rw [r2]; exact b1, lrn _ r7 hs⟩
      · rename_i c
        rw [if_neg c]
        split at hs
        · rename_i c2
          rw [if_pos c2]
          refine ⟨?_, lrn _ ?_ hs⟩
          · simp (disch := omega) only [zup_ne]
            rw [r2]; exact b1
          · simp (disch := omega) only [zup_ne]
            exact r7
        · rename_i c2
          rw [if_neg c2]
          refine ⟨gb2 h n _ n8 ?_ (fun z0 => ?_) ?_, lrn _ ?_ hs⟩
          · simp (disch := omega) only [zup_ne]; exact rt
          · simp (disch := omega) only [zup_ne]
            rw [r3]
            exact (hhd (h - 1) (by omega)).piece n8
          · simp (disch := omega) only [zup_ne]
            rw [r2]; exact b1
          · rw [gb7]
            simp (disch := omega) only [zup_ne]
            exact r7
    · split at e
      · split at e
        · cases e
          refine same _ ?_ hs ?_
          · unfold sp_new; simp (disch := omega) only [zup_ne]
          · unfold sp_new; simp (disch := omega) only [zup_ne]; exact b1
        · rename_i h0
          split at e
          · rename_i hc
            cases e
            rcases hhd (h - 1) (by omega) with ⟨a1, -⟩ | ⟨a1, -⟩ | ⟨p, u, s, U, a1, a2, a3, a4, a5, a6, a7, a8, a9, a10⟩
            · rw [hc.1] at a1; exact absurd a1 (by decide)
            · rw [hc.1] at a1; exact absurd a1 (by decide)
            have key : ∃ X6 : zMem, sp_take t b h M = sp_goBack t b (h - 1) (nI p) X6 ∧ X6 (b + 7) = M (b + 7) ∧ X6 t 2 = nI wk ∧ X6 (b + 2) = M (b + 2) ∧ (∀ j, j ≠ h → X6 (b + 3) j = M (b + 3) j) := by
              unfold sp_take
              rw [a5]
              rcases zlg_cases b with c | ⟨c, hb32⟩
              · rw [c]
                refine ⟨_, rfl, ?_, ?_, ?_, fun j hj => ?_⟩
                · simp (disch := omega) only [zup_ne]
                · simp (disch := omega) only [zup_ne]; exact hwk
                · simp (disch := omega) only [zup_ne]
                · simp (disch := omega) only [zup_ne, zup_eq, upd_ne]
              · rw [c]
                refine ⟨_, rfl, ?_, ?_, ?_, fun j hj => ?_⟩ <;> rw [e_note_ne (by omega) (by omega)]
                · simp (disch := omega) only [zup_ne]
                · simp (disch := omega) only [zup_ne]; exact hwk
                · simp (disch := omega) only [zup_ne]
                · simp (disch := omega) only [zup_ne, zup_eq, upd_ne]
            obtain ⟨X6, x1, x2, x3, x4, x5⟩ := key
            rw [x1] at hs ⊢
            refine same _ (by rw [gb7]; exact x2) hs (gb2 (h - 1) p _ (by omega) x3 (fun z0 => ?_) (by rw [x4]; exact b1))
            rw [x5 _ (by omega)]
            exact (hhd (h - 1 - 1) (by omega)).piece n8
          · cases e
      · split at e
        · rename_i h2
          split at e
          · cases e
            rcases hhd h hh with ⟨a1, -⟩ | ⟨a1, -⟩ | ⟨p, u, s, U, a1, a2, a3, a4, a5, a6, a7, a8, a9, a10⟩
            · rw [h2] at a1; exact absurd a1 (by decide)
            · rw [h2] at a1; exact absurd a1 (by decide)
            have e1 : ix (M (b + 3) h) = p := by rw [a5]; exact q_ix (by omega)
            refine same _ (by unfold sp_start; simp (disch := omega) only [zup_ne]) hs (fun j hj => ?_)
            by_cases c : j = h
            · subst c
              obtain ⟨l, l1, l2⟩ := b2 (j * 8 + p) (by omega)
              obtain ⟨z, z1, z2⟩ := sp_ticks_9 (t := t) (h := j) (p := p) vt hj a1 l1 (by omega)
              refine ⟨z, z1, ?_⟩
              unfold sp_start
              simp (disch := omega) only [zup_eq, upd_eq]
              rw [e1]
              exact z2
            · rw [sp_start_ne c]
              exact b1 j hj
          · cases e
        · cases e
  · cases e
theorem sp_rounds_bd {t b n H L C : Nat} (hC : C < 2147483000) : ∀ f (M : zMem), sp_ok M t b n H L → sp_bd M b H C → sp_bd (sp_rounds t b H f M) b H C := by
  have rd : ∀ h (s : Bool) (X : zMem), h ≤ H → sp_ok X t b n H L → sp_bd X b H C → sp_bd (sp_rd t b h s X).2 b H C := by
    intro h
    induction h with
    | zero => intro s X _ _ bx; exact bx
    | succ h ih =>
      intro s X hh okx bx
      unfold sp_rd
      cases e : sp_hand t b h X with
      | none => exact ih s X (by omega) okx bx
      | some X' => exact ih true X' (by omega) (sp_step okx (by omega) e).1 (sp_hand_bd hC okx (by omega) e bx)
  intro f
  induction f with
  | zero => intro M _ bx; exact bx
  | succ f ih =>
    intro M ok bx
    unfold sp_rounds
    have h1 := rd H false M (Nat.le_refl _) ok bx
    split
    · exact ih _ (sp_rd_ok H false M (Nat.le_refl _) ok).1 h1
    · exact h1
theorem sp_pass1_bd {b h H : Nat} {d : Int32} {M : zMem} (h0 : 0 < d) (hd : 0 < M (b + 2) h → d ≤ M (b + 2) h) (b1 : ∀ j, j < H → ∃ l, l ≤ 40 ∧ M (b + 2) j = nI l) : ∀ j, j < H → ∃ l, l ≤ 40 ∧ sp_pass1 b h d M (b + 2) j = nI l := by
  intro j hj
  by_cases e : j = h
  · subst e
    obtain ⟨l, l1, l2⟩ := b1 j hj
    unfold sp_pass1
    by_cases c : 0 < M (b + 2) j
    · have hle := hd c
      have e2 : ∃ l', l' ≤ 40 ∧ M (b + 2) j - d = nI l' := by
        obtain ⟨z1, z2⟩ := i32_sub_nn h0 hle
        obtain ⟨k, k1, k2⟩ := nI_of (Int32.not_lt.mpr z1)
        rw [k2, l2] at z2
        have := (nI_ltI k1 (by omega)).mp z2
        exact ⟨k, by omega, k2⟩
      obtain ⟨l', m1, m2⟩ := e2
      rw [if_pos c]
      split
      · exact ⟨l', m1, by simp (disch := omega) only [zup_ne, zup_eq, upd_eq]; exact m2⟩
      · exact ⟨l', m1, by simp (disch := omega) only [zup_eq, upd_eq]; exact m2⟩
    · rw [if_neg c]
      split
      · exact ⟨l, l1, by simp (disch := omega) only [zup_ne]; exact l2⟩
      · exact ⟨l, l1, by simp (disch := omega) only [zup_ne]; exact l2⟩
  · rw [sp_pass1_fr.2.2.1 2 j (by omega) (by omega) (Or.inr e)]
    exact b1 j hj
theorem sp_passes_bd {b H : Nat} {d : Int32} (h0 : 0 < d) : ∀ m h (M : zMem), h + m = H → (∀ j, h ≤ j → j < H → 0 < M (b + 2) j → d ≤ M (b + 2) j) → (∀ j, j < H → ∃ l, l ≤ 40 ∧ M (b + 2) j = nI l) → ∀ j, j < H → ∃ l, l ≤ 40 ∧ sp_passes b d m h M (b + 2) j = nI l := by
  intro m
  induction m with
  | zero => intro h M _ _ b1; exact b1
  | succ m ih =>
    intro h M hm hd b1
    unfold sp_passes
    refine ih (h + 1) _ (by omega) (fun j j1 j2 => ?_) (sp_pass1_bd h0 (hd h (Nat.le_refl _) (by omega)) b1)
    rw [sp_pass1_fr.2.2.1 2 j (by omega) (by omega) (Or.inr (by omega))]
    exact hd j (by omega) j2
/-- an event keeps the bounds -/
theorem sp_ev_bd {t b n H L C : Nat} {M : zMem} (hC : C + 40 < 2147483000) (ri : sp_ri M t b n H L) (bd : sp_bd M b H C) : sp_bd (sp_ev t b H M) b H (C + 40) := by
  have hc := sp_can_least ri.1 ri.2.1
  have ok1 := sp_pass_ok ri.1 hc
  have H5 : H ≤ 5 := ri.1.2.2.2.1.1.2.2.2.1
  unfold sp_ev sp_all
  refine sp_rounds_bd hC _ _ ok1 ⟨?_, fun j hj => ?_⟩
  · unfold sp_pass
    refine sp_passes_bd hc.1 H 0 _ (by omega) (fun j _ hj => ?_) (fun j hj => ?_)
    · simp (disch := omega) only [zup_ne]; exact hc.2.2 j hj
    · simp (disch := omega) only [zup_ne]; exact bd.1 j hj
  · obtain ⟨l, l1, l2⟩ := bd.2 j hj
    have hb1 := sp_c_bound (M := sp_pass b H (sp_least (M (b + 2)) H 0 0) M) (b := b) H H5
    refine ⟨l, ?_, by omega⟩
    rw [sp_pass_fr.2.2.2.1 7 j (by omega)]
    exact l1
/-- a hand in one number, what was learned and counts, a record -/
def sp_num (b h : Nat) (M : zMem) : Int32 := ((if 0 ≤ M (b + 3) h then (M (b + 3) h + 1) * 100 + M (b + 4) h * 10 + M (b + 5) h else 0) * 100 + M (b + 2) h) * 10 + M (b + 1) h
def sp_cnt (t b i : Nat) (M : zMem) : Int32 := if M t 3 * (M (t + 3) i - 1) ≤ M (b + 7) i then M t 3 * (M (t + 3) i - 1) else M (b + 7) i
def sp_row (t b n H : Nat) (M : zMem) (i : Nat) : Int32 := if i = 0 then M b 5 else if i < 6 then (if i - 1 < H then sp_num b (i - 1) M else 0) else if (i - 6) / 8 < H ∧ (i - 6) % 8 < n then sp_cnt t b (i - 6) M else 0
theorem e_num {b h : Nat} {M : zMem} {Q : Int32 → zMem → Prop} (hh : h < 5) : wp_Bench_inOneNumber b (nI h) M Q = Q (sp_num b h M) M := by
  unfold wp_Bench_inOneNumber wpJ_Bench_inOneNumber_41 sp_num
  rw [q_ix (by omega), q_in hh (by omega)]
  simp only [true_and]
  apply propext
  by_cases c : 0 ≤ M (b + 3) h
  · simp only [c, true_implies, not_true_eq_false, false_implies, and_true, if_true]
  · simp only [c, true_implies, not_false_eq_true, false_implies, true_and, if_false]
theorem e_cnt {t b h p : Nat} {M : zMem} {Q : Int32 → zMem → Prop} (hh : h < 5) (hp : p < 8) : wp_Told_learnedThatCounts t (nI h) (nI p) (M (b + 7) (h * 8 + p)) M Q = Q (sp_cnt t b (h * 8 + p) M) M := by
  unfold wp_Told_learnedThatCounts wp_Told_paceOf sp_cnt
  simp (disch := omega) only [q_lit, q_add, q_mul, q_sub, q_ix, q_in, q_lt, q_le, q_eq, q_nlt, q_nle, q_ltn, q_len, q_neq, q_eqn, zup_ne, zup_eq, zset_ne, zset_eq, upd_eq, upd_ne, forall_eq, true_and, and_true, true_implies, false_implies, implies_true, not_true_eq_false, not_false_eq_true, and_self, ↓reduceIte, false_and, and_false]
  apply propext
  by_cases c : M t 3 * (M (t + 3) (h * 8 + p) - nI 1) ≤ M (b + 7) (h * 8 + p)
  · simp only [c, true_implies, not_true_eq_false, false_implies, and_true, if_true]
  · simp only [c, true_implies, not_false_eq_true, false_implies, true_and, if_false]
theorem sp_row_same {t b n H : Nat} {M M' : zMem} (h1 : M' t = M t) (h2 : M' (t + 3) = M (t + 3)) (h3 : ∀ i, i ≤ 8 → M' (b + i) = M (b + i)) : sp_row t b n H M' = sp_row t b n H M := by
  have h0 : M' b = M b := h3 0 (by omega)
  funext i
  unfold sp_row sp_num sp_cnt
  rw [h1, h2, h0, h3 1 (by omega), h3 2 (by omega), h3 3 (by omega), h3 4 (by omega), h3 5 (by omega), h3 7 (by omega)]
/-- the others are cleared -/
theorem xt_clearOthers {t n H r : Nat} {M : zMem} {Q : zMem → Prop} (hr : r < 120) (ht : t + 4 < 18) (hn : M t 0 = nI n) (hH : M t 1 = nI H) (hn8 : n ≤ 8) (hH5 : H ≤ 5)
    (hQ : ∀ M', (∀ i, i < 46 → M' 42 (46 * r + i) = if i = 0 then M 42 (46 * r + i) else if i < 6 then (if i - 1 < H then M 42 (46 * r + i) else 0) else if (i - 6) / 8 < H ∧ (i - 6) % 8 < n then M 42 (46 * r + i) else 0) → (∀ j, j < 46 * r → M' 42 j = M 42 j) → (∀ k, k ≠ 42 → M' k = M k) → Q M') : wp_Settling_clearOthers 41 (nI (46 * r)) t M Q := by
  unfold wp_Settling_clearOthers
  refine zlp1_r (fun m x M1 => ∃ h, x = nI h ∧ h ≤ 5 ∧ m = 5 - h ∧ (∀ i, i < 46 → M1 42 (46 * r + i) = if i = 0 then M 42 (46 * r + i) else if i < 6 then (if i - 1 < H ∨ h ≤ i - 1 then M 42 (46 * r + i) else 0) else if ((i - 6) / 8 < H ∧ (i - 6) % 8 < n) ∨ h ≤ (i - 6) / 8 then M 42 (46 * r + i) else 0) ∧ (∀ j, j < 46 * r → M1 42 j = M 42 j) ∧ (∀ k, k ≠ 42 → M1 k = M k)) ?_ (n := 5) ⟨0, rfl, by omega, rfl, fun i hi => by simp only [Nat.zero_le, or_true, if_true, ite_self], fun _ _ => rfl, fun _ _ => rfl⟩
  rintro m x M1 ⟨h, rfl, hh, rfl, a1, a2, a3⟩ J hJ
  have nt : M1 t 0 = nI n := by rw [a3 t (by omega)]; exact hn
  have nH : M1 t 1 = nI H := by rw [a3 t (by omega)]; exact hH
  unfold wpB_Settling_clearOthers_2
  refine ⟨fun q => ?_, fun q => ?_⟩
  · have q' := (nI_leI (a := 5) (b := h) (by omega) (by omega)).mp q
    have e : h = 5 := by omega
    subst e
    refine hQ M1 (fun i hi => ?_) a2 a3
    rw [a1 i hi]
    grind
  · have q1 : h < 5 := Nat.lt_of_not_le (fun z => q (nI_le (a := 5) z (by omega)))
    -- the inner loop
    have inner : ∀ M2 : zMem, (∀ i, i < 46 → M2 42 (46 * r + i) = if i = 0 then M 42 (46 * r + i) else if i < 6 then (if i - 1 < H ∨ h + 1 ≤ i - 1 then M 42 (46 * r + i) else 0) else if ((i - 6) / 8 < H ∧ (i - 6) % 8 < n) ∨ h ≤ (i - 6) / 8 then M 42 (46 * r + i) else 0) → (∀ j, j < 46 * r → M2 42 j = M 42 j) → (∀ k, k ≠ 42 → M2 k = M k) → ∃ n : Nat, zlp1 (wpB_Settling_clearOthers_29 41 (nI (46 * r)) t (nI h) (fun (zm4 : zMem) => ∀ zx5 : Int32, zx5 = nI h + 1 → J zx5 zm4) Q) n 0 M2 := by
      intro M2 b1 b2 b3
      refine zlp1_r (fun m x M3 => ∃ p, x = nI p ∧ p ≤ 8 ∧ m = 8 - p ∧ (∀ i, i < 46 → M3 42 (46 * r + i) = if i = 0 then M 42 (46 * r + i) else if i < 6 then (if i - 1 < H ∨ h + 1 ≤ i - 1 then M 42 (46 * r + i) else 0) else if ((i - 6) / 8 < H ∧ (i - 6) % 8 < n) ∨ h * 8 + p ≤ i - 6 then M 42 (46 * r + i) else 0) ∧ (∀ j, j < 46 * r → M3 42 j = M 42 j) ∧ (∀ k, k ≠ 42 → M3 k = M k)) ?_ (n := 8) ⟨0, rfl, by omega, rfl, fun i hi => by rw [b1 i hi]; grind, b2, b3⟩
      rintro m x M3 ⟨p, rfl, hp, rfl, c1, c2, c3⟩ J2 hJ2
      have mt : M3 t 0 = nI n := by rw [c3 t (by omega)]; exact hn
      have mH : M3 t 1 = nI H := by rw [c3 t (by omega)]; exact hH
      unfold wpB_Settling_clearOthers_29
      refine ⟨fun q2 y hy => ?_, fun q2 => ?_⟩
      · have q' := (nI_leI (a := 8) (b := p) (by omega) (by omega)).mp q2
        have e : p = 8 := by omega
        subst e
        rw [hy, nI_1]
        refine hJ (5 - (h + 1)) _ _ (by omega) ⟨h + 1, rfl, by omega, rfl, fun i hi => ?_, c2, c3⟩
        rw [c1 i hi]
        grind
      · have p1 : p < 8 := Nat.lt_of_not_le (fun z => q2 (nI_le (a := 8) z (by omega)))
        have clr : ¬ (h < H ∧ p < n) → wpJ_Settling_clearOthers_53 41 (nI (46 * r)) t (fun (zm4 : zMem) => ∀ zx5 : Int32, zx5 = nI h + 1 → J zx5 zm4) J2 Q (nI h) (nI p) M3 := fun ne => by
          unfold wpJ_Settling_clearOthers_53
          have e1 : nI (46 * r) + 1 + 5 + nI h * 8 + nI p = nI (46 * r + (6 + h * 8 + p)) := by
            simp (disch := omega) only [q_lit, q_add, q_mul]
            exact congrArg nI (by omega)
          rw [e1, q_ix (by omega)]
          refine ⟨vp_in_nI (by omega) (by omega), fun M4 hM4 y hy => ?_⟩
          rw [hy, nI_1, hM4]
          refine hJ2 (8 - (p + 1)) _ _ (by omega) ⟨p + 1, rfl, by omega, rfl, fun i hi => ?_, fun j hj => ?_, fun k hk => ?_⟩
          · by_cases e : i = 6 + h * 8 + p
            · subst e
              rw [zup_eq, upd_eq]
              have d1 : (6 + h * 8 + p - 6) / 8 = h := by omega
              have d2 : (6 + h * 8 + p - 6) % 8 = p := by omega
              rw [if_neg (by omega), if_neg (by omega), d1, d2, if_neg (by omega)]
            · rw [zup_eq, upd_ne (by omega), c1 i hi]
              grind
          · rw [zup_eq, upd_ne (by omega)]; exact c2 j hj
          · rw [zup_ne hk]; exact c3 k hk
        rw [mt, mH]
        refine ⟨fun z => clr ?_, fun z => ⟨fun z2 y hy => ?_, fun z2 => clr ?_⟩⟩
        · have := (nI_leI (a := H) (b := h) (by omega) (by omega)).mp z; omega
        · have zz : h < H := Nat.lt_of_not_le (fun w => z (nI_le w (by omega)))
          have z3 := (nI_ltI (a := p) (b := n) (by omega) (by omega)).mp z2
          rw [hy, nI_1]
          refine hJ2 (8 - (p + 1)) _ _ (by omega) ⟨p + 1, rfl, by omega, rfl, fun i hi => ?_, c2, c3⟩
          rw [c1 i hi]
          by_cases e : i = 6 + h * 8 + p
          · subst e
            have d1 : (6 + h * 8 + p - 6) / 8 = h := by omega
            have d2 : (6 + h * 8 + p - 6) % 8 = p := by omega
            rw [if_neg (by omega), if_neg (by omega), d1, d2, if_pos (Or.inl ⟨zz, z3⟩), if_neg (by omega), if_neg (by omega), if_pos (Or.inl ⟨zz, z3⟩)]
          · grind
        · intro w
          exact z2 (nI_lt w.2 (by omega))
    rw [nH]
    refine ⟨fun z => ?_, fun z => ?_⟩
    · have zz := (nI_ltI (a := h) (b := H) (by omega) (by omega)).mp z
      refine inner M1 (fun i hi => ?_) a2 a3
      rw [a1 i hi]
      grind
    · have zz : ¬ h < H := fun w => z (nI_lt w (by omega))
      have e1 : nI (46 * r) + 1 + nI h = nI (46 * r + (1 + h)) := by
        simp (disch := omega) only [q_lit, q_add, q_mul]
        exact congrArg nI (by omega)
      rw [e1, q_ix (by omega)]
      refine ⟨vp_in_nI (by omega) (by omega), fun M2 hM2 => ?_⟩
      refine inner M2 (fun i hi => ?_) (fun j hj => ?_) (fun k hk => ?_)
      · rw [hM2, zup_eq]
        by_cases e : i = 1 + h
        · subst e
          rw [upd_eq, if_neg (by omega), if_pos (by omega), if_neg (by omega)]
        · rw [upd_ne (by omega), a1 i hi]
          grind
      · rw [hM2, zup_eq, upd_ne (by omega)]; exact a2 j hj
      · rw [hM2, zup_ne hk]; exact a3 k hk
/-- a record is written down -/
theorem xt_writeDown {t n H r : Nat} {M : zMem} {Q : zMem → Prop} (hr : r < 120) (hrec : M 41 1 = nI r) (ht : t + 4 < 18) (hn : M t 0 = nI n) (hH : M t 1 = nI H) (hn8 : n ≤ 8) (hH5 : H ≤ 5)
    (hQ : ∀ M', (∀ i, i < 46 → M' 42 (46 * r + i) = sp_row t 45 n H M i) → (∀ j, j < 46 * r → M' 42 j = M 42 j) → M' 43 = upd (M 43) r (M 45 3) → M' 44 = upd (M 44) r (M 45 2) → (∀ k, k ≠ 42 → k ≠ 43 → k ≠ 44 → M' k = M k) → Q M') : wp_Settling_writeDown 41 t M Q := by
  unfold wp_Settling_writeDown
  intro x0 hx0
  rw [hrec] at hx0
  have ex : x0 = nI (46 * r) := by
    rw [hx0]; simp only [q_lit, q_mul]; exact congrArg nI (by omega)
  subst ex
  rw [hrec, q_ix (by omega)]
  refine ⟨vp_in_nI hr (by omega), fun M1 hM1 => ?_⟩
  have r1 : M1 41 1 = nI r := by rw [hM1, zup_ne (by omega)]; exact hrec
  rw [r1, q_ix (by omega)]
  refine ⟨vp_in_nI hr (by omega), fun M2 hM2 => ⟨vp_in_nI (by omega) (by omega), fun M3 hM3 => ?_⟩⟩
  rw [q_ix (by omega)] at hM3
  have x42 : M3 42 = upd (M 42) (46 * r) (M 45 5) := by
    rw [hM3, hM2, hM1]; simp (disch := omega) only [zup_ne, zup_eq]
  have x43 : M3 43 = upd (M 43) r (M 45 3) := by
    rw [hM3, hM2, hM1]; simp (disch := omega) only [zup_ne, zup_eq]
  have x44 : M3 44 = upd (M 44) r (M 45 2) := by
    rw [hM3, hM2, hM1]; simp (disch := omega) only [zup_ne, zup_eq]
  have xk : ∀ k, k ≠ 42 → k ≠ 43 → k ≠ 44 → M3 k = M k := fun k a b c => by
    rw [hM3, hM2, hM1]; simp (disch := omega) only [zup_ne]
  clear hM3 hM2 hM1 r1
  refine zlp1_r (fun m x M4 => ∃ h, x = nI h ∧ h ≤ H ∧ m = H - h ∧ M4 42 (46 * r) = M 45 5 ∧ (∀ j, j < h → M4 42 (46 * r + (1 + j)) = sp_num 45 j M) ∧ (∀ j p, j < h → p < n → M4 42 (46 * r + (6 + j * 8 + p)) = sp_cnt t 45 (j * 8 + p) M) ∧ (∀ j, j < 46 * r → M4 42 j = M 42 j) ∧ (∀ k, k ≠ 42 → M4 k = M3 k)) ?_ (n := H) ⟨0, rfl, by omega, rfl, by rw [x42, upd_eq], fun j hj => absurd hj (by omega), fun j p hj => absurd hj (by omega), fun j hj => by rw [x42, upd_ne (by omega)], fun _ _ => rfl⟩
  rintro m x M4 ⟨h, rfl, hh, rfl, a1, a2, a3, a4, a5⟩ J hJ
  have k4 : ∀ k, k ≠ 42 → k ≠ 43 → k ≠ 44 → M4 k = M k := fun k a b c => (a5 k a).trans (xk k a b c)
  unfold wpB_Settling_writeDown_55
  rw [k4 t (by omega) (by omega) (by omega), hH]
  refine ⟨fun q => ?_, fun q => ?_⟩
  · have q' := (nI_leI (a := H) (b := h) (by omega) (by omega)).mp q
    have e : h = H := by omega
    subst e
    refine xt_clearOthers (n := n) (H := h) hr ht (by rw [k4 t (by omega) (by omega) (by omega)]; exact hn) (by rw [k4 t (by omega) (by omega) (by omega)]; exact hH) hn8 hH5 (fun M5 b1 b2 b3 => ?_)
    refine hQ M5 (fun i hi => ?_) (fun j hj => (b2 j hj).trans (a4 j hj)) ?_ ?_ (fun k u v w => (b3 k u).trans (k4 k u v w))
    · rw [b1 i hi]
      unfold sp_row
      by_cases c0 : i = 0
      · subst c0
        rw [if_pos rfl, if_pos rfl]; exact a1
      · rw [if_neg c0, if_neg c0]
        by_cases c6 : i < 6
        · rw [if_pos c6, if_pos c6]
          by_cases ch : i - 1 < h
          · rw [if_pos ch, if_pos ch]
            have := a2 (i - 1) ch
            rw [show 1 + (i - 1) = i by omega] at this
            exact this
          · rw [if_neg ch, if_neg ch]
        · rw [if_neg c6, if_neg c6]
          by_cases ch : (i - 6) / 8 < h ∧ (i - 6) % 8 < n
          · rw [if_pos ch, if_pos ch]
            have := a3 ((i - 6) / 8) ((i - 6) % 8) ch.1 ch.2
            rw [show 6 + (i - 6) / 8 * 8 + (i - 6) % 8 = i by omega, show (i - 6) / 8 * 8 + (i - 6) % 8 = i - 6 by omega] at this
            exact this
          · rw [if_neg ch, if_neg ch]
    · rw [b3 43 (by omega), a5 43 (by omega)]; exact x43
    · rw [b3 44 (by omega), a5 44 (by omega)]; exact x44
  · have q1 : h < H := Nat.lt_of_not_le (fun z => q (nI_le z (by omega)))
    rw [e_num (by omega)]
    have e1 : nI (46 * r) + 1 + nI h = nI (46 * r + (1 + h)) := by
      simp (disch := omega) only [q_lit, q_add, q_mul]
      exact congrArg nI (by omega)
    rw [e1, q_ix (by omega)]
    refine ⟨vp_in_nI (by omega) (by omega), fun M5 hM5 => ?_⟩
    have hnum : sp_num (41 + 4) h M4 = sp_num 45 h M := by
      unfold sp_num
      rw [k4 _ (by omega) (by omega) (by omega), k4 _ (by omega) (by omega) (by omega), k4 _ (by omega) (by omega) (by omega), k4 _ (by omega) (by omega) (by omega), k4 _ (by omega) (by omega) (by omega)]
    rw [hnum] at hM5
    refine zlp1_r (fun m x M6 => ∃ p, x = nI p ∧ p ≤ n ∧ m = n - p ∧ M6 42 (46 * r) = M 45 5 ∧ (∀ j, j < h + 1 → M6 42 (46 * r + (1 + j)) = sp_num 45 j M) ∧ (∀ j q, j < h → q < n → M6 42 (46 * r + (6 + j * 8 + q)) = sp_cnt t 45 (j * 8 + q) M) ∧ (∀ q, q < p → M6 42 (46 * r + (6 + h * 8 + q)) = sp_cnt t 45 (h * 8 + q) M) ∧ (∀ j, j < 46 * r → M6 42 j = M 42 j) ∧ (∀ k, k ≠ 42 → M6 k = M3 k)) ?_ (n := n) ⟨0, rfl, by omega, rfl, ?_, fun j hj => ?_, fun j q c1 c2 => ?_, fun q c => absurd c (by omega), fun j hj => ?_, fun k hk => ?_⟩
    · rintro m x M6 ⟨p, rfl, hp, rfl, c1, c2, c3, c4, c5, c6⟩ J2 hJ2
      have k6 : ∀ k, k ≠ 42 → k ≠ 43 → k ≠ 44 → M6 k = M k := fun k a b c => (c6 k a).trans (xk k a b c)
      unfold wpB_Settling_writeDown_84
      rw [k6 t (by omega) (by omega) (by omega), hn]
      refine ⟨fun z y hy => ?_, fun z y hy => ?_⟩
      · have z' := (nI_leI (a := n) (b := p) (by omega) (by omega)).mp z
        have e : p = n := by omega
        subst e
        rw [hy, nI_1]
        refine hJ (H - (h + 1)) _ _ (by omega) ⟨h + 1, rfl, by omega, rfl, c1, c2, fun j q0 d1 d2 => ?_, c5, c6⟩
        by_cases e : j = h
        · rw [e]; exact c4 q0 d2
        · exact c3 j q0 (by omega) d2
      · have z1 : p < n := Nat.lt_of_not_le (fun w => z (nI_le w (by omega)))
        have ey : y = nI (h * 8 + p) := by rw [hy]; simp only [q_lit, q_mul, q_add]
        subst ey
        rw [q_ix (by omega)]
        refine ⟨vp_in_nI (by omega) (by omega), ?_⟩
        show wp_Told_learnedThatCounts t (nI h) (nI p) (M6 (45 + 7) (h * 8 + p)) M6 _
        rw [e_cnt (b := 45) (by omega) (by omega)]
        have e2 : nI (46 * r) + 1 + 5 + nI (h * 8 + p) = nI (46 * r + (6 + h * 8 + p)) := by
          simp (disch := omega) only [q_lit, q_add, q_mul]
          exact congrArg nI (by omega)
        rw [e2, q_ix (by omega)]
        refine ⟨vp_in_nI (by omega) (by omega), fun M7 hM7 w hw => ?_⟩
        have hcnt : sp_cnt t 45 (h * 8 + p) M6 = sp_cnt t 45 (h * 8 + p) M := by
          unfold sp_cnt
          rw [k6 _ (by omega) (by omega) (by omega), k6 _ (by omega) (by omega) (by omega), k6 _ (by omega) (by omega) (by omega)]
        rw [hcnt] at hM7
        rw [hw, nI_1, hM7]
        refine hJ2 (n - (p + 1)) _ _ (by omega) ⟨p + 1, rfl, by omega, rfl, ?_, fun j hj => ?_, fun j q d1 d2 => ?_, fun q d => ?_, fun j hj => ?_, fun k hk => ?_⟩
        · rw [zup_eq, upd_ne (by omega)]; exact c1
        · rw [zup_eq, upd_ne (by omega)]; exact c2 j hj
        · rw [zup_eq, upd_ne (by omega)]; exact c3 j q d1 d2
        · by_cases e : q = p
          · subst e; rw [zup_eq, upd_eq]
          · rw [zup_eq, upd_ne (by omega)]; exact c4 q (by omega)
        · rw [zup_eq, upd_ne (by omega)]; exact c5 j hj
        · rw [zup_ne hk]; exact c6 k hk
    · rw [hM5, zup_eq, upd_ne (by omega)]; exact a1
    · by_cases e : j = h
      · subst e; rw [hM5, zup_eq, upd_eq]
      · rw [hM5, zup_eq, upd_ne (by omega)]; exact a2 j (by omega)
    · rw [hM5, zup_eq, upd_ne (by omega)]; exact a3 j q c1 c2
    · rw [hM5, zup_eq, upd_ne (by omega)]; exact a4 j hj
    · rw [hM5, zup_ne hk]; exact a5 k hk
/-- the first earlier record that is alike -/
def sp_fst (P : Nat → Prop) (r : Nat) (o : Option Nat) : Prop := (o = none ∧ ∀ q, q < r → ¬ P q) ∨ (∃ q, o = some q ∧ q < r ∧ P q ∧ ∀ q', q' < q → ¬ P q')
theorem xt_earlier {r : Nat} {M : zMem} {Q : Int32 → zMem → Prop} (hr : r < 120) (hrec : M 41 1 = nI r) (hQ : ∀ o, sp_fst (fun q => ∀ i, i < 46 → M 42 (46 * q + i) = M 42 (46 * r + i)) r o → Q (match o with | none => -1 | some q => nI q) M) : wp_Settling_earlierAlike 41 M Q := by
  unfold wp_Settling_earlierAlike
  intro x0 hx0
  rw [hrec] at hx0
  have ex : x0 = nI (46 * r) := by
    rw [hx0]; simp only [q_lit, q_mul]; exact congrArg nI (by omega)
  subst ex
  refine zlp1_r (fun m x M1 => ∃ q, x = nI q ∧ q ≤ r ∧ m = r - q ∧ M1 = M ∧ ∀ q', q' < q → ¬ ∀ i, i < 46 → M 42 (46 * q' + i) = M 42 (46 * r + i)) ?_ (n := r) ⟨0, rfl, by omega, rfl, rfl, fun q' h => absurd h (by omega)⟩
  rintro m x M1 ⟨q, rfl, hq, rfl, rfl, a1⟩ J hJ
  unfold wpB_Settling_earlierAlike_10
  rw [hrec]
  refine ⟨fun z => ?_, fun z => ?_⟩
  · have z' := (nI_leI (a := r) (b := q) (by omega) (by omega)).mp z
    have e : q = r := by omega
    subst e
    exact hQ none (Or.inl ⟨rfl, a1⟩)
  · have z1 : q < r := Nat.lt_of_not_le (fun w => z (nI_le w (by omega)))
    refine zlp1_r (fun m x M2 => ∃ i, x = nI i ∧ i ≤ 46 ∧ m = 46 - i ∧ M2 = M1 ∧ ∀ j, j < i → M1 42 (46 * q + j) = M1 42 (46 * r + j)) ?_ (n := 46) ⟨0, rfl, by omega, rfl, rfl, fun j h => absurd h (by omega)⟩
    rintro m x M2 ⟨i, rfl, hi, rfl, rfl, b1⟩ J2 hJ2
    unfold wpB_Settling_earlierAlike_20
    refine ⟨fun w => ?_, fun w => ?_⟩
    · have w' := (nI_leI (a := 46) (b := i) (by omega) (by omega)).mp w
      have e : i = 46 := by omega
      subst e
      exact ⟨fun c => absurd rfl c, fun _ => hQ (some q) (Or.inr ⟨q, rfl, z1, b1, a1⟩)⟩
    · have w1 : i < 46 := Nat.lt_of_not_le (fun v => w (nI_le (a := 46) v (by omega)))
      have e1 : nI q * 46 + nI i = nI (46 * q + i) := by
        simp (disch := omega) only [q_lit, q_add, q_mul]
        exact congrArg nI (by omega)
      rw [e1, q_add, q_ix (by omega), q_ix (by omega)]
      refine ⟨vp_in_nI (by omega) (by omega), vp_in_nI (by omega) (by omega), fun ne => ⟨fun _ y hy => ?_, fun c => ?_⟩, fun eq y hy => ?_⟩
      · rw [hy, nI_1]
        refine hJ (r - (q + 1)) _ _ (by omega) ⟨q + 1, rfl, by omega, rfl, rfl, fun q' h => ?_⟩
        by_cases e : q' = q
        · subst e; exact fun all => ne (all i w1)
        · exact a1 q' (by omega)
      · have := (nI_eq (a := i) (b := 46) (by omega) (by omega)).mp c
        omega
      · rw [hy, nI_1]
        refine hJ2 (46 - (i + 1)) _ _ (by omega) ⟨i + 1, rfl, by omega, rfl, rfl, fun j h => ?_⟩
        by_cases e : j = i
        · subst e; exact eq
        · exact b1 j (by omega)
/-- Euclid -/
theorem q_lgz (x : Int64) : lg_cmp x 0 = 0 ↔ x = 0 := by
  unfold lg_cmp
  by_cases h1 : x > 0
  · rw [if_pos h1]
    exact ⟨fun h => absurd h (by decide), fun h => absurd h1 (by rw [h]; exact Int64.lt_irrefl)⟩
  · rw [if_neg h1]
    by_cases h2 : x = 0
    · rw [if_pos h2]; exact ⟨fun _ => h2, fun _ => rfl⟩
    · rw [if_neg h2]; exact ⟨fun h => absurd h (by decide), fun h => absurd h h2⟩
theorem q_lNi {a : Nat} (ha : a < 9223372036854775808) : lN a = 0 ↔ a = 0 := by
  refine ⟨fun h => ?_, fun h => by rw [h]; rfl⟩
  have h1 : (Int64.ofNat a).toBitVec.toNat = (0 : Int64).toBitVec.toNat := congrArg (fun x : Int64 => x.toBitVec.toNat) h
  have h2 : (Int64.ofNat a).toBitVec = BitVec.ofNat 64 a := rfl
  rw [h2, BitVec.toNat_ofNat, show (0 : Int64).toBitVec.toNat = 0 from rfl] at h1
  omega
theorem q_lNz {b : Nat} (hb : b < 9223372036854775808) : lg_cmp (lN b) 0 = 0 ↔ b = 0 := by
  rw [q_lgz]
  exact q_lNi hb
theorem q_half {a b : Nat} (h0 : 0 < b) (h : b < a) : 2 * (b * (a % b)) < a * b := by
  have h1 : a % b < b := Nat.mod_lt a h0
  have h2 := Nat.div_add_mod a b
  have h3 : 1 ≤ a / b := (Nat.le_div_iff_mul_le h0).mpr (by omega)
  have h4 : b * 1 ≤ b * (a / b) := Nat.mul_le_mul_left b h3
  have h5 : 2 * (a % b) < a := by omega
  have h6 : b * (2 * (a % b)) < b * a := (Nat.mul_lt_mul_left h0).mpr h5
  rw [Nat.mul_left_comm, Nat.mul_comm a b]
  exact h6
theorem xt_gcd {A B : Nat} {M : zMem} {Q : Int64 → zMem → Prop} (hA : A < 9223372036854775808) (hB : B < 4611686018427387904) (hQ : Q (lN (Nat.gcd A B)) M) : wp_Main_commonDivisor (lN A) (lN B) M Q := by
  unfold wp_Main_commonDivisor
  refine zlp3_r (fun m x y z M1 => M1 = M ∧ ∃ a b i, x = lN a ∧ y = lN b ∧ z = nI i ∧ a < 9223372036854775808 ∧ b < 4611686018427387904 ∧ Nat.gcd a b = Nat.gcd A B ∧ b = m ∧ (i = 0 ∨ (b < a ∧ ∃ k, a * b < 2 ^ k ∧ i + k = 125))) ?_ (n := B) ⟨rfl, A, B, 0, rfl, rfl, rfl, hA, hB, rfl, rfl, Or.inl rfl⟩
  rintro m x y z M1 ⟨rfl, a, b, i, rfl, rfl, rfl, ha, hb, hg, rfl, hi⟩ J hJ
  unfold wpB_Main_commonDivisor_3
  have i5 : i ≤ 125 := by rcases hi with h | ⟨-, k, -, h⟩ <;> omega
  have e1 : ¬ 1000000 ≤ nI i := by rw [Int32.not_le]; exact nI_lt (b := 1000000) (by omega) (by omega)
  refine ⟨fun q => absurd q e1, fun _ => ⟨fun q => ?_, fun q => ?_⟩⟩
  · rw [q_lNz (by omega)] at q
    subst q
    rw [Nat.gcd_zero_right] at hg
    rw [hg]; exact hQ
  · rw [q_lNz (by omega)] at q
    have b0 : 0 < b := by omega
    refine ⟨fun z => q ((q_lNi (a := b) (by omega)).mp z), fun y hy w hw => ?_⟩
    have hm : a % b < b := Nat.mod_lt a b0
    rw [pk_lRem (by omega) b0 (by omega)] at hy
    rw [hy, hw, nI_1]
    refine hJ (a % b) _ _ _ _ hm ⟨rfl, b, a % b, i + 1, rfl, rfl, rfl, by omega, by omega, ?_, rfl, Or.inr ⟨hm, ?_⟩⟩
    · rw [← hg, Nat.gcd_comm a b, Nat.gcd_rec b a, Nat.gcd_comm]
    · rcases hi with h | ⟨hba, k, hk, h⟩
      · refine ⟨124, ?_, by omega⟩
        have h1 : b * (a % b) ≤ 4611686018427387904 * (a % b) := Nat.mul_le_mul_right _ (by omega)
        have h2 : (2 : Nat) ^ 124 = 4611686018427387904 * 4611686018427387904 := by decide
        rw [h2]
        omega
      · have h1 := q_half b0 hba
        cases k with
        | zero =>
          have : 0 < a * b := Nat.mul_pos (by omega) b0
          rw [Nat.pow_zero] at hk
          omega
        | succ k =>
          rw [Nat.pow_succ] at hk
          exact ⟨k, by omega, by omega⟩
theorem mt_lowest {A B : Nat} {w : Int32} {W : zMem} {Q : Int64 → zMem → Prop} (hA : A < 9223372036854775808) (hB : B < 9223372036854775808) (h0 : 0 < Nat.gcd A B) (hQ : Q (lN ((if w = 0 then A else B) / Nat.gcd A B)) W) : wp_Model_lowest (lN A) (lN B) w W Q := by
  unfold wp_Model_lowest
  refine zlp2_r (fun m x y W1 => W1 = W ∧ ∃ a b, x = lN a ∧ y = lN b ∧ a < 9223372036854775808 ∧ b < 9223372036854775808 ∧ Nat.gcd a b = Nat.gcd A B ∧ b = m) ?_ (n := B) ⟨rfl, A, B, rfl, rfl, hA, hB, rfl, rfl⟩
  rintro m x y W1 ⟨rfl, a, b, rfl, rfl, ha, hb, hg, rfl⟩ J hJ
  unfold wpB_Model_lowest_6
  refine ⟨fun q => ?_, fun q => ?_⟩
  · rw [q_lNz (by omega)] at q
    subst q
    rw [Nat.gcd_zero_right] at hg
    subst hg
    have nz : ¬ lN (Nat.gcd A B) = 0 := fun z => by
      have := (q_lNi (a := Nat.gcd A B) (by omega)).mp z
      omega
    refine ⟨fun c => ⟨nz, ?_⟩, fun c => ⟨nz, ?_⟩⟩
    · rw [pk_lDiv (by omega) h0 (by omega)]
      rw [if_neg c] at hQ; exact hQ
    · rw [pk_lDiv (by omega) h0 (by omega)]
      rw [if_pos c] at hQ; exact hQ
  · rw [q_lNz (by omega)] at q
    have b0 : 0 < b := by omega
    refine ⟨fun z => q ((q_lNi (a := b) (by omega)).mp z), fun y hy => ?_⟩
    have hm : a % b < b := Nat.mod_lt a b0
    rw [pk_lRem (by omega) b0 (by omega)] at hy
    rw [hy]
    refine hJ (a % b) _ _ _ hm ⟨rfl, b, a % b, rfl, rfl, by omega, by omega, ?_, rfl⟩
    rw [← hg, Nat.gcd_comm a b, Nat.gcd_rec b a, Nat.gcd_comm]
/-- a ring is closed -/
theorem xt_close {g da ta dn tn : Nat} {M : zMem} {Q : zMem → Prop} (h1 : da < dn) (h2 : ta < tn) (h3 : dn < 2147483648) (h4 : tn < 2147483648)
    (hQ : ∀ M', M' g 0 = M g 0 → M' g 1 = 1 → M' g 2 = nI da → M' g 5 = nI ta → M' g 3 = nI (dn - da) → M' g 4 = nI (tn - ta) → M' g 6 = nI ((dn - da) / Nat.gcd (dn - da) (tn - ta)) → M' g 7 = nI ((tn - ta) / Nat.gcd (dn - da) (tn - ta)) → (∀ k, k ≠ g → M' k = M k) → Q M') : wp_Ring_close g (nI da) (nI ta) (nI dn) (nI tn) M Q := by
  unfold wp_Ring_close
  intro M1 e1 M2 e2 M3 e3 M4 e4 M5 e5
  have x3 : M5 g 3 = nI (dn - da) := by rw [e5, e4, zup_eq, upd_ne (by omega), zup_eq, upd_eq, q_sub (by omega)]
  have x4 : M5 g 4 = nI (tn - ta) := by rw [e5, zup_eq, upd_eq, q_sub (by omega)]
  have x0 : M5 g 0 = M g 0 := by rw [e5, e4, e3, e2, e1]; simp (disch := omega) only [zup_eq, upd_ne]
  have x1 : M5 g 1 = 1 := by rw [e5, e4, e3, e2, e1]; simp (disch := omega) only [zup_eq, upd_ne, upd_eq]
  have x2 : M5 g 2 = nI da := by rw [e5, e4, e3, e2]; simp (disch := omega) only [zup_eq, upd_ne, upd_eq]
  have x5 : M5 g 5 = nI ta := by rw [e5, e4, e3]; simp (disch := omega) only [zup_eq, upd_ne, upd_eq]
  have xk : ∀ k, k ≠ g → M5 k = M k := fun k hk => by rw [e5, e4, e3, e2, e1]; simp only [zup_ne hk]
  clear e5 e4 e3 e2 e1
  rw [x3, x4, q_l64 (by omega), q_l64 (by omega)]
  have g0 : 0 < Nat.gcd (dn - da) (tn - ta) := Nat.gcd_pos_of_pos_left _ (by omega)
  have g1 : Nat.gcd (dn - da) (tn - ta) ≤ dn - da := Nat.gcd_le_left _ (by omega)
  refine xt_gcd (by omega) (by omega) (fun y hy => ?_)
  rw [lN_i] at hy
  have c : ¬ y ≤ 0 := by rw [hy, Int32.not_le]; exact (nI_0lt (by omega)).mpr g0
  have c2 : ¬ y = 0 := fun z => c (by rw [z]; exact Int32.le_refl 0)
  refine ⟨fun z => absurd z c, fun _ => ⟨c2, fun M6 e6 => ⟨fun z => absurd z c, fun _ => ⟨c2, fun M7 e7 => ?_⟩⟩⟩⟩
  rw [x3, hy, pk_div (by omega) g0 (by omega)] at e6
  have y4 : M6 g 4 = nI (tn - ta) := by rw [e6, zup_eq, upd_ne (by omega)]; exact x4
  rw [y4, hy, pk_div (by omega) g0 (by omega)] at e7
  refine hQ M7 ?_ ?_ ?_ ?_ ?_ ?_ ?_ ?_ (fun k hk => ?_)
  · rw [e7, e6]; simp (disch := omega) only [zup_eq, upd_ne]; exact x0
  · rw [e7, e6]; simp (disch := omega) only [zup_eq, upd_ne]; exact x1
  · rw [e7, e6]; simp (disch := omega) only [zup_eq, upd_ne]; exact x2
  · rw [e7, e6]; simp (disch := omega) only [zup_eq, upd_ne]; exact x5
  · rw [e7, e6]; simp (disch := omega) only [zup_eq, upd_ne]; exact x3
  · rw [e7, e6]; simp (disch := omega) only [zup_eq, upd_ne]; exact x4
  · rw [e7, e6]; simp (disch := omega) only [zup_eq, upd_ne, upd_eq]
  · rw [e7]; simp (disch := omega) only [zup_eq, upd_eq]
  · rw [e7, e6]; simp only [zup_ne hk]; exact xk k hk
/-- two benches that a record can't tell apart -/
def sp_eq1 (b h : Nat) (X Y : zMem) : Prop := X (b + 1) h = Y (b + 1) h ∧ X (b + 2) h = Y (b + 2) h ∧ X (b + 3) h = Y (b + 3) h ∧ (0 ≤ X (b + 3) h → X (b + 4) h = Y (b + 4) h ∧ X (b + 5) h = Y (b + 5) h)
def sp_same (t b n H : Nat) (X Y : zMem) : Prop := X b 5 = Y b 5 ∧ (∀ h, h < H → sp_eq1 b h X Y) ∧ (∀ h p, h < H → p < n → sp_cnt t b (h * 8 + p) X = sp_cnt t b (h * 8 + p) Y)
/-- a hand's number, as a number -/
theorem sp_num_nI {t b n h : Nat} {M : zMem} (hd : sp_hd M t b n h) (n8 : n ≤ 8) (hl : ∃ l, l ≤ 40 ∧ M (b + 2) h = nI l) :
    ∃ c l d, l ≤ 40 ∧ d < 4 ∧ M (b + 2) h = nI l ∧ M (b + 1) h = nI d ∧ sp_num b h M = nI ((c * 100 + l) * 10 + d) ∧ ((c = 0 ∧ M (b + 3) h = -1) ∨ ∃ p u s, p < 8 ∧ u < 7 ∧ s < 3 ∧ c = (p + 1) * 100 + u * 10 + s ∧ M (b + 3) h = nI p ∧ M (b + 4) h = nI u ∧ M (b + 5) h = nI s) := by
  obtain ⟨l, l1, l2⟩ := hl
  have none : ∀ d, d < 4 → M (b + 1) h = nI d → M (b + 3) h = -1 → sp_num b h M = nI ((0 * 100 + l) * 10 + d) := fun d hd e1 e3 => by
    unfold sp_num
    rw [if_neg (by rw [e3]; decide), e1, l2]
    simp only [q_lit, q_mul, q_add]
  rcases hd with ⟨a1, -, a3⟩ | ⟨a1, -, a3⟩ | ⟨p, u, s, U, a1, a2, a3, a4, a5, a6, a7, -, a9, -⟩
  · exact ⟨0, l, 0, l1, by omega, l2, a1, none 0 (by omega) a1 a3, Or.inl ⟨rfl, a3⟩⟩
  · exact ⟨0, l, 1, l1, by omega, l2, a1, none 1 (by omega) a1 a3, Or.inl ⟨rfl, a3⟩⟩
  · have key : ∀ d, d < 4 → M (b + 1) h = nI d → sp_num b h M = nI ((((p + 1) * 100 + u * 10 + s) * 100 + l) * 10 + d) := fun d hd e1 => by
      unfold sp_num
      have c0 : 0 ≤ nI p := nI_le (a := 0) (b := p) (by omega) (by omega)
      rw [a5, if_pos c0, a6, a7, e1, l2]
      simp only [q_lit, q_mul, q_add]
    rcases a9 with ⟨d1, -⟩ | ⟨d1, -⟩
    · exact ⟨_, l, 2, l1, by omega, l2, d1, key 2 (by omega) d1, Or.inr ⟨p, u, s, by omega, by omega, a2, rfl, a5, a6, a7⟩⟩
    · exact ⟨_, l, 3, l1, by omega, l2, d1, key 3 (by omega) d1, Or.inr ⟨p, u, s, by omega, by omega, a2, rfl, a5, a6, a7⟩⟩
theorem sp_num_eq {t b n h : Nat} {X Y : zMem} (hx : sp_hd X t b n h) (hy : sp_hd Y t b n h) (n8 : n ≤ 8) (lx : ∃ l, l ≤ 40 ∧ X (b + 2) h = nI l) (ly : ∃ l, l ≤ 40 ∧ Y (b + 2) h = nI l) : sp_num b h X = sp_num b h Y ↔ sp_eq1 b h X Y := by
  refine ⟨fun e => ?_, fun ⟨e1, e2, e3, e4⟩ => ?_⟩
  · obtain ⟨c, l, d, l1, d1, x2, x1, xn, xc⟩ := sp_num_nI hx n8 lx
    obtain ⟨c', l', d', l1', d1', y2, y1, yn, yc⟩ := sp_num_nI hy n8 ly
    rw [xn, yn] at e
    have cb : c < 1000 := by rcases xc with ⟨h, -⟩ | ⟨p, u, s, p1, u1, s1, h, -⟩ <;> omega
    have cb' : c' < 1000 := by rcases yc with ⟨h, -⟩ | ⟨p, u, s, p1, u1, s1, h, -⟩ <;> omega
    have e' := (nI_eq (by omega) (by omega)).mp e
    have ed : d = d' := by omega
    have el : l = l' := by omega
    have ec : c = c' := by omega
    refine ⟨by rw [x1, y1, ed], by rw [x2, y2, el], ?_⟩
    rcases xc with ⟨h, x3⟩ | ⟨p, u, s, p1, u1, s1, h, x3, x4, x5⟩
    · rcases yc with ⟨h', y3⟩ | ⟨p', u', s', p1', u1', s1', h', y3, y4, y5⟩
      · exact ⟨by rw [x3, y3], fun z => absurd z (by rw [x3]; decide)⟩
      · omega
    · rcases yc with ⟨h', y3⟩ | ⟨p', u', s', p1', u1', s1', h', y3, y4, y5⟩
      · omega
      · have ep : p = p' := by omega
        have eu : u = u' := by omega
        have es : s = s' := by omega
        exact ⟨by rw [x3, y3, ep], fun _ => ⟨by rw [x4, y4, eu], by rw [x5, y5, es]⟩⟩
  · unfold sp_num
    rw [← e1, ← e2, ← e3]
    by_cases c : 0 ≤ X (b + 3) h
    · rw [if_pos c, if_pos c, ← (e4 c).1, ← (e4 c).2]
    · rw [if_neg c, if_neg c]
theorem sp_row_h {t b n H h : Nat} {M : zMem} (hh : h < H) (H5 : H ≤ 5) : sp_row t b n H M (h + 1) = sp_num b h M := by
  have c1 : ¬ h + 1 = 0 := by omega
  have c2 : h + 1 < 6 := by omega
  unfold sp_row
  rw [if_neg c1, if_pos c2, Nat.add_sub_cancel, if_pos hh]
theorem sp_row_p {t b n H h p : Nat} {M : zMem} (hh : h < H) (hp : p < n) (n8 : n ≤ 8) : sp_row t b n H M (6 + (h * 8 + p)) = sp_cnt t b (h * 8 + p) M := by
  have c1 : ¬ 6 + (h * 8 + p) = 0 := by omega
  have c2 : ¬ 6 + (h * 8 + p) < 6 := by omega
  have c3 : (h * 8 + p) / 8 < H ∧ (h * 8 + p) % 8 < n := by omega
  unfold sp_row
  rw [if_neg c1, if_neg c2, Nat.add_sub_cancel_left, if_pos c3]
/-- records are the same just if the benches are -/
theorem sp_row_eq {t b n H : Nat} {X Y : zMem} (n8 : n ≤ 8) (H5 : H ≤ 5) (hx : ∀ h, h < H → sp_hd X t b n h) (hy : ∀ h, h < H → sp_hd Y t b n h) (lx : ∀ h, h < H → ∃ l, l ≤ 40 ∧ X (b + 2) h = nI l) (ly : ∀ h, h < H → ∃ l, l ≤ 40 ∧ Y (b + 2) h = nI l) : (∀ i, i < 46 → sp_row t b n H X i = sp_row t b n H Y i) ↔ sp_same t b n H X Y := by
  refine ⟨fun e => ⟨?_, fun h hh => ?_, fun h p hh hp => ?_⟩, fun ⟨e1, e2, e3⟩ i hi => ?_⟩
  · have := e 0 (by omega)
    unfold sp_row at this
    rw [if_pos rfl, if_pos rfl] at this
    exact this
  · have := e (h + 1) (by omega)
    rw [sp_row_h hh H5, sp_row_h hh H5] at this
    exact (sp_num_eq (hx h hh) (hy h hh) n8 (lx h hh) (ly h hh)).mp this
  · have := e (6 + (h * 8 + p)) (by omega)
    rw [sp_row_p hh hp n8, sp_row_p hh hp n8] at this
    exact this
  · unfold sp_row
    by_cases c0 : i = 0
    · rw [if_pos c0, if_pos c0]; exact e1
    · rw [if_neg c0, if_neg c0]
      by_cases c6 : i < 6
      · rw [if_pos c6, if_pos c6]
        by_cases ch : i - 1 < H
        · rw [if_pos ch, if_pos ch]
          exact (sp_num_eq (hx _ ch) (hy _ ch) n8 (lx _ ch) (ly _ ch)).mpr (e2 _ ch)
        · rw [if_neg ch, if_neg ch]
      · rw [if_neg c6, if_neg c6]
        by_cases ch : (i - 6) / 8 < H ∧ (i - 6) % 8 < n
        · rw [if_pos ch, if_pos ch]
          have := e3 _ _ ch.1 ch.2
          rw [show (i - 6) / 8 * 8 + (i - 6) % 8 = i - 6 by omega] at this
          exact this
        · rw [if_neg ch, if_neg ch]
/-- the reference's comparison of two that were seen -/
theorem mt_areSame {a c H : Nat} {W : zMem} {Q : Int32 → zMem → Prop} (ha : a < 120) (hc : c < 120) (hH : W 0 18 = nI H) (H5 : H ≤ 5) (h1 : (∀ k, k < 30 + 8 * H → W 12 (80 * a + k) = W 12 (80 * c + k)) → Q 1 W) (h0 : (¬ ∀ k, k < 30 + 8 * H → W 12 (80 * a + k) = W 12 (80 * c + k)) → Q 0 W) : wp_Model_areSame (nI a) (nI c) W Q := by
  unfold wp_Model_areSame
  refine zlp2_r (fun m x y W1 => W1 = W ∧ ∃ k, y = nI k ∧ k ≤ 30 + 8 * H ∧ m = 30 + 8 * H - k ∧ ((x = 1 ∧ ∀ j, j < k → W 12 (80 * a + j) = W 12 (80 * c + j)) ∨ (x = 0 ∧ ¬ ∀ j, j < 30 + 8 * H → W 12 (80 * a + j) = W 12 (80 * c + j)))) ?_ (n := 30 + 8 * H) ⟨rfl, 0, rfl, by omega, rfl, Or.inl ⟨rfl, fun j hj => absurd hj (by omega)⟩⟩
  rintro m x y W1 ⟨rfl, k, rfl, hk, rfl, hx⟩ J hJ
  unfold wpB_Model_areSame_5
  have eN : 30 + 8 * W1 0 18 = nI (30 + 8 * H) := by rw [hH]; simp only [q_lit, q_mul, q_add]
  rw [eN]
  refine ⟨fun q => ?_, fun q => ?_⟩
  · have q' := (nI_leI (a := 30 + 8 * H) (b := k) (by omega) (by omega)).mp q
    have e : k = 30 + 8 * H := by omega
    subst e
    rcases hx with ⟨rfl, all⟩ | ⟨rfl, no⟩
    · exact ⟨Or.inr rfl, h1 all⟩
    · exact ⟨Or.inl rfl, h0 no⟩
  · have q1 : k < 30 + 8 * H := Nat.lt_of_not_le (fun z => q (nI_le z (by omega)))
    have e1 : 80 * nI a + nI k = nI (80 * a + k) := by simp only [q_lit, q_mul, q_add]
    have e2 : 80 * nI c + nI k = nI (80 * c + k) := by simp only [q_lit, q_mul, q_add]
    rw [e1, e2, q_ix (by omega), q_ix (by omega)]
    refine ⟨fun z y hy => ?_, fun z => ⟨vp_in_nI (by omega) (by omega), vp_in_nI (by omega) (by omega), fun ne y hy => ?_, fun eq y hy => ?_⟩⟩
    · rw [hy, nI_1]
      refine hJ (30 + 8 * H - (k + 1)) _ _ _ (by omega) ⟨rfl, k + 1, rfl, by omega, rfl, Or.inr ⟨rfl, ?_⟩⟩
      rcases hx with ⟨x1, -⟩ | ⟨-, no⟩
      · rw [x1] at z; exact absurd z (by decide)
      · exact no
    · rw [hy, nI_1]
      exact hJ (30 + 8 * H - (k + 1)) _ _ _ (by omega) ⟨rfl, k + 1, rfl, by omega, rfl, Or.inr ⟨rfl, fun all => ne (all k q1)⟩⟩
    · rw [hy, nI_1]
      rcases hx with ⟨-, all⟩ | ⟨x0, -⟩
      · refine hJ (30 + 8 * H - (k + 1)) _ _ _ (by omega) ⟨rfl, k + 1, rfl, by omega, rfl, Or.inl ⟨rfl, fun j hj => ?_⟩⟩
        by_cases e : j = k
        · rw [e]; exact eq
        · exact all j (by omega)
      · exact absurd x0 z
theorem mt_earlier {r H : Nat} {W : zMem} {Q : Int32 → zMem → Prop} (hr : r < 120) (hs : W 0 28 = nI (r + 1)) (hH : W 0 18 = nI H) (H5 : H ≤ 5) (hQ : ∀ o, sp_fst (fun q => ∀ k, k < 30 + 8 * H → W 12 (80 * q + k) = W 12 (80 * r + k)) r o → Q (match o with | none => -4 | some q => nI q) W) : wp_Model_earlier W Q := by
  unfold wp_Model_earlier
  refine zlp1_r (fun m x W1 => W1 = W ∧ ∃ q, x = nI q ∧ q ≤ r ∧ m = r - q ∧ ∀ q', q' < q → ¬ ∀ k, k < 30 + 8 * H → W 12 (80 * q' + k) = W 12 (80 * r + k)) ?_ (n := r) ⟨rfl, 0, rfl, by omega, rfl, fun q' h => absurd h (by omega)⟩
  rintro m x W1 ⟨rfl, q, rfl, hq, rfl, a1⟩ J hJ
  unfold wpB_Model_earlier_2
  have e1 : W1 0 28 - 1 = nI r := by
    rw [hs]
    exact (q_sub (a := r + 1) (b := 1) (by omega)).trans (congrArg nI (by omega))
  rw [e1]
  refine ⟨fun z => ?_, fun z => ?_⟩
  · have z' := (nI_leI (a := r) (b := q) (by omega) (by omega)).mp z
    have e : q = r := by omega
    subst e
    exact hQ none (Or.inl ⟨rfl, a1⟩)
  · have z1 : q < r := Nat.lt_of_not_le (fun w => z (nI_le w (by omega)))
    refine mt_areSame (by omega) hr hH H5 (fun all => ⟨fun c => absurd c (by decide), fun _ => hQ (some q) (Or.inr ⟨q, rfl, z1, all, a1⟩)⟩) (fun no => ⟨fun _ y hy => ?_, fun c => absurd rfl c⟩)
    rw [hy, nI_1]
    refine hJ (r - (q + 1)) _ _ (by omega) ⟨rfl, q + 1, rfl, by omega, rfl, fun q' h => ?_⟩
    by_cases e : q' = q
    · rw [e]; exact no
    · exact a1 q' (by omega)
/-- what the reference writes down of a hand -/
def ms_c (W : zMem) (h k : Nat) : Int32 := if k = 1 ∧ ¬ (W 6 (104 + 8 * h) = 3 ∨ W 6 (104 + 8 * h) = 1) then 0 else W 6 (104 + 8 * h + k) + (if 2 ≤ k ∧ k ≤ 4 then -nI 4 else nI 0)
def ms_l (W : zMem) (w p : Nat) : Int32 := if W 4 3 = 0 then 0 else if W 4 3 * (W 4 (60 + 8 * w + p) - 1) ≤ W 6 (144 + 8 * w + p) then W 4 3 * (W 4 (60 + 8 * w + p) - 1) else W 6 (144 + 8 * w + p)
theorem mt_lay20 {r h : Nat} {K Q : zMem → Prop} {W : zMem} (hr : r < 120) (hh : h < 5) (hK : ∀ W', (∀ k, k < 5 → W' 12 (80 * r + (5 * h + k)) = ms_c W h k) → (∀ j, (j < 80 * r + 5 * h ∨ 80 * r + 5 * h + 5 ≤ j) → W' 12 j = W 12 j) → (∀ c, c ≠ 12 → W' c = W c) → K W') : ∃ n, zlp1 (wpB_Model_laySeen_20 (nI (80 * r)) (nI h) K Q) n 0 W := by
  refine zlp1_r (fun m x W1 => ∃ k, x = nI k ∧ k ≤ 5 ∧ m = 5 - k ∧ (∀ i, i < k → W1 12 (80 * r + (5 * h + i)) = ms_c W h i) ∧ (∀ j, (j < 80 * r + 5 * h ∨ 80 * r + 5 * h + 5 ≤ j) → W1 12 j = W 12 j) ∧ (∀ c, c ≠ 12 → W1 c = W c)) ?_ (n := 5) ⟨0, rfl, by omega, rfl, fun i hi => absurd hi (by omega), fun _ _ => rfl, fun _ _ => rfl⟩
  rintro m x W1 ⟨k, rfl, hk, rfl, a1, a2, a3⟩ J hJ
  have x6 : W1 6 = W 6 := a3 6 (by omega)
  have e1 : nI (80 * r) + 5 * nI h + nI k = nI (80 * r + (5 * h + k)) := by
    simp only [q_lit, q_mul, q_add]
    exact congrArg nI (by omega)
  have put : ∀ v : Int32, k < 5 → v = ms_c W h k → ∀ W2 : zMem, W2 = zup W1 12 (80 * r + (5 * h + k)) v → ∀ y : Int32, y = nI k + 1 → J y W2 := fun v k5 ev W2 e2 y hy => by
    rw [hy, nI_1, e2]
    refine hJ (5 - (k + 1)) _ _ (by omega) ⟨k + 1, rfl, by omega, rfl, fun i hi => ?_, fun j hj => ?_, fun c hc => ?_⟩
    · by_cases e : i = k
      · rw [e, zup_eq, upd_eq]; exact ev
      · rw [zup_eq, upd_ne (by omega)]; exact a1 i (by omega)
    · rw [zup_eq, upd_ne (by omega)]; exact a2 j hj
    · rw [zup_ne hc]; exact a3 c hc
  have j52 : k < 5 → ¬ (k = 1 ∧ ¬ (W 6 (104 + 8 * h) = 3 ∨ W 6 (104 + 8 * h) = 1)) → wpJ_Model_laySeen_52 K J Q (nI (80 * r)) (nI h) (nI k) W1 := fun k5 nc => by
    unfold wpJ_Model_laySeen_52 wpJ_Model_laySeen_57
    refine ⟨fun c => absurd c (by decide), fun _ => ?_⟩
    show wp_Model_at (nI 1) (nI h) (nI k) W1 _
    rw [e_at (by omega) hh (by omega), e1, q_ix (by omega)]
    refine ⟨vp_in_nI (by omega) (by omega), put _ k5 ?_⟩
    unfold ms_c
    rw [if_neg nc, x6]
  have j57 : k < 5 → (k = 1 ∧ ¬ (W 6 (104 + 8 * h) = 3 ∨ W 6 (104 + 8 * h) = 1)) → wpJ_Model_laySeen_57 K J Q (nI (80 * r)) (nI h) (nI k) 0 W1 := fun k5 nc => by
    unfold wpJ_Model_laySeen_57
    refine ⟨fun _ => ?_, fun c => absurd rfl c⟩
    rw [e1, q_ix (by omega)]
    refine ⟨vp_in_nI (by omega) (by omega), put _ k5 ?_⟩
    unfold ms_c
    rw [if_pos nc]
  unfold wpB_Model_laySeen_20
  refine ⟨fun q => ?_, fun q => ?_⟩
  · have q' := (nI_ltI (a := 4) (b := k) (by omega) (by omega)).mp q
    have e : k = 5 := by omega
    subst e
    exact hK W1 a1 a2 a3
  · have k5 : k < 5 := Nat.lt_of_not_le (fun z => q (nI_lt (a := 4) (b := k) (by omega) (by omega)))
    refine ⟨fun c => j52 k5 (fun z => c (by rw [z.1]; rfl)), fun c => ?_⟩
    have k1 : k = 1 := (nI_eq (a := k) (b := 1) (by omega) (by omega)).mp c
    show wp_Model_at (nI 1) (nI h) (nI 0) W1 _
    rw [e_at (by omega) hh (by omega)]
    have e0 : W1 6 (96 * 1 + 8 + 8 * h + 0) + (if 2 ≤ 0 ∧ 0 ≤ 4 then -nI 4 else nI 0) = W 6 (104 + 8 * h) := by
      rw [if_neg (by omega), q_x0, x6]
      rfl
    rw [e0]
    refine ⟨fun d => j52 k5 (fun z => z.2 (Or.inl d)), fun d => ?_⟩
    show wp_Model_at (nI 1) (nI h) (nI 0) W1 _
    rw [e_at (by omega) hh (by omega), e0]
    exact ⟨fun d2 => j57 k5 ⟨k1, fun z => z.elim d d2⟩, fun d2 => j52 k5 (fun z => z.2 (Or.inr d2))⟩
theorem mt_lay95 {r h w : Nat} {K Q : zMem → Prop} {W : zMem} (hr : r < 120) (hh : h < 5) (hw : w < 5) (ew : W 8 h = nI w) (hK : ∀ W', (∀ p, p < 8 → W' 12 (80 * r + (30 + 8 * h + p)) = ms_l W w p) → (∀ j, (j < 80 * r + 30 + 8 * h ∨ 80 * r + 30 + 8 * h + 8 ≤ j) → W' 12 j = W 12 j) → (∀ c, c ≠ 12 → W' c = W c) → K W') : ∃ n, zlp1 (wpB_Model_laySeen_95 (nI (80 * r)) (nI h) K Q) n 0 W := by
  refine zlp1_r (fun m x W1 => ∃ k, x = nI k ∧ k ≤ 8 ∧ m = 8 - k ∧ (∀ i, i < k → W1 12 (80 * r + (30 + 8 * h + i)) = ms_l W w i) ∧ (∀ j, (j < 80 * r + 30 + 8 * h ∨ 80 * r + 30 + 8 * h + 8 ≤ j) → W1 12 j = W 12 j) ∧ (∀ c, c ≠ 12 → W1 c = W c)) ?_ (n := 8) ⟨0, rfl, by omega, rfl, fun i hi => absurd hi (by omega), fun _ _ => rfl, fun _ _ => rfl⟩
  rintro m x W1 ⟨k, rfl, hk, rfl, a1, a2, a3⟩ J hJ
  have x6 : W1 6 = W 6 := a3 6 (by omega)
  have x4 : W1 4 = W 4 := a3 4 (by omega)
  have x8 : W1 8 = W 8 := a3 8 (by omega)
  unfold wpB_Model_laySeen_95
  refine ⟨fun q => ?_, fun q => ?_⟩
  · have q' := (nI_leI (a := 8) (b := k) (by omega) (by omega)).mp q
    have e : k = 8 := by omega
    subst e
    exact hK W1 a1 a2 a3
  · have k8 : k < 8 := Nat.lt_of_not_le (fun z => q (nI_le (a := 8) z (by omega)))
    have e1 : nI (80 * r) + 30 + 8 * nI h + nI k = nI (80 * r + (30 + 8 * h + k)) := by
      simp only [q_lit, q_mul, q_add]
      exact congrArg nI (by omega)
    have e2 : 60 + 8 * nI w + nI k = nI (60 + 8 * w + k) := by simp only [q_lit, q_mul, q_add]
    have e3 : ix (3 : Int32) = 3 := q_ix (n := 3) (by omega)
    have i3 : vp_in (3 : Int32) 100 := vp_in_nI (n := 3) (by omega) (by omega)
    have put : ∀ v : Int32, v = ms_l W w k → ∀ W2 : zMem, W2 = zup W1 12 (80 * r + (30 + 8 * h + k)) v → ∀ y : Int32, y = nI k + 1 → J y W2 := fun v ev W2 e2 y hy => by
      rw [hy, nI_1, e2]
      refine hJ (8 - (k + 1)) _ _ (by omega) ⟨k + 1, rfl, by omega, rfl, fun i hi => ?_, fun j hj => ?_, fun c hc => ?_⟩
      · by_cases e : i = k
        · rw [e, zup_eq, upd_eq]; exact ev
        · rw [zup_eq, upd_ne (by omega)]; exact a1 i (by omega)
      · rw [zup_eq, upd_ne (by omega)]; exact a2 j hj
      · rw [zup_ne hc]; exact a3 c hc
    rw [q_ix (by omega), x8, ew]
    refine ⟨vp_in_nI (by omega) (by omega), ?_⟩
    show wp_Model_learntAt (nI 1) (nI w) (nI k) W1 _
    rw [e_learntAt, q_ix (by omega)]
    refine ⟨vp_in_nI (by omega) (by omega), fun v hv => ⟨i3, vp_in_nI (by omega) (by omega), ?_⟩⟩
    rw [x8, ew, e2, e3, x4, q_ix (by omega), e1, q_ix (by omega)]
    refine ⟨vp_in_nI (by omega) (by omega), fun z hz => ⟨i3, fun c => ⟨fun d => ⟨vp_in_nI (by omega) (by omega), put _ ?_⟩, fun d => ⟨vp_in_nI (by omega) (by omega), put _ ?_⟩⟩, fun c => ⟨vp_in_nI (by omega) (by omega), put _ ?_⟩⟩⟩
    · rw [hz, hv, x6] at d
      unfold ms_l
      rw [if_neg c, hz, if_pos (by exact d)]
    · rw [hz, hv, x6] at d
      unfold ms_l
      rw [if_neg c, hv, x6, if_neg (by exact d)]
    · unfold ms_l
      rw [if_pos c]
theorem ms_c_of {W W' : zMem} {h k : Nat} (e : W' 6 = W 6) : ms_c W' h k = ms_c W h k := by unfold ms_c; rw [e]
theorem ms_l_of {W W' : zMem} {w p : Nat} (e : W' 6 = W 6) (e4 : W' 4 = W 4) : ms_l W' w p = ms_l W w p := by unfold ms_l; rw [e, e4]
/-- what the reference writes down -/
theorem mt_laySeen {r H : Nat} {wh : Nat → Nat} {W : zMem} {Q : zMem → Prop} (hr : r < 120) (hs : W 0 28 = nI r) (hH : W 0 18 = nI H) (H5 : H ≤ 5) (hw : ∀ h, h < H → wh h < 5 ∧ W 8 h = nI (wh h))
    (hQ : ∀ W', (∀ h k, h < H → k < 5 → W' 12 (80 * r + (5 * h + k)) = ms_c W h k) → (∀ h p, h < H → p < 8 → W' 12 (80 * r + (30 + 8 * h + p)) = ms_l W (wh h) p) → W' 12 (80 * r + 25) = W 6 100 → (∀ j, (j < 80 * r ∨ (80 * r + 5 * H ≤ j ∧ j < 80 * r + 25) ∨ (80 * r + 26 ≤ j ∧ j < 80 * r + 30) ∨ 80 * r + 80 ≤ j) → W' 12 j = W 12 j) → W' 13 = upd (W 13) r (W 6 97) → W' 14 = upd (W 14) r (W 6 96) → W' 0 = upd (W 0) 28 (nI (r + 1)) → (∀ c, c ≠ 0 → c ≠ 12 → c ≠ 13 → c ≠ 14 → W' c = W c) → Q W') : wp_Model_laySeen W Q := by
  unfold wp_Model_laySeen
  intro x0 hx0
  have ex : x0 = nI (80 * r) := by rw [hx0, hs]; simp only [q_lit, q_mul]
  subst ex
  refine zlp1_r (fun m x W1 => ∃ h, x = nI h ∧ h ≤ H ∧ m = H - h ∧ (∀ j k, j < h → k < 5 → W1 12 (80 * r + (5 * j + k)) = ms_c W j k) ∧ (∀ j p, j < h → p < 8 → W1 12 (80 * r + (30 + 8 * j + p)) = ms_l W (wh j) p) ∧ (∀ j, (j < 80 * r ∨ (80 * r + 5 * H ≤ j ∧ j < 80 * r + 30) ∨ 80 * r + 80 ≤ j) → W1 12 j = W 12 j) ∧ (∀ c, c ≠ 12 → W1 c = W c)) ?_ (n := H) ⟨0, rfl, by omega, rfl, fun j k hj => absurd hj (by omega), fun j p hj => absurd hj (by omega), fun _ _ => rfl, fun _ _ => rfl⟩
  rintro m x W1 ⟨h, rfl, hh, rfl, a1, a2, a3, a4⟩ J hJ
  have x6 : W1 6 = W 6 := a4 6 (by omega)
  have x4 : W1 4 = W 4 := a4 4 (by omega)
  unfold wpB_Model_laySeen_10
  rw [a4 0 (by omega), hH]
  refine ⟨fun q => ?_, fun q => ?_⟩
  · have q' := (nI_leI (a := H) (b := h) (by omega) (by omega)).mp q
    have e : h = H := by omega
    subst e
    show wp_Model_of (nI 1) (nI 4) W1 _
    have e25 : nI (80 * r) + 25 = nI (80 * r + 25) := by simp only [q_lit, q_add]
    rw [e_of (by omega) (by omega), e25, q_ix (by omega), x6]
    refine ⟨vp_in_nI (by omega) (by omega), fun W2 e2 => ?_⟩
    have y0 : W2 0 = W 0 := by rw [e2, zup_ne (by omega)]; exact a4 0 (by omega)
    have y6 : W2 6 = W 6 := by rw [e2, zup_ne (by omega)]; exact x6
    show wp_Model_of (nI 1) (nI 1) W2 _
    rw [e_of (by omega) (by omega), y0, hs, q_ix (by omega), y6]
    refine ⟨vp_in_nI hr (by omega), fun W3 e3 => ?_⟩
    have z0 : W3 0 = W 0 := by rw [e3, zup_ne (by omega)]; exact y0
    have z6 : W3 6 = W 6 := by rw [e3, zup_ne (by omega)]; exact y6
    show wp_Model_of (nI 1) (nI 0) W3 _
    rw [e_of (by omega) (by omega), z0, hs, q_ix (by omega), z6]
    refine ⟨vp_in_nI hr (by omega), fun W4 e4 W5 e5 => ?_⟩
    have w0 : W4 0 = W 0 := by rw [e4, zup_ne (by omega)]; exact z0
    rw [w0, hs, nI_1] at e5
    have v12 : W5 12 = upd (W1 12) (80 * r + 25) (W 6 (96 * 1 + 4)) := by
      rw [e5, zup_ne (by omega), e4, zup_ne (by omega), e3, zup_ne (by omega), e2, zup_eq]
    refine hQ W5 (fun j k j1 k1 => ?_) (fun j p j1 p1 => ?_) ?_ (fun j hj => ?_) ?_ ?_ ?_ (fun c c0 c12 c13 c14 => ?_)
    · rw [v12, upd_ne (by omega)]; exact a1 j k j1 k1
    · rw [v12, upd_ne (by omega)]; exact a2 j p j1 p1
    · rw [v12, upd_eq]
    · rw [v12, upd_ne (by omega)]; exact a3 j (by omega)
    · rw [e5, zup_ne (by omega), e4, zup_ne (by omega), e3, zup_eq, e2, zup_ne (by omega), a4 13 (by omega)]
    · rw [e5, zup_ne (by omega), e4, zup_eq, e3, zup_ne (by omega), e2, zup_ne (by omega), a4 14 (by omega)]
    · rw [e5, zup_eq, w0]
    · rw [e5, zup_ne c0, e4, zup_ne c14, e3, zup_ne c13, e2, zup_ne c12]; exact a4 c c12
  · have q1 : h < H := Nat.lt_of_not_le (fun z => q (nI_le z (by omega)))
    obtain ⟨w5, ew⟩ := hw h q1
    refine mt_lay20 hr (by omega) (fun W2 b1 b2 b3 => ?_)
    have y6 : W2 6 = W 6 := (b3 6 (by omega)).trans x6
    have y4 : W2 4 = W 4 := (b3 4 (by omega)).trans x4
    refine mt_lay95 (w := wh h) hr (by omega) w5 (by rw [b3 8 (by omega), a4 8 (by omega)]; exact ew) (fun W3 c1 c2 c3 y hy => ?_)
    rw [hy, nI_1]
    refine hJ (H - (h + 1)) _ _ (by omega) ⟨h + 1, rfl, by omega, rfl, fun j k j1 k1 => ?_, fun j p j1 p1 => ?_, fun j hj => ?_, fun c hc => ?_⟩
    · rw [c2 _ (by omega)]
      by_cases e : j = h
      · rw [e, b1 k k1]; exact ms_c_of x6
      · rw [b2 _ (by omega)]; exact a1 j k (by omega) k1
    · by_cases e : j = h
      · rw [e, c1 p p1]; exact ms_l_of y6 y4
      · rw [c2 _ (by omega), b2 _ (by omega)]; exact a2 j p (by omega) p1
    · rw [c2 _ (by omega), b2 _ (by omega)]; exact a3 j hj
    · rw [c3 c hc, b3 c hc]; exact a4 c hc
/-- what the reference writes down, in the words of the class's bench -/
def sp_mc (b h k : Nat) (M : zMem) : Int32 := if k = 0 then M (b + 1) h else if k = 1 then M (b + 2) h else if 0 ≤ M (b + 3) h then M (b + 1 + k) h else -nI 4
theorem mq_c {t b n H L h k : Nat} {wh : Nat → Nat} {W M : zMem} (r : mr W M 1 t b n H L wh) (hd : sp_hd M t b n h) (hh : h < H) (hk : k < 5) : ms_c W h k = sp_mc b h k M := by
  obtain ⟨r1, r2, -, r4⟩ := r.2.2.2.1 h hh
  have e0 : W 6 (104 + 8 * h) = M (b + 1) h := r1
  have e1 : W 6 (104 + 8 * h + 1) = M (b + 2) h := r2
  unfold ms_c sp_mc
  by_cases k0 : k = 0
  · subst k0
    rw [if_neg (by omega), if_neg (by omega), if_pos rfl, q_x0]
    exact e0
  by_cases k1 : k = 1
  · subst k1
    rw [if_neg (show ¬ (2 ≤ 1 ∧ 1 ≤ 4) by omega), q_x0, if_neg k0, if_pos rfl, e0, e1]
    by_cases c : M (b + 1) h = 3 ∨ M (b + 1) h = 1
    · rw [if_neg (fun z => z.2 c)]
    · rw [if_pos ⟨rfl, c⟩]
      rcases hd with ⟨a1, a2, -⟩ | ⟨a1, -⟩ | ⟨p, u, s, U, -, -, -, -, -, -, -, -, a9, -⟩
      · exact a2.symm
      · exact absurd (Or.inr a1) c
      · rcases a9 with ⟨d1, d2⟩ | ⟨d1, -⟩
        · exact d2.symm
        · exact absurd (Or.inl d1) c
  · rw [if_neg (fun z => k1 z.1), if_pos (by omega), if_neg k0, if_neg k1]
    have hk3 : k = 2 ∨ k = 3 ∨ k = 4 := by omega
    rcases r4 with ⟨p3, w2, w3, w4⟩ | ⟨p, u, s, p1, u1, s1, p3, p4, p5, w2, w3, w4⟩
    · rw [if_neg (by rw [p3]; decide)]
      have : W 6 (104 + 8 * h + k) = nI 0 := by
        rcases hk3 with rfl | rfl | rfl
        · exact w2
        · exact w3
        · exact w4
      rw [this]; exact q_04
    · have c0 : 0 ≤ nI p := nI_le (a := 0) (b := p) (by omega) (by omega)
      rw [p3, if_pos c0]
      rcases hk3 with rfl | rfl | rfl
      · exact (congrArg (· + -nI 4) w2).trans ((q_m4 p).trans p3.symm)
      · exact (congrArg (· + -nI 4) w3).trans ((q_m4 u).trans p4.symm)
      · exact (congrArg (· + -nI 4) w4).trans ((q_m4 s).trans p5.symm)
theorem mq_l {t b n H L h p : Nat} {wh : Nat → Nat} {W M : zMem} (r : mr W M 1 t b n H L wh) (hh : h < H) (hp : p < n) (hl : 0 ≤ M (b + 7) (h * 8 + p)) : ms_l W (wh h) p = sp_cnt t b (h * 8 + p) M := by
  have e1 : W 4 (60 + 8 * wh h + p) = M (t + 3) (h * 8 + p) := r.2.2.1.2.2.1 h p hh hp
  have e2 : W 6 (144 + 8 * wh h + p) = M (b + 7) (h * 8 + p) := r.2.2.1.2.2.2.1 h p hh hp
  have e3 : W 4 3 = M t 3 := r.2.1.2.2.2.1
  unfold ms_l sp_cnt
  rw [e1, e2, e3]
  by_cases c : M t 3 = 0
  · rw [if_pos c, c, Int32.zero_mul, if_pos hl]
  · rw [if_neg c]
theorem mq_l0 {t b n H L h p : Nat} {wh : Nat → Nat} {W M W' M' : zMem} (r : mr W M 1 t b n H L wh) (r' : mr W' M' 1 t b n H L wh) (e4 : W' 4 = W 4) (hh : h < H) (hp : n ≤ p) (p8 : p < 8) : ms_l W (wh h) p = ms_l W' (wh h) p := by
  have e2 : W 6 (144 + 8 * wh h + p) = 0 := r.2.2.1.2.2.2.2 h p hh hp p8
  have e2' : W' 6 (144 + 8 * wh h + p) = 0 := r'.2.2.1.2.2.2.2 h p hh hp p8
  unfold ms_l
  rw [e2, e2', e4]
theorem sp_mc_eq {b h : Nat} {X Y : zMem} (hx : X (b + 3) h = -1 ∨ ∃ p, p < 8 ∧ X (b + 3) h = nI p) (hy : Y (b + 3) h = -1 ∨ ∃ p, p < 8 ∧ Y (b + 3) h = nI p) : (∀ k, k < 5 → sp_mc b h k X = sp_mc b h k Y) ↔ sp_eq1 b h X Y := by
  have v0 : ∀ Z : zMem, sp_mc b h 0 Z = Z (b + 1) h := fun Z => rfl
  have v1 : ∀ Z : zMem, sp_mc b h 1 Z = Z (b + 2) h := fun Z => rfl
  have v2 : ∀ (k : Nat) (Z : zMem), 2 ≤ k → sp_mc b h k Z = if 0 ≤ Z (b + 3) h then Z (b + 1 + k) h else -nI 4 := fun k Z hk => by
    unfold sp_mc
    rw [if_neg (by omega), if_neg (by omega)]
  refine ⟨fun e => ?_, fun ⟨e1, e2, e3, e4⟩ k hk => ?_⟩
  · have f0 := e 0 (by omega)
    have f1 := e 1 (by omega)
    have f2 := e 2 (by omega)
    have f3 := e 3 (by omega)
    have f4 := e 4 (by omega)
    rw [v0, v0] at f0
    rw [v1, v1] at f1
    rw [v2 2 X (by omega), v2 2 Y (by omega)] at f2
    rw [v2 3 X (by omega), v2 3 Y (by omega)] at f3
    rw [v2 4 X (by omega), v2 4 Y (by omega)] at f4
    refine ⟨f0, f1, ?_⟩
    rcases hx with x3 | ⟨p, p8, x3⟩
    · have cx : ¬ 0 ≤ X (b + 3) h := by rw [x3]; decide
      rcases hy with y3 | ⟨p', p8', y3⟩
      · exact ⟨by rw [x3, y3], fun z => absurd z cx⟩
      · have cy : 0 ≤ Y (b + 3) h := by rw [y3]; exact nI_le (a := 0) (b := p') (by omega) (by omega)
        rw [if_neg cx, if_pos cy] at f2
        have f2' : -nI 4 = nI p' := f2.trans y3
        rw [q_eqn (by omega) (by omega) (by omega)] at f2'
        exact f2'.elim
    · have cx : 0 ≤ X (b + 3) h := by rw [x3]; exact nI_le (a := 0) (b := p) (by omega) (by omega)
      rcases hy with y3 | ⟨p', p8', y3⟩
      · have cy : ¬ 0 ≤ Y (b + 3) h := by rw [y3]; decide
        rw [if_pos cx, if_neg cy] at f2
        have f2' : nI p = -nI 4 := x3.symm.trans f2
        rw [q_neq (by omega) (by omega) (by omega)] at f2'
        exact f2'.elim
      · have cy : 0 ≤ Y (b + 3) h := by rw [y3]; exact nI_le (a := 0) (b := p') (by omega) (by omega)
        rw [if_pos cx, if_pos cy] at f2 f3 f4
        exact ⟨f2, fun _ => ⟨f3, f4⟩⟩
  · have hk3 : k = 0 ∨ k = 1 ∨ k = 2 ∨ k = 3 ∨ k = 4 := by omega
    rcases hk3 with rfl | rfl | hk3
    · exact e1
    · exact e2
    · rw [v2 k X (by omega), v2 k Y (by omega), ← e3]
      by_cases c : 0 ≤ X (b + 3) h
      · rw [if_pos c, if_pos c]
        rcases hk3 with rfl | rfl | rfl
        · exact e3
        · exact (e4 c).1
        · exact (e4 c).2
      · rw [if_neg c, if_neg c]
/-- what the reference has seen is the same just if the benches are -/
theorem mq_row_eq {t b n H L r1 r2 : Nat} {wh : Nat → Nat} {V W1 W2 X Y : zMem} (n8 : n ≤ 8) (ra : mr W1 X 1 t b n H L wh) (rb : mr W2 Y 1 t b n H L wh) (e4 : W2 4 = W1 4) (ox : ∀ h, h < H → sp_hd X t b n h) (oy : ∀ h, h < H → sp_hd Y t b n h)
    (lx : ∀ j, j < 40 → 0 ≤ X (b + 7) j) (ly : ∀ j, j < 40 → 0 ≤ Y (b + 7) j) (H5 : H ≤ 5)
    (a1 : ∀ h k, h < H → k < 5 → V 12 (80 * r1 + (5 * h + k)) = ms_c W1 h k) (a2 : ∀ h p, h < H → p < 8 → V 12 (80 * r1 + (30 + 8 * h + p)) = ms_l W1 (wh h) p) (a3 : V 12 (80 * r1 + 25) = W1 6 100) (a4 : ∀ i, (5 * H ≤ i ∧ i < 25) ∨ (26 ≤ i ∧ i < 30) → V 12 (80 * r1 + i) = 0)
    (b1 : ∀ h k, h < H → k < 5 → V 12 (80 * r2 + (5 * h + k)) = ms_c W2 h k) (b2 : ∀ h p, h < H → p < 8 → V 12 (80 * r2 + (30 + 8 * h + p)) = ms_l W2 (wh h) p) (b3 : V 12 (80 * r2 + 25) = W2 6 100) (b4 : ∀ i, (5 * H ≤ i ∧ i < 25) ∨ (26 ≤ i ∧ i < 30) → V 12 (80 * r2 + i) = 0) :
    (∀ k, k < 30 + 8 * H → V 12 (80 * r1 + k) = V 12 (80 * r2 + k)) ↔ sp_same t b n H X Y := by
  have pa : W1 6 100 = X b 5 := ra.2.2.2.2.1.2.2.2
  have pb : W2 6 100 = Y b 5 := rb.2.2.2.2.1.2.2.2
  refine ⟨fun e => ⟨?_, fun h hh => ?_, fun h p hh hp => ?_⟩, fun ⟨e1, e2, e3⟩ i hi => ?_⟩
  · have := e 25 (by omega)
    rw [a3, b3, pa, pb] at this
    exact this
  · refine (sp_mc_eq ((ox h hh).piece n8) ((oy h hh).piece n8)).mp (fun k hk => ?_)
    have := e (5 * h + k) (by omega)
    rw [a1 h k hh hk, b1 h k hh hk, mq_c ra (ox h hh) hh hk, mq_c rb (oy h hh) hh hk] at this
    exact this
  · have := e (30 + 8 * h + p) (by omega)
    rw [a2 h p hh (by omega), b2 h p hh (by omega), mq_l ra hh hp (lx _ (by omega)), mq_l rb hh hp (ly _ (by omega))] at this
    exact this
  · by_cases c1 : i < 5 * H
    · have hh : i / 5 < H := by omega
      have hk : i % 5 < 5 := by omega
      have ei : i = 5 * (i / 5) + i % 5 := by omega
      rw [ei, a1 _ _ hh hk, b1 _ _ hh hk, mq_c ra (ox _ hh) hh hk, mq_c rb (oy _ hh) hh hk]
      exact (sp_mc_eq ((ox _ hh).piece n8) ((oy _ hh).piece n8)).mpr (e2 _ hh) _ hk
    · by_cases c2 : i < 30
      · by_cases c3 : i = 25
        · rw [c3, a3, b3, pa, pb]; exact e1
        · rw [a4 i (by omega), b4 i (by omega)]
      · have hh : (i - 30) / 8 < H := by omega
        have ei : i = 30 + 8 * ((i - 30) / 8) + (i - 30) % 8 := by omega
        have hp : (i - 30) % 8 < 8 := by omega
        rw [ei, a2 _ _ hh hp, b2 _ _ hh hp]
        by_cases c4 : (i - 30) % 8 < n
        · rw [mq_l ra hh c4 (lx _ (by omega)), mq_l rb hh c4 (ly _ (by omega))]
          exact e3 _ _ hh c4
        · exact mq_l0 ra rb e4 hh (by omega) hp
/-- how long an event is -/
theorem sp_ev_tick {t b n H L C : Nat} {M : zMem} (ri : sp_ri M t b n H L) (bd : sp_bd M b H C) : ∃ d, 0 < d ∧ d ≤ 40 ∧ sp_ev t b H M b 2 = M b 2 + nI d := by
  have hc := sp_can_least ri.1 ri.2.1
  have ok1 := sp_pass_ok ri.1 hc
  have e1 : sp_ev t b H M b 2 = M b 2 + sp_least (M (b + 2)) H 0 0 := by
    unfold sp_ev
    rw [(sp_all_car (C := 0) (D := 0) (by omega) ok1).2.2.2.2]
    exact sp_pass_fr.2.1
  have h0 := hc.1
  rcases sp_least_in (M (b + 2)) H 0 0 with e | ⟨j, -, j2, e⟩
  · rw [e] at h0
    exact absurd h0 (by decide)
  · obtain ⟨l, l1, l2⟩ := bd.1 j (by omega)
    rw [e, l2] at h0
    exact ⟨l, (nI_0lt (by omega)).mp h0, l1, by rw [e1, e, l2]⟩
/-- a bench and what it is told, by themselves: told at 0, the bench at 5 -/
def vw (t b : Nat) (M : zMem) : zMem := fun i => if i < 5 then M (t + i) else if i = 5 then upd (M b) 0 0 else if i < 14 then M (b + (i - 5)) else fun _ => 0
theorem vw_t {t b i : Nat} {M : zMem} (h : i < 5) : vw t b M (0 + i) = M (t + i) := by
  unfold vw
  rw [if_pos (by omega), Nat.zero_add]
theorem vw_tt {t b : Nat} {M : zMem} : vw t b M 0 = M t := by
  unfold vw
  rw [if_pos (by omega), Nat.add_zero]
theorem vw_b {t b i : Nat} {M : zMem} (h0 : 0 < i) (h : i < 9) : vw t b M (5 + i) = M (b + i) := by
  unfold vw
  rw [if_neg (by omega), if_neg (by omega), if_pos (by omega)]
  exact congrArg M (by omega)
theorem vw_0 {t b j : Nat} {M : zMem} (h : j ≠ 0) : vw t b M 5 j = M b j := by
  unfold vw
  rw [if_neg (by omega), if_pos rfl, upd_ne h]
theorem vw_00 {t b : Nat} {M : zMem} : vw t b M 5 0 = 0 := by
  unfold vw
  rw [if_neg (by omega), if_pos rfl, upd_eq]
theorem vw_hi {t b i : Nat} {M : zMem} (h : 14 ≤ i) : vw t b M i = fun _ => 0 := by
  unfold vw
  rw [if_neg (by omega), if_neg (by omega), if_neg (by omega)]
theorem vw_ext {t b t' b' : Nat} {M M' : zMem} (h1 : ∀ i, i < 5 → M' (t' + i) = M (t + i)) (h2 : ∀ j, j ≠ 0 → M' b' j = M b j) (h3 : ∀ i, 1 ≤ i → i ≤ 8 → M' (b' + i) = M (b + i)) : vw t' b' M' = vw t b M := by
  funext a
  by_cases c1 : a < 5
  · have := h1 a c1
    have e1 := vw_t (t := t) (b := b) (M := M) c1
    have e2 := vw_t (t := t') (b := b') (M := M') c1
    rw [Nat.zero_add] at e1 e2
    rw [e1, e2, this]
  · by_cases c2 : a = 5
    · subst c2
      funext j
      by_cases c3 : j = 0
      · subst c3
        rw [vw_00, vw_00]
      · rw [vw_0 c3, vw_0 c3, h2 j c3]
    · by_cases c3 : a < 14
      · obtain ⟨i, rfl⟩ : ∃ i, a = 5 + i := ⟨a - 5, by omega⟩
        rw [vw_b (by omega) (by omega), vw_b (by omega) (by omega), h3 i (by omega) (by omega)]
      · rw [vw_hi (by omega), vw_hi (by omega)]
theorem vw_up {t b i j : Nat} {x : Int32} {M : zMem} (hd : t + 4 < b) (h0 : 0 < i) (h : i < 9) : vw t b (zup M (b + i) j x) = zup (vw t b M) (5 + i) j x := by
  funext a
  by_cases ha : a = 5 + i
  · subst ha
    rw [vw_b h0 h, zup_eq, zup_eq, vw_b h0 h]
  · rw [zup_ne ha]
    by_cases c1 : a < 5
    · have e1 := vw_t (t := t) (b := b) (M := M) c1
      have e2 := vw_t (t := t) (b := b) (M := zup M (b + i) j x) c1
      rw [Nat.zero_add] at e1 e2
      rw [e1, e2, zup_ne (by omega)]
    · by_cases c2 : a = 5
      · subst c2
        funext l
        by_cases c3 : l = 0
        · subst c3
          rw [vw_00, vw_00]
        · rw [vw_0 c3, vw_0 c3, zup_ne (by omega)]
      · by_cases c3 : a < 14
        · obtain ⟨q, rfl⟩ : ∃ q, a = 5 + q := ⟨a - 5, by omega⟩
          rw [vw_b (by omega) (by omega), vw_b (by omega) (by omega), zup_ne (by omega)]
        · rw [vw_hi (by omega), vw_hi (by omega)]
theorem vw_up0 {t b j : Nat} {x : Int32} {M : zMem} (hd : t + 4 < b) (h : j ≠ 0) : vw t b (zup M b j x) = zup (vw t b M) 5 j x := by
  funext a
  by_cases ha : a = 5
  · subst ha
    funext l
    by_cases c3 : l = 0
    · subst c3
      rw [vw_00, zup_eq, upd_ne (fun q => h q.symm), vw_00]
    · rw [vw_0 c3, zup_eq, zup_eq]
      by_cases c4 : l = j
      · subst c4
        rw [upd_eq, upd_eq]
      · rw [upd_ne c4, upd_ne c4, vw_0 c3]
  · rw [zup_ne ha]
    by_cases c1 : a < 5
    · have e1 := vw_t (t := t) (b := b) (M := M) c1
      have e2 := vw_t (t := t) (b := b) (M := zup M b j x) c1
      rw [Nat.zero_add] at e1 e2
      rw [e1, e2, zup_ne (by omega)]
    · by_cases c3 : a < 14
      · obtain ⟨q, rfl⟩ : ∃ q, a = 5 + q := ⟨a - 5, by omega⟩
        rw [vw_b (by omega) (by omega), vw_b (by omega) (by omega), zup_ne (by omega)]
      · rw [vw_hi (by omega), vw_hi (by omega)]
theorem vw_way {t b h : Nat} {fr : Int32} {M : zMem} : sp_way 5 h fr (vw t b M) = sp_way b h fr M := by
  unfold sp_way
  rw [vw_b (by omega) (by omega)]
theorem vw_wl {t b h : Nat} {fr : Int32} {M : zMem} : sp_wl 0 5 h fr (vw t b M) = sp_wl t b h fr M := by
  unfold sp_wl
  rw [vw_way, vw_tt]
theorem vw_goBack {t b h : Nat} {fr : Int32} {M : zMem} (hd : t + 4 < b) : vw t b (sp_goBack t b h fr M) = sp_goBack 0 5 h fr (vw t b M) := by
  unfold sp_goBack
  rw [vw_up hd (by omega) (by omega), vw_up hd (by omega) (by omega), vw_up hd (by omega) (by omega), vw_wl]
theorem vw_finish {t b h : Nat} {M : zMem} (hd : t + 4 < b) : vw t b (sp_finish t b h M) = sp_finish 0 5 h (vw t b M) := by
  unfold sp_finish
  simp (disch := omega) only [vw_b, vw_t, vw_tt, vw_0, apply_ite (vw t b), vw_up hd, vw_up0 hd, vw_goBack hd]
theorem vw_new {t b : Nat} {M : zMem} (hd : t + 4 < b) : vw t b (sp_new t b M) = sp_new 0 5 (vw t b M) := by
  unfold sp_new
  simp (disch := omega) only [vw_b, vw_t, vw_tt, vw_0, vw_up hd, vw_up0 hd]
theorem vw_note {t b g : Nat} {k w p u s : Int32} {M : zMem} (hd : t + 4 < 18) (hg : zlg b = some g) : vw t b (sp_note g k w p u s M) = vw t b M := by
  rcases zlg_cases b with e | ⟨e, rfl⟩
  · rw [e] at hg; cases hg
  · rw [e] at hg; cases hg
    exact vw_ext (fun i hi => e_note_ne (by omega) (by omega)) (fun j _ => by rw [e_note_ne (by omega) (by omega)]) (fun i _ hi => e_note_ne (by omega) (by omega))
theorem vw_take {t b h : Nat} {M : zMem} (hd : t + 4 < b) (hd2 : t + 4 < 18) : vw t b (sp_take t b h M) = sp_take 0 5 h (vw t b M) := by
  have e5 : zlg 5 = none := rfl
  unfold sp_take
  rw [e5]
  simp (disch := omega) only [vw_b, vw_t, vw_tt, vw_0]
  rcases zlg_cases b with e | ⟨e, hb⟩
  · rw [e]
    simp (disch := omega) only [vw_goBack hd, vw_up hd, vw_up0 hd]
  · rw [e]
    simp (disch := omega) only [vw_goBack hd, vw_note hd2 e, vw_up hd, vw_up0 hd]
theorem vw_can {t b h : Nat} {M : zMem} : sp_can 0 5 h (vw t b M) = sp_can t b h M := by
  unfold sp_can
  simp (disch := omega) only [vw_b, vw_t, vw_tt, vw_0]
theorem vw_ticks {t b h p : Nat} {ld : Int32} {M : zMem} : sp_ticks 0 h p ld (vw t b M) = sp_ticks t h p ld M := by
  unfold sp_ticks
  simp (disch := omega) only [vw_t, vw_tt]
theorem vw_may {t b h : Nat} {M : zMem} : sp_may 0 5 h (vw t b M) = sp_may t b h M := by
  unfold sp_may sp_held
  simp (disch := omega) only [vw_b, vw_t, vw_tt, vw_0]
theorem vw_start {t b h : Nat} {M : zMem} (hd : t + 4 < b) : vw t b (sp_start t b h M) = sp_start 0 5 h (vw t b M) := by
  unfold sp_start
  simp (disch := omega) only [vw_b, vw_ticks, vw_up hd]
theorem vw_hand {t b h : Nat} {M : zMem} (hd : t + 4 < b) (hd2 : t + 4 < 18) : sp_hand 0 5 h (vw t b M) = (sp_hand t b h M).map (vw t b) := by
  unfold sp_hand
  rw [vw_b (by omega) (by omega), vw_b (by omega) (by omega)]
  by_cases c1 : M (b + 2) h = 0
  · rw [if_pos c1, if_pos c1]
    by_cases c2 : M (b + 1) h = 3
    · rw [if_pos c2, if_pos c2, ← vw_finish hd]; rfl
    · rw [if_neg c2, if_neg c2]
      by_cases c3 : M (b + 1) h = 0
      · rw [if_pos c3, if_pos c3]
        by_cases c4 : h = 0
        · rw [if_pos c4, if_pos c4, ← vw_new hd]; rfl
        · rw [if_neg c4, if_neg c4]
          by_cases c5 : M (b + 1) (h - 1) = 2 ∧ sp_can t b (h - 1) M
          · rw [if_pos c5, if_pos ⟨c5.1, by rw [vw_can]; exact c5.2⟩, ← vw_take hd hd2]; rfl
          · rw [if_neg c5, if_neg (fun q => c5 ⟨q.1, by have := q.2; rw [vw_can] at this; exact this⟩)]; rfl
      · rw [if_neg c3, if_neg c3]
        by_cases c4 : M (b + 1) h = 2
        · rw [if_pos c4, if_pos c4]
          by_cases c5 : sp_may t b h M
          · rw [if_pos c5, if_pos (by rw [vw_may]; exact c5), ← vw_start hd]; rfl
          · rw [if_neg c5, if_neg (by rw [vw_may]; exact c5)]; rfl
        · rw [if_neg c4, if_neg c4]; rfl
  · rw [if_neg c1, if_neg c1]; rfl
theorem vw_rd {t b : Nat} (hd : t + 4 < b) (hd2 : t + 4 < 18) : ∀ h (s : Bool) (M : zMem), sp_rd 0 5 h s (vw t b M) = ((sp_rd t b h s M).1, vw t b (sp_rd t b h s M).2) := by
  intro h
  induction h with
  | zero => intro s M; rfl
  | succ h ih =>
    intro s M
    unfold sp_rd
    rw [vw_hand hd hd2]
    cases sp_hand t b h M with
    | none => exact ih s M
    | some M' => exact ih true M'
theorem vw_c {t b h : Nat} {M : zMem} : sp_c (vw t b M) 5 h = sp_c M b h := by
  unfold sp_c
  rw [vw_b (by omega) (by omega), vw_b (by omega) (by omega)]
theorem vw_rounds {t b H : Nat} (hd : t + 4 < b) (hd2 : t + 4 < 18) : ∀ f (M : zMem), vw t b (sp_rounds t b H f M) = sp_rounds 0 5 H f (vw t b M) := by
  intro f
  induction f with
  | zero => intro M; rfl
  | succ f ih =>
    intro M
    unfold sp_rounds
    rw [vw_rd hd hd2]
    by_cases c : (sp_rd t b H false M).1 = true
    · rw [if_pos c, if_pos c]; exact ih _
    · rw [if_neg c, if_neg c]
theorem vw_all {t b H : Nat} {M : zMem} (hd : t + 4 < b) (hd2 : t + 4 < 18) : vw t b (sp_all t b H M) = sp_all 0 5 H (vw t b M) := by
  unfold sp_all
  rw [vw_rounds hd hd2, sp_sum_eq (c := sp_c M b) (c' := sp_c (vw t b M) 5) H (fun j _ => vw_c)]
theorem vw_pass1 {t b h : Nat} {d : Int32} {M : zMem} (hd : t + 4 < b) : vw t b (sp_pass1 b h d M) = sp_pass1 5 h d (vw t b M) := by
  unfold sp_pass1
  simp (disch := omega) only [vw_b, apply_ite (vw t b), vw_up hd]
theorem vw_passes {t b : Nat} {d : Int32} (hd : t + 4 < b) : ∀ m h (M : zMem), vw t b (sp_passes b d m h M) = sp_passes 5 d m h (vw t b M) := by
  intro m
  induction m with
  | zero => intro h M; rfl
  | succ m ih =>
    intro h M
    unfold sp_passes
    rw [ih, vw_pass1 hd]
theorem vw_ev {t b H : Nat} {M : zMem} (hd : t + 4 < b) (hd2 : t + 4 < 18) : vw t b (sp_ev t b H M) = sp_ev 0 5 H (vw t b M) := by
  unfold sp_ev sp_pass
  rw [vw_all hd hd2, vw_passes hd, vw_up0 hd (by omega), vw_0 (by omega), vw_b (by omega) (by omega)]
theorem vw_cnt {t b i : Nat} {M : zMem} : sp_cnt 0 5 i (vw t b M) = sp_cnt t b i M := by
  unfold sp_cnt
  simp (disch := omega) only [vw_b, vw_t, vw_tt]
theorem vw_same {t b n H : Nat} {X Y : zMem} : sp_same 0 5 n H (vw t b X) (vw t b Y) = sp_same t b n H X Y := by
  unfold sp_same sp_eq1
  simp (disch := omega) only [vw_b, vw_0, vw_cnt]
/-- coats that are done become no fewer -/
def sp_dd (M : zMem) (b H lo D : Nat) : Prop := ∃ d, M b 3 = nI d ∧ lo ≤ d ∧ d + sp_sum (sp_c M b) H ≤ D
theorem sp_hand_dd {t b n H L h lo D : Nat} {M M' : zMem} (ok : sp_ok M t b n H L) (hh : h < H) (e : sp_hand t b h M = some M') (ho : sp_dd M b H lo D) : sp_dd M' b H lo D := by
  obtain ⟨o, h1, h0, h2⟩ := ho
  obtain ⟨-, hs⟩ := sp_step ok hh e
  have hk : M' b 3 = nI o ∨ M' b 3 = nI (o + 1) := by
    unfold sp_hand at e
    split at e
    · split at e
      · cases e
        unfold sp_finish
        dsimp only
        split
        · left; simp (disch := omega) only [zup_ne]; exact h1
        · split
          · left; simp (disch := omega) only [zup_ne]; exact h1
          · right
            rw [sp_goBack_b]
            simp (disch := omega) only [zup_eq, upd_eq]; rw [h1, nI_1]
      · split at e
        · split at e
          · cases e
            left
            unfold sp_new
            simp (disch := omega) only [zup_ne, zup_eq, upd_ne]; exact h1
          · split at e
            · cases e
              left
              unfold sp_take
              rcases zlg_cases b with c | ⟨c, hb32⟩
              · rw [c]
                dsimp only
                rw [sp_goBack_b]
                simp (disch := omega) only [zup_ne, zup_eq, upd_ne]; exact h1
              · rw [c]
                dsimp only
                rw [sp_goBack_b, e_note_ne (by omega) (by omega)]
                simp (disch := omega) only [zup_ne, zup_eq, upd_ne]; exact h1
            · cases e
        · split at e
          · split at e
            · cases e
              left
              unfold sp_start
              simp (disch := omega) only [zup_ne]; exact h1
            · cases e
          · cases e
    · cases e
  rcases hk with hk | hk
  · exact ⟨o, hk, h0, by omega⟩
  · exact ⟨o + 1, hk, by omega, by omega⟩
theorem sp_rounds_dd {t b n H L lo D : Nat} : ∀ f (M : zMem), sp_ok M t b n H L → sp_dd M b H lo D → sp_dd (sp_rounds t b H f M) b H lo D := by
  have rd : ∀ h (s : Bool) (X : zMem), h ≤ H → sp_ok X t b n H L → sp_dd X b H lo D → sp_dd (sp_rd t b h s X).2 b H lo D := by
    intro h
    induction h with
    | zero => intro s X _ _ bx; exact bx
    | succ h ih =>
      intro s X hh okx bx
      unfold sp_rd
      cases e : sp_hand t b h X with
      | none => exact ih s X (by omega) okx bx
      | some X' => exact ih true X' (by omega) (sp_step okx (by omega) e).1 (sp_hand_dd okx (by omega) e bx)
  intro f
  induction f with
  | zero => intro M _ bx; exact bx
  | succ f ih =>
    intro M ok bx
    unfold sp_rounds
    have h1 := rd H false M (Nat.le_refl _) ok bx
    split
    · exact ih _ (sp_rd_ok H false M (Nat.le_refl _) ok).1 h1
    · exact h1
theorem sp_ev_dd {t b n H L dn : Nat} {M : zMem} (ri : sp_ri M t b n H L) (hd : M b 3 = nI dn) : ∃ dn', dn ≤ dn' ∧ dn' ≤ dn + 40 ∧ sp_ev t b H M b 3 = nI dn' := by
  have hc := sp_can_least ri.1 ri.2.1
  have ok1 := sp_pass_ok ri.1 hc
  have H5 : H ≤ 5 := ri.1.2.2.2.1.1.2.2.2.1
  have hb1 := sp_c_bound (M := sp_pass b H (sp_least (M (b + 2)) H 0 0) M) (b := b) H H5
  have d1 : sp_dd (sp_pass b H (sp_least (M (b + 2)) H 0 0) M) b H dn (dn + 40) := ⟨dn, by rw [sp_pass_fr.2.2.1 3 (by omega)]; exact hd, by omega, by omega⟩
  obtain ⟨d, e1, e2, e3⟩ := sp_rounds_dd (sp_sum (sp_c (sp_pass b H (sp_least (M (b + 2)) H 0 0) M) b) H + 1) _ ok1 d1
  exact ⟨d, e2, by omega, e1⟩
/-- the state of a run's loop, with bounds: f rounds are left -/
def sp_es (M : zMem) (t b n H L f dn tk : Nat) : Prop := sp_rl M t b n H L f ∧ (∃ C, C + 40 * f ≤ 480040 ∧ sp_bd M b H C) ∧ (M b 3 = nI dn ∧ dn ≤ 200) ∧ M b 2 = nI tk ∧ tk + 40 * f ≤ 480000
theorem sp_es_step {t b n H L f dn tk : Nat} {M : zMem} (es : sp_es M t b n H L f dn tk) (h : dn < 120) : ∃ g dn' tk', f = g + 1 ∧ sp_es (sp_ev t b H M) t b n H L g dn' tk' ∧ dn ≤ dn' ∧ tk < tk' ∧ sp_fr b M (sp_ev t b H M) := by
  obtain ⟨rl, ⟨C, hC, bd⟩, ⟨hd, hd2⟩, htk, htk2⟩ := es
  obtain ⟨g, rfl, rl2, -, fr⟩ := sp_rl_step (m := 120) rl (by omega) (by rw [hd]; exact nI_lt h (by omega))
  obtain ⟨dn', a1, a2, a3⟩ := sp_ev_dd rl.1 hd
  obtain ⟨d, b1, b2, b3⟩ := sp_ev_tick rl.1 bd
  refine ⟨g, dn', tk + d, rfl, ⟨rl2, ⟨C + 40, by omega, sp_ev_bd (by omega) rl.1 bd⟩, ⟨a3, by omega⟩, ?_, by omega⟩, a1, by omega, fr⟩
  rw [b3, htk, q_add]
theorem sp_es_0 {t b n H L : Nat} {M0 M : zMem} (hc : sp_clear b M0 M) (ok : sp_ok M t b n H L) : ∃ dn, sp_es (sp_all t b H M) t b n H L 12000 dn 0 := by
  obtain ⟨ri, fr, -⟩ := sp_ri_0 hc ok
  have H5 : H ≤ 5 := ok.2.2.2.1.1.2.2.2.1
  obtain ⟨dn, d1, d2⟩ := ri.2.2.1
  obtain ⟨k2, k3, k4, k5, k0, k1, kh, kl, ks, kk⟩ := id hc
  have hb1 := sp_c_bound (M := M) (b := b) H H5
  refine ⟨dn, sp_rl_0 ri, ⟨40, by omega, ?_⟩, ⟨d2, d1⟩, ?_, by omega⟩
  · refine sp_rounds_bd (by omega) _ M ok ⟨fun h hh => ⟨0, by omega, (kh h (by omega)).2.1⟩, fun j hj => ⟨0, kl j hj, by omega⟩⟩
  · rw [(sp_all_car (C := 0) (D := 0) (by omega) ok).2.2.2.2]
    exact k2
theorem sp_es_ext {t b n H L f dn tk : Nat} {M M' : zMem} (es : sp_es M t b n H L f dn tk) (hb : b ≠ 32) (e1 : ∀ i, i ≤ 4 → M' (t + i) = M (t + i)) (e2 : ∀ i, i ≤ 8 → M' (b + i) = M (b + i)) : sp_es M' t b n H L f dn tk := by
  obtain ⟨⟨⟨ok, hs, hdn, ob⟩, hP⟩, ⟨C, hC, bd⟩, ⟨hd, hd2⟩, htk, htk2⟩ := es
  obtain ⟨h1, h2, h3, vt, hpl, hhd, hg⟩ := ok
  have e0 : M' b = M b := e2 0 (by omega)
  have lg : zlg b = none := by
    rcases zlg_cases b with c | ⟨c, d⟩
    · exact c
    · exact absurd d hb
  have ec : ∀ j, sp_c M' b j = sp_c M b j := fun j => sp_c_eq (by rw [e2 1 (by omega)]) (by rw [e2 2 (by omega)])
  have ecs : sp_sum (sp_c M' b) H = sp_sum (sp_c M b) H := sp_sum_eq H (fun j _ => ec j)
  have efs : sp_sum (sp_f M' b) H = sp_sum (sp_f M b) H := sp_sum_eq H (fun j _ => sp_f_eq (fun i _ hi => by rw [e2 i (by omega)]))
  have eP : sp_P M' b H = sp_P M b H := by unfold sp_P; rw [efs, e0]
  have ev : vw t b M' = vw t b M := vw_ext (fun i hi => e1 i (by omega)) (fun j _ => by rw [e0]) (fun i _ hi => e2 i hi)
  refine ⟨⟨⟨⟨by rw [e0]; exact h1, h2, h3, vt.moved e1, by rw [e0]; exact hpl, fun h hh => (hhd h hh).moved e1 (fun i _ hi => by rw [e2 i (by omega)]), fun g q => by rw [lg] at q; cases q⟩, fun j hj => ?_, by rw [e0]; exact hdn, ?_⟩, by rw [eP]; exact hP⟩, ⟨C, hC, ?_⟩, ⟨by rw [e0]; exact hd, hd2⟩, by rw [e0]; exact htk, htk2⟩
  · have q1 := vw_hand (t := t) (b := b) (h := j) (M := M') (by omega) h2
    rw [ev, vw_hand (by omega) h2, hs j hj] at q1
    exact Option.map_eq_none_iff.mp q1.symm
  · unfold sp_ob at ob ⊢
    rw [e0, ecs, eP]; exact ob
  · unfold sp_bd at bd ⊢
    rw [e2 2 (by omega), e2 7 (by omega), ecs]; exact bd
/-- the first below r that is so -/
noncomputable def sp_fo (P : Nat → Prop) : Nat → Option Nat
  | 0 => none
  | r + 1 => match sp_fo P r with
    | some q => some q
    | none => haveI := Classical.propDecidable (P r); if P r then some r else none
theorem sp_fo_fst {P : Nat → Prop} : ∀ r, sp_fst P r (sp_fo P r) := by
  intro r
  induction r with
  | zero => exact Or.inl ⟨rfl, fun q h => absurd h (by omega)⟩
  | succ r ih =>
    unfold sp_fo
    rcases ih with ⟨e, h⟩ | ⟨q, e, h1, h2, h3⟩
    · rw [e]
      dsimp only
      by_cases c : P r
      · rw [if_pos c]
        exact Or.inr ⟨r, rfl, by omega, c, h⟩
      · rw [if_neg c]
        refine Or.inl ⟨rfl, fun q hq => ?_⟩
        rcases Nat.lt_or_ge q r with c2 | c2
        · exact h q c2
        · have : q = r := by omega
          rw [this]; exact c
    · rw [e]
      exact Or.inr ⟨q, rfl, by omega, h2, h3⟩
theorem sp_fst_eq {P P' : Nat → Prop} {r : Nat} {o : Option Nat} (h : sp_fst P r o) (e : ∀ q, q < r → (P q ↔ P' q)) : o = sp_fo P' r := by
  have h' := sp_fo_fst (P := P') r
  rcases h with ⟨a, b⟩ | ⟨q, a, b, c, d⟩
  · rcases h' with ⟨a', b'⟩ | ⟨q', a', b', c', d'⟩
    · rw [a, a']
    · exact absurd ((e q' b').mpr c') (b q' b')
  · rcases h' with ⟨a', b'⟩ | ⟨q', a', b', c', d'⟩
    · exact absurd ((e q b).mp c) (b' q b)
    · rw [a, a']
      rcases Nat.lt_trichotomy q q' with z | z | z
      · exact absurd ((e q b).mp c) (d' q z)
      · rw [z]
      · exact absurd ((e q' b').mpr c') (d q' z)
theorem sp_fo_lt {P : Nat → Prop} {r q : Nat} (h : sp_fo P r = some q) : q < r := by
  rcases sp_fo_fst (P := P) r with ⟨a, b⟩ | ⟨q', a, b, -, -⟩
  · rw [a] at h; cases h
  · rw [a] at h; cases h; exact b
/-- done and tick at both ends of a ring -/
noncomputable def sp_rn (X Y : zMem) : Nat × Nat × Nat × Nat := (ix (X 5 3), ix (X 5 2), ix (Y 5 3), ix (Y 5 2))
/-- the search of a ring: f events at most, from V on, r records R so far -/
noncomputable def sp_rg (n H : Nat) : Nat → zMem → Nat → (Nat → zMem) → Option (Nat × Nat × Nat × Nat)
  | 0, _, _, _ => none
  | f + 1, V, r, R =>
    if V 5 3 < 120 then
      if V 5 3 < sp_ev 0 5 H V 5 3 then
        match sp_fo (fun q => sp_same 0 5 n H (R q) (sp_ev 0 5 H V)) r with
        | some q => some (sp_rn (R q) (sp_ev 0 5 H V))
        | none => sp_rg n H f (sp_ev 0 5 H V) (r + 1) (fun i => if i = r then sp_ev 0 5 H V else R i)
      else sp_rg n H f (sp_ev 0 5 H V) r R
    else none
theorem sp_rg_end {n H f r : Nat} {V : zMem} {R : Nat → zMem} (h : ¬ V 5 3 < 120) : sp_rg n H f V r R = none := by
  cases f with
  | zero => rfl
  | succ f => unfold sp_rg; rw [if_neg h]
theorem sp_rg_go {n H f r : Nat} {V : zMem} {R : Nat → zMem} (h : V 5 3 < 120) (h2 : ¬ V 5 3 < sp_ev 0 5 H V 5 3) : sp_rg n H (f + 1) V r R = sp_rg n H f (sp_ev 0 5 H V) r R := by
  show (if V 5 3 < 120 then _ else _) = _
  rw [if_pos h, if_neg h2]
theorem sp_rg_some {n H f r q : Nat} {V : zMem} {R : Nat → zMem} (h : V 5 3 < 120) (h2 : V 5 3 < sp_ev 0 5 H V 5 3) (h3 : sp_fo (fun q => sp_same 0 5 n H (R q) (sp_ev 0 5 H V)) r = some q) : sp_rg n H (f + 1) V r R = some (sp_rn (R q) (sp_ev 0 5 H V)) := by
  show (if V 5 3 < 120 then _ else _) = _
  rw [if_pos h, if_pos h2, h3]
theorem sp_rg_none {n H f r : Nat} {V : zMem} {R : Nat → zMem} (h : V 5 3 < 120) (h2 : V 5 3 < sp_ev 0 5 H V 5 3) (h3 : sp_fo (fun q => sp_same 0 5 n H (R q) (sp_ev 0 5 H V)) r = none) : sp_rg n H (f + 1) V r R = sp_rg n H f (sp_ev 0 5 H V) (r + 1) (fun i => if i = r then sp_ev 0 5 H V else R i) := by
  show (if V 5 3 < 120 then _ else _) = _
  rw [if_pos h, if_pos h2, h3]
noncomputable def sp_ring (t b n H : Nat) (M : zMem) : Option (Nat × Nat × Nat × Nat) := sp_rg n H 12000 (vw t b (sp_all t b H M)) 0 (fun _ => M)
/-- a record, by itself -/
def sp_rv (n H : Nat) (V : zMem) (dn tk : Nat) : Prop := (∀ h, h < H → sp_hd V 0 5 n h) ∧ (∀ h, h < H → ∃ l, l ≤ 40 ∧ V (5 + 2) h = nI l) ∧ (∃ d, d ≤ dn ∧ V 5 3 = nI d) ∧ (∃ u, u ≤ tk ∧ V 5 2 = nI u)
theorem sp_rv.mono {n H dn tk dn' tk' : Nat} {V : zMem} (h : sp_rv n H V dn tk) (h1 : dn ≤ dn') (h2 : tk ≤ tk') : sp_rv n H V dn' tk' := by
  obtain ⟨a, b, ⟨d, d1, d2⟩, u, u1, u2⟩ := h
  exact ⟨a, b, ⟨d, by omega, d2⟩, u, by omega, u2⟩
theorem vw_hd {t b n h : Nat} {M : zMem} : sp_hd (vw t b M) 0 5 n h = sp_hd M t b n h := by
  unfold sp_hd
  simp (disch := omega) only [vw_b, vw_t, vw_tt]
theorem vw_row {t b n H : Nat} {M : zMem} : sp_row 0 5 n H (vw t b M) = sp_row t b n H M := by
  funext i
  unfold sp_row sp_num
  simp (disch := omega) only [vw_b, vw_0, vw_cnt]
theorem sp_rv_of {t b n H L f dn tk : Nat} {M : zMem} (es : sp_es M t b n H L f dn tk) : sp_rv n H (vw t b M) dn tk := by
  obtain ⟨rl, ⟨C, hC, bd⟩, ⟨hd, hd2⟩, htk, htk2⟩ := es
  refine ⟨fun h hh => ?_, fun h hh => ?_, ⟨dn, Nat.le_refl _, by rw [vw_0 (by omega)]; exact hd⟩, ⟨tk, Nat.le_refl _, by rw [vw_0 (by omega)]; exact htk⟩⟩
  · rw [vw_hd]; exact rl.1.1.2.2.2.2.2.1 h hh
  · rw [vw_b (by omega) (by omega)]; exact bd.1 h hh
/-- the two ends of a ring are apart -/
def sp_rok (o : Option (Nat × Nat × Nat × Nat)) : Prop := ∀ da ta dn tn, o = some (da, ta, dn, tn) → da < dn ∧ ta < tn ∧ dn ≤ 200 ∧ tn ≤ 480000
/-- what the class writes of it -/
def sp_ro (o : Option (Nat × Nat × Nat × Nat)) (M : zMem) (g : Nat) : Prop := M g 0 = 1 ∧ (o = none → M g 1 = 0 ∧ M g 6 = 0 ∧ M g 7 = 1) ∧ (∀ da ta dn tn, o = some (da, ta, dn, tn) → M g 1 = 1 ∧ M g 2 = nI da ∧ M g 5 = nI ta ∧ M g 3 = nI (dn - da) ∧ M g 4 = nI (tn - ta) ∧ M g 6 = nI ((dn - da) / Nat.gcd (dn - da) (tn - ta)) ∧ M g 7 = nI ((tn - ta) / Nat.gcd (dn - da) (tn - ta)))
/-- the class's records -/
def sp_lc (M : zMem) (n H r : Nat) (R : Nat → zMem) (dn tk : Nat) : Prop := r ≤ dn ∧ M 41 1 = nI r ∧ ∀ q, q < r → sp_rv n H (R q) dn tk ∧ (∀ i, i < 46 → M 42 (46 * q + i) = sp_row 0 5 n H (R q) i) ∧ M 43 q = R q 5 3 ∧ M 44 q = R q 5 2
/-- the class looks for a ring -/
theorem xt_settle {t g n H L : Nat} {M : zMem} {Q : zMem → Prop} (ht : t = 1 ∨ t = 6) (hg : g = 54 ∨ g = 55) (vt : sp_vt M t n H L)
    (hQ : ∀ M0 Mc M', sp_clear 45 M0 Mc → sp_ok Mc t 45 n H L → (∀ i, i ≤ 4 → Mc (t + i) = M (t + i)) → (M0 (45 + 4) = M (45 + 4) ∧ M0 (45 + 5) = M (45 + 5)) → sp_rok (sp_ring t 45 n H Mc) → sp_ro (sp_ring t 45 n H Mc) M' g → (∀ k, k ≠ g → (k < 41 ∨ 54 ≤ k) → M' k = M k) → Q M') : wp_Settling_settle 41 t g M Q := by
  have ht4 : t + 4 < 18 := by omega
  have n8 : n ≤ 8 := vt.1.2.1
  have H5 : H ≤ 5 := vt.1.2.2.2.1
  unfold wp_Settling_settle wp_Ring_lose
  intro M1 e1 M2 e2 M3 e3 M4 e4 M5 e5
  refine ⟨ht, fun M6 e6 => ?_⟩
  have k6 : ∀ k, k ≠ g → k ≠ 41 → k ≠ 45 → M6 k = M k := fun k a b c => by
    rw [e6, zup_ne c, e5, zup_ne b, e4, zup_ne a, e3, zup_ne a, e2, zup_ne a, e1, zup_ne a]
  have x41 : M6 41 1 = 0 := by
    rw [e6, zup_ne (by omega), e5, zup_eq, upd_eq]
  have xg : ∀ j, M6 g j = M4 g j := fun j => by
    rw [e6, zup_ne (by omega), e5, zup_ne (by omega)]
  have g7 : M6 g 7 = 1 := by rw [xg, e4, zup_eq, upd_eq]
  have g6 : M6 g 6 = 0 := by rw [xg, e4, zup_eq, upd_ne (by omega), e3, zup_eq, upd_eq]
  have g1 : M6 g 1 = 0 := by rw [xg, e4, zup_eq, upd_ne (by omega), e3, zup_eq, upd_ne (by omega), e2, zup_eq, upd_eq]
  have g0 : M6 g 0 = 1 := by rw [xg, e4, zup_eq, upd_ne (by omega), e3, zup_eq, upd_ne (by omega), e2, zup_eq, upd_ne (by omega), e1, zup_eq, upd_eq]
  have b6 : M6 45 0 = zcd t := by rw [e6, zup_eq, upd_eq]
  clear e6 e5 e4 e3 e2 e1 xg
  show wp_Bench_clear 45 M6 _
  refine xt_clear (fun Mc hc => ?_)
  have kc : ∀ k, (k < 45 ∨ 54 ≤ k) → Mc k = M6 k := fun k hk => hc.2.2.2.2.2.2.2.2.2 k (by omega)
  have vt6 : sp_vt M6 t n H L := vt.moved (fun i hi => k6 _ (by omega) (by omega) (by omega))
  have lg : zlg 45 = none := rfl
  have ok : sp_ok Mc t 45 n H L := sp_ok_clear hc (by rw [b6]; exact ztc_cd ht) ht4 (by omega) vt6 (fun g q => by rw [lg] at q; cases q)
  have tc : ∀ i, i ≤ 4 → Mc (t + i) = M (t + i) := fun i hi => by rw [kc _ (by omega), k6 _ (by omega) (by omega) (by omega)]
  replace hQ := fun M' => hQ M6 Mc M' hc ok tc ⟨k6 _ (by omega) (by omega) (by omega), k6 _ (by omega) (by omega) (by omega)⟩
  show wp_Bench_doAll 45 Mc _
  refine xt_doAll ok ?_
  obtain ⟨dn0, es0⟩ := sp_es_0 hc ok
  have fr0 := (sp_ri_0 hc ok).2.1
  have er0 : sp_rg n H 12000 (vw t 45 (sp_all t 45 H Mc)) 0 (fun _ => Mc) = sp_ring t 45 n H Mc := rfl
  have ka : ∀ k, (k < 45 ∨ 54 ≤ k) → sp_all t 45 H Mc k = M6 k := fun k hk => by rw [fr0.1 k (by omega) (fun q => absurd q (by omega)), kc k hk]
  generalize sp_ring t 45 n H Mc = o at hQ er0
  generalize sp_all t 45 H Mc = Ma at es0 er0 ka
  show wp_Bench_leastLeft 45 Ma _
  refine xt_least es0.1.1.1 ?_
  refine zlp2_r (fun f x y M' => (Q M' ∧ ¬ M' g 1 = 0) ∨ (∃ i r R dn tk, y = nI i ∧ i + f = 12000 ∧ x = sp_least (M' (45 + 2)) H 0 0 ∧ sp_es M' t 45 n H L f dn tk ∧ sp_lc M' n H r R dn tk ∧ (M' g 0 = 1 ∧ M' g 1 = 0 ∧ M' g 6 = 0 ∧ M' g 7 = 1) ∧ (∀ k, k ≠ g → (k < 41 ∨ 54 ≤ k) → M' k = M k) ∧ sp_rg n H f (vw t 45 M') r R = o)) ?_ (n := 12000) (Or.inr ⟨0, 0, fun _ => Mc, dn0, 0, rfl, by omega, rfl, es0, ⟨by omega, by rw [ka 41 (by omega)]; exact x41, fun q hq => absurd hq (by omega)⟩, by rw [ka g (by omega)]; exact ⟨g0, g1, g6, g7⟩, fun k a b => by rw [ka k (by omega), k6 k a (by omega) (by omega)], er0⟩)
  rintro f x y M' (⟨hq, hf⟩ | ⟨i, r, R, dn, tk, rfl, hi, rfl, es, lc, gg, kk, er⟩) J hJ
  · exact ⟨fun _ => hq, fun _ => ⟨fun _ => hq, fun _ => ⟨fun _ => hq, fun _ => ⟨fun _ => hq, fun c => absurd c hf⟩⟩⟩⟩
  have hd := es.2.2.1.1
  have hd2 := es.2.2.1.2
  have hvd : vw t 45 M' 5 3 = nI dn := by rw [vw_0 (by omega)]; exact hd
  have e1 : ¬ 1000000 ≤ nI i := by rw [Int32.not_le]; exact nI_lt (b := 1000000) (by omega) (by omega)
  have e2 : ¬ sp_least (M' (45 + 2)) H 0 0 ≤ 0 := by rw [Int32.not_le]; exact sp_nstuck es.1.1.1 es.1.1.2.1
  refine ⟨fun c => absurd c e1, fun _ => ⟨fun c => absurd c e2, fun _ => ⟨fun c => ?_, fun c => ⟨fun c2 => absurd gg.2.1 c2, fun _ => ?_⟩⟩⟩⟩
  · have c' : ¬ vw t 45 M' 5 3 < 120 := by rw [vw_0 (by omega), Int32.not_lt]; exact c
    rw [sp_rg_end c'] at er
    subst er
    exact hQ M' (fun da ta dn tn q => by cases q) ⟨gg.1, fun _ => ⟨gg.2.1, gg.2.2.1, gg.2.2.2⟩, fun da ta dn tn q => by cases q⟩ kk
  have c0 : M' 45 3 < 120 := Int32.not_le.mp c
  have c1 : dn < 120 := by
    rw [hd] at c0
    exact (nI_ltI (a := dn) (b := 120) (by omega) (by omega)).mp c0
  have cv : vw t 45 M' 5 3 < 120 := by rw [vw_0 (by omega)]; exact c0
  obtain ⟨f', dn', tk', rfl, es', hdd, htt, fr⟩ := sp_es_step es c1
  have ev : vw t 45 (sp_ev t 45 H M') = sp_ev 0 5 H (vw t 45 M') := vw_ev (by omega) ht4
  have hve : sp_ev 0 5 H (vw t 45 M') 5 3 = nI dn' := by rw [← ev, vw_0 (by omega)]; exact es'.2.2.1.1
  have dn2 := es'.2.2.1.2
  intro x11 e11
  show wp_Bench_letPass 45 (sp_least (M' (45 + 2)) H 0 0) M' (fun M1 => wp_Bench_doAll 45 M1 _)
  refine xt_event es.1.1 ?_
  have fk : ∀ k, (k < 45 ∨ 54 ≤ k) → sp_ev t 45 H M' k = M' k := fun k hk => fr.1 k (by omega) (fun q => absurd q (by omega))
  generalize sp_ev t 45 H M' = M2 at es' fr ev fk
  rw [e11]
  have hd' : M2 (41 + 4) 3 = nI dn' := es'.2.2.1.1
  have hdM : M' (41 + 4) 3 = nI dn := hd
  rw [hd', hdM]
  refine ⟨fun c3 => ?_, fun c3 => ⟨fun c4 => ?_, fun _ => ?_⟩⟩
  · have c3' : ¬ vw t 45 M' 5 3 < sp_ev 0 5 H (vw t 45 M') 5 3 := by rw [hvd, hve, Int32.not_lt]; exact c3
    rw [sp_rg_go cv c3', ← ev] at er
    show wp_Bench_leastLeft 45 M2 _
    refine xt_least es'.1.1.1 (fun y hy => ?_)
    rw [hy, nI_1]
    exact hJ f' _ _ _ (by omega) (Or.inr ⟨i + 1, r, R, dn', tk', rfl, by omega, rfl, es', ⟨by have := lc.1; omega, by rw [fk 41 (by omega)]; exact lc.2.1, fun q hq => ⟨(lc.2.2 q hq).1.mono hdd (by omega), by rw [fk 42 (by omega), fk 43 (by omega), fk 44 (by omega)]; exact (lc.2.2 q hq).2⟩⟩, by rw [fk g (by omega)]; exact gg, fun k a b => by rw [fk k (by omega)]; exact kk k a b, er⟩)
  · rw [fk 41 (by omega), lc.2.1] at c4
    have := (nI_leI (a := 120) (b := r) (by omega) (by have := lc.1; omega)).mp c4
    have := lc.1
    omega
  have hlt : dn < dn' := by
    have := Int32.not_le.mp c3
    exact (nI_ltI (by omega) (by omega)).mp this
  have r1 : r < 120 := by have := lc.1; omega
  have c3' : vw t 45 M' 5 3 < sp_ev 0 5 H (vw t 45 M') 5 3 := by rw [hvd, hve]; exact nI_lt hlt (by omega)
  have ok2 := es'.1.1.1
  have vt2 := ok2.2.2.2.1
  refine xt_writeDown r1 (by rw [fk 41 (by omega)]; exact lc.2.1) ht4 vt2.2.1 vt2.2.2.1 n8 H5 (fun M3 w1 w2 w3 w4 w5 => ?_)
  have r3 : M3 41 1 = nI r := by rw [w5 41 (by omega) (by omega) (by omega), fk 41 (by omega)]; exact lc.2.1
  refine xt_earlier r1 r3 (fun oo ho => ?_)
  have rv' := sp_rv_of es'
  have key : ∀ q, q < r → ((∀ i, i < 46 → M3 42 (46 * q + i) = M3 42 (46 * r + i)) ↔ sp_same 0 5 n H (R q) (sp_ev 0 5 H (vw t 45 M'))) := fun q hq => by
    have a1 : ∀ i, i < 46 → M3 42 (46 * q + i) = sp_row 0 5 n H (R q) i := fun i hi => by rw [w2 _ (by omega), fk 42 (by omega)]; exact (lc.2.2 q hq).2.1 i hi
    have a2 : ∀ i, i < 46 → M3 42 (46 * r + i) = sp_row 0 5 n H (vw t 45 M2) i := fun i hi => by rw [w1 i hi, vw_row]
    rw [← ev, ← sp_row_eq n8 H5 (lc.2.2 q hq).1.1 rv'.1 (lc.2.2 q hq).1.2.1 rv'.2.1]
    exact ⟨fun z i hi => by rw [← a1 i hi, ← a2 i hi]; exact z i hi, fun z i hi => by rw [a1 i hi, a2 i hi]; exact z i hi⟩
  have eo := sp_fst_eq ho key
  have k3 : ∀ k, (k < 41 ∨ 45 ≤ k) → M3 k = M2 k := fun k hk => w5 k (by omega) (by omega) (by omega)
  cases oo with
  | none =>
    refine ⟨fun _ => ?_, fun c => absurd (by decide) c⟩
    intro M4 e4
    have k4 : ∀ k, k ≠ 41 → M4 k = M3 k := fun k hk => by rw [e4, zup_ne hk]
    have es4 : sp_es M4 t 45 n H L f' dn' tk' := sp_es_ext es' (by omega) (fun i hi => by rw [k4 _ (by omega), k3 _ (by omega)]) (fun i hi => by rw [k4 _ (by omega), k3 _ (by omega)])
    have ev4 : vw t 45 M4 = sp_ev 0 5 H (vw t 45 M') := by
      rw [← ev]
      exact vw_ext (fun i hi => by rw [k4 _ (by omega), k3 _ (by omega)]) (fun j _ => by rw [k4 _ (by omega), k3 _ (by omega)]) (fun i _ hi => by rw [k4 _ (by omega), k3 _ (by omega)])
    rw [sp_rg_none cv c3' eo.symm, ← ev4] at er
    show wp_Bench_leastLeft 45 M4 _
    refine xt_least es4.1.1.1 (fun y hy => ?_)
    rw [hy, nI_1]
    refine hJ f' _ _ _ (by omega) (Or.inr ⟨i + 1, r + 1, fun i => if i = r then vw t 45 M4 else R i, dn', tk', rfl, by omega, rfl, es4, ⟨by have := lc.1; omega, by rw [e4, zup_eq, upd_eq, r3, nI_1], fun q hq => ?_⟩, by rw [k4 g (by omega), k3 g (by omega), fk g (by omega)]; exact gg, fun k a b => by rw [k4 k (by omega), k3 k (by omega), fk k (by omega)]; exact kk k a b, er⟩)
    rw [k4 42 (by omega), k4 43 (by omega), k4 44 (by omega)]
    by_cases cq : q = r
    · subst cq
      simp only [↓reduceIte]
      refine ⟨sp_rv_of es4, fun i hi => ?_, ?_, ?_⟩
      · rw [w1 i hi, ev4, ← ev, vw_row]
      · rw [w3, upd_eq, ev4, ← ev, vw_0 (by omega)]
      · rw [w4, upd_eq, ev4, ← ev, vw_0 (by omega)]
    · simp only [cq, ↓reduceIte]
      refine ⟨(lc.2.2 q (by omega)).1.mono hdd (by omega), fun i hi => ?_, ?_, ?_⟩
      · rw [w2 _ (by omega), fk 42 (by omega)]; exact (lc.2.2 q (by omega)).2.1 i hi
      · rw [w3, upd_ne cq, fk 43 (by omega)]; exact (lc.2.2 q (by omega)).2.2.1
      · rw [w4, upd_ne cq, fk 44 (by omega)]; exact (lc.2.2 q (by omega)).2.2.2
  | some q =>
    have hq : q < r := sp_fo_lt eo.symm
    rw [sp_rg_some cv c3' eo.symm] at er
    obtain ⟨-, -, ⟨da, d1, d2⟩, u, u1, u2⟩ := (lc.2.2 q hq).1
    have y3 : sp_ev 0 5 H (vw t 45 M') 5 2 = nI tk' := by rw [← ev, vw_0 (by omega)]; exact es'.2.2.2.1
    have tb := es'.2.2.2.2
    unfold sp_rn at er
    rw [d2, u2, hve, y3, q_ix (by omega), q_ix (by omega), q_ix (by omega), q_ix (by omega)] at er
    refine ⟨fun c => absurd c (by rw [Int32.not_lt]; exact nI_le (a := 0) (by omega) (by omega)), fun _ => ⟨vp_in_nI (by omega) (by omega), vp_in_nI (by omega) (by omega), ?_⟩⟩
    have z1 : M3 (41 + 2) (ix (nI q)) = nI da := by
      rw [q_ix (by omega)]
      show M3 43 q = _
      rw [w3, upd_ne (by omega), fk 43 (by omega), (lc.2.2 q hq).2.2.1, d2]
    have z2 : M3 (41 + 3) (ix (nI q)) = nI u := by
      rw [q_ix (by omega)]
      show M3 44 q = _
      rw [w4, upd_ne (by omega), fk 44 (by omega), (lc.2.2 q hq).2.2.2, u2]
    have z3 : M3 (41 + 4) 3 = nI dn' := by
      show M3 45 3 = _
      rw [k3 45 (by omega)]; exact hd'
    have z4 : M3 (41 + 4) 2 = nI tk' := by
      show M3 45 2 = _
      rw [k3 45 (by omega)]; exact es'.2.2.2.1
    rw [z1, z2, z3, z4]
    refine xt_close (by omega) (by omega) (by omega) (by omega) (fun M4 p0 p1 p2 p5 p3 p4 p6 p7 pk => ?_)
    intro M5 e5
    have k5 : ∀ k, k ≠ 41 → k ≠ g → M5 k = M3 k := fun k a b => by rw [e5, zup_ne a, pk k b]
    have kg : M5 g = M4 g := by rw [e5, zup_ne (by omega)]
    have es5 : sp_es M5 t 45 n H L f' dn' tk' := sp_es_ext es' (by omega) (fun i hi => by rw [k5 _ (by omega) (by omega), k3 _ (by omega)]) (fun i hi => by rw [k5 _ (by omega) (by omega), k3 _ (by omega)])
    show wp_Bench_leastLeft 45 M5 _
    refine xt_least es5.1.1.1 (fun y hy => ?_)
    refine hJ f' _ _ _ (by omega) (Or.inl ⟨?_, by rw [kg, p1]; decide⟩)
    subst er
    refine hQ M5 (fun a1 a2 a3 a4 qq => ?_) ⟨?_, fun qq => (by cases qq), fun a1 a2 a3 a4 qq => ?_⟩ (fun k a b => ?_)
    · cases qq
      exact ⟨by omega, by omega, by omega, by omega⟩
    · rw [kg, p0, k3 g (by omega), fk g (by omega)]; exact gg.1
    · cases qq
      rw [kg]
      exact ⟨p1, p2, p5, p3, p4, p6, p7⟩
    · rw [k5 k (by omega) a, k3 k (by omega), fk k (by omega)]; exact kk k a b
theorem mr_ext {W W' M : zMem} {pg t b n H L : Nat} {wh : Nat → Nat} (r : mr W M pg t b n H L wh) (e18 : W' 0 18 = W 0 18) (e19 : W' 0 19 = W 0 19) (e4 : W' 4 = W 4) (e6 : W' 6 = W 6) (e8 : W' 8 = W 8) (e9 : W' 9 = W 9) (e10 : W' 10 = W 10) : mr W' M pg t b n H L wh := by
  unfold mr mr_t mr_w mr_h mr_s mr_g at r ⊢
  rw [e18, e19, e4, e6, e8, e9, e10]
  exact r
/-- a row that the reference has seen -/
def ms_q (W Wq : zMem) (H q : Nat) (wh : Nat → Nat) : Prop := (∀ h k, h < H → k < 5 → W 12 (80 * q + (5 * h + k)) = ms_c Wq h k) ∧ (∀ h p, h < H → p < 8 → W 12 (80 * q + (30 + 8 * h + p)) = ms_l Wq (wh h) p) ∧ W 12 (80 * q + 25) = Wq 6 100 ∧ ∀ i, (5 * H ≤ i ∧ i < 25) ∨ (26 ≤ i ∧ i < 30) → W 12 (80 * q + i) = 0
def ms_r (W : zMem) (t b n H L q : Nat) (wh : Nat → Nat) (V : zMem) (dn tk : Nat) : Prop :=
  sp_rv n H V dn tk ∧ (∃ Wq X, vw t b X = V ∧ mr Wq X 1 t b n H L wh ∧ W 4 = Wq 4 ∧ (∀ h, h < H → sp_hd X t b n h) ∧ (∀ j, j < 40 → 0 ≤ X (b + 7) j) ∧ ms_q W Wq H q wh) ∧ W 13 q = V 5 3 ∧ W 14 q = V 5 2
theorem ms_r.moved {W W' V : zMem} {t b n H L q dn tk dn' tk' : Nat} {wh : Nat → Nat} (h : ms_r W t b n H L q wh V dn tk) (h1 : dn ≤ dn') (h2 : tk ≤ tk') (H5 : H ≤ 5) (e4 : W' 4 = W 4) (e12 : ∀ j, 80 * q ≤ j → j < 80 * q + 80 → W' 12 j = W 12 j) (e13 : W' 13 q = W 13 q) (e14 : W' 14 q = W 14 q) : ms_r W' t b n H L q wh V dn' tk' := by
  obtain ⟨a, ⟨Wq, X, b1, b2, b3, b4, b5, c1, c2, c3, c4⟩, d1, d2⟩ := h
  refine ⟨a.mono h1 h2, ⟨Wq, X, b1, b2, e4.trans b3, b4, b5, fun h k hh hk => ?_, fun h p hh hp => ?_, ?_, fun i hi => ?_⟩, e13.trans d1, e14.trans d2⟩
  · rw [e12 _ (by omega) (by omega)]; exact c1 h k hh hk
  · rw [e12 _ (by omega) (by omega)]; exact c2 h p hh hp
  · rw [e12 _ (by omega) (by omega)]; exact c3
  · rw [e12 _ (by omega) (by omega)]; exact c4 i hi
/-- the reference's records -/
def ms_s (W : zMem) (t b n H L r : Nat) (wh : Nat → Nat) (R : Nat → zMem) (dn tk : Nat) : Prop := r ≤ dn ∧ W 0 28 = nI r ∧ W 0 29 = -4 ∧ (∀ q, q < r → ms_r W t b n H L q wh (R q) dn tk) ∧ ∀ j, 80 * r ≤ j → j < 9600 → W 12 j = 0
/-- what the reference writes of a ring -/
def mo (o : Option (Nat × Nat × Nat × Nat)) (W : zMem) : Prop := (o = none → W 0 29 = -4) ∧ ∀ da ta dn tn, o = some (da, ta, dn, tn) → ∃ q r, q < 120 ∧ r < 120 ∧ W 0 29 = nI q ∧ W 0 30 = nI r ∧ W 13 q = nI da ∧ W 14 q = nI ta ∧ W 13 r = nI dn ∧ W 14 r = nI tn
set_option maxHeartbeats 1000000 in
theorem mt_runs_r {t b n H L : Nat} {wh : Nat → Nat} {M0 M W : zMem} {Q : zMem → Prop} (hc : sp_clear b M0 M) (ok : sp_ok M t b n H L) (rt : mr_t W M t n H L) (rw0 : mw0 W M t n H wh) (hg : b = 32 → M 30 0 = 0)
    (hQ : ∀ W', mr W' (sp_run t b H (nI 120) 12000 (sp_all t b H M)) 1 t b n H L wh → ms W' (sp_run t b H (nI 120) 12000 (sp_all t b H M)) 1 b n → mfw W W' → sp_rok (sp_ring t b n H M) → mo (sp_ring t b n H M) W' → Q W') : wp_Model_runs 120 1 W Q := by
  have n8 : n ≤ 8 := ok.2.2.2.1.1.2.1
  have H5 : H ≤ 5 := ok.2.2.2.1.1.2.2.2.1
  have ht4 := ok.2.1
  have hb18 := ok.2.2.1
  refine mt_runs_0 hc ok rt rw0 hg (fun W1 r1 s1 z1 f1 x28 x29 x12 => ?_)
  obtain ⟨dn0, es0⟩ := sp_es_0 hc ok
  have er0 : sp_rg n H 12000 (vw t b (sp_all t b H M)) 0 (fun _ => M) = sp_ring t b n H M := rfl
  generalize sp_ring t b n H M = o at hQ er0
  generalize sp_all t b H M = M1 at r1 s1 es0 hQ er0
  refine zlp0_r (fun f W2 => ∃ M2 dn tk, sp_es M2 t b n H L f dn tk ∧ mr W2 M2 1 t b n H L wh ∧ ms W2 M2 1 b n ∧ W2 6 99 = 0 ∧ mfw W W2 ∧ sp_run t b H (nI 120) f M2 = sp_run t b H (nI 120) 12000 M1 ∧ ((sp_rok o ∧ mo o W2 ∧ ¬ W2 0 29 = -4) ∨ ∃ r R, ms_s W2 t b n H L r wh R dn tk ∧ sp_rg n H f (vw t b M2) r R = o)) ?_ (n := 12000) ⟨M1, dn0, 0, es0, r1, s1, z1, f1, rfl, Or.inr ⟨0, fun _ => M, ⟨by omega, x28, x29, fun q hq => absurd hq (by omega), fun j _ hj => x12 j hj⟩, er0⟩⟩
  rintro f W2 ⟨M2, dn, tk, es, r2, s2, z2, f2, er, hs⟩ J hJ
  unfold wpB_Model_runs_64
  have h1 : W2 6 (96 * 1 + 1) = M2 b 3 := r2.2.2.2.2.1.2.1
  have hd := es.2.2.1.1
  have hd2 := es.2.2.1.2
  have hvd : vw t b M2 5 3 = nI dn := by rw [vw_0 (by omega)]; exact hd
  show wp_Model_of (nI 1) (nI 1) W2 _
  rw [e_of (by omega) (by omega), h1]
  refine ⟨fun q => ?_, fun q => ?_⟩
  · rw [sp_run_end (show ¬ M2 b 3 < nI 120 from Int32.not_lt.mpr q)] at er
    rw [er] at r2 s2
    rcases hs with ⟨a1, a2, -⟩ | ⟨r, R, st, eg⟩
    · exact hQ W2 r2 s2 f2 a1 a2
    · have c' : ¬ vw t b M2 5 3 < 120 := by rw [hvd, ← hd, Int32.not_lt]; exact q
      rw [sp_rg_end c'] at eg
      subst eg
      exact hQ W2 r2 s2 f2 (fun da ta dn tn q => by cases q) ⟨fun _ => st.2.2.1, fun da ta dn tn q => by cases q⟩
  have c0 : M2 b 3 < 120 := Int32.not_le.mp q
  have c1 : dn < 120 := by
    rw [hd] at c0
    exact (nI_ltI (a := dn) (b := 120) (by omega) (by omega)).mp c0
  have cv : vw t b M2 5 3 < 120 := by rw [hvd, ← hd]; exact c0
  obtain ⟨g, -, -, er2, -⟩ := sp_rl_step (m := 120) es.1 (by omega) c0
  obtain ⟨f', dn', tk', ef, es', hdd, htt, fr⟩ := sp_es_step es c1
  have er3 : sp_run t b H (nI 120) f M2 = sp_run t b H (nI 120) f' (sp_ev t b H M2) := by
    rw [ef, sp_run_1, if_pos (show M2 b 3 < nI 120 from c0)]
  have ev : vw t b (sp_ev t b H M2) = sp_ev 0 5 H (vw t b M2) := vw_ev (by omega) ht4
  have hve : sp_ev 0 5 H (vw t b M2) 5 3 = nI dn' := by rw [← ev, vw_0 (by omega)]; exact es'.2.2.1.1
  have dn2 := es'.2.2.1.2
  show wp_Model_of (nI 1) (nI 3) W2 _
  rw [e_of (by omega) (by omega)]
  refine ⟨fun c => absurd z2 c, fun _ => ?_⟩
  show wp_Model_of (nI 1) (nI 1) W2 _
  rw [e_of (by omega) (by omega), h1, hd]
  refine mt_event es.1.1 ⟨dn, by omega, hd⟩ r2 s2 (fun W3 r3 s3 z3 f3 k3 => ⟨fun c => absurd c (by decide), fun _ => ?_⟩)
  have er4 := er3.symm.trans er
  have d3 : W3 6 (96 * 1 + 1) = nI dn' := r3.2.2.2.2.1.2.1.trans es'.2.2.1.1
  have t3 : W3 6 96 = nI tk' := r3.2.2.2.2.1.1.trans es'.2.2.2.1
  have p3 := r3.2.2.2.2.1.2.2.2
  show wp_Model_of (nI 1) (nI 1) W3 _
  rw [e_of (by omega) (by omega), d3]
  have x029 : W3 0 = W2 0 := k3 0 (by omega) (by omega) (by omega)
  rcases hs with ⟨a1, a2, a3⟩ | ⟨r, R, st, eg⟩
  · have nf : ¬ W3 0 29 = -4 := by rw [x029]; exact a3
    have go : J W3 := hJ f' W3 (by omega) ⟨_, dn', tk', es', r3, s3, z3, f2.tr f3, er4, Or.inl ⟨a1, by unfold mo; rw [x029, k3 13 (by omega) (by omega) (by omega), k3 14 (by omega) (by omega) (by omega)]; exact a2, nf⟩⟩
    exact ⟨fun _ => go, fun _ => ⟨fun _ => go, fun c => absurd c nf⟩⟩
  have st3 : ms_s W3 t b n H L r wh R dn' tk' := ⟨by have := st.1; omega, by rw [x029]; exact st.2.1, by rw [x029]; exact st.2.2.1, fun q hq => (st.2.2.2.1 q hq).moved hdd (by omega) H5 (k3 4 (by omega) (by omega) (by omega)) (fun j _ _ => by rw [k3 12 (by omega) (by omega) (by omega)]) (by rw [k3 13 (by omega) (by omega) (by omega)]) (by rw [k3 14 (by omega) (by omega) (by omega)]), fun j a b => by rw [k3 12 (by omega) (by omega) (by omega)]; exact st.2.2.2.2 j a b⟩
  refine ⟨fun c3 => ?_, fun c3 => ⟨fun c => absurd st3.2.2.1 c, fun _ => ?_⟩⟩
  · have c3' : ¬ vw t b M2 5 3 < sp_ev 0 5 H (vw t b M2) 5 3 := by rw [hvd, hve, Int32.not_lt]; exact c3
    rw [ef, sp_rg_go cv c3', ← ev] at eg
    exact hJ f' W3 (by omega) ⟨_, dn', tk', es', r3, s3, z3, f2.tr f3, er4, Or.inr ⟨r, R, st3, eg⟩⟩
  have hlt : dn < dn' := (nI_ltI (by omega) (by omega)).mp (Int32.not_le.mp c3)
  have c3' : vw t b M2 5 3 < sp_ev 0 5 H (vw t b M2) 5 3 := by rw [hvd, hve]; exact nI_lt hlt (by omega)
  have rr : r < 120 := by have := st.1; omega
  have rv' := sp_rv_of es'
  have hl7 : ∀ j, j < 40 → 0 ≤ sp_ev t b H M2 (b + 7) j := fun j hj => by
    obtain ⟨C, hC, bd⟩ := es'.2.1
    obtain ⟨l, l1, l2⟩ := bd.2 j hj
    rw [l1]
    exact nI_le (a := 0) (by omega) (by omega)
  have hhd := es'.1.1.1.2.2.2.2.2.1
  refine mt_laySeen rr st3.2.1 r3.2.1.2.1 H5 r3.2.2.1.1 (fun W4 a1 a2 a3 a4 a13 a14 a0 ak => ?_)
  have row4 : ms_q W4 W3 H r wh := ⟨a1, a2, a3, fun i hi => by rw [a4 _ (by omega)]; exact st3.2.2.2.2 _ (by omega) (by omega)⟩
  have old4 : ∀ q, q < r → ms_r W4 t b n H L q wh (R q) dn' tk' := fun q hq => (st3.2.2.2.1 q hq).moved (Nat.le_refl _) (Nat.le_refl _) H5 (ak 4 (by omega) (by omega) (by omega) (by omega)) (fun j _ hj => a4 j (by omega)) (by rw [a13, upd_ne (by omega)]) (by rw [a14, upd_ne (by omega)])
  have e28 : W4 0 28 = nI (r + 1) := by rw [a0, upd_eq]
  have e18 : W4 0 18 = nI H := by rw [a0, upd_ne (by omega)]; exact r3.2.1.2.1
  refine mt_earlier rr e28 e18 H5 (fun oo ho => ?_)
  have key : ∀ q, q < r → ((∀ k, k < 30 + 8 * H → W4 12 (80 * q + k) = W4 12 (80 * r + k)) ↔ sp_same 0 5 n H (R q) (sp_ev 0 5 H (vw t b M2))) := fun q hq => by
    obtain ⟨-, ⟨Wq, X, b1, b2, b3, b4, b5, b6, b7, b8, b9⟩, -, -⟩ := old4 q hq
    have e4 : W3 4 = Wq 4 := by rw [← b3, ak 4 (by omega) (by omega) (by omega) (by omega)]
    rw [← ev, ← b1, vw_same]
    exact mq_row_eq n8 b2 r3 e4 b4 hhd b5 hl7 H5 b6 b7 b8 b9 row4.1 row4.2.1 row4.2.2.1 row4.2.2.2
  have eo := sp_fst_eq ho key
  intro W5 e5 W6 e6
  have w5 : W5 0 28 = nI (r + 1) := by rw [e5, zup_eq, upd_ne (by omega)]; exact e28
  have k6 : ∀ k, k ≠ 0 → W6 k = W4 k := fun k hk => by rw [e6, zup_ne hk, e5, zup_ne hk]
  have k60 : ∀ j, j ≠ 28 → j ≠ 29 → j ≠ 30 → W6 0 j = W3 0 j := fun j x y z => by rw [e6, zup_eq, upd_ne z, e5, zup_eq, upd_ne y, a0, upd_ne x]
  have w28 : W6 0 28 = nI (r + 1) := by rw [e6, zup_eq, upd_ne (by omega)]; exact w5
  have w30 : W6 0 30 = nI r := by rw [e6, zup_eq, upd_eq, w5]; exact (q_sub (a := r + 1) (b := 1) (by omega))
  have kk : ∀ k, k ≠ 0 → k ≠ 12 → k ≠ 13 → k ≠ 14 → W6 k = W3 k := fun k x0 x12 x13 x14 => by rw [k6 k x0, ak k x0 x12 x13 x14]
  have r6 : mr W6 (sp_ev t b H M2) 1 t b n H L wh := mr_ext r3 (k60 18 (by omega) (by omega) (by omega)) (k60 19 (by omega) (by omega) (by omega)) (kk 4 (by omega) (by omega) (by omega) (by omega)) (kk 6 (by omega) (by omega) (by omega) (by omega)) (kk 8 (by omega) (by omega) (by omega) (by omega)) (kk 9 (by omega) (by omega) (by omega) (by omega)) (kk 10 (by omega) (by omega) (by omega) (by omega))
  have s6 : ms W6 (sp_ev t b H M2) 1 b n := by unfold ms at s3 ⊢; rw [kk 11 (by omega) (by omega) (by omega) (by omega)]; exact s3
  have z6 : W6 6 99 = 0 := by rw [kk 6 (by omega) (by omega) (by omega) (by omega)]; exact z3
  have f36 : mfw W3 W6 := ⟨fun k x0 _ _ _ x12 x13 x14 => kk k x0 x12 x13 x14, fun j _ => by rw [kk 6 (by omega) (by omega) (by omega) (by omega)], fun j x y z => k60 j x y z⟩
  have old6 : ∀ q, q < r → ms_r W6 t b n H L q wh (R q) dn' tk' := fun q hq => (old4 q hq).moved (Nat.le_refl _) (Nat.le_refl _) H5 (k6 4 (by omega)) (fun j _ _ => by rw [k6 12 (by omega)]) (by rw [k6 13 (by omega)]) (by rw [k6 14 (by omega)])
  have n13 : W6 13 r = nI dn' := by
    rw [k6 13 (by omega), a13, upd_eq]; exact d3
  have n14 : W6 14 r = nI tk' := by
    rw [k6 14 (by omega), a14, upd_eq]; exact t3
  cases oo with
  | none =>
    have w29 : W6 0 29 = -4 := by rw [e6, zup_eq, upd_ne (by omega), e5, zup_eq, upd_eq]
    rw [ef, sp_rg_none cv c3' eo.symm, ← ev] at eg
    refine hJ f' W6 (by omega) ⟨_, dn', tk', es', r6, s6, z6, (f2.tr f3).tr f36, er4, Or.inr ⟨r + 1, _, ⟨by have := st.1; omega, w28, w29, fun q hq => ?_, fun j x y => ?_⟩, eg⟩⟩
    · by_cases cq : q = r
      · subst cq
        simp only [↓reduceIte]
        refine ⟨rv', ⟨W3, _, rfl, r3, by rw [kk 4 (by omega) (by omega) (by omega) (by omega)], hhd, hl7, ?_⟩, ?_, ?_⟩
        · unfold ms_q at row4 ⊢
          rw [k6 12 (by omega)]; exact row4
        · rw [n13, ev, hve]
        · rw [n14, vw_0 (by omega)]; exact es'.2.2.2.1.symm
      · simp only [cq, ↓reduceIte]
        exact old6 q (by omega)
    · rw [k6 12 (by omega), a4 j (by omega)]
      exact st3.2.2.2.2 j (by omega) y
  | some q =>
    have hq : q < r := sp_fo_lt eo.symm
    rw [ef, sp_rg_some cv c3' eo.symm] at eg
    obtain ⟨⟨-, -, ⟨da, d1, d2⟩, u, u1, u2⟩, -, q13, q14⟩ := old6 q hq
    obtain ⟨⟨-, -, ⟨da', d1', d2'⟩, u', u1', u2'⟩, -, -, -⟩ := st.2.2.2.1 q hq
    have tb := es'.2.2.2.2
    have tb0 := es.2.2.2.2
    have ed : da = da' := by rw [d2] at d2'; exact (nI_eq (by omega) (by omega)).mp d2'
    have eu : u = u' := by rw [u2] at u2'; exact (nI_eq (by omega) (by omega)).mp u2'
    have y3 : sp_ev 0 5 H (vw t b M2) 5 2 = nI tk' := by rw [← ev, vw_0 (by omega)]; exact es'.2.2.2.1
    unfold sp_rn at eg
    rw [d2, u2, hve, y3, q_ix (by omega), q_ix (by omega), q_ix (by omega), q_ix (by omega)] at eg
    have w29 : W6 0 29 = nI q := by rw [e6, zup_eq, upd_ne (by omega), e5, zup_eq, upd_eq]
    subst eg
    refine hJ f' W6 (by omega) ⟨_, dn', tk', es', r6, s6, z6, (f2.tr f3).tr f36, er4, Or.inl ⟨fun a1 a2 a3 a4 qq => ?_, ⟨fun qq => (by cases qq), fun a1 a2 a3 a4 qq => ?_⟩, ?_⟩⟩
    · cases qq
      exact ⟨by omega, by omega, by omega, by omega⟩
    · cases qq
      exact ⟨q, r, by omega, rr, w29, w30, q13.trans d2, q14.trans u2, n13, n14⟩
    · rw [w29]
      intro c
      have := q_neq (a := q) (c := 4) (by omega) (by omega) (by omega)
      rw [show (-4 : Int32) = -nI 4 from rfl, this] at c
      exact c
/-- coats and ticks of a ring, as the reference has them -/
def ro_c (o : Option (Nat × Nat × Nat × Nat)) : Nat := match o with | none => 0 | some (da, _, dn, _) => dn - da
def ro_t (o : Option (Nat × Nat × Nat × Nat)) : Nat := match o with | none => 1 | some (_, ta, _, tn) => tn - ta
theorem ro_ok {o : Option (Nat × Nat × Nat × Nat)} (h : sp_rok o) : ro_c o ≤ 200 ∧ 0 < ro_t o ∧ ro_t o ≤ 480000 ∧ (o = none ↔ ro_c o = 0) := by
  cases o with
  | none => exact ⟨by show 0 ≤ 200; omega, by show 0 < 1; omega, by show 1 ≤ 480000; omega, fun _ => rfl, fun _ => rfl⟩
  | some x =>
    obtain ⟨da, ta, dn, tn⟩ := x
    obtain ⟨a, b, c, d⟩ := h da ta dn tn rfl
    refine ⟨by show dn - da ≤ 200; omega, by show 0 < tn - ta; omega, by show tn - ta ≤ 480000; omega, fun q => (nomatch q), fun q => ?_⟩
    have q' : dn - da = 0 := q
    omega
/-- what the reference may change when it looks for a ring -/
def mfx (W W' : zMem) : Prop := (∀ k, k ≠ 0 → k ≠ 6 → k ≠ 10 → k ≠ 11 → k ≠ 12 → k ≠ 13 → k ≠ 14 → W' k = W k) ∧ (∀ j, (j < 96 ∨ 192 ≤ j) → W' 6 j = W 6 j) ∧ (∀ j, (j < 28 ∨ 33 ≤ j) → W' 0 j = W 0 j)
theorem mfx.rf {W : zMem} : mfx W W := ⟨fun _ _ _ _ _ _ _ _ => rfl, fun _ _ => rfl, fun _ _ => rfl⟩
theorem mfx.tr {W W1 W2 : zMem} (h1 : mfx W W1) (h2 : mfx W1 W2) : mfx W W2 := ⟨fun k a b c d e f g => (h2.1 k a b c d e f g).trans (h1.1 k a b c d e f g), fun j a => (h2.2.1 j a).trans (h1.2.1 j a), fun j a => (h2.2.2 j a).trans (h1.2.2 j a)⟩
theorem mfw.x {W W' : zMem} (h : mfw W W') : mfx W W' := ⟨h.1, h.2.1, fun j a => h.2.2 j (by omega) (by omega) (by omega)⟩
theorem mfx.up {W : zMem} {j : Nat} {x : Int32} (h : 28 ≤ j) (h2 : j < 33) : mfx W (zup W 0 j x) := ⟨fun k a _ _ _ _ _ _ => zup_ne a, fun j _ => by rw [zup_ne (by omega)], fun i a => by rw [zup_eq, upd_ne (by omega)]⟩
theorem mt_hasRing {t b n H L : Nat} {wh : Nat → Nat} {M0 M W : zMem} {Q : Int32 → zMem → Prop} (hc : sp_clear b M0 M) (ok : sp_ok M t b n H L) (rt : mr_t W M t n H L) (rw0 : mw0 W M t n H wh) (hg : b = 32 → M 30 0 = 0)
    (hQ : ∀ W', mr W' (sp_run t b H (nI 120) 12000 (sp_all t b H M)) 1 t b n H L wh → mfx W W' → sp_rok (sp_ring t b n H M) → mo (sp_ring t b n H M) W' → W' 0 31 = nI (ro_c (sp_ring t b n H M)) → W' 0 32 = nI (ro_t (sp_ring t b n H M)) → Q (if sp_ring t b n H M = none then 0 else 1) W') : wp_Model_hasRing W Q := by
  unfold wp_Model_hasRing
  refine mt_runs_r hc ok rt rw0 hg (fun W1 r1 s1 f1 rk m1 => ?_)
  generalize sp_ring t b n H M = o at hQ rk m1
  generalize sp_run t b H (nI 120) 12000 (sp_all t b H M) = Me at hQ r1
  have fin : ∀ x y : Int32, x = nI (ro_c o) → y = nI (ro_t o) → Q (if o = none then 0 else 1) (zup (zup W1 0 31 x) 0 32 y) := fun x y ex ey => by
    refine hQ _ ?_ ((f1.x.tr (mfx.up (by omega) (by omega))).tr (mfx.up (by omega) (by omega))) rk ?_ ?_ ?_
    · exact mr_ext r1 (by simp (disch := omega) only [zup_eq, upd_ne]) (by simp (disch := omega) only [zup_eq, upd_ne]) (by simp (disch := omega) only [zup_ne]) (by simp (disch := omega) only [zup_ne]) (by simp (disch := omega) only [zup_ne]) (by simp (disch := omega) only [zup_ne]) (by simp (disch := omega) only [zup_ne])
    · unfold mo at m1 ⊢
      simp (disch := omega) only [zup_ne, zup_eq, upd_ne]
      exact m1
    · simp (disch := omega) only [zup_eq, upd_ne, upd_eq]; exact ex
    · simp (disch := omega) only [zup_eq, upd_eq]; exact ey
  cases o with
  | none =>
    have e29 := m1.1 rfl
    rw [if_pos rfl] at fin
    refine ⟨fun c => absurd e29 c, fun _ M6 e6 => ?_⟩
    have e29' : M6 0 29 = -4 := by rw [e6, zup_eq, upd_ne (by omega)]; exact e29
    refine ⟨fun c => absurd e29' c, fun _ M8 e8 => ⟨fun _ => ?_, fun c => ?_⟩⟩
    · rw [e8, e6]; exact fin 0 1 rfl rfl
    · exact absurd (by rw [e8, zup_eq, upd_ne (by omega)]; exact e29') c
  | some x =>
    obtain ⟨da, ta, dn, tn⟩ := x
    obtain ⟨q, r, q1, q2, q3, q4, q5, q6, q7, q8⟩ := m1.2 da ta dn tn rfl
    obtain ⟨k1, k2, k3, k4⟩ := rk da ta dn tn rfl
    have ne : ¬ nI q = -4 := fun c => by
      have := q_neq (a := q) (c := 4) (by omega) (by omega) (by omega)
      rw [show (-4 : Int32) = -nI 4 from rfl, this] at c
      exact c
    rw [if_neg (fun c => by cases c)] at fin
    refine ⟨fun _ => ?_, fun c => absurd c (by rw [q3]; exact ne)⟩
    rw [q3, q4, q_ix (by omega), q_ix (by omega), q5, q7, q_sub (by omega)]
    refine ⟨vp_in_nI q2 (by omega), vp_in_nI q1 (by omega), fun M3 e3 => ?_⟩
    have m29 : M3 0 29 = nI q := by rw [e3, zup_eq, upd_ne (by omega)]; exact q3
    have m30 : M3 0 30 = nI r := by rw [e3, zup_eq, upd_ne (by omega)]; exact q4
    have m14 : M3 14 = W1 14 := by rw [e3, zup_ne (by omega)]
    rw [m29, m30, m14, q_ix (by omega), q_ix (by omega), q6, q8, q_sub (by omega)]
    refine ⟨fun _ => ⟨vp_in_nI q2 (by omega), vp_in_nI q1 (by omega), fun M4 e4 => ⟨fun c => ?_, fun _ => ?_⟩⟩, fun c => absurd c ne⟩
    · exact absurd (show nI q = -4 by rw [← m29, ← c, e4, zup_eq, upd_ne (by omega)]) ne
    · rw [e4, e3]; exact fin _ _ rfl rfl
theorem i64_le {a b : Int32} : a.toInt64 ≤ b.toInt64 ↔ a ≤ b := by
  rw [Int64.le_iff_toInt_le, Int32.le_iff_toInt_le, Int32.toInt_toInt64, Int32.toInt_toInt64]
/-- within bounds, as ints -/
theorem e_inc {a lo' hi' : Int32} {lo hi : Int64} {M : zMem} {Q : Int32 → zMem → Prop} (h1 : lo = lo'.toInt64) (h2 : hi = hi'.toInt64) : wp_Model_in a.toInt64 lo hi M Q = Q (if lo' ≤ a ∧ a ≤ hi' then 1 else 0) M := by
  subst h1 h2
  rw [e_in]
  simp only [i64_le]
theorem mt_in {a lo' hi' : Int32} {lo hi : Int64} {M : zMem} {Q : Int32 → zMem → Prop} (h1 : lo = lo'.toInt64) (h2 : hi = hi'.toInt64) (ht : lo' ≤ a → a ≤ hi' → Q 1 M) (hf : ¬ (lo' ≤ a ∧ a ≤ hi') → Q 0 M) : wp_Model_in a.toInt64 lo hi M Q := by
  rw [e_inc h1 h2]
  by_cases c : lo' ≤ a ∧ a ≤ hi'
  · rw [if_pos c]; exact ht c.1 c.2
  · rw [if_neg c]; exact hf c
theorem xt_half {a : Int32} {M : zMem} {Q : Int32 → zMem → Prop} (ht : a = 0 ∨ a = 1 → Q 1 M) (hf : ¬ (a = 0 ∨ a = 1) → Q 0 M) : wp_Main_isHalf a M Q :=
  ⟨fun c => ht (Or.inl c), fun c => ⟨fun d => hf (fun q => q.elim c d), fun d => ht (Or.inr d)⟩⟩
theorem half_in {a : Int32} : (0 ≤ a ∧ a ≤ 1) ↔ (a = 0 ∨ a = 1) := by
  refine ⟨fun ⟨h1, h2⟩ => ?_, fun h => by rcases h with rfl | rfl <;> decide⟩
  obtain ⟨j, hj, e⟩ := nI_of2 (x := a) (M := 1) (n := 1) rfl (by rw [Int32.not_lt]; exact h1) h2
  subst e
  rcases (show j = 0 ∨ j = 1 by omega) with rfl | rfl
  · exact Or.inl rfl
  · exact Or.inr rfl
/-- a ring that the class has kept is that of what is told now -/
def cr (M : zMem) (n H L : Nat) : Prop := M 54 0 = 0 ∨ ∃ M0 Mc, sp_clear 45 M0 Mc ∧ sp_ok Mc 1 45 n H L ∧ (∀ i, i ≤ 4 → Mc (1 + i) = M (1 + i)) ∧ sp_rok (sp_ring 1 45 n H Mc) ∧ sp_ro (sp_ring 1 45 n H Mc) M 54
/-- what the class may change when it looks for a ring -/
def cfr (g : Nat) (M M' : zMem) : Prop := ∀ k, k ≠ g → (k < 41 ∨ 54 ≤ k) → M' k = M k
theorem xt_findRing {n H L : Nat} {M : zMem} {Q : zMem → Prop} (vt : sp_vt M 1 n H L) (h : cr M n H L)
    (hQ : ∀ M' M0 Mc, sp_clear 45 M0 Mc → sp_ok Mc 1 45 n H L → (∀ i, i ≤ 4 → Mc (1 + i) = M (1 + i)) → sp_rok (sp_ring 1 45 n H Mc) → sp_ro (sp_ring 1 45 n H Mc) M' 54 → cfr 54 M M' → Q M') : wp_Main_findRing M Q := by
  refine ⟨fun c => ?_, fun _ => ?_⟩
  · rcases h with h | ⟨M0, Mc, h1, h2, h3, h4, h5⟩
    · exact absurd h c
    · exact hQ M M0 Mc h1 h2 h3 h4 h5 (fun _ _ _ => rfl)
  · exact xt_settle (Or.inl rfl) (Or.inl rfl) vt (fun M0 Mc M' a b c _ d e f => hQ M' M0 Mc a b c d e f)
/-- what the reference may change in a question -/
def mfy (W W' : zMem) : Prop := (∀ k, k ≠ 0 → k ≠ 6 → k ≠ 8 → k ≠ 9 → k ≠ 10 → k ≠ 11 → k ≠ 12 → k ≠ 13 → k ≠ 14 → k ≠ 15 → W' k = W k) ∧ (∀ j, (j < 96 ∨ 192 ≤ j) → W' 6 j = W 6 j) ∧ (∀ j, j ≠ 18 → j ≠ 19 → (j < 28 ∨ 35 ≤ j) → W' 0 j = W 0 j)
theorem mfy.rf {W : zMem} : mfy W W := ⟨fun _ _ _ _ _ _ _ _ _ _ _ => rfl, fun _ _ => rfl, fun _ _ _ _ => rfl⟩
theorem mfy.tr {W W1 W2 : zMem} (h1 : mfy W W1) (h2 : mfy W1 W2) : mfy W W2 := ⟨fun k a b c d e f g h i j => (h2.1 k a b c d e f g h i j).trans (h1.1 k a b c d e f g h i j), fun j a => (h2.2.1 j a).trans (h1.2.1 j a), fun j a b c => (h2.2.2 j a b c).trans (h1.2.2 j a b c)⟩
theorem mfx.y {W W' : zMem} (h : mfx W W') : mfy W W' := ⟨fun k a b _ _ e f g h1 i _ => h.1 k a b e f g h1 i, h.2.1, fun j _ _ c => h.2.2 j (by omega)⟩
theorem mnum.y {W W' M : zMem} {H : Nat} (h : mnum W W' M H) : mfy W W' := ⟨fun k a _ c d _ _ _ _ _ _ => h.2.2.2.2 k a c d, fun j _ => by rw [h.2.2.2.2 6 (by omega) (by omega) (by omega)], fun j a b _ => h.2.2.2.1 j a b⟩
theorem mt_ringAt {n H L : Nat} {M M0 Mc W : zMem} {Q : Int32 → zMem → Prop} (vt : sp_vt M 1 n H L) (r : rt0 W M n H L) (hc : sp_clear 45 M0 Mc) (ok : sp_ok Mc 1 45 n H L) (tc : ∀ i, i ≤ 4 → Mc (1 + i) = M (1 + i))
    (hQ : ∀ W', mfy W W' → mo (sp_ring 1 45 n H Mc) W' → W' 0 31 = nI (ro_c (sp_ring 1 45 n H Mc)) → W' 0 32 = nI (ro_t (sp_ring 1 45 n H Mc)) → Q (if sp_ring 1 45 n H Mc = none then 0 else 1) W') : wp_Model_asNumbered W (fun W1 => wp_Model_hasRing W1 Q) := by
  refine mt_asNumbered vt r (fun W1 m1 => ?_)
  obtain ⟨a18, a19, ah, a0, ak⟩ := id m1
  have H5 : H ≤ 5 := vt.1.2.2.2.1
  have r1 : rt0 W1 Mc n H L := r.moved (ak 4 (by omega) (by omega) (by omega)) tc
  have t1 : Mc 1 = M 1 := tc 0 (by omega)
  have t5 : Mc 5 = M 5 := tc 4 (by omega)
  have rt : mr_t W1 Mc 1 n H L := mr_t_of (M' := Mc) r1 a18 (by rw [t1]; exact a19) (fun h hh => by rw [t5]; exact (ah h hh).2)
  have rw0 : mw0 W1 Mc 1 n H (fun h => h) := ⟨fun h hh => ⟨by show h < 5; omega, (ah h hh).1⟩, fun h j _ _ e => e, fun h p hh hp => r1.2.2.2.2.2.2.2.2.2.1 h p hh hp⟩
  exact mt_hasRing hc ok rt rw0 (fun q => absurd q (by omega)) (fun W' _ fx _ m c t => hQ W' (m1.y.tr fx.y) m c t)
/-- settles -/
theorem p_settles {n H L : Nat} {M W : zMem} {a : Int32} {P : zMem → zMem → Prop} (vt : sp_vt M 1 n H L) (r : rt0 W M n H L) (h : cr M n H L)
    (hP : ∀ M' W', cfr 54 M M' → mfy W W' → cr M' n H L → P M' W') : wp_Main_settles a M (fun x M' => wp_Model_settles a W (fun y W' => x = y ∧ P M' W')) := by
  have bad : (¬ (0 ≤ a ∧ a ≤ 2)) → wp_Model_settles a W (fun y W' => -1 = y ∧ P M W') := fun c =>
    mt_in (lo' := 0) (hi' := 2) (by decide) (by decide) (fun c1 c2 => absurd ⟨c1, c2⟩ c) (fun _ => ⟨fun q => absurd rfl q, fun _ => ⟨rfl, hP M W (fun _ _ _ => rfl) mfy.rf h⟩⟩)
  refine ⟨fun c => bad (fun q => absurd c (Int32.not_lt.mpr q.1)), fun c1 => ⟨fun c2 => ?_, fun c => bad (fun q => c q.2)⟩⟩
  refine xt_findRing vt h (fun M' M0 Mc hc ok tc rk ro cf => ?_)
  have cr' : cr M' n H L := Or.inr ⟨M0, Mc, hc, ok, fun i hi => (tc i hi).trans (cf _ (by omega) (by omega)).symm, rk, ro⟩
  have ask : ∀ x : Int32, (∀ W', mo (sp_ring 1 45 n H Mc) W' → W' 0 31 = nI (ro_c (sp_ring 1 45 n H Mc)) → W' 0 32 = nI (ro_t (sp_ring 1 45 n H Mc)) → (¬ sp_ring 1 45 n H Mc = none → (¬ a = 0 → (¬ a = 1 → x = W' 0 32) ∧ (a = 1 → x = W' 0 31)) ∧ (a = 0 → vp_in (W' 0 29) 120 ∧ x = W' 13 (ix (W' 0 29)))) ∧ (sp_ring 1 45 n H Mc = none → x = -4)) → wp_Model_settles a W (fun y W' => x = y ∧ P M' W') := fun x hx => by
    refine mt_in (lo' := 0) (hi' := 2) (by decide) (by decide) (fun _ _ => ⟨fun _ => ?_, fun q => absurd q (by decide)⟩) (fun q => absurd ⟨Int32.not_lt.mp c1, c2⟩ q)
    refine mt_ringAt vt r hc ok tc (fun W' fy m1 e31 e32 => ?_)
    have p1 := hP M' W' cf fy cr'
    obtain ⟨x1, x2⟩ := hx W' m1 e31 e32
    by_cases co : sp_ring 1 45 n H Mc = none
    · rw [if_pos co]
      exact ⟨fun q => absurd rfl q, fun _ => ⟨x2 co, p1⟩⟩
    · rw [if_neg co]
      obtain ⟨x3, x4⟩ := x1 co
      exact ⟨fun _ => ⟨fun q => ⟨fun q2 => ⟨(x3 q).1 q2, p1⟩, fun q2 => ⟨(x3 q).2 q2, p1⟩⟩, fun q => ⟨(x4 q).1, (x4 q).2, p1⟩⟩, fun q => absurd q (by decide)⟩
  obtain ⟨g0, gn, gs⟩ := ro
  generalize sp_ring 1 45 n H Mc = o at ask gn gs rk
  cases o with
  | none =>
    refine ⟨fun q => absurd (gn rfl).1 q, fun _ => ask _ (fun W' _ _ _ => ⟨fun q => absurd rfl q, fun _ => rfl⟩)⟩
  | some x =>
    obtain ⟨da, ta, dn, tn⟩ := x
    obtain ⟨y1, y2, y5, y3, y4, -, -⟩ := gs da ta dn tn rfl
    rw [y1]
    refine ⟨fun _ => ⟨fun q => ⟨fun q2 => ask _ (fun W' m e31 e32 => ⟨fun _ => ⟨fun _ => ⟨fun _ => ?_, fun z => absurd z q2⟩, fun z => absurd z q⟩, fun z => by cases z⟩), fun q2 => ask _ (fun W' m e31 e32 => ⟨fun _ => ⟨fun _ => ⟨fun z => absurd q2 z, fun _ => ?_⟩, fun z => absurd z q⟩, fun z => by cases z⟩)⟩, fun q => ask _ (fun W' m e31 e32 => ⟨fun _ => ⟨fun z => absurd q z, fun _ => ?_⟩, fun z => by cases z⟩)⟩, fun q => absurd q (by decide)⟩
    · rw [y4, e32]; rfl
    · rw [y3, e31]; rfl
    · obtain ⟨k1, k2, z1, z2, z3, z4, z5, z6, z7, z8⟩ := m.2 da ta dn tn rfl
      rw [z3, q_ix (by omega), z5, y2]
      exact ⟨vp_in_nI z1 (by omega), rfl⟩
def ro_top (o : Option (Nat × Nat × Nat × Nat)) : Nat := ro_c o / Nat.gcd (ro_c o) (ro_t o)
def ro_bot (o : Option (Nat × Nat × Nat × Nat)) : Nat := ro_t o / Nat.gcd (ro_c o) (ro_t o)
theorem ro_gcd {o : Option (Nat × Nat × Nat × Nat)} (h : sp_rok o) : 0 < Nat.gcd (ro_c o) (ro_t o) := Nat.gcd_pos_of_pos_right _ (ro_ok h).2.1
theorem ro_tb {o : Option (Nat × Nat × Nat × Nat)} (h : sp_rok o) : ro_top o ≤ 200 ∧ 0 < ro_bot o ∧ ro_bot o ≤ 480000 ∧ (o = none ↔ ro_top o = 0) := by
  obtain ⟨a, b, c, d⟩ := ro_ok h
  have g := ro_gcd h
  have g1 := Nat.gcd_dvd_left (ro_c o) (ro_t o)
  have g2 := Nat.gcd_dvd_right (ro_c o) (ro_t o)
  unfold ro_top ro_bot
  refine ⟨Nat.le_trans (Nat.div_le_self _ _) a, Nat.div_pos (Nat.le_of_dvd b g2) g, Nat.le_trans (Nat.div_le_self _ _) c, ?_⟩
  rw [d]
  refine ⟨fun e => by rw [e]; exact Nat.zero_div _, fun e => ?_⟩
  rcases Nat.eq_zero_or_pos (ro_c o) with z | z
  · exact z
  · have := Nat.div_pos (Nat.le_of_dvd z g1) g
    omega
theorem sp_ro_tb {o : Option (Nat × Nat × Nat × Nat)} {M : zMem} {g : Nat} (h : sp_ro o M g) : M g 6 = nI (ro_top o) ∧ M g 7 = nI (ro_bot o) := by
  cases o with
  | none => exact ⟨(h.2.1 rfl).2.1, (h.2.1 rfl).2.2⟩
  | some x =>
    obtain ⟨da, ta, dn, tn⟩ := x
    obtain ⟨-, -, -, -, -, y6, y7⟩ := h.2.2 da ta dn tn rfl
    exact ⟨y6, y7⟩
theorem mt_made {o : Option (Nat × Nat × Nat × Nat)} {a : Int32} {W : zMem} {Q : Int32 → zMem → Prop} (rk : sp_rok o) (e31 : W 0 31 = nI (ro_c o)) (e32 : W 0 32 = nI (ro_t o)) (hQ : Q (nI (if a = 0 then ro_top o else ro_bot o)) W) : wp_Model_made a W Q := by
  obtain ⟨k1, k2, k3, -⟩ := ro_ok rk
  unfold wp_Model_made
  rw [e31, e32, q_l64 (by omega), q_l64 (by omega)]
  refine mt_lowest (by omega) (by omega) (ro_gcd rk) ?_
  rw [lN_i]
  by_cases c : a = 0
  · rw [if_pos c] at hQ ⊢; exact hQ
  · rw [if_neg c] at hQ ⊢; exact hQ
theorem p_makes {n H L : Nat} {M W : zMem} {a : Int32} {P : zMem → zMem → Prop} (vt : sp_vt M 1 n H L) (r : rt0 W M n H L) (h : cr M n H L)
    (hP : ∀ M' W', cfr 54 M M' → mfy W W' → cr M' n H L → P M' W') : wp_Main_makes a M (fun x M' => wp_Model_makes a W (fun y W' => x = y ∧ P M' W')) := by
  refine xt_half (fun ca => ⟨fun _ => ?_, fun q => absurd q (by decide)⟩) (fun ca => ⟨fun q => absurd rfl q, fun _ => ?_⟩)
  · refine xt_findRing vt h (fun M' M0 Mc hc ok tc rk ro cf => ?_)
    have cr' : cr M' n H L := Or.inr ⟨M0, Mc, hc, ok, fun i hi => (tc i hi).trans (cf _ (by omega) (by omega)).symm, rk, ro⟩
    obtain ⟨t6, t7⟩ := sp_ro_tb ro
    have ask : ∀ x : Int32, x = nI (if a = 0 then ro_top (sp_ring 1 45 n H Mc) else ro_bot (sp_ring 1 45 n H Mc)) → wp_Model_makes a W (fun y W' => x = y ∧ P M' W') := fun x hx => by
      refine mt_in (lo' := 0) (hi' := 1) (by decide) (by decide) (fun _ _ => ⟨fun _ => ?_, fun q => absurd q (by decide)⟩) (fun q => absurd (half_in.mpr ca) q)
      refine mt_ringAt vt r hc ok tc (fun W' fy m1 e31 e32 => ?_)
      exact mt_made rk e31 e32 ⟨hx, hP M' W' cf fy cr'⟩
    refine ⟨fun q => ask _ ?_, fun q => ask _ ?_⟩
    · rw [if_neg q]; exact t7
    · rw [if_pos q]; exact t6
  · exact mt_in (lo' := 0) (hi' := 1) (by decide) (by decide) (fun c1 c2 => absurd (half_in.mp ⟨c1, c2⟩) ca) (fun _ => ⟨fun q => absurd rfl q, fun _ => ⟨rfl, hP M W (fun _ _ _ => rfl) mfy.rf h⟩⟩)
theorem sp_pf_congr {f g : Nat → Int32} : ∀ m p, (∀ i, p ≤ i → i < p + m → f i = g i) → sp_pf f m p = sp_pf g m p := by
  intro m
  induction m with
  | zero => intro p _; rfl
  | succ m ih =>
    intro p h
    unfold sp_pf
    rw [h p (by omega) (by omega), ih (p + 1) (fun i a b => h i (by omega) (by omega))]
/-- what is told at one place is told at another -/
def td (M : zMem) (t : Nat) (M' : zMem) (t' : Nat) : Prop := (∀ j, j ≤ 6 → M' t' j = M t j) ∧ (∀ j, j < 6 → M' (t' + 1) j = M (t + 1) j) ∧ (∀ j, j < 24 → M' (t' + 2) j = M (t + 2) j) ∧ (∀ j, j < 40 → M' (t' + 3) j = M (t + 3) j) ∧ (∀ j, j < 5 → M' (t' + 4) j = M (t + 4) j)
theorem sp_vt.copy {M M' : zMem} {t t' n H L : Nat} (h : sp_vt M t n H L) (d : td M t M' t') : sp_vt M' t' n H L := by
  obtain ⟨⟨n1, n8, H1, H5, L1, L6⟩, hn, hH, hL, hw, hl, hk, hwh, hrow, hun, hpf, hpa, hen, hel, hek⟩ := h
  obtain ⟨d0, d1, d2, d3, d4⟩ := d
  refine ⟨⟨n1, n8, H1, H5, L1, L6⟩, by rw [d0 0 (by omega)]; exact hn, by rw [d0 1 (by omega)]; exact hH, by rw [d0 6 (by omega)]; exact hL, by rw [d0 2 (by omega)]; exact hw, by rw [d0 3 (by omega)]; exact hl, by rw [d0 4 (by omega)]; exact hk, by rw [d0 5 (by omega)]; exact hwh, fun i hi => by rw [d1 i (by omega)]; exact hrow i hi, fun s p hs hp => by rw [d2 _ (by omega)]; exact hun s p hs hp, fun s hs => ?_, fun h p hh hp => by rw [d3 _ (by omega)]; exact hpa h p hh hp, fun h hh => by rw [d4 h (by omega)]; exact hen h hh, by rw [d4 _ (by omega)]; exact hel, fun z h hh => by rw [d4 h (by omega)]; exact hek (by rw [← d0 4 (by omega)]; exact z) h hh⟩
  rw [sp_pf_congr (f := fun i => M' (t' + 2) (s * 8 + i)) (g := fun i => M (t + 2) (s * 8 + i)) n 0 (fun i _ hi => d2 _ (by omega))]
  exact hpf s hs
theorem zcopy_in {M : zMem} {k0 k1 sp dp n j : Nat} (hs : sp < 2147483648) (hd : dp < 2147483648) (hn : n < 2147483648) (h : dp ≤ j) (h2 : j < dp + n) : zcopyM M k0 k1 (nI sp) (nI dp) (nI n) k1 j = M k0 (sp + (j - dp)) := by
  unfold zcopyM
  rw [zset_eq, q_ix hs, q_ix hd, q_ix hn]
  exact pk_cpy_in h h2
theorem zcopy_out {M : zMem} {k0 k1 sp dp n j : Nat} (hs : sp < 2147483648) (hd : dp < 2147483648) (hn : n < 2147483648) (h : j < dp ∨ dp + n ≤ j) : zcopyM M k0 k1 (nI sp) (nI dp) (nI n) k1 j = M k1 j := by
  unfold zcopyM
  rw [zset_eq, q_ix hs, q_ix hd, q_ix hn]
  exact pk_cpy_out h
theorem zcopy_ne {M : zMem} {k0 k1 k : Nat} {sp dp n : Int32} (h : k ≠ k1) : zcopyM M k0 k1 sp dp n k = M k := zset_ne h
theorem zcpok_nI {sp dp n n0 n1 : Nat} (h1 : sp + n ≤ n0) (h2 : dp + n ≤ n1) (h3 : n0 < 2147483648) (h4 : n1 < 2147483648) : zcpok (nI sp) (nI dp) (nI n) n0 n1 := by
  refine ⟨nI_pos (by omega), nI_pos (by omega), nI_pos (by omega), ?_, ?_⟩
  · rw [q_ix (by omega), q_ix (by omega)]; exact h1
  · rw [q_ix (by omega), q_ix (by omega)]; exact h2
theorem xt_copyFrom {k t : Nat} {M : zMem} {Q : zMem → Prop} (h : k + 4 < t ∨ t + 4 < k) (hQ : ∀ M', td M t M' k → (∀ c, (c < k ∨ k + 5 ≤ c) → M' c = M c) → Q M') : wp_Told_copyFrom k t M Q := by
  unfold wp_Told_copyFrom
  intro M1 e1 M2 e2 M3 e3 M4 e4 M5 e5 M6 e6 M7 e7
  have o7 : ∀ c, c ≠ k → M7 c = M c := fun c hc => by rw [e7, zup_ne hc, e6, zup_ne hc, e5, zup_ne hc, e4, zup_ne hc, e3, zup_ne hc, e2, zup_ne hc, e1, zup_ne hc]
  have ht : t ≠ k := by omega
  have k7 : ∀ j, j ≤ 6 → M7 k j = M t j := fun j hj => by
    have x1 : M1 t = M t := by rw [e1, zup_ne ht]
    have x2 : M2 t = M t := by rw [e2, zup_ne ht, x1]
    have x3 : M3 t = M t := by rw [e3, zup_ne ht, x2]
    have x4 : M4 t = M t := by rw [e4, zup_ne ht, x3]
    have x5 : M5 t = M t := by rw [e5, zup_ne ht, x4]
    have x6 : M6 t = M t := by rw [e6, zup_ne ht, x5]
    rw [x1] at e2; rw [x2] at e3; rw [x3] at e4; rw [x4] at e5; rw [x5] at e6; rw [x6] at e7
    rcases (show j = 0 ∨ j = 1 ∨ j = 2 ∨ j = 3 ∨ j = 4 ∨ j = 5 ∨ j = 6 by omega) with rfl | rfl | rfl | rfl | rfl | rfl | rfl
    all_goals
      rw [e7, e6, e5, e4, e3, e2, e1]
      simp (disch := omega) only [zup_eq, upd_ne, upd_eq]
  clear e7 e6 e5 e4 e3 e2 e1
  refine ⟨zcpok_nI (sp := 0) (dp := 0) (n := 6) (by omega) (by omega) (by omega) (by omega), fun M8 e8 => ⟨zcpok_nI (sp := 0) (dp := 0) (n := 24) (by omega) (by omega) (by omega) (by omega), fun M9 e9 => ⟨zcpok_nI (sp := 0) (dp := 0) (n := 40) (by omega) (by omega) (by omega) (by omega), fun M10 e10 => ⟨zcpok_nI (sp := 0) (dp := 0) (n := 5) (by omega) (by omega) (by omega) (by omega), fun M11 e11 => ?_⟩⟩⟩⟩
  have o11 : ∀ c, c ≠ k + 1 → c ≠ k + 2 → c ≠ k + 3 → c ≠ k + 4 → M11 c = M7 c := fun c a1 a2 a3 a4 => by rw [e11, zcopy_ne a4, e10, zcopy_ne a3, e9, zcopy_ne a2, e8, zcopy_ne a1]
  refine hQ M11 ⟨fun j hj => ?_, fun j hj => ?_, fun j hj => ?_, fun j hj => ?_, fun j hj => ?_⟩ (fun c hc => ?_)
  · rw [o11 k (by omega) (by omega) (by omega) (by omega)]; exact k7 j hj
  · rw [e11, zcopy_ne (by omega), e10, zcopy_ne (by omega), e9, zcopy_ne (by omega), e8]
    have := zcopy_in (M := M7) (k0 := t + 1) (k1 := k + 1) (sp := 0) (dp := 0) (n := 6) (j := j) (by omega) (by omega) (by omega) (by omega) (by omega)
    refine Eq.trans this ?_
    rw [o7 _ (by omega), Nat.sub_zero, Nat.zero_add]
  · rw [e11, zcopy_ne (by omega), e10, zcopy_ne (by omega), e9]
    have := zcopy_in (M := M8) (k0 := t + 2) (k1 := k + 2) (sp := 0) (dp := 0) (n := 24) (j := j) (by omega) (by omega) (by omega) (by omega) (by omega)
    refine Eq.trans this ?_
    rw [e8, zcopy_ne (by omega), o7 _ (by omega), Nat.sub_zero, Nat.zero_add]
  · rw [e11, zcopy_ne (by omega), e10]
    have := zcopy_in (M := M9) (k0 := t + 3) (k1 := k + 3) (sp := 0) (dp := 0) (n := 40) (j := j) (by omega) (by omega) (by omega) (by omega) (by omega)
    refine Eq.trans this ?_
    rw [e9, zcopy_ne (by omega), e8, zcopy_ne (by omega), o7 _ (by omega), Nat.sub_zero, Nat.zero_add]
  · rw [e11]
    have := zcopy_in (M := M10) (k0 := t + 4) (k1 := k + 4) (sp := 0) (dp := 0) (n := 5) (j := j) (by omega) (by omega) (by omega) (by omega) (by omega)
    refine Eq.trans this ?_
    rw [e10, zcopy_ne (by omega), e9, zcopy_ne (by omega), e8, zcopy_ne (by omega), o7 _ (by omega), Nat.sub_zero, Nat.zero_add]
  · rw [o11 c (by omega) (by omega) (by omega) (by omega), o7 c (by omega)]
/-- paces of one hand go to another -/
theorem xt_copyPaces {k t a c : Nat} {M : zMem} {Q : zMem → Prop} (ha : a < 5) (hc : c < 5) (hQ : ∀ M', (∀ p, p < 8 → M' (k + 3) (c * 8 + p) = M (t + 3) (a * 8 + p)) → (∀ j, (j < c * 8 ∨ c * 8 + 8 ≤ j) → M' (k + 3) j = M (k + 3) j) → (∀ d, d ≠ k + 3 → M' d = M d) → Q M') : wp_Told_copyPacesOf k t (nI a) (nI c) M Q := by
  unfold wp_Told_copyPacesOf
  have e1 : nI a * 8 = nI (a * 8) := q_mul a 8
  have e2 : nI c * 8 = nI (c * 8) := q_mul c 8
  rw [e1, e2]
  refine ⟨zcpok_nI (n := 8) (by omega) (by omega) (by omega) (by omega), fun M1 h1 => ?_⟩
  refine hQ M1 (fun p hp => ?_) (fun j hj => ?_) (fun d hd => ?_)
  · rw [h1]
    refine Eq.trans (zcopy_in (M := M) (k0 := t + 3) (k1 := k + 3) (sp := a * 8) (dp := c * 8) (n := 8) (j := c * 8 + p) (by omega) (by omega) (by omega) (by omega) (by omega)) ?_
    exact congrArg (M (t + 3)) (by omega)
  · rw [h1]
    exact zcopy_out (M := M) (k0 := t + 3) (k1 := k + 3) (sp := a * 8) (dp := c * 8) (n := 8) (by omega) (by omega) (by omega) hj
  · rw [h1, zcopy_ne hd]
/-- ends as the rule has them -/
theorem xt_fillEnds {k n H : Nat} {M : zMem} {Q : zMem → Prop} (hn : M k 0 = nI n) (hH : M k 1 = nI H) (H5 : H ≤ 5) (hQ : ∀ M', (∀ h, h < H → M' (k + 4) h = if M k 4 = 0 ∨ h = H - 1 then nI n else M (k + 4) h) → (∀ h, H ≤ h → M' (k + 4) h = M (k + 4) h) → (∀ d, d ≠ k + 4 → M' d = M d) → Q M') : wp_Told_fillEnds k M Q := by
  unfold wp_Told_fillEnds
  refine zlp1_r (fun m x M' => ∃ j, x = nI j ∧ j ≤ H ∧ m = H - j ∧ (∀ h, h < j → M' (k + 4) h = if M k 4 = 0 ∨ h = H - 1 then nI n else M (k + 4) h) ∧ (∀ h, j ≤ h → M' (k + 4) h = M (k + 4) h) ∧ (∀ d, d ≠ k + 4 → M' d = M d)) ?_ (n := H) ⟨0, rfl, by omega, rfl, fun h hh => absurd hh (by omega), fun _ _ => rfl, fun _ _ => rfl⟩
  rintro m x M' ⟨j, rfl, hj, rfl, i1, i2, i3⟩ J hJ
  unfold wpB_Told_fillEnds_2
  have f1 : M' k = M k := i3 k (by omega)
  rw [f1, hH, hn]
  have step : ∀ M'', (∀ d, d ≠ k + 4 → M'' d = M' d) → (∀ h, h ≠ j → M'' (k + 4) h = M' (k + 4) h) → (M'' (k + 4) j = if M k 4 = 0 ∨ j = H - 1 then nI n else M (k + 4) j) → j < H → J (nI (j + 1)) M'' := fun M'' a b c d => by
    refine hJ (H - (j + 1)) _ _ (by omega) ⟨j + 1, rfl, by omega, rfl, fun h hh => ?_, fun h hh => ?_, fun e he => by rw [a e he, i3 e he]⟩
    · by_cases q : h = j
      · rw [q]; exact c
      · rw [b h q]; exact i1 h (by omega)
    · rw [b h (by omega)]; exact i2 h (by omega)
  refine ⟨fun c => ?_, fun c => ?_⟩
  · have := (nI_leI (by omega) (by omega)).mp c
    have e : j = H := by omega
    subst e
    exact hQ M' i1 i2 i3
  have hjH : j < H := (nI_ltI (by omega) (by omega)).mp (Int32.not_le.mp c)
  refine ⟨fun c2 => ⟨vp_in_nI (by omega) (by omega), fun M1 e1 y ey => ?_⟩, fun c2 => ⟨fun c3 y ey => ?_, fun c3 => ⟨vp_in_nI (by omega) (by omega), fun M1 e1 y ey => ?_⟩⟩⟩
  · rw [ey, nI_1]
    rw [q_ix (by omega)] at e1
    exact step M1 (fun d hd => by rw [e1, zup_ne hd]) (fun h hh => by rw [e1, zup_eq, upd_ne hh]) (by rw [e1, zup_eq, upd_eq, if_pos (Or.inl c2)]) hjH
  · rw [ey, nI_1]
    rw [q_pred (by omega)] at c3
    have c4 : j ≠ H - 1 := fun q => c3 (by rw [q])
    exact step M' (fun _ _ => rfl) (fun _ _ => rfl) (by rw [i2 j (Nat.le_refl _), if_neg (fun q => q.elim c2 c4)]) hjH
  · rw [ey, nI_1]
    rw [q_ix (by omega)] at e1
    rw [q_pred (by omega)] at c3
    have c4 : j = H - 1 := (nI_eq (by omega) (by omega)).mp c3
    exact step M1 (fun d hd => by rw [e1, zup_ne hd]) (fun h hh => by rw [e1, zup_eq, upd_ne hh]) (by rw [e1, zup_eq, upd_eq, if_pos (Or.inr c4)]) hjH
theorem rng_0 {a : Int32} {H : Nat} (hH : H < 2147483648) : (¬ a < 0 ∧ ¬ nI H ≤ a) ↔ ∃ h, h < H ∧ a = nI h := by
  refine ⟨fun ⟨h1, h2⟩ => ?_, fun ⟨h, h1, h2⟩ => ?_⟩
  · obtain ⟨j, hj, rfl⟩ := nI_of h1
    exact ⟨j, (nI_ltI (by omega) (by omega)).mp (Int32.not_le.mp h2), rfl⟩
  · subst h2
    exact ⟨nI_pos (by omega), by rw [Int32.not_le]; exact nI_lt h1 (by omega)⟩
theorem rng_1 {a : Int32} {H : Nat} (h0 : 0 < H) (hH : H < 2147483648) : (0 ≤ a ∧ a ≤ nI H - 1) ↔ ∃ h, h < H ∧ a = nI h := by
  rw [← rng_0 hH, q_pred h0, ← Int32.not_lt]
  refine ⟨fun ⟨h1, h2⟩ => ⟨h1, ?_⟩, fun ⟨h1, h2⟩ => ⟨h1, ?_⟩⟩
  · obtain ⟨j, hj, rfl⟩ := nI_of h1
    have := (nI_leI (by omega) (by omega)).mp h2
    rw [Int32.not_le]; exact nI_lt (by omega) (by omega)
  · obtain ⟨j, hj, rfl⟩ := nI_of h1
    have := (nI_ltI (by omega) (by omega)).mp (Int32.not_le.mp h2)
    exact nI_le (by omega) (by omega)
theorem xt_isHand {a : Int32} {H : Nat} {M : zMem} {Q : Int32 → zMem → Prop} (hH : M 1 1 = nI H) (hb : H < 2147483648) (ht : ∀ h, h < H → a = nI h → Q 1 M) (hf : (¬ ∃ h, h < H ∧ a = nI h) → Q 0 M) : wp_Main_isHand a M Q := by
  unfold wp_Main_isHand
  rw [hH]
  refine ⟨fun c => hf (fun q => ((rng_0 hb).mpr q).1 c), fun c => ⟨fun c2 => hf (fun q => ((rng_0 hb).mpr q).2 c2), fun c2 => ?_⟩⟩
  obtain ⟨h, h1, h2⟩ := (rng_0 hb).mp ⟨c, c2⟩
  exact ht h h1 h2
theorem xt_isPiece {a : Int32} {n : Nat} {M : zMem} {Q : Int32 → zMem → Prop} (hn : M 1 0 = nI n) (hb : n < 2147483648) (ht : ∀ h, h < n → a = nI h → Q 1 M) (hf : (¬ ∃ h, h < n ∧ a = nI h) → Q 0 M) : wp_Main_isPiece a M Q := by
  unfold wp_Main_isPiece
  rw [hn]
  refine ⟨fun c => hf (fun q => ((rng_0 hb).mpr q).1 c), fun c => ⟨fun c2 => hf (fun q => ((rng_0 hb).mpr q).2 c2), fun c2 => ?_⟩⟩
  obtain ⟨h, h1, h2⟩ := (rng_0 hb).mp ⟨c, c2⟩
  exact ht h h1 h2
theorem mt_isHand {a : Int32} {H : Nat} {W : zMem} {Q : Int32 → zMem → Prop} (hH : W 4 1 = nI H) (h0 : 0 < H) (hb : H < 2147483648) (ht : ∀ h, h < H → a = nI h → Q 1 W) (hf : (¬ ∃ h, h < H ∧ a = nI h) → Q 0 W) : wp_Model_isHand a W Q := by
  unfold wp_Model_isHand
  refine ⟨vp_in_nI (n := 1) (by omega) (by omega), mt_in (lo' := 0) (hi' := W 4 (ix 1) - 1) (by decide) rfl (fun c1 c2 => ⟨zbo_1, ?_⟩) (fun c => ⟨zbo_0, hf (fun q => c ?_)⟩)⟩
  · rw [show ix 1 = 1 from rfl, hH] at c2
    obtain ⟨h, h1, h2⟩ := (rng_1 h0 hb).mp ⟨c1, c2⟩
    exact ht h h1 h2
  · rw [show ix 1 = 1 from rfl, hH]
    exact (rng_1 h0 hb).mpr q
theorem mt_isPiece {a : Int32} {n : Nat} {W : zMem} {Q : Int32 → zMem → Prop} (hn : W 4 0 = nI n) (h0 : 0 < n) (hb : n < 2147483648) (ht : ∀ h, h < n → a = nI h → Q 1 W) (hf : (¬ ∃ h, h < n ∧ a = nI h) → Q 0 W) : wp_Model_isPiece a W Q := by
  unfold wp_Model_isPiece
  refine ⟨vp_in_nI (n := 0) (by omega) (by omega), mt_in (lo' := 0) (hi' := W 4 (ix 0) - 1) (by decide) rfl (fun c1 c2 => ⟨zbo_1, ?_⟩) (fun c => ⟨zbo_0, hf (fun q => c ?_)⟩)⟩
  · rw [show ix 0 = 0 from rfl, hn] at c2
    obtain ⟨h, h1, h2⟩ := (rng_1 h0 hb).mp ⟨c1, c2⟩
    exact ht h h1 h2
  · rw [show ix 0 = 0 from rfl, hn]
    exact (rng_1 h0 hb).mpr q
/-- one hand fewer: who was at a place -/
def shf (a i : Nat) : Nat := if i < a then i else i + 1
theorem xt_dropHand {k n H a : Nat} {M : zMem} {Q : zMem → Prop} (hn : M k 0 = nI n) (hH : M k 1 = nI H) (H2 : 2 ≤ H) (H5 : H ≤ 5) (ha : a < H)
    (hQ : ∀ M', M' k 1 = nI (H - 1) → (∀ j, j ≠ 1 → M' k j = M k j) → (∀ i p, i < H - 1 → p < 8 → M' (k + 3) (i * 8 + p) = M (k + 3) (shf a i * 8 + p)) → (∀ i, i < H - 1 → M' (k + 4) i = if M k 4 = 0 ∨ i = H - 2 then nI n else M (k + 4) (shf a i)) → (∀ d, d ≠ k → d ≠ k + 3 → d ≠ k + 4 → M' d = M d) → Q M') : wp_Told_dropHand k (nI a) M Q := by
  unfold wp_Told_dropHand
  refine zlp1_r (fun m x M' => ∃ j, x = nI j ∧ a ≤ j ∧ j ≤ H - 1 ∧ m = H - 1 - j ∧ (∀ i p, i < j → p < 8 → M' (k + 3) (i * 8 + p) = M (k + 3) (shf a i * 8 + p)) ∧ (∀ i, j * 8 ≤ i → M' (k + 3) i = M (k + 3) i) ∧ (∀ i, i < j → M' (k + 4) i = M (k + 4) (shf a i)) ∧ (∀ i, j ≤ i → M' (k + 4) i = M (k + 4) i) ∧ (∀ d, d ≠ k + 3 → d ≠ k + 4 → M' d = M d)) ?_ (n := H - 1 - a) ⟨a, rfl, Nat.le_refl _, by omega, rfl, fun i p hi hp => by unfold shf; rw [if_pos hi], fun _ _ => rfl, fun i hi => by unfold shf; rw [if_pos hi], fun _ _ => rfl, fun _ _ _ => rfl⟩
  rintro m x M' ⟨j, rfl, ja, jH, rfl, i1, i2, i3, i4, i5⟩ J hJ
  unfold wpB_Told_dropHand_2
  have fk : M' k = M k := i5 k (by omega) (by omega)
  rw [fk, hH, q_pred (by omega)]
  refine ⟨fun c M1 e1 => ?_, fun c => ?_⟩
  · have := (nI_leI (by omega) (by omega)).mp c
    have ej : j = H - 1 := by omega
    subst ej
    have g0 : M1 k 0 = nI n := by rw [e1, zup_eq, upd_ne (by omega), fk]; exact hn
    have g1 : M1 k 1 = nI (H - 1) := by rw [e1, zup_eq, upd_eq]
    have g4 : M1 k 4 = M k 4 := by rw [e1, zup_eq, upd_ne (by omega), fk]
    have gd : ∀ d, d ≠ k → M1 d = M' d := fun d hd => by rw [e1, zup_ne hd]
    refine xt_fillEnds g0 g1 (by omega) (fun M2 a1 a2 a3 => hQ M2 ?_ (fun q hq => ?_) (fun i p hi hp => ?_) (fun i hi => ?_) (fun d d1 d2 d3 => ?_))
    · rw [a3 k (by omega)]; exact g1
    · rw [a3 k (by omega), e1, zup_eq, upd_ne hq, fk]
    · rw [a3 _ (by omega), gd _ (by omega)]; exact i1 i p hi hp
    · rw [a1 i hi, g4, gd _ (by omega), i3 i hi]
      rfl
    · rw [a3 d d3, gd d d1, i5 d d2 d3]
  · have hj : j < H - 1 := (nI_ltI (by omega) (by omega)).mp (Int32.not_le.mp c)
    rw [nI_1]
    refine xt_copyPaces (by omega) (by omega) (fun M1 b1 b2 b3 => ⟨vp_in_nI (by omega) (by omega), vp_in_nI (by omega) (by omega), fun M2 e2 y ey => ?_⟩)
    rw [ey]
    rw [q_ix (by omega), q_ix (by omega)] at e2
    have sj : shf a j = j + 1 := by unfold shf; rw [if_neg (by omega)]
    refine hJ (H - 1 - (j + 1)) _ _ (by omega) ⟨j + 1, rfl, by omega, by omega, rfl, fun i p hi hp => ?_, fun i hi => ?_, fun i hi => ?_, fun i hi => ?_, fun d d1 d2 => ?_⟩
    · rw [e2, zup_ne (by omega)]
      by_cases q : i = j
      · rw [q, b1 p hp, i2 _ (by omega), sj]
      · rw [b2 _ (by omega)]; exact i1 i p (by omega) hp
    · rw [e2, zup_ne (by omega), b2 _ (by omega)]; exact i2 i (by omega)
    · rw [e2, zup_eq]
      by_cases q : i = j
      · rw [q, upd_eq, b3 _ (by omega), i4 _ (by omega), sj]
      · rw [upd_ne q, b3 _ (by omega)]; exact i3 i (by omega)
    · rw [e2, zup_eq, upd_ne (by omega), b3 _ (by omega)]; exact i4 i (by omega)
    · rw [e2, zup_ne d2, b3 d d1, i5 d d1 d2]
/-- one hand fewer is told well -/
theorem sp_vt_drop {k n H L a : Nat} {M M' : zMem} (vt : sp_vt M k n H L) (H2 : 2 ≤ H) (ha : a < H) (e1 : M' k 1 = nI (H - 1)) (e0 : ∀ j, j ≠ 1 → M' k j = M k j) (e3 : ∀ i p, i < H - 1 → p < 8 → M' (k + 3) (i * 8 + p) = M (k + 3) (shf a i * 8 + p)) (e4 : ∀ i, i < H - 1 → M' (k + 4) i = if M k 4 = 0 ∨ i = H - 2 then nI n else M (k + 4) (shf a i)) (ed : ∀ d, d ≠ k → d ≠ k + 3 → d ≠ k + 4 → M' d = M d) : sp_vt M' k n (H - 1) L := by
  obtain ⟨⟨n1, n8, H1, H5, L1, L6⟩, hn, hH, hL, hw, hl, hk, hwh, hrow, hun, hpf, hpa, hen, hel, hek⟩ := vt
  have sh : ∀ i, i < H - 1 → shf a i < H := fun i hi => by unfold shf; split <;> omega
  refine ⟨⟨n1, n8, by omega, by omega, L1, L6⟩, by rw [e0 0 (by omega)]; exact hn, e1, by rw [e0 6 (by omega)]; exact hL, by rw [e0 2 (by omega)]; exact hw, by rw [e0 3 (by omega)]; exact hl, by rw [e0 4 (by omega)]; exact hk, by rw [e0 5 (by omega)]; exact hwh, by rw [ed (k + 1) (by omega) (by omega) (by omega)]; exact hrow, by rw [ed (k + 2) (by omega) (by omega) (by omega)]; exact hun, by rw [ed (k + 2) (by omega) (by omega) (by omega)]; exact hpf, fun h p hh hp => by rw [e3 h p hh (by omega)]; exact hpa _ p (sh h hh) hp, fun h hh => ?_, ?_, fun z h hh => ?_⟩
  · rw [e4 h hh]
    split
    · exact ⟨n, Nat.le_refl _, rfl⟩
    · exact hen _ (sh h hh)
  · rw [e4 _ (by omega), if_pos (Or.inr (by omega))]
  · rw [e4 h hh, if_pos (Or.inl (by rw [← e0 4 (by omega)]; exact z))]
/-- one hand fewer, the reference's side: who stands where -/
theorem mt_less49 {a1 a2 : Int32} {a H : Nat} {K : zMem → Prop} {Q : Int32 → zMem → Prop} {W : zMem} (H2 : 2 ≤ H) (H5 : H ≤ 5) (ha : a < H) (h18 : W 0 18 = nI (H - 1))
    (hK : ∀ W', (∀ i, i < H - 1 → W' 8 i = W 8 (shf a i) ∧ W' 9 i = W 9 (shf a i)) → (∀ d, d ≠ 8 → d ≠ 9 → W' d = W d) → K W') : ∃ n, zlp1 (wpB_Model_less_49 a1 a2 K Q) n (nI a) W := by
  refine zlp1_r (fun m x W' => ∃ j, x = nI j ∧ a ≤ j ∧ j ≤ H - 1 ∧ m = H - 1 - j ∧ (∀ i, i < j → W' 8 i = W 8 (shf a i) ∧ W' 9 i = W 9 (shf a i)) ∧ (∀ i, j ≤ i → W' 8 i = W 8 i ∧ W' 9 i = W 9 i) ∧ (∀ d, d ≠ 8 → d ≠ 9 → W' d = W d)) ?_ (n := H - 1 - a) ⟨a, rfl, Nat.le_refl _, by omega, rfl, fun i hi => by unfold shf; rw [if_pos hi]; exact ⟨rfl, rfl⟩, fun _ _ => ⟨rfl, rfl⟩, fun _ _ _ => rfl⟩
  rintro m x W' ⟨j, rfl, ja, jH, rfl, i1, i2, i3⟩ J hJ
  unfold wpB_Model_less_49
  rw [i3 0 (by omega) (by omega), h18]
  refine ⟨fun c => ?_, fun c => ?_⟩
  · have := (nI_leI (by omega) (by omega)).mp c
    have ej : j = H - 1 := by omega
    subst ej
    exact hK W' i1 i3
  · have hj : j < H - 1 := (nI_ltI (by omega) (by omega)).mp (Int32.not_le.mp c)
    have sj : shf a j = j + 1 := by unfold shf; rw [if_neg (by omega)]
    rw [nI_1, q_ix (by omega), q_ix (by omega)]
    refine ⟨vp_in_nI (by omega) (by omega), vp_in_nI (by omega) (by omega), fun W1 e1 => ⟨vp_in_nI (by omega) (by omega), vp_in_nI (by omega) (by omega), fun W2 e2 y ey => ?_⟩⟩
    rw [ey]
    refine hJ (H - 1 - (j + 1)) _ _ (by omega) ⟨j + 1, rfl, by omega, by omega, rfl, fun i hi => ?_, fun i hi => ?_, fun d d1 d2 => ?_⟩
    · by_cases q : i = j
      · rw [q, sj, e2, zup_ne (by omega), zup_eq, upd_eq, e1, zup_eq, upd_eq, zup_ne (by omega), (i2 (j + 1) (by omega)).1, (i2 (j + 1) (by omega)).2]
        exact ⟨rfl, rfl⟩
      · rw [e2, zup_ne (by omega), zup_eq, upd_ne q, e1, zup_eq, upd_ne q, zup_ne (by omega)]
        exact i1 i (by omega)
    · rw [e2, zup_ne (by omega), zup_eq, upd_ne (by omega), e1, zup_eq, upd_ne (by omega), zup_ne (by omega)]
      exact i2 i (by omega)
    · rw [e2, zup_ne d2, e1, zup_ne d1, i3 d d1 d2]
theorem shf_inj {a i j : Nat} (h : shf a i = shf a j) : i = j := by
  unfold shf at h
  split at h <;> split at h <;> omega
/-- less -/
theorem p_less {n H L : Nat} {M W : zMem} {a1 a2 : Int32} {P : zMem → zMem → Prop} (vt : sp_vt M 1 n H L) (r : rt0 W M n H L)
    (hP : ∀ M' W', (∀ k, (k < 6 ∨ (11 ≤ k ∧ k < 41) ∨ k = 54 ∨ 56 ≤ k) → M' k = M k) → mfy W W' → P M' W') : wp_Main_less a1 a2 M (fun x M' => wp_Model_less a1 a2 W (fun y W' => x = y ∧ P M' W')) := by
  obtain ⟨⟨n1, n8, H1, H5, L1, L6⟩, hn, hH, hL, -, -, -, -, -, -, -, -, -, -, hek⟩ := id vt
  have w1 : W 4 1 = nI H := r.2.1
  have p0 := hP M W (fun _ _ => rfl) mfy.rf
  refine xt_isHand hH (by omega) (fun a ha ea => ⟨fun q => absurd q (by decide), fun _ => ?_⟩) (fun nh => ⟨fun _ => ?_, fun q => absurd rfl q⟩)
  rotate_left
  · exact mt_isHand w1 (by omega) (by omega) (fun h h1 h2 => absurd ⟨h, h1, h2⟩ nh) (fun _ => ⟨fun _ => ⟨rfl, p0⟩, fun q => absurd rfl q⟩)
  subst ea
  -- the reference, up to its answer
  have ref : ∀ (x : Int32) (M' : zMem), (∀ W', P M' W' ∨ True) → ((¬ (a2 = 0 ∨ a2 = 1) → x = -1 ∧ P M' W) ∧ ((a2 = 0 ∨ a2 = 1) → (H = 1 → x = -2 ∧ P M' W) ∧ (H ≠ 1 → wp_Model_asNumbered W (fun zm5 => ∀ zm7 : zMem, zm7 = zup zm5 0 18 ((zm5 0 18) - 1) → ∃ n : Nat, zlp1 (wpB_Model_less_49 (nI a) a2 (fun (zm11 : zMem) => vp_in 0 100 ∧ vp_in ((zm11 0 18) - 1) 5 ∧ ∀ zm12 : zMem, zm12 = zup zm11 9 (ix ((zm11 0 18) - 1)) (zm11 4 (ix 0)) → wp_Model_hasRing zm12 (fun zr14 zm13 => wp_Model_made a2 zm13 (fun zr16 zm15 => x = zr16 ∧ P M' zm15))) (fun y W' => x = y ∧ P M' W')) n (nI a) zm7)))) → wp_Model_less (nI a) a2 W (fun y W' => x = y ∧ P M' W') := fun x M' _ hx => by
    refine mt_isHand w1 (by omega) (by omega) (fun h h1 h2 => ⟨fun q => absurd q (by decide), fun _ => ?_⟩) (fun q => absurd ⟨a, ha, rfl⟩ q)
    refine mt_in (lo' := 0) (hi' := 1) (by decide) (by decide) (fun c1 c2 => ⟨fun _ => ?_, fun q => absurd q (by decide)⟩) (fun c => ⟨fun q => absurd rfl q, fun _ => hx.1 (fun q => c (half_in.mpr q))⟩)
    have hh := hx.2 (half_in.mp ⟨c1, c2⟩)
    refine ⟨vp_in_nI (n := 1) (by omega) (by omega), ?_⟩
    rw [show ix 1 = 1 from rfl, w1]
    refine ⟨fun c => hh.2 (fun q => c (by rw [q]; rfl)), fun c => hh.1 ?_⟩
    exact (nI_eq (a := H) (b := 1) (by omega) (by omega)).mp c
  refine xt_half (fun c2 => ⟨fun _ => ?_, fun q => absurd q (by decide)⟩) (fun c2 => ⟨fun q => absurd rfl q, fun _ => ref _ _ (fun _ => Or.inr trivial) ⟨fun _ => ⟨rfl, p0⟩, fun q => absurd q c2⟩⟩)
  rw [hH]
  refine ⟨fun c1 => ?_, fun c1 => ?_⟩
  rotate_left
  · have h1 := (nI_eq (a := H) (b := 1) (by omega) (by omega)).mp c1
    exact ref _ _ (fun _ => Or.inr trivial) ⟨fun q => absurd c2 q, fun _ => ⟨fun _ => ⟨rfl, p0⟩, fun q => absurd h1 q⟩⟩
  have H2 : 2 ≤ H := by
    rcases Nat.lt_or_ge H 2 with q | q
    · exact absurd (show nI H = 1 by rw [show H = 1 by omega]; rfl) c1
    · exact q
  refine xt_copyFrom (by omega) (fun M1 d1 o1 => ?_)
  have vt1 : sp_vt M1 6 n H L := vt.copy d1
  refine xt_dropHand vt1.2.1 vt1.2.2.1 H2 H5 ha (fun M2 b1 b0 b3 b4 bd => ?_)
  have vt2 : sp_vt M2 6 n (H - 1) L := sp_vt_drop vt1 H2 ha b1 b0 b3 b4 bd
  refine xt_settle (Or.inr rfl) (Or.inr rfl) vt2 (fun M0 Mc M' hc ok tc _ rk ro cf => ?_)
  have fin : ∀ W', mfy W W' → P M' W' := fun W' fy => hP M' W' (fun k hk => by rw [cf k (by omega) (by omega), bd k (by omega) (by omega) (by omega), o1 k (by omega)]) fy
  obtain ⟨t6, t7⟩ := sp_ro_tb ro
  have ans : ∀ x : Int32, x = nI (if a2 = 0 then ro_top (sp_ring 6 45 n (H - 1) Mc) else ro_bot (sp_ring 6 45 n (H - 1) Mc)) → wp_Model_less (nI a) a2 W (fun y W' => x = y ∧ P M' W') := fun x hx => by
    refine ref x M' (fun _ => Or.inr trivial) ⟨fun q => absurd c2 q, fun _ => ⟨fun q => absurd q (by omega), fun _ => ?_⟩⟩
    refine mt_asNumbered vt r (fun W1 m1 => ?_)
    obtain ⟨a18, a19, ah, a0, ak⟩ := id m1
    intro W2 e2
    have x18 : W2 0 18 = nI (H - 1) := by rw [e2, zup_eq, upd_eq, a18, q_pred (by omega)]
    have k2 : ∀ k, k ≠ 0 → W2 k = W1 k := fun k hk => by rw [e2, zup_ne hk]
    refine mt_less49 H2 H5 ha x18 (fun W3 s1 s2 => ?_)
    have y18 : W3 0 18 = nI (H - 1) := by rw [s2 0 (by omega) (by omega)]; exact x18
    rw [y18, q_pred (by omega)]
    refine ⟨vp_in_nI (n := 0) (by omega) (by omega), vp_in_nI (by omega) (by omega), fun W4 e4 => ?_⟩
    have y4 : W3 4 = W 4 := by rw [s2 4 (by omega) (by omega), k2 4 (by omega), ak 4 (by omega) (by omega) (by omega)]
    rw [q_ix (by omega), show ix 0 = 0 from rfl, y4, r.1] at e4
    have z4 : W4 4 = W 4 := by rw [e4, zup_ne (by omega)]; exact y4
    have z0 : ∀ j, j ≠ 18 → W4 0 j = W1 0 j := fun j hj => by rw [e4, zup_ne (by omega), s2 0 (by omega) (by omega), e2, zup_eq, upd_ne hj]
    have z18 : W4 0 18 = nI (H - 1) := by rw [e4, zup_ne (by omega)]; exact y18
    have sh : ∀ i, i < H - 1 → shf a i < H := fun i hi => by unfold shf; split <;> omega
    have m14 : M1 6 4 = M 1 4 := d1.1 4 (by omega)
    have z9 : ∀ h, h < H - 1 → W4 9 h = Mc (6 + 4) h := fun h hh => by
      rw [tc 4 (by omega), b4 h hh, m14, e4, zup_eq]
      by_cases q : h = H - 1 - 1
      · rw [q, upd_eq, if_pos (Or.inr (by omega))]
      · rw [upd_ne q, (s1 h hh).2, k2 9 (by omega), (ah _ (sh h hh)).2]
        by_cases q2 : M 1 4 = 0
        · rw [if_pos (Or.inl q2)]; exact hek q2 _ (sh h hh)
        · rw [if_neg (fun q3 => q3.elim q2 (fun q4 => q (by omega)))]
          exact (d1.2.2.2.2 _ (by have := sh h hh; omega)).symm
    have tM : ∀ j, j ≠ 1 → j ≤ 6 → Mc 6 j = M 1 j := fun j hj hj6 => by
      rw [show Mc 6 = M2 6 from tc 0 (by omega), b0 j hj, d1.1 j hj6]
    have rt : mr_t W4 Mc 6 n (H - 1) L := by
      refine ⟨by rw [z4]; exact r.1, z18, ?_, ?_, ?_, ?_, by rw [z4]; exact r.2.2.2.2.2.2.1, fun i hi => ?_, fun s p hs hp => ?_, z9⟩
      · rw [z4, tM 2 (by omega) (by omega)]; exact r.2.2.1
      · rw [z4, tM 3 (by omega) (by omega)]; exact r.2.2.2.1
      · rw [z0 19 (by omega), a19, tM 4 (by omega) (by omega)]
      · rw [z4, tM 5 (by omega) (by omega)]; exact r.2.2.2.2.2.1
      · rw [z4, tc 1 (by omega), bd 7 (by omega) (by omega) (by omega)]
        rw [r.2.2.2.2.2.2.2.1 i hi]
        exact (d1.2.1 i (by omega)).symm
      · rw [z4, tc 2 (by omega), bd 8 (by omega) (by omega) (by omega)]
        rw [r.2.2.2.2.2.2.2.2.1 s p hs hp]
        exact (d1.2.2.1 _ (by omega)).symm
    have rw0 : mw0 W4 Mc 6 n (H - 1) (shf a) := by
      refine ⟨fun h hh => ⟨by have := sh h hh; omega, ?_⟩, fun h j _ _ e => shf_inj e, fun h p hh hp => ?_⟩
      · rw [e4, zup_ne (by omega), (s1 h hh).1, k2 8 (by omega), (ah _ (sh h hh)).1]
      · rw [z4, tc 3 (by omega), b3 h p hh (by omega), r.2.2.2.2.2.2.2.2.2.1 _ p (sh h hh) hp]
        exact (d1.2.2.2.1 _ (by have := sh h hh; omega)).symm
    have f4 : mfy W W4 := by
      refine ⟨fun k q0 q6 q8 q9 _ _ _ _ _ _ => ?_, fun j _ => ?_, fun j q1 q2 q3 => ?_⟩
      · rw [e4, zup_ne q9, s2 k q8 q9, k2 k q0, ak k q0 q8 q9]
      · rw [e4, zup_ne (by omega), s2 6 (by omega) (by omega), k2 6 (by omega), ak 6 (by omega) (by omega) (by omega)]
      · rw [z0 j q1, a0 j q1 q2]
    refine mt_hasRing hc ok rt rw0 (fun q => absurd q (by omega)) (fun W' _ fx _ _ e31 e32 => ?_)
    exact mt_made rk e31 e32 ⟨hx, fin W' (f4.tr fx.y)⟩
  refine ⟨fun q => ans _ ?_, fun q => ans _ ?_⟩
  · rw [if_neg q]; exact t7
  · rw [if_pos q]; exact t6
/-- orders of hands -/
def so_f : Nat → Nat
  | 0 => 1
  | n + 1 => (n + 1) * so_f n
/-- the first from h on that isn't used, s of them passed over -/
def so_un (u : Nat) : Nat → Nat → Nat → Nat
  | 0, h, _ => h
  | f + 1, h, s => if u / 2 ^ h % 2 = 1 then so_un u f (h + 1) s else if s = 0 then h else so_un u f (h + 1) (s - 1)
def so_s (H q : Nat) : Nat → Nat × Nat × Nat
  | 0 => (q, 0, so_f H)
  | i + 1 => ((so_s H q i).1 % ((so_s H q i).2.2 / (H - i)), (so_s H q i).2.1 ||| 2 ^ so_un (so_s H q i).2.1 5 0 ((so_s H q i).1 / ((so_s H q i).2.2 / (H - i))), (so_s H q i).2.2 / (H - i))
def so_wh (H q i : Nat) : Nat := so_un (so_s H q i).2.1 5 0 ((so_s H q i).1 / ((so_s H q i).2.2 / (H - i)))
def so_c1 (H q i : Nat) : Bool := decide (0 < (so_s H q i).2.2 / (H - i)) && (decide ((so_s H q i).2.1 < 32) && (decide ((so_s H q i).1 < 120) && (decide ((so_s H q i).2.2 ≤ 120) && decide (so_wh H q i < H))))
def so_all (c : Nat → Nat → Nat → Bool) : Bool := (List.range 6).all fun H => (List.range 120).all fun q => !(decide (q < so_f H)) || (List.range 5).all fun i => !(decide (i < H)) || c H q i
theorem so_all_at {c : Nat → Nat → Nat → Bool} (h : so_all c = true) (H : Nat) (hH : H < 6) (q : Nat) (hq : q < 120) (h1 : q < so_f H) (i : Nat) (hi : i < 5) (h2 : i < H) : c H q i = true := by
  have e1 := List.all_eq_true.mp h H (List.mem_range.mpr hH)
  have e2 := List.all_eq_true.mp e1 q (List.mem_range.mpr hq)
  rw [decide_eq_true h1] at e2
  have e3 := List.all_eq_true.mp e2 i (List.mem_range.mpr hi)
  rw [decide_eq_true h2] at e3
  exact e3
theorem so_ok1 : so_all so_c1 = true := by decide +kernel
theorem so_ok (H : Nat) (hH : H < 6) (q : Nat) (hq : q < 120) (h1 : q < so_f H) (i : Nat) (hi : i < 5) (h2 : i < H) : 0 < (so_s H q i).2.2 / (H - i) ∧ (so_s H q i).2.1 < 32 ∧ (so_s H q i).1 < 120 ∧ (so_s H q i).2.2 ≤ 120 ∧ so_wh H q i < H := by
  have := so_all_at so_ok1 H hH q hq h1 i hi h2
  unfold so_c1 at this
  simp only [Bool.and_eq_true, decide_eq_true_eq] at this
  exact this
def so_c2 (H q i : Nat) : Bool := (List.range 5).all fun j => !(decide (j < H)) || (!(decide (so_wh H q i = so_wh H q j)) || decide (i = j))
theorem so_ok2 : so_all so_c2 = true := by decide +kernel
theorem so_inj (H : Nat) (hH : H < 6) (q : Nat) (hq : q < 120) (h1 : q < so_f H) (i : Nat) (hi : i < 5) (j : Nat) (hj : j < 5) (h2 : i < H) (h3 : j < H) (h4 : so_wh H q i = so_wh H q j) : i = j := by
  have := so_all_at so_ok2 H hH q hq h1 i hi h2
  have e := List.all_eq_true.mp this j (List.mem_range.mpr hj)
  rw [decide_eq_true h3, decide_eq_true h4] at e
  exact of_decide_eq_true e
theorem so_f_le : ∀ H, H < 6 → so_f H ≤ 120 ∧ 0 < so_f H := by decide +kernel
theorem so_un_ge {u : Nat} : ∀ f h s, h ≤ so_un u f h s := by
  intro f
  induction f with
  | zero => intro h s; exact Nat.le_refl _
  | succ f ih =>
    intro h s
    unfold so_un
    split
    · have := ih (h + 1) s; omega
    · split
      · exact Nat.le_refl _
      · have := ih (h + 1) (s - 1); omega
theorem so_bit : ∀ u, u < 32 → ∀ h, h < 5 → ((nI u >>> (nI h &&& 31)) &&& 1) = nI (u / 2 ^ h % 2) := by decide +kernel
theorem so_or : ∀ u, u < 32 → ∀ w, w < 5 → nI u ||| (1 <<< (nI w &&& 31)) = nI (u ||| 2 ^ w) := by decide +kernel
theorem so_m2 (x : Nat) : x % 2 = 0 ∨ x % 2 = 1 := by omega
theorem xt_orders {H : Nat} {M : zMem} {Q : Int32 → zMem → Prop} (H1 : 1 ≤ H) (H5 : H ≤ 5) (hQ : Q (nI (so_f H)) M) : wp_Main_numberOfOrders (nI H) M Q := by
  unfold wp_Main_numberOfOrders
  refine zlp2_r (fun m x y M' => M' = M ∧ ∃ i, x = nI (so_f i) ∧ y = nI (i + 1) ∧ 1 ≤ i ∧ i ≤ H ∧ m = H - i) ?_ (n := H - 1) ⟨rfl, 1, rfl, rfl, by omega, H1, rfl⟩
  rintro m x y M' ⟨rfl, i, rfl, rfl, i1, iH, rfl⟩ J hJ
  refine ⟨fun c => ?_, fun c z1 e1 z2 e2 => ?_⟩
  · have := (nI_ltI (by omega) (by omega)).mp c
    rw [show i = H by omega]; exact hQ
  · have h1 : ¬ H < i + 1 := fun q => c (nI_lt q (by omega))
    rw [e1, e2, nI_1]
    refine hJ (H - (i + 1)) _ _ _ (by omega) ⟨rfl, i + 1, ?_, rfl, by omega, by omega, rfl⟩
    rw [q_mul]
    exact congrArg nI (Nat.mul_comm _ _)
theorem mt_orders {H : Nat} {W : zMem} {Q : Int32 → zMem → Prop} (hH : W 4 1 = nI H) (H1 : 1 ≤ H) (H5 : H ≤ 5) (hQ : Q (nI (so_f H)) W) : wp_Model_orders W Q := by
  unfold wp_Model_orders
  refine zlp2_r (fun m x y M' => M' = W ∧ ∃ i, x = nI (so_f i) ∧ y = nI (i + 1) ∧ 1 ≤ i ∧ i ≤ H ∧ m = H - i) ?_ (n := H - 1) ⟨rfl, 1, rfl, rfl, by omega, H1, rfl⟩
  rintro m x y M' ⟨rfl, i, rfl, rfl, i1, iH, rfl⟩ J hJ
  refine ⟨vp_in_nI (n := 1) (by omega) (by omega), ?_⟩
  rw [show ix 1 = 1 from rfl, hH]
  refine ⟨fun c => ?_, fun c z1 e1 z2 e2 => ?_⟩
  · have := (nI_ltI (by omega) (by omega)).mp c
    rw [show i = H by omega]; exact hQ
  · have h1 : ¬ H < i + 1 := fun q => c (nI_lt q (by omega))
    rw [e1, e2, nI_1]
    refine hJ (H - (i + 1)) _ _ _ (by omega) ⟨rfl, i + 1, ?_, rfl, by omega, by omega, rfl⟩
    rw [q_mul]
    exact congrArg nI (Nat.mul_comm _ _)
theorem xt_unused {k u s H : Nat} {M : zMem} {Q : Int32 → zMem → Prop} (hu : u < 32) (hs : s < 1000) (H5 : H ≤ 5) (hw : so_un u 5 0 s < H) (hQ : Q (nI (so_un u 5 0 s)) M) : wp_Orders_unusedHand k (nI u) (nI s) (nI H) M Q := by
  unfold wp_Orders_unusedHand
  generalize hw0 : so_un u 5 0 s = w at hw hQ
  refine zlp2_r (fun m x y M' => M' = M ∧ ∃ c h, x = nI c ∧ y = nI h ∧ c ≤ s ∧ h ≤ 5 ∧ m = 5 - h ∧ so_un u (5 - h) h (s - c) = w) ?_ (n := 5) ⟨rfl, 0, 0, rfl, rfl, by omega, by omega, rfl, hw0⟩
  rintro m x y M' ⟨rfl, c, h, rfl, rfl, hc, hh, rfl, eu⟩ J hJ
  have hge := so_un_ge (u := u) (5 - h) h (s - c)
  rw [eu] at hge
  have e5 : 5 - h = (5 - (h + 1)) + 1 := by omega
  rw [e5] at eu
  unfold so_un at eu
  refine ⟨fun q => ?_, fun q => ?_⟩
  · have := (nI_leI (by omega) (by omega)).mp q
    omega
  · rw [so_bit u hu h (by omega)]
    refine ⟨fun q2 z ez => ?_, fun q2 => ⟨fun q3 z1 e1 z2 e2 => ?_, fun q3 => ?_⟩⟩
    · have b1 : u / 2 ^ h % 2 = 1 := by
        rcases so_m2 (u / 2 ^ h) with b | b
        · exact absurd (by rw [b]; rfl) q2
        · exact b
      rw [if_pos b1] at eu
      rw [ez, nI_1]
      exact hJ (5 - (h + 1)) _ _ _ (by omega) ⟨rfl, c, h + 1, rfl, rfl, hc, by omega, rfl, eu⟩
    · have b1 : ¬ u / 2 ^ h % 2 = 1 := fun b => by rw [b] at q2; exact absurd q2 (by decide)
      have c1 : ¬ s - c = 0 := fun z => q3 (by rw [show c = s by omega])
      rw [if_neg b1, if_neg c1] at eu
      rw [e1, e2, nI_1, nI_1]
      exact hJ (5 - (h + 1)) _ _ _ (by omega) ⟨rfl, c + 1, h + 1, rfl, rfl, by omega, by omega, rfl, by rw [show s - (c + 1) = s - c - 1 by omega]; exact eu⟩
    · have b1 : ¬ u / 2 ^ h % 2 = 1 := fun b => by rw [b] at q2; exact absurd q2 (by decide)
      have c1 : c = s := (nI_eq (by omega) (by omega)).mp q3
      rw [if_neg b1, if_pos (by omega)] at eu
      rw [eu]; exact hQ
theorem xt_standAs {q H : Nat} {M : zMem} {Q : zMem → Prop} (H1 : 1 ≤ H) (H5 : H ≤ 5) (hq : q < so_f H) (hQ : ∀ M', (∀ i, i < H → M' 59 i = nI (so_wh H q i)) → (∀ d, d ≠ 59 → M' d = M d) → Q M') : wp_Orders_standAs 56 (nI q) (nI H) M Q := by
  unfold wp_Orders_standAs
  have hf := so_f_le H (by omega)
  refine xt_orders H1 H5 ?_
  refine zlp4_r (fun m x y z i M' => ∃ j, i = nI j ∧ j ≤ H ∧ m = H - j ∧ x = nI (so_s H q j).1 ∧ y = nI (so_s H q j).2.1 ∧ z = nI (so_s H q j).2.2 ∧ (∀ i, i < j → M' 59 i = nI (so_wh H q i)) ∧ (∀ d, d ≠ 59 → M' d = M d)) ?_ (n := H) ⟨0, rfl, by omega, rfl, rfl, rfl, rfl, fun i hi => absurd hi (by omega), fun _ _ => rfl⟩
  rintro m x y z i M' ⟨j, rfl, jH, rfl, rfl, rfl, rfl, i1, i2⟩ J hJ
  refine ⟨fun c => ?_, fun c => ?_⟩
  · have := (nI_leI (by omega) (by omega)).mp c
    have ej : j = H := by omega
    subst ej
    exact hQ M' i1 i2
  have hj : j < H := (nI_ltI (by omega) (by omega)).mp (Int32.not_le.mp c)
  obtain ⟨k1, k2, k3, k4, k5⟩ := so_ok H (by omega) q (by omega) hq j (by omega) hj
  have es : so_s H q (j + 1) = ((so_s H q j).1 % ((so_s H q j).2.2 / (H - j)), (so_s H q j).2.1 ||| 2 ^ so_wh H q j, (so_s H q j).2.2 / (H - j)) := rfl
  have ew : so_wh H q j = so_un (so_s H q j).2.1 5 0 ((so_s H q j).1 / ((so_s H q j).2.2 / (H - j))) := rfl
  generalize so_s H q j = st at k1 k2 k3 k4 es ew
  obtain ⟨rest, used, below⟩ := st
  dsimp only at k1 k2 k3 k4 es ew ⊢
  rw [q_sub (by omega)]
  refine ⟨nI_ne0 (by omega) (by omega), fun z3 e3 => ?_⟩
  rw [pk_div (by omega) (by omega) (by omega)] at e3
  have hb : below / (H - j) ≤ below := Nat.div_le_self _ _
  subst e3
  generalize below / (H - j) = b' at k1 es ew hb
  have n1 : ¬ nI b' ≤ 0 := nI_nle (by omega) (by omega)
  have n2 : ¬ nI b' = 0 := nI_ne0 (by omega) (by omega)
  have hd : rest / b' ≤ rest := Nat.div_le_self _ _
  refine ⟨fun q => absurd q n1, fun _ => ⟨n2, ?_⟩⟩
  refine ⟨fun q => absurd q n1, fun _ => ⟨n2, ?_⟩⟩
  rw [pk_rem (by omega) (by omega) (by omega), pk_div (by omega) (by omega) (by omega)]
  rw [ew] at k5
  refine xt_unused k2 (by omega) H5 k5 ⟨vp_in_nI (by omega) (by omega), fun M1 e1 z1 f1 z2 f2 => ?_⟩
  rw [← ew] at e1 f1 k5
  rw [q_ix (by omega)] at e1
  rw [f1, f2, nI_1, so_or _ k2 _ (by omega)]
  refine hJ (H - (j + 1)) _ _ _ _ _ (by omega) ⟨j + 1, rfl, by omega, rfl, by rw [es], by rw [es], by rw [es], fun i hi => ?_, fun d hd => by rw [e1, zup_ne hd]; exact i2 d hd⟩
  rw [e1]
  show upd (M' 59) j _ i = _
  by_cases c : i = j
  · rw [c, upd_eq]
  · rw [upd_ne c]; exact i1 i (by omega)
/-- the search of a hand, the reference's side -/
theorem mt_lay48 {a1 x2 x3 x5 : Int32} {u s : Nat} {K : Int32 → zMem → Prop} {Q : zMem → Prop} {W : zMem} (hu : u < 32) (hs : s < 1000) (hw : so_un u 5 0 s < 5) (hK : K (nI (so_un u 5 0 s)) W) : ∃ n, zlp2 (wpB_Model_layOrder_48 a1 x2 x3 (nI u) x5 K Q) n (nI s) 0 W := by
  generalize hw0 : so_un u 5 0 s = w at hw hK
  refine zlp2_r (fun m x y W' => W' = W ∧ ∃ c h, x = nI c ∧ y = nI h ∧ c ≤ s ∧ h ≤ 5 ∧ m = 5 - h ∧ so_un u (5 - h) h c = w) ?_ (n := 5) ⟨rfl, s, 0, rfl, rfl, Nat.le_refl _, by omega, rfl, hw0⟩
  rintro m x y W' ⟨rfl, c, h, rfl, rfl, hc, hh, rfl, eu⟩ J hJ
  have hge := so_un_ge (u := u) (5 - h) h c
  rw [eu] at hge
  have e5 : 5 - h = (5 - (h + 1)) + 1 := by omega
  rw [e5] at eu
  unfold so_un at eu
  unfold wpB_Model_layOrder_48 wpJ_Model_layOrder_64
  rw [so_bit u hu h (by omega)]
  rcases so_m2 (u / 2 ^ h) with b | b
  · have b1 : ¬ u / 2 ^ h % 2 = 1 := by omega
    rw [if_neg b1] at eu
    rw [b]
    refine ⟨fun q => absurd q (by decide), fun _ => ⟨fun q => ?_, fun q => ⟨fun _ z1 e1 z2 e2 => ?_, fun q => absurd q (by decide)⟩⟩⟩
    · have c0 : c = 0 := by
        have := (nI_leI (a := c) (b := 0) (by omega) (by omega)).mp q
        omega
      rw [if_pos c0] at eu
      rw [eu]; exact hK
    · have c0 : c ≠ 0 := fun z => q (by rw [z]; exact Int32.le_refl _)
      rw [if_neg c0] at eu
      rw [e1, e2, nI_1, q_pred (by omega)]
      exact hJ (5 - (h + 1)) _ _ _ (by omega) ⟨rfl, c - 1, h + 1, rfl, rfl, by omega, by omega, rfl, eu⟩
  · rw [if_pos b] at eu
    rw [b]
    refine ⟨fun _ => ⟨fun q => absurd rfl q, fun _ z1 e1 z2 e2 => ?_⟩, fun q => absurd rfl q⟩
    rw [e1, e2, nI_1, show nI c - 0 = nI c from Int32.sub_zero _]
    exact hJ (5 - (h + 1)) _ _ _ (by omega) ⟨rfl, c, h + 1, rfl, rfl, hc, by omega, rfl, eu⟩
/-- hands by places in an order -/
def mlay (W W' M : zMem) (H : Nat) (wh : Nat → Nat) : Prop := W' 0 18 = nI H ∧ W' 0 19 = M 1 4 ∧ (∀ h, h < H → W' 8 h = nI (wh h) ∧ W' 9 h = M 5 h) ∧ (∀ j, j ≠ 18 → j ≠ 19 → W' 0 j = W 0 j) ∧ (∀ k, k ≠ 0 → k ≠ 8 → k ≠ 9 → W' k = W k)
theorem mlay.y {W W' M : zMem} {H : Nat} {wh : Nat → Nat} (h : mlay W W' M H wh) : mfy W W' := ⟨fun k a _ c d _ _ _ _ _ _ => h.2.2.2.2 k a c d, fun j _ => by rw [h.2.2.2.2 6 (by omega) (by omega) (by omega)], fun j a b _ => h.2.2.2.1 j a b⟩
theorem mt_layOrder {n H L q : Nat} {M W : zMem} {Q : zMem → Prop} (vt : sp_vt M 1 n H L) (r : rt0 W M n H L) (hq : q < so_f H) (hQ : ∀ W', mlay W W' M H (so_wh H q) → Q W') : wp_Model_layOrder (nI q) W Q := by
  have H1 : 1 ≤ H := vt.1.2.2.1
  have H5 : H ≤ 5 := vt.1.2.2.2.1
  have hf := so_f_le H (by omega)
  unfold wp_Model_layOrder
  refine mt_asNumbered vt r (fun W1 m1 => ?_)
  obtain ⟨a18, a19, ah, a0, ak⟩ := id m1
  refine mt_orders (by rw [ak 4 (by omega) (by omega) (by omega)]; exact r.2.1) H1 H5 ?_
  refine zlp4_r (fun m x z y i W' => ∃ j, i = nI j ∧ j ≤ H ∧ m = H - j ∧ x = nI (so_s H q j).1 ∧ y = nI (so_s H q j).2.1 ∧ z = nI (so_s H q j).2.2 ∧ (∀ i, i < j → W' 8 i = nI (so_wh H q i)) ∧ (∀ d, d ≠ 8 → W' d = W1 d)) ?_ (n := H) ⟨0, rfl, by omega, rfl, rfl, rfl, rfl, fun i hi => absurd hi (by omega), fun _ _ => rfl⟩
  rintro m x z y i W' ⟨j, rfl, jH, rfl, rfl, rfl, rfl, i1, i2⟩ J hJ
  unfold wpB_Model_layOrder_17
  rw [i2 0 (by omega), a18]
  refine ⟨fun c => ?_, fun c => ?_⟩
  · have := (nI_leI (by omega) (by omega)).mp c
    have ej : j = H := by omega
    subst ej
    refine hQ W' ⟨by rw [i2 0 (by omega)]; exact a18, by rw [i2 0 (by omega)]; exact a19, fun h hh => ⟨i1 h hh, by rw [i2 9 (by omega)]; exact (ah h hh).2⟩, fun k q1 q2 => by rw [i2 0 (by omega)]; exact a0 k q1 q2, fun k q0 q8 q9 => by rw [i2 k q8]; exact ak k q0 q8 q9⟩
  have hj : j < H := (nI_ltI (by omega) (by omega)).mp (Int32.not_le.mp c)
  obtain ⟨k1, k2, k3, k4, k5⟩ := so_ok H (by omega) q (by omega) hq j (by omega) hj
  have es : so_s H q (j + 1) = ((so_s H q j).1 % ((so_s H q j).2.2 / (H - j)), (so_s H q j).2.1 ||| 2 ^ so_wh H q j, (so_s H q j).2.2 / (H - j)) := rfl
  have ew : so_wh H q j = so_un (so_s H q j).2.1 5 0 ((so_s H q j).1 / ((so_s H q j).2.2 / (H - j))) := rfl
  generalize so_s H q j = st at k1 k2 k3 k4 es ew
  obtain ⟨rest, used, below⟩ := st
  dsimp only at k1 k2 k3 k4 es ew ⊢
  rw [q_sub (by omega)]
  refine ⟨nI_ne0 (by omega) (by omega), fun z3 e3 => ?_⟩
  rw [pk_div (by omega) (by omega) (by omega)] at e3
  have hb : below / (H - j) ≤ below := Nat.div_le_self _ _
  subst e3
  generalize below / (H - j) = b' at k1 es ew hb
  have n2 : ¬ nI b' = 0 := nI_ne0 (by omega) (by omega)
  have hd : rest / b' ≤ rest := Nat.div_le_self _ _
  refine ⟨n2, fun z4 e4 => ⟨n2, fun z5 e5 => ?_⟩⟩
  rw [pk_div (by omega) (by omega) (by omega)] at e4
  rw [pk_rem (by omega) (by omega) (by omega)] at e5
  subst e4 e5
  rw [ew] at k5
  refine mt_lay48 k2 (by omega) (by omega) ?_
  rw [← ew] at k5 ⊢
  intro z6 e6
  refine ⟨vp_in_nI (by omega) (by omega), fun W2 e2 z7 e7 => ?_⟩
  rw [q_ix (by omega)] at e2
  rw [e6, e7, nI_1, so_or _ k2 _ (by omega)]
  refine hJ (H - (j + 1)) _ _ _ _ _ (by omega) ⟨j + 1, rfl, by omega, rfl, by rw [es], by rw [es], by rw [es], fun i hi => ?_, fun d hd => by rw [e2, zup_ne hd]; exact i2 d hd⟩
  rw [e2, zup_eq]
  by_cases c : i = j
  · rw [c, upd_eq]
  · rw [upd_ne c]; exact i1 i (by omega)
/-- an order is one -/
theorem xt_isOrder {a : Int32} {H : Nat} {M : zMem} {Q : Int32 → zMem → Prop} (hH : M 1 1 = nI H) (H1 : 1 ≤ H) (H5 : H ≤ 5) (ht : ∀ h, h < so_f H → a = nI h → Q 1 M) (hf : (¬ ∃ h, h < so_f H ∧ a = nI h) → Q 0 M) : wp_Main_isOrder a M Q := by
  have hf0 := so_f_le H (by omega)
  have hb : so_f H < 2147483648 := by omega
  unfold wp_Main_isOrder
  rw [hH]
  refine ⟨fun c => hf (fun q => ((rng_0 hb).mpr q).1 c), fun c => xt_orders H1 H5 ⟨fun c2 => hf (fun q => ((rng_0 hb).mpr q).2 c2), fun c2 => ?_⟩⟩
  obtain ⟨h, h1, h2⟩ := (rng_0 hb).mp ⟨c, c2⟩
  exact ht h h1 h2
theorem mt_isOrder {a : Int32} {H : Nat} {W : zMem} {Q : Int32 → zMem → Prop} (hH : W 4 1 = nI H) (H1 : 1 ≤ H) (H5 : H ≤ 5) (ht : ∀ h, h < so_f H → a = nI h → Q 1 W) (hf : (¬ ∃ h, h < so_f H ∧ a = nI h) → Q 0 W) : wp_Model_isOrder a W Q := by
  have hf0 := so_f_le H (by omega)
  have hb : so_f H < 2147483648 := by omega
  unfold wp_Model_isOrder
  refine mt_orders hH H1 H5 (mt_in (lo' := 0) (hi' := nI (so_f H) - 1) (by decide) rfl (fun c1 c2 => ⟨zbo_1, ?_⟩) (fun c => ⟨zbo_0, hf (fun q => c ((rng_1 (by omega) hb).mpr q))⟩))
  obtain ⟨h, h1, h2⟩ := (rng_1 (by omega) hb).mp ⟨c1, c2⟩
  exact ht h h1 h2
/-- stands -/
theorem p_stands {n H L : Nat} {M W : zMem} {a1 a2 : Int32} {P : zMem → zMem → Prop} (vt : sp_vt M 1 n H L) (r : rt0 W M n H L)
    (hP : ∀ M' W', (∀ k, k ≠ 59 → M' k = M k) → mfy W W' → P M' W') : wp_Main_stands a1 a2 M (fun x M' => wp_Model_stands a1 a2 W (fun y W' => x = y ∧ P M' W')) := by
  obtain ⟨⟨n1, n8, H1, H5, L1, L6⟩, hn, hH, -⟩ := id vt
  have w1 : W 4 1 = nI H := r.2.1
  have p0 := hP M W (fun _ _ => rfl) mfy.rf
  refine xt_isOrder hH H1 H5 (fun q hq eq => ⟨fun z => absurd z (by decide), fun _ => ?_⟩) (fun nh => ⟨fun _ => mt_isOrder w1 H1 H5 (fun h h1 h2 => absurd ⟨h, h1, h2⟩ nh) (fun _ => ⟨fun _ => ⟨rfl, p0⟩, fun z => absurd rfl z⟩), fun z => absurd rfl z⟩)
  subst eq
  refine xt_isHand hH (by omega) (fun i hi ei => ⟨fun _ => ?_, fun z => absurd z (by decide)⟩) (fun nh => ⟨fun z => absurd rfl z, fun _ => mt_isOrder w1 H1 H5 (fun h h1 h2 => ⟨fun z => absurd z (by decide), fun _ => mt_isHand w1 (by omega) (by omega) (fun h h1 h2 => absurd ⟨h, h1, h2⟩ nh) (fun _ => ⟨fun z => absurd rfl z, fun _ => ⟨rfl, p0⟩⟩)⟩) (fun z => absurd ⟨q, hq, rfl⟩ z)⟩)
  subst ei
  rw [hH]
  refine xt_standAs H1 H5 hq (fun M' s1 s2 => ⟨vp_in_nI (by omega) (by omega), ?_⟩)
  rw [q_ix (by omega), s1 i hi]
  refine mt_isOrder w1 H1 H5 (fun h h1 h2 => ⟨fun z => absurd z (by decide), fun _ => mt_isHand w1 (by omega) (by omega) (fun h h1 h2 => ⟨fun _ => ?_, fun z => absurd z (by decide)⟩) (fun z => absurd ⟨i, hi, rfl⟩ z)⟩) (fun z => absurd ⟨q, hq, rfl⟩ z)
  refine mt_layOrder vt r hq (fun W' ml => ⟨vp_in_nI (by omega) (by omega), ?_⟩)
  rw [q_ix (by omega), (ml.2.2.1 i hi).1]
  exact ⟨rfl, hP M' W' s2 ml.y⟩
/-- a ring of an order of hands, by a bench that was run -/
def og (M : zMem) (n H L q : Nat) (o : Option (Nat × Nat × Nat × Nat)) : Prop := ∃ M0 Mc, sp_clear 45 M0 Mc ∧ sp_ok Mc 6 45 n H L ∧ (∀ j, j ≤ 6 → Mc 6 j = M 1 j) ∧ (∀ j, j < 6 → Mc 7 j = M 2 j) ∧ (∀ j, j < 24 → Mc 8 j = M 3 j) ∧ (∀ i p, i < H → p < 8 → Mc 9 (i * 8 + p) = M 4 (so_wh H q i * 8 + p)) ∧ (∀ j, j < 5 → Mc 10 j = M 5 j) ∧ o = sp_ring 6 45 n H Mc ∧ sp_rok o
theorem og.moved {M M' : zMem} {n H L q : Nat} {o : Option (Nat × Nat × Nat × Nat)} (h : og M n H L q o) (e : ∀ i, i ≤ 4 → M' (1 + i) = M (1 + i)) : og M' n H L q o := by
  have e1 : M' 1 = M 1 := e 0 (by omega)
  have e2 : M' 2 = M 2 := e 1 (by omega)
  have e3 : M' 3 = M 3 := e 2 (by omega)
  have e4 : M' 4 = M 4 := e 3 (by omega)
  have e5 : M' 5 = M 5 := e 4 (by omega)
  unfold og at h ⊢
  rw [e1, e2, e3, e4, e5]
  exact h
def ov (M : zMem) (n H L q : Nat) (o : Option (Nat × Nat × Nat × Nat)) : Prop := og M n H L q o ∧ M 57 q = nI (ro_top o) ∧ M 58 q = nI (ro_bot o)
theorem ov.moved {M M' : zMem} {n H L q : Nat} {o : Option (Nat × Nat × Nat × Nat)} (h : ov M n H L q o) (e : ∀ i, i ≤ 4 → M' (1 + i) = M (1 + i)) (e7 : M' 57 q = M 57 q) (e8 : M' 58 q = M 58 q) : ov M' n H L q o := ⟨h.1.moved e, e7.trans h.2.1, e8.trans h.2.2⟩
/-- orders that the class has kept are those of what is told now -/
def co (M : zMem) (n H L : Nat) : Prop := ∀ q, q < so_f H → M 58 q = 0 ∨ ∃ o, ov M n H L q o
theorem xt_findOrder {n H L q : Nat} {M : zMem} {Q : zMem → Prop} (vt : sp_vt M 1 n H L) (hco : co M n H L) (hq : q < so_f H)
    (hQ : ∀ M' o, ov M' n H L q o → co M' n H L → (∀ q', q' ≠ q → M' 57 q' = M 57 q' ∧ M' 58 q' = M 58 q') → (∀ k, (k < 6 ∨ (11 ≤ k ∧ k < 41) ∨ k = 54 ∨ k = 56 ∨ 60 ≤ k) → M' k = M k) → Q M') : wp_Main_findOrder (nI q) M Q := by
  obtain ⟨⟨n1, n8, H1, H5, L1, L6⟩, hn, hH, -⟩ := id vt
  have hf := so_f_le H (by omega)
  unfold wp_Main_findOrder
  rw [q_ix (by omega)]
  refine ⟨vp_in_nI (by omega) (by omega), fun c => ?_, fun c => ?_⟩
  rotate_left
  · rcases hco q hq with z | ⟨o, ho⟩
    · exact absurd z c
    · exact hQ M o ho hco (fun _ _ => ⟨rfl, rfl⟩) (fun _ _ => rfl)
  rw [hH]
  refine xt_standAs H1 H5 hq (fun M1 s1 s2 => ?_)
  refine xt_copyFrom (by omega) (fun M2 d2 o2 => ?_)
  have t2 : ∀ i, i ≤ 4 → M1 (1 + i) = M (1 + i) := fun i hi => s2 _ (by omega)
  have h59 : ∀ i, i < H → M2 59 i = nI (so_wh H q i) := fun i hi => by rw [o2 59 (by omega)]; exact s1 i hi
  refine zlp1_r (fun m x M' => ∃ j, x = nI j ∧ j ≤ H ∧ m = H - j ∧ (∀ i p, i < j → p < 8 → M' 9 (i * 8 + p) = M 4 (so_wh H q i * 8 + p)) ∧ (∀ d, d ≠ 9 → M' d = M2 d)) ?_ (n := H) ⟨0, rfl, by omega, rfl, fun i p hi => absurd hi (by omega), fun _ _ => rfl⟩
  rintro m x M3 ⟨j, rfl, jH, rfl, i1, i2⟩ J hJ
  unfold wpB_Main_findOrder_41
  have f1 : M3 1 1 = nI H := by rw [i2 1 (by omega), o2 1 (by omega), s2 1 (by omega)]; exact hH
  rw [f1]
  refine ⟨fun c2 => ?_, fun c2 => ?_⟩
  rotate_left
  · have hj : j < H := (nI_ltI (by omega) (by omega)).mp (Int32.not_le.mp c2)
    obtain ⟨-, -, -, -, k5⟩ := so_ok H (by omega) q (by omega) hq j (by omega) hj
    rw [q_ix (by omega), i2 59 (by omega), h59 j hj]
    refine ⟨vp_in_nI (by omega) (by omega), xt_copyPaces (by omega) (by omega) (fun M4 b1 b2 b3 y ey => ?_)⟩
    rw [ey, nI_1]
    refine hJ (H - (j + 1)) _ _ (by omega) ⟨j + 1, rfl, by omega, rfl, fun i p hi hp => ?_, fun d hd => by rw [b3 d hd]; exact i2 d hd⟩
    by_cases z : i = j
    · rw [z]
      refine (b1 p hp).trans ?_
      show M3 4 _ = _
      rw [i2 4 (by omega), o2 4 (by omega), s2 4 (by omega)]
    · refine (b2 _ (by omega)).trans ?_
      exact i1 i p (by omega) hp
  · have := (nI_leI (by omega) (by omega)).mp c2
    have ej : j = H := by omega
    subst ej
    have wl : ∀ i, i < j → so_wh j q i < j := fun i hi => (so_ok j (by omega) q (by omega) hq i (by omega) hi).2.2.2.2
    have g6 : ∀ i, i ≤ 6 → M3 6 i = M 1 i := fun i hi => by rw [i2 6 (by omega), d2.1 i hi, s2 1 (by omega)]
    have g7 : ∀ i, i < 6 → M3 7 i = M 2 i := fun i hi => by rw [i2 7 (by omega)]; exact (d2.2.1 i hi).trans (by rw [s2 2 (by omega)])
    have g8 : ∀ i, i < 24 → M3 8 i = M 3 i := fun i hi => by rw [i2 8 (by omega)]; exact (d2.2.2.1 i hi).trans (by rw [s2 3 (by omega)])
    have g10 : ∀ i, i < 5 → M3 10 i = M 5 i := fun i hi => by rw [i2 10 (by omega)]; exact (d2.2.2.2.2 i hi).trans (by rw [s2 5 (by omega)])
    have vt3 : sp_vt M3 6 n j L := by
      obtain ⟨-, -, -, hL, hw, hl, hk, hwh, hrow, hun, hpf, hpa, hen, hel, hek⟩ := vt
      refine ⟨⟨n1, n8, H1, H5, L1, L6⟩, by rw [g6 0 (by omega)]; exact hn, by rw [g6 1 (by omega)]; exact hH, by rw [g6 6 (by omega)]; exact hL, by rw [g6 2 (by omega)]; exact hw, by rw [g6 3 (by omega)]; exact hl, by rw [g6 4 (by omega)]; exact hk, by rw [g6 5 (by omega)]; exact hwh, fun i hi => by rw [g7 i (by omega)]; exact hrow i hi, fun s p hs hp => by rw [g8 _ (by omega)]; exact hun s p hs hp, fun s hs => ?_, fun h p hh hp => by rw [i1 h p hh (by omega)]; exact hpa _ p (wl h hh) hp, fun h hh => by rw [g10 h (by omega)]; exact hen h hh, by rw [g10 _ (by omega)]; exact hel, fun z h hh => by rw [g10 h (by omega)]; exact hek (by rw [← g6 4 (by omega)]; exact z) h hh⟩
      rw [sp_pf_congr (f := fun i => M3 (6 + 2) (s * 8 + i)) (g := fun i => M (1 + 2) (s * 8 + i)) n 0 (fun i _ hi => g8 _ (by omega))]
      exact hpf s hs
    refine xt_settle (Or.inr rfl) (Or.inr rfl) vt3 (fun M0 Mc M5 hc ok tc _ rk ro cf => ?_)
    obtain ⟨t6, t7⟩ := sp_ro_tb ro
    refine ⟨vp_in_nI (by omega) (by omega), fun M6 e6 => ⟨vp_in_nI (by omega) (by omega), fun M7 e7 => ?_⟩⟩
    rw [t6] at e6
    have t7' : M6 55 7 = nI (ro_bot (sp_ring 6 45 n j Mc)) := by rw [e6, zup_ne (by omega)]; exact t7
    rw [t7'] at e7
    have fk : ∀ k, (k < 6 ∨ (11 ≤ k ∧ k < 41) ∨ k = 54 ∨ k = 56 ∨ 60 ≤ k) → M7 k = M k := fun k hk => by
      rw [e7, zup_ne (by omega), e6, zup_ne (by omega), cf k (by omega) (by omega), i2 k (by omega), o2 k (by omega), s2 k (by omega)]
    have f57 : ∀ q', q' ≠ q → M7 57 q' = M 57 q' := fun q' hq' => by
      rw [e7, zup_ne (by omega), e6, zup_eq, upd_ne hq', cf 57 (by omega) (by omega), i2 57 (by omega), o2 57 (by omega), s2 57 (by omega)]
    have f58 : ∀ q', q' ≠ q → M7 58 q' = M 58 q' := fun q' hq' => by
      rw [e7, zup_eq, upd_ne hq', e6, zup_ne (by omega), cf 58 (by omega) (by omega), i2 58 (by omega), o2 58 (by omega), s2 58 (by omega)]
    have t67 : ∀ i, i ≤ 4 → M7 (1 + i) = M (1 + i) := fun i hi => fk _ (by omega)
    have og0 : og M n j L q (sp_ring 6 45 n j Mc) := ⟨M0, Mc, hc, ok, fun i hi => by rw [show Mc 6 = M3 6 from tc 0 (by omega)]; exact g6 i hi, fun i hi => by rw [show Mc 7 = M3 7 from tc 1 (by omega)]; exact g7 i hi, fun i hi => by rw [show Mc 8 = M3 8 from tc 2 (by omega)]; exact g8 i hi, fun i p hi hp => by rw [show Mc 9 = M3 9 from tc 3 (by omega)]; exact i1 i p hi hp, fun i hi => by rw [show Mc 10 = M3 10 from tc 4 (by omega)]; exact g10 i hi, rfl, rk⟩
    have ov7 : ov M7 n j L q (sp_ring 6 45 n j Mc) := ⟨og0.moved t67, by rw [e7, zup_ne (by omega), e6, zup_eq, upd_eq], by rw [e7, zup_eq, upd_eq]⟩
    refine hQ M7 _ ov7 (fun q' hq' => ?_) (fun q' hq' => ⟨f57 q' hq', f58 q' hq'⟩) fk
    by_cases z : q' = q
    · rw [z]; exact Or.inr ⟨_, ov7⟩
    · rcases hco q' hq' with y | ⟨o, ho⟩
      · exact Or.inl ((f58 q' z).trans y)
      · exact Or.inr ⟨o, ho.moved t67 (f57 q' z) (f58 q' z)⟩
/-- the reference looks for the ring of an order -/
theorem mt_og {n H L q : Nat} {o : Option (Nat × Nat × Nat × Nat)} {M W : zMem} {Q : Int32 → zMem → Prop} (vt : sp_vt M 1 n H L) (r : rt0 W M n H L) (hq : q < so_f H) (h : og M n H L q o)
    (hQ : ∀ W', mfy W W' → W' 0 33 = W 0 33 → W' 0 34 = W 0 34 → W' 0 31 = nI (ro_c o) → W' 0 32 = nI (ro_t o) → Q (if o = none then 0 else 1) W') : wp_Model_layOrder (nI q) W (fun W1 => wp_Model_hasRing W1 Q) := by
  obtain ⟨⟨n1, n8, H1, H5, L1, L6⟩, hn, hH, -⟩ := id vt
  have hf := so_f_le H (by omega)
  obtain ⟨M0, Mc, hc, ok, g6, g7, g8, g9, g10, rfl, rk⟩ := h
  refine mt_layOrder vt r hq (fun W1 ml => ?_)
  obtain ⟨a18, a19, ah, a0, ak⟩ := id ml
  have k4 : W1 4 = W 4 := ak 4 (by omega) (by omega) (by omega)
  have wl : ∀ i, i < H → so_wh H q i < H := fun i hi => (so_ok H (by omega) q (by omega) hq i (by omega) hi).2.2.2.2
  have rt : mr_t W1 Mc 6 n H L := by
    refine ⟨by rw [k4]; exact r.1, a18, by rw [k4, g6 2 (by omega)]; exact r.2.2.1, by rw [k4, g6 3 (by omega)]; exact r.2.2.2.1, by rw [g6 4 (by omega)]; exact a19, by rw [k4, g6 5 (by omega)]; exact r.2.2.2.2.2.1, by rw [k4]; exact r.2.2.2.2.2.2.1, fun i hi => ?_, fun s p hs hp => ?_, fun h hh => ?_⟩
    · rw [k4]; exact (r.2.2.2.2.2.2.2.1 i hi).trans (g7 i (by omega)).symm
    · rw [k4]; exact (r.2.2.2.2.2.2.2.2.1 s p hs hp).trans (g8 _ (by omega)).symm
    · exact ((ah h hh).2).trans (g10 h (by omega)).symm
  have rw0 : mw0 W1 Mc 6 n H (so_wh H q) := ⟨fun h hh => ⟨by have := wl h hh; omega, (ah h hh).1⟩, fun h j hh hj e => so_inj H (by omega) q (by omega) hq h (by omega) j (by omega) hh hj e, fun h p hh hp => by rw [k4]; exact (r.2.2.2.2.2.2.2.2.2.1 _ p (wl h hh) hp).trans (g9 h p hh (by omega)).symm⟩
  exact mt_hasRing hc ok rt rw0 (fun z => absurd z (by omega)) (fun W' _ fx _ _ e31 e32 => hQ W' (ml.y.tr fx.y) (by rw [fx.2.2 33 (by omega), a0 33 (by omega) (by omega)]) (by rw [fx.2.2 34 (by omega), a0 34 (by omega) (by omega)]) e31 e32)
/-- what may change in the class when orders are asked for -/
def ofr (M M' : zMem) : Prop := ∀ k, (k < 6 ∨ (11 ≤ k ∧ k < 41) ∨ k = 54 ∨ k = 56 ∨ 60 ≤ k) → M' k = M k
theorem p_order {n H L : Nat} {M W : zMem} {a1 a2 : Int32} {P : zMem → zMem → Prop} (vt : sp_vt M 1 n H L) (r : rt0 W M n H L) (hco : co M n H L)
    (hP : ∀ M' W', ofr M M' → mfy W W' → co M' n H L → P M' W') : wp_Main_order a1 a2 M (fun x M' => wp_Model_order a1 a2 W (fun y W' => x = y ∧ P M' W')) := by
  obtain ⟨⟨n1, n8, H1, H5, L1, L6⟩, hn, hH, -⟩ := id vt
  have hf := so_f_le H (by omega)
  have w1 : W 4 1 = nI H := r.2.1
  have p0 := hP M W (fun _ _ => rfl) mfy.rf hco
  refine xt_isOrder hH H1 H5 (fun q hq eq => ⟨fun z => absurd z (by decide), fun _ => ?_⟩) (fun nh => ⟨fun _ => mt_isOrder w1 H1 H5 (fun h h1 h2 => absurd ⟨h, h1, h2⟩ nh) (fun _ => ⟨fun _ => ⟨rfl, p0⟩, fun z => absurd rfl z⟩), fun z => absurd rfl z⟩)
  subst eq
  refine xt_half (fun ca => ⟨fun _ => ?_, fun z => absurd z (by decide)⟩) (fun ca => ⟨fun z => absurd rfl z, fun _ => mt_isOrder w1 H1 H5 (fun h h1 h2 => ⟨fun z => absurd z (by decide), fun _ => mt_in (lo' := 0) (hi' := 1) (by decide) (by decide) (fun c1 c2 => absurd (half_in.mp ⟨c1, c2⟩) ca) (fun _ => ⟨fun z => absurd rfl z, fun _ => ⟨rfl, p0⟩⟩)⟩) (fun z => absurd ⟨q, hq, rfl⟩ z)⟩)
  refine xt_findOrder vt hco hq (fun M' o ho hco' _ fr => ?_)
  have fin : ∀ x : Int32, x = nI (if a2 = 0 then ro_top o else ro_bot o) → wp_Model_order (nI q) a2 W (fun y W' => x = y ∧ P M' W') := fun x hx => by
    refine mt_isOrder w1 H1 H5 (fun h h1 h2 => ⟨fun z => absurd z (by decide), fun _ => mt_in (lo' := 0) (hi' := 1) (by decide) (by decide) (fun c1 c2 => ⟨fun _ => ?_, fun z => absurd z (by decide)⟩) (fun z => absurd (half_in.mpr ca) z)⟩) (fun z => absurd ⟨q, hq, rfl⟩ z)
    refine mt_og vt r hq (ho.1.moved (fun i hi => (fr _ (by omega)).symm)) (fun W' fy _ _ e31 e32 => ?_)
    obtain ⟨-, -, -, -, -, -, -, -, -, -, rk⟩ := ho.1
    exact mt_made rk e31 e32 ⟨hx, hP M' W' fr fy hco'⟩
  rw [q_ix (by omega), ho.2.1, ho.2.2]
  refine ⟨fun z => ⟨vp_in_nI (by omega) (by omega), fin _ (by rw [if_neg z])⟩, fun z => ⟨vp_in_nI (by omega) (by omega), fin _ (by rw [if_pos z])⟩⟩
theorem cmp_le (x y : Nat) (hx : x < 9223372036854775808) (hy : y < 9223372036854775808) : (lg_cmp (lN x) (lN y) ≤ 0) = (x ≤ y) := by
  rw [← Int32.not_lt, lg_cmp_0lt, pk_lLT hy hx]
  exact propext Nat.not_lt
theorem mul_b {a b A B : Nat} (ha : a ≤ A) (hb : b ≤ B) (h : A * B < 9223372036854775808) : a * b < 9223372036854775808 := Nat.lt_of_le_of_lt (Nat.mul_le_mul ha hb) h
theorem xt_more {a b c d : Nat} {M : zMem} {Q : Int32 → zMem → Prop} (ha : a ≤ 480000) (hb : b ≤ 480000) (hc : c ≤ 480000) (hd : d ≤ 480000) (h1 : c * b < a * d → Q 1 M) (h0 : ¬ c * b < a * d → Q 0 M) : wp_Main_isMore (lN a) (lN b) (lN c) (lN d) M Q := by
  unfold wp_Main_isMore
  rw [lN_mul, lN_mul, cmp_le _ _ (mul_b ha hd (by decide)) (mul_b hc hb (by decide))]
  exact ⟨fun z => h0 (Nat.not_lt.mpr z), fun z => h1 (Nat.not_le.mp z)⟩
theorem mt_more {a b c d : Nat} {W : zMem} {Q : Int32 → zMem → Prop} (e31 : W 0 31 = nI a) (e32 : W 0 32 = nI b) (e33 : W 0 33 = nI c) (e34 : W 0 34 = nI d) (ha : a ≤ 480000) (hb : b ≤ 480000) (hc : c ≤ 480000) (hd : d ≤ 480000) (h1 : c * b < a * d → Q 1 W) (h0 : ¬ c * b < a * d → Q 0 W) : wp_Model_isMore W Q := by
  unfold wp_Model_isMore
  rw [e31, e32, e33, e34, q_l64 (by omega), q_l64 (by omega), q_l64 (by omega), q_l64 (by omega), lN_mul, lN_mul, cmp_le _ _ (mul_b ha hd (by decide)) (mul_b hc hb (by decide))]
  exact ⟨fun z => h0 (Nat.not_lt.mpr z), fun z => h1 (Nat.not_le.mp z)⟩
theorem ro_split {o : Option (Nat × Nat × Nat × Nat)} : ro_c o = ro_top o * Nat.gcd (ro_c o) (ro_t o) ∧ ro_t o = ro_bot o * Nat.gcd (ro_c o) (ro_t o) := ⟨(Nat.div_mul_cancel (Nat.gcd_dvd_left _ _)).symm, (Nat.div_mul_cancel (Nat.gcd_dvd_right _ _)).symm⟩
theorem ro_cross4 {a b c d g k : Nat} (hg : 0 < g) (hk : 0 < k) : (c * k) * (b * g) < (a * g) * (d * k) ↔ c * b < a * d := by
  have e1 : (c * k) * (b * g) = (c * b) * (g * k) := by
    rw [Nat.mul_mul_mul_comm c k b g, Nat.mul_comm k g]
  have e2 : (a * g) * (d * k) = (a * d) * (g * k) := by
    rw [Nat.mul_mul_mul_comm a g d k]
  rw [e1, e2]
  exact Nat.mul_lt_mul_right (Nat.mul_pos hg hk)
theorem ro_cross {a b : Option (Nat × Nat × Nat × Nat)} (ha : sp_rok a) (hb : sp_rok b) : ro_c b * ro_t a < ro_c a * ro_t b ↔ ro_top b * ro_bot a < ro_top a * ro_bot b := by
  have ga := ro_gcd ha
  have gb := ro_gcd hb
  obtain ⟨a1, a2⟩ := ro_split (o := a)
  obtain ⟨b1, b2⟩ := ro_split (o := b)
  generalize Nat.gcd (ro_c a) (ro_t a) = g at ga a1 a2
  generalize Nat.gcd (ro_c b) (ro_t b) = k at gb b1 b2
  rw [a1, a2, b1, b2]
  exact ro_cross4 ga gb
/-- the best of the first q, and how many have no ring -/
def bs_m (o : Nat → Option (Nat × Nat × Nat × Nat)) : Nat → Nat
  | 0 => 0
  | q + 1 => if ro_top (o (bs_m o q)) * ro_bot (o q) < ro_top (o q) * ro_bot (o (bs_m o q)) then q else bs_m o q
def bs_r (o : Nat → Option (Nat × Nat × Nat × Nat)) : Nat → Nat
  | 0 => 0
  | q + 1 => bs_r o q + (if ro_top (o q) = 0 then 1 else 0)
theorem bs_m_lt {o : Nat → Option (Nat × Nat × Nat × Nat)} : ∀ q, bs_m o q ≤ q ∧ (0 < q → bs_m o q < q) := by
  intro q
  induction q with
  | zero => exact ⟨Nat.le_refl _, fun h => absurd h (by omega)⟩
  | succ q ih =>
    unfold bs_m
    split <;> omega
theorem bs_r_le {o : Nat → Option (Nat × Nat × Nat × Nat)} : ∀ q, bs_r o q ≤ q := by
  intro q
  induction q with
  | zero => exact Nat.le_refl _
  | succ q ih =>
    unfold bs_r
    split <;> omega
theorem bs_congr {o o' : Nat → Option (Nat × Nat × Nat × Nat)} : ∀ q, (∀ i, i < q → o i = o' i) → (0 < q → bs_m o q = bs_m o' q) ∧ bs_r o q = bs_r o' q := by
  intro q
  induction q with
  | zero => intro _; exact ⟨fun h => absurd h (by omega), rfl⟩
  | succ q ih =>
    intro h
    obtain ⟨i1, i2⟩ := ih (fun i hi => h i (by omega))
    unfold bs_m bs_r
    rw [i2, h q (by omega)]
    refine ⟨fun _ => ?_, rfl⟩
    rcases Nat.eq_zero_or_pos q with z | z
    · subst z
      show (if ro_top (o 0) * _ < _ * ro_bot (o 0) then 0 else 0) = (if ro_top (o' 0) * _ < _ * ro_bot (o' 0) then 0 else 0)
      rw [h 0 (by omega)]
    · rw [i1 z]
      have := (bs_m_lt (o := o') q).2 z
      rw [h _ (by omega)]
theorem og.rk {M : zMem} {n H L q : Nat} {o : Option (Nat × Nat × Nat × Nat)} (h : og M n H L q o) : sp_rok o := by
  obtain ⟨-, -, -, -, -, -, -, -, -, -, rk⟩ := h
  exact rk
/-- the class's loop over all orders -/
theorem xt_best {a1 : Int32} {n H L : Nat} {M : zMem} {K : Int32 → Int32 → zMem → Prop} {Q : Int32 → zMem → Prop} (vt : sp_vt M 1 n H L) (hco : co M n H L)
    (hK : ∀ M' o, (∀ q, q < so_f H → ov M' n H L q (o q)) → co M' n H L → ofr M M' → K (nI (bs_m o (so_f H))) (nI (bs_r o (so_f H))) M') : ∃ k, zlp3 (wpB_Main_best_30 a1 (nI (so_f H)) K Q) k 0 0 0 M := by
  obtain ⟨⟨n1, n8, H1, H5, L1, L6⟩, hn, hH, -⟩ := id vt
  have hf := so_f_le H (by omega)
  refine zlp3_r (fun m x y z M' => ∃ q o, z = nI q ∧ q ≤ so_f H ∧ m = so_f H - q ∧ x = nI (bs_m o q) ∧ y = nI (bs_r o q) ∧ (∀ i, i < q → ov M' n H L i (o i)) ∧ co M' n H L ∧ ofr M M') ?_ (n := so_f H) ⟨0, fun _ => none, rfl, by omega, rfl, rfl, rfl, fun i hi => absurd hi (by omega), hco, fun _ _ => rfl⟩
  rintro m x y z M' ⟨q, o, rfl, hq, rfl, rfl, rfl, i1, i2, i3⟩ J hJ
  unfold wpB_Main_best_30
  refine ⟨fun c => ?_, fun c => ?_⟩
  · have := (nI_leI (by omega) (by omega)).mp c
    have eq : q = so_f H := by omega
    rw [eq] at i1 ⊢
    exact hK M' o i1 i2 i3
  have hq2 : q < so_f H := (nI_ltI (by omega) (by omega)).mp (Int32.not_le.mp c)
  have vt' : sp_vt M' 1 n H L := vt.moved (fun i hi => i3 _ (by omega))
  refine xt_findOrder vt' i2 hq2 (fun M2 oq ho hco2 fo fr => ?_)
  have i3' : ofr M M2 := fun k hk => (fr k hk).trans (i3 k hk)
  have ov2 : ∀ i, i < q + 1 → ov M2 n H L i (if i = q then oq else o i) := fun i hi => by
    by_cases c2 : i = q
    · rw [if_pos c2, c2]; exact ho
    · rw [if_neg c2]; exact (i1 i (by omega)).moved (fun i hi => fr _ (by omega)) (fo i c2).1 (fo i c2).2
  have cg := bs_congr (o := o) (o' := fun i => if i = q then oq else o i) q (fun i hi => by rw [if_neg (by omega)])
  obtain ⟨r1, r2, r3, r4⟩ := ro_tb ho.1.rk
  have hm := bs_m_lt (o := o) q
  have hr := bs_r_le (o := o) q
  -- behind the count
  have tail : ∀ y' : Int32, y' = nI (bs_r (fun i => if i = q then oq else o i) (q + 1)) → wpJ_Main_best_59 a1 K J Q (nI (bs_m o q)) y' (nI (so_f H)) (nI q) M2 := fun y' hy' => by
    unfold wpJ_Main_best_59
    rw [q_ix (by omega), q_ix (by omega)]
    have om : ov M2 n H L (bs_m o q) (if bs_m o q = q then oq else o (bs_m o q)) := ov2 _ (by omega)
    obtain ⟨s1, s2, s3, s4⟩ := ro_tb om.1.rk
    have em : bs_m (fun i => if i = q then oq else o i) (q + 1) = if ro_top (if bs_m o q = q then oq else o (bs_m o q)) * ro_bot oq < ro_top oq * ro_bot (if bs_m o q = q then oq else o (bs_m o q)) then q else bs_m o q := by
      rcases Nat.eq_zero_or_pos q with z | z
      · subst z
        show (if _ then 0 else 0) = _
        have : bs_m o 0 = 0 := rfl
        rw [this]
        simp only [ite_self]
      · show (if ro_top ((fun i => if i = q then oq else o i) (bs_m (fun i => if i = q then oq else o i) q)) * ro_bot ((fun i => if i = q then oq else o i) q) < ro_top ((fun i => if i = q then oq else o i) q) * ro_bot ((fun i => if i = q then oq else o i) (bs_m (fun i => if i = q then oq else o i) q)) then q else bs_m (fun i => if i = q then oq else o i) q) = _
        rw [← cg.1 z]
        simp only [↓reduceIte]
    rw [ho.2.1, ho.2.2, om.2.1, om.2.2, q_l64 (by omega), q_l64 (by omega), q_l64 (by omega), q_l64 (by omega)]
    refine ⟨vp_in_nI (by omega) (by omega), vp_in_nI (by omega) (by omega), vp_in_nI (by omega) (by omega), vp_in_nI (by omega) (by omega), xt_more (by omega) (by omega) (by omega) (by omega) (fun c2 => ⟨fun z => absurd z (by decide), fun _ z ez => ?_⟩) (fun c2 => ⟨fun _ z ez => ?_, fun z => absurd rfl z⟩)⟩
    · rw [if_pos c2] at em
      rw [ez, nI_1]
      exact hJ (so_f H - (q + 1)) _ _ _ _ (by omega) ⟨q + 1, fun i => if i = q then oq else o i, rfl, by omega, rfl, by rw [em], hy', ov2, hco2, i3'⟩
    · rw [if_neg c2] at em
      rw [ez, nI_1]
      exact hJ (so_f H - (q + 1)) _ _ _ _ (by omega) ⟨q + 1, fun i => if i = q then oq else o i, rfl, by omega, rfl, by rw [em], hy', ov2, hco2, i3'⟩
  have er : bs_r (fun i => if i = q then oq else o i) (q + 1) = bs_r o q + (if ro_top oq = 0 then 1 else 0) := by
    show bs_r (fun i => if i = q then oq else o i) q + (if ro_top ((fun i => if i = q then oq else o i) q) = 0 then 1 else 0) = _
    rw [← cg.2]
    simp only [↓reduceIte]
  rw [q_ix (by omega), ho.2.1]
  refine ⟨vp_in_nI (by omega) (by omega), fun c2 => tail _ ?_, fun c2 z ez => tail _ ?_⟩
  · rw [er, if_neg (fun z => c2 (by rw [z]; rfl)), Nat.add_zero]
  · have : ro_top oq = 0 := (nI_eq (a := ro_top oq) (b := 0) (by omega) (by omega)).mp c2
    rw [er, if_pos this, ez, nI_1]
/-- the reference's loop over all orders -/
theorem mt_best {a1 : Int32} {n H L : Nat} {o : Nat → Option (Nat × Nat × Nat × Nat)} {M W : zMem} {K : Int32 → Int32 → zMem → Prop} {Q : Int32 → zMem → Prop} (vt : sp_vt M 1 n H L) (r : rt0 W M n H L) (ho : ∀ q, q < so_f H → og M n H L q (o q))
    (hK : ∀ W', mfy W W' → W' 0 33 = nI (ro_c (o (bs_m o (so_f H)))) → W' 0 34 = nI (ro_t (o (bs_m o (so_f H)))) → K (nI (bs_m o (so_f H))) (nI (bs_r o (so_f H))) W') : ∃ k, zlp3 (wpB_Model_best_21 a1 K Q) k 0 0 0 W := by
  obtain ⟨⟨n1, n8, H1, H5, L1, L6⟩, hn, hH, -⟩ := id vt
  have hf := so_f_le H (by omega)
  refine zlp3_r (fun m x y z W' => ∃ q, z = nI q ∧ q ≤ so_f H ∧ m = so_f H - q ∧ x = nI (bs_m o q) ∧ y = nI (bs_r o q) ∧ mfy W W' ∧ (0 < q → W' 0 33 = nI (ro_c (o (bs_m o q))) ∧ W' 0 34 = nI (ro_t (o (bs_m o q))))) ?_ (n := so_f H) ⟨0, rfl, by omega, rfl, rfl, rfl, mfy.rf, fun z => absurd z (by omega)⟩
  rintro m x y z W' ⟨q, rfl, hq, rfl, rfl, rfl, fy, i1⟩ J hJ
  unfold wpB_Model_best_21
  have w4 : W' 4 = W 4 := fy.1 4 (by omega) (by omega) (by omega) (by omega) (by omega) (by omega) (by omega) (by omega) (by omega) (by omega)
  have r' : rt0 W' M n H L := r.moved w4 (fun _ _ => rfl)
  refine mt_orders r'.2.1 H1 H5 ⟨fun c => ?_, fun c => ?_⟩
  · have := (nI_leI (by omega) (by omega)).mp c
    have eq : q = so_f H := by omega
    rw [eq] at i1 ⊢
    exact hK W' fy (i1 (by omega)).1 (i1 (by omega)).2
  have hq2 : q < so_f H := (nI_ltI (by omega) (by omega)).mp (Int32.not_le.mp c)
  have gq := ho q hq2
  obtain ⟨k1, k2, k3, k4⟩ := ro_ok gq.rk
  have kt := ro_tb gq.rk
  refine mt_og vt r' hq2 gq (fun W2 fy2 e33 e34 e31 e32 => ?_)
  have fyt := fy.tr fy2
  have tail : ∀ y' : Int32, nI (bs_r o q) + y' = nI (bs_r o (q + 1)) → wpJ_Model_best_49 a1 K J Q (nI (bs_m o q)) (nI q) (nI (bs_r o q)) y' W2 := fun y' hy' => by
    unfold wpJ_Model_best_49
    intro z ez
    rw [hy'] at ez
    have keep : ∀ K2 : zMem → Prop, (∀ W3, mfy W W3 → W3 0 33 = nI (ro_c (o q)) → W3 0 34 = nI (ro_t (o q)) → K2 W3) → wp_Model_keepBest W2 K2 := fun K2 h2 => by
      unfold wp_Model_keepBest
      intro W3 e3 W4 e4
      have x32 : W3 0 32 = nI (ro_t (o q)) := by rw [e3, zup_eq, upd_ne (by omega)]; exact e32
      rw [x32] at e4
      rw [e31] at e3
      refine h2 W4 (fyt.tr ⟨fun k q0 _ _ _ _ _ _ _ _ _ => by rw [e4, zup_ne q0, e3, zup_ne q0], fun j _ => by rw [e4, zup_ne (by omega), e3, zup_ne (by omega)], fun j _ _ q3 => by rw [e4, zup_eq, upd_ne (by omega), e3, zup_eq, upd_ne (by omega)]⟩) ?_ ?_
      · rw [e4, zup_eq, upd_ne (by omega), e3, zup_eq, upd_eq]
      · rw [e4, zup_eq, upd_eq]
    refine ⟨fun c2 => ?_, fun c2 => ?_⟩
    · have q0 : q = 0 := (nI_eq (a := q) (b := 0) (by omega) (by omega)).mp c2
      refine keep _ (fun W3 f3 e33' e34' y ey => ?_)
      have em : bs_m o (q + 1) = q := by
        unfold bs_m
        rw [q0]
        split <;> rfl
      rw [ez, ey, nI_1]
      exact hJ (so_f H - (q + 1)) _ _ _ _ (by omega) ⟨q + 1, rfl, by omega, rfl, by rw [em], rfl, f3, fun _ => by rw [em]; exact ⟨e33', e34'⟩⟩
    · have q0 : 0 < q := Nat.pos_of_ne_zero (fun z => c2 (by rw [z]; rfl))
      obtain ⟨j1, j2⟩ := i1 q0
      have hm := (bs_m_lt (o := o) q).2 q0
      have gm := ho (bs_m o q) (by omega)
      obtain ⟨l1, l2, l3, l4⟩ := ro_ok gm.rk
      have cr := ro_cross gq.rk gm.rk
      refine mt_more e31 e32 (e33.trans j1) (e34.trans j2) (by omega) (by omega) (by omega) (by omega) (fun c3 => ⟨fun z => absurd z (by decide), fun _ => keep _ (fun W3 f3 e33' e34' y ey => ?_)⟩) (fun c3 => ⟨fun _ y ey => ?_, fun z => absurd rfl z⟩)
      · have em : bs_m o (q + 1) = q := by
          unfold bs_m
          rw [if_pos (cr.mp c3)]
        rw [ez, ey, nI_1]
        exact hJ (so_f H - (q + 1)) _ _ _ _ (by omega) ⟨q + 1, rfl, by omega, rfl, by rw [em], rfl, f3, fun _ => by rw [em]; exact ⟨e33', e34'⟩⟩
      · have em : bs_m o (q + 1) = bs_m o q := by
          show (if _ then _ else _) = _
          rw [if_neg (fun z => c3 (cr.mpr z))]
        rw [ez, ey, nI_1]
        exact hJ (so_f H - (q + 1)) _ _ _ _ (by omega) ⟨q + 1, rfl, by omega, rfl, by rw [em], rfl, fyt, fun _ => by rw [em]; exact ⟨e33.trans j1, e34.trans j2⟩⟩
  by_cases c3 : o q = none
  · rw [if_pos c3]
    refine ⟨fun _ => tail _ ?_, fun z => absurd rfl z⟩
    show _ = nI (bs_r o q + (if ro_top (o q) = 0 then 1 else 0))
    rw [if_pos (kt.2.2.2.mp c3)]
    exact nI_1 _
  · rw [if_neg c3]
    refine ⟨fun z => absurd z (by decide), fun _ => tail _ ?_⟩
    show _ = nI (bs_r o q + (if ro_top (o q) = 0 then 1 else 0))
    rw [if_neg (fun z => c3 (kt.2.2.2.mpr z))]
    exact Int32.add_zero _
/-- best -/
theorem p_best {n H L : Nat} {M W : zMem} {a : Int32} {P : zMem → zMem → Prop} (vt : sp_vt M 1 n H L) (r : rt0 W M n H L) (hco : co M n H L)
    (hP : ∀ M' W', ofr M M' → mfy W W' → co M' n H L → P M' W') : wp_Main_best a M (fun x M' => wp_Model_best a W (fun y W' => x = y ∧ P M' W')) := by
  obtain ⟨⟨n1, n8, H1, H5, L1, L6⟩, hn, hH, -⟩ := id vt
  have hf := so_f_le H (by omega)
  have bad : (¬ (0 ≤ a ∧ a ≤ 3)) → wp_Model_best a W (fun y W' => -1 = y ∧ P M W') := fun c =>
    mt_in (lo' := 0) (hi' := 3) (by decide) (by decide) (fun c1 c2 => absurd ⟨c1, c2⟩ c) (fun _ => ⟨fun q => absurd rfl q, fun _ => ⟨rfl, hP M W (fun _ _ => rfl) mfy.rf hco⟩⟩)
  refine ⟨fun c => bad (fun q => absurd c (Int32.not_lt.mpr q.1)), fun c1 => ⟨fun c2 => ?_, fun c => bad (fun q => c q.2)⟩⟩
  rw [hH]
  refine xt_orders H1 H5 ?_
  refine xt_best vt hco (fun M' o ho hco' fr => ?_)
  have fin : ∀ x : Int32, (¬ a = 0 → (¬ a = 3 → x = nI (if a - 1 = 0 then ro_top (o (bs_m o (so_f H))) else ro_bot (o (bs_m o (so_f H))))) ∧ (a = 3 → x = nI (bs_r o (so_f H)))) ∧ (a = 0 → x = nI (bs_m o (so_f H))) → wp_Model_best a W (fun y W' => x = y ∧ P M' W') := fun x hx => by
    refine mt_in (lo' := 0) (hi' := 3) (by decide) (by decide) (fun _ _ => ⟨fun _ => ?_, fun q => absurd q (by decide)⟩) (fun q => absurd ⟨Int32.not_lt.mp c1, c2⟩ q)
    refine mt_best vt r (fun q hq => (ho q hq).1.moved (fun i hi => (fr _ (by omega)).symm)) (fun W' fy e33 e34 => ?_)
    have p1 := hP M' W' fr fy hco'
    refine ⟨fun q0 => ⟨fun q3 => ?_, fun q3 => ⟨(hx.1 q0).2 q3, p1⟩⟩, fun q0 => ⟨hx.2 q0, p1⟩⟩
    have hm := (bs_m_lt (o := o) (so_f H)).2 (by omega)
    have rk := (ho _ hm).1.rk
    obtain ⟨k1, k2, k3, -⟩ := ro_ok rk
    rw [e33, e34, q_l64 (by omega), q_l64 (by omega)]
    refine mt_lowest (by omega) (by omega) (ro_gcd rk) ?_
    rw [lN_i]
    refine ⟨((hx.1 q0).1 q3).trans ?_, p1⟩
    by_cases c : a - 1 = 0
    · rw [if_pos c, if_pos c]; rfl
    · rw [if_neg c, if_neg c]; rfl
  have hm := (bs_m_lt (o := o) (so_f H)).2 (by omega)
  obtain ⟨-, v7, v8⟩ := ho _ hm
  intro z ez
  subst ez
  rw [q_ix (by omega), v7, v8]
  refine ⟨fun c => fin _ ⟨fun q => absurd c q, fun _ => rfl⟩, fun c => ⟨vp_in_nI (by omega) (by omega), fin _ ⟨fun _ => ⟨fun _ => ?_, fun q => ?_⟩, fun q => ?_⟩⟩, fun c => ⟨vp_in_nI (by omega) (by omega), fin _ ⟨fun _ => ⟨fun _ => ?_, fun q => ?_⟩, fun q => ?_⟩⟩, fun q0 q1 q2 => fin _ ⟨fun _ => ⟨fun q3 => ?_, fun _ => rfl⟩, fun q => absurd q q0⟩⟩
  · rw [c, if_pos (by decide)]
  · rw [c] at q; exact absurd q (by decide)
  · rw [c] at q; exact absurd q (by decide)
  · rw [c, if_neg (by decide)]
  · rw [c] at q; exact absurd q (by decide)
  · rw [c] at q; exact absurd q (by decide)
  · obtain ⟨j, hj, e⟩ := nI_of2 (x := z) (M := 3) (n := 3) rfl c1 c2
    rcases (show j = 0 ∨ j = 1 ∨ j = 2 ∨ j = 3 by omega) with rfl | rfl | rfl | rfl
    · exact absurd e q0
    · exact absurd e q1
    · exact absurd e q2
    · exact absurd e q3
