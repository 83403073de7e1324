/-- what is carried through a tick: coats done, handings over, how far it is, where hands stood -/
def sp_car (M M' : zMem) (b H C D : Nat) : Prop := (sp_db M b H D → sp_db M' b H D ∧ sp_P M b H ≤ sp_P M' b H) ∧ (sp_ob M b H C → sp_ob M' b H C) ∧ M' (b + 8) = M (b + 8) ∧ M' (b + 6) = M (b + 6) ∧ M' b 2 = M b 2
theorem sp_car.rf {M : zMem} {b H C D : Nat} : sp_car M M b H C D := ⟨fun h => ⟨h, Nat.le_refl _⟩, fun h => h, rfl, rfl, rfl⟩
theorem sp_car.tr {M M1 M2 : zMem} {b H C D : Nat} (h1 : sp_car M M1 b H C D) (h2 : sp_car M1 M2 b H C D) : sp_car M M2 b H C D :=
  ⟨fun h => ⟨(h2.1 (h1.1 h).1).1, Nat.le_trans (h1.1 h).2 (h2.1 (h1.1 h).1).2⟩, fun h => h2.2.1 (h1.2.1 h), h2.2.2.1.trans h1.2.2.1, h2.2.2.2.1.trans h1.2.2.2.1, h2.2.2.2.2.trans h1.2.2.2.2⟩
theorem sp_hand_car {t b n H L h C D : Nat} {M M' : zMem} (hD : D < 2147483000) (ok : sp_ok M t b n H L) (hh : h < H) (e : sp_hand t b h M = some M') : sp_car M M' b H C D := by
  refine ⟨fun hd => sp_P_hand hD ok hh e hd, fun ho => sp_hand_o ok hh e ho, ?_⟩
  have gb : ∀ (f : Int32) (j : Nat) (X : zMem), sp_goBack t b j f X (b + 8) = X (b + 8) ∧ sp_goBack t b j f X (b + 6) = X (b + 6) := fun f j X => by
    unfold sp_goBack
    simp (disch := omega) only [zup_ne, and_self]
  have hb18 := ok.2.2.1
  unfold sp_hand at e
  split at e
  · split at e
    · cases e
      unfold sp_finish
      dsimp only
      split
      · simp (disch := omega) only [zup_ne, and_self]
      · split
        · simp (disch := omega) only [zup_ne, and_self]
        · rw [(gb _ _ _).1, (gb _ _ _).2, sp_goBack_b]
          simp (disch := omega) only [zup_ne, zup_eq, upd_ne, and_self]
    · split at e
      · split at e
        · cases e
          unfold sp_new
          simp (disch := omega) only [zup_ne, zup_eq, upd_ne, and_self]
        · split at e
          · cases e
            unfold sp_take
            rcases zlg_cases b with c | ⟨c, hb32⟩
            · rw [c]
              dsimp only
              rw [(gb _ _ _).1, (gb _ _ _).2, sp_goBack_b]
              simp (disch := omega) only [zup_ne, zup_eq, upd_ne, and_self]
            · rw [c]
              dsimp only
              rw [(gb _ _ _).1, (gb _ _ _).2, sp_goBack_b, e_note_ne (by omega) (by omega), e_note_ne (by omega) (by omega), e_note_ne (by omega) (by omega)]
              simp (disch := omega) only [zup_ne, zup_eq, upd_ne, and_self]
          · cases e
      · split at e
        · split at e
          · cases e
            unfold sp_start
            simp (disch := omega) only [zup_ne, and_self]
          · cases e
        · cases e
  · cases e
theorem sp_rd_car {t b n H L C D : Nat} (hD : D < 2147483000) : ∀ h (s : Bool) (M : zMem), h ≤ H → sp_ok M t b n H L → sp_car M (sp_rd t b h s M).2 b H C D := by
  intro h
  induction h with
  | zero => intro s M _ _; exact sp_car.rf
  | succ h ih =>
    intro s M hh ok
    unfold sp_rd
    cases e : sp_hand t b h M with
    | none => exact ih s M (by omega) ok
    | some M' => exact (sp_hand_car hD ok (by omega) e).tr (ih true M' (by omega) (sp_step ok (by omega) e).1)
theorem sp_rounds_car {t b n H L C D : Nat} (hD : D < 2147483000) : ∀ f (M : zMem), sp_ok M t b n H L → sp_car M (sp_rounds t b H f M) b H C D := by
  intro f
  induction f with
  | zero => intro M _; exact sp_car.rf
  | succ f ih =>
    intro M ok
    unfold sp_rounds
    have h1 := sp_rd_car (C := C) hD H false M (Nat.le_refl _) ok
    split
    · exact h1.tr (ih _ (sp_rd_ok H false M (Nat.le_refl _) ok).1)
    · exact h1
theorem sp_all_car {t b n H L C D : Nat} {M : zMem} (hD : D < 2147483000) (ok : sp_ok M t b n H L) : sp_car M (sp_all t b H M) b H C D := sp_rounds_car hD _ M ok
/-- the least is somebody's -/
theorem sp_least_in (f : Nat → Int32) : ∀ m h c, sp_least f m h c = c ∨ ∃ j, h ≤ j ∧ j < h + m ∧ sp_least f m h c = f j := by
  intro m
  induction m with
  | zero => intro h c; exact Or.inl rfl
  | succ m ih =>
    intro h c
    unfold sp_least
    split
    · rcases ih (h + 1) (f h) with e | ⟨j, j1, j2, e⟩
      · exact Or.inr ⟨h, by omega, by omega, e⟩
      · exact Or.inr ⟨j, by omega, by omega, e⟩
    · rcases ih (h + 1) c with e | ⟨j, j1, j2, e⟩
      · exact Or.inl e
      · exact Or.inr ⟨j, by omega, by omega, e⟩
theorem sp_f_pass1 {t b n h : Nat} {d : Int32} {M : zMem} (hh : sp_hd M t b n h) (n8 : n ≤ 8) (hst : M (b + 1) h = 3 → 0 < M (b + 2) h) : sp_f M b h ≤ sp_f (sp_pass1 b h d M) b h ∧ (0 < M (b + 2) h → M (b + 2) h = d → sp_f M b h < sp_f (sp_pass1 b h d M) b h) := by
  have f3 := (sp_pass1_fr (b := b) (h := h) (d := d) (M := M)).2.2.1 3 h (by omega) (by omega) (by omega)
  have f4 := (sp_pass1_fr (b := b) (h := h) (d := d) (M := M)).2.2.1 4 h (by omega) (by omega) (by omega)
  rcases hh with ⟨a1, a2, a3⟩ | ⟨a1, a2, a3⟩ | ⟨p, u, s, U, a1, a2, a3, a4, a5, a6, a7, a8, a9, a10⟩
  · have e : sp_pass1 b h d M (b + 1) h = 0 := by
      unfold sp_pass1
      rw [a1, a2, if_neg (by decide), if_neg (by decide)]
      simp (disch := omega) only [zup_ne]
      exact a1
    rw [sp_f_no a3, sp_f_no (by rw [f3]; exact a3), a1, e]
    exact ⟨Nat.le_refl _, fun q => by rw [a2] at q; exact absurd q (by decide)⟩
  · rw [sp_f_no a3, sp_f_no (by rw [f3]; exact a3), a1, if_neg (by decide)]
    refine ⟨Nat.zero_le _, fun _ q => ?_⟩
    have e : sp_pass1 b h d M (b + 1) h = 0 := by
      unfold sp_pass1
      rw [if_pos a2, if_pos ⟨by rw [q]; exact Int32.sub_self d, a1⟩]
      simp (disch := omega) only [zup_eq, upd_eq]
    rw [e, if_pos rfl]
    omega
  · rw [sp_f_coat a5 (by omega) a6 (by omega), sp_f_coat (by rw [f3]; exact a5) (by omega) (by rw [f4]; exact a6) (by omega)]
    rcases a9 with ⟨a9, a11⟩ | ⟨a9, a11⟩
    · rw [a9, if_neg (fun q => absurd q.1 (by decide))]
      exact ⟨by omega, fun q => by rw [a11] at q; exact absurd q (by decide)⟩
    · have hp := hst a9
      have hz : ¬ M (b + 2) h = 0 := fun q => by rw [q] at hp; exact absurd hp (by decide)
      rw [if_neg (fun q => hz q.2)]
      refine ⟨by omega, fun _ q => ?_⟩
      have e : sp_pass1 b h d M = zup M (b + 2) h (M (b + 2) h - d) := by
        unfold sp_pass1
        rw [if_pos hp, if_neg (fun q => by rw [a9] at q; exact absurd q.2 (by decide))]
      have e1 : sp_pass1 b h d M (b + 1) h = 3 := by rw [e]; simp (disch := omega) only [zup_ne]; exact a9
      have e2 : sp_pass1 b h d M (b + 2) h = 0 := by rw [e]; simp (disch := omega) only [zup_eq, upd_eq]; rw [q]; exact Int32.sub_self d
      rw [if_pos ⟨e1, e2⟩]
      omega
theorem sp_passes_f {t b n H : Nat} {d : Int32} (hb : t + 4 < b) (n8 : n ≤ 8) : ∀ m h (M : zMem), h + m = H → (∀ j, h ≤ j → j < H → sp_hd M t b n j ∧ (M (b + 1) j = 3 → 0 < M (b + 2) j)) → ∀ j, j < H → sp_f M b j ≤ sp_f (sp_passes b d m h M) b j ∧ (h ≤ j → 0 < M (b + 2) j → M (b + 2) j = d → sp_f M b j < sp_f (sp_passes b d m h M) b j) := by
  intro m
  induction m with
  | zero => intro h M hm _ j hj; exact ⟨Nat.le_refl _, fun q => absurd q (by omega)⟩
  | succ m ih =>
    intro h M hm hhd j hj
    unfold sp_passes
    obtain ⟨g1, g2⟩ := hhd h (Nat.le_refl _) (by omega)
    obtain ⟨p1, p2⟩ := sp_f_pass1 (d := d) g1 n8 g2
    have nx := ih (h + 1) (sp_pass1 b h d M) (by omega) (fun i i1 i2 => ⟨sp_hd_pass1_ne hb (by omega) (hhd i (by omega) i2).1, by
      have e1 := (sp_pass1_fr (b := b) (h := h) (d := d) (M := M)).2.2.1 1 i (by omega) (by omega) (Or.inr (by omega))
      have e2 := (sp_pass1_fr (b := b) (h := h) (d := d) (M := M)).2.2.1 2 i (by omega) (by omega) (Or.inr (by omega))
      rw [e1, e2]
      exact (hhd i (by omega) i2).2⟩) j hj
    by_cases e : j = h
    · subst e
      exact ⟨Nat.le_trans p1 nx.1, fun _ q1 q2 => Nat.lt_of_lt_of_le (p2 q1 q2) nx.1⟩
    · have ef : sp_f (sp_pass1 b h d M) b j = sp_f M b j := sp_f_eq (fun i i1 i4 => sp_pass1_fr.2.2.1 i j i1 (by omega) (Or.inr e))
      have e2 := (sp_pass1_fr (b := b) (h := h) (d := d) (M := M)).2.2.1 2 j (by omega) (by omega) (Or.inr e)
      rw [ef, e2] at nx
      exact ⟨nx.1, fun q0 q1 q2 => nx.2 (by omega) q1 q2⟩
theorem sp_sum_lt {c c' : Nat → Nat} : ∀ H, (∀ j, j < H → c j ≤ c' j) → sp_sum c H ≤ sp_sum c' H ∧ ∀ h, h < H → c h < c' h → sp_sum c H < sp_sum c' H := by
  intro H
  induction H with
  | zero => intro _; exact ⟨Nat.le_refl _, fun h hh => absurd hh (by omega)⟩
  | succ H ih =>
    intro hle
    obtain ⟨i1, i2⟩ := ih (fun j hj => hle j (by omega))
    have := hle H (by omega)
    unfold sp_sum
    refine ⟨by omega, fun h hh hc => ?_⟩
    by_cases e : h = H
    · subst e; omega
    · have := i2 h (by omega) hc
      omega
/-- the least of what is left goes by: it comes nearer -/
theorem sp_P_pass {t b n H L : Nat} {M : zMem} (ok : sp_ok M t b n H L) (hs : ∀ j, j < H → sp_hand t b j M = none) : sp_P M b H < sp_P (sp_pass b H (sp_least (M (b + 2)) H 0 0) M) b H := by
  obtain ⟨ht, hd2, hb18, vt, hpl, hhd, hg⟩ := id ok
  have n8 : n ≤ 8 := vt.1.2.1
  have hb : t + 4 < b := by omega
  have hpos := sp_nstuck ok hs
  have hst := sp_st_of ok hs
  generalize hd : sp_least (M (b + 2)) H 0 0 = d at hpos
  have hex : ∃ j, j < H ∧ M (b + 2) j = d := by
    rcases sp_least_in (M (b + 2)) H 0 0 with e | ⟨j, j1, j2, e⟩
    · rw [hd] at e; rw [e] at hpos; exact absurd hpos (by decide)
    · exact ⟨j, by omega, by rw [← e]; exact hd⟩
  obtain ⟨j, j1, j2⟩ := hex
  unfold sp_P
  rw [sp_pass_fr.2.2.1 3 (by omega)]
  have z1 : ∀ i, 1 ≤ i → zup M b 2 (M b 2 + d) (b + i) = M (b + i) := fun i hi => by simp (disch := omega) only [zup_ne]
  have zt : ∀ i, i ≤ 4 → zup M b 2 (M b 2 + d) (t + i) = M (t + i) := fun i hi => by simp (disch := omega) only [zup_ne]
  have ef : ∀ i, sp_f (zup M b 2 (M b 2 + d)) b i = sp_f M b i := fun i => sp_f_eq (fun k k1 _ => by rw [z1 k k1])
  have key := sp_passes_f (d := d) hb n8 H 0 (zup M b 2 (M b 2 + d)) (by omega) (fun i _ i2 => ⟨(hhd i i2).moved zt (fun k k1 _ => by rw [z1 k k1]), by rw [z1 1 (by omega), z1 2 (by omega)]; exact hst i i2⟩)
  have := (sp_sum_lt (c := sp_f M b) (c' := sp_f (sp_pass b H d M) b) H (fun i hi => by have := (key i hi).1; rw [ef] at this; exact this)).2 j j1 (by
    have := (key j j1).2 (by omega) (by rw [z1 2 (by omega), j2]; exact hpos) (by rw [z1 2 (by omega)]; exact j2)
    rw [ef] at this
    exact this)
  omega
