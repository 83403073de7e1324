theorem sp_hd_pass1_ne {t b n h j : Nat} {d : Int32} {M : zMem} (hb : t + 4 < b) (e : j ≠ h) (hh : sp_hd M t b n j) : sp_hd (sp_pass1 b h d M) t b n j :=
  hh.moved (fun i hi => sp_pass1_fr.2.2.2 _ (by omega)) (fun i i1 i5 => sp_pass1_fr.2.2.1 i j i1 (by omega) (Or.inr e))
theorem sp_passes_fr {b : Nat} {d : Int32} : ∀ m h (M : zMem), sp_fr b M (sp_passes b d m h M) ∧ (∀ j, sp_passes b d m h M b j = M b j) ∧ (∀ i j, 1 ≤ i → i ≤ 7 → (i ≠ 1 ∧ i ≠ 2 ∧ i ≠ 6 ∨ (j < h ∨ h + m ≤ j)) → sp_passes b d m h M (b + i) j = M (b + i) j) ∧ (∀ k, (k < b ∨ b + 9 ≤ k) → sp_passes b d m h M k = M k) := by
  intro m
  induction m with
  | zero => intro h M; exact ⟨sp_fr.rf, fun _ => rfl, fun _ _ _ _ _ => rfl, fun _ _ => rfl⟩
  | succ m ih =>
    intro h M
    unfold sp_passes
    obtain ⟨a1, a2, a3, a4⟩ := ih (h + 1) (sp_pass1 b h d M)
    obtain ⟨b1, b2, b3, b4⟩ := sp_pass1_fr (b := b) (h := h) (d := d) (M := M)
    refine ⟨b1.tr a1, fun j => (a2 j).trans (b2 j), fun i j i1 i7 hc => ?_, fun k hk => (a4 k hk).trans (b4 k hk)⟩
    rw [a3 i j i1 i7 (by omega), b3 i j i1 i7 (by omega)]
theorem sp_passes_hd {t b n H : Nat} {d : Int32} (hb : t + 4 < b) (h0 : 0 < d) : ∀ m h (M : zMem), h + m = H → (∀ j, j < H → sp_hd M t b n j) → (∀ j, h ≤ j → j < H → (M (b + 1) j = 3 → 0 < M (b + 2) j) ∧ (0 < M (b + 2) j → d ≤ M (b + 2) j)) → ∀ j, j < H → sp_hd (sp_passes b d m h M) t b n j := by
  intro m
  induction m with
  | zero => intro h M _ hhd _; exact hhd
  | succ m ih =>
    intro h M hm hhd hst
    unfold sp_passes
    refine ih (h + 1) _ (by omega) (fun j hj => ?_) (fun j j1 j2 => ?_)
    · by_cases e : j = h
      · subst e
        exact sp_hd_pass1 hb (hhd j hj) (hst j (Nat.le_refl _) hj).1 h0 (hst j (Nat.le_refl _) hj).2
      · exact sp_hd_pass1_ne hb e (hhd j hj)
    · have e1 := (sp_pass1_fr (b := b) (h := h) (d := d) (M := M)).2.2.1 1 j (by omega) (by omega) (Or.inr (by omega))
      have e2 := (sp_pass1_fr (b := b) (h := h) (d := d) (M := M)).2.2.1 2 j (by omega) (by omega) (Or.inr (by omega))
      rw [e1, e2]
      exact hst j (by omega) j2
/-- d ticks may go by -/
def sp_can_pass (M : zMem) (b H : Nat) (d : Int32) : Prop := 0 < d ∧ sp_st M b H ∧ ∀ h, h < H → 0 < M (b + 2) h → d ≤ M (b + 2) h
theorem sp_pass_fr {b H : Nat} {d : Int32} {M : zMem} : sp_fr b M (sp_pass b H d M) ∧ sp_pass b H d M b 2 = M b 2 + d ∧ (∀ j, j ≠ 2 → sp_pass b H d M b j = M b j) ∧ (∀ i j, i = 3 ∨ i = 4 ∨ i = 5 ∨ i = 7 → sp_pass b H d M (b + i) j = M (b + i) j) ∧ (∀ k, (k < b ∨ b + 9 ≤ k) → sp_pass b H d M k = M k) := by
  unfold sp_pass
  obtain ⟨a1, a2, a3, a4⟩ := sp_passes_fr (b := b) (d := d) H 0 (zup M b 2 (M b 2 + d))
  refine ⟨(sp_fr.up0 (by omega)).tr a1, ?_, fun j hj => ?_, fun i j hi => ?_, fun k hk => ?_⟩
  · rw [a2]; simp (disch := omega) only [zup_eq, upd_eq]
  · rw [a2]; simp (disch := omega) only [zup_eq, upd_ne]
  · rw [a3 i j (by omega) (by omega) (by omega)]; simp (disch := omega) only [zup_ne]
  · rw [a4 k hk]; simp (disch := omega) only [zup_ne]
theorem sp_pass_ok {t b n H L : Nat} {d : Int32} {M : zMem} (ok : sp_ok M t b n H L) (hc : sp_can_pass M b H d) : sp_ok (sp_pass b H d M) t b n H L := by
  obtain ⟨f1, f2, f3, f4, f5⟩ := sp_pass_fr (b := b) (H := H) (d := d) (M := M)
  obtain ⟨ht, hd2, hb18, vt, hpl, hhd, hg⟩ := id ok
  have hb : t + 4 < b := by omega
  refine ok.of f1 (by rw [f3 5 (by omega)]; exact hpl) ?_ (fun g q => ?_)
  · unfold sp_pass
    refine sp_passes_hd hb hc.1 H 0 _ (by omega) (fun j hj => ?_) (fun j _ hj => ?_)
    · exact (hhd j hj).moved (fun i hi => by simp (disch := omega) only [zup_ne]) (fun i i1 i5 => by simp (disch := omega) only [zup_ne])
    · simp (disch := omega) only [zup_ne]
      exact ⟨hc.2.1 j hj, hc.2.2 j hj⟩
  · rcases zlg_cases b with c | ⟨c, hb32⟩
    · rw [c] at q; cases q
    · rw [c] at q
      cases q
      rw [f5 30 (by omega)]
      exact hg 30 c
theorem xt_pass {t b n H L : Nat} {d : Int32} {M : zMem} {Q : zMem → Prop} (ok : sp_ok M t b n H L) (hc : sp_can_pass M b H d) (hQ : Q (sp_pass b H d M)) : wp_Bench_letPass b d M Q := by
  obtain ⟨ht, hd2, hb18, vt, hpl, hhd, hg⟩ := id ok
  have H5 : H ≤ 5 := vt.1.2.2.2.1
  have n8 : n ≤ 8 := vt.1.2.1
  have hb : t + 4 < b := by omega
  have eH : M t 1 = nI H := vt.2.2.1
  unfold wp_Bench_letPass
  intro M1 hM1
  unfold sp_pass at hQ
  rw [← hM1] at hQ
  have k0 : M1 b 0 = M b 0 := by rw [hM1]; simp (disch := omega) only [zup_eq, upd_ne]
  have k1 : M1 t 1 = nI H := by rw [hM1]; simp (disch := omega) only [zup_ne]; exact eH
  have k2 : ∀ j, j < H → sp_hd M1 t b n j := fun j hj => by
    rw [hM1]
    exact (hhd j hj).moved (fun i hi => by simp (disch := omega) only [zup_ne]) (fun i i1 i5 => by simp (disch := omega) only [zup_ne])
  refine zlp1_r (fun m x M' => ∃ h, x = nI h ∧ h ≤ H ∧ m = H - h ∧ Q (sp_passes b d m h M') ∧ M' b 0 = M b 0 ∧ M' t 1 = nI H ∧ ∀ j, h ≤ j → j < H → sp_hd M' t b n j) ?_ (n := H) ⟨0, rfl, Nat.zero_le _, rfl, hQ, k0, k1, fun j _ hj => k2 j hj⟩
  rintro m x M' ⟨h, rfl, hh, rfl, hQ, k0, k1, k2⟩ J hJ
  unfold wpB_Bench_letPass_12
  rw [k0, ht, k1]
  refine ⟨fun q => ?_, fun q => ?_⟩
  · have := (nI_leI (a := H) (b := h) (by omega) (by omega)).mp q
    rw [show H - h = 0 by omega] at hQ
    exact hQ
  · have q1 : h < H := Nat.lt_of_not_le (fun z => q (nI_le z (by omega)))
    have e1 : ix (nI h) = h := q_ix (by omega)
    have e2 : vp_in (nI h) 5 := vp_in_nI (by omega) (by omega)
    rw [e1]
    rw [show H - h = (H - (h + 1)) + 1 by omega] at hQ
    unfold sp_passes at hQ
    have go : ∀ M'', M'' = sp_pass1 b h d M' → ∀ x : Int32, x = nI h + 1 → J x M'' := fun M'' e x hx => by
      rw [hx, nI_1, e]
      refine hJ (H - (h + 1)) _ _ (by omega) ⟨h + 1, rfl, by omega, rfl, hQ, ?_, ?_, fun j j1 j2 => ?_⟩
      · rw [sp_pass1_fr.2.1]; exact k0
      · have : sp_pass1 b h d M' t = M' t := sp_pass1_fr.2.2.2 _ (by omega)
        rw [this]; exact k1
      · exact sp_hd_pass1_ne hb (by omega) (k2 j (by omega) j2)
    unfold sp_pass1 at go
    refine ⟨e2, fun c1 => ⟨e2, e2, fun M2 hM2 => ?_⟩, fun c1 => ⟨e2, e2, fun M6 hM6 => ?_⟩⟩
    · rw [if_neg (Int32.not_lt.mpr c1)] at go
      have x1 : M2 (b + 1) h = M' (b + 1) h := by rw [hM2]; simp (disch := omega) only [zup_ne]
      have x3 : M2 (b + 3) h = M' (b + 3) h := by rw [hM2]; simp (disch := omega) only [zup_ne]
      have x8 : M2 (b + 8) = M' (b + 8) := by rw [hM2]; simp (disch := omega) only [zup_ne]
      rw [x1, x3, x8]
      refine ⟨e2, fun c2 => ?_, fun c2 => ?_⟩
      · rw [if_neg c2, ← hM2] at go
        exact go _ rfl
      · rw [if_pos c2, ← hM2] at go
        have hv : vp_in (M' (b + 3) h) 8 := by
          rcases k2 h (Nat.le_refl _) q1 with ⟨a1, -⟩ | ⟨a1, -⟩ | ⟨p, u, s, U, a1, a2, a3, a4, a5, -⟩
          · rw [c2] at a1; exact absurd a1 (by decide)
          · rw [c2] at a1; exact absurd a1 (by decide)
          · rw [a5]; exact vp_in_nI (by omega) (by omega)
        exact ⟨e2, hv, hv, fun M4 hM4 => go M4 hM4⟩
    · rw [if_pos (Int32.not_le.mp c1)] at go
      have x2 : M6 (b + 2) h = M' (b + 2) h - d := by rw [hM6]; simp (disch := omega) only [zup_eq, upd_eq]
      have x1 : M6 (b + 1) h = M' (b + 1) h := by rw [hM6]; simp (disch := omega) only [zup_ne]
      rw [x2, x1]
      refine ⟨e2, fun c2 => ?_, fun c2 => ⟨e2, fun c3 => ?_, fun c3 => ⟨e2, fun M9 hM9 => ?_⟩⟩⟩
      · rw [if_neg (fun z => c2 z.1), ← hM6] at go
        exact go _ rfl
      · rw [if_neg (fun z => c3 z.2), ← hM6] at go
        exact go _ rfl
      · rw [if_pos ⟨c2, c3⟩, ← hM6] at go
        exact go M9 hM9
