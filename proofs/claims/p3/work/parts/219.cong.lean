/-- the bench is the same, slot for slot -/
def bsl (N M : zMem) : Prop := (∀ j, 2 ≤ j → j ≤ 5 → N 18 j = M 18 j) ∧ (∀ a x, 1 ≤ a → a ≤ 6 → x < 5 → N (18 + a) x = M (18 + a) x) ∧ (∀ x, x < 40 → N 25 x = M 25 x)
theorem bsl.of {N M : zMem} (h : ∀ c, 18 ≤ c → c ≤ 25 → N c = M c) : bsl N M := ⟨fun j _ _ => by rw [h 18 (by omega) (by omega)], fun a x _ _ _ => by rw [h (18 + a) (by omega) (by omega)], fun x _ => by rw [h 25 (by omega) (by omega)]⟩
theorem pr_cong {W M N : zMem} {n H : Nat} (H5 : H ≤ 5) (n8 : n ≤ 8) (p : pr W M n H) (s : bsl N M) : pr W N n H := by
  obtain ⟨⟨a1, a2, a3, a4⟩, b, c, d, e, f⟩ := p
  refine ⟨⟨a1.trans (s.1 2 (by omega) (by omega)).symm, a2.trans (s.1 3 (by omega) (by omega)).symm, a3.trans (s.1 4 (by omega) (by omega)).symm, a4.trans (s.1 5 (by omega) (by omega)).symm⟩, fun h hh => ?_, fun h p hh hp => (c h p hh hp).trans (s.2.2 _ (by omega)).symm, d, e, f⟩
  have b := b h hh
  unfold mr_h at b ⊢
  rw [s.2.1 1 h (by omega) (by omega) (by omega), s.2.1 2 h (by omega) (by omega) (by omega), s.2.1 3 h (by omega) (by omega) (by omega), s.2.1 4 h (by omega) (by omega) (by omega), s.2.1 5 h (by omega) (by omega) (by omega), s.2.1 6 h (by omega) (by omega) (by omega)]
  exact b
theorem hand_none {M N : zMem} {H h : Nat} (hh : h < H) (H5 : H ≤ 5) (hH : M 1 1 = nI H) (e1 : N 1 = M 1) (e5 : N 5 = M 5) (s : bsl N M) (x : sp_hand 1 18 h M = none) : sp_hand 1 18 h N = none := by
  have c1 : ∀ g, g < 5 → N (18 + 1) g = M (18 + 1) g := fun g hg => s.2.1 1 g (by omega) (by omega) hg
  have c2 : ∀ g, g < 5 → N (18 + 2) g = M (18 + 2) g := fun g hg => s.2.1 2 g (by omega) (by omega) hg
  have c3 : ∀ g, g < 5 → N (18 + 3) g = M (18 + 3) g := fun g hg => s.2.1 3 g (by omega) (by omega) hg
  have c4 : ∀ g, g < 5 → N (18 + 4) g = M (18 + 4) g := fun g hg => s.2.1 4 g (by omega) (by omega) hg
  have e5' : N (1 + 4) = M (1 + 4) := e5
  have can : ∀ g, g < 5 → (sp_can 1 18 g N ↔ sp_can 1 18 g M) := fun g hg => by
    unfold sp_can
    rw [c3 g hg, c4 g hg, e1, e5']
  have held : sp_held 1 18 h N ↔ sp_held 1 18 h M := by
    unfold sp_held
    rw [e1]
    by_cases w : h + 1 < 5
    · rw [c3 h (by omega), c4 h (by omega), c3 _ w, c4 _ w]
    · have no : ¬ nI (h + 1) < M 1 1 := fun v => by
        rw [hH] at v
        have := (nI_ltI (by omega) (by omega)).mp v
        omega
      exact ⟨fun v => absurd v.1 no, fun v => absurd v.1 no⟩
  have may : sp_may 1 18 h N ↔ sp_may 1 18 h M := by
    unfold sp_may
    rw [c3 h (by omega), e5', held]
  unfold sp_hand at x ⊢
  by_cases z : M (18 + 2) h = 0
  · rw [if_pos z] at x
    rw [if_pos ((c2 h (by omega)).trans z)]
    by_cases z3 : M (18 + 1) h = 3
    · rw [if_pos z3] at x; cases x
    rw [if_neg z3] at x
    rw [if_neg (by rw [c1 h (by omega)]; exact z3)]
    by_cases z0 : M (18 + 1) h = 0
    · rw [if_pos z0] at x
      rw [if_pos ((c1 h (by omega)).trans z0)]
      by_cases h0 : h = 0
      · rw [if_pos h0] at x; cases x
      rw [if_neg h0] at x
      rw [if_neg h0]
      by_cases zc : M (18 + 1) (h - 1) = 2 ∧ sp_can 1 18 (h - 1) M
      · rw [if_pos zc] at x; cases x
      · rw [if_neg (fun w => zc ⟨by rw [← c1 (h - 1) (by omega)]; exact w.1, (can (h - 1) (by omega)).mp w.2⟩)]
    · rw [if_neg z0] at x
      rw [if_neg (by rw [c1 h (by omega)]; exact z0)]
      by_cases z2 : M (18 + 1) h = 2
      · rw [if_pos z2] at x
        rw [if_pos ((c1 h (by omega)).trans z2)]
        by_cases zm : sp_may 1 18 h M
        · rw [if_pos zm] at x; cases x
        · rw [if_neg (fun w => zm (may.mp w))]
      · rw [if_neg (by rw [c1 h (by omega)]; exact z2)]
  · rw [if_neg (by rw [c2 h (by omega)]; exact z)]
theorem bst_cong {M N : zMem} {n H L : Nat} (b : bst M n H L) (vt : sp_vt N 1 n H L) (e1 : N 1 = M 1) (e3 : N 3 = M 3) (e5 : N 5 = M 5) (ht : ztc (N 18 0) = 1) (s : bsl N M) : bst N n H L := by
  obtain ⟨⟨-, -, -, vM, ⟨pl, hpl, epl⟩, hd, -⟩, hs⟩ := b
  have H5 : H ≤ 5 := vt.1.2.2.2.1
  refine ⟨⟨ht, by omega, by omega, vt, ⟨pl, hpl, (s.1 5 (by omega) (by omega)).trans epl⟩, fun h hh => ?_, fun g hg => by rw [zlg_18] at hg; cases hg⟩, fun j hj => hand_none hj H5 vM.2.2.1 e1 e5 s (hs j hj)⟩
  have hd := hd h hh
  unfold sp_hd at hd ⊢
  have e3' : N (1 + 2) = M (1 + 2) := e3
  have e5' : N (1 + 4) = M (1 + 4) := e5
  rw [s.2.1 1 h (by omega) (by omega) (by omega), s.2.1 2 h (by omega) (by omega) (by omega), s.2.1 3 h (by omega) (by omega) (by omega), s.2.1 4 h (by omega) (by omega) (by omega), s.2.1 5 h (by omega) (by omega) (by omega), e1, e3', e5']
  exact hd
