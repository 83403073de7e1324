theorem sp_pos1 (v : Int32) : (0 : Int32) < (if v < 1 then 1 else v) := by
  split
  · decide
  · rename_i h1
    rw [Int32.not_lt] at h1
    exact Int32.lt_of_lt_of_le (show (0 : Int32) < 1 by decide) h1
theorem sp_ticks_pos (t h p : Nat) (ld : Int32) (M : zMem) : 0 < sp_ticks t h p ld M := sp_pos1 _
theorem sp_wl_nn {t b h f k : Nat} {M : zMem} (hf : f ≤ 8) (hk : M t 2 = nI k) (hk5 : k ≤ 5) (hp : 0 < h → M (b + 3) (h - 1) = -1 ∨ ∃ p, p < 8 ∧ M (b + 3) (h - 1) = nI p) : ∃ z, z ≤ 40 ∧ sp_wl t b h (nI f) M = nI z := by
  have key : ∀ w : Nat, w ≤ 8 → k * w ≤ 40 := fun w hw => by
    have : k * w ≤ 5 * 8 := Nat.mul_le_mul hk5 hw
    omega
  unfold sp_wl sp_way
  by_cases h0 : h = 0
  · refine ⟨0, by omega, ?_⟩
    rw [if_pos h0, if_neg (by decide)]
    rfl
  · rw [if_neg h0]
    rcases hp (by omega) with e | ⟨p, hp8, e⟩
    · rw [e, if_pos (show (-1 : Int32) < 0 by decide), hk]
      by_cases c : 0 < nI f
      · exact ⟨k * f, key f hf, by rw [if_pos c, q_mul]⟩
      · exact ⟨0, by omega, by rw [if_neg c]; rfl⟩
    · have e9 : ¬ nI p < 0 := by rw [Int32.not_lt]; exact nI_pos' (by omega)
      rw [e, if_neg e9, hk]
      rcases Nat.le_total p f with c | c
      · rw [q_sub c, q_mul]
        by_cases c2 : 0 < nI (f - p)
        · exact ⟨k * (f - p), key _ (by omega), by rw [if_pos c2]⟩
        · exact ⟨0, by omega, by rw [if_neg c2]; rfl⟩
      · refine ⟨0, by omega, ?_⟩
        rw [if_neg ?_]
        · rfl
        · rw [Int32.not_lt, Int32.le_iff_toInt_le, pk_sub_toInt (by omega) (by omega)]
          have : (0 : Int32).toInt = 0 := by decide
          omega
/-- what a step may change -/
def sp_fr (b : Nat) (M M' : zMem) : Prop := (∀ k, (k < b ∨ b + 9 ≤ k) → (b = 32 → k ≠ 30 ∧ k ≠ 31) → M' k = M k) ∧ M' b 0 = M b 0
theorem sp_fr.rf {b : Nat} {M : zMem} : sp_fr b M M := ⟨fun _ _ _ => rfl, rfl⟩
theorem sp_fr.tr {b : Nat} {M M1 M2 : zMem} (h1 : sp_fr b M M1) (h2 : sp_fr b M1 M2) : sp_fr b M M2 := ⟨fun k a c => (h2.1 k a c).trans (h1.1 k a c), h2.2.trans h1.2⟩
theorem sp_fr.up {b i j : Nat} {x : Int32} {M : zMem} (hi : i < 9) (h0 : i = 0 → j ≠ 0) : sp_fr b M (zup M (b + i) j x) := by
  refine ⟨fun k h _ => zup_ne (by omega), ?_⟩
  by_cases c : i = 0
  · subst c
    rw [Nat.add_zero, zup_eq, upd_ne (fun q => h0 rfl q.symm)]
  · rw [zup_ne (by omega)]
theorem sp_fr.up0 {b j : Nat} {x : Int32} {M : zMem} (h0 : j ≠ 0) : sp_fr b M (zup M b j x) := sp_fr.up (i := 0) (by omega) (fun _ => h0)
theorem sp_fr.told {b t : Nat} {M M' : zMem} (h : sp_fr b M M') (hb : 18 ≤ b) (ht : t + 4 < 18) : ∀ i, i ≤ 4 → M' (t + i) = M (t + i) := fun i hi => h.1 (t + i) (by omega) (fun _ => by omega)
theorem sp_fr_goBack {t b h : Nat} {f : Int32} {M : zMem} : sp_fr b M (sp_goBack t b h f M) := by
  unfold sp_goBack
  exact ((sp_fr.up (i := 3) (by omega) (by omega)).tr (sp_fr.up (i := 2) (by omega) (by omega))).tr (sp_fr.up (i := 1) (by omega) (by omega))
theorem sp_fr_note {b g : Nat} {a w p u s : Int32} {M : zMem} (hg : zlg b = some g) : sp_fr b M (sp_note g a w p u s M) := by
  rcases zlg_cases b with h | ⟨h, hb⟩
  · rw [h] at hg; cases hg
  · rw [h] at hg
    cases hg
    refine ⟨fun k _ h2 => e_note_ne (h2 hb).1 (h2 hb).2, ?_⟩
    rw [e_note_ne (by omega) (by omega)]
theorem sp_fr_finish {t b h : Nat} {M : zMem} : sp_fr b M (sp_finish t b h M) := by
  unfold sp_finish
  have h3 : sp_fr b M (zup (zup (zup M (b + 7) (h * 8 + ix (M (b + 3) h)) (M (b + 7) (h * 8 + ix (M (b + 3) h)) + 1)) (b + 1) h 2) (b + 4) h (M (b + 4) h + 1)) :=
    ((sp_fr.up (i := 7) (by omega) (by omega)).tr (sp_fr.up (i := 1) (by omega) (by omega))).tr (sp_fr.up (i := 4) (by omega) (by omega))
  dsimp only
  split
  · exact h3
  · split
    · exact (h3.tr (sp_fr.up (i := 3) (by omega) (by omega))).tr (sp_fr.up (i := 4) (by omega) (by omega))
    · exact (h3.tr (sp_fr.up0 (by omega))).tr sp_fr_goBack
theorem sp_fr_new {t b : Nat} {M : zMem} : sp_fr b M (sp_new t b M) := by
  unfold sp_new
  exact ((((sp_fr.up0 (by omega)).tr (sp_fr.up (i := 1) (by omega) (by omega))).tr (sp_fr.up (i := 3) (by omega) (by omega))).tr (sp_fr.up (i := 4) (by omega) (by omega))).tr (sp_fr.up (i := 5) (by omega) (by omega))
theorem sp_fr_take {t b h : Nat} {M : zMem} : sp_fr b M (sp_take t b h M) := by
  unfold sp_take
  have h5 : sp_fr b M (zup (zup (zup (zup (zup M (b + 1) h 2) (b + 3) h (M (b + 3) (h - 1))) (b + 4) h (M (b + 4) (h - 1))) (b + 5) h (M (b + 5) (h - 1))) b 4 (M b 4 + 1)) :=
    ((((sp_fr.up (i := 1) (by omega) (by omega)).tr (sp_fr.up (i := 3) (by omega) (by omega))).tr (sp_fr.up (i := 4) (by omega) (by omega))).tr (sp_fr.up (i := 5) (by omega) (by omega))).tr (sp_fr.up0 (by omega))
  dsimp only
  split
  · exact h5.tr sp_fr_goBack
  · rename_i g hg
    exact (h5.tr (sp_fr_note hg)).tr sp_fr_goBack
theorem sp_fr_start {t b h : Nat} {M : zMem} : sp_fr b M (sp_start t b h M) := (sp_fr.up (i := 1) (by omega) (by omega)).tr (sp_fr.up (i := 2) (by omega) (by omega))
theorem sp_fr_hand {t b h : Nat} {M M' : zMem} (e : sp_hand t b h M = some M') : sp_fr b M M' := by
  unfold sp_hand at e
  split at e
  · split at e
    · cases e; exact sp_fr_finish
    · split at e
      · split at e
        · cases e; exact sp_fr_new
        · split at e
          · cases e; exact sp_fr_take
          · cases e
      · split at e
        · split at e
          · cases e; exact sp_fr_start
          · cases e
        · cases e
  · cases e
/-- what is told stays told -/
theorem sp_vt.moved {M M' : zMem} {t n H L : Nat} (h : sp_vt M t n H L) (e : ∀ i, i ≤ 4 → M' (t + i) = M (t + i)) : sp_vt M' t n H L := by
  have e0 : M' t = M t := e 0 (by omega)
  unfold sp_vt at h ⊢
  rw [e0, e 1 (by omega), e 2 (by omega), e 3 (by omega), e 4 (by omega)]
  exact h
theorem sp_hd.moved {M M' : zMem} {t b n h : Nat} (hh : sp_hd M t b n h) (e : ∀ i, i ≤ 4 → M' (t + i) = M (t + i)) (q : ∀ i, 1 ≤ i → i ≤ 5 → M' (b + i) h = M (b + i) h) : sp_hd M' t b n h := by
  have e0 : M' t = M t := e 0 (by omega)
  unfold sp_hd at hh ⊢
  rw [e0, e 2 (by omega), e 4 (by omega), q 1 (by omega) (by omega), q 2 (by omega) (by omega), q 3 (by omega) (by omega), q 4 (by omega) (by omega), q 5 (by omega) (by omega)]
  exact hh
theorem sp_hd.piece {M : zMem} {t b n h : Nat} (hh : sp_hd M t b n h) (hn : n ≤ 8) : M (b + 3) h = -1 ∨ ∃ p, p < 8 ∧ M (b + 3) h = nI p := by
  rcases hh with ⟨-, -, a⟩ | ⟨-, -, a⟩ | ⟨p, u, s, U, a1, -, -, -, a5, -⟩
  · exact Or.inl a
  · exact Or.inl a
  · exact Or.inr ⟨p, by omega, a5⟩
theorem sp_hd_goBack {t b h n f k : Nat} {M : zMem} (hd : t + 4 < b) (hf : f ≤ 8) (hk : M t 2 = nI k) (hk5 : k ≤ 5) (hp : 0 < h → M (b + 3) (h - 1) = -1 ∨ ∃ p, p < 8 ∧ M (b + 3) (h - 1) = nI p) : sp_hd (sp_goBack t b h (nI f) M) t b n h := by
  obtain ⟨z, hz, ez⟩ := sp_wl_nn (b := b) hf hk hk5 hp
  unfold sp_goBack sp_hd
  rw [ez]
  by_cases c : z = 0
  · subst c
    left
    simp (disch := omega) [q_lit, q_add, q_mul, q_sub, q_ix, q_in, q_lt, q_le, q_eq, q_nlt, q_nle, q_ltn, q_len, q_neq, q_eqn, zup_ne, zup_eq, zset_ne, zset_eq, upd_eq, upd_ne, forall_eq, true_and, and_true, true_implies, false_implies, implies_true, not_true_eq_false, not_false_eq_true, and_self, ↓reduceIte, false_and, and_false]
  · right; left
    have c2 : 0 < z := by omega
    simp (disch := omega) [q_lit, q_add, q_mul, q_sub, q_ix, q_in, q_lt, q_le, q_eq, q_nlt, q_nle, q_ltn, q_len, q_neq, q_eqn, zup_ne, zup_eq, zset_ne, zset_eq, upd_eq, upd_ne, forall_eq, true_and, and_true, true_implies, false_implies, implies_true, not_true_eq_false, not_false_eq_true, and_self, ↓reduceIte, false_and, and_false, c2]
theorem sp_goBack_at {t b h : Nat} {f : Int32} {M : zMem} {i j : Nat} (h1 : i = 0 ∨ 4 ≤ i ∨ j ≠ h) : sp_goBack t b h f M (b + i) j = M (b + i) j := by
  unfold sp_goBack
  rcases h1 with h1 | h1 | h1
  · subst h1
    simp (disch := omega) only [q_lit, q_add, q_mul, q_sub, q_ix, q_in, q_lt, q_le, q_eq, q_nlt, q_nle, q_ltn, q_len, q_neq, q_eqn, zup_ne, zup_eq, zset_ne, zset_eq, upd_eq, upd_ne, forall_eq, true_and, and_true, true_implies, false_implies, implies_true, not_true_eq_false, not_false_eq_true, and_self, ↓reduceIte, false_and, and_false]
  · simp (disch := omega) only [q_lit, q_add, q_mul, q_sub, q_ix, q_in, q_lt, q_le, q_eq, q_nlt, q_nle, q_ltn, q_len, q_neq, q_eqn, zup_ne, zup_eq, zset_ne, zset_eq, upd_eq, upd_ne, forall_eq, true_and, and_true, true_implies, false_implies, implies_true, not_true_eq_false, not_false_eq_true, and_self, ↓reduceIte, false_and, and_false]
  · by_cases c1 : i = 1
    · subst c1; simp (disch := omega) only [q_lit, q_add, q_mul, q_sub, q_ix, q_in, q_lt, q_le, q_eq, q_nlt, q_nle, q_ltn, q_len, q_neq, q_eqn, zup_ne, zup_eq, zset_ne, zset_eq, upd_eq, upd_ne, forall_eq, true_and, and_true, true_implies, false_implies, implies_true, not_true_eq_false, not_false_eq_true, and_self, ↓reduceIte, false_and, and_false]
    · by_cases c2 : i = 2
      · subst c2; simp (disch := omega) only [q_lit, q_add, q_mul, q_sub, q_ix, q_in, q_lt, q_le, q_eq, q_nlt, q_nle, q_ltn, q_len, q_neq, q_eqn, zup_ne, zup_eq, zset_ne, zset_eq, upd_eq, upd_ne, forall_eq, true_and, and_true, true_implies, false_implies, implies_true, not_true_eq_false, not_false_eq_true, and_self, ↓reduceIte, false_and, and_false]
      · by_cases c3 : i = 3
        · subst c3; simp (disch := omega) only [q_lit, q_add, q_mul, q_sub, q_ix, q_in, q_lt, q_le, q_eq, q_nlt, q_nle, q_ltn, q_len, q_neq, q_eqn, zup_ne, zup_eq, zset_ne, zset_eq, upd_eq, upd_ne, forall_eq, true_and, and_true, true_implies, false_implies, implies_true, not_true_eq_false, not_false_eq_true, and_self, ↓reduceIte, false_and, and_false]
        · simp (disch := omega) only [q_lit, q_add, q_mul, q_sub, q_ix, q_in, q_lt, q_le, q_eq, q_nlt, q_nle, q_ltn, q_len, q_neq, q_eqn, zup_ne, zup_eq, zset_ne, zset_eq, upd_eq, upd_ne, forall_eq, true_and, and_true, true_implies, false_implies, implies_true, not_true_eq_false, not_false_eq_true, and_self, ↓reduceIte, false_and, and_false]
