/-- what the reference holds as told, in the words of a bench of the class -/
def mr_t (W M : zMem) (t n H L : Nat) : Prop :=
  W 4 0 = nI n ∧ W 0 18 = nI H ∧ W 4 2 = M t 2 ∧ W 4 3 = M t 3 ∧ W 0 19 = M t 4 ∧ W 4 5 = M t 5 ∧ W 4 6 = nI L ∧ (∀ i, i < L → W 4 (10 + i) = M (t + 1) i) ∧ (∀ s p, s < 3 → p < n → W 4 (30 + 8 * s + p) = M (t + 2) (s * 8 + p)) ∧ (∀ h, h < H → W 9 h = M (t + 4) h)
/-- who stands where: paces, and what was learnt -/
def mr_w (W M : zMem) (pg t b n H : Nat) (wh : Nat → Nat) : Prop :=
  (∀ h, h < H → wh h < 5 ∧ W 8 h = nI (wh h)) ∧ (∀ h j, h < H → j < H → wh h = wh j → h = j) ∧ (∀ h p, h < H → p < n → W 4 (60 + 8 * wh h + p) = M (t + 3) (h * 8 + p)) ∧ (∀ h p, h < H → p < n → W 6 (96 * pg + 48 + 8 * wh h + p) = M (b + 7) (h * 8 + p)) ∧ (∀ h p, h < H → n ≤ p → p < 8 → W 6 (96 * pg + 48 + 8 * wh h + p) = 0)
def mr_h (W M : zMem) (pg b h : Nat) : Prop :=
  W 6 (96 * pg + 8 + 8 * h) = M (b + 1) h ∧ W 6 (96 * pg + 8 + 8 * h + 1) = M (b + 2) h ∧ W 6 (96 * pg + 8 + 8 * h + 5) = M (b + 6) h ∧
  ((M (b + 3) h = -1 ∧ W 6 (96 * pg + 8 + 8 * h + 2) = nI 0 ∧ W 6 (96 * pg + 8 + 8 * h + 3) = nI 0 ∧ W 6 (96 * pg + 8 + 8 * h + 4) = nI 0) ∨
   (∃ p u s, p < 8 ∧ u < 7 ∧ s < 3 ∧ M (b + 3) h = nI p ∧ M (b + 4) h = nI u ∧ M (b + 5) h = nI s ∧ W 6 (96 * pg + 8 + 8 * h + 2) = nI (p + 4) ∧ W 6 (96 * pg + 8 + 8 * h + 3) = nI (u + 4) ∧ W 6 (96 * pg + 8 + 8 * h + 4) = nI (s + 4)))
def mr_s (W M : zMem) (pg b : Nat) : Prop := W 6 (96 * pg) = M b 2 ∧ W 6 (96 * pg + 1) = M b 3 ∧ W 6 (96 * pg + 2) = M b 4 ∧ W 6 (96 * pg + 4) = M b 5
/-- the handings over of a run, where the class keeps them -/
def mr_g (W M : zMem) (pg b : Nat) : Prop := pg = 1 → b = 32 → ∃ o, o < 2147483648 ∧ M b 4 = nI o ∧ M 30 0 = nI (if o < 600 then o else 600) ∧ ∀ j, j < 5 * o → j < 3000 → W 10 j = M 31 j
def mr (W M : zMem) (pg t b n H L : Nat) (wh : Nat → Nat) : Prop := pg < 4 ∧ mr_t W M t n H L ∧ mr_w W M pg t b n H wh ∧ (∀ h, h < H → mr_h W M pg b h) ∧ mr_s W M pg b ∧ mr_g W M pg b
/-- what the reference may change at a page -/
def mfr (pg : Nat) (W W' : zMem) : Prop := (∀ k, k ≠ 6 → k ≠ 10 → W' k = W k) ∧ (∀ j, (j < 96 * pg ∨ 96 * pg + 96 ≤ j) → W' 6 j = W 6 j) ∧ (pg ≠ 1 → W' 10 = W 10) ∧ (∀ H h, W 0 18 = nI H → H ≤ h → h < 5 → W' 6 (96 * pg + 8 + 8 * h + 2) = W 6 (96 * pg + 8 + 8 * h + 2))
theorem mfr.rf {pg : Nat} {W : zMem} : mfr pg W W := ⟨fun _ _ _ => rfl, fun _ _ => rfl, fun _ => rfl, fun _ _ _ _ _ => rfl⟩
theorem mfr.tr {pg : Nat} {W W1 W2 : zMem} (h1 : mfr pg W W1) (h2 : mfr pg W1 W2) : mfr pg W W2 := ⟨fun k a b => (h2.1 k a b).trans (h1.1 k a b), fun j a => (h2.2.1 j a).trans (h1.2.1 j a), fun a => (h2.2.2.1 a).trans (h1.2.2.1 a), fun H h a b c => (h2.2.2.2 H h (by rw [h1.1 0 (by omega) (by omega)]; exact a) b c).trans (h1.2.2.2 H h a b c)⟩
/-- a slot of the bench's own -/
theorem mfr.upo {pg i : Nat} {x : Int32} {W : zMem} (hi : i < 96) (ho : i < 10 ∨ 48 ≤ i) : mfr pg W (zup W 6 (96 * pg + i) x) := ⟨fun k a _ => zup_ne a, fun j a => by rw [zup_eq, upd_ne (by omega)], fun _ => zup_ne (by omega), fun H h _ _ _ => by rw [zup_eq, upd_ne (by omega)]⟩
/-- a slot of a hand -/
theorem mfr.uph {pg h w H : Nat} {x : Int32} {W : zMem} (e : W 0 18 = nI H) (H5 : H ≤ 5) (hh : h < H) (hw : w < 8) : mfr pg W (zup W 6 (96 * pg + (8 + 8 * h + w)) x) := ⟨fun k a _ => zup_ne a, fun j a => by rw [zup_eq, upd_ne (by omega)], fun _ => zup_ne (by omega), fun H' h' a b c => by
  have := (nI_eq (a := H') (b := H) (by omega) (by omega)).mp (a.symm.trans e)
  rw [zup_eq, upd_ne (by omega)]⟩
theorem mr_t.moved {W W' M M' : zMem} {pg t b n H L : Nat} (h : mr_t W M t n H L) (f : mfr pg W W') (e : ∀ i, i ≤ 4 → M' (t + i) = M (t + i)) : mr_t W' M' t n H L := by
  have e0 : M' t = M t := e 0 (by omega)
  unfold mr_t at h ⊢
  rw [f.1 4 (by omega) (by omega), f.1 0 (by omega) (by omega), f.1 9 (by omega) (by omega), e0, e 1 (by omega), e 2 (by omega), e 4 (by omega)]
  exact h
theorem mr_w.moved {W W' M M' : zMem} {pg t b n H : Nat} {wh : Nat → Nat} (h : mr_w W M pg t b n H wh) (f : mfr pg W W') (e : M' (t + 3) = M (t + 3)) (q : ∀ h p, h < H → p < n → W' 6 (96 * pg + 48 + 8 * wh h + p) = M' (b + 7) (h * 8 + p)) (q2 : ∀ h p, h < H → n ≤ p → p < 8 → W' 6 (96 * pg + 48 + 8 * wh h + p) = W 6 (96 * pg + 48 + 8 * wh h + p)) : mr_w W' M' pg t b n H wh := by
  obtain ⟨h1, h2, h3, -, h5⟩ := h
  refine ⟨?_, h2, ?_, q, fun h p a c d => (q2 h p a c d).trans (h5 h p a c d)⟩
  · rw [f.1 8 (by omega) (by omega)]; exact h1
  · rw [f.1 4 (by omega) (by omega), e]; exact h3
theorem mr_h.moved {W W' M M' : zMem} {pg b h : Nat} (hh : mr_h W M pg b h) (q : ∀ i, i ≤ 5 → W' 6 (96 * pg + 8 + 8 * h + i) = W 6 (96 * pg + 8 + 8 * h + i)) (e : ∀ i, 1 ≤ i → i ≤ 6 → M' (b + i) h = M (b + i) h) : mr_h W' M' pg b h := by
  have q0 : W' 6 (96 * pg + 8 + 8 * h) = W 6 (96 * pg + 8 + 8 * h) := q 0 (by omega)
  unfold mr_h at hh ⊢
  rw [q0, q 1 (by omega), q 2 (by omega), q 3 (by omega), q 4 (by omega), q 5 (by omega), e 1 (by omega) (by omega), e 2 (by omega) (by omega), e 3 (by omega) (by omega), e 4 (by omega) (by omega), e 5 (by omega) (by omega), e 6 (by omega) (by omega)]
  exact hh
/-- the reference's going back -/
def mp_goes (pg h : Nat) (z : Int32) (d : Int32) (W : zMem) : zMem := zup (zup (zup (zup (zup W 6 (96 * pg + 8 + 8 * h) d) 6 (96 * pg + 8 + 8 * h + 1) z) 6 (96 * pg + 8 + 8 * h + 2) (nI 0)) 6 (96 * pg + 8 + 8 * h + 3) (nI 0)) 6 (96 * pg + 8 + 8 * h + 4) (nI 0)
theorem mt_goes38 {pg h : Nat} {fr : Int32} {z : Nat} {W : zMem} {Q : zMem → Prop} (hp : pg < 4) (hh : h < 5) (hz : z < 2147483648) (hQ : Q (mp_goes pg h (nI z) (if 0 < nI z then 1 else 0) W)) : wpJ_Model_goesBack_38 (nI pg) (nI h) fr Q (nI z) W := by
  unfold wpJ_Model_goesBack_38
  unfold mp_goes at hQ
  by_cases c : 0 < z
  · have c1 : 0 < nI z := (nI_0lt hz).mpr c
    rw [if_pos c1] at hQ
    refine ⟨fun q => absurd q (by rw [Int32.not_le]; exact c1), fun _ => ?_⟩
    simp (disch := omega) [q_lit, e_put, q_44, q_s0] at hQ ⊢
    exact hQ
  · have c1 : ¬ 0 < nI z := fun q => c ((nI_0lt hz).mp q)
    rw [if_neg c1] at hQ
    refine ⟨fun _ => ?_, fun q => absurd (by rw [← Int32.not_lt]; exact c1) q⟩
    simp (disch := omega) [q_lit, e_put, q_44, q_s0] at hQ ⊢
    exact hQ
