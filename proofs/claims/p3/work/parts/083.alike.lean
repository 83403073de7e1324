/-- two benches that a record can't tell apart -/
def sp_eq1 (b h : Nat) (X Y : zMem) : Prop := X (b + 1) h = Y (b + 1) h ∧ X (b + 2) h = Y (b + 2) h ∧ X (b + 3) h = Y (b + 3) h ∧ (0 ≤ X (b + 3) h → X (b + 4) h = Y (b + 4) h ∧ X (b + 5) h = Y (b + 5) h)
def sp_same (t b n H : Nat) (X Y : zMem) : Prop := X b 5 = Y b 5 ∧ (∀ h, h < H → sp_eq1 b h X Y) ∧ (∀ h p, h < H → p < n → sp_cnt t b (h * 8 + p) X = sp_cnt t b (h * 8 + p) Y)
/-- a hand's number, as a number -/
theorem sp_num_nI {t b n h : Nat} {M : zMem} (hd : sp_hd M t b n h) (n8 : n ≤ 8) (hl : ∃ l, l ≤ 40 ∧ M (b + 2) h = nI l) :
    ∃ c l d, l ≤ 40 ∧ d < 4 ∧ M (b + 2) h = nI l ∧ M (b + 1) h = nI d ∧ sp_num b h M = nI ((c * 100 + l) * 10 + d) ∧ ((c = 0 ∧ M (b + 3) h = -1) ∨ ∃ p u s, p < 8 ∧ u < 7 ∧ s < 3 ∧ c = (p + 1) * 100 + u * 10 + s ∧ M (b + 3) h = nI p ∧ M (b + 4) h = nI u ∧ M (b + 5) h = nI s) := by
  obtain ⟨l, l1, l2⟩ := hl
  have none : ∀ d, d < 4 → M (b + 1) h = nI d → M (b + 3) h = -1 → sp_num b h M = nI ((0 * 100 + l) * 10 + d) := fun d hd e1 e3 => by
    unfold sp_num
    rw [if_neg (by rw [e3]; decide), e1, l2]
    simp only [q_lit, q_mul, q_add]
  rcases hd with ⟨a1, -, a3⟩ | ⟨a1, -, a3⟩ | ⟨p, u, s, U, a1, a2, a3, a4, a5, a6, a7, -, a9, -⟩
  · exact ⟨0, l, 0, l1, by omega, l2, a1, none 0 (by omega) a1 a3, Or.inl ⟨rfl, a3⟩⟩
  · exact ⟨0, l, 1, l1, by omega, l2, a1, none 1 (by omega) a1 a3, Or.inl ⟨rfl, a3⟩⟩
  · have key : ∀ d, d < 4 → M (b + 1) h = nI d → sp_num b h M = nI ((((p + 1) * 100 + u * 10 + s) * 100 + l) * 10 + d) := fun d hd e1 => by
      unfold sp_num
      have c0 : 0 ≤ nI p := nI_le (a := 0) (b := p) (by omega) (by omega)
      rw [a5, if_pos c0, a6, a7, e1, l2]
      simp only [q_lit, q_mul, q_add]
    rcases a9 with ⟨d1, -⟩ | ⟨d1, -⟩
    · exact ⟨_, l, 2, l1, by omega, l2, d1, key 2 (by omega) d1, Or.inr ⟨p, u, s, by omega, by omega, a2, rfl, a5, a6, a7⟩⟩
    · exact ⟨_, l, 3, l1, by omega, l2, d1, key 3 (by omega) d1, Or.inr ⟨p, u, s, by omega, by omega, a2, rfl, a5, a6, a7⟩⟩
theorem sp_num_eq {t b n h : Nat} {X Y : zMem} (hx : sp_hd X t b n h) (hy : sp_hd Y t b n h) (n8 : n ≤ 8) (lx : ∃ l, l ≤ 40 ∧ X (b + 2) h = nI l) (ly : ∃ l, l ≤ 40 ∧ Y (b + 2) h = nI l) : sp_num b h X = sp_num b h Y ↔ sp_eq1 b h X Y := by
  refine ⟨fun e => ?_, fun ⟨e1, e2, e3, e4⟩ => ?_⟩
  · obtain ⟨c, l, d, l1, d1, x2, x1, xn, xc⟩ := sp_num_nI hx n8 lx
    obtain ⟨c', l', d', l1', d1', y2, y1, yn, yc⟩ := sp_num_nI hy n8 ly
    rw [xn, yn] at e
    have cb : c < 1000 := by rcases xc with ⟨h, -⟩ | ⟨p, u, s, p1, u1, s1, h, -⟩ <;> omega
    have cb' : c' < 1000 := by rcases yc with ⟨h, -⟩ | ⟨p, u, s, p1, u1, s1, h, -⟩ <;> omega
    have e' := (nI_eq (by omega) (by omega)).mp e
    have ed : d = d' := by omega
    have el : l = l' := by omega
    have ec : c = c' := by omega
    refine ⟨by rw [x1, y1, ed], by rw [x2, y2, el], ?_⟩
    rcases xc with ⟨h, x3⟩ | ⟨p, u, s, p1, u1, s1, h, x3, x4, x5⟩
    · rcases yc with ⟨h', y3⟩ | ⟨p', u', s', p1', u1', s1', h', y3, y4, y5⟩
      · exact ⟨by rw [x3, y3], fun z => absurd z (by rw [x3]; decide)⟩
      · omega
    · rcases yc with ⟨h', y3⟩ | ⟨p', u', s', p1', u1', s1', h', y3, y4, y5⟩
      · omega
      · have ep : p = p' := by omega
        have eu : u = u' := by omega
        have es : s = s' := by omega
        exact ⟨by rw [x3, y3, ep], fun _ => ⟨by rw [x4, y4, eu], by rw [x5, y5, es]⟩⟩
  · unfold sp_num
    rw [← e1, ← e2, ← e3]
    by_cases c : 0 ≤ X (b + 3) h
    · rw [if_pos c, if_pos c, ← (e4 c).1, ← (e4 c).2]
    · rw [if_neg c, if_neg c]
theorem sp_row_h {t b n H h : Nat} {M : zMem} (hh : h < H) (H5 : H ≤ 5) : sp_row t b n H M (h + 1) = sp_num b h M := by
  have c1 : ¬ h + 1 = 0 := by omega
  have c2 : h + 1 < 6 := by omega
  unfold sp_row
  rw [if_neg c1, if_pos c2, Nat.add_sub_cancel, if_pos hh]
theorem sp_row_p {t b n H h p : Nat} {M : zMem} (hh : h < H) (hp : p < n) (n8 : n ≤ 8) : sp_row t b n H M (6 + (h * 8 + p)) = sp_cnt t b (h * 8 + p) M := by
  have c1 : ¬ 6 + (h * 8 + p) = 0 := by omega
  have c2 : ¬ 6 + (h * 8 + p) < 6 := by omega
  have c3 : (h * 8 + p) / 8 < H ∧ (h * 8 + p) % 8 < n := by omega
  unfold sp_row
  rw [if_neg c1, if_neg c2, Nat.add_sub_cancel_left, if_pos c3]
/-- records are the same just if the benches are -/
theorem sp_row_eq {t b n H : Nat} {X Y : zMem} (n8 : n ≤ 8) (H5 : H ≤ 5) (hx : ∀ h, h < H → sp_hd X t b n h) (hy : ∀ h, h < H → sp_hd Y t b n h) (lx : ∀ h, h < H → ∃ l, l ≤ 40 ∧ X (b + 2) h = nI l) (ly : ∀ h, h < H → ∃ l, l ≤ 40 ∧ Y (b + 2) h = nI l) : (∀ i, i < 46 → sp_row t b n H X i = sp_row t b n H Y i) ↔ sp_same t b n H X Y := by
  refine ⟨fun e => ⟨?_, fun h hh => ?_, fun h p hh hp => ?_⟩, fun ⟨e1, e2, e3⟩ i hi => ?_⟩
  · have := e 0 (by omega)
    unfold sp_row at this
    rw [if_pos rfl, if_pos rfl] at this
    exact this
  · have := e (h + 1) (by omega)
    rw [sp_row_h hh H5, sp_row_h hh H5] at this
    exact (sp_num_eq (hx h hh) (hy h hh) n8 (lx h hh) (ly h hh)).mp this
  · have := e (6 + (h * 8 + p)) (by omega)
    rw [sp_row_p hh hp n8, sp_row_p hh hp n8] at this
    exact this
  · unfold sp_row
    by_cases c0 : i = 0
    · rw [if_pos c0, if_pos c0]; exact e1
    · rw [if_neg c0, if_neg c0]
      by_cases c6 : i < 6
      · rw [if_pos c6, if_pos c6]
        by_cases ch : i - 1 < H
        · rw [if_pos ch, if_pos ch]
          exact (sp_num_eq (hx _ ch) (hy _ ch) n8 (lx _ ch) (ly _ ch)).mpr (e2 _ ch)
        · rw [if_neg ch, if_neg ch]
      · rw [if_neg c6, if_neg c6]
        by_cases ch : (i - 6) / 8 < H ∧ (i - 6) % 8 < n
        · rw [if_pos ch, if_pos ch]
          have := e3 _ _ ch.1 ch.2
          rw [show (i - 6) / 8 * 8 + (i - 6) % 8 = i - 6 by omega] at this
          exact this
        · rw [if_neg ch, if_neg ch]
