/-- what the reference writes down, in the words of the class's bench -/
def sp_mc (b h k : Nat) (M : zMem) : Int32 := if k = 0 then M (b + 1) h else if k = 1 then M (b + 2) h else if 0 ≤ M (b + 3) h then M (b + 1 + k) h else -nI 4
theorem mq_c {t b n H L h k : Nat} {wh : Nat → Nat} {W M : zMem} (r : mr W M 1 t b n H L wh) (hd : sp_hd M t b n h) (hh : h < H) (hk : k < 5) : ms_c W h k = sp_mc b h k M := by
  obtain ⟨r1, r2, -, r4⟩ := r.2.2.2.1 h hh
  have e0 : W 6 (104 + 8 * h) = M (b + 1) h := r1
  have e1 : W 6 (104 + 8 * h + 1) = M (b + 2) h := r2
  unfold ms_c sp_mc
  by_cases k0 : k = 0
  · subst k0
    rw [if_neg (by omega), if_neg (by omega), if_pos rfl, q_x0]
    exact e0
  by_cases k1 : k = 1
  · subst k1
    rw [if_neg (show ¬ (2 ≤ 1 ∧ 1 ≤ 4) by omega), q_x0, if_neg k0, if_pos rfl, e0, e1]
    by_cases c : M (b + 1) h = 3 ∨ M (b + 1) h = 1
    · rw [if_neg (fun z => z.2 c)]
    · rw [if_pos ⟨rfl, c⟩]
      rcases hd with ⟨a1, a2, -⟩ | ⟨a1, -⟩ | ⟨p, u, s, U, -, -, -, -, -, -, -, -, a9, -⟩
      · exact a2.symm
      · exact absurd (Or.inr a1) c
      · rcases a9 with ⟨d1, d2⟩ | ⟨d1, -⟩
        · exact d2.symm
        · exact absurd (Or.inl d1) c
  · rw [if_neg (fun z => k1 z.1), if_pos (by omega), if_neg k0, if_neg k1]
    have hk3 : k = 2 ∨ k = 3 ∨ k = 4 := by omega
    rcases r4 with ⟨p3, w2, w3, w4⟩ | ⟨p, u, s, p1, u1, s1, p3, p4, p5, w2, w3, w4⟩
    · rw [if_neg (by rw [p3]; decide)]
      have : W 6 (104 + 8 * h + k) = nI 0 := by
        rcases hk3 with rfl | rfl | rfl
        · exact w2
        · exact w3
        · exact w4
      rw [this]; exact q_04
    · have c0 : 0 ≤ nI p := nI_le (a := 0) (b := p) (by omega) (by omega)
      rw [p3, if_pos c0]
      rcases hk3 with rfl | rfl | rfl
      · exact (congrArg (· + -nI 4) w2).trans ((q_m4 p).trans p3.symm)
      · exact (congrArg (· + -nI 4) w3).trans ((q_m4 u).trans p4.symm)
      · exact (congrArg (· + -nI 4) w4).trans ((q_m4 s).trans p5.symm)
theorem mq_l {t b n H L h p : Nat} {wh : Nat → Nat} {W M : zMem} (r : mr W M 1 t b n H L wh) (hh : h < H) (hp : p < n) (hl : 0 ≤ M (b + 7) (h * 8 + p)) : ms_l W (wh h) p = sp_cnt t b (h * 8 + p) M := by
  have e1 : W 4 (60 + 8 * wh h + p) = M (t + 3) (h * 8 + p) := r.2.2.1.2.2.1 h p hh hp
  have e2 : W 6 (144 + 8 * wh h + p) = M (b + 7) (h * 8 + p) := r.2.2.1.2.2.2.1 h p hh hp
  have e3 : W 4 3 = M t 3 := r.2.1.2.2.2.1
  unfold ms_l sp_cnt
  rw [e1, e2, e3]
  by_cases c : M t 3 = 0
  · rw [if_pos c, c, Int32.zero_mul, if_pos hl]
  · rw [if_neg c]
theorem mq_l0 {t b n H L h p : Nat} {wh : Nat → Nat} {W M W' M' : zMem} (r : mr W M 1 t b n H L wh) (r' : mr W' M' 1 t b n H L wh) (e4 : W' 4 = W 4) (hh : h < H) (hp : n ≤ p) (p8 : p < 8) : ms_l W (wh h) p = ms_l W' (wh h) p := by
  have e2 : W 6 (144 + 8 * wh h + p) = 0 := r.2.2.1.2.2.2.2 h p hh hp p8
  have e2' : W' 6 (144 + 8 * wh h + p) = 0 := r'.2.2.1.2.2.2.2 h p hh hp p8
  unfold ms_l
  rw [e2, e2', e4]
theorem sp_mc_eq {b h : Nat} {X Y : zMem} (hx : X (b + 3) h = -1 ∨ ∃ p, p < 8 ∧ X (b + 3) h = nI p) (hy : Y (b + 3) h = -1 ∨ ∃ p, p < 8 ∧ Y (b + 3) h = nI p) : (∀ k, k < 5 → sp_mc b h k X = sp_mc b h k Y) ↔ sp_eq1 b h X Y := by
  have v0 : ∀ Z : zMem, sp_mc b h 0 Z = Z (b + 1) h := fun Z => rfl
  have v1 : ∀ Z : zMem, sp_mc b h 1 Z = Z (b + 2) h := fun Z => rfl
  have v2 : ∀ (k : Nat) (Z : zMem), 2 ≤ k → sp_mc b h k Z = if 0 ≤ Z (b + 3) h then Z (b + 1 + k) h else -nI 4 := fun k Z hk => by
    unfold sp_mc
    rw [if_neg (by omega), if_neg (by omega)]
  refine ⟨fun e => ?_, fun ⟨e1, e2, e3, e4⟩ k hk => ?_⟩
  · have f0 := e 0 (by omega)
    have f1 := e 1 (by omega)
    have f2 := e 2 (by omega)
    have f3 := e 3 (by omega)
    have f4 := e 4 (by omega)
    rw [v0, v0] at f0
    rw [v1, v1] at f1
    rw [v2 2 X (by omega), v2 2 Y (by omega)] at f2
    rw [v2 3 X (by omega), v2 3 Y (by omega)] at f3
    rw [v2 4 X (by omega), v2 4 Y (by omega)] at f4
    refine ⟨f0, f1, ?_⟩
    rcases hx with x3 | ⟨p, p8, x3⟩
    · have cx : ¬ 0 ≤ X (b + 3) h := by rw [x3]; decide
      rcases hy with y3 | ⟨p', p8', y3⟩
      · exact ⟨by rw [x3, y3], fun z => absurd z cx⟩
      · have cy : 0 ≤ Y (b + 3) h := by rw [y3]; exact nI_le (a := 0) (b := p') (by omega) (by omega)
        rw [if_neg cx, if_pos cy] at f2
        have f2' : -nI 4 = nI p' := f2.trans y3
        rw [q_eqn (by omega) (by omega) (by omega)] at f2'
        exact f2'.elim
    · have cx : 0 ≤ X (b + 3) h := by rw [x3]; exact nI_le (a := 0) (b := p) (by omega) (by omega)
      rcases hy with y3 | ⟨p', p8', y3⟩
      · have cy : ¬ 0 ≤ Y (b + 3) h := by rw [y3]; decide
        rw [if_pos cx, if_neg cy] at f2
        have f2' : nI p = -nI 4 := x3.symm.trans f2
        rw [q_neq (by omega) (by omega) (by omega)] at f2'
        exact f2'.elim
      · have cy : 0 ≤ Y (b + 3) h := by rw [y3]; exact nI_le (a := 0) (b := p') (by omega) (by omega)
        rw [if_pos cx, if_pos cy] at f2 f3 f4
        exact ⟨f2, fun _ => ⟨f3, f4⟩⟩
  · have hk3 : k = 0 ∨ k = 1 ∨ k = 2 ∨ k = 3 ∨ k = 4 := by omega
    rcases hk3 with rfl | rfl | hk3
    · exact e1
    · exact e2
    · rw [v2 k X (by omega), v2 k Y (by omega), ← e3]
      by_cases c : 0 ≤ X (b + 3) h
      · rw [if_pos c, if_pos c]
        rcases hk3 with rfl | rfl | rfl
        · exact e3
        · exact (e4 c).1
        · exact (e4 c).2
      · rw [if_neg c, if_neg c]
