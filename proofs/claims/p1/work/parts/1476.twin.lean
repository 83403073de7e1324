theorem ag.trans {b b' b'' H : Nat} {M N K : zMem} (a : ag b b' H M N) (c : ag b' b'' H N K) : ag b b'' H M K := by
  obtain ⟨⟨t0, t1, t2, t3, t4⟩, a1, a2, a3⟩ := a
  obtain ⟨⟨u0, u1, u2, u3, u4⟩, c1, c2, c3⟩ := c
  refine ⟨⟨fun j hj => (t0 j hj).trans (u0 j hj), fun j hj => (t1 j hj).trans (u1 j hj), fun j hj => (t2 j hj).trans (u2 j hj), fun j hj => (t3 j hj).trans (u3 j hj), fun j hj => (t4 j hj).trans (u4 j hj)⟩, fun j h2 h5 => (a1 j h2 h5).trans (c1 j h2 h5), fun h hh => ?_, fun j hj => (a3 j hj).trans (c3 j hj)⟩
  obtain ⟨d1, d2, d3, d4⟩ := a2 h hh
  obtain ⟨e1, e2, e3, e4⟩ := c2 h hh
  refine ⟨d1.trans e1, d2.trans e2, d3.trans e3, ?_⟩
  rcases d4 with q | q
  · exact Or.inl q
  · rcases e4 with z | z
    · exact Or.inl (by rw [d3]; exact z)
    · exact Or.inr ⟨q.1.trans z.1, q.2.trans z.2⟩
/-- the twin of sp_hand that can be run -/
def sp_handD (t b h : Nat) (M : zMem) : Option zMem :=
  if M (b + 2) h = 0 then
    if M (b + 1) h = 3 then some (sp_finish t b h M)
    else if M (b + 1) h = 0 then (if h = 0 then some (sp_new t b M) else
      (if M (b + 1) (h - 1) = 2 ∧ ¬ (0 < M (b + 4) (h - 1) ∧ ((M t 5 >>> (M (b + 3) (h - 1) &&& 31)) &&& 1) = 1) ∧ ¬ (M t 4 = 2 ∧ M (b + 3) (h - 1) < M (t + 4) (h - 1)) then some (sp_take t b h M) else none))
    else if M (b + 1) h = 2 then (if M (b + 3) h < M (t + 4) h ∧ ¬ (nI (h + 1) < M t 1 ∧ ¬ M (b + 3) (h + 1) < 0 ∧ (M (b + 3) (h + 1) < M (b + 3) h ∨ (M (b + 3) (h + 1) = M (b + 3) h ∧ ¬ M (b + 4) h < M (b + 4) (h + 1)))) then some (sp_start t b h M) else none)
    else none
  else none
theorem sp_handD_eq (t b h : Nat) (M : zMem) : sp_hand t b h M = sp_handD t b h M := by
  unfold sp_hand sp_handD
  by_cases c1 : M (b + 2) h = 0
  · rw [if_pos c1, if_pos c1]
    by_cases c2 : M (b + 1) h = 3
    · rw [if_pos c2, if_pos c2]
    · rw [if_neg c2, if_neg c2]
      by_cases c3 : M (b + 1) h = 0
      · rw [if_pos c3, if_pos c3]
        by_cases c4 : h = 0
        · rw [if_pos c4, if_pos c4]
        · rw [if_neg c4, if_neg c4]
          by_cases c5 : M (b + 1) (h - 1) = 2 ∧ sp_can t b (h - 1) M
          · rw [if_pos c5]; unfold sp_can at c5; rw [if_pos c5]
          · rw [if_neg c5]; unfold sp_can at c5; rw [if_neg c5]
      · rw [if_neg c3, if_neg c3]
        by_cases c4 : M (b + 1) h = 2
        · rw [if_pos c4, if_pos c4]
          by_cases c5 : sp_may t b h M
          · rw [if_pos c5]; unfold sp_may sp_held at c5; rw [if_pos c5]
          · rw [if_neg c5]; unfold sp_may sp_held at c5; rw [if_neg c5]
        · rw [if_neg c4, if_neg c4]
  · rw [if_neg c1, if_neg c1]
