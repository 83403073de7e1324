theorem ag_clear {b b' H : Nat} {M0 Mc N0 Nc : zMem} (hc : sp_clear b M0 Mc) (hc' : sp_clear b' N0 Nc) (H5 : H ≤ 5) (ht : ∀ i, i ≤ 4 → Mc (1 + i) = Nc (1 + i)) : ag b b' H Mc Nc := by
  obtain ⟨c2, c3, c4, c5, c0, c1, ch, cl, cs, ck⟩ := hc
  obtain ⟨d2, d3, d4, d5, d0, d1, dh, dl, ds, dk⟩ := hc'
  refine ⟨⟨fun j _ => congrFun (ht 0 (by omega)) j, fun j _ => congrFun (ht 1 (by omega)) j, fun j _ => congrFun (ht 2 (by omega)) j, fun j _ => congrFun (ht 3 (by omega)) j, fun j _ => congrFun (ht 4 (by omega)) j⟩, fun j h2 h5 => ?_, fun h hh => ?_, fun j hj => ?_⟩
  · rcases (show j = 2 ∨ j = 3 ∨ j = 4 ∨ j = 5 by omega) with rfl | rfl | rfl | rfl
    · rw [c2, d2]
    · rw [c3, d3]
    · rw [c4, d4]
    · rw [c5, d5]
  · obtain ⟨x1, x2, x3, x4⟩ := ch h (by omega)
    obtain ⟨y1, y2, y3, y4⟩ := dh h (by omega)
    exact ⟨by rw [x1, y1], by rw [x2, y2], by rw [x3, y3], Or.inl x3⟩
  · rw [cl j hj, dl j hj]
