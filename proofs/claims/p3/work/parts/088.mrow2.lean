/-- what the reference has seen is the same just if the benches are -/
theorem mq_row_eq {t b n H L r1 r2 : Nat} {wh : Nat → Nat} {V W1 W2 X Y : zMem} (n8 : n ≤ 8) (ra : mr W1 X 1 t b n H L wh) (rb : mr W2 Y 1 t b n H L wh) (e4 : W2 4 = W1 4) (ox : ∀ h, h < H → sp_hd X t b n h) (oy : ∀ h, h < H → sp_hd Y t b n h)
    (lx : ∀ j, j < 40 → 0 ≤ X (b + 7) j) (ly : ∀ j, j < 40 → 0 ≤ Y (b + 7) j) (H5 : H ≤ 5)
    (a1 : ∀ h k, h < H → k < 5 → V 12 (80 * r1 + (5 * h + k)) = ms_c W1 h k) (a2 : ∀ h p, h < H → p < 8 → V 12 (80 * r1 + (30 + 8 * h + p)) = ms_l W1 (wh h) p) (a3 : V 12 (80 * r1 + 25) = W1 6 100) (a4 : ∀ i, (5 * H ≤ i ∧ i < 25) ∨ (26 ≤ i ∧ i < 30) → V 12 (80 * r1 + i) = 0)
    (b1 : ∀ h k, h < H → k < 5 → V 12 (80 * r2 + (5 * h + k)) = ms_c W2 h k) (b2 : ∀ h p, h < H → p < 8 → V 12 (80 * r2 + (30 + 8 * h + p)) = ms_l W2 (wh h) p) (b3 : V 12 (80 * r2 + 25) = W2 6 100) (b4 : ∀ i, (5 * H ≤ i ∧ i < 25) ∨ (26 ≤ i ∧ i < 30) → V 12 (80 * r2 + i) = 0) :
    (∀ k, k < 30 + 8 * H → V 12 (80 * r1 + k) = V 12 (80 * r2 + k)) ↔ sp_same t b n H X Y := by
  have pa : W1 6 100 = X b 5 := ra.2.2.2.2.1.2.2.2
  have pb : W2 6 100 = Y b 5 := rb.2.2.2.2.1.2.2.2
  refine ⟨fun e => ⟨?_, fun h hh => ?_, fun h p hh hp => ?_⟩, fun ⟨e1, e2, e3⟩ i hi => ?_⟩
  · have := e 25 (by omega)
    rw [a3, b3, pa, pb] at this
    exact this
  · refine (sp_mc_eq ((ox h hh).piece n8) ((oy h hh).piece n8)).mp (fun k hk => ?_)
    have := e (5 * h + k) (by omega)
    rw [a1 h k hh hk, b1 h k hh hk, mq_c ra (ox h hh) hh hk, mq_c rb (oy h hh) hh hk] at this
    exact this
  · have := e (30 + 8 * h + p) (by omega)
    rw [a2 h p hh (by omega), b2 h p hh (by omega), mq_l ra hh hp (lx _ (by omega)), mq_l rb hh hp (ly _ (by omega))] at this
    exact this
  · by_cases c1 : i < 5 * H
    · have hh : i / 5 < H := by omega
      have hk : i % 5 < 5 := by omega
      have ei : i = 5 * (i / 5) + i % 5 := by omega
      rw [ei, a1 _ _ hh hk, b1 _ _ hh hk, mq_c ra (ox _ hh) hh hk, mq_c rb (oy _ hh) hh hk]
      exact (sp_mc_eq ((ox _ hh).piece n8) ((oy _ hh).piece n8)).mpr (e2 _ hh) _ hk
    · by_cases c2 : i < 30
      · by_cases c3 : i = 25
        · rw [c3, a3, b3, pa, pb]; exact e1
        · rw [a4 i (by omega), b4 i (by omega)]
      · have hh : (i - 30) / 8 < H := by omega
        have ei : i = 30 + 8 * ((i - 30) / 8) + (i - 30) % 8 := by omega
        have hp : (i - 30) % 8 < 8 := by omega
        rw [ei, a2 _ _ hh hp, b2 _ _ hh hp]
        by_cases c4 : (i - 30) % 8 < n
        · rw [mq_l ra hh c4 (lx _ (by omega)), mq_l rb hh c4 (ly _ (by omega))]
          exact e3 _ _ hh c4
        · exact mq_l0 ra rb e4 hh (by omega) hp
