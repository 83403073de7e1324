def sp_roundsD (t b H : Nat) : Nat → zMem → zMem
  | 0, M => M
  | f + 1, M => if (sp_rdD t b H false M).1 = true then sp_roundsD t b H f (sp_rdD t b H false M).2 else (sp_rdD t b H false M).2
theorem sp_roundsD_eq (t b H : Nat) : ∀ f (M : zMem), sp_rounds t b H f M = sp_roundsD t b H f M := by
  intro f
  induction f with
  | zero => intro M; rfl
  | succ f ih =>
    intro M
    unfold sp_rounds sp_roundsD
    rw [sp_rdD_eq, ih]
def sp_allD (t b H : Nat) (M : zMem) : zMem := sp_roundsD t b H (sp_sum (sp_c M b) H + 1) M
theorem sp_allD_eq (t b H : Nat) (M : zMem) : sp_all t b H M = sp_allD t b H M := by
  unfold sp_all sp_allD
  rw [sp_roundsD_eq]
def sp_evD (t b H : Nat) (M : zMem) : zMem := sp_allD t b H (sp_pass b H (sp_least (M (b + 2)) H 0 0) M)
theorem sp_evD_eq (t b H : Nat) (M : zMem) : sp_ev t b H M = sp_evD t b H M := by
  unfold sp_ev sp_evD
  rw [sp_allD_eq]
