def sp_rdD (t b : Nat) : Nat → Bool → zMem → Bool × zMem
  | 0, s, M => (s, M)
  | h + 1, s, M => match sp_handD t b h M with
    | some M' => sp_rdD t b h true M'
    | none => sp_rdD t b h s M
theorem sp_rdD_eq (t b : Nat) : ∀ h (s : Bool) (M : zMem), sp_rd t b h s M = sp_rdD t b h s M := by
  intro h
  induction h with
  | zero => intro s M; rfl
  | succ h ih =>
    intro s M
    unfold sp_rd sp_rdD
    rw [sp_handD_eq]
    cases sp_handD t b h M with
    | none => exact ih s M
    | some M' => exact ih true M'
theorem lm_1 : (sp_rdD 1 32 3 false (lm (lB [0, 0, 0] [0, 0, 0] [0, 0, 0] [-1, -1, -1] [0, 0, 0] []))).1 = true ∧ (sp_rdD 1 32 3 false (lm (lB [0, 0, 0] [0, 0, 0] [0, 0, 0] [-1, -1, -1] [0, 0, 0] []))).2 33 0 = 2 := by decide +kernel
theorem lm_2 : (sp_rdD 1 32 3 false (sp_rdD 1 32 3 false (lm (lB [0, 0, 0] [0, 0, 0] [0, 0, 0] [-1, -1, -1] [0, 0, 0] []))).2).2 33 1 = 2 := by decide +kernel
theorem lm_3 : (sp_rdD 1 32 3 false (sp_rdD 1 32 3 false (sp_rdD 1 32 3 false (lm (lB [0, 0, 0] [0, 0, 0] [0, 0, 0] [-1, -1, -1] [0, 0, 0] []))).2).2).2 33 2 = 2 := by decide +kernel
