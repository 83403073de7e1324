def lm (L : List (List Int32)) : zMem := fun c j => (L.getD c []).getD j 0
def lT : List (List Int32) := [[], [3, 3, 0, 0, 0, 0, 1], [0], [2, 2, 2, 0, 0, 0, 0, 0, 2, 2, 2, 0, 0, 0, 0, 0, 2, 2, 2], [3, 3, 3, 0, 0, 0, 0, 0, 2, 2, 2, 0, 0, 0, 0, 0, 1, 1, 1], [3, 3, 3]]
/-- a bench at 32 -/
def lB (a d l p u : List Int32) (le : List Int32) : List (List Int32) := lT ++ List.replicate 26 [] ++ [[0, 0] ++ a ++ [0], d, l, p, u, [0, 0, 0], [], le]
theorem lm_0 : (sp_handD 1 32 0 (lm (lB [0, 0, 0] [0, 0, 0] [0, 0, 0] [-1, -1, -1] [0, 0, 0] []))).isSome = true ∧ (sp_handD 1 32 1 (lm (lB [0, 0, 0] [0, 0, 0] [0, 0, 0] [-1, -1, -1] [0, 0, 0] []))).isNone = true := by decide +kernel
