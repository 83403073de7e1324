/-- the class's cells -/
def zshL (ar : Nat → ClassId) (b : Nat) : List ((Nat → Int32) → va_E) := [fun f => .inr (10, [.ref (b + 1), .ref (b + 6), .ref (b + 11), .ref (b + 18), .ref (b + 27), .ref (b + 28), .ref (b + 29), .ref (b + 41), .ref (b + 54), .ref (b + 55), .ref (b + 56), .ref (b + 60), .ref (b + 62), .int (f 13)]),
  fun f => .inr (9, [.int (f 0), .int (f 1), .int (f 2), .int (f 3), .int (f 4), .int (f 5), .int (f 6), .ref (b + 2), .ref (b + 3), .ref (b + 4), .ref (b + 5)]),
  fun f => .inl (ar 1, 6, .inl f),
  fun f => .inl (ar 1, 24, .inl f),
  fun f => .inl (ar 1, 40, .inl f),
  fun f => .inl (ar 1, 5, .inl f),
  fun f => .inr (9, [.int (f 0), .int (f 1), .int (f 2), .int (f 3), .int (f 4), .int (f 5), .int (f 6), .ref (b + 7), .ref (b + 8), .ref (b + 9), .ref (b + 10)]),
  fun f => .inl (ar 1, 6, .inl f),
  fun f => .inl (ar 1, 24, .inl f),
  fun f => .inl (ar 1, 40, .inl f),
  fun f => .inl (ar 1, 5, .inl f),
  fun f => .inr (5, [.ref (b + 12), .int (f 1), .int (f 2), .int (f 3), .ref (b + 17), .int (f 5), .int (f 6), .int (f 7), .int (f 8), .int (f 9), .int (f 10), .int (f 11), .int (f 12), .int (f 13)]),
  fun f => .inr (9, [.int (f 0), .int (f 1), .int (f 2), .int (f 3), .int (f 4), .int (f 5), .int (f 6), .ref (b + 13), .ref (b + 14), .ref (b + 15), .ref (b + 16)]),
  fun f => .inl (ar 1, 6, .inl f),
  fun f => .inl (ar 1, 24, .inl f),
  fun f => .inl (ar 1, 40, .inl f),
  fun f => .inl (ar 1, 5, .inl f),
  fun f => .inl (ar 0, 400, .inl f),
  fun f => .inr (0, [.ref (b + ztc (f 0)), va_rf ((zlg 18).map (fun q => b + q)), .int (f 2), .int (f 3), .int (f 4), .int (f 5), .ref (b + 19), .ref (b + 20), .ref (b + 21), .ref (b + 22), .ref (b + 23), .ref (b + 24), .ref (b + 25), .ref (b + 26)]),
  fun f => .inl (ar 1, 5, .inl f),
  fun f => .inl (ar 1, 5, .inl f),
  fun f => .inl (ar 1, 5, .inl f),
  fun f => .inl (ar 1, 5, .inl f),
  fun f => .inl (ar 1, 5, .inl f),
  fun f => .inl (ar 1, 5, .inl f),
  fun f => .inl (ar 1, 40, .inl f),
  fun f => .inl (ar 1, 8, .inl f),
  fun _ => .inl (ar 3, 2, .inr (.inr (.inr (.inr (fun j => some (b + (63 + 9 * j))))))),
  fun f => .inl (ar 2, 2, .inl f),
  fun f => .inr (1, [.ref (b + 30), .ref (b + 32), .int (f 2), .int (f 3)]),
  fun f => .inr (2, [.int (f 0), .ref (b + 31)]),
  fun f => .inl (ar 1, 3000, .inl f),
  fun f => .inr (0, [.ref (b + ztc (f 0)), va_rf ((zlg 32).map (fun q => b + q)), .int (f 2), .int (f 3), .int (f 4), .int (f 5), .ref (b + 33), .ref (b + 34), .ref (b + 35), .ref (b + 36), .ref (b + 37), .ref (b + 38), .ref (b + 39), .ref (b + 40)]),
  fun f => .inl (ar 1, 5, .inl f),
  fun f => .inl (ar 1, 5, .inl f),
  fun f => .inl (ar 1, 5, .inl f),
  fun f => .inl (ar 1, 5, .inl f),
  fun f => .inl (ar 1, 5, .inl f),
  fun f => .inl (ar 1, 5, .inl f),
  fun f => .inl (ar 1, 40, .inl f),
  fun f => .inl (ar 1, 8, .inl f),
  fun f => .inr (7, [.ref (b + 45), .int (f 1), .ref (b + 42), .ref (b + 43), .ref (b + 44)]),
  fun f => .inl (ar 1, 5520, .inl f),
  fun f => .inl (ar 1, 120, .inl f),
  fun f => .inl (ar 1, 120, .inl f),
  fun f => .inr (0, [.ref (b + ztc (f 0)), va_rf ((zlg 45).map (fun q => b + q)), .int (f 2), .int (f 3), .int (f 4), .int (f 5), .ref (b + 46), .ref (b + 47), .ref (b + 48), .ref (b + 49), .ref (b + 50), .ref (b + 51), .ref (b + 52), .ref (b + 53)]),
  fun f => .inl (ar 1, 5, .inl f),
  fun f => .inl (ar 1, 5, .inl f),
  fun f => .inl (ar 1, 5, .inl f),
  fun f => .inl (ar 1, 5, .inl f),
  fun f => .inl (ar 1, 5, .inl f),
  fun f => .inl (ar 1, 5, .inl f),
  fun f => .inl (ar 1, 40, .inl f),
  fun f => .inl (ar 1, 8, .inl f),
  fun f => .inr (6, [.int (f 0), .int (f 1), .int (f 2), .int (f 3), .int (f 4), .int (f 5), .int (f 6), .int (f 7)]),
  fun f => .inr (6, [.int (f 0), .int (f 1), .int (f 2), .int (f 3), .int (f 4), .int (f 5), .int (f 6), .int (f 7)]),
  fun _ => .inr (3, [.ref (b + 57), .ref (b + 58), .ref (b + 59)]),
  fun f => .inl (ar 1, 120, .inl f),
  fun f => .inl (ar 1, 120, .inl f),
  fun f => .inl (ar 1, 5, .inl f),
  fun f => .inr (4, [.int (f 0), .int (f 1), .int (f 2), .ref (b + 61)]),
  fun f => .inl (ar 1, 5, .inl f),
  fun _ => .inl (ar 4, 4, .inr (.inr (.inr (.inr (fun j => some (b + (81 + 2 * j))))))),
  fun f => .inr (0, [.ref (b + ztc (f 0)), va_rf ((zlg 63).map (fun q => b + q)), .int (f 2), .int (f 3), .int (f 4), .int (f 5), .ref (b + 64), .ref (b + 65), .ref (b + 66), .ref (b + 67), .ref (b + 68), .ref (b + 69), .ref (b + 70), .ref (b + 71)]),
  fun f => .inl (ar 1, 5, .inl f),
  fun f => .inl (ar 1, 5, .inl f),
  fun f => .inl (ar 1, 5, .inl f),
  fun f => .inl (ar 1, 5, .inl f),
  fun f => .inl (ar 1, 5, .inl f),
  fun f => .inl (ar 1, 5, .inl f),
  fun f => .inl (ar 1, 40, .inl f),
  fun f => .inl (ar 1, 8, .inl f),
  fun f => .inr (0, [.ref (b + ztc (f 0)), va_rf ((zlg 72).map (fun q => b + q)), .int (f 2), .int (f 3), .int (f 4), .int (f 5), .ref (b + 73), .ref (b + 74), .ref (b + 75), .ref (b + 76), .ref (b + 77), .ref (b + 78), .ref (b + 79), .ref (b + 80)]),
  fun f => .inl (ar 1, 5, .inl f),
  fun f => .inl (ar 1, 5, .inl f),
  fun f => .inl (ar 1, 5, .inl f),
  fun f => .inl (ar 1, 5, .inl f),
  fun f => .inl (ar 1, 5, .inl f),
  fun f => .inl (ar 1, 5, .inl f),
  fun f => .inl (ar 1, 40, .inl f),
  fun f => .inl (ar 1, 8, .inl f),
  fun f => .inr (8, [.int (f 0), .int (f 1), .ref (b + 82)]),
  fun f => .inl (ar 1, 40, .inl f),
  fun f => .inr (8, [.int (f 0), .int (f 1), .ref (b + 84)]),
  fun f => .inl (ar 1, 40, .inl f),
  fun f => .inr (8, [.int (f 0), .int (f 1), .ref (b + 86)]),
  fun f => .inl (ar 1, 40, .inl f),
  fun f => .inr (8, [.int (f 0), .int (f 1), .ref (b + 88)]),
  fun f => .inl (ar 1, 40, .inl f)]
def zshC (ar : Nat → ClassId) (b c : Nat) : (Nat → Int32) → va_E := (zshL ar b).getD c (fun _ => .inr (0, []))
def zM0 : zMem := fun c j => if c = 45 ∧ j = 0 then 1 else if (c = 81 ∨ c = 83 ∨ c = 85 ∨ c = 87) ∧ j = 0 then -1 else 0
abbrev zwC (w : zWd) : zWd := zwn w (zshC w.2.1 w.2.2.2.1) 89
theorem zi_t1 (w : zWd) : zI_Told (zwC w) 1 := ⟨⟨Nat.le_of_ble_eq_true rfl, fun _ => rfl⟩, ⟨Nat.le_of_ble_eq_true rfl, fun _ => rfl⟩, ⟨Nat.le_of_ble_eq_true rfl, fun _ => rfl⟩, ⟨Nat.le_of_ble_eq_true rfl, fun _ => rfl⟩, ⟨Nat.le_of_ble_eq_true rfl, fun _ => rfl⟩⟩
theorem zi_t6 (w : zWd) : zI_Told (zwC w) 6 := ⟨⟨Nat.le_of_ble_eq_true rfl, fun _ => rfl⟩, ⟨Nat.le_of_ble_eq_true rfl, fun _ => rfl⟩, ⟨Nat.le_of_ble_eq_true rfl, fun _ => rfl⟩, ⟨Nat.le_of_ble_eq_true rfl, fun _ => rfl⟩, ⟨Nat.le_of_ble_eq_true rfl, fun _ => rfl⟩⟩
theorem zi_t12 (w : zWd) : zI_Told (zwC w) 12 := ⟨⟨Nat.le_of_ble_eq_true rfl, fun _ => rfl⟩, ⟨Nat.le_of_ble_eq_true rfl, fun _ => rfl⟩, ⟨Nat.le_of_ble_eq_true rfl, fun _ => rfl⟩, ⟨Nat.le_of_ble_eq_true rfl, fun _ => rfl⟩, ⟨Nat.le_of_ble_eq_true rfl, fun _ => rfl⟩⟩
theorem zi_tc (w : zWd) : ∀ x, zI_Told (zwC w) (ztc x) := fun x => by unfold ztc; split <;> first | exact zi_t6 w | exact zi_t1 w
theorem zi_h30 (w : zWd) : zI_Handings (zwC w) 30 := ⟨⟨Nat.le_of_ble_eq_true rfl, fun _ => rfl⟩, ⟨Nat.le_of_ble_eq_true rfl, fun _ => rfl⟩⟩
theorem zi_b18 (w : zWd) : zI_Bench (zwC w) 18 := ⟨⟨Nat.le_of_ble_eq_true rfl, fun _ => rfl⟩, ⟨Nat.le_of_ble_eq_true rfl, fun _ => rfl⟩, ⟨Nat.le_of_ble_eq_true rfl, fun _ => rfl⟩, ⟨Nat.le_of_ble_eq_true rfl, fun _ => rfl⟩, ⟨Nat.le_of_ble_eq_true rfl, fun _ => rfl⟩, ⟨Nat.le_of_ble_eq_true rfl, fun _ => rfl⟩, ⟨Nat.le_of_ble_eq_true rfl, fun _ => rfl⟩, ⟨Nat.le_of_ble_eq_true rfl, fun _ => rfl⟩, ⟨Nat.le_of_ble_eq_true rfl, fun _ => rfl⟩, zi_tc w, fun g h => by cases h⟩
theorem zi_b32 (w : zWd) : zI_Bench (zwC w) 32 := ⟨⟨Nat.le_of_ble_eq_true rfl, fun _ => rfl⟩, ⟨Nat.le_of_ble_eq_true rfl, fun _ => rfl⟩, ⟨Nat.le_of_ble_eq_true rfl, fun _ => rfl⟩, ⟨Nat.le_of_ble_eq_true rfl, fun _ => rfl⟩, ⟨Nat.le_of_ble_eq_true rfl, fun _ => rfl⟩, ⟨Nat.le_of_ble_eq_true rfl, fun _ => rfl⟩, ⟨Nat.le_of_ble_eq_true rfl, fun _ => rfl⟩, ⟨Nat.le_of_ble_eq_true rfl, fun _ => rfl⟩, ⟨Nat.le_of_ble_eq_true rfl, fun _ => rfl⟩, zi_tc w, fun g h => by cases h; exact zi_h30 w⟩
theorem zi_b45 (w : zWd) : zI_Bench (zwC w) 45 := ⟨⟨Nat.le_of_ble_eq_true rfl, fun _ => rfl⟩, ⟨Nat.le_of_ble_eq_true rfl, fun _ => rfl⟩, ⟨Nat.le_of_ble_eq_true rfl, fun _ => rfl⟩, ⟨Nat.le_of_ble_eq_true rfl, fun _ => rfl⟩, ⟨Nat.le_of_ble_eq_true rfl, fun _ => rfl⟩, ⟨Nat.le_of_ble_eq_true rfl, fun _ => rfl⟩, ⟨Nat.le_of_ble_eq_true rfl, fun _ => rfl⟩, ⟨Nat.le_of_ble_eq_true rfl, fun _ => rfl⟩, ⟨Nat.le_of_ble_eq_true rfl, fun _ => rfl⟩, zi_tc w, fun g h => by cases h⟩
theorem zi_b63 (w : zWd) : zI_Bench (zwC w) 63 := ⟨⟨Nat.le_of_ble_eq_true rfl, fun _ => rfl⟩, ⟨Nat.le_of_ble_eq_true rfl, fun _ => rfl⟩, ⟨Nat.le_of_ble_eq_true rfl, fun _ => rfl⟩, ⟨Nat.le_of_ble_eq_true rfl, fun _ => rfl⟩, ⟨Nat.le_of_ble_eq_true rfl, fun _ => rfl⟩, ⟨Nat.le_of_ble_eq_true rfl, fun _ => rfl⟩, ⟨Nat.le_of_ble_eq_true rfl, fun _ => rfl⟩, ⟨Nat.le_of_ble_eq_true rfl, fun _ => rfl⟩, ⟨Nat.le_of_ble_eq_true rfl, fun _ => rfl⟩, zi_tc w, fun g h => by cases h⟩
theorem zi_b72 (w : zWd) : zI_Bench (zwC w) 72 := ⟨⟨Nat.le_of_ble_eq_true rfl, fun _ => rfl⟩, ⟨Nat.le_of_ble_eq_true rfl, fun _ => rfl⟩, ⟨Nat.le_of_ble_eq_true rfl, fun _ => rfl⟩, ⟨Nat.le_of_ble_eq_true rfl, fun _ => rfl⟩, ⟨Nat.le_of_ble_eq_true rfl, fun _ => rfl⟩, ⟨Nat.le_of_ble_eq_true rfl, fun _ => rfl⟩, ⟨Nat.le_of_ble_eq_true rfl, fun _ => rfl⟩, ⟨Nat.le_of_ble_eq_true rfl, fun _ => rfl⟩, ⟨Nat.le_of_ble_eq_true rfl, fun _ => rfl⟩, zi_tc w, fun g h => by cases h⟩
theorem zi_im (w : zWd) : zI_r (zwC w) 27 3 2 (fun j => 63 + 9 * j) ∧ ∀ j, j < 2 → zI_Bench (zwC w) (63 + 9 * j) := ⟨⟨Nat.le_of_ble_eq_true rfl, fun _ => rfl⟩, fun j hj => by rcases (show j = 0 ∨ j = 1 by omega) with rfl | rfl <;> first | exact zi_b63 w | exact zi_b72 w⟩
theorem zi_s81 (w : zWd) : zI_Sheet (zwC w) 81 := ⟨⟨Nat.le_of_ble_eq_true rfl, fun _ => rfl⟩, ⟨Nat.le_of_ble_eq_true rfl, fun _ => rfl⟩⟩
theorem zi_s83 (w : zWd) : zI_Sheet (zwC w) 83 := ⟨⟨Nat.le_of_ble_eq_true rfl, fun _ => rfl⟩, ⟨Nat.le_of_ble_eq_true rfl, fun _ => rfl⟩⟩
theorem zi_s85 (w : zWd) : zI_Sheet (zwC w) 85 := ⟨⟨Nat.le_of_ble_eq_true rfl, fun _ => rfl⟩, ⟨Nat.le_of_ble_eq_true rfl, fun _ => rfl⟩⟩
theorem zi_s87 (w : zWd) : zI_Sheet (zwC w) 87 := ⟨⟨Nat.le_of_ble_eq_true rfl, fun _ => rfl⟩, ⟨Nat.le_of_ble_eq_true rfl, fun _ => rfl⟩⟩
theorem zi_sh (w : zWd) : zI_r (zwC w) 62 4 4 (fun j => 81 + 2 * j) ∧ ∀ j, j < 4 → zI_Sheet (zwC w) (81 + 2 * j) := ⟨⟨Nat.le_of_ble_eq_true rfl, fun _ => rfl⟩, fun j hj => by rcases (show j = 0 ∨ j = 1 ∨ j = 2 ∨ j = 3 by omega) with rfl | rfl | rfl | rfl <;> first | exact zi_s81 w | exact zi_s83 w | exact zi_s85 w | exact zi_s87 w⟩
theorem zi_main (w : zWd) : zI_Main (zwC w) := ⟨⟨Nat.le_of_ble_eq_true rfl, fun _ => rfl⟩, ⟨Nat.le_of_ble_eq_true rfl, fun _ => rfl⟩, zi_im w, zi_sh w, zi_t1 w, zi_t6 w, ⟨⟨Nat.le_of_ble_eq_true rfl, fun _ => rfl⟩, ⟨Nat.le_of_ble_eq_true rfl, fun _ => rfl⟩, zi_t12 w⟩, zi_b18 w, ⟨⟨Nat.le_of_ble_eq_true rfl, fun _ => rfl⟩, zi_h30 w, zi_b32 w⟩, ⟨⟨Nat.le_of_ble_eq_true rfl, fun _ => rfl⟩, ⟨Nat.le_of_ble_eq_true rfl, fun _ => rfl⟩, ⟨Nat.le_of_ble_eq_true rfl, fun _ => rfl⟩, ⟨Nat.le_of_ble_eq_true rfl, fun _ => rfl⟩, zi_b45 w⟩, ⟨Nat.le_of_ble_eq_true rfl, fun _ => rfl⟩, ⟨Nat.le_of_ble_eq_true rfl, fun _ => rfl⟩, ⟨⟨Nat.le_of_ble_eq_true rfl, fun _ => rfl⟩, ⟨Nat.le_of_ble_eq_true rfl, fun _ => rfl⟩, ⟨Nat.le_of_ble_eq_true rfl, fun _ => rfl⟩, ⟨Nat.le_of_ble_eq_true rfl, fun _ => rfl⟩⟩, ⟨⟨Nat.le_of_ble_eq_true rfl, fun _ => rfl⟩, ⟨Nat.le_of_ble_eq_true rfl, fun _ => rfl⟩⟩⟩
