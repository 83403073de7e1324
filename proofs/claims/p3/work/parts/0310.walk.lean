def wpJ_Main_rule_66 (a1 : Int32)  (Q : Int32 → zMem → Prop)   (M : zMem) : Prop :=
  ∀ zx1 : Int32, zx1 = a1 → (zx1 = 0 → Q (M 1 0) M) ∧ (zx1 = 1 → Q (M 1 1) M) ∧ (zx1 = 2 → Q (M 1 2) M) ∧ (zx1 = 3 → Q (M 1 3) M) ∧ (zx1 = 4 → Q (M 1 4) M) ∧ (zx1 = 5 → Q (M 1 5) M) ∧ (zx1 = 6 → Q (M 1 6) M) ∧ (¬ zx1 = 0 → ¬ zx1 = 1 → ¬ zx1 = 2 → ¬ zx1 = 3 → ¬ zx1 = 4 → ¬ zx1 = 5 → ¬ zx1 = 6 → Q ((-1)) M)
def wpJ_Main_rule_33 (a1 : Int32)  (Q : Int32 → zMem → Prop)   (M : zMem) : Prop :=
  (a1 < 20 → wpJ_Main_rule_66 a1 Q M) ∧ (¬ a1 < 20 → ((20 + (M 1 1)) ≤ a1 → wpJ_Main_rule_66 a1 Q M) ∧ (¬ (20 + (M 1 1)) ≤ a1 → vp_in (a1 - 20) 5 ∧ Q (M 5 (ix (a1 - 20))) M))
def wp_Main_rule (a1 : Int32) (M : zMem) (Q : Int32 → zMem → Prop) : Prop :=
  (a1 < 10 → wpJ_Main_rule_33 a1 Q M) ∧ (¬ a1 < 10 → ((10 + (M 1 6)) ≤ a1 → wpJ_Main_rule_33 a1 Q M) ∧ (¬ (10 + (M 1 6)) ≤ a1 → vp_in (a1 - 10) 6 ∧ Q (M 2 (ix (a1 - 10))) M))
set_option maxHeartbeats 4000000 in
set_option maxRecDepth 20000 in
theorem c_Main_rule {l : Launch} {w : zWd} {a1 : Int32} {M : zMem} {post : Int32 → zMem → Prop} (h0 : zI_Main w) (h : wp_Main_rule a1 M post) : zMi l ⟨"HandToHand", "rule", "(I)I"⟩ prog_1_method_6_code 2 (Option.some .int) 0 0 w [.ref (zad w 0), .int a1] M post := by
  refine zMet (by decide) (Nat.le_of_ble_eq_true rfl) ?_
  intro p e s m below meth c X hr hlk hml hW ls hl
  have hx := X.1
  have hb := X.2.1
  have hl : lv_has ls 2 [(0, .ref (zad w 0)), (1, .int a1)] := hl
  have zJ_66 : ∀ (M : zMem) (H : Heap) (locs : List Loc) (ls : Array Slot), zWo w s.heap M H locs → lv_has ls 2 [(0, .ref (zad w 0)), (1, .int a1)] → wpJ_Main_rule_66 a1 post M → W p l e (zRm 0 0) s m ([.ref (zad w 0), .int a1] : List Value).toArray below meth c H locs 0 0 (MQ below (va_Qi post (zB w) (zA w)) ([.ref (zad w 0), .int a1] : List Value).toArray s 0 0 (zA w)) (F0 m 66 ls []) := by
    intro  M H locs ls hW hl h
    unfold wpJ_Main_rule_66 at h
    refine lv_iload_n hx hb dX10_rule_66 rfl (lv_at hl 1 rfl) ?_
    refine lv_topi (fun zx1 ezx1 => ?_)
    replace h := h zx1 ezx1
    by_cases c0 : zx1 = 0
    · replace h := h.1 c0
      refine lv_tableIn (off := 41) (tgt := 108) hx hb dX10_rule_67 (by rw [c0]; decide) (by rw [c0]; decide) (by rw [c0]; rfl) rfl ?_
      refine lv_aload_n hx hb dX10_rule_108 rfl (lv_at hl 0 rfl) ?_
      refine zg_Main_told X hW h0 zu_467 dX10_rule_109 ?_
      refine zg_Told_pieces X hW h0.2.2.2.2.1 zu_35 dX10_rule_112 ?_
      exact zreti X hr hlk hW h dX10_rule_115
    replace h := h.2
    by_cases c1 : zx1 = 1
    · replace h := h.1 c1
      refine lv_tableIn (off := 49) (tgt := 116) hx hb dX10_rule_67 (by rw [c1]; decide) (by rw [c1]; decide) (by rw [c1]; rfl) rfl ?_
      refine lv_aload_n hx hb dX10_rule_116 rfl (lv_at hl 0 rfl) ?_
      refine zg_Main_told X hW h0 zu_467 dX10_rule_117 ?_
      refine zg_Told_hands X hW h0.2.2.2.2.1 zu_41 dX10_rule_120 ?_
      exact zreti X hr hlk hW h dX10_rule_123
    replace h := h.2
    by_cases c2 : zx1 = 2
    · replace h := h.1 c2
      refine lv_tableIn (off := 57) (tgt := 124) hx hb dX10_rule_67 (by rw [c2]; decide) (by rw [c2]; decide) (by rw [c2]; rfl) rfl ?_
      refine lv_aload_n hx hb dX10_rule_124 rfl (lv_at hl 0 rfl) ?_
      refine zg_Main_told X hW h0 zu_467 dX10_rule_125 ?_
      refine zg_Told_walk X hW h0.2.2.2.2.1 zu_43 dX10_rule_128 ?_
      exact zreti X hr hlk hW h dX10_rule_131
    replace h := h.2
    by_cases c3 : zx1 = 3
    · replace h := h.1 c3
      refine lv_tableIn (off := 65) (tgt := 132) hx hb dX10_rule_67 (by rw [c3]; decide) (by rw [c3]; decide) (by rw [c3]; rfl) rfl ?_
      refine lv_aload_n hx hb dX10_rule_132 rfl (lv_at hl 0 rfl) ?_
      refine zg_Main_told X hW h0 zu_467 dX10_rule_133 ?_
      refine zg_Told_learn X hW h0.2.2.2.2.1 zu_47 dX10_rule_136 ?_
      exact zreti X hr hlk hW h dX10_rule_139
    replace h := h.2
    by_cases c4 : zx1 = 4
    · replace h := h.1 c4
      refine lv_tableIn (off := 73) (tgt := 140) hx hb dX10_rule_67 (by rw [c4]; decide) (by rw [c4]; decide) (by rw [c4]; rfl) rfl ?_
      refine lv_aload_n hx hb dX10_rule_140 rfl (lv_at hl 0 rfl) ?_
      refine zg_Main_told X hW h0 zu_467 dX10_rule_141 ?_
      refine zg_Told_kind X hW h0.2.2.2.2.1 zu_50 dX10_rule_144 ?_
      exact zreti X hr hlk hW h dX10_rule_147
    replace h := h.2
    by_cases c5 : zx1 = 5
    · replace h := h.1 c5
      refine lv_tableIn (off := 81) (tgt := 148) hx hb dX10_rule_67 (by rw [c5]; decide) (by rw [c5]; decide) (by rw [c5]; rfl) rfl ?_
      refine lv_aload_n hx hb dX10_rule_148 rfl (lv_at hl 0 rfl) ?_
      refine zg_Main_told X hW h0 zu_467 dX10_rule_149 ?_
      refine zg_Told_whole X hW h0.2.2.2.2.1 zu_53 dX10_rule_152 ?_
      exact zreti X hr hlk hW h dX10_rule_155
    replace h := h.2
    by_cases c6 : zx1 = 6
    · replace h := h.1 c6
      refine lv_tableIn (off := 89) (tgt := 156) hx hb dX10_rule_67 (by rw [c6]; decide) (by rw [c6]; decide) (by rw [c6]; rfl) rfl ?_
      refine lv_aload_n hx hb dX10_rule_156 rfl (lv_at hl 0 rfl) ?_
      refine zg_Main_told X hW h0 zu_467 dX10_rule_157 ?_
      refine zg_Told_rowLength X hW h0.2.2.2.2.1 zu_56 dX10_rule_160 ?_
      exact zreti X hr hlk hW h dX10_rule_163
    replace h := h.2
    replace h := h c0 c1 c2 c3 c4 c5 c6
    refine lv_tableOut (tgt := 164) hx hb dX10_rule_67 (zsw 6 (Nat.le_of_ble_eq_true rfl) (fun j hj => ?_)) rfl ?_
    · rcases (show j = 0 ∨ j = 1 ∨ j = 2 ∨ j = 3 ∨ j = 4 ∨ j = 5 ∨ j = 6 by omega) with rfl | rfl | rfl | rfl | rfl | rfl | rfl
      · exact c0
      · exact c1
      · exact c2
      · exact c3
      · exact c4
      · exact c5
      · exact c6
    refine lv_iconst hx hb dX10_rule_164 zc_im1 ?_
    exact zreti X hr hlk hW h dX10_rule_165
  have zJ_33 : ∀ (M : zMem) (H : Heap) (locs : List Loc) (ls : Array Slot), zWo w s.heap M H locs → lv_has ls 2 [(0, .ref (zad w 0)), (1, .int a1)] → wpJ_Main_rule_33 a1 post M → W p l e (zRm 0 0) s m ([.ref (zad w 0), .int a1] : List Value).toArray below meth c H locs 0 0 (MQ below (va_Qi post (zB w) (zA w)) ([.ref (zad w 0), .int a1] : List Value).toArray s 0 0 (zA w)) (F0 m 33 ls []) := by
    intro  M H locs ls hW hl h
    unfold wpJ_Main_rule_33 at h
    refine lv_iload_n hx hb dX10_rule_33 rfl (lv_at hl 1 rfl) ?_
    refine lv_bipush hx hb dX10_rule_34 zc_b20 ?_
    refine lv_icmp_lt (tgt := 66) hx hb dX10_rule_36 rfl (fun c => ?_) (fun c => ?_)
    · replace h := h.1 c
      exact zJ_66  M H locs ls hW (lv_sub hl [0, 1] rfl) h
    · replace h := h.2 c
      refine lv_iload_n hx hb dX10_rule_39 rfl (lv_at hl 1 rfl) ?_
      refine lv_bipush hx hb dX10_rule_40 zc_b20 ?_
      refine lv_aload_n hx hb dX10_rule_42 rfl (lv_at hl 0 rfl) ?_
      refine zg_Main_told X hW h0 zu_467 dX10_rule_43 ?_
      refine zg_Told_hands X hW h0.2.2.2.2.1 zu_41 dX10_rule_46 ?_
      refine lv_iadd hx hb dX10_rule_49 ?_
      refine lv_icmp_ge (tgt := 66) hx hb dX10_rule_50 rfl (fun c => ?_) (fun c => ?_)
      · replace h := h.1 c
        exact zJ_66  M H locs ls hW (lv_sub hl [0, 1] rfl) h
      · replace h := h.2 c
        refine lv_aload_n hx hb dX10_rule_53 rfl (lv_at hl 0 rfl) ?_
        refine zg_Main_told X hW h0 zu_467 dX10_rule_54 ?_
        refine zg_Told_ends X hW h0.2.2.2.2.1 zu_70 dX10_rule_57 ?_
        refine lv_iload_n hx hb dX10_rule_60 rfl (lv_at hl 1 rfl) ?_
        refine lv_bipush hx hb dX10_rule_61 zc_b20 ?_
        refine lv_isub hx hb dX10_rule_63 ?_
        obtain ⟨g, h⟩ := h
        refine ziald X hW h0.2.2.2.2.1.2.2.2.2 g dX10_rule_64 ?_
        exact zreti X hr hlk hW h dX10_rule_65
  unfold wp_Main_rule at h
  have zMain : ∀ (H : Heap) (locs : List Loc) (ls : Array Slot), zWo w s.heap M H locs → lv_has ls 2 [(0, .ref (zad w 0)), (1, .int a1)] → W p l e (zRm 0 0) s m ([.ref (zad w 0), .int a1] : List Value).toArray below meth c H locs 0 0 (MQ below (va_Qi post (zB w) (zA w)) ([.ref (zad w 0), .int a1] : List Value).toArray s 0 0 (zA w)) (F0 m 0 ls []) := by
    intro H locs ls hW hl
    refine lv_iload_n hx hb dX10_rule_0 rfl (lv_at hl 1 rfl) ?_
    refine lv_bipush hx hb dX10_rule_1 zc_b10 ?_
    refine lv_icmp_lt (tgt := 33) hx hb dX10_rule_3 rfl (fun c => ?_) (fun c => ?_)
    · replace h := h.1 c
      exact zJ_33  M H locs ls hW (lv_sub hl [0, 1] rfl) h
    · replace h := h.2 c
      refine lv_iload_n hx hb dX10_rule_6 rfl (lv_at hl 1 rfl) ?_
      refine lv_bipush hx hb dX10_rule_7 zc_b10 ?_
      refine lv_aload_n hx hb dX10_rule_9 rfl (lv_at hl 0 rfl) ?_
      refine zg_Main_told X hW h0 zu_467 dX10_rule_10 ?_
      refine zg_Told_rowLength X hW h0.2.2.2.2.1 zu_56 dX10_rule_13 ?_
      refine lv_iadd hx hb dX10_rule_16 ?_
      refine lv_icmp_ge (tgt := 33) hx hb dX10_rule_17 rfl (fun c => ?_) (fun c => ?_)
      · replace h := h.1 c
        exact zJ_33  M H locs ls hW (lv_sub hl [0, 1] rfl) h
      · replace h := h.2 c
        refine lv_aload_n hx hb dX10_rule_20 rfl (lv_at hl 0 rfl) ?_
        refine zg_Main_told X hW h0 zu_467 dX10_rule_21 ?_
        refine zg_Told_row X hW h0.2.2.2.2.1 zu_60 dX10_rule_24 ?_
        refine lv_iload_n hx hb dX10_rule_27 rfl (lv_at hl 1 rfl) ?_
        refine lv_bipush hx hb dX10_rule_28 zc_b10 ?_
        refine lv_isub hx hb dX10_rule_30 ?_
        obtain ⟨g, h⟩ := h
        refine ziald X hW h0.2.2.2.2.1.2.1 g dX10_rule_31 ?_
        exact zreti X hr hlk hW h dX10_rule_32
  exact zMain s.heap [] ls hW hl
def wp_Main_isPiece (a1 : Int32) (M : zMem) (Q : Int32 → zMem → Prop) : Prop :=
  (a1 < 0 → Q 0 M) ∧ (¬ a1 < 0 → ((M 1 0) ≤ a1 → Q 0 M) ∧ (¬ (M 1 0) ≤ a1 → Q 1 M))
set_option maxHeartbeats 4000000 in
set_option maxRecDepth 20000 in
theorem c_Main_isPiece {l : Launch} {w : zWd} {a1 : Int32} {M : zMem} {post : Int32 → zMem → Prop} (h0 : zI_Main w) (h : wp_Main_isPiece a1 M post) : zMi l ⟨"HandToHand", "isPiece", "(I)Z"⟩ prog_1_method_37_code 2 (Option.some .boolean) 0 0 w [.ref (zad w 0), .int a1] M post := by
  refine zMet (by decide) (Nat.le_of_ble_eq_true rfl) ?_
  intro p e s m below meth c X hr hlk hml hW ls hl
  have hx := X.1
  have hb := X.2.1
  have hl : lv_has ls 2 [(0, .ref (zad w 0)), (1, .int a1)] := hl
  unfold wp_Main_isPiece at h
  have zMain : ∀ (H : Heap) (locs : List Loc) (ls : Array Slot), zWo w s.heap M H locs → lv_has ls 2 [(0, .ref (zad w 0)), (1, .int a1)] → W p l e (zRm 0 0) s m ([.ref (zad w 0), .int a1] : List Value).toArray below meth c H locs 0 0 (MQ below (va_Qi post (zB w) (zA w)) ([.ref (zad w 0), .int a1] : List Value).toArray s 0 0 (zA w)) (F0 m 0 ls []) := by
    intro H locs ls hW hl
    refine lv_iload_n hx hb dX10_isPiece_0 rfl (lv_at hl 1 rfl) ?_
    refine lv_if_lt (tgt := 19) hx hb dX10_isPiece_1 rfl (fun c => ?_) (fun c => ?_)
    · replace h := h.1 c
      refine lv_iconst hx hb dX10_isPiece_19 zc_i0 ?_
      exact zretz X hr hlk hW rfl h dX10_isPiece_20
    · replace h := h.2 c
      refine lv_iload_n hx hb dX10_isPiece_4 rfl (lv_at hl 1 rfl) ?_
      refine lv_aload_n hx hb dX10_isPiece_5 rfl (lv_at hl 0 rfl) ?_
      refine zg_Main_told X hW h0 zu_467 dX10_isPiece_6 ?_
      refine zg_Told_pieces X hW h0.2.2.2.2.1 zu_35 dX10_isPiece_9 ?_
      refine lv_icmp_ge (tgt := 19) hx hb dX10_isPiece_12 rfl (fun c => ?_) (fun c => ?_)
      · replace h := h.1 c
        refine lv_iconst hx hb dX10_isPiece_19 zc_i0 ?_
        exact zretz X hr hlk hW rfl h dX10_isPiece_20
      · replace h := h.2 c
        refine lv_iconst hx hb dX10_isPiece_15 zc_i1 ?_
        refine lv_goto (tgt := 20) hx hb dX10_isPiece_16 rfl ?_
        exact zretz X hr hlk hW rfl h dX10_isPiece_20
  exact zMain s.heap [] ls hW hl
def wp_Main_units (a1 : Int32) (a2 : Int32) (M : zMem) (Q : Int32 → zMem → Prop) : Prop :=
  (a1 < 0 → Q ((-1)) M) ∧ (¬ a1 < 0 → (3 ≤ a1 → Q ((-1)) M) ∧ (¬ 3 ≤ a1 → wp_Main_isPiece a2 M (fun zr2 zm1 => (¬ zr2 = 0 → wp_Told_unitsOf 1 a1 a2 zm1 (fun zr4 zm3 => Q zr4 zm3)) ∧ (zr2 = 0 → Q ((-1)) zm1))))
set_option maxHeartbeats 4000000 in
set_option maxRecDepth 20000 in
theorem c_Main_units {l : Launch} {w : zWd} {a1 : Int32} {a2 : Int32} {M : zMem} {post : Int32 → zMem → Prop} (h0 : zI_Main w) (h : wp_Main_units a1 a2 M post) : zMi l ⟨"HandToHand", "units", "(II)I"⟩ prog_1_method_7_code 3 (Option.some .int) 1 22 w [.ref (zad w 0), .int a1, .int a2] M post := by
  refine zMet (by decide) (Nat.le_of_ble_eq_true rfl) ?_
  intro p e s m below meth c X hr hlk hml hW ls hl
  have hx := X.1
  have hb := X.2.1
  have hl : lv_has ls 3 [(0, .ref (zad w 0)), (1, .int a1), (2, .int a2)] := hl
  unfold wp_Main_units at h
  have zMain : ∀ (H : Heap) (locs : List Loc) (ls : Array Slot), zWo w s.heap M H locs → lv_has ls 3 [(0, .ref (zad w 0)), (1, .int a1), (2, .int a2)] → W p l e (zRm 1 22) s m ([.ref (zad w 0), .int a1, .int a2] : List Value).toArray below meth c H locs 0 0 (MQ below (va_Qi post (zB w) (zA w)) ([.ref (zad w 0), .int a1, .int a2] : List Value).toArray s 0 0 (zA w)) (F0 m 0 ls []) := by
    intro H locs ls hW hl
    refine lv_iload_n hx hb dX10_units_0 rfl (lv_at hl 1 rfl) ?_
    refine lv_if_lt (tgt := 17) hx hb dX10_units_1 rfl (fun c => ?_) (fun c => ?_)
    · replace h := h.1 c
      refine lv_iconst hx hb dX10_units_17 zc_im1 ?_
      exact zreti X hr hlk hW h dX10_units_18
    · replace h := h.2 c
      refine lv_iload_n hx hb dX10_units_4 rfl (lv_at hl 1 rfl) ?_
      refine lv_iconst hx hb dX10_units_5 zc_i3 ?_
      refine lv_icmp_ge (tgt := 17) hx hb dX10_units_6 rfl (fun c => ?_) (fun c => ?_)
      · replace h := h.1 c
        refine lv_iconst hx hb dX10_units_17 zc_im1 ?_
        exact zreti X hr hlk hW h dX10_units_18
      · replace h := h.2 c
        refine lv_aload_n hx hb dX10_units_9 rfl (lv_at hl 0 rfl) ?_
        refine lv_iload_n hx hb dX10_units_10 rfl (lv_at hl 2 rfl) ?_
        refine zcalli (zrunV (As := [.int a2]) (rest := []) X hml hl hW h0.1 rfl zk_Main_157 (c_Main_isPiece h0 h) rfl ⟨Nat.le_of_ble_eq_true rfl, Nat.le_of_ble_eq_true rfl⟩ ⟨Nat.le_refl 0, Nat.le_refl 0⟩ rfl (Nat.le_of_ble_eq_true rfl) dX10_units_11) hW (fun zr2 zm1 H locs h hW => ?_)
        refine lv_if_ne (tgt := 19) hx hb dX10_units_14 rfl (fun c => ?_) (fun c => ?_)
        · replace h := h.1 c
          refine lv_aload_n hx hb dX10_units_19 rfl (lv_at hl 0 rfl) ?_
          refine zg_Main_told X hW h0 zu_467 dX10_units_20 ?_
          refine lv_iload_n hx hb dX10_units_23 rfl (lv_at hl 1 rfl) ?_
          refine lv_iload_n hx hb dX10_units_24 rfl (lv_at hl 2 rfl) ?_
          refine zcalli (zrunV (As := [.int a1, .int a2]) (rest := []) X hml hl hW h0.2.2.2.2.1.1 rfl zk_Main_161 (c_Told_unitsOf h0.2.2.2.2.1 h) rfl ⟨Nat.le_of_ble_eq_true rfl, Nat.le_of_ble_eq_true rfl⟩ ⟨Nat.le_refl 0, Nat.le_refl 0⟩ rfl (Nat.le_of_ble_eq_true rfl) dX10_units_25) hW (fun zr4 zm3 H locs h hW => ?_)
          exact zreti X hr hlk hW h dX10_units_28
        · replace h := h.2 c
          refine lv_iconst hx hb dX10_units_17 zc_im1 ?_
          exact zreti X hr hlk hW h dX10_units_18
  exact zMain s.heap [] ls hW hl
def wp_Main_isHand (a1 : Int32) (M : zMem) (Q : Int32 → zMem → Prop) : Prop :=
  (a1 < 0 → Q 0 M) ∧ (¬ a1 < 0 → ((M 1 1) ≤ a1 → Q 0 M) ∧ (¬ (M 1 1) ≤ a1 → Q 1 M))
set_option maxHeartbeats 4000000 in
set_option maxRecDepth 20000 in
theorem c_Main_isHand {l : Launch} {w : zWd} {a1 : Int32} {M : zMem} {post : Int32 → zMem → Prop} (h0 : zI_Main w) (h : wp_Main_isHand a1 M post) : zMi l ⟨"HandToHand", "isHand", "(I)Z"⟩ prog_1_method_38_code 2 (Option.some .boolean) 0 0 w [.ref (zad w 0), .int a1] M post := by
  refine zMet (by decide) (Nat.le_of_ble_eq_true rfl) ?_
  intro p e s m below meth c X hr hlk hml hW ls hl
  have hx := X.1
  have hb := X.2.1
  have hl : lv_has ls 2 [(0, .ref (zad w 0)), (1, .int a1)] := hl
  unfold wp_Main_isHand at h
  have zMain : ∀ (H : Heap) (locs : List Loc) (ls : Array Slot), zWo w s.heap M H locs → lv_has ls 2 [(0, .ref (zad w 0)), (1, .int a1)] → W p l e (zRm 0 0) s m ([.ref (zad w 0), .int a1] : List Value).toArray below meth c H locs 0 0 (MQ below (va_Qi post (zB w) (zA w)) ([.ref (zad w 0), .int a1] : List Value).toArray s 0 0 (zA w)) (F0 m 0 ls []) := by
    intro H locs ls hW hl
    refine lv_iload_n hx hb dX10_isHand_0 rfl (lv_at hl 1 rfl) ?_
    refine lv_if_lt (tgt := 19) hx hb dX10_isHand_1 rfl (fun c => ?_) (fun c => ?_)
    · replace h := h.1 c
      refine lv_iconst hx hb dX10_isHand_19 zc_i0 ?_
      exact zretz X hr hlk hW rfl h dX10_isHand_20
    · replace h := h.2 c
      refine lv_iload_n hx hb dX10_isHand_4 rfl (lv_at hl 1 rfl) ?_
      refine lv_aload_n hx hb dX10_isHand_5 rfl (lv_at hl 0 rfl) ?_
      refine zg_Main_told X hW h0 zu_467 dX10_isHand_6 ?_
      refine zg_Told_hands X hW h0.2.2.2.2.1 zu_41 dX10_isHand_9 ?_
      refine lv_icmp_ge (tgt := 19) hx hb dX10_isHand_12 rfl (fun c => ?_) (fun c => ?_)
      · replace h := h.1 c
        refine lv_iconst hx hb dX10_isHand_19 zc_i0 ?_
        exact zretz X hr hlk hW rfl h dX10_isHand_20
      · replace h := h.2 c
        refine lv_iconst hx hb dX10_isHand_15 zc_i1 ?_
        refine lv_goto (tgt := 20) hx hb dX10_isHand_16 rfl ?_
        exact zretz X hr hlk hW rfl h dX10_isHand_20
  exact zMain s.heap [] ls hW hl
def wp_Main_pace (a1 : Int32) (a2 : Int32) (M : zMem) (Q : Int32 → zMem → Prop) : Prop :=
  wp_Main_isHand a1 M (fun zr2 zm1 => (zr2 = 0 → Q ((-1)) zm1) ∧ (¬ zr2 = 0 → wp_Main_isPiece a2 zm1 (fun zr4 zm3 => (¬ zr4 = 0 → wp_Told_paceOf 1 a1 a2 zm3 (fun zr6 zm5 => Q zr6 zm5)) ∧ (zr4 = 0 → Q ((-1)) zm3))))
set_option maxHeartbeats 4000000 in
set_option maxRecDepth 20000 in
theorem c_Main_pace {l : Launch} {w : zWd} {a1 : Int32} {a2 : Int32} {M : zMem} {post : Int32 → zMem → Prop} (h0 : zI_Main w) (h : wp_Main_pace a1 a2 M post) : zMi l ⟨"HandToHand", "pace", "(II)I"⟩ prog_1_method_8_code 3 (Option.some .int) 1 22 w [.ref (zad w 0), .int a1, .int a2] M post := by
  refine zMet (by decide) (Nat.le_of_ble_eq_true rfl) ?_
  intro p e s m below meth c X hr hlk hml hW ls hl
  have hx := X.1
  have hb := X.2.1
  have hl : lv_has ls 3 [(0, .ref (zad w 0)), (1, .int a1), (2, .int a2)] := hl
  unfold wp_Main_pace at h
  have zMain : ∀ (H : Heap) (locs : List Loc) (ls : Array Slot), zWo w s.heap M H locs → lv_has ls 3 [(0, .ref (zad w 0)), (1, .int a1), (2, .int a2)] → W p l e (zRm 1 22) s m ([.ref (zad w 0), .int a1, .int a2] : List Value).toArray below meth c H locs 0 0 (MQ below (va_Qi post (zB w) (zA w)) ([.ref (zad w 0), .int a1, .int a2] : List Value).toArray s 0 0 (zA w)) (F0 m 0 ls []) := by
    intro H locs ls hW hl
    refine lv_aload_n hx hb dX10_pace_0 rfl (lv_at hl 0 rfl) ?_
    refine lv_iload_n hx hb dX10_pace_1 rfl (lv_at hl 1 rfl) ?_
    refine zcalli (zrunV (As := [.int a1]) (rest := []) X hml hl hW h0.1 rfl zk_Main_165 (c_Main_isHand h0 h) rfl ⟨Nat.le_of_ble_eq_true rfl, Nat.le_of_ble_eq_true rfl⟩ ⟨Nat.le_refl 0, Nat.le_refl 0⟩ rfl (Nat.le_of_ble_eq_true rfl) dX10_pace_2) hW (fun zr2 zm1 H locs h hW => ?_)
    refine lv_if_eq (tgt := 16) hx hb dX10_pace_5 rfl (fun c => ?_) (fun c => ?_)
    · replace h := h.1 c
      refine lv_iconst hx hb dX10_pace_16 zc_im1 ?_
      exact zreti X hr hlk hW h dX10_pace_17
    · replace h := h.2 c
      refine lv_aload_n hx hb dX10_pace_8 rfl (lv_at hl 0 rfl) ?_
      refine lv_iload_n hx hb dX10_pace_9 rfl (lv_at hl 2 rfl) ?_
      refine zcalli (zrunV (As := [.int a2]) (rest := []) X hml hl hW h0.1 rfl zk_Main_157 (c_Main_isPiece h0 h) rfl ⟨Nat.le_of_ble_eq_true rfl, Nat.le_of_ble_eq_true rfl⟩ ⟨Nat.le_refl 0, Nat.le_refl 0⟩ rfl (Nat.le_of_ble_eq_true rfl) dX10_pace_10) hW (fun zr4 zm3 H locs h hW => ?_)
      refine lv_if_ne (tgt := 18) hx hb dX10_pace_13 rfl (fun c => ?_) (fun c => ?_)
      · replace h := h.1 c
        refine lv_aload_n hx hb dX10_pace_18 rfl (lv_at hl 0 rfl) ?_
        refine zg_Main_told X hW h0 zu_467 dX10_pace_19 ?_
        refine lv_iload_n hx hb dX10_pace_22 rfl (lv_at hl 1 rfl) ?_
        refine lv_iload_n hx hb dX10_pace_23 rfl (lv_at hl 2 rfl) ?_
        refine zcalli (zrunV (As := [.int a1, .int a2]) (rest := []) X hml hl hW h0.2.2.2.2.1.1 rfl zk_Main_168 (c_Told_paceOf h0.2.2.2.2.1 h) rfl ⟨Nat.le_of_ble_eq_true rfl, Nat.le_of_ble_eq_true rfl⟩ ⟨Nat.le_refl 0, Nat.le_refl 0⟩ rfl (Nat.le_of_ble_eq_true rfl) dX10_pace_24) hW (fun zr6 zm5 H locs h hW => ?_)
        exact zreti X hr hlk hW h dX10_pace_27
      · replace h := h.2 c
        refine lv_iconst hx hb dX10_pace_16 zc_im1 ?_
        exact zreti X hr hlk hW h dX10_pace_17
  exact zMain s.heap [] ls hW hl
def wp_Main_isPace (a1 : Int32) (M : zMem) (Q : Int32 → zMem → Prop) : Prop :=
  (a1 < 1 → Q 0 M) ∧ (¬ a1 < 1 → (9 < a1 → Q 0 M) ∧ (¬ 9 < a1 → Q 1 M))
set_option maxHeartbeats 4000000 in
set_option maxRecDepth 20000 in
theorem c_Main_isPace {l : Launch} {w : zWd} {a1 : Int32} {M : zMem} {post : Int32 → zMem → Prop}  (h : wp_Main_isPace a1 M post) : zMi l ⟨"HandToHand", "isPace", "(I)Z"⟩ prog_1_method_40_code 1 (Option.some .boolean) 0 0 w [.int a1] M post := by
  refine zMet (by decide) (Nat.le_of_ble_eq_true rfl) ?_
  intro p e s m below meth c X hr hlk hml hW ls hl
  have hx := X.1
  have hb := X.2.1
  have hl : lv_has ls 1 [(0, .int a1)] := hl
  unfold wp_Main_isPace at h
  have zMain : ∀ (H : Heap) (locs : List Loc) (ls : Array Slot), zWo w s.heap M H locs → lv_has ls 1 [(0, .int a1)] → W p l e (zRm 0 0) s m ([.int a1] : List Value).toArray below meth c H locs 0 0 (MQ below (va_Qi post (zB w) (zA w)) ([.int a1] : List Value).toArray s 0 0 (zA w)) (F0 m 0 ls []) := by
    intro H locs ls hW hl
    refine lv_iload_n hx hb dX10_isPace_0 rfl (lv_at hl 0 rfl) ?_
    refine lv_iconst hx hb dX10_isPace_1 zc_i1 ?_
    refine lv_icmp_lt (tgt := 15) hx hb dX10_isPace_2 rfl (fun c => ?_) (fun c => ?_)
    · replace h := h.1 c
      refine lv_iconst hx hb dX10_isPace_15 zc_i0 ?_
      exact zretz X hr hlk hW rfl h dX10_isPace_16
    · replace h := h.2 c
      refine lv_iload_n hx hb dX10_isPace_5 rfl (lv_at hl 0 rfl) ?_
      refine lv_bipush hx hb dX10_isPace_6 zc_b9 ?_
      refine lv_icmp_gt (tgt := 15) hx hb dX10_isPace_8 rfl (fun c => ?_) (fun c => ?_)
      · replace h := h.1 c
        refine lv_iconst hx hb dX10_isPace_15 zc_i0 ?_
        exact zretz X hr hlk hW rfl h dX10_isPace_16
      · replace h := h.2 c
        refine lv_iconst hx hb dX10_isPace_11 zc_i1 ?_
        refine lv_goto (tgt := 16) hx hb dX10_isPace_12 rfl ?_
        exact zretz X hr hlk hW rfl h dX10_isPace_16
  exact zMain s.heap [] ls hW hl
def wp_Main_setPace (a1 : Int32) (a2 : Int32) (a3 : Int32) (M : zMem) (Q : Int32 → zMem → Prop) : Prop :=
  wp_Main_isHand a1 M (fun zr2 zm1 => (zr2 = 0 → Q ((-1)) zm1) ∧ (¬ zr2 = 0 → wp_Main_isPiece a2 zm1 (fun zr4 zm3 => (zr4 = 0 → Q ((-1)) zm3) ∧ (¬ zr4 = 0 → wp_Main_isPace a3 zm3 (fun zr6 zm5 => (¬ zr6 = 0 → wp_Told_paceOf 1 a1 a2 zm5 (fun zr8 zm7 => vp_in ((a1 * 8) + a2) 40 ∧ ∀ zm9 : zMem, zm9 = zup zm7 4 (ix ((a1 * 8) + a2)) a3 → wp_Main_forgetAnswers zm9 (fun zm10 => Q zr8 zm10))) ∧ (zr6 = 0 → Q ((-1)) zm5))))))
set_option maxHeartbeats 4000000 in
set_option maxRecDepth 20000 in
theorem c_Main_setPace {l : Launch} {w : zWd} {a1 : Int32} {a2 : Int32} {a3 : Int32} {M : zMem} {post : Int32 → zMem → Prop} (h0 : zI_Main w) (h : wp_Main_setPace a1 a2 a3 M post) : zMi l ⟨"HandToHand", "setPace", "(III)I"⟩ prog_1_method_9_code 5 (Option.some .int) 2 41 w [.ref (zad w 0), .int a1, .int a2, .int a3] M post := by
  refine zMet (by decide) (Nat.le_of_ble_eq_true rfl) ?_
  intro p e s m below meth c X hr hlk hml hW ls hl
  have hx := X.1
  have hb := X.2.1
  have hl : lv_has ls 5 [(0, .ref (zad w 0)), (1, .int a1), (2, .int a2), (3, .int a3)] := hl
  unfold wp_Main_setPace at h
  have zMain : ∀ (H : Heap) (locs : List Loc) (ls : Array Slot), zWo w s.heap M H locs → lv_has ls 5 [(0, .ref (zad w 0)), (1, .int a1), (2, .int a2), (3, .int a3)] → W p l e (zRm 2 41) s m ([.ref (zad w 0), .int a1, .int a2, .int a3] : List Value).toArray below meth c H locs 0 0 (MQ below (va_Qi post (zB w) (zA w)) ([.ref (zad w 0), .int a1, .int a2, .int a3] : List Value).toArray s 0 0 (zA w)) (F0 m 0 ls []) := by
    intro H locs ls hW hl
    refine lv_aload_n hx hb dX10_setPace_0 rfl (lv_at hl 0 rfl) ?_
    refine lv_iload_n hx hb dX10_setPace_1 rfl (lv_at hl 1 rfl) ?_
    refine zcalli (zrunV (As := [.int a1]) (rest := []) X hml hl hW h0.1 rfl zk_Main_165 (c_Main_isHand h0 h) rfl ⟨Nat.le_of_ble_eq_true rfl, Nat.le_of_ble_eq_true rfl⟩ ⟨Nat.le_refl 0, Nat.le_refl 0⟩ rfl (Nat.le_of_ble_eq_true rfl) dX10_setPace_2) hW (fun zr2 zm1 H locs h hW => ?_)
    refine lv_if_eq (tgt := 23) hx hb dX10_setPace_5 rfl (fun c => ?_) (fun c => ?_)
    · replace h := h.1 c
      refine lv_iconst hx hb dX10_setPace_23 zc_im1 ?_
      exact zreti X hr hlk hW h dX10_setPace_24
    · replace h := h.2 c
      refine lv_aload_n hx hb dX10_setPace_8 rfl (lv_at hl 0 rfl) ?_
      refine lv_iload_n hx hb dX10_setPace_9 rfl (lv_at hl 2 rfl) ?_
      refine zcalli (zrunV (As := [.int a2]) (rest := []) X hml hl hW h0.1 rfl zk_Main_157 (c_Main_isPiece h0 h) rfl ⟨Nat.le_of_ble_eq_true rfl, Nat.le_of_ble_eq_true rfl⟩ ⟨Nat.le_refl 0, Nat.le_refl 0⟩ rfl (Nat.le_of_ble_eq_true rfl) dX10_setPace_10) hW (fun zr4 zm3 H locs h hW => ?_)
      refine lv_if_eq (tgt := 23) hx hb dX10_setPace_13 rfl (fun c => ?_) (fun c => ?_)
      · replace h := h.1 c
        refine lv_iconst hx hb dX10_setPace_23 zc_im1 ?_
        exact zreti X hr hlk hW h dX10_setPace_24
      · replace h := h.2 c
        refine lv_iload_n hx hb dX10_setPace_16 rfl (lv_at hl 3 rfl) ?_
        refine zcalli (zrunS (As := [.int a3]) (rest := []) X hml hl hW zk_Main_171 (c_Main_isPace  h) rfl ⟨Nat.le_of_ble_eq_true rfl, Nat.le_of_ble_eq_true rfl⟩ ⟨Nat.le_refl 0, Nat.le_refl 0⟩ rfl (Nat.le_of_ble_eq_true rfl) dX10_setPace_17) hW (fun zr6 zm5 H locs h hW => ?_)
        refine lv_if_ne (tgt := 25) hx hb dX10_setPace_20 rfl (fun c => ?_) (fun c => ?_)
        · replace h := h.1 c
          refine lv_aload_n hx hb dX10_setPace_25 rfl (lv_at hl 0 rfl) ?_
          refine zg_Main_told X hW h0 zu_467 dX10_setPace_26 ?_
          refine lv_iload_n hx hb dX10_setPace_29 rfl (lv_at hl 1 rfl) ?_
          refine lv_iload_n hx hb dX10_setPace_30 rfl (lv_at hl 2 rfl) ?_
          refine zcalli (zrunV (As := [.int a1, .int a2]) (rest := []) X hml hl hW h0.2.2.2.2.1.1 rfl zk_Main_168 (c_Told_paceOf h0.2.2.2.2.1 h) rfl ⟨Nat.le_of_ble_eq_true rfl, Nat.le_of_ble_eq_true rfl⟩ ⟨Nat.le_refl 0, Nat.le_refl 0⟩ rfl (Nat.le_of_ble_eq_true rfl) dX10_setPace_31) hW (fun zr8 zm7 H locs h hW => ?_)
          refine lv_istore (lv' := [(4, .int zr8), (0, .ref (zad w 0)), (1, .int a1), (2, .int a2), (3, .int a3)]) hx hb dX10_setPace_34 hl (Nat.le_of_ble_eq_true rfl) rfl (fun ls hl => ?_)
          refine lv_aload_n hx hb dX10_setPace_36 rfl (lv_at hl 1 rfl) ?_
          refine zg_Main_told X hW h0 zu_467 dX10_setPace_37 ?_
          refine zg_Told_paces X hW h0.2.2.2.2.1 zu_66 dX10_setPace_40 ?_
          refine lv_iload_n hx hb dX10_setPace_43 rfl (lv_at hl 2 rfl) ?_
          refine lv_bipush hx hb dX10_setPace_44 zc_b8 ?_
          refine lv_imul hx hb dX10_setPace_46 ?_
          refine lv_iload_n hx hb dX10_setPace_47 rfl (lv_at hl 3 rfl) ?_
          refine lv_iadd hx hb dX10_setPace_48 ?_
          refine lv_iload_n hx hb dX10_setPace_49 rfl (lv_at hl 4 rfl) ?_
          obtain ⟨g, h⟩ := h
          refine ziast X hW h0.2.2.2.2.1.2.2.2.1 g dX10_setPace_50 (fun H locs zm9 ezm9 hW => ?_)
          replace h := h zm9 ezm9
          refine lv_aload_n hx hb dX10_setPace_51 rfl (lv_at hl 1 rfl) ?_
          refine zcallv (zrunV (As := []) (rest := []) X hml hl hW h0.1 rfl zk_Main_120 (c_Main_forgetAnswers h0 h) rfl ⟨Nat.le_of_ble_eq_true rfl, Nat.le_of_ble_eq_true rfl⟩ ⟨Nat.le_refl 0, Nat.le_refl 0⟩ rfl (Nat.le_of_ble_eq_true rfl) dX10_setPace_52) hW (fun zm10 H locs h hW => ?_)
          refine lv_iload hx hb dX10_setPace_55 (lv_at hl 0 rfl) ?_
          exact zreti X hr hlk hW h dX10_setPace_57
        · replace h := h.2 c
          refine lv_iconst hx hb dX10_setPace_23 zc_im1 ?_
          exact zreti X hr hlk hW h dX10_setPace_24
  exact zMain s.heap [] ls hW hl
def wp_Main_begin  (M : zMem) (Q : Int32 → zMem → Prop) : Prop :=
  ∀ zx1 : Int32, zx1 = M 18 3 → wp_Bench_clear 18 M (fun zm2 => wp_Bench_doAll 18 zm2 (fun zm4 => Q zx1 zm4))
set_option maxHeartbeats 4000000 in
set_option maxRecDepth 20000 in
theorem c_Main_begin {l : Launch} {w : zWd} {M : zMem} {post : Int32 → zMem → Prop} (h0 : zI_Main w) (h : wp_Main_begin  M post) : zMi l ⟨"HandToHand", "begin", "()I"⟩ prog_1_method_10_code 2 (Option.some .int) 4 92 w [.ref (zad w 0)] M post := by
  refine zMet (by decide) (Nat.le_of_ble_eq_true rfl) ?_
  intro p e s m below meth c X hr hlk hml hW ls hl
  have hx := X.1
  have hb := X.2.1
  have hl : lv_has ls 2 [(0, .ref (zad w 0))] := hl
  unfold wp_Main_begin at h
  have zMain : ∀ (H : Heap) (locs : List Loc) (ls : Array Slot), zWo w s.heap M H locs → lv_has ls 2 [(0, .ref (zad w 0))] → W p l e (zRm 4 92) s m ([.ref (zad w 0)] : List Value).toArray below meth c H locs 0 0 (MQ below (va_Qi post (zB w) (zA w)) ([.ref (zad w 0)] : List Value).toArray s 0 0 (zA w)) (F0 m 0 ls []) := by
    intro H locs ls hW hl
    refine lv_aload_n hx hb dX10_begin_0 rfl (lv_at hl 0 rfl) ?_
    refine zg_Main_bench X hW h0 zu_470 dX10_begin_1 ?_
    refine zg_Bench_done X hW h0.2.2.2.2.2.2.2.1 zu_169 dX10_begin_4 ?_
    refine lv_topi (fun zx1 ezx1 => ?_)
    replace h := h zx1 ezx1
    refine lv_istore_n (lv' := [(1, .int zx1), (0, .ref (zad w 0))]) hx hb dX10_begin_7 rfl hl (Nat.le_of_ble_eq_true rfl) rfl (fun ls hl => ?_)
    refine lv_aload_n hx hb dX10_begin_8 rfl (lv_at hl 1 rfl) ?_
    refine zg_Main_bench X hW h0 zu_470 dX10_begin_9 ?_
    refine zcallv (zrunV (As := []) (rest := []) X hml hl hW h0.2.2.2.2.2.2.2.1.1 rfl zk_Main_93 (c_Bench_clear h0.2.2.2.2.2.2.2.1 h) rfl ⟨Nat.le_of_ble_eq_true rfl, Nat.le_of_ble_eq_true rfl⟩ ⟨Nat.le_refl 0, Nat.le_refl 0⟩ rfl (Nat.le_of_ble_eq_true rfl) dX10_begin_12) hW (fun zm2 H locs h hW => ?_)
    refine lv_aload_n hx hb dX10_begin_15 rfl (lv_at hl 1 rfl) ?_
    refine zg_Main_bench X hW h0 zu_470 dX10_begin_16 ?_
    refine zcallv (zrunV (As := []) (rest := []) X hml hl hW h0.2.2.2.2.2.2.2.1.1 rfl zk_Main_96 (c_Bench_doAll h0.2.2.2.2.2.2.2.1 h) rfl ⟨Nat.le_of_ble_eq_true rfl, Nat.le_of_ble_eq_true rfl⟩ ⟨Nat.le_refl 0, Nat.le_refl 0⟩ rfl (Nat.le_of_ble_eq_true rfl) dX10_begin_19) hW (fun zm4 H locs h hW => ?_)
    refine lv_iload_n hx hb dX10_begin_22 rfl (lv_at hl 0 rfl) ?_
    exact zreti X hr hlk hW h dX10_begin_23
  exact zMain s.heap [] ls hW hl
def wpJ_Main_go_63 (a1 : Int32)  (J : Int32 → Int32 → zMem → Prop) (Q : Int32 → zMem → Prop) (x_2 : Int32) (x_3 : Int32) (x_4 : Int32) (s_0 : Int32) (M : zMem) : Prop :=
  wp_Bench_letPass 18 s_0 M (fun zm4 => wp_Bench_doAll 18 zm4 (fun zm6 => ∀ zx8 : Int32, zx8 = x_3 - s_0 → ∀ zx9 : Int32, zx9 = x_4 + 1 → J zx8 zx9 zm6))
def wpJ_Main_go_57 (a1 : Int32)  (J : Int32 → Int32 → zMem → Prop) (Q : Int32 → zMem → Prop) (x_2 : Int32) (x_3 : Int32) (x_4 : Int32)  (M : zMem) : Prop :=
  wpJ_Main_go_63 a1 J Q x_2 x_3 x_4 x_3 M
def wpB_Main_go_27 (a1 : Int32) (x_2 : Int32)  (Q : Int32 → zMem → Prop) (J : Int32 → Int32 → zMem → Prop) (x_3 : Int32) (x_4 : Int32) (M : zMem) : Prop :=
  (a1 ≤ x_4 → Q ((M 18 3) - x_2) M) ∧ (¬ a1 ≤ x_4 → (x_3 ≤ 0 → Q ((M 18 3) - x_2) M) ∧ (¬ x_3 ≤ 0 → wp_Bench_leastLeft 18 M (fun zr3 zm2 => (zr3 = 0 → wpJ_Main_go_57 a1 J Q x_2 x_3 x_4 zm2) ∧ (¬ zr3 = 0 → (zr3 ≤ x_3 → wpJ_Main_go_63 a1 J Q x_2 x_3 x_4 zr3 zm2) ∧ (¬ zr3 ≤ x_3 → wpJ_Main_go_57 a1 J Q x_2 x_3 x_4 zm2)))))
def wp_Main_go (a1 : Int32) (M : zMem) (Q : Int32 → zMem → Prop) : Prop :=
  (a1 < 1 → Q ((-1)) M) ∧ (¬ a1 < 1 → (a1 ≤ 9999 → ∀ zx1 : Int32, zx1 = M 18 3 → ∃ n : Nat, zlp2 (wpB_Main_go_27 a1 zx1  Q) n a1 0 M) ∧ (¬ a1 ≤ 9999 → Q ((-1)) M))
set_option maxHeartbeats 4000000 in
set_option maxRecDepth 20000 in
theorem c_Main_go {l : Launch} {w : zWd} {a1 : Int32} {M : zMem} {post : Int32 → zMem → Prop} (h0 : zI_Main w) (h : wp_Main_go a1 M post) : zMi l ⟨"HandToHand", "go", "(I)I"⟩ prog_1_method_11_code 7 (Option.some .int) 4 92 w [.ref (zad w 0), .int a1] M post := by
  refine zMet (by decide) (Nat.le_of_ble_eq_true rfl) ?_
  intro p e s m below meth c X hr hlk hml hW ls hl
  have hx := X.1
  have hb := X.2.1
  have hl : lv_has ls 7 [(0, .ref (zad w 0)), (1, .int a1)] := hl
  have zJ_63 : ∀ (x_2 : Int32) (x_3 : Int32) (x_4 : Int32) (s_0 : Int32) (J : Int32 → Int32 → zMem → Prop) (zJ : ∀ (y_3 : Int32) (y_4 : Int32) (M : zMem) (H : Heap) (locs : List Loc) (ls : Array Slot), zWo w s.heap M H locs → lv_has ls 7 [(0, .ref (zad w 0)), (1, .int a1), (2, .int x_2), (3, .int y_3), (4, .int y_4)] → J y_3 y_4 M → W p l e (zRm 4 92) s m ([.ref (zad w 0), .int a1] : List Value).toArray below meth c H locs 0 0 (MQ below (va_Qi post (zB w) (zA w)) ([.ref (zad w 0), .int a1] : List Value).toArray s 0 0 (zA w)) (F0 m 27 ls [])) (M : zMem) (H : Heap) (locs : List Loc) (ls : Array Slot), zWo w s.heap M H locs → lv_has ls 7 [(0, .ref (zad w 0)), (1, .int a1), (2, .int x_2), (3, .int x_3), (4, .int x_4)] → wpJ_Main_go_63 a1 J post x_2 x_3 x_4 s_0 M → W p l e (zRm 4 92) s m ([.ref (zad w 0), .int a1] : List Value).toArray below meth c H locs 0 0 (MQ below (va_Qi post (zB w) (zA w)) ([.ref (zad w 0), .int a1] : List Value).toArray s 0 0 (zA w)) (F0 m 63 ls [.int s_0]) := by
    intro x_2 x_3 x_4 s_0 J zJ M H locs ls hW hl h
    unfold wpJ_Main_go_63 at h
    refine lv_istore (lv' := [(6, .int s_0), (0, .ref (zad w 0)), (1, .int a1), (2, .int x_2), (3, .int x_3), (4, .int x_4)]) hx hb dX10_go_63 hl (Nat.le_of_ble_eq_true rfl) rfl (fun ls hl => ?_)
    refine lv_aload_n hx hb dX10_go_65 rfl (lv_at hl 1 rfl) ?_
    refine zg_Main_bench X hW h0 zu_470 dX10_go_66 ?_
    refine lv_iload hx hb dX10_go_69 (lv_at hl 0 rfl) ?_
    refine zcallv (zrunV (As := [.int s_0]) (rest := []) X hml hl hW h0.2.2.2.2.2.2.2.1.1 rfl zk_Main_184 (c_Bench_letPass h0.2.2.2.2.2.2.2.1 h) rfl ⟨Nat.le_of_ble_eq_true rfl, Nat.le_of_ble_eq_true rfl⟩ ⟨Nat.le_refl 0, Nat.le_refl 0⟩ rfl (Nat.le_of_ble_eq_true rfl) dX10_go_71) hW (fun zm4 H locs h hW => ?_)
    refine lv_aload_n hx hb dX10_go_74 rfl (lv_at hl 1 rfl) ?_
    refine zg_Main_bench X hW h0 zu_470 dX10_go_75 ?_
    refine zcallv (zrunV (As := []) (rest := []) X hml hl hW h0.2.2.2.2.2.2.2.1.1 rfl zk_Main_96 (c_Bench_doAll h0.2.2.2.2.2.2.2.1 h) rfl ⟨Nat.le_of_ble_eq_true rfl, Nat.le_of_ble_eq_true rfl⟩ ⟨Nat.le_refl 0, Nat.le_refl 0⟩ rfl (Nat.le_of_ble_eq_true rfl) dX10_go_78) hW (fun zm6 H locs h hW => ?_)
    refine lv_iload_n hx hb dX10_go_81 rfl (lv_at hl 4 rfl) ?_
    refine lv_iload hx hb dX10_go_82 (lv_at hl 0 rfl) ?_
    refine lv_isub hx hb dX10_go_84 ?_
    refine lv_topi (fun zx8 ezx8 => ?_)
    replace h := h zx8 ezx8
    refine lv_istore_n (lv' := [(3, .int zx8), (6, .int s_0), (0, .ref (zad w 0)), (1, .int a1), (2, .int x_2), (4, .int x_4)]) hx hb dX10_go_85 rfl hl (Nat.le_of_ble_eq_true rfl) rfl (fun ls hl => ?_)
    obtain ⟨zx9, ezx9⟩ : ∃ y : Int32, y = x_4 + 1 := ⟨_, rfl⟩
    replace h := h zx9 ezx9
    refine lv_iinc (v := zx9) (lv' := [(4, .int zx9), (3, .int zx8), (6, .int s_0), (0, .ref (zad w 0)), (1, .int a1), (2, .int x_2)]) hx hb dX10_go_86 hl (k := 5) rfl (by rw [ezx9, zc_i1]) (Nat.le_of_ble_eq_true rfl) rfl (fun ls hl => ?_)
    refine lv_goto (tgt := 27) hx hb dX10_go_89 rfl ?_
    exact zJ zx8 zx9 zm6 H locs ls hW (lv_sub hl [3, 4, 5, 1, 0] rfl) h
  have zJ_57 : ∀ (x_2 : Int32) (x_3 : Int32) (x_4 : Int32) (J : Int32 → Int32 → zMem → Prop) (zJ : ∀ (y_3 : Int32) (y_4 : Int32) (M : zMem) (H : Heap) (locs : List Loc) (ls : Array Slot), zWo w s.heap M H locs → lv_has ls 7 [(0, .ref (zad w 0)), (1, .int a1), (2, .int x_2), (3, .int y_3), (4, .int y_4)] → J y_3 y_4 M → W p l e (zRm 4 92) s m ([.ref (zad w 0), .int a1] : List Value).toArray below meth c H locs 0 0 (MQ below (va_Qi post (zB w) (zA w)) ([.ref (zad w 0), .int a1] : List Value).toArray s 0 0 (zA w)) (F0 m 27 ls [])) (M : zMem) (H : Heap) (locs : List Loc) (ls : Array Slot), zWo w s.heap M H locs → lv_has ls 7 [(0, .ref (zad w 0)), (1, .int a1), (2, .int x_2), (3, .int x_3), (4, .int x_4)] → wpJ_Main_go_57 a1 J post x_2 x_3 x_4 M → W p l e (zRm 4 92) s m ([.ref (zad w 0), .int a1] : List Value).toArray below meth c H locs 0 0 (MQ below (va_Qi post (zB w) (zA w)) ([.ref (zad w 0), .int a1] : List Value).toArray s 0 0 (zA w)) (F0 m 57 ls []) := by
    intro x_2 x_3 x_4 J zJ M H locs ls hW hl h
    unfold wpJ_Main_go_57 at h
    refine lv_iload_n hx hb dX10_go_57 rfl (lv_at hl 3 rfl) ?_
    refine lv_goto (tgt := 63) hx hb dX10_go_58 rfl ?_
    exact zJ_63 x_2 x_3 x_4 x_3 _ zJ M H locs ls hW (lv_sub hl [0, 1, 2, 3, 4] rfl) h
  have zL_27 : ∀ (x_2 : Int32), ∀ (n : Nat) (x_3 : Int32) (x_4 : Int32) (M : zMem) (H : Heap) (locs : List Loc) (ls : Array Slot), zWo w s.heap M H locs → lv_has ls 7 [(0, .ref (zad w 0)), (1, .int a1), (2, .int x_2), (3, .int x_3), (4, .int x_4)] → zlp2 (wpB_Main_go_27 a1 x_2  post) n x_3 x_4 M → W p l e (zRm 4 92) s m ([.ref (zad w 0), .int a1] : List Value).toArray below meth c H locs 0 0 (MQ below (va_Qi post (zB w) (zA w)) ([.ref (zad w 0), .int a1] : List Value).toArray s 0 0 (zA w)) (F0 m 27 ls []) := by
    intro x_2 n
    induction n with
    | zero => intro x_3 x_4 M H locs ls hW hl h; exact h.elim
    | succ n zJ =>
      intro x_3 x_4 M H locs ls hW hl h
      have h : wpB_Main_go_27 a1 x_2  post (zlp2 (wpB_Main_go_27 a1 x_2  post) n) x_3 x_4 M := h
      unfold wpB_Main_go_27 at h
      refine lv_iload hx hb dX10_go_27 (lv_at hl 4 rfl) ?_
      refine lv_iload_n hx hb dX10_go_29 rfl (lv_at hl 1 rfl) ?_
      refine lv_icmp_ge (tgt := 92) hx hb dX10_go_30 rfl (fun c => ?_) (fun c => ?_)
      · replace h := h.1 c
        refine lv_aload_n hx hb dX10_go_92 rfl (lv_at hl 0 rfl) ?_
        refine zg_Main_bench X hW h0 zu_470 dX10_go_93 ?_
        refine zg_Bench_done X hW h0.2.2.2.2.2.2.2.1 zu_169 dX10_go_96 ?_
        refine lv_iload_n hx hb dX10_go_99 rfl (lv_at hl 2 rfl) ?_
        refine lv_isub hx hb dX10_go_100 ?_
        exact zreti X hr hlk hW h dX10_go_101
      · replace h := h.2 c
        refine lv_iload_n hx hb dX10_go_33 rfl (lv_at hl 3 rfl) ?_
        refine lv_if_le (tgt := 92) hx hb dX10_go_34 rfl (fun c => ?_) (fun c => ?_)
        · replace h := h.1 c
          refine lv_aload_n hx hb dX10_go_92 rfl (lv_at hl 0 rfl) ?_
          refine zg_Main_bench X hW h0 zu_470 dX10_go_93 ?_
          refine zg_Bench_done X hW h0.2.2.2.2.2.2.2.1 zu_169 dX10_go_96 ?_
          refine lv_iload_n hx hb dX10_go_99 rfl (lv_at hl 2 rfl) ?_
          refine lv_isub hx hb dX10_go_100 ?_
          exact zreti X hr hlk hW h dX10_go_101
        · replace h := h.2 c
          refine lv_aload_n hx hb dX10_go_37 rfl (lv_at hl 0 rfl) ?_
          refine zg_Main_bench X hW h0 zu_470 dX10_go_38 ?_
          refine zcalli (zrunV (As := []) (rest := []) X hml hl hW h0.2.2.2.2.2.2.2.1.1 rfl zk_Main_180 (c_Bench_leastLeft h0.2.2.2.2.2.2.2.1 h) rfl ⟨Nat.le_of_ble_eq_true rfl, Nat.le_of_ble_eq_true rfl⟩ ⟨Nat.le_refl 0, Nat.le_refl 0⟩ rfl (Nat.le_of_ble_eq_true rfl) dX10_go_41) hW (fun zr3 zm2 H locs h hW => ?_)
          refine lv_istore (lv' := [(5, .int zr3), (0, .ref (zad w 0)), (1, .int a1), (2, .int x_2), (3, .int x_3), (4, .int x_4)]) hx hb dX10_go_44 hl (Nat.le_of_ble_eq_true rfl) rfl (fun ls hl => ?_)
          refine lv_iload hx hb dX10_go_46 (lv_at hl 0 rfl) ?_
          refine lv_if_eq (tgt := 57) hx hb dX10_go_48 rfl (fun c => ?_) (fun c => ?_)
          · replace h := h.1 c
            exact zJ_57 x_2 x_3 x_4 _ zJ zm2 H locs ls hW (lv_sub hl [1, 2, 3, 4, 5] rfl) h
          · replace h := h.2 c
            refine lv_iload hx hb dX10_go_51 (lv_at hl 0 rfl) ?_
            refine lv_iload_n hx hb dX10_go_53 rfl (lv_at hl 4 rfl) ?_
            refine lv_icmp_le (tgt := 61) hx hb dX10_go_54 rfl (fun c => ?_) (fun c => ?_)
            · replace h := h.1 c
              refine lv_iload hx hb dX10_go_61 (lv_at hl 0 rfl) ?_
              exact zJ_63 x_2 x_3 x_4 zr3 _ zJ zm2 H locs ls hW (lv_sub hl [1, 2, 3, 4, 5] rfl) h
            · replace h := h.2 c
              exact zJ_57 x_2 x_3 x_4 _ zJ zm2 H locs ls hW (lv_sub hl [1, 2, 3, 4, 5] rfl) h
  unfold wp_Main_go at h
  have zMain : ∀ (H : Heap) (locs : List Loc) (ls : Array Slot), zWo w s.heap M H locs → lv_has ls 7 [(0, .ref (zad w 0)), (1, .int a1)] → W p l e (zRm 4 92) s m ([.ref (zad w 0), .int a1] : List Value).toArray below meth c H locs 0 0 (MQ below (va_Qi post (zB w) (zA w)) ([.ref (zad w 0), .int a1] : List Value).toArray s 0 0 (zA w)) (F0 m 0 ls []) := by
    intro H locs ls hW hl
    refine lv_iload_n hx hb dX10_go_0 rfl (lv_at hl 1 rfl) ?_
    refine lv_iconst hx hb dX10_go_1 zc_i1 ?_
    refine lv_icmp_lt (tgt := 12) hx hb dX10_go_2 rfl (fun c => ?_) (fun c => ?_)
    · replace h := h.1 c
      refine lv_iconst hx hb dX10_go_12 zc_im1 ?_
      exact zreti X hr hlk hW h dX10_go_13
    · replace h := h.2 c
      refine lv_iload_n hx hb dX10_go_5 rfl (lv_at hl 1 rfl) ?_
      refine lv_sipush hx hb dX10_go_6 zc_s9999 ?_
      refine lv_icmp_le (tgt := 14) hx hb dX10_go_9 rfl (fun c => ?_) (fun c => ?_)
      · replace h := h.1 c
        refine lv_aload_n hx hb dX10_go_14 rfl (lv_at hl 0 rfl) ?_
        refine zg_Main_bench X hW h0 zu_470 dX10_go_15 ?_
        refine zg_Bench_done X hW h0.2.2.2.2.2.2.2.1 zu_169 dX10_go_18 ?_
        refine lv_topi (fun zx1 ezx1 => ?_)
        replace h := h zx1 ezx1
        refine lv_istore_n (lv' := [(2, .int zx1), (0, .ref (zad w 0)), (1, .int a1)]) hx hb dX10_go_21 rfl hl (Nat.le_of_ble_eq_true rfl) rfl (fun ls hl => ?_)
        refine lv_iload_n hx hb dX10_go_22 rfl (lv_at hl 2 rfl) ?_
        refine lv_istore_n (lv' := [(3, .int a1), (2, .int zx1), (0, .ref (zad w 0)), (1, .int a1)]) hx hb dX10_go_23 rfl hl (Nat.le_of_ble_eq_true rfl) rfl (fun ls hl => ?_)
        refine lv_iconst hx hb dX10_go_24 zc_i0 ?_
        refine lv_istore (lv' := [(4, .int 0), (3, .int a1), (2, .int zx1), (0, .ref (zad w 0)), (1, .int a1)]) hx hb dX10_go_25 hl (Nat.le_of_ble_eq_true rfl) rfl (fun ls hl => ?_)
        obtain ⟨n, h⟩ := h
        refine zL_27 zx1  n a1 0 M H locs ls hW (lv_sub hl [3, 4, 2, 1, 0] rfl) h
      · replace h := h.2 c
        refine lv_iconst hx hb dX10_go_12 zc_im1 ?_
        exact zreti X hr hlk hW h dX10_go_13
  exact zMain s.heap [] ls hW hl
def wp_Main_night  (M : zMem) (Q : Int32 → zMem → Prop) : Prop :=
  wp_Bench_coatsInHand 18 M (fun zr2 zm1 => wp_Bench_makeReady 18 zm1 (fun zm3 => wp_Bench_doAll 18 zm3 (fun zm5 => Q zr2 zm5)))
set_option maxHeartbeats 4000000 in
set_option maxRecDepth 20000 in
theorem c_Main_night {l : Launch} {w : zWd} {M : zMem} {post : Int32 → zMem → Prop} (h0 : zI_Main w) (h : wp_Main_night  M post) : zMi l ⟨"HandToHand", "night", "()I"⟩ prog_1_method_12_code 2 (Option.some .int) 4 92 w [.ref (zad w 0)] M post := by
  refine zMet (by decide) (Nat.le_of_ble_eq_true rfl) ?_
  intro p e s m below meth c X hr hlk hml hW ls hl
  have hx := X.1
  have hb := X.2.1
  have hl : lv_has ls 2 [(0, .ref (zad w 0))] := hl
  unfold wp_Main_night at h
  have zMain : ∀ (H : Heap) (locs : List Loc) (ls : Array Slot), zWo w s.heap M H locs → lv_has ls 2 [(0, .ref (zad w 0))] → W p l e (zRm 4 92) s m ([.ref (zad w 0)] : List Value).toArray below meth c H locs 0 0 (MQ below (va_Qi post (zB w) (zA w)) ([.ref (zad w 0)] : List Value).toArray s 0 0 (zA w)) (F0 m 0 ls []) := by
    intro H locs ls hW hl
    refine lv_aload_n hx hb dX10_night_0 rfl (lv_at hl 0 rfl) ?_
    refine zg_Main_bench X hW h0 zu_470 dX10_night_1 ?_
    refine zcalli (zrunV (As := []) (rest := []) X hml hl hW h0.2.2.2.2.2.2.2.1.1 rfl zk_Main_188 (c_Bench_coatsInHand h0.2.2.2.2.2.2.2.1 h) rfl ⟨Nat.le_of_ble_eq_true rfl, Nat.le_of_ble_eq_true rfl⟩ ⟨Nat.le_refl 0, Nat.le_refl 0⟩ rfl (Nat.le_of_ble_eq_true rfl) dX10_night_4) hW (fun zr2 zm1 H locs h hW => ?_)
    refine lv_istore_n (lv' := [(1, .int zr2), (0, .ref (zad w 0))]) hx hb dX10_night_7 rfl hl (Nat.le_of_ble_eq_true rfl) rfl (fun ls hl => ?_)
    refine lv_aload_n hx hb dX10_night_8 rfl (lv_at hl 1 rfl) ?_
    refine zg_Main_bench X hW h0 zu_470 dX10_night_9 ?_
    refine zcallv (zrunV (As := []) (rest := []) X hml hl hW h0.2.2.2.2.2.2.2.1.1 rfl zk_Main_191 (c_Bench_makeReady h0.2.2.2.2.2.2.2.1 h) rfl ⟨Nat.le_of_ble_eq_true rfl, Nat.le_of_ble_eq_true rfl⟩ ⟨Nat.le_refl 0, Nat.le_refl 0⟩ rfl (Nat.le_of_ble_eq_true rfl) dX10_night_12) hW (fun zm3 H locs h hW => ?_)
    refine lv_aload_n hx hb dX10_night_15 rfl (lv_at hl 1 rfl) ?_
    refine zg_Main_bench X hW h0 zu_470 dX10_night_16 ?_
    refine zcallv (zrunV (As := []) (rest := []) X hml hl hW h0.2.2.2.2.2.2.2.1.1 rfl zk_Main_96 (c_Bench_doAll h0.2.2.2.2.2.2.2.1 h) rfl ⟨Nat.le_of_ble_eq_true rfl, Nat.le_of_ble_eq_true rfl⟩ ⟨Nat.le_refl 0, Nat.le_refl 0⟩ rfl (Nat.le_of_ble_eq_true rfl) dX10_night_19) hW (fun zm5 H locs h hW => ?_)
    refine lv_iload_n hx hb dX10_night_22 rfl (lv_at hl 0 rfl) ?_
    exact zreti X hr hlk hW h dX10_night_23
  exact zMain s.heap [] ls hW hl
def wp_Main_now (a1 : Int32) (M : zMem) (Q : Int32 → zMem → Prop) : Prop :=
  ∀ zx1 : Int32, zx1 = a1 → (zx1 = 0 → Q (M 18 2) M) ∧ (zx1 = 1 → Q (M 18 3) M) ∧ (zx1 = 2 → Q (M 18 4) M) ∧ (zx1 = 3 → wp_Bench_leastLeft 18 M (fun zr3 zm2 => (¬ zr3 = 0 → Q 0 zm2) ∧ (zr3 = 0 → Q 1 zm2))) ∧ (zx1 = 4 → Q (M 18 5) M) ∧ (¬ zx1 = 0 → ¬ zx1 = 1 → ¬ zx1 = 2 → ¬ zx1 = 3 → ¬ zx1 = 4 → Q ((-1)) M)
set_option maxHeartbeats 4000000 in
set_option maxRecDepth 20000 in
theorem c_Main_now {l : Launch} {w : zWd} {a1 : Int32} {M : zMem} {post : Int32 → zMem → Prop} (h0 : zI_Main w) (h : wp_Main_now a1 M post) : zMi l ⟨"HandToHand", "now", "(I)I"⟩ prog_1_method_13_code 2 (Option.some .int) 1 22 w [.ref (zad w 0), .int a1] M post := by
  refine zMet (by decide) (Nat.le_of_ble_eq_true rfl) ?_
  intro p e s m below meth c X hr hlk hml hW ls hl
  have hx := X.1
  have hb := X.2.1
  have hl : lv_has ls 2 [(0, .ref (zad w 0)), (1, .int a1)] := hl
  unfold wp_Main_now at h
  have zMain : ∀ (H : Heap) (locs : List Loc) (ls : Array Slot), zWo w s.heap M H locs → lv_has ls 2 [(0, .ref (zad w 0)), (1, .int a1)] → W p l e (zRm 1 22) s m ([.ref (zad w 0), .int a1] : List Value).toArray below meth c H locs 0 0 (MQ below (va_Qi post (zB w) (zA w)) ([.ref (zad w 0), .int a1] : List Value).toArray s 0 0 (zA w)) (F0 m 0 ls []) := by
    intro H locs ls hW hl
    refine lv_iload_n hx hb dX10_now_0 rfl (lv_at hl 1 rfl) ?_
    refine lv_topi (fun zx1 ezx1 => ?_)
    replace h := h zx1 ezx1
    by_cases c0 : zx1 = 0
    · replace h := h.1 c0
      refine lv_tableIn (off := 35) (tgt := 36) hx hb dX10_now_1 (by rw [c0]; decide) (by rw [c0]; decide) (by rw [c0]; rfl) rfl ?_
      refine lv_aload_n hx hb dX10_now_36 rfl (lv_at hl 0 rfl) ?_
      refine zg_Main_bench X hW h0 zu_470 dX10_now_37 ?_
      refine zg_Bench_tick X hW h0.2.2.2.2.2.2.2.1 zu_165 dX10_now_40 ?_
      exact zreti X hr hlk hW h dX10_now_43
    replace h := h.2
    by_cases c1 : zx1 = 1
    · replace h := h.1 c1
      refine lv_tableIn (off := 43) (tgt := 44) hx hb dX10_now_1 (by rw [c1]; decide) (by rw [c1]; decide) (by rw [c1]; rfl) rfl ?_
      refine lv_aload_n hx hb dX10_now_44 rfl (lv_at hl 0 rfl) ?_
      refine zg_Main_bench X hW h0 zu_470 dX10_now_45 ?_
      refine zg_Bench_done X hW h0.2.2.2.2.2.2.2.1 zu_169 dX10_now_48 ?_
      exact zreti X hr hlk hW h dX10_now_51
    replace h := h.2
    by_cases c2 : zx1 = 2
    · replace h := h.1 c2
      refine lv_tableIn (off := 51) (tgt := 52) hx hb dX10_now_1 (by rw [c2]; decide) (by rw [c2]; decide) (by rw [c2]; rfl) rfl ?_
      refine lv_aload_n hx hb dX10_now_52 rfl (lv_at hl 0 rfl) ?_
      refine zg_Main_bench X hW h0 zu_470 dX10_now_53 ?_
      refine zg_Bench_handings X hW h0.2.2.2.2.2.2.2.1 zu_171 dX10_now_56 ?_
      exact zreti X hr hlk hW h dX10_now_59
    replace h := h.2
    by_cases c3 : zx1 = 3
    · replace h := h.1 c3
      refine lv_tableIn (off := 59) (tgt := 60) hx hb dX10_now_1 (by rw [c3]; decide) (by rw [c3]; decide) (by rw [c3]; rfl) rfl ?_
      refine lv_aload_n hx hb dX10_now_60 rfl (lv_at hl 0 rfl) ?_
      refine zg_Main_bench X hW h0 zu_470 dX10_now_61 ?_
      refine zcalli (zrunV (As := []) (rest := []) X hml hl hW h0.2.2.2.2.2.2.2.1.1 rfl zk_Main_180 (c_Bench_leastLeft h0.2.2.2.2.2.2.2.1 h) rfl ⟨Nat.le_of_ble_eq_true rfl, Nat.le_of_ble_eq_true rfl⟩ ⟨Nat.le_refl 0, Nat.le_refl 0⟩ rfl (Nat.le_of_ble_eq_true rfl) dX10_now_64) hW (fun zr3 zm2 H locs h hW => ?_)
      refine lv_if_ne (tgt := 74) hx hb dX10_now_67 rfl (fun c => ?_) (fun c => ?_)
      · replace h := h.1 c
        refine lv_iconst hx hb dX10_now_74 zc_i0 ?_
        exact zreti X hr hlk hW h dX10_now_75
      · replace h := h.2 c
        refine lv_iconst hx hb dX10_now_70 zc_i1 ?_
        refine lv_goto (tgt := 75) hx hb dX10_now_71 rfl ?_
        exact zreti X hr hlk hW h dX10_now_75
    replace h := h.2
    by_cases c4 : zx1 = 4
    · replace h := h.1 c4
      refine lv_tableIn (off := 75) (tgt := 76) hx hb dX10_now_1 (by rw [c4]; decide) (by rw [c4]; decide) (by rw [c4]; rfl) rfl ?_
      refine lv_aload_n hx hb dX10_now_76 rfl (lv_at hl 0 rfl) ?_
      refine zg_Main_bench X hW h0 zu_470 dX10_now_77 ?_
      refine zg_Bench_place X hW h0.2.2.2.2.2.2.2.1 zu_174 dX10_now_80 ?_
      exact zreti X hr hlk hW h dX10_now_83
    replace h := h.2
    replace h := h c0 c1 c2 c3 c4
    refine lv_tableOut (tgt := 84) hx hb dX10_now_1 (zsw 4 (Nat.le_of_ble_eq_true rfl) (fun j hj => ?_)) rfl ?_
    · rcases (show j = 0 ∨ j = 1 ∨ j = 2 ∨ j = 3 ∨ j = 4 by omega) with rfl | rfl | rfl | rfl | rfl
      · exact c0
      · exact c1
      · exact c2
      · exact c3
      · exact c4
    refine lv_iconst hx hb dX10_now_84 zc_im1 ?_
    exact zreti X hr hlk hW h dX10_now_85
  exact zMain s.heap [] ls hW hl
def wpJ_Main_hand_27 (a1 : Int32) (a2 : Int32)  (Q : Int32 → zMem → Prop)  (s_0 : Int32) (M : zMem) : Prop :=
  ∀ zx3 : Int32, zx3 = a2 → (zx3 = 0 → vp_in a1 5 ∧ Q (M 19 (ix a1)) M) ∧ (zx3 = 1 → vp_in a1 5 ∧ Q (M 20 (ix a1)) M) ∧ (zx3 = 2 → (s_0 = 0 → Q ((-4)) M) ∧ (¬ s_0 = 0 → vp_in a1 5 ∧ Q (M 21 (ix a1)) M)) ∧ (zx3 = 3 → (s_0 = 0 → Q ((-4)) M) ∧ (¬ s_0 = 0 → vp_in a1 5 ∧ Q (M 22 (ix a1)) M)) ∧ (zx3 = 4 → (s_0 = 0 → Q ((-4)) M) ∧ (¬ s_0 = 0 → vp_in a1 5 ∧ Q (M 23 (ix a1)) M)) ∧ (zx3 = 5 → vp_in a1 5 ∧ Q (M 24 (ix a1)) M) ∧ (¬ zx3 = 0 → ¬ zx3 = 1 → ¬ zx3 = 2 → ¬ zx3 = 3 → ¬ zx3 = 4 → ¬ zx3 = 5 → Q ((-1)) M)
def wp_Main_hand (a1 : Int32) (a2 : Int32) (M : zMem) (Q : Int32 → zMem → Prop) : Prop :=
  wp_Main_isHand a1 M (fun zr2 zm1 => (¬ zr2 = 0 → vp_in a1 5 ∧ ((zm1 21 (ix a1)) < 0 → wpJ_Main_hand_27 a1 a2 Q 0 zm1) ∧ (¬ (zm1 21 (ix a1)) < 0 → wpJ_Main_hand_27 a1 a2 Q 1 zm1)) ∧ (zr2 = 0 → Q ((-1)) zm1))
set_option maxHeartbeats 4000000 in
set_option maxRecDepth 20000 in
theorem c_Main_hand {l : Launch} {w : zWd} {a1 : Int32} {a2 : Int32} {M : zMem} {post : Int32 → zMem → Prop} (h0 : zI_Main w) (h : wp_Main_hand a1 a2 M post) : zMi l ⟨"HandToHand", "hand", "(II)I"⟩ prog_1_method_14_code 4 (Option.some .int) 1 21 w [.ref (zad w 0), .int a1, .int a2] M post := by
  refine zMet (by decide) (Nat.le_of_ble_eq_true rfl) ?_
  intro p e s m below meth c X hr hlk hml hW ls hl
  have hx := X.1
  have hb := X.2.1
  have hl : lv_has ls 4 [(0, .ref (zad w 0)), (1, .int a1), (2, .int a2)] := hl
  have zJ_27 : ∀ (s_0 : Int32) (M : zMem) (H : Heap) (locs : List Loc) (ls : Array Slot), zWo w s.heap M H locs → lv_has ls 4 [(0, .ref (zad w 0)), (1, .int a1), (2, .int a2)] → wpJ_Main_hand_27 a1 a2 post s_0 M → W p l e (zRm 1 21) s m ([.ref (zad w 0), .int a1, .int a2] : List Value).toArray below meth c H locs 0 0 (MQ below (va_Qi post (zB w) (zA w)) ([.ref (zad w 0), .int a1, .int a2] : List Value).toArray s 0 0 (zA w)) (F0 m 27 ls [.int s_0]) := by
    intro s_0 M H locs ls hW hl h
    unfold wpJ_Main_hand_27 at h
    refine lv_istore_n (lv' := [(3, .int s_0), (0, .ref (zad w 0)), (1, .int a1), (2, .int a2)]) hx hb dX10_hand_27 rfl hl (Nat.le_of_ble_eq_true rfl) rfl (fun ls hl => ?_)
    refine lv_iload_n hx hb dX10_hand_28 rfl (lv_at hl 3 rfl) ?_
    refine lv_topi (fun zx3 ezx3 => ?_)
    replace h := h zx3 ezx3
    by_cases c0 : zx3 = 0
    · replace h := h.1 c0
      refine lv_tableIn (off := 39) (tgt := 68) hx hb dX10_hand_29 (by rw [c0]; decide) (by rw [c0]; decide) (by rw [c0]; rfl) rfl ?_
      refine lv_aload_n hx hb dX10_hand_68 rfl (lv_at hl 1 rfl) ?_
      refine zg_Main_bench X hW h0 zu_470 dX10_hand_69 ?_
      refine zg_Bench_doing X hW h0.2.2.2.2.2.2.2.1 zu_176 dX10_hand_72 ?_
      refine lv_iload_n hx hb dX10_hand_75 rfl (lv_at hl 2 rfl) ?_
      obtain ⟨g, h⟩ := h
      refine ziald X hW h0.2.2.2.2.2.2.2.1.2.1 g dX10_hand_76 ?_
      exact zreti X hr hlk hW h dX10_hand_77
    replace h := h.2
    by_cases c1 : zx3 = 1
    · replace h := h.1 c1
      refine lv_tableIn (off := 49) (tgt := 78) hx hb dX10_hand_29 (by rw [c1]; decide) (by rw [c1]; decide) (by rw [c1]; rfl) rfl ?_
      refine lv_aload_n hx hb dX10_hand_78 rfl (lv_at hl 1 rfl) ?_
      refine zg_Main_bench X hW h0 zu_470 dX10_hand_79 ?_
      refine zg_Bench_left X hW h0.2.2.2.2.2.2.2.1 zu_178 dX10_hand_82 ?_
      refine lv_iload_n hx hb dX10_hand_85 rfl (lv_at hl 2 rfl) ?_
      obtain ⟨g, h⟩ := h
      refine ziald X hW h0.2.2.2.2.2.2.2.1.2.2.1 g dX10_hand_86 ?_
      exact zreti X hr hlk hW h dX10_hand_87
    replace h := h.2
    by_cases c2 : zx3 = 2
    · replace h := h.1 c2
      refine lv_tableIn (off := 59) (tgt := 88) hx hb dX10_hand_29 (by rw [c2]; decide) (by rw [c2]; decide) (by rw [c2]; rfl) rfl ?_
      refine lv_iload_n hx hb dX10_hand_88 rfl (lv_at hl 0 rfl) ?_
      refine lv_if_eq (tgt := 104) hx hb dX10_hand_89 rfl (fun c => ?_) (fun c => ?_)
      · replace h := h.1 c
        refine lv_bipush hx hb dX10_hand_104 zc_bm4 ?_
        exact zreti X hr hlk hW h dX10_hand_106
      · replace h := h.2 c
        refine lv_aload_n hx hb dX10_hand_92 rfl (lv_at hl 1 rfl) ?_
        refine zg_Main_bench X hW h0 zu_470 dX10_hand_93 ?_
        refine zg_Bench_piece X hW h0.2.2.2.2.2.2.2.1 zu_180 dX10_hand_96 ?_
        refine lv_iload_n hx hb dX10_hand_99 rfl (lv_at hl 2 rfl) ?_
        obtain ⟨g, h⟩ := h
        refine ziald X hW h0.2.2.2.2.2.2.2.1.2.2.2.1 g dX10_hand_100 ?_
        refine lv_goto (tgt := 106) hx hb dX10_hand_101 rfl ?_
        exact zreti X hr hlk hW h dX10_hand_106
    replace h := h.2
    by_cases c3 : zx3 = 3
    · replace h := h.1 c3
      refine lv_tableIn (off := 78) (tgt := 107) hx hb dX10_hand_29 (by rw [c3]; decide) (by rw [c3]; decide) (by rw [c3]; rfl) rfl ?_
      refine lv_iload_n hx hb dX10_hand_107 rfl (lv_at hl 0 rfl) ?_
      refine lv_if_eq (tgt := 123) hx hb dX10_hand_108 rfl (fun c => ?_) (fun c => ?_)
      · replace h := h.1 c
        refine lv_bipush hx hb dX10_hand_123 zc_bm4 ?_
        exact zreti X hr hlk hW h dX10_hand_125
      · replace h := h.2 c
        refine lv_aload_n hx hb dX10_hand_111 rfl (lv_at hl 1 rfl) ?_
        refine zg_Main_bench X hW h0 zu_470 dX10_hand_112 ?_
        refine zg_Bench_unit X hW h0.2.2.2.2.2.2.2.1 zu_182 dX10_hand_115 ?_
        refine lv_iload_n hx hb dX10_hand_118 rfl (lv_at hl 2 rfl) ?_
        obtain ⟨g, h⟩ := h
        refine ziald X hW h0.2.2.2.2.2.2.2.1.2.2.2.2.1 g dX10_hand_119 ?_
        refine lv_goto (tgt := 125) hx hb dX10_hand_120 rfl ?_
        exact zreti X hr hlk hW h dX10_hand_125
    replace h := h.2
    by_cases c4 : zx3 = 4
    · replace h := h.1 c4
      refine lv_tableIn (off := 97) (tgt := 126) hx hb dX10_hand_29 (by rw [c4]; decide) (by rw [c4]; decide) (by rw [c4]; rfl) rfl ?_
      refine lv_iload_n hx hb dX10_hand_126 rfl (lv_at hl 0 rfl) ?_
      refine lv_if_eq (tgt := 142) hx hb dX10_hand_127 rfl (fun c => ?_) (fun c => ?_)
      · replace h := h.1 c
        refine lv_bipush hx hb dX10_hand_142 zc_bm4 ?_
        exact zreti X hr hlk hW h dX10_hand_144
      · replace h := h.2 c
        refine lv_aload_n hx hb dX10_hand_130 rfl (lv_at hl 1 rfl) ?_
        refine zg_Main_bench X hW h0 zu_470 dX10_hand_131 ?_
        refine zg_Bench_sort X hW h0.2.2.2.2.2.2.2.1 zu_184 dX10_hand_134 ?_
        refine lv_iload_n hx hb dX10_hand_137 rfl (lv_at hl 2 rfl) ?_
        obtain ⟨g, h⟩ := h
        refine ziald X hW h0.2.2.2.2.2.2.2.1.2.2.2.2.2.1 g dX10_hand_138 ?_
        refine lv_goto (tgt := 144) hx hb dX10_hand_139 rfl ?_
        exact zreti X hr hlk hW h dX10_hand_144
    replace h := h.2
    by_cases c5 : zx3 = 5
    · replace h := h.1 c5
      refine lv_tableIn (off := 116) (tgt := 145) hx hb dX10_hand_29 (by rw [c5]; decide) (by rw [c5]; decide) (by rw [c5]; rfl) rfl ?_
      refine lv_aload_n hx hb dX10_hand_145 rfl (lv_at hl 1 rfl) ?_
      refine zg_Main_bench X hW h0 zu_470 dX10_hand_146 ?_
      refine zg_Bench_waited X hW h0.2.2.2.2.2.2.2.1 zu_186 dX10_hand_149 ?_
      refine lv_iload_n hx hb dX10_hand_152 rfl (lv_at hl 2 rfl) ?_
      obtain ⟨g, h⟩ := h
      refine ziald X hW h0.2.2.2.2.2.2.2.1.2.2.2.2.2.2.1 g dX10_hand_153 ?_
      exact zreti X hr hlk hW h dX10_hand_154
    replace h := h.2
    replace h := h c0 c1 c2 c3 c4 c5
    refine lv_tableOut (tgt := 155) hx hb dX10_hand_29 (zsw 5 (Nat.le_of_ble_eq_true rfl) (fun j hj => ?_)) rfl ?_
    · rcases (show j = 0 ∨ j = 1 ∨ j = 2 ∨ j = 3 ∨ j = 4 ∨ j = 5 by omega) with rfl | rfl | rfl | rfl | rfl | rfl
      · exact c0
      · exact c1
      · exact c2
      · exact c3
      · exact c4
      · exact c5
    refine lv_iconst hx hb dX10_hand_155 zc_im1 ?_
    exact zreti X hr hlk hW h dX10_hand_156
  unfold wp_Main_hand at h
  have zMain : ∀ (H : Heap) (locs : List Loc) (ls : Array Slot), zWo w s.heap M H locs → lv_has ls 4 [(0, .ref (zad w 0)), (1, .int a1), (2, .int a2)] → W p l e (zRm 1 21) s m ([.ref (zad w 0), .int a1, .int a2] : List Value).toArray below meth c H locs 0 0 (MQ below (va_Qi post (zB w) (zA w)) ([.ref (zad w 0), .int a1, .int a2] : List Value).toArray s 0 0 (zA w)) (F0 m 0 ls []) := by
    intro H locs ls hW hl
    refine lv_aload_n hx hb dX10_hand_0 rfl (lv_at hl 0 rfl) ?_
    refine lv_iload_n hx hb dX10_hand_1 rfl (lv_at hl 1 rfl) ?_
    refine zcalli (zrunV (As := [.int a1]) (rest := []) X hml hl hW h0.1 rfl zk_Main_165 (c_Main_isHand h0 h) rfl ⟨Nat.le_of_ble_eq_true rfl, Nat.le_of_ble_eq_true rfl⟩ ⟨Nat.le_refl 0, Nat.le_refl 0⟩ rfl (Nat.le_of_ble_eq_true rfl) dX10_hand_2) hW (fun zr2 zm1 H locs h hW => ?_)
    refine lv_if_ne (tgt := 10) hx hb dX10_hand_5 rfl (fun c => ?_) (fun c => ?_)
    · replace h := h.1 c
      refine lv_aload_n hx hb dX10_hand_10 rfl (lv_at hl 0 rfl) ?_
      refine zg_Main_bench X hW h0 zu_470 dX10_hand_11 ?_
      refine zg_Bench_piece X hW h0.2.2.2.2.2.2.2.1 zu_180 dX10_hand_14 ?_
      refine lv_iload_n hx hb dX10_hand_17 rfl (lv_at hl 1 rfl) ?_
      obtain ⟨g, h⟩ := h
      refine ziald X hW h0.2.2.2.2.2.2.2.1.2.2.2.1 g dX10_hand_18 ?_
      refine lv_if_lt (tgt := 26) hx hb dX10_hand_19 rfl (fun c => ?_) (fun c => ?_)
      · replace h := h.1 c
        refine lv_iconst hx hb dX10_hand_26 zc_i0 ?_
        exact zJ_27 0 zm1 H locs ls hW (lv_sub hl [0, 1, 2] rfl) h
      · replace h := h.2 c
        refine lv_iconst hx hb dX10_hand_22 zc_i1 ?_
        refine lv_goto (tgt := 27) hx hb dX10_hand_23 rfl ?_
        exact zJ_27 1 zm1 H locs ls hW (lv_sub hl [0, 1, 2] rfl) h
    · replace h := h.2 c
      refine lv_iconst hx hb dX10_hand_8 zc_im1 ?_
      exact zreti X hr hlk hW h dX10_hand_9
  exact zMain s.heap [] ls hW hl
