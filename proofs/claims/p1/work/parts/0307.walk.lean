def wp_Reader_readNumber (k : Nat) (a1 : Int32) (a2 : Int32) (M : zMem) (Q : Int32 → zMem → Prop) : Prop :=
  wp_Reader_readToken k M (fun zr2 zm1 => (¬ zr2 = 0 → ((zm1 k 7) = 2 → wp_Reader_isWithin k a1 a2 zm1 (fun zr4 zm3 => zbo zr4 ∧ Q zr4 zm3)) ∧ (¬ (zm1 k 7) = 2 → wp_Reader_refuse k 2 (zm1 k 8) zm1 (fun zr6 zm5 => zbo zr6 ∧ Q zr6 zm5))) ∧ (zr2 = 0 → Q 0 zm1))
set_option maxHeartbeats 4000000 in
set_option maxRecDepth 20000 in
theorem c_Reader_readNumber {l : Launch} {w : zWd} {k : Nat} {a1 : Int32} {a2 : Int32} {M : zMem} {post : Int32 → zMem → Prop} (h0 : zI_Reader w k) (h : wp_Reader_readNumber k a1 a2 M post) : zMi l ⟨"HandToHand$Reader", "readNumber", "(II)Z"⟩ prog_7_method_15_code 3 (Option.some .boolean) 8 183 w [.ref (zad w k), .int a1, .int a2] M post := by
  refine zMet (by decide) (Nat.le_of_ble_eq_true rfl) ?_
  intro p e s m below meth c X hr hlk hml hW ls hl
  have hx := X.1
  have hb := X.2.1
  have hl : lv_has ls 3 [(0, .ref (zad w k)), (1, .int a1), (2, .int a2)] := hl
  unfold wp_Reader_readNumber at h
  have zMain : ∀ (H : Heap) (locs : List Loc) (ls : Array Slot), zWo w s.heap M H locs → lv_has ls 3 [(0, .ref (zad w k)), (1, .int a1), (2, .int a2)] → W p l e (zRm 8 183) s m ([.ref (zad w k), .int a1, .int a2] : List Value).toArray below meth c H locs 0 0 (MQ below (va_Qi post (zB w) (zA w)) ([.ref (zad w k), .int a1, .int a2] : List Value).toArray s 0 0 (zA w)) (F0 m 0 ls []) := by
    intro H locs ls hW hl
    refine lv_aload_n hx hb dX5_readNumber_0 rfl (lv_at hl 0 rfl) ?_
    refine zcalli (zrunV (As := []) (rest := []) X hml hl hW h0.1 rfl zk_Reader_51 (c_Reader_readToken h0 h) rfl ⟨Nat.le_of_ble_eq_true rfl, Nat.le_of_ble_eq_true rfl⟩ ⟨Nat.le_refl 0, Nat.le_refl 0⟩ rfl (Nat.le_of_ble_eq_true rfl) dX5_readNumber_1) hW (fun zr2 zm1 H locs h hW => ?_)
    refine lv_if_ne (tgt := 9) hx hb dX5_readNumber_4 rfl (fun c => ?_) (fun c => ?_)
    · replace h := h.1 c
      refine lv_aload_n hx hb dX5_readNumber_9 rfl (lv_at hl 0 rfl) ?_
      refine zg_Reader_kind X hW h0 zu_117 dX5_readNumber_10 ?_
      refine lv_iconst hx hb dX5_readNumber_13 zc_i2 ?_
      refine lv_icmp_eq (tgt := 27) hx hb dX5_readNumber_14 rfl (fun c => ?_) (fun c => ?_)
      · replace h := h.1 c
        refine lv_aload_n hx hb dX5_readNumber_27 rfl (lv_at hl 0 rfl) ?_
        refine lv_iload_n hx hb dX5_readNumber_28 rfl (lv_at hl 1 rfl) ?_
        refine lv_iload_n hx hb dX5_readNumber_29 rfl (lv_at hl 2 rfl) ?_
        refine zcalli (zrunV (As := [.int a1, .int a2]) (rest := []) X hml hl hW h0.1 rfl zk_Reader_140 (c_Reader_isWithin h0 h) rfl ⟨Nat.le_of_ble_eq_true rfl, Nat.le_of_ble_eq_true rfl⟩ ⟨Nat.le_refl 0, Nat.le_refl 0⟩ rfl (Nat.le_of_ble_eq_true rfl) dX5_readNumber_30) hW (fun zr4 zm3 H locs h hW => ?_)
        exact zretz X hr hlk hW (zbo_n h.1) h.2 dX5_readNumber_33
      · replace h := h.2 c
        refine lv_aload_n hx hb dX5_readNumber_17 rfl (lv_at hl 0 rfl) ?_
        refine lv_iconst hx hb dX5_readNumber_18 zc_i2 ?_
        refine lv_aload_n hx hb dX5_readNumber_19 rfl (lv_at hl 0 rfl) ?_
        refine zg_Reader_start X hW h0 zu_118 dX5_readNumber_20 ?_
        refine zcalli (zrunV (As := [.int 2, .int (zm1 k 8)]) (rest := []) X hml hl hW h0.1 rfl zk_Reader_73 (c_Reader_refuse h0 h) rfl ⟨Nat.le_of_ble_eq_true rfl, Nat.le_of_ble_eq_true rfl⟩ ⟨Nat.le_refl 0, Nat.le_refl 0⟩ rfl (Nat.le_of_ble_eq_true rfl) dX5_readNumber_23) hW (fun zr6 zm5 H locs h hW => ?_)
        exact zretz X hr hlk hW (zbo_n h.1) h.2 dX5_readNumber_26
    · replace h := h.2 c
      refine lv_iconst hx hb dX5_readNumber_7 zc_i0 ?_
      exact zretz X hr hlk hW rfl h dX5_readNumber_8
  exact zMain s.heap [] ls hW hl
def wp_Reader_isSign (k : Nat) (M : zMem) (Q : Int32 → zMem → Prop) : Prop :=
  ((M k 7) = 3 → Q 1 M) ∧ (¬ (M k 7) = 3 → wp_Reader_refuse k 2 (M k 8) M (fun zr2 zm1 => (zr2 = 0 → Q 0 zm1) ∧ (¬ zr2 = 0 → Q 1 zm1)))
set_option maxHeartbeats 4000000 in
set_option maxRecDepth 20000 in
theorem c_Reader_isSign {l : Launch} {w : zWd} {k : Nat} {M : zMem} {post : Int32 → zMem → Prop} (h0 : zI_Reader w k) (h : wp_Reader_isSign k M post) : zMi l ⟨"HandToHand$Reader", "isSign", "()Z"⟩ prog_7_method_18_code 1 (Option.some .boolean) 1 22 w [.ref (zad w k)] M post := by
  refine zMet (by decide) (Nat.le_of_ble_eq_true rfl) ?_
  intro p e s m below meth c X hr hlk hml hW ls hl
  have hx := X.1
  have hb := X.2.1
  have hl : lv_has ls 1 [(0, .ref (zad w k))] := hl
  unfold wp_Reader_isSign at h
  have zMain : ∀ (H : Heap) (locs : List Loc) (ls : Array Slot), zWo w s.heap M H locs → lv_has ls 1 [(0, .ref (zad w k))] → W p l e (zRm 1 22) s m ([.ref (zad w k)] : List Value).toArray below meth c H locs 0 0 (MQ below (va_Qi post (zB w) (zA w)) ([.ref (zad w k)] : List Value).toArray s 0 0 (zA w)) (F0 m 0 ls []) := by
    intro H locs ls hW hl
    refine lv_aload_n hx hb dX5_isSign_0 rfl (lv_at hl 0 rfl) ?_
    refine zg_Reader_kind X hW h0 zu_117 dX5_isSign_1 ?_
    refine lv_iconst hx hb dX5_isSign_4 zc_i3 ?_
    refine lv_icmp_eq (tgt := 20) hx hb dX5_isSign_5 rfl (fun c => ?_) (fun c => ?_)
    · replace h := h.1 c
      refine lv_iconst hx hb dX5_isSign_20 zc_i1 ?_
      refine lv_goto (tgt := 25) hx hb dX5_isSign_21 rfl ?_
      exact zretz X hr hlk hW rfl h dX5_isSign_25
    · replace h := h.2 c
      refine lv_aload_n hx hb dX5_isSign_8 rfl (lv_at hl 0 rfl) ?_
      refine lv_iconst hx hb dX5_isSign_9 zc_i2 ?_
      refine lv_aload_n hx hb dX5_isSign_10 rfl (lv_at hl 0 rfl) ?_
      refine zg_Reader_start X hW h0 zu_118 dX5_isSign_11 ?_
      refine zcalli (zrunV (As := [.int 2, .int (M k 8)]) (rest := []) X hml hl hW h0.1 rfl zk_Reader_73 (c_Reader_refuse h0 h) rfl ⟨Nat.le_of_ble_eq_true rfl, Nat.le_of_ble_eq_true rfl⟩ ⟨Nat.le_refl 0, Nat.le_refl 0⟩ rfl (Nat.le_of_ble_eq_true rfl) dX5_isSign_14) hW (fun zr2 zm1 H locs h hW => ?_)
      refine lv_if_eq (tgt := 24) hx hb dX5_isSign_17 rfl (fun c => ?_) (fun c => ?_)
      · replace h := h.1 c
        refine lv_iconst hx hb dX5_isSign_24 zc_i0 ?_
        exact zretz X hr hlk hW rfl h dX5_isSign_25
      · replace h := h.2 c
        refine lv_iconst hx hb dX5_isSign_20 zc_i1 ?_
        refine lv_goto (tgt := 25) hx hb dX5_isSign_21 rfl ?_
        exact zretz X hr hlk hW rfl h dX5_isSign_25
  exact zMain s.heap [] ls hW hl
def wp_Reader_readSign (k : Nat) (M : zMem) (Q : Int32 → zMem → Prop) : Prop :=
  wp_Reader_readToken k M (fun zr2 zm1 => (zr2 = 0 → Q 0 zm1) ∧ (¬ zr2 = 0 → wp_Reader_isSign k zm1 (fun zr4 zm3 => (zr4 = 0 → Q 0 zm3) ∧ (¬ zr4 = 0 → Q 1 zm3))))
set_option maxHeartbeats 4000000 in
set_option maxRecDepth 20000 in
theorem c_Reader_readSign {l : Launch} {w : zWd} {k : Nat} {M : zMem} {post : Int32 → zMem → Prop} (h0 : zI_Reader w k) (h : wp_Reader_readSign k M post) : zMi l ⟨"HandToHand$Reader", "readSign", "()Z"⟩ prog_7_method_17_code 1 (Option.some .boolean) 8 183 w [.ref (zad w k)] M post := by
  refine zMet (by decide) (Nat.le_of_ble_eq_true rfl) ?_
  intro p e s m below meth c X hr hlk hml hW ls hl
  have hx := X.1
  have hb := X.2.1
  have hl : lv_has ls 1 [(0, .ref (zad w k))] := hl
  unfold wp_Reader_readSign at h
  have zMain : ∀ (H : Heap) (locs : List Loc) (ls : Array Slot), zWo w s.heap M H locs → lv_has ls 1 [(0, .ref (zad w k))] → W p l e (zRm 8 183) s m ([.ref (zad w k)] : List Value).toArray below meth c H locs 0 0 (MQ below (va_Qi post (zB w) (zA w)) ([.ref (zad w k)] : List Value).toArray s 0 0 (zA w)) (F0 m 0 ls []) := by
    intro H locs ls hW hl
    refine lv_aload_n hx hb dX5_readSign_0 rfl (lv_at hl 0 rfl) ?_
    refine zcalli (zrunV (As := []) (rest := []) X hml hl hW h0.1 rfl zk_Reader_51 (c_Reader_readToken h0 h) rfl ⟨Nat.le_of_ble_eq_true rfl, Nat.le_of_ble_eq_true rfl⟩ ⟨Nat.le_refl 0, Nat.le_refl 0⟩ rfl (Nat.le_of_ble_eq_true rfl) dX5_readSign_1) hW (fun zr2 zm1 H locs h hW => ?_)
    refine lv_if_eq (tgt := 18) hx hb dX5_readSign_4 rfl (fun c => ?_) (fun c => ?_)
    · replace h := h.1 c
      refine lv_iconst hx hb dX5_readSign_18 zc_i0 ?_
      exact zretz X hr hlk hW rfl h dX5_readSign_19
    · replace h := h.2 c
      refine lv_aload_n hx hb dX5_readSign_7 rfl (lv_at hl 0 rfl) ?_
      refine zcalli (zrunV (As := []) (rest := []) X hml hl hW h0.1 rfl zk_Reader_146 (c_Reader_isSign h0 h) rfl ⟨Nat.le_of_ble_eq_true rfl, Nat.le_of_ble_eq_true rfl⟩ ⟨Nat.le_refl 0, Nat.le_refl 0⟩ rfl (Nat.le_of_ble_eq_true rfl) dX5_readSign_8) hW (fun zr4 zm3 H locs h hW => ?_)
      refine lv_if_eq (tgt := 18) hx hb dX5_readSign_11 rfl (fun c => ?_) (fun c => ?_)
      · replace h := h.1 c
        refine lv_iconst hx hb dX5_readSign_18 zc_i0 ?_
        exact zretz X hr hlk hW rfl h dX5_readSign_19
      · replace h := h.2 c
        refine lv_iconst hx hb dX5_readSign_14 zc_i1 ?_
        refine lv_goto (tgt := 19) hx hb dX5_readSign_15 rfl ?_
        exact zretz X hr hlk hW rfl h dX5_readSign_19
  exact zMain s.heap [] ls hW hl
def wp_Reader_readPiece (k : Nat) (M : zMem) (Q : Int32 → zMem → Prop) : Prop :=
  (¬ (M k 12) = 0 → wp_Reader_refuse k 5 (M k 8) M (fun zr2 zm1 => zbo zr2 ∧ Q zr2 zm1)) ∧ ((M k 12) = 0 → ((M (k + 1) 0) < 8 → wp_Reader_readNumber k 0 6 M (fun zr4 zm3 => (¬ zr4 = 0 → vp_in (zm3 (k + 1) 0) 24 ∧ ∀ zm5 : zMem, zm5 = zup zm3 (k + 3) (ix (zm3 (k + 1) 0)) (zm3 k 9) → ∀ zm6 : zMem, zm6 = zup zm5 (k + 1) 0 ((zm5 (k + 1) 0) + 1) → wp_Reader_readSign k zm6 (fun zr8 zm7 => zbo zr8 ∧ Q zr8 zm7)) ∧ (zr4 = 0 → Q 0 zm3))) ∧ (¬ (M (k + 1) 0) < 8 → wp_Reader_refuse k 5 (M k 8) M (fun zr10 zm9 => zbo zr10 ∧ Q zr10 zm9)))
set_option maxHeartbeats 4000000 in
set_option maxRecDepth 20000 in
theorem c_Reader_readPiece {l : Launch} {w : zWd} {k : Nat} {M : zMem} {post : Int32 → zMem → Prop} (h0 : zI_Reader w k) (h : wp_Reader_readPiece k M post) : zMi l ⟨"HandToHand$Reader", "readPiece", "()Z"⟩ prog_7_method_7_code 1 (Option.some .boolean) 9 205 w [.ref (zad w k)] M post := by
  refine zMet (by decide) (Nat.le_of_ble_eq_true rfl) ?_
  intro p e s m below meth c X hr hlk hml hW ls hl
  have hx := X.1
  have hb := X.2.1
  have hl : lv_has ls 1 [(0, .ref (zad w k))] := hl
  unfold wp_Reader_readPiece at h
  have zMain : ∀ (H : Heap) (locs : List Loc) (ls : Array Slot), zWo w s.heap M H locs → lv_has ls 1 [(0, .ref (zad w k))] → W p l e (zRm 9 205) s m ([.ref (zad w k)] : List Value).toArray below meth c H locs 0 0 (MQ below (va_Qi post (zB w) (zA w)) ([.ref (zad w k)] : List Value).toArray s 0 0 (zA w)) (F0 m 0 ls []) := by
    intro H locs ls hW hl
    refine lv_aload_n hx hb dX5_readPiece_0 rfl (lv_at hl 0 rfl) ?_
    refine zg_Reader_piecesClosed X hW h0 zu_122 dX5_readPiece_1 ?_
    refine lv_if_ne (tgt := 19) hx hb dX5_readPiece_4 rfl (fun c => ?_) (fun c => ?_)
    · replace h := h.1 c
      refine lv_aload_n hx hb dX5_readPiece_19 rfl (lv_at hl 0 rfl) ?_
      refine lv_iconst hx hb dX5_readPiece_20 zc_i5 ?_
      refine lv_aload_n hx hb dX5_readPiece_21 rfl (lv_at hl 0 rfl) ?_
      refine zg_Reader_start X hW h0 zu_118 dX5_readPiece_22 ?_
      refine zcalli (zrunV (As := [.int 5, .int (M k 8)]) (rest := []) X hml hl hW h0.1 rfl zk_Reader_73 (c_Reader_refuse h0 h) rfl ⟨Nat.le_of_ble_eq_true rfl, Nat.le_of_ble_eq_true rfl⟩ ⟨Nat.le_refl 0, Nat.le_refl 0⟩ rfl (Nat.le_of_ble_eq_true rfl) dX5_readPiece_25) hW (fun zr2 zm1 H locs h hW => ?_)
      exact zretz X hr hlk hW (zbo_n h.1) h.2 dX5_readPiece_28
    · replace h := h.2 c
      refine lv_aload_n hx hb dX5_readPiece_7 rfl (lv_at hl 0 rfl) ?_
      refine zg_Reader_draft X hW h0 zu_104 dX5_readPiece_8 ?_
      refine zg_Told_pieces X hW h0.2.2 zu_34 dX5_readPiece_11 ?_
      refine lv_bipush hx hb dX5_readPiece_14 zc_b8 ?_
      refine lv_icmp_lt (tgt := 29) hx hb dX5_readPiece_16 rfl (fun c => ?_) (fun c => ?_)
      · replace h := h.1 c
        refine lv_aload_n hx hb dX5_readPiece_29 rfl (lv_at hl 0 rfl) ?_
        refine lv_iconst hx hb dX5_readPiece_30 zc_i0 ?_
        refine lv_bipush hx hb dX5_readPiece_31 zc_b6 ?_
        refine zcalli (zrunV (As := [.int 0, .int 6]) (rest := []) X hml hl hW h0.1 rfl zk_Reader_131 (c_Reader_readNumber h0 h) rfl ⟨Nat.le_of_ble_eq_true rfl, Nat.le_of_ble_eq_true rfl⟩ ⟨Nat.le_refl 0, Nat.le_refl 0⟩ rfl (Nat.le_of_ble_eq_true rfl) dX5_readPiece_33) hW (fun zr4 zm3 H locs h hW => ?_)
        refine lv_if_ne (tgt := 41) hx hb dX5_readPiece_36 rfl (fun c => ?_) (fun c => ?_)
        · replace h := h.1 c
          refine lv_aload_n hx hb dX5_readPiece_41 rfl (lv_at hl 0 rfl) ?_
          refine zg_Reader_draft X hW h0 zu_104 dX5_readPiece_42 ?_
          refine zg_Told_units X hW h0.2.2 zu_64 dX5_readPiece_45 ?_
          refine lv_aload_n hx hb dX5_readPiece_48 rfl (lv_at hl 0 rfl) ?_
          refine zg_Reader_draft X hW h0 zu_104 dX5_readPiece_49 ?_
          refine zg_Told_pieces X hW h0.2.2 zu_34 dX5_readPiece_52 ?_
          refine lv_aload_n hx hb dX5_readPiece_55 rfl (lv_at hl 0 rfl) ?_
          refine zg_Reader_value X hW h0 zu_119 dX5_readPiece_56 ?_
          obtain ⟨g, h⟩ := h
          refine ziast X hW h0.2.2.2.2.1 g dX5_readPiece_59 (fun H locs zm5 ezm5 hW => ?_)
          replace h := h zm5 ezm5
          refine lv_aload_n hx hb dX5_readPiece_60 rfl (lv_at hl 0 rfl) ?_
          refine zg_Reader_draft X hW h0 zu_104 dX5_readPiece_61 ?_
          refine lv_dup hx hb dX5_readPiece_64 rfl ?_
          refine zg_Told_pieces X hW h0.2.2 zu_34 dX5_readPiece_65 ?_
          refine lv_iconst hx hb dX5_readPiece_68 zc_i1 ?_
          refine lv_iadd hx hb dX5_readPiece_69 ?_
          refine zp_Told_pieces X hW h0.2.2 zu_34 dX5_readPiece_70 (fun H locs zm6 ezm6 hW => ?_)
          replace h := h zm6 ezm6
          refine lv_aload_n hx hb dX5_readPiece_73 rfl (lv_at hl 0 rfl) ?_
          refine zcalli (zrunV (As := []) (rest := []) X hml hl hW h0.1 rfl zk_Reader_125 (c_Reader_readSign h0 h) rfl ⟨Nat.le_of_ble_eq_true rfl, Nat.le_of_ble_eq_true rfl⟩ ⟨Nat.le_refl 0, Nat.le_refl 0⟩ rfl (Nat.le_of_ble_eq_true rfl) dX5_readPiece_74) hW (fun zr8 zm7 H locs h hW => ?_)
          exact zretz X hr hlk hW (zbo_n h.1) h.2 dX5_readPiece_77
        · replace h := h.2 c
          refine lv_iconst hx hb dX5_readPiece_39 zc_i0 ?_
          exact zretz X hr hlk hW rfl h dX5_readPiece_40
      · replace h := h.2 c
        refine lv_aload_n hx hb dX5_readPiece_19 rfl (lv_at hl 0 rfl) ?_
        refine lv_iconst hx hb dX5_readPiece_20 zc_i5 ?_
        refine lv_aload_n hx hb dX5_readPiece_21 rfl (lv_at hl 0 rfl) ?_
        refine zg_Reader_start X hW h0 zu_118 dX5_readPiece_22 ?_
        refine zcalli (zrunV (As := [.int 5, .int (M k 8)]) (rest := []) X hml hl hW h0.1 rfl zk_Reader_73 (c_Reader_refuse h0 h) rfl ⟨Nat.le_of_ble_eq_true rfl, Nat.le_of_ble_eq_true rfl⟩ ⟨Nat.le_refl 0, Nat.le_refl 0⟩ rfl (Nat.le_of_ble_eq_true rfl) dX5_readPiece_25) hW (fun zr10 zm9 H locs h hW => ?_)
        exact zretz X hr hlk hW (zbo_n h.1) h.2 dX5_readPiece_28
  exact zMain s.heap [] ls hW hl
def wp_Reader_readWhole (k : Nat) (M : zMem) (Q : Int32 → zMem → Prop) : Prop :=
  wp_Reader_readNumber k 0 ((M (k + 1) 0) - 1) M (fun zr2 zm1 => (¬ zr2 = 0 → (¬ (((zm1 (k + 1) 5) >>> ((zm1 k 9) &&& 31)) &&& 1) = 1 → ∀ zm3 : zMem, zm3 = zup zm1 (k + 1) 5 ((zm1 (k + 1) 5) ||| (1 <<< ((zm1 k 9) &&& 31))) → wp_Reader_readSign k zm3 (fun zr5 zm4 => zbo zr5 ∧ Q zr5 zm4)) ∧ ((((zm1 (k + 1) 5) >>> ((zm1 k 9) &&& 31)) &&& 1) = 1 → wp_Reader_refuse k 4 (zm1 k 8) zm1 (fun zr7 zm6 => zbo zr7 ∧ Q zr7 zm6))) ∧ (zr2 = 0 → Q 0 zm1))
set_option maxHeartbeats 4000000 in
set_option maxRecDepth 20000 in
theorem c_Reader_readWhole {l : Launch} {w : zWd} {k : Nat} {M : zMem} {post : Int32 → zMem → Prop} (h0 : zI_Reader w k) (h : wp_Reader_readWhole k M post) : zMi l ⟨"HandToHand$Reader", "readWhole", "()Z"⟩ prog_7_method_8_code 1 (Option.some .boolean) 9 205 w [.ref (zad w k)] M post := by
  refine zMet (by decide) (Nat.le_of_ble_eq_true rfl) ?_
  intro p e s m below meth c X hr hlk hml hW ls hl
  have hx := X.1
  have hb := X.2.1
  have hl : lv_has ls 1 [(0, .ref (zad w k))] := hl
  unfold wp_Reader_readWhole at h
  have zMain : ∀ (H : Heap) (locs : List Loc) (ls : Array Slot), zWo w s.heap M H locs → lv_has ls 1 [(0, .ref (zad w k))] → W p l e (zRm 9 205) s m ([.ref (zad w k)] : List Value).toArray below meth c H locs 0 0 (MQ below (va_Qi post (zB w) (zA w)) ([.ref (zad w k)] : List Value).toArray s 0 0 (zA w)) (F0 m 0 ls []) := by
    intro H locs ls hW hl
    refine lv_aload_n hx hb dX5_readWhole_0 rfl (lv_at hl 0 rfl) ?_
    refine lv_iconst hx hb dX5_readWhole_1 zc_i0 ?_
    refine lv_aload_n hx hb dX5_readWhole_2 rfl (lv_at hl 0 rfl) ?_
    refine zg_Reader_draft X hW h0 zu_104 dX5_readWhole_3 ?_
    refine zg_Told_pieces X hW h0.2.2 zu_34 dX5_readWhole_6 ?_
    refine lv_iconst hx hb dX5_readWhole_9 zc_i1 ?_
    refine lv_isub hx hb dX5_readWhole_10 ?_
    refine zcalli (zrunV (As := [.int 0, .int ((M (k + 1) 0) - 1)]) (rest := []) X hml hl hW h0.1 rfl zk_Reader_131 (c_Reader_readNumber h0 h) rfl ⟨Nat.le_of_ble_eq_true rfl, Nat.le_of_ble_eq_true rfl⟩ ⟨Nat.le_refl 0, Nat.le_refl 0⟩ rfl (Nat.le_of_ble_eq_true rfl) dX5_readWhole_11) hW (fun zr2 zm1 H locs h hW => ?_)
    refine lv_if_ne (tgt := 19) hx hb dX5_readWhole_14 rfl (fun c => ?_) (fun c => ?_)
    · replace h := h.1 c
      refine lv_aload_n hx hb dX5_readWhole_19 rfl (lv_at hl 0 rfl) ?_
      refine zg_Reader_draft X hW h0 zu_104 dX5_readWhole_20 ?_
      refine zg_Told_whole X hW h0.2.2 zu_54 dX5_readWhole_23 ?_
      refine lv_aload_n hx hb dX5_readWhole_26 rfl (lv_at hl 0 rfl) ?_
      refine zg_Reader_value X hW h0 zu_119 dX5_readWhole_27 ?_
      refine lv_ishr hx hb dX5_readWhole_30 ?_
      refine lv_iconst hx hb dX5_readWhole_31 zc_i1 ?_
      refine lv_iand hx hb dX5_readWhole_32 ?_
      refine lv_iconst hx hb dX5_readWhole_33 zc_i1 ?_
      refine lv_icmp_ne (tgt := 47) hx hb dX5_readWhole_34 rfl (fun c => ?_) (fun c => ?_)
      · replace h := h.1 c
        refine lv_aload_n hx hb dX5_readWhole_47 rfl (lv_at hl 0 rfl) ?_
        refine zg_Reader_draft X hW h0 zu_104 dX5_readWhole_48 ?_
        refine lv_dup hx hb dX5_readWhole_51 rfl ?_
        refine zg_Told_whole X hW h0.2.2 zu_54 dX5_readWhole_52 ?_
        refine lv_iconst hx hb dX5_readWhole_55 zc_i1 ?_
        refine lv_aload_n hx hb dX5_readWhole_56 rfl (lv_at hl 0 rfl) ?_
        refine zg_Reader_value X hW h0 zu_119 dX5_readWhole_57 ?_
        refine lv_ishl hx hb dX5_readWhole_60 ?_
        refine lv_ior hx hb dX5_readWhole_61 ?_
        refine zp_Told_whole X hW h0.2.2 zu_54 dX5_readWhole_62 (fun H locs zm3 ezm3 hW => ?_)
        replace h := h zm3 ezm3
        refine lv_aload_n hx hb dX5_readWhole_65 rfl (lv_at hl 0 rfl) ?_
        refine zcalli (zrunV (As := []) (rest := []) X hml hl hW h0.1 rfl zk_Reader_125 (c_Reader_readSign h0 h) rfl ⟨Nat.le_of_ble_eq_true rfl, Nat.le_of_ble_eq_true rfl⟩ ⟨Nat.le_refl 0, Nat.le_refl 0⟩ rfl (Nat.le_of_ble_eq_true rfl) dX5_readWhole_66) hW (fun zr5 zm4 H locs h hW => ?_)
        exact zretz X hr hlk hW (zbo_n h.1) h.2 dX5_readWhole_69
      · replace h := h.2 c
        refine lv_aload_n hx hb dX5_readWhole_37 rfl (lv_at hl 0 rfl) ?_
        refine lv_iconst hx hb dX5_readWhole_38 zc_i4 ?_
        refine lv_aload_n hx hb dX5_readWhole_39 rfl (lv_at hl 0 rfl) ?_
        refine zg_Reader_start X hW h0 zu_118 dX5_readWhole_40 ?_
        refine zcalli (zrunV (As := [.int 4, .int (zm1 k 8)]) (rest := []) X hml hl hW h0.1 rfl zk_Reader_73 (c_Reader_refuse h0 h) rfl ⟨Nat.le_of_ble_eq_true rfl, Nat.le_of_ble_eq_true rfl⟩ ⟨Nat.le_refl 0, Nat.le_refl 0⟩ rfl (Nat.le_of_ble_eq_true rfl) dX5_readWhole_43) hW (fun zr7 zm6 H locs h hW => ?_)
        exact zretz X hr hlk hW (zbo_n h.1) h.2 dX5_readWhole_46
    · replace h := h.2 c
      refine lv_iconst hx hb dX5_readWhole_17 zc_i0 ?_
      exact zretz X hr hlk hW rfl h dX5_readWhole_18
  exact zMain s.heap [] ls hW hl
def wpB_Reader_readSort_57 (k : Nat) (x_1 : Int32)  (Q : Int32 → zMem → Prop) (J : Int32 → zMem → Prop) (x_2 : Int32) (M : zMem) : Prop :=
  ((M (k + 1) 0) ≤ x_2 → wp_Reader_readSign k M (fun zr7 zm6 => zbo zr7 ∧ Q zr7 zm6)) ∧ (¬ (M (k + 1) 0) ≤ x_2 → wp_Reader_readNumber k 0 6 M (fun zr9 zm8 => (¬ zr9 = 0 → vp_in ((x_1 * 8) + x_2) 24 ∧ ∀ zm10 : zMem, zm10 = zup zm8 (k + 3) (ix ((x_1 * 8) + x_2)) (zm8 k 9) → ∀ zx11 : Int32, zx11 = x_2 + 1 → J zx11 zm10) ∧ (zr9 = 0 → Q 0 zm8)))
def wp_Reader_readSort (k : Nat) (M : zMem) (Q : Int32 → zMem → Prop) : Prop :=
  ∀ zm1 : zMem, zm1 = zup M k 12 1 → wp_Reader_readNumber k 1 2 zm1 (fun zr3 zm2 => (¬ zr3 = 0 → ∀ zx4 : Int32, zx4 = zm2 k 9 → (¬ (((zm2 k 11) >>> (zx4 &&& 31)) &&& 1) = 1 → ∀ zm5 : zMem, zm5 = zup zm2 k 11 ((zm2 k 11) ||| (1 <<< (zx4 &&& 31))) → ∃ n : Nat, zlp1 (wpB_Reader_readSort_57 k zx4  Q) n 0 zm5) ∧ ((((zm2 k 11) >>> (zx4 &&& 31)) &&& 1) = 1 → wp_Reader_refuse k 4 (zm2 k 8) zm2 (fun zr13 zm12 => zbo zr13 ∧ Q zr13 zm12))) ∧ (zr3 = 0 → Q 0 zm2))
set_option maxHeartbeats 4000000 in
set_option maxRecDepth 20000 in
theorem c_Reader_readSort {l : Launch} {w : zWd} {k : Nat} {M : zMem} {post : Int32 → zMem → Prop} (h0 : zI_Reader w k) (h : wp_Reader_readSort k M post) : zMi l ⟨"HandToHand$Reader", "readSort", "()Z"⟩ prog_7_method_9_code 3 (Option.some .boolean) 9 205 w [.ref (zad w k)] M post := by
  refine zMet (by decide) (Nat.le_of_ble_eq_true rfl) ?_
  intro p e s m below meth c X hr hlk hml hW ls hl
  have hx := X.1
  have hb := X.2.1
  have hl : lv_has ls 3 [(0, .ref (zad w k))] := hl
  have zL_57 : ∀ (x_1 : Int32), ∀ (n : Nat) (x_2 : Int32) (M : zMem) (H : Heap) (locs : List Loc) (ls : Array Slot), zWo w s.heap M H locs → lv_has ls 3 [(0, .ref (zad w k)), (1, .int x_1), (2, .int x_2)] → zlp1 (wpB_Reader_readSort_57 k x_1  post) n x_2 M → W p l e (zRm 9 205) s m ([.ref (zad w k)] : List Value).toArray below meth c H locs 0 0 (MQ below (va_Qi post (zB w) (zA w)) ([.ref (zad w k)] : List Value).toArray s 0 0 (zA w)) (F0 m 57 ls []) := by
    intro x_1 n
    induction n with
    | zero => intro x_2 M H locs ls hW hl h; exact h.elim
    | succ n zJ =>
      intro x_2 M H locs ls hW hl h
      have h : wpB_Reader_readSort_57 k x_1  post (zlp1 (wpB_Reader_readSort_57 k x_1  post) n) x_2 M := h
      unfold wpB_Reader_readSort_57 at h
      refine lv_iload_n hx hb dX5_readSort_57 rfl (lv_at hl 2 rfl) ?_
      refine lv_aload_n hx hb dX5_readSort_58 rfl (lv_at hl 0 rfl) ?_
      refine zg_Reader_draft X hW h0 zu_104 dX5_readSort_59 ?_
      refine zg_Told_pieces X hW h0.2.2 zu_34 dX5_readSort_62 ?_
      refine lv_icmp_ge (tgt := 104) hx hb dX5_readSort_65 rfl (fun c => ?_) (fun c => ?_)
      · replace h := h.1 c
        refine lv_aload_n hx hb dX5_readSort_104 rfl (lv_at hl 0 rfl) ?_
        refine zcalli (zrunV (As := []) (rest := []) X hml hl hW h0.1 rfl zk_Reader_125 (c_Reader_readSign h0 h) rfl ⟨Nat.le_of_ble_eq_true rfl, Nat.le_of_ble_eq_true rfl⟩ ⟨Nat.le_refl 0, Nat.le_refl 0⟩ rfl (Nat.le_of_ble_eq_true rfl) dX5_readSort_105) hW (fun zr7 zm6 H locs h hW => ?_)
        exact zretz X hr hlk hW (zbo_n h.1) h.2 dX5_readSort_108
      · replace h := h.2 c
        refine lv_aload_n hx hb dX5_readSort_68 rfl (lv_at hl 0 rfl) ?_
        refine lv_iconst hx hb dX5_readSort_69 zc_i0 ?_
        refine lv_bipush hx hb dX5_readSort_70 zc_b6 ?_
        refine zcalli (zrunV (As := [.int 0, .int 6]) (rest := []) X hml hl hW h0.1 rfl zk_Reader_131 (c_Reader_readNumber h0 h) rfl ⟨Nat.le_of_ble_eq_true rfl, Nat.le_of_ble_eq_true rfl⟩ ⟨Nat.le_refl 0, Nat.le_refl 0⟩ rfl (Nat.le_of_ble_eq_true rfl) dX5_readSort_72) hW (fun zr9 zm8 H locs h hW => ?_)
        refine lv_if_ne (tgt := 80) hx hb dX5_readSort_75 rfl (fun c => ?_) (fun c => ?_)
        · replace h := h.1 c
          refine lv_aload_n hx hb dX5_readSort_80 rfl (lv_at hl 0 rfl) ?_
          refine zg_Reader_draft X hW h0 zu_104 dX5_readSort_81 ?_
          refine zg_Told_units X hW h0.2.2 zu_64 dX5_readSort_84 ?_
          refine lv_iload_n hx hb dX5_readSort_87 rfl (lv_at hl 1 rfl) ?_
          refine lv_bipush hx hb dX5_readSort_88 zc_b8 ?_
          refine lv_imul hx hb dX5_readSort_90 ?_
          refine lv_iload_n hx hb dX5_readSort_91 rfl (lv_at hl 2 rfl) ?_
          refine lv_iadd hx hb dX5_readSort_92 ?_
          refine lv_aload_n hx hb dX5_readSort_93 rfl (lv_at hl 0 rfl) ?_
          refine zg_Reader_value X hW h0 zu_119 dX5_readSort_94 ?_
          obtain ⟨g, h⟩ := h
          refine ziast X hW h0.2.2.2.2.1 g dX5_readSort_97 (fun H locs zm10 ezm10 hW => ?_)
          replace h := h zm10 ezm10
          obtain ⟨zx11, ezx11⟩ : ∃ y : Int32, y = x_2 + 1 := ⟨_, rfl⟩
          replace h := h zx11 ezx11
          refine lv_iinc (v := zx11) (lv' := [(2, .int zx11), (0, .ref (zad w k)), (1, .int x_1)]) hx hb dX5_readSort_98 hl (k := 2) rfl (by rw [ezx11, zc_i1]) (Nat.le_of_ble_eq_true rfl) rfl (fun ls hl => ?_)
          refine lv_goto (tgt := 57) hx hb dX5_readSort_101 rfl ?_
          exact zJ zx11 zm10 H locs ls hW (lv_sub hl [1, 2, 0] rfl) h
        · replace h := h.2 c
          refine lv_iconst hx hb dX5_readSort_78 zc_i0 ?_
          exact zretz X hr hlk hW rfl h dX5_readSort_79
  unfold wp_Reader_readSort at h
  have zMain : ∀ (H : Heap) (locs : List Loc) (ls : Array Slot), zWo w s.heap M H locs → lv_has ls 3 [(0, .ref (zad w k))] → W p l e (zRm 9 205) s m ([.ref (zad w k)] : List Value).toArray below meth c H locs 0 0 (MQ below (va_Qi post (zB w) (zA w)) ([.ref (zad w k)] : List Value).toArray s 0 0 (zA w)) (F0 m 0 ls []) := by
    intro H locs ls hW hl
    refine lv_aload_n hx hb dX5_readSort_0 rfl (lv_at hl 0 rfl) ?_
    refine lv_iconst hx hb dX5_readSort_1 zc_i1 ?_
    refine zp_Reader_piecesClosed X hW h0 zbo_1 zu_122 dX5_readSort_2 (fun H locs zm1 ezm1 hW => ?_)
    replace h := h zm1 ezm1
    refine lv_aload_n hx hb dX5_readSort_5 rfl (lv_at hl 0 rfl) ?_
    refine lv_iconst hx hb dX5_readSort_6 zc_i1 ?_
    refine lv_iconst hx hb dX5_readSort_7 zc_i2 ?_
    refine zcalli (zrunV (As := [.int 1, .int 2]) (rest := []) X hml hl hW h0.1 rfl zk_Reader_131 (c_Reader_readNumber h0 h) rfl ⟨Nat.le_of_ble_eq_true rfl, Nat.le_of_ble_eq_true rfl⟩ ⟨Nat.le_refl 0, Nat.le_refl 0⟩ rfl (Nat.le_of_ble_eq_true rfl) dX5_readSort_8) hW (fun zr3 zm2 H locs h hW => ?_)
    refine lv_if_ne (tgt := 16) hx hb dX5_readSort_11 rfl (fun c => ?_) (fun c => ?_)
    · replace h := h.1 c
      refine lv_aload_n hx hb dX5_readSort_16 rfl (lv_at hl 0 rfl) ?_
      refine zg_Reader_value X hW h0 zu_119 dX5_readSort_17 ?_
      refine lv_topi (fun zx4 ezx4 => ?_)
      replace h := h zx4 ezx4
      refine lv_istore_n (lv' := [(1, .int zx4), (0, .ref (zad w k))]) hx hb dX5_readSort_20 rfl hl (Nat.le_of_ble_eq_true rfl) rfl (fun ls hl => ?_)
      refine lv_aload_n hx hb dX5_readSort_21 rfl (lv_at hl 1 rfl) ?_
      refine zg_Reader_sorts X hW h0 zu_121 dX5_readSort_22 ?_
      refine lv_iload_n hx hb dX5_readSort_25 rfl (lv_at hl 0 rfl) ?_
      refine lv_ishr hx hb dX5_readSort_26 ?_
      refine lv_iconst hx hb dX5_readSort_27 zc_i1 ?_
      refine lv_iand hx hb dX5_readSort_28 ?_
      refine lv_iconst hx hb dX5_readSort_29 zc_i1 ?_
      refine lv_icmp_ne (tgt := 43) hx hb dX5_readSort_30 rfl (fun c => ?_) (fun c => ?_)
      · replace h := h.1 c
        refine lv_aload_n hx hb dX5_readSort_43 rfl (lv_at hl 1 rfl) ?_
        refine lv_dup hx hb dX5_readSort_44 rfl ?_
        refine zg_Reader_sorts X hW h0 zu_121 dX5_readSort_45 ?_
        refine lv_iconst hx hb dX5_readSort_48 zc_i1 ?_
        refine lv_iload_n hx hb dX5_readSort_49 rfl (lv_at hl 0 rfl) ?_
        refine lv_ishl hx hb dX5_readSort_50 ?_
        refine lv_ior hx hb dX5_readSort_51 ?_
        refine zp_Reader_sorts X hW h0 zu_121 dX5_readSort_52 (fun H locs zm5 ezm5 hW => ?_)
        replace h := h zm5 ezm5
        refine lv_iconst hx hb dX5_readSort_55 zc_i0 ?_
        refine lv_istore_n (lv' := [(2, .int 0), (1, .int zx4), (0, .ref (zad w k))]) hx hb dX5_readSort_56 rfl hl (Nat.le_of_ble_eq_true rfl) rfl (fun ls hl => ?_)
        obtain ⟨n, h⟩ := h
        refine zL_57 zx4  n 0 zm5 H locs ls hW (lv_sub hl [2, 1, 0] rfl) h
      · replace h := h.2 c
        refine lv_aload_n hx hb dX5_readSort_33 rfl (lv_at hl 1 rfl) ?_
        refine lv_iconst hx hb dX5_readSort_34 zc_i4 ?_
        refine lv_aload_n hx hb dX5_readSort_35 rfl (lv_at hl 1 rfl) ?_
        refine zg_Reader_start X hW h0 zu_118 dX5_readSort_36 ?_
        refine zcalli (zrunV (As := [.int 4, .int (zm2 k 8)]) (rest := []) X hml hl hW h0.1 rfl zk_Reader_73 (c_Reader_refuse h0 h) rfl ⟨Nat.le_of_ble_eq_true rfl, Nat.le_of_ble_eq_true rfl⟩ ⟨Nat.le_refl 0, Nat.le_refl 0⟩ rfl (Nat.le_of_ble_eq_true rfl) dX5_readSort_39) hW (fun zr13 zm12 H locs h hW => ?_)
        exact zretz X hr hlk hW (zbo_n h.1) h.2 dX5_readSort_42
    · replace h := h.2 c
      refine lv_iconst hx hb dX5_readSort_14 zc_i0 ?_
      exact zretz X hr hlk hW rfl h dX5_readSort_15
  exact zMain s.heap [] ls hW hl
def wp_Reader_readOnce (k : Nat) (a1 : Int32) (M : zMem) (Q : Int32 → zMem → Prop) : Prop :=
  (¬ (((M k 10) >>> (a1 &&& 31)) &&& 1) = 1 → ∀ zm1 : zMem, zm1 = zup M k 10 ((M k 10) ||| (1 <<< (a1 &&& 31))) → Q 1 zm1) ∧ ((((M k 10) >>> (a1 &&& 31)) &&& 1) = 1 → wp_Reader_refuse k 4 (M k 8) M (fun zr3 zm2 => zbo zr3 ∧ Q zr3 zm2))
set_option maxHeartbeats 4000000 in
set_option maxRecDepth 20000 in
theorem c_Reader_readOnce {l : Launch} {w : zWd} {k : Nat} {a1 : Int32} {M : zMem} {post : Int32 → zMem → Prop} (h0 : zI_Reader w k) (h : wp_Reader_readOnce k a1 M post) : zMi l ⟨"HandToHand$Reader", "readOnce", "(I)Z"⟩ prog_7_method_6_code 2 (Option.some .boolean) 1 22 w [.ref (zad w k), .int a1] M post := by
  refine zMet (by decide) (Nat.le_of_ble_eq_true rfl) ?_
  intro p e s m below meth c X hr hlk hml hW ls hl
  have hx := X.1
  have hb := X.2.1
  have hl : lv_has ls 2 [(0, .ref (zad w k)), (1, .int a1)] := hl
  unfold wp_Reader_readOnce at h
  have zMain : ∀ (H : Heap) (locs : List Loc) (ls : Array Slot), zWo w s.heap M H locs → lv_has ls 2 [(0, .ref (zad w k)), (1, .int a1)] → W p l e (zRm 1 22) s m ([.ref (zad w k), .int a1] : List Value).toArray below meth c H locs 0 0 (MQ below (va_Qi post (zB w) (zA w)) ([.ref (zad w k), .int a1] : List Value).toArray s 0 0 (zA w)) (F0 m 0 ls []) := by
    intro H locs ls hW hl
    refine lv_aload_n hx hb dX5_readOnce_0 rfl (lv_at hl 0 rfl) ?_
    refine zg_Reader_names X hW h0 zu_120 dX5_readOnce_1 ?_
    refine lv_iload_n hx hb dX5_readOnce_4 rfl (lv_at hl 1 rfl) ?_
    refine lv_ishr hx hb dX5_readOnce_5 ?_
    refine lv_iconst hx hb dX5_readOnce_6 zc_i1 ?_
    refine lv_iand hx hb dX5_readOnce_7 ?_
    refine lv_iconst hx hb dX5_readOnce_8 zc_i1 ?_
    refine lv_icmp_ne (tgt := 22) hx hb dX5_readOnce_9 rfl (fun c => ?_) (fun c => ?_)
    · replace h := h.1 c
      refine lv_aload_n hx hb dX5_readOnce_22 rfl (lv_at hl 0 rfl) ?_
      refine lv_dup hx hb dX5_readOnce_23 rfl ?_
      refine zg_Reader_names X hW h0 zu_120 dX5_readOnce_24 ?_
      refine lv_iconst hx hb dX5_readOnce_27 zc_i1 ?_
      refine lv_iload_n hx hb dX5_readOnce_28 rfl (lv_at hl 1 rfl) ?_
      refine lv_ishl hx hb dX5_readOnce_29 ?_
      refine lv_ior hx hb dX5_readOnce_30 ?_
      refine zp_Reader_names X hW h0 zu_120 dX5_readOnce_31 (fun H locs zm1 ezm1 hW => ?_)
      replace h := h zm1 ezm1
      refine lv_iconst hx hb dX5_readOnce_34 zc_i1 ?_
      exact zretz X hr hlk hW rfl h dX5_readOnce_35
    · replace h := h.2 c
      refine lv_aload_n hx hb dX5_readOnce_12 rfl (lv_at hl 0 rfl) ?_
      refine lv_iconst hx hb dX5_readOnce_13 zc_i4 ?_
      refine lv_aload_n hx hb dX5_readOnce_14 rfl (lv_at hl 0 rfl) ?_
      refine zg_Reader_start X hW h0 zu_118 dX5_readOnce_15 ?_
      refine zcalli (zrunV (As := [.int 4, .int (M k 8)]) (rest := []) X hml hl hW h0.1 rfl zk_Reader_73 (c_Reader_refuse h0 h) rfl ⟨Nat.le_of_ble_eq_true rfl, Nat.le_of_ble_eq_true rfl⟩ ⟨Nat.le_refl 0, Nat.le_refl 0⟩ rfl (Nat.le_of_ble_eq_true rfl) dX5_readOnce_18) hW (fun zr3 zm2 H locs h hW => ?_)
      exact zretz X hr hlk hW (zbo_n h.1) h.2 dX5_readOnce_21
  exact zMain s.heap [] ls hW hl
def wpB_Reader_readRow_31 (k : Nat)  (K94 : Int32 → zMem → Prop) (Q : Int32 → zMem → Prop) (J : Int32 → Int32 → zMem → Prop) (x_1 : Int32) (x_2 : Int32) (M : zMem) : Prop :=
  (6 ≤ x_2 → K94 x_1 M) ∧ (¬ 6 ≤ x_2 → (x_1 = 0 → K94 x_1 M) ∧ (¬ x_1 = 0 → (¬ (M k 7) = 2 → K94 x_1 M) ∧ ((M k 7) = 2 → wp_Reader_isWithin k 0 2 M (fun zr7 zm6 => (¬ zr7 = 0 → vp_in x_2 6 ∧ ∀ zm8 : zMem, zm8 = zup zm6 (k + 2) (ix x_2) (zm6 k 9) → ∀ zm9 : zMem, zm9 = zup zm8 (k + 1) 6 (x_2 + 1) → wp_Reader_readToken k zm9 (fun zr11 zm10 => ∀ zx12 : Int32, zx12 = x_2 + 1 → J zr11 zx12 zm10)) ∧ (zr7 = 0 → Q 0 zm6)))))
def wpJ_Reader_readRow_94 (k : Nat)  (Q : Int32 → zMem → Prop) (x_1 : Int32)  (M : zMem) : Prop :=
  (x_1 = 0 → (x_1 = 0 → Q 0 M) ∧ (¬ x_1 = 0 → wp_Reader_isSign k M (fun zr16 zm15 => (zr16 = 0 → Q 0 zm15) ∧ (¬ zr16 = 0 → Q 1 zm15)))) ∧ (¬ x_1 = 0 → (¬ (M k 7) = 2 → (x_1 = 0 → Q 0 M) ∧ (¬ x_1 = 0 → wp_Reader_isSign k M (fun zr18 zm17 => (zr18 = 0 → Q 0 zm17) ∧ (¬ zr18 = 0 → Q 1 zm17)))) ∧ ((M k 7) = 2 → wp_Reader_refuse k 5 (M k 8) M (fun zr20 zm19 => zbo zr20 ∧ Q zr20 zm19)))
def wp_Reader_readRow (k : Nat) (M : zMem) (Q : Int32 → zMem → Prop) : Prop :=
  wp_Reader_readNumber k 0 2 M (fun zr2 zm1 => (¬ zr2 = 0 → vp_in 0 6 ∧ ∀ zm3 : zMem, zm3 = zup zm1 (k + 2) (ix 0) (zm1 k 9) → wp_Reader_readToken k zm3 (fun zr5 zm4 => ∃ n : Nat, zlp2 (wpB_Reader_readRow_31 k  (fun (zx14 : Int32) (zm13 : zMem) => wpJ_Reader_readRow_94 k Q zx14 zm13) Q) n zr5 1 zm4)) ∧ (zr2 = 0 → Q 0 zm1))
set_option maxHeartbeats 4000000 in
set_option maxRecDepth 20000 in
theorem c_Reader_readRow {l : Launch} {w : zWd} {k : Nat} {M : zMem} {post : Int32 → zMem → Prop} (h0 : zI_Reader w k) (h : wp_Reader_readRow k M post) : zMi l ⟨"HandToHand$Reader", "readRow", "()Z"⟩ prog_7_method_10_code 3 (Option.some .boolean) 9 205 w [.ref (zad w k)] M post := by
  refine zMet (by decide) (Nat.le_of_ble_eq_true rfl) ?_
  intro p e s m below meth c X hr hlk hml hW ls hl
  have hx := X.1
  have hb := X.2.1
  have hl : lv_has ls 3 [(0, .ref (zad w k))] := hl
  have zL_31 : ∀ (K94 : Int32 → zMem → Prop) (zK94 : ∀ (y_1 : Int32) (M : zMem) (H : Heap) (locs : List Loc) (ls : Array Slot), zWo w s.heap M H locs → lv_has ls 3 [(0, .ref (zad w k)), (1, .int y_1)] → K94 y_1 M → W p l e (zRm 9 205) s m ([.ref (zad w k)] : List Value).toArray below meth c H locs 0 0 (MQ below (va_Qi post (zB w) (zA w)) ([.ref (zad w k)] : List Value).toArray s 0 0 (zA w)) (F0 m 94 ls [])), ∀ (n : Nat) (x_1 : Int32) (x_2 : Int32) (M : zMem) (H : Heap) (locs : List Loc) (ls : Array Slot), zWo w s.heap M H locs → lv_has ls 3 [(0, .ref (zad w k)), (1, .int x_1), (2, .int x_2)] → zlp2 (wpB_Reader_readRow_31 k  K94 post) n x_1 x_2 M → W p l e (zRm 9 205) s m ([.ref (zad w k)] : List Value).toArray below meth c H locs 0 0 (MQ below (va_Qi post (zB w) (zA w)) ([.ref (zad w k)] : List Value).toArray s 0 0 (zA w)) (F0 m 31 ls []) := by
    intro K94 zK94 n
    induction n with
    | zero => intro x_1 x_2 M H locs ls hW hl h; exact h.elim
    | succ n zJ =>
      intro x_1 x_2 M H locs ls hW hl h
      have h : wpB_Reader_readRow_31 k  K94 post (zlp2 (wpB_Reader_readRow_31 k  K94 post) n) x_1 x_2 M := h
      unfold wpB_Reader_readRow_31 at h
      refine lv_iload_n hx hb dX5_readRow_31 rfl (lv_at hl 2 rfl) ?_
      refine lv_bipush hx hb dX5_readRow_32 zc_b6 ?_
      refine lv_icmp_ge (tgt := 94) hx hb dX5_readRow_34 rfl (fun c => ?_) (fun c => ?_)
      · replace h := h.1 c
        exact zK94 x_1 M H locs ls hW (lv_sub hl [0, 1] rfl) h
      · replace h := h.2 c
        refine lv_iload_n hx hb dX5_readRow_37 rfl (lv_at hl 1 rfl) ?_
        refine lv_if_eq (tgt := 94) hx hb dX5_readRow_38 rfl (fun c => ?_) (fun c => ?_)
        · replace h := h.1 c
          exact zK94 x_1 M H locs ls hW (lv_sub hl [0, 1] rfl) h
        · replace h := h.2 c
          refine lv_aload_n hx hb dX5_readRow_41 rfl (lv_at hl 0 rfl) ?_
          refine zg_Reader_kind X hW h0 zu_117 dX5_readRow_42 ?_
          refine lv_iconst hx hb dX5_readRow_45 zc_i2 ?_
          refine lv_icmp_ne (tgt := 94) hx hb dX5_readRow_46 rfl (fun c => ?_) (fun c => ?_)
          · replace h := h.1 c
            exact zK94 x_1 M H locs ls hW (lv_sub hl [0, 1] rfl) h
          · replace h := h.2 c
            refine lv_aload_n hx hb dX5_readRow_49 rfl (lv_at hl 0 rfl) ?_
            refine lv_iconst hx hb dX5_readRow_50 zc_i0 ?_
            refine lv_iconst hx hb dX5_readRow_51 zc_i2 ?_
            refine zcalli (zrunV (As := [.int 0, .int 2]) (rest := []) X hml hl hW h0.1 rfl zk_Reader_140 (c_Reader_isWithin h0 h) rfl ⟨Nat.le_of_ble_eq_true rfl, Nat.le_of_ble_eq_true rfl⟩ ⟨Nat.le_refl 0, Nat.le_refl 0⟩ rfl (Nat.le_of_ble_eq_true rfl) dX5_readRow_52) hW (fun zr7 zm6 H locs h hW => ?_)
            refine lv_if_ne (tgt := 60) hx hb dX5_readRow_55 rfl (fun c => ?_) (fun c => ?_)
            · replace h := h.1 c
              refine lv_aload_n hx hb dX5_readRow_60 rfl (lv_at hl 0 rfl) ?_
              refine zg_Reader_draft X hW h0 zu_104 dX5_readRow_61 ?_
              refine zg_Told_row X hW h0.2.2 zu_62 dX5_readRow_64 ?_
              refine lv_iload_n hx hb dX5_readRow_67 rfl (lv_at hl 2 rfl) ?_
              refine lv_aload_n hx hb dX5_readRow_68 rfl (lv_at hl 0 rfl) ?_
              refine zg_Reader_value X hW h0 zu_119 dX5_readRow_69 ?_
              obtain ⟨g, h⟩ := h
              refine ziast X hW h0.2.2.2.1 g dX5_readRow_72 (fun H locs zm8 ezm8 hW => ?_)
              replace h := h zm8 ezm8
              refine lv_aload_n hx hb dX5_readRow_73 rfl (lv_at hl 0 rfl) ?_
              refine zg_Reader_draft X hW h0 zu_104 dX5_readRow_74 ?_
              refine lv_iload_n hx hb dX5_readRow_77 rfl (lv_at hl 2 rfl) ?_
              refine lv_iconst hx hb dX5_readRow_78 zc_i1 ?_
              refine lv_iadd hx hb dX5_readRow_79 ?_
              refine zp_Told_rowLength X hW h0.2.2 zu_58 dX5_readRow_80 (fun H locs zm9 ezm9 hW => ?_)
              replace h := h zm9 ezm9
              refine lv_aload_n hx hb dX5_readRow_83 rfl (lv_at hl 0 rfl) ?_
              refine zcalli (zrunV (As := []) (rest := []) X hml hl hW h0.1 rfl zk_Reader_51 (c_Reader_readToken h0 h) rfl ⟨Nat.le_of_ble_eq_true rfl, Nat.le_of_ble_eq_true rfl⟩ ⟨Nat.le_refl 0, Nat.le_refl 0⟩ rfl (Nat.le_of_ble_eq_true rfl) dX5_readRow_84) hW (fun zr11 zm10 H locs h hW => ?_)
              refine lv_istore_n (lv' := [(1, .int zr11), (0, .ref (zad w k)), (2, .int x_2)]) hx hb dX5_readRow_87 rfl hl (Nat.le_of_ble_eq_true rfl) rfl (fun ls hl => ?_)
              obtain ⟨zx12, ezx12⟩ : ∃ y : Int32, y = x_2 + 1 := ⟨_, rfl⟩
              replace h := h zx12 ezx12
              refine lv_iinc (v := zx12) (lv' := [(2, .int zx12), (1, .int zr11), (0, .ref (zad w k))]) hx hb dX5_readRow_88 hl (k := 2) rfl (by rw [ezx12, zc_i1]) (Nat.le_of_ble_eq_true rfl) rfl (fun ls hl => ?_)
              refine lv_goto (tgt := 31) hx hb dX5_readRow_91 rfl ?_
              exact zJ zr11 zx12 zm10 H locs ls hW (lv_sub hl [2, 1, 0] rfl) h
            · replace h := h.2 c
              refine lv_iconst hx hb dX5_readRow_58 zc_i0 ?_
              exact zretz X hr hlk hW rfl h dX5_readRow_59
  have zJ_94 : ∀ (x_1 : Int32) (M : zMem) (H : Heap) (locs : List Loc) (ls : Array Slot), zWo w s.heap M H locs → lv_has ls 3 [(0, .ref (zad w k)), (1, .int x_1)] → wpJ_Reader_readRow_94 k post x_1 M → W p l e (zRm 9 205) s m ([.ref (zad w k)] : List Value).toArray below meth c H locs 0 0 (MQ below (va_Qi post (zB w) (zA w)) ([.ref (zad w k)] : List Value).toArray s 0 0 (zA w)) (F0 m 94 ls []) := by
    intro x_1 M H locs ls hW hl h
    unfold wpJ_Reader_readRow_94 at h
    refine lv_iload_n hx hb dX5_readRow_94 rfl (lv_at hl 1 rfl) ?_
    refine lv_if_eq (tgt := 116) hx hb dX5_readRow_95 rfl (fun c => ?_) (fun c => ?_)
    · replace h := h.1 c
      refine lv_iload_n hx hb dX5_readRow_116 rfl (lv_at hl 1 rfl) ?_
      refine lv_if_eq (tgt := 131) hx hb dX5_readRow_117 rfl (fun c => ?_) (fun c => ?_)
      · replace h := h.1 c
        refine lv_iconst hx hb dX5_readRow_131 zc_i0 ?_
        exact zretz X hr hlk hW rfl h dX5_readRow_132
      · replace h := h.2 c
        refine lv_aload_n hx hb dX5_readRow_120 rfl (lv_at hl 0 rfl) ?_
        refine zcalli (zrunV (As := []) (rest := []) X hml hl hW h0.1 rfl zk_Reader_146 (c_Reader_isSign h0 h) rfl ⟨Nat.le_of_ble_eq_true rfl, Nat.le_of_ble_eq_true rfl⟩ ⟨Nat.le_refl 0, Nat.le_refl 0⟩ rfl (Nat.le_of_ble_eq_true rfl) dX5_readRow_121) hW (fun zr16 zm15 H locs h hW => ?_)
        refine lv_if_eq (tgt := 131) hx hb dX5_readRow_124 rfl (fun c => ?_) (fun c => ?_)
        · replace h := h.1 c
          refine lv_iconst hx hb dX5_readRow_131 zc_i0 ?_
          exact zretz X hr hlk hW rfl h dX5_readRow_132
        · replace h := h.2 c
          refine lv_iconst hx hb dX5_readRow_127 zc_i1 ?_
          refine lv_goto (tgt := 132) hx hb dX5_readRow_128 rfl ?_
          exact zretz X hr hlk hW rfl h dX5_readRow_132
    · replace h := h.2 c
      refine lv_aload_n hx hb dX5_readRow_98 rfl (lv_at hl 0 rfl) ?_
      refine zg_Reader_kind X hW h0 zu_117 dX5_readRow_99 ?_
      refine lv_iconst hx hb dX5_readRow_102 zc_i2 ?_
      refine lv_icmp_ne (tgt := 116) hx hb dX5_readRow_103 rfl (fun c => ?_) (fun c => ?_)
      · replace h := h.1 c
        refine lv_iload_n hx hb dX5_readRow_116 rfl (lv_at hl 1 rfl) ?_
        refine lv_if_eq (tgt := 131) hx hb dX5_readRow_117 rfl (fun c => ?_) (fun c => ?_)
        · replace h := h.1 c
          refine lv_iconst hx hb dX5_readRow_131 zc_i0 ?_
          exact zretz X hr hlk hW rfl h dX5_readRow_132
        · replace h := h.2 c
          refine lv_aload_n hx hb dX5_readRow_120 rfl (lv_at hl 0 rfl) ?_
          refine zcalli (zrunV (As := []) (rest := []) X hml hl hW h0.1 rfl zk_Reader_146 (c_Reader_isSign h0 h) rfl ⟨Nat.le_of_ble_eq_true rfl, Nat.le_of_ble_eq_true rfl⟩ ⟨Nat.le_refl 0, Nat.le_refl 0⟩ rfl (Nat.le_of_ble_eq_true rfl) dX5_readRow_121) hW (fun zr18 zm17 H locs h hW => ?_)
          refine lv_if_eq (tgt := 131) hx hb dX5_readRow_124 rfl (fun c => ?_) (fun c => ?_)
          · replace h := h.1 c
            refine lv_iconst hx hb dX5_readRow_131 zc_i0 ?_
            exact zretz X hr hlk hW rfl h dX5_readRow_132
          · replace h := h.2 c
            refine lv_iconst hx hb dX5_readRow_127 zc_i1 ?_
            refine lv_goto (tgt := 132) hx hb dX5_readRow_128 rfl ?_
            exact zretz X hr hlk hW rfl h dX5_readRow_132
      · replace h := h.2 c
        refine lv_aload_n hx hb dX5_readRow_106 rfl (lv_at hl 0 rfl) ?_
        refine lv_iconst hx hb dX5_readRow_107 zc_i5 ?_
        refine lv_aload_n hx hb dX5_readRow_108 rfl (lv_at hl 0 rfl) ?_
        refine zg_Reader_start X hW h0 zu_118 dX5_readRow_109 ?_
        refine zcalli (zrunV (As := [.int 5, .int (M k 8)]) (rest := []) X hml hl hW h0.1 rfl zk_Reader_73 (c_Reader_refuse h0 h) rfl ⟨Nat.le_of_ble_eq_true rfl, Nat.le_of_ble_eq_true rfl⟩ ⟨Nat.le_refl 0, Nat.le_refl 0⟩ rfl (Nat.le_of_ble_eq_true rfl) dX5_readRow_112) hW (fun zr20 zm19 H locs h hW => ?_)
        exact zretz X hr hlk hW (zbo_n h.1) h.2 dX5_readRow_115
  unfold wp_Reader_readRow at h
  have zMain : ∀ (H : Heap) (locs : List Loc) (ls : Array Slot), zWo w s.heap M H locs → lv_has ls 3 [(0, .ref (zad w k))] → W p l e (zRm 9 205) s m ([.ref (zad w k)] : List Value).toArray below meth c H locs 0 0 (MQ below (va_Qi post (zB w) (zA w)) ([.ref (zad w k)] : List Value).toArray s 0 0 (zA w)) (F0 m 0 ls []) := by
    intro H locs ls hW hl
    refine lv_aload_n hx hb dX5_readRow_0 rfl (lv_at hl 0 rfl) ?_
    refine lv_iconst hx hb dX5_readRow_1 zc_i0 ?_
    refine lv_iconst hx hb dX5_readRow_2 zc_i2 ?_
    refine zcalli (zrunV (As := [.int 0, .int 2]) (rest := []) X hml hl hW h0.1 rfl zk_Reader_131 (c_Reader_readNumber h0 h) rfl ⟨Nat.le_of_ble_eq_true rfl, Nat.le_of_ble_eq_true rfl⟩ ⟨Nat.le_refl 0, Nat.le_refl 0⟩ rfl (Nat.le_of_ble_eq_true rfl) dX5_readRow_3) hW (fun zr2 zm1 H locs h hW => ?_)
    refine lv_if_ne (tgt := 11) hx hb dX5_readRow_6 rfl (fun c => ?_) (fun c => ?_)
    · replace h := h.1 c
      refine lv_aload_n hx hb dX5_readRow_11 rfl (lv_at hl 0 rfl) ?_
      refine zg_Reader_draft X hW h0 zu_104 dX5_readRow_12 ?_
      refine zg_Told_row X hW h0.2.2 zu_62 dX5_readRow_15 ?_
      refine lv_iconst hx hb dX5_readRow_18 zc_i0 ?_
      refine lv_aload_n hx hb dX5_readRow_19 rfl (lv_at hl 0 rfl) ?_
      refine zg_Reader_value X hW h0 zu_119 dX5_readRow_20 ?_
      obtain ⟨g, h⟩ := h
      refine ziast X hW h0.2.2.2.1 g dX5_readRow_23 (fun H locs zm3 ezm3 hW => ?_)
      replace h := h zm3 ezm3
      refine lv_aload_n hx hb dX5_readRow_24 rfl (lv_at hl 0 rfl) ?_
      refine zcalli (zrunV (As := []) (rest := []) X hml hl hW h0.1 rfl zk_Reader_51 (c_Reader_readToken h0 h) rfl ⟨Nat.le_of_ble_eq_true rfl, Nat.le_of_ble_eq_true rfl⟩ ⟨Nat.le_refl 0, Nat.le_refl 0⟩ rfl (Nat.le_of_ble_eq_true rfl) dX5_readRow_25) hW (fun zr5 zm4 H locs h hW => ?_)
      refine lv_istore_n (lv' := [(1, .int zr5), (0, .ref (zad w k))]) hx hb dX5_readRow_28 rfl hl (Nat.le_of_ble_eq_true rfl) rfl (fun ls hl => ?_)
      refine lv_iconst hx hb dX5_readRow_29 zc_i1 ?_
      refine lv_istore_n (lv' := [(2, .int 1), (1, .int zr5), (0, .ref (zad w k))]) hx hb dX5_readRow_30 rfl hl (Nat.le_of_ble_eq_true rfl) rfl (fun ls hl => ?_)
      obtain ⟨n, h⟩ := h
      refine zL_31  _ (fun zx14 zm13 H locs ls hW hl h => ?_) n zr5 1 zm4 H locs ls hW (lv_sub hl [2, 1, 0] rfl) h
      · skip
        exact zJ_94 zx14 zm13 H locs ls hW (lv_sub hl [0, 1] rfl) h
    · replace h := h.2 c
      refine lv_iconst hx hb dX5_readRow_9 zc_i0 ?_
      exact zretz X hr hlk hW rfl h dX5_readRow_10
  exact zMain s.heap [] ls hW hl
def wpB_Reader_readHand_35 (k : Nat)   (Q : Int32 → zMem → Prop) (J : Int32 → zMem → Prop) (x_1 : Int32) (M : zMem) : Prop :=
  ((M (k + 1) 0) ≤ x_1 → ∀ zm4 : zMem, zm4 = zup M (k + 1) 1 ((M (k + 1) 1) + 1) → wp_Reader_readSign k zm4 (fun zr6 zm5 => zbo zr6 ∧ Q zr6 zm5)) ∧ (¬ (M (k + 1) 0) ≤ x_1 → wp_Reader_readNumber k 1 9 M (fun zr8 zm7 => (¬ zr8 = 0 → vp_in (((zm7 (k + 1) 1) * 8) + x_1) 40 ∧ ∀ zm9 : zMem, zm9 = zup zm7 (k + 4) (ix (((zm7 (k + 1) 1) * 8) + x_1)) (zm7 k 9) → ∀ zx10 : Int32, zx10 = x_1 + 1 → J zx10 zm9) ∧ (zr8 = 0 → Q 0 zm7)))
def wp_Reader_readHand (k : Nat) (M : zMem) (Q : Int32 → zMem → Prop) : Prop :=
  (¬ (M k 13) = 0 → wp_Reader_refuse k 5 (M k 8) M (fun zr2 zm1 => zbo zr2 ∧ Q zr2 zm1)) ∧ ((M k 13) = 0 → ((M (k + 1) 1) < 5 → ∀ zm3 : zMem, zm3 = zup M k 12 1 → ∃ n : Nat, zlp1 (wpB_Reader_readHand_35 k   Q) n 0 zm3) ∧ (¬ (M (k + 1) 1) < 5 → wp_Reader_refuse k 5 (M k 8) M (fun zr12 zm11 => zbo zr12 ∧ Q zr12 zm11)))
set_option maxHeartbeats 4000000 in
set_option maxRecDepth 20000 in
theorem c_Reader_readHand {l : Launch} {w : zWd} {k : Nat} {M : zMem} {post : Int32 → zMem → Prop} (h0 : zI_Reader w k) (h : wp_Reader_readHand k M post) : zMi l ⟨"HandToHand$Reader", "readHand", "()Z"⟩ prog_7_method_11_code 2 (Option.some .boolean) 9 205 w [.ref (zad w k)] M post := by
  refine zMet (by decide) (Nat.le_of_ble_eq_true rfl) ?_
  intro p e s m below meth c X hr hlk hml hW ls hl
  have hx := X.1
  have hb := X.2.1
  have hl : lv_has ls 2 [(0, .ref (zad w k))] := hl
  have zL_35 :  ∀ (n : Nat) (x_1 : Int32) (M : zMem) (H : Heap) (locs : List Loc) (ls : Array Slot), zWo w s.heap M H locs → lv_has ls 2 [(0, .ref (zad w k)), (1, .int x_1)] → zlp1 (wpB_Reader_readHand_35 k   post) n x_1 M → W p l e (zRm 9 205) s m ([.ref (zad w k)] : List Value).toArray below meth c H locs 0 0 (MQ below (va_Qi post (zB w) (zA w)) ([.ref (zad w k)] : List Value).toArray s 0 0 (zA w)) (F0 m 35 ls []) := by
    intro n
    induction n with
    | zero => intro x_1 M H locs ls hW hl h; exact h.elim
    | succ n zJ =>
      intro x_1 M H locs ls hW hl h
      have h : wpB_Reader_readHand_35 k   post (zlp1 (wpB_Reader_readHand_35 k   post) n) x_1 M := h
      unfold wpB_Reader_readHand_35 at h
      refine lv_iload_n hx hb dX5_readHand_35 rfl (lv_at hl 1 rfl) ?_
      refine lv_aload_n hx hb dX5_readHand_36 rfl (lv_at hl 0 rfl) ?_
      refine zg_Reader_draft X hW h0 zu_104 dX5_readHand_37 ?_
      refine zg_Told_pieces X hW h0.2.2 zu_34 dX5_readHand_40 ?_
      refine lv_icmp_ge (tgt := 88) hx hb dX5_readHand_43 rfl (fun c => ?_) (fun c => ?_)
      · replace h := h.1 c
        refine lv_aload_n hx hb dX5_readHand_88 rfl (lv_at hl 0 rfl) ?_
        refine zg_Reader_draft X hW h0 zu_104 dX5_readHand_89 ?_
        refine lv_dup hx hb dX5_readHand_92 rfl ?_
        refine zg_Told_hands X hW h0.2.2 zu_39 dX5_readHand_93 ?_
        refine lv_iconst hx hb dX5_readHand_96 zc_i1 ?_
        refine lv_iadd hx hb dX5_readHand_97 ?_
        refine zp_Told_hands X hW h0.2.2 zu_39 dX5_readHand_98 (fun H locs zm4 ezm4 hW => ?_)
        replace h := h zm4 ezm4
        refine lv_aload_n hx hb dX5_readHand_101 rfl (lv_at hl 0 rfl) ?_
        refine zcalli (zrunV (As := []) (rest := []) X hml hl hW h0.1 rfl zk_Reader_125 (c_Reader_readSign h0 h) rfl ⟨Nat.le_of_ble_eq_true rfl, Nat.le_of_ble_eq_true rfl⟩ ⟨Nat.le_refl 0, Nat.le_refl 0⟩ rfl (Nat.le_of_ble_eq_true rfl) dX5_readHand_102) hW (fun zr6 zm5 H locs h hW => ?_)
        exact zretz X hr hlk hW (zbo_n h.1) h.2 dX5_readHand_105
      · replace h := h.2 c
        refine lv_aload_n hx hb dX5_readHand_46 rfl (lv_at hl 0 rfl) ?_
        refine lv_iconst hx hb dX5_readHand_47 zc_i1 ?_
        refine lv_bipush hx hb dX5_readHand_48 zc_b9 ?_
        refine zcalli (zrunV (As := [.int 1, .int 9]) (rest := []) X hml hl hW h0.1 rfl zk_Reader_131 (c_Reader_readNumber h0 h) rfl ⟨Nat.le_of_ble_eq_true rfl, Nat.le_of_ble_eq_true rfl⟩ ⟨Nat.le_refl 0, Nat.le_refl 0⟩ rfl (Nat.le_of_ble_eq_true rfl) dX5_readHand_50) hW (fun zr8 zm7 H locs h hW => ?_)
        refine lv_if_ne (tgt := 58) hx hb dX5_readHand_53 rfl (fun c => ?_) (fun c => ?_)
        · replace h := h.1 c
          refine lv_aload_n hx hb dX5_readHand_58 rfl (lv_at hl 0 rfl) ?_
          refine zg_Reader_draft X hW h0 zu_104 dX5_readHand_59 ?_
          refine zg_Told_paces X hW h0.2.2 zu_67 dX5_readHand_62 ?_
          refine lv_aload_n hx hb dX5_readHand_65 rfl (lv_at hl 0 rfl) ?_
          refine zg_Reader_draft X hW h0 zu_104 dX5_readHand_66 ?_
          refine zg_Told_hands X hW h0.2.2 zu_39 dX5_readHand_69 ?_
          refine lv_bipush hx hb dX5_readHand_72 zc_b8 ?_
          refine lv_imul hx hb dX5_readHand_74 ?_
          refine lv_iload_n hx hb dX5_readHand_75 rfl (lv_at hl 1 rfl) ?_
          refine lv_iadd hx hb dX5_readHand_76 ?_
          refine lv_aload_n hx hb dX5_readHand_77 rfl (lv_at hl 0 rfl) ?_
          refine zg_Reader_value X hW h0 zu_119 dX5_readHand_78 ?_
          obtain ⟨g, h⟩ := h
          refine ziast X hW h0.2.2.2.2.2.1 g dX5_readHand_81 (fun H locs zm9 ezm9 hW => ?_)
          replace h := h zm9 ezm9
          obtain ⟨zx10, ezx10⟩ : ∃ y : Int32, y = x_1 + 1 := ⟨_, rfl⟩
          replace h := h zx10 ezx10
          refine lv_iinc (v := zx10) (lv' := [(1, .int zx10), (0, .ref (zad w k))]) hx hb dX5_readHand_82 hl (k := 1) rfl (by rw [ezx10, zc_i1]) (Nat.le_of_ble_eq_true rfl) rfl (fun ls hl => ?_)
          refine lv_goto (tgt := 35) hx hb dX5_readHand_85 rfl ?_
          exact zJ zx10 zm9 H locs ls hW (lv_sub hl [1, 0] rfl) h
        · replace h := h.2 c
          refine lv_iconst hx hb dX5_readHand_56 zc_i0 ?_
          exact zretz X hr hlk hW rfl h dX5_readHand_57
  unfold wp_Reader_readHand at h
  have zMain : ∀ (H : Heap) (locs : List Loc) (ls : Array Slot), zWo w s.heap M H locs → lv_has ls 2 [(0, .ref (zad w k))] → W p l e (zRm 9 205) s m ([.ref (zad w k)] : List Value).toArray below meth c H locs 0 0 (MQ below (va_Qi post (zB w) (zA w)) ([.ref (zad w k)] : List Value).toArray s 0 0 (zA w)) (F0 m 0 ls []) := by
    intro H locs ls hW hl
    refine lv_aload_n hx hb dX5_readHand_0 rfl (lv_at hl 0 rfl) ?_
    refine zg_Reader_handsClosed X hW h0 zu_123 dX5_readHand_1 ?_
    refine lv_if_ne (tgt := 18) hx hb dX5_readHand_4 rfl (fun c => ?_) (fun c => ?_)
    · replace h := h.1 c
      refine lv_aload_n hx hb dX5_readHand_18 rfl (lv_at hl 0 rfl) ?_
      refine lv_iconst hx hb dX5_readHand_19 zc_i5 ?_
      refine lv_aload_n hx hb dX5_readHand_20 rfl (lv_at hl 0 rfl) ?_
      refine zg_Reader_start X hW h0 zu_118 dX5_readHand_21 ?_
      refine zcalli (zrunV (As := [.int 5, .int (M k 8)]) (rest := []) X hml hl hW h0.1 rfl zk_Reader_73 (c_Reader_refuse h0 h) rfl ⟨Nat.le_of_ble_eq_true rfl, Nat.le_of_ble_eq_true rfl⟩ ⟨Nat.le_refl 0, Nat.le_refl 0⟩ rfl (Nat.le_of_ble_eq_true rfl) dX5_readHand_24) hW (fun zr2 zm1 H locs h hW => ?_)
      exact zretz X hr hlk hW (zbo_n h.1) h.2 dX5_readHand_27
    · replace h := h.2 c
      refine lv_aload_n hx hb dX5_readHand_7 rfl (lv_at hl 0 rfl) ?_
      refine zg_Reader_draft X hW h0 zu_104 dX5_readHand_8 ?_
      refine zg_Told_hands X hW h0.2.2 zu_39 dX5_readHand_11 ?_
      refine lv_iconst hx hb dX5_readHand_14 zc_i5 ?_
      refine lv_icmp_lt (tgt := 28) hx hb dX5_readHand_15 rfl (fun c => ?_) (fun c => ?_)
      · replace h := h.1 c
        refine lv_aload_n hx hb dX5_readHand_28 rfl (lv_at hl 0 rfl) ?_
        refine lv_iconst hx hb dX5_readHand_29 zc_i1 ?_
        refine zp_Reader_piecesClosed X hW h0 zbo_1 zu_122 dX5_readHand_30 (fun H locs zm3 ezm3 hW => ?_)
        replace h := h zm3 ezm3
        refine lv_iconst hx hb dX5_readHand_33 zc_i0 ?_
        refine lv_istore_n (lv' := [(1, .int 0), (0, .ref (zad w k))]) hx hb dX5_readHand_34 rfl hl (Nat.le_of_ble_eq_true rfl) rfl (fun ls hl => ?_)
        obtain ⟨n, h⟩ := h
        refine zL_35   n 0 zm3 H locs ls hW (lv_sub hl [1, 0] rfl) h
      · replace h := h.2 c
        refine lv_aload_n hx hb dX5_readHand_18 rfl (lv_at hl 0 rfl) ?_
        refine lv_iconst hx hb dX5_readHand_19 zc_i5 ?_
        refine lv_aload_n hx hb dX5_readHand_20 rfl (lv_at hl 0 rfl) ?_
        refine zg_Reader_start X hW h0 zu_118 dX5_readHand_21 ?_
        refine zcalli (zrunV (As := [.int 5, .int (M k 8)]) (rest := []) X hml hl hW h0.1 rfl zk_Reader_73 (c_Reader_refuse h0 h) rfl ⟨Nat.le_of_ble_eq_true rfl, Nat.le_of_ble_eq_true rfl⟩ ⟨Nat.le_refl 0, Nat.le_refl 0⟩ rfl (Nat.le_of_ble_eq_true rfl) dX5_readHand_24) hW (fun zr12 zm11 H locs h hW => ?_)
        exact zretz X hr hlk hW (zbo_n h.1) h.2 dX5_readHand_27
  exact zMain s.heap [] ls hW hl
def wp_Reader_readWalk (k : Nat) (M : zMem) (Q : Int32 → zMem → Prop) : Prop :=
  wp_Reader_readNumber k 0 5 M (fun zr2 zm1 => (¬ zr2 = 0 → ∀ zm3 : zMem, zm3 = zup zm1 (k + 1) 2 (zm1 k 9) → wp_Reader_readSign k zm3 (fun zr5 zm4 => zbo zr5 ∧ Q zr5 zm4)) ∧ (zr2 = 0 → Q 0 zm1))
set_option maxHeartbeats 4000000 in
set_option maxRecDepth 20000 in
theorem c_Reader_readWalk {l : Launch} {w : zWd} {k : Nat} {M : zMem} {post : Int32 → zMem → Prop} (h0 : zI_Reader w k) (h : wp_Reader_readWalk k M post) : zMi l ⟨"HandToHand$Reader", "readWalk", "()Z"⟩ prog_7_method_12_code 1 (Option.some .boolean) 9 205 w [.ref (zad w k)] M post := by
  refine zMet (by decide) (Nat.le_of_ble_eq_true rfl) ?_
  intro p e s m below meth c X hr hlk hml hW ls hl
  have hx := X.1
  have hb := X.2.1
  have hl : lv_has ls 1 [(0, .ref (zad w k))] := hl
  unfold wp_Reader_readWalk at h
  have zMain : ∀ (H : Heap) (locs : List Loc) (ls : Array Slot), zWo w s.heap M H locs → lv_has ls 1 [(0, .ref (zad w k))] → W p l e (zRm 9 205) s m ([.ref (zad w k)] : List Value).toArray below meth c H locs 0 0 (MQ below (va_Qi post (zB w) (zA w)) ([.ref (zad w k)] : List Value).toArray s 0 0 (zA w)) (F0 m 0 ls []) := by
    intro H locs ls hW hl
    refine lv_aload_n hx hb dX5_readWalk_0 rfl (lv_at hl 0 rfl) ?_
    refine lv_iconst hx hb dX5_readWalk_1 zc_i0 ?_
    refine lv_iconst hx hb dX5_readWalk_2 zc_i5 ?_
    refine zcalli (zrunV (As := [.int 0, .int 5]) (rest := []) X hml hl hW h0.1 rfl zk_Reader_131 (c_Reader_readNumber h0 h) rfl ⟨Nat.le_of_ble_eq_true rfl, Nat.le_of_ble_eq_true rfl⟩ ⟨Nat.le_refl 0, Nat.le_refl 0⟩ rfl (Nat.le_of_ble_eq_true rfl) dX5_readWalk_3) hW (fun zr2 zm1 H locs h hW => ?_)
    refine lv_if_ne (tgt := 11) hx hb dX5_readWalk_6 rfl (fun c => ?_) (fun c => ?_)
    · replace h := h.1 c
      refine lv_aload_n hx hb dX5_readWalk_11 rfl (lv_at hl 0 rfl) ?_
      refine zg_Reader_draft X hW h0 zu_104 dX5_readWalk_12 ?_
      refine lv_aload_n hx hb dX5_readWalk_15 rfl (lv_at hl 0 rfl) ?_
      refine zg_Reader_value X hW h0 zu_119 dX5_readWalk_16 ?_
      refine zp_Told_walk X hW h0.2.2 zu_45 dX5_readWalk_19 (fun H locs zm3 ezm3 hW => ?_)
      replace h := h zm3 ezm3
      refine lv_aload_n hx hb dX5_readWalk_22 rfl (lv_at hl 0 rfl) ?_
      refine zcalli (zrunV (As := []) (rest := []) X hml hl hW h0.1 rfl zk_Reader_125 (c_Reader_readSign h0 h) rfl ⟨Nat.le_of_ble_eq_true rfl, Nat.le_of_ble_eq_true rfl⟩ ⟨Nat.le_refl 0, Nat.le_refl 0⟩ rfl (Nat.le_of_ble_eq_true rfl) dX5_readWalk_23) hW (fun zr5 zm4 H locs h hW => ?_)
      exact zretz X hr hlk hW (zbo_n h.1) h.2 dX5_readWalk_26
    · replace h := h.2 c
      refine lv_iconst hx hb dX5_readWalk_9 zc_i0 ?_
      exact zretz X hr hlk hW rfl h dX5_readWalk_10
  exact zMain s.heap [] ls hW hl
def wp_Reader_readLearn (k : Nat) (M : zMem) (Q : Int32 → zMem → Prop) : Prop :=
  wp_Reader_readNumber k 0 99 M (fun zr2 zm1 => (¬ zr2 = 0 → ∀ zm3 : zMem, zm3 = zup zm1 (k + 1) 3 (zm1 k 9) → wp_Reader_readSign k zm3 (fun zr5 zm4 => zbo zr5 ∧ Q zr5 zm4)) ∧ (zr2 = 0 → Q 0 zm1))
set_option maxHeartbeats 4000000 in
set_option maxRecDepth 20000 in
theorem c_Reader_readLearn {l : Launch} {w : zWd} {k : Nat} {M : zMem} {post : Int32 → zMem → Prop} (h0 : zI_Reader w k) (h : wp_Reader_readLearn k M post) : zMi l ⟨"HandToHand$Reader", "readLearn", "()Z"⟩ prog_7_method_13_code 1 (Option.some .boolean) 9 205 w [.ref (zad w k)] M post := by
  refine zMet (by decide) (Nat.le_of_ble_eq_true rfl) ?_
  intro p e s m below meth c X hr hlk hml hW ls hl
  have hx := X.1
  have hb := X.2.1
  have hl : lv_has ls 1 [(0, .ref (zad w k))] := hl
  unfold wp_Reader_readLearn at h
  have zMain : ∀ (H : Heap) (locs : List Loc) (ls : Array Slot), zWo w s.heap M H locs → lv_has ls 1 [(0, .ref (zad w k))] → W p l e (zRm 9 205) s m ([.ref (zad w k)] : List Value).toArray below meth c H locs 0 0 (MQ below (va_Qi post (zB w) (zA w)) ([.ref (zad w k)] : List Value).toArray s 0 0 (zA w)) (F0 m 0 ls []) := by
    intro H locs ls hW hl
    refine lv_aload_n hx hb dX5_readLearn_0 rfl (lv_at hl 0 rfl) ?_
    refine lv_iconst hx hb dX5_readLearn_1 zc_i0 ?_
    refine lv_bipush hx hb dX5_readLearn_2 zc_b99 ?_
    refine zcalli (zrunV (As := [.int 0, .int 99]) (rest := []) X hml hl hW h0.1 rfl zk_Reader_131 (c_Reader_readNumber h0 h) rfl ⟨Nat.le_of_ble_eq_true rfl, Nat.le_of_ble_eq_true rfl⟩ ⟨Nat.le_refl 0, Nat.le_refl 0⟩ rfl (Nat.le_of_ble_eq_true rfl) dX5_readLearn_4) hW (fun zr2 zm1 H locs h hW => ?_)
    refine lv_if_ne (tgt := 12) hx hb dX5_readLearn_7 rfl (fun c => ?_) (fun c => ?_)
    · replace h := h.1 c
      refine lv_aload_n hx hb dX5_readLearn_12 rfl (lv_at hl 0 rfl) ?_
      refine zg_Reader_draft X hW h0 zu_104 dX5_readLearn_13 ?_
      refine lv_aload_n hx hb dX5_readLearn_16 rfl (lv_at hl 0 rfl) ?_
      refine zg_Reader_value X hW h0 zu_119 dX5_readLearn_17 ?_
      refine zp_Told_learn X hW h0.2.2 zu_48 dX5_readLearn_20 (fun H locs zm3 ezm3 hW => ?_)
      replace h := h zm3 ezm3
      refine lv_aload_n hx hb dX5_readLearn_23 rfl (lv_at hl 0 rfl) ?_
      refine zcalli (zrunV (As := []) (rest := []) X hml hl hW h0.1 rfl zk_Reader_125 (c_Reader_readSign h0 h) rfl ⟨Nat.le_of_ble_eq_true rfl, Nat.le_of_ble_eq_true rfl⟩ ⟨Nat.le_refl 0, Nat.le_refl 0⟩ rfl (Nat.le_of_ble_eq_true rfl) dX5_readLearn_24) hW (fun zr5 zm4 H locs h hW => ?_)
      exact zretz X hr hlk hW (zbo_n h.1) h.2 dX5_readLearn_27
    · replace h := h.2 c
      refine lv_iconst hx hb dX5_readLearn_10 zc_i0 ?_
      exact zretz X hr hlk hW rfl h dX5_readLearn_11
  exact zMain s.heap [] ls hW hl
