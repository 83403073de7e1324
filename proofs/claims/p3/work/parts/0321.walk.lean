def wp_Model_units (a1 : Int32) (a2 : Int32) (M : zMem) (Q : Int32 → zMem → Prop) : Prop :=
  wp_Model_in a1.toInt64 0 2 M (fun zr2 zm1 => (zr2 = 0 → Q ((-1)) zm1) ∧ (¬ zr2 = 0 → wp_Model_isPiece a2 zm1 (fun zr4 zm3 => (zr4 = 0 → Q ((-1)) zm3) ∧ (¬ zr4 = 0 → vp_in ((30 + (8 * a1)) + a2) 100 ∧ Q (zm3 4 (ix ((30 + (8 * a1)) + a2))) zm3))))
set_option maxHeartbeats 4000000 in
set_option maxRecDepth 20000 in
theorem c_Model_units {l : Launch} {w : zWd} {a1 : Int32} {a2 : Int32} {M : zMem} {post : Int32 → zMem → Prop} (h0 : zI_Model w) (h : wp_Model_units a1 a2 M post) : zMi l ⟨"HandToHandModel", "units", "(II)I"⟩ prog_13_method_26_code 3 (Option.some .int) 2 46 w [.ref (zad w 0), .int a1, .int a2] M post := by
  refine zMet (by decide) (Nat.le_of_ble_eq_true rfl) ?_
  intro p e s m below meth c X hr hlk hml hW ls hl
  have hx := X.1
  have hb := X.2.1
  have hl : lv_has ls 3 [(0, .ref (zad w 0)), (1, .int a1), (2, .int a2)] := hl
  unfold wp_Model_units at h
  have zMain : ∀ (H : Heap) (locs : List Loc) (ls : Array Slot), zWo w s.heap M H locs → lv_has ls 3 [(0, .ref (zad w 0)), (1, .int a1), (2, .int a2)] → W p l e (zRm 2 46) s m ([.ref (zad w 0), .int a1, .int a2] : List Value).toArray below meth c H locs 0 0 (MQ below (va_Qi post (zB w) (zA w)) ([.ref (zad w 0), .int a1, .int a2] : List Value).toArray s 0 0 (zA w)) (F0 m 0 ls []) := by
    intro H locs ls hW hl
    refine lv_iload_n hx hb dX11_units_0 rfl (lv_at hl 1 rfl) ?_
    refine lv_i2l hx hb dX11_units_1 rfl ?_
    refine lv_lconst hx hb dX11_units_2 zc_l0 ?_
    refine lv_ldc2 hx hb X.2.2.1 (X.2.2.2.1 _ zu_1248) dX11_units_3 ?_
    refine zcalli (zrunS (As := [.long a1.toInt64, .long 0, .long 2]) (rest := []) X hml hl hW zk_Model_69 (c_Model_in  h) rfl ⟨Nat.le_of_ble_eq_true rfl, Nat.le_of_ble_eq_true rfl⟩ ⟨Nat.le_refl 0, Nat.le_refl 0⟩ rfl (Nat.le_of_ble_eq_true rfl) dX11_units_6) hW (fun zr2 zm1 H locs h hW => ?_)
    refine lv_if_eq (tgt := 37) hx hb dX11_units_9 rfl (fun c => ?_) (fun c => ?_)
    · replace h := h.1 c
      refine lv_iconst hx hb dX11_units_37 zc_im1 ?_
      exact zreti X hr hlk hW h dX11_units_38
    · replace h := h.2 c
      refine lv_aload_n hx hb dX11_units_12 rfl (lv_at hl 0 rfl) ?_
      refine lv_iload_n hx hb dX11_units_13 rfl (lv_at hl 2 rfl) ?_
      refine zcalli (zrunV (As := [.int a2]) (rest := []) X hml hl hW h0.1 rfl zk_Model_175 (c_Model_isPiece h0 h) rfl ⟨Nat.le_of_ble_eq_true rfl, Nat.le_of_ble_eq_true rfl⟩ ⟨Nat.le_refl 0, Nat.le_refl 0⟩ rfl (Nat.le_of_ble_eq_true rfl) dX11_units_14) hW (fun zr4 zm3 H locs h hW => ?_)
      refine lv_if_eq (tgt := 37) hx hb dX11_units_17 rfl (fun c => ?_) (fun c => ?_)
      · replace h := h.1 c
        refine lv_iconst hx hb dX11_units_37 zc_im1 ?_
        exact zreti X hr hlk hW h dX11_units_38
      · replace h := h.2 c
        refine lv_aload_n hx hb dX11_units_20 rfl (lv_at hl 0 rfl) ?_
        refine zg_Model_holds X hW h0 zu_1031 dX11_units_21 ?_
        refine lv_bipush hx hb dX11_units_24 zc_b30 ?_
        refine lv_bipush hx hb dX11_units_26 zc_b8 ?_
        refine lv_iload_n hx hb dX11_units_28 rfl (lv_at hl 1 rfl) ?_
        refine lv_imul hx hb dX11_units_29 ?_
        refine lv_iadd hx hb dX11_units_30 ?_
        refine lv_iload_n hx hb dX11_units_31 rfl (lv_at hl 2 rfl) ?_
        refine lv_iadd hx hb dX11_units_32 ?_
        obtain ⟨g, h⟩ := h
        refine ziald X hW h0.2.2.2.2.1 g dX11_units_33 ?_
        refine lv_goto (tgt := 38) hx hb dX11_units_34 rfl ?_
        exact zreti X hr hlk hW h dX11_units_38
  exact zMain s.heap [] ls hW hl
def wp_Model_pace (a1 : Int32) (a2 : Int32) (M : zMem) (Q : Int32 → zMem → Prop) : Prop :=
  wp_Model_isHand a1 M (fun zr2 zm1 => (zr2 = 0 → Q ((-1)) zm1) ∧ (¬ zr2 = 0 → wp_Model_isPiece a2 zm1 (fun zr4 zm3 => (zr4 = 0 → Q ((-1)) zm3) ∧ (¬ zr4 = 0 → vp_in ((60 + (8 * a1)) + a2) 100 ∧ Q (zm3 4 (ix ((60 + (8 * a1)) + a2))) zm3))))
set_option maxHeartbeats 4000000 in
set_option maxRecDepth 20000 in
theorem c_Model_pace {l : Launch} {w : zWd} {a1 : Int32} {a2 : Int32} {M : zMem} {post : Int32 → zMem → Prop} (h0 : zI_Model w) (h : wp_Model_pace a1 a2 M post) : zMi l ⟨"HandToHandModel", "pace", "(II)I"⟩ prog_13_method_27_code 3 (Option.some .int) 2 46 w [.ref (zad w 0), .int a1, .int a2] M post := by
  refine zMet (by decide) (Nat.le_of_ble_eq_true rfl) ?_
  intro p e s m below meth c X hr hlk hml hW ls hl
  have hx := X.1
  have hb := X.2.1
  have hl : lv_has ls 3 [(0, .ref (zad w 0)), (1, .int a1), (2, .int a2)] := hl
  unfold wp_Model_pace at h
  have zMain : ∀ (H : Heap) (locs : List Loc) (ls : Array Slot), zWo w s.heap M H locs → lv_has ls 3 [(0, .ref (zad w 0)), (1, .int a1), (2, .int a2)] → W p l e (zRm 2 46) s m ([.ref (zad w 0), .int a1, .int a2] : List Value).toArray below meth c H locs 0 0 (MQ below (va_Qi post (zB w) (zA w)) ([.ref (zad w 0), .int a1, .int a2] : List Value).toArray s 0 0 (zA w)) (F0 m 0 ls []) := by
    intro H locs ls hW hl
    refine lv_aload_n hx hb dX11_pace_0 rfl (lv_at hl 0 rfl) ?_
    refine lv_iload_n hx hb dX11_pace_1 rfl (lv_at hl 1 rfl) ?_
    refine zcalli (zrunV (As := [.int a1]) (rest := []) X hml hl hW h0.1 rfl zk_Model_166 (c_Model_isHand h0 h) rfl ⟨Nat.le_of_ble_eq_true rfl, Nat.le_of_ble_eq_true rfl⟩ ⟨Nat.le_refl 0, Nat.le_refl 0⟩ rfl (Nat.le_of_ble_eq_true rfl) dX11_pace_2) hW (fun zr2 zm1 H locs h hW => ?_)
    refine lv_if_eq (tgt := 33) hx hb dX11_pace_5 rfl (fun c => ?_) (fun c => ?_)
    · replace h := h.1 c
      refine lv_iconst hx hb dX11_pace_33 zc_im1 ?_
      exact zreti X hr hlk hW h dX11_pace_34
    · replace h := h.2 c
      refine lv_aload_n hx hb dX11_pace_8 rfl (lv_at hl 0 rfl) ?_
      refine lv_iload_n hx hb dX11_pace_9 rfl (lv_at hl 2 rfl) ?_
      refine zcalli (zrunV (As := [.int a2]) (rest := []) X hml hl hW h0.1 rfl zk_Model_175 (c_Model_isPiece h0 h) rfl ⟨Nat.le_of_ble_eq_true rfl, Nat.le_of_ble_eq_true rfl⟩ ⟨Nat.le_refl 0, Nat.le_refl 0⟩ rfl (Nat.le_of_ble_eq_true rfl) dX11_pace_10) hW (fun zr4 zm3 H locs h hW => ?_)
      refine lv_if_eq (tgt := 33) hx hb dX11_pace_13 rfl (fun c => ?_) (fun c => ?_)
      · replace h := h.1 c
        refine lv_iconst hx hb dX11_pace_33 zc_im1 ?_
        exact zreti X hr hlk hW h dX11_pace_34
      · replace h := h.2 c
        refine lv_aload_n hx hb dX11_pace_16 rfl (lv_at hl 0 rfl) ?_
        refine zg_Model_holds X hW h0 zu_1031 dX11_pace_17 ?_
        refine lv_bipush hx hb dX11_pace_20 zc_b60 ?_
        refine lv_bipush hx hb dX11_pace_22 zc_b8 ?_
        refine lv_iload_n hx hb dX11_pace_24 rfl (lv_at hl 1 rfl) ?_
        refine lv_imul hx hb dX11_pace_25 ?_
        refine lv_iadd hx hb dX11_pace_26 ?_
        refine lv_iload_n hx hb dX11_pace_27 rfl (lv_at hl 2 rfl) ?_
        refine lv_iadd hx hb dX11_pace_28 ?_
        obtain ⟨g, h⟩ := h
        refine ziald X hW h0.2.2.2.2.1 g dX11_pace_29 ?_
        refine lv_goto (tgt := 34) hx hb dX11_pace_30 rfl ?_
        exact zreti X hr hlk hW h dX11_pace_34
  exact zMain s.heap [] ls hW hl
def wp_Model_setPace (a1 : Int32) (a2 : Int32) (a3 : Int32) (M : zMem) (Q : Int32 → zMem → Prop) : Prop :=
  wp_Model_isHand a1 M (fun zr2 zm1 => (zr2 = 0 → Q ((-1)) zm1) ∧ (¬ zr2 = 0 → wp_Model_isPiece a2 zm1 (fun zr4 zm3 => (zr4 = 0 → Q ((-1)) zm3) ∧ (¬ zr4 = 0 → wp_Model_in a3.toInt64 1 9 zm3 (fun zr6 zm5 => (¬ zr6 = 0 → wp_Model_awake zm5 (fun zm7 => vp_in ((60 + (8 * a1)) + a2) 100 ∧ ∀ zx9 : Int32, zx9 = zm7 4 (ix ((60 + (8 * a1)) + a2)) → vp_in ((60 + (8 * a1)) + a2) 100 ∧ ∀ zm10 : zMem, zm10 = zup zm7 4 (ix ((60 + (8 * a1)) + a2)) a3 → Q zx9 zm10)) ∧ (zr6 = 0 → Q ((-1)) zm5))))))
set_option maxHeartbeats 4000000 in
set_option maxRecDepth 20000 in
theorem c_Model_setPace {l : Launch} {w : zWd} {a1 : Int32} {a2 : Int32} {a3 : Int32} {M : zMem} {post : Int32 → zMem → Prop} (h0 : zI_Model w) (h : wp_Model_setPace a1 a2 a3 M post) : zMi l ⟨"HandToHandModel", "setPace", "(III)I"⟩ prog_13_method_28_code 5 (Option.some .int) 8 187 w [.ref (zad w 0), .int a1, .int a2, .int a3] M post := by
  refine zMet (by decide) (Nat.le_of_ble_eq_true rfl) ?_
  intro p e s m below meth c X hr hlk hml hW ls hl
  have hx := X.1
  have hb := X.2.1
  have hl : lv_has ls 5 [(0, .ref (zad w 0)), (1, .int a1), (2, .int a2), (3, .int a3)] := hl
  unfold wp_Model_setPace at h
  have zMain : ∀ (H : Heap) (locs : List Loc) (ls : Array Slot), zWo w s.heap M H locs → lv_has ls 5 [(0, .ref (zad w 0)), (1, .int a1), (2, .int a2), (3, .int a3)] → W p l e (zRm 8 187) s m ([.ref (zad w 0), .int a1, .int a2, .int a3] : List Value).toArray below meth c H locs 0 0 (MQ below (va_Qi post (zB w) (zA w)) ([.ref (zad w 0), .int a1, .int a2, .int a3] : List Value).toArray s 0 0 (zA w)) (F0 m 0 ls []) := by
    intro H locs ls hW hl
    refine lv_aload_n hx hb dX11_setPace_0 rfl (lv_at hl 0 rfl) ?_
    refine lv_iload_n hx hb dX11_setPace_1 rfl (lv_at hl 1 rfl) ?_
    refine zcalli (zrunV (As := [.int a1]) (rest := []) X hml hl hW h0.1 rfl zk_Model_166 (c_Model_isHand h0 h) rfl ⟨Nat.le_of_ble_eq_true rfl, Nat.le_of_ble_eq_true rfl⟩ ⟨Nat.le_refl 0, Nat.le_refl 0⟩ rfl (Nat.le_of_ble_eq_true rfl) dX11_setPace_2) hW (fun zr2 zm1 H locs h hW => ?_)
    refine lv_if_eq (tgt := 28) hx hb dX11_setPace_5 rfl (fun c => ?_) (fun c => ?_)
    · replace h := h.1 c
      refine lv_iconst hx hb dX11_setPace_28 zc_im1 ?_
      exact zreti X hr hlk hW h dX11_setPace_29
    · replace h := h.2 c
      refine lv_aload_n hx hb dX11_setPace_8 rfl (lv_at hl 0 rfl) ?_
      refine lv_iload_n hx hb dX11_setPace_9 rfl (lv_at hl 2 rfl) ?_
      refine zcalli (zrunV (As := [.int a2]) (rest := []) X hml hl hW h0.1 rfl zk_Model_175 (c_Model_isPiece h0 h) rfl ⟨Nat.le_of_ble_eq_true rfl, Nat.le_of_ble_eq_true rfl⟩ ⟨Nat.le_refl 0, Nat.le_refl 0⟩ rfl (Nat.le_of_ble_eq_true rfl) dX11_setPace_10) hW (fun zr4 zm3 H locs h hW => ?_)
      refine lv_if_eq (tgt := 28) hx hb dX11_setPace_13 rfl (fun c => ?_) (fun c => ?_)
      · replace h := h.1 c
        refine lv_iconst hx hb dX11_setPace_28 zc_im1 ?_
        exact zreti X hr hlk hW h dX11_setPace_29
      · replace h := h.2 c
        refine lv_iload_n hx hb dX11_setPace_16 rfl (lv_at hl 3 rfl) ?_
        refine lv_i2l hx hb dX11_setPace_17 rfl ?_
        refine lv_lconst hx hb dX11_setPace_18 zc_l1 ?_
        refine lv_ldc2 hx hb X.2.2.1 (X.2.2.2.1 _ zu_1332) dX11_setPace_19 ?_
        refine zcalli (zrunS (As := [.long a3.toInt64, .long 1, .long 9]) (rest := []) X hml hl hW zk_Model_69 (c_Model_in  h) rfl ⟨Nat.le_of_ble_eq_true rfl, Nat.le_of_ble_eq_true rfl⟩ ⟨Nat.le_refl 0, Nat.le_refl 0⟩ rfl (Nat.le_of_ble_eq_true rfl) dX11_setPace_22) hW (fun zr6 zm5 H locs h hW => ?_)
        refine lv_if_ne (tgt := 30) hx hb dX11_setPace_25 rfl (fun c => ?_) (fun c => ?_)
        · replace h := h.1 c
          refine lv_aload_n hx hb dX11_setPace_30 rfl (lv_at hl 0 rfl) ?_
          refine zcallv (zrunV (As := []) (rest := []) X hml hl hW h0.1 rfl zk_Model_180 (c_Model_awake h0 h) rfl ⟨Nat.le_of_ble_eq_true rfl, Nat.le_of_ble_eq_true rfl⟩ ⟨Nat.le_refl 0, Nat.le_refl 0⟩ rfl (Nat.le_of_ble_eq_true rfl) dX11_setPace_31) hW (fun zm7 H locs h hW => ?_)
          refine lv_aload_n hx hb dX11_setPace_34 rfl (lv_at hl 0 rfl) ?_
          refine zg_Model_holds X hW h0 zu_1031 dX11_setPace_35 ?_
          refine lv_bipush hx hb dX11_setPace_38 zc_b60 ?_
          refine lv_bipush hx hb dX11_setPace_40 zc_b8 ?_
          refine lv_iload_n hx hb dX11_setPace_42 rfl (lv_at hl 1 rfl) ?_
          refine lv_imul hx hb dX11_setPace_43 ?_
          refine lv_iadd hx hb dX11_setPace_44 ?_
          refine lv_iload_n hx hb dX11_setPace_45 rfl (lv_at hl 2 rfl) ?_
          refine lv_iadd hx hb dX11_setPace_46 ?_
          obtain ⟨g, h⟩ := h
          refine ziald X hW h0.2.2.2.2.1 g dX11_setPace_47 ?_
          refine lv_topi (fun zx9 ezx9 => ?_)
          replace h := h zx9 ezx9
          refine lv_istore (lv' := [(4, .int zx9), (0, .ref (zad w 0)), (1, .int a1), (2, .int a2), (3, .int a3)]) hx hb dX11_setPace_48 hl (Nat.le_of_ble_eq_true rfl) rfl (fun ls hl => ?_)
          refine lv_aload_n hx hb dX11_setPace_50 rfl (lv_at hl 1 rfl) ?_
          refine zg_Model_holds X hW h0 zu_1031 dX11_setPace_51 ?_
          refine lv_bipush hx hb dX11_setPace_54 zc_b60 ?_
          refine lv_bipush hx hb dX11_setPace_56 zc_b8 ?_
          refine lv_iload_n hx hb dX11_setPace_58 rfl (lv_at hl 2 rfl) ?_
          refine lv_imul hx hb dX11_setPace_59 ?_
          refine lv_iadd hx hb dX11_setPace_60 ?_
          refine lv_iload_n hx hb dX11_setPace_61 rfl (lv_at hl 3 rfl) ?_
          refine lv_iadd hx hb dX11_setPace_62 ?_
          refine lv_iload_n hx hb dX11_setPace_63 rfl (lv_at hl 4 rfl) ?_
          obtain ⟨g, h⟩ := h
          refine ziast X hW h0.2.2.2.2.1 g dX11_setPace_64 (fun H locs zm10 ezm10 hW => ?_)
          replace h := h zm10 ezm10
          refine lv_iload hx hb dX11_setPace_65 (lv_at hl 0 rfl) ?_
          exact zreti X hr hlk hW h dX11_setPace_67
        · replace h := h.2 c
          refine lv_iconst hx hb dX11_setPace_28 zc_im1 ?_
          exact zreti X hr hlk hW h dX11_setPace_29
  exact zMain s.heap [] ls hW hl
def wpJ_Model_pass_30 (a1 : Int32) (a2 : Int32)  (J : Int32 → zMem → Prop) (Q : zMem → Prop) (x_3 : Int32) (x_4 : Int32)  (M : zMem) : Prop :=
  wp_Model_at a1 x_3 5 M (fun zr6 zm5 => wp_Model_put a1 x_3 5 (zr6 + a2) zm5 (fun zm7 => (¬ a1 = 1 → ∀ zx9 : Int32, zx9 = x_3 + 1 → J zx9 zm7) ∧ (a1 = 1 → (¬ x_4 = 2 → ∀ zx10 : Int32, zx10 = x_3 + 1 → J zx10 zm7) ∧ (x_4 = 2 → wp_Model_at a1 x_3 2 zm7 (fun zr12 zm11 => vp_in zr12 8 ∧ vp_in zr12 8 ∧ ∀ zm13 : zMem, zm13 = zup zm11 11 (ix zr12) ((zm11 11 (ix zr12)) + a2) → ∀ zx14 : Int32, zx14 = x_3 + 1 → J zx14 zm13)))))
def wpB_Model_pass_2 (a1 : Int32) (a2 : Int32)   (Q : zMem → Prop) (J : Int32 → zMem → Prop) (x_3 : Int32) (M : zMem) : Prop :=
  ((M 0 18) ≤ x_3 → wp_Model_more a1 0 a2 M (fun zm1 => Q zm1)) ∧ (¬ (M 0 18) ≤ x_3 → wp_Model_at a1 x_3 0 M (fun zr4 zm3 => (zr4 = 2 → wpJ_Model_pass_30 a1 a2 J Q x_3 zr4 zm3) ∧ (¬ zr4 = 2 → (¬ zr4 = 0 → wp_Model_at a1 x_3 1 zm3 (fun zr16 zm15 => wp_Model_put a1 x_3 1 (zr16 - a2) zm15 (fun zm17 => (¬ zr4 = 1 → ∀ zx19 : Int32, zx19 = x_3 + 1 → J zx19 zm17) ∧ (zr4 = 1 → wp_Model_at a1 x_3 1 zm17 (fun zr21 zm20 => (¬ zr21 = 0 → ∀ zx22 : Int32, zx22 = x_3 + 1 → J zx22 zm20) ∧ (zr21 = 0 → wp_Model_put a1 x_3 0 0 zm20 (fun zm23 => ∀ zx25 : Int32, zx25 = x_3 + 1 → J zx25 zm23))))))) ∧ (zr4 = 0 → wpJ_Model_pass_30 a1 a2 J Q x_3 zr4 zm3))))
def wp_Model_pass (a1 : Int32) (a2 : Int32) (M : zMem) (Q : zMem → Prop) : Prop :=
  ∃ n : Nat, zlp1 (wpB_Model_pass_2 a1 a2   Q) n 0 M
set_option maxHeartbeats 4000000 in
set_option maxRecDepth 20000 in
theorem c_Model_pass {l : Launch} {w : zWd} {a1 : Int32} {a2 : Int32} {M : zMem} {post : zMem → Prop} (h0 : zI_Model w) (h : wp_Model_pass a1 a2 M post) : zMv l ⟨"HandToHandModel", "pass", "(II)V"⟩ prog_13_method_47_code 5 none 2 49 w [.ref (zad w 0), .int a1, .int a2] M post := by
  refine zMet (by decide) (Nat.le_of_ble_eq_true rfl) ?_
  intro p e s m below meth c X hr hlk hml hW ls hl
  have hx := X.1
  have hb := X.2.1
  have hl : lv_has ls 5 [(0, .ref (zad w 0)), (1, .int a1), (2, .int a2)] := hl
  have zJ_30 : ∀ (x_3 : Int32) (x_4 : Int32) (J : Int32 → zMem → Prop) (zJ : ∀ (y_3 : Int32) (M : zMem) (H : Heap) (locs : List Loc) (ls : Array Slot), zWo w s.heap M H locs → lv_has ls 5 [(0, .ref (zad w 0)), (1, .int a1), (2, .int a2), (3, .int y_3)] → J y_3 M → W p l e (zRm 2 49) s m ([.ref (zad w 0), .int a1, .int a2] : List Value).toArray below meth c H locs 0 0 (MQ below (va_Qv post (zB w) (zA w)) ([.ref (zad w 0), .int a1, .int a2] : List Value).toArray s 0 0 (zA w)) (F0 m 2 ls [])) (M : zMem) (H : Heap) (locs : List Loc) (ls : Array Slot), zWo w s.heap M H locs → lv_has ls 5 [(0, .ref (zad w 0)), (1, .int a1), (2, .int a2), (3, .int x_3), (4, .int x_4)] → wpJ_Model_pass_30 a1 a2 J post x_3 x_4 M → W p l e (zRm 2 49) s m ([.ref (zad w 0), .int a1, .int a2] : List Value).toArray below meth c H locs 0 0 (MQ below (va_Qv post (zB w) (zA w)) ([.ref (zad w 0), .int a1, .int a2] : List Value).toArray s 0 0 (zA w)) (F0 m 30 ls []) := by
    intro x_3 x_4 J zJ M H locs ls hW hl h
    unfold wpJ_Model_pass_30 at h
    refine lv_aload_n hx hb dX11_pass_30 rfl (lv_at hl 0 rfl) ?_
    refine lv_iload_n hx hb dX11_pass_31 rfl (lv_at hl 1 rfl) ?_
    refine lv_iload_n hx hb dX11_pass_32 rfl (lv_at hl 3 rfl) ?_
    refine lv_iconst hx hb dX11_pass_33 zc_i5 ?_
    refine lv_aload_n hx hb dX11_pass_34 rfl (lv_at hl 0 rfl) ?_
    refine lv_iload_n hx hb dX11_pass_35 rfl (lv_at hl 1 rfl) ?_
    refine lv_iload_n hx hb dX11_pass_36 rfl (lv_at hl 3 rfl) ?_
    refine lv_iconst hx hb dX11_pass_37 zc_i5 ?_
    refine zcalli (zrunV (As := [.int a1, .int x_3, .int 5]) (rest := [.int 5, .int x_3, .int a1, .ref (zad w 0)]) X hml hl hW h0.1 rfl zk_Model_195 (c_Model_at h0 h) rfl ⟨Nat.le_of_ble_eq_true rfl, Nat.le_of_ble_eq_true rfl⟩ ⟨Nat.le_refl 0, Nat.le_refl 0⟩ rfl (Nat.le_of_ble_eq_true rfl) dX11_pass_38) hW (fun zr6 zm5 H locs h hW => ?_)
    refine lv_iload_n hx hb dX11_pass_41 rfl (lv_at hl 2 rfl) ?_
    refine lv_iadd hx hb dX11_pass_42 ?_
    refine zcallv (zrunV (As := [.int a1, .int x_3, .int 5, .int (zr6 + a2)]) (rest := []) X hml hl hW h0.1 rfl zk_Model_201 (c_Model_put h0 h) rfl ⟨Nat.le_of_ble_eq_true rfl, Nat.le_of_ble_eq_true rfl⟩ ⟨Nat.le_refl 0, Nat.le_refl 0⟩ rfl (Nat.le_of_ble_eq_true rfl) dX11_pass_43) hW (fun zm7 H locs h hW => ?_)
    refine lv_iload_n hx hb dX11_pass_46 rfl (lv_at hl 1 rfl) ?_
    refine lv_iconst hx hb dX11_pass_47 zc_i1 ?_
    refine lv_icmp_ne (tgt := 116) hx hb dX11_pass_48 rfl (fun c => ?_) (fun c => ?_)
    · replace h := h.1 c
      obtain ⟨zx9, ezx9⟩ : ∃ y : Int32, y = x_3 + 1 := ⟨_, rfl⟩
      replace h := h zx9 ezx9
      refine lv_iinc (v := zx9) (lv' := [(3, .int zx9), (0, .ref (zad w 0)), (1, .int a1), (2, .int a2), (4, .int x_4)]) hx hb dX11_pass_116 hl (k := 3) rfl (by rw [ezx9, zc_i1]) (Nat.le_of_ble_eq_true rfl) rfl (fun ls hl => ?_)
      refine lv_goto (tgt := 2) hx hb dX11_pass_119 rfl ?_
      exact zJ zx9 zm7 H locs ls hW (lv_sub hl [1, 2, 3, 0] rfl) h
    · replace h := h.2 c
      refine lv_iload hx hb dX11_pass_51 (lv_at hl 4 rfl) ?_
      refine lv_iconst hx hb dX11_pass_53 zc_i2 ?_
      refine lv_icmp_ne (tgt := 116) hx hb dX11_pass_54 rfl (fun c => ?_) (fun c => ?_)
      · replace h := h.1 c
        obtain ⟨zx10, ezx10⟩ : ∃ y : Int32, y = x_3 + 1 := ⟨_, rfl⟩
        replace h := h zx10 ezx10
        refine lv_iinc (v := zx10) (lv' := [(3, .int zx10), (0, .ref (zad w 0)), (1, .int a1), (2, .int a2), (4, .int x_4)]) hx hb dX11_pass_116 hl (k := 3) rfl (by rw [ezx10, zc_i1]) (Nat.le_of_ble_eq_true rfl) rfl (fun ls hl => ?_)
        refine lv_goto (tgt := 2) hx hb dX11_pass_119 rfl ?_
        exact zJ zx10 zm7 H locs ls hW (lv_sub hl [1, 2, 3, 0] rfl) h
      · replace h := h.2 c
        refine lv_aload_n hx hb dX11_pass_57 rfl (lv_at hl 0 rfl) ?_
        refine zg_Model_stood X hW h0 zu_1043 dX11_pass_58 ?_
        refine lv_aload_n hx hb dX11_pass_61 rfl (lv_at hl 0 rfl) ?_
        refine lv_iload_n hx hb dX11_pass_62 rfl (lv_at hl 1 rfl) ?_
        refine lv_iload_n hx hb dX11_pass_63 rfl (lv_at hl 3 rfl) ?_
        refine lv_iconst hx hb dX11_pass_64 zc_i2 ?_
        refine zcalli (zrunV (As := [.int a1, .int x_3, .int 2]) (rest := [.ref (zad w 11)]) X hml hl hW h0.1 rfl zk_Model_195 (c_Model_at h0 h) rfl ⟨Nat.le_of_ble_eq_true rfl, Nat.le_of_ble_eq_true rfl⟩ ⟨Nat.le_refl 0, Nat.le_refl 0⟩ rfl (Nat.le_of_ble_eq_true rfl) dX11_pass_65) hW (fun zr12 zm11 H locs h hW => ?_)
        refine lv_dup2_11 hx hb dX11_pass_68 rfl rfl ?_
        obtain ⟨g, h⟩ := h
        refine ziald X hW h0.2.2.2.2.2.2.2.2.2.2.1 g dX11_pass_69 ?_
        refine lv_iload_n hx hb dX11_pass_70 rfl (lv_at hl 2 rfl) ?_
        refine lv_iadd hx hb dX11_pass_71 ?_
        obtain ⟨g, h⟩ := h
        refine ziast X hW h0.2.2.2.2.2.2.2.2.2.2.1 g dX11_pass_72 (fun H locs zm13 ezm13 hW => ?_)
        replace h := h zm13 ezm13
        refine lv_goto (tgt := 116) hx hb dX11_pass_73 rfl ?_
        obtain ⟨zx14, ezx14⟩ : ∃ y : Int32, y = x_3 + 1 := ⟨_, rfl⟩
        replace h := h zx14 ezx14
        refine lv_iinc (v := zx14) (lv' := [(3, .int zx14), (0, .ref (zad w 0)), (1, .int a1), (2, .int a2), (4, .int x_4)]) hx hb dX11_pass_116 hl (k := 3) rfl (by rw [ezx14, zc_i1]) (Nat.le_of_ble_eq_true rfl) rfl (fun ls hl => ?_)
        refine lv_goto (tgt := 2) hx hb dX11_pass_119 rfl ?_
        exact zJ zx14 zm13 H locs ls hW (lv_sub hl [1, 2, 3, 0] rfl) h
  have zL_2 :  ∀ (n : Nat) (x_3 : Int32) (M : zMem) (H : Heap) (locs : List Loc) (ls : Array Slot), zWo w s.heap M H locs → lv_has ls 5 [(0, .ref (zad w 0)), (1, .int a1), (2, .int a2), (3, .int x_3)] → zlp1 (wpB_Model_pass_2 a1 a2   post) n x_3 M → W p l e (zRm 2 49) s m ([.ref (zad w 0), .int a1, .int a2] : List Value).toArray below meth c H locs 0 0 (MQ below (va_Qv post (zB w) (zA w)) ([.ref (zad w 0), .int a1, .int a2] : List Value).toArray s 0 0 (zA w)) (F0 m 2 ls []) := by
    intro n
    induction n with
    | zero => intro x_3 M H locs ls hW hl h; exact h.elim
    | succ n zJ =>
      intro x_3 M H locs ls hW hl h
      have h : wpB_Model_pass_2 a1 a2   post (zlp1 (wpB_Model_pass_2 a1 a2   post) n) x_3 M := h
      unfold wpB_Model_pass_2 at h
      refine lv_iload_n hx hb dX11_pass_2 rfl (lv_at hl 3 rfl) ?_
      refine lv_aload_n hx hb dX11_pass_3 rfl (lv_at hl 0 rfl) ?_
      refine zg_Model_many X hW h0 zu_1038 dX11_pass_4 ?_
      refine lv_icmp_ge (tgt := 122) hx hb dX11_pass_7 rfl (fun c => ?_) (fun c => ?_)
      · replace h := h.1 c
        refine lv_aload_n hx hb dX11_pass_122 rfl (lv_at hl 0 rfl) ?_
        refine lv_iload_n hx hb dX11_pass_123 rfl (lv_at hl 1 rfl) ?_
        refine lv_iconst hx hb dX11_pass_124 zc_i0 ?_
        refine lv_iload_n hx hb dX11_pass_125 rfl (lv_at hl 2 rfl) ?_
        refine zcallv (zrunV (As := [.int a1, .int 0, .int a2]) (rest := []) X hml hl hW h0.1 rfl zk_Model_207 (c_Model_more h0 h) rfl ⟨Nat.le_of_ble_eq_true rfl, Nat.le_of_ble_eq_true rfl⟩ ⟨Nat.le_refl 0, Nat.le_refl 0⟩ rfl (Nat.le_of_ble_eq_true rfl) dX11_pass_126) hW (fun zm1 H locs h hW => ?_)
        exact zretv X hr hlk hW h dX11_pass_129
      · replace h := h.2 c
        refine lv_aload_n hx hb dX11_pass_10 rfl (lv_at hl 0 rfl) ?_
        refine lv_iload_n hx hb dX11_pass_11 rfl (lv_at hl 1 rfl) ?_
        refine lv_iload_n hx hb dX11_pass_12 rfl (lv_at hl 3 rfl) ?_
        refine lv_iconst hx hb dX11_pass_13 zc_i0 ?_
        refine zcalli (zrunV (As := [.int a1, .int x_3, .int 0]) (rest := []) X hml hl hW h0.1 rfl zk_Model_195 (c_Model_at h0 h) rfl ⟨Nat.le_of_ble_eq_true rfl, Nat.le_of_ble_eq_true rfl⟩ ⟨Nat.le_refl 0, Nat.le_refl 0⟩ rfl (Nat.le_of_ble_eq_true rfl) dX11_pass_14) hW (fun zr4 zm3 H locs h hW => ?_)
        refine lv_istore (lv' := [(4, .int zr4), (0, .ref (zad w 0)), (1, .int a1), (2, .int a2), (3, .int x_3)]) hx hb dX11_pass_17 hl (Nat.le_of_ble_eq_true rfl) rfl (fun ls hl => ?_)
        refine lv_iload hx hb dX11_pass_19 (lv_at hl 0 rfl) ?_
        refine lv_iconst hx hb dX11_pass_21 zc_i2 ?_
        refine lv_icmp_eq (tgt := 30) hx hb dX11_pass_22 rfl (fun c => ?_) (fun c => ?_)
        · replace h := h.1 c
          exact zJ_30 x_3 zr4 _ zJ zm3 H locs ls hW (lv_sub hl [1, 2, 3, 4, 0] rfl) h
        · replace h := h.2 c
          refine lv_iload hx hb dX11_pass_25 (lv_at hl 0 rfl) ?_
          refine lv_if_ne (tgt := 76) hx hb dX11_pass_27 rfl (fun c => ?_) (fun c => ?_)
          · replace h := h.1 c
            refine lv_aload_n hx hb dX11_pass_76 rfl (lv_at hl 1 rfl) ?_
            refine lv_iload_n hx hb dX11_pass_77 rfl (lv_at hl 2 rfl) ?_
            refine lv_iload_n hx hb dX11_pass_78 rfl (lv_at hl 4 rfl) ?_
            refine lv_iconst hx hb dX11_pass_79 zc_i1 ?_
            refine lv_aload_n hx hb dX11_pass_80 rfl (lv_at hl 1 rfl) ?_
            refine lv_iload_n hx hb dX11_pass_81 rfl (lv_at hl 2 rfl) ?_
            refine lv_iload_n hx hb dX11_pass_82 rfl (lv_at hl 4 rfl) ?_
            refine lv_iconst hx hb dX11_pass_83 zc_i1 ?_
            refine zcalli (zrunV (As := [.int a1, .int x_3, .int 1]) (rest := [.int 1, .int x_3, .int a1, .ref (zad w 0)]) X hml hl hW h0.1 rfl zk_Model_195 (c_Model_at h0 h) rfl ⟨Nat.le_of_ble_eq_true rfl, Nat.le_of_ble_eq_true rfl⟩ ⟨Nat.le_refl 0, Nat.le_refl 0⟩ rfl (Nat.le_of_ble_eq_true rfl) dX11_pass_84) hW (fun zr16 zm15 H locs h hW => ?_)
            refine lv_iload_n hx hb dX11_pass_87 rfl (lv_at hl 3 rfl) ?_
            refine lv_isub hx hb dX11_pass_88 ?_
            refine zcallv (zrunV (As := [.int a1, .int x_3, .int 1, .int (zr16 - a2)]) (rest := []) X hml hl hW h0.1 rfl zk_Model_201 (c_Model_put h0 h) rfl ⟨Nat.le_of_ble_eq_true rfl, Nat.le_of_ble_eq_true rfl⟩ ⟨Nat.le_refl 0, Nat.le_refl 0⟩ rfl (Nat.le_of_ble_eq_true rfl) dX11_pass_89) hW (fun zm17 H locs h hW => ?_)
            refine lv_iload hx hb dX11_pass_92 (lv_at hl 0 rfl) ?_
            refine lv_iconst hx hb dX11_pass_94 zc_i1 ?_
            refine lv_icmp_ne (tgt := 116) hx hb dX11_pass_95 rfl (fun c => ?_) (fun c => ?_)
            · replace h := h.1 c
              obtain ⟨zx19, ezx19⟩ : ∃ y : Int32, y = x_3 + 1 := ⟨_, rfl⟩
              replace h := h zx19 ezx19
              refine lv_iinc (v := zx19) (lv' := [(3, .int zx19), (4, .int zr4), (0, .ref (zad w 0)), (1, .int a1), (2, .int a2)]) hx hb dX11_pass_116 hl (k := 4) rfl (by rw [ezx19, zc_i1]) (Nat.le_of_ble_eq_true rfl) rfl (fun ls hl => ?_)
              refine lv_goto (tgt := 2) hx hb dX11_pass_119 rfl ?_
              exact zJ zx19 zm17 H locs ls hW (lv_sub hl [2, 3, 4, 0] rfl) h
            · replace h := h.2 c
              refine lv_aload_n hx hb dX11_pass_98 rfl (lv_at hl 1 rfl) ?_
              refine lv_iload_n hx hb dX11_pass_99 rfl (lv_at hl 2 rfl) ?_
              refine lv_iload_n hx hb dX11_pass_100 rfl (lv_at hl 4 rfl) ?_
              refine lv_iconst hx hb dX11_pass_101 zc_i1 ?_
              refine zcalli (zrunV (As := [.int a1, .int x_3, .int 1]) (rest := []) X hml hl hW h0.1 rfl zk_Model_195 (c_Model_at h0 h) rfl ⟨Nat.le_of_ble_eq_true rfl, Nat.le_of_ble_eq_true rfl⟩ ⟨Nat.le_refl 0, Nat.le_refl 0⟩ rfl (Nat.le_of_ble_eq_true rfl) dX11_pass_102) hW (fun zr21 zm20 H locs h hW => ?_)
              refine lv_if_ne (tgt := 116) hx hb dX11_pass_105 rfl (fun c => ?_) (fun c => ?_)
              · replace h := h.1 c
                obtain ⟨zx22, ezx22⟩ : ∃ y : Int32, y = x_3 + 1 := ⟨_, rfl⟩
                replace h := h zx22 ezx22
                refine lv_iinc (v := zx22) (lv' := [(3, .int zx22), (4, .int zr4), (0, .ref (zad w 0)), (1, .int a1), (2, .int a2)]) hx hb dX11_pass_116 hl (k := 4) rfl (by rw [ezx22, zc_i1]) (Nat.le_of_ble_eq_true rfl) rfl (fun ls hl => ?_)
                refine lv_goto (tgt := 2) hx hb dX11_pass_119 rfl ?_
                exact zJ zx22 zm20 H locs ls hW (lv_sub hl [2, 3, 4, 0] rfl) h
              · replace h := h.2 c
                refine lv_aload_n hx hb dX11_pass_108 rfl (lv_at hl 1 rfl) ?_
                refine lv_iload_n hx hb dX11_pass_109 rfl (lv_at hl 2 rfl) ?_
                refine lv_iload_n hx hb dX11_pass_110 rfl (lv_at hl 4 rfl) ?_
                refine lv_iconst hx hb dX11_pass_111 zc_i0 ?_
                refine lv_iconst hx hb dX11_pass_112 zc_i0 ?_
                refine zcallv (zrunV (As := [.int a1, .int x_3, .int 0, .int 0]) (rest := []) X hml hl hW h0.1 rfl zk_Model_201 (c_Model_put h0 h) rfl ⟨Nat.le_of_ble_eq_true rfl, Nat.le_of_ble_eq_true rfl⟩ ⟨Nat.le_refl 0, Nat.le_refl 0⟩ rfl (Nat.le_of_ble_eq_true rfl) dX11_pass_113) hW (fun zm23 H locs h hW => ?_)
                obtain ⟨zx25, ezx25⟩ : ∃ y : Int32, y = x_3 + 1 := ⟨_, rfl⟩
                replace h := h zx25 ezx25
                refine lv_iinc (v := zx25) (lv' := [(3, .int zx25), (4, .int zr4), (0, .ref (zad w 0)), (1, .int a1), (2, .int a2)]) hx hb dX11_pass_116 hl (k := 4) rfl (by rw [ezx25, zc_i1]) (Nat.le_of_ble_eq_true rfl) rfl (fun ls hl => ?_)
                refine lv_goto (tgt := 2) hx hb dX11_pass_119 rfl ?_
                exact zJ zx25 zm23 H locs ls hW (lv_sub hl [2, 3, 4, 0] rfl) h
          · replace h := h.2 c
            exact zJ_30 x_3 zr4 _ zJ zm3 H locs ls hW (lv_sub hl [1, 2, 3, 4, 0] rfl) h
  unfold wp_Model_pass at h
  have zMain : ∀ (H : Heap) (locs : List Loc) (ls : Array Slot), zWo w s.heap M H locs → lv_has ls 5 [(0, .ref (zad w 0)), (1, .int a1), (2, .int a2)] → W p l e (zRm 2 49) s m ([.ref (zad w 0), .int a1, .int a2] : List Value).toArray below meth c H locs 0 0 (MQ below (va_Qv post (zB w) (zA w)) ([.ref (zad w 0), .int a1, .int a2] : List Value).toArray s 0 0 (zA w)) (F0 m 0 ls []) := by
    intro H locs ls hW hl
    refine lv_iconst hx hb dX11_pass_0 zc_i0 ?_
    refine lv_istore_n (lv' := [(3, .int 0), (0, .ref (zad w 0)), (1, .int a1), (2, .int a2)]) hx hb dX11_pass_1 rfl hl (Nat.le_of_ble_eq_true rfl) rfl (fun ls hl => ?_)
    obtain ⟨n, h⟩ := h
    refine zL_2   n 0 M H locs ls hW (lv_sub hl [1, 2, 3, 0] rfl) h
  exact zMain s.heap [] ls hW hl
def wp_Model_begin  (M : zMem) (Q : Int32 → zMem → Prop) : Prop :=
  wp_Model_of 0 1 M (fun zr2 zm1 => wp_Model_beginAnew zm1 (fun zm3 => Q zr2 zm3))
set_option maxHeartbeats 4000000 in
set_option maxRecDepth 20000 in
theorem c_Model_begin {l : Launch} {w : zWd} {M : zMem} {post : Int32 → zMem → Prop} (h0 : zI_Model w) (h : wp_Model_begin  M post) : zMi l ⟨"HandToHandModel", "begin", "()I"⟩ prog_13_method_50_code 2 (Option.some .int) 9 207 w [.ref (zad w 0)] M post := by
  refine zMet (by decide) (Nat.le_of_ble_eq_true rfl) ?_
  intro p e s m below meth c X hr hlk hml hW ls hl
  have hx := X.1
  have hb := X.2.1
  have hl : lv_has ls 2 [(0, .ref (zad w 0))] := hl
  unfold wp_Model_begin at h
  have zMain : ∀ (H : Heap) (locs : List Loc) (ls : Array Slot), zWo w s.heap M H locs → lv_has ls 2 [(0, .ref (zad w 0))] → W p l e (zRm 9 207) s m ([.ref (zad w 0)] : List Value).toArray below meth c H locs 0 0 (MQ below (va_Qi post (zB w) (zA w)) ([.ref (zad w 0)] : List Value).toArray s 0 0 (zA w)) (F0 m 0 ls []) := by
    intro H locs ls hW hl
    refine lv_aload_n hx hb dX11_begin_0 rfl (lv_at hl 0 rfl) ?_
    refine lv_iconst hx hb dX11_begin_1 zc_i0 ?_
    refine lv_iconst hx hb dX11_begin_2 zc_i1 ?_
    refine zcalli (zrunV (As := [.int 0, .int 1]) (rest := []) X hml hl hW h0.1 rfl zk_Model_218 (c_Model_of h0 h) rfl ⟨Nat.le_of_ble_eq_true rfl, Nat.le_of_ble_eq_true rfl⟩ ⟨Nat.le_refl 0, Nat.le_refl 0⟩ rfl (Nat.le_of_ble_eq_true rfl) dX11_begin_3) hW (fun zr2 zm1 H locs h hW => ?_)
    refine lv_istore_n (lv' := [(1, .int zr2), (0, .ref (zad w 0))]) hx hb dX11_begin_6 rfl hl (Nat.le_of_ble_eq_true rfl) rfl (fun ls hl => ?_)
    refine lv_aload_n hx hb dX11_begin_7 rfl (lv_at hl 1 rfl) ?_
    refine zcallv (zrunV (As := []) (rest := []) X hml hl hW h0.1 rfl zk_Model_159 (c_Model_beginAnew h0 h) rfl ⟨Nat.le_of_ble_eq_true rfl, Nat.le_of_ble_eq_true rfl⟩ ⟨Nat.le_refl 0, Nat.le_refl 0⟩ rfl (Nat.le_of_ble_eq_true rfl) dX11_begin_8) hW (fun zm3 H locs h hW => ?_)
    refine lv_iload_n hx hb dX11_begin_11 rfl (lv_at hl 0 rfl) ?_
    exact zreti X hr hlk hW h dX11_begin_12
  exact zMain s.heap [] ls hW hl
def wpJ_Model_go_59 (a1 : Int32)  (J : Int32 → zMem → Prop) (Q : Int32 → zMem → Prop) (x_2 : Int32) (x_3 : Int32) (s_0 : Int32) (M : zMem) : Prop :=
  wp_Model_pass 0 s_0 M (fun zm13 => wp_Model_settle 0 zm13 (fun zm15 => ∀ zx17 : Int32, zx17 = x_3 - s_0 → J zx17 zm15))
def wpJ_Model_go_53 (a1 : Int32)  (J : Int32 → zMem → Prop) (Q : Int32 → zMem → Prop) (x_2 : Int32) (x_3 : Int32)  (M : zMem) : Prop :=
  wpJ_Model_go_59 a1 J Q x_2 x_3 x_3 M
def wpB_Model_go_31 (a1 : Int32) (x_2 : Int32)  (Q : Int32 → zMem → Prop) (J : Int32 → zMem → Prop) (x_3 : Int32) (M : zMem) : Prop :=
  (x_3 ≤ 0 → wp_Model_of 0 1 M (fun zr10 zm9 => Q (zr10 - x_2) zm9)) ∧ (¬ x_3 ≤ 0 → wp_Model_least 0 M (fun zr12 zm11 => (zr12 = 0 → wpJ_Model_go_53 a1 J Q x_2 x_3 zm11) ∧ (¬ zr12 = 0 → (zr12 ≤ x_3 → wpJ_Model_go_59 a1 J Q x_2 x_3 zr12 zm11) ∧ (¬ zr12 ≤ x_3 → wpJ_Model_go_53 a1 J Q x_2 x_3 zm11))))
def wp_Model_go (a1 : Int32) (M : zMem) (Q : Int32 → zMem → Prop) : Prop :=
  wp_Model_in a1.toInt64 1 9999 M (fun zr2 zm1 => (¬ zr2 = 0 → wp_Model_awake zm1 (fun zm3 => wp_Model_asNumbered zm3 (fun zm5 => wp_Model_of 0 1 zm5 (fun zr8 zm7 => ∃ n : Nat, zlp1 (wpB_Model_go_31 a1 zr8  Q) n a1 zm7)))) ∧ (zr2 = 0 → Q ((-1)) zm1))
set_option maxHeartbeats 4000000 in
set_option maxRecDepth 20000 in
theorem c_Model_go {l : Launch} {w : zWd} {a1 : Int32} {M : zMem} {post : Int32 → zMem → Prop} (h0 : zI_Model w) (h : wp_Model_go a1 M post) : zMi l ⟨"HandToHandModel", "go", "(I)I"⟩ prog_13_method_51_code 5 (Option.some .int) 8 187 w [.ref (zad w 0), .int a1] M post := by
  refine zMet (by decide) (Nat.le_of_ble_eq_true rfl) ?_
  intro p e s m below meth c X hr hlk hml hW ls hl
  have hx := X.1
  have hb := X.2.1
  have hl : lv_has ls 5 [(0, .ref (zad w 0)), (1, .int a1)] := hl
  have zJ_59 : ∀ (x_2 : Int32) (x_3 : Int32) (s_0 : Int32) (J : Int32 → zMem → Prop) (zJ : ∀ (y_3 : Int32) (M : zMem) (H : Heap) (locs : List Loc) (ls : Array Slot), zWo w s.heap M H locs → lv_has ls 5 [(0, .ref (zad w 0)), (2, .int x_2), (3, .int y_3)] → J y_3 M → W p l e (zRm 8 187) s m ([.ref (zad w 0), .int a1] : List Value).toArray below meth c H locs 0 0 (MQ below (va_Qi post (zB w) (zA w)) ([.ref (zad w 0), .int a1] : List Value).toArray s 0 0 (zA w)) (F0 m 31 ls [])) (M : zMem) (H : Heap) (locs : List Loc) (ls : Array Slot), zWo w s.heap M H locs → lv_has ls 5 [(0, .ref (zad w 0)), (2, .int x_2), (3, .int x_3)] → wpJ_Model_go_59 a1 J post x_2 x_3 s_0 M → W p l e (zRm 8 187) s m ([.ref (zad w 0), .int a1] : List Value).toArray below meth c H locs 0 0 (MQ below (va_Qi post (zB w) (zA w)) ([.ref (zad w 0), .int a1] : List Value).toArray s 0 0 (zA w)) (F0 m 59 ls [.int s_0]) := by
    intro x_2 x_3 s_0 J zJ M H locs ls hW hl h
    unfold wpJ_Model_go_59 at h
    refine lv_istore (lv' := [(4, .int s_0), (0, .ref (zad w 0)), (2, .int x_2), (3, .int x_3)]) hx hb dX11_go_59 hl (Nat.le_of_ble_eq_true rfl) rfl (fun ls hl => ?_)
    refine lv_aload_n hx hb dX11_go_61 rfl (lv_at hl 1 rfl) ?_
    refine lv_iconst hx hb dX11_go_62 zc_i0 ?_
    refine lv_iload hx hb dX11_go_63 (lv_at hl 0 rfl) ?_
    refine zcallv (zrunV (As := [.int 0, .int s_0]) (rest := []) X hml hl hW h0.1 rfl zk_Model_254 (c_Model_pass h0 h) rfl ⟨Nat.le_of_ble_eq_true rfl, Nat.le_of_ble_eq_true rfl⟩ ⟨Nat.le_refl 0, Nat.le_refl 0⟩ rfl (Nat.le_of_ble_eq_true rfl) dX11_go_65) hW (fun zm13 H locs h hW => ?_)
    refine lv_aload_n hx hb dX11_go_68 rfl (lv_at hl 1 rfl) ?_
    refine lv_iconst hx hb dX11_go_69 zc_i0 ?_
    refine zcallv (zrunV (As := [.int 0]) (rest := []) X hml hl hW h0.1 rfl zk_Model_246 (c_Model_settle h0 h) rfl ⟨Nat.le_of_ble_eq_true rfl, Nat.le_of_ble_eq_true rfl⟩ ⟨Nat.le_refl 0, Nat.le_refl 0⟩ rfl (Nat.le_of_ble_eq_true rfl) dX11_go_70) hW (fun zm15 H locs h hW => ?_)
    refine lv_iload_n hx hb dX11_go_73 rfl (lv_at hl 3 rfl) ?_
    refine lv_iload hx hb dX11_go_74 (lv_at hl 0 rfl) ?_
    refine lv_isub hx hb dX11_go_76 ?_
    refine lv_topi (fun zx17 ezx17 => ?_)
    replace h := h zx17 ezx17
    refine lv_istore_n (lv' := [(3, .int zx17), (4, .int s_0), (0, .ref (zad w 0)), (2, .int x_2)]) hx hb dX11_go_77 rfl hl (Nat.le_of_ble_eq_true rfl) rfl (fun ls hl => ?_)
    refine lv_goto (tgt := 31) hx hb dX11_go_78 rfl ?_
    exact zJ zx17 zm15 H locs ls hW (lv_sub hl [2, 3, 0] rfl) h
  have zJ_53 : ∀ (x_2 : Int32) (x_3 : Int32) (J : Int32 → zMem → Prop) (zJ : ∀ (y_3 : Int32) (M : zMem) (H : Heap) (locs : List Loc) (ls : Array Slot), zWo w s.heap M H locs → lv_has ls 5 [(0, .ref (zad w 0)), (2, .int x_2), (3, .int y_3)] → J y_3 M → W p l e (zRm 8 187) s m ([.ref (zad w 0), .int a1] : List Value).toArray below meth c H locs 0 0 (MQ below (va_Qi post (zB w) (zA w)) ([.ref (zad w 0), .int a1] : List Value).toArray s 0 0 (zA w)) (F0 m 31 ls [])) (M : zMem) (H : Heap) (locs : List Loc) (ls : Array Slot), zWo w s.heap M H locs → lv_has ls 5 [(0, .ref (zad w 0)), (2, .int x_2), (3, .int x_3)] → wpJ_Model_go_53 a1 J post x_2 x_3 M → W p l e (zRm 8 187) s m ([.ref (zad w 0), .int a1] : List Value).toArray below meth c H locs 0 0 (MQ below (va_Qi post (zB w) (zA w)) ([.ref (zad w 0), .int a1] : List Value).toArray s 0 0 (zA w)) (F0 m 53 ls []) := by
    intro x_2 x_3 J zJ M H locs ls hW hl h
    unfold wpJ_Model_go_53 at h
    refine lv_iload_n hx hb dX11_go_53 rfl (lv_at hl 2 rfl) ?_
    refine lv_goto (tgt := 59) hx hb dX11_go_54 rfl ?_
    exact zJ_59 x_2 x_3 x_3 _ zJ M H locs ls hW (lv_sub hl [0, 1, 2] rfl) h
  have zL_31 : ∀ (x_2 : Int32), ∀ (n : Nat) (x_3 : Int32) (M : zMem) (H : Heap) (locs : List Loc) (ls : Array Slot), zWo w s.heap M H locs → lv_has ls 5 [(0, .ref (zad w 0)), (2, .int x_2), (3, .int x_3)] → zlp1 (wpB_Model_go_31 a1 x_2  post) n x_3 M → W p l e (zRm 8 187) s m ([.ref (zad w 0), .int a1] : List Value).toArray below meth c H locs 0 0 (MQ below (va_Qi post (zB w) (zA w)) ([.ref (zad w 0), .int a1] : List Value).toArray s 0 0 (zA w)) (F0 m 31 ls []) := by
    intro x_2 n
    induction n with
    | zero => intro x_3 M H locs ls hW hl h; exact h.elim
    | succ n zJ =>
      intro x_3 M H locs ls hW hl h
      have h : wpB_Model_go_31 a1 x_2  post (zlp1 (wpB_Model_go_31 a1 x_2  post) n) x_3 M := h
      unfold wpB_Model_go_31 at h
      refine lv_iload_n hx hb dX11_go_31 rfl (lv_at hl 2 rfl) ?_
      refine lv_if_le (tgt := 81) hx hb dX11_go_32 rfl (fun c => ?_) (fun c => ?_)
      · replace h := h.1 c
        refine lv_aload_n hx hb dX11_go_81 rfl (lv_at hl 0 rfl) ?_
        refine lv_iconst hx hb dX11_go_82 zc_i0 ?_
        refine lv_iconst hx hb dX11_go_83 zc_i1 ?_
        refine zcalli (zrunV (As := [.int 0, .int 1]) (rest := []) X hml hl hW h0.1 rfl zk_Model_218 (c_Model_of h0 h) rfl ⟨Nat.le_of_ble_eq_true rfl, Nat.le_of_ble_eq_true rfl⟩ ⟨Nat.le_refl 0, Nat.le_refl 0⟩ rfl (Nat.le_of_ble_eq_true rfl) dX11_go_84) hW (fun zr10 zm9 H locs h hW => ?_)
        refine lv_iload_n hx hb dX11_go_87 rfl (lv_at hl 1 rfl) ?_
        refine lv_isub hx hb dX11_go_88 ?_
        exact zreti X hr hlk hW h dX11_go_89
      · replace h := h.2 c
        refine lv_aload_n hx hb dX11_go_35 rfl (lv_at hl 0 rfl) ?_
        refine lv_iconst hx hb dX11_go_36 zc_i0 ?_
        refine zcalli (zrunV (As := [.int 0]) (rest := []) X hml hl hW h0.1 rfl zk_Model_237 (c_Model_least h0 h) rfl ⟨Nat.le_of_ble_eq_true rfl, Nat.le_of_ble_eq_true rfl⟩ ⟨Nat.le_refl 0, Nat.le_refl 0⟩ rfl (Nat.le_of_ble_eq_true rfl) dX11_go_37) hW (fun zr12 zm11 H locs h hW => ?_)
        refine lv_istore (lv' := [(4, .int zr12), (0, .ref (zad w 0)), (2, .int x_2), (3, .int x_3)]) hx hb dX11_go_40 hl (Nat.le_of_ble_eq_true rfl) rfl (fun ls hl => ?_)
        refine lv_iload hx hb dX11_go_42 (lv_at hl 0 rfl) ?_
        refine lv_if_eq (tgt := 53) hx hb dX11_go_44 rfl (fun c => ?_) (fun c => ?_)
        · replace h := h.1 c
          exact zJ_53 x_2 x_3 _ zJ zm11 H locs ls hW (lv_sub hl [1, 2, 3] rfl) h
        · replace h := h.2 c
          refine lv_iload hx hb dX11_go_47 (lv_at hl 0 rfl) ?_
          refine lv_iload_n hx hb dX11_go_49 rfl (lv_at hl 3 rfl) ?_
          refine lv_icmp_le (tgt := 57) hx hb dX11_go_50 rfl (fun c => ?_) (fun c => ?_)
          · replace h := h.1 c
            refine lv_iload hx hb dX11_go_57 (lv_at hl 0 rfl) ?_
            exact zJ_59 x_2 x_3 zr12 _ zJ zm11 H locs ls hW (lv_sub hl [1, 2, 3] rfl) h
          · replace h := h.2 c
            exact zJ_53 x_2 x_3 _ zJ zm11 H locs ls hW (lv_sub hl [1, 2, 3] rfl) h
  unfold wp_Model_go at h
  have zMain : ∀ (H : Heap) (locs : List Loc) (ls : Array Slot), zWo w s.heap M H locs → lv_has ls 5 [(0, .ref (zad w 0)), (1, .int a1)] → W p l e (zRm 8 187) s m ([.ref (zad w 0), .int a1] : List Value).toArray below meth c H locs 0 0 (MQ below (va_Qi post (zB w) (zA w)) ([.ref (zad w 0), .int a1] : List Value).toArray s 0 0 (zA w)) (F0 m 0 ls []) := by
    intro H locs ls hW hl
    refine lv_iload_n hx hb dX11_go_0 rfl (lv_at hl 1 rfl) ?_
    refine lv_i2l hx hb dX11_go_1 rfl ?_
    refine lv_lconst hx hb dX11_go_2 zc_l1 ?_
    refine lv_ldc2 hx hb X.2.2.1 (X.2.2.2.1 _ zu_1341) dX11_go_3 ?_
    refine zcalli (zrunS (As := [.long a1.toInt64, .long 1, .long 9999]) (rest := []) X hml hl hW zk_Model_69 (c_Model_in  h) rfl ⟨Nat.le_of_ble_eq_true rfl, Nat.le_of_ble_eq_true rfl⟩ ⟨Nat.le_refl 0, Nat.le_refl 0⟩ rfl (Nat.le_of_ble_eq_true rfl) dX11_go_6) hW (fun zr2 zm1 H locs h hW => ?_)
    refine lv_if_ne (tgt := 14) hx hb dX11_go_9 rfl (fun c => ?_) (fun c => ?_)
    · replace h := h.1 c
      refine lv_aload_n hx hb dX11_go_14 rfl (lv_at hl 0 rfl) ?_
      refine zcallv (zrunV (As := []) (rest := []) X hml hl hW h0.1 rfl zk_Model_180 (c_Model_awake h0 h) rfl ⟨Nat.le_of_ble_eq_true rfl, Nat.le_of_ble_eq_true rfl⟩ ⟨Nat.le_refl 0, Nat.le_refl 0⟩ rfl (Nat.le_of_ble_eq_true rfl) dX11_go_15) hW (fun zm3 H locs h hW => ?_)
      refine lv_aload_n hx hb dX11_go_18 rfl (lv_at hl 0 rfl) ?_
      refine zcallv (zrunV (As := []) (rest := []) X hml hl hW h0.1 rfl zk_Model_243 (c_Model_asNumbered h0 h) rfl ⟨Nat.le_of_ble_eq_true rfl, Nat.le_of_ble_eq_true rfl⟩ ⟨Nat.le_refl 0, Nat.le_refl 0⟩ rfl (Nat.le_of_ble_eq_true rfl) dX11_go_19) hW (fun zm5 H locs h hW => ?_)
      refine lv_aload_n hx hb dX11_go_22 rfl (lv_at hl 0 rfl) ?_
      refine lv_iconst hx hb dX11_go_23 zc_i0 ?_
      refine lv_iconst hx hb dX11_go_24 zc_i1 ?_
      refine zcalli (zrunV (As := [.int 0, .int 1]) (rest := []) X hml hl hW h0.1 rfl zk_Model_218 (c_Model_of h0 h) rfl ⟨Nat.le_of_ble_eq_true rfl, Nat.le_of_ble_eq_true rfl⟩ ⟨Nat.le_refl 0, Nat.le_refl 0⟩ rfl (Nat.le_of_ble_eq_true rfl) dX11_go_25) hW (fun zr8 zm7 H locs h hW => ?_)
      refine lv_istore_n (lv' := [(2, .int zr8), (0, .ref (zad w 0)), (1, .int a1)]) hx hb dX11_go_28 rfl hl (Nat.le_of_ble_eq_true rfl) rfl (fun ls hl => ?_)
      refine lv_iload_n hx hb dX11_go_29 rfl (lv_at hl 2 rfl) ?_
      refine lv_istore_n (lv' := [(3, .int a1), (2, .int zr8), (0, .ref (zad w 0)), (1, .int a1)]) hx hb dX11_go_30 rfl hl (Nat.le_of_ble_eq_true rfl) rfl (fun ls hl => ?_)
      obtain ⟨n, h⟩ := h
      refine zL_31 zr8  n a1 zm7 H locs ls hW (lv_sub hl [2, 1, 0] rfl) h
    · replace h := h.2 c
      refine lv_iconst hx hb dX11_go_12 zc_im1 ?_
      exact zreti X hr hlk hW h dX11_go_13
  exact zMain s.heap [] ls hW hl
def wpJ_Model_night_31   (J : Int32 → Int32 → zMem → Prop) (Q : Int32 → zMem → Prop) (x_2 : Int32) (s_0 : Int32) (s_1 : Int32) (M : zMem) : Prop :=
  ∀ zx10 : Int32, zx10 = s_0 + s_1 → wp_Model_put 0 x_2 0 0 M (fun zm11 => wp_Model_put 0 x_2 1 0 zm11 (fun zm13 => wp_Model_put 0 x_2 2 (-4) zm13 (fun zm15 => wp_Model_put 0 x_2 3 (-4) zm15 (fun zm17 => wp_Model_put 0 x_2 4 (-4) zm17 (fun zm19 => ∀ zx21 : Int32, zx21 = x_2 + 1 → J zx10 zx21 zm19)))))
def wpB_Model_night_8    (Q : Int32 → zMem → Prop) (J : Int32 → Int32 → zMem → Prop) (x_1 : Int32) (x_2 : Int32) (M : zMem) : Prop :=
  (5 ≤ x_2 → vp_in 4 384 ∧ ∀ zm3 : zMem, zm3 = zup M 6 (ix 4) 0 → wp_Model_asNumbered zm3 (fun zm4 => wp_Model_settle 0 zm4 (fun zm6 => Q x_1 zm6))) ∧ (¬ 5 ≤ x_2 → wp_Model_at 0 x_2 2 M (fun zr9 zm8 => (¬ zr9 = (-4) → wpJ_Model_night_31  J Q x_2 x_1 1 zm8) ∧ (zr9 = (-4) → wpJ_Model_night_31  J Q x_2 x_1 0 zm8)))
def wp_Model_night  (M : zMem) (Q : Int32 → zMem → Prop) : Prop :=
  wp_Model_awake M (fun zm1 => ∃ n : Nat, zlp2 (wpB_Model_night_8    Q) n 0 0 zm1)
set_option maxHeartbeats 4000000 in
set_option maxRecDepth 20000 in
theorem c_Model_night {l : Launch} {w : zWd} {M : zMem} {post : Int32 → zMem → Prop} (h0 : zI_Model w) (h : wp_Model_night  M post) : zMi l ⟨"HandToHandModel", "night", "()I"⟩ prog_13_method_52_code 3 (Option.some .int) 8 187 w [.ref (zad w 0)] M post := by
  refine zMet (by decide) (Nat.le_of_ble_eq_true rfl) ?_
  intro p e s m below meth c X hr hlk hml hW ls hl
  have hx := X.1
  have hb := X.2.1
  have hl : lv_has ls 3 [(0, .ref (zad w 0))] := hl
  have zJ_31 : ∀ (x_2 : Int32) (s_0 : Int32) (s_1 : Int32) (J : Int32 → Int32 → zMem → Prop) (zJ : ∀ (y_1 : Int32) (y_2 : Int32) (M : zMem) (H : Heap) (locs : List Loc) (ls : Array Slot), zWo w s.heap M H locs → lv_has ls 3 [(0, .ref (zad w 0)), (1, .int y_1), (2, .int y_2)] → J y_1 y_2 M → W p l e (zRm 8 187) s m ([.ref (zad w 0)] : List Value).toArray below meth c H locs 0 0 (MQ below (va_Qi post (zB w) (zA w)) ([.ref (zad w 0)] : List Value).toArray s 0 0 (zA w)) (F0 m 8 ls [])) (M : zMem) (H : Heap) (locs : List Loc) (ls : Array Slot), zWo w s.heap M H locs → lv_has ls 3 [(0, .ref (zad w 0)), (2, .int x_2)] → wpJ_Model_night_31  J post x_2 s_0 s_1 M → W p l e (zRm 8 187) s m ([.ref (zad w 0)] : List Value).toArray below meth c H locs 0 0 (MQ below (va_Qi post (zB w) (zA w)) ([.ref (zad w 0)] : List Value).toArray s 0 0 (zA w)) (F0 m 31 ls [.int s_1, .int s_0]) := by
    intro x_2 s_0 s_1 J zJ M H locs ls hW hl h
    unfold wpJ_Model_night_31 at h
    refine lv_iadd hx hb dX11_night_31 ?_
    refine lv_topi (fun zx10 ezx10 => ?_)
    replace h := h zx10 ezx10
    refine lv_istore_n (lv' := [(1, .int zx10), (0, .ref (zad w 0)), (2, .int x_2)]) hx hb dX11_night_32 rfl hl (Nat.le_of_ble_eq_true rfl) rfl (fun ls hl => ?_)
    refine lv_aload_n hx hb dX11_night_33 rfl (lv_at hl 1 rfl) ?_
    refine lv_iconst hx hb dX11_night_34 zc_i0 ?_
    refine lv_iload_n hx hb dX11_night_35 rfl (lv_at hl 2 rfl) ?_
    refine lv_iconst hx hb dX11_night_36 zc_i0 ?_
    refine lv_iconst hx hb dX11_night_37 zc_i0 ?_
    refine zcallv (zrunV (As := [.int 0, .int x_2, .int 0, .int 0]) (rest := []) X hml hl hW h0.1 rfl zk_Model_201 (c_Model_put h0 h) rfl ⟨Nat.le_of_ble_eq_true rfl, Nat.le_of_ble_eq_true rfl⟩ ⟨Nat.le_refl 0, Nat.le_refl 0⟩ rfl (Nat.le_of_ble_eq_true rfl) dX11_night_38) hW (fun zm11 H locs h hW => ?_)
    refine lv_aload_n hx hb dX11_night_41 rfl (lv_at hl 1 rfl) ?_
    refine lv_iconst hx hb dX11_night_42 zc_i0 ?_
    refine lv_iload_n hx hb dX11_night_43 rfl (lv_at hl 2 rfl) ?_
    refine lv_iconst hx hb dX11_night_44 zc_i1 ?_
    refine lv_iconst hx hb dX11_night_45 zc_i0 ?_
    refine zcallv (zrunV (As := [.int 0, .int x_2, .int 1, .int 0]) (rest := []) X hml hl hW h0.1 rfl zk_Model_201 (c_Model_put h0 h) rfl ⟨Nat.le_of_ble_eq_true rfl, Nat.le_of_ble_eq_true rfl⟩ ⟨Nat.le_refl 0, Nat.le_refl 0⟩ rfl (Nat.le_of_ble_eq_true rfl) dX11_night_46) hW (fun zm13 H locs h hW => ?_)
    refine lv_aload_n hx hb dX11_night_49 rfl (lv_at hl 1 rfl) ?_
    refine lv_iconst hx hb dX11_night_50 zc_i0 ?_
    refine lv_iload_n hx hb dX11_night_51 rfl (lv_at hl 2 rfl) ?_
    refine lv_iconst hx hb dX11_night_52 zc_i2 ?_
    refine lv_bipush hx hb dX11_night_53 zc_bm4 ?_
    refine zcallv (zrunV (As := [.int 0, .int x_2, .int 2, .int ((-4))]) (rest := []) X hml hl hW h0.1 rfl zk_Model_201 (c_Model_put h0 h) rfl ⟨Nat.le_of_ble_eq_true rfl, Nat.le_of_ble_eq_true rfl⟩ ⟨Nat.le_refl 0, Nat.le_refl 0⟩ rfl (Nat.le_of_ble_eq_true rfl) dX11_night_55) hW (fun zm15 H locs h hW => ?_)
    refine lv_aload_n hx hb dX11_night_58 rfl (lv_at hl 1 rfl) ?_
    refine lv_iconst hx hb dX11_night_59 zc_i0 ?_
    refine lv_iload_n hx hb dX11_night_60 rfl (lv_at hl 2 rfl) ?_
    refine lv_iconst hx hb dX11_night_61 zc_i3 ?_
    refine lv_bipush hx hb dX11_night_62 zc_bm4 ?_
    refine zcallv (zrunV (As := [.int 0, .int x_2, .int 3, .int ((-4))]) (rest := []) X hml hl hW h0.1 rfl zk_Model_201 (c_Model_put h0 h) rfl ⟨Nat.le_of_ble_eq_true rfl, Nat.le_of_ble_eq_true rfl⟩ ⟨Nat.le_refl 0, Nat.le_refl 0⟩ rfl (Nat.le_of_ble_eq_true rfl) dX11_night_64) hW (fun zm17 H locs h hW => ?_)
    refine lv_aload_n hx hb dX11_night_67 rfl (lv_at hl 1 rfl) ?_
    refine lv_iconst hx hb dX11_night_68 zc_i0 ?_
    refine lv_iload_n hx hb dX11_night_69 rfl (lv_at hl 2 rfl) ?_
    refine lv_iconst hx hb dX11_night_70 zc_i4 ?_
    refine lv_bipush hx hb dX11_night_71 zc_bm4 ?_
    refine zcallv (zrunV (As := [.int 0, .int x_2, .int 4, .int ((-4))]) (rest := []) X hml hl hW h0.1 rfl zk_Model_201 (c_Model_put h0 h) rfl ⟨Nat.le_of_ble_eq_true rfl, Nat.le_of_ble_eq_true rfl⟩ ⟨Nat.le_refl 0, Nat.le_refl 0⟩ rfl (Nat.le_of_ble_eq_true rfl) dX11_night_73) hW (fun zm19 H locs h hW => ?_)
    obtain ⟨zx21, ezx21⟩ : ∃ y : Int32, y = x_2 + 1 := ⟨_, rfl⟩
    replace h := h zx21 ezx21
    refine lv_iinc (v := zx21) (lv' := [(2, .int zx21), (1, .int zx10), (0, .ref (zad w 0))]) hx hb dX11_night_76 hl (k := 2) rfl (by rw [ezx21, zc_i1]) (Nat.le_of_ble_eq_true rfl) rfl (fun ls hl => ?_)
    refine lv_goto (tgt := 8) hx hb dX11_night_79 rfl ?_
    exact zJ zx10 zx21 zm19 H locs ls hW (lv_sub hl [2, 1, 0] rfl) h
  have zL_8 :  ∀ (n : Nat) (x_1 : Int32) (x_2 : Int32) (M : zMem) (H : Heap) (locs : List Loc) (ls : Array Slot), zWo w s.heap M H locs → lv_has ls 3 [(0, .ref (zad w 0)), (1, .int x_1), (2, .int x_2)] → zlp2 (wpB_Model_night_8    post) n x_1 x_2 M → W p l e (zRm 8 187) s m ([.ref (zad w 0)] : List Value).toArray below meth c H locs 0 0 (MQ below (va_Qi post (zB w) (zA w)) ([.ref (zad w 0)] : List Value).toArray s 0 0 (zA w)) (F0 m 8 ls []) := by
    intro n
    induction n with
    | zero => intro x_1 x_2 M H locs ls hW hl h; exact h.elim
    | succ n zJ =>
      intro x_1 x_2 M H locs ls hW hl h
      have h : wpB_Model_night_8    post (zlp2 (wpB_Model_night_8    post) n) x_1 x_2 M := h
      unfold wpB_Model_night_8 at h
      refine lv_iload_n hx hb dX11_night_8 rfl (lv_at hl 2 rfl) ?_
      refine lv_iconst hx hb dX11_night_9 zc_i5 ?_
      refine lv_icmp_ge (tgt := 82) hx hb dX11_night_10 rfl (fun c => ?_) (fun c => ?_)
      · replace h := h.1 c
        refine lv_aload_n hx hb dX11_night_82 rfl (lv_at hl 0 rfl) ?_
        refine zg_Model_bench X hW h0 zu_1036 dX11_night_83 ?_
        refine lv_iconst hx hb dX11_night_86 zc_i4 ?_
        refine lv_iconst hx hb dX11_night_87 zc_i0 ?_
        obtain ⟨g, h⟩ := h
        refine ziast X hW h0.2.2.2.2.2.2.1 g dX11_night_88 (fun H locs zm3 ezm3 hW => ?_)
        replace h := h zm3 ezm3
        refine lv_aload_n hx hb dX11_night_89 rfl (lv_at hl 0 rfl) ?_
        refine zcallv (zrunV (As := []) (rest := []) X hml hl hW h0.1 rfl zk_Model_243 (c_Model_asNumbered h0 h) rfl ⟨Nat.le_of_ble_eq_true rfl, Nat.le_of_ble_eq_true rfl⟩ ⟨Nat.le_refl 0, Nat.le_refl 0⟩ rfl (Nat.le_of_ble_eq_true rfl) dX11_night_90) hW (fun zm4 H locs h hW => ?_)
        refine lv_aload_n hx hb dX11_night_93 rfl (lv_at hl 0 rfl) ?_
        refine lv_iconst hx hb dX11_night_94 zc_i0 ?_
        refine zcallv (zrunV (As := [.int 0]) (rest := []) X hml hl hW h0.1 rfl zk_Model_246 (c_Model_settle h0 h) rfl ⟨Nat.le_of_ble_eq_true rfl, Nat.le_of_ble_eq_true rfl⟩ ⟨Nat.le_refl 0, Nat.le_refl 0⟩ rfl (Nat.le_of_ble_eq_true rfl) dX11_night_95) hW (fun zm6 H locs h hW => ?_)
        refine lv_iload_n hx hb dX11_night_98 rfl (lv_at hl 1 rfl) ?_
        exact zreti X hr hlk hW h dX11_night_99
      · replace h := h.2 c
        refine lv_iload_n hx hb dX11_night_13 rfl (lv_at hl 1 rfl) ?_
        refine lv_aload_n hx hb dX11_night_14 rfl (lv_at hl 0 rfl) ?_
        refine lv_iconst hx hb dX11_night_15 zc_i0 ?_
        refine lv_iload_n hx hb dX11_night_16 rfl (lv_at hl 2 rfl) ?_
        refine lv_iconst hx hb dX11_night_17 zc_i2 ?_
        refine zcalli (zrunV (As := [.int 0, .int x_2, .int 2]) (rest := [.int x_1]) X hml hl hW h0.1 rfl zk_Model_195 (c_Model_at h0 h) rfl ⟨Nat.le_of_ble_eq_true rfl, Nat.le_of_ble_eq_true rfl⟩ ⟨Nat.le_refl 0, Nat.le_refl 0⟩ rfl (Nat.le_of_ble_eq_true rfl) dX11_night_18) hW (fun zr9 zm8 H locs h hW => ?_)
        refine lv_bipush hx hb dX11_night_21 zc_bm4 ?_
        refine lv_icmp_ne (tgt := 30) hx hb dX11_night_23 rfl (fun c => ?_) (fun c => ?_)
        · replace h := h.1 c
          refine lv_iconst hx hb dX11_night_30 zc_i1 ?_
          exact zJ_31 x_2 x_1 1 _ zJ zm8 H locs ls hW (lv_sub hl [0, 2] rfl) h
        · replace h := h.2 c
          refine lv_iconst hx hb dX11_night_26 zc_i0 ?_
          refine lv_goto (tgt := 31) hx hb dX11_night_27 rfl ?_
          exact zJ_31 x_2 x_1 0 _ zJ zm8 H locs ls hW (lv_sub hl [0, 2] rfl) h
  unfold wp_Model_night at h
  have zMain : ∀ (H : Heap) (locs : List Loc) (ls : Array Slot), zWo w s.heap M H locs → lv_has ls 3 [(0, .ref (zad w 0))] → W p l e (zRm 8 187) s m ([.ref (zad w 0)] : List Value).toArray below meth c H locs 0 0 (MQ below (va_Qi post (zB w) (zA w)) ([.ref (zad w 0)] : List Value).toArray s 0 0 (zA w)) (F0 m 0 ls []) := by
    intro H locs ls hW hl
    refine lv_aload_n hx hb dX11_night_0 rfl (lv_at hl 0 rfl) ?_
    refine zcallv (zrunV (As := []) (rest := []) X hml hl hW h0.1 rfl zk_Model_180 (c_Model_awake h0 h) rfl ⟨Nat.le_of_ble_eq_true rfl, Nat.le_of_ble_eq_true rfl⟩ ⟨Nat.le_refl 0, Nat.le_refl 0⟩ rfl (Nat.le_of_ble_eq_true rfl) dX11_night_1) hW (fun zm1 H locs h hW => ?_)
    refine lv_iconst hx hb dX11_night_4 zc_i0 ?_
    refine lv_istore_n (lv' := [(1, .int 0), (0, .ref (zad w 0))]) hx hb dX11_night_5 rfl hl (Nat.le_of_ble_eq_true rfl) rfl (fun ls hl => ?_)
    refine lv_iconst hx hb dX11_night_6 zc_i0 ?_
    refine lv_istore_n (lv' := [(2, .int 0), (1, .int 0), (0, .ref (zad w 0))]) hx hb dX11_night_7 rfl hl (Nat.le_of_ble_eq_true rfl) rfl (fun ls hl => ?_)
    obtain ⟨n, h⟩ := h
    refine zL_8   n 0 0 zm1 H locs ls hW (lv_sub hl [2, 1, 0] rfl) h
  exact zMain s.heap [] ls hW hl
def wp_Model_now (a1 : Int32) (M : zMem) (Q : Int32 → zMem → Prop) : Prop :=
  wp_Model_awake M (fun zm1 => wp_Model_in a1.toInt64 0 4 zm1 (fun zr4 zm3 => (zr4 = 0 → Q ((-1)) zm3) ∧ (¬ zr4 = 0 → wp_Model_of 0 a1 zm3 (fun zr6 zm5 => Q zr6 zm5))))
set_option maxHeartbeats 4000000 in
set_option maxRecDepth 20000 in
theorem c_Model_now {l : Launch} {w : zWd} {a1 : Int32} {M : zMem} {post : Int32 → zMem → Prop} (h0 : zI_Model w) (h : wp_Model_now a1 M post) : zMi l ⟨"HandToHandModel", "now", "(I)I"⟩ prog_13_method_53_code 2 (Option.some .int) 8 187 w [.ref (zad w 0), .int a1] M post := by
  refine zMet (by decide) (Nat.le_of_ble_eq_true rfl) ?_
  intro p e s m below meth c X hr hlk hml hW ls hl
  have hx := X.1
  have hb := X.2.1
  have hl : lv_has ls 2 [(0, .ref (zad w 0)), (1, .int a1)] := hl
  unfold wp_Model_now at h
  have zMain : ∀ (H : Heap) (locs : List Loc) (ls : Array Slot), zWo w s.heap M H locs → lv_has ls 2 [(0, .ref (zad w 0)), (1, .int a1)] → W p l e (zRm 8 187) s m ([.ref (zad w 0), .int a1] : List Value).toArray below meth c H locs 0 0 (MQ below (va_Qi post (zB w) (zA w)) ([.ref (zad w 0), .int a1] : List Value).toArray s 0 0 (zA w)) (F0 m 0 ls []) := by
    intro H locs ls hW hl
    refine lv_aload_n hx hb dX11_now_0 rfl (lv_at hl 0 rfl) ?_
    refine zcallv (zrunV (As := []) (rest := []) X hml hl hW h0.1 rfl zk_Model_180 (c_Model_awake h0 h) rfl ⟨Nat.le_of_ble_eq_true rfl, Nat.le_of_ble_eq_true rfl⟩ ⟨Nat.le_refl 0, Nat.le_refl 0⟩ rfl (Nat.le_of_ble_eq_true rfl) dX11_now_1) hW (fun zm1 H locs h hW => ?_)
    refine lv_iload_n hx hb dX11_now_4 rfl (lv_at hl 1 rfl) ?_
    refine lv_i2l hx hb dX11_now_5 rfl ?_
    refine lv_lconst hx hb dX11_now_6 zc_l0 ?_
    refine lv_ldc2 hx hb X.2.2.1 (X.2.2.2.1 _ zu_1249) dX11_now_7 ?_
    refine zcalli (zrunS (As := [.long a1.toInt64, .long 0, .long 4]) (rest := []) X hml hl hW zk_Model_69 (c_Model_in  h) rfl ⟨Nat.le_of_ble_eq_true rfl, Nat.le_of_ble_eq_true rfl⟩ ⟨Nat.le_refl 0, Nat.le_refl 0⟩ rfl (Nat.le_of_ble_eq_true rfl) dX11_now_10) hW (fun zr4 zm3 H locs h hW => ?_)
    refine lv_if_eq (tgt := 25) hx hb dX11_now_13 rfl (fun c => ?_) (fun c => ?_)
    · replace h := h.1 c
      refine lv_iconst hx hb dX11_now_25 zc_im1 ?_
      exact zreti X hr hlk hW h dX11_now_26
    · replace h := h.2 c
      refine lv_aload_n hx hb dX11_now_16 rfl (lv_at hl 0 rfl) ?_
      refine lv_iconst hx hb dX11_now_17 zc_i0 ?_
      refine lv_iload_n hx hb dX11_now_18 rfl (lv_at hl 1 rfl) ?_
      refine zcalli (zrunV (As := [.int 0, .int a1]) (rest := []) X hml hl hW h0.1 rfl zk_Model_218 (c_Model_of h0 h) rfl ⟨Nat.le_of_ble_eq_true rfl, Nat.le_of_ble_eq_true rfl⟩ ⟨Nat.le_refl 0, Nat.le_refl 0⟩ rfl (Nat.le_of_ble_eq_true rfl) dX11_now_19) hW (fun zr6 zm5 H locs h hW => ?_)
      refine lv_goto (tgt := 26) hx hb dX11_now_22 rfl ?_
      exact zreti X hr hlk hW h dX11_now_26
  exact zMain s.heap [] ls hW hl
def wp_Model_hand (a1 : Int32) (a2 : Int32) (M : zMem) (Q : Int32 → zMem → Prop) : Prop :=
  wp_Model_awake M (fun zm1 => wp_Model_isHand a1 zm1 (fun zr4 zm3 => (zr4 = 0 → Q ((-1)) zm3) ∧ (¬ zr4 = 0 → wp_Model_in a2.toInt64 0 5 zm3 (fun zr6 zm5 => (zr6 = 0 → Q ((-1)) zm5) ∧ (¬ zr6 = 0 → wp_Model_at 0 a1 a2 zm5 (fun zr8 zm7 => Q zr8 zm7))))))
set_option maxHeartbeats 4000000 in
set_option maxRecDepth 20000 in
theorem c_Model_hand {l : Launch} {w : zWd} {a1 : Int32} {a2 : Int32} {M : zMem} {post : Int32 → zMem → Prop} (h0 : zI_Model w) (h : wp_Model_hand a1 a2 M post) : zMi l ⟨"HandToHandModel", "hand", "(II)I"⟩ prog_13_method_54_code 3 (Option.some .int) 8 187 w [.ref (zad w 0), .int a1, .int a2] M post := by
  refine zMet (by decide) (Nat.le_of_ble_eq_true rfl) ?_
  intro p e s m below meth c X hr hlk hml hW ls hl
  have hx := X.1
  have hb := X.2.1
  have hl : lv_has ls 3 [(0, .ref (zad w 0)), (1, .int a1), (2, .int a2)] := hl
  unfold wp_Model_hand at h
  have zMain : ∀ (H : Heap) (locs : List Loc) (ls : Array Slot), zWo w s.heap M H locs → lv_has ls 3 [(0, .ref (zad w 0)), (1, .int a1), (2, .int a2)] → W p l e (zRm 8 187) s m ([.ref (zad w 0), .int a1, .int a2] : List Value).toArray below meth c H locs 0 0 (MQ below (va_Qi post (zB w) (zA w)) ([.ref (zad w 0), .int a1, .int a2] : List Value).toArray s 0 0 (zA w)) (F0 m 0 ls []) := by
    intro H locs ls hW hl
    refine lv_aload_n hx hb dX11_hand_0 rfl (lv_at hl 0 rfl) ?_
    refine zcallv (zrunV (As := []) (rest := []) X hml hl hW h0.1 rfl zk_Model_180 (c_Model_awake h0 h) rfl ⟨Nat.le_of_ble_eq_true rfl, Nat.le_of_ble_eq_true rfl⟩ ⟨Nat.le_refl 0, Nat.le_refl 0⟩ rfl (Nat.le_of_ble_eq_true rfl) dX11_hand_1) hW (fun zm1 H locs h hW => ?_)
    refine lv_aload_n hx hb dX11_hand_4 rfl (lv_at hl 0 rfl) ?_
    refine lv_iload_n hx hb dX11_hand_5 rfl (lv_at hl 1 rfl) ?_
    refine zcalli (zrunV (As := [.int a1]) (rest := []) X hml hl hW h0.1 rfl zk_Model_166 (c_Model_isHand h0 h) rfl ⟨Nat.le_of_ble_eq_true rfl, Nat.le_of_ble_eq_true rfl⟩ ⟨Nat.le_refl 0, Nat.le_refl 0⟩ rfl (Nat.le_of_ble_eq_true rfl) dX11_hand_6) hW (fun zr4 zm3 H locs h hW => ?_)
    refine lv_if_eq (tgt := 34) hx hb dX11_hand_9 rfl (fun c => ?_) (fun c => ?_)
    · replace h := h.1 c
      refine lv_iconst hx hb dX11_hand_34 zc_im1 ?_
      exact zreti X hr hlk hW h dX11_hand_35
    · replace h := h.2 c
      refine lv_iload_n hx hb dX11_hand_12 rfl (lv_at hl 2 rfl) ?_
      refine lv_i2l hx hb dX11_hand_13 rfl ?_
      refine lv_lconst hx hb dX11_hand_14 zc_l0 ?_
      refine lv_ldc2 hx hb X.2.2.1 (X.2.2.2.1 _ zu_1358) dX11_hand_15 ?_
      refine zcalli (zrunS (As := [.long a2.toInt64, .long 0, .long 5]) (rest := []) X hml hl hW zk_Model_69 (c_Model_in  h) rfl ⟨Nat.le_of_ble_eq_true rfl, Nat.le_of_ble_eq_true rfl⟩ ⟨Nat.le_refl 0, Nat.le_refl 0⟩ rfl (Nat.le_of_ble_eq_true rfl) dX11_hand_18) hW (fun zr6 zm5 H locs h hW => ?_)
      refine lv_if_eq (tgt := 34) hx hb dX11_hand_21 rfl (fun c => ?_) (fun c => ?_)
      · replace h := h.1 c
        refine lv_iconst hx hb dX11_hand_34 zc_im1 ?_
        exact zreti X hr hlk hW h dX11_hand_35
      · replace h := h.2 c
        refine lv_aload_n hx hb dX11_hand_24 rfl (lv_at hl 0 rfl) ?_
        refine lv_iconst hx hb dX11_hand_25 zc_i0 ?_
        refine lv_iload_n hx hb dX11_hand_26 rfl (lv_at hl 1 rfl) ?_
        refine lv_iload_n hx hb dX11_hand_27 rfl (lv_at hl 2 rfl) ?_
        refine zcalli (zrunV (As := [.int 0, .int a1, .int a2]) (rest := []) X hml hl hW h0.1 rfl zk_Model_195 (c_Model_at h0 h) rfl ⟨Nat.le_of_ble_eq_true rfl, Nat.le_of_ble_eq_true rfl⟩ ⟨Nat.le_refl 0, Nat.le_refl 0⟩ rfl (Nat.le_of_ble_eq_true rfl) dX11_hand_28) hW (fun zr8 zm7 H locs h hW => ?_)
        refine lv_goto (tgt := 35) hx hb dX11_hand_31 rfl ?_
        exact zreti X hr hlk hW h dX11_hand_35
  exact zMain s.heap [] ls hW hl
