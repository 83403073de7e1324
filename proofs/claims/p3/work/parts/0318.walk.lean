def wp_Model_at (a1 : Int32) (a2 : Int32) (a3 : Int32) (M : zMem) (Q : Int32 → zMem → Prop) : Prop :=
  vp_in ((((96 * a1) + 8) + (8 * a2)) + a3) 384 ∧ wp_Model_in a3.toInt64 2 4 M (fun zr2 zm1 => (zr2 = 0 → Q ((M 6 (ix ((((96 * a1) + 8) + (8 * a2)) + a3))) + 0) zm1) ∧ (¬ zr2 = 0 → Q ((M 6 (ix ((((96 * a1) + 8) + (8 * a2)) + a3))) + ((-4))) zm1))
set_option maxHeartbeats 4000000 in
set_option maxRecDepth 20000 in
theorem c_Model_at {l : Launch} {w : zWd} {a1 : Int32} {a2 : Int32} {a3 : Int32} {M : zMem} {post : Int32 → zMem → Prop} (h0 : zI_Model w) (h : wp_Model_at a1 a2 a3 M post) : zMi l ⟨"HandToHandModel", "at", "(III)I"⟩ prog_13_method_30_code 4 (Option.some .int) 1 25 w [.ref (zad w 0), .int a1, .int a2, .int a3] M post := by
  refine zMet (by decide) (Nat.le_of_ble_eq_true rfl) ?_
  intro p e s m below meth c X hr hlk hml hW ls hl
  have hx := X.1
  have hb := X.2.1
  have hl : lv_has ls 4 [(0, .ref (zad w 0)), (1, .int a1), (2, .int a2), (3, .int a3)] := hl
  unfold wp_Model_at at h
  have zMain : ∀ (H : Heap) (locs : List Loc) (ls : Array Slot), zWo w s.heap M H locs → lv_has ls 4 [(0, .ref (zad w 0)), (1, .int a1), (2, .int a2), (3, .int a3)] → W p l e (zRm 1 25) s m ([.ref (zad w 0), .int a1, .int a2, .int a3] : List Value).toArray below meth c H locs 0 0 (MQ below (va_Qi post (zB w) (zA w)) ([.ref (zad w 0), .int a1, .int a2, .int a3] : List Value).toArray s 0 0 (zA w)) (F0 m 0 ls []) := by
    intro H locs ls hW hl
    refine lv_aload_n hx hb dX11_at_0 rfl (lv_at hl 0 rfl) ?_
    refine zg_Model_bench X hW h0 zu_1036 dX11_at_1 ?_
    refine lv_bipush hx hb dX11_at_4 zc_b96 ?_
    refine lv_iload_n hx hb dX11_at_6 rfl (lv_at hl 1 rfl) ?_
    refine lv_imul hx hb dX11_at_7 ?_
    refine lv_bipush hx hb dX11_at_8 zc_b8 ?_
    refine lv_iadd hx hb dX11_at_10 ?_
    refine lv_bipush hx hb dX11_at_11 zc_b8 ?_
    refine lv_iload_n hx hb dX11_at_13 rfl (lv_at hl 2 rfl) ?_
    refine lv_imul hx hb dX11_at_14 ?_
    refine lv_iadd hx hb dX11_at_15 ?_
    refine lv_iload_n hx hb dX11_at_16 rfl (lv_at hl 3 rfl) ?_
    refine lv_iadd hx hb dX11_at_17 ?_
    obtain ⟨g, h⟩ := h
    refine ziald X hW h0.2.2.2.2.2.2.1 g dX11_at_18 ?_
    refine lv_iload_n hx hb dX11_at_19 rfl (lv_at hl 3 rfl) ?_
    refine lv_i2l hx hb dX11_at_20 rfl ?_
    refine lv_ldc2 hx hb X.2.2.1 (X.2.2.2.1 _ zu_1248) dX11_at_21 ?_
    refine lv_ldc2 hx hb X.2.2.1 (X.2.2.2.1 _ zu_1249) dX11_at_24 ?_
    refine zcalli (zrunS (As := [.long a3.toInt64, .long 2, .long 4]) (rest := [.int (M 6 (ix ((((96 * a1) + 8) + (8 * a2)) + a3)))]) X hml hl hW zk_Model_69 (c_Model_in  h) rfl ⟨Nat.le_of_ble_eq_true rfl, Nat.le_of_ble_eq_true rfl⟩ ⟨Nat.le_refl 0, Nat.le_refl 0⟩ rfl (Nat.le_of_ble_eq_true rfl) dX11_at_27) hW (fun zr2 zm1 H locs h hW => ?_)
    refine lv_if_eq (tgt := 38) hx hb dX11_at_30 rfl (fun c => ?_) (fun c => ?_)
    · replace h := h.1 c
      refine lv_iconst hx hb dX11_at_38 zc_i0 ?_
      refine lv_iadd hx hb dX11_at_39 ?_
      exact zreti X hr hlk hW h dX11_at_40
    · replace h := h.2 c
      refine lv_bipush hx hb dX11_at_33 zc_bm4 ?_
      refine lv_goto (tgt := 39) hx hb dX11_at_35 rfl ?_
      refine lv_iadd hx hb dX11_at_39 ?_
      exact zreti X hr hlk hW h dX11_at_40
  exact zMain s.heap [] ls hW hl
def wpJ_Model_mayBegin_42 (a1 : Int32) (a2 : Int32)  (Q : Int32 → zMem → Prop) (x_3 : Int32) (s_0 : Int32) (M : zMem) : Prop :=
  wp_Model_at a1 (a2 + 1) 2 M (fun zr4 zm3 => (s_0 = 0 → Q 0 zm3) ∧ (¬ s_0 = 0 → (zr4 = (-4) → Q 1 zm3) ∧ (¬ zr4 = (-4) → (x_3 < zr4 → Q 1 zm3) ∧ (¬ x_3 < zr4 → (¬ zr4 = x_3 → Q 0 zm3) ∧ (zr4 = x_3 → wp_Model_at a1 (a2 + 1) 3 zm3 (fun zr6 zm5 => wp_Model_at a1 a2 3 zm5 (fun zr8 zm7 => (zr6 ≤ zr8 → Q 0 zm7) ∧ (¬ zr6 ≤ zr8 → Q 1 zm7))))))))
def wpJ_Model_mayBegin_37 (a1 : Int32) (a2 : Int32)  (Q : Int32 → zMem → Prop) (x_3 : Int32)  (M : zMem) : Prop :=
  wpJ_Model_mayBegin_42 a1 a2 Q x_3 1 M
def wp_Model_mayBegin (a1 : Int32) (a2 : Int32) (M : zMem) (Q : Int32 → zMem → Prop) : Prop :=
  wp_Model_at a1 a2 2 M (fun zr2 zm1 => (¬ a2 = ((zm1 0 18) - 1) → ((zm1 0 19) = 0 → wpJ_Model_mayBegin_37 a1 a2 Q zr2 zm1) ∧ (¬ (zm1 0 19) = 0 → vp_in a2 5 ∧ ((zm1 9 (ix a2)) ≤ zr2 → wpJ_Model_mayBegin_42 a1 a2 Q zr2 0 zm1) ∧ (¬ (zm1 9 (ix a2)) ≤ zr2 → wpJ_Model_mayBegin_37 a1 a2 Q zr2 zm1))) ∧ (a2 = ((zm1 0 18) - 1) → Q 1 zm1))
set_option maxHeartbeats 4000000 in
set_option maxRecDepth 20000 in
theorem c_Model_mayBegin {l : Launch} {w : zWd} {a1 : Int32} {a2 : Int32} {M : zMem} {post : Int32 → zMem → Prop} (h0 : zI_Model w) (h : wp_Model_mayBegin a1 a2 M post) : zMi l ⟨"HandToHandModel", "mayBegin", "(II)Z"⟩ prog_13_method_43_code 6 (Option.some .boolean) 2 48 w [.ref (zad w 0), .int a1, .int a2] M post := by
  refine zMet (by decide) (Nat.le_of_ble_eq_true rfl) ?_
  intro p e s m below meth c X hr hlk hml hW ls hl
  have hx := X.1
  have hb := X.2.1
  have hl : lv_has ls 6 [(0, .ref (zad w 0)), (1, .int a1), (2, .int a2)] := hl
  have zJ_42 : ∀ (x_3 : Int32) (s_0 : Int32) (M : zMem) (H : Heap) (locs : List Loc) (ls : Array Slot), zWo w s.heap M H locs → lv_has ls 6 [(0, .ref (zad w 0)), (1, .int a1), (2, .int a2), (3, .int x_3)] → wpJ_Model_mayBegin_42 a1 a2 post x_3 s_0 M → W p l e (zRm 2 48) s m ([.ref (zad w 0), .int a1, .int a2] : List Value).toArray below meth c H locs 0 0 (MQ below (va_Qi post (zB w) (zA w)) ([.ref (zad w 0), .int a1, .int a2] : List Value).toArray s 0 0 (zA w)) (F0 m 42 ls [.int s_0]) := by
    intro x_3 s_0 M H locs ls hW hl h
    unfold wpJ_Model_mayBegin_42 at h
    refine lv_istore (lv' := [(4, .int s_0), (0, .ref (zad w 0)), (1, .int a1), (2, .int a2), (3, .int x_3)]) hx hb dX11_mayBegin_42 hl (Nat.le_of_ble_eq_true rfl) rfl (fun ls hl => ?_)
    refine lv_aload_n hx hb dX11_mayBegin_44 rfl (lv_at hl 1 rfl) ?_
    refine lv_iload_n hx hb dX11_mayBegin_45 rfl (lv_at hl 2 rfl) ?_
    refine lv_iload_n hx hb dX11_mayBegin_46 rfl (lv_at hl 3 rfl) ?_
    refine lv_iconst hx hb dX11_mayBegin_47 zc_i1 ?_
    refine lv_iadd hx hb dX11_mayBegin_48 ?_
    refine lv_iconst hx hb dX11_mayBegin_49 zc_i2 ?_
    refine zcalli (zrunV (As := [.int a1, .int (a2 + 1), .int 2]) (rest := []) X hml hl hW h0.1 rfl zk_Model_195 (c_Model_at h0 h) rfl ⟨Nat.le_of_ble_eq_true rfl, Nat.le_of_ble_eq_true rfl⟩ ⟨Nat.le_refl 0, Nat.le_refl 0⟩ rfl (Nat.le_of_ble_eq_true rfl) dX11_mayBegin_50) hW (fun zr4 zm3 H locs h hW => ?_)
    refine lv_istore (lv' := [(5, .int zr4), (4, .int s_0), (0, .ref (zad w 0)), (1, .int a1), (2, .int a2), (3, .int x_3)]) hx hb dX11_mayBegin_53 hl (Nat.le_of_ble_eq_true rfl) rfl (fun ls hl => ?_)
    refine lv_iload hx hb dX11_mayBegin_55 (lv_at hl 1 rfl) ?_
    refine lv_if_eq (tgt := 102) hx hb dX11_mayBegin_57 rfl (fun c => ?_) (fun c => ?_)
    · replace h := h.1 c
      refine lv_iconst hx hb dX11_mayBegin_102 zc_i0 ?_
      exact zretz X hr hlk hW rfl h dX11_mayBegin_103
    · replace h := h.2 c
      refine lv_iload hx hb dX11_mayBegin_60 (lv_at hl 0 rfl) ?_
      refine lv_bipush hx hb dX11_mayBegin_62 zc_bm4 ?_
      refine lv_icmp_eq (tgt := 98) hx hb dX11_mayBegin_64 rfl (fun c => ?_) (fun c => ?_)
      · replace h := h.1 c
        refine lv_iconst hx hb dX11_mayBegin_98 zc_i1 ?_
        refine lv_goto (tgt := 103) hx hb dX11_mayBegin_99 rfl ?_
        exact zretz X hr hlk hW rfl h dX11_mayBegin_103
      · replace h := h.2 c
        refine lv_iload hx hb dX11_mayBegin_67 (lv_at hl 0 rfl) ?_
        refine lv_iload_n hx hb dX11_mayBegin_69 rfl (lv_at hl 5 rfl) ?_
        refine lv_icmp_gt (tgt := 98) hx hb dX11_mayBegin_70 rfl (fun c => ?_) (fun c => ?_)
        · replace h := h.1 c
          refine lv_iconst hx hb dX11_mayBegin_98 zc_i1 ?_
          refine lv_goto (tgt := 103) hx hb dX11_mayBegin_99 rfl ?_
          exact zretz X hr hlk hW rfl h dX11_mayBegin_103
        · replace h := h.2 c
          refine lv_iload hx hb dX11_mayBegin_73 (lv_at hl 0 rfl) ?_
          refine lv_iload_n hx hb dX11_mayBegin_75 rfl (lv_at hl 5 rfl) ?_
          refine lv_icmp_ne (tgt := 102) hx hb dX11_mayBegin_76 rfl (fun c => ?_) (fun c => ?_)
          · replace h := h.1 c
            refine lv_iconst hx hb dX11_mayBegin_102 zc_i0 ?_
            exact zretz X hr hlk hW rfl h dX11_mayBegin_103
          · replace h := h.2 c
            refine lv_aload_n hx hb dX11_mayBegin_79 rfl (lv_at hl 2 rfl) ?_
            refine lv_iload_n hx hb dX11_mayBegin_80 rfl (lv_at hl 3 rfl) ?_
            refine lv_iload_n hx hb dX11_mayBegin_81 rfl (lv_at hl 4 rfl) ?_
            refine lv_iconst hx hb dX11_mayBegin_82 zc_i1 ?_
            refine lv_iadd hx hb dX11_mayBegin_83 ?_
            refine lv_iconst hx hb dX11_mayBegin_84 zc_i3 ?_
            refine zcalli (zrunV (As := [.int a1, .int (a2 + 1), .int 3]) (rest := []) X hml hl hW h0.1 rfl zk_Model_195 (c_Model_at h0 h) rfl ⟨Nat.le_of_ble_eq_true rfl, Nat.le_of_ble_eq_true rfl⟩ ⟨Nat.le_refl 0, Nat.le_refl 0⟩ rfl (Nat.le_of_ble_eq_true rfl) dX11_mayBegin_85) hW (fun zr6 zm5 H locs h hW => ?_)
            refine lv_aload_n hx hb dX11_mayBegin_88 rfl (lv_at hl 2 rfl) ?_
            refine lv_iload_n hx hb dX11_mayBegin_89 rfl (lv_at hl 3 rfl) ?_
            refine lv_iload_n hx hb dX11_mayBegin_90 rfl (lv_at hl 4 rfl) ?_
            refine lv_iconst hx hb dX11_mayBegin_91 zc_i3 ?_
            refine zcalli (zrunV (As := [.int a1, .int a2, .int 3]) (rest := [.int zr6]) X hml hl hW h0.1 rfl zk_Model_195 (c_Model_at h0 h) rfl ⟨Nat.le_of_ble_eq_true rfl, Nat.le_of_ble_eq_true rfl⟩ ⟨Nat.le_refl 0, Nat.le_refl 0⟩ rfl (Nat.le_of_ble_eq_true rfl) dX11_mayBegin_92) hW (fun zr8 zm7 H locs h hW => ?_)
            refine lv_icmp_le (tgt := 102) hx hb dX11_mayBegin_95 rfl (fun c => ?_) (fun c => ?_)
            · replace h := h.1 c
              refine lv_iconst hx hb dX11_mayBegin_102 zc_i0 ?_
              exact zretz X hr hlk hW rfl h dX11_mayBegin_103
            · replace h := h.2 c
              refine lv_iconst hx hb dX11_mayBegin_98 zc_i1 ?_
              refine lv_goto (tgt := 103) hx hb dX11_mayBegin_99 rfl ?_
              exact zretz X hr hlk hW rfl h dX11_mayBegin_103
  have zJ_37 : ∀ (x_3 : Int32) (M : zMem) (H : Heap) (locs : List Loc) (ls : Array Slot), zWo w s.heap M H locs → lv_has ls 6 [(0, .ref (zad w 0)), (1, .int a1), (2, .int a2), (3, .int x_3)] → wpJ_Model_mayBegin_37 a1 a2 post x_3 M → W p l e (zRm 2 48) s m ([.ref (zad w 0), .int a1, .int a2] : List Value).toArray below meth c H locs 0 0 (MQ below (va_Qi post (zB w) (zA w)) ([.ref (zad w 0), .int a1, .int a2] : List Value).toArray s 0 0 (zA w)) (F0 m 37 ls []) := by
    intro x_3 M H locs ls hW hl h
    unfold wpJ_Model_mayBegin_37 at h
    refine lv_iconst hx hb dX11_mayBegin_37 zc_i1 ?_
    refine lv_goto (tgt := 42) hx hb dX11_mayBegin_38 rfl ?_
    exact zJ_42 x_3 1 M H locs ls hW (lv_sub hl [0, 1, 2, 3] rfl) h
  unfold wp_Model_mayBegin at h
  have zMain : ∀ (H : Heap) (locs : List Loc) (ls : Array Slot), zWo w s.heap M H locs → lv_has ls 6 [(0, .ref (zad w 0)), (1, .int a1), (2, .int a2)] → W p l e (zRm 2 48) s m ([.ref (zad w 0), .int a1, .int a2] : List Value).toArray below meth c H locs 0 0 (MQ below (va_Qi post (zB w) (zA w)) ([.ref (zad w 0), .int a1, .int a2] : List Value).toArray s 0 0 (zA w)) (F0 m 0 ls []) := by
    intro H locs ls hW hl
    refine lv_aload_n hx hb dX11_mayBegin_0 rfl (lv_at hl 0 rfl) ?_
    refine lv_iload_n hx hb dX11_mayBegin_1 rfl (lv_at hl 1 rfl) ?_
    refine lv_iload_n hx hb dX11_mayBegin_2 rfl (lv_at hl 2 rfl) ?_
    refine lv_iconst hx hb dX11_mayBegin_3 zc_i2 ?_
    refine zcalli (zrunV (As := [.int a1, .int a2, .int 2]) (rest := []) X hml hl hW h0.1 rfl zk_Model_195 (c_Model_at h0 h) rfl ⟨Nat.le_of_ble_eq_true rfl, Nat.le_of_ble_eq_true rfl⟩ ⟨Nat.le_refl 0, Nat.le_refl 0⟩ rfl (Nat.le_of_ble_eq_true rfl) dX11_mayBegin_4) hW (fun zr2 zm1 H locs h hW => ?_)
    refine lv_istore_n (lv' := [(3, .int zr2), (0, .ref (zad w 0)), (1, .int a1), (2, .int a2)]) hx hb dX11_mayBegin_7 rfl hl (Nat.le_of_ble_eq_true rfl) rfl (fun ls hl => ?_)
    refine lv_iload_n hx hb dX11_mayBegin_8 rfl (lv_at hl 3 rfl) ?_
    refine lv_aload_n hx hb dX11_mayBegin_9 rfl (lv_at hl 1 rfl) ?_
    refine zg_Model_many X hW h0 zu_1038 dX11_mayBegin_10 ?_
    refine lv_iconst hx hb dX11_mayBegin_13 zc_i1 ?_
    refine lv_isub hx hb dX11_mayBegin_14 ?_
    refine lv_icmp_ne (tgt := 20) hx hb dX11_mayBegin_15 rfl (fun c => ?_) (fun c => ?_)
    · replace h := h.1 c
      refine lv_aload_n hx hb dX11_mayBegin_20 rfl (lv_at hl 1 rfl) ?_
      refine zg_Model_ruleNow X hW h0 zu_1039 dX11_mayBegin_21 ?_
      refine lv_if_eq (tgt := 37) hx hb dX11_mayBegin_24 rfl (fun c => ?_) (fun c => ?_)
      · replace h := h.1 c
        exact zJ_37 zr2 zm1 H locs ls hW (lv_sub hl [1, 2, 3, 0] rfl) h
      · replace h := h.2 c
        refine lv_iload_n hx hb dX11_mayBegin_27 rfl (lv_at hl 0 rfl) ?_
        refine lv_aload_n hx hb dX11_mayBegin_28 rfl (lv_at hl 1 rfl) ?_
        refine zg_Model_ends X hW h0 zu_1041 dX11_mayBegin_29 ?_
        refine lv_iload_n hx hb dX11_mayBegin_32 rfl (lv_at hl 3 rfl) ?_
        obtain ⟨g, h⟩ := h
        refine ziald X hW h0.2.2.2.2.2.2.2.2.1 g dX11_mayBegin_33 ?_
        refine lv_icmp_ge (tgt := 41) hx hb dX11_mayBegin_34 rfl (fun c => ?_) (fun c => ?_)
        · replace h := h.1 c
          refine lv_iconst hx hb dX11_mayBegin_41 zc_i0 ?_
          exact zJ_42 zr2 0 zm1 H locs ls hW (lv_sub hl [1, 2, 3, 0] rfl) h
        · replace h := h.2 c
          exact zJ_37 zr2 zm1 H locs ls hW (lv_sub hl [1, 2, 3, 0] rfl) h
    · replace h := h.2 c
      refine lv_iconst hx hb dX11_mayBegin_18 zc_i1 ?_
      exact zretz X hr hlk hW rfl h dX11_mayBegin_19
  exact zMain s.heap [] ls hW hl
def wp_Model_put (a1 : Int32) (a2 : Int32) (a3 : Int32) (a4 : Int32) (M : zMem) (Q : zMem → Prop) : Prop :=
  wp_Model_in a3.toInt64 2 4 M (fun zr2 zm1 => (zr2 = 0 → vp_in ((((96 * a1) + 8) + (8 * a2)) + a3) 384 ∧ ∀ zm3 : zMem, zm3 = zup zm1 6 (ix ((((96 * a1) + 8) + (8 * a2)) + a3)) (a4 - 0) → Q zm3) ∧ (¬ zr2 = 0 → vp_in ((((96 * a1) + 8) + (8 * a2)) + a3) 384 ∧ ∀ zm4 : zMem, zm4 = zup zm1 6 (ix ((((96 * a1) + 8) + (8 * a2)) + a3)) (a4 - ((-4))) → Q zm4))
set_option maxHeartbeats 4000000 in
set_option maxRecDepth 20000 in
theorem c_Model_put {l : Launch} {w : zWd} {a1 : Int32} {a2 : Int32} {a3 : Int32} {a4 : Int32} {M : zMem} {post : zMem → Prop} (h0 : zI_Model w) (h : wp_Model_put a1 a2 a3 a4 M post) : zMv l ⟨"HandToHandModel", "put", "(IIII)V"⟩ prog_13_method_31_code 5 none 1 25 w [.ref (zad w 0), .int a1, .int a2, .int a3, .int a4] M post := by
  refine zMet (by decide) (Nat.le_of_ble_eq_true rfl) ?_
  intro p e s m below meth c X hr hlk hml hW ls hl
  have hx := X.1
  have hb := X.2.1
  have hl : lv_has ls 5 [(0, .ref (zad w 0)), (1, .int a1), (2, .int a2), (3, .int a3), (4, .int a4)] := hl
  unfold wp_Model_put at h
  have zMain : ∀ (H : Heap) (locs : List Loc) (ls : Array Slot), zWo w s.heap M H locs → lv_has ls 5 [(0, .ref (zad w 0)), (1, .int a1), (2, .int a2), (3, .int a3), (4, .int a4)] → W p l e (zRm 1 25) s m ([.ref (zad w 0), .int a1, .int a2, .int a3, .int a4] : List Value).toArray below meth c H locs 0 0 (MQ below (va_Qv post (zB w) (zA w)) ([.ref (zad w 0), .int a1, .int a2, .int a3, .int a4] : List Value).toArray s 0 0 (zA w)) (F0 m 0 ls []) := by
    intro H locs ls hW hl
    refine lv_aload_n hx hb dX11_put_0 rfl (lv_at hl 0 rfl) ?_
    refine zg_Model_bench X hW h0 zu_1036 dX11_put_1 ?_
    refine lv_bipush hx hb dX11_put_4 zc_b96 ?_
    refine lv_iload_n hx hb dX11_put_6 rfl (lv_at hl 1 rfl) ?_
    refine lv_imul hx hb dX11_put_7 ?_
    refine lv_bipush hx hb dX11_put_8 zc_b8 ?_
    refine lv_iadd hx hb dX11_put_10 ?_
    refine lv_bipush hx hb dX11_put_11 zc_b8 ?_
    refine lv_iload_n hx hb dX11_put_13 rfl (lv_at hl 2 rfl) ?_
    refine lv_imul hx hb dX11_put_14 ?_
    refine lv_iadd hx hb dX11_put_15 ?_
    refine lv_iload_n hx hb dX11_put_16 rfl (lv_at hl 3 rfl) ?_
    refine lv_iadd hx hb dX11_put_17 ?_
    refine lv_iload hx hb dX11_put_18 (lv_at hl 4 rfl) ?_
    refine lv_iload_n hx hb dX11_put_20 rfl (lv_at hl 3 rfl) ?_
    refine lv_i2l hx hb dX11_put_21 rfl ?_
    refine lv_ldc2 hx hb X.2.2.1 (X.2.2.2.1 _ zu_1248) dX11_put_22 ?_
    refine lv_ldc2 hx hb X.2.2.1 (X.2.2.2.1 _ zu_1249) dX11_put_25 ?_
    refine zcalli (zrunS (As := [.long a3.toInt64, .long 2, .long 4]) (rest := [.int a4, .int ((((96 * a1) + 8) + (8 * a2)) + a3), .ref (zad w 6)]) X hml hl hW zk_Model_69 (c_Model_in  h) rfl ⟨Nat.le_of_ble_eq_true rfl, Nat.le_of_ble_eq_true rfl⟩ ⟨Nat.le_refl 0, Nat.le_refl 0⟩ rfl (Nat.le_of_ble_eq_true rfl) dX11_put_28) hW (fun zr2 zm1 H locs h hW => ?_)
    refine lv_if_eq (tgt := 39) hx hb dX11_put_31 rfl (fun c => ?_) (fun c => ?_)
    · replace h := h.1 c
      refine lv_iconst hx hb dX11_put_39 zc_i0 ?_
      refine lv_isub hx hb dX11_put_40 ?_
      obtain ⟨g, h⟩ := h
      refine ziast X hW h0.2.2.2.2.2.2.1 g dX11_put_41 (fun H locs zm3 ezm3 hW => ?_)
      replace h := h zm3 ezm3
      exact zretv X hr hlk hW h dX11_put_42
    · replace h := h.2 c
      refine lv_bipush hx hb dX11_put_34 zc_bm4 ?_
      refine lv_goto (tgt := 40) hx hb dX11_put_36 rfl ?_
      refine lv_isub hx hb dX11_put_40 ?_
      obtain ⟨g, h⟩ := h
      refine ziast X hW h0.2.2.2.2.2.2.1 g dX11_put_41 (fun H locs zm4 ezm4 hW => ?_)
      replace h := h zm4 ezm4
      exact zretv X hr hlk hW h dX11_put_42
  exact zMain s.heap [] ls hW hl
def wp_Model_learntAt (a1 : Int32) (a2 : Int32) (a3 : Int32) (M : zMem) (Q : Int32 → zMem → Prop) : Prop :=
  Q ((((96 * a1) + 48) + (8 * a2)) + a3) M
set_option maxHeartbeats 4000000 in
set_option maxRecDepth 20000 in
theorem c_Model_learntAt {l : Launch} {w : zWd} {a1 : Int32} {a2 : Int32} {a3 : Int32} {M : zMem} {post : Int32 → zMem → Prop} (h0 : zI_Model w) (h : wp_Model_learntAt a1 a2 a3 M post) : zMi l ⟨"HandToHandModel", "learntAt", "(III)I"⟩ prog_13_method_34_code 4 (Option.some .int) 0 0 w [.ref (zad w 0), .int a1, .int a2, .int a3] M post := by
  refine zMet (by decide) (Nat.le_of_ble_eq_true rfl) ?_
  intro p e s m below meth c X hr hlk hml hW ls hl
  have hx := X.1
  have hb := X.2.1
  have hl : lv_has ls 4 [(0, .ref (zad w 0)), (1, .int a1), (2, .int a2), (3, .int a3)] := hl
  unfold wp_Model_learntAt at h
  have zMain : ∀ (H : Heap) (locs : List Loc) (ls : Array Slot), zWo w s.heap M H locs → lv_has ls 4 [(0, .ref (zad w 0)), (1, .int a1), (2, .int a2), (3, .int a3)] → W p l e (zRm 0 0) s m ([.ref (zad w 0), .int a1, .int a2, .int a3] : List Value).toArray below meth c H locs 0 0 (MQ below (va_Qi post (zB w) (zA w)) ([.ref (zad w 0), .int a1, .int a2, .int a3] : List Value).toArray s 0 0 (zA w)) (F0 m 0 ls []) := by
    intro H locs ls hW hl
    refine lv_bipush hx hb dX11_learntAt_0 zc_b96 ?_
    refine lv_iload_n hx hb dX11_learntAt_2 rfl (lv_at hl 1 rfl) ?_
    refine lv_imul hx hb dX11_learntAt_3 ?_
    refine lv_bipush hx hb dX11_learntAt_4 zc_b48 ?_
    refine lv_iadd hx hb dX11_learntAt_6 ?_
    refine lv_bipush hx hb dX11_learntAt_7 zc_b8 ?_
    refine lv_iload_n hx hb dX11_learntAt_9 rfl (lv_at hl 2 rfl) ?_
    refine lv_imul hx hb dX11_learntAt_10 ?_
    refine lv_iadd hx hb dX11_learntAt_11 ?_
    refine lv_iload_n hx hb dX11_learntAt_12 rfl (lv_at hl 3 rfl) ?_
    refine lv_iadd hx hb dX11_learntAt_13 ?_
    exact zreti X hr hlk hW h dX11_learntAt_14
  exact zMain s.heap [] ls hW hl
def wp_Model_ticksOf (a1 : Int32) (a2 : Int32) (a3 : Int32) (M : zMem) (Q : Int32 → zMem → Prop) : Prop :=
  vp_in ((60 + (8 * a2)) + a3) 100 ∧ ∀ zx1 : Int32, zx1 = M 4 (ix ((60 + (8 * a2)) + a3)) → vp_in 3 100 ∧ (¬ (M 4 (ix 3)) = 0 → wp_Model_learntAt a1 a2 a3 M (fun zr3 zm2 => vp_in zr3 384 ∧ vp_in 3 100 ∧ (¬ (zm2 4 (ix 3)) = 0) ∧ ∀ zx4 : Int32, zx4 = zx1 - ((zm2 6 (ix zr3)) / (zm2 4 (ix 3))) → (1 ≤ zx4 → Q zx4 zm2) ∧ (¬ 1 ≤ zx4 → Q 1 zm2))) ∧ ((M 4 (ix 3)) = 0 → ∀ zx5 : Int32, zx5 = zx1 - 0 → (1 ≤ zx5 → Q zx5 M) ∧ (¬ 1 ≤ zx5 → Q 1 M))
set_option maxHeartbeats 4000000 in
set_option maxRecDepth 20000 in
theorem c_Model_ticksOf {l : Launch} {w : zWd} {a1 : Int32} {a2 : Int32} {a3 : Int32} {M : zMem} {post : Int32 → zMem → Prop} (h0 : zI_Model w) (h : wp_Model_ticksOf a1 a2 a3 M post) : zMi l ⟨"HandToHandModel", "ticksOf", "(III)I"⟩ prog_13_method_35_code 5 (Option.some .int) 1 23 w [.ref (zad w 0), .int a1, .int a2, .int a3] M post := by
  refine zMet (by decide) (Nat.le_of_ble_eq_true rfl) ?_
  intro p e s m below meth c X hr hlk hml hW ls hl
  have hx := X.1
  have hb := X.2.1
  have hl : lv_has ls 5 [(0, .ref (zad w 0)), (1, .int a1), (2, .int a2), (3, .int a3)] := hl
  unfold wp_Model_ticksOf at h
  have zMain : ∀ (H : Heap) (locs : List Loc) (ls : Array Slot), zWo w s.heap M H locs → lv_has ls 5 [(0, .ref (zad w 0)), (1, .int a1), (2, .int a2), (3, .int a3)] → W p l e (zRm 1 23) s m ([.ref (zad w 0), .int a1, .int a2, .int a3] : List Value).toArray below meth c H locs 0 0 (MQ below (va_Qi post (zB w) (zA w)) ([.ref (zad w 0), .int a1, .int a2, .int a3] : List Value).toArray s 0 0 (zA w)) (F0 m 0 ls []) := by
    intro H locs ls hW hl
    refine lv_aload_n hx hb dX11_ticksOf_0 rfl (lv_at hl 0 rfl) ?_
    refine zg_Model_holds X hW h0 zu_1031 dX11_ticksOf_1 ?_
    refine lv_bipush hx hb dX11_ticksOf_4 zc_b60 ?_
    refine lv_bipush hx hb dX11_ticksOf_6 zc_b8 ?_
    refine lv_iload_n hx hb dX11_ticksOf_8 rfl (lv_at hl 2 rfl) ?_
    refine lv_imul hx hb dX11_ticksOf_9 ?_
    refine lv_iadd hx hb dX11_ticksOf_10 ?_
    refine lv_iload_n hx hb dX11_ticksOf_11 rfl (lv_at hl 3 rfl) ?_
    refine lv_iadd hx hb dX11_ticksOf_12 ?_
    obtain ⟨g, h⟩ := h
    refine ziald X hW h0.2.2.2.2.1 g dX11_ticksOf_13 ?_
    refine lv_topi (fun zx1 ezx1 => ?_)
    replace h := h zx1 ezx1
    refine lv_istore (lv' := [(4, .int zx1), (0, .ref (zad w 0)), (1, .int a1), (2, .int a2), (3, .int a3)]) hx hb dX11_ticksOf_14 hl (Nat.le_of_ble_eq_true rfl) rfl (fun ls hl => ?_)
    refine lv_iload hx hb dX11_ticksOf_16 (lv_at hl 0 rfl) ?_
    refine lv_aload_n hx hb dX11_ticksOf_18 rfl (lv_at hl 1 rfl) ?_
    refine zg_Model_holds X hW h0 zu_1031 dX11_ticksOf_19 ?_
    refine lv_iconst hx hb dX11_ticksOf_22 zc_i3 ?_
    obtain ⟨g, h⟩ := h
    refine ziald X hW h0.2.2.2.2.1 g dX11_ticksOf_23 ?_
    refine lv_if_ne (tgt := 31) hx hb dX11_ticksOf_24 rfl (fun c => ?_) (fun c => ?_)
    · replace h := h.1 c
      refine lv_aload_n hx hb dX11_ticksOf_31 rfl (lv_at hl 1 rfl) ?_
      refine zg_Model_bench X hW h0 zu_1036 dX11_ticksOf_32 ?_
      refine lv_aload_n hx hb dX11_ticksOf_35 rfl (lv_at hl 1 rfl) ?_
      refine lv_iload_n hx hb dX11_ticksOf_36 rfl (lv_at hl 2 rfl) ?_
      refine lv_iload_n hx hb dX11_ticksOf_37 rfl (lv_at hl 3 rfl) ?_
      refine lv_iload_n hx hb dX11_ticksOf_38 rfl (lv_at hl 4 rfl) ?_
      refine zcalli (zrunV (As := [.int a1, .int a2, .int a3]) (rest := [.ref (zad w 6), .int zx1]) X hml hl hW h0.1 rfl zk_Model_185 (c_Model_learntAt h0 h) rfl ⟨Nat.le_of_ble_eq_true rfl, Nat.le_of_ble_eq_true rfl⟩ ⟨Nat.le_refl 0, Nat.le_refl 0⟩ rfl (Nat.le_of_ble_eq_true rfl) dX11_ticksOf_39) hW (fun zr3 zm2 H locs h hW => ?_)
      obtain ⟨g, h⟩ := h
      refine ziald X hW h0.2.2.2.2.2.2.1 g dX11_ticksOf_42 ?_
      refine lv_aload_n hx hb dX11_ticksOf_43 rfl (lv_at hl 1 rfl) ?_
      refine zg_Model_holds X hW h0 zu_1031 dX11_ticksOf_44 ?_
      refine lv_iconst hx hb dX11_ticksOf_47 zc_i3 ?_
      obtain ⟨g, h⟩ := h
      refine ziald X hW h0.2.2.2.2.1 g dX11_ticksOf_48 ?_
      obtain ⟨g, h⟩ := h
      refine lv_idiv hx hb dX11_ticksOf_49 g ?_
      refine lv_isub hx hb dX11_ticksOf_50 ?_
      refine lv_topi (fun zx4 ezx4 => ?_)
      replace h := h zx4 ezx4
      refine lv_istore (lv' := [(4, .int zx4), (0, .ref (zad w 0)), (1, .int a1), (2, .int a2), (3, .int a3)]) hx hb dX11_ticksOf_51 hl (Nat.le_of_ble_eq_true rfl) rfl (fun ls hl => ?_)
      refine lv_iload hx hb dX11_ticksOf_53 (lv_at hl 0 rfl) ?_
      refine lv_iconst hx hb dX11_ticksOf_55 zc_i1 ?_
      refine lv_icmp_ge (tgt := 63) hx hb dX11_ticksOf_56 rfl (fun c => ?_) (fun c => ?_)
      · replace h := h.1 c
        refine lv_iload hx hb dX11_ticksOf_63 (lv_at hl 0 rfl) ?_
        exact zreti X hr hlk hW h dX11_ticksOf_65
      · replace h := h.2 c
        refine lv_iconst hx hb dX11_ticksOf_59 zc_i1 ?_
        refine lv_goto (tgt := 65) hx hb dX11_ticksOf_60 rfl ?_
        exact zreti X hr hlk hW h dX11_ticksOf_65
    · replace h := h.2 c
      refine lv_iconst hx hb dX11_ticksOf_27 zc_i0 ?_
      refine lv_goto (tgt := 50) hx hb dX11_ticksOf_28 rfl ?_
      refine lv_isub hx hb dX11_ticksOf_50 ?_
      refine lv_topi (fun zx5 ezx5 => ?_)
      replace h := h zx5 ezx5
      refine lv_istore (lv' := [(4, .int zx5), (0, .ref (zad w 0)), (1, .int a1), (2, .int a2), (3, .int a3)]) hx hb dX11_ticksOf_51 hl (Nat.le_of_ble_eq_true rfl) rfl (fun ls hl => ?_)
      refine lv_iload hx hb dX11_ticksOf_53 (lv_at hl 0 rfl) ?_
      refine lv_iconst hx hb dX11_ticksOf_55 zc_i1 ?_
      refine lv_icmp_ge (tgt := 63) hx hb dX11_ticksOf_56 rfl (fun c => ?_) (fun c => ?_)
      · replace h := h.1 c
        refine lv_iload hx hb dX11_ticksOf_63 (lv_at hl 0 rfl) ?_
        exact zreti X hr hlk hW h dX11_ticksOf_65
      · replace h := h.2 c
        refine lv_iconst hx hb dX11_ticksOf_59 zc_i1 ?_
        refine lv_goto (tgt := 65) hx hb dX11_ticksOf_60 rfl ?_
        exact zreti X hr hlk hW h dX11_ticksOf_65
  exact zMain s.heap [] ls hW hl
def wpJ_Model_canBeLeft_37 (a1 : Int32) (a2 : Int32)  (Q : Int32 → zMem → Prop) (x_3 : Int32) (s_0 : Int32) (M : zMem) : Prop :=
  (¬ s_0 = 0 → Q 0 M) ∧ (s_0 = 0 → (¬ (M 0 19) = 2 → Q 1 M) ∧ ((M 0 19) = 2 → vp_in a2 5 ∧ (x_3 < (M 9 (ix a2)) → Q 0 M) ∧ (¬ x_3 < (M 9 (ix a2)) → Q 1 M)))
def wpJ_Model_canBeLeft_36 (a1 : Int32) (a2 : Int32)  (Q : Int32 → zMem → Prop) (x_3 : Int32)  (M : zMem) : Prop :=
  wpJ_Model_canBeLeft_37 a1 a2 Q x_3 0 M
def wp_Model_canBeLeft (a1 : Int32) (a2 : Int32) (M : zMem) (Q : Int32 → zMem → Prop) : Prop :=
  wp_Model_at a1 a2 2 M (fun zr2 zm1 => vp_in 5 100 ∧ (¬ (((zm1 4 (ix 5)) >>> (zr2 &&& 31)) &&& 1) = 1 → wpJ_Model_canBeLeft_36 a1 a2 Q zr2 zm1) ∧ ((((zm1 4 (ix 5)) >>> (zr2 &&& 31)) &&& 1) = 1 → wp_Model_at a1 a2 3 zm1 (fun zr4 zm3 => (zr4 ≤ 0 → wpJ_Model_canBeLeft_36 a1 a2 Q zr2 zm3) ∧ (¬ zr4 ≤ 0 → wpJ_Model_canBeLeft_37 a1 a2 Q zr2 1 zm3))))
set_option maxHeartbeats 4000000 in
set_option maxRecDepth 20000 in
theorem c_Model_canBeLeft {l : Launch} {w : zWd} {a1 : Int32} {a2 : Int32} {M : zMem} {post : Int32 → zMem → Prop} (h0 : zI_Model w) (h : wp_Model_canBeLeft a1 a2 M post) : zMi l ⟨"HandToHandModel", "canBeLeft", "(II)Z"⟩ prog_13_method_41_code 5 (Option.some .boolean) 2 48 w [.ref (zad w 0), .int a1, .int a2] M post := by
  refine zMet (by decide) (Nat.le_of_ble_eq_true rfl) ?_
  intro p e s m below meth c X hr hlk hml hW ls hl
  have hx := X.1
  have hb := X.2.1
  have hl : lv_has ls 5 [(0, .ref (zad w 0)), (1, .int a1), (2, .int a2)] := hl
  have zJ_37 : ∀ (x_3 : Int32) (s_0 : Int32) (M : zMem) (H : Heap) (locs : List Loc) (ls : Array Slot), zWo w s.heap M H locs → lv_has ls 5 [(0, .ref (zad w 0)), (2, .int a2), (3, .int x_3)] → wpJ_Model_canBeLeft_37 a1 a2 post x_3 s_0 M → W p l e (zRm 2 48) s m ([.ref (zad w 0), .int a1, .int a2] : List Value).toArray below meth c H locs 0 0 (MQ below (va_Qi post (zB w) (zA w)) ([.ref (zad w 0), .int a1, .int a2] : List Value).toArray s 0 0 (zA w)) (F0 m 37 ls [.int s_0]) := by
    intro x_3 s_0 M H locs ls hW hl h
    unfold wpJ_Model_canBeLeft_37 at h
    refine lv_istore (lv' := [(4, .int s_0), (0, .ref (zad w 0)), (2, .int a2), (3, .int x_3)]) hx hb dX11_canBeLeft_37 hl (Nat.le_of_ble_eq_true rfl) rfl (fun ls hl => ?_)
    refine lv_iload hx hb dX11_canBeLeft_39 (lv_at hl 0 rfl) ?_
    refine lv_if_ne (tgt := 66) hx hb dX11_canBeLeft_41 rfl (fun c => ?_) (fun c => ?_)
    · replace h := h.1 c
      refine lv_iconst hx hb dX11_canBeLeft_66 zc_i0 ?_
      exact zretz X hr hlk hW rfl h dX11_canBeLeft_67
    · replace h := h.2 c
      refine lv_aload_n hx hb dX11_canBeLeft_44 rfl (lv_at hl 1 rfl) ?_
      refine zg_Model_ruleNow X hW h0 zu_1039 dX11_canBeLeft_45 ?_
      refine lv_iconst hx hb dX11_canBeLeft_48 zc_i2 ?_
      refine lv_icmp_ne (tgt := 62) hx hb dX11_canBeLeft_49 rfl (fun c => ?_) (fun c => ?_)
      · replace h := h.1 c
        refine lv_iconst hx hb dX11_canBeLeft_62 zc_i1 ?_
        refine lv_goto (tgt := 67) hx hb dX11_canBeLeft_63 rfl ?_
        exact zretz X hr hlk hW rfl h dX11_canBeLeft_67
      · replace h := h.2 c
        refine lv_iload_n hx hb dX11_canBeLeft_52 rfl (lv_at hl 3 rfl) ?_
        refine lv_aload_n hx hb dX11_canBeLeft_53 rfl (lv_at hl 1 rfl) ?_
        refine zg_Model_ends X hW h0 zu_1041 dX11_canBeLeft_54 ?_
        refine lv_iload_n hx hb dX11_canBeLeft_57 rfl (lv_at hl 2 rfl) ?_
        obtain ⟨g, h⟩ := h
        refine ziald X hW h0.2.2.2.2.2.2.2.2.1 g dX11_canBeLeft_58 ?_
        refine lv_icmp_lt (tgt := 66) hx hb dX11_canBeLeft_59 rfl (fun c => ?_) (fun c => ?_)
        · replace h := h.1 c
          refine lv_iconst hx hb dX11_canBeLeft_66 zc_i0 ?_
          exact zretz X hr hlk hW rfl h dX11_canBeLeft_67
        · replace h := h.2 c
          refine lv_iconst hx hb dX11_canBeLeft_62 zc_i1 ?_
          refine lv_goto (tgt := 67) hx hb dX11_canBeLeft_63 rfl ?_
          exact zretz X hr hlk hW rfl h dX11_canBeLeft_67
  have zJ_36 : ∀ (x_3 : Int32) (M : zMem) (H : Heap) (locs : List Loc) (ls : Array Slot), zWo w s.heap M H locs → lv_has ls 5 [(0, .ref (zad w 0)), (2, .int a2), (3, .int x_3)] → wpJ_Model_canBeLeft_36 a1 a2 post x_3 M → W p l e (zRm 2 48) s m ([.ref (zad w 0), .int a1, .int a2] : List Value).toArray below meth c H locs 0 0 (MQ below (va_Qi post (zB w) (zA w)) ([.ref (zad w 0), .int a1, .int a2] : List Value).toArray s 0 0 (zA w)) (F0 m 36 ls []) := by
    intro x_3 M H locs ls hW hl h
    unfold wpJ_Model_canBeLeft_36 at h
    refine lv_iconst hx hb dX11_canBeLeft_36 zc_i0 ?_
    exact zJ_37 x_3 0 M H locs ls hW (lv_sub hl [0, 1, 2] rfl) h
  unfold wp_Model_canBeLeft at h
  have zMain : ∀ (H : Heap) (locs : List Loc) (ls : Array Slot), zWo w s.heap M H locs → lv_has ls 5 [(0, .ref (zad w 0)), (1, .int a1), (2, .int a2)] → W p l e (zRm 2 48) s m ([.ref (zad w 0), .int a1, .int a2] : List Value).toArray below meth c H locs 0 0 (MQ below (va_Qi post (zB w) (zA w)) ([.ref (zad w 0), .int a1, .int a2] : List Value).toArray s 0 0 (zA w)) (F0 m 0 ls []) := by
    intro H locs ls hW hl
    refine lv_aload_n hx hb dX11_canBeLeft_0 rfl (lv_at hl 0 rfl) ?_
    refine lv_iload_n hx hb dX11_canBeLeft_1 rfl (lv_at hl 1 rfl) ?_
    refine lv_iload_n hx hb dX11_canBeLeft_2 rfl (lv_at hl 2 rfl) ?_
    refine lv_iconst hx hb dX11_canBeLeft_3 zc_i2 ?_
    refine zcalli (zrunV (As := [.int a1, .int a2, .int 2]) (rest := []) X hml hl hW h0.1 rfl zk_Model_195 (c_Model_at h0 h) rfl ⟨Nat.le_of_ble_eq_true rfl, Nat.le_of_ble_eq_true rfl⟩ ⟨Nat.le_refl 0, Nat.le_refl 0⟩ rfl (Nat.le_of_ble_eq_true rfl) dX11_canBeLeft_4) hW (fun zr2 zm1 H locs h hW => ?_)
    refine lv_istore_n (lv' := [(3, .int zr2), (0, .ref (zad w 0)), (1, .int a1), (2, .int a2)]) hx hb dX11_canBeLeft_7 rfl hl (Nat.le_of_ble_eq_true rfl) rfl (fun ls hl => ?_)
    refine lv_aload_n hx hb dX11_canBeLeft_8 rfl (lv_at hl 1 rfl) ?_
    refine zg_Model_holds X hW h0 zu_1031 dX11_canBeLeft_9 ?_
    refine lv_iconst hx hb dX11_canBeLeft_12 zc_i5 ?_
    obtain ⟨g, h⟩ := h
    refine ziald X hW h0.2.2.2.2.1 g dX11_canBeLeft_13 ?_
    refine lv_iload_n hx hb dX11_canBeLeft_14 rfl (lv_at hl 0 rfl) ?_
    refine lv_ishr hx hb dX11_canBeLeft_15 ?_
    refine lv_iconst hx hb dX11_canBeLeft_16 zc_i1 ?_
    refine lv_iand hx hb dX11_canBeLeft_17 ?_
    refine lv_iconst hx hb dX11_canBeLeft_18 zc_i1 ?_
    refine lv_icmp_ne (tgt := 36) hx hb dX11_canBeLeft_19 rfl (fun c => ?_) (fun c => ?_)
    · replace h := h.1 c
      exact zJ_36 zr2 zm1 H locs ls hW (lv_sub hl [1, 3, 0] rfl) h
    · replace h := h.2 c
      refine lv_aload_n hx hb dX11_canBeLeft_22 rfl (lv_at hl 1 rfl) ?_
      refine lv_iload_n hx hb dX11_canBeLeft_23 rfl (lv_at hl 2 rfl) ?_
      refine lv_iload_n hx hb dX11_canBeLeft_24 rfl (lv_at hl 3 rfl) ?_
      refine lv_iconst hx hb dX11_canBeLeft_25 zc_i3 ?_
      refine zcalli (zrunV (As := [.int a1, .int a2, .int 3]) (rest := []) X hml hl hW h0.1 rfl zk_Model_195 (c_Model_at h0 h) rfl ⟨Nat.le_of_ble_eq_true rfl, Nat.le_of_ble_eq_true rfl⟩ ⟨Nat.le_refl 0, Nat.le_refl 0⟩ rfl (Nat.le_of_ble_eq_true rfl) dX11_canBeLeft_26) hW (fun zr4 zm3 H locs h hW => ?_)
      refine lv_if_le (tgt := 36) hx hb dX11_canBeLeft_29 rfl (fun c => ?_) (fun c => ?_)
      · replace h := h.1 c
        exact zJ_36 zr2 zm3 H locs ls hW (lv_sub hl [1, 3, 0] rfl) h
      · replace h := h.2 c
        refine lv_iconst hx hb dX11_canBeLeft_32 zc_i1 ?_
        refine lv_goto (tgt := 37) hx hb dX11_canBeLeft_33 rfl ?_
        exact zJ_37 zr2 1 zm3 H locs ls hW (lv_sub hl [1, 3, 0] rfl) h
  exact zMain s.heap [] ls hW hl
def wp_Model_of (a1 : Int32) (a2 : Int32) (M : zMem) (Q : Int32 → zMem → Prop) : Prop :=
  vp_in ((96 * a1) + a2) 384 ∧ Q (M 6 (ix ((96 * a1) + a2))) M
set_option maxHeartbeats 4000000 in
set_option maxRecDepth 20000 in
theorem c_Model_of {l : Launch} {w : zWd} {a1 : Int32} {a2 : Int32} {M : zMem} {post : Int32 → zMem → Prop} (h0 : zI_Model w) (h : wp_Model_of a1 a2 M post) : zMi l ⟨"HandToHandModel", "of", "(II)I"⟩ prog_13_method_32_code 3 (Option.some .int) 0 0 w [.ref (zad w 0), .int a1, .int a2] M post := by
  refine zMet (by decide) (Nat.le_of_ble_eq_true rfl) ?_
  intro p e s m below meth c X hr hlk hml hW ls hl
  have hx := X.1
  have hb := X.2.1
  have hl : lv_has ls 3 [(0, .ref (zad w 0)), (1, .int a1), (2, .int a2)] := hl
  unfold wp_Model_of at h
  have zMain : ∀ (H : Heap) (locs : List Loc) (ls : Array Slot), zWo w s.heap M H locs → lv_has ls 3 [(0, .ref (zad w 0)), (1, .int a1), (2, .int a2)] → W p l e (zRm 0 0) s m ([.ref (zad w 0), .int a1, .int a2] : List Value).toArray below meth c H locs 0 0 (MQ below (va_Qi post (zB w) (zA w)) ([.ref (zad w 0), .int a1, .int a2] : List Value).toArray s 0 0 (zA w)) (F0 m 0 ls []) := by
    intro H locs ls hW hl
    refine lv_aload_n hx hb dX11_of_0 rfl (lv_at hl 0 rfl) ?_
    refine zg_Model_bench X hW h0 zu_1036 dX11_of_1 ?_
    refine lv_bipush hx hb dX11_of_4 zc_b96 ?_
    refine lv_iload_n hx hb dX11_of_6 rfl (lv_at hl 1 rfl) ?_
    refine lv_imul hx hb dX11_of_7 ?_
    refine lv_iload_n hx hb dX11_of_8 rfl (lv_at hl 2 rfl) ?_
    refine lv_iadd hx hb dX11_of_9 ?_
    obtain ⟨g, h⟩ := h
    refine ziald X hW h0.2.2.2.2.2.2.1 g dX11_of_10 ?_
    exact zreti X hr hlk hW h dX11_of_11
  exact zMain s.heap [] ls hW hl
def wp_Model_more (a1 : Int32) (a2 : Int32) (a3 : Int32) (M : zMem) (Q : zMem → Prop) : Prop :=
  vp_in ((96 * a1) + a2) 384 ∧ vp_in ((96 * a1) + a2) 384 ∧ ∀ zm1 : zMem, zm1 = zup M 6 (ix ((96 * a1) + a2)) ((M 6 (ix ((96 * a1) + a2))) + a3) → Q zm1
set_option maxHeartbeats 4000000 in
set_option maxRecDepth 20000 in
theorem c_Model_more {l : Launch} {w : zWd} {a1 : Int32} {a2 : Int32} {a3 : Int32} {M : zMem} {post : zMem → Prop} (h0 : zI_Model w) (h : wp_Model_more a1 a2 a3 M post) : zMv l ⟨"HandToHandModel", "more", "(III)V"⟩ prog_13_method_33_code 4 none 0 0 w [.ref (zad w 0), .int a1, .int a2, .int a3] M post := by
  refine zMet (by decide) (Nat.le_of_ble_eq_true rfl) ?_
  intro p e s m below meth c X hr hlk hml hW ls hl
  have hx := X.1
  have hb := X.2.1
  have hl : lv_has ls 4 [(0, .ref (zad w 0)), (1, .int a1), (2, .int a2), (3, .int a3)] := hl
  unfold wp_Model_more at h
  have zMain : ∀ (H : Heap) (locs : List Loc) (ls : Array Slot), zWo w s.heap M H locs → lv_has ls 4 [(0, .ref (zad w 0)), (1, .int a1), (2, .int a2), (3, .int a3)] → W p l e (zRm 0 0) s m ([.ref (zad w 0), .int a1, .int a2, .int a3] : List Value).toArray below meth c H locs 0 0 (MQ below (va_Qv post (zB w) (zA w)) ([.ref (zad w 0), .int a1, .int a2, .int a3] : List Value).toArray s 0 0 (zA w)) (F0 m 0 ls []) := by
    intro H locs ls hW hl
    refine lv_aload_n hx hb dX11_more_0 rfl (lv_at hl 0 rfl) ?_
    refine zg_Model_bench X hW h0 zu_1036 dX11_more_1 ?_
    refine lv_bipush hx hb dX11_more_4 zc_b96 ?_
    refine lv_iload_n hx hb dX11_more_6 rfl (lv_at hl 1 rfl) ?_
    refine lv_imul hx hb dX11_more_7 ?_
    refine lv_iload_n hx hb dX11_more_8 rfl (lv_at hl 2 rfl) ?_
    refine lv_iadd hx hb dX11_more_9 ?_
    refine lv_dup2_11 hx hb dX11_more_10 rfl rfl ?_
    obtain ⟨g, h⟩ := h
    refine ziald X hW h0.2.2.2.2.2.2.1 g dX11_more_11 ?_
    refine lv_iload_n hx hb dX11_more_12 rfl (lv_at hl 3 rfl) ?_
    refine lv_iadd hx hb dX11_more_13 ?_
    obtain ⟨g, h⟩ := h
    refine ziast X hW h0.2.2.2.2.2.2.1 g dX11_more_14 (fun H locs zm1 ezm1 hW => ?_)
    replace h := h zm1 ezm1
    exact zretv X hr hlk hW h dX11_more_15
  exact zMain s.heap [] ls hW hl
def wp_Model_pieceOr0 (a1 : Int32) (a2 : Int32) (M : zMem) (Q : Int32 → zMem → Prop) : Prop :=
  wp_Model_at a1 a2 2 M (fun zr2 zm1 => (¬ zr2 = (-4) → Q zr2 zm1) ∧ (zr2 = (-4) → Q 0 zm1))
set_option maxHeartbeats 4000000 in
set_option maxRecDepth 20000 in
theorem c_Model_pieceOr0 {l : Launch} {w : zWd} {a1 : Int32} {a2 : Int32} {M : zMem} {post : Int32 → zMem → Prop} (h0 : zI_Model w) (h : wp_Model_pieceOr0 a1 a2 M post) : zMi l ⟨"HandToHandModel", "pieceOr0", "(II)I"⟩ prog_13_method_37_code 4 (Option.some .int) 2 48 w [.ref (zad w 0), .int a1, .int a2] M post := by
  refine zMet (by decide) (Nat.le_of_ble_eq_true rfl) ?_
  intro p e s m below meth c X hr hlk hml hW ls hl
  have hx := X.1
  have hb := X.2.1
  have hl : lv_has ls 4 [(0, .ref (zad w 0)), (1, .int a1), (2, .int a2)] := hl
  unfold wp_Model_pieceOr0 at h
  have zMain : ∀ (H : Heap) (locs : List Loc) (ls : Array Slot), zWo w s.heap M H locs → lv_has ls 4 [(0, .ref (zad w 0)), (1, .int a1), (2, .int a2)] → W p l e (zRm 2 48) s m ([.ref (zad w 0), .int a1, .int a2] : List Value).toArray below meth c H locs 0 0 (MQ below (va_Qi post (zB w) (zA w)) ([.ref (zad w 0), .int a1, .int a2] : List Value).toArray s 0 0 (zA w)) (F0 m 0 ls []) := by
    intro H locs ls hW hl
    refine lv_aload_n hx hb dX11_pieceOr0_0 rfl (lv_at hl 0 rfl) ?_
    refine lv_iload_n hx hb dX11_pieceOr0_1 rfl (lv_at hl 1 rfl) ?_
    refine lv_iload_n hx hb dX11_pieceOr0_2 rfl (lv_at hl 2 rfl) ?_
    refine lv_iconst hx hb dX11_pieceOr0_3 zc_i2 ?_
    refine zcalli (zrunV (As := [.int a1, .int a2, .int 2]) (rest := []) X hml hl hW h0.1 rfl zk_Model_195 (c_Model_at h0 h) rfl ⟨Nat.le_of_ble_eq_true rfl, Nat.le_of_ble_eq_true rfl⟩ ⟨Nat.le_refl 0, Nat.le_refl 0⟩ rfl (Nat.le_of_ble_eq_true rfl) dX11_pieceOr0_4) hW (fun zr2 zm1 H locs h hW => ?_)
    refine lv_istore_n (lv' := [(3, .int zr2), (0, .ref (zad w 0)), (1, .int a1), (2, .int a2)]) hx hb dX11_pieceOr0_7 rfl hl (Nat.le_of_ble_eq_true rfl) rfl (fun ls hl => ?_)
    refine lv_iload_n hx hb dX11_pieceOr0_8 rfl (lv_at hl 0 rfl) ?_
    refine lv_bipush hx hb dX11_pieceOr0_9 zc_bm4 ?_
    refine lv_icmp_ne (tgt := 18) hx hb dX11_pieceOr0_11 rfl (fun c => ?_) (fun c => ?_)
    · replace h := h.1 c
      refine lv_iload_n hx hb dX11_pieceOr0_18 rfl (lv_at hl 0 rfl) ?_
      exact zreti X hr hlk hW h dX11_pieceOr0_19
    · replace h := h.2 c
      refine lv_iconst hx hb dX11_pieceOr0_14 zc_i0 ?_
      refine lv_goto (tgt := 19) hx hb dX11_pieceOr0_15 rfl ?_
      exact zreti X hr hlk hW h dX11_pieceOr0_19
  exact zMain s.heap [] ls hW hl
def wpJ_Model_goesBack_38 (a1 : Int32) (a2 : Int32) (a3 : Int32)  (Q : zMem → Prop)  (s_0 : Int32) (M : zMem) : Prop :=
  (s_0 ≤ 0 → wp_Model_put a1 a2 0 0 M (fun zm3 => wp_Model_put a1 a2 1 s_0 zm3 (fun zm5 => wp_Model_put a1 a2 2 (-4) zm5 (fun zm7 => wp_Model_put a1 a2 3 (-4) zm7 (fun zm9 => wp_Model_put a1 a2 4 (-4) zm9 (fun zm11 => Q zm11)))))) ∧ (¬ s_0 ≤ 0 → wp_Model_put a1 a2 0 1 M (fun zm13 => wp_Model_put a1 a2 1 s_0 zm13 (fun zm15 => wp_Model_put a1 a2 2 (-4) zm15 (fun zm17 => wp_Model_put a1 a2 3 (-4) zm17 (fun zm19 => wp_Model_put a1 a2 4 (-4) zm19 (fun zm21 => Q zm21))))))
def wpJ_Model_goesBack_25 (a1 : Int32) (a2 : Int32) (a3 : Int32)  (Q : zMem → Prop)  (s_0 : Int32) (M : zMem) : Prop :=
  (0 ≤ s_0 → wpJ_Model_goesBack_38 a1 a2 a3 Q s_0 M) ∧ (¬ 0 ≤ s_0 → wpJ_Model_goesBack_38 a1 a2 a3 Q 0 M)
def wp_Model_goesBack (a1 : Int32) (a2 : Int32) (a3 : Int32) (M : zMem) (Q : zMem → Prop) : Prop :=
  (¬ a2 = 0 → vp_in 2 100 ∧ wp_Model_pieceOr0 a1 (a2 - 1) M (fun zr2 zm1 => wpJ_Model_goesBack_25 a1 a2 a3 Q ((M 4 (ix 2)) * (a3 - zr2)) zm1)) ∧ (a2 = 0 → wpJ_Model_goesBack_25 a1 a2 a3 Q 0 M)
set_option maxHeartbeats 4000000 in
set_option maxRecDepth 20000 in
theorem c_Model_goesBack {l : Launch} {w : zWd} {a1 : Int32} {a2 : Int32} {a3 : Int32} {M : zMem} {post : zMem → Prop} (h0 : zI_Model w) (h : wp_Model_goesBack a1 a2 a3 M post) : zMv l ⟨"HandToHandModel", "goesBack", "(III)V"⟩ prog_13_method_38_code 5 none 3 71 w [.ref (zad w 0), .int a1, .int a2, .int a3] M post := by
  refine zMet (by decide) (Nat.le_of_ble_eq_true rfl) ?_
  intro p e s m below meth c X hr hlk hml hW ls hl
  have hx := X.1
  have hb := X.2.1
  have hl : lv_has ls 5 [(0, .ref (zad w 0)), (1, .int a1), (2, .int a2), (3, .int a3)] := hl
  have zJ_38 : ∀ (s_0 : Int32) (M : zMem) (H : Heap) (locs : List Loc) (ls : Array Slot), zWo w s.heap M H locs → lv_has ls 5 [(0, .ref (zad w 0)), (1, .int a1), (2, .int a2)] → wpJ_Model_goesBack_38 a1 a2 a3 post s_0 M → W p l e (zRm 3 71) s m ([.ref (zad w 0), .int a1, .int a2, .int a3] : List Value).toArray below meth c H locs 0 0 (MQ below (va_Qv post (zB w) (zA w)) ([.ref (zad w 0), .int a1, .int a2, .int a3] : List Value).toArray s 0 0 (zA w)) (F0 m 38 ls [.int s_0]) := by
    intro s_0 M H locs ls hW hl h
    unfold wpJ_Model_goesBack_38 at h
    refine lv_istore (lv' := [(4, .int s_0), (0, .ref (zad w 0)), (1, .int a1), (2, .int a2)]) hx hb dX11_goesBack_38 hl (Nat.le_of_ble_eq_true rfl) rfl (fun ls hl => ?_)
    refine lv_aload_n hx hb dX11_goesBack_40 rfl (lv_at hl 1 rfl) ?_
    refine lv_iload_n hx hb dX11_goesBack_41 rfl (lv_at hl 2 rfl) ?_
    refine lv_iload_n hx hb dX11_goesBack_42 rfl (lv_at hl 3 rfl) ?_
    refine lv_iconst hx hb dX11_goesBack_43 zc_i0 ?_
    refine lv_iload hx hb dX11_goesBack_44 (lv_at hl 0 rfl) ?_
    refine lv_if_le (tgt := 53) hx hb dX11_goesBack_46 rfl (fun c => ?_) (fun c => ?_)
    · replace h := h.1 c
      refine lv_iconst hx hb dX11_goesBack_53 zc_i0 ?_
      refine zcallv (zrunV (As := [.int a1, .int a2, .int 0, .int 0]) (rest := []) X hml hl hW h0.1 rfl zk_Model_201 (c_Model_put h0 h) rfl ⟨Nat.le_of_ble_eq_true rfl, Nat.le_of_ble_eq_true rfl⟩ ⟨Nat.le_refl 0, Nat.le_refl 0⟩ rfl (Nat.le_of_ble_eq_true rfl) dX11_goesBack_54) hW (fun zm3 H locs h hW => ?_)
      refine lv_aload_n hx hb dX11_goesBack_57 rfl (lv_at hl 1 rfl) ?_
      refine lv_iload_n hx hb dX11_goesBack_58 rfl (lv_at hl 2 rfl) ?_
      refine lv_iload_n hx hb dX11_goesBack_59 rfl (lv_at hl 3 rfl) ?_
      refine lv_iconst hx hb dX11_goesBack_60 zc_i1 ?_
      refine lv_iload hx hb dX11_goesBack_61 (lv_at hl 0 rfl) ?_
      refine zcallv (zrunV (As := [.int a1, .int a2, .int 1, .int s_0]) (rest := []) X hml hl hW h0.1 rfl zk_Model_201 (c_Model_put h0 h) rfl ⟨Nat.le_of_ble_eq_true rfl, Nat.le_of_ble_eq_true rfl⟩ ⟨Nat.le_refl 0, Nat.le_refl 0⟩ rfl (Nat.le_of_ble_eq_true rfl) dX11_goesBack_63) hW (fun zm5 H locs h hW => ?_)
      refine lv_aload_n hx hb dX11_goesBack_66 rfl (lv_at hl 1 rfl) ?_
      refine lv_iload_n hx hb dX11_goesBack_67 rfl (lv_at hl 2 rfl) ?_
      refine lv_iload_n hx hb dX11_goesBack_68 rfl (lv_at hl 3 rfl) ?_
      refine lv_iconst hx hb dX11_goesBack_69 zc_i2 ?_
      refine lv_bipush hx hb dX11_goesBack_70 zc_bm4 ?_
      refine zcallv (zrunV (As := [.int a1, .int a2, .int 2, .int ((-4))]) (rest := []) X hml hl hW h0.1 rfl zk_Model_201 (c_Model_put h0 h) rfl ⟨Nat.le_of_ble_eq_true rfl, Nat.le_of_ble_eq_true rfl⟩ ⟨Nat.le_refl 0, Nat.le_refl 0⟩ rfl (Nat.le_of_ble_eq_true rfl) dX11_goesBack_72) hW (fun zm7 H locs h hW => ?_)
      refine lv_aload_n hx hb dX11_goesBack_75 rfl (lv_at hl 1 rfl) ?_
      refine lv_iload_n hx hb dX11_goesBack_76 rfl (lv_at hl 2 rfl) ?_
      refine lv_iload_n hx hb dX11_goesBack_77 rfl (lv_at hl 3 rfl) ?_
      refine lv_iconst hx hb dX11_goesBack_78 zc_i3 ?_
      refine lv_bipush hx hb dX11_goesBack_79 zc_bm4 ?_
      refine zcallv (zrunV (As := [.int a1, .int a2, .int 3, .int ((-4))]) (rest := []) X hml hl hW h0.1 rfl zk_Model_201 (c_Model_put h0 h) rfl ⟨Nat.le_of_ble_eq_true rfl, Nat.le_of_ble_eq_true rfl⟩ ⟨Nat.le_refl 0, Nat.le_refl 0⟩ rfl (Nat.le_of_ble_eq_true rfl) dX11_goesBack_81) hW (fun zm9 H locs h hW => ?_)
      refine lv_aload_n hx hb dX11_goesBack_84 rfl (lv_at hl 1 rfl) ?_
      refine lv_iload_n hx hb dX11_goesBack_85 rfl (lv_at hl 2 rfl) ?_
      refine lv_iload_n hx hb dX11_goesBack_86 rfl (lv_at hl 3 rfl) ?_
      refine lv_iconst hx hb dX11_goesBack_87 zc_i4 ?_
      refine lv_bipush hx hb dX11_goesBack_88 zc_bm4 ?_
      refine zcallv (zrunV (As := [.int a1, .int a2, .int 4, .int ((-4))]) (rest := []) X hml hl hW h0.1 rfl zk_Model_201 (c_Model_put h0 h) rfl ⟨Nat.le_of_ble_eq_true rfl, Nat.le_of_ble_eq_true rfl⟩ ⟨Nat.le_refl 0, Nat.le_refl 0⟩ rfl (Nat.le_of_ble_eq_true rfl) dX11_goesBack_90) hW (fun zm11 H locs h hW => ?_)
      exact zretv X hr hlk hW h dX11_goesBack_93
    · replace h := h.2 c
      refine lv_iconst hx hb dX11_goesBack_49 zc_i1 ?_
      refine lv_goto (tgt := 54) hx hb dX11_goesBack_50 rfl ?_
      refine zcallv (zrunV (As := [.int a1, .int a2, .int 0, .int 1]) (rest := []) X hml hl hW h0.1 rfl zk_Model_201 (c_Model_put h0 h) rfl ⟨Nat.le_of_ble_eq_true rfl, Nat.le_of_ble_eq_true rfl⟩ ⟨Nat.le_refl 0, Nat.le_refl 0⟩ rfl (Nat.le_of_ble_eq_true rfl) dX11_goesBack_54) hW (fun zm13 H locs h hW => ?_)
      refine lv_aload_n hx hb dX11_goesBack_57 rfl (lv_at hl 1 rfl) ?_
      refine lv_iload_n hx hb dX11_goesBack_58 rfl (lv_at hl 2 rfl) ?_
      refine lv_iload_n hx hb dX11_goesBack_59 rfl (lv_at hl 3 rfl) ?_
      refine lv_iconst hx hb dX11_goesBack_60 zc_i1 ?_
      refine lv_iload hx hb dX11_goesBack_61 (lv_at hl 0 rfl) ?_
      refine zcallv (zrunV (As := [.int a1, .int a2, .int 1, .int s_0]) (rest := []) X hml hl hW h0.1 rfl zk_Model_201 (c_Model_put h0 h) rfl ⟨Nat.le_of_ble_eq_true rfl, Nat.le_of_ble_eq_true rfl⟩ ⟨Nat.le_refl 0, Nat.le_refl 0⟩ rfl (Nat.le_of_ble_eq_true rfl) dX11_goesBack_63) hW (fun zm15 H locs h hW => ?_)
      refine lv_aload_n hx hb dX11_goesBack_66 rfl (lv_at hl 1 rfl) ?_
      refine lv_iload_n hx hb dX11_goesBack_67 rfl (lv_at hl 2 rfl) ?_
      refine lv_iload_n hx hb dX11_goesBack_68 rfl (lv_at hl 3 rfl) ?_
      refine lv_iconst hx hb dX11_goesBack_69 zc_i2 ?_
      refine lv_bipush hx hb dX11_goesBack_70 zc_bm4 ?_
      refine zcallv (zrunV (As := [.int a1, .int a2, .int 2, .int ((-4))]) (rest := []) X hml hl hW h0.1 rfl zk_Model_201 (c_Model_put h0 h) rfl ⟨Nat.le_of_ble_eq_true rfl, Nat.le_of_ble_eq_true rfl⟩ ⟨Nat.le_refl 0, Nat.le_refl 0⟩ rfl (Nat.le_of_ble_eq_true rfl) dX11_goesBack_72) hW (fun zm17 H locs h hW => ?_)
      refine lv_aload_n hx hb dX11_goesBack_75 rfl (lv_at hl 1 rfl) ?_
      refine lv_iload_n hx hb dX11_goesBack_76 rfl (lv_at hl 2 rfl) ?_
      refine lv_iload_n hx hb dX11_goesBack_77 rfl (lv_at hl 3 rfl) ?_
      refine lv_iconst hx hb dX11_goesBack_78 zc_i3 ?_
      refine lv_bipush hx hb dX11_goesBack_79 zc_bm4 ?_
      refine zcallv (zrunV (As := [.int a1, .int a2, .int 3, .int ((-4))]) (rest := []) X hml hl hW h0.1 rfl zk_Model_201 (c_Model_put h0 h) rfl ⟨Nat.le_of_ble_eq_true rfl, Nat.le_of_ble_eq_true rfl⟩ ⟨Nat.le_refl 0, Nat.le_refl 0⟩ rfl (Nat.le_of_ble_eq_true rfl) dX11_goesBack_81) hW (fun zm19 H locs h hW => ?_)
      refine lv_aload_n hx hb dX11_goesBack_84 rfl (lv_at hl 1 rfl) ?_
      refine lv_iload_n hx hb dX11_goesBack_85 rfl (lv_at hl 2 rfl) ?_
      refine lv_iload_n hx hb dX11_goesBack_86 rfl (lv_at hl 3 rfl) ?_
      refine lv_iconst hx hb dX11_goesBack_87 zc_i4 ?_
      refine lv_bipush hx hb dX11_goesBack_88 zc_bm4 ?_
      refine zcallv (zrunV (As := [.int a1, .int a2, .int 4, .int ((-4))]) (rest := []) X hml hl hW h0.1 rfl zk_Model_201 (c_Model_put h0 h) rfl ⟨Nat.le_of_ble_eq_true rfl, Nat.le_of_ble_eq_true rfl⟩ ⟨Nat.le_refl 0, Nat.le_refl 0⟩ rfl (Nat.le_of_ble_eq_true rfl) dX11_goesBack_90) hW (fun zm21 H locs h hW => ?_)
      exact zretv X hr hlk hW h dX11_goesBack_93
  have zJ_25 : ∀ (s_0 : Int32) (M : zMem) (H : Heap) (locs : List Loc) (ls : Array Slot), zWo w s.heap M H locs → lv_has ls 5 [(0, .ref (zad w 0)), (1, .int a1), (2, .int a2)] → wpJ_Model_goesBack_25 a1 a2 a3 post s_0 M → W p l e (zRm 3 71) s m ([.ref (zad w 0), .int a1, .int a2, .int a3] : List Value).toArray below meth c H locs 0 0 (MQ below (va_Qv post (zB w) (zA w)) ([.ref (zad w 0), .int a1, .int a2, .int a3] : List Value).toArray s 0 0 (zA w)) (F0 m 25 ls [.int s_0]) := by
    intro s_0 M H locs ls hW hl h
    unfold wpJ_Model_goesBack_25 at h
    refine lv_istore (lv' := [(4, .int s_0), (0, .ref (zad w 0)), (1, .int a1), (2, .int a2)]) hx hb dX11_goesBack_25 hl (Nat.le_of_ble_eq_true rfl) rfl (fun ls hl => ?_)
    refine lv_iload hx hb dX11_goesBack_27 (lv_at hl 0 rfl) ?_
    refine lv_if_ge (tgt := 36) hx hb dX11_goesBack_29 rfl (fun c => ?_) (fun c => ?_)
    · replace h := h.1 c
      refine lv_iload hx hb dX11_goesBack_36 (lv_at hl 0 rfl) ?_
      exact zJ_38 s_0 M H locs ls hW (lv_sub hl [1, 2, 3] rfl) h
    · replace h := h.2 c
      refine lv_iconst hx hb dX11_goesBack_32 zc_i0 ?_
      refine lv_goto (tgt := 38) hx hb dX11_goesBack_33 rfl ?_
      exact zJ_38 0 M H locs ls hW (lv_sub hl [1, 2, 3] rfl) h
  unfold wp_Model_goesBack at h
  have zMain : ∀ (H : Heap) (locs : List Loc) (ls : Array Slot), zWo w s.heap M H locs → lv_has ls 5 [(0, .ref (zad w 0)), (1, .int a1), (2, .int a2), (3, .int a3)] → W p l e (zRm 3 71) s m ([.ref (zad w 0), .int a1, .int a2, .int a3] : List Value).toArray below meth c H locs 0 0 (MQ below (va_Qv post (zB w) (zA w)) ([.ref (zad w 0), .int a1, .int a2, .int a3] : List Value).toArray s 0 0 (zA w)) (F0 m 0 ls []) := by
    intro H locs ls hW hl
    refine lv_iload_n hx hb dX11_goesBack_0 rfl (lv_at hl 2 rfl) ?_
    refine lv_if_ne (tgt := 8) hx hb dX11_goesBack_1 rfl (fun c => ?_) (fun c => ?_)
    · replace h := h.1 c
      refine lv_aload_n hx hb dX11_goesBack_8 rfl (lv_at hl 0 rfl) ?_
      refine zg_Model_holds X hW h0 zu_1031 dX11_goesBack_9 ?_
      refine lv_iconst hx hb dX11_goesBack_12 zc_i2 ?_
      obtain ⟨g, h⟩ := h
      refine ziald X hW h0.2.2.2.2.1 g dX11_goesBack_13 ?_
      refine lv_iload_n hx hb dX11_goesBack_14 rfl (lv_at hl 3 rfl) ?_
      refine lv_aload_n hx hb dX11_goesBack_15 rfl (lv_at hl 0 rfl) ?_
      refine lv_iload_n hx hb dX11_goesBack_16 rfl (lv_at hl 1 rfl) ?_
      refine lv_iload_n hx hb dX11_goesBack_17 rfl (lv_at hl 2 rfl) ?_
      refine lv_iconst hx hb dX11_goesBack_18 zc_i1 ?_
      refine lv_isub hx hb dX11_goesBack_19 ?_
      refine zcalli (zrunV (As := [.int a1, .int (a2 - 1)]) (rest := [.int a3, .int (M 4 (ix 2))]) X hml hl hW h0.1 rfl zk_Model_198 (c_Model_pieceOr0 h0 h) rfl ⟨Nat.le_of_ble_eq_true rfl, Nat.le_of_ble_eq_true rfl⟩ ⟨Nat.le_refl 0, Nat.le_refl 0⟩ rfl (Nat.le_of_ble_eq_true rfl) dX11_goesBack_20) hW (fun zr2 zm1 H locs h hW => ?_)
      refine lv_isub hx hb dX11_goesBack_23 ?_
      refine lv_imul hx hb dX11_goesBack_24 ?_
      exact zJ_25 ((M 4 (ix 2)) * (a3 - zr2)) zm1 H locs ls hW (lv_sub hl [0, 1, 2] rfl) h
    · replace h := h.2 c
      refine lv_iconst hx hb dX11_goesBack_4 zc_i0 ?_
      refine lv_goto (tgt := 25) hx hb dX11_goesBack_5 rfl ?_
      exact zJ_25 0 M H locs ls hW (lv_sub hl [0, 1, 2] rfl) h
  exact zMain s.heap [] ls hW hl
