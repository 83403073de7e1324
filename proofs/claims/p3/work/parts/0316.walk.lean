def wpJ_Model_readWhole_44   (Q : zMem → Prop) (x_1 : Int32)  (M : zMem) : Prop :=
  vp_in 5 100 ∧ (¬ (M 0 3) = 0 → vp_in 5 100 ∧ ∀ zm5 : zMem, zm5 = zup M 5 (ix 5) ((M 5 (ix 5)) ||| 0) → wp_Model_next zm5 (fun zm6 => Q zm6)) ∧ ((M 0 3) = 0 → vp_in 5 100 ∧ ∀ zm8 : zMem, zm8 = zup M 5 (ix 5) ((M 5 (ix 5)) ||| (1 <<< (x_1 &&& 31))) → wp_Model_next zm8 (fun zm9 => Q zm9))
def wp_Model_readWhole  (M : zMem) (Q : zMem → Prop) : Prop :=
  wp_Model_next M (fun zm1 => vp_in 0 100 ∧ wp_Model_number 0 ((zm1 5 (ix 0)) - 1) zm1 (fun zr4 zm3 => (¬ (zm3 0 3) = 0 → wpJ_Model_readWhole_44  Q zr4 zm3) ∧ ((zm3 0 3) = 0 → vp_in 5 100 ∧ (¬ (((zm3 5 (ix 5)) >>> (zr4 &&& 31)) &&& 1) = 1 → wpJ_Model_readWhole_44  Q zr4 zm3) ∧ ((((zm3 5 (ix 5)) >>> (zr4 &&& 31)) &&& 1) = 1 → wp_Model_fails 4 zm3 (fun zm11 => wpJ_Model_readWhole_44  Q zr4 zm11)))))
set_option maxHeartbeats 4000000 in
set_option maxRecDepth 20000 in
theorem c_Model_readWhole {l : Launch} {w : zWd} {M : zMem} {post : zMem → Prop} (h0 : zI_Model w) (h : wp_Model_readWhole  M post) : zMv l ⟨"HandToHandModel", "readWhole", "()V"⟩ prog_13_method_13_code 2 none 3 67 w [.ref (zad w 0)] M post := by
  refine zMet (by decide) (Nat.le_of_ble_eq_true rfl) ?_
  intro p e s m below meth c X hr hlk hml hW ls hl
  have hx := X.1
  have hb := X.2.1
  have hl : lv_has ls 2 [(0, .ref (zad w 0))] := hl
  have zJ_44 : ∀ (x_1 : Int32) (M : zMem) (H : Heap) (locs : List Loc) (ls : Array Slot), zWo w s.heap M H locs → lv_has ls 2 [(0, .ref (zad w 0)), (1, .int x_1)] → wpJ_Model_readWhole_44  post x_1 M → W p l e (zRm 3 67) s m ([.ref (zad w 0)] : List Value).toArray below meth c H locs 0 0 (MQ below (va_Qv post (zB w) (zA w)) ([.ref (zad w 0)] : List Value).toArray s 0 0 (zA w)) (F0 m 44 ls []) := by
    intro x_1 M H locs ls hW hl h
    unfold wpJ_Model_readWhole_44 at h
    refine lv_aload_n hx hb dX11_readWhole_44 rfl (lv_at hl 0 rfl) ?_
    refine zg_Model_reads X hW h0 zu_1032 dX11_readWhole_45 ?_
    refine lv_iconst hx hb dX11_readWhole_48 zc_i5 ?_
    refine lv_dup2_11 hx hb dX11_readWhole_49 rfl rfl ?_
    obtain ⟨g, h⟩ := h
    refine ziald X hW h0.2.2.2.2.2.1 g dX11_readWhole_50 ?_
    refine lv_aload_n hx hb dX11_readWhole_51 rfl (lv_at hl 0 rfl) ?_
    refine zg_Model_wrong X hW h0 zu_1023 dX11_readWhole_52 ?_
    refine lv_if_ne (tgt := 64) hx hb dX11_readWhole_55 rfl (fun c => ?_) (fun c => ?_)
    · replace h := h.1 c
      refine lv_iconst hx hb dX11_readWhole_64 zc_i0 ?_
      refine lv_ior hx hb dX11_readWhole_65 ?_
      obtain ⟨g, h⟩ := h
      refine ziast X hW h0.2.2.2.2.2.1 g dX11_readWhole_66 (fun H locs zm5 ezm5 hW => ?_)
      replace h := h zm5 ezm5
      refine lv_aload_n hx hb dX11_readWhole_67 rfl (lv_at hl 0 rfl) ?_
      refine zcallv (zrunV (As := []) (rest := []) X hml hl hW h0.1 rfl zk_Model_114 (c_Model_next h0 h) rfl ⟨Nat.le_of_ble_eq_true rfl, Nat.le_of_ble_eq_true rfl⟩ ⟨Nat.le_refl 0, Nat.le_refl 0⟩ rfl (Nat.le_of_ble_eq_true rfl) dX11_readWhole_68) hW (fun zm6 H locs h hW => ?_)
      exact zretv X hr hlk hW h dX11_readWhole_71
    · replace h := h.2 c
      refine lv_iconst hx hb dX11_readWhole_58 zc_i1 ?_
      refine lv_iload_n hx hb dX11_readWhole_59 rfl (lv_at hl 1 rfl) ?_
      refine lv_ishl hx hb dX11_readWhole_60 ?_
      refine lv_goto (tgt := 65) hx hb dX11_readWhole_61 rfl ?_
      refine lv_ior hx hb dX11_readWhole_65 ?_
      obtain ⟨g, h⟩ := h
      refine ziast X hW h0.2.2.2.2.2.1 g dX11_readWhole_66 (fun H locs zm8 ezm8 hW => ?_)
      replace h := h zm8 ezm8
      refine lv_aload_n hx hb dX11_readWhole_67 rfl (lv_at hl 0 rfl) ?_
      refine zcallv (zrunV (As := []) (rest := []) X hml hl hW h0.1 rfl zk_Model_114 (c_Model_next h0 h) rfl ⟨Nat.le_of_ble_eq_true rfl, Nat.le_of_ble_eq_true rfl⟩ ⟨Nat.le_refl 0, Nat.le_refl 0⟩ rfl (Nat.le_of_ble_eq_true rfl) dX11_readWhole_68) hW (fun zm9 H locs h hW => ?_)
      exact zretv X hr hlk hW h dX11_readWhole_71
  unfold wp_Model_readWhole at h
  have zMain : ∀ (H : Heap) (locs : List Loc) (ls : Array Slot), zWo w s.heap M H locs → lv_has ls 2 [(0, .ref (zad w 0))] → W p l e (zRm 3 67) s m ([.ref (zad w 0)] : List Value).toArray below meth c H locs 0 0 (MQ below (va_Qv post (zB w) (zA w)) ([.ref (zad w 0)] : List Value).toArray s 0 0 (zA w)) (F0 m 0 ls []) := by
    intro H locs ls hW hl
    refine lv_aload_n hx hb dX11_readWhole_0 rfl (lv_at hl 0 rfl) ?_
    refine zcallv (zrunV (As := []) (rest := []) X hml hl hW h0.1 rfl zk_Model_114 (c_Model_next h0 h) rfl ⟨Nat.le_of_ble_eq_true rfl, Nat.le_of_ble_eq_true rfl⟩ ⟨Nat.le_refl 0, Nat.le_refl 0⟩ rfl (Nat.le_of_ble_eq_true rfl) dX11_readWhole_1) hW (fun zm1 H locs h hW => ?_)
    refine lv_aload_n hx hb dX11_readWhole_4 rfl (lv_at hl 0 rfl) ?_
    refine lv_iconst hx hb dX11_readWhole_5 zc_i0 ?_
    refine lv_aload_n hx hb dX11_readWhole_6 rfl (lv_at hl 0 rfl) ?_
    refine zg_Model_reads X hW h0 zu_1032 dX11_readWhole_7 ?_
    refine lv_iconst hx hb dX11_readWhole_10 zc_i0 ?_
    obtain ⟨g, h⟩ := h
    refine ziald X hW h0.2.2.2.2.2.1 g dX11_readWhole_11 ?_
    refine lv_iconst hx hb dX11_readWhole_12 zc_i1 ?_
    refine lv_isub hx hb dX11_readWhole_13 ?_
    refine zcalli (zrunV (As := [.int 0, .int ((zm1 5 (ix 0)) - 1)]) (rest := []) X hml hl hW h0.1 rfl zk_Model_111 (c_Model_number h0 h) rfl ⟨Nat.le_of_ble_eq_true rfl, Nat.le_of_ble_eq_true rfl⟩ ⟨Nat.le_refl 0, Nat.le_refl 0⟩ rfl (Nat.le_of_ble_eq_true rfl) dX11_readWhole_14) hW (fun zr4 zm3 H locs h hW => ?_)
    refine lv_istore_n (lv' := [(1, .int zr4), (0, .ref (zad w 0))]) hx hb dX11_readWhole_17 rfl hl (Nat.le_of_ble_eq_true rfl) rfl (fun ls hl => ?_)
    refine lv_aload_n hx hb dX11_readWhole_18 rfl (lv_at hl 1 rfl) ?_
    refine zg_Model_wrong X hW h0 zu_1023 dX11_readWhole_19 ?_
    refine lv_if_ne (tgt := 44) hx hb dX11_readWhole_22 rfl (fun c => ?_) (fun c => ?_)
    · replace h := h.1 c
      exact zJ_44 zr4 zm3 H locs ls hW (lv_sub hl [1, 0] rfl) h
    · replace h := h.2 c
      refine lv_aload_n hx hb dX11_readWhole_25 rfl (lv_at hl 1 rfl) ?_
      refine zg_Model_reads X hW h0 zu_1032 dX11_readWhole_26 ?_
      refine lv_iconst hx hb dX11_readWhole_29 zc_i5 ?_
      obtain ⟨g, h⟩ := h
      refine ziald X hW h0.2.2.2.2.2.1 g dX11_readWhole_30 ?_
      refine lv_iload_n hx hb dX11_readWhole_31 rfl (lv_at hl 0 rfl) ?_
      refine lv_ishr hx hb dX11_readWhole_32 ?_
      refine lv_iconst hx hb dX11_readWhole_33 zc_i1 ?_
      refine lv_iand hx hb dX11_readWhole_34 ?_
      refine lv_iconst hx hb dX11_readWhole_35 zc_i1 ?_
      refine lv_icmp_ne (tgt := 44) hx hb dX11_readWhole_36 rfl (fun c => ?_) (fun c => ?_)
      · replace h := h.1 c
        exact zJ_44 zr4 zm3 H locs ls hW (lv_sub hl [1, 0] rfl) h
      · replace h := h.2 c
        refine lv_aload_n hx hb dX11_readWhole_39 rfl (lv_at hl 1 rfl) ?_
        refine lv_iconst hx hb dX11_readWhole_40 zc_i4 ?_
        refine zcallv (zrunV (As := [.int 4]) (rest := []) X hml hl hW h0.1 rfl zk_Model_103 (c_Model_fails h0 h) rfl ⟨Nat.le_of_ble_eq_true rfl, Nat.le_of_ble_eq_true rfl⟩ ⟨Nat.le_refl 0, Nat.le_refl 0⟩ rfl (Nat.le_of_ble_eq_true rfl) dX11_readWhole_41) hW (fun zm11 H locs h hW => ?_)
        exact zJ_44 zr4 zm11 H locs ls hW (lv_sub hl [1, 0] rfl) h
  exact zMain s.heap [] ls hW hl
def wpJ_Model_readSort_35   (Q : zMem → Prop) (x_1 : Int32)  (M : zMem) : Prop :=
  (¬ (M 0 3) = 0 → ∀ zm5 : zMem, zm5 = zup M 0 14 ((M 0 14) ||| 0) → wp_Model_next zm5 (fun zm6 => vp_in 0 100 ∧ wp_Model_numbers (30 + (8 * x_1)) (zm6 5 (ix 0)) 0 6 zm6 (fun zm8 => Q zm8))) ∧ ((M 0 3) = 0 → ∀ zm10 : zMem, zm10 = zup M 0 14 ((M 0 14) ||| (1 <<< (x_1 &&& 31))) → wp_Model_next zm10 (fun zm11 => vp_in 0 100 ∧ wp_Model_numbers (30 + (8 * x_1)) (zm11 5 (ix 0)) 0 6 zm11 (fun zm13 => Q zm13)))
def wp_Model_readSort  (M : zMem) (Q : zMem → Prop) : Prop :=
  wp_Model_next M (fun zm1 => wp_Model_number 1 2 zm1 (fun zr4 zm3 => (¬ (zm3 0 3) = 0 → wpJ_Model_readSort_35  Q zr4 zm3) ∧ ((zm3 0 3) = 0 → (¬ (((zm3 0 14) >>> (zr4 &&& 31)) &&& 1) = 1 → wpJ_Model_readSort_35  Q zr4 zm3) ∧ ((((zm3 0 14) >>> (zr4 &&& 31)) &&& 1) = 1 → wp_Model_fails 4 zm3 (fun zm15 => wpJ_Model_readSort_35  Q zr4 zm15)))))
set_option maxHeartbeats 4000000 in
set_option maxRecDepth 20000 in
theorem c_Model_readSort {l : Launch} {w : zWd} {M : zMem} {post : zMem → Prop} (h0 : zI_Model w) (h : wp_Model_readSort  M post) : zMv l ⟨"HandToHandModel", "readSort", "()V"⟩ prog_13_method_14_code 2 none 4 92 w [.ref (zad w 0)] M post := by
  refine zMet (by decide) (Nat.le_of_ble_eq_true rfl) ?_
  intro p e s m below meth c X hr hlk hml hW ls hl
  have hx := X.1
  have hb := X.2.1
  have hl : lv_has ls 2 [(0, .ref (zad w 0))] := hl
  have zJ_35 : ∀ (x_1 : Int32) (M : zMem) (H : Heap) (locs : List Loc) (ls : Array Slot), zWo w s.heap M H locs → lv_has ls 2 [(0, .ref (zad w 0)), (1, .int x_1)] → wpJ_Model_readSort_35  post x_1 M → W p l e (zRm 4 92) s m ([.ref (zad w 0)] : List Value).toArray below meth c H locs 0 0 (MQ below (va_Qv post (zB w) (zA w)) ([.ref (zad w 0)] : List Value).toArray s 0 0 (zA w)) (F0 m 35 ls []) := by
    intro x_1 M H locs ls hW hl h
    unfold wpJ_Model_readSort_35 at h
    refine lv_aload_n hx hb dX11_readSort_35 rfl (lv_at hl 0 rfl) ?_
    refine lv_dup hx hb dX11_readSort_36 rfl ?_
    refine zg_Model_toldSorts X hW h0 zu_1034 dX11_readSort_37 ?_
    refine lv_aload_n hx hb dX11_readSort_40 rfl (lv_at hl 0 rfl) ?_
    refine zg_Model_wrong X hW h0 zu_1023 dX11_readSort_41 ?_
    refine lv_if_ne (tgt := 53) hx hb dX11_readSort_44 rfl (fun c => ?_) (fun c => ?_)
    · replace h := h.1 c
      refine lv_iconst hx hb dX11_readSort_53 zc_i0 ?_
      refine lv_ior hx hb dX11_readSort_54 ?_
      refine zp_Model_toldSorts X hW h0 zu_1034 dX11_readSort_55 (fun H locs zm5 ezm5 hW => ?_)
      replace h := h zm5 ezm5
      refine lv_aload_n hx hb dX11_readSort_58 rfl (lv_at hl 0 rfl) ?_
      refine zcallv (zrunV (As := []) (rest := []) X hml hl hW h0.1 rfl zk_Model_114 (c_Model_next h0 h) rfl ⟨Nat.le_of_ble_eq_true rfl, Nat.le_of_ble_eq_true rfl⟩ ⟨Nat.le_refl 0, Nat.le_refl 0⟩ rfl (Nat.le_of_ble_eq_true rfl) dX11_readSort_59) hW (fun zm6 H locs h hW => ?_)
      refine lv_aload_n hx hb dX11_readSort_62 rfl (lv_at hl 0 rfl) ?_
      refine lv_bipush hx hb dX11_readSort_63 zc_b30 ?_
      refine lv_bipush hx hb dX11_readSort_65 zc_b8 ?_
      refine lv_iload_n hx hb dX11_readSort_67 rfl (lv_at hl 1 rfl) ?_
      refine lv_imul hx hb dX11_readSort_68 ?_
      refine lv_iadd hx hb dX11_readSort_69 ?_
      refine lv_aload_n hx hb dX11_readSort_70 rfl (lv_at hl 0 rfl) ?_
      refine zg_Model_reads X hW h0 zu_1032 dX11_readSort_71 ?_
      refine lv_iconst hx hb dX11_readSort_74 zc_i0 ?_
      obtain ⟨g, h⟩ := h
      refine ziald X hW h0.2.2.2.2.2.1 g dX11_readSort_75 ?_
      refine lv_iconst hx hb dX11_readSort_76 zc_i0 ?_
      refine lv_bipush hx hb dX11_readSort_77 zc_b6 ?_
      refine zcallv (zrunV (As := [.int (30 + (8 * x_1)), .int (zm6 5 (ix 0)), .int 0, .int 6]) (rest := []) X hml hl hW h0.1 rfl zk_Model_124 (c_Model_numbers h0 h) rfl ⟨Nat.le_of_ble_eq_true rfl, Nat.le_of_ble_eq_true rfl⟩ ⟨Nat.le_refl 0, Nat.le_refl 0⟩ rfl (Nat.le_of_ble_eq_true rfl) dX11_readSort_79) hW (fun zm8 H locs h hW => ?_)
      exact zretv X hr hlk hW h dX11_readSort_82
    · replace h := h.2 c
      refine lv_iconst hx hb dX11_readSort_47 zc_i1 ?_
      refine lv_iload_n hx hb dX11_readSort_48 rfl (lv_at hl 1 rfl) ?_
      refine lv_ishl hx hb dX11_readSort_49 ?_
      refine lv_goto (tgt := 54) hx hb dX11_readSort_50 rfl ?_
      refine lv_ior hx hb dX11_readSort_54 ?_
      refine zp_Model_toldSorts X hW h0 zu_1034 dX11_readSort_55 (fun H locs zm10 ezm10 hW => ?_)
      replace h := h zm10 ezm10
      refine lv_aload_n hx hb dX11_readSort_58 rfl (lv_at hl 0 rfl) ?_
      refine zcallv (zrunV (As := []) (rest := []) X hml hl hW h0.1 rfl zk_Model_114 (c_Model_next h0 h) rfl ⟨Nat.le_of_ble_eq_true rfl, Nat.le_of_ble_eq_true rfl⟩ ⟨Nat.le_refl 0, Nat.le_refl 0⟩ rfl (Nat.le_of_ble_eq_true rfl) dX11_readSort_59) hW (fun zm11 H locs h hW => ?_)
      refine lv_aload_n hx hb dX11_readSort_62 rfl (lv_at hl 0 rfl) ?_
      refine lv_bipush hx hb dX11_readSort_63 zc_b30 ?_
      refine lv_bipush hx hb dX11_readSort_65 zc_b8 ?_
      refine lv_iload_n hx hb dX11_readSort_67 rfl (lv_at hl 1 rfl) ?_
      refine lv_imul hx hb dX11_readSort_68 ?_
      refine lv_iadd hx hb dX11_readSort_69 ?_
      refine lv_aload_n hx hb dX11_readSort_70 rfl (lv_at hl 0 rfl) ?_
      refine zg_Model_reads X hW h0 zu_1032 dX11_readSort_71 ?_
      refine lv_iconst hx hb dX11_readSort_74 zc_i0 ?_
      obtain ⟨g, h⟩ := h
      refine ziald X hW h0.2.2.2.2.2.1 g dX11_readSort_75 ?_
      refine lv_iconst hx hb dX11_readSort_76 zc_i0 ?_
      refine lv_bipush hx hb dX11_readSort_77 zc_b6 ?_
      refine zcallv (zrunV (As := [.int (30 + (8 * x_1)), .int (zm11 5 (ix 0)), .int 0, .int 6]) (rest := []) X hml hl hW h0.1 rfl zk_Model_124 (c_Model_numbers h0 h) rfl ⟨Nat.le_of_ble_eq_true rfl, Nat.le_of_ble_eq_true rfl⟩ ⟨Nat.le_refl 0, Nat.le_refl 0⟩ rfl (Nat.le_of_ble_eq_true rfl) dX11_readSort_79) hW (fun zm13 H locs h hW => ?_)
      exact zretv X hr hlk hW h dX11_readSort_82
  unfold wp_Model_readSort at h
  have zMain : ∀ (H : Heap) (locs : List Loc) (ls : Array Slot), zWo w s.heap M H locs → lv_has ls 2 [(0, .ref (zad w 0))] → W p l e (zRm 4 92) s m ([.ref (zad w 0)] : List Value).toArray below meth c H locs 0 0 (MQ below (va_Qv post (zB w) (zA w)) ([.ref (zad w 0)] : List Value).toArray s 0 0 (zA w)) (F0 m 0 ls []) := by
    intro H locs ls hW hl
    refine lv_aload_n hx hb dX11_readSort_0 rfl (lv_at hl 0 rfl) ?_
    refine zcallv (zrunV (As := []) (rest := []) X hml hl hW h0.1 rfl zk_Model_114 (c_Model_next h0 h) rfl ⟨Nat.le_of_ble_eq_true rfl, Nat.le_of_ble_eq_true rfl⟩ ⟨Nat.le_refl 0, Nat.le_refl 0⟩ rfl (Nat.le_of_ble_eq_true rfl) dX11_readSort_1) hW (fun zm1 H locs h hW => ?_)
    refine lv_aload_n hx hb dX11_readSort_4 rfl (lv_at hl 0 rfl) ?_
    refine lv_iconst hx hb dX11_readSort_5 zc_i1 ?_
    refine lv_iconst hx hb dX11_readSort_6 zc_i2 ?_
    refine zcalli (zrunV (As := [.int 1, .int 2]) (rest := []) X hml hl hW h0.1 rfl zk_Model_111 (c_Model_number h0 h) rfl ⟨Nat.le_of_ble_eq_true rfl, Nat.le_of_ble_eq_true rfl⟩ ⟨Nat.le_refl 0, Nat.le_refl 0⟩ rfl (Nat.le_of_ble_eq_true rfl) dX11_readSort_7) hW (fun zr4 zm3 H locs h hW => ?_)
    refine lv_istore_n (lv' := [(1, .int zr4), (0, .ref (zad w 0))]) hx hb dX11_readSort_10 rfl hl (Nat.le_of_ble_eq_true rfl) rfl (fun ls hl => ?_)
    refine lv_aload_n hx hb dX11_readSort_11 rfl (lv_at hl 1 rfl) ?_
    refine zg_Model_wrong X hW h0 zu_1023 dX11_readSort_12 ?_
    refine lv_if_ne (tgt := 35) hx hb dX11_readSort_15 rfl (fun c => ?_) (fun c => ?_)
    · replace h := h.1 c
      exact zJ_35 zr4 zm3 H locs ls hW (lv_sub hl [1, 0] rfl) h
    · replace h := h.2 c
      refine lv_aload_n hx hb dX11_readSort_18 rfl (lv_at hl 1 rfl) ?_
      refine zg_Model_toldSorts X hW h0 zu_1034 dX11_readSort_19 ?_
      refine lv_iload_n hx hb dX11_readSort_22 rfl (lv_at hl 0 rfl) ?_
      refine lv_ishr hx hb dX11_readSort_23 ?_
      refine lv_iconst hx hb dX11_readSort_24 zc_i1 ?_
      refine lv_iand hx hb dX11_readSort_25 ?_
      refine lv_iconst hx hb dX11_readSort_26 zc_i1 ?_
      refine lv_icmp_ne (tgt := 35) hx hb dX11_readSort_27 rfl (fun c => ?_) (fun c => ?_)
      · replace h := h.1 c
        exact zJ_35 zr4 zm3 H locs ls hW (lv_sub hl [1, 0] rfl) h
      · replace h := h.2 c
        refine lv_aload_n hx hb dX11_readSort_30 rfl (lv_at hl 1 rfl) ?_
        refine lv_iconst hx hb dX11_readSort_31 zc_i4 ?_
        refine zcallv (zrunV (As := [.int 4]) (rest := []) X hml hl hW h0.1 rfl zk_Model_103 (c_Model_fails h0 h) rfl ⟨Nat.le_of_ble_eq_true rfl, Nat.le_of_ble_eq_true rfl⟩ ⟨Nat.le_refl 0, Nat.le_refl 0⟩ rfl (Nat.le_of_ble_eq_true rfl) dX11_readSort_32) hW (fun zm15 H locs h hW => ?_)
        exact zJ_35 zr4 zm15 H locs ls hW (lv_sub hl [1, 0] rfl) h
  exact zMain s.heap [] ls hW hl
def wpJ_Model_readRow_91   (J : Int32 → zMem → Prop) (Q : zMem → Prop)   (M : zMem) : Prop :=
  wp_Model_next M (fun zm6 => (¬ (zm6 0 7) = 2 → J 0 zm6) ∧ ((zm6 0 7) = 2 → J 1 zm6))
def wpJ_Model_readRow_50   (J : Int32 → zMem → Prop) (Q : zMem → Prop)   (M : zMem) : Prop :=
  wp_Model_number 0 2 M (fun zr5 zm4 => (¬ (zm4 0 3) = 0 → wpJ_Model_readRow_91  J Q zm4) ∧ ((zm4 0 3) = 0 → vp_in 6 100 ∧ vp_in (10 + (zm4 5 (ix 6))) 100 ∧ ∀ zm8 : zMem, zm8 = zup zm4 5 (ix (10 + (zm4 5 (ix 6)))) zr5 → vp_in 6 100 ∧ vp_in 6 100 ∧ ∀ zm9 : zMem, zm9 = zup zm8 5 (ix 6) ((zm8 5 (ix 6)) + 1) → wpJ_Model_readRow_91  J Q zm9))
def wpB_Model_readRow_14    (Q : zMem → Prop) (J : Int32 → zMem → Prop) (x_1 : Int32) (M : zMem) : Prop :=
  (x_1 = 0 → Q M) ∧ (¬ x_1 = 0 → (¬ (M 0 3) = 0 → Q M) ∧ ((M 0 3) = 0 → (¬ (M 0 7) = 2 → wpJ_Model_readRow_50  J Q M) ∧ ((M 0 7) = 2 → vp_in 6 100 ∧ (¬ (M 5 (ix 6)) = 6 → wpJ_Model_readRow_50  J Q M) ∧ ((M 5 (ix 6)) = 6 → wp_Model_fails 5 M (fun zm10 => wpJ_Model_readRow_50  J Q zm10)))))
def wp_Model_readRow  (M : zMem) (Q : zMem → Prop) : Prop :=
  wp_Model_next M (fun zm1 => vp_in 6 100 ∧ ∀ zm3 : zMem, zm3 = zup zm1 5 (ix 6) 0 → ∃ n : Nat, zlp1 (wpB_Model_readRow_14    Q) n 1 zm3)
set_option maxHeartbeats 4000000 in
set_option maxRecDepth 20000 in
theorem c_Model_readRow {l : Launch} {w : zWd} {M : zMem} {post : zMem → Prop} (h0 : zI_Model w) (h : wp_Model_readRow  M post) : zMv l ⟨"HandToHandModel", "readRow", "()V"⟩ prog_13_method_15_code 3 none 3 67 w [.ref (zad w 0)] M post := by
  refine zMet (by decide) (Nat.le_of_ble_eq_true rfl) ?_
  intro p e s m below meth c X hr hlk hml hW ls hl
  have hx := X.1
  have hb := X.2.1
  have hl : lv_has ls 3 [(0, .ref (zad w 0))] := hl
  have zJ_91 : ∀ (J : Int32 → zMem → Prop) (zJ : ∀ (y_1 : Int32) (M : zMem) (H : Heap) (locs : List Loc) (ls : Array Slot), zWo w s.heap M H locs → lv_has ls 3 [(0, .ref (zad w 0)), (1, .int y_1)] → J y_1 M → W p l e (zRm 3 67) s m ([.ref (zad w 0)] : List Value).toArray below meth c H locs 0 0 (MQ below (va_Qv post (zB w) (zA w)) ([.ref (zad w 0)] : List Value).toArray s 0 0 (zA w)) (F0 m 14 ls [])) (M : zMem) (H : Heap) (locs : List Loc) (ls : Array Slot), zWo w s.heap M H locs → lv_has ls 3 [(0, .ref (zad w 0))] → wpJ_Model_readRow_91  J post M → W p l e (zRm 3 67) s m ([.ref (zad w 0)] : List Value).toArray below meth c H locs 0 0 (MQ below (va_Qv post (zB w) (zA w)) ([.ref (zad w 0)] : List Value).toArray s 0 0 (zA w)) (F0 m 91 ls []) := by
    intro J zJ M H locs ls hW hl h
    unfold wpJ_Model_readRow_91 at h
    refine lv_aload_n hx hb dX11_readRow_91 rfl (lv_at hl 0 rfl) ?_
    refine zcallv (zrunV (As := []) (rest := []) X hml hl hW h0.1 rfl zk_Model_114 (c_Model_next h0 h) rfl ⟨Nat.le_of_ble_eq_true rfl, Nat.le_of_ble_eq_true rfl⟩ ⟨Nat.le_refl 0, Nat.le_refl 0⟩ rfl (Nat.le_of_ble_eq_true rfl) dX11_readRow_92) hW (fun zm6 H locs h hW => ?_)
    refine lv_aload_n hx hb dX11_readRow_95 rfl (lv_at hl 0 rfl) ?_
    refine zg_Model_token X hW h0 zu_1027 dX11_readRow_96 ?_
    refine lv_iconst hx hb dX11_readRow_99 zc_i2 ?_
    refine lv_icmp_ne (tgt := 107) hx hb dX11_readRow_100 rfl (fun c => ?_) (fun c => ?_)
    · replace h := h.1 c
      refine lv_iconst hx hb dX11_readRow_107 zc_i0 ?_
      refine lv_istore_n (lv' := [(1, .int 0), (0, .ref (zad w 0))]) hx hb dX11_readRow_108 rfl hl (Nat.le_of_ble_eq_true rfl) rfl (fun ls hl => ?_)
      refine lv_goto (tgt := 14) hx hb dX11_readRow_109 rfl ?_
      exact zJ 0 zm6 H locs ls hW (lv_sub hl [1, 0] rfl) h
    · replace h := h.2 c
      refine lv_iconst hx hb dX11_readRow_103 zc_i1 ?_
      refine lv_goto (tgt := 108) hx hb dX11_readRow_104 rfl ?_
      refine lv_istore_n (lv' := [(1, .int 1), (0, .ref (zad w 0))]) hx hb dX11_readRow_108 rfl hl (Nat.le_of_ble_eq_true rfl) rfl (fun ls hl => ?_)
      refine lv_goto (tgt := 14) hx hb dX11_readRow_109 rfl ?_
      exact zJ 1 zm6 H locs ls hW (lv_sub hl [1, 0] rfl) h
  have zJ_50 : ∀ (J : Int32 → zMem → Prop) (zJ : ∀ (y_1 : Int32) (M : zMem) (H : Heap) (locs : List Loc) (ls : Array Slot), zWo w s.heap M H locs → lv_has ls 3 [(0, .ref (zad w 0)), (1, .int y_1)] → J y_1 M → W p l e (zRm 3 67) s m ([.ref (zad w 0)] : List Value).toArray below meth c H locs 0 0 (MQ below (va_Qv post (zB w) (zA w)) ([.ref (zad w 0)] : List Value).toArray s 0 0 (zA w)) (F0 m 14 ls [])) (M : zMem) (H : Heap) (locs : List Loc) (ls : Array Slot), zWo w s.heap M H locs → lv_has ls 3 [(0, .ref (zad w 0))] → wpJ_Model_readRow_50  J post M → W p l e (zRm 3 67) s m ([.ref (zad w 0)] : List Value).toArray below meth c H locs 0 0 (MQ below (va_Qv post (zB w) (zA w)) ([.ref (zad w 0)] : List Value).toArray s 0 0 (zA w)) (F0 m 50 ls []) := by
    intro J zJ M H locs ls hW hl h
    unfold wpJ_Model_readRow_50 at h
    refine lv_aload_n hx hb dX11_readRow_50 rfl (lv_at hl 0 rfl) ?_
    refine lv_iconst hx hb dX11_readRow_51 zc_i0 ?_
    refine lv_iconst hx hb dX11_readRow_52 zc_i2 ?_
    refine zcalli (zrunV (As := [.int 0, .int 2]) (rest := []) X hml hl hW h0.1 rfl zk_Model_111 (c_Model_number h0 h) rfl ⟨Nat.le_of_ble_eq_true rfl, Nat.le_of_ble_eq_true rfl⟩ ⟨Nat.le_refl 0, Nat.le_refl 0⟩ rfl (Nat.le_of_ble_eq_true rfl) dX11_readRow_53) hW (fun zr5 zm4 H locs h hW => ?_)
    refine lv_istore_n (lv' := [(2, .int zr5), (0, .ref (zad w 0))]) hx hb dX11_readRow_56 rfl hl (Nat.le_of_ble_eq_true rfl) rfl (fun ls hl => ?_)
    refine lv_aload_n hx hb dX11_readRow_57 rfl (lv_at hl 1 rfl) ?_
    refine zg_Model_wrong X hW h0 zu_1023 dX11_readRow_58 ?_
    refine lv_if_ne (tgt := 91) hx hb dX11_readRow_61 rfl (fun c => ?_) (fun c => ?_)
    · replace h := h.1 c
      exact zJ_91 _ zJ zm4 H locs ls hW (lv_sub hl [1] rfl) h
    · replace h := h.2 c
      refine lv_aload_n hx hb dX11_readRow_64 rfl (lv_at hl 1 rfl) ?_
      refine zg_Model_reads X hW h0 zu_1032 dX11_readRow_65 ?_
      refine lv_bipush hx hb dX11_readRow_68 zc_b10 ?_
      refine lv_aload_n hx hb dX11_readRow_70 rfl (lv_at hl 1 rfl) ?_
      refine zg_Model_reads X hW h0 zu_1032 dX11_readRow_71 ?_
      refine lv_bipush hx hb dX11_readRow_74 zc_b6 ?_
      obtain ⟨g, h⟩ := h
      refine ziald X hW h0.2.2.2.2.2.1 g dX11_readRow_76 ?_
      refine lv_iadd hx hb dX11_readRow_77 ?_
      refine lv_iload_n hx hb dX11_readRow_78 rfl (lv_at hl 0 rfl) ?_
      obtain ⟨g, h⟩ := h
      refine ziast X hW h0.2.2.2.2.2.1 g dX11_readRow_79 (fun H locs zm8 ezm8 hW => ?_)
      replace h := h zm8 ezm8
      refine lv_aload_n hx hb dX11_readRow_80 rfl (lv_at hl 1 rfl) ?_
      refine zg_Model_reads X hW h0 zu_1032 dX11_readRow_81 ?_
      refine lv_bipush hx hb dX11_readRow_84 zc_b6 ?_
      refine lv_dup2_11 hx hb dX11_readRow_86 rfl rfl ?_
      obtain ⟨g, h⟩ := h
      refine ziald X hW h0.2.2.2.2.2.1 g dX11_readRow_87 ?_
      refine lv_iconst hx hb dX11_readRow_88 zc_i1 ?_
      refine lv_iadd hx hb dX11_readRow_89 ?_
      obtain ⟨g, h⟩ := h
      refine ziast X hW h0.2.2.2.2.2.1 g dX11_readRow_90 (fun H locs zm9 ezm9 hW => ?_)
      replace h := h zm9 ezm9
      exact zJ_91 _ zJ zm9 H locs ls hW (lv_sub hl [1] rfl) h
  have zL_14 :  ∀ (n : Nat) (x_1 : Int32) (M : zMem) (H : Heap) (locs : List Loc) (ls : Array Slot), zWo w s.heap M H locs → lv_has ls 3 [(0, .ref (zad w 0)), (1, .int x_1)] → zlp1 (wpB_Model_readRow_14    post) n x_1 M → W p l e (zRm 3 67) s m ([.ref (zad w 0)] : List Value).toArray below meth c H locs 0 0 (MQ below (va_Qv post (zB w) (zA w)) ([.ref (zad w 0)] : List Value).toArray s 0 0 (zA w)) (F0 m 14 ls []) := by
    intro n
    induction n with
    | zero => intro x_1 M H locs ls hW hl h; exact h.elim
    | succ n zJ =>
      intro x_1 M H locs ls hW hl h
      have h : wpB_Model_readRow_14    post (zlp1 (wpB_Model_readRow_14    post) n) x_1 M := h
      unfold wpB_Model_readRow_14 at h
      refine lv_iload_n hx hb dX11_readRow_14 rfl (lv_at hl 1 rfl) ?_
      refine lv_if_eq (tgt := 112) hx hb dX11_readRow_15 rfl (fun c => ?_) (fun c => ?_)
      · replace h := h.1 c
        exact zretv X hr hlk hW h dX11_readRow_112
      · replace h := h.2 c
        refine lv_aload_n hx hb dX11_readRow_18 rfl (lv_at hl 0 rfl) ?_
        refine zg_Model_wrong X hW h0 zu_1023 dX11_readRow_19 ?_
        refine lv_if_ne (tgt := 112) hx hb dX11_readRow_22 rfl (fun c => ?_) (fun c => ?_)
        · replace h := h.1 c
          exact zretv X hr hlk hW h dX11_readRow_112
        · replace h := h.2 c
          refine lv_aload_n hx hb dX11_readRow_25 rfl (lv_at hl 0 rfl) ?_
          refine zg_Model_token X hW h0 zu_1027 dX11_readRow_26 ?_
          refine lv_iconst hx hb dX11_readRow_29 zc_i2 ?_
          refine lv_icmp_ne (tgt := 50) hx hb dX11_readRow_30 rfl (fun c => ?_) (fun c => ?_)
          · replace h := h.1 c
            exact zJ_50 _ zJ M H locs ls hW (lv_sub hl [0] rfl) h
          · replace h := h.2 c
            refine lv_aload_n hx hb dX11_readRow_33 rfl (lv_at hl 0 rfl) ?_
            refine zg_Model_reads X hW h0 zu_1032 dX11_readRow_34 ?_
            refine lv_bipush hx hb dX11_readRow_37 zc_b6 ?_
            obtain ⟨g, h⟩ := h
            refine ziald X hW h0.2.2.2.2.2.1 g dX11_readRow_39 ?_
            refine lv_bipush hx hb dX11_readRow_40 zc_b6 ?_
            refine lv_icmp_ne (tgt := 50) hx hb dX11_readRow_42 rfl (fun c => ?_) (fun c => ?_)
            · replace h := h.1 c
              exact zJ_50 _ zJ M H locs ls hW (lv_sub hl [0] rfl) h
            · replace h := h.2 c
              refine lv_aload_n hx hb dX11_readRow_45 rfl (lv_at hl 0 rfl) ?_
              refine lv_iconst hx hb dX11_readRow_46 zc_i5 ?_
              refine zcallv (zrunV (As := [.int 5]) (rest := []) X hml hl hW h0.1 rfl zk_Model_103 (c_Model_fails h0 h) rfl ⟨Nat.le_of_ble_eq_true rfl, Nat.le_of_ble_eq_true rfl⟩ ⟨Nat.le_refl 0, Nat.le_refl 0⟩ rfl (Nat.le_of_ble_eq_true rfl) dX11_readRow_47) hW (fun zm10 H locs h hW => ?_)
              exact zJ_50 _ zJ zm10 H locs ls hW (lv_sub hl [0] rfl) h
  unfold wp_Model_readRow at h
  have zMain : ∀ (H : Heap) (locs : List Loc) (ls : Array Slot), zWo w s.heap M H locs → lv_has ls 3 [(0, .ref (zad w 0))] → W p l e (zRm 3 67) s m ([.ref (zad w 0)] : List Value).toArray below meth c H locs 0 0 (MQ below (va_Qv post (zB w) (zA w)) ([.ref (zad w 0)] : List Value).toArray s 0 0 (zA w)) (F0 m 0 ls []) := by
    intro H locs ls hW hl
    refine lv_aload_n hx hb dX11_readRow_0 rfl (lv_at hl 0 rfl) ?_
    refine zcallv (zrunV (As := []) (rest := []) X hml hl hW h0.1 rfl zk_Model_114 (c_Model_next h0 h) rfl ⟨Nat.le_of_ble_eq_true rfl, Nat.le_of_ble_eq_true rfl⟩ ⟨Nat.le_refl 0, Nat.le_refl 0⟩ rfl (Nat.le_of_ble_eq_true rfl) dX11_readRow_1) hW (fun zm1 H locs h hW => ?_)
    refine lv_aload_n hx hb dX11_readRow_4 rfl (lv_at hl 0 rfl) ?_
    refine zg_Model_reads X hW h0 zu_1032 dX11_readRow_5 ?_
    refine lv_bipush hx hb dX11_readRow_8 zc_b6 ?_
    refine lv_iconst hx hb dX11_readRow_10 zc_i0 ?_
    obtain ⟨g, h⟩ := h
    refine ziast X hW h0.2.2.2.2.2.1 g dX11_readRow_11 (fun H locs zm3 ezm3 hW => ?_)
    replace h := h zm3 ezm3
    refine lv_iconst hx hb dX11_readRow_12 zc_i1 ?_
    refine lv_istore_n (lv' := [(1, .int 1), (0, .ref (zad w 0))]) hx hb dX11_readRow_13 rfl hl (Nat.le_of_ble_eq_true rfl) rfl (fun ls hl => ?_)
    obtain ⟨n, h⟩ := h
    refine zL_14   n 1 zm3 H locs ls hW (lv_sub hl [1, 0] rfl) h
  exact zMain s.heap [] ls hW hl
def wpJ_Model_readHand_22   (Q : zMem → Prop)   (M : zMem) : Prop :=
  wp_Model_next M (fun zm3 => vp_in 1 100 ∧ (5 ≤ (zm3 5 (ix 1)) → (¬ (zm3 0 3) = 0 → wp_Model_numbers (60 + (8 * 0)) 0 1 9 zm3 (fun zm5 => vp_in 1 100 ∧ vp_in 1 100 ∧ ∀ zm7 : zMem, zm7 = zup zm5 5 (ix 1) ((zm5 5 (ix 1)) + 1) → Q zm7)) ∧ ((zm3 0 3) = 0 → vp_in 0 100 ∧ wp_Model_numbers (60 + (8 * 0)) (zm3 5 (ix 0)) 1 9 zm3 (fun zm8 => vp_in 1 100 ∧ vp_in 1 100 ∧ ∀ zm10 : zMem, zm10 = zup zm8 5 (ix 1) ((zm8 5 (ix 1)) + 1) → Q zm10))) ∧ (¬ 5 ≤ (zm3 5 (ix 1)) → vp_in 1 100 ∧ (¬ (zm3 0 3) = 0 → wp_Model_numbers (60 + (8 * (zm3 5 (ix 1)))) 0 1 9 zm3 (fun zm11 => vp_in 1 100 ∧ vp_in 1 100 ∧ ∀ zm13 : zMem, zm13 = zup zm11 5 (ix 1) ((zm11 5 (ix 1)) + 1) → Q zm13)) ∧ ((zm3 0 3) = 0 → vp_in 0 100 ∧ wp_Model_numbers (60 + (8 * (zm3 5 (ix 1)))) (zm3 5 (ix 0)) 1 9 zm3 (fun zm14 => vp_in 1 100 ∧ vp_in 1 100 ∧ ∀ zm16 : zMem, zm16 = zup zm14 5 (ix 1) ((zm14 5 (ix 1)) + 1) → Q zm16))))
def wpJ_Model_readHand_17   (Q : zMem → Prop)   (M : zMem) : Prop :=
  wp_Model_fails 5 M (fun zm1 => wpJ_Model_readHand_22  Q zm1)
def wp_Model_readHand  (M : zMem) (Q : zMem → Prop) : Prop :=
  vp_in 1 100 ∧ ((M 5 (ix 1)) = 5 → wpJ_Model_readHand_17  Q M) ∧ (¬ (M 5 (ix 1)) = 5 → ((M 0 15) = 0 → wpJ_Model_readHand_22  Q M) ∧ (¬ (M 0 15) = 0 → wpJ_Model_readHand_17  Q M))
set_option maxHeartbeats 4000000 in
set_option maxRecDepth 20000 in
theorem c_Model_readHand {l : Launch} {w : zWd} {M : zMem} {post : zMem → Prop} (h0 : zI_Model w) (h : wp_Model_readHand  M post) : zMv l ⟨"HandToHandModel", "readHand", "()V"⟩ prog_13_method_16_code 1 none 4 92 w [.ref (zad w 0)] M post := by
  refine zMet (by decide) (Nat.le_of_ble_eq_true rfl) ?_
  intro p e s m below meth c X hr hlk hml hW ls hl
  have hx := X.1
  have hb := X.2.1
  have hl : lv_has ls 1 [(0, .ref (zad w 0))] := hl
  have zJ_22 : ∀ (M : zMem) (H : Heap) (locs : List Loc) (ls : Array Slot), zWo w s.heap M H locs → lv_has ls 1 [(0, .ref (zad w 0))] → wpJ_Model_readHand_22  post M → W p l e (zRm 4 92) s m ([.ref (zad w 0)] : List Value).toArray below meth c H locs 0 0 (MQ below (va_Qv post (zB w) (zA w)) ([.ref (zad w 0)] : List Value).toArray s 0 0 (zA w)) (F0 m 22 ls []) := by
    intro  M H locs ls hW hl h
    unfold wpJ_Model_readHand_22 at h
    refine lv_aload_n hx hb dX11_readHand_22 rfl (lv_at hl 0 rfl) ?_
    refine zcallv (zrunV (As := []) (rest := []) X hml hl hW h0.1 rfl zk_Model_114 (c_Model_next h0 h) rfl ⟨Nat.le_of_ble_eq_true rfl, Nat.le_of_ble_eq_true rfl⟩ ⟨Nat.le_refl 0, Nat.le_refl 0⟩ rfl (Nat.le_of_ble_eq_true rfl) dX11_readHand_23) hW (fun zm3 H locs h hW => ?_)
    refine lv_aload_n hx hb dX11_readHand_26 rfl (lv_at hl 0 rfl) ?_
    refine lv_bipush hx hb dX11_readHand_27 zc_b60 ?_
    refine lv_bipush hx hb dX11_readHand_29 zc_b8 ?_
    refine lv_aload_n hx hb dX11_readHand_31 rfl (lv_at hl 0 rfl) ?_
    refine zg_Model_reads X hW h0 zu_1032 dX11_readHand_32 ?_
    refine lv_iconst hx hb dX11_readHand_35 zc_i1 ?_
    obtain ⟨g, h⟩ := h
    refine ziald X hW h0.2.2.2.2.2.1 g dX11_readHand_36 ?_
    refine lv_iconst hx hb dX11_readHand_37 zc_i5 ?_
    refine lv_icmp_ge (tgt := 50) hx hb dX11_readHand_38 rfl (fun c => ?_) (fun c => ?_)
    · replace h := h.1 c
      refine lv_iconst hx hb dX11_readHand_50 zc_i0 ?_
      refine lv_imul hx hb dX11_readHand_51 ?_
      refine lv_iadd hx hb dX11_readHand_52 ?_
      refine lv_aload_n hx hb dX11_readHand_53 rfl (lv_at hl 0 rfl) ?_
      refine zg_Model_wrong X hW h0 zu_1023 dX11_readHand_54 ?_
      refine lv_if_ne (tgt := 69) hx hb dX11_readHand_57 rfl (fun c => ?_) (fun c => ?_)
      · replace h := h.1 c
        refine lv_iconst hx hb dX11_readHand_69 zc_i0 ?_
        refine lv_iconst hx hb dX11_readHand_70 zc_i1 ?_
        refine lv_bipush hx hb dX11_readHand_71 zc_b9 ?_
        refine zcallv (zrunV (As := [.int (60 + (8 * 0)), .int 0, .int 1, .int 9]) (rest := []) X hml hl hW h0.1 rfl zk_Model_124 (c_Model_numbers h0 h) rfl ⟨Nat.le_of_ble_eq_true rfl, Nat.le_of_ble_eq_true rfl⟩ ⟨Nat.le_refl 0, Nat.le_refl 0⟩ rfl (Nat.le_of_ble_eq_true rfl) dX11_readHand_73) hW (fun zm5 H locs h hW => ?_)
        refine lv_aload_n hx hb dX11_readHand_76 rfl (lv_at hl 0 rfl) ?_
        refine zg_Model_reads X hW h0 zu_1032 dX11_readHand_77 ?_
        refine lv_iconst hx hb dX11_readHand_80 zc_i1 ?_
        refine lv_dup2_11 hx hb dX11_readHand_81 rfl rfl ?_
        obtain ⟨g, h⟩ := h
        refine ziald X hW h0.2.2.2.2.2.1 g dX11_readHand_82 ?_
        refine lv_iconst hx hb dX11_readHand_83 zc_i1 ?_
        refine lv_iadd hx hb dX11_readHand_84 ?_
        obtain ⟨g, h⟩ := h
        refine ziast X hW h0.2.2.2.2.2.1 g dX11_readHand_85 (fun H locs zm7 ezm7 hW => ?_)
        replace h := h zm7 ezm7
        exact zretv X hr hlk hW h dX11_readHand_86
      · replace h := h.2 c
        refine lv_aload_n hx hb dX11_readHand_60 rfl (lv_at hl 0 rfl) ?_
        refine zg_Model_reads X hW h0 zu_1032 dX11_readHand_61 ?_
        refine lv_iconst hx hb dX11_readHand_64 zc_i0 ?_
        obtain ⟨g, h⟩ := h
        refine ziald X hW h0.2.2.2.2.2.1 g dX11_readHand_65 ?_
        refine lv_goto (tgt := 70) hx hb dX11_readHand_66 rfl ?_
        refine lv_iconst hx hb dX11_readHand_70 zc_i1 ?_
        refine lv_bipush hx hb dX11_readHand_71 zc_b9 ?_
        refine zcallv (zrunV (As := [.int (60 + (8 * 0)), .int (zm3 5 (ix 0)), .int 1, .int 9]) (rest := []) X hml hl hW h0.1 rfl zk_Model_124 (c_Model_numbers h0 h) rfl ⟨Nat.le_of_ble_eq_true rfl, Nat.le_of_ble_eq_true rfl⟩ ⟨Nat.le_refl 0, Nat.le_refl 0⟩ rfl (Nat.le_of_ble_eq_true rfl) dX11_readHand_73) hW (fun zm8 H locs h hW => ?_)
        refine lv_aload_n hx hb dX11_readHand_76 rfl (lv_at hl 0 rfl) ?_
        refine zg_Model_reads X hW h0 zu_1032 dX11_readHand_77 ?_
        refine lv_iconst hx hb dX11_readHand_80 zc_i1 ?_
        refine lv_dup2_11 hx hb dX11_readHand_81 rfl rfl ?_
        obtain ⟨g, h⟩ := h
        refine ziald X hW h0.2.2.2.2.2.1 g dX11_readHand_82 ?_
        refine lv_iconst hx hb dX11_readHand_83 zc_i1 ?_
        refine lv_iadd hx hb dX11_readHand_84 ?_
        obtain ⟨g, h⟩ := h
        refine ziast X hW h0.2.2.2.2.2.1 g dX11_readHand_85 (fun H locs zm10 ezm10 hW => ?_)
        replace h := h zm10 ezm10
        exact zretv X hr hlk hW h dX11_readHand_86
    · replace h := h.2 c
      refine lv_aload_n hx hb dX11_readHand_41 rfl (lv_at hl 0 rfl) ?_
      refine zg_Model_reads X hW h0 zu_1032 dX11_readHand_42 ?_
      refine lv_iconst hx hb dX11_readHand_45 zc_i1 ?_
      obtain ⟨g, h⟩ := h
      refine ziald X hW h0.2.2.2.2.2.1 g dX11_readHand_46 ?_
      refine lv_goto (tgt := 51) hx hb dX11_readHand_47 rfl ?_
      refine lv_imul hx hb dX11_readHand_51 ?_
      refine lv_iadd hx hb dX11_readHand_52 ?_
      refine lv_aload_n hx hb dX11_readHand_53 rfl (lv_at hl 0 rfl) ?_
      refine zg_Model_wrong X hW h0 zu_1023 dX11_readHand_54 ?_
      refine lv_if_ne (tgt := 69) hx hb dX11_readHand_57 rfl (fun c => ?_) (fun c => ?_)
      · replace h := h.1 c
        refine lv_iconst hx hb dX11_readHand_69 zc_i0 ?_
        refine lv_iconst hx hb dX11_readHand_70 zc_i1 ?_
        refine lv_bipush hx hb dX11_readHand_71 zc_b9 ?_
        refine zcallv (zrunV (As := [.int (60 + (8 * (zm3 5 (ix 1)))), .int 0, .int 1, .int 9]) (rest := []) X hml hl hW h0.1 rfl zk_Model_124 (c_Model_numbers h0 h) rfl ⟨Nat.le_of_ble_eq_true rfl, Nat.le_of_ble_eq_true rfl⟩ ⟨Nat.le_refl 0, Nat.le_refl 0⟩ rfl (Nat.le_of_ble_eq_true rfl) dX11_readHand_73) hW (fun zm11 H locs h hW => ?_)
        refine lv_aload_n hx hb dX11_readHand_76 rfl (lv_at hl 0 rfl) ?_
        refine zg_Model_reads X hW h0 zu_1032 dX11_readHand_77 ?_
        refine lv_iconst hx hb dX11_readHand_80 zc_i1 ?_
        refine lv_dup2_11 hx hb dX11_readHand_81 rfl rfl ?_
        obtain ⟨g, h⟩ := h
        refine ziald X hW h0.2.2.2.2.2.1 g dX11_readHand_82 ?_
        refine lv_iconst hx hb dX11_readHand_83 zc_i1 ?_
        refine lv_iadd hx hb dX11_readHand_84 ?_
        obtain ⟨g, h⟩ := h
        refine ziast X hW h0.2.2.2.2.2.1 g dX11_readHand_85 (fun H locs zm13 ezm13 hW => ?_)
        replace h := h zm13 ezm13
        exact zretv X hr hlk hW h dX11_readHand_86
      · replace h := h.2 c
        refine lv_aload_n hx hb dX11_readHand_60 rfl (lv_at hl 0 rfl) ?_
        refine zg_Model_reads X hW h0 zu_1032 dX11_readHand_61 ?_
        refine lv_iconst hx hb dX11_readHand_64 zc_i0 ?_
        obtain ⟨g, h⟩ := h
        refine ziald X hW h0.2.2.2.2.2.1 g dX11_readHand_65 ?_
        refine lv_goto (tgt := 70) hx hb dX11_readHand_66 rfl ?_
        refine lv_iconst hx hb dX11_readHand_70 zc_i1 ?_
        refine lv_bipush hx hb dX11_readHand_71 zc_b9 ?_
        refine zcallv (zrunV (As := [.int (60 + (8 * (zm3 5 (ix 1)))), .int (zm3 5 (ix 0)), .int 1, .int 9]) (rest := []) X hml hl hW h0.1 rfl zk_Model_124 (c_Model_numbers h0 h) rfl ⟨Nat.le_of_ble_eq_true rfl, Nat.le_of_ble_eq_true rfl⟩ ⟨Nat.le_refl 0, Nat.le_refl 0⟩ rfl (Nat.le_of_ble_eq_true rfl) dX11_readHand_73) hW (fun zm14 H locs h hW => ?_)
        refine lv_aload_n hx hb dX11_readHand_76 rfl (lv_at hl 0 rfl) ?_
        refine zg_Model_reads X hW h0 zu_1032 dX11_readHand_77 ?_
        refine lv_iconst hx hb dX11_readHand_80 zc_i1 ?_
        refine lv_dup2_11 hx hb dX11_readHand_81 rfl rfl ?_
        obtain ⟨g, h⟩ := h
        refine ziald X hW h0.2.2.2.2.2.1 g dX11_readHand_82 ?_
        refine lv_iconst hx hb dX11_readHand_83 zc_i1 ?_
        refine lv_iadd hx hb dX11_readHand_84 ?_
        obtain ⟨g, h⟩ := h
        refine ziast X hW h0.2.2.2.2.2.1 g dX11_readHand_85 (fun H locs zm16 ezm16 hW => ?_)
        replace h := h zm16 ezm16
        exact zretv X hr hlk hW h dX11_readHand_86
  have zJ_17 : ∀ (M : zMem) (H : Heap) (locs : List Loc) (ls : Array Slot), zWo w s.heap M H locs → lv_has ls 1 [(0, .ref (zad w 0))] → wpJ_Model_readHand_17  post M → W p l e (zRm 4 92) s m ([.ref (zad w 0)] : List Value).toArray below meth c H locs 0 0 (MQ below (va_Qv post (zB w) (zA w)) ([.ref (zad w 0)] : List Value).toArray s 0 0 (zA w)) (F0 m 17 ls []) := by
    intro  M H locs ls hW hl h
    unfold wpJ_Model_readHand_17 at h
    refine lv_aload_n hx hb dX11_readHand_17 rfl (lv_at hl 0 rfl) ?_
    refine lv_iconst hx hb dX11_readHand_18 zc_i5 ?_
    refine zcallv (zrunV (As := [.int 5]) (rest := []) X hml hl hW h0.1 rfl zk_Model_103 (c_Model_fails h0 h) rfl ⟨Nat.le_of_ble_eq_true rfl, Nat.le_of_ble_eq_true rfl⟩ ⟨Nat.le_refl 0, Nat.le_refl 0⟩ rfl (Nat.le_of_ble_eq_true rfl) dX11_readHand_19) hW (fun zm1 H locs h hW => ?_)
    exact zJ_22  zm1 H locs ls hW (lv_sub hl [0] rfl) h
  unfold wp_Model_readHand at h
  have zMain : ∀ (H : Heap) (locs : List Loc) (ls : Array Slot), zWo w s.heap M H locs → lv_has ls 1 [(0, .ref (zad w 0))] → W p l e (zRm 4 92) s m ([.ref (zad w 0)] : List Value).toArray below meth c H locs 0 0 (MQ below (va_Qv post (zB w) (zA w)) ([.ref (zad w 0)] : List Value).toArray s 0 0 (zA w)) (F0 m 0 ls []) := by
    intro H locs ls hW hl
    refine lv_aload_n hx hb dX11_readHand_0 rfl (lv_at hl 0 rfl) ?_
    refine zg_Model_reads X hW h0 zu_1032 dX11_readHand_1 ?_
    refine lv_iconst hx hb dX11_readHand_4 zc_i1 ?_
    obtain ⟨g, h⟩ := h
    refine ziald X hW h0.2.2.2.2.2.1 g dX11_readHand_5 ?_
    refine lv_iconst hx hb dX11_readHand_6 zc_i5 ?_
    refine lv_icmp_eq (tgt := 17) hx hb dX11_readHand_7 rfl (fun c => ?_) (fun c => ?_)
    · replace h := h.1 c
      exact zJ_17  M H locs ls hW (lv_sub hl [0] rfl) h
    · replace h := h.2 c
      refine lv_aload_n hx hb dX11_readHand_10 rfl (lv_at hl 0 rfl) ?_
      refine zg_Model_hasEnds X hW h0 zu_1035 dX11_readHand_11 ?_
      refine lv_if_eq (tgt := 22) hx hb dX11_readHand_14 rfl (fun c => ?_) (fun c => ?_)
      · replace h := h.1 c
        exact zJ_22  M H locs ls hW (lv_sub hl [0] rfl) h
      · replace h := h.2 c
        exact zJ_17  M H locs ls hW (lv_sub hl [0] rfl) h
  exact zMain s.heap [] ls hW hl
def wpJ_Model_readEnds_42   (J : Int32 → zMem → Prop) (Q : zMem → Prop) (x_1 : Int32) (s_0 : Int32) (M : zMem) : Prop :=
  vp_in 0 100 ∧ wp_Model_number s_0 (M 5 (ix 0)) M (fun zr5 zm4 => vp_in (20 + x_1) 100 ∧ ∀ zm6 : zMem, zm6 = zup zm4 5 (ix (20 + x_1)) zr5 → wp_Model_next zm6 (fun zm7 => ∀ zx9 : Int32, zx9 = x_1 + 1 → J zx9 zm7))
def wpB_Model_readEnds_11    (Q : zMem → Prop) (J : Int32 → zMem → Prop) (x_1 : Int32) (M : zMem) : Prop :=
  vp_in 1 100 ∧ (((M 5 (ix 1)) - 1) ≤ x_1 → Q M) ∧ (¬ ((M 5 (ix 1)) - 1) ≤ x_1 → (¬ x_1 = 0 → vp_in ((20 + x_1) - 1) 100 ∧ wpJ_Model_readEnds_42  J Q x_1 (M 5 (ix ((20 + x_1) - 1))) M) ∧ (x_1 = 0 → wpJ_Model_readEnds_42  J Q x_1 1 M))
def wp_Model_readEnds  (M : zMem) (Q : zMem → Prop) : Prop :=
  ∀ zm1 : zMem, zm1 = zup M 0 15 1 → wp_Model_next zm1 (fun zm2 => ∃ n : Nat, zlp1 (wpB_Model_readEnds_11    Q) n 0 zm2)
set_option maxHeartbeats 4000000 in
set_option maxRecDepth 20000 in
theorem c_Model_readEnds {l : Launch} {w : zWd} {M : zMem} {post : zMem → Prop} (h0 : zI_Model w) (h : wp_Model_readEnds  M post) : zMv l ⟨"HandToHandModel", "readEnds", "()V"⟩ prog_13_method_17_code 3 none 3 67 w [.ref (zad w 0)] M post := by
  refine zMet (by decide) (Nat.le_of_ble_eq_true rfl) ?_
  intro p e s m below meth c X hr hlk hml hW ls hl
  have hx := X.1
  have hb := X.2.1
  have hl : lv_has ls 3 [(0, .ref (zad w 0))] := hl
  have zJ_42 : ∀ (x_1 : Int32) (s_0 : Int32) (J : Int32 → zMem → Prop) (zJ : ∀ (y_1 : Int32) (M : zMem) (H : Heap) (locs : List Loc) (ls : Array Slot), zWo w s.heap M H locs → lv_has ls 3 [(0, .ref (zad w 0)), (1, .int y_1)] → J y_1 M → W p l e (zRm 3 67) s m ([.ref (zad w 0)] : List Value).toArray below meth c H locs 0 0 (MQ below (va_Qv post (zB w) (zA w)) ([.ref (zad w 0)] : List Value).toArray s 0 0 (zA w)) (F0 m 11 ls [])) (M : zMem) (H : Heap) (locs : List Loc) (ls : Array Slot), zWo w s.heap M H locs → lv_has ls 3 [(0, .ref (zad w 0)), (1, .int x_1)] → wpJ_Model_readEnds_42  J post x_1 s_0 M → W p l e (zRm 3 67) s m ([.ref (zad w 0)] : List Value).toArray below meth c H locs 0 0 (MQ below (va_Qv post (zB w) (zA w)) ([.ref (zad w 0)] : List Value).toArray s 0 0 (zA w)) (F0 m 42 ls [.int s_0]) := by
    intro x_1 s_0 J zJ M H locs ls hW hl h
    unfold wpJ_Model_readEnds_42 at h
    refine lv_istore_n (lv' := [(2, .int s_0), (0, .ref (zad w 0)), (1, .int x_1)]) hx hb dX11_readEnds_42 rfl hl (Nat.le_of_ble_eq_true rfl) rfl (fun ls hl => ?_)
    refine lv_aload_n hx hb dX11_readEnds_43 rfl (lv_at hl 1 rfl) ?_
    refine zg_Model_reads X hW h0 zu_1032 dX11_readEnds_44 ?_
    refine lv_bipush hx hb dX11_readEnds_47 zc_b20 ?_
    refine lv_iload_n hx hb dX11_readEnds_49 rfl (lv_at hl 2 rfl) ?_
    refine lv_iadd hx hb dX11_readEnds_50 ?_
    refine lv_aload_n hx hb dX11_readEnds_51 rfl (lv_at hl 1 rfl) ?_
    refine lv_iload_n hx hb dX11_readEnds_52 rfl (lv_at hl 0 rfl) ?_
    refine lv_aload_n hx hb dX11_readEnds_53 rfl (lv_at hl 1 rfl) ?_
    refine zg_Model_reads X hW h0 zu_1032 dX11_readEnds_54 ?_
    refine lv_iconst hx hb dX11_readEnds_57 zc_i0 ?_
    obtain ⟨g, h⟩ := h
    refine ziald X hW h0.2.2.2.2.2.1 g dX11_readEnds_58 ?_
    refine zcalli (zrunV (As := [.int s_0, .int (M 5 (ix 0))]) (rest := [.int (20 + x_1), .ref (zad w 5)]) X hml hl hW h0.1 rfl zk_Model_111 (c_Model_number h0 h) rfl ⟨Nat.le_of_ble_eq_true rfl, Nat.le_of_ble_eq_true rfl⟩ ⟨Nat.le_refl 0, Nat.le_refl 0⟩ rfl (Nat.le_of_ble_eq_true rfl) dX11_readEnds_59) hW (fun zr5 zm4 H locs h hW => ?_)
    obtain ⟨g, h⟩ := h
    refine ziast X hW h0.2.2.2.2.2.1 g dX11_readEnds_62 (fun H locs zm6 ezm6 hW => ?_)
    replace h := h zm6 ezm6
    refine lv_aload_n hx hb dX11_readEnds_63 rfl (lv_at hl 1 rfl) ?_
    refine zcallv (zrunV (As := []) (rest := []) X hml hl hW h0.1 rfl zk_Model_114 (c_Model_next h0 h) rfl ⟨Nat.le_of_ble_eq_true rfl, Nat.le_of_ble_eq_true rfl⟩ ⟨Nat.le_refl 0, Nat.le_refl 0⟩ rfl (Nat.le_of_ble_eq_true rfl) dX11_readEnds_64) hW (fun zm7 H locs h hW => ?_)
    obtain ⟨zx9, ezx9⟩ : ∃ y : Int32, y = x_1 + 1 := ⟨_, rfl⟩
    replace h := h zx9 ezx9
    refine lv_iinc (v := zx9) (lv' := [(1, .int zx9), (2, .int s_0), (0, .ref (zad w 0))]) hx hb dX11_readEnds_67 hl (k := 2) rfl (by rw [ezx9, zc_i1]) (Nat.le_of_ble_eq_true rfl) rfl (fun ls hl => ?_)
    refine lv_goto (tgt := 11) hx hb dX11_readEnds_70 rfl ?_
    exact zJ zx9 zm7 H locs ls hW (lv_sub hl [2, 0] rfl) h
  have zL_11 :  ∀ (n : Nat) (x_1 : Int32) (M : zMem) (H : Heap) (locs : List Loc) (ls : Array Slot), zWo w s.heap M H locs → lv_has ls 3 [(0, .ref (zad w 0)), (1, .int x_1)] → zlp1 (wpB_Model_readEnds_11    post) n x_1 M → W p l e (zRm 3 67) s m ([.ref (zad w 0)] : List Value).toArray below meth c H locs 0 0 (MQ below (va_Qv post (zB w) (zA w)) ([.ref (zad w 0)] : List Value).toArray s 0 0 (zA w)) (F0 m 11 ls []) := by
    intro n
    induction n with
    | zero => intro x_1 M H locs ls hW hl h; exact h.elim
    | succ n zJ =>
      intro x_1 M H locs ls hW hl h
      have h : wpB_Model_readEnds_11    post (zlp1 (wpB_Model_readEnds_11    post) n) x_1 M := h
      unfold wpB_Model_readEnds_11 at h
      refine lv_iload_n hx hb dX11_readEnds_11 rfl (lv_at hl 1 rfl) ?_
      refine lv_aload_n hx hb dX11_readEnds_12 rfl (lv_at hl 0 rfl) ?_
      refine zg_Model_reads X hW h0 zu_1032 dX11_readEnds_13 ?_
      refine lv_iconst hx hb dX11_readEnds_16 zc_i1 ?_
      obtain ⟨g, h⟩ := h
      refine ziald X hW h0.2.2.2.2.2.1 g dX11_readEnds_17 ?_
      refine lv_iconst hx hb dX11_readEnds_18 zc_i1 ?_
      refine lv_isub hx hb dX11_readEnds_19 ?_
      refine lv_icmp_ge (tgt := 73) hx hb dX11_readEnds_20 rfl (fun c => ?_) (fun c => ?_)
      · replace h := h.1 c
        exact zretv X hr hlk hW h dX11_readEnds_73
      · replace h := h.2 c
        refine lv_iload_n hx hb dX11_readEnds_23 rfl (lv_at hl 1 rfl) ?_
        refine lv_if_ne (tgt := 31) hx hb dX11_readEnds_24 rfl (fun c => ?_) (fun c => ?_)
        · replace h := h.1 c
          refine lv_aload_n hx hb dX11_readEnds_31 rfl (lv_at hl 0 rfl) ?_
          refine zg_Model_reads X hW h0 zu_1032 dX11_readEnds_32 ?_
          refine lv_bipush hx hb dX11_readEnds_35 zc_b20 ?_
          refine lv_iload_n hx hb dX11_readEnds_37 rfl (lv_at hl 1 rfl) ?_
          refine lv_iadd hx hb dX11_readEnds_38 ?_
          refine lv_iconst hx hb dX11_readEnds_39 zc_i1 ?_
          refine lv_isub hx hb dX11_readEnds_40 ?_
          obtain ⟨g, h⟩ := h
          refine ziald X hW h0.2.2.2.2.2.1 g dX11_readEnds_41 ?_
          exact zJ_42 x_1 (M 5 (ix ((20 + x_1) - 1))) _ zJ M H locs ls hW (lv_sub hl [0, 1] rfl) h
        · replace h := h.2 c
          refine lv_iconst hx hb dX11_readEnds_27 zc_i1 ?_
          refine lv_goto (tgt := 42) hx hb dX11_readEnds_28 rfl ?_
          exact zJ_42 x_1 1 _ zJ M H locs ls hW (lv_sub hl [0, 1] rfl) h
  unfold wp_Model_readEnds at h
  have zMain : ∀ (H : Heap) (locs : List Loc) (ls : Array Slot), zWo w s.heap M H locs → lv_has ls 3 [(0, .ref (zad w 0))] → W p l e (zRm 3 67) s m ([.ref (zad w 0)] : List Value).toArray below meth c H locs 0 0 (MQ below (va_Qv post (zB w) (zA w)) ([.ref (zad w 0)] : List Value).toArray s 0 0 (zA w)) (F0 m 0 ls []) := by
    intro H locs ls hW hl
    refine lv_aload_n hx hb dX11_readEnds_0 rfl (lv_at hl 0 rfl) ?_
    refine lv_iconst hx hb dX11_readEnds_1 zc_i1 ?_
    refine zp_Model_hasEnds X hW h0 zbo_1 zu_1035 dX11_readEnds_2 (fun H locs zm1 ezm1 hW => ?_)
    replace h := h zm1 ezm1
    refine lv_aload_n hx hb dX11_readEnds_5 rfl (lv_at hl 0 rfl) ?_
    refine zcallv (zrunV (As := []) (rest := []) X hml hl hW h0.1 rfl zk_Model_114 (c_Model_next h0 h) rfl ⟨Nat.le_of_ble_eq_true rfl, Nat.le_of_ble_eq_true rfl⟩ ⟨Nat.le_refl 0, Nat.le_refl 0⟩ rfl (Nat.le_of_ble_eq_true rfl) dX11_readEnds_6) hW (fun zm2 H locs h hW => ?_)
    refine lv_iconst hx hb dX11_readEnds_9 zc_i0 ?_
    refine lv_istore_n (lv' := [(1, .int 0), (0, .ref (zad w 0))]) hx hb dX11_readEnds_10 rfl hl (Nat.le_of_ble_eq_true rfl) rfl (fun ls hl => ?_)
    obtain ⟨n, h⟩ := h
    refine zL_11   n 0 zm2 H locs ls hW (lv_sub hl [1, 0] rfl) h
  exact zMain s.heap [] ls hW hl
