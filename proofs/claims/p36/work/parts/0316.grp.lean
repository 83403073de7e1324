def wpJ_Model_readWhole_44   (Q : zMem → Prop) (x_1 : Int32)  (M : zMem) : Prop :=
  vp_in 5 100 ∧ (¬ (M 0 3) = 0 → vp_in 5 100 ∧ ∀ zm5 : zMem, zm5 = zup M 5 (ix 5) ((M 5 (ix 5)) ||| 0) → wp_Model_next zm5 (fun zm6 => Q zm6)) ∧ ((M 0 3) = 0 → vp_in 5 100 ∧ ∀ zm8 : zMem, zm8 = zup M 5 (ix 5) ((M 5 (ix 5)) ||| (1 <<< (x_1 &&& 31))) → wp_Model_next zm8 (fun zm9 => Q zm9))
def wp_Model_readWhole  (M : zMem) (Q : zMem → Prop) : Prop :=
  wp_Model_next M (fun zm1 => vp_in 0 100 ∧ wp_Model_number 0 ((zm1 5 (ix 0)) - 1) zm1 (fun zr4 zm3 => (¬ (zm3 0 3) = 0 → wpJ_Model_readWhole_44  Q zr4 zm3) ∧ ((zm3 0 3) = 0 → vp_in 5 100 ∧ (¬ (((zm3 5 (ix 5)) >>> (zr4 &&& 31)) &&& 1) = 1 → wpJ_Model_readWhole_44  Q zr4 zm3) ∧ ((((zm3 5 (ix 5)) >>> (zr4 &&& 31)) &&& 1) = 1 → wp_Model_fails 4 zm3 (fun zm11 => wpJ_Model_readWhole_44  Q zr4 zm11)))))
set_option maxHeartbeats 4000000 in
set_option maxRecDepth 20000 in
theorem c_Model_readWhole {l : Launch} {w : zWd} {M : zMem} {post : zMem → Prop} (h0 : zI_Model w) (h : wp_Model_readWhole  M post) : zMv l ⟨"HandToHandModel", "readWhole", "()V"⟩ prog_13_method_13_code 2 none 3 67 w [.ref (zad w 0)] M post := by
  refine zMet (by decide) (Nat.le_of_ble_eq_true rfl) ?_
  intro p e s m below meth c X hr hlk hml hW ls hl
  have hx := X.1
  have hb := X.2.1
  have hl : lv_has ls 2 [(0, .ref (zad w 0))] := hl
  have zJ_44 : ∀ (x_1 : Int32) (M : zMem) (H : Heap) (locs : List Loc) (ls : Array Slot), zWo w s.heap M H locs → lv_has ls 2 [(0, .ref (zad w 0)), (1, .int x_1)] → wpJ_Model_readWhole_44  post x_1 M → W p l e (zRm 3 67) s m ([.ref (zad w 0)] : List Value).toArray below meth c H locs 0 0 (MQ below (va_Qv post (zB w) (zA w)) ([.ref (zad w 0)] : List Value).toArray s 0 0 (zA w)) (F0 m 44 ls []) := by
    intro x_1 M H locs ls hW hl h
    unfold wpJ_Model_readWhole_44 at h
    refine lv_aload_n hx hb dX11_readWhole_44 rfl (lv_at hl 0 rfl) ?_
    refine zg_Model_reads X hW h0 zu_1032 dX11_readWhole_45 ?_
    refine lv_iconst hx hb dX11_readWhole_48 zc_i5 ?_
    refine lv_dup2_11 hx hb dX11_readWhole_49 rfl rfl ?_
    obtain ⟨g, h⟩ := h
    refine ziald X hW h0.2.2.2.2.2.1 g dX11_readWhole_50 ?_
    refine lv_aload_n hx hb dX11_readWhole_51 rfl (lv_at hl 0 rfl) ?_
    refine zg_Model_wrong X hW h0 zu_1023 dX11_readWhole_52 ?_
    refine lv_if_ne (tgt := 64) hx hb dX11_readWhole_55 rfl (fun c => ?_) (fun c => ?_)
    · replace h := h.1 c
      refine lv_iconst hx hb dX11_readWhole_64 zc_i0 ?_
      refine lv_ior hx hb dX11_readWhole_65 ?_
      obtain ⟨g, h⟩ := h
      refine ziast X hW h0.2.2.2.2.2.1 g dX11_readWhole_66 (fun H locs zm5 ezm5 hW => ?_)
      replace h := h zm5 ezm5
      refine lv_aload_n hx hb dX11_readWhole_67 rfl (lv_at hl 0 rfl) ?_
      refine zcallv (zrunV (As := []) (rest := []) X hml hl hW h0.1 rfl zk_Model_114 (c_Model_next h0 h) rfl ⟨Nat.le_of_ble_eq_true rfl, Nat.le_of_ble_eq_true rfl⟩ ⟨Nat.le_refl 0, Nat.le_refl 0⟩ rfl (Nat.le_of_ble_eq_true rfl) dX11_readWhole_68) hW (fun zm6 H locs h hW => ?_)
      exact zretv X hr hlk hW h dX11_readWhole_71
    · replace h := h.2 c
      refine lv_iconst hx hb dX11_readWhole_58 zc_i1 ?_
      refine lv_iload_n hx hb dX11_readWhole_59 rfl (lv_at hl 1 rfl) ?_
      refine lv_ishl hx hb dX11_readWhole_60 ?_
      refine lv_goto (tgt := 65) hx hb dX11_readWhole_61 rfl ?_
      refine lv_ior hx hb dX11_readWhole_65 ?_
      obtain ⟨g, h⟩ := h
      refine ziast X hW h0.2.2.2.2.2.1 g dX11_readWhole_66 (fun H locs zm8 ezm8 hW => ?_)
      replace h := h zm8 ezm8
      refine lv_aload_n hx hb dX11_readWhole_67 rfl (lv_at hl 0 rfl) ?_
      refine zcallv (zrunV (As := []) (rest := []) X hml hl hW h0.1 rfl zk_Model_114 (c_Model_next h0 h) rfl ⟨Nat.le_of_ble_eq_true rfl, Nat.le_of_ble_eq_true rfl⟩ ⟨Nat.le_refl 0, Nat.le_refl 0⟩ rfl (Nat.le_of_ble_eq_true rfl) dX11_readWhole_68) hW (fun zm9 H locs h hW => ?_)
      exact zretv X hr hlk hW h dX11_readWhole_71
  unfold wp_Model_readWhole at h
  have zMain : ∀ (H : Heap) (locs : List Loc) (ls : Array Slot), zWo w s.heap M H locs → lv_has ls 2 [(0, .ref (zad w 0))] → W p l e (zRm 3 67) s m ([.ref (zad w 0)] : List Value).toArray below meth c H locs 0 0 (MQ below (va_Qv post (zB w) (zA w)) ([.ref (zad w 0)] : List Value).toArray s 0 0 (zA w)) (F0 m 0 ls []) := by
    intro H locs ls hW hl
    refine lv_aload_n hx hb dX11_readWhole_0 rfl (lv_at hl 0 rfl) ?_
    refine zcallv (zrunV (As := []) (rest := []) X hml hl hW h0.1 rfl zk_Model_114 (c_Model_next h0 h) rfl ⟨Nat.le_of_ble_eq_true rfl, Nat.le_of_ble_eq_true rfl⟩ ⟨Nat.le_refl 0, Nat.le_refl 0⟩ rfl (Nat.le_of_ble_eq_true rfl) dX11_readWhole_1) hW (fun zm1 H locs h hW => ?_)
    refine lv_aload_n hx hb dX11_readWhole_4 rfl (lv_at hl 0 rfl) ?_
    refine lv_iconst hx hb dX11_readWhole_5 zc_i0 ?_
    refine lv_aload_n hx hb dX11_readWhole_6 rfl (lv_at hl 0 rfl) ?_
    refine zg_Model_reads X hW h0 zu_1032 dX11_readWhole_7 ?_
    refine lv_iconst hx hb dX11_readWhole_10 zc_i0 ?_
    obtain ⟨g, h⟩ := h
    refine ziald X hW h0.2.2.2.2.2.1 g dX11_readWhole_11 ?_
    refine lv_iconst hx hb dX11_readWhole_12 zc_i1 ?_
    refine lv_isub hx hb dX11_readWhole_13 ?_
    refine zcalli (zrunV (As := [.int 0, .int ((zm1 5 (ix 0)) - 1)]) (rest := []) X hml hl hW h0.1 rfl zk_Model_111 (c_Model_number h0 h) rfl ⟨Nat.le_of_ble_eq_true rfl, Nat.le_of_ble_eq_true rfl⟩ ⟨Nat.le_refl 0, Nat.le_refl 0⟩ rfl (Nat.le_of_ble_eq_true rfl) dX11_readWhole_14) hW (fun zr4 zm3 H locs h hW => ?_)
    refine lv_istore_n (lv' := [(1, .int zr4), (0, .ref (zad w 0))]) hx hb dX11_readWhole_17 rfl hl (Nat.le_of_ble_eq_true rfl) rfl (fun ls hl => ?_)
    refine lv_aload_n hx hb dX11_readWhole_18 rfl (lv_at hl 1 rfl) ?_
    refine zg_Model_wrong X hW h0 zu_1023 dX11_readWhole_19 ?_
    refine lv_if_ne (tgt := 44) hx hb dX11_readWhole_22 rfl (fun c => ?_) (fun c => ?_)
    · replace h := h.1 c
      exact zJ_44 zr4 zm3 H locs ls hW (lv_sub hl [1, 0] rfl) h
    · replace h := h.2 c
      refine lv_aload_n hx hb dX11_readWhole_25 rfl (lv_at hl 1 rfl) ?_
      refine zg_Model_reads X hW h0 zu_1032 dX11_readWhole_26 ?_
      refine lv_iconst hx hb dX11_readWhole_29 zc_i5 ?_
      obtain ⟨g, h⟩ := h
      refine ziald X hW h0.2.2.2.2.2.1 g dX11_readWhole_30 ?_
      refine lv_iload_n hx hb dX11_readWhole_31 rfl (lv_at hl 0 rfl) ?_
      refine lv_ishr hx hb dX11_readWhole_32 ?_
      refine lv_iconst hx hb dX11_readWhole_33 zc_i1 ?_
      refine lv_iand hx hb dX11_readWhole_34 ?_
      refine lv_iconst hx hb dX11_readWhole_35 zc_i1 ?_
      refine lv_icmp_ne (tgt := 44) hx hb dX11_readWhole_36 rfl (fun c => ?_) (fun c => ?_)
      · replace h := h.1 c
        exact zJ_44 zr4 zm3 H locs ls hW (lv_sub hl [1, 0] rfl) h
      · replace h := h.2 c
        refine lv_aload_n hx hb dX11_readWhole_39 rfl (lv_at hl 1 rfl) ?_
        refine lv_iconst hx hb dX11_readWhole_40 zc_i4 ?_
        refine zcallv (zrunV (As := [.int 4]) (rest := []) X hml hl hW h0.1 rfl zk_Model_103 (c_Model_fails h0 h) rfl ⟨Nat.le_of_ble_eq_true rfl, Nat.le_of_ble_eq_true rfl⟩ ⟨Nat.le_refl 0, Nat.le_refl 0⟩ rfl (Nat.le_of_ble_eq_true rfl) dX11_readWhole_41) hW (fun zm11 H locs h hW => ?_)
        exact zJ_44 zr4 zm11 H locs ls hW (lv_sub hl [1, 0] rfl) h
  exact zMain s.heap [] ls hW hl
def wpJ_Model_readSort_35   (Q : zMem → Prop) (x_1 : Int32)  (M : zMem) : Prop :=
  (¬ (M 0 3) = 0 → ∀ zm5 : zMem, zm5 = zup M 0 14 ((M 0 14) ||| 0) → wp_Model_next zm5 (fun zm6 => vp_in 0 100 ∧ wp_Model_numbers (30 + (8 * x_1)) (zm6 5 (ix 0)) 0 6 zm6 (fun zm8 => Q zm8))) ∧ ((M 0 3) = 0 → ∀ zm10 : zMem, zm10 = zup M 0 14 ((M 0 14) ||| (1 <<< (x_1 &&& 31))) → wp_Model_next zm10 (fun zm11 => vp_in 0 100 ∧ wp_Model_numbers (30 + (8 * x_1)) (zm11 5 (ix 0)) 0 6 zm11 (fun zm13 => Q zm13)))
def wp_Model_readSort  (M : zMem) (Q : zMem → Prop) : Prop :=
  wp_Model_next M (fun zm1 => wp_Model_number 1 2 zm1 (fun zr4 zm3 => (¬ (zm3 0 3) = 0 → wpJ_Model_readSort_35  Q zr4 zm3) ∧ ((zm3 0 3) = 0 → (¬ (((zm3 0 14) >>> (zr4 &&& 31)) &&& 1) = 1 → wpJ_Model_readSort_35  Q zr4 zm3) ∧ ((((zm3 0 14) >>> (zr4 &&& 31)) &&& 1) = 1 → wp_Model_fails 4 zm3 (fun zm15 => wpJ_Model_readSort_35  Q zr4 zm15)))))
set_option maxHeartbeats 4000000 in
set_option maxRecDepth 20000 in
theorem c_Model_readSort {l : Launch} {w : zWd} {M : zMem} {post : zMem → Prop} (h0 : zI_Model w) (h : wp_Model_readSort  M post) : zMv l ⟨"HandToHandModel", "readSort", "()V"⟩ prog_13_method_14_code 2 none 4 92 w [.ref (zad w 0)] M post := by
  refine zMet (by decide) (Nat.le_of_ble_eq_true rfl) ?_
  intro p e s m below meth c X hr hlk hml hW ls hl
  have hx := X.1
  have hb := X.2.1
  have hl : lv_has ls 2 [(0, .ref (zad w 0))] := hl
  have zJ_35 : ∀ (x_1 : Int32) (M : zMem) (H : Heap) (locs : List Loc) (ls : Array Slot), zWo w s.heap M H locs → lv_has ls 2 [(0, .ref (zad w 0)), (1, .int x_1)] → wpJ_Model_readSort_35  post x_1 M → W p l e (zRm 4 92) s m ([.ref (zad w 0)] : List Value).toArray below meth c H locs 0 0 (MQ below (va_Qv post (zB w) (zA w)) ([.ref (zad w 0)] : List Value).toArray s 0 0 (zA w)) (F0 m 35 ls []) := by
    intro x_1 M H locs ls hW hl h
    unfold wpJ_Model_readSort_35 at h
    refine lv_aload_n hx hb dX11_readSort_35 rfl (lv_at hl 0 rfl) ?_
    refine lv_dup hx hb dX11_readSort_36 rfl ?_
    refine zg_Model_toldSorts X hW h0 zu_1034 dX11_readSort_37 ?_
    refine lv_aload_n hx hb dX11_readSort_40 rfl (lv_at hl 0 rfl) ?_
    refine zg_Model_wrong X hW h0 zu_1023 dX11_readSort_41 ?_
    refine lv_if_ne (tgt := 53) hx hb dX11_readSort_44 rfl (fun c => ?_) (fun c => ?_)
    · replace h := h.1 c
      refine lv_iconst hx hb dX11_readSort_53 zc_i0 ?_
      refine lv_ior hx hb dX11_readSort_54 ?_
      refine zp_Model_toldSorts X hW h0 zu_1034 dX11_readSort_55 (fun H locs zm5 ezm5 hW => ?_)
      replace h := h zm5 ezm5
      refine lv_aload_n hx hb dX11_readSort_58 rfl (lv_at hl 0 rfl) ?_
      refine zcallv (zrunV (As := []) (rest := []) X hml hl hW h0.1 rfl zk_Model_114 (c_Model_next h0 h) rfl ⟨Nat.le_of_ble_eq_true rfl, Nat.le_of_ble_eq_true rfl⟩ ⟨Nat.le_refl 0, Nat.le_refl 0⟩ rfl (Nat.le_of_ble_eq_true rfl) dX11_readSort_59) hW (fun zm6 H locs h hW => ?_)
      refine lv_aload_n hx hb dX11_readSort_62 rfl (lv_at hl 0 rfl) ?_
      refine lv_bipush hx hb dX11_readSort_63 zc_b30 ?_
      refine lv_bipush hx hb dX11_readSort_65 zc_b8 ?_
      refine lv_iload_n hx hb dX11_readSort_67 rfl (lv_at hl 1 rfl) ?_
      refine lv_imul hx hb dX11_readSort_68 ?_
      refine lv_iadd hx hb dX11_readSort_69 ?_
      refine lv_aload_n hx hb dX11_readSort_70 rfl (lv_at hl 0 rfl) ?_
      refine zg_Model_reads X hW h0 zu_1032 dX11_readSort_71 ?_
      refine lv_iconst hx hb dX11_readSort_74 zc_i0 ?_
      obtain ⟨g, h⟩ := h
      refine ziald X hW h0.2.2.2.2.2.1 g dX11_readSort_75 ?_
      refine lv_iconst hx hb dX11_readSort_76 zc_i0 ?_
      refine lv_bipush hx hb dX11_readSort_77 zc_b6 ?_
      refine zcallv (zrunV (As := [.int (30 + (8 * x_1)), .int (zm6 5 (ix 0)), .int 0, .int 6]) (rest := []) X hml hl hW h0.1 rfl zk_Model_124 (c_Model_numbers h0 h) rfl ⟨Nat.le_of_ble_eq_true rfl, Nat.le_of_ble_eq_true rfl⟩ ⟨Nat.le_refl 0, Nat.le_refl 0⟩ rfl (Nat.le_of_ble_eq_true rfl) dX11_readSort_79) hW (fun zm8 H locs h hW => ?_)
      exact zretv X hr hlk hW h dX11_readSort_82
    · replace h := h.2 c
      refine lv_iconst hx hb dX11_readSort_47 zc_i1 ?_
      refine lv_iload_n hx hb dX11_readSort_48 rfl (lv_at hl 1 rfl) ?_
      refine lv_ishl hx hb dX11_readSort_49 ?_
      refine lv_goto (tgt := 54) hx hb dX11_readSort_50 rfl ?_
      refine lv_ior hx hb dX11_readSort_54 ?_
      refine zp_Model_toldSorts X hW h0 zu_1034 dX11_readSort_55 (fun H locs zm10 ezm10 hW => ?_)
      replace h := h zm10 ezm10
      refine lv_aload_n hx hb dX11_readSort_58 rfl (lv_at hl 0 rfl) ?_
      refine zcallv (zrunV (As := []) (rest := []) X hml hl hW h0.1 rfl zk_Model_114 (c_Model_next h0 h) rfl ⟨Nat.le_of_ble_eq_true rfl, Nat.le_of_ble_eq_true rfl⟩ ⟨Nat.le_refl 0, Nat.le_refl 0⟩ rfl (Nat.le_of_ble_eq_true rfl) dX11_readSort_59) hW (fun zm11 H locs h hW => ?_)
      refine lv_aload_n hx hb dX11_readSort_62 rfl (lv_at hl 0 rfl) ?_
      refine lv_bipush hx hb dX11_readSort_63 zc_b30 ?_
      refine lv_bipush hx hb dX11_readSort_65 zc_b8 ?_
      refine lv_iload_n hx hb dX11_readSort_67 rfl (lv_at hl 1 rfl) ?_
      refine lv_imul hx hb dX11_readSort_68 ?_
      refine lv_iadd hx hb dX11_readSort_69 ?_
      refine lv_aload_n hx hb dX11_readSort_70 rfl (lv_at hl 0 rfl) ?_
      refine zg_Model_reads X hW h0 zu_1032 dX11_readSort_71 ?_
      refine lv_iconst hx hb dX11_readSort_74 zc_i0 ?_
      obtain ⟨g, h⟩ := h
      refine ziald X hW h0.2.2.2.2.2.1 g dX11_readSort_75 ?_
      refine lv_iconst hx hb dX11_readSort_76 zc_i0 ?_
      refine lv_bipush hx hb dX11_readSort_77 zc_b6 ?_
      refine zcallv (zrunV (As := [.int (30 + (8 * x_1)), .int (zm11 5 (ix 0)), .int 0, .int 6]) (rest := []) X hml hl hW h0.1 rfl zk_Model_124 (c_Model_numbers h0 h) rfl ⟨Nat.le_of_ble_eq_true rfl, Nat.le_of_ble_eq_true rfl⟩ ⟨Nat.le_refl 0, Nat.le_refl 0⟩ rfl (Nat.le_of_ble_eq_true rfl) dX11_readSort_79) hW (fun zm13 H locs h hW => ?_)
      exact zretv X hr hlk hW h dX11_readSort_82
  unfold wp_Model_readSort at h
  have zMain : ∀ (H : Heap) (locs : List Loc) (ls : Array Slot), zWo w s.heap M H locs → lv_has ls 2 [(0, .ref (zad w 0))] → W p l e (zRm 4 92) s m ([.ref (zad w 0)] : List Value).toArray below meth c H locs 0 0 (MQ below (va_Qv post (zB w) (zA w)) ([.ref (zad w 0)] : List Value).toArray s 0 0 (zA w)) (F0 m 0 ls []) := by
    intro H locs ls hW hl
    refine lv_aload_n hx hb dX11_readSort_0 rfl (lv_at hl 0 rfl) ?_
    refine zcallv (zrunV (As := []) (rest := []) X hml hl hW h0.1 rfl zk_Model_114 (c_Model_next h0 h) rfl ⟨Nat.le_of_ble_eq_true rfl, Nat.le_of_ble_eq_true rfl⟩ ⟨Nat.le_refl 0, Nat.le_refl 0⟩ rfl (Nat.le_of_ble_eq_true rfl) dX11_readSort_1) hW (fun zm1 H locs h hW => ?_)
    refine lv_aload_n hx hb dX11_readSort_4 rfl (lv_at hl 0 rfl) ?_
    refine lv_iconst hx hb dX11_readSort_5 zc_i1 ?_
    refine lv_iconst hx hb dX11_readSort_6 zc_i2 ?_
    refine zcalli (zrunV (As := [.int 1, .int 2]) (rest := []) X hml hl hW h0.1 rfl zk_Model_111 (c_Model_number h0 h) rfl ⟨Nat.le_of_ble_eq_true rfl, Nat.le_of_ble_eq_true rfl⟩ ⟨Nat.le_refl 0, Nat.le_refl 0⟩ rfl (Nat.le_of_ble_eq_true rfl) dX11_readSort_7) hW (fun zr4 zm3 H locs h hW => ?_)
    refine lv_istore_n (lv' := [(1, .int zr4), (0, .ref (zad w 0))]) hx hb dX11_readSort_10 rfl hl (Nat.le_of_ble_eq_true rfl) rfl (fun ls hl => ?_)
    refine lv_aload_n hx hb dX11_readSort_11 rfl (lv_at hl 1 rfl) ?_
    refine zg_Model_wrong X hW h0 zu_1023 dX11_readSort_12 ?_
    refine lv_if_ne (tgt := 35) hx hb dX11_readSort_15 rfl (fun c => ?_) (fun c => ?_)
    · replace h := h.1 c
      exact zJ_35 zr4 zm3 H locs ls hW (lv_sub hl [1, 0] rfl) h
    · replace h := h.2 c
      refine lv_aload_n hx hb dX11_readSort_18 rfl (lv_at hl 1 rfl) ?_
      refine zg_Model_toldSorts X hW h0 zu_1034 dX11_readSort_19 ?_
      refine lv_iload_n hx hb dX11_readSort_22 rfl (lv_at hl 0 rfl) ?_
      refine lv_ishr hx hb dX11_readSort_23 ?_
      refine lv_iconst hx hb dX11_readSort_24 zc_i1 ?_
      refine lv_iand hx hb dX11_readSort_25 ?_
      refine lv_iconst hx hb dX11_readSort_26 zc_i1 ?_
      refine lv_icmp_ne (tgt := 35) hx hb dX11_readSort_27 rfl (fun c => ?_) (fun c => ?_)
      · replace h := h.1 c
        exact zJ_35 zr4 zm3 H locs ls hW (lv_sub hl [1, 0] rfl) h
      · replace h := h.2 c
        refine lv_aload_n hx hb dX11_readSort_30 rfl (lv_at hl 1 rfl) ?_
        refine lv_iconst hx hb dX11_readSort_31 zc_i4 ?_
        refine zcallv (zrunV (As := [.int 4]) (rest := []) X hml hl hW h0.1 rfl zk_Model_103 (c_Model_fails h0 h) rfl ⟨Nat.le_of_ble_eq_true rfl, Nat.le_of_ble_eq_true rfl⟩ ⟨Nat.le_refl 0, Nat.le_refl 0⟩ rfl (Nat.le_of_ble_eq_true rfl) dX11_readSort_32) hW (fun zm15 H locs h hW => ?_)
        exact zJ_35 zr4 zm15 H locs ls hW (lv_sub hl [1, 0] rfl) h
  exact zMain s.heap [] ls hW hl
def wpJ_Model_readRow_91   (J : Int32 → zMem → Prop) (Q : zMem → Prop)   (M : zMem) : Prop :=
  wp_Model_next M (fun zm6 => (¬ (zm6 0 7) = 2 → J 0 zm6) ∧ ((zm6 0 7) = 2 → J 1 zm6))
def wpJ_Model_readRow_50   (J : Int32 → zMem → Prop) (Q : zMem → Prop)   (M : zMem) : Prop :=
  wp_Model_number 0 2 M (fun zr5 zm4 => (¬ (zm4 0 3) = 0 → wpJ_Model_readRow_91  J Q zm4) ∧ ((zm4 0 3) = 0 → vp_in 6 100 ∧ vp_in (10 + (zm4 5 (ix 6))) 100 ∧ ∀ zm8 : zMem, zm8 = zup zm4 5 (ix (10 + (zm4 5 (ix 6)))) zr5 → vp_in 6 100 ∧ vp_in 6 100 ∧ ∀ zm9 : zMem, zm9 = zup zm8 5 (ix 6) ((zm8 5 (ix 6)) + 1) → wpJ_Model_readRow_91  J Q zm9))
def wpB_Model_readRow_14    (Q : zMem → Prop) (J : Int32 → zMem → Prop) (x_1 : Int32) (M : zMem) : Prop :=
  (x_1 = 0 → Q M) ∧ (¬ x_1 = 0 → (¬ (M 0 3) = 0 → Q M) ∧ ((M 0 3) = 0 → (¬ (M 0 7) = 2 → wpJ_Model_readRow_50  J Q M) ∧ ((M 0 7) = 2 → vp_in 6 100 ∧ (¬ (M 5 (ix 6)) = 6 → wpJ_Model_readRow_50  J Q M) ∧ ((M 5 (ix 6)) = 6 → wp_Model_fails 5 M (fun zm10 => wpJ_Model_readRow_50  J Q zm10)))))
def wp_Model_readRow  (M : zMem) (Q : zMem → Prop) : Prop :=
  wp_Model_next M (fun zm1 => vp_in 6 100 ∧ ∀ zm3 : zMem, zm3 = zup zm1 5 (ix 6) 0 → ∃ n : Nat, zlp1 (wpB_Model_readRow_14    Q) n 1 zm3)
set_option maxHeartbeats 4000000 in
set_option maxRecDepth 20000 in
theorem c_Model_readRow {l : Launch} {w : zWd} {M : zMem} {post : zMem → Prop} (h0 : zI_Model w) (h : wp_Model_readRow  M post) : zMv l ⟨"HandToHandModel", "readRow", "()V"⟩ prog_13_method_15_code 3 none 3 67 w [.ref (zad w 0)] M post := by
  refine zMet (by decide) (Nat.le_of_ble_eq_true rfl) ?_
  intro p e s m below meth c X hr hlk hml hW ls hl
  have hx := X.1
  have hb := X.2.1
  have hl : lv_has ls 3 [(0, .ref (zad w 0))] := hl
  have zJ_91 : ∀ (J : Int32 → zMem → Prop) (zJ : ∀ (y_1 : Int32) (M : zMem) (H : Heap) (locs : List Loc) (ls : Array Slot), zWo w s.heap M H locs → lv_has ls 3 [(0, .ref (zad w 0)), (1, .int y_1)] → J y_1 M → W p l e (zRm 3 67) s m ([.ref (zad w 0)] : List Value).toArray below meth c H locs 0 0 (MQ below (va_Qv post (zB w) (zA w)) ([.ref (zad w 0)] : List Value).toArray s 0 0 (zA w)) (F0 m 14 ls [])) (M : zMem) (H : Heap) (locs : List Loc) (ls : Array Slot), zWo w s.heap M H locs → lv_has ls 3 [(0, .ref (zad w 0))] → wpJ_Model_readRow_91  J post M → W p l e (zRm 3 67) s m ([.ref (zad w 0)] : List Value).toArray below meth c H locs 0 0 (MQ below (va_Qv post (zB w) (zA w)) ([.ref (zad w 0)] : List Value).toArray s 0 0 (zA w)) (F0 m 91 ls []) := by
    intro J zJ M H locs ls hW hl h
    unfold wpJ_Model_readRow_91 at h
    refine lv_aload_n hx hb dX11_readRow_91 rfl (lv_at hl 0 rfl) ?_
    refine zcallv (zrunV (As := []) (rest := []) X hml hl hW h0.1 rfl zk_Model_114 (c_Model_next h0 h) rfl ⟨Nat.le_of_ble_eq_true rfl, Nat.le_of_ble_eq_true rfl⟩ ⟨Nat.le_refl 0, Nat.le_refl 0⟩ rfl (Nat.le_of_ble_eq_true rfl) dX11_readRow_92) hW (fun zm6 H locs h hW => ?_)
    refine lv_aload_n hx hb dX11_readRow_95 rfl (lv_at hl 0 rfl) ?_
    refine zg_Model_token X hW h0 zu_1027 dX11_readRow_96 ?_
    refine lv_iconst hx hb dX11_readRow_99 zc_i2 ?_
    refine lv_icmp_ne (tgt := 107) hx hb dX11_readRow_100 rfl (fun c => ?_) (fun c => ?_)
    · replace h := h.1 c
      refine lv_iconst hx hb dX11_readRow_107 zc_i0 ?_
      refine lv_istore_n (lv' := [(1, .int 0), (0, .ref (zad w 0))]) hx hb dX11_readRow_108 rfl hl (Nat.le_of_ble_eq_true rfl) rfl (fun ls hl => ?_)
      refine lv_goto (tgt := 14) hx hb dX11_readRow_109 rfl ?_
      exact zJ 0 zm6 H locs ls hW (lv_sub hl [1, 0] rfl) h
    · replace h := h.2 c
      refine lv_iconst hx hb dX11_readRow_103 zc_i1 ?_
      refine lv_goto (tgt := 108) hx hb dX11_readRow_104 rfl ?_
      refine lv_istore_n (lv' := [(1, .int 1), (0, .ref (zad w 0))]) hx hb dX11_readRow_108 rfl hl (Nat.le_of_ble_eq_true rfl) rfl (fun ls hl => ?_)
      refine lv_goto (tgt := 14) hx hb dX11_readRow_109 rfl ?_
      exact zJ 1 zm6 H locs ls hW (lv_sub hl [1, 0] rfl) h
  have zJ_50 : ∀ (J : Int32 → zMem → Prop) (zJ : ∀ (y_1 : Int32) (M : zMem) (H : Heap) (locs : List Loc) (ls : Array Slot), zWo w s.heap M H locs → lv_has ls 3 [(0, .ref (zad w 0)), (1, .int y_1)] → J y_1 M → W p l e (zRm 3 67) s m ([.ref (zad w 0)] : List Value).toArray below meth c H locs 0 0 (MQ below (va_Qv post (zB w) (zA w)) ([.ref (zad w 0)] : List Value).toArray s 0 0 (zA w)) (F0 m 14 ls [])) (M : zMem) (H : Heap) (locs : List Loc) (ls : Array Slot), zWo w s.heap M H locs → lv_has ls 3 [(0, .ref (zad w 0))] → wpJ_Model_readRow_50  J post M → W p l e (zRm 3 67) s m ([.ref (zad w 0)] : List Value).toArray below meth c H locs 0 0 (MQ below (va_Qv post (zB w) (zA w)) ([.ref (zad w 0)] : List Value).toArray s 0 0 (zA w)) (F0 m 50 ls []) := by
    intro J zJ M H locs ls hW hl h
    unfold wpJ_Model_readRow_50 at h
    refine lv_aload_n hx hb dX11_readRow_50 rfl (lv_at hl 0 rfl) ?_
    refine lv_iconst hx hb dX11_readRow_51 zc_i0 ?_
    refine lv_iconst hx hb dX11_readRow_52 zc_i2 ?_
    refine zcalli (zrunV (As := [.int 0, .int 2]) (rest := []) X hml hl hW h0.1 rfl zk_Model_111 (c_Model_number h0 h) rfl ⟨Nat.le_of_ble_eq_true rfl, Nat.le_of_ble_eq_true rfl⟩ ⟨Nat.le_refl 0, Nat.le_refl 0⟩ rfl (Nat.le_of_ble_eq_true rfl) dX11_readRow_53) hW (fun zr5 zm4 H locs h hW => ?_)
    refine lv_istore_n (lv' := [(2, .int zr5), (0, .ref (zad w 0))]) hx hb dX11_readRow_56 rfl hl (Nat.le_of_ble_eq_true rfl) rfl (fun ls hl => ?_)
    refine lv_aload_n hx hb dX11_readRow_57 rfl (lv_at hl 1 rfl) ?_
    refine zg_Model_wrong X hW h0 zu_1023 dX11_readRow_58 ?_
    refine lv_if_ne (tgt := 91) hx hb dX11_readRow_61 rfl (fun c => ?_) (fun c => ?_)
    · replace h := h.1 c
      exact zJ_91 _ zJ zm4 H locs ls hW (lv_sub hl [1] rfl) h
    · replace h := h.2 c
      refine lv_aload_n hx hb dX11_readRow_64 rfl (lv_at hl 1 rfl) ?_
      refine zg_Model_reads X hW h0 zu_1032 dX11_readRow_65 ?_
      refine lv_bipush hx hb dX11_readRow_68 zc_b10 ?_
      refine lv_aload_n hx hb dX11_readRow_70 rfl (lv_at hl 1 rfl) ?_
      refine zg_Model_reads X hW h0 zu_1032 dX11_readRow_71 ?_
      refine lv_bipush hx hb dX11_readRow_74 zc_b6 ?_
      obtain ⟨g, h⟩ := h
      refine ziald X hW h0.2.2.2.2.2.1 g dX11_readRow_76 ?_
      refine lv_iadd hx hb dX11_readRow_77 ?_
      refine lv_iload_n hx hb dX11_readRow_78 rfl (lv_at hl 0 rfl) ?_
      obtain ⟨g, h⟩ := h
      refine ziast X hW h0.2.2.2.2.2.1 g dX11_readRow_79 (fun H locs zm8 ezm8 hW => ?_)
      replace h := h zm8 ezm8
      refine lv_aload_n hx hb dX11_readRow_80 rfl (lv_at hl 1 rfl) ?_
      refine zg_Model_reads X hW h0 zu_1032 dX11_readRow_81 ?_
      refine lv_bipush hx hb dX11_readRow_84 zc_b6 ?_
      refine lv_dup2_11 hx hb dX11_readRow_86 rfl rfl ?_
      obtain ⟨g, h⟩ := h
      refine ziald X hW h0.2.2.2.2.2.1 g dX11_readRow_87 ?_
      refine lv_iconst hx hb dX11_readRow_88 zc_i1 ?_
      refine lv_iadd hx hb dX11_readRow_89 ?_
      obtain ⟨g, h⟩ := h
      refine ziast X hW h0.2.2.2.2.2.1 g dX11_readRow_90 (fun H locs zm9 ezm9 hW => ?_)
      replace h := h zm9 ezm9
      exact zJ_91 _ zJ zm9 H locs ls hW (lv_sub hl [1] rfl) h
  have zL_14 :  ∀ (n : Nat) (x_1 : Int32) (M : zMem) (H : Heap) (locs : List Loc) (ls : Array Slot), zWo w s.heap M H locs → lv_has ls 3 [(0, .ref (zad w 0)), (1, .int x_1)] → zlp1 (wpB_Model_readRow_14    post) n x_1 M → W p l e (zRm 3 67) s m ([.ref (zad w 0)] : List Value).toArray below meth c H locs 0 0 (MQ below (va_Qv post (zB w) (zA w)) ([.ref (zad w 0)] : List Value).toArray s 0 0 (zA w)) (F0 m 14 ls []) := by
    intro n
    induction n with
    | zero => intro x_1 M H locs ls hW hl h; exact h.elim
    | succ n zJ =>
      intro x_1 M H locs ls hW hl h
      have h : wpB_Model_readRow_14    post (zlp1 (wpB_Model_readRow_14    post) n) x_1 M := h
      unfold wpB_Model_readRow_14 at h
      refine lv_iload_n hx hb dX11_readRow_14 rfl (lv_at hl 1 rfl) ?_
      refine lv_if_eq (tgt := 112) hx hb dX11_readRow_15 rfl (fun c => ?_) (fun c => ?_)
      · replace h := h.1 c
        exact zretv X hr hlk hW h dX11_readRow_112
      · replace h := h.2 c
        refine lv_aload_n hx hb dX11_readRow_18 rfl (lv_at hl 0 rfl) ?_
        refine zg_Model_wrong X hW h0 zu_1023 dX11_readRow_19 ?_
        refine lv_if_ne (tgt := 112) hx hb dX11_readRow_22 rfl (fun c => ?_) (fun c => ?_)
        · replace h := h.1 c
          exact zretv X hr hlk hW h dX11_readRow_112
        · replace h := h.2 c
          refine lv_aload_n hx hb dX11_readRow_25 rfl (lv_at hl 0 rfl) ?_
          refine zg_Model_token X hW h0 zu_1027 dX11_readRow_26 ?_
          refine lv_iconst hx hb dX11_readRow_29 zc_i2 ?_
          refine lv_icmp_ne (tgt := 50) hx hb dX11_readRow_30 rfl (fun c => ?_) (fun c => ?_)
          · replace h := h.1 c
            exact zJ_50 _ zJ M H locs ls hW (lv_sub hl [0] rfl) h
          · replace h := h.2 c
            refine lv_aload_n hx hb dX11_readRow_33 rfl (lv_at hl 0 rfl) ?_
            refine zg_Model_reads X hW h0 zu_1032 dX11_readRow_34 ?_
            refine lv_bipush hx hb dX11_readRow_37 zc_b6 ?_
            obtain ⟨g, h⟩ := h
            refine ziald X hW h0.2.2.2.2.2.1 g dX11_readRow_39 ?_
            refine lv_bipush hx hb dX11_readRow_40 zc_b6 ?_
            refine lv_icmp_ne (tgt := 50) hx hb dX11_readRow_42 rfl (fun c => ?_) (fun c => ?_)
            · replace h := h.1 c
              exact zJ_50 _ zJ M H locs ls hW (lv_sub hl [0] rfl) h
            · replace h := h.2 c
              refine lv_aload_n hx hb dX11_readRow_45 rfl (lv_at hl 0 rfl) ?_
              refine lv_iconst hx hb dX11_readRow_46 zc_i5 ?_
              refine zcallv (zrunV (As := [.int 5]) (rest := []) X hml hl hW h0.1 rfl zk_Model_103 (c_Model_fails h0 h) rfl ⟨Nat.le_of_ble_eq_true rfl, Nat.le_of_ble_eq_true rfl⟩ ⟨Nat.le_refl 0, Nat.le_refl 0⟩ rfl (Nat.le_of_ble_eq_true rfl) dX11_readRow_47) hW (fun zm10 H locs h hW => ?_)
              exact zJ_50 _ zJ zm10 H locs ls hW (lv_sub hl [0] rfl) h
  unfold wp_Model_readRow at h
  have zMain : ∀ (H : Heap) (locs : List Loc) (ls : Array Slot), zWo w s.heap M H locs → lv_has ls 3 [(0, .ref (zad w 0))] → W p l e (zRm 3 67) s m ([.ref (zad w 0)] : List Value).toArray below meth c H locs 0 0 (MQ below (va_Qv post (zB w) (zA w)) ([.ref (zad w 0)] : List Value).toArray s 0 0 (zA w)) (F0 m 0 ls []) := by
    intro H locs ls hW hl
    refine lv_aload_n hx hb dX11_readRow_0 rfl (lv_at hl 0 rfl) ?_
    refine zcallv (zrunV (As := []) (rest := []) X hml hl hW h0.1 rfl zk_Model_114 (c_Model_next h0 h) rfl ⟨Nat.le_of_ble_eq_true rfl, Nat.le_of_ble_eq_true rfl⟩ ⟨Nat.le_refl 0, Nat.le_refl 0⟩ rfl (Nat.le_of_ble_eq_true rfl) dX11_readRow_1) hW (fun zm1 H locs h hW => ?_)
    refine lv_aload_n hx hb dX11_readRow_4 rfl (lv_at hl 0 rfl) ?_
    refine zg_Model_reads X hW h0 zu_1032 dX11_readRow_5 ?_
    refine lv_bipush hx hb dX11_readRow_8 zc_b6 ?_
    refine lv_iconst hx hb dX11_readRow_10 zc_i0 ?_
    obtain ⟨g, h⟩ := h
    refine ziast X hW h0.2.2.2.2.2.1 g dX11_readRow_11 (fun H locs zm3 ezm3 hW => ?_)
    replace h := h zm3 ezm3
    refine lv_iconst hx hb dX11_readRow_12 zc_i1 ?_
    refine lv_istore_n (lv' := [(1, .int 1), (0, .ref (zad w 0))]) hx hb dX11_readRow_13 rfl hl (Nat.le_of_ble_eq_true rfl) rfl (fun ls hl => ?_)
    obtain ⟨n, h⟩ := h
    refine zL_14   n 1 zm3 H locs ls hW (lv_sub hl [1, 0] rfl) h
  exact zMain s.heap [] ls hW hl
def wpJ_Model_readHand_22   (Q : zMem → Prop)   (M : zMem) : Prop :=
  wp_Model_next M (fun zm3 => vp_in 1 100 ∧ (5 ≤ (zm3 5 (ix 1)) → (¬ (zm3 0 3) = 0 → wp_Model_numbers (60 + (8 * 0)) 0 1 9 zm3 (fun zm5 => vp_in 1 100 ∧ vp_in 1 100 ∧ ∀ zm7 : zMem, zm7 = zup zm5 5 (ix 1) ((zm5 5 (ix 1)) + 1) → Q zm7)) ∧ ((zm3 0 3) = 0 → vp_in 0 100 ∧ wp_Model_numbers (60 + (8 * 0)) (zm3 5 (ix 0)) 1 9 zm3 (fun zm8 => vp_in 1 100 ∧ vp_in 1 100 ∧ ∀ zm10 : zMem, zm10 = zup zm8 5 (ix 1) ((zm8 5 (ix 1)) + 1) → Q zm10))) ∧ (¬ 5 ≤ (zm3 5 (ix 1)) → vp_in 1 100 ∧ (¬ (zm3 0 3) = 0 → wp_Model_numbers (60 + (8 * (zm3 5 (ix 1)))) 0 1 9 zm3 (fun zm11 => vp_in 1 100 ∧ vp_in 1 100 ∧ ∀ zm13 : zMem, zm13 = zup zm11 5 (ix 1) ((zm11 5 (ix 1)) + 1) → Q zm13)) ∧ ((zm3 0 3) = 0 → vp_in 0 100 ∧ wp_Model_numbers (60 + (8 * (zm3 5 (ix 1)))) (zm3 5 (ix 0)) 1 9 zm3 (fun zm14 => vp_in 1 100 ∧ vp_in 1 100 ∧ ∀ zm16 : zMem, zm16 = zup zm14 5 (ix 1) ((zm14 5 (ix 1)) + 1) → Q zm16))))
def wpJ_Model_readHand_17   (Q : zMem → Prop)   (M : zMem) : Prop :=
  wp_Model_fails 5 M (fun zm1 => wpJ_Model_readHand_22  Q zm1)
def wp_Model_readHand  (M : zMem) (Q : zMem → Prop) : Prop :=
  vp_in 1 100 ∧ ((M 5 (ix 1)) = 5 → wpJ_Model_readHand_17  Q M) ∧ (¬ (M 5 (ix 1)) = 5 → ((M 0 15) = 0 → wpJ_Model_readHand_22  Q M) ∧ (¬ (M 0 15) = 0 → wpJ_Model_readHand_17  Q M))
set_option maxHeartbeats 4000000 in
set_option maxRecDepth 20000 in
theorem c_Model_readHand {l : Launch} {w : zWd} {M : zMem} {post : zMem → Prop} (h0 : zI_Model w) (h : wp_Model_readHand  M post) : zMv l ⟨"HandToHandModel", "readHand", "()V"⟩ prog_13_method_16_code 1 none 4 92 w [.ref (zad w 0)] M post := by
  refine zMet (by decide) (Nat.le_of_ble_eq_true rfl) ?_
  intro p e s m below meth c X hr hlk hml hW ls hl
  have hx := X.1
  have hb := X.2.1
  have hl : lv_has ls 1 [(0, .ref (zad w 0))] := hl
  have zJ_22 : ∀ (M : zMem) (H : Heap) (locs : List Loc) (ls : Array Slot), zWo w s.heap M H locs → lv_has ls 1 [(0, .ref (zad w 0))] → wpJ_Model_readHand_22  post M → W p l e (zRm 4 92) s m ([.ref (zad w 0)] : List Value).toArray below meth c H locs 0 0 (MQ below (va_Qv post (zB w) (zA w)) ([.ref (zad w 0)] : List Value).toArray s 0 0 (zA w)) (F0 m 22 ls []) := by
    intro  M H locs ls hW hl h
    unfold wpJ_Model_readHand_22 at h
    refine lv_aload_n hx hb dX11_readHand_22 rfl (lv_at hl 0 rfl) ?_
    refine zcallv (zrunV (As := []) (rest := []) X hml hl hW h0.1 rfl zk_Model_114 (c_Model_next h0 h) rfl ⟨Nat.le_of_ble_eq_true rfl, Nat.le_of_ble_eq_true rfl⟩ ⟨Nat.le_refl 0, Nat.le_refl 0⟩ rfl (Nat.le_of_ble_eq_true rfl) dX11_readHand_23) hW (fun zm3 H locs h hW => ?_)
    refine lv_aload_n hx hb dX11_readHand_26 rfl (lv_at hl 0 rfl) ?_
    refine lv_bipush hx hb dX11_readHand_27 zc_b60 ?_
    refine lv_bipush hx hb dX11_readHand_29 zc_b8 ?_
    refine lv_aload_n hx hb dX11_readHand_31 rfl (lv_at hl 0 rfl) ?_
    refine zg_Model_reads X hW h0 zu_1032 dX11_readHand_32 ?_
    refine lv_iconst hx hb dX11_readHand_35 zc_i1 ?_
    obtain ⟨g, h⟩ := h
    refine ziald X hW h0.2.2.2.2.2.1 g dX11_readHand_36 ?_
    refine lv_iconst hx hb dX11_readHand_37 zc_i5 ?_
    refine lv_icmp_ge (tgt := 50) hx hb dX11_readHand_38 rfl (fun c => ?_) (fun c => ?_)
    · replace h := h.1 c
      refine lv_iconst hx hb dX11_readHand_50 zc_i0 ?_
      refine lv_imul hx hb dX11_readHand_51 ?_
      refine lv_iadd hx hb dX11_readHand_52 ?_
      refine lv_aload_n hx hb dX11_readHand_53 rfl (lv_at hl 0 rfl) ?_
      refine zg_Model_wrong X hW h0 zu_1023 dX11_readHand_54 ?_
      refine lv_if_ne (tgt := 69) hx hb dX11_readHand_57 rfl (fun c => ?_) (fun c => ?_)
      · replace h := h.1 c
        refine lv_iconst hx hb dX11_readHand_69 zc_i0 ?_
        refine lv_iconst hx hb dX11_readHand_70 zc_i1 ?_
        refine lv_bipush hx hb dX11_readHand_71 zc_b9 ?_
        refine zcallv (zrunV (As := [.int (60 + (8 * 0)), .int 0, .int 1, .int 9]) (rest := []) X hml hl hW h0.1 rfl zk_Model_124 (c_Model_numbers h0 h) rfl ⟨Nat.le_of_ble_eq_true rfl, Nat.le_of_ble_eq_true rfl⟩ ⟨Nat.le_refl 0, Nat.le_refl 0⟩ rfl (Nat.le_of_ble_eq_true rfl) dX11_readHand_73) hW (fun zm5 H locs h hW => ?_)
        refine lv_aload_n hx hb dX11_readHand_76 rfl (lv_at hl 0 rfl) ?_
        refine zg_Model_reads X hW h0 zu_1032 dX11_readHand_77 ?_
        refine lv_iconst hx hb dX11_readHand_80 zc_i1 ?_
        refine lv_dup2_11 hx hb dX11_readHand_81 rfl rfl ?_
        obtain ⟨g, h⟩ := h
        refine ziald X hW h0.2.2.2.2.2.1 g dX11_readHand_82 ?_
        refine lv_iconst hx hb dX11_readHand_83 zc_i1 ?_
        refine lv_iadd hx hb dX11_readHand_84 ?_
        obtain ⟨g, h⟩ := h
        refine ziast X hW h0.2.2.2.2.2.1 g dX11_readHand_85 (fun H locs zm7 ezm7 hW => ?_)
        replace h := h zm7 ezm7
        exact zretv X hr hlk hW h dX11_readHand_86
      · replace h := h.2 c
        refine lv_aload_n hx hb dX11_readHand_60 rfl (lv_at hl 0 rfl) ?_
        refine zg_Model_reads X hW h0 zu_1032 dX11_readHand_61 ?_
        refine lv_iconst hx hb dX11_readHand_64 zc_i0 ?_
        obtain ⟨g, h⟩ := h
        refine ziald X hW h0.2.2.2.2.2.1 g dX11_readHand_65 ?_
        refine lv_goto (tgt := 70) hx hb dX11_readHand_66 rfl ?_
        refine lv_iconst hx hb dX11_readHand_70 zc_i1 ?_
        refine lv_bipush hx hb dX11_readHand_71 zc_b9 ?_
        refine zcallv (zrunV (As := [.int (60 + (8 * 0)), .int (zm3 5 (ix 0)), .int 1, .int 9]) (rest := []) X hml hl hW h0.1 rfl zk_Model_124 (c_Model_numbers h0 h) rfl ⟨Nat.le_of_ble_eq_true rfl, Nat.le_of_ble_eq_true rfl⟩ ⟨Nat.le_refl 0, Nat.le_refl 0⟩ rfl (Nat.le_of_ble_eq_true rfl) dX11_readHand_73) hW (fun zm8 H locs h hW => ?_)
        refine lv_aload_n hx hb dX11_readHand_76 rfl (lv_at hl 0 rfl) ?_
        refine zg_Model_reads X hW h0 zu_1032 dX11_readHand_77 ?_
        refine lv_iconst hx hb dX11_readHand_80 zc_i1 ?_
        refine lv_dup2_11 hx hb dX11_readHand_81 rfl rfl ?_
        obtain ⟨g, h⟩ := h
        refine ziald X hW h0.2.2.2.2.2.1 g dX11_readHand_82 ?_
        refine lv_iconst hx hb dX11_readHand_83 zc_i1 ?_
        refine lv_iadd hx hb dX11_readHand_84 ?_
        obtain ⟨g, h⟩ := h
        refine ziast X hW h0.2.2.2.2.2.1 g dX11_readHand_85 (fun H locs zm10 ezm10 hW => ?_)
        replace h := h zm10 ezm10
        exact zretv X hr hlk hW h dX11_readHand_86
    · replace h := h.2 c
      refine lv_aload_n hx hb dX11_readHand_41 rfl (lv_at hl 0 rfl) ?_
      refine zg_Model_reads X hW h0 zu_1032 dX11_readHand_42 ?_
      refine lv_iconst hx hb dX11_readHand_45 zc_i1 ?_
      obtain ⟨g, h⟩ := h
      refine ziald X hW h0.2.2.2.2.2.1 g dX11_readHand_46 ?_
      refine lv_goto (tgt := 51) hx hb dX11_readHand_47 rfl ?_
      refine lv_imul hx hb dX11_readHand_51 ?_
      refine lv_iadd hx hb dX11_readHand_52 ?_
      refine lv_aload_n hx hb dX11_readHand_53 rfl (lv_at hl 0 rfl) ?_
      refine zg_Model_wrong X hW h0 zu_1023 dX11_readHand_54 ?_
      refine lv_if_ne (tgt := 69) hx hb dX11_readHand_57 rfl (fun c => ?_) (fun c => ?_)
      · replace h := h.1 c
        refine lv_iconst hx hb dX11_readHand_69 zc_i0 ?_
        refine lv_iconst hx hb dX11_readHand_70 zc_i1 ?_
        refine lv_bipush hx hb dX11_readHand_71 zc_b9 ?_
        refine zcallv (zrunV (As := [.int (60 + (8 * (zm3 5 (ix 1)))), .int 0, .int 1, .int 9]) (rest := []) X hml hl hW h0.1 rfl zk_Model_124 (c_Model_numbers h0 h) rfl ⟨Nat.le_of_ble_eq_true rfl, Nat.le_of_ble_eq_true rfl⟩ ⟨Nat.le_refl 0, Nat.le_refl 0⟩ rfl (Nat.le_of_ble_eq_true rfl) dX11_readHand_73) hW (fun zm11 H locs h hW => ?_)
        refine lv_aload_n hx hb dX11_readHand_76 rfl (lv_at hl 0 rfl) ?_
        refine zg_Model_reads X hW h0 zu_1032 dX11_readHand_77 ?_
        refine lv_iconst hx hb dX11_readHand_80 zc_i1 ?_
        refine lv_dup2_11 hx hb dX11_readHand_81 rfl rfl ?_
        obtain ⟨g, h⟩ := h
        refine ziald X hW h0.2.2.2.2.2.1 g dX11_readHand_82 ?_
        refine lv_iconst hx hb dX11_readHand_83 zc_i1 ?_
        refine lv_iadd hx hb dX11_readHand_84 ?_
        obtain ⟨g, h⟩ := h
        refine ziast X hW h0.2.2.2.2.2.1 g dX11_readHand_85 (fun H locs zm13 ezm13 hW => ?_)
        replace h := h zm13 ezm13
        exact zretv X hr hlk hW h dX11_readHand_86
      · replace h := h.2 c
        refine lv_aload_n hx hb dX11_readHand_60 rfl (lv_at hl 0 rfl) ?_
        refine zg_Model_reads X hW h0 zu_1032 dX11_readHand_61 ?_
        refine lv_iconst hx hb dX11_readHand_64 zc_i0 ?_
        obtain ⟨g, h⟩ := h
        refine ziald X hW h0.2.2.2.2.2.1 g dX11_readHand_65 ?_
        refine lv_goto (tgt := 70) hx hb dX11_readHand_66 rfl ?_
        refine lv_iconst hx hb dX11_readHand_70 zc_i1 ?_
        refine lv_bipush hx hb dX11_readHand_71 zc_b9 ?_
        refine zcallv (zrunV (As := [.int (60 + (8 * (zm3 5 (ix 1)))), .int (zm3 5 (ix 0)), .int 1, .int 9]) (rest := []) X hml hl hW h0.1 rfl zk_Model_124 (c_Model_numbers h0 h) rfl ⟨Nat.le_of_ble_eq_true rfl, Nat.le_of_ble_eq_true rfl⟩ ⟨Nat.le_refl 0, Nat.le_refl 0⟩ rfl (Nat.le_of_ble_eq_true rfl) dX11_readHand_73) hW (fun zm14 H locs h hW => ?_)
        refine lv_aload_n hx hb dX11_readHand_76 rfl (lv_at hl 0 rfl) ?_
        refine zg_Model_reads X hW h0 zu_1032 dX11_readHand_77 ?_
        refine lv_iconst hx hb dX11_readHand_80 zc_i1 ?_
        refine lv_dup2_11 hx hb dX11_readHand_81 rfl rfl ?_
        obtain ⟨g, h⟩ := h
        refine ziald X hW h0.2.2.2.2.2.1 g dX11_readHand_82 ?_
        refine lv_iconst hx hb dX11_readHand_83 zc_i1 ?_
        refine lv_iadd hx hb dX11_readHand_84 ?_
        obtain ⟨g, h⟩ := h
        refine ziast X hW h0.2.2.2.2.2.1 g dX11_readHand_85 (fun H locs zm16 ezm16 hW => ?_)
        replace h := h zm16 ezm16
        exact zretv X hr hlk hW h dX11_readHand_86
  have zJ_17 : ∀ (M : zMem) (H : Heap) (locs : List Loc) (ls : Array Slot), zWo w s.heap M H locs → lv_has ls 1 [(0, .ref (zad w 0))] → wpJ_Model_readHand_17  post M → W p l e (zRm 4 92) s m ([.ref (zad w 0)] : List Value).toArray below meth c H locs 0 0 (MQ below (va_Qv post (zB w) (zA w)) ([.ref (zad w 0)] : List Value).toArray s 0 0 (zA w)) (F0 m 17 ls []) := by
    intro  M H locs ls hW hl h
    unfold wpJ_Model_readHand_17 at h
    refine lv_aload_n hx hb dX11_readHand_17 rfl (lv_at hl 0 rfl) ?_
    refine lv_iconst hx hb dX11_readHand_18 zc_i5 ?_
    refine zcallv (zrunV (As := [.int 5]) (rest := []) X hml hl hW h0.1 rfl zk_Model_103 (c_Model_fails h0 h) rfl ⟨Nat.le_of_ble_eq_true rfl, Nat.le_of_ble_eq_true rfl⟩ ⟨Nat.le_refl 0, Nat.le_refl 0⟩ rfl (Nat.le_of_ble_eq_true rfl) dX11_readHand_19) hW (fun zm1 H locs h hW => ?_)
    exact zJ_22  zm1 H locs ls hW (lv_sub hl [0] rfl) h
  unfold wp_Model_readHand at h
  have zMain : ∀ (H : Heap) (locs : List Loc) (ls : Array Slot), zWo w s.heap M H locs → lv_has ls 1 [(0, .ref (zad w 0))] → W p l e (zRm 4 92) s m ([.ref (zad w 0)] : List Value).toArray below meth c H locs 0 0 (MQ below (va_Qv post (zB w) (zA w)) ([.ref (zad w 0)] : List Value).toArray s 0 0 (zA w)) (F0 m 0 ls []) := by
    intro H locs ls hW hl
    refine lv_aload_n hx hb dX11_readHand_0 rfl (lv_at hl 0 rfl) ?_
    refine zg_Model_reads X hW h0 zu_1032 dX11_readHand_1 ?_
    refine lv_iconst hx hb dX11_readHand_4 zc_i1 ?_
    obtain ⟨g, h⟩ := h
    refine ziald X hW h0.2.2.2.2.2.1 g dX11_readHand_5 ?_
    refine lv_iconst hx hb dX11_readHand_6 zc_i5 ?_
    refine lv_icmp_eq (tgt := 17) hx hb dX11_readHand_7 rfl (fun c => ?_) (fun c => ?_)
    · replace h := h.1 c
      exact zJ_17  M H locs ls hW (lv_sub hl [0] rfl) h
    · replace h := h.2 c
      refine lv_aload_n hx hb dX11_readHand_10 rfl (lv_at hl 0 rfl) ?_
      refine zg_Model_hasEnds X hW h0 zu_1035 dX11_readHand_11 ?_
      refine lv_if_eq (tgt := 22) hx hb dX11_readHand_14 rfl (fun c => ?_) (fun c => ?_)
      · replace h := h.1 c
        exact zJ_22  M H locs ls hW (lv_sub hl [0] rfl) h
      · replace h := h.2 c
        exact zJ_17  M H locs ls hW (lv_sub hl [0] rfl) h
  exact zMain s.heap [] ls hW hl
def wpJ_Model_readEnds_42   (J : Int32 → zMem → Prop) (Q : zMem → Prop) (x_1 : Int32) (s_0 : Int32) (M : zMem) : Prop :=
  vp_in 0 100 ∧ wp_Model_number s_0 (M 5 (ix 0)) M (fun zr5 zm4 => vp_in (20 + x_1) 100 ∧ ∀ zm6 : zMem, zm6 = zup zm4 5 (ix (20 + x_1)) zr5 → wp_Model_next zm6 (fun zm7 => ∀ zx9 : Int32, zx9 = x_1 + 1 → J zx9 zm7))
def wpB_Model_readEnds_11    (Q : zMem → Prop) (J : Int32 → zMem → Prop) (x_1 : Int32) (M : zMem) : Prop :=
  vp_in 1 100 ∧ (((M 5 (ix 1)) - 1) ≤ x_1 → Q M) ∧ (¬ ((M 5 (ix 1)) - 1) ≤ x_1 → (¬ x_1 = 0 → vp_in ((20 + x_1) - 1) 100 ∧ wpJ_Model_readEnds_42  J Q x_1 (M 5 (ix ((20 + x_1) - 1))) M) ∧ (x_1 = 0 → wpJ_Model_readEnds_42  J Q x_1 1 M))
def wp_Model_readEnds  (M : zMem) (Q : zMem → Prop) : Prop :=
  ∀ zm1 : zMem, zm1 = zup M 0 15 1 → wp_Model_next zm1 (fun zm2 => ∃ n : Nat, zlp1 (wpB_Model_readEnds_11    Q) n 0 zm2)
set_option maxHeartbeats 4000000 in
set_option maxRecDepth 20000 in
theorem c_Model_readEnds {l : Launch} {w : zWd} {M : zMem} {post : zMem → Prop} (h0 : zI_Model w) (h : wp_Model_readEnds  M post) : zMv l ⟨"HandToHandModel", "readEnds", "()V"⟩ prog_13_method_17_code 3 none 3 67 w [.ref (zad w 0)] M post := by
  refine zMet (by decide) (Nat.le_of_ble_eq_true rfl) ?_
  intro p e s m below meth c X hr hlk hml hW ls hl
  have hx := X.1
  have hb := X.2.1
  have hl : lv_has ls 3 [(0, .ref (zad w 0))] := hl
  have zJ_42 : ∀ (x_1 : Int32) (s_0 : Int32) (J : Int32 → zMem → Prop) (zJ : ∀ (y_1 : Int32) (M : zMem) (H : Heap) (locs : List Loc) (ls : Array Slot), zWo w s.heap M H locs → lv_has ls 3 [(0, .ref (zad w 0)), (1, .int y_1)] → J y_1 M → W p l e (zRm 3 67) s m ([.ref (zad w 0)] : List Value).toArray below meth c H locs 0 0 (MQ below (va_Qv post (zB w) (zA w)) ([.ref (zad w 0)] : List Value).toArray s 0 0 (zA w)) (F0 m 11 ls [])) (M : zMem) (H : Heap) (locs : List Loc) (ls : Array Slot), zWo w s.heap M H locs → lv_has ls 3 [(0, .ref (zad w 0)), (1, .int x_1)] → wpJ_Model_readEnds_42  J post x_1 s_0 M → W p l e (zRm 3 67) s m ([.ref (zad w 0)] : List Value).toArray below meth c H locs 0 0 (MQ below (va_Qv post (zB w) (zA w)) ([.ref (zad w 0)] : List Value).toArray s 0 0 (zA w)) (F0 m 42 ls [.int s_0]) := by
    intro x_1 s_0 J zJ M H locs ls hW hl h
    unfold wpJ_Model_readEnds_42 at h
    refine lv_istore_n (lv' := [(2, .int s_0), (0, .ref (zad w 0)), (1, .int x_1)]) hx hb dX11_readEnds_42 rfl hl (Nat.le_of_ble_eq_true rfl) rfl (fun ls hl => ?_)
    refine lv_aload_n hx hb dX11_readEnds_43 rfl (lv_at hl 1 rfl) ?_
    refine zg_Model_reads X hW h0 zu_1032 dX11_readEnds_44 ?_
    refine lv_bipush hx hb dX11_readEnds_47 zc_b20 ?_
    refine lv_iload_n hx hb dX11_readEnds_49 rfl (lv_at hl 2 rfl) ?_
    refine lv_iadd hx hb dX11_readEnds_50 ?_
    refine lv_aload_n hx hb dX11_readEnds_51 rfl (lv_at hl 1 rfl) ?_
    refine lv_iload_n hx hb dX11_readEnds_52 rfl (lv_at hl 0 rfl) ?_
    refine lv_aload_n hx hb dX11_readEnds_53 rfl (lv_at hl 1 rfl) ?_
    refine zg_Model_reads X hW h0 zu_1032 dX11_readEnds_54 ?_
    refine lv_iconst hx hb dX11_readEnds_57 zc_i0 ?_
    obtain ⟨g, h⟩ := h
    refine ziald X hW h0.2.2.2.2.2.1 g dX11_readEnds_58 ?_
    refine zcalli (zrunV (As := [.int s_0, .int (M 5 (ix 0))]) (rest := [.int (20 + x_1), .ref (zad w 5)]) X hml hl hW h0.1 rfl zk_Model_111 (c_Model_number h0 h) rfl ⟨Nat.le_of_ble_eq_true rfl, Nat.le_of_ble_eq_true rfl⟩ ⟨Nat.le_refl 0, Nat.le_refl 0⟩ rfl (Nat.le_of_ble_eq_true rfl) dX11_readEnds_59) hW (fun zr5 zm4 H locs h hW => ?_)
    obtain ⟨g, h⟩ := h
    refine ziast X hW h0.2.2.2.2.2.1 g dX11_readEnds_62 (fun H locs zm6 ezm6 hW => ?_)
    replace h := h zm6 ezm6
    refine lv_aload_n hx hb dX11_readEnds_63 rfl (lv_at hl 1 rfl) ?_
    refine zcallv (zrunV (As := []) (rest := []) X hml hl hW h0.1 rfl zk_Model_114 (c_Model_next h0 h) rfl ⟨Nat.le_of_ble_eq_true rfl, Nat.le_of_ble_eq_true rfl⟩ ⟨Nat.le_refl 0, Nat.le_refl 0⟩ rfl (Nat.le_of_ble_eq_true rfl) dX11_readEnds_64) hW (fun zm7 H locs h hW => ?_)
    obtain ⟨zx9, ezx9⟩ : ∃ y : Int32, y = x_1 + 1 := ⟨_, rfl⟩
    replace h := h zx9 ezx9
    refine lv_iinc (v := zx9) (lv' := [(1, .int zx9), (2, .int s_0), (0, .ref (zad w 0))]) hx hb dX11_readEnds_67 hl (k := 2) rfl (by rw [ezx9, zc_i1]) (Nat.le_of_ble_eq_true rfl) rfl (fun ls hl => ?_)
    refine lv_goto (tgt := 11) hx hb dX11_readEnds_70 rfl ?_
    exact zJ zx9 zm7 H locs ls hW (lv_sub hl [2, 0] rfl) h
  have zL_11 :  ∀ (n : Nat) (x_1 : Int32) (M : zMem) (H : Heap) (locs : List Loc) (ls : Array Slot), zWo w s.heap M H locs → lv_has ls 3 [(0, .ref (zad w 0)), (1, .int x_1)] → zlp1 (wpB_Model_readEnds_11    post) n x_1 M → W p l e (zRm 3 67) s m ([.ref (zad w 0)] : List Value).toArray below meth c H locs 0 0 (MQ below (va_Qv post (zB w) (zA w)) ([.ref (zad w 0)] : List Value).toArray s 0 0 (zA w)) (F0 m 11 ls []) := by
    intro n
    induction n with
    | zero => intro x_1 M H locs ls hW hl h; exact h.elim
    | succ n zJ =>
      intro x_1 M H locs ls hW hl h
      have h : wpB_Model_readEnds_11    post (zlp1 (wpB_Model_readEnds_11    post) n) x_1 M := h
      unfold wpB_Model_readEnds_11 at h
      refine lv_iload_n hx hb dX11_readEnds_11 rfl (lv_at hl 1 rfl) ?_
      refine lv_aload_n hx hb dX11_readEnds_12 rfl (lv_at hl 0 rfl) ?_
      refine zg_Model_reads X hW h0 zu_1032 dX11_readEnds_13 ?_
      refine lv_iconst hx hb dX11_readEnds_16 zc_i1 ?_
      obtain ⟨g, h⟩ := h
      refine ziald X hW h0.2.2.2.2.2.1 g dX11_readEnds_17 ?_
      refine lv_iconst hx hb dX11_readEnds_18 zc_i1 ?_
      refine lv_isub hx hb dX11_readEnds_19 ?_
      refine lv_icmp_ge (tgt := 73) hx hb dX11_readEnds_20 rfl (fun c => ?_) (fun c => ?_)
      · replace h := h.1 c
        exact zretv X hr hlk hW h dX11_readEnds_73
      · replace h := h.2 c
        refine lv_iload_n hx hb dX11_readEnds_23 rfl (lv_at hl 1 rfl) ?_
        refine lv_if_ne (tgt := 31) hx hb dX11_readEnds_24 rfl (fun c => ?_) (fun c => ?_)
        · replace h := h.1 c
          refine lv_aload_n hx hb dX11_readEnds_31 rfl (lv_at hl 0 rfl) ?_
          refine zg_Model_reads X hW h0 zu_1032 dX11_readEnds_32 ?_
          refine lv_bipush hx hb dX11_readEnds_35 zc_b20 ?_
          refine lv_iload_n hx hb dX11_readEnds_37 rfl (lv_at hl 1 rfl) ?_
          refine lv_iadd hx hb dX11_readEnds_38 ?_
          refine lv_iconst hx hb dX11_readEnds_39 zc_i1 ?_
          refine lv_isub hx hb dX11_readEnds_40 ?_
          obtain ⟨g, h⟩ := h
          refine ziald X hW h0.2.2.2.2.2.1 g dX11_readEnds_41 ?_
          exact zJ_42 x_1 (M 5 (ix ((20 + x_1) - 1))) _ zJ M H locs ls hW (lv_sub hl [0, 1] rfl) h
        · replace h := h.2 c
          refine lv_iconst hx hb dX11_readEnds_27 zc_i1 ?_
          refine lv_goto (tgt := 42) hx hb dX11_readEnds_28 rfl ?_
          exact zJ_42 x_1 1 _ zJ M H locs ls hW (lv_sub hl [0, 1] rfl) h
  unfold wp_Model_readEnds at h
  have zMain : ∀ (H : Heap) (locs : List Loc) (ls : Array Slot), zWo w s.heap M H locs → lv_has ls 3 [(0, .ref (zad w 0))] → W p l e (zRm 3 67) s m ([.ref (zad w 0)] : List Value).toArray below meth c H locs 0 0 (MQ below (va_Qv post (zB w) (zA w)) ([.ref (zad w 0)] : List Value).toArray s 0 0 (zA w)) (F0 m 0 ls []) := by
    intro H locs ls hW hl
    refine lv_aload_n hx hb dX11_readEnds_0 rfl (lv_at hl 0 rfl) ?_
    refine lv_iconst hx hb dX11_readEnds_1 zc_i1 ?_
    refine zp_Model_hasEnds X hW h0 zbo_1 zu_1035 dX11_readEnds_2 (fun H locs zm1 ezm1 hW => ?_)
    replace h := h zm1 ezm1
    refine lv_aload_n hx hb dX11_readEnds_5 rfl (lv_at hl 0 rfl) ?_
    refine zcallv (zrunV (As := []) (rest := []) X hml hl hW h0.1 rfl zk_Model_114 (c_Model_next h0 h) rfl ⟨Nat.le_of_ble_eq_true rfl, Nat.le_of_ble_eq_true rfl⟩ ⟨Nat.le_refl 0, Nat.le_refl 0⟩ rfl (Nat.le_of_ble_eq_true rfl) dX11_readEnds_6) hW (fun zm2 H locs h hW => ?_)
    refine lv_iconst hx hb dX11_readEnds_9 zc_i0 ?_
    refine lv_istore_n (lv' := [(1, .int 0), (0, .ref (zad w 0))]) hx hb dX11_readEnds_10 rfl hl (Nat.le_of_ble_eq_true rfl) rfl (fun ls hl => ?_)
    obtain ⟨n, h⟩ := h
    refine zL_11   n 0 zm2 H locs ls hW (lv_sub hl [1, 0] rfl) h
  exact zMain s.heap [] ls hW hl
def wpJ_Model_readLine_218   (Q : zMem → Prop)   (M : zMem) : Prop :=
  (¬ (M 0 3) = 0 → wp_Model_next M (fun zm6 => Q zm6)) ∧ ((M 0 3) = 0 → ((M 0 7) = 3 → wp_Model_next M (fun zm8 => Q zm8)) ∧ (¬ (M 0 7) = 3 → wp_Model_fails 2 M (fun zm10 => wp_Model_next zm10 (fun zm12 => Q zm12))))
def wpJ_Model_readLine_71   (Q : zMem → Prop) (x_1 : Int32)  (M : zMem) : Prop :=
  ∀ zx3 : Int32, zx3 = x_1 → (zx3 = 0 → wp_Model_readPiece M (fun zm4 => wpJ_Model_readLine_218  Q zm4)) ∧ (zx3 = 1 → wp_Model_readWhole M (fun zm14 => wpJ_Model_readLine_218  Q zm14)) ∧ (zx3 = 2 → wp_Model_readSort M (fun zm16 => wpJ_Model_readLine_218  Q zm16)) ∧ (zx3 = 3 → wp_Model_readRow M (fun zm18 => wpJ_Model_readLine_218  Q zm18)) ∧ (zx3 = 4 → wp_Model_readHand M (fun zm20 => wpJ_Model_readLine_218  Q zm20)) ∧ (zx3 = 5 → wp_Model_next M (fun zm22 => (¬ x_1 = 5 → (¬ x_1 = 5 → wp_Model_number 0 99 zm22 (fun zr25 zm24 => vp_in 3 100 ∧ ∀ zm26 : zMem, zm26 = zup zm24 5 (ix 3) zr25 → wp_Model_next zm26 (fun zm27 => wpJ_Model_readLine_218  Q zm27))) ∧ (x_1 = 5 → wp_Model_number 0 5 zm22 (fun zr30 zm29 => vp_in 3 100 ∧ ∀ zm31 : zMem, zm31 = zup zm29 5 (ix 3) zr30 → wp_Model_next zm31 (fun zm32 => wpJ_Model_readLine_218  Q zm32)))) ∧ (x_1 = 5 → (¬ x_1 = 5 → wp_Model_number 0 99 zm22 (fun zr35 zm34 => vp_in 2 100 ∧ ∀ zm36 : zMem, zm36 = zup zm34 5 (ix 2) zr35 → wp_Model_next zm36 (fun zm37 => wpJ_Model_readLine_218  Q zm37))) ∧ (x_1 = 5 → wp_Model_number 0 5 zm22 (fun zr40 zm39 => vp_in 2 100 ∧ ∀ zm41 : zMem, zm41 = zup zm39 5 (ix 2) zr40 → wp_Model_next zm41 (fun zm42 => wpJ_Model_readLine_218  Q zm42)))))) ∧ (zx3 = 6 → wp_Model_next M (fun zm44 => (¬ x_1 = 5 → (¬ x_1 = 5 → wp_Model_number 0 99 zm44 (fun zr47 zm46 => vp_in 3 100 ∧ ∀ zm48 : zMem, zm48 = zup zm46 5 (ix 3) zr47 → wp_Model_next zm48 (fun zm49 => wpJ_Model_readLine_218  Q zm49))) ∧ (x_1 = 5 → wp_Model_number 0 5 zm44 (fun zr52 zm51 => vp_in 3 100 ∧ ∀ zm53 : zMem, zm53 = zup zm51 5 (ix 3) zr52 → wp_Model_next zm53 (fun zm54 => wpJ_Model_readLine_218  Q zm54)))) ∧ (x_1 = 5 → (¬ x_1 = 5 → wp_Model_number 0 99 zm44 (fun zr57 zm56 => vp_in 2 100 ∧ ∀ zm58 : zMem, zm58 = zup zm56 5 (ix 2) zr57 → wp_Model_next zm58 (fun zm59 => wpJ_Model_readLine_218  Q zm59))) ∧ (x_1 = 5 → wp_Model_number 0 5 zm44 (fun zr62 zm61 => vp_in 2 100 ∧ ∀ zm63 : zMem, zm63 = zup zm61 5 (ix 2) zr62 → wp_Model_next zm63 (fun zm64 => wpJ_Model_readLine_218  Q zm64)))))) ∧ (zx3 = 7 → wp_Model_next M (fun zm66 => wpJ_Model_readLine_218  Q zm66)) ∧ (¬ zx3 = 0 → ¬ zx3 = 1 → ¬ zx3 = 2 → ¬ zx3 = 3 → ¬ zx3 = 4 → ¬ zx3 = 5 → ¬ zx3 = 6 → ¬ zx3 = 7 → vp_in 4 100 ∧ ∀ zm68 : zMem, zm68 = zup M 5 (ix 4) (x_1 - 7) → wp_Model_readEnds zm68 (fun zm69 => wpJ_Model_readLine_218  Q zm69))
def wpJ_Model_readLine_59   (Q : zMem → Prop) (x_1 : Int32) (x_2 : Int32)  (M : zMem) : Prop :=
  ∀ zm2 : zMem, zm2 = zup M 0 13 ((M 0 13) ||| (1 <<< (x_2 &&& 31))) → wpJ_Model_readLine_71  Q x_1 zm2
def wpJ_Model_readLine_42   (Q : zMem → Prop) (x_1 : Int32) (x_2 : Int32)  (M : zMem) : Prop :=
  (¬ (((M 0 13) >>> (x_2 &&& 31)) &&& 1) = 1 → wpJ_Model_readLine_59  Q x_1 x_2 M) ∧ ((((M 0 13) >>> (x_2 &&& 31)) &&& 1) = 1 → wp_Model_fails 4 M (fun zm71 => wpJ_Model_readLine_59  Q x_1 x_2 zm71))
def wpJ_Model_readLine_31   (Q : zMem → Prop) (x_1 : Int32) (s_0 : Int32) (M : zMem) : Prop :=
  (s_0 = 3 → wpJ_Model_readLine_42  Q x_1 s_0 M) ∧ (¬ s_0 = 3 → (s_0 ≤ 4 → wpJ_Model_readLine_71  Q x_1 M) ∧ (¬ s_0 ≤ 4 → wpJ_Model_readLine_42  Q x_1 s_0 M))
def wp_Model_readLine  (M : zMem) (Q : zMem → Prop) : Prop :=
  ∀ zx1 : Int32, zx1 = M 0 8 → ((M 0 7) = 1 → (zx1 ≤ 7 → wpJ_Model_readLine_31  Q zx1 zx1 M) ∧ (¬ zx1 ≤ 7 → wpJ_Model_readLine_31  Q zx1 7 M)) ∧ (¬ (M 0 7) = 1 → wp_Model_fails 2 M (fun zm73 => Q zm73))
set_option maxHeartbeats 4000000 in
set_option maxRecDepth 20000 in
theorem c_Model_readLine {l : Launch} {w : zWd} {M : zMem} {post : zMem → Prop} (h0 : zI_Model w) (h : wp_Model_readLine  M post) : zMv l ⟨"HandToHandModel", "readLine", "()V"⟩ prog_13_method_18_code 3 none 5 113 w [.ref (zad w 0)] M post := by
  refine zMet (by decide) (Nat.le_of_ble_eq_true rfl) ?_
  intro p e s m below meth c X hr hlk hml hW ls hl
  have hx := X.1
  have hb := X.2.1
  have hl : lv_has ls 3 [(0, .ref (zad w 0))] := hl
  have zJ_218 : ∀ (M : zMem) (H : Heap) (locs : List Loc) (ls : Array Slot), zWo w s.heap M H locs → lv_has ls 3 [(0, .ref (zad w 0))] → wpJ_Model_readLine_218  post M → W p l e (zRm 5 113) s m ([.ref (zad w 0)] : List Value).toArray below meth c H locs 0 0 (MQ below (va_Qv post (zB w) (zA w)) ([.ref (zad w 0)] : List Value).toArray s 0 0 (zA w)) (F0 m 218 ls []) := by
    intro  M H locs ls hW hl h
    unfold wpJ_Model_readLine_218 at h
    refine lv_aload_n hx hb dX11_readLine_218 rfl (lv_at hl 0 rfl) ?_
    refine zg_Model_wrong X hW h0 zu_1023 dX11_readLine_219 ?_
    refine lv_if_ne (tgt := 238) hx hb dX11_readLine_222 rfl (fun c => ?_) (fun c => ?_)
    · replace h := h.1 c
      refine lv_aload_n hx hb dX11_readLine_238 rfl (lv_at hl 0 rfl) ?_
      refine zcallv (zrunV (As := []) (rest := []) X hml hl hW h0.1 rfl zk_Model_114 (c_Model_next h0 h) rfl ⟨Nat.le_of_ble_eq_true rfl, Nat.le_of_ble_eq_true rfl⟩ ⟨Nat.le_refl 0, Nat.le_refl 0⟩ rfl (Nat.le_of_ble_eq_true rfl) dX11_readLine_239) hW (fun zm6 H locs h hW => ?_)
      exact zretv X hr hlk hW h dX11_readLine_242
    · replace h := h.2 c
      refine lv_aload_n hx hb dX11_readLine_225 rfl (lv_at hl 0 rfl) ?_
      refine zg_Model_token X hW h0 zu_1027 dX11_readLine_226 ?_
      refine lv_iconst hx hb dX11_readLine_229 zc_i3 ?_
      refine lv_icmp_eq (tgt := 238) hx hb dX11_readLine_230 rfl (fun c => ?_) (fun c => ?_)
      · replace h := h.1 c
        refine lv_aload_n hx hb dX11_readLine_238 rfl (lv_at hl 0 rfl) ?_
        refine zcallv (zrunV (As := []) (rest := []) X hml hl hW h0.1 rfl zk_Model_114 (c_Model_next h0 h) rfl ⟨Nat.le_of_ble_eq_true rfl, Nat.le_of_ble_eq_true rfl⟩ ⟨Nat.le_refl 0, Nat.le_refl 0⟩ rfl (Nat.le_of_ble_eq_true rfl) dX11_readLine_239) hW (fun zm8 H locs h hW => ?_)
        exact zretv X hr hlk hW h dX11_readLine_242
      · replace h := h.2 c
        refine lv_aload_n hx hb dX11_readLine_233 rfl (lv_at hl 0 rfl) ?_
        refine lv_iconst hx hb dX11_readLine_234 zc_i2 ?_
        refine zcallv (zrunV (As := [.int 2]) (rest := []) X hml hl hW h0.1 rfl zk_Model_103 (c_Model_fails h0 h) rfl ⟨Nat.le_of_ble_eq_true rfl, Nat.le_of_ble_eq_true rfl⟩ ⟨Nat.le_refl 0, Nat.le_refl 0⟩ rfl (Nat.le_of_ble_eq_true rfl) dX11_readLine_235) hW (fun zm10 H locs h hW => ?_)
        refine lv_aload_n hx hb dX11_readLine_238 rfl (lv_at hl 0 rfl) ?_
        refine zcallv (zrunV (As := []) (rest := []) X hml hl hW h0.1 rfl zk_Model_114 (c_Model_next h0 h) rfl ⟨Nat.le_of_ble_eq_true rfl, Nat.le_of_ble_eq_true rfl⟩ ⟨Nat.le_refl 0, Nat.le_refl 0⟩ rfl (Nat.le_of_ble_eq_true rfl) dX11_readLine_239) hW (fun zm12 H locs h hW => ?_)
        exact zretv X hr hlk hW h dX11_readLine_242
  have zJ_71 : ∀ (x_1 : Int32) (M : zMem) (H : Heap) (locs : List Loc) (ls : Array Slot), zWo w s.heap M H locs → lv_has ls 3 [(0, .ref (zad w 0)), (1, .int x_1)] → wpJ_Model_readLine_71  post x_1 M → W p l e (zRm 5 113) s m ([.ref (zad w 0)] : List Value).toArray below meth c H locs 0 0 (MQ below (va_Qv post (zB w) (zA w)) ([.ref (zad w 0)] : List Value).toArray s 0 0 (zA w)) (F0 m 71 ls []) := by
    intro x_1 M H locs ls hW hl h
    unfold wpJ_Model_readLine_71 at h
    refine lv_iload_n hx hb dX11_readLine_71 rfl (lv_at hl 1 rfl) ?_
    refine lv_topi (fun zx3 ezx3 => ?_)
    replace h := h zx3 ezx3
    by_cases c0 : zx3 = 0
    · replace h := h.1 c0
      refine lv_tableIn (off := 48) (tgt := 120) hx hb dX11_readLine_72 (by rw [c0]; decide) (by rw [c0]; decide) (by rw [c0]; rfl) rfl ?_
      refine lv_aload_n hx hb dX11_readLine_120 rfl (lv_at hl 0 rfl) ?_
      refine zcallv (zrunV (As := []) (rest := []) X hml hl hW h0.1 rfl zk_Model_131 (c_Model_readPiece h0 h) rfl ⟨Nat.le_of_ble_eq_true rfl, Nat.le_of_ble_eq_true rfl⟩ ⟨Nat.le_refl 0, Nat.le_refl 0⟩ rfl (Nat.le_of_ble_eq_true rfl) dX11_readLine_121) hW (fun zm4 H locs h hW => ?_)
      refine lv_goto (tgt := 218) hx hb dX11_readLine_124 rfl ?_
      exact zJ_218  zm4 H locs ls hW (lv_sub hl [0] rfl) h
    replace h := h.2
    by_cases c1 : zx3 = 1
    · replace h := h.1 c1
      refine lv_tableIn (off := 55) (tgt := 127) hx hb dX11_readLine_72 (by rw [c1]; decide) (by rw [c1]; decide) (by rw [c1]; rfl) rfl ?_
      refine lv_aload_n hx hb dX11_readLine_127 rfl (lv_at hl 0 rfl) ?_
      refine zcallv (zrunV (As := []) (rest := []) X hml hl hW h0.1 rfl zk_Model_134 (c_Model_readWhole h0 h) rfl ⟨Nat.le_of_ble_eq_true rfl, Nat.le_of_ble_eq_true rfl⟩ ⟨Nat.le_refl 0, Nat.le_refl 0⟩ rfl (Nat.le_of_ble_eq_true rfl) dX11_readLine_128) hW (fun zm14 H locs h hW => ?_)
      refine lv_goto (tgt := 218) hx hb dX11_readLine_131 rfl ?_
      exact zJ_218  zm14 H locs ls hW (lv_sub hl [0] rfl) h
    replace h := h.2
    by_cases c2 : zx3 = 2
    · replace h := h.1 c2
      refine lv_tableIn (off := 62) (tgt := 134) hx hb dX11_readLine_72 (by rw [c2]; decide) (by rw [c2]; decide) (by rw [c2]; rfl) rfl ?_
      refine lv_aload_n hx hb dX11_readLine_134 rfl (lv_at hl 0 rfl) ?_
      refine zcallv (zrunV (As := []) (rest := []) X hml hl hW h0.1 rfl zk_Model_137 (c_Model_readSort h0 h) rfl ⟨Nat.le_of_ble_eq_true rfl, Nat.le_of_ble_eq_true rfl⟩ ⟨Nat.le_refl 0, Nat.le_refl 0⟩ rfl (Nat.le_of_ble_eq_true rfl) dX11_readLine_135) hW (fun zm16 H locs h hW => ?_)
      refine lv_goto (tgt := 218) hx hb dX11_readLine_138 rfl ?_
      exact zJ_218  zm16 H locs ls hW (lv_sub hl [0] rfl) h
    replace h := h.2
    by_cases c3 : zx3 = 3
    · replace h := h.1 c3
      refine lv_tableIn (off := 69) (tgt := 141) hx hb dX11_readLine_72 (by rw [c3]; decide) (by rw [c3]; decide) (by rw [c3]; rfl) rfl ?_
      refine lv_aload_n hx hb dX11_readLine_141 rfl (lv_at hl 0 rfl) ?_
      refine zcallv (zrunV (As := []) (rest := []) X hml hl hW h0.1 rfl zk_Model_140 (c_Model_readRow h0 h) rfl ⟨Nat.le_of_ble_eq_true rfl, Nat.le_of_ble_eq_true rfl⟩ ⟨Nat.le_refl 0, Nat.le_refl 0⟩ rfl (Nat.le_of_ble_eq_true rfl) dX11_readLine_142) hW (fun zm18 H locs h hW => ?_)
      refine lv_goto (tgt := 218) hx hb dX11_readLine_145 rfl ?_
      exact zJ_218  zm18 H locs ls hW (lv_sub hl [0] rfl) h
    replace h := h.2
    by_cases c4 : zx3 = 4
    · replace h := h.1 c4
      refine lv_tableIn (off := 76) (tgt := 148) hx hb dX11_readLine_72 (by rw [c4]; decide) (by rw [c4]; decide) (by rw [c4]; rfl) rfl ?_
      refine lv_aload_n hx hb dX11_readLine_148 rfl (lv_at hl 0 rfl) ?_
      refine zcallv (zrunV (As := []) (rest := []) X hml hl hW h0.1 rfl zk_Model_143 (c_Model_readHand h0 h) rfl ⟨Nat.le_of_ble_eq_true rfl, Nat.le_of_ble_eq_true rfl⟩ ⟨Nat.le_refl 0, Nat.le_refl 0⟩ rfl (Nat.le_of_ble_eq_true rfl) dX11_readLine_149) hW (fun zm20 H locs h hW => ?_)
      refine lv_goto (tgt := 218) hx hb dX11_readLine_152 rfl ?_
      exact zJ_218  zm20 H locs ls hW (lv_sub hl [0] rfl) h
    replace h := h.2
    by_cases c5 : zx3 = 5
    · replace h := h.1 c5
      refine lv_tableIn (off := 83) (tgt := 155) hx hb dX11_readLine_72 (by rw [c5]; decide) (by rw [c5]; decide) (by rw [c5]; rfl) rfl ?_
      refine lv_aload_n hx hb dX11_readLine_155 rfl (lv_at hl 0 rfl) ?_
      refine zcallv (zrunV (As := []) (rest := []) X hml hl hW h0.1 rfl zk_Model_114 (c_Model_next h0 h) rfl ⟨Nat.le_of_ble_eq_true rfl, Nat.le_of_ble_eq_true rfl⟩ ⟨Nat.le_refl 0, Nat.le_refl 0⟩ rfl (Nat.le_of_ble_eq_true rfl) dX11_readLine_156) hW (fun zm22 H locs h hW => ?_)
      refine lv_aload_n hx hb dX11_readLine_159 rfl (lv_at hl 0 rfl) ?_
      refine zg_Model_reads X hW h0 zu_1032 dX11_readLine_160 ?_
      refine lv_iload_n hx hb dX11_readLine_163 rfl (lv_at hl 1 rfl) ?_
      refine lv_iconst hx hb dX11_readLine_164 zc_i5 ?_
      refine lv_icmp_ne (tgt := 172) hx hb dX11_readLine_165 rfl (fun c => ?_) (fun c => ?_)
      · replace h := h.1 c
        refine lv_iconst hx hb dX11_readLine_172 zc_i3 ?_
        refine lv_aload_n hx hb dX11_readLine_173 rfl (lv_at hl 0 rfl) ?_
        refine lv_iconst hx hb dX11_readLine_174 zc_i0 ?_
        refine lv_iload_n hx hb dX11_readLine_175 rfl (lv_at hl 1 rfl) ?_
        refine lv_iconst hx hb dX11_readLine_176 zc_i5 ?_
        refine lv_icmp_ne (tgt := 184) hx hb dX11_readLine_177 rfl (fun c => ?_) (fun c => ?_)
        · replace h := h.1 c
          refine lv_bipush hx hb dX11_readLine_184 zc_b99 ?_
          refine zcalli (zrunV (As := [.int 0, .int 99]) (rest := [.int 3, .ref (zad w 5)]) X hml hl hW h0.1 rfl zk_Model_111 (c_Model_number h0 h) rfl ⟨Nat.le_of_ble_eq_true rfl, Nat.le_of_ble_eq_true rfl⟩ ⟨Nat.le_refl 0, Nat.le_refl 0⟩ rfl (Nat.le_of_ble_eq_true rfl) dX11_readLine_186) hW (fun zr25 zm24 H locs h hW => ?_)
          obtain ⟨g, h⟩ := h
          refine ziast X hW h0.2.2.2.2.2.1 g dX11_readLine_189 (fun H locs zm26 ezm26 hW => ?_)
          replace h := h zm26 ezm26
          refine lv_aload_n hx hb dX11_readLine_190 rfl (lv_at hl 0 rfl) ?_
          refine zcallv (zrunV (As := []) (rest := []) X hml hl hW h0.1 rfl zk_Model_114 (c_Model_next h0 h) rfl ⟨Nat.le_of_ble_eq_true rfl, Nat.le_of_ble_eq_true rfl⟩ ⟨Nat.le_refl 0, Nat.le_refl 0⟩ rfl (Nat.le_of_ble_eq_true rfl) dX11_readLine_191) hW (fun zm27 H locs h hW => ?_)
          refine lv_goto (tgt := 218) hx hb dX11_readLine_194 rfl ?_
          exact zJ_218  zm27 H locs ls hW (lv_sub hl [0] rfl) h
        · replace h := h.2 c
          refine lv_iconst hx hb dX11_readLine_180 zc_i5 ?_
          refine lv_goto (tgt := 186) hx hb dX11_readLine_181 rfl ?_
          refine zcalli (zrunV (As := [.int 0, .int 5]) (rest := [.int 3, .ref (zad w 5)]) X hml hl hW h0.1 rfl zk_Model_111 (c_Model_number h0 h) rfl ⟨Nat.le_of_ble_eq_true rfl, Nat.le_of_ble_eq_true rfl⟩ ⟨Nat.le_refl 0, Nat.le_refl 0⟩ rfl (Nat.le_of_ble_eq_true rfl) dX11_readLine_186) hW (fun zr30 zm29 H locs h hW => ?_)
          obtain ⟨g, h⟩ := h
          refine ziast X hW h0.2.2.2.2.2.1 g dX11_readLine_189 (fun H locs zm31 ezm31 hW => ?_)
          replace h := h zm31 ezm31
          refine lv_aload_n hx hb dX11_readLine_190 rfl (lv_at hl 0 rfl) ?_
          refine zcallv (zrunV (As := []) (rest := []) X hml hl hW h0.1 rfl zk_Model_114 (c_Model_next h0 h) rfl ⟨Nat.le_of_ble_eq_true rfl, Nat.le_of_ble_eq_true rfl⟩ ⟨Nat.le_refl 0, Nat.le_refl 0⟩ rfl (Nat.le_of_ble_eq_true rfl) dX11_readLine_191) hW (fun zm32 H locs h hW => ?_)
          refine lv_goto (tgt := 218) hx hb dX11_readLine_194 rfl ?_
          exact zJ_218  zm32 H locs ls hW (lv_sub hl [0] rfl) h
      · replace h := h.2 c
        refine lv_iconst hx hb dX11_readLine_168 zc_i2 ?_
        refine lv_goto (tgt := 173) hx hb dX11_readLine_169 rfl ?_
        refine lv_aload_n hx hb dX11_readLine_173 rfl (lv_at hl 0 rfl) ?_
        refine lv_iconst hx hb dX11_readLine_174 zc_i0 ?_
        refine lv_iload_n hx hb dX11_readLine_175 rfl (lv_at hl 1 rfl) ?_
        refine lv_iconst hx hb dX11_readLine_176 zc_i5 ?_
        refine lv_icmp_ne (tgt := 184) hx hb dX11_readLine_177 rfl (fun c => ?_) (fun c => ?_)
        · replace h := h.1 c
          refine lv_bipush hx hb dX11_readLine_184 zc_b99 ?_
          refine zcalli (zrunV (As := [.int 0, .int 99]) (rest := [.int 2, .ref (zad w 5)]) X hml hl hW h0.1 rfl zk_Model_111 (c_Model_number h0 h) rfl ⟨Nat.le_of_ble_eq_true rfl, Nat.le_of_ble_eq_true rfl⟩ ⟨Nat.le_refl 0, Nat.le_refl 0⟩ rfl (Nat.le_of_ble_eq_true rfl) dX11_readLine_186) hW (fun zr35 zm34 H locs h hW => ?_)
          obtain ⟨g, h⟩ := h
          refine ziast X hW h0.2.2.2.2.2.1 g dX11_readLine_189 (fun H locs zm36 ezm36 hW => ?_)
          replace h := h zm36 ezm36
          refine lv_aload_n hx hb dX11_readLine_190 rfl (lv_at hl 0 rfl) ?_
          refine zcallv (zrunV (As := []) (rest := []) X hml hl hW h0.1 rfl zk_Model_114 (c_Model_next h0 h) rfl ⟨Nat.le_of_ble_eq_true rfl, Nat.le_of_ble_eq_true rfl⟩ ⟨Nat.le_refl 0, Nat.le_refl 0⟩ rfl (Nat.le_of_ble_eq_true rfl) dX11_readLine_191) hW (fun zm37 H locs h hW => ?_)
          refine lv_goto (tgt := 218) hx hb dX11_readLine_194 rfl ?_
          exact zJ_218  zm37 H locs ls hW (lv_sub hl [0] rfl) h
        · replace h := h.2 c
          refine lv_iconst hx hb dX11_readLine_180 zc_i5 ?_
          refine lv_goto (tgt := 186) hx hb dX11_readLine_181 rfl ?_
          refine zcalli (zrunV (As := [.int 0, .int 5]) (rest := [.int 2, .ref (zad w 5)]) X hml hl hW h0.1 rfl zk_Model_111 (c_Model_number h0 h) rfl ⟨Nat.le_of_ble_eq_true rfl, Nat.le_of_ble_eq_true rfl⟩ ⟨Nat.le_refl 0, Nat.le_refl 0⟩ rfl (Nat.le_of_ble_eq_true rfl) dX11_readLine_186) hW (fun zr40 zm39 H locs h hW => ?_)
          obtain ⟨g, h⟩ := h
          refine ziast X hW h0.2.2.2.2.2.1 g dX11_readLine_189 (fun H locs zm41 ezm41 hW => ?_)
          replace h := h zm41 ezm41
          refine lv_aload_n hx hb dX11_readLine_190 rfl (lv_at hl 0 rfl) ?_
          refine zcallv (zrunV (As := []) (rest := []) X hml hl hW h0.1 rfl zk_Model_114 (c_Model_next h0 h) rfl ⟨Nat.le_of_ble_eq_true rfl, Nat.le_of_ble_eq_true rfl⟩ ⟨Nat.le_refl 0, Nat.le_refl 0⟩ rfl (Nat.le_of_ble_eq_true rfl) dX11_readLine_191) hW (fun zm42 H locs h hW => ?_)
          refine lv_goto (tgt := 218) hx hb dX11_readLine_194 rfl ?_
          exact zJ_218  zm42 H locs ls hW (lv_sub hl [0] rfl) h
    replace h := h.2
    by_cases c6 : zx3 = 6
    · replace h := h.1 c6
      refine lv_tableIn (off := 83) (tgt := 155) hx hb dX11_readLine_72 (by rw [c6]; decide) (by rw [c6]; decide) (by rw [c6]; rfl) rfl ?_
      refine lv_aload_n hx hb dX11_readLine_155 rfl (lv_at hl 0 rfl) ?_
      refine zcallv (zrunV (As := []) (rest := []) X hml hl hW h0.1 rfl zk_Model_114 (c_Model_next h0 h) rfl ⟨Nat.le_of_ble_eq_true rfl, Nat.le_of_ble_eq_true rfl⟩ ⟨Nat.le_refl 0, Nat.le_refl 0⟩ rfl (Nat.le_of_ble_eq_true rfl) dX11_readLine_156) hW (fun zm44 H locs h hW => ?_)
      refine lv_aload_n hx hb dX11_readLine_159 rfl (lv_at hl 0 rfl) ?_
      refine zg_Model_reads X hW h0 zu_1032 dX11_readLine_160 ?_
      refine lv_iload_n hx hb dX11_readLine_163 rfl (lv_at hl 1 rfl) ?_
      refine lv_iconst hx hb dX11_readLine_164 zc_i5 ?_
      refine lv_icmp_ne (tgt := 172) hx hb dX11_readLine_165 rfl (fun c => ?_) (fun c => ?_)
      · replace h := h.1 c
        refine lv_iconst hx hb dX11_readLine_172 zc_i3 ?_
        refine lv_aload_n hx hb dX11_readLine_173 rfl (lv_at hl 0 rfl) ?_
        refine lv_iconst hx hb dX11_readLine_174 zc_i0 ?_
        refine lv_iload_n hx hb dX11_readLine_175 rfl (lv_at hl 1 rfl) ?_
        refine lv_iconst hx hb dX11_readLine_176 zc_i5 ?_
        refine lv_icmp_ne (tgt := 184) hx hb dX11_readLine_177 rfl (fun c => ?_) (fun c => ?_)
        · replace h := h.1 c
          refine lv_bipush hx hb dX11_readLine_184 zc_b99 ?_
          refine zcalli (zrunV (As := [.int 0, .int 99]) (rest := [.int 3, .ref (zad w 5)]) X hml hl hW h0.1 rfl zk_Model_111 (c_Model_number h0 h) rfl ⟨Nat.le_of_ble_eq_true rfl, Nat.le_of_ble_eq_true rfl⟩ ⟨Nat.le_refl 0, Nat.le_refl 0⟩ rfl (Nat.le_of_ble_eq_true rfl) dX11_readLine_186) hW (fun zr47 zm46 H locs h hW => ?_)
          obtain ⟨g, h⟩ := h
          refine ziast X hW h0.2.2.2.2.2.1 g dX11_readLine_189 (fun H locs zm48 ezm48 hW => ?_)
          replace h := h zm48 ezm48
          refine lv_aload_n hx hb dX11_readLine_190 rfl (lv_at hl 0 rfl) ?_
          refine zcallv (zrunV (As := []) (rest := []) X hml hl hW h0.1 rfl zk_Model_114 (c_Model_next h0 h) rfl ⟨Nat.le_of_ble_eq_true rfl, Nat.le_of_ble_eq_true rfl⟩ ⟨Nat.le_refl 0, Nat.le_refl 0⟩ rfl (Nat.le_of_ble_eq_true rfl) dX11_readLine_191) hW (fun zm49 H locs h hW => ?_)
          refine lv_goto (tgt := 218) hx hb dX11_readLine_194 rfl ?_
          exact zJ_218  zm49 H locs ls hW (lv_sub hl [0] rfl) h
        · replace h := h.2 c
          refine lv_iconst hx hb dX11_readLine_180 zc_i5 ?_
          refine lv_goto (tgt := 186) hx hb dX11_readLine_181 rfl ?_
          refine zcalli (zrunV (As := [.int 0, .int 5]) (rest := [.int 3, .ref (zad w 5)]) X hml hl hW h0.1 rfl zk_Model_111 (c_Model_number h0 h) rfl ⟨Nat.le_of_ble_eq_true rfl, Nat.le_of_ble_eq_true rfl⟩ ⟨Nat.le_refl 0, Nat.le_refl 0⟩ rfl (Nat.le_of_ble_eq_true rfl) dX11_readLine_186) hW (fun zr52 zm51 H locs h hW => ?_)
          obtain ⟨g, h⟩ := h
          refine ziast X hW h0.2.2.2.2.2.1 g dX11_readLine_189 (fun H locs zm53 ezm53 hW => ?_)
          replace h := h zm53 ezm53
          refine lv_aload_n hx hb dX11_readLine_190 rfl (lv_at hl 0 rfl) ?_
          refine zcallv (zrunV (As := []) (rest := []) X hml hl hW h0.1 rfl zk_Model_114 (c_Model_next h0 h) rfl ⟨Nat.le_of_ble_eq_true rfl, Nat.le_of_ble_eq_true rfl⟩ ⟨Nat.le_refl 0, Nat.le_refl 0⟩ rfl (Nat.le_of_ble_eq_true rfl) dX11_readLine_191) hW (fun zm54 H locs h hW => ?_)
          refine lv_goto (tgt := 218) hx hb dX11_readLine_194 rfl ?_
          exact zJ_218  zm54 H locs ls hW (lv_sub hl [0] rfl) h
      · replace h := h.2 c
        refine lv_iconst hx hb dX11_readLine_168 zc_i2 ?_
        refine lv_goto (tgt := 173) hx hb dX11_readLine_169 rfl ?_
        refine lv_aload_n hx hb dX11_readLine_173 rfl (lv_at hl 0 rfl) ?_
        refine lv_iconst hx hb dX11_readLine_174 zc_i0 ?_
        refine lv_iload_n hx hb dX11_readLine_175 rfl (lv_at hl 1 rfl) ?_
        refine lv_iconst hx hb dX11_readLine_176 zc_i5 ?_
        refine lv_icmp_ne (tgt := 184) hx hb dX11_readLine_177 rfl (fun c => ?_) (fun c => ?_)
        · replace h := h.1 c
          refine lv_bipush hx hb dX11_readLine_184 zc_b99 ?_
          refine zcalli (zrunV (As := [.int 0, .int 99]) (rest := [.int 2, .ref (zad w 5)]) X hml hl hW h0.1 rfl zk_Model_111 (c_Model_number h0 h) rfl ⟨Nat.le_of_ble_eq_true rfl, Nat.le_of_ble_eq_true rfl⟩ ⟨Nat.le_refl 0, Nat.le_refl 0⟩ rfl (Nat.le_of_ble_eq_true rfl) dX11_readLine_186) hW (fun zr57 zm56 H locs h hW => ?_)
          obtain ⟨g, h⟩ := h
          refine ziast X hW h0.2.2.2.2.2.1 g dX11_readLine_189 (fun H locs zm58 ezm58 hW => ?_)
          replace h := h zm58 ezm58
          refine lv_aload_n hx hb dX11_readLine_190 rfl (lv_at hl 0 rfl) ?_
          refine zcallv (zrunV (As := []) (rest := []) X hml hl hW h0.1 rfl zk_Model_114 (c_Model_next h0 h) rfl ⟨Nat.le_of_ble_eq_true rfl, Nat.le_of_ble_eq_true rfl⟩ ⟨Nat.le_refl 0, Nat.le_refl 0⟩ rfl (Nat.le_of_ble_eq_true rfl) dX11_readLine_191) hW (fun zm59 H locs h hW => ?_)
          refine lv_goto (tgt := 218) hx hb dX11_readLine_194 rfl ?_
          exact zJ_218  zm59 H locs ls hW (lv_sub hl [0] rfl) h
        · replace h := h.2 c
          refine lv_iconst hx hb dX11_readLine_180 zc_i5 ?_
          refine lv_goto (tgt := 186) hx hb dX11_readLine_181 rfl ?_
          refine zcalli (zrunV (As := [.int 0, .int 5]) (rest := [.int 2, .ref (zad w 5)]) X hml hl hW h0.1 rfl zk_Model_111 (c_Model_number h0 h) rfl ⟨Nat.le_of_ble_eq_true rfl, Nat.le_of_ble_eq_true rfl⟩ ⟨Nat.le_refl 0, Nat.le_refl 0⟩ rfl (Nat.le_of_ble_eq_true rfl) dX11_readLine_186) hW (fun zr62 zm61 H locs h hW => ?_)
          obtain ⟨g, h⟩ := h
          refine ziast X hW h0.2.2.2.2.2.1 g dX11_readLine_189 (fun H locs zm63 ezm63 hW => ?_)
          replace h := h zm63 ezm63
          refine lv_aload_n hx hb dX11_readLine_190 rfl (lv_at hl 0 rfl) ?_
          refine zcallv (zrunV (As := []) (rest := []) X hml hl hW h0.1 rfl zk_Model_114 (c_Model_next h0 h) rfl ⟨Nat.le_of_ble_eq_true rfl, Nat.le_of_ble_eq_true rfl⟩ ⟨Nat.le_refl 0, Nat.le_refl 0⟩ rfl (Nat.le_of_ble_eq_true rfl) dX11_readLine_191) hW (fun zm64 H locs h hW => ?_)
          refine lv_goto (tgt := 218) hx hb dX11_readLine_194 rfl ?_
          exact zJ_218  zm64 H locs ls hW (lv_sub hl [0] rfl) h
    replace h := h.2
    by_cases c7 : zx3 = 7
    · replace h := h.1 c7
      refine lv_tableIn (off := 125) (tgt := 197) hx hb dX11_readLine_72 (by rw [c7]; decide) (by rw [c7]; decide) (by rw [c7]; rfl) rfl ?_
      refine lv_aload_n hx hb dX11_readLine_197 rfl (lv_at hl 0 rfl) ?_
      refine zcallv (zrunV (As := []) (rest := []) X hml hl hW h0.1 rfl zk_Model_114 (c_Model_next h0 h) rfl ⟨Nat.le_of_ble_eq_true rfl, Nat.le_of_ble_eq_true rfl⟩ ⟨Nat.le_refl 0, Nat.le_refl 0⟩ rfl (Nat.le_of_ble_eq_true rfl) dX11_readLine_198) hW (fun zm66 H locs h hW => ?_)
      refine lv_goto (tgt := 218) hx hb dX11_readLine_201 rfl ?_
      exact zJ_218  zm66 H locs ls hW (lv_sub hl [0] rfl) h
    replace h := h.2
    replace h := h c0 c1 c2 c3 c4 c5 c6 c7
    refine lv_tableOut (tgt := 204) hx hb dX11_readLine_72 (zsw 7 (Nat.le_of_ble_eq_true rfl) (fun j hj => ?_)) rfl ?_
    · rcases (show j = 0 ∨ j = 1 ∨ j = 2 ∨ j = 3 ∨ j = 4 ∨ j = 5 ∨ j = 6 ∨ j = 7 by omega) with rfl | rfl | rfl | rfl | rfl | rfl | rfl | rfl
      · exact c0
      · exact c1
      · exact c2
      · exact c3
      · exact c4
      · exact c5
      · exact c6
      · exact c7
    refine lv_aload_n hx hb dX11_readLine_204 rfl (lv_at hl 0 rfl) ?_
    refine zg_Model_reads X hW h0 zu_1032 dX11_readLine_205 ?_
    refine lv_iconst hx hb dX11_readLine_208 zc_i4 ?_
    refine lv_iload_n hx hb dX11_readLine_209 rfl (lv_at hl 1 rfl) ?_
    refine lv_bipush hx hb dX11_readLine_210 zc_b7 ?_
    refine lv_isub hx hb dX11_readLine_212 ?_
    obtain ⟨g, h⟩ := h
    refine ziast X hW h0.2.2.2.2.2.1 g dX11_readLine_213 (fun H locs zm68 ezm68 hW => ?_)
    replace h := h zm68 ezm68
    refine lv_aload_n hx hb dX11_readLine_214 rfl (lv_at hl 0 rfl) ?_
    refine zcallv (zrunV (As := []) (rest := []) X hml hl hW h0.1 rfl zk_Model_146 (c_Model_readEnds h0 h) rfl ⟨Nat.le_of_ble_eq_true rfl, Nat.le_of_ble_eq_true rfl⟩ ⟨Nat.le_refl 0, Nat.le_refl 0⟩ rfl (Nat.le_of_ble_eq_true rfl) dX11_readLine_215) hW (fun zm69 H locs h hW => ?_)
    exact zJ_218  zm69 H locs ls hW (lv_sub hl [0] rfl) h
  have zJ_59 : ∀ (x_1 : Int32) (x_2 : Int32) (M : zMem) (H : Heap) (locs : List Loc) (ls : Array Slot), zWo w s.heap M H locs → lv_has ls 3 [(0, .ref (zad w 0)), (1, .int x_1), (2, .int x_2)] → wpJ_Model_readLine_59  post x_1 x_2 M → W p l e (zRm 5 113) s m ([.ref (zad w 0)] : List Value).toArray below meth c H locs 0 0 (MQ below (va_Qv post (zB w) (zA w)) ([.ref (zad w 0)] : List Value).toArray s 0 0 (zA w)) (F0 m 59 ls []) := by
    intro x_1 x_2 M H locs ls hW hl h
    unfold wpJ_Model_readLine_59 at h
    refine lv_aload_n hx hb dX11_readLine_59 rfl (lv_at hl 0 rfl) ?_
    refine lv_dup hx hb dX11_readLine_60 rfl ?_
    refine zg_Model_toldOnes X hW h0 zu_1033 dX11_readLine_61 ?_
    refine lv_iconst hx hb dX11_readLine_64 zc_i1 ?_
    refine lv_iload_n hx hb dX11_readLine_65 rfl (lv_at hl 2 rfl) ?_
    refine lv_ishl hx hb dX11_readLine_66 ?_
    refine lv_ior hx hb dX11_readLine_67 ?_
    refine zp_Model_toldOnes X hW h0 zu_1033 dX11_readLine_68 (fun H locs zm2 ezm2 hW => ?_)
    replace h := h zm2 ezm2
    exact zJ_71 x_1 zm2 H locs ls hW (lv_sub hl [0, 1] rfl) h
  have zJ_42 : ∀ (x_1 : Int32) (x_2 : Int32) (M : zMem) (H : Heap) (locs : List Loc) (ls : Array Slot), zWo w s.heap M H locs → lv_has ls 3 [(0, .ref (zad w 0)), (1, .int x_1), (2, .int x_2)] → wpJ_Model_readLine_42  post x_1 x_2 M → W p l e (zRm 5 113) s m ([.ref (zad w 0)] : List Value).toArray below meth c H locs 0 0 (MQ below (va_Qv post (zB w) (zA w)) ([.ref (zad w 0)] : List Value).toArray s 0 0 (zA w)) (F0 m 42 ls []) := by
    intro x_1 x_2 M H locs ls hW hl h
    unfold wpJ_Model_readLine_42 at h
    refine lv_aload_n hx hb dX11_readLine_42 rfl (lv_at hl 0 rfl) ?_
    refine zg_Model_toldOnes X hW h0 zu_1033 dX11_readLine_43 ?_
    refine lv_iload_n hx hb dX11_readLine_46 rfl (lv_at hl 2 rfl) ?_
    refine lv_ishr hx hb dX11_readLine_47 ?_
    refine lv_iconst hx hb dX11_readLine_48 zc_i1 ?_
    refine lv_iand hx hb dX11_readLine_49 ?_
    refine lv_iconst hx hb dX11_readLine_50 zc_i1 ?_
    refine lv_icmp_ne (tgt := 59) hx hb dX11_readLine_51 rfl (fun c => ?_) (fun c => ?_)
    · replace h := h.1 c
      exact zJ_59 x_1 x_2 M H locs ls hW (lv_sub hl [0, 1, 2] rfl) h
    · replace h := h.2 c
      refine lv_aload_n hx hb dX11_readLine_54 rfl (lv_at hl 0 rfl) ?_
      refine lv_iconst hx hb dX11_readLine_55 zc_i4 ?_
      refine zcallv (zrunV (As := [.int 4]) (rest := []) X hml hl hW h0.1 rfl zk_Model_103 (c_Model_fails h0 h) rfl ⟨Nat.le_of_ble_eq_true rfl, Nat.le_of_ble_eq_true rfl⟩ ⟨Nat.le_refl 0, Nat.le_refl 0⟩ rfl (Nat.le_of_ble_eq_true rfl) dX11_readLine_56) hW (fun zm71 H locs h hW => ?_)
      exact zJ_59 x_1 x_2 zm71 H locs ls hW (lv_sub hl [0, 1, 2] rfl) h
  have zJ_31 : ∀ (x_1 : Int32) (s_0 : Int32) (M : zMem) (H : Heap) (locs : List Loc) (ls : Array Slot), zWo w s.heap M H locs → lv_has ls 3 [(0, .ref (zad w 0)), (1, .int x_1)] → wpJ_Model_readLine_31  post x_1 s_0 M → W p l e (zRm 5 113) s m ([.ref (zad w 0)] : List Value).toArray below meth c H locs 0 0 (MQ below (va_Qv post (zB w) (zA w)) ([.ref (zad w 0)] : List Value).toArray s 0 0 (zA w)) (F0 m 31 ls [.int s_0]) := by
    intro x_1 s_0 M H locs ls hW hl h
    unfold wpJ_Model_readLine_31 at h
    refine lv_istore_n (lv' := [(2, .int s_0), (0, .ref (zad w 0)), (1, .int x_1)]) hx hb dX11_readLine_31 rfl hl (Nat.le_of_ble_eq_true rfl) rfl (fun ls hl => ?_)
    refine lv_iload_n hx hb dX11_readLine_32 rfl (lv_at hl 0 rfl) ?_
    refine lv_iconst hx hb dX11_readLine_33 zc_i3 ?_
    refine lv_icmp_eq (tgt := 42) hx hb dX11_readLine_34 rfl (fun c => ?_) (fun c => ?_)
    · replace h := h.1 c
      exact zJ_42 x_1 s_0 M H locs ls hW (lv_sub hl [1, 2, 0] rfl) h
    · replace h := h.2 c
      refine lv_iload_n hx hb dX11_readLine_37 rfl (lv_at hl 0 rfl) ?_
      refine lv_iconst hx hb dX11_readLine_38 zc_i4 ?_
      refine lv_icmp_le (tgt := 71) hx hb dX11_readLine_39 rfl (fun c => ?_) (fun c => ?_)
      · replace h := h.1 c
        exact zJ_71 x_1 M H locs ls hW (lv_sub hl [1, 2] rfl) h
      · replace h := h.2 c
        exact zJ_42 x_1 s_0 M H locs ls hW (lv_sub hl [1, 2, 0] rfl) h
  unfold wp_Model_readLine at h
  have zMain : ∀ (H : Heap) (locs : List Loc) (ls : Array Slot), zWo w s.heap M H locs → lv_has ls 3 [(0, .ref (zad w 0))] → W p l e (zRm 5 113) s m ([.ref (zad w 0)] : List Value).toArray below meth c H locs 0 0 (MQ below (va_Qv post (zB w) (zA w)) ([.ref (zad w 0)] : List Value).toArray s 0 0 (zA w)) (F0 m 0 ls []) := by
    intro H locs ls hW hl
    refine lv_aload_n hx hb dX11_readLine_0 rfl (lv_at hl 0 rfl) ?_
    refine zg_Model_value X hW h0 zu_1028 dX11_readLine_1 ?_
    refine lv_topi (fun zx1 ezx1 => ?_)
    replace h := h zx1 ezx1
    refine lv_istore_n (lv' := [(1, .int zx1), (0, .ref (zad w 0))]) hx hb dX11_readLine_4 rfl hl (Nat.le_of_ble_eq_true rfl) rfl (fun ls hl => ?_)
    refine lv_aload_n hx hb dX11_readLine_5 rfl (lv_at hl 1 rfl) ?_
    refine zg_Model_token X hW h0 zu_1027 dX11_readLine_6 ?_
    refine lv_iconst hx hb dX11_readLine_9 zc_i1 ?_
    refine lv_icmp_eq (tgt := 19) hx hb dX11_readLine_10 rfl (fun c => ?_) (fun c => ?_)
    · replace h := h.1 c
      refine lv_iload_n hx hb dX11_readLine_19 rfl (lv_at hl 0 rfl) ?_
      refine lv_bipush hx hb dX11_readLine_20 zc_b7 ?_
      refine lv_icmp_le (tgt := 30) hx hb dX11_readLine_22 rfl (fun c => ?_) (fun c => ?_)
      · replace h := h.1 c
        refine lv_iload_n hx hb dX11_readLine_30 rfl (lv_at hl 0 rfl) ?_
        exact zJ_31 zx1 zx1 M H locs ls hW (lv_sub hl [1, 0] rfl) h
      · replace h := h.2 c
        refine lv_bipush hx hb dX11_readLine_25 zc_b7 ?_
        refine lv_goto (tgt := 31) hx hb dX11_readLine_27 rfl ?_
        exact zJ_31 zx1 7 M H locs ls hW (lv_sub hl [1, 0] rfl) h
    · replace h := h.2 c
      refine lv_aload_n hx hb dX11_readLine_13 rfl (lv_at hl 1 rfl) ?_
      refine lv_iconst hx hb dX11_readLine_14 zc_i2 ?_
      refine zcallv (zrunV (As := [.int 2]) (rest := []) X hml hl hW h0.1 rfl zk_Model_103 (c_Model_fails h0 h) rfl ⟨Nat.le_of_ble_eq_true rfl, Nat.le_of_ble_eq_true rfl⟩ ⟨Nat.le_refl 0, Nat.le_refl 0⟩ rfl (Nat.le_of_ble_eq_true rfl) dX11_readLine_15) hW (fun zm73 H locs h hW => ?_)
      exact zretv X hr hlk hW h dX11_readLine_18
  exact zMain s.heap [] ls hW hl
def wpJ_Model_wholeFault_80  (K103 : Int32 → zMem → Prop) (J : Int32 → Int32 → zMem → Prop) (Q : Int32 → zMem → Prop) (x_1 : Int32) (x_2 : Int32) (x_3 : Int32)  (M : zMem) : Prop :=
  vp_in ((30 + (8 * x_1)) + x_3) 100 ∧ ∀ zx1 : Int32, zx1 = x_2 + (M 5 (ix ((30 + (8 * x_1)) + x_3))) → ∀ zx2 : Int32, zx2 = x_3 + 1 → J zx1 zx2 M
def wpB_Model_wholeFault_32  (x_1 : Int32) (K103 : Int32 → zMem → Prop) (Q : Int32 → zMem → Prop) (J : Int32 → Int32 → zMem → Prop) (x_2 : Int32) (x_3 : Int32) (M : zMem) : Prop :=
  vp_in 0 100 ∧ ((M 5 (ix 0)) ≤ x_3 → K103 x_2 M) ∧ (¬ (M 5 (ix 0)) ≤ x_3 → (x_1 ≤ 0 → wpJ_Model_wholeFault_80  K103 J Q x_1 x_2 x_3 M) ∧ (¬ x_1 ≤ 0 → (¬ (((M 0 14) >>> (x_1 &&& 31)) &&& 1) = 0 → wpJ_Model_wholeFault_80  K103 J Q x_1 x_2 x_3 M) ∧ ((((M 0 14) >>> (x_1 &&& 31)) &&& 1) = 0 → vp_in (30 + x_3) 100 ∧ vp_in ((30 + (8 * x_1)) + x_3) 100 ∧ ∀ zm3 : zMem, zm3 = zup M 5 (ix ((30 + (8 * x_1)) + x_3)) (M 5 (ix (30 + x_3))) → wpJ_Model_wholeFault_80  K103 J Q x_1 x_2 x_3 zm3)))
def wpB_Model_wholeFault_23    (Q : Int32 → zMem → Prop) (J : Int32 → zMem → Prop) (x_1 : Int32) (M : zMem) : Prop :=
  (3 ≤ x_1 → Q 0 M) ∧ (¬ 3 ≤ x_1 → ∃ n : Nat, zlp2 (wpB_Model_wholeFault_32  x_1 (fun (zx5 : Int32) (zm4 : zMem) => (¬ zx5 = 0 → ∀ zx6 : Int32, zx6 = x_1 + 1 → J zx6 zm4) ∧ (zx5 = 0 → Q 7 zm4)) Q) n 0 0 M)
def wp_Model_wholeFault  (M : zMem) (Q : Int32 → zMem → Prop) : Prop :=
  vp_in 0 100 ∧ ((M 5 (ix 0)) = 0 → Q 6 M) ∧ (¬ (M 5 (ix 0)) = 0 → vp_in 1 100 ∧ (¬ (M 5 (ix 1)) = 0 → ∃ n : Nat, zlp1 (wpB_Model_wholeFault_23    Q) n 0 M) ∧ ((M 5 (ix 1)) = 0 → Q 6 M))
set_option maxHeartbeats 4000000 in
set_option maxRecDepth 20000 in
theorem c_Model_wholeFault {l : Launch} {w : zWd} {M : zMem} {post : Int32 → zMem → Prop} (h0 : zI_Model w) (h : wp_Model_wholeFault  M post) : zMi l ⟨"HandToHandModel", "wholeFault", "()I"⟩ prog_13_method_19_code 4 (Option.some .int) 0 0 w [.ref (zad w 0)] M post := by
  refine zMet (by decide) (Nat.le_of_ble_eq_true rfl) ?_
  intro p e s m below meth c X hr hlk hml hW ls hl
  have hx := X.1
  have hb := X.2.1
  have hl : lv_has ls 4 [(0, .ref (zad w 0))] := hl
  have zJ_80 : ∀ (x_1 : Int32) (x_2 : Int32) (x_3 : Int32) (K103 : Int32 → zMem → Prop) (zK103 : ∀ (y_2 : Int32) (M : zMem) (H : Heap) (locs : List Loc) (ls : Array Slot), zWo w s.heap M H locs → lv_has ls 4 [(0, .ref (zad w 0)), (1, .int x_1), (2, .int y_2)] → K103 y_2 M → W p l e (zRm 0 0) s m ([.ref (zad w 0)] : List Value).toArray below meth c H locs 0 0 (MQ below (va_Qi post (zB w) (zA w)) ([.ref (zad w 0)] : List Value).toArray s 0 0 (zA w)) (F0 m 103 ls [])) (J : Int32 → Int32 → zMem → Prop) (zJ : ∀ (y_2 : Int32) (y_3 : Int32) (M : zMem) (H : Heap) (locs : List Loc) (ls : Array Slot), zWo w s.heap M H locs → lv_has ls 4 [(0, .ref (zad w 0)), (1, .int x_1), (2, .int y_2), (3, .int y_3)] → J y_2 y_3 M → W p l e (zRm 0 0) s m ([.ref (zad w 0)] : List Value).toArray below meth c H locs 0 0 (MQ below (va_Qi post (zB w) (zA w)) ([.ref (zad w 0)] : List Value).toArray s 0 0 (zA w)) (F0 m 32 ls [])) (M : zMem) (H : Heap) (locs : List Loc) (ls : Array Slot), zWo w s.heap M H locs → lv_has ls 4 [(0, .ref (zad w 0)), (1, .int x_1), (2, .int x_2), (3, .int x_3)] → wpJ_Model_wholeFault_80  K103 J post x_1 x_2 x_3 M → W p l e (zRm 0 0) s m ([.ref (zad w 0)] : List Value).toArray below meth c H locs 0 0 (MQ below (va_Qi post (zB w) (zA w)) ([.ref (zad w 0)] : List Value).toArray s 0 0 (zA w)) (F0 m 80 ls []) := by
    intro x_1 x_2 x_3 K103 zK103 J zJ M H locs ls hW hl h
    unfold wpJ_Model_wholeFault_80 at h
    refine lv_iload_n hx hb dX11_wholeFault_80 rfl (lv_at hl 2 rfl) ?_
    refine lv_aload_n hx hb dX11_wholeFault_81 rfl (lv_at hl 0 rfl) ?_
    refine zg_Model_reads X hW h0 zu_1032 dX11_wholeFault_82 ?_
    refine lv_bipush hx hb dX11_wholeFault_85 zc_b30 ?_
    refine lv_bipush hx hb dX11_wholeFault_87 zc_b8 ?_
    refine lv_iload_n hx hb dX11_wholeFault_89 rfl (lv_at hl 1 rfl) ?_
    refine lv_imul hx hb dX11_wholeFault_90 ?_
    refine lv_iadd hx hb dX11_wholeFault_91 ?_
    refine lv_iload_n hx hb dX11_wholeFault_92 rfl (lv_at hl 3 rfl) ?_
    refine lv_iadd hx hb dX11_wholeFault_93 ?_
    obtain ⟨g, h⟩ := h
    refine ziald X hW h0.2.2.2.2.2.1 g dX11_wholeFault_94 ?_
    refine lv_iadd hx hb dX11_wholeFault_95 ?_
    refine lv_topi (fun zx1 ezx1 => ?_)
    replace h := h zx1 ezx1
    refine lv_istore_n (lv' := [(2, .int zx1), (0, .ref (zad w 0)), (1, .int x_1), (3, .int x_3)]) hx hb dX11_wholeFault_96 rfl hl (Nat.le_of_ble_eq_true rfl) rfl (fun ls hl => ?_)
    obtain ⟨zx2, ezx2⟩ : ∃ y : Int32, y = x_3 + 1 := ⟨_, rfl⟩
    replace h := h zx2 ezx2
    refine lv_iinc (v := zx2) (lv' := [(3, .int zx2), (2, .int zx1), (0, .ref (zad w 0)), (1, .int x_1)]) hx hb dX11_wholeFault_97 hl (k := 3) rfl (by rw [ezx2, zc_i1]) (Nat.le_of_ble_eq_true rfl) rfl (fun ls hl => ?_)
    refine lv_goto (tgt := 32) hx hb dX11_wholeFault_100 rfl ?_
    exact zJ zx1 zx2 M H locs ls hW (lv_sub hl [2, 3, 1, 0] rfl) h
  have zL_32 : ∀ (x_1 : Int32) (K103 : Int32 → zMem → Prop) (zK103 : ∀ (y_2 : Int32) (M : zMem) (H : Heap) (locs : List Loc) (ls : Array Slot), zWo w s.heap M H locs → lv_has ls 4 [(0, .ref (zad w 0)), (1, .int x_1), (2, .int y_2)] → K103 y_2 M → W p l e (zRm 0 0) s m ([.ref (zad w 0)] : List Value).toArray below meth c H locs 0 0 (MQ below (va_Qi post (zB w) (zA w)) ([.ref (zad w 0)] : List Value).toArray s 0 0 (zA w)) (F0 m 103 ls [])), ∀ (n : Nat) (x_2 : Int32) (x_3 : Int32) (M : zMem) (H : Heap) (locs : List Loc) (ls : Array Slot), zWo w s.heap M H locs → lv_has ls 4 [(0, .ref (zad w 0)), (1, .int x_1), (2, .int x_2), (3, .int x_3)] → zlp2 (wpB_Model_wholeFault_32  x_1 K103 post) n x_2 x_3 M → W p l e (zRm 0 0) s m ([.ref (zad w 0)] : List Value).toArray below meth c H locs 0 0 (MQ below (va_Qi post (zB w) (zA w)) ([.ref (zad w 0)] : List Value).toArray s 0 0 (zA w)) (F0 m 32 ls []) := by
    intro x_1 K103 zK103 n
    induction n with
    | zero => intro x_2 x_3 M H locs ls hW hl h; exact h.elim
    | succ n zJ =>
      intro x_2 x_3 M H locs ls hW hl h
      have h : wpB_Model_wholeFault_32  x_1 K103 post (zlp2 (wpB_Model_wholeFault_32  x_1 K103 post) n) x_2 x_3 M := h
      unfold wpB_Model_wholeFault_32 at h
      refine lv_iload_n hx hb dX11_wholeFault_32 rfl (lv_at hl 3 rfl) ?_
      refine lv_aload_n hx hb dX11_wholeFault_33 rfl (lv_at hl 0 rfl) ?_
      refine zg_Model_reads X hW h0 zu_1032 dX11_wholeFault_34 ?_
      refine lv_iconst hx hb dX11_wholeFault_37 zc_i0 ?_
      obtain ⟨g, h⟩ := h
      refine ziald X hW h0.2.2.2.2.2.1 g dX11_wholeFault_38 ?_
      refine lv_icmp_ge (tgt := 103) hx hb dX11_wholeFault_39 rfl (fun c => ?_) (fun c => ?_)
      · replace h := h.1 c
        exact zK103 x_2 M H locs ls hW (lv_sub hl [0, 1, 2] rfl) h
      · replace h := h.2 c
        refine lv_iload_n hx hb dX11_wholeFault_42 rfl (lv_at hl 1 rfl) ?_
        refine lv_if_le (tgt := 80) hx hb dX11_wholeFault_43 rfl (fun c => ?_) (fun c => ?_)
        · replace h := h.1 c
          exact zJ_80 x_1 x_2 x_3 _ zK103 _ zJ M H locs ls hW (lv_sub hl [0, 1, 2, 3] rfl) h
        · replace h := h.2 c
          refine lv_aload_n hx hb dX11_wholeFault_46 rfl (lv_at hl 0 rfl) ?_
          refine zg_Model_toldSorts X hW h0 zu_1034 dX11_wholeFault_47 ?_
          refine lv_iload_n hx hb dX11_wholeFault_50 rfl (lv_at hl 1 rfl) ?_
          refine lv_ishr hx hb dX11_wholeFault_51 ?_
          refine lv_iconst hx hb dX11_wholeFault_52 zc_i1 ?_
          refine lv_iand hx hb dX11_wholeFault_53 ?_
          refine lv_if_ne (tgt := 80) hx hb dX11_wholeFault_54 rfl (fun c => ?_) (fun c => ?_)
          · replace h := h.1 c
            exact zJ_80 x_1 x_2 x_3 _ zK103 _ zJ M H locs ls hW (lv_sub hl [0, 1, 2, 3] rfl) h
          · replace h := h.2 c
            refine lv_aload_n hx hb dX11_wholeFault_57 rfl (lv_at hl 0 rfl) ?_
            refine zg_Model_reads X hW h0 zu_1032 dX11_wholeFault_58 ?_
            refine lv_bipush hx hb dX11_wholeFault_61 zc_b30 ?_
            refine lv_bipush hx hb dX11_wholeFault_63 zc_b8 ?_
            refine lv_iload_n hx hb dX11_wholeFault_65 rfl (lv_at hl 1 rfl) ?_
            refine lv_imul hx hb dX11_wholeFault_66 ?_
            refine lv_iadd hx hb dX11_wholeFault_67 ?_
            refine lv_iload_n hx hb dX11_wholeFault_68 rfl (lv_at hl 3 rfl) ?_
            refine lv_iadd hx hb dX11_wholeFault_69 ?_
            refine lv_aload_n hx hb dX11_wholeFault_70 rfl (lv_at hl 0 rfl) ?_
            refine zg_Model_reads X hW h0 zu_1032 dX11_wholeFault_71 ?_
            refine lv_bipush hx hb dX11_wholeFault_74 zc_b30 ?_
            refine lv_iload_n hx hb dX11_wholeFault_76 rfl (lv_at hl 3 rfl) ?_
            refine lv_iadd hx hb dX11_wholeFault_77 ?_
            obtain ⟨g, h⟩ := h
            refine ziald X hW h0.2.2.2.2.2.1 g dX11_wholeFault_78 ?_
            obtain ⟨g, h⟩ := h
            refine ziast X hW h0.2.2.2.2.2.1 g dX11_wholeFault_79 (fun H locs zm3 ezm3 hW => ?_)
            replace h := h zm3 ezm3
            exact zJ_80 x_1 x_2 x_3 _ zK103 _ zJ zm3 H locs ls hW (lv_sub hl [0, 1, 2, 3] rfl) h
  have zL_23 :  ∀ (n : Nat) (x_1 : Int32) (M : zMem) (H : Heap) (locs : List Loc) (ls : Array Slot), zWo w s.heap M H locs → lv_has ls 4 [(0, .ref (zad w 0)), (1, .int x_1)] → zlp1 (wpB_Model_wholeFault_23    post) n x_1 M → W p l e (zRm 0 0) s m ([.ref (zad w 0)] : List Value).toArray below meth c H locs 0 0 (MQ below (va_Qi post (zB w) (zA w)) ([.ref (zad w 0)] : List Value).toArray s 0 0 (zA w)) (F0 m 23 ls []) := by
    intro n
    induction n with
    | zero => intro x_1 M H locs ls hW hl h; exact h.elim
    | succ n zJ =>
      intro x_1 M H locs ls hW hl h
      have h : wpB_Model_wholeFault_23    post (zlp1 (wpB_Model_wholeFault_23    post) n) x_1 M := h
      unfold wpB_Model_wholeFault_23 at h
      refine lv_iload_n hx hb dX11_wholeFault_23 rfl (lv_at hl 1 rfl) ?_
      refine lv_iconst hx hb dX11_wholeFault_24 zc_i3 ?_
      refine lv_icmp_ge (tgt := 116) hx hb dX11_wholeFault_25 rfl (fun c => ?_) (fun c => ?_)
      · replace h := h.1 c
        refine lv_iconst hx hb dX11_wholeFault_116 zc_i0 ?_
        exact zreti X hr hlk hW h dX11_wholeFault_117
      · replace h := h.2 c
        refine lv_iconst hx hb dX11_wholeFault_28 zc_i0 ?_
        refine lv_istore_n (lv' := [(2, .int 0), (0, .ref (zad w 0)), (1, .int x_1)]) hx hb dX11_wholeFault_29 rfl hl (Nat.le_of_ble_eq_true rfl) rfl (fun ls hl => ?_)
        refine lv_iconst hx hb dX11_wholeFault_30 zc_i0 ?_
        refine lv_istore_n (lv' := [(3, .int 0), (2, .int 0), (0, .ref (zad w 0)), (1, .int x_1)]) hx hb dX11_wholeFault_31 rfl hl (Nat.le_of_ble_eq_true rfl) rfl (fun ls hl => ?_)
        obtain ⟨n, h⟩ := h
        refine zL_32 x_1 _ (fun zx5 zm4 H locs ls hW hl h => ?_) n 0 0 M H locs ls hW (lv_sub hl [2, 3, 1, 0] rfl) h
        · skip
          refine lv_iload_n hx hb dX11_wholeFault_103 rfl (lv_at hl 2 rfl) ?_
          refine lv_if_ne (tgt := 110) hx hb dX11_wholeFault_104 rfl (fun c => ?_) (fun c => ?_)
          · replace h := h.1 c
            obtain ⟨zx6, ezx6⟩ : ∃ y : Int32, y = x_1 + 1 := ⟨_, rfl⟩
            replace h := h zx6 ezx6
            refine lv_iinc (v := zx6) (lv' := [(1, .int zx6), (0, .ref (zad w 0)), (2, .int zx5)]) hx hb dX11_wholeFault_110 hl (k := 1) rfl (by rw [ezx6, zc_i1]) (Nat.le_of_ble_eq_true rfl) rfl (fun ls hl => ?_)
            refine lv_goto (tgt := 23) hx hb dX11_wholeFault_113 rfl ?_
            exact zJ zx6 zm4 H locs ls hW (lv_sub hl [1, 0] rfl) h
          · replace h := h.2 c
            refine lv_bipush hx hb dX11_wholeFault_107 zc_b7 ?_
            exact zreti X hr hlk hW h dX11_wholeFault_109
  unfold wp_Model_wholeFault at h
  have zMain : ∀ (H : Heap) (locs : List Loc) (ls : Array Slot), zWo w s.heap M H locs → lv_has ls 4 [(0, .ref (zad w 0))] → W p l e (zRm 0 0) s m ([.ref (zad w 0)] : List Value).toArray below meth c H locs 0 0 (MQ below (va_Qi post (zB w) (zA w)) ([.ref (zad w 0)] : List Value).toArray s 0 0 (zA w)) (F0 m 0 ls []) := by
    intro H locs ls hW hl
    refine lv_aload_n hx hb dX11_wholeFault_0 rfl (lv_at hl 0 rfl) ?_
    refine zg_Model_reads X hW h0 zu_1032 dX11_wholeFault_1 ?_
    refine lv_iconst hx hb dX11_wholeFault_4 zc_i0 ?_
    obtain ⟨g, h⟩ := h
    refine ziald X hW h0.2.2.2.2.2.1 g dX11_wholeFault_5 ?_
    refine lv_if_eq (tgt := 18) hx hb dX11_wholeFault_6 rfl (fun c => ?_) (fun c => ?_)
    · replace h := h.1 c
      refine lv_bipush hx hb dX11_wholeFault_18 zc_b6 ?_
      exact zreti X hr hlk hW h dX11_wholeFault_20
    · replace h := h.2 c
      refine lv_aload_n hx hb dX11_wholeFault_9 rfl (lv_at hl 0 rfl) ?_
      refine zg_Model_reads X hW h0 zu_1032 dX11_wholeFault_10 ?_
      refine lv_iconst hx hb dX11_wholeFault_13 zc_i1 ?_
      obtain ⟨g, h⟩ := h
      refine ziald X hW h0.2.2.2.2.2.1 g dX11_wholeFault_14 ?_
      refine lv_if_ne (tgt := 21) hx hb dX11_wholeFault_15 rfl (fun c => ?_) (fun c => ?_)
      · replace h := h.1 c
        refine lv_iconst hx hb dX11_wholeFault_21 zc_i0 ?_
        refine lv_istore_n (lv' := [(1, .int 0), (0, .ref (zad w 0))]) hx hb dX11_wholeFault_22 rfl hl (Nat.le_of_ble_eq_true rfl) rfl (fun ls hl => ?_)
        obtain ⟨n, h⟩ := h
        refine zL_23   n 0 M H locs ls hW (lv_sub hl [1, 0] rfl) h
      · replace h := h.2 c
        refine lv_bipush hx hb dX11_wholeFault_18 zc_b6 ?_
        exact zreti X hr hlk hW h dX11_wholeFault_20
  exact zMain s.heap [] ls hW hl
def wpB_Model_clear_2 (a1 : Int32)   (Q : zMem → Prop) (J : Int32 → zMem → Prop) (x_2 : Int32) (M : zMem) : Prop :=
  (96 ≤ x_2 → Q M) ∧ (¬ 96 ≤ x_2 → vp_in ((96 * a1) + x_2) 384 ∧ ∀ zm1 : zMem, zm1 = zup M 6 (ix ((96 * a1) + x_2)) 0 → ∀ zx2 : Int32, zx2 = x_2 + 1 → J zx2 zm1)
def wp_Model_clear (a1 : Int32) (M : zMem) (Q : zMem → Prop) : Prop :=
  ∃ n : Nat, zlp1 (wpB_Model_clear_2 a1   Q) n 0 M
set_option maxHeartbeats 4000000 in
set_option maxRecDepth 20000 in
theorem c_Model_clear {l : Launch} {w : zWd} {a1 : Int32} {M : zMem} {post : zMem → Prop} (h0 : zI_Model w) (h : wp_Model_clear a1 M post) : zMv l ⟨"HandToHandModel", "clear", "(I)V"⟩ prog_13_method_29_code 3 none 0 0 w [.ref (zad w 0), .int a1] M post := by
  refine zMet (by decide) (Nat.le_of_ble_eq_true rfl) ?_
  intro p e s m below meth c X hr hlk hml hW ls hl
  have hx := X.1
  have hb := X.2.1
  have hl : lv_has ls 3 [(0, .ref (zad w 0)), (1, .int a1)] := hl
  have zL_2 :  ∀ (n : Nat) (x_2 : Int32) (M : zMem) (H : Heap) (locs : List Loc) (ls : Array Slot), zWo w s.heap M H locs → lv_has ls 3 [(0, .ref (zad w 0)), (1, .int a1), (2, .int x_2)] → zlp1 (wpB_Model_clear_2 a1   post) n x_2 M → W p l e (zRm 0 0) s m ([.ref (zad w 0), .int a1] : List Value).toArray below meth c H locs 0 0 (MQ below (va_Qv post (zB w) (zA w)) ([.ref (zad w 0), .int a1] : List Value).toArray s 0 0 (zA w)) (F0 m 2 ls []) := by
    intro n
    induction n with
    | zero => intro x_2 M H locs ls hW hl h; exact h.elim
    | succ n zJ =>
      intro x_2 M H locs ls hW hl h
      have h : wpB_Model_clear_2 a1   post (zlp1 (wpB_Model_clear_2 a1   post) n) x_2 M := h
      unfold wpB_Model_clear_2 at h
      refine lv_iload_n hx hb dX11_clear_2 rfl (lv_at hl 2 rfl) ?_
      refine lv_bipush hx hb dX11_clear_3 zc_b96 ?_
      refine lv_icmp_ge (tgt := 26) hx hb dX11_clear_5 rfl (fun c => ?_) (fun c => ?_)
      · replace h := h.1 c
        exact zretv X hr hlk hW h dX11_clear_26
      · replace h := h.2 c
        refine lv_aload_n hx hb dX11_clear_8 rfl (lv_at hl 0 rfl) ?_
        refine zg_Model_bench X hW h0 zu_1036 dX11_clear_9 ?_
        refine lv_bipush hx hb dX11_clear_12 zc_b96 ?_
        refine lv_iload_n hx hb dX11_clear_14 rfl (lv_at hl 1 rfl) ?_
        refine lv_imul hx hb dX11_clear_15 ?_
        refine lv_iload_n hx hb dX11_clear_16 rfl (lv_at hl 2 rfl) ?_
        refine lv_iadd hx hb dX11_clear_17 ?_
        refine lv_iconst hx hb dX11_clear_18 zc_i0 ?_
        obtain ⟨g, h⟩ := h
        refine ziast X hW h0.2.2.2.2.2.2.1 g dX11_clear_19 (fun H locs zm1 ezm1 hW => ?_)
        replace h := h zm1 ezm1
        obtain ⟨zx2, ezx2⟩ : ∃ y : Int32, y = x_2 + 1 := ⟨_, rfl⟩
        replace h := h zx2 ezx2
        refine lv_iinc (v := zx2) (lv' := [(2, .int zx2), (0, .ref (zad w 0)), (1, .int a1)]) hx hb dX11_clear_20 hl (k := 2) rfl (by rw [ezx2, zc_i1]) (Nat.le_of_ble_eq_true rfl) rfl (fun ls hl => ?_)
        refine lv_goto (tgt := 2) hx hb dX11_clear_23 rfl ?_
        exact zJ zx2 zm1 H locs ls hW (lv_sub hl [1, 2, 0] rfl) h
  unfold wp_Model_clear at h
  have zMain : ∀ (H : Heap) (locs : List Loc) (ls : Array Slot), zWo w s.heap M H locs → lv_has ls 3 [(0, .ref (zad w 0)), (1, .int a1)] → W p l e (zRm 0 0) s m ([.ref (zad w 0), .int a1] : List Value).toArray below meth c H locs 0 0 (MQ below (va_Qv post (zB w) (zA w)) ([.ref (zad w 0), .int a1] : List Value).toArray s 0 0 (zA w)) (F0 m 0 ls []) := by
    intro H locs ls hW hl
    refine lv_iconst hx hb dX11_clear_0 zc_i0 ?_
    refine lv_istore_n (lv' := [(2, .int 0), (0, .ref (zad w 0)), (1, .int a1)]) hx hb dX11_clear_1 rfl hl (Nat.le_of_ble_eq_true rfl) rfl (fun ls hl => ?_)
    obtain ⟨n, h⟩ := h
    refine zL_2   n 0 M H locs ls hW (lv_sub hl [1, 2, 0] rfl) h
  exact zMain s.heap [] ls hW hl
def wp_Model_endOf (a1 : Int32) (M : zMem) (Q : Int32 → zMem → Prop) : Prop :=
  vp_in 1 100 ∧ (a1 = ((M 4 (ix 1)) - 1) → vp_in 0 100 ∧ Q (M 4 (ix 0)) M) ∧ (¬ a1 = ((M 4 (ix 1)) - 1) → vp_in 4 100 ∧ (¬ (M 4 (ix 4)) = 0 → vp_in (20 + a1) 100 ∧ Q (M 4 (ix (20 + a1))) M) ∧ ((M 4 (ix 4)) = 0 → vp_in 0 100 ∧ Q (M 4 (ix 0)) M))
set_option maxHeartbeats 4000000 in
set_option maxRecDepth 20000 in
theorem c_Model_endOf {l : Launch} {w : zWd} {a1 : Int32} {M : zMem} {post : Int32 → zMem → Prop} (h0 : zI_Model w) (h : wp_Model_endOf a1 M post) : zMi l ⟨"HandToHandModel", "endOf", "(I)I"⟩ prog_13_method_24_code 2 (Option.some .int) 0 0 w [.ref (zad w 0), .int a1] M post := by
  refine zMet (by decide) (Nat.le_of_ble_eq_true rfl) ?_
  intro p e s m below meth c X hr hlk hml hW ls hl
  have hx := X.1
  have hb := X.2.1
  have hl : lv_has ls 2 [(0, .ref (zad w 0)), (1, .int a1)] := hl
  unfold wp_Model_endOf at h
  have zMain : ∀ (H : Heap) (locs : List Loc) (ls : Array Slot), zWo w s.heap M H locs → lv_has ls 2 [(0, .ref (zad w 0)), (1, .int a1)] → W p l e (zRm 0 0) s m ([.ref (zad w 0), .int a1] : List Value).toArray below meth c H locs 0 0 (MQ below (va_Qi post (zB w) (zA w)) ([.ref (zad w 0), .int a1] : List Value).toArray s 0 0 (zA w)) (F0 m 0 ls []) := by
    intro H locs ls hW hl
    refine lv_iload_n hx hb dX11_endOf_0 rfl (lv_at hl 1 rfl) ?_
    refine lv_aload_n hx hb dX11_endOf_1 rfl (lv_at hl 0 rfl) ?_
    refine zg_Model_holds X hW h0 zu_1031 dX11_endOf_2 ?_
    refine lv_iconst hx hb dX11_endOf_5 zc_i1 ?_
    obtain ⟨g, h⟩ := h
    refine ziald X hW h0.2.2.2.2.1 g dX11_endOf_6 ?_
    refine lv_iconst hx hb dX11_endOf_7 zc_i1 ?_
    refine lv_isub hx hb dX11_endOf_8 ?_
    refine lv_icmp_eq (tgt := 21) hx hb dX11_endOf_9 rfl (fun c => ?_) (fun c => ?_)
    · replace h := h.1 c
      refine lv_aload_n hx hb dX11_endOf_21 rfl (lv_at hl 0 rfl) ?_
      refine zg_Model_holds X hW h0 zu_1031 dX11_endOf_22 ?_
      refine lv_iconst hx hb dX11_endOf_25 zc_i0 ?_
      obtain ⟨g, h⟩ := h
      refine ziald X hW h0.2.2.2.2.1 g dX11_endOf_26 ?_
      refine lv_goto (tgt := 39) hx hb dX11_endOf_27 rfl ?_
      exact zreti X hr hlk hW h dX11_endOf_39
    · replace h := h.2 c
      refine lv_aload_n hx hb dX11_endOf_12 rfl (lv_at hl 0 rfl) ?_
      refine zg_Model_holds X hW h0 zu_1031 dX11_endOf_13 ?_
      refine lv_iconst hx hb dX11_endOf_16 zc_i4 ?_
      obtain ⟨g, h⟩ := h
      refine ziald X hW h0.2.2.2.2.1 g dX11_endOf_17 ?_
      refine lv_if_ne (tgt := 30) hx hb dX11_endOf_18 rfl (fun c => ?_) (fun c => ?_)
      · replace h := h.1 c
        refine lv_aload_n hx hb dX11_endOf_30 rfl (lv_at hl 0 rfl) ?_
        refine zg_Model_holds X hW h0 zu_1031 dX11_endOf_31 ?_
        refine lv_bipush hx hb dX11_endOf_34 zc_b20 ?_
        refine lv_iload_n hx hb dX11_endOf_36 rfl (lv_at hl 1 rfl) ?_
        refine lv_iadd hx hb dX11_endOf_37 ?_
        obtain ⟨g, h⟩ := h
        refine ziald X hW h0.2.2.2.2.1 g dX11_endOf_38 ?_
        exact zreti X hr hlk hW h dX11_endOf_39
      · replace h := h.2 c
        refine lv_aload_n hx hb dX11_endOf_21 rfl (lv_at hl 0 rfl) ?_
        refine zg_Model_holds X hW h0 zu_1031 dX11_endOf_22 ?_
        refine lv_iconst hx hb dX11_endOf_25 zc_i0 ?_
        obtain ⟨g, h⟩ := h
        refine ziald X hW h0.2.2.2.2.1 g dX11_endOf_26 ?_
        refine lv_goto (tgt := 39) hx hb dX11_endOf_27 rfl ?_
        exact zreti X hr hlk hW h dX11_endOf_39
  exact zMain s.heap [] ls hW hl
def wpB_Model_asNumbered_22    (Q : zMem → Prop) (J : Int32 → zMem → Prop) (x_1 : Int32) (M : zMem) : Prop :=
  ((M 0 18) ≤ x_1 → Q M) ∧ (¬ (M 0 18) ≤ x_1 → vp_in x_1 5 ∧ ∀ zm3 : zMem, zm3 = zup M 8 (ix x_1) x_1 → wp_Model_endOf x_1 zm3 (fun zr5 zm4 => vp_in x_1 5 ∧ ∀ zm6 : zMem, zm6 = zup zm4 9 (ix x_1) zr5 → ∀ zx7 : Int32, zx7 = x_1 + 1 → J zx7 zm6))
def wp_Model_asNumbered  (M : zMem) (Q : zMem → Prop) : Prop :=
  vp_in 1 100 ∧ ∀ zm1 : zMem, zm1 = zup M 0 18 (M 4 (ix 1)) → vp_in 4 100 ∧ ∀ zm2 : zMem, zm2 = zup zm1 0 19 (zm1 4 (ix 4)) → ∃ n : Nat, zlp1 (wpB_Model_asNumbered_22    Q) n 0 zm2
set_option maxHeartbeats 4000000 in
set_option maxRecDepth 20000 in
theorem c_Model_asNumbered {l : Launch} {w : zWd} {M : zMem} {post : zMem → Prop} (h0 : zI_Model w) (h : wp_Model_asNumbered  M post) : zMv l ⟨"HandToHandModel", "asNumbered", "()V"⟩ prog_13_method_36_code 2 none 1 21 w [.ref (zad w 0)] M post := by
  refine zMet (by decide) (Nat.le_of_ble_eq_true rfl) ?_
  intro p e s m below meth c X hr hlk hml hW ls hl
  have hx := X.1
  have hb := X.2.1
  have hl : lv_has ls 2 [(0, .ref (zad w 0))] := hl
  have zL_22 :  ∀ (n : Nat) (x_1 : Int32) (M : zMem) (H : Heap) (locs : List Loc) (ls : Array Slot), zWo w s.heap M H locs → lv_has ls 2 [(0, .ref (zad w 0)), (1, .int x_1)] → zlp1 (wpB_Model_asNumbered_22    post) n x_1 M → W p l e (zRm 1 21) s m ([.ref (zad w 0)] : List Value).toArray below meth c H locs 0 0 (MQ below (va_Qv post (zB w) (zA w)) ([.ref (zad w 0)] : List Value).toArray s 0 0 (zA w)) (F0 m 22 ls []) := by
    intro n
    induction n with
    | zero => intro x_1 M H locs ls hW hl h; exact h.elim
    | succ n zJ =>
      intro x_1 M H locs ls hW hl h
      have h : wpB_Model_asNumbered_22    post (zlp1 (wpB_Model_asNumbered_22    post) n) x_1 M := h
      unfold wpB_Model_asNumbered_22 at h
      refine lv_iload_n hx hb dX11_asNumbered_22 rfl (lv_at hl 1 rfl) ?_
      refine lv_aload_n hx hb dX11_asNumbered_23 rfl (lv_at hl 0 rfl) ?_
      refine zg_Model_many X hW h0 zu_1038 dX11_asNumbered_24 ?_
      refine lv_icmp_ge (tgt := 54) hx hb dX11_asNumbered_27 rfl (fun c => ?_) (fun c => ?_)
      · replace h := h.1 c
        exact zretv X hr hlk hW h dX11_asNumbered_54
      · replace h := h.2 c
        refine lv_aload_n hx hb dX11_asNumbered_30 rfl (lv_at hl 0 rfl) ?_
        refine zg_Model_who X hW h0 zu_1040 dX11_asNumbered_31 ?_
        refine lv_iload_n hx hb dX11_asNumbered_34 rfl (lv_at hl 1 rfl) ?_
        refine lv_iload_n hx hb dX11_asNumbered_35 rfl (lv_at hl 1 rfl) ?_
        obtain ⟨g, h⟩ := h
        refine ziast X hW h0.2.2.2.2.2.2.2.1 g dX11_asNumbered_36 (fun H locs zm3 ezm3 hW => ?_)
        replace h := h zm3 ezm3
        refine lv_aload_n hx hb dX11_asNumbered_37 rfl (lv_at hl 0 rfl) ?_
        refine zg_Model_ends X hW h0 zu_1041 dX11_asNumbered_38 ?_
        refine lv_iload_n hx hb dX11_asNumbered_41 rfl (lv_at hl 1 rfl) ?_
        refine lv_aload_n hx hb dX11_asNumbered_42 rfl (lv_at hl 0 rfl) ?_
        refine lv_iload_n hx hb dX11_asNumbered_43 rfl (lv_at hl 1 rfl) ?_
        refine zcalli (zrunV (As := [.int x_1]) (rest := [.int x_1, .ref (zad w 9)]) X hml hl hW h0.1 rfl zk_Model_170 (c_Model_endOf h0 h) rfl ⟨Nat.le_of_ble_eq_true rfl, Nat.le_of_ble_eq_true rfl⟩ ⟨Nat.le_refl 0, Nat.le_refl 0⟩ rfl (Nat.le_of_ble_eq_true rfl) dX11_asNumbered_44) hW (fun zr5 zm4 H locs h hW => ?_)
        obtain ⟨g, h⟩ := h
        refine ziast X hW h0.2.2.2.2.2.2.2.2.1 g dX11_asNumbered_47 (fun H locs zm6 ezm6 hW => ?_)
        replace h := h zm6 ezm6
        obtain ⟨zx7, ezx7⟩ : ∃ y : Int32, y = x_1 + 1 := ⟨_, rfl⟩
        replace h := h zx7 ezx7
        refine lv_iinc (v := zx7) (lv' := [(1, .int zx7), (0, .ref (zad w 0))]) hx hb dX11_asNumbered_48 hl (k := 1) rfl (by rw [ezx7, zc_i1]) (Nat.le_of_ble_eq_true rfl) rfl (fun ls hl => ?_)
        refine lv_goto (tgt := 22) hx hb dX11_asNumbered_51 rfl ?_
        exact zJ zx7 zm6 H locs ls hW (lv_sub hl [1, 0] rfl) h
  unfold wp_Model_asNumbered at h
  have zMain : ∀ (H : Heap) (locs : List Loc) (ls : Array Slot), zWo w s.heap M H locs → lv_has ls 2 [(0, .ref (zad w 0))] → W p l e (zRm 1 21) s m ([.ref (zad w 0)] : List Value).toArray below meth c H locs 0 0 (MQ below (va_Qv post (zB w) (zA w)) ([.ref (zad w 0)] : List Value).toArray s 0 0 (zA w)) (F0 m 0 ls []) := by
    intro H locs ls hW hl
    refine lv_aload_n hx hb dX11_asNumbered_0 rfl (lv_at hl 0 rfl) ?_
    refine lv_aload_n hx hb dX11_asNumbered_1 rfl (lv_at hl 0 rfl) ?_
    refine zg_Model_holds X hW h0 zu_1031 dX11_asNumbered_2 ?_
    refine lv_iconst hx hb dX11_asNumbered_5 zc_i1 ?_
    obtain ⟨g, h⟩ := h
    refine ziald X hW h0.2.2.2.2.1 g dX11_asNumbered_6 ?_
    refine zp_Model_many X hW h0 zu_1038 dX11_asNumbered_7 (fun H locs zm1 ezm1 hW => ?_)
    replace h := h zm1 ezm1
    refine lv_aload_n hx hb dX11_asNumbered_10 rfl (lv_at hl 0 rfl) ?_
    refine lv_aload_n hx hb dX11_asNumbered_11 rfl (lv_at hl 0 rfl) ?_
    refine zg_Model_holds X hW h0 zu_1031 dX11_asNumbered_12 ?_
    refine lv_iconst hx hb dX11_asNumbered_15 zc_i4 ?_
    obtain ⟨g, h⟩ := h
    refine ziald X hW h0.2.2.2.2.1 g dX11_asNumbered_16 ?_
    refine zp_Model_ruleNow X hW h0 zu_1039 dX11_asNumbered_17 (fun H locs zm2 ezm2 hW => ?_)
    replace h := h zm2 ezm2
    refine lv_iconst hx hb dX11_asNumbered_20 zc_i0 ?_
    refine lv_istore_n (lv' := [(1, .int 0), (0, .ref (zad w 0))]) hx hb dX11_asNumbered_21 rfl hl (Nat.le_of_ble_eq_true rfl) rfl (fun ls hl => ?_)
    obtain ⟨n, h⟩ := h
    refine zL_22   n 0 zm2 H locs ls hW (lv_sub hl [1, 0] rfl) h
  exact zMain s.heap [] ls hW hl
def wp_Model_at (a1 : Int32) (a2 : Int32) (a3 : Int32) (M : zMem) (Q : Int32 → zMem → Prop) : Prop :=
  vp_in ((((96 * a1) + 8) + (8 * a2)) + a3) 384 ∧ wp_Model_in a3.toInt64 2 4 M (fun zr2 zm1 => (zr2 = 0 → Q ((M 6 (ix ((((96 * a1) + 8) + (8 * a2)) + a3))) + 0) zm1) ∧ (¬ zr2 = 0 → Q ((M 6 (ix ((((96 * a1) + 8) + (8 * a2)) + a3))) + ((-4))) zm1))
set_option maxHeartbeats 4000000 in
set_option maxRecDepth 20000 in
theorem c_Model_at {l : Launch} {w : zWd} {a1 : Int32} {a2 : Int32} {a3 : Int32} {M : zMem} {post : Int32 → zMem → Prop} (h0 : zI_Model w) (h : wp_Model_at a1 a2 a3 M post) : zMi l ⟨"HandToHandModel", "at", "(III)I"⟩ prog_13_method_30_code 4 (Option.some .int) 1 25 w [.ref (zad w 0), .int a1, .int a2, .int a3] M post := by
  refine zMet (by decide) (Nat.le_of_ble_eq_true rfl) ?_
  intro p e s m below meth c X hr hlk hml hW ls hl
  have hx := X.1
  have hb := X.2.1
  have hl : lv_has ls 4 [(0, .ref (zad w 0)), (1, .int a1), (2, .int a2), (3, .int a3)] := hl
  unfold wp_Model_at at h
  have zMain : ∀ (H : Heap) (locs : List Loc) (ls : Array Slot), zWo w s.heap M H locs → lv_has ls 4 [(0, .ref (zad w 0)), (1, .int a1), (2, .int a2), (3, .int a3)] → W p l e (zRm 1 25) s m ([.ref (zad w 0), .int a1, .int a2, .int a3] : List Value).toArray below meth c H locs 0 0 (MQ below (va_Qi post (zB w) (zA w)) ([.ref (zad w 0), .int a1, .int a2, .int a3] : List Value).toArray s 0 0 (zA w)) (F0 m 0 ls []) := by
    intro H locs ls hW hl
    refine lv_aload_n hx hb dX11_at_0 rfl (lv_at hl 0 rfl) ?_
    refine zg_Model_bench X hW h0 zu_1036 dX11_at_1 ?_
    refine lv_bipush hx hb dX11_at_4 zc_b96 ?_
    refine lv_iload_n hx hb dX11_at_6 rfl (lv_at hl 1 rfl) ?_
    refine lv_imul hx hb dX11_at_7 ?_
    refine lv_bipush hx hb dX11_at_8 zc_b8 ?_
    refine lv_iadd hx hb dX11_at_10 ?_
    refine lv_bipush hx hb dX11_at_11 zc_b8 ?_
    refine lv_iload_n hx hb dX11_at_13 rfl (lv_at hl 2 rfl) ?_
    refine lv_imul hx hb dX11_at_14 ?_
    refine lv_iadd hx hb dX11_at_15 ?_
    refine lv_iload_n hx hb dX11_at_16 rfl (lv_at hl 3 rfl) ?_
    refine lv_iadd hx hb dX11_at_17 ?_
    obtain ⟨g, h⟩ := h
    refine ziald X hW h0.2.2.2.2.2.2.1 g dX11_at_18 ?_
    refine lv_iload_n hx hb dX11_at_19 rfl (lv_at hl 3 rfl) ?_
    refine lv_i2l hx hb dX11_at_20 rfl ?_
    refine lv_ldc2 hx hb X.2.2.1 (X.2.2.2.1 _ zu_1248) dX11_at_21 ?_
    refine lv_ldc2 hx hb X.2.2.1 (X.2.2.2.1 _ zu_1249) dX11_at_24 ?_
    refine zcalli (zrunS (As := [.long a3.toInt64, .long 2, .long 4]) (rest := [.int (M 6 (ix ((((96 * a1) + 8) + (8 * a2)) + a3)))]) X hml hl hW zk_Model_69 (c_Model_in  h) rfl ⟨Nat.le_of_ble_eq_true rfl, Nat.le_of_ble_eq_true rfl⟩ ⟨Nat.le_refl 0, Nat.le_refl 0⟩ rfl (Nat.le_of_ble_eq_true rfl) dX11_at_27) hW (fun zr2 zm1 H locs h hW => ?_)
    refine lv_if_eq (tgt := 38) hx hb dX11_at_30 rfl (fun c => ?_) (fun c => ?_)
    · replace h := h.1 c
      refine lv_iconst hx hb dX11_at_38 zc_i0 ?_
      refine lv_iadd hx hb dX11_at_39 ?_
      exact zreti X hr hlk hW h dX11_at_40
    · replace h := h.2 c
      refine lv_bipush hx hb dX11_at_33 zc_bm4 ?_
      refine lv_goto (tgt := 39) hx hb dX11_at_35 rfl ?_
      refine lv_iadd hx hb dX11_at_39 ?_
      exact zreti X hr hlk hW h dX11_at_40
  exact zMain s.heap [] ls hW hl
def wpJ_Model_mayBegin_42 (a1 : Int32) (a2 : Int32)  (Q : Int32 → zMem → Prop) (x_3 : Int32) (s_0 : Int32) (M : zMem) : Prop :=
  wp_Model_at a1 (a2 + 1) 2 M (fun zr4 zm3 => (s_0 = 0 → Q 0 zm3) ∧ (¬ s_0 = 0 → (zr4 = (-4) → Q 1 zm3) ∧ (¬ zr4 = (-4) → (x_3 < zr4 → Q 1 zm3) ∧ (¬ x_3 < zr4 → (¬ zr4 = x_3 → Q 0 zm3) ∧ (zr4 = x_3 → wp_Model_at a1 (a2 + 1) 3 zm3 (fun zr6 zm5 => wp_Model_at a1 a2 3 zm5 (fun zr8 zm7 => (zr6 ≤ zr8 → Q 0 zm7) ∧ (¬ zr6 ≤ zr8 → Q 1 zm7))))))))
def wpJ_Model_mayBegin_37 (a1 : Int32) (a2 : Int32)  (Q : Int32 → zMem → Prop) (x_3 : Int32)  (M : zMem) : Prop :=
  wpJ_Model_mayBegin_42 a1 a2 Q x_3 1 M
def wp_Model_mayBegin (a1 : Int32) (a2 : Int32) (M : zMem) (Q : Int32 → zMem → Prop) : Prop :=
  wp_Model_at a1 a2 2 M (fun zr2 zm1 => (¬ a2 = ((zm1 0 18) - 1) → ((zm1 0 19) = 0 → wpJ_Model_mayBegin_37 a1 a2 Q zr2 zm1) ∧ (¬ (zm1 0 19) = 0 → vp_in a2 5 ∧ ((zm1 9 (ix a2)) ≤ zr2 → wpJ_Model_mayBegin_42 a1 a2 Q zr2 0 zm1) ∧ (¬ (zm1 9 (ix a2)) ≤ zr2 → wpJ_Model_mayBegin_37 a1 a2 Q zr2 zm1))) ∧ (a2 = ((zm1 0 18) - 1) → Q 1 zm1))
set_option maxHeartbeats 4000000 in
set_option maxRecDepth 20000 in
theorem c_Model_mayBegin {l : Launch} {w : zWd} {a1 : Int32} {a2 : Int32} {M : zMem} {post : Int32 → zMem → Prop} (h0 : zI_Model w) (h : wp_Model_mayBegin a1 a2 M post) : zMi l ⟨"HandToHandModel", "mayBegin", "(II)Z"⟩ prog_13_method_43_code 6 (Option.some .boolean) 2 48 w [.ref (zad w 0), .int a1, .int a2] M post := by
  refine zMet (by decide) (Nat.le_of_ble_eq_true rfl) ?_
  intro p e s m below meth c X hr hlk hml hW ls hl
  have hx := X.1
  have hb := X.2.1
  have hl : lv_has ls 6 [(0, .ref (zad w 0)), (1, .int a1), (2, .int a2)] := hl
  have zJ_42 : ∀ (x_3 : Int32) (s_0 : Int32) (M : zMem) (H : Heap) (locs : List Loc) (ls : Array Slot), zWo w s.heap M H locs → lv_has ls 6 [(0, .ref (zad w 0)), (1, .int a1), (2, .int a2), (3, .int x_3)] → wpJ_Model_mayBegin_42 a1 a2 post x_3 s_0 M → W p l e (zRm 2 48) s m ([.ref (zad w 0), .int a1, .int a2] : List Value).toArray below meth c H locs 0 0 (MQ below (va_Qi post (zB w) (zA w)) ([.ref (zad w 0), .int a1, .int a2] : List Value).toArray s 0 0 (zA w)) (F0 m 42 ls [.int s_0]) := by
    intro x_3 s_0 M H locs ls hW hl h
    unfold wpJ_Model_mayBegin_42 at h
    refine lv_istore (lv' := [(4, .int s_0), (0, .ref (zad w 0)), (1, .int a1), (2, .int a2), (3, .int x_3)]) hx hb dX11_mayBegin_42 hl (Nat.le_of_ble_eq_true rfl) rfl (fun ls hl => ?_)
    refine lv_aload_n hx hb dX11_mayBegin_44 rfl (lv_at hl 1 rfl) ?_
    refine lv_iload_n hx hb dX11_mayBegin_45 rfl (lv_at hl 2 rfl) ?_
    refine lv_iload_n hx hb dX11_mayBegin_46 rfl (lv_at hl 3 rfl) ?_
    refine lv_iconst hx hb dX11_mayBegin_47 zc_i1 ?_
    refine lv_iadd hx hb dX11_mayBegin_48 ?_
    refine lv_iconst hx hb dX11_mayBegin_49 zc_i2 ?_
    refine zcalli (zrunV (As := [.int a1, .int (a2 + 1), .int 2]) (rest := []) X hml hl hW h0.1 rfl zk_Model_195 (c_Model_at h0 h) rfl ⟨Nat.le_of_ble_eq_true rfl, Nat.le_of_ble_eq_true rfl⟩ ⟨Nat.le_refl 0, Nat.le_refl 0⟩ rfl (Nat.le_of_ble_eq_true rfl) dX11_mayBegin_50) hW (fun zr4 zm3 H locs h hW => ?_)
    refine lv_istore (lv' := [(5, .int zr4), (4, .int s_0), (0, .ref (zad w 0)), (1, .int a1), (2, .int a2), (3, .int x_3)]) hx hb dX11_mayBegin_53 hl (Nat.le_of_ble_eq_true rfl) rfl (fun ls hl => ?_)
    refine lv_iload hx hb dX11_mayBegin_55 (lv_at hl 1 rfl) ?_
    refine lv_if_eq (tgt := 102) hx hb dX11_mayBegin_57 rfl (fun c => ?_) (fun c => ?_)
    · replace h := h.1 c
      refine lv_iconst hx hb dX11_mayBegin_102 zc_i0 ?_
      exact zretz X hr hlk hW rfl h dX11_mayBegin_103
    · replace h := h.2 c
      refine lv_iload hx hb dX11_mayBegin_60 (lv_at hl 0 rfl) ?_
      refine lv_bipush hx hb dX11_mayBegin_62 zc_bm4 ?_
      refine lv_icmp_eq (tgt := 98) hx hb dX11_mayBegin_64 rfl (fun c => ?_) (fun c => ?_)
      · replace h := h.1 c
        refine lv_iconst hx hb dX11_mayBegin_98 zc_i1 ?_
        refine lv_goto (tgt := 103) hx hb dX11_mayBegin_99 rfl ?_
        exact zretz X hr hlk hW rfl h dX11_mayBegin_103
      · replace h := h.2 c
        refine lv_iload hx hb dX11_mayBegin_67 (lv_at hl 0 rfl) ?_
        refine lv_iload_n hx hb dX11_mayBegin_69 rfl (lv_at hl 5 rfl) ?_
        refine lv_icmp_gt (tgt := 98) hx hb dX11_mayBegin_70 rfl (fun c => ?_) (fun c => ?_)
        · replace h := h.1 c
          refine lv_iconst hx hb dX11_mayBegin_98 zc_i1 ?_
          refine lv_goto (tgt := 103) hx hb dX11_mayBegin_99 rfl ?_
          exact zretz X hr hlk hW rfl h dX11_mayBegin_103
        · replace h := h.2 c
          refine lv_iload hx hb dX11_mayBegin_73 (lv_at hl 0 rfl) ?_
          refine lv_iload_n hx hb dX11_mayBegin_75 rfl (lv_at hl 5 rfl) ?_
          refine lv_icmp_ne (tgt := 102) hx hb dX11_mayBegin_76 rfl (fun c => ?_) (fun c => ?_)
          · replace h := h.1 c
            refine lv_iconst hx hb dX11_mayBegin_102 zc_i0 ?_
            exact zretz X hr hlk hW rfl h dX11_mayBegin_103
          · replace h := h.2 c
            refine lv_aload_n hx hb dX11_mayBegin_79 rfl (lv_at hl 2 rfl) ?_
            refine lv_iload_n hx hb dX11_mayBegin_80 rfl (lv_at hl 3 rfl) ?_
            refine lv_iload_n hx hb dX11_mayBegin_81 rfl (lv_at hl 4 rfl) ?_
            refine lv_iconst hx hb dX11_mayBegin_82 zc_i1 ?_
            refine lv_iadd hx hb dX11_mayBegin_83 ?_
            refine lv_iconst hx hb dX11_mayBegin_84 zc_i3 ?_
            refine zcalli (zrunV (As := [.int a1, .int (a2 + 1), .int 3]) (rest := []) X hml hl hW h0.1 rfl zk_Model_195 (c_Model_at h0 h) rfl ⟨Nat.le_of_ble_eq_true rfl, Nat.le_of_ble_eq_true rfl⟩ ⟨Nat.le_refl 0, Nat.le_refl 0⟩ rfl (Nat.le_of_ble_eq_true rfl) dX11_mayBegin_85) hW (fun zr6 zm5 H locs h hW => ?_)
            refine lv_aload_n hx hb dX11_mayBegin_88 rfl (lv_at hl 2 rfl) ?_
            refine lv_iload_n hx hb dX11_mayBegin_89 rfl (lv_at hl 3 rfl) ?_
            refine lv_iload_n hx hb dX11_mayBegin_90 rfl (lv_at hl 4 rfl) ?_
            refine lv_iconst hx hb dX11_mayBegin_91 zc_i3 ?_
            refine zcalli (zrunV (As := [.int a1, .int a2, .int 3]) (rest := [.int zr6]) X hml hl hW h0.1 rfl zk_Model_195 (c_Model_at h0 h) rfl ⟨Nat.le_of_ble_eq_true rfl, Nat.le_of_ble_eq_true rfl⟩ ⟨Nat.le_refl 0, Nat.le_refl 0⟩ rfl (Nat.le_of_ble_eq_true rfl) dX11_mayBegin_92) hW (fun zr8 zm7 H locs h hW => ?_)
            refine lv_icmp_le (tgt := 102) hx hb dX11_mayBegin_95 rfl (fun c => ?_) (fun c => ?_)
            · replace h := h.1 c
              refine lv_iconst hx hb dX11_mayBegin_102 zc_i0 ?_
              exact zretz X hr hlk hW rfl h dX11_mayBegin_103
            · replace h := h.2 c
              refine lv_iconst hx hb dX11_mayBegin_98 zc_i1 ?_
              refine lv_goto (tgt := 103) hx hb dX11_mayBegin_99 rfl ?_
              exact zretz X hr hlk hW rfl h dX11_mayBegin_103
  have zJ_37 : ∀ (x_3 : Int32) (M : zMem) (H : Heap) (locs : List Loc) (ls : Array Slot), zWo w s.heap M H locs → lv_has ls 6 [(0, .ref (zad w 0)), (1, .int a1), (2, .int a2), (3, .int x_3)] → wpJ_Model_mayBegin_37 a1 a2 post x_3 M → W p l e (zRm 2 48) s m ([.ref (zad w 0), .int a1, .int a2] : List Value).toArray below meth c H locs 0 0 (MQ below (va_Qi post (zB w) (zA w)) ([.ref (zad w 0), .int a1, .int a2] : List Value).toArray s 0 0 (zA w)) (F0 m 37 ls []) := by
    intro x_3 M H locs ls hW hl h
    unfold wpJ_Model_mayBegin_37 at h
    refine lv_iconst hx hb dX11_mayBegin_37 zc_i1 ?_
    refine lv_goto (tgt := 42) hx hb dX11_mayBegin_38 rfl ?_
    exact zJ_42 x_3 1 M H locs ls hW (lv_sub hl [0, 1, 2, 3] rfl) h
  unfold wp_Model_mayBegin at h
  have zMain : ∀ (H : Heap) (locs : List Loc) (ls : Array Slot), zWo w s.heap M H locs → lv_has ls 6 [(0, .ref (zad w 0)), (1, .int a1), (2, .int a2)] → W p l e (zRm 2 48) s m ([.ref (zad w 0), .int a1, .int a2] : List Value).toArray below meth c H locs 0 0 (MQ below (va_Qi post (zB w) (zA w)) ([.ref (zad w 0), .int a1, .int a2] : List Value).toArray s 0 0 (zA w)) (F0 m 0 ls []) := by
    intro H locs ls hW hl
    refine lv_aload_n hx hb dX11_mayBegin_0 rfl (lv_at hl 0 rfl) ?_
    refine lv_iload_n hx hb dX11_mayBegin_1 rfl (lv_at hl 1 rfl) ?_
    refine lv_iload_n hx hb dX11_mayBegin_2 rfl (lv_at hl 2 rfl) ?_
    refine lv_iconst hx hb dX11_mayBegin_3 zc_i2 ?_
    refine zcalli (zrunV (As := [.int a1, .int a2, .int 2]) (rest := []) X hml hl hW h0.1 rfl zk_Model_195 (c_Model_at h0 h) rfl ⟨Nat.le_of_ble_eq_true rfl, Nat.le_of_ble_eq_true rfl⟩ ⟨Nat.le_refl 0, Nat.le_refl 0⟩ rfl (Nat.le_of_ble_eq_true rfl) dX11_mayBegin_4) hW (fun zr2 zm1 H locs h hW => ?_)
    refine lv_istore_n (lv' := [(3, .int zr2), (0, .ref (zad w 0)), (1, .int a1), (2, .int a2)]) hx hb dX11_mayBegin_7 rfl hl (Nat.le_of_ble_eq_true rfl) rfl (fun ls hl => ?_)
    refine lv_iload_n hx hb dX11_mayBegin_8 rfl (lv_at hl 3 rfl) ?_
    refine lv_aload_n hx hb dX11_mayBegin_9 rfl (lv_at hl 1 rfl) ?_
    refine zg_Model_many X hW h0 zu_1038 dX11_mayBegin_10 ?_
    refine lv_iconst hx hb dX11_mayBegin_13 zc_i1 ?_
    refine lv_isub hx hb dX11_mayBegin_14 ?_
    refine lv_icmp_ne (tgt := 20) hx hb dX11_mayBegin_15 rfl (fun c => ?_) (fun c => ?_)
    · replace h := h.1 c
      refine lv_aload_n hx hb dX11_mayBegin_20 rfl (lv_at hl 1 rfl) ?_
      refine zg_Model_ruleNow X hW h0 zu_1039 dX11_mayBegin_21 ?_
      refine lv_if_eq (tgt := 37) hx hb dX11_mayBegin_24 rfl (fun c => ?_) (fun c => ?_)
      · replace h := h.1 c
        exact zJ_37 zr2 zm1 H locs ls hW (lv_sub hl [1, 2, 3, 0] rfl) h
      · replace h := h.2 c
        refine lv_iload_n hx hb dX11_mayBegin_27 rfl (lv_at hl 0 rfl) ?_
        refine lv_aload_n hx hb dX11_mayBegin_28 rfl (lv_at hl 1 rfl) ?_
        refine zg_Model_ends X hW h0 zu_1041 dX11_mayBegin_29 ?_
        refine lv_iload_n hx hb dX11_mayBegin_32 rfl (lv_at hl 3 rfl) ?_
        obtain ⟨g, h⟩ := h
        refine ziald X hW h0.2.2.2.2.2.2.2.2.1 g dX11_mayBegin_33 ?_
        refine lv_icmp_ge (tgt := 41) hx hb dX11_mayBegin_34 rfl (fun c => ?_) (fun c => ?_)
        · replace h := h.1 c
          refine lv_iconst hx hb dX11_mayBegin_41 zc_i0 ?_
          exact zJ_42 zr2 0 zm1 H locs ls hW (lv_sub hl [1, 2, 3, 0] rfl) h
        · replace h := h.2 c
          exact zJ_37 zr2 zm1 H locs ls hW (lv_sub hl [1, 2, 3, 0] rfl) h
    · replace h := h.2 c
      refine lv_iconst hx hb dX11_mayBegin_18 zc_i1 ?_
      exact zretz X hr hlk hW rfl h dX11_mayBegin_19
  exact zMain s.heap [] ls hW hl
def wp_Model_put (a1 : Int32) (a2 : Int32) (a3 : Int32) (a4 : Int32) (M : zMem) (Q : zMem → Prop) : Prop :=
  wp_Model_in a3.toInt64 2 4 M (fun zr2 zm1 => (zr2 = 0 → vp_in ((((96 * a1) + 8) + (8 * a2)) + a3) 384 ∧ ∀ zm3 : zMem, zm3 = zup zm1 6 (ix ((((96 * a1) + 8) + (8 * a2)) + a3)) (a4 - 0) → Q zm3) ∧ (¬ zr2 = 0 → vp_in ((((96 * a1) + 8) + (8 * a2)) + a3) 384 ∧ ∀ zm4 : zMem, zm4 = zup zm1 6 (ix ((((96 * a1) + 8) + (8 * a2)) + a3)) (a4 - ((-4))) → Q zm4))
set_option maxHeartbeats 4000000 in
set_option maxRecDepth 20000 in
theorem c_Model_put {l : Launch} {w : zWd} {a1 : Int32} {a2 : Int32} {a3 : Int32} {a4 : Int32} {M : zMem} {post : zMem → Prop} (h0 : zI_Model w) (h : wp_Model_put a1 a2 a3 a4 M post) : zMv l ⟨"HandToHandModel", "put", "(IIII)V"⟩ prog_13_method_31_code 5 none 1 25 w [.ref (zad w 0), .int a1, .int a2, .int a3, .int a4] M post := by
  refine zMet (by decide) (Nat.le_of_ble_eq_true rfl) ?_
  intro p e s m below meth c X hr hlk hml hW ls hl
  have hx := X.1
  have hb := X.2.1
  have hl : lv_has ls 5 [(0, .ref (zad w 0)), (1, .int a1), (2, .int a2), (3, .int a3), (4, .int a4)] := hl
  unfold wp_Model_put at h
  have zMain : ∀ (H : Heap) (locs : List Loc) (ls : Array Slot), zWo w s.heap M H locs → lv_has ls 5 [(0, .ref (zad w 0)), (1, .int a1), (2, .int a2), (3, .int a3), (4, .int a4)] → W p l e (zRm 1 25) s m ([.ref (zad w 0), .int a1, .int a2, .int a3, .int a4] : List Value).toArray below meth c H locs 0 0 (MQ below (va_Qv post (zB w) (zA w)) ([.ref (zad w 0), .int a1, .int a2, .int a3, .int a4] : List Value).toArray s 0 0 (zA w)) (F0 m 0 ls []) := by
    intro H locs ls hW hl
    refine lv_aload_n hx hb dX11_put_0 rfl (lv_at hl 0 rfl) ?_
    refine zg_Model_bench X hW h0 zu_1036 dX11_put_1 ?_
    refine lv_bipush hx hb dX11_put_4 zc_b96 ?_
    refine lv_iload_n hx hb dX11_put_6 rfl (lv_at hl 1 rfl) ?_
    refine lv_imul hx hb dX11_put_7 ?_
    refine lv_bipush hx hb dX11_put_8 zc_b8 ?_
    refine lv_iadd hx hb dX11_put_10 ?_
    refine lv_bipush hx hb dX11_put_11 zc_b8 ?_
    refine lv_iload_n hx hb dX11_put_13 rfl (lv_at hl 2 rfl) ?_
    refine lv_imul hx hb dX11_put_14 ?_
    refine lv_iadd hx hb dX11_put_15 ?_
    refine lv_iload_n hx hb dX11_put_16 rfl (lv_at hl 3 rfl) ?_
    refine lv_iadd hx hb dX11_put_17 ?_
    refine lv_iload hx hb dX11_put_18 (lv_at hl 4 rfl) ?_
    refine lv_iload_n hx hb dX11_put_20 rfl (lv_at hl 3 rfl) ?_
    refine lv_i2l hx hb dX11_put_21 rfl ?_
    refine lv_ldc2 hx hb X.2.2.1 (X.2.2.2.1 _ zu_1248) dX11_put_22 ?_
    refine lv_ldc2 hx hb X.2.2.1 (X.2.2.2.1 _ zu_1249) dX11_put_25 ?_
    refine zcalli (zrunS (As := [.long a3.toInt64, .long 2, .long 4]) (rest := [.int a4, .int ((((96 * a1) + 8) + (8 * a2)) + a3), .ref (zad w 6)]) X hml hl hW zk_Model_69 (c_Model_in  h) rfl ⟨Nat.le_of_ble_eq_true rfl, Nat.le_of_ble_eq_true rfl⟩ ⟨Nat.le_refl 0, Nat.le_refl 0⟩ rfl (Nat.le_of_ble_eq_true rfl) dX11_put_28) hW (fun zr2 zm1 H locs h hW => ?_)
    refine lv_if_eq (tgt := 39) hx hb dX11_put_31 rfl (fun c => ?_) (fun c => ?_)
    · replace h := h.1 c
      refine lv_iconst hx hb dX11_put_39 zc_i0 ?_
      refine lv_isub hx hb dX11_put_40 ?_
      obtain ⟨g, h⟩ := h
      refine ziast X hW h0.2.2.2.2.2.2.1 g dX11_put_41 (fun H locs zm3 ezm3 hW => ?_)
      replace h := h zm3 ezm3
      exact zretv X hr hlk hW h dX11_put_42
    · replace h := h.2 c
      refine lv_bipush hx hb dX11_put_34 zc_bm4 ?_
      refine lv_goto (tgt := 40) hx hb dX11_put_36 rfl ?_
      refine lv_isub hx hb dX11_put_40 ?_
      obtain ⟨g, h⟩ := h
      refine ziast X hW h0.2.2.2.2.2.2.1 g dX11_put_41 (fun H locs zm4 ezm4 hW => ?_)
      replace h := h zm4 ezm4
      exact zretv X hr hlk hW h dX11_put_42
  exact zMain s.heap [] ls hW hl
def wp_Model_learntAt (a1 : Int32) (a2 : Int32) (a3 : Int32) (M : zMem) (Q : Int32 → zMem → Prop) : Prop :=
  Q ((((96 * a1) + 48) + (8 * a2)) + a3) M
set_option maxHeartbeats 4000000 in
set_option maxRecDepth 20000 in
theorem c_Model_learntAt {l : Launch} {w : zWd} {a1 : Int32} {a2 : Int32} {a3 : Int32} {M : zMem} {post : Int32 → zMem → Prop} (h0 : zI_Model w) (h : wp_Model_learntAt a1 a2 a3 M post) : zMi l ⟨"HandToHandModel", "learntAt", "(III)I"⟩ prog_13_method_34_code 4 (Option.some .int) 0 0 w [.ref (zad w 0), .int a1, .int a2, .int a3] M post := by
  refine zMet (by decide) (Nat.le_of_ble_eq_true rfl) ?_
  intro p e s m below meth c X hr hlk hml hW ls hl
  have hx := X.1
  have hb := X.2.1
  have hl : lv_has ls 4 [(0, .ref (zad w 0)), (1, .int a1), (2, .int a2), (3, .int a3)] := hl
  unfold wp_Model_learntAt at h
  have zMain : ∀ (H : Heap) (locs : List Loc) (ls : Array Slot), zWo w s.heap M H locs → lv_has ls 4 [(0, .ref (zad w 0)), (1, .int a1), (2, .int a2), (3, .int a3)] → W p l e (zRm 0 0) s m ([.ref (zad w 0), .int a1, .int a2, .int a3] : List Value).toArray below meth c H locs 0 0 (MQ below (va_Qi post (zB w) (zA w)) ([.ref (zad w 0), .int a1, .int a2, .int a3] : List Value).toArray s 0 0 (zA w)) (F0 m 0 ls []) := by
    intro H locs ls hW hl
    refine lv_bipush hx hb dX11_learntAt_0 zc_b96 ?_
    refine lv_iload_n hx hb dX11_learntAt_2 rfl (lv_at hl 1 rfl) ?_
    refine lv_imul hx hb dX11_learntAt_3 ?_
    refine lv_bipush hx hb dX11_learntAt_4 zc_b48 ?_
    refine lv_iadd hx hb dX11_learntAt_6 ?_
    refine lv_bipush hx hb dX11_learntAt_7 zc_b8 ?_
    refine lv_iload_n hx hb dX11_learntAt_9 rfl (lv_at hl 2 rfl) ?_
    refine lv_imul hx hb dX11_learntAt_10 ?_
    refine lv_iadd hx hb dX11_learntAt_11 ?_
    refine lv_iload_n hx hb dX11_learntAt_12 rfl (lv_at hl 3 rfl) ?_
    refine lv_iadd hx hb dX11_learntAt_13 ?_
    exact zreti X hr hlk hW h dX11_learntAt_14
  exact zMain s.heap [] ls hW hl
def wp_Model_ticksOf (a1 : Int32) (a2 : Int32) (a3 : Int32) (M : zMem) (Q : Int32 → zMem → Prop) : Prop :=
  vp_in ((60 + (8 * a2)) + a3) 100 ∧ ∀ zx1 : Int32, zx1 = M 4 (ix ((60 + (8 * a2)) + a3)) → vp_in 3 100 ∧ (¬ (M 4 (ix 3)) = 0 → wp_Model_learntAt a1 a2 a3 M (fun zr3 zm2 => vp_in zr3 384 ∧ vp_in 3 100 ∧ (¬ (zm2 4 (ix 3)) = 0) ∧ ∀ zx4 : Int32, zx4 = zx1 - ((zm2 6 (ix zr3)) / (zm2 4 (ix 3))) → (1 ≤ zx4 → Q zx4 zm2) ∧ (¬ 1 ≤ zx4 → Q 1 zm2))) ∧ ((M 4 (ix 3)) = 0 → ∀ zx5 : Int32, zx5 = zx1 - 0 → (1 ≤ zx5 → Q zx5 M) ∧ (¬ 1 ≤ zx5 → Q 1 M))
set_option maxHeartbeats 4000000 in
set_option maxRecDepth 20000 in
theorem c_Model_ticksOf {l : Launch} {w : zWd} {a1 : Int32} {a2 : Int32} {a3 : Int32} {M : zMem} {post : Int32 → zMem → Prop} (h0 : zI_Model w) (h : wp_Model_ticksOf a1 a2 a3 M post) : zMi l ⟨"HandToHandModel", "ticksOf", "(III)I"⟩ prog_13_method_35_code 5 (Option.some .int) 1 23 w [.ref (zad w 0), .int a1, .int a2, .int a3] M post := by
  refine zMet (by decide) (Nat.le_of_ble_eq_true rfl) ?_
  intro p e s m below meth c X hr hlk hml hW ls hl
  have hx := X.1
  have hb := X.2.1
  have hl : lv_has ls 5 [(0, .ref (zad w 0)), (1, .int a1), (2, .int a2), (3, .int a3)] := hl
  unfold wp_Model_ticksOf at h
  have zMain : ∀ (H : Heap) (locs : List Loc) (ls : Array Slot), zWo w s.heap M H locs → lv_has ls 5 [(0, .ref (zad w 0)), (1, .int a1), (2, .int a2), (3, .int a3)] → W p l e (zRm 1 23) s m ([.ref (zad w 0), .int a1, .int a2, .int a3] : List Value).toArray below meth c H locs 0 0 (MQ below (va_Qi post (zB w) (zA w)) ([.ref (zad w 0), .int a1, .int a2, .int a3] : List Value).toArray s 0 0 (zA w)) (F0 m 0 ls []) := by
    intro H locs ls hW hl
    refine lv_aload_n hx hb dX11_ticksOf_0 rfl (lv_at hl 0 rfl) ?_
    refine zg_Model_holds X hW h0 zu_1031 dX11_ticksOf_1 ?_
    refine lv_bipush hx hb dX11_ticksOf_4 zc_b60 ?_
    refine lv_bipush hx hb dX11_ticksOf_6 zc_b8 ?_
    refine lv_iload_n hx hb dX11_ticksOf_8 rfl (lv_at hl 2 rfl) ?_
    refine lv_imul hx hb dX11_ticksOf_9 ?_
    refine lv_iadd hx hb dX11_ticksOf_10 ?_
    refine lv_iload_n hx hb dX11_ticksOf_11 rfl (lv_at hl 3 rfl) ?_
    refine lv_iadd hx hb dX11_ticksOf_12 ?_
    obtain ⟨g, h⟩ := h
    refine ziald X hW h0.2.2.2.2.1 g dX11_ticksOf_13 ?_
    refine lv_topi (fun zx1 ezx1 => ?_)
    replace h := h zx1 ezx1
    refine lv_istore (lv' := [(4, .int zx1), (0, .ref (zad w 0)), (1, .int a1), (2, .int a2), (3, .int a3)]) hx hb dX11_ticksOf_14 hl (Nat.le_of_ble_eq_true rfl) rfl (fun ls hl => ?_)
    refine lv_iload hx hb dX11_ticksOf_16 (lv_at hl 0 rfl) ?_
    refine lv_aload_n hx hb dX11_ticksOf_18 rfl (lv_at hl 1 rfl) ?_
    refine zg_Model_holds X hW h0 zu_1031 dX11_ticksOf_19 ?_
    refine lv_iconst hx hb dX11_ticksOf_22 zc_i3 ?_
    obtain ⟨g, h⟩ := h
    refine ziald X hW h0.2.2.2.2.1 g dX11_ticksOf_23 ?_
    refine lv_if_ne (tgt := 31) hx hb dX11_ticksOf_24 rfl (fun c => ?_) (fun c => ?_)
    · replace h := h.1 c
      refine lv_aload_n hx hb dX11_ticksOf_31 rfl (lv_at hl 1 rfl) ?_
      refine zg_Model_bench X hW h0 zu_1036 dX11_ticksOf_32 ?_
      refine lv_aload_n hx hb dX11_ticksOf_35 rfl (lv_at hl 1 rfl) ?_
      refine lv_iload_n hx hb dX11_ticksOf_36 rfl (lv_at hl 2 rfl) ?_
      refine lv_iload_n hx hb dX11_ticksOf_37 rfl (lv_at hl 3 rfl) ?_
      refine lv_iload_n hx hb dX11_ticksOf_38 rfl (lv_at hl 4 rfl) ?_
      refine zcalli (zrunV (As := [.int a1, .int a2, .int a3]) (rest := [.ref (zad w 6), .int zx1]) X hml hl hW h0.1 rfl zk_Model_185 (c_Model_learntAt h0 h) rfl ⟨Nat.le_of_ble_eq_true rfl, Nat.le_of_ble_eq_true rfl⟩ ⟨Nat.le_refl 0, Nat.le_refl 0⟩ rfl (Nat.le_of_ble_eq_true rfl) dX11_ticksOf_39) hW (fun zr3 zm2 H locs h hW => ?_)
      obtain ⟨g, h⟩ := h
      refine ziald X hW h0.2.2.2.2.2.2.1 g dX11_ticksOf_42 ?_
      refine lv_aload_n hx hb dX11_ticksOf_43 rfl (lv_at hl 1 rfl) ?_
      refine zg_Model_holds X hW h0 zu_1031 dX11_ticksOf_44 ?_
      refine lv_iconst hx hb dX11_ticksOf_47 zc_i3 ?_
      obtain ⟨g, h⟩ := h
      refine ziald X hW h0.2.2.2.2.1 g dX11_ticksOf_48 ?_
      obtain ⟨g, h⟩ := h
      refine lv_idiv hx hb dX11_ticksOf_49 g ?_
      refine lv_isub hx hb dX11_ticksOf_50 ?_
      refine lv_topi (fun zx4 ezx4 => ?_)
      replace h := h zx4 ezx4
      refine lv_istore (lv' := [(4, .int zx4), (0, .ref (zad w 0)), (1, .int a1), (2, .int a2), (3, .int a3)]) hx hb dX11_ticksOf_51 hl (Nat.le_of_ble_eq_true rfl) rfl (fun ls hl => ?_)
      refine lv_iload hx hb dX11_ticksOf_53 (lv_at hl 0 rfl) ?_
      refine lv_iconst hx hb dX11_ticksOf_55 zc_i1 ?_
      refine lv_icmp_ge (tgt := 63) hx hb dX11_ticksOf_56 rfl (fun c => ?_) (fun c => ?_)
      · replace h := h.1 c
        refine lv_iload hx hb dX11_ticksOf_63 (lv_at hl 0 rfl) ?_
        exact zreti X hr hlk hW h dX11_ticksOf_65
      · replace h := h.2 c
        refine lv_iconst hx hb dX11_ticksOf_59 zc_i1 ?_
        refine lv_goto (tgt := 65) hx hb dX11_ticksOf_60 rfl ?_
        exact zreti X hr hlk hW h dX11_ticksOf_65
    · replace h := h.2 c
      refine lv_iconst hx hb dX11_ticksOf_27 zc_i0 ?_
      refine lv_goto (tgt := 50) hx hb dX11_ticksOf_28 rfl ?_
      refine lv_isub hx hb dX11_ticksOf_50 ?_
      refine lv_topi (fun zx5 ezx5 => ?_)
      replace h := h zx5 ezx5
      refine lv_istore (lv' := [(4, .int zx5), (0, .ref (zad w 0)), (1, .int a1), (2, .int a2), (3, .int a3)]) hx hb dX11_ticksOf_51 hl (Nat.le_of_ble_eq_true rfl) rfl (fun ls hl => ?_)
      refine lv_iload hx hb dX11_ticksOf_53 (lv_at hl 0 rfl) ?_
      refine lv_iconst hx hb dX11_ticksOf_55 zc_i1 ?_
      refine lv_icmp_ge (tgt := 63) hx hb dX11_ticksOf_56 rfl (fun c => ?_) (fun c => ?_)
      · replace h := h.1 c
        refine lv_iload hx hb dX11_ticksOf_63 (lv_at hl 0 rfl) ?_
        exact zreti X hr hlk hW h dX11_ticksOf_65
      · replace h := h.2 c
        refine lv_iconst hx hb dX11_ticksOf_59 zc_i1 ?_
        refine lv_goto (tgt := 65) hx hb dX11_ticksOf_60 rfl ?_
        exact zreti X hr hlk hW h dX11_ticksOf_65
  exact zMain s.heap [] ls hW hl
def wpJ_Model_canBeLeft_37 (a1 : Int32) (a2 : Int32)  (Q : Int32 → zMem → Prop) (x_3 : Int32) (s_0 : Int32) (M : zMem) : Prop :=
  (¬ s_0 = 0 → Q 0 M) ∧ (s_0 = 0 → (¬ (M 0 19) = 2 → Q 1 M) ∧ ((M 0 19) = 2 → vp_in a2 5 ∧ (x_3 < (M 9 (ix a2)) → Q 0 M) ∧ (¬ x_3 < (M 9 (ix a2)) → Q 1 M)))
def wpJ_Model_canBeLeft_36 (a1 : Int32) (a2 : Int32)  (Q : Int32 → zMem → Prop) (x_3 : Int32)  (M : zMem) : Prop :=
  wpJ_Model_canBeLeft_37 a1 a2 Q x_3 0 M
def wp_Model_canBeLeft (a1 : Int32) (a2 : Int32) (M : zMem) (Q : Int32 → zMem → Prop) : Prop :=
  wp_Model_at a1 a2 2 M (fun zr2 zm1 => vp_in 5 100 ∧ (¬ (((zm1 4 (ix 5)) >>> (zr2 &&& 31)) &&& 1) = 1 → wpJ_Model_canBeLeft_36 a1 a2 Q zr2 zm1) ∧ ((((zm1 4 (ix 5)) >>> (zr2 &&& 31)) &&& 1) = 1 → wp_Model_at a1 a2 3 zm1 (fun zr4 zm3 => (zr4 ≤ 0 → wpJ_Model_canBeLeft_36 a1 a2 Q zr2 zm3) ∧ (¬ zr4 ≤ 0 → wpJ_Model_canBeLeft_37 a1 a2 Q zr2 1 zm3))))
set_option maxHeartbeats 4000000 in
set_option maxRecDepth 20000 in
theorem c_Model_canBeLeft {l : Launch} {w : zWd} {a1 : Int32} {a2 : Int32} {M : zMem} {post : Int32 → zMem → Prop} (h0 : zI_Model w) (h : wp_Model_canBeLeft a1 a2 M post) : zMi l ⟨"HandToHandModel", "canBeLeft", "(II)Z"⟩ prog_13_method_41_code 5 (Option.some .boolean) 2 48 w [.ref (zad w 0), .int a1, .int a2] M post := by
  refine zMet (by decide) (Nat.le_of_ble_eq_true rfl) ?_
  intro p e s m below meth c X hr hlk hml hW ls hl
  have hx := X.1
  have hb := X.2.1
  have hl : lv_has ls 5 [(0, .ref (zad w 0)), (1, .int a1), (2, .int a2)] := hl
  have zJ_37 : ∀ (x_3 : Int32) (s_0 : Int32) (M : zMem) (H : Heap) (locs : List Loc) (ls : Array Slot), zWo w s.heap M H locs → lv_has ls 5 [(0, .ref (zad w 0)), (2, .int a2), (3, .int x_3)] → wpJ_Model_canBeLeft_37 a1 a2 post x_3 s_0 M → W p l e (zRm 2 48) s m ([.ref (zad w 0), .int a1, .int a2] : List Value).toArray below meth c H locs 0 0 (MQ below (va_Qi post (zB w) (zA w)) ([.ref (zad w 0), .int a1, .int a2] : List Value).toArray s 0 0 (zA w)) (F0 m 37 ls [.int s_0]) := by
    intro x_3 s_0 M H locs ls hW hl h
    unfold wpJ_Model_canBeLeft_37 at h
    refine lv_istore (lv' := [(4, .int s_0), (0, .ref (zad w 0)), (2, .int a2), (3, .int x_3)]) hx hb dX11_canBeLeft_37 hl (Nat.le_of_ble_eq_true rfl) rfl (fun ls hl => ?_)
    refine lv_iload hx hb dX11_canBeLeft_39 (lv_at hl 0 rfl) ?_
    refine lv_if_ne (tgt := 66) hx hb dX11_canBeLeft_41 rfl (fun c => ?_) (fun c => ?_)
    · replace h := h.1 c
      refine lv_iconst hx hb dX11_canBeLeft_66 zc_i0 ?_
      exact zretz X hr hlk hW rfl h dX11_canBeLeft_67
    · replace h := h.2 c
      refine lv_aload_n hx hb dX11_canBeLeft_44 rfl (lv_at hl 1 rfl) ?_
      refine zg_Model_ruleNow X hW h0 zu_1039 dX11_canBeLeft_45 ?_
      refine lv_iconst hx hb dX11_canBeLeft_48 zc_i2 ?_
      refine lv_icmp_ne (tgt := 62) hx hb dX11_canBeLeft_49 rfl (fun c => ?_) (fun c => ?_)
      · replace h := h.1 c
        refine lv_iconst hx hb dX11_canBeLeft_62 zc_i1 ?_
        refine lv_goto (tgt := 67) hx hb dX11_canBeLeft_63 rfl ?_
        exact zretz X hr hlk hW rfl h dX11_canBeLeft_67
      · replace h := h.2 c
        refine lv_iload_n hx hb dX11_canBeLeft_52 rfl (lv_at hl 3 rfl) ?_
        refine lv_aload_n hx hb dX11_canBeLeft_53 rfl (lv_at hl 1 rfl) ?_
        refine zg_Model_ends X hW h0 zu_1041 dX11_canBeLeft_54 ?_
        refine lv_iload_n hx hb dX11_canBeLeft_57 rfl (lv_at hl 2 rfl) ?_
        obtain ⟨g, h⟩ := h
        refine ziald X hW h0.2.2.2.2.2.2.2.2.1 g dX11_canBeLeft_58 ?_
        refine lv_icmp_lt (tgt := 66) hx hb dX11_canBeLeft_59 rfl (fun c => ?_) (fun c => ?_)
        · replace h := h.1 c
          refine lv_iconst hx hb dX11_canBeLeft_66 zc_i0 ?_
          exact zretz X hr hlk hW rfl h dX11_canBeLeft_67
        · replace h := h.2 c
          refine lv_iconst hx hb dX11_canBeLeft_62 zc_i1 ?_
          refine lv_goto (tgt := 67) hx hb dX11_canBeLeft_63 rfl ?_
          exact zretz X hr hlk hW rfl h dX11_canBeLeft_67
  have zJ_36 : ∀ (x_3 : Int32) (M : zMem) (H : Heap) (locs : List Loc) (ls : Array Slot), zWo w s.heap M H locs → lv_has ls 5 [(0, .ref (zad w 0)), (2, .int a2), (3, .int x_3)] → wpJ_Model_canBeLeft_36 a1 a2 post x_3 M → W p l e (zRm 2 48) s m ([.ref (zad w 0), .int a1, .int a2] : List Value).toArray below meth c H locs 0 0 (MQ below (va_Qi post (zB w) (zA w)) ([.ref (zad w 0), .int a1, .int a2] : List Value).toArray s 0 0 (zA w)) (F0 m 36 ls []) := by
    intro x_3 M H locs ls hW hl h
    unfold wpJ_Model_canBeLeft_36 at h
    refine lv_iconst hx hb dX11_canBeLeft_36 zc_i0 ?_
    exact zJ_37 x_3 0 M H locs ls hW (lv_sub hl [0, 1, 2] rfl) h
  unfold wp_Model_canBeLeft at h
  have zMain : ∀ (H : Heap) (locs : List Loc) (ls : Array Slot), zWo w s.heap M H locs → lv_has ls 5 [(0, .ref (zad w 0)), (1, .int a1), (2, .int a2)] → W p l e (zRm 2 48) s m ([.ref (zad w 0), .int a1, .int a2] : List Value).toArray below meth c H locs 0 0 (MQ below (va_Qi post (zB w) (zA w)) ([.ref (zad w 0), .int a1, .int a2] : List Value).toArray s 0 0 (zA w)) (F0 m 0 ls []) := by
    intro H locs ls hW hl
    refine lv_aload_n hx hb dX11_canBeLeft_0 rfl (lv_at hl 0 rfl) ?_
    refine lv_iload_n hx hb dX11_canBeLeft_1 rfl (lv_at hl 1 rfl) ?_
    refine lv_iload_n hx hb dX11_canBeLeft_2 rfl (lv_at hl 2 rfl) ?_
    refine lv_iconst hx hb dX11_canBeLeft_3 zc_i2 ?_
    refine zcalli (zrunV (As := [.int a1, .int a2, .int 2]) (rest := []) X hml hl hW h0.1 rfl zk_Model_195 (c_Model_at h0 h) rfl ⟨Nat.le_of_ble_eq_true rfl, Nat.le_of_ble_eq_true rfl⟩ ⟨Nat.le_refl 0, Nat.le_refl 0⟩ rfl (Nat.le_of_ble_eq_true rfl) dX11_canBeLeft_4) hW (fun zr2 zm1 H locs h hW => ?_)
    refine lv_istore_n (lv' := [(3, .int zr2), (0, .ref (zad w 0)), (1, .int a1), (2, .int a2)]) hx hb dX11_canBeLeft_7 rfl hl (Nat.le_of_ble_eq_true rfl) rfl (fun ls hl => ?_)
    refine lv_aload_n hx hb dX11_canBeLeft_8 rfl (lv_at hl 1 rfl) ?_
    refine zg_Model_holds X hW h0 zu_1031 dX11_canBeLeft_9 ?_
    refine lv_iconst hx hb dX11_canBeLeft_12 zc_i5 ?_
    obtain ⟨g, h⟩ := h
    refine ziald X hW h0.2.2.2.2.1 g dX11_canBeLeft_13 ?_
    refine lv_iload_n hx hb dX11_canBeLeft_14 rfl (lv_at hl 0 rfl) ?_
    refine lv_ishr hx hb dX11_canBeLeft_15 ?_
    refine lv_iconst hx hb dX11_canBeLeft_16 zc_i1 ?_
    refine lv_iand hx hb dX11_canBeLeft_17 ?_
    refine lv_iconst hx hb dX11_canBeLeft_18 zc_i1 ?_
    refine lv_icmp_ne (tgt := 36) hx hb dX11_canBeLeft_19 rfl (fun c => ?_) (fun c => ?_)
    · replace h := h.1 c
      exact zJ_36 zr2 zm1 H locs ls hW (lv_sub hl [1, 3, 0] rfl) h
    · replace h := h.2 c
      refine lv_aload_n hx hb dX11_canBeLeft_22 rfl (lv_at hl 1 rfl) ?_
      refine lv_iload_n hx hb dX11_canBeLeft_23 rfl (lv_at hl 2 rfl) ?_
      refine lv_iload_n hx hb dX11_canBeLeft_24 rfl (lv_at hl 3 rfl) ?_
      refine lv_iconst hx hb dX11_canBeLeft_25 zc_i3 ?_
      refine zcalli (zrunV (As := [.int a1, .int a2, .int 3]) (rest := []) X hml hl hW h0.1 rfl zk_Model_195 (c_Model_at h0 h) rfl ⟨Nat.le_of_ble_eq_true rfl, Nat.le_of_ble_eq_true rfl⟩ ⟨Nat.le_refl 0, Nat.le_refl 0⟩ rfl (Nat.le_of_ble_eq_true rfl) dX11_canBeLeft_26) hW (fun zr4 zm3 H locs h hW => ?_)
      refine lv_if_le (tgt := 36) hx hb dX11_canBeLeft_29 rfl (fun c => ?_) (fun c => ?_)
      · replace h := h.1 c
        exact zJ_36 zr2 zm3 H locs ls hW (lv_sub hl [1, 3, 0] rfl) h
      · replace h := h.2 c
        refine lv_iconst hx hb dX11_canBeLeft_32 zc_i1 ?_
        refine lv_goto (tgt := 37) hx hb dX11_canBeLeft_33 rfl ?_
        exact zJ_37 zr2 1 zm3 H locs ls hW (lv_sub hl [1, 3, 0] rfl) h
  exact zMain s.heap [] ls hW hl
def wp_Model_of (a1 : Int32) (a2 : Int32) (M : zMem) (Q : Int32 → zMem → Prop) : Prop :=
  vp_in ((96 * a1) + a2) 384 ∧ Q (M 6 (ix ((96 * a1) + a2))) M
set_option maxHeartbeats 4000000 in
set_option maxRecDepth 20000 in
theorem c_Model_of {l : Launch} {w : zWd} {a1 : Int32} {a2 : Int32} {M : zMem} {post : Int32 → zMem → Prop} (h0 : zI_Model w) (h : wp_Model_of a1 a2 M post) : zMi l ⟨"HandToHandModel", "of", "(II)I"⟩ prog_13_method_32_code 3 (Option.some .int) 0 0 w [.ref (zad w 0), .int a1, .int a2] M post := by
  refine zMet (by decide) (Nat.le_of_ble_eq_true rfl) ?_
  intro p e s m below meth c X hr hlk hml hW ls hl
  have hx := X.1
  have hb := X.2.1
  have hl : lv_has ls 3 [(0, .ref (zad w 0)), (1, .int a1), (2, .int a2)] := hl
  unfold wp_Model_of at h
  have zMain : ∀ (H : Heap) (locs : List Loc) (ls : Array Slot), zWo w s.heap M H locs → lv_has ls 3 [(0, .ref (zad w 0)), (1, .int a1), (2, .int a2)] → W p l e (zRm 0 0) s m ([.ref (zad w 0), .int a1, .int a2] : List Value).toArray below meth c H locs 0 0 (MQ below (va_Qi post (zB w) (zA w)) ([.ref (zad w 0), .int a1, .int a2] : List Value).toArray s 0 0 (zA w)) (F0 m 0 ls []) := by
    intro H locs ls hW hl
    refine lv_aload_n hx hb dX11_of_0 rfl (lv_at hl 0 rfl) ?_
    refine zg_Model_bench X hW h0 zu_1036 dX11_of_1 ?_
    refine lv_bipush hx hb dX11_of_4 zc_b96 ?_
    refine lv_iload_n hx hb dX11_of_6 rfl (lv_at hl 1 rfl) ?_
    refine lv_imul hx hb dX11_of_7 ?_
    refine lv_iload_n hx hb dX11_of_8 rfl (lv_at hl 2 rfl) ?_
    refine lv_iadd hx hb dX11_of_9 ?_
    obtain ⟨g, h⟩ := h
    refine ziald X hW h0.2.2.2.2.2.2.1 g dX11_of_10 ?_
    exact zreti X hr hlk hW h dX11_of_11
  exact zMain s.heap [] ls hW hl
def wp_Model_more (a1 : Int32) (a2 : Int32) (a3 : Int32) (M : zMem) (Q : zMem → Prop) : Prop :=
  vp_in ((96 * a1) + a2) 384 ∧ vp_in ((96 * a1) + a2) 384 ∧ ∀ zm1 : zMem, zm1 = zup M 6 (ix ((96 * a1) + a2)) ((M 6 (ix ((96 * a1) + a2))) + a3) → Q zm1
set_option maxHeartbeats 4000000 in
set_option maxRecDepth 20000 in
theorem c_Model_more {l : Launch} {w : zWd} {a1 : Int32} {a2 : Int32} {a3 : Int32} {M : zMem} {post : zMem → Prop} (h0 : zI_Model w) (h : wp_Model_more a1 a2 a3 M post) : zMv l ⟨"HandToHandModel", "more", "(III)V"⟩ prog_13_method_33_code 4 none 0 0 w [.ref (zad w 0), .int a1, .int a2, .int a3] M post := by
  refine zMet (by decide) (Nat.le_of_ble_eq_true rfl) ?_
  intro p e s m below meth c X hr hlk hml hW ls hl
  have hx := X.1
  have hb := X.2.1
  have hl : lv_has ls 4 [(0, .ref (zad w 0)), (1, .int a1), (2, .int a2), (3, .int a3)] := hl
  unfold wp_Model_more at h
  have zMain : ∀ (H : Heap) (locs : List Loc) (ls : Array Slot), zWo w s.heap M H locs → lv_has ls 4 [(0, .ref (zad w 0)), (1, .int a1), (2, .int a2), (3, .int a3)] → W p l e (zRm 0 0) s m ([.ref (zad w 0), .int a1, .int a2, .int a3] : List Value).toArray below meth c H locs 0 0 (MQ below (va_Qv post (zB w) (zA w)) ([.ref (zad w 0), .int a1, .int a2, .int a3] : List Value).toArray s 0 0 (zA w)) (F0 m 0 ls []) := by
    intro H locs ls hW hl
    refine lv_aload_n hx hb dX11_more_0 rfl (lv_at hl 0 rfl) ?_
    refine zg_Model_bench X hW h0 zu_1036 dX11_more_1 ?_
    refine lv_bipush hx hb dX11_more_4 zc_b96 ?_
    refine lv_iload_n hx hb dX11_more_6 rfl (lv_at hl 1 rfl) ?_
    refine lv_imul hx hb dX11_more_7 ?_
    refine lv_iload_n hx hb dX11_more_8 rfl (lv_at hl 2 rfl) ?_
    refine lv_iadd hx hb dX11_more_9 ?_
    refine lv_dup2_11 hx hb dX11_more_10 rfl rfl ?_
    obtain ⟨g, h⟩ := h
    refine ziald X hW h0.2.2.2.2.2.2.1 g dX11_more_11 ?_
    refine lv_iload_n hx hb dX11_more_12 rfl (lv_at hl 3 rfl) ?_
    refine lv_iadd hx hb dX11_more_13 ?_
    obtain ⟨g, h⟩ := h
    refine ziast X hW h0.2.2.2.2.2.2.1 g dX11_more_14 (fun H locs zm1 ezm1 hW => ?_)
    replace h := h zm1 ezm1
    exact zretv X hr hlk hW h dX11_more_15
  exact zMain s.heap [] ls hW hl
def wp_Model_pieceOr0 (a1 : Int32) (a2 : Int32) (M : zMem) (Q : Int32 → zMem → Prop) : Prop :=
  wp_Model_at a1 a2 2 M (fun zr2 zm1 => (¬ zr2 = (-4) → Q zr2 zm1) ∧ (zr2 = (-4) → Q 0 zm1))
set_option maxHeartbeats 4000000 in
set_option maxRecDepth 20000 in
theorem c_Model_pieceOr0 {l : Launch} {w : zWd} {a1 : Int32} {a2 : Int32} {M : zMem} {post : Int32 → zMem → Prop} (h0 : zI_Model w) (h : wp_Model_pieceOr0 a1 a2 M post) : zMi l ⟨"HandToHandModel", "pieceOr0", "(II)I"⟩ prog_13_method_37_code 4 (Option.some .int) 2 48 w [.ref (zad w 0), .int a1, .int a2] M post := by
  refine zMet (by decide) (Nat.le_of_ble_eq_true rfl) ?_
  intro p e s m below meth c X hr hlk hml hW ls hl
  have hx := X.1
  have hb := X.2.1
  have hl : lv_has ls 4 [(0, .ref (zad w 0)), (1, .int a1), (2, .int a2)] := hl
  unfold wp_Model_pieceOr0 at h
  have zMain : ∀ (H : Heap) (locs : List Loc) (ls : Array Slot), zWo w s.heap M H locs → lv_has ls 4 [(0, .ref (zad w 0)), (1, .int a1), (2, .int a2)] → W p l e (zRm 2 48) s m ([.ref (zad w 0), .int a1, .int a2] : List Value).toArray below meth c H locs 0 0 (MQ below (va_Qi post (zB w) (zA w)) ([.ref (zad w 0), .int a1, .int a2] : List Value).toArray s 0 0 (zA w)) (F0 m 0 ls []) := by
    intro H locs ls hW hl
    refine lv_aload_n hx hb dX11_pieceOr0_0 rfl (lv_at hl 0 rfl) ?_
    refine lv_iload_n hx hb dX11_pieceOr0_1 rfl (lv_at hl 1 rfl) ?_
    refine lv_iload_n hx hb dX11_pieceOr0_2 rfl (lv_at hl 2 rfl) ?_
    refine lv_iconst hx hb dX11_pieceOr0_3 zc_i2 ?_
    refine zcalli (zrunV (As := [.int a1, .int a2, .int 2]) (rest := []) X hml hl hW h0.1 rfl zk_Model_195 (c_Model_at h0 h) rfl ⟨Nat.le_of_ble_eq_true rfl, Nat.le_of_ble_eq_true rfl⟩ ⟨Nat.le_refl 0, Nat.le_refl 0⟩ rfl (Nat.le_of_ble_eq_true rfl) dX11_pieceOr0_4) hW (fun zr2 zm1 H locs h hW => ?_)
    refine lv_istore_n (lv' := [(3, .int zr2), (0, .ref (zad w 0)), (1, .int a1), (2, .int a2)]) hx hb dX11_pieceOr0_7 rfl hl (Nat.le_of_ble_eq_true rfl) rfl (fun ls hl => ?_)
    refine lv_iload_n hx hb dX11_pieceOr0_8 rfl (lv_at hl 0 rfl) ?_
    refine lv_bipush hx hb dX11_pieceOr0_9 zc_bm4 ?_
    refine lv_icmp_ne (tgt := 18) hx hb dX11_pieceOr0_11 rfl (fun c => ?_) (fun c => ?_)
    · replace h := h.1 c
      refine lv_iload_n hx hb dX11_pieceOr0_18 rfl (lv_at hl 0 rfl) ?_
      exact zreti X hr hlk hW h dX11_pieceOr0_19
    · replace h := h.2 c
      refine lv_iconst hx hb dX11_pieceOr0_14 zc_i0 ?_
      refine lv_goto (tgt := 19) hx hb dX11_pieceOr0_15 rfl ?_
      exact zreti X hr hlk hW h dX11_pieceOr0_19
  exact zMain s.heap [] ls hW hl
def wpJ_Model_goesBack_38 (a1 : Int32) (a2 : Int32) (a3 : Int32)  (Q : zMem → Prop)  (s_0 : Int32) (M : zMem) : Prop :=
  (s_0 ≤ 0 → wp_Model_put a1 a2 0 0 M (fun zm3 => wp_Model_put a1 a2 1 s_0 zm3 (fun zm5 => wp_Model_put a1 a2 2 (-4) zm5 (fun zm7 => wp_Model_put a1 a2 3 (-4) zm7 (fun zm9 => wp_Model_put a1 a2 4 (-4) zm9 (fun zm11 => Q zm11)))))) ∧ (¬ s_0 ≤ 0 → wp_Model_put a1 a2 0 1 M (fun zm13 => wp_Model_put a1 a2 1 s_0 zm13 (fun zm15 => wp_Model_put a1 a2 2 (-4) zm15 (fun zm17 => wp_Model_put a1 a2 3 (-4) zm17 (fun zm19 => wp_Model_put a1 a2 4 (-4) zm19 (fun zm21 => Q zm21))))))
def wpJ_Model_goesBack_25 (a1 : Int32) (a2 : Int32) (a3 : Int32)  (Q : zMem → Prop)  (s_0 : Int32) (M : zMem) : Prop :=
  (0 ≤ s_0 → wpJ_Model_goesBack_38 a1 a2 a3 Q s_0 M) ∧ (¬ 0 ≤ s_0 → wpJ_Model_goesBack_38 a1 a2 a3 Q 0 M)
def wp_Model_goesBack (a1 : Int32) (a2 : Int32) (a3 : Int32) (M : zMem) (Q : zMem → Prop) : Prop :=
  (¬ a2 = 0 → vp_in 2 100 ∧ wp_Model_pieceOr0 a1 (a2 - 1) M (fun zr2 zm1 => wpJ_Model_goesBack_25 a1 a2 a3 Q ((M 4 (ix 2)) * (a3 - zr2)) zm1)) ∧ (a2 = 0 → wpJ_Model_goesBack_25 a1 a2 a3 Q 0 M)
set_option maxHeartbeats 4000000 in
set_option maxRecDepth 20000 in
theorem c_Model_goesBack {l : Launch} {w : zWd} {a1 : Int32} {a2 : Int32} {a3 : Int32} {M : zMem} {post : zMem → Prop} (h0 : zI_Model w) (h : wp_Model_goesBack a1 a2 a3 M post) : zMv l ⟨"HandToHandModel", "goesBack", "(III)V"⟩ prog_13_method_38_code 5 none 3 71 w [.ref (zad w 0), .int a1, .int a2, .int a3] M post := by
  refine zMet (by decide) (Nat.le_of_ble_eq_true rfl) ?_
  intro p e s m below meth c X hr hlk hml hW ls hl
  have hx := X.1
  have hb := X.2.1
  have hl : lv_has ls 5 [(0, .ref (zad w 0)), (1, .int a1), (2, .int a2), (3, .int a3)] := hl
  have zJ_38 : ∀ (s_0 : Int32) (M : zMem) (H : Heap) (locs : List Loc) (ls : Array Slot), zWo w s.heap M H locs → lv_has ls 5 [(0, .ref (zad w 0)), (1, .int a1), (2, .int a2)] → wpJ_Model_goesBack_38 a1 a2 a3 post s_0 M → W p l e (zRm 3 71) s m ([.ref (zad w 0), .int a1, .int a2, .int a3] : List Value).toArray below meth c H locs 0 0 (MQ below (va_Qv post (zB w) (zA w)) ([.ref (zad w 0), .int a1, .int a2, .int a3] : List Value).toArray s 0 0 (zA w)) (F0 m 38 ls [.int s_0]) := by
    intro s_0 M H locs ls hW hl h
    unfold wpJ_Model_goesBack_38 at h
    refine lv_istore (lv' := [(4, .int s_0), (0, .ref (zad w 0)), (1, .int a1), (2, .int a2)]) hx hb dX11_goesBack_38 hl (Nat.le_of_ble_eq_true rfl) rfl (fun ls hl => ?_)
    refine lv_aload_n hx hb dX11_goesBack_40 rfl (lv_at hl 1 rfl) ?_
    refine lv_iload_n hx hb dX11_goesBack_41 rfl (lv_at hl 2 rfl) ?_
    refine lv_iload_n hx hb dX11_goesBack_42 rfl (lv_at hl 3 rfl) ?_
    refine lv_iconst hx hb dX11_goesBack_43 zc_i0 ?_
    refine lv_iload hx hb dX11_goesBack_44 (lv_at hl 0 rfl) ?_
    refine lv_if_le (tgt := 53) hx hb dX11_goesBack_46 rfl (fun c => ?_) (fun c => ?_)
    · replace h := h.1 c
      refine lv_iconst hx hb dX11_goesBack_53 zc_i0 ?_
      refine zcallv (zrunV (As := [.int a1, .int a2, .int 0, .int 0]) (rest := []) X hml hl hW h0.1 rfl zk_Model_201 (c_Model_put h0 h) rfl ⟨Nat.le_of_ble_eq_true rfl, Nat.le_of_ble_eq_true rfl⟩ ⟨Nat.le_refl 0, Nat.le_refl 0⟩ rfl (Nat.le_of_ble_eq_true rfl) dX11_goesBack_54) hW (fun zm3 H locs h hW => ?_)
      refine lv_aload_n hx hb dX11_goesBack_57 rfl (lv_at hl 1 rfl) ?_
      refine lv_iload_n hx hb dX11_goesBack_58 rfl (lv_at hl 2 rfl) ?_
      refine lv_iload_n hx hb dX11_goesBack_59 rfl (lv_at hl 3 rfl) ?_
      refine lv_iconst hx hb dX11_goesBack_60 zc_i1 ?_
      refine lv_iload hx hb dX11_goesBack_61 (lv_at hl 0 rfl) ?_
      refine zcallv (zrunV (As := [.int a1, .int a2, .int 1, .int s_0]) (rest := []) X hml hl hW h0.1 rfl zk_Model_201 (c_Model_put h0 h) rfl ⟨Nat.le_of_ble_eq_true rfl, Nat.le_of_ble_eq_true rfl⟩ ⟨Nat.le_refl 0, Nat.le_refl 0⟩ rfl (Nat.le_of_ble_eq_true rfl) dX11_goesBack_63) hW (fun zm5 H locs h hW => ?_)
      refine lv_aload_n hx hb dX11_goesBack_66 rfl (lv_at hl 1 rfl) ?_
      refine lv_iload_n hx hb dX11_goesBack_67 rfl (lv_at hl 2 rfl) ?_
      refine lv_iload_n hx hb dX11_goesBack_68 rfl (lv_at hl 3 rfl) ?_
      refine lv_iconst hx hb dX11_goesBack_69 zc_i2 ?_
      refine lv_bipush hx hb dX11_goesBack_70 zc_bm4 ?_
      refine zcallv (zrunV (As := [.int a1, .int a2, .int 2, .int ((-4))]) (rest := []) X hml hl hW h0.1 rfl zk_Model_201 (c_Model_put h0 h) rfl ⟨Nat.le_of_ble_eq_true rfl, Nat.le_of_ble_eq_true rfl⟩ ⟨Nat.le_refl 0, Nat.le_refl 0⟩ rfl (Nat.le_of_ble_eq_true rfl) dX11_goesBack_72) hW (fun zm7 H locs h hW => ?_)
      refine lv_aload_n hx hb dX11_goesBack_75 rfl (lv_at hl 1 rfl) ?_
      refine lv_iload_n hx hb dX11_goesBack_76 rfl (lv_at hl 2 rfl) ?_
      refine lv_iload_n hx hb dX11_goesBack_77 rfl (lv_at hl 3 rfl) ?_
      refine lv_iconst hx hb dX11_goesBack_78 zc_i3 ?_
      refine lv_bipush hx hb dX11_goesBack_79 zc_bm4 ?_
      refine zcallv (zrunV (As := [.int a1, .int a2, .int 3, .int ((-4))]) (rest := []) X hml hl hW h0.1 rfl zk_Model_201 (c_Model_put h0 h) rfl ⟨Nat.le_of_ble_eq_true rfl, Nat.le_of_ble_eq_true rfl⟩ ⟨Nat.le_refl 0, Nat.le_refl 0⟩ rfl (Nat.le_of_ble_eq_true rfl) dX11_goesBack_81) hW (fun zm9 H locs h hW => ?_)
      refine lv_aload_n hx hb dX11_goesBack_84 rfl (lv_at hl 1 rfl) ?_
      refine lv_iload_n hx hb dX11_goesBack_85 rfl (lv_at hl 2 rfl) ?_
      refine lv_iload_n hx hb dX11_goesBack_86 rfl (lv_at hl 3 rfl) ?_
      refine lv_iconst hx hb dX11_goesBack_87 zc_i4 ?_
      refine lv_bipush hx hb dX11_goesBack_88 zc_bm4 ?_
      refine zcallv (zrunV (As := [.int a1, .int a2, .int 4, .int ((-4))]) (rest := []) X hml hl hW h0.1 rfl zk_Model_201 (c_Model_put h0 h) rfl ⟨Nat.le_of_ble_eq_true rfl, Nat.le_of_ble_eq_true rfl⟩ ⟨Nat.le_refl 0, Nat.le_refl 0⟩ rfl (Nat.le_of_ble_eq_true rfl) dX11_goesBack_90) hW (fun zm11 H locs h hW => ?_)
      exact zretv X hr hlk hW h dX11_goesBack_93
    · replace h := h.2 c
      refine lv_iconst hx hb dX11_goesBack_49 zc_i1 ?_
      refine lv_goto (tgt := 54) hx hb dX11_goesBack_50 rfl ?_
      refine zcallv (zrunV (As := [.int a1, .int a2, .int 0, .int 1]) (rest := []) X hml hl hW h0.1 rfl zk_Model_201 (c_Model_put h0 h) rfl ⟨Nat.le_of_ble_eq_true rfl, Nat.le_of_ble_eq_true rfl⟩ ⟨Nat.le_refl 0, Nat.le_refl 0⟩ rfl (Nat.le_of_ble_eq_true rfl) dX11_goesBack_54) hW (fun zm13 H locs h hW => ?_)
      refine lv_aload_n hx hb dX11_goesBack_57 rfl (lv_at hl 1 rfl) ?_
      refine lv_iload_n hx hb dX11_goesBack_58 rfl (lv_at hl 2 rfl) ?_
      refine lv_iload_n hx hb dX11_goesBack_59 rfl (lv_at hl 3 rfl) ?_
      refine lv_iconst hx hb dX11_goesBack_60 zc_i1 ?_
      refine lv_iload hx hb dX11_goesBack_61 (lv_at hl 0 rfl) ?_
      refine zcallv (zrunV (As := [.int a1, .int a2, .int 1, .int s_0]) (rest := []) X hml hl hW h0.1 rfl zk_Model_201 (c_Model_put h0 h) rfl ⟨Nat.le_of_ble_eq_true rfl, Nat.le_of_ble_eq_true rfl⟩ ⟨Nat.le_refl 0, Nat.le_refl 0⟩ rfl (Nat.le_of_ble_eq_true rfl) dX11_goesBack_63) hW (fun zm15 H locs h hW => ?_)
      refine lv_aload_n hx hb dX11_goesBack_66 rfl (lv_at hl 1 rfl) ?_
      refine lv_iload_n hx hb dX11_goesBack_67 rfl (lv_at hl 2 rfl) ?_
      refine lv_iload_n hx hb dX11_goesBack_68 rfl (lv_at hl 3 rfl) ?_
      refine lv_iconst hx hb dX11_goesBack_69 zc_i2 ?_
      refine lv_bipush hx hb dX11_goesBack_70 zc_bm4 ?_
      refine zcallv (zrunV (As := [.int a1, .int a2, .int 2, .int ((-4))]) (rest := []) X hml hl hW h0.1 rfl zk_Model_201 (c_Model_put h0 h) rfl ⟨Nat.le_of_ble_eq_true rfl, Nat.le_of_ble_eq_true rfl⟩ ⟨Nat.le_refl 0, Nat.le_refl 0⟩ rfl (Nat.le_of_ble_eq_true rfl) dX11_goesBack_72) hW (fun zm17 H locs h hW => ?_)
      refine lv_aload_n hx hb dX11_goesBack_75 rfl (lv_at hl 1 rfl) ?_
      refine lv_iload_n hx hb dX11_goesBack_76 rfl (lv_at hl 2 rfl) ?_
      refine lv_iload_n hx hb dX11_goesBack_77 rfl (lv_at hl 3 rfl) ?_
      refine lv_iconst hx hb dX11_goesBack_78 zc_i3 ?_
      refine lv_bipush hx hb dX11_goesBack_79 zc_bm4 ?_
      refine zcallv (zrunV (As := [.int a1, .int a2, .int 3, .int ((-4))]) (rest := []) X hml hl hW h0.1 rfl zk_Model_201 (c_Model_put h0 h) rfl ⟨Nat.le_of_ble_eq_true rfl, Nat.le_of_ble_eq_true rfl⟩ ⟨Nat.le_refl 0, Nat.le_refl 0⟩ rfl (Nat.le_of_ble_eq_true rfl) dX11_goesBack_81) hW (fun zm19 H locs h hW => ?_)
      refine lv_aload_n hx hb dX11_goesBack_84 rfl (lv_at hl 1 rfl) ?_
      refine lv_iload_n hx hb dX11_goesBack_85 rfl (lv_at hl 2 rfl) ?_
      refine lv_iload_n hx hb dX11_goesBack_86 rfl (lv_at hl 3 rfl) ?_
      refine lv_iconst hx hb dX11_goesBack_87 zc_i4 ?_
      refine lv_bipush hx hb dX11_goesBack_88 zc_bm4 ?_
      refine zcallv (zrunV (As := [.int a1, .int a2, .int 4, .int ((-4))]) (rest := []) X hml hl hW h0.1 rfl zk_Model_201 (c_Model_put h0 h) rfl ⟨Nat.le_of_ble_eq_true rfl, Nat.le_of_ble_eq_true rfl⟩ ⟨Nat.le_refl 0, Nat.le_refl 0⟩ rfl (Nat.le_of_ble_eq_true rfl) dX11_goesBack_90) hW (fun zm21 H locs h hW => ?_)
      exact zretv X hr hlk hW h dX11_goesBack_93
  have zJ_25 : ∀ (s_0 : Int32) (M : zMem) (H : Heap) (locs : List Loc) (ls : Array Slot), zWo w s.heap M H locs → lv_has ls 5 [(0, .ref (zad w 0)), (1, .int a1), (2, .int a2)] → wpJ_Model_goesBack_25 a1 a2 a3 post s_0 M → W p l e (zRm 3 71) s m ([.ref (zad w 0), .int a1, .int a2, .int a3] : List Value).toArray below meth c H locs 0 0 (MQ below (va_Qv post (zB w) (zA w)) ([.ref (zad w 0), .int a1, .int a2, .int a3] : List Value).toArray s 0 0 (zA w)) (F0 m 25 ls [.int s_0]) := by
    intro s_0 M H locs ls hW hl h
    unfold wpJ_Model_goesBack_25 at h
    refine lv_istore (lv' := [(4, .int s_0), (0, .ref (zad w 0)), (1, .int a1), (2, .int a2)]) hx hb dX11_goesBack_25 hl (Nat.le_of_ble_eq_true rfl) rfl (fun ls hl => ?_)
    refine lv_iload hx hb dX11_goesBack_27 (lv_at hl 0 rfl) ?_
    refine lv_if_ge (tgt := 36) hx hb dX11_goesBack_29 rfl (fun c => ?_) (fun c => ?_)
    · replace h := h.1 c
      refine lv_iload hx hb dX11_goesBack_36 (lv_at hl 0 rfl) ?_
      exact zJ_38 s_0 M H locs ls hW (lv_sub hl [1, 2, 3] rfl) h
    · replace h := h.2 c
      refine lv_iconst hx hb dX11_goesBack_32 zc_i0 ?_
      refine lv_goto (tgt := 38) hx hb dX11_goesBack_33 rfl ?_
      exact zJ_38 0 M H locs ls hW (lv_sub hl [1, 2, 3] rfl) h
  unfold wp_Model_goesBack at h
  have zMain : ∀ (H : Heap) (locs : List Loc) (ls : Array Slot), zWo w s.heap M H locs → lv_has ls 5 [(0, .ref (zad w 0)), (1, .int a1), (2, .int a2), (3, .int a3)] → W p l e (zRm 3 71) s m ([.ref (zad w 0), .int a1, .int a2, .int a3] : List Value).toArray below meth c H locs 0 0 (MQ below (va_Qv post (zB w) (zA w)) ([.ref (zad w 0), .int a1, .int a2, .int a3] : List Value).toArray s 0 0 (zA w)) (F0 m 0 ls []) := by
    intro H locs ls hW hl
    refine lv_iload_n hx hb dX11_goesBack_0 rfl (lv_at hl 2 rfl) ?_
    refine lv_if_ne (tgt := 8) hx hb dX11_goesBack_1 rfl (fun c => ?_) (fun c => ?_)
    · replace h := h.1 c
      refine lv_aload_n hx hb dX11_goesBack_8 rfl (lv_at hl 0 rfl) ?_
      refine zg_Model_holds X hW h0 zu_1031 dX11_goesBack_9 ?_
      refine lv_iconst hx hb dX11_goesBack_12 zc_i2 ?_
      obtain ⟨g, h⟩ := h
      refine ziald X hW h0.2.2.2.2.1 g dX11_goesBack_13 ?_
      refine lv_iload_n hx hb dX11_goesBack_14 rfl (lv_at hl 3 rfl) ?_
      refine lv_aload_n hx hb dX11_goesBack_15 rfl (lv_at hl 0 rfl) ?_
      refine lv_iload_n hx hb dX11_goesBack_16 rfl (lv_at hl 1 rfl) ?_
      refine lv_iload_n hx hb dX11_goesBack_17 rfl (lv_at hl 2 rfl) ?_
      refine lv_iconst hx hb dX11_goesBack_18 zc_i1 ?_
      refine lv_isub hx hb dX11_goesBack_19 ?_
      refine zcalli (zrunV (As := [.int a1, .int (a2 - 1)]) (rest := [.int a3, .int (M 4 (ix 2))]) X hml hl hW h0.1 rfl zk_Model_198 (c_Model_pieceOr0 h0 h) rfl ⟨Nat.le_of_ble_eq_true rfl, Nat.le_of_ble_eq_true rfl⟩ ⟨Nat.le_refl 0, Nat.le_refl 0⟩ rfl (Nat.le_of_ble_eq_true rfl) dX11_goesBack_20) hW (fun zr2 zm1 H locs h hW => ?_)
      refine lv_isub hx hb dX11_goesBack_23 ?_
      refine lv_imul hx hb dX11_goesBack_24 ?_
      exact zJ_25 ((M 4 (ix 2)) * (a3 - zr2)) zm1 H locs ls hW (lv_sub hl [0, 1, 2] rfl) h
    · replace h := h.2 c
      refine lv_iconst hx hb dX11_goesBack_4 zc_i0 ?_
      refine lv_goto (tgt := 25) hx hb dX11_goesBack_5 rfl ?_
      exact zJ_25 0 M H locs ls hW (lv_sub hl [0, 1, 2] rfl) h
  exact zMain s.heap [] ls hW hl
def wpJ_Model_takesOver_180 (a1 : Int32) (a2 : Int32)  (Q : Int32 → zMem → Prop) (x_3 : Int32)  (M : zMem) : Prop :=
  wp_Model_more a1 2 1 M (fun zm21 => wp_Model_goesBack a1 (a2 - 1) x_3 zm21 (fun zm23 => Q 1 zm23))
def wp_Model_takesOver (a1 : Int32) (a2 : Int32) (M : zMem) (Q : Int32 → zMem → Prop) : Prop :=
  wp_Model_at a1 (a2 - 1) 0 M (fun zr2 zm1 => (¬ zr2 = 2 → Q 0 zm1) ∧ (zr2 = 2 → wp_Model_canBeLeft a1 (a2 - 1) zm1 (fun zr4 zm3 => (¬ zr4 = 0 → wp_Model_at a1 (a2 - 1) 2 zm3 (fun zr6 zm5 => wp_Model_put a1 a2 0 2 zm5 (fun zm7 => wp_Model_put a1 a2 2 zr6 zm7 (fun zm9 => wp_Model_at a1 (a2 - 1) 3 zm9 (fun zr12 zm11 => wp_Model_put a1 a2 3 zr12 zm11 (fun zm13 => wp_Model_at a1 (a2 - 1) 4 zm13 (fun zr16 zm15 => wp_Model_put a1 a2 4 zr16 zm15 (fun zm17 => wp_Model_of a1 2 zm17 (fun zr20 zm19 => (¬ a1 = 1 → wpJ_Model_takesOver_180 a1 a2 Q zr6 zm19) ∧ (a1 = 1 → (600 ≤ zr20 → wpJ_Model_takesOver_180 a1 a2 Q zr6 zm19) ∧ (¬ 600 ≤ zr20 → wp_Model_of a1 0 zm19 (fun zr26 zm25 => vp_in (5 * zr20) 3000 ∧ ∀ zm27 : zMem, zm27 = zup zm25 10 (ix (5 * zr20)) zr26 → vp_in ((5 * zr20) + 1) 3000 ∧ ∀ zm28 : zMem, zm28 = zup zm27 10 (ix ((5 * zr20) + 1)) a2 → vp_in ((5 * zr20) + 2) 3000 ∧ ∀ zm29 : zMem, zm29 = zup zm28 10 (ix ((5 * zr20) + 2)) zr6 → wp_Model_at a1 a2 3 zm29 (fun zr31 zm30 => vp_in ((5 * zr20) + 3) 3000 ∧ ∀ zm32 : zMem, zm32 = zup zm30 10 (ix ((5 * zr20) + 3)) zr31 → wp_Model_at a1 a2 4 zm32 (fun zr34 zm33 => vp_in ((5 * zr20) + 4) 3000 ∧ ∀ zm35 : zMem, zm35 = zup zm33 10 (ix ((5 * zr20) + 4)) zr34 → wpJ_Model_takesOver_180 a1 a2 Q zr6 zm35)))))))))))))) ∧ (zr4 = 0 → Q 0 zm3))))
set_option maxHeartbeats 4000000 in
set_option maxRecDepth 20000 in
theorem c_Model_takesOver {l : Launch} {w : zWd} {a1 : Int32} {a2 : Int32} {M : zMem} {post : Int32 → zMem → Prop} (h0 : zI_Model w) (h : wp_Model_takesOver a1 a2 M post) : zMi l ⟨"HandToHandModel", "takesOver", "(II)Z"⟩ prog_13_method_42_code 5 (Option.some .boolean) 4 95 w [.ref (zad w 0), .int a1, .int a2] M post := by
  refine zMet (by decide) (Nat.le_of_ble_eq_true rfl) ?_
  intro p e s m below meth c X hr hlk hml hW ls hl
  have hx := X.1
  have hb := X.2.1
  have hl : lv_has ls 5 [(0, .ref (zad w 0)), (1, .int a1), (2, .int a2)] := hl
  have zJ_180 : ∀ (x_3 : Int32) (M : zMem) (H : Heap) (locs : List Loc) (ls : Array Slot), zWo w s.heap M H locs → lv_has ls 5 [(0, .ref (zad w 0)), (1, .int a1), (2, .int a2), (3, .int x_3)] → wpJ_Model_takesOver_180 a1 a2 post x_3 M → W p l e (zRm 4 95) s m ([.ref (zad w 0), .int a1, .int a2] : List Value).toArray below meth c H locs 0 0 (MQ below (va_Qi post (zB w) (zA w)) ([.ref (zad w 0), .int a1, .int a2] : List Value).toArray s 0 0 (zA w)) (F0 m 180 ls []) := by
    intro x_3 M H locs ls hW hl h
    unfold wpJ_Model_takesOver_180 at h
    refine lv_aload_n hx hb dX11_takesOver_180 rfl (lv_at hl 0 rfl) ?_
    refine lv_iload_n hx hb dX11_takesOver_181 rfl (lv_at hl 1 rfl) ?_
    refine lv_iconst hx hb dX11_takesOver_182 zc_i2 ?_
    refine lv_iconst hx hb dX11_takesOver_183 zc_i1 ?_
    refine zcallv (zrunV (As := [.int a1, .int 2, .int 1]) (rest := []) X hml hl hW h0.1 rfl zk_Model_207 (c_Model_more h0 h) rfl ⟨Nat.le_of_ble_eq_true rfl, Nat.le_of_ble_eq_true rfl⟩ ⟨Nat.le_refl 0, Nat.le_refl 0⟩ rfl (Nat.le_of_ble_eq_true rfl) dX11_takesOver_184) hW (fun zm21 H locs h hW => ?_)
    refine lv_aload_n hx hb dX11_takesOver_187 rfl (lv_at hl 0 rfl) ?_
    refine lv_iload_n hx hb dX11_takesOver_188 rfl (lv_at hl 1 rfl) ?_
    refine lv_iload_n hx hb dX11_takesOver_189 rfl (lv_at hl 2 rfl) ?_
    refine lv_iconst hx hb dX11_takesOver_190 zc_i1 ?_
    refine lv_isub hx hb dX11_takesOver_191 ?_
    refine lv_iload_n hx hb dX11_takesOver_192 rfl (lv_at hl 3 rfl) ?_
    refine zcallv (zrunV (As := [.int a1, .int (a2 - 1), .int x_3]) (rest := []) X hml hl hW h0.1 rfl zk_Model_211 (c_Model_goesBack h0 h) rfl ⟨Nat.le_of_ble_eq_true rfl, Nat.le_of_ble_eq_true rfl⟩ ⟨Nat.le_refl 0, Nat.le_refl 0⟩ rfl (Nat.le_of_ble_eq_true rfl) dX11_takesOver_193) hW (fun zm23 H locs h hW => ?_)
    refine lv_iconst hx hb dX11_takesOver_196 zc_i1 ?_
    exact zretz X hr hlk hW rfl h dX11_takesOver_197
  unfold wp_Model_takesOver at h
  have zMain : ∀ (H : Heap) (locs : List Loc) (ls : Array Slot), zWo w s.heap M H locs → lv_has ls 5 [(0, .ref (zad w 0)), (1, .int a1), (2, .int a2)] → W p l e (zRm 4 95) s m ([.ref (zad w 0), .int a1, .int a2] : List Value).toArray below meth c H locs 0 0 (MQ below (va_Qi post (zB w) (zA w)) ([.ref (zad w 0), .int a1, .int a2] : List Value).toArray s 0 0 (zA w)) (F0 m 0 ls []) := by
    intro H locs ls hW hl
    refine lv_aload_n hx hb dX11_takesOver_0 rfl (lv_at hl 0 rfl) ?_
    refine lv_iload_n hx hb dX11_takesOver_1 rfl (lv_at hl 1 rfl) ?_
    refine lv_iload_n hx hb dX11_takesOver_2 rfl (lv_at hl 2 rfl) ?_
    refine lv_iconst hx hb dX11_takesOver_3 zc_i1 ?_
    refine lv_isub hx hb dX11_takesOver_4 ?_
    refine lv_iconst hx hb dX11_takesOver_5 zc_i0 ?_
    refine zcalli (zrunV (As := [.int a1, .int (a2 - 1), .int 0]) (rest := []) X hml hl hW h0.1 rfl zk_Model_195 (c_Model_at h0 h) rfl ⟨Nat.le_of_ble_eq_true rfl, Nat.le_of_ble_eq_true rfl⟩ ⟨Nat.le_refl 0, Nat.le_refl 0⟩ rfl (Nat.le_of_ble_eq_true rfl) dX11_takesOver_6) hW (fun zr2 zm1 H locs h hW => ?_)
    refine lv_iconst hx hb dX11_takesOver_9 zc_i2 ?_
    refine lv_icmp_ne (tgt := 24) hx hb dX11_takesOver_10 rfl (fun c => ?_) (fun c => ?_)
    · replace h := h.1 c
      refine lv_iconst hx hb dX11_takesOver_24 zc_i0 ?_
      exact zretz X hr hlk hW rfl h dX11_takesOver_25
    · replace h := h.2 c
      refine lv_aload_n hx hb dX11_takesOver_13 rfl (lv_at hl 0 rfl) ?_
      refine lv_iload_n hx hb dX11_takesOver_14 rfl (lv_at hl 1 rfl) ?_
      refine lv_iload_n hx hb dX11_takesOver_15 rfl (lv_at hl 2 rfl) ?_
      refine lv_iconst hx hb dX11_takesOver_16 zc_i1 ?_
      refine lv_isub hx hb dX11_takesOver_17 ?_
      refine zcalli (zrunV (As := [.int a1, .int (a2 - 1)]) (rest := []) X hml hl hW h0.1 rfl zk_Model_214 (c_Model_canBeLeft h0 h) rfl ⟨Nat.le_of_ble_eq_true rfl, Nat.le_of_ble_eq_true rfl⟩ ⟨Nat.le_refl 0, Nat.le_refl 0⟩ rfl (Nat.le_of_ble_eq_true rfl) dX11_takesOver_18) hW (fun zr4 zm3 H locs h hW => ?_)
      refine lv_if_ne (tgt := 26) hx hb dX11_takesOver_21 rfl (fun c => ?_) (fun c => ?_)
      · replace h := h.1 c
        refine lv_aload_n hx hb dX11_takesOver_26 rfl (lv_at hl 0 rfl) ?_
        refine lv_iload_n hx hb dX11_takesOver_27 rfl (lv_at hl 1 rfl) ?_
        refine lv_iload_n hx hb dX11_takesOver_28 rfl (lv_at hl 2 rfl) ?_
        refine lv_iconst hx hb dX11_takesOver_29 zc_i1 ?_
        refine lv_isub hx hb dX11_takesOver_30 ?_
        refine lv_iconst hx hb dX11_takesOver_31 zc_i2 ?_
        refine zcalli (zrunV (As := [.int a1, .int (a2 - 1), .int 2]) (rest := []) X hml hl hW h0.1 rfl zk_Model_195 (c_Model_at h0 h) rfl ⟨Nat.le_of_ble_eq_true rfl, Nat.le_of_ble_eq_true rfl⟩ ⟨Nat.le_refl 0, Nat.le_refl 0⟩ rfl (Nat.le_of_ble_eq_true rfl) dX11_takesOver_32) hW (fun zr6 zm5 H locs h hW => ?_)
        refine lv_istore_n (lv' := [(3, .int zr6), (0, .ref (zad w 0)), (1, .int a1), (2, .int a2)]) hx hb dX11_takesOver_35 rfl hl (Nat.le_of_ble_eq_true rfl) rfl (fun ls hl => ?_)
        refine lv_aload_n hx hb dX11_takesOver_36 rfl (lv_at hl 1 rfl) ?_
        refine lv_iload_n hx hb dX11_takesOver_37 rfl (lv_at hl 2 rfl) ?_
        refine lv_iload_n hx hb dX11_takesOver_38 rfl (lv_at hl 3 rfl) ?_
        refine lv_iconst hx hb dX11_takesOver_39 zc_i0 ?_
        refine lv_iconst hx hb dX11_takesOver_40 zc_i2 ?_
        refine zcallv (zrunV (As := [.int a1, .int a2, .int 0, .int 2]) (rest := []) X hml hl hW h0.1 rfl zk_Model_201 (c_Model_put h0 h) rfl ⟨Nat.le_of_ble_eq_true rfl, Nat.le_of_ble_eq_true rfl⟩ ⟨Nat.le_refl 0, Nat.le_refl 0⟩ rfl (Nat.le_of_ble_eq_true rfl) dX11_takesOver_41) hW (fun zm7 H locs h hW => ?_)
        refine lv_aload_n hx hb dX11_takesOver_44 rfl (lv_at hl 1 rfl) ?_
        refine lv_iload_n hx hb dX11_takesOver_45 rfl (lv_at hl 2 rfl) ?_
        refine lv_iload_n hx hb dX11_takesOver_46 rfl (lv_at hl 3 rfl) ?_
        refine lv_iconst hx hb dX11_takesOver_47 zc_i2 ?_
        refine lv_iload_n hx hb dX11_takesOver_48 rfl (lv_at hl 0 rfl) ?_
        refine zcallv (zrunV (As := [.int a1, .int a2, .int 2, .int zr6]) (rest := []) X hml hl hW h0.1 rfl zk_Model_201 (c_Model_put h0 h) rfl ⟨Nat.le_of_ble_eq_true rfl, Nat.le_of_ble_eq_true rfl⟩ ⟨Nat.le_refl 0, Nat.le_refl 0⟩ rfl (Nat.le_of_ble_eq_true rfl) dX11_takesOver_49) hW (fun zm9 H locs h hW => ?_)
        refine lv_aload_n hx hb dX11_takesOver_52 rfl (lv_at hl 1 rfl) ?_
        refine lv_iload_n hx hb dX11_takesOver_53 rfl (lv_at hl 2 rfl) ?_
        refine lv_iload_n hx hb dX11_takesOver_54 rfl (lv_at hl 3 rfl) ?_
        refine lv_iconst hx hb dX11_takesOver_55 zc_i3 ?_
        refine lv_aload_n hx hb dX11_takesOver_56 rfl (lv_at hl 1 rfl) ?_
        refine lv_iload_n hx hb dX11_takesOver_57 rfl (lv_at hl 2 rfl) ?_
        refine lv_iload_n hx hb dX11_takesOver_58 rfl (lv_at hl 3 rfl) ?_
        refine lv_iconst hx hb dX11_takesOver_59 zc_i1 ?_
        refine lv_isub hx hb dX11_takesOver_60 ?_
        refine lv_iconst hx hb dX11_takesOver_61 zc_i3 ?_
        refine zcalli (zrunV (As := [.int a1, .int (a2 - 1), .int 3]) (rest := [.int 3, .int a2, .int a1, .ref (zad w 0)]) X hml hl hW h0.1 rfl zk_Model_195 (c_Model_at h0 h) rfl ⟨Nat.le_of_ble_eq_true rfl, Nat.le_of_ble_eq_true rfl⟩ ⟨Nat.le_refl 0, Nat.le_refl 0⟩ rfl (Nat.le_of_ble_eq_true rfl) dX11_takesOver_62) hW (fun zr12 zm11 H locs h hW => ?_)
        refine zcallv (zrunV (As := [.int a1, .int a2, .int 3, .int zr12]) (rest := []) X hml hl hW h0.1 rfl zk_Model_201 (c_Model_put h0 h) rfl ⟨Nat.le_of_ble_eq_true rfl, Nat.le_of_ble_eq_true rfl⟩ ⟨Nat.le_refl 0, Nat.le_refl 0⟩ rfl (Nat.le_of_ble_eq_true rfl) dX11_takesOver_65) hW (fun zm13 H locs h hW => ?_)
        refine lv_aload_n hx hb dX11_takesOver_68 rfl (lv_at hl 1 rfl) ?_
        refine lv_iload_n hx hb dX11_takesOver_69 rfl (lv_at hl 2 rfl) ?_
        refine lv_iload_n hx hb dX11_takesOver_70 rfl (lv_at hl 3 rfl) ?_
        refine lv_iconst hx hb dX11_takesOver_71 zc_i4 ?_
        refine lv_aload_n hx hb dX11_takesOver_72 rfl (lv_at hl 1 rfl) ?_
        refine lv_iload_n hx hb dX11_takesOver_73 rfl (lv_at hl 2 rfl) ?_
        refine lv_iload_n hx hb dX11_takesOver_74 rfl (lv_at hl 3 rfl) ?_
        refine lv_iconst hx hb dX11_takesOver_75 zc_i1 ?_
        refine lv_isub hx hb dX11_takesOver_76 ?_
        refine lv_iconst hx hb dX11_takesOver_77 zc_i4 ?_
        refine zcalli (zrunV (As := [.int a1, .int (a2 - 1), .int 4]) (rest := [.int 4, .int a2, .int a1, .ref (zad w 0)]) X hml hl hW h0.1 rfl zk_Model_195 (c_Model_at h0 h) rfl ⟨Nat.le_of_ble_eq_true rfl, Nat.le_of_ble_eq_true rfl⟩ ⟨Nat.le_refl 0, Nat.le_refl 0⟩ rfl (Nat.le_of_ble_eq_true rfl) dX11_takesOver_78) hW (fun zr16 zm15 H locs h hW => ?_)
        refine zcallv (zrunV (As := [.int a1, .int a2, .int 4, .int zr16]) (rest := []) X hml hl hW h0.1 rfl zk_Model_201 (c_Model_put h0 h) rfl ⟨Nat.le_of_ble_eq_true rfl, Nat.le_of_ble_eq_true rfl⟩ ⟨Nat.le_refl 0, Nat.le_refl 0⟩ rfl (Nat.le_of_ble_eq_true rfl) dX11_takesOver_81) hW (fun zm17 H locs h hW => ?_)
        refine lv_aload_n hx hb dX11_takesOver_84 rfl (lv_at hl 1 rfl) ?_
        refine lv_iload_n hx hb dX11_takesOver_85 rfl (lv_at hl 2 rfl) ?_
        refine lv_iconst hx hb dX11_takesOver_86 zc_i2 ?_
        refine zcalli (zrunV (As := [.int a1, .int 2]) (rest := []) X hml hl hW h0.1 rfl zk_Model_218 (c_Model_of h0 h) rfl ⟨Nat.le_of_ble_eq_true rfl, Nat.le_of_ble_eq_true rfl⟩ ⟨Nat.le_refl 0, Nat.le_refl 0⟩ rfl (Nat.le_of_ble_eq_true rfl) dX11_takesOver_87) hW (fun zr20 zm19 H locs h hW => ?_)
        refine lv_istore (lv' := [(4, .int zr20), (3, .int zr6), (0, .ref (zad w 0)), (1, .int a1), (2, .int a2)]) hx hb dX11_takesOver_90 hl (Nat.le_of_ble_eq_true rfl) rfl (fun ls hl => ?_)
        refine lv_iload_n hx hb dX11_takesOver_92 rfl (lv_at hl 3 rfl) ?_
        refine lv_iconst hx hb dX11_takesOver_93 zc_i1 ?_
        refine lv_icmp_ne (tgt := 180) hx hb dX11_takesOver_94 rfl (fun c => ?_) (fun c => ?_)
        · replace h := h.1 c
          exact zJ_180 zr6 zm19 H locs ls hW (lv_sub hl [2, 3, 4, 1] rfl) h
        · replace h := h.2 c
          refine lv_iload hx hb dX11_takesOver_97 (lv_at hl 0 rfl) ?_
          refine lv_sipush hx hb dX11_takesOver_99 zc_s600 ?_
          refine lv_icmp_ge (tgt := 180) hx hb dX11_takesOver_102 rfl (fun c => ?_) (fun c => ?_)
          · replace h := h.1 c
            exact zJ_180 zr6 zm19 H locs ls hW (lv_sub hl [2, 3, 4, 1] rfl) h
          · replace h := h.2 c
            refine lv_aload_n hx hb dX11_takesOver_105 rfl (lv_at hl 2 rfl) ?_
            refine zg_Model_overs X hW h0 zu_1042 dX11_takesOver_106 ?_
            refine lv_iconst hx hb dX11_takesOver_109 zc_i5 ?_
            refine lv_iload hx hb dX11_takesOver_110 (lv_at hl 0 rfl) ?_
            refine lv_imul hx hb dX11_takesOver_112 ?_
            refine lv_aload_n hx hb dX11_takesOver_113 rfl (lv_at hl 2 rfl) ?_
            refine lv_iload_n hx hb dX11_takesOver_114 rfl (lv_at hl 3 rfl) ?_
            refine lv_iconst hx hb dX11_takesOver_115 zc_i0 ?_
            refine zcalli (zrunV (As := [.int a1, .int 0]) (rest := [.int (5 * zr20), .ref (zad w 10)]) X hml hl hW h0.1 rfl zk_Model_218 (c_Model_of h0 h) rfl ⟨Nat.le_of_ble_eq_true rfl, Nat.le_of_ble_eq_true rfl⟩ ⟨Nat.le_refl 0, Nat.le_refl 0⟩ rfl (Nat.le_of_ble_eq_true rfl) dX11_takesOver_116) hW (fun zr26 zm25 H locs h hW => ?_)
            obtain ⟨g, h⟩ := h
            refine ziast X hW h0.2.2.2.2.2.2.2.2.2.1 g dX11_takesOver_119 (fun H locs zm27 ezm27 hW => ?_)
            replace h := h zm27 ezm27
            refine lv_aload_n hx hb dX11_takesOver_120 rfl (lv_at hl 2 rfl) ?_
            refine zg_Model_overs X hW h0 zu_1042 dX11_takesOver_121 ?_
            refine lv_iconst hx hb dX11_takesOver_124 zc_i5 ?_
            refine lv_iload hx hb dX11_takesOver_125 (lv_at hl 0 rfl) ?_
            refine lv_imul hx hb dX11_takesOver_127 ?_
            refine lv_iconst hx hb dX11_takesOver_128 zc_i1 ?_
            refine lv_iadd hx hb dX11_takesOver_129 ?_
            refine lv_iload_n hx hb dX11_takesOver_130 rfl (lv_at hl 4 rfl) ?_
            obtain ⟨g, h⟩ := h
            refine ziast X hW h0.2.2.2.2.2.2.2.2.2.1 g dX11_takesOver_131 (fun H locs zm28 ezm28 hW => ?_)
            replace h := h zm28 ezm28
            refine lv_aload_n hx hb dX11_takesOver_132 rfl (lv_at hl 2 rfl) ?_
            refine zg_Model_overs X hW h0 zu_1042 dX11_takesOver_133 ?_
            refine lv_iconst hx hb dX11_takesOver_136 zc_i5 ?_
            refine lv_iload hx hb dX11_takesOver_137 (lv_at hl 0 rfl) ?_
            refine lv_imul hx hb dX11_takesOver_139 ?_
            refine lv_iconst hx hb dX11_takesOver_140 zc_i2 ?_
            refine lv_iadd hx hb dX11_takesOver_141 ?_
            refine lv_iload_n hx hb dX11_takesOver_142 rfl (lv_at hl 1 rfl) ?_
            obtain ⟨g, h⟩ := h
            refine ziast X hW h0.2.2.2.2.2.2.2.2.2.1 g dX11_takesOver_143 (fun H locs zm29 ezm29 hW => ?_)
            replace h := h zm29 ezm29
            refine lv_aload_n hx hb dX11_takesOver_144 rfl (lv_at hl 2 rfl) ?_
            refine zg_Model_overs X hW h0 zu_1042 dX11_takesOver_145 ?_
            refine lv_iconst hx hb dX11_takesOver_148 zc_i5 ?_
            refine lv_iload hx hb dX11_takesOver_149 (lv_at hl 0 rfl) ?_
            refine lv_imul hx hb dX11_takesOver_151 ?_
            refine lv_iconst hx hb dX11_takesOver_152 zc_i3 ?_
            refine lv_iadd hx hb dX11_takesOver_153 ?_
            refine lv_aload_n hx hb dX11_takesOver_154 rfl (lv_at hl 2 rfl) ?_
            refine lv_iload_n hx hb dX11_takesOver_155 rfl (lv_at hl 3 rfl) ?_
            refine lv_iload_n hx hb dX11_takesOver_156 rfl (lv_at hl 4 rfl) ?_
            refine lv_iconst hx hb dX11_takesOver_157 zc_i3 ?_
            refine zcalli (zrunV (As := [.int a1, .int a2, .int 3]) (rest := [.int ((5 * zr20) + 3), .ref (zad w 10)]) X hml hl hW h0.1 rfl zk_Model_195 (c_Model_at h0 h) rfl ⟨Nat.le_of_ble_eq_true rfl, Nat.le_of_ble_eq_true rfl⟩ ⟨Nat.le_refl 0, Nat.le_refl 0⟩ rfl (Nat.le_of_ble_eq_true rfl) dX11_takesOver_158) hW (fun zr31 zm30 H locs h hW => ?_)
            obtain ⟨g, h⟩ := h
            refine ziast X hW h0.2.2.2.2.2.2.2.2.2.1 g dX11_takesOver_161 (fun H locs zm32 ezm32 hW => ?_)
            replace h := h zm32 ezm32
            refine lv_aload_n hx hb dX11_takesOver_162 rfl (lv_at hl 2 rfl) ?_
            refine zg_Model_overs X hW h0 zu_1042 dX11_takesOver_163 ?_
            refine lv_iconst hx hb dX11_takesOver_166 zc_i5 ?_
            refine lv_iload hx hb dX11_takesOver_167 (lv_at hl 0 rfl) ?_
            refine lv_imul hx hb dX11_takesOver_169 ?_
            refine lv_iconst hx hb dX11_takesOver_170 zc_i4 ?_
            refine lv_iadd hx hb dX11_takesOver_171 ?_
            refine lv_aload_n hx hb dX11_takesOver_172 rfl (lv_at hl 2 rfl) ?_
            refine lv_iload_n hx hb dX11_takesOver_173 rfl (lv_at hl 3 rfl) ?_
            refine lv_iload_n hx hb dX11_takesOver_174 rfl (lv_at hl 4 rfl) ?_
            refine lv_iconst hx hb dX11_takesOver_175 zc_i4 ?_
            refine zcalli (zrunV (As := [.int a1, .int a2, .int 4]) (rest := [.int ((5 * zr20) + 4), .ref (zad w 10)]) X hml hl hW h0.1 rfl zk_Model_195 (c_Model_at h0 h) rfl ⟨Nat.le_of_ble_eq_true rfl, Nat.le_of_ble_eq_true rfl⟩ ⟨Nat.le_refl 0, Nat.le_refl 0⟩ rfl (Nat.le_of_ble_eq_true rfl) dX11_takesOver_176) hW (fun zr34 zm33 H locs h hW => ?_)
            obtain ⟨g, h⟩ := h
            refine ziast X hW h0.2.2.2.2.2.2.2.2.2.1 g dX11_takesOver_179 (fun H locs zm35 ezm35 hW => ?_)
            replace h := h zm35 ezm35
            exact zJ_180 zr6 zm35 H locs ls hW (lv_sub hl [2, 3, 4, 1] rfl) h
      · replace h := h.2 c
        refine lv_iconst hx hb dX11_takesOver_24 zc_i0 ?_
        exact zretz X hr hlk hW rfl h dX11_takesOver_25
  exact zMain s.heap [] ls hW hl
def wpB_Model_pieceFrom_2 (a1 : Int32) (a2 : Int32)   (Q : Int32 → zMem → Prop) (J : Int32 → zMem → Prop) (x_3 : Int32) (M : zMem) : Prop :=
  vp_in 0 100 ∧ ((M 4 (ix 0)) ≤ x_3 → Q ((-4)) M) ∧ (¬ (M 4 (ix 0)) ≤ x_3 → vp_in ((30 + (8 * a1)) + x_3) 100 ∧ ((M 4 (ix ((30 + (8 * a1)) + x_3))) ≤ 0 → ∀ zx1 : Int32, zx1 = x_3 + 1 → J zx1 M) ∧ (¬ (M 4 (ix ((30 + (8 * a1)) + x_3))) ≤ 0 → Q x_3 M))
def wp_Model_pieceFrom (a1 : Int32) (a2 : Int32) (M : zMem) (Q : Int32 → zMem → Prop) : Prop :=
  ∃ n : Nat, zlp1 (wpB_Model_pieceFrom_2 a1 a2   Q) n a2 M
set_option maxHeartbeats 4000000 in
set_option maxRecDepth 20000 in
theorem c_Model_pieceFrom {l : Launch} {w : zWd} {a1 : Int32} {a2 : Int32} {M : zMem} {post : Int32 → zMem → Prop} (h0 : zI_Model w) (h : wp_Model_pieceFrom a1 a2 M post) : zMi l ⟨"HandToHandModel", "pieceFrom", "(II)I"⟩ prog_13_method_39_code 4 (Option.some .int) 0 0 w [.ref (zad w 0), .int a1, .int a2] M post := by
  refine zMet (by decide) (Nat.le_of_ble_eq_true rfl) ?_
  intro p e s m below meth c X hr hlk hml hW ls hl
  have hx := X.1
  have hb := X.2.1
  have hl : lv_has ls 4 [(0, .ref (zad w 0)), (1, .int a1), (2, .int a2)] := hl
  have zL_2 :  ∀ (n : Nat) (x_3 : Int32) (M : zMem) (H : Heap) (locs : List Loc) (ls : Array Slot), zWo w s.heap M H locs → lv_has ls 4 [(0, .ref (zad w 0)), (1, .int a1), (3, .int x_3)] → zlp1 (wpB_Model_pieceFrom_2 a1 a2   post) n x_3 M → W p l e (zRm 0 0) s m ([.ref (zad w 0), .int a1, .int a2] : List Value).toArray below meth c H locs 0 0 (MQ below (va_Qi post (zB w) (zA w)) ([.ref (zad w 0), .int a1, .int a2] : List Value).toArray s 0 0 (zA w)) (F0 m 2 ls []) := by
    intro n
    induction n with
    | zero => intro x_3 M H locs ls hW hl h; exact h.elim
    | succ n zJ =>
      intro x_3 M H locs ls hW hl h
      have h : wpB_Model_pieceFrom_2 a1 a2   post (zlp1 (wpB_Model_pieceFrom_2 a1 a2   post) n) x_3 M := h
      unfold wpB_Model_pieceFrom_2 at h
      refine lv_iload_n hx hb dX11_pieceFrom_2 rfl (lv_at hl 2 rfl) ?_
      refine lv_aload_n hx hb dX11_pieceFrom_3 rfl (lv_at hl 0 rfl) ?_
      refine zg_Model_holds X hW h0 zu_1031 dX11_pieceFrom_4 ?_
      refine lv_iconst hx hb dX11_pieceFrom_7 zc_i0 ?_
      obtain ⟨g, h⟩ := h
      refine ziald X hW h0.2.2.2.2.1 g dX11_pieceFrom_8 ?_
      refine lv_icmp_ge (tgt := 37) hx hb dX11_pieceFrom_9 rfl (fun c => ?_) (fun c => ?_)
      · replace h := h.1 c
        refine lv_bipush hx hb dX11_pieceFrom_37 zc_bm4 ?_
        exact zreti X hr hlk hW h dX11_pieceFrom_39
      · replace h := h.2 c
        refine lv_aload_n hx hb dX11_pieceFrom_12 rfl (lv_at hl 0 rfl) ?_
        refine zg_Model_holds X hW h0 zu_1031 dX11_pieceFrom_13 ?_
        refine lv_bipush hx hb dX11_pieceFrom_16 zc_b30 ?_
        refine lv_bipush hx hb dX11_pieceFrom_18 zc_b8 ?_
        refine lv_iload_n hx hb dX11_pieceFrom_20 rfl (lv_at hl 1 rfl) ?_
        refine lv_imul hx hb dX11_pieceFrom_21 ?_
        refine lv_iadd hx hb dX11_pieceFrom_22 ?_
        refine lv_iload_n hx hb dX11_pieceFrom_23 rfl (lv_at hl 2 rfl) ?_
        refine lv_iadd hx hb dX11_pieceFrom_24 ?_
        obtain ⟨g, h⟩ := h
        refine ziald X hW h0.2.2.2.2.1 g dX11_pieceFrom_25 ?_
        refine lv_if_le (tgt := 31) hx hb dX11_pieceFrom_26 rfl (fun c => ?_) (fun c => ?_)
        · replace h := h.1 c
          obtain ⟨zx1, ezx1⟩ : ∃ y : Int32, y = x_3 + 1 := ⟨_, rfl⟩
          replace h := h zx1 ezx1
          refine lv_iinc (v := zx1) (lv' := [(3, .int zx1), (0, .ref (zad w 0)), (1, .int a1)]) hx hb dX11_pieceFrom_31 hl (k := 2) rfl (by rw [ezx1, zc_i1]) (Nat.le_of_ble_eq_true rfl) rfl (fun ls hl => ?_)
          refine lv_goto (tgt := 2) hx hb dX11_pieceFrom_34 rfl ?_
          exact zJ zx1 M H locs ls hW (lv_sub hl [1, 2, 0] rfl) h
        · replace h := h.2 c
          refine lv_iload_n hx hb dX11_pieceFrom_29 rfl (lv_at hl 2 rfl) ?_
          exact zreti X hr hlk hW h dX11_pieceFrom_30
  unfold wp_Model_pieceFrom at h
  have zMain : ∀ (H : Heap) (locs : List Loc) (ls : Array Slot), zWo w s.heap M H locs → lv_has ls 4 [(0, .ref (zad w 0)), (1, .int a1), (2, .int a2)] → W p l e (zRm 0 0) s m ([.ref (zad w 0), .int a1, .int a2] : List Value).toArray below meth c H locs 0 0 (MQ below (va_Qi post (zB w) (zA w)) ([.ref (zad w 0), .int a1, .int a2] : List Value).toArray s 0 0 (zA w)) (F0 m 0 ls []) := by
    intro H locs ls hW hl
    refine lv_iload_n hx hb dX11_pieceFrom_0 rfl (lv_at hl 2 rfl) ?_
    refine lv_istore_n (lv' := [(3, .int a2), (0, .ref (zad w 0)), (1, .int a1), (2, .int a2)]) hx hb dX11_pieceFrom_1 rfl hl (Nat.le_of_ble_eq_true rfl) rfl (fun ls hl => ?_)
    obtain ⟨n, h⟩ := h
    refine zL_2   n a2 M H locs ls hW (lv_sub hl [1, 2, 0] rfl) h
  exact zMain s.heap [] ls hW hl
def wp_Model_endsUnit (a1 : Int32) (a2 : Int32) (M : zMem) (Q : zMem → Prop) : Prop :=
  wp_Model_at a1 a2 2 M (fun zr2 zm1 => wp_Model_at a1 a2 4 zm1 (fun zr4 zm3 => vp_in a2 5 ∧ wp_Model_learntAt a1 (zm3 8 (ix a2)) zr2 zm3 (fun zr6 zm5 => vp_in zr6 384 ∧ vp_in zr6 384 ∧ ∀ zm7 : zMem, zm7 = zup zm5 6 (ix zr6) ((zm5 6 (ix zr6)) + 1) → wp_Model_at a1 a2 3 zm7 (fun zr9 zm8 => wp_Model_put a1 a2 3 (zr9 + 1) zm8 (fun zm10 => wp_Model_put a1 a2 0 2 zm10 (fun zm12 => wp_Model_at a1 a2 3 zm12 (fun zr15 zm14 => vp_in ((30 + (8 * zr4)) + zr2) 100 ∧ (¬ zr15 = (zm14 4 (ix ((30 + (8 * zr4)) + zr2))) → Q zm14) ∧ (zr15 = (zm14 4 (ix ((30 + (8 * zr4)) + zr2))) → wp_Model_pieceFrom zr4 (zr2 + 1) zm14 (fun zr17 zm16 => (¬ zr17 = (-4) → wp_Model_put a1 a2 2 zr17 zm16 (fun zm18 => wp_Model_put a1 a2 3 0 zm18 (fun zm20 => Q zm20))) ∧ (zr17 = (-4) → wp_Model_more a1 1 1 zm16 (fun zm22 => vp_in 0 100 ∧ wp_Model_goesBack a1 a2 (zm22 4 (ix 0)) zm22 (fun zm24 => Q zm24))))))))))))
set_option maxHeartbeats 4000000 in
set_option maxRecDepth 20000 in
theorem c_Model_endsUnit {l : Launch} {w : zWd} {a1 : Int32} {a2 : Int32} {M : zMem} {post : zMem → Prop} (h0 : zI_Model w) (h : wp_Model_endsUnit a1 a2 M post) : zMv l ⟨"HandToHandModel", "endsUnit", "(II)V"⟩ prog_13_method_40_code 6 none 4 95 w [.ref (zad w 0), .int a1, .int a2] M post := by
  refine zMet (by decide) (Nat.le_of_ble_eq_true rfl) ?_
  intro p e s m below meth c X hr hlk hml hW ls hl
  have hx := X.1
  have hb := X.2.1
  have hl : lv_has ls 6 [(0, .ref (zad w 0)), (1, .int a1), (2, .int a2)] := hl
  unfold wp_Model_endsUnit at h
  have zMain : ∀ (H : Heap) (locs : List Loc) (ls : Array Slot), zWo w s.heap M H locs → lv_has ls 6 [(0, .ref (zad w 0)), (1, .int a1), (2, .int a2)] → W p l e (zRm 4 95) s m ([.ref (zad w 0), .int a1, .int a2] : List Value).toArray below meth c H locs 0 0 (MQ below (va_Qv post (zB w) (zA w)) ([.ref (zad w 0), .int a1, .int a2] : List Value).toArray s 0 0 (zA w)) (F0 m 0 ls []) := by
    intro H locs ls hW hl
    refine lv_aload_n hx hb dX11_endsUnit_0 rfl (lv_at hl 0 rfl) ?_
    refine lv_iload_n hx hb dX11_endsUnit_1 rfl (lv_at hl 1 rfl) ?_
    refine lv_iload_n hx hb dX11_endsUnit_2 rfl (lv_at hl 2 rfl) ?_
    refine lv_iconst hx hb dX11_endsUnit_3 zc_i2 ?_
    refine zcalli (zrunV (As := [.int a1, .int a2, .int 2]) (rest := []) X hml hl hW h0.1 rfl zk_Model_195 (c_Model_at h0 h) rfl ⟨Nat.le_of_ble_eq_true rfl, Nat.le_of_ble_eq_true rfl⟩ ⟨Nat.le_refl 0, Nat.le_refl 0⟩ rfl (Nat.le_of_ble_eq_true rfl) dX11_endsUnit_4) hW (fun zr2 zm1 H locs h hW => ?_)
    refine lv_istore_n (lv' := [(3, .int zr2), (0, .ref (zad w 0)), (1, .int a1), (2, .int a2)]) hx hb dX11_endsUnit_7 rfl hl (Nat.le_of_ble_eq_true rfl) rfl (fun ls hl => ?_)
    refine lv_aload_n hx hb dX11_endsUnit_8 rfl (lv_at hl 1 rfl) ?_
    refine lv_iload_n hx hb dX11_endsUnit_9 rfl (lv_at hl 2 rfl) ?_
    refine lv_iload_n hx hb dX11_endsUnit_10 rfl (lv_at hl 3 rfl) ?_
    refine lv_iconst hx hb dX11_endsUnit_11 zc_i4 ?_
    refine zcalli (zrunV (As := [.int a1, .int a2, .int 4]) (rest := []) X hml hl hW h0.1 rfl zk_Model_195 (c_Model_at h0 h) rfl ⟨Nat.le_of_ble_eq_true rfl, Nat.le_of_ble_eq_true rfl⟩ ⟨Nat.le_refl 0, Nat.le_refl 0⟩ rfl (Nat.le_of_ble_eq_true rfl) dX11_endsUnit_12) hW (fun zr4 zm3 H locs h hW => ?_)
    refine lv_istore (lv' := [(4, .int zr4), (3, .int zr2), (0, .ref (zad w 0)), (1, .int a1), (2, .int a2)]) hx hb dX11_endsUnit_15 hl (Nat.le_of_ble_eq_true rfl) rfl (fun ls hl => ?_)
    refine lv_aload_n hx hb dX11_endsUnit_17 rfl (lv_at hl 2 rfl) ?_
    refine zg_Model_bench X hW h0 zu_1036 dX11_endsUnit_18 ?_
    refine lv_aload_n hx hb dX11_endsUnit_21 rfl (lv_at hl 2 rfl) ?_
    refine lv_iload_n hx hb dX11_endsUnit_22 rfl (lv_at hl 3 rfl) ?_
    refine lv_aload_n hx hb dX11_endsUnit_23 rfl (lv_at hl 2 rfl) ?_
    refine zg_Model_who X hW h0 zu_1040 dX11_endsUnit_24 ?_
    refine lv_iload_n hx hb dX11_endsUnit_27 rfl (lv_at hl 4 rfl) ?_
    obtain ⟨g, h⟩ := h
    refine ziald X hW h0.2.2.2.2.2.2.2.1 g dX11_endsUnit_28 ?_
    refine lv_iload_n hx hb dX11_endsUnit_29 rfl (lv_at hl 1 rfl) ?_
    refine zcalli (zrunV (As := [.int a1, .int (zm3 8 (ix a2)), .int zr2]) (rest := [.ref (zad w 6)]) X hml hl hW h0.1 rfl zk_Model_185 (c_Model_learntAt h0 h) rfl ⟨Nat.le_of_ble_eq_true rfl, Nat.le_of_ble_eq_true rfl⟩ ⟨Nat.le_refl 0, Nat.le_refl 0⟩ rfl (Nat.le_of_ble_eq_true rfl) dX11_endsUnit_30) hW (fun zr6 zm5 H locs h hW => ?_)
    refine lv_dup2_11 hx hb dX11_endsUnit_33 rfl rfl ?_
    obtain ⟨g, h⟩ := h
    refine ziald X hW h0.2.2.2.2.2.2.1 g dX11_endsUnit_34 ?_
    refine lv_iconst hx hb dX11_endsUnit_35 zc_i1 ?_
    refine lv_iadd hx hb dX11_endsUnit_36 ?_
    obtain ⟨g, h⟩ := h
    refine ziast X hW h0.2.2.2.2.2.2.1 g dX11_endsUnit_37 (fun H locs zm7 ezm7 hW => ?_)
    replace h := h zm7 ezm7
    refine lv_aload_n hx hb dX11_endsUnit_38 rfl (lv_at hl 2 rfl) ?_
    refine lv_iload_n hx hb dX11_endsUnit_39 rfl (lv_at hl 3 rfl) ?_
    refine lv_iload_n hx hb dX11_endsUnit_40 rfl (lv_at hl 4 rfl) ?_
    refine lv_iconst hx hb dX11_endsUnit_41 zc_i3 ?_
    refine lv_aload_n hx hb dX11_endsUnit_42 rfl (lv_at hl 2 rfl) ?_
    refine lv_iload_n hx hb dX11_endsUnit_43 rfl (lv_at hl 3 rfl) ?_
    refine lv_iload_n hx hb dX11_endsUnit_44 rfl (lv_at hl 4 rfl) ?_
    refine lv_iconst hx hb dX11_endsUnit_45 zc_i3 ?_
    refine zcalli (zrunV (As := [.int a1, .int a2, .int 3]) (rest := [.int 3, .int a2, .int a1, .ref (zad w 0)]) X hml hl hW h0.1 rfl zk_Model_195 (c_Model_at h0 h) rfl ⟨Nat.le_of_ble_eq_true rfl, Nat.le_of_ble_eq_true rfl⟩ ⟨Nat.le_refl 0, Nat.le_refl 0⟩ rfl (Nat.le_of_ble_eq_true rfl) dX11_endsUnit_46) hW (fun zr9 zm8 H locs h hW => ?_)
    refine lv_iconst hx hb dX11_endsUnit_49 zc_i1 ?_
    refine lv_iadd hx hb dX11_endsUnit_50 ?_
    refine zcallv (zrunV (As := [.int a1, .int a2, .int 3, .int (zr9 + 1)]) (rest := []) X hml hl hW h0.1 rfl zk_Model_201 (c_Model_put h0 h) rfl ⟨Nat.le_of_ble_eq_true rfl, Nat.le_of_ble_eq_true rfl⟩ ⟨Nat.le_refl 0, Nat.le_refl 0⟩ rfl (Nat.le_of_ble_eq_true rfl) dX11_endsUnit_51) hW (fun zm10 H locs h hW => ?_)
    refine lv_aload_n hx hb dX11_endsUnit_54 rfl (lv_at hl 2 rfl) ?_
    refine lv_iload_n hx hb dX11_endsUnit_55 rfl (lv_at hl 3 rfl) ?_
    refine lv_iload_n hx hb dX11_endsUnit_56 rfl (lv_at hl 4 rfl) ?_
    refine lv_iconst hx hb dX11_endsUnit_57 zc_i0 ?_
    refine lv_iconst hx hb dX11_endsUnit_58 zc_i2 ?_
    refine zcallv (zrunV (As := [.int a1, .int a2, .int 0, .int 2]) (rest := []) X hml hl hW h0.1 rfl zk_Model_201 (c_Model_put h0 h) rfl ⟨Nat.le_of_ble_eq_true rfl, Nat.le_of_ble_eq_true rfl⟩ ⟨Nat.le_refl 0, Nat.le_refl 0⟩ rfl (Nat.le_of_ble_eq_true rfl) dX11_endsUnit_59) hW (fun zm12 H locs h hW => ?_)
    refine lv_aload_n hx hb dX11_endsUnit_62 rfl (lv_at hl 2 rfl) ?_
    refine lv_iload_n hx hb dX11_endsUnit_63 rfl (lv_at hl 3 rfl) ?_
    refine lv_iload_n hx hb dX11_endsUnit_64 rfl (lv_at hl 4 rfl) ?_
    refine lv_iconst hx hb dX11_endsUnit_65 zc_i3 ?_
    refine zcalli (zrunV (As := [.int a1, .int a2, .int 3]) (rest := []) X hml hl hW h0.1 rfl zk_Model_195 (c_Model_at h0 h) rfl ⟨Nat.le_of_ble_eq_true rfl, Nat.le_of_ble_eq_true rfl⟩ ⟨Nat.le_refl 0, Nat.le_refl 0⟩ rfl (Nat.le_of_ble_eq_true rfl) dX11_endsUnit_66) hW (fun zr15 zm14 H locs h hW => ?_)
    refine lv_aload_n hx hb dX11_endsUnit_69 rfl (lv_at hl 2 rfl) ?_
    refine zg_Model_holds X hW h0 zu_1031 dX11_endsUnit_70 ?_
    refine lv_bipush hx hb dX11_endsUnit_73 zc_b30 ?_
    refine lv_bipush hx hb dX11_endsUnit_75 zc_b8 ?_
    refine lv_iload hx hb dX11_endsUnit_77 (lv_at hl 0 rfl) ?_
    refine lv_imul hx hb dX11_endsUnit_79 ?_
    refine lv_iadd hx hb dX11_endsUnit_80 ?_
    refine lv_iload_n hx hb dX11_endsUnit_81 rfl (lv_at hl 1 rfl) ?_
    refine lv_iadd hx hb dX11_endsUnit_82 ?_
    obtain ⟨g, h⟩ := h
    refine ziald X hW h0.2.2.2.2.1 g dX11_endsUnit_83 ?_
    refine lv_icmp_ne (tgt := 144) hx hb dX11_endsUnit_84 rfl (fun c => ?_) (fun c => ?_)
    · replace h := h.1 c
      exact zretv X hr hlk hW h dX11_endsUnit_144
    · replace h := h.2 c
      refine lv_aload_n hx hb dX11_endsUnit_87 rfl (lv_at hl 2 rfl) ?_
      refine lv_iload hx hb dX11_endsUnit_88 (lv_at hl 0 rfl) ?_
      refine lv_iload_n hx hb dX11_endsUnit_90 rfl (lv_at hl 1 rfl) ?_
      refine lv_iconst hx hb dX11_endsUnit_91 zc_i1 ?_
      refine lv_iadd hx hb dX11_endsUnit_92 ?_
      refine zcalli (zrunV (As := [.int zr4, .int (zr2 + 1)]) (rest := []) X hml hl hW h0.1 rfl zk_Model_204 (c_Model_pieceFrom h0 h) rfl ⟨Nat.le_of_ble_eq_true rfl, Nat.le_of_ble_eq_true rfl⟩ ⟨Nat.le_refl 0, Nat.le_refl 0⟩ rfl (Nat.le_of_ble_eq_true rfl) dX11_endsUnit_93) hW (fun zr17 zm16 H locs h hW => ?_)
      refine lv_istore (lv' := [(5, .int zr17), (4, .int zr4), (3, .int zr2), (0, .ref (zad w 0)), (1, .int a1), (2, .int a2)]) hx hb dX11_endsUnit_96 hl (Nat.le_of_ble_eq_true rfl) rfl (fun ls hl => ?_)
      refine lv_iload hx hb dX11_endsUnit_98 (lv_at hl 0 rfl) ?_
      refine lv_bipush hx hb dX11_endsUnit_100 zc_bm4 ?_
      refine lv_icmp_ne (tgt := 127) hx hb dX11_endsUnit_102 rfl (fun c => ?_) (fun c => ?_)
      · replace h := h.1 c
        refine lv_aload_n hx hb dX11_endsUnit_127 rfl (lv_at hl 3 rfl) ?_
        refine lv_iload_n hx hb dX11_endsUnit_128 rfl (lv_at hl 4 rfl) ?_
        refine lv_iload_n hx hb dX11_endsUnit_129 rfl (lv_at hl 5 rfl) ?_
        refine lv_iconst hx hb dX11_endsUnit_130 zc_i2 ?_
        refine lv_iload hx hb dX11_endsUnit_131 (lv_at hl 0 rfl) ?_
        refine zcallv (zrunV (As := [.int a1, .int a2, .int 2, .int zr17]) (rest := []) X hml hl hW h0.1 rfl zk_Model_201 (c_Model_put h0 h) rfl ⟨Nat.le_of_ble_eq_true rfl, Nat.le_of_ble_eq_true rfl⟩ ⟨Nat.le_refl 0, Nat.le_refl 0⟩ rfl (Nat.le_of_ble_eq_true rfl) dX11_endsUnit_133) hW (fun zm18 H locs h hW => ?_)
        refine lv_aload_n hx hb dX11_endsUnit_136 rfl (lv_at hl 3 rfl) ?_
        refine lv_iload_n hx hb dX11_endsUnit_137 rfl (lv_at hl 4 rfl) ?_
        refine lv_iload_n hx hb dX11_endsUnit_138 rfl (lv_at hl 5 rfl) ?_
        refine lv_iconst hx hb dX11_endsUnit_139 zc_i3 ?_
        refine lv_iconst hx hb dX11_endsUnit_140 zc_i0 ?_
        refine zcallv (zrunV (As := [.int a1, .int a2, .int 3, .int 0]) (rest := []) X hml hl hW h0.1 rfl zk_Model_201 (c_Model_put h0 h) rfl ⟨Nat.le_of_ble_eq_true rfl, Nat.le_of_ble_eq_true rfl⟩ ⟨Nat.le_refl 0, Nat.le_refl 0⟩ rfl (Nat.le_of_ble_eq_true rfl) dX11_endsUnit_141) hW (fun zm20 H locs h hW => ?_)
        exact zretv X hr hlk hW h dX11_endsUnit_144
      · replace h := h.2 c
        refine lv_aload_n hx hb dX11_endsUnit_105 rfl (lv_at hl 3 rfl) ?_
        refine lv_iload_n hx hb dX11_endsUnit_106 rfl (lv_at hl 4 rfl) ?_
        refine lv_iconst hx hb dX11_endsUnit_107 zc_i1 ?_
        refine lv_iconst hx hb dX11_endsUnit_108 zc_i1 ?_
        refine zcallv (zrunV (As := [.int a1, .int 1, .int 1]) (rest := []) X hml hl hW h0.1 rfl zk_Model_207 (c_Model_more h0 h) rfl ⟨Nat.le_of_ble_eq_true rfl, Nat.le_of_ble_eq_true rfl⟩ ⟨Nat.le_refl 0, Nat.le_refl 0⟩ rfl (Nat.le_of_ble_eq_true rfl) dX11_endsUnit_109) hW (fun zm22 H locs h hW => ?_)
        refine lv_aload_n hx hb dX11_endsUnit_112 rfl (lv_at hl 3 rfl) ?_
        refine lv_iload_n hx hb dX11_endsUnit_113 rfl (lv_at hl 4 rfl) ?_
        refine lv_iload_n hx hb dX11_endsUnit_114 rfl (lv_at hl 5 rfl) ?_
        refine lv_aload_n hx hb dX11_endsUnit_115 rfl (lv_at hl 3 rfl) ?_
        refine zg_Model_holds X hW h0 zu_1031 dX11_endsUnit_116 ?_
        refine lv_iconst hx hb dX11_endsUnit_119 zc_i0 ?_
        obtain ⟨g, h⟩ := h
        refine ziald X hW h0.2.2.2.2.1 g dX11_endsUnit_120 ?_
        refine zcallv (zrunV (As := [.int a1, .int a2, .int (zm22 4 (ix 0))]) (rest := []) X hml hl hW h0.1 rfl zk_Model_211 (c_Model_goesBack h0 h) rfl ⟨Nat.le_of_ble_eq_true rfl, Nat.le_of_ble_eq_true rfl⟩ ⟨Nat.le_refl 0, Nat.le_refl 0⟩ rfl (Nat.le_of_ble_eq_true rfl) dX11_endsUnit_121) hW (fun zm24 H locs h hW => ?_)
        refine lv_goto (tgt := 144) hx hb dX11_endsUnit_124 rfl ?_
        exact zretv X hr hlk hW h dX11_endsUnit_144
  exact zMain s.heap [] ls hW hl
def wpJ_Model_does_123 (a1 : Int32) (a2 : Int32)  (Q : Int32 → zMem → Prop) (x_3 : Int32)  (M : zMem) : Prop :=
  (¬ x_3 = 0 → (¬ x_3 = 2 → Q 0 M) ∧ (x_3 = 2 → wp_Model_mayBegin a1 a2 M (fun zr4 zm3 => (zr4 = 0 → Q 0 zm3) ∧ (¬ zr4 = 0 → wp_Model_put a1 a2 0 3 zm3 (fun zm5 => vp_in a2 5 ∧ wp_Model_at a1 a2 2 zm5 (fun zr8 zm7 => wp_Model_ticksOf a1 (zm5 8 (ix a2)) zr8 zm7 (fun zr10 zm9 => wp_Model_put a1 a2 1 zr10 zm9 (fun zm11 => Q 1 zm11)))))))) ∧ (x_3 = 0 → wp_Model_takesOver a1 a2 M (fun zr14 zm13 => zbo zr14 ∧ Q zr14 zm13))
def wpJ_Model_does_31 (a1 : Int32) (a2 : Int32)  (Q : Int32 → zMem → Prop) (x_3 : Int32)  (M : zMem) : Prop :=
  (¬ x_3 = 0 → wpJ_Model_does_123 a1 a2 Q x_3 M) ∧ (x_3 = 0 → (¬ a2 = 0 → wpJ_Model_does_123 a1 a2 Q x_3 M) ∧ (a2 = 0 → wp_Model_of a1 4 M (fun zr16 zm15 => vp_in (10 + zr16) 100 ∧ ∀ zx17 : Int32, zx17 = zm15 4 (ix (10 + zr16)) → wp_Model_put a1 a2 0 2 zm15 (fun zm18 => wp_Model_put a1 a2 4 zx17 zm18 (fun zm20 => wp_Model_pieceFrom zx17 0 zm20 (fun zr23 zm22 => wp_Model_put a1 a2 2 zr23 zm22 (fun zm24 => wp_Model_put a1 a2 3 0 zm24 (fun zm26 => wp_Model_of a1 4 zm26 (fun zr29 zm28 => vp_in 6 100 ∧ (¬ (zm28 4 (ix 6)) = 0) ∧ vp_in ((96 * a1) + 4) 384 ∧ ∀ zm30 : zMem, zm30 = zup zm28 6 (ix ((96 * a1) + 4)) ((zr29 + 1) - (zr29 + 1) / (zm28 4 (ix 6)) * (zm28 4 (ix 6))) → Q 1 zm30)))))))))
def wp_Model_does (a1 : Int32) (a2 : Int32) (M : zMem) (Q : Int32 → zMem → Prop) : Prop :=
  wp_Model_at a1 a2 0 M (fun zr2 zm1 => (¬ zr2 = 3 → wpJ_Model_does_31 a1 a2 Q zr2 zm1) ∧ (zr2 = 3 → wp_Model_at a1 a2 1 zm1 (fun zr32 zm31 => (¬ zr32 = 0 → wpJ_Model_does_31 a1 a2 Q zr2 zm31) ∧ (zr32 = 0 → wp_Model_endsUnit a1 a2 zm31 (fun zm33 => Q 1 zm33)))))
set_option maxHeartbeats 4000000 in
set_option maxRecDepth 20000 in
theorem c_Model_does {l : Launch} {w : zWd} {a1 : Int32} {a2 : Int32} {M : zMem} {post : Int32 → zMem → Prop} (h0 : zI_Model w) (h : wp_Model_does a1 a2 M post) : zMi l ⟨"HandToHandModel", "does", "(II)Z"⟩ prog_13_method_44_code 5 (Option.some .boolean) 5 120 w [.ref (zad w 0), .int a1, .int a2] M post := by
  refine zMet (by decide) (Nat.le_of_ble_eq_true rfl) ?_
  intro p e s m below meth c X hr hlk hml hW ls hl
  have hx := X.1
  have hb := X.2.1
  have hl : lv_has ls 5 [(0, .ref (zad w 0)), (1, .int a1), (2, .int a2)] := hl
  have zJ_123 : ∀ (x_3 : Int32) (M : zMem) (H : Heap) (locs : List Loc) (ls : Array Slot), zWo w s.heap M H locs → lv_has ls 5 [(0, .ref (zad w 0)), (1, .int a1), (2, .int a2), (3, .int x_3)] → wpJ_Model_does_123 a1 a2 post x_3 M → W p l e (zRm 5 120) s m ([.ref (zad w 0), .int a1, .int a2] : List Value).toArray below meth c H locs 0 0 (MQ below (va_Qi post (zB w) (zA w)) ([.ref (zad w 0), .int a1, .int a2] : List Value).toArray s 0 0 (zA w)) (F0 m 123 ls []) := by
    intro x_3 M H locs ls hW hl h
    unfold wpJ_Model_does_123 at h
    refine lv_iload_n hx hb dX11_does_123 rfl (lv_at hl 3 rfl) ?_
    refine lv_if_ne (tgt := 134) hx hb dX11_does_124 rfl (fun c => ?_) (fun c => ?_)
    · replace h := h.1 c
      refine lv_iload_n hx hb dX11_does_134 rfl (lv_at hl 3 rfl) ?_
      refine lv_iconst hx hb dX11_does_135 zc_i2 ?_
      refine lv_icmp_ne (tgt := 183) hx hb dX11_does_136 rfl (fun c => ?_) (fun c => ?_)
      · replace h := h.1 c
        refine lv_iconst hx hb dX11_does_183 zc_i0 ?_
        exact zretz X hr hlk hW rfl h dX11_does_184
      · replace h := h.2 c
        refine lv_aload_n hx hb dX11_does_139 rfl (lv_at hl 0 rfl) ?_
        refine lv_iload_n hx hb dX11_does_140 rfl (lv_at hl 1 rfl) ?_
        refine lv_iload_n hx hb dX11_does_141 rfl (lv_at hl 2 rfl) ?_
        refine zcalli (zrunV (As := [.int a1, .int a2]) (rest := []) X hml hl hW h0.1 rfl zk_Model_228 (c_Model_mayBegin h0 h) rfl ⟨Nat.le_of_ble_eq_true rfl, Nat.le_of_ble_eq_true rfl⟩ ⟨Nat.le_refl 0, Nat.le_refl 0⟩ rfl (Nat.le_of_ble_eq_true rfl) dX11_does_142) hW (fun zr4 zm3 H locs h hW => ?_)
        refine lv_if_eq (tgt := 183) hx hb dX11_does_145 rfl (fun c => ?_) (fun c => ?_)
        · replace h := h.1 c
          refine lv_iconst hx hb dX11_does_183 zc_i0 ?_
          exact zretz X hr hlk hW rfl h dX11_does_184
        · replace h := h.2 c
          refine lv_aload_n hx hb dX11_does_148 rfl (lv_at hl 0 rfl) ?_
          refine lv_iload_n hx hb dX11_does_149 rfl (lv_at hl 1 rfl) ?_
          refine lv_iload_n hx hb dX11_does_150 rfl (lv_at hl 2 rfl) ?_
          refine lv_iconst hx hb dX11_does_151 zc_i0 ?_
          refine lv_iconst hx hb dX11_does_152 zc_i3 ?_
          refine zcallv (zrunV (As := [.int a1, .int a2, .int 0, .int 3]) (rest := []) X hml hl hW h0.1 rfl zk_Model_201 (c_Model_put h0 h) rfl ⟨Nat.le_of_ble_eq_true rfl, Nat.le_of_ble_eq_true rfl⟩ ⟨Nat.le_refl 0, Nat.le_refl 0⟩ rfl (Nat.le_of_ble_eq_true rfl) dX11_does_153) hW (fun zm5 H locs h hW => ?_)
          refine lv_aload_n hx hb dX11_does_156 rfl (lv_at hl 0 rfl) ?_
          refine lv_iload_n hx hb dX11_does_157 rfl (lv_at hl 1 rfl) ?_
          refine lv_iload_n hx hb dX11_does_158 rfl (lv_at hl 2 rfl) ?_
          refine lv_iconst hx hb dX11_does_159 zc_i1 ?_
          refine lv_aload_n hx hb dX11_does_160 rfl (lv_at hl 0 rfl) ?_
          refine lv_iload_n hx hb dX11_does_161 rfl (lv_at hl 1 rfl) ?_
          refine lv_aload_n hx hb dX11_does_162 rfl (lv_at hl 0 rfl) ?_
          refine zg_Model_who X hW h0 zu_1040 dX11_does_163 ?_
          refine lv_iload_n hx hb dX11_does_166 rfl (lv_at hl 2 rfl) ?_
          obtain ⟨g, h⟩ := h
          refine ziald X hW h0.2.2.2.2.2.2.2.1 g dX11_does_167 ?_
          refine lv_aload_n hx hb dX11_does_168 rfl (lv_at hl 0 rfl) ?_
          refine lv_iload_n hx hb dX11_does_169 rfl (lv_at hl 1 rfl) ?_
          refine lv_iload_n hx hb dX11_does_170 rfl (lv_at hl 2 rfl) ?_
          refine lv_iconst hx hb dX11_does_171 zc_i2 ?_
          refine zcalli (zrunV (As := [.int a1, .int a2, .int 2]) (rest := [.int (zm5 8 (ix a2)), .int a1, .ref (zad w 0), .int 1, .int a2, .int a1, .ref (zad w 0)]) X hml hl hW h0.1 rfl zk_Model_195 (c_Model_at h0 h) rfl ⟨Nat.le_of_ble_eq_true rfl, Nat.le_of_ble_eq_true rfl⟩ ⟨Nat.le_refl 0, Nat.le_refl 0⟩ rfl (Nat.le_of_ble_eq_true rfl) dX11_does_172) hW (fun zr8 zm7 H locs h hW => ?_)
          refine zcalli (zrunV (As := [.int a1, .int (zm5 8 (ix a2)), .int zr8]) (rest := [.int 1, .int a2, .int a1, .ref (zad w 0)]) X hml hl hW h0.1 rfl zk_Model_231 (c_Model_ticksOf h0 h) rfl ⟨Nat.le_of_ble_eq_true rfl, Nat.le_of_ble_eq_true rfl⟩ ⟨Nat.le_refl 0, Nat.le_refl 0⟩ rfl (Nat.le_of_ble_eq_true rfl) dX11_does_175) hW (fun zr10 zm9 H locs h hW => ?_)
          refine zcallv (zrunV (As := [.int a1, .int a2, .int 1, .int zr10]) (rest := []) X hml hl hW h0.1 rfl zk_Model_201 (c_Model_put h0 h) rfl ⟨Nat.le_of_ble_eq_true rfl, Nat.le_of_ble_eq_true rfl⟩ ⟨Nat.le_refl 0, Nat.le_refl 0⟩ rfl (Nat.le_of_ble_eq_true rfl) dX11_does_178) hW (fun zm11 H locs h hW => ?_)
          refine lv_iconst hx hb dX11_does_181 zc_i1 ?_
          exact zretz X hr hlk hW rfl h dX11_does_182
    · replace h := h.2 c
      refine lv_aload_n hx hb dX11_does_127 rfl (lv_at hl 0 rfl) ?_
      refine lv_iload_n hx hb dX11_does_128 rfl (lv_at hl 1 rfl) ?_
      refine lv_iload_n hx hb dX11_does_129 rfl (lv_at hl 2 rfl) ?_
      refine zcalli (zrunV (As := [.int a1, .int a2]) (rest := []) X hml hl hW h0.1 rfl zk_Model_225 (c_Model_takesOver h0 h) rfl ⟨Nat.le_of_ble_eq_true rfl, Nat.le_of_ble_eq_true rfl⟩ ⟨Nat.le_refl 0, Nat.le_refl 0⟩ rfl (Nat.le_of_ble_eq_true rfl) dX11_does_130) hW (fun zr14 zm13 H locs h hW => ?_)
      exact zretz X hr hlk hW (zbo_n h.1) h.2 dX11_does_133
  have zJ_31 : ∀ (x_3 : Int32) (M : zMem) (H : Heap) (locs : List Loc) (ls : Array Slot), zWo w s.heap M H locs → lv_has ls 5 [(0, .ref (zad w 0)), (1, .int a1), (2, .int a2), (3, .int x_3)] → wpJ_Model_does_31 a1 a2 post x_3 M → W p l e (zRm 5 120) s m ([.ref (zad w 0), .int a1, .int a2] : List Value).toArray below meth c H locs 0 0 (MQ below (va_Qi post (zB w) (zA w)) ([.ref (zad w 0), .int a1, .int a2] : List Value).toArray s 0 0 (zA w)) (F0 m 31 ls []) := by
    intro x_3 M H locs ls hW hl h
    unfold wpJ_Model_does_31 at h
    refine lv_iload_n hx hb dX11_does_31 rfl (lv_at hl 3 rfl) ?_
    refine lv_if_ne (tgt := 123) hx hb dX11_does_32 rfl (fun c => ?_) (fun c => ?_)
    · replace h := h.1 c
      exact zJ_123 x_3 M H locs ls hW (lv_sub hl [0, 1, 2, 3] rfl) h
    · replace h := h.2 c
      refine lv_iload_n hx hb dX11_does_35 rfl (lv_at hl 2 rfl) ?_
      refine lv_if_ne (tgt := 123) hx hb dX11_does_36 rfl (fun c => ?_) (fun c => ?_)
      · replace h := h.1 c
        exact zJ_123 x_3 M H locs ls hW (lv_sub hl [0, 1, 2, 3] rfl) h
      · replace h := h.2 c
        refine lv_aload_n hx hb dX11_does_39 rfl (lv_at hl 0 rfl) ?_
        refine zg_Model_holds X hW h0 zu_1031 dX11_does_40 ?_
        refine lv_bipush hx hb dX11_does_43 zc_b10 ?_
        refine lv_aload_n hx hb dX11_does_45 rfl (lv_at hl 0 rfl) ?_
        refine lv_iload_n hx hb dX11_does_46 rfl (lv_at hl 1 rfl) ?_
        refine lv_iconst hx hb dX11_does_47 zc_i4 ?_
        refine zcalli (zrunV (As := [.int a1, .int 4]) (rest := [.int 10, .ref (zad w 4)]) X hml hl hW h0.1 rfl zk_Model_218 (c_Model_of h0 h) rfl ⟨Nat.le_of_ble_eq_true rfl, Nat.le_of_ble_eq_true rfl⟩ ⟨Nat.le_refl 0, Nat.le_refl 0⟩ rfl (Nat.le_of_ble_eq_true rfl) dX11_does_48) hW (fun zr16 zm15 H locs h hW => ?_)
        refine lv_iadd hx hb dX11_does_51 ?_
        obtain ⟨g, h⟩ := h
        refine ziald X hW h0.2.2.2.2.1 g dX11_does_52 ?_
        refine lv_topi (fun zx17 ezx17 => ?_)
        replace h := h zx17 ezx17
        refine lv_istore (lv' := [(4, .int zx17), (0, .ref (zad w 0)), (1, .int a1), (2, .int a2), (3, .int x_3)]) hx hb dX11_does_53 hl (Nat.le_of_ble_eq_true rfl) rfl (fun ls hl => ?_)
        refine lv_aload_n hx hb dX11_does_55 rfl (lv_at hl 1 rfl) ?_
        refine lv_iload_n hx hb dX11_does_56 rfl (lv_at hl 2 rfl) ?_
        refine lv_iload_n hx hb dX11_does_57 rfl (lv_at hl 3 rfl) ?_
        refine lv_iconst hx hb dX11_does_58 zc_i0 ?_
        refine lv_iconst hx hb dX11_does_59 zc_i2 ?_
        refine zcallv (zrunV (As := [.int a1, .int a2, .int 0, .int 2]) (rest := []) X hml hl hW h0.1 rfl zk_Model_201 (c_Model_put h0 h) rfl ⟨Nat.le_of_ble_eq_true rfl, Nat.le_of_ble_eq_true rfl⟩ ⟨Nat.le_refl 0, Nat.le_refl 0⟩ rfl (Nat.le_of_ble_eq_true rfl) dX11_does_60) hW (fun zm18 H locs h hW => ?_)
        refine lv_aload_n hx hb dX11_does_63 rfl (lv_at hl 1 rfl) ?_
        refine lv_iload_n hx hb dX11_does_64 rfl (lv_at hl 2 rfl) ?_
        refine lv_iload_n hx hb dX11_does_65 rfl (lv_at hl 3 rfl) ?_
        refine lv_iconst hx hb dX11_does_66 zc_i4 ?_
        refine lv_iload hx hb dX11_does_67 (lv_at hl 0 rfl) ?_
        refine zcallv (zrunV (As := [.int a1, .int a2, .int 4, .int zx17]) (rest := []) X hml hl hW h0.1 rfl zk_Model_201 (c_Model_put h0 h) rfl ⟨Nat.le_of_ble_eq_true rfl, Nat.le_of_ble_eq_true rfl⟩ ⟨Nat.le_refl 0, Nat.le_refl 0⟩ rfl (Nat.le_of_ble_eq_true rfl) dX11_does_69) hW (fun zm20 H locs h hW => ?_)
        refine lv_aload_n hx hb dX11_does_72 rfl (lv_at hl 1 rfl) ?_
        refine lv_iload_n hx hb dX11_does_73 rfl (lv_at hl 2 rfl) ?_
        refine lv_iload_n hx hb dX11_does_74 rfl (lv_at hl 3 rfl) ?_
        refine lv_iconst hx hb dX11_does_75 zc_i2 ?_
        refine lv_aload_n hx hb dX11_does_76 rfl (lv_at hl 1 rfl) ?_
        refine lv_iload hx hb dX11_does_77 (lv_at hl 0 rfl) ?_
        refine lv_iconst hx hb dX11_does_79 zc_i0 ?_
        refine zcalli (zrunV (As := [.int zx17, .int 0]) (rest := [.int 2, .int a2, .int a1, .ref (zad w 0)]) X hml hl hW h0.1 rfl zk_Model_204 (c_Model_pieceFrom h0 h) rfl ⟨Nat.le_of_ble_eq_true rfl, Nat.le_of_ble_eq_true rfl⟩ ⟨Nat.le_refl 0, Nat.le_refl 0⟩ rfl (Nat.le_of_ble_eq_true rfl) dX11_does_80) hW (fun zr23 zm22 H locs h hW => ?_)
        refine zcallv (zrunV (As := [.int a1, .int a2, .int 2, .int zr23]) (rest := []) X hml hl hW h0.1 rfl zk_Model_201 (c_Model_put h0 h) rfl ⟨Nat.le_of_ble_eq_true rfl, Nat.le_of_ble_eq_true rfl⟩ ⟨Nat.le_refl 0, Nat.le_refl 0⟩ rfl (Nat.le_of_ble_eq_true rfl) dX11_does_83) hW (fun zm24 H locs h hW => ?_)
        refine lv_aload_n hx hb dX11_does_86 rfl (lv_at hl 1 rfl) ?_
        refine lv_iload_n hx hb dX11_does_87 rfl (lv_at hl 2 rfl) ?_
        refine lv_iload_n hx hb dX11_does_88 rfl (lv_at hl 3 rfl) ?_
        refine lv_iconst hx hb dX11_does_89 zc_i3 ?_
        refine lv_iconst hx hb dX11_does_90 zc_i0 ?_
        refine zcallv (zrunV (As := [.int a1, .int a2, .int 3, .int 0]) (rest := []) X hml hl hW h0.1 rfl zk_Model_201 (c_Model_put h0 h) rfl ⟨Nat.le_of_ble_eq_true rfl, Nat.le_of_ble_eq_true rfl⟩ ⟨Nat.le_refl 0, Nat.le_refl 0⟩ rfl (Nat.le_of_ble_eq_true rfl) dX11_does_91) hW (fun zm26 H locs h hW => ?_)
        refine lv_aload_n hx hb dX11_does_94 rfl (lv_at hl 1 rfl) ?_
        refine zg_Model_bench X hW h0 zu_1036 dX11_does_95 ?_
        refine lv_bipush hx hb dX11_does_98 zc_b96 ?_
        refine lv_iload_n hx hb dX11_does_100 rfl (lv_at hl 2 rfl) ?_
        refine lv_imul hx hb dX11_does_101 ?_
        refine lv_iconst hx hb dX11_does_102 zc_i4 ?_
        refine lv_iadd hx hb dX11_does_103 ?_
        refine lv_aload_n hx hb dX11_does_104 rfl (lv_at hl 1 rfl) ?_
        refine lv_iload_n hx hb dX11_does_105 rfl (lv_at hl 2 rfl) ?_
        refine lv_iconst hx hb dX11_does_106 zc_i4 ?_
        refine zcalli (zrunV (As := [.int a1, .int 4]) (rest := [.int ((96 * a1) + 4), .ref (zad w 6)]) X hml hl hW h0.1 rfl zk_Model_218 (c_Model_of h0 h) rfl ⟨Nat.le_of_ble_eq_true rfl, Nat.le_of_ble_eq_true rfl⟩ ⟨Nat.le_refl 0, Nat.le_refl 0⟩ rfl (Nat.le_of_ble_eq_true rfl) dX11_does_107) hW (fun zr29 zm28 H locs h hW => ?_)
        refine lv_iconst hx hb dX11_does_110 zc_i1 ?_
        refine lv_iadd hx hb dX11_does_111 ?_
        refine lv_aload_n hx hb dX11_does_112 rfl (lv_at hl 1 rfl) ?_
        refine zg_Model_holds X hW h0 zu_1031 dX11_does_113 ?_
        refine lv_bipush hx hb dX11_does_116 zc_b6 ?_
        obtain ⟨g, h⟩ := h
        refine ziald X hW h0.2.2.2.2.1 g dX11_does_118 ?_
        obtain ⟨g, h⟩ := h
        refine lv_irem hx hb dX11_does_119 g ?_
        obtain ⟨g, h⟩ := h
        refine ziast X hW h0.2.2.2.2.2.2.1 g dX11_does_120 (fun H locs zm30 ezm30 hW => ?_)
        replace h := h zm30 ezm30
        refine lv_iconst hx hb dX11_does_121 zc_i1 ?_
        exact zretz X hr hlk hW rfl h dX11_does_122
  unfold wp_Model_does at h
  have zMain : ∀ (H : Heap) (locs : List Loc) (ls : Array Slot), zWo w s.heap M H locs → lv_has ls 5 [(0, .ref (zad w 0)), (1, .int a1), (2, .int a2)] → W p l e (zRm 5 120) s m ([.ref (zad w 0), .int a1, .int a2] : List Value).toArray below meth c H locs 0 0 (MQ below (va_Qi post (zB w) (zA w)) ([.ref (zad w 0), .int a1, .int a2] : List Value).toArray s 0 0 (zA w)) (F0 m 0 ls []) := by
    intro H locs ls hW hl
    refine lv_aload_n hx hb dX11_does_0 rfl (lv_at hl 0 rfl) ?_
    refine lv_iload_n hx hb dX11_does_1 rfl (lv_at hl 1 rfl) ?_
    refine lv_iload_n hx hb dX11_does_2 rfl (lv_at hl 2 rfl) ?_
    refine lv_iconst hx hb dX11_does_3 zc_i0 ?_
    refine zcalli (zrunV (As := [.int a1, .int a2, .int 0]) (rest := []) X hml hl hW h0.1 rfl zk_Model_195 (c_Model_at h0 h) rfl ⟨Nat.le_of_ble_eq_true rfl, Nat.le_of_ble_eq_true rfl⟩ ⟨Nat.le_refl 0, Nat.le_refl 0⟩ rfl (Nat.le_of_ble_eq_true rfl) dX11_does_4) hW (fun zr2 zm1 H locs h hW => ?_)
    refine lv_istore_n (lv' := [(3, .int zr2), (0, .ref (zad w 0)), (1, .int a1), (2, .int a2)]) hx hb dX11_does_7 rfl hl (Nat.le_of_ble_eq_true rfl) rfl (fun ls hl => ?_)
    refine lv_iload_n hx hb dX11_does_8 rfl (lv_at hl 0 rfl) ?_
    refine lv_iconst hx hb dX11_does_9 zc_i3 ?_
    refine lv_icmp_ne (tgt := 31) hx hb dX11_does_10 rfl (fun c => ?_) (fun c => ?_)
    · replace h := h.1 c
      exact zJ_31 zr2 zm1 H locs ls hW (lv_sub hl [1, 2, 3, 0] rfl) h
    · replace h := h.2 c
      refine lv_aload_n hx hb dX11_does_13 rfl (lv_at hl 1 rfl) ?_
      refine lv_iload_n hx hb dX11_does_14 rfl (lv_at hl 2 rfl) ?_
      refine lv_iload_n hx hb dX11_does_15 rfl (lv_at hl 3 rfl) ?_
      refine lv_iconst hx hb dX11_does_16 zc_i1 ?_
      refine zcalli (zrunV (As := [.int a1, .int a2, .int 1]) (rest := []) X hml hl hW h0.1 rfl zk_Model_195 (c_Model_at h0 h) rfl ⟨Nat.le_of_ble_eq_true rfl, Nat.le_of_ble_eq_true rfl⟩ ⟨Nat.le_refl 0, Nat.le_refl 0⟩ rfl (Nat.le_of_ble_eq_true rfl) dX11_does_17) hW (fun zr32 zm31 H locs h hW => ?_)
      refine lv_if_ne (tgt := 31) hx hb dX11_does_20 rfl (fun c => ?_) (fun c => ?_)
      · replace h := h.1 c
        exact zJ_31 zr2 zm31 H locs ls hW (lv_sub hl [1, 2, 3, 0] rfl) h
      · replace h := h.2 c
        refine lv_aload_n hx hb dX11_does_23 rfl (lv_at hl 1 rfl) ?_
        refine lv_iload_n hx hb dX11_does_24 rfl (lv_at hl 2 rfl) ?_
        refine lv_iload_n hx hb dX11_does_25 rfl (lv_at hl 3 rfl) ?_
        refine zcallv (zrunV (As := [.int a1, .int a2]) (rest := []) X hml hl hW h0.1 rfl zk_Model_221 (c_Model_endsUnit h0 h) rfl ⟨Nat.le_of_ble_eq_true rfl, Nat.le_of_ble_eq_true rfl⟩ ⟨Nat.le_refl 0, Nat.le_refl 0⟩ rfl (Nat.le_of_ble_eq_true rfl) dX11_does_26) hW (fun zm33 H locs h hW => ?_)
        refine lv_iconst hx hb dX11_does_29 zc_i1 ?_
        exact zretz X hr hlk hW rfl h dX11_does_30
  exact zMain s.heap [] ls hW hl
