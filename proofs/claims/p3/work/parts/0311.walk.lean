def wp_Main_learnt (a1 : Int32) (a2 : Int32) (M : zMem) (Q : Int32 → zMem → Prop) : Prop :=
  wp_Main_isHand a1 M (fun zr2 zm1 => (zr2 = 0 → Q ((-1)) zm1) ∧ (¬ zr2 = 0 → wp_Main_isPiece a2 zm1 (fun zr4 zm3 => (¬ zr4 = 0 → vp_in ((a1 * 8) + a2) 40 ∧ Q (zm3 25 (ix ((a1 * 8) + a2))) zm3) ∧ (zr4 = 0 → Q ((-1)) zm3))))
set_option maxHeartbeats 4000000 in
set_option maxRecDepth 20000 in
theorem c_Main_learnt {l : Launch} {w : zWd} {a1 : Int32} {a2 : Int32} {M : zMem} {post : Int32 → zMem → Prop} (h0 : zI_Main w) (h : wp_Main_learnt a1 a2 M post) : zMi l ⟨"HandToHand", "learnt", "(II)I"⟩ prog_1_method_15_code 3 (Option.some .int) 1 21 w [.ref (zad w 0), .int a1, .int a2] M post := by
  refine zMet (by decide) (Nat.le_of_ble_eq_true rfl) ?_
  intro p e s m below meth c X hr hlk hml hW ls hl
  have hx := X.1
  have hb := X.2.1
  have hl : lv_has ls 3 [(0, .ref (zad w 0)), (1, .int a1), (2, .int a2)] := hl
  unfold wp_Main_learnt at h
  have zMain : ∀ (H : Heap) (locs : List Loc) (ls : Array Slot), zWo w s.heap M H locs → lv_has ls 3 [(0, .ref (zad w 0)), (1, .int a1), (2, .int a2)] → W p l e (zRm 1 21) s m ([.ref (zad w 0), .int a1, .int a2] : List Value).toArray below meth c H locs 0 0 (MQ below (va_Qi post (zB w) (zA w)) ([.ref (zad w 0), .int a1, .int a2] : List Value).toArray s 0 0 (zA w)) (F0 m 0 ls []) := by
    intro H locs ls hW hl
    refine lv_aload_n hx hb dX10_learnt_0 rfl (lv_at hl 0 rfl) ?_
    refine lv_iload_n hx hb dX10_learnt_1 rfl (lv_at hl 1 rfl) ?_
    refine zcalli (zrunV (As := [.int a1]) (rest := []) X hml hl hW h0.1 rfl zk_Main_165 (c_Main_isHand h0 h) rfl ⟨Nat.le_of_ble_eq_true rfl, Nat.le_of_ble_eq_true rfl⟩ ⟨Nat.le_refl 0, Nat.le_refl 0⟩ rfl (Nat.le_of_ble_eq_true rfl) dX10_learnt_2) hW (fun zr2 zm1 H locs h hW => ?_)
    refine lv_if_eq (tgt := 16) hx hb dX10_learnt_5 rfl (fun c => ?_) (fun c => ?_)
    · replace h := h.1 c
      refine lv_iconst hx hb dX10_learnt_16 zc_im1 ?_
      exact zreti X hr hlk hW h dX10_learnt_17
    · replace h := h.2 c
      refine lv_aload_n hx hb dX10_learnt_8 rfl (lv_at hl 0 rfl) ?_
      refine lv_iload_n hx hb dX10_learnt_9 rfl (lv_at hl 2 rfl) ?_
      refine zcalli (zrunV (As := [.int a2]) (rest := []) X hml hl hW h0.1 rfl zk_Main_157 (c_Main_isPiece h0 h) rfl ⟨Nat.le_of_ble_eq_true rfl, Nat.le_of_ble_eq_true rfl⟩ ⟨Nat.le_refl 0, Nat.le_refl 0⟩ rfl (Nat.le_of_ble_eq_true rfl) dX10_learnt_10) hW (fun zr4 zm3 H locs h hW => ?_)
      refine lv_if_ne (tgt := 18) hx hb dX10_learnt_13 rfl (fun c => ?_) (fun c => ?_)
      · replace h := h.1 c
        refine lv_aload_n hx hb dX10_learnt_18 rfl (lv_at hl 0 rfl) ?_
        refine zg_Main_bench X hW h0 zu_470 dX10_learnt_19 ?_
        refine zg_Bench_learned X hW h0.2.2.2.2.2.2.2.1 zu_189 dX10_learnt_22 ?_
        refine lv_iload_n hx hb dX10_learnt_25 rfl (lv_at hl 1 rfl) ?_
        refine lv_bipush hx hb dX10_learnt_26 zc_b8 ?_
        refine lv_imul hx hb dX10_learnt_28 ?_
        refine lv_iload_n hx hb dX10_learnt_29 rfl (lv_at hl 2 rfl) ?_
        refine lv_iadd hx hb dX10_learnt_30 ?_
        obtain ⟨g, h⟩ := h
        refine ziald X hW h0.2.2.2.2.2.2.2.1.2.2.2.2.2.2.2.1 g dX10_learnt_31 ?_
        exact zreti X hr hlk hW h dX10_learnt_32
      · replace h := h.2 c
        refine lv_iconst hx hb dX10_learnt_16 zc_im1 ?_
        exact zreti X hr hlk hW h dX10_learnt_17
  exact zMain s.heap [] ls hW hl
def wp_Main_takes (a1 : Int32) (a2 : Int32) (M : zMem) (Q : Int32 → zMem → Prop) : Prop :=
  wp_Main_isHand a1 M (fun zr2 zm1 => (zr2 = 0 → Q ((-1)) zm1) ∧ (¬ zr2 = 0 → wp_Main_isPiece a2 zm1 (fun zr4 zm3 => (¬ zr4 = 0 → vp_in ((a1 * 8) + a2) 40 ∧ wp_Told_ticksOf 1 a1 a2 (zm3 25 (ix ((a1 * 8) + a2))) zm3 (fun zr6 zm5 => Q zr6 zm5)) ∧ (zr4 = 0 → Q ((-1)) zm3))))
set_option maxHeartbeats 4000000 in
set_option maxRecDepth 20000 in
theorem c_Main_takes {l : Launch} {w : zWd} {a1 : Int32} {a2 : Int32} {M : zMem} {post : Int32 → zMem → Prop} (h0 : zI_Main w) (h : wp_Main_takes a1 a2 M post) : zMi l ⟨"HandToHand", "takes", "(II)I"⟩ prog_1_method_16_code 3 (Option.some .int) 1 24 w [.ref (zad w 0), .int a1, .int a2] M post := by
  refine zMet (by decide) (Nat.le_of_ble_eq_true rfl) ?_
  intro p e s m below meth c X hr hlk hml hW ls hl
  have hx := X.1
  have hb := X.2.1
  have hl : lv_has ls 3 [(0, .ref (zad w 0)), (1, .int a1), (2, .int a2)] := hl
  unfold wp_Main_takes at h
  have zMain : ∀ (H : Heap) (locs : List Loc) (ls : Array Slot), zWo w s.heap M H locs → lv_has ls 3 [(0, .ref (zad w 0)), (1, .int a1), (2, .int a2)] → W p l e (zRm 1 24) s m ([.ref (zad w 0), .int a1, .int a2] : List Value).toArray below meth c H locs 0 0 (MQ below (va_Qi post (zB w) (zA w)) ([.ref (zad w 0), .int a1, .int a2] : List Value).toArray s 0 0 (zA w)) (F0 m 0 ls []) := by
    intro H locs ls hW hl
    refine lv_aload_n hx hb dX10_takes_0 rfl (lv_at hl 0 rfl) ?_
    refine lv_iload_n hx hb dX10_takes_1 rfl (lv_at hl 1 rfl) ?_
    refine zcalli (zrunV (As := [.int a1]) (rest := []) X hml hl hW h0.1 rfl zk_Main_165 (c_Main_isHand h0 h) rfl ⟨Nat.le_of_ble_eq_true rfl, Nat.le_of_ble_eq_true rfl⟩ ⟨Nat.le_refl 0, Nat.le_refl 0⟩ rfl (Nat.le_of_ble_eq_true rfl) dX10_takes_2) hW (fun zr2 zm1 H locs h hW => ?_)
    refine lv_if_eq (tgt := 16) hx hb dX10_takes_5 rfl (fun c => ?_) (fun c => ?_)
    · replace h := h.1 c
      refine lv_iconst hx hb dX10_takes_16 zc_im1 ?_
      exact zreti X hr hlk hW h dX10_takes_17
    · replace h := h.2 c
      refine lv_aload_n hx hb dX10_takes_8 rfl (lv_at hl 0 rfl) ?_
      refine lv_iload_n hx hb dX10_takes_9 rfl (lv_at hl 2 rfl) ?_
      refine zcalli (zrunV (As := [.int a2]) (rest := []) X hml hl hW h0.1 rfl zk_Main_157 (c_Main_isPiece h0 h) rfl ⟨Nat.le_of_ble_eq_true rfl, Nat.le_of_ble_eq_true rfl⟩ ⟨Nat.le_refl 0, Nat.le_refl 0⟩ rfl (Nat.le_of_ble_eq_true rfl) dX10_takes_10) hW (fun zr4 zm3 H locs h hW => ?_)
      refine lv_if_ne (tgt := 18) hx hb dX10_takes_13 rfl (fun c => ?_) (fun c => ?_)
      · replace h := h.1 c
        refine lv_aload_n hx hb dX10_takes_18 rfl (lv_at hl 0 rfl) ?_
        refine zg_Main_told X hW h0 zu_467 dX10_takes_19 ?_
        refine lv_iload_n hx hb dX10_takes_22 rfl (lv_at hl 1 rfl) ?_
        refine lv_iload_n hx hb dX10_takes_23 rfl (lv_at hl 2 rfl) ?_
        refine lv_aload_n hx hb dX10_takes_24 rfl (lv_at hl 0 rfl) ?_
        refine zg_Main_bench X hW h0 zu_470 dX10_takes_25 ?_
        refine zg_Bench_learned X hW h0.2.2.2.2.2.2.2.1 zu_189 dX10_takes_28 ?_
        refine lv_iload_n hx hb dX10_takes_31 rfl (lv_at hl 1 rfl) ?_
        refine lv_bipush hx hb dX10_takes_32 zc_b8 ?_
        refine lv_imul hx hb dX10_takes_34 ?_
        refine lv_iload_n hx hb dX10_takes_35 rfl (lv_at hl 2 rfl) ?_
        refine lv_iadd hx hb dX10_takes_36 ?_
        obtain ⟨g, h⟩ := h
        refine ziald X hW h0.2.2.2.2.2.2.2.1.2.2.2.2.2.2.2.1 g dX10_takes_37 ?_
        refine zcalli (zrunV (As := [.int a1, .int a2, .int (zm3 25 (ix ((a1 * 8) + a2)))]) (rest := []) X hml hl hW h0.2.2.2.2.1.1 rfl zk_Main_224 (c_Told_ticksOf h0.2.2.2.2.1 h) rfl ⟨Nat.le_of_ble_eq_true rfl, Nat.le_of_ble_eq_true rfl⟩ ⟨Nat.le_refl 0, Nat.le_refl 0⟩ rfl (Nat.le_of_ble_eq_true rfl) dX10_takes_38) hW (fun zr6 zm5 H locs h hW => ?_)
        exact zreti X hr hlk hW h dX10_takes_41
      · replace h := h.2 c
        refine lv_iconst hx hb dX10_takes_16 zc_im1 ?_
        exact zreti X hr hlk hW h dX10_takes_17
  exact zMain s.heap [] ls hW hl
def wp_Main_keep (a1 : Int32) (M : zMem) (Q : Int32 → zMem → Prop) : Prop :=
  (a1 < 0 → Q ((-1)) M) ∧ (¬ a1 < 0 → (a1 < 2 → vp_in a1 2 ∧ ∀ zx1 : Int32, zx1 = M 28 (ix a1) → vp_in a1 2 ∧ wp_Bench_copyFrom (63 + 9 * ix a1) 18 M (fun zm2 => vp_in a1 2 ∧ ∀ zm4 : zMem, zm4 = zup zm2 28 (ix a1) (vp_nar .boolean 1) → (zx1 = 0 → Q 0 zm4) ∧ (¬ zx1 = 0 → Q 1 zm4))) ∧ (¬ a1 < 2 → Q ((-1)) M))
set_option maxHeartbeats 4000000 in
set_option maxRecDepth 20000 in
theorem c_Main_keep {l : Launch} {w : zWd} {a1 : Int32} {M : zMem} {post : Int32 → zMem → Prop} (h0 : zI_Main w) (h : wp_Main_keep a1 M post) : zMi l ⟨"HandToHand", "keep", "(I)I"⟩ prog_1_method_17_code 3 (Option.some .int) 2 51 w [.ref (zad w 0), .int a1] M post := by
  refine zMet (by decide) (Nat.le_of_ble_eq_true rfl) ?_
  intro p e s m below meth c X hr hlk hml hW ls hl
  have hx := X.1
  have hb := X.2.1
  have hl : lv_has ls 3 [(0, .ref (zad w 0)), (1, .int a1)] := hl
  unfold wp_Main_keep at h
  have zMain : ∀ (H : Heap) (locs : List Loc) (ls : Array Slot), zWo w s.heap M H locs → lv_has ls 3 [(0, .ref (zad w 0)), (1, .int a1)] → W p l e (zRm 2 51) s m ([.ref (zad w 0), .int a1] : List Value).toArray below meth c H locs 0 0 (MQ below (va_Qi post (zB w) (zA w)) ([.ref (zad w 0), .int a1] : List Value).toArray s 0 0 (zA w)) (F0 m 0 ls []) := by
    intro H locs ls hW hl
    refine lv_iload_n hx hb dX10_keep_0 rfl (lv_at hl 1 rfl) ?_
    refine lv_if_lt (tgt := 9) hx hb dX10_keep_1 rfl (fun c => ?_) (fun c => ?_)
    · replace h := h.1 c
      refine lv_iconst hx hb dX10_keep_9 zc_im1 ?_
      exact zreti X hr hlk hW h dX10_keep_10
    · replace h := h.2 c
      refine lv_iload_n hx hb dX10_keep_4 rfl (lv_at hl 1 rfl) ?_
      refine lv_iconst hx hb dX10_keep_5 zc_i2 ?_
      refine lv_icmp_lt (tgt := 11) hx hb dX10_keep_6 rfl (fun c => ?_) (fun c => ?_)
      · replace h := h.1 c
        refine lv_aload_n hx hb dX10_keep_11 rfl (lv_at hl 0 rfl) ?_
        refine zg_Main_kept X hW h0 zu_472 dX10_keep_12 ?_
        refine lv_iload_n hx hb dX10_keep_15 rfl (lv_at hl 1 rfl) ?_
        obtain ⟨g, h⟩ := h
        refine zzald X hW h0.2.1 g dX10_keep_16 ?_
        refine lv_topi (fun zx1 ezx1 => ?_)
        replace h := h zx1 ezx1
        refine lv_istore_n (lv' := [(2, .int zx1), (0, .ref (zad w 0)), (1, .int a1)]) hx hb dX10_keep_17 rfl hl (Nat.le_of_ble_eq_true rfl) rfl (fun ls hl => ?_)
        refine lv_aload_n hx hb dX10_keep_18 rfl (lv_at hl 1 rfl) ?_
        refine zg_Main_images X hW h0 zu_471 dX10_keep_19 ?_
        refine lv_iload_n hx hb dX10_keep_22 rfl (lv_at hl 2 rfl) ?_
        obtain ⟨g, h⟩ := h
        refine zaald_Bench X hW h0.2.2.1 g dX10_keep_23 ?_
        refine lv_aload_n hx hb dX10_keep_24 rfl (lv_at hl 1 rfl) ?_
        refine zg_Main_bench X hW h0 zu_470 dX10_keep_25 ?_
        refine zcallv (zrunV (As := [.ref (zad w 18)]) (rest := []) X hml hl hW (h0.2.2.1.2 _ (zix_lt g)).1 rfl zk_Main_228 (c_Bench_copyFrom (h0.2.2.1.2 _ (zix_lt g)) h0.2.2.2.2.2.2.2.1 h) rfl ⟨Nat.le_of_ble_eq_true rfl, Nat.le_of_ble_eq_true rfl⟩ ⟨Nat.le_refl 0, Nat.le_refl 0⟩ rfl (Nat.le_of_ble_eq_true rfl) dX10_keep_28) hW (fun zm2 H locs h hW => ?_)
        refine lv_aload_n hx hb dX10_keep_31 rfl (lv_at hl 1 rfl) ?_
        refine zg_Main_kept X hW h0 zu_472 dX10_keep_32 ?_
        refine lv_iload_n hx hb dX10_keep_35 rfl (lv_at hl 2 rfl) ?_
        refine lv_iconst hx hb dX10_keep_36 zc_i1 ?_
        obtain ⟨g, h⟩ := h
        refine zzast X hW h0.2.1 g dX10_keep_37 (fun H locs zm4 ezm4 hW => ?_)
        replace h := h zm4 ezm4
        refine lv_iload_n hx hb dX10_keep_38 rfl (lv_at hl 0 rfl) ?_
        refine lv_if_eq (tgt := 46) hx hb dX10_keep_39 rfl (fun c => ?_) (fun c => ?_)
        · replace h := h.1 c
          refine lv_iconst hx hb dX10_keep_46 zc_i0 ?_
          exact zreti X hr hlk hW h dX10_keep_47
        · replace h := h.2 c
          refine lv_iconst hx hb dX10_keep_42 zc_i1 ?_
          refine lv_goto (tgt := 47) hx hb dX10_keep_43 rfl ?_
          exact zreti X hr hlk hW h dX10_keep_47
      · replace h := h.2 c
        refine lv_iconst hx hb dX10_keep_9 zc_im1 ?_
        exact zreti X hr hlk hW h dX10_keep_10
  exact zMain s.heap [] ls hW hl
def wp_Main_back (a1 : Int32) (M : zMem) (Q : Int32 → zMem → Prop) : Prop :=
  (a1 < 0 → Q ((-1)) M) ∧ (¬ a1 < 0 → (a1 < 2 → vp_in a1 2 ∧ (¬ (M 28 (ix a1)) = 0 → vp_in a1 2 ∧ wp_Bench_copyFrom 18 (63 + 9 * ix a1) M (fun zm1 => Q (zm1 18 2) zm1)) ∧ ((M 28 (ix a1)) = 0 → Q ((-2)) M)) ∧ (¬ a1 < 2 → Q ((-1)) M))
set_option maxHeartbeats 4000000 in
set_option maxRecDepth 20000 in
theorem c_Main_back {l : Launch} {w : zWd} {a1 : Int32} {M : zMem} {post : Int32 → zMem → Prop} (h0 : zI_Main w) (h : wp_Main_back a1 M post) : zMi l ⟨"HandToHand", "back", "(I)I"⟩ prog_1_method_18_code 2 (Option.some .int) 2 51 w [.ref (zad w 0), .int a1] M post := by
  refine zMet (by decide) (Nat.le_of_ble_eq_true rfl) ?_
  intro p e s m below meth c X hr hlk hml hW ls hl
  have hx := X.1
  have hb := X.2.1
  have hl : lv_has ls 2 [(0, .ref (zad w 0)), (1, .int a1)] := hl
  unfold wp_Main_back at h
  have zMain : ∀ (H : Heap) (locs : List Loc) (ls : Array Slot), zWo w s.heap M H locs → lv_has ls 2 [(0, .ref (zad w 0)), (1, .int a1)] → W p l e (zRm 2 51) s m ([.ref (zad w 0), .int a1] : List Value).toArray below meth c H locs 0 0 (MQ below (va_Qi post (zB w) (zA w)) ([.ref (zad w 0), .int a1] : List Value).toArray s 0 0 (zA w)) (F0 m 0 ls []) := by
    intro H locs ls hW hl
    refine lv_iload_n hx hb dX10_back_0 rfl (lv_at hl 1 rfl) ?_
    refine lv_if_lt (tgt := 9) hx hb dX10_back_1 rfl (fun c => ?_) (fun c => ?_)
    · replace h := h.1 c
      refine lv_iconst hx hb dX10_back_9 zc_im1 ?_
      exact zreti X hr hlk hW h dX10_back_10
    · replace h := h.2 c
      refine lv_iload_n hx hb dX10_back_4 rfl (lv_at hl 1 rfl) ?_
      refine lv_iconst hx hb dX10_back_5 zc_i2 ?_
      refine lv_icmp_lt (tgt := 11) hx hb dX10_back_6 rfl (fun c => ?_) (fun c => ?_)
      · replace h := h.1 c
        refine lv_aload_n hx hb dX10_back_11 rfl (lv_at hl 0 rfl) ?_
        refine zg_Main_kept X hW h0 zu_472 dX10_back_12 ?_
        refine lv_iload_n hx hb dX10_back_15 rfl (lv_at hl 1 rfl) ?_
        obtain ⟨g, h⟩ := h
        refine zzald X hW h0.2.1 g dX10_back_16 ?_
        refine lv_if_ne (tgt := 23) hx hb dX10_back_17 rfl (fun c => ?_) (fun c => ?_)
        · replace h := h.1 c
          refine lv_aload_n hx hb dX10_back_23 rfl (lv_at hl 0 rfl) ?_
          refine zg_Main_bench X hW h0 zu_470 dX10_back_24 ?_
          refine lv_aload_n hx hb dX10_back_27 rfl (lv_at hl 0 rfl) ?_
          refine zg_Main_images X hW h0 zu_471 dX10_back_28 ?_
          refine lv_iload_n hx hb dX10_back_31 rfl (lv_at hl 1 rfl) ?_
          obtain ⟨g, h⟩ := h
          refine zaald_Bench X hW h0.2.2.1 g dX10_back_32 ?_
          refine zcallv (zrunV (As := [.ref (zad w (63 + 9 * ix a1))]) (rest := []) X hml hl hW h0.2.2.2.2.2.2.2.1.1 rfl zk_Main_228 (c_Bench_copyFrom h0.2.2.2.2.2.2.2.1 (h0.2.2.1.2 _ (zix_lt g)) h) rfl ⟨Nat.le_of_ble_eq_true rfl, Nat.le_of_ble_eq_true rfl⟩ ⟨Nat.le_refl 0, Nat.le_refl 0⟩ rfl (Nat.le_of_ble_eq_true rfl) dX10_back_33) hW (fun zm1 H locs h hW => ?_)
          refine lv_aload_n hx hb dX10_back_36 rfl (lv_at hl 0 rfl) ?_
          refine zg_Main_bench X hW h0 zu_470 dX10_back_37 ?_
          refine zg_Bench_tick X hW h0.2.2.2.2.2.2.2.1 zu_165 dX10_back_40 ?_
          exact zreti X hr hlk hW h dX10_back_43
        · replace h := h.2 c
          refine lv_bipush hx hb dX10_back_20 zc_bm2 ?_
          exact zreti X hr hlk hW h dX10_back_22
      · replace h := h.2 c
        refine lv_iconst hx hb dX10_back_9 zc_im1 ?_
        exact zreti X hr hlk hW h dX10_back_10
  exact zMain s.heap [] ls hW hl
def wp_Main_isRun (a1 : Int32) (M : zMem) (Q : Int32 → zMem → Prop) : Prop :=
  (a1 < 1 → Q 0 M) ∧ (¬ a1 < 1 → (120 < a1 → Q 0 M) ∧ (¬ 120 < a1 → Q 1 M))
set_option maxHeartbeats 4000000 in
set_option maxRecDepth 20000 in
theorem c_Main_isRun {l : Launch} {w : zWd} {a1 : Int32} {M : zMem} {post : Int32 → zMem → Prop}  (h : wp_Main_isRun a1 M post) : zMi l ⟨"HandToHand", "isRun", "(I)Z"⟩ prog_1_method_41_code 1 (Option.some .boolean) 0 0 w [.int a1] M post := by
  refine zMet (by decide) (Nat.le_of_ble_eq_true rfl) ?_
  intro p e s m below meth c X hr hlk hml hW ls hl
  have hx := X.1
  have hb := X.2.1
  have hl : lv_has ls 1 [(0, .int a1)] := hl
  unfold wp_Main_isRun at h
  have zMain : ∀ (H : Heap) (locs : List Loc) (ls : Array Slot), zWo w s.heap M H locs → lv_has ls 1 [(0, .int a1)] → W p l e (zRm 0 0) s m ([.int a1] : List Value).toArray below meth c H locs 0 0 (MQ below (va_Qi post (zB w) (zA w)) ([.int a1] : List Value).toArray s 0 0 (zA w)) (F0 m 0 ls []) := by
    intro H locs ls hW hl
    refine lv_iload_n hx hb dX10_isRun_0 rfl (lv_at hl 0 rfl) ?_
    refine lv_iconst hx hb dX10_isRun_1 zc_i1 ?_
    refine lv_icmp_lt (tgt := 15) hx hb dX10_isRun_2 rfl (fun c => ?_) (fun c => ?_)
    · replace h := h.1 c
      refine lv_iconst hx hb dX10_isRun_15 zc_i0 ?_
      exact zretz X hr hlk hW rfl h dX10_isRun_16
    · replace h := h.2 c
      refine lv_iload_n hx hb dX10_isRun_5 rfl (lv_at hl 0 rfl) ?_
      refine lv_bipush hx hb dX10_isRun_6 zc_b120 ?_
      refine lv_icmp_gt (tgt := 15) hx hb dX10_isRun_8 rfl (fun c => ?_) (fun c => ?_)
      · replace h := h.1 c
        refine lv_iconst hx hb dX10_isRun_15 zc_i0 ?_
        exact zretz X hr hlk hW rfl h dX10_isRun_16
      · replace h := h.2 c
        refine lv_iconst hx hb dX10_isRun_11 zc_i1 ?_
        refine lv_goto (tgt := 16) hx hb dX10_isRun_12 rfl ?_
        exact zretz X hr hlk hW rfl h dX10_isRun_16
  exact zMain s.heap [] ls hW hl
def wp_Main_run (a1 : Int32) (a2 : Int32) (M : zMem) (Q : Int32 → zMem → Prop) : Prop :=
  wp_Main_isRun a1 M (fun zr2 zm1 => (zr2 = 0 → Q ((-1)) zm1) ∧ (¬ zr2 = 0 → (a2 < 0 → Q ((-1)) zm1) ∧ (¬ a2 < 0 → (a2 ≤ 5 → wp_Course_runFor 29 a1 zm1 (fun zm3 => ∀ zx5 : Int32, zx5 = a2 → (zx5 = 0 → Q (zm3 32 2) zm3) ∧ (zx5 = 1 → Q (zm3 32 3) zm3) ∧ (zx5 = 2 → Q (zm3 32 4) zm3) ∧ (zx5 = 3 → ((zm3 29 3) = 0 → Q 0 zm3) ∧ (¬ (zm3 29 3) = 0 → Q 1 zm3)) ∧ (zx5 = 4 → wp_Bench_waitedByAll 32 zm3 (fun zr7 zm6 => Q zr7 zm6)) ∧ (¬ zx5 = 0 → ¬ zx5 = 1 → ¬ zx5 = 2 → ¬ zx5 = 3 → ¬ zx5 = 4 → wp_Bench_mostStoodAt 32 zm3 (fun zr9 zm8 => Q zr9 zm8)))) ∧ (¬ a2 ≤ 5 → Q ((-1)) zm1))))
set_option maxHeartbeats 4000000 in
set_option maxRecDepth 20000 in
theorem c_Main_run {l : Launch} {w : zWd} {a1 : Int32} {a2 : Int32} {M : zMem} {post : Int32 → zMem → Prop} (h0 : zI_Main w) (h : wp_Main_run a1 a2 M post) : zMi l ⟨"HandToHand", "run", "(II)I"⟩ prog_1_method_19_code 3 (Option.some .int) 5 115 w [.ref (zad w 0), .int a1, .int a2] M post := by
  refine zMet (by decide) (Nat.le_of_ble_eq_true rfl) ?_
  intro p e s m below meth c X hr hlk hml hW ls hl
  have hx := X.1
  have hb := X.2.1
  have hl : lv_has ls 3 [(0, .ref (zad w 0)), (1, .int a1), (2, .int a2)] := hl
  unfold wp_Main_run at h
  have zMain : ∀ (H : Heap) (locs : List Loc) (ls : Array Slot), zWo w s.heap M H locs → lv_has ls 3 [(0, .ref (zad w 0)), (1, .int a1), (2, .int a2)] → W p l e (zRm 5 115) s m ([.ref (zad w 0), .int a1, .int a2] : List Value).toArray below meth c H locs 0 0 (MQ below (va_Qi post (zB w) (zA w)) ([.ref (zad w 0), .int a1, .int a2] : List Value).toArray s 0 0 (zA w)) (F0 m 0 ls []) := by
    intro H locs ls hW hl
    refine lv_iload_n hx hb dX10_run_0 rfl (lv_at hl 1 rfl) ?_
    refine zcalli (zrunS (As := [.int a1]) (rest := []) X hml hl hW zk_Main_231 (c_Main_isRun  h) rfl ⟨Nat.le_of_ble_eq_true rfl, Nat.le_of_ble_eq_true rfl⟩ ⟨Nat.le_refl 0, Nat.le_refl 0⟩ rfl (Nat.le_of_ble_eq_true rfl) dX10_run_1) hW (fun zr2 zm1 H locs h hW => ?_)
    refine lv_if_eq (tgt := 16) hx hb dX10_run_4 rfl (fun c => ?_) (fun c => ?_)
    · replace h := h.1 c
      refine lv_iconst hx hb dX10_run_16 zc_im1 ?_
      exact zreti X hr hlk hW h dX10_run_17
    · replace h := h.2 c
      refine lv_iload_n hx hb dX10_run_7 rfl (lv_at hl 2 rfl) ?_
      refine lv_if_lt (tgt := 16) hx hb dX10_run_8 rfl (fun c => ?_) (fun c => ?_)
      · replace h := h.1 c
        refine lv_iconst hx hb dX10_run_16 zc_im1 ?_
        exact zreti X hr hlk hW h dX10_run_17
      · replace h := h.2 c
        refine lv_iload_n hx hb dX10_run_11 rfl (lv_at hl 2 rfl) ?_
        refine lv_iconst hx hb dX10_run_12 zc_i5 ?_
        refine lv_icmp_le (tgt := 18) hx hb dX10_run_13 rfl (fun c => ?_) (fun c => ?_)
        · replace h := h.1 c
          refine lv_aload_n hx hb dX10_run_18 rfl (lv_at hl 0 rfl) ?_
          refine zg_Main_course X hW h0 zu_473 dX10_run_19 ?_
          refine lv_iload_n hx hb dX10_run_22 rfl (lv_at hl 1 rfl) ?_
          refine zcallv (zrunV (As := [.int a1]) (rest := []) X hml hl hW h0.2.2.2.2.2.2.2.2.1.1 rfl zk_Main_234 (c_Course_runFor h0.2.2.2.2.2.2.2.2.1 h) rfl ⟨Nat.le_of_ble_eq_true rfl, Nat.le_of_ble_eq_true rfl⟩ ⟨Nat.le_refl 0, Nat.le_refl 0⟩ rfl (Nat.le_of_ble_eq_true rfl) dX10_run_23) hW (fun zm3 H locs h hW => ?_)
          refine lv_iload_n hx hb dX10_run_26 rfl (lv_at hl 2 rfl) ?_
          refine lv_topi (fun zx5 ezx5 => ?_)
          replace h := h zx5 ezx5
          by_cases c0 : zx5 = 0
          · replace h := h.1 c0
            refine lv_tableIn (off := 33) (tgt := 60) hx hb dX10_run_27 (by rw [c0]; decide) (by rw [c0]; decide) (by rw [c0]; rfl) rfl ?_
            refine lv_aload_n hx hb dX10_run_60 rfl (lv_at hl 0 rfl) ?_
            refine zg_Main_course X hW h0 zu_473 dX10_run_61 ?_
            refine zg_Course_bench X hW h0.2.2.2.2.2.2.2.2.1 zu_248 dX10_run_64 ?_
            refine zg_Bench_tick X hW h0.2.2.2.2.2.2.2.2.1.2.2 zu_165 dX10_run_67 ?_
            exact zreti X hr hlk hW h dX10_run_70
          replace h := h.2
          by_cases c1 : zx5 = 1
          · replace h := h.1 c1
            refine lv_tableIn (off := 44) (tgt := 71) hx hb dX10_run_27 (by rw [c1]; decide) (by rw [c1]; decide) (by rw [c1]; rfl) rfl ?_
            refine lv_aload_n hx hb dX10_run_71 rfl (lv_at hl 0 rfl) ?_
            refine zg_Main_course X hW h0 zu_473 dX10_run_72 ?_
            refine zg_Course_bench X hW h0.2.2.2.2.2.2.2.2.1 zu_248 dX10_run_75 ?_
            refine zg_Bench_done X hW h0.2.2.2.2.2.2.2.2.1.2.2 zu_169 dX10_run_78 ?_
            exact zreti X hr hlk hW h dX10_run_81
          replace h := h.2
          by_cases c2 : zx5 = 2
          · replace h := h.1 c2
            refine lv_tableIn (off := 55) (tgt := 82) hx hb dX10_run_27 (by rw [c2]; decide) (by rw [c2]; decide) (by rw [c2]; rfl) rfl ?_
            refine lv_aload_n hx hb dX10_run_82 rfl (lv_at hl 0 rfl) ?_
            refine zg_Main_course X hW h0 zu_473 dX10_run_83 ?_
            refine zg_Course_bench X hW h0.2.2.2.2.2.2.2.2.1 zu_248 dX10_run_86 ?_
            refine zg_Bench_handings X hW h0.2.2.2.2.2.2.2.2.1.2.2 zu_171 dX10_run_89 ?_
            exact zreti X hr hlk hW h dX10_run_92
          replace h := h.2
          by_cases c3 : zx5 = 3
          · replace h := h.1 c3
            refine lv_tableIn (off := 66) (tgt := 93) hx hb dX10_run_27 (by rw [c3]; decide) (by rw [c3]; decide) (by rw [c3]; rfl) rfl ?_
            refine lv_aload_n hx hb dX10_run_93 rfl (lv_at hl 0 rfl) ?_
            refine zg_Main_course X hW h0 zu_473 dX10_run_94 ?_
            refine zg_Course_stuck X hW h0.2.2.2.2.2.2.2.2.1 zu_252 dX10_run_97 ?_
            refine lv_if_eq (tgt := 107) hx hb dX10_run_100 rfl (fun c => ?_) (fun c => ?_)
            · replace h := h.1 c
              refine lv_iconst hx hb dX10_run_107 zc_i0 ?_
              exact zreti X hr hlk hW h dX10_run_108
            · replace h := h.2 c
              refine lv_iconst hx hb dX10_run_103 zc_i1 ?_
              refine lv_goto (tgt := 108) hx hb dX10_run_104 rfl ?_
              exact zreti X hr hlk hW h dX10_run_108
          replace h := h.2
          by_cases c4 : zx5 = 4
          · replace h := h.1 c4
            refine lv_tableIn (off := 82) (tgt := 109) hx hb dX10_run_27 (by rw [c4]; decide) (by rw [c4]; decide) (by rw [c4]; rfl) rfl ?_
            refine lv_aload_n hx hb dX10_run_109 rfl (lv_at hl 0 rfl) ?_
            refine zg_Main_course X hW h0 zu_473 dX10_run_110 ?_
            refine zg_Course_bench X hW h0.2.2.2.2.2.2.2.2.1 zu_248 dX10_run_113 ?_
            refine zcalli (zrunV (As := []) (rest := []) X hml hl hW h0.2.2.2.2.2.2.2.2.1.2.2.1 rfl zk_Main_242 (c_Bench_waitedByAll h0.2.2.2.2.2.2.2.2.1.2.2 h) rfl ⟨Nat.le_of_ble_eq_true rfl, Nat.le_of_ble_eq_true rfl⟩ ⟨Nat.le_refl 0, Nat.le_refl 0⟩ rfl (Nat.le_of_ble_eq_true rfl) dX10_run_116) hW (fun zr7 zm6 H locs h hW => ?_)
            exact zreti X hr hlk hW h dX10_run_119
          replace h := h.2
          replace h := h c0 c1 c2 c3 c4
          refine lv_tableOut (tgt := 120) hx hb dX10_run_27 (zsw 4 (Nat.le_of_ble_eq_true rfl) (fun j hj => ?_)) rfl ?_
          · rcases (show j = 0 ∨ j = 1 ∨ j = 2 ∨ j = 3 ∨ j = 4 by omega) with rfl | rfl | rfl | rfl | rfl
            · exact c0
            · exact c1
            · exact c2
            · exact c3
            · exact c4
          refine lv_aload_n hx hb dX10_run_120 rfl (lv_at hl 0 rfl) ?_
          refine zg_Main_course X hW h0 zu_473 dX10_run_121 ?_
          refine zg_Course_bench X hW h0.2.2.2.2.2.2.2.2.1 zu_248 dX10_run_124 ?_
          refine zcalli (zrunV (As := []) (rest := []) X hml hl hW h0.2.2.2.2.2.2.2.2.1.2.2.1 rfl zk_Main_245 (c_Bench_mostStoodAt h0.2.2.2.2.2.2.2.2.1.2.2 h) rfl ⟨Nat.le_of_ble_eq_true rfl, Nat.le_of_ble_eq_true rfl⟩ ⟨Nat.le_refl 0, Nat.le_refl 0⟩ rfl (Nat.le_of_ble_eq_true rfl) dX10_run_127) hW (fun zr9 zm8 H locs h hW => ?_)
          exact zreti X hr hlk hW h dX10_run_130
        · replace h := h.2 c
          refine lv_iconst hx hb dX10_run_16 zc_im1 ?_
          exact zreti X hr hlk hW h dX10_run_17
  exact zMain s.heap [] ls hW hl
def wp_Main_waits (a1 : Int32) (a2 : Int32) (M : zMem) (Q : Int32 → zMem → Prop) : Prop :=
  wp_Main_isRun a1 M (fun zr2 zm1 => (zr2 = 0 → Q ((-1)) zm1) ∧ (¬ zr2 = 0 → wp_Main_isHand a2 zm1 (fun zr4 zm3 => (¬ zr4 = 0 → wp_Course_runFor 29 a1 zm3 (fun zm5 => vp_in a2 5 ∧ Q (zm5 38 (ix a2)) zm5)) ∧ (zr4 = 0 → Q ((-1)) zm3))))
set_option maxHeartbeats 4000000 in
set_option maxRecDepth 20000 in
theorem c_Main_waits {l : Launch} {w : zWd} {a1 : Int32} {a2 : Int32} {M : zMem} {post : Int32 → zMem → Prop} (h0 : zI_Main w) (h : wp_Main_waits a1 a2 M post) : zMi l ⟨"HandToHand", "waits", "(II)I"⟩ prog_1_method_20_code 3 (Option.some .int) 5 115 w [.ref (zad w 0), .int a1, .int a2] M post := by
  refine zMet (by decide) (Nat.le_of_ble_eq_true rfl) ?_
  intro p e s m below meth c X hr hlk hml hW ls hl
  have hx := X.1
  have hb := X.2.1
  have hl : lv_has ls 3 [(0, .ref (zad w 0)), (1, .int a1), (2, .int a2)] := hl
  unfold wp_Main_waits at h
  have zMain : ∀ (H : Heap) (locs : List Loc) (ls : Array Slot), zWo w s.heap M H locs → lv_has ls 3 [(0, .ref (zad w 0)), (1, .int a1), (2, .int a2)] → W p l e (zRm 5 115) s m ([.ref (zad w 0), .int a1, .int a2] : List Value).toArray below meth c H locs 0 0 (MQ below (va_Qi post (zB w) (zA w)) ([.ref (zad w 0), .int a1, .int a2] : List Value).toArray s 0 0 (zA w)) (F0 m 0 ls []) := by
    intro H locs ls hW hl
    refine lv_iload_n hx hb dX10_waits_0 rfl (lv_at hl 1 rfl) ?_
    refine zcalli (zrunS (As := [.int a1]) (rest := []) X hml hl hW zk_Main_231 (c_Main_isRun  h) rfl ⟨Nat.le_of_ble_eq_true rfl, Nat.le_of_ble_eq_true rfl⟩ ⟨Nat.le_refl 0, Nat.le_refl 0⟩ rfl (Nat.le_of_ble_eq_true rfl) dX10_waits_1) hW (fun zr2 zm1 H locs h hW => ?_)
    refine lv_if_eq (tgt := 15) hx hb dX10_waits_4 rfl (fun c => ?_) (fun c => ?_)
    · replace h := h.1 c
      refine lv_iconst hx hb dX10_waits_15 zc_im1 ?_
      exact zreti X hr hlk hW h dX10_waits_16
    · replace h := h.2 c
      refine lv_aload_n hx hb dX10_waits_7 rfl (lv_at hl 0 rfl) ?_
      refine lv_iload_n hx hb dX10_waits_8 rfl (lv_at hl 2 rfl) ?_
      refine zcalli (zrunV (As := [.int a2]) (rest := []) X hml hl hW h0.1 rfl zk_Main_165 (c_Main_isHand h0 h) rfl ⟨Nat.le_of_ble_eq_true rfl, Nat.le_of_ble_eq_true rfl⟩ ⟨Nat.le_refl 0, Nat.le_refl 0⟩ rfl (Nat.le_of_ble_eq_true rfl) dX10_waits_9) hW (fun zr4 zm3 H locs h hW => ?_)
      refine lv_if_ne (tgt := 17) hx hb dX10_waits_12 rfl (fun c => ?_) (fun c => ?_)
      · replace h := h.1 c
        refine lv_aload_n hx hb dX10_waits_17 rfl (lv_at hl 0 rfl) ?_
        refine zg_Main_course X hW h0 zu_473 dX10_waits_18 ?_
        refine lv_iload_n hx hb dX10_waits_21 rfl (lv_at hl 1 rfl) ?_
        refine zcallv (zrunV (As := [.int a1]) (rest := []) X hml hl hW h0.2.2.2.2.2.2.2.2.1.1 rfl zk_Main_234 (c_Course_runFor h0.2.2.2.2.2.2.2.2.1 h) rfl ⟨Nat.le_of_ble_eq_true rfl, Nat.le_of_ble_eq_true rfl⟩ ⟨Nat.le_refl 0, Nat.le_refl 0⟩ rfl (Nat.le_of_ble_eq_true rfl) dX10_waits_22) hW (fun zm5 H locs h hW => ?_)
        refine lv_aload_n hx hb dX10_waits_25 rfl (lv_at hl 0 rfl) ?_
        refine zg_Main_course X hW h0 zu_473 dX10_waits_26 ?_
        refine zg_Course_bench X hW h0.2.2.2.2.2.2.2.2.1 zu_248 dX10_waits_29 ?_
        refine zg_Bench_waited X hW h0.2.2.2.2.2.2.2.2.1.2.2 zu_186 dX10_waits_32 ?_
        refine lv_iload_n hx hb dX10_waits_35 rfl (lv_at hl 2 rfl) ?_
        obtain ⟨g, h⟩ := h
        refine ziald X hW h0.2.2.2.2.2.2.2.2.1.2.2.2.2.2.2.2.2.1 g dX10_waits_36 ?_
        exact zreti X hr hlk hW h dX10_waits_37
      · replace h := h.2 c
        refine lv_iconst hx hb dX10_waits_15 zc_im1 ?_
        exact zreti X hr hlk hW h dX10_waits_16
  exact zMain s.heap [] ls hW hl
def wp_Main_over (a1 : Int32) (a2 : Int32) (a3 : Int32) (M : zMem) (Q : Int32 → zMem → Prop) : Prop :=
  wp_Main_isRun a1 M (fun zr2 zm1 => (zr2 = 0 → Q ((-1)) zm1) ∧ (¬ zr2 = 0 → (a3 < 0 → Q ((-1)) zm1) ∧ (¬ a3 < 0 → (a3 < 5 → wp_Course_runFor 29 a1 zm1 (fun zm3 => (a2 < 0 → Q ((-1)) zm3) ∧ (¬ a2 < 0 → (a2 < (zm3 30 0) → wp_Handings_valueOf 30 a2 a3 zm3 (fun zr6 zm5 => Q zr6 zm5)) ∧ (¬ a2 < (zm3 30 0) → Q ((-1)) zm3)))) ∧ (¬ a3 < 5 → Q ((-1)) zm1))))
set_option maxHeartbeats 4000000 in
set_option maxRecDepth 20000 in
theorem c_Main_over {l : Launch} {w : zWd} {a1 : Int32} {a2 : Int32} {a3 : Int32} {M : zMem} {post : Int32 → zMem → Prop} (h0 : zI_Main w) (h : wp_Main_over a1 a2 a3 M post) : zMi l ⟨"HandToHand", "over", "(III)I"⟩ prog_1_method_21_code 4 (Option.some .int) 5 115 w [.ref (zad w 0), .int a1, .int a2, .int a3] M post := by
  refine zMet (by decide) (Nat.le_of_ble_eq_true rfl) ?_
  intro p e s m below meth c X hr hlk hml hW ls hl
  have hx := X.1
  have hb := X.2.1
  have hl : lv_has ls 4 [(0, .ref (zad w 0)), (1, .int a1), (2, .int a2), (3, .int a3)] := hl
  unfold wp_Main_over at h
  have zMain : ∀ (H : Heap) (locs : List Loc) (ls : Array Slot), zWo w s.heap M H locs → lv_has ls 4 [(0, .ref (zad w 0)), (1, .int a1), (2, .int a2), (3, .int a3)] → W p l e (zRm 5 115) s m ([.ref (zad w 0), .int a1, .int a2, .int a3] : List Value).toArray below meth c H locs 0 0 (MQ below (va_Qi post (zB w) (zA w)) ([.ref (zad w 0), .int a1, .int a2, .int a3] : List Value).toArray s 0 0 (zA w)) (F0 m 0 ls []) := by
    intro H locs ls hW hl
    refine lv_iload_n hx hb dX10_over_0 rfl (lv_at hl 1 rfl) ?_
    refine zcalli (zrunS (As := [.int a1]) (rest := []) X hml hl hW zk_Main_231 (c_Main_isRun  h) rfl ⟨Nat.le_of_ble_eq_true rfl, Nat.le_of_ble_eq_true rfl⟩ ⟨Nat.le_refl 0, Nat.le_refl 0⟩ rfl (Nat.le_of_ble_eq_true rfl) dX10_over_1) hW (fun zr2 zm1 H locs h hW => ?_)
    refine lv_if_eq (tgt := 16) hx hb dX10_over_4 rfl (fun c => ?_) (fun c => ?_)
    · replace h := h.1 c
      refine lv_iconst hx hb dX10_over_16 zc_im1 ?_
      exact zreti X hr hlk hW h dX10_over_17
    · replace h := h.2 c
      refine lv_iload_n hx hb dX10_over_7 rfl (lv_at hl 3 rfl) ?_
      refine lv_if_lt (tgt := 16) hx hb dX10_over_8 rfl (fun c => ?_) (fun c => ?_)
      · replace h := h.1 c
        refine lv_iconst hx hb dX10_over_16 zc_im1 ?_
        exact zreti X hr hlk hW h dX10_over_17
      · replace h := h.2 c
        refine lv_iload_n hx hb dX10_over_11 rfl (lv_at hl 3 rfl) ?_
        refine lv_iconst hx hb dX10_over_12 zc_i5 ?_
        refine lv_icmp_lt (tgt := 18) hx hb dX10_over_13 rfl (fun c => ?_) (fun c => ?_)
        · replace h := h.1 c
          refine lv_aload_n hx hb dX10_over_18 rfl (lv_at hl 0 rfl) ?_
          refine zg_Main_course X hW h0 zu_473 dX10_over_19 ?_
          refine lv_iload_n hx hb dX10_over_22 rfl (lv_at hl 1 rfl) ?_
          refine zcallv (zrunV (As := [.int a1]) (rest := []) X hml hl hW h0.2.2.2.2.2.2.2.2.1.1 rfl zk_Main_234 (c_Course_runFor h0.2.2.2.2.2.2.2.2.1 h) rfl ⟨Nat.le_of_ble_eq_true rfl, Nat.le_of_ble_eq_true rfl⟩ ⟨Nat.le_refl 0, Nat.le_refl 0⟩ rfl (Nat.le_of_ble_eq_true rfl) dX10_over_23) hW (fun zm3 H locs h hW => ?_)
          refine lv_iload_n hx hb dX10_over_26 rfl (lv_at hl 2 rfl) ?_
          refine lv_if_lt (tgt := 44) hx hb dX10_over_27 rfl (fun c => ?_) (fun c => ?_)
          · replace h := h.1 c
            refine lv_iconst hx hb dX10_over_44 zc_im1 ?_
            exact zreti X hr hlk hW h dX10_over_45
          · replace h := h.2 c
            refine lv_iload_n hx hb dX10_over_30 rfl (lv_at hl 2 rfl) ?_
            refine lv_aload_n hx hb dX10_over_31 rfl (lv_at hl 0 rfl) ?_
            refine zg_Main_course X hW h0 zu_473 dX10_over_32 ?_
            refine zg_Course_handings X hW h0.2.2.2.2.2.2.2.2.1 zu_246 dX10_over_35 ?_
            refine zg_Handings_size X hW h0.2.2.2.2.2.2.2.2.1.2.1 zu_235 dX10_over_38 ?_
            refine lv_icmp_lt (tgt := 46) hx hb dX10_over_41 rfl (fun c => ?_) (fun c => ?_)
            · replace h := h.1 c
              refine lv_aload_n hx hb dX10_over_46 rfl (lv_at hl 0 rfl) ?_
              refine zg_Main_course X hW h0 zu_473 dX10_over_47 ?_
              refine zg_Course_handings X hW h0.2.2.2.2.2.2.2.2.1 zu_246 dX10_over_50 ?_
              refine lv_iload_n hx hb dX10_over_53 rfl (lv_at hl 2 rfl) ?_
              refine lv_iload_n hx hb dX10_over_54 rfl (lv_at hl 3 rfl) ?_
              refine zcalli (zrunV (As := [.int a2, .int a3]) (rest := []) X hml hl hW h0.2.2.2.2.2.2.2.2.1.2.1.1 rfl zk_Main_256 (c_Handings_valueOf h0.2.2.2.2.2.2.2.2.1.2.1 h) rfl ⟨Nat.le_of_ble_eq_true rfl, Nat.le_of_ble_eq_true rfl⟩ ⟨Nat.le_refl 0, Nat.le_refl 0⟩ rfl (Nat.le_of_ble_eq_true rfl) dX10_over_55) hW (fun zr6 zm5 H locs h hW => ?_)
              exact zreti X hr hlk hW h dX10_over_58
            · replace h := h.2 c
              refine lv_iconst hx hb dX10_over_44 zc_im1 ?_
              exact zreti X hr hlk hW h dX10_over_45
        · replace h := h.2 c
          refine lv_iconst hx hb dX10_over_16 zc_im1 ?_
          exact zreti X hr hlk hW h dX10_over_17
  exact zMain s.heap [] ls hW hl
def wp_Main_judge (a1 : Int32) (a2 : Int32) (a3 : Int32) (a4 : Int32) (a5 : Int32) (M : zMem) (Q : Int32 → zMem → Prop) : Prop :=
  wp_Course_runFor 29 120 M (fun zm1 => (a1 < 0 → Q ((-1)) zm1) ∧ (¬ a1 < 0 → (a1 < (zm1 30 0) → wp_Handings_valueOf 30 a1 0 zm1 (fun zr4 zm3 => (zr4 = a2 → wp_Handings_valueOf 30 a1 1 zm3 (fun zr6 zm5 => (zr6 = a3 → wp_Handings_valueOf 30 a1 2 zm5 (fun zr8 zm7 => (zr8 = a4 → wp_Handings_valueOf 30 a1 3 zm7 (fun zr10 zm9 => (zr10 = a5 → Q 0 zm9) ∧ (¬ zr10 = a5 → Q 4 zm9))) ∧ (¬ zr8 = a4 → Q 3 zm7))) ∧ (¬ zr6 = a3 → Q 2 zm5))) ∧ (¬ zr4 = a2 → Q 1 zm3))) ∧ (¬ a1 < (zm1 30 0) → Q ((-1)) zm1)))
set_option maxHeartbeats 4000000 in
set_option maxRecDepth 20000 in
theorem c_Main_judge {l : Launch} {w : zWd} {a1 : Int32} {a2 : Int32} {a3 : Int32} {a4 : Int32} {a5 : Int32} {M : zMem} {post : Int32 → zMem → Prop} (h0 : zI_Main w) (h : wp_Main_judge a1 a2 a3 a4 a5 M post) : zMi l ⟨"HandToHand", "judge", "(IIIII)I"⟩ prog_1_method_22_code 7 (Option.some .int) 5 115 w [.ref (zad w 0), .int a1, .int a2, .int a3, .int a4, .int a5] M post := by
  refine zMet (by decide) (Nat.le_of_ble_eq_true rfl) ?_
  intro p e s m below meth c X hr hlk hml hW ls hl
  have hx := X.1
  have hb := X.2.1
  have hl : lv_has ls 7 [(0, .ref (zad w 0)), (1, .int a1), (2, .int a2), (3, .int a3), (4, .int a4), (5, .int a5)] := hl
  unfold wp_Main_judge at h
  have zMain : ∀ (H : Heap) (locs : List Loc) (ls : Array Slot), zWo w s.heap M H locs → lv_has ls 7 [(0, .ref (zad w 0)), (1, .int a1), (2, .int a2), (3, .int a3), (4, .int a4), (5, .int a5)] → W p l e (zRm 5 115) s m ([.ref (zad w 0), .int a1, .int a2, .int a3, .int a4, .int a5] : List Value).toArray below meth c H locs 0 0 (MQ below (va_Qi post (zB w) (zA w)) ([.ref (zad w 0), .int a1, .int a2, .int a3, .int a4, .int a5] : List Value).toArray s 0 0 (zA w)) (F0 m 0 ls []) := by
    intro H locs ls hW hl
    refine lv_aload_n hx hb dX10_judge_0 rfl (lv_at hl 0 rfl) ?_
    refine zg_Main_course X hW h0 zu_473 dX10_judge_1 ?_
    refine lv_bipush hx hb dX10_judge_4 zc_b120 ?_
    refine zcallv (zrunV (As := [.int 120]) (rest := []) X hml hl hW h0.2.2.2.2.2.2.2.2.1.1 rfl zk_Main_234 (c_Course_runFor h0.2.2.2.2.2.2.2.2.1 h) rfl ⟨Nat.le_of_ble_eq_true rfl, Nat.le_of_ble_eq_true rfl⟩ ⟨Nat.le_refl 0, Nat.le_refl 0⟩ rfl (Nat.le_of_ble_eq_true rfl) dX10_judge_6) hW (fun zm1 H locs h hW => ?_)
    refine lv_aload_n hx hb dX10_judge_9 rfl (lv_at hl 0 rfl) ?_
    refine zg_Main_course X hW h0 zu_473 dX10_judge_10 ?_
    refine zg_Course_handings X hW h0.2.2.2.2.2.2.2.2.1 zu_246 dX10_judge_13 ?_
    refine lv_astore (lv' := [(6, .ref (zad w 30)), (0, .ref (zad w 0)), (1, .int a1), (2, .int a2), (3, .int a3), (4, .int a4), (5, .int a5)]) hx hb dX10_judge_16 hl (Nat.le_of_ble_eq_true rfl) rfl (fun ls hl => ?_)
    refine lv_iload_n hx hb dX10_judge_18 rfl (lv_at hl 2 rfl) ?_
    refine lv_if_lt (tgt := 31) hx hb dX10_judge_19 rfl (fun c => ?_) (fun c => ?_)
    · replace h := h.1 c
      refine lv_iconst hx hb dX10_judge_31 zc_im1 ?_
      exact zreti X hr hlk hW h dX10_judge_32
    · replace h := h.2 c
      refine lv_iload_n hx hb dX10_judge_22 rfl (lv_at hl 2 rfl) ?_
      refine lv_aload hx hb dX10_judge_23 (lv_at hl 0 rfl) ?_
      refine zg_Handings_size X hW h0.2.2.2.2.2.2.2.2.1.2.1 zu_235 dX10_judge_25 ?_
      refine lv_icmp_lt (tgt := 33) hx hb dX10_judge_28 rfl (fun c => ?_) (fun c => ?_)
      · replace h := h.1 c
        refine lv_aload hx hb dX10_judge_33 (lv_at hl 0 rfl) ?_
        refine lv_iload_n hx hb dX10_judge_35 rfl (lv_at hl 2 rfl) ?_
        refine lv_iconst hx hb dX10_judge_36 zc_i0 ?_
        refine zcalli (zrunV (As := [.int a1, .int 0]) (rest := []) X hml hl hW h0.2.2.2.2.2.2.2.2.1.2.1.1 rfl zk_Main_256 (c_Handings_valueOf h0.2.2.2.2.2.2.2.2.1.2.1 h) rfl ⟨Nat.le_of_ble_eq_true rfl, Nat.le_of_ble_eq_true rfl⟩ ⟨Nat.le_refl 0, Nat.le_refl 0⟩ rfl (Nat.le_of_ble_eq_true rfl) dX10_judge_37) hW (fun zr4 zm3 H locs h hW => ?_)
        refine lv_iload_n hx hb dX10_judge_40 rfl (lv_at hl 3 rfl) ?_
        refine lv_icmp_eq (tgt := 46) hx hb dX10_judge_41 rfl (fun c => ?_) (fun c => ?_)
        · replace h := h.1 c
          refine lv_aload hx hb dX10_judge_46 (lv_at hl 0 rfl) ?_
          refine lv_iload_n hx hb dX10_judge_48 rfl (lv_at hl 2 rfl) ?_
          refine lv_iconst hx hb dX10_judge_49 zc_i1 ?_
          refine zcalli (zrunV (As := [.int a1, .int 1]) (rest := []) X hml hl hW h0.2.2.2.2.2.2.2.2.1.2.1.1 rfl zk_Main_256 (c_Handings_valueOf h0.2.2.2.2.2.2.2.2.1.2.1 h) rfl ⟨Nat.le_of_ble_eq_true rfl, Nat.le_of_ble_eq_true rfl⟩ ⟨Nat.le_refl 0, Nat.le_refl 0⟩ rfl (Nat.le_of_ble_eq_true rfl) dX10_judge_50) hW (fun zr6 zm5 H locs h hW => ?_)
          refine lv_iload_n hx hb dX10_judge_53 rfl (lv_at hl 4 rfl) ?_
          refine lv_icmp_eq (tgt := 59) hx hb dX10_judge_54 rfl (fun c => ?_) (fun c => ?_)
          · replace h := h.1 c
            refine lv_aload hx hb dX10_judge_59 (lv_at hl 0 rfl) ?_
            refine lv_iload_n hx hb dX10_judge_61 rfl (lv_at hl 2 rfl) ?_
            refine lv_iconst hx hb dX10_judge_62 zc_i2 ?_
            refine zcalli (zrunV (As := [.int a1, .int 2]) (rest := []) X hml hl hW h0.2.2.2.2.2.2.2.2.1.2.1.1 rfl zk_Main_256 (c_Handings_valueOf h0.2.2.2.2.2.2.2.2.1.2.1 h) rfl ⟨Nat.le_of_ble_eq_true rfl, Nat.le_of_ble_eq_true rfl⟩ ⟨Nat.le_refl 0, Nat.le_refl 0⟩ rfl (Nat.le_of_ble_eq_true rfl) dX10_judge_63) hW (fun zr8 zm7 H locs h hW => ?_)
            refine lv_iload hx hb dX10_judge_66 (lv_at hl 5 rfl) ?_
            refine lv_icmp_eq (tgt := 73) hx hb dX10_judge_68 rfl (fun c => ?_) (fun c => ?_)
            · replace h := h.1 c
              refine lv_aload hx hb dX10_judge_73 (lv_at hl 0 rfl) ?_
              refine lv_iload_n hx hb dX10_judge_75 rfl (lv_at hl 2 rfl) ?_
              refine lv_iconst hx hb dX10_judge_76 zc_i3 ?_
              refine zcalli (zrunV (As := [.int a1, .int 3]) (rest := []) X hml hl hW h0.2.2.2.2.2.2.2.2.1.2.1.1 rfl zk_Main_256 (c_Handings_valueOf h0.2.2.2.2.2.2.2.2.1.2.1 h) rfl ⟨Nat.le_of_ble_eq_true rfl, Nat.le_of_ble_eq_true rfl⟩ ⟨Nat.le_refl 0, Nat.le_refl 0⟩ rfl (Nat.le_of_ble_eq_true rfl) dX10_judge_77) hW (fun zr10 zm9 H locs h hW => ?_)
              refine lv_iload hx hb dX10_judge_80 (lv_at hl 6 rfl) ?_
              refine lv_icmp_eq (tgt := 89) hx hb dX10_judge_82 rfl (fun c => ?_) (fun c => ?_)
              · replace h := h.1 c
                refine lv_iconst hx hb dX10_judge_89 zc_i0 ?_
                exact zreti X hr hlk hW h dX10_judge_90
              · replace h := h.2 c
                refine lv_iconst hx hb dX10_judge_85 zc_i4 ?_
                refine lv_goto (tgt := 90) hx hb dX10_judge_86 rfl ?_
                exact zreti X hr hlk hW h dX10_judge_90
            · replace h := h.2 c
              refine lv_iconst hx hb dX10_judge_71 zc_i3 ?_
              exact zreti X hr hlk hW h dX10_judge_72
          · replace h := h.2 c
            refine lv_iconst hx hb dX10_judge_57 zc_i2 ?_
            exact zreti X hr hlk hW h dX10_judge_58
        · replace h := h.2 c
          refine lv_iconst hx hb dX10_judge_44 zc_i1 ?_
          exact zreti X hr hlk hW h dX10_judge_45
      · replace h := h.2 c
        refine lv_iconst hx hb dX10_judge_31 zc_im1 ?_
        exact zreti X hr hlk hW h dX10_judge_32
  exact zMain s.heap [] ls hW hl
def wp_Main_findRing  (M : zMem) (Q : zMem → Prop) : Prop :=
  (¬ (M 54 0) = 0 → Q M) ∧ ((M 54 0) = 0 → wp_Settling_settle 41 1 54 M (fun zm1 => Q zm1))
set_option maxHeartbeats 4000000 in
set_option maxRecDepth 20000 in
theorem c_Main_findRing {l : Launch} {w : zWd} {M : zMem} {post : zMem → Prop} (h0 : zI_Main w) (h : wp_Main_findRing  M post) : zMv l ⟨"HandToHand", "findRing", "()V"⟩ prog_1_method_49_code 1 none 5 118 w [.ref (zad w 0)] M post := by
  refine zMet (by decide) (Nat.le_of_ble_eq_true rfl) ?_
  intro p e s m below meth c X hr hlk hml hW ls hl
  have hx := X.1
  have hb := X.2.1
  have hl : lv_has ls 1 [(0, .ref (zad w 0))] := hl
  unfold wp_Main_findRing at h
  have zMain : ∀ (H : Heap) (locs : List Loc) (ls : Array Slot), zWo w s.heap M H locs → lv_has ls 1 [(0, .ref (zad w 0))] → W p l e (zRm 5 118) s m ([.ref (zad w 0)] : List Value).toArray below meth c H locs 0 0 (MQ below (va_Qv post (zB w) (zA w)) ([.ref (zad w 0)] : List Value).toArray s 0 0 (zA w)) (F0 m 0 ls []) := by
    intro H locs ls hW hl
    refine lv_aload_n hx hb dX10_findRing_0 rfl (lv_at hl 0 rfl) ?_
    refine zg_Main_ring X hW h0 zu_475 dX10_findRing_1 ?_
    refine zg_Ring_known X hW h0.2.2.2.2.2.2.2.2.2.2.1 zu_293 dX10_findRing_4 ?_
    refine lv_if_ne (tgt := 25) hx hb dX10_findRing_7 rfl (fun c => ?_) (fun c => ?_)
    · replace h := h.1 c
      exact zretv X hr hlk hW h dX10_findRing_25
    · replace h := h.2 c
      refine lv_aload_n hx hb dX10_findRing_10 rfl (lv_at hl 0 rfl) ?_
      refine zg_Main_settling X hW h0 zu_474 dX10_findRing_11 ?_
      refine lv_aload_n hx hb dX10_findRing_14 rfl (lv_at hl 0 rfl) ?_
      refine zg_Main_told X hW h0 zu_467 dX10_findRing_15 ?_
      refine lv_aload_n hx hb dX10_findRing_18 rfl (lv_at hl 0 rfl) ?_
      refine zg_Main_ring X hW h0 zu_475 dX10_findRing_19 ?_
      refine zcallv (zrunV (As := [.ref (zad w 1), .ref (zad w 54)]) (rest := []) X hml hl hW h0.2.2.2.2.2.2.2.2.2.1.1 rfl zk_Main_333 (c_Settling_settle h0.2.2.2.2.2.2.2.2.2.1 h0.2.2.2.2.1 h0.2.2.2.2.2.2.2.2.2.2.1 h) rfl ⟨Nat.le_of_ble_eq_true rfl, Nat.le_of_ble_eq_true rfl⟩ ⟨Nat.le_refl 0, Nat.le_refl 0⟩ rfl (Nat.le_of_ble_eq_true rfl) dX10_findRing_22) hW (fun zm1 H locs h hW => ?_)
      exact zretv X hr hlk hW h dX10_findRing_25
  exact zMain s.heap [] ls hW hl
def wp_Main_settles (a1 : Int32) (M : zMem) (Q : Int32 → zMem → Prop) : Prop :=
  (a1 < 0 → Q ((-1)) M) ∧ (¬ a1 < 0 → (a1 ≤ 2 → wp_Main_findRing M (fun zm1 => (¬ (zm1 54 1) = 0 → (¬ a1 = 0 → (¬ a1 = 1 → Q (zm1 54 4) zm1) ∧ (a1 = 1 → Q (zm1 54 3) zm1)) ∧ (a1 = 0 → Q (zm1 54 2) zm1)) ∧ ((zm1 54 1) = 0 → Q ((-4)) zm1))) ∧ (¬ a1 ≤ 2 → Q ((-1)) M))
set_option maxHeartbeats 4000000 in
set_option maxRecDepth 20000 in
theorem c_Main_settles {l : Launch} {w : zWd} {a1 : Int32} {M : zMem} {post : Int32 → zMem → Prop} (h0 : zI_Main w) (h : wp_Main_settles a1 M post) : zMi l ⟨"HandToHand", "settles", "(I)I"⟩ prog_1_method_23_code 2 (Option.some .int) 6 138 w [.ref (zad w 0), .int a1] M post := by
  refine zMet (by decide) (Nat.le_of_ble_eq_true rfl) ?_
  intro p e s m below meth c X hr hlk hml hW ls hl
  have hx := X.1
  have hb := X.2.1
  have hl : lv_has ls 2 [(0, .ref (zad w 0)), (1, .int a1)] := hl
  unfold wp_Main_settles at h
  have zMain : ∀ (H : Heap) (locs : List Loc) (ls : Array Slot), zWo w s.heap M H locs → lv_has ls 2 [(0, .ref (zad w 0)), (1, .int a1)] → W p l e (zRm 6 138) s m ([.ref (zad w 0), .int a1] : List Value).toArray below meth c H locs 0 0 (MQ below (va_Qi post (zB w) (zA w)) ([.ref (zad w 0), .int a1] : List Value).toArray s 0 0 (zA w)) (F0 m 0 ls []) := by
    intro H locs ls hW hl
    refine lv_iload_n hx hb dX10_settles_0 rfl (lv_at hl 1 rfl) ?_
    refine lv_if_lt (tgt := 9) hx hb dX10_settles_1 rfl (fun c => ?_) (fun c => ?_)
    · replace h := h.1 c
      refine lv_iconst hx hb dX10_settles_9 zc_im1 ?_
      exact zreti X hr hlk hW h dX10_settles_10
    · replace h := h.2 c
      refine lv_iload_n hx hb dX10_settles_4 rfl (lv_at hl 1 rfl) ?_
      refine lv_iconst hx hb dX10_settles_5 zc_i2 ?_
      refine lv_icmp_le (tgt := 11) hx hb dX10_settles_6 rfl (fun c => ?_) (fun c => ?_)
      · replace h := h.1 c
        refine lv_aload_n hx hb dX10_settles_11 rfl (lv_at hl 0 rfl) ?_
        refine zcallv (zrunV (As := []) (rest := []) X hml hl hW h0.1 rfl zk_Main_259 (c_Main_findRing h0 h) rfl ⟨Nat.le_of_ble_eq_true rfl, Nat.le_of_ble_eq_true rfl⟩ ⟨Nat.le_refl 0, Nat.le_refl 0⟩ rfl (Nat.le_of_ble_eq_true rfl) dX10_settles_12) hW (fun zm1 H locs h hW => ?_)
        refine lv_aload_n hx hb dX10_settles_15 rfl (lv_at hl 0 rfl) ?_
        refine zg_Main_ring X hW h0 zu_475 dX10_settles_16 ?_
        refine zg_Ring_found X hW h0.2.2.2.2.2.2.2.2.2.2.1 zu_296 dX10_settles_19 ?_
        refine lv_if_ne (tgt := 28) hx hb dX10_settles_22 rfl (fun c => ?_) (fun c => ?_)
        · replace h := h.1 c
          refine lv_iload_n hx hb dX10_settles_28 rfl (lv_at hl 1 rfl) ?_
          refine lv_if_ne (tgt := 42) hx hb dX10_settles_29 rfl (fun c => ?_) (fun c => ?_)
          · replace h := h.1 c
            refine lv_iload_n hx hb dX10_settles_42 rfl (lv_at hl 1 rfl) ?_
            refine lv_iconst hx hb dX10_settles_43 zc_i1 ?_
            refine lv_icmp_ne (tgt := 57) hx hb dX10_settles_44 rfl (fun c => ?_) (fun c => ?_)
            · replace h := h.1 c
              refine lv_aload_n hx hb dX10_settles_57 rfl (lv_at hl 0 rfl) ?_
              refine zg_Main_ring X hW h0 zu_475 dX10_settles_58 ?_
              refine zg_Ring_ticks X hW h0.2.2.2.2.2.2.2.2.2.2.1 zu_303 dX10_settles_61 ?_
              exact zreti X hr hlk hW h dX10_settles_64
            · replace h := h.2 c
              refine lv_aload_n hx hb dX10_settles_47 rfl (lv_at hl 0 rfl) ?_
              refine zg_Main_ring X hW h0 zu_475 dX10_settles_48 ?_
              refine zg_Ring_coats X hW h0.2.2.2.2.2.2.2.2.2.2.1 zu_300 dX10_settles_51 ?_
              refine lv_goto (tgt := 64) hx hb dX10_settles_54 rfl ?_
              exact zreti X hr hlk hW h dX10_settles_64
          · replace h := h.2 c
            refine lv_aload_n hx hb dX10_settles_32 rfl (lv_at hl 0 rfl) ?_
            refine zg_Main_ring X hW h0 zu_475 dX10_settles_33 ?_
            refine zg_Ring_ahead X hW h0.2.2.2.2.2.2.2.2.2.2.1 zu_298 dX10_settles_36 ?_
            refine lv_goto (tgt := 64) hx hb dX10_settles_39 rfl ?_
            exact zreti X hr hlk hW h dX10_settles_64
        · replace h := h.2 c
          refine lv_bipush hx hb dX10_settles_25 zc_bm4 ?_
          exact zreti X hr hlk hW h dX10_settles_27
      · replace h := h.2 c
        refine lv_iconst hx hb dX10_settles_9 zc_im1 ?_
        exact zreti X hr hlk hW h dX10_settles_10
  exact zMain s.heap [] ls hW hl
def wp_Main_where (a1 : Int32) (a2 : Int32) (M : zMem) (Q : Int32 → zMem → Prop) : Prop :=
  (a1 < 1 → Q ((-1)) M) ∧ (¬ a1 < 1 → ((M 1 1) ≤ a1 → Q ((-1)) M) ∧ (¬ (M 1 1) ≤ a1 → (a2 < 0 → Q ((-1)) M) ∧ (¬ a2 < 0 → (a2 ≤ 3 → wp_Main_findRing M (fun zm1 => (¬ (zm1 54 1) = 0 → wp_Course_runFor 29 120 zm1 (fun zm3 => wp_Handings_placesOf 30 a1 54 a2 zm3 (fun zr6 zm5 => Q zr6 zm5))) ∧ ((zm1 54 1) = 0 → Q ((-4)) zm1))) ∧ (¬ a2 ≤ 3 → Q ((-1)) M))))
set_option maxHeartbeats 4000000 in
set_option maxRecDepth 20000 in
theorem c_Main_where {l : Launch} {w : zWd} {a1 : Int32} {a2 : Int32} {M : zMem} {post : Int32 → zMem → Prop} (h0 : zI_Main w) (h : wp_Main_where a1 a2 M post) : zMi l ⟨"HandToHand", "where", "(II)I"⟩ prog_1_method_24_code 3 (Option.some .int) 6 138 w [.ref (zad w 0), .int a1, .int a2] M post := by
  refine zMet (by decide) (Nat.le_of_ble_eq_true rfl) ?_
  intro p e s m below meth c X hr hlk hml hW ls hl
  have hx := X.1
  have hb := X.2.1
  have hl : lv_has ls 3 [(0, .ref (zad w 0)), (1, .int a1), (2, .int a2)] := hl
  unfold wp_Main_where at h
  have zMain : ∀ (H : Heap) (locs : List Loc) (ls : Array Slot), zWo w s.heap M H locs → lv_has ls 3 [(0, .ref (zad w 0)), (1, .int a1), (2, .int a2)] → W p l e (zRm 6 138) s m ([.ref (zad w 0), .int a1, .int a2] : List Value).toArray below meth c H locs 0 0 (MQ below (va_Qi post (zB w) (zA w)) ([.ref (zad w 0), .int a1, .int a2] : List Value).toArray s 0 0 (zA w)) (F0 m 0 ls []) := by
    intro H locs ls hW hl
    refine lv_iload_n hx hb dX10_where_0 rfl (lv_at hl 1 rfl) ?_
    refine lv_iconst hx hb dX10_where_1 zc_i1 ?_
    refine lv_icmp_lt (tgt := 25) hx hb dX10_where_2 rfl (fun c => ?_) (fun c => ?_)
    · replace h := h.1 c
      refine lv_iconst hx hb dX10_where_25 zc_im1 ?_
      exact zreti X hr hlk hW h dX10_where_26
    · replace h := h.2 c
      refine lv_iload_n hx hb dX10_where_5 rfl (lv_at hl 1 rfl) ?_
      refine lv_aload_n hx hb dX10_where_6 rfl (lv_at hl 0 rfl) ?_
      refine zg_Main_told X hW h0 zu_467 dX10_where_7 ?_
      refine zg_Told_hands X hW h0.2.2.2.2.1 zu_41 dX10_where_10 ?_
      refine lv_icmp_ge (tgt := 25) hx hb dX10_where_13 rfl (fun c => ?_) (fun c => ?_)
      · replace h := h.1 c
        refine lv_iconst hx hb dX10_where_25 zc_im1 ?_
        exact zreti X hr hlk hW h dX10_where_26
      · replace h := h.2 c
        refine lv_iload_n hx hb dX10_where_16 rfl (lv_at hl 2 rfl) ?_
        refine lv_if_lt (tgt := 25) hx hb dX10_where_17 rfl (fun c => ?_) (fun c => ?_)
        · replace h := h.1 c
          refine lv_iconst hx hb dX10_where_25 zc_im1 ?_
          exact zreti X hr hlk hW h dX10_where_26
        · replace h := h.2 c
          refine lv_iload_n hx hb dX10_where_20 rfl (lv_at hl 2 rfl) ?_
          refine lv_iconst hx hb dX10_where_21 zc_i3 ?_
          refine lv_icmp_le (tgt := 27) hx hb dX10_where_22 rfl (fun c => ?_) (fun c => ?_)
          · replace h := h.1 c
            refine lv_aload_n hx hb dX10_where_27 rfl (lv_at hl 0 rfl) ?_
            refine zcallv (zrunV (As := []) (rest := []) X hml hl hW h0.1 rfl zk_Main_259 (c_Main_findRing h0 h) rfl ⟨Nat.le_of_ble_eq_true rfl, Nat.le_of_ble_eq_true rfl⟩ ⟨Nat.le_refl 0, Nat.le_refl 0⟩ rfl (Nat.le_of_ble_eq_true rfl) dX10_where_28) hW (fun zm1 H locs h hW => ?_)
            refine lv_aload_n hx hb dX10_where_31 rfl (lv_at hl 0 rfl) ?_
            refine zg_Main_ring X hW h0 zu_475 dX10_where_32 ?_
            refine zg_Ring_found X hW h0.2.2.2.2.2.2.2.2.2.2.1 zu_296 dX10_where_35 ?_
            refine lv_if_ne (tgt := 44) hx hb dX10_where_38 rfl (fun c => ?_) (fun c => ?_)
            · replace h := h.1 c
              refine lv_aload_n hx hb dX10_where_44 rfl (lv_at hl 0 rfl) ?_
              refine zg_Main_course X hW h0 zu_473 dX10_where_45 ?_
              refine lv_bipush hx hb dX10_where_48 zc_b120 ?_
              refine zcallv (zrunV (As := [.int 120]) (rest := []) X hml hl hW h0.2.2.2.2.2.2.2.2.1.1 rfl zk_Main_234 (c_Course_runFor h0.2.2.2.2.2.2.2.2.1 h) rfl ⟨Nat.le_of_ble_eq_true rfl, Nat.le_of_ble_eq_true rfl⟩ ⟨Nat.le_refl 0, Nat.le_refl 0⟩ rfl (Nat.le_of_ble_eq_true rfl) dX10_where_50) hW (fun zm3 H locs h hW => ?_)
              refine lv_aload_n hx hb dX10_where_53 rfl (lv_at hl 0 rfl) ?_
              refine zg_Main_course X hW h0 zu_473 dX10_where_54 ?_
              refine zg_Course_handings X hW h0.2.2.2.2.2.2.2.2.1 zu_246 dX10_where_57 ?_
              refine lv_iload_n hx hb dX10_where_60 rfl (lv_at hl 1 rfl) ?_
              refine lv_aload_n hx hb dX10_where_61 rfl (lv_at hl 0 rfl) ?_
              refine zg_Main_ring X hW h0 zu_475 dX10_where_62 ?_
              refine lv_iload_n hx hb dX10_where_65 rfl (lv_at hl 2 rfl) ?_
              refine zcalli (zrunV (As := [.int a1, .ref (zad w 54), .int a2]) (rest := []) X hml hl hW h0.2.2.2.2.2.2.2.2.1.2.1.1 rfl zk_Main_274 (c_Handings_placesOf h0.2.2.2.2.2.2.2.2.1.2.1 h0.2.2.2.2.2.2.2.2.2.2.1 h) rfl ⟨Nat.le_of_ble_eq_true rfl, Nat.le_of_ble_eq_true rfl⟩ ⟨Nat.le_refl 0, Nat.le_refl 0⟩ rfl (Nat.le_of_ble_eq_true rfl) dX10_where_66) hW (fun zr6 zm5 H locs h hW => ?_)
              exact zreti X hr hlk hW h dX10_where_69
            · replace h := h.2 c
              refine lv_bipush hx hb dX10_where_41 zc_bm4 ?_
              exact zreti X hr hlk hW h dX10_where_43
          · replace h := h.2 c
            refine lv_iconst hx hb dX10_where_25 zc_im1 ?_
            exact zreti X hr hlk hW h dX10_where_26
  exact zMain s.heap [] ls hW hl
def wp_Main_isHalf (a1 : Int32) (M : zMem) (Q : Int32 → zMem → Prop) : Prop :=
  (a1 = 0 → Q 1 M) ∧ (¬ a1 = 0 → (¬ a1 = 1 → Q 0 M) ∧ (a1 = 1 → Q 1 M))
set_option maxHeartbeats 4000000 in
set_option maxRecDepth 20000 in
theorem c_Main_isHalf {l : Launch} {w : zWd} {a1 : Int32} {M : zMem} {post : Int32 → zMem → Prop}  (h : wp_Main_isHalf a1 M post) : zMi l ⟨"HandToHand", "isHalf", "(I)Z"⟩ prog_1_method_42_code 1 (Option.some .boolean) 0 0 w [.int a1] M post := by
  refine zMet (by decide) (Nat.le_of_ble_eq_true rfl) ?_
  intro p e s m below meth c X hr hlk hml hW ls hl
  have hx := X.1
  have hb := X.2.1
  have hl : lv_has ls 1 [(0, .int a1)] := hl
  unfold wp_Main_isHalf at h
  have zMain : ∀ (H : Heap) (locs : List Loc) (ls : Array Slot), zWo w s.heap M H locs → lv_has ls 1 [(0, .int a1)] → W p l e (zRm 0 0) s m ([.int a1] : List Value).toArray below meth c H locs 0 0 (MQ below (va_Qi post (zB w) (zA w)) ([.int a1] : List Value).toArray s 0 0 (zA w)) (F0 m 0 ls []) := by
    intro H locs ls hW hl
    refine lv_iload_n hx hb dX10_isHalf_0 rfl (lv_at hl 0 rfl) ?_
    refine lv_if_eq (tgt := 9) hx hb dX10_isHalf_1 rfl (fun c => ?_) (fun c => ?_)
    · replace h := h.1 c
      refine lv_iconst hx hb dX10_isHalf_9 zc_i1 ?_
      refine lv_goto (tgt := 14) hx hb dX10_isHalf_10 rfl ?_
      exact zretz X hr hlk hW rfl h dX10_isHalf_14
    · replace h := h.2 c
      refine lv_iload_n hx hb dX10_isHalf_4 rfl (lv_at hl 0 rfl) ?_
      refine lv_iconst hx hb dX10_isHalf_5 zc_i1 ?_
      refine lv_icmp_ne (tgt := 13) hx hb dX10_isHalf_6 rfl (fun c => ?_) (fun c => ?_)
      · replace h := h.1 c
        refine lv_iconst hx hb dX10_isHalf_13 zc_i0 ?_
        exact zretz X hr hlk hW rfl h dX10_isHalf_14
      · replace h := h.2 c
        refine lv_iconst hx hb dX10_isHalf_9 zc_i1 ?_
        refine lv_goto (tgt := 14) hx hb dX10_isHalf_10 rfl ?_
        exact zretz X hr hlk hW rfl h dX10_isHalf_14
  exact zMain s.heap [] ls hW hl
def wp_Main_makes (a1 : Int32) (M : zMem) (Q : Int32 → zMem → Prop) : Prop :=
  wp_Main_isHalf a1 M (fun zr2 zm1 => (¬ zr2 = 0 → wp_Main_findRing zm1 (fun zm3 => (¬ a1 = 0 → Q (zm3 54 7) zm3) ∧ (a1 = 0 → Q (zm3 54 6) zm3))) ∧ (zr2 = 0 → Q ((-1)) zm1))
set_option maxHeartbeats 4000000 in
set_option maxRecDepth 20000 in
theorem c_Main_makes {l : Launch} {w : zWd} {a1 : Int32} {M : zMem} {post : Int32 → zMem → Prop} (h0 : zI_Main w) (h : wp_Main_makes a1 M post) : zMi l ⟨"HandToHand", "makes", "(I)I"⟩ prog_1_method_25_code 2 (Option.some .int) 6 138 w [.ref (zad w 0), .int a1] M post := by
  refine zMet (by decide) (Nat.le_of_ble_eq_true rfl) ?_
  intro p e s m below meth c X hr hlk hml hW ls hl
  have hx := X.1
  have hb := X.2.1
  have hl : lv_has ls 2 [(0, .ref (zad w 0)), (1, .int a1)] := hl
  unfold wp_Main_makes at h
  have zMain : ∀ (H : Heap) (locs : List Loc) (ls : Array Slot), zWo w s.heap M H locs → lv_has ls 2 [(0, .ref (zad w 0)), (1, .int a1)] → W p l e (zRm 6 138) s m ([.ref (zad w 0), .int a1] : List Value).toArray below meth c H locs 0 0 (MQ below (va_Qi post (zB w) (zA w)) ([.ref (zad w 0), .int a1] : List Value).toArray s 0 0 (zA w)) (F0 m 0 ls []) := by
    intro H locs ls hW hl
    refine lv_iload_n hx hb dX10_makes_0 rfl (lv_at hl 1 rfl) ?_
    refine zcalli (zrunS (As := [.int a1]) (rest := []) X hml hl hW zk_Main_278 (c_Main_isHalf  h) rfl ⟨Nat.le_of_ble_eq_true rfl, Nat.le_of_ble_eq_true rfl⟩ ⟨Nat.le_refl 0, Nat.le_refl 0⟩ rfl (Nat.le_of_ble_eq_true rfl) dX10_makes_1) hW (fun zr2 zm1 H locs h hW => ?_)
    refine lv_if_ne (tgt := 9) hx hb dX10_makes_4 rfl (fun c => ?_) (fun c => ?_)
    · replace h := h.1 c
      refine lv_aload_n hx hb dX10_makes_9 rfl (lv_at hl 0 rfl) ?_
      refine zcallv (zrunV (As := []) (rest := []) X hml hl hW h0.1 rfl zk_Main_259 (c_Main_findRing h0 h) rfl ⟨Nat.le_of_ble_eq_true rfl, Nat.le_of_ble_eq_true rfl⟩ ⟨Nat.le_refl 0, Nat.le_refl 0⟩ rfl (Nat.le_of_ble_eq_true rfl) dX10_makes_10) hW (fun zm3 H locs h hW => ?_)
      refine lv_iload_n hx hb dX10_makes_13 rfl (lv_at hl 1 rfl) ?_
      refine lv_if_ne (tgt := 27) hx hb dX10_makes_14 rfl (fun c => ?_) (fun c => ?_)
      · replace h := h.1 c
        refine lv_aload_n hx hb dX10_makes_27 rfl (lv_at hl 0 rfl) ?_
        refine zg_Main_ring X hW h0 zu_475 dX10_makes_28 ?_
        refine zg_Ring_bottom X hW h0.2.2.2.2.2.2.2.2.2.2.1 zu_311 dX10_makes_31 ?_
        exact zreti X hr hlk hW h dX10_makes_34
      · replace h := h.2 c
        refine lv_aload_n hx hb dX10_makes_17 rfl (lv_at hl 0 rfl) ?_
        refine zg_Main_ring X hW h0 zu_475 dX10_makes_18 ?_
        refine zg_Ring_top X hW h0.2.2.2.2.2.2.2.2.2.2.1 zu_308 dX10_makes_21 ?_
        refine lv_goto (tgt := 34) hx hb dX10_makes_24 rfl ?_
        exact zreti X hr hlk hW h dX10_makes_34
    · replace h := h.2 c
      refine lv_iconst hx hb dX10_makes_7 zc_im1 ?_
      exact zreti X hr hlk hW h dX10_makes_8
  exact zMain s.heap [] ls hW hl
