def wp_Model_torn  (M : zMem) (Q : Int32 → zMem → Prop) : Prop :=
  Q (M 0 39) M
set_option maxHeartbeats 4000000 in
set_option maxRecDepth 20000 in
theorem c_Model_torn {l : Launch} {w : zWd} {M : zMem} {post : Int32 → zMem → Prop} (h0 : zI_Model w) (h : wp_Model_torn  M post) : zMi l ⟨"HandToHandModel", "torn", "()I"⟩ prog_13_method_91_code 1 (Option.some .int) 0 0 w [.ref (zad w 0)] M post := by
  refine zMet (by decide) (Nat.le_of_ble_eq_true rfl) ?_
  intro p e s m below meth c X hr hlk hml hW ls hl
  have hx := X.1
  have hb := X.2.1
  have hl : lv_has ls 1 [(0, .ref (zad w 0))] := hl
  unfold wp_Model_torn at h
  have zMain : ∀ (H : Heap) (locs : List Loc) (ls : Array Slot), zWo w s.heap M H locs → lv_has ls 1 [(0, .ref (zad w 0))] → W p l e (zRm 0 0) s m ([.ref (zad w 0)] : List Value).toArray below meth c H locs 0 0 (MQ below (va_Qi post (zB w) (zA w)) ([.ref (zad w 0)] : List Value).toArray s 0 0 (zA w)) (F0 m 0 ls []) := by
    intro H locs ls hW hl
    refine lv_aload_n hx hb dX11_torn_0 rfl (lv_at hl 0 rfl) ?_
    refine zg_Model_torn X hW h0 zu_1059 dX11_torn_1 ?_
    exact zreti X hr hlk hW h dX11_torn_4
  exact zMain s.heap [] ls hW hl
def wp_Model_count (a1 : Int32) (M : zMem) (Q : Int32 → zMem → Prop) : Prop :=
  ∀ zx1 : Int32, zx1 = a1 → (zx1 = 0 → vp_in 0 2 ∧ ((M 7 (ix 0)) = 0 → vp_in 1 2 ∧ ((M 7 (ix 1)) = 0 → Q (0 + 0) M) ∧ (¬ (M 7 (ix 1)) = 0 → Q (0 + 1) M)) ∧ (¬ (M 7 (ix 0)) = 0 → vp_in 1 2 ∧ ((M 7 (ix 1)) = 0 → Q (1 + 0) M) ∧ (¬ (M 7 (ix 1)) = 0 → Q (1 + 1) M))) ∧ (zx1 = 1 → Q (M 0 1) M) ∧ (zx1 = 2 → vp_in 0 4 ∧ (¬ (M 16 (ix 0)) = (-4) → vp_in 0 4 ∧ Q (M 17 (ix 0)) M) ∧ ((M 16 (ix 0)) = (-4) → Q ((-4)) M)) ∧ (zx1 = 3 → wp_Model_orders M (fun zr3 zm2 => Q zr3 zm2)) ∧ (¬ zx1 = 0 → ¬ zx1 = 1 → ¬ zx1 = 2 → ¬ zx1 = 3 → Q ((-1)) M)
set_option maxHeartbeats 4000000 in
set_option maxRecDepth 20000 in
theorem c_Model_count {l : Launch} {w : zWd} {a1 : Int32} {M : zMem} {post : Int32 → zMem → Prop} (h0 : zI_Model w) (h : wp_Model_count a1 M post) : zMi l ⟨"HandToHandModel", "count", "(I)I"⟩ prog_13_method_92_code 2 (Option.some .int) 1 22 w [.ref (zad w 0), .int a1] M post := by
  refine zMet (by decide) (Nat.le_of_ble_eq_true rfl) ?_
  intro p e s m below meth c X hr hlk hml hW ls hl
  have hx := X.1
  have hb := X.2.1
  have hl : lv_has ls 2 [(0, .ref (zad w 0)), (1, .int a1)] := hl
  unfold wp_Model_count at h
  have zMain : ∀ (H : Heap) (locs : List Loc) (ls : Array Slot), zWo w s.heap M H locs → lv_has ls 2 [(0, .ref (zad w 0)), (1, .int a1)] → W p l e (zRm 1 22) s m ([.ref (zad w 0), .int a1] : List Value).toArray below meth c H locs 0 0 (MQ below (va_Qi post (zB w) (zA w)) ([.ref (zad w 0), .int a1] : List Value).toArray s 0 0 (zA w)) (F0 m 0 ls []) := by
    intro H locs ls hW hl
    refine lv_iload_n hx hb dX11_count_0 rfl (lv_at hl 1 rfl) ?_
    refine lv_topi (fun zx1 ezx1 => ?_)
    replace h := h zx1 ezx1
    by_cases c0 : zx1 = 0
    · replace h := h.1 c0
      refine lv_tableIn (off := 31) (tgt := 32) hx hb dX11_count_1 (by rw [c0]; decide) (by rw [c0]; decide) (by rw [c0]; rfl) rfl ?_
      refine lv_aload_n hx hb dX11_count_32 rfl (lv_at hl 0 rfl) ?_
      refine zg_Model_isKept X hW h0 zu_1037 dX11_count_33 ?_
      refine lv_iconst hx hb dX11_count_36 zc_i0 ?_
      obtain ⟨g, h⟩ := h
      refine zzald X hW h0.2.2.2.2.2.2.2.2.2.2.2.2.2.2.2.2.2.2 g dX11_count_37 ?_
      refine lv_if_eq (tgt := 45) hx hb dX11_count_38 rfl (fun c => ?_) (fun c => ?_)
      · replace h := h.1 c
        refine lv_iconst hx hb dX11_count_45 zc_i0 ?_
        refine lv_aload_n hx hb dX11_count_46 rfl (lv_at hl 0 rfl) ?_
        refine zg_Model_isKept X hW h0 zu_1037 dX11_count_47 ?_
        refine lv_iconst hx hb dX11_count_50 zc_i1 ?_
        obtain ⟨g, h⟩ := h
        refine zzald X hW h0.2.2.2.2.2.2.2.2.2.2.2.2.2.2.2.2.2.2 g dX11_count_51 ?_
        refine lv_if_eq (tgt := 59) hx hb dX11_count_52 rfl (fun c => ?_) (fun c => ?_)
        · replace h := h.1 c
          refine lv_iconst hx hb dX11_count_59 zc_i0 ?_
          refine lv_iadd hx hb dX11_count_60 ?_
          exact zreti X hr hlk hW h dX11_count_61
        · replace h := h.2 c
          refine lv_iconst hx hb dX11_count_55 zc_i1 ?_
          refine lv_goto (tgt := 60) hx hb dX11_count_56 rfl ?_
          refine lv_iadd hx hb dX11_count_60 ?_
          exact zreti X hr hlk hW h dX11_count_61
      · replace h := h.2 c
        refine lv_iconst hx hb dX11_count_41 zc_i1 ?_
        refine lv_goto (tgt := 46) hx hb dX11_count_42 rfl ?_
        refine lv_aload_n hx hb dX11_count_46 rfl (lv_at hl 0 rfl) ?_
        refine zg_Model_isKept X hW h0 zu_1037 dX11_count_47 ?_
        refine lv_iconst hx hb dX11_count_50 zc_i1 ?_
        obtain ⟨g, h⟩ := h
        refine zzald X hW h0.2.2.2.2.2.2.2.2.2.2.2.2.2.2.2.2.2.2 g dX11_count_51 ?_
        refine lv_if_eq (tgt := 59) hx hb dX11_count_52 rfl (fun c => ?_) (fun c => ?_)
        · replace h := h.1 c
          refine lv_iconst hx hb dX11_count_59 zc_i0 ?_
          refine lv_iadd hx hb dX11_count_60 ?_
          exact zreti X hr hlk hW h dX11_count_61
        · replace h := h.2 c
          refine lv_iconst hx hb dX11_count_55 zc_i1 ?_
          refine lv_goto (tgt := 60) hx hb dX11_count_56 rfl ?_
          refine lv_iadd hx hb dX11_count_60 ?_
          exact zreti X hr hlk hW h dX11_count_61
    replace h := h.2
    by_cases c1 : zx1 = 1
    · replace h := h.1 c1
      refine lv_tableIn (off := 61) (tgt := 62) hx hb dX11_count_1 (by rw [c1]; decide) (by rw [c1]; decide) (by rw [c1]; rfl) rfl ?_
      refine lv_aload_n hx hb dX11_count_62 rfl (lv_at hl 0 rfl) ?_
      refine zg_Model_taped X hW h0 zu_1021 dX11_count_63 ?_
      exact zreti X hr hlk hW h dX11_count_66
    replace h := h.2
    by_cases c2 : zx1 = 2
    · replace h := h.1 c2
      refine lv_tableIn (off := 66) (tgt := 67) hx hb dX11_count_1 (by rw [c2]; decide) (by rw [c2]; decide) (by rw [c2]; rfl) rfl ?_
      refine lv_aload_n hx hb dX11_count_67 rfl (lv_at hl 0 rfl) ?_
      refine zg_Model_lanes X hW h0 zu_1056 dX11_count_68 ?_
      refine lv_iconst hx hb dX11_count_71 zc_i0 ?_
      obtain ⟨g, h⟩ := h
      refine ziald X hW h0.2.2.2.2.2.2.2.2.2.2.2.2.2.2.2.1 g dX11_count_72 ?_
      refine lv_bipush hx hb dX11_count_73 zc_bm4 ?_
      refine lv_icmp_ne (tgt := 83) hx hb dX11_count_75 rfl (fun c => ?_) (fun c => ?_)
      · replace h := h.1 c
        refine lv_aload_n hx hb dX11_count_83 rfl (lv_at hl 0 rfl) ?_
        refine zg_Model_lengths X hW h0 zu_1057 dX11_count_84 ?_
        refine lv_iconst hx hb dX11_count_87 zc_i0 ?_
        obtain ⟨g, h⟩ := h
        refine ziald X hW h0.2.2.2.2.2.2.2.2.2.2.2.2.2.2.2.2.1 g dX11_count_88 ?_
        exact zreti X hr hlk hW h dX11_count_89
      · replace h := h.2 c
        refine lv_bipush hx hb dX11_count_78 zc_bm4 ?_
        refine lv_goto (tgt := 89) hx hb dX11_count_80 rfl ?_
        exact zreti X hr hlk hW h dX11_count_89
    replace h := h.2
    by_cases c3 : zx1 = 3
    · replace h := h.1 c3
      refine lv_tableIn (off := 89) (tgt := 90) hx hb dX11_count_1 (by rw [c3]; decide) (by rw [c3]; decide) (by rw [c3]; rfl) rfl ?_
      refine lv_aload_n hx hb dX11_count_90 rfl (lv_at hl 0 rfl) ?_
      refine zcalli (zrunV (As := []) (rest := []) X hml hl hW h0.1 rfl zk_Model_310 (c_Model_orders h0 h) rfl ⟨Nat.le_of_ble_eq_true rfl, Nat.le_of_ble_eq_true rfl⟩ ⟨Nat.le_refl 0, Nat.le_refl 0⟩ rfl (Nat.le_of_ble_eq_true rfl) dX11_count_91) hW (fun zr3 zm2 H locs h hW => ?_)
      exact zreti X hr hlk hW h dX11_count_94
    replace h := h.2
    replace h := h c0 c1 c2 c3
    refine lv_tableOut (tgt := 95) hx hb dX11_count_1 (zsw 3 (Nat.le_of_ble_eq_true rfl) (fun j hj => ?_)) rfl ?_
    · rcases (show j = 0 ∨ j = 1 ∨ j = 2 ∨ j = 3 by omega) with rfl | rfl | rfl | rfl
      · exact c0
      · exact c1
      · exact c2
      · exact c3
    refine lv_iconst hx hb dX11_count_95 zc_im1 ?_
    exact zreti X hr hlk hW h dX11_count_96
  exact zMain s.heap [] ls hW hl
