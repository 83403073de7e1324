def wp_Bench_finishUnit (k : Nat) (a1 : Int32) (M : zMem) (Q : Int32 → zMem → Prop) : Prop :=
  vp_in a1 5 ∧ vp_in ((a1 * 8) + (M (k + 3) (ix a1))) 40 ∧ vp_in ((a1 * 8) + (M (k + 3) (ix a1))) 40 ∧ ∀ zm1 : zMem, zm1 = zup M (k + 7) (ix ((a1 * 8) + (M (k + 3) (ix a1)))) ((M (k + 7) (ix ((a1 * 8) + (M (k + 3) (ix a1))))) + 1) → vp_in a1 5 ∧ ∀ zm2 : zMem, zm2 = zup zm1 (k + 1) (ix a1) 2 → vp_in a1 5 ∧ vp_in a1 5 ∧ ∀ zm3 : zMem, zm3 = zup zm2 (k + 4) (ix a1) ((zm2 (k + 4) (ix a1)) + 1) → vp_in a1 5 ∧ vp_in a1 5 ∧ vp_in a1 5 ∧ wp_Told_unitsOf (ztc (zm3 k 0)) (zm3 (k + 5) (ix a1)) (zm3 (k + 3) (ix a1)) zm3 (fun zr5 zm4 => (zr5 ≤ (zm3 (k + 4) (ix a1)) → vp_in a1 5 ∧ vp_in a1 5 ∧ wp_Told_pieceFrom (ztc (zm4 k 0)) ((zm4 (k + 3) (ix a1)) + 1) (zm4 (k + 5) (ix a1)) zm4 (fun zr7 zm6 => ((zm6 (ztc (zm6 k 0)) 0) ≤ zr7 → ∀ zm8 : zMem, zm8 = zup zm6 k 3 ((zm6 k 3) + 1) → wp_Bench_goBack k a1 (zm8 (ztc (zm8 k 0)) 0) zm8 (fun zm9 => Q 1 zm9)) ∧ (¬ (zm6 (ztc (zm6 k 0)) 0) ≤ zr7 → vp_in a1 5 ∧ ∀ zm11 : zMem, zm11 = zup zm6 (k + 3) (ix a1) zr7 → vp_in a1 5 ∧ ∀ zm12 : zMem, zm12 = zup zm11 (k + 4) (ix a1) 0 → Q 1 zm12))) ∧ (¬ zr5 ≤ (zm3 (k + 4) (ix a1)) → Q 1 zm4))
set_option maxHeartbeats 4000000 in
set_option maxRecDepth 20000 in
theorem c_Bench_finishUnit {l : Launch} {w : zWd} {k : Nat} {a1 : Int32} {M : zMem} {post : Int32 → zMem → Prop} (h0 : zI_Bench w k) (h : wp_Bench_finishUnit k a1 M post) : zMi l ⟨"HandToHand$Bench", "finishUnit", "(I)Z"⟩ prog_2_method_7_code 3 (Option.some .boolean) 1 23 w [.ref (zad w k), .int a1] M post := by
  refine zMet (by decide) (Nat.le_of_ble_eq_true rfl) ?_
  intro p e s m below meth c X hr hlk hml hW ls hl
  have hx := X.1
  have hb := X.2.1
  have hl : lv_has ls 3 [(0, .ref (zad w k)), (1, .int a1)] := hl
  unfold wp_Bench_finishUnit at h
  have zMain : ∀ (H : Heap) (locs : List Loc) (ls : Array Slot), zWo w s.heap M H locs → lv_has ls 3 [(0, .ref (zad w k)), (1, .int a1)] → W p l e (zRm 1 23) s m ([.ref (zad w k), .int a1] : List Value).toArray below meth c H locs 0 0 (MQ below (va_Qi post (zB w) (zA w)) ([.ref (zad w k), .int a1] : List Value).toArray s 0 0 (zA w)) (F0 m 0 ls []) := by
    intro H locs ls hW hl
    refine lv_aload_n hx hb dX0_finishUnit_0 rfl (lv_at hl 0 rfl) ?_
    refine zg_Bench_learned X hW h0 zu_187 dX0_finishUnit_1 ?_
    refine lv_iload_n hx hb dX0_finishUnit_4 rfl (lv_at hl 1 rfl) ?_
    refine lv_bipush hx hb dX0_finishUnit_5 zc_b8 ?_
    refine lv_imul hx hb dX0_finishUnit_7 ?_
    refine lv_aload_n hx hb dX0_finishUnit_8 rfl (lv_at hl 0 rfl) ?_
    refine zg_Bench_piece X hW h0 zu_179 dX0_finishUnit_9 ?_
    refine lv_iload_n hx hb dX0_finishUnit_12 rfl (lv_at hl 1 rfl) ?_
    obtain ⟨g, h⟩ := h
    refine ziald X hW h0.2.2.2.1 g dX0_finishUnit_13 ?_
    refine lv_iadd hx hb dX0_finishUnit_14 ?_
    refine lv_dup2_11 hx hb dX0_finishUnit_15 rfl rfl ?_
    obtain ⟨g, h⟩ := h
    refine ziald X hW h0.2.2.2.2.2.2.2.1 g dX0_finishUnit_16 ?_
    refine lv_iconst hx hb dX0_finishUnit_17 zc_i1 ?_
    refine lv_iadd hx hb dX0_finishUnit_18 ?_
    obtain ⟨g, h⟩ := h
    refine ziast X hW h0.2.2.2.2.2.2.2.1 g dX0_finishUnit_19 (fun H locs zm1 ezm1 hW => ?_)
    replace h := h zm1 ezm1
    refine lv_aload_n hx hb dX0_finishUnit_20 rfl (lv_at hl 0 rfl) ?_
    refine zg_Bench_doing X hW h0 zu_175 dX0_finishUnit_21 ?_
    refine lv_iload_n hx hb dX0_finishUnit_24 rfl (lv_at hl 1 rfl) ?_
    refine lv_iconst hx hb dX0_finishUnit_25 zc_i2 ?_
    obtain ⟨g, h⟩ := h
    refine ziast X hW h0.2.1 g dX0_finishUnit_26 (fun H locs zm2 ezm2 hW => ?_)
    replace h := h zm2 ezm2
    refine lv_aload_n hx hb dX0_finishUnit_27 rfl (lv_at hl 0 rfl) ?_
    refine zg_Bench_unit X hW h0 zu_181 dX0_finishUnit_28 ?_
    refine lv_iload_n hx hb dX0_finishUnit_31 rfl (lv_at hl 1 rfl) ?_
    refine lv_dup2_11 hx hb dX0_finishUnit_32 rfl rfl ?_
    obtain ⟨g, h⟩ := h
    refine ziald X hW h0.2.2.2.2.1 g dX0_finishUnit_33 ?_
    refine lv_iconst hx hb dX0_finishUnit_34 zc_i1 ?_
    refine lv_iadd hx hb dX0_finishUnit_35 ?_
    obtain ⟨g, h⟩ := h
    refine ziast X hW h0.2.2.2.2.1 g dX0_finishUnit_36 (fun H locs zm3 ezm3 hW => ?_)
    replace h := h zm3 ezm3
    refine lv_aload_n hx hb dX0_finishUnit_37 rfl (lv_at hl 0 rfl) ?_
    refine zg_Bench_unit X hW h0 zu_181 dX0_finishUnit_38 ?_
    refine lv_iload_n hx hb dX0_finishUnit_41 rfl (lv_at hl 1 rfl) ?_
    obtain ⟨g, h⟩ := h
    refine ziald X hW h0.2.2.2.2.1 g dX0_finishUnit_42 ?_
    refine lv_aload_n hx hb dX0_finishUnit_43 rfl (lv_at hl 0 rfl) ?_
    refine zg_Bench_told X hW h0 zu_160 dX0_finishUnit_44 ?_
    refine lv_aload_n hx hb dX0_finishUnit_47 rfl (lv_at hl 0 rfl) ?_
    refine zg_Bench_sort X hW h0 zu_183 dX0_finishUnit_48 ?_
    refine lv_iload_n hx hb dX0_finishUnit_51 rfl (lv_at hl 1 rfl) ?_
    obtain ⟨g, h⟩ := h
    refine ziald X hW h0.2.2.2.2.2.1 g dX0_finishUnit_52 ?_
    refine lv_aload_n hx hb dX0_finishUnit_53 rfl (lv_at hl 0 rfl) ?_
    refine zg_Bench_piece X hW h0 zu_179 dX0_finishUnit_54 ?_
    refine lv_iload_n hx hb dX0_finishUnit_57 rfl (lv_at hl 1 rfl) ?_
    obtain ⟨g, h⟩ := h
    refine ziald X hW h0.2.2.2.1 g dX0_finishUnit_58 ?_
    refine zcalli (zrunV (As := [.int (zm3 (k + 5) (ix a1)), .int (zm3 (k + 3) (ix a1))]) (rest := [.int (zm3 (k + 4) (ix a1))]) X hml hl hW (h0.2.2.2.2.2.2.2.2.2.1 _).1 rfl zk_Bench_89 (c_Told_unitsOf (h0.2.2.2.2.2.2.2.2.2.1 _) h) rfl ⟨Nat.le_of_ble_eq_true rfl, Nat.le_of_ble_eq_true rfl⟩ ⟨Nat.le_refl 0, Nat.le_refl 0⟩ rfl (Nat.le_of_ble_eq_true rfl) dX0_finishUnit_59) hW (fun zr5 zm4 H locs h hW => ?_)
    refine lv_icmp_ge (tgt := 67) hx hb dX0_finishUnit_62 rfl (fun c => ?_) (fun c => ?_)
    · replace h := h.1 c
      refine lv_aload_n hx hb dX0_finishUnit_67 rfl (lv_at hl 0 rfl) ?_
      refine zg_Bench_told X hW h0 zu_160 dX0_finishUnit_68 ?_
      refine lv_aload_n hx hb dX0_finishUnit_71 rfl (lv_at hl 0 rfl) ?_
      refine zg_Bench_piece X hW h0 zu_179 dX0_finishUnit_72 ?_
      refine lv_iload_n hx hb dX0_finishUnit_75 rfl (lv_at hl 1 rfl) ?_
      obtain ⟨g, h⟩ := h
      refine ziald X hW h0.2.2.2.1 g dX0_finishUnit_76 ?_
      refine lv_iconst hx hb dX0_finishUnit_77 zc_i1 ?_
      refine lv_iadd hx hb dX0_finishUnit_78 ?_
      refine lv_aload_n hx hb dX0_finishUnit_79 rfl (lv_at hl 0 rfl) ?_
      refine zg_Bench_sort X hW h0 zu_183 dX0_finishUnit_80 ?_
      refine lv_iload_n hx hb dX0_finishUnit_83 rfl (lv_at hl 1 rfl) ?_
      obtain ⟨g, h⟩ := h
      refine ziald X hW h0.2.2.2.2.2.1 g dX0_finishUnit_84 ?_
      refine zcalli (zrunV (As := [.int ((zm4 (k + 3) (ix a1)) + 1), .int (zm4 (k + 5) (ix a1))]) (rest := []) X hml hl hW (h0.2.2.2.2.2.2.2.2.2.1 _).1 rfl zk_Bench_93 (c_Told_pieceFrom (h0.2.2.2.2.2.2.2.2.2.1 _) h) rfl ⟨Nat.le_of_ble_eq_true rfl, Nat.le_of_ble_eq_true rfl⟩ ⟨Nat.le_refl 0, Nat.le_refl 0⟩ rfl (Nat.le_of_ble_eq_true rfl) dX0_finishUnit_85) hW (fun zr7 zm6 H locs h hW => ?_)
      refine lv_istore_n (lv' := [(2, .int zr7), (0, .ref (zad w k)), (1, .int a1)]) hx hb dX0_finishUnit_88 rfl hl (Nat.le_of_ble_eq_true rfl) rfl (fun ls hl => ?_)
      refine lv_iload_n hx hb dX0_finishUnit_89 rfl (lv_at hl 0 rfl) ?_
      refine lv_aload_n hx hb dX0_finishUnit_90 rfl (lv_at hl 1 rfl) ?_
      refine zg_Bench_told X hW h0 zu_160 dX0_finishUnit_91 ?_
      refine zg_Told_pieces X hW (h0.2.2.2.2.2.2.2.2.2.1 _) zu_36 dX0_finishUnit_94 ?_
      refine lv_icmp_ge (tgt := 117) hx hb dX0_finishUnit_97 rfl (fun c => ?_) (fun c => ?_)
      · replace h := h.1 c
        refine lv_aload_n hx hb dX0_finishUnit_117 rfl (lv_at hl 1 rfl) ?_
        refine lv_dup hx hb dX0_finishUnit_118 rfl ?_
        refine zg_Bench_done X hW h0 zu_166 dX0_finishUnit_119 ?_
        refine lv_iconst hx hb dX0_finishUnit_122 zc_i1 ?_
        refine lv_iadd hx hb dX0_finishUnit_123 ?_
        refine zp_Bench_done X hW h0 zu_166 dX0_finishUnit_124 (fun H locs zm8 ezm8 hW => ?_)
        replace h := h zm8 ezm8
        refine lv_aload_n hx hb dX0_finishUnit_127 rfl (lv_at hl 1 rfl) ?_
        refine lv_iload_n hx hb dX0_finishUnit_128 rfl (lv_at hl 2 rfl) ?_
        refine lv_aload_n hx hb dX0_finishUnit_129 rfl (lv_at hl 1 rfl) ?_
        refine zg_Bench_told X hW h0 zu_160 dX0_finishUnit_130 ?_
        refine zg_Told_pieces X hW (h0.2.2.2.2.2.2.2.2.2.1 _) zu_36 dX0_finishUnit_133 ?_
        refine zcallv (zrunV (As := [.int a1, .int (zm8 (ztc (zm8 k 0)) 0)]) (rest := []) X hml hl hW h0.1 rfl zk_Bench_99 (c_Bench_goBack h0 h) rfl ⟨Nat.le_of_ble_eq_true rfl, Nat.le_of_ble_eq_true rfl⟩ ⟨Nat.le_refl 0, Nat.le_refl 0⟩ rfl (Nat.le_of_ble_eq_true rfl) dX0_finishUnit_136) hW (fun zm9 H locs h hW => ?_)
        refine lv_iconst hx hb dX0_finishUnit_139 zc_i1 ?_
        exact zretz X hr hlk hW rfl h dX0_finishUnit_140
      · replace h := h.2 c
        refine lv_aload_n hx hb dX0_finishUnit_100 rfl (lv_at hl 1 rfl) ?_
        refine zg_Bench_piece X hW h0 zu_179 dX0_finishUnit_101 ?_
        refine lv_iload_n hx hb dX0_finishUnit_104 rfl (lv_at hl 2 rfl) ?_
        refine lv_iload_n hx hb dX0_finishUnit_105 rfl (lv_at hl 0 rfl) ?_
        obtain ⟨g, h⟩ := h
        refine ziast X hW h0.2.2.2.1 g dX0_finishUnit_106 (fun H locs zm11 ezm11 hW => ?_)
        replace h := h zm11 ezm11
        refine lv_aload_n hx hb dX0_finishUnit_107 rfl (lv_at hl 1 rfl) ?_
        refine zg_Bench_unit X hW h0 zu_181 dX0_finishUnit_108 ?_
        refine lv_iload_n hx hb dX0_finishUnit_111 rfl (lv_at hl 2 rfl) ?_
        refine lv_iconst hx hb dX0_finishUnit_112 zc_i0 ?_
        obtain ⟨g, h⟩ := h
        refine ziast X hW h0.2.2.2.2.1 g dX0_finishUnit_113 (fun H locs zm12 ezm12 hW => ?_)
        replace h := h zm12 ezm12
        refine lv_goto (tgt := 139) hx hb dX0_finishUnit_114 rfl ?_
        refine lv_iconst hx hb dX0_finishUnit_139 zc_i1 ?_
        exact zretz X hr hlk hW rfl h dX0_finishUnit_140
    · replace h := h.2 c
      refine lv_iconst hx hb dX0_finishUnit_65 zc_i1 ?_
      exact zretz X hr hlk hW rfl h dX0_finishUnit_66
  exact zMain s.heap [] ls hW hl
def wp_Bench_act (k : Nat) (a1 : Int32) (M : zMem) (Q : Int32 → zMem → Prop) : Prop :=
  vp_in a1 5 ∧ ∀ zx1 : Int32, zx1 = M (k + 1) (ix a1) → (zx1 = 0 → (¬ a1 = 0 → wp_Bench_takeOver k a1 M (fun zr3 zm2 => zbo zr3 ∧ Q zr3 zm2)) ∧ (a1 = 0 → wp_Bench_takeNewCoat k M (fun zr5 zm4 => zbo zr5 ∧ Q zr5 zm4))) ∧ (zx1 = 1 → Q 0 M) ∧ (zx1 = 2 → wp_Bench_startUnit k a1 M (fun zr7 zm6 => zbo zr7 ∧ Q zr7 zm6)) ∧ (zx1 = 3 → wp_Bench_finishUnit k a1 M (fun zr9 zm8 => zbo zr9 ∧ Q zr9 zm8)) ∧ (¬ zx1 = 0 → ¬ zx1 = 1 → ¬ zx1 = 2 → ¬ zx1 = 3 → Q 0 M)
set_option maxHeartbeats 4000000 in
set_option maxRecDepth 20000 in
theorem c_Bench_act {l : Launch} {w : zWd} {k : Nat} {a1 : Int32} {M : zMem} {post : Int32 → zMem → Prop} (h0 : zI_Bench w k) (h : wp_Bench_act k a1 M post) : zMi l ⟨"HandToHand$Bench", "act", "(I)Z"⟩ prog_2_method_6_code 2 (Option.some .boolean) 2 48 w [.ref (zad w k), .int a1] M post := by
  refine zMet (by decide) (Nat.le_of_ble_eq_true rfl) ?_
  intro p e s m below meth c X hr hlk hml hW ls hl
  have hx := X.1
  have hb := X.2.1
  have hl : lv_has ls 2 [(0, .ref (zad w k)), (1, .int a1)] := hl
  unfold wp_Bench_act at h
  have zMain : ∀ (H : Heap) (locs : List Loc) (ls : Array Slot), zWo w s.heap M H locs → lv_has ls 2 [(0, .ref (zad w k)), (1, .int a1)] → W p l e (zRm 2 48) s m ([.ref (zad w k), .int a1] : List Value).toArray below meth c H locs 0 0 (MQ below (va_Qi post (zB w) (zA w)) ([.ref (zad w k), .int a1] : List Value).toArray s 0 0 (zA w)) (F0 m 0 ls []) := by
    intro H locs ls hW hl
    refine lv_aload_n hx hb dX0_act_0 rfl (lv_at hl 0 rfl) ?_
    refine zg_Bench_doing X hW h0 zu_175 dX0_act_1 ?_
    refine lv_iload_n hx hb dX0_act_4 rfl (lv_at hl 1 rfl) ?_
    obtain ⟨g, h⟩ := h
    refine ziald X hW h0.2.1 g dX0_act_5 ?_
    refine lv_topi (fun zx1 ezx1 => ?_)
    replace h := h zx1 ezx1
    by_cases c0 : zx1 = 0
    · replace h := h.1 c0
      refine lv_tableIn (off := 36) (tgt := 42) hx hb dX0_act_6 (by rw [c0]; decide) (by rw [c0]; decide) (by rw [c0]; rfl) rfl ?_
      refine lv_iload_n hx hb dX0_act_42 rfl (lv_at hl 1 rfl) ?_
      refine lv_if_ne (tgt := 53) hx hb dX0_act_43 rfl (fun c => ?_) (fun c => ?_)
      · replace h := h.1 c
        refine lv_aload_n hx hb dX0_act_53 rfl (lv_at hl 0 rfl) ?_
        refine lv_iload_n hx hb dX0_act_54 rfl (lv_at hl 1 rfl) ?_
        refine zcalli (zrunV (As := [.int a1]) (rest := []) X hml hl hW h0.1 rfl zk_Bench_83 (c_Bench_takeOver h0 h) rfl ⟨Nat.le_of_ble_eq_true rfl, Nat.le_of_ble_eq_true rfl⟩ ⟨Nat.le_refl 0, Nat.le_refl 0⟩ rfl (Nat.le_of_ble_eq_true rfl) dX0_act_55) hW (fun zr3 zm2 H locs h hW => ?_)
        exact zretz X hr hlk hW (zbo_n h.1) h.2 dX0_act_58
      · replace h := h.2 c
        refine lv_aload_n hx hb dX0_act_46 rfl (lv_at hl 0 rfl) ?_
        refine zcalli (zrunV (As := []) (rest := []) X hml hl hW h0.1 rfl zk_Bench_79 (c_Bench_takeNewCoat h0 h) rfl ⟨Nat.le_of_ble_eq_true rfl, Nat.le_of_ble_eq_true rfl⟩ ⟨Nat.le_refl 0, Nat.le_refl 0⟩ rfl (Nat.le_of_ble_eq_true rfl) dX0_act_47) hW (fun zr5 zm4 H locs h hW => ?_)
        refine lv_goto (tgt := 58) hx hb dX0_act_50 rfl ?_
        exact zretz X hr hlk hW (zbo_n h.1) h.2 dX0_act_58
    replace h := h.2
    by_cases c1 : zx1 = 1
    · replace h := h.1 c1
      refine lv_tableIn (off := 59) (tgt := 65) hx hb dX0_act_6 (by rw [c1]; decide) (by rw [c1]; decide) (by rw [c1]; rfl) rfl ?_
      refine lv_iconst hx hb dX0_act_65 zc_i0 ?_
      exact zretz X hr hlk hW rfl h dX0_act_66
    replace h := h.2
    by_cases c2 : zx1 = 2
    · replace h := h.1 c2
      refine lv_tableIn (off := 53) (tgt := 59) hx hb dX0_act_6 (by rw [c2]; decide) (by rw [c2]; decide) (by rw [c2]; rfl) rfl ?_
      refine lv_aload_n hx hb dX0_act_59 rfl (lv_at hl 0 rfl) ?_
      refine lv_iload_n hx hb dX0_act_60 rfl (lv_at hl 1 rfl) ?_
      refine zcalli (zrunV (As := [.int a1]) (rest := []) X hml hl hW h0.1 rfl zk_Bench_86 (c_Bench_startUnit h0 h) rfl ⟨Nat.le_of_ble_eq_true rfl, Nat.le_of_ble_eq_true rfl⟩ ⟨Nat.le_refl 0, Nat.le_refl 0⟩ rfl (Nat.le_of_ble_eq_true rfl) dX0_act_61) hW (fun zr7 zm6 H locs h hW => ?_)
      exact zretz X hr hlk hW (zbo_n h.1) h.2 dX0_act_64
    replace h := h.2
    by_cases c3 : zx1 = 3
    · replace h := h.1 c3
      refine lv_tableIn (off := 30) (tgt := 36) hx hb dX0_act_6 (by rw [c3]; decide) (by rw [c3]; decide) (by rw [c3]; rfl) rfl ?_
      refine lv_aload_n hx hb dX0_act_36 rfl (lv_at hl 0 rfl) ?_
      refine lv_iload_n hx hb dX0_act_37 rfl (lv_at hl 1 rfl) ?_
      refine zcalli (zrunV (As := [.int a1]) (rest := []) X hml hl hW h0.1 rfl zk_Bench_76 (c_Bench_finishUnit h0 h) rfl ⟨Nat.le_of_ble_eq_true rfl, Nat.le_of_ble_eq_true rfl⟩ ⟨Nat.le_refl 0, Nat.le_refl 0⟩ rfl (Nat.le_of_ble_eq_true rfl) dX0_act_38) hW (fun zr9 zm8 H locs h hW => ?_)
      exact zretz X hr hlk hW (zbo_n h.1) h.2 dX0_act_41
    replace h := h.2
    replace h := h c0 c1 c2 c3
    refine lv_tableOut (tgt := 65) hx hb dX0_act_6 (zsw 3 (Nat.le_of_ble_eq_true rfl) (fun j hj => ?_)) rfl ?_
    · rcases (show j = 0 ∨ j = 1 ∨ j = 2 ∨ j = 3 by omega) with rfl | rfl | rfl | rfl
      · exact c0
      · exact c1
      · exact c2
      · exact c3
    refine lv_iconst hx hb dX0_act_65 zc_i0 ?_
    exact zretz X hr hlk hW rfl h dX0_act_66
  exact zMain s.heap [] ls hW hl
def wpB_Bench_doAll_26 (k : Nat) (x_2 : Int32) (K55 : Int32 → zMem → Prop) (Q : zMem → Prop) (J : Int32 → Int32 → zMem → Prop) (x_1 : Int32) (x_3 : Int32) (M : zMem) : Prop :=
  (x_3 < 0 → K55 x_1 M) ∧ (¬ x_3 < 0 → vp_in x_3 5 ∧ (¬ (M (k + 2) (ix x_3)) = 0 → ∀ zx2 : Int32, zx2 = x_3 + (-1) → J x_1 zx2 M) ∧ ((M (k + 2) (ix x_3)) = 0 → wp_Bench_act k x_3 M (fun zr4 zm3 => (zr4 = 0 → ∀ zx5 : Int32, zx5 = x_3 + (-1) → J x_1 zx5 zm3) ∧ (¬ zr4 = 0 → ∀ zx6 : Int32, zx6 = x_3 + (-1) → J 1 zx6 zm3))))
def wpB_Bench_doAll_4 (k : Nat)   (Q : zMem → Prop) (J : Int32 → Int32 → zMem → Prop) (x_1 : Int32) (x_2 : Int32) (M : zMem) : Prop :=
  (1000000 ≤ x_2 → Q M) ∧ (¬ 1000000 ≤ x_2 → (x_1 = 0 → Q M) ∧ (¬ x_1 = 0 → ∀ zx1 : Int32, zx1 = (M (ztc (M k 0)) 1) - 1 → ∃ n : Nat, zlp2 (wpB_Bench_doAll_26 k x_2 (fun (zx8 : Int32) (zm7 : zMem) => ∀ zx9 : Int32, zx9 = x_2 + 1 → J zx8 zx9 zm7) Q) n 0 zx1 M))
def wp_Bench_doAll (k : Nat) (M : zMem) (Q : zMem → Prop) : Prop :=
  ∃ n : Nat, zlp2 (wpB_Bench_doAll_4 k   Q) n 1 0 M
set_option maxHeartbeats 4000000 in
set_option maxRecDepth 20000 in
theorem c_Bench_doAll {l : Launch} {w : zWd} {k : Nat} {M : zMem} {post : zMem → Prop} (h0 : zI_Bench w k) (h : wp_Bench_doAll k M post) : zMv l ⟨"HandToHand$Bench", "doAll", "()V"⟩ prog_2_method_5_code 4 none 3 69 w [.ref (zad w k)] M post := by
  refine zMet (by decide) (Nat.le_of_ble_eq_true rfl) ?_
  intro p e s m below meth c X hr hlk hml hW ls hl
  have hx := X.1
  have hb := X.2.1
  have hl : lv_has ls 4 [(0, .ref (zad w k))] := hl
  have zL_26 : ∀ (x_2 : Int32) (K55 : Int32 → zMem → Prop) (zK55 : ∀ (y_1 : Int32) (M : zMem) (H : Heap) (locs : List Loc) (ls : Array Slot), zWo w s.heap M H locs → lv_has ls 4 [(0, .ref (zad w k)), (1, .int y_1), (2, .int x_2)] → K55 y_1 M → W p l e (zRm 3 69) s m ([.ref (zad w k)] : List Value).toArray below meth c H locs 0 0 (MQ below (va_Qv post (zB w) (zA w)) ([.ref (zad w k)] : List Value).toArray s 0 0 (zA w)) (F0 m 55 ls [])), ∀ (n : Nat) (x_1 : Int32) (x_3 : Int32) (M : zMem) (H : Heap) (locs : List Loc) (ls : Array Slot), zWo w s.heap M H locs → lv_has ls 4 [(0, .ref (zad w k)), (1, .int x_1), (2, .int x_2), (3, .int x_3)] → zlp2 (wpB_Bench_doAll_26 k x_2 K55 post) n x_1 x_3 M → W p l e (zRm 3 69) s m ([.ref (zad w k)] : List Value).toArray below meth c H locs 0 0 (MQ below (va_Qv post (zB w) (zA w)) ([.ref (zad w k)] : List Value).toArray s 0 0 (zA w)) (F0 m 26 ls []) := by
    intro x_2 K55 zK55 n
    induction n with
    | zero => intro x_1 x_3 M H locs ls hW hl h; exact h.elim
    | succ n zJ =>
      intro x_1 x_3 M H locs ls hW hl h
      have h : wpB_Bench_doAll_26 k x_2 K55 post (zlp2 (wpB_Bench_doAll_26 k x_2 K55 post) n) x_1 x_3 M := h
      unfold wpB_Bench_doAll_26 at h
      refine lv_iload_n hx hb dX0_doAll_26 rfl (lv_at hl 3 rfl) ?_
      refine lv_if_lt (tgt := 55) hx hb dX0_doAll_27 rfl (fun c => ?_) (fun c => ?_)
      · replace h := h.1 c
        exact zK55 x_1 M H locs ls hW (lv_sub hl [0, 1, 2] rfl) h
      · replace h := h.2 c
        refine lv_aload_n hx hb dX0_doAll_30 rfl (lv_at hl 0 rfl) ?_
        refine zg_Bench_left X hW h0 zu_177 dX0_doAll_31 ?_
        refine lv_iload_n hx hb dX0_doAll_34 rfl (lv_at hl 3 rfl) ?_
        obtain ⟨g, h⟩ := h
        refine ziald X hW h0.2.2.1 g dX0_doAll_35 ?_
        refine lv_if_ne (tgt := 49) hx hb dX0_doAll_36 rfl (fun c => ?_) (fun c => ?_)
        · replace h := h.1 c
          obtain ⟨zx2, ezx2⟩ : ∃ y : Int32, y = x_3 + (-1) := ⟨_, rfl⟩
          replace h := h zx2 ezx2
          refine lv_iinc (v := zx2) (lv' := [(3, .int zx2), (0, .ref (zad w k)), (1, .int x_1), (2, .int x_2)]) hx hb dX0_doAll_49 hl (k := 3) rfl (by rw [ezx2, zc_im1]) (Nat.le_of_ble_eq_true rfl) rfl (fun ls hl => ?_)
          refine lv_goto (tgt := 26) hx hb dX0_doAll_52 rfl ?_
          exact zJ x_1 zx2 M H locs ls hW (lv_sub hl [1, 2, 3, 0] rfl) h
        · replace h := h.2 c
          refine lv_aload_n hx hb dX0_doAll_39 rfl (lv_at hl 0 rfl) ?_
          refine lv_iload_n hx hb dX0_doAll_40 rfl (lv_at hl 3 rfl) ?_
          refine zcalli (zrunV (As := [.int x_3]) (rest := []) X hml hl hW h0.1 rfl zk_Bench_72 (c_Bench_act h0 h) rfl ⟨Nat.le_of_ble_eq_true rfl, Nat.le_of_ble_eq_true rfl⟩ ⟨Nat.le_refl 0, Nat.le_refl 0⟩ rfl (Nat.le_of_ble_eq_true rfl) dX0_doAll_41) hW (fun zr4 zm3 H locs h hW => ?_)
          refine lv_if_eq (tgt := 49) hx hb dX0_doAll_44 rfl (fun c => ?_) (fun c => ?_)
          · replace h := h.1 c
            obtain ⟨zx5, ezx5⟩ : ∃ y : Int32, y = x_3 + (-1) := ⟨_, rfl⟩
            replace h := h zx5 ezx5
            refine lv_iinc (v := zx5) (lv' := [(3, .int zx5), (0, .ref (zad w k)), (1, .int x_1), (2, .int x_2)]) hx hb dX0_doAll_49 hl (k := 3) rfl (by rw [ezx5, zc_im1]) (Nat.le_of_ble_eq_true rfl) rfl (fun ls hl => ?_)
            refine lv_goto (tgt := 26) hx hb dX0_doAll_52 rfl ?_
            exact zJ x_1 zx5 zm3 H locs ls hW (lv_sub hl [1, 2, 3, 0] rfl) h
          · replace h := h.2 c
            refine lv_iconst hx hb dX0_doAll_47 zc_i1 ?_
            refine lv_istore_n (lv' := [(1, .int 1), (0, .ref (zad w k)), (2, .int x_2), (3, .int x_3)]) hx hb dX0_doAll_48 rfl hl (Nat.le_of_ble_eq_true rfl) rfl (fun ls hl => ?_)
            obtain ⟨zx6, ezx6⟩ : ∃ y : Int32, y = x_3 + (-1) := ⟨_, rfl⟩
            replace h := h zx6 ezx6
            refine lv_iinc (v := zx6) (lv' := [(3, .int zx6), (1, .int 1), (0, .ref (zad w k)), (2, .int x_2)]) hx hb dX0_doAll_49 hl (k := 3) rfl (by rw [ezx6, zc_im1]) (Nat.le_of_ble_eq_true rfl) rfl (fun ls hl => ?_)
            refine lv_goto (tgt := 26) hx hb dX0_doAll_52 rfl ?_
            exact zJ 1 zx6 zm3 H locs ls hW (lv_sub hl [2, 1, 3, 0] rfl) h
  have zL_4 :  ∀ (n : Nat) (x_1 : Int32) (x_2 : Int32) (M : zMem) (H : Heap) (locs : List Loc) (ls : Array Slot), zWo w s.heap M H locs → lv_has ls 4 [(0, .ref (zad w k)), (1, .int x_1), (2, .int x_2)] → zlp2 (wpB_Bench_doAll_4 k   post) n x_1 x_2 M → W p l e (zRm 3 69) s m ([.ref (zad w k)] : List Value).toArray below meth c H locs 0 0 (MQ below (va_Qv post (zB w) (zA w)) ([.ref (zad w k)] : List Value).toArray s 0 0 (zA w)) (F0 m 4 ls []) := by
    intro n
    induction n with
    | zero => intro x_1 x_2 M H locs ls hW hl h; exact h.elim
    | succ n zJ =>
      intro x_1 x_2 M H locs ls hW hl h
      have h : wpB_Bench_doAll_4 k   post (zlp2 (wpB_Bench_doAll_4 k   post) n) x_1 x_2 M := h
      unfold wpB_Bench_doAll_4 at h
      refine lv_iload_n hx hb dX0_doAll_4 rfl (lv_at hl 2 rfl) ?_
      refine lv_ldc hx hb X.2.2.1 (X.2.2.2.1 _ zu_414) dX0_doAll_5 ?_
      refine lv_icmp_ge (tgt := 61) hx hb dX0_doAll_7 rfl (fun c => ?_) (fun c => ?_)
      · replace h := h.1 c
        exact zretv X hr hlk hW h dX0_doAll_61
      · replace h := h.2 c
        refine lv_iload_n hx hb dX0_doAll_10 rfl (lv_at hl 1 rfl) ?_
        refine lv_if_eq (tgt := 61) hx hb dX0_doAll_11 rfl (fun c => ?_) (fun c => ?_)
        · replace h := h.1 c
          exact zretv X hr hlk hW h dX0_doAll_61
        · replace h := h.2 c
          refine lv_iconst hx hb dX0_doAll_14 zc_i0 ?_
          refine lv_istore_n (lv' := [(1, .int 0), (0, .ref (zad w k)), (2, .int x_2)]) hx hb dX0_doAll_15 rfl hl (Nat.le_of_ble_eq_true rfl) rfl (fun ls hl => ?_)
          refine lv_aload_n hx hb dX0_doAll_16 rfl (lv_at hl 1 rfl) ?_
          refine zg_Bench_told X hW h0 zu_160 dX0_doAll_17 ?_
          refine zg_Told_hands X hW (h0.2.2.2.2.2.2.2.2.2.1 _) zu_40 dX0_doAll_20 ?_
          refine lv_iconst hx hb dX0_doAll_23 zc_i1 ?_
          refine lv_isub hx hb dX0_doAll_24 ?_
          refine lv_topi (fun zx1 ezx1 => ?_)
          replace h := h zx1 ezx1
          refine lv_istore_n (lv' := [(3, .int zx1), (1, .int 0), (0, .ref (zad w k)), (2, .int x_2)]) hx hb dX0_doAll_25 rfl hl (Nat.le_of_ble_eq_true rfl) rfl (fun ls hl => ?_)
          obtain ⟨n, h⟩ := h
          refine zL_26 x_2 _ (fun zx8 zm7 H locs ls hW hl h => ?_) n 0 zx1 M H locs ls hW (lv_sub hl [2, 1, 3, 0] rfl) h
          · skip
            obtain ⟨zx9, ezx9⟩ : ∃ y : Int32, y = x_2 + 1 := ⟨_, rfl⟩
            replace h := h zx9 ezx9
            refine lv_iinc (v := zx9) (lv' := [(2, .int zx9), (0, .ref (zad w k)), (1, .int zx8)]) hx hb dX0_doAll_55 hl (k := 2) rfl (by rw [ezx9, zc_i1]) (Nat.le_of_ble_eq_true rfl) rfl (fun ls hl => ?_)
            refine lv_goto (tgt := 4) hx hb dX0_doAll_58 rfl ?_
            exact zJ zx8 zx9 zm7 H locs ls hW (lv_sub hl [1, 2, 0] rfl) h
  unfold wp_Bench_doAll at h
  have zMain : ∀ (H : Heap) (locs : List Loc) (ls : Array Slot), zWo w s.heap M H locs → lv_has ls 4 [(0, .ref (zad w k))] → W p l e (zRm 3 69) s m ([.ref (zad w k)] : List Value).toArray below meth c H locs 0 0 (MQ below (va_Qv post (zB w) (zA w)) ([.ref (zad w k)] : List Value).toArray s 0 0 (zA w)) (F0 m 0 ls []) := by
    intro H locs ls hW hl
    refine lv_iconst hx hb dX0_doAll_0 zc_i1 ?_
    refine lv_istore_n (lv' := [(1, .int 1), (0, .ref (zad w k))]) hx hb dX0_doAll_1 rfl hl (Nat.le_of_ble_eq_true rfl) rfl (fun ls hl => ?_)
    refine lv_iconst hx hb dX0_doAll_2 zc_i0 ?_
    refine lv_istore_n (lv' := [(2, .int 0), (1, .int 1), (0, .ref (zad w k))]) hx hb dX0_doAll_3 rfl hl (Nat.le_of_ble_eq_true rfl) rfl (fun ls hl => ?_)
    obtain ⟨n, h⟩ := h
    refine zL_4   n 1 0 M H locs ls hW (lv_sub hl [2, 1, 0] rfl) h
  exact zMain s.heap [] ls hW hl
def wpB_Bench_leastLeft_4 (k : Nat)   (Q : Int32 → zMem → Prop) (J : Int32 → Int32 → zMem → Prop) (x_1 : Int32) (x_2 : Int32) (M : zMem) : Prop :=
  ((M (ztc (M k 0)) 1) ≤ x_2 → Q x_1 M) ∧ (¬ (M (ztc (M k 0)) 1) ≤ x_2 → vp_in x_2 5 ∧ ((M (k + 2) (ix x_2)) ≤ 0 → ∀ zx1 : Int32, zx1 = x_2 + 1 → J x_1 zx1 M) ∧ (¬ (M (k + 2) (ix x_2)) ≤ 0 → (x_1 = 0 → vp_in x_2 5 ∧ ∀ zx2 : Int32, zx2 = M (k + 2) (ix x_2) → ∀ zx3 : Int32, zx3 = x_2 + 1 → J zx2 zx3 M) ∧ (¬ x_1 = 0 → vp_in x_2 5 ∧ (x_1 ≤ (M (k + 2) (ix x_2)) → ∀ zx4 : Int32, zx4 = x_2 + 1 → J x_1 zx4 M) ∧ (¬ x_1 ≤ (M (k + 2) (ix x_2)) → vp_in x_2 5 ∧ ∀ zx5 : Int32, zx5 = M (k + 2) (ix x_2) → ∀ zx6 : Int32, zx6 = x_2 + 1 → J zx5 zx6 M))))
def wp_Bench_leastLeft (k : Nat) (M : zMem) (Q : Int32 → zMem → Prop) : Prop :=
  ∃ n : Nat, zlp2 (wpB_Bench_leastLeft_4 k   Q) n 0 0 M
set_option maxHeartbeats 4000000 in
set_option maxRecDepth 20000 in
theorem c_Bench_leastLeft {l : Launch} {w : zWd} {k : Nat} {M : zMem} {post : Int32 → zMem → Prop} (h0 : zI_Bench w k) (h : wp_Bench_leastLeft k M post) : zMi l ⟨"HandToHand$Bench", "leastLeft", "()I"⟩ prog_2_method_13_code 3 (Option.some .int) 0 0 w [.ref (zad w k)] M post := by
  refine zMet (by decide) (Nat.le_of_ble_eq_true rfl) ?_
  intro p e s m below meth c X hr hlk hml hW ls hl
  have hx := X.1
  have hb := X.2.1
  have hl : lv_has ls 3 [(0, .ref (zad w k))] := hl
  have zL_4 :  ∀ (n : Nat) (x_1 : Int32) (x_2 : Int32) (M : zMem) (H : Heap) (locs : List Loc) (ls : Array Slot), zWo w s.heap M H locs → lv_has ls 3 [(0, .ref (zad w k)), (1, .int x_1), (2, .int x_2)] → zlp2 (wpB_Bench_leastLeft_4 k   post) n x_1 x_2 M → W p l e (zRm 0 0) s m ([.ref (zad w k)] : List Value).toArray below meth c H locs 0 0 (MQ below (va_Qi post (zB w) (zA w)) ([.ref (zad w k)] : List Value).toArray s 0 0 (zA w)) (F0 m 4 ls []) := by
    intro n
    induction n with
    | zero => intro x_1 x_2 M H locs ls hW hl h; exact h.elim
    | succ n zJ =>
      intro x_1 x_2 M H locs ls hW hl h
      have h : wpB_Bench_leastLeft_4 k   post (zlp2 (wpB_Bench_leastLeft_4 k   post) n) x_1 x_2 M := h
      unfold wpB_Bench_leastLeft_4 at h
      refine lv_iload_n hx hb dX0_leastLeft_4 rfl (lv_at hl 2 rfl) ?_
      refine lv_aload_n hx hb dX0_leastLeft_5 rfl (lv_at hl 0 rfl) ?_
      refine zg_Bench_told X hW h0 zu_160 dX0_leastLeft_6 ?_
      refine zg_Told_hands X hW (h0.2.2.2.2.2.2.2.2.2.1 _) zu_40 dX0_leastLeft_9 ?_
      refine lv_icmp_ge (tgt := 51) hx hb dX0_leastLeft_12 rfl (fun c => ?_) (fun c => ?_)
      · replace h := h.1 c
        refine lv_iload_n hx hb dX0_leastLeft_51 rfl (lv_at hl 1 rfl) ?_
        exact zreti X hr hlk hW h dX0_leastLeft_52
      · replace h := h.2 c
        refine lv_aload_n hx hb dX0_leastLeft_15 rfl (lv_at hl 0 rfl) ?_
        refine zg_Bench_left X hW h0 zu_177 dX0_leastLeft_16 ?_
        refine lv_iload_n hx hb dX0_leastLeft_19 rfl (lv_at hl 2 rfl) ?_
        obtain ⟨g, h⟩ := h
        refine ziald X hW h0.2.2.1 g dX0_leastLeft_20 ?_
        refine lv_if_le (tgt := 45) hx hb dX0_leastLeft_21 rfl (fun c => ?_) (fun c => ?_)
        · replace h := h.1 c
          obtain ⟨zx1, ezx1⟩ : ∃ y : Int32, y = x_2 + 1 := ⟨_, rfl⟩
          replace h := h zx1 ezx1
          refine lv_iinc (v := zx1) (lv' := [(2, .int zx1), (0, .ref (zad w k)), (1, .int x_1)]) hx hb dX0_leastLeft_45 hl (k := 2) rfl (by rw [ezx1, zc_i1]) (Nat.le_of_ble_eq_true rfl) rfl (fun ls hl => ?_)
          refine lv_goto (tgt := 4) hx hb dX0_leastLeft_48 rfl ?_
          exact zJ x_1 zx1 M H locs ls hW (lv_sub hl [1, 2, 0] rfl) h
        · replace h := h.2 c
          refine lv_iload_n hx hb dX0_leastLeft_24 rfl (lv_at hl 1 rfl) ?_
          refine lv_if_eq (tgt := 38) hx hb dX0_leastLeft_25 rfl (fun c => ?_) (fun c => ?_)
          · replace h := h.1 c
            refine lv_aload_n hx hb dX0_leastLeft_38 rfl (lv_at hl 0 rfl) ?_
            refine zg_Bench_left X hW h0 zu_177 dX0_leastLeft_39 ?_
            refine lv_iload_n hx hb dX0_leastLeft_42 rfl (lv_at hl 2 rfl) ?_
            obtain ⟨g, h⟩ := h
            refine ziald X hW h0.2.2.1 g dX0_leastLeft_43 ?_
            refine lv_topi (fun zx2 ezx2 => ?_)
            replace h := h zx2 ezx2
            refine lv_istore_n (lv' := [(1, .int zx2), (0, .ref (zad w k)), (2, .int x_2)]) hx hb dX0_leastLeft_44 rfl hl (Nat.le_of_ble_eq_true rfl) rfl (fun ls hl => ?_)
            obtain ⟨zx3, ezx3⟩ : ∃ y : Int32, y = x_2 + 1 := ⟨_, rfl⟩
            replace h := h zx3 ezx3
            refine lv_iinc (v := zx3) (lv' := [(2, .int zx3), (1, .int zx2), (0, .ref (zad w k))]) hx hb dX0_leastLeft_45 hl (k := 2) rfl (by rw [ezx3, zc_i1]) (Nat.le_of_ble_eq_true rfl) rfl (fun ls hl => ?_)
            refine lv_goto (tgt := 4) hx hb dX0_leastLeft_48 rfl ?_
            exact zJ zx2 zx3 M H locs ls hW (lv_sub hl [2, 1, 0] rfl) h
          · replace h := h.2 c
            refine lv_aload_n hx hb dX0_leastLeft_28 rfl (lv_at hl 0 rfl) ?_
            refine zg_Bench_left X hW h0 zu_177 dX0_leastLeft_29 ?_
            refine lv_iload_n hx hb dX0_leastLeft_32 rfl (lv_at hl 2 rfl) ?_
            obtain ⟨g, h⟩ := h
            refine ziald X hW h0.2.2.1 g dX0_leastLeft_33 ?_
            refine lv_iload_n hx hb dX0_leastLeft_34 rfl (lv_at hl 1 rfl) ?_
            refine lv_icmp_ge (tgt := 45) hx hb dX0_leastLeft_35 rfl (fun c => ?_) (fun c => ?_)
            · replace h := h.1 c
              obtain ⟨zx4, ezx4⟩ : ∃ y : Int32, y = x_2 + 1 := ⟨_, rfl⟩
              replace h := h zx4 ezx4
              refine lv_iinc (v := zx4) (lv' := [(2, .int zx4), (0, .ref (zad w k)), (1, .int x_1)]) hx hb dX0_leastLeft_45 hl (k := 2) rfl (by rw [ezx4, zc_i1]) (Nat.le_of_ble_eq_true rfl) rfl (fun ls hl => ?_)
              refine lv_goto (tgt := 4) hx hb dX0_leastLeft_48 rfl ?_
              exact zJ x_1 zx4 M H locs ls hW (lv_sub hl [1, 2, 0] rfl) h
            · replace h := h.2 c
              refine lv_aload_n hx hb dX0_leastLeft_38 rfl (lv_at hl 0 rfl) ?_
              refine zg_Bench_left X hW h0 zu_177 dX0_leastLeft_39 ?_
              refine lv_iload_n hx hb dX0_leastLeft_42 rfl (lv_at hl 2 rfl) ?_
              obtain ⟨g, h⟩ := h
              refine ziald X hW h0.2.2.1 g dX0_leastLeft_43 ?_
              refine lv_topi (fun zx5 ezx5 => ?_)
              replace h := h zx5 ezx5
              refine lv_istore_n (lv' := [(1, .int zx5), (0, .ref (zad w k)), (2, .int x_2)]) hx hb dX0_leastLeft_44 rfl hl (Nat.le_of_ble_eq_true rfl) rfl (fun ls hl => ?_)
              obtain ⟨zx6, ezx6⟩ : ∃ y : Int32, y = x_2 + 1 := ⟨_, rfl⟩
              replace h := h zx6 ezx6
              refine lv_iinc (v := zx6) (lv' := [(2, .int zx6), (1, .int zx5), (0, .ref (zad w k))]) hx hb dX0_leastLeft_45 hl (k := 2) rfl (by rw [ezx6, zc_i1]) (Nat.le_of_ble_eq_true rfl) rfl (fun ls hl => ?_)
              refine lv_goto (tgt := 4) hx hb dX0_leastLeft_48 rfl ?_
              exact zJ zx5 zx6 M H locs ls hW (lv_sub hl [2, 1, 0] rfl) h
  unfold wp_Bench_leastLeft at h
  have zMain : ∀ (H : Heap) (locs : List Loc) (ls : Array Slot), zWo w s.heap M H locs → lv_has ls 3 [(0, .ref (zad w k))] → W p l e (zRm 0 0) s m ([.ref (zad w k)] : List Value).toArray below meth c H locs 0 0 (MQ below (va_Qi post (zB w) (zA w)) ([.ref (zad w k)] : List Value).toArray s 0 0 (zA w)) (F0 m 0 ls []) := by
    intro H locs ls hW hl
    refine lv_iconst hx hb dX0_leastLeft_0 zc_i0 ?_
    refine lv_istore_n (lv' := [(1, .int 0), (0, .ref (zad w k))]) hx hb dX0_leastLeft_1 rfl hl (Nat.le_of_ble_eq_true rfl) rfl (fun ls hl => ?_)
    refine lv_iconst hx hb dX0_leastLeft_2 zc_i0 ?_
    refine lv_istore_n (lv' := [(2, .int 0), (1, .int 0), (0, .ref (zad w k))]) hx hb dX0_leastLeft_3 rfl hl (Nat.le_of_ble_eq_true rfl) rfl (fun ls hl => ?_)
    obtain ⟨n, h⟩ := h
    refine zL_4   n 0 0 M H locs ls hW (lv_sub hl [2, 1, 0] rfl) h
  exact zMain s.heap [] ls hW hl
def wpB_Bench_letPass_12 (k : Nat) (a1 : Int32)   (Q : zMem → Prop) (J : Int32 → zMem → Prop) (x_2 : Int32) (M : zMem) : Prop :=
  ((M (ztc (M k 0)) 1) ≤ x_2 → Q M) ∧ (¬ (M (ztc (M k 0)) 1) ≤ x_2 → vp_in x_2 5 ∧ ((M (k + 2) (ix x_2)) ≤ 0 → vp_in x_2 5 ∧ vp_in x_2 5 ∧ ∀ zm2 : zMem, zm2 = zup M (k + 6) (ix x_2) ((M (k + 6) (ix x_2)) + a1) → vp_in x_2 5 ∧ (¬ (zm2 (k + 1) (ix x_2)) = 2 → ∀ zx3 : Int32, zx3 = x_2 + 1 → J zx3 zm2) ∧ ((zm2 (k + 1) (ix x_2)) = 2 → vp_in x_2 5 ∧ vp_in (zm2 (k + 3) (ix x_2)) 8 ∧ vp_in (zm2 (k + 3) (ix x_2)) 8 ∧ ∀ zm4 : zMem, zm4 = zup zm2 (k + 8) (ix (zm2 (k + 3) (ix x_2))) ((zm2 (k + 8) (ix (zm2 (k + 3) (ix x_2)))) + a1) → ∀ zx5 : Int32, zx5 = x_2 + 1 → J zx5 zm4)) ∧ (¬ (M (k + 2) (ix x_2)) ≤ 0 → vp_in x_2 5 ∧ vp_in x_2 5 ∧ ∀ zm6 : zMem, zm6 = zup M (k + 2) (ix x_2) ((M (k + 2) (ix x_2)) - a1) → vp_in x_2 5 ∧ (¬ (zm6 (k + 2) (ix x_2)) = 0 → ∀ zx7 : Int32, zx7 = x_2 + 1 → J zx7 zm6) ∧ ((zm6 (k + 2) (ix x_2)) = 0 → vp_in x_2 5 ∧ (¬ (zm6 (k + 1) (ix x_2)) = 1 → ∀ zx8 : Int32, zx8 = x_2 + 1 → J zx8 zm6) ∧ ((zm6 (k + 1) (ix x_2)) = 1 → vp_in x_2 5 ∧ ∀ zm9 : zMem, zm9 = zup zm6 (k + 1) (ix x_2) 0 → ∀ zx10 : Int32, zx10 = x_2 + 1 → J zx10 zm9))))
def wp_Bench_letPass (k : Nat) (a1 : Int32) (M : zMem) (Q : zMem → Prop) : Prop :=
  ∀ zm1 : zMem, zm1 = zup M k 2 ((M k 2) + a1) → ∃ n : Nat, zlp1 (wpB_Bench_letPass_12 k a1   Q) n 0 zm1
set_option maxHeartbeats 4000000 in
set_option maxRecDepth 20000 in
theorem c_Bench_letPass {l : Launch} {w : zWd} {k : Nat} {a1 : Int32} {M : zMem} {post : zMem → Prop} (h0 : zI_Bench w k) (h : wp_Bench_letPass k a1 M post) : zMv l ⟨"HandToHand$Bench", "letPass", "(I)V"⟩ prog_2_method_14_code 3 none 0 0 w [.ref (zad w k), .int a1] M post := by
  refine zMet (by decide) (Nat.le_of_ble_eq_true rfl) ?_
  intro p e s m below meth c X hr hlk hml hW ls hl
  have hx := X.1
  have hb := X.2.1
  have hl : lv_has ls 3 [(0, .ref (zad w k)), (1, .int a1)] := hl
  have zL_12 :  ∀ (n : Nat) (x_2 : Int32) (M : zMem) (H : Heap) (locs : List Loc) (ls : Array Slot), zWo w s.heap M H locs → lv_has ls 3 [(0, .ref (zad w k)), (1, .int a1), (2, .int x_2)] → zlp1 (wpB_Bench_letPass_12 k a1   post) n x_2 M → W p l e (zRm 0 0) s m ([.ref (zad w k), .int a1] : List Value).toArray below meth c H locs 0 0 (MQ below (va_Qv post (zB w) (zA w)) ([.ref (zad w k), .int a1] : List Value).toArray s 0 0 (zA w)) (F0 m 12 ls []) := by
    intro n
    induction n with
    | zero => intro x_2 M H locs ls hW hl h; exact h.elim
    | succ n zJ =>
      intro x_2 M H locs ls hW hl h
      have h : wpB_Bench_letPass_12 k a1   post (zlp1 (wpB_Bench_letPass_12 k a1   post) n) x_2 M := h
      unfold wpB_Bench_letPass_12 at h
      refine lv_iload_n hx hb dX0_letPass_12 rfl (lv_at hl 2 rfl) ?_
      refine lv_aload_n hx hb dX0_letPass_13 rfl (lv_at hl 0 rfl) ?_
      refine zg_Bench_told X hW h0 zu_160 dX0_letPass_14 ?_
      refine zg_Told_hands X hW (h0.2.2.2.2.2.2.2.2.2.1 _) zu_40 dX0_letPass_17 ?_
      refine lv_icmp_ge (tgt := 112) hx hb dX0_letPass_20 rfl (fun c => ?_) (fun c => ?_)
      · replace h := h.1 c
        exact zretv X hr hlk hW h dX0_letPass_112
      · replace h := h.2 c
        refine lv_aload_n hx hb dX0_letPass_23 rfl (lv_at hl 0 rfl) ?_
        refine zg_Bench_left X hW h0 zu_177 dX0_letPass_24 ?_
        refine lv_iload_n hx hb dX0_letPass_27 rfl (lv_at hl 2 rfl) ?_
        obtain ⟨g, h⟩ := h
        refine ziald X hW h0.2.2.1 g dX0_letPass_28 ?_
        refine lv_if_le (tgt := 71) hx hb dX0_letPass_29 rfl (fun c => ?_) (fun c => ?_)
        · replace h := h.1 c
          refine lv_aload_n hx hb dX0_letPass_71 rfl (lv_at hl 0 rfl) ?_
          refine zg_Bench_waited X hW h0 zu_185 dX0_letPass_72 ?_
          refine lv_iload_n hx hb dX0_letPass_75 rfl (lv_at hl 2 rfl) ?_
          refine lv_dup2_11 hx hb dX0_letPass_76 rfl rfl ?_
          obtain ⟨g, h⟩ := h
          refine ziald X hW h0.2.2.2.2.2.2.1 g dX0_letPass_77 ?_
          refine lv_iload_n hx hb dX0_letPass_78 rfl (lv_at hl 1 rfl) ?_
          refine lv_iadd hx hb dX0_letPass_79 ?_
          obtain ⟨g, h⟩ := h
          refine ziast X hW h0.2.2.2.2.2.2.1 g dX0_letPass_80 (fun H locs zm2 ezm2 hW => ?_)
          replace h := h zm2 ezm2
          refine lv_aload_n hx hb dX0_letPass_81 rfl (lv_at hl 0 rfl) ?_
          refine zg_Bench_doing X hW h0 zu_175 dX0_letPass_82 ?_
          refine lv_iload_n hx hb dX0_letPass_85 rfl (lv_at hl 2 rfl) ?_
          obtain ⟨g, h⟩ := h
          refine ziald X hW h0.2.1 g dX0_letPass_86 ?_
          refine lv_iconst hx hb dX0_letPass_87 zc_i2 ?_
          refine lv_icmp_ne (tgt := 106) hx hb dX0_letPass_88 rfl (fun c => ?_) (fun c => ?_)
          · replace h := h.1 c
            obtain ⟨zx3, ezx3⟩ : ∃ y : Int32, y = x_2 + 1 := ⟨_, rfl⟩
            replace h := h zx3 ezx3
            refine lv_iinc (v := zx3) (lv' := [(2, .int zx3), (0, .ref (zad w k)), (1, .int a1)]) hx hb dX0_letPass_106 hl (k := 2) rfl (by rw [ezx3, zc_i1]) (Nat.le_of_ble_eq_true rfl) rfl (fun ls hl => ?_)
            refine lv_goto (tgt := 12) hx hb dX0_letPass_109 rfl ?_
            exact zJ zx3 zm2 H locs ls hW (lv_sub hl [1, 2, 0] rfl) h
          · replace h := h.2 c
            refine lv_aload_n hx hb dX0_letPass_91 rfl (lv_at hl 0 rfl) ?_
            refine zg_Bench_stood X hW h0 zu_190 dX0_letPass_92 ?_
            refine lv_aload_n hx hb dX0_letPass_95 rfl (lv_at hl 0 rfl) ?_
            refine zg_Bench_piece X hW h0 zu_179 dX0_letPass_96 ?_
            refine lv_iload_n hx hb dX0_letPass_99 rfl (lv_at hl 2 rfl) ?_
            obtain ⟨g, h⟩ := h
            refine ziald X hW h0.2.2.2.1 g dX0_letPass_100 ?_
            refine lv_dup2_11 hx hb dX0_letPass_101 rfl rfl ?_
            obtain ⟨g, h⟩ := h
            refine ziald X hW h0.2.2.2.2.2.2.2.2.1 g dX0_letPass_102 ?_
            refine lv_iload_n hx hb dX0_letPass_103 rfl (lv_at hl 1 rfl) ?_
            refine lv_iadd hx hb dX0_letPass_104 ?_
            obtain ⟨g, h⟩ := h
            refine ziast X hW h0.2.2.2.2.2.2.2.2.1 g dX0_letPass_105 (fun H locs zm4 ezm4 hW => ?_)
            replace h := h zm4 ezm4
            obtain ⟨zx5, ezx5⟩ : ∃ y : Int32, y = x_2 + 1 := ⟨_, rfl⟩
            replace h := h zx5 ezx5
            refine lv_iinc (v := zx5) (lv' := [(2, .int zx5), (0, .ref (zad w k)), (1, .int a1)]) hx hb dX0_letPass_106 hl (k := 2) rfl (by rw [ezx5, zc_i1]) (Nat.le_of_ble_eq_true rfl) rfl (fun ls hl => ?_)
            refine lv_goto (tgt := 12) hx hb dX0_letPass_109 rfl ?_
            exact zJ zx5 zm4 H locs ls hW (lv_sub hl [1, 2, 0] rfl) h
        · replace h := h.2 c
          refine lv_aload_n hx hb dX0_letPass_32 rfl (lv_at hl 0 rfl) ?_
          refine zg_Bench_left X hW h0 zu_177 dX0_letPass_33 ?_
          refine lv_iload_n hx hb dX0_letPass_36 rfl (lv_at hl 2 rfl) ?_
          refine lv_dup2_11 hx hb dX0_letPass_37 rfl rfl ?_
          obtain ⟨g, h⟩ := h
          refine ziald X hW h0.2.2.1 g dX0_letPass_38 ?_
          refine lv_iload_n hx hb dX0_letPass_39 rfl (lv_at hl 1 rfl) ?_
          refine lv_isub hx hb dX0_letPass_40 ?_
          obtain ⟨g, h⟩ := h
          refine ziast X hW h0.2.2.1 g dX0_letPass_41 (fun H locs zm6 ezm6 hW => ?_)
          replace h := h zm6 ezm6
          refine lv_aload_n hx hb dX0_letPass_42 rfl (lv_at hl 0 rfl) ?_
          refine zg_Bench_left X hW h0 zu_177 dX0_letPass_43 ?_
          refine lv_iload_n hx hb dX0_letPass_46 rfl (lv_at hl 2 rfl) ?_
          obtain ⟨g, h⟩ := h
          refine ziald X hW h0.2.2.1 g dX0_letPass_47 ?_
          refine lv_if_ne (tgt := 106) hx hb dX0_letPass_48 rfl (fun c => ?_) (fun c => ?_)
          · replace h := h.1 c
            obtain ⟨zx7, ezx7⟩ : ∃ y : Int32, y = x_2 + 1 := ⟨_, rfl⟩
            replace h := h zx7 ezx7
            refine lv_iinc (v := zx7) (lv' := [(2, .int zx7), (0, .ref (zad w k)), (1, .int a1)]) hx hb dX0_letPass_106 hl (k := 2) rfl (by rw [ezx7, zc_i1]) (Nat.le_of_ble_eq_true rfl) rfl (fun ls hl => ?_)
            refine lv_goto (tgt := 12) hx hb dX0_letPass_109 rfl ?_
            exact zJ zx7 zm6 H locs ls hW (lv_sub hl [1, 2, 0] rfl) h
          · replace h := h.2 c
            refine lv_aload_n hx hb dX0_letPass_51 rfl (lv_at hl 0 rfl) ?_
            refine zg_Bench_doing X hW h0 zu_175 dX0_letPass_52 ?_
            refine lv_iload_n hx hb dX0_letPass_55 rfl (lv_at hl 2 rfl) ?_
            obtain ⟨g, h⟩ := h
            refine ziald X hW h0.2.1 g dX0_letPass_56 ?_
            refine lv_iconst hx hb dX0_letPass_57 zc_i1 ?_
            refine lv_icmp_ne (tgt := 106) hx hb dX0_letPass_58 rfl (fun c => ?_) (fun c => ?_)
            · replace h := h.1 c
              obtain ⟨zx8, ezx8⟩ : ∃ y : Int32, y = x_2 + 1 := ⟨_, rfl⟩
              replace h := h zx8 ezx8
              refine lv_iinc (v := zx8) (lv' := [(2, .int zx8), (0, .ref (zad w k)), (1, .int a1)]) hx hb dX0_letPass_106 hl (k := 2) rfl (by rw [ezx8, zc_i1]) (Nat.le_of_ble_eq_true rfl) rfl (fun ls hl => ?_)
              refine lv_goto (tgt := 12) hx hb dX0_letPass_109 rfl ?_
              exact zJ zx8 zm6 H locs ls hW (lv_sub hl [1, 2, 0] rfl) h
            · replace h := h.2 c
              refine lv_aload_n hx hb dX0_letPass_61 rfl (lv_at hl 0 rfl) ?_
              refine zg_Bench_doing X hW h0 zu_175 dX0_letPass_62 ?_
              refine lv_iload_n hx hb dX0_letPass_65 rfl (lv_at hl 2 rfl) ?_
              refine lv_iconst hx hb dX0_letPass_66 zc_i0 ?_
              obtain ⟨g, h⟩ := h
              refine ziast X hW h0.2.1 g dX0_letPass_67 (fun H locs zm9 ezm9 hW => ?_)
              replace h := h zm9 ezm9
              refine lv_goto (tgt := 106) hx hb dX0_letPass_68 rfl ?_
              obtain ⟨zx10, ezx10⟩ : ∃ y : Int32, y = x_2 + 1 := ⟨_, rfl⟩
              replace h := h zx10 ezx10
              refine lv_iinc (v := zx10) (lv' := [(2, .int zx10), (0, .ref (zad w k)), (1, .int a1)]) hx hb dX0_letPass_106 hl (k := 2) rfl (by rw [ezx10, zc_i1]) (Nat.le_of_ble_eq_true rfl) rfl (fun ls hl => ?_)
              refine lv_goto (tgt := 12) hx hb dX0_letPass_109 rfl ?_
              exact zJ zx10 zm9 H locs ls hW (lv_sub hl [1, 2, 0] rfl) h
  unfold wp_Bench_letPass at h
  have zMain : ∀ (H : Heap) (locs : List Loc) (ls : Array Slot), zWo w s.heap M H locs → lv_has ls 3 [(0, .ref (zad w k)), (1, .int a1)] → W p l e (zRm 0 0) s m ([.ref (zad w k), .int a1] : List Value).toArray below meth c H locs 0 0 (MQ below (va_Qv post (zB w) (zA w)) ([.ref (zad w k), .int a1] : List Value).toArray s 0 0 (zA w)) (F0 m 0 ls []) := by
    intro H locs ls hW hl
    refine lv_aload_n hx hb dX0_letPass_0 rfl (lv_at hl 0 rfl) ?_
    refine lv_dup hx hb dX0_letPass_1 rfl ?_
    refine zg_Bench_tick X hW h0 zu_163 dX0_letPass_2 ?_
    refine lv_iload_n hx hb dX0_letPass_5 rfl (lv_at hl 1 rfl) ?_
    refine lv_iadd hx hb dX0_letPass_6 ?_
    refine zp_Bench_tick X hW h0 zu_163 dX0_letPass_7 (fun H locs zm1 ezm1 hW => ?_)
    replace h := h zm1 ezm1
    refine lv_iconst hx hb dX0_letPass_10 zc_i0 ?_
    refine lv_istore_n (lv' := [(2, .int 0), (0, .ref (zad w k)), (1, .int a1)]) hx hb dX0_letPass_11 rfl hl (Nat.le_of_ble_eq_true rfl) rfl (fun ls hl => ?_)
    obtain ⟨n, h⟩ := h
    refine zL_12   n 0 zm1 H locs ls hW (lv_sub hl [1, 2, 0] rfl) h
  exact zMain s.heap [] ls hW hl
def wpJ_Bench_inOneNumber_41 (k : Nat) (a1 : Int32)  (Q : Int32 → zMem → Prop)  (s_0 : Int32) (M : zMem) : Prop :=
  vp_in a1 5 ∧ vp_in a1 5 ∧ Q ((((s_0 * 100) + (M (k + 2) (ix a1))) * 10) + (M (k + 1) (ix a1))) M
def wp_Bench_inOneNumber (k : Nat) (a1 : Int32) (M : zMem) (Q : Int32 → zMem → Prop) : Prop :=
  vp_in a1 5 ∧ (0 ≤ (M (k + 3) (ix a1)) → vp_in a1 5 ∧ vp_in a1 5 ∧ vp_in a1 5 ∧ wpJ_Bench_inOneNumber_41 k a1 Q (((((M (k + 3) (ix a1)) + 1) * 100) + ((M (k + 4) (ix a1)) * 10)) + (M (k + 5) (ix a1))) M) ∧ (¬ 0 ≤ (M (k + 3) (ix a1)) → wpJ_Bench_inOneNumber_41 k a1 Q 0 M)
set_option maxHeartbeats 4000000 in
set_option maxRecDepth 20000 in
theorem c_Bench_inOneNumber {l : Launch} {w : zWd} {k : Nat} {a1 : Int32} {M : zMem} {post : Int32 → zMem → Prop} (h0 : zI_Bench w k) (h : wp_Bench_inOneNumber k a1 M post) : zMi l ⟨"HandToHand$Bench", "inOneNumber", "(I)I"⟩ prog_2_method_15_code 3 (Option.some .int) 0 0 w [.ref (zad w k), .int a1] M post := by
  refine zMet (by decide) (Nat.le_of_ble_eq_true rfl) ?_
  intro p e s m below meth c X hr hlk hml hW ls hl
  have hx := X.1
  have hb := X.2.1
  have hl : lv_has ls 3 [(0, .ref (zad w k)), (1, .int a1)] := hl
  have zJ_41 : ∀ (s_0 : Int32) (M : zMem) (H : Heap) (locs : List Loc) (ls : Array Slot), zWo w s.heap M H locs → lv_has ls 3 [(0, .ref (zad w k)), (1, .int a1)] → wpJ_Bench_inOneNumber_41 k a1 post s_0 M → W p l e (zRm 0 0) s m ([.ref (zad w k), .int a1] : List Value).toArray below meth c H locs 0 0 (MQ below (va_Qi post (zB w) (zA w)) ([.ref (zad w k), .int a1] : List Value).toArray s 0 0 (zA w)) (F0 m 41 ls [.int s_0]) := by
    intro s_0 M H locs ls hW hl h
    unfold wpJ_Bench_inOneNumber_41 at h
    refine lv_istore_n (lv' := [(2, .int s_0), (0, .ref (zad w k)), (1, .int a1)]) hx hb dX0_inOneNumber_41 rfl hl (Nat.le_of_ble_eq_true rfl) rfl (fun ls hl => ?_)
    refine lv_iload_n hx hb dX0_inOneNumber_42 rfl (lv_at hl 0 rfl) ?_
    refine lv_bipush hx hb dX0_inOneNumber_43 zc_b100 ?_
    refine lv_imul hx hb dX0_inOneNumber_45 ?_
    refine lv_aload_n hx hb dX0_inOneNumber_46 rfl (lv_at hl 1 rfl) ?_
    refine zg_Bench_left X hW h0 zu_177 dX0_inOneNumber_47 ?_
    refine lv_iload_n hx hb dX0_inOneNumber_50 rfl (lv_at hl 2 rfl) ?_
    obtain ⟨g, h⟩ := h
    refine ziald X hW h0.2.2.1 g dX0_inOneNumber_51 ?_
    refine lv_iadd hx hb dX0_inOneNumber_52 ?_
    refine lv_bipush hx hb dX0_inOneNumber_53 zc_b10 ?_
    refine lv_imul hx hb dX0_inOneNumber_55 ?_
    refine lv_aload_n hx hb dX0_inOneNumber_56 rfl (lv_at hl 1 rfl) ?_
    refine zg_Bench_doing X hW h0 zu_175 dX0_inOneNumber_57 ?_
    refine lv_iload_n hx hb dX0_inOneNumber_60 rfl (lv_at hl 2 rfl) ?_
    obtain ⟨g, h⟩ := h
    refine ziald X hW h0.2.1 g dX0_inOneNumber_61 ?_
    refine lv_iadd hx hb dX0_inOneNumber_62 ?_
    exact zreti X hr hlk hW h dX0_inOneNumber_63
  unfold wp_Bench_inOneNumber at h
  have zMain : ∀ (H : Heap) (locs : List Loc) (ls : Array Slot), zWo w s.heap M H locs → lv_has ls 3 [(0, .ref (zad w k)), (1, .int a1)] → W p l e (zRm 0 0) s m ([.ref (zad w k), .int a1] : List Value).toArray below meth c H locs 0 0 (MQ below (va_Qi post (zB w) (zA w)) ([.ref (zad w k), .int a1] : List Value).toArray s 0 0 (zA w)) (F0 m 0 ls []) := by
    intro H locs ls hW hl
    refine lv_aload_n hx hb dX0_inOneNumber_0 rfl (lv_at hl 0 rfl) ?_
    refine zg_Bench_piece X hW h0 zu_179 dX0_inOneNumber_1 ?_
    refine lv_iload_n hx hb dX0_inOneNumber_4 rfl (lv_at hl 1 rfl) ?_
    obtain ⟨g, h⟩ := h
    refine ziald X hW h0.2.2.2.1 g dX0_inOneNumber_5 ?_
    refine lv_if_ge (tgt := 13) hx hb dX0_inOneNumber_6 rfl (fun c => ?_) (fun c => ?_)
    · replace h := h.1 c
      refine lv_aload_n hx hb dX0_inOneNumber_13 rfl (lv_at hl 0 rfl) ?_
      refine zg_Bench_piece X hW h0 zu_179 dX0_inOneNumber_14 ?_
      refine lv_iload_n hx hb dX0_inOneNumber_17 rfl (lv_at hl 1 rfl) ?_
      obtain ⟨g, h⟩ := h
      refine ziald X hW h0.2.2.2.1 g dX0_inOneNumber_18 ?_
      refine lv_iconst hx hb dX0_inOneNumber_19 zc_i1 ?_
      refine lv_iadd hx hb dX0_inOneNumber_20 ?_
      refine lv_bipush hx hb dX0_inOneNumber_21 zc_b100 ?_
      refine lv_imul hx hb dX0_inOneNumber_23 ?_
      refine lv_aload_n hx hb dX0_inOneNumber_24 rfl (lv_at hl 0 rfl) ?_
      refine zg_Bench_unit X hW h0 zu_181 dX0_inOneNumber_25 ?_
      refine lv_iload_n hx hb dX0_inOneNumber_28 rfl (lv_at hl 1 rfl) ?_
      obtain ⟨g, h⟩ := h
      refine ziald X hW h0.2.2.2.2.1 g dX0_inOneNumber_29 ?_
      refine lv_bipush hx hb dX0_inOneNumber_30 zc_b10 ?_
      refine lv_imul hx hb dX0_inOneNumber_32 ?_
      refine lv_iadd hx hb dX0_inOneNumber_33 ?_
      refine lv_aload_n hx hb dX0_inOneNumber_34 rfl (lv_at hl 0 rfl) ?_
      refine zg_Bench_sort X hW h0 zu_183 dX0_inOneNumber_35 ?_
      refine lv_iload_n hx hb dX0_inOneNumber_38 rfl (lv_at hl 1 rfl) ?_
      obtain ⟨g, h⟩ := h
      refine ziald X hW h0.2.2.2.2.2.1 g dX0_inOneNumber_39 ?_
      refine lv_iadd hx hb dX0_inOneNumber_40 ?_
      exact zJ_41 (((((M (k + 3) (ix a1)) + 1) * 100) + ((M (k + 4) (ix a1)) * 10)) + (M (k + 5) (ix a1))) M H locs ls hW (lv_sub hl [0, 1] rfl) h
    · replace h := h.2 c
      refine lv_iconst hx hb dX0_inOneNumber_9 zc_i0 ?_
      refine lv_goto (tgt := 41) hx hb dX0_inOneNumber_10 rfl ?_
      exact zJ_41 0 M H locs ls hW (lv_sub hl [0, 1] rfl) h
  exact zMain s.heap [] ls hW hl
def wpB_Bench_coatsInHand_4 (k : Nat)   (Q : Int32 → zMem → Prop) (J : Int32 → Int32 → zMem → Prop) (x_1 : Int32) (x_2 : Int32) (M : zMem) : Prop :=
  ((M (ztc (M k 0)) 1) ≤ x_2 → Q x_1 M) ∧ (¬ (M (ztc (M k 0)) 1) ≤ x_2 → vp_in x_2 5 ∧ ((M (k + 3) (ix x_2)) < 0 → ∀ zx1 : Int32, zx1 = x_1 + 0 → ∀ zx2 : Int32, zx2 = x_2 + 1 → J zx1 zx2 M) ∧ (¬ (M (k + 3) (ix x_2)) < 0 → ∀ zx3 : Int32, zx3 = x_1 + 1 → ∀ zx4 : Int32, zx4 = x_2 + 1 → J zx3 zx4 M))
def wp_Bench_coatsInHand (k : Nat) (M : zMem) (Q : Int32 → zMem → Prop) : Prop :=
  ∃ n : Nat, zlp2 (wpB_Bench_coatsInHand_4 k   Q) n 0 0 M
set_option maxHeartbeats 4000000 in
set_option maxRecDepth 20000 in
theorem c_Bench_coatsInHand {l : Launch} {w : zWd} {k : Nat} {M : zMem} {post : Int32 → zMem → Prop} (h0 : zI_Bench w k) (h : wp_Bench_coatsInHand k M post) : zMi l ⟨"HandToHand$Bench", "coatsInHand", "()I"⟩ prog_2_method_16_code 3 (Option.some .int) 0 0 w [.ref (zad w k)] M post := by
  refine zMet (by decide) (Nat.le_of_ble_eq_true rfl) ?_
  intro p e s m below meth c X hr hlk hml hW ls hl
  have hx := X.1
  have hb := X.2.1
  have hl : lv_has ls 3 [(0, .ref (zad w k))] := hl
  have zL_4 :  ∀ (n : Nat) (x_1 : Int32) (x_2 : Int32) (M : zMem) (H : Heap) (locs : List Loc) (ls : Array Slot), zWo w s.heap M H locs → lv_has ls 3 [(0, .ref (zad w k)), (1, .int x_1), (2, .int x_2)] → zlp2 (wpB_Bench_coatsInHand_4 k   post) n x_1 x_2 M → W p l e (zRm 0 0) s m ([.ref (zad w k)] : List Value).toArray below meth c H locs 0 0 (MQ below (va_Qi post (zB w) (zA w)) ([.ref (zad w k)] : List Value).toArray s 0 0 (zA w)) (F0 m 4 ls []) := by
    intro n
    induction n with
    | zero => intro x_1 x_2 M H locs ls hW hl h; exact h.elim
    | succ n zJ =>
      intro x_1 x_2 M H locs ls hW hl h
      have h : wpB_Bench_coatsInHand_4 k   post (zlp2 (wpB_Bench_coatsInHand_4 k   post) n) x_1 x_2 M := h
      unfold wpB_Bench_coatsInHand_4 at h
      refine lv_iload_n hx hb dX0_coatsInHand_4 rfl (lv_at hl 2 rfl) ?_
      refine lv_aload_n hx hb dX0_coatsInHand_5 rfl (lv_at hl 0 rfl) ?_
      refine zg_Bench_told X hW h0 zu_160 dX0_coatsInHand_6 ?_
      refine zg_Told_hands X hW (h0.2.2.2.2.2.2.2.2.2.1 _) zu_40 dX0_coatsInHand_9 ?_
      refine lv_icmp_ge (tgt := 38) hx hb dX0_coatsInHand_12 rfl (fun c => ?_) (fun c => ?_)
      · replace h := h.1 c
        refine lv_iload_n hx hb dX0_coatsInHand_38 rfl (lv_at hl 1 rfl) ?_
        exact zreti X hr hlk hW h dX0_coatsInHand_39
      · replace h := h.2 c
        refine lv_iload_n hx hb dX0_coatsInHand_15 rfl (lv_at hl 1 rfl) ?_
        refine lv_aload_n hx hb dX0_coatsInHand_16 rfl (lv_at hl 0 rfl) ?_
        refine zg_Bench_piece X hW h0 zu_179 dX0_coatsInHand_17 ?_
        refine lv_iload_n hx hb dX0_coatsInHand_20 rfl (lv_at hl 2 rfl) ?_
        obtain ⟨g, h⟩ := h
        refine ziald X hW h0.2.2.2.1 g dX0_coatsInHand_21 ?_
        refine lv_if_lt (tgt := 29) hx hb dX0_coatsInHand_22 rfl (fun c => ?_) (fun c => ?_)
        · replace h := h.1 c
          refine lv_iconst hx hb dX0_coatsInHand_29 zc_i0 ?_
          refine lv_iadd hx hb dX0_coatsInHand_30 ?_
          refine lv_topi (fun zx1 ezx1 => ?_)
          replace h := h zx1 ezx1
          refine lv_istore_n (lv' := [(1, .int zx1), (0, .ref (zad w k)), (2, .int x_2)]) hx hb dX0_coatsInHand_31 rfl hl (Nat.le_of_ble_eq_true rfl) rfl (fun ls hl => ?_)
          obtain ⟨zx2, ezx2⟩ : ∃ y : Int32, y = x_2 + 1 := ⟨_, rfl⟩
          replace h := h zx2 ezx2
          refine lv_iinc (v := zx2) (lv' := [(2, .int zx2), (1, .int zx1), (0, .ref (zad w k))]) hx hb dX0_coatsInHand_32 hl (k := 2) rfl (by rw [ezx2, zc_i1]) (Nat.le_of_ble_eq_true rfl) rfl (fun ls hl => ?_)
          refine lv_goto (tgt := 4) hx hb dX0_coatsInHand_35 rfl ?_
          exact zJ zx1 zx2 M H locs ls hW (lv_sub hl [2, 1, 0] rfl) h
        · replace h := h.2 c
          refine lv_iconst hx hb dX0_coatsInHand_25 zc_i1 ?_
          refine lv_goto (tgt := 30) hx hb dX0_coatsInHand_26 rfl ?_
          refine lv_iadd hx hb dX0_coatsInHand_30 ?_
          refine lv_topi (fun zx3 ezx3 => ?_)
          replace h := h zx3 ezx3
          refine lv_istore_n (lv' := [(1, .int zx3), (0, .ref (zad w k)), (2, .int x_2)]) hx hb dX0_coatsInHand_31 rfl hl (Nat.le_of_ble_eq_true rfl) rfl (fun ls hl => ?_)
          obtain ⟨zx4, ezx4⟩ : ∃ y : Int32, y = x_2 + 1 := ⟨_, rfl⟩
          replace h := h zx4 ezx4
          refine lv_iinc (v := zx4) (lv' := [(2, .int zx4), (1, .int zx3), (0, .ref (zad w k))]) hx hb dX0_coatsInHand_32 hl (k := 2) rfl (by rw [ezx4, zc_i1]) (Nat.le_of_ble_eq_true rfl) rfl (fun ls hl => ?_)
          refine lv_goto (tgt := 4) hx hb dX0_coatsInHand_35 rfl ?_
          exact zJ zx3 zx4 M H locs ls hW (lv_sub hl [2, 1, 0] rfl) h
  unfold wp_Bench_coatsInHand at h
  have zMain : ∀ (H : Heap) (locs : List Loc) (ls : Array Slot), zWo w s.heap M H locs → lv_has ls 3 [(0, .ref (zad w k))] → W p l e (zRm 0 0) s m ([.ref (zad w k)] : List Value).toArray below meth c H locs 0 0 (MQ below (va_Qi post (zB w) (zA w)) ([.ref (zad w k)] : List Value).toArray s 0 0 (zA w)) (F0 m 0 ls []) := by
    intro H locs ls hW hl
    refine lv_iconst hx hb dX0_coatsInHand_0 zc_i0 ?_
    refine lv_istore_n (lv' := [(1, .int 0), (0, .ref (zad w k))]) hx hb dX0_coatsInHand_1 rfl hl (Nat.le_of_ble_eq_true rfl) rfl (fun ls hl => ?_)
    refine lv_iconst hx hb dX0_coatsInHand_2 zc_i0 ?_
    refine lv_istore_n (lv' := [(2, .int 0), (1, .int 0), (0, .ref (zad w k))]) hx hb dX0_coatsInHand_3 rfl hl (Nat.le_of_ble_eq_true rfl) rfl (fun ls hl => ?_)
    obtain ⟨n, h⟩ := h
    refine zL_4   n 0 0 M H locs ls hW (lv_sub hl [2, 1, 0] rfl) h
  exact zMain s.heap [] ls hW hl
def wpB_Bench_waitedByAll_4 (k : Nat)   (Q : Int32 → zMem → Prop) (J : Int32 → Int32 → zMem → Prop) (x_1 : Int32) (x_2 : Int32) (M : zMem) : Prop :=
  ((M (ztc (M k 0)) 1) ≤ x_2 → Q x_1 M) ∧ (¬ (M (ztc (M k 0)) 1) ≤ x_2 → vp_in x_2 5 ∧ ∀ zx1 : Int32, zx1 = x_1 + (M (k + 6) (ix x_2)) → ∀ zx2 : Int32, zx2 = x_2 + 1 → J zx1 zx2 M)
def wp_Bench_waitedByAll (k : Nat) (M : zMem) (Q : Int32 → zMem → Prop) : Prop :=
  ∃ n : Nat, zlp2 (wpB_Bench_waitedByAll_4 k   Q) n 0 0 M
set_option maxHeartbeats 4000000 in
set_option maxRecDepth 20000 in
theorem c_Bench_waitedByAll {l : Launch} {w : zWd} {k : Nat} {M : zMem} {post : Int32 → zMem → Prop} (h0 : zI_Bench w k) (h : wp_Bench_waitedByAll k M post) : zMi l ⟨"HandToHand$Bench", "waitedByAll", "()I"⟩ prog_2_method_17_code 3 (Option.some .int) 0 0 w [.ref (zad w k)] M post := by
  refine zMet (by decide) (Nat.le_of_ble_eq_true rfl) ?_
  intro p e s m below meth c X hr hlk hml hW ls hl
  have hx := X.1
  have hb := X.2.1
  have hl : lv_has ls 3 [(0, .ref (zad w k))] := hl
  have zL_4 :  ∀ (n : Nat) (x_1 : Int32) (x_2 : Int32) (M : zMem) (H : Heap) (locs : List Loc) (ls : Array Slot), zWo w s.heap M H locs → lv_has ls 3 [(0, .ref (zad w k)), (1, .int x_1), (2, .int x_2)] → zlp2 (wpB_Bench_waitedByAll_4 k   post) n x_1 x_2 M → W p l e (zRm 0 0) s m ([.ref (zad w k)] : List Value).toArray below meth c H locs 0 0 (MQ below (va_Qi post (zB w) (zA w)) ([.ref (zad w k)] : List Value).toArray s 0 0 (zA w)) (F0 m 4 ls []) := by
    intro n
    induction n with
    | zero => intro x_1 x_2 M H locs ls hW hl h; exact h.elim
    | succ n zJ =>
      intro x_1 x_2 M H locs ls hW hl h
      have h : wpB_Bench_waitedByAll_4 k   post (zlp2 (wpB_Bench_waitedByAll_4 k   post) n) x_1 x_2 M := h
      unfold wpB_Bench_waitedByAll_4 at h
      refine lv_iload_n hx hb dX0_waitedByAll_4 rfl (lv_at hl 2 rfl) ?_
      refine lv_aload_n hx hb dX0_waitedByAll_5 rfl (lv_at hl 0 rfl) ?_
      refine zg_Bench_told X hW h0 zu_160 dX0_waitedByAll_6 ?_
      refine zg_Told_hands X hW (h0.2.2.2.2.2.2.2.2.2.1 _) zu_40 dX0_waitedByAll_9 ?_
      refine lv_icmp_ge (tgt := 30) hx hb dX0_waitedByAll_12 rfl (fun c => ?_) (fun c => ?_)
      · replace h := h.1 c
        refine lv_iload_n hx hb dX0_waitedByAll_30 rfl (lv_at hl 1 rfl) ?_
        exact zreti X hr hlk hW h dX0_waitedByAll_31
      · replace h := h.2 c
        refine lv_iload_n hx hb dX0_waitedByAll_15 rfl (lv_at hl 1 rfl) ?_
        refine lv_aload_n hx hb dX0_waitedByAll_16 rfl (lv_at hl 0 rfl) ?_
        refine zg_Bench_waited X hW h0 zu_185 dX0_waitedByAll_17 ?_
        refine lv_iload_n hx hb dX0_waitedByAll_20 rfl (lv_at hl 2 rfl) ?_
        obtain ⟨g, h⟩ := h
        refine ziald X hW h0.2.2.2.2.2.2.1 g dX0_waitedByAll_21 ?_
        refine lv_iadd hx hb dX0_waitedByAll_22 ?_
        refine lv_topi (fun zx1 ezx1 => ?_)
        replace h := h zx1 ezx1
        refine lv_istore_n (lv' := [(1, .int zx1), (0, .ref (zad w k)), (2, .int x_2)]) hx hb dX0_waitedByAll_23 rfl hl (Nat.le_of_ble_eq_true rfl) rfl (fun ls hl => ?_)
        obtain ⟨zx2, ezx2⟩ : ∃ y : Int32, y = x_2 + 1 := ⟨_, rfl⟩
        replace h := h zx2 ezx2
        refine lv_iinc (v := zx2) (lv' := [(2, .int zx2), (1, .int zx1), (0, .ref (zad w k))]) hx hb dX0_waitedByAll_24 hl (k := 2) rfl (by rw [ezx2, zc_i1]) (Nat.le_of_ble_eq_true rfl) rfl (fun ls hl => ?_)
        refine lv_goto (tgt := 4) hx hb dX0_waitedByAll_27 rfl ?_
        exact zJ zx1 zx2 M H locs ls hW (lv_sub hl [2, 1, 0] rfl) h
  unfold wp_Bench_waitedByAll at h
  have zMain : ∀ (H : Heap) (locs : List Loc) (ls : Array Slot), zWo w s.heap M H locs → lv_has ls 3 [(0, .ref (zad w k))] → W p l e (zRm 0 0) s m ([.ref (zad w k)] : List Value).toArray below meth c H locs 0 0 (MQ below (va_Qi post (zB w) (zA w)) ([.ref (zad w k)] : List Value).toArray s 0 0 (zA w)) (F0 m 0 ls []) := by
    intro H locs ls hW hl
    refine lv_iconst hx hb dX0_waitedByAll_0 zc_i0 ?_
    refine lv_istore_n (lv' := [(1, .int 0), (0, .ref (zad w k))]) hx hb dX0_waitedByAll_1 rfl hl (Nat.le_of_ble_eq_true rfl) rfl (fun ls hl => ?_)
    refine lv_iconst hx hb dX0_waitedByAll_2 zc_i0 ?_
    refine lv_istore_n (lv' := [(2, .int 0), (1, .int 0), (0, .ref (zad w k))]) hx hb dX0_waitedByAll_3 rfl hl (Nat.le_of_ble_eq_true rfl) rfl (fun ls hl => ?_)
    obtain ⟨n, h⟩ := h
    refine zL_4   n 0 0 M H locs ls hW (lv_sub hl [2, 1, 0] rfl) h
  exact zMain s.heap [] ls hW hl
