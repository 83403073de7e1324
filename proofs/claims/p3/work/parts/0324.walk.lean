def wp_Model_judge (a1 : Int32) (a2 : Int32) (a3 : Int32) (a4 : Int32) (a5 : Int32) (M : zMem) (Q : Int32 → zMem → Prop) : Prop :=
  wp_Model_asNumbered M (fun zm1 => wp_Model_runs 120 0 zm1 (fun zm3 => wp_Model_oversKept zm3 (fun zr6 zm5 => wp_Model_in a1.toInt64 0 ((zr6 - 1).toInt64) zm5 (fun zr8 zm7 => (¬ zr8 = 0 → vp_in (5 * a1) 3000 ∧ (a2 = (zm7 10 (ix (5 * a1))) → vp_in ((5 * a1) + 1) 3000 ∧ (a3 = (zm7 10 (ix ((5 * a1) + 1))) → vp_in ((5 * a1) + 2) 3000 ∧ (a4 = (zm7 10 (ix ((5 * a1) + 2))) → vp_in ((5 * a1) + 3) 3000 ∧ (a5 = (zm7 10 (ix ((5 * a1) + 3))) → Q 0 zm7) ∧ (¬ a5 = (zm7 10 (ix ((5 * a1) + 3))) → Q 4 zm7)) ∧ (¬ a4 = (zm7 10 (ix ((5 * a1) + 2))) → Q 3 zm7)) ∧ (¬ a3 = (zm7 10 (ix ((5 * a1) + 1))) → Q 2 zm7)) ∧ (¬ a2 = (zm7 10 (ix (5 * a1))) → Q 1 zm7)) ∧ (zr8 = 0 → Q ((-1)) zm7)))))
set_option maxHeartbeats 4000000 in
set_option maxRecDepth 20000 in
theorem c_Model_judge {l : Launch} {w : zWd} {a1 : Int32} {a2 : Int32} {a3 : Int32} {a4 : Int32} {a5 : Int32} {M : zMem} {post : Int32 → zMem → Prop} (h0 : zI_Model w) (h : wp_Model_judge a1 a2 a3 a4 a5 M post) : zMi l ⟨"HandToHandModel", "judge", "(IIIII)I"⟩ prog_13_method_68_code 6 (Option.some .int) 8 190 w [.ref (zad w 0), .int a1, .int a2, .int a3, .int a4, .int a5] M post := by
  refine zMet (by decide) (Nat.le_of_ble_eq_true rfl) ?_
  intro p e s m below meth c X hr hlk hml hW ls hl
  have hx := X.1
  have hb := X.2.1
  have hl : lv_has ls 6 [(0, .ref (zad w 0)), (1, .int a1), (2, .int a2), (3, .int a3), (4, .int a4), (5, .int a5)] := hl
  unfold wp_Model_judge at h
  have zMain : ∀ (H : Heap) (locs : List Loc) (ls : Array Slot), zWo w s.heap M H locs → lv_has ls 6 [(0, .ref (zad w 0)), (1, .int a1), (2, .int a2), (3, .int a3), (4, .int a4), (5, .int a5)] → W p l e (zRm 8 190) s m ([.ref (zad w 0), .int a1, .int a2, .int a3, .int a4, .int a5] : List Value).toArray below meth c H locs 0 0 (MQ below (va_Qi post (zB w) (zA w)) ([.ref (zad w 0), .int a1, .int a2, .int a3, .int a4, .int a5] : List Value).toArray s 0 0 (zA w)) (F0 m 0 ls []) := by
    intro H locs ls hW hl
    refine lv_aload_n hx hb dX11_judge_0 rfl (lv_at hl 0 rfl) ?_
    refine zcallv (zrunV (As := []) (rest := []) X hml hl hW h0.1 rfl zk_Model_243 (c_Model_asNumbered h0 h) rfl ⟨Nat.le_of_ble_eq_true rfl, Nat.le_of_ble_eq_true rfl⟩ ⟨Nat.le_refl 0, Nat.le_refl 0⟩ rfl (Nat.le_of_ble_eq_true rfl) dX11_judge_1) hW (fun zm1 H locs h hW => ?_)
    refine lv_aload_n hx hb dX11_judge_4 rfl (lv_at hl 0 rfl) ?_
    refine lv_bipush hx hb dX11_judge_5 zc_b120 ?_
    refine lv_iconst hx hb dX11_judge_7 zc_i0 ?_
    refine zcallv (zrunV (As := [.int 120, .int 0]) (rest := []) X hml hl hW h0.1 rfl zk_Model_282 (c_Model_runs h0 h) rfl ⟨Nat.le_of_ble_eq_true rfl, Nat.le_of_ble_eq_true rfl⟩ ⟨Nat.le_refl 0, Nat.le_refl 0⟩ rfl (Nat.le_of_ble_eq_true rfl) dX11_judge_8) hW (fun zm3 H locs h hW => ?_)
    refine lv_iload_n hx hb dX11_judge_11 rfl (lv_at hl 1 rfl) ?_
    refine lv_i2l hx hb dX11_judge_12 rfl ?_
    refine lv_lconst hx hb dX11_judge_13 zc_l0 ?_
    refine lv_aload_n hx hb dX11_judge_14 rfl (lv_at hl 0 rfl) ?_
    refine zcalli (zrunV (As := []) (rest := [.long 0, .long a1.toInt64]) X hml hl hW h0.1 rfl zk_Model_286 (c_Model_oversKept h0 h) rfl ⟨Nat.le_of_ble_eq_true rfl, Nat.le_of_ble_eq_true rfl⟩ ⟨Nat.le_refl 0, Nat.le_refl 0⟩ rfl (Nat.le_of_ble_eq_true rfl) dX11_judge_15) hW (fun zr6 zm5 H locs h hW => ?_)
    refine lv_iconst hx hb dX11_judge_18 zc_i1 ?_
    refine lv_isub hx hb dX11_judge_19 ?_
    refine lv_i2l hx hb dX11_judge_20 rfl ?_
    refine zcalli (zrunS (As := [.long a1.toInt64, .long 0, .long ((zr6 - 1).toInt64)]) (rest := []) X hml hl hW zk_Model_69 (c_Model_in  h) rfl ⟨Nat.le_of_ble_eq_true rfl, Nat.le_of_ble_eq_true rfl⟩ ⟨Nat.le_refl 0, Nat.le_refl 0⟩ rfl (Nat.le_of_ble_eq_true rfl) dX11_judge_21) hW (fun zr8 zm7 H locs h hW => ?_)
    refine lv_if_ne (tgt := 29) hx hb dX11_judge_24 rfl (fun c => ?_) (fun c => ?_)
    · replace h := h.1 c
      refine lv_iload_n hx hb dX11_judge_29 rfl (lv_at hl 2 rfl) ?_
      refine lv_aload_n hx hb dX11_judge_30 rfl (lv_at hl 0 rfl) ?_
      refine zg_Model_overs X hW h0 zu_1042 dX11_judge_31 ?_
      refine lv_iconst hx hb dX11_judge_34 zc_i5 ?_
      refine lv_iload_n hx hb dX11_judge_35 rfl (lv_at hl 1 rfl) ?_
      refine lv_imul hx hb dX11_judge_36 ?_
      obtain ⟨g, h⟩ := h
      refine ziald X hW h0.2.2.2.2.2.2.2.2.2.1 g dX11_judge_37 ?_
      refine lv_icmp_eq (tgt := 45) hx hb dX11_judge_38 rfl (fun c => ?_) (fun c => ?_)
      · replace h := h.1 c
        refine lv_iload_n hx hb dX11_judge_45 rfl (lv_at hl 3 rfl) ?_
        refine lv_aload_n hx hb dX11_judge_46 rfl (lv_at hl 0 rfl) ?_
        refine zg_Model_overs X hW h0 zu_1042 dX11_judge_47 ?_
        refine lv_iconst hx hb dX11_judge_50 zc_i5 ?_
        refine lv_iload_n hx hb dX11_judge_51 rfl (lv_at hl 1 rfl) ?_
        refine lv_imul hx hb dX11_judge_52 ?_
        refine lv_iconst hx hb dX11_judge_53 zc_i1 ?_
        refine lv_iadd hx hb dX11_judge_54 ?_
        obtain ⟨g, h⟩ := h
        refine ziald X hW h0.2.2.2.2.2.2.2.2.2.1 g dX11_judge_55 ?_
        refine lv_icmp_eq (tgt := 63) hx hb dX11_judge_56 rfl (fun c => ?_) (fun c => ?_)
        · replace h := h.1 c
          refine lv_iload hx hb dX11_judge_63 (lv_at hl 4 rfl) ?_
          refine lv_aload_n hx hb dX11_judge_65 rfl (lv_at hl 0 rfl) ?_
          refine zg_Model_overs X hW h0 zu_1042 dX11_judge_66 ?_
          refine lv_iconst hx hb dX11_judge_69 zc_i5 ?_
          refine lv_iload_n hx hb dX11_judge_70 rfl (lv_at hl 1 rfl) ?_
          refine lv_imul hx hb dX11_judge_71 ?_
          refine lv_iconst hx hb dX11_judge_72 zc_i2 ?_
          refine lv_iadd hx hb dX11_judge_73 ?_
          obtain ⟨g, h⟩ := h
          refine ziald X hW h0.2.2.2.2.2.2.2.2.2.1 g dX11_judge_74 ?_
          refine lv_icmp_eq (tgt := 82) hx hb dX11_judge_75 rfl (fun c => ?_) (fun c => ?_)
          · replace h := h.1 c
            refine lv_iload hx hb dX11_judge_82 (lv_at hl 5 rfl) ?_
            refine lv_aload_n hx hb dX11_judge_84 rfl (lv_at hl 0 rfl) ?_
            refine zg_Model_overs X hW h0 zu_1042 dX11_judge_85 ?_
            refine lv_iconst hx hb dX11_judge_88 zc_i5 ?_
            refine lv_iload_n hx hb dX11_judge_89 rfl (lv_at hl 1 rfl) ?_
            refine lv_imul hx hb dX11_judge_90 ?_
            refine lv_iconst hx hb dX11_judge_91 zc_i3 ?_
            refine lv_iadd hx hb dX11_judge_92 ?_
            obtain ⟨g, h⟩ := h
            refine ziald X hW h0.2.2.2.2.2.2.2.2.2.1 g dX11_judge_93 ?_
            refine lv_icmp_eq (tgt := 101) hx hb dX11_judge_94 rfl (fun c => ?_) (fun c => ?_)
            · replace h := h.1 c
              refine lv_iconst hx hb dX11_judge_101 zc_i0 ?_
              exact zreti X hr hlk hW h dX11_judge_102
            · replace h := h.2 c
              refine lv_iconst hx hb dX11_judge_97 zc_i4 ?_
              refine lv_goto (tgt := 102) hx hb dX11_judge_98 rfl ?_
              exact zreti X hr hlk hW h dX11_judge_102
          · replace h := h.2 c
            refine lv_iconst hx hb dX11_judge_78 zc_i3 ?_
            refine lv_goto (tgt := 102) hx hb dX11_judge_79 rfl ?_
            exact zreti X hr hlk hW h dX11_judge_102
        · replace h := h.2 c
          refine lv_iconst hx hb dX11_judge_59 zc_i2 ?_
          refine lv_goto (tgt := 102) hx hb dX11_judge_60 rfl ?_
          exact zreti X hr hlk hW h dX11_judge_102
      · replace h := h.2 c
        refine lv_iconst hx hb dX11_judge_41 zc_i1 ?_
        refine lv_goto (tgt := 102) hx hb dX11_judge_42 rfl ?_
        exact zreti X hr hlk hW h dX11_judge_102
    · replace h := h.2 c
      refine lv_iconst hx hb dX11_judge_27 zc_im1 ?_
      exact zreti X hr hlk hW h dX11_judge_28
  exact zMain s.heap [] ls hW hl
def wp_Model_hasRing  (M : zMem) (Q : Int32 → zMem → Prop) : Prop :=
  wp_Model_runs 120 1 M (fun zm1 => (¬ (zm1 0 29) = (-4) → vp_in (zm1 0 30) 120 ∧ vp_in (zm1 0 29) 120 ∧ ∀ zm3 : zMem, zm3 = zup zm1 0 31 ((zm1 13 (ix (zm1 0 30))) - (zm1 13 (ix (zm1 0 29)))) → (¬ (zm3 0 29) = (-4) → vp_in (zm3 0 30) 120 ∧ vp_in (zm3 0 29) 120 ∧ ∀ zm4 : zMem, zm4 = zup zm3 0 32 ((zm3 14 (ix (zm3 0 30))) - (zm3 14 (ix (zm3 0 29)))) → ((zm4 0 29) = (-4) → Q 0 zm4) ∧ (¬ (zm4 0 29) = (-4) → Q 1 zm4)) ∧ ((zm3 0 29) = (-4) → ∀ zm5 : zMem, zm5 = zup zm3 0 32 1 → ((zm5 0 29) = (-4) → Q 0 zm5) ∧ (¬ (zm5 0 29) = (-4) → Q 1 zm5))) ∧ ((zm1 0 29) = (-4) → ∀ zm6 : zMem, zm6 = zup zm1 0 31 0 → (¬ (zm6 0 29) = (-4) → vp_in (zm6 0 30) 120 ∧ vp_in (zm6 0 29) 120 ∧ ∀ zm7 : zMem, zm7 = zup zm6 0 32 ((zm6 14 (ix (zm6 0 30))) - (zm6 14 (ix (zm6 0 29)))) → ((zm7 0 29) = (-4) → Q 0 zm7) ∧ (¬ (zm7 0 29) = (-4) → Q 1 zm7)) ∧ ((zm6 0 29) = (-4) → ∀ zm8 : zMem, zm8 = zup zm6 0 32 1 → ((zm8 0 29) = (-4) → Q 0 zm8) ∧ (¬ (zm8 0 29) = (-4) → Q 1 zm8))))
set_option maxHeartbeats 4000000 in
set_option maxRecDepth 20000 in
theorem c_Model_hasRing {l : Launch} {w : zWd} {M : zMem} {post : Int32 → zMem → Prop} (h0 : zI_Model w) (h : wp_Model_hasRing  M post) : zMi l ⟨"HandToHandModel", "hasRing", "()Z"⟩ prog_13_method_69_code 1 (Option.some .boolean) 8 190 w [.ref (zad w 0)] M post := by
  refine zMet (by decide) (Nat.le_of_ble_eq_true rfl) ?_
  intro p e s m below meth c X hr hlk hml hW ls hl
  have hx := X.1
  have hb := X.2.1
  have hl : lv_has ls 1 [(0, .ref (zad w 0))] := hl
  unfold wp_Model_hasRing at h
  have zMain : ∀ (H : Heap) (locs : List Loc) (ls : Array Slot), zWo w s.heap M H locs → lv_has ls 1 [(0, .ref (zad w 0))] → W p l e (zRm 8 190) s m ([.ref (zad w 0)] : List Value).toArray below meth c H locs 0 0 (MQ below (va_Qi post (zB w) (zA w)) ([.ref (zad w 0)] : List Value).toArray s 0 0 (zA w)) (F0 m 0 ls []) := by
    intro H locs ls hW hl
    refine lv_aload_n hx hb dX11_hasRing_0 rfl (lv_at hl 0 rfl) ?_
    refine lv_bipush hx hb dX11_hasRing_1 zc_b120 ?_
    refine lv_iconst hx hb dX11_hasRing_3 zc_i1 ?_
    refine zcallv (zrunV (As := [.int 120, .int 1]) (rest := []) X hml hl hW h0.1 rfl zk_Model_282 (c_Model_runs h0 h) rfl ⟨Nat.le_of_ble_eq_true rfl, Nat.le_of_ble_eq_true rfl⟩ ⟨Nat.le_refl 0, Nat.le_refl 0⟩ rfl (Nat.le_of_ble_eq_true rfl) dX11_hasRing_4) hW (fun zm1 H locs h hW => ?_)
    refine lv_aload_n hx hb dX11_hasRing_7 rfl (lv_at hl 0 rfl) ?_
    refine lv_aload_n hx hb dX11_hasRing_8 rfl (lv_at hl 0 rfl) ?_
    refine zg_Model_ringFrom X hW h0 zu_1049 dX11_hasRing_9 ?_
    refine lv_bipush hx hb dX11_hasRing_12 zc_bm4 ?_
    refine lv_icmp_ne (tgt := 21) hx hb dX11_hasRing_14 rfl (fun c => ?_) (fun c => ?_)
    · replace h := h.1 c
      refine lv_aload_n hx hb dX11_hasRing_21 rfl (lv_at hl 0 rfl) ?_
      refine zg_Model_seenDone X hW h0 zu_1046 dX11_hasRing_22 ?_
      refine lv_aload_n hx hb dX11_hasRing_25 rfl (lv_at hl 0 rfl) ?_
      refine zg_Model_ringTo X hW h0 zu_1050 dX11_hasRing_26 ?_
      obtain ⟨g, h⟩ := h
      refine ziald X hW h0.2.2.2.2.2.2.2.2.2.2.2.2.1 g dX11_hasRing_29 ?_
      refine lv_aload_n hx hb dX11_hasRing_30 rfl (lv_at hl 0 rfl) ?_
      refine zg_Model_seenDone X hW h0 zu_1046 dX11_hasRing_31 ?_
      refine lv_aload_n hx hb dX11_hasRing_34 rfl (lv_at hl 0 rfl) ?_
      refine zg_Model_ringFrom X hW h0 zu_1049 dX11_hasRing_35 ?_
      obtain ⟨g, h⟩ := h
      refine ziald X hW h0.2.2.2.2.2.2.2.2.2.2.2.2.1 g dX11_hasRing_38 ?_
      refine lv_isub hx hb dX11_hasRing_39 ?_
      refine zp_Model_ringCoats X hW h0 zu_1051 dX11_hasRing_40 (fun H locs zm3 ezm3 hW => ?_)
      replace h := h zm3 ezm3
      refine lv_aload_n hx hb dX11_hasRing_43 rfl (lv_at hl 0 rfl) ?_
      refine lv_aload_n hx hb dX11_hasRing_44 rfl (lv_at hl 0 rfl) ?_
      refine zg_Model_ringFrom X hW h0 zu_1049 dX11_hasRing_45 ?_
      refine lv_bipush hx hb dX11_hasRing_48 zc_bm4 ?_
      refine lv_icmp_ne (tgt := 57) hx hb dX11_hasRing_50 rfl (fun c => ?_) (fun c => ?_)
      · replace h := h.1 c
        refine lv_aload_n hx hb dX11_hasRing_57 rfl (lv_at hl 0 rfl) ?_
        refine zg_Model_seenTick X hW h0 zu_1047 dX11_hasRing_58 ?_
        refine lv_aload_n hx hb dX11_hasRing_61 rfl (lv_at hl 0 rfl) ?_
        refine zg_Model_ringTo X hW h0 zu_1050 dX11_hasRing_62 ?_
        obtain ⟨g, h⟩ := h
        refine ziald X hW h0.2.2.2.2.2.2.2.2.2.2.2.2.2.1 g dX11_hasRing_65 ?_
        refine lv_aload_n hx hb dX11_hasRing_66 rfl (lv_at hl 0 rfl) ?_
        refine zg_Model_seenTick X hW h0 zu_1047 dX11_hasRing_67 ?_
        refine lv_aload_n hx hb dX11_hasRing_70 rfl (lv_at hl 0 rfl) ?_
        refine zg_Model_ringFrom X hW h0 zu_1049 dX11_hasRing_71 ?_
        obtain ⟨g, h⟩ := h
        refine ziald X hW h0.2.2.2.2.2.2.2.2.2.2.2.2.2.1 g dX11_hasRing_74 ?_
        refine lv_isub hx hb dX11_hasRing_75 ?_
        refine zp_Model_ringTicks X hW h0 zu_1052 dX11_hasRing_76 (fun H locs zm4 ezm4 hW => ?_)
        replace h := h zm4 ezm4
        refine lv_aload_n hx hb dX11_hasRing_79 rfl (lv_at hl 0 rfl) ?_
        refine zg_Model_ringFrom X hW h0 zu_1049 dX11_hasRing_80 ?_
        refine lv_bipush hx hb dX11_hasRing_83 zc_bm4 ?_
        refine lv_icmp_eq (tgt := 92) hx hb dX11_hasRing_85 rfl (fun c => ?_) (fun c => ?_)
        · replace h := h.1 c
          refine lv_iconst hx hb dX11_hasRing_92 zc_i0 ?_
          exact zretz X hr hlk hW rfl h dX11_hasRing_93
        · replace h := h.2 c
          refine lv_iconst hx hb dX11_hasRing_88 zc_i1 ?_
          refine lv_goto (tgt := 93) hx hb dX11_hasRing_89 rfl ?_
          exact zretz X hr hlk hW rfl h dX11_hasRing_93
      · replace h := h.2 c
        refine lv_iconst hx hb dX11_hasRing_53 zc_i1 ?_
        refine lv_goto (tgt := 76) hx hb dX11_hasRing_54 rfl ?_
        refine zp_Model_ringTicks X hW h0 zu_1052 dX11_hasRing_76 (fun H locs zm5 ezm5 hW => ?_)
        replace h := h zm5 ezm5
        refine lv_aload_n hx hb dX11_hasRing_79 rfl (lv_at hl 0 rfl) ?_
        refine zg_Model_ringFrom X hW h0 zu_1049 dX11_hasRing_80 ?_
        refine lv_bipush hx hb dX11_hasRing_83 zc_bm4 ?_
        refine lv_icmp_eq (tgt := 92) hx hb dX11_hasRing_85 rfl (fun c => ?_) (fun c => ?_)
        · replace h := h.1 c
          refine lv_iconst hx hb dX11_hasRing_92 zc_i0 ?_
          exact zretz X hr hlk hW rfl h dX11_hasRing_93
        · replace h := h.2 c
          refine lv_iconst hx hb dX11_hasRing_88 zc_i1 ?_
          refine lv_goto (tgt := 93) hx hb dX11_hasRing_89 rfl ?_
          exact zretz X hr hlk hW rfl h dX11_hasRing_93
    · replace h := h.2 c
      refine lv_iconst hx hb dX11_hasRing_17 zc_i0 ?_
      refine lv_goto (tgt := 40) hx hb dX11_hasRing_18 rfl ?_
      refine zp_Model_ringCoats X hW h0 zu_1051 dX11_hasRing_40 (fun H locs zm6 ezm6 hW => ?_)
      replace h := h zm6 ezm6
      refine lv_aload_n hx hb dX11_hasRing_43 rfl (lv_at hl 0 rfl) ?_
      refine lv_aload_n hx hb dX11_hasRing_44 rfl (lv_at hl 0 rfl) ?_
      refine zg_Model_ringFrom X hW h0 zu_1049 dX11_hasRing_45 ?_
      refine lv_bipush hx hb dX11_hasRing_48 zc_bm4 ?_
      refine lv_icmp_ne (tgt := 57) hx hb dX11_hasRing_50 rfl (fun c => ?_) (fun c => ?_)
      · replace h := h.1 c
        refine lv_aload_n hx hb dX11_hasRing_57 rfl (lv_at hl 0 rfl) ?_
        refine zg_Model_seenTick X hW h0 zu_1047 dX11_hasRing_58 ?_
        refine lv_aload_n hx hb dX11_hasRing_61 rfl (lv_at hl 0 rfl) ?_
        refine zg_Model_ringTo X hW h0 zu_1050 dX11_hasRing_62 ?_
        obtain ⟨g, h⟩ := h
        refine ziald X hW h0.2.2.2.2.2.2.2.2.2.2.2.2.2.1 g dX11_hasRing_65 ?_
        refine lv_aload_n hx hb dX11_hasRing_66 rfl (lv_at hl 0 rfl) ?_
        refine zg_Model_seenTick X hW h0 zu_1047 dX11_hasRing_67 ?_
        refine lv_aload_n hx hb dX11_hasRing_70 rfl (lv_at hl 0 rfl) ?_
        refine zg_Model_ringFrom X hW h0 zu_1049 dX11_hasRing_71 ?_
        obtain ⟨g, h⟩ := h
        refine ziald X hW h0.2.2.2.2.2.2.2.2.2.2.2.2.2.1 g dX11_hasRing_74 ?_
        refine lv_isub hx hb dX11_hasRing_75 ?_
        refine zp_Model_ringTicks X hW h0 zu_1052 dX11_hasRing_76 (fun H locs zm7 ezm7 hW => ?_)
        replace h := h zm7 ezm7
        refine lv_aload_n hx hb dX11_hasRing_79 rfl (lv_at hl 0 rfl) ?_
        refine zg_Model_ringFrom X hW h0 zu_1049 dX11_hasRing_80 ?_
        refine lv_bipush hx hb dX11_hasRing_83 zc_bm4 ?_
        refine lv_icmp_eq (tgt := 92) hx hb dX11_hasRing_85 rfl (fun c => ?_) (fun c => ?_)
        · replace h := h.1 c
          refine lv_iconst hx hb dX11_hasRing_92 zc_i0 ?_
          exact zretz X hr hlk hW rfl h dX11_hasRing_93
        · replace h := h.2 c
          refine lv_iconst hx hb dX11_hasRing_88 zc_i1 ?_
          refine lv_goto (tgt := 93) hx hb dX11_hasRing_89 rfl ?_
          exact zretz X hr hlk hW rfl h dX11_hasRing_93
      · replace h := h.2 c
        refine lv_iconst hx hb dX11_hasRing_53 zc_i1 ?_
        refine lv_goto (tgt := 76) hx hb dX11_hasRing_54 rfl ?_
        refine zp_Model_ringTicks X hW h0 zu_1052 dX11_hasRing_76 (fun H locs zm8 ezm8 hW => ?_)
        replace h := h zm8 ezm8
        refine lv_aload_n hx hb dX11_hasRing_79 rfl (lv_at hl 0 rfl) ?_
        refine zg_Model_ringFrom X hW h0 zu_1049 dX11_hasRing_80 ?_
        refine lv_bipush hx hb dX11_hasRing_83 zc_bm4 ?_
        refine lv_icmp_eq (tgt := 92) hx hb dX11_hasRing_85 rfl (fun c => ?_) (fun c => ?_)
        · replace h := h.1 c
          refine lv_iconst hx hb dX11_hasRing_92 zc_i0 ?_
          exact zretz X hr hlk hW rfl h dX11_hasRing_93
        · replace h := h.2 c
          refine lv_iconst hx hb dX11_hasRing_88 zc_i1 ?_
          refine lv_goto (tgt := 93) hx hb dX11_hasRing_89 rfl ?_
          exact zretz X hr hlk hW rfl h dX11_hasRing_93
  exact zMain s.heap [] ls hW hl
def wp_Model_settles (a1 : Int32) (M : zMem) (Q : Int32 → zMem → Prop) : Prop :=
  wp_Model_in a1.toInt64 0 2 M (fun zr2 zm1 => (¬ zr2 = 0 → wp_Model_asNumbered zm1 (fun zm3 => wp_Model_hasRing zm3 (fun zr6 zm5 => (¬ zr6 = 0 → (¬ a1 = 0 → (¬ a1 = 1 → Q (zm5 0 32) zm5) ∧ (a1 = 1 → Q (zm5 0 31) zm5)) ∧ (a1 = 0 → vp_in (zm5 0 29) 120 ∧ Q (zm5 13 (ix (zm5 0 29))) zm5)) ∧ (zr6 = 0 → Q ((-4)) zm5)))) ∧ (zr2 = 0 → Q ((-1)) zm1))
set_option maxHeartbeats 4000000 in
set_option maxRecDepth 20000 in
theorem c_Model_settles {l : Launch} {w : zWd} {a1 : Int32} {M : zMem} {post : Int32 → zMem → Prop} (h0 : zI_Model w) (h : wp_Model_settles a1 M post) : zMi l ⟨"HandToHandModel", "settles", "(I)I"⟩ prog_13_method_70_code 2 (Option.some .int) 9 210 w [.ref (zad w 0), .int a1] M post := by
  refine zMet (by decide) (Nat.le_of_ble_eq_true rfl) ?_
  intro p e s m below meth c X hr hlk hml hW ls hl
  have hx := X.1
  have hb := X.2.1
  have hl : lv_has ls 2 [(0, .ref (zad w 0)), (1, .int a1)] := hl
  unfold wp_Model_settles at h
  have zMain : ∀ (H : Heap) (locs : List Loc) (ls : Array Slot), zWo w s.heap M H locs → lv_has ls 2 [(0, .ref (zad w 0)), (1, .int a1)] → W p l e (zRm 9 210) s m ([.ref (zad w 0), .int a1] : List Value).toArray below meth c H locs 0 0 (MQ below (va_Qi post (zB w) (zA w)) ([.ref (zad w 0), .int a1] : List Value).toArray s 0 0 (zA w)) (F0 m 0 ls []) := by
    intro H locs ls hW hl
    refine lv_iload_n hx hb dX11_settles_0 rfl (lv_at hl 1 rfl) ?_
    refine lv_i2l hx hb dX11_settles_1 rfl ?_
    refine lv_lconst hx hb dX11_settles_2 zc_l0 ?_
    refine lv_ldc2 hx hb X.2.2.1 (X.2.2.2.1 _ zu_1248) dX11_settles_3 ?_
    refine zcalli (zrunS (As := [.long a1.toInt64, .long 0, .long 2]) (rest := []) X hml hl hW zk_Model_69 (c_Model_in  h) rfl ⟨Nat.le_of_ble_eq_true rfl, Nat.le_of_ble_eq_true rfl⟩ ⟨Nat.le_refl 0, Nat.le_refl 0⟩ rfl (Nat.le_of_ble_eq_true rfl) dX11_settles_6) hW (fun zr2 zm1 H locs h hW => ?_)
    refine lv_if_ne (tgt := 14) hx hb dX11_settles_9 rfl (fun c => ?_) (fun c => ?_)
    · replace h := h.1 c
      refine lv_aload_n hx hb dX11_settles_14 rfl (lv_at hl 0 rfl) ?_
      refine zcallv (zrunV (As := []) (rest := []) X hml hl hW h0.1 rfl zk_Model_243 (c_Model_asNumbered h0 h) rfl ⟨Nat.le_of_ble_eq_true rfl, Nat.le_of_ble_eq_true rfl⟩ ⟨Nat.le_refl 0, Nat.le_refl 0⟩ rfl (Nat.le_of_ble_eq_true rfl) dX11_settles_15) hW (fun zm3 H locs h hW => ?_)
      refine lv_aload_n hx hb dX11_settles_18 rfl (lv_at hl 0 rfl) ?_
      refine zcalli (zrunV (As := []) (rest := []) X hml hl hW h0.1 rfl zk_Model_295 (c_Model_hasRing h0 h) rfl ⟨Nat.le_of_ble_eq_true rfl, Nat.le_of_ble_eq_true rfl⟩ ⟨Nat.le_refl 0, Nat.le_refl 0⟩ rfl (Nat.le_of_ble_eq_true rfl) dX11_settles_19) hW (fun zr6 zm5 H locs h hW => ?_)
      refine lv_if_ne (tgt := 28) hx hb dX11_settles_22 rfl (fun c => ?_) (fun c => ?_)
      · replace h := h.1 c
        refine lv_iload_n hx hb dX11_settles_28 rfl (lv_at hl 1 rfl) ?_
        refine lv_if_ne (tgt := 44) hx hb dX11_settles_29 rfl (fun c => ?_) (fun c => ?_)
        · replace h := h.1 c
          refine lv_iload_n hx hb dX11_settles_44 rfl (lv_at hl 1 rfl) ?_
          refine lv_iconst hx hb dX11_settles_45 zc_i1 ?_
          refine lv_icmp_ne (tgt := 56) hx hb dX11_settles_46 rfl (fun c => ?_) (fun c => ?_)
          · replace h := h.1 c
            refine lv_aload_n hx hb dX11_settles_56 rfl (lv_at hl 0 rfl) ?_
            refine zg_Model_ringTicks X hW h0 zu_1052 dX11_settles_57 ?_
            exact zreti X hr hlk hW h dX11_settles_60
          · replace h := h.2 c
            refine lv_aload_n hx hb dX11_settles_49 rfl (lv_at hl 0 rfl) ?_
            refine zg_Model_ringCoats X hW h0 zu_1051 dX11_settles_50 ?_
            refine lv_goto (tgt := 60) hx hb dX11_settles_53 rfl ?_
            exact zreti X hr hlk hW h dX11_settles_60
        · replace h := h.2 c
          refine lv_aload_n hx hb dX11_settles_32 rfl (lv_at hl 0 rfl) ?_
          refine zg_Model_seenDone X hW h0 zu_1046 dX11_settles_33 ?_
          refine lv_aload_n hx hb dX11_settles_36 rfl (lv_at hl 0 rfl) ?_
          refine zg_Model_ringFrom X hW h0 zu_1049 dX11_settles_37 ?_
          obtain ⟨g, h⟩ := h
          refine ziald X hW h0.2.2.2.2.2.2.2.2.2.2.2.2.1 g dX11_settles_40 ?_
          refine lv_goto (tgt := 60) hx hb dX11_settles_41 rfl ?_
          exact zreti X hr hlk hW h dX11_settles_60
      · replace h := h.2 c
        refine lv_bipush hx hb dX11_settles_25 zc_bm4 ?_
        exact zreti X hr hlk hW h dX11_settles_27
    · replace h := h.2 c
      refine lv_iconst hx hb dX11_settles_12 zc_im1 ?_
      exact zreti X hr hlk hW h dX11_settles_13
  exact zMain s.heap [] ls hW hl
def wpJ_Model_where_128 (a1 : Int32) (a2 : Int32) (K201 : Int32 → Int32 → Int32 → zMem → Prop) (J : Int32 → Int32 → Int32 → Int32 → zMem → Prop) (Q : Int32 → zMem → Prop) (x_3 : Int32) (x_5 : Int32) (x_6 : Int32) (s_0 : Int32) (M : zMem) : Prop :=
  (x_5 = 0 → ∀ zx15 : Int32, zx15 = x_3 + 1 → ∀ zx16 : Int32, zx16 = x_6 + 1 → J zx15 s_0 0 zx16 M) ∧ (¬ x_5 = 0 → vp_in ((5 * x_6) + 2) 3000 ∧ vp_in ((5 * s_0) + 2) 3000 ∧ (¬ (M 10 (ix ((5 * x_6) + 2))) = (M 10 (ix ((5 * s_0) + 2))) → ∀ zx17 : Int32, zx17 = x_3 + 1 → ∀ zx18 : Int32, zx18 = x_6 + 1 → J zx17 s_0 0 zx18 M) ∧ ((M 10 (ix ((5 * x_6) + 2))) = (M 10 (ix ((5 * s_0) + 2))) → vp_in ((5 * x_6) + 3) 3000 ∧ vp_in ((5 * s_0) + 3) 3000 ∧ (¬ (M 10 (ix ((5 * x_6) + 3))) = (M 10 (ix ((5 * s_0) + 3))) → ∀ zx19 : Int32, zx19 = x_3 + 1 → ∀ zx20 : Int32, zx20 = x_6 + 1 → J zx19 s_0 0 zx20 M) ∧ ((M 10 (ix ((5 * x_6) + 3))) = (M 10 (ix ((5 * s_0) + 3))) → ∀ zx21 : Int32, zx21 = x_3 + 1 → ∀ zx22 : Int32, zx22 = x_6 + 1 → J zx21 s_0 1 zx22 M)))
def wpB_Model_where_52 (a1 : Int32) (a2 : Int32)  (K201 : Int32 → Int32 → Int32 → zMem → Prop) (Q : Int32 → zMem → Prop) (J : Int32 → Int32 → Int32 → Int32 → zMem → Prop) (x_3 : Int32) (x_4 : Int32) (x_5 : Int32) (x_6 : Int32) (M : zMem) : Prop :=
  wp_Model_oversKept M (fun zr10 zm9 => (zr10 ≤ x_6 → K201 x_3 x_4 x_5 zm9) ∧ (¬ zr10 ≤ x_6 → vp_in ((5 * x_6) + 1) 3000 ∧ (¬ (zm9 10 (ix ((5 * x_6) + 1))) = a1 → ∀ zx11 : Int32, zx11 = x_6 + 1 → J x_3 x_4 x_5 zx11 zm9) ∧ ((zm9 10 (ix ((5 * x_6) + 1))) = a1 → vp_in (5 * x_6) 3000 ∧ vp_in (zm9 0 29) 120 ∧ vp_in (zm9 0 30) 120 ∧ wp_Model_in ((zm9 10 (ix (5 * x_6))).toInt64) (((zm9 14 (ix (zm9 0 29))) + 1).toInt64) ((zm9 14 (ix (zm9 0 30))).toInt64) zm9 (fun zr13 zm12 => (zr13 = 0 → ∀ zx14 : Int32, zx14 = x_6 + 1 → J x_3 x_4 x_5 zx14 zm12) ∧ (¬ zr13 = 0 → (¬ x_4 = (-4) → wpJ_Model_where_128 a1 a2 K201 J Q x_3 x_5 x_6 x_4 zm12) ∧ (x_4 = (-4) → wpJ_Model_where_128 a1 a2 K201 J Q x_3 x_5 x_6 x_6 zm12))))))
def wp_Model_where (a1 : Int32) (a2 : Int32) (M : zMem) (Q : Int32 → zMem → Prop) : Prop :=
  wp_Model_isHand a1 M (fun zr2 zm1 => (zr2 = 0 → Q ((-1)) zm1) ∧ (¬ zr2 = 0 → (a1 = 0 → Q ((-1)) zm1) ∧ (¬ a1 = 0 → wp_Model_in a2.toInt64 0 3 zm1 (fun zr4 zm3 => (¬ zr4 = 0 → wp_Model_asNumbered zm3 (fun zm5 => wp_Model_hasRing zm5 (fun zr8 zm7 => (¬ zr8 = 0 → ∃ n : Nat, zlp4 (wpB_Model_where_52 a1 a2  (fun (zx24 : Int32) (zx25 : Int32) (zx26 : Int32) (zm23 : zMem) => (¬ a2 = 0 → (¬ a2 = 1 → (¬ zx25 = (-4) → vp_in ((5 * zx25) + a2) 3000 ∧ Q (zm23 10 (ix ((5 * zx25) + a2))) zm23) ∧ (zx25 = (-4) → Q ((-4)) zm23)) ∧ (a2 = 1 → (zx26 = 0 → Q 0 zm23) ∧ (¬ zx26 = 0 → Q 1 zm23))) ∧ (a2 = 0 → Q zx24 zm23)) Q) n 0 ((-4)) 1 0 zm7) ∧ (zr8 = 0 → Q ((-4)) zm7)))) ∧ (zr4 = 0 → Q ((-1)) zm3)))))
set_option maxHeartbeats 4000000 in
set_option maxRecDepth 20000 in
theorem c_Model_where {l : Launch} {w : zWd} {a1 : Int32} {a2 : Int32} {M : zMem} {post : Int32 → zMem → Prop} (h0 : zI_Model w) (h : wp_Model_where a1 a2 M post) : zMi l ⟨"HandToHandModel", "where", "(II)I"⟩ prog_13_method_71_code 7 (Option.some .int) 9 210 w [.ref (zad w 0), .int a1, .int a2] M post := by
  refine zMet (by decide) (Nat.le_of_ble_eq_true rfl) ?_
  intro p e s m below meth c X hr hlk hml hW ls hl
  have hx := X.1
  have hb := X.2.1
  have hl : lv_has ls 7 [(0, .ref (zad w 0)), (1, .int a1), (2, .int a2)] := hl
  have zJ_128 : ∀ (x_3 : Int32) (x_5 : Int32) (x_6 : Int32) (s_0 : Int32) (K201 : Int32 → Int32 → Int32 → zMem → Prop) (zK201 : ∀ (y_3 : Int32) (y_4 : Int32) (y_5 : Int32) (M : zMem) (H : Heap) (locs : List Loc) (ls : Array Slot), zWo w s.heap M H locs → lv_has ls 7 [(0, .ref (zad w 0)), (2, .int a2), (3, .int y_3), (4, .int y_4), (5, .int y_5)] → K201 y_3 y_4 y_5 M → W p l e (zRm 9 210) s m ([.ref (zad w 0), .int a1, .int a2] : List Value).toArray below meth c H locs 0 0 (MQ below (va_Qi post (zB w) (zA w)) ([.ref (zad w 0), .int a1, .int a2] : List Value).toArray s 0 0 (zA w)) (F0 m 201 ls [])) (J : Int32 → Int32 → Int32 → Int32 → zMem → Prop) (zJ : ∀ (y_3 : Int32) (y_4 : Int32) (y_5 : Int32) (y_6 : Int32) (M : zMem) (H : Heap) (locs : List Loc) (ls : Array Slot), zWo w s.heap M H locs → lv_has ls 7 [(0, .ref (zad w 0)), (1, .int a1), (2, .int a2), (3, .int y_3), (4, .int y_4), (5, .int y_5), (6, .int y_6)] → J y_3 y_4 y_5 y_6 M → W p l e (zRm 9 210) s m ([.ref (zad w 0), .int a1, .int a2] : List Value).toArray below meth c H locs 0 0 (MQ below (va_Qi post (zB w) (zA w)) ([.ref (zad w 0), .int a1, .int a2] : List Value).toArray s 0 0 (zA w)) (F0 m 52 ls [])) (M : zMem) (H : Heap) (locs : List Loc) (ls : Array Slot), zWo w s.heap M H locs → lv_has ls 7 [(0, .ref (zad w 0)), (1, .int a1), (2, .int a2), (3, .int x_3), (5, .int x_5), (6, .int x_6)] → wpJ_Model_where_128 a1 a2 K201 J post x_3 x_5 x_6 s_0 M → W p l e (zRm 9 210) s m ([.ref (zad w 0), .int a1, .int a2] : List Value).toArray below meth c H locs 0 0 (MQ below (va_Qi post (zB w) (zA w)) ([.ref (zad w 0), .int a1, .int a2] : List Value).toArray s 0 0 (zA w)) (F0 m 128 ls [.int s_0]) := by
    intro x_3 x_5 x_6 s_0 K201 zK201 J zJ M H locs ls hW hl h
    unfold wpJ_Model_where_128 at h
    refine lv_istore (lv' := [(4, .int s_0), (0, .ref (zad w 0)), (1, .int a1), (2, .int a2), (3, .int x_3), (5, .int x_5), (6, .int x_6)]) hx hb dX11_where_128 hl (Nat.le_of_ble_eq_true rfl) rfl (fun ls hl => ?_)
    refine lv_iload hx hb dX11_where_130 (lv_at hl 5 rfl) ?_
    refine lv_if_eq (tgt := 189) hx hb dX11_where_132 rfl (fun c => ?_) (fun c => ?_)
    · replace h := h.1 c
      refine lv_iconst hx hb dX11_where_189 zc_i0 ?_
      refine lv_istore (lv' := [(5, .int 0), (4, .int s_0), (0, .ref (zad w 0)), (1, .int a1), (2, .int a2), (3, .int x_3), (6, .int x_6)]) hx hb dX11_where_190 hl (Nat.le_of_ble_eq_true rfl) rfl (fun ls hl => ?_)
      obtain ⟨zx15, ezx15⟩ : ∃ y : Int32, y = x_3 + 1 := ⟨_, rfl⟩
      replace h := h zx15 ezx15
      refine lv_iinc (v := zx15) (lv' := [(3, .int zx15), (5, .int 0), (4, .int s_0), (0, .ref (zad w 0)), (1, .int a1), (2, .int a2), (6, .int x_6)]) hx hb dX11_where_192 hl (k := 5) rfl (by rw [ezx15, zc_i1]) (Nat.le_of_ble_eq_true rfl) rfl (fun ls hl => ?_)
      obtain ⟨zx16, ezx16⟩ : ∃ y : Int32, y = x_6 + 1 := ⟨_, rfl⟩
      replace h := h zx16 ezx16
      refine lv_iinc (v := zx16) (lv' := [(6, .int zx16), (3, .int zx15), (5, .int 0), (4, .int s_0), (0, .ref (zad w 0)), (1, .int a1), (2, .int a2)]) hx hb dX11_where_195 hl (k := 6) rfl (by rw [ezx16, zc_i1]) (Nat.le_of_ble_eq_true rfl) rfl (fun ls hl => ?_)
      refine lv_goto (tgt := 52) hx hb dX11_where_198 rfl ?_
      exact zJ zx15 s_0 0 zx16 M H locs ls hW (lv_sub hl [4, 5, 6, 1, 3, 2, 0] rfl) h
    · replace h := h.2 c
      refine lv_aload_n hx hb dX11_where_135 rfl (lv_at hl 1 rfl) ?_
      refine zg_Model_overs X hW h0 zu_1042 dX11_where_136 ?_
      refine lv_iconst hx hb dX11_where_139 zc_i5 ?_
      refine lv_iload hx hb dX11_where_140 (lv_at hl 6 rfl) ?_
      refine lv_imul hx hb dX11_where_142 ?_
      refine lv_iconst hx hb dX11_where_143 zc_i2 ?_
      refine lv_iadd hx hb dX11_where_144 ?_
      obtain ⟨g, h⟩ := h
      refine ziald X hW h0.2.2.2.2.2.2.2.2.2.1 g dX11_where_145 ?_
      refine lv_aload_n hx hb dX11_where_146 rfl (lv_at hl 1 rfl) ?_
      refine zg_Model_overs X hW h0 zu_1042 dX11_where_147 ?_
      refine lv_iconst hx hb dX11_where_150 zc_i5 ?_
      refine lv_iload hx hb dX11_where_151 (lv_at hl 0 rfl) ?_
      refine lv_imul hx hb dX11_where_153 ?_
      refine lv_iconst hx hb dX11_where_154 zc_i2 ?_
      refine lv_iadd hx hb dX11_where_155 ?_
      obtain ⟨g, h⟩ := h
      refine ziald X hW h0.2.2.2.2.2.2.2.2.2.1 g dX11_where_156 ?_
      refine lv_icmp_ne (tgt := 189) hx hb dX11_where_157 rfl (fun c => ?_) (fun c => ?_)
      · replace h := h.1 c
        refine lv_iconst hx hb dX11_where_189 zc_i0 ?_
        refine lv_istore (lv' := [(5, .int 0), (4, .int s_0), (0, .ref (zad w 0)), (1, .int a1), (2, .int a2), (3, .int x_3), (6, .int x_6)]) hx hb dX11_where_190 hl (Nat.le_of_ble_eq_true rfl) rfl (fun ls hl => ?_)
        obtain ⟨zx17, ezx17⟩ : ∃ y : Int32, y = x_3 + 1 := ⟨_, rfl⟩
        replace h := h zx17 ezx17
        refine lv_iinc (v := zx17) (lv' := [(3, .int zx17), (5, .int 0), (4, .int s_0), (0, .ref (zad w 0)), (1, .int a1), (2, .int a2), (6, .int x_6)]) hx hb dX11_where_192 hl (k := 5) rfl (by rw [ezx17, zc_i1]) (Nat.le_of_ble_eq_true rfl) rfl (fun ls hl => ?_)
        obtain ⟨zx18, ezx18⟩ : ∃ y : Int32, y = x_6 + 1 := ⟨_, rfl⟩
        replace h := h zx18 ezx18
        refine lv_iinc (v := zx18) (lv' := [(6, .int zx18), (3, .int zx17), (5, .int 0), (4, .int s_0), (0, .ref (zad w 0)), (1, .int a1), (2, .int a2)]) hx hb dX11_where_195 hl (k := 6) rfl (by rw [ezx18, zc_i1]) (Nat.le_of_ble_eq_true rfl) rfl (fun ls hl => ?_)
        refine lv_goto (tgt := 52) hx hb dX11_where_198 rfl ?_
        exact zJ zx17 s_0 0 zx18 M H locs ls hW (lv_sub hl [4, 5, 6, 1, 3, 2, 0] rfl) h
      · replace h := h.2 c
        refine lv_aload_n hx hb dX11_where_160 rfl (lv_at hl 1 rfl) ?_
        refine zg_Model_overs X hW h0 zu_1042 dX11_where_161 ?_
        refine lv_iconst hx hb dX11_where_164 zc_i5 ?_
        refine lv_iload hx hb dX11_where_165 (lv_at hl 6 rfl) ?_
        refine lv_imul hx hb dX11_where_167 ?_
        refine lv_iconst hx hb dX11_where_168 zc_i3 ?_
        refine lv_iadd hx hb dX11_where_169 ?_
        obtain ⟨g, h⟩ := h
        refine ziald X hW h0.2.2.2.2.2.2.2.2.2.1 g dX11_where_170 ?_
        refine lv_aload_n hx hb dX11_where_171 rfl (lv_at hl 1 rfl) ?_
        refine zg_Model_overs X hW h0 zu_1042 dX11_where_172 ?_
        refine lv_iconst hx hb dX11_where_175 zc_i5 ?_
        refine lv_iload hx hb dX11_where_176 (lv_at hl 0 rfl) ?_
        refine lv_imul hx hb dX11_where_178 ?_
        refine lv_iconst hx hb dX11_where_179 zc_i3 ?_
        refine lv_iadd hx hb dX11_where_180 ?_
        obtain ⟨g, h⟩ := h
        refine ziald X hW h0.2.2.2.2.2.2.2.2.2.1 g dX11_where_181 ?_
        refine lv_icmp_ne (tgt := 189) hx hb dX11_where_182 rfl (fun c => ?_) (fun c => ?_)
        · replace h := h.1 c
          refine lv_iconst hx hb dX11_where_189 zc_i0 ?_
          refine lv_istore (lv' := [(5, .int 0), (4, .int s_0), (0, .ref (zad w 0)), (1, .int a1), (2, .int a2), (3, .int x_3), (6, .int x_6)]) hx hb dX11_where_190 hl (Nat.le_of_ble_eq_true rfl) rfl (fun ls hl => ?_)
          obtain ⟨zx19, ezx19⟩ : ∃ y : Int32, y = x_3 + 1 := ⟨_, rfl⟩
          replace h := h zx19 ezx19
          refine lv_iinc (v := zx19) (lv' := [(3, .int zx19), (5, .int 0), (4, .int s_0), (0, .ref (zad w 0)), (1, .int a1), (2, .int a2), (6, .int x_6)]) hx hb dX11_where_192 hl (k := 5) rfl (by rw [ezx19, zc_i1]) (Nat.le_of_ble_eq_true rfl) rfl (fun ls hl => ?_)
          obtain ⟨zx20, ezx20⟩ : ∃ y : Int32, y = x_6 + 1 := ⟨_, rfl⟩
          replace h := h zx20 ezx20
          refine lv_iinc (v := zx20) (lv' := [(6, .int zx20), (3, .int zx19), (5, .int 0), (4, .int s_0), (0, .ref (zad w 0)), (1, .int a1), (2, .int a2)]) hx hb dX11_where_195 hl (k := 6) rfl (by rw [ezx20, zc_i1]) (Nat.le_of_ble_eq_true rfl) rfl (fun ls hl => ?_)
          refine lv_goto (tgt := 52) hx hb dX11_where_198 rfl ?_
          exact zJ zx19 s_0 0 zx20 M H locs ls hW (lv_sub hl [4, 5, 6, 1, 3, 2, 0] rfl) h
        · replace h := h.2 c
          refine lv_iconst hx hb dX11_where_185 zc_i1 ?_
          refine lv_goto (tgt := 190) hx hb dX11_where_186 rfl ?_
          refine lv_istore (lv' := [(5, .int 1), (4, .int s_0), (0, .ref (zad w 0)), (1, .int a1), (2, .int a2), (3, .int x_3), (6, .int x_6)]) hx hb dX11_where_190 hl (Nat.le_of_ble_eq_true rfl) rfl (fun ls hl => ?_)
          obtain ⟨zx21, ezx21⟩ : ∃ y : Int32, y = x_3 + 1 := ⟨_, rfl⟩
          replace h := h zx21 ezx21
          refine lv_iinc (v := zx21) (lv' := [(3, .int zx21), (5, .int 1), (4, .int s_0), (0, .ref (zad w 0)), (1, .int a1), (2, .int a2), (6, .int x_6)]) hx hb dX11_where_192 hl (k := 5) rfl (by rw [ezx21, zc_i1]) (Nat.le_of_ble_eq_true rfl) rfl (fun ls hl => ?_)
          obtain ⟨zx22, ezx22⟩ : ∃ y : Int32, y = x_6 + 1 := ⟨_, rfl⟩
          replace h := h zx22 ezx22
          refine lv_iinc (v := zx22) (lv' := [(6, .int zx22), (3, .int zx21), (5, .int 1), (4, .int s_0), (0, .ref (zad w 0)), (1, .int a1), (2, .int a2)]) hx hb dX11_where_195 hl (k := 6) rfl (by rw [ezx22, zc_i1]) (Nat.le_of_ble_eq_true rfl) rfl (fun ls hl => ?_)
          refine lv_goto (tgt := 52) hx hb dX11_where_198 rfl ?_
          exact zJ zx21 s_0 1 zx22 M H locs ls hW (lv_sub hl [4, 5, 6, 1, 3, 2, 0] rfl) h
  have zL_52 : ∀ (K201 : Int32 → Int32 → Int32 → zMem → Prop) (zK201 : ∀ (y_3 : Int32) (y_4 : Int32) (y_5 : Int32) (M : zMem) (H : Heap) (locs : List Loc) (ls : Array Slot), zWo w s.heap M H locs → lv_has ls 7 [(0, .ref (zad w 0)), (2, .int a2), (3, .int y_3), (4, .int y_4), (5, .int y_5)] → K201 y_3 y_4 y_5 M → W p l e (zRm 9 210) s m ([.ref (zad w 0), .int a1, .int a2] : List Value).toArray below meth c H locs 0 0 (MQ below (va_Qi post (zB w) (zA w)) ([.ref (zad w 0), .int a1, .int a2] : List Value).toArray s 0 0 (zA w)) (F0 m 201 ls [])), ∀ (n : Nat) (x_3 : Int32) (x_4 : Int32) (x_5 : Int32) (x_6 : Int32) (M : zMem) (H : Heap) (locs : List Loc) (ls : Array Slot), zWo w s.heap M H locs → lv_has ls 7 [(0, .ref (zad w 0)), (1, .int a1), (2, .int a2), (3, .int x_3), (4, .int x_4), (5, .int x_5), (6, .int x_6)] → zlp4 (wpB_Model_where_52 a1 a2  K201 post) n x_3 x_4 x_5 x_6 M → W p l e (zRm 9 210) s m ([.ref (zad w 0), .int a1, .int a2] : List Value).toArray below meth c H locs 0 0 (MQ below (va_Qi post (zB w) (zA w)) ([.ref (zad w 0), .int a1, .int a2] : List Value).toArray s 0 0 (zA w)) (F0 m 52 ls []) := by
    intro K201 zK201 n
    induction n with
    | zero => intro x_3 x_4 x_5 x_6 M H locs ls hW hl h; exact h.elim
    | succ n zJ =>
      intro x_3 x_4 x_5 x_6 M H locs ls hW hl h
      have h : wpB_Model_where_52 a1 a2  K201 post (zlp4 (wpB_Model_where_52 a1 a2  K201 post) n) x_3 x_4 x_5 x_6 M := h
      unfold wpB_Model_where_52 at h
      refine lv_iload hx hb dX11_where_52 (lv_at hl 6 rfl) ?_
      refine lv_aload_n hx hb dX11_where_54 rfl (lv_at hl 0 rfl) ?_
      refine zcalli (zrunV (As := []) (rest := [.int x_6]) X hml hl hW h0.1 rfl zk_Model_286 (c_Model_oversKept h0 h) rfl ⟨Nat.le_of_ble_eq_true rfl, Nat.le_of_ble_eq_true rfl⟩ ⟨Nat.le_refl 0, Nat.le_refl 0⟩ rfl (Nat.le_of_ble_eq_true rfl) dX11_where_55) hW (fun zr10 zm9 H locs h hW => ?_)
      refine lv_icmp_ge (tgt := 201) hx hb dX11_where_58 rfl (fun c => ?_) (fun c => ?_)
      · replace h := h.1 c
        exact zK201 x_3 x_4 x_5 zm9 H locs ls hW (lv_sub hl [0, 2, 3, 4, 5] rfl) h
      · replace h := h.2 c
        refine lv_aload_n hx hb dX11_where_61 rfl (lv_at hl 0 rfl) ?_
        refine zg_Model_overs X hW h0 zu_1042 dX11_where_62 ?_
        refine lv_iconst hx hb dX11_where_65 zc_i5 ?_
        refine lv_iload hx hb dX11_where_66 (lv_at hl 6 rfl) ?_
        refine lv_imul hx hb dX11_where_68 ?_
        refine lv_iconst hx hb dX11_where_69 zc_i1 ?_
        refine lv_iadd hx hb dX11_where_70 ?_
        obtain ⟨g, h⟩ := h
        refine ziald X hW h0.2.2.2.2.2.2.2.2.2.1 g dX11_where_71 ?_
        refine lv_iload_n hx hb dX11_where_72 rfl (lv_at hl 1 rfl) ?_
        refine lv_icmp_ne (tgt := 195) hx hb dX11_where_73 rfl (fun c => ?_) (fun c => ?_)
        · replace h := h.1 c
          obtain ⟨zx11, ezx11⟩ : ∃ y : Int32, y = x_6 + 1 := ⟨_, rfl⟩
          replace h := h zx11 ezx11
          refine lv_iinc (v := zx11) (lv' := [(6, .int zx11), (0, .ref (zad w 0)), (1, .int a1), (2, .int a2), (3, .int x_3), (4, .int x_4), (5, .int x_5)]) hx hb dX11_where_195 hl (k := 6) rfl (by rw [ezx11, zc_i1]) (Nat.le_of_ble_eq_true rfl) rfl (fun ls hl => ?_)
          refine lv_goto (tgt := 52) hx hb dX11_where_198 rfl ?_
          exact zJ x_3 x_4 x_5 zx11 zm9 H locs ls hW (lv_sub hl [1, 2, 3, 4, 5, 6, 0] rfl) h
        · replace h := h.2 c
          refine lv_aload_n hx hb dX11_where_76 rfl (lv_at hl 0 rfl) ?_
          refine zg_Model_overs X hW h0 zu_1042 dX11_where_77 ?_
          refine lv_iconst hx hb dX11_where_80 zc_i5 ?_
          refine lv_iload hx hb dX11_where_81 (lv_at hl 6 rfl) ?_
          refine lv_imul hx hb dX11_where_83 ?_
          obtain ⟨g, h⟩ := h
          refine ziald X hW h0.2.2.2.2.2.2.2.2.2.1 g dX11_where_84 ?_
          refine lv_i2l hx hb dX11_where_85 rfl ?_
          refine lv_aload_n hx hb dX11_where_86 rfl (lv_at hl 0 rfl) ?_
          refine zg_Model_seenTick X hW h0 zu_1047 dX11_where_87 ?_
          refine lv_aload_n hx hb dX11_where_90 rfl (lv_at hl 0 rfl) ?_
          refine zg_Model_ringFrom X hW h0 zu_1049 dX11_where_91 ?_
          obtain ⟨g, h⟩ := h
          refine ziald X hW h0.2.2.2.2.2.2.2.2.2.2.2.2.2.1 g dX11_where_94 ?_
          refine lv_iconst hx hb dX11_where_95 zc_i1 ?_
          refine lv_iadd hx hb dX11_where_96 ?_
          refine lv_i2l hx hb dX11_where_97 rfl ?_
          refine lv_aload_n hx hb dX11_where_98 rfl (lv_at hl 0 rfl) ?_
          refine zg_Model_seenTick X hW h0 zu_1047 dX11_where_99 ?_
          refine lv_aload_n hx hb dX11_where_102 rfl (lv_at hl 0 rfl) ?_
          refine zg_Model_ringTo X hW h0 zu_1050 dX11_where_103 ?_
          obtain ⟨g, h⟩ := h
          refine ziald X hW h0.2.2.2.2.2.2.2.2.2.2.2.2.2.1 g dX11_where_106 ?_
          refine lv_i2l hx hb dX11_where_107 rfl ?_
          refine zcalli (zrunS (As := [.long ((zm9 10 (ix (5 * x_6))).toInt64), .long (((zm9 14 (ix (zm9 0 29))) + 1).toInt64), .long ((zm9 14 (ix (zm9 0 30))).toInt64)]) (rest := []) X hml hl hW zk_Model_69 (c_Model_in  h) rfl ⟨Nat.le_of_ble_eq_true rfl, Nat.le_of_ble_eq_true rfl⟩ ⟨Nat.le_refl 0, Nat.le_refl 0⟩ rfl (Nat.le_of_ble_eq_true rfl) dX11_where_108) hW (fun zr13 zm12 H locs h hW => ?_)
          refine lv_if_eq (tgt := 195) hx hb dX11_where_111 rfl (fun c => ?_) (fun c => ?_)
          · replace h := h.1 c
            obtain ⟨zx14, ezx14⟩ : ∃ y : Int32, y = x_6 + 1 := ⟨_, rfl⟩
            replace h := h zx14 ezx14
            refine lv_iinc (v := zx14) (lv' := [(6, .int zx14), (0, .ref (zad w 0)), (1, .int a1), (2, .int a2), (3, .int x_3), (4, .int x_4), (5, .int x_5)]) hx hb dX11_where_195 hl (k := 6) rfl (by rw [ezx14, zc_i1]) (Nat.le_of_ble_eq_true rfl) rfl (fun ls hl => ?_)
            refine lv_goto (tgt := 52) hx hb dX11_where_198 rfl ?_
            exact zJ x_3 x_4 x_5 zx14 zm12 H locs ls hW (lv_sub hl [1, 2, 3, 4, 5, 6, 0] rfl) h
          · replace h := h.2 c
            refine lv_iload hx hb dX11_where_114 (lv_at hl 4 rfl) ?_
            refine lv_bipush hx hb dX11_where_116 zc_bm4 ?_
            refine lv_icmp_ne (tgt := 126) hx hb dX11_where_118 rfl (fun c => ?_) (fun c => ?_)
            · replace h := h.1 c
              refine lv_iload hx hb dX11_where_126 (lv_at hl 4 rfl) ?_
              exact zJ_128 x_3 x_5 x_6 x_4 _ zK201 _ zJ zm12 H locs ls hW (lv_sub hl [0, 1, 2, 3, 5, 6] rfl) h
            · replace h := h.2 c
              refine lv_iload hx hb dX11_where_121 (lv_at hl 6 rfl) ?_
              refine lv_goto (tgt := 128) hx hb dX11_where_123 rfl ?_
              exact zJ_128 x_3 x_5 x_6 x_6 _ zK201 _ zJ zm12 H locs ls hW (lv_sub hl [0, 1, 2, 3, 5, 6] rfl) h
  unfold wp_Model_where at h
  have zMain : ∀ (H : Heap) (locs : List Loc) (ls : Array Slot), zWo w s.heap M H locs → lv_has ls 7 [(0, .ref (zad w 0)), (1, .int a1), (2, .int a2)] → W p l e (zRm 9 210) s m ([.ref (zad w 0), .int a1, .int a2] : List Value).toArray below meth c H locs 0 0 (MQ below (va_Qi post (zB w) (zA w)) ([.ref (zad w 0), .int a1, .int a2] : List Value).toArray s 0 0 (zA w)) (F0 m 0 ls []) := by
    intro H locs ls hW hl
    refine lv_aload_n hx hb dX11_where_0 rfl (lv_at hl 0 rfl) ?_
    refine lv_iload_n hx hb dX11_where_1 rfl (lv_at hl 1 rfl) ?_
    refine zcalli (zrunV (As := [.int a1]) (rest := []) X hml hl hW h0.1 rfl zk_Model_166 (c_Model_isHand h0 h) rfl ⟨Nat.le_of_ble_eq_true rfl, Nat.le_of_ble_eq_true rfl⟩ ⟨Nat.le_refl 0, Nat.le_refl 0⟩ rfl (Nat.le_of_ble_eq_true rfl) dX11_where_2) hW (fun zr2 zm1 H locs h hW => ?_)
    refine lv_if_eq (tgt := 24) hx hb dX11_where_5 rfl (fun c => ?_) (fun c => ?_)
    · replace h := h.1 c
      refine lv_iconst hx hb dX11_where_24 zc_im1 ?_
      exact zreti X hr hlk hW h dX11_where_25
    · replace h := h.2 c
      refine lv_iload_n hx hb dX11_where_8 rfl (lv_at hl 1 rfl) ?_
      refine lv_if_eq (tgt := 24) hx hb dX11_where_9 rfl (fun c => ?_) (fun c => ?_)
      · replace h := h.1 c
        refine lv_iconst hx hb dX11_where_24 zc_im1 ?_
        exact zreti X hr hlk hW h dX11_where_25
      · replace h := h.2 c
        refine lv_iload_n hx hb dX11_where_12 rfl (lv_at hl 2 rfl) ?_
        refine lv_i2l hx hb dX11_where_13 rfl ?_
        refine lv_lconst hx hb dX11_where_14 zc_l0 ?_
        refine lv_ldc2 hx hb X.2.2.1 (X.2.2.2.1 _ zu_1427) dX11_where_15 ?_
        refine zcalli (zrunS (As := [.long a2.toInt64, .long 0, .long 3]) (rest := []) X hml hl hW zk_Model_69 (c_Model_in  h) rfl ⟨Nat.le_of_ble_eq_true rfl, Nat.le_of_ble_eq_true rfl⟩ ⟨Nat.le_refl 0, Nat.le_refl 0⟩ rfl (Nat.le_of_ble_eq_true rfl) dX11_where_18) hW (fun zr4 zm3 H locs h hW => ?_)
        refine lv_if_ne (tgt := 26) hx hb dX11_where_21 rfl (fun c => ?_) (fun c => ?_)
        · replace h := h.1 c
          refine lv_aload_n hx hb dX11_where_26 rfl (lv_at hl 0 rfl) ?_
          refine zcallv (zrunV (As := []) (rest := []) X hml hl hW h0.1 rfl zk_Model_243 (c_Model_asNumbered h0 h) rfl ⟨Nat.le_of_ble_eq_true rfl, Nat.le_of_ble_eq_true rfl⟩ ⟨Nat.le_refl 0, Nat.le_refl 0⟩ rfl (Nat.le_of_ble_eq_true rfl) dX11_where_27) hW (fun zm5 H locs h hW => ?_)
          refine lv_aload_n hx hb dX11_where_30 rfl (lv_at hl 0 rfl) ?_
          refine zcalli (zrunV (As := []) (rest := []) X hml hl hW h0.1 rfl zk_Model_295 (c_Model_hasRing h0 h) rfl ⟨Nat.le_of_ble_eq_true rfl, Nat.le_of_ble_eq_true rfl⟩ ⟨Nat.le_refl 0, Nat.le_refl 0⟩ rfl (Nat.le_of_ble_eq_true rfl) dX11_where_31) hW (fun zr8 zm7 H locs h hW => ?_)
          refine lv_if_ne (tgt := 40) hx hb dX11_where_34 rfl (fun c => ?_) (fun c => ?_)
          · replace h := h.1 c
            refine lv_iconst hx hb dX11_where_40 zc_i0 ?_
            refine lv_istore_n (lv' := [(3, .int 0), (0, .ref (zad w 0)), (1, .int a1), (2, .int a2)]) hx hb dX11_where_41 rfl hl (Nat.le_of_ble_eq_true rfl) rfl (fun ls hl => ?_)
            refine lv_bipush hx hb dX11_where_42 zc_bm4 ?_
            refine lv_istore (lv' := [(4, .int ((-4))), (3, .int 0), (0, .ref (zad w 0)), (1, .int a1), (2, .int a2)]) hx hb dX11_where_44 hl (Nat.le_of_ble_eq_true rfl) rfl (fun ls hl => ?_)
            refine lv_iconst hx hb dX11_where_46 zc_i1 ?_
            refine lv_istore (lv' := [(5, .int 1), (4, .int ((-4))), (3, .int 0), (0, .ref (zad w 0)), (1, .int a1), (2, .int a2)]) hx hb dX11_where_47 hl (Nat.le_of_ble_eq_true rfl) rfl (fun ls hl => ?_)
            refine lv_iconst hx hb dX11_where_49 zc_i0 ?_
            refine lv_istore (lv' := [(6, .int 0), (5, .int 1), (4, .int ((-4))), (3, .int 0), (0, .ref (zad w 0)), (1, .int a1), (2, .int a2)]) hx hb dX11_where_50 hl (Nat.le_of_ble_eq_true rfl) rfl (fun ls hl => ?_)
            obtain ⟨n, h⟩ := h
            refine zL_52  _ (fun zx24 zx25 zx26 zm23 H locs ls hW hl h => ?_) n 0 ((-4)) 1 0 zm7 H locs ls hW (lv_sub hl [4, 5, 6, 3, 2, 1, 0] rfl) h
            · skip
              refine lv_iload_n hx hb dX11_where_201 rfl (lv_at hl 1 rfl) ?_
              refine lv_if_ne (tgt := 209) hx hb dX11_where_202 rfl (fun c => ?_) (fun c => ?_)
              · replace h := h.1 c
                refine lv_iload_n hx hb dX11_where_209 rfl (lv_at hl 1 rfl) ?_
                refine lv_iconst hx hb dX11_where_210 zc_i1 ?_
                refine lv_icmp_ne (tgt := 227) hx hb dX11_where_211 rfl (fun c => ?_) (fun c => ?_)
                · replace h := h.1 c
                  refine lv_iload hx hb dX11_where_227 (lv_at hl 3 rfl) ?_
                  refine lv_bipush hx hb dX11_where_229 zc_bm4 ?_
                  refine lv_icmp_ne (tgt := 239) hx hb dX11_where_231 rfl (fun c => ?_) (fun c => ?_)
                  · replace h := h.1 c
                    refine lv_aload_n hx hb dX11_where_239 rfl (lv_at hl 0 rfl) ?_
                    refine zg_Model_overs X hW h0 zu_1042 dX11_where_240 ?_
                    refine lv_iconst hx hb dX11_where_243 zc_i5 ?_
                    refine lv_iload hx hb dX11_where_244 (lv_at hl 3 rfl) ?_
                    refine lv_imul hx hb dX11_where_246 ?_
                    refine lv_iload_n hx hb dX11_where_247 rfl (lv_at hl 1 rfl) ?_
                    refine lv_iadd hx hb dX11_where_248 ?_
                    obtain ⟨g, h⟩ := h
                    refine ziald X hW h0.2.2.2.2.2.2.2.2.2.1 g dX11_where_249 ?_
                    exact zreti X hr hlk hW h dX11_where_250
                  · replace h := h.2 c
                    refine lv_bipush hx hb dX11_where_234 zc_bm4 ?_
                    refine lv_goto (tgt := 250) hx hb dX11_where_236 rfl ?_
                    exact zreti X hr hlk hW h dX11_where_250
                · replace h := h.2 c
                  refine lv_iload hx hb dX11_where_214 (lv_at hl 4 rfl) ?_
                  refine lv_if_eq (tgt := 223) hx hb dX11_where_216 rfl (fun c => ?_) (fun c => ?_)
                  · replace h := h.1 c
                    refine lv_iconst hx hb dX11_where_223 zc_i0 ?_
                    refine lv_goto (tgt := 250) hx hb dX11_where_224 rfl ?_
                    exact zreti X hr hlk hW h dX11_where_250
                  · replace h := h.2 c
                    refine lv_iconst hx hb dX11_where_219 zc_i1 ?_
                    refine lv_goto (tgt := 250) hx hb dX11_where_220 rfl ?_
                    exact zreti X hr hlk hW h dX11_where_250
              · replace h := h.2 c
                refine lv_iload_n hx hb dX11_where_205 rfl (lv_at hl 2 rfl) ?_
                refine lv_goto (tgt := 250) hx hb dX11_where_206 rfl ?_
                exact zreti X hr hlk hW h dX11_where_250
          · replace h := h.2 c
            refine lv_bipush hx hb dX11_where_37 zc_bm4 ?_
            exact zreti X hr hlk hW h dX11_where_39
        · replace h := h.2 c
          refine lv_iconst hx hb dX11_where_24 zc_im1 ?_
          exact zreti X hr hlk hW h dX11_where_25
  exact zMain s.heap [] ls hW hl
def wpB_Model_lowest_6 (a1 : Int64) (a2 : Int64) (a3 : Int32)   (Q : Int64 → zMem → Prop) (J : Int64 → Int64 → zMem → Prop) (x_5 : Int64) (x_7 : Int64) (M : zMem) : Prop :=
  ((lg_cmp x_7 0) = 0 → (¬ a3 = 0 → (¬ x_5 = 0) ∧ Q (a2 / x_5) M) ∧ (a3 = 0 → (¬ x_5 = 0) ∧ Q (a1 / x_5) M)) ∧ (¬ (lg_cmp x_7 0) = 0 → (¬ x_7 = 0) ∧ ∀ zx1 : Int64, zx1 = x_5 - x_5 / x_7 * x_7 → J x_7 zx1 M)
def wp_Model_lowest (a1 : Int64) (a2 : Int64) (a3 : Int32) (M : zMem) (Q : Int64 → zMem → Prop) : Prop :=
  ∃ n : Nat, zlp2 (wpB_Model_lowest_6 a1 a2 a3   Q) n a1 a2 M
set_option maxHeartbeats 4000000 in
set_option maxRecDepth 20000 in
theorem c_Model_lowest {l : Launch} {w : zWd} {a1 : Int64} {a2 : Int64} {a3 : Int32} {M : zMem} {post : Int64 → zMem → Prop}  (h : wp_Model_lowest a1 a2 a3 M post) : zMl l ⟨"HandToHandModel", "lowest", "(JJI)J"⟩ prog_13_method_72_code 11 (Option.some .long) 0 0 w [.long a1, .long a2, .int a3] M post := by
  refine zMet (by decide) (Nat.le_of_ble_eq_true rfl) ?_
  intro p e s m below meth c X hr hlk hml hW ls hl
  have hx := X.1
  have hb := X.2.1
  have hl : lv_has ls 11 [(0, .long a1), (2, .long a2), (4, .int a3)] := hl
  have zL_6 :  ∀ (n : Nat) (x_5 : Int64) (x_7 : Int64) (M : zMem) (H : Heap) (locs : List Loc) (ls : Array Slot), zWo w s.heap M H locs → lv_has ls 11 [(0, .long a1), (2, .long a2), (4, .int a3), (5, .long x_5), (7, .long x_7)] → zlp2 (wpB_Model_lowest_6 a1 a2 a3   post) n x_5 x_7 M → W p l e (zRm 0 0) s m ([.long a1, .long a2, .int a3] : List Value).toArray below meth c H locs 0 0 (MQ below (va_Ql post (zB w) (zA w)) ([.long a1, .long a2, .int a3] : List Value).toArray s 0 0 (zA w)) (F0 m 6 ls []) := by
    intro n
    induction n with
    | zero => intro x_5 x_7 M H locs ls hW hl h; exact h.elim
    | succ n zJ =>
      intro x_5 x_7 M H locs ls hW hl h
      have h : wpB_Model_lowest_6 a1 a2 a3   post (zlp2 (wpB_Model_lowest_6 a1 a2 a3   post) n) x_5 x_7 M := h
      unfold wpB_Model_lowest_6 at h
      refine lv_lload hx hb dX11_lowest_6 (lv_at hl 4 rfl) ?_
      refine lv_lconst hx hb dX11_lowest_8 zc_l0 ?_
      refine W.lcmp hx hb dX11_lowest_9 ?_
      refine lv_if_eq (tgt := 31) hx hb dX11_lowest_10 rfl (fun c => ?_) (fun c => ?_)
      · replace h := h.1 c
        refine lv_iload hx hb dX11_lowest_31 (lv_at hl 2 rfl) ?_
        refine lv_if_ne (tgt := 40) hx hb dX11_lowest_33 rfl (fun c => ?_) (fun c => ?_)
        · replace h := h.1 c
          refine lv_lload_n hx hb dX11_lowest_40 rfl (lv_at hl 1 rfl) ?_
          refine lv_lload hx hb dX11_lowest_41 (lv_at hl 3 rfl) ?_
          obtain ⟨g, h⟩ := h
          refine lv_ldiv hx hb dX11_lowest_43 g ?_
          exact zretl X hr hlk hW h dX11_lowest_44
        · replace h := h.2 c
          refine lv_lload_n hx hb dX11_lowest_36 rfl (lv_at hl 0 rfl) ?_
          refine lv_goto (tgt := 41) hx hb dX11_lowest_37 rfl ?_
          refine lv_lload hx hb dX11_lowest_41 (lv_at hl 3 rfl) ?_
          obtain ⟨g, h⟩ := h
          refine lv_ldiv hx hb dX11_lowest_43 g ?_
          exact zretl X hr hlk hW h dX11_lowest_44
      · replace h := h.2 c
        refine lv_lload hx hb dX11_lowest_13 (lv_at hl 3 rfl) ?_
        refine lv_lload hx hb dX11_lowest_15 (lv_at hl 4 rfl) ?_
        obtain ⟨g, h⟩ := h
        refine lv_lrem hx hb dX11_lowest_17 g ?_
        refine lv_topl (fun zx1 ezx1 => ?_)
        replace h := h zx1 ezx1
        refine lv_lstore (lv' := [(9, .long zx1), (0, .long a1), (2, .long a2), (4, .int a3), (5, .long x_5), (7, .long x_7)]) hx hb dX11_lowest_18 hl (Nat.le_of_ble_eq_true rfl) rfl (fun ls hl => ?_)
        refine lv_lload hx hb dX11_lowest_20 (lv_at hl 5 rfl) ?_
        refine lv_lstore (lv' := [(5, .long x_7), (9, .long zx1), (0, .long a1), (2, .long a2), (4, .int a3), (7, .long x_7)]) hx hb dX11_lowest_22 hl (Nat.le_of_ble_eq_true rfl) rfl (fun ls hl => ?_)
        refine lv_lload hx hb dX11_lowest_24 (lv_at hl 1 rfl) ?_
        refine lv_lstore (lv' := [(7, .long zx1), (5, .long x_7), (9, .long zx1), (0, .long a1), (2, .long a2), (4, .int a3)]) hx hb dX11_lowest_26 hl (Nat.le_of_ble_eq_true rfl) rfl (fun ls hl => ?_)
        refine lv_goto (tgt := 6) hx hb dX11_lowest_28 rfl ?_
        exact zJ x_7 zx1 M H locs ls hW (lv_sub hl [3, 4, 5, 1, 0] rfl) h
  unfold wp_Model_lowest at h
  have zMain : ∀ (H : Heap) (locs : List Loc) (ls : Array Slot), zWo w s.heap M H locs → lv_has ls 11 [(0, .long a1), (2, .long a2), (4, .int a3)] → W p l e (zRm 0 0) s m ([.long a1, .long a2, .int a3] : List Value).toArray below meth c H locs 0 0 (MQ below (va_Ql post (zB w) (zA w)) ([.long a1, .long a2, .int a3] : List Value).toArray s 0 0 (zA w)) (F0 m 0 ls []) := by
    intro H locs ls hW hl
    refine lv_lload_n hx hb dX11_lowest_0 rfl (lv_at hl 0 rfl) ?_
    refine lv_lstore (lv' := [(5, .long a1), (0, .long a1), (2, .long a2), (4, .int a3)]) hx hb dX11_lowest_1 hl (Nat.le_of_ble_eq_true rfl) rfl (fun ls hl => ?_)
    refine lv_lload_n hx hb dX11_lowest_3 rfl (lv_at hl 2 rfl) ?_
    refine lv_lstore (lv' := [(7, .long a2), (5, .long a1), (0, .long a1), (2, .long a2), (4, .int a3)]) hx hb dX11_lowest_4 hl (Nat.le_of_ble_eq_true rfl) rfl (fun ls hl => ?_)
    obtain ⟨n, h⟩ := h
    refine zL_6   n a1 a2 M H locs ls hW (lv_sub hl [2, 3, 4, 1, 0] rfl) h
  exact zMain s.heap [] ls hW hl
def wp_Model_made (a1 : Int32) (M : zMem) (Q : Int32 → zMem → Prop) : Prop :=
  wp_Model_lowest ((M 0 31).toInt64) ((M 0 32).toInt64) a1 M (fun zr2 zm1 => Q zr2.toInt32 zm1)
set_option maxHeartbeats 4000000 in
set_option maxRecDepth 20000 in
theorem c_Model_made {l : Launch} {w : zWd} {a1 : Int32} {M : zMem} {post : Int32 → zMem → Prop} (h0 : zI_Model w) (h : wp_Model_made a1 M post) : zMi l ⟨"HandToHandModel", "made", "(I)I"⟩ prog_13_method_73_code 2 (Option.some .int) 1 30 w [.ref (zad w 0), .int a1] M post := by
  refine zMet (by decide) (Nat.le_of_ble_eq_true rfl) ?_
  intro p e s m below meth c X hr hlk hml hW ls hl
  have hx := X.1
  have hb := X.2.1
  have hl : lv_has ls 2 [(0, .ref (zad w 0)), (1, .int a1)] := hl
  unfold wp_Model_made at h
  have zMain : ∀ (H : Heap) (locs : List Loc) (ls : Array Slot), zWo w s.heap M H locs → lv_has ls 2 [(0, .ref (zad w 0)), (1, .int a1)] → W p l e (zRm 1 30) s m ([.ref (zad w 0), .int a1] : List Value).toArray below meth c H locs 0 0 (MQ below (va_Qi post (zB w) (zA w)) ([.ref (zad w 0), .int a1] : List Value).toArray s 0 0 (zA w)) (F0 m 0 ls []) := by
    intro H locs ls hW hl
    refine lv_aload_n hx hb dX11_made_0 rfl (lv_at hl 0 rfl) ?_
    refine zg_Model_ringCoats X hW h0 zu_1051 dX11_made_1 ?_
    refine lv_i2l hx hb dX11_made_4 rfl ?_
    refine lv_aload_n hx hb dX11_made_5 rfl (lv_at hl 0 rfl) ?_
    refine zg_Model_ringTicks X hW h0 zu_1052 dX11_made_6 ?_
    refine lv_i2l hx hb dX11_made_9 rfl ?_
    refine lv_iload_n hx hb dX11_made_10 rfl (lv_at hl 1 rfl) ?_
    refine zcalll (zrunS (As := [.long ((M 0 31).toInt64), .long ((M 0 32).toInt64), .int a1]) (rest := []) X hml hl hW zk_Model_301 (c_Model_lowest  h) rfl ⟨Nat.le_of_ble_eq_true rfl, Nat.le_of_ble_eq_true rfl⟩ ⟨Nat.le_refl 0, Nat.le_refl 0⟩ rfl (Nat.le_of_ble_eq_true rfl) dX11_made_11) hW (fun zr2 zm1 H locs h hW => ?_)
    refine lv_l2i hx hb dX11_made_14 rfl ?_
    exact zreti X hr hlk hW h dX11_made_15
  exact zMain s.heap [] ls hW hl
def wp_Model_makes (a1 : Int32) (M : zMem) (Q : Int32 → zMem → Prop) : Prop :=
  wp_Model_in a1.toInt64 0 1 M (fun zr2 zm1 => (¬ zr2 = 0 → wp_Model_asNumbered zm1 (fun zm3 => wp_Model_hasRing zm3 (fun zr6 zm5 => wp_Model_made a1 zm5 (fun zr8 zm7 => Q zr8 zm7)))) ∧ (zr2 = 0 → Q ((-1)) zm1))
set_option maxHeartbeats 4000000 in
set_option maxRecDepth 20000 in
theorem c_Model_makes {l : Launch} {w : zWd} {a1 : Int32} {M : zMem} {post : Int32 → zMem → Prop} (h0 : zI_Model w) (h : wp_Model_makes a1 M post) : zMi l ⟨"HandToHandModel", "makes", "(I)I"⟩ prog_13_method_74_code 2 (Option.some .int) 9 210 w [.ref (zad w 0), .int a1] M post := by
  refine zMet (by decide) (Nat.le_of_ble_eq_true rfl) ?_
  intro p e s m below meth c X hr hlk hml hW ls hl
  have hx := X.1
  have hb := X.2.1
  have hl : lv_has ls 2 [(0, .ref (zad w 0)), (1, .int a1)] := hl
  unfold wp_Model_makes at h
  have zMain : ∀ (H : Heap) (locs : List Loc) (ls : Array Slot), zWo w s.heap M H locs → lv_has ls 2 [(0, .ref (zad w 0)), (1, .int a1)] → W p l e (zRm 9 210) s m ([.ref (zad w 0), .int a1] : List Value).toArray below meth c H locs 0 0 (MQ below (va_Qi post (zB w) (zA w)) ([.ref (zad w 0), .int a1] : List Value).toArray s 0 0 (zA w)) (F0 m 0 ls []) := by
    intro H locs ls hW hl
    refine lv_iload_n hx hb dX11_makes_0 rfl (lv_at hl 1 rfl) ?_
    refine lv_i2l hx hb dX11_makes_1 rfl ?_
    refine lv_lconst hx hb dX11_makes_2 zc_l0 ?_
    refine lv_lconst hx hb dX11_makes_3 zc_l1 ?_
    refine zcalli (zrunS (As := [.long a1.toInt64, .long 0, .long 1]) (rest := []) X hml hl hW zk_Model_69 (c_Model_in  h) rfl ⟨Nat.le_of_ble_eq_true rfl, Nat.le_of_ble_eq_true rfl⟩ ⟨Nat.le_refl 0, Nat.le_refl 0⟩ rfl (Nat.le_of_ble_eq_true rfl) dX11_makes_4) hW (fun zr2 zm1 H locs h hW => ?_)
    refine lv_if_ne (tgt := 12) hx hb dX11_makes_7 rfl (fun c => ?_) (fun c => ?_)
    · replace h := h.1 c
      refine lv_aload_n hx hb dX11_makes_12 rfl (lv_at hl 0 rfl) ?_
      refine zcallv (zrunV (As := []) (rest := []) X hml hl hW h0.1 rfl zk_Model_243 (c_Model_asNumbered h0 h) rfl ⟨Nat.le_of_ble_eq_true rfl, Nat.le_of_ble_eq_true rfl⟩ ⟨Nat.le_refl 0, Nat.le_refl 0⟩ rfl (Nat.le_of_ble_eq_true rfl) dX11_makes_13) hW (fun zm3 H locs h hW => ?_)
      refine lv_aload_n hx hb dX11_makes_16 rfl (lv_at hl 0 rfl) ?_
      refine zcalli (zrunV (As := []) (rest := []) X hml hl hW h0.1 rfl zk_Model_295 (c_Model_hasRing h0 h) rfl ⟨Nat.le_of_ble_eq_true rfl, Nat.le_of_ble_eq_true rfl⟩ ⟨Nat.le_refl 0, Nat.le_refl 0⟩ rfl (Nat.le_of_ble_eq_true rfl) dX11_makes_17) hW (fun zr6 zm5 H locs h hW => ?_)
      refine lv_pop hx hb dX11_makes_20 rfl ?_
      refine lv_aload_n hx hb dX11_makes_21 rfl (lv_at hl 0 rfl) ?_
      refine lv_iload_n hx hb dX11_makes_22 rfl (lv_at hl 1 rfl) ?_
      refine zcalli (zrunV (As := [.int a1]) (rest := []) X hml hl hW h0.1 rfl zk_Model_305 (c_Model_made h0 h) rfl ⟨Nat.le_of_ble_eq_true rfl, Nat.le_of_ble_eq_true rfl⟩ ⟨Nat.le_refl 0, Nat.le_refl 0⟩ rfl (Nat.le_of_ble_eq_true rfl) dX11_makes_23) hW (fun zr8 zm7 H locs h hW => ?_)
      exact zreti X hr hlk hW h dX11_makes_26
    · replace h := h.2 c
      refine lv_iconst hx hb dX11_makes_10 zc_im1 ?_
      exact zreti X hr hlk hW h dX11_makes_11
  exact zMain s.heap [] ls hW hl
