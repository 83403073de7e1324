def wp_Model_judge (a1 : Int32) (a2 : Int32) (a3 : Int32) (a4 : Int32) (a5 : Int32) (M : zMem) (Q : Int32 → zMem → Prop) : Prop :=
  wp_Model_asNumbered M (fun zm1 => wp_Model_runs 120 0 zm1 (fun zm3 => wp_Model_oversKept zm3 (fun zr6 zm5 => wp_Model_in a1.toInt64 0 ((zr6 - 1).toInt64) zm5 (fun zr8 zm7 => (¬ zr8 = 0 → vp_in (5 * a1) 3000 ∧ (a2 = (zm7 10 (ix (5 * a1))) → vp_in ((5 * a1) + 1) 3000 ∧ (a3 = (zm7 10 (ix ((5 * a1) + 1))) → vp_in ((5 * a1) + 2) 3000 ∧ (a4 = (zm7 10 (ix ((5 * a1) + 2))) → vp_in ((5 * a1) + 3) 3000 ∧ (a5 = (zm7 10 (ix ((5 * a1) + 3))) → Q 0 zm7) ∧ (¬ a5 = (zm7 10 (ix ((5 * a1) + 3))) → Q 4 zm7)) ∧ (¬ a4 = (zm7 10 (ix ((5 * a1) + 2))) → Q 3 zm7)) ∧ (¬ a3 = (zm7 10 (ix ((5 * a1) + 1))) → Q 2 zm7)) ∧ (¬ a2 = (zm7 10 (ix (5 * a1))) → Q 1 zm7)) ∧ (zr8 = 0 → Q ((-1)) zm7)))))
set_option maxHeartbeats 4000000 in
set_option maxRecDepth 20000 in
theorem c_Model_judge {l : Launch} {w : zWd} {a1 : Int32} {a2 : Int32} {a3 : Int32} {a4 : Int32} {a5 : Int32} {M : zMem} {post : Int32 → zMem → Prop} (h0 : zI_Model w) (h : wp_Model_judge a1 a2 a3 a4 a5 M post) : zMi l ⟨"HandToHandModel", "judge", "(IIIII)I"⟩ prog_13_method_68_code 6 (Option.some .int) 8 190 w [.ref (zad w 0), .int a1, .int a2, .int a3, .int a4, .int a5] M post := by
  refine zMet (by decide) (Nat.le_of_ble_eq_true rfl) ?_
  intro p e s m below meth c X hr hlk hml hW ls hl
  have hx := X.1
  have hb := X.2.1
  have hl : lv_has ls 6 [(0, .ref (zad w 0)), (1, .int a1), (2, .int a2), (3, .int a3), (4, .int a4), (5, .int a5)] := hl
  unfold wp_Model_judge at h
  have zMain : ∀ (H : Heap) (locs : List Loc) (ls : Array Slot), zWo w s.heap M H locs → lv_has ls 6 [(0, .ref (zad w 0)), (1, .int a1), (2, .int a2), (3, .int a3), (4, .int a4), (5, .int a5)] → W p l e (zRm 8 190) s m ([.ref (zad w 0), .int a1, .int a2, .int a3, .int a4, .int a5] : List Value).toArray below meth c H locs 0 0 (MQ below (va_Qi post (zB w) (zA w)) ([.ref (zad w 0), .int a1, .int a2, .int a3, .int a4, .int a5] : List Value).toArray s 0 0 (zA w)) (F0 m 0 ls []) := by
    intro H locs ls hW hl
    refine lv_aload_n hx hb dX11_judge_0 rfl (lv_at hl 0 rfl) ?_
    refine zcallv (zrunV (As := []) (rest := []) X hml hl hW h0.1 rfl zk_Model_243 (c_Model_asNumbered h0 h) rfl ⟨Nat.le_of_ble_eq_true rfl, Nat.le_of_ble_eq_true rfl⟩ ⟨Nat.le_refl 0, Nat.le_refl 0⟩ rfl (Nat.le_of_ble_eq_true rfl) dX11_judge_1) hW (fun zm1 H locs h hW => ?_)
    refine lv_aload_n hx hb dX11_judge_4 rfl (lv_at hl 0 rfl) ?_
    refine lv_bipush hx hb dX11_judge_5 zc_b120 ?_
    refine lv_iconst hx hb dX11_judge_7 zc_i0 ?_
    refine zcallv (zrunV (As := [.int 120, .int 0]) (rest := []) X hml hl hW h0.1 rfl zk_Model_282 (c_Model_runs h0 h) rfl ⟨Nat.le_of_ble_eq_true rfl, Nat.le_of_ble_eq_true rfl⟩ ⟨Nat.le_refl 0, Nat.le_refl 0⟩ rfl (Nat.le_of_ble_eq_true rfl) dX11_judge_8) hW (fun zm3 H locs h hW => ?_)
    refine lv_iload_n hx hb dX11_judge_11 rfl (lv_at hl 1 rfl) ?_
    refine lv_i2l hx hb dX11_judge_12 rfl ?_
    refine lv_lconst hx hb dX11_judge_13 zc_l0 ?_
    refine lv_aload_n hx hb dX11_judge_14 rfl (lv_at hl 0 rfl) ?_
    refine zcalli (zrunV (As := []) (rest := [.long 0, .long a1.toInt64]) X hml hl hW h0.1 rfl zk_Model_286 (c_Model_oversKept h0 h) rfl ⟨Nat.le_of_ble_eq_true rfl, Nat.le_of_ble_eq_true rfl⟩ ⟨Nat.le_refl 0, Nat.le_refl 0⟩ rfl (Nat.le_of_ble_eq_true rfl) dX11_judge_15) hW (fun zr6 zm5 H locs h hW => ?_)
    refine lv_iconst hx hb dX11_judge_18 zc_i1 ?_
    refine lv_isub hx hb dX11_judge_19 ?_
    refine lv_i2l hx hb dX11_judge_20 rfl ?_
    refine zcalli (zrunS (As := [.long a1.toInt64, .long 0, .long ((zr6 - 1).toInt64)]) (rest := []) X hml hl hW zk_Model_69 (c_Model_in  h) rfl ⟨Nat.le_of_ble_eq_true rfl, Nat.le_of_ble_eq_true rfl⟩ ⟨Nat.le_refl 0, Nat.le_refl 0⟩ rfl (Nat.le_of_ble_eq_true rfl) dX11_judge_21) hW (fun zr8 zm7 H locs h hW => ?_)
    refine lv_if_ne (tgt := 29) hx hb dX11_judge_24 rfl (fun c => ?_) (fun c => ?_)
    · replace h := h.1 c
      refine lv_iload_n hx hb dX11_judge_29 rfl (lv_at hl 2 rfl) ?_
      refine lv_aload_n hx hb dX11_judge_30 rfl (lv_at hl 0 rfl) ?_
      refine zg_Model_overs X hW h0 zu_1042 dX11_judge_31 ?_
      refine lv_iconst hx hb dX11_judge_34 zc_i5 ?_
      refine lv_iload_n hx hb dX11_judge_35 rfl (lv_at hl 1 rfl) ?_
      refine lv_imul hx hb dX11_judge_36 ?_
      obtain ⟨g, h⟩ := h
      refine ziald X hW h0.2.2.2.2.2.2.2.2.2.1 g dX11_judge_37 ?_
      refine lv_icmp_eq (tgt := 45) hx hb dX11_judge_38 rfl (fun c => ?_) (fun c => ?_)
      · replace h := h.1 c
        refine lv_iload_n hx hb dX11_judge_45 rfl (lv_at hl 3 rfl) ?_
        refine lv_aload_n hx hb dX11_judge_46 rfl (lv_at hl 0 rfl) ?_
        refine zg_Model_overs X hW h0 zu_1042 dX11_judge_47 ?_
        refine lv_iconst hx hb dX11_judge_50 zc_i5 ?_
        refine lv_iload_n hx hb dX11_judge_51 rfl (lv_at hl 1 rfl) ?_
        refine lv_imul hx hb dX11_judge_52 ?_
        refine lv_iconst hx hb dX11_judge_53 zc_i1 ?_
        refine lv_iadd hx hb dX11_judge_54 ?_
        obtain ⟨g, h⟩ := h
        refine ziald X hW h0.2.2.2.2.2.2.2.2.2.1 g dX11_judge_55 ?_
        refine lv_icmp_eq (tgt := 63) hx hb dX11_judge_56 rfl (fun c => ?_) (fun c => ?_)
        · replace h := h.1 c
          refine lv_iload hx hb dX11_judge_63 (lv_at hl 4 rfl) ?_
          refine lv_aload_n hx hb dX11_judge_65 rfl (lv_at hl 0 rfl) ?_
          refine zg_Model_overs X hW h0 zu_1042 dX11_judge_66 ?_
          refine lv_iconst hx hb dX11_judge_69 zc_i5 ?_
          refine lv_iload_n hx hb dX11_judge_70 rfl (lv_at hl 1 rfl) ?_
          refine lv_imul hx hb dX11_judge_71 ?_
          refine lv_iconst hx hb dX11_judge_72 zc_i2 ?_
          refine lv_iadd hx hb dX11_judge_73 ?_
          obtain ⟨g, h⟩ := h
          refine ziald X hW h0.2.2.2.2.2.2.2.2.2.1 g dX11_judge_74 ?_
          refine lv_icmp_eq (tgt := 82) hx hb dX11_judge_75 rfl (fun c => ?_) (fun c => ?_)
          · replace h := h.1 c
            refine lv_iload hx hb dX11_judge_82 (lv_at hl 5 rfl) ?_
            refine lv_aload_n hx hb dX11_judge_84 rfl (lv_at hl 0 rfl) ?_
            refine zg_Model_overs X hW h0 zu_1042 dX11_judge_85 ?_
            refine lv_iconst hx hb dX11_judge_88 zc_i5 ?_
            refine lv_iload_n hx hb dX11_judge_89 rfl (lv_at hl 1 rfl) ?_
            refine lv_imul hx hb dX11_judge_90 ?_
            refine lv_iconst hx hb dX11_judge_91 zc_i3 ?_
            refine lv_iadd hx hb dX11_judge_92 ?_
            obtain ⟨g, h⟩ := h
            refine ziald X hW h0.2.2.2.2.2.2.2.2.2.1 g dX11_judge_93 ?_
            refine lv_icmp_eq (tgt := 101) hx hb dX11_judge_94 rfl (fun c => ?_) (fun c => ?_)
            · replace h := h.1 c
              refine lv_iconst hx hb dX11_judge_101 zc_i0 ?_
              exact zreti X hr hlk hW h dX11_judge_102
            · replace h := h.2 c
              refine lv_iconst hx hb dX11_judge_97 zc_i4 ?_
              refine lv_goto (tgt := 102) hx hb dX11_judge_98 rfl ?_
              exact zreti X hr hlk hW h dX11_judge_102
          · replace h := h.2 c
            refine lv_iconst hx hb dX11_judge_78 zc_i3 ?_
            refine lv_goto (tgt := 102) hx hb dX11_judge_79 rfl ?_
            exact zreti X hr hlk hW h dX11_judge_102
        · replace h := h.2 c
          refine lv_iconst hx hb dX11_judge_59 zc_i2 ?_
          refine lv_goto (tgt := 102) hx hb dX11_judge_60 rfl ?_
          exact zreti X hr hlk hW h dX11_judge_102
      · replace h := h.2 c
        refine lv_iconst hx hb dX11_judge_41 zc_i1 ?_
        refine lv_goto (tgt := 102) hx hb dX11_judge_42 rfl ?_
        exact zreti X hr hlk hW h dX11_judge_102
    · replace h := h.2 c
      refine lv_iconst hx hb dX11_judge_27 zc_im1 ?_
      exact zreti X hr hlk hW h dX11_judge_28
  exact zMain s.heap [] ls hW hl
def wp_Model_hasRing  (M : zMem) (Q : Int32 → zMem → Prop) : Prop :=
  wp_Model_runs 120 1 M (fun zm1 => (¬ (zm1 0 29) = (-4) → vp_in (zm1 0 30) 120 ∧ vp_in (zm1 0 29) 120 ∧ ∀ zm3 : zMem, zm3 = zup zm1 0 31 ((zm1 13 (ix (zm1 0 30))) - (zm1 13 (ix (zm1 0 29)))) → (¬ (zm3 0 29) = (-4) → vp_in (zm3 0 30) 120 ∧ vp_in (zm3 0 29) 120 ∧ ∀ zm4 : zMem, zm4 = zup zm3 0 32 ((zm3 14 (ix (zm3 0 30))) - (zm3 14 (ix (zm3 0 29)))) → ((zm4 0 29) = (-4) → Q 0 zm4) ∧ (¬ (zm4 0 29) = (-4) → Q 1 zm4)) ∧ ((zm3 0 29) = (-4) → ∀ zm5 : zMem, zm5 = zup zm3 0 32 1 → ((zm5 0 29) = (-4) → Q 0 zm5) ∧ (¬ (zm5 0 29) = (-4) → Q 1 zm5))) ∧ ((zm1 0 29) = (-4) → ∀ zm6 : zMem, zm6 = zup zm1 0 31 0 → (¬ (zm6 0 29) = (-4) → vp_in (zm6 0 30) 120 ∧ vp_in (zm6 0 29) 120 ∧ ∀ zm7 : zMem, zm7 = zup zm6 0 32 ((zm6 14 (ix (zm6 0 30))) - (zm6 14 (ix (zm6 0 29)))) → ((zm7 0 29) = (-4) → Q 0 zm7) ∧ (¬ (zm7 0 29) = (-4) → Q 1 zm7)) ∧ ((zm6 0 29) = (-4) → ∀ zm8 : zMem, zm8 = zup zm6 0 32 1 → ((zm8 0 29) = (-4) → Q 0 zm8) ∧ (¬ (zm8 0 29) = (-4) → Q 1 zm8))))
set_option maxHeartbeats 4000000 in
set_option maxRecDepth 20000 in
theorem c_Model_hasRing {l : Launch} {w : zWd} {M : zMem} {post : Int32 → zMem → Prop} (h0 : zI_Model w) (h : wp_Model_hasRing  M post) : zMi l ⟨"HandToHandModel", "hasRing", "()Z"⟩ prog_13_method_69_code 1 (Option.some .boolean) 8 190 w [.ref (zad w 0)] M post := by
  refine zMet (by decide) (Nat.le_of_ble_eq_true rfl) ?_
  intro p e s m below meth c X hr hlk hml hW ls hl
  have hx := X.1
  have hb := X.2.1
  have hl : lv_has ls 1 [(0, .ref (zad w 0))] := hl
  unfold wp_Model_hasRing at h
  have zMain : ∀ (H : Heap) (locs : List Loc) (ls : Array Slot), zWo w s.heap M H locs → lv_has ls 1 [(0, .ref (zad w 0))] → W p l e (zRm 8 190) s m ([.ref (zad w 0)] : List Value).toArray below meth c H locs 0 0 (MQ below (va_Qi post (zB w) (zA w)) ([.ref (zad w 0)] : List Value).toArray s 0 0 (zA w)) (F0 m 0 ls []) := by
    intro H locs ls hW hl
    refine lv_aload_n hx hb dX11_hasRing_0 rfl (lv_at hl 0 rfl) ?_
    refine lv_bipush hx hb dX11_hasRing_1 zc_b120 ?_
    refine lv_iconst hx hb dX11_hasRing_3 zc_i1 ?_
    refine zcallv (zrunV (As := [.int 120, .int 1]) (rest := []) X hml hl hW h0.1 rfl zk_Model_282 (c_Model_runs h0 h) rfl ⟨Nat.le_of_ble_eq_true rfl, Nat.le_of_ble_eq_true rfl⟩ ⟨Nat.le_refl 0, Nat.le_refl 0⟩ rfl (Nat.le_of_ble_eq_true rfl) dX11_hasRing_4) hW (fun zm1 H locs h hW => ?_)
    refine lv_aload_n hx hb dX11_hasRing_7 rfl (lv_at hl 0 rfl) ?_
    refine lv_aload_n hx hb dX11_hasRing_8 rfl (lv_at hl 0 rfl) ?_
    refine zg_Model_ringFrom X hW h0 zu_1049 dX11_hasRing_9 ?_
    refine lv_bipush hx hb dX11_hasRing_12 zc_bm4 ?_
    refine lv_icmp_ne (tgt := 21) hx hb dX11_hasRing_14 rfl (fun c => ?_) (fun c => ?_)
    · replace h := h.1 c
      refine lv_aload_n hx hb dX11_hasRing_21 rfl (lv_at hl 0 rfl) ?_
      refine zg_Model_seenDone X hW h0 zu_1046 dX11_hasRing_22 ?_
      refine lv_aload_n hx hb dX11_hasRing_25 rfl (lv_at hl 0 rfl) ?_
      refine zg_Model_ringTo X hW h0 zu_1050 dX11_hasRing_26 ?_
      obtain ⟨g, h⟩ := h
      refine ziald X hW h0.2.2.2.2.2.2.2.2.2.2.2.2.1 g dX11_hasRing_29 ?_
      refine lv_aload_n hx hb dX11_hasRing_30 rfl (lv_at hl 0 rfl) ?_
      refine zg_Model_seenDone X hW h0 zu_1046 dX11_hasRing_31 ?_
      refine lv_aload_n hx hb dX11_hasRing_34 rfl (lv_at hl 0 rfl) ?_
      refine zg_Model_ringFrom X hW h0 zu_1049 dX11_hasRing_35 ?_
      obtain ⟨g, h⟩ := h
      refine ziald X hW h0.2.2.2.2.2.2.2.2.2.2.2.2.1 g dX11_hasRing_38 ?_
      refine lv_isub hx hb dX11_hasRing_39 ?_
      refine zp_Model_ringCoats X hW h0 zu_1051 dX11_hasRing_40 (fun H locs zm3 ezm3 hW => ?_)
      replace h := h zm3 ezm3
      refine lv_aload_n hx hb dX11_hasRing_43 rfl (lv_at hl 0 rfl) ?_
      refine lv_aload_n hx hb dX11_hasRing_44 rfl (lv_at hl 0 rfl) ?_
      refine zg_Model_ringFrom X hW h0 zu_1049 dX11_hasRing_45 ?_
      refine lv_bipush hx hb dX11_hasRing_48 zc_bm4 ?_
      refine lv_icmp_ne (tgt := 57) hx hb dX11_hasRing_50 rfl (fun c => ?_) (fun c => ?_)
      · replace h := h.1 c
        refine lv_aload_n hx hb dX11_hasRing_57 rfl (lv_at hl 0 rfl) ?_
        refine zg_Model_seenTick X hW h0 zu_1047 dX11_hasRing_58 ?_
        refine lv_aload_n hx hb dX11_hasRing_61 rfl (lv_at hl 0 rfl) ?_
        refine zg_Model_ringTo X hW h0 zu_1050 dX11_hasRing_62 ?_
        obtain ⟨g, h⟩ := h
        refine ziald X hW h0.2.2.2.2.2.2.2.2.2.2.2.2.2.1 g dX11_hasRing_65 ?_
        refine lv_aload_n hx hb dX11_hasRing_66 rfl (lv_at hl 0 rfl) ?_
        refine zg_Model_seenTick X hW h0 zu_1047 dX11_hasRing_67 ?_
        refine lv_aload_n hx hb dX11_hasRing_70 rfl (lv_at hl 0 rfl) ?_
        refine zg_Model_ringFrom X hW h0 zu_1049 dX11_hasRing_71 ?_
        obtain ⟨g, h⟩ := h
        refine ziald X hW h0.2.2.2.2.2.2.2.2.2.2.2.2.2.1 g dX11_hasRing_74 ?_
        refine lv_isub hx hb dX11_hasRing_75 ?_
        refine zp_Model_ringTicks X hW h0 zu_1052 dX11_hasRing_76 (fun H locs zm4 ezm4 hW => ?_)
        replace h := h zm4 ezm4
        refine lv_aload_n hx hb dX11_hasRing_79 rfl (lv_at hl 0 rfl) ?_
        refine zg_Model_ringFrom X hW h0 zu_1049 dX11_hasRing_80 ?_
        refine lv_bipush hx hb dX11_hasRing_83 zc_bm4 ?_
        refine lv_icmp_eq (tgt := 92) hx hb dX11_hasRing_85 rfl (fun c => ?_) (fun c => ?_)
        · replace h := h.1 c
          refine lv_iconst hx hb dX11_hasRing_92 zc_i0 ?_
          exact zretz X hr hlk hW rfl h dX11_hasRing_93
        · replace h := h.2 c
          refine lv_iconst hx hb dX11_hasRing_88 zc_i1 ?_
          refine lv_goto (tgt := 93) hx hb dX11_hasRing_89 rfl ?_
          exact zretz X hr hlk hW rfl h dX11_hasRing_93
      · replace h := h.2 c
        refine lv_iconst hx hb dX11_hasRing_53 zc_i1 ?_
        refine lv_goto (tgt := 76) hx hb dX11_hasRing_54 rfl ?_
        refine zp_Model_ringTicks X hW h0 zu_1052 dX11_hasRing_76 (fun H locs zm5 ezm5 hW => ?_)
        replace h := h zm5 ezm5
        refine lv_aload_n hx hb dX11_hasRing_79 rfl (lv_at hl 0 rfl) ?_
        refine zg_Model_ringFrom X hW h0 zu_1049 dX11_hasRing_80 ?_
        refine lv_bipush hx hb dX11_hasRing_83 zc_bm4 ?_
        refine lv_icmp_eq (tgt := 92) hx hb dX11_hasRing_85 rfl (fun c => ?_) (fun c => ?_)
        · replace h := h.1 c
          refine lv_iconst hx hb dX11_hasRing_92 zc_i0 ?_
          exact zretz X hr hlk hW rfl h dX11_hasRing_93
        · replace h := h.2 c
          refine lv_iconst hx hb dX11_hasRing_88 zc_i1 ?_
          refine lv_goto (tgt := 93) hx hb dX11_hasRing_89 rfl ?_
          exact zretz X hr hlk hW rfl h dX11_hasRing_93
    · replace h := h.2 c
      refine lv_iconst hx hb dX11_hasRing_17 zc_i0 ?_
      refine lv_goto (tgt := 40) hx hb dX11_hasRing_18 rfl ?_
      refine zp_Model_ringCoats X hW h0 zu_1051 dX11_hasRing_40 (fun H locs zm6 ezm6 hW => ?_)
      replace h := h zm6 ezm6
      refine lv_aload_n hx hb dX11_hasRing_43 rfl (lv_at hl 0 rfl) ?_
      refine lv_aload_n hx hb dX11_hasRing_44 rfl (lv_at hl 0 rfl) ?_
      refine zg_Model_ringFrom X hW h0 zu_1049 dX11_hasRing_45 ?_
      refine lv_bipush hx hb dX11_hasRing_48 zc_bm4 ?_
      refine lv_icmp_ne (tgt := 57) hx hb dX11_hasRing_50 rfl (fun c => ?_) (fun c => ?_)
      · replace h := h.1 c
        refine lv_aload_n hx hb dX11_hasRing_57 rfl (lv_at hl 0 rfl) ?_
        refine zg_Model_seenTick X hW h0 zu_1047 dX11_hasRing_58 ?_
        refine lv_aload_n hx hb dX11_hasRing_61 rfl (lv_at hl 0 rfl) ?_
        refine zg_Model_ringTo X hW h0 zu_1050 dX11_hasRing_62 ?_
        obtain ⟨g, h⟩ := h
        refine ziald X hW h0.2.2.2.2.2.2.2.2.2.2.2.2.2.1 g dX11_hasRing_65 ?_
        refine lv_aload_n hx hb dX11_hasRing_66 rfl (lv_at hl 0 rfl) ?_
        refine zg_Model_seenTick X hW h0 zu_1047 dX11_hasRing_67 ?_
        refine lv_aload_n hx hb dX11_hasRing_70 rfl (lv_at hl 0 rfl) ?_
        refine zg_Model_ringFrom X hW h0 zu_1049 dX11_hasRing_71 ?_
        obtain ⟨g, h⟩ := h
        refine ziald X hW h0.2.2.2.2.2.2.2.2.2.2.2.2.2.1 g dX11_hasRing_74 ?_
        refine lv_isub hx hb dX11_hasRing_75 ?_
        refine zp_Model_ringTicks X hW h0 zu_1052 dX11_hasRing_76 (fun H locs zm7 ezm7 hW => ?_)
        replace h := h zm7 ezm7
        refine lv_aload_n hx hb dX11_hasRing_79 rfl (lv_at hl 0 rfl) ?_
        refine zg_Model_ringFrom X hW h0 zu_1049 dX11_hasRing_80 ?_
        refine lv_bipush hx hb dX11_hasRing_83 zc_bm4 ?_
        refine lv_icmp_eq (tgt := 92) hx hb dX11_hasRing_85 rfl (fun c => ?_) (fun c => ?_)
        · replace h := h.1 c
          refine lv_iconst hx hb dX11_hasRing_92 zc_i0 ?_
          exact zretz X hr hlk hW rfl h dX11_hasRing_93
        · replace h := h.2 c
          refine lv_iconst hx hb dX11_hasRing_88 zc_i1 ?_
          refine lv_goto (tgt := 93) hx hb dX11_hasRing_89 rfl ?_
          exact zretz X hr hlk hW rfl h dX11_hasRing_93
      · replace h := h.2 c
        refine lv_iconst hx hb dX11_hasRing_53 zc_i1 ?_
        refine lv_goto (tgt := 76) hx hb dX11_hasRing_54 rfl ?_
        refine zp_Model_ringTicks X hW h0 zu_1052 dX11_hasRing_76 (fun H locs zm8 ezm8 hW => ?_)
        replace h := h zm8 ezm8
        refine lv_aload_n hx hb dX11_hasRing_79 rfl (lv_at hl 0 rfl) ?_
        refine zg_Model_ringFrom X hW h0 zu_1049 dX11_hasRing_80 ?_
        refine lv_bipush hx hb dX11_hasRing_83 zc_bm4 ?_
        refine lv_icmp_eq (tgt := 92) hx hb dX11_hasRing_85 rfl (fun c => ?_) (fun c => ?_)
        · replace h := h.1 c
          refine lv_iconst hx hb dX11_hasRing_92 zc_i0 ?_
          exact zretz X hr hlk hW rfl h dX11_hasRing_93
        · replace h := h.2 c
          refine lv_iconst hx hb dX11_hasRing_88 zc_i1 ?_
          refine lv_goto (tgt := 93) hx hb dX11_hasRing_89 rfl ?_
          exact zretz X hr hlk hW rfl h dX11_hasRing_93
  exact zMain s.heap [] ls hW hl
def wp_Model_settles (a1 : Int32) (M : zMem) (Q : Int32 → zMem → Prop) : Prop :=
  wp_Model_in a1.toInt64 0 2 M (fun zr2 zm1 => (¬ zr2 = 0 → wp_Model_asNumbered zm1 (fun zm3 => wp_Model_hasRing zm3 (fun zr6 zm5 => (¬ zr6 = 0 → (¬ a1 = 0 → (¬ a1 = 1 → Q (zm5 0 32) zm5) ∧ (a1 = 1 → Q (zm5 0 31) zm5)) ∧ (a1 = 0 → vp_in (zm5 0 29) 120 ∧ Q (zm5 13 (ix (zm5 0 29))) zm5)) ∧ (zr6 = 0 → Q ((-4)) zm5)))) ∧ (zr2 = 0 → Q ((-1)) zm1))
set_option maxHeartbeats 4000000 in
set_option maxRecDepth 20000 in
theorem c_Model_settles {l : Launch} {w : zWd} {a1 : Int32} {M : zMem} {post : Int32 → zMem → Prop} (h0 : zI_Model w) (h : wp_Model_settles a1 M post) : zMi l ⟨"HandToHandModel", "settles", "(I)I"⟩ prog_13_method_70_code 2 (Option.some .int) 9 210 w [.ref (zad w 0), .int a1] M post := by
  refine zMet (by decide) (Nat.le_of_ble_eq_true rfl) ?_
  intro p e s m below meth c X hr hlk hml hW ls hl
  have hx := X.1
  have hb := X.2.1
  have hl : lv_has ls 2 [(0, .ref (zad w 0)), (1, .int a1)] := hl
  unfold wp_Model_settles at h
  have zMain : ∀ (H : Heap) (locs : List Loc) (ls : Array Slot), zWo w s.heap M H locs → lv_has ls 2 [(0, .ref (zad w 0)), (1, .int a1)] → W p l e (zRm 9 210) s m ([.ref (zad w 0), .int a1] : List Value).toArray below meth c H locs 0 0 (MQ below (va_Qi post (zB w) (zA w)) ([.ref (zad w 0), .int a1] : List Value).toArray s 0 0 (zA w)) (F0 m 0 ls []) := by
    intro H locs ls hW hl
    refine lv_iload_n hx hb dX11_settles_0 rfl (lv_at hl 1 rfl) ?_
    refine lv_i2l hx hb dX11_settles_1 rfl ?_
    refine lv_lconst hx hb dX11_settles_2 zc_l0 ?_
    refine lv_ldc2 hx hb X.2.2.1 (X.2.2.2.1 _ zu_1248) dX11_settles_3 ?_
    refine zcalli (zrunS (As := [.long a1.toInt64, .long 0, .long 2]) (rest := []) X hml hl hW zk_Model_69 (c_Model_in  h) rfl ⟨Nat.le_of_ble_eq_true rfl, Nat.le_of_ble_eq_true rfl⟩ ⟨Nat.le_refl 0, Nat.le_refl 0⟩ rfl (Nat.le_of_ble_eq_true rfl) dX11_settles_6) hW (fun zr2 zm1 H locs h hW => ?_)
    refine lv_if_ne (tgt := 14) hx hb dX11_settles_9 rfl (fun c => ?_) (fun c => ?_)
    · replace h := h.1 c
      refine lv_aload_n hx hb dX11_settles_14 rfl (lv_at hl 0 rfl) ?_
      refine zcallv (zrunV (As := []) (rest := []) X hml hl hW h0.1 rfl zk_Model_243 (c_Model_asNumbered h0 h) rfl ⟨Nat.le_of_ble_eq_true rfl, Nat.le_of_ble_eq_true rfl⟩ ⟨Nat.le_refl 0, Nat.le_refl 0⟩ rfl (Nat.le_of_ble_eq_true rfl) dX11_settles_15) hW (fun zm3 H locs h hW => ?_)
      refine lv_aload_n hx hb dX11_settles_18 rfl (lv_at hl 0 rfl) ?_
      refine zcalli (zrunV (As := []) (rest := []) X hml hl hW h0.1 rfl zk_Model_295 (c_Model_hasRing h0 h) rfl ⟨Nat.le_of_ble_eq_true rfl, Nat.le_of_ble_eq_true rfl⟩ ⟨Nat.le_refl 0, Nat.le_refl 0⟩ rfl (Nat.le_of_ble_eq_true rfl) dX11_settles_19) hW (fun zr6 zm5 H locs h hW => ?_)
      refine lv_if_ne (tgt := 28) hx hb dX11_settles_22 rfl (fun c => ?_) (fun c => ?_)
      · replace h := h.1 c
        refine lv_iload_n hx hb dX11_settles_28 rfl (lv_at hl 1 rfl) ?_
        refine lv_if_ne (tgt := 44) hx hb dX11_settles_29 rfl (fun c => ?_) (fun c => ?_)
        · replace h := h.1 c
          refine lv_iload_n hx hb dX11_settles_44 rfl (lv_at hl 1 rfl) ?_
          refine lv_iconst hx hb dX11_settles_45 zc_i1 ?_
          refine lv_icmp_ne (tgt := 56) hx hb dX11_settles_46 rfl (fun c => ?_) (fun c => ?_)
          · replace h := h.1 c
            refine lv_aload_n hx hb dX11_settles_56 rfl (lv_at hl 0 rfl) ?_
            refine zg_Model_ringTicks X hW h0 zu_1052 dX11_settles_57 ?_
            exact zreti X hr hlk hW h dX11_settles_60
          · replace h := h.2 c
            refine lv_aload_n hx hb dX11_settles_49 rfl (lv_at hl 0 rfl) ?_
            refine zg_Model_ringCoats X hW h0 zu_1051 dX11_settles_50 ?_
            refine lv_goto (tgt := 60) hx hb dX11_settles_53 rfl ?_
            exact zreti X hr hlk hW h dX11_settles_60
        · replace h := h.2 c
          refine lv_aload_n hx hb dX11_settles_32 rfl (lv_at hl 0 rfl) ?_
          refine zg_Model_seenDone X hW h0 zu_1046 dX11_settles_33 ?_
          refine lv_aload_n hx hb dX11_settles_36 rfl (lv_at hl 0 rfl) ?_
          refine zg_Model_ringFrom X hW h0 zu_1049 dX11_settles_37 ?_
          obtain ⟨g, h⟩ := h
          refine ziald X hW h0.2.2.2.2.2.2.2.2.2.2.2.2.1 g dX11_settles_40 ?_
          refine lv_goto (tgt := 60) hx hb dX11_settles_41 rfl ?_
          exact zreti X hr hlk hW h dX11_settles_60
      · replace h := h.2 c
        refine lv_bipush hx hb dX11_settles_25 zc_bm4 ?_
        exact zreti X hr hlk hW h dX11_settles_27
    · replace h := h.2 c
      refine lv_iconst hx hb dX11_settles_12 zc_im1 ?_
      exact zreti X hr hlk hW h dX11_settles_13
  exact zMain s.heap [] ls hW hl
def wpJ_Model_where_128 (a1 : Int32) (a2 : Int32) (K201 : Int32 → Int32 → Int32 → zMem → Prop) (J : Int32 → Int32 → Int32 → Int32 → zMem → Prop) (Q : Int32 → zMem → Prop) (x_3 : Int32) (x_5 : Int32) (x_6 : Int32) (s_0 : Int32) (M : zMem) : Prop :=
  (x_5 = 0 → ∀ zx15 : Int32, zx15 = x_3 + 1 → ∀ zx16 : Int32, zx16 = x_6 + 1 → J zx15 s_0 0 zx16 M) ∧ (¬ x_5 = 0 → vp_in ((5 * x_6) + 2) 3000 ∧ vp_in ((5 * s_0) + 2) 3000 ∧ (¬ (M 10 (ix ((5 * x_6) + 2))) = (M 10 (ix ((5 * s_0) + 2))) → ∀ zx17 : Int32, zx17 = x_3 + 1 → ∀ zx18 : Int32, zx18 = x_6 + 1 → J zx17 s_0 0 zx18 M) ∧ ((M 10 (ix ((5 * x_6) + 2))) = (M 10 (ix ((5 * s_0) + 2))) → vp_in ((5 * x_6) + 3) 3000 ∧ vp_in ((5 * s_0) + 3) 3000 ∧ (¬ (M 10 (ix ((5 * x_6) + 3))) = (M 10 (ix ((5 * s_0) + 3))) → ∀ zx19 : Int32, zx19 = x_3 + 1 → ∀ zx20 : Int32, zx20 = x_6 + 1 → J zx19 s_0 0 zx20 M) ∧ ((M 10 (ix ((5 * x_6) + 3))) = (M 10 (ix ((5 * s_0) + 3))) → ∀ zx21 : Int32, zx21 = x_3 + 1 → ∀ zx22 : Int32, zx22 = x_6 + 1 → J zx21 s_0 1 zx22 M)))
def wpB_Model_where_52 (a1 : Int32) (a2 : Int32)  (K201 : Int32 → Int32 → Int32 → zMem → Prop) (Q : Int32 → zMem → Prop) (J : Int32 → Int32 → Int32 → Int32 → zMem → Prop) (x_3 : Int32) (x_4 : Int32) (x_5 : Int32) (x_6 : Int32) (M : zMem) : Prop :=
  wp_Model_oversKept M (fun zr10 zm9 => (zr10 ≤ x_6 → K201 x_3 x_4 x_5 zm9) ∧ (¬ zr10 ≤ x_6 → vp_in ((5 * x_6) + 1) 3000 ∧ (¬ (zm9 10 (ix ((5 * x_6) + 1))) = a1 → ∀ zx11 : Int32, zx11 = x_6 + 1 → J x_3 x_4 x_5 zx11 zm9) ∧ ((zm9 10 (ix ((5 * x_6) + 1))) = a1 → vp_in (5 * x_6) 3000 ∧ vp_in (zm9 0 29) 120 ∧ vp_in (zm9 0 30) 120 ∧ wp_Model_in ((zm9 10 (ix (5 * x_6))).toInt64) (((zm9 14 (ix (zm9 0 29))) + 1).toInt64) ((zm9 14 (ix (zm9 0 30))).toInt64) zm9 (fun zr13 zm12 => (zr13 = 0 → ∀ zx14 : Int32, zx14 = x_6 + 1 → J x_3 x_4 x_5 zx14 zm12) ∧ (¬ zr13 = 0 → (¬ x_4 = (-4) → wpJ_Model_where_128 a1 a2 K201 J Q x_3 x_5 x_6 x_4 zm12) ∧ (x_4 = (-4) → wpJ_Model_where_128 a1 a2 K201 J Q x_3 x_5 x_6 x_6 zm12))))))
def wp_Model_where (a1 : Int32) (a2 : Int32) (M : zMem) (Q : Int32 → zMem → Prop) : Prop :=
  wp_Model_isHand a1 M (fun zr2 zm1 => (zr2 = 0 → Q ((-1)) zm1) ∧ (¬ zr2 = 0 → (a1 = 0 → Q ((-1)) zm1) ∧ (¬ a1 = 0 → wp_Model_in a2.toInt64 0 3 zm1 (fun zr4 zm3 => (¬ zr4 = 0 → wp_Model_asNumbered zm3 (fun zm5 => wp_Model_hasRing zm5 (fun zr8 zm7 => (¬ zr8 = 0 → ∃ n : Nat, zlp4 (wpB_Model_where_52 a1 a2  (fun (zx24 : Int32) (zx25 : Int32) (zx26 : Int32) (zm23 : zMem) => (¬ a2 = 0 → (¬ a2 = 1 → (¬ zx25 = (-4) → vp_in ((5 * zx25) + a2) 3000 ∧ Q (zm23 10 (ix ((5 * zx25) + a2))) zm23) ∧ (zx25 = (-4) → Q ((-4)) zm23)) ∧ (a2 = 1 → (zx26 = 0 → Q 0 zm23) ∧ (¬ zx26 = 0 → Q 1 zm23))) ∧ (a2 = 0 → Q zx24 zm23)) Q) n 0 ((-4)) 1 0 zm7) ∧ (zr8 = 0 → Q ((-4)) zm7)))) ∧ (zr4 = 0 → Q ((-1)) zm3)))))
set_option maxHeartbeats 4000000 in
set_option maxRecDepth 20000 in
theorem c_Model_where {l : Launch} {w : zWd} {a1 : Int32} {a2 : Int32} {M : zMem} {post : Int32 → zMem → Prop} (h0 : zI_Model w) (h : wp_Model_where a1 a2 M post) : zMi l ⟨"HandToHandModel", "where", "(II)I"⟩ prog_13_method_71_code 7 (Option.some .int) 9 210 w [.ref (zad w 0), .int a1, .int a2] M post := by
  refine zMet (by decide) (Nat.le_of_ble_eq_true rfl) ?_
  intro p e s m below meth c X hr hlk hml hW ls hl
  have hx := X.1
  have hb := X.2.1
  have hl : lv_has ls 7 [(0, .ref (zad w 0)), (1, .int a1), (2, .int a2)] := hl
  have zJ_128 : ∀ (x_3 : Int32) (x_5 : Int32) (x_6 : Int32) (s_0 : Int32) (K201 : Int32 → Int32 → Int32 → zMem → Prop) (zK201 : ∀ (y_3 : Int32) (y_4 : Int32) (y_5 : Int32) (M : zMem) (H : Heap) (locs : List Loc) (ls : Array Slot), zWo w s.heap M H locs → lv_has ls 7 [(0, .ref (zad w 0)), (2, .int a2), (3, .int y_3), (4, .int y_4), (5, .int y_5)] → K201 y_3 y_4 y_5 M → W p l e (zRm 9 210) s m ([.ref (zad w 0), .int a1, .int a2] : List Value).toArray below meth c H locs 0 0 (MQ below (va_Qi post (zB w) (zA w)) ([.ref (zad w 0), .int a1, .int a2] : List Value).toArray s 0 0 (zA w)) (F0 m 201 ls [])) (J : Int32 → Int32 → Int32 → Int32 → zMem → Prop) (zJ : ∀ (y_3 : Int32) (y_4 : Int32) (y_5 : Int32) (y_6 : Int32) (M : zMem) (H : Heap) (locs : List Loc) (ls : Array Slot), zWo w s.heap M H locs → lv_has ls 7 [(0, .ref (zad w 0)), (1, .int a1), (2, .int a2), (3, .int y_3), (4, .int y_4), (5, .int y_5), (6, .int y_6)] → J y_3 y_4 y_5 y_6 M → W p l e (zRm 9 210) s m ([.ref (zad w 0), .int a1, .int a2] : List Value).toArray below meth c H locs 0 0 (MQ below (va_Qi post (zB w) (zA w)) ([.ref (zad w 0), .int a1, .int a2] : List Value).toArray s 0 0 (zA w)) (F0 m 52 ls [])) (M : zMem) (H : Heap) (locs : List Loc) (ls : Array Slot), zWo w s.heap M H locs → lv_has ls 7 [(0, .ref (zad w 0)), (1, .int a1), (2, .int a2), (3, .int x_3), (5, .int x_5), (6, .int x_6)] → wpJ_Model_where_128 a1 a2 K201 J post x_3 x_5 x_6 s_0 M → W p l e (zRm 9 210) s m ([.ref (zad w 0), .int a1, .int a2] : List Value).toArray below meth c H locs 0 0 (MQ below (va_Qi post (zB w) (zA w)) ([.ref (zad w 0), .int a1, .int a2] : List Value).toArray s 0 0 (zA w)) (F0 m 128 ls [.int s_0]) := by
    intro x_3 x_5 x_6 s_0 K201 zK201 J zJ M H locs ls hW hl h
    unfold wpJ_Model_where_128 at h
    refine lv_istore (lv' := [(4, .int s_0), (0, .ref (zad w 0)), (1, .int a1), (2, .int a2), (3, .int x_3), (5, .int x_5), (6, .int x_6)]) hx hb dX11_where_128 hl (Nat.le_of_ble_eq_true rfl) rfl (fun ls hl => ?_)
    refine lv_iload hx hb dX11_where_130 (lv_at hl 5 rfl) ?_
    refine lv_if_eq (tgt := 189) hx hb dX11_where_132 rfl (fun c => ?_) (fun c => ?_)
    · replace h := h.1 c
      refine lv_iconst hx hb dX11_where_189 zc_i0 ?_
      refine lv_istore (lv' := [(5, .int 0), (4, .int s_0), (0, .ref (zad w 0)), (1, .int a1), (2, .int a2), (3, .int x_3), (6, .int x_6)]) hx hb dX11_where_190 hl (Nat.le_of_ble_eq_true rfl) rfl (fun ls hl => ?_)
      obtain ⟨zx15, ezx15⟩ : ∃ y : Int32, y = x_3 + 1 := ⟨_, rfl⟩
      replace h := h zx15 ezx15
      refine lv_iinc (v := zx15) (lv' := [(3, .int zx15), (5, .int 0), (4, .int s_0), (0, .ref (zad w 0)), (1, .int a1), (2, .int a2), (6, .int x_6)]) hx hb dX11_where_192 hl (k := 5) rfl (by rw [ezx15, zc_i1]) (Nat.le_of_ble_eq_true rfl) rfl (fun ls hl => ?_)
      obtain ⟨zx16, ezx16⟩ : ∃ y : Int32, y = x_6 + 1 := ⟨_, rfl⟩
      replace h := h zx16 ezx16
      refine lv_iinc (v := zx16) (lv' := [(6, .int zx16), (3, .int zx15), (5, .int 0), (4, .int s_0), (0, .ref (zad w 0)), (1, .int a1), (2, .int a2)]) hx hb dX11_where_195 hl (k := 6) rfl (by rw [ezx16, zc_i1]) (Nat.le_of_ble_eq_true rfl) rfl (fun ls hl => ?_)
      refine lv_goto (tgt := 52) hx hb dX11_where_198 rfl ?_
      exact zJ zx15 s_0 0 zx16 M H locs ls hW (lv_sub hl [4, 5, 6, 1, 3, 2, 0] rfl) h
    · replace h := h.2 c
      refine lv_aload_n hx hb dX11_where_135 rfl (lv_at hl 1 rfl) ?_
      refine zg_Model_overs X hW h0 zu_1042 dX11_where_136 ?_
      refine lv_iconst hx hb dX11_where_139 zc_i5 ?_
      refine lv_iload hx hb dX11_where_140 (lv_at hl 6 rfl) ?_
      refine lv_imul hx hb dX11_where_142 ?_
      refine lv_iconst hx hb dX11_where_143 zc_i2 ?_
      refine lv_iadd hx hb dX11_where_144 ?_
      obtain ⟨g, h⟩ := h
      refine ziald X hW h0.2.2.2.2.2.2.2.2.2.1 g dX11_where_145 ?_
      refine lv_aload_n hx hb dX11_where_146 rfl (lv_at hl 1 rfl) ?_
      refine zg_Model_overs X hW h0 zu_1042 dX11_where_147 ?_
      refine lv_iconst hx hb dX11_where_150 zc_i5 ?_
      refine lv_iload hx hb dX11_where_151 (lv_at hl 0 rfl) ?_
      refine lv_imul hx hb dX11_where_153 ?_
      refine lv_iconst hx hb dX11_where_154 zc_i2 ?_
      refine lv_iadd hx hb dX11_where_155 ?_
      obtain ⟨g, h⟩ := h
      refine ziald X hW h0.2.2.2.2.2.2.2.2.2.1 g dX11_where_156 ?_
      refine lv_icmp_ne (tgt := 189) hx hb dX11_where_157 rfl (fun c => ?_) (fun c => ?_)
      · replace h := h.1 c
        refine lv_iconst hx hb dX11_where_189 zc_i0 ?_
        refine lv_istore (lv' := [(5, .int 0), (4, .int s_0), (0, .ref (zad w 0)), (1, .int a1), (2, .int a2), (3, .int x_3), (6, .int x_6)]) hx hb dX11_where_190 hl (Nat.le_of_ble_eq_true rfl) rfl (fun ls hl => ?_)
        obtain ⟨zx17, ezx17⟩ : ∃ y : Int32, y = x_3 + 1 := ⟨_, rfl⟩
        replace h := h zx17 ezx17
        refine lv_iinc (v := zx17) (lv' := [(3, .int zx17), (5, .int 0), (4, .int s_0), (0, .ref (zad w 0)), (1, .int a1), (2, .int a2), (6, .int x_6)]) hx hb dX11_where_192 hl (k := 5) rfl (by rw [ezx17, zc_i1]) (Nat.le_of_ble_eq_true rfl) rfl (fun ls hl => ?_)
        obtain ⟨zx18, ezx18⟩ : ∃ y : Int32, y = x_6 + 1 := ⟨_, rfl⟩
        replace h := h zx18 ezx18
        refine lv_iinc (v := zx18) (lv' := [(6, .int zx18), (3, .int zx17), (5, .int 0), (4, .int s_0), (0, .ref (zad w 0)), (1, .int a1), (2, .int a2)]) hx hb dX11_where_195 hl (k := 6) rfl (by rw [ezx18, zc_i1]) (Nat.le_of_ble_eq_true rfl) rfl (fun ls hl => ?_)
        refine lv_goto (tgt := 52) hx hb dX11_where_198 rfl ?_
        exact zJ zx17 s_0 0 zx18 M H locs ls hW (lv_sub hl [4, 5, 6, 1, 3, 2, 0] rfl) h
      · replace h := h.2 c
        refine lv_aload_n hx hb dX11_where_160 rfl (lv_at hl 1 rfl) ?_
        refine zg_Model_overs X hW h0 zu_1042 dX11_where_161 ?_
        refine lv_iconst hx hb dX11_where_164 zc_i5 ?_
        refine lv_iload hx hb dX11_where_165 (lv_at hl 6 rfl) ?_
        refine lv_imul hx hb dX11_where_167 ?_
        refine lv_iconst hx hb dX11_where_168 zc_i3 ?_
        refine lv_iadd hx hb dX11_where_169 ?_
        obtain ⟨g, h⟩ := h
        refine ziald X hW h0.2.2.2.2.2.2.2.2.2.1 g dX11_where_170 ?_
        refine lv_aload_n hx hb dX11_where_171 rfl (lv_at hl 1 rfl) ?_
        refine zg_Model_overs X hW h0 zu_1042 dX11_where_172 ?_
        refine lv_iconst hx hb dX11_where_175 zc_i5 ?_
        refine lv_iload hx hb dX11_where_176 (lv_at hl 0 rfl) ?_
        refine lv_imul hx hb dX11_where_178 ?_
        refine lv_iconst hx hb dX11_where_179 zc_i3 ?_
        refine lv_iadd hx hb dX11_where_180 ?_
        obtain ⟨g, h⟩ := h
        refine ziald X hW h0.2.2.2.2.2.2.2.2.2.1 g dX11_where_181 ?_
        refine lv_icmp_ne (tgt := 189) hx hb dX11_where_182 rfl (fun c => ?_) (fun c => ?_)
        · replace h := h.1 c
          refine lv_iconst hx hb dX11_where_189 zc_i0 ?_
          refine lv_istore (lv' := [(5, .int 0), (4, .int s_0), (0, .ref (zad w 0)), (1, .int a1), (2, .int a2), (3, .int x_3), (6, .int x_6)]) hx hb dX11_where_190 hl (Nat.le_of_ble_eq_true rfl) rfl (fun ls hl => ?_)
          obtain ⟨zx19, ezx19⟩ : ∃ y : Int32, y = x_3 + 1 := ⟨_, rfl⟩
          replace h := h zx19 ezx19
          refine lv_iinc (v := zx19) (lv' := [(3, .int zx19), (5, .int 0), (4, .int s_0), (0, .ref (zad w 0)), (1, .int a1), (2, .int a2), (6, .int x_6)]) hx hb dX11_where_192 hl (k := 5) rfl (by rw [ezx19, zc_i1]) (Nat.le_of_ble_eq_true rfl) rfl (fun ls hl => ?_)
          obtain ⟨zx20, ezx20⟩ : ∃ y : Int32, y = x_6 + 1 := ⟨_, rfl⟩
          replace h := h zx20 ezx20
          refine lv_iinc (v := zx20) (lv' := [(6, .int zx20), (3, .int zx19), (5, .int 0), (4, .int s_0), (0, .ref (zad w 0)), (1, .int a1), (2, .int a2)]) hx hb dX11_where_195 hl (k := 6) rfl (by rw [ezx20, zc_i1]) (Nat.le_of_ble_eq_true rfl) rfl (fun ls hl => ?_)
          refine lv_goto (tgt := 52) hx hb dX11_where_198 rfl ?_
          exact zJ zx19 s_0 0 zx20 M H locs ls hW (lv_sub hl [4, 5, 6, 1, 3, 2, 0] rfl) h
        · replace h := h.2 c
          refine lv_iconst hx hb dX11_where_185 zc_i1 ?_
          refine lv_goto (tgt := 190) hx hb dX11_where_186 rfl ?_
          refine lv_istore (lv' := [(5, .int 1), (4, .int s_0), (0, .ref (zad w 0)), (1, .int a1), (2, .int a2), (3, .int x_3), (6, .int x_6)]) hx hb dX11_where_190 hl (Nat.le_of_ble_eq_true rfl) rfl (fun ls hl => ?_)
          obtain ⟨zx21, ezx21⟩ : ∃ y : Int32, y = x_3 + 1 := ⟨_, rfl⟩
          replace h := h zx21 ezx21
          refine lv_iinc (v := zx21) (lv' := [(3, .int zx21), (5, .int 1), (4, .int s_0), (0, .ref (zad w 0)), (1, .int a1), (2, .int a2), (6, .int x_6)]) hx hb dX11_where_192 hl (k := 5) rfl (by rw [ezx21, zc_i1]) (Nat.le_of_ble_eq_true rfl) rfl (fun ls hl => ?_)
          obtain ⟨zx22, ezx22⟩ : ∃ y : Int32, y = x_6 + 1 := ⟨_, rfl⟩
          replace h := h zx22 ezx22
          refine lv_iinc (v := zx22) (lv' := [(6, .int zx22), (3, .int zx21), (5, .int 1), (4, .int s_0), (0, .ref (zad w 0)), (1, .int a1), (2, .int a2)]) hx hb dX11_where_195 hl (k := 6) rfl (by rw [ezx22, zc_i1]) (Nat.le_of_ble_eq_true rfl) rfl (fun ls hl => ?_)
          refine lv_goto (tgt := 52) hx hb dX11_where_198 rfl ?_
          exact zJ zx21 s_0 1 zx22 M H locs ls hW (lv_sub hl [4, 5, 6, 1, 3, 2, 0] rfl) h
  have zL_52 : ∀ (K201 : Int32 → Int32 → Int32 → zMem → Prop) (zK201 : ∀ (y_3 : Int32) (y_4 : Int32) (y_5 : Int32) (M : zMem) (H : Heap) (locs : List Loc) (ls : Array Slot), zWo w s.heap M H locs → lv_has ls 7 [(0, .ref (zad w 0)), (2, .int a2), (3, .int y_3), (4, .int y_4), (5, .int y_5)] → K201 y_3 y_4 y_5 M → W p l e (zRm 9 210) s m ([.ref (zad w 0), .int a1, .int a2] : List Value).toArray below meth c H locs 0 0 (MQ below (va_Qi post (zB w) (zA w)) ([.ref (zad w 0), .int a1, .int a2] : List Value).toArray s 0 0 (zA w)) (F0 m 201 ls [])), ∀ (n : Nat) (x_3 : Int32) (x_4 : Int32) (x_5 : Int32) (x_6 : Int32) (M : zMem) (H : Heap) (locs : List Loc) (ls : Array Slot), zWo w s.heap M H locs → lv_has ls 7 [(0, .ref (zad w 0)), (1, .int a1), (2, .int a2), (3, .int x_3), (4, .int x_4), (5, .int x_5), (6, .int x_6)] → zlp4 (wpB_Model_where_52 a1 a2  K201 post) n x_3 x_4 x_5 x_6 M → W p l e (zRm 9 210) s m ([.ref (zad w 0), .int a1, .int a2] : List Value).toArray below meth c H locs 0 0 (MQ below (va_Qi post (zB w) (zA w)) ([.ref (zad w 0), .int a1, .int a2] : List Value).toArray s 0 0 (zA w)) (F0 m 52 ls []) := by
    intro K201 zK201 n
    induction n with
    | zero => intro x_3 x_4 x_5 x_6 M H locs ls hW hl h; exact h.elim
    | succ n zJ =>
      intro x_3 x_4 x_5 x_6 M H locs ls hW hl h
      have h : wpB_Model_where_52 a1 a2  K201 post (zlp4 (wpB_Model_where_52 a1 a2  K201 post) n) x_3 x_4 x_5 x_6 M := h
      unfold wpB_Model_where_52 at h
      refine lv_iload hx hb dX11_where_52 (lv_at hl 6 rfl) ?_
      refine lv_aload_n hx hb dX11_where_54 rfl (lv_at hl 0 rfl) ?_
      refine zcalli (zrunV (As := []) (rest := [.int x_6]) X hml hl hW h0.1 rfl zk_Model_286 (c_Model_oversKept h0 h) rfl ⟨Nat.le_of_ble_eq_true rfl, Nat.le_of_ble_eq_true rfl⟩ ⟨Nat.le_refl 0, Nat.le_refl 0⟩ rfl (Nat.le_of_ble_eq_true rfl) dX11_where_55) hW (fun zr10 zm9 H locs h hW => ?_)
      refine lv_icmp_ge (tgt := 201) hx hb dX11_where_58 rfl (fun c => ?_) (fun c => ?_)
      · replace h := h.1 c
        exact zK201 x_3 x_4 x_5 zm9 H locs ls hW (lv_sub hl [0, 2, 3, 4, 5] rfl) h
      · replace h := h.2 c
        refine lv_aload_n hx hb dX11_where_61 rfl (lv_at hl 0 rfl) ?_
        refine zg_Model_overs X hW h0 zu_1042 dX11_where_62 ?_
        refine lv_iconst hx hb dX11_where_65 zc_i5 ?_
        refine lv_iload hx hb dX11_where_66 (lv_at hl 6 rfl) ?_
        refine lv_imul hx hb dX11_where_68 ?_
        refine lv_iconst hx hb dX11_where_69 zc_i1 ?_
        refine lv_iadd hx hb dX11_where_70 ?_
        obtain ⟨g, h⟩ := h
        refine ziald X hW h0.2.2.2.2.2.2.2.2.2.1 g dX11_where_71 ?_
        refine lv_iload_n hx hb dX11_where_72 rfl (lv_at hl 1 rfl) ?_
        refine lv_icmp_ne (tgt := 195) hx hb dX11_where_73 rfl (fun c => ?_) (fun c => ?_)
        · replace h := h.1 c
          obtain ⟨zx11, ezx11⟩ : ∃ y : Int32, y = x_6 + 1 := ⟨_, rfl⟩
          replace h := h zx11 ezx11
          refine lv_iinc (v := zx11) (lv' := [(6, .int zx11), (0, .ref (zad w 0)), (1, .int a1), (2, .int a2), (3, .int x_3), (4, .int x_4), (5, .int x_5)]) hx hb dX11_where_195 hl (k := 6) rfl (by rw [ezx11, zc_i1]) (Nat.le_of_ble_eq_true rfl) rfl (fun ls hl => ?_)
          refine lv_goto (tgt := 52) hx hb dX11_where_198 rfl ?_
          exact zJ x_3 x_4 x_5 zx11 zm9 H locs ls hW (lv_sub hl [1, 2, 3, 4, 5, 6, 0] rfl) h
        · replace h := h.2 c
          refine lv_aload_n hx hb dX11_where_76 rfl (lv_at hl 0 rfl) ?_
          refine zg_Model_overs X hW h0 zu_1042 dX11_where_77 ?_
          refine lv_iconst hx hb dX11_where_80 zc_i5 ?_
          refine lv_iload hx hb dX11_where_81 (lv_at hl 6 rfl) ?_
          refine lv_imul hx hb dX11_where_83 ?_
          obtain ⟨g, h⟩ := h
          refine ziald X hW h0.2.2.2.2.2.2.2.2.2.1 g dX11_where_84 ?_
          refine lv_i2l hx hb dX11_where_85 rfl ?_
          refine lv_aload_n hx hb dX11_where_86 rfl (lv_at hl 0 rfl) ?_
          refine zg_Model_seenTick X hW h0 zu_1047 dX11_where_87 ?_
          refine lv_aload_n hx hb dX11_where_90 rfl (lv_at hl 0 rfl) ?_
          refine zg_Model_ringFrom X hW h0 zu_1049 dX11_where_91 ?_
          obtain ⟨g, h⟩ := h
          refine ziald X hW h0.2.2.2.2.2.2.2.2.2.2.2.2.2.1 g dX11_where_94 ?_
          refine lv_iconst hx hb dX11_where_95 zc_i1 ?_
          refine lv_iadd hx hb dX11_where_96 ?_
          refine lv_i2l hx hb dX11_where_97 rfl ?_
          refine lv_aload_n hx hb dX11_where_98 rfl (lv_at hl 0 rfl) ?_
          refine zg_Model_seenTick X hW h0 zu_1047 dX11_where_99 ?_
          refine lv_aload_n hx hb dX11_where_102 rfl (lv_at hl 0 rfl) ?_
          refine zg_Model_ringTo X hW h0 zu_1050 dX11_where_103 ?_
          obtain ⟨g, h⟩ := h
          refine ziald X hW h0.2.2.2.2.2.2.2.2.2.2.2.2.2.1 g dX11_where_106 ?_
          refine lv_i2l hx hb dX11_where_107 rfl ?_
          refine zcalli (zrunS (As := [.long ((zm9 10 (ix (5 * x_6))).toInt64), .long (((zm9 14 (ix (zm9 0 29))) + 1).toInt64), .long ((zm9 14 (ix (zm9 0 30))).toInt64)]) (rest := []) X hml hl hW zk_Model_69 (c_Model_in  h) rfl ⟨Nat.le_of_ble_eq_true rfl, Nat.le_of_ble_eq_true rfl⟩ ⟨Nat.le_refl 0, Nat.le_refl 0⟩ rfl (Nat.le_of_ble_eq_true rfl) dX11_where_108) hW (fun zr13 zm12 H locs h hW => ?_)
          refine lv_if_eq (tgt := 195) hx hb dX11_where_111 rfl (fun c => ?_) (fun c => ?_)
          · replace h := h.1 c
            obtain ⟨zx14, ezx14⟩ : ∃ y : Int32, y = x_6 + 1 := ⟨_, rfl⟩
            replace h := h zx14 ezx14
            refine lv_iinc (v := zx14) (lv' := [(6, .int zx14), (0, .ref (zad w 0)), (1, .int a1), (2, .int a2), (3, .int x_3), (4, .int x_4), (5, .int x_5)]) hx hb dX11_where_195 hl (k := 6) rfl (by rw [ezx14, zc_i1]) (Nat.le_of_ble_eq_true rfl) rfl (fun ls hl => ?_)
            refine lv_goto (tgt := 52) hx hb dX11_where_198 rfl ?_
            exact zJ x_3 x_4 x_5 zx14 zm12 H locs ls hW (lv_sub hl [1, 2, 3, 4, 5, 6, 0] rfl) h
          · replace h := h.2 c
            refine lv_iload hx hb dX11_where_114 (lv_at hl 4 rfl) ?_
            refine lv_bipush hx hb dX11_where_116 zc_bm4 ?_
            refine lv_icmp_ne (tgt := 126) hx hb dX11_where_118 rfl (fun c => ?_) (fun c => ?_)
            · replace h := h.1 c
              refine lv_iload hx hb dX11_where_126 (lv_at hl 4 rfl) ?_
              exact zJ_128 x_3 x_5 x_6 x_4 _ zK201 _ zJ zm12 H locs ls hW (lv_sub hl [0, 1, 2, 3, 5, 6] rfl) h
            · replace h := h.2 c
              refine lv_iload hx hb dX11_where_121 (lv_at hl 6 rfl) ?_
              refine lv_goto (tgt := 128) hx hb dX11_where_123 rfl ?_
              exact zJ_128 x_3 x_5 x_6 x_6 _ zK201 _ zJ zm12 H locs ls hW (lv_sub hl [0, 1, 2, 3, 5, 6] rfl) h
  unfold wp_Model_where at h
  have zMain : ∀ (H : Heap) (locs : List Loc) (ls : Array Slot), zWo w s.heap M H locs → lv_has ls 7 [(0, .ref (zad w 0)), (1, .int a1), (2, .int a2)] → W p l e (zRm 9 210) s m ([.ref (zad w 0), .int a1, .int a2] : List Value).toArray below meth c H locs 0 0 (MQ below (va_Qi post (zB w) (zA w)) ([.ref (zad w 0), .int a1, .int a2] : List Value).toArray s 0 0 (zA w)) (F0 m 0 ls []) := by
    intro H locs ls hW hl
    refine lv_aload_n hx hb dX11_where_0 rfl (lv_at hl 0 rfl) ?_
    refine lv_iload_n hx hb dX11_where_1 rfl (lv_at hl 1 rfl) ?_
    refine zcalli (zrunV (As := [.int a1]) (rest := []) X hml hl hW h0.1 rfl zk_Model_166 (c_Model_isHand h0 h) rfl ⟨Nat.le_of_ble_eq_true rfl, Nat.le_of_ble_eq_true rfl⟩ ⟨Nat.le_refl 0, Nat.le_refl 0⟩ rfl (Nat.le_of_ble_eq_true rfl) dX11_where_2) hW (fun zr2 zm1 H locs h hW => ?_)
    refine lv_if_eq (tgt := 24) hx hb dX11_where_5 rfl (fun c => ?_) (fun c => ?_)
    · replace h := h.1 c
      refine lv_iconst hx hb dX11_where_24 zc_im1 ?_
      exact zreti X hr hlk hW h dX11_where_25
    · replace h := h.2 c
      refine lv_iload_n hx hb dX11_where_8 rfl (lv_at hl 1 rfl) ?_
      refine lv_if_eq (tgt := 24) hx hb dX11_where_9 rfl (fun c => ?_) (fun c => ?_)
      · replace h := h.1 c
        refine lv_iconst hx hb dX11_where_24 zc_im1 ?_
        exact zreti X hr hlk hW h dX11_where_25
      · replace h := h.2 c
        refine lv_iload_n hx hb dX11_where_12 rfl (lv_at hl 2 rfl) ?_
        refine lv_i2l hx hb dX11_where_13 rfl ?_
        refine lv_lconst hx hb dX11_where_14 zc_l0 ?_
        refine lv_ldc2 hx hb X.2.2.1 (X.2.2.2.1 _ zu_1427) dX11_where_15 ?_
        refine zcalli (zrunS (As := [.long a2.toInt64, .long 0, .long 3]) (rest := []) X hml hl hW zk_Model_69 (c_Model_in  h) rfl ⟨Nat.le_of_ble_eq_true rfl, Nat.le_of_ble_eq_true rfl⟩ ⟨Nat.le_refl 0, Nat.le_refl 0⟩ rfl (Nat.le_of_ble_eq_true rfl) dX11_where_18) hW (fun zr4 zm3 H locs h hW => ?_)
        refine lv_if_ne (tgt := 26) hx hb dX11_where_21 rfl (fun c => ?_) (fun c => ?_)
        · replace h := h.1 c
          refine lv_aload_n hx hb dX11_where_26 rfl (lv_at hl 0 rfl) ?_
          refine zcallv (zrunV (As := []) (rest := []) X hml hl hW h0.1 rfl zk_Model_243 (c_Model_asNumbered h0 h) rfl ⟨Nat.le_of_ble_eq_true rfl, Nat.le_of_ble_eq_true rfl⟩ ⟨Nat.le_refl 0, Nat.le_refl 0⟩ rfl (Nat.le_of_ble_eq_true rfl) dX11_where_27) hW (fun zm5 H locs h hW => ?_)
          refine lv_aload_n hx hb dX11_where_30 rfl (lv_at hl 0 rfl) ?_
          refine zcalli (zrunV (As := []) (rest := []) X hml hl hW h0.1 rfl zk_Model_295 (c_Model_hasRing h0 h) rfl ⟨Nat.le_of_ble_eq_true rfl, Nat.le_of_ble_eq_true rfl⟩ ⟨Nat.le_refl 0, Nat.le_refl 0⟩ rfl (Nat.le_of_ble_eq_true rfl) dX11_where_31) hW (fun zr8 zm7 H locs h hW => ?_)
          refine lv_if_ne (tgt := 40) hx hb dX11_where_34 rfl (fun c => ?_) (fun c => ?_)
          · replace h := h.1 c
            refine lv_iconst hx hb dX11_where_40 zc_i0 ?_
            refine lv_istore_n (lv' := [(3, .int 0), (0, .ref (zad w 0)), (1, .int a1), (2, .int a2)]) hx hb dX11_where_41 rfl hl (Nat.le_of_ble_eq_true rfl) rfl (fun ls hl => ?_)
            refine lv_bipush hx hb dX11_where_42 zc_bm4 ?_
            refine lv_istore (lv' := [(4, .int ((-4))), (3, .int 0), (0, .ref (zad w 0)), (1, .int a1), (2, .int a2)]) hx hb dX11_where_44 hl (Nat.le_of_ble_eq_true rfl) rfl (fun ls hl => ?_)
            refine lv_iconst hx hb dX11_where_46 zc_i1 ?_
            refine lv_istore (lv' := [(5, .int 1), (4, .int ((-4))), (3, .int 0), (0, .ref (zad w 0)), (1, .int a1), (2, .int a2)]) hx hb dX11_where_47 hl (Nat.le_of_ble_eq_true rfl) rfl (fun ls hl => ?_)
            refine lv_iconst hx hb dX11_where_49 zc_i0 ?_
            refine lv_istore (lv' := [(6, .int 0), (5, .int 1), (4, .int ((-4))), (3, .int 0), (0, .ref (zad w 0)), (1, .int a1), (2, .int a2)]) hx hb dX11_where_50 hl (Nat.le_of_ble_eq_true rfl) rfl (fun ls hl => ?_)
            obtain ⟨n, h⟩ := h
            refine zL_52  _ (fun zx24 zx25 zx26 zm23 H locs ls hW hl h => ?_) n 0 ((-4)) 1 0 zm7 H locs ls hW (lv_sub hl [4, 5, 6, 3, 2, 1, 0] rfl) h
            · skip
              refine lv_iload_n hx hb dX11_where_201 rfl (lv_at hl 1 rfl) ?_
              refine lv_if_ne (tgt := 209) hx hb dX11_where_202 rfl (fun c => ?_) (fun c => ?_)
              · replace h := h.1 c
                refine lv_iload_n hx hb dX11_where_209 rfl (lv_at hl 1 rfl) ?_
                refine lv_iconst hx hb dX11_where_210 zc_i1 ?_
                refine lv_icmp_ne (tgt := 227) hx hb dX11_where_211 rfl (fun c => ?_) (fun c => ?_)
                · replace h := h.1 c
                  refine lv_iload hx hb dX11_where_227 (lv_at hl 3 rfl) ?_
                  refine lv_bipush hx hb dX11_where_229 zc_bm4 ?_
                  refine lv_icmp_ne (tgt := 239) hx hb dX11_where_231 rfl (fun c => ?_) (fun c => ?_)
                  · replace h := h.1 c
                    refine lv_aload_n hx hb dX11_where_239 rfl (lv_at hl 0 rfl) ?_
                    refine zg_Model_overs X hW h0 zu_1042 dX11_where_240 ?_
                    refine lv_iconst hx hb dX11_where_243 zc_i5 ?_
                    refine lv_iload hx hb dX11_where_244 (lv_at hl 3 rfl) ?_
                    refine lv_imul hx hb dX11_where_246 ?_
                    refine lv_iload_n hx hb dX11_where_247 rfl (lv_at hl 1 rfl) ?_
                    refine lv_iadd hx hb dX11_where_248 ?_
                    obtain ⟨g, h⟩ := h
                    refine ziald X hW h0.2.2.2.2.2.2.2.2.2.1 g dX11_where_249 ?_
                    exact zreti X hr hlk hW h dX11_where_250
                  · replace h := h.2 c
                    refine lv_bipush hx hb dX11_where_234 zc_bm4 ?_
                    refine lv_goto (tgt := 250) hx hb dX11_where_236 rfl ?_
                    exact zreti X hr hlk hW h dX11_where_250
                · replace h := h.2 c
                  refine lv_iload hx hb dX11_where_214 (lv_at hl 4 rfl) ?_
                  refine lv_if_eq (tgt := 223) hx hb dX11_where_216 rfl (fun c => ?_) (fun c => ?_)
                  · replace h := h.1 c
                    refine lv_iconst hx hb dX11_where_223 zc_i0 ?_
                    refine lv_goto (tgt := 250) hx hb dX11_where_224 rfl ?_
                    exact zreti X hr hlk hW h dX11_where_250
                  · replace h := h.2 c
                    refine lv_iconst hx hb dX11_where_219 zc_i1 ?_
                    refine lv_goto (tgt := 250) hx hb dX11_where_220 rfl ?_
                    exact zreti X hr hlk hW h dX11_where_250
              · replace h := h.2 c
                refine lv_iload_n hx hb dX11_where_205 rfl (lv_at hl 2 rfl) ?_
                refine lv_goto (tgt := 250) hx hb dX11_where_206 rfl ?_
                exact zreti X hr hlk hW h dX11_where_250
          · replace h := h.2 c
            refine lv_bipush hx hb dX11_where_37 zc_bm4 ?_
            exact zreti X hr hlk hW h dX11_where_39
        · replace h := h.2 c
          refine lv_iconst hx hb dX11_where_24 zc_im1 ?_
          exact zreti X hr hlk hW h dX11_where_25
  exact zMain s.heap [] ls hW hl
def wpB_Model_lowest_6 (a1 : Int64) (a2 : Int64) (a3 : Int32)   (Q : Int64 → zMem → Prop) (J : Int64 → Int64 → zMem → Prop) (x_5 : Int64) (x_7 : Int64) (M : zMem) : Prop :=
  ((lg_cmp x_7 0) = 0 → (¬ a3 = 0 → (¬ x_5 = 0) ∧ Q (a2 / x_5) M) ∧ (a3 = 0 → (¬ x_5 = 0) ∧ Q (a1 / x_5) M)) ∧ (¬ (lg_cmp x_7 0) = 0 → (¬ x_7 = 0) ∧ ∀ zx1 : Int64, zx1 = x_5 - x_5 / x_7 * x_7 → J x_7 zx1 M)
def wp_Model_lowest (a1 : Int64) (a2 : Int64) (a3 : Int32) (M : zMem) (Q : Int64 → zMem → Prop) : Prop :=
  ∃ n : Nat, zlp2 (wpB_Model_lowest_6 a1 a2 a3   Q) n a1 a2 M
set_option maxHeartbeats 4000000 in
set_option maxRecDepth 20000 in
theorem c_Model_lowest {l : Launch} {w : zWd} {a1 : Int64} {a2 : Int64} {a3 : Int32} {M : zMem} {post : Int64 → zMem → Prop}  (h : wp_Model_lowest a1 a2 a3 M post) : zMl l ⟨"HandToHandModel", "lowest", "(JJI)J"⟩ prog_13_method_72_code 11 (Option.some .long) 0 0 w [.long a1, .long a2, .int a3] M post := by
  refine zMet (by decide) (Nat.le_of_ble_eq_true rfl) ?_
  intro p e s m below meth c X hr hlk hml hW ls hl
  have hx := X.1
  have hb := X.2.1
  have hl : lv_has ls 11 [(0, .long a1), (2, .long a2), (4, .int a3)] := hl
  have zL_6 :  ∀ (n : Nat) (x_5 : Int64) (x_7 : Int64) (M : zMem) (H : Heap) (locs : List Loc) (ls : Array Slot), zWo w s.heap M H locs → lv_has ls 11 [(0, .long a1), (2, .long a2), (4, .int a3), (5, .long x_5), (7, .long x_7)] → zlp2 (wpB_Model_lowest_6 a1 a2 a3   post) n x_5 x_7 M → W p l e (zRm 0 0) s m ([.long a1, .long a2, .int a3] : List Value).toArray below meth c H locs 0 0 (MQ below (va_Ql post (zB w) (zA w)) ([.long a1, .long a2, .int a3] : List Value).toArray s 0 0 (zA w)) (F0 m 6 ls []) := by
    intro n
    induction n with
    | zero => intro x_5 x_7 M H locs ls hW hl h; exact h.elim
    | succ n zJ =>
      intro x_5 x_7 M H locs ls hW hl h
      have h : wpB_Model_lowest_6 a1 a2 a3   post (zlp2 (wpB_Model_lowest_6 a1 a2 a3   post) n) x_5 x_7 M := h
      unfold wpB_Model_lowest_6 at h
      refine lv_lload hx hb dX11_lowest_6 (lv_at hl 4 rfl) ?_
      refine lv_lconst hx hb dX11_lowest_8 zc_l0 ?_
      refine W.lcmp hx hb dX11_lowest_9 ?_
      refine lv_if_eq (tgt := 31) hx hb dX11_lowest_10 rfl (fun c => ?_) (fun c => ?_)
      · replace h := h.1 c
        refine lv_iload hx hb dX11_lowest_31 (lv_at hl 2 rfl) ?_
        refine lv_if_ne (tgt := 40) hx hb dX11_lowest_33 rfl (fun c => ?_) (fun c => ?_)
        · replace h := h.1 c
          refine lv_lload_n hx hb dX11_lowest_40 rfl (lv_at hl 1 rfl) ?_
          refine lv_lload hx hb dX11_lowest_41 (lv_at hl 3 rfl) ?_
          obtain ⟨g, h⟩ := h
          refine lv_ldiv hx hb dX11_lowest_43 g ?_
          exact zretl X hr hlk hW h dX11_lowest_44
        · replace h := h.2 c
          refine lv_lload_n hx hb dX11_lowest_36 rfl (lv_at hl 0 rfl) ?_
          refine lv_goto (tgt := 41) hx hb dX11_lowest_37 rfl ?_
          refine lv_lload hx hb dX11_lowest_41 (lv_at hl 3 rfl) ?_
          obtain ⟨g, h⟩ := h
          refine lv_ldiv hx hb dX11_lowest_43 g ?_
          exact zretl X hr hlk hW h dX11_lowest_44
      · replace h := h.2 c
        refine lv_lload hx hb dX11_lowest_13 (lv_at hl 3 rfl) ?_
        refine lv_lload hx hb dX11_lowest_15 (lv_at hl 4 rfl) ?_
        obtain ⟨g, h⟩ := h
        refine lv_lrem hx hb dX11_lowest_17 g ?_
        refine lv_topl (fun zx1 ezx1 => ?_)
        replace h := h zx1 ezx1
        refine lv_lstore (lv' := [(9, .long zx1), (0, .long a1), (2, .long a2), (4, .int a3), (5, .long x_5), (7, .long x_7)]) hx hb dX11_lowest_18 hl (Nat.le_of_ble_eq_true rfl) rfl (fun ls hl => ?_)
        refine lv_lload hx hb dX11_lowest_20 (lv_at hl 5 rfl) ?_
        refine lv_lstore (lv' := [(5, .long x_7), (9, .long zx1), (0, .long a1), (2, .long a2), (4, .int a3), (7, .long x_7)]) hx hb dX11_lowest_22 hl (Nat.le_of_ble_eq_true rfl) rfl (fun ls hl => ?_)
        refine lv_lload hx hb dX11_lowest_24 (lv_at hl 1 rfl) ?_
        refine lv_lstore (lv' := [(7, .long zx1), (5, .long x_7), (9, .long zx1), (0, .long a1), (2, .long a2), (4, .int a3)]) hx hb dX11_lowest_26 hl (Nat.le_of_ble_eq_true rfl) rfl (fun ls hl => ?_)
        refine lv_goto (tgt := 6) hx hb dX11_lowest_28 rfl ?_
        exact zJ x_7 zx1 M H locs ls hW (lv_sub hl [3, 4, 5, 1, 0] rfl) h
  unfold wp_Model_lowest at h
  have zMain : ∀ (H : Heap) (locs : List Loc) (ls : Array Slot), zWo w s.heap M H locs → lv_has ls 11 [(0, .long a1), (2, .long a2), (4, .int a3)] → W p l e (zRm 0 0) s m ([.long a1, .long a2, .int a3] : List Value).toArray below meth c H locs 0 0 (MQ below (va_Ql post (zB w) (zA w)) ([.long a1, .long a2, .int a3] : List Value).toArray s 0 0 (zA w)) (F0 m 0 ls []) := by
    intro H locs ls hW hl
    refine lv_lload_n hx hb dX11_lowest_0 rfl (lv_at hl 0 rfl) ?_
    refine lv_lstore (lv' := [(5, .long a1), (0, .long a1), (2, .long a2), (4, .int a3)]) hx hb dX11_lowest_1 hl (Nat.le_of_ble_eq_true rfl) rfl (fun ls hl => ?_)
    refine lv_lload_n hx hb dX11_lowest_3 rfl (lv_at hl 2 rfl) ?_
    refine lv_lstore (lv' := [(7, .long a2), (5, .long a1), (0, .long a1), (2, .long a2), (4, .int a3)]) hx hb dX11_lowest_4 hl (Nat.le_of_ble_eq_true rfl) rfl (fun ls hl => ?_)
    obtain ⟨n, h⟩ := h
    refine zL_6   n a1 a2 M H locs ls hW (lv_sub hl [2, 3, 4, 1, 0] rfl) h
  exact zMain s.heap [] ls hW hl
def wp_Model_made (a1 : Int32) (M : zMem) (Q : Int32 → zMem → Prop) : Prop :=
  wp_Model_lowest ((M 0 31).toInt64) ((M 0 32).toInt64) a1 M (fun zr2 zm1 => Q zr2.toInt32 zm1)
set_option maxHeartbeats 4000000 in
set_option maxRecDepth 20000 in
theorem c_Model_made {l : Launch} {w : zWd} {a1 : Int32} {M : zMem} {post : Int32 → zMem → Prop} (h0 : zI_Model w) (h : wp_Model_made a1 M post) : zMi l ⟨"HandToHandModel", "made", "(I)I"⟩ prog_13_method_73_code 2 (Option.some .int) 1 30 w [.ref (zad w 0), .int a1] M post := by
  refine zMet (by decide) (Nat.le_of_ble_eq_true rfl) ?_
  intro p e s m below meth c X hr hlk hml hW ls hl
  have hx := X.1
  have hb := X.2.1
  have hl : lv_has ls 2 [(0, .ref (zad w 0)), (1, .int a1)] := hl
  unfold wp_Model_made at h
  have zMain : ∀ (H : Heap) (locs : List Loc) (ls : Array Slot), zWo w s.heap M H locs → lv_has ls 2 [(0, .ref (zad w 0)), (1, .int a1)] → W p l e (zRm 1 30) s m ([.ref (zad w 0), .int a1] : List Value).toArray below meth c H locs 0 0 (MQ below (va_Qi post (zB w) (zA w)) ([.ref (zad w 0), .int a1] : List Value).toArray s 0 0 (zA w)) (F0 m 0 ls []) := by
    intro H locs ls hW hl
    refine lv_aload_n hx hb dX11_made_0 rfl (lv_at hl 0 rfl) ?_
    refine zg_Model_ringCoats X hW h0 zu_1051 dX11_made_1 ?_
    refine lv_i2l hx hb dX11_made_4 rfl ?_
    refine lv_aload_n hx hb dX11_made_5 rfl (lv_at hl 0 rfl) ?_
    refine zg_Model_ringTicks X hW h0 zu_1052 dX11_made_6 ?_
    refine lv_i2l hx hb dX11_made_9 rfl ?_
    refine lv_iload_n hx hb dX11_made_10 rfl (lv_at hl 1 rfl) ?_
    refine zcalll (zrunS (As := [.long ((M 0 31).toInt64), .long ((M 0 32).toInt64), .int a1]) (rest := []) X hml hl hW zk_Model_301 (c_Model_lowest  h) rfl ⟨Nat.le_of_ble_eq_true rfl, Nat.le_of_ble_eq_true rfl⟩ ⟨Nat.le_refl 0, Nat.le_refl 0⟩ rfl (Nat.le_of_ble_eq_true rfl) dX11_made_11) hW (fun zr2 zm1 H locs h hW => ?_)
    refine lv_l2i hx hb dX11_made_14 rfl ?_
    exact zreti X hr hlk hW h dX11_made_15
  exact zMain s.heap [] ls hW hl
def wp_Model_makes (a1 : Int32) (M : zMem) (Q : Int32 → zMem → Prop) : Prop :=
  wp_Model_in a1.toInt64 0 1 M (fun zr2 zm1 => (¬ zr2 = 0 → wp_Model_asNumbered zm1 (fun zm3 => wp_Model_hasRing zm3 (fun zr6 zm5 => wp_Model_made a1 zm5 (fun zr8 zm7 => Q zr8 zm7)))) ∧ (zr2 = 0 → Q ((-1)) zm1))
set_option maxHeartbeats 4000000 in
set_option maxRecDepth 20000 in
theorem c_Model_makes {l : Launch} {w : zWd} {a1 : Int32} {M : zMem} {post : Int32 → zMem → Prop} (h0 : zI_Model w) (h : wp_Model_makes a1 M post) : zMi l ⟨"HandToHandModel", "makes", "(I)I"⟩ prog_13_method_74_code 2 (Option.some .int) 9 210 w [.ref (zad w 0), .int a1] M post := by
  refine zMet (by decide) (Nat.le_of_ble_eq_true rfl) ?_
  intro p e s m below meth c X hr hlk hml hW ls hl
  have hx := X.1
  have hb := X.2.1
  have hl : lv_has ls 2 [(0, .ref (zad w 0)), (1, .int a1)] := hl
  unfold wp_Model_makes at h
  have zMain : ∀ (H : Heap) (locs : List Loc) (ls : Array Slot), zWo w s.heap M H locs → lv_has ls 2 [(0, .ref (zad w 0)), (1, .int a1)] → W p l e (zRm 9 210) s m ([.ref (zad w 0), .int a1] : List Value).toArray below meth c H locs 0 0 (MQ below (va_Qi post (zB w) (zA w)) ([.ref (zad w 0), .int a1] : List Value).toArray s 0 0 (zA w)) (F0 m 0 ls []) := by
    intro H locs ls hW hl
    refine lv_iload_n hx hb dX11_makes_0 rfl (lv_at hl 1 rfl) ?_
    refine lv_i2l hx hb dX11_makes_1 rfl ?_
    refine lv_lconst hx hb dX11_makes_2 zc_l0 ?_
    refine lv_lconst hx hb dX11_makes_3 zc_l1 ?_
    refine zcalli (zrunS (As := [.long a1.toInt64, .long 0, .long 1]) (rest := []) X hml hl hW zk_Model_69 (c_Model_in  h) rfl ⟨Nat.le_of_ble_eq_true rfl, Nat.le_of_ble_eq_true rfl⟩ ⟨Nat.le_refl 0, Nat.le_refl 0⟩ rfl (Nat.le_of_ble_eq_true rfl) dX11_makes_4) hW (fun zr2 zm1 H locs h hW => ?_)
    refine lv_if_ne (tgt := 12) hx hb dX11_makes_7 rfl (fun c => ?_) (fun c => ?_)
    · replace h := h.1 c
      refine lv_aload_n hx hb dX11_makes_12 rfl (lv_at hl 0 rfl) ?_
      refine zcallv (zrunV (As := []) (rest := []) X hml hl hW h0.1 rfl zk_Model_243 (c_Model_asNumbered h0 h) rfl ⟨Nat.le_of_ble_eq_true rfl, Nat.le_of_ble_eq_true rfl⟩ ⟨Nat.le_refl 0, Nat.le_refl 0⟩ rfl (Nat.le_of_ble_eq_true rfl) dX11_makes_13) hW (fun zm3 H locs h hW => ?_)
      refine lv_aload_n hx hb dX11_makes_16 rfl (lv_at hl 0 rfl) ?_
      refine zcalli (zrunV (As := []) (rest := []) X hml hl hW h0.1 rfl zk_Model_295 (c_Model_hasRing h0 h) rfl ⟨Nat.le_of_ble_eq_true rfl, Nat.le_of_ble_eq_true rfl⟩ ⟨Nat.le_refl 0, Nat.le_refl 0⟩ rfl (Nat.le_of_ble_eq_true rfl) dX11_makes_17) hW (fun zr6 zm5 H locs h hW => ?_)
      refine lv_pop hx hb dX11_makes_20 rfl ?_
      refine lv_aload_n hx hb dX11_makes_21 rfl (lv_at hl 0 rfl) ?_
      refine lv_iload_n hx hb dX11_makes_22 rfl (lv_at hl 1 rfl) ?_
      refine zcalli (zrunV (As := [.int a1]) (rest := []) X hml hl hW h0.1 rfl zk_Model_305 (c_Model_made h0 h) rfl ⟨Nat.le_of_ble_eq_true rfl, Nat.le_of_ble_eq_true rfl⟩ ⟨Nat.le_refl 0, Nat.le_refl 0⟩ rfl (Nat.le_of_ble_eq_true rfl) dX11_makes_23) hW (fun zr8 zm7 H locs h hW => ?_)
      exact zreti X hr hlk hW h dX11_makes_26
    · replace h := h.2 c
      refine lv_iconst hx hb dX11_makes_10 zc_im1 ?_
      exact zreti X hr hlk hW h dX11_makes_11
  exact zMain s.heap [] ls hW hl
def wpB_Model_could_54 (a1 : Int32) (x_2 : Int64) (x_4 : Int64) (x_6 : Int32) (x_9 : Int32) (K118 : Int64 → zMem → Prop) (Q : Int64 → zMem → Prop) (J : Int64 → Int32 → zMem → Prop) (x_7 : Int64) (x_10 : Int32) (M : zMem) : Prop :=
  vp_in 0 100 ∧ ((M 4 (ix 0)) ≤ x_10 → K118 x_7 M) ∧ (¬ (M 4 (ix 0)) ≤ x_10 → vp_in (10 + x_9) 100 ∧ vp_in ((30 + (8 * (M 4 (ix (10 + x_9))))) + x_10) 100 ∧ vp_in ((60 + (8 * x_6)) + x_10) 100 ∧ ∀ zx3 : Int64, zx3 = x_7 + (((M 4 (ix ((30 + (8 * (M 4 (ix (10 + x_9))))) + x_10))) * (M 4 (ix ((60 + (8 * x_6)) + x_10)))).toInt64) → ∀ zx4 : Int32, zx4 = x_10 + 1 → J zx3 zx4 M)
def wpB_Model_could_39 (a1 : Int32) (x_2 : Int64) (x_4 : Int64) (x_6 : Int32) (K124 : Int64 → zMem → Prop) (Q : Int64 → zMem → Prop) (J : Int64 → Int32 → zMem → Prop) (x_7 : Int64) (x_9 : Int32) (M : zMem) : Prop :=
  vp_in 6 100 ∧ ((M 4 (ix 6)) ≤ x_9 → K124 x_7 M) ∧ (¬ (M 4 (ix 6)) ≤ x_9 → ∃ n : Nat, zlp2 (wpB_Model_could_54 a1 x_2 x_4 x_6 x_9 (fun (zx6 : Int64) (zm5 : zMem) => ∀ zx7 : Int32, zx7 = x_9 + 1 → J zx6 zx7 zm5) Q) n x_7 0 M)
def wpB_Model_could_22 (a1 : Int32)   (Q : Int64 → zMem → Prop) (J : Int64 → Int64 → Int32 → zMem → Prop) (x_2 : Int64) (x_4 : Int64) (x_6 : Int32) (M : zMem) : Prop :=
  vp_in 1 100 ∧ ((M 4 (ix 1)) ≤ x_6 → (¬ a1 = 0 → Q x_4 M) ∧ (a1 = 0 → Q x_2 M)) ∧ (¬ (M 4 (ix 1)) ≤ x_6 → ∃ n : Nat, zlp2 (wpB_Model_could_39 a1 x_2 x_4 x_6 (fun (zx9 : Int64) (zm8 : zMem) => vp_in 6 100 ∧ ∀ zx10 : Int64, zx10 = (x_2 * zx9) + (((zm8 4 (ix 6)).toInt64) * x_4) → ∀ zx11 : Int64, zx11 = x_4 * zx9 → wp_Model_lowest zx10 zx11 0 zm8 (fun zr13 zm12 => wp_Model_lowest zx10 zx11 1 zm12 (fun zr15 zm14 => ∀ zx16 : Int32, zx16 = x_6 + 1 → J zr13 zr15 zx16 zm14))) Q) n 0 0 M)
def wp_Model_could (a1 : Int32) (M : zMem) (Q : Int64 → zMem → Prop) : Prop :=
  wp_Model_in a1.toInt64 0 1 M (fun zr2 zm1 => (¬ zr2 = 0 → ∃ n : Nat, zlp3 (wpB_Model_could_22 a1   Q) n 0 1 0 zm1) ∧ (zr2 = 0 → Q ((-1)) zm1))
set_option maxHeartbeats 4000000 in
set_option maxRecDepth 20000 in
theorem c_Model_could {l : Launch} {w : zWd} {a1 : Int32} {M : zMem} {post : Int64 → zMem → Prop} (h0 : zI_Model w) (h : wp_Model_could a1 M post) : zMl l ⟨"HandToHandModel", "could", "(I)J"⟩ prog_13_method_75_code 13 (Option.some .long) 1 30 w [.ref (zad w 0), .int a1] M post := by
  refine zMet (by decide) (Nat.le_of_ble_eq_true rfl) ?_
  intro p e s m below meth c X hr hlk hml hW ls hl
  have hx := X.1
  have hb := X.2.1
  have hl : lv_has ls 13 [(0, .ref (zad w 0)), (1, .int a1)] := hl
  have zL_54 : ∀ (x_2 : Int64) (x_4 : Int64) (x_6 : Int32) (x_9 : Int32) (K118 : Int64 → zMem → Prop) (zK118 : ∀ (y_7 : Int64) (M : zMem) (H : Heap) (locs : List Loc) (ls : Array Slot), zWo w s.heap M H locs → lv_has ls 13 [(0, .ref (zad w 0)), (1, .int a1), (2, .long x_2), (4, .long x_4), (6, .int x_6), (7, .long y_7), (9, .int x_9)] → K118 y_7 M → W p l e (zRm 1 30) s m ([.ref (zad w 0), .int a1] : List Value).toArray below meth c H locs 0 0 (MQ below (va_Ql post (zB w) (zA w)) ([.ref (zad w 0), .int a1] : List Value).toArray s 0 0 (zA w)) (F0 m 118 ls [])), ∀ (n : Nat) (x_7 : Int64) (x_10 : Int32) (M : zMem) (H : Heap) (locs : List Loc) (ls : Array Slot), zWo w s.heap M H locs → lv_has ls 13 [(0, .ref (zad w 0)), (1, .int a1), (2, .long x_2), (4, .long x_4), (6, .int x_6), (7, .long x_7), (9, .int x_9), (10, .int x_10)] → zlp2 (wpB_Model_could_54 a1 x_2 x_4 x_6 x_9 K118 post) n x_7 x_10 M → W p l e (zRm 1 30) s m ([.ref (zad w 0), .int a1] : List Value).toArray below meth c H locs 0 0 (MQ below (va_Ql post (zB w) (zA w)) ([.ref (zad w 0), .int a1] : List Value).toArray s 0 0 (zA w)) (F0 m 54 ls []) := by
    intro x_2 x_4 x_6 x_9 K118 zK118 n
    induction n with
    | zero => intro x_7 x_10 M H locs ls hW hl h; exact h.elim
    | succ n zJ =>
      intro x_7 x_10 M H locs ls hW hl h
      have h : wpB_Model_could_54 a1 x_2 x_4 x_6 x_9 K118 post (zlp2 (wpB_Model_could_54 a1 x_2 x_4 x_6 x_9 K118 post) n) x_7 x_10 M := h
      unfold wpB_Model_could_54 at h
      refine lv_iload hx hb dX11_could_54 (lv_at hl 7 rfl) ?_
      refine lv_aload_n hx hb dX11_could_56 rfl (lv_at hl 0 rfl) ?_
      refine zg_Model_holds X hW h0 zu_1031 dX11_could_57 ?_
      refine lv_iconst hx hb dX11_could_60 zc_i0 ?_
      obtain ⟨g, h⟩ := h
      refine ziald X hW h0.2.2.2.2.1 g dX11_could_61 ?_
      refine lv_icmp_ge (tgt := 118) hx hb dX11_could_62 rfl (fun c => ?_) (fun c => ?_)
      · replace h := h.1 c
        exact zK118 x_7 M H locs ls hW (lv_sub hl [0, 1, 2, 3, 4, 5, 6] rfl) h
      · replace h := h.2 c
        refine lv_lload hx hb dX11_could_65 (lv_at hl 5 rfl) ?_
        refine lv_aload_n hx hb dX11_could_67 rfl (lv_at hl 0 rfl) ?_
        refine zg_Model_holds X hW h0 zu_1031 dX11_could_68 ?_
        refine lv_bipush hx hb dX11_could_71 zc_b30 ?_
        refine lv_bipush hx hb dX11_could_73 zc_b8 ?_
        refine lv_aload_n hx hb dX11_could_75 rfl (lv_at hl 0 rfl) ?_
        refine zg_Model_holds X hW h0 zu_1031 dX11_could_76 ?_
        refine lv_bipush hx hb dX11_could_79 zc_b10 ?_
        refine lv_iload hx hb dX11_could_81 (lv_at hl 6 rfl) ?_
        refine lv_iadd hx hb dX11_could_83 ?_
        obtain ⟨g, h⟩ := h
        refine ziald X hW h0.2.2.2.2.1 g dX11_could_84 ?_
        refine lv_imul hx hb dX11_could_85 ?_
        refine lv_iadd hx hb dX11_could_86 ?_
        refine lv_iload hx hb dX11_could_87 (lv_at hl 7 rfl) ?_
        refine lv_iadd hx hb dX11_could_89 ?_
        obtain ⟨g, h⟩ := h
        refine ziald X hW h0.2.2.2.2.1 g dX11_could_90 ?_
        refine lv_aload_n hx hb dX11_could_91 rfl (lv_at hl 0 rfl) ?_
        refine zg_Model_holds X hW h0 zu_1031 dX11_could_92 ?_
        refine lv_bipush hx hb dX11_could_95 zc_b60 ?_
        refine lv_bipush hx hb dX11_could_97 zc_b8 ?_
        refine lv_iload hx hb dX11_could_99 (lv_at hl 4 rfl) ?_
        refine lv_imul hx hb dX11_could_101 ?_
        refine lv_iadd hx hb dX11_could_102 ?_
        refine lv_iload hx hb dX11_could_103 (lv_at hl 7 rfl) ?_
        refine lv_iadd hx hb dX11_could_105 ?_
        obtain ⟨g, h⟩ := h
        refine ziald X hW h0.2.2.2.2.1 g dX11_could_106 ?_
        refine lv_imul hx hb dX11_could_107 ?_
        refine lv_i2l hx hb dX11_could_108 rfl ?_
        refine lv_ladd hx hb dX11_could_109 ?_
        refine lv_topl (fun zx3 ezx3 => ?_)
        replace h := h zx3 ezx3
        refine lv_lstore (lv' := [(7, .long zx3), (0, .ref (zad w 0)), (1, .int a1), (2, .long x_2), (4, .long x_4), (6, .int x_6), (9, .int x_9), (10, .int x_10)]) hx hb dX11_could_110 hl (Nat.le_of_ble_eq_true rfl) rfl (fun ls hl => ?_)
        obtain ⟨zx4, ezx4⟩ : ∃ y : Int32, y = x_10 + 1 := ⟨_, rfl⟩
        replace h := h zx4 ezx4
        refine lv_iinc (v := zx4) (lv' := [(10, .int zx4), (7, .long zx3), (0, .ref (zad w 0)), (1, .int a1), (2, .long x_2), (4, .long x_4), (6, .int x_6), (9, .int x_9)]) hx hb dX11_could_112 hl (k := 7) rfl (by rw [ezx4, zc_i1]) (Nat.le_of_ble_eq_true rfl) rfl (fun ls hl => ?_)
        refine lv_goto (tgt := 54) hx hb dX11_could_115 rfl ?_
        exact zJ zx3 zx4 M H locs ls hW (lv_sub hl [2, 3, 4, 5, 6, 1, 7, 0] rfl) h
  have zL_39 : ∀ (x_2 : Int64) (x_4 : Int64) (x_6 : Int32) (K124 : Int64 → zMem → Prop) (zK124 : ∀ (y_7 : Int64) (M : zMem) (H : Heap) (locs : List Loc) (ls : Array Slot), zWo w s.heap M H locs → lv_has ls 13 [(0, .ref (zad w 0)), (1, .int a1), (2, .long x_2), (4, .long x_4), (6, .int x_6), (7, .long y_7)] → K124 y_7 M → W p l e (zRm 1 30) s m ([.ref (zad w 0), .int a1] : List Value).toArray below meth c H locs 0 0 (MQ below (va_Ql post (zB w) (zA w)) ([.ref (zad w 0), .int a1] : List Value).toArray s 0 0 (zA w)) (F0 m 124 ls [])), ∀ (n : Nat) (x_7 : Int64) (x_9 : Int32) (M : zMem) (H : Heap) (locs : List Loc) (ls : Array Slot), zWo w s.heap M H locs → lv_has ls 13 [(0, .ref (zad w 0)), (1, .int a1), (2, .long x_2), (4, .long x_4), (6, .int x_6), (7, .long x_7), (9, .int x_9)] → zlp2 (wpB_Model_could_39 a1 x_2 x_4 x_6 K124 post) n x_7 x_9 M → W p l e (zRm 1 30) s m ([.ref (zad w 0), .int a1] : List Value).toArray below meth c H locs 0 0 (MQ below (va_Ql post (zB w) (zA w)) ([.ref (zad w 0), .int a1] : List Value).toArray s 0 0 (zA w)) (F0 m 39 ls []) := by
    intro x_2 x_4 x_6 K124 zK124 n
    induction n with
    | zero => intro x_7 x_9 M H locs ls hW hl h; exact h.elim
    | succ n zJ =>
      intro x_7 x_9 M H locs ls hW hl h
      have h : wpB_Model_could_39 a1 x_2 x_4 x_6 K124 post (zlp2 (wpB_Model_could_39 a1 x_2 x_4 x_6 K124 post) n) x_7 x_9 M := h
      unfold wpB_Model_could_39 at h
      refine lv_iload hx hb dX11_could_39 (lv_at hl 6 rfl) ?_
      refine lv_aload_n hx hb dX11_could_41 rfl (lv_at hl 0 rfl) ?_
      refine zg_Model_holds X hW h0 zu_1031 dX11_could_42 ?_
      refine lv_bipush hx hb dX11_could_45 zc_b6 ?_
      obtain ⟨g, h⟩ := h
      refine ziald X hW h0.2.2.2.2.1 g dX11_could_47 ?_
      refine lv_icmp_ge (tgt := 124) hx hb dX11_could_48 rfl (fun c => ?_) (fun c => ?_)
      · replace h := h.1 c
        exact zK124 x_7 M H locs ls hW (lv_sub hl [0, 1, 2, 3, 4, 5] rfl) h
      · replace h := h.2 c
        refine lv_iconst hx hb dX11_could_51 zc_i0 ?_
        refine lv_istore (lv' := [(10, .int 0), (0, .ref (zad w 0)), (1, .int a1), (2, .long x_2), (4, .long x_4), (6, .int x_6), (7, .long x_7), (9, .int x_9)]) hx hb dX11_could_52 hl (Nat.le_of_ble_eq_true rfl) rfl (fun ls hl => ?_)
        obtain ⟨n, h⟩ := h
        refine zL_54 x_2 x_4 x_6 x_9 _ (fun zx6 zm5 H locs ls hW hl h => ?_) n x_7 0 M H locs ls hW (lv_sub hl [1, 2, 3, 4, 5, 6, 7, 0] rfl) h
        · skip
          obtain ⟨zx7, ezx7⟩ : ∃ y : Int32, y = x_9 + 1 := ⟨_, rfl⟩
          replace h := h zx7 ezx7
          refine lv_iinc (v := zx7) (lv' := [(9, .int zx7), (0, .ref (zad w 0)), (1, .int a1), (2, .long x_2), (4, .long x_4), (6, .int x_6), (7, .long zx6)]) hx hb dX11_could_118 hl (k := 6) rfl (by rw [ezx7, zc_i1]) (Nat.le_of_ble_eq_true rfl) rfl (fun ls hl => ?_)
          refine lv_goto (tgt := 39) hx hb dX11_could_121 rfl ?_
          exact zJ zx6 zx7 zm5 H locs ls hW (lv_sub hl [1, 2, 3, 4, 5, 6, 0] rfl) h
  have zL_22 :  ∀ (n : Nat) (x_2 : Int64) (x_4 : Int64) (x_6 : Int32) (M : zMem) (H : Heap) (locs : List Loc) (ls : Array Slot), zWo w s.heap M H locs → lv_has ls 13 [(0, .ref (zad w 0)), (1, .int a1), (2, .long x_2), (4, .long x_4), (6, .int x_6)] → zlp3 (wpB_Model_could_22 a1   post) n x_2 x_4 x_6 M → W p l e (zRm 1 30) s m ([.ref (zad w 0), .int a1] : List Value).toArray below meth c H locs 0 0 (MQ below (va_Ql post (zB w) (zA w)) ([.ref (zad w 0), .int a1] : List Value).toArray s 0 0 (zA w)) (F0 m 22 ls []) := by
    intro n
    induction n with
    | zero => intro x_2 x_4 x_6 M H locs ls hW hl h; exact h.elim
    | succ n zJ =>
      intro x_2 x_4 x_6 M H locs ls hW hl h
      have h : wpB_Model_could_22 a1   post (zlp3 (wpB_Model_could_22 a1   post) n) x_2 x_4 x_6 M := h
      unfold wpB_Model_could_22 at h
      refine lv_iload hx hb dX11_could_22 (lv_at hl 4 rfl) ?_
      refine lv_aload_n hx hb dX11_could_24 rfl (lv_at hl 0 rfl) ?_
      refine zg_Model_holds X hW h0 zu_1031 dX11_could_25 ?_
      refine lv_iconst hx hb dX11_could_28 zc_i1 ?_
      obtain ⟨g, h⟩ := h
      refine ziald X hW h0.2.2.2.2.1 g dX11_could_29 ?_
      refine lv_icmp_ge (tgt := 174) hx hb dX11_could_30 rfl (fun c => ?_) (fun c => ?_)
      · replace h := h.1 c
        refine lv_iload_n hx hb dX11_could_174 rfl (lv_at hl 1 rfl) ?_
        refine lv_if_ne (tgt := 182) hx hb dX11_could_175 rfl (fun c => ?_) (fun c => ?_)
        · replace h := h.1 c
          refine lv_lload hx hb dX11_could_182 (lv_at hl 3 rfl) ?_
          exact zretl X hr hlk hW h dX11_could_184
        · replace h := h.2 c
          refine lv_lload_n hx hb dX11_could_178 rfl (lv_at hl 2 rfl) ?_
          refine lv_goto (tgt := 184) hx hb dX11_could_179 rfl ?_
          exact zretl X hr hlk hW h dX11_could_184
      · replace h := h.2 c
        refine lv_lconst hx hb dX11_could_33 zc_l0 ?_
        refine lv_lstore (lv' := [(7, .long 0), (0, .ref (zad w 0)), (1, .int a1), (2, .long x_2), (4, .long x_4), (6, .int x_6)]) hx hb dX11_could_34 hl (Nat.le_of_ble_eq_true rfl) rfl (fun ls hl => ?_)
        refine lv_iconst hx hb dX11_could_36 zc_i0 ?_
        refine lv_istore (lv' := [(9, .int 0), (7, .long 0), (0, .ref (zad w 0)), (1, .int a1), (2, .long x_2), (4, .long x_4), (6, .int x_6)]) hx hb dX11_could_37 hl (Nat.le_of_ble_eq_true rfl) rfl (fun ls hl => ?_)
        obtain ⟨n, h⟩ := h
        refine zL_39 x_2 x_4 x_6 _ (fun zx9 zm8 H locs ls hW hl h => ?_) n 0 0 M H locs ls hW (lv_sub hl [2, 3, 4, 5, 6, 1, 0] rfl) h
        · skip
          refine lv_lload_n hx hb dX11_could_124 rfl (lv_at hl 2 rfl) ?_
          refine lv_lload hx hb dX11_could_125 (lv_at hl 5 rfl) ?_
          refine lv_lmul hx hb dX11_could_127 ?_
          refine lv_aload_n hx hb dX11_could_128 rfl (lv_at hl 0 rfl) ?_
          refine zg_Model_holds X hW h0 zu_1031 dX11_could_129 ?_
          refine lv_bipush hx hb dX11_could_132 zc_b6 ?_
          obtain ⟨g, h⟩ := h
          refine ziald X hW h0.2.2.2.2.1 g dX11_could_134 ?_
          refine lv_i2l hx hb dX11_could_135 rfl ?_
          refine lv_lload hx hb dX11_could_136 (lv_at hl 3 rfl) ?_
          refine lv_lmul hx hb dX11_could_138 ?_
          refine lv_ladd hx hb dX11_could_139 ?_
          refine lv_topl (fun zx10 ezx10 => ?_)
          replace h := h zx10 ezx10
          refine lv_lstore (lv' := [(9, .long zx10), (0, .ref (zad w 0)), (1, .int a1), (2, .long x_2), (4, .long x_4), (6, .int x_6), (7, .long zx9)]) hx hb dX11_could_140 hl (Nat.le_of_ble_eq_true rfl) rfl (fun ls hl => ?_)
          refine lv_lload hx hb dX11_could_142 (lv_at hl 4 rfl) ?_
          refine lv_lload hx hb dX11_could_144 (lv_at hl 6 rfl) ?_
          refine lv_lmul hx hb dX11_could_146 ?_
          refine lv_topl (fun zx11 ezx11 => ?_)
          replace h := h zx11 ezx11
          refine lv_lstore (lv' := [(11, .long zx11), (9, .long zx10), (0, .ref (zad w 0)), (1, .int a1), (2, .long x_2), (4, .long x_4), (6, .int x_6), (7, .long zx9)]) hx hb dX11_could_147 hl (Nat.le_of_ble_eq_true rfl) rfl (fun ls hl => ?_)
          refine lv_lload hx hb dX11_could_149 (lv_at hl 1 rfl) ?_
          refine lv_lload hx hb dX11_could_151 (lv_at hl 0 rfl) ?_
          refine lv_iconst hx hb dX11_could_153 zc_i0 ?_
          refine zcalll (zrunS (As := [.long zx10, .long zx11, .int 0]) (rest := []) X hml hl hW zk_Model_301 (c_Model_lowest  h) rfl ⟨Nat.le_of_ble_eq_true rfl, Nat.le_of_ble_eq_true rfl⟩ ⟨Nat.le_refl 0, Nat.le_refl 0⟩ rfl (Nat.le_of_ble_eq_true rfl) dX11_could_154) hW (fun zr13 zm12 H locs h hW => ?_)
          refine lv_lstore_n (lv' := [(2, .long zr13), (11, .long zx11), (9, .long zx10), (0, .ref (zad w 0)), (1, .int a1), (4, .long x_4), (6, .int x_6), (7, .long zx9)]) hx hb dX11_could_157 rfl hl (Nat.le_of_ble_eq_true rfl) rfl (fun ls hl => ?_)
          refine lv_lload hx hb dX11_could_158 (lv_at hl 2 rfl) ?_
          refine lv_lload hx hb dX11_could_160 (lv_at hl 1 rfl) ?_
          refine lv_iconst hx hb dX11_could_162 zc_i1 ?_
          refine zcalll (zrunS (As := [.long zx10, .long zx11, .int 1]) (rest := []) X hml hl hW zk_Model_301 (c_Model_lowest  h) rfl ⟨Nat.le_of_ble_eq_true rfl, Nat.le_of_ble_eq_true rfl⟩ ⟨Nat.le_refl 0, Nat.le_refl 0⟩ rfl (Nat.le_of_ble_eq_true rfl) dX11_could_163) hW (fun zr15 zm14 H locs h hW => ?_)
          refine lv_lstore (lv' := [(4, .long zr15), (2, .long zr13), (11, .long zx11), (9, .long zx10), (0, .ref (zad w 0)), (1, .int a1), (6, .int x_6), (7, .long zx9)]) hx hb dX11_could_166 hl (Nat.le_of_ble_eq_true rfl) rfl (fun ls hl => ?_)
          obtain ⟨zx16, ezx16⟩ : ∃ y : Int32, y = x_6 + 1 := ⟨_, rfl⟩
          replace h := h zx16 ezx16
          refine lv_iinc (v := zx16) (lv' := [(6, .int zx16), (4, .long zr15), (2, .long zr13), (11, .long zx11), (9, .long zx10), (0, .ref (zad w 0)), (1, .int a1), (7, .long zx9)]) hx hb dX11_could_168 hl (k := 6) rfl (by rw [ezx16, zc_i1]) (Nat.le_of_ble_eq_true rfl) rfl (fun ls hl => ?_)
          refine lv_goto (tgt := 22) hx hb dX11_could_171 rfl ?_
          exact zJ zr13 zr15 zx16 zm14 H locs ls hW (lv_sub hl [5, 6, 2, 1, 0] rfl) h
  unfold wp_Model_could at h
  have zMain : ∀ (H : Heap) (locs : List Loc) (ls : Array Slot), zWo w s.heap M H locs → lv_has ls 13 [(0, .ref (zad w 0)), (1, .int a1)] → W p l e (zRm 1 30) s m ([.ref (zad w 0), .int a1] : List Value).toArray below meth c H locs 0 0 (MQ below (va_Ql post (zB w) (zA w)) ([.ref (zad w 0), .int a1] : List Value).toArray s 0 0 (zA w)) (F0 m 0 ls []) := by
    intro H locs ls hW hl
    refine lv_iload_n hx hb dX11_could_0 rfl (lv_at hl 1 rfl) ?_
    refine lv_i2l hx hb dX11_could_1 rfl ?_
    refine lv_lconst hx hb dX11_could_2 zc_l0 ?_
    refine lv_lconst hx hb dX11_could_3 zc_l1 ?_
    refine zcalli (zrunS (As := [.long a1.toInt64, .long 0, .long 1]) (rest := []) X hml hl hW zk_Model_69 (c_Model_in  h) rfl ⟨Nat.le_of_ble_eq_true rfl, Nat.le_of_ble_eq_true rfl⟩ ⟨Nat.le_refl 0, Nat.le_refl 0⟩ rfl (Nat.le_of_ble_eq_true rfl) dX11_could_4) hW (fun zr2 zm1 H locs h hW => ?_)
    refine lv_if_ne (tgt := 14) hx hb dX11_could_7 rfl (fun c => ?_) (fun c => ?_)
    · replace h := h.1 c
      refine lv_lconst hx hb dX11_could_14 zc_l0 ?_
      refine lv_lstore_n (lv' := [(2, .long 0), (0, .ref (zad w 0)), (1, .int a1)]) hx hb dX11_could_15 rfl hl (Nat.le_of_ble_eq_true rfl) rfl (fun ls hl => ?_)
      refine lv_lconst hx hb dX11_could_16 zc_l1 ?_
      refine lv_lstore (lv' := [(4, .long 1), (2, .long 0), (0, .ref (zad w 0)), (1, .int a1)]) hx hb dX11_could_17 hl (Nat.le_of_ble_eq_true rfl) rfl (fun ls hl => ?_)
      refine lv_iconst hx hb dX11_could_19 zc_i0 ?_
      refine lv_istore (lv' := [(6, .int 0), (4, .long 1), (2, .long 0), (0, .ref (zad w 0)), (1, .int a1)]) hx hb dX11_could_20 hl (Nat.le_of_ble_eq_true rfl) rfl (fun ls hl => ?_)
      obtain ⟨n, h⟩ := h
      refine zL_22   n 0 1 0 zm1 H locs ls hW (lv_sub hl [3, 4, 2, 1, 0] rfl) h
    · replace h := h.2 c
      refine lv_ldc2 hx hb X.2.2.1 (X.2.2.2.1 _ zu_1443) dX11_could_10 ?_
      exact zretl X hr hlk hW h dX11_could_13
  exact zMain s.heap [] ls hW hl
def wpB_Model_orders_4    (Q : Int32 → zMem → Prop) (J : Int32 → Int32 → zMem → Prop) (x_1 : Int32) (x_2 : Int32) (M : zMem) : Prop :=
  vp_in 1 100 ∧ ((M 4 (ix 1)) < x_2 → Q x_1 M) ∧ (¬ (M 4 (ix 1)) < x_2 → ∀ zx1 : Int32, zx1 = x_1 * x_2 → ∀ zx2 : Int32, zx2 = x_2 + 1 → J zx1 zx2 M)
def wp_Model_orders  (M : zMem) (Q : Int32 → zMem → Prop) : Prop :=
  ∃ n : Nat, zlp2 (wpB_Model_orders_4    Q) n 1 2 M
set_option maxHeartbeats 4000000 in
set_option maxRecDepth 20000 in
theorem c_Model_orders {l : Launch} {w : zWd} {M : zMem} {post : Int32 → zMem → Prop} (h0 : zI_Model w) (h : wp_Model_orders  M post) : zMi l ⟨"HandToHandModel", "orders", "()I"⟩ prog_13_method_76_code 3 (Option.some .int) 0 0 w [.ref (zad w 0)] M post := by
  refine zMet (by decide) (Nat.le_of_ble_eq_true rfl) ?_
  intro p e s m below meth c X hr hlk hml hW ls hl
  have hx := X.1
  have hb := X.2.1
  have hl : lv_has ls 3 [(0, .ref (zad w 0))] := hl
  have zL_4 :  ∀ (n : Nat) (x_1 : Int32) (x_2 : Int32) (M : zMem) (H : Heap) (locs : List Loc) (ls : Array Slot), zWo w s.heap M H locs → lv_has ls 3 [(0, .ref (zad w 0)), (1, .int x_1), (2, .int x_2)] → zlp2 (wpB_Model_orders_4    post) n x_1 x_2 M → W p l e (zRm 0 0) s m ([.ref (zad w 0)] : List Value).toArray below meth c H locs 0 0 (MQ below (va_Qi post (zB w) (zA w)) ([.ref (zad w 0)] : List Value).toArray s 0 0 (zA w)) (F0 m 4 ls []) := by
    intro n
    induction n with
    | zero => intro x_1 x_2 M H locs ls hW hl h; exact h.elim
    | succ n zJ =>
      intro x_1 x_2 M H locs ls hW hl h
      have h : wpB_Model_orders_4    post (zlp2 (wpB_Model_orders_4    post) n) x_1 x_2 M := h
      unfold wpB_Model_orders_4 at h
      refine lv_iload_n hx hb dX11_orders_4 rfl (lv_at hl 2 rfl) ?_
      refine lv_aload_n hx hb dX11_orders_5 rfl (lv_at hl 0 rfl) ?_
      refine zg_Model_holds X hW h0 zu_1031 dX11_orders_6 ?_
      refine lv_iconst hx hb dX11_orders_9 zc_i1 ?_
      obtain ⟨g, h⟩ := h
      refine ziald X hW h0.2.2.2.2.1 g dX11_orders_10 ?_
      refine lv_icmp_gt (tgt := 24) hx hb dX11_orders_11 rfl (fun c => ?_) (fun c => ?_)
      · replace h := h.1 c
        refine lv_iload_n hx hb dX11_orders_24 rfl (lv_at hl 1 rfl) ?_
        exact zreti X hr hlk hW h dX11_orders_25
      · replace h := h.2 c
        refine lv_iload_n hx hb dX11_orders_14 rfl (lv_at hl 1 rfl) ?_
        refine lv_iload_n hx hb dX11_orders_15 rfl (lv_at hl 2 rfl) ?_
        refine lv_imul hx hb dX11_orders_16 ?_
        refine lv_topi (fun zx1 ezx1 => ?_)
        replace h := h zx1 ezx1
        refine lv_istore_n (lv' := [(1, .int zx1), (0, .ref (zad w 0)), (2, .int x_2)]) hx hb dX11_orders_17 rfl hl (Nat.le_of_ble_eq_true rfl) rfl (fun ls hl => ?_)
        obtain ⟨zx2, ezx2⟩ : ∃ y : Int32, y = x_2 + 1 := ⟨_, rfl⟩
        replace h := h zx2 ezx2
        refine lv_iinc (v := zx2) (lv' := [(2, .int zx2), (1, .int zx1), (0, .ref (zad w 0))]) hx hb dX11_orders_18 hl (k := 2) rfl (by rw [ezx2, zc_i1]) (Nat.le_of_ble_eq_true rfl) rfl (fun ls hl => ?_)
        refine lv_goto (tgt := 4) hx hb dX11_orders_21 rfl ?_
        exact zJ zx1 zx2 M H locs ls hW (lv_sub hl [2, 1, 0] rfl) h
  unfold wp_Model_orders at h
  have zMain : ∀ (H : Heap) (locs : List Loc) (ls : Array Slot), zWo w s.heap M H locs → lv_has ls 3 [(0, .ref (zad w 0))] → W p l e (zRm 0 0) s m ([.ref (zad w 0)] : List Value).toArray below meth c H locs 0 0 (MQ below (va_Qi post (zB w) (zA w)) ([.ref (zad w 0)] : List Value).toArray s 0 0 (zA w)) (F0 m 0 ls []) := by
    intro H locs ls hW hl
    refine lv_iconst hx hb dX11_orders_0 zc_i1 ?_
    refine lv_istore_n (lv' := [(1, .int 1), (0, .ref (zad w 0))]) hx hb dX11_orders_1 rfl hl (Nat.le_of_ble_eq_true rfl) rfl (fun ls hl => ?_)
    refine lv_iconst hx hb dX11_orders_2 zc_i2 ?_
    refine lv_istore_n (lv' := [(2, .int 2), (1, .int 1), (0, .ref (zad w 0))]) hx hb dX11_orders_3 rfl hl (Nat.le_of_ble_eq_true rfl) rfl (fun ls hl => ?_)
    obtain ⟨n, h⟩ := h
    refine zL_4   n 1 2 M H locs ls hW (lv_sub hl [2, 1, 0] rfl) h
  exact zMain s.heap [] ls hW hl
def wpJ_Model_layOrder_64 (a1 : Int32)  (J : Int32 → Int32 → zMem → Prop) (Q : zMem → Prop) (x_2 : Int32) (x_3 : Int32) (x_4 : Int32) (x_5 : Int32) (x_6 : Int32) (x_7 : Int32)  (M : zMem) : Prop :=
  (¬ ((x_4 >>> (x_7 &&& 31)) &&& 1) = 1 → ∀ zx8 : Int32, zx8 = x_6 - 1 → ∀ zx9 : Int32, zx9 = x_7 + 1 → J zx8 zx9 M) ∧ (((x_4 >>> (x_7 &&& 31)) &&& 1) = 1 → ∀ zx10 : Int32, zx10 = x_6 - 0 → ∀ zx11 : Int32, zx11 = x_7 + 1 → J zx10 zx11 M)
def wpB_Model_layOrder_48 (a1 : Int32) (x_2 : Int32) (x_3 : Int32) (x_4 : Int32) (x_5 : Int32) (K91 : Int32 → zMem → Prop) (Q : zMem → Prop) (J : Int32 → Int32 → zMem → Prop) (x_6 : Int32) (x_7 : Int32) (M : zMem) : Prop :=
  (((x_4 >>> (x_7 &&& 31)) &&& 1) = 1 → wpJ_Model_layOrder_64 a1 J Q x_2 x_3 x_4 x_5 x_6 x_7 M) ∧ (¬ ((x_4 >>> (x_7 &&& 31)) &&& 1) = 1 → (x_6 ≤ 0 → K91 x_7 M) ∧ (¬ x_6 ≤ 0 → wpJ_Model_layOrder_64 a1 J Q x_2 x_3 x_4 x_5 x_6 x_7 M))
def wpB_Model_layOrder_17 (a1 : Int32)   (Q : zMem → Prop) (J : Int32 → Int32 → Int32 → Int32 → zMem → Prop) (x_2 : Int32) (x_3 : Int32) (x_4 : Int32) (x_5 : Int32) (M : zMem) : Prop :=
  ((M 0 18) ≤ x_5 → Q M) ∧ (¬ (M 0 18) ≤ x_5 → (¬ ((M 0 18) - x_5) = 0) ∧ ∀ zx5 : Int32, zx5 = x_3 / ((M 0 18) - x_5) → (¬ zx5 = 0) ∧ ∀ zx6 : Int32, zx6 = x_2 / zx5 → (¬ zx5 = 0) ∧ ∀ zx7 : Int32, zx7 = x_2 - x_2 / zx5 * zx5 → ∃ n : Nat, zlp2 (wpB_Model_layOrder_48 a1 zx7 zx5 x_4 x_5 (fun (zx13 : Int32) (zm12 : zMem) => ∀ zx14 : Int32, zx14 = x_4 ||| (1 <<< (zx13 &&& 31)) → vp_in x_5 5 ∧ ∀ zm15 : zMem, zm15 = zup zm12 8 (ix x_5) zx13 → ∀ zx16 : Int32, zx16 = x_5 + 1 → J zx7 zx5 zx14 zx16 zm15) Q) n zx6 0 M)
def wp_Model_layOrder (a1 : Int32) (M : zMem) (Q : zMem → Prop) : Prop :=
  wp_Model_asNumbered M (fun zm1 => wp_Model_orders zm1 (fun zr4 zm3 => ∃ n : Nat, zlp4 (wpB_Model_layOrder_17 a1   Q) n a1 zr4 0 0 zm3))
set_option maxHeartbeats 4000000 in
set_option maxRecDepth 20000 in
theorem c_Model_layOrder {l : Launch} {w : zWd} {a1 : Int32} {M : zMem} {post : zMem → Prop} (h0 : zI_Model w) (h : wp_Model_layOrder a1 M post) : zMv l ⟨"HandToHandModel", "layOrder", "(I)V"⟩ prog_13_method_77_code 8 none 2 42 w [.ref (zad w 0), .int a1] M post := by
  refine zMet (by decide) (Nat.le_of_ble_eq_true rfl) ?_
  intro p e s m below meth c X hr hlk hml hW ls hl
  have hx := X.1
  have hb := X.2.1
  have hl : lv_has ls 8 [(0, .ref (zad w 0)), (1, .int a1)] := hl
  have zJ_64 : ∀ (x_2 : Int32) (x_3 : Int32) (x_4 : Int32) (x_5 : Int32) (x_6 : Int32) (x_7 : Int32) (J : Int32 → Int32 → zMem → Prop) (zJ : ∀ (y_6 : Int32) (y_7 : Int32) (M : zMem) (H : Heap) (locs : List Loc) (ls : Array Slot), zWo w s.heap M H locs → lv_has ls 8 [(0, .ref (zad w 0)), (2, .int x_2), (3, .int x_3), (4, .int x_4), (5, .int x_5), (6, .int y_6), (7, .int y_7)] → J y_6 y_7 M → W p l e (zRm 2 42) s m ([.ref (zad w 0), .int a1] : List Value).toArray below meth c H locs 0 0 (MQ below (va_Qv post (zB w) (zA w)) ([.ref (zad w 0), .int a1] : List Value).toArray s 0 0 (zA w)) (F0 m 48 ls [])) (M : zMem) (H : Heap) (locs : List Loc) (ls : Array Slot), zWo w s.heap M H locs → lv_has ls 8 [(0, .ref (zad w 0)), (2, .int x_2), (3, .int x_3), (4, .int x_4), (5, .int x_5), (6, .int x_6), (7, .int x_7)] → wpJ_Model_layOrder_64 a1 J post x_2 x_3 x_4 x_5 x_6 x_7 M → W p l e (zRm 2 42) s m ([.ref (zad w 0), .int a1] : List Value).toArray below meth c H locs 0 0 (MQ below (va_Qv post (zB w) (zA w)) ([.ref (zad w 0), .int a1] : List Value).toArray s 0 0 (zA w)) (F0 m 64 ls []) := by
    intro x_2 x_3 x_4 x_5 x_6 x_7 J zJ M H locs ls hW hl h
    unfold wpJ_Model_layOrder_64 at h
    refine lv_iload hx hb dX11_layOrder_64 (lv_at hl 5 rfl) ?_
    refine lv_iload hx hb dX11_layOrder_66 (lv_at hl 3 rfl) ?_
    refine lv_iload hx hb dX11_layOrder_68 (lv_at hl 6 rfl) ?_
    refine lv_ishr hx hb dX11_layOrder_70 ?_
    refine lv_iconst hx hb dX11_layOrder_71 zc_i1 ?_
    refine lv_iand hx hb dX11_layOrder_72 ?_
    refine lv_iconst hx hb dX11_layOrder_73 zc_i1 ?_
    refine lv_icmp_ne (tgt := 81) hx hb dX11_layOrder_74 rfl (fun c => ?_) (fun c => ?_)
    · replace h := h.1 c
      refine lv_iconst hx hb dX11_layOrder_81 zc_i1 ?_
      refine lv_isub hx hb dX11_layOrder_82 ?_
      refine lv_topi (fun zx8 ezx8 => ?_)
      replace h := h zx8 ezx8
      refine lv_istore (lv' := [(6, .int zx8), (0, .ref (zad w 0)), (2, .int x_2), (3, .int x_3), (4, .int x_4), (5, .int x_5), (7, .int x_7)]) hx hb dX11_layOrder_83 hl (Nat.le_of_ble_eq_true rfl) rfl (fun ls hl => ?_)
      obtain ⟨zx9, ezx9⟩ : ∃ y : Int32, y = x_7 + 1 := ⟨_, rfl⟩
      replace h := h zx9 ezx9
      refine lv_iinc (v := zx9) (lv' := [(7, .int zx9), (6, .int zx8), (0, .ref (zad w 0)), (2, .int x_2), (3, .int x_3), (4, .int x_4), (5, .int x_5)]) hx hb dX11_layOrder_85 hl (k := 6) rfl (by rw [ezx9, zc_i1]) (Nat.le_of_ble_eq_true rfl) rfl (fun ls hl => ?_)
      refine lv_goto (tgt := 48) hx hb dX11_layOrder_88 rfl ?_
      exact zJ zx8 zx9 M H locs ls hW (lv_sub hl [2, 3, 4, 5, 6, 1, 0] rfl) h
    · replace h := h.2 c
      refine lv_iconst hx hb dX11_layOrder_77 zc_i0 ?_
      refine lv_goto (tgt := 82) hx hb dX11_layOrder_78 rfl ?_
      refine lv_isub hx hb dX11_layOrder_82 ?_
      refine lv_topi (fun zx10 ezx10 => ?_)
      replace h := h zx10 ezx10
      refine lv_istore (lv' := [(6, .int zx10), (0, .ref (zad w 0)), (2, .int x_2), (3, .int x_3), (4, .int x_4), (5, .int x_5), (7, .int x_7)]) hx hb dX11_layOrder_83 hl (Nat.le_of_ble_eq_true rfl) rfl (fun ls hl => ?_)
      obtain ⟨zx11, ezx11⟩ : ∃ y : Int32, y = x_7 + 1 := ⟨_, rfl⟩
      replace h := h zx11 ezx11
      refine lv_iinc (v := zx11) (lv' := [(7, .int zx11), (6, .int zx10), (0, .ref (zad w 0)), (2, .int x_2), (3, .int x_3), (4, .int x_4), (5, .int x_5)]) hx hb dX11_layOrder_85 hl (k := 6) rfl (by rw [ezx11, zc_i1]) (Nat.le_of_ble_eq_true rfl) rfl (fun ls hl => ?_)
      refine lv_goto (tgt := 48) hx hb dX11_layOrder_88 rfl ?_
      exact zJ zx10 zx11 M H locs ls hW (lv_sub hl [2, 3, 4, 5, 6, 1, 0] rfl) h
  have zL_48 : ∀ (x_2 : Int32) (x_3 : Int32) (x_4 : Int32) (x_5 : Int32) (K91 : Int32 → zMem → Prop) (zK91 : ∀ (y_7 : Int32) (M : zMem) (H : Heap) (locs : List Loc) (ls : Array Slot), zWo w s.heap M H locs → lv_has ls 8 [(0, .ref (zad w 0)), (2, .int x_2), (3, .int x_3), (4, .int x_4), (5, .int x_5), (7, .int y_7)] → K91 y_7 M → W p l e (zRm 2 42) s m ([.ref (zad w 0), .int a1] : List Value).toArray below meth c H locs 0 0 (MQ below (va_Qv post (zB w) (zA w)) ([.ref (zad w 0), .int a1] : List Value).toArray s 0 0 (zA w)) (F0 m 91 ls [])), ∀ (n : Nat) (x_6 : Int32) (x_7 : Int32) (M : zMem) (H : Heap) (locs : List Loc) (ls : Array Slot), zWo w s.heap M H locs → lv_has ls 8 [(0, .ref (zad w 0)), (2, .int x_2), (3, .int x_3), (4, .int x_4), (5, .int x_5), (6, .int x_6), (7, .int x_7)] → zlp2 (wpB_Model_layOrder_48 a1 x_2 x_3 x_4 x_5 K91 post) n x_6 x_7 M → W p l e (zRm 2 42) s m ([.ref (zad w 0), .int a1] : List Value).toArray below meth c H locs 0 0 (MQ below (va_Qv post (zB w) (zA w)) ([.ref (zad w 0), .int a1] : List Value).toArray s 0 0 (zA w)) (F0 m 48 ls []) := by
    intro x_2 x_3 x_4 x_5 K91 zK91 n
    induction n with
    | zero => intro x_6 x_7 M H locs ls hW hl h; exact h.elim
    | succ n zJ =>
      intro x_6 x_7 M H locs ls hW hl h
      have h : wpB_Model_layOrder_48 a1 x_2 x_3 x_4 x_5 K91 post (zlp2 (wpB_Model_layOrder_48 a1 x_2 x_3 x_4 x_5 K91 post) n) x_6 x_7 M := h
      unfold wpB_Model_layOrder_48 at h
      refine lv_iload hx hb dX11_layOrder_48 (lv_at hl 3 rfl) ?_
      refine lv_iload hx hb dX11_layOrder_50 (lv_at hl 6 rfl) ?_
      refine lv_ishr hx hb dX11_layOrder_52 ?_
      refine lv_iconst hx hb dX11_layOrder_53 zc_i1 ?_
      refine lv_iand hx hb dX11_layOrder_54 ?_
      refine lv_iconst hx hb dX11_layOrder_55 zc_i1 ?_
      refine lv_icmp_eq (tgt := 64) hx hb dX11_layOrder_56 rfl (fun c => ?_) (fun c => ?_)
      · replace h := h.1 c
        exact zJ_64 x_2 x_3 x_4 x_5 x_6 x_7 _ zJ M H locs ls hW (lv_sub hl [0, 1, 2, 3, 4, 5, 6] rfl) h
      · replace h := h.2 c
        refine lv_iload hx hb dX11_layOrder_59 (lv_at hl 5 rfl) ?_
        refine lv_if_le (tgt := 91) hx hb dX11_layOrder_61 rfl (fun c => ?_) (fun c => ?_)
        · replace h := h.1 c
          exact zK91 x_7 M H locs ls hW (lv_sub hl [0, 1, 2, 3, 4, 6] rfl) h
        · replace h := h.2 c
          exact zJ_64 x_2 x_3 x_4 x_5 x_6 x_7 _ zJ M H locs ls hW (lv_sub hl [0, 1, 2, 3, 4, 5, 6] rfl) h
  have zL_17 :  ∀ (n : Nat) (x_2 : Int32) (x_3 : Int32) (x_4 : Int32) (x_5 : Int32) (M : zMem) (H : Heap) (locs : List Loc) (ls : Array Slot), zWo w s.heap M H locs → lv_has ls 8 [(0, .ref (zad w 0)), (2, .int x_2), (3, .int x_3), (4, .int x_4), (5, .int x_5)] → zlp4 (wpB_Model_layOrder_17 a1   post) n x_2 x_3 x_4 x_5 M → W p l e (zRm 2 42) s m ([.ref (zad w 0), .int a1] : List Value).toArray below meth c H locs 0 0 (MQ below (va_Qv post (zB w) (zA w)) ([.ref (zad w 0), .int a1] : List Value).toArray s 0 0 (zA w)) (F0 m 17 ls []) := by
    intro n
    induction n with
    | zero => intro x_2 x_3 x_4 x_5 M H locs ls hW hl h; exact h.elim
    | succ n zJ =>
      intro x_2 x_3 x_4 x_5 M H locs ls hW hl h
      have h : wpB_Model_layOrder_17 a1   post (zlp4 (wpB_Model_layOrder_17 a1   post) n) x_2 x_3 x_4 x_5 M := h
      unfold wpB_Model_layOrder_17 at h
      refine lv_iload hx hb dX11_layOrder_17 (lv_at hl 4 rfl) ?_
      refine lv_aload_n hx hb dX11_layOrder_19 rfl (lv_at hl 0 rfl) ?_
      refine zg_Model_many X hW h0 zu_1038 dX11_layOrder_20 ?_
      refine lv_icmp_ge (tgt := 115) hx hb dX11_layOrder_23 rfl (fun c => ?_) (fun c => ?_)
      · replace h := h.1 c
        exact zretv X hr hlk hW h dX11_layOrder_115
      · replace h := h.2 c
        refine lv_iload_n hx hb dX11_layOrder_26 rfl (lv_at hl 2 rfl) ?_
        refine lv_aload_n hx hb dX11_layOrder_27 rfl (lv_at hl 0 rfl) ?_
        refine zg_Model_many X hW h0 zu_1038 dX11_layOrder_28 ?_
        refine lv_iload hx hb dX11_layOrder_31 (lv_at hl 4 rfl) ?_
        refine lv_isub hx hb dX11_layOrder_33 ?_
        obtain ⟨g, h⟩ := h
        refine lv_idiv hx hb dX11_layOrder_34 g ?_
        refine lv_topi (fun zx5 ezx5 => ?_)
        replace h := h zx5 ezx5
        refine lv_istore_n (lv' := [(3, .int zx5), (0, .ref (zad w 0)), (2, .int x_2), (4, .int x_4), (5, .int x_5)]) hx hb dX11_layOrder_35 rfl hl (Nat.le_of_ble_eq_true rfl) rfl (fun ls hl => ?_)
        refine lv_iload_n hx hb dX11_layOrder_36 rfl (lv_at hl 2 rfl) ?_
        refine lv_iload_n hx hb dX11_layOrder_37 rfl (lv_at hl 0 rfl) ?_
        obtain ⟨g, h⟩ := h
        refine lv_idiv hx hb dX11_layOrder_38 g ?_
        refine lv_topi (fun zx6 ezx6 => ?_)
        replace h := h zx6 ezx6
        refine lv_istore (lv' := [(6, .int zx6), (3, .int zx5), (0, .ref (zad w 0)), (2, .int x_2), (4, .int x_4), (5, .int x_5)]) hx hb dX11_layOrder_39 hl (Nat.le_of_ble_eq_true rfl) rfl (fun ls hl => ?_)
        refine lv_iload_n hx hb dX11_layOrder_41 rfl (lv_at hl 3 rfl) ?_
        refine lv_iload_n hx hb dX11_layOrder_42 rfl (lv_at hl 1 rfl) ?_
        obtain ⟨g, h⟩ := h
        refine lv_irem hx hb dX11_layOrder_43 g ?_
        refine lv_topi (fun zx7 ezx7 => ?_)
        replace h := h zx7 ezx7
        refine lv_istore_n (lv' := [(2, .int zx7), (6, .int zx6), (3, .int zx5), (0, .ref (zad w 0)), (4, .int x_4), (5, .int x_5)]) hx hb dX11_layOrder_44 rfl hl (Nat.le_of_ble_eq_true rfl) rfl (fun ls hl => ?_)
        refine lv_iconst hx hb dX11_layOrder_45 zc_i0 ?_
        refine lv_istore (lv' := [(7, .int 0), (2, .int zx7), (6, .int zx6), (3, .int zx5), (0, .ref (zad w 0)), (4, .int x_4), (5, .int x_5)]) hx hb dX11_layOrder_46 hl (Nat.le_of_ble_eq_true rfl) rfl (fun ls hl => ?_)
        obtain ⟨n, h⟩ := h
        refine zL_48 zx7 zx5 x_4 x_5 _ (fun zx13 zm12 H locs ls hW hl h => ?_) n zx6 0 M H locs ls hW (lv_sub hl [4, 1, 3, 5, 6, 2, 0] rfl) h
        · skip
          refine lv_iload hx hb dX11_layOrder_91 (lv_at hl 3 rfl) ?_
          refine lv_iconst hx hb dX11_layOrder_93 zc_i1 ?_
          refine lv_iload hx hb dX11_layOrder_94 (lv_at hl 5 rfl) ?_
          refine lv_ishl hx hb dX11_layOrder_96 ?_
          refine lv_ior hx hb dX11_layOrder_97 ?_
          refine lv_topi (fun zx14 ezx14 => ?_)
          replace h := h zx14 ezx14
          refine lv_istore (lv' := [(4, .int zx14), (0, .ref (zad w 0)), (2, .int zx7), (3, .int zx5), (5, .int x_5), (7, .int zx13)]) hx hb dX11_layOrder_98 hl (Nat.le_of_ble_eq_true rfl) rfl (fun ls hl => ?_)
          refine lv_aload_n hx hb dX11_layOrder_100 rfl (lv_at hl 1 rfl) ?_
          refine zg_Model_who X hW h0 zu_1040 dX11_layOrder_101 ?_
          refine lv_iload hx hb dX11_layOrder_104 (lv_at hl 4 rfl) ?_
          refine lv_iload hx hb dX11_layOrder_106 (lv_at hl 5 rfl) ?_
          obtain ⟨g, h⟩ := h
          refine ziast X hW h0.2.2.2.2.2.2.2.1 g dX11_layOrder_108 (fun H locs zm15 ezm15 hW => ?_)
          replace h := h zm15 ezm15
          obtain ⟨zx16, ezx16⟩ : ∃ y : Int32, y = x_5 + 1 := ⟨_, rfl⟩
          replace h := h zx16 ezx16
          refine lv_iinc (v := zx16) (lv' := [(5, .int zx16), (4, .int zx14), (0, .ref (zad w 0)), (2, .int zx7), (3, .int zx5), (7, .int zx13)]) hx hb dX11_layOrder_109 hl (k := 4) rfl (by rw [ezx16, zc_i1]) (Nat.le_of_ble_eq_true rfl) rfl (fun ls hl => ?_)
          refine lv_goto (tgt := 17) hx hb dX11_layOrder_112 rfl ?_
          exact zJ zx7 zx5 zx14 zx16 zm15 H locs ls hW (lv_sub hl [2, 3, 4, 1, 0] rfl) h
  unfold wp_Model_layOrder at h
  have zMain : ∀ (H : Heap) (locs : List Loc) (ls : Array Slot), zWo w s.heap M H locs → lv_has ls 8 [(0, .ref (zad w 0)), (1, .int a1)] → W p l e (zRm 2 42) s m ([.ref (zad w 0), .int a1] : List Value).toArray below meth c H locs 0 0 (MQ below (va_Qv post (zB w) (zA w)) ([.ref (zad w 0), .int a1] : List Value).toArray s 0 0 (zA w)) (F0 m 0 ls []) := by
    intro H locs ls hW hl
    refine lv_aload_n hx hb dX11_layOrder_0 rfl (lv_at hl 0 rfl) ?_
    refine zcallv (zrunV (As := []) (rest := []) X hml hl hW h0.1 rfl zk_Model_243 (c_Model_asNumbered h0 h) rfl ⟨Nat.le_of_ble_eq_true rfl, Nat.le_of_ble_eq_true rfl⟩ ⟨Nat.le_refl 0, Nat.le_refl 0⟩ rfl (Nat.le_of_ble_eq_true rfl) dX11_layOrder_1) hW (fun zm1 H locs h hW => ?_)
    refine lv_iload_n hx hb dX11_layOrder_4 rfl (lv_at hl 1 rfl) ?_
    refine lv_istore_n (lv' := [(2, .int a1), (0, .ref (zad w 0)), (1, .int a1)]) hx hb dX11_layOrder_5 rfl hl (Nat.le_of_ble_eq_true rfl) rfl (fun ls hl => ?_)
    refine lv_aload_n hx hb dX11_layOrder_6 rfl (lv_at hl 1 rfl) ?_
    refine zcalli (zrunV (As := []) (rest := []) X hml hl hW h0.1 rfl zk_Model_310 (c_Model_orders h0 h) rfl ⟨Nat.le_of_ble_eq_true rfl, Nat.le_of_ble_eq_true rfl⟩ ⟨Nat.le_refl 0, Nat.le_refl 0⟩ rfl (Nat.le_of_ble_eq_true rfl) dX11_layOrder_7) hW (fun zr4 zm3 H locs h hW => ?_)
    refine lv_istore_n (lv' := [(3, .int zr4), (2, .int a1), (0, .ref (zad w 0)), (1, .int a1)]) hx hb dX11_layOrder_10 rfl hl (Nat.le_of_ble_eq_true rfl) rfl (fun ls hl => ?_)
    refine lv_iconst hx hb dX11_layOrder_11 zc_i0 ?_
    refine lv_istore (lv' := [(4, .int 0), (3, .int zr4), (2, .int a1), (0, .ref (zad w 0)), (1, .int a1)]) hx hb dX11_layOrder_12 hl (Nat.le_of_ble_eq_true rfl) rfl (fun ls hl => ?_)
    refine lv_iconst hx hb dX11_layOrder_14 zc_i0 ?_
    refine lv_istore (lv' := [(5, .int 0), (4, .int 0), (3, .int zr4), (2, .int a1), (0, .ref (zad w 0)), (1, .int a1)]) hx hb dX11_layOrder_15 hl (Nat.le_of_ble_eq_true rfl) rfl (fun ls hl => ?_)
    obtain ⟨n, h⟩ := h
    refine zL_17   n a1 zr4 0 0 zm3 H locs ls hW (lv_sub hl [4, 3, 2, 1, 0] rfl) h
  exact zMain s.heap [] ls hW hl
def wp_Model_isOrder (a1 : Int32) (M : zMem) (Q : Int32 → zMem → Prop) : Prop :=
  wp_Model_orders M (fun zr2 zm1 => wp_Model_in a1.toInt64 0 ((zr2 - 1).toInt64) zm1 (fun zr4 zm3 => zbo zr4 ∧ Q zr4 zm3))
set_option maxHeartbeats 4000000 in
set_option maxRecDepth 20000 in
theorem c_Model_isOrder {l : Launch} {w : zWd} {a1 : Int32} {M : zMem} {post : Int32 → zMem → Prop} (h0 : zI_Model w) (h : wp_Model_isOrder a1 M post) : zMi l ⟨"HandToHandModel", "isOrder", "(I)Z"⟩ prog_13_method_78_code 2 (Option.some .boolean) 1 25 w [.ref (zad w 0), .int a1] M post := by
  refine zMet (by decide) (Nat.le_of_ble_eq_true rfl) ?_
  intro p e s m below meth c X hr hlk hml hW ls hl
  have hx := X.1
  have hb := X.2.1
  have hl : lv_has ls 2 [(0, .ref (zad w 0)), (1, .int a1)] := hl
  unfold wp_Model_isOrder at h
  have zMain : ∀ (H : Heap) (locs : List Loc) (ls : Array Slot), zWo w s.heap M H locs → lv_has ls 2 [(0, .ref (zad w 0)), (1, .int a1)] → W p l e (zRm 1 25) s m ([.ref (zad w 0), .int a1] : List Value).toArray below meth c H locs 0 0 (MQ below (va_Qi post (zB w) (zA w)) ([.ref (zad w 0), .int a1] : List Value).toArray s 0 0 (zA w)) (F0 m 0 ls []) := by
    intro H locs ls hW hl
    refine lv_iload_n hx hb dX11_isOrder_0 rfl (lv_at hl 1 rfl) ?_
    refine lv_i2l hx hb dX11_isOrder_1 rfl ?_
    refine lv_lconst hx hb dX11_isOrder_2 zc_l0 ?_
    refine lv_aload_n hx hb dX11_isOrder_3 rfl (lv_at hl 0 rfl) ?_
    refine zcalli (zrunV (As := []) (rest := [.long 0, .long a1.toInt64]) X hml hl hW h0.1 rfl zk_Model_310 (c_Model_orders h0 h) rfl ⟨Nat.le_of_ble_eq_true rfl, Nat.le_of_ble_eq_true rfl⟩ ⟨Nat.le_refl 0, Nat.le_refl 0⟩ rfl (Nat.le_of_ble_eq_true rfl) dX11_isOrder_4) hW (fun zr2 zm1 H locs h hW => ?_)
    refine lv_iconst hx hb dX11_isOrder_7 zc_i1 ?_
    refine lv_isub hx hb dX11_isOrder_8 ?_
    refine lv_i2l hx hb dX11_isOrder_9 rfl ?_
    refine zcalli (zrunS (As := [.long a1.toInt64, .long 0, .long ((zr2 - 1).toInt64)]) (rest := []) X hml hl hW zk_Model_69 (c_Model_in  h) rfl ⟨Nat.le_of_ble_eq_true rfl, Nat.le_of_ble_eq_true rfl⟩ ⟨Nat.le_refl 0, Nat.le_refl 0⟩ rfl (Nat.le_of_ble_eq_true rfl) dX11_isOrder_10) hW (fun zr4 zm3 H locs h hW => ?_)
    exact zretz X hr hlk hW (zbo_n h.1) h.2 dX11_isOrder_13
  exact zMain s.heap [] ls hW hl
def wp_Model_order (a1 : Int32) (a2 : Int32) (M : zMem) (Q : Int32 → zMem → Prop) : Prop :=
  wp_Model_isOrder a1 M (fun zr2 zm1 => (zr2 = 0 → Q ((-1)) zm1) ∧ (¬ zr2 = 0 → wp_Model_in a2.toInt64 0 1 zm1 (fun zr4 zm3 => (¬ zr4 = 0 → wp_Model_layOrder a1 zm3 (fun zm5 => wp_Model_hasRing zm5 (fun zr8 zm7 => wp_Model_made a2 zm7 (fun zr10 zm9 => Q zr10 zm9)))) ∧ (zr4 = 0 → Q ((-1)) zm3))))
set_option maxHeartbeats 4000000 in
set_option maxRecDepth 20000 in
theorem c_Model_order {l : Launch} {w : zWd} {a1 : Int32} {a2 : Int32} {M : zMem} {post : Int32 → zMem → Prop} (h0 : zI_Model w) (h : wp_Model_order a1 a2 M post) : zMi l ⟨"HandToHandModel", "order", "(II)I"⟩ prog_13_method_79_code 3 (Option.some .int) 9 210 w [.ref (zad w 0), .int a1, .int a2] M post := by
  refine zMet (by decide) (Nat.le_of_ble_eq_true rfl) ?_
  intro p e s m below meth c X hr hlk hml hW ls hl
  have hx := X.1
  have hb := X.2.1
  have hl : lv_has ls 3 [(0, .ref (zad w 0)), (1, .int a1), (2, .int a2)] := hl
  unfold wp_Model_order at h
  have zMain : ∀ (H : Heap) (locs : List Loc) (ls : Array Slot), zWo w s.heap M H locs → lv_has ls 3 [(0, .ref (zad w 0)), (1, .int a1), (2, .int a2)] → W p l e (zRm 9 210) s m ([.ref (zad w 0), .int a1, .int a2] : List Value).toArray below meth c H locs 0 0 (MQ below (va_Qi post (zB w) (zA w)) ([.ref (zad w 0), .int a1, .int a2] : List Value).toArray s 0 0 (zA w)) (F0 m 0 ls []) := by
    intro H locs ls hW hl
    refine lv_aload_n hx hb dX11_order_0 rfl (lv_at hl 0 rfl) ?_
    refine lv_iload_n hx hb dX11_order_1 rfl (lv_at hl 1 rfl) ?_
    refine zcalli (zrunV (As := [.int a1]) (rest := []) X hml hl hW h0.1 rfl zk_Model_313 (c_Model_isOrder h0 h) rfl ⟨Nat.le_of_ble_eq_true rfl, Nat.le_of_ble_eq_true rfl⟩ ⟨Nat.le_refl 0, Nat.le_refl 0⟩ rfl (Nat.le_of_ble_eq_true rfl) dX11_order_2) hW (fun zr2 zm1 H locs h hW => ?_)
    refine lv_if_eq (tgt := 18) hx hb dX11_order_5 rfl (fun c => ?_) (fun c => ?_)
    · replace h := h.1 c
      refine lv_iconst hx hb dX11_order_18 zc_im1 ?_
      exact zreti X hr hlk hW h dX11_order_19
    · replace h := h.2 c
      refine lv_iload_n hx hb dX11_order_8 rfl (lv_at hl 2 rfl) ?_
      refine lv_i2l hx hb dX11_order_9 rfl ?_
      refine lv_lconst hx hb dX11_order_10 zc_l0 ?_
      refine lv_lconst hx hb dX11_order_11 zc_l1 ?_
      refine zcalli (zrunS (As := [.long a2.toInt64, .long 0, .long 1]) (rest := []) X hml hl hW zk_Model_69 (c_Model_in  h) rfl ⟨Nat.le_of_ble_eq_true rfl, Nat.le_of_ble_eq_true rfl⟩ ⟨Nat.le_refl 0, Nat.le_refl 0⟩ rfl (Nat.le_of_ble_eq_true rfl) dX11_order_12) hW (fun zr4 zm3 H locs h hW => ?_)
      refine lv_if_ne (tgt := 20) hx hb dX11_order_15 rfl (fun c => ?_) (fun c => ?_)
      · replace h := h.1 c
        refine lv_aload_n hx hb dX11_order_20 rfl (lv_at hl 0 rfl) ?_
        refine lv_iload_n hx hb dX11_order_21 rfl (lv_at hl 1 rfl) ?_
        refine zcallv (zrunV (As := [.int a1]) (rest := []) X hml hl hW h0.1 rfl zk_Model_316 (c_Model_layOrder h0 h) rfl ⟨Nat.le_of_ble_eq_true rfl, Nat.le_of_ble_eq_true rfl⟩ ⟨Nat.le_refl 0, Nat.le_refl 0⟩ rfl (Nat.le_of_ble_eq_true rfl) dX11_order_22) hW (fun zm5 H locs h hW => ?_)
        refine lv_aload_n hx hb dX11_order_25 rfl (lv_at hl 0 rfl) ?_
        refine zcalli (zrunV (As := []) (rest := []) X hml hl hW h0.1 rfl zk_Model_295 (c_Model_hasRing h0 h) rfl ⟨Nat.le_of_ble_eq_true rfl, Nat.le_of_ble_eq_true rfl⟩ ⟨Nat.le_refl 0, Nat.le_refl 0⟩ rfl (Nat.le_of_ble_eq_true rfl) dX11_order_26) hW (fun zr8 zm7 H locs h hW => ?_)
        refine lv_pop hx hb dX11_order_29 rfl ?_
        refine lv_aload_n hx hb dX11_order_30 rfl (lv_at hl 0 rfl) ?_
        refine lv_iload_n hx hb dX11_order_31 rfl (lv_at hl 2 rfl) ?_
        refine zcalli (zrunV (As := [.int a2]) (rest := []) X hml hl hW h0.1 rfl zk_Model_305 (c_Model_made h0 h) rfl ⟨Nat.le_of_ble_eq_true rfl, Nat.le_of_ble_eq_true rfl⟩ ⟨Nat.le_refl 0, Nat.le_refl 0⟩ rfl (Nat.le_of_ble_eq_true rfl) dX11_order_32) hW (fun zr10 zm9 H locs h hW => ?_)
        exact zreti X hr hlk hW h dX11_order_35
      · replace h := h.2 c
        refine lv_iconst hx hb dX11_order_18 zc_im1 ?_
        exact zreti X hr hlk hW h dX11_order_19
  exact zMain s.heap [] ls hW hl
def wp_Model_isMore  (M : zMem) (Q : Int32 → zMem → Prop) : Prop :=
  ((lg_cmp (((M 0 31).toInt64) * ((M 0 34).toInt64)) (((M 0 33).toInt64) * ((M 0 32).toInt64))) ≤ 0 → Q 0 M) ∧ (¬ (lg_cmp (((M 0 31).toInt64) * ((M 0 34).toInt64)) (((M 0 33).toInt64) * ((M 0 32).toInt64))) ≤ 0 → Q 1 M)
set_option maxHeartbeats 4000000 in
set_option maxRecDepth 20000 in
theorem c_Model_isMore {l : Launch} {w : zWd} {M : zMem} {post : Int32 → zMem → Prop} (h0 : zI_Model w) (h : wp_Model_isMore  M post) : zMi l ⟨"HandToHandModel", "isMore", "()Z"⟩ prog_13_method_80_code 1 (Option.some .boolean) 0 0 w [.ref (zad w 0)] M post := by
  refine zMet (by decide) (Nat.le_of_ble_eq_true rfl) ?_
  intro p e s m below meth c X hr hlk hml hW ls hl
  have hx := X.1
  have hb := X.2.1
  have hl : lv_has ls 1 [(0, .ref (zad w 0))] := hl
  unfold wp_Model_isMore at h
  have zMain : ∀ (H : Heap) (locs : List Loc) (ls : Array Slot), zWo w s.heap M H locs → lv_has ls 1 [(0, .ref (zad w 0))] → W p l e (zRm 0 0) s m ([.ref (zad w 0)] : List Value).toArray below meth c H locs 0 0 (MQ below (va_Qi post (zB w) (zA w)) ([.ref (zad w 0)] : List Value).toArray s 0 0 (zA w)) (F0 m 0 ls []) := by
    intro H locs ls hW hl
    refine lv_aload_n hx hb dX11_isMore_0 rfl (lv_at hl 0 rfl) ?_
    refine zg_Model_ringCoats X hW h0 zu_1051 dX11_isMore_1 ?_
    refine lv_i2l hx hb dX11_isMore_4 rfl ?_
    refine lv_aload_n hx hb dX11_isMore_5 rfl (lv_at hl 0 rfl) ?_
    refine zg_Model_bestTicks X hW h0 zu_1054 dX11_isMore_6 ?_
    refine lv_i2l hx hb dX11_isMore_9 rfl ?_
    refine lv_lmul hx hb dX11_isMore_10 ?_
    refine lv_aload_n hx hb dX11_isMore_11 rfl (lv_at hl 0 rfl) ?_
    refine zg_Model_bestCoats X hW h0 zu_1053 dX11_isMore_12 ?_
    refine lv_i2l hx hb dX11_isMore_15 rfl ?_
    refine lv_aload_n hx hb dX11_isMore_16 rfl (lv_at hl 0 rfl) ?_
    refine zg_Model_ringTicks X hW h0 zu_1052 dX11_isMore_17 ?_
    refine lv_i2l hx hb dX11_isMore_20 rfl ?_
    refine lv_lmul hx hb dX11_isMore_21 ?_
    refine W.lcmp hx hb dX11_isMore_22 ?_
    refine lv_if_le (tgt := 30) hx hb dX11_isMore_23 rfl (fun c => ?_) (fun c => ?_)
    · replace h := h.1 c
      refine lv_iconst hx hb dX11_isMore_30 zc_i0 ?_
      exact zretz X hr hlk hW rfl h dX11_isMore_31
    · replace h := h.2 c
      refine lv_iconst hx hb dX11_isMore_26 zc_i1 ?_
      refine lv_goto (tgt := 31) hx hb dX11_isMore_27 rfl ?_
      exact zretz X hr hlk hW rfl h dX11_isMore_31
  exact zMain s.heap [] ls hW hl
def wp_Model_keepBest  (M : zMem) (Q : zMem → Prop) : Prop :=
  ∀ zm1 : zMem, zm1 = zup M 0 33 (M 0 31) → ∀ zm2 : zMem, zm2 = zup zm1 0 34 (zm1 0 32) → Q zm2
set_option maxHeartbeats 4000000 in
set_option maxRecDepth 20000 in
theorem c_Model_keepBest {l : Launch} {w : zWd} {M : zMem} {post : zMem → Prop} (h0 : zI_Model w) (h : wp_Model_keepBest  M post) : zMv l ⟨"HandToHandModel", "keepBest", "()V"⟩ prog_13_method_81_code 1 none 0 0 w [.ref (zad w 0)] M post := by
  refine zMet (by decide) (Nat.le_of_ble_eq_true rfl) ?_
  intro p e s m below meth c X hr hlk hml hW ls hl
  have hx := X.1
  have hb := X.2.1
  have hl : lv_has ls 1 [(0, .ref (zad w 0))] := hl
  unfold wp_Model_keepBest at h
  have zMain : ∀ (H : Heap) (locs : List Loc) (ls : Array Slot), zWo w s.heap M H locs → lv_has ls 1 [(0, .ref (zad w 0))] → W p l e (zRm 0 0) s m ([.ref (zad w 0)] : List Value).toArray below meth c H locs 0 0 (MQ below (va_Qv post (zB w) (zA w)) ([.ref (zad w 0)] : List Value).toArray s 0 0 (zA w)) (F0 m 0 ls []) := by
    intro H locs ls hW hl
    refine lv_aload_n hx hb dX11_keepBest_0 rfl (lv_at hl 0 rfl) ?_
    refine lv_aload_n hx hb dX11_keepBest_1 rfl (lv_at hl 0 rfl) ?_
    refine zg_Model_ringCoats X hW h0 zu_1051 dX11_keepBest_2 ?_
    refine zp_Model_bestCoats X hW h0 zu_1053 dX11_keepBest_5 (fun H locs zm1 ezm1 hW => ?_)
    replace h := h zm1 ezm1
    refine lv_aload_n hx hb dX11_keepBest_8 rfl (lv_at hl 0 rfl) ?_
    refine lv_aload_n hx hb dX11_keepBest_9 rfl (lv_at hl 0 rfl) ?_
    refine zg_Model_ringTicks X hW h0 zu_1052 dX11_keepBest_10 ?_
    refine zp_Model_bestTicks X hW h0 zu_1054 dX11_keepBest_13 (fun H locs zm2 ezm2 hW => ?_)
    replace h := h zm2 ezm2
    exact zretv X hr hlk hW h dX11_keepBest_16
  exact zMain s.heap [] ls hW hl
def wpJ_Model_best_49 (a1 : Int32) (K76 : Int32 → Int32 → zMem → Prop) (J : Int32 → Int32 → Int32 → zMem → Prop) (Q : Int32 → zMem → Prop) (x_2 : Int32) (x_4 : Int32) (s_0 : Int32) (s_1 : Int32) (M : zMem) : Prop :=
  ∀ zx9 : Int32, zx9 = s_0 + s_1 → (x_4 = 0 → wp_Model_keepBest M (fun zm10 => ∀ zx12 : Int32, zx12 = x_4 + 1 → J x_4 zx9 zx12 zm10)) ∧ (¬ x_4 = 0 → wp_Model_isMore M (fun zr14 zm13 => (zr14 = 0 → ∀ zx15 : Int32, zx15 = x_4 + 1 → J x_2 zx9 zx15 zm13) ∧ (¬ zr14 = 0 → wp_Model_keepBest zm13 (fun zm16 => ∀ zx18 : Int32, zx18 = x_4 + 1 → J x_4 zx9 zx18 zm16))))
def wpB_Model_best_21 (a1 : Int32)  (K76 : Int32 → Int32 → zMem → Prop) (Q : Int32 → zMem → Prop) (J : Int32 → Int32 → Int32 → zMem → Prop) (x_2 : Int32) (x_3 : Int32) (x_4 : Int32) (M : zMem) : Prop :=
  wp_Model_orders M (fun zr4 zm3 => (zr4 ≤ x_4 → K76 x_2 x_3 zm3) ∧ (¬ zr4 ≤ x_4 → wp_Model_layOrder x_4 zm3 (fun zm5 => wp_Model_hasRing zm5 (fun zr8 zm7 => (zr8 = 0 → wpJ_Model_best_49 a1 K76 J Q x_2 x_4 x_3 1 zm7) ∧ (¬ zr8 = 0 → wpJ_Model_best_49 a1 K76 J Q x_2 x_4 x_3 0 zm7)))))
def wp_Model_best (a1 : Int32) (M : zMem) (Q : Int32 → zMem → Prop) : Prop :=
  wp_Model_in a1.toInt64 0 3 M (fun zr2 zm1 => (¬ zr2 = 0 → ∃ n : Nat, zlp3 (wpB_Model_best_21 a1  (fun (zx20 : Int32) (zx21 : Int32) (zm19 : zMem) => (¬ a1 = 0 → (¬ a1 = 3 → wp_Model_lowest ((zm19 0 33).toInt64) ((zm19 0 34).toInt64) (a1 - 1) zm19 (fun zr23 zm22 => Q zr23.toInt32 zm22)) ∧ (a1 = 3 → Q zx21 zm19)) ∧ (a1 = 0 → Q zx20 zm19)) Q) n 0 0 0 zm1) ∧ (zr2 = 0 → Q ((-1)) zm1))
set_option maxHeartbeats 4000000 in
set_option maxRecDepth 20000 in
theorem c_Model_best {l : Launch} {w : zWd} {a1 : Int32} {M : zMem} {post : Int32 → zMem → Prop} (h0 : zI_Model w) (h : wp_Model_best a1 M post) : zMi l ⟨"HandToHandModel", "best", "(I)I"⟩ prog_13_method_82_code 5 (Option.some .int) 9 210 w [.ref (zad w 0), .int a1] M post := by
  refine zMet (by decide) (Nat.le_of_ble_eq_true rfl) ?_
  intro p e s m below meth c X hr hlk hml hW ls hl
  have hx := X.1
  have hb := X.2.1
  have hl : lv_has ls 5 [(0, .ref (zad w 0)), (1, .int a1)] := hl
  have zJ_49 : ∀ (x_2 : Int32) (x_4 : Int32) (s_0 : Int32) (s_1 : Int32) (K76 : Int32 → Int32 → zMem → Prop) (zK76 : ∀ (y_2 : Int32) (y_3 : Int32) (M : zMem) (H : Heap) (locs : List Loc) (ls : Array Slot), zWo w s.heap M H locs → lv_has ls 5 [(0, .ref (zad w 0)), (1, .int a1), (2, .int y_2), (3, .int y_3)] → K76 y_2 y_3 M → W p l e (zRm 9 210) s m ([.ref (zad w 0), .int a1] : List Value).toArray below meth c H locs 0 0 (MQ below (va_Qi post (zB w) (zA w)) ([.ref (zad w 0), .int a1] : List Value).toArray s 0 0 (zA w)) (F0 m 76 ls [])) (J : Int32 → Int32 → Int32 → zMem → Prop) (zJ : ∀ (y_2 : Int32) (y_3 : Int32) (y_4 : Int32) (M : zMem) (H : Heap) (locs : List Loc) (ls : Array Slot), zWo w s.heap M H locs → lv_has ls 5 [(0, .ref (zad w 0)), (1, .int a1), (2, .int y_2), (3, .int y_3), (4, .int y_4)] → J y_2 y_3 y_4 M → W p l e (zRm 9 210) s m ([.ref (zad w 0), .int a1] : List Value).toArray below meth c H locs 0 0 (MQ below (va_Qi post (zB w) (zA w)) ([.ref (zad w 0), .int a1] : List Value).toArray s 0 0 (zA w)) (F0 m 21 ls [])) (M : zMem) (H : Heap) (locs : List Loc) (ls : Array Slot), zWo w s.heap M H locs → lv_has ls 5 [(0, .ref (zad w 0)), (1, .int a1), (2, .int x_2), (4, .int x_4)] → wpJ_Model_best_49 a1 K76 J post x_2 x_4 s_0 s_1 M → W p l e (zRm 9 210) s m ([.ref (zad w 0), .int a1] : List Value).toArray below meth c H locs 0 0 (MQ below (va_Qi post (zB w) (zA w)) ([.ref (zad w 0), .int a1] : List Value).toArray s 0 0 (zA w)) (F0 m 49 ls [.int s_1, .int s_0]) := by
    intro x_2 x_4 s_0 s_1 K76 zK76 J zJ M H locs ls hW hl h
    unfold wpJ_Model_best_49 at h
    refine lv_iadd hx hb dX11_best_49 ?_
    refine lv_topi (fun zx9 ezx9 => ?_)
    replace h := h zx9 ezx9
    refine lv_istore_n (lv' := [(3, .int zx9), (0, .ref (zad w 0)), (1, .int a1), (2, .int x_2), (4, .int x_4)]) hx hb dX11_best_50 rfl hl (Nat.le_of_ble_eq_true rfl) rfl (fun ls hl => ?_)
    refine lv_iload hx hb dX11_best_51 (lv_at hl 4 rfl) ?_
    refine lv_if_eq (tgt := 63) hx hb dX11_best_53 rfl (fun c => ?_) (fun c => ?_)
    · replace h := h.1 c
      refine lv_iload hx hb dX11_best_63 (lv_at hl 4 rfl) ?_
      refine lv_istore_n (lv' := [(2, .int x_4), (3, .int zx9), (0, .ref (zad w 0)), (1, .int a1), (4, .int x_4)]) hx hb dX11_best_65 rfl hl (Nat.le_of_ble_eq_true rfl) rfl (fun ls hl => ?_)
      refine lv_aload_n hx hb dX11_best_66 rfl (lv_at hl 2 rfl) ?_
      refine zcallv (zrunV (As := []) (rest := []) X hml hl hW h0.1 rfl zk_Model_328 (c_Model_keepBest h0 h) rfl ⟨Nat.le_of_ble_eq_true rfl, Nat.le_of_ble_eq_true rfl⟩ ⟨Nat.le_refl 0, Nat.le_refl 0⟩ rfl (Nat.le_of_ble_eq_true rfl) dX11_best_67) hW (fun zm10 H locs h hW => ?_)
      obtain ⟨zx12, ezx12⟩ : ∃ y : Int32, y = x_4 + 1 := ⟨_, rfl⟩
      replace h := h zx12 ezx12
      refine lv_iinc (v := zx12) (lv' := [(4, .int zx12), (2, .int x_4), (3, .int zx9), (0, .ref (zad w 0)), (1, .int a1)]) hx hb dX11_best_70 hl (k := 4) rfl (by rw [ezx12, zc_i1]) (Nat.le_of_ble_eq_true rfl) rfl (fun ls hl => ?_)
      refine lv_goto (tgt := 21) hx hb dX11_best_73 rfl ?_
      exact zJ x_4 zx9 zx12 zm10 H locs ls hW (lv_sub hl [3, 4, 1, 2, 0] rfl) h
    · replace h := h.2 c
      refine lv_aload_n hx hb dX11_best_56 rfl (lv_at hl 1 rfl) ?_
      refine zcalli (zrunV (As := []) (rest := []) X hml hl hW h0.1 rfl zk_Model_325 (c_Model_isMore h0 h) rfl ⟨Nat.le_of_ble_eq_true rfl, Nat.le_of_ble_eq_true rfl⟩ ⟨Nat.le_refl 0, Nat.le_refl 0⟩ rfl (Nat.le_of_ble_eq_true rfl) dX11_best_57) hW (fun zr14 zm13 H locs h hW => ?_)
      refine lv_if_eq (tgt := 70) hx hb dX11_best_60 rfl (fun c => ?_) (fun c => ?_)
      · replace h := h.1 c
        obtain ⟨zx15, ezx15⟩ : ∃ y : Int32, y = x_4 + 1 := ⟨_, rfl⟩
        replace h := h zx15 ezx15
        refine lv_iinc (v := zx15) (lv' := [(4, .int zx15), (3, .int zx9), (0, .ref (zad w 0)), (1, .int a1), (2, .int x_2)]) hx hb dX11_best_70 hl (k := 4) rfl (by rw [ezx15, zc_i1]) (Nat.le_of_ble_eq_true rfl) rfl (fun ls hl => ?_)
        refine lv_goto (tgt := 21) hx hb dX11_best_73 rfl ?_
        exact zJ x_2 zx9 zx15 zm13 H locs ls hW (lv_sub hl [2, 3, 4, 1, 0] rfl) h
      · replace h := h.2 c
        refine lv_iload hx hb dX11_best_63 (lv_at hl 4 rfl) ?_
        refine lv_istore_n (lv' := [(2, .int x_4), (3, .int zx9), (0, .ref (zad w 0)), (1, .int a1), (4, .int x_4)]) hx hb dX11_best_65 rfl hl (Nat.le_of_ble_eq_true rfl) rfl (fun ls hl => ?_)
        refine lv_aload_n hx hb dX11_best_66 rfl (lv_at hl 2 rfl) ?_
        refine zcallv (zrunV (As := []) (rest := []) X hml hl hW h0.1 rfl zk_Model_328 (c_Model_keepBest h0 h) rfl ⟨Nat.le_of_ble_eq_true rfl, Nat.le_of_ble_eq_true rfl⟩ ⟨Nat.le_refl 0, Nat.le_refl 0⟩ rfl (Nat.le_of_ble_eq_true rfl) dX11_best_67) hW (fun zm16 H locs h hW => ?_)
        obtain ⟨zx18, ezx18⟩ : ∃ y : Int32, y = x_4 + 1 := ⟨_, rfl⟩
        replace h := h zx18 ezx18
        refine lv_iinc (v := zx18) (lv' := [(4, .int zx18), (2, .int x_4), (3, .int zx9), (0, .ref (zad w 0)), (1, .int a1)]) hx hb dX11_best_70 hl (k := 4) rfl (by rw [ezx18, zc_i1]) (Nat.le_of_ble_eq_true rfl) rfl (fun ls hl => ?_)
        refine lv_goto (tgt := 21) hx hb dX11_best_73 rfl ?_
        exact zJ x_4 zx9 zx18 zm16 H locs ls hW (lv_sub hl [3, 4, 1, 2, 0] rfl) h
  have zL_21 : ∀ (K76 : Int32 → Int32 → zMem → Prop) (zK76 : ∀ (y_2 : Int32) (y_3 : Int32) (M : zMem) (H : Heap) (locs : List Loc) (ls : Array Slot), zWo w s.heap M H locs → lv_has ls 5 [(0, .ref (zad w 0)), (1, .int a1), (2, .int y_2), (3, .int y_3)] → K76 y_2 y_3 M → W p l e (zRm 9 210) s m ([.ref (zad w 0), .int a1] : List Value).toArray below meth c H locs 0 0 (MQ below (va_Qi post (zB w) (zA w)) ([.ref (zad w 0), .int a1] : List Value).toArray s 0 0 (zA w)) (F0 m 76 ls [])), ∀ (n : Nat) (x_2 : Int32) (x_3 : Int32) (x_4 : Int32) (M : zMem) (H : Heap) (locs : List Loc) (ls : Array Slot), zWo w s.heap M H locs → lv_has ls 5 [(0, .ref (zad w 0)), (1, .int a1), (2, .int x_2), (3, .int x_3), (4, .int x_4)] → zlp3 (wpB_Model_best_21 a1  K76 post) n x_2 x_3 x_4 M → W p l e (zRm 9 210) s m ([.ref (zad w 0), .int a1] : List Value).toArray below meth c H locs 0 0 (MQ below (va_Qi post (zB w) (zA w)) ([.ref (zad w 0), .int a1] : List Value).toArray s 0 0 (zA w)) (F0 m 21 ls []) := by
    intro K76 zK76 n
    induction n with
    | zero => intro x_2 x_3 x_4 M H locs ls hW hl h; exact h.elim
    | succ n zJ =>
      intro x_2 x_3 x_4 M H locs ls hW hl h
      have h : wpB_Model_best_21 a1  K76 post (zlp3 (wpB_Model_best_21 a1  K76 post) n) x_2 x_3 x_4 M := h
      unfold wpB_Model_best_21 at h
      refine lv_iload hx hb dX11_best_21 (lv_at hl 4 rfl) ?_
      refine lv_aload_n hx hb dX11_best_23 rfl (lv_at hl 0 rfl) ?_
      refine zcalli (zrunV (As := []) (rest := [.int x_4]) X hml hl hW h0.1 rfl zk_Model_310 (c_Model_orders h0 h) rfl ⟨Nat.le_of_ble_eq_true rfl, Nat.le_of_ble_eq_true rfl⟩ ⟨Nat.le_refl 0, Nat.le_refl 0⟩ rfl (Nat.le_of_ble_eq_true rfl) dX11_best_24) hW (fun zr4 zm3 H locs h hW => ?_)
      refine lv_icmp_ge (tgt := 76) hx hb dX11_best_27 rfl (fun c => ?_) (fun c => ?_)
      · replace h := h.1 c
        exact zK76 x_2 x_3 zm3 H locs ls hW (lv_sub hl [0, 1, 2, 3] rfl) h
      · replace h := h.2 c
        refine lv_aload_n hx hb dX11_best_30 rfl (lv_at hl 0 rfl) ?_
        refine lv_iload hx hb dX11_best_31 (lv_at hl 4 rfl) ?_
        refine zcallv (zrunV (As := [.int x_4]) (rest := []) X hml hl hW h0.1 rfl zk_Model_316 (c_Model_layOrder h0 h) rfl ⟨Nat.le_of_ble_eq_true rfl, Nat.le_of_ble_eq_true rfl⟩ ⟨Nat.le_refl 0, Nat.le_refl 0⟩ rfl (Nat.le_of_ble_eq_true rfl) dX11_best_33) hW (fun zm5 H locs h hW => ?_)
        refine lv_iload_n hx hb dX11_best_36 rfl (lv_at hl 3 rfl) ?_
        refine lv_aload_n hx hb dX11_best_37 rfl (lv_at hl 0 rfl) ?_
        refine zcalli (zrunV (As := []) (rest := [.int x_3]) X hml hl hW h0.1 rfl zk_Model_295 (c_Model_hasRing h0 h) rfl ⟨Nat.le_of_ble_eq_true rfl, Nat.le_of_ble_eq_true rfl⟩ ⟨Nat.le_refl 0, Nat.le_refl 0⟩ rfl (Nat.le_of_ble_eq_true rfl) dX11_best_38) hW (fun zr8 zm7 H locs h hW => ?_)
        refine lv_if_eq (tgt := 48) hx hb dX11_best_41 rfl (fun c => ?_) (fun c => ?_)
        · replace h := h.1 c
          refine lv_iconst hx hb dX11_best_48 zc_i1 ?_
          exact zJ_49 x_2 x_4 x_3 1 _ zK76 _ zJ zm7 H locs ls hW (lv_sub hl [0, 1, 2, 4] rfl) h
        · replace h := h.2 c
          refine lv_iconst hx hb dX11_best_44 zc_i0 ?_
          refine lv_goto (tgt := 49) hx hb dX11_best_45 rfl ?_
          exact zJ_49 x_2 x_4 x_3 0 _ zK76 _ zJ zm7 H locs ls hW (lv_sub hl [0, 1, 2, 4] rfl) h
  unfold wp_Model_best at h
  have zMain : ∀ (H : Heap) (locs : List Loc) (ls : Array Slot), zWo w s.heap M H locs → lv_has ls 5 [(0, .ref (zad w 0)), (1, .int a1)] → W p l e (zRm 9 210) s m ([.ref (zad w 0), .int a1] : List Value).toArray below meth c H locs 0 0 (MQ below (va_Qi post (zB w) (zA w)) ([.ref (zad w 0), .int a1] : List Value).toArray s 0 0 (zA w)) (F0 m 0 ls []) := by
    intro H locs ls hW hl
    refine lv_iload_n hx hb dX11_best_0 rfl (lv_at hl 1 rfl) ?_
    refine lv_i2l hx hb dX11_best_1 rfl ?_
    refine lv_lconst hx hb dX11_best_2 zc_l0 ?_
    refine lv_ldc2 hx hb X.2.2.1 (X.2.2.2.1 _ zu_1427) dX11_best_3 ?_
    refine zcalli (zrunS (As := [.long a1.toInt64, .long 0, .long 3]) (rest := []) X hml hl hW zk_Model_69 (c_Model_in  h) rfl ⟨Nat.le_of_ble_eq_true rfl, Nat.le_of_ble_eq_true rfl⟩ ⟨Nat.le_refl 0, Nat.le_refl 0⟩ rfl (Nat.le_of_ble_eq_true rfl) dX11_best_6) hW (fun zr2 zm1 H locs h hW => ?_)
    refine lv_if_ne (tgt := 14) hx hb dX11_best_9 rfl (fun c => ?_) (fun c => ?_)
    · replace h := h.1 c
      refine lv_iconst hx hb dX11_best_14 zc_i0 ?_
      refine lv_istore_n (lv' := [(2, .int 0), (0, .ref (zad w 0)), (1, .int a1)]) hx hb dX11_best_15 rfl hl (Nat.le_of_ble_eq_true rfl) rfl (fun ls hl => ?_)
      refine lv_iconst hx hb dX11_best_16 zc_i0 ?_
      refine lv_istore_n (lv' := [(3, .int 0), (2, .int 0), (0, .ref (zad w 0)), (1, .int a1)]) hx hb dX11_best_17 rfl hl (Nat.le_of_ble_eq_true rfl) rfl (fun ls hl => ?_)
      refine lv_iconst hx hb dX11_best_18 zc_i0 ?_
      refine lv_istore (lv' := [(4, .int 0), (3, .int 0), (2, .int 0), (0, .ref (zad w 0)), (1, .int a1)]) hx hb dX11_best_19 hl (Nat.le_of_ble_eq_true rfl) rfl (fun ls hl => ?_)
      obtain ⟨n, h⟩ := h
      refine zL_21  _ (fun zx20 zx21 zm19 H locs ls hW hl h => ?_) n 0 0 0 zm1 H locs ls hW (lv_sub hl [3, 4, 2, 1, 0] rfl) h
      · skip
        refine lv_iload_n hx hb dX11_best_76 rfl (lv_at hl 1 rfl) ?_
        refine lv_if_ne (tgt := 84) hx hb dX11_best_77 rfl (fun c => ?_) (fun c => ?_)
        · replace h := h.1 c
          refine lv_iload_n hx hb dX11_best_84 rfl (lv_at hl 1 rfl) ?_
          refine lv_iconst hx hb dX11_best_85 zc_i3 ?_
          refine lv_icmp_ne (tgt := 93) hx hb dX11_best_86 rfl (fun c => ?_) (fun c => ?_)
          · replace h := h.1 c
            refine lv_aload_n hx hb dX11_best_93 rfl (lv_at hl 0 rfl) ?_
            refine zg_Model_bestCoats X hW h0 zu_1053 dX11_best_94 ?_
            refine lv_i2l hx hb dX11_best_97 rfl ?_
            refine lv_aload_n hx hb dX11_best_98 rfl (lv_at hl 0 rfl) ?_
            refine zg_Model_bestTicks X hW h0 zu_1054 dX11_best_99 ?_
            refine lv_i2l hx hb dX11_best_102 rfl ?_
            refine lv_iload_n hx hb dX11_best_103 rfl (lv_at hl 1 rfl) ?_
            refine lv_iconst hx hb dX11_best_104 zc_i1 ?_
            refine lv_isub hx hb dX11_best_105 ?_
            refine zcalll (zrunS (As := [.long ((zm19 0 33).toInt64), .long ((zm19 0 34).toInt64), .int (a1 - 1)]) (rest := []) X hml hl hW zk_Model_301 (c_Model_lowest  h) rfl ⟨Nat.le_of_ble_eq_true rfl, Nat.le_of_ble_eq_true rfl⟩ ⟨Nat.le_refl 0, Nat.le_refl 0⟩ rfl (Nat.le_of_ble_eq_true rfl) dX11_best_106) hW (fun zr23 zm22 H locs h hW => ?_)
            refine lv_l2i hx hb dX11_best_109 rfl ?_
            exact zreti X hr hlk hW h dX11_best_110
          · replace h := h.2 c
            refine lv_iload_n hx hb dX11_best_89 rfl (lv_at hl 3 rfl) ?_
            refine lv_goto (tgt := 110) hx hb dX11_best_90 rfl ?_
            exact zreti X hr hlk hW h dX11_best_110
        · replace h := h.2 c
          refine lv_iload_n hx hb dX11_best_80 rfl (lv_at hl 2 rfl) ?_
          refine lv_goto (tgt := 110) hx hb dX11_best_81 rfl ?_
          exact zreti X hr hlk hW h dX11_best_110
    · replace h := h.2 c
      refine lv_iconst hx hb dX11_best_12 zc_im1 ?_
      exact zreti X hr hlk hW h dX11_best_13
  exact zMain s.heap [] ls hW hl
def wp_Model_stands (a1 : Int32) (a2 : Int32) (M : zMem) (Q : Int32 → zMem → Prop) : Prop :=
  wp_Model_isOrder a1 M (fun zr2 zm1 => (zr2 = 0 → Q ((-1)) zm1) ∧ (¬ zr2 = 0 → wp_Model_isHand a2 zm1 (fun zr4 zm3 => (¬ zr4 = 0 → wp_Model_layOrder a1 zm3 (fun zm5 => vp_in a2 5 ∧ Q (zm5 8 (ix a2)) zm5)) ∧ (zr4 = 0 → Q ((-1)) zm3))))
set_option maxHeartbeats 4000000 in
set_option maxRecDepth 20000 in
theorem c_Model_stands {l : Launch} {w : zWd} {a1 : Int32} {a2 : Int32} {M : zMem} {post : Int32 → zMem → Prop} (h0 : zI_Model w) (h : wp_Model_stands a1 a2 M post) : zMi l ⟨"HandToHandModel", "stands", "(II)I"⟩ prog_13_method_83_code 3 (Option.some .int) 3 69 w [.ref (zad w 0), .int a1, .int a2] M post := by
  refine zMet (by decide) (Nat.le_of_ble_eq_true rfl) ?_
  intro p e s m below meth c X hr hlk hml hW ls hl
  have hx := X.1
  have hb := X.2.1
  have hl : lv_has ls 3 [(0, .ref (zad w 0)), (1, .int a1), (2, .int a2)] := hl
  unfold wp_Model_stands at h
  have zMain : ∀ (H : Heap) (locs : List Loc) (ls : Array Slot), zWo w s.heap M H locs → lv_has ls 3 [(0, .ref (zad w 0)), (1, .int a1), (2, .int a2)] → W p l e (zRm 3 69) s m ([.ref (zad w 0), .int a1, .int a2] : List Value).toArray below meth c H locs 0 0 (MQ below (va_Qi post (zB w) (zA w)) ([.ref (zad w 0), .int a1, .int a2] : List Value).toArray s 0 0 (zA w)) (F0 m 0 ls []) := by
    intro H locs ls hW hl
    refine lv_aload_n hx hb dX11_stands_0 rfl (lv_at hl 0 rfl) ?_
    refine lv_iload_n hx hb dX11_stands_1 rfl (lv_at hl 1 rfl) ?_
    refine zcalli (zrunV (As := [.int a1]) (rest := []) X hml hl hW h0.1 rfl zk_Model_313 (c_Model_isOrder h0 h) rfl ⟨Nat.le_of_ble_eq_true rfl, Nat.le_of_ble_eq_true rfl⟩ ⟨Nat.le_refl 0, Nat.le_refl 0⟩ rfl (Nat.le_of_ble_eq_true rfl) dX11_stands_2) hW (fun zr2 zm1 H locs h hW => ?_)
    refine lv_if_eq (tgt := 16) hx hb dX11_stands_5 rfl (fun c => ?_) (fun c => ?_)
    · replace h := h.1 c
      refine lv_iconst hx hb dX11_stands_16 zc_im1 ?_
      exact zreti X hr hlk hW h dX11_stands_17
    · replace h := h.2 c
      refine lv_aload_n hx hb dX11_stands_8 rfl (lv_at hl 0 rfl) ?_
      refine lv_iload_n hx hb dX11_stands_9 rfl (lv_at hl 2 rfl) ?_
      refine zcalli (zrunV (As := [.int a2]) (rest := []) X hml hl hW h0.1 rfl zk_Model_166 (c_Model_isHand h0 h) rfl ⟨Nat.le_of_ble_eq_true rfl, Nat.le_of_ble_eq_true rfl⟩ ⟨Nat.le_refl 0, Nat.le_refl 0⟩ rfl (Nat.le_of_ble_eq_true rfl) dX11_stands_10) hW (fun zr4 zm3 H locs h hW => ?_)
      refine lv_if_ne (tgt := 18) hx hb dX11_stands_13 rfl (fun c => ?_) (fun c => ?_)
      · replace h := h.1 c
        refine lv_aload_n hx hb dX11_stands_18 rfl (lv_at hl 0 rfl) ?_
        refine lv_iload_n hx hb dX11_stands_19 rfl (lv_at hl 1 rfl) ?_
        refine zcallv (zrunV (As := [.int a1]) (rest := []) X hml hl hW h0.1 rfl zk_Model_316 (c_Model_layOrder h0 h) rfl ⟨Nat.le_of_ble_eq_true rfl, Nat.le_of_ble_eq_true rfl⟩ ⟨Nat.le_refl 0, Nat.le_refl 0⟩ rfl (Nat.le_of_ble_eq_true rfl) dX11_stands_20) hW (fun zm5 H locs h hW => ?_)
        refine lv_aload_n hx hb dX11_stands_23 rfl (lv_at hl 0 rfl) ?_
        refine zg_Model_who X hW h0 zu_1040 dX11_stands_24 ?_
        refine lv_iload_n hx hb dX11_stands_27 rfl (lv_at hl 2 rfl) ?_
        obtain ⟨g, h⟩ := h
        refine ziald X hW h0.2.2.2.2.2.2.2.1 g dX11_stands_28 ?_
        exact zreti X hr hlk hW h dX11_stands_29
      · replace h := h.2 c
        refine lv_iconst hx hb dX11_stands_16 zc_im1 ?_
        exact zreti X hr hlk hW h dX11_stands_17
  exact zMain s.heap [] ls hW hl
def wp_Model_isLike  (M : zMem) (Q : Int32 → zMem → Prop) : Prop :=
  (¬ (lg_cmp (((M 0 31).toInt64) * ((M 0 34).toInt64)) (((M 0 33).toInt64) * ((M 0 32).toInt64))) = 0 → Q 0 M) ∧ ((lg_cmp (((M 0 31).toInt64) * ((M 0 34).toInt64)) (((M 0 33).toInt64) * ((M 0 32).toInt64))) = 0 → Q 1 M)
set_option maxHeartbeats 4000000 in
set_option maxRecDepth 20000 in
theorem c_Model_isLike {l : Launch} {w : zWd} {M : zMem} {post : Int32 → zMem → Prop} (h0 : zI_Model w) (h : wp_Model_isLike  M post) : zMi l ⟨"HandToHandModel", "isLike", "()Z"⟩ prog_13_method_85_code 1 (Option.some .boolean) 0 0 w [.ref (zad w 0)] M post := by
  refine zMet (by decide) (Nat.le_of_ble_eq_true rfl) ?_
  intro p e s m below meth c X hr hlk hml hW ls hl
  have hx := X.1
  have hb := X.2.1
  have hl : lv_has ls 1 [(0, .ref (zad w 0))] := hl
  unfold wp_Model_isLike at h
  have zMain : ∀ (H : Heap) (locs : List Loc) (ls : Array Slot), zWo w s.heap M H locs → lv_has ls 1 [(0, .ref (zad w 0))] → W p l e (zRm 0 0) s m ([.ref (zad w 0)] : List Value).toArray below meth c H locs 0 0 (MQ below (va_Qi post (zB w) (zA w)) ([.ref (zad w 0)] : List Value).toArray s 0 0 (zA w)) (F0 m 0 ls []) := by
    intro H locs ls hW hl
    refine lv_aload_n hx hb dX11_isLike_0 rfl (lv_at hl 0 rfl) ?_
    refine zg_Model_ringCoats X hW h0 zu_1051 dX11_isLike_1 ?_
    refine lv_i2l hx hb dX11_isLike_4 rfl ?_
    refine lv_aload_n hx hb dX11_isLike_5 rfl (lv_at hl 0 rfl) ?_
    refine zg_Model_bestTicks X hW h0 zu_1054 dX11_isLike_6 ?_
    refine lv_i2l hx hb dX11_isLike_9 rfl ?_
    refine lv_lmul hx hb dX11_isLike_10 ?_
    refine lv_aload_n hx hb dX11_isLike_11 rfl (lv_at hl 0 rfl) ?_
    refine zg_Model_bestCoats X hW h0 zu_1053 dX11_isLike_12 ?_
    refine lv_i2l hx hb dX11_isLike_15 rfl ?_
    refine lv_aload_n hx hb dX11_isLike_16 rfl (lv_at hl 0 rfl) ?_
    refine zg_Model_ringTicks X hW h0 zu_1052 dX11_isLike_17 ?_
    refine lv_i2l hx hb dX11_isLike_20 rfl ?_
    refine lv_lmul hx hb dX11_isLike_21 ?_
    refine W.lcmp hx hb dX11_isLike_22 ?_
    refine lv_if_ne (tgt := 30) hx hb dX11_isLike_23 rfl (fun c => ?_) (fun c => ?_)
    · replace h := h.1 c
      refine lv_iconst hx hb dX11_isLike_30 zc_i0 ?_
      exact zretz X hr hlk hW rfl h dX11_isLike_31
    · replace h := h.2 c
      refine lv_iconst hx hb dX11_isLike_26 zc_i1 ?_
      refine lv_goto (tgt := 31) hx hb dX11_isLike_27 rfl ?_
      exact zretz X hr hlk hW rfl h dX11_isLike_31
  exact zMain s.heap [] ls hW hl
def wpB_Model_areLess_2   (K25 : Int32 → zMem → Prop) (Q : Int32 → zMem → Prop) (J : Int32 → zMem → Prop) (x_1 : Int32) (M : zMem) : Prop :=
  ((M 0 18) ≤ x_1 → Q 0 M) ∧ (¬ (M 0 18) ≤ x_1 → vp_in x_1 5 ∧ vp_in x_1 5 ∧ ((M 9 (ix x_1)) = (M 15 (ix x_1)) → ∀ zx1 : Int32, zx1 = x_1 + 1 → J zx1 M) ∧ (¬ (M 9 (ix x_1)) = (M 15 (ix x_1)) → K25 x_1 M))
def wp_Model_areLess  (M : zMem) (Q : Int32 → zMem → Prop) : Prop :=
  ∃ n : Nat, zlp1 (wpB_Model_areLess_2   (fun (zx3 : Int32) (zm2 : zMem) => vp_in zx3 5 ∧ vp_in zx3 5 ∧ ((zm2 15 (ix zx3)) ≤ (zm2 9 (ix zx3)) → Q 0 zm2) ∧ (¬ (zm2 15 (ix zx3)) ≤ (zm2 9 (ix zx3)) → Q 1 zm2)) Q) n 0 M
set_option maxHeartbeats 4000000 in
set_option maxRecDepth 20000 in
theorem c_Model_areLess {l : Launch} {w : zWd} {M : zMem} {post : Int32 → zMem → Prop} (h0 : zI_Model w) (h : wp_Model_areLess  M post) : zMi l ⟨"HandToHandModel", "areLess", "()Z"⟩ prog_13_method_86_code 2 (Option.some .boolean) 0 0 w [.ref (zad w 0)] M post := by
  refine zMet (by decide) (Nat.le_of_ble_eq_true rfl) ?_
  intro p e s m below meth c X hr hlk hml hW ls hl
  have hx := X.1
  have hb := X.2.1
  have hl : lv_has ls 2 [(0, .ref (zad w 0))] := hl
  have zL_2 : ∀ (K25 : Int32 → zMem → Prop) (zK25 : ∀ (y_1 : Int32) (M : zMem) (H : Heap) (locs : List Loc) (ls : Array Slot), zWo w s.heap M H locs → lv_has ls 2 [(0, .ref (zad w 0)), (1, .int y_1)] → K25 y_1 M → W p l e (zRm 0 0) s m ([.ref (zad w 0)] : List Value).toArray below meth c H locs 0 0 (MQ below (va_Qi post (zB w) (zA w)) ([.ref (zad w 0)] : List Value).toArray s 0 0 (zA w)) (F0 m 25 ls [])), ∀ (n : Nat) (x_1 : Int32) (M : zMem) (H : Heap) (locs : List Loc) (ls : Array Slot), zWo w s.heap M H locs → lv_has ls 2 [(0, .ref (zad w 0)), (1, .int x_1)] → zlp1 (wpB_Model_areLess_2   K25 post) n x_1 M → W p l e (zRm 0 0) s m ([.ref (zad w 0)] : List Value).toArray below meth c H locs 0 0 (MQ below (va_Qi post (zB w) (zA w)) ([.ref (zad w 0)] : List Value).toArray s 0 0 (zA w)) (F0 m 2 ls []) := by
    intro K25 zK25 n
    induction n with
    | zero => intro x_1 M H locs ls hW hl h; exact h.elim
    | succ n zJ =>
      intro x_1 M H locs ls hW hl h
      have h : wpB_Model_areLess_2   K25 post (zlp1 (wpB_Model_areLess_2   K25 post) n) x_1 M := h
      unfold wpB_Model_areLess_2 at h
      refine lv_iload_n hx hb dX11_areLess_2 rfl (lv_at hl 1 rfl) ?_
      refine lv_aload_n hx hb dX11_areLess_3 rfl (lv_at hl 0 rfl) ?_
      refine zg_Model_many X hW h0 zu_1038 dX11_areLess_4 ?_
      refine lv_icmp_ge (tgt := 52) hx hb dX11_areLess_7 rfl (fun c => ?_) (fun c => ?_)
      · replace h := h.1 c
        refine lv_iconst hx hb dX11_areLess_52 zc_i0 ?_
        exact zretz X hr hlk hW rfl h dX11_areLess_53
      · replace h := h.2 c
        refine lv_aload_n hx hb dX11_areLess_10 rfl (lv_at hl 0 rfl) ?_
        refine zg_Model_ends X hW h0 zu_1041 dX11_areLess_11 ?_
        refine lv_iload_n hx hb dX11_areLess_14 rfl (lv_at hl 1 rfl) ?_
        obtain ⟨g, h⟩ := h
        refine ziald X hW h0.2.2.2.2.2.2.2.2.1 g dX11_areLess_15 ?_
        refine lv_aload_n hx hb dX11_areLess_16 rfl (lv_at hl 0 rfl) ?_
        refine zg_Model_bestEnds X hW h0 zu_1055 dX11_areLess_17 ?_
        refine lv_iload_n hx hb dX11_areLess_20 rfl (lv_at hl 1 rfl) ?_
        obtain ⟨g, h⟩ := h
        refine ziald X hW h0.2.2.2.2.2.2.2.2.2.2.2.2.2.2.1 g dX11_areLess_21 ?_
        refine lv_icmp_eq (tgt := 46) hx hb dX11_areLess_22 rfl (fun c => ?_) (fun c => ?_)
        · replace h := h.1 c
          obtain ⟨zx1, ezx1⟩ : ∃ y : Int32, y = x_1 + 1 := ⟨_, rfl⟩
          replace h := h zx1 ezx1
          refine lv_iinc (v := zx1) (lv' := [(1, .int zx1), (0, .ref (zad w 0))]) hx hb dX11_areLess_46 hl (k := 1) rfl (by rw [ezx1, zc_i1]) (Nat.le_of_ble_eq_true rfl) rfl (fun ls hl => ?_)
          refine lv_goto (tgt := 2) hx hb dX11_areLess_49 rfl ?_
          exact zJ zx1 M H locs ls hW (lv_sub hl [1, 0] rfl) h
        · replace h := h.2 c
          exact zK25 x_1 M H locs ls hW (lv_sub hl [0, 1] rfl) h
  unfold wp_Model_areLess at h
  have zMain : ∀ (H : Heap) (locs : List Loc) (ls : Array Slot), zWo w s.heap M H locs → lv_has ls 2 [(0, .ref (zad w 0))] → W p l e (zRm 0 0) s m ([.ref (zad w 0)] : List Value).toArray below meth c H locs 0 0 (MQ below (va_Qi post (zB w) (zA w)) ([.ref (zad w 0)] : List Value).toArray s 0 0 (zA w)) (F0 m 0 ls []) := by
    intro H locs ls hW hl
    refine lv_iconst hx hb dX11_areLess_0 zc_i0 ?_
    refine lv_istore_n (lv' := [(1, .int 0), (0, .ref (zad w 0))]) hx hb dX11_areLess_1 rfl hl (Nat.le_of_ble_eq_true rfl) rfl (fun ls hl => ?_)
    obtain ⟨n, h⟩ := h
    refine zL_2  _ (fun zx3 zm2 H locs ls hW hl h => ?_) n 0 M H locs ls hW (lv_sub hl [1, 0] rfl) h
    · skip
      refine lv_aload_n hx hb dX11_areLess_25 rfl (lv_at hl 0 rfl) ?_
      refine zg_Model_ends X hW h0 zu_1041 dX11_areLess_26 ?_
      refine lv_iload_n hx hb dX11_areLess_29 rfl (lv_at hl 1 rfl) ?_
      obtain ⟨g, h⟩ := h
      refine ziald X hW h0.2.2.2.2.2.2.2.2.1 g dX11_areLess_30 ?_
      refine lv_aload_n hx hb dX11_areLess_31 rfl (lv_at hl 0 rfl) ?_
      refine zg_Model_bestEnds X hW h0 zu_1055 dX11_areLess_32 ?_
      refine lv_iload_n hx hb dX11_areLess_35 rfl (lv_at hl 1 rfl) ?_
      obtain ⟨g, h⟩ := h
      refine ziald X hW h0.2.2.2.2.2.2.2.2.2.2.2.2.2.2.1 g dX11_areLess_36 ?_
      refine lv_icmp_ge (tgt := 44) hx hb dX11_areLess_37 rfl (fun c => ?_) (fun c => ?_)
      · replace h := h.1 c
        refine lv_iconst hx hb dX11_areLess_44 zc_i0 ?_
        exact zretz X hr hlk hW rfl h dX11_areLess_45
      · replace h := h.2 c
        refine lv_iconst hx hb dX11_areLess_40 zc_i1 ?_
        refine lv_goto (tgt := 45) hx hb dX11_areLess_41 rfl ?_
        exact zretz X hr hlk hW rfl h dX11_areLess_45
  exact zMain s.heap [] ls hW hl
def wpB_Model_parts_82 (a1 : Int32) (x_2 : Int32) (x_3 : Int32) (K134 : Int32 → zMem → Prop) (Q : Int32 → zMem → Prop) (J : Int32 → Int32 → zMem → Prop) (x_4 : Int32) (x_5 : Int32) (M : zMem) : Prop :=
  vp_in 0 100 ∧ ((M 4 (ix 0)) ≤ x_5 → K134 x_4 M) ∧ (¬ (M 4 (ix 0)) ≤ x_5 → (¬ ((x_3 >>> (x_5 &&& 31)) &&& 1) = 1 → ∀ zx6 : Int32, zx6 = x_5 + 1 → J x_4 zx6 M) ∧ (((x_3 >>> (x_5 &&& 31)) &&& 1) = 1 → ((M 0 18) ≤ x_4 → vp_in 0 5 ∧ ∀ zm7 : zMem, zm7 = zup M 9 (ix 0) x_5 → ∀ zx8 : Int32, zx8 = x_4 + 1 → ∀ zx9 : Int32, zx9 = x_5 + 1 → J zx8 zx9 zm7) ∧ (¬ (M 0 18) ≤ x_4 → vp_in x_4 5 ∧ ∀ zm10 : zMem, zm10 = zup M 9 (ix x_4) x_5 → ∀ zx11 : Int32, zx11 = x_4 + 1 → ∀ zx12 : Int32, zx12 = x_5 + 1 → J zx11 zx12 zm10)))
def wpB_Model_parts_207 (a1 : Int32) (x_2 : Int32) (x_3 : Int32) (K233 : zMem → Prop) (Q : Int32 → zMem → Prop) (J : Int32 → zMem → Prop) (x_5 : Int32) (M : zMem) : Prop :=
  (5 ≤ x_5 → K233 M) ∧ (¬ 5 ≤ x_5 → vp_in x_5 5 ∧ vp_in x_5 5 ∧ ∀ zm22 : zMem, zm22 = zup M 15 (ix x_5) (M 9 (ix x_5)) → ∀ zx23 : Int32, zx23 = x_5 + 1 → J zx23 zm22)
def wpB_Model_parts_55 (a1 : Int32)  (K239 : zMem → Prop) (Q : Int32 → zMem → Prop) (J : Int32 → Int32 → zMem → Prop) (x_2 : Int32) (x_3 : Int32) (M : zMem) : Prop :=
  vp_in 0 100 ∧ ((1 <<< ((M 4 (ix 0)) &&& 31)) ≤ x_3 → K239 M) ∧ (¬ (1 <<< ((M 4 (ix 0)) &&& 31)) ≤ x_3 → wp_Model_asNumbered M (fun zm3 => ∀ zm5 : zMem, zm5 = zup zm3 0 19 2 → ∃ n : Nat, zlp2 (wpB_Model_parts_82 a1 x_2 x_3 (fun (zx14 : Int32) (zm13 : zMem) => (¬ zx14 = ((zm13 0 18) - 1) → ∀ zx15 : Int32, zx15 = x_3 + 1 → J x_2 zx15 zm13) ∧ (zx14 = ((zm13 0 18) - 1) → (¬ (x_3 &&& 1) = 0 → ∀ zx16 : Int32, zx16 = x_3 + 1 → J x_2 zx16 zm13) ∧ ((x_3 &&& 1) = 0 → vp_in 0 100 ∧ vp_in ((zm13 0 18) - 1) 5 ∧ ∀ zm17 : zMem, zm17 = zup zm13 9 (ix ((zm13 0 18) - 1)) (zm13 4 (ix 0)) → wp_Model_hasRing zm17 (fun zr19 zm18 => (x_2 = 0 → wp_Model_keepBest zm18 (fun zm20 => ∃ n : Nat, zlp1 (wpB_Model_parts_207 a1 1 x_3 (fun (zm24 : zMem) => ∀ zx25 : Int32, zx25 = x_3 + 1 → J 1 zx25 zm24) Q) n 0 zm20)) ∧ (¬ x_2 = 0 → wp_Model_isMore zm18 (fun zr27 zm26 => (¬ zr27 = 0 → wp_Model_keepBest zm26 (fun zm28 => ∃ n : Nat, zlp1 (wpB_Model_parts_207 a1 1 x_3 (fun (zm30 : zMem) => ∀ zx31 : Int32, zx31 = x_3 + 1 → J 1 zx31 zm30) Q) n 0 zm28)) ∧ (zr27 = 0 → wp_Model_isLike zm26 (fun zr33 zm32 => (zr33 = 0 → ∀ zx34 : Int32, zx34 = x_3 + 1 → J x_2 zx34 zm32) ∧ (¬ zr33 = 0 → wp_Model_areLess zm32 (fun zr36 zm35 => (zr36 = 0 → ∀ zx37 : Int32, zx37 = x_3 + 1 → J x_2 zx37 zm35) ∧ (¬ zr36 = 0 → wp_Model_keepBest zm35 (fun zm38 => ∃ n : Nat, zlp1 (wpB_Model_parts_207 a1 1 x_3 (fun (zm40 : zMem) => ∀ zx41 : Int32, zx41 = x_3 + 1 → J 1 zx41 zm40) Q) n 0 zm38)))))))))))) Q) n 0 1 zm5))
def wpJ_Model_parts_33 (a1 : Int32)  (Q : Int32 → zMem → Prop)   (M : zMem) : Prop :=
  vp_in 0 100 ∧ vp_in 1 100 ∧ ((M 4 (ix 1)) ≤ (M 4 (ix 0)) → ∃ n : Nat, zlp2 (wpB_Model_parts_55 a1  (fun (zm42 : zMem) => (2 ≤ a1 → vp_in (a1 - 10) 5 ∧ Q (zm42 15 (ix (a1 - 10))) zm42) ∧ (¬ 2 ≤ a1 → wp_Model_lowest ((zm42 0 33).toInt64) ((zm42 0 34).toInt64) a1 zm42 (fun zr44 zm43 => Q zr44.toInt32 zm43))) Q) n 0 0 M) ∧ (¬ (M 4 (ix 1)) ≤ (M 4 (ix 0)) → Q ((-4)) M)
def wp_Model_parts (a1 : Int32) (M : zMem) (Q : Int32 → zMem → Prop) : Prop :=
  wp_Model_in a1.toInt64 0 1 M (fun zr2 zm1 => (¬ zr2 = 0 → wpJ_Model_parts_33 a1 Q zm1) ∧ (zr2 = 0 → vp_in 1 100 ∧ wp_Model_in a1.toInt64 10 ((8 + (zm1 4 (ix 1))).toInt64) zm1 (fun zr46 zm45 => (¬ zr46 = 0 → wpJ_Model_parts_33 a1 Q zm45) ∧ (zr46 = 0 → Q ((-1)) zm45))))
set_option maxHeartbeats 4000000 in
set_option maxRecDepth 20000 in
theorem c_Model_parts {l : Launch} {w : zWd} {a1 : Int32} {M : zMem} {post : Int32 → zMem → Prop} (h0 : zI_Model w) (h : wp_Model_parts a1 M post) : zMi l ⟨"HandToHandModel", "parts", "(I)I"⟩ prog_13_method_84_code 6 (Option.some .int) 9 210 w [.ref (zad w 0), .int a1] M post := by
  refine zMet (by decide) (Nat.le_of_ble_eq_true rfl) ?_
  intro p e s m below meth c X hr hlk hml hW ls hl
  have hx := X.1
  have hb := X.2.1
  have hl : lv_has ls 6 [(0, .ref (zad w 0)), (1, .int a1)] := hl
  have zL_82 : ∀ (x_2 : Int32) (x_3 : Int32) (K134 : Int32 → zMem → Prop) (zK134 : ∀ (y_4 : Int32) (M : zMem) (H : Heap) (locs : List Loc) (ls : Array Slot), zWo w s.heap M H locs → lv_has ls 6 [(0, .ref (zad w 0)), (1, .int a1), (2, .int x_2), (3, .int x_3), (4, .int y_4)] → K134 y_4 M → W p l e (zRm 9 210) s m ([.ref (zad w 0), .int a1] : List Value).toArray below meth c H locs 0 0 (MQ below (va_Qi post (zB w) (zA w)) ([.ref (zad w 0), .int a1] : List Value).toArray s 0 0 (zA w)) (F0 m 134 ls [])), ∀ (n : Nat) (x_4 : Int32) (x_5 : Int32) (M : zMem) (H : Heap) (locs : List Loc) (ls : Array Slot), zWo w s.heap M H locs → lv_has ls 6 [(0, .ref (zad w 0)), (1, .int a1), (2, .int x_2), (3, .int x_3), (4, .int x_4), (5, .int x_5)] → zlp2 (wpB_Model_parts_82 a1 x_2 x_3 K134 post) n x_4 x_5 M → W p l e (zRm 9 210) s m ([.ref (zad w 0), .int a1] : List Value).toArray below meth c H locs 0 0 (MQ below (va_Qi post (zB w) (zA w)) ([.ref (zad w 0), .int a1] : List Value).toArray s 0 0 (zA w)) (F0 m 82 ls []) := by
    intro x_2 x_3 K134 zK134 n
    induction n with
    | zero => intro x_4 x_5 M H locs ls hW hl h; exact h.elim
    | succ n zJ =>
      intro x_4 x_5 M H locs ls hW hl h
      have h : wpB_Model_parts_82 a1 x_2 x_3 K134 post (zlp2 (wpB_Model_parts_82 a1 x_2 x_3 K134 post) n) x_4 x_5 M := h
      unfold wpB_Model_parts_82 at h
      refine lv_iload hx hb dX11_parts_82 (lv_at hl 5 rfl) ?_
      refine lv_aload_n hx hb dX11_parts_84 rfl (lv_at hl 0 rfl) ?_
      refine zg_Model_holds X hW h0 zu_1031 dX11_parts_85 ?_
      refine lv_iconst hx hb dX11_parts_88 zc_i0 ?_
      obtain ⟨g, h⟩ := h
      refine ziald X hW h0.2.2.2.2.1 g dX11_parts_89 ?_
      refine lv_icmp_ge (tgt := 134) hx hb dX11_parts_90 rfl (fun c => ?_) (fun c => ?_)
      · replace h := h.1 c
        exact zK134 x_4 M H locs ls hW (lv_sub hl [0, 1, 2, 3, 4] rfl) h
      · replace h := h.2 c
        refine lv_iload_n hx hb dX11_parts_93 rfl (lv_at hl 3 rfl) ?_
        refine lv_iload hx hb dX11_parts_94 (lv_at hl 5 rfl) ?_
        refine lv_ishr hx hb dX11_parts_96 ?_
        refine lv_iconst hx hb dX11_parts_97 zc_i1 ?_
        refine lv_iand hx hb dX11_parts_98 ?_
        refine lv_iconst hx hb dX11_parts_99 zc_i1 ?_
        refine lv_icmp_ne (tgt := 128) hx hb dX11_parts_100 rfl (fun c => ?_) (fun c => ?_)
        · replace h := h.1 c
          obtain ⟨zx6, ezx6⟩ : ∃ y : Int32, y = x_5 + 1 := ⟨_, rfl⟩
          replace h := h zx6 ezx6
          refine lv_iinc (v := zx6) (lv' := [(5, .int zx6), (0, .ref (zad w 0)), (1, .int a1), (2, .int x_2), (3, .int x_3), (4, .int x_4)]) hx hb dX11_parts_128 hl (k := 5) rfl (by rw [ezx6, zc_i1]) (Nat.le_of_ble_eq_true rfl) rfl (fun ls hl => ?_)
          refine lv_goto (tgt := 82) hx hb dX11_parts_131 rfl ?_
          exact zJ x_4 zx6 M H locs ls hW (lv_sub hl [1, 2, 3, 4, 5, 0] rfl) h
        · replace h := h.2 c
          refine lv_aload_n hx hb dX11_parts_103 rfl (lv_at hl 0 rfl) ?_
          refine zg_Model_ends X hW h0 zu_1041 dX11_parts_104 ?_
          refine lv_iload hx hb dX11_parts_107 (lv_at hl 4 rfl) ?_
          refine lv_aload_n hx hb dX11_parts_109 rfl (lv_at hl 0 rfl) ?_
          refine zg_Model_many X hW h0 zu_1038 dX11_parts_110 ?_
          refine lv_icmp_ge (tgt := 121) hx hb dX11_parts_113 rfl (fun c => ?_) (fun c => ?_)
          · replace h := h.1 c
            refine lv_iconst hx hb dX11_parts_121 zc_i0 ?_
            refine lv_iload hx hb dX11_parts_122 (lv_at hl 5 rfl) ?_
            obtain ⟨g, h⟩ := h
            refine ziast X hW h0.2.2.2.2.2.2.2.2.1 g dX11_parts_124 (fun H locs zm7 ezm7 hW => ?_)
            replace h := h zm7 ezm7
            obtain ⟨zx8, ezx8⟩ : ∃ y : Int32, y = x_4 + 1 := ⟨_, rfl⟩
            replace h := h zx8 ezx8
            refine lv_iinc (v := zx8) (lv' := [(4, .int zx8), (0, .ref (zad w 0)), (1, .int a1), (2, .int x_2), (3, .int x_3), (5, .int x_5)]) hx hb dX11_parts_125 hl (k := 4) rfl (by rw [ezx8, zc_i1]) (Nat.le_of_ble_eq_true rfl) rfl (fun ls hl => ?_)
            obtain ⟨zx9, ezx9⟩ : ∃ y : Int32, y = x_5 + 1 := ⟨_, rfl⟩
            replace h := h zx9 ezx9
            refine lv_iinc (v := zx9) (lv' := [(5, .int zx9), (4, .int zx8), (0, .ref (zad w 0)), (1, .int a1), (2, .int x_2), (3, .int x_3)]) hx hb dX11_parts_128 hl (k := 5) rfl (by rw [ezx9, zc_i1]) (Nat.le_of_ble_eq_true rfl) rfl (fun ls hl => ?_)
            refine lv_goto (tgt := 82) hx hb dX11_parts_131 rfl ?_
            exact zJ zx8 zx9 zm7 H locs ls hW (lv_sub hl [2, 3, 4, 5, 1, 0] rfl) h
          · replace h := h.2 c
            refine lv_iload hx hb dX11_parts_116 (lv_at hl 4 rfl) ?_
            refine lv_goto (tgt := 122) hx hb dX11_parts_118 rfl ?_
            refine lv_iload hx hb dX11_parts_122 (lv_at hl 5 rfl) ?_
            obtain ⟨g, h⟩ := h
            refine ziast X hW h0.2.2.2.2.2.2.2.2.1 g dX11_parts_124 (fun H locs zm10 ezm10 hW => ?_)
            replace h := h zm10 ezm10
            obtain ⟨zx11, ezx11⟩ : ∃ y : Int32, y = x_4 + 1 := ⟨_, rfl⟩
            replace h := h zx11 ezx11
            refine lv_iinc (v := zx11) (lv' := [(4, .int zx11), (0, .ref (zad w 0)), (1, .int a1), (2, .int x_2), (3, .int x_3), (5, .int x_5)]) hx hb dX11_parts_125 hl (k := 4) rfl (by rw [ezx11, zc_i1]) (Nat.le_of_ble_eq_true rfl) rfl (fun ls hl => ?_)
            obtain ⟨zx12, ezx12⟩ : ∃ y : Int32, y = x_5 + 1 := ⟨_, rfl⟩
            replace h := h zx12 ezx12
            refine lv_iinc (v := zx12) (lv' := [(5, .int zx12), (4, .int zx11), (0, .ref (zad w 0)), (1, .int a1), (2, .int x_2), (3, .int x_3)]) hx hb dX11_parts_128 hl (k := 5) rfl (by rw [ezx12, zc_i1]) (Nat.le_of_ble_eq_true rfl) rfl (fun ls hl => ?_)
            refine lv_goto (tgt := 82) hx hb dX11_parts_131 rfl ?_
            exact zJ zx11 zx12 zm10 H locs ls hW (lv_sub hl [2, 3, 4, 5, 1, 0] rfl) h
  have zL_207 : ∀ (x_2 : Int32) (x_3 : Int32) (K233 : zMem → Prop) (zK233 : ∀ (M : zMem) (H : Heap) (locs : List Loc) (ls : Array Slot), zWo w s.heap M H locs → lv_has ls 6 [(0, .ref (zad w 0)), (1, .int a1), (2, .int x_2), (3, .int x_3)] → K233 M → W p l e (zRm 9 210) s m ([.ref (zad w 0), .int a1] : List Value).toArray below meth c H locs 0 0 (MQ below (va_Qi post (zB w) (zA w)) ([.ref (zad w 0), .int a1] : List Value).toArray s 0 0 (zA w)) (F0 m 233 ls [])), ∀ (n : Nat) (x_5 : Int32) (M : zMem) (H : Heap) (locs : List Loc) (ls : Array Slot), zWo w s.heap M H locs → lv_has ls 6 [(0, .ref (zad w 0)), (1, .int a1), (2, .int x_2), (3, .int x_3), (5, .int x_5)] → zlp1 (wpB_Model_parts_207 a1 x_2 x_3 K233 post) n x_5 M → W p l e (zRm 9 210) s m ([.ref (zad w 0), .int a1] : List Value).toArray below meth c H locs 0 0 (MQ below (va_Qi post (zB w) (zA w)) ([.ref (zad w 0), .int a1] : List Value).toArray s 0 0 (zA w)) (F0 m 207 ls []) := by
    intro x_2 x_3 K233 zK233 n
    induction n with
    | zero => intro x_5 M H locs ls hW hl h; exact h.elim
    | succ n zJ =>
      intro x_5 M H locs ls hW hl h
      have h : wpB_Model_parts_207 a1 x_2 x_3 K233 post (zlp1 (wpB_Model_parts_207 a1 x_2 x_3 K233 post) n) x_5 M := h
      unfold wpB_Model_parts_207 at h
      refine lv_iload hx hb dX11_parts_207 (lv_at hl 4 rfl) ?_
      refine lv_iconst hx hb dX11_parts_209 zc_i5 ?_
      refine lv_icmp_ge (tgt := 233) hx hb dX11_parts_210 rfl (fun c => ?_) (fun c => ?_)
      · replace h := h.1 c
        exact zK233 M H locs ls hW (lv_sub hl [0, 1, 2, 3] rfl) h
      · replace h := h.2 c
        refine lv_aload_n hx hb dX11_parts_213 rfl (lv_at hl 0 rfl) ?_
        refine zg_Model_bestEnds X hW h0 zu_1055 dX11_parts_214 ?_
        refine lv_iload hx hb dX11_parts_217 (lv_at hl 4 rfl) ?_
        refine lv_aload_n hx hb dX11_parts_219 rfl (lv_at hl 0 rfl) ?_
        refine zg_Model_ends X hW h0 zu_1041 dX11_parts_220 ?_
        refine lv_iload hx hb dX11_parts_223 (lv_at hl 4 rfl) ?_
        obtain ⟨g, h⟩ := h
        refine ziald X hW h0.2.2.2.2.2.2.2.2.1 g dX11_parts_225 ?_
        obtain ⟨g, h⟩ := h
        refine ziast X hW h0.2.2.2.2.2.2.2.2.2.2.2.2.2.2.1 g dX11_parts_226 (fun H locs zm22 ezm22 hW => ?_)
        replace h := h zm22 ezm22
        obtain ⟨zx23, ezx23⟩ : ∃ y : Int32, y = x_5 + 1 := ⟨_, rfl⟩
        replace h := h zx23 ezx23
        refine lv_iinc (v := zx23) (lv' := [(5, .int zx23), (0, .ref (zad w 0)), (1, .int a1), (2, .int x_2), (3, .int x_3)]) hx hb dX11_parts_227 hl (k := 4) rfl (by rw [ezx23, zc_i1]) (Nat.le_of_ble_eq_true rfl) rfl (fun ls hl => ?_)
        refine lv_goto (tgt := 207) hx hb dX11_parts_230 rfl ?_
        exact zJ zx23 zm22 H locs ls hW (lv_sub hl [1, 2, 3, 4, 0] rfl) h
  have zL_55 : ∀ (K239 : zMem → Prop) (zK239 : ∀ (M : zMem) (H : Heap) (locs : List Loc) (ls : Array Slot), zWo w s.heap M H locs → lv_has ls 6 [(0, .ref (zad w 0)), (1, .int a1)] → K239 M → W p l e (zRm 9 210) s m ([.ref (zad w 0), .int a1] : List Value).toArray below meth c H locs 0 0 (MQ below (va_Qi post (zB w) (zA w)) ([.ref (zad w 0), .int a1] : List Value).toArray s 0 0 (zA w)) (F0 m 239 ls [])), ∀ (n : Nat) (x_2 : Int32) (x_3 : Int32) (M : zMem) (H : Heap) (locs : List Loc) (ls : Array Slot), zWo w s.heap M H locs → lv_has ls 6 [(0, .ref (zad w 0)), (1, .int a1), (2, .int x_2), (3, .int x_3)] → zlp2 (wpB_Model_parts_55 a1  K239 post) n x_2 x_3 M → W p l e (zRm 9 210) s m ([.ref (zad w 0), .int a1] : List Value).toArray below meth c H locs 0 0 (MQ below (va_Qi post (zB w) (zA w)) ([.ref (zad w 0), .int a1] : List Value).toArray s 0 0 (zA w)) (F0 m 55 ls []) := by
    intro K239 zK239 n
    induction n with
    | zero => intro x_2 x_3 M H locs ls hW hl h; exact h.elim
    | succ n zJ =>
      intro x_2 x_3 M H locs ls hW hl h
      have h : wpB_Model_parts_55 a1  K239 post (zlp2 (wpB_Model_parts_55 a1  K239 post) n) x_2 x_3 M := h
      unfold wpB_Model_parts_55 at h
      refine lv_iload_n hx hb dX11_parts_55 rfl (lv_at hl 3 rfl) ?_
      refine lv_iconst hx hb dX11_parts_56 zc_i1 ?_
      refine lv_aload_n hx hb dX11_parts_57 rfl (lv_at hl 0 rfl) ?_
      refine zg_Model_holds X hW h0 zu_1031 dX11_parts_58 ?_
      refine lv_iconst hx hb dX11_parts_61 zc_i0 ?_
      obtain ⟨g, h⟩ := h
      refine ziald X hW h0.2.2.2.2.1 g dX11_parts_62 ?_
      refine lv_ishl hx hb dX11_parts_63 ?_
      refine lv_icmp_ge (tgt := 239) hx hb dX11_parts_64 rfl (fun c => ?_) (fun c => ?_)
      · replace h := h.1 c
        exact zK239 M H locs ls hW (lv_sub hl [0, 1] rfl) h
      · replace h := h.2 c
        refine lv_iconst hx hb dX11_parts_67 zc_i0 ?_
        refine lv_istore (lv' := [(4, .int 0), (0, .ref (zad w 0)), (1, .int a1), (2, .int x_2), (3, .int x_3)]) hx hb dX11_parts_68 hl (Nat.le_of_ble_eq_true rfl) rfl (fun ls hl => ?_)
        refine lv_aload_n hx hb dX11_parts_70 rfl (lv_at hl 1 rfl) ?_
        refine zcallv (zrunV (As := []) (rest := []) X hml hl hW h0.1 rfl zk_Model_243 (c_Model_asNumbered h0 h) rfl ⟨Nat.le_of_ble_eq_true rfl, Nat.le_of_ble_eq_true rfl⟩ ⟨Nat.le_refl 0, Nat.le_refl 0⟩ rfl (Nat.le_of_ble_eq_true rfl) dX11_parts_71) hW (fun zm3 H locs h hW => ?_)
        refine lv_aload_n hx hb dX11_parts_74 rfl (lv_at hl 1 rfl) ?_
        refine lv_iconst hx hb dX11_parts_75 zc_i2 ?_
        refine zp_Model_ruleNow X hW h0 zu_1039 dX11_parts_76 (fun H locs zm5 ezm5 hW => ?_)
        replace h := h zm5 ezm5
        refine lv_iconst hx hb dX11_parts_79 zc_i1 ?_
        refine lv_istore (lv' := [(5, .int 1), (4, .int 0), (0, .ref (zad w 0)), (1, .int a1), (2, .int x_2), (3, .int x_3)]) hx hb dX11_parts_80 hl (Nat.le_of_ble_eq_true rfl) rfl (fun ls hl => ?_)
        obtain ⟨n, h⟩ := h
        refine zL_82 x_2 x_3 _ (fun zx14 zm13 H locs ls hW hl h => ?_) n 0 1 zm5 H locs ls hW (lv_sub hl [2, 3, 4, 5, 1, 0] rfl) h
        · skip
          refine lv_iload hx hb dX11_parts_134 (lv_at hl 4 rfl) ?_
          refine lv_aload_n hx hb dX11_parts_136 rfl (lv_at hl 0 rfl) ?_
          refine zg_Model_many X hW h0 zu_1038 dX11_parts_137 ?_
          refine lv_iconst hx hb dX11_parts_140 zc_i1 ?_
          refine lv_isub hx hb dX11_parts_141 ?_
          refine lv_icmp_ne (tgt := 233) hx hb dX11_parts_142 rfl (fun c => ?_) (fun c => ?_)
          · replace h := h.1 c
            obtain ⟨zx15, ezx15⟩ : ∃ y : Int32, y = x_3 + 1 := ⟨_, rfl⟩
            replace h := h zx15 ezx15
            refine lv_iinc (v := zx15) (lv' := [(3, .int zx15), (0, .ref (zad w 0)), (1, .int a1), (2, .int x_2), (4, .int zx14)]) hx hb dX11_parts_233 hl (k := 3) rfl (by rw [ezx15, zc_i1]) (Nat.le_of_ble_eq_true rfl) rfl (fun ls hl => ?_)
            refine lv_goto (tgt := 55) hx hb dX11_parts_236 rfl ?_
            exact zJ x_2 zx15 zm13 H locs ls hW (lv_sub hl [1, 2, 3, 0] rfl) h
          · replace h := h.2 c
            refine lv_iload_n hx hb dX11_parts_145 rfl (lv_at hl 3 rfl) ?_
            refine lv_iconst hx hb dX11_parts_146 zc_i1 ?_
            refine lv_iand hx hb dX11_parts_147 ?_
            refine lv_if_ne (tgt := 233) hx hb dX11_parts_148 rfl (fun c => ?_) (fun c => ?_)
            · replace h := h.1 c
              obtain ⟨zx16, ezx16⟩ : ∃ y : Int32, y = x_3 + 1 := ⟨_, rfl⟩
              replace h := h zx16 ezx16
              refine lv_iinc (v := zx16) (lv' := [(3, .int zx16), (0, .ref (zad w 0)), (1, .int a1), (2, .int x_2), (4, .int zx14)]) hx hb dX11_parts_233 hl (k := 3) rfl (by rw [ezx16, zc_i1]) (Nat.le_of_ble_eq_true rfl) rfl (fun ls hl => ?_)
              refine lv_goto (tgt := 55) hx hb dX11_parts_236 rfl ?_
              exact zJ x_2 zx16 zm13 H locs ls hW (lv_sub hl [1, 2, 3, 0] rfl) h
            · replace h := h.2 c
              refine lv_aload_n hx hb dX11_parts_151 rfl (lv_at hl 0 rfl) ?_
              refine zg_Model_ends X hW h0 zu_1041 dX11_parts_152 ?_
              refine lv_aload_n hx hb dX11_parts_155 rfl (lv_at hl 0 rfl) ?_
              refine zg_Model_many X hW h0 zu_1038 dX11_parts_156 ?_
              refine lv_iconst hx hb dX11_parts_159 zc_i1 ?_
              refine lv_isub hx hb dX11_parts_160 ?_
              refine lv_aload_n hx hb dX11_parts_161 rfl (lv_at hl 0 rfl) ?_
              refine zg_Model_holds X hW h0 zu_1031 dX11_parts_162 ?_
              refine lv_iconst hx hb dX11_parts_165 zc_i0 ?_
              obtain ⟨g, h⟩ := h
              refine ziald X hW h0.2.2.2.2.1 g dX11_parts_166 ?_
              obtain ⟨g, h⟩ := h
              refine ziast X hW h0.2.2.2.2.2.2.2.2.1 g dX11_parts_167 (fun H locs zm17 ezm17 hW => ?_)
              replace h := h zm17 ezm17
              refine lv_aload_n hx hb dX11_parts_168 rfl (lv_at hl 0 rfl) ?_
              refine zcalli (zrunV (As := []) (rest := []) X hml hl hW h0.1 rfl zk_Model_295 (c_Model_hasRing h0 h) rfl ⟨Nat.le_of_ble_eq_true rfl, Nat.le_of_ble_eq_true rfl⟩ ⟨Nat.le_refl 0, Nat.le_refl 0⟩ rfl (Nat.le_of_ble_eq_true rfl) dX11_parts_169) hW (fun zr19 zm18 H locs h hW => ?_)
              refine lv_pop hx hb dX11_parts_172 rfl ?_
              refine lv_iload_n hx hb dX11_parts_173 rfl (lv_at hl 2 rfl) ?_
              refine lv_if_eq (tgt := 198) hx hb dX11_parts_174 rfl (fun c => ?_) (fun c => ?_)
              · replace h := h.1 c
                refine lv_iconst hx hb dX11_parts_198 zc_i1 ?_
                refine lv_istore_n (lv' := [(2, .int 1), (0, .ref (zad w 0)), (1, .int a1), (3, .int x_3), (4, .int zx14)]) hx hb dX11_parts_199 rfl hl (Nat.le_of_ble_eq_true rfl) rfl (fun ls hl => ?_)
                refine lv_aload_n hx hb dX11_parts_200 rfl (lv_at hl 1 rfl) ?_
                refine zcallv (zrunV (As := []) (rest := []) X hml hl hW h0.1 rfl zk_Model_328 (c_Model_keepBest h0 h) rfl ⟨Nat.le_of_ble_eq_true rfl, Nat.le_of_ble_eq_true rfl⟩ ⟨Nat.le_refl 0, Nat.le_refl 0⟩ rfl (Nat.le_of_ble_eq_true rfl) dX11_parts_201) hW (fun zm20 H locs h hW => ?_)
                refine lv_iconst hx hb dX11_parts_204 zc_i0 ?_
                refine lv_istore (lv' := [(5, .int 0), (2, .int 1), (0, .ref (zad w 0)), (1, .int a1), (3, .int x_3), (4, .int zx14)]) hx hb dX11_parts_205 hl (Nat.le_of_ble_eq_true rfl) rfl (fun ls hl => ?_)
                obtain ⟨n, h⟩ := h
                refine zL_207 1 x_3 _ (fun  zm24 H locs ls hW hl h => ?_) n 0 zm20 H locs ls hW (lv_sub hl [2, 3, 1, 4, 0] rfl) h
                · skip
                  obtain ⟨zx25, ezx25⟩ : ∃ y : Int32, y = x_3 + 1 := ⟨_, rfl⟩
                  replace h := h zx25 ezx25
                  refine lv_iinc (v := zx25) (lv' := [(3, .int zx25), (0, .ref (zad w 0)), (1, .int a1), (2, .int 1)]) hx hb dX11_parts_233 hl (k := 3) rfl (by rw [ezx25, zc_i1]) (Nat.le_of_ble_eq_true rfl) rfl (fun ls hl => ?_)
                  refine lv_goto (tgt := 55) hx hb dX11_parts_236 rfl ?_
                  exact zJ 1 zx25 zm24 H locs ls hW (lv_sub hl [1, 2, 3, 0] rfl) h
              · replace h := h.2 c
                refine lv_aload_n hx hb dX11_parts_177 rfl (lv_at hl 0 rfl) ?_
                refine zcalli (zrunV (As := []) (rest := []) X hml hl hW h0.1 rfl zk_Model_325 (c_Model_isMore h0 h) rfl ⟨Nat.le_of_ble_eq_true rfl, Nat.le_of_ble_eq_true rfl⟩ ⟨Nat.le_refl 0, Nat.le_refl 0⟩ rfl (Nat.le_of_ble_eq_true rfl) dX11_parts_178) hW (fun zr27 zm26 H locs h hW => ?_)
                refine lv_if_ne (tgt := 198) hx hb dX11_parts_181 rfl (fun c => ?_) (fun c => ?_)
                · replace h := h.1 c
                  refine lv_iconst hx hb dX11_parts_198 zc_i1 ?_
                  refine lv_istore_n (lv' := [(2, .int 1), (0, .ref (zad w 0)), (1, .int a1), (3, .int x_3), (4, .int zx14)]) hx hb dX11_parts_199 rfl hl (Nat.le_of_ble_eq_true rfl) rfl (fun ls hl => ?_)
                  refine lv_aload_n hx hb dX11_parts_200 rfl (lv_at hl 1 rfl) ?_
                  refine zcallv (zrunV (As := []) (rest := []) X hml hl hW h0.1 rfl zk_Model_328 (c_Model_keepBest h0 h) rfl ⟨Nat.le_of_ble_eq_true rfl, Nat.le_of_ble_eq_true rfl⟩ ⟨Nat.le_refl 0, Nat.le_refl 0⟩ rfl (Nat.le_of_ble_eq_true rfl) dX11_parts_201) hW (fun zm28 H locs h hW => ?_)
                  refine lv_iconst hx hb dX11_parts_204 zc_i0 ?_
                  refine lv_istore (lv' := [(5, .int 0), (2, .int 1), (0, .ref (zad w 0)), (1, .int a1), (3, .int x_3), (4, .int zx14)]) hx hb dX11_parts_205 hl (Nat.le_of_ble_eq_true rfl) rfl (fun ls hl => ?_)
                  obtain ⟨n, h⟩ := h
                  refine zL_207 1 x_3 _ (fun  zm30 H locs ls hW hl h => ?_) n 0 zm28 H locs ls hW (lv_sub hl [2, 3, 1, 4, 0] rfl) h
                  · skip
                    obtain ⟨zx31, ezx31⟩ : ∃ y : Int32, y = x_3 + 1 := ⟨_, rfl⟩
                    replace h := h zx31 ezx31
                    refine lv_iinc (v := zx31) (lv' := [(3, .int zx31), (0, .ref (zad w 0)), (1, .int a1), (2, .int 1)]) hx hb dX11_parts_233 hl (k := 3) rfl (by rw [ezx31, zc_i1]) (Nat.le_of_ble_eq_true rfl) rfl (fun ls hl => ?_)
                    refine lv_goto (tgt := 55) hx hb dX11_parts_236 rfl ?_
                    exact zJ 1 zx31 zm30 H locs ls hW (lv_sub hl [1, 2, 3, 0] rfl) h
                · replace h := h.2 c
                  refine lv_aload_n hx hb dX11_parts_184 rfl (lv_at hl 0 rfl) ?_
                  refine zcalli (zrunV (As := []) (rest := []) X hml hl hW h0.1 rfl zk_Model_331 (c_Model_isLike h0 h) rfl ⟨Nat.le_of_ble_eq_true rfl, Nat.le_of_ble_eq_true rfl⟩ ⟨Nat.le_refl 0, Nat.le_refl 0⟩ rfl (Nat.le_of_ble_eq_true rfl) dX11_parts_185) hW (fun zr33 zm32 H locs h hW => ?_)
                  refine lv_if_eq (tgt := 233) hx hb dX11_parts_188 rfl (fun c => ?_) (fun c => ?_)
                  · replace h := h.1 c
                    obtain ⟨zx34, ezx34⟩ : ∃ y : Int32, y = x_3 + 1 := ⟨_, rfl⟩
                    replace h := h zx34 ezx34
                    refine lv_iinc (v := zx34) (lv' := [(3, .int zx34), (0, .ref (zad w 0)), (1, .int a1), (2, .int x_2), (4, .int zx14)]) hx hb dX11_parts_233 hl (k := 3) rfl (by rw [ezx34, zc_i1]) (Nat.le_of_ble_eq_true rfl) rfl (fun ls hl => ?_)
                    refine lv_goto (tgt := 55) hx hb dX11_parts_236 rfl ?_
                    exact zJ x_2 zx34 zm32 H locs ls hW (lv_sub hl [1, 2, 3, 0] rfl) h
                  · replace h := h.2 c
                    refine lv_aload_n hx hb dX11_parts_191 rfl (lv_at hl 0 rfl) ?_
                    refine zcalli (zrunV (As := []) (rest := []) X hml hl hW h0.1 rfl zk_Model_334 (c_Model_areLess h0 h) rfl ⟨Nat.le_of_ble_eq_true rfl, Nat.le_of_ble_eq_true rfl⟩ ⟨Nat.le_refl 0, Nat.le_refl 0⟩ rfl (Nat.le_of_ble_eq_true rfl) dX11_parts_192) hW (fun zr36 zm35 H locs h hW => ?_)
                    refine lv_if_eq (tgt := 233) hx hb dX11_parts_195 rfl (fun c => ?_) (fun c => ?_)
                    · replace h := h.1 c
                      obtain ⟨zx37, ezx37⟩ : ∃ y : Int32, y = x_3 + 1 := ⟨_, rfl⟩
                      replace h := h zx37 ezx37
                      refine lv_iinc (v := zx37) (lv' := [(3, .int zx37), (0, .ref (zad w 0)), (1, .int a1), (2, .int x_2), (4, .int zx14)]) hx hb dX11_parts_233 hl (k := 3) rfl (by rw [ezx37, zc_i1]) (Nat.le_of_ble_eq_true rfl) rfl (fun ls hl => ?_)
                      refine lv_goto (tgt := 55) hx hb dX11_parts_236 rfl ?_
                      exact zJ x_2 zx37 zm35 H locs ls hW (lv_sub hl [1, 2, 3, 0] rfl) h
                    · replace h := h.2 c
                      refine lv_iconst hx hb dX11_parts_198 zc_i1 ?_
                      refine lv_istore_n (lv' := [(2, .int 1), (0, .ref (zad w 0)), (1, .int a1), (3, .int x_3), (4, .int zx14)]) hx hb dX11_parts_199 rfl hl (Nat.le_of_ble_eq_true rfl) rfl (fun ls hl => ?_)
                      refine lv_aload_n hx hb dX11_parts_200 rfl (lv_at hl 1 rfl) ?_
                      refine zcallv (zrunV (As := []) (rest := []) X hml hl hW h0.1 rfl zk_Model_328 (c_Model_keepBest h0 h) rfl ⟨Nat.le_of_ble_eq_true rfl, Nat.le_of_ble_eq_true rfl⟩ ⟨Nat.le_refl 0, Nat.le_refl 0⟩ rfl (Nat.le_of_ble_eq_true rfl) dX11_parts_201) hW (fun zm38 H locs h hW => ?_)
                      refine lv_iconst hx hb dX11_parts_204 zc_i0 ?_
                      refine lv_istore (lv' := [(5, .int 0), (2, .int 1), (0, .ref (zad w 0)), (1, .int a1), (3, .int x_3), (4, .int zx14)]) hx hb dX11_parts_205 hl (Nat.le_of_ble_eq_true rfl) rfl (fun ls hl => ?_)
                      obtain ⟨n, h⟩ := h
                      refine zL_207 1 x_3 _ (fun  zm40 H locs ls hW hl h => ?_) n 0 zm38 H locs ls hW (lv_sub hl [2, 3, 1, 4, 0] rfl) h
                      · skip
                        obtain ⟨zx41, ezx41⟩ : ∃ y : Int32, y = x_3 + 1 := ⟨_, rfl⟩
                        replace h := h zx41 ezx41
                        refine lv_iinc (v := zx41) (lv' := [(3, .int zx41), (0, .ref (zad w 0)), (1, .int a1), (2, .int 1)]) hx hb dX11_parts_233 hl (k := 3) rfl (by rw [ezx41, zc_i1]) (Nat.le_of_ble_eq_true rfl) rfl (fun ls hl => ?_)
                        refine lv_goto (tgt := 55) hx hb dX11_parts_236 rfl ?_
                        exact zJ 1 zx41 zm40 H locs ls hW (lv_sub hl [1, 2, 3, 0] rfl) h
  have zJ_33 : ∀ (M : zMem) (H : Heap) (locs : List Loc) (ls : Array Slot), zWo w s.heap M H locs → lv_has ls 6 [(0, .ref (zad w 0)), (1, .int a1)] → wpJ_Model_parts_33 a1 post M → W p l e (zRm 9 210) s m ([.ref (zad w 0), .int a1] : List Value).toArray below meth c H locs 0 0 (MQ below (va_Qi post (zB w) (zA w)) ([.ref (zad w 0), .int a1] : List Value).toArray s 0 0 (zA w)) (F0 m 33 ls []) := by
    intro  M H locs ls hW hl h
    unfold wpJ_Model_parts_33 at h
    refine lv_aload_n hx hb dX11_parts_33 rfl (lv_at hl 0 rfl) ?_
    refine zg_Model_holds X hW h0 zu_1031 dX11_parts_34 ?_
    refine lv_iconst hx hb dX11_parts_37 zc_i0 ?_
    obtain ⟨g, h⟩ := h
    refine ziald X hW h0.2.2.2.2.1 g dX11_parts_38 ?_
    refine lv_aload_n hx hb dX11_parts_39 rfl (lv_at hl 0 rfl) ?_
    refine zg_Model_holds X hW h0 zu_1031 dX11_parts_40 ?_
    refine lv_iconst hx hb dX11_parts_43 zc_i1 ?_
    obtain ⟨g, h⟩ := h
    refine ziald X hW h0.2.2.2.2.1 g dX11_parts_44 ?_
    refine lv_icmp_ge (tgt := 51) hx hb dX11_parts_45 rfl (fun c => ?_) (fun c => ?_)
    · replace h := h.1 c
      refine lv_iconst hx hb dX11_parts_51 zc_i0 ?_
      refine lv_istore_n (lv' := [(2, .int 0), (0, .ref (zad w 0)), (1, .int a1)]) hx hb dX11_parts_52 rfl hl (Nat.le_of_ble_eq_true rfl) rfl (fun ls hl => ?_)
      refine lv_iconst hx hb dX11_parts_53 zc_i0 ?_
      refine lv_istore_n (lv' := [(3, .int 0), (2, .int 0), (0, .ref (zad w 0)), (1, .int a1)]) hx hb dX11_parts_54 rfl hl (Nat.le_of_ble_eq_true rfl) rfl (fun ls hl => ?_)
      obtain ⟨n, h⟩ := h
      refine zL_55  _ (fun  zm42 H locs ls hW hl h => ?_) n 0 0 M H locs ls hW (lv_sub hl [2, 3, 1, 0] rfl) h
      · skip
        refine lv_iload_n hx hb dX11_parts_239 rfl (lv_at hl 1 rfl) ?_
        refine lv_iconst hx hb dX11_parts_240 zc_i2 ?_
        refine lv_icmp_ge (tgt := 262) hx hb dX11_parts_241 rfl (fun c => ?_) (fun c => ?_)
        · replace h := h.1 c
          refine lv_aload_n hx hb dX11_parts_262 rfl (lv_at hl 0 rfl) ?_
          refine zg_Model_bestEnds X hW h0 zu_1055 dX11_parts_263 ?_
          refine lv_iload_n hx hb dX11_parts_266 rfl (lv_at hl 1 rfl) ?_
          refine lv_bipush hx hb dX11_parts_267 zc_b10 ?_
          refine lv_isub hx hb dX11_parts_269 ?_
          obtain ⟨g, h⟩ := h
          refine ziald X hW h0.2.2.2.2.2.2.2.2.2.2.2.2.2.2.1 g dX11_parts_270 ?_
          exact zreti X hr hlk hW h dX11_parts_271
        · replace h := h.2 c
          refine lv_aload_n hx hb dX11_parts_244 rfl (lv_at hl 0 rfl) ?_
          refine zg_Model_bestCoats X hW h0 zu_1053 dX11_parts_245 ?_
          refine lv_i2l hx hb dX11_parts_248 rfl ?_
          refine lv_aload_n hx hb dX11_parts_249 rfl (lv_at hl 0 rfl) ?_
          refine zg_Model_bestTicks X hW h0 zu_1054 dX11_parts_250 ?_
          refine lv_i2l hx hb dX11_parts_253 rfl ?_
          refine lv_iload_n hx hb dX11_parts_254 rfl (lv_at hl 1 rfl) ?_
          refine zcalll (zrunS (As := [.long ((zm42 0 33).toInt64), .long ((zm42 0 34).toInt64), .int a1]) (rest := []) X hml hl hW zk_Model_301 (c_Model_lowest  h) rfl ⟨Nat.le_of_ble_eq_true rfl, Nat.le_of_ble_eq_true rfl⟩ ⟨Nat.le_refl 0, Nat.le_refl 0⟩ rfl (Nat.le_of_ble_eq_true rfl) dX11_parts_255) hW (fun zr44 zm43 H locs h hW => ?_)
          refine lv_l2i hx hb dX11_parts_258 rfl ?_
          refine lv_goto (tgt := 271) hx hb dX11_parts_259 rfl ?_
          exact zreti X hr hlk hW h dX11_parts_271
    · replace h := h.2 c
      refine lv_bipush hx hb dX11_parts_48 zc_bm4 ?_
      exact zreti X hr hlk hW h dX11_parts_50
  unfold wp_Model_parts at h
  have zMain : ∀ (H : Heap) (locs : List Loc) (ls : Array Slot), zWo w s.heap M H locs → lv_has ls 6 [(0, .ref (zad w 0)), (1, .int a1)] → W p l e (zRm 9 210) s m ([.ref (zad w 0), .int a1] : List Value).toArray below meth c H locs 0 0 (MQ below (va_Qi post (zB w) (zA w)) ([.ref (zad w 0), .int a1] : List Value).toArray s 0 0 (zA w)) (F0 m 0 ls []) := by
    intro H locs ls hW hl
    refine lv_iload_n hx hb dX11_parts_0 rfl (lv_at hl 1 rfl) ?_
    refine lv_i2l hx hb dX11_parts_1 rfl ?_
    refine lv_lconst hx hb dX11_parts_2 zc_l0 ?_
    refine lv_lconst hx hb dX11_parts_3 zc_l1 ?_
    refine zcalli (zrunS (As := [.long a1.toInt64, .long 0, .long 1]) (rest := []) X hml hl hW zk_Model_69 (c_Model_in  h) rfl ⟨Nat.le_of_ble_eq_true rfl, Nat.le_of_ble_eq_true rfl⟩ ⟨Nat.le_refl 0, Nat.le_refl 0⟩ rfl (Nat.le_of_ble_eq_true rfl) dX11_parts_4) hW (fun zr2 zm1 H locs h hW => ?_)
    refine lv_if_ne (tgt := 33) hx hb dX11_parts_7 rfl (fun c => ?_) (fun c => ?_)
    · replace h := h.1 c
      exact zJ_33  zm1 H locs ls hW (lv_sub hl [0, 1] rfl) h
    · replace h := h.2 c
      refine lv_iload_n hx hb dX11_parts_10 rfl (lv_at hl 1 rfl) ?_
      refine lv_i2l hx hb dX11_parts_11 rfl ?_
      refine lv_ldc2 hx hb X.2.2.1 (X.2.2.2.1 _ zu_1311) dX11_parts_12 ?_
      refine lv_bipush hx hb dX11_parts_15 zc_b8 ?_
      refine lv_aload_n hx hb dX11_parts_17 rfl (lv_at hl 0 rfl) ?_
      refine zg_Model_holds X hW h0 zu_1031 dX11_parts_18 ?_
      refine lv_iconst hx hb dX11_parts_21 zc_i1 ?_
      obtain ⟨g, h⟩ := h
      refine ziald X hW h0.2.2.2.2.1 g dX11_parts_22 ?_
      refine lv_iadd hx hb dX11_parts_23 ?_
      refine lv_i2l hx hb dX11_parts_24 rfl ?_
      refine zcalli (zrunS (As := [.long a1.toInt64, .long 10, .long ((8 + (zm1 4 (ix 1))).toInt64)]) (rest := []) X hml hl hW zk_Model_69 (c_Model_in  h) rfl ⟨Nat.le_of_ble_eq_true rfl, Nat.le_of_ble_eq_true rfl⟩ ⟨Nat.le_refl 0, Nat.le_refl 0⟩ rfl (Nat.le_of_ble_eq_true rfl) dX11_parts_25) hW (fun zr46 zm45 H locs h hW => ?_)
      refine lv_if_ne (tgt := 33) hx hb dX11_parts_28 rfl (fun c => ?_) (fun c => ?_)
      · replace h := h.1 c
        exact zJ_33  zm45 H locs ls hW (lv_sub hl [0, 1] rfl) h
      · replace h := h.2 c
        refine lv_iconst hx hb dX11_parts_31 zc_im1 ?_
        exact zreti X hr hlk hW h dX11_parts_32
  exact zMain s.heap [] ls hW hl
def wpB_Model_less_49 (a1 : Int32) (a2 : Int32)  (K91 : zMem → Prop) (Q : Int32 → zMem → Prop) (J : Int32 → zMem → Prop) (x_3 : Int32) (M : zMem) : Prop :=
  ((M 0 18) ≤ x_3 → K91 M) ∧ (¬ (M 0 18) ≤ x_3 → vp_in (x_3 + 1) 5 ∧ vp_in x_3 5 ∧ ∀ zm8 : zMem, zm8 = zup M 8 (ix x_3) (M 8 (ix (x_3 + 1))) → vp_in (x_3 + 1) 5 ∧ vp_in x_3 5 ∧ ∀ zm9 : zMem, zm9 = zup zm8 9 (ix x_3) (zm8 9 (ix (x_3 + 1))) → ∀ zx10 : Int32, zx10 = x_3 + 1 → J zx10 zm9)
def wp_Model_less (a1 : Int32) (a2 : Int32) (M : zMem) (Q : Int32 → zMem → Prop) : Prop :=
  wp_Model_isHand a1 M (fun zr2 zm1 => (zr2 = 0 → Q ((-1)) zm1) ∧ (¬ zr2 = 0 → wp_Model_in a2.toInt64 0 1 zm1 (fun zr4 zm3 => (¬ zr4 = 0 → vp_in 1 100 ∧ (¬ (zm3 4 (ix 1)) = 1 → wp_Model_asNumbered zm3 (fun zm5 => ∀ zm7 : zMem, zm7 = zup zm5 0 18 ((zm5 0 18) - 1) → ∃ n : Nat, zlp1 (wpB_Model_less_49 a1 a2  (fun (zm11 : zMem) => vp_in 0 100 ∧ vp_in ((zm11 0 18) - 1) 5 ∧ ∀ zm12 : zMem, zm12 = zup zm11 9 (ix ((zm11 0 18) - 1)) (zm11 4 (ix 0)) → wp_Model_hasRing zm12 (fun zr14 zm13 => wp_Model_made a2 zm13 (fun zr16 zm15 => Q zr16 zm15))) Q) n a1 zm7)) ∧ ((zm3 4 (ix 1)) = 1 → Q ((-2)) zm3)) ∧ (zr4 = 0 → Q ((-1)) zm3))))
set_option maxHeartbeats 4000000 in
set_option maxRecDepth 20000 in
theorem c_Model_less {l : Launch} {w : zWd} {a1 : Int32} {a2 : Int32} {M : zMem} {post : Int32 → zMem → Prop} (h0 : zI_Model w) (h : wp_Model_less a1 a2 M post) : zMi l ⟨"HandToHandModel", "less", "(II)I"⟩ prog_13_method_87_code 4 (Option.some .int) 9 210 w [.ref (zad w 0), .int a1, .int a2] M post := by
  refine zMet (by decide) (Nat.le_of_ble_eq_true rfl) ?_
  intro p e s m below meth c X hr hlk hml hW ls hl
  have hx := X.1
  have hb := X.2.1
  have hl : lv_has ls 4 [(0, .ref (zad w 0)), (1, .int a1), (2, .int a2)] := hl
  have zL_49 : ∀ (K91 : zMem → Prop) (zK91 : ∀ (M : zMem) (H : Heap) (locs : List Loc) (ls : Array Slot), zWo w s.heap M H locs → lv_has ls 4 [(0, .ref (zad w 0)), (2, .int a2)] → K91 M → W p l e (zRm 9 210) s m ([.ref (zad w 0), .int a1, .int a2] : List Value).toArray below meth c H locs 0 0 (MQ below (va_Qi post (zB w) (zA w)) ([.ref (zad w 0), .int a1, .int a2] : List Value).toArray s 0 0 (zA w)) (F0 m 91 ls [])), ∀ (n : Nat) (x_3 : Int32) (M : zMem) (H : Heap) (locs : List Loc) (ls : Array Slot), zWo w s.heap M H locs → lv_has ls 4 [(0, .ref (zad w 0)), (2, .int a2), (3, .int x_3)] → zlp1 (wpB_Model_less_49 a1 a2  K91 post) n x_3 M → W p l e (zRm 9 210) s m ([.ref (zad w 0), .int a1, .int a2] : List Value).toArray below meth c H locs 0 0 (MQ below (va_Qi post (zB w) (zA w)) ([.ref (zad w 0), .int a1, .int a2] : List Value).toArray s 0 0 (zA w)) (F0 m 49 ls []) := by
    intro K91 zK91 n
    induction n with
    | zero => intro x_3 M H locs ls hW hl h; exact h.elim
    | succ n zJ =>
      intro x_3 M H locs ls hW hl h
      have h : wpB_Model_less_49 a1 a2  K91 post (zlp1 (wpB_Model_less_49 a1 a2  K91 post) n) x_3 M := h
      unfold wpB_Model_less_49 at h
      refine lv_iload_n hx hb dX11_less_49 rfl (lv_at hl 2 rfl) ?_
      refine lv_aload_n hx hb dX11_less_50 rfl (lv_at hl 0 rfl) ?_
      refine zg_Model_many X hW h0 zu_1038 dX11_less_51 ?_
      refine lv_icmp_ge (tgt := 91) hx hb dX11_less_54 rfl (fun c => ?_) (fun c => ?_)
      · replace h := h.1 c
        exact zK91 M H locs ls hW (lv_sub hl [0, 1] rfl) h
      · replace h := h.2 c
        refine lv_aload_n hx hb dX11_less_57 rfl (lv_at hl 0 rfl) ?_
        refine zg_Model_who X hW h0 zu_1040 dX11_less_58 ?_
        refine lv_iload_n hx hb dX11_less_61 rfl (lv_at hl 2 rfl) ?_
        refine lv_aload_n hx hb dX11_less_62 rfl (lv_at hl 0 rfl) ?_
        refine zg_Model_who X hW h0 zu_1040 dX11_less_63 ?_
        refine lv_iload_n hx hb dX11_less_66 rfl (lv_at hl 2 rfl) ?_
        refine lv_iconst hx hb dX11_less_67 zc_i1 ?_
        refine lv_iadd hx hb dX11_less_68 ?_
        obtain ⟨g, h⟩ := h
        refine ziald X hW h0.2.2.2.2.2.2.2.1 g dX11_less_69 ?_
        obtain ⟨g, h⟩ := h
        refine ziast X hW h0.2.2.2.2.2.2.2.1 g dX11_less_70 (fun H locs zm8 ezm8 hW => ?_)
        replace h := h zm8 ezm8
        refine lv_aload_n hx hb dX11_less_71 rfl (lv_at hl 0 rfl) ?_
        refine zg_Model_ends X hW h0 zu_1041 dX11_less_72 ?_
        refine lv_iload_n hx hb dX11_less_75 rfl (lv_at hl 2 rfl) ?_
        refine lv_aload_n hx hb dX11_less_76 rfl (lv_at hl 0 rfl) ?_
        refine zg_Model_ends X hW h0 zu_1041 dX11_less_77 ?_
        refine lv_iload_n hx hb dX11_less_80 rfl (lv_at hl 2 rfl) ?_
        refine lv_iconst hx hb dX11_less_81 zc_i1 ?_
        refine lv_iadd hx hb dX11_less_82 ?_
        obtain ⟨g, h⟩ := h
        refine ziald X hW h0.2.2.2.2.2.2.2.2.1 g dX11_less_83 ?_
        obtain ⟨g, h⟩ := h
        refine ziast X hW h0.2.2.2.2.2.2.2.2.1 g dX11_less_84 (fun H locs zm9 ezm9 hW => ?_)
        replace h := h zm9 ezm9
        obtain ⟨zx10, ezx10⟩ : ∃ y : Int32, y = x_3 + 1 := ⟨_, rfl⟩
        replace h := h zx10 ezx10
        refine lv_iinc (v := zx10) (lv' := [(3, .int zx10), (0, .ref (zad w 0)), (2, .int a2)]) hx hb dX11_less_85 hl (k := 2) rfl (by rw [ezx10, zc_i1]) (Nat.le_of_ble_eq_true rfl) rfl (fun ls hl => ?_)
        refine lv_goto (tgt := 49) hx hb dX11_less_88 rfl ?_
        exact zJ zx10 zm9 H locs ls hW (lv_sub hl [1, 2, 0] rfl) h
  unfold wp_Model_less at h
  have zMain : ∀ (H : Heap) (locs : List Loc) (ls : Array Slot), zWo w s.heap M H locs → lv_has ls 4 [(0, .ref (zad w 0)), (1, .int a1), (2, .int a2)] → W p l e (zRm 9 210) s m ([.ref (zad w 0), .int a1, .int a2] : List Value).toArray below meth c H locs 0 0 (MQ below (va_Qi post (zB w) (zA w)) ([.ref (zad w 0), .int a1, .int a2] : List Value).toArray s 0 0 (zA w)) (F0 m 0 ls []) := by
    intro H locs ls hW hl
    refine lv_aload_n hx hb dX11_less_0 rfl (lv_at hl 0 rfl) ?_
    refine lv_iload_n hx hb dX11_less_1 rfl (lv_at hl 1 rfl) ?_
    refine zcalli (zrunV (As := [.int a1]) (rest := []) X hml hl hW h0.1 rfl zk_Model_166 (c_Model_isHand h0 h) rfl ⟨Nat.le_of_ble_eq_true rfl, Nat.le_of_ble_eq_true rfl⟩ ⟨Nat.le_refl 0, Nat.le_refl 0⟩ rfl (Nat.le_of_ble_eq_true rfl) dX11_less_2) hW (fun zr2 zm1 H locs h hW => ?_)
    refine lv_if_eq (tgt := 18) hx hb dX11_less_5 rfl (fun c => ?_) (fun c => ?_)
    · replace h := h.1 c
      refine lv_iconst hx hb dX11_less_18 zc_im1 ?_
      exact zreti X hr hlk hW h dX11_less_19
    · replace h := h.2 c
      refine lv_iload_n hx hb dX11_less_8 rfl (lv_at hl 2 rfl) ?_
      refine lv_i2l hx hb dX11_less_9 rfl ?_
      refine lv_lconst hx hb dX11_less_10 zc_l0 ?_
      refine lv_lconst hx hb dX11_less_11 zc_l1 ?_
      refine zcalli (zrunS (As := [.long a2.toInt64, .long 0, .long 1]) (rest := []) X hml hl hW zk_Model_69 (c_Model_in  h) rfl ⟨Nat.le_of_ble_eq_true rfl, Nat.le_of_ble_eq_true rfl⟩ ⟨Nat.le_refl 0, Nat.le_refl 0⟩ rfl (Nat.le_of_ble_eq_true rfl) dX11_less_12) hW (fun zr4 zm3 H locs h hW => ?_)
      refine lv_if_ne (tgt := 20) hx hb dX11_less_15 rfl (fun c => ?_) (fun c => ?_)
      · replace h := h.1 c
        refine lv_aload_n hx hb dX11_less_20 rfl (lv_at hl 0 rfl) ?_
        refine zg_Model_holds X hW h0 zu_1031 dX11_less_21 ?_
        refine lv_iconst hx hb dX11_less_24 zc_i1 ?_
        obtain ⟨g, h⟩ := h
        refine ziald X hW h0.2.2.2.2.1 g dX11_less_25 ?_
        refine lv_iconst hx hb dX11_less_26 zc_i1 ?_
        refine lv_icmp_ne (tgt := 33) hx hb dX11_less_27 rfl (fun c => ?_) (fun c => ?_)
        · replace h := h.1 c
          refine lv_aload_n hx hb dX11_less_33 rfl (lv_at hl 0 rfl) ?_
          refine zcallv (zrunV (As := []) (rest := []) X hml hl hW h0.1 rfl zk_Model_243 (c_Model_asNumbered h0 h) rfl ⟨Nat.le_of_ble_eq_true rfl, Nat.le_of_ble_eq_true rfl⟩ ⟨Nat.le_refl 0, Nat.le_refl 0⟩ rfl (Nat.le_of_ble_eq_true rfl) dX11_less_34) hW (fun zm5 H locs h hW => ?_)
          refine lv_aload_n hx hb dX11_less_37 rfl (lv_at hl 0 rfl) ?_
          refine lv_dup hx hb dX11_less_38 rfl ?_
          refine zg_Model_many X hW h0 zu_1038 dX11_less_39 ?_
          refine lv_iconst hx hb dX11_less_42 zc_i1 ?_
          refine lv_isub hx hb dX11_less_43 ?_
          refine zp_Model_many X hW h0 zu_1038 dX11_less_44 (fun H locs zm7 ezm7 hW => ?_)
          replace h := h zm7 ezm7
          refine lv_iload_n hx hb dX11_less_47 rfl (lv_at hl 1 rfl) ?_
          refine lv_istore_n (lv' := [(3, .int a1), (0, .ref (zad w 0)), (1, .int a1), (2, .int a2)]) hx hb dX11_less_48 rfl hl (Nat.le_of_ble_eq_true rfl) rfl (fun ls hl => ?_)
          obtain ⟨n, h⟩ := h
          refine zL_49  _ (fun  zm11 H locs ls hW hl h => ?_) n a1 zm7 H locs ls hW (lv_sub hl [1, 3, 0] rfl) h
          · skip
            refine lv_aload_n hx hb dX11_less_91 rfl (lv_at hl 0 rfl) ?_
            refine zg_Model_ends X hW h0 zu_1041 dX11_less_92 ?_
            refine lv_aload_n hx hb dX11_less_95 rfl (lv_at hl 0 rfl) ?_
            refine zg_Model_many X hW h0 zu_1038 dX11_less_96 ?_
            refine lv_iconst hx hb dX11_less_99 zc_i1 ?_
            refine lv_isub hx hb dX11_less_100 ?_
            refine lv_aload_n hx hb dX11_less_101 rfl (lv_at hl 0 rfl) ?_
            refine zg_Model_holds X hW h0 zu_1031 dX11_less_102 ?_
            refine lv_iconst hx hb dX11_less_105 zc_i0 ?_
            obtain ⟨g, h⟩ := h
            refine ziald X hW h0.2.2.2.2.1 g dX11_less_106 ?_
            obtain ⟨g, h⟩ := h
            refine ziast X hW h0.2.2.2.2.2.2.2.2.1 g dX11_less_107 (fun H locs zm12 ezm12 hW => ?_)
            replace h := h zm12 ezm12
            refine lv_aload_n hx hb dX11_less_108 rfl (lv_at hl 0 rfl) ?_
            refine zcalli (zrunV (As := []) (rest := []) X hml hl hW h0.1 rfl zk_Model_295 (c_Model_hasRing h0 h) rfl ⟨Nat.le_of_ble_eq_true rfl, Nat.le_of_ble_eq_true rfl⟩ ⟨Nat.le_refl 0, Nat.le_refl 0⟩ rfl (Nat.le_of_ble_eq_true rfl) dX11_less_109) hW (fun zr14 zm13 H locs h hW => ?_)
            refine lv_pop hx hb dX11_less_112 rfl ?_
            refine lv_aload_n hx hb dX11_less_113 rfl (lv_at hl 0 rfl) ?_
            refine lv_iload_n hx hb dX11_less_114 rfl (lv_at hl 1 rfl) ?_
            refine zcalli (zrunV (As := [.int a2]) (rest := []) X hml hl hW h0.1 rfl zk_Model_305 (c_Model_made h0 h) rfl ⟨Nat.le_of_ble_eq_true rfl, Nat.le_of_ble_eq_true rfl⟩ ⟨Nat.le_refl 0, Nat.le_refl 0⟩ rfl (Nat.le_of_ble_eq_true rfl) dX11_less_115) hW (fun zr16 zm15 H locs h hW => ?_)
            exact zreti X hr hlk hW h dX11_less_118
        · replace h := h.2 c
          refine lv_bipush hx hb dX11_less_30 zc_bm2 ?_
          exact zreti X hr hlk hW h dX11_less_32
      · replace h := h.2 c
        refine lv_iconst hx hb dX11_less_18 zc_im1 ?_
        exact zreti X hr hlk hW h dX11_less_19
  exact zMain s.heap [] ls hW hl
def wpB_Model_sheet_56 (a1 : Int32) (a2 : Int32) (a3 : Int32)   (Q : Int32 → zMem → Prop) (J : Int32 → zMem → Prop) (x_4 : Int32) (M : zMem) : Prop :=
  (40 ≤ x_4 → Q 1 M) ∧ (¬ 40 ≤ x_4 → vp_in ((40 * a1) + x_4) 160 ∧ ∀ zm7 : zMem, zm7 = zup M 18 (ix ((40 * a1) + x_4)) 0 → ∀ zx8 : Int32, zx8 = x_4 + 1 → J zx8 zm7)
def wp_Model_sheet (a1 : Int32) (a2 : Int32) (a3 : Int32) (M : zMem) (Q : Int32 → zMem → Prop) : Prop :=
  wp_Model_in a1.toInt64 0 3 M (fun zr2 zm1 => (zr2 = 0 → Q ((-1)) zm1) ∧ (¬ zr2 = 0 → wp_Model_in a2.toInt64 0 2 zm1 (fun zr4 zm3 => (zr4 = 0 → Q ((-1)) zm3) ∧ (¬ zr4 = 0 → (a3 ≤ 40 → (0 ≤ a3 → vp_in a1 4 ∧ ∀ zm5 : zMem, zm5 = zup zm3 16 (ix a1) a2 → vp_in a1 4 ∧ ∀ zm6 : zMem, zm6 = zup zm5 17 (ix a1) a3 → ∃ n : Nat, zlp1 (wpB_Model_sheet_56 a1 a2 a3   Q) n 0 zm6) ∧ (¬ 0 ≤ a3 → Q ((-14)) zm3)) ∧ (¬ a3 ≤ 40 → Q ((-1)) zm3)))))
set_option maxHeartbeats 4000000 in
set_option maxRecDepth 20000 in
theorem c_Model_sheet {l : Launch} {w : zWd} {a1 : Int32} {a2 : Int32} {a3 : Int32} {M : zMem} {post : Int32 → zMem → Prop} (h0 : zI_Model w) (h : wp_Model_sheet a1 a2 a3 M post) : zMi l ⟨"HandToHandModel", "sheet", "(III)I"⟩ prog_13_method_88_code 5 (Option.some .int) 1 25 w [.ref (zad w 0), .int a1, .int a2, .int a3] M post := by
  refine zMet (by decide) (Nat.le_of_ble_eq_true rfl) ?_
  intro p e s m below meth c X hr hlk hml hW ls hl
  have hx := X.1
  have hb := X.2.1
  have hl : lv_has ls 5 [(0, .ref (zad w 0)), (1, .int a1), (2, .int a2), (3, .int a3)] := hl
  have zL_56 :  ∀ (n : Nat) (x_4 : Int32) (M : zMem) (H : Heap) (locs : List Loc) (ls : Array Slot), zWo w s.heap M H locs → lv_has ls 5 [(0, .ref (zad w 0)), (1, .int a1), (4, .int x_4)] → zlp1 (wpB_Model_sheet_56 a1 a2 a3   post) n x_4 M → W p l e (zRm 1 25) s m ([.ref (zad w 0), .int a1, .int a2, .int a3] : List Value).toArray below meth c H locs 0 0 (MQ below (va_Qi post (zB w) (zA w)) ([.ref (zad w 0), .int a1, .int a2, .int a3] : List Value).toArray s 0 0 (zA w)) (F0 m 56 ls []) := by
    intro n
    induction n with
    | zero => intro x_4 M H locs ls hW hl h; exact h.elim
    | succ n zJ =>
      intro x_4 M H locs ls hW hl h
      have h : wpB_Model_sheet_56 a1 a2 a3   post (zlp1 (wpB_Model_sheet_56 a1 a2 a3   post) n) x_4 M := h
      unfold wpB_Model_sheet_56 at h
      refine lv_iload hx hb dX11_sheet_56 (lv_at hl 2 rfl) ?_
      refine lv_bipush hx hb dX11_sheet_58 zc_b40 ?_
      refine lv_icmp_ge (tgt := 82) hx hb dX11_sheet_60 rfl (fun c => ?_) (fun c => ?_)
      · replace h := h.1 c
        refine lv_iconst hx hb dX11_sheet_82 zc_i1 ?_
        exact zreti X hr hlk hW h dX11_sheet_83
      · replace h := h.2 c
        refine lv_aload_n hx hb dX11_sheet_63 rfl (lv_at hl 0 rfl) ?_
        refine zg_Model_cells X hW h0 zu_1058 dX11_sheet_64 ?_
        refine lv_bipush hx hb dX11_sheet_67 zc_b40 ?_
        refine lv_iload_n hx hb dX11_sheet_69 rfl (lv_at hl 1 rfl) ?_
        refine lv_imul hx hb dX11_sheet_70 ?_
        refine lv_iload hx hb dX11_sheet_71 (lv_at hl 2 rfl) ?_
        refine lv_iadd hx hb dX11_sheet_73 ?_
        refine lv_iconst hx hb dX11_sheet_74 zc_i0 ?_
        obtain ⟨g, h⟩ := h
        refine ziast X hW h0.2.2.2.2.2.2.2.2.2.2.2.2.2.2.2.2.2.1 g dX11_sheet_75 (fun H locs zm7 ezm7 hW => ?_)
        replace h := h zm7 ezm7
        obtain ⟨zx8, ezx8⟩ : ∃ y : Int32, y = x_4 + 1 := ⟨_, rfl⟩
        replace h := h zx8 ezx8
        refine lv_iinc (v := zx8) (lv' := [(4, .int zx8), (0, .ref (zad w 0)), (1, .int a1)]) hx hb dX11_sheet_76 hl (k := 2) rfl (by rw [ezx8, zc_i1]) (Nat.le_of_ble_eq_true rfl) rfl (fun ls hl => ?_)
        refine lv_goto (tgt := 56) hx hb dX11_sheet_79 rfl ?_
        exact zJ zx8 zm7 H locs ls hW (lv_sub hl [1, 2, 0] rfl) h
  unfold wp_Model_sheet at h
  have zMain : ∀ (H : Heap) (locs : List Loc) (ls : Array Slot), zWo w s.heap M H locs → lv_has ls 5 [(0, .ref (zad w 0)), (1, .int a1), (2, .int a2), (3, .int a3)] → W p l e (zRm 1 25) s m ([.ref (zad w 0), .int a1, .int a2, .int a3] : List Value).toArray below meth c H locs 0 0 (MQ below (va_Qi post (zB w) (zA w)) ([.ref (zad w 0), .int a1, .int a2, .int a3] : List Value).toArray s 0 0 (zA w)) (F0 m 0 ls []) := by
    intro H locs ls hW hl
    refine lv_iload_n hx hb dX11_sheet_0 rfl (lv_at hl 1 rfl) ?_
    refine lv_i2l hx hb dX11_sheet_1 rfl ?_
    refine lv_lconst hx hb dX11_sheet_2 zc_l0 ?_
    refine lv_ldc2 hx hb X.2.2.1 (X.2.2.2.1 _ zu_1427) dX11_sheet_3 ?_
    refine zcalli (zrunS (As := [.long a1.toInt64, .long 0, .long 3]) (rest := []) X hml hl hW zk_Model_69 (c_Model_in  h) rfl ⟨Nat.le_of_ble_eq_true rfl, Nat.le_of_ble_eq_true rfl⟩ ⟨Nat.le_refl 0, Nat.le_refl 0⟩ rfl (Nat.le_of_ble_eq_true rfl) dX11_sheet_6) hW (fun zr2 zm1 H locs h hW => ?_)
    refine lv_if_eq (tgt := 30) hx hb dX11_sheet_9 rfl (fun c => ?_) (fun c => ?_)
    · replace h := h.1 c
      refine lv_iconst hx hb dX11_sheet_30 zc_im1 ?_
      exact zreti X hr hlk hW h dX11_sheet_31
    · replace h := h.2 c
      refine lv_iload_n hx hb dX11_sheet_12 rfl (lv_at hl 2 rfl) ?_
      refine lv_i2l hx hb dX11_sheet_13 rfl ?_
      refine lv_lconst hx hb dX11_sheet_14 zc_l0 ?_
      refine lv_ldc2 hx hb X.2.2.1 (X.2.2.2.1 _ zu_1248) dX11_sheet_15 ?_
      refine zcalli (zrunS (As := [.long a2.toInt64, .long 0, .long 2]) (rest := []) X hml hl hW zk_Model_69 (c_Model_in  h) rfl ⟨Nat.le_of_ble_eq_true rfl, Nat.le_of_ble_eq_true rfl⟩ ⟨Nat.le_refl 0, Nat.le_refl 0⟩ rfl (Nat.le_of_ble_eq_true rfl) dX11_sheet_18) hW (fun zr4 zm3 H locs h hW => ?_)
      refine lv_if_eq (tgt := 30) hx hb dX11_sheet_21 rfl (fun c => ?_) (fun c => ?_)
      · replace h := h.1 c
        refine lv_iconst hx hb dX11_sheet_30 zc_im1 ?_
        exact zreti X hr hlk hW h dX11_sheet_31
      · replace h := h.2 c
        refine lv_iload_n hx hb dX11_sheet_24 rfl (lv_at hl 3 rfl) ?_
        refine lv_bipush hx hb dX11_sheet_25 zc_b40 ?_
        refine lv_icmp_le (tgt := 32) hx hb dX11_sheet_27 rfl (fun c => ?_) (fun c => ?_)
        · replace h := h.1 c
          refine lv_iload_n hx hb dX11_sheet_32 rfl (lv_at hl 3 rfl) ?_
          refine lv_if_ge (tgt := 39) hx hb dX11_sheet_33 rfl (fun c => ?_) (fun c => ?_)
          · replace h := h.1 c
            refine lv_aload_n hx hb dX11_sheet_39 rfl (lv_at hl 0 rfl) ?_
            refine zg_Model_lanes X hW h0 zu_1056 dX11_sheet_40 ?_
            refine lv_iload_n hx hb dX11_sheet_43 rfl (lv_at hl 1 rfl) ?_
            refine lv_iload_n hx hb dX11_sheet_44 rfl (lv_at hl 2 rfl) ?_
            obtain ⟨g, h⟩ := h
            refine ziast X hW h0.2.2.2.2.2.2.2.2.2.2.2.2.2.2.2.1 g dX11_sheet_45 (fun H locs zm5 ezm5 hW => ?_)
            replace h := h zm5 ezm5
            refine lv_aload_n hx hb dX11_sheet_46 rfl (lv_at hl 0 rfl) ?_
            refine zg_Model_lengths X hW h0 zu_1057 dX11_sheet_47 ?_
            refine lv_iload_n hx hb dX11_sheet_50 rfl (lv_at hl 1 rfl) ?_
            refine lv_iload_n hx hb dX11_sheet_51 rfl (lv_at hl 3 rfl) ?_
            obtain ⟨g, h⟩ := h
            refine ziast X hW h0.2.2.2.2.2.2.2.2.2.2.2.2.2.2.2.2.1 g dX11_sheet_52 (fun H locs zm6 ezm6 hW => ?_)
            replace h := h zm6 ezm6
            refine lv_iconst hx hb dX11_sheet_53 zc_i0 ?_
            refine lv_istore (lv' := [(4, .int 0), (0, .ref (zad w 0)), (1, .int a1), (2, .int a2), (3, .int a3)]) hx hb dX11_sheet_54 hl (Nat.le_of_ble_eq_true rfl) rfl (fun ls hl => ?_)
            obtain ⟨n, h⟩ := h
            refine zL_56   n 0 zm6 H locs ls hW (lv_sub hl [1, 2, 0] rfl) h
          · replace h := h.2 c
            refine lv_bipush hx hb dX11_sheet_36 zc_bm14 ?_
            exact zreti X hr hlk hW h dX11_sheet_38
        · replace h := h.2 c
          refine lv_iconst hx hb dX11_sheet_30 zc_im1 ?_
          exact zreti X hr hlk hW h dX11_sheet_31
  exact zMain s.heap [] ls hW hl
def wp_Model_lay (a1 : Int32) (a2 : Int32) (a3 : Int32) (M : zMem) (Q : Int32 → zMem → Prop) : Prop :=
  wp_Model_in a1.toInt64 0 3 M (fun zr2 zm1 => (¬ zr2 = 0 → vp_in a1 4 ∧ (¬ (zm1 16 (ix a1)) = (-4) → vp_in a1 4 ∧ wp_Model_in a2.toInt64 0 (((zm1 17 (ix a1)) - 1).toInt64) zm1 (fun zr4 zm3 => (¬ zr4 = 0 → vp_in a1 4 ∧ (¬ (zm3 16 (ix a1)) = 0 → vp_in a1 4 ∧ (¬ (zm3 16 (ix a1)) = 1 → vp_in ((40 * a1) + a2) 160 ∧ ∀ zm5 : zMem, zm5 = zup zm3 18 (ix ((40 * a1) + a2)) a3 → Q 1 zm5) ∧ ((zm3 16 (ix a1)) = 1 → vp_in ((40 * a1) + a2) 160 ∧ ∀ zm6 : zMem, zm6 = zup zm3 18 (ix ((40 * a1) + a2)) ((a3 <<< (16 &&& 31)) >>> (16 &&& 31)) → Q 1 zm6)) ∧ ((zm3 16 (ix a1)) = 0 → vp_in ((40 * a1) + a2) 160 ∧ ∀ zm7 : zMem, zm7 = zup zm3 18 (ix ((40 * a1) + a2)) ((a3 <<< (24 &&& 31)) >>> (24 &&& 31)) → Q 1 zm7)) ∧ (zr4 = 0 → Q ((-12)) zm3))) ∧ ((zm1 16 (ix a1)) = (-4) → Q ((-11)) zm1)) ∧ (zr2 = 0 → Q ((-1)) zm1))
set_option maxHeartbeats 4000000 in
set_option maxRecDepth 20000 in
theorem c_Model_lay {l : Launch} {w : zWd} {a1 : Int32} {a2 : Int32} {a3 : Int32} {M : zMem} {post : Int32 → zMem → Prop} (h0 : zI_Model w) (h : wp_Model_lay a1 a2 a3 M post) : zMi l ⟨"HandToHandModel", "lay", "(III)I"⟩ prog_13_method_89_code 4 (Option.some .int) 1 25 w [.ref (zad w 0), .int a1, .int a2, .int a3] M post := by
  refine zMet (by decide) (Nat.le_of_ble_eq_true rfl) ?_
  intro p e s m below meth c X hr hlk hml hW ls hl
  have hx := X.1
  have hb := X.2.1
  have hl : lv_has ls 4 [(0, .ref (zad w 0)), (1, .int a1), (2, .int a2), (3, .int a3)] := hl
  unfold wp_Model_lay at h
  have zMain : ∀ (H : Heap) (locs : List Loc) (ls : Array Slot), zWo w s.heap M H locs → lv_has ls 4 [(0, .ref (zad w 0)), (1, .int a1), (2, .int a2), (3, .int a3)] → W p l e (zRm 1 25) s m ([.ref (zad w 0), .int a1, .int a2, .int a3] : List Value).toArray below meth c H locs 0 0 (MQ below (va_Qi post (zB w) (zA w)) ([.ref (zad w 0), .int a1, .int a2, .int a3] : List Value).toArray s 0 0 (zA w)) (F0 m 0 ls []) := by
    intro H locs ls hW hl
    refine lv_iload_n hx hb dX11_lay_0 rfl (lv_at hl 1 rfl) ?_
    refine lv_i2l hx hb dX11_lay_1 rfl ?_
    refine lv_lconst hx hb dX11_lay_2 zc_l0 ?_
    refine lv_ldc2 hx hb X.2.2.1 (X.2.2.2.1 _ zu_1427) dX11_lay_3 ?_
    refine zcalli (zrunS (As := [.long a1.toInt64, .long 0, .long 3]) (rest := []) X hml hl hW zk_Model_69 (c_Model_in  h) rfl ⟨Nat.le_of_ble_eq_true rfl, Nat.le_of_ble_eq_true rfl⟩ ⟨Nat.le_refl 0, Nat.le_refl 0⟩ rfl (Nat.le_of_ble_eq_true rfl) dX11_lay_6) hW (fun zr2 zm1 H locs h hW => ?_)
    refine lv_if_ne (tgt := 14) hx hb dX11_lay_9 rfl (fun c => ?_) (fun c => ?_)
    · replace h := h.1 c
      refine lv_aload_n hx hb dX11_lay_14 rfl (lv_at hl 0 rfl) ?_
      refine zg_Model_lanes X hW h0 zu_1056 dX11_lay_15 ?_
      refine lv_iload_n hx hb dX11_lay_18 rfl (lv_at hl 1 rfl) ?_
      obtain ⟨g, h⟩ := h
      refine ziald X hW h0.2.2.2.2.2.2.2.2.2.2.2.2.2.2.2.1 g dX11_lay_19 ?_
      refine lv_bipush hx hb dX11_lay_20 zc_bm4 ?_
      refine lv_icmp_ne (tgt := 28) hx hb dX11_lay_22 rfl (fun c => ?_) (fun c => ?_)
      · replace h := h.1 c
        refine lv_iload_n hx hb dX11_lay_28 rfl (lv_at hl 2 rfl) ?_
        refine lv_i2l hx hb dX11_lay_29 rfl ?_
        refine lv_lconst hx hb dX11_lay_30 zc_l0 ?_
        refine lv_aload_n hx hb dX11_lay_31 rfl (lv_at hl 0 rfl) ?_
        refine zg_Model_lengths X hW h0 zu_1057 dX11_lay_32 ?_
        refine lv_iload_n hx hb dX11_lay_35 rfl (lv_at hl 1 rfl) ?_
        obtain ⟨g, h⟩ := h
        refine ziald X hW h0.2.2.2.2.2.2.2.2.2.2.2.2.2.2.2.2.1 g dX11_lay_36 ?_
        refine lv_iconst hx hb dX11_lay_37 zc_i1 ?_
        refine lv_isub hx hb dX11_lay_38 ?_
        refine lv_i2l hx hb dX11_lay_39 rfl ?_
        refine zcalli (zrunS (As := [.long a2.toInt64, .long 0, .long (((zm1 17 (ix a1)) - 1).toInt64)]) (rest := []) X hml hl hW zk_Model_69 (c_Model_in  h) rfl ⟨Nat.le_of_ble_eq_true rfl, Nat.le_of_ble_eq_true rfl⟩ ⟨Nat.le_refl 0, Nat.le_refl 0⟩ rfl (Nat.le_of_ble_eq_true rfl) dX11_lay_40) hW (fun zr4 zm3 H locs h hW => ?_)
        refine lv_if_ne (tgt := 49) hx hb dX11_lay_43 rfl (fun c => ?_) (fun c => ?_)
        · replace h := h.1 c
          refine lv_aload_n hx hb dX11_lay_49 rfl (lv_at hl 0 rfl) ?_
          refine zg_Model_cells X hW h0 zu_1058 dX11_lay_50 ?_
          refine lv_bipush hx hb dX11_lay_53 zc_b40 ?_
          refine lv_iload_n hx hb dX11_lay_55 rfl (lv_at hl 1 rfl) ?_
          refine lv_imul hx hb dX11_lay_56 ?_
          refine lv_iload_n hx hb dX11_lay_57 rfl (lv_at hl 2 rfl) ?_
          refine lv_iadd hx hb dX11_lay_58 ?_
          refine lv_aload_n hx hb dX11_lay_59 rfl (lv_at hl 0 rfl) ?_
          refine zg_Model_lanes X hW h0 zu_1056 dX11_lay_60 ?_
          refine lv_iload_n hx hb dX11_lay_63 rfl (lv_at hl 1 rfl) ?_
          obtain ⟨g, h⟩ := h
          refine ziald X hW h0.2.2.2.2.2.2.2.2.2.2.2.2.2.2.2.1 g dX11_lay_64 ?_
          refine lv_if_ne (tgt := 78) hx hb dX11_lay_65 rfl (fun c => ?_) (fun c => ?_)
          · replace h := h.1 c
            refine lv_aload_n hx hb dX11_lay_78 rfl (lv_at hl 0 rfl) ?_
            refine zg_Model_lanes X hW h0 zu_1056 dX11_lay_79 ?_
            refine lv_iload_n hx hb dX11_lay_82 rfl (lv_at hl 1 rfl) ?_
            obtain ⟨g, h⟩ := h
            refine ziald X hW h0.2.2.2.2.2.2.2.2.2.2.2.2.2.2.2.1 g dX11_lay_83 ?_
            refine lv_iconst hx hb dX11_lay_84 zc_i1 ?_
            refine lv_icmp_ne (tgt := 98) hx hb dX11_lay_85 rfl (fun c => ?_) (fun c => ?_)
            · replace h := h.1 c
              refine lv_iload_n hx hb dX11_lay_98 rfl (lv_at hl 3 rfl) ?_
              obtain ⟨g, h⟩ := h
              refine ziast X hW h0.2.2.2.2.2.2.2.2.2.2.2.2.2.2.2.2.2.1 g dX11_lay_99 (fun H locs zm5 ezm5 hW => ?_)
              replace h := h zm5 ezm5
              refine lv_iconst hx hb dX11_lay_100 zc_i1 ?_
              exact zreti X hr hlk hW h dX11_lay_101
            · replace h := h.2 c
              refine lv_iload_n hx hb dX11_lay_88 rfl (lv_at hl 3 rfl) ?_
              refine lv_bipush hx hb dX11_lay_89 zc_b16 ?_
              refine lv_ishl hx hb dX11_lay_91 ?_
              refine lv_bipush hx hb dX11_lay_92 zc_b16 ?_
              refine lv_ishr hx hb dX11_lay_94 ?_
              refine lv_goto (tgt := 99) hx hb dX11_lay_95 rfl ?_
              obtain ⟨g, h⟩ := h
              refine ziast X hW h0.2.2.2.2.2.2.2.2.2.2.2.2.2.2.2.2.2.1 g dX11_lay_99 (fun H locs zm6 ezm6 hW => ?_)
              replace h := h zm6 ezm6
              refine lv_iconst hx hb dX11_lay_100 zc_i1 ?_
              exact zreti X hr hlk hW h dX11_lay_101
          · replace h := h.2 c
            refine lv_iload_n hx hb dX11_lay_68 rfl (lv_at hl 3 rfl) ?_
            refine lv_bipush hx hb dX11_lay_69 zc_b24 ?_
            refine lv_ishl hx hb dX11_lay_71 ?_
            refine lv_bipush hx hb dX11_lay_72 zc_b24 ?_
            refine lv_ishr hx hb dX11_lay_74 ?_
            refine lv_goto (tgt := 99) hx hb dX11_lay_75 rfl ?_
            obtain ⟨g, h⟩ := h
            refine ziast X hW h0.2.2.2.2.2.2.2.2.2.2.2.2.2.2.2.2.2.1 g dX11_lay_99 (fun H locs zm7 ezm7 hW => ?_)
            replace h := h zm7 ezm7
            refine lv_iconst hx hb dX11_lay_100 zc_i1 ?_
            exact zreti X hr hlk hW h dX11_lay_101
        · replace h := h.2 c
          refine lv_bipush hx hb dX11_lay_46 zc_bm12 ?_
          exact zreti X hr hlk hW h dX11_lay_48
      · replace h := h.2 c
        refine lv_bipush hx hb dX11_lay_25 zc_bm11 ?_
        exact zreti X hr hlk hW h dX11_lay_27
    · replace h := h.2 c
      refine lv_iconst hx hb dX11_lay_12 zc_im1 ?_
      exact zreti X hr hlk hW h dX11_lay_13
  exact zMain s.heap [] ls hW hl
def wpJ_Model_read_195 (a1 : Int32) (a2 : Int32) (a3 : Int32) (a4 : Int32) (a5 : Int32) (K231 : Int32 → Int32 → zMem → Prop) (J : Int32 → Int32 → Int32 → Int32 → zMem → Prop) (Q : Int32 → zMem → Prop) (x_6 : Int32) (x_7 : Int32) (x_9 : Int32) (s_0 : Int32) (M : zMem) : Prop :=
  vp_in 0 100 ∧ (¬ (M 4 (ix 0)) = 0) ∧ (¬ ((x_9 + 1) - (x_9 + 1) / (M 4 (ix 0)) * (M 4 (ix 0))) = 0 → ∀ zx12 : Int32, zx12 = x_9 + 1 → J x_6 x_7 s_0 zx12 M) ∧ (((x_9 + 1) - (x_9 + 1) / (M 4 (ix 0)) * (M 4 (ix 0))) = 0 → (¬ s_0 = 0 → ∀ zx13 : Int32, zx13 = x_7 + 1 → ∀ zx14 : Int32, zx14 = x_9 + 1 → J x_6 zx13 s_0 zx14 M) ∧ (s_0 = 0 → Q (((-20)) - x_7) M))
def wpJ_Model_read_194 (a1 : Int32) (a2 : Int32) (a3 : Int32) (a4 : Int32) (a5 : Int32) (K231 : Int32 → Int32 → zMem → Prop) (J : Int32 → Int32 → Int32 → Int32 → zMem → Prop) (Q : Int32 → zMem → Prop) (x_6 : Int32) (x_7 : Int32) (x_9 : Int32)  (M : zMem) : Prop :=
  wpJ_Model_read_195 a1 a2 a3 a4 a5 K231 J Q x_6 x_7 x_9 0 M
def wpJ_Model_read_153 (a1 : Int32) (a2 : Int32) (a3 : Int32) (a4 : Int32) (a5 : Int32) (K231 : Int32 → Int32 → zMem → Prop) (J : Int32 → Int32 → Int32 → Int32 → zMem → Prop) (Q : Int32 → zMem → Prop) (x_7 : Int32) (x_8 : Int32) (x_9 : Int32) (s_0 : Int32) (M : zMem) : Prop :=
  (¬ s_0 = 0 → ∀ zx11 : Int32, zx11 = x_9 + 1 → J s_0 x_7 x_8 zx11 M) ∧ (s_0 = 0 → (x_8 = 0 → wpJ_Model_read_194 a1 a2 a3 a4 a5 K231 J Q s_0 x_7 x_9 M) ∧ (¬ x_8 = 0 → vp_in (((40 * a1) + a3) + x_9) 160 ∧ wp_Model_in ((M 18 (ix (((40 * a1) + a3) + x_9))).toInt64) 1 9 M (fun zr16 zm15 => (zr16 = 0 → wpJ_Model_read_194 a1 a2 a3 a4 a5 K231 J Q s_0 x_7 x_9 zm15) ∧ (¬ zr16 = 0 → wpJ_Model_read_195 a1 a2 a3 a4 a5 K231 J Q s_0 x_7 x_9 1 zm15))))
def wpB_Model_read_78 (a1 : Int32) (a2 : Int32) (a3 : Int32) (a4 : Int32) (a5 : Int32)  (K231 : Int32 → Int32 → zMem → Prop) (Q : Int32 → zMem → Prop) (J : Int32 → Int32 → Int32 → Int32 → zMem → Prop) (x_6 : Int32) (x_7 : Int32) (x_8 : Int32) (x_9 : Int32) (M : zMem) : Prop :=
  vp_in 0 100 ∧ (((M 4 (ix 0)) * a5) ≤ x_9 → K231 x_6 x_7 M) ∧ (¬ ((M 4 (ix 0)) * a5) ≤ x_9 → (¬ x_6 = 0 → K231 x_6 x_7 M) ∧ (x_6 = 0 → vp_in a1 4 ∧ (¬ (M 16 (ix a1)) = (-4) → vp_in a1 4 ∧ ((M 16 (ix a1)) = a2 → vp_in a1 4 ∧ wp_Model_in (a3.toInt64 + x_9.toInt64) 0 (((M 17 (ix a1)) - 1).toInt64) M (fun zr10 zm9 => (¬ zr10 = 0 → wpJ_Model_read_153 a1 a2 a3 a4 a5 K231 J Q x_7 x_8 x_9 0 zm9) ∧ (zr10 = 0 → wpJ_Model_read_153 a1 a2 a3 a4 a5 K231 J Q x_7 x_8 x_9 2 zm9))) ∧ (¬ (M 16 (ix a1)) = a2 → wpJ_Model_read_153 a1 a2 a3 a4 a5 K231 J Q x_7 x_8 x_9 3 M)) ∧ ((M 16 (ix a1)) = (-4) → wpJ_Model_read_153 a1 a2 a3 a4 a5 K231 J Q x_7 x_8 x_9 1 M)))
def wpB_Model_read_234 (a1 : Int32) (a2 : Int32) (a3 : Int32) (a4 : Int32) (a5 : Int32) (x_6 : Int32) (x_7 : Int32)  (Q : Int32 → zMem → Prop) (J : Int32 → zMem → Prop) (x_9 : Int32) (M : zMem) : Prop :=
  vp_in 0 100 ∧ (((M 4 (ix 0)) * x_7) ≤ x_9 → ∀ zm20 : zMem, zm20 = zup M 0 39 x_6 → Q x_7 zm20) ∧ (¬ ((M 4 (ix 0)) * x_7) ≤ x_9 → vp_in 0 100 ∧ (¬ (M 4 (ix 0)) = 0) ∧ vp_in 0 100 ∧ (¬ (M 4 (ix 0)) = 0) ∧ vp_in (((40 * a1) + a3) + x_9) 160 ∧ vp_in ((60 + (8 * (a4 + (x_9 / (M 4 (ix 0)))))) + (x_9 - x_9 / (M 4 (ix 0)) * (M 4 (ix 0)))) 100 ∧ ∀ zm21 : zMem, zm21 = zup M 4 (ix ((60 + (8 * (a4 + (x_9 / (M 4 (ix 0)))))) + (x_9 - x_9 / (M 4 (ix 0)) * (M 4 (ix 0))))) (M 18 (ix (((40 * a1) + a3) + x_9))) → ∀ zx22 : Int32, zx22 = x_9 + 1 → J zx22 zm21)
def wp_Model_read (a1 : Int32) (a2 : Int32) (a3 : Int32) (a4 : Int32) (a5 : Int32) (M : zMem) (Q : Int32 → zMem → Prop) : Prop :=
  wp_Model_in a1.toInt64 0 3 M (fun zr2 zm1 => (zr2 = 0 → Q ((-1)) zm1) ∧ (¬ zr2 = 0 → wp_Model_in a2.toInt64 0 2 zm1 (fun zr4 zm3 => (zr4 = 0 → Q ((-1)) zm3) ∧ (¬ zr4 = 0 → (a4 < 0 → Q ((-1)) zm3) ∧ (¬ a4 < 0 → wp_Model_in a5.toInt64 0 5 zm3 (fun zr6 zm5 => (zr6 = 0 → Q ((-1)) zm5) ∧ (¬ zr6 = 0 → vp_in 1 100 ∧ ((lg_cmp (a4.toInt64 + a5.toInt64) ((zm5 4 (ix 1)).toInt64)) ≤ 0 → wp_Model_awake zm5 (fun zm7 => ∃ n : Nat, zlp4 (wpB_Model_read_78 a1 a2 a3 a4 a5  (fun (zx18 : Int32) (zx19 : Int32) (zm17 : zMem) => ∃ n : Nat, zlp1 (wpB_Model_read_234 a1 a2 a3 a4 a5 zx18 zx19  Q) n 0 zm17) Q) n 0 0 1 0 zm7)) ∧ (¬ (lg_cmp (a4.toInt64 + a5.toInt64) ((zm5 4 (ix 1)).toInt64)) ≤ 0 → Q ((-1)) zm5))))))))
set_option maxHeartbeats 4000000 in
set_option maxRecDepth 20000 in
theorem c_Model_read {l : Launch} {w : zWd} {a1 : Int32} {a2 : Int32} {a3 : Int32} {a4 : Int32} {a5 : Int32} {M : zMem} {post : Int32 → zMem → Prop} (h0 : zI_Model w) (h : wp_Model_read a1 a2 a3 a4 a5 M post) : zMi l ⟨"HandToHandModel", "read", "(IIIII)I"⟩ prog_13_method_90_code 10 (Option.some .int) 8 187 w [.ref (zad w 0), .int a1, .int a2, .int a3, .int a4, .int a5] M post := by
  refine zMet (by decide) (Nat.le_of_ble_eq_true rfl) ?_
  intro p e s m below meth c X hr hlk hml hW ls hl
  have hx := X.1
  have hb := X.2.1
  have hl : lv_has ls 10 [(0, .ref (zad w 0)), (1, .int a1), (2, .int a2), (3, .int a3), (4, .int a4), (5, .int a5)] := hl
  have zJ_195 : ∀ (x_6 : Int32) (x_7 : Int32) (x_9 : Int32) (s_0 : Int32) (K231 : Int32 → Int32 → zMem → Prop) (zK231 : ∀ (y_6 : Int32) (y_7 : Int32) (M : zMem) (H : Heap) (locs : List Loc) (ls : Array Slot), zWo w s.heap M H locs → lv_has ls 10 [(0, .ref (zad w 0)), (1, .int a1), (3, .int a3), (4, .int a4), (6, .int y_6), (7, .int y_7)] → K231 y_6 y_7 M → W p l e (zRm 8 187) s m ([.ref (zad w 0), .int a1, .int a2, .int a3, .int a4, .int a5] : List Value).toArray below meth c H locs 0 0 (MQ below (va_Qi post (zB w) (zA w)) ([.ref (zad w 0), .int a1, .int a2, .int a3, .int a4, .int a5] : List Value).toArray s 0 0 (zA w)) (F0 m 231 ls [])) (J : Int32 → Int32 → Int32 → Int32 → zMem → Prop) (zJ : ∀ (y_6 : Int32) (y_7 : Int32) (y_8 : Int32) (y_9 : Int32) (M : zMem) (H : Heap) (locs : List Loc) (ls : Array Slot), zWo w s.heap M H locs → lv_has ls 10 [(0, .ref (zad w 0)), (1, .int a1), (2, .int a2), (3, .int a3), (4, .int a4), (5, .int a5), (6, .int y_6), (7, .int y_7), (8, .int y_8), (9, .int y_9)] → J y_6 y_7 y_8 y_9 M → W p l e (zRm 8 187) s m ([.ref (zad w 0), .int a1, .int a2, .int a3, .int a4, .int a5] : List Value).toArray below meth c H locs 0 0 (MQ below (va_Qi post (zB w) (zA w)) ([.ref (zad w 0), .int a1, .int a2, .int a3, .int a4, .int a5] : List Value).toArray s 0 0 (zA w)) (F0 m 78 ls [])) (M : zMem) (H : Heap) (locs : List Loc) (ls : Array Slot), zWo w s.heap M H locs → lv_has ls 10 [(0, .ref (zad w 0)), (1, .int a1), (2, .int a2), (3, .int a3), (4, .int a4), (5, .int a5), (6, .int x_6), (7, .int x_7), (9, .int x_9)] → wpJ_Model_read_195 a1 a2 a3 a4 a5 K231 J post x_6 x_7 x_9 s_0 M → W p l e (zRm 8 187) s m ([.ref (zad w 0), .int a1, .int a2, .int a3, .int a4, .int a5] : List Value).toArray below meth c H locs 0 0 (MQ below (va_Qi post (zB w) (zA w)) ([.ref (zad w 0), .int a1, .int a2, .int a3, .int a4, .int a5] : List Value).toArray s 0 0 (zA w)) (F0 m 195 ls [.int s_0]) := by
    intro x_6 x_7 x_9 s_0 K231 zK231 J zJ M H locs ls hW hl h
    unfold wpJ_Model_read_195 at h
    refine lv_istore (lv' := [(8, .int s_0), (0, .ref (zad w 0)), (1, .int a1), (2, .int a2), (3, .int a3), (4, .int a4), (5, .int a5), (6, .int x_6), (7, .int x_7), (9, .int x_9)]) hx hb dX11_read_195 hl (Nat.le_of_ble_eq_true rfl) rfl (fun ls hl => ?_)
    refine lv_iload hx hb dX11_read_197 (lv_at hl 9 rfl) ?_
    refine lv_iconst hx hb dX11_read_199 zc_i1 ?_
    refine lv_iadd hx hb dX11_read_200 ?_
    refine lv_aload_n hx hb dX11_read_201 rfl (lv_at hl 1 rfl) ?_
    refine zg_Model_holds X hW h0 zu_1031 dX11_read_202 ?_
    refine lv_iconst hx hb dX11_read_205 zc_i0 ?_
    obtain ⟨g, h⟩ := h
    refine ziald X hW h0.2.2.2.2.1 g dX11_read_206 ?_
    obtain ⟨g, h⟩ := h
    refine lv_irem hx hb dX11_read_207 g ?_
    refine lv_if_ne (tgt := 225) hx hb dX11_read_208 rfl (fun c => ?_) (fun c => ?_)
    · replace h := h.1 c
      obtain ⟨zx12, ezx12⟩ : ∃ y : Int32, y = x_9 + 1 := ⟨_, rfl⟩
      replace h := h zx12 ezx12
      refine lv_iinc (v := zx12) (lv' := [(9, .int zx12), (8, .int s_0), (0, .ref (zad w 0)), (1, .int a1), (2, .int a2), (3, .int a3), (4, .int a4), (5, .int a5), (6, .int x_6), (7, .int x_7)]) hx hb dX11_read_225 hl (k := 9) rfl (by rw [ezx12, zc_i1]) (Nat.le_of_ble_eq_true rfl) rfl (fun ls hl => ?_)
      refine lv_goto (tgt := 78) hx hb dX11_read_228 rfl ?_
      exact zJ x_6 x_7 s_0 zx12 M H locs ls hW (lv_sub hl [2, 3, 4, 5, 6, 7, 8, 9, 1, 0] rfl) h
    · replace h := h.2 c
      refine lv_iload hx hb dX11_read_211 (lv_at hl 0 rfl) ?_
      refine lv_if_ne (tgt := 222) hx hb dX11_read_213 rfl (fun c => ?_) (fun c => ?_)
      · replace h := h.1 c
        obtain ⟨zx13, ezx13⟩ : ∃ y : Int32, y = x_7 + 1 := ⟨_, rfl⟩
        replace h := h zx13 ezx13
        refine lv_iinc (v := zx13) (lv' := [(7, .int zx13), (8, .int s_0), (0, .ref (zad w 0)), (1, .int a1), (2, .int a2), (3, .int a3), (4, .int a4), (5, .int a5), (6, .int x_6), (9, .int x_9)]) hx hb dX11_read_222 hl (k := 8) rfl (by rw [ezx13, zc_i1]) (Nat.le_of_ble_eq_true rfl) rfl (fun ls hl => ?_)
        obtain ⟨zx14, ezx14⟩ : ∃ y : Int32, y = x_9 + 1 := ⟨_, rfl⟩
        replace h := h zx14 ezx14
        refine lv_iinc (v := zx14) (lv' := [(9, .int zx14), (7, .int zx13), (8, .int s_0), (0, .ref (zad w 0)), (1, .int a1), (2, .int a2), (3, .int a3), (4, .int a4), (5, .int a5), (6, .int x_6)]) hx hb dX11_read_225 hl (k := 9) rfl (by rw [ezx14, zc_i1]) (Nat.le_of_ble_eq_true rfl) rfl (fun ls hl => ?_)
        refine lv_goto (tgt := 78) hx hb dX11_read_228 rfl ?_
        exact zJ x_6 zx13 s_0 zx14 M H locs ls hW (lv_sub hl [3, 4, 5, 6, 7, 8, 9, 1, 2, 0] rfl) h
      · replace h := h.2 c
        refine lv_bipush hx hb dX11_read_216 zc_bm20 ?_
        refine lv_iload hx hb dX11_read_218 (lv_at hl 8 rfl) ?_
        refine lv_isub hx hb dX11_read_220 ?_
        exact zreti X hr hlk hW h dX11_read_221
  have zJ_194 : ∀ (x_6 : Int32) (x_7 : Int32) (x_9 : Int32) (K231 : Int32 → Int32 → zMem → Prop) (zK231 : ∀ (y_6 : Int32) (y_7 : Int32) (M : zMem) (H : Heap) (locs : List Loc) (ls : Array Slot), zWo w s.heap M H locs → lv_has ls 10 [(0, .ref (zad w 0)), (1, .int a1), (3, .int a3), (4, .int a4), (6, .int y_6), (7, .int y_7)] → K231 y_6 y_7 M → W p l e (zRm 8 187) s m ([.ref (zad w 0), .int a1, .int a2, .int a3, .int a4, .int a5] : List Value).toArray below meth c H locs 0 0 (MQ below (va_Qi post (zB w) (zA w)) ([.ref (zad w 0), .int a1, .int a2, .int a3, .int a4, .int a5] : List Value).toArray s 0 0 (zA w)) (F0 m 231 ls [])) (J : Int32 → Int32 → Int32 → Int32 → zMem → Prop) (zJ : ∀ (y_6 : Int32) (y_7 : Int32) (y_8 : Int32) (y_9 : Int32) (M : zMem) (H : Heap) (locs : List Loc) (ls : Array Slot), zWo w s.heap M H locs → lv_has ls 10 [(0, .ref (zad w 0)), (1, .int a1), (2, .int a2), (3, .int a3), (4, .int a4), (5, .int a5), (6, .int y_6), (7, .int y_7), (8, .int y_8), (9, .int y_9)] → J y_6 y_7 y_8 y_9 M → W p l e (zRm 8 187) s m ([.ref (zad w 0), .int a1, .int a2, .int a3, .int a4, .int a5] : List Value).toArray below meth c H locs 0 0 (MQ below (va_Qi post (zB w) (zA w)) ([.ref (zad w 0), .int a1, .int a2, .int a3, .int a4, .int a5] : List Value).toArray s 0 0 (zA w)) (F0 m 78 ls [])) (M : zMem) (H : Heap) (locs : List Loc) (ls : Array Slot), zWo w s.heap M H locs → lv_has ls 10 [(0, .ref (zad w 0)), (1, .int a1), (2, .int a2), (3, .int a3), (4, .int a4), (5, .int a5), (6, .int x_6), (7, .int x_7), (9, .int x_9)] → wpJ_Model_read_194 a1 a2 a3 a4 a5 K231 J post x_6 x_7 x_9 M → W p l e (zRm 8 187) s m ([.ref (zad w 0), .int a1, .int a2, .int a3, .int a4, .int a5] : List Value).toArray below meth c H locs 0 0 (MQ below (va_Qi post (zB w) (zA w)) ([.ref (zad w 0), .int a1, .int a2, .int a3, .int a4, .int a5] : List Value).toArray s 0 0 (zA w)) (F0 m 194 ls []) := by
    intro x_6 x_7 x_9 K231 zK231 J zJ M H locs ls hW hl h
    unfold wpJ_Model_read_194 at h
    refine lv_iconst hx hb dX11_read_194 zc_i0 ?_
    exact zJ_195 x_6 x_7 x_9 0 _ zK231 _ zJ M H locs ls hW (lv_sub hl [0, 1, 2, 3, 4, 5, 6, 7, 8] rfl) h
  have zJ_153 : ∀ (x_7 : Int32) (x_8 : Int32) (x_9 : Int32) (s_0 : Int32) (K231 : Int32 → Int32 → zMem → Prop) (zK231 : ∀ (y_6 : Int32) (y_7 : Int32) (M : zMem) (H : Heap) (locs : List Loc) (ls : Array Slot), zWo w s.heap M H locs → lv_has ls 10 [(0, .ref (zad w 0)), (1, .int a1), (3, .int a3), (4, .int a4), (6, .int y_6), (7, .int y_7)] → K231 y_6 y_7 M → W p l e (zRm 8 187) s m ([.ref (zad w 0), .int a1, .int a2, .int a3, .int a4, .int a5] : List Value).toArray below meth c H locs 0 0 (MQ below (va_Qi post (zB w) (zA w)) ([.ref (zad w 0), .int a1, .int a2, .int a3, .int a4, .int a5] : List Value).toArray s 0 0 (zA w)) (F0 m 231 ls [])) (J : Int32 → Int32 → Int32 → Int32 → zMem → Prop) (zJ : ∀ (y_6 : Int32) (y_7 : Int32) (y_8 : Int32) (y_9 : Int32) (M : zMem) (H : Heap) (locs : List Loc) (ls : Array Slot), zWo w s.heap M H locs → lv_has ls 10 [(0, .ref (zad w 0)), (1, .int a1), (2, .int a2), (3, .int a3), (4, .int a4), (5, .int a5), (6, .int y_6), (7, .int y_7), (8, .int y_8), (9, .int y_9)] → J y_6 y_7 y_8 y_9 M → W p l e (zRm 8 187) s m ([.ref (zad w 0), .int a1, .int a2, .int a3, .int a4, .int a5] : List Value).toArray below meth c H locs 0 0 (MQ below (va_Qi post (zB w) (zA w)) ([.ref (zad w 0), .int a1, .int a2, .int a3, .int a4, .int a5] : List Value).toArray s 0 0 (zA w)) (F0 m 78 ls [])) (M : zMem) (H : Heap) (locs : List Loc) (ls : Array Slot), zWo w s.heap M H locs → lv_has ls 10 [(0, .ref (zad w 0)), (1, .int a1), (2, .int a2), (3, .int a3), (4, .int a4), (5, .int a5), (7, .int x_7), (8, .int x_8), (9, .int x_9)] → wpJ_Model_read_153 a1 a2 a3 a4 a5 K231 J post x_7 x_8 x_9 s_0 M → W p l e (zRm 8 187) s m ([.ref (zad w 0), .int a1, .int a2, .int a3, .int a4, .int a5] : List Value).toArray below meth c H locs 0 0 (MQ below (va_Qi post (zB w) (zA w)) ([.ref (zad w 0), .int a1, .int a2, .int a3, .int a4, .int a5] : List Value).toArray s 0 0 (zA w)) (F0 m 153 ls [.int s_0]) := by
    intro x_7 x_8 x_9 s_0 K231 zK231 J zJ M H locs ls hW hl h
    unfold wpJ_Model_read_153 at h
    refine lv_istore (lv' := [(6, .int s_0), (0, .ref (zad w 0)), (1, .int a1), (2, .int a2), (3, .int a3), (4, .int a4), (5, .int a5), (7, .int x_7), (8, .int x_8), (9, .int x_9)]) hx hb dX11_read_153 hl (Nat.le_of_ble_eq_true rfl) rfl (fun ls hl => ?_)
    refine lv_iload hx hb dX11_read_155 (lv_at hl 0 rfl) ?_
    refine lv_if_ne (tgt := 225) hx hb dX11_read_157 rfl (fun c => ?_) (fun c => ?_)
    · replace h := h.1 c
      obtain ⟨zx11, ezx11⟩ : ∃ y : Int32, y = x_9 + 1 := ⟨_, rfl⟩
      replace h := h zx11 ezx11
      refine lv_iinc (v := zx11) (lv' := [(9, .int zx11), (6, .int s_0), (0, .ref (zad w 0)), (1, .int a1), (2, .int a2), (3, .int a3), (4, .int a4), (5, .int a5), (7, .int x_7), (8, .int x_8)]) hx hb dX11_read_225 hl (k := 9) rfl (by rw [ezx11, zc_i1]) (Nat.le_of_ble_eq_true rfl) rfl (fun ls hl => ?_)
      refine lv_goto (tgt := 78) hx hb dX11_read_228 rfl ?_
      exact zJ s_0 x_7 x_8 zx11 M H locs ls hW (lv_sub hl [2, 3, 4, 5, 6, 7, 1, 8, 9, 0] rfl) h
    · replace h := h.2 c
      refine lv_iload hx hb dX11_read_160 (lv_at hl 8 rfl) ?_
      refine lv_if_eq (tgt := 194) hx hb dX11_read_162 rfl (fun c => ?_) (fun c => ?_)
      · replace h := h.1 c
        exact zJ_194 s_0 x_7 x_9 _ zK231 _ zJ M H locs ls hW (lv_sub hl [1, 2, 3, 4, 5, 6, 0, 7, 9] rfl) h
      · replace h := h.2 c
        refine lv_aload_n hx hb dX11_read_165 rfl (lv_at hl 1 rfl) ?_
        refine zg_Model_cells X hW h0 zu_1058 dX11_read_166 ?_
        refine lv_bipush hx hb dX11_read_169 zc_b40 ?_
        refine lv_iload_n hx hb dX11_read_171 rfl (lv_at hl 2 rfl) ?_
        refine lv_imul hx hb dX11_read_172 ?_
        refine lv_iload_n hx hb dX11_read_173 rfl (lv_at hl 4 rfl) ?_
        refine lv_iadd hx hb dX11_read_174 ?_
        refine lv_iload hx hb dX11_read_175 (lv_at hl 9 rfl) ?_
        refine lv_iadd hx hb dX11_read_177 ?_
        obtain ⟨g, h⟩ := h
        refine ziald X hW h0.2.2.2.2.2.2.2.2.2.2.2.2.2.2.2.2.2.1 g dX11_read_178 ?_
        refine lv_i2l hx hb dX11_read_179 rfl ?_
        refine lv_lconst hx hb dX11_read_180 zc_l1 ?_
        refine lv_ldc2 hx hb X.2.2.1 (X.2.2.2.1 _ zu_1332) dX11_read_181 ?_
        refine zcalli (zrunS (As := [.long ((M 18 (ix (((40 * a1) + a3) + x_9))).toInt64), .long 1, .long 9]) (rest := []) X hml hl hW zk_Model_69 (c_Model_in  h) rfl ⟨Nat.le_of_ble_eq_true rfl, Nat.le_of_ble_eq_true rfl⟩ ⟨Nat.le_refl 0, Nat.le_refl 0⟩ rfl (Nat.le_of_ble_eq_true rfl) dX11_read_184) hW (fun zr16 zm15 H locs h hW => ?_)
        refine lv_if_eq (tgt := 194) hx hb dX11_read_187 rfl (fun c => ?_) (fun c => ?_)
        · replace h := h.1 c
          exact zJ_194 s_0 x_7 x_9 _ zK231 _ zJ zm15 H locs ls hW (lv_sub hl [1, 2, 3, 4, 5, 6, 0, 7, 9] rfl) h
        · replace h := h.2 c
          refine lv_iconst hx hb dX11_read_190 zc_i1 ?_
          refine lv_goto (tgt := 195) hx hb dX11_read_191 rfl ?_
          exact zJ_195 s_0 x_7 x_9 1 _ zK231 _ zJ zm15 H locs ls hW (lv_sub hl [1, 2, 3, 4, 5, 6, 0, 7, 9] rfl) h
  have zL_78 : ∀ (K231 : Int32 → Int32 → zMem → Prop) (zK231 : ∀ (y_6 : Int32) (y_7 : Int32) (M : zMem) (H : Heap) (locs : List Loc) (ls : Array Slot), zWo w s.heap M H locs → lv_has ls 10 [(0, .ref (zad w 0)), (1, .int a1), (3, .int a3), (4, .int a4), (6, .int y_6), (7, .int y_7)] → K231 y_6 y_7 M → W p l e (zRm 8 187) s m ([.ref (zad w 0), .int a1, .int a2, .int a3, .int a4, .int a5] : List Value).toArray below meth c H locs 0 0 (MQ below (va_Qi post (zB w) (zA w)) ([.ref (zad w 0), .int a1, .int a2, .int a3, .int a4, .int a5] : List Value).toArray s 0 0 (zA w)) (F0 m 231 ls [])), ∀ (n : Nat) (x_6 : Int32) (x_7 : Int32) (x_8 : Int32) (x_9 : Int32) (M : zMem) (H : Heap) (locs : List Loc) (ls : Array Slot), zWo w s.heap M H locs → lv_has ls 10 [(0, .ref (zad w 0)), (1, .int a1), (2, .int a2), (3, .int a3), (4, .int a4), (5, .int a5), (6, .int x_6), (7, .int x_7), (8, .int x_8), (9, .int x_9)] → zlp4 (wpB_Model_read_78 a1 a2 a3 a4 a5  K231 post) n x_6 x_7 x_8 x_9 M → W p l e (zRm 8 187) s m ([.ref (zad w 0), .int a1, .int a2, .int a3, .int a4, .int a5] : List Value).toArray below meth c H locs 0 0 (MQ below (va_Qi post (zB w) (zA w)) ([.ref (zad w 0), .int a1, .int a2, .int a3, .int a4, .int a5] : List Value).toArray s 0 0 (zA w)) (F0 m 78 ls []) := by
    intro K231 zK231 n
    induction n with
    | zero => intro x_6 x_7 x_8 x_9 M H locs ls hW hl h; exact h.elim
    | succ n zJ =>
      intro x_6 x_7 x_8 x_9 M H locs ls hW hl h
      have h : wpB_Model_read_78 a1 a2 a3 a4 a5  K231 post (zlp4 (wpB_Model_read_78 a1 a2 a3 a4 a5  K231 post) n) x_6 x_7 x_8 x_9 M := h
      unfold wpB_Model_read_78 at h
      refine lv_iload hx hb dX11_read_78 (lv_at hl 9 rfl) ?_
      refine lv_aload_n hx hb dX11_read_80 rfl (lv_at hl 0 rfl) ?_
      refine zg_Model_holds X hW h0 zu_1031 dX11_read_81 ?_
      refine lv_iconst hx hb dX11_read_84 zc_i0 ?_
      obtain ⟨g, h⟩ := h
      refine ziald X hW h0.2.2.2.2.1 g dX11_read_85 ?_
      refine lv_iload hx hb dX11_read_86 (lv_at hl 5 rfl) ?_
      refine lv_imul hx hb dX11_read_88 ?_
      refine lv_icmp_ge (tgt := 231) hx hb dX11_read_89 rfl (fun c => ?_) (fun c => ?_)
      · replace h := h.1 c
        exact zK231 x_6 x_7 M H locs ls hW (lv_sub hl [0, 1, 3, 4, 6, 7] rfl) h
      · replace h := h.2 c
        refine lv_iload hx hb dX11_read_92 (lv_at hl 6 rfl) ?_
        refine lv_if_ne (tgt := 231) hx hb dX11_read_94 rfl (fun c => ?_) (fun c => ?_)
        · replace h := h.1 c
          exact zK231 x_6 x_7 M H locs ls hW (lv_sub hl [0, 1, 3, 4, 6, 7] rfl) h
        · replace h := h.2 c
          refine lv_aload_n hx hb dX11_read_97 rfl (lv_at hl 0 rfl) ?_
          refine zg_Model_lanes X hW h0 zu_1056 dX11_read_98 ?_
          refine lv_iload_n hx hb dX11_read_101 rfl (lv_at hl 1 rfl) ?_
          obtain ⟨g, h⟩ := h
          refine ziald X hW h0.2.2.2.2.2.2.2.2.2.2.2.2.2.2.2.1 g dX11_read_102 ?_
          refine lv_bipush hx hb dX11_read_103 zc_bm4 ?_
          refine lv_icmp_ne (tgt := 112) hx hb dX11_read_105 rfl (fun c => ?_) (fun c => ?_)
          · replace h := h.1 c
            refine lv_aload_n hx hb dX11_read_112 rfl (lv_at hl 0 rfl) ?_
            refine zg_Model_lanes X hW h0 zu_1056 dX11_read_113 ?_
            refine lv_iload_n hx hb dX11_read_116 rfl (lv_at hl 1 rfl) ?_
            obtain ⟨g, h⟩ := h
            refine ziald X hW h0.2.2.2.2.2.2.2.2.2.2.2.2.2.2.2.1 g dX11_read_117 ?_
            refine lv_iload_n hx hb dX11_read_118 rfl (lv_at hl 2 rfl) ?_
            refine lv_icmp_eq (tgt := 126) hx hb dX11_read_119 rfl (fun c => ?_) (fun c => ?_)
            · replace h := h.1 c
              refine lv_iload_n hx hb dX11_read_126 rfl (lv_at hl 3 rfl) ?_
              refine lv_i2l hx hb dX11_read_127 rfl ?_
              refine lv_iload hx hb dX11_read_128 (lv_at hl 9 rfl) ?_
              refine lv_i2l hx hb dX11_read_130 rfl ?_
              refine lv_ladd hx hb dX11_read_131 ?_
              refine lv_lconst hx hb dX11_read_132 zc_l0 ?_
              refine lv_aload_n hx hb dX11_read_133 rfl (lv_at hl 0 rfl) ?_
              refine zg_Model_lengths X hW h0 zu_1057 dX11_read_134 ?_
              refine lv_iload_n hx hb dX11_read_137 rfl (lv_at hl 1 rfl) ?_
              obtain ⟨g, h⟩ := h
              refine ziald X hW h0.2.2.2.2.2.2.2.2.2.2.2.2.2.2.2.2.1 g dX11_read_138 ?_
              refine lv_iconst hx hb dX11_read_139 zc_i1 ?_
              refine lv_isub hx hb dX11_read_140 ?_
              refine lv_i2l hx hb dX11_read_141 rfl ?_
              refine zcalli (zrunS (As := [.long (a3.toInt64 + x_9.toInt64), .long 0, .long (((M 17 (ix a1)) - 1).toInt64)]) (rest := []) X hml hl hW zk_Model_69 (c_Model_in  h) rfl ⟨Nat.le_of_ble_eq_true rfl, Nat.le_of_ble_eq_true rfl⟩ ⟨Nat.le_refl 0, Nat.le_refl 0⟩ rfl (Nat.le_of_ble_eq_true rfl) dX11_read_142) hW (fun zr10 zm9 H locs h hW => ?_)
              refine lv_if_ne (tgt := 152) hx hb dX11_read_145 rfl (fun c => ?_) (fun c => ?_)
              · replace h := h.1 c
                refine lv_iconst hx hb dX11_read_152 zc_i0 ?_
                exact zJ_153 x_7 x_8 x_9 0 _ zK231 _ zJ zm9 H locs ls hW (lv_sub hl [0, 1, 2, 3, 4, 5, 7, 8, 9] rfl) h
              · replace h := h.2 c
                refine lv_iconst hx hb dX11_read_148 zc_i2 ?_
                refine lv_goto (tgt := 153) hx hb dX11_read_149 rfl ?_
                exact zJ_153 x_7 x_8 x_9 2 _ zK231 _ zJ zm9 H locs ls hW (lv_sub hl [0, 1, 2, 3, 4, 5, 7, 8, 9] rfl) h
            · replace h := h.2 c
              refine lv_iconst hx hb dX11_read_122 zc_i3 ?_
              refine lv_goto (tgt := 153) hx hb dX11_read_123 rfl ?_
              exact zJ_153 x_7 x_8 x_9 3 _ zK231 _ zJ M H locs ls hW (lv_sub hl [0, 1, 2, 3, 4, 5, 7, 8, 9] rfl) h
          · replace h := h.2 c
            refine lv_iconst hx hb dX11_read_108 zc_i1 ?_
            refine lv_goto (tgt := 153) hx hb dX11_read_109 rfl ?_
            exact zJ_153 x_7 x_8 x_9 1 _ zK231 _ zJ M H locs ls hW (lv_sub hl [0, 1, 2, 3, 4, 5, 7, 8, 9] rfl) h
  have zL_234 : ∀ (x_6 : Int32) (x_7 : Int32), ∀ (n : Nat) (x_9 : Int32) (M : zMem) (H : Heap) (locs : List Loc) (ls : Array Slot), zWo w s.heap M H locs → lv_has ls 10 [(0, .ref (zad w 0)), (1, .int a1), (3, .int a3), (4, .int a4), (6, .int x_6), (7, .int x_7), (9, .int x_9)] → zlp1 (wpB_Model_read_234 a1 a2 a3 a4 a5 x_6 x_7  post) n x_9 M → W p l e (zRm 8 187) s m ([.ref (zad w 0), .int a1, .int a2, .int a3, .int a4, .int a5] : List Value).toArray below meth c H locs 0 0 (MQ below (va_Qi post (zB w) (zA w)) ([.ref (zad w 0), .int a1, .int a2, .int a3, .int a4, .int a5] : List Value).toArray s 0 0 (zA w)) (F0 m 234 ls []) := by
    intro x_6 x_7 n
    induction n with
    | zero => intro x_9 M H locs ls hW hl h; exact h.elim
    | succ n zJ =>
      intro x_9 M H locs ls hW hl h
      have h : wpB_Model_read_234 a1 a2 a3 a4 a5 x_6 x_7  post (zlp1 (wpB_Model_read_234 a1 a2 a3 a4 a5 x_6 x_7  post) n) x_9 M := h
      unfold wpB_Model_read_234 at h
      refine lv_iload hx hb dX11_read_234 (lv_at hl 6 rfl) ?_
      refine lv_aload_n hx hb dX11_read_236 rfl (lv_at hl 0 rfl) ?_
      refine zg_Model_holds X hW h0 zu_1031 dX11_read_237 ?_
      refine lv_iconst hx hb dX11_read_240 zc_i0 ?_
      obtain ⟨g, h⟩ := h
      refine ziald X hW h0.2.2.2.2.1 g dX11_read_241 ?_
      refine lv_iload hx hb dX11_read_242 (lv_at hl 5 rfl) ?_
      refine lv_imul hx hb dX11_read_244 ?_
      refine lv_icmp_ge (tgt := 301) hx hb dX11_read_245 rfl (fun c => ?_) (fun c => ?_)
      · replace h := h.1 c
        refine lv_aload_n hx hb dX11_read_301 rfl (lv_at hl 0 rfl) ?_
        refine lv_iload hx hb dX11_read_302 (lv_at hl 4 rfl) ?_
        refine zp_Model_torn X hW h0 zu_1059 dX11_read_304 (fun H locs zm20 ezm20 hW => ?_)
        replace h := h zm20 ezm20
        refine lv_iload hx hb dX11_read_307 (lv_at hl 5 rfl) ?_
        exact zreti X hr hlk hW h dX11_read_309
      · replace h := h.2 c
        refine lv_aload_n hx hb dX11_read_248 rfl (lv_at hl 0 rfl) ?_
        refine zg_Model_holds X hW h0 zu_1031 dX11_read_249 ?_
        refine lv_bipush hx hb dX11_read_252 zc_b60 ?_
        refine lv_bipush hx hb dX11_read_254 zc_b8 ?_
        refine lv_iload hx hb dX11_read_256 (lv_at hl 3 rfl) ?_
        refine lv_iload hx hb dX11_read_258 (lv_at hl 6 rfl) ?_
        refine lv_aload_n hx hb dX11_read_260 rfl (lv_at hl 0 rfl) ?_
        refine zg_Model_holds X hW h0 zu_1031 dX11_read_261 ?_
        refine lv_iconst hx hb dX11_read_264 zc_i0 ?_
        obtain ⟨g, h⟩ := h
        refine ziald X hW h0.2.2.2.2.1 g dX11_read_265 ?_
        obtain ⟨g, h⟩ := h
        refine lv_idiv hx hb dX11_read_266 g ?_
        refine lv_iadd hx hb dX11_read_267 ?_
        refine lv_imul hx hb dX11_read_268 ?_
        refine lv_iadd hx hb dX11_read_269 ?_
        refine lv_iload hx hb dX11_read_270 (lv_at hl 6 rfl) ?_
        refine lv_aload_n hx hb dX11_read_272 rfl (lv_at hl 0 rfl) ?_
        refine zg_Model_holds X hW h0 zu_1031 dX11_read_273 ?_
        refine lv_iconst hx hb dX11_read_276 zc_i0 ?_
        obtain ⟨g, h⟩ := h
        refine ziald X hW h0.2.2.2.2.1 g dX11_read_277 ?_
        obtain ⟨g, h⟩ := h
        refine lv_irem hx hb dX11_read_278 g ?_
        refine lv_iadd hx hb dX11_read_279 ?_
        refine lv_aload_n hx hb dX11_read_280 rfl (lv_at hl 0 rfl) ?_
        refine zg_Model_cells X hW h0 zu_1058 dX11_read_281 ?_
        refine lv_bipush hx hb dX11_read_284 zc_b40 ?_
        refine lv_iload_n hx hb dX11_read_286 rfl (lv_at hl 1 rfl) ?_
        refine lv_imul hx hb dX11_read_287 ?_
        refine lv_iload_n hx hb dX11_read_288 rfl (lv_at hl 2 rfl) ?_
        refine lv_iadd hx hb dX11_read_289 ?_
        refine lv_iload hx hb dX11_read_290 (lv_at hl 6 rfl) ?_
        refine lv_iadd hx hb dX11_read_292 ?_
        obtain ⟨g, h⟩ := h
        refine ziald X hW h0.2.2.2.2.2.2.2.2.2.2.2.2.2.2.2.2.2.1 g dX11_read_293 ?_
        obtain ⟨g, h⟩ := h
        refine ziast X hW h0.2.2.2.2.1 g dX11_read_294 (fun H locs zm21 ezm21 hW => ?_)
        replace h := h zm21 ezm21
        obtain ⟨zx22, ezx22⟩ : ∃ y : Int32, y = x_9 + 1 := ⟨_, rfl⟩
        replace h := h zx22 ezx22
        refine lv_iinc (v := zx22) (lv' := [(9, .int zx22), (0, .ref (zad w 0)), (1, .int a1), (3, .int a3), (4, .int a4), (6, .int x_6), (7, .int x_7)]) hx hb dX11_read_295 hl (k := 6) rfl (by rw [ezx22, zc_i1]) (Nat.le_of_ble_eq_true rfl) rfl (fun ls hl => ?_)
        refine lv_goto (tgt := 234) hx hb dX11_read_298 rfl ?_
        exact zJ zx22 zm21 H locs ls hW (lv_sub hl [1, 2, 3, 4, 5, 6, 0] rfl) h
  unfold wp_Model_read at h
  have zMain : ∀ (H : Heap) (locs : List Loc) (ls : Array Slot), zWo w s.heap M H locs → lv_has ls 10 [(0, .ref (zad w 0)), (1, .int a1), (2, .int a2), (3, .int a3), (4, .int a4), (5, .int a5)] → W p l e (zRm 8 187) s m ([.ref (zad w 0), .int a1, .int a2, .int a3, .int a4, .int a5] : List Value).toArray below meth c H locs 0 0 (MQ below (va_Qi post (zB w) (zA w)) ([.ref (zad w 0), .int a1, .int a2, .int a3, .int a4, .int a5] : List Value).toArray s 0 0 (zA w)) (F0 m 0 ls []) := by
    intro H locs ls hW hl
    refine lv_iload_n hx hb dX11_read_0 rfl (lv_at hl 1 rfl) ?_
    refine lv_i2l hx hb dX11_read_1 rfl ?_
    refine lv_lconst hx hb dX11_read_2 zc_l0 ?_
    refine lv_ldc2 hx hb X.2.2.1 (X.2.2.2.1 _ zu_1427) dX11_read_3 ?_
    refine zcalli (zrunS (As := [.long a1.toInt64, .long 0, .long 3]) (rest := []) X hml hl hW zk_Model_69 (c_Model_in  h) rfl ⟨Nat.le_of_ble_eq_true rfl, Nat.le_of_ble_eq_true rfl⟩ ⟨Nat.le_refl 0, Nat.le_refl 0⟩ rfl (Nat.le_of_ble_eq_true rfl) dX11_read_6) hW (fun zr2 zm1 H locs h hW => ?_)
    refine lv_if_eq (tgt := 60) hx hb dX11_read_9 rfl (fun c => ?_) (fun c => ?_)
    · replace h := h.1 c
      refine lv_iconst hx hb dX11_read_60 zc_im1 ?_
      exact zreti X hr hlk hW h dX11_read_61
    · replace h := h.2 c
      refine lv_iload_n hx hb dX11_read_12 rfl (lv_at hl 2 rfl) ?_
      refine lv_i2l hx hb dX11_read_13 rfl ?_
      refine lv_lconst hx hb dX11_read_14 zc_l0 ?_
      refine lv_ldc2 hx hb X.2.2.1 (X.2.2.2.1 _ zu_1248) dX11_read_15 ?_
      refine zcalli (zrunS (As := [.long a2.toInt64, .long 0, .long 2]) (rest := []) X hml hl hW zk_Model_69 (c_Model_in  h) rfl ⟨Nat.le_of_ble_eq_true rfl, Nat.le_of_ble_eq_true rfl⟩ ⟨Nat.le_refl 0, Nat.le_refl 0⟩ rfl (Nat.le_of_ble_eq_true rfl) dX11_read_18) hW (fun zr4 zm3 H locs h hW => ?_)
      refine lv_if_eq (tgt := 60) hx hb dX11_read_21 rfl (fun c => ?_) (fun c => ?_)
      · replace h := h.1 c
        refine lv_iconst hx hb dX11_read_60 zc_im1 ?_
        exact zreti X hr hlk hW h dX11_read_61
      · replace h := h.2 c
        refine lv_iload hx hb dX11_read_24 (lv_at hl 4 rfl) ?_
        refine lv_if_lt (tgt := 60) hx hb dX11_read_26 rfl (fun c => ?_) (fun c => ?_)
        · replace h := h.1 c
          refine lv_iconst hx hb dX11_read_60 zc_im1 ?_
          exact zreti X hr hlk hW h dX11_read_61
        · replace h := h.2 c
          refine lv_iload hx hb dX11_read_29 (lv_at hl 5 rfl) ?_
          refine lv_i2l hx hb dX11_read_31 rfl ?_
          refine lv_lconst hx hb dX11_read_32 zc_l0 ?_
          refine lv_ldc2 hx hb X.2.2.1 (X.2.2.2.1 _ zu_1358) dX11_read_33 ?_
          refine zcalli (zrunS (As := [.long a5.toInt64, .long 0, .long 5]) (rest := []) X hml hl hW zk_Model_69 (c_Model_in  h) rfl ⟨Nat.le_of_ble_eq_true rfl, Nat.le_of_ble_eq_true rfl⟩ ⟨Nat.le_refl 0, Nat.le_refl 0⟩ rfl (Nat.le_of_ble_eq_true rfl) dX11_read_36) hW (fun zr6 zm5 H locs h hW => ?_)
          refine lv_if_eq (tgt := 60) hx hb dX11_read_39 rfl (fun c => ?_) (fun c => ?_)
          · replace h := h.1 c
            refine lv_iconst hx hb dX11_read_60 zc_im1 ?_
            exact zreti X hr hlk hW h dX11_read_61
          · replace h := h.2 c
            refine lv_iload hx hb dX11_read_42 (lv_at hl 4 rfl) ?_
            refine lv_i2l hx hb dX11_read_44 rfl ?_
            refine lv_iload hx hb dX11_read_45 (lv_at hl 5 rfl) ?_
            refine lv_i2l hx hb dX11_read_47 rfl ?_
            refine lv_ladd hx hb dX11_read_48 ?_
            refine lv_aload_n hx hb dX11_read_49 rfl (lv_at hl 0 rfl) ?_
            refine zg_Model_holds X hW h0 zu_1031 dX11_read_50 ?_
            refine lv_iconst hx hb dX11_read_53 zc_i1 ?_
            obtain ⟨g, h⟩ := h
            refine ziald X hW h0.2.2.2.2.1 g dX11_read_54 ?_
            refine lv_i2l hx hb dX11_read_55 rfl ?_
            refine W.lcmp hx hb dX11_read_56 ?_
            refine lv_if_le (tgt := 62) hx hb dX11_read_57 rfl (fun c => ?_) (fun c => ?_)
            · replace h := h.1 c
              refine lv_aload_n hx hb dX11_read_62 rfl (lv_at hl 0 rfl) ?_
              refine zcallv (zrunV (As := []) (rest := []) X hml hl hW h0.1 rfl zk_Model_180 (c_Model_awake h0 h) rfl ⟨Nat.le_of_ble_eq_true rfl, Nat.le_of_ble_eq_true rfl⟩ ⟨Nat.le_refl 0, Nat.le_refl 0⟩ rfl (Nat.le_of_ble_eq_true rfl) dX11_read_63) hW (fun zm7 H locs h hW => ?_)
              refine lv_iconst hx hb dX11_read_66 zc_i0 ?_
              refine lv_istore (lv' := [(6, .int 0), (0, .ref (zad w 0)), (1, .int a1), (2, .int a2), (3, .int a3), (4, .int a4), (5, .int a5)]) hx hb dX11_read_67 hl (Nat.le_of_ble_eq_true rfl) rfl (fun ls hl => ?_)
              refine lv_iconst hx hb dX11_read_69 zc_i0 ?_
              refine lv_istore (lv' := [(7, .int 0), (6, .int 0), (0, .ref (zad w 0)), (1, .int a1), (2, .int a2), (3, .int a3), (4, .int a4), (5, .int a5)]) hx hb dX11_read_70 hl (Nat.le_of_ble_eq_true rfl) rfl (fun ls hl => ?_)
              refine lv_iconst hx hb dX11_read_72 zc_i1 ?_
              refine lv_istore (lv' := [(8, .int 1), (7, .int 0), (6, .int 0), (0, .ref (zad w 0)), (1, .int a1), (2, .int a2), (3, .int a3), (4, .int a4), (5, .int a5)]) hx hb dX11_read_73 hl (Nat.le_of_ble_eq_true rfl) rfl (fun ls hl => ?_)
              refine lv_iconst hx hb dX11_read_75 zc_i0 ?_
              refine lv_istore (lv' := [(9, .int 0), (8, .int 1), (7, .int 0), (6, .int 0), (0, .ref (zad w 0)), (1, .int a1), (2, .int a2), (3, .int a3), (4, .int a4), (5, .int a5)]) hx hb dX11_read_76 hl (Nat.le_of_ble_eq_true rfl) rfl (fun ls hl => ?_)
              obtain ⟨n, h⟩ := h
              refine zL_78  _ (fun zx18 zx19 zm17 H locs ls hW hl h => ?_) n 0 0 1 0 zm7 H locs ls hW (lv_sub hl [4, 5, 6, 7, 8, 9, 3, 2, 1, 0] rfl) h
              · skip
                refine lv_iconst hx hb dX11_read_231 zc_i0 ?_
                refine lv_istore (lv' := [(9, .int 0), (0, .ref (zad w 0)), (1, .int a1), (3, .int a3), (4, .int a4), (6, .int zx18), (7, .int zx19)]) hx hb dX11_read_232 hl (Nat.le_of_ble_eq_true rfl) rfl (fun ls hl => ?_)
                obtain ⟨n, h⟩ := h
                refine zL_234 zx18 zx19  n 0 zm17 H locs ls hW (lv_sub hl [1, 2, 3, 4, 5, 6, 0] rfl) h
            · replace h := h.2 c
              refine lv_iconst hx hb dX11_read_60 zc_im1 ?_
              exact zreti X hr hlk hW h dX11_read_61
  exact zMain s.heap [] ls hW hl
def wp_Model_torn  (M : zMem) (Q : Int32 → zMem → Prop) : Prop :=
  Q (M 0 39) M
set_option maxHeartbeats 4000000 in
set_option maxRecDepth 20000 in
theorem c_Model_torn {l : Launch} {w : zWd} {M : zMem} {post : Int32 → zMem → Prop} (h0 : zI_Model w) (h : wp_Model_torn  M post) : zMi l ⟨"HandToHandModel", "torn", "()I"⟩ prog_13_method_91_code 1 (Option.some .int) 0 0 w [.ref (zad w 0)] M post := by
  refine zMet (by decide) (Nat.le_of_ble_eq_true rfl) ?_
  intro p e s m below meth c X hr hlk hml hW ls hl
  have hx := X.1
  have hb := X.2.1
  have hl : lv_has ls 1 [(0, .ref (zad w 0))] := hl
  unfold wp_Model_torn at h
  have zMain : ∀ (H : Heap) (locs : List Loc) (ls : Array Slot), zWo w s.heap M H locs → lv_has ls 1 [(0, .ref (zad w 0))] → W p l e (zRm 0 0) s m ([.ref (zad w 0)] : List Value).toArray below meth c H locs 0 0 (MQ below (va_Qi post (zB w) (zA w)) ([.ref (zad w 0)] : List Value).toArray s 0 0 (zA w)) (F0 m 0 ls []) := by
    intro H locs ls hW hl
    refine lv_aload_n hx hb dX11_torn_0 rfl (lv_at hl 0 rfl) ?_
    refine zg_Model_torn X hW h0 zu_1059 dX11_torn_1 ?_
    exact zreti X hr hlk hW h dX11_torn_4
  exact zMain s.heap [] ls hW hl
def wp_Model_count (a1 : Int32) (M : zMem) (Q : Int32 → zMem → Prop) : Prop :=
  ∀ zx1 : Int32, zx1 = a1 → (zx1 = 0 → vp_in 0 2 ∧ ((M 7 (ix 0)) = 0 → vp_in 1 2 ∧ ((M 7 (ix 1)) = 0 → Q (0 + 0) M) ∧ (¬ (M 7 (ix 1)) = 0 → Q (0 + 1) M)) ∧ (¬ (M 7 (ix 0)) = 0 → vp_in 1 2 ∧ ((M 7 (ix 1)) = 0 → Q (1 + 0) M) ∧ (¬ (M 7 (ix 1)) = 0 → Q (1 + 1) M))) ∧ (zx1 = 1 → Q (M 0 1) M) ∧ (zx1 = 2 → vp_in 0 4 ∧ (¬ (M 16 (ix 0)) = (-4) → vp_in 0 4 ∧ Q (M 17 (ix 0)) M) ∧ ((M 16 (ix 0)) = (-4) → Q ((-4)) M)) ∧ (zx1 = 3 → wp_Model_orders M (fun zr3 zm2 => Q zr3 zm2)) ∧ (¬ zx1 = 0 → ¬ zx1 = 1 → ¬ zx1 = 2 → ¬ zx1 = 3 → Q ((-1)) M)
set_option maxHeartbeats 4000000 in
set_option maxRecDepth 20000 in
theorem c_Model_count {l : Launch} {w : zWd} {a1 : Int32} {M : zMem} {post : Int32 → zMem → Prop} (h0 : zI_Model w) (h : wp_Model_count a1 M post) : zMi l ⟨"HandToHandModel", "count", "(I)I"⟩ prog_13_method_92_code 2 (Option.some .int) 1 22 w [.ref (zad w 0), .int a1] M post := by
  refine zMet (by decide) (Nat.le_of_ble_eq_true rfl) ?_
  intro p e s m below meth c X hr hlk hml hW ls hl
  have hx := X.1
  have hb := X.2.1
  have hl : lv_has ls 2 [(0, .ref (zad w 0)), (1, .int a1)] := hl
  unfold wp_Model_count at h
  have zMain : ∀ (H : Heap) (locs : List Loc) (ls : Array Slot), zWo w s.heap M H locs → lv_has ls 2 [(0, .ref (zad w 0)), (1, .int a1)] → W p l e (zRm 1 22) s m ([.ref (zad w 0), .int a1] : List Value).toArray below meth c H locs 0 0 (MQ below (va_Qi post (zB w) (zA w)) ([.ref (zad w 0), .int a1] : List Value).toArray s 0 0 (zA w)) (F0 m 0 ls []) := by
    intro H locs ls hW hl
    refine lv_iload_n hx hb dX11_count_0 rfl (lv_at hl 1 rfl) ?_
    refine lv_topi (fun zx1 ezx1 => ?_)
    replace h := h zx1 ezx1
    by_cases c0 : zx1 = 0
    · replace h := h.1 c0
      refine lv_tableIn (off := 31) (tgt := 32) hx hb dX11_count_1 (by rw [c0]; decide) (by rw [c0]; decide) (by rw [c0]; rfl) rfl ?_
      refine lv_aload_n hx hb dX11_count_32 rfl (lv_at hl 0 rfl) ?_
      refine zg_Model_isKept X hW h0 zu_1037 dX11_count_33 ?_
      refine lv_iconst hx hb dX11_count_36 zc_i0 ?_
      obtain ⟨g, h⟩ := h
      refine zzald X hW h0.2.2.2.2.2.2.2.2.2.2.2.2.2.2.2.2.2.2 g dX11_count_37 ?_
      refine lv_if_eq (tgt := 45) hx hb dX11_count_38 rfl (fun c => ?_) (fun c => ?_)
      · replace h := h.1 c
        refine lv_iconst hx hb dX11_count_45 zc_i0 ?_
        refine lv_aload_n hx hb dX11_count_46 rfl (lv_at hl 0 rfl) ?_
        refine zg_Model_isKept X hW h0 zu_1037 dX11_count_47 ?_
        refine lv_iconst hx hb dX11_count_50 zc_i1 ?_
        obtain ⟨g, h⟩ := h
        refine zzald X hW h0.2.2.2.2.2.2.2.2.2.2.2.2.2.2.2.2.2.2 g dX11_count_51 ?_
        refine lv_if_eq (tgt := 59) hx hb dX11_count_52 rfl (fun c => ?_) (fun c => ?_)
        · replace h := h.1 c
          refine lv_iconst hx hb dX11_count_59 zc_i0 ?_
          refine lv_iadd hx hb dX11_count_60 ?_
          exact zreti X hr hlk hW h dX11_count_61
        · replace h := h.2 c
          refine lv_iconst hx hb dX11_count_55 zc_i1 ?_
          refine lv_goto (tgt := 60) hx hb dX11_count_56 rfl ?_
          refine lv_iadd hx hb dX11_count_60 ?_
          exact zreti X hr hlk hW h dX11_count_61
      · replace h := h.2 c
        refine lv_iconst hx hb dX11_count_41 zc_i1 ?_
        refine lv_goto (tgt := 46) hx hb dX11_count_42 rfl ?_
        refine lv_aload_n hx hb dX11_count_46 rfl (lv_at hl 0 rfl) ?_
        refine zg_Model_isKept X hW h0 zu_1037 dX11_count_47 ?_
        refine lv_iconst hx hb dX11_count_50 zc_i1 ?_
        obtain ⟨g, h⟩ := h
        refine zzald X hW h0.2.2.2.2.2.2.2.2.2.2.2.2.2.2.2.2.2.2 g dX11_count_51 ?_
        refine lv_if_eq (tgt := 59) hx hb dX11_count_52 rfl (fun c => ?_) (fun c => ?_)
        · replace h := h.1 c
          refine lv_iconst hx hb dX11_count_59 zc_i0 ?_
          refine lv_iadd hx hb dX11_count_60 ?_
          exact zreti X hr hlk hW h dX11_count_61
        · replace h := h.2 c
          refine lv_iconst hx hb dX11_count_55 zc_i1 ?_
          refine lv_goto (tgt := 60) hx hb dX11_count_56 rfl ?_
          refine lv_iadd hx hb dX11_count_60 ?_
          exact zreti X hr hlk hW h dX11_count_61
    replace h := h.2
    by_cases c1 : zx1 = 1
    · replace h := h.1 c1
      refine lv_tableIn (off := 61) (tgt := 62) hx hb dX11_count_1 (by rw [c1]; decide) (by rw [c1]; decide) (by rw [c1]; rfl) rfl ?_
      refine lv_aload_n hx hb dX11_count_62 rfl (lv_at hl 0 rfl) ?_
      refine zg_Model_taped X hW h0 zu_1021 dX11_count_63 ?_
      exact zreti X hr hlk hW h dX11_count_66
    replace h := h.2
    by_cases c2 : zx1 = 2
    · replace h := h.1 c2
      refine lv_tableIn (off := 66) (tgt := 67) hx hb dX11_count_1 (by rw [c2]; decide) (by rw [c2]; decide) (by rw [c2]; rfl) rfl ?_
      refine lv_aload_n hx hb dX11_count_67 rfl (lv_at hl 0 rfl) ?_
      refine zg_Model_lanes X hW h0 zu_1056 dX11_count_68 ?_
      refine lv_iconst hx hb dX11_count_71 zc_i0 ?_
      obtain ⟨g, h⟩ := h
      refine ziald X hW h0.2.2.2.2.2.2.2.2.2.2.2.2.2.2.2.1 g dX11_count_72 ?_
      refine lv_bipush hx hb dX11_count_73 zc_bm4 ?_
      refine lv_icmp_ne (tgt := 83) hx hb dX11_count_75 rfl (fun c => ?_) (fun c => ?_)
      · replace h := h.1 c
        refine lv_aload_n hx hb dX11_count_83 rfl (lv_at hl 0 rfl) ?_
        refine zg_Model_lengths X hW h0 zu_1057 dX11_count_84 ?_
        refine lv_iconst hx hb dX11_count_87 zc_i0 ?_
        obtain ⟨g, h⟩ := h
        refine ziald X hW h0.2.2.2.2.2.2.2.2.2.2.2.2.2.2.2.2.1 g dX11_count_88 ?_
        exact zreti X hr hlk hW h dX11_count_89
      · replace h := h.2 c
        refine lv_bipush hx hb dX11_count_78 zc_bm4 ?_
        refine lv_goto (tgt := 89) hx hb dX11_count_80 rfl ?_
        exact zreti X hr hlk hW h dX11_count_89
    replace h := h.2
    by_cases c3 : zx1 = 3
    · replace h := h.1 c3
      refine lv_tableIn (off := 89) (tgt := 90) hx hb dX11_count_1 (by rw [c3]; decide) (by rw [c3]; decide) (by rw [c3]; rfl) rfl ?_
      refine lv_aload_n hx hb dX11_count_90 rfl (lv_at hl 0 rfl) ?_
      refine zcalli (zrunV (As := []) (rest := []) X hml hl hW h0.1 rfl zk_Model_310 (c_Model_orders h0 h) rfl ⟨Nat.le_of_ble_eq_true rfl, Nat.le_of_ble_eq_true rfl⟩ ⟨Nat.le_refl 0, Nat.le_refl 0⟩ rfl (Nat.le_of_ble_eq_true rfl) dX11_count_91) hW (fun zr3 zm2 H locs h hW => ?_)
      exact zreti X hr hlk hW h dX11_count_94
    replace h := h.2
    replace h := h c0 c1 c2 c3
    refine lv_tableOut (tgt := 95) hx hb dX11_count_1 (zsw 3 (Nat.le_of_ble_eq_true rfl) (fun j hj => ?_)) rfl ?_
    · rcases (show j = 0 ∨ j = 1 ∨ j = 2 ∨ j = 3 by omega) with rfl | rfl | rfl | rfl
      · exact c0
      · exact c1
      · exact c2
      · exact c3
    refine lv_iconst hx hb dX11_count_95 zc_im1 ?_
    exact zreti X hr hlk hW h dX11_count_96
  exact zMain s.heap [] ls hW hl
theorem q_lit (n : Nat) : (OfNat.ofNat n : Int32) = nI n := by cases n <;> rfl
theorem q_add (a b : Nat) : nI a + nI b = nI (a + b) := nI_add a b
theorem q_mul (a b : Nat) : nI a * nI b = nI (a * b) := pk_mul a b
theorem q_sub {a b : Nat} (h : b ≤ a) : nI a - nI b = nI (a - b) := pk_sub h
theorem q_ix {n : Nat} (h : n < 2147483648) : ix (nI n) = n := nI_clamp h
theorem q_in {n N : Nat} (h : n < N) (hN : N < 2147483648) : vp_in (nI n) N = True := eq_true (vp_in_nI h hN)
theorem q_lt {a b : Nat} (ha : a < 2147483648) (hb : b < 2147483648) : (nI a < nI b) = (a < b) := propext (nI_ltI ha hb)
theorem q_le {a b : Nat} (ha : a < 2147483648) (hb : b < 2147483648) : (nI a ≤ nI b) = (a ≤ b) := propext (nI_leI ha hb)
theorem q_eq {a b : Nat} (ha : a < 2147483648) (hb : b < 2147483648) : (nI a = nI b) = (a = b) := propext (nI_eq ha hb)
theorem q_negT {c : Nat} (hc : c < 2147483648) : (-nI c).toInt = -(c : Int) := sb_negT hc
theorem q_nlt {a c : Nat} (h0 : 0 < c) (hc : c < 2147483648) (ha : a < 2147483648) : (nI a < -nI c) = False := eq_false (fun h => by
  have h1 := Int32.lt_iff_toInt_lt.mp h
  rw [nI_toInt ha, q_negT hc] at h1
  omega)
theorem q_nle {a c : Nat} (h0 : 0 < c) (hc : c < 2147483648) (ha : a < 2147483648) : (nI a ≤ -nI c) = False := eq_false (fun h => by
  have h1 := Int32.le_iff_toInt_le.mp h
  rw [nI_toInt ha, q_negT hc] at h1
  omega)
theorem q_ltn {a c : Nat} (h0 : 0 < c) (hc : c < 2147483648) (ha : a < 2147483648) : (-nI c < nI a) = True := eq_true (by
  apply Int32.lt_iff_toInt_lt.mpr
  rw [nI_toInt ha, q_negT hc]
  omega)
theorem q_len {a c : Nat} (h0 : 0 < c) (hc : c < 2147483648) (ha : a < 2147483648) : (-nI c ≤ nI a) = True := eq_true (by
  apply Int32.le_iff_toInt_le.mpr
  rw [nI_toInt ha, q_negT hc]
  omega)
theorem q_neq {a c : Nat} (h0 : 0 < c) (hc : c < 2147483648) (ha : a < 2147483648) : (nI a = -nI c) = False := eq_false (fun h => by
  have h1 := congrArg Int32.toInt h
  rw [nI_toInt ha, q_negT hc] at h1
  omega)
theorem q_eqn {a c : Nat} (h0 : 0 < c) (hc : c < 2147483648) (ha : a < 2147483648) : (-nI c = nI a) = False := eq_false (fun h => by
  have h1 := congrArg Int32.toInt h
  rw [nI_toInt ha, q_negT hc] at h1
  omega)
theorem zup_ne {M : zMem} {k j k' : Nat} {x : Int32} (h : k' ≠ k) : zup M k j x k' = M k' := by simp [zup, zset, h]
theorem zup_eq {M : zMem} {k j : Nat} {x : Int32} : zup M k j x k = upd (M k) j x := by simp [zup, zset]
theorem zset_ne {M : zMem} {k k' : Nat} {f : Nat → Int32} (h : k' ≠ k) : zset M k f k' = M k' := by simp [zset, h]
theorem zset_eq {M : zMem} {k : Nat} {f : Nat → Int32} : zset M k f k = f := by simp [zset]
theorem upd_eq {f : Nat → Int32} {k : Nat} {x : Int32} : upd f k x k = x := pk_us
theorem upd_ne {f : Nat → Int32} {k j : Nat} {x : Int32} (h : j ≠ k) : upd f k x j = f j := pk_un h
theorem upd_upd {f : Nat → Int32} {k : Nat} {x y : Int32} : upd (upd f k x) k y = upd f k y := by funext j; by_cases h : j = k <;> simp [upd, h]
theorem zup_zup {M : zMem} {k j : Nat} {x y : Int32} : zup (zup M k j x) k j y = zup M k j y := by
  funext a
  by_cases h : a = k
  · subst h
    rw [zup_eq, zup_eq, zup_eq, upd_upd]
  · rw [zup_ne h, zup_ne h, zup_ne h]
