def wpJ_Model_takesOver_180 (a1 : Int32) (a2 : Int32)  (Q : Int32 → zMem → Prop) (x_3 : Int32)  (M : zMem) : Prop :=
  wp_Model_more a1 2 1 M (fun zm21 => wp_Model_goesBack a1 (a2 - 1) x_3 zm21 (fun zm23 => Q 1 zm23))
def wp_Model_takesOver (a1 : Int32) (a2 : Int32) (M : zMem) (Q : Int32 → zMem → Prop) : Prop :=
  wp_Model_at a1 (a2 - 1) 0 M (fun zr2 zm1 => (¬ zr2 = 2 → Q 0 zm1) ∧ (zr2 = 2 → wp_Model_canBeLeft a1 (a2 - 1) zm1 (fun zr4 zm3 => (¬ zr4 = 0 → wp_Model_at a1 (a2 - 1) 2 zm3 (fun zr6 zm5 => wp_Model_put a1 a2 0 2 zm5 (fun zm7 => wp_Model_put a1 a2 2 zr6 zm7 (fun zm9 => wp_Model_at a1 (a2 - 1) 3 zm9 (fun zr12 zm11 => wp_Model_put a1 a2 3 zr12 zm11 (fun zm13 => wp_Model_at a1 (a2 - 1) 4 zm13 (fun zr16 zm15 => wp_Model_put a1 a2 4 zr16 zm15 (fun zm17 => wp_Model_of a1 2 zm17 (fun zr20 zm19 => (¬ a1 = 1 → wpJ_Model_takesOver_180 a1 a2 Q zr6 zm19) ∧ (a1 = 1 → (600 ≤ zr20 → wpJ_Model_takesOver_180 a1 a2 Q zr6 zm19) ∧ (¬ 600 ≤ zr20 → wp_Model_of a1 0 zm19 (fun zr26 zm25 => vp_in (5 * zr20) 3000 ∧ ∀ zm27 : zMem, zm27 = zup zm25 10 (ix (5 * zr20)) zr26 → vp_in ((5 * zr20) + 1) 3000 ∧ ∀ zm28 : zMem, zm28 = zup zm27 10 (ix ((5 * zr20) + 1)) a2 → vp_in ((5 * zr20) + 2) 3000 ∧ ∀ zm29 : zMem, zm29 = zup zm28 10 (ix ((5 * zr20) + 2)) zr6 → wp_Model_at a1 a2 3 zm29 (fun zr31 zm30 => vp_in ((5 * zr20) + 3) 3000 ∧ ∀ zm32 : zMem, zm32 = zup zm30 10 (ix ((5 * zr20) + 3)) zr31 → wp_Model_at a1 a2 4 zm32 (fun zr34 zm33 => vp_in ((5 * zr20) + 4) 3000 ∧ ∀ zm35 : zMem, zm35 = zup zm33 10 (ix ((5 * zr20) + 4)) zr34 → wpJ_Model_takesOver_180 a1 a2 Q zr6 zm35)))))))))))))) ∧ (zr4 = 0 → Q 0 zm3))))
set_option maxHeartbeats 4000000 in
set_option maxRecDepth 20000 in
theorem c_Model_takesOver {l : Launch} {w : zWd} {a1 : Int32} {a2 : Int32} {M : zMem} {post : Int32 → zMem → Prop} (h0 : zI_Model w) (h : wp_Model_takesOver a1 a2 M post) : zMi l ⟨"HandToHandModel", "takesOver", "(II)Z"⟩ prog_13_method_42_code 5 (Option.some .boolean) 4 95 w [.ref (zad w 0), .int a1, .int a2] M post := by
  refine zMet (by decide) (Nat.le_of_ble_eq_true rfl) ?_
  intro p e s m below meth c X hr hlk hml hW ls hl
  have hx := X.1
  have hb := X.2.1
  have hl : lv_has ls 5 [(0, .ref (zad w 0)), (1, .int a1), (2, .int a2)] := hl
  have zJ_180 : ∀ (x_3 : Int32) (M : zMem) (H : Heap) (locs : List Loc) (ls : Array Slot), zWo w s.heap M H locs → lv_has ls 5 [(0, .ref (zad w 0)), (1, .int a1), (2, .int a2), (3, .int x_3)] → wpJ_Model_takesOver_180 a1 a2 post x_3 M → W p l e (zRm 4 95) s m ([.ref (zad w 0), .int a1, .int a2] : List Value).toArray below meth c H locs 0 0 (MQ below (va_Qi post (zB w) (zA w)) ([.ref (zad w 0), .int a1, .int a2] : List Value).toArray s 0 0 (zA w)) (F0 m 180 ls []) := by
    intro x_3 M H locs ls hW hl h
    unfold wpJ_Model_takesOver_180 at h
    refine lv_aload_n hx hb dX11_takesOver_180 rfl (lv_at hl 0 rfl) ?_
    refine lv_iload_n hx hb dX11_takesOver_181 rfl (lv_at hl 1 rfl) ?_
    refine lv_iconst hx hb dX11_takesOver_182 zc_i2 ?_
    refine lv_iconst hx hb dX11_takesOver_183 zc_i1 ?_
    refine zcallv (zrunV (As := [.int a1, .int 2, .int 1]) (rest := []) X hml hl hW h0.1 rfl zk_Model_207 (c_Model_more h0 h) rfl ⟨Nat.le_of_ble_eq_true rfl, Nat.le_of_ble_eq_true rfl⟩ ⟨Nat.le_refl 0, Nat.le_refl 0⟩ rfl (Nat.le_of_ble_eq_true rfl) dX11_takesOver_184) hW (fun zm21 H locs h hW => ?_)
    refine lv_aload_n hx hb dX11_takesOver_187 rfl (lv_at hl 0 rfl) ?_
    refine lv_iload_n hx hb dX11_takesOver_188 rfl (lv_at hl 1 rfl) ?_
    refine lv_iload_n hx hb dX11_takesOver_189 rfl (lv_at hl 2 rfl) ?_
    refine lv_iconst hx hb dX11_takesOver_190 zc_i1 ?_
    refine lv_isub hx hb dX11_takesOver_191 ?_
    refine lv_iload_n hx hb dX11_takesOver_192 rfl (lv_at hl 3 rfl) ?_
    refine zcallv (zrunV (As := [.int a1, .int (a2 - 1), .int x_3]) (rest := []) X hml hl hW h0.1 rfl zk_Model_211 (c_Model_goesBack h0 h) rfl ⟨Nat.le_of_ble_eq_true rfl, Nat.le_of_ble_eq_true rfl⟩ ⟨Nat.le_refl 0, Nat.le_refl 0⟩ rfl (Nat.le_of_ble_eq_true rfl) dX11_takesOver_193) hW (fun zm23 H locs h hW => ?_)
    refine lv_iconst hx hb dX11_takesOver_196 zc_i1 ?_
    exact zretz X hr hlk hW rfl h dX11_takesOver_197
  unfold wp_Model_takesOver at h
  have zMain : ∀ (H : Heap) (locs : List Loc) (ls : Array Slot), zWo w s.heap M H locs → lv_has ls 5 [(0, .ref (zad w 0)), (1, .int a1), (2, .int a2)] → W p l e (zRm 4 95) s m ([.ref (zad w 0), .int a1, .int a2] : List Value).toArray below meth c H locs 0 0 (MQ below (va_Qi post (zB w) (zA w)) ([.ref (zad w 0), .int a1, .int a2] : List Value).toArray s 0 0 (zA w)) (F0 m 0 ls []) := by
    intro H locs ls hW hl
    refine lv_aload_n hx hb dX11_takesOver_0 rfl (lv_at hl 0 rfl) ?_
    refine lv_iload_n hx hb dX11_takesOver_1 rfl (lv_at hl 1 rfl) ?_
    refine lv_iload_n hx hb dX11_takesOver_2 rfl (lv_at hl 2 rfl) ?_
    refine lv_iconst hx hb dX11_takesOver_3 zc_i1 ?_
    refine lv_isub hx hb dX11_takesOver_4 ?_
    refine lv_iconst hx hb dX11_takesOver_5 zc_i0 ?_
    refine zcalli (zrunV (As := [.int a1, .int (a2 - 1), .int 0]) (rest := []) X hml hl hW h0.1 rfl zk_Model_195 (c_Model_at h0 h) rfl ⟨Nat.le_of_ble_eq_true rfl, Nat.le_of_ble_eq_true rfl⟩ ⟨Nat.le_refl 0, Nat.le_refl 0⟩ rfl (Nat.le_of_ble_eq_true rfl) dX11_takesOver_6) hW (fun zr2 zm1 H locs h hW => ?_)
    refine lv_iconst hx hb dX11_takesOver_9 zc_i2 ?_
    refine lv_icmp_ne (tgt := 24) hx hb dX11_takesOver_10 rfl (fun c => ?_) (fun c => ?_)
    · replace h := h.1 c
      refine lv_iconst hx hb dX11_takesOver_24 zc_i0 ?_
      exact zretz X hr hlk hW rfl h dX11_takesOver_25
    · replace h := h.2 c
      refine lv_aload_n hx hb dX11_takesOver_13 rfl (lv_at hl 0 rfl) ?_
      refine lv_iload_n hx hb dX11_takesOver_14 rfl (lv_at hl 1 rfl) ?_
      refine lv_iload_n hx hb dX11_takesOver_15 rfl (lv_at hl 2 rfl) ?_
      refine lv_iconst hx hb dX11_takesOver_16 zc_i1 ?_
      refine lv_isub hx hb dX11_takesOver_17 ?_
      refine zcalli (zrunV (As := [.int a1, .int (a2 - 1)]) (rest := []) X hml hl hW h0.1 rfl zk_Model_214 (c_Model_canBeLeft h0 h) rfl ⟨Nat.le_of_ble_eq_true rfl, Nat.le_of_ble_eq_true rfl⟩ ⟨Nat.le_refl 0, Nat.le_refl 0⟩ rfl (Nat.le_of_ble_eq_true rfl) dX11_takesOver_18) hW (fun zr4 zm3 H locs h hW => ?_)
      refine lv_if_ne (tgt := 26) hx hb dX11_takesOver_21 rfl (fun c => ?_) (fun c => ?_)
      · replace h := h.1 c
        refine lv_aload_n hx hb dX11_takesOver_26 rfl (lv_at hl 0 rfl) ?_
        refine lv_iload_n hx hb dX11_takesOver_27 rfl (lv_at hl 1 rfl) ?_
        refine lv_iload_n hx hb dX11_takesOver_28 rfl (lv_at hl 2 rfl) ?_
        refine lv_iconst hx hb dX11_takesOver_29 zc_i1 ?_
        refine lv_isub hx hb dX11_takesOver_30 ?_
        refine lv_iconst hx hb dX11_takesOver_31 zc_i2 ?_
        refine zcalli (zrunV (As := [.int a1, .int (a2 - 1), .int 2]) (rest := []) X hml hl hW h0.1 rfl zk_Model_195 (c_Model_at h0 h) rfl ⟨Nat.le_of_ble_eq_true rfl, Nat.le_of_ble_eq_true rfl⟩ ⟨Nat.le_refl 0, Nat.le_refl 0⟩ rfl (Nat.le_of_ble_eq_true rfl) dX11_takesOver_32) hW (fun zr6 zm5 H locs h hW => ?_)
        refine lv_istore_n (lv' := [(3, .int zr6), (0, .ref (zad w 0)), (1, .int a1), (2, .int a2)]) hx hb dX11_takesOver_35 rfl hl (Nat.le_of_ble_eq_true rfl) rfl (fun ls hl => ?_)
        refine lv_aload_n hx hb dX11_takesOver_36 rfl (lv_at hl 1 rfl) ?_
        refine lv_iload_n hx hb dX11_takesOver_37 rfl (lv_at hl 2 rfl) ?_
        refine lv_iload_n hx hb dX11_takesOver_38 rfl (lv_at hl 3 rfl) ?_
        refine lv_iconst hx hb dX11_takesOver_39 zc_i0 ?_
        refine lv_iconst hx hb dX11_takesOver_40 zc_i2 ?_
        refine zcallv (zrunV (As := [.int a1, .int a2, .int 0, .int 2]) (rest := []) X hml hl hW h0.1 rfl zk_Model_201 (c_Model_put h0 h) rfl ⟨Nat.le_of_ble_eq_true rfl, Nat.le_of_ble_eq_true rfl⟩ ⟨Nat.le_refl 0, Nat.le_refl 0⟩ rfl (Nat.le_of_ble_eq_true rfl) dX11_takesOver_41) hW (fun zm7 H locs h hW => ?_)
        refine lv_aload_n hx hb dX11_takesOver_44 rfl (lv_at hl 1 rfl) ?_
        refine lv_iload_n hx hb dX11_takesOver_45 rfl (lv_at hl 2 rfl) ?_
        refine lv_iload_n hx hb dX11_takesOver_46 rfl (lv_at hl 3 rfl) ?_
        refine lv_iconst hx hb dX11_takesOver_47 zc_i2 ?_
        refine lv_iload_n hx hb dX11_takesOver_48 rfl (lv_at hl 0 rfl) ?_
        refine zcallv (zrunV (As := [.int a1, .int a2, .int 2, .int zr6]) (rest := []) X hml hl hW h0.1 rfl zk_Model_201 (c_Model_put h0 h) rfl ⟨Nat.le_of_ble_eq_true rfl, Nat.le_of_ble_eq_true rfl⟩ ⟨Nat.le_refl 0, Nat.le_refl 0⟩ rfl (Nat.le_of_ble_eq_true rfl) dX11_takesOver_49) hW (fun zm9 H locs h hW => ?_)
        refine lv_aload_n hx hb dX11_takesOver_52 rfl (lv_at hl 1 rfl) ?_
        refine lv_iload_n hx hb dX11_takesOver_53 rfl (lv_at hl 2 rfl) ?_
        refine lv_iload_n hx hb dX11_takesOver_54 rfl (lv_at hl 3 rfl) ?_
        refine lv_iconst hx hb dX11_takesOver_55 zc_i3 ?_
        refine lv_aload_n hx hb dX11_takesOver_56 rfl (lv_at hl 1 rfl) ?_
        refine lv_iload_n hx hb dX11_takesOver_57 rfl (lv_at hl 2 rfl) ?_
        refine lv_iload_n hx hb dX11_takesOver_58 rfl (lv_at hl 3 rfl) ?_
        refine lv_iconst hx hb dX11_takesOver_59 zc_i1 ?_
        refine lv_isub hx hb dX11_takesOver_60 ?_
        refine lv_iconst hx hb dX11_takesOver_61 zc_i3 ?_
        refine zcalli (zrunV (As := [.int a1, .int (a2 - 1), .int 3]) (rest := [.int 3, .int a2, .int a1, .ref (zad w 0)]) X hml hl hW h0.1 rfl zk_Model_195 (c_Model_at h0 h) rfl ⟨Nat.le_of_ble_eq_true rfl, Nat.le_of_ble_eq_true rfl⟩ ⟨Nat.le_refl 0, Nat.le_refl 0⟩ rfl (Nat.le_of_ble_eq_true rfl) dX11_takesOver_62) hW (fun zr12 zm11 H locs h hW => ?_)
        refine zcallv (zrunV (As := [.int a1, .int a2, .int 3, .int zr12]) (rest := []) X hml hl hW h0.1 rfl zk_Model_201 (c_Model_put h0 h) rfl ⟨Nat.le_of_ble_eq_true rfl, Nat.le_of_ble_eq_true rfl⟩ ⟨Nat.le_refl 0, Nat.le_refl 0⟩ rfl (Nat.le_of_ble_eq_true rfl) dX11_takesOver_65) hW (fun zm13 H locs h hW => ?_)
        refine lv_aload_n hx hb dX11_takesOver_68 rfl (lv_at hl 1 rfl) ?_
        refine lv_iload_n hx hb dX11_takesOver_69 rfl (lv_at hl 2 rfl) ?_
        refine lv_iload_n hx hb dX11_takesOver_70 rfl (lv_at hl 3 rfl) ?_
        refine lv_iconst hx hb dX11_takesOver_71 zc_i4 ?_
        refine lv_aload_n hx hb dX11_takesOver_72 rfl (lv_at hl 1 rfl) ?_
        refine lv_iload_n hx hb dX11_takesOver_73 rfl (lv_at hl 2 rfl) ?_
        refine lv_iload_n hx hb dX11_takesOver_74 rfl (lv_at hl 3 rfl) ?_
        refine lv_iconst hx hb dX11_takesOver_75 zc_i1 ?_
        refine lv_isub hx hb dX11_takesOver_76 ?_
        refine lv_iconst hx hb dX11_takesOver_77 zc_i4 ?_
        refine zcalli (zrunV (As := [.int a1, .int (a2 - 1), .int 4]) (rest := [.int 4, .int a2, .int a1, .ref (zad w 0)]) X hml hl hW h0.1 rfl zk_Model_195 (c_Model_at h0 h) rfl ⟨Nat.le_of_ble_eq_true rfl, Nat.le_of_ble_eq_true rfl⟩ ⟨Nat.le_refl 0, Nat.le_refl 0⟩ rfl (Nat.le_of_ble_eq_true rfl) dX11_takesOver_78) hW (fun zr16 zm15 H locs h hW => ?_)
        refine zcallv (zrunV (As := [.int a1, .int a2, .int 4, .int zr16]) (rest := []) X hml hl hW h0.1 rfl zk_Model_201 (c_Model_put h0 h) rfl ⟨Nat.le_of_ble_eq_true rfl, Nat.le_of_ble_eq_true rfl⟩ ⟨Nat.le_refl 0, Nat.le_refl 0⟩ rfl (Nat.le_of_ble_eq_true rfl) dX11_takesOver_81) hW (fun zm17 H locs h hW => ?_)
        refine lv_aload_n hx hb dX11_takesOver_84 rfl (lv_at hl 1 rfl) ?_
        refine lv_iload_n hx hb dX11_takesOver_85 rfl (lv_at hl 2 rfl) ?_
        refine lv_iconst hx hb dX11_takesOver_86 zc_i2 ?_
        refine zcalli (zrunV (As := [.int a1, .int 2]) (rest := []) X hml hl hW h0.1 rfl zk_Model_218 (c_Model_of h0 h) rfl ⟨Nat.le_of_ble_eq_true rfl, Nat.le_of_ble_eq_true rfl⟩ ⟨Nat.le_refl 0, Nat.le_refl 0⟩ rfl (Nat.le_of_ble_eq_true rfl) dX11_takesOver_87) hW (fun zr20 zm19 H locs h hW => ?_)
        refine lv_istore (lv' := [(4, .int zr20), (3, .int zr6), (0, .ref (zad w 0)), (1, .int a1), (2, .int a2)]) hx hb dX11_takesOver_90 hl (Nat.le_of_ble_eq_true rfl) rfl (fun ls hl => ?_)
        refine lv_iload_n hx hb dX11_takesOver_92 rfl (lv_at hl 3 rfl) ?_
        refine lv_iconst hx hb dX11_takesOver_93 zc_i1 ?_
        refine lv_icmp_ne (tgt := 180) hx hb dX11_takesOver_94 rfl (fun c => ?_) (fun c => ?_)
        · replace h := h.1 c
          exact zJ_180 zr6 zm19 H locs ls hW (lv_sub hl [2, 3, 4, 1] rfl) h
        · replace h := h.2 c
          refine lv_iload hx hb dX11_takesOver_97 (lv_at hl 0 rfl) ?_
          refine lv_sipush hx hb dX11_takesOver_99 zc_s600 ?_
          refine lv_icmp_ge (tgt := 180) hx hb dX11_takesOver_102 rfl (fun c => ?_) (fun c => ?_)
          · replace h := h.1 c
            exact zJ_180 zr6 zm19 H locs ls hW (lv_sub hl [2, 3, 4, 1] rfl) h
          · replace h := h.2 c
            refine lv_aload_n hx hb dX11_takesOver_105 rfl (lv_at hl 2 rfl) ?_
            refine zg_Model_overs X hW h0 zu_1042 dX11_takesOver_106 ?_
            refine lv_iconst hx hb dX11_takesOver_109 zc_i5 ?_
            refine lv_iload hx hb dX11_takesOver_110 (lv_at hl 0 rfl) ?_
            refine lv_imul hx hb dX11_takesOver_112 ?_
            refine lv_aload_n hx hb dX11_takesOver_113 rfl (lv_at hl 2 rfl) ?_
            refine lv_iload_n hx hb dX11_takesOver_114 rfl (lv_at hl 3 rfl) ?_
            refine lv_iconst hx hb dX11_takesOver_115 zc_i0 ?_
            refine zcalli (zrunV (As := [.int a1, .int 0]) (rest := [.int (5 * zr20), .ref (zad w 10)]) X hml hl hW h0.1 rfl zk_Model_218 (c_Model_of h0 h) rfl ⟨Nat.le_of_ble_eq_true rfl, Nat.le_of_ble_eq_true rfl⟩ ⟨Nat.le_refl 0, Nat.le_refl 0⟩ rfl (Nat.le_of_ble_eq_true rfl) dX11_takesOver_116) hW (fun zr26 zm25 H locs h hW => ?_)
            obtain ⟨g, h⟩ := h
            refine ziast X hW h0.2.2.2.2.2.2.2.2.2.1 g dX11_takesOver_119 (fun H locs zm27 ezm27 hW => ?_)
            replace h := h zm27 ezm27
            refine lv_aload_n hx hb dX11_takesOver_120 rfl (lv_at hl 2 rfl) ?_
            refine zg_Model_overs X hW h0 zu_1042 dX11_takesOver_121 ?_
            refine lv_iconst hx hb dX11_takesOver_124 zc_i5 ?_
            refine lv_iload hx hb dX11_takesOver_125 (lv_at hl 0 rfl) ?_
            refine lv_imul hx hb dX11_takesOver_127 ?_
            refine lv_iconst hx hb dX11_takesOver_128 zc_i1 ?_
            refine lv_iadd hx hb dX11_takesOver_129 ?_
            refine lv_iload_n hx hb dX11_takesOver_130 rfl (lv_at hl 4 rfl) ?_
            obtain ⟨g, h⟩ := h
            refine ziast X hW h0.2.2.2.2.2.2.2.2.2.1 g dX11_takesOver_131 (fun H locs zm28 ezm28 hW => ?_)
            replace h := h zm28 ezm28
            refine lv_aload_n hx hb dX11_takesOver_132 rfl (lv_at hl 2 rfl) ?_
            refine zg_Model_overs X hW h0 zu_1042 dX11_takesOver_133 ?_
            refine lv_iconst hx hb dX11_takesOver_136 zc_i5 ?_
            refine lv_iload hx hb dX11_takesOver_137 (lv_at hl 0 rfl) ?_
            refine lv_imul hx hb dX11_takesOver_139 ?_
            refine lv_iconst hx hb dX11_takesOver_140 zc_i2 ?_
            refine lv_iadd hx hb dX11_takesOver_141 ?_
            refine lv_iload_n hx hb dX11_takesOver_142 rfl (lv_at hl 1 rfl) ?_
            obtain ⟨g, h⟩ := h
            refine ziast X hW h0.2.2.2.2.2.2.2.2.2.1 g dX11_takesOver_143 (fun H locs zm29 ezm29 hW => ?_)
            replace h := h zm29 ezm29
            refine lv_aload_n hx hb dX11_takesOver_144 rfl (lv_at hl 2 rfl) ?_
            refine zg_Model_overs X hW h0 zu_1042 dX11_takesOver_145 ?_
            refine lv_iconst hx hb dX11_takesOver_148 zc_i5 ?_
            refine lv_iload hx hb dX11_takesOver_149 (lv_at hl 0 rfl) ?_
            refine lv_imul hx hb dX11_takesOver_151 ?_
            refine lv_iconst hx hb dX11_takesOver_152 zc_i3 ?_
            refine lv_iadd hx hb dX11_takesOver_153 ?_
            refine lv_aload_n hx hb dX11_takesOver_154 rfl (lv_at hl 2 rfl) ?_
            refine lv_iload_n hx hb dX11_takesOver_155 rfl (lv_at hl 3 rfl) ?_
            refine lv_iload_n hx hb dX11_takesOver_156 rfl (lv_at hl 4 rfl) ?_
            refine lv_iconst hx hb dX11_takesOver_157 zc_i3 ?_
            refine zcalli (zrunV (As := [.int a1, .int a2, .int 3]) (rest := [.int ((5 * zr20) + 3), .ref (zad w 10)]) X hml hl hW h0.1 rfl zk_Model_195 (c_Model_at h0 h) rfl ⟨Nat.le_of_ble_eq_true rfl, Nat.le_of_ble_eq_true rfl⟩ ⟨Nat.le_refl 0, Nat.le_refl 0⟩ rfl (Nat.le_of_ble_eq_true rfl) dX11_takesOver_158) hW (fun zr31 zm30 H locs h hW => ?_)
            obtain ⟨g, h⟩ := h
            refine ziast X hW h0.2.2.2.2.2.2.2.2.2.1 g dX11_takesOver_161 (fun H locs zm32 ezm32 hW => ?_)
            replace h := h zm32 ezm32
            refine lv_aload_n hx hb dX11_takesOver_162 rfl (lv_at hl 2 rfl) ?_
            refine zg_Model_overs X hW h0 zu_1042 dX11_takesOver_163 ?_
            refine lv_iconst hx hb dX11_takesOver_166 zc_i5 ?_
            refine lv_iload hx hb dX11_takesOver_167 (lv_at hl 0 rfl) ?_
            refine lv_imul hx hb dX11_takesOver_169 ?_
            refine lv_iconst hx hb dX11_takesOver_170 zc_i4 ?_
            refine lv_iadd hx hb dX11_takesOver_171 ?_
            refine lv_aload_n hx hb dX11_takesOver_172 rfl (lv_at hl 2 rfl) ?_
            refine lv_iload_n hx hb dX11_takesOver_173 rfl (lv_at hl 3 rfl) ?_
            refine lv_iload_n hx hb dX11_takesOver_174 rfl (lv_at hl 4 rfl) ?_
            refine lv_iconst hx hb dX11_takesOver_175 zc_i4 ?_
            refine zcalli (zrunV (As := [.int a1, .int a2, .int 4]) (rest := [.int ((5 * zr20) + 4), .ref (zad w 10)]) X hml hl hW h0.1 rfl zk_Model_195 (c_Model_at h0 h) rfl ⟨Nat.le_of_ble_eq_true rfl, Nat.le_of_ble_eq_true rfl⟩ ⟨Nat.le_refl 0, Nat.le_refl 0⟩ rfl (Nat.le_of_ble_eq_true rfl) dX11_takesOver_176) hW (fun zr34 zm33 H locs h hW => ?_)
            obtain ⟨g, h⟩ := h
            refine ziast X hW h0.2.2.2.2.2.2.2.2.2.1 g dX11_takesOver_179 (fun H locs zm35 ezm35 hW => ?_)
            replace h := h zm35 ezm35
            exact zJ_180 zr6 zm35 H locs ls hW (lv_sub hl [2, 3, 4, 1] rfl) h
      · replace h := h.2 c
        refine lv_iconst hx hb dX11_takesOver_24 zc_i0 ?_
        exact zretz X hr hlk hW rfl h dX11_takesOver_25
  exact zMain s.heap [] ls hW hl
def wpB_Model_pieceFrom_2 (a1 : Int32) (a2 : Int32)   (Q : Int32 → zMem → Prop) (J : Int32 → zMem → Prop) (x_3 : Int32) (M : zMem) : Prop :=
  vp_in 0 100 ∧ ((M 4 (ix 0)) ≤ x_3 → Q ((-4)) M) ∧ (¬ (M 4 (ix 0)) ≤ x_3 → vp_in ((30 + (8 * a1)) + x_3) 100 ∧ ((M 4 (ix ((30 + (8 * a1)) + x_3))) ≤ 0 → ∀ zx1 : Int32, zx1 = x_3 + 1 → J zx1 M) ∧ (¬ (M 4 (ix ((30 + (8 * a1)) + x_3))) ≤ 0 → Q x_3 M))
def wp_Model_pieceFrom (a1 : Int32) (a2 : Int32) (M : zMem) (Q : Int32 → zMem → Prop) : Prop :=
  ∃ n : Nat, zlp1 (wpB_Model_pieceFrom_2 a1 a2   Q) n a2 M
set_option maxHeartbeats 4000000 in
set_option maxRecDepth 20000 in
theorem c_Model_pieceFrom {l : Launch} {w : zWd} {a1 : Int32} {a2 : Int32} {M : zMem} {post : Int32 → zMem → Prop} (h0 : zI_Model w) (h : wp_Model_pieceFrom a1 a2 M post) : zMi l ⟨"HandToHandModel", "pieceFrom", "(II)I"⟩ prog_13_method_39_code 4 (Option.some .int) 0 0 w [.ref (zad w 0), .int a1, .int a2] M post := by
  refine zMet (by decide) (Nat.le_of_ble_eq_true rfl) ?_
  intro p e s m below meth c X hr hlk hml hW ls hl
  have hx := X.1
  have hb := X.2.1
  have hl : lv_has ls 4 [(0, .ref (zad w 0)), (1, .int a1), (2, .int a2)] := hl
  have zL_2 :  ∀ (n : Nat) (x_3 : Int32) (M : zMem) (H : Heap) (locs : List Loc) (ls : Array Slot), zWo w s.heap M H locs → lv_has ls 4 [(0, .ref (zad w 0)), (1, .int a1), (3, .int x_3)] → zlp1 (wpB_Model_pieceFrom_2 a1 a2   post) n x_3 M → W p l e (zRm 0 0) s m ([.ref (zad w 0), .int a1, .int a2] : List Value).toArray below meth c H locs 0 0 (MQ below (va_Qi post (zB w) (zA w)) ([.ref (zad w 0), .int a1, .int a2] : List Value).toArray s 0 0 (zA w)) (F0 m 2 ls []) := by
    intro n
    induction n with
    | zero => intro x_3 M H locs ls hW hl h; exact h.elim
    | succ n zJ =>
      intro x_3 M H locs ls hW hl h
      have h : wpB_Model_pieceFrom_2 a1 a2   post (zlp1 (wpB_Model_pieceFrom_2 a1 a2   post) n) x_3 M := h
      unfold wpB_Model_pieceFrom_2 at h
      refine lv_iload_n hx hb dX11_pieceFrom_2 rfl (lv_at hl 2 rfl) ?_
      refine lv_aload_n hx hb dX11_pieceFrom_3 rfl (lv_at hl 0 rfl) ?_
      refine zg_Model_holds X hW h0 zu_1031 dX11_pieceFrom_4 ?_
      refine lv_iconst hx hb dX11_pieceFrom_7 zc_i0 ?_
      obtain ⟨g, h⟩ := h
      refine ziald X hW h0.2.2.2.2.1 g dX11_pieceFrom_8 ?_
      refine lv_icmp_ge (tgt := 37) hx hb dX11_pieceFrom_9 rfl (fun c => ?_) (fun c => ?_)
      · replace h := h.1 c
        refine lv_bipush hx hb dX11_pieceFrom_37 zc_bm4 ?_
        exact zreti X hr hlk hW h dX11_pieceFrom_39
      · replace h := h.2 c
        refine lv_aload_n hx hb dX11_pieceFrom_12 rfl (lv_at hl 0 rfl) ?_
        refine zg_Model_holds X hW h0 zu_1031 dX11_pieceFrom_13 ?_
        refine lv_bipush hx hb dX11_pieceFrom_16 zc_b30 ?_
        refine lv_bipush hx hb dX11_pieceFrom_18 zc_b8 ?_
        refine lv_iload_n hx hb dX11_pieceFrom_20 rfl (lv_at hl 1 rfl) ?_
        refine lv_imul hx hb dX11_pieceFrom_21 ?_
        refine lv_iadd hx hb dX11_pieceFrom_22 ?_
        refine lv_iload_n hx hb dX11_pieceFrom_23 rfl (lv_at hl 2 rfl) ?_
        refine lv_iadd hx hb dX11_pieceFrom_24 ?_
        obtain ⟨g, h⟩ := h
        refine ziald X hW h0.2.2.2.2.1 g dX11_pieceFrom_25 ?_
        refine lv_if_le (tgt := 31) hx hb dX11_pieceFrom_26 rfl (fun c => ?_) (fun c => ?_)
        · replace h := h.1 c
          obtain ⟨zx1, ezx1⟩ : ∃ y : Int32, y = x_3 + 1 := ⟨_, rfl⟩
          replace h := h zx1 ezx1
          refine lv_iinc (v := zx1) (lv' := [(3, .int zx1), (0, .ref (zad w 0)), (1, .int a1)]) hx hb dX11_pieceFrom_31 hl (k := 2) rfl (by rw [ezx1, zc_i1]) (Nat.le_of_ble_eq_true rfl) rfl (fun ls hl => ?_)
          refine lv_goto (tgt := 2) hx hb dX11_pieceFrom_34 rfl ?_
          exact zJ zx1 M H locs ls hW (lv_sub hl [1, 2, 0] rfl) h
        · replace h := h.2 c
          refine lv_iload_n hx hb dX11_pieceFrom_29 rfl (lv_at hl 2 rfl) ?_
          exact zreti X hr hlk hW h dX11_pieceFrom_30
  unfold wp_Model_pieceFrom at h
  have zMain : ∀ (H : Heap) (locs : List Loc) (ls : Array Slot), zWo w s.heap M H locs → lv_has ls 4 [(0, .ref (zad w 0)), (1, .int a1), (2, .int a2)] → W p l e (zRm 0 0) s m ([.ref (zad w 0), .int a1, .int a2] : List Value).toArray below meth c H locs 0 0 (MQ below (va_Qi post (zB w) (zA w)) ([.ref (zad w 0), .int a1, .int a2] : List Value).toArray s 0 0 (zA w)) (F0 m 0 ls []) := by
    intro H locs ls hW hl
    refine lv_iload_n hx hb dX11_pieceFrom_0 rfl (lv_at hl 2 rfl) ?_
    refine lv_istore_n (lv' := [(3, .int a2), (0, .ref (zad w 0)), (1, .int a1), (2, .int a2)]) hx hb dX11_pieceFrom_1 rfl hl (Nat.le_of_ble_eq_true rfl) rfl (fun ls hl => ?_)
    obtain ⟨n, h⟩ := h
    refine zL_2   n a2 M H locs ls hW (lv_sub hl [1, 2, 0] rfl) h
  exact zMain s.heap [] ls hW hl
def wp_Model_endsUnit (a1 : Int32) (a2 : Int32) (M : zMem) (Q : zMem → Prop) : Prop :=
  wp_Model_at a1 a2 2 M (fun zr2 zm1 => wp_Model_at a1 a2 4 zm1 (fun zr4 zm3 => vp_in a2 5 ∧ wp_Model_learntAt a1 (zm3 8 (ix a2)) zr2 zm3 (fun zr6 zm5 => vp_in zr6 384 ∧ vp_in zr6 384 ∧ ∀ zm7 : zMem, zm7 = zup zm5 6 (ix zr6) ((zm5 6 (ix zr6)) + 1) → wp_Model_at a1 a2 3 zm7 (fun zr9 zm8 => wp_Model_put a1 a2 3 (zr9 + 1) zm8 (fun zm10 => wp_Model_put a1 a2 0 2 zm10 (fun zm12 => wp_Model_at a1 a2 3 zm12 (fun zr15 zm14 => vp_in ((30 + (8 * zr4)) + zr2) 100 ∧ (¬ zr15 = (zm14 4 (ix ((30 + (8 * zr4)) + zr2))) → Q zm14) ∧ (zr15 = (zm14 4 (ix ((30 + (8 * zr4)) + zr2))) → wp_Model_pieceFrom zr4 (zr2 + 1) zm14 (fun zr17 zm16 => (¬ zr17 = (-4) → wp_Model_put a1 a2 2 zr17 zm16 (fun zm18 => wp_Model_put a1 a2 3 0 zm18 (fun zm20 => Q zm20))) ∧ (zr17 = (-4) → wp_Model_more a1 1 1 zm16 (fun zm22 => vp_in 0 100 ∧ wp_Model_goesBack a1 a2 (zm22 4 (ix 0)) zm22 (fun zm24 => Q zm24))))))))))))
set_option maxHeartbeats 4000000 in
set_option maxRecDepth 20000 in
theorem c_Model_endsUnit {l : Launch} {w : zWd} {a1 : Int32} {a2 : Int32} {M : zMem} {post : zMem → Prop} (h0 : zI_Model w) (h : wp_Model_endsUnit a1 a2 M post) : zMv l ⟨"HandToHandModel", "endsUnit", "(II)V"⟩ prog_13_method_40_code 6 none 4 95 w [.ref (zad w 0), .int a1, .int a2] M post := by
  refine zMet (by decide) (Nat.le_of_ble_eq_true rfl) ?_
  intro p e s m below meth c X hr hlk hml hW ls hl
  have hx := X.1
  have hb := X.2.1
  have hl : lv_has ls 6 [(0, .ref (zad w 0)), (1, .int a1), (2, .int a2)] := hl
  unfold wp_Model_endsUnit at h
  have zMain : ∀ (H : Heap) (locs : List Loc) (ls : Array Slot), zWo w s.heap M H locs → lv_has ls 6 [(0, .ref (zad w 0)), (1, .int a1), (2, .int a2)] → W p l e (zRm 4 95) s m ([.ref (zad w 0), .int a1, .int a2] : List Value).toArray below meth c H locs 0 0 (MQ below (va_Qv post (zB w) (zA w)) ([.ref (zad w 0), .int a1, .int a2] : List Value).toArray s 0 0 (zA w)) (F0 m 0 ls []) := by
    intro H locs ls hW hl
    refine lv_aload_n hx hb dX11_endsUnit_0 rfl (lv_at hl 0 rfl) ?_
    refine lv_iload_n hx hb dX11_endsUnit_1 rfl (lv_at hl 1 rfl) ?_
    refine lv_iload_n hx hb dX11_endsUnit_2 rfl (lv_at hl 2 rfl) ?_
    refine lv_iconst hx hb dX11_endsUnit_3 zc_i2 ?_
    refine zcalli (zrunV (As := [.int a1, .int a2, .int 2]) (rest := []) X hml hl hW h0.1 rfl zk_Model_195 (c_Model_at h0 h) rfl ⟨Nat.le_of_ble_eq_true rfl, Nat.le_of_ble_eq_true rfl⟩ ⟨Nat.le_refl 0, Nat.le_refl 0⟩ rfl (Nat.le_of_ble_eq_true rfl) dX11_endsUnit_4) hW (fun zr2 zm1 H locs h hW => ?_)
    refine lv_istore_n (lv' := [(3, .int zr2), (0, .ref (zad w 0)), (1, .int a1), (2, .int a2)]) hx hb dX11_endsUnit_7 rfl hl (Nat.le_of_ble_eq_true rfl) rfl (fun ls hl => ?_)
    refine lv_aload_n hx hb dX11_endsUnit_8 rfl (lv_at hl 1 rfl) ?_
    refine lv_iload_n hx hb dX11_endsUnit_9 rfl (lv_at hl 2 rfl) ?_
    refine lv_iload_n hx hb dX11_endsUnit_10 rfl (lv_at hl 3 rfl) ?_
    refine lv_iconst hx hb dX11_endsUnit_11 zc_i4 ?_
    refine zcalli (zrunV (As := [.int a1, .int a2, .int 4]) (rest := []) X hml hl hW h0.1 rfl zk_Model_195 (c_Model_at h0 h) rfl ⟨Nat.le_of_ble_eq_true rfl, Nat.le_of_ble_eq_true rfl⟩ ⟨Nat.le_refl 0, Nat.le_refl 0⟩ rfl (Nat.le_of_ble_eq_true rfl) dX11_endsUnit_12) hW (fun zr4 zm3 H locs h hW => ?_)
    refine lv_istore (lv' := [(4, .int zr4), (3, .int zr2), (0, .ref (zad w 0)), (1, .int a1), (2, .int a2)]) hx hb dX11_endsUnit_15 hl (Nat.le_of_ble_eq_true rfl) rfl (fun ls hl => ?_)
    refine lv_aload_n hx hb dX11_endsUnit_17 rfl (lv_at hl 2 rfl) ?_
    refine zg_Model_bench X hW h0 zu_1036 dX11_endsUnit_18 ?_
    refine lv_aload_n hx hb dX11_endsUnit_21 rfl (lv_at hl 2 rfl) ?_
    refine lv_iload_n hx hb dX11_endsUnit_22 rfl (lv_at hl 3 rfl) ?_
    refine lv_aload_n hx hb dX11_endsUnit_23 rfl (lv_at hl 2 rfl) ?_
    refine zg_Model_who X hW h0 zu_1040 dX11_endsUnit_24 ?_
    refine lv_iload_n hx hb dX11_endsUnit_27 rfl (lv_at hl 4 rfl) ?_
    obtain ⟨g, h⟩ := h
    refine ziald X hW h0.2.2.2.2.2.2.2.1 g dX11_endsUnit_28 ?_
    refine lv_iload_n hx hb dX11_endsUnit_29 rfl (lv_at hl 1 rfl) ?_
    refine zcalli (zrunV (As := [.int a1, .int (zm3 8 (ix a2)), .int zr2]) (rest := [.ref (zad w 6)]) X hml hl hW h0.1 rfl zk_Model_185 (c_Model_learntAt h0 h) rfl ⟨Nat.le_of_ble_eq_true rfl, Nat.le_of_ble_eq_true rfl⟩ ⟨Nat.le_refl 0, Nat.le_refl 0⟩ rfl (Nat.le_of_ble_eq_true rfl) dX11_endsUnit_30) hW (fun zr6 zm5 H locs h hW => ?_)
    refine lv_dup2_11 hx hb dX11_endsUnit_33 rfl rfl ?_
    obtain ⟨g, h⟩ := h
    refine ziald X hW h0.2.2.2.2.2.2.1 g dX11_endsUnit_34 ?_
    refine lv_iconst hx hb dX11_endsUnit_35 zc_i1 ?_
    refine lv_iadd hx hb dX11_endsUnit_36 ?_
    obtain ⟨g, h⟩ := h
    refine ziast X hW h0.2.2.2.2.2.2.1 g dX11_endsUnit_37 (fun H locs zm7 ezm7 hW => ?_)
    replace h := h zm7 ezm7
    refine lv_aload_n hx hb dX11_endsUnit_38 rfl (lv_at hl 2 rfl) ?_
    refine lv_iload_n hx hb dX11_endsUnit_39 rfl (lv_at hl 3 rfl) ?_
    refine lv_iload_n hx hb dX11_endsUnit_40 rfl (lv_at hl 4 rfl) ?_
    refine lv_iconst hx hb dX11_endsUnit_41 zc_i3 ?_
    refine lv_aload_n hx hb dX11_endsUnit_42 rfl (lv_at hl 2 rfl) ?_
    refine lv_iload_n hx hb dX11_endsUnit_43 rfl (lv_at hl 3 rfl) ?_
    refine lv_iload_n hx hb dX11_endsUnit_44 rfl (lv_at hl 4 rfl) ?_
    refine lv_iconst hx hb dX11_endsUnit_45 zc_i3 ?_
    refine zcalli (zrunV (As := [.int a1, .int a2, .int 3]) (rest := [.int 3, .int a2, .int a1, .ref (zad w 0)]) X hml hl hW h0.1 rfl zk_Model_195 (c_Model_at h0 h) rfl ⟨Nat.le_of_ble_eq_true rfl, Nat.le_of_ble_eq_true rfl⟩ ⟨Nat.le_refl 0, Nat.le_refl 0⟩ rfl (Nat.le_of_ble_eq_true rfl) dX11_endsUnit_46) hW (fun zr9 zm8 H locs h hW => ?_)
    refine lv_iconst hx hb dX11_endsUnit_49 zc_i1 ?_
    refine lv_iadd hx hb dX11_endsUnit_50 ?_
    refine zcallv (zrunV (As := [.int a1, .int a2, .int 3, .int (zr9 + 1)]) (rest := []) X hml hl hW h0.1 rfl zk_Model_201 (c_Model_put h0 h) rfl ⟨Nat.le_of_ble_eq_true rfl, Nat.le_of_ble_eq_true rfl⟩ ⟨Nat.le_refl 0, Nat.le_refl 0⟩ rfl (Nat.le_of_ble_eq_true rfl) dX11_endsUnit_51) hW (fun zm10 H locs h hW => ?_)
    refine lv_aload_n hx hb dX11_endsUnit_54 rfl (lv_at hl 2 rfl) ?_
    refine lv_iload_n hx hb dX11_endsUnit_55 rfl (lv_at hl 3 rfl) ?_
    refine lv_iload_n hx hb dX11_endsUnit_56 rfl (lv_at hl 4 rfl) ?_
    refine lv_iconst hx hb dX11_endsUnit_57 zc_i0 ?_
    refine lv_iconst hx hb dX11_endsUnit_58 zc_i2 ?_
    refine zcallv (zrunV (As := [.int a1, .int a2, .int 0, .int 2]) (rest := []) X hml hl hW h0.1 rfl zk_Model_201 (c_Model_put h0 h) rfl ⟨Nat.le_of_ble_eq_true rfl, Nat.le_of_ble_eq_true rfl⟩ ⟨Nat.le_refl 0, Nat.le_refl 0⟩ rfl (Nat.le_of_ble_eq_true rfl) dX11_endsUnit_59) hW (fun zm12 H locs h hW => ?_)
    refine lv_aload_n hx hb dX11_endsUnit_62 rfl (lv_at hl 2 rfl) ?_
    refine lv_iload_n hx hb dX11_endsUnit_63 rfl (lv_at hl 3 rfl) ?_
    refine lv_iload_n hx hb dX11_endsUnit_64 rfl (lv_at hl 4 rfl) ?_
    refine lv_iconst hx hb dX11_endsUnit_65 zc_i3 ?_
    refine zcalli (zrunV (As := [.int a1, .int a2, .int 3]) (rest := []) X hml hl hW h0.1 rfl zk_Model_195 (c_Model_at h0 h) rfl ⟨Nat.le_of_ble_eq_true rfl, Nat.le_of_ble_eq_true rfl⟩ ⟨Nat.le_refl 0, Nat.le_refl 0⟩ rfl (Nat.le_of_ble_eq_true rfl) dX11_endsUnit_66) hW (fun zr15 zm14 H locs h hW => ?_)
    refine lv_aload_n hx hb dX11_endsUnit_69 rfl (lv_at hl 2 rfl) ?_
    refine zg_Model_holds X hW h0 zu_1031 dX11_endsUnit_70 ?_
    refine lv_bipush hx hb dX11_endsUnit_73 zc_b30 ?_
    refine lv_bipush hx hb dX11_endsUnit_75 zc_b8 ?_
    refine lv_iload hx hb dX11_endsUnit_77 (lv_at hl 0 rfl) ?_
    refine lv_imul hx hb dX11_endsUnit_79 ?_
    refine lv_iadd hx hb dX11_endsUnit_80 ?_
    refine lv_iload_n hx hb dX11_endsUnit_81 rfl (lv_at hl 1 rfl) ?_
    refine lv_iadd hx hb dX11_endsUnit_82 ?_
    obtain ⟨g, h⟩ := h
    refine ziald X hW h0.2.2.2.2.1 g dX11_endsUnit_83 ?_
    refine lv_icmp_ne (tgt := 144) hx hb dX11_endsUnit_84 rfl (fun c => ?_) (fun c => ?_)
    · replace h := h.1 c
      exact zretv X hr hlk hW h dX11_endsUnit_144
    · replace h := h.2 c
      refine lv_aload_n hx hb dX11_endsUnit_87 rfl (lv_at hl 2 rfl) ?_
      refine lv_iload hx hb dX11_endsUnit_88 (lv_at hl 0 rfl) ?_
      refine lv_iload_n hx hb dX11_endsUnit_90 rfl (lv_at hl 1 rfl) ?_
      refine lv_iconst hx hb dX11_endsUnit_91 zc_i1 ?_
      refine lv_iadd hx hb dX11_endsUnit_92 ?_
      refine zcalli (zrunV (As := [.int zr4, .int (zr2 + 1)]) (rest := []) X hml hl hW h0.1 rfl zk_Model_204 (c_Model_pieceFrom h0 h) rfl ⟨Nat.le_of_ble_eq_true rfl, Nat.le_of_ble_eq_true rfl⟩ ⟨Nat.le_refl 0, Nat.le_refl 0⟩ rfl (Nat.le_of_ble_eq_true rfl) dX11_endsUnit_93) hW (fun zr17 zm16 H locs h hW => ?_)
      refine lv_istore (lv' := [(5, .int zr17), (4, .int zr4), (3, .int zr2), (0, .ref (zad w 0)), (1, .int a1), (2, .int a2)]) hx hb dX11_endsUnit_96 hl (Nat.le_of_ble_eq_true rfl) rfl (fun ls hl => ?_)
      refine lv_iload hx hb dX11_endsUnit_98 (lv_at hl 0 rfl) ?_
      refine lv_bipush hx hb dX11_endsUnit_100 zc_bm4 ?_
      refine lv_icmp_ne (tgt := 127) hx hb dX11_endsUnit_102 rfl (fun c => ?_) (fun c => ?_)
      · replace h := h.1 c
        refine lv_aload_n hx hb dX11_endsUnit_127 rfl (lv_at hl 3 rfl) ?_
        refine lv_iload_n hx hb dX11_endsUnit_128 rfl (lv_at hl 4 rfl) ?_
        refine lv_iload_n hx hb dX11_endsUnit_129 rfl (lv_at hl 5 rfl) ?_
        refine lv_iconst hx hb dX11_endsUnit_130 zc_i2 ?_
        refine lv_iload hx hb dX11_endsUnit_131 (lv_at hl 0 rfl) ?_
        refine zcallv (zrunV (As := [.int a1, .int a2, .int 2, .int zr17]) (rest := []) X hml hl hW h0.1 rfl zk_Model_201 (c_Model_put h0 h) rfl ⟨Nat.le_of_ble_eq_true rfl, Nat.le_of_ble_eq_true rfl⟩ ⟨Nat.le_refl 0, Nat.le_refl 0⟩ rfl (Nat.le_of_ble_eq_true rfl) dX11_endsUnit_133) hW (fun zm18 H locs h hW => ?_)
        refine lv_aload_n hx hb dX11_endsUnit_136 rfl (lv_at hl 3 rfl) ?_
        refine lv_iload_n hx hb dX11_endsUnit_137 rfl (lv_at hl 4 rfl) ?_
        refine lv_iload_n hx hb dX11_endsUnit_138 rfl (lv_at hl 5 rfl) ?_
        refine lv_iconst hx hb dX11_endsUnit_139 zc_i3 ?_
        refine lv_iconst hx hb dX11_endsUnit_140 zc_i0 ?_
        refine zcallv (zrunV (As := [.int a1, .int a2, .int 3, .int 0]) (rest := []) X hml hl hW h0.1 rfl zk_Model_201 (c_Model_put h0 h) rfl ⟨Nat.le_of_ble_eq_true rfl, Nat.le_of_ble_eq_true rfl⟩ ⟨Nat.le_refl 0, Nat.le_refl 0⟩ rfl (Nat.le_of_ble_eq_true rfl) dX11_endsUnit_141) hW (fun zm20 H locs h hW => ?_)
        exact zretv X hr hlk hW h dX11_endsUnit_144
      · replace h := h.2 c
        refine lv_aload_n hx hb dX11_endsUnit_105 rfl (lv_at hl 3 rfl) ?_
        refine lv_iload_n hx hb dX11_endsUnit_106 rfl (lv_at hl 4 rfl) ?_
        refine lv_iconst hx hb dX11_endsUnit_107 zc_i1 ?_
        refine lv_iconst hx hb dX11_endsUnit_108 zc_i1 ?_
        refine zcallv (zrunV (As := [.int a1, .int 1, .int 1]) (rest := []) X hml hl hW h0.1 rfl zk_Model_207 (c_Model_more h0 h) rfl ⟨Nat.le_of_ble_eq_true rfl, Nat.le_of_ble_eq_true rfl⟩ ⟨Nat.le_refl 0, Nat.le_refl 0⟩ rfl (Nat.le_of_ble_eq_true rfl) dX11_endsUnit_109) hW (fun zm22 H locs h hW => ?_)
        refine lv_aload_n hx hb dX11_endsUnit_112 rfl (lv_at hl 3 rfl) ?_
        refine lv_iload_n hx hb dX11_endsUnit_113 rfl (lv_at hl 4 rfl) ?_
        refine lv_iload_n hx hb dX11_endsUnit_114 rfl (lv_at hl 5 rfl) ?_
        refine lv_aload_n hx hb dX11_endsUnit_115 rfl (lv_at hl 3 rfl) ?_
        refine zg_Model_holds X hW h0 zu_1031 dX11_endsUnit_116 ?_
        refine lv_iconst hx hb dX11_endsUnit_119 zc_i0 ?_
        obtain ⟨g, h⟩ := h
        refine ziald X hW h0.2.2.2.2.1 g dX11_endsUnit_120 ?_
        refine zcallv (zrunV (As := [.int a1, .int a2, .int (zm22 4 (ix 0))]) (rest := []) X hml hl hW h0.1 rfl zk_Model_211 (c_Model_goesBack h0 h) rfl ⟨Nat.le_of_ble_eq_true rfl, Nat.le_of_ble_eq_true rfl⟩ ⟨Nat.le_refl 0, Nat.le_refl 0⟩ rfl (Nat.le_of_ble_eq_true rfl) dX11_endsUnit_121) hW (fun zm24 H locs h hW => ?_)
        refine lv_goto (tgt := 144) hx hb dX11_endsUnit_124 rfl ?_
        exact zretv X hr hlk hW h dX11_endsUnit_144
  exact zMain s.heap [] ls hW hl
def wpJ_Model_does_123 (a1 : Int32) (a2 : Int32)  (Q : Int32 → zMem → Prop) (x_3 : Int32)  (M : zMem) : Prop :=
  (¬ x_3 = 0 → (¬ x_3 = 2 → Q 0 M) ∧ (x_3 = 2 → wp_Model_mayBegin a1 a2 M (fun zr4 zm3 => (zr4 = 0 → Q 0 zm3) ∧ (¬ zr4 = 0 → wp_Model_put a1 a2 0 3 zm3 (fun zm5 => vp_in a2 5 ∧ wp_Model_at a1 a2 2 zm5 (fun zr8 zm7 => wp_Model_ticksOf a1 (zm5 8 (ix a2)) zr8 zm7 (fun zr10 zm9 => wp_Model_put a1 a2 1 zr10 zm9 (fun zm11 => Q 1 zm11)))))))) ∧ (x_3 = 0 → wp_Model_takesOver a1 a2 M (fun zr14 zm13 => zbo zr14 ∧ Q zr14 zm13))
def wpJ_Model_does_31 (a1 : Int32) (a2 : Int32)  (Q : Int32 → zMem → Prop) (x_3 : Int32)  (M : zMem) : Prop :=
  (¬ x_3 = 0 → wpJ_Model_does_123 a1 a2 Q x_3 M) ∧ (x_3 = 0 → (¬ a2 = 0 → wpJ_Model_does_123 a1 a2 Q x_3 M) ∧ (a2 = 0 → wp_Model_of a1 4 M (fun zr16 zm15 => vp_in (10 + zr16) 100 ∧ ∀ zx17 : Int32, zx17 = zm15 4 (ix (10 + zr16)) → wp_Model_put a1 a2 0 2 zm15 (fun zm18 => wp_Model_put a1 a2 4 zx17 zm18 (fun zm20 => wp_Model_pieceFrom zx17 0 zm20 (fun zr23 zm22 => wp_Model_put a1 a2 2 zr23 zm22 (fun zm24 => wp_Model_put a1 a2 3 0 zm24 (fun zm26 => wp_Model_of a1 4 zm26 (fun zr29 zm28 => vp_in 6 100 ∧ (¬ (zm28 4 (ix 6)) = 0) ∧ vp_in ((96 * a1) + 4) 384 ∧ ∀ zm30 : zMem, zm30 = zup zm28 6 (ix ((96 * a1) + 4)) ((zr29 + 1) - (zr29 + 1) / (zm28 4 (ix 6)) * (zm28 4 (ix 6))) → Q 1 zm30)))))))))
def wp_Model_does (a1 : Int32) (a2 : Int32) (M : zMem) (Q : Int32 → zMem → Prop) : Prop :=
  wp_Model_at a1 a2 0 M (fun zr2 zm1 => (¬ zr2 = 3 → wpJ_Model_does_31 a1 a2 Q zr2 zm1) ∧ (zr2 = 3 → wp_Model_at a1 a2 1 zm1 (fun zr32 zm31 => (¬ zr32 = 0 → wpJ_Model_does_31 a1 a2 Q zr2 zm31) ∧ (zr32 = 0 → wp_Model_endsUnit a1 a2 zm31 (fun zm33 => Q 1 zm33)))))
set_option maxHeartbeats 4000000 in
set_option maxRecDepth 20000 in
theorem c_Model_does {l : Launch} {w : zWd} {a1 : Int32} {a2 : Int32} {M : zMem} {post : Int32 → zMem → Prop} (h0 : zI_Model w) (h : wp_Model_does a1 a2 M post) : zMi l ⟨"HandToHandModel", "does", "(II)Z"⟩ prog_13_method_44_code 5 (Option.some .boolean) 5 120 w [.ref (zad w 0), .int a1, .int a2] M post := by
  refine zMet (by decide) (Nat.le_of_ble_eq_true rfl) ?_
  intro p e s m below meth c X hr hlk hml hW ls hl
  have hx := X.1
  have hb := X.2.1
  have hl : lv_has ls 5 [(0, .ref (zad w 0)), (1, .int a1), (2, .int a2)] := hl
  have zJ_123 : ∀ (x_3 : Int32) (M : zMem) (H : Heap) (locs : List Loc) (ls : Array Slot), zWo w s.heap M H locs → lv_has ls 5 [(0, .ref (zad w 0)), (1, .int a1), (2, .int a2), (3, .int x_3)] → wpJ_Model_does_123 a1 a2 post x_3 M → W p l e (zRm 5 120) s m ([.ref (zad w 0), .int a1, .int a2] : List Value).toArray below meth c H locs 0 0 (MQ below (va_Qi post (zB w) (zA w)) ([.ref (zad w 0), .int a1, .int a2] : List Value).toArray s 0 0 (zA w)) (F0 m 123 ls []) := by
    intro x_3 M H locs ls hW hl h
    unfold wpJ_Model_does_123 at h
    refine lv_iload_n hx hb dX11_does_123 rfl (lv_at hl 3 rfl) ?_
    refine lv_if_ne (tgt := 134) hx hb dX11_does_124 rfl (fun c => ?_) (fun c => ?_)
    · replace h := h.1 c
      refine lv_iload_n hx hb dX11_does_134 rfl (lv_at hl 3 rfl) ?_
      refine lv_iconst hx hb dX11_does_135 zc_i2 ?_
      refine lv_icmp_ne (tgt := 183) hx hb dX11_does_136 rfl (fun c => ?_) (fun c => ?_)
      · replace h := h.1 c
        refine lv_iconst hx hb dX11_does_183 zc_i0 ?_
        exact zretz X hr hlk hW rfl h dX11_does_184
      · replace h := h.2 c
        refine lv_aload_n hx hb dX11_does_139 rfl (lv_at hl 0 rfl) ?_
        refine lv_iload_n hx hb dX11_does_140 rfl (lv_at hl 1 rfl) ?_
        refine lv_iload_n hx hb dX11_does_141 rfl (lv_at hl 2 rfl) ?_
        refine zcalli (zrunV (As := [.int a1, .int a2]) (rest := []) X hml hl hW h0.1 rfl zk_Model_228 (c_Model_mayBegin h0 h) rfl ⟨Nat.le_of_ble_eq_true rfl, Nat.le_of_ble_eq_true rfl⟩ ⟨Nat.le_refl 0, Nat.le_refl 0⟩ rfl (Nat.le_of_ble_eq_true rfl) dX11_does_142) hW (fun zr4 zm3 H locs h hW => ?_)
        refine lv_if_eq (tgt := 183) hx hb dX11_does_145 rfl (fun c => ?_) (fun c => ?_)
        · replace h := h.1 c
          refine lv_iconst hx hb dX11_does_183 zc_i0 ?_
          exact zretz X hr hlk hW rfl h dX11_does_184
        · replace h := h.2 c
          refine lv_aload_n hx hb dX11_does_148 rfl (lv_at hl 0 rfl) ?_
          refine lv_iload_n hx hb dX11_does_149 rfl (lv_at hl 1 rfl) ?_
          refine lv_iload_n hx hb dX11_does_150 rfl (lv_at hl 2 rfl) ?_
          refine lv_iconst hx hb dX11_does_151 zc_i0 ?_
          refine lv_iconst hx hb dX11_does_152 zc_i3 ?_
          refine zcallv (zrunV (As := [.int a1, .int a2, .int 0, .int 3]) (rest := []) X hml hl hW h0.1 rfl zk_Model_201 (c_Model_put h0 h) rfl ⟨Nat.le_of_ble_eq_true rfl, Nat.le_of_ble_eq_true rfl⟩ ⟨Nat.le_refl 0, Nat.le_refl 0⟩ rfl (Nat.le_of_ble_eq_true rfl) dX11_does_153) hW (fun zm5 H locs h hW => ?_)
          refine lv_aload_n hx hb dX11_does_156 rfl (lv_at hl 0 rfl) ?_
          refine lv_iload_n hx hb dX11_does_157 rfl (lv_at hl 1 rfl) ?_
          refine lv_iload_n hx hb dX11_does_158 rfl (lv_at hl 2 rfl) ?_
          refine lv_iconst hx hb dX11_does_159 zc_i1 ?_
          refine lv_aload_n hx hb dX11_does_160 rfl (lv_at hl 0 rfl) ?_
          refine lv_iload_n hx hb dX11_does_161 rfl (lv_at hl 1 rfl) ?_
          refine lv_aload_n hx hb dX11_does_162 rfl (lv_at hl 0 rfl) ?_
          refine zg_Model_who X hW h0 zu_1040 dX11_does_163 ?_
          refine lv_iload_n hx hb dX11_does_166 rfl (lv_at hl 2 rfl) ?_
          obtain ⟨g, h⟩ := h
          refine ziald X hW h0.2.2.2.2.2.2.2.1 g dX11_does_167 ?_
          refine lv_aload_n hx hb dX11_does_168 rfl (lv_at hl 0 rfl) ?_
          refine lv_iload_n hx hb dX11_does_169 rfl (lv_at hl 1 rfl) ?_
          refine lv_iload_n hx hb dX11_does_170 rfl (lv_at hl 2 rfl) ?_
          refine lv_iconst hx hb dX11_does_171 zc_i2 ?_
          refine zcalli (zrunV (As := [.int a1, .int a2, .int 2]) (rest := [.int (zm5 8 (ix a2)), .int a1, .ref (zad w 0), .int 1, .int a2, .int a1, .ref (zad w 0)]) X hml hl hW h0.1 rfl zk_Model_195 (c_Model_at h0 h) rfl ⟨Nat.le_of_ble_eq_true rfl, Nat.le_of_ble_eq_true rfl⟩ ⟨Nat.le_refl 0, Nat.le_refl 0⟩ rfl (Nat.le_of_ble_eq_true rfl) dX11_does_172) hW (fun zr8 zm7 H locs h hW => ?_)
          refine zcalli (zrunV (As := [.int a1, .int (zm5 8 (ix a2)), .int zr8]) (rest := [.int 1, .int a2, .int a1, .ref (zad w 0)]) X hml hl hW h0.1 rfl zk_Model_231 (c_Model_ticksOf h0 h) rfl ⟨Nat.le_of_ble_eq_true rfl, Nat.le_of_ble_eq_true rfl⟩ ⟨Nat.le_refl 0, Nat.le_refl 0⟩ rfl (Nat.le_of_ble_eq_true rfl) dX11_does_175) hW (fun zr10 zm9 H locs h hW => ?_)
          refine zcallv (zrunV (As := [.int a1, .int a2, .int 1, .int zr10]) (rest := []) X hml hl hW h0.1 rfl zk_Model_201 (c_Model_put h0 h) rfl ⟨Nat.le_of_ble_eq_true rfl, Nat.le_of_ble_eq_true rfl⟩ ⟨Nat.le_refl 0, Nat.le_refl 0⟩ rfl (Nat.le_of_ble_eq_true rfl) dX11_does_178) hW (fun zm11 H locs h hW => ?_)
          refine lv_iconst hx hb dX11_does_181 zc_i1 ?_
          exact zretz X hr hlk hW rfl h dX11_does_182
    · replace h := h.2 c
      refine lv_aload_n hx hb dX11_does_127 rfl (lv_at hl 0 rfl) ?_
      refine lv_iload_n hx hb dX11_does_128 rfl (lv_at hl 1 rfl) ?_
      refine lv_iload_n hx hb dX11_does_129 rfl (lv_at hl 2 rfl) ?_
      refine zcalli (zrunV (As := [.int a1, .int a2]) (rest := []) X hml hl hW h0.1 rfl zk_Model_225 (c_Model_takesOver h0 h) rfl ⟨Nat.le_of_ble_eq_true rfl, Nat.le_of_ble_eq_true rfl⟩ ⟨Nat.le_refl 0, Nat.le_refl 0⟩ rfl (Nat.le_of_ble_eq_true rfl) dX11_does_130) hW (fun zr14 zm13 H locs h hW => ?_)
      exact zretz X hr hlk hW (zbo_n h.1) h.2 dX11_does_133
  have zJ_31 : ∀ (x_3 : Int32) (M : zMem) (H : Heap) (locs : List Loc) (ls : Array Slot), zWo w s.heap M H locs → lv_has ls 5 [(0, .ref (zad w 0)), (1, .int a1), (2, .int a2), (3, .int x_3)] → wpJ_Model_does_31 a1 a2 post x_3 M → W p l e (zRm 5 120) s m ([.ref (zad w 0), .int a1, .int a2] : List Value).toArray below meth c H locs 0 0 (MQ below (va_Qi post (zB w) (zA w)) ([.ref (zad w 0), .int a1, .int a2] : List Value).toArray s 0 0 (zA w)) (F0 m 31 ls []) := by
    intro x_3 M H locs ls hW hl h
    unfold wpJ_Model_does_31 at h
    refine lv_iload_n hx hb dX11_does_31 rfl (lv_at hl 3 rfl) ?_
    refine lv_if_ne (tgt := 123) hx hb dX11_does_32 rfl (fun c => ?_) (fun c => ?_)
    · replace h := h.1 c
      exact zJ_123 x_3 M H locs ls hW (lv_sub hl [0, 1, 2, 3] rfl) h
    · replace h := h.2 c
      refine lv_iload_n hx hb dX11_does_35 rfl (lv_at hl 2 rfl) ?_
      refine lv_if_ne (tgt := 123) hx hb dX11_does_36 rfl (fun c => ?_) (fun c => ?_)
      · replace h := h.1 c
        exact zJ_123 x_3 M H locs ls hW (lv_sub hl [0, 1, 2, 3] rfl) h
      · replace h := h.2 c
        refine lv_aload_n hx hb dX11_does_39 rfl (lv_at hl 0 rfl) ?_
        refine zg_Model_holds X hW h0 zu_1031 dX11_does_40 ?_
        refine lv_bipush hx hb dX11_does_43 zc_b10 ?_
        refine lv_aload_n hx hb dX11_does_45 rfl (lv_at hl 0 rfl) ?_
        refine lv_iload_n hx hb dX11_does_46 rfl (lv_at hl 1 rfl) ?_
        refine lv_iconst hx hb dX11_does_47 zc_i4 ?_
        refine zcalli (zrunV (As := [.int a1, .int 4]) (rest := [.int 10, .ref (zad w 4)]) X hml hl hW h0.1 rfl zk_Model_218 (c_Model_of h0 h) rfl ⟨Nat.le_of_ble_eq_true rfl, Nat.le_of_ble_eq_true rfl⟩ ⟨Nat.le_refl 0, Nat.le_refl 0⟩ rfl (Nat.le_of_ble_eq_true rfl) dX11_does_48) hW (fun zr16 zm15 H locs h hW => ?_)
        refine lv_iadd hx hb dX11_does_51 ?_
        obtain ⟨g, h⟩ := h
        refine ziald X hW h0.2.2.2.2.1 g dX11_does_52 ?_
        refine lv_topi (fun zx17 ezx17 => ?_)
        replace h := h zx17 ezx17
        refine lv_istore (lv' := [(4, .int zx17), (0, .ref (zad w 0)), (1, .int a1), (2, .int a2), (3, .int x_3)]) hx hb dX11_does_53 hl (Nat.le_of_ble_eq_true rfl) rfl (fun ls hl => ?_)
        refine lv_aload_n hx hb dX11_does_55 rfl (lv_at hl 1 rfl) ?_
        refine lv_iload_n hx hb dX11_does_56 rfl (lv_at hl 2 rfl) ?_
        refine lv_iload_n hx hb dX11_does_57 rfl (lv_at hl 3 rfl) ?_
        refine lv_iconst hx hb dX11_does_58 zc_i0 ?_
        refine lv_iconst hx hb dX11_does_59 zc_i2 ?_
        refine zcallv (zrunV (As := [.int a1, .int a2, .int 0, .int 2]) (rest := []) X hml hl hW h0.1 rfl zk_Model_201 (c_Model_put h0 h) rfl ⟨Nat.le_of_ble_eq_true rfl, Nat.le_of_ble_eq_true rfl⟩ ⟨Nat.le_refl 0, Nat.le_refl 0⟩ rfl (Nat.le_of_ble_eq_true rfl) dX11_does_60) hW (fun zm18 H locs h hW => ?_)
        refine lv_aload_n hx hb dX11_does_63 rfl (lv_at hl 1 rfl) ?_
        refine lv_iload_n hx hb dX11_does_64 rfl (lv_at hl 2 rfl) ?_
        refine lv_iload_n hx hb dX11_does_65 rfl (lv_at hl 3 rfl) ?_
        refine lv_iconst hx hb dX11_does_66 zc_i4 ?_
        refine lv_iload hx hb dX11_does_67 (lv_at hl 0 rfl) ?_
        refine zcallv (zrunV (As := [.int a1, .int a2, .int 4, .int zx17]) (rest := []) X hml hl hW h0.1 rfl zk_Model_201 (c_Model_put h0 h) rfl ⟨Nat.le_of_ble_eq_true rfl, Nat.le_of_ble_eq_true rfl⟩ ⟨Nat.le_refl 0, Nat.le_refl 0⟩ rfl (Nat.le_of_ble_eq_true rfl) dX11_does_69) hW (fun zm20 H locs h hW => ?_)
        refine lv_aload_n hx hb dX11_does_72 rfl (lv_at hl 1 rfl) ?_
        refine lv_iload_n hx hb dX11_does_73 rfl (lv_at hl 2 rfl) ?_
        refine lv_iload_n hx hb dX11_does_74 rfl (lv_at hl 3 rfl) ?_
        refine lv_iconst hx hb dX11_does_75 zc_i2 ?_
        refine lv_aload_n hx hb dX11_does_76 rfl (lv_at hl 1 rfl) ?_
        refine lv_iload hx hb dX11_does_77 (lv_at hl 0 rfl) ?_
        refine lv_iconst hx hb dX11_does_79 zc_i0 ?_
        refine zcalli (zrunV (As := [.int zx17, .int 0]) (rest := [.int 2, .int a2, .int a1, .ref (zad w 0)]) X hml hl hW h0.1 rfl zk_Model_204 (c_Model_pieceFrom h0 h) rfl ⟨Nat.le_of_ble_eq_true rfl, Nat.le_of_ble_eq_true rfl⟩ ⟨Nat.le_refl 0, Nat.le_refl 0⟩ rfl (Nat.le_of_ble_eq_true rfl) dX11_does_80) hW (fun zr23 zm22 H locs h hW => ?_)
        refine zcallv (zrunV (As := [.int a1, .int a2, .int 2, .int zr23]) (rest := []) X hml hl hW h0.1 rfl zk_Model_201 (c_Model_put h0 h) rfl ⟨Nat.le_of_ble_eq_true rfl, Nat.le_of_ble_eq_true rfl⟩ ⟨Nat.le_refl 0, Nat.le_refl 0⟩ rfl (Nat.le_of_ble_eq_true rfl) dX11_does_83) hW (fun zm24 H locs h hW => ?_)
        refine lv_aload_n hx hb dX11_does_86 rfl (lv_at hl 1 rfl) ?_
        refine lv_iload_n hx hb dX11_does_87 rfl (lv_at hl 2 rfl) ?_
        refine lv_iload_n hx hb dX11_does_88 rfl (lv_at hl 3 rfl) ?_
        refine lv_iconst hx hb dX11_does_89 zc_i3 ?_
        refine lv_iconst hx hb dX11_does_90 zc_i0 ?_
        refine zcallv (zrunV (As := [.int a1, .int a2, .int 3, .int 0]) (rest := []) X hml hl hW h0.1 rfl zk_Model_201 (c_Model_put h0 h) rfl ⟨Nat.le_of_ble_eq_true rfl, Nat.le_of_ble_eq_true rfl⟩ ⟨Nat.le_refl 0, Nat.le_refl 0⟩ rfl (Nat.le_of_ble_eq_true rfl) dX11_does_91) hW (fun zm26 H locs h hW => ?_)
        refine lv_aload_n hx hb dX11_does_94 rfl (lv_at hl 1 rfl) ?_
        refine zg_Model_bench X hW h0 zu_1036 dX11_does_95 ?_
        refine lv_bipush hx hb dX11_does_98 zc_b96 ?_
        refine lv_iload_n hx hb dX11_does_100 rfl (lv_at hl 2 rfl) ?_
        refine lv_imul hx hb dX11_does_101 ?_
        refine lv_iconst hx hb dX11_does_102 zc_i4 ?_
        refine lv_iadd hx hb dX11_does_103 ?_
        refine lv_aload_n hx hb dX11_does_104 rfl (lv_at hl 1 rfl) ?_
        refine lv_iload_n hx hb dX11_does_105 rfl (lv_at hl 2 rfl) ?_
        refine lv_iconst hx hb dX11_does_106 zc_i4 ?_
        refine zcalli (zrunV (As := [.int a1, .int 4]) (rest := [.int ((96 * a1) + 4), .ref (zad w 6)]) X hml hl hW h0.1 rfl zk_Model_218 (c_Model_of h0 h) rfl ⟨Nat.le_of_ble_eq_true rfl, Nat.le_of_ble_eq_true rfl⟩ ⟨Nat.le_refl 0, Nat.le_refl 0⟩ rfl (Nat.le_of_ble_eq_true rfl) dX11_does_107) hW (fun zr29 zm28 H locs h hW => ?_)
        refine lv_iconst hx hb dX11_does_110 zc_i1 ?_
        refine lv_iadd hx hb dX11_does_111 ?_
        refine lv_aload_n hx hb dX11_does_112 rfl (lv_at hl 1 rfl) ?_
        refine zg_Model_holds X hW h0 zu_1031 dX11_does_113 ?_
        refine lv_bipush hx hb dX11_does_116 zc_b6 ?_
        obtain ⟨g, h⟩ := h
        refine ziald X hW h0.2.2.2.2.1 g dX11_does_118 ?_
        obtain ⟨g, h⟩ := h
        refine lv_irem hx hb dX11_does_119 g ?_
        obtain ⟨g, h⟩ := h
        refine ziast X hW h0.2.2.2.2.2.2.1 g dX11_does_120 (fun H locs zm30 ezm30 hW => ?_)
        replace h := h zm30 ezm30
        refine lv_iconst hx hb dX11_does_121 zc_i1 ?_
        exact zretz X hr hlk hW rfl h dX11_does_122
  unfold wp_Model_does at h
  have zMain : ∀ (H : Heap) (locs : List Loc) (ls : Array Slot), zWo w s.heap M H locs → lv_has ls 5 [(0, .ref (zad w 0)), (1, .int a1), (2, .int a2)] → W p l e (zRm 5 120) s m ([.ref (zad w 0), .int a1, .int a2] : List Value).toArray below meth c H locs 0 0 (MQ below (va_Qi post (zB w) (zA w)) ([.ref (zad w 0), .int a1, .int a2] : List Value).toArray s 0 0 (zA w)) (F0 m 0 ls []) := by
    intro H locs ls hW hl
    refine lv_aload_n hx hb dX11_does_0 rfl (lv_at hl 0 rfl) ?_
    refine lv_iload_n hx hb dX11_does_1 rfl (lv_at hl 1 rfl) ?_
    refine lv_iload_n hx hb dX11_does_2 rfl (lv_at hl 2 rfl) ?_
    refine lv_iconst hx hb dX11_does_3 zc_i0 ?_
    refine zcalli (zrunV (As := [.int a1, .int a2, .int 0]) (rest := []) X hml hl hW h0.1 rfl zk_Model_195 (c_Model_at h0 h) rfl ⟨Nat.le_of_ble_eq_true rfl, Nat.le_of_ble_eq_true rfl⟩ ⟨Nat.le_refl 0, Nat.le_refl 0⟩ rfl (Nat.le_of_ble_eq_true rfl) dX11_does_4) hW (fun zr2 zm1 H locs h hW => ?_)
    refine lv_istore_n (lv' := [(3, .int zr2), (0, .ref (zad w 0)), (1, .int a1), (2, .int a2)]) hx hb dX11_does_7 rfl hl (Nat.le_of_ble_eq_true rfl) rfl (fun ls hl => ?_)
    refine lv_iload_n hx hb dX11_does_8 rfl (lv_at hl 0 rfl) ?_
    refine lv_iconst hx hb dX11_does_9 zc_i3 ?_
    refine lv_icmp_ne (tgt := 31) hx hb dX11_does_10 rfl (fun c => ?_) (fun c => ?_)
    · replace h := h.1 c
      exact zJ_31 zr2 zm1 H locs ls hW (lv_sub hl [1, 2, 3, 0] rfl) h
    · replace h := h.2 c
      refine lv_aload_n hx hb dX11_does_13 rfl (lv_at hl 1 rfl) ?_
      refine lv_iload_n hx hb dX11_does_14 rfl (lv_at hl 2 rfl) ?_
      refine lv_iload_n hx hb dX11_does_15 rfl (lv_at hl 3 rfl) ?_
      refine lv_iconst hx hb dX11_does_16 zc_i1 ?_
      refine zcalli (zrunV (As := [.int a1, .int a2, .int 1]) (rest := []) X hml hl hW h0.1 rfl zk_Model_195 (c_Model_at h0 h) rfl ⟨Nat.le_of_ble_eq_true rfl, Nat.le_of_ble_eq_true rfl⟩ ⟨Nat.le_refl 0, Nat.le_refl 0⟩ rfl (Nat.le_of_ble_eq_true rfl) dX11_does_17) hW (fun zr32 zm31 H locs h hW => ?_)
      refine lv_if_ne (tgt := 31) hx hb dX11_does_20 rfl (fun c => ?_) (fun c => ?_)
      · replace h := h.1 c
        exact zJ_31 zr2 zm31 H locs ls hW (lv_sub hl [1, 2, 3, 0] rfl) h
      · replace h := h.2 c
        refine lv_aload_n hx hb dX11_does_23 rfl (lv_at hl 1 rfl) ?_
        refine lv_iload_n hx hb dX11_does_24 rfl (lv_at hl 2 rfl) ?_
        refine lv_iload_n hx hb dX11_does_25 rfl (lv_at hl 3 rfl) ?_
        refine zcallv (zrunV (As := [.int a1, .int a2]) (rest := []) X hml hl hW h0.1 rfl zk_Model_221 (c_Model_endsUnit h0 h) rfl ⟨Nat.le_of_ble_eq_true rfl, Nat.le_of_ble_eq_true rfl⟩ ⟨Nat.le_refl 0, Nat.le_refl 0⟩ rfl (Nat.le_of_ble_eq_true rfl) dX11_does_26) hW (fun zm33 H locs h hW => ?_)
        refine lv_iconst hx hb dX11_does_29 zc_i1 ?_
        exact zretz X hr hlk hW rfl h dX11_does_30
  exact zMain s.heap [] ls hW hl
