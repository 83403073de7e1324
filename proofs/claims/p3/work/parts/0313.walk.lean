def wpB_Main_findParts_56   (K87 : zMem → Prop) (Q : zMem → Prop) (J : Int32 → zMem → Prop) (x_1 : Int32) (M : zMem) : Prop :=
  (((M 1 1) - 1) ≤ x_1 → K87 M) ∧ (¬ ((M 1 1) - 1) ≤ x_1 → vp_in x_1 5 ∧ ∀ zm7 : zMem, zm7 = zup M 10 (ix x_1) (x_1 + 1) → ∀ zx8 : Int32, zx8 = x_1 + 1 → J zx8 zm7)
def wpB_Main_findParts_91    (Q : zMem → Prop) (J : Int32 → Int32 → zMem → Prop) (x_1 : Int32) (x_2 : Int32) (M : zMem) : Prop :=
  (1000000 ≤ x_2 → Q M) ∧ (¬ 1000000 ≤ x_2 → (x_1 = 0 → Q M) ∧ (¬ x_1 = 0 → wp_Settling_settle 41 6 55 M (fun zm10 => wp_Main_isMore ((zm10 55 6).toInt64) ((zm10 55 7).toInt64) ((zm10 60 1).toInt64) ((zm10 60 2).toInt64) zm10 (fun zr13 zm12 => (zr13 = 0 → wp_Told_moveEnds 6 zm12 (fun zr15 zm14 => ∀ zx16 : Int32, zx16 = x_2 + 1 → J zr15 zx16 zm14)) ∧ (¬ zr13 = 0 → wp_Parts_takeFrom 60 6 55 zm12 (fun zm17 => wp_Told_moveEnds 6 zm17 (fun zr20 zm19 => ∀ zx21 : Int32, zx21 = x_2 + 1 → J zr20 zx21 zm19)))))))
def wp_Main_findParts  (M : zMem) (Q : zMem → Prop) : Prop :=
  ((M 60 0) = 0 → ∀ zm1 : zMem, zm1 = zup M 60 0 1 → ∀ zm2 : zMem, zm2 = zup zm1 60 1 ((-1)) → ∀ zm3 : zMem, zm3 = zup zm2 60 2 1 → wp_Told_copyFrom 6 1 zm3 (fun zm4 => ∀ zm6 : zMem, zm6 = zup zm4 6 4 2 → ∃ n : Nat, zlp1 (wpB_Main_findParts_56   (fun (zm9 : zMem) => ∃ n : Nat, zlp2 (wpB_Main_findParts_91    Q) n 1 0 zm9) Q) n 0 zm6)) ∧ (¬ (M 60 0) = 0 → Q M)
set_option maxHeartbeats 4000000 in
set_option maxRecDepth 20000 in
theorem c_Main_findParts {l : Launch} {w : zWd} {M : zMem} {post : zMem → Prop} (h0 : zI_Main w) (h : wp_Main_findParts  M post) : zMv l ⟨"HandToHand", "findParts", "()V"⟩ prog_1_method_51_code 3 none 5 118 w [.ref (zad w 0)] M post := by
  refine zMet (by decide) (Nat.le_of_ble_eq_true rfl) ?_
  intro p e s m below meth c X hr hlk hml hW ls hl
  have hx := X.1
  have hb := X.2.1
  have hl : lv_has ls 3 [(0, .ref (zad w 0))] := hl
  have zL_56 : ∀ (K87 : zMem → Prop) (zK87 : ∀ (M : zMem) (H : Heap) (locs : List Loc) (ls : Array Slot), zWo w s.heap M H locs → lv_has ls 3 [(0, .ref (zad w 0))] → K87 M → W p l e (zRm 5 118) s m ([.ref (zad w 0)] : List Value).toArray below meth c H locs 0 0 (MQ below (va_Qv post (zB w) (zA w)) ([.ref (zad w 0)] : List Value).toArray s 0 0 (zA w)) (F0 m 87 ls [])), ∀ (n : Nat) (x_1 : Int32) (M : zMem) (H : Heap) (locs : List Loc) (ls : Array Slot), zWo w s.heap M H locs → lv_has ls 3 [(0, .ref (zad w 0)), (1, .int x_1)] → zlp1 (wpB_Main_findParts_56   K87 post) n x_1 M → W p l e (zRm 5 118) s m ([.ref (zad w 0)] : List Value).toArray below meth c H locs 0 0 (MQ below (va_Qv post (zB w) (zA w)) ([.ref (zad w 0)] : List Value).toArray s 0 0 (zA w)) (F0 m 56 ls []) := by
    intro K87 zK87 n
    induction n with
    | zero => intro x_1 M H locs ls hW hl h; exact h.elim
    | succ n zJ =>
      intro x_1 M H locs ls hW hl h
      have h : wpB_Main_findParts_56   K87 post (zlp1 (wpB_Main_findParts_56   K87 post) n) x_1 M := h
      unfold wpB_Main_findParts_56 at h
      refine lv_iload_n hx hb dX10_findParts_56 rfl (lv_at hl 1 rfl) ?_
      refine lv_aload_n hx hb dX10_findParts_57 rfl (lv_at hl 0 rfl) ?_
      refine zg_Main_told X hW h0 zu_467 dX10_findParts_58 ?_
      refine zg_Told_hands X hW h0.2.2.2.2.1 zu_41 dX10_findParts_61 ?_
      refine lv_iconst hx hb dX10_findParts_64 zc_i1 ?_
      refine lv_isub hx hb dX10_findParts_65 ?_
      refine lv_icmp_ge (tgt := 87) hx hb dX10_findParts_66 rfl (fun c => ?_) (fun c => ?_)
      · replace h := h.1 c
        exact zK87 M H locs ls hW (lv_sub hl [0] rfl) h
      · replace h := h.2 c
        refine lv_aload_n hx hb dX10_findParts_69 rfl (lv_at hl 0 rfl) ?_
        refine zg_Main_variant X hW h0 zu_468 dX10_findParts_70 ?_
        refine zg_Told_ends X hW h0.2.2.2.2.2.1 zu_70 dX10_findParts_73 ?_
        refine lv_iload_n hx hb dX10_findParts_76 rfl (lv_at hl 1 rfl) ?_
        refine lv_iload_n hx hb dX10_findParts_77 rfl (lv_at hl 1 rfl) ?_
        refine lv_iconst hx hb dX10_findParts_78 zc_i1 ?_
        refine lv_iadd hx hb dX10_findParts_79 ?_
        obtain ⟨g, h⟩ := h
        refine ziast X hW h0.2.2.2.2.2.1.2.2.2.2 g dX10_findParts_80 (fun H locs zm7 ezm7 hW => ?_)
        replace h := h zm7 ezm7
        obtain ⟨zx8, ezx8⟩ : ∃ y : Int32, y = x_1 + 1 := ⟨_, rfl⟩
        replace h := h zx8 ezx8
        refine lv_iinc (v := zx8) (lv' := [(1, .int zx8), (0, .ref (zad w 0))]) hx hb dX10_findParts_81 hl (k := 1) rfl (by rw [ezx8, zc_i1]) (Nat.le_of_ble_eq_true rfl) rfl (fun ls hl => ?_)
        refine lv_goto (tgt := 56) hx hb dX10_findParts_84 rfl ?_
        exact zJ zx8 zm7 H locs ls hW (lv_sub hl [1, 0] rfl) h
  have zL_91 :  ∀ (n : Nat) (x_1 : Int32) (x_2 : Int32) (M : zMem) (H : Heap) (locs : List Loc) (ls : Array Slot), zWo w s.heap M H locs → lv_has ls 3 [(0, .ref (zad w 0)), (1, .int x_1), (2, .int x_2)] → zlp2 (wpB_Main_findParts_91    post) n x_1 x_2 M → W p l e (zRm 5 118) s m ([.ref (zad w 0)] : List Value).toArray below meth c H locs 0 0 (MQ below (va_Qv post (zB w) (zA w)) ([.ref (zad w 0)] : List Value).toArray s 0 0 (zA w)) (F0 m 91 ls []) := by
    intro n
    induction n with
    | zero => intro x_1 x_2 M H locs ls hW hl h; exact h.elim
    | succ n zJ =>
      intro x_1 x_2 M H locs ls hW hl h
      have h : wpB_Main_findParts_91    post (zlp2 (wpB_Main_findParts_91    post) n) x_1 x_2 M := h
      unfold wpB_Main_findParts_91 at h
      refine lv_iload_n hx hb dX10_findParts_91 rfl (lv_at hl 2 rfl) ?_
      refine lv_ldcw hx hb X.2.2.1 (X.2.2.2.1 _ zu_871) dX10_findParts_92 ?_
      refine lv_icmp_ge (tgt := 184) hx hb dX10_findParts_95 rfl (fun c => ?_) (fun c => ?_)
      · replace h := h.1 c
        exact zretv X hr hlk hW h dX10_findParts_184
      · replace h := h.2 c
        refine lv_iload_n hx hb dX10_findParts_98 rfl (lv_at hl 1 rfl) ?_
        refine lv_if_eq (tgt := 184) hx hb dX10_findParts_99 rfl (fun c => ?_) (fun c => ?_)
        · replace h := h.1 c
          exact zretv X hr hlk hW h dX10_findParts_184
        · replace h := h.2 c
          refine lv_aload_n hx hb dX10_findParts_102 rfl (lv_at hl 0 rfl) ?_
          refine zg_Main_settling X hW h0 zu_474 dX10_findParts_103 ?_
          refine lv_aload_n hx hb dX10_findParts_106 rfl (lv_at hl 0 rfl) ?_
          refine zg_Main_variant X hW h0 zu_468 dX10_findParts_107 ?_
          refine lv_aload_n hx hb dX10_findParts_110 rfl (lv_at hl 0 rfl) ?_
          refine zg_Main_variantRing X hW h0 zu_476 dX10_findParts_111 ?_
          refine zcallv (zrunV (As := [.ref (zad w 6), .ref (zad w 55)]) (rest := []) X hml hl hW h0.2.2.2.2.2.2.2.2.2.1.1 rfl zk_Main_333 (c_Settling_settle h0.2.2.2.2.2.2.2.2.2.1 h0.2.2.2.2.2.1 h0.2.2.2.2.2.2.2.2.2.2.2.1 h) rfl ⟨Nat.le_of_ble_eq_true rfl, Nat.le_of_ble_eq_true rfl⟩ ⟨Nat.le_refl 0, Nat.le_refl 0⟩ rfl (Nat.le_of_ble_eq_true rfl) dX10_findParts_114) hW (fun zm10 H locs h hW => ?_)
          refine lv_aload_n hx hb dX10_findParts_117 rfl (lv_at hl 0 rfl) ?_
          refine zg_Main_variantRing X hW h0 zu_476 dX10_findParts_118 ?_
          refine zg_Ring_top X hW h0.2.2.2.2.2.2.2.2.2.2.2.1 zu_308 dX10_findParts_121 ?_
          refine lv_i2l hx hb dX10_findParts_124 rfl ?_
          refine lv_aload_n hx hb dX10_findParts_125 rfl (lv_at hl 0 rfl) ?_
          refine zg_Main_variantRing X hW h0 zu_476 dX10_findParts_126 ?_
          refine zg_Ring_bottom X hW h0.2.2.2.2.2.2.2.2.2.2.2.1 zu_311 dX10_findParts_129 ?_
          refine lv_i2l hx hb dX10_findParts_132 rfl ?_
          refine lv_aload_n hx hb dX10_findParts_133 rfl (lv_at hl 0 rfl) ?_
          refine zg_Main_bestParts X hW h0 zu_478 dX10_findParts_134 ?_
          refine zg_Parts_top X hW h0.2.2.2.2.2.2.2.2.2.2.2.2.2 zu_356 dX10_findParts_137 ?_
          refine lv_i2l hx hb dX10_findParts_140 rfl ?_
          refine lv_aload_n hx hb dX10_findParts_141 rfl (lv_at hl 0 rfl) ?_
          refine zg_Main_bestParts X hW h0 zu_478 dX10_findParts_142 ?_
          refine zg_Parts_bottom X hW h0.2.2.2.2.2.2.2.2.2.2.2.2.2 zu_358 dX10_findParts_145 ?_
          refine lv_i2l hx hb dX10_findParts_148 rfl ?_
          refine zcalli (zrunS (As := [.long ((zm10 55 6).toInt64), .long ((zm10 55 7).toInt64), .long ((zm10 60 1).toInt64), .long ((zm10 60 2).toInt64)]) (rest := []) X hml hl hW zk_Main_313 (c_Main_isMore  h) rfl ⟨Nat.le_of_ble_eq_true rfl, Nat.le_of_ble_eq_true rfl⟩ ⟨Nat.le_refl 0, Nat.le_refl 0⟩ rfl (Nat.le_of_ble_eq_true rfl) dX10_findParts_149) hW (fun zr13 zm12 H locs h hW => ?_)
          refine lv_if_eq (tgt := 170) hx hb dX10_findParts_152 rfl (fun c => ?_) (fun c => ?_)
          · replace h := h.1 c
            refine lv_aload_n hx hb dX10_findParts_170 rfl (lv_at hl 0 rfl) ?_
            refine zg_Main_variant X hW h0 zu_468 dX10_findParts_171 ?_
            refine zcalli (zrunV (As := []) (rest := []) X hml hl hW h0.2.2.2.2.2.1.1 rfl zk_Main_386 (c_Told_moveEnds h0.2.2.2.2.2.1 h) rfl ⟨Nat.le_of_ble_eq_true rfl, Nat.le_of_ble_eq_true rfl⟩ ⟨Nat.le_refl 0, Nat.le_refl 0⟩ rfl (Nat.le_of_ble_eq_true rfl) dX10_findParts_174) hW (fun zr15 zm14 H locs h hW => ?_)
            refine lv_istore_n (lv' := [(1, .int zr15), (0, .ref (zad w 0)), (2, .int x_2)]) hx hb dX10_findParts_177 rfl hl (Nat.le_of_ble_eq_true rfl) rfl (fun ls hl => ?_)
            obtain ⟨zx16, ezx16⟩ : ∃ y : Int32, y = x_2 + 1 := ⟨_, rfl⟩
            replace h := h zx16 ezx16
            refine lv_iinc (v := zx16) (lv' := [(2, .int zx16), (1, .int zr15), (0, .ref (zad w 0))]) hx hb dX10_findParts_178 hl (k := 2) rfl (by rw [ezx16, zc_i1]) (Nat.le_of_ble_eq_true rfl) rfl (fun ls hl => ?_)
            refine lv_goto (tgt := 91) hx hb dX10_findParts_181 rfl ?_
            exact zJ zr15 zx16 zm14 H locs ls hW (lv_sub hl [2, 1, 0] rfl) h
          · replace h := h.2 c
            refine lv_aload_n hx hb dX10_findParts_155 rfl (lv_at hl 0 rfl) ?_
            refine zg_Main_bestParts X hW h0 zu_478 dX10_findParts_156 ?_
            refine lv_aload_n hx hb dX10_findParts_159 rfl (lv_at hl 0 rfl) ?_
            refine zg_Main_variant X hW h0 zu_468 dX10_findParts_160 ?_
            refine lv_aload_n hx hb dX10_findParts_163 rfl (lv_at hl 0 rfl) ?_
            refine zg_Main_variantRing X hW h0 zu_476 dX10_findParts_164 ?_
            refine zcallv (zrunV (As := [.ref (zad w 6), .ref (zad w 55)]) (rest := []) X hml hl hW h0.2.2.2.2.2.2.2.2.2.2.2.2.2.1 rfl zk_Main_383 (c_Parts_takeFrom h0.2.2.2.2.2.2.2.2.2.2.2.2.2 h0.2.2.2.2.2.1 h0.2.2.2.2.2.2.2.2.2.2.2.1 h) rfl ⟨Nat.le_of_ble_eq_true rfl, Nat.le_of_ble_eq_true rfl⟩ ⟨Nat.le_refl 0, Nat.le_refl 0⟩ rfl (Nat.le_of_ble_eq_true rfl) dX10_findParts_167) hW (fun zm17 H locs h hW => ?_)
            refine lv_aload_n hx hb dX10_findParts_170 rfl (lv_at hl 0 rfl) ?_
            refine zg_Main_variant X hW h0 zu_468 dX10_findParts_171 ?_
            refine zcalli (zrunV (As := []) (rest := []) X hml hl hW h0.2.2.2.2.2.1.1 rfl zk_Main_386 (c_Told_moveEnds h0.2.2.2.2.2.1 h) rfl ⟨Nat.le_of_ble_eq_true rfl, Nat.le_of_ble_eq_true rfl⟩ ⟨Nat.le_refl 0, Nat.le_refl 0⟩ rfl (Nat.le_of_ble_eq_true rfl) dX10_findParts_174) hW (fun zr20 zm19 H locs h hW => ?_)
            refine lv_istore_n (lv' := [(1, .int zr20), (0, .ref (zad w 0)), (2, .int x_2)]) hx hb dX10_findParts_177 rfl hl (Nat.le_of_ble_eq_true rfl) rfl (fun ls hl => ?_)
            obtain ⟨zx21, ezx21⟩ : ∃ y : Int32, y = x_2 + 1 := ⟨_, rfl⟩
            replace h := h zx21 ezx21
            refine lv_iinc (v := zx21) (lv' := [(2, .int zx21), (1, .int zr20), (0, .ref (zad w 0))]) hx hb dX10_findParts_178 hl (k := 2) rfl (by rw [ezx21, zc_i1]) (Nat.le_of_ble_eq_true rfl) rfl (fun ls hl => ?_)
            refine lv_goto (tgt := 91) hx hb dX10_findParts_181 rfl ?_
            exact zJ zr20 zx21 zm19 H locs ls hW (lv_sub hl [2, 1, 0] rfl) h
  unfold wp_Main_findParts at h
  have zMain : ∀ (H : Heap) (locs : List Loc) (ls : Array Slot), zWo w s.heap M H locs → lv_has ls 3 [(0, .ref (zad w 0))] → W p l e (zRm 5 118) s m ([.ref (zad w 0)] : List Value).toArray below meth c H locs 0 0 (MQ below (va_Qv post (zB w) (zA w)) ([.ref (zad w 0)] : List Value).toArray s 0 0 (zA w)) (F0 m 0 ls []) := by
    intro H locs ls hW hl
    refine lv_aload_n hx hb dX10_findParts_0 rfl (lv_at hl 0 rfl) ?_
    refine zg_Main_bestParts X hW h0 zu_478 dX10_findParts_1 ?_
    refine zg_Parts_known X hW h0.2.2.2.2.2.2.2.2.2.2.2.2.2 zu_354 dX10_findParts_4 ?_
    refine lv_if_eq (tgt := 11) hx hb dX10_findParts_7 rfl (fun c => ?_) (fun c => ?_)
    · replace h := h.1 c
      refine lv_aload_n hx hb dX10_findParts_11 rfl (lv_at hl 0 rfl) ?_
      refine zg_Main_bestParts X hW h0 zu_478 dX10_findParts_12 ?_
      refine lv_iconst hx hb dX10_findParts_15 zc_i1 ?_
      refine zp_Parts_known X hW h0.2.2.2.2.2.2.2.2.2.2.2.2.2 zbo_1 zu_354 dX10_findParts_16 (fun H locs zm1 ezm1 hW => ?_)
      replace h := h zm1 ezm1
      refine lv_aload_n hx hb dX10_findParts_19 rfl (lv_at hl 0 rfl) ?_
      refine zg_Main_bestParts X hW h0 zu_478 dX10_findParts_20 ?_
      refine lv_iconst hx hb dX10_findParts_23 zc_im1 ?_
      refine zp_Parts_top X hW h0.2.2.2.2.2.2.2.2.2.2.2.2.2 zu_356 dX10_findParts_24 (fun H locs zm2 ezm2 hW => ?_)
      replace h := h zm2 ezm2
      refine lv_aload_n hx hb dX10_findParts_27 rfl (lv_at hl 0 rfl) ?_
      refine zg_Main_bestParts X hW h0 zu_478 dX10_findParts_28 ?_
      refine lv_iconst hx hb dX10_findParts_31 zc_i1 ?_
      refine zp_Parts_bottom X hW h0.2.2.2.2.2.2.2.2.2.2.2.2.2 zu_358 dX10_findParts_32 (fun H locs zm3 ezm3 hW => ?_)
      replace h := h zm3 ezm3
      refine lv_aload_n hx hb dX10_findParts_35 rfl (lv_at hl 0 rfl) ?_
      refine zg_Main_variant X hW h0 zu_468 dX10_findParts_36 ?_
      refine lv_aload_n hx hb dX10_findParts_39 rfl (lv_at hl 0 rfl) ?_
      refine zg_Main_told X hW h0 zu_467 dX10_findParts_40 ?_
      refine zcallv (zrunV (As := [.ref (zad w 1)]) (rest := []) X hml hl hW h0.2.2.2.2.2.1.1 rfl zk_Main_117 (c_Told_copyFrom h0.2.2.2.2.2.1 h0.2.2.2.2.1 h) rfl ⟨Nat.le_of_ble_eq_true rfl, Nat.le_of_ble_eq_true rfl⟩ ⟨Nat.le_refl 0, Nat.le_refl 0⟩ rfl (Nat.le_of_ble_eq_true rfl) dX10_findParts_43) hW (fun zm4 H locs h hW => ?_)
      refine lv_aload_n hx hb dX10_findParts_46 rfl (lv_at hl 0 rfl) ?_
      refine zg_Main_variant X hW h0 zu_468 dX10_findParts_47 ?_
      refine lv_iconst hx hb dX10_findParts_50 zc_i2 ?_
      refine zp_Told_kind X hW h0.2.2.2.2.2.1 zu_50 dX10_findParts_51 (fun H locs zm6 ezm6 hW => ?_)
      replace h := h zm6 ezm6
      refine lv_iconst hx hb dX10_findParts_54 zc_i0 ?_
      refine lv_istore_n (lv' := [(1, .int 0), (0, .ref (zad w 0))]) hx hb dX10_findParts_55 rfl hl (Nat.le_of_ble_eq_true rfl) rfl (fun ls hl => ?_)
      obtain ⟨n, h⟩ := h
      refine zL_56  _ (fun  zm9 H locs ls hW hl h => ?_) n 0 zm6 H locs ls hW (lv_sub hl [1, 0] rfl) h
      · skip
        refine lv_iconst hx hb dX10_findParts_87 zc_i1 ?_
        refine lv_istore_n (lv' := [(1, .int 1), (0, .ref (zad w 0))]) hx hb dX10_findParts_88 rfl hl (Nat.le_of_ble_eq_true rfl) rfl (fun ls hl => ?_)
        refine lv_iconst hx hb dX10_findParts_89 zc_i0 ?_
        refine lv_istore_n (lv' := [(2, .int 0), (1, .int 1), (0, .ref (zad w 0))]) hx hb dX10_findParts_90 rfl hl (Nat.le_of_ble_eq_true rfl) rfl (fun ls hl => ?_)
        obtain ⟨n, h⟩ := h
        refine zL_91   n 1 0 zm9 H locs ls hW (lv_sub hl [2, 1, 0] rfl) h
    · replace h := h.2 c
      exact zretv X hr hlk hW h dX10_findParts_10
  exact zMain s.heap [] ls hW hl
def wpJ_Main_parts_41 (a1 : Int32)  (Q : Int32 → zMem → Prop) (x_2 : Int32)  (M : zMem) : Prop :=
  ((M 1 1) ≤ (M 1 0) → wp_Main_findParts M (fun zm3 => (x_2 = 0 → (¬ a1 = 0 → Q (zm3 60 2) zm3) ∧ (a1 = 0 → Q (zm3 60 1) zm3)) ∧ (¬ x_2 = 0 → vp_in (a1 - 10) 5 ∧ Q (zm3 61 (ix (a1 - 10))) zm3))) ∧ (¬ (M 1 1) ≤ (M 1 0) → Q ((-4)) M)
def wpJ_Main_parts_27 (a1 : Int32)  (Q : Int32 → zMem → Prop)  (s_0 : Int32) (M : zMem) : Prop :=
  wp_Main_isHalf a1 M (fun zr2 zm1 => (¬ zr2 = 0 → wpJ_Main_parts_41 a1 Q s_0 zm1) ∧ (zr2 = 0 → (¬ s_0 = 0 → wpJ_Main_parts_41 a1 Q s_0 zm1) ∧ (s_0 = 0 → Q ((-1)) zm1)))
def wpJ_Main_parts_26 (a1 : Int32)  (Q : Int32 → zMem → Prop)   (M : zMem) : Prop :=
  wpJ_Main_parts_27 a1 Q 0 M
def wp_Main_parts (a1 : Int32) (M : zMem) (Q : Int32 → zMem → Prop) : Prop :=
  (a1 < 10 → wpJ_Main_parts_26 a1 Q M) ∧ (¬ a1 < 10 → (((10 + (M 1 1)) - 1) ≤ a1 → wpJ_Main_parts_26 a1 Q M) ∧ (¬ ((10 + (M 1 1)) - 1) ≤ a1 → wpJ_Main_parts_27 a1 Q 1 M))
set_option maxHeartbeats 4000000 in
set_option maxRecDepth 20000 in
theorem c_Main_parts {l : Launch} {w : zWd} {a1 : Int32} {M : zMem} {post : Int32 → zMem → Prop} (h0 : zI_Main w) (h : wp_Main_parts a1 M post) : zMi l ⟨"HandToHand", "parts", "(I)I"⟩ prog_1_method_30_code 3 (Option.some .int) 6 140 w [.ref (zad w 0), .int a1] M post := by
  refine zMet (by decide) (Nat.le_of_ble_eq_true rfl) ?_
  intro p e s m below meth c X hr hlk hml hW ls hl
  have hx := X.1
  have hb := X.2.1
  have hl : lv_has ls 3 [(0, .ref (zad w 0)), (1, .int a1)] := hl
  have zJ_41 : ∀ (x_2 : Int32) (M : zMem) (H : Heap) (locs : List Loc) (ls : Array Slot), zWo w s.heap M H locs → lv_has ls 3 [(0, .ref (zad w 0)), (1, .int a1), (2, .int x_2)] → wpJ_Main_parts_41 a1 post x_2 M → W p l e (zRm 6 140) s m ([.ref (zad w 0), .int a1] : List Value).toArray below meth c H locs 0 0 (MQ below (va_Qi post (zB w) (zA w)) ([.ref (zad w 0), .int a1] : List Value).toArray s 0 0 (zA w)) (F0 m 41 ls []) := by
    intro x_2 M H locs ls hW hl h
    unfold wpJ_Main_parts_41 at h
    refine lv_aload_n hx hb dX10_parts_41 rfl (lv_at hl 0 rfl) ?_
    refine zg_Main_told X hW h0 zu_467 dX10_parts_42 ?_
    refine zg_Told_pieces X hW h0.2.2.2.2.1 zu_35 dX10_parts_45 ?_
    refine lv_aload_n hx hb dX10_parts_48 rfl (lv_at hl 0 rfl) ?_
    refine zg_Main_told X hW h0 zu_467 dX10_parts_49 ?_
    refine zg_Told_hands X hW h0.2.2.2.2.1 zu_41 dX10_parts_52 ?_
    refine lv_icmp_ge (tgt := 61) hx hb dX10_parts_55 rfl (fun c => ?_) (fun c => ?_)
    · replace h := h.1 c
      refine lv_aload_n hx hb dX10_parts_61 rfl (lv_at hl 0 rfl) ?_
      refine zcallv (zrunV (As := []) (rest := []) X hml hl hW h0.1 rfl zk_Main_324 (c_Main_findParts h0 h) rfl ⟨Nat.le_of_ble_eq_true rfl, Nat.le_of_ble_eq_true rfl⟩ ⟨Nat.le_refl 0, Nat.le_refl 0⟩ rfl (Nat.le_of_ble_eq_true rfl) dX10_parts_62) hW (fun zm3 H locs h hW => ?_)
      refine lv_iload_n hx hb dX10_parts_65 rfl (lv_at hl 2 rfl) ?_
      refine lv_if_eq (tgt := 82) hx hb dX10_parts_66 rfl (fun c => ?_) (fun c => ?_)
      · replace h := h.1 c
        refine lv_iload_n hx hb dX10_parts_82 rfl (lv_at hl 1 rfl) ?_
        refine lv_if_ne (tgt := 96) hx hb dX10_parts_83 rfl (fun c => ?_) (fun c => ?_)
        · replace h := h.1 c
          refine lv_aload_n hx hb dX10_parts_96 rfl (lv_at hl 0 rfl) ?_
          refine zg_Main_bestParts X hW h0 zu_478 dX10_parts_97 ?_
          refine zg_Parts_bottom X hW h0.2.2.2.2.2.2.2.2.2.2.2.2.2 zu_358 dX10_parts_100 ?_
          exact zreti X hr hlk hW h dX10_parts_103
        · replace h := h.2 c
          refine lv_aload_n hx hb dX10_parts_86 rfl (lv_at hl 0 rfl) ?_
          refine zg_Main_bestParts X hW h0 zu_478 dX10_parts_87 ?_
          refine zg_Parts_top X hW h0.2.2.2.2.2.2.2.2.2.2.2.2.2 zu_356 dX10_parts_90 ?_
          refine lv_goto (tgt := 103) hx hb dX10_parts_93 rfl ?_
          exact zreti X hr hlk hW h dX10_parts_103
      · replace h := h.2 c
        refine lv_aload_n hx hb dX10_parts_69 rfl (lv_at hl 0 rfl) ?_
        refine zg_Main_bestParts X hW h0 zu_478 dX10_parts_70 ?_
        refine zg_Parts_ends X hW h0.2.2.2.2.2.2.2.2.2.2.2.2.2 zu_360 dX10_parts_73 ?_
        refine lv_iload_n hx hb dX10_parts_76 rfl (lv_at hl 1 rfl) ?_
        refine lv_bipush hx hb dX10_parts_77 zc_b10 ?_
        refine lv_isub hx hb dX10_parts_79 ?_
        obtain ⟨g, h⟩ := h
        refine ziald X hW h0.2.2.2.2.2.2.2.2.2.2.2.2.2.2 g dX10_parts_80 ?_
        exact zreti X hr hlk hW h dX10_parts_81
    · replace h := h.2 c
      refine lv_bipush hx hb dX10_parts_58 zc_bm4 ?_
      exact zreti X hr hlk hW h dX10_parts_60
  have zJ_27 : ∀ (s_0 : Int32) (M : zMem) (H : Heap) (locs : List Loc) (ls : Array Slot), zWo w s.heap M H locs → lv_has ls 3 [(0, .ref (zad w 0)), (1, .int a1)] → wpJ_Main_parts_27 a1 post s_0 M → W p l e (zRm 6 140) s m ([.ref (zad w 0), .int a1] : List Value).toArray below meth c H locs 0 0 (MQ below (va_Qi post (zB w) (zA w)) ([.ref (zad w 0), .int a1] : List Value).toArray s 0 0 (zA w)) (F0 m 27 ls [.int s_0]) := by
    intro s_0 M H locs ls hW hl h
    unfold wpJ_Main_parts_27 at h
    refine lv_istore_n (lv' := [(2, .int s_0), (0, .ref (zad w 0)), (1, .int a1)]) hx hb dX10_parts_27 rfl hl (Nat.le_of_ble_eq_true rfl) rfl (fun ls hl => ?_)
    refine lv_iload_n hx hb dX10_parts_28 rfl (lv_at hl 2 rfl) ?_
    refine zcalli (zrunS (As := [.int a1]) (rest := []) X hml hl hW zk_Main_278 (c_Main_isHalf  h) rfl ⟨Nat.le_of_ble_eq_true rfl, Nat.le_of_ble_eq_true rfl⟩ ⟨Nat.le_refl 0, Nat.le_refl 0⟩ rfl (Nat.le_of_ble_eq_true rfl) dX10_parts_29) hW (fun zr2 zm1 H locs h hW => ?_)
    refine lv_if_ne (tgt := 41) hx hb dX10_parts_32 rfl (fun c => ?_) (fun c => ?_)
    · replace h := h.1 c
      exact zJ_41 s_0 zm1 H locs ls hW (lv_sub hl [1, 2, 0] rfl) h
    · replace h := h.2 c
      refine lv_iload_n hx hb dX10_parts_35 rfl (lv_at hl 0 rfl) ?_
      refine lv_if_ne (tgt := 41) hx hb dX10_parts_36 rfl (fun c => ?_) (fun c => ?_)
      · replace h := h.1 c
        exact zJ_41 s_0 zm1 H locs ls hW (lv_sub hl [1, 2, 0] rfl) h
      · replace h := h.2 c
        refine lv_iconst hx hb dX10_parts_39 zc_im1 ?_
        exact zreti X hr hlk hW h dX10_parts_40
  have zJ_26 : ∀ (M : zMem) (H : Heap) (locs : List Loc) (ls : Array Slot), zWo w s.heap M H locs → lv_has ls 3 [(0, .ref (zad w 0)), (1, .int a1)] → wpJ_Main_parts_26 a1 post M → W p l e (zRm 6 140) s m ([.ref (zad w 0), .int a1] : List Value).toArray below meth c H locs 0 0 (MQ below (va_Qi post (zB w) (zA w)) ([.ref (zad w 0), .int a1] : List Value).toArray s 0 0 (zA w)) (F0 m 26 ls []) := by
    intro  M H locs ls hW hl h
    unfold wpJ_Main_parts_26 at h
    refine lv_iconst hx hb dX10_parts_26 zc_i0 ?_
    exact zJ_27 0 M H locs ls hW (lv_sub hl [0, 1] rfl) h
  unfold wp_Main_parts at h
  have zMain : ∀ (H : Heap) (locs : List Loc) (ls : Array Slot), zWo w s.heap M H locs → lv_has ls 3 [(0, .ref (zad w 0)), (1, .int a1)] → W p l e (zRm 6 140) s m ([.ref (zad w 0), .int a1] : List Value).toArray below meth c H locs 0 0 (MQ below (va_Qi post (zB w) (zA w)) ([.ref (zad w 0), .int a1] : List Value).toArray s 0 0 (zA w)) (F0 m 0 ls []) := by
    intro H locs ls hW hl
    refine lv_iload_n hx hb dX10_parts_0 rfl (lv_at hl 1 rfl) ?_
    refine lv_bipush hx hb dX10_parts_1 zc_b10 ?_
    refine lv_icmp_lt (tgt := 26) hx hb dX10_parts_3 rfl (fun c => ?_) (fun c => ?_)
    · replace h := h.1 c
      exact zJ_26  M H locs ls hW (lv_sub hl [0, 1] rfl) h
    · replace h := h.2 c
      refine lv_iload_n hx hb dX10_parts_6 rfl (lv_at hl 1 rfl) ?_
      refine lv_bipush hx hb dX10_parts_7 zc_b10 ?_
      refine lv_aload_n hx hb dX10_parts_9 rfl (lv_at hl 0 rfl) ?_
      refine zg_Main_told X hW h0 zu_467 dX10_parts_10 ?_
      refine zg_Told_hands X hW h0.2.2.2.2.1 zu_41 dX10_parts_13 ?_
      refine lv_iadd hx hb dX10_parts_16 ?_
      refine lv_iconst hx hb dX10_parts_17 zc_i1 ?_
      refine lv_isub hx hb dX10_parts_18 ?_
      refine lv_icmp_ge (tgt := 26) hx hb dX10_parts_19 rfl (fun c => ?_) (fun c => ?_)
      · replace h := h.1 c
        exact zJ_26  M H locs ls hW (lv_sub hl [0, 1] rfl) h
      · replace h := h.2 c
        refine lv_iconst hx hb dX10_parts_22 zc_i1 ?_
        refine lv_goto (tgt := 27) hx hb dX10_parts_23 rfl ?_
        exact zJ_27 1 M H locs ls hW (lv_sub hl [0, 1] rfl) h
  exact zMain s.heap [] ls hW hl
def wp_Main_less (a1 : Int32) (a2 : Int32) (M : zMem) (Q : Int32 → zMem → Prop) : Prop :=
  wp_Main_isHand a1 M (fun zr2 zm1 => (zr2 = 0 → Q ((-1)) zm1) ∧ (¬ zr2 = 0 → wp_Main_isHalf a2 zm1 (fun zr4 zm3 => (¬ zr4 = 0 → (¬ (zm3 1 1) = 1 → wp_Told_copyFrom 6 1 zm3 (fun zm5 => wp_Told_dropHand 6 a1 zm5 (fun zm7 => wp_Settling_settle 41 6 55 zm7 (fun zm9 => (¬ a2 = 0 → Q (zm9 55 7) zm9) ∧ (a2 = 0 → Q (zm9 55 6) zm9))))) ∧ ((zm3 1 1) = 1 → Q ((-2)) zm3)) ∧ (zr4 = 0 → Q ((-1)) zm3))))
set_option maxHeartbeats 4000000 in
set_option maxRecDepth 20000 in
theorem c_Main_less {l : Launch} {w : zWd} {a1 : Int32} {a2 : Int32} {M : zMem} {post : Int32 → zMem → Prop} (h0 : zI_Main w) (h : wp_Main_less a1 a2 M post) : zMi l ⟨"HandToHand", "less", "(II)I"⟩ prog_1_method_31_code 3 (Option.some .int) 5 118 w [.ref (zad w 0), .int a1, .int a2] M post := by
  refine zMet (by decide) (Nat.le_of_ble_eq_true rfl) ?_
  intro p e s m below meth c X hr hlk hml hW ls hl
  have hx := X.1
  have hb := X.2.1
  have hl : lv_has ls 3 [(0, .ref (zad w 0)), (1, .int a1), (2, .int a2)] := hl
  unfold wp_Main_less at h
  have zMain : ∀ (H : Heap) (locs : List Loc) (ls : Array Slot), zWo w s.heap M H locs → lv_has ls 3 [(0, .ref (zad w 0)), (1, .int a1), (2, .int a2)] → W p l e (zRm 5 118) s m ([.ref (zad w 0), .int a1, .int a2] : List Value).toArray below meth c H locs 0 0 (MQ below (va_Qi post (zB w) (zA w)) ([.ref (zad w 0), .int a1, .int a2] : List Value).toArray s 0 0 (zA w)) (F0 m 0 ls []) := by
    intro H locs ls hW hl
    refine lv_aload_n hx hb dX10_less_0 rfl (lv_at hl 0 rfl) ?_
    refine lv_iload_n hx hb dX10_less_1 rfl (lv_at hl 1 rfl) ?_
    refine zcalli (zrunV (As := [.int a1]) (rest := []) X hml hl hW h0.1 rfl zk_Main_165 (c_Main_isHand h0 h) rfl ⟨Nat.le_of_ble_eq_true rfl, Nat.le_of_ble_eq_true rfl⟩ ⟨Nat.le_refl 0, Nat.le_refl 0⟩ rfl (Nat.le_of_ble_eq_true rfl) dX10_less_2) hW (fun zr2 zm1 H locs h hW => ?_)
    refine lv_if_eq (tgt := 15) hx hb dX10_less_5 rfl (fun c => ?_) (fun c => ?_)
    · replace h := h.1 c
      refine lv_iconst hx hb dX10_less_15 zc_im1 ?_
      exact zreti X hr hlk hW h dX10_less_16
    · replace h := h.2 c
      refine lv_iload_n hx hb dX10_less_8 rfl (lv_at hl 2 rfl) ?_
      refine zcalli (zrunS (As := [.int a2]) (rest := []) X hml hl hW zk_Main_278 (c_Main_isHalf  h) rfl ⟨Nat.le_of_ble_eq_true rfl, Nat.le_of_ble_eq_true rfl⟩ ⟨Nat.le_refl 0, Nat.le_refl 0⟩ rfl (Nat.le_of_ble_eq_true rfl) dX10_less_9) hW (fun zr4 zm3 H locs h hW => ?_)
      refine lv_if_ne (tgt := 17) hx hb dX10_less_12 rfl (fun c => ?_) (fun c => ?_)
      · replace h := h.1 c
        refine lv_aload_n hx hb dX10_less_17 rfl (lv_at hl 0 rfl) ?_
        refine zg_Main_told X hW h0 zu_467 dX10_less_18 ?_
        refine zg_Told_hands X hW h0.2.2.2.2.1 zu_41 dX10_less_21 ?_
        refine lv_iconst hx hb dX10_less_24 zc_i1 ?_
        refine lv_icmp_ne (tgt := 31) hx hb dX10_less_25 rfl (fun c => ?_) (fun c => ?_)
        · replace h := h.1 c
          refine lv_aload_n hx hb dX10_less_31 rfl (lv_at hl 0 rfl) ?_
          refine zg_Main_variant X hW h0 zu_468 dX10_less_32 ?_
          refine lv_aload_n hx hb dX10_less_35 rfl (lv_at hl 0 rfl) ?_
          refine zg_Main_told X hW h0 zu_467 dX10_less_36 ?_
          refine zcallv (zrunV (As := [.ref (zad w 1)]) (rest := []) X hml hl hW h0.2.2.2.2.2.1.1 rfl zk_Main_117 (c_Told_copyFrom h0.2.2.2.2.2.1 h0.2.2.2.2.1 h) rfl ⟨Nat.le_of_ble_eq_true rfl, Nat.le_of_ble_eq_true rfl⟩ ⟨Nat.le_refl 0, Nat.le_refl 0⟩ rfl (Nat.le_of_ble_eq_true rfl) dX10_less_39) hW (fun zm5 H locs h hW => ?_)
          refine lv_aload_n hx hb dX10_less_42 rfl (lv_at hl 0 rfl) ?_
          refine zg_Main_variant X hW h0 zu_468 dX10_less_43 ?_
          refine lv_iload_n hx hb dX10_less_46 rfl (lv_at hl 1 rfl) ?_
          refine zcallv (zrunV (As := [.int a1]) (rest := []) X hml hl hW h0.2.2.2.2.2.1.1 rfl zk_Main_330 (c_Told_dropHand h0.2.2.2.2.2.1 h) rfl ⟨Nat.le_of_ble_eq_true rfl, Nat.le_of_ble_eq_true rfl⟩ ⟨Nat.le_refl 0, Nat.le_refl 0⟩ rfl (Nat.le_of_ble_eq_true rfl) dX10_less_47) hW (fun zm7 H locs h hW => ?_)
          refine lv_aload_n hx hb dX10_less_50 rfl (lv_at hl 0 rfl) ?_
          refine zg_Main_settling X hW h0 zu_474 dX10_less_51 ?_
          refine lv_aload_n hx hb dX10_less_54 rfl (lv_at hl 0 rfl) ?_
          refine zg_Main_variant X hW h0 zu_468 dX10_less_55 ?_
          refine lv_aload_n hx hb dX10_less_58 rfl (lv_at hl 0 rfl) ?_
          refine zg_Main_variantRing X hW h0 zu_476 dX10_less_59 ?_
          refine zcallv (zrunV (As := [.ref (zad w 6), .ref (zad w 55)]) (rest := []) X hml hl hW h0.2.2.2.2.2.2.2.2.2.1.1 rfl zk_Main_333 (c_Settling_settle h0.2.2.2.2.2.2.2.2.2.1 h0.2.2.2.2.2.1 h0.2.2.2.2.2.2.2.2.2.2.2.1 h) rfl ⟨Nat.le_of_ble_eq_true rfl, Nat.le_of_ble_eq_true rfl⟩ ⟨Nat.le_refl 0, Nat.le_refl 0⟩ rfl (Nat.le_of_ble_eq_true rfl) dX10_less_62) hW (fun zm9 H locs h hW => ?_)
          refine lv_iload_n hx hb dX10_less_65 rfl (lv_at hl 2 rfl) ?_
          refine lv_if_ne (tgt := 79) hx hb dX10_less_66 rfl (fun c => ?_) (fun c => ?_)
          · replace h := h.1 c
            refine lv_aload_n hx hb dX10_less_79 rfl (lv_at hl 0 rfl) ?_
            refine zg_Main_variantRing X hW h0 zu_476 dX10_less_80 ?_
            refine zg_Ring_bottom X hW h0.2.2.2.2.2.2.2.2.2.2.2.1 zu_311 dX10_less_83 ?_
            exact zreti X hr hlk hW h dX10_less_86
          · replace h := h.2 c
            refine lv_aload_n hx hb dX10_less_69 rfl (lv_at hl 0 rfl) ?_
            refine zg_Main_variantRing X hW h0 zu_476 dX10_less_70 ?_
            refine zg_Ring_top X hW h0.2.2.2.2.2.2.2.2.2.2.2.1 zu_308 dX10_less_73 ?_
            refine lv_goto (tgt := 86) hx hb dX10_less_76 rfl ?_
            exact zreti X hr hlk hW h dX10_less_86
        · replace h := h.2 c
          refine lv_bipush hx hb dX10_less_28 zc_bm2 ?_
          exact zreti X hr hlk hW h dX10_less_30
      · replace h := h.2 c
        refine lv_iconst hx hb dX10_less_15 zc_im1 ?_
        exact zreti X hr hlk hW h dX10_less_16
  exact zMain s.heap [] ls hW hl
def wp_Main_isSheet (a1 : Int32) (M : zMem) (Q : Int32 → zMem → Prop) : Prop :=
  (a1 < 0 → Q 0 M) ∧ (¬ a1 < 0 → (4 ≤ a1 → Q 0 M) ∧ (¬ 4 ≤ a1 → Q 1 M))
set_option maxHeartbeats 4000000 in
set_option maxRecDepth 20000 in
theorem c_Main_isSheet {l : Launch} {w : zWd} {a1 : Int32} {M : zMem} {post : Int32 → zMem → Prop}  (h : wp_Main_isSheet a1 M post) : zMi l ⟨"HandToHand", "isSheet", "(I)Z"⟩ prog_1_method_43_code 1 (Option.some .boolean) 0 0 w [.int a1] M post := by
  refine zMet (by decide) (Nat.le_of_ble_eq_true rfl) ?_
  intro p e s m below meth c X hr hlk hml hW ls hl
  have hx := X.1
  have hb := X.2.1
  have hl : lv_has ls 1 [(0, .int a1)] := hl
  unfold wp_Main_isSheet at h
  have zMain : ∀ (H : Heap) (locs : List Loc) (ls : Array Slot), zWo w s.heap M H locs → lv_has ls 1 [(0, .int a1)] → W p l e (zRm 0 0) s m ([.int a1] : List Value).toArray below meth c H locs 0 0 (MQ below (va_Qi post (zB w) (zA w)) ([.int a1] : List Value).toArray s 0 0 (zA w)) (F0 m 0 ls []) := by
    intro H locs ls hW hl
    refine lv_iload_n hx hb dX10_isSheet_0 rfl (lv_at hl 0 rfl) ?_
    refine lv_if_lt (tgt := 13) hx hb dX10_isSheet_1 rfl (fun c => ?_) (fun c => ?_)
    · replace h := h.1 c
      refine lv_iconst hx hb dX10_isSheet_13 zc_i0 ?_
      exact zretz X hr hlk hW rfl h dX10_isSheet_14
    · replace h := h.2 c
      refine lv_iload_n hx hb dX10_isSheet_4 rfl (lv_at hl 0 rfl) ?_
      refine lv_iconst hx hb dX10_isSheet_5 zc_i4 ?_
      refine lv_icmp_ge (tgt := 13) hx hb dX10_isSheet_6 rfl (fun c => ?_) (fun c => ?_)
      · replace h := h.1 c
        refine lv_iconst hx hb dX10_isSheet_13 zc_i0 ?_
        exact zretz X hr hlk hW rfl h dX10_isSheet_14
      · replace h := h.2 c
        refine lv_iconst hx hb dX10_isSheet_9 zc_i1 ?_
        refine lv_goto (tgt := 14) hx hb dX10_isSheet_10 rfl ?_
        exact zretz X hr hlk hW rfl h dX10_isSheet_14
  exact zMain s.heap [] ls hW hl
def wp_Main_isLane (a1 : Int32) (M : zMem) (Q : Int32 → zMem → Prop) : Prop :=
  (a1 < 0 → Q 0 M) ∧ (¬ a1 < 0 → (3 ≤ a1 → Q 0 M) ∧ (¬ 3 ≤ a1 → Q 1 M))
set_option maxHeartbeats 4000000 in
set_option maxRecDepth 20000 in
theorem c_Main_isLane {l : Launch} {w : zWd} {a1 : Int32} {M : zMem} {post : Int32 → zMem → Prop}  (h : wp_Main_isLane a1 M post) : zMi l ⟨"HandToHand", "isLane", "(I)Z"⟩ prog_1_method_44_code 1 (Option.some .boolean) 0 0 w [.int a1] M post := by
  refine zMet (by decide) (Nat.le_of_ble_eq_true rfl) ?_
  intro p e s m below meth c X hr hlk hml hW ls hl
  have hx := X.1
  have hb := X.2.1
  have hl : lv_has ls 1 [(0, .int a1)] := hl
  unfold wp_Main_isLane at h
  have zMain : ∀ (H : Heap) (locs : List Loc) (ls : Array Slot), zWo w s.heap M H locs → lv_has ls 1 [(0, .int a1)] → W p l e (zRm 0 0) s m ([.int a1] : List Value).toArray below meth c H locs 0 0 (MQ below (va_Qi post (zB w) (zA w)) ([.int a1] : List Value).toArray s 0 0 (zA w)) (F0 m 0 ls []) := by
    intro H locs ls hW hl
    refine lv_iload_n hx hb dX10_isLane_0 rfl (lv_at hl 0 rfl) ?_
    refine lv_if_lt (tgt := 13) hx hb dX10_isLane_1 rfl (fun c => ?_) (fun c => ?_)
    · replace h := h.1 c
      refine lv_iconst hx hb dX10_isLane_13 zc_i0 ?_
      exact zretz X hr hlk hW rfl h dX10_isLane_14
    · replace h := h.2 c
      refine lv_iload_n hx hb dX10_isLane_4 rfl (lv_at hl 0 rfl) ?_
      refine lv_iconst hx hb dX10_isLane_5 zc_i3 ?_
      refine lv_icmp_ge (tgt := 13) hx hb dX10_isLane_6 rfl (fun c => ?_) (fun c => ?_)
      · replace h := h.1 c
        refine lv_iconst hx hb dX10_isLane_13 zc_i0 ?_
        exact zretz X hr hlk hW rfl h dX10_isLane_14
      · replace h := h.2 c
        refine lv_iconst hx hb dX10_isLane_9 zc_i1 ?_
        refine lv_goto (tgt := 14) hx hb dX10_isLane_10 rfl ?_
        exact zretz X hr hlk hW rfl h dX10_isLane_14
  exact zMain s.heap [] ls hW hl
def wp_Main_sheet (a1 : Int32) (a2 : Int32) (a3 : Int32) (M : zMem) (Q : Int32 → zMem → Prop) : Prop :=
  wp_Main_isSheet a1 M (fun zr2 zm1 => (zr2 = 0 → Q ((-1)) zm1) ∧ (¬ zr2 = 0 → wp_Main_isLane a2 zm1 (fun zr4 zm3 => (zr4 = 0 → Q ((-1)) zm3) ∧ (¬ zr4 = 0 → (a3 ≤ 40 → (0 ≤ a3 → vp_in a1 4 ∧ wp_Sheet_makeNew (81 + 2 * ix a1) a2 a3 zm3 (fun zm5 => Q 1 zm5)) ∧ (¬ 0 ≤ a3 → Q ((-14)) zm3)) ∧ (¬ a3 ≤ 40 → Q ((-1)) zm3)))))
set_option maxHeartbeats 4000000 in
set_option maxRecDepth 20000 in
theorem c_Main_sheet {l : Launch} {w : zWd} {a1 : Int32} {a2 : Int32} {a3 : Int32} {M : zMem} {post : Int32 → zMem → Prop} (h0 : zI_Main w) (h : wp_Main_sheet a1 a2 a3 M post) : zMi l ⟨"HandToHand", "sheet", "(III)I"⟩ prog_1_method_32_code 4 (Option.some .int) 1 23 w [.ref (zad w 0), .int a1, .int a2, .int a3] M post := by
  refine zMet (by decide) (Nat.le_of_ble_eq_true rfl) ?_
  intro p e s m below meth c X hr hlk hml hW ls hl
  have hx := X.1
  have hb := X.2.1
  have hl : lv_has ls 4 [(0, .ref (zad w 0)), (1, .int a1), (2, .int a2), (3, .int a3)] := hl
  unfold wp_Main_sheet at h
  have zMain : ∀ (H : Heap) (locs : List Loc) (ls : Array Slot), zWo w s.heap M H locs → lv_has ls 4 [(0, .ref (zad w 0)), (1, .int a1), (2, .int a2), (3, .int a3)] → W p l e (zRm 1 23) s m ([.ref (zad w 0), .int a1, .int a2, .int a3] : List Value).toArray below meth c H locs 0 0 (MQ below (va_Qi post (zB w) (zA w)) ([.ref (zad w 0), .int a1, .int a2, .int a3] : List Value).toArray s 0 0 (zA w)) (F0 m 0 ls []) := by
    intro H locs ls hW hl
    refine lv_iload_n hx hb dX10_sheet_0 rfl (lv_at hl 1 rfl) ?_
    refine zcalli (zrunS (As := [.int a1]) (rest := []) X hml hl hW zk_Main_337 (c_Main_isSheet  h) rfl ⟨Nat.le_of_ble_eq_true rfl, Nat.le_of_ble_eq_true rfl⟩ ⟨Nat.le_refl 0, Nat.le_refl 0⟩ rfl (Nat.le_of_ble_eq_true rfl) dX10_sheet_1) hW (fun zr2 zm1 H locs h hW => ?_)
    refine lv_if_eq (tgt := 20) hx hb dX10_sheet_4 rfl (fun c => ?_) (fun c => ?_)
    · replace h := h.1 c
      refine lv_iconst hx hb dX10_sheet_20 zc_im1 ?_
      exact zreti X hr hlk hW h dX10_sheet_21
    · replace h := h.2 c
      refine lv_iload_n hx hb dX10_sheet_7 rfl (lv_at hl 2 rfl) ?_
      refine zcalli (zrunS (As := [.int a2]) (rest := []) X hml hl hW zk_Main_340 (c_Main_isLane  h) rfl ⟨Nat.le_of_ble_eq_true rfl, Nat.le_of_ble_eq_true rfl⟩ ⟨Nat.le_refl 0, Nat.le_refl 0⟩ rfl (Nat.le_of_ble_eq_true rfl) dX10_sheet_8) hW (fun zr4 zm3 H locs h hW => ?_)
      refine lv_if_eq (tgt := 20) hx hb dX10_sheet_11 rfl (fun c => ?_) (fun c => ?_)
      · replace h := h.1 c
        refine lv_iconst hx hb dX10_sheet_20 zc_im1 ?_
        exact zreti X hr hlk hW h dX10_sheet_21
      · replace h := h.2 c
        refine lv_iload_n hx hb dX10_sheet_14 rfl (lv_at hl 3 rfl) ?_
        refine lv_bipush hx hb dX10_sheet_15 zc_b40 ?_
        refine lv_icmp_le (tgt := 22) hx hb dX10_sheet_17 rfl (fun c => ?_) (fun c => ?_)
        · replace h := h.1 c
          refine lv_iload_n hx hb dX10_sheet_22 rfl (lv_at hl 3 rfl) ?_
          refine lv_if_ge (tgt := 29) hx hb dX10_sheet_23 rfl (fun c => ?_) (fun c => ?_)
          · replace h := h.1 c
            refine lv_aload_n hx hb dX10_sheet_29 rfl (lv_at hl 0 rfl) ?_
            refine zg_Main_sheets X hW h0 zu_479 dX10_sheet_30 ?_
            refine lv_iload_n hx hb dX10_sheet_33 rfl (lv_at hl 1 rfl) ?_
            obtain ⟨g, h⟩ := h
            refine zaald_Sheet X hW h0.2.2.2.1 g dX10_sheet_34 ?_
            refine lv_iload_n hx hb dX10_sheet_35 rfl (lv_at hl 2 rfl) ?_
            refine lv_iload_n hx hb dX10_sheet_36 rfl (lv_at hl 3 rfl) ?_
            refine zcallv (zrunV (As := [.int a2, .int a3]) (rest := []) X hml hl hW (h0.2.2.2.1.2 _ (zix_lt g)).1 rfl zk_Main_343 (c_Sheet_makeNew (h0.2.2.2.1.2 _ (zix_lt g)) h) rfl ⟨Nat.le_of_ble_eq_true rfl, Nat.le_of_ble_eq_true rfl⟩ ⟨Nat.le_refl 0, Nat.le_refl 0⟩ rfl (Nat.le_of_ble_eq_true rfl) dX10_sheet_37) hW (fun zm5 H locs h hW => ?_)
            refine lv_iconst hx hb dX10_sheet_40 zc_i1 ?_
            exact zreti X hr hlk hW h dX10_sheet_41
          · replace h := h.2 c
            refine lv_bipush hx hb dX10_sheet_26 zc_bm14 ?_
            exact zreti X hr hlk hW h dX10_sheet_28
        · replace h := h.2 c
          refine lv_iconst hx hb dX10_sheet_20 zc_im1 ?_
          exact zreti X hr hlk hW h dX10_sheet_21
  exact zMain s.heap [] ls hW hl
def wp_Main_lay (a1 : Int32) (a2 : Int32) (a3 : Int32) (M : zMem) (Q : Int32 → zMem → Prop) : Prop :=
  wp_Main_isSheet a1 M (fun zr2 zm1 => (¬ zr2 = 0 → vp_in a1 4 ∧ (¬ (zm1 (81 + 2 * ix a1) 0) = (-1) → (a2 < 0 → Q ((-12)) zm1) ∧ (¬ a2 < 0 → (a2 < (zm1 (81 + 2 * ix a1) 1) → wp_Sheet_put (81 + 2 * ix a1) a2 a3 zm1 (fun zm3 => Q 1 zm3)) ∧ (¬ a2 < (zm1 (81 + 2 * ix a1) 1) → Q ((-12)) zm1))) ∧ ((zm1 (81 + 2 * ix a1) 0) = (-1) → Q ((-11)) zm1)) ∧ (zr2 = 0 → Q ((-1)) zm1))
set_option maxHeartbeats 4000000 in
set_option maxRecDepth 20000 in
theorem c_Main_lay {l : Launch} {w : zWd} {a1 : Int32} {a2 : Int32} {a3 : Int32} {M : zMem} {post : Int32 → zMem → Prop} (h0 : zI_Main w) (h : wp_Main_lay a1 a2 a3 M post) : zMi l ⟨"HandToHand", "lay", "(III)I"⟩ prog_1_method_33_code 5 (Option.some .int) 1 22 w [.ref (zad w 0), .int a1, .int a2, .int a3] M post := by
  refine zMet (by decide) (Nat.le_of_ble_eq_true rfl) ?_
  intro p e s m below meth c X hr hlk hml hW ls hl
  have hx := X.1
  have hb := X.2.1
  have hl : lv_has ls 5 [(0, .ref (zad w 0)), (1, .int a1), (2, .int a2), (3, .int a3)] := hl
  unfold wp_Main_lay at h
  have zMain : ∀ (H : Heap) (locs : List Loc) (ls : Array Slot), zWo w s.heap M H locs → lv_has ls 5 [(0, .ref (zad w 0)), (1, .int a1), (2, .int a2), (3, .int a3)] → W p l e (zRm 1 22) s m ([.ref (zad w 0), .int a1, .int a2, .int a3] : List Value).toArray below meth c H locs 0 0 (MQ below (va_Qi post (zB w) (zA w)) ([.ref (zad w 0), .int a1, .int a2, .int a3] : List Value).toArray s 0 0 (zA w)) (F0 m 0 ls []) := by
    intro H locs ls hW hl
    refine lv_iload_n hx hb dX10_lay_0 rfl (lv_at hl 1 rfl) ?_
    refine zcalli (zrunS (As := [.int a1]) (rest := []) X hml hl hW zk_Main_337 (c_Main_isSheet  h) rfl ⟨Nat.le_of_ble_eq_true rfl, Nat.le_of_ble_eq_true rfl⟩ ⟨Nat.le_refl 0, Nat.le_refl 0⟩ rfl (Nat.le_of_ble_eq_true rfl) dX10_lay_1) hW (fun zr2 zm1 H locs h hW => ?_)
    refine lv_if_ne (tgt := 9) hx hb dX10_lay_4 rfl (fun c => ?_) (fun c => ?_)
    · replace h := h.1 c
      refine lv_aload_n hx hb dX10_lay_9 rfl (lv_at hl 0 rfl) ?_
      refine zg_Main_sheets X hW h0 zu_479 dX10_lay_10 ?_
      refine lv_iload_n hx hb dX10_lay_13 rfl (lv_at hl 1 rfl) ?_
      obtain ⟨g, h⟩ := h
      refine zaald_Sheet X hW h0.2.2.2.1 g dX10_lay_14 ?_
      refine lv_astore (lv' := [(4, .ref (zad w (81 + 2 * ix a1))), (0, .ref (zad w 0)), (1, .int a1), (2, .int a2), (3, .int a3)]) hx hb dX10_lay_15 hl (Nat.le_of_ble_eq_true rfl) rfl (fun ls hl => ?_)
      refine lv_aload hx hb dX10_lay_17 (lv_at hl 0 rfl) ?_
      refine zg_Sheet_lane X hW (h0.2.2.2.1.2 _ (zix_lt g)) zu_390 dX10_lay_19 ?_
      refine lv_iconst hx hb dX10_lay_22 zc_im1 ?_
      refine lv_icmp_ne (tgt := 29) hx hb dX10_lay_23 rfl (fun c => ?_) (fun c => ?_)
      · replace h := h.1 c
        refine lv_iload_n hx hb dX10_lay_29 rfl (lv_at hl 3 rfl) ?_
        refine lv_if_lt (tgt := 42) hx hb dX10_lay_30 rfl (fun c => ?_) (fun c => ?_)
        · replace h := h.1 c
          refine lv_bipush hx hb dX10_lay_42 zc_bm12 ?_
          exact zreti X hr hlk hW h dX10_lay_44
        · replace h := h.2 c
          refine lv_iload_n hx hb dX10_lay_33 rfl (lv_at hl 3 rfl) ?_
          refine lv_aload hx hb dX10_lay_34 (lv_at hl 0 rfl) ?_
          refine zg_Sheet_size X hW (h0.2.2.2.1.2 _ (zix_lt g)) zu_392 dX10_lay_36 ?_
          refine lv_icmp_lt (tgt := 45) hx hb dX10_lay_39 rfl (fun c => ?_) (fun c => ?_)
          · replace h := h.1 c
            refine lv_aload hx hb dX10_lay_45 (lv_at hl 0 rfl) ?_
            refine lv_iload_n hx hb dX10_lay_47 rfl (lv_at hl 3 rfl) ?_
            refine lv_iload_n hx hb dX10_lay_48 rfl (lv_at hl 4 rfl) ?_
            refine zcallv (zrunV (As := [.int a2, .int a3]) (rest := []) X hml hl hW (h0.2.2.2.1.2 _ (zix_lt g)).1 rfl zk_Main_350 (c_Sheet_put (h0.2.2.2.1.2 _ (zix_lt g)) h) rfl ⟨Nat.le_of_ble_eq_true rfl, Nat.le_of_ble_eq_true rfl⟩ ⟨Nat.le_refl 0, Nat.le_refl 0⟩ rfl (Nat.le_of_ble_eq_true rfl) dX10_lay_49) hW (fun zm3 H locs h hW => ?_)
            refine lv_iconst hx hb dX10_lay_52 zc_i1 ?_
            exact zreti X hr hlk hW h dX10_lay_53
          · replace h := h.2 c
            refine lv_bipush hx hb dX10_lay_42 zc_bm12 ?_
            exact zreti X hr hlk hW h dX10_lay_44
      · replace h := h.2 c
        refine lv_bipush hx hb dX10_lay_26 zc_bm11 ?_
        exact zreti X hr hlk hW h dX10_lay_28
    · replace h := h.2 c
      refine lv_iconst hx hb dX10_lay_7 zc_im1 ?_
      exact zreti X hr hlk hW h dX10_lay_8
  exact zMain s.heap [] ls hW hl
def wpB_Main_hasPacesAlone_2 (t1 : Nat) (a2 : Int32)   (Q : Int32 → zMem → Prop) (J : Int32 → zMem → Prop) (x_3 : Int32) (M : zMem) : Prop :=
  ((M 1 0) ≤ x_3 → Q 1 M) ∧ (¬ (M 1 0) ≤ x_3 → vp_in (a2 + x_3) 40 ∧ wp_Main_isPace (M (t1 + 1) (ix (a2 + x_3))) M (fun zr2 zm1 => (¬ zr2 = 0 → ∀ zx3 : Int32, zx3 = x_3 + 1 → J zx3 zm1) ∧ (zr2 = 0 → Q 0 zm1)))
def wp_Main_hasPacesAlone (t1 : Nat) (a2 : Int32) (M : zMem) (Q : Int32 → zMem → Prop) : Prop :=
  ∃ n : Nat, zlp1 (wpB_Main_hasPacesAlone_2 t1 a2   Q) n 0 M
set_option maxHeartbeats 4000000 in
set_option maxRecDepth 20000 in
theorem c_Main_hasPacesAlone {l : Launch} {w : zWd} {t1 : Nat} {a2 : Int32} {M : zMem} {post : Int32 → zMem → Prop} (h0 : zI_Main w) (h1 : zI_Sheet w t1) (h : wp_Main_hasPacesAlone t1 a2 M post) : zMi l ⟨"HandToHand", "hasPacesAlone", "(LHandToHand$Sheet;I)Z"⟩ prog_1_method_52_code 4 (Option.some .boolean) 1 20 w [.ref (zad w 0), .ref (zad w t1), .int a2] M post := by
  refine zMet (by decide) (Nat.le_of_ble_eq_true rfl) ?_
  intro p e s m below meth c X hr hlk hml hW ls hl
  have hx := X.1
  have hb := X.2.1
  have hl : lv_has ls 4 [(0, .ref (zad w 0)), (1, .ref (zad w t1)), (2, .int a2)] := hl
  have zL_2 :  ∀ (n : Nat) (x_3 : Int32) (M : zMem) (H : Heap) (locs : List Loc) (ls : Array Slot), zWo w s.heap M H locs → lv_has ls 4 [(0, .ref (zad w 0)), (1, .ref (zad w t1)), (2, .int a2), (3, .int x_3)] → zlp1 (wpB_Main_hasPacesAlone_2 t1 a2   post) n x_3 M → W p l e (zRm 1 20) s m ([.ref (zad w 0), .ref (zad w t1), .int a2] : List Value).toArray below meth c H locs 0 0 (MQ below (va_Qi post (zB w) (zA w)) ([.ref (zad w 0), .ref (zad w t1), .int a2] : List Value).toArray s 0 0 (zA w)) (F0 m 2 ls []) := by
    intro n
    induction n with
    | zero => intro x_3 M H locs ls hW hl h; exact h.elim
    | succ n zJ =>
      intro x_3 M H locs ls hW hl h
      have h : wpB_Main_hasPacesAlone_2 t1 a2   post (zlp1 (wpB_Main_hasPacesAlone_2 t1 a2   post) n) x_3 M := h
      unfold wpB_Main_hasPacesAlone_2 at h
      refine lv_iload_n hx hb dX10_hasPacesAlone_2 rfl (lv_at hl 3 rfl) ?_
      refine lv_aload_n hx hb dX10_hasPacesAlone_3 rfl (lv_at hl 0 rfl) ?_
      refine zg_Main_told X hW h0 zu_467 dX10_hasPacesAlone_4 ?_
      refine zg_Told_pieces X hW h0.2.2.2.2.1 zu_35 dX10_hasPacesAlone_7 ?_
      refine lv_icmp_ge (tgt := 35) hx hb dX10_hasPacesAlone_10 rfl (fun c => ?_) (fun c => ?_)
      · replace h := h.1 c
        refine lv_iconst hx hb dX10_hasPacesAlone_35 zc_i1 ?_
        exact zretz X hr hlk hW rfl h dX10_hasPacesAlone_36
      · replace h := h.2 c
        refine lv_aload_n hx hb dX10_hasPacesAlone_13 rfl (lv_at hl 1 rfl) ?_
        refine zg_Sheet_cells X hW h1 zu_394 dX10_hasPacesAlone_14 ?_
        refine lv_iload_n hx hb dX10_hasPacesAlone_17 rfl (lv_at hl 2 rfl) ?_
        refine lv_iload_n hx hb dX10_hasPacesAlone_18 rfl (lv_at hl 3 rfl) ?_
        refine lv_iadd hx hb dX10_hasPacesAlone_19 ?_
        obtain ⟨g, h⟩ := h
        refine ziald X hW h1.2 g dX10_hasPacesAlone_20 ?_
        refine zcalli (zrunS (As := [.int (M (t1 + 1) (ix (a2 + x_3)))]) (rest := []) X hml hl hW zk_Main_171 (c_Main_isPace  h) rfl ⟨Nat.le_of_ble_eq_true rfl, Nat.le_of_ble_eq_true rfl⟩ ⟨Nat.le_refl 0, Nat.le_refl 0⟩ rfl (Nat.le_of_ble_eq_true rfl) dX10_hasPacesAlone_21) hW (fun zr2 zm1 H locs h hW => ?_)
        refine lv_if_ne (tgt := 29) hx hb dX10_hasPacesAlone_24 rfl (fun c => ?_) (fun c => ?_)
        · replace h := h.1 c
          obtain ⟨zx3, ezx3⟩ : ∃ y : Int32, y = x_3 + 1 := ⟨_, rfl⟩
          replace h := h zx3 ezx3
          refine lv_iinc (v := zx3) (lv' := [(3, .int zx3), (0, .ref (zad w 0)), (1, .ref (zad w t1)), (2, .int a2)]) hx hb dX10_hasPacesAlone_29 hl (k := 3) rfl (by rw [ezx3, zc_i1]) (Nat.le_of_ble_eq_true rfl) rfl (fun ls hl => ?_)
          refine lv_goto (tgt := 2) hx hb dX10_hasPacesAlone_32 rfl ?_
          exact zJ zx3 zm1 H locs ls hW (lv_sub hl [1, 2, 3, 0] rfl) h
        · replace h := h.2 c
          refine lv_iconst hx hb dX10_hasPacesAlone_27 zc_i0 ?_
          exact zretz X hr hlk hW rfl h dX10_hasPacesAlone_28
  unfold wp_Main_hasPacesAlone at h
  have zMain : ∀ (H : Heap) (locs : List Loc) (ls : Array Slot), zWo w s.heap M H locs → lv_has ls 4 [(0, .ref (zad w 0)), (1, .ref (zad w t1)), (2, .int a2)] → W p l e (zRm 1 20) s m ([.ref (zad w 0), .ref (zad w t1), .int a2] : List Value).toArray below meth c H locs 0 0 (MQ below (va_Qi post (zB w) (zA w)) ([.ref (zad w 0), .ref (zad w t1), .int a2] : List Value).toArray s 0 0 (zA w)) (F0 m 0 ls []) := by
    intro H locs ls hW hl
    refine lv_iconst hx hb dX10_hasPacesAlone_0 zc_i0 ?_
    refine lv_istore_n (lv' := [(3, .int 0), (0, .ref (zad w 0)), (1, .ref (zad w t1)), (2, .int a2)]) hx hb dX10_hasPacesAlone_1 rfl hl (Nat.le_of_ble_eq_true rfl) rfl (fun ls hl => ?_)
    obtain ⟨n, h⟩ := h
    refine zL_2   n 0 M H locs ls hW (lv_sub hl [1, 2, 3, 0] rfl) h
  exact zMain s.heap [] ls hW hl
def wpB_Main_copyPaces_3 (t1 : Nat) (a2 : Int32) (a3 : Int32)   (Q : zMem → Prop) (J : Int32 → zMem → Prop) (x_4 : Int32) (M : zMem) : Prop :=
  ((M 1 0) ≤ x_4 → Q M) ∧ (¬ (M 1 0) ≤ x_4 → vp_in (a2 + x_4) 40 ∧ vp_in ((a3 * 8) + x_4) 40 ∧ ∀ zm1 : zMem, zm1 = zup M 4 (ix ((a3 * 8) + x_4)) (M (t1 + 1) (ix (a2 + x_4))) → ∀ zx2 : Int32, zx2 = x_4 + 1 → J zx2 zm1)
def wp_Main_copyPaces (t1 : Nat) (a2 : Int32) (a3 : Int32) (M : zMem) (Q : zMem → Prop) : Prop :=
  ∃ n : Nat, zlp1 (wpB_Main_copyPaces_3 t1 a2 a3   Q) n 0 M
set_option maxHeartbeats 4000000 in
set_option maxRecDepth 20000 in
theorem c_Main_copyPaces {l : Launch} {w : zWd} {t1 : Nat} {a2 : Int32} {a3 : Int32} {M : zMem} {post : zMem → Prop} (h0 : zI_Main w) (h1 : zI_Sheet w t1) (h : wp_Main_copyPaces t1 a2 a3 M post) : zMv l ⟨"HandToHand", "copyPaces", "(LHandToHand$Sheet;II)V"⟩ prog_1_method_53_code 5 none 0 0 w [.ref (zad w 0), .ref (zad w t1), .int a2, .int a3] M post := by
  refine zMet (by decide) (Nat.le_of_ble_eq_true rfl) ?_
  intro p e s m below meth c X hr hlk hml hW ls hl
  have hx := X.1
  have hb := X.2.1
  have hl : lv_has ls 5 [(0, .ref (zad w 0)), (1, .ref (zad w t1)), (2, .int a2), (3, .int a3)] := hl
  have zL_3 :  ∀ (n : Nat) (x_4 : Int32) (M : zMem) (H : Heap) (locs : List Loc) (ls : Array Slot), zWo w s.heap M H locs → lv_has ls 5 [(0, .ref (zad w 0)), (1, .ref (zad w t1)), (2, .int a2), (3, .int a3), (4, .int x_4)] → zlp1 (wpB_Main_copyPaces_3 t1 a2 a3   post) n x_4 M → W p l e (zRm 0 0) s m ([.ref (zad w 0), .ref (zad w t1), .int a2, .int a3] : List Value).toArray below meth c H locs 0 0 (MQ below (va_Qv post (zB w) (zA w)) ([.ref (zad w 0), .ref (zad w t1), .int a2, .int a3] : List Value).toArray s 0 0 (zA w)) (F0 m 3 ls []) := by
    intro n
    induction n with
    | zero => intro x_4 M H locs ls hW hl h; exact h.elim
    | succ n zJ =>
      intro x_4 M H locs ls hW hl h
      have h : wpB_Main_copyPaces_3 t1 a2 a3   post (zlp1 (wpB_Main_copyPaces_3 t1 a2 a3   post) n) x_4 M := h
      unfold wpB_Main_copyPaces_3 at h
      refine lv_iload hx hb dX10_copyPaces_3 (lv_at hl 4 rfl) ?_
      refine lv_aload_n hx hb dX10_copyPaces_5 rfl (lv_at hl 0 rfl) ?_
      refine zg_Main_told X hW h0 zu_467 dX10_copyPaces_6 ?_
      refine zg_Told_pieces X hW h0.2.2.2.2.1 zu_35 dX10_copyPaces_9 ?_
      refine lv_icmp_ge (tgt := 45) hx hb dX10_copyPaces_12 rfl (fun c => ?_) (fun c => ?_)
      · replace h := h.1 c
        exact zretv X hr hlk hW h dX10_copyPaces_45
      · replace h := h.2 c
        refine lv_aload_n hx hb dX10_copyPaces_15 rfl (lv_at hl 0 rfl) ?_
        refine zg_Main_told X hW h0 zu_467 dX10_copyPaces_16 ?_
        refine zg_Told_paces X hW h0.2.2.2.2.1 zu_66 dX10_copyPaces_19 ?_
        refine lv_iload_n hx hb dX10_copyPaces_22 rfl (lv_at hl 3 rfl) ?_
        refine lv_bipush hx hb dX10_copyPaces_23 zc_b8 ?_
        refine lv_imul hx hb dX10_copyPaces_25 ?_
        refine lv_iload hx hb dX10_copyPaces_26 (lv_at hl 4 rfl) ?_
        refine lv_iadd hx hb dX10_copyPaces_28 ?_
        refine lv_aload_n hx hb dX10_copyPaces_29 rfl (lv_at hl 1 rfl) ?_
        refine zg_Sheet_cells X hW h1 zu_394 dX10_copyPaces_30 ?_
        refine lv_iload_n hx hb dX10_copyPaces_33 rfl (lv_at hl 2 rfl) ?_
        refine lv_iload hx hb dX10_copyPaces_34 (lv_at hl 4 rfl) ?_
        refine lv_iadd hx hb dX10_copyPaces_36 ?_
        obtain ⟨g, h⟩ := h
        refine ziald X hW h1.2 g dX10_copyPaces_37 ?_
        obtain ⟨g, h⟩ := h
        refine ziast X hW h0.2.2.2.2.1.2.2.2.1 g dX10_copyPaces_38 (fun H locs zm1 ezm1 hW => ?_)
        replace h := h zm1 ezm1
        obtain ⟨zx2, ezx2⟩ : ∃ y : Int32, y = x_4 + 1 := ⟨_, rfl⟩
        replace h := h zx2 ezx2
        refine lv_iinc (v := zx2) (lv' := [(4, .int zx2), (0, .ref (zad w 0)), (1, .ref (zad w t1)), (2, .int a2), (3, .int a3)]) hx hb dX10_copyPaces_39 hl (k := 4) rfl (by rw [ezx2, zc_i1]) (Nat.le_of_ble_eq_true rfl) rfl (fun ls hl => ?_)
        refine lv_goto (tgt := 3) hx hb dX10_copyPaces_42 rfl ?_
        exact zJ zx2 zm1 H locs ls hW (lv_sub hl [1, 2, 3, 4, 0] rfl) h
  unfold wp_Main_copyPaces at h
  have zMain : ∀ (H : Heap) (locs : List Loc) (ls : Array Slot), zWo w s.heap M H locs → lv_has ls 5 [(0, .ref (zad w 0)), (1, .ref (zad w t1)), (2, .int a2), (3, .int a3)] → W p l e (zRm 0 0) s m ([.ref (zad w 0), .ref (zad w t1), .int a2, .int a3] : List Value).toArray below meth c H locs 0 0 (MQ below (va_Qv post (zB w) (zA w)) ([.ref (zad w 0), .ref (zad w t1), .int a2, .int a3] : List Value).toArray s 0 0 (zA w)) (F0 m 0 ls []) := by
    intro H locs ls hW hl
    refine lv_iconst hx hb dX10_copyPaces_0 zc_i0 ?_
    refine lv_istore (lv' := [(4, .int 0), (0, .ref (zad w 0)), (1, .ref (zad w t1)), (2, .int a2), (3, .int a3)]) hx hb dX10_copyPaces_1 hl (Nat.le_of_ble_eq_true rfl) rfl (fun ls hl => ?_)
    obtain ⟨n, h⟩ := h
    refine zL_3   n 0 M H locs ls hW (lv_sub hl [1, 2, 3, 4, 0] rfl) h
  exact zMain s.heap [] ls hW hl
