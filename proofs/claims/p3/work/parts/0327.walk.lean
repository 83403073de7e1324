def wpB_Model_less_49 (a1 : Int32) (a2 : Int32)  (K91 : zMem → Prop) (Q : Int32 → zMem → Prop) (J : Int32 → zMem → Prop) (x_3 : Int32) (M : zMem) : Prop :=
  ((M 0 18) ≤ x_3 → K91 M) ∧ (¬ (M 0 18) ≤ x_3 → vp_in (x_3 + 1) 5 ∧ vp_in x_3 5 ∧ ∀ zm8 : zMem, zm8 = zup M 8 (ix x_3) (M 8 (ix (x_3 + 1))) → vp_in (x_3 + 1) 5 ∧ vp_in x_3 5 ∧ ∀ zm9 : zMem, zm9 = zup zm8 9 (ix x_3) (zm8 9 (ix (x_3 + 1))) → ∀ zx10 : Int32, zx10 = x_3 + 1 → J zx10 zm9)
def wp_Model_less (a1 : Int32) (a2 : Int32) (M : zMem) (Q : Int32 → zMem → Prop) : Prop :=
  wp_Model_isHand a1 M (fun zr2 zm1 => (zr2 = 0 → Q ((-1)) zm1) ∧ (¬ zr2 = 0 → wp_Model_in a2.toInt64 0 1 zm1 (fun zr4 zm3 => (¬ zr4 = 0 → vp_in 1 100 ∧ (¬ (zm3 4 (ix 1)) = 1 → wp_Model_asNumbered zm3 (fun zm5 => ∀ zm7 : zMem, zm7 = zup zm5 0 18 ((zm5 0 18) - 1) → ∃ n : Nat, zlp1 (wpB_Model_less_49 a1 a2  (fun (zm11 : zMem) => vp_in 0 100 ∧ vp_in ((zm11 0 18) - 1) 5 ∧ ∀ zm12 : zMem, zm12 = zup zm11 9 (ix ((zm11 0 18) - 1)) (zm11 4 (ix 0)) → wp_Model_hasRing zm12 (fun zr14 zm13 => wp_Model_made a2 zm13 (fun zr16 zm15 => Q zr16 zm15))) Q) n a1 zm7)) ∧ ((zm3 4 (ix 1)) = 1 → Q ((-2)) zm3)) ∧ (zr4 = 0 → Q ((-1)) zm3))))
set_option maxHeartbeats 4000000 in
set_option maxRecDepth 20000 in
theorem c_Model_less {l : Launch} {w : zWd} {a1 : Int32} {a2 : Int32} {M : zMem} {post : Int32 → zMem → Prop} (h0 : zI_Model w) (h : wp_Model_less a1 a2 M post) : zMi l ⟨"HandToHandModel", "less", "(II)I"⟩ prog_13_method_87_code 4 (Option.some .int) 9 210 w [.ref (zad w 0), .int a1, .int a2] M post := by
  refine zMet (by decide) (Nat.le_of_ble_eq_true rfl) ?_
  intro p e s m below meth c X hr hlk hml hW ls hl
  have hx := X.1
  have hb := X.2.1
  have hl : lv_has ls 4 [(0, .ref (zad w 0)), (1, .int a1), (2, .int a2)] := hl
  have zL_49 : ∀ (K91 : zMem → Prop) (zK91 : ∀ (M : zMem) (H : Heap) (locs : List Loc) (ls : Array Slot), zWo w s.heap M H locs → lv_has ls 4 [(0, .ref (zad w 0)), (2, .int a2)] → K91 M → W p l e (zRm 9 210) s m ([.ref (zad w 0), .int a1, .int a2] : List Value).toArray below meth c H locs 0 0 (MQ below (va_Qi post (zB w) (zA w)) ([.ref (zad w 0), .int a1, .int a2] : List Value).toArray s 0 0 (zA w)) (F0 m 91 ls [])), ∀ (n : Nat) (x_3 : Int32) (M : zMem) (H : Heap) (locs : List Loc) (ls : Array Slot), zWo w s.heap M H locs → lv_has ls 4 [(0, .ref (zad w 0)), (2, .int a2), (3, .int x_3)] → zlp1 (wpB_Model_less_49 a1 a2  K91 post) n x_3 M → W p l e (zRm 9 210) s m ([.ref (zad w 0), .int a1, .int a2] : List Value).toArray below meth c H locs 0 0 (MQ below (va_Qi post (zB w) (zA w)) ([.ref (zad w 0), .int a1, .int a2] : List Value).toArray s 0 0 (zA w)) (F0 m 49 ls []) := by
    intro K91 zK91 n
    induction n with
    | zero => intro x_3 M H locs ls hW hl h; exact h.elim
    | succ n zJ =>
      intro x_3 M H locs ls hW hl h
      have h : wpB_Model_less_49 a1 a2  K91 post (zlp1 (wpB_Model_less_49 a1 a2  K91 post) n) x_3 M := h
      unfold wpB_Model_less_49 at h
      refine lv_iload_n hx hb dX11_less_49 rfl (lv_at hl 2 rfl) ?_
      refine lv_aload_n hx hb dX11_less_50 rfl (lv_at hl 0 rfl) ?_
      refine zg_Model_many X hW h0 zu_1038 dX11_less_51 ?_
      refine lv_icmp_ge (tgt := 91) hx hb dX11_less_54 rfl (fun c => ?_) (fun c => ?_)
      · replace h := h.1 c
        exact zK91 M H locs ls hW (lv_sub hl [0, 1] rfl) h
      · replace h := h.2 c
        refine lv_aload_n hx hb dX11_less_57 rfl (lv_at hl 0 rfl) ?_
        refine zg_Model_who X hW h0 zu_1040 dX11_less_58 ?_
        refine lv_iload_n hx hb dX11_less_61 rfl (lv_at hl 2 rfl) ?_
        refine lv_aload_n hx hb dX11_less_62 rfl (lv_at hl 0 rfl) ?_
        refine zg_Model_who X hW h0 zu_1040 dX11_less_63 ?_
        refine lv_iload_n hx hb dX11_less_66 rfl (lv_at hl 2 rfl) ?_
        refine lv_iconst hx hb dX11_less_67 zc_i1 ?_
        refine lv_iadd hx hb dX11_less_68 ?_
        obtain ⟨g, h⟩ := h
        refine ziald X hW h0.2.2.2.2.2.2.2.1 g dX11_less_69 ?_
        obtain ⟨g, h⟩ := h
        refine ziast X hW h0.2.2.2.2.2.2.2.1 g dX11_less_70 (fun H locs zm8 ezm8 hW => ?_)
        replace h := h zm8 ezm8
        refine lv_aload_n hx hb dX11_less_71 rfl (lv_at hl 0 rfl) ?_
        refine zg_Model_ends X hW h0 zu_1041 dX11_less_72 ?_
        refine lv_iload_n hx hb dX11_less_75 rfl (lv_at hl 2 rfl) ?_
        refine lv_aload_n hx hb dX11_less_76 rfl (lv_at hl 0 rfl) ?_
        refine zg_Model_ends X hW h0 zu_1041 dX11_less_77 ?_
        refine lv_iload_n hx hb dX11_less_80 rfl (lv_at hl 2 rfl) ?_
        refine lv_iconst hx hb dX11_less_81 zc_i1 ?_
        refine lv_iadd hx hb dX11_less_82 ?_
        obtain ⟨g, h⟩ := h
        refine ziald X hW h0.2.2.2.2.2.2.2.2.1 g dX11_less_83 ?_
        obtain ⟨g, h⟩ := h
        refine ziast X hW h0.2.2.2.2.2.2.2.2.1 g dX11_less_84 (fun H locs zm9 ezm9 hW => ?_)
        replace h := h zm9 ezm9
        obtain ⟨zx10, ezx10⟩ : ∃ y : Int32, y = x_3 + 1 := ⟨_, rfl⟩
        replace h := h zx10 ezx10
        refine lv_iinc (v := zx10) (lv' := [(3, .int zx10), (0, .ref (zad w 0)), (2, .int a2)]) hx hb dX11_less_85 hl (k := 2) rfl (by rw [ezx10, zc_i1]) (Nat.le_of_ble_eq_true rfl) rfl (fun ls hl => ?_)
        refine lv_goto (tgt := 49) hx hb dX11_less_88 rfl ?_
        exact zJ zx10 zm9 H locs ls hW (lv_sub hl [1, 2, 0] rfl) h
  unfold wp_Model_less at h
  have zMain : ∀ (H : Heap) (locs : List Loc) (ls : Array Slot), zWo w s.heap M H locs → lv_has ls 4 [(0, .ref (zad w 0)), (1, .int a1), (2, .int a2)] → W p l e (zRm 9 210) s m ([.ref (zad w 0), .int a1, .int a2] : List Value).toArray below meth c H locs 0 0 (MQ below (va_Qi post (zB w) (zA w)) ([.ref (zad w 0), .int a1, .int a2] : List Value).toArray s 0 0 (zA w)) (F0 m 0 ls []) := by
    intro H locs ls hW hl
    refine lv_aload_n hx hb dX11_less_0 rfl (lv_at hl 0 rfl) ?_
    refine lv_iload_n hx hb dX11_less_1 rfl (lv_at hl 1 rfl) ?_
    refine zcalli (zrunV (As := [.int a1]) (rest := []) X hml hl hW h0.1 rfl zk_Model_166 (c_Model_isHand h0 h) rfl ⟨Nat.le_of_ble_eq_true rfl, Nat.le_of_ble_eq_true rfl⟩ ⟨Nat.le_refl 0, Nat.le_refl 0⟩ rfl (Nat.le_of_ble_eq_true rfl) dX11_less_2) hW (fun zr2 zm1 H locs h hW => ?_)
    refine lv_if_eq (tgt := 18) hx hb dX11_less_5 rfl (fun c => ?_) (fun c => ?_)
    · replace h := h.1 c
      refine lv_iconst hx hb dX11_less_18 zc_im1 ?_
      exact zreti X hr hlk hW h dX11_less_19
    · replace h := h.2 c
      refine lv_iload_n hx hb dX11_less_8 rfl (lv_at hl 2 rfl) ?_
      refine lv_i2l hx hb dX11_less_9 rfl ?_
      refine lv_lconst hx hb dX11_less_10 zc_l0 ?_
      refine lv_lconst hx hb dX11_less_11 zc_l1 ?_
      refine zcalli (zrunS (As := [.long a2.toInt64, .long 0, .long 1]) (rest := []) X hml hl hW zk_Model_69 (c_Model_in  h) rfl ⟨Nat.le_of_ble_eq_true rfl, Nat.le_of_ble_eq_true rfl⟩ ⟨Nat.le_refl 0, Nat.le_refl 0⟩ rfl (Nat.le_of_ble_eq_true rfl) dX11_less_12) hW (fun zr4 zm3 H locs h hW => ?_)
      refine lv_if_ne (tgt := 20) hx hb dX11_less_15 rfl (fun c => ?_) (fun c => ?_)
      · replace h := h.1 c
        refine lv_aload_n hx hb dX11_less_20 rfl (lv_at hl 0 rfl) ?_
        refine zg_Model_holds X hW h0 zu_1031 dX11_less_21 ?_
        refine lv_iconst hx hb dX11_less_24 zc_i1 ?_
        obtain ⟨g, h⟩ := h
        refine ziald X hW h0.2.2.2.2.1 g dX11_less_25 ?_
        refine lv_iconst hx hb dX11_less_26 zc_i1 ?_
        refine lv_icmp_ne (tgt := 33) hx hb dX11_less_27 rfl (fun c => ?_) (fun c => ?_)
        · replace h := h.1 c
          refine lv_aload_n hx hb dX11_less_33 rfl (lv_at hl 0 rfl) ?_
          refine zcallv (zrunV (As := []) (rest := []) X hml hl hW h0.1 rfl zk_Model_243 (c_Model_asNumbered h0 h) rfl ⟨Nat.le_of_ble_eq_true rfl, Nat.le_of_ble_eq_true rfl⟩ ⟨Nat.le_refl 0, Nat.le_refl 0⟩ rfl (Nat.le_of_ble_eq_true rfl) dX11_less_34) hW (fun zm5 H locs h hW => ?_)
          refine lv_aload_n hx hb dX11_less_37 rfl (lv_at hl 0 rfl) ?_
          refine lv_dup hx hb dX11_less_38 rfl ?_
          refine zg_Model_many X hW h0 zu_1038 dX11_less_39 ?_
          refine lv_iconst hx hb dX11_less_42 zc_i1 ?_
          refine lv_isub hx hb dX11_less_43 ?_
          refine zp_Model_many X hW h0 zu_1038 dX11_less_44 (fun H locs zm7 ezm7 hW => ?_)
          replace h := h zm7 ezm7
          refine lv_iload_n hx hb dX11_less_47 rfl (lv_at hl 1 rfl) ?_
          refine lv_istore_n (lv' := [(3, .int a1), (0, .ref (zad w 0)), (1, .int a1), (2, .int a2)]) hx hb dX11_less_48 rfl hl (Nat.le_of_ble_eq_true rfl) rfl (fun ls hl => ?_)
          obtain ⟨n, h⟩ := h
          refine zL_49  _ (fun  zm11 H locs ls hW hl h => ?_) n a1 zm7 H locs ls hW (lv_sub hl [1, 3, 0] rfl) h
          · skip
            refine lv_aload_n hx hb dX11_less_91 rfl (lv_at hl 0 rfl) ?_
            refine zg_Model_ends X hW h0 zu_1041 dX11_less_92 ?_
            refine lv_aload_n hx hb dX11_less_95 rfl (lv_at hl 0 rfl) ?_
            refine zg_Model_many X hW h0 zu_1038 dX11_less_96 ?_
            refine lv_iconst hx hb dX11_less_99 zc_i1 ?_
            refine lv_isub hx hb dX11_less_100 ?_
            refine lv_aload_n hx hb dX11_less_101 rfl (lv_at hl 0 rfl) ?_
            refine zg_Model_holds X hW h0 zu_1031 dX11_less_102 ?_
            refine lv_iconst hx hb dX11_less_105 zc_i0 ?_
            obtain ⟨g, h⟩ := h
            refine ziald X hW h0.2.2.2.2.1 g dX11_less_106 ?_
            obtain ⟨g, h⟩ := h
            refine ziast X hW h0.2.2.2.2.2.2.2.2.1 g dX11_less_107 (fun H locs zm12 ezm12 hW => ?_)
            replace h := h zm12 ezm12
            refine lv_aload_n hx hb dX11_less_108 rfl (lv_at hl 0 rfl) ?_
            refine zcalli (zrunV (As := []) (rest := []) X hml hl hW h0.1 rfl zk_Model_295 (c_Model_hasRing h0 h) rfl ⟨Nat.le_of_ble_eq_true rfl, Nat.le_of_ble_eq_true rfl⟩ ⟨Nat.le_refl 0, Nat.le_refl 0⟩ rfl (Nat.le_of_ble_eq_true rfl) dX11_less_109) hW (fun zr14 zm13 H locs h hW => ?_)
            refine lv_pop hx hb dX11_less_112 rfl ?_
            refine lv_aload_n hx hb dX11_less_113 rfl (lv_at hl 0 rfl) ?_
            refine lv_iload_n hx hb dX11_less_114 rfl (lv_at hl 1 rfl) ?_
            refine zcalli (zrunV (As := [.int a2]) (rest := []) X hml hl hW h0.1 rfl zk_Model_305 (c_Model_made h0 h) rfl ⟨Nat.le_of_ble_eq_true rfl, Nat.le_of_ble_eq_true rfl⟩ ⟨Nat.le_refl 0, Nat.le_refl 0⟩ rfl (Nat.le_of_ble_eq_true rfl) dX11_less_115) hW (fun zr16 zm15 H locs h hW => ?_)
            exact zreti X hr hlk hW h dX11_less_118
        · replace h := h.2 c
          refine lv_bipush hx hb dX11_less_30 zc_bm2 ?_
          exact zreti X hr hlk hW h dX11_less_32
      · replace h := h.2 c
        refine lv_iconst hx hb dX11_less_18 zc_im1 ?_
        exact zreti X hr hlk hW h dX11_less_19
  exact zMain s.heap [] ls hW hl
def wpB_Model_sheet_56 (a1 : Int32) (a2 : Int32) (a3 : Int32)   (Q : Int32 → zMem → Prop) (J : Int32 → zMem → Prop) (x_4 : Int32) (M : zMem) : Prop :=
  (40 ≤ x_4 → Q 1 M) ∧ (¬ 40 ≤ x_4 → vp_in ((40 * a1) + x_4) 160 ∧ ∀ zm7 : zMem, zm7 = zup M 18 (ix ((40 * a1) + x_4)) 0 → ∀ zx8 : Int32, zx8 = x_4 + 1 → J zx8 zm7)
def wp_Model_sheet (a1 : Int32) (a2 : Int32) (a3 : Int32) (M : zMem) (Q : Int32 → zMem → Prop) : Prop :=
  wp_Model_in a1.toInt64 0 3 M (fun zr2 zm1 => (zr2 = 0 → Q ((-1)) zm1) ∧ (¬ zr2 = 0 → wp_Model_in a2.toInt64 0 2 zm1 (fun zr4 zm3 => (zr4 = 0 → Q ((-1)) zm3) ∧ (¬ zr4 = 0 → (a3 ≤ 40 → (0 ≤ a3 → vp_in a1 4 ∧ ∀ zm5 : zMem, zm5 = zup zm3 16 (ix a1) a2 → vp_in a1 4 ∧ ∀ zm6 : zMem, zm6 = zup zm5 17 (ix a1) a3 → ∃ n : Nat, zlp1 (wpB_Model_sheet_56 a1 a2 a3   Q) n 0 zm6) ∧ (¬ 0 ≤ a3 → Q ((-14)) zm3)) ∧ (¬ a3 ≤ 40 → Q ((-1)) zm3)))))
set_option maxHeartbeats 4000000 in
set_option maxRecDepth 20000 in
theorem c_Model_sheet {l : Launch} {w : zWd} {a1 : Int32} {a2 : Int32} {a3 : Int32} {M : zMem} {post : Int32 → zMem → Prop} (h0 : zI_Model w) (h : wp_Model_sheet a1 a2 a3 M post) : zMi l ⟨"HandToHandModel", "sheet", "(III)I"⟩ prog_13_method_88_code 5 (Option.some .int) 1 25 w [.ref (zad w 0), .int a1, .int a2, .int a3] M post := by
  refine zMet (by decide) (Nat.le_of_ble_eq_true rfl) ?_
  intro p e s m below meth c X hr hlk hml hW ls hl
  have hx := X.1
  have hb := X.2.1
  have hl : lv_has ls 5 [(0, .ref (zad w 0)), (1, .int a1), (2, .int a2), (3, .int a3)] := hl
  have zL_56 :  ∀ (n : Nat) (x_4 : Int32) (M : zMem) (H : Heap) (locs : List Loc) (ls : Array Slot), zWo w s.heap M H locs → lv_has ls 5 [(0, .ref (zad w 0)), (1, .int a1), (4, .int x_4)] → zlp1 (wpB_Model_sheet_56 a1 a2 a3   post) n x_4 M → W p l e (zRm 1 25) s m ([.ref (zad w 0), .int a1, .int a2, .int a3] : List Value).toArray below meth c H locs 0 0 (MQ below (va_Qi post (zB w) (zA w)) ([.ref (zad w 0), .int a1, .int a2, .int a3] : List Value).toArray s 0 0 (zA w)) (F0 m 56 ls []) := by
    intro n
    induction n with
    | zero => intro x_4 M H locs ls hW hl h; exact h.elim
    | succ n zJ =>
      intro x_4 M H locs ls hW hl h
      have h : wpB_Model_sheet_56 a1 a2 a3   post (zlp1 (wpB_Model_sheet_56 a1 a2 a3   post) n) x_4 M := h
      unfold wpB_Model_sheet_56 at h
      refine lv_iload hx hb dX11_sheet_56 (lv_at hl 2 rfl) ?_
      refine lv_bipush hx hb dX11_sheet_58 zc_b40 ?_
      refine lv_icmp_ge (tgt := 82) hx hb dX11_sheet_60 rfl (fun c => ?_) (fun c => ?_)
      · replace h := h.1 c
        refine lv_iconst hx hb dX11_sheet_82 zc_i1 ?_
        exact zreti X hr hlk hW h dX11_sheet_83
      · replace h := h.2 c
        refine lv_aload_n hx hb dX11_sheet_63 rfl (lv_at hl 0 rfl) ?_
        refine zg_Model_cells X hW h0 zu_1058 dX11_sheet_64 ?_
        refine lv_bipush hx hb dX11_sheet_67 zc_b40 ?_
        refine lv_iload_n hx hb dX11_sheet_69 rfl (lv_at hl 1 rfl) ?_
        refine lv_imul hx hb dX11_sheet_70 ?_
        refine lv_iload hx hb dX11_sheet_71 (lv_at hl 2 rfl) ?_
        refine lv_iadd hx hb dX11_sheet_73 ?_
        refine lv_iconst hx hb dX11_sheet_74 zc_i0 ?_
        obtain ⟨g, h⟩ := h
        refine ziast X hW h0.2.2.2.2.2.2.2.2.2.2.2.2.2.2.2.2.2.1 g dX11_sheet_75 (fun H locs zm7 ezm7 hW => ?_)
        replace h := h zm7 ezm7
        obtain ⟨zx8, ezx8⟩ : ∃ y : Int32, y = x_4 + 1 := ⟨_, rfl⟩
        replace h := h zx8 ezx8
        refine lv_iinc (v := zx8) (lv' := [(4, .int zx8), (0, .ref (zad w 0)), (1, .int a1)]) hx hb dX11_sheet_76 hl (k := 2) rfl (by rw [ezx8, zc_i1]) (Nat.le_of_ble_eq_true rfl) rfl (fun ls hl => ?_)
        refine lv_goto (tgt := 56) hx hb dX11_sheet_79 rfl ?_
        exact zJ zx8 zm7 H locs ls hW (lv_sub hl [1, 2, 0] rfl) h
  unfold wp_Model_sheet at h
  have zMain : ∀ (H : Heap) (locs : List Loc) (ls : Array Slot), zWo w s.heap M H locs → lv_has ls 5 [(0, .ref (zad w 0)), (1, .int a1), (2, .int a2), (3, .int a3)] → W p l e (zRm 1 25) s m ([.ref (zad w 0), .int a1, .int a2, .int a3] : List Value).toArray below meth c H locs 0 0 (MQ below (va_Qi post (zB w) (zA w)) ([.ref (zad w 0), .int a1, .int a2, .int a3] : List Value).toArray s 0 0 (zA w)) (F0 m 0 ls []) := by
    intro H locs ls hW hl
    refine lv_iload_n hx hb dX11_sheet_0 rfl (lv_at hl 1 rfl) ?_
    refine lv_i2l hx hb dX11_sheet_1 rfl ?_
    refine lv_lconst hx hb dX11_sheet_2 zc_l0 ?_
    refine lv_ldc2 hx hb X.2.2.1 (X.2.2.2.1 _ zu_1427) dX11_sheet_3 ?_
    refine zcalli (zrunS (As := [.long a1.toInt64, .long 0, .long 3]) (rest := []) X hml hl hW zk_Model_69 (c_Model_in  h) rfl ⟨Nat.le_of_ble_eq_true rfl, Nat.le_of_ble_eq_true rfl⟩ ⟨Nat.le_refl 0, Nat.le_refl 0⟩ rfl (Nat.le_of_ble_eq_true rfl) dX11_sheet_6) hW (fun zr2 zm1 H locs h hW => ?_)
    refine lv_if_eq (tgt := 30) hx hb dX11_sheet_9 rfl (fun c => ?_) (fun c => ?_)
    · replace h := h.1 c
      refine lv_iconst hx hb dX11_sheet_30 zc_im1 ?_
      exact zreti X hr hlk hW h dX11_sheet_31
    · replace h := h.2 c
      refine lv_iload_n hx hb dX11_sheet_12 rfl (lv_at hl 2 rfl) ?_
      refine lv_i2l hx hb dX11_sheet_13 rfl ?_
      refine lv_lconst hx hb dX11_sheet_14 zc_l0 ?_
      refine lv_ldc2 hx hb X.2.2.1 (X.2.2.2.1 _ zu_1248) dX11_sheet_15 ?_
      refine zcalli (zrunS (As := [.long a2.toInt64, .long 0, .long 2]) (rest := []) X hml hl hW zk_Model_69 (c_Model_in  h) rfl ⟨Nat.le_of_ble_eq_true rfl, Nat.le_of_ble_eq_true rfl⟩ ⟨Nat.le_refl 0, Nat.le_refl 0⟩ rfl (Nat.le_of_ble_eq_true rfl) dX11_sheet_18) hW (fun zr4 zm3 H locs h hW => ?_)
      refine lv_if_eq (tgt := 30) hx hb dX11_sheet_21 rfl (fun c => ?_) (fun c => ?_)
      · replace h := h.1 c
        refine lv_iconst hx hb dX11_sheet_30 zc_im1 ?_
        exact zreti X hr hlk hW h dX11_sheet_31
      · replace h := h.2 c
        refine lv_iload_n hx hb dX11_sheet_24 rfl (lv_at hl 3 rfl) ?_
        refine lv_bipush hx hb dX11_sheet_25 zc_b40 ?_
        refine lv_icmp_le (tgt := 32) hx hb dX11_sheet_27 rfl (fun c => ?_) (fun c => ?_)
        · replace h := h.1 c
          refine lv_iload_n hx hb dX11_sheet_32 rfl (lv_at hl 3 rfl) ?_
          refine lv_if_ge (tgt := 39) hx hb dX11_sheet_33 rfl (fun c => ?_) (fun c => ?_)
          · replace h := h.1 c
            refine lv_aload_n hx hb dX11_sheet_39 rfl (lv_at hl 0 rfl) ?_
            refine zg_Model_lanes X hW h0 zu_1056 dX11_sheet_40 ?_
            refine lv_iload_n hx hb dX11_sheet_43 rfl (lv_at hl 1 rfl) ?_
            refine lv_iload_n hx hb dX11_sheet_44 rfl (lv_at hl 2 rfl) ?_
            obtain ⟨g, h⟩ := h
            refine ziast X hW h0.2.2.2.2.2.2.2.2.2.2.2.2.2.2.2.1 g dX11_sheet_45 (fun H locs zm5 ezm5 hW => ?_)
            replace h := h zm5 ezm5
            refine lv_aload_n hx hb dX11_sheet_46 rfl (lv_at hl 0 rfl) ?_
            refine zg_Model_lengths X hW h0 zu_1057 dX11_sheet_47 ?_
            refine lv_iload_n hx hb dX11_sheet_50 rfl (lv_at hl 1 rfl) ?_
            refine lv_iload_n hx hb dX11_sheet_51 rfl (lv_at hl 3 rfl) ?_
            obtain ⟨g, h⟩ := h
            refine ziast X hW h0.2.2.2.2.2.2.2.2.2.2.2.2.2.2.2.2.1 g dX11_sheet_52 (fun H locs zm6 ezm6 hW => ?_)
            replace h := h zm6 ezm6
            refine lv_iconst hx hb dX11_sheet_53 zc_i0 ?_
            refine lv_istore (lv' := [(4, .int 0), (0, .ref (zad w 0)), (1, .int a1), (2, .int a2), (3, .int a3)]) hx hb dX11_sheet_54 hl (Nat.le_of_ble_eq_true rfl) rfl (fun ls hl => ?_)
            obtain ⟨n, h⟩ := h
            refine zL_56   n 0 zm6 H locs ls hW (lv_sub hl [1, 2, 0] rfl) h
          · replace h := h.2 c
            refine lv_bipush hx hb dX11_sheet_36 zc_bm14 ?_
            exact zreti X hr hlk hW h dX11_sheet_38
        · replace h := h.2 c
          refine lv_iconst hx hb dX11_sheet_30 zc_im1 ?_
          exact zreti X hr hlk hW h dX11_sheet_31
  exact zMain s.heap [] ls hW hl
def wp_Model_lay (a1 : Int32) (a2 : Int32) (a3 : Int32) (M : zMem) (Q : Int32 → zMem → Prop) : Prop :=
  wp_Model_in a1.toInt64 0 3 M (fun zr2 zm1 => (¬ zr2 = 0 → vp_in a1 4 ∧ (¬ (zm1 16 (ix a1)) = (-4) → vp_in a1 4 ∧ wp_Model_in a2.toInt64 0 (((zm1 17 (ix a1)) - 1).toInt64) zm1 (fun zr4 zm3 => (¬ zr4 = 0 → vp_in a1 4 ∧ (¬ (zm3 16 (ix a1)) = 0 → vp_in a1 4 ∧ (¬ (zm3 16 (ix a1)) = 1 → vp_in ((40 * a1) + a2) 160 ∧ ∀ zm5 : zMem, zm5 = zup zm3 18 (ix ((40 * a1) + a2)) a3 → Q 1 zm5) ∧ ((zm3 16 (ix a1)) = 1 → vp_in ((40 * a1) + a2) 160 ∧ ∀ zm6 : zMem, zm6 = zup zm3 18 (ix ((40 * a1) + a2)) ((a3 <<< (16 &&& 31)) >>> (16 &&& 31)) → Q 1 zm6)) ∧ ((zm3 16 (ix a1)) = 0 → vp_in ((40 * a1) + a2) 160 ∧ ∀ zm7 : zMem, zm7 = zup zm3 18 (ix ((40 * a1) + a2)) ((a3 <<< (24 &&& 31)) >>> (24 &&& 31)) → Q 1 zm7)) ∧ (zr4 = 0 → Q ((-12)) zm3))) ∧ ((zm1 16 (ix a1)) = (-4) → Q ((-11)) zm1)) ∧ (zr2 = 0 → Q ((-1)) zm1))
set_option maxHeartbeats 4000000 in
set_option maxRecDepth 20000 in
theorem c_Model_lay {l : Launch} {w : zWd} {a1 : Int32} {a2 : Int32} {a3 : Int32} {M : zMem} {post : Int32 → zMem → Prop} (h0 : zI_Model w) (h : wp_Model_lay a1 a2 a3 M post) : zMi l ⟨"HandToHandModel", "lay", "(III)I"⟩ prog_13_method_89_code 4 (Option.some .int) 1 25 w [.ref (zad w 0), .int a1, .int a2, .int a3] M post := by
  refine zMet (by decide) (Nat.le_of_ble_eq_true rfl) ?_
  intro p e s m below meth c X hr hlk hml hW ls hl
  have hx := X.1
  have hb := X.2.1
  have hl : lv_has ls 4 [(0, .ref (zad w 0)), (1, .int a1), (2, .int a2), (3, .int a3)] := hl
  unfold wp_Model_lay at h
  have zMain : ∀ (H : Heap) (locs : List Loc) (ls : Array Slot), zWo w s.heap M H locs → lv_has ls 4 [(0, .ref (zad w 0)), (1, .int a1), (2, .int a2), (3, .int a3)] → W p l e (zRm 1 25) s m ([.ref (zad w 0), .int a1, .int a2, .int a3] : List Value).toArray below meth c H locs 0 0 (MQ below (va_Qi post (zB w) (zA w)) ([.ref (zad w 0), .int a1, .int a2, .int a3] : List Value).toArray s 0 0 (zA w)) (F0 m 0 ls []) := by
    intro H locs ls hW hl
    refine lv_iload_n hx hb dX11_lay_0 rfl (lv_at hl 1 rfl) ?_
    refine lv_i2l hx hb dX11_lay_1 rfl ?_
    refine lv_lconst hx hb dX11_lay_2 zc_l0 ?_
    refine lv_ldc2 hx hb X.2.2.1 (X.2.2.2.1 _ zu_1427) dX11_lay_3 ?_
    refine zcalli (zrunS (As := [.long a1.toInt64, .long 0, .long 3]) (rest := []) X hml hl hW zk_Model_69 (c_Model_in  h) rfl ⟨Nat.le_of_ble_eq_true rfl, Nat.le_of_ble_eq_true rfl⟩ ⟨Nat.le_refl 0, Nat.le_refl 0⟩ rfl (Nat.le_of_ble_eq_true rfl) dX11_lay_6) hW (fun zr2 zm1 H locs h hW => ?_)
    refine lv_if_ne (tgt := 14) hx hb dX11_lay_9 rfl (fun c => ?_) (fun c => ?_)
    · replace h := h.1 c
      refine lv_aload_n hx hb dX11_lay_14 rfl (lv_at hl 0 rfl) ?_
      refine zg_Model_lanes X hW h0 zu_1056 dX11_lay_15 ?_
      refine lv_iload_n hx hb dX11_lay_18 rfl (lv_at hl 1 rfl) ?_
      obtain ⟨g, h⟩ := h
      refine ziald X hW h0.2.2.2.2.2.2.2.2.2.2.2.2.2.2.2.1 g dX11_lay_19 ?_
      refine lv_bipush hx hb dX11_lay_20 zc_bm4 ?_
      refine lv_icmp_ne (tgt := 28) hx hb dX11_lay_22 rfl (fun c => ?_) (fun c => ?_)
      · replace h := h.1 c
        refine lv_iload_n hx hb dX11_lay_28 rfl (lv_at hl 2 rfl) ?_
        refine lv_i2l hx hb dX11_lay_29 rfl ?_
        refine lv_lconst hx hb dX11_lay_30 zc_l0 ?_
        refine lv_aload_n hx hb dX11_lay_31 rfl (lv_at hl 0 rfl) ?_
        refine zg_Model_lengths X hW h0 zu_1057 dX11_lay_32 ?_
        refine lv_iload_n hx hb dX11_lay_35 rfl (lv_at hl 1 rfl) ?_
        obtain ⟨g, h⟩ := h
        refine ziald X hW h0.2.2.2.2.2.2.2.2.2.2.2.2.2.2.2.2.1 g dX11_lay_36 ?_
        refine lv_iconst hx hb dX11_lay_37 zc_i1 ?_
        refine lv_isub hx hb dX11_lay_38 ?_
        refine lv_i2l hx hb dX11_lay_39 rfl ?_
        refine zcalli (zrunS (As := [.long a2.toInt64, .long 0, .long (((zm1 17 (ix a1)) - 1).toInt64)]) (rest := []) X hml hl hW zk_Model_69 (c_Model_in  h) rfl ⟨Nat.le_of_ble_eq_true rfl, Nat.le_of_ble_eq_true rfl⟩ ⟨Nat.le_refl 0, Nat.le_refl 0⟩ rfl (Nat.le_of_ble_eq_true rfl) dX11_lay_40) hW (fun zr4 zm3 H locs h hW => ?_)
        refine lv_if_ne (tgt := 49) hx hb dX11_lay_43 rfl (fun c => ?_) (fun c => ?_)
        · replace h := h.1 c
          refine lv_aload_n hx hb dX11_lay_49 rfl (lv_at hl 0 rfl) ?_
          refine zg_Model_cells X hW h0 zu_1058 dX11_lay_50 ?_
          refine lv_bipush hx hb dX11_lay_53 zc_b40 ?_
          refine lv_iload_n hx hb dX11_lay_55 rfl (lv_at hl 1 rfl) ?_
          refine lv_imul hx hb dX11_lay_56 ?_
          refine lv_iload_n hx hb dX11_lay_57 rfl (lv_at hl 2 rfl) ?_
          refine lv_iadd hx hb dX11_lay_58 ?_
          refine lv_aload_n hx hb dX11_lay_59 rfl (lv_at hl 0 rfl) ?_
          refine zg_Model_lanes X hW h0 zu_1056 dX11_lay_60 ?_
          refine lv_iload_n hx hb dX11_lay_63 rfl (lv_at hl 1 rfl) ?_
          obtain ⟨g, h⟩ := h
          refine ziald X hW h0.2.2.2.2.2.2.2.2.2.2.2.2.2.2.2.1 g dX11_lay_64 ?_
          refine lv_if_ne (tgt := 78) hx hb dX11_lay_65 rfl (fun c => ?_) (fun c => ?_)
          · replace h := h.1 c
            refine lv_aload_n hx hb dX11_lay_78 rfl (lv_at hl 0 rfl) ?_
            refine zg_Model_lanes X hW h0 zu_1056 dX11_lay_79 ?_
            refine lv_iload_n hx hb dX11_lay_82 rfl (lv_at hl 1 rfl) ?_
            obtain ⟨g, h⟩ := h
            refine ziald X hW h0.2.2.2.2.2.2.2.2.2.2.2.2.2.2.2.1 g dX11_lay_83 ?_
            refine lv_iconst hx hb dX11_lay_84 zc_i1 ?_
            refine lv_icmp_ne (tgt := 98) hx hb dX11_lay_85 rfl (fun c => ?_) (fun c => ?_)
            · replace h := h.1 c
              refine lv_iload_n hx hb dX11_lay_98 rfl (lv_at hl 3 rfl) ?_
              obtain ⟨g, h⟩ := h
              refine ziast X hW h0.2.2.2.2.2.2.2.2.2.2.2.2.2.2.2.2.2.1 g dX11_lay_99 (fun H locs zm5 ezm5 hW => ?_)
              replace h := h zm5 ezm5
              refine lv_iconst hx hb dX11_lay_100 zc_i1 ?_
              exact zreti X hr hlk hW h dX11_lay_101
            · replace h := h.2 c
              refine lv_iload_n hx hb dX11_lay_88 rfl (lv_at hl 3 rfl) ?_
              refine lv_bipush hx hb dX11_lay_89 zc_b16 ?_
              refine lv_ishl hx hb dX11_lay_91 ?_
              refine lv_bipush hx hb dX11_lay_92 zc_b16 ?_
              refine lv_ishr hx hb dX11_lay_94 ?_
              refine lv_goto (tgt := 99) hx hb dX11_lay_95 rfl ?_
              obtain ⟨g, h⟩ := h
              refine ziast X hW h0.2.2.2.2.2.2.2.2.2.2.2.2.2.2.2.2.2.1 g dX11_lay_99 (fun H locs zm6 ezm6 hW => ?_)
              replace h := h zm6 ezm6
              refine lv_iconst hx hb dX11_lay_100 zc_i1 ?_
              exact zreti X hr hlk hW h dX11_lay_101
          · replace h := h.2 c
            refine lv_iload_n hx hb dX11_lay_68 rfl (lv_at hl 3 rfl) ?_
            refine lv_bipush hx hb dX11_lay_69 zc_b24 ?_
            refine lv_ishl hx hb dX11_lay_71 ?_
            refine lv_bipush hx hb dX11_lay_72 zc_b24 ?_
            refine lv_ishr hx hb dX11_lay_74 ?_
            refine lv_goto (tgt := 99) hx hb dX11_lay_75 rfl ?_
            obtain ⟨g, h⟩ := h
            refine ziast X hW h0.2.2.2.2.2.2.2.2.2.2.2.2.2.2.2.2.2.1 g dX11_lay_99 (fun H locs zm7 ezm7 hW => ?_)
            replace h := h zm7 ezm7
            refine lv_iconst hx hb dX11_lay_100 zc_i1 ?_
            exact zreti X hr hlk hW h dX11_lay_101
        · replace h := h.2 c
          refine lv_bipush hx hb dX11_lay_46 zc_bm12 ?_
          exact zreti X hr hlk hW h dX11_lay_48
      · replace h := h.2 c
        refine lv_bipush hx hb dX11_lay_25 zc_bm11 ?_
        exact zreti X hr hlk hW h dX11_lay_27
    · replace h := h.2 c
      refine lv_iconst hx hb dX11_lay_12 zc_im1 ?_
      exact zreti X hr hlk hW h dX11_lay_13
  exact zMain s.heap [] ls hW hl
def wpJ_Model_read_195 (a1 : Int32) (a2 : Int32) (a3 : Int32) (a4 : Int32) (a5 : Int32) (K231 : Int32 → Int32 → zMem → Prop) (J : Int32 → Int32 → Int32 → Int32 → zMem → Prop) (Q : Int32 → zMem → Prop) (x_6 : Int32) (x_7 : Int32) (x_9 : Int32) (s_0 : Int32) (M : zMem) : Prop :=
  vp_in 0 100 ∧ (¬ (M 4 (ix 0)) = 0) ∧ (¬ ((x_9 + 1) - (x_9 + 1) / (M 4 (ix 0)) * (M 4 (ix 0))) = 0 → ∀ zx12 : Int32, zx12 = x_9 + 1 → J x_6 x_7 s_0 zx12 M) ∧ (((x_9 + 1) - (x_9 + 1) / (M 4 (ix 0)) * (M 4 (ix 0))) = 0 → (¬ s_0 = 0 → ∀ zx13 : Int32, zx13 = x_7 + 1 → ∀ zx14 : Int32, zx14 = x_9 + 1 → J x_6 zx13 s_0 zx14 M) ∧ (s_0 = 0 → Q (((-20)) - x_7) M))
def wpJ_Model_read_194 (a1 : Int32) (a2 : Int32) (a3 : Int32) (a4 : Int32) (a5 : Int32) (K231 : Int32 → Int32 → zMem → Prop) (J : Int32 → Int32 → Int32 → Int32 → zMem → Prop) (Q : Int32 → zMem → Prop) (x_6 : Int32) (x_7 : Int32) (x_9 : Int32)  (M : zMem) : Prop :=
  wpJ_Model_read_195 a1 a2 a3 a4 a5 K231 J Q x_6 x_7 x_9 0 M
def wpJ_Model_read_153 (a1 : Int32) (a2 : Int32) (a3 : Int32) (a4 : Int32) (a5 : Int32) (K231 : Int32 → Int32 → zMem → Prop) (J : Int32 → Int32 → Int32 → Int32 → zMem → Prop) (Q : Int32 → zMem → Prop) (x_7 : Int32) (x_8 : Int32) (x_9 : Int32) (s_0 : Int32) (M : zMem) : Prop :=
  (¬ s_0 = 0 → ∀ zx11 : Int32, zx11 = x_9 + 1 → J s_0 x_7 x_8 zx11 M) ∧ (s_0 = 0 → (x_8 = 0 → wpJ_Model_read_194 a1 a2 a3 a4 a5 K231 J Q s_0 x_7 x_9 M) ∧ (¬ x_8 = 0 → vp_in (((40 * a1) + a3) + x_9) 160 ∧ wp_Model_in ((M 18 (ix (((40 * a1) + a3) + x_9))).toInt64) 1 9 M (fun zr16 zm15 => (zr16 = 0 → wpJ_Model_read_194 a1 a2 a3 a4 a5 K231 J Q s_0 x_7 x_9 zm15) ∧ (¬ zr16 = 0 → wpJ_Model_read_195 a1 a2 a3 a4 a5 K231 J Q s_0 x_7 x_9 1 zm15))))
def wpB_Model_read_78 (a1 : Int32) (a2 : Int32) (a3 : Int32) (a4 : Int32) (a5 : Int32)  (K231 : Int32 → Int32 → zMem → Prop) (Q : Int32 → zMem → Prop) (J : Int32 → Int32 → Int32 → Int32 → zMem → Prop) (x_6 : Int32) (x_7 : Int32) (x_8 : Int32) (x_9 : Int32) (M : zMem) : Prop :=
  vp_in 0 100 ∧ (((M 4 (ix 0)) * a5) ≤ x_9 → K231 x_6 x_7 M) ∧ (¬ ((M 4 (ix 0)) * a5) ≤ x_9 → (¬ x_6 = 0 → K231 x_6 x_7 M) ∧ (x_6 = 0 → vp_in a1 4 ∧ (¬ (M 16 (ix a1)) = (-4) → vp_in a1 4 ∧ ((M 16 (ix a1)) = a2 → vp_in a1 4 ∧ wp_Model_in (a3.toInt64 + x_9.toInt64) 0 (((M 17 (ix a1)) - 1).toInt64) M (fun zr10 zm9 => (¬ zr10 = 0 → wpJ_Model_read_153 a1 a2 a3 a4 a5 K231 J Q x_7 x_8 x_9 0 zm9) ∧ (zr10 = 0 → wpJ_Model_read_153 a1 a2 a3 a4 a5 K231 J Q x_7 x_8 x_9 2 zm9))) ∧ (¬ (M 16 (ix a1)) = a2 → wpJ_Model_read_153 a1 a2 a3 a4 a5 K231 J Q x_7 x_8 x_9 3 M)) ∧ ((M 16 (ix a1)) = (-4) → wpJ_Model_read_153 a1 a2 a3 a4 a5 K231 J Q x_7 x_8 x_9 1 M)))
def wpB_Model_read_234 (a1 : Int32) (a2 : Int32) (a3 : Int32) (a4 : Int32) (a5 : Int32) (x_6 : Int32) (x_7 : Int32)  (Q : Int32 → zMem → Prop) (J : Int32 → zMem → Prop) (x_9 : Int32) (M : zMem) : Prop :=
  vp_in 0 100 ∧ (((M 4 (ix 0)) * x_7) ≤ x_9 → ∀ zm20 : zMem, zm20 = zup M 0 39 x_6 → Q x_7 zm20) ∧ (¬ ((M 4 (ix 0)) * x_7) ≤ x_9 → vp_in 0 100 ∧ (¬ (M 4 (ix 0)) = 0) ∧ vp_in 0 100 ∧ (¬ (M 4 (ix 0)) = 0) ∧ vp_in (((40 * a1) + a3) + x_9) 160 ∧ vp_in ((60 + (8 * (a4 + (x_9 / (M 4 (ix 0)))))) + (x_9 - x_9 / (M 4 (ix 0)) * (M 4 (ix 0)))) 100 ∧ ∀ zm21 : zMem, zm21 = zup M 4 (ix ((60 + (8 * (a4 + (x_9 / (M 4 (ix 0)))))) + (x_9 - x_9 / (M 4 (ix 0)) * (M 4 (ix 0))))) (M 18 (ix (((40 * a1) + a3) + x_9))) → ∀ zx22 : Int32, zx22 = x_9 + 1 → J zx22 zm21)
def wp_Model_read (a1 : Int32) (a2 : Int32) (a3 : Int32) (a4 : Int32) (a5 : Int32) (M : zMem) (Q : Int32 → zMem → Prop) : Prop :=
  wp_Model_in a1.toInt64 0 3 M (fun zr2 zm1 => (zr2 = 0 → Q ((-1)) zm1) ∧ (¬ zr2 = 0 → wp_Model_in a2.toInt64 0 2 zm1 (fun zr4 zm3 => (zr4 = 0 → Q ((-1)) zm3) ∧ (¬ zr4 = 0 → (a4 < 0 → Q ((-1)) zm3) ∧ (¬ a4 < 0 → wp_Model_in a5.toInt64 0 5 zm3 (fun zr6 zm5 => (zr6 = 0 → Q ((-1)) zm5) ∧ (¬ zr6 = 0 → vp_in 1 100 ∧ ((lg_cmp (a4.toInt64 + a5.toInt64) ((zm5 4 (ix 1)).toInt64)) ≤ 0 → wp_Model_awake zm5 (fun zm7 => ∃ n : Nat, zlp4 (wpB_Model_read_78 a1 a2 a3 a4 a5  (fun (zx18 : Int32) (zx19 : Int32) (zm17 : zMem) => ∃ n : Nat, zlp1 (wpB_Model_read_234 a1 a2 a3 a4 a5 zx18 zx19  Q) n 0 zm17) Q) n 0 0 1 0 zm7)) ∧ (¬ (lg_cmp (a4.toInt64 + a5.toInt64) ((zm5 4 (ix 1)).toInt64)) ≤ 0 → Q ((-1)) zm5))))))))
set_option maxHeartbeats 4000000 in
set_option maxRecDepth 20000 in
theorem c_Model_read {l : Launch} {w : zWd} {a1 : Int32} {a2 : Int32} {a3 : Int32} {a4 : Int32} {a5 : Int32} {M : zMem} {post : Int32 → zMem → Prop} (h0 : zI_Model w) (h : wp_Model_read a1 a2 a3 a4 a5 M post) : zMi l ⟨"HandToHandModel", "read", "(IIIII)I"⟩ prog_13_method_90_code 10 (Option.some .int) 8 187 w [.ref (zad w 0), .int a1, .int a2, .int a3, .int a4, .int a5] M post := by
  refine zMet (by decide) (Nat.le_of_ble_eq_true rfl) ?_
  intro p e s m below meth c X hr hlk hml hW ls hl
  have hx := X.1
  have hb := X.2.1
  have hl : lv_has ls 10 [(0, .ref (zad w 0)), (1, .int a1), (2, .int a2), (3, .int a3), (4, .int a4), (5, .int a5)] := hl
  have zJ_195 : ∀ (x_6 : Int32) (x_7 : Int32) (x_9 : Int32) (s_0 : Int32) (K231 : Int32 → Int32 → zMem → Prop) (zK231 : ∀ (y_6 : Int32) (y_7 : Int32) (M : zMem) (H : Heap) (locs : List Loc) (ls : Array Slot), zWo w s.heap M H locs → lv_has ls 10 [(0, .ref (zad w 0)), (1, .int a1), (3, .int a3), (4, .int a4), (6, .int y_6), (7, .int y_7)] → K231 y_6 y_7 M → W p l e (zRm 8 187) s m ([.ref (zad w 0), .int a1, .int a2, .int a3, .int a4, .int a5] : List Value).toArray below meth c H locs 0 0 (MQ below (va_Qi post (zB w) (zA w)) ([.ref (zad w 0), .int a1, .int a2, .int a3, .int a4, .int a5] : List Value).toArray s 0 0 (zA w)) (F0 m 231 ls [])) (J : Int32 → Int32 → Int32 → Int32 → zMem → Prop) (zJ : ∀ (y_6 : Int32) (y_7 : Int32) (y_8 : Int32) (y_9 : Int32) (M : zMem) (H : Heap) (locs : List Loc) (ls : Array Slot), zWo w s.heap M H locs → lv_has ls 10 [(0, .ref (zad w 0)), (1, .int a1), (2, .int a2), (3, .int a3), (4, .int a4), (5, .int a5), (6, .int y_6), (7, .int y_7), (8, .int y_8), (9, .int y_9)] → J y_6 y_7 y_8 y_9 M → W p l e (zRm 8 187) s m ([.ref (zad w 0), .int a1, .int a2, .int a3, .int a4, .int a5] : List Value).toArray below meth c H locs 0 0 (MQ below (va_Qi post (zB w) (zA w)) ([.ref (zad w 0), .int a1, .int a2, .int a3, .int a4, .int a5] : List Value).toArray s 0 0 (zA w)) (F0 m 78 ls [])) (M : zMem) (H : Heap) (locs : List Loc) (ls : Array Slot), zWo w s.heap M H locs → lv_has ls 10 [(0, .ref (zad w 0)), (1, .int a1), (2, .int a2), (3, .int a3), (4, .int a4), (5, .int a5), (6, .int x_6), (7, .int x_7), (9, .int x_9)] → wpJ_Model_read_195 a1 a2 a3 a4 a5 K231 J post x_6 x_7 x_9 s_0 M → W p l e (zRm 8 187) s m ([.ref (zad w 0), .int a1, .int a2, .int a3, .int a4, .int a5] : List Value).toArray below meth c H locs 0 0 (MQ below (va_Qi post (zB w) (zA w)) ([.ref (zad w 0), .int a1, .int a2, .int a3, .int a4, .int a5] : List Value).toArray s 0 0 (zA w)) (F0 m 195 ls [.int s_0]) := by
    intro x_6 x_7 x_9 s_0 K231 zK231 J zJ M H locs ls hW hl h
    unfold wpJ_Model_read_195 at h
    refine lv_istore (lv' := [(8, .int s_0), (0, .ref (zad w 0)), (1, .int a1), (2, .int a2), (3, .int a3), (4, .int a4), (5, .int a5), (6, .int x_6), (7, .int x_7), (9, .int x_9)]) hx hb dX11_read_195 hl (Nat.le_of_ble_eq_true rfl) rfl (fun ls hl => ?_)
    refine lv_iload hx hb dX11_read_197 (lv_at hl 9 rfl) ?_
    refine lv_iconst hx hb dX11_read_199 zc_i1 ?_
    refine lv_iadd hx hb dX11_read_200 ?_
    refine lv_aload_n hx hb dX11_read_201 rfl (lv_at hl 1 rfl) ?_
    refine zg_Model_holds X hW h0 zu_1031 dX11_read_202 ?_
    refine lv_iconst hx hb dX11_read_205 zc_i0 ?_
    obtain ⟨g, h⟩ := h
    refine ziald X hW h0.2.2.2.2.1 g dX11_read_206 ?_
    obtain ⟨g, h⟩ := h
    refine lv_irem hx hb dX11_read_207 g ?_
    refine lv_if_ne (tgt := 225) hx hb dX11_read_208 rfl (fun c => ?_) (fun c => ?_)
    · replace h := h.1 c
      obtain ⟨zx12, ezx12⟩ : ∃ y : Int32, y = x_9 + 1 := ⟨_, rfl⟩
      replace h := h zx12 ezx12
      refine lv_iinc (v := zx12) (lv' := [(9, .int zx12), (8, .int s_0), (0, .ref (zad w 0)), (1, .int a1), (2, .int a2), (3, .int a3), (4, .int a4), (5, .int a5), (6, .int x_6), (7, .int x_7)]) hx hb dX11_read_225 hl (k := 9) rfl (by rw [ezx12, zc_i1]) (Nat.le_of_ble_eq_true rfl) rfl (fun ls hl => ?_)
      refine lv_goto (tgt := 78) hx hb dX11_read_228 rfl ?_
      exact zJ x_6 x_7 s_0 zx12 M H locs ls hW (lv_sub hl [2, 3, 4, 5, 6, 7, 8, 9, 1, 0] rfl) h
    · replace h := h.2 c
      refine lv_iload hx hb dX11_read_211 (lv_at hl 0 rfl) ?_
      refine lv_if_ne (tgt := 222) hx hb dX11_read_213 rfl (fun c => ?_) (fun c => ?_)
      · replace h := h.1 c
        obtain ⟨zx13, ezx13⟩ : ∃ y : Int32, y = x_7 + 1 := ⟨_, rfl⟩
        replace h := h zx13 ezx13
        refine lv_iinc (v := zx13) (lv' := [(7, .int zx13), (8, .int s_0), (0, .ref (zad w 0)), (1, .int a1), (2, .int a2), (3, .int a3), (4, .int a4), (5, .int a5), (6, .int x_6), (9, .int x_9)]) hx hb dX11_read_222 hl (k := 8) rfl (by rw [ezx13, zc_i1]) (Nat.le_of_ble_eq_true rfl) rfl (fun ls hl => ?_)
        obtain ⟨zx14, ezx14⟩ : ∃ y : Int32, y = x_9 + 1 := ⟨_, rfl⟩
        replace h := h zx14 ezx14
        refine lv_iinc (v := zx14) (lv' := [(9, .int zx14), (7, .int zx13), (8, .int s_0), (0, .ref (zad w 0)), (1, .int a1), (2, .int a2), (3, .int a3), (4, .int a4), (5, .int a5), (6, .int x_6)]) hx hb dX11_read_225 hl (k := 9) rfl (by rw [ezx14, zc_i1]) (Nat.le_of_ble_eq_true rfl) rfl (fun ls hl => ?_)
        refine lv_goto (tgt := 78) hx hb dX11_read_228 rfl ?_
        exact zJ x_6 zx13 s_0 zx14 M H locs ls hW (lv_sub hl [3, 4, 5, 6, 7, 8, 9, 1, 2, 0] rfl) h
      · replace h := h.2 c
        refine lv_bipush hx hb dX11_read_216 zc_bm20 ?_
        refine lv_iload hx hb dX11_read_218 (lv_at hl 8 rfl) ?_
        refine lv_isub hx hb dX11_read_220 ?_
        exact zreti X hr hlk hW h dX11_read_221
  have zJ_194 : ∀ (x_6 : Int32) (x_7 : Int32) (x_9 : Int32) (K231 : Int32 → Int32 → zMem → Prop) (zK231 : ∀ (y_6 : Int32) (y_7 : Int32) (M : zMem) (H : Heap) (locs : List Loc) (ls : Array Slot), zWo w s.heap M H locs → lv_has ls 10 [(0, .ref (zad w 0)), (1, .int a1), (3, .int a3), (4, .int a4), (6, .int y_6), (7, .int y_7)] → K231 y_6 y_7 M → W p l e (zRm 8 187) s m ([.ref (zad w 0), .int a1, .int a2, .int a3, .int a4, .int a5] : List Value).toArray below meth c H locs 0 0 (MQ below (va_Qi post (zB w) (zA w)) ([.ref (zad w 0), .int a1, .int a2, .int a3, .int a4, .int a5] : List Value).toArray s 0 0 (zA w)) (F0 m 231 ls [])) (J : Int32 → Int32 → Int32 → Int32 → zMem → Prop) (zJ : ∀ (y_6 : Int32) (y_7 : Int32) (y_8 : Int32) (y_9 : Int32) (M : zMem) (H : Heap) (locs : List Loc) (ls : Array Slot), zWo w s.heap M H locs → lv_has ls 10 [(0, .ref (zad w 0)), (1, .int a1), (2, .int a2), (3, .int a3), (4, .int a4), (5, .int a5), (6, .int y_6), (7, .int y_7), (8, .int y_8), (9, .int y_9)] → J y_6 y_7 y_8 y_9 M → W p l e (zRm 8 187) s m ([.ref (zad w 0), .int a1, .int a2, .int a3, .int a4, .int a5] : List Value).toArray below meth c H locs 0 0 (MQ below (va_Qi post (zB w) (zA w)) ([.ref (zad w 0), .int a1, .int a2, .int a3, .int a4, .int a5] : List Value).toArray s 0 0 (zA w)) (F0 m 78 ls [])) (M : zMem) (H : Heap) (locs : List Loc) (ls : Array Slot), zWo w s.heap M H locs → lv_has ls 10 [(0, .ref (zad w 0)), (1, .int a1), (2, .int a2), (3, .int a3), (4, .int a4), (5, .int a5), (6, .int x_6), (7, .int x_7), (9, .int x_9)] → wpJ_Model_read_194 a1 a2 a3 a4 a5 K231 J post x_6 x_7 x_9 M → W p l e (zRm 8 187) s m ([.ref (zad w 0), .int a1, .int a2, .int a3, .int a4, .int a5] : List Value).toArray below meth c H locs 0 0 (MQ below (va_Qi post (zB w) (zA w)) ([.ref (zad w 0), .int a1, .int a2, .int a3, .int a4, .int a5] : List Value).toArray s 0 0 (zA w)) (F0 m 194 ls []) := by
    intro x_6 x_7 x_9 K231 zK231 J zJ M H locs ls hW hl h
    unfold wpJ_Model_read_194 at h
    refine lv_iconst hx hb dX11_read_194 zc_i0 ?_
    exact zJ_195 x_6 x_7 x_9 0 _ zK231 _ zJ M H locs ls hW (lv_sub hl [0, 1, 2, 3, 4, 5, 6, 7, 8] rfl) h
  have zJ_153 : ∀ (x_7 : Int32) (x_8 : Int32) (x_9 : Int32) (s_0 : Int32) (K231 : Int32 → Int32 → zMem → Prop) (zK231 : ∀ (y_6 : Int32) (y_7 : Int32) (M : zMem) (H : Heap) (locs : List Loc) (ls : Array Slot), zWo w s.heap M H locs → lv_has ls 10 [(0, .ref (zad w 0)), (1, .int a1), (3, .int a3), (4, .int a4), (6, .int y_6), (7, .int y_7)] → K231 y_6 y_7 M → W p l e (zRm 8 187) s m ([.ref (zad w 0), .int a1, .int a2, .int a3, .int a4, .int a5] : List Value).toArray below meth c H locs 0 0 (MQ below (va_Qi post (zB w) (zA w)) ([.ref (zad w 0), .int a1, .int a2, .int a3, .int a4, .int a5] : List Value).toArray s 0 0 (zA w)) (F0 m 231 ls [])) (J : Int32 → Int32 → Int32 → Int32 → zMem → Prop) (zJ : ∀ (y_6 : Int32) (y_7 : Int32) (y_8 : Int32) (y_9 : Int32) (M : zMem) (H : Heap) (locs : List Loc) (ls : Array Slot), zWo w s.heap M H locs → lv_has ls 10 [(0, .ref (zad w 0)), (1, .int a1), (2, .int a2), (3, .int a3), (4, .int a4), (5, .int a5), (6, .int y_6), (7, .int y_7), (8, .int y_8), (9, .int y_9)] → J y_6 y_7 y_8 y_9 M → W p l e (zRm 8 187) s m ([.ref (zad w 0), .int a1, .int a2, .int a3, .int a4, .int a5] : List Value).toArray below meth c H locs 0 0 (MQ below (va_Qi post (zB w) (zA w)) ([.ref (zad w 0), .int a1, .int a2, .int a3, .int a4, .int a5] : List Value).toArray s 0 0 (zA w)) (F0 m 78 ls [])) (M : zMem) (H : Heap) (locs : List Loc) (ls : Array Slot), zWo w s.heap M H locs → lv_has ls 10 [(0, .ref (zad w 0)), (1, .int a1), (2, .int a2), (3, .int a3), (4, .int a4), (5, .int a5), (7, .int x_7), (8, .int x_8), (9, .int x_9)] → wpJ_Model_read_153 a1 a2 a3 a4 a5 K231 J post x_7 x_8 x_9 s_0 M → W p l e (zRm 8 187) s m ([.ref (zad w 0), .int a1, .int a2, .int a3, .int a4, .int a5] : List Value).toArray below meth c H locs 0 0 (MQ below (va_Qi post (zB w) (zA w)) ([.ref (zad w 0), .int a1, .int a2, .int a3, .int a4, .int a5] : List Value).toArray s 0 0 (zA w)) (F0 m 153 ls [.int s_0]) := by
    intro x_7 x_8 x_9 s_0 K231 zK231 J zJ M H locs ls hW hl h
    unfold wpJ_Model_read_153 at h
    refine lv_istore (lv' := [(6, .int s_0), (0, .ref (zad w 0)), (1, .int a1), (2, .int a2), (3, .int a3), (4, .int a4), (5, .int a5), (7, .int x_7), (8, .int x_8), (9, .int x_9)]) hx hb dX11_read_153 hl (Nat.le_of_ble_eq_true rfl) rfl (fun ls hl => ?_)
    refine lv_iload hx hb dX11_read_155 (lv_at hl 0 rfl) ?_
    refine lv_if_ne (tgt := 225) hx hb dX11_read_157 rfl (fun c => ?_) (fun c => ?_)
    · replace h := h.1 c
      obtain ⟨zx11, ezx11⟩ : ∃ y : Int32, y = x_9 + 1 := ⟨_, rfl⟩
      replace h := h zx11 ezx11
      refine lv_iinc (v := zx11) (lv' := [(9, .int zx11), (6, .int s_0), (0, .ref (zad w 0)), (1, .int a1), (2, .int a2), (3, .int a3), (4, .int a4), (5, .int a5), (7, .int x_7), (8, .int x_8)]) hx hb dX11_read_225 hl (k := 9) rfl (by rw [ezx11, zc_i1]) (Nat.le_of_ble_eq_true rfl) rfl (fun ls hl => ?_)
      refine lv_goto (tgt := 78) hx hb dX11_read_228 rfl ?_
      exact zJ s_0 x_7 x_8 zx11 M H locs ls hW (lv_sub hl [2, 3, 4, 5, 6, 7, 1, 8, 9, 0] rfl) h
    · replace h := h.2 c
      refine lv_iload hx hb dX11_read_160 (lv_at hl 8 rfl) ?_
      refine lv_if_eq (tgt := 194) hx hb dX11_read_162 rfl (fun c => ?_) (fun c => ?_)
      · replace h := h.1 c
        exact zJ_194 s_0 x_7 x_9 _ zK231 _ zJ M H locs ls hW (lv_sub hl [1, 2, 3, 4, 5, 6, 0, 7, 9] rfl) h
      · replace h := h.2 c
        refine lv_aload_n hx hb dX11_read_165 rfl (lv_at hl 1 rfl) ?_
        refine zg_Model_cells X hW h0 zu_1058 dX11_read_166 ?_
        refine lv_bipush hx hb dX11_read_169 zc_b40 ?_
        refine lv_iload_n hx hb dX11_read_171 rfl (lv_at hl 2 rfl) ?_
        refine lv_imul hx hb dX11_read_172 ?_
        refine lv_iload_n hx hb dX11_read_173 rfl (lv_at hl 4 rfl) ?_
        refine lv_iadd hx hb dX11_read_174 ?_
        refine lv_iload hx hb dX11_read_175 (lv_at hl 9 rfl) ?_
        refine lv_iadd hx hb dX11_read_177 ?_
        obtain ⟨g, h⟩ := h
        refine ziald X hW h0.2.2.2.2.2.2.2.2.2.2.2.2.2.2.2.2.2.1 g dX11_read_178 ?_
        refine lv_i2l hx hb dX11_read_179 rfl ?_
        refine lv_lconst hx hb dX11_read_180 zc_l1 ?_
        refine lv_ldc2 hx hb X.2.2.1 (X.2.2.2.1 _ zu_1332) dX11_read_181 ?_
        refine zcalli (zrunS (As := [.long ((M 18 (ix (((40 * a1) + a3) + x_9))).toInt64), .long 1, .long 9]) (rest := []) X hml hl hW zk_Model_69 (c_Model_in  h) rfl ⟨Nat.le_of_ble_eq_true rfl, Nat.le_of_ble_eq_true rfl⟩ ⟨Nat.le_refl 0, Nat.le_refl 0⟩ rfl (Nat.le_of_ble_eq_true rfl) dX11_read_184) hW (fun zr16 zm15 H locs h hW => ?_)
        refine lv_if_eq (tgt := 194) hx hb dX11_read_187 rfl (fun c => ?_) (fun c => ?_)
        · replace h := h.1 c
          exact zJ_194 s_0 x_7 x_9 _ zK231 _ zJ zm15 H locs ls hW (lv_sub hl [1, 2, 3, 4, 5, 6, 0, 7, 9] rfl) h
        · replace h := h.2 c
          refine lv_iconst hx hb dX11_read_190 zc_i1 ?_
          refine lv_goto (tgt := 195) hx hb dX11_read_191 rfl ?_
          exact zJ_195 s_0 x_7 x_9 1 _ zK231 _ zJ zm15 H locs ls hW (lv_sub hl [1, 2, 3, 4, 5, 6, 0, 7, 9] rfl) h
  have zL_78 : ∀ (K231 : Int32 → Int32 → zMem → Prop) (zK231 : ∀ (y_6 : Int32) (y_7 : Int32) (M : zMem) (H : Heap) (locs : List Loc) (ls : Array Slot), zWo w s.heap M H locs → lv_has ls 10 [(0, .ref (zad w 0)), (1, .int a1), (3, .int a3), (4, .int a4), (6, .int y_6), (7, .int y_7)] → K231 y_6 y_7 M → W p l e (zRm 8 187) s m ([.ref (zad w 0), .int a1, .int a2, .int a3, .int a4, .int a5] : List Value).toArray below meth c H locs 0 0 (MQ below (va_Qi post (zB w) (zA w)) ([.ref (zad w 0), .int a1, .int a2, .int a3, .int a4, .int a5] : List Value).toArray s 0 0 (zA w)) (F0 m 231 ls [])), ∀ (n : Nat) (x_6 : Int32) (x_7 : Int32) (x_8 : Int32) (x_9 : Int32) (M : zMem) (H : Heap) (locs : List Loc) (ls : Array Slot), zWo w s.heap M H locs → lv_has ls 10 [(0, .ref (zad w 0)), (1, .int a1), (2, .int a2), (3, .int a3), (4, .int a4), (5, .int a5), (6, .int x_6), (7, .int x_7), (8, .int x_8), (9, .int x_9)] → zlp4 (wpB_Model_read_78 a1 a2 a3 a4 a5  K231 post) n x_6 x_7 x_8 x_9 M → W p l e (zRm 8 187) s m ([.ref (zad w 0), .int a1, .int a2, .int a3, .int a4, .int a5] : List Value).toArray below meth c H locs 0 0 (MQ below (va_Qi post (zB w) (zA w)) ([.ref (zad w 0), .int a1, .int a2, .int a3, .int a4, .int a5] : List Value).toArray s 0 0 (zA w)) (F0 m 78 ls []) := by
    intro K231 zK231 n
    induction n with
    | zero => intro x_6 x_7 x_8 x_9 M H locs ls hW hl h; exact h.elim
    | succ n zJ =>
      intro x_6 x_7 x_8 x_9 M H locs ls hW hl h
      have h : wpB_Model_read_78 a1 a2 a3 a4 a5  K231 post (zlp4 (wpB_Model_read_78 a1 a2 a3 a4 a5  K231 post) n) x_6 x_7 x_8 x_9 M := h
      unfold wpB_Model_read_78 at h
      refine lv_iload hx hb dX11_read_78 (lv_at hl 9 rfl) ?_
      refine lv_aload_n hx hb dX11_read_80 rfl (lv_at hl 0 rfl) ?_
      refine zg_Model_holds X hW h0 zu_1031 dX11_read_81 ?_
      refine lv_iconst hx hb dX11_read_84 zc_i0 ?_
      obtain ⟨g, h⟩ := h
      refine ziald X hW h0.2.2.2.2.1 g dX11_read_85 ?_
      refine lv_iload hx hb dX11_read_86 (lv_at hl 5 rfl) ?_
      refine lv_imul hx hb dX11_read_88 ?_
      refine lv_icmp_ge (tgt := 231) hx hb dX11_read_89 rfl (fun c => ?_) (fun c => ?_)
      · replace h := h.1 c
        exact zK231 x_6 x_7 M H locs ls hW (lv_sub hl [0, 1, 3, 4, 6, 7] rfl) h
      · replace h := h.2 c
        refine lv_iload hx hb dX11_read_92 (lv_at hl 6 rfl) ?_
        refine lv_if_ne (tgt := 231) hx hb dX11_read_94 rfl (fun c => ?_) (fun c => ?_)
        · replace h := h.1 c
          exact zK231 x_6 x_7 M H locs ls hW (lv_sub hl [0, 1, 3, 4, 6, 7] rfl) h
        · replace h := h.2 c
          refine lv_aload_n hx hb dX11_read_97 rfl (lv_at hl 0 rfl) ?_
          refine zg_Model_lanes X hW h0 zu_1056 dX11_read_98 ?_
          refine lv_iload_n hx hb dX11_read_101 rfl (lv_at hl 1 rfl) ?_
          obtain ⟨g, h⟩ := h
          refine ziald X hW h0.2.2.2.2.2.2.2.2.2.2.2.2.2.2.2.1 g dX11_read_102 ?_
          refine lv_bipush hx hb dX11_read_103 zc_bm4 ?_
          refine lv_icmp_ne (tgt := 112) hx hb dX11_read_105 rfl (fun c => ?_) (fun c => ?_)
          · replace h := h.1 c
            refine lv_aload_n hx hb dX11_read_112 rfl (lv_at hl 0 rfl) ?_
            refine zg_Model_lanes X hW h0 zu_1056 dX11_read_113 ?_
            refine lv_iload_n hx hb dX11_read_116 rfl (lv_at hl 1 rfl) ?_
            obtain ⟨g, h⟩ := h
            refine ziald X hW h0.2.2.2.2.2.2.2.2.2.2.2.2.2.2.2.1 g dX11_read_117 ?_
            refine lv_iload_n hx hb dX11_read_118 rfl (lv_at hl 2 rfl) ?_
            refine lv_icmp_eq (tgt := 126) hx hb dX11_read_119 rfl (fun c => ?_) (fun c => ?_)
            · replace h := h.1 c
              refine lv_iload_n hx hb dX11_read_126 rfl (lv_at hl 3 rfl) ?_
              refine lv_i2l hx hb dX11_read_127 rfl ?_
              refine lv_iload hx hb dX11_read_128 (lv_at hl 9 rfl) ?_
              refine lv_i2l hx hb dX11_read_130 rfl ?_
              refine lv_ladd hx hb dX11_read_131 ?_
              refine lv_lconst hx hb dX11_read_132 zc_l0 ?_
              refine lv_aload_n hx hb dX11_read_133 rfl (lv_at hl 0 rfl) ?_
              refine zg_Model_lengths X hW h0 zu_1057 dX11_read_134 ?_
              refine lv_iload_n hx hb dX11_read_137 rfl (lv_at hl 1 rfl) ?_
              obtain ⟨g, h⟩ := h
              refine ziald X hW h0.2.2.2.2.2.2.2.2.2.2.2.2.2.2.2.2.1 g dX11_read_138 ?_
              refine lv_iconst hx hb dX11_read_139 zc_i1 ?_
              refine lv_isub hx hb dX11_read_140 ?_
              refine lv_i2l hx hb dX11_read_141 rfl ?_
              refine zcalli (zrunS (As := [.long (a3.toInt64 + x_9.toInt64), .long 0, .long (((M 17 (ix a1)) - 1).toInt64)]) (rest := []) X hml hl hW zk_Model_69 (c_Model_in  h) rfl ⟨Nat.le_of_ble_eq_true rfl, Nat.le_of_ble_eq_true rfl⟩ ⟨Nat.le_refl 0, Nat.le_refl 0⟩ rfl (Nat.le_of_ble_eq_true rfl) dX11_read_142) hW (fun zr10 zm9 H locs h hW => ?_)
              refine lv_if_ne (tgt := 152) hx hb dX11_read_145 rfl (fun c => ?_) (fun c => ?_)
              · replace h := h.1 c
                refine lv_iconst hx hb dX11_read_152 zc_i0 ?_
                exact zJ_153 x_7 x_8 x_9 0 _ zK231 _ zJ zm9 H locs ls hW (lv_sub hl [0, 1, 2, 3, 4, 5, 7, 8, 9] rfl) h
              · replace h := h.2 c
                refine lv_iconst hx hb dX11_read_148 zc_i2 ?_
                refine lv_goto (tgt := 153) hx hb dX11_read_149 rfl ?_
                exact zJ_153 x_7 x_8 x_9 2 _ zK231 _ zJ zm9 H locs ls hW (lv_sub hl [0, 1, 2, 3, 4, 5, 7, 8, 9] rfl) h
            · replace h := h.2 c
              refine lv_iconst hx hb dX11_read_122 zc_i3 ?_
              refine lv_goto (tgt := 153) hx hb dX11_read_123 rfl ?_
              exact zJ_153 x_7 x_8 x_9 3 _ zK231 _ zJ M H locs ls hW (lv_sub hl [0, 1, 2, 3, 4, 5, 7, 8, 9] rfl) h
          · replace h := h.2 c
            refine lv_iconst hx hb dX11_read_108 zc_i1 ?_
            refine lv_goto (tgt := 153) hx hb dX11_read_109 rfl ?_
            exact zJ_153 x_7 x_8 x_9 1 _ zK231 _ zJ M H locs ls hW (lv_sub hl [0, 1, 2, 3, 4, 5, 7, 8, 9] rfl) h
  have zL_234 : ∀ (x_6 : Int32) (x_7 : Int32), ∀ (n : Nat) (x_9 : Int32) (M : zMem) (H : Heap) (locs : List Loc) (ls : Array Slot), zWo w s.heap M H locs → lv_has ls 10 [(0, .ref (zad w 0)), (1, .int a1), (3, .int a3), (4, .int a4), (6, .int x_6), (7, .int x_7), (9, .int x_9)] → zlp1 (wpB_Model_read_234 a1 a2 a3 a4 a5 x_6 x_7  post) n x_9 M → W p l e (zRm 8 187) s m ([.ref (zad w 0), .int a1, .int a2, .int a3, .int a4, .int a5] : List Value).toArray below meth c H locs 0 0 (MQ below (va_Qi post (zB w) (zA w)) ([.ref (zad w 0), .int a1, .int a2, .int a3, .int a4, .int a5] : List Value).toArray s 0 0 (zA w)) (F0 m 234 ls []) := by
    intro x_6 x_7 n
    induction n with
    | zero => intro x_9 M H locs ls hW hl h; exact h.elim
    | succ n zJ =>
      intro x_9 M H locs ls hW hl h
      have h : wpB_Model_read_234 a1 a2 a3 a4 a5 x_6 x_7  post (zlp1 (wpB_Model_read_234 a1 a2 a3 a4 a5 x_6 x_7  post) n) x_9 M := h
      unfold wpB_Model_read_234 at h
      refine lv_iload hx hb dX11_read_234 (lv_at hl 6 rfl) ?_
      refine lv_aload_n hx hb dX11_read_236 rfl (lv_at hl 0 rfl) ?_
      refine zg_Model_holds X hW h0 zu_1031 dX11_read_237 ?_
      refine lv_iconst hx hb dX11_read_240 zc_i0 ?_
      obtain ⟨g, h⟩ := h
      refine ziald X hW h0.2.2.2.2.1 g dX11_read_241 ?_
      refine lv_iload hx hb dX11_read_242 (lv_at hl 5 rfl) ?_
      refine lv_imul hx hb dX11_read_244 ?_
      refine lv_icmp_ge (tgt := 301) hx hb dX11_read_245 rfl (fun c => ?_) (fun c => ?_)
      · replace h := h.1 c
        refine lv_aload_n hx hb dX11_read_301 rfl (lv_at hl 0 rfl) ?_
        refine lv_iload hx hb dX11_read_302 (lv_at hl 4 rfl) ?_
        refine zp_Model_torn X hW h0 zu_1059 dX11_read_304 (fun H locs zm20 ezm20 hW => ?_)
        replace h := h zm20 ezm20
        refine lv_iload hx hb dX11_read_307 (lv_at hl 5 rfl) ?_
        exact zreti X hr hlk hW h dX11_read_309
      · replace h := h.2 c
        refine lv_aload_n hx hb dX11_read_248 rfl (lv_at hl 0 rfl) ?_
        refine zg_Model_holds X hW h0 zu_1031 dX11_read_249 ?_
        refine lv_bipush hx hb dX11_read_252 zc_b60 ?_
        refine lv_bipush hx hb dX11_read_254 zc_b8 ?_
        refine lv_iload hx hb dX11_read_256 (lv_at hl 3 rfl) ?_
        refine lv_iload hx hb dX11_read_258 (lv_at hl 6 rfl) ?_
        refine lv_aload_n hx hb dX11_read_260 rfl (lv_at hl 0 rfl) ?_
        refine zg_Model_holds X hW h0 zu_1031 dX11_read_261 ?_
        refine lv_iconst hx hb dX11_read_264 zc_i0 ?_
        obtain ⟨g, h⟩ := h
        refine ziald X hW h0.2.2.2.2.1 g dX11_read_265 ?_
        obtain ⟨g, h⟩ := h
        refine lv_idiv hx hb dX11_read_266 g ?_
        refine lv_iadd hx hb dX11_read_267 ?_
        refine lv_imul hx hb dX11_read_268 ?_
        refine lv_iadd hx hb dX11_read_269 ?_
        refine lv_iload hx hb dX11_read_270 (lv_at hl 6 rfl) ?_
        refine lv_aload_n hx hb dX11_read_272 rfl (lv_at hl 0 rfl) ?_
        refine zg_Model_holds X hW h0 zu_1031 dX11_read_273 ?_
        refine lv_iconst hx hb dX11_read_276 zc_i0 ?_
        obtain ⟨g, h⟩ := h
        refine ziald X hW h0.2.2.2.2.1 g dX11_read_277 ?_
        obtain ⟨g, h⟩ := h
        refine lv_irem hx hb dX11_read_278 g ?_
        refine lv_iadd hx hb dX11_read_279 ?_
        refine lv_aload_n hx hb dX11_read_280 rfl (lv_at hl 0 rfl) ?_
        refine zg_Model_cells X hW h0 zu_1058 dX11_read_281 ?_
        refine lv_bipush hx hb dX11_read_284 zc_b40 ?_
        refine lv_iload_n hx hb dX11_read_286 rfl (lv_at hl 1 rfl) ?_
        refine lv_imul hx hb dX11_read_287 ?_
        refine lv_iload_n hx hb dX11_read_288 rfl (lv_at hl 2 rfl) ?_
        refine lv_iadd hx hb dX11_read_289 ?_
        refine lv_iload hx hb dX11_read_290 (lv_at hl 6 rfl) ?_
        refine lv_iadd hx hb dX11_read_292 ?_
        obtain ⟨g, h⟩ := h
        refine ziald X hW h0.2.2.2.2.2.2.2.2.2.2.2.2.2.2.2.2.2.1 g dX11_read_293 ?_
        obtain ⟨g, h⟩ := h
        refine ziast X hW h0.2.2.2.2.1 g dX11_read_294 (fun H locs zm21 ezm21 hW => ?_)
        replace h := h zm21 ezm21
        obtain ⟨zx22, ezx22⟩ : ∃ y : Int32, y = x_9 + 1 := ⟨_, rfl⟩
        replace h := h zx22 ezx22
        refine lv_iinc (v := zx22) (lv' := [(9, .int zx22), (0, .ref (zad w 0)), (1, .int a1), (3, .int a3), (4, .int a4), (6, .int x_6), (7, .int x_7)]) hx hb dX11_read_295 hl (k := 6) rfl (by rw [ezx22, zc_i1]) (Nat.le_of_ble_eq_true rfl) rfl (fun ls hl => ?_)
        refine lv_goto (tgt := 234) hx hb dX11_read_298 rfl ?_
        exact zJ zx22 zm21 H locs ls hW (lv_sub hl [1, 2, 3, 4, 5, 6, 0] rfl) h
  unfold wp_Model_read at h
  have zMain : ∀ (H : Heap) (locs : List Loc) (ls : Array Slot), zWo w s.heap M H locs → lv_has ls 10 [(0, .ref (zad w 0)), (1, .int a1), (2, .int a2), (3, .int a3), (4, .int a4), (5, .int a5)] → W p l e (zRm 8 187) s m ([.ref (zad w 0), .int a1, .int a2, .int a3, .int a4, .int a5] : List Value).toArray below meth c H locs 0 0 (MQ below (va_Qi post (zB w) (zA w)) ([.ref (zad w 0), .int a1, .int a2, .int a3, .int a4, .int a5] : List Value).toArray s 0 0 (zA w)) (F0 m 0 ls []) := by
    intro H locs ls hW hl
    refine lv_iload_n hx hb dX11_read_0 rfl (lv_at hl 1 rfl) ?_
    refine lv_i2l hx hb dX11_read_1 rfl ?_
    refine lv_lconst hx hb dX11_read_2 zc_l0 ?_
    refine lv_ldc2 hx hb X.2.2.1 (X.2.2.2.1 _ zu_1427) dX11_read_3 ?_
    refine zcalli (zrunS (As := [.long a1.toInt64, .long 0, .long 3]) (rest := []) X hml hl hW zk_Model_69 (c_Model_in  h) rfl ⟨Nat.le_of_ble_eq_true rfl, Nat.le_of_ble_eq_true rfl⟩ ⟨Nat.le_refl 0, Nat.le_refl 0⟩ rfl (Nat.le_of_ble_eq_true rfl) dX11_read_6) hW (fun zr2 zm1 H locs h hW => ?_)
    refine lv_if_eq (tgt := 60) hx hb dX11_read_9 rfl (fun c => ?_) (fun c => ?_)
    · replace h := h.1 c
      refine lv_iconst hx hb dX11_read_60 zc_im1 ?_
      exact zreti X hr hlk hW h dX11_read_61
    · replace h := h.2 c
      refine lv_iload_n hx hb dX11_read_12 rfl (lv_at hl 2 rfl) ?_
      refine lv_i2l hx hb dX11_read_13 rfl ?_
      refine lv_lconst hx hb dX11_read_14 zc_l0 ?_
      refine lv_ldc2 hx hb X.2.2.1 (X.2.2.2.1 _ zu_1248) dX11_read_15 ?_
      refine zcalli (zrunS (As := [.long a2.toInt64, .long 0, .long 2]) (rest := []) X hml hl hW zk_Model_69 (c_Model_in  h) rfl ⟨Nat.le_of_ble_eq_true rfl, Nat.le_of_ble_eq_true rfl⟩ ⟨Nat.le_refl 0, Nat.le_refl 0⟩ rfl (Nat.le_of_ble_eq_true rfl) dX11_read_18) hW (fun zr4 zm3 H locs h hW => ?_)
      refine lv_if_eq (tgt := 60) hx hb dX11_read_21 rfl (fun c => ?_) (fun c => ?_)
      · replace h := h.1 c
        refine lv_iconst hx hb dX11_read_60 zc_im1 ?_
        exact zreti X hr hlk hW h dX11_read_61
      · replace h := h.2 c
        refine lv_iload hx hb dX11_read_24 (lv_at hl 4 rfl) ?_
        refine lv_if_lt (tgt := 60) hx hb dX11_read_26 rfl (fun c => ?_) (fun c => ?_)
        · replace h := h.1 c
          refine lv_iconst hx hb dX11_read_60 zc_im1 ?_
          exact zreti X hr hlk hW h dX11_read_61
        · replace h := h.2 c
          refine lv_iload hx hb dX11_read_29 (lv_at hl 5 rfl) ?_
          refine lv_i2l hx hb dX11_read_31 rfl ?_
          refine lv_lconst hx hb dX11_read_32 zc_l0 ?_
          refine lv_ldc2 hx hb X.2.2.1 (X.2.2.2.1 _ zu_1358) dX11_read_33 ?_
          refine zcalli (zrunS (As := [.long a5.toInt64, .long 0, .long 5]) (rest := []) X hml hl hW zk_Model_69 (c_Model_in  h) rfl ⟨Nat.le_of_ble_eq_true rfl, Nat.le_of_ble_eq_true rfl⟩ ⟨Nat.le_refl 0, Nat.le_refl 0⟩ rfl (Nat.le_of_ble_eq_true rfl) dX11_read_36) hW (fun zr6 zm5 H locs h hW => ?_)
          refine lv_if_eq (tgt := 60) hx hb dX11_read_39 rfl (fun c => ?_) (fun c => ?_)
          · replace h := h.1 c
            refine lv_iconst hx hb dX11_read_60 zc_im1 ?_
            exact zreti X hr hlk hW h dX11_read_61
          · replace h := h.2 c
            refine lv_iload hx hb dX11_read_42 (lv_at hl 4 rfl) ?_
            refine lv_i2l hx hb dX11_read_44 rfl ?_
            refine lv_iload hx hb dX11_read_45 (lv_at hl 5 rfl) ?_
            refine lv_i2l hx hb dX11_read_47 rfl ?_
            refine lv_ladd hx hb dX11_read_48 ?_
            refine lv_aload_n hx hb dX11_read_49 rfl (lv_at hl 0 rfl) ?_
            refine zg_Model_holds X hW h0 zu_1031 dX11_read_50 ?_
            refine lv_iconst hx hb dX11_read_53 zc_i1 ?_
            obtain ⟨g, h⟩ := h
            refine ziald X hW h0.2.2.2.2.1 g dX11_read_54 ?_
            refine lv_i2l hx hb dX11_read_55 rfl ?_
            refine W.lcmp hx hb dX11_read_56 ?_
            refine lv_if_le (tgt := 62) hx hb dX11_read_57 rfl (fun c => ?_) (fun c => ?_)
            · replace h := h.1 c
              refine lv_aload_n hx hb dX11_read_62 rfl (lv_at hl 0 rfl) ?_
              refine zcallv (zrunV (As := []) (rest := []) X hml hl hW h0.1 rfl zk_Model_180 (c_Model_awake h0 h) rfl ⟨Nat.le_of_ble_eq_true rfl, Nat.le_of_ble_eq_true rfl⟩ ⟨Nat.le_refl 0, Nat.le_refl 0⟩ rfl (Nat.le_of_ble_eq_true rfl) dX11_read_63) hW (fun zm7 H locs h hW => ?_)
              refine lv_iconst hx hb dX11_read_66 zc_i0 ?_
              refine lv_istore (lv' := [(6, .int 0), (0, .ref (zad w 0)), (1, .int a1), (2, .int a2), (3, .int a3), (4, .int a4), (5, .int a5)]) hx hb dX11_read_67 hl (Nat.le_of_ble_eq_true rfl) rfl (fun ls hl => ?_)
              refine lv_iconst hx hb dX11_read_69 zc_i0 ?_
              refine lv_istore (lv' := [(7, .int 0), (6, .int 0), (0, .ref (zad w 0)), (1, .int a1), (2, .int a2), (3, .int a3), (4, .int a4), (5, .int a5)]) hx hb dX11_read_70 hl (Nat.le_of_ble_eq_true rfl) rfl (fun ls hl => ?_)
              refine lv_iconst hx hb dX11_read_72 zc_i1 ?_
              refine lv_istore (lv' := [(8, .int 1), (7, .int 0), (6, .int 0), (0, .ref (zad w 0)), (1, .int a1), (2, .int a2), (3, .int a3), (4, .int a4), (5, .int a5)]) hx hb dX11_read_73 hl (Nat.le_of_ble_eq_true rfl) rfl (fun ls hl => ?_)
              refine lv_iconst hx hb dX11_read_75 zc_i0 ?_
              refine lv_istore (lv' := [(9, .int 0), (8, .int 1), (7, .int 0), (6, .int 0), (0, .ref (zad w 0)), (1, .int a1), (2, .int a2), (3, .int a3), (4, .int a4), (5, .int a5)]) hx hb dX11_read_76 hl (Nat.le_of_ble_eq_true rfl) rfl (fun ls hl => ?_)
              obtain ⟨n, h⟩ := h
              refine zL_78  _ (fun zx18 zx19 zm17 H locs ls hW hl h => ?_) n 0 0 1 0 zm7 H locs ls hW (lv_sub hl [4, 5, 6, 7, 8, 9, 3, 2, 1, 0] rfl) h
              · skip
                refine lv_iconst hx hb dX11_read_231 zc_i0 ?_
                refine lv_istore (lv' := [(9, .int 0), (0, .ref (zad w 0)), (1, .int a1), (3, .int a3), (4, .int a4), (6, .int zx18), (7, .int zx19)]) hx hb dX11_read_232 hl (Nat.le_of_ble_eq_true rfl) rfl (fun ls hl => ?_)
                obtain ⟨n, h⟩ := h
                refine zL_234 zx18 zx19  n 0 zm17 H locs ls hW (lv_sub hl [1, 2, 3, 4, 5, 6, 0] rfl) h
            · replace h := h.2 c
              refine lv_iconst hx hb dX11_read_60 zc_im1 ?_
              exact zreti X hr hlk hW h dX11_read_61
  exact zMain s.heap [] ls hW hl
