def wpB_Model_could_54 (a1 : Int32) (x_2 : Int64) (x_4 : Int64) (x_6 : Int32) (x_9 : Int32) (K118 : Int64 → zMem → Prop) (Q : Int64 → zMem → Prop) (J : Int64 → Int32 → zMem → Prop) (x_7 : Int64) (x_10 : Int32) (M : zMem) : Prop :=
  vp_in 0 100 ∧ ((M 4 (ix 0)) ≤ x_10 → K118 x_7 M) ∧ (¬ (M 4 (ix 0)) ≤ x_10 → vp_in (10 + x_9) 100 ∧ vp_in ((30 + (8 * (M 4 (ix (10 + x_9))))) + x_10) 100 ∧ vp_in ((60 + (8 * x_6)) + x_10) 100 ∧ ∀ zx3 : Int64, zx3 = x_7 + (((M 4 (ix ((30 + (8 * (M 4 (ix (10 + x_9))))) + x_10))) * (M 4 (ix ((60 + (8 * x_6)) + x_10)))).toInt64) → ∀ zx4 : Int32, zx4 = x_10 + 1 → J zx3 zx4 M)
def wpB_Model_could_39 (a1 : Int32) (x_2 : Int64) (x_4 : Int64) (x_6 : Int32) (K124 : Int64 → zMem → Prop) (Q : Int64 → zMem → Prop) (J : Int64 → Int32 → zMem → Prop) (x_7 : Int64) (x_9 : Int32) (M : zMem) : Prop :=
  vp_in 6 100 ∧ ((M 4 (ix 6)) ≤ x_9 → K124 x_7 M) ∧ (¬ (M 4 (ix 6)) ≤ x_9 → ∃ n : Nat, zlp2 (wpB_Model_could_54 a1 x_2 x_4 x_6 x_9 (fun (zx6 : Int64) (zm5 : zMem) => ∀ zx7 : Int32, zx7 = x_9 + 1 → J zx6 zx7 zm5) Q) n x_7 0 M)
def wpB_Model_could_22 (a1 : Int32)   (Q : Int64 → zMem → Prop) (J : Int64 → Int64 → Int32 → zMem → Prop) (x_2 : Int64) (x_4 : Int64) (x_6 : Int32) (M : zMem) : Prop :=
  vp_in 1 100 ∧ ((M 4 (ix 1)) ≤ x_6 → (¬ a1 = 0 → Q x_4 M) ∧ (a1 = 0 → Q x_2 M)) ∧ (¬ (M 4 (ix 1)) ≤ x_6 → ∃ n : Nat, zlp2 (wpB_Model_could_39 a1 x_2 x_4 x_6 (fun (zx9 : Int64) (zm8 : zMem) => vp_in 6 100 ∧ ∀ zx10 : Int64, zx10 = (x_2 * zx9) + (((zm8 4 (ix 6)).toInt64) * x_4) → ∀ zx11 : Int64, zx11 = x_4 * zx9 → wp_Model_lowest zx10 zx11 0 zm8 (fun zr13 zm12 => wp_Model_lowest zx10 zx11 1 zm12 (fun zr15 zm14 => ∀ zx16 : Int32, zx16 = x_6 + 1 → J zr13 zr15 zx16 zm14))) Q) n 0 0 M)
def wp_Model_could (a1 : Int32) (M : zMem) (Q : Int64 → zMem → Prop) : Prop :=
  wp_Model_in a1.toInt64 0 1 M (fun zr2 zm1 => (¬ zr2 = 0 → ∃ n : Nat, zlp3 (wpB_Model_could_22 a1   Q) n 0 1 0 zm1) ∧ (zr2 = 0 → Q ((-1)) zm1))
set_option maxHeartbeats 4000000 in
set_option maxRecDepth 20000 in
theorem c_Model_could {l : Launch} {w : zWd} {a1 : Int32} {M : zMem} {post : Int64 → zMem → Prop} (h0 : zI_Model w) (h : wp_Model_could a1 M post) : zMl l ⟨"HandToHandModel", "could", "(I)J"⟩ prog_13_method_75_code 13 (Option.some .long) 1 30 w [.ref (zad w 0), .int a1] M post := by
  refine zMet (by decide) (Nat.le_of_ble_eq_true rfl) ?_
  intro p e s m below meth c X hr hlk hml hW ls hl
  have hx := X.1
  have hb := X.2.1
  have hl : lv_has ls 13 [(0, .ref (zad w 0)), (1, .int a1)] := hl
  have zL_54 : ∀ (x_2 : Int64) (x_4 : Int64) (x_6 : Int32) (x_9 : Int32) (K118 : Int64 → zMem → Prop) (zK118 : ∀ (y_7 : Int64) (M : zMem) (H : Heap) (locs : List Loc) (ls : Array Slot), zWo w s.heap M H locs → lv_has ls 13 [(0, .ref (zad w 0)), (1, .int a1), (2, .long x_2), (4, .long x_4), (6, .int x_6), (7, .long y_7), (9, .int x_9)] → K118 y_7 M → W p l e (zRm 1 30) s m ([.ref (zad w 0), .int a1] : List Value).toArray below meth c H locs 0 0 (MQ below (va_Ql post (zB w) (zA w)) ([.ref (zad w 0), .int a1] : List Value).toArray s 0 0 (zA w)) (F0 m 118 ls [])), ∀ (n : Nat) (x_7 : Int64) (x_10 : Int32) (M : zMem) (H : Heap) (locs : List Loc) (ls : Array Slot), zWo w s.heap M H locs → lv_has ls 13 [(0, .ref (zad w 0)), (1, .int a1), (2, .long x_2), (4, .long x_4), (6, .int x_6), (7, .long x_7), (9, .int x_9), (10, .int x_10)] → zlp2 (wpB_Model_could_54 a1 x_2 x_4 x_6 x_9 K118 post) n x_7 x_10 M → W p l e (zRm 1 30) s m ([.ref (zad w 0), .int a1] : List Value).toArray below meth c H locs 0 0 (MQ below (va_Ql post (zB w) (zA w)) ([.ref (zad w 0), .int a1] : List Value).toArray s 0 0 (zA w)) (F0 m 54 ls []) := by
    intro x_2 x_4 x_6 x_9 K118 zK118 n
    induction n with
    | zero => intro x_7 x_10 M H locs ls hW hl h; exact h.elim
    | succ n zJ =>
      intro x_7 x_10 M H locs ls hW hl h
      have h : wpB_Model_could_54 a1 x_2 x_4 x_6 x_9 K118 post (zlp2 (wpB_Model_could_54 a1 x_2 x_4 x_6 x_9 K118 post) n) x_7 x_10 M := h
      unfold wpB_Model_could_54 at h
      refine lv_iload hx hb dX11_could_54 (lv_at hl 7 rfl) ?_
      refine lv_aload_n hx hb dX11_could_56 rfl (lv_at hl 0 rfl) ?_
      refine zg_Model_holds X hW h0 zu_1031 dX11_could_57 ?_
      refine lv_iconst hx hb dX11_could_60 zc_i0 ?_
      obtain ⟨g, h⟩ := h
      refine ziald X hW h0.2.2.2.2.1 g dX11_could_61 ?_
      refine lv_icmp_ge (tgt := 118) hx hb dX11_could_62 rfl (fun c => ?_) (fun c => ?_)
      · replace h := h.1 c
        exact zK118 x_7 M H locs ls hW (lv_sub hl [0, 1, 2, 3, 4, 5, 6] rfl) h
      · replace h := h.2 c
        refine lv_lload hx hb dX11_could_65 (lv_at hl 5 rfl) ?_
        refine lv_aload_n hx hb dX11_could_67 rfl (lv_at hl 0 rfl) ?_
        refine zg_Model_holds X hW h0 zu_1031 dX11_could_68 ?_
        refine lv_bipush hx hb dX11_could_71 zc_b30 ?_
        refine lv_bipush hx hb dX11_could_73 zc_b8 ?_
        refine lv_aload_n hx hb dX11_could_75 rfl (lv_at hl 0 rfl) ?_
        refine zg_Model_holds X hW h0 zu_1031 dX11_could_76 ?_
        refine lv_bipush hx hb dX11_could_79 zc_b10 ?_
        refine lv_iload hx hb dX11_could_81 (lv_at hl 6 rfl) ?_
        refine lv_iadd hx hb dX11_could_83 ?_
        obtain ⟨g, h⟩ := h
        refine ziald X hW h0.2.2.2.2.1 g dX11_could_84 ?_
        refine lv_imul hx hb dX11_could_85 ?_
        refine lv_iadd hx hb dX11_could_86 ?_
        refine lv_iload hx hb dX11_could_87 (lv_at hl 7 rfl) ?_
        refine lv_iadd hx hb dX11_could_89 ?_
        obtain ⟨g, h⟩ := h
        refine ziald X hW h0.2.2.2.2.1 g dX11_could_90 ?_
        refine lv_aload_n hx hb dX11_could_91 rfl (lv_at hl 0 rfl) ?_
        refine zg_Model_holds X hW h0 zu_1031 dX11_could_92 ?_
        refine lv_bipush hx hb dX11_could_95 zc_b60 ?_
        refine lv_bipush hx hb dX11_could_97 zc_b8 ?_
        refine lv_iload hx hb dX11_could_99 (lv_at hl 4 rfl) ?_
        refine lv_imul hx hb dX11_could_101 ?_
        refine lv_iadd hx hb dX11_could_102 ?_
        refine lv_iload hx hb dX11_could_103 (lv_at hl 7 rfl) ?_
        refine lv_iadd hx hb dX11_could_105 ?_
        obtain ⟨g, h⟩ := h
        refine ziald X hW h0.2.2.2.2.1 g dX11_could_106 ?_
        refine lv_imul hx hb dX11_could_107 ?_
        refine lv_i2l hx hb dX11_could_108 rfl ?_
        refine lv_ladd hx hb dX11_could_109 ?_
        refine lv_topl (fun zx3 ezx3 => ?_)
        replace h := h zx3 ezx3
        refine lv_lstore (lv' := [(7, .long zx3), (0, .ref (zad w 0)), (1, .int a1), (2, .long x_2), (4, .long x_4), (6, .int x_6), (9, .int x_9), (10, .int x_10)]) hx hb dX11_could_110 hl (Nat.le_of_ble_eq_true rfl) rfl (fun ls hl => ?_)
        obtain ⟨zx4, ezx4⟩ : ∃ y : Int32, y = x_10 + 1 := ⟨_, rfl⟩
        replace h := h zx4 ezx4
        refine lv_iinc (v := zx4) (lv' := [(10, .int zx4), (7, .long zx3), (0, .ref (zad w 0)), (1, .int a1), (2, .long x_2), (4, .long x_4), (6, .int x_6), (9, .int x_9)]) hx hb dX11_could_112 hl (k := 7) rfl (by rw [ezx4, zc_i1]) (Nat.le_of_ble_eq_true rfl) rfl (fun ls hl => ?_)
        refine lv_goto (tgt := 54) hx hb dX11_could_115 rfl ?_
        exact zJ zx3 zx4 M H locs ls hW (lv_sub hl [2, 3, 4, 5, 6, 1, 7, 0] rfl) h
  have zL_39 : ∀ (x_2 : Int64) (x_4 : Int64) (x_6 : Int32) (K124 : Int64 → zMem → Prop) (zK124 : ∀ (y_7 : Int64) (M : zMem) (H : Heap) (locs : List Loc) (ls : Array Slot), zWo w s.heap M H locs → lv_has ls 13 [(0, .ref (zad w 0)), (1, .int a1), (2, .long x_2), (4, .long x_4), (6, .int x_6), (7, .long y_7)] → K124 y_7 M → W p l e (zRm 1 30) s m ([.ref (zad w 0), .int a1] : List Value).toArray below meth c H locs 0 0 (MQ below (va_Ql post (zB w) (zA w)) ([.ref (zad w 0), .int a1] : List Value).toArray s 0 0 (zA w)) (F0 m 124 ls [])), ∀ (n : Nat) (x_7 : Int64) (x_9 : Int32) (M : zMem) (H : Heap) (locs : List Loc) (ls : Array Slot), zWo w s.heap M H locs → lv_has ls 13 [(0, .ref (zad w 0)), (1, .int a1), (2, .long x_2), (4, .long x_4), (6, .int x_6), (7, .long x_7), (9, .int x_9)] → zlp2 (wpB_Model_could_39 a1 x_2 x_4 x_6 K124 post) n x_7 x_9 M → W p l e (zRm 1 30) s m ([.ref (zad w 0), .int a1] : List Value).toArray below meth c H locs 0 0 (MQ below (va_Ql post (zB w) (zA w)) ([.ref (zad w 0), .int a1] : List Value).toArray s 0 0 (zA w)) (F0 m 39 ls []) := by
    intro x_2 x_4 x_6 K124 zK124 n
    induction n with
    | zero => intro x_7 x_9 M H locs ls hW hl h; exact h.elim
    | succ n zJ =>
      intro x_7 x_9 M H locs ls hW hl h
      have h : wpB_Model_could_39 a1 x_2 x_4 x_6 K124 post (zlp2 (wpB_Model_could_39 a1 x_2 x_4 x_6 K124 post) n) x_7 x_9 M := h
      unfold wpB_Model_could_39 at h
      refine lv_iload hx hb dX11_could_39 (lv_at hl 6 rfl) ?_
      refine lv_aload_n hx hb dX11_could_41 rfl (lv_at hl 0 rfl) ?_
      refine zg_Model_holds X hW h0 zu_1031 dX11_could_42 ?_
      refine lv_bipush hx hb dX11_could_45 zc_b6 ?_
      obtain ⟨g, h⟩ := h
      refine ziald X hW h0.2.2.2.2.1 g dX11_could_47 ?_
      refine lv_icmp_ge (tgt := 124) hx hb dX11_could_48 rfl (fun c => ?_) (fun c => ?_)
      · replace h := h.1 c
        exact zK124 x_7 M H locs ls hW (lv_sub hl [0, 1, 2, 3, 4, 5] rfl) h
      · replace h := h.2 c
        refine lv_iconst hx hb dX11_could_51 zc_i0 ?_
        refine lv_istore (lv' := [(10, .int 0), (0, .ref (zad w 0)), (1, .int a1), (2, .long x_2), (4, .long x_4), (6, .int x_6), (7, .long x_7), (9, .int x_9)]) hx hb dX11_could_52 hl (Nat.le_of_ble_eq_true rfl) rfl (fun ls hl => ?_)
        obtain ⟨n, h⟩ := h
        refine zL_54 x_2 x_4 x_6 x_9 _ (fun zx6 zm5 H locs ls hW hl h => ?_) n x_7 0 M H locs ls hW (lv_sub hl [1, 2, 3, 4, 5, 6, 7, 0] rfl) h
        · skip
          obtain ⟨zx7, ezx7⟩ : ∃ y : Int32, y = x_9 + 1 := ⟨_, rfl⟩
          replace h := h zx7 ezx7
          refine lv_iinc (v := zx7) (lv' := [(9, .int zx7), (0, .ref (zad w 0)), (1, .int a1), (2, .long x_2), (4, .long x_4), (6, .int x_6), (7, .long zx6)]) hx hb dX11_could_118 hl (k := 6) rfl (by rw [ezx7, zc_i1]) (Nat.le_of_ble_eq_true rfl) rfl (fun ls hl => ?_)
          refine lv_goto (tgt := 39) hx hb dX11_could_121 rfl ?_
          exact zJ zx6 zx7 zm5 H locs ls hW (lv_sub hl [1, 2, 3, 4, 5, 6, 0] rfl) h
  have zL_22 :  ∀ (n : Nat) (x_2 : Int64) (x_4 : Int64) (x_6 : Int32) (M : zMem) (H : Heap) (locs : List Loc) (ls : Array Slot), zWo w s.heap M H locs → lv_has ls 13 [(0, .ref (zad w 0)), (1, .int a1), (2, .long x_2), (4, .long x_4), (6, .int x_6)] → zlp3 (wpB_Model_could_22 a1   post) n x_2 x_4 x_6 M → W p l e (zRm 1 30) s m ([.ref (zad w 0), .int a1] : List Value).toArray below meth c H locs 0 0 (MQ below (va_Ql post (zB w) (zA w)) ([.ref (zad w 0), .int a1] : List Value).toArray s 0 0 (zA w)) (F0 m 22 ls []) := by
    intro n
    induction n with
    | zero => intro x_2 x_4 x_6 M H locs ls hW hl h; exact h.elim
    | succ n zJ =>
      intro x_2 x_4 x_6 M H locs ls hW hl h
      have h : wpB_Model_could_22 a1   post (zlp3 (wpB_Model_could_22 a1   post) n) x_2 x_4 x_6 M := h
      unfold wpB_Model_could_22 at h
      refine lv_iload hx hb dX11_could_22 (lv_at hl 4 rfl) ?_
      refine lv_aload_n hx hb dX11_could_24 rfl (lv_at hl 0 rfl) ?_
      refine zg_Model_holds X hW h0 zu_1031 dX11_could_25 ?_
      refine lv_iconst hx hb dX11_could_28 zc_i1 ?_
      obtain ⟨g, h⟩ := h
      refine ziald X hW h0.2.2.2.2.1 g dX11_could_29 ?_
      refine lv_icmp_ge (tgt := 174) hx hb dX11_could_30 rfl (fun c => ?_) (fun c => ?_)
      · replace h := h.1 c
        refine lv_iload_n hx hb dX11_could_174 rfl (lv_at hl 1 rfl) ?_
        refine lv_if_ne (tgt := 182) hx hb dX11_could_175 rfl (fun c => ?_) (fun c => ?_)
        · replace h := h.1 c
          refine lv_lload hx hb dX11_could_182 (lv_at hl 3 rfl) ?_
          exact zretl X hr hlk hW h dX11_could_184
        · replace h := h.2 c
          refine lv_lload_n hx hb dX11_could_178 rfl (lv_at hl 2 rfl) ?_
          refine lv_goto (tgt := 184) hx hb dX11_could_179 rfl ?_
          exact zretl X hr hlk hW h dX11_could_184
      · replace h := h.2 c
        refine lv_lconst hx hb dX11_could_33 zc_l0 ?_
        refine lv_lstore (lv' := [(7, .long 0), (0, .ref (zad w 0)), (1, .int a1), (2, .long x_2), (4, .long x_4), (6, .int x_6)]) hx hb dX11_could_34 hl (Nat.le_of_ble_eq_true rfl) rfl (fun ls hl => ?_)
        refine lv_iconst hx hb dX11_could_36 zc_i0 ?_
        refine lv_istore (lv' := [(9, .int 0), (7, .long 0), (0, .ref (zad w 0)), (1, .int a1), (2, .long x_2), (4, .long x_4), (6, .int x_6)]) hx hb dX11_could_37 hl (Nat.le_of_ble_eq_true rfl) rfl (fun ls hl => ?_)
        obtain ⟨n, h⟩ := h
        refine zL_39 x_2 x_4 x_6 _ (fun zx9 zm8 H locs ls hW hl h => ?_) n 0 0 M H locs ls hW (lv_sub hl [2, 3, 4, 5, 6, 1, 0] rfl) h
        · skip
          refine lv_lload_n hx hb dX11_could_124 rfl (lv_at hl 2 rfl) ?_
          refine lv_lload hx hb dX11_could_125 (lv_at hl 5 rfl) ?_
          refine lv_lmul hx hb dX11_could_127 ?_
          refine lv_aload_n hx hb dX11_could_128 rfl (lv_at hl 0 rfl) ?_
          refine zg_Model_holds X hW h0 zu_1031 dX11_could_129 ?_
          refine lv_bipush hx hb dX11_could_132 zc_b6 ?_
          obtain ⟨g, h⟩ := h
          refine ziald X hW h0.2.2.2.2.1 g dX11_could_134 ?_
          refine lv_i2l hx hb dX11_could_135 rfl ?_
          refine lv_lload hx hb dX11_could_136 (lv_at hl 3 rfl) ?_
          refine lv_lmul hx hb dX11_could_138 ?_
          refine lv_ladd hx hb dX11_could_139 ?_
          refine lv_topl (fun zx10 ezx10 => ?_)
          replace h := h zx10 ezx10
          refine lv_lstore (lv' := [(9, .long zx10), (0, .ref (zad w 0)), (1, .int a1), (2, .long x_2), (4, .long x_4), (6, .int x_6), (7, .long zx9)]) hx hb dX11_could_140 hl (Nat.le_of_ble_eq_true rfl) rfl (fun ls hl => ?_)
          refine lv_lload hx hb dX11_could_142 (lv_at hl 4 rfl) ?_
          refine lv_lload hx hb dX11_could_144 (lv_at hl 6 rfl) ?_
          refine lv_lmul hx hb dX11_could_146 ?_
          refine lv_topl (fun zx11 ezx11 => ?_)
          replace h := h zx11 ezx11
          refine lv_lstore (lv' := [(11, .long zx11), (9, .long zx10), (0, .ref (zad w 0)), (1, .int a1), (2, .long x_2), (4, .long x_4), (6, .int x_6), (7, .long zx9)]) hx hb dX11_could_147 hl (Nat.le_of_ble_eq_true rfl) rfl (fun ls hl => ?_)
          refine lv_lload hx hb dX11_could_149 (lv_at hl 1 rfl) ?_
          refine lv_lload hx hb dX11_could_151 (lv_at hl 0 rfl) ?_
          refine lv_iconst hx hb dX11_could_153 zc_i0 ?_
          refine zcalll (zrunS (As := [.long zx10, .long zx11, .int 0]) (rest := []) X hml hl hW zk_Model_301 (c_Model_lowest  h) rfl ⟨Nat.le_of_ble_eq_true rfl, Nat.le_of_ble_eq_true rfl⟩ ⟨Nat.le_refl 0, Nat.le_refl 0⟩ rfl (Nat.le_of_ble_eq_true rfl) dX11_could_154) hW (fun zr13 zm12 H locs h hW => ?_)
          refine lv_lstore_n (lv' := [(2, .long zr13), (11, .long zx11), (9, .long zx10), (0, .ref (zad w 0)), (1, .int a1), (4, .long x_4), (6, .int x_6), (7, .long zx9)]) hx hb dX11_could_157 rfl hl (Nat.le_of_ble_eq_true rfl) rfl (fun ls hl => ?_)
          refine lv_lload hx hb dX11_could_158 (lv_at hl 2 rfl) ?_
          refine lv_lload hx hb dX11_could_160 (lv_at hl 1 rfl) ?_
          refine lv_iconst hx hb dX11_could_162 zc_i1 ?_
          refine zcalll (zrunS (As := [.long zx10, .long zx11, .int 1]) (rest := []) X hml hl hW zk_Model_301 (c_Model_lowest  h) rfl ⟨Nat.le_of_ble_eq_true rfl, Nat.le_of_ble_eq_true rfl⟩ ⟨Nat.le_refl 0, Nat.le_refl 0⟩ rfl (Nat.le_of_ble_eq_true rfl) dX11_could_163) hW (fun zr15 zm14 H locs h hW => ?_)
          refine lv_lstore (lv' := [(4, .long zr15), (2, .long zr13), (11, .long zx11), (9, .long zx10), (0, .ref (zad w 0)), (1, .int a1), (6, .int x_6), (7, .long zx9)]) hx hb dX11_could_166 hl (Nat.le_of_ble_eq_true rfl) rfl (fun ls hl => ?_)
          obtain ⟨zx16, ezx16⟩ : ∃ y : Int32, y = x_6 + 1 := ⟨_, rfl⟩
          replace h := h zx16 ezx16
          refine lv_iinc (v := zx16) (lv' := [(6, .int zx16), (4, .long zr15), (2, .long zr13), (11, .long zx11), (9, .long zx10), (0, .ref (zad w 0)), (1, .int a1), (7, .long zx9)]) hx hb dX11_could_168 hl (k := 6) rfl (by rw [ezx16, zc_i1]) (Nat.le_of_ble_eq_true rfl) rfl (fun ls hl => ?_)
          refine lv_goto (tgt := 22) hx hb dX11_could_171 rfl ?_
          exact zJ zr13 zr15 zx16 zm14 H locs ls hW (lv_sub hl [5, 6, 2, 1, 0] rfl) h
  unfold wp_Model_could at h
  have zMain : ∀ (H : Heap) (locs : List Loc) (ls : Array Slot), zWo w s.heap M H locs → lv_has ls 13 [(0, .ref (zad w 0)), (1, .int a1)] → W p l e (zRm 1 30) s m ([.ref (zad w 0), .int a1] : List Value).toArray below meth c H locs 0 0 (MQ below (va_Ql post (zB w) (zA w)) ([.ref (zad w 0), .int a1] : List Value).toArray s 0 0 (zA w)) (F0 m 0 ls []) := by
    intro H locs ls hW hl
    refine lv_iload_n hx hb dX11_could_0 rfl (lv_at hl 1 rfl) ?_
    refine lv_i2l hx hb dX11_could_1 rfl ?_
    refine lv_lconst hx hb dX11_could_2 zc_l0 ?_
    refine lv_lconst hx hb dX11_could_3 zc_l1 ?_
    refine zcalli (zrunS (As := [.long a1.toInt64, .long 0, .long 1]) (rest := []) X hml hl hW zk_Model_69 (c_Model_in  h) rfl ⟨Nat.le_of_ble_eq_true rfl, Nat.le_of_ble_eq_true rfl⟩ ⟨Nat.le_refl 0, Nat.le_refl 0⟩ rfl (Nat.le_of_ble_eq_true rfl) dX11_could_4) hW (fun zr2 zm1 H locs h hW => ?_)
    refine lv_if_ne (tgt := 14) hx hb dX11_could_7 rfl (fun c => ?_) (fun c => ?_)
    · replace h := h.1 c
      refine lv_lconst hx hb dX11_could_14 zc_l0 ?_
      refine lv_lstore_n (lv' := [(2, .long 0), (0, .ref (zad w 0)), (1, .int a1)]) hx hb dX11_could_15 rfl hl (Nat.le_of_ble_eq_true rfl) rfl (fun ls hl => ?_)
      refine lv_lconst hx hb dX11_could_16 zc_l1 ?_
      refine lv_lstore (lv' := [(4, .long 1), (2, .long 0), (0, .ref (zad w 0)), (1, .int a1)]) hx hb dX11_could_17 hl (Nat.le_of_ble_eq_true rfl) rfl (fun ls hl => ?_)
      refine lv_iconst hx hb dX11_could_19 zc_i0 ?_
      refine lv_istore (lv' := [(6, .int 0), (4, .long 1), (2, .long 0), (0, .ref (zad w 0)), (1, .int a1)]) hx hb dX11_could_20 hl (Nat.le_of_ble_eq_true rfl) rfl (fun ls hl => ?_)
      obtain ⟨n, h⟩ := h
      refine zL_22   n 0 1 0 zm1 H locs ls hW (lv_sub hl [3, 4, 2, 1, 0] rfl) h
    · replace h := h.2 c
      refine lv_ldc2 hx hb X.2.2.1 (X.2.2.2.1 _ zu_1443) dX11_could_10 ?_
      exact zretl X hr hlk hW h dX11_could_13
  exact zMain s.heap [] ls hW hl
def wpB_Model_orders_4    (Q : Int32 → zMem → Prop) (J : Int32 → Int32 → zMem → Prop) (x_1 : Int32) (x_2 : Int32) (M : zMem) : Prop :=
  vp_in 1 100 ∧ ((M 4 (ix 1)) < x_2 → Q x_1 M) ∧ (¬ (M 4 (ix 1)) < x_2 → ∀ zx1 : Int32, zx1 = x_1 * x_2 → ∀ zx2 : Int32, zx2 = x_2 + 1 → J zx1 zx2 M)
def wp_Model_orders  (M : zMem) (Q : Int32 → zMem → Prop) : Prop :=
  ∃ n : Nat, zlp2 (wpB_Model_orders_4    Q) n 1 2 M
set_option maxHeartbeats 4000000 in
set_option maxRecDepth 20000 in
theorem c_Model_orders {l : Launch} {w : zWd} {M : zMem} {post : Int32 → zMem → Prop} (h0 : zI_Model w) (h : wp_Model_orders  M post) : zMi l ⟨"HandToHandModel", "orders", "()I"⟩ prog_13_method_76_code 3 (Option.some .int) 0 0 w [.ref (zad w 0)] M post := by
  refine zMet (by decide) (Nat.le_of_ble_eq_true rfl) ?_
  intro p e s m below meth c X hr hlk hml hW ls hl
  have hx := X.1
  have hb := X.2.1
  have hl : lv_has ls 3 [(0, .ref (zad w 0))] := hl
  have zL_4 :  ∀ (n : Nat) (x_1 : Int32) (x_2 : Int32) (M : zMem) (H : Heap) (locs : List Loc) (ls : Array Slot), zWo w s.heap M H locs → lv_has ls 3 [(0, .ref (zad w 0)), (1, .int x_1), (2, .int x_2)] → zlp2 (wpB_Model_orders_4    post) n x_1 x_2 M → W p l e (zRm 0 0) s m ([.ref (zad w 0)] : List Value).toArray below meth c H locs 0 0 (MQ below (va_Qi post (zB w) (zA w)) ([.ref (zad w 0)] : List Value).toArray s 0 0 (zA w)) (F0 m 4 ls []) := by
    intro n
    induction n with
    | zero => intro x_1 x_2 M H locs ls hW hl h; exact h.elim
    | succ n zJ =>
      intro x_1 x_2 M H locs ls hW hl h
      have h : wpB_Model_orders_4    post (zlp2 (wpB_Model_orders_4    post) n) x_1 x_2 M := h
      unfold wpB_Model_orders_4 at h
      refine lv_iload_n hx hb dX11_orders_4 rfl (lv_at hl 2 rfl) ?_
      refine lv_aload_n hx hb dX11_orders_5 rfl (lv_at hl 0 rfl) ?_
      refine zg_Model_holds X hW h0 zu_1031 dX11_orders_6 ?_
      refine lv_iconst hx hb dX11_orders_9 zc_i1 ?_
      obtain ⟨g, h⟩ := h
      refine ziald X hW h0.2.2.2.2.1 g dX11_orders_10 ?_
      refine lv_icmp_gt (tgt := 24) hx hb dX11_orders_11 rfl (fun c => ?_) (fun c => ?_)
      · replace h := h.1 c
        refine lv_iload_n hx hb dX11_orders_24 rfl (lv_at hl 1 rfl) ?_
        exact zreti X hr hlk hW h dX11_orders_25
      · replace h := h.2 c
        refine lv_iload_n hx hb dX11_orders_14 rfl (lv_at hl 1 rfl) ?_
        refine lv_iload_n hx hb dX11_orders_15 rfl (lv_at hl 2 rfl) ?_
        refine lv_imul hx hb dX11_orders_16 ?_
        refine lv_topi (fun zx1 ezx1 => ?_)
        replace h := h zx1 ezx1
        refine lv_istore_n (lv' := [(1, .int zx1), (0, .ref (zad w 0)), (2, .int x_2)]) hx hb dX11_orders_17 rfl hl (Nat.le_of_ble_eq_true rfl) rfl (fun ls hl => ?_)
        obtain ⟨zx2, ezx2⟩ : ∃ y : Int32, y = x_2 + 1 := ⟨_, rfl⟩
        replace h := h zx2 ezx2
        refine lv_iinc (v := zx2) (lv' := [(2, .int zx2), (1, .int zx1), (0, .ref (zad w 0))]) hx hb dX11_orders_18 hl (k := 2) rfl (by rw [ezx2, zc_i1]) (Nat.le_of_ble_eq_true rfl) rfl (fun ls hl => ?_)
        refine lv_goto (tgt := 4) hx hb dX11_orders_21 rfl ?_
        exact zJ zx1 zx2 M H locs ls hW (lv_sub hl [2, 1, 0] rfl) h
  unfold wp_Model_orders at h
  have zMain : ∀ (H : Heap) (locs : List Loc) (ls : Array Slot), zWo w s.heap M H locs → lv_has ls 3 [(0, .ref (zad w 0))] → W p l e (zRm 0 0) s m ([.ref (zad w 0)] : List Value).toArray below meth c H locs 0 0 (MQ below (va_Qi post (zB w) (zA w)) ([.ref (zad w 0)] : List Value).toArray s 0 0 (zA w)) (F0 m 0 ls []) := by
    intro H locs ls hW hl
    refine lv_iconst hx hb dX11_orders_0 zc_i1 ?_
    refine lv_istore_n (lv' := [(1, .int 1), (0, .ref (zad w 0))]) hx hb dX11_orders_1 rfl hl (Nat.le_of_ble_eq_true rfl) rfl (fun ls hl => ?_)
    refine lv_iconst hx hb dX11_orders_2 zc_i2 ?_
    refine lv_istore_n (lv' := [(2, .int 2), (1, .int 1), (0, .ref (zad w 0))]) hx hb dX11_orders_3 rfl hl (Nat.le_of_ble_eq_true rfl) rfl (fun ls hl => ?_)
    obtain ⟨n, h⟩ := h
    refine zL_4   n 1 2 M H locs ls hW (lv_sub hl [2, 1, 0] rfl) h
  exact zMain s.heap [] ls hW hl
def wpJ_Model_layOrder_64 (a1 : Int32)  (J : Int32 → Int32 → zMem → Prop) (Q : zMem → Prop) (x_2 : Int32) (x_3 : Int32) (x_4 : Int32) (x_5 : Int32) (x_6 : Int32) (x_7 : Int32)  (M : zMem) : Prop :=
  (¬ ((x_4 >>> (x_7 &&& 31)) &&& 1) = 1 → ∀ zx8 : Int32, zx8 = x_6 - 1 → ∀ zx9 : Int32, zx9 = x_7 + 1 → J zx8 zx9 M) ∧ (((x_4 >>> (x_7 &&& 31)) &&& 1) = 1 → ∀ zx10 : Int32, zx10 = x_6 - 0 → ∀ zx11 : Int32, zx11 = x_7 + 1 → J zx10 zx11 M)
def wpB_Model_layOrder_48 (a1 : Int32) (x_2 : Int32) (x_3 : Int32) (x_4 : Int32) (x_5 : Int32) (K91 : Int32 → zMem → Prop) (Q : zMem → Prop) (J : Int32 → Int32 → zMem → Prop) (x_6 : Int32) (x_7 : Int32) (M : zMem) : Prop :=
  (((x_4 >>> (x_7 &&& 31)) &&& 1) = 1 → wpJ_Model_layOrder_64 a1 J Q x_2 x_3 x_4 x_5 x_6 x_7 M) ∧ (¬ ((x_4 >>> (x_7 &&& 31)) &&& 1) = 1 → (x_6 ≤ 0 → K91 x_7 M) ∧ (¬ x_6 ≤ 0 → wpJ_Model_layOrder_64 a1 J Q x_2 x_3 x_4 x_5 x_6 x_7 M))
def wpB_Model_layOrder_17 (a1 : Int32)   (Q : zMem → Prop) (J : Int32 → Int32 → Int32 → Int32 → zMem → Prop) (x_2 : Int32) (x_3 : Int32) (x_4 : Int32) (x_5 : Int32) (M : zMem) : Prop :=
  ((M 0 18) ≤ x_5 → Q M) ∧ (¬ (M 0 18) ≤ x_5 → (¬ ((M 0 18) - x_5) = 0) ∧ ∀ zx5 : Int32, zx5 = x_3 / ((M 0 18) - x_5) → (¬ zx5 = 0) ∧ ∀ zx6 : Int32, zx6 = x_2 / zx5 → (¬ zx5 = 0) ∧ ∀ zx7 : Int32, zx7 = x_2 - x_2 / zx5 * zx5 → ∃ n : Nat, zlp2 (wpB_Model_layOrder_48 a1 zx7 zx5 x_4 x_5 (fun (zx13 : Int32) (zm12 : zMem) => ∀ zx14 : Int32, zx14 = x_4 ||| (1 <<< (zx13 &&& 31)) → vp_in x_5 5 ∧ ∀ zm15 : zMem, zm15 = zup zm12 8 (ix x_5) zx13 → ∀ zx16 : Int32, zx16 = x_5 + 1 → J zx7 zx5 zx14 zx16 zm15) Q) n zx6 0 M)
def wp_Model_layOrder (a1 : Int32) (M : zMem) (Q : zMem → Prop) : Prop :=
  wp_Model_asNumbered M (fun zm1 => wp_Model_orders zm1 (fun zr4 zm3 => ∃ n : Nat, zlp4 (wpB_Model_layOrder_17 a1   Q) n a1 zr4 0 0 zm3))
set_option maxHeartbeats 4000000 in
set_option maxRecDepth 20000 in
theorem c_Model_layOrder {l : Launch} {w : zWd} {a1 : Int32} {M : zMem} {post : zMem → Prop} (h0 : zI_Model w) (h : wp_Model_layOrder a1 M post) : zMv l ⟨"HandToHandModel", "layOrder", "(I)V"⟩ prog_13_method_77_code 8 none 2 42 w [.ref (zad w 0), .int a1] M post := by
  refine zMet (by decide) (Nat.le_of_ble_eq_true rfl) ?_
  intro p e s m below meth c X hr hlk hml hW ls hl
  have hx := X.1
  have hb := X.2.1
  have hl : lv_has ls 8 [(0, .ref (zad w 0)), (1, .int a1)] := hl
  have zJ_64 : ∀ (x_2 : Int32) (x_3 : Int32) (x_4 : Int32) (x_5 : Int32) (x_6 : Int32) (x_7 : Int32) (J : Int32 → Int32 → zMem → Prop) (zJ : ∀ (y_6 : Int32) (y_7 : Int32) (M : zMem) (H : Heap) (locs : List Loc) (ls : Array Slot), zWo w s.heap M H locs → lv_has ls 8 [(0, .ref (zad w 0)), (2, .int x_2), (3, .int x_3), (4, .int x_4), (5, .int x_5), (6, .int y_6), (7, .int y_7)] → J y_6 y_7 M → W p l e (zRm 2 42) s m ([.ref (zad w 0), .int a1] : List Value).toArray below meth c H locs 0 0 (MQ below (va_Qv post (zB w) (zA w)) ([.ref (zad w 0), .int a1] : List Value).toArray s 0 0 (zA w)) (F0 m 48 ls [])) (M : zMem) (H : Heap) (locs : List Loc) (ls : Array Slot), zWo w s.heap M H locs → lv_has ls 8 [(0, .ref (zad w 0)), (2, .int x_2), (3, .int x_3), (4, .int x_4), (5, .int x_5), (6, .int x_6), (7, .int x_7)] → wpJ_Model_layOrder_64 a1 J post x_2 x_3 x_4 x_5 x_6 x_7 M → W p l e (zRm 2 42) s m ([.ref (zad w 0), .int a1] : List Value).toArray below meth c H locs 0 0 (MQ below (va_Qv post (zB w) (zA w)) ([.ref (zad w 0), .int a1] : List Value).toArray s 0 0 (zA w)) (F0 m 64 ls []) := by
    intro x_2 x_3 x_4 x_5 x_6 x_7 J zJ M H locs ls hW hl h
    unfold wpJ_Model_layOrder_64 at h
    refine lv_iload hx hb dX11_layOrder_64 (lv_at hl 5 rfl) ?_
    refine lv_iload hx hb dX11_layOrder_66 (lv_at hl 3 rfl) ?_
    refine lv_iload hx hb dX11_layOrder_68 (lv_at hl 6 rfl) ?_
    refine lv_ishr hx hb dX11_layOrder_70 ?_
    refine lv_iconst hx hb dX11_layOrder_71 zc_i1 ?_
    refine lv_iand hx hb dX11_layOrder_72 ?_
    refine lv_iconst hx hb dX11_layOrder_73 zc_i1 ?_
    refine lv_icmp_ne (tgt := 81) hx hb dX11_layOrder_74 rfl (fun c => ?_) (fun c => ?_)
    · replace h := h.1 c
      refine lv_iconst hx hb dX11_layOrder_81 zc_i1 ?_
      refine lv_isub hx hb dX11_layOrder_82 ?_
      refine lv_topi (fun zx8 ezx8 => ?_)
      replace h := h zx8 ezx8
      refine lv_istore (lv' := [(6, .int zx8), (0, .ref (zad w 0)), (2, .int x_2), (3, .int x_3), (4, .int x_4), (5, .int x_5), (7, .int x_7)]) hx hb dX11_layOrder_83 hl (Nat.le_of_ble_eq_true rfl) rfl (fun ls hl => ?_)
      obtain ⟨zx9, ezx9⟩ : ∃ y : Int32, y = x_7 + 1 := ⟨_, rfl⟩
      replace h := h zx9 ezx9
      refine lv_iinc (v := zx9) (lv' := [(7, .int zx9), (6, .int zx8), (0, .ref (zad w 0)), (2, .int x_2), (3, .int x_3), (4, .int x_4), (5, .int x_5)]) hx hb dX11_layOrder_85 hl (k := 6) rfl (by rw [ezx9, zc_i1]) (Nat.le_of_ble_eq_true rfl) rfl (fun ls hl => ?_)
      refine lv_goto (tgt := 48) hx hb dX11_layOrder_88 rfl ?_
      exact zJ zx8 zx9 M H locs ls hW (lv_sub hl [2, 3, 4, 5, 6, 1, 0] rfl) h
    · replace h := h.2 c
      refine lv_iconst hx hb dX11_layOrder_77 zc_i0 ?_
      refine lv_goto (tgt := 82) hx hb dX11_layOrder_78 rfl ?_
      refine lv_isub hx hb dX11_layOrder_82 ?_
      refine lv_topi (fun zx10 ezx10 => ?_)
      replace h := h zx10 ezx10
      refine lv_istore (lv' := [(6, .int zx10), (0, .ref (zad w 0)), (2, .int x_2), (3, .int x_3), (4, .int x_4), (5, .int x_5), (7, .int x_7)]) hx hb dX11_layOrder_83 hl (Nat.le_of_ble_eq_true rfl) rfl (fun ls hl => ?_)
      obtain ⟨zx11, ezx11⟩ : ∃ y : Int32, y = x_7 + 1 := ⟨_, rfl⟩
      replace h := h zx11 ezx11
      refine lv_iinc (v := zx11) (lv' := [(7, .int zx11), (6, .int zx10), (0, .ref (zad w 0)), (2, .int x_2), (3, .int x_3), (4, .int x_4), (5, .int x_5)]) hx hb dX11_layOrder_85 hl (k := 6) rfl (by rw [ezx11, zc_i1]) (Nat.le_of_ble_eq_true rfl) rfl (fun ls hl => ?_)
      refine lv_goto (tgt := 48) hx hb dX11_layOrder_88 rfl ?_
      exact zJ zx10 zx11 M H locs ls hW (lv_sub hl [2, 3, 4, 5, 6, 1, 0] rfl) h
  have zL_48 : ∀ (x_2 : Int32) (x_3 : Int32) (x_4 : Int32) (x_5 : Int32) (K91 : Int32 → zMem → Prop) (zK91 : ∀ (y_7 : Int32) (M : zMem) (H : Heap) (locs : List Loc) (ls : Array Slot), zWo w s.heap M H locs → lv_has ls 8 [(0, .ref (zad w 0)), (2, .int x_2), (3, .int x_3), (4, .int x_4), (5, .int x_5), (7, .int y_7)] → K91 y_7 M → W p l e (zRm 2 42) s m ([.ref (zad w 0), .int a1] : List Value).toArray below meth c H locs 0 0 (MQ below (va_Qv post (zB w) (zA w)) ([.ref (zad w 0), .int a1] : List Value).toArray s 0 0 (zA w)) (F0 m 91 ls [])), ∀ (n : Nat) (x_6 : Int32) (x_7 : Int32) (M : zMem) (H : Heap) (locs : List Loc) (ls : Array Slot), zWo w s.heap M H locs → lv_has ls 8 [(0, .ref (zad w 0)), (2, .int x_2), (3, .int x_3), (4, .int x_4), (5, .int x_5), (6, .int x_6), (7, .int x_7)] → zlp2 (wpB_Model_layOrder_48 a1 x_2 x_3 x_4 x_5 K91 post) n x_6 x_7 M → W p l e (zRm 2 42) s m ([.ref (zad w 0), .int a1] : List Value).toArray below meth c H locs 0 0 (MQ below (va_Qv post (zB w) (zA w)) ([.ref (zad w 0), .int a1] : List Value).toArray s 0 0 (zA w)) (F0 m 48 ls []) := by
    intro x_2 x_3 x_4 x_5 K91 zK91 n
    induction n with
    | zero => intro x_6 x_7 M H locs ls hW hl h; exact h.elim
    | succ n zJ =>
      intro x_6 x_7 M H locs ls hW hl h
      have h : wpB_Model_layOrder_48 a1 x_2 x_3 x_4 x_5 K91 post (zlp2 (wpB_Model_layOrder_48 a1 x_2 x_3 x_4 x_5 K91 post) n) x_6 x_7 M := h
      unfold wpB_Model_layOrder_48 at h
      refine lv_iload hx hb dX11_layOrder_48 (lv_at hl 3 rfl) ?_
      refine lv_iload hx hb dX11_layOrder_50 (lv_at hl 6 rfl) ?_
      refine lv_ishr hx hb dX11_layOrder_52 ?_
      refine lv_iconst hx hb dX11_layOrder_53 zc_i1 ?_
      refine lv_iand hx hb dX11_layOrder_54 ?_
      refine lv_iconst hx hb dX11_layOrder_55 zc_i1 ?_
      refine lv_icmp_eq (tgt := 64) hx hb dX11_layOrder_56 rfl (fun c => ?_) (fun c => ?_)
      · replace h := h.1 c
        exact zJ_64 x_2 x_3 x_4 x_5 x_6 x_7 _ zJ M H locs ls hW (lv_sub hl [0, 1, 2, 3, 4, 5, 6] rfl) h
      · replace h := h.2 c
        refine lv_iload hx hb dX11_layOrder_59 (lv_at hl 5 rfl) ?_
        refine lv_if_le (tgt := 91) hx hb dX11_layOrder_61 rfl (fun c => ?_) (fun c => ?_)
        · replace h := h.1 c
          exact zK91 x_7 M H locs ls hW (lv_sub hl [0, 1, 2, 3, 4, 6] rfl) h
        · replace h := h.2 c
          exact zJ_64 x_2 x_3 x_4 x_5 x_6 x_7 _ zJ M H locs ls hW (lv_sub hl [0, 1, 2, 3, 4, 5, 6] rfl) h
  have zL_17 :  ∀ (n : Nat) (x_2 : Int32) (x_3 : Int32) (x_4 : Int32) (x_5 : Int32) (M : zMem) (H : Heap) (locs : List Loc) (ls : Array Slot), zWo w s.heap M H locs → lv_has ls 8 [(0, .ref (zad w 0)), (2, .int x_2), (3, .int x_3), (4, .int x_4), (5, .int x_5)] → zlp4 (wpB_Model_layOrder_17 a1   post) n x_2 x_3 x_4 x_5 M → W p l e (zRm 2 42) s m ([.ref (zad w 0), .int a1] : List Value).toArray below meth c H locs 0 0 (MQ below (va_Qv post (zB w) (zA w)) ([.ref (zad w 0), .int a1] : List Value).toArray s 0 0 (zA w)) (F0 m 17 ls []) := by
    intro n
    induction n with
    | zero => intro x_2 x_3 x_4 x_5 M H locs ls hW hl h; exact h.elim
    | succ n zJ =>
      intro x_2 x_3 x_4 x_5 M H locs ls hW hl h
      have h : wpB_Model_layOrder_17 a1   post (zlp4 (wpB_Model_layOrder_17 a1   post) n) x_2 x_3 x_4 x_5 M := h
      unfold wpB_Model_layOrder_17 at h
      refine lv_iload hx hb dX11_layOrder_17 (lv_at hl 4 rfl) ?_
      refine lv_aload_n hx hb dX11_layOrder_19 rfl (lv_at hl 0 rfl) ?_
      refine zg_Model_many X hW h0 zu_1038 dX11_layOrder_20 ?_
      refine lv_icmp_ge (tgt := 115) hx hb dX11_layOrder_23 rfl (fun c => ?_) (fun c => ?_)
      · replace h := h.1 c
        exact zretv X hr hlk hW h dX11_layOrder_115
      · replace h := h.2 c
        refine lv_iload_n hx hb dX11_layOrder_26 rfl (lv_at hl 2 rfl) ?_
        refine lv_aload_n hx hb dX11_layOrder_27 rfl (lv_at hl 0 rfl) ?_
        refine zg_Model_many X hW h0 zu_1038 dX11_layOrder_28 ?_
        refine lv_iload hx hb dX11_layOrder_31 (lv_at hl 4 rfl) ?_
        refine lv_isub hx hb dX11_layOrder_33 ?_
        obtain ⟨g, h⟩ := h
        refine lv_idiv hx hb dX11_layOrder_34 g ?_
        refine lv_topi (fun zx5 ezx5 => ?_)
        replace h := h zx5 ezx5
        refine lv_istore_n (lv' := [(3, .int zx5), (0, .ref (zad w 0)), (2, .int x_2), (4, .int x_4), (5, .int x_5)]) hx hb dX11_layOrder_35 rfl hl (Nat.le_of_ble_eq_true rfl) rfl (fun ls hl => ?_)
        refine lv_iload_n hx hb dX11_layOrder_36 rfl (lv_at hl 2 rfl) ?_
        refine lv_iload_n hx hb dX11_layOrder_37 rfl (lv_at hl 0 rfl) ?_
        obtain ⟨g, h⟩ := h
        refine lv_idiv hx hb dX11_layOrder_38 g ?_
        refine lv_topi (fun zx6 ezx6 => ?_)
        replace h := h zx6 ezx6
        refine lv_istore (lv' := [(6, .int zx6), (3, .int zx5), (0, .ref (zad w 0)), (2, .int x_2), (4, .int x_4), (5, .int x_5)]) hx hb dX11_layOrder_39 hl (Nat.le_of_ble_eq_true rfl) rfl (fun ls hl => ?_)
        refine lv_iload_n hx hb dX11_layOrder_41 rfl (lv_at hl 3 rfl) ?_
        refine lv_iload_n hx hb dX11_layOrder_42 rfl (lv_at hl 1 rfl) ?_
        obtain ⟨g, h⟩ := h
        refine lv_irem hx hb dX11_layOrder_43 g ?_
        refine lv_topi (fun zx7 ezx7 => ?_)
        replace h := h zx7 ezx7
        refine lv_istore_n (lv' := [(2, .int zx7), (6, .int zx6), (3, .int zx5), (0, .ref (zad w 0)), (4, .int x_4), (5, .int x_5)]) hx hb dX11_layOrder_44 rfl hl (Nat.le_of_ble_eq_true rfl) rfl (fun ls hl => ?_)
        refine lv_iconst hx hb dX11_layOrder_45 zc_i0 ?_
        refine lv_istore (lv' := [(7, .int 0), (2, .int zx7), (6, .int zx6), (3, .int zx5), (0, .ref (zad w 0)), (4, .int x_4), (5, .int x_5)]) hx hb dX11_layOrder_46 hl (Nat.le_of_ble_eq_true rfl) rfl (fun ls hl => ?_)
        obtain ⟨n, h⟩ := h
        refine zL_48 zx7 zx5 x_4 x_5 _ (fun zx13 zm12 H locs ls hW hl h => ?_) n zx6 0 M H locs ls hW (lv_sub hl [4, 1, 3, 5, 6, 2, 0] rfl) h
        · skip
          refine lv_iload hx hb dX11_layOrder_91 (lv_at hl 3 rfl) ?_
          refine lv_iconst hx hb dX11_layOrder_93 zc_i1 ?_
          refine lv_iload hx hb dX11_layOrder_94 (lv_at hl 5 rfl) ?_
          refine lv_ishl hx hb dX11_layOrder_96 ?_
          refine lv_ior hx hb dX11_layOrder_97 ?_
          refine lv_topi (fun zx14 ezx14 => ?_)
          replace h := h zx14 ezx14
          refine lv_istore (lv' := [(4, .int zx14), (0, .ref (zad w 0)), (2, .int zx7), (3, .int zx5), (5, .int x_5), (7, .int zx13)]) hx hb dX11_layOrder_98 hl (Nat.le_of_ble_eq_true rfl) rfl (fun ls hl => ?_)
          refine lv_aload_n hx hb dX11_layOrder_100 rfl (lv_at hl 1 rfl) ?_
          refine zg_Model_who X hW h0 zu_1040 dX11_layOrder_101 ?_
          refine lv_iload hx hb dX11_layOrder_104 (lv_at hl 4 rfl) ?_
          refine lv_iload hx hb dX11_layOrder_106 (lv_at hl 5 rfl) ?_
          obtain ⟨g, h⟩ := h
          refine ziast X hW h0.2.2.2.2.2.2.2.1 g dX11_layOrder_108 (fun H locs zm15 ezm15 hW => ?_)
          replace h := h zm15 ezm15
          obtain ⟨zx16, ezx16⟩ : ∃ y : Int32, y = x_5 + 1 := ⟨_, rfl⟩
          replace h := h zx16 ezx16
          refine lv_iinc (v := zx16) (lv' := [(5, .int zx16), (4, .int zx14), (0, .ref (zad w 0)), (2, .int zx7), (3, .int zx5), (7, .int zx13)]) hx hb dX11_layOrder_109 hl (k := 4) rfl (by rw [ezx16, zc_i1]) (Nat.le_of_ble_eq_true rfl) rfl (fun ls hl => ?_)
          refine lv_goto (tgt := 17) hx hb dX11_layOrder_112 rfl ?_
          exact zJ zx7 zx5 zx14 zx16 zm15 H locs ls hW (lv_sub hl [2, 3, 4, 1, 0] rfl) h
  unfold wp_Model_layOrder at h
  have zMain : ∀ (H : Heap) (locs : List Loc) (ls : Array Slot), zWo w s.heap M H locs → lv_has ls 8 [(0, .ref (zad w 0)), (1, .int a1)] → W p l e (zRm 2 42) s m ([.ref (zad w 0), .int a1] : List Value).toArray below meth c H locs 0 0 (MQ below (va_Qv post (zB w) (zA w)) ([.ref (zad w 0), .int a1] : List Value).toArray s 0 0 (zA w)) (F0 m 0 ls []) := by
    intro H locs ls hW hl
    refine lv_aload_n hx hb dX11_layOrder_0 rfl (lv_at hl 0 rfl) ?_
    refine zcallv (zrunV (As := []) (rest := []) X hml hl hW h0.1 rfl zk_Model_243 (c_Model_asNumbered h0 h) rfl ⟨Nat.le_of_ble_eq_true rfl, Nat.le_of_ble_eq_true rfl⟩ ⟨Nat.le_refl 0, Nat.le_refl 0⟩ rfl (Nat.le_of_ble_eq_true rfl) dX11_layOrder_1) hW (fun zm1 H locs h hW => ?_)
    refine lv_iload_n hx hb dX11_layOrder_4 rfl (lv_at hl 1 rfl) ?_
    refine lv_istore_n (lv' := [(2, .int a1), (0, .ref (zad w 0)), (1, .int a1)]) hx hb dX11_layOrder_5 rfl hl (Nat.le_of_ble_eq_true rfl) rfl (fun ls hl => ?_)
    refine lv_aload_n hx hb dX11_layOrder_6 rfl (lv_at hl 1 rfl) ?_
    refine zcalli (zrunV (As := []) (rest := []) X hml hl hW h0.1 rfl zk_Model_310 (c_Model_orders h0 h) rfl ⟨Nat.le_of_ble_eq_true rfl, Nat.le_of_ble_eq_true rfl⟩ ⟨Nat.le_refl 0, Nat.le_refl 0⟩ rfl (Nat.le_of_ble_eq_true rfl) dX11_layOrder_7) hW (fun zr4 zm3 H locs h hW => ?_)
    refine lv_istore_n (lv' := [(3, .int zr4), (2, .int a1), (0, .ref (zad w 0)), (1, .int a1)]) hx hb dX11_layOrder_10 rfl hl (Nat.le_of_ble_eq_true rfl) rfl (fun ls hl => ?_)
    refine lv_iconst hx hb dX11_layOrder_11 zc_i0 ?_
    refine lv_istore (lv' := [(4, .int 0), (3, .int zr4), (2, .int a1), (0, .ref (zad w 0)), (1, .int a1)]) hx hb dX11_layOrder_12 hl (Nat.le_of_ble_eq_true rfl) rfl (fun ls hl => ?_)
    refine lv_iconst hx hb dX11_layOrder_14 zc_i0 ?_
    refine lv_istore (lv' := [(5, .int 0), (4, .int 0), (3, .int zr4), (2, .int a1), (0, .ref (zad w 0)), (1, .int a1)]) hx hb dX11_layOrder_15 hl (Nat.le_of_ble_eq_true rfl) rfl (fun ls hl => ?_)
    obtain ⟨n, h⟩ := h
    refine zL_17   n a1 zr4 0 0 zm3 H locs ls hW (lv_sub hl [4, 3, 2, 1, 0] rfl) h
  exact zMain s.heap [] ls hW hl
def wp_Model_isOrder (a1 : Int32) (M : zMem) (Q : Int32 → zMem → Prop) : Prop :=
  wp_Model_orders M (fun zr2 zm1 => wp_Model_in a1.toInt64 0 ((zr2 - 1).toInt64) zm1 (fun zr4 zm3 => zbo zr4 ∧ Q zr4 zm3))
set_option maxHeartbeats 4000000 in
set_option maxRecDepth 20000 in
theorem c_Model_isOrder {l : Launch} {w : zWd} {a1 : Int32} {M : zMem} {post : Int32 → zMem → Prop} (h0 : zI_Model w) (h : wp_Model_isOrder a1 M post) : zMi l ⟨"HandToHandModel", "isOrder", "(I)Z"⟩ prog_13_method_78_code 2 (Option.some .boolean) 1 25 w [.ref (zad w 0), .int a1] M post := by
  refine zMet (by decide) (Nat.le_of_ble_eq_true rfl) ?_
  intro p e s m below meth c X hr hlk hml hW ls hl
  have hx := X.1
  have hb := X.2.1
  have hl : lv_has ls 2 [(0, .ref (zad w 0)), (1, .int a1)] := hl
  unfold wp_Model_isOrder at h
  have zMain : ∀ (H : Heap) (locs : List Loc) (ls : Array Slot), zWo w s.heap M H locs → lv_has ls 2 [(0, .ref (zad w 0)), (1, .int a1)] → W p l e (zRm 1 25) s m ([.ref (zad w 0), .int a1] : List Value).toArray below meth c H locs 0 0 (MQ below (va_Qi post (zB w) (zA w)) ([.ref (zad w 0), .int a1] : List Value).toArray s 0 0 (zA w)) (F0 m 0 ls []) := by
    intro H locs ls hW hl
    refine lv_iload_n hx hb dX11_isOrder_0 rfl (lv_at hl 1 rfl) ?_
    refine lv_i2l hx hb dX11_isOrder_1 rfl ?_
    refine lv_lconst hx hb dX11_isOrder_2 zc_l0 ?_
    refine lv_aload_n hx hb dX11_isOrder_3 rfl (lv_at hl 0 rfl) ?_
    refine zcalli (zrunV (As := []) (rest := [.long 0, .long a1.toInt64]) X hml hl hW h0.1 rfl zk_Model_310 (c_Model_orders h0 h) rfl ⟨Nat.le_of_ble_eq_true rfl, Nat.le_of_ble_eq_true rfl⟩ ⟨Nat.le_refl 0, Nat.le_refl 0⟩ rfl (Nat.le_of_ble_eq_true rfl) dX11_isOrder_4) hW (fun zr2 zm1 H locs h hW => ?_)
    refine lv_iconst hx hb dX11_isOrder_7 zc_i1 ?_
    refine lv_isub hx hb dX11_isOrder_8 ?_
    refine lv_i2l hx hb dX11_isOrder_9 rfl ?_
    refine zcalli (zrunS (As := [.long a1.toInt64, .long 0, .long ((zr2 - 1).toInt64)]) (rest := []) X hml hl hW zk_Model_69 (c_Model_in  h) rfl ⟨Nat.le_of_ble_eq_true rfl, Nat.le_of_ble_eq_true rfl⟩ ⟨Nat.le_refl 0, Nat.le_refl 0⟩ rfl (Nat.le_of_ble_eq_true rfl) dX11_isOrder_10) hW (fun zr4 zm3 H locs h hW => ?_)
    exact zretz X hr hlk hW (zbo_n h.1) h.2 dX11_isOrder_13
  exact zMain s.heap [] ls hW hl
def wp_Model_order (a1 : Int32) (a2 : Int32) (M : zMem) (Q : Int32 → zMem → Prop) : Prop :=
  wp_Model_isOrder a1 M (fun zr2 zm1 => (zr2 = 0 → Q ((-1)) zm1) ∧ (¬ zr2 = 0 → wp_Model_in a2.toInt64 0 1 zm1 (fun zr4 zm3 => (¬ zr4 = 0 → wp_Model_layOrder a1 zm3 (fun zm5 => wp_Model_hasRing zm5 (fun zr8 zm7 => wp_Model_made a2 zm7 (fun zr10 zm9 => Q zr10 zm9)))) ∧ (zr4 = 0 → Q ((-1)) zm3))))
set_option maxHeartbeats 4000000 in
set_option maxRecDepth 20000 in
theorem c_Model_order {l : Launch} {w : zWd} {a1 : Int32} {a2 : Int32} {M : zMem} {post : Int32 → zMem → Prop} (h0 : zI_Model w) (h : wp_Model_order a1 a2 M post) : zMi l ⟨"HandToHandModel", "order", "(II)I"⟩ prog_13_method_79_code 3 (Option.some .int) 9 210 w [.ref (zad w 0), .int a1, .int a2] M post := by
  refine zMet (by decide) (Nat.le_of_ble_eq_true rfl) ?_
  intro p e s m below meth c X hr hlk hml hW ls hl
  have hx := X.1
  have hb := X.2.1
  have hl : lv_has ls 3 [(0, .ref (zad w 0)), (1, .int a1), (2, .int a2)] := hl
  unfold wp_Model_order at h
  have zMain : ∀ (H : Heap) (locs : List Loc) (ls : Array Slot), zWo w s.heap M H locs → lv_has ls 3 [(0, .ref (zad w 0)), (1, .int a1), (2, .int a2)] → W p l e (zRm 9 210) s m ([.ref (zad w 0), .int a1, .int a2] : List Value).toArray below meth c H locs 0 0 (MQ below (va_Qi post (zB w) (zA w)) ([.ref (zad w 0), .int a1, .int a2] : List Value).toArray s 0 0 (zA w)) (F0 m 0 ls []) := by
    intro H locs ls hW hl
    refine lv_aload_n hx hb dX11_order_0 rfl (lv_at hl 0 rfl) ?_
    refine lv_iload_n hx hb dX11_order_1 rfl (lv_at hl 1 rfl) ?_
    refine zcalli (zrunV (As := [.int a1]) (rest := []) X hml hl hW h0.1 rfl zk_Model_313 (c_Model_isOrder h0 h) rfl ⟨Nat.le_of_ble_eq_true rfl, Nat.le_of_ble_eq_true rfl⟩ ⟨Nat.le_refl 0, Nat.le_refl 0⟩ rfl (Nat.le_of_ble_eq_true rfl) dX11_order_2) hW (fun zr2 zm1 H locs h hW => ?_)
    refine lv_if_eq (tgt := 18) hx hb dX11_order_5 rfl (fun c => ?_) (fun c => ?_)
    · replace h := h.1 c
      refine lv_iconst hx hb dX11_order_18 zc_im1 ?_
      exact zreti X hr hlk hW h dX11_order_19
    · replace h := h.2 c
      refine lv_iload_n hx hb dX11_order_8 rfl (lv_at hl 2 rfl) ?_
      refine lv_i2l hx hb dX11_order_9 rfl ?_
      refine lv_lconst hx hb dX11_order_10 zc_l0 ?_
      refine lv_lconst hx hb dX11_order_11 zc_l1 ?_
      refine zcalli (zrunS (As := [.long a2.toInt64, .long 0, .long 1]) (rest := []) X hml hl hW zk_Model_69 (c_Model_in  h) rfl ⟨Nat.le_of_ble_eq_true rfl, Nat.le_of_ble_eq_true rfl⟩ ⟨Nat.le_refl 0, Nat.le_refl 0⟩ rfl (Nat.le_of_ble_eq_true rfl) dX11_order_12) hW (fun zr4 zm3 H locs h hW => ?_)
      refine lv_if_ne (tgt := 20) hx hb dX11_order_15 rfl (fun c => ?_) (fun c => ?_)
      · replace h := h.1 c
        refine lv_aload_n hx hb dX11_order_20 rfl (lv_at hl 0 rfl) ?_
        refine lv_iload_n hx hb dX11_order_21 rfl (lv_at hl 1 rfl) ?_
        refine zcallv (zrunV (As := [.int a1]) (rest := []) X hml hl hW h0.1 rfl zk_Model_316 (c_Model_layOrder h0 h) rfl ⟨Nat.le_of_ble_eq_true rfl, Nat.le_of_ble_eq_true rfl⟩ ⟨Nat.le_refl 0, Nat.le_refl 0⟩ rfl (Nat.le_of_ble_eq_true rfl) dX11_order_22) hW (fun zm5 H locs h hW => ?_)
        refine lv_aload_n hx hb dX11_order_25 rfl (lv_at hl 0 rfl) ?_
        refine zcalli (zrunV (As := []) (rest := []) X hml hl hW h0.1 rfl zk_Model_295 (c_Model_hasRing h0 h) rfl ⟨Nat.le_of_ble_eq_true rfl, Nat.le_of_ble_eq_true rfl⟩ ⟨Nat.le_refl 0, Nat.le_refl 0⟩ rfl (Nat.le_of_ble_eq_true rfl) dX11_order_26) hW (fun zr8 zm7 H locs h hW => ?_)
        refine lv_pop hx hb dX11_order_29 rfl ?_
        refine lv_aload_n hx hb dX11_order_30 rfl (lv_at hl 0 rfl) ?_
        refine lv_iload_n hx hb dX11_order_31 rfl (lv_at hl 2 rfl) ?_
        refine zcalli (zrunV (As := [.int a2]) (rest := []) X hml hl hW h0.1 rfl zk_Model_305 (c_Model_made h0 h) rfl ⟨Nat.le_of_ble_eq_true rfl, Nat.le_of_ble_eq_true rfl⟩ ⟨Nat.le_refl 0, Nat.le_refl 0⟩ rfl (Nat.le_of_ble_eq_true rfl) dX11_order_32) hW (fun zr10 zm9 H locs h hW => ?_)
        exact zreti X hr hlk hW h dX11_order_35
      · replace h := h.2 c
        refine lv_iconst hx hb dX11_order_18 zc_im1 ?_
        exact zreti X hr hlk hW h dX11_order_19
  exact zMain s.heap [] ls hW hl
def wp_Model_isMore  (M : zMem) (Q : Int32 → zMem → Prop) : Prop :=
  ((lg_cmp (((M 0 31).toInt64) * ((M 0 34).toInt64)) (((M 0 33).toInt64) * ((M 0 32).toInt64))) ≤ 0 → Q 0 M) ∧ (¬ (lg_cmp (((M 0 31).toInt64) * ((M 0 34).toInt64)) (((M 0 33).toInt64) * ((M 0 32).toInt64))) ≤ 0 → Q 1 M)
set_option maxHeartbeats 4000000 in
set_option maxRecDepth 20000 in
theorem c_Model_isMore {l : Launch} {w : zWd} {M : zMem} {post : Int32 → zMem → Prop} (h0 : zI_Model w) (h : wp_Model_isMore  M post) : zMi l ⟨"HandToHandModel", "isMore", "()Z"⟩ prog_13_method_80_code 1 (Option.some .boolean) 0 0 w [.ref (zad w 0)] M post := by
  refine zMet (by decide) (Nat.le_of_ble_eq_true rfl) ?_
  intro p e s m below meth c X hr hlk hml hW ls hl
  have hx := X.1
  have hb := X.2.1
  have hl : lv_has ls 1 [(0, .ref (zad w 0))] := hl
  unfold wp_Model_isMore at h
  have zMain : ∀ (H : Heap) (locs : List Loc) (ls : Array Slot), zWo w s.heap M H locs → lv_has ls 1 [(0, .ref (zad w 0))] → W p l e (zRm 0 0) s m ([.ref (zad w 0)] : List Value).toArray below meth c H locs 0 0 (MQ below (va_Qi post (zB w) (zA w)) ([.ref (zad w 0)] : List Value).toArray s 0 0 (zA w)) (F0 m 0 ls []) := by
    intro H locs ls hW hl
    refine lv_aload_n hx hb dX11_isMore_0 rfl (lv_at hl 0 rfl) ?_
    refine zg_Model_ringCoats X hW h0 zu_1051 dX11_isMore_1 ?_
    refine lv_i2l hx hb dX11_isMore_4 rfl ?_
    refine lv_aload_n hx hb dX11_isMore_5 rfl (lv_at hl 0 rfl) ?_
    refine zg_Model_bestTicks X hW h0 zu_1054 dX11_isMore_6 ?_
    refine lv_i2l hx hb dX11_isMore_9 rfl ?_
    refine lv_lmul hx hb dX11_isMore_10 ?_
    refine lv_aload_n hx hb dX11_isMore_11 rfl (lv_at hl 0 rfl) ?_
    refine zg_Model_bestCoats X hW h0 zu_1053 dX11_isMore_12 ?_
    refine lv_i2l hx hb dX11_isMore_15 rfl ?_
    refine lv_aload_n hx hb dX11_isMore_16 rfl (lv_at hl 0 rfl) ?_
    refine zg_Model_ringTicks X hW h0 zu_1052 dX11_isMore_17 ?_
    refine lv_i2l hx hb dX11_isMore_20 rfl ?_
    refine lv_lmul hx hb dX11_isMore_21 ?_
    refine W.lcmp hx hb dX11_isMore_22 ?_
    refine lv_if_le (tgt := 30) hx hb dX11_isMore_23 rfl (fun c => ?_) (fun c => ?_)
    · replace h := h.1 c
      refine lv_iconst hx hb dX11_isMore_30 zc_i0 ?_
      exact zretz X hr hlk hW rfl h dX11_isMore_31
    · replace h := h.2 c
      refine lv_iconst hx hb dX11_isMore_26 zc_i1 ?_
      refine lv_goto (tgt := 31) hx hb dX11_isMore_27 rfl ?_
      exact zretz X hr hlk hW rfl h dX11_isMore_31
  exact zMain s.heap [] ls hW hl
def wp_Model_keepBest  (M : zMem) (Q : zMem → Prop) : Prop :=
  ∀ zm1 : zMem, zm1 = zup M 0 33 (M 0 31) → ∀ zm2 : zMem, zm2 = zup zm1 0 34 (zm1 0 32) → Q zm2
set_option maxHeartbeats 4000000 in
set_option maxRecDepth 20000 in
theorem c_Model_keepBest {l : Launch} {w : zWd} {M : zMem} {post : zMem → Prop} (h0 : zI_Model w) (h : wp_Model_keepBest  M post) : zMv l ⟨"HandToHandModel", "keepBest", "()V"⟩ prog_13_method_81_code 1 none 0 0 w [.ref (zad w 0)] M post := by
  refine zMet (by decide) (Nat.le_of_ble_eq_true rfl) ?_
  intro p e s m below meth c X hr hlk hml hW ls hl
  have hx := X.1
  have hb := X.2.1
  have hl : lv_has ls 1 [(0, .ref (zad w 0))] := hl
  unfold wp_Model_keepBest at h
  have zMain : ∀ (H : Heap) (locs : List Loc) (ls : Array Slot), zWo w s.heap M H locs → lv_has ls 1 [(0, .ref (zad w 0))] → W p l e (zRm 0 0) s m ([.ref (zad w 0)] : List Value).toArray below meth c H locs 0 0 (MQ below (va_Qv post (zB w) (zA w)) ([.ref (zad w 0)] : List Value).toArray s 0 0 (zA w)) (F0 m 0 ls []) := by
    intro H locs ls hW hl
    refine lv_aload_n hx hb dX11_keepBest_0 rfl (lv_at hl 0 rfl) ?_
    refine lv_aload_n hx hb dX11_keepBest_1 rfl (lv_at hl 0 rfl) ?_
    refine zg_Model_ringCoats X hW h0 zu_1051 dX11_keepBest_2 ?_
    refine zp_Model_bestCoats X hW h0 zu_1053 dX11_keepBest_5 (fun H locs zm1 ezm1 hW => ?_)
    replace h := h zm1 ezm1
    refine lv_aload_n hx hb dX11_keepBest_8 rfl (lv_at hl 0 rfl) ?_
    refine lv_aload_n hx hb dX11_keepBest_9 rfl (lv_at hl 0 rfl) ?_
    refine zg_Model_ringTicks X hW h0 zu_1052 dX11_keepBest_10 ?_
    refine zp_Model_bestTicks X hW h0 zu_1054 dX11_keepBest_13 (fun H locs zm2 ezm2 hW => ?_)
    replace h := h zm2 ezm2
    exact zretv X hr hlk hW h dX11_keepBest_16
  exact zMain s.heap [] ls hW hl
