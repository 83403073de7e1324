def wpJ_Main_could_96 (a1 : Int32)  (J : Int64 → Int64 → Int32 → zMem → Prop) (Q : Int64 → zMem → Prop) (x_4 : Int64) (x_6 : Int32) (x_9 : Int64) (s_0 : Int64) (M : zMem) : Prop :=
  ((lg_cmp x_9 0) ≤ 0 → ∀ zx10 : Int32, zx10 = x_6 + 1 → J s_0 x_4 zx10 M) ∧ (¬ (lg_cmp x_9 0) ≤ 0 → (¬ x_9 = 0) ∧ ∀ zx11 : Int64, zx11 = x_4 / x_9 → ∀ zx12 : Int32, zx12 = x_6 + 1 → J s_0 zx11 zx12 M)
def wpB_Main_could_19 (a1 : Int32)   (Q : Int64 → zMem → Prop) (J : Int64 → Int64 → Int32 → zMem → Prop) (x_2 : Int64) (x_4 : Int64) (x_6 : Int32) (M : zMem) : Prop :=
  ((M 1 1) ≤ x_6 → (¬ a1 = 0 → Q x_4 M) ∧ (a1 = 0 → Q x_2 M)) ∧ (¬ (M 1 1) ≤ x_6 → wp_Told_ticksAlone 1 x_6 M (fun zr4 zm3 => ((lg_cmp zr4 0) ≤ 0 → ∀ zx5 : Int32, zx5 = x_6 + 1 → J x_2 x_4 zx5 zm3) ∧ (¬ (lg_cmp zr4 0) ≤ 0 → ∀ zx6 : Int64, zx6 = (x_2 * zr4) + (((zm3 1 6).toInt64) * x_4) → ∀ zx7 : Int64, zx7 = x_4 * zr4 → wp_Main_commonDivisor zx6 zx7 zm3 (fun zr9 zm8 => ((lg_cmp zr9 0) ≤ 0 → wpJ_Main_could_96 a1 J Q zx7 x_6 zr9 zx6 zm8) ∧ (¬ (lg_cmp zr9 0) ≤ 0 → (¬ zr9 = 0) ∧ wpJ_Main_could_96 a1 J Q zx7 x_6 zr9 (zx6 / zr9) zm8)))))
def wp_Main_could (a1 : Int32) (M : zMem) (Q : Int64 → zMem → Prop) : Prop :=
  wp_Main_isHalf a1 M (fun zr2 zm1 => (¬ zr2 = 0 → ∃ n : Nat, zlp3 (wpB_Main_could_19 a1   Q) n 0 1 0 zm1) ∧ (zr2 = 0 → Q ((-1)) zm1))
set_option maxHeartbeats 4000000 in
set_option maxRecDepth 20000 in
theorem c_Main_could {l : Launch} {w : zWd} {a1 : Int32} {M : zMem} {post : Int64 → zMem → Prop} (h0 : zI_Main w) (h : wp_Main_could a1 M post) : zMl l ⟨"HandToHand", "could", "(I)J"⟩ prog_1_method_26_code 11 (Option.some .long) 2 47 w [.ref (zad w 0), .int a1] M post := by
  refine zMet (by decide) (Nat.le_of_ble_eq_true rfl) ?_
  intro p e s m below meth c X hr hlk hml hW ls hl
  have hx := X.1
  have hb := X.2.1
  have hl : lv_has ls 11 [(0, .ref (zad w 0)), (1, .int a1)] := hl
  have zJ_96 : ∀ (x_4 : Int64) (x_6 : Int32) (x_9 : Int64) (s_0 : Int64) (J : Int64 → Int64 → Int32 → zMem → Prop) (zJ : ∀ (y_2 : Int64) (y_4 : Int64) (y_6 : Int32) (M : zMem) (H : Heap) (locs : List Loc) (ls : Array Slot), zWo w s.heap M H locs → lv_has ls 11 [(0, .ref (zad w 0)), (1, .int a1), (2, .long y_2), (4, .long y_4), (6, .int y_6)] → J y_2 y_4 y_6 M → W p l e (zRm 2 47) s m ([.ref (zad w 0), .int a1] : List Value).toArray below meth c H locs 0 0 (MQ below (va_Ql post (zB w) (zA w)) ([.ref (zad w 0), .int a1] : List Value).toArray s 0 0 (zA w)) (F0 m 19 ls [])) (M : zMem) (H : Heap) (locs : List Loc) (ls : Array Slot), zWo w s.heap M H locs → lv_has ls 11 [(0, .ref (zad w 0)), (1, .int a1), (4, .long x_4), (6, .int x_6), (9, .long x_9)] → wpJ_Main_could_96 a1 J post x_4 x_6 x_9 s_0 M → W p l e (zRm 2 47) s m ([.ref (zad w 0), .int a1] : List Value).toArray below meth c H locs 0 0 (MQ below (va_Ql post (zB w) (zA w)) ([.ref (zad w 0), .int a1] : List Value).toArray s 0 0 (zA w)) (F0 m 96 ls [.long s_0]) := by
    intro x_4 x_6 x_9 s_0 J zJ M H locs ls hW hl h
    unfold wpJ_Main_could_96 at h
    refine lv_lstore_n (lv' := [(2, .long s_0), (0, .ref (zad w 0)), (1, .int a1), (4, .long x_4), (6, .int x_6), (9, .long x_9)]) hx hb dX10_could_96 rfl hl (Nat.le_of_ble_eq_true rfl) rfl (fun ls hl => ?_)
    refine lv_lload hx hb dX10_could_97 (lv_at hl 5 rfl) ?_
    refine lv_lconst hx hb dX10_could_99 zc_l0 ?_
    refine W.lcmp hx hb dX10_could_100 ?_
    refine lv_if_le (tgt := 112) hx hb dX10_could_101 rfl (fun c => ?_) (fun c => ?_)
    · replace h := h.1 c
      refine lv_lload hx hb dX10_could_112 (lv_at hl 3 rfl) ?_
      refine lv_lstore (lv' := [(4, .long x_4), (2, .long s_0), (0, .ref (zad w 0)), (1, .int a1), (6, .int x_6), (9, .long x_9)]) hx hb dX10_could_114 hl (Nat.le_of_ble_eq_true rfl) rfl (fun ls hl => ?_)
      obtain ⟨zx10, ezx10⟩ : ∃ y : Int32, y = x_6 + 1 := ⟨_, rfl⟩
      replace h := h zx10 ezx10
      refine lv_iinc (v := zx10) (lv' := [(6, .int zx10), (4, .long x_4), (2, .long s_0), (0, .ref (zad w 0)), (1, .int a1), (9, .long x_9)]) hx hb dX10_could_116 hl (k := 4) rfl (by rw [ezx10, zc_i1]) (Nat.le_of_ble_eq_true rfl) rfl (fun ls hl => ?_)
      refine lv_goto (tgt := 19) hx hb dX10_could_119 rfl ?_
      exact zJ s_0 x_4 zx10 M H locs ls hW (lv_sub hl [3, 4, 2, 1, 0] rfl) h
    · replace h := h.2 c
      refine lv_lload hx hb dX10_could_104 (lv_at hl 3 rfl) ?_
      refine lv_lload hx hb dX10_could_106 (lv_at hl 5 rfl) ?_
      obtain ⟨g, h⟩ := h
      refine lv_ldiv hx hb dX10_could_108 g ?_
      refine lv_goto (tgt := 114) hx hb dX10_could_109 rfl ?_
      refine lv_topl (fun zx11 ezx11 => ?_)
      replace h := h zx11 ezx11
      refine lv_lstore (lv' := [(4, .long zx11), (2, .long s_0), (0, .ref (zad w 0)), (1, .int a1), (6, .int x_6), (9, .long x_9)]) hx hb dX10_could_114 hl (Nat.le_of_ble_eq_true rfl) rfl (fun ls hl => ?_)
      obtain ⟨zx12, ezx12⟩ : ∃ y : Int32, y = x_6 + 1 := ⟨_, rfl⟩
      replace h := h zx12 ezx12
      refine lv_iinc (v := zx12) (lv' := [(6, .int zx12), (4, .long zx11), (2, .long s_0), (0, .ref (zad w 0)), (1, .int a1), (9, .long x_9)]) hx hb dX10_could_116 hl (k := 4) rfl (by rw [ezx12, zc_i1]) (Nat.le_of_ble_eq_true rfl) rfl (fun ls hl => ?_)
      refine lv_goto (tgt := 19) hx hb dX10_could_119 rfl ?_
      exact zJ s_0 zx11 zx12 M H locs ls hW (lv_sub hl [3, 4, 2, 1, 0] rfl) h
  have zL_19 :  ∀ (n : Nat) (x_2 : Int64) (x_4 : Int64) (x_6 : Int32) (M : zMem) (H : Heap) (locs : List Loc) (ls : Array Slot), zWo w s.heap M H locs → lv_has ls 11 [(0, .ref (zad w 0)), (1, .int a1), (2, .long x_2), (4, .long x_4), (6, .int x_6)] → zlp3 (wpB_Main_could_19 a1   post) n x_2 x_4 x_6 M → W p l e (zRm 2 47) s m ([.ref (zad w 0), .int a1] : List Value).toArray below meth c H locs 0 0 (MQ below (va_Ql post (zB w) (zA w)) ([.ref (zad w 0), .int a1] : List Value).toArray s 0 0 (zA w)) (F0 m 19 ls []) := by
    intro n
    induction n with
    | zero => intro x_2 x_4 x_6 M H locs ls hW hl h; exact h.elim
    | succ n zJ =>
      intro x_2 x_4 x_6 M H locs ls hW hl h
      have h : wpB_Main_could_19 a1   post (zlp3 (wpB_Main_could_19 a1   post) n) x_2 x_4 x_6 M := h
      unfold wpB_Main_could_19 at h
      refine lv_iload hx hb dX10_could_19 (lv_at hl 4 rfl) ?_
      refine lv_aload_n hx hb dX10_could_21 rfl (lv_at hl 0 rfl) ?_
      refine zg_Main_told X hW h0 zu_467 dX10_could_22 ?_
      refine zg_Told_hands X hW h0.2.2.2.2.1 zu_41 dX10_could_25 ?_
      refine lv_icmp_ge (tgt := 122) hx hb dX10_could_28 rfl (fun c => ?_) (fun c => ?_)
      · replace h := h.1 c
        refine lv_iload_n hx hb dX10_could_122 rfl (lv_at hl 1 rfl) ?_
        refine lv_if_ne (tgt := 130) hx hb dX10_could_123 rfl (fun c => ?_) (fun c => ?_)
        · replace h := h.1 c
          refine lv_lload hx hb dX10_could_130 (lv_at hl 3 rfl) ?_
          exact zretl X hr hlk hW h dX10_could_132
        · replace h := h.2 c
          refine lv_lload_n hx hb dX10_could_126 rfl (lv_at hl 2 rfl) ?_
          refine lv_goto (tgt := 132) hx hb dX10_could_127 rfl ?_
          exact zretl X hr hlk hW h dX10_could_132
      · replace h := h.2 c
        refine lv_aload_n hx hb dX10_could_31 rfl (lv_at hl 0 rfl) ?_
        refine zg_Main_told X hW h0 zu_467 dX10_could_32 ?_
        refine lv_iload hx hb dX10_could_35 (lv_at hl 4 rfl) ?_
        refine zcalll (zrunV (As := [.int x_6]) (rest := []) X hml hl hW h0.2.2.2.2.1.1 rfl zk_Main_289 (c_Told_ticksAlone h0.2.2.2.2.1 h) rfl ⟨Nat.le_of_ble_eq_true rfl, Nat.le_of_ble_eq_true rfl⟩ ⟨Nat.le_refl 0, Nat.le_refl 0⟩ rfl (Nat.le_of_ble_eq_true rfl) dX10_could_37) hW (fun zr4 zm3 H locs h hW => ?_)
        refine lv_lstore (lv' := [(7, .long zr4), (0, .ref (zad w 0)), (1, .int a1), (2, .long x_2), (4, .long x_4), (6, .int x_6)]) hx hb dX10_could_40 hl (Nat.le_of_ble_eq_true rfl) rfl (fun ls hl => ?_)
        refine lv_lload hx hb dX10_could_42 (lv_at hl 0 rfl) ?_
        refine lv_lconst hx hb dX10_could_44 zc_l0 ?_
        refine W.lcmp hx hb dX10_could_45 ?_
        refine lv_if_le (tgt := 116) hx hb dX10_could_46 rfl (fun c => ?_) (fun c => ?_)
        · replace h := h.1 c
          obtain ⟨zx5, ezx5⟩ : ∃ y : Int32, y = x_6 + 1 := ⟨_, rfl⟩
          replace h := h zx5 ezx5
          refine lv_iinc (v := zx5) (lv' := [(6, .int zx5), (7, .long zr4), (0, .ref (zad w 0)), (1, .int a1), (2, .long x_2), (4, .long x_4)]) hx hb dX10_could_116 hl (k := 5) rfl (by rw [ezx5, zc_i1]) (Nat.le_of_ble_eq_true rfl) rfl (fun ls hl => ?_)
          refine lv_goto (tgt := 19) hx hb dX10_could_119 rfl ?_
          exact zJ x_2 x_4 zx5 zm3 H locs ls hW (lv_sub hl [2, 3, 4, 5, 0] rfl) h
        · replace h := h.2 c
          refine lv_lload_n hx hb dX10_could_49 rfl (lv_at hl 3 rfl) ?_
          refine lv_lload hx hb dX10_could_50 (lv_at hl 0 rfl) ?_
          refine lv_lmul hx hb dX10_could_52 ?_
          refine lv_aload_n hx hb dX10_could_53 rfl (lv_at hl 1 rfl) ?_
          refine zg_Main_told X hW h0 zu_467 dX10_could_54 ?_
          refine zg_Told_rowLength X hW h0.2.2.2.2.1 zu_56 dX10_could_57 ?_
          refine lv_i2l hx hb dX10_could_60 rfl ?_
          refine lv_lload hx hb dX10_could_61 (lv_at hl 4 rfl) ?_
          refine lv_lmul hx hb dX10_could_63 ?_
          refine lv_ladd hx hb dX10_could_64 ?_
          refine lv_topl (fun zx6 ezx6 => ?_)
          replace h := h zx6 ezx6
          refine lv_lstore_n (lv' := [(2, .long zx6), (7, .long zr4), (0, .ref (zad w 0)), (1, .int a1), (4, .long x_4), (6, .int x_6)]) hx hb dX10_could_65 rfl hl (Nat.le_of_ble_eq_true rfl) rfl (fun ls hl => ?_)
          refine lv_lload hx hb dX10_could_66 (lv_at hl 4 rfl) ?_
          refine lv_lload hx hb dX10_could_68 (lv_at hl 1 rfl) ?_
          refine lv_lmul hx hb dX10_could_70 ?_
          refine lv_topl (fun zx7 ezx7 => ?_)
          replace h := h zx7 ezx7
          refine lv_lstore (lv' := [(4, .long zx7), (2, .long zx6), (7, .long zr4), (0, .ref (zad w 0)), (1, .int a1), (6, .int x_6)]) hx hb dX10_could_71 hl (Nat.le_of_ble_eq_true rfl) rfl (fun ls hl => ?_)
          refine lv_lload_n hx hb dX10_could_73 rfl (lv_at hl 1 rfl) ?_
          refine lv_lload hx hb dX10_could_74 (lv_at hl 0 rfl) ?_
          refine zcalll (zrunS (As := [.long zx6, .long zx7]) (rest := []) X hml hl hW zk_Main_293 (c_Main_commonDivisor  h) rfl ⟨Nat.le_of_ble_eq_true rfl, Nat.le_of_ble_eq_true rfl⟩ ⟨Nat.le_refl 0, Nat.le_refl 0⟩ rfl (Nat.le_of_ble_eq_true rfl) dX10_could_76) hW (fun zr9 zm8 H locs h hW => ?_)
          refine lv_lstore (lv' := [(9, .long zr9), (4, .long zx7), (2, .long zx6), (7, .long zr4), (0, .ref (zad w 0)), (1, .int a1), (6, .int x_6)]) hx hb dX10_could_79 hl (Nat.le_of_ble_eq_true rfl) rfl (fun ls hl => ?_)
          refine lv_lload hx hb dX10_could_81 (lv_at hl 0 rfl) ?_
          refine lv_lconst hx hb dX10_could_83 zc_l0 ?_
          refine W.lcmp hx hb dX10_could_84 ?_
          refine lv_if_le (tgt := 95) hx hb dX10_could_85 rfl (fun c => ?_) (fun c => ?_)
          · replace h := h.1 c
            refine lv_lload_n hx hb dX10_could_95 rfl (lv_at hl 2 rfl) ?_
            exact zJ_96 zx7 x_6 zr9 zx6 _ zJ zm8 H locs ls hW (lv_sub hl [4, 5, 1, 6, 0] rfl) h
          · replace h := h.2 c
            refine lv_lload_n hx hb dX10_could_88 rfl (lv_at hl 2 rfl) ?_
            refine lv_lload hx hb dX10_could_89 (lv_at hl 0 rfl) ?_
            obtain ⟨g, h⟩ := h
            refine lv_ldiv hx hb dX10_could_91 g ?_
            refine lv_goto (tgt := 96) hx hb dX10_could_92 rfl ?_
            exact zJ_96 zx7 x_6 zr9 (zx6 / zr9) _ zJ zm8 H locs ls hW (lv_sub hl [4, 5, 1, 6, 0] rfl) h
  unfold wp_Main_could at h
  have zMain : ∀ (H : Heap) (locs : List Loc) (ls : Array Slot), zWo w s.heap M H locs → lv_has ls 11 [(0, .ref (zad w 0)), (1, .int a1)] → W p l e (zRm 2 47) s m ([.ref (zad w 0), .int a1] : List Value).toArray below meth c H locs 0 0 (MQ below (va_Ql post (zB w) (zA w)) ([.ref (zad w 0), .int a1] : List Value).toArray s 0 0 (zA w)) (F0 m 0 ls []) := by
    intro H locs ls hW hl
    refine lv_iload_n hx hb dX10_could_0 rfl (lv_at hl 1 rfl) ?_
    refine zcalli (zrunS (As := [.int a1]) (rest := []) X hml hl hW zk_Main_278 (c_Main_isHalf  h) rfl ⟨Nat.le_of_ble_eq_true rfl, Nat.le_of_ble_eq_true rfl⟩ ⟨Nat.le_refl 0, Nat.le_refl 0⟩ rfl (Nat.le_of_ble_eq_true rfl) dX10_could_1) hW (fun zr2 zm1 H locs h hW => ?_)
    refine lv_if_ne (tgt := 11) hx hb dX10_could_4 rfl (fun c => ?_) (fun c => ?_)
    · replace h := h.1 c
      refine lv_lconst hx hb dX10_could_11 zc_l0 ?_
      refine lv_lstore_n (lv' := [(2, .long 0), (0, .ref (zad w 0)), (1, .int a1)]) hx hb dX10_could_12 rfl hl (Nat.le_of_ble_eq_true rfl) rfl (fun ls hl => ?_)
      refine lv_lconst hx hb dX10_could_13 zc_l1 ?_
      refine lv_lstore (lv' := [(4, .long 1), (2, .long 0), (0, .ref (zad w 0)), (1, .int a1)]) hx hb dX10_could_14 hl (Nat.le_of_ble_eq_true rfl) rfl (fun ls hl => ?_)
      refine lv_iconst hx hb dX10_could_16 zc_i0 ?_
      refine lv_istore (lv' := [(6, .int 0), (4, .long 1), (2, .long 0), (0, .ref (zad w 0)), (1, .int a1)]) hx hb dX10_could_17 hl (Nat.le_of_ble_eq_true rfl) rfl (fun ls hl => ?_)
      obtain ⟨n, h⟩ := h
      refine zL_19   n 0 1 0 zm1 H locs ls hW (lv_sub hl [3, 4, 2, 1, 0] rfl) h
    · replace h := h.2 c
      refine lv_ldc2 hx hb X.2.2.1 (X.2.2.2.1 _ zu_892) dX10_could_7 ?_
      exact zretl X hr hlk hW h dX10_could_10
  exact zMain s.heap [] ls hW hl
def wp_Main_isOrder (a1 : Int32) (M : zMem) (Q : Int32 → zMem → Prop) : Prop :=
  (a1 < 0 → Q 0 M) ∧ (¬ a1 < 0 → wp_Main_numberOfOrders (M 1 1) M (fun zr2 zm1 => (zr2 ≤ a1 → Q 0 zm1) ∧ (¬ zr2 ≤ a1 → Q 1 zm1)))
set_option maxHeartbeats 4000000 in
set_option maxRecDepth 20000 in
theorem c_Main_isOrder {l : Launch} {w : zWd} {a1 : Int32} {M : zMem} {post : Int32 → zMem → Prop} (h0 : zI_Main w) (h : wp_Main_isOrder a1 M post) : zMi l ⟨"HandToHand", "isOrder", "(I)Z"⟩ prog_1_method_39_code 2 (Option.some .boolean) 1 22 w [.ref (zad w 0), .int a1] M post := by
  refine zMet (by decide) (Nat.le_of_ble_eq_true rfl) ?_
  intro p e s m below meth c X hr hlk hml hW ls hl
  have hx := X.1
  have hb := X.2.1
  have hl : lv_has ls 2 [(0, .ref (zad w 0)), (1, .int a1)] := hl
  unfold wp_Main_isOrder at h
  have zMain : ∀ (H : Heap) (locs : List Loc) (ls : Array Slot), zWo w s.heap M H locs → lv_has ls 2 [(0, .ref (zad w 0)), (1, .int a1)] → W p l e (zRm 1 22) s m ([.ref (zad w 0), .int a1] : List Value).toArray below meth c H locs 0 0 (MQ below (va_Qi post (zB w) (zA w)) ([.ref (zad w 0), .int a1] : List Value).toArray s 0 0 (zA w)) (F0 m 0 ls []) := by
    intro H locs ls hW hl
    refine lv_iload_n hx hb dX10_isOrder_0 rfl (lv_at hl 1 rfl) ?_
    refine lv_if_lt (tgt := 22) hx hb dX10_isOrder_1 rfl (fun c => ?_) (fun c => ?_)
    · replace h := h.1 c
      refine lv_iconst hx hb dX10_isOrder_22 zc_i0 ?_
      exact zretz X hr hlk hW rfl h dX10_isOrder_23
    · replace h := h.2 c
      refine lv_iload_n hx hb dX10_isOrder_4 rfl (lv_at hl 1 rfl) ?_
      refine lv_aload_n hx hb dX10_isOrder_5 rfl (lv_at hl 0 rfl) ?_
      refine zg_Main_told X hW h0 zu_467 dX10_isOrder_6 ?_
      refine zg_Told_hands X hW h0.2.2.2.2.1 zu_41 dX10_isOrder_9 ?_
      refine zcalli (zrunS (As := [.int (M 1 1)]) (rest := [.int a1]) X hml hl hW zk_Main_309 (c_Main_numberOfOrders  h) rfl ⟨Nat.le_of_ble_eq_true rfl, Nat.le_of_ble_eq_true rfl⟩ ⟨Nat.le_refl 0, Nat.le_refl 0⟩ rfl (Nat.le_of_ble_eq_true rfl) dX10_isOrder_12) hW (fun zr2 zm1 H locs h hW => ?_)
      refine lv_icmp_ge (tgt := 22) hx hb dX10_isOrder_15 rfl (fun c => ?_) (fun c => ?_)
      · replace h := h.1 c
        refine lv_iconst hx hb dX10_isOrder_22 zc_i0 ?_
        exact zretz X hr hlk hW rfl h dX10_isOrder_23
      · replace h := h.2 c
        refine lv_iconst hx hb dX10_isOrder_18 zc_i1 ?_
        refine lv_goto (tgt := 23) hx hb dX10_isOrder_19 rfl ?_
        exact zretz X hr hlk hW rfl h dX10_isOrder_23
  exact zMain s.heap [] ls hW hl
def wpB_Main_findOrder_41 (a1 : Int32)  (K79 : zMem → Prop) (Q : zMem → Prop) (J : Int32 → zMem → Prop) (x_2 : Int32) (M : zMem) : Prop :=
  ((M 1 1) ≤ x_2 → K79 M) ∧ (¬ (M 1 1) ≤ x_2 → vp_in x_2 5 ∧ wp_Told_copyPacesOf 6 1 (M 59 (ix x_2)) x_2 M (fun zm5 => ∀ zx7 : Int32, zx7 = x_2 + 1 → J zx7 zm5))
def wp_Main_findOrder (a1 : Int32) (M : zMem) (Q : zMem → Prop) : Prop :=
  vp_in a1 120 ∧ ((M 58 (ix a1)) = 0 → wp_Orders_standAs 56 a1 (M 1 1) M (fun zm1 => wp_Told_copyFrom 6 1 zm1 (fun zm3 => ∃ n : Nat, zlp1 (wpB_Main_findOrder_41 a1  (fun (zm8 : zMem) => wp_Settling_settle 41 6 55 zm8 (fun zm9 => vp_in a1 120 ∧ ∀ zm11 : zMem, zm11 = zup zm9 57 (ix a1) (zm9 55 6) → vp_in a1 120 ∧ ∀ zm12 : zMem, zm12 = zup zm11 58 (ix a1) (zm11 55 7) → Q zm12)) Q) n 0 zm3))) ∧ (¬ (M 58 (ix a1)) = 0 → Q M)
set_option maxHeartbeats 4000000 in
set_option maxRecDepth 20000 in
theorem c_Main_findOrder {l : Launch} {w : zWd} {a1 : Int32} {M : zMem} {post : zMem → Prop} (h0 : zI_Main w) (h : wp_Main_findOrder a1 M post) : zMv l ⟨"HandToHand", "findOrder", "(I)V"⟩ prog_1_method_50_code 3 none 5 118 w [.ref (zad w 0), .int a1] M post := by
  refine zMet (by decide) (Nat.le_of_ble_eq_true rfl) ?_
  intro p e s m below meth c X hr hlk hml hW ls hl
  have hx := X.1
  have hb := X.2.1
  have hl : lv_has ls 3 [(0, .ref (zad w 0)), (1, .int a1)] := hl
  have zL_41 : ∀ (K79 : zMem → Prop) (zK79 : ∀ (M : zMem) (H : Heap) (locs : List Loc) (ls : Array Slot), zWo w s.heap M H locs → lv_has ls 3 [(0, .ref (zad w 0)), (1, .int a1)] → K79 M → W p l e (zRm 5 118) s m ([.ref (zad w 0), .int a1] : List Value).toArray below meth c H locs 0 0 (MQ below (va_Qv post (zB w) (zA w)) ([.ref (zad w 0), .int a1] : List Value).toArray s 0 0 (zA w)) (F0 m 79 ls [])), ∀ (n : Nat) (x_2 : Int32) (M : zMem) (H : Heap) (locs : List Loc) (ls : Array Slot), zWo w s.heap M H locs → lv_has ls 3 [(0, .ref (zad w 0)), (1, .int a1), (2, .int x_2)] → zlp1 (wpB_Main_findOrder_41 a1  K79 post) n x_2 M → W p l e (zRm 5 118) s m ([.ref (zad w 0), .int a1] : List Value).toArray below meth c H locs 0 0 (MQ below (va_Qv post (zB w) (zA w)) ([.ref (zad w 0), .int a1] : List Value).toArray s 0 0 (zA w)) (F0 m 41 ls []) := by
    intro K79 zK79 n
    induction n with
    | zero => intro x_2 M H locs ls hW hl h; exact h.elim
    | succ n zJ =>
      intro x_2 M H locs ls hW hl h
      have h : wpB_Main_findOrder_41 a1  K79 post (zlp1 (wpB_Main_findOrder_41 a1  K79 post) n) x_2 M := h
      unfold wpB_Main_findOrder_41 at h
      refine lv_iload_n hx hb dX10_findOrder_41 rfl (lv_at hl 2 rfl) ?_
      refine lv_aload_n hx hb dX10_findOrder_42 rfl (lv_at hl 0 rfl) ?_
      refine zg_Main_told X hW h0 zu_467 dX10_findOrder_43 ?_
      refine zg_Told_hands X hW h0.2.2.2.2.1 zu_41 dX10_findOrder_46 ?_
      refine lv_icmp_ge (tgt := 79) hx hb dX10_findOrder_49 rfl (fun c => ?_) (fun c => ?_)
      · replace h := h.1 c
        exact zK79 M H locs ls hW (lv_sub hl [0, 1] rfl) h
      · replace h := h.2 c
        refine lv_aload_n hx hb dX10_findOrder_52 rfl (lv_at hl 0 rfl) ?_
        refine zg_Main_variant X hW h0 zu_468 dX10_findOrder_53 ?_
        refine lv_aload_n hx hb dX10_findOrder_56 rfl (lv_at hl 0 rfl) ?_
        refine zg_Main_told X hW h0 zu_467 dX10_findOrder_57 ?_
        refine lv_aload_n hx hb dX10_findOrder_60 rfl (lv_at hl 0 rfl) ?_
        refine zg_Main_orders X hW h0 zu_477 dX10_findOrder_61 ?_
        refine zg_Orders_standing X hW h0.2.2.2.2.2.2.2.2.2.2.2.2.1 zu_340 dX10_findOrder_64 ?_
        refine lv_iload_n hx hb dX10_findOrder_67 rfl (lv_at hl 2 rfl) ?_
        obtain ⟨g, h⟩ := h
        refine ziald X hW h0.2.2.2.2.2.2.2.2.2.2.2.2.1.2.2.2 g dX10_findOrder_68 ?_
        refine lv_iload_n hx hb dX10_findOrder_69 rfl (lv_at hl 2 rfl) ?_
        refine zcallv (zrunV (As := [.ref (zad w 1), .int (M 59 (ix x_2)), .int x_2]) (rest := []) X hml hl hW h0.2.2.2.2.2.1.1 rfl zk_Main_379 (c_Told_copyPacesOf h0.2.2.2.2.2.1 h0.2.2.2.2.1 h) rfl ⟨Nat.le_of_ble_eq_true rfl, Nat.le_of_ble_eq_true rfl⟩ ⟨Nat.le_refl 0, Nat.le_refl 0⟩ rfl (Nat.le_of_ble_eq_true rfl) dX10_findOrder_70) hW (fun zm5 H locs h hW => ?_)
        obtain ⟨zx7, ezx7⟩ : ∃ y : Int32, y = x_2 + 1 := ⟨_, rfl⟩
        replace h := h zx7 ezx7
        refine lv_iinc (v := zx7) (lv' := [(2, .int zx7), (0, .ref (zad w 0)), (1, .int a1)]) hx hb dX10_findOrder_73 hl (k := 2) rfl (by rw [ezx7, zc_i1]) (Nat.le_of_ble_eq_true rfl) rfl (fun ls hl => ?_)
        refine lv_goto (tgt := 41) hx hb dX10_findOrder_76 rfl ?_
        exact zJ zx7 zm5 H locs ls hW (lv_sub hl [1, 2, 0] rfl) h
  unfold wp_Main_findOrder at h
  have zMain : ∀ (H : Heap) (locs : List Loc) (ls : Array Slot), zWo w s.heap M H locs → lv_has ls 3 [(0, .ref (zad w 0)), (1, .int a1)] → W p l e (zRm 5 118) s m ([.ref (zad w 0), .int a1] : List Value).toArray below meth c H locs 0 0 (MQ below (va_Qv post (zB w) (zA w)) ([.ref (zad w 0), .int a1] : List Value).toArray s 0 0 (zA w)) (F0 m 0 ls []) := by
    intro H locs ls hW hl
    refine lv_aload_n hx hb dX10_findOrder_0 rfl (lv_at hl 0 rfl) ?_
    refine zg_Main_orders X hW h0 zu_477 dX10_findOrder_1 ?_
    refine zg_Orders_bottoms X hW h0.2.2.2.2.2.2.2.2.2.2.2.2.1 zu_338 dX10_findOrder_4 ?_
    refine lv_iload_n hx hb dX10_findOrder_7 rfl (lv_at hl 1 rfl) ?_
    obtain ⟨g, h⟩ := h
    refine ziald X hW h0.2.2.2.2.2.2.2.2.2.2.2.2.1.2.2.1 g dX10_findOrder_8 ?_
    refine lv_if_eq (tgt := 13) hx hb dX10_findOrder_9 rfl (fun c => ?_) (fun c => ?_)
    · replace h := h.1 c
      refine lv_aload_n hx hb dX10_findOrder_13 rfl (lv_at hl 0 rfl) ?_
      refine zg_Main_orders X hW h0 zu_477 dX10_findOrder_14 ?_
      refine lv_iload_n hx hb dX10_findOrder_17 rfl (lv_at hl 1 rfl) ?_
      refine lv_aload_n hx hb dX10_findOrder_18 rfl (lv_at hl 0 rfl) ?_
      refine zg_Main_told X hW h0 zu_467 dX10_findOrder_19 ?_
      refine zg_Told_hands X hW h0.2.2.2.2.1 zu_41 dX10_findOrder_22 ?_
      refine zcallv (zrunV (As := [.int a1, .int (M 1 1)]) (rest := []) X hml hl hW h0.2.2.2.2.2.2.2.2.2.2.2.2.1.1 rfl zk_Main_317 (c_Orders_standAs h0.2.2.2.2.2.2.2.2.2.2.2.2.1 h) rfl ⟨Nat.le_of_ble_eq_true rfl, Nat.le_of_ble_eq_true rfl⟩ ⟨Nat.le_refl 0, Nat.le_refl 0⟩ rfl (Nat.le_of_ble_eq_true rfl) dX10_findOrder_25) hW (fun zm1 H locs h hW => ?_)
      refine lv_aload_n hx hb dX10_findOrder_28 rfl (lv_at hl 0 rfl) ?_
      refine zg_Main_variant X hW h0 zu_468 dX10_findOrder_29 ?_
      refine lv_aload_n hx hb dX10_findOrder_32 rfl (lv_at hl 0 rfl) ?_
      refine zg_Main_told X hW h0 zu_467 dX10_findOrder_33 ?_
      refine zcallv (zrunV (As := [.ref (zad w 1)]) (rest := []) X hml hl hW h0.2.2.2.2.2.1.1 rfl zk_Main_117 (c_Told_copyFrom h0.2.2.2.2.2.1 h0.2.2.2.2.1 h) rfl ⟨Nat.le_of_ble_eq_true rfl, Nat.le_of_ble_eq_true rfl⟩ ⟨Nat.le_refl 0, Nat.le_refl 0⟩ rfl (Nat.le_of_ble_eq_true rfl) dX10_findOrder_36) hW (fun zm3 H locs h hW => ?_)
      refine lv_iconst hx hb dX10_findOrder_39 zc_i0 ?_
      refine lv_istore_n (lv' := [(2, .int 0), (0, .ref (zad w 0)), (1, .int a1)]) hx hb dX10_findOrder_40 rfl hl (Nat.le_of_ble_eq_true rfl) rfl (fun ls hl => ?_)
      obtain ⟨n, h⟩ := h
      refine zL_41  _ (fun  zm8 H locs ls hW hl h => ?_) n 0 zm3 H locs ls hW (lv_sub hl [1, 2, 0] rfl) h
      · skip
        refine lv_aload_n hx hb dX10_findOrder_79 rfl (lv_at hl 0 rfl) ?_
        refine zg_Main_settling X hW h0 zu_474 dX10_findOrder_80 ?_
        refine lv_aload_n hx hb dX10_findOrder_83 rfl (lv_at hl 0 rfl) ?_
        refine zg_Main_variant X hW h0 zu_468 dX10_findOrder_84 ?_
        refine lv_aload_n hx hb dX10_findOrder_87 rfl (lv_at hl 0 rfl) ?_
        refine zg_Main_variantRing X hW h0 zu_476 dX10_findOrder_88 ?_
        refine zcallv (zrunV (As := [.ref (zad w 6), .ref (zad w 55)]) (rest := []) X hml hl hW h0.2.2.2.2.2.2.2.2.2.1.1 rfl zk_Main_333 (c_Settling_settle h0.2.2.2.2.2.2.2.2.2.1 h0.2.2.2.2.2.1 h0.2.2.2.2.2.2.2.2.2.2.2.1 h) rfl ⟨Nat.le_of_ble_eq_true rfl, Nat.le_of_ble_eq_true rfl⟩ ⟨Nat.le_refl 0, Nat.le_refl 0⟩ rfl (Nat.le_of_ble_eq_true rfl) dX10_findOrder_91) hW (fun zm9 H locs h hW => ?_)
        refine lv_aload_n hx hb dX10_findOrder_94 rfl (lv_at hl 0 rfl) ?_
        refine zg_Main_orders X hW h0 zu_477 dX10_findOrder_95 ?_
        refine zg_Orders_tops X hW h0.2.2.2.2.2.2.2.2.2.2.2.2.1 zu_336 dX10_findOrder_98 ?_
        refine lv_iload_n hx hb dX10_findOrder_101 rfl (lv_at hl 1 rfl) ?_
        refine lv_aload_n hx hb dX10_findOrder_102 rfl (lv_at hl 0 rfl) ?_
        refine zg_Main_variantRing X hW h0 zu_476 dX10_findOrder_103 ?_
        refine zg_Ring_top X hW h0.2.2.2.2.2.2.2.2.2.2.2.1 zu_308 dX10_findOrder_106 ?_
        obtain ⟨g, h⟩ := h
        refine ziast X hW h0.2.2.2.2.2.2.2.2.2.2.2.2.1.2.1 g dX10_findOrder_109 (fun H locs zm11 ezm11 hW => ?_)
        replace h := h zm11 ezm11
        refine lv_aload_n hx hb dX10_findOrder_110 rfl (lv_at hl 0 rfl) ?_
        refine zg_Main_orders X hW h0 zu_477 dX10_findOrder_111 ?_
        refine zg_Orders_bottoms X hW h0.2.2.2.2.2.2.2.2.2.2.2.2.1 zu_338 dX10_findOrder_114 ?_
        refine lv_iload_n hx hb dX10_findOrder_117 rfl (lv_at hl 1 rfl) ?_
        refine lv_aload_n hx hb dX10_findOrder_118 rfl (lv_at hl 0 rfl) ?_
        refine zg_Main_variantRing X hW h0 zu_476 dX10_findOrder_119 ?_
        refine zg_Ring_bottom X hW h0.2.2.2.2.2.2.2.2.2.2.2.1 zu_311 dX10_findOrder_122 ?_
        obtain ⟨g, h⟩ := h
        refine ziast X hW h0.2.2.2.2.2.2.2.2.2.2.2.2.1.2.2.1 g dX10_findOrder_125 (fun H locs zm12 ezm12 hW => ?_)
        replace h := h zm12 ezm12
        exact zretv X hr hlk hW h dX10_findOrder_126
    · replace h := h.2 c
      exact zretv X hr hlk hW h dX10_findOrder_12
  exact zMain s.heap [] ls hW hl
def wp_Main_order (a1 : Int32) (a2 : Int32) (M : zMem) (Q : Int32 → zMem → Prop) : Prop :=
  wp_Main_isOrder a1 M (fun zr2 zm1 => (zr2 = 0 → Q ((-1)) zm1) ∧ (¬ zr2 = 0 → wp_Main_isHalf a2 zm1 (fun zr4 zm3 => (¬ zr4 = 0 → wp_Main_findOrder a1 zm3 (fun zm5 => (¬ a2 = 0 → vp_in a1 120 ∧ Q (zm5 58 (ix a1)) zm5) ∧ (a2 = 0 → vp_in a1 120 ∧ Q (zm5 57 (ix a1)) zm5))) ∧ (zr4 = 0 → Q ((-1)) zm3))))
set_option maxHeartbeats 4000000 in
set_option maxRecDepth 20000 in
theorem c_Main_order {l : Launch} {w : zWd} {a1 : Int32} {a2 : Int32} {M : zMem} {post : Int32 → zMem → Prop} (h0 : zI_Main w) (h : wp_Main_order a1 a2 M post) : zMi l ⟨"HandToHand", "order", "(II)I"⟩ prog_1_method_27_code 3 (Option.some .int) 6 140 w [.ref (zad w 0), .int a1, .int a2] M post := by
  refine zMet (by decide) (Nat.le_of_ble_eq_true rfl) ?_
  intro p e s m below meth c X hr hlk hml hW ls hl
  have hx := X.1
  have hb := X.2.1
  have hl : lv_has ls 3 [(0, .ref (zad w 0)), (1, .int a1), (2, .int a2)] := hl
  unfold wp_Main_order at h
  have zMain : ∀ (H : Heap) (locs : List Loc) (ls : Array Slot), zWo w s.heap M H locs → lv_has ls 3 [(0, .ref (zad w 0)), (1, .int a1), (2, .int a2)] → W p l e (zRm 6 140) s m ([.ref (zad w 0), .int a1, .int a2] : List Value).toArray below meth c H locs 0 0 (MQ below (va_Qi post (zB w) (zA w)) ([.ref (zad w 0), .int a1, .int a2] : List Value).toArray s 0 0 (zA w)) (F0 m 0 ls []) := by
    intro H locs ls hW hl
    refine lv_aload_n hx hb dX10_order_0 rfl (lv_at hl 0 rfl) ?_
    refine lv_iload_n hx hb dX10_order_1 rfl (lv_at hl 1 rfl) ?_
    refine zcalli (zrunV (As := [.int a1]) (rest := []) X hml hl hW h0.1 rfl zk_Main_297 (c_Main_isOrder h0 h) rfl ⟨Nat.le_of_ble_eq_true rfl, Nat.le_of_ble_eq_true rfl⟩ ⟨Nat.le_refl 0, Nat.le_refl 0⟩ rfl (Nat.le_of_ble_eq_true rfl) dX10_order_2) hW (fun zr2 zm1 H locs h hW => ?_)
    refine lv_if_eq (tgt := 15) hx hb dX10_order_5 rfl (fun c => ?_) (fun c => ?_)
    · replace h := h.1 c
      refine lv_iconst hx hb dX10_order_15 zc_im1 ?_
      exact zreti X hr hlk hW h dX10_order_16
    · replace h := h.2 c
      refine lv_iload_n hx hb dX10_order_8 rfl (lv_at hl 2 rfl) ?_
      refine zcalli (zrunS (As := [.int a2]) (rest := []) X hml hl hW zk_Main_278 (c_Main_isHalf  h) rfl ⟨Nat.le_of_ble_eq_true rfl, Nat.le_of_ble_eq_true rfl⟩ ⟨Nat.le_refl 0, Nat.le_refl 0⟩ rfl (Nat.le_of_ble_eq_true rfl) dX10_order_9) hW (fun zr4 zm3 H locs h hW => ?_)
      refine lv_if_ne (tgt := 17) hx hb dX10_order_12 rfl (fun c => ?_) (fun c => ?_)
      · replace h := h.1 c
        refine lv_aload_n hx hb dX10_order_17 rfl (lv_at hl 0 rfl) ?_
        refine lv_iload_n hx hb dX10_order_18 rfl (lv_at hl 1 rfl) ?_
        refine zcallv (zrunV (As := [.int a1]) (rest := []) X hml hl hW h0.1 rfl zk_Main_300 (c_Main_findOrder h0 h) rfl ⟨Nat.le_of_ble_eq_true rfl, Nat.le_of_ble_eq_true rfl⟩ ⟨Nat.le_refl 0, Nat.le_refl 0⟩ rfl (Nat.le_of_ble_eq_true rfl) dX10_order_19) hW (fun zm5 H locs h hW => ?_)
        refine lv_iload_n hx hb dX10_order_22 rfl (lv_at hl 2 rfl) ?_
        refine lv_if_ne (tgt := 38) hx hb dX10_order_23 rfl (fun c => ?_) (fun c => ?_)
        · replace h := h.1 c
          refine lv_aload_n hx hb dX10_order_38 rfl (lv_at hl 0 rfl) ?_
          refine zg_Main_orders X hW h0 zu_477 dX10_order_39 ?_
          refine zg_Orders_bottoms X hW h0.2.2.2.2.2.2.2.2.2.2.2.2.1 zu_338 dX10_order_42 ?_
          refine lv_iload_n hx hb dX10_order_45 rfl (lv_at hl 1 rfl) ?_
          obtain ⟨g, h⟩ := h
          refine ziald X hW h0.2.2.2.2.2.2.2.2.2.2.2.2.1.2.2.1 g dX10_order_46 ?_
          exact zreti X hr hlk hW h dX10_order_47
        · replace h := h.2 c
          refine lv_aload_n hx hb dX10_order_26 rfl (lv_at hl 0 rfl) ?_
          refine zg_Main_orders X hW h0 zu_477 dX10_order_27 ?_
          refine zg_Orders_tops X hW h0.2.2.2.2.2.2.2.2.2.2.2.2.1 zu_336 dX10_order_30 ?_
          refine lv_iload_n hx hb dX10_order_33 rfl (lv_at hl 1 rfl) ?_
          obtain ⟨g, h⟩ := h
          refine ziald X hW h0.2.2.2.2.2.2.2.2.2.2.2.2.1.2.1 g dX10_order_34 ?_
          refine lv_goto (tgt := 47) hx hb dX10_order_35 rfl ?_
          exact zreti X hr hlk hW h dX10_order_47
      · replace h := h.2 c
        refine lv_iconst hx hb dX10_order_15 zc_im1 ?_
        exact zreti X hr hlk hW h dX10_order_16
  exact zMain s.heap [] ls hW hl
def wp_Main_isMore (a1 : Int64) (a2 : Int64) (a3 : Int64) (a4 : Int64) (M : zMem) (Q : Int32 → zMem → Prop) : Prop :=
  ((lg_cmp (a1 * a4) (a3 * a2)) ≤ 0 → Q 0 M) ∧ (¬ (lg_cmp (a1 * a4) (a3 * a2)) ≤ 0 → Q 1 M)
set_option maxHeartbeats 4000000 in
set_option maxRecDepth 20000 in
theorem c_Main_isMore {l : Launch} {w : zWd} {a1 : Int64} {a2 : Int64} {a3 : Int64} {a4 : Int64} {M : zMem} {post : Int32 → zMem → Prop}  (h : wp_Main_isMore a1 a2 a3 a4 M post) : zMi l ⟨"HandToHand", "isMore", "(JJJJ)Z"⟩ prog_1_method_46_code 8 (Option.some .boolean) 0 0 w [.long a1, .long a2, .long a3, .long a4] M post := by
  refine zMet (by decide) (Nat.le_of_ble_eq_true rfl) ?_
  intro p e s m below meth c X hr hlk hml hW ls hl
  have hx := X.1
  have hb := X.2.1
  have hl : lv_has ls 8 [(0, .long a1), (2, .long a2), (4, .long a3), (6, .long a4)] := hl
  unfold wp_Main_isMore at h
  have zMain : ∀ (H : Heap) (locs : List Loc) (ls : Array Slot), zWo w s.heap M H locs → lv_has ls 8 [(0, .long a1), (2, .long a2), (4, .long a3), (6, .long a4)] → W p l e (zRm 0 0) s m ([.long a1, .long a2, .long a3, .long a4] : List Value).toArray below meth c H locs 0 0 (MQ below (va_Qi post (zB w) (zA w)) ([.long a1, .long a2, .long a3, .long a4] : List Value).toArray s 0 0 (zA w)) (F0 m 0 ls []) := by
    intro H locs ls hW hl
    refine lv_lload_n hx hb dX10_isMore_0 rfl (lv_at hl 0 rfl) ?_
    refine lv_lload hx hb dX10_isMore_1 (lv_at hl 3 rfl) ?_
    refine lv_lmul hx hb dX10_isMore_3 ?_
    refine lv_lload hx hb dX10_isMore_4 (lv_at hl 2 rfl) ?_
    refine lv_lload_n hx hb dX10_isMore_6 rfl (lv_at hl 1 rfl) ?_
    refine lv_lmul hx hb dX10_isMore_7 ?_
    refine W.lcmp hx hb dX10_isMore_8 ?_
    refine lv_if_le (tgt := 16) hx hb dX10_isMore_9 rfl (fun c => ?_) (fun c => ?_)
    · replace h := h.1 c
      refine lv_iconst hx hb dX10_isMore_16 zc_i0 ?_
      exact zretz X hr hlk hW rfl h dX10_isMore_17
    · replace h := h.2 c
      refine lv_iconst hx hb dX10_isMore_12 zc_i1 ?_
      refine lv_goto (tgt := 17) hx hb dX10_isMore_13 rfl ?_
      exact zretz X hr hlk hW rfl h dX10_isMore_17
  exact zMain s.heap [] ls hW hl
def wpJ_Main_best_59 (a1 : Int32) (K116 : Int32 → Int32 → zMem → Prop) (J : Int32 → Int32 → Int32 → zMem → Prop) (Q : Int32 → zMem → Prop) (x_2 : Int32) (x_3 : Int32) (x_4 : Int32) (x_5 : Int32)  (M : zMem) : Prop :=
  vp_in x_5 120 ∧ vp_in x_5 120 ∧ vp_in x_2 120 ∧ vp_in x_2 120 ∧ wp_Main_isMore ((M 57 (ix x_5)).toInt64) ((M 58 (ix x_5)).toInt64) ((M 57 (ix x_2)).toInt64) ((M 58 (ix x_2)).toInt64) M (fun zr6 zm5 => (zr6 = 0 → ∀ zx7 : Int32, zx7 = x_5 + 1 → J x_2 x_3 zx7 zm5) ∧ (¬ zr6 = 0 → ∀ zx8 : Int32, zx8 = x_5 + 1 → J x_5 x_3 zx8 zm5))
def wpB_Main_best_30 (a1 : Int32) (x_4 : Int32) (K116 : Int32 → Int32 → zMem → Prop) (Q : Int32 → zMem → Prop) (J : Int32 → Int32 → Int32 → zMem → Prop) (x_2 : Int32) (x_3 : Int32) (x_5 : Int32) (M : zMem) : Prop :=
  (x_4 ≤ x_5 → K116 x_2 x_3 M) ∧ (¬ x_4 ≤ x_5 → wp_Main_findOrder x_5 M (fun zm3 => vp_in x_5 120 ∧ (¬ (zm3 57 (ix x_5)) = 0 → wpJ_Main_best_59 a1 K116 J Q x_2 x_3 x_4 x_5 zm3) ∧ ((zm3 57 (ix x_5)) = 0 → ∀ zx9 : Int32, zx9 = x_3 + 1 → wpJ_Main_best_59 a1 K116 J Q x_2 zx9 x_4 x_5 zm3)))
def wp_Main_best (a1 : Int32) (M : zMem) (Q : Int32 → zMem → Prop) : Prop :=
  (a1 < 0 → Q ((-1)) M) ∧ (¬ a1 < 0 → (a1 ≤ 3 → wp_Main_numberOfOrders (M 1 1) M (fun zr2 zm1 => ∃ n : Nat, zlp3 (wpB_Main_best_30 a1 zr2 (fun (zx11 : Int32) (zx12 : Int32) (zm10 : zMem) => ∀ zx13 : Int32, zx13 = a1 → (zx13 = 0 → Q zx11 zm10) ∧ (zx13 = 1 → vp_in zx11 120 ∧ Q (zm10 57 (ix zx11)) zm10) ∧ (zx13 = 2 → vp_in zx11 120 ∧ Q (zm10 58 (ix zx11)) zm10) ∧ (¬ zx13 = 0 → ¬ zx13 = 1 → ¬ zx13 = 2 → Q zx12 zm10)) Q) n 0 0 0 zm1)) ∧ (¬ a1 ≤ 3 → Q ((-1)) M))
set_option maxHeartbeats 4000000 in
set_option maxRecDepth 20000 in
theorem c_Main_best {l : Launch} {w : zWd} {a1 : Int32} {M : zMem} {post : Int32 → zMem → Prop} (h0 : zI_Main w) (h : wp_Main_best a1 M post) : zMi l ⟨"HandToHand", "best", "(I)I"⟩ prog_1_method_28_code 6 (Option.some .int) 6 140 w [.ref (zad w 0), .int a1] M post := by
  refine zMet (by decide) (Nat.le_of_ble_eq_true rfl) ?_
  intro p e s m below meth c X hr hlk hml hW ls hl
  have hx := X.1
  have hb := X.2.1
  have hl : lv_has ls 6 [(0, .ref (zad w 0)), (1, .int a1)] := hl
  have zJ_59 : ∀ (x_2 : Int32) (x_3 : Int32) (x_4 : Int32) (x_5 : Int32) (K116 : Int32 → Int32 → zMem → Prop) (zK116 : ∀ (y_2 : Int32) (y_3 : Int32) (M : zMem) (H : Heap) (locs : List Loc) (ls : Array Slot), zWo w s.heap M H locs → lv_has ls 6 [(0, .ref (zad w 0)), (1, .int a1), (2, .int y_2), (3, .int y_3)] → K116 y_2 y_3 M → W p l e (zRm 6 140) s m ([.ref (zad w 0), .int a1] : List Value).toArray below meth c H locs 0 0 (MQ below (va_Qi post (zB w) (zA w)) ([.ref (zad w 0), .int a1] : List Value).toArray s 0 0 (zA w)) (F0 m 116 ls [])) (J : Int32 → Int32 → Int32 → zMem → Prop) (zJ : ∀ (y_2 : Int32) (y_3 : Int32) (y_5 : Int32) (M : zMem) (H : Heap) (locs : List Loc) (ls : Array Slot), zWo w s.heap M H locs → lv_has ls 6 [(0, .ref (zad w 0)), (1, .int a1), (2, .int y_2), (3, .int y_3), (4, .int x_4), (5, .int y_5)] → J y_2 y_3 y_5 M → W p l e (zRm 6 140) s m ([.ref (zad w 0), .int a1] : List Value).toArray below meth c H locs 0 0 (MQ below (va_Qi post (zB w) (zA w)) ([.ref (zad w 0), .int a1] : List Value).toArray s 0 0 (zA w)) (F0 m 30 ls [])) (M : zMem) (H : Heap) (locs : List Loc) (ls : Array Slot), zWo w s.heap M H locs → lv_has ls 6 [(0, .ref (zad w 0)), (1, .int a1), (2, .int x_2), (3, .int x_3), (4, .int x_4), (5, .int x_5)] → wpJ_Main_best_59 a1 K116 J post x_2 x_3 x_4 x_5 M → W p l e (zRm 6 140) s m ([.ref (zad w 0), .int a1] : List Value).toArray below meth c H locs 0 0 (MQ below (va_Qi post (zB w) (zA w)) ([.ref (zad w 0), .int a1] : List Value).toArray s 0 0 (zA w)) (F0 m 59 ls []) := by
    intro x_2 x_3 x_4 x_5 K116 zK116 J zJ M H locs ls hW hl h
    unfold wpJ_Main_best_59 at h
    refine lv_aload_n hx hb dX10_best_59 rfl (lv_at hl 0 rfl) ?_
    refine zg_Main_orders X hW h0 zu_477 dX10_best_60 ?_
    refine zg_Orders_tops X hW h0.2.2.2.2.2.2.2.2.2.2.2.2.1 zu_336 dX10_best_63 ?_
    refine lv_iload hx hb dX10_best_66 (lv_at hl 5 rfl) ?_
    obtain ⟨g, h⟩ := h
    refine ziald X hW h0.2.2.2.2.2.2.2.2.2.2.2.2.1.2.1 g dX10_best_68 ?_
    refine lv_i2l hx hb dX10_best_69 rfl ?_
    refine lv_aload_n hx hb dX10_best_70 rfl (lv_at hl 0 rfl) ?_
    refine zg_Main_orders X hW h0 zu_477 dX10_best_71 ?_
    refine zg_Orders_bottoms X hW h0.2.2.2.2.2.2.2.2.2.2.2.2.1 zu_338 dX10_best_74 ?_
    refine lv_iload hx hb dX10_best_77 (lv_at hl 5 rfl) ?_
    obtain ⟨g, h⟩ := h
    refine ziald X hW h0.2.2.2.2.2.2.2.2.2.2.2.2.1.2.2.1 g dX10_best_79 ?_
    refine lv_i2l hx hb dX10_best_80 rfl ?_
    refine lv_aload_n hx hb dX10_best_81 rfl (lv_at hl 0 rfl) ?_
    refine zg_Main_orders X hW h0 zu_477 dX10_best_82 ?_
    refine zg_Orders_tops X hW h0.2.2.2.2.2.2.2.2.2.2.2.2.1 zu_336 dX10_best_85 ?_
    refine lv_iload_n hx hb dX10_best_88 rfl (lv_at hl 2 rfl) ?_
    obtain ⟨g, h⟩ := h
    refine ziald X hW h0.2.2.2.2.2.2.2.2.2.2.2.2.1.2.1 g dX10_best_89 ?_
    refine lv_i2l hx hb dX10_best_90 rfl ?_
    refine lv_aload_n hx hb dX10_best_91 rfl (lv_at hl 0 rfl) ?_
    refine zg_Main_orders X hW h0 zu_477 dX10_best_92 ?_
    refine zg_Orders_bottoms X hW h0.2.2.2.2.2.2.2.2.2.2.2.2.1 zu_338 dX10_best_95 ?_
    refine lv_iload_n hx hb dX10_best_98 rfl (lv_at hl 2 rfl) ?_
    obtain ⟨g, h⟩ := h
    refine ziald X hW h0.2.2.2.2.2.2.2.2.2.2.2.2.1.2.2.1 g dX10_best_99 ?_
    refine lv_i2l hx hb dX10_best_100 rfl ?_
    refine zcalli (zrunS (As := [.long ((M 57 (ix x_5)).toInt64), .long ((M 58 (ix x_5)).toInt64), .long ((M 57 (ix x_2)).toInt64), .long ((M 58 (ix x_2)).toInt64)]) (rest := []) X hml hl hW zk_Main_313 (c_Main_isMore  h) rfl ⟨Nat.le_of_ble_eq_true rfl, Nat.le_of_ble_eq_true rfl⟩ ⟨Nat.le_refl 0, Nat.le_refl 0⟩ rfl (Nat.le_of_ble_eq_true rfl) dX10_best_101) hW (fun zr6 zm5 H locs h hW => ?_)
    refine lv_if_eq (tgt := 110) hx hb dX10_best_104 rfl (fun c => ?_) (fun c => ?_)
    · replace h := h.1 c
      obtain ⟨zx7, ezx7⟩ : ∃ y : Int32, y = x_5 + 1 := ⟨_, rfl⟩
      replace h := h zx7 ezx7
      refine lv_iinc (v := zx7) (lv' := [(5, .int zx7), (0, .ref (zad w 0)), (1, .int a1), (2, .int x_2), (3, .int x_3), (4, .int x_4)]) hx hb dX10_best_110 hl (k := 5) rfl (by rw [ezx7, zc_i1]) (Nat.le_of_ble_eq_true rfl) rfl (fun ls hl => ?_)
      refine lv_goto (tgt := 30) hx hb dX10_best_113 rfl ?_
      exact zJ x_2 x_3 zx7 zm5 H locs ls hW (lv_sub hl [1, 2, 3, 4, 5, 0] rfl) h
    · replace h := h.2 c
      refine lv_iload hx hb dX10_best_107 (lv_at hl 5 rfl) ?_
      refine lv_istore_n (lv' := [(2, .int x_5), (0, .ref (zad w 0)), (1, .int a1), (3, .int x_3), (4, .int x_4), (5, .int x_5)]) hx hb dX10_best_109 rfl hl (Nat.le_of_ble_eq_true rfl) rfl (fun ls hl => ?_)
      obtain ⟨zx8, ezx8⟩ : ∃ y : Int32, y = x_5 + 1 := ⟨_, rfl⟩
      replace h := h zx8 ezx8
      refine lv_iinc (v := zx8) (lv' := [(5, .int zx8), (2, .int x_5), (0, .ref (zad w 0)), (1, .int a1), (3, .int x_3), (4, .int x_4)]) hx hb dX10_best_110 hl (k := 5) rfl (by rw [ezx8, zc_i1]) (Nat.le_of_ble_eq_true rfl) rfl (fun ls hl => ?_)
      refine lv_goto (tgt := 30) hx hb dX10_best_113 rfl ?_
      exact zJ x_5 x_3 zx8 zm5 H locs ls hW (lv_sub hl [2, 3, 1, 4, 5, 0] rfl) h
  have zL_30 : ∀ (x_4 : Int32) (K116 : Int32 → Int32 → zMem → Prop) (zK116 : ∀ (y_2 : Int32) (y_3 : Int32) (M : zMem) (H : Heap) (locs : List Loc) (ls : Array Slot), zWo w s.heap M H locs → lv_has ls 6 [(0, .ref (zad w 0)), (1, .int a1), (2, .int y_2), (3, .int y_3)] → K116 y_2 y_3 M → W p l e (zRm 6 140) s m ([.ref (zad w 0), .int a1] : List Value).toArray below meth c H locs 0 0 (MQ below (va_Qi post (zB w) (zA w)) ([.ref (zad w 0), .int a1] : List Value).toArray s 0 0 (zA w)) (F0 m 116 ls [])), ∀ (n : Nat) (x_2 : Int32) (x_3 : Int32) (x_5 : Int32) (M : zMem) (H : Heap) (locs : List Loc) (ls : Array Slot), zWo w s.heap M H locs → lv_has ls 6 [(0, .ref (zad w 0)), (1, .int a1), (2, .int x_2), (3, .int x_3), (4, .int x_4), (5, .int x_5)] → zlp3 (wpB_Main_best_30 a1 x_4 K116 post) n x_2 x_3 x_5 M → W p l e (zRm 6 140) s m ([.ref (zad w 0), .int a1] : List Value).toArray below meth c H locs 0 0 (MQ below (va_Qi post (zB w) (zA w)) ([.ref (zad w 0), .int a1] : List Value).toArray s 0 0 (zA w)) (F0 m 30 ls []) := by
    intro x_4 K116 zK116 n
    induction n with
    | zero => intro x_2 x_3 x_5 M H locs ls hW hl h; exact h.elim
    | succ n zJ =>
      intro x_2 x_3 x_5 M H locs ls hW hl h
      have h : wpB_Main_best_30 a1 x_4 K116 post (zlp3 (wpB_Main_best_30 a1 x_4 K116 post) n) x_2 x_3 x_5 M := h
      unfold wpB_Main_best_30 at h
      refine lv_iload hx hb dX10_best_30 (lv_at hl 5 rfl) ?_
      refine lv_iload hx hb dX10_best_32 (lv_at hl 4 rfl) ?_
      refine lv_icmp_ge (tgt := 116) hx hb dX10_best_34 rfl (fun c => ?_) (fun c => ?_)
      · replace h := h.1 c
        exact zK116 x_2 x_3 M H locs ls hW (lv_sub hl [0, 1, 2, 3] rfl) h
      · replace h := h.2 c
        refine lv_aload_n hx hb dX10_best_37 rfl (lv_at hl 0 rfl) ?_
        refine lv_iload hx hb dX10_best_38 (lv_at hl 5 rfl) ?_
        refine zcallv (zrunV (As := [.int x_5]) (rest := []) X hml hl hW h0.1 rfl zk_Main_300 (c_Main_findOrder h0 h) rfl ⟨Nat.le_of_ble_eq_true rfl, Nat.le_of_ble_eq_true rfl⟩ ⟨Nat.le_refl 0, Nat.le_refl 0⟩ rfl (Nat.le_of_ble_eq_true rfl) dX10_best_40) hW (fun zm3 H locs h hW => ?_)
        refine lv_aload_n hx hb dX10_best_43 rfl (lv_at hl 0 rfl) ?_
        refine zg_Main_orders X hW h0 zu_477 dX10_best_44 ?_
        refine zg_Orders_tops X hW h0.2.2.2.2.2.2.2.2.2.2.2.2.1 zu_336 dX10_best_47 ?_
        refine lv_iload hx hb dX10_best_50 (lv_at hl 5 rfl) ?_
        obtain ⟨g, h⟩ := h
        refine ziald X hW h0.2.2.2.2.2.2.2.2.2.2.2.2.1.2.1 g dX10_best_52 ?_
        refine lv_if_ne (tgt := 59) hx hb dX10_best_53 rfl (fun c => ?_) (fun c => ?_)
        · replace h := h.1 c
          exact zJ_59 x_2 x_3 x_4 x_5 _ zK116 _ zJ zm3 H locs ls hW (lv_sub hl [0, 1, 2, 3, 4, 5] rfl) h
        · replace h := h.2 c
          obtain ⟨zx9, ezx9⟩ : ∃ y : Int32, y = x_3 + 1 := ⟨_, rfl⟩
          replace h := h zx9 ezx9
          refine lv_iinc (v := zx9) (lv' := [(3, .int zx9), (0, .ref (zad w 0)), (1, .int a1), (2, .int x_2), (4, .int x_4), (5, .int x_5)]) hx hb dX10_best_56 hl (k := 3) rfl (by rw [ezx9, zc_i1]) (Nat.le_of_ble_eq_true rfl) rfl (fun ls hl => ?_)
          exact zJ_59 x_2 zx9 x_4 x_5 _ zK116 _ zJ zm3 H locs ls hW (lv_sub hl [1, 2, 3, 0, 4, 5] rfl) h
  unfold wp_Main_best at h
  have zMain : ∀ (H : Heap) (locs : List Loc) (ls : Array Slot), zWo w s.heap M H locs → lv_has ls 6 [(0, .ref (zad w 0)), (1, .int a1)] → W p l e (zRm 6 140) s m ([.ref (zad w 0), .int a1] : List Value).toArray below meth c H locs 0 0 (MQ below (va_Qi post (zB w) (zA w)) ([.ref (zad w 0), .int a1] : List Value).toArray s 0 0 (zA w)) (F0 m 0 ls []) := by
    intro H locs ls hW hl
    refine lv_iload_n hx hb dX10_best_0 rfl (lv_at hl 1 rfl) ?_
    refine lv_if_lt (tgt := 9) hx hb dX10_best_1 rfl (fun c => ?_) (fun c => ?_)
    · replace h := h.1 c
      refine lv_iconst hx hb dX10_best_9 zc_im1 ?_
      exact zreti X hr hlk hW h dX10_best_10
    · replace h := h.2 c
      refine lv_iload_n hx hb dX10_best_4 rfl (lv_at hl 1 rfl) ?_
      refine lv_iconst hx hb dX10_best_5 zc_i3 ?_
      refine lv_icmp_le (tgt := 11) hx hb dX10_best_6 rfl (fun c => ?_) (fun c => ?_)
      · replace h := h.1 c
        refine lv_iconst hx hb dX10_best_11 zc_i0 ?_
        refine lv_istore_n (lv' := [(2, .int 0), (0, .ref (zad w 0)), (1, .int a1)]) hx hb dX10_best_12 rfl hl (Nat.le_of_ble_eq_true rfl) rfl (fun ls hl => ?_)
        refine lv_iconst hx hb dX10_best_13 zc_i0 ?_
        refine lv_istore_n (lv' := [(3, .int 0), (2, .int 0), (0, .ref (zad w 0)), (1, .int a1)]) hx hb dX10_best_14 rfl hl (Nat.le_of_ble_eq_true rfl) rfl (fun ls hl => ?_)
        refine lv_aload_n hx hb dX10_best_15 rfl (lv_at hl 2 rfl) ?_
        refine zg_Main_told X hW h0 zu_467 dX10_best_16 ?_
        refine zg_Told_hands X hW h0.2.2.2.2.1 zu_41 dX10_best_19 ?_
        refine zcalli (zrunS (As := [.int (M 1 1)]) (rest := []) X hml hl hW zk_Main_309 (c_Main_numberOfOrders  h) rfl ⟨Nat.le_of_ble_eq_true rfl, Nat.le_of_ble_eq_true rfl⟩ ⟨Nat.le_refl 0, Nat.le_refl 0⟩ rfl (Nat.le_of_ble_eq_true rfl) dX10_best_22) hW (fun zr2 zm1 H locs h hW => ?_)
        refine lv_istore (lv' := [(4, .int zr2), (3, .int 0), (2, .int 0), (0, .ref (zad w 0)), (1, .int a1)]) hx hb dX10_best_25 hl (Nat.le_of_ble_eq_true rfl) rfl (fun ls hl => ?_)
        refine lv_iconst hx hb dX10_best_27 zc_i0 ?_
        refine lv_istore (lv' := [(5, .int 0), (4, .int zr2), (3, .int 0), (2, .int 0), (0, .ref (zad w 0)), (1, .int a1)]) hx hb dX10_best_28 hl (Nat.le_of_ble_eq_true rfl) rfl (fun ls hl => ?_)
        obtain ⟨n, h⟩ := h
        refine zL_30 zr2 _ (fun zx11 zx12 zm10 H locs ls hW hl h => ?_) n 0 0 0 zm1 H locs ls hW (lv_sub hl [4, 5, 3, 2, 1, 0] rfl) h
        · skip
          refine lv_iload_n hx hb dX10_best_116 rfl (lv_at hl 1 rfl) ?_
          refine lv_topi (fun zx13 ezx13 => ?_)
          replace h := h zx13 ezx13
          by_cases c0 : zx13 = 0
          · replace h := h.1 c0
            refine lv_tableIn (off := 27) (tgt := 144) hx hb dX10_best_117 (by rw [c0]; decide) (by rw [c0]; decide) (by rw [c0]; rfl) rfl ?_
            refine lv_iload_n hx hb dX10_best_144 rfl (lv_at hl 2 rfl) ?_
            exact zreti X hr hlk hW h dX10_best_145
          replace h := h.2
          by_cases c1 : zx13 = 1
          · replace h := h.1 c1
            refine lv_tableIn (off := 29) (tgt := 146) hx hb dX10_best_117 (by rw [c1]; decide) (by rw [c1]; decide) (by rw [c1]; rfl) rfl ?_
            refine lv_aload_n hx hb dX10_best_146 rfl (lv_at hl 0 rfl) ?_
            refine zg_Main_orders X hW h0 zu_477 dX10_best_147 ?_
            refine zg_Orders_tops X hW h0.2.2.2.2.2.2.2.2.2.2.2.2.1 zu_336 dX10_best_150 ?_
            refine lv_iload_n hx hb dX10_best_153 rfl (lv_at hl 2 rfl) ?_
            obtain ⟨g, h⟩ := h
            refine ziald X hW h0.2.2.2.2.2.2.2.2.2.2.2.2.1.2.1 g dX10_best_154 ?_
            exact zreti X hr hlk hW h dX10_best_155
          replace h := h.2
          by_cases c2 : zx13 = 2
          · replace h := h.1 c2
            refine lv_tableIn (off := 39) (tgt := 156) hx hb dX10_best_117 (by rw [c2]; decide) (by rw [c2]; decide) (by rw [c2]; rfl) rfl ?_
            refine lv_aload_n hx hb dX10_best_156 rfl (lv_at hl 0 rfl) ?_
            refine zg_Main_orders X hW h0 zu_477 dX10_best_157 ?_
            refine zg_Orders_bottoms X hW h0.2.2.2.2.2.2.2.2.2.2.2.2.1 zu_338 dX10_best_160 ?_
            refine lv_iload_n hx hb dX10_best_163 rfl (lv_at hl 2 rfl) ?_
            obtain ⟨g, h⟩ := h
            refine ziald X hW h0.2.2.2.2.2.2.2.2.2.2.2.2.1.2.2.1 g dX10_best_164 ?_
            exact zreti X hr hlk hW h dX10_best_165
          replace h := h.2
          replace h := h c0 c1 c2
          refine lv_tableOut (tgt := 166) hx hb dX10_best_117 (zsw 2 (Nat.le_of_ble_eq_true rfl) (fun j hj => ?_)) rfl ?_
          · rcases (show j = 0 ∨ j = 1 ∨ j = 2 by omega) with rfl | rfl | rfl
            · exact c0
            · exact c1
            · exact c2
          refine lv_iload_n hx hb dX10_best_166 rfl (lv_at hl 3 rfl) ?_
          exact zreti X hr hlk hW h dX10_best_167
      · replace h := h.2 c
        refine lv_iconst hx hb dX10_best_9 zc_im1 ?_
        exact zreti X hr hlk hW h dX10_best_10
  exact zMain s.heap [] ls hW hl
def wp_Main_stands (a1 : Int32) (a2 : Int32) (M : zMem) (Q : Int32 → zMem → Prop) : Prop :=
  wp_Main_isOrder a1 M (fun zr2 zm1 => (zr2 = 0 → Q ((-1)) zm1) ∧ (¬ zr2 = 0 → wp_Main_isHand a2 zm1 (fun zr4 zm3 => (¬ zr4 = 0 → wp_Orders_standAs 56 a1 (zm3 1 1) zm3 (fun zm5 => vp_in a2 5 ∧ Q (zm5 59 (ix a2)) zm5)) ∧ (zr4 = 0 → Q ((-1)) zm3))))
set_option maxHeartbeats 4000000 in
set_option maxRecDepth 20000 in
theorem c_Main_stands {l : Launch} {w : zWd} {a1 : Int32} {a2 : Int32} {M : zMem} {post : Int32 → zMem → Prop} (h0 : zI_Main w) (h : wp_Main_stands a1 a2 M post) : zMi l ⟨"HandToHand", "stands", "(II)I"⟩ prog_1_method_29_code 3 (Option.some .int) 2 53 w [.ref (zad w 0), .int a1, .int a2] M post := by
  refine zMet (by decide) (Nat.le_of_ble_eq_true rfl) ?_
  intro p e s m below meth c X hr hlk hml hW ls hl
  have hx := X.1
  have hb := X.2.1
  have hl : lv_has ls 3 [(0, .ref (zad w 0)), (1, .int a1), (2, .int a2)] := hl
  unfold wp_Main_stands at h
  have zMain : ∀ (H : Heap) (locs : List Loc) (ls : Array Slot), zWo w s.heap M H locs → lv_has ls 3 [(0, .ref (zad w 0)), (1, .int a1), (2, .int a2)] → W p l e (zRm 2 53) s m ([.ref (zad w 0), .int a1, .int a2] : List Value).toArray below meth c H locs 0 0 (MQ below (va_Qi post (zB w) (zA w)) ([.ref (zad w 0), .int a1, .int a2] : List Value).toArray s 0 0 (zA w)) (F0 m 0 ls []) := by
    intro H locs ls hW hl
    refine lv_aload_n hx hb dX10_stands_0 rfl (lv_at hl 0 rfl) ?_
    refine lv_iload_n hx hb dX10_stands_1 rfl (lv_at hl 1 rfl) ?_
    refine zcalli (zrunV (As := [.int a1]) (rest := []) X hml hl hW h0.1 rfl zk_Main_297 (c_Main_isOrder h0 h) rfl ⟨Nat.le_of_ble_eq_true rfl, Nat.le_of_ble_eq_true rfl⟩ ⟨Nat.le_refl 0, Nat.le_refl 0⟩ rfl (Nat.le_of_ble_eq_true rfl) dX10_stands_2) hW (fun zr2 zm1 H locs h hW => ?_)
    refine lv_if_eq (tgt := 16) hx hb dX10_stands_5 rfl (fun c => ?_) (fun c => ?_)
    · replace h := h.1 c
      refine lv_iconst hx hb dX10_stands_16 zc_im1 ?_
      exact zreti X hr hlk hW h dX10_stands_17
    · replace h := h.2 c
      refine lv_aload_n hx hb dX10_stands_8 rfl (lv_at hl 0 rfl) ?_
      refine lv_iload_n hx hb dX10_stands_9 rfl (lv_at hl 2 rfl) ?_
      refine zcalli (zrunV (As := [.int a2]) (rest := []) X hml hl hW h0.1 rfl zk_Main_165 (c_Main_isHand h0 h) rfl ⟨Nat.le_of_ble_eq_true rfl, Nat.le_of_ble_eq_true rfl⟩ ⟨Nat.le_refl 0, Nat.le_refl 0⟩ rfl (Nat.le_of_ble_eq_true rfl) dX10_stands_10) hW (fun zr4 zm3 H locs h hW => ?_)
      refine lv_if_ne (tgt := 18) hx hb dX10_stands_13 rfl (fun c => ?_) (fun c => ?_)
      · replace h := h.1 c
        refine lv_aload_n hx hb dX10_stands_18 rfl (lv_at hl 0 rfl) ?_
        refine zg_Main_orders X hW h0 zu_477 dX10_stands_19 ?_
        refine lv_iload_n hx hb dX10_stands_22 rfl (lv_at hl 1 rfl) ?_
        refine lv_aload_n hx hb dX10_stands_23 rfl (lv_at hl 0 rfl) ?_
        refine zg_Main_told X hW h0 zu_467 dX10_stands_24 ?_
        refine zg_Told_hands X hW h0.2.2.2.2.1 zu_41 dX10_stands_27 ?_
        refine zcallv (zrunV (As := [.int a1, .int (zm3 1 1)]) (rest := []) X hml hl hW h0.2.2.2.2.2.2.2.2.2.2.2.2.1.1 rfl zk_Main_317 (c_Orders_standAs h0.2.2.2.2.2.2.2.2.2.2.2.2.1 h) rfl ⟨Nat.le_of_ble_eq_true rfl, Nat.le_of_ble_eq_true rfl⟩ ⟨Nat.le_refl 0, Nat.le_refl 0⟩ rfl (Nat.le_of_ble_eq_true rfl) dX10_stands_30) hW (fun zm5 H locs h hW => ?_)
        refine lv_aload_n hx hb dX10_stands_33 rfl (lv_at hl 0 rfl) ?_
        refine zg_Main_orders X hW h0 zu_477 dX10_stands_34 ?_
        refine zg_Orders_standing X hW h0.2.2.2.2.2.2.2.2.2.2.2.2.1 zu_340 dX10_stands_37 ?_
        refine lv_iload_n hx hb dX10_stands_40 rfl (lv_at hl 2 rfl) ?_
        obtain ⟨g, h⟩ := h
        refine ziald X hW h0.2.2.2.2.2.2.2.2.2.2.2.2.1.2.2.2 g dX10_stands_41 ?_
        exact zreti X hr hlk hW h dX10_stands_42
      · replace h := h.2 c
        refine lv_iconst hx hb dX10_stands_16 zc_im1 ?_
        exact zreti X hr hlk hW h dX10_stands_17
  exact zMain s.heap [] ls hW hl
